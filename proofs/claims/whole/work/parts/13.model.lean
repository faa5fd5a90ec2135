/-! ===== X10_in ===== -/
def fX10_in (a0 : Int32) (a1 : Int32) (a2 : Int32) : Option Int32 :=
  if a0 < a1 then
    some 0
  else
    if a2 < a0 then
      some 0
    else
      some 1
set_option maxHeartbeats 4000000 in
set_option maxRecDepth 100000 in
theorem kX10_in (l : Launch) (D : va_G) (ad : Nat → Nat) (cs : Nat → ClassId) (A : Nat → Prop)  (M : Mem) (a0 : Int32) (a1 : Int32) (a2 : Int32) (z : Int32) (hz : fX10_in a0 a1 a2 = some z) : Met l yX10_in (wsU yX10_in cX10_in 3 (some .boolean)) (rmo 1 64) (va_Pc [.int a0, .int a1, .int a2] (Wd0 D ad cs GM A M)) (va_Qi (fun r u => (r, u) = (z, M)) (Wd0 D ad cs GM A) A) 0 0 A := by
  refine ct_z0 (by decide) rfl okGM (Nat.le_of_ble_eq_true rfl) ?_
  intro p e s m args below meth c Q ls F X hl RT
  have hx := F.1
  have hb := F.2.1
  have hl : lv_has ls 3 [(0, .int a0), (1, .int a1), (2, .int a2)] := hl
  obtain ⟨H, hH⟩ : ∃ H, H = s.heap := ⟨_, rfl⟩
  rw [← hH] at X ⊢
  obtain ⟨locs, hlocs⟩ : ∃ locs : List Loc, locs = [] := ⟨_, rfl⟩
  rw [← hlocs] at X ⊢
  clear hH hlocs
  have h := hz
  unfold fX10_in at h
  refine lv_iload_n hx hb dX10_in_0 rfl (lv_at hl 0 rfl) ?_
  refine lv_iload_n hx hb dX10_in_1 rfl (lv_at hl 1 rfl) ?_
  refine lv_icmp_lt (tgt := 14) hx hb dX10_in_2 (by decide) (fun c1 => ?_) (fun c1 => ?_)
  · have h := it_p h c1
    refine lv_iconst (v := 0) hx hb dX10_in_14 (by decide) ?_
    have h := sm_x h
    exact RT H locs _ 15 ls X h (by decide) dX10_in_15
  · have h := it_n h c1
    refine lv_iload_n hx hb dX10_in_5 rfl (lv_at hl 0 rfl) ?_
    refine lv_iload_n hx hb dX10_in_6 rfl (lv_at hl 2 rfl) ?_
    refine lv_icmp_gt (tgt := 14) hx hb dX10_in_7 (by decide) (fun c2 => ?_) (fun c2 => ?_)
    · have h := it_p h c2
      refine lv_iconst (v := 0) hx hb dX10_in_14 (by decide) ?_
      have h := sm_x h
      exact RT H locs _ 15 ls X h (by decide) dX10_in_15
    · have h := it_n h c2
      refine lv_iconst (v := 1) hx hb dX10_in_10 (by decide) ?_
      refine lv_goto (tgt := 15) hx hb dX10_in_11 (by decide) ?_
      have h := sm_x h
      exact RT H locs _ 15 ls X h (by decide) dX10_in_15

/-! ===== X10_isIn ===== -/
def fX10_isIn (a0 : Int32) (a1 : Int32) : Option Int32 :=
  if ((a0 >>> (a1 &&& 31)) &&& (1 : Int32)) = 1 then
    some 1
  else
    some 0
set_option maxHeartbeats 4000000 in
set_option maxRecDepth 100000 in
theorem kX10_isIn (l : Launch) (D : va_G) (ad : Nat → Nat) (cs : Nat → ClassId) (A : Nat → Prop)  (M : Mem) (a0 : Int32) (a1 : Int32) (z : Int32) (hz : fX10_isIn a0 a1 = some z) : Met l yX10_isIn (wsU yX10_isIn cX10_isIn 2 (some .boolean)) (rmo 1 64) (va_Pc [.int a0, .int a1] (Wd0 D ad cs GM A M)) (va_Qi (fun r u => (r, u) = (z, M)) (Wd0 D ad cs GM A) A) 0 0 A := by
  refine ct_z0 (by decide) rfl okGM (Nat.le_of_ble_eq_true rfl) ?_
  intro p e s m args below meth c Q ls F X hl RT
  have hx := F.1
  have hb := F.2.1
  have hl : lv_has ls 2 [(0, .int a0), (1, .int a1)] := hl
  obtain ⟨H, hH⟩ : ∃ H, H = s.heap := ⟨_, rfl⟩
  rw [← hH] at X ⊢
  obtain ⟨locs, hlocs⟩ : ∃ locs : List Loc, locs = [] := ⟨_, rfl⟩
  rw [← hlocs] at X ⊢
  clear hH hlocs
  have h := hz
  unfold fX10_isIn at h
  refine lv_iload_n hx hb dX10_isIn_0 rfl (lv_at hl 0 rfl) ?_
  refine lv_iload_n hx hb dX10_isIn_1 rfl (lv_at hl 1 rfl) ?_
  refine lv_ishr hx hb dX10_isIn_2 ?_
  refine lv_iconst (v := 1) hx hb dX10_isIn_3 (by decide) ?_
  refine lv_iand hx hb dX10_isIn_4 ?_
  refine lv_iconst (v := 1) hx hb dX10_isIn_5 (by decide) ?_
  refine lv_icmp_ne (tgt := 13) hx hb dX10_isIn_6 (by decide) (fun c1 => ?_) (fun c1 => ?_)
  · have h := it_n h c1
    refine lv_iconst (v := 0) hx hb dX10_isIn_13 (by decide) ?_
    have h := sm_x h
    exact RT H locs _ 14 ls X h (by decide) dX10_isIn_14
  · have h := it_p h c1
    refine lv_iconst (v := 1) hx hb dX10_isIn_9 (by decide) ?_
    refine lv_goto (tgt := 14) hx hb dX10_isIn_10 (by decide) ?_
    have h := sm_x h
    exact RT H locs _ 14 ls X h (by decide) dX10_isIn_14

/-! ===== X10_no ===== -/
def fX10_no (a0 : Int32) : Option Int64 :=
  some ((-9223372036854775808 : Int64) - (Int32.toInt64 a0))
set_option maxHeartbeats 4000000 in
set_option maxRecDepth 100000 in
theorem kX10_no (l : Launch) (D : va_G) (ad : Nat → Nat) (cs : Nat → ClassId) (A : Nat → Prop)  (M : Mem) (a0 : Int32) (z : Int64) (hz : fX10_no a0 = some z) : Met l yX10_no (wsU yX10_no cX10_no 1 (some .long)) (rmo 1 64) (va_Pc [.int a0] (Wd0 D ad cs GM A M)) (va_Ql (fun r u => (r, u) = (z, M)) (Wd0 D ad cs GM A) A) 0 0 A := by
  refine ct_l0 (by decide) rfl okGM (Nat.le_of_ble_eq_true rfl) ?_
  intro p e s m args below meth c Q ls F X hl RT
  have hx := F.1
  have hb := F.2.1
  have hl : lv_has ls 1 [(0, .int a0)] := hl
  obtain ⟨H, hH⟩ : ∃ H, H = s.heap := ⟨_, rfl⟩
  rw [← hH] at X ⊢
  obtain ⟨locs, hlocs⟩ : ∃ locs : List Loc, locs = [] := ⟨_, rfl⟩
  rw [← hlocs] at X ⊢
  clear hH hlocs
  have h := hz
  unfold fX10_no at h
  refine lv_ldc2 (v := (-9223372036854775808)) hx hb F.2.2.2.1 (F.2.2.2.2 _ (mT6 1 rfl rfl)) dX10_no_0 ?_
  refine lv_iload_n hx hb dX10_no_3 rfl (lv_at hl 0 rfl) ?_
  refine lv_i2l (v := Int32.toInt64 a0) hx hb dX10_no_4 rfl ?_
  refine lv_lsub hx hb dX10_no_5 ?_
  have h := sm_x h
  exact RT H locs _ 6 ls X h dX10_no_6

/-! ===== X10_lowest ===== -/
def fX10_lowest_31 (a0 : Int64) (a2 : Int64) (a4 : Int32) (x5 : Int64) : Option Int64 :=
  if a4 = 0 then
    gd (¬ x5 = 0) <|
    some (a0 / x5)
  else
    gd (¬ x5 = 0) <|
    some (a2 / x5)
def fX10_lowest_6 (a0 : Int64) (a2 : Int64) (a4 : Int32) (x5 : Int64) (x7 : Int64) : Option ((Int64 × Int64) ⊕ Int64) :=
  if (lg_cmp x7 0) = 0 then
    inr' (fX10_lowest_31 a0 a2 a4 x5)
  else
    gd (¬ x7 = 0) <|
    nm (x5 - x5 / x7 * x7 : Int64) fun u3 =>
    nm (x7 : Int64) fun u4 =>
    nm (u3 : Int64) fun u5 =>
    some (.inl (u4, u5))
def fX10_lowest (a0 : Int64) (a2 : Int64) (a4 : Int32) : Option Int64 :=
  nm (a0 : Int64) fun u6 =>
  nm (a2 : Int64) fun u7 =>
  lpO (fun st => fX10_lowest_6 a0 a2 a4 st.1 st.2) FU (u6, u7)
set_option maxHeartbeats 4000000 in
set_option maxRecDepth 100000 in
theorem kX10_lowest (l : Launch) (D : va_G) (ad : Nat → Nat) (cs : Nat → ClassId) (A : Nat → Prop)  (M : Mem) (a0 : Int64) (a2 : Int64) (a4 : Int32) (z : Int64) (hz : fX10_lowest a0 a2 a4 = some z) : Met l yX10_lowest (wsU yX10_lowest cX10_lowest 11 (some .long)) (rmo 1 64) (va_Pc [.long a0, .long a2, .int a4] (Wd0 D ad cs GM A M)) (va_Ql (fun r u => (r, u) = (z, M)) (Wd0 D ad cs GM A) A) 0 0 A := by
  refine ct_l0 (by decide) rfl okGM (Nat.le_of_ble_eq_true rfl) ?_
  intro p e s m args below meth c Q ls F X hl RT
  have hx := F.1
  have hb := F.2.1
  have hl : lv_has ls 11 [(0, .long a0), (2, .long a2), (4, .int a4)] := hl
  obtain ⟨H, hH⟩ : ∃ H, H = s.heap := ⟨_, rfl⟩
  rw [← hH] at X ⊢
  obtain ⟨locs, hlocs⟩ : ∃ locs : List Loc, locs = [] := ⟨_, rfl⟩
  rw [← hlocs] at X ⊢
  clear hH hlocs
  have J31 : ∀ (H : Heap) (locs : List Loc) (x5 : Int64) (ls : Array Slot), Wd D ad cs GM A s H locs M → lv_has ls 11 [(0, .long a0), (2, .long a2), (4, .int a4), (5, .long x5)] → ∀ (_ : Unit), fX10_lowest_31 a0 a2 a4 x5 = some z → W p l e (rmo 1 64) s m args below meth c H locs 0 0 Q (F0 m 31 ls []) := by
    intro H locs x5 ls X hl  _u h
    unfold fX10_lowest_31 at h
    refine lv_iload hx hb dX10_lowest_31 (lv_at hl 2 rfl) ?_
    refine lv_if_ne (tgt := 43) hx hb dX10_lowest_33 (by decide) (fun c1 => ?_) (fun c1 => ?_)
    · have h := it_n h c1
      refine lv_lload_n hx hb dX10_lowest_43 rfl (lv_at hl 1 rfl) ?_
      refine lv_lload hx hb dX10_lowest_44 (lv_at hl 3 rfl) ?_
      obtain ⟨hn, h⟩ := gd_x h
      refine lv_ldiv hx hb dX10_lowest_46 hn ?_
      have h := sm_x h
      exact RT H locs _ 47 ls X h dX10_lowest_47
    · have h := it_p h c1
      refine lv_lload_n hx hb dX10_lowest_36 rfl (lv_at hl 0 rfl) ?_
      refine lv_lload hx hb dX10_lowest_37 (lv_at hl 3 rfl) ?_
      obtain ⟨hn, h⟩ := gd_x h
      refine lv_ldiv hx hb dX10_lowest_39 hn ?_
      refine lv_goto (tgt := 47) hx hb dX10_lowest_40 (by decide) ?_
      have h := sm_x h
      exact RT H locs _ 47 ls X h dX10_lowest_47
  have L6 : ∀ (n : Nat) (H : Heap) (locs : List Loc) (x5 : Int64) (x7 : Int64) (ls : Array Slot), Wd D ad cs GM A s H locs M → lv_has ls 11 [(0, .long a0), (2, .long a2), (4, .int a4), (5, .long x5), (7, .long x7)] → ∀ (_ : Unit), lpO (fun st => fX10_lowest_6 a0 a2 a4 st.1 st.2) n (x5, x7) = some z → W p l e (rmo 1 64) s m args below meth c H locs 0 0 Q (F0 m 6 ls []) := by
    intro n
    induction n with
    | zero =>
      intro H locs x5 x7 ls X hl  yy h
      exact lp_0 h
    | succ n1 ih6 =>
      intro H locs x5 x7 ls X hl  _u h
      obtain ⟨y1, h, hk1⟩ := lp_x h
      unfold fX10_lowest_6 at h
      refine lv_lload hx hb dX10_lowest_6 (lv_at hl 4 rfl) ?_
      refine lv_lconst (v := 0) hx hb dX10_lowest_8 (by decide) ?_
      refine W.lcmp hx hb dX10_lowest_9 ?_
      refine lv_if_eq (tgt := 31) hx hb dX10_lowest_10 (by decide) (fun c2 => ?_) (fun c2 => ?_)
      · have h := it_p h c2
        obtain ⟨_, h, ey⟩ := inr_x h
        rw [ey] at hk1
        have h := h.trans (congrArg some (sm_x hk1))
        exact J31 _ _ x5 ls X (lv_sub hl [0, 1, 2, 3] rfl)  () h
      · have h := it_n h c2
        refine lv_lload hx hb dX10_lowest_13 (lv_at hl 3 rfl) ?_
        refine lv_lload hx hb dX10_lowest_15 (lv_at hl 4 rfl) ?_
        obtain ⟨hn, h⟩ := gd_x h
        refine lv_lrem hx hb dX10_lowest_17 hn ?_
        obtain ⟨u3, eu3, h⟩ := nm_x h
        refine topL eu3 ?_
        refine lv_lstore (lv' := [(9, .long u3), (0, .long a0), (2, .long a2), (4, .int a4), (5, .long x5), (7, .long x7)]) hx hb dX10_lowest_18 hl (by decide) rfl (fun ls hl => ?_)
        refine lv_lload hx hb dX10_lowest_20 (lv_at hl 5 rfl) ?_
        obtain ⟨u4, eu4, h⟩ := nm_x h
        refine topL eu4 ?_
        refine lv_lstore (lv' := [(5, .long u4), (9, .long u3), (0, .long a0), (2, .long a2), (4, .int a4), (7, .long x7)]) hx hb dX10_lowest_22 hl (by decide) rfl (fun ls hl => ?_)
        refine lv_lload hx hb dX10_lowest_24 (lv_at hl 1 rfl) ?_
        obtain ⟨u5, eu5, h⟩ := nm_x h
        refine topL eu5 ?_
        refine lv_lstore (lv' := [(7, .long u5), (5, .long u4), (9, .long u3), (0, .long a0), (2, .long a2), (4, .int a4)]) hx hb dX10_lowest_26 hl (by decide) rfl (fun ls hl => ?_)
        refine lv_goto (tgt := 6) hx hb dX10_lowest_28 (by decide) ?_
        rw [← sm_x h] at hk1
        exact ih6 _ _ u4 u5 ls X (lv_sub hl [3, 4, 5, 1, 0] rfl)  () hk1
  have h := hz
  unfold fX10_lowest at h
  refine lv_lload_n hx hb dX10_lowest_0 rfl (lv_at hl 0 rfl) ?_
  obtain ⟨u6, eu6, h⟩ := nm_x h
  refine topL eu6 ?_
  refine lv_lstore (lv' := [(5, .long u6), (0, .long a0), (2, .long a2), (4, .int a4)]) hx hb dX10_lowest_1 hl (by decide) rfl (fun ls hl => ?_)
  refine lv_lload_n hx hb dX10_lowest_3 rfl (lv_at hl 2 rfl) ?_
  obtain ⟨u7, eu7, h⟩ := nm_x h
  refine topL eu7 ?_
  refine lv_lstore (lv' := [(7, .long u7), (5, .long u6), (0, .long a0), (2, .long a2), (4, .int a4)]) hx hb dX10_lowest_4 hl (by decide) rfl (fun ls hl => ?_)
  exact L6 FU _ _ u6 u7 ls X (lv_sub hl [2, 3, 4, 1, 0] rfl)  () h

/-! ===== X10_isText ===== -/
def fX10_isText (a0 : Int32) : Option Int32 :=
  (fX10_in a0 0 1).bind fun r1 =>
  gd (r1 = 0 ∨ r1 = 1) <|
  some r1
set_option maxHeartbeats 4000000 in
set_option maxRecDepth 100000 in
theorem kX10_isText (l : Launch) (D : va_G) (ad : Nat → Nat) (cs : Nat → ClassId) (A : Nat → Prop)  (M : Mem) (a0 : Int32) (z : Int32) (hz : fX10_isText a0 = some z) : Met l yX10_isText (wsU yX10_isText cX10_isText 1 (some .boolean)) (rmo 2 86) (va_Pc [.int a0] (Wd0 D ad cs GM A M)) (va_Qi (fun r u => (r, u) = (z, M)) (Wd0 D ad cs GM A) A) 0 0 A := by
  refine ct_z0 (by decide) rfl okGM (Nat.le_of_ble_eq_true rfl) ?_
  intro p e s m args below meth c Q ls F X hl RT
  have hx := F.1
  have hb := F.2.1
  have hl : lv_has ls 1 [(0, .int a0)] := hl
  obtain ⟨H, hH⟩ : ∃ H, H = s.heap := ⟨_, rfl⟩
  rw [← hH] at X ⊢
  obtain ⟨locs, hlocs⟩ : ∃ locs : List Loc, locs = [] := ⟨_, rfl⟩
  rw [← hlocs] at X ⊢
  clear hH hlocs
  have h := hz
  unfold fX10_isText at h
  refine lv_iload_n hx hb dX10_isText_0 rfl (lv_at hl 0 rfl) ?_
  refine lv_iconst (v := 0) hx hb dX10_isText_1 (by decide) ?_
  refine lv_iconst (v := 1) hx hb dX10_isText_2 (by decide) ?_
  obtain ⟨r1, hr1, h⟩ := bd_x h
  refine r_calli0 X (r_runS F X (kX10_in l D ad cs A  M a0 0 1 _ hr1) gm_X10_97 hd_X10_in ⟨Nat.le_of_ble_eq_true rfl, Nat.le_of_ble_eq_true rfl⟩ rfl hl.1 rfl (Nat.le_of_ble_eq_true rfl) dX10_isText_3) (fun H locs X => ?_)
  obtain ⟨h01, h⟩ := gd_x h
  have h := sm_x h
  exact RT H locs _ 6 ls X h h01 dX10_isText_6

/-! ===== X10_isStop ===== -/
def fX10_isStop (a0 : Int32) : Option Int32 :=
  (fX10_in a0 0 19).bind fun r1 =>
  gd (r1 = 0 ∨ r1 = 1) <|
  some r1
set_option maxHeartbeats 4000000 in
set_option maxRecDepth 100000 in
theorem kX10_isStop (l : Launch) (D : va_G) (ad : Nat → Nat) (cs : Nat → ClassId) (A : Nat → Prop)  (M : Mem) (a0 : Int32) (z : Int32) (hz : fX10_isStop a0 = some z) : Met l yX10_isStop (wsU yX10_isStop cX10_isStop 1 (some .boolean)) (rmo 2 86) (va_Pc [.int a0] (Wd0 D ad cs GM A M)) (va_Qi (fun r u => (r, u) = (z, M)) (Wd0 D ad cs GM A) A) 0 0 A := by
  refine ct_z0 (by decide) rfl okGM (Nat.le_of_ble_eq_true rfl) ?_
  intro p e s m args below meth c Q ls F X hl RT
  have hx := F.1
  have hb := F.2.1
  have hl : lv_has ls 1 [(0, .int a0)] := hl
  obtain ⟨H, hH⟩ : ∃ H, H = s.heap := ⟨_, rfl⟩
  rw [← hH] at X ⊢
  obtain ⟨locs, hlocs⟩ : ∃ locs : List Loc, locs = [] := ⟨_, rfl⟩
  rw [← hlocs] at X ⊢
  clear hH hlocs
  have h := hz
  unfold fX10_isStop at h
  refine lv_iload_n hx hb dX10_isStop_0 rfl (lv_at hl 0 rfl) ?_
  refine lv_iconst (v := 0) hx hb dX10_isStop_1 (by decide) ?_
  refine lv_bipush (v := 19) hx hb dX10_isStop_2 (by decide) ?_
  obtain ⟨r1, hr1, h⟩ := bd_x h
  refine r_calli0 X (r_runS F X (kX10_in l D ad cs A  M a0 0 19 _ hr1) gm_X10_97 hd_X10_in ⟨Nat.le_of_ble_eq_true rfl, Nat.le_of_ble_eq_true rfl⟩ rfl hl.1 rfl (Nat.le_of_ble_eq_true rfl) dX10_isStop_4) (fun H locs X => ?_)
  obtain ⟨h01, h⟩ := gd_x h
  have h := sm_x h
  exact RT H locs _ 7 ls X h h01 dX10_isStop_7

/-! ===== X10_type ===== -/
def fX10_type_38 (a1 : Int32) (a2 : Int32) (v0 : Int32) (v1 : Int32) (M : Mem) : Option (Int32 × Mem) :=
  if v1 = v0 then
    some ((-4), M)
  else
    gd (inB a1 2) <|
    gd (inB (((31 : Int32) * a1) + (M 0 0 (Int32.toNatClampNeg a1))) 62) <|
    nm (wr M 0 1 (Int32.toNatClampNeg (((31 : Int32) * a1) + (M 0 0 (Int32.toNatClampNeg a1)))) a2) fun M2 =>
    gd (inB a1 2) <|
    gd (inB a1 2) <|
    nm (wr M2 0 0 (Int32.toNatClampNeg a1) ((M2 0 0 (Int32.toNatClampNeg a1)) + (1 : Int32))) fun M3 =>
    gd (inB a1 2) <|
    some (M3 0 0 (Int32.toNatClampNeg a1), M3)
def fX10_type (M : Mem) (a1 : Int32) (a2 : Int32) : Option (Int32 × Mem) :=
  (fX10_isText a1).bind fun r4 =>
  (if r4 = 0 then
    some ((-2), M)
  else
    (fX10_in a2 0 255).bind fun r6 =>
    (if r6 = 0 then
      some ((-2), M)
    else
      gd (inB a1 2) <|
      (if a1 = 0 then
        fX10_type_38 a1 a2 31 (M 0 0 (Int32.toNatClampNeg a1)) M
      else
        fX10_type_38 a1 a2 20 (M 0 0 (Int32.toNatClampNeg a1)) M)))
set_option maxHeartbeats 4000000 in
set_option maxRecDepth 100000 in
theorem kX10_type (l : Launch) (D : va_G) (ad : Nat → Nat) (cs : Nat → ClassId) (A : Nat → Prop)  (M : Mem) (a1 : Int32) (a2 : Int32) (z : (Int32 × Mem)) (hz : fX10_type M a1 a2 = some z) : Met l yX10_type (wsU yX10_type cX10_type 3 (some .int)) (rmo 3 106) (va_Pc [.ref (ad (cO GM 0)), .int a1, .int a2] (Wd0 D ad cs GM A M)) (va_Qi (fun r u => (r, u) = z) (Wd0 D ad cs GM A) A) 0 0 A := by
  refine ct_i (by decide) rfl okGM (Nat.le_of_ble_eq_true rfl) ?_
  intro p e s m args below meth c Q ls F X hl RT
  have hx := F.1
  have hb := F.2.1
  have hl : lv_has ls 3 [(0, .ref (ad (cO GM 0))), (1, .int a1), (2, .int a2)] := hl
  obtain ⟨H, hH⟩ : ∃ H, H = s.heap := ⟨_, rfl⟩
  rw [← hH] at X ⊢
  obtain ⟨locs, hlocs⟩ : ∃ locs : List Loc, locs = [] := ⟨_, rfl⟩
  rw [← hlocs] at X ⊢
  clear hH hlocs
  have J38 : ∀ (H : Heap) (locs : List Loc) (v0 : Int32) (v1 : Int32) (M : Mem) (ls : Array Slot), Wd D ad cs GM A s H locs M → lv_has ls 3 [(0, .ref (ad (cO GM 0))), (1, .int a1), (2, .int a2)] → ∀ (_ : Unit), fX10_type_38 a1 a2 v0 v1 M = some z → W p l e (rmo 3 106) s m args below meth c H locs 0 0 Q (F0 m 38 ls [.int v0, .int v1]) := by
    intro H locs v0 v1 M ls X hl  _u h
    unfold fX10_type_38 at h
    refine lv_icmp_ne (tgt := 44) hx hb dX10_type_38 (by decide) (fun c1 => ?_) (fun c1 => ?_)
    · have h := it_n h c1
      refine lv_aload_n hx hb dX10_type_44 rfl (lv_at hl 0 rfl) ?_
      refine gf_X10_13 F X qM0 dX10_type_45 ?_
      refine lv_bipush (v := 31) hx hb dX10_type_48 (by decide) ?_
      refine lv_iload_n hx hb dX10_type_50 rfl (lv_at hl 1 rfl) ?_
      refine lv_imul hx hb dX10_type_51 ?_
      refine lv_aload_n hx hb dX10_type_52 rfl (lv_at hl 0 rfl) ?_
      refine gf_X10_7 F X qM0 dX10_type_53 ?_
      refine lv_iload_n hx hb dX10_type_56 rfl (lv_at hl 1 rfl) ?_
      obtain ⟨hin, h⟩ := gd_x h
      refine r_iald F X (ar_X10_0 qM0) hin dX10_type_57 ?_
      refine lv_iadd hx hb dX10_type_58 ?_
      refine lv_iload_n hx hb dX10_type_59 rfl (lv_at hl 2 rfl) ?_
      obtain ⟨hin, h⟩ := gd_x h
      obtain ⟨M2, eM2, h⟩ := nm_x h
      refine r_iast F X (ar_X10_1 qM0) hin dX10_type_60 (fun H locs X => ?_)
      have X := Wd_eq eM2 X
      refine lv_aload_n hx hb dX10_type_61 rfl (lv_at hl 0 rfl) ?_
      refine gf_X10_7 F X qM0 dX10_type_62 ?_
      refine lv_iload_n hx hb dX10_type_65 rfl (lv_at hl 1 rfl) ?_
      refine lv_dup2_11 hx hb dX10_type_66 rfl rfl ?_
      obtain ⟨hin, h⟩ := gd_x h
      refine r_iald F X (ar_X10_0 qM0) hin dX10_type_67 ?_
      refine lv_iconst (v := 1) hx hb dX10_type_68 (by decide) ?_
      refine lv_iadd hx hb dX10_type_69 ?_
      obtain ⟨hin, h⟩ := gd_x h
      obtain ⟨M3, eM3, h⟩ := nm_x h
      refine r_iast F X (ar_X10_0 qM0) hin dX10_type_70 (fun H locs X => ?_)
      have X := Wd_eq eM3 X
      refine lv_aload_n hx hb dX10_type_71 rfl (lv_at hl 0 rfl) ?_
      refine gf_X10_7 F X qM0 dX10_type_72 ?_
      refine lv_iload_n hx hb dX10_type_75 rfl (lv_at hl 1 rfl) ?_
      obtain ⟨hin, h⟩ := gd_x h
      refine r_iald F X (ar_X10_0 qM0) hin dX10_type_76 ?_
      have h := sm_x h
      exact RT H locs _ _ 77 ls X h dX10_type_77
    · have h := it_p h c1
      refine lv_bipush (v := (-4)) hx hb dX10_type_41 (by decide) ?_
      have h := sm_x h
      exact RT H locs _ _ 43 ls X h dX10_type_43
  have h := hz
  unfold fX10_type at h
  refine lv_iload_n hx hb dX10_type_0 rfl (lv_at hl 1 rfl) ?_
  obtain ⟨r4, hr4, h⟩ := bd_x h
  refine r_calli0 X (r_runS F X (kX10_isText l D ad cs A  M a1 _ hr4) gm_X10_101 hd_X10_isText ⟨Nat.le_of_ble_eq_true rfl, Nat.le_of_ble_eq_true rfl⟩ rfl hl.1 rfl (Nat.le_of_ble_eq_true rfl) dX10_type_1) (fun H locs X => ?_)
  refine lv_if_eq (tgt := 18) hx hb dX10_type_4 (by decide) (fun c5 => ?_) (fun c5 => ?_)
  · have h := it_p h c5
    refine lv_bipush (v := (-2)) hx hb dX10_type_18 (by decide) ?_
    have h := sm_x h
    exact RT H locs _ _ 20 ls X h dX10_type_20
  · have h := it_n h c5
    refine lv_iload_n hx hb dX10_type_7 rfl (lv_at hl 2 rfl) ?_
    refine lv_iconst (v := 0) hx hb dX10_type_8 (by decide) ?_
    refine lv_sipush (v := 255) hx hb dX10_type_9 (by decide) ?_
    obtain ⟨r6, hr6, h⟩ := bd_x h
    refine r_calli0 X (r_runS F X (kX10_in l D ad cs A  M a2 0 255 _ hr6) gm_X10_97 hd_X10_in ⟨Nat.le_of_ble_eq_true rfl, Nat.le_of_ble_eq_true rfl⟩ rfl hl.1 rfl (Nat.le_of_ble_eq_true rfl) dX10_type_12) (fun H locs X => ?_)
    refine lv_if_ne (tgt := 21) hx hb dX10_type_15 (by decide) (fun c7 => ?_) (fun c7 => ?_)
    · have h := it_n h c7
      refine lv_aload_n hx hb dX10_type_21 rfl (lv_at hl 0 rfl) ?_
      refine gf_X10_7 F X qM0 dX10_type_22 ?_
      refine lv_iload_n hx hb dX10_type_25 rfl (lv_at hl 1 rfl) ?_
      obtain ⟨hin, h⟩ := gd_x h
      refine r_iald F X (ar_X10_0 qM0) hin dX10_type_26 ?_
      refine lv_iload_n hx hb dX10_type_27 rfl (lv_at hl 1 rfl) ?_
      refine lv_if_ne (tgt := 36) hx hb dX10_type_28 (by decide) (fun c8 => ?_) (fun c8 => ?_)
      · have h := it_n h c8
        refine lv_bipush (v := 20) hx hb dX10_type_36 (by decide) ?_
        exact J38 _ _ 20 (M 0 0 (Int32.toNatClampNeg a1)) M ls X (lv_sub hl [0, 1, 2] rfl)  () h
      · have h := it_p h c8
        refine lv_bipush (v := 31) hx hb dX10_type_31 (by decide) ?_
        refine lv_goto (tgt := 38) hx hb dX10_type_33 (by decide) ?_
        exact J38 _ _ 31 (M 0 0 (Int32.toNatClampNeg a1)) M ls X (lv_sub hl [0, 1, 2] rfl)  () h
    · have h := it_p h c7
      refine lv_bipush (v := (-2)) hx hb dX10_type_18 (by decide) ?_
      have h := sm_x h
      exact RT H locs _ _ 20 ls X h dX10_type_20

/-! ===== X10_wipe ===== -/
def fX10_wipe (M : Mem) (a1 : Int32) : Option (Int32 × Mem) :=
  (fX10_isText a1).bind fun r1 =>
  (if r1 = 0 then
    some ((-2), M)
  else
    gd (inB a1 2) <|
    nm (M 0 0 (Int32.toNatClampNeg a1) : Int32) fun u3 =>
    gd (inB a1 2) <|
    nm (wr M 0 0 (Int32.toNatClampNeg a1) 0) fun M4 =>
    some (u3, M4))
set_option maxHeartbeats 4000000 in
set_option maxRecDepth 100000 in
theorem kX10_wipe (l : Launch) (D : va_G) (ad : Nat → Nat) (cs : Nat → ClassId) (A : Nat → Prop)  (M : Mem) (a1 : Int32) (z : (Int32 × Mem)) (hz : fX10_wipe M a1 = some z) : Met l yX10_wipe (wsU yX10_wipe cX10_wipe 3 (some .int)) (rmo 3 106) (va_Pc [.ref (ad (cO GM 0)), .int a1] (Wd0 D ad cs GM A M)) (va_Qi (fun r u => (r, u) = z) (Wd0 D ad cs GM A) A) 0 0 A := by
  refine ct_i (by decide) rfl okGM (Nat.le_of_ble_eq_true rfl) ?_
  intro p e s m args below meth c Q ls F X hl RT
  have hx := F.1
  have hb := F.2.1
  have hl : lv_has ls 3 [(0, .ref (ad (cO GM 0))), (1, .int a1)] := hl
  obtain ⟨H, hH⟩ : ∃ H, H = s.heap := ⟨_, rfl⟩
  rw [← hH] at X ⊢
  obtain ⟨locs, hlocs⟩ : ∃ locs : List Loc, locs = [] := ⟨_, rfl⟩
  rw [← hlocs] at X ⊢
  clear hH hlocs
  have h := hz
  unfold fX10_wipe at h
  refine lv_iload_n hx hb dX10_wipe_0 rfl (lv_at hl 1 rfl) ?_
  obtain ⟨r1, hr1, h⟩ := bd_x h
  refine r_calli0 X (r_runS F X (kX10_isText l D ad cs A  M a1 _ hr1) gm_X10_101 hd_X10_isText ⟨Nat.le_of_ble_eq_true rfl, Nat.le_of_ble_eq_true rfl⟩ rfl hl.1 rfl (Nat.le_of_ble_eq_true rfl) dX10_wipe_1) (fun H locs X => ?_)
  refine lv_if_ne (tgt := 10) hx hb dX10_wipe_4 (by decide) (fun c2 => ?_) (fun c2 => ?_)
  · have h := it_n h c2
    refine lv_aload_n hx hb dX10_wipe_10 rfl (lv_at hl 0 rfl) ?_
    refine gf_X10_7 F X qM0 dX10_wipe_11 ?_
    refine lv_iload_n hx hb dX10_wipe_14 rfl (lv_at hl 1 rfl) ?_
    obtain ⟨hin, h⟩ := gd_x h
    refine r_iald F X (ar_X10_0 qM0) hin dX10_wipe_15 ?_
    obtain ⟨u3, eu3, h⟩ := nm_x h
    refine topE eu3 ?_
    refine lv_istore_n (lv' := [(2, .int u3), (0, .ref (ad (cO GM 0))), (1, .int a1)]) hx hb dX10_wipe_16 rfl hl (by decide) rfl (fun ls hl => ?_)
    refine lv_aload_n hx hb dX10_wipe_17 rfl (lv_at hl 1 rfl) ?_
    refine gf_X10_7 F X qM0 dX10_wipe_18 ?_
    refine lv_iload_n hx hb dX10_wipe_21 rfl (lv_at hl 2 rfl) ?_
    refine lv_iconst (v := 0) hx hb dX10_wipe_22 (by decide) ?_
    obtain ⟨hin, h⟩ := gd_x h
    obtain ⟨M4, eM4, h⟩ := nm_x h
    refine r_iast F X (ar_X10_0 qM0) hin dX10_wipe_23 (fun H locs X => ?_)
    have X := Wd_eq eM4 X
    refine lv_iload_n hx hb dX10_wipe_24 rfl (lv_at hl 0 rfl) ?_
    have h := sm_x h
    exact RT H locs _ _ 25 ls X h dX10_wipe_25
  · have h := it_p h c2
    refine lv_bipush (v := (-2)) hx hb dX10_wipe_7 (by decide) ?_
    have h := sm_x h
    exact RT H locs _ _ 9 ls X h dX10_wipe_9

/-! ===== X10_undo ===== -/
def fX10_undo (M : Mem) (a1 : Int32) : Option (Int32 × Mem) :=
  (fX10_isText a1).bind fun r1 =>
  (if r1 = 0 then
    some ((-2), M)
  else
    gd (inB a1 2) <|
    (if (M 0 0 (Int32.toNatClampNeg a1)) = 0 then
      some ((-3), M)
    else
      gd (inB a1 2) <|
      gd (inB a1 2) <|
      nm (wr M 0 0 (Int32.toNatClampNeg a1) ((M 0 0 (Int32.toNatClampNeg a1)) - (1 : Int32))) fun M4 =>
      gd (inB a1 2) <|
      some (M4 0 0 (Int32.toNatClampNeg a1), M4)))
set_option maxHeartbeats 4000000 in
set_option maxRecDepth 100000 in
theorem kX10_undo (l : Launch) (D : va_G) (ad : Nat → Nat) (cs : Nat → ClassId) (A : Nat → Prop)  (M : Mem) (a1 : Int32) (z : (Int32 × Mem)) (hz : fX10_undo M a1 = some z) : Met l yX10_undo (wsU yX10_undo cX10_undo 2 (some .int)) (rmo 3 106) (va_Pc [.ref (ad (cO GM 0)), .int a1] (Wd0 D ad cs GM A M)) (va_Qi (fun r u => (r, u) = z) (Wd0 D ad cs GM A) A) 0 0 A := by
  refine ct_i (by decide) rfl okGM (Nat.le_of_ble_eq_true rfl) ?_
  intro p e s m args below meth c Q ls F X hl RT
  have hx := F.1
  have hb := F.2.1
  have hl : lv_has ls 2 [(0, .ref (ad (cO GM 0))), (1, .int a1)] := hl
  obtain ⟨H, hH⟩ : ∃ H, H = s.heap := ⟨_, rfl⟩
  rw [← hH] at X ⊢
  obtain ⟨locs, hlocs⟩ : ∃ locs : List Loc, locs = [] := ⟨_, rfl⟩
  rw [← hlocs] at X ⊢
  clear hH hlocs
  have h := hz
  unfold fX10_undo at h
  refine lv_iload_n hx hb dX10_undo_0 rfl (lv_at hl 1 rfl) ?_
  obtain ⟨r1, hr1, h⟩ := bd_x h
  refine r_calli0 X (r_runS F X (kX10_isText l D ad cs A  M a1 _ hr1) gm_X10_101 hd_X10_isText ⟨Nat.le_of_ble_eq_true rfl, Nat.le_of_ble_eq_true rfl⟩ rfl hl.1 rfl (Nat.le_of_ble_eq_true rfl) dX10_undo_1) (fun H locs X => ?_)
  refine lv_if_ne (tgt := 10) hx hb dX10_undo_4 (by decide) (fun c2 => ?_) (fun c2 => ?_)
  · have h := it_n h c2
    refine lv_aload_n hx hb dX10_undo_10 rfl (lv_at hl 0 rfl) ?_
    refine gf_X10_7 F X qM0 dX10_undo_11 ?_
    refine lv_iload_n hx hb dX10_undo_14 rfl (lv_at hl 1 rfl) ?_
    obtain ⟨hin, h⟩ := gd_x h
    refine r_iald F X (ar_X10_0 qM0) hin dX10_undo_15 ?_
    refine lv_if_ne (tgt := 22) hx hb dX10_undo_16 (by decide) (fun c3 => ?_) (fun c3 => ?_)
    · have h := it_n h c3
      refine lv_aload_n hx hb dX10_undo_22 rfl (lv_at hl 0 rfl) ?_
      refine gf_X10_7 F X qM0 dX10_undo_23 ?_
      refine lv_iload_n hx hb dX10_undo_26 rfl (lv_at hl 1 rfl) ?_
      refine lv_dup2_11 hx hb dX10_undo_27 rfl rfl ?_
      obtain ⟨hin, h⟩ := gd_x h
      refine r_iald F X (ar_X10_0 qM0) hin dX10_undo_28 ?_
      refine lv_iconst (v := 1) hx hb dX10_undo_29 (by decide) ?_
      refine lv_isub hx hb dX10_undo_30 ?_
      obtain ⟨hin, h⟩ := gd_x h
      obtain ⟨M4, eM4, h⟩ := nm_x h
      refine r_iast F X (ar_X10_0 qM0) hin dX10_undo_31 (fun H locs X => ?_)
      have X := Wd_eq eM4 X
      refine lv_aload_n hx hb dX10_undo_32 rfl (lv_at hl 0 rfl) ?_
      refine gf_X10_7 F X qM0 dX10_undo_33 ?_
      refine lv_iload_n hx hb dX10_undo_36 rfl (lv_at hl 1 rfl) ?_
      obtain ⟨hin, h⟩ := gd_x h
      refine r_iald F X (ar_X10_0 qM0) hin dX10_undo_37 ?_
      have h := sm_x h
      exact RT H locs _ _ 38 ls X h dX10_undo_38
    · have h := it_p h c3
      refine lv_bipush (v := (-3)) hx hb dX10_undo_19 (by decide) ?_
      have h := sm_x h
      exact RT H locs _ _ 21 ls X h dX10_undo_21
  · have h := it_p h c2
    refine lv_bipush (v := (-2)) hx hb dX10_undo_7 (by decide) ?_
    have h := sm_x h
    exact RT H locs _ _ 9 ls X h dX10_undo_9

/-! ===== X10_byteAt ===== -/
def fX10_byteAt (M : Mem) (a1 : Int32) : Option Int32 :=
  if (M 0 0 (Int32.toNatClampNeg 0)) ≤ a1 then
    some (-1)
  else
    gd (inB a1 62) <|
    some (M 0 1 (Int32.toNatClampNeg a1))
set_option maxHeartbeats 4000000 in
set_option maxRecDepth 100000 in
theorem kX10_byteAt (l : Launch) (D : va_G) (ad : Nat → Nat) (cs : Nat → ClassId) (A : Nat → Prop)  (M : Mem) (a1 : Int32) (z : Int32) (hz : fX10_byteAt M a1 = some z) : Met l yX10_byteAt (wsU yX10_byteAt cX10_byteAt 2 (some .int)) (rmo 1 64) (va_Pc [.ref (ad (cO GM 0)), .int a1] (Wd0 D ad cs GM A M)) (va_Qi (fun r u => (r, u) = (z, M)) (Wd0 D ad cs GM A) A) 0 0 A := by
  refine ct_i0 (by decide) rfl okGM (Nat.le_of_ble_eq_true rfl) ?_
  intro p e s m args below meth c Q ls F X hl RT
  have hx := F.1
  have hb := F.2.1
  have hl : lv_has ls 2 [(0, .ref (ad (cO GM 0))), (1, .int a1)] := hl
  obtain ⟨H, hH⟩ : ∃ H, H = s.heap := ⟨_, rfl⟩
  rw [← hH] at X ⊢
  obtain ⟨locs, hlocs⟩ : ∃ locs : List Loc, locs = [] := ⟨_, rfl⟩
  rw [← hlocs] at X ⊢
  clear hH hlocs
  have h := hz
  unfold fX10_byteAt at h
  refine lv_iload_n hx hb dX10_byteAt_0 rfl (lv_at hl 1 rfl) ?_
  refine lv_aload_n hx hb dX10_byteAt_1 rfl (lv_at hl 0 rfl) ?_
  refine gf_X10_7 F X qM0 dX10_byteAt_2 ?_
  refine lv_iconst (v := 0) hx hb dX10_byteAt_5 (by decide) ?_
  refine r_iald F X (ar_X10_0 qM0) (by decide : inB 0 2) dX10_byteAt_6 ?_
  refine lv_icmp_ge (tgt := 19) hx hb dX10_byteAt_7 (by decide) (fun c1 => ?_) (fun c1 => ?_)
  · have h := it_p h c1
    refine lv_iconst (v := (-1)) hx hb dX10_byteAt_19 (by decide) ?_
    have h := sm_x h
    exact RT H locs _ 20 ls X h dX10_byteAt_20
  · have h := it_n h c1
    refine lv_aload_n hx hb dX10_byteAt_10 rfl (lv_at hl 0 rfl) ?_
    refine gf_X10_13 F X qM0 dX10_byteAt_11 ?_
    refine lv_iload_n hx hb dX10_byteAt_14 rfl (lv_at hl 1 rfl) ?_
    obtain ⟨hin, h⟩ := gd_x h
    refine r_iald F X (ar_X10_1 qM0) hin dX10_byteAt_15 ?_
    refine lv_goto (tgt := 20) hx hb dX10_byteAt_16 (by decide) ?_
    have h := sm_x h
    exact RT H locs _ 20 ls X h dX10_byteAt_20

/-! ===== X10_readsHeir ===== -/
def fX10_readsHeir_37 (a1 : Int32) (a2 : Int32) (v0 : Int32) (M : Mem) : Option (Int32 × Mem) :=
  nm (v0 : Int32) fun u1 =>
  (fX10_byteAt M (a2 + (1 : Int32))).bind fun r2 =>
  nm (r2 : Int32) fun u3 =>
  (fX10_byteAt M (a2 + (2 : Int32))).bind fun r4 =>
  nm (r4 : Int32) fun u5 =>
  (if a1 = 8 then
    some (0, M)
  else
    if u1 = (-1) then
      some (0, M)
    else
      (fX10_in u3 48 57).bind fun r8 =>
      (if r8 = 0 then
        some (1, M)
      else
        (fX10_in u5 48 57).bind fun r10 =>
        (if r10 = 0 then
          some (2, M)
        else
          gd (inB a1 9) <|
          nm (wr M 0 3 (Int32.toNatClampNeg a1) u1) fun M12 =>
          gd (inB a1 9) <|
          nm (wr M12 0 4 (Int32.toNatClampNeg a1) (u3 - (48 : Int32))) fun M13 =>
          gd (inB a1 9) <|
          nm (wr M13 0 5 (Int32.toNatClampNeg a1) (u5 - (48 : Int32))) fun M14 =>
          some (3, M14))))
def fX10_readsHeir (M : Mem) (a1 : Int32) (a2 : Int32) : Option (Int32 × Mem) :=
  (fX10_byteAt M a2).bind fun r15 =>
  nm (r15 : Int32) fun u16 =>
  (if u16 = 107 then
    fX10_readsHeir_37 a1 a2 0 M
  else
    if u16 = 109 then
      fX10_readsHeir_37 a1 a2 1 M
    else
      if u16 = 115 then
        fX10_readsHeir_37 a1 a2 2 M
      else
        fX10_readsHeir_37 a1 a2 (-1) M)
set_option maxHeartbeats 4000000 in
set_option maxRecDepth 100000 in
theorem kX10_readsHeir (l : Launch) (D : va_G) (ad : Nat → Nat) (cs : Nat → ClassId) (A : Nat → Prop)  (M : Mem) (a1 : Int32) (a2 : Int32) (z : (Int32 × Mem)) (hz : fX10_readsHeir M a1 a2 = some z) : Met l yX10_readsHeir (wsU yX10_readsHeir cX10_readsHeir 7 (some .int)) (rmo 2 86) (va_Pc [.ref (ad (cO GM 0)), .int a1, .int a2] (Wd0 D ad cs GM A M)) (va_Qi (fun r u => (r, u) = z) (Wd0 D ad cs GM A) A) 0 0 A := by
  refine ct_i (by decide) rfl okGM (Nat.le_of_ble_eq_true rfl) ?_
  intro p e s m args below meth c Q ls F X hl RT
  have hx := F.1
  have hb := F.2.1
  have hl : lv_has ls 7 [(0, .ref (ad (cO GM 0))), (1, .int a1), (2, .int a2)] := hl
  obtain ⟨H, hH⟩ : ∃ H, H = s.heap := ⟨_, rfl⟩
  rw [← hH] at X ⊢
  obtain ⟨locs, hlocs⟩ : ∃ locs : List Loc, locs = [] := ⟨_, rfl⟩
  rw [← hlocs] at X ⊢
  clear hH hlocs
  have J37 : ∀ (H : Heap) (locs : List Loc) (v0 : Int32) (M : Mem) (ls : Array Slot), Wd D ad cs GM A s H locs M → lv_has ls 7 [(0, .ref (ad (cO GM 0))), (1, .int a1), (2, .int a2)] → ∀ (_ : Unit), fX10_readsHeir_37 a1 a2 v0 M = some z → W p l e (rmo 2 86) s m args below meth c H locs 0 0 Q (F0 m 37 ls [.int v0]) := by
    intro H locs v0 M ls X hl  _u h
    unfold fX10_readsHeir_37 at h
    obtain ⟨u1, eu1, h⟩ := nm_x h
    refine topE eu1 ?_
    refine lv_istore (lv' := [(4, .int u1), (0, .ref (ad (cO GM 0))), (1, .int a1), (2, .int a2)]) hx hb dX10_readsHeir_37 hl (by decide) rfl (fun ls hl => ?_)
    refine lv_aload_n hx hb dX10_readsHeir_39 rfl (lv_at hl 1 rfl) ?_
    refine lv_iload_n hx hb dX10_readsHeir_40 rfl (lv_at hl 3 rfl) ?_
    refine lv_iconst (v := 1) hx hb dX10_readsHeir_41 (by decide) ?_
    refine lv_iadd hx hb dX10_readsHeir_42 ?_
    obtain ⟨r2, hr2, h⟩ := bd_x h
    refine r_calli0 X (r_runV F X (kX10_byteAt l D ad cs A  M (a2 + (1 : Int32)) _ hr2) gm_X10_105 hd_X10_byteAt ⟨Nat.le_of_ble_eq_true rfl, Nat.le_of_ble_eq_true rfl⟩ qM0 rfl rfl hl.1 rfl (Nat.le_of_ble_eq_true rfl) dX10_readsHeir_43) (fun H locs X => ?_)
    obtain ⟨u3, eu3, h⟩ := nm_x h
    refine topE eu3 ?_
    refine lv_istore (lv' := [(5, .int u3), (4, .int u1), (0, .ref (ad (cO GM 0))), (1, .int a1), (2, .int a2)]) hx hb dX10_readsHeir_46 hl (by decide) rfl (fun ls hl => ?_)
    refine lv_aload_n hx hb dX10_readsHeir_48 rfl (lv_at hl 2 rfl) ?_
    refine lv_iload_n hx hb dX10_readsHeir_49 rfl (lv_at hl 4 rfl) ?_
    refine lv_iconst (v := 2) hx hb dX10_readsHeir_50 (by decide) ?_
    refine lv_iadd hx hb dX10_readsHeir_51 ?_
    obtain ⟨r4, hr4, h⟩ := bd_x h
    refine r_calli0 X (r_runV F X (kX10_byteAt l D ad cs A  M (a2 + (2 : Int32)) _ hr4) gm_X10_105 hd_X10_byteAt ⟨Nat.le_of_ble_eq_true rfl, Nat.le_of_ble_eq_true rfl⟩ qM0 rfl rfl hl.1 rfl (Nat.le_of_ble_eq_true rfl) dX10_readsHeir_52) (fun H locs X => ?_)
    obtain ⟨u5, eu5, h⟩ := nm_x h
    refine topE eu5 ?_
    refine lv_istore (lv' := [(6, .int u5), (5, .int u3), (4, .int u1), (0, .ref (ad (cO GM 0))), (1, .int a1), (2, .int a2)]) hx hb dX10_readsHeir_55 hl (by decide) rfl (fun ls hl => ?_)
    refine lv_iload_n hx hb dX10_readsHeir_57 rfl (lv_at hl 4 rfl) ?_
    refine lv_bipush (v := 8) hx hb dX10_readsHeir_58 (by decide) ?_
    refine lv_icmp_eq (tgt := 69) hx hb dX10_readsHeir_60 (by decide) (fun c6 => ?_) (fun c6 => ?_)
    · have h := it_p h c6
      refine lv_iconst (v := 0) hx hb dX10_readsHeir_69 (by decide) ?_
      have h := sm_x h
      exact RT H locs _ _ 70 ls X h dX10_readsHeir_70
    · have h := it_n h c6
      refine lv_iload hx hb dX10_readsHeir_63 (lv_at hl 2 rfl) ?_
      refine lv_iconst (v := (-1)) hx hb dX10_readsHeir_65 (by decide) ?_
      refine lv_icmp_ne (tgt := 71) hx hb dX10_readsHeir_66 (by decide) (fun c7 => ?_) (fun c7 => ?_)
      · have h := it_n h c7
        refine lv_iload hx hb dX10_readsHeir_71 (lv_at hl 1 rfl) ?_
        refine lv_bipush (v := 48) hx hb dX10_readsHeir_73 (by decide) ?_
        refine lv_bipush (v := 57) hx hb dX10_readsHeir_75 (by decide) ?_
        obtain ⟨r8, hr8, h⟩ := bd_x h
        refine r_calli0 X (r_runS F X (kX10_in l D ad cs A  M u3 48 57 _ hr8) gm_X10_97 hd_X10_in ⟨Nat.le_of_ble_eq_true rfl, Nat.le_of_ble_eq_true rfl⟩ rfl hl.1 rfl (Nat.le_of_ble_eq_true rfl) dX10_readsHeir_77) (fun H locs X => ?_)
        refine lv_if_ne (tgt := 85) hx hb dX10_readsHeir_80 (by decide) (fun c9 => ?_) (fun c9 => ?_)
        · have h := it_n h c9
          refine lv_iload hx hb dX10_readsHeir_85 (lv_at hl 0 rfl) ?_
          refine lv_bipush (v := 48) hx hb dX10_readsHeir_87 (by decide) ?_
          refine lv_bipush (v := 57) hx hb dX10_readsHeir_89 (by decide) ?_
          obtain ⟨r10, hr10, h⟩ := bd_x h
          refine r_calli0 X (r_runS F X (kX10_in l D ad cs A  M u5 48 57 _ hr10) gm_X10_97 hd_X10_in ⟨Nat.le_of_ble_eq_true rfl, Nat.le_of_ble_eq_true rfl⟩ rfl hl.1 rfl (Nat.le_of_ble_eq_true rfl) dX10_readsHeir_91) (fun H locs X => ?_)
          refine lv_if_ne (tgt := 99) hx hb dX10_readsHeir_94 (by decide) (fun c11 => ?_) (fun c11 => ?_)
          · have h := it_n h c11
            refine lv_aload_n hx hb dX10_readsHeir_99 rfl (lv_at hl 3 rfl) ?_
            refine gf_X10_16 F X qM0 dX10_readsHeir_100 ?_
            refine lv_iload_n hx hb dX10_readsHeir_103 rfl (lv_at hl 4 rfl) ?_
            refine lv_iload hx hb dX10_readsHeir_104 (lv_at hl 2 rfl) ?_
            obtain ⟨hin, h⟩ := gd_x h
            obtain ⟨M12, eM12, h⟩ := nm_x h
            refine r_iast F X (ar_X10_3 qM0) hin dX10_readsHeir_106 (fun H locs X => ?_)
            have X := Wd_eq eM12 X
            refine lv_aload_n hx hb dX10_readsHeir_107 rfl (lv_at hl 3 rfl) ?_
            refine gf_X10_19 F X qM0 dX10_readsHeir_108 ?_
            refine lv_iload_n hx hb dX10_readsHeir_111 rfl (lv_at hl 4 rfl) ?_
            refine lv_iload hx hb dX10_readsHeir_112 (lv_at hl 1 rfl) ?_
            refine lv_bipush (v := 48) hx hb dX10_readsHeir_114 (by decide) ?_
            refine lv_isub hx hb dX10_readsHeir_116 ?_
            obtain ⟨hin, h⟩ := gd_x h
            obtain ⟨M13, eM13, h⟩ := nm_x h
            refine r_iast F X (ar_X10_4 qM0) hin dX10_readsHeir_117 (fun H locs X => ?_)
            have X := Wd_eq eM13 X
            refine lv_aload_n hx hb dX10_readsHeir_118 rfl (lv_at hl 3 rfl) ?_
            refine gf_X10_22 F X qM0 dX10_readsHeir_119 ?_
            refine lv_iload_n hx hb dX10_readsHeir_122 rfl (lv_at hl 4 rfl) ?_
            refine lv_iload hx hb dX10_readsHeir_123 (lv_at hl 0 rfl) ?_
            refine lv_bipush (v := 48) hx hb dX10_readsHeir_125 (by decide) ?_
            refine lv_isub hx hb dX10_readsHeir_127 ?_
            obtain ⟨hin, h⟩ := gd_x h
            obtain ⟨M14, eM14, h⟩ := nm_x h
            refine r_iast F X (ar_X10_5 qM0) hin dX10_readsHeir_128 (fun H locs X => ?_)
            have X := Wd_eq eM14 X
            refine lv_iconst (v := 3) hx hb dX10_readsHeir_129 (by decide) ?_
            have h := sm_x h
            exact RT H locs _ _ 130 ls X h dX10_readsHeir_130
          · have h := it_p h c11
            refine lv_iconst (v := 2) hx hb dX10_readsHeir_97 (by decide) ?_
            have h := sm_x h
            exact RT H locs _ _ 98 ls X h dX10_readsHeir_98
        · have h := it_p h c9
          refine lv_iconst (v := 1) hx hb dX10_readsHeir_83 (by decide) ?_
          have h := sm_x h
          exact RT H locs _ _ 84 ls X h dX10_readsHeir_84
      · have h := it_p h c7
        refine lv_iconst (v := 0) hx hb dX10_readsHeir_69 (by decide) ?_
        have h := sm_x h
        exact RT H locs _ _ 70 ls X h dX10_readsHeir_70
  have h := hz
  unfold fX10_readsHeir at h
  refine lv_aload_n hx hb dX10_readsHeir_0 rfl (lv_at hl 0 rfl) ?_
  refine lv_iload_n hx hb dX10_readsHeir_1 rfl (lv_at hl 2 rfl) ?_
  obtain ⟨r15, hr15, h⟩ := bd_x h
  refine r_calli0 X (r_runV F X (kX10_byteAt l D ad cs A  M a2 _ hr15) gm_X10_105 hd_X10_byteAt ⟨Nat.le_of_ble_eq_true rfl, Nat.le_of_ble_eq_true rfl⟩ qM0 rfl rfl hl.1 rfl (Nat.le_of_ble_eq_true rfl) dX10_readsHeir_2) (fun H locs X => ?_)
  obtain ⟨u16, eu16, h⟩ := nm_x h
  refine topE eu16 ?_
  refine lv_istore_n (lv' := [(3, .int u16), (0, .ref (ad (cO GM 0))), (1, .int a1), (2, .int a2)]) hx hb dX10_readsHeir_5 rfl hl (by decide) rfl (fun ls hl => ?_)
  refine lv_iload_n hx hb dX10_readsHeir_6 rfl (lv_at hl 0 rfl) ?_
  refine lv_bipush (v := 107) hx hb dX10_readsHeir_7 (by decide) ?_
  refine lv_icmp_ne (tgt := 16) hx hb dX10_readsHeir_9 (by decide) (fun c17 => ?_) (fun c17 => ?_)
  · have h := it_n h c17
    refine lv_iload_n hx hb dX10_readsHeir_16 rfl (lv_at hl 0 rfl) ?_
    refine lv_bipush (v := 109) hx hb dX10_readsHeir_17 (by decide) ?_
    refine lv_icmp_ne (tgt := 26) hx hb dX10_readsHeir_19 (by decide) (fun c18 => ?_) (fun c18 => ?_)
    · have h := it_n h c18
      refine lv_iload_n hx hb dX10_readsHeir_26 rfl (lv_at hl 0 rfl) ?_
      refine lv_bipush (v := 115) hx hb dX10_readsHeir_27 (by decide) ?_
      refine lv_icmp_ne (tgt := 36) hx hb dX10_readsHeir_29 (by decide) (fun c19 => ?_) (fun c19 => ?_)
      · have h := it_n h c19
        refine lv_iconst (v := (-1)) hx hb dX10_readsHeir_36 (by decide) ?_
        exact J37 _ _ (-1) M ls X (lv_sub hl [1, 2, 3] rfl)  () h
      · have h := it_p h c19
        refine lv_iconst (v := 2) hx hb dX10_readsHeir_32 (by decide) ?_
        refine lv_goto (tgt := 37) hx hb dX10_readsHeir_33 (by decide) ?_
        exact J37 _ _ 2 M ls X (lv_sub hl [1, 2, 3] rfl)  () h
    · have h := it_p h c18
      refine lv_iconst (v := 1) hx hb dX10_readsHeir_22 (by decide) ?_
      refine lv_goto (tgt := 37) hx hb dX10_readsHeir_23 (by decide) ?_
      exact J37 _ _ 1 M ls X (lv_sub hl [1, 2, 3] rfl)  () h
  · have h := it_p h c17
    refine lv_iconst (v := 0) hx hb dX10_readsHeir_12 (by decide) ?_
    refine lv_goto (tgt := 37) hx hb dX10_readsHeir_13 (by decide) ?_
    exact J37 _ _ 0 M ls X (lv_sub hl [1, 2, 3] rfl)  () h

/-! ===== X10_readsHeirs ===== -/
def fX10_readsHeirs_23  (x1 : Int32) (x2 : Int32) (M : Mem) : Option ((Int32 × Int32 × Mem) ⊕ (Int32 × Mem)) :=
  (fX10_readsHeir M x1 x2).bind fun r1 =>
  nm (r1.1 : Int32) fun u2 =>
  (if 3 ≤ u2 then
    nm (x1 + 1 : Int32) fun u4 =>
    nm (x2 + 3 : Int32) fun u5 =>
    (if u5 = (r1.2 0 0 (Int32.toNatClampNeg 0)) then
      nm (wr r1.2 0 2 0 u4) fun M10 =>
      some (.inr ((-1), M10))
    else
      (fX10_byteAt r1.2 u5).bind fun r7 =>
      (if r7 = 59 then
        nm (u5 + 1 : Int32) fun u9 =>
        some (.inl (u4, u9, r1.2))
      else
        some (.inr (u5, r1.2))))
  else
    some (.inr (x2 + u2, r1.2)))
def fX10_readsHeirs_9  (x1 : Int32) (x2 : Int32) (M : Mem) : Option ((Int32 × Int32 × Mem) ⊕ (Int32 × Mem)) :=
  if x2 < (M 0 0 (Int32.toNatClampNeg 0)) then
    fX10_readsHeirs_23 x1 x2 M
  else
    if x2 ≤ 0 then
      some (.inr ((-1), M))
    else
      fX10_readsHeirs_23 x1 x2 M
def fX10_readsHeirs (M : Mem) : Option (Int32 × Mem) :=
  nm (0 : Int32) fun u13 =>
  nm (0 : Int32) fun u14 =>
  nm (wr M 0 2 0 0) fun M15 =>
  lpO (fun st => fX10_readsHeirs_9 st.1 st.2.1 st.2.2) FU (u13, u14, M15)
set_option maxHeartbeats 4000000 in
set_option maxRecDepth 100000 in
theorem kX10_readsHeirs (l : Launch) (D : va_G) (ad : Nat → Nat) (cs : Nat → ClassId) (A : Nat → Prop)  (M : Mem)  (z : (Int32 × Mem)) (hz : fX10_readsHeirs M = some z) : Met l yX10_readsHeirs (wsU yX10_readsHeirs cX10_readsHeirs 4 (some .int)) (rmo 3 112) (va_Pc [.ref (ad (cO GM 0))] (Wd0 D ad cs GM A M)) (va_Qi (fun r u => (r, u) = z) (Wd0 D ad cs GM A) A) 0 0 A := by
  refine ct_i (by decide) rfl okGM (Nat.le_of_ble_eq_true rfl) ?_
  intro p e s m args below meth c Q ls F X hl RT
  have hx := F.1
  have hb := F.2.1
  have hl : lv_has ls 4 [(0, .ref (ad (cO GM 0)))] := hl
  obtain ⟨H, hH⟩ : ∃ H, H = s.heap := ⟨_, rfl⟩
  rw [← hH] at X ⊢
  obtain ⟨locs, hlocs⟩ : ∃ locs : List Loc, locs = [] := ⟨_, rfl⟩
  rw [← hlocs] at X ⊢
  clear hH hlocs
  have L9 : ∀ (n : Nat) (H : Heap) (locs : List Loc) (x1 : Int32) (x2 : Int32) (M : Mem) (ls : Array Slot), Wd D ad cs GM A s H locs M → lv_has ls 4 [(0, .ref (ad (cO GM 0))), (1, .int x1), (2, .int x2)] → ∀ (_ : Unit), lpO (fun st => fX10_readsHeirs_9 st.1 st.2.1 st.2.2) n (x1, x2, M) = some z → W p l e (rmo 3 112) s m args below meth c H locs 0 0 Q (F0 m 9 ls []) := by
    intro n
    induction n with
    | zero =>
      intro H locs x1 x2 M ls X hl  yy h
      exact lp_0 h
    | succ n1 ih9 =>
      intro H locs x1 x2 M ls X hl  _u h
      obtain ⟨y1, h, hk1⟩ := lp_x h
      have J23 : ∀ (H : Heap) (locs : List Loc) (x1 : Int32) (x2 : Int32) (M : Mem) (ls : Array Slot), Wd D ad cs GM A s H locs M → lv_has ls 4 [(0, .ref (ad (cO GM 0))), (1, .int x1), (2, .int x2)] → ∀ (y1 : ((Int32 × Int32 × Mem) ⊕ (Int32 × Mem))), fX10_readsHeirs_23 x1 x2 M = some y1 → lpK (fun st => fX10_readsHeirs_9 st.1 st.2.1 st.2.2) n1 y1 = some z → W p l e (rmo 3 112) s m args below meth c H locs 0 0 Q (F0 m 23 ls []) := by
        intro H locs x1 x2 M ls X hl  y1 h hk1
        unfold fX10_readsHeirs_23 at h
        refine lv_aload_n hx hb dX10_readsHeirs_23 rfl (lv_at hl 0 rfl) ?_
        refine lv_iload_n hx hb dX10_readsHeirs_24 rfl (lv_at hl 1 rfl) ?_
        refine lv_iload_n hx hb dX10_readsHeirs_25 rfl (lv_at hl 2 rfl) ?_
        obtain ⟨r1, hr1, h⟩ := bd_x h
        refine r_calli X (r_runV F X (kX10_readsHeir l D ad cs A  M x1 x2 _ hr1) gm_X10_113 hd_X10_readsHeir ⟨Nat.le_of_ble_eq_true rfl, Nat.le_of_ble_eq_true rfl⟩ qM0 rfl rfl hl.1 rfl (Nat.le_of_ble_eq_true rfl) dX10_readsHeirs_26) (fun H locs X => ?_)
        obtain ⟨u2, eu2, h⟩ := nm_x h
        refine topE eu2 ?_
        refine lv_istore_n (lv' := [(3, .int u2), (0, .ref (ad (cO GM 0))), (1, .int x1), (2, .int x2)]) hx hb dX10_readsHeirs_29 rfl hl (by decide) rfl (fun ls hl => ?_)
        refine lv_iload_n hx hb dX10_readsHeirs_30 rfl (lv_at hl 0 rfl) ?_
        refine lv_iconst (v := 3) hx hb dX10_readsHeirs_31 (by decide) ?_
        refine lv_icmp_ge (tgt := 39) hx hb dX10_readsHeirs_32 (by decide) (fun c3 => ?_) (fun c3 => ?_)
        · have h := it_p h c3
          obtain ⟨u4, eu4, h⟩ := nm_x h
          refine lv_iinc (v := u4) (lv' := [(1, .int u4), (3, .int u2), (0, .ref (ad (cO GM 0))), (2, .int x2)]) hx hb dX10_readsHeirs_39 hl (k := 2) rfl (by rw [eu4]; rfl) (by decide) rfl (fun ls hl => ?_)
          obtain ⟨u5, eu5, h⟩ := nm_x h
          refine lv_iinc (v := u5) (lv' := [(2, .int u5), (1, .int u4), (3, .int u2), (0, .ref (ad (cO GM 0)))]) hx hb dX10_readsHeirs_42 hl (k := 3) rfl (by rw [eu5]; rfl) (by decide) rfl (fun ls hl => ?_)
          refine lv_iload_n hx hb dX10_readsHeirs_45 rfl (lv_at hl 0 rfl) ?_
          refine lv_aload_n hx hb dX10_readsHeirs_46 rfl (lv_at hl 3 rfl) ?_
          refine gf_X10_7 F X qM0 dX10_readsHeirs_47 ?_
          refine lv_iconst (v := 0) hx hb dX10_readsHeirs_50 (by decide) ?_
          refine r_iald F X (ar_X10_0 qM0) (by decide : inB 0 2) dX10_readsHeirs_51 ?_
          refine lv_icmp_ne (tgt := 62) hx hb dX10_readsHeirs_52 (by decide) (fun c6 => ?_) (fun c6 => ?_)
          · have h := it_n h c6
            refine lv_aload_n hx hb dX10_readsHeirs_62 rfl (lv_at hl 3 rfl) ?_
            refine lv_iload_n hx hb dX10_readsHeirs_63 rfl (lv_at hl 0 rfl) ?_
            obtain ⟨r7, hr7, h⟩ := bd_x h
            refine r_calli0 X (r_runV F X (kX10_byteAt l D ad cs A  r1.2 u5 _ hr7) gm_X10_105 hd_X10_byteAt ⟨Nat.le_of_ble_eq_true rfl, Nat.le_of_ble_eq_true rfl⟩ qM0 rfl rfl hl.1 rfl (Nat.le_of_ble_eq_true rfl) dX10_readsHeirs_64) (fun H locs X => ?_)
            refine lv_bipush (v := 59) hx hb dX10_readsHeirs_67 (by decide) ?_
            refine lv_icmp_eq (tgt := 74) hx hb dX10_readsHeirs_69 (by decide) (fun c8 => ?_) (fun c8 => ?_)
            · have h := it_p h c8
              obtain ⟨u9, eu9, h⟩ := nm_x h
              refine lv_iinc (v := u9) (lv' := [(2, .int u9), (1, .int u4), (3, .int u2), (0, .ref (ad (cO GM 0)))]) hx hb dX10_readsHeirs_74 hl (k := 0) rfl (by rw [eu9]; rfl) (by decide) rfl (fun ls hl => ?_)
              refine lv_goto (tgt := 9) hx hb dX10_readsHeirs_77 (by decide) ?_
              rw [← sm_x h] at hk1
              exact ih9 _ _ u4 u9 r1.2 ls X (lv_sub hl [3, 1, 0] rfl)  () hk1
            · have h := it_n h c8
              refine lv_iload_n hx hb dX10_readsHeirs_72 rfl (lv_at hl 0 rfl) ?_
              have h := sm_x h
              rw [← h] at hk1
              have h := sm_x hk1
              exact RT H locs _ _ 73 ls X h dX10_readsHeirs_73
          · have h := it_p h c6
            refine lv_aload_n hx hb dX10_readsHeirs_55 rfl (lv_at hl 3 rfl) ?_
            refine lv_iload_n hx hb dX10_readsHeirs_56 rfl (lv_at hl 1 rfl) ?_
            obtain ⟨M10, eM10, h⟩ := nm_x h
            refine pf_X10_109 F X qM0 dX10_readsHeirs_57 (fun H locs X => ?_)
            have X := Wd_eq eM10 X
            refine lv_iconst (v := (-1)) hx hb dX10_readsHeirs_60 (by decide) ?_
            have h := sm_x h
            rw [← h] at hk1
            have h := sm_x hk1
            exact RT H locs _ _ 61 ls X h dX10_readsHeirs_61
        · have h := it_n h c3
          refine lv_iload_n hx hb dX10_readsHeirs_35 rfl (lv_at hl 3 rfl) ?_
          refine lv_iload_n hx hb dX10_readsHeirs_36 rfl (lv_at hl 0 rfl) ?_
          refine lv_iadd hx hb dX10_readsHeirs_37 ?_
          have h := sm_x h
          rw [← h] at hk1
          have h := sm_x hk1
          exact RT H locs _ _ 38 ls X h dX10_readsHeirs_38
      unfold fX10_readsHeirs_9 at h
      refine lv_iload_n hx hb dX10_readsHeirs_9 rfl (lv_at hl 2 rfl) ?_
      refine lv_aload_n hx hb dX10_readsHeirs_10 rfl (lv_at hl 0 rfl) ?_
      refine gf_X10_7 F X qM0 dX10_readsHeirs_11 ?_
      refine lv_iconst (v := 0) hx hb dX10_readsHeirs_14 (by decide) ?_
      refine r_iald F X (ar_X10_0 qM0) (by decide : inB 0 2) dX10_readsHeirs_15 ?_
      refine lv_icmp_lt (tgt := 23) hx hb dX10_readsHeirs_16 (by decide) (fun c11 => ?_) (fun c11 => ?_)
      · have h := it_p h c11
        exact J23 _ _ x1 x2 M ls X (lv_sub hl [0, 1, 2] rfl)  _ h hk1
      · have h := it_n h c11
        refine lv_iload_n hx hb dX10_readsHeirs_19 rfl (lv_at hl 2 rfl) ?_
        refine lv_if_le (tgt := 80) hx hb dX10_readsHeirs_20 (by decide) (fun c12 => ?_) (fun c12 => ?_)
        · have h := it_p h c12
          refine lv_iconst (v := (-1)) hx hb dX10_readsHeirs_80 (by decide) ?_
          have h := sm_x h
          rw [← h] at hk1
          have h := sm_x hk1
          exact RT H locs _ _ 81 ls X h dX10_readsHeirs_81
        · have h := it_n h c12
          exact J23 _ _ x1 x2 M ls X (lv_sub hl [0, 1, 2] rfl)  _ h hk1
  have h := hz
  unfold fX10_readsHeirs at h
  refine lv_iconst (v := 0) hx hb dX10_readsHeirs_0 (by decide) ?_
  obtain ⟨u13, eu13, h⟩ := nm_x h
  refine topE eu13 ?_
  refine lv_istore_n (lv' := [(1, .int u13), (0, .ref (ad (cO GM 0)))]) hx hb dX10_readsHeirs_1 rfl hl (by decide) rfl (fun ls hl => ?_)
  refine lv_iconst (v := 0) hx hb dX10_readsHeirs_2 (by decide) ?_
  obtain ⟨u14, eu14, h⟩ := nm_x h
  refine topE eu14 ?_
  refine lv_istore_n (lv' := [(2, .int u14), (1, .int u13), (0, .ref (ad (cO GM 0)))]) hx hb dX10_readsHeirs_3 rfl hl (by decide) rfl (fun ls hl => ?_)
  refine lv_aload_n hx hb dX10_readsHeirs_4 rfl (lv_at hl 2 rfl) ?_
  refine lv_iconst (v := 0) hx hb dX10_readsHeirs_5 (by decide) ?_
  obtain ⟨M15, eM15, h⟩ := nm_x h
  refine pf_X10_109 F X qM0 dX10_readsHeirs_6 (fun H locs X => ?_)
  have X := Wd_eq eM15 X
  exact L9 FU _ _ u13 u14 M15 ls X (lv_sub hl [2, 1, 0] rfl)  () h

/-! ===== X10_readsRound ===== -/
def fX10_readsRound_80  (M : Mem) : Option (Int32 × Mem) :=
  nm (wr M 0 6 0 (M 0 0 (Int32.toNatClampNeg 1))) fun M1 =>
  some ((-1), M1)
def fX10_readsRound_46  (x1 : Int32) (M : Mem) : Option ((Int32 × Mem) ⊕ (Int32 × Mem)) :=
  if (M 0 0 (Int32.toNatClampNeg 1)) ≤ x1 then
    inr' (fX10_readsRound_80 M)
  else
    gd (inB ((31 : Int32) + x1) 62) <|
    gd (inB x1 20) <|
    nm (wr M 0 7 (Int32.toNatClampNeg x1) ((M 0 1 (Int32.toNatClampNeg ((31 : Int32) + x1))) - (97 : Int32))) fun M3 =>
    nm (x1 + 1 : Int32) fun u4 =>
    some (.inl (u4, M3))
def fX10_readsRound_44  (M : Mem) : Option (Int32 × Mem) :=
  nm (0 : Int32) fun u5 =>
  lpO (fun st => fX10_readsRound_46 st.1 st.2) FU (u5, M)
def fX10_readsRound_7  (x1 : Int32) (M : Mem) : Option ((Int32 × Mem) ⊕ (Int32 × Mem)) :=
  if (M 0 0 (Int32.toNatClampNeg 1)) ≤ x1 then
    inr' (fX10_readsRound_44 M)
  else
    gd (inB ((31 : Int32) + x1) 62) <|
    (fX10_in (M 0 1 (Int32.toNatClampNeg ((31 : Int32) + x1))) 97 104).bind fun r7 =>
    (if r7 = 0 then
      some (.inr (x1, M))
    else
      nm (x1 + 1 : Int32) fun u9 =>
      some (.inl (u9, M)))
def fX10_readsRound (M : Mem) : Option (Int32 × Mem) :=
  nm (wr M 0 6 0 0) fun M10 =>
  nm (0 : Int32) fun u11 =>
  lpO (fun st => fX10_readsRound_7 st.1 st.2) FU (u11, M10)
set_option maxHeartbeats 4000000 in
set_option maxRecDepth 100000 in
theorem kX10_readsRound (l : Launch) (D : va_G) (ad : Nat → Nat) (cs : Nat → ClassId) (A : Nat → Prop)  (M : Mem)  (z : (Int32 × Mem)) (hz : fX10_readsRound M = some z) : Met l yX10_readsRound (wsU yX10_readsRound cX10_readsRound 2 (some .int)) (rmo 2 86) (va_Pc [.ref (ad (cO GM 0))] (Wd0 D ad cs GM A M)) (va_Qi (fun r u => (r, u) = z) (Wd0 D ad cs GM A) A) 0 0 A := by
  refine ct_i (by decide) rfl okGM (Nat.le_of_ble_eq_true rfl) ?_
  intro p e s m args below meth c Q ls F X hl RT
  have hx := F.1
  have hb := F.2.1
  have hl : lv_has ls 2 [(0, .ref (ad (cO GM 0)))] := hl
  obtain ⟨H, hH⟩ : ∃ H, H = s.heap := ⟨_, rfl⟩
  rw [← hH] at X ⊢
  obtain ⟨locs, hlocs⟩ : ∃ locs : List Loc, locs = [] := ⟨_, rfl⟩
  rw [← hlocs] at X ⊢
  clear hH hlocs
  have J80 : ∀ (H : Heap) (locs : List Loc) (M : Mem) (ls : Array Slot), Wd D ad cs GM A s H locs M → lv_has ls 2 [(0, .ref (ad (cO GM 0)))] → ∀ (_ : Unit), fX10_readsRound_80 M = some z → W p l e (rmo 2 86) s m args below meth c H locs 0 0 Q (F0 m 80 ls []) := by
    intro H locs M ls X hl  _u h
    unfold fX10_readsRound_80 at h
    refine lv_aload_n hx hb dX10_readsRound_80 rfl (lv_at hl 0 rfl) ?_
    refine lv_aload_n hx hb dX10_readsRound_81 rfl (lv_at hl 0 rfl) ?_
    refine gf_X10_7 F X qM0 dX10_readsRound_82 ?_
    refine lv_iconst (v := 1) hx hb dX10_readsRound_85 (by decide) ?_
    refine r_iald F X (ar_X10_0 qM0) (by decide : inB 1 2) dX10_readsRound_86 ?_
    obtain ⟨M1, eM1, h⟩ := nm_x h
    refine pf_X10_117 F X qM0 dX10_readsRound_87 (fun H locs X => ?_)
    have X := Wd_eq eM1 X
    refine lv_iconst (v := (-1)) hx hb dX10_readsRound_90 (by decide) ?_
    have h := sm_x h
    exact RT H locs _ _ 91 ls X h dX10_readsRound_91
  have L46 : ∀ (n : Nat) (H : Heap) (locs : List Loc) (x1 : Int32) (M : Mem) (ls : Array Slot), Wd D ad cs GM A s H locs M → lv_has ls 2 [(0, .ref (ad (cO GM 0))), (1, .int x1)] → ∀ (_ : Unit), lpO (fun st => fX10_readsRound_46 st.1 st.2) n (x1, M) = some z → W p l e (rmo 2 86) s m args below meth c H locs 0 0 Q (F0 m 46 ls []) := by
    intro n
    induction n with
    | zero =>
      intro H locs x1 M ls X hl  yy h
      exact lp_0 h
    | succ n1 ih46 =>
      intro H locs x1 M ls X hl  _u h
      obtain ⟨y1, h, hk1⟩ := lp_x h
      unfold fX10_readsRound_46 at h
      refine lv_iload_n hx hb dX10_readsRound_46 rfl (lv_at hl 1 rfl) ?_
      refine lv_aload_n hx hb dX10_readsRound_47 rfl (lv_at hl 0 rfl) ?_
      refine gf_X10_7 F X qM0 dX10_readsRound_48 ?_
      refine lv_iconst (v := 1) hx hb dX10_readsRound_51 (by decide) ?_
      refine r_iald F X (ar_X10_0 qM0) (by decide : inB 1 2) dX10_readsRound_52 ?_
      refine lv_icmp_ge (tgt := 80) hx hb dX10_readsRound_53 (by decide) (fun c2 => ?_) (fun c2 => ?_)
      · have h := it_p h c2
        obtain ⟨_, h, ey⟩ := inr_x h
        rw [ey] at hk1
        have h := h.trans (congrArg some (sm_x hk1))
        exact J80 _ _ M ls X (lv_sub hl [0] rfl)  () h
      · have h := it_n h c2
        refine lv_aload_n hx hb dX10_readsRound_56 rfl (lv_at hl 0 rfl) ?_
        refine gf_X10_25 F X qM0 dX10_readsRound_57 ?_
        refine lv_iload_n hx hb dX10_readsRound_60 rfl (lv_at hl 1 rfl) ?_
        refine lv_aload_n hx hb dX10_readsRound_61 rfl (lv_at hl 0 rfl) ?_
        refine gf_X10_13 F X qM0 dX10_readsRound_62 ?_
        refine lv_bipush (v := 31) hx hb dX10_readsRound_65 (by decide) ?_
        refine lv_iload_n hx hb dX10_readsRound_67 rfl (lv_at hl 1 rfl) ?_
        refine lv_iadd hx hb dX10_readsRound_68 ?_
        obtain ⟨hin, h⟩ := gd_x h
        refine r_iald F X (ar_X10_1 qM0) hin dX10_readsRound_69 ?_
        refine lv_bipush (v := 97) hx hb dX10_readsRound_70 (by decide) ?_
        refine lv_isub hx hb dX10_readsRound_72 ?_
        obtain ⟨hin, h⟩ := gd_x h
        obtain ⟨M3, eM3, h⟩ := nm_x h
        refine r_iast F X (ar_X10_7 qM0) hin dX10_readsRound_73 (fun H locs X => ?_)
        have X := Wd_eq eM3 X
        obtain ⟨u4, eu4, h⟩ := nm_x h
        refine lv_iinc (v := u4) (lv' := [(1, .int u4), (0, .ref (ad (cO GM 0)))]) hx hb dX10_readsRound_74 hl (k := 1) rfl (by rw [eu4]; rfl) (by decide) rfl (fun ls hl => ?_)
        refine lv_goto (tgt := 46) hx hb dX10_readsRound_77 (by decide) ?_
        rw [← sm_x h] at hk1
        exact ih46 _ _ u4 M3 ls X (lv_sub hl [1, 0] rfl)  () hk1
  have J44 : ∀ (H : Heap) (locs : List Loc) (M : Mem) (ls : Array Slot), Wd D ad cs GM A s H locs M → lv_has ls 2 [(0, .ref (ad (cO GM 0)))] → ∀ (_ : Unit), fX10_readsRound_44 M = some z → W p l e (rmo 2 86) s m args below meth c H locs 0 0 Q (F0 m 44 ls []) := by
    intro H locs M ls X hl  _u h
    unfold fX10_readsRound_44 at h
    refine lv_iconst (v := 0) hx hb dX10_readsRound_44 (by decide) ?_
    obtain ⟨u5, eu5, h⟩ := nm_x h
    refine topE eu5 ?_
    refine lv_istore_n (lv' := [(1, .int u5), (0, .ref (ad (cO GM 0)))]) hx hb dX10_readsRound_45 rfl hl (by decide) rfl (fun ls hl => ?_)
    exact L46 FU _ _ u5 M ls X (lv_sub hl [1, 0] rfl)  () h
  have L7 : ∀ (n : Nat) (H : Heap) (locs : List Loc) (x1 : Int32) (M : Mem) (ls : Array Slot), Wd D ad cs GM A s H locs M → lv_has ls 2 [(0, .ref (ad (cO GM 0))), (1, .int x1)] → ∀ (_ : Unit), lpO (fun st => fX10_readsRound_7 st.1 st.2) n (x1, M) = some z → W p l e (rmo 2 86) s m args below meth c H locs 0 0 Q (F0 m 7 ls []) := by
    intro n
    induction n with
    | zero =>
      intro H locs x1 M ls X hl  yy h
      exact lp_0 h
    | succ n1 ih7 =>
      intro H locs x1 M ls X hl  _u h
      obtain ⟨y1, h, hk1⟩ := lp_x h
      unfold fX10_readsRound_7 at h
      refine lv_iload_n hx hb dX10_readsRound_7 rfl (lv_at hl 1 rfl) ?_
      refine lv_aload_n hx hb dX10_readsRound_8 rfl (lv_at hl 0 rfl) ?_
      refine gf_X10_7 F X qM0 dX10_readsRound_9 ?_
      refine lv_iconst (v := 1) hx hb dX10_readsRound_12 (by decide) ?_
      refine r_iald F X (ar_X10_0 qM0) (by decide : inB 1 2) dX10_readsRound_13 ?_
      refine lv_icmp_ge (tgt := 44) hx hb dX10_readsRound_14 (by decide) (fun c6 => ?_) (fun c6 => ?_)
      · have h := it_p h c6
        obtain ⟨_, h, ey⟩ := inr_x h
        rw [ey] at hk1
        have h := h.trans (congrArg some (sm_x hk1))
        exact J44 _ _ M ls X (lv_sub hl [0] rfl)  () h
      · have h := it_n h c6
        refine lv_aload_n hx hb dX10_readsRound_17 rfl (lv_at hl 0 rfl) ?_
        refine gf_X10_13 F X qM0 dX10_readsRound_18 ?_
        refine lv_bipush (v := 31) hx hb dX10_readsRound_21 (by decide) ?_
        refine lv_iload_n hx hb dX10_readsRound_23 rfl (lv_at hl 1 rfl) ?_
        refine lv_iadd hx hb dX10_readsRound_24 ?_
        obtain ⟨hin, h⟩ := gd_x h
        refine r_iald F X (ar_X10_1 qM0) hin dX10_readsRound_25 ?_
        refine lv_bipush (v := 97) hx hb dX10_readsRound_26 (by decide) ?_
        refine lv_bipush (v := 104) hx hb dX10_readsRound_28 (by decide) ?_
        obtain ⟨r7, hr7, h⟩ := bd_x h
        refine r_calli0 X (r_runS F X (kX10_in l D ad cs A  M (M 0 1 (Int32.toNatClampNeg ((31 : Int32) + x1))) 97 104 _ hr7) gm_X10_97 hd_X10_in ⟨Nat.le_of_ble_eq_true rfl, Nat.le_of_ble_eq_true rfl⟩ rfl hl.1 rfl (Nat.le_of_ble_eq_true rfl) dX10_readsRound_30) (fun H locs X => ?_)
        refine lv_if_ne (tgt := 38) hx hb dX10_readsRound_33 (by decide) (fun c8 => ?_) (fun c8 => ?_)
        · have h := it_n h c8
          obtain ⟨u9, eu9, h⟩ := nm_x h
          refine lv_iinc (v := u9) (lv' := [(1, .int u9), (0, .ref (ad (cO GM 0)))]) hx hb dX10_readsRound_38 hl (k := 1) rfl (by rw [eu9]; rfl) (by decide) rfl (fun ls hl => ?_)
          refine lv_goto (tgt := 7) hx hb dX10_readsRound_41 (by decide) ?_
          rw [← sm_x h] at hk1
          exact ih7 _ _ u9 M ls X (lv_sub hl [1, 0] rfl)  () hk1
        · have h := it_p h c8
          refine lv_iload_n hx hb dX10_readsRound_36 rfl (lv_at hl 1 rfl) ?_
          have h := sm_x h
          rw [← h] at hk1
          have h := sm_x hk1
          exact RT H locs _ _ 37 ls X h dX10_readsRound_37
  have h := hz
  unfold fX10_readsRound at h
  refine lv_aload_n hx hb dX10_readsRound_0 rfl (lv_at hl 0 rfl) ?_
  refine lv_iconst (v := 0) hx hb dX10_readsRound_1 (by decide) ?_
  obtain ⟨M10, eM10, h⟩ := nm_x h
  refine pf_X10_117 F X qM0 dX10_readsRound_2 (fun H locs X => ?_)
  have X := Wd_eq eM10 X
  refine lv_iconst (v := 0) hx hb dX10_readsRound_5 (by decide) ?_
  obtain ⟨u11, eu11, h⟩ := nm_x h
  refine topE eu11 ?_
  refine lv_istore_n (lv' := [(1, .int u11), (0, .ref (ad (cO GM 0)))]) hx hb dX10_readsRound_6 rfl hl (by decide) rfl (fun ls hl => ?_)
  exact L7 FU _ _ u11 M10 ls X (lv_sub hl [1, 0] rfl)  () h

/-! ===== X10_faultOf ===== -/
def fX10_faultOf (M : Mem) (a1 : Int32) : Option (Int32 × Mem) :=
  (fX10_readsHeirs M).bind fun r1 =>
  nm (r1.1 : Int32) fun u2 =>
  (fX10_readsRound r1.2).bind fun r3 =>
  nm (r3.1 : Int32) fun u4 =>
  (if a1 = 0 then
    some (u2, r3.2)
  else
    some (u4, r3.2))
set_option maxHeartbeats 4000000 in
set_option maxRecDepth 100000 in
theorem kX10_faultOf (l : Launch) (D : va_G) (ad : Nat → Nat) (cs : Nat → ClassId) (A : Nat → Prop)  (M : Mem) (a1 : Int32) (z : (Int32 × Mem)) (hz : fX10_faultOf M a1 = some z) : Met l yX10_faultOf (wsU yX10_faultOf cX10_faultOf 4 (some .int)) (rmo 4 135) (va_Pc [.ref (ad (cO GM 0)), .int a1] (Wd0 D ad cs GM A M)) (va_Qi (fun r u => (r, u) = z) (Wd0 D ad cs GM A) A) 0 0 A := by
  refine ct_i (by decide) rfl okGM (Nat.le_of_ble_eq_true rfl) ?_
  intro p e s m args below meth c Q ls F X hl RT
  have hx := F.1
  have hb := F.2.1
  have hl : lv_has ls 4 [(0, .ref (ad (cO GM 0))), (1, .int a1)] := hl
  obtain ⟨H, hH⟩ : ∃ H, H = s.heap := ⟨_, rfl⟩
  rw [← hH] at X ⊢
  obtain ⟨locs, hlocs⟩ : ∃ locs : List Loc, locs = [] := ⟨_, rfl⟩
  rw [← hlocs] at X ⊢
  clear hH hlocs
  have h := hz
  unfold fX10_faultOf at h
  refine lv_aload_n hx hb dX10_faultOf_0 rfl (lv_at hl 0 rfl) ?_
  obtain ⟨r1, hr1, h⟩ := bd_x h
  refine r_calli X (r_runV F X (kX10_readsHeirs l D ad cs A  M  _ hr1) gm_X10_120 hd_X10_readsHeirs ⟨Nat.le_of_ble_eq_true rfl, Nat.le_of_ble_eq_true rfl⟩ qM0 rfl rfl hl.1 rfl (Nat.le_of_ble_eq_true rfl) dX10_faultOf_1) (fun H locs X => ?_)
  obtain ⟨u2, eu2, h⟩ := nm_x h
  refine topE eu2 ?_
  refine lv_istore_n (lv' := [(2, .int u2), (0, .ref (ad (cO GM 0))), (1, .int a1)]) hx hb dX10_faultOf_4 rfl hl (by decide) rfl (fun ls hl => ?_)
  refine lv_aload_n hx hb dX10_faultOf_5 rfl (lv_at hl 1 rfl) ?_
  obtain ⟨r3, hr3, h⟩ := bd_x h
  refine r_calli X (r_runV F X (kX10_readsRound l D ad cs A  r1.2  _ hr3) gm_X10_124 hd_X10_readsRound ⟨Nat.le_of_ble_eq_true rfl, Nat.le_of_ble_eq_true rfl⟩ qM0 rfl rfl hl.1 rfl (Nat.le_of_ble_eq_true rfl) dX10_faultOf_6) (fun H locs X => ?_)
  obtain ⟨u4, eu4, h⟩ := nm_x h
  refine topE eu4 ?_
  refine lv_istore_n (lv' := [(3, .int u4), (2, .int u2), (0, .ref (ad (cO GM 0))), (1, .int a1)]) hx hb dX10_faultOf_9 rfl hl (by decide) rfl (fun ls hl => ?_)
  refine lv_iload_n hx hb dX10_faultOf_10 rfl (lv_at hl 3 rfl) ?_
  refine lv_if_ne (tgt := 18) hx hb dX10_faultOf_11 (by decide) (fun c5 => ?_) (fun c5 => ?_)
  · have h := it_n h c5
    refine lv_iload_n hx hb dX10_faultOf_18 rfl (lv_at hl 0 rfl) ?_
    have h := sm_x h
    exact RT H locs _ _ 19 ls X h dX10_faultOf_19
  · have h := it_p h c5
    refine lv_iload_n hx hb dX10_faultOf_14 rfl (lv_at hl 1 rfl) ?_
    refine lv_goto (tgt := 19) hx hb dX10_faultOf_15 (by decide) ?_
    have h := sm_x h
    exact RT H locs _ _ 19 ls X h dX10_faultOf_19

/-! ===== X10_reads ===== -/
def fX10_reads (M : Mem) : Option Mem :=
  (fX10_faultOf M 0).bind fun r1 =>
  nm (r1.1 : Int32) fun u2 =>
  some r1.2
set_option maxHeartbeats 4000000 in
set_option maxRecDepth 100000 in
theorem kX10_reads (l : Launch) (D : va_G) (ad : Nat → Nat) (cs : Nat → ClassId) (A : Nat → Prop)  (M : Mem)  (z : Mem) (hz : fX10_reads M = some z) : Met l yX10_reads (wsU yX10_reads cX10_reads 2 none) (rmo 5 158) (va_Pc [.ref (ad (cO GM 0))] (Wd0 D ad cs GM A M)) (va_Qv (fun u => u = z) (Wd0 D ad cs GM A) A) 0 0 A := by
  refine ct_v (by decide) rfl okGM (Nat.le_of_ble_eq_true rfl) ?_
  intro p e s m args below meth c Q ls F X hl RT
  have hx := F.1
  have hb := F.2.1
  have hl : lv_has ls 2 [(0, .ref (ad (cO GM 0)))] := hl
  obtain ⟨H, hH⟩ : ∃ H, H = s.heap := ⟨_, rfl⟩
  rw [← hH] at X ⊢
  obtain ⟨locs, hlocs⟩ : ∃ locs : List Loc, locs = [] := ⟨_, rfl⟩
  rw [← hlocs] at X ⊢
  clear hH hlocs
  have h := hz
  unfold fX10_reads at h
  refine lv_aload_n hx hb dX10_reads_0 rfl (lv_at hl 0 rfl) ?_
  refine lv_iconst (v := 0) hx hb dX10_reads_1 (by decide) ?_
  obtain ⟨r1, hr1, h⟩ := bd_x h
  refine r_calli X (r_runV F X (kX10_faultOf l D ad cs A  M 0 _ hr1) gm_X10_127 hd_X10_faultOf ⟨Nat.le_of_ble_eq_true rfl, Nat.le_of_ble_eq_true rfl⟩ qM0 rfl rfl hl.1 rfl (Nat.le_of_ble_eq_true rfl) dX10_reads_2) (fun H locs X => ?_)
  obtain ⟨u2, eu2, h⟩ := nm_x h
  refine topE eu2 ?_
  refine lv_istore_n (lv' := [(1, .int u2), (0, .ref (ad (cO GM 0)))]) hx hb dX10_reads_5 rfl hl (by decide) rfl (fun ls hl => ?_)
  have h := sm_x h
  exact RT H locs _ 6 ls X h dX10_reads_6

/-! ===== X10_fault ===== -/
def fX10_fault (M : Mem) (a1 : Int32) : Option (Int32 × Mem) :=
  (fX10_isText a1).bind fun r1 =>
  (if r1 = 0 then
    some ((-2), M)
  else
    (fX10_faultOf M a1).bind fun r3 =>
    some (r3.1, r3.2))
set_option maxHeartbeats 4000000 in
set_option maxRecDepth 100000 in
theorem kX10_fault (l : Launch) (D : va_G) (ad : Nat → Nat) (cs : Nat → ClassId) (A : Nat → Prop)  (M : Mem) (a1 : Int32) (z : (Int32 × Mem)) (hz : fX10_fault M a1 = some z) : Met l yX10_fault (wsU yX10_fault cX10_fault 2 (some .int)) (rmo 5 158) (va_Pc [.ref (ad (cO GM 0)), .int a1] (Wd0 D ad cs GM A M)) (va_Qi (fun r u => (r, u) = z) (Wd0 D ad cs GM A) A) 0 0 A := by
  refine ct_i (by decide) rfl okGM (Nat.le_of_ble_eq_true rfl) ?_
  intro p e s m args below meth c Q ls F X hl RT
  have hx := F.1
  have hb := F.2.1
  have hl : lv_has ls 2 [(0, .ref (ad (cO GM 0))), (1, .int a1)] := hl
  obtain ⟨H, hH⟩ : ∃ H, H = s.heap := ⟨_, rfl⟩
  rw [← hH] at X ⊢
  obtain ⟨locs, hlocs⟩ : ∃ locs : List Loc, locs = [] := ⟨_, rfl⟩
  rw [← hlocs] at X ⊢
  clear hH hlocs
  have h := hz
  unfold fX10_fault at h
  refine lv_iload_n hx hb dX10_fault_0 rfl (lv_at hl 1 rfl) ?_
  obtain ⟨r1, hr1, h⟩ := bd_x h
  refine r_calli0 X (r_runS F X (kX10_isText l D ad cs A  M a1 _ hr1) gm_X10_101 hd_X10_isText ⟨Nat.le_of_ble_eq_true rfl, Nat.le_of_ble_eq_true rfl⟩ rfl hl.1 rfl (Nat.le_of_ble_eq_true rfl) dX10_fault_1) (fun H locs X => ?_)
  refine lv_if_eq (tgt := 15) hx hb dX10_fault_4 (by decide) (fun c2 => ?_) (fun c2 => ?_)
  · have h := it_p h c2
    refine lv_bipush (v := (-2)) hx hb dX10_fault_15 (by decide) ?_
    have h := sm_x h
    exact RT H locs _ _ 17 ls X h dX10_fault_17
  · have h := it_n h c2
    refine lv_aload_n hx hb dX10_fault_7 rfl (lv_at hl 0 rfl) ?_
    refine lv_iload_n hx hb dX10_fault_8 rfl (lv_at hl 1 rfl) ?_
    obtain ⟨r3, hr3, h⟩ := bd_x h
    refine r_calli X (r_runV F X (kX10_faultOf l D ad cs A  M a1 _ hr3) gm_X10_127 hd_X10_faultOf ⟨Nat.le_of_ble_eq_true rfl, Nat.le_of_ble_eq_true rfl⟩ qM0 rfl rfl hl.1 rfl (Nat.le_of_ble_eq_true rfl) dX10_fault_9) (fun H locs X => ?_)
    refine lv_goto (tgt := 17) hx hb dX10_fault_12 (by decide) ?_
    have h := sm_x h
    exact RT H locs _ _ 17 ls X h dX10_fault_17

/-! ===== X10_isHeir ===== -/
def fX10_isHeir (M : Mem) (a1 : Int32) : Option (Int32 × Mem) :=
  (fX10_reads M).bind fun r1 =>
  (fX10_in a1 0 ((r1 0 2 0) - (1 : Int32))).bind fun r2 =>
  gd (r2 = 0 ∨ r2 = 1) <|
  some (r2, r1)
set_option maxHeartbeats 4000000 in
set_option maxRecDepth 100000 in
theorem kX10_isHeir (l : Launch) (D : va_G) (ad : Nat → Nat) (cs : Nat → ClassId) (A : Nat → Prop)  (M : Mem) (a1 : Int32) (z : (Int32 × Mem)) (hz : fX10_isHeir M a1 = some z) : Met l yX10_isHeir (wsU yX10_isHeir cX10_isHeir 2 (some .boolean)) (rmo 6 179) (va_Pc [.ref (ad (cO GM 0)), .int a1] (Wd0 D ad cs GM A M)) (va_Qi (fun r u => (r, u) = z) (Wd0 D ad cs GM A) A) 0 0 A := by
  refine ct_z (by decide) rfl okGM (Nat.le_of_ble_eq_true rfl) ?_
  intro p e s m args below meth c Q ls F X hl RT
  have hx := F.1
  have hb := F.2.1
  have hl : lv_has ls 2 [(0, .ref (ad (cO GM 0))), (1, .int a1)] := hl
  obtain ⟨H, hH⟩ : ∃ H, H = s.heap := ⟨_, rfl⟩
  rw [← hH] at X ⊢
  obtain ⟨locs, hlocs⟩ : ∃ locs : List Loc, locs = [] := ⟨_, rfl⟩
  rw [← hlocs] at X ⊢
  clear hH hlocs
  have h := hz
  unfold fX10_isHeir at h
  refine lv_aload_n hx hb dX10_isHeir_0 rfl (lv_at hl 0 rfl) ?_
  obtain ⟨r1, hr1, h⟩ := bd_x h
  refine r_callv X (r_runV F X (kX10_reads l D ad cs A  M  _ hr1) gm_X10_130 hd_X10_reads ⟨Nat.le_of_ble_eq_true rfl, Nat.le_of_ble_eq_true rfl⟩ qM0 rfl rfl hl.1 rfl (Nat.le_of_ble_eq_true rfl) dX10_isHeir_1) (fun H locs X => ?_)
  refine lv_iload_n hx hb dX10_isHeir_4 rfl (lv_at hl 1 rfl) ?_
  refine lv_iconst (v := 0) hx hb dX10_isHeir_5 (by decide) ?_
  refine lv_aload_n hx hb dX10_isHeir_6 rfl (lv_at hl 0 rfl) ?_
  refine gf_X10_109 F X qM0 dX10_isHeir_7 ?_
  refine lv_iconst (v := 1) hx hb dX10_isHeir_10 (by decide) ?_
  refine lv_isub hx hb dX10_isHeir_11 ?_
  obtain ⟨r2, hr2, h⟩ := bd_x h
  refine r_calli0 X (r_runS F X (kX10_in l D ad cs A  r1 a1 0 ((r1 0 2 0) - (1 : Int32)) _ hr2) gm_X10_97 hd_X10_in ⟨Nat.le_of_ble_eq_true rfl, Nat.le_of_ble_eq_true rfl⟩ rfl hl.1 rfl (Nat.le_of_ble_eq_true rfl) dX10_isHeir_12) (fun H locs X => ?_)
  obtain ⟨h01, h⟩ := gd_x h
  have h := sm_x h
  exact RT H locs _ _ 15 ls X h h01 dX10_isHeir_15

/-! ===== X10_heirOf ===== -/
def fX10_heirOf (M : Mem) (a1 : Int32) (a2 : Int32) : Option Int32 :=
  if a2 = 0 then
    gd (inB a1 9) <|
    some (M 0 3 (Int32.toNatClampNeg a1))
  else
    if a2 = 1 then
      gd (inB a1 9) <|
      some (M 0 4 (Int32.toNatClampNeg a1))
    else
      gd (inB a1 9) <|
      some (M 0 5 (Int32.toNatClampNeg a1))
set_option maxHeartbeats 4000000 in
set_option maxRecDepth 100000 in
theorem kX10_heirOf (l : Launch) (D : va_G) (ad : Nat → Nat) (cs : Nat → ClassId) (A : Nat → Prop)  (M : Mem) (a1 : Int32) (a2 : Int32) (z : Int32) (hz : fX10_heirOf M a1 a2 = some z) : Met l yX10_heirOf (wsU yX10_heirOf cX10_heirOf 3 (some .int)) (rmo 1 64) (va_Pc [.ref (ad (cO GM 0)), .int a1, .int a2] (Wd0 D ad cs GM A M)) (va_Qi (fun r u => (r, u) = (z, M)) (Wd0 D ad cs GM A) A) 0 0 A := by
  refine ct_i0 (by decide) rfl okGM (Nat.le_of_ble_eq_true rfl) ?_
  intro p e s m args below meth c Q ls F X hl RT
  have hx := F.1
  have hb := F.2.1
  have hl : lv_has ls 3 [(0, .ref (ad (cO GM 0))), (1, .int a1), (2, .int a2)] := hl
  obtain ⟨H, hH⟩ : ∃ H, H = s.heap := ⟨_, rfl⟩
  rw [← hH] at X ⊢
  obtain ⟨locs, hlocs⟩ : ∃ locs : List Loc, locs = [] := ⟨_, rfl⟩
  rw [← hlocs] at X ⊢
  clear hH hlocs
  have h := hz
  unfold fX10_heirOf at h
  refine lv_iload_n hx hb dX10_heirOf_0 rfl (lv_at hl 2 rfl) ?_
  refine lv_if_ne (tgt := 13) hx hb dX10_heirOf_1 (by decide) (fun c1 => ?_) (fun c1 => ?_)
  · have h := it_n h c1
    refine lv_iload_n hx hb dX10_heirOf_13 rfl (lv_at hl 2 rfl) ?_
    refine lv_iconst (v := 1) hx hb dX10_heirOf_14 (by decide) ?_
    refine lv_icmp_ne (tgt := 27) hx hb dX10_heirOf_15 (by decide) (fun c2 => ?_) (fun c2 => ?_)
    · have h := it_n h c2
      refine lv_aload_n hx hb dX10_heirOf_27 rfl (lv_at hl 0 rfl) ?_
      refine gf_X10_22 F X qM0 dX10_heirOf_28 ?_
      refine lv_iload_n hx hb dX10_heirOf_31 rfl (lv_at hl 1 rfl) ?_
      obtain ⟨hin, h⟩ := gd_x h
      refine r_iald F X (ar_X10_5 qM0) hin dX10_heirOf_32 ?_
      have h := sm_x h
      exact RT H locs _ 33 ls X h dX10_heirOf_33
    · have h := it_p h c2
      refine lv_aload_n hx hb dX10_heirOf_18 rfl (lv_at hl 0 rfl) ?_
      refine gf_X10_19 F X qM0 dX10_heirOf_19 ?_
      refine lv_iload_n hx hb dX10_heirOf_22 rfl (lv_at hl 1 rfl) ?_
      obtain ⟨hin, h⟩ := gd_x h
      refine r_iald F X (ar_X10_4 qM0) hin dX10_heirOf_23 ?_
      refine lv_goto (tgt := 33) hx hb dX10_heirOf_24 (by decide) ?_
      have h := sm_x h
      exact RT H locs _ 33 ls X h dX10_heirOf_33
  · have h := it_p h c1
    refine lv_aload_n hx hb dX10_heirOf_4 rfl (lv_at hl 0 rfl) ?_
    refine gf_X10_16 F X qM0 dX10_heirOf_5 ?_
    refine lv_iload_n hx hb dX10_heirOf_8 rfl (lv_at hl 1 rfl) ?_
    obtain ⟨hin, h⟩ := gd_x h
    refine r_iald F X (ar_X10_3 qM0) hin dX10_heirOf_9 ?_
    refine lv_goto (tgt := 33) hx hb dX10_heirOf_10 (by decide) ?_
    have h := sm_x h
    exact RT H locs _ 33 ls X h dX10_heirOf_33

/-! ===== X10_heir ===== -/
def fX10_heir (M : Mem) (a1 : Int32) (a2 : Int32) : Option (Int32 × Mem) :=
  (fX10_isHeir M a1).bind fun r1 =>
  (if r1.1 = 0 then
    some ((-2), r1.2)
  else
    (fX10_in a2 0 2).bind fun r3 =>
    (if r3 = 0 then
      some ((-2), r1.2)
    else
      (fX10_heirOf r1.2 a1 a2).bind fun r5 =>
      some (r5, r1.2)))
set_option maxHeartbeats 4000000 in
set_option maxRecDepth 100000 in
theorem kX10_heir (l : Launch) (D : va_G) (ad : Nat → Nat) (cs : Nat → ClassId) (A : Nat → Prop)  (M : Mem) (a1 : Int32) (a2 : Int32) (z : (Int32 × Mem)) (hz : fX10_heir M a1 a2 = some z) : Met l yX10_heir (wsU yX10_heir cX10_heir 3 (some .int)) (rmo 7 200) (va_Pc [.ref (ad (cO GM 0)), .int a1, .int a2] (Wd0 D ad cs GM A M)) (va_Qi (fun r u => (r, u) = z) (Wd0 D ad cs GM A) A) 0 0 A := by
  refine ct_i (by decide) rfl okGM (Nat.le_of_ble_eq_true rfl) ?_
  intro p e s m args below meth c Q ls F X hl RT
  have hx := F.1
  have hb := F.2.1
  have hl : lv_has ls 3 [(0, .ref (ad (cO GM 0))), (1, .int a1), (2, .int a2)] := hl
  obtain ⟨H, hH⟩ : ∃ H, H = s.heap := ⟨_, rfl⟩
  rw [← hH] at X ⊢
  obtain ⟨locs, hlocs⟩ : ∃ locs : List Loc, locs = [] := ⟨_, rfl⟩
  rw [← hlocs] at X ⊢
  clear hH hlocs
  have h := hz
  unfold fX10_heir at h
  refine lv_aload_n hx hb dX10_heir_0 rfl (lv_at hl 0 rfl) ?_
  refine lv_iload_n hx hb dX10_heir_1 rfl (lv_at hl 1 rfl) ?_
  obtain ⟨r1, hr1, h⟩ := bd_x h
  refine r_calli X (r_runV F X (kX10_isHeir l D ad cs A  M a1 _ hr1) gm_X10_133 hd_X10_isHeir ⟨Nat.le_of_ble_eq_true rfl, Nat.le_of_ble_eq_true rfl⟩ qM0 rfl rfl hl.1 rfl (Nat.le_of_ble_eq_true rfl) dX10_heir_2) (fun H locs X => ?_)
  refine lv_if_eq (tgt := 26) hx hb dX10_heir_5 (by decide) (fun c2 => ?_) (fun c2 => ?_)
  · have h := it_p h c2
    refine lv_bipush (v := (-2)) hx hb dX10_heir_26 (by decide) ?_
    have h := sm_x h
    exact RT H locs _ _ 28 ls X h dX10_heir_28
  · have h := it_n h c2
    refine lv_iload_n hx hb dX10_heir_8 rfl (lv_at hl 2 rfl) ?_
    refine lv_iconst (v := 0) hx hb dX10_heir_9 (by decide) ?_
    refine lv_iconst (v := 2) hx hb dX10_heir_10 (by decide) ?_
    obtain ⟨r3, hr3, h⟩ := bd_x h
    refine r_calli0 X (r_runS F X (kX10_in l D ad cs A  r1.2 a2 0 2 _ hr3) gm_X10_97 hd_X10_in ⟨Nat.le_of_ble_eq_true rfl, Nat.le_of_ble_eq_true rfl⟩ rfl hl.1 rfl (Nat.le_of_ble_eq_true rfl) dX10_heir_11) (fun H locs X => ?_)
    refine lv_if_eq (tgt := 26) hx hb dX10_heir_14 (by decide) (fun c4 => ?_) (fun c4 => ?_)
    · have h := it_p h c4
      refine lv_bipush (v := (-2)) hx hb dX10_heir_26 (by decide) ?_
      have h := sm_x h
      exact RT H locs _ _ 28 ls X h dX10_heir_28
    · have h := it_n h c4
      refine lv_aload_n hx hb dX10_heir_17 rfl (lv_at hl 0 rfl) ?_
      refine lv_iload_n hx hb dX10_heir_18 rfl (lv_at hl 1 rfl) ?_
      refine lv_iload_n hx hb dX10_heir_19 rfl (lv_at hl 2 rfl) ?_
      obtain ⟨r5, hr5, h⟩ := bd_x h
      refine r_calli0 X (r_runV F X (kX10_heirOf l D ad cs A  r1.2 a1 a2 _ hr5) gm_X10_136 hd_X10_heirOf ⟨Nat.le_of_ble_eq_true rfl, Nat.le_of_ble_eq_true rfl⟩ qM0 rfl rfl hl.1 rfl (Nat.le_of_ble_eq_true rfl) dX10_heir_20) (fun H locs X => ?_)
      refine lv_goto (tgt := 28) hx hb dX10_heir_23 (by decide) ?_
      have h := sm_x h
      exact RT H locs _ _ 28 ls X h dX10_heir_28

/-! ===== X10_roundOf ===== -/
def fX10_roundOf (M : Mem) (a1 : Int32) : Option (Int32 × Mem) :=
  (fX10_reads M).bind fun r1 =>
  (if (r1 0 6 0) ≤ a1 then
    some ((-1), r1)
  else
    gd (inB a1 20) <|
    some (r1 0 7 (Int32.toNatClampNeg a1), r1))
set_option maxHeartbeats 4000000 in
set_option maxRecDepth 100000 in
theorem kX10_roundOf (l : Launch) (D : va_G) (ad : Nat → Nat) (cs : Nat → ClassId) (A : Nat → Prop)  (M : Mem) (a1 : Int32) (z : (Int32 × Mem)) (hz : fX10_roundOf M a1 = some z) : Met l yX10_roundOf (wsU yX10_roundOf cX10_roundOf 2 (some .int)) (rmo 6 179) (va_Pc [.ref (ad (cO GM 0)), .int a1] (Wd0 D ad cs GM A M)) (va_Qi (fun r u => (r, u) = z) (Wd0 D ad cs GM A) A) 0 0 A := by
  refine ct_i (by decide) rfl okGM (Nat.le_of_ble_eq_true rfl) ?_
  intro p e s m args below meth c Q ls F X hl RT
  have hx := F.1
  have hb := F.2.1
  have hl : lv_has ls 2 [(0, .ref (ad (cO GM 0))), (1, .int a1)] := hl
  obtain ⟨H, hH⟩ : ∃ H, H = s.heap := ⟨_, rfl⟩
  rw [← hH] at X ⊢
  obtain ⟨locs, hlocs⟩ : ∃ locs : List Loc, locs = [] := ⟨_, rfl⟩
  rw [← hlocs] at X ⊢
  clear hH hlocs
  have h := hz
  unfold fX10_roundOf at h
  refine lv_aload_n hx hb dX10_roundOf_0 rfl (lv_at hl 0 rfl) ?_
  obtain ⟨r1, hr1, h⟩ := bd_x h
  refine r_callv X (r_runV F X (kX10_reads l D ad cs A  M  _ hr1) gm_X10_130 hd_X10_reads ⟨Nat.le_of_ble_eq_true rfl, Nat.le_of_ble_eq_true rfl⟩ qM0 rfl rfl hl.1 rfl (Nat.le_of_ble_eq_true rfl) dX10_roundOf_1) (fun H locs X => ?_)
  refine lv_iload_n hx hb dX10_roundOf_4 rfl (lv_at hl 1 rfl) ?_
  refine lv_aload_n hx hb dX10_roundOf_5 rfl (lv_at hl 0 rfl) ?_
  refine gf_X10_117 F X qM0 dX10_roundOf_6 ?_
  refine lv_icmp_ge (tgt := 21) hx hb dX10_roundOf_9 (by decide) (fun c2 => ?_) (fun c2 => ?_)
  · have h := it_p h c2
    refine lv_iconst (v := (-1)) hx hb dX10_roundOf_21 (by decide) ?_
    have h := sm_x h
    exact RT H locs _ _ 22 ls X h dX10_roundOf_22
  · have h := it_n h c2
    refine lv_aload_n hx hb dX10_roundOf_12 rfl (lv_at hl 0 rfl) ?_
    refine gf_X10_25 F X qM0 dX10_roundOf_13 ?_
    refine lv_iload_n hx hb dX10_roundOf_16 rfl (lv_at hl 1 rfl) ?_
    obtain ⟨hin, h⟩ := gd_x h
    refine r_iald F X (ar_X10_7 qM0) hin dX10_roundOf_17 ?_
    refine lv_goto (tgt := 22) hx hb dX10_roundOf_18 (by decide) ?_
    have h := sm_x h
    exact RT H locs _ _ 22 ls X h dX10_roundOf_22

/-! ===== X10_round ===== -/
def fX10_round (M : Mem) (a1 : Int32) : Option (Int32 × Mem) :=
  (fX10_isStop a1).bind fun r1 =>
  (if r1 = 0 then
    some ((-2), M)
  else
    (fX10_roundOf M a1).bind fun r3 =>
    some (r3.1, r3.2))
set_option maxHeartbeats 4000000 in
set_option maxRecDepth 100000 in
theorem kX10_round (l : Launch) (D : va_G) (ad : Nat → Nat) (cs : Nat → ClassId) (A : Nat → Prop)  (M : Mem) (a1 : Int32) (z : (Int32 × Mem)) (hz : fX10_round M a1 = some z) : Met l yX10_round (wsU yX10_round cX10_round 2 (some .int)) (rmo 7 200) (va_Pc [.ref (ad (cO GM 0)), .int a1] (Wd0 D ad cs GM A M)) (va_Qi (fun r u => (r, u) = z) (Wd0 D ad cs GM A) A) 0 0 A := by
  refine ct_i (by decide) rfl okGM (Nat.le_of_ble_eq_true rfl) ?_
  intro p e s m args below meth c Q ls F X hl RT
  have hx := F.1
  have hb := F.2.1
  have hl : lv_has ls 2 [(0, .ref (ad (cO GM 0))), (1, .int a1)] := hl
  obtain ⟨H, hH⟩ : ∃ H, H = s.heap := ⟨_, rfl⟩
  rw [← hH] at X ⊢
  obtain ⟨locs, hlocs⟩ : ∃ locs : List Loc, locs = [] := ⟨_, rfl⟩
  rw [← hlocs] at X ⊢
  clear hH hlocs
  have h := hz
  unfold fX10_round at h
  refine lv_iload_n hx hb dX10_round_0 rfl (lv_at hl 1 rfl) ?_
  obtain ⟨r1, hr1, h⟩ := bd_x h
  refine r_calli0 X (r_runS F X (kX10_isStop l D ad cs A  M a1 _ hr1) gm_X10_139 hd_X10_isStop ⟨Nat.le_of_ble_eq_true rfl, Nat.le_of_ble_eq_true rfl⟩ rfl hl.1 rfl (Nat.le_of_ble_eq_true rfl) dX10_round_1) (fun H locs X => ?_)
  refine lv_if_eq (tgt := 15) hx hb dX10_round_4 (by decide) (fun c2 => ?_) (fun c2 => ?_)
  · have h := it_p h c2
    refine lv_bipush (v := (-2)) hx hb dX10_round_15 (by decide) ?_
    have h := sm_x h
    exact RT H locs _ _ 17 ls X h dX10_round_17
  · have h := it_n h c2
    refine lv_aload_n hx hb dX10_round_7 rfl (lv_at hl 0 rfl) ?_
    refine lv_iload_n hx hb dX10_round_8 rfl (lv_at hl 1 rfl) ?_
    obtain ⟨r3, hr3, h⟩ := bd_x h
    refine r_calli X (r_runV F X (kX10_roundOf l D ad cs A  M a1 _ hr3) gm_X10_142 hd_X10_roundOf ⟨Nat.le_of_ble_eq_true rfl, Nat.le_of_ble_eq_true rfl⟩ qM0 rfl rfl hl.1 rfl (Nat.le_of_ble_eq_true rfl) dX10_round_9) (fun H locs X => ?_)
    refine lv_goto (tgt := 17) hx hb dX10_round_12 (by decide) ?_
    have h := sm_x h
    exact RT H locs _ _ 17 ls X h dX10_round_17

/-! ===== X10_set ===== -/
def fX10_set_23 (a1 : Int32) (a2 : Int32) (v0 : Int32) (v1 : Int32) (v2 : Int32) (M : Mem) : Option (Int32 × Mem) :=
  (fX10_in v2 v1 v0).bind fun r1 =>
  (if r1 = 0 then
    some ((-2), M)
  else
    gd (inB a1 4) <|
    nm (M 0 8 (Int32.toNatClampNeg a1) : Int32) fun u3 =>
    gd (inB a1 4) <|
    nm (wr M 0 8 (Int32.toNatClampNeg a1) a2) fun M4 =>
    some (u3, M4))
def fX10_set (M : Mem) (a1 : Int32) (a2 : Int32) : Option (Int32 × Mem) :=
  (fX10_in a1 0 3).bind fun r5 =>
  (if r5 = 0 then
    some ((-2), M)
  else
    if a1 = 2 then
      fX10_set_23 a1 a2 19 0 a2 M
    else
      fX10_set_23 a1 a2 9 0 a2 M)
set_option maxHeartbeats 4000000 in
set_option maxRecDepth 100000 in
theorem kX10_set (l : Launch) (D : va_G) (ad : Nat → Nat) (cs : Nat → ClassId) (A : Nat → Prop)  (M : Mem) (a1 : Int32) (a2 : Int32) (z : (Int32 × Mem)) (hz : fX10_set M a1 a2 = some z) : Met l yX10_set (wsU yX10_set cX10_set 4 (some .int)) (rmo 2 86) (va_Pc [.ref (ad (cO GM 0)), .int a1, .int a2] (Wd0 D ad cs GM A M)) (va_Qi (fun r u => (r, u) = z) (Wd0 D ad cs GM A) A) 0 0 A := by
  refine ct_i (by decide) rfl okGM (Nat.le_of_ble_eq_true rfl) ?_
  intro p e s m args below meth c Q ls F X hl RT
  have hx := F.1
  have hb := F.2.1
  have hl : lv_has ls 4 [(0, .ref (ad (cO GM 0))), (1, .int a1), (2, .int a2)] := hl
  obtain ⟨H, hH⟩ : ∃ H, H = s.heap := ⟨_, rfl⟩
  rw [← hH] at X ⊢
  obtain ⟨locs, hlocs⟩ : ∃ locs : List Loc, locs = [] := ⟨_, rfl⟩
  rw [← hlocs] at X ⊢
  clear hH hlocs
  have J23 : ∀ (H : Heap) (locs : List Loc) (v0 : Int32) (v1 : Int32) (v2 : Int32) (M : Mem) (ls : Array Slot), Wd D ad cs GM A s H locs M → lv_has ls 4 [(0, .ref (ad (cO GM 0))), (1, .int a1), (2, .int a2)] → ∀ (_ : Unit), fX10_set_23 a1 a2 v0 v1 v2 M = some z → W p l e (rmo 2 86) s m args below meth c H locs 0 0 Q (F0 m 23 ls [.int v0, .int v1, .int v2]) := by
    intro H locs v0 v1 v2 M ls X hl  _u h
    unfold fX10_set_23 at h
    obtain ⟨r1, hr1, h⟩ := bd_x h
    refine r_calli0 X (r_runS F X (kX10_in l D ad cs A  M v2 v1 v0 _ hr1) gm_X10_97 hd_X10_in ⟨Nat.le_of_ble_eq_true rfl, Nat.le_of_ble_eq_true rfl⟩ rfl hl.1 rfl (Nat.le_of_ble_eq_true rfl) dX10_set_23) (fun H locs X => ?_)
    refine lv_if_ne (tgt := 32) hx hb dX10_set_26 (by decide) (fun c2 => ?_) (fun c2 => ?_)
    · have h := it_n h c2
      refine lv_aload_n hx hb dX10_set_32 rfl (lv_at hl 0 rfl) ?_
      refine gf_X10_28 F X qM0 dX10_set_33 ?_
      refine lv_iload_n hx hb dX10_set_36 rfl (lv_at hl 1 rfl) ?_
      obtain ⟨hin, h⟩ := gd_x h
      refine r_iald F X (ar_X10_8 qM0) hin dX10_set_37 ?_
      obtain ⟨u3, eu3, h⟩ := nm_x h
      refine topE eu3 ?_
      refine lv_istore_n (lv' := [(3, .int u3), (0, .ref (ad (cO GM 0))), (1, .int a1), (2, .int a2)]) hx hb dX10_set_38 rfl hl (by decide) rfl (fun ls hl => ?_)
      refine lv_aload_n hx hb dX10_set_39 rfl (lv_at hl 1 rfl) ?_
      refine gf_X10_28 F X qM0 dX10_set_40 ?_
      refine lv_iload_n hx hb dX10_set_43 rfl (lv_at hl 2 rfl) ?_
      refine lv_iload_n hx hb dX10_set_44 rfl (lv_at hl 3 rfl) ?_
      obtain ⟨hin, h⟩ := gd_x h
      obtain ⟨M4, eM4, h⟩ := nm_x h
      refine r_iast F X (ar_X10_8 qM0) hin dX10_set_45 (fun H locs X => ?_)
      have X := Wd_eq eM4 X
      refine lv_iload_n hx hb dX10_set_46 rfl (lv_at hl 0 rfl) ?_
      have h := sm_x h
      exact RT H locs _ _ 47 ls X h dX10_set_47
    · have h := it_p h c2
      refine lv_bipush (v := (-2)) hx hb dX10_set_29 (by decide) ?_
      have h := sm_x h
      exact RT H locs _ _ 31 ls X h dX10_set_31
  have h := hz
  unfold fX10_set at h
  refine lv_iload_n hx hb dX10_set_0 rfl (lv_at hl 1 rfl) ?_
  refine lv_iconst (v := 0) hx hb dX10_set_1 (by decide) ?_
  refine lv_iconst (v := 3) hx hb dX10_set_2 (by decide) ?_
  obtain ⟨r5, hr5, h⟩ := bd_x h
  refine r_calli0 X (r_runS F X (kX10_in l D ad cs A  M a1 0 3 _ hr5) gm_X10_97 hd_X10_in ⟨Nat.le_of_ble_eq_true rfl, Nat.le_of_ble_eq_true rfl⟩ rfl hl.1 rfl (Nat.le_of_ble_eq_true rfl) dX10_set_3) (fun H locs X => ?_)
  refine lv_if_eq (tgt := 29) hx hb dX10_set_6 (by decide) (fun c6 => ?_) (fun c6 => ?_)
  · have h := it_p h c6
    refine lv_bipush (v := (-2)) hx hb dX10_set_29 (by decide) ?_
    have h := sm_x h
    exact RT H locs _ _ 31 ls X h dX10_set_31
  · have h := it_n h c6
    refine lv_iload_n hx hb dX10_set_9 rfl (lv_at hl 2 rfl) ?_
    refine lv_iconst (v := 0) hx hb dX10_set_10 (by decide) ?_
    refine lv_iload_n hx hb dX10_set_11 rfl (lv_at hl 1 rfl) ?_
    refine lv_iconst (v := 2) hx hb dX10_set_12 (by decide) ?_
    refine lv_icmp_ne (tgt := 21) hx hb dX10_set_13 (by decide) (fun c7 => ?_) (fun c7 => ?_)
    · have h := it_n h c7
      refine lv_bipush (v := 9) hx hb dX10_set_21 (by decide) ?_
      exact J23 _ _ 9 0 a2 M ls X (lv_sub hl [0, 1, 2] rfl)  () h
    · have h := it_p h c7
      refine lv_bipush (v := 19) hx hb dX10_set_16 (by decide) ?_
      refine lv_goto (tgt := 23) hx hb dX10_set_18 (by decide) ?_
      exact J23 _ _ 19 0 a2 M ls X (lv_sub hl [0, 1, 2] rfl)  () h

/-! ===== X10_fly ===== -/
def fX10_fly (M : Mem) (a1 : Int32) : Option (Int32 × Mem) :=
  (fX10_isStop a1).bind fun r1 =>
  (if r1 = 0 then
    some ((-2), M)
  else
    if (M 0 9 0) = 6 then
      some ((-4), M)
    else
      gd (inB (M 0 9 0) 6) <|
      nm (wr M 0 10 (Int32.toNatClampNeg (M 0 9 0)) a1) fun M4 =>
      nm (wr M4 0 9 0 ((M4 0 9 0) + (1 : Int32))) fun M5 =>
      some (M5 0 9 0, M5))
set_option maxHeartbeats 4000000 in
set_option maxRecDepth 100000 in
theorem kX10_fly (l : Launch) (D : va_G) (ad : Nat → Nat) (cs : Nat → ClassId) (A : Nat → Prop)  (M : Mem) (a1 : Int32) (z : (Int32 × Mem)) (hz : fX10_fly M a1 = some z) : Met l yX10_fly (wsU yX10_fly cX10_fly 2 (some .int)) (rmo 3 106) (va_Pc [.ref (ad (cO GM 0)), .int a1] (Wd0 D ad cs GM A M)) (va_Qi (fun r u => (r, u) = z) (Wd0 D ad cs GM A) A) 0 0 A := by
  refine ct_i (by decide) rfl okGM (Nat.le_of_ble_eq_true rfl) ?_
  intro p e s m args below meth c Q ls F X hl RT
  have hx := F.1
  have hb := F.2.1
  have hl : lv_has ls 2 [(0, .ref (ad (cO GM 0))), (1, .int a1)] := hl
  obtain ⟨H, hH⟩ : ∃ H, H = s.heap := ⟨_, rfl⟩
  rw [← hH] at X ⊢
  obtain ⟨locs, hlocs⟩ : ∃ locs : List Loc, locs = [] := ⟨_, rfl⟩
  rw [← hlocs] at X ⊢
  clear hH hlocs
  have h := hz
  unfold fX10_fly at h
  refine lv_iload_n hx hb dX10_fly_0 rfl (lv_at hl 1 rfl) ?_
  obtain ⟨r1, hr1, h⟩ := bd_x h
  refine r_calli0 X (r_runS F X (kX10_isStop l D ad cs A  M a1 _ hr1) gm_X10_139 hd_X10_isStop ⟨Nat.le_of_ble_eq_true rfl, Nat.le_of_ble_eq_true rfl⟩ rfl hl.1 rfl (Nat.le_of_ble_eq_true rfl) dX10_fly_1) (fun H locs X => ?_)
  refine lv_if_ne (tgt := 10) hx hb dX10_fly_4 (by decide) (fun c2 => ?_) (fun c2 => ?_)
  · have h := it_n h c2
    refine lv_aload_n hx hb dX10_fly_10 rfl (lv_at hl 0 rfl) ?_
    refine gf_X10_145 F X qM0 dX10_fly_11 ?_
    refine lv_bipush (v := 6) hx hb dX10_fly_14 (by decide) ?_
    refine lv_icmp_ne (tgt := 22) hx hb dX10_fly_16 (by decide) (fun c3 => ?_) (fun c3 => ?_)
    · have h := it_n h c3
      refine lv_aload_n hx hb dX10_fly_22 rfl (lv_at hl 0 rfl) ?_
      refine gf_X10_31 F X qM0 dX10_fly_23 ?_
      refine lv_aload_n hx hb dX10_fly_26 rfl (lv_at hl 0 rfl) ?_
      refine gf_X10_145 F X qM0 dX10_fly_27 ?_
      refine lv_iload_n hx hb dX10_fly_30 rfl (lv_at hl 1 rfl) ?_
      obtain ⟨hin, h⟩ := gd_x h
      obtain ⟨M4, eM4, h⟩ := nm_x h
      refine r_iast F X (ar_X10_10 qM0) hin dX10_fly_31 (fun H locs X => ?_)
      have X := Wd_eq eM4 X
      refine lv_aload_n hx hb dX10_fly_32 rfl (lv_at hl 0 rfl) ?_
      refine lv_dup hx hb dX10_fly_33 rfl ?_
      refine gf_X10_145 F X qM0 dX10_fly_34 ?_
      refine lv_iconst (v := 1) hx hb dX10_fly_37 (by decide) ?_
      refine lv_iadd hx hb dX10_fly_38 ?_
      obtain ⟨M5, eM5, h⟩ := nm_x h
      refine pf_X10_145 F X qM0 dX10_fly_39 (fun H locs X => ?_)
      have X := Wd_eq eM5 X
      refine lv_aload_n hx hb dX10_fly_42 rfl (lv_at hl 0 rfl) ?_
      refine gf_X10_145 F X qM0 dX10_fly_43 ?_
      have h := sm_x h
      exact RT H locs _ _ 46 ls X h dX10_fly_46
    · have h := it_p h c3
      refine lv_bipush (v := (-4)) hx hb dX10_fly_19 (by decide) ?_
      have h := sm_x h
      exact RT H locs _ _ 21 ls X h dX10_fly_21
  · have h := it_p h c2
    refine lv_bipush (v := (-2)) hx hb dX10_fly_7 (by decide) ?_
    have h := sm_x h
    exact RT H locs _ _ 9 ls X h dX10_fly_9

/-! ===== X10_back ===== -/
def fX10_back (M : Mem) : Option (Int32 × Mem) :=
  if (M 0 9 0) = 0 then
    some ((-3), M)
  else
    nm (wr M 0 9 0 ((M 0 9 0) - (1 : Int32))) fun M2 =>
    some (M2 0 9 0, M2)
set_option maxHeartbeats 4000000 in
set_option maxRecDepth 100000 in
theorem kX10_back (l : Launch) (D : va_G) (ad : Nat → Nat) (cs : Nat → ClassId) (A : Nat → Prop)  (M : Mem)  (z : (Int32 × Mem)) (hz : fX10_back M = some z) : Met l yX10_back (wsU yX10_back cX10_back 1 (some .int)) (rmo 1 64) (va_Pc [.ref (ad (cO GM 0))] (Wd0 D ad cs GM A M)) (va_Qi (fun r u => (r, u) = z) (Wd0 D ad cs GM A) A) 0 0 A := by
  refine ct_i (by decide) rfl okGM (Nat.le_of_ble_eq_true rfl) ?_
  intro p e s m args below meth c Q ls F X hl RT
  have hx := F.1
  have hb := F.2.1
  have hl : lv_has ls 1 [(0, .ref (ad (cO GM 0)))] := hl
  obtain ⟨H, hH⟩ : ∃ H, H = s.heap := ⟨_, rfl⟩
  rw [← hH] at X ⊢
  obtain ⟨locs, hlocs⟩ : ∃ locs : List Loc, locs = [] := ⟨_, rfl⟩
  rw [← hlocs] at X ⊢
  clear hH hlocs
  have h := hz
  unfold fX10_back at h
  refine lv_aload_n hx hb dX10_back_0 rfl (lv_at hl 0 rfl) ?_
  refine gf_X10_145 F X qM0 dX10_back_1 ?_
  refine lv_if_ne (tgt := 10) hx hb dX10_back_4 (by decide) (fun c1 => ?_) (fun c1 => ?_)
  · have h := it_n h c1
    refine lv_aload_n hx hb dX10_back_10 rfl (lv_at hl 0 rfl) ?_
    refine lv_dup hx hb dX10_back_11 rfl ?_
    refine gf_X10_145 F X qM0 dX10_back_12 ?_
    refine lv_iconst (v := 1) hx hb dX10_back_15 (by decide) ?_
    refine lv_isub hx hb dX10_back_16 ?_
    obtain ⟨M2, eM2, h⟩ := nm_x h
    refine pf_X10_145 F X qM0 dX10_back_17 (fun H locs X => ?_)
    have X := Wd_eq eM2 X
    refine lv_aload_n hx hb dX10_back_20 rfl (lv_at hl 0 rfl) ?_
    refine gf_X10_145 F X qM0 dX10_back_21 ?_
    have h := sm_x h
    exact RT H locs _ _ 24 ls X h dX10_back_24
  · have h := it_p h c1
    refine lv_bipush (v := (-3)) hx hb dX10_back_7 (by decide) ?_
    have h := sm_x h
    exact RT H locs _ _ 9 ls X h dX10_back_9

/-! ===== X10_isSheet ===== -/
def fX10_isSheet (a0 : Int32) : Option Int32 :=
  (fX10_in a0 0 3).bind fun r1 =>
  gd (r1 = 0 ∨ r1 = 1) <|
  some r1
set_option maxHeartbeats 4000000 in
set_option maxRecDepth 100000 in
theorem kX10_isSheet (l : Launch) (D : va_G) (ad : Nat → Nat) (cs : Nat → ClassId) (A : Nat → Prop)  (M : Mem) (a0 : Int32) (z : Int32) (hz : fX10_isSheet a0 = some z) : Met l yX10_isSheet (wsU yX10_isSheet cX10_isSheet 1 (some .boolean)) (rmo 2 86) (va_Pc [.int a0] (Wd0 D ad cs GM A M)) (va_Qi (fun r u => (r, u) = (z, M)) (Wd0 D ad cs GM A) A) 0 0 A := by
  refine ct_z0 (by decide) rfl okGM (Nat.le_of_ble_eq_true rfl) ?_
  intro p e s m args below meth c Q ls F X hl RT
  have hx := F.1
  have hb := F.2.1
  have hl : lv_has ls 1 [(0, .int a0)] := hl
  obtain ⟨H, hH⟩ : ∃ H, H = s.heap := ⟨_, rfl⟩
  rw [← hH] at X ⊢
  obtain ⟨locs, hlocs⟩ : ∃ locs : List Loc, locs = [] := ⟨_, rfl⟩
  rw [← hlocs] at X ⊢
  clear hH hlocs
  have h := hz
  unfold fX10_isSheet at h
  refine lv_iload_n hx hb dX10_isSheet_0 rfl (lv_at hl 0 rfl) ?_
  refine lv_iconst (v := 0) hx hb dX10_isSheet_1 (by decide) ?_
  refine lv_iconst (v := 3) hx hb dX10_isSheet_2 (by decide) ?_
  obtain ⟨r1, hr1, h⟩ := bd_x h
  refine r_calli0 X (r_runS F X (kX10_in l D ad cs A  M a0 0 3 _ hr1) gm_X10_97 hd_X10_in ⟨Nat.le_of_ble_eq_true rfl, Nat.le_of_ble_eq_true rfl⟩ rfl hl.1 rfl (Nat.le_of_ble_eq_true rfl) dX10_isSheet_3) (fun H locs X => ?_)
  obtain ⟨h01, h⟩ := gd_x h
  have h := sm_x h
  exact RT H locs _ 6 ls X h h01 dX10_isSheet_6

/-! ===== X10_meets ===== -/
def fX10_meets (M : Mem) (a1 : Int32) : Option (Int32 × Mem) :=
  nm (wr M 0 41 0 a1) fun M1 =>
  some ((-10 : Int32) - a1, M1)
set_option maxHeartbeats 4000000 in
set_option maxRecDepth 100000 in
theorem kX10_meets (l : Launch) (D : va_G) (ad : Nat → Nat) (cs : Nat → ClassId) (A : Nat → Prop)  (M : Mem) (a1 : Int32) (z : (Int32 × Mem)) (hz : fX10_meets M a1 = some z) : Met l yX10_meets (wsU yX10_meets cX10_meets 2 (some .int)) (rmo 1 64) (va_Pc [.ref (ad (cO GM 0)), .int a1] (Wd0 D ad cs GM A M)) (va_Qi (fun r u => (r, u) = z) (Wd0 D ad cs GM A) A) 0 0 A := by
  refine ct_i (by decide) rfl okGM (Nat.le_of_ble_eq_true rfl) ?_
  intro p e s m args below meth c Q ls F X hl RT
  have hx := F.1
  have hb := F.2.1
  have hl : lv_has ls 2 [(0, .ref (ad (cO GM 0))), (1, .int a1)] := hl
  obtain ⟨H, hH⟩ : ∃ H, H = s.heap := ⟨_, rfl⟩
  rw [← hH] at X ⊢
  obtain ⟨locs, hlocs⟩ : ∃ locs : List Loc, locs = [] := ⟨_, rfl⟩
  rw [← hlocs] at X ⊢
  clear hH hlocs
  have h := hz
  unfold fX10_meets at h
  refine lv_aload_n hx hb dX10_meets_0 rfl (lv_at hl 0 rfl) ?_
  refine lv_iload_n hx hb dX10_meets_1 rfl (lv_at hl 1 rfl) ?_
  obtain ⟨M1, eM1, h⟩ := nm_x h
  refine pf_X10_305 F X qM0 dX10_meets_2 (fun H locs X => ?_)
  have X := Wd_eq eM1 X
  refine lv_bipush (v := (-10)) hx hb dX10_meets_5 (by decide) ?_
  refine lv_iload_n hx hb dX10_meets_7 rfl (lv_at hl 1 rfl) ?_
  refine lv_isub hx hb dX10_meets_8 ?_
  have h := sm_x h
  exact RT H locs _ _ 9 ls X h dX10_meets_9

/-! ===== X10_read ===== -/
def fX10_read_27 (a1 : Int32) (x2 : Int32) (M : Mem) : Option ((Int32 × Mem) ⊕ (Int32 × Mem)) :=
  gd (inB a1 4) <|
  (if (M 0 38 (Int32.toNatClampNeg a1)) ≤ x2 then
    some (.inr (x2, M))
  else
    gd (inB (((60 : Int32) * a1) + x2) 240) <|
    (fX10_fly M (M 0 39 (Int32.toNatClampNeg (((60 : Int32) * a1) + x2)))).bind fun r2 =>
    (if r2.1 ≤ 0 then
      some (.inr (x2, r2.2))
    else
      nm (x2 + 1 : Int32) fun u4 =>
      some (.inl (u4, r2.2))))
def fX10_read (M : Mem) (a1 : Int32) : Option (Int32 × Mem) :=
  (fX10_isSheet a1).bind fun r5 =>
  (if r5 = 0 then
    some ((-2), M)
  else
    gd (inB a1 4) <|
    (if (M 0 36 (Int32.toNatClampNeg a1)) = 0 then
      (fX10_meets M 1).bind fun r9 =>
      some (r9.1, r9.2)
    else
      nm (0 : Int32) fun u8 =>
      lpO (fun st => fX10_read_27 a1 st.1 st.2) FU (u8, M)))
set_option maxHeartbeats 4000000 in
set_option maxRecDepth 100000 in
theorem kX10_read (l : Launch) (D : va_G) (ad : Nat → Nat) (cs : Nat → ClassId) (A : Nat → Prop)  (M : Mem) (a1 : Int32) (z : (Int32 × Mem)) (hz : fX10_read M a1 = some z) : Met l yX10_read (wsU yX10_read cX10_read 3 (some .int)) (rmo 4 127) (va_Pc [.ref (ad (cO GM 0)), .int a1] (Wd0 D ad cs GM A M)) (va_Qi (fun r u => (r, u) = z) (Wd0 D ad cs GM A) A) 0 0 A := by
  refine ct_i (by decide) rfl okGM (Nat.le_of_ble_eq_true rfl) ?_
  intro p e s m args below meth c Q ls F X hl RT
  have hx := F.1
  have hb := F.2.1
  have hl : lv_has ls 3 [(0, .ref (ad (cO GM 0))), (1, .int a1)] := hl
  obtain ⟨H, hH⟩ : ∃ H, H = s.heap := ⟨_, rfl⟩
  rw [← hH] at X ⊢
  obtain ⟨locs, hlocs⟩ : ∃ locs : List Loc, locs = [] := ⟨_, rfl⟩
  rw [← hlocs] at X ⊢
  clear hH hlocs
  have L27 : ∀ (n : Nat) (H : Heap) (locs : List Loc) (x2 : Int32) (M : Mem) (ls : Array Slot), Wd D ad cs GM A s H locs M → lv_has ls 3 [(0, .ref (ad (cO GM 0))), (1, .int a1), (2, .int x2)] → ∀ (_ : Unit), lpO (fun st => fX10_read_27 a1 st.1 st.2) n (x2, M) = some z → W p l e (rmo 4 127) s m args below meth c H locs 0 0 Q (F0 m 27 ls []) := by
    intro n
    induction n with
    | zero =>
      intro H locs x2 M ls X hl  yy h
      exact lp_0 h
    | succ n1 ih27 =>
      intro H locs x2 M ls X hl  _u h
      obtain ⟨y1, h, hk1⟩ := lp_x h
      unfold fX10_read_27 at h
      refine lv_iload_n hx hb dX10_read_27 rfl (lv_at hl 2 rfl) ?_
      refine lv_aload_n hx hb dX10_read_28 rfl (lv_at hl 0 rfl) ?_
      refine gf_X10_86 F X qM0 dX10_read_29 ?_
      refine lv_iload_n hx hb dX10_read_32 rfl (lv_at hl 1 rfl) ?_
      obtain ⟨hin, h⟩ := gd_x h
      refine r_iald F X (ar_X10_38 qM0) hin dX10_read_33 ?_
      refine lv_icmp_ge (tgt := 61) hx hb dX10_read_34 (by decide) (fun c1 => ?_) (fun c1 => ?_)
      · have h := it_p h c1
        refine lv_iload_n hx hb dX10_read_61 rfl (lv_at hl 2 rfl) ?_
        have h := sm_x h
        rw [← h] at hk1
        have h := sm_x hk1
        exact RT H locs _ _ 62 ls X h dX10_read_62
      · have h := it_n h c1
        refine lv_aload_n hx hb dX10_read_37 rfl (lv_at hl 0 rfl) ?_
        refine lv_aload_n hx hb dX10_read_38 rfl (lv_at hl 0 rfl) ?_
        refine gf_X10_89 F X qM0 dX10_read_39 ?_
        refine lv_bipush (v := 60) hx hb dX10_read_42 (by decide) ?_
        refine lv_iload_n hx hb dX10_read_44 rfl (lv_at hl 1 rfl) ?_
        refine lv_imul hx hb dX10_read_45 ?_
        refine lv_iload_n hx hb dX10_read_46 rfl (lv_at hl 2 rfl) ?_
        refine lv_iadd hx hb dX10_read_47 ?_
        obtain ⟨hin, h⟩ := gd_x h
        refine r_iald F X (ar_X10_39 qM0) hin dX10_read_48 ?_
        obtain ⟨r2, hr2, h⟩ := bd_x h
        refine r_calli X (r_runV F X (kX10_fly l D ad cs A  M (M 0 39 (Int32.toNatClampNeg (((60 : Int32) * a1) + x2))) _ hr2) gm_X10_154 hd_X10_fly ⟨Nat.le_of_ble_eq_true rfl, Nat.le_of_ble_eq_true rfl⟩ qM0 rfl rfl hl.1 rfl (Nat.le_of_ble_eq_true rfl) dX10_read_49) (fun H locs X => ?_)
        refine lv_if_le (tgt := 61) hx hb dX10_read_52 (by decide) (fun c3 => ?_) (fun c3 => ?_)
        · have h := it_p h c3
          refine lv_iload_n hx hb dX10_read_61 rfl (lv_at hl 2 rfl) ?_
          have h := sm_x h
          rw [← h] at hk1
          have h := sm_x hk1
          exact RT H locs _ _ 62 ls X h dX10_read_62
        · have h := it_n h c3
          obtain ⟨u4, eu4, h⟩ := nm_x h
          refine lv_iinc (v := u4) (lv' := [(2, .int u4), (0, .ref (ad (cO GM 0))), (1, .int a1)]) hx hb dX10_read_55 hl (k := 2) rfl (by rw [eu4]; rfl) (by decide) rfl (fun ls hl => ?_)
          refine lv_goto (tgt := 27) hx hb dX10_read_58 (by decide) ?_
          rw [← sm_x h] at hk1
          exact ih27 _ _ u4 r2.2 ls X (lv_sub hl [1, 2, 0] rfl)  () hk1
  have h := hz
  unfold fX10_read at h
  refine lv_iload_n hx hb dX10_read_0 rfl (lv_at hl 1 rfl) ?_
  obtain ⟨r5, hr5, h⟩ := bd_x h
  refine r_calli0 X (r_runS F X (kX10_isSheet l D ad cs A  M a1 _ hr5) gm_X10_148 hd_X10_isSheet ⟨Nat.le_of_ble_eq_true rfl, Nat.le_of_ble_eq_true rfl⟩ rfl hl.1 rfl (Nat.le_of_ble_eq_true rfl) dX10_read_1) (fun H locs X => ?_)
  refine lv_if_ne (tgt := 10) hx hb dX10_read_4 (by decide) (fun c6 => ?_) (fun c6 => ?_)
  · have h := it_n h c6
    refine lv_aload_n hx hb dX10_read_10 rfl (lv_at hl 0 rfl) ?_
    refine gf_X10_79 F X qM0 dX10_read_11 ?_
    refine lv_iload_n hx hb dX10_read_14 rfl (lv_at hl 1 rfl) ?_
    obtain ⟨hin, h⟩ := gd_x h
    refine r_zald F X (ar_X10_36 qM0) hin dX10_read_15 ?_
    refine lv_if_ne (tgt := 25) hx hb dX10_read_16 (by decide) (fun c7 => ?_) (fun c7 => ?_)
    · have h := it_n h c7
      refine lv_iconst (v := 0) hx hb dX10_read_25 (by decide) ?_
      obtain ⟨u8, eu8, h⟩ := nm_x h
      refine topE eu8 ?_
      refine lv_istore_n (lv' := [(2, .int u8), (0, .ref (ad (cO GM 0))), (1, .int a1)]) hx hb dX10_read_26 rfl hl (by decide) rfl (fun ls hl => ?_)
      exact L27 FU _ _ u8 M ls X (lv_sub hl [1, 2, 0] rfl)  () h
    · have h := it_p h c7
      refine lv_aload_n hx hb dX10_read_19 rfl (lv_at hl 0 rfl) ?_
      refine lv_iconst (v := 1) hx hb dX10_read_20 (by decide) ?_
      obtain ⟨r9, hr9, h⟩ := bd_x h
      refine r_calli X (r_runV F X (kX10_meets l D ad cs A  M 1 _ hr9) gm_X10_151 hd_X10_meets ⟨Nat.le_of_ble_eq_true rfl, Nat.le_of_ble_eq_true rfl⟩ qM0 rfl rfl hl.1 rfl (Nat.le_of_ble_eq_true rfl) dX10_read_21) (fun H locs X => ?_)
      have h := sm_x h
      exact RT H locs _ _ 24 ls X h dX10_read_24
  · have h := it_p h c6
    refine lv_bipush (v := (-2)) hx hb dX10_read_7 (by decide) ?_
    have h := sm_x h
    exact RT H locs _ _ 9 ls X h dX10_read_9

/-! ===== X10_fliesBut ===== -/
def fX10_fliesBut_33 (M : Mem) (a1 : Int32) (x3 : Int32) (v0 : Int32) (v1 : Int32) : Option ((Int32 × Int32) ⊕ Int32) :=
  nm (v1 ||| v0 : Int32) fun u1 =>
  nm (x3 + 1 : Int32) fun u2 =>
  some (.inl (u1, u2))
def fX10_fliesBut_4 (M : Mem) (a1 : Int32) (x2 : Int32) (x3 : Int32) : Option ((Int32 × Int32) ⊕ Int32) :=
  if (M 0 9 0) ≤ x3 then
    some (.inr x2)
  else
    (fX10_isIn a1 x3).bind fun r4 =>
    (if r4 = 0 then
      gd (inB x3 6) <|
      fX10_fliesBut_33 M a1 x3 ((1 : Int32) <<< ((M 0 10 (Int32.toNatClampNeg x3)) &&& 31)) x2
    else
      fX10_fliesBut_33 M a1 x3 0 x2)
def fX10_fliesBut (M : Mem) (a1 : Int32) : Option Int32 :=
  nm (0 : Int32) fun u6 =>
  nm (0 : Int32) fun u7 =>
  lpO (fun st => fX10_fliesBut_4 M a1 st.1 st.2) FU (u6, u7)
set_option maxHeartbeats 4000000 in
set_option maxRecDepth 100000 in
theorem kX10_fliesBut (l : Launch) (D : va_G) (ad : Nat → Nat) (cs : Nat → ClassId) (A : Nat → Prop)  (M : Mem) (a1 : Int32) (z : Int32) (hz : fX10_fliesBut M a1 = some z) : Met l yX10_fliesBut (wsU yX10_fliesBut cX10_fliesBut 4 (some .int)) (rmo 2 85) (va_Pc [.ref (ad (cO GM 0)), .int a1] (Wd0 D ad cs GM A M)) (va_Qi (fun r u => (r, u) = (z, M)) (Wd0 D ad cs GM A) A) 0 0 A := by
  refine ct_i0 (by decide) rfl okGM (Nat.le_of_ble_eq_true rfl) ?_
  intro p e s m args below meth c Q ls F X hl RT
  have hx := F.1
  have hb := F.2.1
  have hl : lv_has ls 4 [(0, .ref (ad (cO GM 0))), (1, .int a1)] := hl
  obtain ⟨H, hH⟩ : ∃ H, H = s.heap := ⟨_, rfl⟩
  rw [← hH] at X ⊢
  obtain ⟨locs, hlocs⟩ : ∃ locs : List Loc, locs = [] := ⟨_, rfl⟩
  rw [← hlocs] at X ⊢
  clear hH hlocs
  have L4 : ∀ (n : Nat) (H : Heap) (locs : List Loc) (x2 : Int32) (x3 : Int32) (ls : Array Slot), Wd D ad cs GM A s H locs M → lv_has ls 4 [(0, .ref (ad (cO GM 0))), (1, .int a1), (2, .int x2), (3, .int x3)] → ∀ (_ : Unit), lpO (fun st => fX10_fliesBut_4 M a1 st.1 st.2) n (x2, x3) = some z → W p l e (rmo 2 85) s m args below meth c H locs 0 0 Q (F0 m 4 ls []) := by
    intro n
    induction n with
    | zero =>
      intro H locs x2 x3 ls X hl  yy h
      exact lp_0 h
    | succ n1 ih4 =>
      intro H locs x2 x3 ls X hl  _u h
      obtain ⟨y1, h, hk1⟩ := lp_x h
      have J33 : ∀ (H : Heap) (locs : List Loc) (x3 : Int32) (v0 : Int32) (v1 : Int32) (ls : Array Slot), Wd D ad cs GM A s H locs M → lv_has ls 4 [(0, .ref (ad (cO GM 0))), (1, .int a1), (3, .int x3)] → ∀ (y1 : ((Int32 × Int32) ⊕ Int32)), fX10_fliesBut_33 M a1 x3 v0 v1 = some y1 → lpK (fun st => fX10_fliesBut_4 M a1 st.1 st.2) n1 y1 = some z → W p l e (rmo 2 85) s m args below meth c H locs 0 0 Q (F0 m 33 ls [.int v0, .int v1]) := by
        intro H locs x3 v0 v1 ls X hl  y1 h hk1
        unfold fX10_fliesBut_33 at h
        refine lv_ior hx hb dX10_fliesBut_33 ?_
        obtain ⟨u1, eu1, h⟩ := nm_x h
        refine topE eu1 ?_
        refine lv_istore_n (lv' := [(2, .int u1), (0, .ref (ad (cO GM 0))), (1, .int a1), (3, .int x3)]) hx hb dX10_fliesBut_34 rfl hl (by decide) rfl (fun ls hl => ?_)
        obtain ⟨u2, eu2, h⟩ := nm_x h
        refine lv_iinc (v := u2) (lv' := [(3, .int u2), (2, .int u1), (0, .ref (ad (cO GM 0))), (1, .int a1)]) hx hb dX10_fliesBut_35 hl (k := 3) rfl (by rw [eu2]; rfl) (by decide) rfl (fun ls hl => ?_)
        refine lv_goto (tgt := 4) hx hb dX10_fliesBut_38 (by decide) ?_
        rw [← sm_x h] at hk1
        exact ih4 _ _ u1 u2 ls X (lv_sub hl [2, 3, 1, 0] rfl)  () hk1
      unfold fX10_fliesBut_4 at h
      refine lv_iload_n hx hb dX10_fliesBut_4 rfl (lv_at hl 3 rfl) ?_
      refine lv_aload_n hx hb dX10_fliesBut_5 rfl (lv_at hl 0 rfl) ?_
      refine gf_X10_145 F X qM0 dX10_fliesBut_6 ?_
      refine lv_icmp_ge (tgt := 41) hx hb dX10_fliesBut_9 (by decide) (fun c3 => ?_) (fun c3 => ?_)
      · have h := it_p h c3
        refine lv_iload_n hx hb dX10_fliesBut_41 rfl (lv_at hl 2 rfl) ?_
        have h := sm_x h
        rw [← h] at hk1
        have h := sm_x hk1
        exact RT H locs _ 42 ls X h dX10_fliesBut_42
      · have h := it_n h c3
        refine lv_iload_n hx hb dX10_fliesBut_12 rfl (lv_at hl 2 rfl) ?_
        refine lv_iload_n hx hb dX10_fliesBut_13 rfl (lv_at hl 1 rfl) ?_
        refine lv_iload_n hx hb dX10_fliesBut_14 rfl (lv_at hl 3 rfl) ?_
        obtain ⟨r4, hr4, h⟩ := bd_x h
        refine r_calli0 X (r_runS F X (kX10_isIn l D ad cs A  M a1 x3 _ hr4) gm_X10_157 hd_X10_isIn ⟨Nat.le_of_ble_eq_true rfl, Nat.le_of_ble_eq_true rfl⟩ rfl hl.1 rfl (Nat.le_of_ble_eq_true rfl) dX10_fliesBut_15) (fun H locs X => ?_)
        refine lv_if_eq (tgt := 25) hx hb dX10_fliesBut_18 (by decide) (fun c5 => ?_) (fun c5 => ?_)
        · have h := it_p h c5
          refine lv_iconst (v := 1) hx hb dX10_fliesBut_25 (by decide) ?_
          refine lv_aload_n hx hb dX10_fliesBut_26 rfl (lv_at hl 0 rfl) ?_
          refine gf_X10_31 F X qM0 dX10_fliesBut_27 ?_
          refine lv_iload_n hx hb dX10_fliesBut_30 rfl (lv_at hl 3 rfl) ?_
          obtain ⟨hin, h⟩ := gd_x h
          refine r_iald F X (ar_X10_10 qM0) hin dX10_fliesBut_31 ?_
          refine lv_ishl hx hb dX10_fliesBut_32 ?_
          exact J33 _ _ x3 ((1 : Int32) <<< ((M 0 10 (Int32.toNatClampNeg x3)) &&& 31)) x2 ls X (lv_sub hl [0, 1, 3] rfl)  _ h hk1
        · have h := it_n h c5
          refine lv_iconst (v := 0) hx hb dX10_fliesBut_21 (by decide) ?_
          refine lv_goto (tgt := 33) hx hb dX10_fliesBut_22 (by decide) ?_
          exact J33 _ _ x3 0 x2 ls X (lv_sub hl [0, 1, 3] rfl)  _ h hk1
  have h := hz
  unfold fX10_fliesBut at h
  refine lv_iconst (v := 0) hx hb dX10_fliesBut_0 (by decide) ?_
  obtain ⟨u6, eu6, h⟩ := nm_x h
  refine topE eu6 ?_
  refine lv_istore_n (lv' := [(2, .int u6), (0, .ref (ad (cO GM 0))), (1, .int a1)]) hx hb dX10_fliesBut_1 rfl hl (by decide) rfl (fun ls hl => ?_)
  refine lv_iconst (v := 0) hx hb dX10_fliesBut_2 (by decide) ?_
  obtain ⟨u7, eu7, h⟩ := nm_x h
  refine topE eu7 ?_
  refine lv_istore_n (lv' := [(3, .int u7), (2, .int u6), (0, .ref (ad (cO GM 0))), (1, .int a1)]) hx hb dX10_fliesBut_3 rfl hl (by decide) rfl (fun ls hl => ?_)
  exact L4 FU _ _ u6 u7 ls X (lv_sub hl [2, 3, 1, 0] rfl)  () h

/-! ===== X10_asTold ===== -/
def fX10_asTold_40  (M : Mem) : Option Mem :=
  (fX10_fliesBut M 0).bind fun r1 =>
  nm (wr M 0 13 0 r1) fun M2 =>
  nm (wr M2 0 14 0 (-1)) fun M3 =>
  some M3
def fX10_asTold_14  (x1 : Int32) (M : Mem) : Option ((Int32 × Mem) ⊕ Mem) :=
  if (M 0 11 0) ≤ x1 then
    inr' (fX10_asTold_40 M)
  else
    gd (inB x1 20) <|
    gd (inB x1 20) <|
    nm (wr M 0 12 (Int32.toNatClampNeg x1) (M 0 7 (Int32.toNatClampNeg x1))) fun M5 =>
    nm (x1 + 1 : Int32) fun u6 =>
    some (.inl (u6, M5))
def fX10_asTold (M : Mem) : Option Mem :=
  (fX10_reads M).bind fun r7 =>
  nm (wr r7 0 11 0 (r7 0 6 0)) fun M8 =>
  nm (0 : Int32) fun u9 =>
  lpO (fun st => fX10_asTold_14 st.1 st.2) FU (u9, M8)
set_option maxHeartbeats 4000000 in
set_option maxRecDepth 100000 in
theorem kX10_asTold (l : Launch) (D : va_G) (ad : Nat → Nat) (cs : Nat → ClassId) (A : Nat → Prop)  (M : Mem)  (z : Mem) (hz : fX10_asTold M = some z) : Met l yX10_asTold (wsU yX10_asTold cX10_asTold 2 none) (rmo 6 179) (va_Pc [.ref (ad (cO GM 0))] (Wd0 D ad cs GM A M)) (va_Qv (fun u => u = z) (Wd0 D ad cs GM A) A) 0 0 A := by
  refine ct_v (by decide) rfl okGM (Nat.le_of_ble_eq_true rfl) ?_
  intro p e s m args below meth c Q ls F X hl RT
  have hx := F.1
  have hb := F.2.1
  have hl : lv_has ls 2 [(0, .ref (ad (cO GM 0)))] := hl
  obtain ⟨H, hH⟩ : ∃ H, H = s.heap := ⟨_, rfl⟩
  rw [← hH] at X ⊢
  obtain ⟨locs, hlocs⟩ : ∃ locs : List Loc, locs = [] := ⟨_, rfl⟩
  rw [← hlocs] at X ⊢
  clear hH hlocs
  have J40 : ∀ (H : Heap) (locs : List Loc) (M : Mem) (ls : Array Slot), Wd D ad cs GM A s H locs M → lv_has ls 2 [(0, .ref (ad (cO GM 0)))] → ∀ (_ : Unit), fX10_asTold_40 M = some z → W p l e (rmo 6 179) s m args below meth c H locs 0 0 Q (F0 m 40 ls []) := by
    intro H locs M ls X hl  _u h
    unfold fX10_asTold_40 at h
    refine lv_aload_n hx hb dX10_asTold_40 rfl (lv_at hl 0 rfl) ?_
    refine lv_aload_n hx hb dX10_asTold_41 rfl (lv_at hl 0 rfl) ?_
    refine lv_iconst (v := 0) hx hb dX10_asTold_42 (by decide) ?_
    obtain ⟨r1, hr1, h⟩ := bd_x h
    refine r_calli0 X (r_runV F X (kX10_fliesBut l D ad cs A  M 0 _ hr1) gm_X10_164 hd_X10_fliesBut ⟨Nat.le_of_ble_eq_true rfl, Nat.le_of_ble_eq_true rfl⟩ qM0 rfl rfl hl.1 rfl (Nat.le_of_ble_eq_true rfl) dX10_asTold_43) (fun H locs X => ?_)
    obtain ⟨M2, eM2, h⟩ := nm_x h
    refine pf_X10_167 F X qM0 dX10_asTold_46 (fun H locs X => ?_)
    have X := Wd_eq eM2 X
    refine lv_aload_n hx hb dX10_asTold_49 rfl (lv_at hl 0 rfl) ?_
    refine lv_iconst (v := (-1)) hx hb dX10_asTold_50 (by decide) ?_
    obtain ⟨M3, eM3, h⟩ := nm_x h
    refine pf_X10_170 F X qM0 dX10_asTold_51 (fun H locs X => ?_)
    have X := Wd_eq eM3 X
    have h := sm_x h
    exact RT H locs _ 54 ls X h dX10_asTold_54
  have L14 : ∀ (n : Nat) (H : Heap) (locs : List Loc) (x1 : Int32) (M : Mem) (ls : Array Slot), Wd D ad cs GM A s H locs M → lv_has ls 2 [(0, .ref (ad (cO GM 0))), (1, .int x1)] → ∀ (_ : Unit), lpO (fun st => fX10_asTold_14 st.1 st.2) n (x1, M) = some z → W p l e (rmo 6 179) s m args below meth c H locs 0 0 Q (F0 m 14 ls []) := by
    intro n
    induction n with
    | zero =>
      intro H locs x1 M ls X hl  yy h
      exact lp_0 h
    | succ n1 ih14 =>
      intro H locs x1 M ls X hl  _u h
      obtain ⟨y1, h, hk1⟩ := lp_x h
      unfold fX10_asTold_14 at h
      refine lv_iload_n hx hb dX10_asTold_14 rfl (lv_at hl 1 rfl) ?_
      refine lv_aload_n hx hb dX10_asTold_15 rfl (lv_at hl 0 rfl) ?_
      refine gf_X10_161 F X qM0 dX10_asTold_16 ?_
      refine lv_icmp_ge (tgt := 40) hx hb dX10_asTold_19 (by decide) (fun c4 => ?_) (fun c4 => ?_)
      · have h := it_p h c4
        obtain ⟨_, h, ey⟩ := inr_x h
        rw [ey] at hk1
        have h := h.trans (congrArg some (sm_x hk1))
        exact J40 _ _ M ls X (lv_sub hl [0] rfl)  () h
      · have h := it_n h c4
        refine lv_aload_n hx hb dX10_asTold_22 rfl (lv_at hl 0 rfl) ?_
        refine gf_X10_34 F X qM0 dX10_asTold_23 ?_
        refine lv_iload_n hx hb dX10_asTold_26 rfl (lv_at hl 1 rfl) ?_
        refine lv_aload_n hx hb dX10_asTold_27 rfl (lv_at hl 0 rfl) ?_
        refine gf_X10_25 F X qM0 dX10_asTold_28 ?_
        refine lv_iload_n hx hb dX10_asTold_31 rfl (lv_at hl 1 rfl) ?_
        obtain ⟨hin, h⟩ := gd_x h
        refine r_iald F X (ar_X10_7 qM0) hin dX10_asTold_32 ?_
        obtain ⟨hin, h⟩ := gd_x h
        obtain ⟨M5, eM5, h⟩ := nm_x h
        refine r_iast F X (ar_X10_12 qM0) hin dX10_asTold_33 (fun H locs X => ?_)
        have X := Wd_eq eM5 X
        obtain ⟨u6, eu6, h⟩ := nm_x h
        refine lv_iinc (v := u6) (lv' := [(1, .int u6), (0, .ref (ad (cO GM 0)))]) hx hb dX10_asTold_34 hl (k := 1) rfl (by rw [eu6]; rfl) (by decide) rfl (fun ls hl => ?_)
        refine lv_goto (tgt := 14) hx hb dX10_asTold_37 (by decide) ?_
        rw [← sm_x h] at hk1
        exact ih14 _ _ u6 M5 ls X (lv_sub hl [1, 0] rfl)  () hk1
  have h := hz
  unfold fX10_asTold at h
  refine lv_aload_n hx hb dX10_asTold_0 rfl (lv_at hl 0 rfl) ?_
  obtain ⟨r7, hr7, h⟩ := bd_x h
  refine r_callv X (r_runV F X (kX10_reads l D ad cs A  M  _ hr7) gm_X10_130 hd_X10_reads ⟨Nat.le_of_ble_eq_true rfl, Nat.le_of_ble_eq_true rfl⟩ qM0 rfl rfl hl.1 rfl (Nat.le_of_ble_eq_true rfl) dX10_asTold_1) (fun H locs X => ?_)
  refine lv_aload_n hx hb dX10_asTold_4 rfl (lv_at hl 0 rfl) ?_
  refine lv_aload_n hx hb dX10_asTold_5 rfl (lv_at hl 0 rfl) ?_
  refine gf_X10_117 F X qM0 dX10_asTold_6 ?_
  obtain ⟨M8, eM8, h⟩ := nm_x h
  refine pf_X10_161 F X qM0 dX10_asTold_9 (fun H locs X => ?_)
  have X := Wd_eq eM8 X
  refine lv_iconst (v := 0) hx hb dX10_asTold_12 (by decide) ?_
  obtain ⟨u9, eu9, h⟩ := nm_x h
  refine topE eu9 ?_
  refine lv_istore_n (lv' := [(1, .int u9), (0, .ref (ad (cO GM 0)))]) hx hb dX10_asTold_13 rfl hl (by decide) rfl (fun ls hl => ?_)
  exact L14 FU _ _ u9 M8 ls X (lv_sub hl [1, 0] rfl)  () h

/-! ===== X10_keepsAt ===== -/
def fX10_keepsAt_2 (a1 : Int32) (x2 : Int32) (M : Mem) : Option ((Int32 × Mem) ⊕ Mem) :=
  if (M 0 2 0) ≤ x2 then
    some (.inr M)
  else
    gd (inB x2 8) <|
    gd (inB (((8 : Int32) * a1) + x2) 168) <|
    nm (wr M 0 28 (Int32.toNatClampNeg (((8 : Int32) * a1) + x2)) (M 0 20 (Int32.toNatClampNeg x2))) fun M2 =>
    gd (inB x2 8) <|
    gd (inB (((8 : Int32) * a1) + x2) 168) <|
    nm (wr M2 0 29 (Int32.toNatClampNeg (((8 : Int32) * a1) + x2)) (M2 0 21 (Int32.toNatClampNeg x2))) fun M3 =>
    gd (inB x2 8) <|
    gd (inB (((8 : Int32) * a1) + x2) 168) <|
    nm (wr M3 0 30 (Int32.toNatClampNeg (((8 : Int32) * a1) + x2)) (M3 0 22 (Int32.toNatClampNeg x2))) fun M4 =>
    nm (x2 + 1 : Int32) fun u5 =>
    some (.inl (u5, M4))
def fX10_keepsAt (M : Mem) (a1 : Int32) : Option Mem :=
  nm (0 : Int32) fun u6 =>
  lpO (fun st => fX10_keepsAt_2 a1 st.1 st.2) FU (u6, M)
set_option maxHeartbeats 4000000 in
set_option maxRecDepth 100000 in
theorem kX10_keepsAt (l : Launch) (D : va_G) (ad : Nat → Nat) (cs : Nat → ClassId) (A : Nat → Prop)  (M : Mem) (a1 : Int32) (z : Mem) (hz : fX10_keepsAt M a1 = some z) : Met l yX10_keepsAt (wsU yX10_keepsAt cX10_keepsAt 3 none) (rmo 1 64) (va_Pc [.ref (ad (cO GM 0)), .int a1] (Wd0 D ad cs GM A M)) (va_Qv (fun u => u = z) (Wd0 D ad cs GM A) A) 0 0 A := by
  refine ct_v (by decide) rfl okGM (Nat.le_of_ble_eq_true rfl) ?_
  intro p e s m args below meth c Q ls F X hl RT
  have hx := F.1
  have hb := F.2.1
  have hl : lv_has ls 3 [(0, .ref (ad (cO GM 0))), (1, .int a1)] := hl
  obtain ⟨H, hH⟩ : ∃ H, H = s.heap := ⟨_, rfl⟩
  rw [← hH] at X ⊢
  obtain ⟨locs, hlocs⟩ : ∃ locs : List Loc, locs = [] := ⟨_, rfl⟩
  rw [← hlocs] at X ⊢
  clear hH hlocs
  have L2 : ∀ (n : Nat) (H : Heap) (locs : List Loc) (x2 : Int32) (M : Mem) (ls : Array Slot), Wd D ad cs GM A s H locs M → lv_has ls 3 [(0, .ref (ad (cO GM 0))), (1, .int a1), (2, .int x2)] → ∀ (_ : Unit), lpO (fun st => fX10_keepsAt_2 a1 st.1 st.2) n (x2, M) = some z → W p l e (rmo 1 64) s m args below meth c H locs 0 0 Q (F0 m 2 ls []) := by
    intro n
    induction n with
    | zero =>
      intro H locs x2 M ls X hl  yy h
      exact lp_0 h
    | succ n1 ih2 =>
      intro H locs x2 M ls X hl  _u h
      obtain ⟨y1, h, hk1⟩ := lp_x h
      unfold fX10_keepsAt_2 at h
      refine lv_iload_n hx hb dX10_keepsAt_2 rfl (lv_at hl 2 rfl) ?_
      refine lv_aload_n hx hb dX10_keepsAt_3 rfl (lv_at hl 0 rfl) ?_
      refine gf_X10_109 F X qM0 dX10_keepsAt_4 ?_
      refine lv_icmp_ge (tgt := 67) hx hb dX10_keepsAt_7 (by decide) (fun c1 => ?_) (fun c1 => ?_)
      · have h := it_p h c1
        have h := sm_x h
        rw [← h] at hk1
        have h := sm_x hk1
        exact RT H locs _ 67 ls X h dX10_keepsAt_67
      · have h := it_n h c1
        refine lv_aload_n hx hb dX10_keepsAt_10 rfl (lv_at hl 0 rfl) ?_
        refine gf_X10_58 F X qM0 dX10_keepsAt_11 ?_
        refine lv_bipush (v := 8) hx hb dX10_keepsAt_14 (by decide) ?_
        refine lv_iload_n hx hb dX10_keepsAt_16 rfl (lv_at hl 1 rfl) ?_
        refine lv_imul hx hb dX10_keepsAt_17 ?_
        refine lv_iload_n hx hb dX10_keepsAt_18 rfl (lv_at hl 2 rfl) ?_
        refine lv_iadd hx hb dX10_keepsAt_19 ?_
        refine lv_aload_n hx hb dX10_keepsAt_20 rfl (lv_at hl 0 rfl) ?_
        refine gf_X10_37 F X qM0 dX10_keepsAt_21 ?_
        refine lv_iload_n hx hb dX10_keepsAt_24 rfl (lv_at hl 2 rfl) ?_
        obtain ⟨hin, h⟩ := gd_x h
        refine r_iald F X (ar_X10_20 qM0) hin dX10_keepsAt_25 ?_
        obtain ⟨hin, h⟩ := gd_x h
        obtain ⟨M2, eM2, h⟩ := nm_x h
        refine r_iast F X (ar_X10_28 qM0) hin dX10_keepsAt_26 (fun H locs X => ?_)
        have X := Wd_eq eM2 X
        refine lv_aload_n hx hb dX10_keepsAt_27 rfl (lv_at hl 0 rfl) ?_
        refine gf_X10_61 F X qM0 dX10_keepsAt_28 ?_
        refine lv_bipush (v := 8) hx hb dX10_keepsAt_31 (by decide) ?_
        refine lv_iload_n hx hb dX10_keepsAt_33 rfl (lv_at hl 1 rfl) ?_
        refine lv_imul hx hb dX10_keepsAt_34 ?_
        refine lv_iload_n hx hb dX10_keepsAt_35 rfl (lv_at hl 2 rfl) ?_
        refine lv_iadd hx hb dX10_keepsAt_36 ?_
        refine lv_aload_n hx hb dX10_keepsAt_37 rfl (lv_at hl 0 rfl) ?_
        refine gf_X10_40 F X qM0 dX10_keepsAt_38 ?_
        refine lv_iload_n hx hb dX10_keepsAt_41 rfl (lv_at hl 2 rfl) ?_
        obtain ⟨hin, h⟩ := gd_x h
        refine r_iald F X (ar_X10_21 qM0) hin dX10_keepsAt_42 ?_
        obtain ⟨hin, h⟩ := gd_x h
        obtain ⟨M3, eM3, h⟩ := nm_x h
        refine r_iast F X (ar_X10_29 qM0) hin dX10_keepsAt_43 (fun H locs X => ?_)
        have X := Wd_eq eM3 X
        refine lv_aload_n hx hb dX10_keepsAt_44 rfl (lv_at hl 0 rfl) ?_
        refine gf_X10_64 F X qM0 dX10_keepsAt_45 ?_
        refine lv_bipush (v := 8) hx hb dX10_keepsAt_48 (by decide) ?_
        refine lv_iload_n hx hb dX10_keepsAt_50 rfl (lv_at hl 1 rfl) ?_
        refine lv_imul hx hb dX10_keepsAt_51 ?_
        refine lv_iload_n hx hb dX10_keepsAt_52 rfl (lv_at hl 2 rfl) ?_
        refine lv_iadd hx hb dX10_keepsAt_53 ?_
        refine lv_aload_n hx hb dX10_keepsAt_54 rfl (lv_at hl 0 rfl) ?_
        refine gf_X10_43 F X qM0 dX10_keepsAt_55 ?_
        refine lv_iload_n hx hb dX10_keepsAt_58 rfl (lv_at hl 2 rfl) ?_
        obtain ⟨hin, h⟩ := gd_x h
        refine r_iald F X (ar_X10_22 qM0) hin dX10_keepsAt_59 ?_
        obtain ⟨hin, h⟩ := gd_x h
        obtain ⟨M4, eM4, h⟩ := nm_x h
        refine r_iast F X (ar_X10_30 qM0) hin dX10_keepsAt_60 (fun H locs X => ?_)
        have X := Wd_eq eM4 X
        obtain ⟨u5, eu5, h⟩ := nm_x h
        refine lv_iinc (v := u5) (lv' := [(2, .int u5), (0, .ref (ad (cO GM 0))), (1, .int a1)]) hx hb dX10_keepsAt_61 hl (k := 2) rfl (by rw [eu5]; rfl) (by decide) rfl (fun ls hl => ?_)
        refine lv_goto (tgt := 2) hx hb dX10_keepsAt_64 (by decide) ?_
        rw [← sm_x h] at hk1
        exact ih2 _ _ u5 M4 ls X (lv_sub hl [1, 2, 0] rfl)  () hk1
  have h := hz
  unfold fX10_keepsAt at h
  refine lv_iconst (v := 0) hx hb dX10_keepsAt_0 (by decide) ?_
  obtain ⟨u6, eu6, h⟩ := nm_x h
  refine topE eu6 ?_
  refine lv_istore_n (lv' := [(2, .int u6), (0, .ref (ad (cO GM 0))), (1, .int a1)]) hx hb dX10_keepsAt_1 rfl hl (by decide) rfl (fun ls hl => ?_)
  exact L2 FU _ _ u6 M ls X (lv_sub hl [1, 2, 0] rfl)  () h

/-! ===== X10_afraid ===== -/
def fX10_afraid_54 (M : Mem) (a1 : Int32) (a2 : Int32) (v0 : Int32) (v1 : Int32) : Option Int32 :=
  nm (v1 - v0 : Int32) fun u1 =>
  (if u1 ≤ 0 then
    some 0
  else
    some u1)
def fX10_afraid_38 (M : Mem) (a1 : Int32) (a2 : Int32) (v0 : Int32) (v1 : Int32) : Option Int32 :=
  gd (inB a1 9) <|
  (if (M 0 3 (Int32.toNatClampNeg a1)) = 1 then
    fX10_afraid_54 M a1 a2 1 (v1 + v0)
  else
    fX10_afraid_54 M a1 a2 0 (v1 + v0))
def fX10_afraid_22 (M : Mem) (a1 : Int32) (a2 : Int32) (v0 : Int32) (v1 : Int32) : Option Int32 :=
  gd (inB a1 9) <|
  (if (M 0 3 (Int32.toNatClampNeg a1)) = 2 then
    fX10_afraid_38 M a1 a2 2 (v1 + v0)
  else
    fX10_afraid_38 M a1 a2 0 (v1 + v0))
def fX10_afraid (M : Mem) (a1 : Int32) (a2 : Int32) : Option Int32 :=
  (fX10_isIn (M 0 13 0) a2).bind fun r5 =>
  (if r5 = 0 then
    fX10_afraid_22 M a1 a2 0 (M 0 8 (Int32.toNatClampNeg 1))
  else
    fX10_afraid_22 M a1 a2 2 (M 0 8 (Int32.toNatClampNeg 1)))
set_option maxHeartbeats 4000000 in
set_option maxRecDepth 100000 in
theorem kX10_afraid (l : Launch) (D : va_G) (ad : Nat → Nat) (cs : Nat → ClassId) (A : Nat → Prop)  (M : Mem) (a1 : Int32) (a2 : Int32) (z : Int32) (hz : fX10_afraid M a1 a2 = some z) : Met l yX10_afraid (wsU yX10_afraid cX10_afraid 4 (some .int)) (rmo 2 85) (va_Pc [.ref (ad (cO GM 0)), .int a1, .int a2] (Wd0 D ad cs GM A M)) (va_Qi (fun r u => (r, u) = (z, M)) (Wd0 D ad cs GM A) A) 0 0 A := by
  refine ct_i0 (by decide) rfl okGM (Nat.le_of_ble_eq_true rfl) ?_
  intro p e s m args below meth c Q ls F X hl RT
  have hx := F.1
  have hb := F.2.1
  have hl : lv_has ls 4 [(0, .ref (ad (cO GM 0))), (1, .int a1), (2, .int a2)] := hl
  obtain ⟨H, hH⟩ : ∃ H, H = s.heap := ⟨_, rfl⟩
  rw [← hH] at X ⊢
  obtain ⟨locs, hlocs⟩ : ∃ locs : List Loc, locs = [] := ⟨_, rfl⟩
  rw [← hlocs] at X ⊢
  clear hH hlocs
  have J54 : ∀ (H : Heap) (locs : List Loc) (v0 : Int32) (v1 : Int32) (ls : Array Slot), Wd D ad cs GM A s H locs M → lv_has ls 4 [] → ∀ (_ : Unit), fX10_afraid_54 M a1 a2 v0 v1 = some z → W p l e (rmo 2 85) s m args below meth c H locs 0 0 Q (F0 m 54 ls [.int v0, .int v1]) := by
    intro H locs v0 v1 ls X hl  _u h
    unfold fX10_afraid_54 at h
    refine lv_isub hx hb dX10_afraid_54 ?_
    obtain ⟨u1, eu1, h⟩ := nm_x h
    refine topE eu1 ?_
    refine lv_istore_n (lv' := [(3, .int u1)]) hx hb dX10_afraid_55 rfl hl (by decide) rfl (fun ls hl => ?_)
    refine lv_iload_n hx hb dX10_afraid_56 rfl (lv_at hl 0 rfl) ?_
    refine lv_if_le (tgt := 64) hx hb dX10_afraid_57 (by decide) (fun c2 => ?_) (fun c2 => ?_)
    · have h := it_p h c2
      refine lv_iconst (v := 0) hx hb dX10_afraid_64 (by decide) ?_
      have h := sm_x h
      exact RT H locs _ 65 ls X h dX10_afraid_65
    · have h := it_n h c2
      refine lv_iload_n hx hb dX10_afraid_60 rfl (lv_at hl 0 rfl) ?_
      refine lv_goto (tgt := 65) hx hb dX10_afraid_61 (by decide) ?_
      have h := sm_x h
      exact RT H locs _ 65 ls X h dX10_afraid_65
  have J38 : ∀ (H : Heap) (locs : List Loc) (v0 : Int32) (v1 : Int32) (ls : Array Slot), Wd D ad cs GM A s H locs M → lv_has ls 4 [(0, .ref (ad (cO GM 0))), (1, .int a1)] → ∀ (_ : Unit), fX10_afraid_38 M a1 a2 v0 v1 = some z → W p l e (rmo 2 85) s m args below meth c H locs 0 0 Q (F0 m 38 ls [.int v0, .int v1]) := by
    intro H locs v0 v1 ls X hl  _u h
    unfold fX10_afraid_38 at h
    refine lv_iadd hx hb dX10_afraid_38 ?_
    refine lv_aload_n hx hb dX10_afraid_39 rfl (lv_at hl 0 rfl) ?_
    refine gf_X10_16 F X qM0 dX10_afraid_40 ?_
    refine lv_iload_n hx hb dX10_afraid_43 rfl (lv_at hl 1 rfl) ?_
    obtain ⟨hin, h⟩ := gd_x h
    refine r_iald F X (ar_X10_3 qM0) hin dX10_afraid_44 ?_
    refine lv_iconst (v := 1) hx hb dX10_afraid_45 (by decide) ?_
    refine lv_icmp_ne (tgt := 53) hx hb dX10_afraid_46 (by decide) (fun c3 => ?_) (fun c3 => ?_)
    · have h := it_n h c3
      refine lv_iconst (v := 0) hx hb dX10_afraid_53 (by decide) ?_
      exact J54 _ _ 0 (v1 + v0) ls X (lv_sub hl [] rfl)  () h
    · have h := it_p h c3
      refine lv_iconst (v := 1) hx hb dX10_afraid_49 (by decide) ?_
      refine lv_goto (tgt := 54) hx hb dX10_afraid_50 (by decide) ?_
      exact J54 _ _ 1 (v1 + v0) ls X (lv_sub hl [] rfl)  () h
  have J22 : ∀ (H : Heap) (locs : List Loc) (v0 : Int32) (v1 : Int32) (ls : Array Slot), Wd D ad cs GM A s H locs M → lv_has ls 4 [(0, .ref (ad (cO GM 0))), (1, .int a1)] → ∀ (_ : Unit), fX10_afraid_22 M a1 a2 v0 v1 = some z → W p l e (rmo 2 85) s m args below meth c H locs 0 0 Q (F0 m 22 ls [.int v0, .int v1]) := by
    intro H locs v0 v1 ls X hl  _u h
    unfold fX10_afraid_22 at h
    refine lv_iadd hx hb dX10_afraid_22 ?_
    refine lv_aload_n hx hb dX10_afraid_23 rfl (lv_at hl 0 rfl) ?_
    refine gf_X10_16 F X qM0 dX10_afraid_24 ?_
    refine lv_iload_n hx hb dX10_afraid_27 rfl (lv_at hl 1 rfl) ?_
    obtain ⟨hin, h⟩ := gd_x h
    refine r_iald F X (ar_X10_3 qM0) hin dX10_afraid_28 ?_
    refine lv_iconst (v := 2) hx hb dX10_afraid_29 (by decide) ?_
    refine lv_icmp_ne (tgt := 37) hx hb dX10_afraid_30 (by decide) (fun c4 => ?_) (fun c4 => ?_)
    · have h := it_n h c4
      refine lv_iconst (v := 0) hx hb dX10_afraid_37 (by decide) ?_
      exact J38 _ _ 0 (v1 + v0) ls X (lv_sub hl [0, 1] rfl)  () h
    · have h := it_p h c4
      refine lv_iconst (v := 2) hx hb dX10_afraid_33 (by decide) ?_
      refine lv_goto (tgt := 38) hx hb dX10_afraid_34 (by decide) ?_
      exact J38 _ _ 2 (v1 + v0) ls X (lv_sub hl [0, 1] rfl)  () h
  have h := hz
  unfold fX10_afraid at h
  refine lv_aload_n hx hb dX10_afraid_0 rfl (lv_at hl 0 rfl) ?_
  refine gf_X10_28 F X qM0 dX10_afraid_1 ?_
  refine lv_iconst (v := 1) hx hb dX10_afraid_4 (by decide) ?_
  refine r_iald F X (ar_X10_8 qM0) (by decide : inB 1 4) dX10_afraid_5 ?_
  refine lv_aload_n hx hb dX10_afraid_6 rfl (lv_at hl 0 rfl) ?_
  refine gf_X10_167 F X qM0 dX10_afraid_7 ?_
  refine lv_iload_n hx hb dX10_afraid_10 rfl (lv_at hl 2 rfl) ?_
  obtain ⟨r5, hr5, h⟩ := bd_x h
  refine r_calli0 X (r_runS F X (kX10_isIn l D ad cs A  M (M 0 13 0) a2 _ hr5) gm_X10_157 hd_X10_isIn ⟨Nat.le_of_ble_eq_true rfl, Nat.le_of_ble_eq_true rfl⟩ rfl hl.1 rfl (Nat.le_of_ble_eq_true rfl) dX10_afraid_11) (fun H locs X => ?_)
  refine lv_if_eq (tgt := 21) hx hb dX10_afraid_14 (by decide) (fun c6 => ?_) (fun c6 => ?_)
  · have h := it_p h c6
    refine lv_iconst (v := 0) hx hb dX10_afraid_21 (by decide) ?_
    exact J22 _ _ 0 (M 0 8 (Int32.toNatClampNeg 1)) ls X (lv_sub hl [0, 1] rfl)  () h
  · have h := it_n h c6
    refine lv_iconst (v := 2) hx hb dX10_afraid_17 (by decide) ?_
    refine lv_goto (tgt := 22) hx hb dX10_afraid_18 (by decide) ?_
    exact J22 _ _ 2 (M 0 8 (Int32.toNatClampNeg 1)) ls X (lv_sub hl [0, 1] rfl)  () h

/-! ===== X10_goesBack ===== -/
def fX10_goesBack_2  (x1 : Int32) (M : Mem) : Option ((Int32 × Mem) ⊕ Mem) :=
  if (M 0 2 0) ≤ x1 then
    some (.inr M)
  else
    gd (inB x1 8) <|
    gd (inB x1 8) <|
    nm (wr M 0 17 0 ((M 0 17 0) + ((M 0 20 (Int32.toNatClampNeg x1)) - ((M 0 20 (Int32.toNatClampNeg x1)) / 2)))) fun M2 =>
    gd (inB x1 8) <|
    gd (inB x1 8) <|
    nm (wr M2 0 20 (Int32.toNatClampNeg x1) ((M2 0 20 (Int32.toNatClampNeg x1)) / 2)) fun M3 =>
    nm (x1 + 1 : Int32) fun u4 =>
    some (.inl (u4, M3))
def fX10_goesBack (M : Mem) : Option Mem :=
  nm (0 : Int32) fun u5 =>
  lpO (fun st => fX10_goesBack_2 st.1 st.2) FU (u5, M)
set_option maxHeartbeats 4000000 in
set_option maxRecDepth 100000 in
theorem kX10_goesBack (l : Launch) (D : va_G) (ad : Nat → Nat) (cs : Nat → ClassId) (A : Nat → Prop)  (M : Mem)  (z : Mem) (hz : fX10_goesBack M = some z) : Met l yX10_goesBack (wsU yX10_goesBack cX10_goesBack 2 none) (rmo 1 64) (va_Pc [.ref (ad (cO GM 0))] (Wd0 D ad cs GM A M)) (va_Qv (fun u => u = z) (Wd0 D ad cs GM A) A) 0 0 A := by
  refine ct_v (by decide) rfl okGM (Nat.le_of_ble_eq_true rfl) ?_
  intro p e s m args below meth c Q ls F X hl RT
  have hx := F.1
  have hb := F.2.1
  have hl : lv_has ls 2 [(0, .ref (ad (cO GM 0)))] := hl
  obtain ⟨H, hH⟩ : ∃ H, H = s.heap := ⟨_, rfl⟩
  rw [← hH] at X ⊢
  obtain ⟨locs, hlocs⟩ : ∃ locs : List Loc, locs = [] := ⟨_, rfl⟩
  rw [← hlocs] at X ⊢
  clear hH hlocs
  have L2 : ∀ (n : Nat) (H : Heap) (locs : List Loc) (x1 : Int32) (M : Mem) (ls : Array Slot), Wd D ad cs GM A s H locs M → lv_has ls 2 [(0, .ref (ad (cO GM 0))), (1, .int x1)] → ∀ (_ : Unit), lpO (fun st => fX10_goesBack_2 st.1 st.2) n (x1, M) = some z → W p l e (rmo 1 64) s m args below meth c H locs 0 0 Q (F0 m 2 ls []) := by
    intro n
    induction n with
    | zero =>
      intro H locs x1 M ls X hl  yy h
      exact lp_0 h
    | succ n1 ih2 =>
      intro H locs x1 M ls X hl  _u h
      obtain ⟨y1, h, hk1⟩ := lp_x h
      unfold fX10_goesBack_2 at h
      refine lv_iload_n hx hb dX10_goesBack_2 rfl (lv_at hl 1 rfl) ?_
      refine lv_aload_n hx hb dX10_goesBack_3 rfl (lv_at hl 0 rfl) ?_
      refine gf_X10_109 F X qM0 dX10_goesBack_4 ?_
      refine lv_icmp_ge (tgt := 50) hx hb dX10_goesBack_7 (by decide) (fun c1 => ?_) (fun c1 => ?_)
      · have h := it_p h c1
        have h := sm_x h
        rw [← h] at hk1
        have h := sm_x hk1
        exact RT H locs _ 50 ls X h dX10_goesBack_50
      · have h := it_n h c1
        refine lv_aload_n hx hb dX10_goesBack_10 rfl (lv_at hl 0 rfl) ?_
        refine lv_dup hx hb dX10_goesBack_11 rfl ?_
        refine gf_X10_173 F X qM0 dX10_goesBack_12 ?_
        refine lv_aload_n hx hb dX10_goesBack_15 rfl (lv_at hl 0 rfl) ?_
        refine gf_X10_37 F X qM0 dX10_goesBack_16 ?_
        refine lv_iload_n hx hb dX10_goesBack_19 rfl (lv_at hl 1 rfl) ?_
        obtain ⟨hin, h⟩ := gd_x h
        refine r_iald F X (ar_X10_20 qM0) hin dX10_goesBack_20 ?_
        refine lv_aload_n hx hb dX10_goesBack_21 rfl (lv_at hl 0 rfl) ?_
        refine gf_X10_37 F X qM0 dX10_goesBack_22 ?_
        refine lv_iload_n hx hb dX10_goesBack_25 rfl (lv_at hl 1 rfl) ?_
        obtain ⟨hin, h⟩ := gd_x h
        refine r_iald F X (ar_X10_20 qM0) hin dX10_goesBack_26 ?_
        refine lv_iconst (v := 2) hx hb dX10_goesBack_27 (by decide) ?_
        refine lv_idiv hx hb dX10_goesBack_28 (by decide) ?_
        refine lv_isub hx hb dX10_goesBack_29 ?_
        refine lv_iadd hx hb dX10_goesBack_30 ?_
        obtain ⟨M2, eM2, h⟩ := nm_x h
        refine pf_X10_173 F X qM0 dX10_goesBack_31 (fun H locs X => ?_)
        have X := Wd_eq eM2 X
        refine lv_aload_n hx hb dX10_goesBack_34 rfl (lv_at hl 0 rfl) ?_
        refine gf_X10_37 F X qM0 dX10_goesBack_35 ?_
        refine lv_iload_n hx hb dX10_goesBack_38 rfl (lv_at hl 1 rfl) ?_
        refine lv_dup2_11 hx hb dX10_goesBack_39 rfl rfl ?_
        obtain ⟨hin, h⟩ := gd_x h
        refine r_iald F X (ar_X10_20 qM0) hin dX10_goesBack_40 ?_
        refine lv_iconst (v := 2) hx hb dX10_goesBack_41 (by decide) ?_
        refine lv_idiv hx hb dX10_goesBack_42 (by decide) ?_
        obtain ⟨hin, h⟩ := gd_x h
        obtain ⟨M3, eM3, h⟩ := nm_x h
        refine r_iast F X (ar_X10_20 qM0) hin dX10_goesBack_43 (fun H locs X => ?_)
        have X := Wd_eq eM3 X
        obtain ⟨u4, eu4, h⟩ := nm_x h
        refine lv_iinc (v := u4) (lv' := [(1, .int u4), (0, .ref (ad (cO GM 0)))]) hx hb dX10_goesBack_44 hl (k := 1) rfl (by rw [eu4]; rfl) (by decide) rfl (fun ls hl => ?_)
        refine lv_goto (tgt := 2) hx hb dX10_goesBack_47 (by decide) ?_
        rw [← sm_x h] at hk1
        exact ih2 _ _ u4 M3 ls X (lv_sub hl [1, 0] rfl)  () hk1
  have h := hz
  unfold fX10_goesBack at h
  refine lv_iconst (v := 0) hx hb dX10_goesBack_0 (by decide) ?_
  obtain ⟨u5, eu5, h⟩ := nm_x h
  refine topE eu5 ?_
  refine lv_istore_n (lv' := [(1, .int u5), (0, .ref (ad (cO GM 0)))]) hx hb dX10_goesBack_1 rfl hl (by decide) rfl (fun ls hl => ?_)
  exact L2 FU _ _ u5 M ls X (lv_sub hl [1, 0] rfl)  () h

/-! ===== X10_stays ===== -/
def fX10_stays_74 (a1 : Int32) (a2 : Int32) (a3 : Int32) (a4 : Int32) (x5 : Int32) (v0 : Int32) (M : Mem) : Option Mem :=
  nm (wr M 0 18 0 v0) fun M1 =>
  (if x5 ≤ (M1 0 19 0) then
    nm (wr M1 0 19 0 (M1 0 19 0)) fun M3 =>
    some M3
  else
    nm (wr M1 0 19 0 x5) fun M4 =>
    some M4)
def fX10_stays_54 (a1 : Int32) (a2 : Int32) (a3 : Int32) (a4 : Int32) (x5 : Int32) (v0 : Int32) (v1 : Int32) (v2 : Int32) (M : Mem) : Option Mem :=
  gd (inB v2 8) <|
  nm (wr M 0 21 (Int32.toNatClampNeg v2) (v1 + v0)) fun M5 =>
  (if x5 ≤ (M5 0 19 0) then
    fX10_stays_74 a1 a2 a3 a4 x5 (M5 0 18 0) M5
  else
    fX10_stays_74 a1 a2 a3 a4 x5 a2 M5)
def fX10_stays_22 (a1 : Int32) (a2 : Int32) (a3 : Int32) (a4 : Int32) (v0 : Int32) (v1 : Int32) (M : Mem) : Option Mem :=
  nm (v1 * v0 : Int32) fun u7 =>
  gd (inB a1 8) <|
  gd (inB a1 8) <|
  nm (wr M 0 20 (Int32.toNatClampNeg a1) ((M 0 20 (Int32.toNatClampNeg a1)) + u7)) fun M8 =>
  gd (inB a1 8) <|
  (if a3 < 9 then
    fX10_stays_54 a1 a2 a3 a4 u7 0 (M8 0 21 (Int32.toNatClampNeg a1)) a1 M8
  else
    fX10_stays_54 a1 a2 a3 a4 u7 1 (M8 0 21 (Int32.toNatClampNeg a1)) a1 M8)
def fX10_stays_12 (a1 : Int32) (a2 : Int32) (a3 : Int32) (a4 : Int32) (v0 : Int32) (M : Mem) : Option Mem :=
  if a4 ≤ 0 then
    fX10_stays_22 a1 a2 a3 a4 1 v0 M
  else
    fX10_stays_22 a1 a2 a3 a4 2 v0 M
def fX10_stays (M : Mem) (a1 : Int32) (a2 : Int32) (a3 : Int32) (a4 : Int32) : Option Mem :=
  if 9 ≤ a3 then
    fX10_stays_12 a1 a2 a3 a4 9 M
  else
    fX10_stays_12 a1 a2 a3 a4 a3 M
set_option maxHeartbeats 4000000 in
set_option maxRecDepth 100000 in
theorem kX10_stays (l : Launch) (D : va_G) (ad : Nat → Nat) (cs : Nat → ClassId) (A : Nat → Prop)  (M : Mem) (a1 : Int32) (a2 : Int32) (a3 : Int32) (a4 : Int32) (z : Mem) (hz : fX10_stays M a1 a2 a3 a4 = some z) : Met l yX10_stays (wsU yX10_stays cX10_stays 6 none) (rmo 1 64) (va_Pc [.ref (ad (cO GM 0)), .int a1, .int a2, .int a3, .int a4] (Wd0 D ad cs GM A M)) (va_Qv (fun u => u = z) (Wd0 D ad cs GM A) A) 0 0 A := by
  refine ct_v (by decide) rfl okGM (Nat.le_of_ble_eq_true rfl) ?_
  intro p e s m args below meth c Q ls F X hl RT
  have hx := F.1
  have hb := F.2.1
  have hl : lv_has ls 6 [(0, .ref (ad (cO GM 0))), (1, .int a1), (2, .int a2), (3, .int a3), (4, .int a4)] := hl
  obtain ⟨H, hH⟩ : ∃ H, H = s.heap := ⟨_, rfl⟩
  rw [← hH] at X ⊢
  obtain ⟨locs, hlocs⟩ : ∃ locs : List Loc, locs = [] := ⟨_, rfl⟩
  rw [← hlocs] at X ⊢
  clear hH hlocs
  have J74 : ∀ (H : Heap) (locs : List Loc) (x5 : Int32) (v0 : Int32) (M : Mem) (ls : Array Slot), Wd D ad cs GM A s H locs M → lv_has ls 6 [(0, .ref (ad (cO GM 0))), (5, .int x5)] → ∀ (_ : Unit), fX10_stays_74 a1 a2 a3 a4 x5 v0 M = some z → W p l e (rmo 1 64) s m args below meth c H locs 0 0 Q (F0 m 74 ls [.int v0, .ref (ad (cO GM 0))]) := by
    intro H locs x5 v0 M ls X hl  _u h
    unfold fX10_stays_74 at h
    obtain ⟨M1, eM1, h⟩ := nm_x h
    refine pf_X10_179 F X qM0 dX10_stays_74 (fun H locs X => ?_)
    have X := Wd_eq eM1 X
    refine lv_aload_n hx hb dX10_stays_77 rfl (lv_at hl 0 rfl) ?_
    refine lv_iload hx hb dX10_stays_78 (lv_at hl 1 rfl) ?_
    refine lv_aload_n hx hb dX10_stays_80 rfl (lv_at hl 0 rfl) ?_
    refine gf_X10_176 F X qM0 dX10_stays_81 ?_
    refine lv_icmp_le (tgt := 92) hx hb dX10_stays_84 (by decide) (fun c2 => ?_) (fun c2 => ?_)
    · have h := it_p h c2
      refine lv_aload_n hx hb dX10_stays_92 rfl (lv_at hl 0 rfl) ?_
      refine gf_X10_176 F X qM0 dX10_stays_93 ?_
      obtain ⟨M3, eM3, h⟩ := nm_x h
      refine pf_X10_176 F X qM0 dX10_stays_96 (fun H locs X => ?_)
      have X := Wd_eq eM3 X
      have h := sm_x h
      exact RT H locs _ 99 ls X h dX10_stays_99
    · have h := it_n h c2
      refine lv_iload hx hb dX10_stays_87 (lv_at hl 1 rfl) ?_
      refine lv_goto (tgt := 96) hx hb dX10_stays_89 (by decide) ?_
      obtain ⟨M4, eM4, h⟩ := nm_x h
      refine pf_X10_176 F X qM0 dX10_stays_96 (fun H locs X => ?_)
      have X := Wd_eq eM4 X
      have h := sm_x h
      exact RT H locs _ 99 ls X h dX10_stays_99
  have J54 : ∀ (H : Heap) (locs : List Loc) (x5 : Int32) (v0 : Int32) (v1 : Int32) (v2 : Int32) (M : Mem) (ls : Array Slot), Wd D ad cs GM A s H locs M → lv_has ls 6 [(0, .ref (ad (cO GM 0))), (2, .int a2), (5, .int x5)] → ∀ (_ : Unit), fX10_stays_54 a1 a2 a3 a4 x5 v0 v1 v2 M = some z → W p l e (rmo 1 64) s m args below meth c H locs 0 0 Q (F0 m 54 ls [.int v0, .int v1, .int v2, .ref (ad (cO GM 0 + 11))]) := by
    intro H locs x5 v0 v1 v2 M ls X hl  _u h
    unfold fX10_stays_54 at h
    refine lv_iadd hx hb dX10_stays_54 ?_
    obtain ⟨hin, h⟩ := gd_x h
    obtain ⟨M5, eM5, h⟩ := nm_x h
    refine r_iast F X (ar_X10_21 qM0) hin dX10_stays_55 (fun H locs X => ?_)
    have X := Wd_eq eM5 X
    refine lv_aload_n hx hb dX10_stays_56 rfl (lv_at hl 0 rfl) ?_
    refine lv_iload hx hb dX10_stays_57 (lv_at hl 2 rfl) ?_
    refine lv_aload_n hx hb dX10_stays_59 rfl (lv_at hl 0 rfl) ?_
    refine gf_X10_176 F X qM0 dX10_stays_60 ?_
    refine lv_icmp_le (tgt := 70) hx hb dX10_stays_63 (by decide) (fun c6 => ?_) (fun c6 => ?_)
    · have h := it_p h c6
      refine lv_aload_n hx hb dX10_stays_70 rfl (lv_at hl 0 rfl) ?_
      refine gf_X10_179 F X qM0 dX10_stays_71 ?_
      exact J74 _ _ x5 (M5 0 18 0) M5 ls X (lv_sub hl [0, 2] rfl)  () h
    · have h := it_n h c6
      refine lv_iload_n hx hb dX10_stays_66 rfl (lv_at hl 1 rfl) ?_
      refine lv_goto (tgt := 74) hx hb dX10_stays_67 (by decide) ?_
      exact J74 _ _ x5 a2 M5 ls X (lv_sub hl [0, 2] rfl)  () h
  have J22 : ∀ (H : Heap) (locs : List Loc) (v0 : Int32) (v1 : Int32) (M : Mem) (ls : Array Slot), Wd D ad cs GM A s H locs M → lv_has ls 6 [(0, .ref (ad (cO GM 0))), (1, .int a1), (2, .int a2), (3, .int a3)] → ∀ (_ : Unit), fX10_stays_22 a1 a2 a3 a4 v0 v1 M = some z → W p l e (rmo 1 64) s m args below meth c H locs 0 0 Q (F0 m 22 ls [.int v0, .int v1]) := by
    intro H locs v0 v1 M ls X hl  _u h
    unfold fX10_stays_22 at h
    refine lv_imul hx hb dX10_stays_22 ?_
    obtain ⟨u7, eu7, h⟩ := nm_x h
    refine topE eu7 ?_
    refine lv_istore (lv' := [(5, .int u7), (0, .ref (ad (cO GM 0))), (1, .int a1), (2, .int a2), (3, .int a3)]) hx hb dX10_stays_23 hl (by decide) rfl (fun ls hl => ?_)
    refine lv_aload_n hx hb dX10_stays_25 rfl (lv_at hl 1 rfl) ?_
    refine gf_X10_37 F X qM0 dX10_stays_26 ?_
    refine lv_iload_n hx hb dX10_stays_29 rfl (lv_at hl 2 rfl) ?_
    refine lv_dup2_11 hx hb dX10_stays_30 rfl rfl ?_
    obtain ⟨hin, h⟩ := gd_x h
    refine r_iald F X (ar_X10_20 qM0) hin dX10_stays_31 ?_
    refine lv_iload hx hb dX10_stays_32 (lv_at hl 0 rfl) ?_
    refine lv_iadd hx hb dX10_stays_34 ?_
    obtain ⟨hin, h⟩ := gd_x h
    obtain ⟨M8, eM8, h⟩ := nm_x h
    refine r_iast F X (ar_X10_20 qM0) hin dX10_stays_35 (fun H locs X => ?_)
    have X := Wd_eq eM8 X
    refine lv_aload_n hx hb dX10_stays_36 rfl (lv_at hl 1 rfl) ?_
    refine gf_X10_40 F X qM0 dX10_stays_37 ?_
    refine lv_iload_n hx hb dX10_stays_40 rfl (lv_at hl 2 rfl) ?_
    refine lv_dup2_11 hx hb dX10_stays_41 rfl rfl ?_
    obtain ⟨hin, h⟩ := gd_x h
    refine r_iald F X (ar_X10_21 qM0) hin dX10_stays_42 ?_
    refine lv_iload_n hx hb dX10_stays_43 rfl (lv_at hl 4 rfl) ?_
    refine lv_bipush (v := 9) hx hb dX10_stays_44 (by decide) ?_
    refine lv_icmp_lt (tgt := 53) hx hb dX10_stays_46 (by decide) (fun c9 => ?_) (fun c9 => ?_)
    · have h := it_p h c9
      refine lv_iconst (v := 0) hx hb dX10_stays_53 (by decide) ?_
      exact J54 _ _ u7 0 (M8 0 21 (Int32.toNatClampNeg a1)) a1 M8 ls X (lv_sub hl [1, 3, 0] rfl)  () h
    · have h := it_n h c9
      refine lv_iconst (v := 1) hx hb dX10_stays_49 (by decide) ?_
      refine lv_goto (tgt := 54) hx hb dX10_stays_50 (by decide) ?_
      exact J54 _ _ u7 1 (M8 0 21 (Int32.toNatClampNeg a1)) a1 M8 ls X (lv_sub hl [1, 3, 0] rfl)  () h
  have J12 : ∀ (H : Heap) (locs : List Loc) (v0 : Int32) (M : Mem) (ls : Array Slot), Wd D ad cs GM A s H locs M → lv_has ls 6 [(0, .ref (ad (cO GM 0))), (1, .int a1), (2, .int a2), (3, .int a3), (4, .int a4)] → ∀ (_ : Unit), fX10_stays_12 a1 a2 a3 a4 v0 M = some z → W p l e (rmo 1 64) s m args below meth c H locs 0 0 Q (F0 m 12 ls [.int v0]) := by
    intro H locs v0 M ls X hl  _u h
    unfold fX10_stays_12 at h
    refine lv_iload hx hb dX10_stays_12 (lv_at hl 4 rfl) ?_
    refine lv_if_le (tgt := 21) hx hb dX10_stays_14 (by decide) (fun c10 => ?_) (fun c10 => ?_)
    · have h := it_p h c10
      refine lv_iconst (v := 1) hx hb dX10_stays_21 (by decide) ?_
      exact J22 _ _ 1 v0 M ls X (lv_sub hl [0, 1, 2, 3] rfl)  () h
    · have h := it_n h c10
      refine lv_iconst (v := 2) hx hb dX10_stays_17 (by decide) ?_
      refine lv_goto (tgt := 22) hx hb dX10_stays_18 (by decide) ?_
      exact J22 _ _ 2 v0 M ls X (lv_sub hl [0, 1, 2, 3] rfl)  () h
  have h := hz
  unfold fX10_stays at h
  refine lv_iload_n hx hb dX10_stays_0 rfl (lv_at hl 3 rfl) ?_
  refine lv_bipush (v := 9) hx hb dX10_stays_1 (by decide) ?_
  refine lv_icmp_ge (tgt := 10) hx hb dX10_stays_3 (by decide) (fun c11 => ?_) (fun c11 => ?_)
  · have h := it_p h c11
    refine lv_bipush (v := 9) hx hb dX10_stays_10 (by decide) ?_
    exact J12 _ _ 9 M ls X (lv_sub hl [0, 1, 2, 3, 4] rfl)  () h
  · have h := it_n h c11
    refine lv_iload_n hx hb dX10_stays_6 rfl (lv_at hl 3 rfl) ?_
    refine lv_goto (tgt := 12) hx hb dX10_stays_7 (by decide) ?_
    exact J12 _ _ a3 M ls X (lv_sub hl [0, 1, 2, 3, 4] rfl)  () h

/-! ===== X10_visits ===== -/
def fX10_visits_195 (a1 : Int32) (a2 : Int32) (x3 : Int32) (x4 : Int32) (v0 : Int32) (v1 : Int32) (M : Mem) : Option Mem :=
  gd (inB v1 20) <|
  nm (wr M 0 24 (Int32.toNatClampNeg v1) v0) fun M1 =>
  (if x4 = (M1 0 8 (Int32.toNatClampNeg 2)) then
    (fX10_goesBack M1).bind fun r4 =>
    some r4
  else
    (fX10_stays M1 a1 a2 x4 x3).bind fun r3 =>
    some r3)
def fX10_visits_47 (a1 : Int32) (a2 : Int32) (v0 : Int32) (M : Mem) : Option Mem :=
  nm (v0 : Int32) fun u5 =>
  gd (inB a1 9) <|
  nm ((M 0 4 (Int32.toNatClampNeg a1)) + u5 : Int32) fun u6 =>
  gd (inB a2 20) <|
  nm (wr M 0 27 (Int32.toNatClampNeg a2) u6) fun M7 =>
  (fX10_afraid M7 a1 a2).bind fun r8 =>
  (if r8 ≤ u6 then
    gd (inB a2 20) <|
    nm (wr M7 0 25 (Int32.toNatClampNeg a2) u5) fun M10 =>
    nm (wr M10 0 15 0 ((M10 0 15 0) - u5)) fun M11 =>
    gd (inB a1 8) <|
    gd (inB a1 8) <|
    nm (wr M11 0 22 (Int32.toNatClampNeg a1) ((M11 0 22 (Int32.toNatClampNeg a1)) - u5)) fun M12 =>
    (if u6 = (M12 0 8 (Int32.toNatClampNeg 2)) then
      fX10_visits_195 a1 a2 u5 u6 2 a2 M12
    else
      if u6 < 9 then
        fX10_visits_195 a1 a2 u5 u6 3 a2 M12
      else
        fX10_visits_195 a1 a2 u5 u6 4 a2 M12)
  else
    gd (inB a2 20) <|
    nm (wr M7 0 24 (Int32.toNatClampNeg a2) 1) fun M15 =>
    nm (wr M15 0 16 0 ((M15 0 16 0) + (1 : Int32))) fun M16 =>
    nm (wr M16 0 23 0 ((M16 0 23 0) ||| ((1 : Int32) <<< (a1 &&& 31)))) fun M17 =>
    gd (inB a1 8) <|
    nm (wr M17 0 17 0 ((M17 0 17 0) + (M17 0 20 (Int32.toNatClampNeg a1)))) fun M18 =>
    gd (inB a1 8) <|
    nm (wr M18 0 20 (Int32.toNatClampNeg a1) 0) fun M19 =>
    gd (inB a1 8) <|
    nm (wr M19 0 21 (Int32.toNatClampNeg a1) 0) fun M20 =>
    some M20)
def fX10_visits_26 (a1 : Int32) (a2 : Int32) (v0 : Int32) (M : Mem) : Option Mem :=
  nm (v0 : Int32) fun u21 =>
  (if u21 ≤ (M 0 8 (Int32.toNatClampNeg 3)) then
    fX10_visits_47 a1 a2 u21 M
  else
    fX10_visits_47 a1 a2 (M 0 8 (Int32.toNatClampNeg 3)) M)
def fX10_visits (M : Mem) (a1 : Int32) (a2 : Int32) : Option Mem :=
  gd (inB a1 8) <|
  (if (M 0 15 0) ≤ (M 0 22 (Int32.toNatClampNeg a1)) then
    fX10_visits_26 a1 a2 (M 0 15 0) M
  else
    gd (inB a1 8) <|
    fX10_visits_26 a1 a2 (M 0 22 (Int32.toNatClampNeg a1)) M)
set_option maxHeartbeats 4000000 in
set_option maxRecDepth 100000 in
theorem kX10_visits (l : Launch) (D : va_G) (ad : Nat → Nat) (cs : Nat → ClassId) (A : Nat → Prop)  (M : Mem) (a1 : Int32) (a2 : Int32) (z : Mem) (hz : fX10_visits M a1 a2 = some z) : Met l yX10_visits (wsU yX10_visits cX10_visits 5 none) (rmo 3 108) (va_Pc [.ref (ad (cO GM 0)), .int a1, .int a2] (Wd0 D ad cs GM A M)) (va_Qv (fun u => u = z) (Wd0 D ad cs GM A) A) 0 0 A := by
  refine ct_v (by decide) rfl okGM (Nat.le_of_ble_eq_true rfl) ?_
  intro p e s m args below meth c Q ls F X hl RT
  have hx := F.1
  have hb := F.2.1
  have hl : lv_has ls 5 [(0, .ref (ad (cO GM 0))), (1, .int a1), (2, .int a2)] := hl
  obtain ⟨H, hH⟩ : ∃ H, H = s.heap := ⟨_, rfl⟩
  rw [← hH] at X ⊢
  obtain ⟨locs, hlocs⟩ : ∃ locs : List Loc, locs = [] := ⟨_, rfl⟩
  rw [← hlocs] at X ⊢
  clear hH hlocs
  have J195 : ∀ (H : Heap) (locs : List Loc) (x3 : Int32) (x4 : Int32) (v0 : Int32) (v1 : Int32) (M : Mem) (ls : Array Slot), Wd D ad cs GM A s H locs M → lv_has ls 5 [(0, .ref (ad (cO GM 0))), (1, .int a1), (2, .int a2), (3, .int x3), (4, .int x4)] → ∀ (_ : Unit), fX10_visits_195 a1 a2 x3 x4 v0 v1 M = some z → W p l e (rmo 3 108) s m args below meth c H locs 0 0 Q (F0 m 195 ls [.int v0, .int v1, .ref (ad (cO GM 0 + 13))]) := by
    intro H locs x3 x4 v0 v1 M ls X hl  _u h
    unfold fX10_visits_195 at h
    obtain ⟨hin, h⟩ := gd_x h
    obtain ⟨M1, eM1, h⟩ := nm_x h
    refine r_iast F X (ar_X10_24 qM0) hin dX10_visits_195 (fun H locs X => ?_)
    have X := Wd_eq eM1 X
    refine lv_iload hx hb dX10_visits_196 (lv_at hl 4 rfl) ?_
    refine lv_aload_n hx hb dX10_visits_198 rfl (lv_at hl 0 rfl) ?_
    refine gf_X10_28 F X qM0 dX10_visits_199 ?_
    refine lv_iconst (v := 2) hx hb dX10_visits_202 (by decide) ?_
    refine r_iald F X (ar_X10_8 qM0) (by decide : inB 2 4) dX10_visits_203 ?_
    refine lv_icmp_ne (tgt := 214) hx hb dX10_visits_204 (by decide) (fun c2 => ?_) (fun c2 => ?_)
    · have h := it_n h c2
      refine lv_aload_n hx hb dX10_visits_214 rfl (lv_at hl 0 rfl) ?_
      refine lv_iload_n hx hb dX10_visits_215 rfl (lv_at hl 1 rfl) ?_
      refine lv_iload_n hx hb dX10_visits_216 rfl (lv_at hl 2 rfl) ?_
      refine lv_iload hx hb dX10_visits_217 (lv_at hl 4 rfl) ?_
      refine lv_iload_n hx hb dX10_visits_219 rfl (lv_at hl 3 rfl) ?_
      obtain ⟨r3, hr3, h⟩ := bd_x h
      refine r_callv X (r_runV F X (kX10_stays l D ad cs A  M1 a1 a2 x4 x3 _ hr3) gm_X10_197 hd_X10_stays ⟨Nat.le_of_ble_eq_true rfl, Nat.le_of_ble_eq_true rfl⟩ qM0 rfl rfl hl.1 rfl (Nat.le_of_ble_eq_true rfl) dX10_visits_220) (fun H locs X => ?_)
      have h := sm_x h
      exact RT H locs _ 223 ls X h dX10_visits_223
    · have h := it_p h c2
      refine lv_aload_n hx hb dX10_visits_207 rfl (lv_at hl 0 rfl) ?_
      obtain ⟨r4, hr4, h⟩ := bd_x h
      refine r_callv X (r_runV F X (kX10_goesBack l D ad cs A  M1  _ hr4) gm_X10_194 hd_X10_goesBack ⟨Nat.le_of_ble_eq_true rfl, Nat.le_of_ble_eq_true rfl⟩ qM0 rfl rfl hl.1 rfl (Nat.le_of_ble_eq_true rfl) dX10_visits_208) (fun H locs X => ?_)
      refine lv_goto (tgt := 223) hx hb dX10_visits_211 (by decide) ?_
      have h := sm_x h
      exact RT H locs _ 223 ls X h dX10_visits_223
  have J47 : ∀ (H : Heap) (locs : List Loc) (v0 : Int32) (M : Mem) (ls : Array Slot), Wd D ad cs GM A s H locs M → lv_has ls 5 [(0, .ref (ad (cO GM 0))), (1, .int a1), (2, .int a2)] → ∀ (_ : Unit), fX10_visits_47 a1 a2 v0 M = some z → W p l e (rmo 3 108) s m args below meth c H locs 0 0 Q (F0 m 47 ls [.int v0]) := by
    intro H locs v0 M ls X hl  _u h
    unfold fX10_visits_47 at h
    obtain ⟨u5, eu5, h⟩ := nm_x h
    refine topE eu5 ?_
    refine lv_istore_n (lv' := [(3, .int u5), (0, .ref (ad (cO GM 0))), (1, .int a1), (2, .int a2)]) hx hb dX10_visits_47 rfl hl (by decide) rfl (fun ls hl => ?_)
    refine lv_aload_n hx hb dX10_visits_48 rfl (lv_at hl 1 rfl) ?_
    refine gf_X10_19 F X qM0 dX10_visits_49 ?_
    refine lv_iload_n hx hb dX10_visits_52 rfl (lv_at hl 2 rfl) ?_
    obtain ⟨hin, h⟩ := gd_x h
    refine r_iald F X (ar_X10_4 qM0) hin dX10_visits_53 ?_
    refine lv_iload_n hx hb dX10_visits_54 rfl (lv_at hl 0 rfl) ?_
    refine lv_iadd hx hb dX10_visits_55 ?_
    obtain ⟨u6, eu6, h⟩ := nm_x h
    refine topE eu6 ?_
    refine lv_istore (lv' := [(4, .int u6), (3, .int u5), (0, .ref (ad (cO GM 0))), (1, .int a1), (2, .int a2)]) hx hb dX10_visits_56 hl (by decide) rfl (fun ls hl => ?_)
    refine lv_aload_n hx hb dX10_visits_58 rfl (lv_at hl 2 rfl) ?_
    refine gf_X10_55 F X qM0 dX10_visits_59 ?_
    refine lv_iload_n hx hb dX10_visits_62 rfl (lv_at hl 4 rfl) ?_
    refine lv_iload hx hb dX10_visits_63 (lv_at hl 0 rfl) ?_
    obtain ⟨hin, h⟩ := gd_x h
    obtain ⟨M7, eM7, h⟩ := nm_x h
    refine r_iast F X (ar_X10_27 qM0) hin dX10_visits_65 (fun H locs X => ?_)
    have X := Wd_eq eM7 X
    refine lv_iload hx hb dX10_visits_66 (lv_at hl 0 rfl) ?_
    refine lv_aload_n hx hb dX10_visits_68 rfl (lv_at hl 2 rfl) ?_
    refine lv_iload_n hx hb dX10_visits_69 rfl (lv_at hl 3 rfl) ?_
    refine lv_iload_n hx hb dX10_visits_70 rfl (lv_at hl 4 rfl) ?_
    obtain ⟨r8, hr8, h⟩ := bd_x h
    refine r_calli0 X (r_runV F X (kX10_afraid l D ad cs A  M7 a1 a2 _ hr8) gm_X10_185 hd_X10_afraid ⟨Nat.le_of_ble_eq_true rfl, Nat.le_of_ble_eq_true rfl⟩ qM0 rfl rfl hl.1 rfl (Nat.le_of_ble_eq_true rfl) dX10_visits_71) (fun H locs X => ?_)
    refine lv_icmp_ge (tgt := 136) hx hb dX10_visits_74 (by decide) (fun c9 => ?_) (fun c9 => ?_)
    · have h := it_p h c9
      refine lv_aload_n hx hb dX10_visits_136 rfl (lv_at hl 2 rfl) ?_
      refine gf_X10_49 F X qM0 dX10_visits_137 ?_
      refine lv_iload_n hx hb dX10_visits_140 rfl (lv_at hl 4 rfl) ?_
      refine lv_iload_n hx hb dX10_visits_141 rfl (lv_at hl 1 rfl) ?_
      obtain ⟨hin, h⟩ := gd_x h
      obtain ⟨M10, eM10, h⟩ := nm_x h
      refine r_iast F X (ar_X10_25 qM0) hin dX10_visits_142 (fun H locs X => ?_)
      have X := Wd_eq eM10 X
      refine lv_aload_n hx hb dX10_visits_143 rfl (lv_at hl 2 rfl) ?_
      refine lv_dup hx hb dX10_visits_144 rfl ?_
      refine gf_X10_182 F X qM0 dX10_visits_145 ?_
      refine lv_iload_n hx hb dX10_visits_148 rfl (lv_at hl 1 rfl) ?_
      refine lv_isub hx hb dX10_visits_149 ?_
      obtain ⟨M11, eM11, h⟩ := nm_x h
      refine pf_X10_182 F X qM0 dX10_visits_150 (fun H locs X => ?_)
      have X := Wd_eq eM11 X
      refine lv_aload_n hx hb dX10_visits_153 rfl (lv_at hl 2 rfl) ?_
      refine gf_X10_43 F X qM0 dX10_visits_154 ?_
      refine lv_iload_n hx hb dX10_visits_157 rfl (lv_at hl 3 rfl) ?_
      refine lv_dup2_11 hx hb dX10_visits_158 rfl rfl ?_
      obtain ⟨hin, h⟩ := gd_x h
      refine r_iald F X (ar_X10_22 qM0) hin dX10_visits_159 ?_
      refine lv_iload_n hx hb dX10_visits_160 rfl (lv_at hl 1 rfl) ?_
      refine lv_isub hx hb dX10_visits_161 ?_
      obtain ⟨hin, h⟩ := gd_x h
      obtain ⟨M12, eM12, h⟩ := nm_x h
      refine r_iast F X (ar_X10_22 qM0) hin dX10_visits_162 (fun H locs X => ?_)
      have X := Wd_eq eM12 X
      refine lv_aload_n hx hb dX10_visits_163 rfl (lv_at hl 2 rfl) ?_
      refine gf_X10_46 F X qM0 dX10_visits_164 ?_
      refine lv_iload_n hx hb dX10_visits_167 rfl (lv_at hl 4 rfl) ?_
      refine lv_iload hx hb dX10_visits_168 (lv_at hl 0 rfl) ?_
      refine lv_aload_n hx hb dX10_visits_170 rfl (lv_at hl 2 rfl) ?_
      refine gf_X10_28 F X qM0 dX10_visits_171 ?_
      refine lv_iconst (v := 2) hx hb dX10_visits_174 (by decide) ?_
      refine r_iald F X (ar_X10_8 qM0) (by decide : inB 2 4) dX10_visits_175 ?_
      refine lv_icmp_ne (tgt := 183) hx hb dX10_visits_176 (by decide) (fun c13 => ?_) (fun c13 => ?_)
      · have h := it_n h c13
        refine lv_iload hx hb dX10_visits_183 (lv_at hl 0 rfl) ?_
        refine lv_bipush (v := 9) hx hb dX10_visits_185 (by decide) ?_
        refine lv_icmp_lt (tgt := 194) hx hb dX10_visits_187 (by decide) (fun c14 => ?_) (fun c14 => ?_)
        · have h := it_p h c14
          refine lv_iconst (v := 3) hx hb dX10_visits_194 (by decide) ?_
          exact J195 _ _ u5 u6 3 a2 M12 ls X (lv_sub hl [2, 3, 4, 1, 0] rfl)  () h
        · have h := it_n h c14
          refine lv_iconst (v := 4) hx hb dX10_visits_190 (by decide) ?_
          refine lv_goto (tgt := 195) hx hb dX10_visits_191 (by decide) ?_
          exact J195 _ _ u5 u6 4 a2 M12 ls X (lv_sub hl [2, 3, 4, 1, 0] rfl)  () h
      · have h := it_p h c13
        refine lv_iconst (v := 2) hx hb dX10_visits_179 (by decide) ?_
        refine lv_goto (tgt := 195) hx hb dX10_visits_180 (by decide) ?_
        exact J195 _ _ u5 u6 2 a2 M12 ls X (lv_sub hl [2, 3, 4, 1, 0] rfl)  () h
    · have h := it_n h c9
      refine lv_aload_n hx hb dX10_visits_77 rfl (lv_at hl 2 rfl) ?_
      refine gf_X10_46 F X qM0 dX10_visits_78 ?_
      refine lv_iload_n hx hb dX10_visits_81 rfl (lv_at hl 4 rfl) ?_
      refine lv_iconst (v := 1) hx hb dX10_visits_82 (by decide) ?_
      obtain ⟨hin, h⟩ := gd_x h
      obtain ⟨M15, eM15, h⟩ := nm_x h
      refine r_iast F X (ar_X10_24 qM0) hin dX10_visits_83 (fun H locs X => ?_)
      have X := Wd_eq eM15 X
      refine lv_aload_n hx hb dX10_visits_84 rfl (lv_at hl 2 rfl) ?_
      refine lv_dup hx hb dX10_visits_85 rfl ?_
      refine gf_X10_188 F X qM0 dX10_visits_86 ?_
      refine lv_iconst (v := 1) hx hb dX10_visits_89 (by decide) ?_
      refine lv_iadd hx hb dX10_visits_90 ?_
      obtain ⟨M16, eM16, h⟩ := nm_x h
      refine pf_X10_188 F X qM0 dX10_visits_91 (fun H locs X => ?_)
      have X := Wd_eq eM16 X
      refine lv_aload_n hx hb dX10_visits_94 rfl (lv_at hl 2 rfl) ?_
      refine lv_dup hx hb dX10_visits_95 rfl ?_
      refine gf_X10_191 F X qM0 dX10_visits_96 ?_
      refine lv_iconst (v := 1) hx hb dX10_visits_99 (by decide) ?_
      refine lv_iload_n hx hb dX10_visits_100 rfl (lv_at hl 3 rfl) ?_
      refine lv_ishl hx hb dX10_visits_101 ?_
      refine lv_ior hx hb dX10_visits_102 ?_
      obtain ⟨M17, eM17, h⟩ := nm_x h
      refine pf_X10_191 F X qM0 dX10_visits_103 (fun H locs X => ?_)
      have X := Wd_eq eM17 X
      refine lv_aload_n hx hb dX10_visits_106 rfl (lv_at hl 2 rfl) ?_
      refine lv_dup hx hb dX10_visits_107 rfl ?_
      refine gf_X10_173 F X qM0 dX10_visits_108 ?_
      refine lv_aload_n hx hb dX10_visits_111 rfl (lv_at hl 2 rfl) ?_
      refine gf_X10_37 F X qM0 dX10_visits_112 ?_
      refine lv_iload_n hx hb dX10_visits_115 rfl (lv_at hl 3 rfl) ?_
      obtain ⟨hin, h⟩ := gd_x h
      refine r_iald F X (ar_X10_20 qM0) hin dX10_visits_116 ?_
      refine lv_iadd hx hb dX10_visits_117 ?_
      obtain ⟨M18, eM18, h⟩ := nm_x h
      refine pf_X10_173 F X qM0 dX10_visits_118 (fun H locs X => ?_)
      have X := Wd_eq eM18 X
      refine lv_aload_n hx hb dX10_visits_121 rfl (lv_at hl 2 rfl) ?_
      refine gf_X10_37 F X qM0 dX10_visits_122 ?_
      refine lv_iload_n hx hb dX10_visits_125 rfl (lv_at hl 3 rfl) ?_
      refine lv_iconst (v := 0) hx hb dX10_visits_126 (by decide) ?_
      obtain ⟨hin, h⟩ := gd_x h
      obtain ⟨M19, eM19, h⟩ := nm_x h
      refine r_iast F X (ar_X10_20 qM0) hin dX10_visits_127 (fun H locs X => ?_)
      have X := Wd_eq eM19 X
      refine lv_aload_n hx hb dX10_visits_128 rfl (lv_at hl 2 rfl) ?_
      refine gf_X10_40 F X qM0 dX10_visits_129 ?_
      refine lv_iload_n hx hb dX10_visits_132 rfl (lv_at hl 3 rfl) ?_
      refine lv_iconst (v := 0) hx hb dX10_visits_133 (by decide) ?_
      obtain ⟨hin, h⟩ := gd_x h
      obtain ⟨M20, eM20, h⟩ := nm_x h
      refine r_iast F X (ar_X10_21 qM0) hin dX10_visits_134 (fun H locs X => ?_)
      have X := Wd_eq eM20 X
      have h := sm_x h
      exact RT H locs _ 135 ls X h dX10_visits_135
  have J26 : ∀ (H : Heap) (locs : List Loc) (v0 : Int32) (M : Mem) (ls : Array Slot), Wd D ad cs GM A s H locs M → lv_has ls 5 [(0, .ref (ad (cO GM 0))), (1, .int a1), (2, .int a2)] → ∀ (_ : Unit), fX10_visits_26 a1 a2 v0 M = some z → W p l e (rmo 3 108) s m args below meth c H locs 0 0 Q (F0 m 26 ls [.int v0]) := by
    intro H locs v0 M ls X hl  _u h
    unfold fX10_visits_26 at h
    obtain ⟨u21, eu21, h⟩ := nm_x h
    refine topE eu21 ?_
    refine lv_istore_n (lv' := [(3, .int u21), (0, .ref (ad (cO GM 0))), (1, .int a1), (2, .int a2)]) hx hb dX10_visits_26 rfl hl (by decide) rfl (fun ls hl => ?_)
    refine lv_aload_n hx hb dX10_visits_27 rfl (lv_at hl 1 rfl) ?_
    refine gf_X10_28 F X qM0 dX10_visits_28 ?_
    refine lv_iconst (v := 3) hx hb dX10_visits_31 (by decide) ?_
    refine r_iald F X (ar_X10_8 qM0) (by decide : inB 3 4) dX10_visits_32 ?_
    refine lv_iload_n hx hb dX10_visits_33 rfl (lv_at hl 0 rfl) ?_
    refine lv_icmp_ge (tgt := 46) hx hb dX10_visits_34 (by decide) (fun c22 => ?_) (fun c22 => ?_)
    · have h := it_p h c22
      refine lv_iload_n hx hb dX10_visits_46 rfl (lv_at hl 0 rfl) ?_
      exact J47 _ _ u21 M ls X (lv_sub hl [1, 2, 3] rfl)  () h
    · have h := it_n h c22
      refine lv_aload_n hx hb dX10_visits_37 rfl (lv_at hl 1 rfl) ?_
      refine gf_X10_28 F X qM0 dX10_visits_38 ?_
      refine lv_iconst (v := 3) hx hb dX10_visits_41 (by decide) ?_
      refine r_iald F X (ar_X10_8 qM0) (by decide : inB 3 4) dX10_visits_42 ?_
      refine lv_goto (tgt := 47) hx hb dX10_visits_43 (by decide) ?_
      exact J47 _ _ (M 0 8 (Int32.toNatClampNeg 3)) M ls X (lv_sub hl [1, 2, 3] rfl)  () h
  have h := hz
  unfold fX10_visits at h
  refine lv_aload_n hx hb dX10_visits_0 rfl (lv_at hl 0 rfl) ?_
  refine gf_X10_43 F X qM0 dX10_visits_1 ?_
  refine lv_iload_n hx hb dX10_visits_4 rfl (lv_at hl 1 rfl) ?_
  obtain ⟨hin, h⟩ := gd_x h
  refine r_iald F X (ar_X10_22 qM0) hin dX10_visits_5 ?_
  refine lv_aload_n hx hb dX10_visits_6 rfl (lv_at hl 0 rfl) ?_
  refine gf_X10_182 F X qM0 dX10_visits_7 ?_
  refine lv_icmp_ge (tgt := 22) hx hb dX10_visits_10 (by decide) (fun c23 => ?_) (fun c23 => ?_)
  · have h := it_p h c23
    refine lv_aload_n hx hb dX10_visits_22 rfl (lv_at hl 0 rfl) ?_
    refine gf_X10_182 F X qM0 dX10_visits_23 ?_
    exact J26 _ _ (M 0 15 0) M ls X (lv_sub hl [0, 1, 2] rfl)  () h
  · have h := it_n h c23
    refine lv_aload_n hx hb dX10_visits_13 rfl (lv_at hl 0 rfl) ?_
    refine gf_X10_43 F X qM0 dX10_visits_14 ?_
    refine lv_iload_n hx hb dX10_visits_17 rfl (lv_at hl 1 rfl) ?_
    obtain ⟨hin, h⟩ := gd_x h
    refine r_iald F X (ar_X10_22 qM0) hin dX10_visits_18 ?_
    refine lv_goto (tgt := 26) hx hb dX10_visits_19 (by decide) ?_
    exact J26 _ _ (M 0 22 (Int32.toNatClampNeg a1)) M ls X (lv_sub hl [0, 1, 2] rfl)  () h

/-! ===== X10_runs ===== -/
def fX10_runs_182  (x1 : Int32) (v0 : Int32) (v1 : Int32) (M : Mem) : Option ((Int32 × Mem) ⊕ Mem) :=
  nm (wr M 0 15 0 (v1 + v0)) fun M1 =>
  (fX10_keepsAt M1 (x1 + (1 : Int32))).bind fun r2 =>
  nm (x1 + 1 : Int32) fun u3 =>
  some (.inl (u3, r2))
def fX10_runs_163  (x1 : Int32) (M : Mem) : Option ((Int32 × Mem) ⊕ Mem) :=
  if 9 ≤ (M 0 15 0) then
    fX10_runs_182 x1 0 (M 0 15 0) M
  else
    fX10_runs_182 x1 1 (M 0 15 0) M
def fX10_runs_84  (x1 : Int32) (M : Mem) : Option ((Int32 × Mem) ⊕ Mem) :=
  if (M 0 11 0) ≤ x1 then
    some (.inr M)
  else
    gd (inB x1 20) <|
    nm (M 0 12 (Int32.toNatClampNeg x1) : Int32) fun u6 =>
    gd (inB x1 20) <|
    nm (wr M 0 24 (Int32.toNatClampNeg x1) 0) fun M7 =>
    gd (inB x1 20) <|
    nm (wr M7 0 25 (Int32.toNatClampNeg x1) 0) fun M8 =>
    gd (inB x1 20) <|
    nm (wr M8 0 26 (Int32.toNatClampNeg x1) (M8 0 15 0)) fun M9 =>
    gd (inB x1 20) <|
    nm (wr M9 0 27 (Int32.toNatClampNeg x1) 0) fun M10 =>
    (if (M10 0 2 0) ≤ u6 then
      fX10_runs_163 x1 M10
    else
      if u6 = (M10 0 14 0) then
        fX10_runs_163 x1 M10
      else
        (fX10_isIn (M10 0 23 0) u6).bind fun r13 =>
        (if r13 = 0 then
          (fX10_visits M10 u6 x1).bind fun r15 =>
          fX10_runs_163 x1 r15
        else
          fX10_runs_163 x1 M10))
def fX10_runs_42  (M : Mem) : Option Mem :=
  nm (wr M 0 23 0 0) fun M16 =>
  nm (wr M16 0 15 0 (M16 0 8 (Int32.toNatClampNeg 0))) fun M17 =>
  nm (wr M17 0 16 0 0) fun M18 =>
  nm (wr M18 0 17 0 0) fun M19 =>
  nm (wr M19 0 18 0 (-1)) fun M20 =>
  nm (wr M20 0 19 0 0) fun M21 =>
  (fX10_keepsAt M21 0).bind fun r22 =>
  nm (0 : Int32) fun u23 =>
  lpO (fun st => fX10_runs_84 st.1 st.2) FU (u23, r22)
def fX10_runs_2  (x1 : Int32) (M : Mem) : Option ((Int32 × Mem) ⊕ Mem) :=
  if (M 0 2 0) ≤ x1 then
    inr' (fX10_runs_42 M)
  else
    gd (inB x1 8) <|
    nm (wr M 0 20 (Int32.toNatClampNeg x1) 0) fun M25 =>
    gd (inB x1 8) <|
    nm (wr M25 0 21 (Int32.toNatClampNeg x1) 0) fun M26 =>
    gd (inB x1 9) <|
    gd (inB x1 8) <|
    nm (wr M26 0 22 (Int32.toNatClampNeg x1) (M26 0 5 (Int32.toNatClampNeg x1))) fun M27 =>
    nm (x1 + 1 : Int32) fun u28 =>
    some (.inl (u28, M27))
def fX10_runs (M : Mem) : Option Mem :=
  nm (0 : Int32) fun u29 =>
  lpO (fun st => fX10_runs_2 st.1 st.2) FU (u29, M)
set_option maxHeartbeats 4000000 in
set_option maxRecDepth 100000 in
theorem kX10_runs (l : Launch) (D : va_G) (ad : Nat → Nat) (cs : Nat → ClassId) (A : Nat → Prop)  (M : Mem)  (z : Mem) (hz : fX10_runs M = some z) : Met l yX10_runs (wsU yX10_runs cX10_runs 3 none) (rmo 4 132) (va_Pc [.ref (ad (cO GM 0))] (Wd0 D ad cs GM A M)) (va_Qv (fun u => u = z) (Wd0 D ad cs GM A) A) 0 0 A := by
  refine ct_v (by decide) rfl okGM (Nat.le_of_ble_eq_true rfl) ?_
  intro p e s m args below meth c Q ls F X hl RT
  have hx := F.1
  have hb := F.2.1
  have hl : lv_has ls 3 [(0, .ref (ad (cO GM 0)))] := hl
  obtain ⟨H, hH⟩ : ∃ H, H = s.heap := ⟨_, rfl⟩
  rw [← hH] at X ⊢
  obtain ⟨locs, hlocs⟩ : ∃ locs : List Loc, locs = [] := ⟨_, rfl⟩
  rw [← hlocs] at X ⊢
  clear hH hlocs
  have L84 : ∀ (n : Nat) (H : Heap) (locs : List Loc) (x1 : Int32) (M : Mem) (ls : Array Slot), Wd D ad cs GM A s H locs M → lv_has ls 3 [(0, .ref (ad (cO GM 0))), (1, .int x1)] → ∀ (_ : Unit), lpO (fun st => fX10_runs_84 st.1 st.2) n (x1, M) = some z → W p l e (rmo 4 132) s m args below meth c H locs 0 0 Q (F0 m 84 ls []) := by
    intro n
    induction n with
    | zero =>
      intro H locs x1 M ls X hl  yy h
      exact lp_0 h
    | succ n1 ih84 =>
      intro H locs x1 M ls X hl  _u h
      obtain ⟨y1, h, hk1⟩ := lp_x h
      have J182 : ∀ (H : Heap) (locs : List Loc) (x1 : Int32) (v0 : Int32) (v1 : Int32) (M : Mem) (ls : Array Slot), Wd D ad cs GM A s H locs M → lv_has ls 3 [(0, .ref (ad (cO GM 0))), (1, .int x1)] → ∀ (y1 : ((Int32 × Mem) ⊕ Mem)), fX10_runs_182 x1 v0 v1 M = some y1 → lpK (fun st => fX10_runs_84 st.1 st.2) n1 y1 = some z → W p l e (rmo 4 132) s m args below meth c H locs 0 0 Q (F0 m 182 ls [.int v0, .int v1, .ref (ad (cO GM 0))]) := by
        intro H locs x1 v0 v1 M ls X hl  y1 h hk1
        unfold fX10_runs_182 at h
        refine lv_iadd hx hb dX10_runs_182 ?_
        obtain ⟨M1, eM1, h⟩ := nm_x h
        refine pf_X10_182 F X qM0 dX10_runs_183 (fun H locs X => ?_)
        have X := Wd_eq eM1 X
        refine lv_aload_n hx hb dX10_runs_186 rfl (lv_at hl 0 rfl) ?_
        refine lv_iload_n hx hb dX10_runs_187 rfl (lv_at hl 1 rfl) ?_
        refine lv_iconst (v := 1) hx hb dX10_runs_188 (by decide) ?_
        refine lv_iadd hx hb dX10_runs_189 ?_
        obtain ⟨r2, hr2, h⟩ := bd_x h
        refine r_callv X (r_runV F X (kX10_keepsAt l D ad cs A  M1 (x1 + (1 : Int32)) _ hr2) gm_X10_201 hd_X10_keepsAt ⟨Nat.le_of_ble_eq_true rfl, Nat.le_of_ble_eq_true rfl⟩ qM0 rfl rfl hl.1 rfl (Nat.le_of_ble_eq_true rfl) dX10_runs_190) (fun H locs X => ?_)
        obtain ⟨u3, eu3, h⟩ := nm_x h
        refine lv_iinc (v := u3) (lv' := [(1, .int u3), (0, .ref (ad (cO GM 0)))]) hx hb dX10_runs_193 hl (k := 1) rfl (by rw [eu3]; rfl) (by decide) rfl (fun ls hl => ?_)
        refine lv_goto (tgt := 84) hx hb dX10_runs_196 (by decide) ?_
        rw [← sm_x h] at hk1
        exact ih84 _ _ u3 r2 ls X (lv_sub hl [1, 0] rfl)  () hk1
      have J163 : ∀ (H : Heap) (locs : List Loc) (x1 : Int32) (M : Mem) (ls : Array Slot), Wd D ad cs GM A s H locs M → lv_has ls 3 [(0, .ref (ad (cO GM 0))), (1, .int x1)] → ∀ (y1 : ((Int32 × Mem) ⊕ Mem)), fX10_runs_163 x1 M = some y1 → lpK (fun st => fX10_runs_84 st.1 st.2) n1 y1 = some z → W p l e (rmo 4 132) s m args below meth c H locs 0 0 Q (F0 m 163 ls []) := by
        intro H locs x1 M ls X hl  y1 h hk1
        unfold fX10_runs_163 at h
        refine lv_aload_n hx hb dX10_runs_163 rfl (lv_at hl 0 rfl) ?_
        refine lv_dup hx hb dX10_runs_164 rfl ?_
        refine gf_X10_182 F X qM0 dX10_runs_165 ?_
        refine lv_aload_n hx hb dX10_runs_168 rfl (lv_at hl 0 rfl) ?_
        refine gf_X10_182 F X qM0 dX10_runs_169 ?_
        refine lv_bipush (v := 9) hx hb dX10_runs_172 (by decide) ?_
        refine lv_icmp_ge (tgt := 181) hx hb dX10_runs_174 (by decide) (fun c4 => ?_) (fun c4 => ?_)
        · have h := it_p h c4
          refine lv_iconst (v := 0) hx hb dX10_runs_181 (by decide) ?_
          exact J182 _ _ x1 0 (M 0 15 0) M ls X (lv_sub hl [0, 1] rfl)  _ h hk1
        · have h := it_n h c4
          refine lv_iconst (v := 1) hx hb dX10_runs_177 (by decide) ?_
          refine lv_goto (tgt := 182) hx hb dX10_runs_178 (by decide) ?_
          exact J182 _ _ x1 1 (M 0 15 0) M ls X (lv_sub hl [0, 1] rfl)  _ h hk1
      unfold fX10_runs_84 at h
      refine lv_iload_n hx hb dX10_runs_84 rfl (lv_at hl 1 rfl) ?_
      refine lv_aload_n hx hb dX10_runs_85 rfl (lv_at hl 0 rfl) ?_
      refine gf_X10_161 F X qM0 dX10_runs_86 ?_
      refine lv_icmp_ge (tgt := 199) hx hb dX10_runs_89 (by decide) (fun c5 => ?_) (fun c5 => ?_)
      · have h := it_p h c5
        have h := sm_x h
        rw [← h] at hk1
        have h := sm_x hk1
        exact RT H locs _ 199 ls X h dX10_runs_199
      · have h := it_n h c5
        refine lv_aload_n hx hb dX10_runs_92 rfl (lv_at hl 0 rfl) ?_
        refine gf_X10_34 F X qM0 dX10_runs_93 ?_
        refine lv_iload_n hx hb dX10_runs_96 rfl (lv_at hl 1 rfl) ?_
        obtain ⟨hin, h⟩ := gd_x h
        refine r_iald F X (ar_X10_12 qM0) hin dX10_runs_97 ?_
        obtain ⟨u6, eu6, h⟩ := nm_x h
        refine topE eu6 ?_
        refine lv_istore_n (lv' := [(2, .int u6), (0, .ref (ad (cO GM 0))), (1, .int x1)]) hx hb dX10_runs_98 rfl hl (by decide) rfl (fun ls hl => ?_)
        refine lv_aload_n hx hb dX10_runs_99 rfl (lv_at hl 1 rfl) ?_
        refine gf_X10_46 F X qM0 dX10_runs_100 ?_
        refine lv_iload_n hx hb dX10_runs_103 rfl (lv_at hl 2 rfl) ?_
        refine lv_iconst (v := 0) hx hb dX10_runs_104 (by decide) ?_
        obtain ⟨hin, h⟩ := gd_x h
        obtain ⟨M7, eM7, h⟩ := nm_x h
        refine r_iast F X (ar_X10_24 qM0) hin dX10_runs_105 (fun H locs X => ?_)
        have X := Wd_eq eM7 X
        refine lv_aload_n hx hb dX10_runs_106 rfl (lv_at hl 1 rfl) ?_
        refine gf_X10_49 F X qM0 dX10_runs_107 ?_
        refine lv_iload_n hx hb dX10_runs_110 rfl (lv_at hl 2 rfl) ?_
        refine lv_iconst (v := 0) hx hb dX10_runs_111 (by decide) ?_
        obtain ⟨hin, h⟩ := gd_x h
        obtain ⟨M8, eM8, h⟩ := nm_x h
        refine r_iast F X (ar_X10_25 qM0) hin dX10_runs_112 (fun H locs X => ?_)
        have X := Wd_eq eM8 X
        refine lv_aload_n hx hb dX10_runs_113 rfl (lv_at hl 1 rfl) ?_
        refine gf_X10_52 F X qM0 dX10_runs_114 ?_
        refine lv_iload_n hx hb dX10_runs_117 rfl (lv_at hl 2 rfl) ?_
        refine lv_aload_n hx hb dX10_runs_118 rfl (lv_at hl 1 rfl) ?_
        refine gf_X10_182 F X qM0 dX10_runs_119 ?_
        obtain ⟨hin, h⟩ := gd_x h
        obtain ⟨M9, eM9, h⟩ := nm_x h
        refine r_iast F X (ar_X10_26 qM0) hin dX10_runs_122 (fun H locs X => ?_)
        have X := Wd_eq eM9 X
        refine lv_aload_n hx hb dX10_runs_123 rfl (lv_at hl 1 rfl) ?_
        refine gf_X10_55 F X qM0 dX10_runs_124 ?_
        refine lv_iload_n hx hb dX10_runs_127 rfl (lv_at hl 2 rfl) ?_
        refine lv_iconst (v := 0) hx hb dX10_runs_128 (by decide) ?_
        obtain ⟨hin, h⟩ := gd_x h
        obtain ⟨M10, eM10, h⟩ := nm_x h
        refine r_iast F X (ar_X10_27 qM0) hin dX10_runs_129 (fun H locs X => ?_)
        have X := Wd_eq eM10 X
        refine lv_iload_n hx hb dX10_runs_130 rfl (lv_at hl 0 rfl) ?_
        refine lv_aload_n hx hb dX10_runs_131 rfl (lv_at hl 1 rfl) ?_
        refine gf_X10_109 F X qM0 dX10_runs_132 ?_
        refine lv_icmp_ge (tgt := 163) hx hb dX10_runs_135 (by decide) (fun c11 => ?_) (fun c11 => ?_)
        · have h := it_p h c11
          exact J163 _ _ x1 M10 ls X (lv_sub hl [1, 2] rfl)  _ h hk1
        · have h := it_n h c11
          refine lv_iload_n hx hb dX10_runs_138 rfl (lv_at hl 0 rfl) ?_
          refine lv_aload_n hx hb dX10_runs_139 rfl (lv_at hl 1 rfl) ?_
          refine gf_X10_170 F X qM0 dX10_runs_140 ?_
          refine lv_icmp_eq (tgt := 163) hx hb dX10_runs_143 (by decide) (fun c12 => ?_) (fun c12 => ?_)
          · have h := it_p h c12
            exact J163 _ _ x1 M10 ls X (lv_sub hl [1, 2] rfl)  _ h hk1
          · have h := it_n h c12
            refine lv_aload_n hx hb dX10_runs_146 rfl (lv_at hl 1 rfl) ?_
            refine gf_X10_191 F X qM0 dX10_runs_147 ?_
            refine lv_iload_n hx hb dX10_runs_150 rfl (lv_at hl 0 rfl) ?_
            obtain ⟨r13, hr13, h⟩ := bd_x h
            refine r_calli0 X (r_runS F X (kX10_isIn l D ad cs A  M10 (M10 0 23 0) u6 _ hr13) gm_X10_157 hd_X10_isIn ⟨Nat.le_of_ble_eq_true rfl, Nat.le_of_ble_eq_true rfl⟩ rfl hl.1 rfl (Nat.le_of_ble_eq_true rfl) dX10_runs_151) (fun H locs X => ?_)
            refine lv_if_ne (tgt := 163) hx hb dX10_runs_154 (by decide) (fun c14 => ?_) (fun c14 => ?_)
            · have h := it_n h c14
              exact J163 _ _ x1 M10 ls X (lv_sub hl [1, 2] rfl)  _ h hk1
            · have h := it_p h c14
              refine lv_aload_n hx hb dX10_runs_157 rfl (lv_at hl 1 rfl) ?_
              refine lv_iload_n hx hb dX10_runs_158 rfl (lv_at hl 0 rfl) ?_
              refine lv_iload_n hx hb dX10_runs_159 rfl (lv_at hl 2 rfl) ?_
              obtain ⟨r15, hr15, h⟩ := bd_x h
              refine r_callv X (r_runV F X (kX10_visits l D ad cs A  M10 u6 x1 _ hr15) gm_X10_205 hd_X10_visits ⟨Nat.le_of_ble_eq_true rfl, Nat.le_of_ble_eq_true rfl⟩ qM0 rfl rfl hl.1 rfl (Nat.le_of_ble_eq_true rfl) dX10_runs_160) (fun H locs X => ?_)
              exact J163 _ _ x1 r15 ls X (lv_sub hl [1, 2] rfl)  _ h hk1
  have J42 : ∀ (H : Heap) (locs : List Loc) (M : Mem) (ls : Array Slot), Wd D ad cs GM A s H locs M → lv_has ls 3 [(0, .ref (ad (cO GM 0)))] → ∀ (_ : Unit), fX10_runs_42 M = some z → W p l e (rmo 4 132) s m args below meth c H locs 0 0 Q (F0 m 42 ls []) := by
    intro H locs M ls X hl  _u h
    unfold fX10_runs_42 at h
    refine lv_aload_n hx hb dX10_runs_42 rfl (lv_at hl 0 rfl) ?_
    refine lv_iconst (v := 0) hx hb dX10_runs_43 (by decide) ?_
    obtain ⟨M16, eM16, h⟩ := nm_x h
    refine pf_X10_191 F X qM0 dX10_runs_44 (fun H locs X => ?_)
    have X := Wd_eq eM16 X
    refine lv_aload_n hx hb dX10_runs_47 rfl (lv_at hl 0 rfl) ?_
    refine lv_aload_n hx hb dX10_runs_48 rfl (lv_at hl 0 rfl) ?_
    refine gf_X10_28 F X qM0 dX10_runs_49 ?_
    refine lv_iconst (v := 0) hx hb dX10_runs_52 (by decide) ?_
    refine r_iald F X (ar_X10_8 qM0) (by decide : inB 0 4) dX10_runs_53 ?_
    obtain ⟨M17, eM17, h⟩ := nm_x h
    refine pf_X10_182 F X qM0 dX10_runs_54 (fun H locs X => ?_)
    have X := Wd_eq eM17 X
    refine lv_aload_n hx hb dX10_runs_57 rfl (lv_at hl 0 rfl) ?_
    refine lv_iconst (v := 0) hx hb dX10_runs_58 (by decide) ?_
    obtain ⟨M18, eM18, h⟩ := nm_x h
    refine pf_X10_188 F X qM0 dX10_runs_59 (fun H locs X => ?_)
    have X := Wd_eq eM18 X
    refine lv_aload_n hx hb dX10_runs_62 rfl (lv_at hl 0 rfl) ?_
    refine lv_iconst (v := 0) hx hb dX10_runs_63 (by decide) ?_
    obtain ⟨M19, eM19, h⟩ := nm_x h
    refine pf_X10_173 F X qM0 dX10_runs_64 (fun H locs X => ?_)
    have X := Wd_eq eM19 X
    refine lv_aload_n hx hb dX10_runs_67 rfl (lv_at hl 0 rfl) ?_
    refine lv_iconst (v := (-1)) hx hb dX10_runs_68 (by decide) ?_
    obtain ⟨M20, eM20, h⟩ := nm_x h
    refine pf_X10_179 F X qM0 dX10_runs_69 (fun H locs X => ?_)
    have X := Wd_eq eM20 X
    refine lv_aload_n hx hb dX10_runs_72 rfl (lv_at hl 0 rfl) ?_
    refine lv_iconst (v := 0) hx hb dX10_runs_73 (by decide) ?_
    obtain ⟨M21, eM21, h⟩ := nm_x h
    refine pf_X10_176 F X qM0 dX10_runs_74 (fun H locs X => ?_)
    have X := Wd_eq eM21 X
    refine lv_aload_n hx hb dX10_runs_77 rfl (lv_at hl 0 rfl) ?_
    refine lv_iconst (v := 0) hx hb dX10_runs_78 (by decide) ?_
    obtain ⟨r22, hr22, h⟩ := bd_x h
    refine r_callv X (r_runV F X (kX10_keepsAt l D ad cs A  M21 0 _ hr22) gm_X10_201 hd_X10_keepsAt ⟨Nat.le_of_ble_eq_true rfl, Nat.le_of_ble_eq_true rfl⟩ qM0 rfl rfl hl.1 rfl (Nat.le_of_ble_eq_true rfl) dX10_runs_79) (fun H locs X => ?_)
    refine lv_iconst (v := 0) hx hb dX10_runs_82 (by decide) ?_
    obtain ⟨u23, eu23, h⟩ := nm_x h
    refine topE eu23 ?_
    refine lv_istore_n (lv' := [(1, .int u23), (0, .ref (ad (cO GM 0)))]) hx hb dX10_runs_83 rfl hl (by decide) rfl (fun ls hl => ?_)
    exact L84 FU _ _ u23 r22 ls X (lv_sub hl [1, 0] rfl)  () h
  have L2 : ∀ (n : Nat) (H : Heap) (locs : List Loc) (x1 : Int32) (M : Mem) (ls : Array Slot), Wd D ad cs GM A s H locs M → lv_has ls 3 [(0, .ref (ad (cO GM 0))), (1, .int x1)] → ∀ (_ : Unit), lpO (fun st => fX10_runs_2 st.1 st.2) n (x1, M) = some z → W p l e (rmo 4 132) s m args below meth c H locs 0 0 Q (F0 m 2 ls []) := by
    intro n
    induction n with
    | zero =>
      intro H locs x1 M ls X hl  yy h
      exact lp_0 h
    | succ n1 ih2 =>
      intro H locs x1 M ls X hl  _u h
      obtain ⟨y1, h, hk1⟩ := lp_x h
      unfold fX10_runs_2 at h
      refine lv_iload_n hx hb dX10_runs_2 rfl (lv_at hl 1 rfl) ?_
      refine lv_aload_n hx hb dX10_runs_3 rfl (lv_at hl 0 rfl) ?_
      refine gf_X10_109 F X qM0 dX10_runs_4 ?_
      refine lv_icmp_ge (tgt := 42) hx hb dX10_runs_7 (by decide) (fun c24 => ?_) (fun c24 => ?_)
      · have h := it_p h c24
        obtain ⟨_, h, ey⟩ := inr_x h
        rw [ey] at hk1
        have h := h.trans (congrArg some (sm_x hk1))
        exact J42 _ _ M ls X (lv_sub hl [0] rfl)  () h
      · have h := it_n h c24
        refine lv_aload_n hx hb dX10_runs_10 rfl (lv_at hl 0 rfl) ?_
        refine gf_X10_37 F X qM0 dX10_runs_11 ?_
        refine lv_iload_n hx hb dX10_runs_14 rfl (lv_at hl 1 rfl) ?_
        refine lv_iconst (v := 0) hx hb dX10_runs_15 (by decide) ?_
        obtain ⟨hin, h⟩ := gd_x h
        obtain ⟨M25, eM25, h⟩ := nm_x h
        refine r_iast F X (ar_X10_20 qM0) hin dX10_runs_16 (fun H locs X => ?_)
        have X := Wd_eq eM25 X
        refine lv_aload_n hx hb dX10_runs_17 rfl (lv_at hl 0 rfl) ?_
        refine gf_X10_40 F X qM0 dX10_runs_18 ?_
        refine lv_iload_n hx hb dX10_runs_21 rfl (lv_at hl 1 rfl) ?_
        refine lv_iconst (v := 0) hx hb dX10_runs_22 (by decide) ?_
        obtain ⟨hin, h⟩ := gd_x h
        obtain ⟨M26, eM26, h⟩ := nm_x h
        refine r_iast F X (ar_X10_21 qM0) hin dX10_runs_23 (fun H locs X => ?_)
        have X := Wd_eq eM26 X
        refine lv_aload_n hx hb dX10_runs_24 rfl (lv_at hl 0 rfl) ?_
        refine gf_X10_43 F X qM0 dX10_runs_25 ?_
        refine lv_iload_n hx hb dX10_runs_28 rfl (lv_at hl 1 rfl) ?_
        refine lv_aload_n hx hb dX10_runs_29 rfl (lv_at hl 0 rfl) ?_
        refine gf_X10_22 F X qM0 dX10_runs_30 ?_
        refine lv_iload_n hx hb dX10_runs_33 rfl (lv_at hl 1 rfl) ?_
        obtain ⟨hin, h⟩ := gd_x h
        refine r_iald F X (ar_X10_5 qM0) hin dX10_runs_34 ?_
        obtain ⟨hin, h⟩ := gd_x h
        obtain ⟨M27, eM27, h⟩ := nm_x h
        refine r_iast F X (ar_X10_22 qM0) hin dX10_runs_35 (fun H locs X => ?_)
        have X := Wd_eq eM27 X
        obtain ⟨u28, eu28, h⟩ := nm_x h
        refine lv_iinc (v := u28) (lv' := [(1, .int u28), (0, .ref (ad (cO GM 0)))]) hx hb dX10_runs_36 hl (k := 1) rfl (by rw [eu28]; rfl) (by decide) rfl (fun ls hl => ?_)
        refine lv_goto (tgt := 2) hx hb dX10_runs_39 (by decide) ?_
        rw [← sm_x h] at hk1
        exact ih2 _ _ u28 M27 ls X (lv_sub hl [1, 0] rfl)  () hk1
  have h := hz
  unfold fX10_runs at h
  refine lv_iconst (v := 0) hx hb dX10_runs_0 (by decide) ?_
  obtain ⟨u29, eu29, h⟩ := nm_x h
  refine topE eu29 ?_
  refine lv_istore_n (lv' := [(1, .int u29), (0, .ref (ad (cO GM 0)))]) hx hb dX10_runs_1 rfl hl (by decide) rfl (fun ls hl => ?_)
  exact L2 FU _ _ u29 M ls X (lv_sub hl [1, 0] rfl)  () h

/-! ===== X10_runsTold ===== -/
def fX10_runsTold (M : Mem) : Option Mem :=
  (fX10_asTold M).bind fun r1 =>
  (fX10_runs r1).bind fun r2 =>
  some r2
set_option maxHeartbeats 4000000 in
set_option maxRecDepth 100000 in
theorem kX10_runsTold (l : Launch) (D : va_G) (ad : Nat → Nat) (cs : Nat → ClassId) (A : Nat → Prop)  (M : Mem)  (z : Mem) (hz : fX10_runsTold M = some z) : Met l yX10_runsTold (wsU yX10_runsTold cX10_runsTold 1 none) (rmo 7 200) (va_Pc [.ref (ad (cO GM 0))] (Wd0 D ad cs GM A M)) (va_Qv (fun u => u = z) (Wd0 D ad cs GM A) A) 0 0 A := by
  refine ct_v (by decide) rfl okGM (Nat.le_of_ble_eq_true rfl) ?_
  intro p e s m args below meth c Q ls F X hl RT
  have hx := F.1
  have hb := F.2.1
  have hl : lv_has ls 1 [(0, .ref (ad (cO GM 0)))] := hl
  obtain ⟨H, hH⟩ : ∃ H, H = s.heap := ⟨_, rfl⟩
  rw [← hH] at X ⊢
  obtain ⟨locs, hlocs⟩ : ∃ locs : List Loc, locs = [] := ⟨_, rfl⟩
  rw [← hlocs] at X ⊢
  clear hH hlocs
  have h := hz
  unfold fX10_runsTold at h
  refine lv_aload_n hx hb dX10_runsTold_0 rfl (lv_at hl 0 rfl) ?_
  obtain ⟨r1, hr1, h⟩ := bd_x h
  refine r_callv X (r_runV F X (kX10_asTold l D ad cs A  M  _ hr1) gm_X10_209 hd_X10_asTold ⟨Nat.le_of_ble_eq_true rfl, Nat.le_of_ble_eq_true rfl⟩ qM0 rfl rfl hl.1 rfl (Nat.le_of_ble_eq_true rfl) dX10_runsTold_1) (fun H locs X => ?_)
  refine lv_aload_n hx hb dX10_runsTold_4 rfl (lv_at hl 0 rfl) ?_
  obtain ⟨r2, hr2, h⟩ := bd_x h
  refine r_callv X (r_runV F X (kX10_runs l D ad cs A  r1  _ hr2) gm_X10_212 hd_X10_runs ⟨Nat.le_of_ble_eq_true rfl, Nat.le_of_ble_eq_true rfl⟩ qM0 rfl rfl hl.1 rfl (Nat.le_of_ble_eq_true rfl) dX10_runsTold_5) (fun H locs X => ?_)
  have h := sm_x h
  exact RT H locs _ 8 ls X h dX10_runsTold_8

/-! ===== X10_stopsMany ===== -/
def fX10_stopsMany (M : Mem) : Option (Int32 × Mem) :=
  (fX10_reads M).bind fun r1 =>
  some (r1 0 6 0, r1)
set_option maxHeartbeats 4000000 in
set_option maxRecDepth 100000 in
theorem kX10_stopsMany (l : Launch) (D : va_G) (ad : Nat → Nat) (cs : Nat → ClassId) (A : Nat → Prop)  (M : Mem)  (z : (Int32 × Mem)) (hz : fX10_stopsMany M = some z) : Met l yX10_stopsMany (wsU yX10_stopsMany cX10_stopsMany 1 (some .int)) (rmo 6 179) (va_Pc [.ref (ad (cO GM 0))] (Wd0 D ad cs GM A M)) (va_Qi (fun r u => (r, u) = z) (Wd0 D ad cs GM A) A) 0 0 A := by
  refine ct_i (by decide) rfl okGM (Nat.le_of_ble_eq_true rfl) ?_
  intro p e s m args below meth c Q ls F X hl RT
  have hx := F.1
  have hb := F.2.1
  have hl : lv_has ls 1 [(0, .ref (ad (cO GM 0)))] := hl
  obtain ⟨H, hH⟩ : ∃ H, H = s.heap := ⟨_, rfl⟩
  rw [← hH] at X ⊢
  obtain ⟨locs, hlocs⟩ : ∃ locs : List Loc, locs = [] := ⟨_, rfl⟩
  rw [← hlocs] at X ⊢
  clear hH hlocs
  have h := hz
  unfold fX10_stopsMany at h
  refine lv_aload_n hx hb dX10_stopsMany_0 rfl (lv_at hl 0 rfl) ?_
  obtain ⟨r1, hr1, h⟩ := bd_x h
  refine r_callv X (r_runV F X (kX10_reads l D ad cs A  M  _ hr1) gm_X10_130 hd_X10_reads ⟨Nat.le_of_ble_eq_true rfl, Nat.le_of_ble_eq_true rfl⟩ qM0 rfl rfl hl.1 rfl (Nat.le_of_ble_eq_true rfl) dX10_stopsMany_1) (fun H locs X => ?_)
  refine lv_aload_n hx hb dX10_stopsMany_4 rfl (lv_at hl 0 rfl) ?_
  refine gf_X10_117 F X qM0 dX10_stopsMany_5 ?_
  have h := sm_x h
  exact RT H locs _ _ 8 ls X h dX10_stopsMany_8

/-! ===== X10_doesOf ===== -/
def fX10_doesOf (M : Mem) (a1 : Int32) (a2 : Int32) : Option (Int32 × Mem) :=
  (fX10_runsTold M).bind fun r1 =>
  (if a2 = 0 then
    gd (inB a1 20) <|
    some (r1 0 24 (Int32.toNatClampNeg a1), r1)
  else
    if a2 = 1 then
      gd (inB a1 20) <|
      some (r1 0 25 (Int32.toNatClampNeg a1), r1)
    else
      if a2 = 2 then
        gd (inB a1 20) <|
        some (r1 0 26 (Int32.toNatClampNeg a1), r1)
      else
        gd (inB a1 20) <|
        some (r1 0 27 (Int32.toNatClampNeg a1), r1))
set_option maxHeartbeats 4000000 in
set_option maxRecDepth 100000 in
theorem kX10_doesOf (l : Launch) (D : va_G) (ad : Nat → Nat) (cs : Nat → ClassId) (A : Nat → Prop)  (M : Mem) (a1 : Int32) (a2 : Int32) (z : (Int32 × Mem)) (hz : fX10_doesOf M a1 a2 = some z) : Met l yX10_doesOf (wsU yX10_doesOf cX10_doesOf 3 (some .int)) (rmo 8 220) (va_Pc [.ref (ad (cO GM 0)), .int a1, .int a2] (Wd0 D ad cs GM A M)) (va_Qi (fun r u => (r, u) = z) (Wd0 D ad cs GM A) A) 0 0 A := by
  refine ct_i (by decide) rfl okGM (Nat.le_of_ble_eq_true rfl) ?_
  intro p e s m args below meth c Q ls F X hl RT
  have hx := F.1
  have hb := F.2.1
  have hl : lv_has ls 3 [(0, .ref (ad (cO GM 0))), (1, .int a1), (2, .int a2)] := hl
  obtain ⟨H, hH⟩ : ∃ H, H = s.heap := ⟨_, rfl⟩
  rw [← hH] at X ⊢
  obtain ⟨locs, hlocs⟩ : ∃ locs : List Loc, locs = [] := ⟨_, rfl⟩
  rw [← hlocs] at X ⊢
  clear hH hlocs
  have h := hz
  unfold fX10_doesOf at h
  refine lv_aload_n hx hb dX10_doesOf_0 rfl (lv_at hl 0 rfl) ?_
  obtain ⟨r1, hr1, h⟩ := bd_x h
  refine r_callv X (r_runV F X (kX10_runsTold l D ad cs A  M  _ hr1) gm_X10_215 hd_X10_runsTold ⟨Nat.le_of_ble_eq_true rfl, Nat.le_of_ble_eq_true rfl⟩ qM0 rfl rfl hl.1 rfl (Nat.le_of_ble_eq_true rfl) dX10_doesOf_1) (fun H locs X => ?_)
  refine lv_iload_n hx hb dX10_doesOf_4 rfl (lv_at hl 2 rfl) ?_
  refine lv_if_ne (tgt := 17) hx hb dX10_doesOf_5 (by decide) (fun c2 => ?_) (fun c2 => ?_)
  · have h := it_n h c2
    refine lv_iload_n hx hb dX10_doesOf_17 rfl (lv_at hl 2 rfl) ?_
    refine lv_iconst (v := 1) hx hb dX10_doesOf_18 (by decide) ?_
    refine lv_icmp_ne (tgt := 31) hx hb dX10_doesOf_19 (by decide) (fun c3 => ?_) (fun c3 => ?_)
    · have h := it_n h c3
      refine lv_iload_n hx hb dX10_doesOf_31 rfl (lv_at hl 2 rfl) ?_
      refine lv_iconst (v := 2) hx hb dX10_doesOf_32 (by decide) ?_
      refine lv_icmp_ne (tgt := 45) hx hb dX10_doesOf_33 (by decide) (fun c4 => ?_) (fun c4 => ?_)
      · have h := it_n h c4
        refine lv_aload_n hx hb dX10_doesOf_45 rfl (lv_at hl 0 rfl) ?_
        refine gf_X10_55 F X qM0 dX10_doesOf_46 ?_
        refine lv_iload_n hx hb dX10_doesOf_49 rfl (lv_at hl 1 rfl) ?_
        obtain ⟨hin, h⟩ := gd_x h
        refine r_iald F X (ar_X10_27 qM0) hin dX10_doesOf_50 ?_
        have h := sm_x h
        exact RT H locs _ _ 51 ls X h dX10_doesOf_51
      · have h := it_p h c4
        refine lv_aload_n hx hb dX10_doesOf_36 rfl (lv_at hl 0 rfl) ?_
        refine gf_X10_52 F X qM0 dX10_doesOf_37 ?_
        refine lv_iload_n hx hb dX10_doesOf_40 rfl (lv_at hl 1 rfl) ?_
        obtain ⟨hin, h⟩ := gd_x h
        refine r_iald F X (ar_X10_26 qM0) hin dX10_doesOf_41 ?_
        refine lv_goto (tgt := 51) hx hb dX10_doesOf_42 (by decide) ?_
        have h := sm_x h
        exact RT H locs _ _ 51 ls X h dX10_doesOf_51
    · have h := it_p h c3
      refine lv_aload_n hx hb dX10_doesOf_22 rfl (lv_at hl 0 rfl) ?_
      refine gf_X10_49 F X qM0 dX10_doesOf_23 ?_
      refine lv_iload_n hx hb dX10_doesOf_26 rfl (lv_at hl 1 rfl) ?_
      obtain ⟨hin, h⟩ := gd_x h
      refine r_iald F X (ar_X10_25 qM0) hin dX10_doesOf_27 ?_
      refine lv_goto (tgt := 51) hx hb dX10_doesOf_28 (by decide) ?_
      have h := sm_x h
      exact RT H locs _ _ 51 ls X h dX10_doesOf_51
  · have h := it_p h c2
    refine lv_aload_n hx hb dX10_doesOf_8 rfl (lv_at hl 0 rfl) ?_
    refine gf_X10_46 F X qM0 dX10_doesOf_9 ?_
    refine lv_iload_n hx hb dX10_doesOf_12 rfl (lv_at hl 1 rfl) ?_
    obtain ⟨hin, h⟩ := gd_x h
    refine r_iald F X (ar_X10_24 qM0) hin dX10_doesOf_13 ?_
    refine lv_goto (tgt := 51) hx hb dX10_doesOf_14 (by decide) ?_
    have h := sm_x h
    exact RT H locs _ _ 51 ls X h dX10_doesOf_51

/-! ===== X10_does ===== -/
def fX10_does (M : Mem) (a1 : Int32) (a2 : Int32) : Option (Int32 × Mem) :=
  (fX10_stopsMany M).bind fun r1 =>
  (fX10_in a1 0 (r1.1 - (1 : Int32))).bind fun r2 =>
  (if r2 = 0 then
    some ((-2), r1.2)
  else
    (fX10_in a2 0 3).bind fun r4 =>
    (if r4 = 0 then
      some ((-2), r1.2)
    else
      (fX10_doesOf r1.2 a1 a2).bind fun r6 =>
      some (r6.1, r6.2)))
set_option maxHeartbeats 4000000 in
set_option maxRecDepth 100000 in
theorem kX10_does (l : Launch) (D : va_G) (ad : Nat → Nat) (cs : Nat → ClassId) (A : Nat → Prop)  (M : Mem) (a1 : Int32) (a2 : Int32) (z : (Int32 × Mem)) (hz : fX10_does M a1 a2 = some z) : Met l yX10_does (wsU yX10_does cX10_does 3 (some .int)) (rmo 9 242) (va_Pc [.ref (ad (cO GM 0)), .int a1, .int a2] (Wd0 D ad cs GM A M)) (va_Qi (fun r u => (r, u) = z) (Wd0 D ad cs GM A) A) 0 0 A := by
  refine ct_i (by decide) rfl okGM (Nat.le_of_ble_eq_true rfl) ?_
  intro p e s m args below meth c Q ls F X hl RT
  have hx := F.1
  have hb := F.2.1
  have hl : lv_has ls 3 [(0, .ref (ad (cO GM 0))), (1, .int a1), (2, .int a2)] := hl
  obtain ⟨H, hH⟩ : ∃ H, H = s.heap := ⟨_, rfl⟩
  rw [← hH] at X ⊢
  obtain ⟨locs, hlocs⟩ : ∃ locs : List Loc, locs = [] := ⟨_, rfl⟩
  rw [← hlocs] at X ⊢
  clear hH hlocs
  have h := hz
  unfold fX10_does at h
  refine lv_iload_n hx hb dX10_does_0 rfl (lv_at hl 1 rfl) ?_
  refine lv_iconst (v := 0) hx hb dX10_does_1 (by decide) ?_
  refine lv_aload_n hx hb dX10_does_2 rfl (lv_at hl 0 rfl) ?_
  obtain ⟨r1, hr1, h⟩ := bd_x h
  refine r_calli X (r_runV F X (kX10_stopsMany l D ad cs A  M  _ hr1) gm_X10_218 hd_X10_stopsMany ⟨Nat.le_of_ble_eq_true rfl, Nat.le_of_ble_eq_true rfl⟩ qM0 rfl rfl hl.1 rfl (Nat.le_of_ble_eq_true rfl) dX10_does_3) (fun H locs X => ?_)
  refine lv_iconst (v := 1) hx hb dX10_does_6 (by decide) ?_
  refine lv_isub hx hb dX10_does_7 ?_
  obtain ⟨r2, hr2, h⟩ := bd_x h
  refine r_calli0 X (r_runS F X (kX10_in l D ad cs A  r1.2 a1 0 (r1.1 - (1 : Int32)) _ hr2) gm_X10_97 hd_X10_in ⟨Nat.le_of_ble_eq_true rfl, Nat.le_of_ble_eq_true rfl⟩ rfl hl.1 rfl (Nat.le_of_ble_eq_true rfl) dX10_does_8) (fun H locs X => ?_)
  refine lv_if_eq (tgt := 32) hx hb dX10_does_11 (by decide) (fun c3 => ?_) (fun c3 => ?_)
  · have h := it_p h c3
    refine lv_bipush (v := (-2)) hx hb dX10_does_32 (by decide) ?_
    have h := sm_x h
    exact RT H locs _ _ 34 ls X h dX10_does_34
  · have h := it_n h c3
    refine lv_iload_n hx hb dX10_does_14 rfl (lv_at hl 2 rfl) ?_
    refine lv_iconst (v := 0) hx hb dX10_does_15 (by decide) ?_
    refine lv_iconst (v := 3) hx hb dX10_does_16 (by decide) ?_
    obtain ⟨r4, hr4, h⟩ := bd_x h
    refine r_calli0 X (r_runS F X (kX10_in l D ad cs A  r1.2 a2 0 3 _ hr4) gm_X10_97 hd_X10_in ⟨Nat.le_of_ble_eq_true rfl, Nat.le_of_ble_eq_true rfl⟩ rfl hl.1 rfl (Nat.le_of_ble_eq_true rfl) dX10_does_17) (fun H locs X => ?_)
    refine lv_if_eq (tgt := 32) hx hb dX10_does_20 (by decide) (fun c5 => ?_) (fun c5 => ?_)
    · have h := it_p h c5
      refine lv_bipush (v := (-2)) hx hb dX10_does_32 (by decide) ?_
      have h := sm_x h
      exact RT H locs _ _ 34 ls X h dX10_does_34
    · have h := it_n h c5
      refine lv_aload_n hx hb dX10_does_23 rfl (lv_at hl 0 rfl) ?_
      refine lv_iload_n hx hb dX10_does_24 rfl (lv_at hl 1 rfl) ?_
      refine lv_iload_n hx hb dX10_does_25 rfl (lv_at hl 2 rfl) ?_
      obtain ⟨r6, hr6, h⟩ := bd_x h
      refine r_calli X (r_runV F X (kX10_doesOf l D ad cs A  r1.2 a1 a2 _ hr6) gm_X10_221 hd_X10_doesOf ⟨Nat.le_of_ble_eq_true rfl, Nat.le_of_ble_eq_true rfl⟩ qM0 rfl rfl hl.1 rfl (Nat.le_of_ble_eq_true rfl) dX10_does_26) (fun H locs X => ?_)
      refine lv_goto (tgt := 34) hx hb dX10_does_29 (by decide) ?_
      have h := sm_x h
      exact RT H locs _ _ 34 ls X h dX10_does_34

/-! ===== X10_shareOf ===== -/
def fX10_shareOf (M : Mem) (a1 : Int32) (a2 : Int32) (a3 : Int32) : Option (Int32 × Mem) :=
  (fX10_runsTold M).bind fun r1 =>
  (if a3 = 0 then
    gd (inB (((8 : Int32) * a1) + a2) 168) <|
    some (r1 0 28 (Int32.toNatClampNeg (((8 : Int32) * a1) + a2)), r1)
  else
    if a3 = 1 then
      gd (inB (((8 : Int32) * a1) + a2) 168) <|
      some (r1 0 29 (Int32.toNatClampNeg (((8 : Int32) * a1) + a2)), r1)
    else
      gd (inB (((8 : Int32) * a1) + a2) 168) <|
      some (r1 0 30 (Int32.toNatClampNeg (((8 : Int32) * a1) + a2)), r1))
set_option maxHeartbeats 4000000 in
set_option maxRecDepth 100000 in
theorem kX10_shareOf (l : Launch) (D : va_G) (ad : Nat → Nat) (cs : Nat → ClassId) (A : Nat → Prop)  (M : Mem) (a1 : Int32) (a2 : Int32) (a3 : Int32) (z : (Int32 × Mem)) (hz : fX10_shareOf M a1 a2 a3 = some z) : Met l yX10_shareOf (wsU yX10_shareOf cX10_shareOf 4 (some .int)) (rmo 8 220) (va_Pc [.ref (ad (cO GM 0)), .int a1, .int a2, .int a3] (Wd0 D ad cs GM A M)) (va_Qi (fun r u => (r, u) = z) (Wd0 D ad cs GM A) A) 0 0 A := by
  refine ct_i (by decide) rfl okGM (Nat.le_of_ble_eq_true rfl) ?_
  intro p e s m args below meth c Q ls F X hl RT
  have hx := F.1
  have hb := F.2.1
  have hl : lv_has ls 4 [(0, .ref (ad (cO GM 0))), (1, .int a1), (2, .int a2), (3, .int a3)] := hl
  obtain ⟨H, hH⟩ : ∃ H, H = s.heap := ⟨_, rfl⟩
  rw [← hH] at X ⊢
  obtain ⟨locs, hlocs⟩ : ∃ locs : List Loc, locs = [] := ⟨_, rfl⟩
  rw [← hlocs] at X ⊢
  clear hH hlocs
  have h := hz
  unfold fX10_shareOf at h
  refine lv_aload_n hx hb dX10_shareOf_0 rfl (lv_at hl 0 rfl) ?_
  obtain ⟨r1, hr1, h⟩ := bd_x h
  refine r_callv X (r_runV F X (kX10_runsTold l D ad cs A  M  _ hr1) gm_X10_215 hd_X10_runsTold ⟨Nat.le_of_ble_eq_true rfl, Nat.le_of_ble_eq_true rfl⟩ qM0 rfl rfl hl.1 rfl (Nat.le_of_ble_eq_true rfl) dX10_shareOf_1) (fun H locs X => ?_)
  refine lv_iload_n hx hb dX10_shareOf_4 rfl (lv_at hl 3 rfl) ?_
  refine lv_if_ne (tgt := 22) hx hb dX10_shareOf_5 (by decide) (fun c2 => ?_) (fun c2 => ?_)
  · have h := it_n h c2
    refine lv_iload_n hx hb dX10_shareOf_22 rfl (lv_at hl 3 rfl) ?_
    refine lv_iconst (v := 1) hx hb dX10_shareOf_23 (by decide) ?_
    refine lv_icmp_ne (tgt := 41) hx hb dX10_shareOf_24 (by decide) (fun c3 => ?_) (fun c3 => ?_)
    · have h := it_n h c3
      refine lv_aload_n hx hb dX10_shareOf_41 rfl (lv_at hl 0 rfl) ?_
      refine gf_X10_64 F X qM0 dX10_shareOf_42 ?_
      refine lv_bipush (v := 8) hx hb dX10_shareOf_45 (by decide) ?_
      refine lv_iload_n hx hb dX10_shareOf_47 rfl (lv_at hl 1 rfl) ?_
      refine lv_imul hx hb dX10_shareOf_48 ?_
      refine lv_iload_n hx hb dX10_shareOf_49 rfl (lv_at hl 2 rfl) ?_
      refine lv_iadd hx hb dX10_shareOf_50 ?_
      obtain ⟨hin, h⟩ := gd_x h
      refine r_iald F X (ar_X10_30 qM0) hin dX10_shareOf_51 ?_
      have h := sm_x h
      exact RT H locs _ _ 52 ls X h dX10_shareOf_52
    · have h := it_p h c3
      refine lv_aload_n hx hb dX10_shareOf_27 rfl (lv_at hl 0 rfl) ?_
      refine gf_X10_61 F X qM0 dX10_shareOf_28 ?_
      refine lv_bipush (v := 8) hx hb dX10_shareOf_31 (by decide) ?_
      refine lv_iload_n hx hb dX10_shareOf_33 rfl (lv_at hl 1 rfl) ?_
      refine lv_imul hx hb dX10_shareOf_34 ?_
      refine lv_iload_n hx hb dX10_shareOf_35 rfl (lv_at hl 2 rfl) ?_
      refine lv_iadd hx hb dX10_shareOf_36 ?_
      obtain ⟨hin, h⟩ := gd_x h
      refine r_iald F X (ar_X10_29 qM0) hin dX10_shareOf_37 ?_
      refine lv_goto (tgt := 52) hx hb dX10_shareOf_38 (by decide) ?_
      have h := sm_x h
      exact RT H locs _ _ 52 ls X h dX10_shareOf_52
  · have h := it_p h c2
    refine lv_aload_n hx hb dX10_shareOf_8 rfl (lv_at hl 0 rfl) ?_
    refine gf_X10_58 F X qM0 dX10_shareOf_9 ?_
    refine lv_bipush (v := 8) hx hb dX10_shareOf_12 (by decide) ?_
    refine lv_iload_n hx hb dX10_shareOf_14 rfl (lv_at hl 1 rfl) ?_
    refine lv_imul hx hb dX10_shareOf_15 ?_
    refine lv_iload_n hx hb dX10_shareOf_16 rfl (lv_at hl 2 rfl) ?_
    refine lv_iadd hx hb dX10_shareOf_17 ?_
    obtain ⟨hin, h⟩ := gd_x h
    refine r_iald F X (ar_X10_28 qM0) hin dX10_shareOf_18 ?_
    refine lv_goto (tgt := 52) hx hb dX10_shareOf_19 (by decide) ?_
    have h := sm_x h
    exact RT H locs _ _ 52 ls X h dX10_shareOf_52

/-! ===== X10_share ===== -/
def fX10_share (M : Mem) (a1 : Int32) (a2 : Int32) (a3 : Int32) : Option (Int32 × Mem) :=
  (fX10_stopsMany M).bind fun r1 =>
  (fX10_in a1 0 r1.1).bind fun r2 =>
  (if r2 = 0 then
    some ((-2), r1.2)
  else
    (fX10_isHeir r1.2 a2).bind fun r4 =>
    (if r4.1 = 0 then
      some ((-2), r4.2)
    else
      (fX10_in a3 0 2).bind fun r6 =>
      (if r6 = 0 then
        some ((-2), r4.2)
      else
        (fX10_shareOf r4.2 a1 a2 a3).bind fun r8 =>
        some (r8.1, r8.2))))
set_option maxHeartbeats 4000000 in
set_option maxRecDepth 100000 in
theorem kX10_share (l : Launch) (D : va_G) (ad : Nat → Nat) (cs : Nat → ClassId) (A : Nat → Prop)  (M : Mem) (a1 : Int32) (a2 : Int32) (a3 : Int32) (z : (Int32 × Mem)) (hz : fX10_share M a1 a2 a3 = some z) : Met l yX10_share (wsU yX10_share cX10_share 4 (some .int)) (rmo 9 243) (va_Pc [.ref (ad (cO GM 0)), .int a1, .int a2, .int a3] (Wd0 D ad cs GM A M)) (va_Qi (fun r u => (r, u) = z) (Wd0 D ad cs GM A) A) 0 0 A := by
  refine ct_i (by decide) rfl okGM (Nat.le_of_ble_eq_true rfl) ?_
  intro p e s m args below meth c Q ls F X hl RT
  have hx := F.1
  have hb := F.2.1
  have hl : lv_has ls 4 [(0, .ref (ad (cO GM 0))), (1, .int a1), (2, .int a2), (3, .int a3)] := hl
  obtain ⟨H, hH⟩ : ∃ H, H = s.heap := ⟨_, rfl⟩
  rw [← hH] at X ⊢
  obtain ⟨locs, hlocs⟩ : ∃ locs : List Loc, locs = [] := ⟨_, rfl⟩
  rw [← hlocs] at X ⊢
  clear hH hlocs
  have h := hz
  unfold fX10_share at h
  refine lv_iload_n hx hb dX10_share_0 rfl (lv_at hl 1 rfl) ?_
  refine lv_iconst (v := 0) hx hb dX10_share_1 (by decide) ?_
  refine lv_aload_n hx hb dX10_share_2 rfl (lv_at hl 0 rfl) ?_
  obtain ⟨r1, hr1, h⟩ := bd_x h
  refine r_calli X (r_runV F X (kX10_stopsMany l D ad cs A  M  _ hr1) gm_X10_218 hd_X10_stopsMany ⟨Nat.le_of_ble_eq_true rfl, Nat.le_of_ble_eq_true rfl⟩ qM0 rfl rfl hl.1 rfl (Nat.le_of_ble_eq_true rfl) dX10_share_3) (fun H locs X => ?_)
  obtain ⟨r2, hr2, h⟩ := bd_x h
  refine r_calli0 X (r_runS F X (kX10_in l D ad cs A  r1.2 a1 0 r1.1 _ hr2) gm_X10_97 hd_X10_in ⟨Nat.le_of_ble_eq_true rfl, Nat.le_of_ble_eq_true rfl⟩ rfl hl.1 rfl (Nat.le_of_ble_eq_true rfl) dX10_share_6) (fun H locs X => ?_)
  refine lv_if_eq (tgt := 39) hx hb dX10_share_9 (by decide) (fun c3 => ?_) (fun c3 => ?_)
  · have h := it_p h c3
    refine lv_bipush (v := (-2)) hx hb dX10_share_39 (by decide) ?_
    have h := sm_x h
    exact RT H locs _ _ 41 ls X h dX10_share_41
  · have h := it_n h c3
    refine lv_aload_n hx hb dX10_share_12 rfl (lv_at hl 0 rfl) ?_
    refine lv_iload_n hx hb dX10_share_13 rfl (lv_at hl 2 rfl) ?_
    obtain ⟨r4, hr4, h⟩ := bd_x h
    refine r_calli X (r_runV F X (kX10_isHeir l D ad cs A  r1.2 a2 _ hr4) gm_X10_133 hd_X10_isHeir ⟨Nat.le_of_ble_eq_true rfl, Nat.le_of_ble_eq_true rfl⟩ qM0 rfl rfl hl.1 rfl (Nat.le_of_ble_eq_true rfl) dX10_share_14) (fun H locs X => ?_)
    refine lv_if_eq (tgt := 39) hx hb dX10_share_17 (by decide) (fun c5 => ?_) (fun c5 => ?_)
    · have h := it_p h c5
      refine lv_bipush (v := (-2)) hx hb dX10_share_39 (by decide) ?_
      have h := sm_x h
      exact RT H locs _ _ 41 ls X h dX10_share_41
    · have h := it_n h c5
      refine lv_iload_n hx hb dX10_share_20 rfl (lv_at hl 3 rfl) ?_
      refine lv_iconst (v := 0) hx hb dX10_share_21 (by decide) ?_
      refine lv_iconst (v := 2) hx hb dX10_share_22 (by decide) ?_
      obtain ⟨r6, hr6, h⟩ := bd_x h
      refine r_calli0 X (r_runS F X (kX10_in l D ad cs A  r4.2 a3 0 2 _ hr6) gm_X10_97 hd_X10_in ⟨Nat.le_of_ble_eq_true rfl, Nat.le_of_ble_eq_true rfl⟩ rfl hl.1 rfl (Nat.le_of_ble_eq_true rfl) dX10_share_23) (fun H locs X => ?_)
      refine lv_if_eq (tgt := 39) hx hb dX10_share_26 (by decide) (fun c7 => ?_) (fun c7 => ?_)
      · have h := it_p h c7
        refine lv_bipush (v := (-2)) hx hb dX10_share_39 (by decide) ?_
        have h := sm_x h
        exact RT H locs _ _ 41 ls X h dX10_share_41
      · have h := it_n h c7
        refine lv_aload_n hx hb dX10_share_29 rfl (lv_at hl 0 rfl) ?_
        refine lv_iload_n hx hb dX10_share_30 rfl (lv_at hl 1 rfl) ?_
        refine lv_iload_n hx hb dX10_share_31 rfl (lv_at hl 2 rfl) ?_
        refine lv_iload_n hx hb dX10_share_32 rfl (lv_at hl 3 rfl) ?_
        obtain ⟨r8, hr8, h⟩ := bd_x h
        refine r_calli X (r_runV F X (kX10_shareOf l D ad cs A  r4.2 a1 a2 a3 _ hr8) gm_X10_224 hd_X10_shareOf ⟨Nat.le_of_ble_eq_true rfl, Nat.le_of_ble_eq_true rfl⟩ qM0 rfl rfl hl.1 rfl (Nat.le_of_ble_eq_true rfl) dX10_share_33) (fun H locs X => ?_)
        refine lv_goto (tgt := 41) hx hb dX10_share_36 (by decide) ?_
        have h := sm_x h
        exact RT H locs _ _ 41 ls X h dX10_share_41

/-! ===== X10_outOf ===== -/
def fX10_outOf (M : Mem) : Option (Int32 × Mem) :=
  (fX10_runsTold M).bind fun r1 =>
  some (r1 0 23 0, r1)
set_option maxHeartbeats 4000000 in
set_option maxRecDepth 100000 in
theorem kX10_outOf (l : Launch) (D : va_G) (ad : Nat → Nat) (cs : Nat → ClassId) (A : Nat → Prop)  (M : Mem)  (z : (Int32 × Mem)) (hz : fX10_outOf M = some z) : Met l yX10_outOf (wsU yX10_outOf cX10_outOf 1 (some .int)) (rmo 8 220) (va_Pc [.ref (ad (cO GM 0))] (Wd0 D ad cs GM A M)) (va_Qi (fun r u => (r, u) = z) (Wd0 D ad cs GM A) A) 0 0 A := by
  refine ct_i (by decide) rfl okGM (Nat.le_of_ble_eq_true rfl) ?_
  intro p e s m args below meth c Q ls F X hl RT
  have hx := F.1
  have hb := F.2.1
  have hl : lv_has ls 1 [(0, .ref (ad (cO GM 0)))] := hl
  obtain ⟨H, hH⟩ : ∃ H, H = s.heap := ⟨_, rfl⟩
  rw [← hH] at X ⊢
  obtain ⟨locs, hlocs⟩ : ∃ locs : List Loc, locs = [] := ⟨_, rfl⟩
  rw [← hlocs] at X ⊢
  clear hH hlocs
  have h := hz
  unfold fX10_outOf at h
  refine lv_aload_n hx hb dX10_outOf_0 rfl (lv_at hl 0 rfl) ?_
  obtain ⟨r1, hr1, h⟩ := bd_x h
  refine r_callv X (r_runV F X (kX10_runsTold l D ad cs A  M  _ hr1) gm_X10_215 hd_X10_runsTold ⟨Nat.le_of_ble_eq_true rfl, Nat.le_of_ble_eq_true rfl⟩ qM0 rfl rfl hl.1 rfl (Nat.le_of_ble_eq_true rfl) dX10_outOf_1) (fun H locs X => ?_)
  refine lv_aload_n hx hb dX10_outOf_4 rfl (lv_at hl 0 rfl) ?_
  refine gf_X10_191 F X qM0 dX10_outOf_5 ?_
  have h := sm_x h
  exact RT H locs _ _ 8 ls X h dX10_outOf_8

/-! ===== X10_out ===== -/
def fX10_out (M : Mem) : Option (Int32 × Mem) :=
  (fX10_outOf M).bind fun r1 =>
  some (r1.1, r1.2)
set_option maxHeartbeats 4000000 in
set_option maxRecDepth 100000 in
theorem kX10_out (l : Launch) (D : va_G) (ad : Nat → Nat) (cs : Nat → ClassId) (A : Nat → Prop)  (M : Mem)  (z : (Int32 × Mem)) (hz : fX10_out M = some z) : Met l yX10_out (wsU yX10_out cX10_out 1 (some .int)) (rmo 9 240) (va_Pc [.ref (ad (cO GM 0))] (Wd0 D ad cs GM A M)) (va_Qi (fun r u => (r, u) = z) (Wd0 D ad cs GM A) A) 0 0 A := by
  refine ct_i (by decide) rfl okGM (Nat.le_of_ble_eq_true rfl) ?_
  intro p e s m args below meth c Q ls F X hl RT
  have hx := F.1
  have hb := F.2.1
  have hl : lv_has ls 1 [(0, .ref (ad (cO GM 0)))] := hl
  obtain ⟨H, hH⟩ : ∃ H, H = s.heap := ⟨_, rfl⟩
  rw [← hH] at X ⊢
  obtain ⟨locs, hlocs⟩ : ∃ locs : List Loc, locs = [] := ⟨_, rfl⟩
  rw [← hlocs] at X ⊢
  clear hH hlocs
  have h := hz
  unfold fX10_out at h
  refine lv_aload_n hx hb dX10_out_0 rfl (lv_at hl 0 rfl) ?_
  obtain ⟨r1, hr1, h⟩ := bd_x h
  refine r_calli X (r_runV F X (kX10_outOf l D ad cs A  M  _ hr1) gm_X10_228 hd_X10_outOf ⟨Nat.le_of_ble_eq_true rfl, Nat.le_of_ble_eq_true rfl⟩ qM0 rfl rfl hl.1 rfl (Nat.le_of_ble_eq_true rfl) dX10_out_1) (fun H locs X => ?_)
  have h := sm_x h
  exact RT H locs _ _ 4 ls X h dX10_out_4

/-! ===== X10_estateNow ===== -/
def fX10_estateNow_4 (M : Mem) (x1 : Int32) (x2 : Int32) : Option ((Int32 × Int32) ⊕ Int32) :=
  if (M 0 2 0) ≤ x2 then
    some (.inr x1)
  else
    gd (inB x2 8) <|
    nm (x1 + (M 0 20 (Int32.toNatClampNeg x2)) : Int32) fun u2 =>
    nm (x2 + 1 : Int32) fun u3 =>
    some (.inl (u2, u3))
def fX10_estateNow (M : Mem) : Option Int32 :=
  nm (0 : Int32) fun u4 =>
  nm (0 : Int32) fun u5 =>
  lpO (fun st => fX10_estateNow_4 M st.1 st.2) FU (u4, u5)
set_option maxHeartbeats 4000000 in
set_option maxRecDepth 100000 in
theorem kX10_estateNow (l : Launch) (D : va_G) (ad : Nat → Nat) (cs : Nat → ClassId) (A : Nat → Prop)  (M : Mem)  (z : Int32) (hz : fX10_estateNow M = some z) : Met l yX10_estateNow (wsU yX10_estateNow cX10_estateNow 3 (some .int)) (rmo 1 64) (va_Pc [.ref (ad (cO GM 0))] (Wd0 D ad cs GM A M)) (va_Qi (fun r u => (r, u) = (z, M)) (Wd0 D ad cs GM A) A) 0 0 A := by
  refine ct_i0 (by decide) rfl okGM (Nat.le_of_ble_eq_true rfl) ?_
  intro p e s m args below meth c Q ls F X hl RT
  have hx := F.1
  have hb := F.2.1
  have hl : lv_has ls 3 [(0, .ref (ad (cO GM 0)))] := hl
  obtain ⟨H, hH⟩ : ∃ H, H = s.heap := ⟨_, rfl⟩
  rw [← hH] at X ⊢
  obtain ⟨locs, hlocs⟩ : ∃ locs : List Loc, locs = [] := ⟨_, rfl⟩
  rw [← hlocs] at X ⊢
  clear hH hlocs
  have L4 : ∀ (n : Nat) (H : Heap) (locs : List Loc) (x1 : Int32) (x2 : Int32) (ls : Array Slot), Wd D ad cs GM A s H locs M → lv_has ls 3 [(0, .ref (ad (cO GM 0))), (1, .int x1), (2, .int x2)] → ∀ (_ : Unit), lpO (fun st => fX10_estateNow_4 M st.1 st.2) n (x1, x2) = some z → W p l e (rmo 1 64) s m args below meth c H locs 0 0 Q (F0 m 4 ls []) := by
    intro n
    induction n with
    | zero =>
      intro H locs x1 x2 ls X hl  yy h
      exact lp_0 h
    | succ n1 ih4 =>
      intro H locs x1 x2 ls X hl  _u h
      obtain ⟨y1, h, hk1⟩ := lp_x h
      unfold fX10_estateNow_4 at h
      refine lv_iload_n hx hb dX10_estateNow_4 rfl (lv_at hl 2 rfl) ?_
      refine lv_aload_n hx hb dX10_estateNow_5 rfl (lv_at hl 0 rfl) ?_
      refine gf_X10_109 F X qM0 dX10_estateNow_6 ?_
      refine lv_icmp_ge (tgt := 27) hx hb dX10_estateNow_9 (by decide) (fun c1 => ?_) (fun c1 => ?_)
      · have h := it_p h c1
        refine lv_iload_n hx hb dX10_estateNow_27 rfl (lv_at hl 1 rfl) ?_
        have h := sm_x h
        rw [← h] at hk1
        have h := sm_x hk1
        exact RT H locs _ 28 ls X h dX10_estateNow_28
      · have h := it_n h c1
        refine lv_iload_n hx hb dX10_estateNow_12 rfl (lv_at hl 1 rfl) ?_
        refine lv_aload_n hx hb dX10_estateNow_13 rfl (lv_at hl 0 rfl) ?_
        refine gf_X10_37 F X qM0 dX10_estateNow_14 ?_
        refine lv_iload_n hx hb dX10_estateNow_17 rfl (lv_at hl 2 rfl) ?_
        obtain ⟨hin, h⟩ := gd_x h
        refine r_iald F X (ar_X10_20 qM0) hin dX10_estateNow_18 ?_
        refine lv_iadd hx hb dX10_estateNow_19 ?_
        obtain ⟨u2, eu2, h⟩ := nm_x h
        refine topE eu2 ?_
        refine lv_istore_n (lv' := [(1, .int u2), (0, .ref (ad (cO GM 0))), (2, .int x2)]) hx hb dX10_estateNow_20 rfl hl (by decide) rfl (fun ls hl => ?_)
        obtain ⟨u3, eu3, h⟩ := nm_x h
        refine lv_iinc (v := u3) (lv' := [(2, .int u3), (1, .int u2), (0, .ref (ad (cO GM 0)))]) hx hb dX10_estateNow_21 hl (k := 2) rfl (by rw [eu3]; rfl) (by decide) rfl (fun ls hl => ?_)
        refine lv_goto (tgt := 4) hx hb dX10_estateNow_24 (by decide) ?_
        rw [← sm_x h] at hk1
        exact ih4 _ _ u2 u3 ls X (lv_sub hl [2, 1, 0] rfl)  () hk1
  have h := hz
  unfold fX10_estateNow at h
  refine lv_iconst (v := 0) hx hb dX10_estateNow_0 (by decide) ?_
  obtain ⟨u4, eu4, h⟩ := nm_x h
  refine topE eu4 ?_
  refine lv_istore_n (lv' := [(1, .int u4), (0, .ref (ad (cO GM 0)))]) hx hb dX10_estateNow_1 rfl hl (by decide) rfl (fun ls hl => ?_)
  refine lv_iconst (v := 0) hx hb dX10_estateNow_2 (by decide) ?_
  obtain ⟨u5, eu5, h⟩ := nm_x h
  refine topE eu5 ?_
  refine lv_istore_n (lv' := [(2, .int u5), (1, .int u4), (0, .ref (ad (cO GM 0)))]) hx hb dX10_estateNow_3 rfl hl (by decide) rfl (fun ls hl => ?_)
  exact L4 FU _ _ u4 u5 ls X (lv_sub hl [2, 1, 0] rfl)  () h

/-! ===== X10_estateOf ===== -/
def fX10_estateOf (M : Mem) : Option (Int32 × Mem) :=
  (fX10_runsTold M).bind fun r1 =>
  (fX10_estateNow r1).bind fun r2 =>
  some (r2, r1)
set_option maxHeartbeats 4000000 in
set_option maxRecDepth 100000 in
theorem kX10_estateOf (l : Launch) (D : va_G) (ad : Nat → Nat) (cs : Nat → ClassId) (A : Nat → Prop)  (M : Mem)  (z : (Int32 × Mem)) (hz : fX10_estateOf M = some z) : Met l yX10_estateOf (wsU yX10_estateOf cX10_estateOf 1 (some .int)) (rmo 8 220) (va_Pc [.ref (ad (cO GM 0))] (Wd0 D ad cs GM A M)) (va_Qi (fun r u => (r, u) = z) (Wd0 D ad cs GM A) A) 0 0 A := by
  refine ct_i (by decide) rfl okGM (Nat.le_of_ble_eq_true rfl) ?_
  intro p e s m args below meth c Q ls F X hl RT
  have hx := F.1
  have hb := F.2.1
  have hl : lv_has ls 1 [(0, .ref (ad (cO GM 0)))] := hl
  obtain ⟨H, hH⟩ : ∃ H, H = s.heap := ⟨_, rfl⟩
  rw [← hH] at X ⊢
  obtain ⟨locs, hlocs⟩ : ∃ locs : List Loc, locs = [] := ⟨_, rfl⟩
  rw [← hlocs] at X ⊢
  clear hH hlocs
  have h := hz
  unfold fX10_estateOf at h
  refine lv_aload_n hx hb dX10_estateOf_0 rfl (lv_at hl 0 rfl) ?_
  obtain ⟨r1, hr1, h⟩ := bd_x h
  refine r_callv X (r_runV F X (kX10_runsTold l D ad cs A  M  _ hr1) gm_X10_215 hd_X10_runsTold ⟨Nat.le_of_ble_eq_true rfl, Nat.le_of_ble_eq_true rfl⟩ qM0 rfl rfl hl.1 rfl (Nat.le_of_ble_eq_true rfl) dX10_estateOf_1) (fun H locs X => ?_)
  refine lv_aload_n hx hb dX10_estateOf_4 rfl (lv_at hl 0 rfl) ?_
  obtain ⟨r2, hr2, h⟩ := bd_x h
  refine r_calli0 X (r_runV F X (kX10_estateNow l D ad cs A  r1  _ hr2) gm_X10_231 hd_X10_estateNow ⟨Nat.le_of_ble_eq_true rfl, Nat.le_of_ble_eq_true rfl⟩ qM0 rfl rfl hl.1 rfl (Nat.le_of_ble_eq_true rfl) dX10_estateOf_5) (fun H locs X => ?_)
  have h := sm_x h
  exact RT H locs _ _ 8 ls X h dX10_estateOf_8

/-! ===== X10_estate ===== -/
def fX10_estate (M : Mem) : Option (Int32 × Mem) :=
  (fX10_estateOf M).bind fun r1 =>
  some (r1.1, r1.2)
set_option maxHeartbeats 4000000 in
set_option maxRecDepth 100000 in
theorem kX10_estate (l : Launch) (D : va_G) (ad : Nat → Nat) (cs : Nat → ClassId) (A : Nat → Prop)  (M : Mem)  (z : (Int32 × Mem)) (hz : fX10_estate M = some z) : Met l yX10_estate (wsU yX10_estate cX10_estate 1 (some .int)) (rmo 9 240) (va_Pc [.ref (ad (cO GM 0))] (Wd0 D ad cs GM A M)) (va_Qi (fun r u => (r, u) = z) (Wd0 D ad cs GM A) A) 0 0 A := by
  refine ct_i (by decide) rfl okGM (Nat.le_of_ble_eq_true rfl) ?_
  intro p e s m args below meth c Q ls F X hl RT
  have hx := F.1
  have hb := F.2.1
  have hl : lv_has ls 1 [(0, .ref (ad (cO GM 0)))] := hl
  obtain ⟨H, hH⟩ : ∃ H, H = s.heap := ⟨_, rfl⟩
  rw [← hH] at X ⊢
  obtain ⟨locs, hlocs⟩ : ∃ locs : List Loc, locs = [] := ⟨_, rfl⟩
  rw [← hlocs] at X ⊢
  clear hH hlocs
  have h := hz
  unfold fX10_estate at h
  refine lv_aload_n hx hb dX10_estate_0 rfl (lv_at hl 0 rfl) ?_
  obtain ⟨r1, hr1, h⟩ := bd_x h
  refine r_calli X (r_runV F X (kX10_estateOf l D ad cs A  M  _ hr1) gm_X10_234 hd_X10_estateOf ⟨Nat.le_of_ble_eq_true rfl, Nat.le_of_ble_eq_true rfl⟩ qM0 rfl rfl hl.1 rfl (Nat.le_of_ble_eq_true rfl) dX10_estate_1) (fun H locs X => ?_)
  have h := sm_x h
  exact RT H locs _ _ 4 ls X h dX10_estate_4

/-! ===== X10_richestNow ===== -/
def fX10_richestNow_50 (M : Mem) (x1 : Int32) (x3 : Int32) (v0 : Int32) : Option ((Int32 × Int32 × Int32) ⊕ Int32) :=
  nm (v0 : Int32) fun u1 =>
  nm (x3 + 1 : Int32) fun u2 =>
  some (.inl (x1, u1, u2))
def fX10_richestNow_29 (M : Mem) (x2 : Int32) (x3 : Int32) (v0 : Int32) : Option ((Int32 × Int32 × Int32) ⊕ Int32) :=
  nm (v0 : Int32) fun u3 =>
  gd (inB x3 8) <|
  (if (M 0 20 (Int32.toNatClampNeg x3)) ≤ x2 then
    fX10_richestNow_50 M u3 x3 x2
  else
    gd (inB x3 8) <|
    fX10_richestNow_50 M u3 x3 (M 0 20 (Int32.toNatClampNeg x3)))
def fX10_richestNow_6 (M : Mem) (x1 : Int32) (x2 : Int32) (x3 : Int32) : Option ((Int32 × Int32 × Int32) ⊕ Int32) :=
  if (M 0 2 0) ≤ x3 then
    some (.inr x1)
  else
    gd (inB x3 8) <|
    (if (M 0 20 (Int32.toNatClampNeg x3)) ≤ x2 then
      fX10_richestNow_29 M x2 x3 x1
    else
      fX10_richestNow_29 M x2 x3 x3)
def fX10_richestNow (M : Mem) : Option Int32 :=
  nm ((-1) : Int32) fun u7 =>
  nm (0 : Int32) fun u8 =>
  nm (0 : Int32) fun u9 =>
  lpO (fun st => fX10_richestNow_6 M st.1 st.2.1 st.2.2) FU (u7, u8, u9)
set_option maxHeartbeats 4000000 in
set_option maxRecDepth 100000 in
theorem kX10_richestNow (l : Launch) (D : va_G) (ad : Nat → Nat) (cs : Nat → ClassId) (A : Nat → Prop)  (M : Mem)  (z : Int32) (hz : fX10_richestNow M = some z) : Met l yX10_richestNow (wsU yX10_richestNow cX10_richestNow 4 (some .int)) (rmo 1 64) (va_Pc [.ref (ad (cO GM 0))] (Wd0 D ad cs GM A M)) (va_Qi (fun r u => (r, u) = (z, M)) (Wd0 D ad cs GM A) A) 0 0 A := by
  refine ct_i0 (by decide) rfl okGM (Nat.le_of_ble_eq_true rfl) ?_
  intro p e s m args below meth c Q ls F X hl RT
  have hx := F.1
  have hb := F.2.1
  have hl : lv_has ls 4 [(0, .ref (ad (cO GM 0)))] := hl
  obtain ⟨H, hH⟩ : ∃ H, H = s.heap := ⟨_, rfl⟩
  rw [← hH] at X ⊢
  obtain ⟨locs, hlocs⟩ : ∃ locs : List Loc, locs = [] := ⟨_, rfl⟩
  rw [← hlocs] at X ⊢
  clear hH hlocs
  have L6 : ∀ (n : Nat) (H : Heap) (locs : List Loc) (x1 : Int32) (x2 : Int32) (x3 : Int32) (ls : Array Slot), Wd D ad cs GM A s H locs M → lv_has ls 4 [(0, .ref (ad (cO GM 0))), (1, .int x1), (2, .int x2), (3, .int x3)] → ∀ (_ : Unit), lpO (fun st => fX10_richestNow_6 M st.1 st.2.1 st.2.2) n (x1, x2, x3) = some z → W p l e (rmo 1 64) s m args below meth c H locs 0 0 Q (F0 m 6 ls []) := by
    intro n
    induction n with
    | zero =>
      intro H locs x1 x2 x3 ls X hl  yy h
      exact lp_0 h
    | succ n1 ih6 =>
      intro H locs x1 x2 x3 ls X hl  _u h
      obtain ⟨y1, h, hk1⟩ := lp_x h
      have J50 : ∀ (H : Heap) (locs : List Loc) (x1 : Int32) (x3 : Int32) (v0 : Int32) (ls : Array Slot), Wd D ad cs GM A s H locs M → lv_has ls 4 [(0, .ref (ad (cO GM 0))), (1, .int x1), (3, .int x3)] → ∀ (y1 : ((Int32 × Int32 × Int32) ⊕ Int32)), fX10_richestNow_50 M x1 x3 v0 = some y1 → lpK (fun st => fX10_richestNow_6 M st.1 st.2.1 st.2.2) n1 y1 = some z → W p l e (rmo 1 64) s m args below meth c H locs 0 0 Q (F0 m 50 ls [.int v0]) := by
        intro H locs x1 x3 v0 ls X hl  y1 h hk1
        unfold fX10_richestNow_50 at h
        obtain ⟨u1, eu1, h⟩ := nm_x h
        refine topE eu1 ?_
        refine lv_istore_n (lv' := [(2, .int u1), (0, .ref (ad (cO GM 0))), (1, .int x1), (3, .int x3)]) hx hb dX10_richestNow_50 rfl hl (by decide) rfl (fun ls hl => ?_)
        obtain ⟨u2, eu2, h⟩ := nm_x h
        refine lv_iinc (v := u2) (lv' := [(3, .int u2), (2, .int u1), (0, .ref (ad (cO GM 0))), (1, .int x1)]) hx hb dX10_richestNow_51 hl (k := 3) rfl (by rw [eu2]; rfl) (by decide) rfl (fun ls hl => ?_)
        refine lv_goto (tgt := 6) hx hb dX10_richestNow_54 (by decide) ?_
        rw [← sm_x h] at hk1
        exact ih6 _ _ x1 u1 u2 ls X (lv_sub hl [2, 3, 1, 0] rfl)  () hk1
      have J29 : ∀ (H : Heap) (locs : List Loc) (x2 : Int32) (x3 : Int32) (v0 : Int32) (ls : Array Slot), Wd D ad cs GM A s H locs M → lv_has ls 4 [(0, .ref (ad (cO GM 0))), (2, .int x2), (3, .int x3)] → ∀ (y1 : ((Int32 × Int32 × Int32) ⊕ Int32)), fX10_richestNow_29 M x2 x3 v0 = some y1 → lpK (fun st => fX10_richestNow_6 M st.1 st.2.1 st.2.2) n1 y1 = some z → W p l e (rmo 1 64) s m args below meth c H locs 0 0 Q (F0 m 29 ls [.int v0]) := by
        intro H locs x2 x3 v0 ls X hl  y1 h hk1
        unfold fX10_richestNow_29 at h
        obtain ⟨u3, eu3, h⟩ := nm_x h
        refine topE eu3 ?_
        refine lv_istore_n (lv' := [(1, .int u3), (0, .ref (ad (cO GM 0))), (2, .int x2), (3, .int x3)]) hx hb dX10_richestNow_29 rfl hl (by decide) rfl (fun ls hl => ?_)
        refine lv_aload_n hx hb dX10_richestNow_30 rfl (lv_at hl 1 rfl) ?_
        refine gf_X10_37 F X qM0 dX10_richestNow_31 ?_
        refine lv_iload_n hx hb dX10_richestNow_34 rfl (lv_at hl 3 rfl) ?_
        obtain ⟨hin, h⟩ := gd_x h
        refine r_iald F X (ar_X10_20 qM0) hin dX10_richestNow_35 ?_
        refine lv_iload_n hx hb dX10_richestNow_36 rfl (lv_at hl 2 rfl) ?_
        refine lv_icmp_le (tgt := 49) hx hb dX10_richestNow_37 (by decide) (fun c4 => ?_) (fun c4 => ?_)
        · have h := it_p h c4
          refine lv_iload_n hx hb dX10_richestNow_49 rfl (lv_at hl 2 rfl) ?_
          exact J50 _ _ u3 x3 x2 ls X (lv_sub hl [1, 0, 3] rfl)  _ h hk1
        · have h := it_n h c4
          refine lv_aload_n hx hb dX10_richestNow_40 rfl (lv_at hl 1 rfl) ?_
          refine gf_X10_37 F X qM0 dX10_richestNow_41 ?_
          refine lv_iload_n hx hb dX10_richestNow_44 rfl (lv_at hl 3 rfl) ?_
          obtain ⟨hin, h⟩ := gd_x h
          refine r_iald F X (ar_X10_20 qM0) hin dX10_richestNow_45 ?_
          refine lv_goto (tgt := 50) hx hb dX10_richestNow_46 (by decide) ?_
          exact J50 _ _ u3 x3 (M 0 20 (Int32.toNatClampNeg x3)) ls X (lv_sub hl [1, 0, 3] rfl)  _ h hk1
      unfold fX10_richestNow_6 at h
      refine lv_iload_n hx hb dX10_richestNow_6 rfl (lv_at hl 3 rfl) ?_
      refine lv_aload_n hx hb dX10_richestNow_7 rfl (lv_at hl 0 rfl) ?_
      refine gf_X10_109 F X qM0 dX10_richestNow_8 ?_
      refine lv_icmp_ge (tgt := 57) hx hb dX10_richestNow_11 (by decide) (fun c5 => ?_) (fun c5 => ?_)
      · have h := it_p h c5
        refine lv_iload_n hx hb dX10_richestNow_57 rfl (lv_at hl 1 rfl) ?_
        have h := sm_x h
        rw [← h] at hk1
        have h := sm_x hk1
        exact RT H locs _ 58 ls X h dX10_richestNow_58
      · have h := it_n h c5
        refine lv_aload_n hx hb dX10_richestNow_14 rfl (lv_at hl 0 rfl) ?_
        refine gf_X10_37 F X qM0 dX10_richestNow_15 ?_
        refine lv_iload_n hx hb dX10_richestNow_18 rfl (lv_at hl 3 rfl) ?_
        obtain ⟨hin, h⟩ := gd_x h
        refine r_iald F X (ar_X10_20 qM0) hin dX10_richestNow_19 ?_
        refine lv_iload_n hx hb dX10_richestNow_20 rfl (lv_at hl 2 rfl) ?_
        refine lv_icmp_le (tgt := 28) hx hb dX10_richestNow_21 (by decide) (fun c6 => ?_) (fun c6 => ?_)
        · have h := it_p h c6
          refine lv_iload_n hx hb dX10_richestNow_28 rfl (lv_at hl 1 rfl) ?_
          exact J29 _ _ x2 x3 x1 ls X (lv_sub hl [0, 2, 3] rfl)  _ h hk1
        · have h := it_n h c6
          refine lv_iload_n hx hb dX10_richestNow_24 rfl (lv_at hl 3 rfl) ?_
          refine lv_goto (tgt := 29) hx hb dX10_richestNow_25 (by decide) ?_
          exact J29 _ _ x2 x3 x3 ls X (lv_sub hl [0, 2, 3] rfl)  _ h hk1
  have h := hz
  unfold fX10_richestNow at h
  refine lv_iconst (v := (-1)) hx hb dX10_richestNow_0 (by decide) ?_
  obtain ⟨u7, eu7, h⟩ := nm_x h
  refine topE eu7 ?_
  refine lv_istore_n (lv' := [(1, .int u7), (0, .ref (ad (cO GM 0)))]) hx hb dX10_richestNow_1 rfl hl (by decide) rfl (fun ls hl => ?_)
  refine lv_iconst (v := 0) hx hb dX10_richestNow_2 (by decide) ?_
  obtain ⟨u8, eu8, h⟩ := nm_x h
  refine topE eu8 ?_
  refine lv_istore_n (lv' := [(2, .int u8), (1, .int u7), (0, .ref (ad (cO GM 0)))]) hx hb dX10_richestNow_3 rfl hl (by decide) rfl (fun ls hl => ?_)
  refine lv_iconst (v := 0) hx hb dX10_richestNow_4 (by decide) ?_
  obtain ⟨u9, eu9, h⟩ := nm_x h
  refine topE eu9 ?_
  refine lv_istore_n (lv' := [(3, .int u9), (2, .int u8), (1, .int u7), (0, .ref (ad (cO GM 0)))]) hx hb dX10_richestNow_5 rfl hl (by decide) rfl (fun ls hl => ?_)
  exact L6 FU _ _ u7 u8 u9 ls X (lv_sub hl [3, 2, 1, 0] rfl)  () h

/-! ===== X10_richestOf ===== -/
def fX10_richestOf (M : Mem) : Option (Int32 × Mem) :=
  (fX10_runsTold M).bind fun r1 =>
  (fX10_richestNow r1).bind fun r2 =>
  some (r2, r1)
set_option maxHeartbeats 4000000 in
set_option maxRecDepth 100000 in
theorem kX10_richestOf (l : Launch) (D : va_G) (ad : Nat → Nat) (cs : Nat → ClassId) (A : Nat → Prop)  (M : Mem)  (z : (Int32 × Mem)) (hz : fX10_richestOf M = some z) : Met l yX10_richestOf (wsU yX10_richestOf cX10_richestOf 1 (some .int)) (rmo 8 220) (va_Pc [.ref (ad (cO GM 0))] (Wd0 D ad cs GM A M)) (va_Qi (fun r u => (r, u) = z) (Wd0 D ad cs GM A) A) 0 0 A := by
  refine ct_i (by decide) rfl okGM (Nat.le_of_ble_eq_true rfl) ?_
  intro p e s m args below meth c Q ls F X hl RT
  have hx := F.1
  have hb := F.2.1
  have hl : lv_has ls 1 [(0, .ref (ad (cO GM 0)))] := hl
  obtain ⟨H, hH⟩ : ∃ H, H = s.heap := ⟨_, rfl⟩
  rw [← hH] at X ⊢
  obtain ⟨locs, hlocs⟩ : ∃ locs : List Loc, locs = [] := ⟨_, rfl⟩
  rw [← hlocs] at X ⊢
  clear hH hlocs
  have h := hz
  unfold fX10_richestOf at h
  refine lv_aload_n hx hb dX10_richestOf_0 rfl (lv_at hl 0 rfl) ?_
  obtain ⟨r1, hr1, h⟩ := bd_x h
  refine r_callv X (r_runV F X (kX10_runsTold l D ad cs A  M  _ hr1) gm_X10_215 hd_X10_runsTold ⟨Nat.le_of_ble_eq_true rfl, Nat.le_of_ble_eq_true rfl⟩ qM0 rfl rfl hl.1 rfl (Nat.le_of_ble_eq_true rfl) dX10_richestOf_1) (fun H locs X => ?_)
  refine lv_aload_n hx hb dX10_richestOf_4 rfl (lv_at hl 0 rfl) ?_
  obtain ⟨r2, hr2, h⟩ := bd_x h
  refine r_calli0 X (r_runV F X (kX10_richestNow l D ad cs A  r1  _ hr2) gm_X10_237 hd_X10_richestNow ⟨Nat.le_of_ble_eq_true rfl, Nat.le_of_ble_eq_true rfl⟩ qM0 rfl rfl hl.1 rfl (Nat.le_of_ble_eq_true rfl) dX10_richestOf_5) (fun H locs X => ?_)
  have h := sm_x h
  exact RT H locs _ _ 8 ls X h dX10_richestOf_8

/-! ===== X10_richest ===== -/
def fX10_richest (M : Mem) : Option (Int32 × Mem) :=
  (fX10_richestOf M).bind fun r1 =>
  some (r1.1, r1.2)
set_option maxHeartbeats 4000000 in
set_option maxRecDepth 100000 in
theorem kX10_richest (l : Launch) (D : va_G) (ad : Nat → Nat) (cs : Nat → ClassId) (A : Nat → Prop)  (M : Mem)  (z : (Int32 × Mem)) (hz : fX10_richest M = some z) : Met l yX10_richest (wsU yX10_richest cX10_richest 1 (some .int)) (rmo 9 240) (va_Pc [.ref (ad (cO GM 0))] (Wd0 D ad cs GM A M)) (va_Qi (fun r u => (r, u) = z) (Wd0 D ad cs GM A) A) 0 0 A := by
  refine ct_i (by decide) rfl okGM (Nat.le_of_ble_eq_true rfl) ?_
  intro p e s m args below meth c Q ls F X hl RT
  have hx := F.1
  have hb := F.2.1
  have hl : lv_has ls 1 [(0, .ref (ad (cO GM 0)))] := hl
  obtain ⟨H, hH⟩ : ∃ H, H = s.heap := ⟨_, rfl⟩
  rw [← hH] at X ⊢
  obtain ⟨locs, hlocs⟩ : ∃ locs : List Loc, locs = [] := ⟨_, rfl⟩
  rw [← hlocs] at X ⊢
  clear hH hlocs
  have h := hz
  unfold fX10_richest at h
  refine lv_aload_n hx hb dX10_richest_0 rfl (lv_at hl 0 rfl) ?_
  obtain ⟨r1, hr1, h⟩ := bd_x h
  refine r_calli X (r_runV F X (kX10_richestOf l D ad cs A  M  _ hr1) gm_X10_240 hd_X10_richestOf ⟨Nat.le_of_ble_eq_true rfl, Nat.le_of_ble_eq_true rfl⟩ qM0 rfl rfl hl.1 rfl (Nat.le_of_ble_eq_true rfl) dX10_richest_1) (fun H locs X => ?_)
  have h := sm_x h
  exact RT H locs _ _ 4 ls X h dX10_richest_4

/-! ===== X10_longestOf ===== -/
def fX10_longestOf (M : Mem) : Option (Int32 × Mem) :=
  (fX10_runsTold M).bind fun r1 =>
  some (r1 0 18 0, r1)
set_option maxHeartbeats 4000000 in
set_option maxRecDepth 100000 in
theorem kX10_longestOf (l : Launch) (D : va_G) (ad : Nat → Nat) (cs : Nat → ClassId) (A : Nat → Prop)  (M : Mem)  (z : (Int32 × Mem)) (hz : fX10_longestOf M = some z) : Met l yX10_longestOf (wsU yX10_longestOf cX10_longestOf 1 (some .int)) (rmo 8 220) (va_Pc [.ref (ad (cO GM 0))] (Wd0 D ad cs GM A M)) (va_Qi (fun r u => (r, u) = z) (Wd0 D ad cs GM A) A) 0 0 A := by
  refine ct_i (by decide) rfl okGM (Nat.le_of_ble_eq_true rfl) ?_
  intro p e s m args below meth c Q ls F X hl RT
  have hx := F.1
  have hb := F.2.1
  have hl : lv_has ls 1 [(0, .ref (ad (cO GM 0)))] := hl
  obtain ⟨H, hH⟩ : ∃ H, H = s.heap := ⟨_, rfl⟩
  rw [← hH] at X ⊢
  obtain ⟨locs, hlocs⟩ : ∃ locs : List Loc, locs = [] := ⟨_, rfl⟩
  rw [← hlocs] at X ⊢
  clear hH hlocs
  have h := hz
  unfold fX10_longestOf at h
  refine lv_aload_n hx hb dX10_longestOf_0 rfl (lv_at hl 0 rfl) ?_
  obtain ⟨r1, hr1, h⟩ := bd_x h
  refine r_callv X (r_runV F X (kX10_runsTold l D ad cs A  M  _ hr1) gm_X10_215 hd_X10_runsTold ⟨Nat.le_of_ble_eq_true rfl, Nat.le_of_ble_eq_true rfl⟩ qM0 rfl rfl hl.1 rfl (Nat.le_of_ble_eq_true rfl) dX10_longestOf_1) (fun H locs X => ?_)
  refine lv_aload_n hx hb dX10_longestOf_4 rfl (lv_at hl 0 rfl) ?_
  refine gf_X10_179 F X qM0 dX10_longestOf_5 ?_
  have h := sm_x h
  exact RT H locs _ _ 8 ls X h dX10_longestOf_8

/-! ===== X10_longest ===== -/
def fX10_longest (M : Mem) : Option (Int32 × Mem) :=
  (fX10_longestOf M).bind fun r1 =>
  some (r1.1, r1.2)
set_option maxHeartbeats 4000000 in
set_option maxRecDepth 100000 in
theorem kX10_longest (l : Launch) (D : va_G) (ad : Nat → Nat) (cs : Nat → ClassId) (A : Nat → Prop)  (M : Mem)  (z : (Int32 × Mem)) (hz : fX10_longest M = some z) : Met l yX10_longest (wsU yX10_longest cX10_longest 1 (some .int)) (rmo 9 240) (va_Pc [.ref (ad (cO GM 0))] (Wd0 D ad cs GM A M)) (va_Qi (fun r u => (r, u) = z) (Wd0 D ad cs GM A) A) 0 0 A := by
  refine ct_i (by decide) rfl okGM (Nat.le_of_ble_eq_true rfl) ?_
  intro p e s m args below meth c Q ls F X hl RT
  have hx := F.1
  have hb := F.2.1
  have hl : lv_has ls 1 [(0, .ref (ad (cO GM 0)))] := hl
  obtain ⟨H, hH⟩ : ∃ H, H = s.heap := ⟨_, rfl⟩
  rw [← hH] at X ⊢
  obtain ⟨locs, hlocs⟩ : ∃ locs : List Loc, locs = [] := ⟨_, rfl⟩
  rw [← hlocs] at X ⊢
  clear hH hlocs
  have h := hz
  unfold fX10_longest at h
  refine lv_aload_n hx hb dX10_longest_0 rfl (lv_at hl 0 rfl) ?_
  obtain ⟨r1, hr1, h⟩ := bd_x h
  refine r_calli X (r_runV F X (kX10_longestOf l D ad cs A  M  _ hr1) gm_X10_243 hd_X10_longestOf ⟨Nat.le_of_ble_eq_true rfl, Nat.le_of_ble_eq_true rfl⟩ qM0 rfl rfl hl.1 rfl (Nat.le_of_ble_eq_true rfl) dX10_longest_1) (fun H locs X => ?_)
  have h := sm_x h
  exact RT H locs _ _ 4 ls X h dX10_longest_4

/-! ===== X10_ditchOf ===== -/
def fX10_ditchOf (M : Mem) : Option (Int32 × Mem) :=
  (fX10_runsTold M).bind fun r1 =>
  some (r1 0 17 0, r1)
set_option maxHeartbeats 4000000 in
set_option maxRecDepth 100000 in
theorem kX10_ditchOf (l : Launch) (D : va_G) (ad : Nat → Nat) (cs : Nat → ClassId) (A : Nat → Prop)  (M : Mem)  (z : (Int32 × Mem)) (hz : fX10_ditchOf M = some z) : Met l yX10_ditchOf (wsU yX10_ditchOf cX10_ditchOf 1 (some .int)) (rmo 8 220) (va_Pc [.ref (ad (cO GM 0))] (Wd0 D ad cs GM A M)) (va_Qi (fun r u => (r, u) = z) (Wd0 D ad cs GM A) A) 0 0 A := by
  refine ct_i (by decide) rfl okGM (Nat.le_of_ble_eq_true rfl) ?_
  intro p e s m args below meth c Q ls F X hl RT
  have hx := F.1
  have hb := F.2.1
  have hl : lv_has ls 1 [(0, .ref (ad (cO GM 0)))] := hl
  obtain ⟨H, hH⟩ : ∃ H, H = s.heap := ⟨_, rfl⟩
  rw [← hH] at X ⊢
  obtain ⟨locs, hlocs⟩ : ∃ locs : List Loc, locs = [] := ⟨_, rfl⟩
  rw [← hlocs] at X ⊢
  clear hH hlocs
  have h := hz
  unfold fX10_ditchOf at h
  refine lv_aload_n hx hb dX10_ditchOf_0 rfl (lv_at hl 0 rfl) ?_
  obtain ⟨r1, hr1, h⟩ := bd_x h
  refine r_callv X (r_runV F X (kX10_runsTold l D ad cs A  M  _ hr1) gm_X10_215 hd_X10_runsTold ⟨Nat.le_of_ble_eq_true rfl, Nat.le_of_ble_eq_true rfl⟩ qM0 rfl rfl hl.1 rfl (Nat.le_of_ble_eq_true rfl) dX10_ditchOf_1) (fun H locs X => ?_)
  refine lv_aload_n hx hb dX10_ditchOf_4 rfl (lv_at hl 0 rfl) ?_
  refine gf_X10_173 F X qM0 dX10_ditchOf_5 ?_
  have h := sm_x h
  exact RT H locs _ _ 8 ls X h dX10_ditchOf_8

/-! ===== X10_ditch ===== -/
def fX10_ditch (M : Mem) : Option (Int32 × Mem) :=
  (fX10_ditchOf M).bind fun r1 =>
  some (r1.1, r1.2)
set_option maxHeartbeats 4000000 in
set_option maxRecDepth 100000 in
theorem kX10_ditch (l : Launch) (D : va_G) (ad : Nat → Nat) (cs : Nat → ClassId) (A : Nat → Prop)  (M : Mem)  (z : (Int32 × Mem)) (hz : fX10_ditch M = some z) : Met l yX10_ditch (wsU yX10_ditch cX10_ditch 1 (some .int)) (rmo 9 240) (va_Pc [.ref (ad (cO GM 0))] (Wd0 D ad cs GM A M)) (va_Qi (fun r u => (r, u) = z) (Wd0 D ad cs GM A) A) 0 0 A := by
  refine ct_i (by decide) rfl okGM (Nat.le_of_ble_eq_true rfl) ?_
  intro p e s m args below meth c Q ls F X hl RT
  have hx := F.1
  have hb := F.2.1
  have hl : lv_has ls 1 [(0, .ref (ad (cO GM 0)))] := hl
  obtain ⟨H, hH⟩ : ∃ H, H = s.heap := ⟨_, rfl⟩
  rw [← hH] at X ⊢
  obtain ⟨locs, hlocs⟩ : ∃ locs : List Loc, locs = [] := ⟨_, rfl⟩
  rw [← hlocs] at X ⊢
  clear hH hlocs
  have h := hz
  unfold fX10_ditch at h
  refine lv_aload_n hx hb dX10_ditch_0 rfl (lv_at hl 0 rfl) ?_
  obtain ⟨r1, hr1, h⟩ := bd_x h
  refine r_calli X (r_runV F X (kX10_ditchOf l D ad cs A  M  _ hr1) gm_X10_246 hd_X10_ditchOf ⟨Nat.le_of_ble_eq_true rfl, Nat.le_of_ble_eq_true rfl⟩ qM0 rfl rfl hl.1 rfl (Nat.le_of_ble_eq_true rfl) dX10_ditch_1) (fun H locs X => ?_)
  have h := sm_x h
  exact RT H locs _ _ 4 ls X h dX10_ditch_4

/-! ===== X10_isFirst ===== -/
def fX10_isFirst_54 (M : Mem) (a1 : Int32) (x3 : Int32) (v0 : Int32) : Option ((Int32 × Int32) ⊕ Int32) :=
  nm (v0 : Int32) fun u1 =>
  nm (x3 + 1 : Int32) fun u2 =>
  some (.inl (u1, u2))
def fX10_isFirst_53 (M : Mem) (a1 : Int32) (x3 : Int32) : Option ((Int32 × Int32) ⊕ Int32) :=
  fX10_isFirst_54 M a1 x3 0
def fX10_isFirst_49 (M : Mem) (a1 : Int32) (x3 : Int32) : Option ((Int32 × Int32) ⊕ Int32) :=
  fX10_isFirst_54 M a1 x3 1
def fX10_isFirst_17 (M : Mem) (a1 : Int32) (x2 : Int32) (x3 : Int32) : Option ((Int32 × Int32) ⊕ Int32) :=
  if (M 0 2 0) ≤ x3 then
    gd (x2 = 0 ∨ x2 = 1) <|
    some (.inr x2)
  else
    if x2 = 0 then
      fX10_isFirst_53 M a1 x3
    else
      if x3 = a1 then
        fX10_isFirst_49 M a1 x3
      else
        gd (inB x3 8) <|
        gd (inB a1 8) <|
        (if (M 0 20 (Int32.toNatClampNeg a1)) ≤ (M 0 20 (Int32.toNatClampNeg x3)) then
          fX10_isFirst_53 M a1 x3
        else
          fX10_isFirst_49 M a1 x3)
def fX10_isFirst_14 (M : Mem) (a1 : Int32) (v0 : Int32) : Option Int32 :=
  nm (v0 : Int32) fun u7 =>
  nm (0 : Int32) fun u8 =>
  lpO (fun st => fX10_isFirst_17 M a1 st.1 st.2) FU (u7, u8)
def fX10_isFirst (M : Mem) (a1 : Int32) : Option Int32 :=
  gd (inB a1 8) <|
  (if (M 0 20 (Int32.toNatClampNeg a1)) ≤ 0 then
    fX10_isFirst_14 M a1 0
  else
    fX10_isFirst_14 M a1 1)
set_option maxHeartbeats 4000000 in
set_option maxRecDepth 100000 in
theorem kX10_isFirst (l : Launch) (D : va_G) (ad : Nat → Nat) (cs : Nat → ClassId) (A : Nat → Prop)  (M : Mem) (a1 : Int32) (z : Int32) (hz : fX10_isFirst M a1 = some z) : Met l yX10_isFirst (wsU yX10_isFirst cX10_isFirst 4 (some .boolean)) (rmo 1 64) (va_Pc [.ref (ad (cO GM 0)), .int a1] (Wd0 D ad cs GM A M)) (va_Qi (fun r u => (r, u) = (z, M)) (Wd0 D ad cs GM A) A) 0 0 A := by
  refine ct_z0 (by decide) rfl okGM (Nat.le_of_ble_eq_true rfl) ?_
  intro p e s m args below meth c Q ls F X hl RT
  have hx := F.1
  have hb := F.2.1
  have hl : lv_has ls 4 [(0, .ref (ad (cO GM 0))), (1, .int a1)] := hl
  obtain ⟨H, hH⟩ : ∃ H, H = s.heap := ⟨_, rfl⟩
  rw [← hH] at X ⊢
  obtain ⟨locs, hlocs⟩ : ∃ locs : List Loc, locs = [] := ⟨_, rfl⟩
  rw [← hlocs] at X ⊢
  clear hH hlocs
  have L17 : ∀ (n : Nat) (H : Heap) (locs : List Loc) (x2 : Int32) (x3 : Int32) (ls : Array Slot), Wd D ad cs GM A s H locs M → lv_has ls 4 [(0, .ref (ad (cO GM 0))), (1, .int a1), (2, .int x2), (3, .int x3)] → ∀ (_ : Unit), lpO (fun st => fX10_isFirst_17 M a1 st.1 st.2) n (x2, x3) = some z → W p l e (rmo 1 64) s m args below meth c H locs 0 0 Q (F0 m 17 ls []) := by
    intro n
    induction n with
    | zero =>
      intro H locs x2 x3 ls X hl  yy h
      exact lp_0 h
    | succ n1 ih17 =>
      intro H locs x2 x3 ls X hl  _u h
      obtain ⟨y1, h, hk1⟩ := lp_x h
      have J54 : ∀ (H : Heap) (locs : List Loc) (x3 : Int32) (v0 : Int32) (ls : Array Slot), Wd D ad cs GM A s H locs M → lv_has ls 4 [(0, .ref (ad (cO GM 0))), (1, .int a1), (3, .int x3)] → ∀ (y1 : ((Int32 × Int32) ⊕ Int32)), fX10_isFirst_54 M a1 x3 v0 = some y1 → lpK (fun st => fX10_isFirst_17 M a1 st.1 st.2) n1 y1 = some z → W p l e (rmo 1 64) s m args below meth c H locs 0 0 Q (F0 m 54 ls [.int v0]) := by
        intro H locs x3 v0 ls X hl  y1 h hk1
        unfold fX10_isFirst_54 at h
        obtain ⟨u1, eu1, h⟩ := nm_x h
        refine topE eu1 ?_
        refine lv_istore_n (lv' := [(2, .int u1), (0, .ref (ad (cO GM 0))), (1, .int a1), (3, .int x3)]) hx hb dX10_isFirst_54 rfl hl (by decide) rfl (fun ls hl => ?_)
        obtain ⟨u2, eu2, h⟩ := nm_x h
        refine lv_iinc (v := u2) (lv' := [(3, .int u2), (2, .int u1), (0, .ref (ad (cO GM 0))), (1, .int a1)]) hx hb dX10_isFirst_55 hl (k := 3) rfl (by rw [eu2]; rfl) (by decide) rfl (fun ls hl => ?_)
        refine lv_goto (tgt := 17) hx hb dX10_isFirst_58 (by decide) ?_
        rw [← sm_x h] at hk1
        exact ih17 _ _ u1 u2 ls X (lv_sub hl [2, 3, 1, 0] rfl)  () hk1
      have J53 : ∀ (H : Heap) (locs : List Loc) (x3 : Int32) (ls : Array Slot), Wd D ad cs GM A s H locs M → lv_has ls 4 [(0, .ref (ad (cO GM 0))), (1, .int a1), (3, .int x3)] → ∀ (y1 : ((Int32 × Int32) ⊕ Int32)), fX10_isFirst_53 M a1 x3 = some y1 → lpK (fun st => fX10_isFirst_17 M a1 st.1 st.2) n1 y1 = some z → W p l e (rmo 1 64) s m args below meth c H locs 0 0 Q (F0 m 53 ls []) := by
        intro H locs x3 ls X hl  y1 h hk1
        unfold fX10_isFirst_53 at h
        refine lv_iconst (v := 0) hx hb dX10_isFirst_53 (by decide) ?_
        exact J54 _ _ x3 0 ls X (lv_sub hl [0, 1, 2] rfl)  _ h hk1
      have J49 : ∀ (H : Heap) (locs : List Loc) (x3 : Int32) (ls : Array Slot), Wd D ad cs GM A s H locs M → lv_has ls 4 [(0, .ref (ad (cO GM 0))), (1, .int a1), (3, .int x3)] → ∀ (y1 : ((Int32 × Int32) ⊕ Int32)), fX10_isFirst_49 M a1 x3 = some y1 → lpK (fun st => fX10_isFirst_17 M a1 st.1 st.2) n1 y1 = some z → W p l e (rmo 1 64) s m args below meth c H locs 0 0 Q (F0 m 49 ls []) := by
        intro H locs x3 ls X hl  y1 h hk1
        unfold fX10_isFirst_49 at h
        refine lv_iconst (v := 1) hx hb dX10_isFirst_49 (by decide) ?_
        refine lv_goto (tgt := 54) hx hb dX10_isFirst_50 (by decide) ?_
        exact J54 _ _ x3 1 ls X (lv_sub hl [0, 1, 2] rfl)  _ h hk1
      unfold fX10_isFirst_17 at h
      refine lv_iload_n hx hb dX10_isFirst_17 rfl (lv_at hl 3 rfl) ?_
      refine lv_aload_n hx hb dX10_isFirst_18 rfl (lv_at hl 0 rfl) ?_
      refine gf_X10_109 F X qM0 dX10_isFirst_19 ?_
      refine lv_icmp_ge (tgt := 61) hx hb dX10_isFirst_22 (by decide) (fun c3 => ?_) (fun c3 => ?_)
      · have h := it_p h c3
        refine lv_iload_n hx hb dX10_isFirst_61 rfl (lv_at hl 2 rfl) ?_
        obtain ⟨h01, h⟩ := gd_x h
        have h := sm_x h
        rw [← h] at hk1
        have h := sm_x hk1
        exact RT H locs _ 62 ls X h h01 dX10_isFirst_62
      · have h := it_n h c3
        refine lv_iload_n hx hb dX10_isFirst_25 rfl (lv_at hl 2 rfl) ?_
        refine lv_if_eq (tgt := 53) hx hb dX10_isFirst_26 (by decide) (fun c4 => ?_) (fun c4 => ?_)
        · have h := it_p h c4
          exact J53 _ _ x3 ls X (lv_sub hl [0, 1, 3] rfl)  _ h hk1
        · have h := it_n h c4
          refine lv_iload_n hx hb dX10_isFirst_29 rfl (lv_at hl 3 rfl) ?_
          refine lv_iload_n hx hb dX10_isFirst_30 rfl (lv_at hl 1 rfl) ?_
          refine lv_icmp_eq (tgt := 49) hx hb dX10_isFirst_31 (by decide) (fun c5 => ?_) (fun c5 => ?_)
          · have h := it_p h c5
            exact J49 _ _ x3 ls X (lv_sub hl [0, 1, 3] rfl)  _ h hk1
          · have h := it_n h c5
            refine lv_aload_n hx hb dX10_isFirst_34 rfl (lv_at hl 0 rfl) ?_
            refine gf_X10_37 F X qM0 dX10_isFirst_35 ?_
            refine lv_iload_n hx hb dX10_isFirst_38 rfl (lv_at hl 3 rfl) ?_
            obtain ⟨hin, h⟩ := gd_x h
            refine r_iald F X (ar_X10_20 qM0) hin dX10_isFirst_39 ?_
            refine lv_aload_n hx hb dX10_isFirst_40 rfl (lv_at hl 0 rfl) ?_
            refine gf_X10_37 F X qM0 dX10_isFirst_41 ?_
            refine lv_iload_n hx hb dX10_isFirst_44 rfl (lv_at hl 1 rfl) ?_
            obtain ⟨hin, h⟩ := gd_x h
            refine r_iald F X (ar_X10_20 qM0) hin dX10_isFirst_45 ?_
            refine lv_icmp_ge (tgt := 53) hx hb dX10_isFirst_46 (by decide) (fun c6 => ?_) (fun c6 => ?_)
            · have h := it_p h c6
              exact J53 _ _ x3 ls X (lv_sub hl [0, 1, 3] rfl)  _ h hk1
            · have h := it_n h c6
              exact J49 _ _ x3 ls X (lv_sub hl [0, 1, 3] rfl)  _ h hk1
  have J14 : ∀ (H : Heap) (locs : List Loc) (v0 : Int32) (ls : Array Slot), Wd D ad cs GM A s H locs M → lv_has ls 4 [(0, .ref (ad (cO GM 0))), (1, .int a1)] → ∀ (_ : Unit), fX10_isFirst_14 M a1 v0 = some z → W p l e (rmo 1 64) s m args below meth c H locs 0 0 Q (F0 m 14 ls [.int v0]) := by
    intro H locs v0 ls X hl  _u h
    unfold fX10_isFirst_14 at h
    obtain ⟨u7, eu7, h⟩ := nm_x h
    refine topE eu7 ?_
    refine lv_istore_n (lv' := [(2, .int u7), (0, .ref (ad (cO GM 0))), (1, .int a1)]) hx hb dX10_isFirst_14 rfl hl (by decide) rfl (fun ls hl => ?_)
    refine lv_iconst (v := 0) hx hb dX10_isFirst_15 (by decide) ?_
    obtain ⟨u8, eu8, h⟩ := nm_x h
    refine topE eu8 ?_
    refine lv_istore_n (lv' := [(3, .int u8), (2, .int u7), (0, .ref (ad (cO GM 0))), (1, .int a1)]) hx hb dX10_isFirst_16 rfl hl (by decide) rfl (fun ls hl => ?_)
    exact L17 FU _ _ u7 u8 ls X (lv_sub hl [2, 3, 1, 0] rfl)  () h
  have h := hz
  unfold fX10_isFirst at h
  refine lv_aload_n hx hb dX10_isFirst_0 rfl (lv_at hl 0 rfl) ?_
  refine gf_X10_37 F X qM0 dX10_isFirst_1 ?_
  refine lv_iload_n hx hb dX10_isFirst_4 rfl (lv_at hl 1 rfl) ?_
  obtain ⟨hin, h⟩ := gd_x h
  refine r_iald F X (ar_X10_20 qM0) hin dX10_isFirst_5 ?_
  refine lv_if_le (tgt := 13) hx hb dX10_isFirst_6 (by decide) (fun c9 => ?_) (fun c9 => ?_)
  · have h := it_p h c9
    refine lv_iconst (v := 0) hx hb dX10_isFirst_13 (by decide) ?_
    exact J14 _ _ 0 ls X (lv_sub hl [0, 1] rfl)  () h
  · have h := it_n h c9
    refine lv_iconst (v := 1) hx hb dX10_isFirst_9 (by decide) ?_
    refine lv_goto (tgt := 14) hx hb dX10_isFirst_10 (by decide) ?_
    exact J14 _ _ 1 ls X (lv_sub hl [0, 1] rfl)  () h

/-! ===== X10_baitOf ===== -/
def fX10_baitOf_61 (a1 : Int32) (x2 : Int32) (x3 : Int32) (M : Mem) : Option (Int32 × Mem) :=
  gd (inB a1 9) <|
  nm (wr M 0 5 (Int32.toNatClampNeg a1) x2) fun M1 =>
  some (x3, M1)
def fX10_baitOf_54 (a1 : Int32) (x2 : Int32) (x4 : Int32) (v0 : Int32) (M : Mem) : Option ((Int32 × Int32 × Int32 × Mem) ⊕ (Int32 × Mem)) :=
  nm (v0 : Int32) fun u2 =>
  nm (x4 + 1 : Int32) fun u3 =>
  some (.inl (x2, u2, u3, M))
def fX10_baitOf_16 (a1 : Int32) (x2 : Int32) (x3 : Int32) (x4 : Int32) (M : Mem) : Option ((Int32 × Int32 × Int32 × Mem) ⊕ (Int32 × Mem)) :=
  if 10 ≤ x4 then
    inr' (fX10_baitOf_61 a1 x2 x3 M)
  else
    if x3 = (-1) then
      gd (inB a1 9) <|
      nm (wr M 0 5 (Int32.toNatClampNeg a1) x4) fun M6 =>
      (fX10_runs M6).bind fun r7 =>
      (fX10_isFirst r7 a1).bind fun r8 =>
      (if r8 = 0 then
        fX10_baitOf_54 a1 x2 x4 (-1) r7
      else
        fX10_baitOf_54 a1 x2 x4 x4 r7)
    else
      inr' (fX10_baitOf_61 a1 x2 x3 M)
def fX10_baitOf (M : Mem) (a1 : Int32) : Option (Int32 × Mem) :=
  (fX10_asTold M).bind fun r10 =>
  gd (inB a1 9) <|
  nm (r10 0 5 (Int32.toNatClampNeg a1) : Int32) fun u11 =>
  nm ((-1) : Int32) fun u12 =>
  nm (0 : Int32) fun u13 =>
  lpO (fun st => fX10_baitOf_16 a1 st.1 st.2.1 st.2.2.1 st.2.2.2) FU (u11, u12, u13, r10)
set_option maxHeartbeats 4000000 in
set_option maxRecDepth 100000 in
theorem kX10_baitOf (l : Launch) (D : va_G) (ad : Nat → Nat) (cs : Nat → ClassId) (A : Nat → Prop)  (M : Mem) (a1 : Int32) (z : (Int32 × Mem)) (hz : fX10_baitOf M a1 = some z) : Met l yX10_baitOf (wsU yX10_baitOf cX10_baitOf 5 (some .int)) (rmo 7 200) (va_Pc [.ref (ad (cO GM 0)), .int a1] (Wd0 D ad cs GM A M)) (va_Qi (fun r u => (r, u) = z) (Wd0 D ad cs GM A) A) 0 0 A := by
  refine ct_i (by decide) rfl okGM (Nat.le_of_ble_eq_true rfl) ?_
  intro p e s m args below meth c Q ls F X hl RT
  have hx := F.1
  have hb := F.2.1
  have hl : lv_has ls 5 [(0, .ref (ad (cO GM 0))), (1, .int a1)] := hl
  obtain ⟨H, hH⟩ : ∃ H, H = s.heap := ⟨_, rfl⟩
  rw [← hH] at X ⊢
  obtain ⟨locs, hlocs⟩ : ∃ locs : List Loc, locs = [] := ⟨_, rfl⟩
  rw [← hlocs] at X ⊢
  clear hH hlocs
  have J61 : ∀ (H : Heap) (locs : List Loc) (x2 : Int32) (x3 : Int32) (M : Mem) (ls : Array Slot), Wd D ad cs GM A s H locs M → lv_has ls 5 [(0, .ref (ad (cO GM 0))), (1, .int a1), (2, .int x2), (3, .int x3)] → ∀ (_ : Unit), fX10_baitOf_61 a1 x2 x3 M = some z → W p l e (rmo 7 200) s m args below meth c H locs 0 0 Q (F0 m 61 ls []) := by
    intro H locs x2 x3 M ls X hl  _u h
    unfold fX10_baitOf_61 at h
    refine lv_aload_n hx hb dX10_baitOf_61 rfl (lv_at hl 0 rfl) ?_
    refine gf_X10_22 F X qM0 dX10_baitOf_62 ?_
    refine lv_iload_n hx hb dX10_baitOf_65 rfl (lv_at hl 1 rfl) ?_
    refine lv_iload_n hx hb dX10_baitOf_66 rfl (lv_at hl 2 rfl) ?_
    obtain ⟨hin, h⟩ := gd_x h
    obtain ⟨M1, eM1, h⟩ := nm_x h
    refine r_iast F X (ar_X10_5 qM0) hin dX10_baitOf_67 (fun H locs X => ?_)
    have X := Wd_eq eM1 X
    refine lv_iload_n hx hb dX10_baitOf_68 rfl (lv_at hl 3 rfl) ?_
    have h := sm_x h
    exact RT H locs _ _ 69 ls X h dX10_baitOf_69
  have L16 : ∀ (n : Nat) (H : Heap) (locs : List Loc) (x2 : Int32) (x3 : Int32) (x4 : Int32) (M : Mem) (ls : Array Slot), Wd D ad cs GM A s H locs M → lv_has ls 5 [(0, .ref (ad (cO GM 0))), (1, .int a1), (2, .int x2), (3, .int x3), (4, .int x4)] → ∀ (_ : Unit), lpO (fun st => fX10_baitOf_16 a1 st.1 st.2.1 st.2.2.1 st.2.2.2) n (x2, x3, x4, M) = some z → W p l e (rmo 7 200) s m args below meth c H locs 0 0 Q (F0 m 16 ls []) := by
    intro n
    induction n with
    | zero =>
      intro H locs x2 x3 x4 M ls X hl  yy h
      exact lp_0 h
    | succ n1 ih16 =>
      intro H locs x2 x3 x4 M ls X hl  _u h
      obtain ⟨y1, h, hk1⟩ := lp_x h
      have J54 : ∀ (H : Heap) (locs : List Loc) (x2 : Int32) (x4 : Int32) (v0 : Int32) (M : Mem) (ls : Array Slot), Wd D ad cs GM A s H locs M → lv_has ls 5 [(0, .ref (ad (cO GM 0))), (1, .int a1), (2, .int x2), (4, .int x4)] → ∀ (y1 : ((Int32 × Int32 × Int32 × Mem) ⊕ (Int32 × Mem))), fX10_baitOf_54 a1 x2 x4 v0 M = some y1 → lpK (fun st => fX10_baitOf_16 a1 st.1 st.2.1 st.2.2.1 st.2.2.2) n1 y1 = some z → W p l e (rmo 7 200) s m args below meth c H locs 0 0 Q (F0 m 54 ls [.int v0]) := by
        intro H locs x2 x4 v0 M ls X hl  y1 h hk1
        unfold fX10_baitOf_54 at h
        obtain ⟨u2, eu2, h⟩ := nm_x h
        refine topE eu2 ?_
        refine lv_istore_n (lv' := [(3, .int u2), (0, .ref (ad (cO GM 0))), (1, .int a1), (2, .int x2), (4, .int x4)]) hx hb dX10_baitOf_54 rfl hl (by decide) rfl (fun ls hl => ?_)
        obtain ⟨u3, eu3, h⟩ := nm_x h
        refine lv_iinc (v := u3) (lv' := [(4, .int u3), (3, .int u2), (0, .ref (ad (cO GM 0))), (1, .int a1), (2, .int x2)]) hx hb dX10_baitOf_55 hl (k := 4) rfl (by rw [eu3]; rfl) (by decide) rfl (fun ls hl => ?_)
        refine lv_goto (tgt := 16) hx hb dX10_baitOf_58 (by decide) ?_
        rw [← sm_x h] at hk1
        exact ih16 _ _ x2 u2 u3 M ls X (lv_sub hl [2, 3, 4, 1, 0] rfl)  () hk1
      unfold fX10_baitOf_16 at h
      refine lv_iload hx hb dX10_baitOf_16 (lv_at hl 4 rfl) ?_
      refine lv_bipush (v := 10) hx hb dX10_baitOf_18 (by decide) ?_
      refine lv_icmp_ge (tgt := 61) hx hb dX10_baitOf_20 (by decide) (fun c4 => ?_) (fun c4 => ?_)
      · have h := it_p h c4
        obtain ⟨_, h, ey⟩ := inr_x h
        rw [ey] at hk1
        have h := h.trans (congrArg some (sm_x hk1))
        exact J61 _ _ x2 x3 M ls X (lv_sub hl [0, 1, 2, 3] rfl)  () h
      · have h := it_n h c4
        refine lv_iload_n hx hb dX10_baitOf_23 rfl (lv_at hl 3 rfl) ?_
        refine lv_iconst (v := (-1)) hx hb dX10_baitOf_24 (by decide) ?_
        refine lv_icmp_ne (tgt := 61) hx hb dX10_baitOf_25 (by decide) (fun c5 => ?_) (fun c5 => ?_)
        · have h := it_n h c5
          obtain ⟨_, h, ey⟩ := inr_x h
          rw [ey] at hk1
          have h := h.trans (congrArg some (sm_x hk1))
          exact J61 _ _ x2 x3 M ls X (lv_sub hl [0, 1, 2, 3] rfl)  () h
        · have h := it_p h c5
          refine lv_aload_n hx hb dX10_baitOf_28 rfl (lv_at hl 0 rfl) ?_
          refine gf_X10_22 F X qM0 dX10_baitOf_29 ?_
          refine lv_iload_n hx hb dX10_baitOf_32 rfl (lv_at hl 1 rfl) ?_
          refine lv_iload hx hb dX10_baitOf_33 (lv_at hl 4 rfl) ?_
          obtain ⟨hin, h⟩ := gd_x h
          obtain ⟨M6, eM6, h⟩ := nm_x h
          refine r_iast F X (ar_X10_5 qM0) hin dX10_baitOf_35 (fun H locs X => ?_)
          have X := Wd_eq eM6 X
          refine lv_aload_n hx hb dX10_baitOf_36 rfl (lv_at hl 0 rfl) ?_
          obtain ⟨r7, hr7, h⟩ := bd_x h
          refine r_callv X (r_runV F X (kX10_runs l D ad cs A  M6  _ hr7) gm_X10_212 hd_X10_runs ⟨Nat.le_of_ble_eq_true rfl, Nat.le_of_ble_eq_true rfl⟩ qM0 rfl rfl hl.1 rfl (Nat.le_of_ble_eq_true rfl) dX10_baitOf_37) (fun H locs X => ?_)
          refine lv_aload_n hx hb dX10_baitOf_40 rfl (lv_at hl 0 rfl) ?_
          refine lv_iload_n hx hb dX10_baitOf_41 rfl (lv_at hl 1 rfl) ?_
          obtain ⟨r8, hr8, h⟩ := bd_x h
          refine r_calli0 X (r_runV F X (kX10_isFirst l D ad cs A  r7 a1 _ hr8) gm_X10_249 hd_X10_isFirst ⟨Nat.le_of_ble_eq_true rfl, Nat.le_of_ble_eq_true rfl⟩ qM0 rfl rfl hl.1 rfl (Nat.le_of_ble_eq_true rfl) dX10_baitOf_42) (fun H locs X => ?_)
          refine lv_if_eq (tgt := 53) hx hb dX10_baitOf_45 (by decide) (fun c9 => ?_) (fun c9 => ?_)
          · have h := it_p h c9
            refine lv_iconst (v := (-1)) hx hb dX10_baitOf_53 (by decide) ?_
            exact J54 _ _ x2 x4 (-1) r7 ls X (lv_sub hl [0, 1, 2, 4] rfl)  _ h hk1
          · have h := it_n h c9
            refine lv_iload hx hb dX10_baitOf_48 (lv_at hl 4 rfl) ?_
            refine lv_goto (tgt := 54) hx hb dX10_baitOf_50 (by decide) ?_
            exact J54 _ _ x2 x4 x4 r7 ls X (lv_sub hl [0, 1, 2, 4] rfl)  _ h hk1
  have h := hz
  unfold fX10_baitOf at h
  refine lv_aload_n hx hb dX10_baitOf_0 rfl (lv_at hl 0 rfl) ?_
  obtain ⟨r10, hr10, h⟩ := bd_x h
  refine r_callv X (r_runV F X (kX10_asTold l D ad cs A  M  _ hr10) gm_X10_209 hd_X10_asTold ⟨Nat.le_of_ble_eq_true rfl, Nat.le_of_ble_eq_true rfl⟩ qM0 rfl rfl hl.1 rfl (Nat.le_of_ble_eq_true rfl) dX10_baitOf_1) (fun H locs X => ?_)
  refine lv_aload_n hx hb dX10_baitOf_4 rfl (lv_at hl 0 rfl) ?_
  refine gf_X10_22 F X qM0 dX10_baitOf_5 ?_
  refine lv_iload_n hx hb dX10_baitOf_8 rfl (lv_at hl 1 rfl) ?_
  obtain ⟨hin, h⟩ := gd_x h
  refine r_iald F X (ar_X10_5 qM0) hin dX10_baitOf_9 ?_
  obtain ⟨u11, eu11, h⟩ := nm_x h
  refine topE eu11 ?_
  refine lv_istore_n (lv' := [(2, .int u11), (0, .ref (ad (cO GM 0))), (1, .int a1)]) hx hb dX10_baitOf_10 rfl hl (by decide) rfl (fun ls hl => ?_)
  refine lv_iconst (v := (-1)) hx hb dX10_baitOf_11 (by decide) ?_
  obtain ⟨u12, eu12, h⟩ := nm_x h
  refine topE eu12 ?_
  refine lv_istore_n (lv' := [(3, .int u12), (2, .int u11), (0, .ref (ad (cO GM 0))), (1, .int a1)]) hx hb dX10_baitOf_12 rfl hl (by decide) rfl (fun ls hl => ?_)
  refine lv_iconst (v := 0) hx hb dX10_baitOf_13 (by decide) ?_
  obtain ⟨u13, eu13, h⟩ := nm_x h
  refine topE eu13 ?_
  refine lv_istore (lv' := [(4, .int u13), (3, .int u12), (2, .int u11), (0, .ref (ad (cO GM 0))), (1, .int a1)]) hx hb dX10_baitOf_14 hl (by decide) rfl (fun ls hl => ?_)
  exact L16 FU _ _ u11 u12 u13 r10 ls X (lv_sub hl [3, 4, 2, 1, 0] rfl)  () h

/-! ===== X10_bait ===== -/
def fX10_bait (M : Mem) (a1 : Int32) : Option (Int32 × Mem) :=
  (fX10_isHeir M a1).bind fun r1 =>
  (if r1.1 = 0 then
    some ((-2), r1.2)
  else
    (fX10_baitOf r1.2 a1).bind fun r3 =>
    some (r3.1, r3.2))
set_option maxHeartbeats 4000000 in
set_option maxRecDepth 100000 in
theorem kX10_bait (l : Launch) (D : va_G) (ad : Nat → Nat) (cs : Nat → ClassId) (A : Nat → Prop)  (M : Mem) (a1 : Int32) (z : (Int32 × Mem)) (hz : fX10_bait M a1 = some z) : Met l yX10_bait (wsU yX10_bait cX10_bait 2 (some .int)) (rmo 8 224) (va_Pc [.ref (ad (cO GM 0)), .int a1] (Wd0 D ad cs GM A M)) (va_Qi (fun r u => (r, u) = z) (Wd0 D ad cs GM A) A) 0 0 A := by
  refine ct_i (by decide) rfl okGM (Nat.le_of_ble_eq_true rfl) ?_
  intro p e s m args below meth c Q ls F X hl RT
  have hx := F.1
  have hb := F.2.1
  have hl : lv_has ls 2 [(0, .ref (ad (cO GM 0))), (1, .int a1)] := hl
  obtain ⟨H, hH⟩ : ∃ H, H = s.heap := ⟨_, rfl⟩
  rw [← hH] at X ⊢
  obtain ⟨locs, hlocs⟩ : ∃ locs : List Loc, locs = [] := ⟨_, rfl⟩
  rw [← hlocs] at X ⊢
  clear hH hlocs
  have h := hz
  unfold fX10_bait at h
  refine lv_aload_n hx hb dX10_bait_0 rfl (lv_at hl 0 rfl) ?_
  refine lv_iload_n hx hb dX10_bait_1 rfl (lv_at hl 1 rfl) ?_
  obtain ⟨r1, hr1, h⟩ := bd_x h
  refine r_calli X (r_runV F X (kX10_isHeir l D ad cs A  M a1 _ hr1) gm_X10_133 hd_X10_isHeir ⟨Nat.le_of_ble_eq_true rfl, Nat.le_of_ble_eq_true rfl⟩ qM0 rfl rfl hl.1 rfl (Nat.le_of_ble_eq_true rfl) dX10_bait_2) (fun H locs X => ?_)
  refine lv_if_eq (tgt := 16) hx hb dX10_bait_5 (by decide) (fun c2 => ?_) (fun c2 => ?_)
  · have h := it_p h c2
    refine lv_bipush (v := (-2)) hx hb dX10_bait_16 (by decide) ?_
    have h := sm_x h
    exact RT H locs _ _ 18 ls X h dX10_bait_18
  · have h := it_n h c2
    refine lv_aload_n hx hb dX10_bait_8 rfl (lv_at hl 0 rfl) ?_
    refine lv_iload_n hx hb dX10_bait_9 rfl (lv_at hl 1 rfl) ?_
    obtain ⟨r3, hr3, h⟩ := bd_x h
    refine r_calli X (r_runV F X (kX10_baitOf l D ad cs A  r1.2 a1 _ hr3) gm_X10_252 hd_X10_baitOf ⟨Nat.le_of_ble_eq_true rfl, Nat.le_of_ble_eq_true rfl⟩ qM0 rfl rfl hl.1 rfl (Nat.le_of_ble_eq_true rfl) dX10_bait_10) (fun H locs X => ?_)
    refine lv_goto (tgt := 18) hx hb dX10_bait_13 (by decide) ?_
    have h := sm_x h
    exact RT H locs _ _ 18 ls X h dX10_bait_18

/-! ===== X10_leastNow ===== -/
def fX10_leastNow_37 (M : Mem) (x2 : Int32) (v0 : Int32) : Option ((Int32 × Int32) ⊕ Int32) :=
  nm (v0 : Int32) fun u1 =>
  nm (x2 + 1 : Int32) fun u2 =>
  some (.inl (u1, u2))
def fX10_leastNow_9 (M : Mem) (x1 : Int32) (x2 : Int32) : Option ((Int32 × Int32) ⊕ Int32) :=
  if (M 0 2 0) ≤ x2 then
    some (.inr x1)
  else
    gd (inB x2 8) <|
    (if x1 ≤ (M 0 20 (Int32.toNatClampNeg x2)) then
      fX10_leastNow_37 M x2 x1
    else
      gd (inB x2 8) <|
      fX10_leastNow_37 M x2 (M 0 20 (Int32.toNatClampNeg x2)))
def fX10_leastNow (M : Mem) : Option Int32 :=
  nm (M 0 20 (Int32.toNatClampNeg 0) : Int32) fun u5 =>
  nm (1 : Int32) fun u6 =>
  lpO (fun st => fX10_leastNow_9 M st.1 st.2) FU (u5, u6)
set_option maxHeartbeats 4000000 in
set_option maxRecDepth 100000 in
theorem kX10_leastNow (l : Launch) (D : va_G) (ad : Nat → Nat) (cs : Nat → ClassId) (A : Nat → Prop)  (M : Mem)  (z : Int32) (hz : fX10_leastNow M = some z) : Met l yX10_leastNow (wsU yX10_leastNow cX10_leastNow 3 (some .int)) (rmo 1 64) (va_Pc [.ref (ad (cO GM 0))] (Wd0 D ad cs GM A M)) (va_Qi (fun r u => (r, u) = (z, M)) (Wd0 D ad cs GM A) A) 0 0 A := by
  refine ct_i0 (by decide) rfl okGM (Nat.le_of_ble_eq_true rfl) ?_
  intro p e s m args below meth c Q ls F X hl RT
  have hx := F.1
  have hb := F.2.1
  have hl : lv_has ls 3 [(0, .ref (ad (cO GM 0)))] := hl
  obtain ⟨H, hH⟩ : ∃ H, H = s.heap := ⟨_, rfl⟩
  rw [← hH] at X ⊢
  obtain ⟨locs, hlocs⟩ : ∃ locs : List Loc, locs = [] := ⟨_, rfl⟩
  rw [← hlocs] at X ⊢
  clear hH hlocs
  have L9 : ∀ (n : Nat) (H : Heap) (locs : List Loc) (x1 : Int32) (x2 : Int32) (ls : Array Slot), Wd D ad cs GM A s H locs M → lv_has ls 3 [(0, .ref (ad (cO GM 0))), (1, .int x1), (2, .int x2)] → ∀ (_ : Unit), lpO (fun st => fX10_leastNow_9 M st.1 st.2) n (x1, x2) = some z → W p l e (rmo 1 64) s m args below meth c H locs 0 0 Q (F0 m 9 ls []) := by
    intro n
    induction n with
    | zero =>
      intro H locs x1 x2 ls X hl  yy h
      exact lp_0 h
    | succ n1 ih9 =>
      intro H locs x1 x2 ls X hl  _u h
      obtain ⟨y1, h, hk1⟩ := lp_x h
      have J37 : ∀ (H : Heap) (locs : List Loc) (x2 : Int32) (v0 : Int32) (ls : Array Slot), Wd D ad cs GM A s H locs M → lv_has ls 3 [(0, .ref (ad (cO GM 0))), (2, .int x2)] → ∀ (y1 : ((Int32 × Int32) ⊕ Int32)), fX10_leastNow_37 M x2 v0 = some y1 → lpK (fun st => fX10_leastNow_9 M st.1 st.2) n1 y1 = some z → W p l e (rmo 1 64) s m args below meth c H locs 0 0 Q (F0 m 37 ls [.int v0]) := by
        intro H locs x2 v0 ls X hl  y1 h hk1
        unfold fX10_leastNow_37 at h
        obtain ⟨u1, eu1, h⟩ := nm_x h
        refine topE eu1 ?_
        refine lv_istore_n (lv' := [(1, .int u1), (0, .ref (ad (cO GM 0))), (2, .int x2)]) hx hb dX10_leastNow_37 rfl hl (by decide) rfl (fun ls hl => ?_)
        obtain ⟨u2, eu2, h⟩ := nm_x h
        refine lv_iinc (v := u2) (lv' := [(2, .int u2), (1, .int u1), (0, .ref (ad (cO GM 0)))]) hx hb dX10_leastNow_38 hl (k := 2) rfl (by rw [eu2]; rfl) (by decide) rfl (fun ls hl => ?_)
        refine lv_goto (tgt := 9) hx hb dX10_leastNow_41 (by decide) ?_
        rw [← sm_x h] at hk1
        exact ih9 _ _ u1 u2 ls X (lv_sub hl [2, 1, 0] rfl)  () hk1
      unfold fX10_leastNow_9 at h
      refine lv_iload_n hx hb dX10_leastNow_9 rfl (lv_at hl 2 rfl) ?_
      refine lv_aload_n hx hb dX10_leastNow_10 rfl (lv_at hl 0 rfl) ?_
      refine gf_X10_109 F X qM0 dX10_leastNow_11 ?_
      refine lv_icmp_ge (tgt := 44) hx hb dX10_leastNow_14 (by decide) (fun c3 => ?_) (fun c3 => ?_)
      · have h := it_p h c3
        refine lv_iload_n hx hb dX10_leastNow_44 rfl (lv_at hl 1 rfl) ?_
        have h := sm_x h
        rw [← h] at hk1
        have h := sm_x hk1
        exact RT H locs _ 45 ls X h dX10_leastNow_45
      · have h := it_n h c3
        refine lv_aload_n hx hb dX10_leastNow_17 rfl (lv_at hl 0 rfl) ?_
        refine gf_X10_37 F X qM0 dX10_leastNow_18 ?_
        refine lv_iload_n hx hb dX10_leastNow_21 rfl (lv_at hl 2 rfl) ?_
        obtain ⟨hin, h⟩ := gd_x h
        refine r_iald F X (ar_X10_20 qM0) hin dX10_leastNow_22 ?_
        refine lv_iload_n hx hb dX10_leastNow_23 rfl (lv_at hl 1 rfl) ?_
        refine lv_icmp_ge (tgt := 36) hx hb dX10_leastNow_24 (by decide) (fun c4 => ?_) (fun c4 => ?_)
        · have h := it_p h c4
          refine lv_iload_n hx hb dX10_leastNow_36 rfl (lv_at hl 1 rfl) ?_
          exact J37 _ _ x2 x1 ls X (lv_sub hl [0, 2] rfl)  _ h hk1
        · have h := it_n h c4
          refine lv_aload_n hx hb dX10_leastNow_27 rfl (lv_at hl 0 rfl) ?_
          refine gf_X10_37 F X qM0 dX10_leastNow_28 ?_
          refine lv_iload_n hx hb dX10_leastNow_31 rfl (lv_at hl 2 rfl) ?_
          obtain ⟨hin, h⟩ := gd_x h
          refine r_iald F X (ar_X10_20 qM0) hin dX10_leastNow_32 ?_
          refine lv_goto (tgt := 37) hx hb dX10_leastNow_33 (by decide) ?_
          exact J37 _ _ x2 (M 0 20 (Int32.toNatClampNeg x2)) ls X (lv_sub hl [0, 2] rfl)  _ h hk1
  have h := hz
  unfold fX10_leastNow at h
  refine lv_aload_n hx hb dX10_leastNow_0 rfl (lv_at hl 0 rfl) ?_
  refine gf_X10_37 F X qM0 dX10_leastNow_1 ?_
  refine lv_iconst (v := 0) hx hb dX10_leastNow_4 (by decide) ?_
  refine r_iald F X (ar_X10_20 qM0) (by decide : inB 0 8) dX10_leastNow_5 ?_
  obtain ⟨u5, eu5, h⟩ := nm_x h
  refine topE eu5 ?_
  refine lv_istore_n (lv' := [(1, .int u5), (0, .ref (ad (cO GM 0)))]) hx hb dX10_leastNow_6 rfl hl (by decide) rfl (fun ls hl => ?_)
  refine lv_iconst (v := 1) hx hb dX10_leastNow_7 (by decide) ?_
  obtain ⟨u6, eu6, h⟩ := nm_x h
  refine topE eu6 ?_
  refine lv_istore_n (lv' := [(2, .int u6), (1, .int u5), (0, .ref (ad (cO GM 0)))]) hx hb dX10_leastNow_8 rfl hl (by decide) rfl (fun ls hl => ?_)
  exact L9 FU _ _ u5 u6 ls X (lv_sub hl [2, 1, 0] rfl)  () h

/-! ===== X10_nextRow ===== -/
def fX10_nextRow_107  (x4 : Int32) (x5 : Int32) (M : Mem) : Option ((Int32 × Int32 × Mem) ⊕ (Int32 × Mem)) :=
  if x5 ≤ x4 then
    some (.inr (1, M))
  else
    gd (inB x4 20) <|
    nm (M 0 12 (Int32.toNatClampNeg x4) : Int32) fun u2 =>
    gd (inB x5 20) <|
    gd (inB x4 20) <|
    nm (wr M 0 12 (Int32.toNatClampNeg x4) (M 0 12 (Int32.toNatClampNeg x5))) fun M3 =>
    gd (inB x5 20) <|
    nm (wr M3 0 12 (Int32.toNatClampNeg x5) u2) fun M4 =>
    nm (x4 + 1 : Int32) fun u5 =>
    nm (x5 + (-1) : Int32) fun u6 =>
    some (.inl (u5, u6, M4))
def fX10_nextRow_68  (x1 : Int32) (x2 : Int32) (M : Mem) : Option (Int32 × Mem) :=
  gd (inB x1 20) <|
  nm (M 0 12 (Int32.toNatClampNeg x1) : Int32) fun u7 =>
  gd (inB x2 20) <|
  gd (inB x1 20) <|
  nm (wr M 0 12 (Int32.toNatClampNeg x1) (M 0 12 (Int32.toNatClampNeg x2))) fun M8 =>
  gd (inB x2 20) <|
  nm (wr M8 0 12 (Int32.toNatClampNeg x2) u7) fun M9 =>
  nm (x1 + (1 : Int32) : Int32) fun u10 =>
  nm ((M9 0 2 0) - (1 : Int32) : Int32) fun u11 =>
  lpO (fun st => fX10_nextRow_107 st.1 st.2.1 st.2.2) FU (u10, u11, M9)
def fX10_nextRow_47  (x1 : Int32) (x2 : Int32) (M : Mem) : Option ((Int32 × Int32 × Mem) ⊕ (Int32 × Mem)) :=
  gd (inB x2 20) <|
  gd (inB x1 20) <|
  (if (M 0 12 (Int32.toNatClampNeg x1)) ≤ (M 0 12 (Int32.toNatClampNeg x2)) then
    inr' (fX10_nextRow_68 x1 x2 M)
  else
    nm (x2 + (-1) : Int32) fun u13 =>
    some (.inl (x1, u13, M)))
def fX10_nextRow_34  (x1 : Int32) (M : Mem) : Option (Int32 × Mem) :=
  if 0 ≤ x1 then
    nm ((M 0 2 0) - (1 : Int32) : Int32) fun u15 =>
    lpO (fun st => fX10_nextRow_47 st.1 st.2.1 st.2.2) FU (x1, u15, M)
  else
    some (0, M)
def fX10_nextRow_7  (x1 : Int32) (M : Mem) : Option ((Int32 × Mem) ⊕ (Int32 × Mem)) :=
  if x1 < 0 then
    inr' (fX10_nextRow_34 x1 M)
  else
    gd (inB x1 20) <|
    gd (inB (x1 + (1 : Int32)) 20) <|
    (if (M 0 12 (Int32.toNatClampNeg x1)) ≤ (M 0 12 (Int32.toNatClampNeg (x1 + (1 : Int32)))) then
      inr' (fX10_nextRow_34 x1 M)
    else
      nm (x1 + (-1) : Int32) fun u18 =>
      some (.inl (u18, M)))
def fX10_nextRow (M : Mem) : Option (Int32 × Mem) :=
  nm ((M 0 2 0) - (2 : Int32) : Int32) fun u19 =>
  lpO (fun st => fX10_nextRow_7 st.1 st.2) FU (u19, M)
set_option maxHeartbeats 4000000 in
set_option maxRecDepth 100000 in
theorem kX10_nextRow (l : Launch) (D : va_G) (ad : Nat → Nat) (cs : Nat → ClassId) (A : Nat → Prop)  (M : Mem)  (z : (Int32 × Mem)) (hz : fX10_nextRow M = some z) : Met l yX10_nextRow (wsU yX10_nextRow cX10_nextRow 7 (some .boolean)) (rmo 1 64) (va_Pc [.ref (ad (cO GM 0))] (Wd0 D ad cs GM A M)) (va_Qi (fun r u => (r, u) = z) (Wd0 D ad cs GM A) A) 0 0 A := by
  refine ct_z (by decide) rfl okGM (Nat.le_of_ble_eq_true rfl) ?_
  intro p e s m args below meth c Q ls F X hl RT
  have hx := F.1
  have hb := F.2.1
  have hl : lv_has ls 7 [(0, .ref (ad (cO GM 0)))] := hl
  obtain ⟨H, hH⟩ : ∃ H, H = s.heap := ⟨_, rfl⟩
  rw [← hH] at X ⊢
  obtain ⟨locs, hlocs⟩ : ∃ locs : List Loc, locs = [] := ⟨_, rfl⟩
  rw [← hlocs] at X ⊢
  clear hH hlocs
  have L107 : ∀ (n : Nat) (H : Heap) (locs : List Loc) (x4 : Int32) (x5 : Int32) (M : Mem) (ls : Array Slot), Wd D ad cs GM A s H locs M → lv_has ls 7 [(0, .ref (ad (cO GM 0))), (4, .int x4), (5, .int x5)] → ∀ (_ : Unit), lpO (fun st => fX10_nextRow_107 st.1 st.2.1 st.2.2) n (x4, x5, M) = some z → W p l e (rmo 1 64) s m args below meth c H locs 0 0 Q (F0 m 107 ls []) := by
    intro n
    induction n with
    | zero =>
      intro H locs x4 x5 M ls X hl  yy h
      exact lp_0 h
    | succ n1 ih107 =>
      intro H locs x4 x5 M ls X hl  _u h
      obtain ⟨y1, h, hk1⟩ := lp_x h
      unfold fX10_nextRow_107 at h
      refine lv_iload hx hb dX10_nextRow_107 (lv_at hl 1 rfl) ?_
      refine lv_iload hx hb dX10_nextRow_109 (lv_at hl 2 rfl) ?_
      refine lv_icmp_ge (tgt := 155) hx hb dX10_nextRow_111 (by decide) (fun c1 => ?_) (fun c1 => ?_)
      · have h := it_p h c1
        refine lv_iconst (v := 1) hx hb dX10_nextRow_155 (by decide) ?_
        have h := sm_x h
        rw [← h] at hk1
        have h := sm_x hk1
        exact RT H locs _ _ 156 ls X h (by decide) dX10_nextRow_156
      · have h := it_n h c1
        refine lv_aload_n hx hb dX10_nextRow_114 rfl (lv_at hl 0 rfl) ?_
        refine gf_X10_34 F X qM0 dX10_nextRow_115 ?_
        refine lv_iload hx hb dX10_nextRow_118 (lv_at hl 1 rfl) ?_
        obtain ⟨hin, h⟩ := gd_x h
        refine r_iald F X (ar_X10_12 qM0) hin dX10_nextRow_120 ?_
        obtain ⟨u2, eu2, h⟩ := nm_x h
        refine topE eu2 ?_
        refine lv_istore (lv' := [(6, .int u2), (0, .ref (ad (cO GM 0))), (4, .int x4), (5, .int x5)]) hx hb dX10_nextRow_121 hl (by decide) rfl (fun ls hl => ?_)
        refine lv_aload_n hx hb dX10_nextRow_123 rfl (lv_at hl 1 rfl) ?_
        refine gf_X10_34 F X qM0 dX10_nextRow_124 ?_
        refine lv_iload hx hb dX10_nextRow_127 (lv_at hl 2 rfl) ?_
        refine lv_aload_n hx hb dX10_nextRow_129 rfl (lv_at hl 1 rfl) ?_
        refine gf_X10_34 F X qM0 dX10_nextRow_130 ?_
        refine lv_iload hx hb dX10_nextRow_133 (lv_at hl 3 rfl) ?_
        obtain ⟨hin, h⟩ := gd_x h
        refine r_iald F X (ar_X10_12 qM0) hin dX10_nextRow_135 ?_
        obtain ⟨hin, h⟩ := gd_x h
        obtain ⟨M3, eM3, h⟩ := nm_x h
        refine r_iast F X (ar_X10_12 qM0) hin dX10_nextRow_136 (fun H locs X => ?_)
        have X := Wd_eq eM3 X
        refine lv_aload_n hx hb dX10_nextRow_137 rfl (lv_at hl 1 rfl) ?_
        refine gf_X10_34 F X qM0 dX10_nextRow_138 ?_
        refine lv_iload hx hb dX10_nextRow_141 (lv_at hl 3 rfl) ?_
        refine lv_iload hx hb dX10_nextRow_143 (lv_at hl 0 rfl) ?_
        obtain ⟨hin, h⟩ := gd_x h
        obtain ⟨M4, eM4, h⟩ := nm_x h
        refine r_iast F X (ar_X10_12 qM0) hin dX10_nextRow_145 (fun H locs X => ?_)
        have X := Wd_eq eM4 X
        obtain ⟨u5, eu5, h⟩ := nm_x h
        refine lv_iinc (v := u5) (lv' := [(4, .int u5), (6, .int u2), (0, .ref (ad (cO GM 0))), (5, .int x5)]) hx hb dX10_nextRow_146 hl (k := 2) rfl (by rw [eu5]; rfl) (by decide) rfl (fun ls hl => ?_)
        obtain ⟨u6, eu6, h⟩ := nm_x h
        refine lv_iinc (v := u6) (lv' := [(5, .int u6), (4, .int u5), (6, .int u2), (0, .ref (ad (cO GM 0)))]) hx hb dX10_nextRow_149 hl (k := 3) rfl (by rw [eu6]; rfl) (by decide) rfl (fun ls hl => ?_)
        refine lv_goto (tgt := 107) hx hb dX10_nextRow_152 (by decide) ?_
        rw [← sm_x h] at hk1
        exact ih107 _ _ u5 u6 M4 ls X (lv_sub hl [3, 1, 0] rfl)  () hk1
  have J68 : ∀ (H : Heap) (locs : List Loc) (x1 : Int32) (x2 : Int32) (M : Mem) (ls : Array Slot), Wd D ad cs GM A s H locs M → lv_has ls 7 [(0, .ref (ad (cO GM 0))), (1, .int x1), (2, .int x2)] → ∀ (_ : Unit), fX10_nextRow_68 x1 x2 M = some z → W p l e (rmo 1 64) s m args below meth c H locs 0 0 Q (F0 m 68 ls []) := by
    intro H locs x1 x2 M ls X hl  _u h
    unfold fX10_nextRow_68 at h
    refine lv_aload_n hx hb dX10_nextRow_68 rfl (lv_at hl 0 rfl) ?_
    refine gf_X10_34 F X qM0 dX10_nextRow_69 ?_
    refine lv_iload_n hx hb dX10_nextRow_72 rfl (lv_at hl 1 rfl) ?_
    obtain ⟨hin, h⟩ := gd_x h
    refine r_iald F X (ar_X10_12 qM0) hin dX10_nextRow_73 ?_
    obtain ⟨u7, eu7, h⟩ := nm_x h
    refine topE eu7 ?_
    refine lv_istore_n (lv' := [(3, .int u7), (0, .ref (ad (cO GM 0))), (1, .int x1), (2, .int x2)]) hx hb dX10_nextRow_74 rfl hl (by decide) rfl (fun ls hl => ?_)
    refine lv_aload_n hx hb dX10_nextRow_75 rfl (lv_at hl 1 rfl) ?_
    refine gf_X10_34 F X qM0 dX10_nextRow_76 ?_
    refine lv_iload_n hx hb dX10_nextRow_79 rfl (lv_at hl 2 rfl) ?_
    refine lv_aload_n hx hb dX10_nextRow_80 rfl (lv_at hl 1 rfl) ?_
    refine gf_X10_34 F X qM0 dX10_nextRow_81 ?_
    refine lv_iload_n hx hb dX10_nextRow_84 rfl (lv_at hl 3 rfl) ?_
    obtain ⟨hin, h⟩ := gd_x h
    refine r_iald F X (ar_X10_12 qM0) hin dX10_nextRow_85 ?_
    obtain ⟨hin, h⟩ := gd_x h
    obtain ⟨M8, eM8, h⟩ := nm_x h
    refine r_iast F X (ar_X10_12 qM0) hin dX10_nextRow_86 (fun H locs X => ?_)
    have X := Wd_eq eM8 X
    refine lv_aload_n hx hb dX10_nextRow_87 rfl (lv_at hl 1 rfl) ?_
    refine gf_X10_34 F X qM0 dX10_nextRow_88 ?_
    refine lv_iload_n hx hb dX10_nextRow_91 rfl (lv_at hl 3 rfl) ?_
    refine lv_iload_n hx hb dX10_nextRow_92 rfl (lv_at hl 0 rfl) ?_
    obtain ⟨hin, h⟩ := gd_x h
    obtain ⟨M9, eM9, h⟩ := nm_x h
    refine r_iast F X (ar_X10_12 qM0) hin dX10_nextRow_93 (fun H locs X => ?_)
    have X := Wd_eq eM9 X
    refine lv_iload_n hx hb dX10_nextRow_94 rfl (lv_at hl 2 rfl) ?_
    refine lv_iconst (v := 1) hx hb dX10_nextRow_95 (by decide) ?_
    refine lv_iadd hx hb dX10_nextRow_96 ?_
    obtain ⟨u10, eu10, h⟩ := nm_x h
    refine topE eu10 ?_
    refine lv_istore (lv' := [(4, .int u10), (3, .int u7), (0, .ref (ad (cO GM 0))), (1, .int x1), (2, .int x2)]) hx hb dX10_nextRow_97 hl (by decide) rfl (fun ls hl => ?_)
    refine lv_aload_n hx hb dX10_nextRow_99 rfl (lv_at hl 2 rfl) ?_
    refine gf_X10_109 F X qM0 dX10_nextRow_100 ?_
    refine lv_iconst (v := 1) hx hb dX10_nextRow_103 (by decide) ?_
    refine lv_isub hx hb dX10_nextRow_104 ?_
    obtain ⟨u11, eu11, h⟩ := nm_x h
    refine topE eu11 ?_
    refine lv_istore (lv' := [(5, .int u11), (4, .int u10), (3, .int u7), (0, .ref (ad (cO GM 0))), (1, .int x1), (2, .int x2)]) hx hb dX10_nextRow_105 hl (by decide) rfl (fun ls hl => ?_)
    exact L107 FU _ _ u10 u11 M9 ls X (lv_sub hl [3, 1, 0] rfl)  () h
  have L47 : ∀ (n : Nat) (H : Heap) (locs : List Loc) (x1 : Int32) (x2 : Int32) (M : Mem) (ls : Array Slot), Wd D ad cs GM A s H locs M → lv_has ls 7 [(0, .ref (ad (cO GM 0))), (1, .int x1), (2, .int x2)] → ∀ (_ : Unit), lpO (fun st => fX10_nextRow_47 st.1 st.2.1 st.2.2) n (x1, x2, M) = some z → W p l e (rmo 1 64) s m args below meth c H locs 0 0 Q (F0 m 47 ls []) := by
    intro n
    induction n with
    | zero =>
      intro H locs x1 x2 M ls X hl  yy h
      exact lp_0 h
    | succ n1 ih47 =>
      intro H locs x1 x2 M ls X hl  _u h
      obtain ⟨y1, h, hk1⟩ := lp_x h
      unfold fX10_nextRow_47 at h
      refine lv_aload_n hx hb dX10_nextRow_47 rfl (lv_at hl 0 rfl) ?_
      refine gf_X10_34 F X qM0 dX10_nextRow_48 ?_
      refine lv_iload_n hx hb dX10_nextRow_51 rfl (lv_at hl 2 rfl) ?_
      obtain ⟨hin, h⟩ := gd_x h
      refine r_iald F X (ar_X10_12 qM0) hin dX10_nextRow_52 ?_
      refine lv_aload_n hx hb dX10_nextRow_53 rfl (lv_at hl 0 rfl) ?_
      refine gf_X10_34 F X qM0 dX10_nextRow_54 ?_
      refine lv_iload_n hx hb dX10_nextRow_57 rfl (lv_at hl 1 rfl) ?_
      obtain ⟨hin, h⟩ := gd_x h
      refine r_iald F X (ar_X10_12 qM0) hin dX10_nextRow_58 ?_
      refine lv_icmp_ge (tgt := 68) hx hb dX10_nextRow_59 (by decide) (fun c12 => ?_) (fun c12 => ?_)
      · have h := it_p h c12
        obtain ⟨_, h, ey⟩ := inr_x h
        rw [ey] at hk1
        have h := h.trans (congrArg some (sm_x hk1))
        exact J68 _ _ x1 x2 M ls X (lv_sub hl [0, 1, 2] rfl)  () h
      · have h := it_n h c12
        obtain ⟨u13, eu13, h⟩ := nm_x h
        refine lv_iinc (v := u13) (lv' := [(2, .int u13), (0, .ref (ad (cO GM 0))), (1, .int x1)]) hx hb dX10_nextRow_62 hl (k := 2) rfl (by rw [eu13]; rfl) (by decide) rfl (fun ls hl => ?_)
        refine lv_goto (tgt := 47) hx hb dX10_nextRow_65 (by decide) ?_
        rw [← sm_x h] at hk1
        exact ih47 _ _ x1 u13 M ls X (lv_sub hl [1, 2, 0] rfl)  () hk1
  have J34 : ∀ (H : Heap) (locs : List Loc) (x1 : Int32) (M : Mem) (ls : Array Slot), Wd D ad cs GM A s H locs M → lv_has ls 7 [(0, .ref (ad (cO GM 0))), (1, .int x1)] → ∀ (_ : Unit), fX10_nextRow_34 x1 M = some z → W p l e (rmo 1 64) s m args below meth c H locs 0 0 Q (F0 m 34 ls []) := by
    intro H locs x1 M ls X hl  _u h
    unfold fX10_nextRow_34 at h
    refine lv_iload_n hx hb dX10_nextRow_34 rfl (lv_at hl 1 rfl) ?_
    refine lv_if_ge (tgt := 40) hx hb dX10_nextRow_35 (by decide) (fun c14 => ?_) (fun c14 => ?_)
    · have h := it_p h c14
      refine lv_aload_n hx hb dX10_nextRow_40 rfl (lv_at hl 0 rfl) ?_
      refine gf_X10_109 F X qM0 dX10_nextRow_41 ?_
      refine lv_iconst (v := 1) hx hb dX10_nextRow_44 (by decide) ?_
      refine lv_isub hx hb dX10_nextRow_45 ?_
      obtain ⟨u15, eu15, h⟩ := nm_x h
      refine topE eu15 ?_
      refine lv_istore_n (lv' := [(2, .int u15), (0, .ref (ad (cO GM 0))), (1, .int x1)]) hx hb dX10_nextRow_46 rfl hl (by decide) rfl (fun ls hl => ?_)
      exact L47 FU _ _ x1 u15 M ls X (lv_sub hl [1, 2, 0] rfl)  () h
    · have h := it_n h c14
      refine lv_iconst (v := 0) hx hb dX10_nextRow_38 (by decide) ?_
      have h := sm_x h
      exact RT H locs _ _ 39 ls X h (by decide) dX10_nextRow_39
  have L7 : ∀ (n : Nat) (H : Heap) (locs : List Loc) (x1 : Int32) (M : Mem) (ls : Array Slot), Wd D ad cs GM A s H locs M → lv_has ls 7 [(0, .ref (ad (cO GM 0))), (1, .int x1)] → ∀ (_ : Unit), lpO (fun st => fX10_nextRow_7 st.1 st.2) n (x1, M) = some z → W p l e (rmo 1 64) s m args below meth c H locs 0 0 Q (F0 m 7 ls []) := by
    intro n
    induction n with
    | zero =>
      intro H locs x1 M ls X hl  yy h
      exact lp_0 h
    | succ n1 ih7 =>
      intro H locs x1 M ls X hl  _u h
      obtain ⟨y1, h, hk1⟩ := lp_x h
      unfold fX10_nextRow_7 at h
      refine lv_iload_n hx hb dX10_nextRow_7 rfl (lv_at hl 1 rfl) ?_
      refine lv_if_lt (tgt := 34) hx hb dX10_nextRow_8 (by decide) (fun c16 => ?_) (fun c16 => ?_)
      · have h := it_p h c16
        obtain ⟨_, h, ey⟩ := inr_x h
        rw [ey] at hk1
        have h := h.trans (congrArg some (sm_x hk1))
        exact J34 _ _ x1 M ls X (lv_sub hl [0, 1] rfl)  () h
      · have h := it_n h c16
        refine lv_aload_n hx hb dX10_nextRow_11 rfl (lv_at hl 0 rfl) ?_
        refine gf_X10_34 F X qM0 dX10_nextRow_12 ?_
        refine lv_iload_n hx hb dX10_nextRow_15 rfl (lv_at hl 1 rfl) ?_
        obtain ⟨hin, h⟩ := gd_x h
        refine r_iald F X (ar_X10_12 qM0) hin dX10_nextRow_16 ?_
        refine lv_aload_n hx hb dX10_nextRow_17 rfl (lv_at hl 0 rfl) ?_
        refine gf_X10_34 F X qM0 dX10_nextRow_18 ?_
        refine lv_iload_n hx hb dX10_nextRow_21 rfl (lv_at hl 1 rfl) ?_
        refine lv_iconst (v := 1) hx hb dX10_nextRow_22 (by decide) ?_
        refine lv_iadd hx hb dX10_nextRow_23 ?_
        obtain ⟨hin, h⟩ := gd_x h
        refine r_iald F X (ar_X10_12 qM0) hin dX10_nextRow_24 ?_
        refine lv_icmp_le (tgt := 34) hx hb dX10_nextRow_25 (by decide) (fun c17 => ?_) (fun c17 => ?_)
        · have h := it_p h c17
          obtain ⟨_, h, ey⟩ := inr_x h
          rw [ey] at hk1
          have h := h.trans (congrArg some (sm_x hk1))
          exact J34 _ _ x1 M ls X (lv_sub hl [0, 1] rfl)  () h
        · have h := it_n h c17
          obtain ⟨u18, eu18, h⟩ := nm_x h
          refine lv_iinc (v := u18) (lv' := [(1, .int u18), (0, .ref (ad (cO GM 0)))]) hx hb dX10_nextRow_28 hl (k := 1) rfl (by rw [eu18]; rfl) (by decide) rfl (fun ls hl => ?_)
          refine lv_goto (tgt := 7) hx hb dX10_nextRow_31 (by decide) ?_
          rw [← sm_x h] at hk1
          exact ih7 _ _ u18 M ls X (lv_sub hl [1, 0] rfl)  () hk1
  have h := hz
  unfold fX10_nextRow at h
  refine lv_aload_n hx hb dX10_nextRow_0 rfl (lv_at hl 0 rfl) ?_
  refine gf_X10_109 F X qM0 dX10_nextRow_1 ?_
  refine lv_iconst (v := 2) hx hb dX10_nextRow_4 (by decide) ?_
  refine lv_isub hx hb dX10_nextRow_5 ?_
  obtain ⟨u19, eu19, h⟩ := nm_x h
  refine topE eu19 ?_
  refine lv_istore_n (lv' := [(1, .int u19), (0, .ref (ad (cO GM 0)))]) hx hb dX10_nextRow_6 rfl hl (by decide) rfl (fun ls hl => ?_)
  exact L7 FU _ _ u19 M ls X (lv_sub hl [1, 0] rfl)  () h

/-! ===== X10_fairBy ===== -/
def fX10_fairBy_110  (v0 : Int32) (M : Mem) : Option ((Int32 × Int32 × Mem) ⊕ (Int32 × Mem)) :=
  nm (v0 : Int32) fun u1 =>
  (fX10_nextRow M).bind fun r2 =>
  nm (r2.1 : Int32) fun u3 =>
  some (.inl (u1, u3, r2.2))
def fX10_fairBy_100  (x1 : Int32) (x3 : Int32) (M : Mem) : Option ((Int32 × Int32 × Mem) ⊕ (Int32 × Mem)) :=
  if x3 ≤ x1 then
    fX10_fairBy_110 x1 M
  else
    fX10_fairBy_110 x3 M
def fX10_fairBy_66  (x1 : Int32) (x3 : Int32) (x4 : Int32) (M : Mem) : Option ((Int32 × Int32 × Int32 × Mem) ⊕ ((Int32 × Int32 × Mem) ⊕ (Int32 × Mem))) :=
  if (M 0 2 0) ≤ x4 then
    inr' (fX10_fairBy_100 x1 x3 M)
  else
    if x3 ≤ x1 then
      inr' (fX10_fairBy_100 x1 x3 M)
    else
      gd (inB x4 20) <|
      gd (inB x4 8) <|
      nm (wr M 0 31 (Int32.toNatClampNeg x4) (M 0 12 (Int32.toNatClampNeg x4))) fun M7 =>
      nm (x4 + 1 : Int32) fun u8 =>
      some (.inl (x1, x3, u8, M7))
def fX10_fairBy_50  (x1 : Int32) (x2 : Int32) (M : Mem) : Option ((Int32 × Int32 × Mem) ⊕ (Int32 × Mem)) :=
  if x2 = 0 then
    some (.inr (x1, M))
  else
    (fX10_runs M).bind fun r10 =>
    (fX10_leastNow r10).bind fun r11 =>
    nm (r11 : Int32) fun u12 =>
    nm (0 : Int32) fun u13 =>
    lpO (fun st => fX10_fairBy_66 st.1 st.2.1 st.2.2.1 st.2.2.2) FU (x1, u12, u13, r10)
def fX10_fairBy_49  (x1 : Int32) (v0 : Int32) (M : Mem) : Option (Int32 × Mem) :=
  nm (v0 : Int32) fun u14 =>
  lpO (fun st => fX10_fairBy_50 st.1 st.2.1 st.2.2) FU (x1, u14, M)
def fX10_fairBy_37  (x1 : Int32) (M : Mem) : Option (Int32 × Mem) :=
  if (M 0 2 0) ≤ 0 then
    fX10_fairBy_49 x1 0 M
  else
    fX10_fairBy_49 x1 1 M
def fX10_fairBy_16  (x1 : Int32) (x2 : Int32) (M : Mem) : Option ((Int32 × Int32 × Mem) ⊕ (Int32 × Mem)) :=
  if (M 0 2 0) ≤ x2 then
    inr' (fX10_fairBy_37 x1 M)
  else
    gd (inB x2 20) <|
    nm (wr M 0 12 (Int32.toNatClampNeg x2) x2) fun M17 =>
    nm (x2 + 1 : Int32) fun u18 =>
    some (.inl (x1, u18, M17))
def fX10_fairBy (M : Mem) : Option (Int32 × Mem) :=
  (fX10_asTold M).bind fun r19 =>
  nm ((-1) : Int32) fun u20 =>
  nm (wr r19 0 11 0 (r19 0 2 0)) fun M21 =>
  nm (0 : Int32) fun u22 =>
  lpO (fun st => fX10_fairBy_16 st.1 st.2.1 st.2.2) FU (u20, u22, M21)
set_option maxHeartbeats 4000000 in
set_option maxRecDepth 100000 in
theorem kX10_fairBy (l : Launch) (D : va_G) (ad : Nat → Nat) (cs : Nat → ClassId) (A : Nat → Prop)  (M : Mem)  (z : (Int32 × Mem)) (hz : fX10_fairBy M = some z) : Met l yX10_fairBy (wsU yX10_fairBy cX10_fairBy 5 (some .int)) (rmo 7 200) (va_Pc [.ref (ad (cO GM 0))] (Wd0 D ad cs GM A M)) (va_Qi (fun r u => (r, u) = z) (Wd0 D ad cs GM A) A) 0 0 A := by
  refine ct_i (by decide) rfl okGM (Nat.le_of_ble_eq_true rfl) ?_
  intro p e s m args below meth c Q ls F X hl RT
  have hx := F.1
  have hb := F.2.1
  have hl : lv_has ls 5 [(0, .ref (ad (cO GM 0)))] := hl
  obtain ⟨H, hH⟩ : ∃ H, H = s.heap := ⟨_, rfl⟩
  rw [← hH] at X ⊢
  obtain ⟨locs, hlocs⟩ : ∃ locs : List Loc, locs = [] := ⟨_, rfl⟩
  rw [← hlocs] at X ⊢
  clear hH hlocs
  have L50 : ∀ (n : Nat) (H : Heap) (locs : List Loc) (x1 : Int32) (x2 : Int32) (M : Mem) (ls : Array Slot), Wd D ad cs GM A s H locs M → lv_has ls 5 [(0, .ref (ad (cO GM 0))), (1, .int x1), (2, .int x2)] → ∀ (_ : Unit), lpO (fun st => fX10_fairBy_50 st.1 st.2.1 st.2.2) n (x1, x2, M) = some z → W p l e (rmo 7 200) s m args below meth c H locs 0 0 Q (F0 m 50 ls []) := by
    intro n
    induction n with
    | zero =>
      intro H locs x1 x2 M ls X hl  yy h
      exact lp_0 h
    | succ n1 ih50 =>
      intro H locs x1 x2 M ls X hl  _u h
      obtain ⟨y1, h, hk1⟩ := lp_x h
      have J110 : ∀ (H : Heap) (locs : List Loc) (v0 : Int32) (M : Mem) (ls : Array Slot), Wd D ad cs GM A s H locs M → lv_has ls 5 [(0, .ref (ad (cO GM 0)))] → ∀ (y1 : ((Int32 × Int32 × Mem) ⊕ (Int32 × Mem))), fX10_fairBy_110 v0 M = some y1 → lpK (fun st => fX10_fairBy_50 st.1 st.2.1 st.2.2) n1 y1 = some z → W p l e (rmo 7 200) s m args below meth c H locs 0 0 Q (F0 m 110 ls [.int v0]) := by
        intro H locs v0 M ls X hl  y1 h hk1
        unfold fX10_fairBy_110 at h
        obtain ⟨u1, eu1, h⟩ := nm_x h
        refine topE eu1 ?_
        refine lv_istore_n (lv' := [(1, .int u1), (0, .ref (ad (cO GM 0)))]) hx hb dX10_fairBy_110 rfl hl (by decide) rfl (fun ls hl => ?_)
        refine lv_aload_n hx hb dX10_fairBy_111 rfl (lv_at hl 1 rfl) ?_
        obtain ⟨r2, hr2, h⟩ := bd_x h
        refine r_calli X (r_runV F X (kX10_nextRow l D ad cs A  M  _ hr2) gm_X10_258 hd_X10_nextRow ⟨Nat.le_of_ble_eq_true rfl, Nat.le_of_ble_eq_true rfl⟩ qM0 rfl rfl hl.1 rfl (Nat.le_of_ble_eq_true rfl) dX10_fairBy_112) (fun H locs X => ?_)
        obtain ⟨u3, eu3, h⟩ := nm_x h
        refine topE eu3 ?_
        refine lv_istore_n (lv' := [(2, .int u3), (1, .int u1), (0, .ref (ad (cO GM 0)))]) hx hb dX10_fairBy_115 rfl hl (by decide) rfl (fun ls hl => ?_)
        refine lv_goto (tgt := 50) hx hb dX10_fairBy_116 (by decide) ?_
        rw [← sm_x h] at hk1
        exact ih50 _ _ u1 u3 r2.2 ls X (lv_sub hl [2, 1, 0] rfl)  () hk1
      have J100 : ∀ (H : Heap) (locs : List Loc) (x1 : Int32) (x3 : Int32) (M : Mem) (ls : Array Slot), Wd D ad cs GM A s H locs M → lv_has ls 5 [(0, .ref (ad (cO GM 0))), (1, .int x1), (3, .int x3)] → ∀ (y1 : ((Int32 × Int32 × Mem) ⊕ (Int32 × Mem))), fX10_fairBy_100 x1 x3 M = some y1 → lpK (fun st => fX10_fairBy_50 st.1 st.2.1 st.2.2) n1 y1 = some z → W p l e (rmo 7 200) s m args below meth c H locs 0 0 Q (F0 m 100 ls []) := by
        intro H locs x1 x3 M ls X hl  y1 h hk1
        unfold fX10_fairBy_100 at h
        refine lv_iload_n hx hb dX10_fairBy_100 rfl (lv_at hl 2 rfl) ?_
        refine lv_iload_n hx hb dX10_fairBy_101 rfl (lv_at hl 1 rfl) ?_
        refine lv_icmp_le (tgt := 109) hx hb dX10_fairBy_102 (by decide) (fun c4 => ?_) (fun c4 => ?_)
        · have h := it_p h c4
          refine lv_iload_n hx hb dX10_fairBy_109 rfl (lv_at hl 1 rfl) ?_
          exact J110 _ _ x1 M ls X (lv_sub hl [0] rfl)  _ h hk1
        · have h := it_n h c4
          refine lv_iload_n hx hb dX10_fairBy_105 rfl (lv_at hl 2 rfl) ?_
          refine lv_goto (tgt := 110) hx hb dX10_fairBy_106 (by decide) ?_
          exact J110 _ _ x3 M ls X (lv_sub hl [0] rfl)  _ h hk1
      have L66 : ∀ (n : Nat) (H : Heap) (locs : List Loc) (x1 : Int32) (x3 : Int32) (x4 : Int32) (M : Mem) (ls : Array Slot), Wd D ad cs GM A s H locs M → lv_has ls 5 [(0, .ref (ad (cO GM 0))), (1, .int x1), (3, .int x3), (4, .int x4)] → ∀ (y1 : ((Int32 × Int32 × Mem) ⊕ (Int32 × Mem))), lpO (fun st => fX10_fairBy_66 st.1 st.2.1 st.2.2.1 st.2.2.2) n (x1, x3, x4, M) = some y1 → lpK (fun st => fX10_fairBy_50 st.1 st.2.1 st.2.2) n1 y1 = some z → W p l e (rmo 7 200) s m args below meth c H locs 0 0 Q (F0 m 66 ls []) := by
        intro n
        induction n with
        | zero =>
          intro H locs x1 x3 x4 M ls X hl  yy h hk1
          exact lp_0 h
        | succ n2 ih66 =>
          intro H locs x1 x3 x4 M ls X hl  y1 h hk1
          obtain ⟨y2, h, hk2⟩ := lp_x h
          unfold fX10_fairBy_66 at h
          refine lv_iload hx hb dX10_fairBy_66 (lv_at hl 3 rfl) ?_
          refine lv_aload_n hx hb dX10_fairBy_68 rfl (lv_at hl 0 rfl) ?_
          refine gf_X10_109 F X qM0 dX10_fairBy_69 ?_
          refine lv_icmp_ge (tgt := 100) hx hb dX10_fairBy_72 (by decide) (fun c5 => ?_) (fun c5 => ?_)
          · have h := it_p h c5
            obtain ⟨_, h, ey⟩ := inr_x h
            rw [ey] at hk2
            have h := h.trans (congrArg some (sm_x hk2))
            exact J100 _ _ x1 x3 M ls X (lv_sub hl [0, 1, 2] rfl)  _ h hk1
          · have h := it_n h c5
            refine lv_iload_n hx hb dX10_fairBy_75 rfl (lv_at hl 2 rfl) ?_
            refine lv_iload_n hx hb dX10_fairBy_76 rfl (lv_at hl 1 rfl) ?_
            refine lv_icmp_le (tgt := 100) hx hb dX10_fairBy_77 (by decide) (fun c6 => ?_) (fun c6 => ?_)
            · have h := it_p h c6
              obtain ⟨_, h, ey⟩ := inr_x h
              rw [ey] at hk2
              have h := h.trans (congrArg some (sm_x hk2))
              exact J100 _ _ x1 x3 M ls X (lv_sub hl [0, 1, 2] rfl)  _ h hk1
            · have h := it_n h c6
              refine lv_aload_n hx hb dX10_fairBy_80 rfl (lv_at hl 0 rfl) ?_
              refine gf_X10_67 F X qM0 dX10_fairBy_81 ?_
              refine lv_iload hx hb dX10_fairBy_84 (lv_at hl 3 rfl) ?_
              refine lv_aload_n hx hb dX10_fairBy_86 rfl (lv_at hl 0 rfl) ?_
              refine gf_X10_34 F X qM0 dX10_fairBy_87 ?_
              refine lv_iload hx hb dX10_fairBy_90 (lv_at hl 3 rfl) ?_
              obtain ⟨hin, h⟩ := gd_x h
              refine r_iald F X (ar_X10_12 qM0) hin dX10_fairBy_92 ?_
              obtain ⟨hin, h⟩ := gd_x h
              obtain ⟨M7, eM7, h⟩ := nm_x h
              refine r_iast F X (ar_X10_31 qM0) hin dX10_fairBy_93 (fun H locs X => ?_)
              have X := Wd_eq eM7 X
              obtain ⟨u8, eu8, h⟩ := nm_x h
              refine lv_iinc (v := u8) (lv' := [(4, .int u8), (0, .ref (ad (cO GM 0))), (1, .int x1), (3, .int x3)]) hx hb dX10_fairBy_94 hl (k := 3) rfl (by rw [eu8]; rfl) (by decide) rfl (fun ls hl => ?_)
              refine lv_goto (tgt := 66) hx hb dX10_fairBy_97 (by decide) ?_
              rw [← sm_x h] at hk2
              exact ih66 _ _ x1 x3 u8 M7 ls X (lv_sub hl [1, 2, 3, 0] rfl)  _ hk2 hk1
      unfold fX10_fairBy_50 at h
      refine lv_iload_n hx hb dX10_fairBy_50 rfl (lv_at hl 2 rfl) ?_
      refine lv_if_eq (tgt := 119) hx hb dX10_fairBy_51 (by decide) (fun c9 => ?_) (fun c9 => ?_)
      · have h := it_p h c9
        refine lv_iload_n hx hb dX10_fairBy_119 rfl (lv_at hl 1 rfl) ?_
        have h := sm_x h
        rw [← h] at hk1
        have h := sm_x hk1
        exact RT H locs _ _ 120 ls X h dX10_fairBy_120
      · have h := it_n h c9
        refine lv_aload_n hx hb dX10_fairBy_54 rfl (lv_at hl 0 rfl) ?_
        obtain ⟨r10, hr10, h⟩ := bd_x h
        refine r_callv X (r_runV F X (kX10_runs l D ad cs A  M  _ hr10) gm_X10_212 hd_X10_runs ⟨Nat.le_of_ble_eq_true rfl, Nat.le_of_ble_eq_true rfl⟩ qM0 rfl rfl hl.1 rfl (Nat.le_of_ble_eq_true rfl) dX10_fairBy_55) (fun H locs X => ?_)
        refine lv_aload_n hx hb dX10_fairBy_58 rfl (lv_at hl 0 rfl) ?_
        obtain ⟨r11, hr11, h⟩ := bd_x h
        refine r_calli0 X (r_runV F X (kX10_leastNow l D ad cs A  r10  _ hr11) gm_X10_255 hd_X10_leastNow ⟨Nat.le_of_ble_eq_true rfl, Nat.le_of_ble_eq_true rfl⟩ qM0 rfl rfl hl.1 rfl (Nat.le_of_ble_eq_true rfl) dX10_fairBy_59) (fun H locs X => ?_)
        obtain ⟨u12, eu12, h⟩ := nm_x h
        refine topE eu12 ?_
        refine lv_istore_n (lv' := [(3, .int u12), (0, .ref (ad (cO GM 0))), (1, .int x1), (2, .int x2)]) hx hb dX10_fairBy_62 rfl hl (by decide) rfl (fun ls hl => ?_)
        refine lv_iconst (v := 0) hx hb dX10_fairBy_63 (by decide) ?_
        obtain ⟨u13, eu13, h⟩ := nm_x h
        refine topE eu13 ?_
        refine lv_istore (lv' := [(4, .int u13), (3, .int u12), (0, .ref (ad (cO GM 0))), (1, .int x1), (2, .int x2)]) hx hb dX10_fairBy_64 hl (by decide) rfl (fun ls hl => ?_)
        exact L66 FU _ _ x1 u12 u13 r10 ls X (lv_sub hl [2, 3, 1, 0] rfl)  _ h hk1
  have J49 : ∀ (H : Heap) (locs : List Loc) (x1 : Int32) (v0 : Int32) (M : Mem) (ls : Array Slot), Wd D ad cs GM A s H locs M → lv_has ls 5 [(0, .ref (ad (cO GM 0))), (1, .int x1)] → ∀ (_ : Unit), fX10_fairBy_49 x1 v0 M = some z → W p l e (rmo 7 200) s m args below meth c H locs 0 0 Q (F0 m 49 ls [.int v0]) := by
    intro H locs x1 v0 M ls X hl  _u h
    unfold fX10_fairBy_49 at h
    obtain ⟨u14, eu14, h⟩ := nm_x h
    refine topE eu14 ?_
    refine lv_istore_n (lv' := [(2, .int u14), (0, .ref (ad (cO GM 0))), (1, .int x1)]) hx hb dX10_fairBy_49 rfl hl (by decide) rfl (fun ls hl => ?_)
    exact L50 FU _ _ x1 u14 M ls X (lv_sub hl [1, 2, 0] rfl)  () h
  have J37 : ∀ (H : Heap) (locs : List Loc) (x1 : Int32) (M : Mem) (ls : Array Slot), Wd D ad cs GM A s H locs M → lv_has ls 5 [(0, .ref (ad (cO GM 0))), (1, .int x1)] → ∀ (_ : Unit), fX10_fairBy_37 x1 M = some z → W p l e (rmo 7 200) s m args below meth c H locs 0 0 Q (F0 m 37 ls []) := by
    intro H locs x1 M ls X hl  _u h
    unfold fX10_fairBy_37 at h
    refine lv_aload_n hx hb dX10_fairBy_37 rfl (lv_at hl 0 rfl) ?_
    refine gf_X10_109 F X qM0 dX10_fairBy_38 ?_
    refine lv_if_le (tgt := 48) hx hb dX10_fairBy_41 (by decide) (fun c15 => ?_) (fun c15 => ?_)
    · have h := it_p h c15
      refine lv_iconst (v := 0) hx hb dX10_fairBy_48 (by decide) ?_
      exact J49 _ _ x1 0 M ls X (lv_sub hl [0, 1] rfl)  () h
    · have h := it_n h c15
      refine lv_iconst (v := 1) hx hb dX10_fairBy_44 (by decide) ?_
      refine lv_goto (tgt := 49) hx hb dX10_fairBy_45 (by decide) ?_
      exact J49 _ _ x1 1 M ls X (lv_sub hl [0, 1] rfl)  () h
  have L16 : ∀ (n : Nat) (H : Heap) (locs : List Loc) (x1 : Int32) (x2 : Int32) (M : Mem) (ls : Array Slot), Wd D ad cs GM A s H locs M → lv_has ls 5 [(0, .ref (ad (cO GM 0))), (1, .int x1), (2, .int x2)] → ∀ (_ : Unit), lpO (fun st => fX10_fairBy_16 st.1 st.2.1 st.2.2) n (x1, x2, M) = some z → W p l e (rmo 7 200) s m args below meth c H locs 0 0 Q (F0 m 16 ls []) := by
    intro n
    induction n with
    | zero =>
      intro H locs x1 x2 M ls X hl  yy h
      exact lp_0 h
    | succ n1 ih16 =>
      intro H locs x1 x2 M ls X hl  _u h
      obtain ⟨y1, h, hk1⟩ := lp_x h
      unfold fX10_fairBy_16 at h
      refine lv_iload_n hx hb dX10_fairBy_16 rfl (lv_at hl 2 rfl) ?_
      refine lv_aload_n hx hb dX10_fairBy_17 rfl (lv_at hl 0 rfl) ?_
      refine gf_X10_109 F X qM0 dX10_fairBy_18 ?_
      refine lv_icmp_ge (tgt := 37) hx hb dX10_fairBy_21 (by decide) (fun c16 => ?_) (fun c16 => ?_)
      · have h := it_p h c16
        obtain ⟨_, h, ey⟩ := inr_x h
        rw [ey] at hk1
        have h := h.trans (congrArg some (sm_x hk1))
        exact J37 _ _ x1 M ls X (lv_sub hl [0, 1] rfl)  () h
      · have h := it_n h c16
        refine lv_aload_n hx hb dX10_fairBy_24 rfl (lv_at hl 0 rfl) ?_
        refine gf_X10_34 F X qM0 dX10_fairBy_25 ?_
        refine lv_iload_n hx hb dX10_fairBy_28 rfl (lv_at hl 2 rfl) ?_
        refine lv_iload_n hx hb dX10_fairBy_29 rfl (lv_at hl 2 rfl) ?_
        obtain ⟨hin, h⟩ := gd_x h
        obtain ⟨M17, eM17, h⟩ := nm_x h
        refine r_iast F X (ar_X10_12 qM0) hin dX10_fairBy_30 (fun H locs X => ?_)
        have X := Wd_eq eM17 X
        obtain ⟨u18, eu18, h⟩ := nm_x h
        refine lv_iinc (v := u18) (lv' := [(2, .int u18), (0, .ref (ad (cO GM 0))), (1, .int x1)]) hx hb dX10_fairBy_31 hl (k := 2) rfl (by rw [eu18]; rfl) (by decide) rfl (fun ls hl => ?_)
        refine lv_goto (tgt := 16) hx hb dX10_fairBy_34 (by decide) ?_
        rw [← sm_x h] at hk1
        exact ih16 _ _ x1 u18 M17 ls X (lv_sub hl [1, 2, 0] rfl)  () hk1
  have h := hz
  unfold fX10_fairBy at h
  refine lv_aload_n hx hb dX10_fairBy_0 rfl (lv_at hl 0 rfl) ?_
  obtain ⟨r19, hr19, h⟩ := bd_x h
  refine r_callv X (r_runV F X (kX10_asTold l D ad cs A  M  _ hr19) gm_X10_209 hd_X10_asTold ⟨Nat.le_of_ble_eq_true rfl, Nat.le_of_ble_eq_true rfl⟩ qM0 rfl rfl hl.1 rfl (Nat.le_of_ble_eq_true rfl) dX10_fairBy_1) (fun H locs X => ?_)
  refine lv_iconst (v := (-1)) hx hb dX10_fairBy_4 (by decide) ?_
  obtain ⟨u20, eu20, h⟩ := nm_x h
  refine topE eu20 ?_
  refine lv_istore_n (lv' := [(1, .int u20), (0, .ref (ad (cO GM 0)))]) hx hb dX10_fairBy_5 rfl hl (by decide) rfl (fun ls hl => ?_)
  refine lv_aload_n hx hb dX10_fairBy_6 rfl (lv_at hl 1 rfl) ?_
  refine lv_aload_n hx hb dX10_fairBy_7 rfl (lv_at hl 1 rfl) ?_
  refine gf_X10_109 F X qM0 dX10_fairBy_8 ?_
  obtain ⟨M21, eM21, h⟩ := nm_x h
  refine pf_X10_161 F X qM0 dX10_fairBy_11 (fun H locs X => ?_)
  have X := Wd_eq eM21 X
  refine lv_iconst (v := 0) hx hb dX10_fairBy_14 (by decide) ?_
  obtain ⟨u22, eu22, h⟩ := nm_x h
  refine topE eu22 ?_
  refine lv_istore_n (lv' := [(2, .int u22), (1, .int u20), (0, .ref (ad (cO GM 0)))]) hx hb dX10_fairBy_15 rfl hl (by decide) rfl (fun ls hl => ?_)
  exact L16 FU _ _ u20 u22 M21 ls X (lv_sub hl [2, 1, 0] rfl)  () h

/-! ===== X10_fairOf ===== -/
def fX10_fairOf (M : Mem) (a1 : Int32) : Option (Int32 × Mem) :=
  (fX10_fairBy M).bind fun r1 =>
  nm (r1.1 : Int32) fun u2 =>
  (if a1 = 0 then
    some (u2, r1.2)
  else
    if (r1.2 0 2 0) ≤ (a1 - (1 : Int32)) then
      some ((-1), r1.2)
    else
      gd (inB (a1 - (1 : Int32)) 8) <|
      some (r1.2 0 31 (Int32.toNatClampNeg (a1 - (1 : Int32))), r1.2))
set_option maxHeartbeats 4000000 in
set_option maxRecDepth 100000 in
theorem kX10_fairOf (l : Launch) (D : va_G) (ad : Nat → Nat) (cs : Nat → ClassId) (A : Nat → Prop)  (M : Mem) (a1 : Int32) (z : (Int32 × Mem)) (hz : fX10_fairOf M a1 = some z) : Met l yX10_fairOf (wsU yX10_fairOf cX10_fairOf 3 (some .int)) (rmo 8 224) (va_Pc [.ref (ad (cO GM 0)), .int a1] (Wd0 D ad cs GM A M)) (va_Qi (fun r u => (r, u) = z) (Wd0 D ad cs GM A) A) 0 0 A := by
  refine ct_i (by decide) rfl okGM (Nat.le_of_ble_eq_true rfl) ?_
  intro p e s m args below meth c Q ls F X hl RT
  have hx := F.1
  have hb := F.2.1
  have hl : lv_has ls 3 [(0, .ref (ad (cO GM 0))), (1, .int a1)] := hl
  obtain ⟨H, hH⟩ : ∃ H, H = s.heap := ⟨_, rfl⟩
  rw [← hH] at X ⊢
  obtain ⟨locs, hlocs⟩ : ∃ locs : List Loc, locs = [] := ⟨_, rfl⟩
  rw [← hlocs] at X ⊢
  clear hH hlocs
  have h := hz
  unfold fX10_fairOf at h
  refine lv_aload_n hx hb dX10_fairOf_0 rfl (lv_at hl 0 rfl) ?_
  obtain ⟨r1, hr1, h⟩ := bd_x h
  refine r_calli X (r_runV F X (kX10_fairBy l D ad cs A  M  _ hr1) gm_X10_262 hd_X10_fairBy ⟨Nat.le_of_ble_eq_true rfl, Nat.le_of_ble_eq_true rfl⟩ qM0 rfl rfl hl.1 rfl (Nat.le_of_ble_eq_true rfl) dX10_fairOf_1) (fun H locs X => ?_)
  obtain ⟨u2, eu2, h⟩ := nm_x h
  refine topE eu2 ?_
  refine lv_istore_n (lv' := [(2, .int u2), (0, .ref (ad (cO GM 0))), (1, .int a1)]) hx hb dX10_fairOf_4 rfl hl (by decide) rfl (fun ls hl => ?_)
  refine lv_iload_n hx hb dX10_fairOf_5 rfl (lv_at hl 2 rfl) ?_
  refine lv_if_ne (tgt := 13) hx hb dX10_fairOf_6 (by decide) (fun c3 => ?_) (fun c3 => ?_)
  · have h := it_n h c3
    refine lv_iload_n hx hb dX10_fairOf_13 rfl (lv_at hl 2 rfl) ?_
    refine lv_iconst (v := 1) hx hb dX10_fairOf_14 (by decide) ?_
    refine lv_isub hx hb dX10_fairOf_15 ?_
    refine lv_aload_n hx hb dX10_fairOf_16 rfl (lv_at hl 1 rfl) ?_
    refine gf_X10_109 F X qM0 dX10_fairOf_17 ?_
    refine lv_icmp_ge (tgt := 34) hx hb dX10_fairOf_20 (by decide) (fun c4 => ?_) (fun c4 => ?_)
    · have h := it_p h c4
      refine lv_iconst (v := (-1)) hx hb dX10_fairOf_34 (by decide) ?_
      have h := sm_x h
      exact RT H locs _ _ 35 ls X h dX10_fairOf_35
    · have h := it_n h c4
      refine lv_aload_n hx hb dX10_fairOf_23 rfl (lv_at hl 1 rfl) ?_
      refine gf_X10_67 F X qM0 dX10_fairOf_24 ?_
      refine lv_iload_n hx hb dX10_fairOf_27 rfl (lv_at hl 2 rfl) ?_
      refine lv_iconst (v := 1) hx hb dX10_fairOf_28 (by decide) ?_
      refine lv_isub hx hb dX10_fairOf_29 ?_
      obtain ⟨hin, h⟩ := gd_x h
      refine r_iald F X (ar_X10_31 qM0) hin dX10_fairOf_30 ?_
      refine lv_goto (tgt := 35) hx hb dX10_fairOf_31 (by decide) ?_
      have h := sm_x h
      exact RT H locs _ _ 35 ls X h dX10_fairOf_35
  · have h := it_p h c3
    refine lv_iload_n hx hb dX10_fairOf_9 rfl (lv_at hl 0 rfl) ?_
    refine lv_goto (tgt := 35) hx hb dX10_fairOf_10 (by decide) ?_
    have h := sm_x h
    exact RT H locs _ _ 35 ls X h dX10_fairOf_35

/-! ===== X10_fair ===== -/
def fX10_fair (M : Mem) (a1 : Int32) : Option (Int32 × Mem) :=
  (fX10_in a1 0 8).bind fun r1 =>
  (if r1 = 0 then
    some ((-2), M)
  else
    (fX10_fairOf M a1).bind fun r3 =>
    some (r3.1, r3.2))
set_option maxHeartbeats 4000000 in
set_option maxRecDepth 100000 in
theorem kX10_fair (l : Launch) (D : va_G) (ad : Nat → Nat) (cs : Nat → ClassId) (A : Nat → Prop)  (M : Mem) (a1 : Int32) (z : (Int32 × Mem)) (hz : fX10_fair M a1 = some z) : Met l yX10_fair (wsU yX10_fair cX10_fair 2 (some .int)) (rmo 9 246) (va_Pc [.ref (ad (cO GM 0)), .int a1] (Wd0 D ad cs GM A M)) (va_Qi (fun r u => (r, u) = z) (Wd0 D ad cs GM A) A) 0 0 A := by
  refine ct_i (by decide) rfl okGM (Nat.le_of_ble_eq_true rfl) ?_
  intro p e s m args below meth c Q ls F X hl RT
  have hx := F.1
  have hb := F.2.1
  have hl : lv_has ls 2 [(0, .ref (ad (cO GM 0))), (1, .int a1)] := hl
  obtain ⟨H, hH⟩ : ∃ H, H = s.heap := ⟨_, rfl⟩
  rw [← hH] at X ⊢
  obtain ⟨locs, hlocs⟩ : ∃ locs : List Loc, locs = [] := ⟨_, rfl⟩
  rw [← hlocs] at X ⊢
  clear hH hlocs
  have h := hz
  unfold fX10_fair at h
  refine lv_iload_n hx hb dX10_fair_0 rfl (lv_at hl 1 rfl) ?_
  refine lv_iconst (v := 0) hx hb dX10_fair_1 (by decide) ?_
  refine lv_bipush (v := 8) hx hb dX10_fair_2 (by decide) ?_
  obtain ⟨r1, hr1, h⟩ := bd_x h
  refine r_calli0 X (r_runS F X (kX10_in l D ad cs A  M a1 0 8 _ hr1) gm_X10_97 hd_X10_in ⟨Nat.le_of_ble_eq_true rfl, Nat.le_of_ble_eq_true rfl⟩ rfl hl.1 rfl (Nat.le_of_ble_eq_true rfl) dX10_fair_4) (fun H locs X => ?_)
  refine lv_if_eq (tgt := 18) hx hb dX10_fair_7 (by decide) (fun c2 => ?_) (fun c2 => ?_)
  · have h := it_p h c2
    refine lv_bipush (v := (-2)) hx hb dX10_fair_18 (by decide) ?_
    have h := sm_x h
    exact RT H locs _ _ 20 ls X h dX10_fair_20
  · have h := it_n h c2
    refine lv_aload_n hx hb dX10_fair_10 rfl (lv_at hl 0 rfl) ?_
    refine lv_iload_n hx hb dX10_fair_11 rfl (lv_at hl 1 rfl) ?_
    obtain ⟨r3, hr3, h⟩ := bd_x h
    refine r_calli X (r_runV F X (kX10_fairOf l D ad cs A  M a1 _ hr3) gm_X10_265 hd_X10_fairOf ⟨Nat.le_of_ble_eq_true rfl, Nat.le_of_ble_eq_true rfl⟩ qM0 rfl rfl hl.1 rfl (Nat.le_of_ble_eq_true rfl) dX10_fair_12) (fun H locs X => ?_)
    refine lv_goto (tgt := 20) hx hb dX10_fair_15 (by decide) ?_
    have h := sm_x h
    exact RT H locs _ _ 20 ls X h dX10_fair_20

/-! ===== X10_careOf ===== -/
def fX10_careOf_64 (a1 : Int32) (x2 : Int32) (x3 : Int32) (M : Mem) : Option (Int32 × Mem) :=
  gd (inB a1 9) <|
  nm (wr M 0 4 (Int32.toNatClampNeg a1) x2) fun M1 =>
  some (x3, M1)
def fX10_careOf_57 (a1 : Int32) (x2 : Int32) (x4 : Int32) (v0 : Int32) (M : Mem) : Option ((Int32 × Int32 × Int32 × Mem) ⊕ (Int32 × Mem)) :=
  nm (v0 : Int32) fun u2 =>
  nm (x4 + 1 : Int32) fun u3 =>
  some (.inl (x2, u2, u3, M))
def fX10_careOf_16 (a1 : Int32) (x2 : Int32) (x3 : Int32) (x4 : Int32) (M : Mem) : Option ((Int32 × Int32 × Int32 × Mem) ⊕ (Int32 × Mem)) :=
  if 10 ≤ x4 then
    inr' (fX10_careOf_64 a1 x2 x3 M)
  else
    if x3 = (-1) then
      gd (inB a1 9) <|
      nm (wr M 0 4 (Int32.toNatClampNeg a1) x4) fun M6 =>
      (fX10_runs M6).bind fun r7 =>
      (fX10_isIn (r7 0 23 0) a1).bind fun r8 =>
      (if r8 = 0 then
        fX10_careOf_57 a1 x2 x4 x4 r7
      else
        fX10_careOf_57 a1 x2 x4 (-1) r7)
    else
      inr' (fX10_careOf_64 a1 x2 x3 M)
def fX10_careOf (M : Mem) (a1 : Int32) : Option (Int32 × Mem) :=
  (fX10_asTold M).bind fun r10 =>
  gd (inB a1 9) <|
  nm (r10 0 4 (Int32.toNatClampNeg a1) : Int32) fun u11 =>
  nm ((-1) : Int32) fun u12 =>
  nm (0 : Int32) fun u13 =>
  lpO (fun st => fX10_careOf_16 a1 st.1 st.2.1 st.2.2.1 st.2.2.2) FU (u11, u12, u13, r10)
set_option maxHeartbeats 4000000 in
set_option maxRecDepth 100000 in
theorem kX10_careOf (l : Launch) (D : va_G) (ad : Nat → Nat) (cs : Nat → ClassId) (A : Nat → Prop)  (M : Mem) (a1 : Int32) (z : (Int32 × Mem)) (hz : fX10_careOf M a1 = some z) : Met l yX10_careOf (wsU yX10_careOf cX10_careOf 5 (some .int)) (rmo 7 200) (va_Pc [.ref (ad (cO GM 0)), .int a1] (Wd0 D ad cs GM A M)) (va_Qi (fun r u => (r, u) = z) (Wd0 D ad cs GM A) A) 0 0 A := by
  refine ct_i (by decide) rfl okGM (Nat.le_of_ble_eq_true rfl) ?_
  intro p e s m args below meth c Q ls F X hl RT
  have hx := F.1
  have hb := F.2.1
  have hl : lv_has ls 5 [(0, .ref (ad (cO GM 0))), (1, .int a1)] := hl
  obtain ⟨H, hH⟩ : ∃ H, H = s.heap := ⟨_, rfl⟩
  rw [← hH] at X ⊢
  obtain ⟨locs, hlocs⟩ : ∃ locs : List Loc, locs = [] := ⟨_, rfl⟩
  rw [← hlocs] at X ⊢
  clear hH hlocs
  have J64 : ∀ (H : Heap) (locs : List Loc) (x2 : Int32) (x3 : Int32) (M : Mem) (ls : Array Slot), Wd D ad cs GM A s H locs M → lv_has ls 5 [(0, .ref (ad (cO GM 0))), (1, .int a1), (2, .int x2), (3, .int x3)] → ∀ (_ : Unit), fX10_careOf_64 a1 x2 x3 M = some z → W p l e (rmo 7 200) s m args below meth c H locs 0 0 Q (F0 m 64 ls []) := by
    intro H locs x2 x3 M ls X hl  _u h
    unfold fX10_careOf_64 at h
    refine lv_aload_n hx hb dX10_careOf_64 rfl (lv_at hl 0 rfl) ?_
    refine gf_X10_19 F X qM0 dX10_careOf_65 ?_
    refine lv_iload_n hx hb dX10_careOf_68 rfl (lv_at hl 1 rfl) ?_
    refine lv_iload_n hx hb dX10_careOf_69 rfl (lv_at hl 2 rfl) ?_
    obtain ⟨hin, h⟩ := gd_x h
    obtain ⟨M1, eM1, h⟩ := nm_x h
    refine r_iast F X (ar_X10_4 qM0) hin dX10_careOf_70 (fun H locs X => ?_)
    have X := Wd_eq eM1 X
    refine lv_iload_n hx hb dX10_careOf_71 rfl (lv_at hl 3 rfl) ?_
    have h := sm_x h
    exact RT H locs _ _ 72 ls X h dX10_careOf_72
  have L16 : ∀ (n : Nat) (H : Heap) (locs : List Loc) (x2 : Int32) (x3 : Int32) (x4 : Int32) (M : Mem) (ls : Array Slot), Wd D ad cs GM A s H locs M → lv_has ls 5 [(0, .ref (ad (cO GM 0))), (1, .int a1), (2, .int x2), (3, .int x3), (4, .int x4)] → ∀ (_ : Unit), lpO (fun st => fX10_careOf_16 a1 st.1 st.2.1 st.2.2.1 st.2.2.2) n (x2, x3, x4, M) = some z → W p l e (rmo 7 200) s m args below meth c H locs 0 0 Q (F0 m 16 ls []) := by
    intro n
    induction n with
    | zero =>
      intro H locs x2 x3 x4 M ls X hl  yy h
      exact lp_0 h
    | succ n1 ih16 =>
      intro H locs x2 x3 x4 M ls X hl  _u h
      obtain ⟨y1, h, hk1⟩ := lp_x h
      have J57 : ∀ (H : Heap) (locs : List Loc) (x2 : Int32) (x4 : Int32) (v0 : Int32) (M : Mem) (ls : Array Slot), Wd D ad cs GM A s H locs M → lv_has ls 5 [(0, .ref (ad (cO GM 0))), (1, .int a1), (2, .int x2), (4, .int x4)] → ∀ (y1 : ((Int32 × Int32 × Int32 × Mem) ⊕ (Int32 × Mem))), fX10_careOf_57 a1 x2 x4 v0 M = some y1 → lpK (fun st => fX10_careOf_16 a1 st.1 st.2.1 st.2.2.1 st.2.2.2) n1 y1 = some z → W p l e (rmo 7 200) s m args below meth c H locs 0 0 Q (F0 m 57 ls [.int v0]) := by
        intro H locs x2 x4 v0 M ls X hl  y1 h hk1
        unfold fX10_careOf_57 at h
        obtain ⟨u2, eu2, h⟩ := nm_x h
        refine topE eu2 ?_
        refine lv_istore_n (lv' := [(3, .int u2), (0, .ref (ad (cO GM 0))), (1, .int a1), (2, .int x2), (4, .int x4)]) hx hb dX10_careOf_57 rfl hl (by decide) rfl (fun ls hl => ?_)
        obtain ⟨u3, eu3, h⟩ := nm_x h
        refine lv_iinc (v := u3) (lv' := [(4, .int u3), (3, .int u2), (0, .ref (ad (cO GM 0))), (1, .int a1), (2, .int x2)]) hx hb dX10_careOf_58 hl (k := 4) rfl (by rw [eu3]; rfl) (by decide) rfl (fun ls hl => ?_)
        refine lv_goto (tgt := 16) hx hb dX10_careOf_61 (by decide) ?_
        rw [← sm_x h] at hk1
        exact ih16 _ _ x2 u2 u3 M ls X (lv_sub hl [2, 3, 4, 1, 0] rfl)  () hk1
      unfold fX10_careOf_16 at h
      refine lv_iload hx hb dX10_careOf_16 (lv_at hl 4 rfl) ?_
      refine lv_bipush (v := 10) hx hb dX10_careOf_18 (by decide) ?_
      refine lv_icmp_ge (tgt := 64) hx hb dX10_careOf_20 (by decide) (fun c4 => ?_) (fun c4 => ?_)
      · have h := it_p h c4
        obtain ⟨_, h, ey⟩ := inr_x h
        rw [ey] at hk1
        have h := h.trans (congrArg some (sm_x hk1))
        exact J64 _ _ x2 x3 M ls X (lv_sub hl [0, 1, 2, 3] rfl)  () h
      · have h := it_n h c4
        refine lv_iload_n hx hb dX10_careOf_23 rfl (lv_at hl 3 rfl) ?_
        refine lv_iconst (v := (-1)) hx hb dX10_careOf_24 (by decide) ?_
        refine lv_icmp_ne (tgt := 64) hx hb dX10_careOf_25 (by decide) (fun c5 => ?_) (fun c5 => ?_)
        · have h := it_n h c5
          obtain ⟨_, h, ey⟩ := inr_x h
          rw [ey] at hk1
          have h := h.trans (congrArg some (sm_x hk1))
          exact J64 _ _ x2 x3 M ls X (lv_sub hl [0, 1, 2, 3] rfl)  () h
        · have h := it_p h c5
          refine lv_aload_n hx hb dX10_careOf_28 rfl (lv_at hl 0 rfl) ?_
          refine gf_X10_19 F X qM0 dX10_careOf_29 ?_
          refine lv_iload_n hx hb dX10_careOf_32 rfl (lv_at hl 1 rfl) ?_
          refine lv_iload hx hb dX10_careOf_33 (lv_at hl 4 rfl) ?_
          obtain ⟨hin, h⟩ := gd_x h
          obtain ⟨M6, eM6, h⟩ := nm_x h
          refine r_iast F X (ar_X10_4 qM0) hin dX10_careOf_35 (fun H locs X => ?_)
          have X := Wd_eq eM6 X
          refine lv_aload_n hx hb dX10_careOf_36 rfl (lv_at hl 0 rfl) ?_
          obtain ⟨r7, hr7, h⟩ := bd_x h
          refine r_callv X (r_runV F X (kX10_runs l D ad cs A  M6  _ hr7) gm_X10_212 hd_X10_runs ⟨Nat.le_of_ble_eq_true rfl, Nat.le_of_ble_eq_true rfl⟩ qM0 rfl rfl hl.1 rfl (Nat.le_of_ble_eq_true rfl) dX10_careOf_37) (fun H locs X => ?_)
          refine lv_aload_n hx hb dX10_careOf_40 rfl (lv_at hl 0 rfl) ?_
          refine gf_X10_191 F X qM0 dX10_careOf_41 ?_
          refine lv_iload_n hx hb dX10_careOf_44 rfl (lv_at hl 1 rfl) ?_
          obtain ⟨r8, hr8, h⟩ := bd_x h
          refine r_calli0 X (r_runS F X (kX10_isIn l D ad cs A  r7 (r7 0 23 0) a1 _ hr8) gm_X10_157 hd_X10_isIn ⟨Nat.le_of_ble_eq_true rfl, Nat.le_of_ble_eq_true rfl⟩ rfl hl.1 rfl (Nat.le_of_ble_eq_true rfl) dX10_careOf_45) (fun H locs X => ?_)
          refine lv_if_eq (tgt := 55) hx hb dX10_careOf_48 (by decide) (fun c9 => ?_) (fun c9 => ?_)
          · have h := it_p h c9
            refine lv_iload hx hb dX10_careOf_55 (lv_at hl 4 rfl) ?_
            exact J57 _ _ x2 x4 x4 r7 ls X (lv_sub hl [0, 1, 2, 4] rfl)  _ h hk1
          · have h := it_n h c9
            refine lv_iconst (v := (-1)) hx hb dX10_careOf_51 (by decide) ?_
            refine lv_goto (tgt := 57) hx hb dX10_careOf_52 (by decide) ?_
            exact J57 _ _ x2 x4 (-1) r7 ls X (lv_sub hl [0, 1, 2, 4] rfl)  _ h hk1
  have h := hz
  unfold fX10_careOf at h
  refine lv_aload_n hx hb dX10_careOf_0 rfl (lv_at hl 0 rfl) ?_
  obtain ⟨r10, hr10, h⟩ := bd_x h
  refine r_callv X (r_runV F X (kX10_asTold l D ad cs A  M  _ hr10) gm_X10_209 hd_X10_asTold ⟨Nat.le_of_ble_eq_true rfl, Nat.le_of_ble_eq_true rfl⟩ qM0 rfl rfl hl.1 rfl (Nat.le_of_ble_eq_true rfl) dX10_careOf_1) (fun H locs X => ?_)
  refine lv_aload_n hx hb dX10_careOf_4 rfl (lv_at hl 0 rfl) ?_
  refine gf_X10_19 F X qM0 dX10_careOf_5 ?_
  refine lv_iload_n hx hb dX10_careOf_8 rfl (lv_at hl 1 rfl) ?_
  obtain ⟨hin, h⟩ := gd_x h
  refine r_iald F X (ar_X10_4 qM0) hin dX10_careOf_9 ?_
  obtain ⟨u11, eu11, h⟩ := nm_x h
  refine topE eu11 ?_
  refine lv_istore_n (lv' := [(2, .int u11), (0, .ref (ad (cO GM 0))), (1, .int a1)]) hx hb dX10_careOf_10 rfl hl (by decide) rfl (fun ls hl => ?_)
  refine lv_iconst (v := (-1)) hx hb dX10_careOf_11 (by decide) ?_
  obtain ⟨u12, eu12, h⟩ := nm_x h
  refine topE eu12 ?_
  refine lv_istore_n (lv' := [(3, .int u12), (2, .int u11), (0, .ref (ad (cO GM 0))), (1, .int a1)]) hx hb dX10_careOf_12 rfl hl (by decide) rfl (fun ls hl => ?_)
  refine lv_iconst (v := 0) hx hb dX10_careOf_13 (by decide) ?_
  obtain ⟨u13, eu13, h⟩ := nm_x h
  refine topE eu13 ?_
  refine lv_istore (lv' := [(4, .int u13), (3, .int u12), (2, .int u11), (0, .ref (ad (cO GM 0))), (1, .int a1)]) hx hb dX10_careOf_14 hl (by decide) rfl (fun ls hl => ?_)
  exact L16 FU _ _ u11 u12 u13 r10 ls X (lv_sub hl [3, 4, 2, 1, 0] rfl)  () h

/-! ===== X10_care ===== -/
def fX10_care (M : Mem) (a1 : Int32) : Option (Int32 × Mem) :=
  (fX10_isHeir M a1).bind fun r1 =>
  (if r1.1 = 0 then
    some ((-2), r1.2)
  else
    (fX10_careOf r1.2 a1).bind fun r3 =>
    some (r3.1, r3.2))
set_option maxHeartbeats 4000000 in
set_option maxRecDepth 100000 in
theorem kX10_care (l : Launch) (D : va_G) (ad : Nat → Nat) (cs : Nat → ClassId) (A : Nat → Prop)  (M : Mem) (a1 : Int32) (z : (Int32 × Mem)) (hz : fX10_care M a1 = some z) : Met l yX10_care (wsU yX10_care cX10_care 2 (some .int)) (rmo 8 224) (va_Pc [.ref (ad (cO GM 0)), .int a1] (Wd0 D ad cs GM A M)) (va_Qi (fun r u => (r, u) = z) (Wd0 D ad cs GM A) A) 0 0 A := by
  refine ct_i (by decide) rfl okGM (Nat.le_of_ble_eq_true rfl) ?_
  intro p e s m args below meth c Q ls F X hl RT
  have hx := F.1
  have hb := F.2.1
  have hl : lv_has ls 2 [(0, .ref (ad (cO GM 0))), (1, .int a1)] := hl
  obtain ⟨H, hH⟩ : ∃ H, H = s.heap := ⟨_, rfl⟩
  rw [← hH] at X ⊢
  obtain ⟨locs, hlocs⟩ : ∃ locs : List Loc, locs = [] := ⟨_, rfl⟩
  rw [← hlocs] at X ⊢
  clear hH hlocs
  have h := hz
  unfold fX10_care at h
  refine lv_aload_n hx hb dX10_care_0 rfl (lv_at hl 0 rfl) ?_
  refine lv_iload_n hx hb dX10_care_1 rfl (lv_at hl 1 rfl) ?_
  obtain ⟨r1, hr1, h⟩ := bd_x h
  refine r_calli X (r_runV F X (kX10_isHeir l D ad cs A  M a1 _ hr1) gm_X10_133 hd_X10_isHeir ⟨Nat.le_of_ble_eq_true rfl, Nat.le_of_ble_eq_true rfl⟩ qM0 rfl rfl hl.1 rfl (Nat.le_of_ble_eq_true rfl) dX10_care_2) (fun H locs X => ?_)
  refine lv_if_eq (tgt := 16) hx hb dX10_care_5 (by decide) (fun c2 => ?_) (fun c2 => ?_)
  · have h := it_p h c2
    refine lv_bipush (v := (-2)) hx hb dX10_care_16 (by decide) ?_
    have h := sm_x h
    exact RT H locs _ _ 18 ls X h dX10_care_18
  · have h := it_n h c2
    refine lv_aload_n hx hb dX10_care_8 rfl (lv_at hl 0 rfl) ?_
    refine lv_iload_n hx hb dX10_care_9 rfl (lv_at hl 1 rfl) ?_
    obtain ⟨r3, hr3, h⟩ := bd_x h
    refine r_calli X (r_runV F X (kX10_careOf l D ad cs A  r1.2 a1 _ hr3) gm_X10_268 hd_X10_careOf ⟨Nat.le_of_ble_eq_true rfl, Nat.le_of_ble_eq_true rfl⟩ qM0 rfl rfl hl.1 rfl (Nat.le_of_ble_eq_true rfl) dX10_care_10) (fun H locs X => ?_)
    refine lv_goto (tgt := 18) hx hb dX10_care_13 (by decide) ?_
    have h := sm_x h
    exact RT H locs _ _ 18 ls X h dX10_care_18

/-! ===== X10_skipOf ===== -/
def fX10_skipOf_85 (a1 : Int32) (a2 : Int32) (x3 : Int32) (x4 : Int32) (M : Mem) : Option (Int32 × Mem) :=
  if a2 = 0 then
    some (x3, M)
  else
    some (x4, M)
def fX10_skipOf_79 (a1 : Int32) (a2 : Int32) (x3 : Int32) (x4 : Int32) (x5 : Int32) (M : Mem) : Option ((Int32 × Int32 × Int32 × Mem) ⊕ (Int32 × Mem)) :=
  nm (x5 + 1 : Int32) fun u2 =>
  some (.inl (x3, x4, u2, M))
def fX10_skipOf_77 (a1 : Int32) (a2 : Int32) (x3 : Int32) (x5 : Int32) (v0 : Int32) (M : Mem) : Option ((Int32 × Int32 × Int32 × Mem) ⊕ (Int32 × Mem)) :=
  nm (v0 : Int32) fun u3 =>
  fX10_skipOf_79 a1 a2 x3 u3 x5 M
def fX10_skipOf_54 (a1 : Int32) (a2 : Int32) (x4 : Int32) (x5 : Int32) (v0 : Int32) (M : Mem) : Option ((Int32 × Int32 × Int32 × Mem) ⊕ (Int32 × Mem)) :=
  nm (v0 : Int32) fun u4 =>
  gd (inB a1 8) <|
  (if (M 0 20 (Int32.toNatClampNeg a1)) ≤ x4 then
    fX10_skipOf_77 a1 a2 u4 x5 x4 M
  else
    gd (inB a1 8) <|
    fX10_skipOf_77 a1 a2 u4 x5 (M 0 20 (Int32.toNatClampNeg a1)) M)
def fX10_skipOf_12 (a1 : Int32) (a2 : Int32) (x3 : Int32) (x4 : Int32) (x5 : Int32) (M : Mem) : Option ((Int32 × Int32 × Int32 × Mem) ⊕ (Int32 × Mem)) :=
  if (M 0 2 0) ≤ x5 then
    inr' (fX10_skipOf_85 a1 a2 x3 x4 M)
  else
    if x5 = a1 then
      fX10_skipOf_79 a1 a2 x3 x4 x5 M
    else
      nm (wr M 0 14 0 x5) fun M8 =>
      (fX10_runs M8).bind fun r9 =>
      gd (inB a1 8) <|
      (if (r9 0 20 (Int32.toNatClampNeg a1)) ≤ x4 then
        fX10_skipOf_54 a1 a2 x4 x5 x3 r9
      else
        fX10_skipOf_54 a1 a2 x4 x5 x5 r9)
def fX10_skipOf (M : Mem) (a1 : Int32) (a2 : Int32) : Option (Int32 × Mem) :=
  (fX10_asTold M).bind fun r11 =>
  nm ((-1) : Int32) fun u12 =>
  nm ((-1) : Int32) fun u13 =>
  nm (0 : Int32) fun u14 =>
  lpO (fun st => fX10_skipOf_12 a1 a2 st.1 st.2.1 st.2.2.1 st.2.2.2) FU (u12, u13, u14, r11)
set_option maxHeartbeats 4000000 in
set_option maxRecDepth 100000 in
theorem kX10_skipOf (l : Launch) (D : va_G) (ad : Nat → Nat) (cs : Nat → ClassId) (A : Nat → Prop)  (M : Mem) (a1 : Int32) (a2 : Int32) (z : (Int32 × Mem)) (hz : fX10_skipOf M a1 a2 = some z) : Met l yX10_skipOf (wsU yX10_skipOf cX10_skipOf 6 (some .int)) (rmo 7 200) (va_Pc [.ref (ad (cO GM 0)), .int a1, .int a2] (Wd0 D ad cs GM A M)) (va_Qi (fun r u => (r, u) = z) (Wd0 D ad cs GM A) A) 0 0 A := by
  refine ct_i (by decide) rfl okGM (Nat.le_of_ble_eq_true rfl) ?_
  intro p e s m args below meth c Q ls F X hl RT
  have hx := F.1
  have hb := F.2.1
  have hl : lv_has ls 6 [(0, .ref (ad (cO GM 0))), (1, .int a1), (2, .int a2)] := hl
  obtain ⟨H, hH⟩ : ∃ H, H = s.heap := ⟨_, rfl⟩
  rw [← hH] at X ⊢
  obtain ⟨locs, hlocs⟩ : ∃ locs : List Loc, locs = [] := ⟨_, rfl⟩
  rw [← hlocs] at X ⊢
  clear hH hlocs
  have J85 : ∀ (H : Heap) (locs : List Loc) (x3 : Int32) (x4 : Int32) (M : Mem) (ls : Array Slot), Wd D ad cs GM A s H locs M → lv_has ls 6 [(2, .int a2), (3, .int x3), (4, .int x4)] → ∀ (_ : Unit), fX10_skipOf_85 a1 a2 x3 x4 M = some z → W p l e (rmo 7 200) s m args below meth c H locs 0 0 Q (F0 m 85 ls []) := by
    intro H locs x3 x4 M ls X hl  _u h
    unfold fX10_skipOf_85 at h
    refine lv_iload_n hx hb dX10_skipOf_85 rfl (lv_at hl 0 rfl) ?_
    refine lv_if_ne (tgt := 93) hx hb dX10_skipOf_86 (by decide) (fun c1 => ?_) (fun c1 => ?_)
    · have h := it_n h c1
      refine lv_iload hx hb dX10_skipOf_93 (lv_at hl 2 rfl) ?_
      have h := sm_x h
      exact RT H locs _ _ 95 ls X h dX10_skipOf_95
    · have h := it_p h c1
      refine lv_iload_n hx hb dX10_skipOf_89 rfl (lv_at hl 1 rfl) ?_
      refine lv_goto (tgt := 95) hx hb dX10_skipOf_90 (by decide) ?_
      have h := sm_x h
      exact RT H locs _ _ 95 ls X h dX10_skipOf_95
  have L12 : ∀ (n : Nat) (H : Heap) (locs : List Loc) (x3 : Int32) (x4 : Int32) (x5 : Int32) (M : Mem) (ls : Array Slot), Wd D ad cs GM A s H locs M → lv_has ls 6 [(0, .ref (ad (cO GM 0))), (1, .int a1), (2, .int a2), (3, .int x3), (4, .int x4), (5, .int x5)] → ∀ (_ : Unit), lpO (fun st => fX10_skipOf_12 a1 a2 st.1 st.2.1 st.2.2.1 st.2.2.2) n (x3, x4, x5, M) = some z → W p l e (rmo 7 200) s m args below meth c H locs 0 0 Q (F0 m 12 ls []) := by
    intro n
    induction n with
    | zero =>
      intro H locs x3 x4 x5 M ls X hl  yy h
      exact lp_0 h
    | succ n1 ih12 =>
      intro H locs x3 x4 x5 M ls X hl  _u h
      obtain ⟨y1, h, hk1⟩ := lp_x h
      have J79 : ∀ (H : Heap) (locs : List Loc) (x3 : Int32) (x4 : Int32) (x5 : Int32) (M : Mem) (ls : Array Slot), Wd D ad cs GM A s H locs M → lv_has ls 6 [(0, .ref (ad (cO GM 0))), (1, .int a1), (2, .int a2), (3, .int x3), (4, .int x4), (5, .int x5)] → ∀ (y1 : ((Int32 × Int32 × Int32 × Mem) ⊕ (Int32 × Mem))), fX10_skipOf_79 a1 a2 x3 x4 x5 M = some y1 → lpK (fun st => fX10_skipOf_12 a1 a2 st.1 st.2.1 st.2.2.1 st.2.2.2) n1 y1 = some z → W p l e (rmo 7 200) s m args below meth c H locs 0 0 Q (F0 m 79 ls []) := by
        intro H locs x3 x4 x5 M ls X hl  y1 h hk1
        unfold fX10_skipOf_79 at h
        obtain ⟨u2, eu2, h⟩ := nm_x h
        refine lv_iinc (v := u2) (lv' := [(5, .int u2), (0, .ref (ad (cO GM 0))), (1, .int a1), (2, .int a2), (3, .int x3), (4, .int x4)]) hx hb dX10_skipOf_79 hl (k := 5) rfl (by rw [eu2]; rfl) (by decide) rfl (fun ls hl => ?_)
        refine lv_goto (tgt := 12) hx hb dX10_skipOf_82 (by decide) ?_
        rw [← sm_x h] at hk1
        exact ih12 _ _ x3 x4 u2 M ls X (lv_sub hl [1, 2, 3, 4, 5, 0] rfl)  () hk1
      have J77 : ∀ (H : Heap) (locs : List Loc) (x3 : Int32) (x5 : Int32) (v0 : Int32) (M : Mem) (ls : Array Slot), Wd D ad cs GM A s H locs M → lv_has ls 6 [(0, .ref (ad (cO GM 0))), (1, .int a1), (2, .int a2), (3, .int x3), (5, .int x5)] → ∀ (y1 : ((Int32 × Int32 × Int32 × Mem) ⊕ (Int32 × Mem))), fX10_skipOf_77 a1 a2 x3 x5 v0 M = some y1 → lpK (fun st => fX10_skipOf_12 a1 a2 st.1 st.2.1 st.2.2.1 st.2.2.2) n1 y1 = some z → W p l e (rmo 7 200) s m args below meth c H locs 0 0 Q (F0 m 77 ls [.int v0]) := by
        intro H locs x3 x5 v0 M ls X hl  y1 h hk1
        unfold fX10_skipOf_77 at h
        obtain ⟨u3, eu3, h⟩ := nm_x h
        refine topE eu3 ?_
        refine lv_istore (lv' := [(4, .int u3), (0, .ref (ad (cO GM 0))), (1, .int a1), (2, .int a2), (3, .int x3), (5, .int x5)]) hx hb dX10_skipOf_77 hl (by decide) rfl (fun ls hl => ?_)
        exact J79 _ _ x3 u3 x5 M ls X (lv_sub hl [1, 2, 3, 4, 0, 5] rfl)  _ h hk1
      have J54 : ∀ (H : Heap) (locs : List Loc) (x4 : Int32) (x5 : Int32) (v0 : Int32) (M : Mem) (ls : Array Slot), Wd D ad cs GM A s H locs M → lv_has ls 6 [(0, .ref (ad (cO GM 0))), (1, .int a1), (2, .int a2), (4, .int x4), (5, .int x5)] → ∀ (y1 : ((Int32 × Int32 × Int32 × Mem) ⊕ (Int32 × Mem))), fX10_skipOf_54 a1 a2 x4 x5 v0 M = some y1 → lpK (fun st => fX10_skipOf_12 a1 a2 st.1 st.2.1 st.2.2.1 st.2.2.2) n1 y1 = some z → W p l e (rmo 7 200) s m args below meth c H locs 0 0 Q (F0 m 54 ls [.int v0]) := by
        intro H locs x4 x5 v0 M ls X hl  y1 h hk1
        unfold fX10_skipOf_54 at h
        obtain ⟨u4, eu4, h⟩ := nm_x h
        refine topE eu4 ?_
        refine lv_istore_n (lv' := [(3, .int u4), (0, .ref (ad (cO GM 0))), (1, .int a1), (2, .int a2), (4, .int x4), (5, .int x5)]) hx hb dX10_skipOf_54 rfl hl (by decide) rfl (fun ls hl => ?_)
        refine lv_aload_n hx hb dX10_skipOf_55 rfl (lv_at hl 1 rfl) ?_
        refine gf_X10_37 F X qM0 dX10_skipOf_56 ?_
        refine lv_iload_n hx hb dX10_skipOf_59 rfl (lv_at hl 2 rfl) ?_
        obtain ⟨hin, h⟩ := gd_x h
        refine r_iald F X (ar_X10_20 qM0) hin dX10_skipOf_60 ?_
        refine lv_iload hx hb dX10_skipOf_61 (lv_at hl 4 rfl) ?_
        refine lv_icmp_le (tgt := 75) hx hb dX10_skipOf_63 (by decide) (fun c5 => ?_) (fun c5 => ?_)
        · have h := it_p h c5
          refine lv_iload hx hb dX10_skipOf_75 (lv_at hl 4 rfl) ?_
          exact J77 _ _ u4 x5 x4 M ls X (lv_sub hl [1, 2, 3, 0, 5] rfl)  _ h hk1
        · have h := it_n h c5
          refine lv_aload_n hx hb dX10_skipOf_66 rfl (lv_at hl 1 rfl) ?_
          refine gf_X10_37 F X qM0 dX10_skipOf_67 ?_
          refine lv_iload_n hx hb dX10_skipOf_70 rfl (lv_at hl 2 rfl) ?_
          obtain ⟨hin, h⟩ := gd_x h
          refine r_iald F X (ar_X10_20 qM0) hin dX10_skipOf_71 ?_
          refine lv_goto (tgt := 77) hx hb dX10_skipOf_72 (by decide) ?_
          exact J77 _ _ u4 x5 (M 0 20 (Int32.toNatClampNeg a1)) M ls X (lv_sub hl [1, 2, 3, 0, 5] rfl)  _ h hk1
      unfold fX10_skipOf_12 at h
      refine lv_iload hx hb dX10_skipOf_12 (lv_at hl 5 rfl) ?_
      refine lv_aload_n hx hb dX10_skipOf_14 rfl (lv_at hl 0 rfl) ?_
      refine gf_X10_109 F X qM0 dX10_skipOf_15 ?_
      refine lv_icmp_ge (tgt := 85) hx hb dX10_skipOf_18 (by decide) (fun c6 => ?_) (fun c6 => ?_)
      · have h := it_p h c6
        obtain ⟨_, h, ey⟩ := inr_x h
        rw [ey] at hk1
        have h := h.trans (congrArg some (sm_x hk1))
        exact J85 _ _ x3 x4 M ls X (lv_sub hl [2, 3, 4] rfl)  () h
      · have h := it_n h c6
        refine lv_iload hx hb dX10_skipOf_21 (lv_at hl 5 rfl) ?_
        refine lv_iload_n hx hb dX10_skipOf_23 rfl (lv_at hl 1 rfl) ?_
        refine lv_icmp_eq (tgt := 79) hx hb dX10_skipOf_24 (by decide) (fun c7 => ?_) (fun c7 => ?_)
        · have h := it_p h c7
          exact J79 _ _ x3 x4 x5 M ls X (lv_sub hl [0, 1, 2, 3, 4, 5] rfl)  _ h hk1
        · have h := it_n h c7
          refine lv_aload_n hx hb dX10_skipOf_27 rfl (lv_at hl 0 rfl) ?_
          refine lv_iload hx hb dX10_skipOf_28 (lv_at hl 5 rfl) ?_
          obtain ⟨M8, eM8, h⟩ := nm_x h
          refine pf_X10_170 F X qM0 dX10_skipOf_30 (fun H locs X => ?_)
          have X := Wd_eq eM8 X
          refine lv_aload_n hx hb dX10_skipOf_33 rfl (lv_at hl 0 rfl) ?_
          obtain ⟨r9, hr9, h⟩ := bd_x h
          refine r_callv X (r_runV F X (kX10_runs l D ad cs A  M8  _ hr9) gm_X10_212 hd_X10_runs ⟨Nat.le_of_ble_eq_true rfl, Nat.le_of_ble_eq_true rfl⟩ qM0 rfl rfl hl.1 rfl (Nat.le_of_ble_eq_true rfl) dX10_skipOf_34) (fun H locs X => ?_)
          refine lv_aload_n hx hb dX10_skipOf_37 rfl (lv_at hl 0 rfl) ?_
          refine gf_X10_37 F X qM0 dX10_skipOf_38 ?_
          refine lv_iload_n hx hb dX10_skipOf_41 rfl (lv_at hl 1 rfl) ?_
          obtain ⟨hin, h⟩ := gd_x h
          refine r_iald F X (ar_X10_20 qM0) hin dX10_skipOf_42 ?_
          refine lv_iload hx hb dX10_skipOf_43 (lv_at hl 4 rfl) ?_
          refine lv_icmp_le (tgt := 53) hx hb dX10_skipOf_45 (by decide) (fun c10 => ?_) (fun c10 => ?_)
          · have h := it_p h c10
            refine lv_iload_n hx hb dX10_skipOf_53 rfl (lv_at hl 3 rfl) ?_
            exact J54 _ _ x4 x5 x3 r9 ls X (lv_sub hl [0, 1, 2, 4, 5] rfl)  _ h hk1
          · have h := it_n h c10
            refine lv_iload hx hb dX10_skipOf_48 (lv_at hl 5 rfl) ?_
            refine lv_goto (tgt := 54) hx hb dX10_skipOf_50 (by decide) ?_
            exact J54 _ _ x4 x5 x5 r9 ls X (lv_sub hl [0, 1, 2, 4, 5] rfl)  _ h hk1
  have h := hz
  unfold fX10_skipOf at h
  refine lv_aload_n hx hb dX10_skipOf_0 rfl (lv_at hl 0 rfl) ?_
  obtain ⟨r11, hr11, h⟩ := bd_x h
  refine r_callv X (r_runV F X (kX10_asTold l D ad cs A  M  _ hr11) gm_X10_209 hd_X10_asTold ⟨Nat.le_of_ble_eq_true rfl, Nat.le_of_ble_eq_true rfl⟩ qM0 rfl rfl hl.1 rfl (Nat.le_of_ble_eq_true rfl) dX10_skipOf_1) (fun H locs X => ?_)
  refine lv_iconst (v := (-1)) hx hb dX10_skipOf_4 (by decide) ?_
  obtain ⟨u12, eu12, h⟩ := nm_x h
  refine topE eu12 ?_
  refine lv_istore_n (lv' := [(3, .int u12), (0, .ref (ad (cO GM 0))), (1, .int a1), (2, .int a2)]) hx hb dX10_skipOf_5 rfl hl (by decide) rfl (fun ls hl => ?_)
  refine lv_iconst (v := (-1)) hx hb dX10_skipOf_6 (by decide) ?_
  obtain ⟨u13, eu13, h⟩ := nm_x h
  refine topE eu13 ?_
  refine lv_istore (lv' := [(4, .int u13), (3, .int u12), (0, .ref (ad (cO GM 0))), (1, .int a1), (2, .int a2)]) hx hb dX10_skipOf_7 hl (by decide) rfl (fun ls hl => ?_)
  refine lv_iconst (v := 0) hx hb dX10_skipOf_9 (by decide) ?_
  obtain ⟨u14, eu14, h⟩ := nm_x h
  refine topE eu14 ?_
  refine lv_istore (lv' := [(5, .int u14), (4, .int u13), (3, .int u12), (0, .ref (ad (cO GM 0))), (1, .int a1), (2, .int a2)]) hx hb dX10_skipOf_10 hl (by decide) rfl (fun ls hl => ?_)
  exact L12 FU _ _ u12 u13 u14 r11 ls X (lv_sub hl [3, 4, 5, 2, 1, 0] rfl)  () h

/-! ===== X10_skip ===== -/
def fX10_skip (M : Mem) (a1 : Int32) (a2 : Int32) : Option (Int32 × Mem) :=
  (fX10_isHeir M a1).bind fun r1 =>
  (if r1.1 = 0 then
    some ((-2), r1.2)
  else
    (fX10_in a2 0 1).bind fun r3 =>
    (if r3 = 0 then
      some ((-2), r1.2)
    else
      (fX10_skipOf r1.2 a1 a2).bind fun r5 =>
      some (r5.1, r5.2)))
set_option maxHeartbeats 4000000 in
set_option maxRecDepth 100000 in
theorem kX10_skip (l : Launch) (D : va_G) (ad : Nat → Nat) (cs : Nat → ClassId) (A : Nat → Prop)  (M : Mem) (a1 : Int32) (a2 : Int32) (z : (Int32 × Mem)) (hz : fX10_skip M a1 a2 = some z) : Met l yX10_skip (wsU yX10_skip cX10_skip 3 (some .int)) (rmo 8 225) (va_Pc [.ref (ad (cO GM 0)), .int a1, .int a2] (Wd0 D ad cs GM A M)) (va_Qi (fun r u => (r, u) = z) (Wd0 D ad cs GM A) A) 0 0 A := by
  refine ct_i (by decide) rfl okGM (Nat.le_of_ble_eq_true rfl) ?_
  intro p e s m args below meth c Q ls F X hl RT
  have hx := F.1
  have hb := F.2.1
  have hl : lv_has ls 3 [(0, .ref (ad (cO GM 0))), (1, .int a1), (2, .int a2)] := hl
  obtain ⟨H, hH⟩ : ∃ H, H = s.heap := ⟨_, rfl⟩
  rw [← hH] at X ⊢
  obtain ⟨locs, hlocs⟩ : ∃ locs : List Loc, locs = [] := ⟨_, rfl⟩
  rw [← hlocs] at X ⊢
  clear hH hlocs
  have h := hz
  unfold fX10_skip at h
  refine lv_aload_n hx hb dX10_skip_0 rfl (lv_at hl 0 rfl) ?_
  refine lv_iload_n hx hb dX10_skip_1 rfl (lv_at hl 1 rfl) ?_
  obtain ⟨r1, hr1, h⟩ := bd_x h
  refine r_calli X (r_runV F X (kX10_isHeir l D ad cs A  M a1 _ hr1) gm_X10_133 hd_X10_isHeir ⟨Nat.le_of_ble_eq_true rfl, Nat.le_of_ble_eq_true rfl⟩ qM0 rfl rfl hl.1 rfl (Nat.le_of_ble_eq_true rfl) dX10_skip_2) (fun H locs X => ?_)
  refine lv_if_eq (tgt := 26) hx hb dX10_skip_5 (by decide) (fun c2 => ?_) (fun c2 => ?_)
  · have h := it_p h c2
    refine lv_bipush (v := (-2)) hx hb dX10_skip_26 (by decide) ?_
    have h := sm_x h
    exact RT H locs _ _ 28 ls X h dX10_skip_28
  · have h := it_n h c2
    refine lv_iload_n hx hb dX10_skip_8 rfl (lv_at hl 2 rfl) ?_
    refine lv_iconst (v := 0) hx hb dX10_skip_9 (by decide) ?_
    refine lv_iconst (v := 1) hx hb dX10_skip_10 (by decide) ?_
    obtain ⟨r3, hr3, h⟩ := bd_x h
    refine r_calli0 X (r_runS F X (kX10_in l D ad cs A  r1.2 a2 0 1 _ hr3) gm_X10_97 hd_X10_in ⟨Nat.le_of_ble_eq_true rfl, Nat.le_of_ble_eq_true rfl⟩ rfl hl.1 rfl (Nat.le_of_ble_eq_true rfl) dX10_skip_11) (fun H locs X => ?_)
    refine lv_if_eq (tgt := 26) hx hb dX10_skip_14 (by decide) (fun c4 => ?_) (fun c4 => ?_)
    · have h := it_p h c4
      refine lv_bipush (v := (-2)) hx hb dX10_skip_26 (by decide) ?_
      have h := sm_x h
      exact RT H locs _ _ 28 ls X h dX10_skip_28
    · have h := it_n h c4
      refine lv_aload_n hx hb dX10_skip_17 rfl (lv_at hl 0 rfl) ?_
      refine lv_iload_n hx hb dX10_skip_18 rfl (lv_at hl 1 rfl) ?_
      refine lv_iload_n hx hb dX10_skip_19 rfl (lv_at hl 2 rfl) ?_
      obtain ⟨r5, hr5, h⟩ := bd_x h
      refine r_calli X (r_runV F X (kX10_skipOf l D ad cs A  r1.2 a1 a2 _ hr5) gm_X10_271 hd_X10_skipOf ⟨Nat.le_of_ble_eq_true rfl, Nat.le_of_ble_eq_true rfl⟩ qM0 rfl rfl hl.1 rfl (Nat.le_of_ble_eq_true rfl) dX10_skip_20) (fun H locs X => ?_)
      refine lv_goto (tgt := 28) hx hb dX10_skip_23 (by decide) ?_
      have h := sm_x h
      exact RT H locs _ _ 28 ls X h dX10_skip_28

/-! ===== X10_seen ===== -/
def fX10_seen (M : Mem) (a1 : Int32) (a2 : Int32) : Option (Int32 × Mem) :=
  (fX10_isStop a1).bind fun r1 =>
  (if r1 = 0 then
    some ((-2), M)
  else
    (fX10_in a2 0 4).bind fun r3 =>
    (if r3 = 0 then
      some ((-2), M)
    else
      if (M 0 32 0) = 8 then
        some ((-4), M)
      else
        gd (inB (M 0 32 0) 8) <|
        nm (wr M 0 33 (Int32.toNatClampNeg (M 0 32 0)) a1) fun M6 =>
        gd (inB (M6 0 32 0) 8) <|
        nm (wr M6 0 34 (Int32.toNatClampNeg (M6 0 32 0)) a2) fun M7 =>
        nm (wr M7 0 32 0 ((M7 0 32 0) + (1 : Int32))) fun M8 =>
        some (M8 0 32 0, M8)))
set_option maxHeartbeats 4000000 in
set_option maxRecDepth 100000 in
theorem kX10_seen (l : Launch) (D : va_G) (ad : Nat → Nat) (cs : Nat → ClassId) (A : Nat → Prop)  (M : Mem) (a1 : Int32) (a2 : Int32) (z : (Int32 × Mem)) (hz : fX10_seen M a1 a2 = some z) : Met l yX10_seen (wsU yX10_seen cX10_seen 3 (some .int)) (rmo 3 106) (va_Pc [.ref (ad (cO GM 0)), .int a1, .int a2] (Wd0 D ad cs GM A M)) (va_Qi (fun r u => (r, u) = z) (Wd0 D ad cs GM A) A) 0 0 A := by
  refine ct_i (by decide) rfl okGM (Nat.le_of_ble_eq_true rfl) ?_
  intro p e s m args below meth c Q ls F X hl RT
  have hx := F.1
  have hb := F.2.1
  have hl : lv_has ls 3 [(0, .ref (ad (cO GM 0))), (1, .int a1), (2, .int a2)] := hl
  obtain ⟨H, hH⟩ : ∃ H, H = s.heap := ⟨_, rfl⟩
  rw [← hH] at X ⊢
  obtain ⟨locs, hlocs⟩ : ∃ locs : List Loc, locs = [] := ⟨_, rfl⟩
  rw [← hlocs] at X ⊢
  clear hH hlocs
  have h := hz
  unfold fX10_seen at h
  refine lv_iload_n hx hb dX10_seen_0 rfl (lv_at hl 1 rfl) ?_
  obtain ⟨r1, hr1, h⟩ := bd_x h
  refine r_calli0 X (r_runS F X (kX10_isStop l D ad cs A  M a1 _ hr1) gm_X10_139 hd_X10_isStop ⟨Nat.le_of_ble_eq_true rfl, Nat.le_of_ble_eq_true rfl⟩ rfl hl.1 rfl (Nat.le_of_ble_eq_true rfl) dX10_seen_1) (fun H locs X => ?_)
  refine lv_if_eq (tgt := 16) hx hb dX10_seen_4 (by decide) (fun c2 => ?_) (fun c2 => ?_)
  · have h := it_p h c2
    refine lv_bipush (v := (-2)) hx hb dX10_seen_16 (by decide) ?_
    have h := sm_x h
    exact RT H locs _ _ 18 ls X h dX10_seen_18
  · have h := it_n h c2
    refine lv_iload_n hx hb dX10_seen_7 rfl (lv_at hl 2 rfl) ?_
    refine lv_iconst (v := 0) hx hb dX10_seen_8 (by decide) ?_
    refine lv_iconst (v := 4) hx hb dX10_seen_9 (by decide) ?_
    obtain ⟨r3, hr3, h⟩ := bd_x h
    refine r_calli0 X (r_runS F X (kX10_in l D ad cs A  M a2 0 4 _ hr3) gm_X10_97 hd_X10_in ⟨Nat.le_of_ble_eq_true rfl, Nat.le_of_ble_eq_true rfl⟩ rfl hl.1 rfl (Nat.le_of_ble_eq_true rfl) dX10_seen_10) (fun H locs X => ?_)
    refine lv_if_ne (tgt := 19) hx hb dX10_seen_13 (by decide) (fun c4 => ?_) (fun c4 => ?_)
    · have h := it_n h c4
      refine lv_aload_n hx hb dX10_seen_19 rfl (lv_at hl 0 rfl) ?_
      refine gf_X10_274 F X qM0 dX10_seen_20 ?_
      refine lv_bipush (v := 8) hx hb dX10_seen_23 (by decide) ?_
      refine lv_icmp_ne (tgt := 31) hx hb dX10_seen_25 (by decide) (fun c5 => ?_) (fun c5 => ?_)
      · have h := it_n h c5
        refine lv_aload_n hx hb dX10_seen_31 rfl (lv_at hl 0 rfl) ?_
        refine gf_X10_70 F X qM0 dX10_seen_32 ?_
        refine lv_aload_n hx hb dX10_seen_35 rfl (lv_at hl 0 rfl) ?_
        refine gf_X10_274 F X qM0 dX10_seen_36 ?_
        refine lv_iload_n hx hb dX10_seen_39 rfl (lv_at hl 1 rfl) ?_
        obtain ⟨hin, h⟩ := gd_x h
        obtain ⟨M6, eM6, h⟩ := nm_x h
        refine r_iast F X (ar_X10_33 qM0) hin dX10_seen_40 (fun H locs X => ?_)
        have X := Wd_eq eM6 X
        refine lv_aload_n hx hb dX10_seen_41 rfl (lv_at hl 0 rfl) ?_
        refine gf_X10_73 F X qM0 dX10_seen_42 ?_
        refine lv_aload_n hx hb dX10_seen_45 rfl (lv_at hl 0 rfl) ?_
        refine gf_X10_274 F X qM0 dX10_seen_46 ?_
        refine lv_iload_n hx hb dX10_seen_49 rfl (lv_at hl 2 rfl) ?_
        obtain ⟨hin, h⟩ := gd_x h
        obtain ⟨M7, eM7, h⟩ := nm_x h
        refine r_iast F X (ar_X10_34 qM0) hin dX10_seen_50 (fun H locs X => ?_)
        have X := Wd_eq eM7 X
        refine lv_aload_n hx hb dX10_seen_51 rfl (lv_at hl 0 rfl) ?_
        refine lv_dup hx hb dX10_seen_52 rfl ?_
        refine gf_X10_274 F X qM0 dX10_seen_53 ?_
        refine lv_iconst (v := 1) hx hb dX10_seen_56 (by decide) ?_
        refine lv_iadd hx hb dX10_seen_57 ?_
        obtain ⟨M8, eM8, h⟩ := nm_x h
        refine pf_X10_274 F X qM0 dX10_seen_58 (fun H locs X => ?_)
        have X := Wd_eq eM8 X
        refine lv_aload_n hx hb dX10_seen_61 rfl (lv_at hl 0 rfl) ?_
        refine gf_X10_274 F X qM0 dX10_seen_62 ?_
        have h := sm_x h
        exact RT H locs _ _ 65 ls X h dX10_seen_65
      · have h := it_p h c5
        refine lv_bipush (v := (-4)) hx hb dX10_seen_28 (by decide) ?_
        have h := sm_x h
        exact RT H locs _ _ 30 ls X h dX10_seen_30
    · have h := it_p h c4
      refine lv_bipush (v := (-2)) hx hb dX10_seen_16 (by decide) ?_
      have h := sm_x h
      exact RT H locs _ _ 18 ls X h dX10_seen_18

/-! ===== X10_forget ===== -/
def fX10_forget (M : Mem) : Option (Int32 × Mem) :=
  nm (M 0 32 0 : Int32) fun u1 =>
  nm (wr M 0 32 0 0) fun M2 =>
  some (u1, M2)
set_option maxHeartbeats 4000000 in
set_option maxRecDepth 100000 in
theorem kX10_forget (l : Launch) (D : va_G) (ad : Nat → Nat) (cs : Nat → ClassId) (A : Nat → Prop)  (M : Mem)  (z : (Int32 × Mem)) (hz : fX10_forget M = some z) : Met l yX10_forget (wsU yX10_forget cX10_forget 2 (some .int)) (rmo 1 64) (va_Pc [.ref (ad (cO GM 0))] (Wd0 D ad cs GM A M)) (va_Qi (fun r u => (r, u) = z) (Wd0 D ad cs GM A) A) 0 0 A := by
  refine ct_i (by decide) rfl okGM (Nat.le_of_ble_eq_true rfl) ?_
  intro p e s m args below meth c Q ls F X hl RT
  have hx := F.1
  have hb := F.2.1
  have hl : lv_has ls 2 [(0, .ref (ad (cO GM 0)))] := hl
  obtain ⟨H, hH⟩ : ∃ H, H = s.heap := ⟨_, rfl⟩
  rw [← hH] at X ⊢
  obtain ⟨locs, hlocs⟩ : ∃ locs : List Loc, locs = [] := ⟨_, rfl⟩
  rw [← hlocs] at X ⊢
  clear hH hlocs
  have h := hz
  unfold fX10_forget at h
  refine lv_aload_n hx hb dX10_forget_0 rfl (lv_at hl 0 rfl) ?_
  refine gf_X10_274 F X qM0 dX10_forget_1 ?_
  obtain ⟨u1, eu1, h⟩ := nm_x h
  refine topE eu1 ?_
  refine lv_istore_n (lv' := [(1, .int u1), (0, .ref (ad (cO GM 0)))]) hx hb dX10_forget_4 rfl hl (by decide) rfl (fun ls hl => ?_)
  refine lv_aload_n hx hb dX10_forget_5 rfl (lv_at hl 1 rfl) ?_
  refine lv_iconst (v := 0) hx hb dX10_forget_6 (by decide) ?_
  obtain ⟨M2, eM2, h⟩ := nm_x h
  refine pf_X10_274 F X qM0 dX10_forget_7 (fun H locs X => ?_)
  have X := Wd_eq eM2 X
  refine lv_iload_n hx hb dX10_forget_10 rfl (lv_at hl 0 rfl) ?_
  have h := sm_x h
  exact RT H locs _ _ 11 ls X h dX10_forget_11

/-! ===== X10_isSeen ===== -/
def fX10_isSeen_58  (x2 : Int32) (v0 : Int32) (M : Mem) : Option ((Int32 × Int32 × Mem) ⊕ (Int32 × Mem)) :=
  nm (v0 : Int32) fun u1 =>
  nm (x2 + 1 : Int32) fun u2 =>
  some (.inl (u1, u2, M))
def fX10_isSeen_57  (x2 : Int32) (M : Mem) : Option ((Int32 × Int32 × Mem) ⊕ (Int32 × Mem)) :=
  fX10_isSeen_58 x2 0 M
def fX10_isSeen_8  (x1 : Int32) (x2 : Int32) (M : Mem) : Option ((Int32 × Int32 × Mem) ⊕ (Int32 × Mem)) :=
  if (M 0 32 0) ≤ x2 then
    gd (x1 = 0 ∨ x1 = 1) <|
    some (.inr (x1, M))
  else
    if x1 = 0 then
      gd (x1 = 0 ∨ x1 = 1) <|
      some (.inr (x1, M))
    else
      gd (inB x2 8) <|
      (if (M 0 11 0) ≤ (M 0 33 (Int32.toNatClampNeg x2)) then
        fX10_isSeen_57 x2 M
      else
        gd (inB x2 8) <|
        gd (inB (M 0 33 (Int32.toNatClampNeg x2)) 20) <|
        gd (inB x2 8) <|
        (if (M 0 24 (Int32.toNatClampNeg (M 0 33 (Int32.toNatClampNeg x2)))) = (M 0 34 (Int32.toNatClampNeg x2)) then
          fX10_isSeen_58 x2 1 M
        else
          fX10_isSeen_57 x2 M))
def fX10_isSeen (M : Mem) : Option (Int32 × Mem) :=
  (fX10_runs M).bind fun r7 =>
  nm (1 : Int32) fun u8 =>
  nm (0 : Int32) fun u9 =>
  lpO (fun st => fX10_isSeen_8 st.1 st.2.1 st.2.2) FU (u8, u9, r7)
set_option maxHeartbeats 4000000 in
set_option maxRecDepth 100000 in
theorem kX10_isSeen (l : Launch) (D : va_G) (ad : Nat → Nat) (cs : Nat → ClassId) (A : Nat → Prop)  (M : Mem)  (z : (Int32 × Mem)) (hz : fX10_isSeen M = some z) : Met l yX10_isSeen (wsU yX10_isSeen cX10_isSeen 3 (some .boolean)) (rmo 5 154) (va_Pc [.ref (ad (cO GM 0))] (Wd0 D ad cs GM A M)) (va_Qi (fun r u => (r, u) = z) (Wd0 D ad cs GM A) A) 0 0 A := by
  refine ct_z (by decide) rfl okGM (Nat.le_of_ble_eq_true rfl) ?_
  intro p e s m args below meth c Q ls F X hl RT
  have hx := F.1
  have hb := F.2.1
  have hl : lv_has ls 3 [(0, .ref (ad (cO GM 0)))] := hl
  obtain ⟨H, hH⟩ : ∃ H, H = s.heap := ⟨_, rfl⟩
  rw [← hH] at X ⊢
  obtain ⟨locs, hlocs⟩ : ∃ locs : List Loc, locs = [] := ⟨_, rfl⟩
  rw [← hlocs] at X ⊢
  clear hH hlocs
  have L8 : ∀ (n : Nat) (H : Heap) (locs : List Loc) (x1 : Int32) (x2 : Int32) (M : Mem) (ls : Array Slot), Wd D ad cs GM A s H locs M → lv_has ls 3 [(0, .ref (ad (cO GM 0))), (1, .int x1), (2, .int x2)] → ∀ (_ : Unit), lpO (fun st => fX10_isSeen_8 st.1 st.2.1 st.2.2) n (x1, x2, M) = some z → W p l e (rmo 5 154) s m args below meth c H locs 0 0 Q (F0 m 8 ls []) := by
    intro n
    induction n with
    | zero =>
      intro H locs x1 x2 M ls X hl  yy h
      exact lp_0 h
    | succ n1 ih8 =>
      intro H locs x1 x2 M ls X hl  _u h
      obtain ⟨y1, h, hk1⟩ := lp_x h
      have J58 : ∀ (H : Heap) (locs : List Loc) (x2 : Int32) (v0 : Int32) (M : Mem) (ls : Array Slot), Wd D ad cs GM A s H locs M → lv_has ls 3 [(0, .ref (ad (cO GM 0))), (2, .int x2)] → ∀ (y1 : ((Int32 × Int32 × Mem) ⊕ (Int32 × Mem))), fX10_isSeen_58 x2 v0 M = some y1 → lpK (fun st => fX10_isSeen_8 st.1 st.2.1 st.2.2) n1 y1 = some z → W p l e (rmo 5 154) s m args below meth c H locs 0 0 Q (F0 m 58 ls [.int v0]) := by
        intro H locs x2 v0 M ls X hl  y1 h hk1
        unfold fX10_isSeen_58 at h
        obtain ⟨u1, eu1, h⟩ := nm_x h
        refine topE eu1 ?_
        refine lv_istore_n (lv' := [(1, .int u1), (0, .ref (ad (cO GM 0))), (2, .int x2)]) hx hb dX10_isSeen_58 rfl hl (by decide) rfl (fun ls hl => ?_)
        obtain ⟨u2, eu2, h⟩ := nm_x h
        refine lv_iinc (v := u2) (lv' := [(2, .int u2), (1, .int u1), (0, .ref (ad (cO GM 0)))]) hx hb dX10_isSeen_59 hl (k := 2) rfl (by rw [eu2]; rfl) (by decide) rfl (fun ls hl => ?_)
        refine lv_goto (tgt := 8) hx hb dX10_isSeen_62 (by decide) ?_
        rw [← sm_x h] at hk1
        exact ih8 _ _ u1 u2 M ls X (lv_sub hl [2, 1, 0] rfl)  () hk1
      have J57 : ∀ (H : Heap) (locs : List Loc) (x2 : Int32) (M : Mem) (ls : Array Slot), Wd D ad cs GM A s H locs M → lv_has ls 3 [(0, .ref (ad (cO GM 0))), (2, .int x2)] → ∀ (y1 : ((Int32 × Int32 × Mem) ⊕ (Int32 × Mem))), fX10_isSeen_57 x2 M = some y1 → lpK (fun st => fX10_isSeen_8 st.1 st.2.1 st.2.2) n1 y1 = some z → W p l e (rmo 5 154) s m args below meth c H locs 0 0 Q (F0 m 57 ls []) := by
        intro H locs x2 M ls X hl  y1 h hk1
        unfold fX10_isSeen_57 at h
        refine lv_iconst (v := 0) hx hb dX10_isSeen_57 (by decide) ?_
        exact J58 _ _ x2 0 M ls X (lv_sub hl [0, 1] rfl)  _ h hk1
      unfold fX10_isSeen_8 at h
      refine lv_iload_n hx hb dX10_isSeen_8 rfl (lv_at hl 2 rfl) ?_
      refine lv_aload_n hx hb dX10_isSeen_9 rfl (lv_at hl 0 rfl) ?_
      refine gf_X10_274 F X qM0 dX10_isSeen_10 ?_
      refine lv_icmp_ge (tgt := 65) hx hb dX10_isSeen_13 (by decide) (fun c3 => ?_) (fun c3 => ?_)
      · have h := it_p h c3
        refine lv_iload_n hx hb dX10_isSeen_65 rfl (lv_at hl 1 rfl) ?_
        obtain ⟨h01, h⟩ := gd_x h
        have h := sm_x h
        rw [← h] at hk1
        have h := sm_x hk1
        exact RT H locs _ _ 66 ls X h h01 dX10_isSeen_66
      · have h := it_n h c3
        refine lv_iload_n hx hb dX10_isSeen_16 rfl (lv_at hl 1 rfl) ?_
        refine lv_if_eq (tgt := 65) hx hb dX10_isSeen_17 (by decide) (fun c4 => ?_) (fun c4 => ?_)
        · have h := it_p h c4
          refine lv_iload_n hx hb dX10_isSeen_65 rfl (lv_at hl 1 rfl) ?_
          obtain ⟨h01, h⟩ := gd_x h
          have h := sm_x h
          rw [← h] at hk1
          have h := sm_x hk1
          exact RT H locs _ _ 66 ls X h h01 dX10_isSeen_66
        · have h := it_n h c4
          refine lv_aload_n hx hb dX10_isSeen_20 rfl (lv_at hl 0 rfl) ?_
          refine gf_X10_70 F X qM0 dX10_isSeen_21 ?_
          refine lv_iload_n hx hb dX10_isSeen_24 rfl (lv_at hl 2 rfl) ?_
          obtain ⟨hin, h⟩ := gd_x h
          refine r_iald F X (ar_X10_33 qM0) hin dX10_isSeen_25 ?_
          refine lv_aload_n hx hb dX10_isSeen_26 rfl (lv_at hl 0 rfl) ?_
          refine gf_X10_161 F X qM0 dX10_isSeen_27 ?_
          refine lv_icmp_ge (tgt := 57) hx hb dX10_isSeen_30 (by decide) (fun c5 => ?_) (fun c5 => ?_)
          · have h := it_p h c5
            exact J57 _ _ x2 M ls X (lv_sub hl [0, 2] rfl)  _ h hk1
          · have h := it_n h c5
            refine lv_aload_n hx hb dX10_isSeen_33 rfl (lv_at hl 0 rfl) ?_
            refine gf_X10_46 F X qM0 dX10_isSeen_34 ?_
            refine lv_aload_n hx hb dX10_isSeen_37 rfl (lv_at hl 0 rfl) ?_
            refine gf_X10_70 F X qM0 dX10_isSeen_38 ?_
            refine lv_iload_n hx hb dX10_isSeen_41 rfl (lv_at hl 2 rfl) ?_
            obtain ⟨hin, h⟩ := gd_x h
            refine r_iald F X (ar_X10_33 qM0) hin dX10_isSeen_42 ?_
            obtain ⟨hin, h⟩ := gd_x h
            refine r_iald F X (ar_X10_24 qM0) hin dX10_isSeen_43 ?_
            refine lv_aload_n hx hb dX10_isSeen_44 rfl (lv_at hl 0 rfl) ?_
            refine gf_X10_73 F X qM0 dX10_isSeen_45 ?_
            refine lv_iload_n hx hb dX10_isSeen_48 rfl (lv_at hl 2 rfl) ?_
            obtain ⟨hin, h⟩ := gd_x h
            refine r_iald F X (ar_X10_34 qM0) hin dX10_isSeen_49 ?_
            refine lv_icmp_ne (tgt := 57) hx hb dX10_isSeen_50 (by decide) (fun c6 => ?_) (fun c6 => ?_)
            · have h := it_n h c6
              exact J57 _ _ x2 M ls X (lv_sub hl [0, 2] rfl)  _ h hk1
            · have h := it_p h c6
              refine lv_iconst (v := 1) hx hb dX10_isSeen_53 (by decide) ?_
              refine lv_goto (tgt := 58) hx hb dX10_isSeen_54 (by decide) ?_
              exact J58 _ _ x2 1 M ls X (lv_sub hl [0, 2] rfl)  _ h hk1
  have h := hz
  unfold fX10_isSeen at h
  refine lv_aload_n hx hb dX10_isSeen_0 rfl (lv_at hl 0 rfl) ?_
  obtain ⟨r7, hr7, h⟩ := bd_x h
  refine r_callv X (r_runV F X (kX10_runs l D ad cs A  M  _ hr7) gm_X10_212 hd_X10_runs ⟨Nat.le_of_ble_eq_true rfl, Nat.le_of_ble_eq_true rfl⟩ qM0 rfl rfl hl.1 rfl (Nat.le_of_ble_eq_true rfl) dX10_isSeen_1) (fun H locs X => ?_)
  refine lv_iconst (v := 1) hx hb dX10_isSeen_4 (by decide) ?_
  obtain ⟨u8, eu8, h⟩ := nm_x h
  refine topE eu8 ?_
  refine lv_istore_n (lv' := [(1, .int u8), (0, .ref (ad (cO GM 0)))]) hx hb dX10_isSeen_5 rfl hl (by decide) rfl (fun ls hl => ?_)
  refine lv_iconst (v := 0) hx hb dX10_isSeen_6 (by decide) ?_
  obtain ⟨u9, eu9, h⟩ := nm_x h
  refine topE eu9 ?_
  refine lv_istore_n (lv' := [(2, .int u9), (1, .int u8), (0, .ref (ad (cO GM 0)))]) hx hb dX10_isSeen_7 rfl hl (by decide) rfl (fun ls hl => ?_)
  exact L8 FU _ _ u8 u9 r7 ls X (lv_sub hl [2, 1, 0] rfl)  () h

/-! ===== X10_neverNow ===== -/
def fX10_neverNow_42  (x2 : Int32) (v0 : Int32) (v1 : Int32) (M : Mem) : Option ((Int32 × Int32 × Mem) ⊕ (Int32 × Mem)) :=
  nm (v1 ||| v0 : Int32) fun u1 =>
  nm (x2 + 1 : Int32) fun u2 =>
  some (.inl (u1, u2, M))
def fX10_neverNow_8  (x1 : Int32) (x2 : Int32) (M : Mem) : Option ((Int32 × Int32 × Mem) ⊕ (Int32 × Mem)) :=
  if (M 0 9 0) ≤ x2 then
    some (.inr (x1, M))
  else
    (fX10_fliesBut M ((1 : Int32) <<< (x2 &&& 31))).bind fun r4 =>
    nm (wr M 0 13 0 r4) fun M5 =>
    (fX10_isSeen M5).bind fun r6 =>
    (if r6.1 = 0 then
      fX10_neverNow_42 x2 0 x1 r6.2
    else
      fX10_neverNow_42 x2 ((1 : Int32) <<< (x2 &&& 31)) x1 r6.2)
def fX10_neverNow (M : Mem) : Option (Int32 × Mem) :=
  (fX10_asTold M).bind fun r8 =>
  nm (0 : Int32) fun u9 =>
  nm (0 : Int32) fun u10 =>
  lpO (fun st => fX10_neverNow_8 st.1 st.2.1 st.2.2) FU (u9, u10, r8)
set_option maxHeartbeats 4000000 in
set_option maxRecDepth 100000 in
theorem kX10_neverNow (l : Launch) (D : va_G) (ad : Nat → Nat) (cs : Nat → ClassId) (A : Nat → Prop)  (M : Mem)  (z : (Int32 × Mem)) (hz : fX10_neverNow M = some z) : Met l yX10_neverNow (wsU yX10_neverNow cX10_neverNow 3 (some .int)) (rmo 7 200) (va_Pc [.ref (ad (cO GM 0))] (Wd0 D ad cs GM A M)) (va_Qi (fun r u => (r, u) = z) (Wd0 D ad cs GM A) A) 0 0 A := by
  refine ct_i (by decide) rfl okGM (Nat.le_of_ble_eq_true rfl) ?_
  intro p e s m args below meth c Q ls F X hl RT
  have hx := F.1
  have hb := F.2.1
  have hl : lv_has ls 3 [(0, .ref (ad (cO GM 0)))] := hl
  obtain ⟨H, hH⟩ : ∃ H, H = s.heap := ⟨_, rfl⟩
  rw [← hH] at X ⊢
  obtain ⟨locs, hlocs⟩ : ∃ locs : List Loc, locs = [] := ⟨_, rfl⟩
  rw [← hlocs] at X ⊢
  clear hH hlocs
  have L8 : ∀ (n : Nat) (H : Heap) (locs : List Loc) (x1 : Int32) (x2 : Int32) (M : Mem) (ls : Array Slot), Wd D ad cs GM A s H locs M → lv_has ls 3 [(0, .ref (ad (cO GM 0))), (1, .int x1), (2, .int x2)] → ∀ (_ : Unit), lpO (fun st => fX10_neverNow_8 st.1 st.2.1 st.2.2) n (x1, x2, M) = some z → W p l e (rmo 7 200) s m args below meth c H locs 0 0 Q (F0 m 8 ls []) := by
    intro n
    induction n with
    | zero =>
      intro H locs x1 x2 M ls X hl  yy h
      exact lp_0 h
    | succ n1 ih8 =>
      intro H locs x1 x2 M ls X hl  _u h
      obtain ⟨y1, h, hk1⟩ := lp_x h
      have J42 : ∀ (H : Heap) (locs : List Loc) (x2 : Int32) (v0 : Int32) (v1 : Int32) (M : Mem) (ls : Array Slot), Wd D ad cs GM A s H locs M → lv_has ls 3 [(0, .ref (ad (cO GM 0))), (2, .int x2)] → ∀ (y1 : ((Int32 × Int32 × Mem) ⊕ (Int32 × Mem))), fX10_neverNow_42 x2 v0 v1 M = some y1 → lpK (fun st => fX10_neverNow_8 st.1 st.2.1 st.2.2) n1 y1 = some z → W p l e (rmo 7 200) s m args below meth c H locs 0 0 Q (F0 m 42 ls [.int v0, .int v1]) := by
        intro H locs x2 v0 v1 M ls X hl  y1 h hk1
        unfold fX10_neverNow_42 at h
        refine lv_ior hx hb dX10_neverNow_42 ?_
        obtain ⟨u1, eu1, h⟩ := nm_x h
        refine topE eu1 ?_
        refine lv_istore_n (lv' := [(1, .int u1), (0, .ref (ad (cO GM 0))), (2, .int x2)]) hx hb dX10_neverNow_43 rfl hl (by decide) rfl (fun ls hl => ?_)
        obtain ⟨u2, eu2, h⟩ := nm_x h
        refine lv_iinc (v := u2) (lv' := [(2, .int u2), (1, .int u1), (0, .ref (ad (cO GM 0)))]) hx hb dX10_neverNow_44 hl (k := 2) rfl (by rw [eu2]; rfl) (by decide) rfl (fun ls hl => ?_)
        refine lv_goto (tgt := 8) hx hb dX10_neverNow_47 (by decide) ?_
        rw [← sm_x h] at hk1
        exact ih8 _ _ u1 u2 M ls X (lv_sub hl [2, 1, 0] rfl)  () hk1
      unfold fX10_neverNow_8 at h
      refine lv_iload_n hx hb dX10_neverNow_8 rfl (lv_at hl 2 rfl) ?_
      refine lv_aload_n hx hb dX10_neverNow_9 rfl (lv_at hl 0 rfl) ?_
      refine gf_X10_145 F X qM0 dX10_neverNow_10 ?_
      refine lv_icmp_ge (tgt := 50) hx hb dX10_neverNow_13 (by decide) (fun c3 => ?_) (fun c3 => ?_)
      · have h := it_p h c3
        refine lv_iload_n hx hb dX10_neverNow_50 rfl (lv_at hl 1 rfl) ?_
        have h := sm_x h
        rw [← h] at hk1
        have h := sm_x hk1
        exact RT H locs _ _ 51 ls X h dX10_neverNow_51
      · have h := it_n h c3
        refine lv_aload_n hx hb dX10_neverNow_16 rfl (lv_at hl 0 rfl) ?_
        refine lv_aload_n hx hb dX10_neverNow_17 rfl (lv_at hl 0 rfl) ?_
        refine lv_iconst (v := 1) hx hb dX10_neverNow_18 (by decide) ?_
        refine lv_iload_n hx hb dX10_neverNow_19 rfl (lv_at hl 2 rfl) ?_
        refine lv_ishl hx hb dX10_neverNow_20 ?_
        obtain ⟨r4, hr4, h⟩ := bd_x h
        refine r_calli0 X (r_runV F X (kX10_fliesBut l D ad cs A  M ((1 : Int32) <<< (x2 &&& 31)) _ hr4) gm_X10_164 hd_X10_fliesBut ⟨Nat.le_of_ble_eq_true rfl, Nat.le_of_ble_eq_true rfl⟩ qM0 rfl rfl hl.1 rfl (Nat.le_of_ble_eq_true rfl) dX10_neverNow_21) (fun H locs X => ?_)
        obtain ⟨M5, eM5, h⟩ := nm_x h
        refine pf_X10_167 F X qM0 dX10_neverNow_24 (fun H locs X => ?_)
        have X := Wd_eq eM5 X
        refine lv_iload_n hx hb dX10_neverNow_27 rfl (lv_at hl 1 rfl) ?_
        refine lv_aload_n hx hb dX10_neverNow_28 rfl (lv_at hl 0 rfl) ?_
        obtain ⟨r6, hr6, h⟩ := bd_x h
        refine r_calli X (r_runV F X (kX10_isSeen l D ad cs A  M5  _ hr6) gm_X10_277 hd_X10_isSeen ⟨Nat.le_of_ble_eq_true rfl, Nat.le_of_ble_eq_true rfl⟩ qM0 rfl rfl hl.1 rfl (Nat.le_of_ble_eq_true rfl) dX10_neverNow_29) (fun H locs X => ?_)
        refine lv_if_eq (tgt := 41) hx hb dX10_neverNow_32 (by decide) (fun c7 => ?_) (fun c7 => ?_)
        · have h := it_p h c7
          refine lv_iconst (v := 0) hx hb dX10_neverNow_41 (by decide) ?_
          exact J42 _ _ x2 0 x1 r6.2 ls X (lv_sub hl [0, 2] rfl)  _ h hk1
        · have h := it_n h c7
          refine lv_iconst (v := 1) hx hb dX10_neverNow_35 (by decide) ?_
          refine lv_iload_n hx hb dX10_neverNow_36 rfl (lv_at hl 2 rfl) ?_
          refine lv_ishl hx hb dX10_neverNow_37 ?_
          refine lv_goto (tgt := 42) hx hb dX10_neverNow_38 (by decide) ?_
          exact J42 _ _ x2 ((1 : Int32) <<< (x2 &&& 31)) x1 r6.2 ls X (lv_sub hl [0, 2] rfl)  _ h hk1
  have h := hz
  unfold fX10_neverNow at h
  refine lv_aload_n hx hb dX10_neverNow_0 rfl (lv_at hl 0 rfl) ?_
  obtain ⟨r8, hr8, h⟩ := bd_x h
  refine r_callv X (r_runV F X (kX10_asTold l D ad cs A  M  _ hr8) gm_X10_209 hd_X10_asTold ⟨Nat.le_of_ble_eq_true rfl, Nat.le_of_ble_eq_true rfl⟩ qM0 rfl rfl hl.1 rfl (Nat.le_of_ble_eq_true rfl) dX10_neverNow_1) (fun H locs X => ?_)
  refine lv_iconst (v := 0) hx hb dX10_neverNow_4 (by decide) ?_
  obtain ⟨u9, eu9, h⟩ := nm_x h
  refine topE eu9 ?_
  refine lv_istore_n (lv' := [(1, .int u9), (0, .ref (ad (cO GM 0)))]) hx hb dX10_neverNow_5 rfl hl (by decide) rfl (fun ls hl => ?_)
  refine lv_iconst (v := 0) hx hb dX10_neverNow_6 (by decide) ?_
  obtain ⟨u10, eu10, h⟩ := nm_x h
  refine topE eu10 ?_
  refine lv_istore_n (lv' := [(2, .int u10), (1, .int u9), (0, .ref (ad (cO GM 0)))]) hx hb dX10_neverNow_7 rfl hl (by decide) rfl (fun ls hl => ?_)
  exact L8 FU _ _ u9 u10 r8 ls X (lv_sub hl [2, 1, 0] rfl)  () h

/-! ===== X10_never ===== -/
def fX10_never (M : Mem) : Option (Int32 × Mem) :=
  (fX10_neverNow M).bind fun r1 =>
  some (r1.1, r1.2)
set_option maxHeartbeats 4000000 in
set_option maxRecDepth 100000 in
theorem kX10_never (l : Launch) (D : va_G) (ad : Nat → Nat) (cs : Nat → ClassId) (A : Nat → Prop)  (M : Mem)  (z : (Int32 × Mem)) (hz : fX10_never M = some z) : Met l yX10_never (wsU yX10_never cX10_never 1 (some .int)) (rmo 8 222) (va_Pc [.ref (ad (cO GM 0))] (Wd0 D ad cs GM A M)) (va_Qi (fun r u => (r, u) = z) (Wd0 D ad cs GM A) A) 0 0 A := by
  refine ct_i (by decide) rfl okGM (Nat.le_of_ble_eq_true rfl) ?_
  intro p e s m args below meth c Q ls F X hl RT
  have hx := F.1
  have hb := F.2.1
  have hl : lv_has ls 1 [(0, .ref (ad (cO GM 0)))] := hl
  obtain ⟨H, hH⟩ : ∃ H, H = s.heap := ⟨_, rfl⟩
  rw [← hH] at X ⊢
  obtain ⟨locs, hlocs⟩ : ∃ locs : List Loc, locs = [] := ⟨_, rfl⟩
  rw [← hlocs] at X ⊢
  clear hH hlocs
  have h := hz
  unfold fX10_never at h
  refine lv_aload_n hx hb dX10_never_0 rfl (lv_at hl 0 rfl) ?_
  obtain ⟨r1, hr1, h⟩ := bd_x h
  refine r_calli X (r_runV F X (kX10_neverNow l D ad cs A  M  _ hr1) gm_X10_280 hd_X10_neverNow ⟨Nat.le_of_ble_eq_true rfl, Nat.le_of_ble_eq_true rfl⟩ qM0 rfl rfl hl.1 rfl (Nat.le_of_ble_eq_true rfl) dX10_never_1) (fun H locs X => ?_)
  have h := sm_x h
  exact RT H locs _ _ 4 ls X h dX10_never_4

/-! ===== X10_wasBy ===== -/
def fX10_wasBy_130 (a1 : Int32) (a2 : Int32) (x3 : Int32) (x4 : Int32) (x5 : Int32) (M : Mem) : Option (Int32 × Mem) :=
  gd (inB a1 9) <|
  nm (wr M 0 5 (Int32.toNatClampNeg a1) x3) fun M1 =>
  gd (inB a1 9) <|
  nm (wr M1 0 4 (Int32.toNatClampNeg a1) x4) fun M2 =>
  some (x5, M2)
def fX10_wasBy_124 (a1 : Int32) (a2 : Int32) (x3 : Int32) (x4 : Int32) (x5 : Int32) (x6 : Int32) (M : Mem) : Option ((Int32 × Int32 × Int32 × Int32 × Mem) ⊕ (Int32 × Mem)) :=
  nm (x6 + 1 : Int32) fun u3 =>
  some (.inl (x3, x4, x5, u3, M))
def fX10_wasBy_89 (a1 : Int32) (a2 : Int32) (x3 : Int32) (x4 : Int32) (x5 : Int32) (x6 : Int32) (x7 : Int32) (M : Mem) : Option ((Int32 × Int32 × Int32 × Int32 × Int32 × Mem) ⊕ ((Int32 × Int32 × Int32 × Int32 × Mem) ⊕ (Int32 × Mem))) :=
  if (M 0 11 0) ≤ x7 then
    inr' (fX10_wasBy_124 a1 a2 x3 x4 x5 x6 M)
  else
    gd (inB x7 20) <|
    gd (inB (((20 : Int32) * x6) + x7) 200) <|
    nm (wr M 0 35 (Int32.toNatClampNeg (((20 : Int32) * x6) + x7)) (M 0 24 (Int32.toNatClampNeg x7))) fun M5 =>
    nm (x7 + 1 : Int32) fun u6 =>
    some (.inl (x3, x4, x5, x6, u6, M5))
def fX10_wasBy_83 (a1 : Int32) (a2 : Int32) (x3 : Int32) (x4 : Int32) (x6 : Int32) (v0 : Int32) (v1 : Int32) (M : Mem) : Option ((Int32 × Int32 × Int32 × Int32 × Mem) ⊕ (Int32 × Mem)) :=
  nm (v1 ||| v0 : Int32) fun u7 =>
  nm (0 : Int32) fun u8 =>
  lpO (fun st => fX10_wasBy_89 a1 a2 st.1 st.2.1 st.2.2.1 st.2.2.2.1 st.2.2.2.2.1 st.2.2.2.2.2) FU (x3, x4, u7, x6, u8, M)
def fX10_wasBy_65 (a1 : Int32) (a2 : Int32) (x3 : Int32) (x4 : Int32) (x5 : Int32) (x6 : Int32) (v0 : Int32) (v1 : Int32) (M : Mem) : Option ((Int32 × Int32 × Int32 × Int32 × Mem) ⊕ (Int32 × Mem)) :=
  gd (inB v1 9) <|
  nm (wr M 0 4 (Int32.toNatClampNeg v1) v0) fun M9 =>
  (fX10_isSeen M9).bind fun r10 =>
  (if r10.1 = 0 then
    fX10_wasBy_83 a1 a2 x3 x4 x6 0 x5 r10.2
  else
    fX10_wasBy_83 a1 a2 x3 x4 x6 ((1 : Int32) <<< (x6 &&& 31)) x5 r10.2)
def fX10_wasBy_47 (a1 : Int32) (a2 : Int32) (x3 : Int32) (x4 : Int32) (x5 : Int32) (x6 : Int32) (v0 : Int32) (v1 : Int32) (M : Mem) : Option ((Int32 × Int32 × Int32 × Int32 × Mem) ⊕ (Int32 × Mem)) :=
  gd (inB v1 9) <|
  nm (wr M 0 5 (Int32.toNatClampNeg v1) v0) fun M12 =>
  (if a2 = 1 then
    fX10_wasBy_65 a1 a2 x3 x4 x5 x6 x6 a1 M12
  else
    fX10_wasBy_65 a1 a2 x3 x4 x5 x6 x4 a1 M12)
def fX10_wasBy_25 (a1 : Int32) (a2 : Int32) (x3 : Int32) (x4 : Int32) (x5 : Int32) (x6 : Int32) (M : Mem) : Option ((Int32 × Int32 × Int32 × Int32 × Mem) ⊕ (Int32 × Mem)) :=
  if 10 ≤ x6 then
    inr' (fX10_wasBy_130 a1 a2 x3 x4 x5 M)
  else
    if a2 = 0 then
      fX10_wasBy_47 a1 a2 x3 x4 x5 x6 x6 a1 M
    else
      fX10_wasBy_47 a1 a2 x3 x4 x5 x6 x3 a1 M
def fX10_wasBy (M : Mem) (a1 : Int32) (a2 : Int32) : Option (Int32 × Mem) :=
  (fX10_asTold M).bind fun r16 =>
  gd (inB a1 9) <|
  nm (r16 0 5 (Int32.toNatClampNeg a1) : Int32) fun u17 =>
  gd (inB a1 9) <|
  nm (r16 0 4 (Int32.toNatClampNeg a1) : Int32) fun u18 =>
  nm (0 : Int32) fun u19 =>
  nm (0 : Int32) fun u20 =>
  lpO (fun st => fX10_wasBy_25 a1 a2 st.1 st.2.1 st.2.2.1 st.2.2.2.1 st.2.2.2.2) FU (u17, u18, u19, u20, r16)
set_option maxHeartbeats 4000000 in
set_option maxRecDepth 100000 in
theorem kX10_wasBy (l : Launch) (D : va_G) (ad : Nat → Nat) (cs : Nat → ClassId) (A : Nat → Prop)  (M : Mem) (a1 : Int32) (a2 : Int32) (z : (Int32 × Mem)) (hz : fX10_wasBy M a1 a2 = some z) : Met l yX10_wasBy (wsU yX10_wasBy cX10_wasBy 8 (some .int)) (rmo 7 200) (va_Pc [.ref (ad (cO GM 0)), .int a1, .int a2] (Wd0 D ad cs GM A M)) (va_Qi (fun r u => (r, u) = z) (Wd0 D ad cs GM A) A) 0 0 A := by
  refine ct_i (by decide) rfl okGM (Nat.le_of_ble_eq_true rfl) ?_
  intro p e s m args below meth c Q ls F X hl RT
  have hx := F.1
  have hb := F.2.1
  have hl : lv_has ls 8 [(0, .ref (ad (cO GM 0))), (1, .int a1), (2, .int a2)] := hl
  obtain ⟨H, hH⟩ : ∃ H, H = s.heap := ⟨_, rfl⟩
  rw [← hH] at X ⊢
  obtain ⟨locs, hlocs⟩ : ∃ locs : List Loc, locs = [] := ⟨_, rfl⟩
  rw [← hlocs] at X ⊢
  clear hH hlocs
  have J130 : ∀ (H : Heap) (locs : List Loc) (x3 : Int32) (x4 : Int32) (x5 : Int32) (M : Mem) (ls : Array Slot), Wd D ad cs GM A s H locs M → lv_has ls 8 [(0, .ref (ad (cO GM 0))), (1, .int a1), (3, .int x3), (4, .int x4), (5, .int x5)] → ∀ (_ : Unit), fX10_wasBy_130 a1 a2 x3 x4 x5 M = some z → W p l e (rmo 7 200) s m args below meth c H locs 0 0 Q (F0 m 130 ls []) := by
    intro H locs x3 x4 x5 M ls X hl  _u h
    unfold fX10_wasBy_130 at h
    refine lv_aload_n hx hb dX10_wasBy_130 rfl (lv_at hl 0 rfl) ?_
    refine gf_X10_22 F X qM0 dX10_wasBy_131 ?_
    refine lv_iload_n hx hb dX10_wasBy_134 rfl (lv_at hl 1 rfl) ?_
    refine lv_iload_n hx hb dX10_wasBy_135 rfl (lv_at hl 2 rfl) ?_
    obtain ⟨hin, h⟩ := gd_x h
    obtain ⟨M1, eM1, h⟩ := nm_x h
    refine r_iast F X (ar_X10_5 qM0) hin dX10_wasBy_136 (fun H locs X => ?_)
    have X := Wd_eq eM1 X
    refine lv_aload_n hx hb dX10_wasBy_137 rfl (lv_at hl 0 rfl) ?_
    refine gf_X10_19 F X qM0 dX10_wasBy_138 ?_
    refine lv_iload_n hx hb dX10_wasBy_141 rfl (lv_at hl 1 rfl) ?_
    refine lv_iload hx hb dX10_wasBy_142 (lv_at hl 3 rfl) ?_
    obtain ⟨hin, h⟩ := gd_x h
    obtain ⟨M2, eM2, h⟩ := nm_x h
    refine r_iast F X (ar_X10_4 qM0) hin dX10_wasBy_144 (fun H locs X => ?_)
    have X := Wd_eq eM2 X
    refine lv_iload hx hb dX10_wasBy_145 (lv_at hl 4 rfl) ?_
    have h := sm_x h
    exact RT H locs _ _ 147 ls X h dX10_wasBy_147
  have L25 : ∀ (n : Nat) (H : Heap) (locs : List Loc) (x3 : Int32) (x4 : Int32) (x5 : Int32) (x6 : Int32) (M : Mem) (ls : Array Slot), Wd D ad cs GM A s H locs M → lv_has ls 8 [(0, .ref (ad (cO GM 0))), (1, .int a1), (2, .int a2), (3, .int x3), (4, .int x4), (5, .int x5), (6, .int x6)] → ∀ (_ : Unit), lpO (fun st => fX10_wasBy_25 a1 a2 st.1 st.2.1 st.2.2.1 st.2.2.2.1 st.2.2.2.2) n (x3, x4, x5, x6, M) = some z → W p l e (rmo 7 200) s m args below meth c H locs 0 0 Q (F0 m 25 ls []) := by
    intro n
    induction n with
    | zero =>
      intro H locs x3 x4 x5 x6 M ls X hl  yy h
      exact lp_0 h
    | succ n1 ih25 =>
      intro H locs x3 x4 x5 x6 M ls X hl  _u h
      obtain ⟨y1, h, hk1⟩ := lp_x h
      have J124 : ∀ (H : Heap) (locs : List Loc) (x3 : Int32) (x4 : Int32) (x5 : Int32) (x6 : Int32) (M : Mem) (ls : Array Slot), Wd D ad cs GM A s H locs M → lv_has ls 8 [(0, .ref (ad (cO GM 0))), (1, .int a1), (2, .int a2), (3, .int x3), (4, .int x4), (5, .int x5), (6, .int x6)] → ∀ (y1 : ((Int32 × Int32 × Int32 × Int32 × Mem) ⊕ (Int32 × Mem))), fX10_wasBy_124 a1 a2 x3 x4 x5 x6 M = some y1 → lpK (fun st => fX10_wasBy_25 a1 a2 st.1 st.2.1 st.2.2.1 st.2.2.2.1 st.2.2.2.2) n1 y1 = some z → W p l e (rmo 7 200) s m args below meth c H locs 0 0 Q (F0 m 124 ls []) := by
        intro H locs x3 x4 x5 x6 M ls X hl  y1 h hk1
        unfold fX10_wasBy_124 at h
        obtain ⟨u3, eu3, h⟩ := nm_x h
        refine lv_iinc (v := u3) (lv' := [(6, .int u3), (0, .ref (ad (cO GM 0))), (1, .int a1), (2, .int a2), (3, .int x3), (4, .int x4), (5, .int x5)]) hx hb dX10_wasBy_124 hl (k := 6) rfl (by rw [eu3]; rfl) (by decide) rfl (fun ls hl => ?_)
        refine lv_goto (tgt := 25) hx hb dX10_wasBy_127 (by decide) ?_
        rw [← sm_x h] at hk1
        exact ih25 _ _ x3 x4 x5 u3 M ls X (lv_sub hl [1, 2, 3, 4, 5, 6, 0] rfl)  () hk1
      have L89 : ∀ (n : Nat) (H : Heap) (locs : List Loc) (x3 : Int32) (x4 : Int32) (x5 : Int32) (x6 : Int32) (x7 : Int32) (M : Mem) (ls : Array Slot), Wd D ad cs GM A s H locs M → lv_has ls 8 [(0, .ref (ad (cO GM 0))), (1, .int a1), (2, .int a2), (3, .int x3), (4, .int x4), (5, .int x5), (6, .int x6), (7, .int x7)] → ∀ (y1 : ((Int32 × Int32 × Int32 × Int32 × Mem) ⊕ (Int32 × Mem))), lpO (fun st => fX10_wasBy_89 a1 a2 st.1 st.2.1 st.2.2.1 st.2.2.2.1 st.2.2.2.2.1 st.2.2.2.2.2) n (x3, x4, x5, x6, x7, M) = some y1 → lpK (fun st => fX10_wasBy_25 a1 a2 st.1 st.2.1 st.2.2.1 st.2.2.2.1 st.2.2.2.2) n1 y1 = some z → W p l e (rmo 7 200) s m args below meth c H locs 0 0 Q (F0 m 89 ls []) := by
        intro n
        induction n with
        | zero =>
          intro H locs x3 x4 x5 x6 x7 M ls X hl  yy h hk1
          exact lp_0 h
        | succ n2 ih89 =>
          intro H locs x3 x4 x5 x6 x7 M ls X hl  y1 h hk1
          obtain ⟨y2, h, hk2⟩ := lp_x h
          unfold fX10_wasBy_89 at h
          refine lv_iload hx hb dX10_wasBy_89 (lv_at hl 7 rfl) ?_
          refine lv_aload_n hx hb dX10_wasBy_91 rfl (lv_at hl 0 rfl) ?_
          refine gf_X10_161 F X qM0 dX10_wasBy_92 ?_
          refine lv_icmp_ge (tgt := 124) hx hb dX10_wasBy_95 (by decide) (fun c4 => ?_) (fun c4 => ?_)
          · have h := it_p h c4
            obtain ⟨_, h, ey⟩ := inr_x h
            rw [ey] at hk2
            have h := h.trans (congrArg some (sm_x hk2))
            exact J124 _ _ x3 x4 x5 x6 M ls X (lv_sub hl [0, 1, 2, 3, 4, 5, 6] rfl)  _ h hk1
          · have h := it_n h c4
            refine lv_aload_n hx hb dX10_wasBy_98 rfl (lv_at hl 0 rfl) ?_
            refine gf_X10_76 F X qM0 dX10_wasBy_99 ?_
            refine lv_bipush (v := 20) hx hb dX10_wasBy_102 (by decide) ?_
            refine lv_iload hx hb dX10_wasBy_104 (lv_at hl 6 rfl) ?_
            refine lv_imul hx hb dX10_wasBy_106 ?_
            refine lv_iload hx hb dX10_wasBy_107 (lv_at hl 7 rfl) ?_
            refine lv_iadd hx hb dX10_wasBy_109 ?_
            refine lv_aload_n hx hb dX10_wasBy_110 rfl (lv_at hl 0 rfl) ?_
            refine gf_X10_46 F X qM0 dX10_wasBy_111 ?_
            refine lv_iload hx hb dX10_wasBy_114 (lv_at hl 7 rfl) ?_
            obtain ⟨hin, h⟩ := gd_x h
            refine r_iald F X (ar_X10_24 qM0) hin dX10_wasBy_116 ?_
            obtain ⟨hin, h⟩ := gd_x h
            obtain ⟨M5, eM5, h⟩ := nm_x h
            refine r_iast F X (ar_X10_35 qM0) hin dX10_wasBy_117 (fun H locs X => ?_)
            have X := Wd_eq eM5 X
            obtain ⟨u6, eu6, h⟩ := nm_x h
            refine lv_iinc (v := u6) (lv' := [(7, .int u6), (0, .ref (ad (cO GM 0))), (1, .int a1), (2, .int a2), (3, .int x3), (4, .int x4), (5, .int x5), (6, .int x6)]) hx hb dX10_wasBy_118 hl (k := 7) rfl (by rw [eu6]; rfl) (by decide) rfl (fun ls hl => ?_)
            refine lv_goto (tgt := 89) hx hb dX10_wasBy_121 (by decide) ?_
            rw [← sm_x h] at hk2
            exact ih89 _ _ x3 x4 x5 x6 u6 M5 ls X (lv_sub hl [1, 2, 3, 4, 5, 6, 7, 0] rfl)  _ hk2 hk1
      have J83 : ∀ (H : Heap) (locs : List Loc) (x3 : Int32) (x4 : Int32) (x6 : Int32) (v0 : Int32) (v1 : Int32) (M : Mem) (ls : Array Slot), Wd D ad cs GM A s H locs M → lv_has ls 8 [(0, .ref (ad (cO GM 0))), (1, .int a1), (2, .int a2), (3, .int x3), (4, .int x4), (6, .int x6)] → ∀ (y1 : ((Int32 × Int32 × Int32 × Int32 × Mem) ⊕ (Int32 × Mem))), fX10_wasBy_83 a1 a2 x3 x4 x6 v0 v1 M = some y1 → lpK (fun st => fX10_wasBy_25 a1 a2 st.1 st.2.1 st.2.2.1 st.2.2.2.1 st.2.2.2.2) n1 y1 = some z → W p l e (rmo 7 200) s m args below meth c H locs 0 0 Q (F0 m 83 ls [.int v0, .int v1]) := by
        intro H locs x3 x4 x6 v0 v1 M ls X hl  y1 h hk1
        unfold fX10_wasBy_83 at h
        refine lv_ior hx hb dX10_wasBy_83 ?_
        obtain ⟨u7, eu7, h⟩ := nm_x h
        refine topE eu7 ?_
        refine lv_istore (lv' := [(5, .int u7), (0, .ref (ad (cO GM 0))), (1, .int a1), (2, .int a2), (3, .int x3), (4, .int x4), (6, .int x6)]) hx hb dX10_wasBy_84 hl (by decide) rfl (fun ls hl => ?_)
        refine lv_iconst (v := 0) hx hb dX10_wasBy_86 (by decide) ?_
        obtain ⟨u8, eu8, h⟩ := nm_x h
        refine topE eu8 ?_
        refine lv_istore (lv' := [(7, .int u8), (5, .int u7), (0, .ref (ad (cO GM 0))), (1, .int a1), (2, .int a2), (3, .int x3), (4, .int x4), (6, .int x6)]) hx hb dX10_wasBy_87 hl (by decide) rfl (fun ls hl => ?_)
        exact L89 FU _ _ x3 x4 u7 x6 u8 M ls X (lv_sub hl [2, 3, 4, 5, 6, 1, 7, 0] rfl)  _ h hk1
      have J65 : ∀ (H : Heap) (locs : List Loc) (x3 : Int32) (x4 : Int32) (x5 : Int32) (x6 : Int32) (v0 : Int32) (v1 : Int32) (M : Mem) (ls : Array Slot), Wd D ad cs GM A s H locs M → lv_has ls 8 [(0, .ref (ad (cO GM 0))), (1, .int a1), (2, .int a2), (3, .int x3), (4, .int x4), (5, .int x5), (6, .int x6)] → ∀ (y1 : ((Int32 × Int32 × Int32 × Int32 × Mem) ⊕ (Int32 × Mem))), fX10_wasBy_65 a1 a2 x3 x4 x5 x6 v0 v1 M = some y1 → lpK (fun st => fX10_wasBy_25 a1 a2 st.1 st.2.1 st.2.2.1 st.2.2.2.1 st.2.2.2.2) n1 y1 = some z → W p l e (rmo 7 200) s m args below meth c H locs 0 0 Q (F0 m 65 ls [.int v0, .int v1, .ref (ad (cO GM 0 + 4))]) := by
        intro H locs x3 x4 x5 x6 v0 v1 M ls X hl  y1 h hk1
        unfold fX10_wasBy_65 at h
        obtain ⟨hin, h⟩ := gd_x h
        obtain ⟨M9, eM9, h⟩ := nm_x h
        refine r_iast F X (ar_X10_4 qM0) hin dX10_wasBy_65 (fun H locs X => ?_)
        have X := Wd_eq eM9 X
        refine lv_iload hx hb dX10_wasBy_66 (lv_at hl 5 rfl) ?_
        refine lv_aload_n hx hb dX10_wasBy_68 rfl (lv_at hl 0 rfl) ?_
        obtain ⟨r10, hr10, h⟩ := bd_x h
        refine r_calli X (r_runV F X (kX10_isSeen l D ad cs A  M9  _ hr10) gm_X10_277 hd_X10_isSeen ⟨Nat.le_of_ble_eq_true rfl, Nat.le_of_ble_eq_true rfl⟩ qM0 rfl rfl hl.1 rfl (Nat.le_of_ble_eq_true rfl) dX10_wasBy_69) (fun H locs X => ?_)
        refine lv_if_eq (tgt := 82) hx hb dX10_wasBy_72 (by decide) (fun c11 => ?_) (fun c11 => ?_)
        · have h := it_p h c11
          refine lv_iconst (v := 0) hx hb dX10_wasBy_82 (by decide) ?_
          exact J83 _ _ x3 x4 x6 0 x5 r10.2 ls X (lv_sub hl [0, 1, 2, 3, 4, 6] rfl)  _ h hk1
        · have h := it_n h c11
          refine lv_iconst (v := 1) hx hb dX10_wasBy_75 (by decide) ?_
          refine lv_iload hx hb dX10_wasBy_76 (lv_at hl 6 rfl) ?_
          refine lv_ishl hx hb dX10_wasBy_78 ?_
          refine lv_goto (tgt := 83) hx hb dX10_wasBy_79 (by decide) ?_
          exact J83 _ _ x3 x4 x6 ((1 : Int32) <<< (x6 &&& 31)) x5 r10.2 ls X (lv_sub hl [0, 1, 2, 3, 4, 6] rfl)  _ h hk1
      have J47 : ∀ (H : Heap) (locs : List Loc) (x3 : Int32) (x4 : Int32) (x5 : Int32) (x6 : Int32) (v0 : Int32) (v1 : Int32) (M : Mem) (ls : Array Slot), Wd D ad cs GM A s H locs M → lv_has ls 8 [(0, .ref (ad (cO GM 0))), (1, .int a1), (2, .int a2), (3, .int x3), (4, .int x4), (5, .int x5), (6, .int x6)] → ∀ (y1 : ((Int32 × Int32 × Int32 × Int32 × Mem) ⊕ (Int32 × Mem))), fX10_wasBy_47 a1 a2 x3 x4 x5 x6 v0 v1 M = some y1 → lpK (fun st => fX10_wasBy_25 a1 a2 st.1 st.2.1 st.2.2.1 st.2.2.2.1 st.2.2.2.2) n1 y1 = some z → W p l e (rmo 7 200) s m args below meth c H locs 0 0 Q (F0 m 47 ls [.int v0, .int v1, .ref (ad (cO GM 0 + 5))]) := by
        intro H locs x3 x4 x5 x6 v0 v1 M ls X hl  y1 h hk1
        unfold fX10_wasBy_47 at h
        obtain ⟨hin, h⟩ := gd_x h
        obtain ⟨M12, eM12, h⟩ := nm_x h
        refine r_iast F X (ar_X10_5 qM0) hin dX10_wasBy_47 (fun H locs X => ?_)
        have X := Wd_eq eM12 X
        refine lv_aload_n hx hb dX10_wasBy_48 rfl (lv_at hl 0 rfl) ?_
        refine gf_X10_19 F X qM0 dX10_wasBy_49 ?_
        refine lv_iload_n hx hb dX10_wasBy_52 rfl (lv_at hl 1 rfl) ?_
        refine lv_iload_n hx hb dX10_wasBy_53 rfl (lv_at hl 2 rfl) ?_
        refine lv_iconst (v := 1) hx hb dX10_wasBy_54 (by decide) ?_
        refine lv_icmp_ne (tgt := 63) hx hb dX10_wasBy_55 (by decide) (fun c13 => ?_) (fun c13 => ?_)
        · have h := it_n h c13
          refine lv_iload hx hb dX10_wasBy_63 (lv_at hl 4 rfl) ?_
          exact J65 _ _ x3 x4 x5 x6 x4 a1 M12 ls X (lv_sub hl [0, 1, 2, 3, 4, 5, 6] rfl)  _ h hk1
        · have h := it_p h c13
          refine lv_iload hx hb dX10_wasBy_58 (lv_at hl 6 rfl) ?_
          refine lv_goto (tgt := 65) hx hb dX10_wasBy_60 (by decide) ?_
          exact J65 _ _ x3 x4 x5 x6 x6 a1 M12 ls X (lv_sub hl [0, 1, 2, 3, 4, 5, 6] rfl)  _ h hk1
      unfold fX10_wasBy_25 at h
      refine lv_iload hx hb dX10_wasBy_25 (lv_at hl 6 rfl) ?_
      refine lv_bipush (v := 10) hx hb dX10_wasBy_27 (by decide) ?_
      refine lv_icmp_ge (tgt := 130) hx hb dX10_wasBy_29 (by decide) (fun c14 => ?_) (fun c14 => ?_)
      · have h := it_p h c14
        obtain ⟨_, h, ey⟩ := inr_x h
        rw [ey] at hk1
        have h := h.trans (congrArg some (sm_x hk1))
        exact J130 _ _ x3 x4 x5 M ls X (lv_sub hl [0, 1, 3, 4, 5] rfl)  () h
      · have h := it_n h c14
        refine lv_aload_n hx hb dX10_wasBy_32 rfl (lv_at hl 0 rfl) ?_
        refine gf_X10_22 F X qM0 dX10_wasBy_33 ?_
        refine lv_iload_n hx hb dX10_wasBy_36 rfl (lv_at hl 1 rfl) ?_
        refine lv_iload_n hx hb dX10_wasBy_37 rfl (lv_at hl 2 rfl) ?_
        refine lv_if_ne (tgt := 46) hx hb dX10_wasBy_38 (by decide) (fun c15 => ?_) (fun c15 => ?_)
        · have h := it_n h c15
          refine lv_iload_n hx hb dX10_wasBy_46 rfl (lv_at hl 3 rfl) ?_
          exact J47 _ _ x3 x4 x5 x6 x3 a1 M ls X (lv_sub hl [0, 1, 2, 3, 4, 5, 6] rfl)  _ h hk1
        · have h := it_p h c15
          refine lv_iload hx hb dX10_wasBy_41 (lv_at hl 6 rfl) ?_
          refine lv_goto (tgt := 47) hx hb dX10_wasBy_43 (by decide) ?_
          exact J47 _ _ x3 x4 x5 x6 x6 a1 M ls X (lv_sub hl [0, 1, 2, 3, 4, 5, 6] rfl)  _ h hk1
  have h := hz
  unfold fX10_wasBy at h
  refine lv_aload_n hx hb dX10_wasBy_0 rfl (lv_at hl 0 rfl) ?_
  obtain ⟨r16, hr16, h⟩ := bd_x h
  refine r_callv X (r_runV F X (kX10_asTold l D ad cs A  M  _ hr16) gm_X10_209 hd_X10_asTold ⟨Nat.le_of_ble_eq_true rfl, Nat.le_of_ble_eq_true rfl⟩ qM0 rfl rfl hl.1 rfl (Nat.le_of_ble_eq_true rfl) dX10_wasBy_1) (fun H locs X => ?_)
  refine lv_aload_n hx hb dX10_wasBy_4 rfl (lv_at hl 0 rfl) ?_
  refine gf_X10_22 F X qM0 dX10_wasBy_5 ?_
  refine lv_iload_n hx hb dX10_wasBy_8 rfl (lv_at hl 1 rfl) ?_
  obtain ⟨hin, h⟩ := gd_x h
  refine r_iald F X (ar_X10_5 qM0) hin dX10_wasBy_9 ?_
  obtain ⟨u17, eu17, h⟩ := nm_x h
  refine topE eu17 ?_
  refine lv_istore_n (lv' := [(3, .int u17), (0, .ref (ad (cO GM 0))), (1, .int a1), (2, .int a2)]) hx hb dX10_wasBy_10 rfl hl (by decide) rfl (fun ls hl => ?_)
  refine lv_aload_n hx hb dX10_wasBy_11 rfl (lv_at hl 1 rfl) ?_
  refine gf_X10_19 F X qM0 dX10_wasBy_12 ?_
  refine lv_iload_n hx hb dX10_wasBy_15 rfl (lv_at hl 2 rfl) ?_
  obtain ⟨hin, h⟩ := gd_x h
  refine r_iald F X (ar_X10_4 qM0) hin dX10_wasBy_16 ?_
  obtain ⟨u18, eu18, h⟩ := nm_x h
  refine topE eu18 ?_
  refine lv_istore (lv' := [(4, .int u18), (3, .int u17), (0, .ref (ad (cO GM 0))), (1, .int a1), (2, .int a2)]) hx hb dX10_wasBy_17 hl (by decide) rfl (fun ls hl => ?_)
  refine lv_iconst (v := 0) hx hb dX10_wasBy_19 (by decide) ?_
  obtain ⟨u19, eu19, h⟩ := nm_x h
  refine topE eu19 ?_
  refine lv_istore (lv' := [(5, .int u19), (4, .int u18), (3, .int u17), (0, .ref (ad (cO GM 0))), (1, .int a1), (2, .int a2)]) hx hb dX10_wasBy_20 hl (by decide) rfl (fun ls hl => ?_)
  refine lv_iconst (v := 0) hx hb dX10_wasBy_22 (by decide) ?_
  obtain ⟨u20, eu20, h⟩ := nm_x h
  refine topE eu20 ?_
  refine lv_istore (lv' := [(6, .int u20), (5, .int u19), (4, .int u18), (3, .int u17), (0, .ref (ad (cO GM 0))), (1, .int a1), (2, .int a2)]) hx hb dX10_wasBy_23 hl (by decide) rfl (fun ls hl => ?_)
  exact L25 FU _ _ u17 u18 u19 u20 r16 ls X (lv_sub hl [4, 5, 6, 3, 2, 1, 0] rfl)  () h

/-! ===== X10_was ===== -/
def fX10_was (M : Mem) (a1 : Int32) (a2 : Int32) : Option (Int32 × Mem) :=
  (fX10_isHeir M a1).bind fun r1 =>
  (if r1.1 = 0 then
    some ((-2), r1.2)
  else
    (fX10_in a2 0 1).bind fun r3 =>
    (if r3 = 0 then
      some ((-2), r1.2)
    else
      (fX10_wasBy r1.2 a1 a2).bind fun r5 =>
      some (r5.1, r5.2)))
set_option maxHeartbeats 4000000 in
set_option maxRecDepth 100000 in
theorem kX10_was (l : Launch) (D : va_G) (ad : Nat → Nat) (cs : Nat → ClassId) (A : Nat → Prop)  (M : Mem) (a1 : Int32) (a2 : Int32) (z : (Int32 × Mem)) (hz : fX10_was M a1 a2 = some z) : Met l yX10_was (wsU yX10_was cX10_was 3 (some .int)) (rmo 8 227) (va_Pc [.ref (ad (cO GM 0)), .int a1, .int a2] (Wd0 D ad cs GM A M)) (va_Qi (fun r u => (r, u) = z) (Wd0 D ad cs GM A) A) 0 0 A := by
  refine ct_i (by decide) rfl okGM (Nat.le_of_ble_eq_true rfl) ?_
  intro p e s m args below meth c Q ls F X hl RT
  have hx := F.1
  have hb := F.2.1
  have hl : lv_has ls 3 [(0, .ref (ad (cO GM 0))), (1, .int a1), (2, .int a2)] := hl
  obtain ⟨H, hH⟩ : ∃ H, H = s.heap := ⟨_, rfl⟩
  rw [← hH] at X ⊢
  obtain ⟨locs, hlocs⟩ : ∃ locs : List Loc, locs = [] := ⟨_, rfl⟩
  rw [← hlocs] at X ⊢
  clear hH hlocs
  have h := hz
  unfold fX10_was at h
  refine lv_aload_n hx hb dX10_was_0 rfl (lv_at hl 0 rfl) ?_
  refine lv_iload_n hx hb dX10_was_1 rfl (lv_at hl 1 rfl) ?_
  obtain ⟨r1, hr1, h⟩ := bd_x h
  refine r_calli X (r_runV F X (kX10_isHeir l D ad cs A  M a1 _ hr1) gm_X10_133 hd_X10_isHeir ⟨Nat.le_of_ble_eq_true rfl, Nat.le_of_ble_eq_true rfl⟩ qM0 rfl rfl hl.1 rfl (Nat.le_of_ble_eq_true rfl) dX10_was_2) (fun H locs X => ?_)
  refine lv_if_eq (tgt := 26) hx hb dX10_was_5 (by decide) (fun c2 => ?_) (fun c2 => ?_)
  · have h := it_p h c2
    refine lv_bipush (v := (-2)) hx hb dX10_was_26 (by decide) ?_
    have h := sm_x h
    exact RT H locs _ _ 28 ls X h dX10_was_28
  · have h := it_n h c2
    refine lv_iload_n hx hb dX10_was_8 rfl (lv_at hl 2 rfl) ?_
    refine lv_iconst (v := 0) hx hb dX10_was_9 (by decide) ?_
    refine lv_iconst (v := 1) hx hb dX10_was_10 (by decide) ?_
    obtain ⟨r3, hr3, h⟩ := bd_x h
    refine r_calli0 X (r_runS F X (kX10_in l D ad cs A  r1.2 a2 0 1 _ hr3) gm_X10_97 hd_X10_in ⟨Nat.le_of_ble_eq_true rfl, Nat.le_of_ble_eq_true rfl⟩ rfl hl.1 rfl (Nat.le_of_ble_eq_true rfl) dX10_was_11) (fun H locs X => ?_)
    refine lv_if_eq (tgt := 26) hx hb dX10_was_14 (by decide) (fun c4 => ?_) (fun c4 => ?_)
    · have h := it_p h c4
      refine lv_bipush (v := (-2)) hx hb dX10_was_26 (by decide) ?_
      have h := sm_x h
      exact RT H locs _ _ 28 ls X h dX10_was_28
    · have h := it_n h c4
      refine lv_aload_n hx hb dX10_was_17 rfl (lv_at hl 0 rfl) ?_
      refine lv_iload_n hx hb dX10_was_18 rfl (lv_at hl 1 rfl) ?_
      refine lv_iload_n hx hb dX10_was_19 rfl (lv_at hl 2 rfl) ?_
      obtain ⟨r5, hr5, h⟩ := bd_x h
      refine r_calli X (r_runV F X (kX10_wasBy l D ad cs A  r1.2 a1 a2 _ hr5) gm_X10_283 hd_X10_wasBy ⟨Nat.le_of_ble_eq_true rfl, Nat.le_of_ble_eq_true rfl⟩ qM0 rfl rfl hl.1 rfl (Nat.le_of_ble_eq_true rfl) dX10_was_20) (fun H locs X => ?_)
      refine lv_goto (tgt := 28) hx hb dX10_was_23 (by decide) ?_
      have h := sm_x h
      exact RT H locs _ _ 28 ls X h dX10_was_28

/-! ===== X10_askOf ===== -/
def fX10_askOf_178 (a1 : Int32) (x2 : Int32) (x3 : Int32) (x5 : Int32) (v0 : Int32) (M : Mem) : Option ((Int32 × Int32 × Int32 × Int32 × Mem) ⊕ (Int32 × Mem)) :=
  nm (v0 : Int32) fun u1 =>
  nm (x5 + 1 : Int32) fun u2 =>
  some (.inl (x2, x3, u1, u2, M))
def fX10_askOf_165 (a1 : Int32) (x2 : Int32) (x4 : Int32) (x5 : Int32) (x6 : Int32) (x7 : Int32) (v0 : Int32) (M : Mem) : Option ((Int32 × Int32 × Int32 × Int32 × Mem) ⊕ (Int32 × Mem)) :=
  nm (v0 : Int32) fun u3 =>
  (if x7 = 0 then
    fX10_askOf_178 a1 x2 u3 x5 x4 M
  else
    fX10_askOf_178 a1 x2 u3 x5 x6 M)
def fX10_askOf_152 (a1 : Int32) (x2 : Int32) (x3 : Int32) (x4 : Int32) (x5 : Int32) (x6 : Int32) (v0 : Int32) (M : Mem) : Option ((Int32 × Int32 × Int32 × Int32 × Mem) ⊕ (Int32 × Mem)) :=
  nm (v0 : Int32) fun u5 =>
  (if u5 = 0 then
    fX10_askOf_165 a1 x2 x4 x5 x6 u5 x3 M
  else
    fX10_askOf_165 a1 x2 x4 x5 x6 u5 x5 M)
def fX10_askOf_147 (a1 : Int32) (x2 : Int32) (x3 : Int32) (x4 : Int32) (x5 : Int32) (x6 : Int32) (M : Mem) : Option ((Int32 × Int32 × Int32 × Int32 × Mem) ⊕ (Int32 × Mem)) :=
  fX10_askOf_152 a1 x2 x3 x4 x5 x6 1 M
def fX10_askOf_135 (a1 : Int32) (x2 : Int32) (x3 : Int32) (x4 : Int32) (x5 : Int32) (x6 : Int32) (M : Mem) : Option ((Int32 × Int32 × Int32 × Int32 × Mem) ⊕ (Int32 × Mem)) :=
  if x3 = (-1) then
    fX10_askOf_147 a1 x2 x3 x4 x5 x6 M
  else
    if x4 ≤ x6 then
      fX10_askOf_152 a1 x2 x3 x4 x5 x6 0 M
    else
      fX10_askOf_147 a1 x2 x3 x4 x5 x6 M
def fX10_askOf_127 (a1 : Int32) (x2 : Int32) (x3 : Int32) (x4 : Int32) (x5 : Int32) (x7 : Int32) (v0 : Int32) (M : Mem) : Option ((Int32 × Int32 × Int32 × Int32 × Int32 × Int32 × Mem) ⊕ ((Int32 × Int32 × Int32 × Int32 × Mem) ⊕ (Int32 × Mem))) :=
  nm (v0 : Int32) fun u9 =>
  nm (x7 + 1 : Int32) fun u10 =>
  some (.inl (x2, x3, x4, x5, u9, u10, M))
def fX10_askOf_113 (a1 : Int32) (x2 : Int32) (x3 : Int32) (x4 : Int32) (x5 : Int32) (x6 : Int32) (x7 : Int32) (x8 : Int32) (M : Mem) : Option ((Int32 × Int32 × Int32 × Int32 × Int32 × Int32 × Mem) ⊕ ((Int32 × Int32 × Int32 × Int32 × Mem) ⊕ (Int32 × Mem))) :=
  if x8 ≤ x6 then
    fX10_askOf_127 a1 x2 x3 x4 x5 x7 x6 M
  else
    fX10_askOf_127 a1 x2 x3 x4 x5 x7 x8 M
def fX10_askOf_104 (a1 : Int32) (x2 : Int32) (x3 : Int32) (x4 : Int32) (x5 : Int32) (x6 : Int32) (x7 : Int32) (x9 : Int32) (v0 : Int32) (v1 : Int32) (M : Mem) : Option ((Int32 × Int32 × Int32 × Int32 × Int32 × Int32 × Int32 × Int32 × Mem) ⊕ ((Int32 × Int32 × Int32 × Int32 × Int32 × Int32 × Mem) ⊕ ((Int32 × Int32 × Int32 × Int32 × Mem) ⊕ (Int32 × Mem)))) :=
  nm (v1 + v0 : Int32) fun u12 =>
  nm (x9 + 1 : Int32) fun u13 =>
  some (.inl (x2, x3, x4, x5, x6, x7, u12, u13, M))
def fX10_askOf_103 (a1 : Int32) (x2 : Int32) (x3 : Int32) (x4 : Int32) (x5 : Int32) (x6 : Int32) (x7 : Int32) (x9 : Int32) (v0 : Int32) (M : Mem) : Option ((Int32 × Int32 × Int32 × Int32 × Int32 × Int32 × Int32 × Int32 × Mem) ⊕ ((Int32 × Int32 × Int32 × Int32 × Int32 × Int32 × Mem) ⊕ ((Int32 × Int32 × Int32 × Int32 × Mem) ⊕ (Int32 × Mem)))) :=
  fX10_askOf_104 a1 x2 x3 x4 x5 x6 x7 x9 0 v0 M
def fX10_askOf_43 (a1 : Int32) (x2 : Int32) (x3 : Int32) (x4 : Int32) (x5 : Int32) (x6 : Int32) (x7 : Int32) (x8 : Int32) (x9 : Int32) (M : Mem) : Option ((Int32 × Int32 × Int32 × Int32 × Int32 × Int32 × Int32 × Int32 × Mem) ⊕ ((Int32 × Int32 × Int32 × Int32 × Int32 × Int32 × Mem) ⊕ ((Int32 × Int32 × Int32 × Int32 × Mem) ⊕ (Int32 × Mem)))) :=
  if 10 ≤ x9 then
    inr' (fX10_askOf_113 a1 x2 x3 x4 x5 x6 x7 x8 M)
  else
    (fX10_isIn x2 x7).bind fun r15 =>
    (if r15 = 0 then
      fX10_askOf_103 a1 x2 x3 x4 x5 x6 x7 x9 x8 M
    else
      (fX10_isIn x2 x9).bind fun r17 =>
      (if r17 = 0 then
        fX10_askOf_103 a1 x2 x3 x4 x5 x6 x7 x9 x8 M
      else
        gd (inB (((20 : Int32) * x7) + x5) 200) <|
        gd (inB (((20 : Int32) * x9) + x5) 200) <|
        (if (M 0 35 (Int32.toNatClampNeg (((20 : Int32) * x7) + x5))) = (M 0 35 (Int32.toNatClampNeg (((20 : Int32) * x9) + x5))) then
          fX10_askOf_104 a1 x2 x3 x4 x5 x6 x7 x9 1 x8 M
        else
          fX10_askOf_103 a1 x2 x3 x4 x5 x6 x7 x9 x8 M)))
def fX10_askOf_30 (a1 : Int32) (x2 : Int32) (x3 : Int32) (x4 : Int32) (x5 : Int32) (x6 : Int32) (x7 : Int32) (M : Mem) : Option ((Int32 × Int32 × Int32 × Int32 × Int32 × Int32 × Mem) ⊕ ((Int32 × Int32 × Int32 × Int32 × Mem) ⊕ (Int32 × Mem))) :=
  if 10 ≤ x7 then
    inr' (fX10_askOf_135 a1 x2 x3 x4 x5 x6 M)
  else
    nm (0 : Int32) fun u21 =>
    nm (0 : Int32) fun u22 =>
    lpO (fun st => fX10_askOf_43 a1 st.1 st.2.1 st.2.2.1 st.2.2.2.1 st.2.2.2.2.1 st.2.2.2.2.2.1 st.2.2.2.2.2.2.1 st.2.2.2.2.2.2.2.1 st.2.2.2.2.2.2.2.2) FU (x2, x3, x4, x5, x6, x7, u21, u22, M)
def fX10_askOf_15 (a1 : Int32) (x2 : Int32) (x3 : Int32) (x4 : Int32) (x5 : Int32) (M : Mem) : Option ((Int32 × Int32 × Int32 × Int32 × Mem) ⊕ (Int32 × Mem)) :=
  if (M 0 11 0) ≤ x5 then
    some (.inr (x3, M))
  else
    nm (0 : Int32) fun u24 =>
    nm (0 : Int32) fun u25 =>
    lpO (fun st => fX10_askOf_30 a1 st.1 st.2.1 st.2.2.1 st.2.2.2.1 st.2.2.2.2.1 st.2.2.2.2.2.1 st.2.2.2.2.2.2) FU (x2, x3, x4, x5, u24, u25, M)
def fX10_askOf (M : Mem) (a1 : Int32) : Option (Int32 × Mem) :=
  (fX10_wasBy M a1 0).bind fun r26 =>
  nm (r26.1 : Int32) fun u27 =>
  nm ((-1) : Int32) fun u28 =>
  nm (0 : Int32) fun u29 =>
  nm (0 : Int32) fun u30 =>
  lpO (fun st => fX10_askOf_15 a1 st.1 st.2.1 st.2.2.1 st.2.2.2.1 st.2.2.2.2) FU (u27, u28, u29, u30, r26.2)
set_option maxHeartbeats 4000000 in
set_option maxRecDepth 100000 in
theorem kX10_askOf (l : Launch) (D : va_G) (ad : Nat → Nat) (cs : Nat → ClassId) (A : Nat → Prop)  (M : Mem) (a1 : Int32) (z : (Int32 × Mem)) (hz : fX10_askOf M a1 = some z) : Met l yX10_askOf (wsU yX10_askOf cX10_askOf 10 (some .int)) (rmo 8 227) (va_Pc [.ref (ad (cO GM 0)), .int a1] (Wd0 D ad cs GM A M)) (va_Qi (fun r u => (r, u) = z) (Wd0 D ad cs GM A) A) 0 0 A := by
  refine ct_i (by decide) rfl okGM (Nat.le_of_ble_eq_true rfl) ?_
  intro p e s m args below meth c Q ls F X hl RT
  have hx := F.1
  have hb := F.2.1
  have hl : lv_has ls 10 [(0, .ref (ad (cO GM 0))), (1, .int a1)] := hl
  obtain ⟨H, hH⟩ : ∃ H, H = s.heap := ⟨_, rfl⟩
  rw [← hH] at X ⊢
  obtain ⟨locs, hlocs⟩ : ∃ locs : List Loc, locs = [] := ⟨_, rfl⟩
  rw [← hlocs] at X ⊢
  clear hH hlocs
  have L15 : ∀ (n : Nat) (H : Heap) (locs : List Loc) (x2 : Int32) (x3 : Int32) (x4 : Int32) (x5 : Int32) (M : Mem) (ls : Array Slot), Wd D ad cs GM A s H locs M → lv_has ls 10 [(0, .ref (ad (cO GM 0))), (2, .int x2), (3, .int x3), (4, .int x4), (5, .int x5)] → ∀ (_ : Unit), lpO (fun st => fX10_askOf_15 a1 st.1 st.2.1 st.2.2.1 st.2.2.2.1 st.2.2.2.2) n (x2, x3, x4, x5, M) = some z → W p l e (rmo 8 227) s m args below meth c H locs 0 0 Q (F0 m 15 ls []) := by
    intro n
    induction n with
    | zero =>
      intro H locs x2 x3 x4 x5 M ls X hl  yy h
      exact lp_0 h
    | succ n1 ih15 =>
      intro H locs x2 x3 x4 x5 M ls X hl  _u h
      obtain ⟨y1, h, hk1⟩ := lp_x h
      have J178 : ∀ (H : Heap) (locs : List Loc) (x2 : Int32) (x3 : Int32) (x5 : Int32) (v0 : Int32) (M : Mem) (ls : Array Slot), Wd D ad cs GM A s H locs M → lv_has ls 10 [(0, .ref (ad (cO GM 0))), (2, .int x2), (3, .int x3), (5, .int x5)] → ∀ (y1 : ((Int32 × Int32 × Int32 × Int32 × Mem) ⊕ (Int32 × Mem))), fX10_askOf_178 a1 x2 x3 x5 v0 M = some y1 → lpK (fun st => fX10_askOf_15 a1 st.1 st.2.1 st.2.2.1 st.2.2.2.1 st.2.2.2.2) n1 y1 = some z → W p l e (rmo 8 227) s m args below meth c H locs 0 0 Q (F0 m 178 ls [.int v0]) := by
        intro H locs x2 x3 x5 v0 M ls X hl  y1 h hk1
        unfold fX10_askOf_178 at h
        obtain ⟨u1, eu1, h⟩ := nm_x h
        refine topE eu1 ?_
        refine lv_istore (lv' := [(4, .int u1), (0, .ref (ad (cO GM 0))), (2, .int x2), (3, .int x3), (5, .int x5)]) hx hb dX10_askOf_178 hl (by decide) rfl (fun ls hl => ?_)
        obtain ⟨u2, eu2, h⟩ := nm_x h
        refine lv_iinc (v := u2) (lv' := [(5, .int u2), (4, .int u1), (0, .ref (ad (cO GM 0))), (2, .int x2), (3, .int x3)]) hx hb dX10_askOf_180 hl (k := 4) rfl (by rw [eu2]; rfl) (by decide) rfl (fun ls hl => ?_)
        refine lv_goto (tgt := 15) hx hb dX10_askOf_183 (by decide) ?_
        rw [← sm_x h] at hk1
        exact ih15 _ _ x2 x3 u1 u2 M ls X (lv_sub hl [2, 3, 4, 1, 0] rfl)  () hk1
      have J165 : ∀ (H : Heap) (locs : List Loc) (x2 : Int32) (x4 : Int32) (x5 : Int32) (x6 : Int32) (x7 : Int32) (v0 : Int32) (M : Mem) (ls : Array Slot), Wd D ad cs GM A s H locs M → lv_has ls 10 [(0, .ref (ad (cO GM 0))), (2, .int x2), (4, .int x4), (5, .int x5), (6, .int x6), (7, .int x7)] → ∀ (y1 : ((Int32 × Int32 × Int32 × Int32 × Mem) ⊕ (Int32 × Mem))), fX10_askOf_165 a1 x2 x4 x5 x6 x7 v0 M = some y1 → lpK (fun st => fX10_askOf_15 a1 st.1 st.2.1 st.2.2.1 st.2.2.2.1 st.2.2.2.2) n1 y1 = some z → W p l e (rmo 8 227) s m args below meth c H locs 0 0 Q (F0 m 165 ls [.int v0]) := by
        intro H locs x2 x4 x5 x6 x7 v0 M ls X hl  y1 h hk1
        unfold fX10_askOf_165 at h
        obtain ⟨u3, eu3, h⟩ := nm_x h
        refine topE eu3 ?_
        refine lv_istore_n (lv' := [(3, .int u3), (0, .ref (ad (cO GM 0))), (2, .int x2), (4, .int x4), (5, .int x5), (6, .int x6), (7, .int x7)]) hx hb dX10_askOf_165 rfl hl (by decide) rfl (fun ls hl => ?_)
        refine lv_iload hx hb dX10_askOf_166 (lv_at hl 6 rfl) ?_
        refine lv_if_eq (tgt := 176) hx hb dX10_askOf_168 (by decide) (fun c4 => ?_) (fun c4 => ?_)
        · have h := it_p h c4
          refine lv_iload hx hb dX10_askOf_176 (lv_at hl 3 rfl) ?_
          exact J178 _ _ x2 u3 x5 x4 M ls X (lv_sub hl [1, 2, 0, 4] rfl)  _ h hk1
        · have h := it_n h c4
          refine lv_iload hx hb dX10_askOf_171 (lv_at hl 5 rfl) ?_
          refine lv_goto (tgt := 178) hx hb dX10_askOf_173 (by decide) ?_
          exact J178 _ _ x2 u3 x5 x6 M ls X (lv_sub hl [1, 2, 0, 4] rfl)  _ h hk1
      have J152 : ∀ (H : Heap) (locs : List Loc) (x2 : Int32) (x3 : Int32) (x4 : Int32) (x5 : Int32) (x6 : Int32) (v0 : Int32) (M : Mem) (ls : Array Slot), Wd D ad cs GM A s H locs M → lv_has ls 10 [(0, .ref (ad (cO GM 0))), (2, .int x2), (3, .int x3), (4, .int x4), (5, .int x5), (6, .int x6)] → ∀ (y1 : ((Int32 × Int32 × Int32 × Int32 × Mem) ⊕ (Int32 × Mem))), fX10_askOf_152 a1 x2 x3 x4 x5 x6 v0 M = some y1 → lpK (fun st => fX10_askOf_15 a1 st.1 st.2.1 st.2.2.1 st.2.2.2.1 st.2.2.2.2) n1 y1 = some z → W p l e (rmo 8 227) s m args below meth c H locs 0 0 Q (F0 m 152 ls [.int v0]) := by
        intro H locs x2 x3 x4 x5 x6 v0 M ls X hl  y1 h hk1
        unfold fX10_askOf_152 at h
        obtain ⟨u5, eu5, h⟩ := nm_x h
        refine topE eu5 ?_
        refine lv_istore (lv' := [(7, .int u5), (0, .ref (ad (cO GM 0))), (2, .int x2), (3, .int x3), (4, .int x4), (5, .int x5), (6, .int x6)]) hx hb dX10_askOf_152 hl (by decide) rfl (fun ls hl => ?_)
        refine lv_iload hx hb dX10_askOf_154 (lv_at hl 0 rfl) ?_
        refine lv_if_eq (tgt := 164) hx hb dX10_askOf_156 (by decide) (fun c6 => ?_) (fun c6 => ?_)
        · have h := it_p h c6
          refine lv_iload_n hx hb dX10_askOf_164 rfl (lv_at hl 3 rfl) ?_
          exact J165 _ _ x2 x4 x5 x6 u5 x3 M ls X (lv_sub hl [1, 2, 4, 5, 6, 0] rfl)  _ h hk1
        · have h := it_n h c6
          refine lv_iload hx hb dX10_askOf_159 (lv_at hl 5 rfl) ?_
          refine lv_goto (tgt := 165) hx hb dX10_askOf_161 (by decide) ?_
          exact J165 _ _ x2 x4 x5 x6 u5 x5 M ls X (lv_sub hl [1, 2, 4, 5, 6, 0] rfl)  _ h hk1
      have J147 : ∀ (H : Heap) (locs : List Loc) (x2 : Int32) (x3 : Int32) (x4 : Int32) (x5 : Int32) (x6 : Int32) (M : Mem) (ls : Array Slot), Wd D ad cs GM A s H locs M → lv_has ls 10 [(0, .ref (ad (cO GM 0))), (2, .int x2), (3, .int x3), (4, .int x4), (5, .int x5), (6, .int x6)] → ∀ (y1 : ((Int32 × Int32 × Int32 × Int32 × Mem) ⊕ (Int32 × Mem))), fX10_askOf_147 a1 x2 x3 x4 x5 x6 M = some y1 → lpK (fun st => fX10_askOf_15 a1 st.1 st.2.1 st.2.2.1 st.2.2.2.1 st.2.2.2.2) n1 y1 = some z → W p l e (rmo 8 227) s m args below meth c H locs 0 0 Q (F0 m 147 ls []) := by
        intro H locs x2 x3 x4 x5 x6 M ls X hl  y1 h hk1
        unfold fX10_askOf_147 at h
        refine lv_iconst (v := 1) hx hb dX10_askOf_147 (by decide) ?_
        refine lv_goto (tgt := 152) hx hb dX10_askOf_148 (by decide) ?_
        exact J152 _ _ x2 x3 x4 x5 x6 1 M ls X (lv_sub hl [0, 1, 2, 3, 4, 5] rfl)  _ h hk1
      have J135 : ∀ (H : Heap) (locs : List Loc) (x2 : Int32) (x3 : Int32) (x4 : Int32) (x5 : Int32) (x6 : Int32) (M : Mem) (ls : Array Slot), Wd D ad cs GM A s H locs M → lv_has ls 10 [(0, .ref (ad (cO GM 0))), (2, .int x2), (3, .int x3), (4, .int x4), (5, .int x5), (6, .int x6)] → ∀ (y1 : ((Int32 × Int32 × Int32 × Int32 × Mem) ⊕ (Int32 × Mem))), fX10_askOf_135 a1 x2 x3 x4 x5 x6 M = some y1 → lpK (fun st => fX10_askOf_15 a1 st.1 st.2.1 st.2.2.1 st.2.2.2.1 st.2.2.2.2) n1 y1 = some z → W p l e (rmo 8 227) s m args below meth c H locs 0 0 Q (F0 m 135 ls []) := by
        intro H locs x2 x3 x4 x5 x6 M ls X hl  y1 h hk1
        unfold fX10_askOf_135 at h
        refine lv_iload_n hx hb dX10_askOf_135 rfl (lv_at hl 2 rfl) ?_
        refine lv_iconst (v := (-1)) hx hb dX10_askOf_136 (by decide) ?_
        refine lv_icmp_eq (tgt := 147) hx hb dX10_askOf_137 (by decide) (fun c7 => ?_) (fun c7 => ?_)
        · have h := it_p h c7
          exact J147 _ _ x2 x3 x4 x5 x6 M ls X (lv_sub hl [0, 1, 2, 3, 4, 5] rfl)  _ h hk1
        · have h := it_n h c7
          refine lv_iload hx hb dX10_askOf_140 (lv_at hl 5 rfl) ?_
          refine lv_iload hx hb dX10_askOf_142 (lv_at hl 3 rfl) ?_
          refine lv_icmp_ge (tgt := 151) hx hb dX10_askOf_144 (by decide) (fun c8 => ?_) (fun c8 => ?_)
          · have h := it_p h c8
            refine lv_iconst (v := 0) hx hb dX10_askOf_151 (by decide) ?_
            exact J152 _ _ x2 x3 x4 x5 x6 0 M ls X (lv_sub hl [0, 1, 2, 3, 4, 5] rfl)  _ h hk1
          · have h := it_n h c8
            exact J147 _ _ x2 x3 x4 x5 x6 M ls X (lv_sub hl [0, 1, 2, 3, 4, 5] rfl)  _ h hk1
      have L30 : ∀ (n : Nat) (H : Heap) (locs : List Loc) (x2 : Int32) (x3 : Int32) (x4 : Int32) (x5 : Int32) (x6 : Int32) (x7 : Int32) (M : Mem) (ls : Array Slot), Wd D ad cs GM A s H locs M → lv_has ls 10 [(0, .ref (ad (cO GM 0))), (2, .int x2), (3, .int x3), (4, .int x4), (5, .int x5), (6, .int x6), (7, .int x7)] → ∀ (y1 : ((Int32 × Int32 × Int32 × Int32 × Mem) ⊕ (Int32 × Mem))), lpO (fun st => fX10_askOf_30 a1 st.1 st.2.1 st.2.2.1 st.2.2.2.1 st.2.2.2.2.1 st.2.2.2.2.2.1 st.2.2.2.2.2.2) n (x2, x3, x4, x5, x6, x7, M) = some y1 → lpK (fun st => fX10_askOf_15 a1 st.1 st.2.1 st.2.2.1 st.2.2.2.1 st.2.2.2.2) n1 y1 = some z → W p l e (rmo 8 227) s m args below meth c H locs 0 0 Q (F0 m 30 ls []) := by
        intro n
        induction n with
        | zero =>
          intro H locs x2 x3 x4 x5 x6 x7 M ls X hl  yy h hk1
          exact lp_0 h
        | succ n2 ih30 =>
          intro H locs x2 x3 x4 x5 x6 x7 M ls X hl  y1 h hk1
          obtain ⟨y2, h, hk2⟩ := lp_x h
          have J127 : ∀ (H : Heap) (locs : List Loc) (x2 : Int32) (x3 : Int32) (x4 : Int32) (x5 : Int32) (x7 : Int32) (v0 : Int32) (M : Mem) (ls : Array Slot), Wd D ad cs GM A s H locs M → lv_has ls 10 [(0, .ref (ad (cO GM 0))), (2, .int x2), (3, .int x3), (4, .int x4), (5, .int x5), (7, .int x7)] → ∀ (y2 : ((Int32 × Int32 × Int32 × Int32 × Int32 × Int32 × Mem) ⊕ ((Int32 × Int32 × Int32 × Int32 × Mem) ⊕ (Int32 × Mem)))), fX10_askOf_127 a1 x2 x3 x4 x5 x7 v0 M = some y2 → lpK (fun st => fX10_askOf_30 a1 st.1 st.2.1 st.2.2.1 st.2.2.2.1 st.2.2.2.2.1 st.2.2.2.2.2.1 st.2.2.2.2.2.2) n2 y2 = some y1 → W p l e (rmo 8 227) s m args below meth c H locs 0 0 Q (F0 m 127 ls [.int v0]) := by
            intro H locs x2 x3 x4 x5 x7 v0 M ls X hl  y2 h hk2
            unfold fX10_askOf_127 at h
            obtain ⟨u9, eu9, h⟩ := nm_x h
            refine topE eu9 ?_
            refine lv_istore (lv' := [(6, .int u9), (0, .ref (ad (cO GM 0))), (2, .int x2), (3, .int x3), (4, .int x4), (5, .int x5), (7, .int x7)]) hx hb dX10_askOf_127 hl (by decide) rfl (fun ls hl => ?_)
            obtain ⟨u10, eu10, h⟩ := nm_x h
            refine lv_iinc (v := u10) (lv' := [(7, .int u10), (6, .int u9), (0, .ref (ad (cO GM 0))), (2, .int x2), (3, .int x3), (4, .int x4), (5, .int x5)]) hx hb dX10_askOf_129 hl (k := 6) rfl (by rw [eu10]; rfl) (by decide) rfl (fun ls hl => ?_)
            refine lv_goto (tgt := 30) hx hb dX10_askOf_132 (by decide) ?_
            rw [← sm_x h] at hk2
            exact ih30 _ _ x2 x3 x4 x5 u9 u10 M ls X (lv_sub hl [2, 3, 4, 5, 6, 1, 0] rfl)  _ hk2 hk1
          have J113 : ∀ (H : Heap) (locs : List Loc) (x2 : Int32) (x3 : Int32) (x4 : Int32) (x5 : Int32) (x6 : Int32) (x7 : Int32) (x8 : Int32) (M : Mem) (ls : Array Slot), Wd D ad cs GM A s H locs M → lv_has ls 10 [(0, .ref (ad (cO GM 0))), (2, .int x2), (3, .int x3), (4, .int x4), (5, .int x5), (6, .int x6), (7, .int x7), (8, .int x8)] → ∀ (y2 : ((Int32 × Int32 × Int32 × Int32 × Int32 × Int32 × Mem) ⊕ ((Int32 × Int32 × Int32 × Int32 × Mem) ⊕ (Int32 × Mem)))), fX10_askOf_113 a1 x2 x3 x4 x5 x6 x7 x8 M = some y2 → lpK (fun st => fX10_askOf_30 a1 st.1 st.2.1 st.2.2.1 st.2.2.2.1 st.2.2.2.2.1 st.2.2.2.2.2.1 st.2.2.2.2.2.2) n2 y2 = some y1 → W p l e (rmo 8 227) s m args below meth c H locs 0 0 Q (F0 m 113 ls []) := by
            intro H locs x2 x3 x4 x5 x6 x7 x8 M ls X hl  y2 h hk2
            unfold fX10_askOf_113 at h
            refine lv_iload hx hb dX10_askOf_113 (lv_at hl 7 rfl) ?_
            refine lv_iload hx hb dX10_askOf_115 (lv_at hl 5 rfl) ?_
            refine lv_icmp_le (tgt := 125) hx hb dX10_askOf_117 (by decide) (fun c11 => ?_) (fun c11 => ?_)
            · have h := it_p h c11
              refine lv_iload hx hb dX10_askOf_125 (lv_at hl 5 rfl) ?_
              exact J127 _ _ x2 x3 x4 x5 x7 x6 M ls X (lv_sub hl [0, 1, 2, 3, 4, 6] rfl)  _ h hk2
            · have h := it_n h c11
              refine lv_iload hx hb dX10_askOf_120 (lv_at hl 7 rfl) ?_
              refine lv_goto (tgt := 127) hx hb dX10_askOf_122 (by decide) ?_
              exact J127 _ _ x2 x3 x4 x5 x7 x8 M ls X (lv_sub hl [0, 1, 2, 3, 4, 6] rfl)  _ h hk2
          have L43 : ∀ (n : Nat) (H : Heap) (locs : List Loc) (x2 : Int32) (x3 : Int32) (x4 : Int32) (x5 : Int32) (x6 : Int32) (x7 : Int32) (x8 : Int32) (x9 : Int32) (M : Mem) (ls : Array Slot), Wd D ad cs GM A s H locs M → lv_has ls 10 [(0, .ref (ad (cO GM 0))), (2, .int x2), (3, .int x3), (4, .int x4), (5, .int x5), (6, .int x6), (7, .int x7), (8, .int x8), (9, .int x9)] → ∀ (y2 : ((Int32 × Int32 × Int32 × Int32 × Int32 × Int32 × Mem) ⊕ ((Int32 × Int32 × Int32 × Int32 × Mem) ⊕ (Int32 × Mem)))), lpO (fun st => fX10_askOf_43 a1 st.1 st.2.1 st.2.2.1 st.2.2.2.1 st.2.2.2.2.1 st.2.2.2.2.2.1 st.2.2.2.2.2.2.1 st.2.2.2.2.2.2.2.1 st.2.2.2.2.2.2.2.2) n (x2, x3, x4, x5, x6, x7, x8, x9, M) = some y2 → lpK (fun st => fX10_askOf_30 a1 st.1 st.2.1 st.2.2.1 st.2.2.2.1 st.2.2.2.2.1 st.2.2.2.2.2.1 st.2.2.2.2.2.2) n2 y2 = some y1 → W p l e (rmo 8 227) s m args below meth c H locs 0 0 Q (F0 m 43 ls []) := by
            intro n
            induction n with
            | zero =>
              intro H locs x2 x3 x4 x5 x6 x7 x8 x9 M ls X hl  yy h hk2
              exact lp_0 h
            | succ n3 ih43 =>
              intro H locs x2 x3 x4 x5 x6 x7 x8 x9 M ls X hl  y2 h hk2
              obtain ⟨y3, h, hk3⟩ := lp_x h
              have J104 : ∀ (H : Heap) (locs : List Loc) (x2 : Int32) (x3 : Int32) (x4 : Int32) (x5 : Int32) (x6 : Int32) (x7 : Int32) (x9 : Int32) (v0 : Int32) (v1 : Int32) (M : Mem) (ls : Array Slot), Wd D ad cs GM A s H locs M → lv_has ls 10 [(0, .ref (ad (cO GM 0))), (2, .int x2), (3, .int x3), (4, .int x4), (5, .int x5), (6, .int x6), (7, .int x7), (9, .int x9)] → ∀ (y3 : ((Int32 × Int32 × Int32 × Int32 × Int32 × Int32 × Int32 × Int32 × Mem) ⊕ ((Int32 × Int32 × Int32 × Int32 × Int32 × Int32 × Mem) ⊕ ((Int32 × Int32 × Int32 × Int32 × Mem) ⊕ (Int32 × Mem))))), fX10_askOf_104 a1 x2 x3 x4 x5 x6 x7 x9 v0 v1 M = some y3 → lpK (fun st => fX10_askOf_43 a1 st.1 st.2.1 st.2.2.1 st.2.2.2.1 st.2.2.2.2.1 st.2.2.2.2.2.1 st.2.2.2.2.2.2.1 st.2.2.2.2.2.2.2.1 st.2.2.2.2.2.2.2.2) n3 y3 = some y2 → W p l e (rmo 8 227) s m args below meth c H locs 0 0 Q (F0 m 104 ls [.int v0, .int v1]) := by
                intro H locs x2 x3 x4 x5 x6 x7 x9 v0 v1 M ls X hl  y3 h hk3
                unfold fX10_askOf_104 at h
                refine lv_iadd hx hb dX10_askOf_104 ?_
                obtain ⟨u12, eu12, h⟩ := nm_x h
                refine topE eu12 ?_
                refine lv_istore (lv' := [(8, .int u12), (0, .ref (ad (cO GM 0))), (2, .int x2), (3, .int x3), (4, .int x4), (5, .int x5), (6, .int x6), (7, .int x7), (9, .int x9)]) hx hb dX10_askOf_105 hl (by decide) rfl (fun ls hl => ?_)
                obtain ⟨u13, eu13, h⟩ := nm_x h
                refine lv_iinc (v := u13) (lv' := [(9, .int u13), (8, .int u12), (0, .ref (ad (cO GM 0))), (2, .int x2), (3, .int x3), (4, .int x4), (5, .int x5), (6, .int x6), (7, .int x7)]) hx hb dX10_askOf_107 hl (k := 8) rfl (by rw [eu13]; rfl) (by decide) rfl (fun ls hl => ?_)
                refine lv_goto (tgt := 43) hx hb dX10_askOf_110 (by decide) ?_
                rw [← sm_x h] at hk3
                exact ih43 _ _ x2 x3 x4 x5 x6 x7 u12 u13 M ls X (lv_sub hl [2, 3, 4, 5, 6, 7, 8, 1, 0] rfl)  _ hk3 hk2
              have J103 : ∀ (H : Heap) (locs : List Loc) (x2 : Int32) (x3 : Int32) (x4 : Int32) (x5 : Int32) (x6 : Int32) (x7 : Int32) (x9 : Int32) (v0 : Int32) (M : Mem) (ls : Array Slot), Wd D ad cs GM A s H locs M → lv_has ls 10 [(0, .ref (ad (cO GM 0))), (2, .int x2), (3, .int x3), (4, .int x4), (5, .int x5), (6, .int x6), (7, .int x7), (9, .int x9)] → ∀ (y3 : ((Int32 × Int32 × Int32 × Int32 × Int32 × Int32 × Int32 × Int32 × Mem) ⊕ ((Int32 × Int32 × Int32 × Int32 × Int32 × Int32 × Mem) ⊕ ((Int32 × Int32 × Int32 × Int32 × Mem) ⊕ (Int32 × Mem))))), fX10_askOf_103 a1 x2 x3 x4 x5 x6 x7 x9 v0 M = some y3 → lpK (fun st => fX10_askOf_43 a1 st.1 st.2.1 st.2.2.1 st.2.2.2.1 st.2.2.2.2.1 st.2.2.2.2.2.1 st.2.2.2.2.2.2.1 st.2.2.2.2.2.2.2.1 st.2.2.2.2.2.2.2.2) n3 y3 = some y2 → W p l e (rmo 8 227) s m args below meth c H locs 0 0 Q (F0 m 103 ls [.int v0]) := by
                intro H locs x2 x3 x4 x5 x6 x7 x9 v0 M ls X hl  y3 h hk3
                unfold fX10_askOf_103 at h
                refine lv_iconst (v := 0) hx hb dX10_askOf_103 (by decide) ?_
                exact J104 _ _ x2 x3 x4 x5 x6 x7 x9 0 v0 M ls X (lv_sub hl [0, 1, 2, 3, 4, 5, 6, 7] rfl)  _ h hk3
              unfold fX10_askOf_43 at h
              refine lv_iload hx hb dX10_askOf_43 (lv_at hl 8 rfl) ?_
              refine lv_bipush (v := 10) hx hb dX10_askOf_45 (by decide) ?_
              refine lv_icmp_ge (tgt := 113) hx hb dX10_askOf_47 (by decide) (fun c14 => ?_) (fun c14 => ?_)
              · have h := it_p h c14
                obtain ⟨_, h, ey⟩ := inr_x h
                rw [ey] at hk3
                have h := h.trans (congrArg some (sm_x hk3))
                exact J113 _ _ x2 x3 x4 x5 x6 x7 x8 M ls X (lv_sub hl [0, 1, 2, 3, 4, 5, 6, 7] rfl)  _ h hk2
              · have h := it_n h c14
                refine lv_iload hx hb dX10_askOf_50 (lv_at hl 7 rfl) ?_
                refine lv_iload_n hx hb dX10_askOf_52 rfl (lv_at hl 1 rfl) ?_
                refine lv_iload hx hb dX10_askOf_53 (lv_at hl 6 rfl) ?_
                obtain ⟨r15, hr15, h⟩ := bd_x h
                refine r_calli0 X (r_runS F X (kX10_isIn l D ad cs A  M x2 x7 _ hr15) gm_X10_157 hd_X10_isIn ⟨Nat.le_of_ble_eq_true rfl, Nat.le_of_ble_eq_true rfl⟩ rfl hl.1 rfl (Nat.le_of_ble_eq_true rfl) dX10_askOf_55) (fun H locs X => ?_)
                refine lv_if_eq (tgt := 103) hx hb dX10_askOf_58 (by decide) (fun c16 => ?_) (fun c16 => ?_)
                · have h := it_p h c16
                  exact J103 _ _ x2 x3 x4 x5 x6 x7 x9 x8 M ls X (lv_sub hl [0, 1, 2, 3, 4, 5, 6, 8] rfl)  _ h hk3
                · have h := it_n h c16
                  refine lv_iload_n hx hb dX10_askOf_61 rfl (lv_at hl 1 rfl) ?_
                  refine lv_iload hx hb dX10_askOf_62 (lv_at hl 8 rfl) ?_
                  obtain ⟨r17, hr17, h⟩ := bd_x h
                  refine r_calli0 X (r_runS F X (kX10_isIn l D ad cs A  M x2 x9 _ hr17) gm_X10_157 hd_X10_isIn ⟨Nat.le_of_ble_eq_true rfl, Nat.le_of_ble_eq_true rfl⟩ rfl hl.1 rfl (Nat.le_of_ble_eq_true rfl) dX10_askOf_64) (fun H locs X => ?_)
                  refine lv_if_eq (tgt := 103) hx hb dX10_askOf_67 (by decide) (fun c18 => ?_) (fun c18 => ?_)
                  · have h := it_p h c18
                    exact J103 _ _ x2 x3 x4 x5 x6 x7 x9 x8 M ls X (lv_sub hl [0, 1, 2, 3, 4, 5, 6, 8] rfl)  _ h hk3
                  · have h := it_n h c18
                    refine lv_aload_n hx hb dX10_askOf_70 rfl (lv_at hl 0 rfl) ?_
                    refine gf_X10_76 F X qM0 dX10_askOf_71 ?_
                    refine lv_bipush (v := 20) hx hb dX10_askOf_74 (by decide) ?_
                    refine lv_iload hx hb dX10_askOf_76 (lv_at hl 6 rfl) ?_
                    refine lv_imul hx hb dX10_askOf_78 ?_
                    refine lv_iload hx hb dX10_askOf_79 (lv_at hl 4 rfl) ?_
                    refine lv_iadd hx hb dX10_askOf_81 ?_
                    obtain ⟨hin, h⟩ := gd_x h
                    refine r_iald F X (ar_X10_35 qM0) hin dX10_askOf_82 ?_
                    refine lv_aload_n hx hb dX10_askOf_83 rfl (lv_at hl 0 rfl) ?_
                    refine gf_X10_76 F X qM0 dX10_askOf_84 ?_
                    refine lv_bipush (v := 20) hx hb dX10_askOf_87 (by decide) ?_
                    refine lv_iload hx hb dX10_askOf_89 (lv_at hl 8 rfl) ?_
                    refine lv_imul hx hb dX10_askOf_91 ?_
                    refine lv_iload hx hb dX10_askOf_92 (lv_at hl 4 rfl) ?_
                    refine lv_iadd hx hb dX10_askOf_94 ?_
                    obtain ⟨hin, h⟩ := gd_x h
                    refine r_iald F X (ar_X10_35 qM0) hin dX10_askOf_95 ?_
                    refine lv_icmp_ne (tgt := 103) hx hb dX10_askOf_96 (by decide) (fun c19 => ?_) (fun c19 => ?_)
                    · have h := it_n h c19
                      exact J103 _ _ x2 x3 x4 x5 x6 x7 x9 x8 M ls X (lv_sub hl [0, 1, 2, 3, 4, 5, 6, 8] rfl)  _ h hk3
                    · have h := it_p h c19
                      refine lv_iconst (v := 1) hx hb dX10_askOf_99 (by decide) ?_
                      refine lv_goto (tgt := 104) hx hb dX10_askOf_100 (by decide) ?_
                      exact J104 _ _ x2 x3 x4 x5 x6 x7 x9 1 x8 M ls X (lv_sub hl [0, 1, 2, 3, 4, 5, 6, 8] rfl)  _ h hk3
          unfold fX10_askOf_30 at h
          refine lv_iload hx hb dX10_askOf_30 (lv_at hl 6 rfl) ?_
          refine lv_bipush (v := 10) hx hb dX10_askOf_32 (by decide) ?_
          refine lv_icmp_ge (tgt := 135) hx hb dX10_askOf_34 (by decide) (fun c20 => ?_) (fun c20 => ?_)
          · have h := it_p h c20
            obtain ⟨_, h, ey⟩ := inr_x h
            rw [ey] at hk2
            have h := h.trans (congrArg some (sm_x hk2))
            exact J135 _ _ x2 x3 x4 x5 x6 M ls X (lv_sub hl [0, 1, 2, 3, 4, 5] rfl)  _ h hk1
          · have h := it_n h c20
            refine lv_iconst (v := 0) hx hb dX10_askOf_37 (by decide) ?_
            obtain ⟨u21, eu21, h⟩ := nm_x h
            refine topE eu21 ?_
            refine lv_istore (lv' := [(8, .int u21), (0, .ref (ad (cO GM 0))), (2, .int x2), (3, .int x3), (4, .int x4), (5, .int x5), (6, .int x6), (7, .int x7)]) hx hb dX10_askOf_38 hl (by decide) rfl (fun ls hl => ?_)
            refine lv_iconst (v := 0) hx hb dX10_askOf_40 (by decide) ?_
            obtain ⟨u22, eu22, h⟩ := nm_x h
            refine topE eu22 ?_
            refine lv_istore (lv' := [(9, .int u22), (8, .int u21), (0, .ref (ad (cO GM 0))), (2, .int x2), (3, .int x3), (4, .int x4), (5, .int x5), (6, .int x6), (7, .int x7)]) hx hb dX10_askOf_41 hl (by decide) rfl (fun ls hl => ?_)
            exact L43 FU _ _ x2 x3 x4 x5 x6 x7 u21 u22 M ls X (lv_sub hl [2, 3, 4, 5, 6, 7, 8, 1, 0] rfl)  _ h hk2
      unfold fX10_askOf_15 at h
      refine lv_iload hx hb dX10_askOf_15 (lv_at hl 4 rfl) ?_
      refine lv_aload_n hx hb dX10_askOf_17 rfl (lv_at hl 0 rfl) ?_
      refine gf_X10_161 F X qM0 dX10_askOf_18 ?_
      refine lv_icmp_ge (tgt := 186) hx hb dX10_askOf_21 (by decide) (fun c23 => ?_) (fun c23 => ?_)
      · have h := it_p h c23
        refine lv_iload_n hx hb dX10_askOf_186 rfl (lv_at hl 2 rfl) ?_
        have h := sm_x h
        rw [← h] at hk1
        have h := sm_x hk1
        exact RT H locs _ _ 187 ls X h dX10_askOf_187
      · have h := it_n h c23
        refine lv_iconst (v := 0) hx hb dX10_askOf_24 (by decide) ?_
        obtain ⟨u24, eu24, h⟩ := nm_x h
        refine topE eu24 ?_
        refine lv_istore (lv' := [(6, .int u24), (0, .ref (ad (cO GM 0))), (2, .int x2), (3, .int x3), (4, .int x4), (5, .int x5)]) hx hb dX10_askOf_25 hl (by decide) rfl (fun ls hl => ?_)
        refine lv_iconst (v := 0) hx hb dX10_askOf_27 (by decide) ?_
        obtain ⟨u25, eu25, h⟩ := nm_x h
        refine topE eu25 ?_
        refine lv_istore (lv' := [(7, .int u25), (6, .int u24), (0, .ref (ad (cO GM 0))), (2, .int x2), (3, .int x3), (4, .int x4), (5, .int x5)]) hx hb dX10_askOf_28 hl (by decide) rfl (fun ls hl => ?_)
        exact L30 FU _ _ x2 x3 x4 x5 u24 u25 M ls X (lv_sub hl [2, 3, 4, 5, 6, 1, 0] rfl)  _ h hk1
  have h := hz
  unfold fX10_askOf at h
  refine lv_aload_n hx hb dX10_askOf_0 rfl (lv_at hl 0 rfl) ?_
  refine lv_iload_n hx hb dX10_askOf_1 rfl (lv_at hl 1 rfl) ?_
  refine lv_iconst (v := 0) hx hb dX10_askOf_2 (by decide) ?_
  obtain ⟨r26, hr26, h⟩ := bd_x h
  refine r_calli X (r_runV F X (kX10_wasBy l D ad cs A  M a1 0 _ hr26) gm_X10_283 hd_X10_wasBy ⟨Nat.le_of_ble_eq_true rfl, Nat.le_of_ble_eq_true rfl⟩ qM0 rfl rfl hl.1 rfl (Nat.le_of_ble_eq_true rfl) dX10_askOf_3) (fun H locs X => ?_)
  obtain ⟨u27, eu27, h⟩ := nm_x h
  refine topE eu27 ?_
  refine lv_istore_n (lv' := [(2, .int u27), (0, .ref (ad (cO GM 0))), (1, .int a1)]) hx hb dX10_askOf_6 rfl hl (by decide) rfl (fun ls hl => ?_)
  refine lv_iconst (v := (-1)) hx hb dX10_askOf_7 (by decide) ?_
  obtain ⟨u28, eu28, h⟩ := nm_x h
  refine topE eu28 ?_
  refine lv_istore_n (lv' := [(3, .int u28), (2, .int u27), (0, .ref (ad (cO GM 0))), (1, .int a1)]) hx hb dX10_askOf_8 rfl hl (by decide) rfl (fun ls hl => ?_)
  refine lv_iconst (v := 0) hx hb dX10_askOf_9 (by decide) ?_
  obtain ⟨u29, eu29, h⟩ := nm_x h
  refine topE eu29 ?_
  refine lv_istore (lv' := [(4, .int u29), (3, .int u28), (2, .int u27), (0, .ref (ad (cO GM 0))), (1, .int a1)]) hx hb dX10_askOf_10 hl (by decide) rfl (fun ls hl => ?_)
  refine lv_iconst (v := 0) hx hb dX10_askOf_12 (by decide) ?_
  obtain ⟨u30, eu30, h⟩ := nm_x h
  refine topE eu30 ?_
  refine lv_istore (lv' := [(5, .int u30), (4, .int u29), (3, .int u28), (2, .int u27), (0, .ref (ad (cO GM 0))), (1, .int a1)]) hx hb dX10_askOf_13 hl (by decide) rfl (fun ls hl => ?_)
  exact L15 FU _ _ u27 u28 u29 u30 r26.2 ls X (lv_sub hl [4, 3, 2, 1, 0] rfl)  () h

/-! ===== X10_ask ===== -/
def fX10_ask (M : Mem) (a1 : Int32) : Option (Int32 × Mem) :=
  (fX10_isHeir M a1).bind fun r1 =>
  (if r1.1 = 0 then
    some ((-2), r1.2)
  else
    (fX10_askOf r1.2 a1).bind fun r3 =>
    some (r3.1, r3.2))
set_option maxHeartbeats 4000000 in
set_option maxRecDepth 100000 in
theorem kX10_ask (l : Launch) (D : va_G) (ad : Nat → Nat) (cs : Nat → ClassId) (A : Nat → Prop)  (M : Mem) (a1 : Int32) (z : (Int32 × Mem)) (hz : fX10_ask M a1 = some z) : Met l yX10_ask (wsU yX10_ask cX10_ask 2 (some .int)) (rmo 9 256) (va_Pc [.ref (ad (cO GM 0)), .int a1] (Wd0 D ad cs GM A M)) (va_Qi (fun r u => (r, u) = z) (Wd0 D ad cs GM A) A) 0 0 A := by
  refine ct_i (by decide) rfl okGM (Nat.le_of_ble_eq_true rfl) ?_
  intro p e s m args below meth c Q ls F X hl RT
  have hx := F.1
  have hb := F.2.1
  have hl : lv_has ls 2 [(0, .ref (ad (cO GM 0))), (1, .int a1)] := hl
  obtain ⟨H, hH⟩ : ∃ H, H = s.heap := ⟨_, rfl⟩
  rw [← hH] at X ⊢
  obtain ⟨locs, hlocs⟩ : ∃ locs : List Loc, locs = [] := ⟨_, rfl⟩
  rw [← hlocs] at X ⊢
  clear hH hlocs
  have h := hz
  unfold fX10_ask at h
  refine lv_aload_n hx hb dX10_ask_0 rfl (lv_at hl 0 rfl) ?_
  refine lv_iload_n hx hb dX10_ask_1 rfl (lv_at hl 1 rfl) ?_
  obtain ⟨r1, hr1, h⟩ := bd_x h
  refine r_calli X (r_runV F X (kX10_isHeir l D ad cs A  M a1 _ hr1) gm_X10_133 hd_X10_isHeir ⟨Nat.le_of_ble_eq_true rfl, Nat.le_of_ble_eq_true rfl⟩ qM0 rfl rfl hl.1 rfl (Nat.le_of_ble_eq_true rfl) dX10_ask_2) (fun H locs X => ?_)
  refine lv_if_eq (tgt := 16) hx hb dX10_ask_5 (by decide) (fun c2 => ?_) (fun c2 => ?_)
  · have h := it_p h c2
    refine lv_bipush (v := (-2)) hx hb dX10_ask_16 (by decide) ?_
    have h := sm_x h
    exact RT H locs _ _ 18 ls X h dX10_ask_18
  · have h := it_n h c2
    refine lv_aload_n hx hb dX10_ask_8 rfl (lv_at hl 0 rfl) ?_
    refine lv_iload_n hx hb dX10_ask_9 rfl (lv_at hl 1 rfl) ?_
    obtain ⟨r3, hr3, h⟩ := bd_x h
    refine r_calli X (r_runV F X (kX10_askOf l D ad cs A  r1.2 a1 _ hr3) gm_X10_286 hd_X10_askOf ⟨Nat.le_of_ble_eq_true rfl, Nat.le_of_ble_eq_true rfl⟩ qM0 rfl rfl hl.1 rfl (Nat.le_of_ble_eq_true rfl) dX10_ask_10) (fun H locs X => ?_)
    refine lv_goto (tgt := 18) hx hb dX10_ask_13 (by decide) ?_
    have h := sm_x h
    exact RT H locs _ _ 18 ls X h dX10_ask_18

/-! ===== X10_swarmOf ===== -/
def fX10_swarmOf_106 (a1 : Int32) (a2 : Int32) (a3 : Int32) (x4 : Int64) (M : Mem) : Option (Int64 × Mem) :=
  (fX10_lowest x4 ((1 : Int64) <<< (Int32.toInt64 ((4 : Int32) * (M 0 9 0)) &&& 63)) a3).bind fun r1 =>
  some (r1, M)
def fX10_swarmOf_97 (a1 : Int32) (a2 : Int32) (a3 : Int32) (x6 : Int32) (v0 : Int64) (v1 : Int64) (M : Mem) : Option ((Int64 × Int32 × Mem) ⊕ (Int64 × Mem)) :=
  nm (v1 + v0 : Int64) fun u2 =>
  nm (x6 + 1 : Int32) fun u3 =>
  some (.inl (u2, u3, M))
def fX10_swarmOf_67 (a1 : Int32) (a2 : Int32) (a3 : Int32) (x4 : Int64) (x6 : Int32) (x7 : Int64) (M : Mem) : Option ((Int64 × Int32 × Mem) ⊕ (Int64 × Mem)) :=
  (fX10_fliesBut M x6).bind fun r4 =>
  nm (wr M 0 13 0 r4) fun M5 =>
  (fX10_runs M5).bind fun r6 =>
  (fX10_richestNow r6).bind fun r7 =>
  (if r7 = a2 then
    fX10_swarmOf_97 a1 a2 a3 x6 x7 x4 r6
  else
    fX10_swarmOf_97 a1 a2 a3 x6 0 x4 r6)
def fX10_swarmOf_58 (a1 : Int32) (a2 : Int32) (a3 : Int32) (x4 : Int64) (x6 : Int32) (x9 : Int32) (v0 : Int64) (v1 : Int64) (M : Mem) : Option ((Int64 × Int32 × Int64 × Int32 × Mem) ⊕ ((Int64 × Int32 × Mem) ⊕ (Int64 × Mem))) :=
  nm (v1 * v0 : Int64) fun u9 =>
  nm (x9 + 1 : Int32) fun u10 =>
  some (.inl (x4, x6, u9, u10, M))
def fX10_swarmOf_27 (a1 : Int32) (a2 : Int32) (a3 : Int32) (x4 : Int64) (x6 : Int32) (x7 : Int64) (x9 : Int32) (M : Mem) : Option ((Int64 × Int32 × Int64 × Int32 × Mem) ⊕ ((Int64 × Int32 × Mem) ⊕ (Int64 × Mem))) :=
  if (M 0 9 0) ≤ x9 then
    inr' (fX10_swarmOf_67 a1 a2 a3 x4 x6 x7 M)
  else
    (fX10_isIn x6 x9).bind fun r12 =>
    (if r12 = 0 then
      fX10_swarmOf_58 a1 a2 a3 x4 x6 x9 (Int32.toInt64 a1) x7 M
    else
      fX10_swarmOf_58 a1 a2 a3 x4 x6 x9 (Int32.toInt64 ((16 : Int32) - a1)) x7 M)
def fX10_swarmOf_10 (a1 : Int32) (a2 : Int32) (a3 : Int32) (x4 : Int64) (x6 : Int32) (M : Mem) : Option ((Int64 × Int32 × Mem) ⊕ (Int64 × Mem)) :=
  if ((1 : Int32) <<< ((M 0 9 0) &&& 31)) ≤ x6 then
    inr' (fX10_swarmOf_106 a1 a2 a3 x4 M)
  else
    nm (1 : Int64) fun u15 =>
    nm (0 : Int32) fun u16 =>
    lpO (fun st => fX10_swarmOf_27 a1 a2 a3 st.1 st.2.1 st.2.2.1 st.2.2.2.1 st.2.2.2.2) FU (x4, x6, u15, u16, M)
def fX10_swarmOf (M : Mem) (a1 : Int32) (a2 : Int32) (a3 : Int32) : Option (Int64 × Mem) :=
  (fX10_asTold M).bind fun r17 =>
  nm (0 : Int64) fun u18 =>
  nm (0 : Int32) fun u19 =>
  lpO (fun st => fX10_swarmOf_10 a1 a2 a3 st.1 st.2.1 st.2.2) FU (u18, u19, r17)
set_option maxHeartbeats 4000000 in
set_option maxRecDepth 100000 in
theorem kX10_swarmOf (l : Launch) (D : va_G) (ad : Nat → Nat) (cs : Nat → ClassId) (A : Nat → Prop)  (M : Mem) (a1 : Int32) (a2 : Int32) (a3 : Int32) (z : (Int64 × Mem)) (hz : fX10_swarmOf M a1 a2 a3 = some z) : Met l yX10_swarmOf (wsU yX10_swarmOf cX10_swarmOf 10 (some .long)) (rmo 7 200) (va_Pc [.ref (ad (cO GM 0)), .int a1, .int a2, .int a3] (Wd0 D ad cs GM A M)) (va_Ql (fun r u => (r, u) = z) (Wd0 D ad cs GM A) A) 0 0 A := by
  refine ct_l (by decide) rfl okGM (Nat.le_of_ble_eq_true rfl) ?_
  intro p e s m args below meth c Q ls F X hl RT
  have hx := F.1
  have hb := F.2.1
  have hl : lv_has ls 10 [(0, .ref (ad (cO GM 0))), (1, .int a1), (2, .int a2), (3, .int a3)] := hl
  obtain ⟨H, hH⟩ : ∃ H, H = s.heap := ⟨_, rfl⟩
  rw [← hH] at X ⊢
  obtain ⟨locs, hlocs⟩ : ∃ locs : List Loc, locs = [] := ⟨_, rfl⟩
  rw [← hlocs] at X ⊢
  clear hH hlocs
  have J106 : ∀ (H : Heap) (locs : List Loc) (x4 : Int64) (M : Mem) (ls : Array Slot), Wd D ad cs GM A s H locs M → lv_has ls 10 [(0, .ref (ad (cO GM 0))), (3, .int a3), (4, .long x4)] → ∀ (_ : Unit), fX10_swarmOf_106 a1 a2 a3 x4 M = some z → W p l e (rmo 7 200) s m args below meth c H locs 0 0 Q (F0 m 106 ls []) := by
    intro H locs x4 M ls X hl  _u h
    unfold fX10_swarmOf_106 at h
    refine lv_lload hx hb dX10_swarmOf_106 (lv_at hl 2 rfl) ?_
    refine lv_lconst (v := 1) hx hb dX10_swarmOf_108 (by decide) ?_
    refine lv_iconst (v := 4) hx hb dX10_swarmOf_109 (by decide) ?_
    refine lv_aload_n hx hb dX10_swarmOf_110 rfl (lv_at hl 0 rfl) ?_
    refine gf_X10_145 F X qM0 dX10_swarmOf_111 ?_
    refine lv_imul hx hb dX10_swarmOf_114 ?_
    refine lv_lshl (v := (1 : Int64) <<< (Int32.toInt64 ((4 : Int32) * (M 0 9 0)) &&& 63)) hx hb dX10_swarmOf_115 rfl ?_
    refine lv_iload_n hx hb dX10_swarmOf_116 rfl (lv_at hl 1 rfl) ?_
    obtain ⟨r1, hr1, h⟩ := bd_x h
    refine r_calll0 X (r_runS F X (kX10_lowest l D ad cs A  M x4 ((1 : Int64) <<< (Int32.toInt64 ((4 : Int32) * (M 0 9 0)) &&& 63)) a3 _ hr1) gm_X10_289 hd_X10_lowest ⟨Nat.le_of_ble_eq_true rfl, Nat.le_of_ble_eq_true rfl⟩ rfl hl.1 rfl (Nat.le_of_ble_eq_true rfl) dX10_swarmOf_117) (fun H locs X => ?_)
    have h := sm_x h
    exact RT H locs _ _ 120 ls X h dX10_swarmOf_120
  have L10 : ∀ (n : Nat) (H : Heap) (locs : List Loc) (x4 : Int64) (x6 : Int32) (M : Mem) (ls : Array Slot), Wd D ad cs GM A s H locs M → lv_has ls 10 [(0, .ref (ad (cO GM 0))), (1, .int a1), (2, .int a2), (3, .int a3), (4, .long x4), (6, .int x6)] → ∀ (_ : Unit), lpO (fun st => fX10_swarmOf_10 a1 a2 a3 st.1 st.2.1 st.2.2) n (x4, x6, M) = some z → W p l e (rmo 7 200) s m args below meth c H locs 0 0 Q (F0 m 10 ls []) := by
    intro n
    induction n with
    | zero =>
      intro H locs x4 x6 M ls X hl  yy h
      exact lp_0 h
    | succ n1 ih10 =>
      intro H locs x4 x6 M ls X hl  _u h
      obtain ⟨y1, h, hk1⟩ := lp_x h
      have J97 : ∀ (H : Heap) (locs : List Loc) (x6 : Int32) (v0 : Int64) (v1 : Int64) (M : Mem) (ls : Array Slot), Wd D ad cs GM A s H locs M → lv_has ls 10 [(0, .ref (ad (cO GM 0))), (1, .int a1), (2, .int a2), (3, .int a3), (6, .int x6)] → ∀ (y1 : ((Int64 × Int32 × Mem) ⊕ (Int64 × Mem))), fX10_swarmOf_97 a1 a2 a3 x6 v0 v1 M = some y1 → lpK (fun st => fX10_swarmOf_10 a1 a2 a3 st.1 st.2.1 st.2.2) n1 y1 = some z → W p l e (rmo 7 200) s m args below meth c H locs 0 0 Q (F0 m 97 ls [.long v0, .long v1]) := by
        intro H locs x6 v0 v1 M ls X hl  y1 h hk1
        unfold fX10_swarmOf_97 at h
        refine lv_ladd hx hb dX10_swarmOf_97 ?_
        obtain ⟨u2, eu2, h⟩ := nm_x h
        refine topL eu2 ?_
        refine lv_lstore (lv' := [(4, .long u2), (0, .ref (ad (cO GM 0))), (1, .int a1), (2, .int a2), (3, .int a3), (6, .int x6)]) hx hb dX10_swarmOf_98 hl (by decide) rfl (fun ls hl => ?_)
        obtain ⟨u3, eu3, h⟩ := nm_x h
        refine lv_iinc (v := u3) (lv' := [(6, .int u3), (4, .long u2), (0, .ref (ad (cO GM 0))), (1, .int a1), (2, .int a2), (3, .int a3)]) hx hb dX10_swarmOf_100 hl (k := 5) rfl (by rw [eu3]; rfl) (by decide) rfl (fun ls hl => ?_)
        refine lv_goto (tgt := 10) hx hb dX10_swarmOf_103 (by decide) ?_
        rw [← sm_x h] at hk1
        exact ih10 _ _ u2 u3 M ls X (lv_sub hl [2, 3, 4, 5, 1, 0] rfl)  () hk1
      have J67 : ∀ (H : Heap) (locs : List Loc) (x4 : Int64) (x6 : Int32) (x7 : Int64) (M : Mem) (ls : Array Slot), Wd D ad cs GM A s H locs M → lv_has ls 10 [(0, .ref (ad (cO GM 0))), (1, .int a1), (2, .int a2), (3, .int a3), (4, .long x4), (6, .int x6), (7, .long x7)] → ∀ (y1 : ((Int64 × Int32 × Mem) ⊕ (Int64 × Mem))), fX10_swarmOf_67 a1 a2 a3 x4 x6 x7 M = some y1 → lpK (fun st => fX10_swarmOf_10 a1 a2 a3 st.1 st.2.1 st.2.2) n1 y1 = some z → W p l e (rmo 7 200) s m args below meth c H locs 0 0 Q (F0 m 67 ls []) := by
        intro H locs x4 x6 x7 M ls X hl  y1 h hk1
        unfold fX10_swarmOf_67 at h
        refine lv_aload_n hx hb dX10_swarmOf_67 rfl (lv_at hl 0 rfl) ?_
        refine lv_aload_n hx hb dX10_swarmOf_68 rfl (lv_at hl 0 rfl) ?_
        refine lv_iload hx hb dX10_swarmOf_69 (lv_at hl 5 rfl) ?_
        obtain ⟨r4, hr4, h⟩ := bd_x h
        refine r_calli0 X (r_runV F X (kX10_fliesBut l D ad cs A  M x6 _ hr4) gm_X10_164 hd_X10_fliesBut ⟨Nat.le_of_ble_eq_true rfl, Nat.le_of_ble_eq_true rfl⟩ qM0 rfl rfl hl.1 rfl (Nat.le_of_ble_eq_true rfl) dX10_swarmOf_71) (fun H locs X => ?_)
        obtain ⟨M5, eM5, h⟩ := nm_x h
        refine pf_X10_167 F X qM0 dX10_swarmOf_74 (fun H locs X => ?_)
        have X := Wd_eq eM5 X
        refine lv_aload_n hx hb dX10_swarmOf_77 rfl (lv_at hl 0 rfl) ?_
        obtain ⟨r6, hr6, h⟩ := bd_x h
        refine r_callv X (r_runV F X (kX10_runs l D ad cs A  M5  _ hr6) gm_X10_212 hd_X10_runs ⟨Nat.le_of_ble_eq_true rfl, Nat.le_of_ble_eq_true rfl⟩ qM0 rfl rfl hl.1 rfl (Nat.le_of_ble_eq_true rfl) dX10_swarmOf_78) (fun H locs X => ?_)
        refine lv_lload hx hb dX10_swarmOf_81 (lv_at hl 4 rfl) ?_
        refine lv_aload_n hx hb dX10_swarmOf_83 rfl (lv_at hl 0 rfl) ?_
        obtain ⟨r7, hr7, h⟩ := bd_x h
        refine r_calli0 X (r_runV F X (kX10_richestNow l D ad cs A  r6  _ hr7) gm_X10_237 hd_X10_richestNow ⟨Nat.le_of_ble_eq_true rfl, Nat.le_of_ble_eq_true rfl⟩ qM0 rfl rfl hl.1 rfl (Nat.le_of_ble_eq_true rfl) dX10_swarmOf_84) (fun H locs X => ?_)
        refine lv_iload_n hx hb dX10_swarmOf_87 rfl (lv_at hl 2 rfl) ?_
        refine lv_icmp_ne (tgt := 96) hx hb dX10_swarmOf_88 (by decide) (fun c8 => ?_) (fun c8 => ?_)
        · have h := it_n h c8
          refine lv_lconst (v := 0) hx hb dX10_swarmOf_96 (by decide) ?_
          exact J97 _ _ x6 0 x4 r6 ls X (lv_sub hl [0, 1, 2, 3, 5] rfl)  _ h hk1
        · have h := it_p h c8
          refine lv_lload hx hb dX10_swarmOf_91 (lv_at hl 6 rfl) ?_
          refine lv_goto (tgt := 97) hx hb dX10_swarmOf_93 (by decide) ?_
          exact J97 _ _ x6 x7 x4 r6 ls X (lv_sub hl [0, 1, 2, 3, 5] rfl)  _ h hk1
      have L27 : ∀ (n : Nat) (H : Heap) (locs : List Loc) (x4 : Int64) (x6 : Int32) (x7 : Int64) (x9 : Int32) (M : Mem) (ls : Array Slot), Wd D ad cs GM A s H locs M → lv_has ls 10 [(0, .ref (ad (cO GM 0))), (1, .int a1), (2, .int a2), (3, .int a3), (4, .long x4), (6, .int x6), (7, .long x7), (9, .int x9)] → ∀ (y1 : ((Int64 × Int32 × Mem) ⊕ (Int64 × Mem))), lpO (fun st => fX10_swarmOf_27 a1 a2 a3 st.1 st.2.1 st.2.2.1 st.2.2.2.1 st.2.2.2.2) n (x4, x6, x7, x9, M) = some y1 → lpK (fun st => fX10_swarmOf_10 a1 a2 a3 st.1 st.2.1 st.2.2) n1 y1 = some z → W p l e (rmo 7 200) s m args below meth c H locs 0 0 Q (F0 m 27 ls []) := by
        intro n
        induction n with
        | zero =>
          intro H locs x4 x6 x7 x9 M ls X hl  yy h hk1
          exact lp_0 h
        | succ n2 ih27 =>
          intro H locs x4 x6 x7 x9 M ls X hl  y1 h hk1
          obtain ⟨y2, h, hk2⟩ := lp_x h
          have J58 : ∀ (H : Heap) (locs : List Loc) (x4 : Int64) (x6 : Int32) (x9 : Int32) (v0 : Int64) (v1 : Int64) (M : Mem) (ls : Array Slot), Wd D ad cs GM A s H locs M → lv_has ls 10 [(0, .ref (ad (cO GM 0))), (1, .int a1), (2, .int a2), (3, .int a3), (4, .long x4), (6, .int x6), (9, .int x9)] → ∀ (y2 : ((Int64 × Int32 × Int64 × Int32 × Mem) ⊕ ((Int64 × Int32 × Mem) ⊕ (Int64 × Mem)))), fX10_swarmOf_58 a1 a2 a3 x4 x6 x9 v0 v1 M = some y2 → lpK (fun st => fX10_swarmOf_27 a1 a2 a3 st.1 st.2.1 st.2.2.1 st.2.2.2.1 st.2.2.2.2) n2 y2 = some y1 → W p l e (rmo 7 200) s m args below meth c H locs 0 0 Q (F0 m 58 ls [.long v0, .long v1]) := by
            intro H locs x4 x6 x9 v0 v1 M ls X hl  y2 h hk2
            unfold fX10_swarmOf_58 at h
            refine lv_lmul hx hb dX10_swarmOf_58 ?_
            obtain ⟨u9, eu9, h⟩ := nm_x h
            refine topL eu9 ?_
            refine lv_lstore (lv' := [(7, .long u9), (0, .ref (ad (cO GM 0))), (1, .int a1), (2, .int a2), (3, .int a3), (4, .long x4), (6, .int x6), (9, .int x9)]) hx hb dX10_swarmOf_59 hl (by decide) rfl (fun ls hl => ?_)
            obtain ⟨u10, eu10, h⟩ := nm_x h
            refine lv_iinc (v := u10) (lv' := [(9, .int u10), (7, .long u9), (0, .ref (ad (cO GM 0))), (1, .int a1), (2, .int a2), (3, .int a3), (4, .long x4), (6, .int x6)]) hx hb dX10_swarmOf_61 hl (k := 7) rfl (by rw [eu10]; rfl) (by decide) rfl (fun ls hl => ?_)
            refine lv_goto (tgt := 27) hx hb dX10_swarmOf_64 (by decide) ?_
            rw [← sm_x h] at hk2
            exact ih27 _ _ x4 x6 u9 u10 M ls X (lv_sub hl [2, 3, 4, 5, 6, 7, 1, 0] rfl)  _ hk2 hk1
          unfold fX10_swarmOf_27 at h
          refine lv_iload hx hb dX10_swarmOf_27 (lv_at hl 7 rfl) ?_
          refine lv_aload_n hx hb dX10_swarmOf_29 rfl (lv_at hl 0 rfl) ?_
          refine gf_X10_145 F X qM0 dX10_swarmOf_30 ?_
          refine lv_icmp_ge (tgt := 67) hx hb dX10_swarmOf_33 (by decide) (fun c11 => ?_) (fun c11 => ?_)
          · have h := it_p h c11
            obtain ⟨_, h, ey⟩ := inr_x h
            rw [ey] at hk2
            have h := h.trans (congrArg some (sm_x hk2))
            exact J67 _ _ x4 x6 x7 M ls X (lv_sub hl [0, 1, 2, 3, 4, 5, 6] rfl)  _ h hk1
          · have h := it_n h c11
            refine lv_lload hx hb dX10_swarmOf_36 (lv_at hl 6 rfl) ?_
            refine lv_iload hx hb dX10_swarmOf_38 (lv_at hl 5 rfl) ?_
            refine lv_iload hx hb dX10_swarmOf_40 (lv_at hl 7 rfl) ?_
            obtain ⟨r12, hr12, h⟩ := bd_x h
            refine r_calli0 X (r_runS F X (kX10_isIn l D ad cs A  M x6 x9 _ hr12) gm_X10_157 hd_X10_isIn ⟨Nat.le_of_ble_eq_true rfl, Nat.le_of_ble_eq_true rfl⟩ rfl hl.1 rfl (Nat.le_of_ble_eq_true rfl) dX10_swarmOf_42) (fun H locs X => ?_)
            refine lv_if_eq (tgt := 56) hx hb dX10_swarmOf_45 (by decide) (fun c13 => ?_) (fun c13 => ?_)
            · have h := it_p h c13
              refine lv_iload_n hx hb dX10_swarmOf_56 rfl (lv_at hl 1 rfl) ?_
              refine lv_i2l (v := Int32.toInt64 a1) hx hb dX10_swarmOf_57 rfl ?_
              exact J58 _ _ x4 x6 x9 (Int32.toInt64 a1) x7 M ls X (lv_sub hl [0, 1, 2, 3, 4, 5, 7] rfl)  _ h hk2
            · have h := it_n h c13
              refine lv_bipush (v := 16) hx hb dX10_swarmOf_48 (by decide) ?_
              refine lv_iload_n hx hb dX10_swarmOf_50 rfl (lv_at hl 1 rfl) ?_
              refine lv_isub hx hb dX10_swarmOf_51 ?_
              refine lv_i2l (v := Int32.toInt64 ((16 : Int32) - a1)) hx hb dX10_swarmOf_52 rfl ?_
              refine lv_goto (tgt := 58) hx hb dX10_swarmOf_53 (by decide) ?_
              exact J58 _ _ x4 x6 x9 (Int32.toInt64 ((16 : Int32) - a1)) x7 M ls X (lv_sub hl [0, 1, 2, 3, 4, 5, 7] rfl)  _ h hk2
      unfold fX10_swarmOf_10 at h
      refine lv_iload hx hb dX10_swarmOf_10 (lv_at hl 5 rfl) ?_
      refine lv_iconst (v := 1) hx hb dX10_swarmOf_12 (by decide) ?_
      refine lv_aload_n hx hb dX10_swarmOf_13 rfl (lv_at hl 0 rfl) ?_
      refine gf_X10_145 F X qM0 dX10_swarmOf_14 ?_
      refine lv_ishl hx hb dX10_swarmOf_17 ?_
      refine lv_icmp_ge (tgt := 106) hx hb dX10_swarmOf_18 (by decide) (fun c14 => ?_) (fun c14 => ?_)
      · have h := it_p h c14
        obtain ⟨_, h, ey⟩ := inr_x h
        rw [ey] at hk1
        have h := h.trans (congrArg some (sm_x hk1))
        exact J106 _ _ x4 M ls X (lv_sub hl [0, 3, 4] rfl)  () h
      · have h := it_n h c14
        refine lv_lconst (v := 1) hx hb dX10_swarmOf_21 (by decide) ?_
        obtain ⟨u15, eu15, h⟩ := nm_x h
        refine topL eu15 ?_
        refine lv_lstore (lv' := [(7, .long u15), (0, .ref (ad (cO GM 0))), (1, .int a1), (2, .int a2), (3, .int a3), (4, .long x4), (6, .int x6)]) hx hb dX10_swarmOf_22 hl (by decide) rfl (fun ls hl => ?_)
        refine lv_iconst (v := 0) hx hb dX10_swarmOf_24 (by decide) ?_
        obtain ⟨u16, eu16, h⟩ := nm_x h
        refine topE eu16 ?_
        refine lv_istore (lv' := [(9, .int u16), (7, .long u15), (0, .ref (ad (cO GM 0))), (1, .int a1), (2, .int a2), (3, .int a3), (4, .long x4), (6, .int x6)]) hx hb dX10_swarmOf_25 hl (by decide) rfl (fun ls hl => ?_)
        exact L27 FU _ _ x4 x6 u15 u16 M ls X (lv_sub hl [2, 3, 4, 5, 6, 7, 1, 0] rfl)  _ h hk1
  have h := hz
  unfold fX10_swarmOf at h
  refine lv_aload_n hx hb dX10_swarmOf_0 rfl (lv_at hl 0 rfl) ?_
  obtain ⟨r17, hr17, h⟩ := bd_x h
  refine r_callv X (r_runV F X (kX10_asTold l D ad cs A  M  _ hr17) gm_X10_209 hd_X10_asTold ⟨Nat.le_of_ble_eq_true rfl, Nat.le_of_ble_eq_true rfl⟩ qM0 rfl rfl hl.1 rfl (Nat.le_of_ble_eq_true rfl) dX10_swarmOf_1) (fun H locs X => ?_)
  refine lv_lconst (v := 0) hx hb dX10_swarmOf_4 (by decide) ?_
  obtain ⟨u18, eu18, h⟩ := nm_x h
  refine topL eu18 ?_
  refine lv_lstore (lv' := [(4, .long u18), (0, .ref (ad (cO GM 0))), (1, .int a1), (2, .int a2), (3, .int a3)]) hx hb dX10_swarmOf_5 hl (by decide) rfl (fun ls hl => ?_)
  refine lv_iconst (v := 0) hx hb dX10_swarmOf_7 (by decide) ?_
  obtain ⟨u19, eu19, h⟩ := nm_x h
  refine topE eu19 ?_
  refine lv_istore (lv' := [(6, .int u19), (4, .long u18), (0, .ref (ad (cO GM 0))), (1, .int a1), (2, .int a2), (3, .int a3)]) hx hb dX10_swarmOf_8 hl (by decide) rfl (fun ls hl => ?_)
  exact L10 FU _ _ u18 u19 r17 ls X (lv_sub hl [2, 3, 4, 5, 1, 0] rfl)  () h

/-! ===== X10_swarm ===== -/
def fX10_swarm (M : Mem) (a1 : Int32) (a2 : Int32) (a3 : Int32) : Option (Int64 × Mem) :=
  (fX10_in a1 0 16).bind fun r1 =>
  (if r1 = 0 then
    (fX10_no (-2)).bind fun r3 =>
    some (r3, M)
  else
    (fX10_isHeir M a2).bind fun r4 =>
    (if r4.1 = 0 then
      (fX10_no (-2)).bind fun r6 =>
      some (r6, r4.2)
    else
      (fX10_in a3 0 1).bind fun r7 =>
      (if r7 = 0 then
        (fX10_no (-2)).bind fun r9 =>
        some (r9, r4.2)
      else
        (fX10_swarmOf r4.2 a1 a2 a3).bind fun r10 =>
        some (r10.1, r10.2))))
set_option maxHeartbeats 4000000 in
set_option maxRecDepth 100000 in
theorem kX10_swarm (l : Launch) (D : va_G) (ad : Nat → Nat) (cs : Nat → ClassId) (A : Nat → Prop)  (M : Mem) (a1 : Int32) (a2 : Int32) (a3 : Int32) (z : (Int64 × Mem)) (hz : fX10_swarm M a1 a2 a3 = some z) : Met l yX10_swarm (wsU yX10_swarm cX10_swarm 4 (some .long)) (rmo 8 229) (va_Pc [.ref (ad (cO GM 0)), .int a1, .int a2, .int a3] (Wd0 D ad cs GM A M)) (va_Ql (fun r u => (r, u) = z) (Wd0 D ad cs GM A) A) 0 0 A := by
  refine ct_l (by decide) rfl okGM (Nat.le_of_ble_eq_true rfl) ?_
  intro p e s m args below meth c Q ls F X hl RT
  have hx := F.1
  have hb := F.2.1
  have hl : lv_has ls 4 [(0, .ref (ad (cO GM 0))), (1, .int a1), (2, .int a2), (3, .int a3)] := hl
  obtain ⟨H, hH⟩ : ∃ H, H = s.heap := ⟨_, rfl⟩
  rw [← hH] at X ⊢
  obtain ⟨locs, hlocs⟩ : ∃ locs : List Loc, locs = [] := ⟨_, rfl⟩
  rw [← hlocs] at X ⊢
  clear hH hlocs
  have h := hz
  unfold fX10_swarm at h
  refine lv_iload_n hx hb dX10_swarm_0 rfl (lv_at hl 1 rfl) ?_
  refine lv_iconst (v := 0) hx hb dX10_swarm_1 (by decide) ?_
  refine lv_bipush (v := 16) hx hb dX10_swarm_2 (by decide) ?_
  obtain ⟨r1, hr1, h⟩ := bd_x h
  refine r_calli0 X (r_runS F X (kX10_in l D ad cs A  M a1 0 16 _ hr1) gm_X10_97 hd_X10_in ⟨Nat.le_of_ble_eq_true rfl, Nat.le_of_ble_eq_true rfl⟩ rfl hl.1 rfl (Nat.le_of_ble_eq_true rfl) dX10_swarm_4) (fun H locs X => ?_)
  refine lv_if_eq (tgt := 37) hx hb dX10_swarm_7 (by decide) (fun c2 => ?_) (fun c2 => ?_)
  · have h := it_p h c2
    refine lv_bipush (v := (-2)) hx hb dX10_swarm_37 (by decide) ?_
    obtain ⟨r3, hr3, h⟩ := bd_x h
    refine r_calll0 X (r_runS F X (kX10_no l D ad cs A  M (-2) _ hr3) gm_X10_297 hd_X10_no ⟨Nat.le_of_ble_eq_true rfl, Nat.le_of_ble_eq_true rfl⟩ rfl hl.1 rfl (Nat.le_of_ble_eq_true rfl) dX10_swarm_39) (fun H locs X => ?_)
    have h := sm_x h
    exact RT H locs _ _ 42 ls X h dX10_swarm_42
  · have h := it_n h c2
    refine lv_aload_n hx hb dX10_swarm_10 rfl (lv_at hl 0 rfl) ?_
    refine lv_iload_n hx hb dX10_swarm_11 rfl (lv_at hl 2 rfl) ?_
    obtain ⟨r4, hr4, h⟩ := bd_x h
    refine r_calli X (r_runV F X (kX10_isHeir l D ad cs A  M a2 _ hr4) gm_X10_133 hd_X10_isHeir ⟨Nat.le_of_ble_eq_true rfl, Nat.le_of_ble_eq_true rfl⟩ qM0 rfl rfl hl.1 rfl (Nat.le_of_ble_eq_true rfl) dX10_swarm_12) (fun H locs X => ?_)
    refine lv_if_eq (tgt := 37) hx hb dX10_swarm_15 (by decide) (fun c5 => ?_) (fun c5 => ?_)
    · have h := it_p h c5
      refine lv_bipush (v := (-2)) hx hb dX10_swarm_37 (by decide) ?_
      obtain ⟨r6, hr6, h⟩ := bd_x h
      refine r_calll0 X (r_runS F X (kX10_no l D ad cs A  r4.2 (-2) _ hr6) gm_X10_297 hd_X10_no ⟨Nat.le_of_ble_eq_true rfl, Nat.le_of_ble_eq_true rfl⟩ rfl hl.1 rfl (Nat.le_of_ble_eq_true rfl) dX10_swarm_39) (fun H locs X => ?_)
      have h := sm_x h
      exact RT H locs _ _ 42 ls X h dX10_swarm_42
    · have h := it_n h c5
      refine lv_iload_n hx hb dX10_swarm_18 rfl (lv_at hl 3 rfl) ?_
      refine lv_iconst (v := 0) hx hb dX10_swarm_19 (by decide) ?_
      refine lv_iconst (v := 1) hx hb dX10_swarm_20 (by decide) ?_
      obtain ⟨r7, hr7, h⟩ := bd_x h
      refine r_calli0 X (r_runS F X (kX10_in l D ad cs A  r4.2 a3 0 1 _ hr7) gm_X10_97 hd_X10_in ⟨Nat.le_of_ble_eq_true rfl, Nat.le_of_ble_eq_true rfl⟩ rfl hl.1 rfl (Nat.le_of_ble_eq_true rfl) dX10_swarm_21) (fun H locs X => ?_)
      refine lv_if_eq (tgt := 37) hx hb dX10_swarm_24 (by decide) (fun c8 => ?_) (fun c8 => ?_)
      · have h := it_p h c8
        refine lv_bipush (v := (-2)) hx hb dX10_swarm_37 (by decide) ?_
        obtain ⟨r9, hr9, h⟩ := bd_x h
        refine r_calll0 X (r_runS F X (kX10_no l D ad cs A  r4.2 (-2) _ hr9) gm_X10_297 hd_X10_no ⟨Nat.le_of_ble_eq_true rfl, Nat.le_of_ble_eq_true rfl⟩ rfl hl.1 rfl (Nat.le_of_ble_eq_true rfl) dX10_swarm_39) (fun H locs X => ?_)
        have h := sm_x h
        exact RT H locs _ _ 42 ls X h dX10_swarm_42
      · have h := it_n h c8
        refine lv_aload_n hx hb dX10_swarm_27 rfl (lv_at hl 0 rfl) ?_
        refine lv_iload_n hx hb dX10_swarm_28 rfl (lv_at hl 1 rfl) ?_
        refine lv_iload_n hx hb dX10_swarm_29 rfl (lv_at hl 2 rfl) ?_
        refine lv_iload_n hx hb dX10_swarm_30 rfl (lv_at hl 3 rfl) ?_
        obtain ⟨r10, hr10, h⟩ := bd_x h
        refine r_calll X (r_runV F X (kX10_swarmOf l D ad cs A  r4.2 a1 a2 a3 _ hr10) gm_X10_293 hd_X10_swarmOf ⟨Nat.le_of_ble_eq_true rfl, Nat.le_of_ble_eq_true rfl⟩ qM0 rfl rfl hl.1 rfl (Nat.le_of_ble_eq_true rfl) dX10_swarm_31) (fun H locs X => ?_)
        refine lv_goto (tgt := 42) hx hb dX10_swarm_34 (by decide) ?_
        have h := sm_x h
        exact RT H locs _ _ 42 ls X h dX10_swarm_42

/-! ===== X10_againOf ===== -/
def fX10_againOf_70 (a1 : Int32) (a2 : Int32) (a3 : Int32) (M : Mem) : Option (Int32 × Mem) :=
  (fX10_runs M).bind fun r1 =>
  (if a3 = 0 then
    (fX10_estateNow r1).bind fun r3 =>
    some (r3, r1)
  else
    some (r1 0 16 0, r1))
def fX10_againOf_26 (a1 : Int32) (a2 : Int32) (a3 : Int32) (x4 : Int32) (x5 : Int32) (M : Mem) : Option ((Int32 × Int32 × Mem) ⊕ (Int32 × Mem)) :=
  if (M 0 11 0) ≤ x5 then
    inr' (fX10_againOf_70 a1 a2 a3 M)
  else
    nm (((1103515245 : Int32) * x4) + (12345 : Int32) : Int32) fun u5 =>
    gd (¬ (M 0 2 0) = 0) <|
    gd (inB x5 20) <|
    nm (wr M 0 12 (Int32.toNatClampNeg x5) (((Int32.toUInt32 u5 >>> (Int32.toUInt32 16 &&& Int32.toUInt32 31)).toInt32) - ((Int32.toUInt32 u5 >>> (Int32.toUInt32 16 &&& Int32.toUInt32 31)).toInt32) / (M 0 2 0) * (M 0 2 0))) fun M6 =>
    nm (x5 + 1 : Int32) fun u7 =>
    some (.inl (u5, u7, M6))
def fX10_againOf_20 (a1 : Int32) (a2 : Int32) (a3 : Int32) (x4 : Int32) (v0 : Int32) (M : Mem) : Option (Int32 × Mem) :=
  nm (wr M 0 11 0 v0) fun M8 =>
  nm (0 : Int32) fun u9 =>
  lpO (fun st => fX10_againOf_26 a1 a2 a3 st.1 st.2.1 st.2.2) FU (x4, u9, M8)
def fX10_againOf (M : Mem) (a1 : Int32) (a2 : Int32) (a3 : Int32) : Option (Int32 × Mem) :=
  (fX10_asTold M).bind fun r10 =>
  nm (a1 : Int32) fun u11 =>
  (if (r10 0 2 0) = 0 then
    fX10_againOf_20 a1 a2 a3 u11 0 r10
  else
    fX10_againOf_20 a1 a2 a3 u11 a2 r10)
set_option maxHeartbeats 4000000 in
set_option maxRecDepth 100000 in
theorem kX10_againOf (l : Launch) (D : va_G) (ad : Nat → Nat) (cs : Nat → ClassId) (A : Nat → Prop)  (M : Mem) (a1 : Int32) (a2 : Int32) (a3 : Int32) (z : (Int32 × Mem)) (hz : fX10_againOf M a1 a2 a3 = some z) : Met l yX10_againOf (wsU yX10_againOf cX10_againOf 6 (some .int)) (rmo 7 200) (va_Pc [.ref (ad (cO GM 0)), .int a1, .int a2, .int a3] (Wd0 D ad cs GM A M)) (va_Qi (fun r u => (r, u) = z) (Wd0 D ad cs GM A) A) 0 0 A := by
  refine ct_i (by decide) rfl okGM (Nat.le_of_ble_eq_true rfl) ?_
  intro p e s m args below meth c Q ls F X hl RT
  have hx := F.1
  have hb := F.2.1
  have hl : lv_has ls 6 [(0, .ref (ad (cO GM 0))), (1, .int a1), (2, .int a2), (3, .int a3)] := hl
  obtain ⟨H, hH⟩ : ∃ H, H = s.heap := ⟨_, rfl⟩
  rw [← hH] at X ⊢
  obtain ⟨locs, hlocs⟩ : ∃ locs : List Loc, locs = [] := ⟨_, rfl⟩
  rw [← hlocs] at X ⊢
  clear hH hlocs
  have J70 : ∀ (H : Heap) (locs : List Loc) (M : Mem) (ls : Array Slot), Wd D ad cs GM A s H locs M → lv_has ls 6 [(0, .ref (ad (cO GM 0))), (3, .int a3)] → ∀ (_ : Unit), fX10_againOf_70 a1 a2 a3 M = some z → W p l e (rmo 7 200) s m args below meth c H locs 0 0 Q (F0 m 70 ls []) := by
    intro H locs M ls X hl  _u h
    unfold fX10_againOf_70 at h
    refine lv_aload_n hx hb dX10_againOf_70 rfl (lv_at hl 0 rfl) ?_
    obtain ⟨r1, hr1, h⟩ := bd_x h
    refine r_callv X (r_runV F X (kX10_runs l D ad cs A  M  _ hr1) gm_X10_212 hd_X10_runs ⟨Nat.le_of_ble_eq_true rfl, Nat.le_of_ble_eq_true rfl⟩ qM0 rfl rfl hl.1 rfl (Nat.le_of_ble_eq_true rfl) dX10_againOf_71) (fun H locs X => ?_)
    refine lv_iload_n hx hb dX10_againOf_74 rfl (lv_at hl 1 rfl) ?_
    refine lv_if_ne (tgt := 85) hx hb dX10_againOf_75 (by decide) (fun c2 => ?_) (fun c2 => ?_)
    · have h := it_n h c2
      refine lv_aload_n hx hb dX10_againOf_85 rfl (lv_at hl 0 rfl) ?_
      refine gf_X10_188 F X qM0 dX10_againOf_86 ?_
      have h := sm_x h
      exact RT H locs _ _ 89 ls X h dX10_againOf_89
    · have h := it_p h c2
      refine lv_aload_n hx hb dX10_againOf_78 rfl (lv_at hl 0 rfl) ?_
      obtain ⟨r3, hr3, h⟩ := bd_x h
      refine r_calli0 X (r_runV F X (kX10_estateNow l D ad cs A  r1  _ hr3) gm_X10_231 hd_X10_estateNow ⟨Nat.le_of_ble_eq_true rfl, Nat.le_of_ble_eq_true rfl⟩ qM0 rfl rfl hl.1 rfl (Nat.le_of_ble_eq_true rfl) dX10_againOf_79) (fun H locs X => ?_)
      refine lv_goto (tgt := 89) hx hb dX10_againOf_82 (by decide) ?_
      have h := sm_x h
      exact RT H locs _ _ 89 ls X h dX10_againOf_89
  have L26 : ∀ (n : Nat) (H : Heap) (locs : List Loc) (x4 : Int32) (x5 : Int32) (M : Mem) (ls : Array Slot), Wd D ad cs GM A s H locs M → lv_has ls 6 [(0, .ref (ad (cO GM 0))), (3, .int a3), (4, .int x4), (5, .int x5)] → ∀ (_ : Unit), lpO (fun st => fX10_againOf_26 a1 a2 a3 st.1 st.2.1 st.2.2) n (x4, x5, M) = some z → W p l e (rmo 7 200) s m args below meth c H locs 0 0 Q (F0 m 26 ls []) := by
    intro n
    induction n with
    | zero =>
      intro H locs x4 x5 M ls X hl  yy h
      exact lp_0 h
    | succ n1 ih26 =>
      intro H locs x4 x5 M ls X hl  _u h
      obtain ⟨y1, h, hk1⟩ := lp_x h
      unfold fX10_againOf_26 at h
      refine lv_iload hx hb dX10_againOf_26 (lv_at hl 3 rfl) ?_
      refine lv_aload_n hx hb dX10_againOf_28 rfl (lv_at hl 0 rfl) ?_
      refine gf_X10_161 F X qM0 dX10_againOf_29 ?_
      refine lv_icmp_ge (tgt := 70) hx hb dX10_againOf_32 (by decide) (fun c4 => ?_) (fun c4 => ?_)
      · have h := it_p h c4
        obtain ⟨_, h, ey⟩ := inr_x h
        rw [ey] at hk1
        have h := h.trans (congrArg some (sm_x hk1))
        exact J70 _ _ M ls X (lv_sub hl [0, 1] rfl)  () h
      · have h := it_n h c4
        refine lv_ldcw (v := 1103515245) hx hb F.2.2.2.1 (F.2.2.2.2 _ (mT6 10 rfl rfl)) dX10_againOf_35 ?_
        refine lv_iload hx hb dX10_againOf_38 (lv_at hl 2 rfl) ?_
        refine lv_imul hx hb dX10_againOf_40 ?_
        refine lv_sipush (v := 12345) hx hb dX10_againOf_41 (by decide) ?_
        refine lv_iadd hx hb dX10_againOf_44 ?_
        obtain ⟨u5, eu5, h⟩ := nm_x h
        refine topE eu5 ?_
        refine lv_istore (lv' := [(4, .int u5), (0, .ref (ad (cO GM 0))), (3, .int a3), (5, .int x5)]) hx hb dX10_againOf_45 hl (by decide) rfl (fun ls hl => ?_)
        refine lv_aload_n hx hb dX10_againOf_47 rfl (lv_at hl 1 rfl) ?_
        refine gf_X10_34 F X qM0 dX10_againOf_48 ?_
        refine lv_iload hx hb dX10_againOf_51 (lv_at hl 3 rfl) ?_
        refine lv_iload hx hb dX10_againOf_53 (lv_at hl 0 rfl) ?_
        refine lv_bipush (v := 16) hx hb dX10_againOf_55 (by decide) ?_
        refine lv_iushr (v := (Int32.toUInt32 u5 >>> (Int32.toUInt32 16 &&& Int32.toUInt32 31)).toInt32) hx hb dX10_againOf_57 rfl ?_
        refine lv_aload_n hx hb dX10_againOf_58 rfl (lv_at hl 1 rfl) ?_
        refine gf_X10_109 F X qM0 dX10_againOf_59 ?_
        obtain ⟨hn, h⟩ := gd_x h
        refine lv_irem hx hb dX10_againOf_62 hn ?_
        obtain ⟨hin, h⟩ := gd_x h
        obtain ⟨M6, eM6, h⟩ := nm_x h
        refine r_iast F X (ar_X10_12 qM0) hin dX10_againOf_63 (fun H locs X => ?_)
        have X := Wd_eq eM6 X
        obtain ⟨u7, eu7, h⟩ := nm_x h
        refine lv_iinc (v := u7) (lv' := [(5, .int u7), (4, .int u5), (0, .ref (ad (cO GM 0))), (3, .int a3)]) hx hb dX10_againOf_64 hl (k := 3) rfl (by rw [eu7]; rfl) (by decide) rfl (fun ls hl => ?_)
        refine lv_goto (tgt := 26) hx hb dX10_againOf_67 (by decide) ?_
        rw [← sm_x h] at hk1
        exact ih26 _ _ u5 u7 M6 ls X (lv_sub hl [2, 3, 1, 0] rfl)  () hk1
  have J20 : ∀ (H : Heap) (locs : List Loc) (x4 : Int32) (v0 : Int32) (M : Mem) (ls : Array Slot), Wd D ad cs GM A s H locs M → lv_has ls 6 [(0, .ref (ad (cO GM 0))), (3, .int a3), (4, .int x4)] → ∀ (_ : Unit), fX10_againOf_20 a1 a2 a3 x4 v0 M = some z → W p l e (rmo 7 200) s m args below meth c H locs 0 0 Q (F0 m 20 ls [.int v0, .ref (ad (cO GM 0))]) := by
    intro H locs x4 v0 M ls X hl  _u h
    unfold fX10_againOf_20 at h
    obtain ⟨M8, eM8, h⟩ := nm_x h
    refine pf_X10_161 F X qM0 dX10_againOf_20 (fun H locs X => ?_)
    have X := Wd_eq eM8 X
    refine lv_iconst (v := 0) hx hb dX10_againOf_23 (by decide) ?_
    obtain ⟨u9, eu9, h⟩ := nm_x h
    refine topE eu9 ?_
    refine lv_istore (lv' := [(5, .int u9), (0, .ref (ad (cO GM 0))), (3, .int a3), (4, .int x4)]) hx hb dX10_againOf_24 hl (by decide) rfl (fun ls hl => ?_)
    exact L26 FU _ _ x4 u9 M8 ls X (lv_sub hl [1, 2, 3, 0] rfl)  () h
  have h := hz
  unfold fX10_againOf at h
  refine lv_aload_n hx hb dX10_againOf_0 rfl (lv_at hl 0 rfl) ?_
  obtain ⟨r10, hr10, h⟩ := bd_x h
  refine r_callv X (r_runV F X (kX10_asTold l D ad cs A  M  _ hr10) gm_X10_209 hd_X10_asTold ⟨Nat.le_of_ble_eq_true rfl, Nat.le_of_ble_eq_true rfl⟩ qM0 rfl rfl hl.1 rfl (Nat.le_of_ble_eq_true rfl) dX10_againOf_1) (fun H locs X => ?_)
  refine lv_iload_n hx hb dX10_againOf_4 rfl (lv_at hl 1 rfl) ?_
  obtain ⟨u11, eu11, h⟩ := nm_x h
  refine topE eu11 ?_
  refine lv_istore (lv' := [(4, .int u11), (0, .ref (ad (cO GM 0))), (1, .int a1), (2, .int a2), (3, .int a3)]) hx hb dX10_againOf_5 hl (by decide) rfl (fun ls hl => ?_)
  refine lv_aload_n hx hb dX10_againOf_7 rfl (lv_at hl 1 rfl) ?_
  refine lv_aload_n hx hb dX10_againOf_8 rfl (lv_at hl 1 rfl) ?_
  refine gf_X10_109 F X qM0 dX10_againOf_9 ?_
  refine lv_if_ne (tgt := 19) hx hb dX10_againOf_12 (by decide) (fun c12 => ?_) (fun c12 => ?_)
  · have h := it_n h c12
    refine lv_iload_n hx hb dX10_againOf_19 rfl (lv_at hl 3 rfl) ?_
    exact J20 _ _ u11 a2 r10 ls X (lv_sub hl [1, 4, 0] rfl)  () h
  · have h := it_p h c12
    refine lv_iconst (v := 0) hx hb dX10_againOf_15 (by decide) ?_
    refine lv_goto (tgt := 20) hx hb dX10_againOf_16 (by decide) ?_
    exact J20 _ _ u11 0 r10 ls X (lv_sub hl [1, 4, 0] rfl)  () h

/-! ===== X10_again ===== -/
def fX10_again (M : Mem) (a1 : Int32) (a2 : Int32) (a3 : Int32) : Option (Int32 × Mem) :=
  (fX10_in a2 1 20).bind fun r1 =>
  (if r1 = 0 then
    some ((-2), M)
  else
    (fX10_in a3 0 1).bind fun r3 =>
    (if r3 = 0 then
      some ((-2), M)
    else
      (fX10_againOf M a1 a2 a3).bind fun r5 =>
      some (r5.1, r5.2)))
set_option maxHeartbeats 4000000 in
set_option maxRecDepth 100000 in
theorem kX10_again (l : Launch) (D : va_G) (ad : Nat → Nat) (cs : Nat → ClassId) (A : Nat → Prop)  (M : Mem) (a1 : Int32) (a2 : Int32) (a3 : Int32) (z : (Int32 × Mem)) (hz : fX10_again M a1 a2 a3 = some z) : Met l yX10_again (wsU yX10_again cX10_again 4 (some .int)) (rmo 8 225) (va_Pc [.ref (ad (cO GM 0)), .int a1, .int a2, .int a3] (Wd0 D ad cs GM A M)) (va_Qi (fun r u => (r, u) = z) (Wd0 D ad cs GM A) A) 0 0 A := by
  refine ct_i (by decide) rfl okGM (Nat.le_of_ble_eq_true rfl) ?_
  intro p e s m args below meth c Q ls F X hl RT
  have hx := F.1
  have hb := F.2.1
  have hl : lv_has ls 4 [(0, .ref (ad (cO GM 0))), (1, .int a1), (2, .int a2), (3, .int a3)] := hl
  obtain ⟨H, hH⟩ : ∃ H, H = s.heap := ⟨_, rfl⟩
  rw [← hH] at X ⊢
  obtain ⟨locs, hlocs⟩ : ∃ locs : List Loc, locs = [] := ⟨_, rfl⟩
  rw [← hlocs] at X ⊢
  clear hH hlocs
  have h := hz
  unfold fX10_again at h
  refine lv_iload_n hx hb dX10_again_0 rfl (lv_at hl 2 rfl) ?_
  refine lv_iconst (v := 1) hx hb dX10_again_1 (by decide) ?_
  refine lv_bipush (v := 20) hx hb dX10_again_2 (by decide) ?_
  obtain ⟨r1, hr1, h⟩ := bd_x h
  refine r_calli0 X (r_runS F X (kX10_in l D ad cs A  M a2 1 20 _ hr1) gm_X10_97 hd_X10_in ⟨Nat.le_of_ble_eq_true rfl, Nat.le_of_ble_eq_true rfl⟩ rfl hl.1 rfl (Nat.le_of_ble_eq_true rfl) dX10_again_4) (fun H locs X => ?_)
  refine lv_if_eq (tgt := 29) hx hb dX10_again_7 (by decide) (fun c2 => ?_) (fun c2 => ?_)
  · have h := it_p h c2
    refine lv_bipush (v := (-2)) hx hb dX10_again_29 (by decide) ?_
    have h := sm_x h
    exact RT H locs _ _ 31 ls X h dX10_again_31
  · have h := it_n h c2
    refine lv_iload_n hx hb dX10_again_10 rfl (lv_at hl 3 rfl) ?_
    refine lv_iconst (v := 0) hx hb dX10_again_11 (by decide) ?_
    refine lv_iconst (v := 1) hx hb dX10_again_12 (by decide) ?_
    obtain ⟨r3, hr3, h⟩ := bd_x h
    refine r_calli0 X (r_runS F X (kX10_in l D ad cs A  M a3 0 1 _ hr3) gm_X10_97 hd_X10_in ⟨Nat.le_of_ble_eq_true rfl, Nat.le_of_ble_eq_true rfl⟩ rfl hl.1 rfl (Nat.le_of_ble_eq_true rfl) dX10_again_13) (fun H locs X => ?_)
    refine lv_if_eq (tgt := 29) hx hb dX10_again_16 (by decide) (fun c4 => ?_) (fun c4 => ?_)
    · have h := it_p h c4
      refine lv_bipush (v := (-2)) hx hb dX10_again_29 (by decide) ?_
      have h := sm_x h
      exact RT H locs _ _ 31 ls X h dX10_again_31
    · have h := it_n h c4
      refine lv_aload_n hx hb dX10_again_19 rfl (lv_at hl 0 rfl) ?_
      refine lv_iload_n hx hb dX10_again_20 rfl (lv_at hl 1 rfl) ?_
      refine lv_iload_n hx hb dX10_again_21 rfl (lv_at hl 2 rfl) ?_
      refine lv_iload_n hx hb dX10_again_22 rfl (lv_at hl 3 rfl) ?_
      obtain ⟨r5, hr5, h⟩ := bd_x h
      refine r_calli X (r_runV F X (kX10_againOf l D ad cs A  M a1 a2 a3 _ hr5) gm_X10_302 hd_X10_againOf ⟨Nat.le_of_ble_eq_true rfl, Nat.le_of_ble_eq_true rfl⟩ qM0 rfl rfl hl.1 rfl (Nat.le_of_ble_eq_true rfl) dX10_again_23) (fun H locs X => ?_)
      refine lv_goto (tgt := 31) hx hb dX10_again_26 (by decide) ?_
      have h := sm_x h
      exact RT H locs _ _ 31 ls X h dX10_again_31

/-! ===== X10_sheet ===== -/
def fX10_sheet_59 (a1 : Int32) (a2 : Int32) (a3 : Int32) (x4 : Int32) (M : Mem) : Option ((Int32 × Mem) ⊕ (Int32 × Mem)) :=
  if 60 ≤ x4 then
    some (.inr (a3, M))
  else
    gd (inB (((60 : Int32) * a1) + x4) 240) <|
    nm (wr M 0 39 (Int32.toNatClampNeg (((60 : Int32) * a1) + x4)) 0) fun M2 =>
    nm (x4 + 1 : Int32) fun u3 =>
    some (.inl (u3, M2))
def fX10_sheet (M : Mem) (a1 : Int32) (a2 : Int32) (a3 : Int32) : Option (Int32 × Mem) :=
  (fX10_isSheet a1).bind fun r4 =>
  (if r4 = 0 then
    some ((-2), M)
  else
    (fX10_in a2 0 2).bind fun r6 =>
    (if r6 = 0 then
      some ((-2), M)
    else
      if a3 ≤ 60 then
        if 0 ≤ a3 then
          gd (inB a1 4) <|
          nm (wr M 0 36 (Int32.toNatClampNeg a1) 1) fun M10 =>
          gd (inB a1 4) <|
          nm (wr M10 0 37 (Int32.toNatClampNeg a1) a2) fun M11 =>
          gd (inB a1 4) <|
          nm (wr M11 0 38 (Int32.toNatClampNeg a1) a3) fun M12 =>
          nm (0 : Int32) fun u13 =>
          lpO (fun st => fX10_sheet_59 a1 a2 a3 st.1 st.2) FU (u13, M12)
        else
          (fX10_meets M 5).bind fun r14 =>
          some (r14.1, r14.2)
      else
        some ((-2), M)))
set_option maxHeartbeats 4000000 in
set_option maxRecDepth 100000 in
theorem kX10_sheet (l : Launch) (D : va_G) (ad : Nat → Nat) (cs : Nat → ClassId) (A : Nat → Prop)  (M : Mem) (a1 : Int32) (a2 : Int32) (a3 : Int32) (z : (Int32 × Mem)) (hz : fX10_sheet M a1 a2 a3 = some z) : Met l yX10_sheet (wsU yX10_sheet cX10_sheet 5 (some .int)) (rmo 3 106) (va_Pc [.ref (ad (cO GM 0)), .int a1, .int a2, .int a3] (Wd0 D ad cs GM A M)) (va_Qi (fun r u => (r, u) = z) (Wd0 D ad cs GM A) A) 0 0 A := by
  refine ct_i (by decide) rfl okGM (Nat.le_of_ble_eq_true rfl) ?_
  intro p e s m args below meth c Q ls F X hl RT
  have hx := F.1
  have hb := F.2.1
  have hl : lv_has ls 5 [(0, .ref (ad (cO GM 0))), (1, .int a1), (2, .int a2), (3, .int a3)] := hl
  obtain ⟨H, hH⟩ : ∃ H, H = s.heap := ⟨_, rfl⟩
  rw [← hH] at X ⊢
  obtain ⟨locs, hlocs⟩ : ∃ locs : List Loc, locs = [] := ⟨_, rfl⟩
  rw [← hlocs] at X ⊢
  clear hH hlocs
  have L59 : ∀ (n : Nat) (H : Heap) (locs : List Loc) (x4 : Int32) (M : Mem) (ls : Array Slot), Wd D ad cs GM A s H locs M → lv_has ls 5 [(0, .ref (ad (cO GM 0))), (1, .int a1), (3, .int a3), (4, .int x4)] → ∀ (_ : Unit), lpO (fun st => fX10_sheet_59 a1 a2 a3 st.1 st.2) n (x4, M) = some z → W p l e (rmo 3 106) s m args below meth c H locs 0 0 Q (F0 m 59 ls []) := by
    intro n
    induction n with
    | zero =>
      intro H locs x4 M ls X hl  yy h
      exact lp_0 h
    | succ n1 ih59 =>
      intro H locs x4 M ls X hl  _u h
      obtain ⟨y1, h, hk1⟩ := lp_x h
      unfold fX10_sheet_59 at h
      refine lv_iload hx hb dX10_sheet_59 (lv_at hl 3 rfl) ?_
      refine lv_bipush (v := 60) hx hb dX10_sheet_61 (by decide) ?_
      refine lv_icmp_ge (tgt := 85) hx hb dX10_sheet_63 (by decide) (fun c1 => ?_) (fun c1 => ?_)
      · have h := it_p h c1
        refine lv_iload_n hx hb dX10_sheet_85 rfl (lv_at hl 2 rfl) ?_
        have h := sm_x h
        rw [← h] at hk1
        have h := sm_x hk1
        exact RT H locs _ _ 86 ls X h dX10_sheet_86
      · have h := it_n h c1
        refine lv_aload_n hx hb dX10_sheet_66 rfl (lv_at hl 0 rfl) ?_
        refine gf_X10_89 F X qM0 dX10_sheet_67 ?_
        refine lv_bipush (v := 60) hx hb dX10_sheet_70 (by decide) ?_
        refine lv_iload_n hx hb dX10_sheet_72 rfl (lv_at hl 1 rfl) ?_
        refine lv_imul hx hb dX10_sheet_73 ?_
        refine lv_iload hx hb dX10_sheet_74 (lv_at hl 3 rfl) ?_
        refine lv_iadd hx hb dX10_sheet_76 ?_
        refine lv_iconst (v := 0) hx hb dX10_sheet_77 (by decide) ?_
        obtain ⟨hin, h⟩ := gd_x h
        obtain ⟨M2, eM2, h⟩ := nm_x h
        refine r_iast F X (ar_X10_39 qM0) hin dX10_sheet_78 (fun H locs X => ?_)
        have X := Wd_eq eM2 X
        obtain ⟨u3, eu3, h⟩ := nm_x h
        refine lv_iinc (v := u3) (lv' := [(4, .int u3), (0, .ref (ad (cO GM 0))), (1, .int a1), (3, .int a3)]) hx hb dX10_sheet_79 hl (k := 3) rfl (by rw [eu3]; rfl) (by decide) rfl (fun ls hl => ?_)
        refine lv_goto (tgt := 59) hx hb dX10_sheet_82 (by decide) ?_
        rw [← sm_x h] at hk1
        exact ih59 _ _ u3 M2 ls X (lv_sub hl [1, 2, 3, 0] rfl)  () hk1
  have h := hz
  unfold fX10_sheet at h
  refine lv_iload_n hx hb dX10_sheet_0 rfl (lv_at hl 1 rfl) ?_
  obtain ⟨r4, hr4, h⟩ := bd_x h
  refine r_calli0 X (r_runS F X (kX10_isSheet l D ad cs A  M a1 _ hr4) gm_X10_148 hd_X10_isSheet ⟨Nat.le_of_ble_eq_true rfl, Nat.le_of_ble_eq_true rfl⟩ rfl hl.1 rfl (Nat.le_of_ble_eq_true rfl) dX10_sheet_1) (fun H locs X => ?_)
  refine lv_if_eq (tgt := 22) hx hb dX10_sheet_4 (by decide) (fun c5 => ?_) (fun c5 => ?_)
  · have h := it_p h c5
    refine lv_bipush (v := (-2)) hx hb dX10_sheet_22 (by decide) ?_
    have h := sm_x h
    exact RT H locs _ _ 24 ls X h dX10_sheet_24
  · have h := it_n h c5
    refine lv_iload_n hx hb dX10_sheet_7 rfl (lv_at hl 2 rfl) ?_
    refine lv_iconst (v := 0) hx hb dX10_sheet_8 (by decide) ?_
    refine lv_iconst (v := 2) hx hb dX10_sheet_9 (by decide) ?_
    obtain ⟨r6, hr6, h⟩ := bd_x h
    refine r_calli0 X (r_runS F X (kX10_in l D ad cs A  M a2 0 2 _ hr6) gm_X10_97 hd_X10_in ⟨Nat.le_of_ble_eq_true rfl, Nat.le_of_ble_eq_true rfl⟩ rfl hl.1 rfl (Nat.le_of_ble_eq_true rfl) dX10_sheet_10) (fun H locs X => ?_)
    refine lv_if_eq (tgt := 22) hx hb dX10_sheet_13 (by decide) (fun c7 => ?_) (fun c7 => ?_)
    · have h := it_p h c7
      refine lv_bipush (v := (-2)) hx hb dX10_sheet_22 (by decide) ?_
      have h := sm_x h
      exact RT H locs _ _ 24 ls X h dX10_sheet_24
    · have h := it_n h c7
      refine lv_iload_n hx hb dX10_sheet_16 rfl (lv_at hl 3 rfl) ?_
      refine lv_bipush (v := 60) hx hb dX10_sheet_17 (by decide) ?_
      refine lv_icmp_le (tgt := 25) hx hb dX10_sheet_19 (by decide) (fun c8 => ?_) (fun c8 => ?_)
      · have h := it_p h c8
        refine lv_iload_n hx hb dX10_sheet_25 rfl (lv_at hl 3 rfl) ?_
        refine lv_if_ge (tgt := 35) hx hb dX10_sheet_26 (by decide) (fun c9 => ?_) (fun c9 => ?_)
        · have h := it_p h c9
          refine lv_aload_n hx hb dX10_sheet_35 rfl (lv_at hl 0 rfl) ?_
          refine gf_X10_79 F X qM0 dX10_sheet_36 ?_
          refine lv_iload_n hx hb dX10_sheet_39 rfl (lv_at hl 1 rfl) ?_
          refine lv_iconst (v := 1) hx hb dX10_sheet_40 (by decide) ?_
          obtain ⟨hin, h⟩ := gd_x h
          obtain ⟨M10, eM10, h⟩ := nm_x h
          refine r_zast F X (ar_X10_36 qM0) (by decide) hin dX10_sheet_41 (fun H locs X => ?_)
          have X := Wd_eq eM10 X
          refine lv_aload_n hx hb dX10_sheet_42 rfl (lv_at hl 0 rfl) ?_
          refine gf_X10_83 F X qM0 dX10_sheet_43 ?_
          refine lv_iload_n hx hb dX10_sheet_46 rfl (lv_at hl 1 rfl) ?_
          refine lv_iload_n hx hb dX10_sheet_47 rfl (lv_at hl 2 rfl) ?_
          obtain ⟨hin, h⟩ := gd_x h
          obtain ⟨M11, eM11, h⟩ := nm_x h
          refine r_iast F X (ar_X10_37 qM0) hin dX10_sheet_48 (fun H locs X => ?_)
          have X := Wd_eq eM11 X
          refine lv_aload_n hx hb dX10_sheet_49 rfl (lv_at hl 0 rfl) ?_
          refine gf_X10_86 F X qM0 dX10_sheet_50 ?_
          refine lv_iload_n hx hb dX10_sheet_53 rfl (lv_at hl 1 rfl) ?_
          refine lv_iload_n hx hb dX10_sheet_54 rfl (lv_at hl 3 rfl) ?_
          obtain ⟨hin, h⟩ := gd_x h
          obtain ⟨M12, eM12, h⟩ := nm_x h
          refine r_iast F X (ar_X10_38 qM0) hin dX10_sheet_55 (fun H locs X => ?_)
          have X := Wd_eq eM12 X
          refine lv_iconst (v := 0) hx hb dX10_sheet_56 (by decide) ?_
          obtain ⟨u13, eu13, h⟩ := nm_x h
          refine topE eu13 ?_
          refine lv_istore (lv' := [(4, .int u13), (0, .ref (ad (cO GM 0))), (1, .int a1), (2, .int a2), (3, .int a3)]) hx hb dX10_sheet_57 hl (by decide) rfl (fun ls hl => ?_)
          exact L59 FU _ _ u13 M12 ls X (lv_sub hl [1, 2, 4, 0] rfl)  () h
        · have h := it_n h c9
          refine lv_aload_n hx hb dX10_sheet_29 rfl (lv_at hl 0 rfl) ?_
          refine lv_iconst (v := 5) hx hb dX10_sheet_30 (by decide) ?_
          obtain ⟨r14, hr14, h⟩ := bd_x h
          refine r_calli X (r_runV F X (kX10_meets l D ad cs A  M 5 _ hr14) gm_X10_151 hd_X10_meets ⟨Nat.le_of_ble_eq_true rfl, Nat.le_of_ble_eq_true rfl⟩ qM0 rfl rfl hl.1 rfl (Nat.le_of_ble_eq_true rfl) dX10_sheet_31) (fun H locs X => ?_)
          have h := sm_x h
          exact RT H locs _ _ 34 ls X h dX10_sheet_34
      · have h := it_n h c8
        refine lv_bipush (v := (-2)) hx hb dX10_sheet_22 (by decide) ?_
        have h := sm_x h
        exact RT H locs _ _ 24 ls X h dX10_sheet_24

/-! ===== X10_lose ===== -/
def fX10_lose (M : Mem) (a1 : Int32) : Option (Int32 × Mem) :=
  (fX10_isSheet a1).bind fun r1 =>
  (if r1 = 0 then
    some ((-2), M)
  else
    gd (inB a1 4) <|
    (if (M 0 36 (Int32.toNatClampNeg a1)) = 0 then
      (fX10_meets M 1).bind fun r5 =>
      some (r5.1, r5.2)
    else
      gd (inB a1 4) <|
      nm (wr M 0 36 (Int32.toNatClampNeg a1) 0) fun M4 =>
      gd (inB a1 4) <|
      some (M4 0 38 (Int32.toNatClampNeg a1), M4)))
set_option maxHeartbeats 4000000 in
set_option maxRecDepth 100000 in
theorem kX10_lose (l : Launch) (D : va_G) (ad : Nat → Nat) (cs : Nat → ClassId) (A : Nat → Prop)  (M : Mem) (a1 : Int32) (z : (Int32 × Mem)) (hz : fX10_lose M a1 = some z) : Met l yX10_lose (wsU yX10_lose cX10_lose 2 (some .int)) (rmo 3 106) (va_Pc [.ref (ad (cO GM 0)), .int a1] (Wd0 D ad cs GM A M)) (va_Qi (fun r u => (r, u) = z) (Wd0 D ad cs GM A) A) 0 0 A := by
  refine ct_i (by decide) rfl okGM (Nat.le_of_ble_eq_true rfl) ?_
  intro p e s m args below meth c Q ls F X hl RT
  have hx := F.1
  have hb := F.2.1
  have hl : lv_has ls 2 [(0, .ref (ad (cO GM 0))), (1, .int a1)] := hl
  obtain ⟨H, hH⟩ : ∃ H, H = s.heap := ⟨_, rfl⟩
  rw [← hH] at X ⊢
  obtain ⟨locs, hlocs⟩ : ∃ locs : List Loc, locs = [] := ⟨_, rfl⟩
  rw [← hlocs] at X ⊢
  clear hH hlocs
  have h := hz
  unfold fX10_lose at h
  refine lv_iload_n hx hb dX10_lose_0 rfl (lv_at hl 1 rfl) ?_
  obtain ⟨r1, hr1, h⟩ := bd_x h
  refine r_calli0 X (r_runS F X (kX10_isSheet l D ad cs A  M a1 _ hr1) gm_X10_148 hd_X10_isSheet ⟨Nat.le_of_ble_eq_true rfl, Nat.le_of_ble_eq_true rfl⟩ rfl hl.1 rfl (Nat.le_of_ble_eq_true rfl) dX10_lose_1) (fun H locs X => ?_)
  refine lv_if_ne (tgt := 10) hx hb dX10_lose_4 (by decide) (fun c2 => ?_) (fun c2 => ?_)
  · have h := it_n h c2
    refine lv_aload_n hx hb dX10_lose_10 rfl (lv_at hl 0 rfl) ?_
    refine gf_X10_79 F X qM0 dX10_lose_11 ?_
    refine lv_iload_n hx hb dX10_lose_14 rfl (lv_at hl 1 rfl) ?_
    obtain ⟨hin, h⟩ := gd_x h
    refine r_zald F X (ar_X10_36 qM0) hin dX10_lose_15 ?_
    refine lv_if_ne (tgt := 25) hx hb dX10_lose_16 (by decide) (fun c3 => ?_) (fun c3 => ?_)
    · have h := it_n h c3
      refine lv_aload_n hx hb dX10_lose_25 rfl (lv_at hl 0 rfl) ?_
      refine gf_X10_79 F X qM0 dX10_lose_26 ?_
      refine lv_iload_n hx hb dX10_lose_29 rfl (lv_at hl 1 rfl) ?_
      refine lv_iconst (v := 0) hx hb dX10_lose_30 (by decide) ?_
      obtain ⟨hin, h⟩ := gd_x h
      obtain ⟨M4, eM4, h⟩ := nm_x h
      refine r_zast F X (ar_X10_36 qM0) (by decide) hin dX10_lose_31 (fun H locs X => ?_)
      have X := Wd_eq eM4 X
      refine lv_aload_n hx hb dX10_lose_32 rfl (lv_at hl 0 rfl) ?_
      refine gf_X10_86 F X qM0 dX10_lose_33 ?_
      refine lv_iload_n hx hb dX10_lose_36 rfl (lv_at hl 1 rfl) ?_
      obtain ⟨hin, h⟩ := gd_x h
      refine r_iald F X (ar_X10_38 qM0) hin dX10_lose_37 ?_
      have h := sm_x h
      exact RT H locs _ _ 38 ls X h dX10_lose_38
    · have h := it_p h c3
      refine lv_aload_n hx hb dX10_lose_19 rfl (lv_at hl 0 rfl) ?_
      refine lv_iconst (v := 1) hx hb dX10_lose_20 (by decide) ?_
      obtain ⟨r5, hr5, h⟩ := bd_x h
      refine r_calli X (r_runV F X (kX10_meets l D ad cs A  M 1 _ hr5) gm_X10_151 hd_X10_meets ⟨Nat.le_of_ble_eq_true rfl, Nat.le_of_ble_eq_true rfl⟩ qM0 rfl rfl hl.1 rfl (Nat.le_of_ble_eq_true rfl) dX10_lose_21) (fun H locs X => ?_)
      have h := sm_x h
      exact RT H locs _ _ 24 ls X h dX10_lose_24
  · have h := it_p h c2
    refine lv_bipush (v := (-2)) hx hb dX10_lose_7 (by decide) ?_
    have h := sm_x h
    exact RT H locs _ _ 9 ls X h dX10_lose_9

/-! ===== X10_lacks ===== -/
def fX10_lacks (M : Mem) (a1 : Int32) (a2 : Int32) (a3 : Int32) : Option Int32 :=
  gd (inB a1 4) <|
  (if (M 0 36 (Int32.toNatClampNeg a1)) = 0 then
    some 1
  else
    gd (inB a1 4) <|
    (if (M 0 37 (Int32.toNatClampNeg a1)) = a2 then
      gd (inB a1 4) <|
      (fX10_in a3 0 ((M 0 38 (Int32.toNatClampNeg a1)) - (1 : Int32))).bind fun r3 =>
      (if r3 = 0 then
        some 2
      else
        some 0)
    else
      some 3))
set_option maxHeartbeats 4000000 in
set_option maxRecDepth 100000 in
theorem kX10_lacks (l : Launch) (D : va_G) (ad : Nat → Nat) (cs : Nat → ClassId) (A : Nat → Prop)  (M : Mem) (a1 : Int32) (a2 : Int32) (a3 : Int32) (z : Int32) (hz : fX10_lacks M a1 a2 a3 = some z) : Met l yX10_lacks (wsU yX10_lacks cX10_lacks 4 (some .int)) (rmo 2 86) (va_Pc [.ref (ad (cO GM 0)), .int a1, .int a2, .int a3] (Wd0 D ad cs GM A M)) (va_Qi (fun r u => (r, u) = (z, M)) (Wd0 D ad cs GM A) A) 0 0 A := by
  refine ct_i0 (by decide) rfl okGM (Nat.le_of_ble_eq_true rfl) ?_
  intro p e s m args below meth c Q ls F X hl RT
  have hx := F.1
  have hb := F.2.1
  have hl : lv_has ls 4 [(0, .ref (ad (cO GM 0))), (1, .int a1), (2, .int a2), (3, .int a3)] := hl
  obtain ⟨H, hH⟩ : ∃ H, H = s.heap := ⟨_, rfl⟩
  rw [← hH] at X ⊢
  obtain ⟨locs, hlocs⟩ : ∃ locs : List Loc, locs = [] := ⟨_, rfl⟩
  rw [← hlocs] at X ⊢
  clear hH hlocs
  have h := hz
  unfold fX10_lacks at h
  refine lv_aload_n hx hb dX10_lacks_0 rfl (lv_at hl 0 rfl) ?_
  refine gf_X10_79 F X qM0 dX10_lacks_1 ?_
  refine lv_iload_n hx hb dX10_lacks_4 rfl (lv_at hl 1 rfl) ?_
  obtain ⟨hin, h⟩ := gd_x h
  refine r_zald F X (ar_X10_36 qM0) hin dX10_lacks_5 ?_
  refine lv_if_ne (tgt := 13) hx hb dX10_lacks_6 (by decide) (fun c1 => ?_) (fun c1 => ?_)
  · have h := it_n h c1
    refine lv_aload_n hx hb dX10_lacks_13 rfl (lv_at hl 0 rfl) ?_
    refine gf_X10_83 F X qM0 dX10_lacks_14 ?_
    refine lv_iload_n hx hb dX10_lacks_17 rfl (lv_at hl 1 rfl) ?_
    obtain ⟨hin, h⟩ := gd_x h
    refine r_iald F X (ar_X10_37 qM0) hin dX10_lacks_18 ?_
    refine lv_iload_n hx hb dX10_lacks_19 rfl (lv_at hl 2 rfl) ?_
    refine lv_icmp_eq (tgt := 27) hx hb dX10_lacks_20 (by decide) (fun c2 => ?_) (fun c2 => ?_)
    · have h := it_p h c2
      refine lv_iload_n hx hb dX10_lacks_27 rfl (lv_at hl 3 rfl) ?_
      refine lv_iconst (v := 0) hx hb dX10_lacks_28 (by decide) ?_
      refine lv_aload_n hx hb dX10_lacks_29 rfl (lv_at hl 0 rfl) ?_
      refine gf_X10_86 F X qM0 dX10_lacks_30 ?_
      refine lv_iload_n hx hb dX10_lacks_33 rfl (lv_at hl 1 rfl) ?_
      obtain ⟨hin, h⟩ := gd_x h
      refine r_iald F X (ar_X10_38 qM0) hin dX10_lacks_34 ?_
      refine lv_iconst (v := 1) hx hb dX10_lacks_35 (by decide) ?_
      refine lv_isub hx hb dX10_lacks_36 ?_
      obtain ⟨r3, hr3, h⟩ := bd_x h
      refine r_calli0 X (r_runS F X (kX10_in l D ad cs A  M a3 0 ((M 0 38 (Int32.toNatClampNeg a1)) - (1 : Int32)) _ hr3) gm_X10_97 hd_X10_in ⟨Nat.le_of_ble_eq_true rfl, Nat.le_of_ble_eq_true rfl⟩ rfl hl.1 rfl (Nat.le_of_ble_eq_true rfl) dX10_lacks_37) (fun H locs X => ?_)
      refine lv_if_eq (tgt := 47) hx hb dX10_lacks_40 (by decide) (fun c4 => ?_) (fun c4 => ?_)
      · have h := it_p h c4
        refine lv_iconst (v := 2) hx hb dX10_lacks_47 (by decide) ?_
        have h := sm_x h
        exact RT H locs _ 48 ls X h dX10_lacks_48
      · have h := it_n h c4
        refine lv_iconst (v := 0) hx hb dX10_lacks_43 (by decide) ?_
        refine lv_goto (tgt := 48) hx hb dX10_lacks_44 (by decide) ?_
        have h := sm_x h
        exact RT H locs _ 48 ls X h dX10_lacks_48
    · have h := it_n h c2
      refine lv_iconst (v := 3) hx hb dX10_lacks_23 (by decide) ?_
      refine lv_goto (tgt := 48) hx hb dX10_lacks_24 (by decide) ?_
      have h := sm_x h
      exact RT H locs _ 48 ls X h dX10_lacks_48
  · have h := it_p h c1
    refine lv_iconst (v := 1) hx hb dX10_lacks_9 (by decide) ?_
    refine lv_goto (tgt := 48) hx hb dX10_lacks_10 (by decide) ?_
    have h := sm_x h
    exact RT H locs _ 48 ls X h dX10_lacks_48

/-! ===== X10_keep ===== -/
def fX10_keep (M : Mem) (a1 : Int32) (a2 : Int32) (a3 : Int32) : Option Mem :=
  gd (inB a1 4) <|
  (if (M 0 37 (Int32.toNatClampNeg a1)) = 0 then
    gd (inB (((60 : Int32) * a1) + a2) 240) <|
    nm (wr M 0 39 (Int32.toNatClampNeg (((60 : Int32) * a1) + a2)) ((Int32.toInt8 a3).toInt32)) fun M5 =>
    some M5
  else
    gd (inB a1 4) <|
    (if (M 0 37 (Int32.toNatClampNeg a1)) = 1 then
      gd (inB (((60 : Int32) * a1) + a2) 240) <|
      nm (wr M 0 39 (Int32.toNatClampNeg (((60 : Int32) * a1) + a2)) ((Int32.toInt16 a3).toInt32)) fun M4 =>
      some M4
    else
      gd (inB (((60 : Int32) * a1) + a2) 240) <|
      nm (wr M 0 39 (Int32.toNatClampNeg (((60 : Int32) * a1) + a2)) a3) fun M3 =>
      some M3))
set_option maxHeartbeats 4000000 in
set_option maxRecDepth 100000 in
theorem kX10_keep (l : Launch) (D : va_G) (ad : Nat → Nat) (cs : Nat → ClassId) (A : Nat → Prop)  (M : Mem) (a1 : Int32) (a2 : Int32) (a3 : Int32) (z : Mem) (hz : fX10_keep M a1 a2 a3 = some z) : Met l yX10_keep (wsU yX10_keep cX10_keep 4 none) (rmo 1 64) (va_Pc [.ref (ad (cO GM 0)), .int a1, .int a2, .int a3] (Wd0 D ad cs GM A M)) (va_Qv (fun u => u = z) (Wd0 D ad cs GM A) A) 0 0 A := by
  refine ct_v (by decide) rfl okGM (Nat.le_of_ble_eq_true rfl) ?_
  intro p e s m args below meth c Q ls F X hl RT
  have hx := F.1
  have hb := F.2.1
  have hl : lv_has ls 4 [(0, .ref (ad (cO GM 0))), (1, .int a1), (2, .int a2), (3, .int a3)] := hl
  obtain ⟨H, hH⟩ : ∃ H, H = s.heap := ⟨_, rfl⟩
  rw [← hH] at X ⊢
  obtain ⟨locs, hlocs⟩ : ∃ locs : List Loc, locs = [] := ⟨_, rfl⟩
  rw [← hlocs] at X ⊢
  clear hH hlocs
  have h := hz
  unfold fX10_keep at h
  refine lv_aload_n hx hb dX10_keep_0 rfl (lv_at hl 0 rfl) ?_
  refine gf_X10_89 F X qM0 dX10_keep_1 ?_
  refine lv_bipush (v := 60) hx hb dX10_keep_4 (by decide) ?_
  refine lv_iload_n hx hb dX10_keep_6 rfl (lv_at hl 1 rfl) ?_
  refine lv_imul hx hb dX10_keep_7 ?_
  refine lv_iload_n hx hb dX10_keep_8 rfl (lv_at hl 2 rfl) ?_
  refine lv_iadd hx hb dX10_keep_9 ?_
  refine lv_aload_n hx hb dX10_keep_10 rfl (lv_at hl 0 rfl) ?_
  refine gf_X10_83 F X qM0 dX10_keep_11 ?_
  refine lv_iload_n hx hb dX10_keep_14 rfl (lv_at hl 1 rfl) ?_
  obtain ⟨hin, h⟩ := gd_x h
  refine r_iald F X (ar_X10_37 qM0) hin dX10_keep_15 ?_
  refine lv_if_ne (tgt := 24) hx hb dX10_keep_16 (by decide) (fun c1 => ?_) (fun c1 => ?_)
  · have h := it_n h c1
    refine lv_aload_n hx hb dX10_keep_24 rfl (lv_at hl 0 rfl) ?_
    refine gf_X10_83 F X qM0 dX10_keep_25 ?_
    refine lv_iload_n hx hb dX10_keep_28 rfl (lv_at hl 1 rfl) ?_
    obtain ⟨hin, h⟩ := gd_x h
    refine r_iald F X (ar_X10_37 qM0) hin dX10_keep_29 ?_
    refine lv_iconst (v := 1) hx hb dX10_keep_30 (by decide) ?_
    refine lv_icmp_ne (tgt := 39) hx hb dX10_keep_31 (by decide) (fun c2 => ?_) (fun c2 => ?_)
    · have h := it_n h c2
      refine lv_iload_n hx hb dX10_keep_39 rfl (lv_at hl 3 rfl) ?_
      obtain ⟨hin, h⟩ := gd_x h
      obtain ⟨M3, eM3, h⟩ := nm_x h
      refine r_iast F X (ar_X10_39 qM0) hin dX10_keep_40 (fun H locs X => ?_)
      have X := Wd_eq eM3 X
      have h := sm_x h
      exact RT H locs _ 41 ls X h dX10_keep_41
    · have h := it_p h c2
      refine lv_iload_n hx hb dX10_keep_34 rfl (lv_at hl 3 rfl) ?_
      refine lv_i2s (v := (Int32.toInt16 a3).toInt32) hx hb dX10_keep_35 rfl ?_
      refine lv_goto (tgt := 40) hx hb dX10_keep_36 (by decide) ?_
      obtain ⟨hin, h⟩ := gd_x h
      obtain ⟨M4, eM4, h⟩ := nm_x h
      refine r_iast F X (ar_X10_39 qM0) hin dX10_keep_40 (fun H locs X => ?_)
      have X := Wd_eq eM4 X
      have h := sm_x h
      exact RT H locs _ 41 ls X h dX10_keep_41
  · have h := it_p h c1
    refine lv_iload_n hx hb dX10_keep_19 rfl (lv_at hl 3 rfl) ?_
    refine lv_i2b (v := (Int32.toInt8 a3).toInt32) hx hb dX10_keep_20 rfl ?_
    refine lv_goto (tgt := 40) hx hb dX10_keep_21 (by decide) ?_
    obtain ⟨hin, h⟩ := gd_x h
    obtain ⟨M5, eM5, h⟩ := nm_x h
    refine r_iast F X (ar_X10_39 qM0) hin dX10_keep_40 (fun H locs X => ?_)
    have X := Wd_eq eM5 X
    have h := sm_x h
    exact RT H locs _ 41 ls X h dX10_keep_41

/-! ===== X10_put ===== -/
def fX10_put (M : Mem) (a1 : Int32) (a2 : Int32) (a3 : Int32) (a4 : Int32) : Option (Int32 × Mem) :=
  (fX10_isSheet a1).bind fun r1 =>
  (if r1 = 0 then
    some ((-2), M)
  else
    (fX10_in a2 0 2).bind fun r3 =>
    (if r3 = 0 then
      some ((-2), M)
    else
      (fX10_lacks M a1 a2 a3).bind fun r5 =>
      nm (r5 : Int32) fun u6 =>
      (if u6 ≤ 0 then
        (fX10_keep M a1 a3 a4).bind fun r8 =>
        some (1, r8)
      else
        (fX10_meets M u6).bind fun r9 =>
        some (r9.1, r9.2))))
set_option maxHeartbeats 4000000 in
set_option maxRecDepth 100000 in
theorem kX10_put (l : Launch) (D : va_G) (ad : Nat → Nat) (cs : Nat → ClassId) (A : Nat → Prop)  (M : Mem) (a1 : Int32) (a2 : Int32) (a3 : Int32) (a4 : Int32) (z : (Int32 × Mem)) (hz : fX10_put M a1 a2 a3 a4 = some z) : Met l yX10_put (wsU yX10_put cX10_put 6 (some .int)) (rmo 3 109) (va_Pc [.ref (ad (cO GM 0)), .int a1, .int a2, .int a3, .int a4] (Wd0 D ad cs GM A M)) (va_Qi (fun r u => (r, u) = z) (Wd0 D ad cs GM A) A) 0 0 A := by
  refine ct_i (by decide) rfl okGM (Nat.le_of_ble_eq_true rfl) ?_
  intro p e s m args below meth c Q ls F X hl RT
  have hx := F.1
  have hb := F.2.1
  have hl : lv_has ls 6 [(0, .ref (ad (cO GM 0))), (1, .int a1), (2, .int a2), (3, .int a3), (4, .int a4)] := hl
  obtain ⟨H, hH⟩ : ∃ H, H = s.heap := ⟨_, rfl⟩
  rw [← hH] at X ⊢
  obtain ⟨locs, hlocs⟩ : ∃ locs : List Loc, locs = [] := ⟨_, rfl⟩
  rw [← hlocs] at X ⊢
  clear hH hlocs
  have h := hz
  unfold fX10_put at h
  refine lv_iload_n hx hb dX10_put_0 rfl (lv_at hl 1 rfl) ?_
  obtain ⟨r1, hr1, h⟩ := bd_x h
  refine r_calli0 X (r_runS F X (kX10_isSheet l D ad cs A  M a1 _ hr1) gm_X10_148 hd_X10_isSheet ⟨Nat.le_of_ble_eq_true rfl, Nat.le_of_ble_eq_true rfl⟩ rfl hl.1 rfl (Nat.le_of_ble_eq_true rfl) dX10_put_1) (fun H locs X => ?_)
  refine lv_if_eq (tgt := 16) hx hb dX10_put_4 (by decide) (fun c2 => ?_) (fun c2 => ?_)
  · have h := it_p h c2
    refine lv_bipush (v := (-2)) hx hb dX10_put_16 (by decide) ?_
    have h := sm_x h
    exact RT H locs _ _ 18 ls X h dX10_put_18
  · have h := it_n h c2
    refine lv_iload_n hx hb dX10_put_7 rfl (lv_at hl 2 rfl) ?_
    refine lv_iconst (v := 0) hx hb dX10_put_8 (by decide) ?_
    refine lv_iconst (v := 2) hx hb dX10_put_9 (by decide) ?_
    obtain ⟨r3, hr3, h⟩ := bd_x h
    refine r_calli0 X (r_runS F X (kX10_in l D ad cs A  M a2 0 2 _ hr3) gm_X10_97 hd_X10_in ⟨Nat.le_of_ble_eq_true rfl, Nat.le_of_ble_eq_true rfl⟩ rfl hl.1 rfl (Nat.le_of_ble_eq_true rfl) dX10_put_10) (fun H locs X => ?_)
    refine lv_if_ne (tgt := 19) hx hb dX10_put_13 (by decide) (fun c4 => ?_) (fun c4 => ?_)
    · have h := it_n h c4
      refine lv_aload_n hx hb dX10_put_19 rfl (lv_at hl 0 rfl) ?_
      refine lv_iload_n hx hb dX10_put_20 rfl (lv_at hl 1 rfl) ?_
      refine lv_iload_n hx hb dX10_put_21 rfl (lv_at hl 2 rfl) ?_
      refine lv_iload_n hx hb dX10_put_22 rfl (lv_at hl 3 rfl) ?_
      obtain ⟨r5, hr5, h⟩ := bd_x h
      refine r_calli0 X (r_runV F X (kX10_lacks l D ad cs A  M a1 a2 a3 _ hr5) gm_X10_308 hd_X10_lacks ⟨Nat.le_of_ble_eq_true rfl, Nat.le_of_ble_eq_true rfl⟩ qM0 rfl rfl hl.1 rfl (Nat.le_of_ble_eq_true rfl) dX10_put_23) (fun H locs X => ?_)
      obtain ⟨u6, eu6, h⟩ := nm_x h
      refine topE eu6 ?_
      refine lv_istore (lv' := [(5, .int u6), (0, .ref (ad (cO GM 0))), (1, .int a1), (2, .int a2), (3, .int a3), (4, .int a4)]) hx hb dX10_put_26 hl (by decide) rfl (fun ls hl => ?_)
      refine lv_iload hx hb dX10_put_28 (lv_at hl 0 rfl) ?_
      refine lv_if_le (tgt := 40) hx hb dX10_put_30 (by decide) (fun c7 => ?_) (fun c7 => ?_)
      · have h := it_p h c7
        refine lv_aload_n hx hb dX10_put_40 rfl (lv_at hl 1 rfl) ?_
        refine lv_iload_n hx hb dX10_put_41 rfl (lv_at hl 2 rfl) ?_
        refine lv_iload_n hx hb dX10_put_42 rfl (lv_at hl 4 rfl) ?_
        refine lv_iload hx hb dX10_put_43 (lv_at hl 5 rfl) ?_
        obtain ⟨r8, hr8, h⟩ := bd_x h
        refine r_callv X (r_runV F X (kX10_keep l D ad cs A  M a1 a3 a4 _ hr8) gm_X10_311 hd_X10_keep ⟨Nat.le_of_ble_eq_true rfl, Nat.le_of_ble_eq_true rfl⟩ qM0 rfl rfl hl.1 rfl (Nat.le_of_ble_eq_true rfl) dX10_put_45) (fun H locs X => ?_)
        refine lv_iconst (v := 1) hx hb dX10_put_48 (by decide) ?_
        have h := sm_x h
        exact RT H locs _ _ 49 ls X h dX10_put_49
      · have h := it_n h c7
        refine lv_aload_n hx hb dX10_put_33 rfl (lv_at hl 1 rfl) ?_
        refine lv_iload hx hb dX10_put_34 (lv_at hl 0 rfl) ?_
        obtain ⟨r9, hr9, h⟩ := bd_x h
        refine r_calli X (r_runV F X (kX10_meets l D ad cs A  M u6 _ hr9) gm_X10_151 hd_X10_meets ⟨Nat.le_of_ble_eq_true rfl, Nat.le_of_ble_eq_true rfl⟩ qM0 rfl rfl hl.1 rfl (Nat.le_of_ble_eq_true rfl) dX10_put_36) (fun H locs X => ?_)
        have h := sm_x h
        exact RT H locs _ _ 39 ls X h dX10_put_39
    · have h := it_p h c4
      refine lv_bipush (v := (-2)) hx hb dX10_put_16 (by decide) ?_
      have h := sm_x h
      exact RT H locs _ _ 18 ls X h dX10_put_18

/-! ===== X10_get ===== -/
def fX10_get (M : Mem) (a1 : Int32) (a2 : Int32) (a3 : Int32) : Option (Int32 × Mem) :=
  (fX10_isSheet a1).bind fun r1 =>
  (if r1 = 0 then
    some ((-2147483648), M)
  else
    (fX10_in a2 0 2).bind fun r3 =>
    (if r3 = 0 then
      some ((-2147483648), M)
    else
      (fX10_lacks M a1 a2 a3).bind fun r5 =>
      nm (r5 : Int32) fun u6 =>
      (if u6 ≤ 0 then
        gd (inB (((60 : Int32) * a1) + a3) 240) <|
        some (M 0 39 (Int32.toNatClampNeg (((60 : Int32) * a1) + a3)), M)
      else
        nm (wr M 0 41 0 u6) fun M8 =>
        some ((-2147483648), M8))))
set_option maxHeartbeats 4000000 in
set_option maxRecDepth 100000 in
theorem kX10_get (l : Launch) (D : va_G) (ad : Nat → Nat) (cs : Nat → ClassId) (A : Nat → Prop)  (M : Mem) (a1 : Int32) (a2 : Int32) (a3 : Int32) (z : (Int32 × Mem)) (hz : fX10_get M a1 a2 a3 = some z) : Met l yX10_get (wsU yX10_get cX10_get 5 (some .int)) (rmo 3 109) (va_Pc [.ref (ad (cO GM 0)), .int a1, .int a2, .int a3] (Wd0 D ad cs GM A M)) (va_Qi (fun r u => (r, u) = z) (Wd0 D ad cs GM A) A) 0 0 A := by
  refine ct_i (by decide) rfl okGM (Nat.le_of_ble_eq_true rfl) ?_
  intro p e s m args below meth c Q ls F X hl RT
  have hx := F.1
  have hb := F.2.1
  have hl : lv_has ls 5 [(0, .ref (ad (cO GM 0))), (1, .int a1), (2, .int a2), (3, .int a3)] := hl
  obtain ⟨H, hH⟩ : ∃ H, H = s.heap := ⟨_, rfl⟩
  rw [← hH] at X ⊢
  obtain ⟨locs, hlocs⟩ : ∃ locs : List Loc, locs = [] := ⟨_, rfl⟩
  rw [← hlocs] at X ⊢
  clear hH hlocs
  have h := hz
  unfold fX10_get at h
  refine lv_iload_n hx hb dX10_get_0 rfl (lv_at hl 1 rfl) ?_
  obtain ⟨r1, hr1, h⟩ := bd_x h
  refine r_calli0 X (r_runS F X (kX10_isSheet l D ad cs A  M a1 _ hr1) gm_X10_148 hd_X10_isSheet ⟨Nat.le_of_ble_eq_true rfl, Nat.le_of_ble_eq_true rfl⟩ rfl hl.1 rfl (Nat.le_of_ble_eq_true rfl) dX10_get_1) (fun H locs X => ?_)
  refine lv_if_eq (tgt := 16) hx hb dX10_get_4 (by decide) (fun c2 => ?_) (fun c2 => ?_)
  · have h := it_p h c2
    refine lv_ldcw (v := (-2147483648)) hx hb F.2.2.2.1 (F.2.2.2.2 _ (mT6 35 rfl rfl)) dX10_get_16 ?_
    have h := sm_x h
    exact RT H locs _ _ 19 ls X h dX10_get_19
  · have h := it_n h c2
    refine lv_iload_n hx hb dX10_get_7 rfl (lv_at hl 2 rfl) ?_
    refine lv_iconst (v := 0) hx hb dX10_get_8 (by decide) ?_
    refine lv_iconst (v := 2) hx hb dX10_get_9 (by decide) ?_
    obtain ⟨r3, hr3, h⟩ := bd_x h
    refine r_calli0 X (r_runS F X (kX10_in l D ad cs A  M a2 0 2 _ hr3) gm_X10_97 hd_X10_in ⟨Nat.le_of_ble_eq_true rfl, Nat.le_of_ble_eq_true rfl⟩ rfl hl.1 rfl (Nat.le_of_ble_eq_true rfl) dX10_get_10) (fun H locs X => ?_)
    refine lv_if_ne (tgt := 20) hx hb dX10_get_13 (by decide) (fun c4 => ?_) (fun c4 => ?_)
    · have h := it_n h c4
      refine lv_aload_n hx hb dX10_get_20 rfl (lv_at hl 0 rfl) ?_
      refine lv_iload_n hx hb dX10_get_21 rfl (lv_at hl 1 rfl) ?_
      refine lv_iload_n hx hb dX10_get_22 rfl (lv_at hl 2 rfl) ?_
      refine lv_iload_n hx hb dX10_get_23 rfl (lv_at hl 3 rfl) ?_
      obtain ⟨r5, hr5, h⟩ := bd_x h
      refine r_calli0 X (r_runV F X (kX10_lacks l D ad cs A  M a1 a2 a3 _ hr5) gm_X10_308 hd_X10_lacks ⟨Nat.le_of_ble_eq_true rfl, Nat.le_of_ble_eq_true rfl⟩ qM0 rfl rfl hl.1 rfl (Nat.le_of_ble_eq_true rfl) dX10_get_24) (fun H locs X => ?_)
      obtain ⟨u6, eu6, h⟩ := nm_x h
      refine topE eu6 ?_
      refine lv_istore (lv' := [(4, .int u6), (0, .ref (ad (cO GM 0))), (1, .int a1), (2, .int a2), (3, .int a3)]) hx hb dX10_get_27 hl (by decide) rfl (fun ls hl => ?_)
      refine lv_iload hx hb dX10_get_29 (lv_at hl 0 rfl) ?_
      refine lv_if_le (tgt := 44) hx hb dX10_get_31 (by decide) (fun c7 => ?_) (fun c7 => ?_)
      · have h := it_p h c7
        refine lv_aload_n hx hb dX10_get_44 rfl (lv_at hl 1 rfl) ?_
        refine gf_X10_89 F X qM0 dX10_get_45 ?_
        refine lv_bipush (v := 60) hx hb dX10_get_48 (by decide) ?_
        refine lv_iload_n hx hb dX10_get_50 rfl (lv_at hl 2 rfl) ?_
        refine lv_imul hx hb dX10_get_51 ?_
        refine lv_iload_n hx hb dX10_get_52 rfl (lv_at hl 4 rfl) ?_
        refine lv_iadd hx hb dX10_get_53 ?_
        obtain ⟨hin, h⟩ := gd_x h
        refine r_iald F X (ar_X10_39 qM0) hin dX10_get_54 ?_
        have h := sm_x h
        exact RT H locs _ _ 55 ls X h dX10_get_55
      · have h := it_n h c7
        refine lv_aload_n hx hb dX10_get_34 rfl (lv_at hl 1 rfl) ?_
        refine lv_iload hx hb dX10_get_35 (lv_at hl 0 rfl) ?_
        obtain ⟨M8, eM8, h⟩ := nm_x h
        refine pf_X10_305 F X qM0 dX10_get_37 (fun H locs X => ?_)
        have X := Wd_eq eM8 X
        refine lv_ldcw (v := (-2147483648)) hx hb F.2.2.2.1 (F.2.2.2.2 _ (mT6 35 rfl rfl)) dX10_get_40 ?_
        have h := sm_x h
        exact RT H locs _ _ 43 ls X h dX10_get_43
    · have h := it_p h c4
      refine lv_ldcw (v := (-2147483648)) hx hb F.2.2.2.1 (F.2.2.2.2 _ (mT6 35 rfl rfl)) dX10_get_16 ?_
      have h := sm_x h
      exact RT H locs _ _ 19 ls X h dX10_get_19

/-! ===== X10_copy ===== -/
def fX10_copy_157 (a1 : Int32) (a2 : Int32) (a3 : Int32) (a4 : Int32) (a5 : Int32) (x6 : Int32) (M : Mem) : Option ((Int32 × Mem) ⊕ (Int32 × Mem)) :=
  if a5 ≤ x6 then
    some (.inr (1, M))
  else
    gd (inB x6 60) <|
    gd (inB ((((60 : Int32) * a3) + a4) + x6) 240) <|
    nm (wr M 0 39 (Int32.toNatClampNeg ((((60 : Int32) * a3) + a4) + x6)) (M 0 40 (Int32.toNatClampNeg x6))) fun M2 =>
    nm (x6 + 1 : Int32) fun u3 =>
    some (.inl (u3, M2))
def fX10_copy_154 (a1 : Int32) (a2 : Int32) (a3 : Int32) (a4 : Int32) (a5 : Int32) (M : Mem) : Option (Int32 × Mem) :=
  nm (0 : Int32) fun u4 =>
  lpO (fun st => fX10_copy_157 a1 a2 a3 a4 a5 st.1 st.2) FU (u4, M)
def fX10_copy_120 (a1 : Int32) (a2 : Int32) (a3 : Int32) (a4 : Int32) (a5 : Int32) (x6 : Int32) (M : Mem) : Option ((Int32 × Mem) ⊕ (Int32 × Mem)) :=
  if a5 ≤ x6 then
    inr' (fX10_copy_154 a1 a2 a3 a4 a5 M)
  else
    gd (inB ((((60 : Int32) * a1) + a2) + x6) 240) <|
    gd (inB x6 60) <|
    nm (wr M 0 40 (Int32.toNatClampNeg x6) (M 0 39 (Int32.toNatClampNeg ((((60 : Int32) * a1) + a2) + x6)))) fun M6 =>
    nm (x6 + 1 : Int32) fun u7 =>
    some (.inl (u7, M6))
def fX10_copy (M : Mem) (a1 : Int32) (a2 : Int32) (a3 : Int32) (a4 : Int32) (a5 : Int32) : Option (Int32 × Mem) :=
  (fX10_isSheet a1).bind fun r8 =>
  (if r8 = 0 then
    some ((-2), M)
  else
    (fX10_isSheet a3).bind fun r10 =>
    (if r10 = 0 then
      some ((-2), M)
    else
      gd (inB a1 4) <|
      (if (M 0 36 (Int32.toNatClampNeg a1)) = 0 then
        (fX10_meets M 1).bind fun r13 =>
        some (r13.1, r13.2)
      else
        gd (inB a3 4) <|
        (if (M 0 36 (Int32.toNatClampNeg a3)) = 0 then
          (fX10_meets M 1).bind fun r28 =>
          some (r28.1, r28.2)
        else
          gd (inB a1 4) <|
          gd (inB a3 4) <|
          (if (M 0 37 (Int32.toNatClampNeg a1)) = (M 0 37 (Int32.toNatClampNeg a3)) then
            if a2 < 0 then
              (fX10_meets M 2).bind fun r17 =>
              some (r17.1, r17.2)
            else
              if a4 < 0 then
                (fX10_meets M 2).bind fun r19 =>
                some (r19.1, r19.2)
              else
                if a5 < 0 then
                  (fX10_meets M 2).bind fun r21 =>
                  some (r21.1, r21.2)
                else
                  gd (inB a1 4) <|
                  (if 0 < (lg_cmp ((Int32.toInt64 a2) + (Int32.toInt64 a5)) (Int32.toInt64 (M 0 38 (Int32.toNatClampNeg a1)))) then
                    (fX10_meets M 2).bind fun r23 =>
                    some (r23.1, r23.2)
                  else
                    gd (inB a3 4) <|
                    (if (lg_cmp ((Int32.toInt64 a4) + (Int32.toInt64 a5)) (Int32.toInt64 (M 0 38 (Int32.toNatClampNeg a3)))) ≤ 0 then
                      nm (0 : Int32) fun u25 =>
                      lpO (fun st => fX10_copy_120 a1 a2 a3 a4 a5 st.1 st.2) FU (u25, M)
                    else
                      (fX10_meets M 2).bind fun r26 =>
                      some (r26.1, r26.2)))
          else
            (fX10_meets M 4).bind fun r27 =>
            some (r27.1, r27.2))))))
set_option maxHeartbeats 4000000 in
set_option maxRecDepth 100000 in
theorem kX10_copy (l : Launch) (D : va_G) (ad : Nat → Nat) (cs : Nat → ClassId) (A : Nat → Prop)  (M : Mem) (a1 : Int32) (a2 : Int32) (a3 : Int32) (a4 : Int32) (a5 : Int32) (z : (Int32 × Mem)) (hz : fX10_copy M a1 a2 a3 a4 a5 = some z) : Met l yX10_copy (wsU yX10_copy cX10_copy 7 (some .int)) (rmo 3 106) (va_Pc [.ref (ad (cO GM 0)), .int a1, .int a2, .int a3, .int a4, .int a5] (Wd0 D ad cs GM A M)) (va_Qi (fun r u => (r, u) = z) (Wd0 D ad cs GM A) A) 0 0 A := by
  refine ct_i (by decide) rfl okGM (Nat.le_of_ble_eq_true rfl) ?_
  intro p e s m args below meth c Q ls F X hl RT
  have hx := F.1
  have hb := F.2.1
  have hl : lv_has ls 7 [(0, .ref (ad (cO GM 0))), (1, .int a1), (2, .int a2), (3, .int a3), (4, .int a4), (5, .int a5)] := hl
  obtain ⟨H, hH⟩ : ∃ H, H = s.heap := ⟨_, rfl⟩
  rw [← hH] at X ⊢
  obtain ⟨locs, hlocs⟩ : ∃ locs : List Loc, locs = [] := ⟨_, rfl⟩
  rw [← hlocs] at X ⊢
  clear hH hlocs
  have L157 : ∀ (n : Nat) (H : Heap) (locs : List Loc) (x6 : Int32) (M : Mem) (ls : Array Slot), Wd D ad cs GM A s H locs M → lv_has ls 7 [(0, .ref (ad (cO GM 0))), (3, .int a3), (4, .int a4), (5, .int a5), (6, .int x6)] → ∀ (_ : Unit), lpO (fun st => fX10_copy_157 a1 a2 a3 a4 a5 st.1 st.2) n (x6, M) = some z → W p l e (rmo 3 106) s m args below meth c H locs 0 0 Q (F0 m 157 ls []) := by
    intro n
    induction n with
    | zero =>
      intro H locs x6 M ls X hl  yy h
      exact lp_0 h
    | succ n1 ih157 =>
      intro H locs x6 M ls X hl  _u h
      obtain ⟨y1, h, hk1⟩ := lp_x h
      unfold fX10_copy_157 at h
      refine lv_iload hx hb dX10_copy_157 (lv_at hl 4 rfl) ?_
      refine lv_iload hx hb dX10_copy_159 (lv_at hl 3 rfl) ?_
      refine lv_icmp_ge (tgt := 192) hx hb dX10_copy_161 (by decide) (fun c1 => ?_) (fun c1 => ?_)
      · have h := it_p h c1
        refine lv_iconst (v := 1) hx hb dX10_copy_192 (by decide) ?_
        have h := sm_x h
        rw [← h] at hk1
        have h := sm_x hk1
        exact RT H locs _ _ 193 ls X h dX10_copy_193
      · have h := it_n h c1
        refine lv_aload_n hx hb dX10_copy_164 rfl (lv_at hl 0 rfl) ?_
        refine gf_X10_89 F X qM0 dX10_copy_165 ?_
        refine lv_bipush (v := 60) hx hb dX10_copy_168 (by decide) ?_
        refine lv_iload_n hx hb dX10_copy_170 rfl (lv_at hl 1 rfl) ?_
        refine lv_imul hx hb dX10_copy_171 ?_
        refine lv_iload hx hb dX10_copy_172 (lv_at hl 2 rfl) ?_
        refine lv_iadd hx hb dX10_copy_174 ?_
        refine lv_iload hx hb dX10_copy_175 (lv_at hl 4 rfl) ?_
        refine lv_iadd hx hb dX10_copy_177 ?_
        refine lv_aload_n hx hb dX10_copy_178 rfl (lv_at hl 0 rfl) ?_
        refine gf_X10_92 F X qM0 dX10_copy_179 ?_
        refine lv_iload hx hb dX10_copy_182 (lv_at hl 4 rfl) ?_
        obtain ⟨hin, h⟩ := gd_x h
        refine r_iald F X (ar_X10_40 qM0) hin dX10_copy_184 ?_
        obtain ⟨hin, h⟩ := gd_x h
        obtain ⟨M2, eM2, h⟩ := nm_x h
        refine r_iast F X (ar_X10_39 qM0) hin dX10_copy_185 (fun H locs X => ?_)
        have X := Wd_eq eM2 X
        obtain ⟨u3, eu3, h⟩ := nm_x h
        refine lv_iinc (v := u3) (lv' := [(6, .int u3), (0, .ref (ad (cO GM 0))), (3, .int a3), (4, .int a4), (5, .int a5)]) hx hb dX10_copy_186 hl (k := 4) rfl (by rw [eu3]; rfl) (by decide) rfl (fun ls hl => ?_)
        refine lv_goto (tgt := 157) hx hb dX10_copy_189 (by decide) ?_
        rw [← sm_x h] at hk1
        exact ih157 _ _ u3 M2 ls X (lv_sub hl [1, 2, 3, 4, 0] rfl)  () hk1
  have J154 : ∀ (H : Heap) (locs : List Loc) (M : Mem) (ls : Array Slot), Wd D ad cs GM A s H locs M → lv_has ls 7 [(0, .ref (ad (cO GM 0))), (3, .int a3), (4, .int a4), (5, .int a5)] → ∀ (_ : Unit), fX10_copy_154 a1 a2 a3 a4 a5 M = some z → W p l e (rmo 3 106) s m args below meth c H locs 0 0 Q (F0 m 154 ls []) := by
    intro H locs M ls X hl  _u h
    unfold fX10_copy_154 at h
    refine lv_iconst (v := 0) hx hb dX10_copy_154 (by decide) ?_
    obtain ⟨u4, eu4, h⟩ := nm_x h
    refine topE eu4 ?_
    refine lv_istore (lv' := [(6, .int u4), (0, .ref (ad (cO GM 0))), (3, .int a3), (4, .int a4), (5, .int a5)]) hx hb dX10_copy_155 hl (by decide) rfl (fun ls hl => ?_)
    exact L157 FU _ _ u4 M ls X (lv_sub hl [1, 2, 3, 4, 0] rfl)  () h
  have L120 : ∀ (n : Nat) (H : Heap) (locs : List Loc) (x6 : Int32) (M : Mem) (ls : Array Slot), Wd D ad cs GM A s H locs M → lv_has ls 7 [(0, .ref (ad (cO GM 0))), (1, .int a1), (2, .int a2), (3, .int a3), (4, .int a4), (5, .int a5), (6, .int x6)] → ∀ (_ : Unit), lpO (fun st => fX10_copy_120 a1 a2 a3 a4 a5 st.1 st.2) n (x6, M) = some z → W p l e (rmo 3 106) s m args below meth c H locs 0 0 Q (F0 m 120 ls []) := by
    intro n
    induction n with
    | zero =>
      intro H locs x6 M ls X hl  yy h
      exact lp_0 h
    | succ n1 ih120 =>
      intro H locs x6 M ls X hl  _u h
      obtain ⟨y1, h, hk1⟩ := lp_x h
      unfold fX10_copy_120 at h
      refine lv_iload hx hb dX10_copy_120 (lv_at hl 6 rfl) ?_
      refine lv_iload hx hb dX10_copy_122 (lv_at hl 5 rfl) ?_
      refine lv_icmp_ge (tgt := 154) hx hb dX10_copy_124 (by decide) (fun c5 => ?_) (fun c5 => ?_)
      · have h := it_p h c5
        obtain ⟨_, h, ey⟩ := inr_x h
        rw [ey] at hk1
        have h := h.trans (congrArg some (sm_x hk1))
        exact J154 _ _ M ls X (lv_sub hl [0, 3, 4, 5] rfl)  () h
      · have h := it_n h c5
        refine lv_aload_n hx hb dX10_copy_127 rfl (lv_at hl 0 rfl) ?_
        refine gf_X10_92 F X qM0 dX10_copy_128 ?_
        refine lv_iload hx hb dX10_copy_131 (lv_at hl 6 rfl) ?_
        refine lv_aload_n hx hb dX10_copy_133 rfl (lv_at hl 0 rfl) ?_
        refine gf_X10_89 F X qM0 dX10_copy_134 ?_
        refine lv_bipush (v := 60) hx hb dX10_copy_137 (by decide) ?_
        refine lv_iload_n hx hb dX10_copy_139 rfl (lv_at hl 1 rfl) ?_
        refine lv_imul hx hb dX10_copy_140 ?_
        refine lv_iload_n hx hb dX10_copy_141 rfl (lv_at hl 2 rfl) ?_
        refine lv_iadd hx hb dX10_copy_142 ?_
        refine lv_iload hx hb dX10_copy_143 (lv_at hl 6 rfl) ?_
        refine lv_iadd hx hb dX10_copy_145 ?_
        obtain ⟨hin, h⟩ := gd_x h
        refine r_iald F X (ar_X10_39 qM0) hin dX10_copy_146 ?_
        obtain ⟨hin, h⟩ := gd_x h
        obtain ⟨M6, eM6, h⟩ := nm_x h
        refine r_iast F X (ar_X10_40 qM0) hin dX10_copy_147 (fun H locs X => ?_)
        have X := Wd_eq eM6 X
        obtain ⟨u7, eu7, h⟩ := nm_x h
        refine lv_iinc (v := u7) (lv' := [(6, .int u7), (0, .ref (ad (cO GM 0))), (1, .int a1), (2, .int a2), (3, .int a3), (4, .int a4), (5, .int a5)]) hx hb dX10_copy_148 hl (k := 6) rfl (by rw [eu7]; rfl) (by decide) rfl (fun ls hl => ?_)
        refine lv_goto (tgt := 120) hx hb dX10_copy_151 (by decide) ?_
        rw [← sm_x h] at hk1
        exact ih120 _ _ u7 M6 ls X (lv_sub hl [1, 2, 3, 4, 5, 6, 0] rfl)  () hk1
  have h := hz
  unfold fX10_copy at h
  refine lv_iload_n hx hb dX10_copy_0 rfl (lv_at hl 1 rfl) ?_
  obtain ⟨r8, hr8, h⟩ := bd_x h
  refine r_calli0 X (r_runS F X (kX10_isSheet l D ad cs A  M a1 _ hr8) gm_X10_148 hd_X10_isSheet ⟨Nat.le_of_ble_eq_true rfl, Nat.le_of_ble_eq_true rfl⟩ rfl hl.1 rfl (Nat.le_of_ble_eq_true rfl) dX10_copy_1) (fun H locs X => ?_)
  refine lv_if_eq (tgt := 14) hx hb dX10_copy_4 (by decide) (fun c9 => ?_) (fun c9 => ?_)
  · have h := it_p h c9
    refine lv_bipush (v := (-2)) hx hb dX10_copy_14 (by decide) ?_
    have h := sm_x h
    exact RT H locs _ _ 16 ls X h dX10_copy_16
  · have h := it_n h c9
    refine lv_iload_n hx hb dX10_copy_7 rfl (lv_at hl 3 rfl) ?_
    obtain ⟨r10, hr10, h⟩ := bd_x h
    refine r_calli0 X (r_runS F X (kX10_isSheet l D ad cs A  M a3 _ hr10) gm_X10_148 hd_X10_isSheet ⟨Nat.le_of_ble_eq_true rfl, Nat.le_of_ble_eq_true rfl⟩ rfl hl.1 rfl (Nat.le_of_ble_eq_true rfl) dX10_copy_8) (fun H locs X => ?_)
    refine lv_if_ne (tgt := 17) hx hb dX10_copy_11 (by decide) (fun c11 => ?_) (fun c11 => ?_)
    · have h := it_n h c11
      refine lv_aload_n hx hb dX10_copy_17 rfl (lv_at hl 0 rfl) ?_
      refine gf_X10_79 F X qM0 dX10_copy_18 ?_
      refine lv_iload_n hx hb dX10_copy_21 rfl (lv_at hl 1 rfl) ?_
      obtain ⟨hin, h⟩ := gd_x h
      refine r_zald F X (ar_X10_36 qM0) hin dX10_copy_22 ?_
      refine lv_if_eq (tgt := 35) hx hb dX10_copy_23 (by decide) (fun c12 => ?_) (fun c12 => ?_)
      · have h := it_p h c12
        refine lv_aload_n hx hb dX10_copy_35 rfl (lv_at hl 0 rfl) ?_
        refine lv_iconst (v := 1) hx hb dX10_copy_36 (by decide) ?_
        obtain ⟨r13, hr13, h⟩ := bd_x h
        refine r_calli X (r_runV F X (kX10_meets l D ad cs A  M 1 _ hr13) gm_X10_151 hd_X10_meets ⟨Nat.le_of_ble_eq_true rfl, Nat.le_of_ble_eq_true rfl⟩ qM0 rfl rfl hl.1 rfl (Nat.le_of_ble_eq_true rfl) dX10_copy_37) (fun H locs X => ?_)
        have h := sm_x h
        exact RT H locs _ _ 40 ls X h dX10_copy_40
      · have h := it_n h c12
        refine lv_aload_n hx hb dX10_copy_26 rfl (lv_at hl 0 rfl) ?_
        refine gf_X10_79 F X qM0 dX10_copy_27 ?_
        refine lv_iload_n hx hb dX10_copy_30 rfl (lv_at hl 3 rfl) ?_
        obtain ⟨hin, h⟩ := gd_x h
        refine r_zald F X (ar_X10_36 qM0) hin dX10_copy_31 ?_
        refine lv_if_ne (tgt := 41) hx hb dX10_copy_32 (by decide) (fun c14 => ?_) (fun c14 => ?_)
        · have h := it_n h c14
          refine lv_aload_n hx hb dX10_copy_41 rfl (lv_at hl 0 rfl) ?_
          refine gf_X10_83 F X qM0 dX10_copy_42 ?_
          refine lv_iload_n hx hb dX10_copy_45 rfl (lv_at hl 1 rfl) ?_
          obtain ⟨hin, h⟩ := gd_x h
          refine r_iald F X (ar_X10_37 qM0) hin dX10_copy_46 ?_
          refine lv_aload_n hx hb dX10_copy_47 rfl (lv_at hl 0 rfl) ?_
          refine gf_X10_83 F X qM0 dX10_copy_48 ?_
          refine lv_iload_n hx hb dX10_copy_51 rfl (lv_at hl 3 rfl) ?_
          obtain ⟨hin, h⟩ := gd_x h
          refine r_iald F X (ar_X10_37 qM0) hin dX10_copy_52 ?_
          refine lv_icmp_eq (tgt := 62) hx hb dX10_copy_53 (by decide) (fun c15 => ?_) (fun c15 => ?_)
          · have h := it_p h c15
            refine lv_iload_n hx hb dX10_copy_62 rfl (lv_at hl 2 rfl) ?_
            refine lv_if_lt (tgt := 111) hx hb dX10_copy_63 (by decide) (fun c16 => ?_) (fun c16 => ?_)
            · have h := it_p h c16
              refine lv_aload_n hx hb dX10_copy_111 rfl (lv_at hl 0 rfl) ?_
              refine lv_iconst (v := 2) hx hb dX10_copy_112 (by decide) ?_
              obtain ⟨r17, hr17, h⟩ := bd_x h
              refine r_calli X (r_runV F X (kX10_meets l D ad cs A  M 2 _ hr17) gm_X10_151 hd_X10_meets ⟨Nat.le_of_ble_eq_true rfl, Nat.le_of_ble_eq_true rfl⟩ qM0 rfl rfl hl.1 rfl (Nat.le_of_ble_eq_true rfl) dX10_copy_113) (fun H locs X => ?_)
              have h := sm_x h
              exact RT H locs _ _ 116 ls X h dX10_copy_116
            · have h := it_n h c16
              refine lv_iload hx hb dX10_copy_66 (lv_at hl 4 rfl) ?_
              refine lv_if_lt (tgt := 111) hx hb dX10_copy_68 (by decide) (fun c18 => ?_) (fun c18 => ?_)
              · have h := it_p h c18
                refine lv_aload_n hx hb dX10_copy_111 rfl (lv_at hl 0 rfl) ?_
                refine lv_iconst (v := 2) hx hb dX10_copy_112 (by decide) ?_
                obtain ⟨r19, hr19, h⟩ := bd_x h
                refine r_calli X (r_runV F X (kX10_meets l D ad cs A  M 2 _ hr19) gm_X10_151 hd_X10_meets ⟨Nat.le_of_ble_eq_true rfl, Nat.le_of_ble_eq_true rfl⟩ qM0 rfl rfl hl.1 rfl (Nat.le_of_ble_eq_true rfl) dX10_copy_113) (fun H locs X => ?_)
                have h := sm_x h
                exact RT H locs _ _ 116 ls X h dX10_copy_116
              · have h := it_n h c18
                refine lv_iload hx hb dX10_copy_71 (lv_at hl 5 rfl) ?_
                refine lv_if_lt (tgt := 111) hx hb dX10_copy_73 (by decide) (fun c20 => ?_) (fun c20 => ?_)
                · have h := it_p h c20
                  refine lv_aload_n hx hb dX10_copy_111 rfl (lv_at hl 0 rfl) ?_
                  refine lv_iconst (v := 2) hx hb dX10_copy_112 (by decide) ?_
                  obtain ⟨r21, hr21, h⟩ := bd_x h
                  refine r_calli X (r_runV F X (kX10_meets l D ad cs A  M 2 _ hr21) gm_X10_151 hd_X10_meets ⟨Nat.le_of_ble_eq_true rfl, Nat.le_of_ble_eq_true rfl⟩ qM0 rfl rfl hl.1 rfl (Nat.le_of_ble_eq_true rfl) dX10_copy_113) (fun H locs X => ?_)
                  have h := sm_x h
                  exact RT H locs _ _ 116 ls X h dX10_copy_116
                · have h := it_n h c20
                  refine lv_iload_n hx hb dX10_copy_76 rfl (lv_at hl 2 rfl) ?_
                  refine lv_i2l (v := Int32.toInt64 a2) hx hb dX10_copy_77 rfl ?_
                  refine lv_iload hx hb dX10_copy_78 (lv_at hl 5 rfl) ?_
                  refine lv_i2l (v := Int32.toInt64 a5) hx hb dX10_copy_80 rfl ?_
                  refine lv_ladd hx hb dX10_copy_81 ?_
                  refine lv_aload_n hx hb dX10_copy_82 rfl (lv_at hl 0 rfl) ?_
                  refine gf_X10_86 F X qM0 dX10_copy_83 ?_
                  refine lv_iload_n hx hb dX10_copy_86 rfl (lv_at hl 1 rfl) ?_
                  obtain ⟨hin, h⟩ := gd_x h
                  refine r_iald F X (ar_X10_38 qM0) hin dX10_copy_87 ?_
                  refine lv_i2l (v := Int32.toInt64 (M 0 38 (Int32.toNatClampNeg a1))) hx hb dX10_copy_88 rfl ?_
                  refine W.lcmp hx hb dX10_copy_89 ?_
                  refine lv_if_gt (tgt := 111) hx hb dX10_copy_90 (by decide) (fun c22 => ?_) (fun c22 => ?_)
                  · have h := it_p h c22
                    refine lv_aload_n hx hb dX10_copy_111 rfl (lv_at hl 0 rfl) ?_
                    refine lv_iconst (v := 2) hx hb dX10_copy_112 (by decide) ?_
                    obtain ⟨r23, hr23, h⟩ := bd_x h
                    refine r_calli X (r_runV F X (kX10_meets l D ad cs A  M 2 _ hr23) gm_X10_151 hd_X10_meets ⟨Nat.le_of_ble_eq_true rfl, Nat.le_of_ble_eq_true rfl⟩ qM0 rfl rfl hl.1 rfl (Nat.le_of_ble_eq_true rfl) dX10_copy_113) (fun H locs X => ?_)
                    have h := sm_x h
                    exact RT H locs _ _ 116 ls X h dX10_copy_116
                  · have h := it_n h c22
                    refine lv_iload hx hb dX10_copy_93 (lv_at hl 4 rfl) ?_
                    refine lv_i2l (v := Int32.toInt64 a4) hx hb dX10_copy_95 rfl ?_
                    refine lv_iload hx hb dX10_copy_96 (lv_at hl 5 rfl) ?_
                    refine lv_i2l (v := Int32.toInt64 a5) hx hb dX10_copy_98 rfl ?_
                    refine lv_ladd hx hb dX10_copy_99 ?_
                    refine lv_aload_n hx hb dX10_copy_100 rfl (lv_at hl 0 rfl) ?_
                    refine gf_X10_86 F X qM0 dX10_copy_101 ?_
                    refine lv_iload_n hx hb dX10_copy_104 rfl (lv_at hl 3 rfl) ?_
                    obtain ⟨hin, h⟩ := gd_x h
                    refine r_iald F X (ar_X10_38 qM0) hin dX10_copy_105 ?_
                    refine lv_i2l (v := Int32.toInt64 (M 0 38 (Int32.toNatClampNeg a3))) hx hb dX10_copy_106 rfl ?_
                    refine W.lcmp hx hb dX10_copy_107 ?_
                    refine lv_if_le (tgt := 117) hx hb dX10_copy_108 (by decide) (fun c24 => ?_) (fun c24 => ?_)
                    · have h := it_p h c24
                      refine lv_iconst (v := 0) hx hb dX10_copy_117 (by decide) ?_
                      obtain ⟨u25, eu25, h⟩ := nm_x h
                      refine topE eu25 ?_
                      refine lv_istore (lv' := [(6, .int u25), (0, .ref (ad (cO GM 0))), (1, .int a1), (2, .int a2), (3, .int a3), (4, .int a4), (5, .int a5)]) hx hb dX10_copy_118 hl (by decide) rfl (fun ls hl => ?_)
                      exact L120 FU _ _ u25 M ls X (lv_sub hl [1, 2, 3, 4, 5, 6, 0] rfl)  () h
                    · have h := it_n h c24
                      refine lv_aload_n hx hb dX10_copy_111 rfl (lv_at hl 0 rfl) ?_
                      refine lv_iconst (v := 2) hx hb dX10_copy_112 (by decide) ?_
                      obtain ⟨r26, hr26, h⟩ := bd_x h
                      refine r_calli X (r_runV F X (kX10_meets l D ad cs A  M 2 _ hr26) gm_X10_151 hd_X10_meets ⟨Nat.le_of_ble_eq_true rfl, Nat.le_of_ble_eq_true rfl⟩ qM0 rfl rfl hl.1 rfl (Nat.le_of_ble_eq_true rfl) dX10_copy_113) (fun H locs X => ?_)
                      have h := sm_x h
                      exact RT H locs _ _ 116 ls X h dX10_copy_116
          · have h := it_n h c15
            refine lv_aload_n hx hb dX10_copy_56 rfl (lv_at hl 0 rfl) ?_
            refine lv_iconst (v := 4) hx hb dX10_copy_57 (by decide) ?_
            obtain ⟨r27, hr27, h⟩ := bd_x h
            refine r_calli X (r_runV F X (kX10_meets l D ad cs A  M 4 _ hr27) gm_X10_151 hd_X10_meets ⟨Nat.le_of_ble_eq_true rfl, Nat.le_of_ble_eq_true rfl⟩ qM0 rfl rfl hl.1 rfl (Nat.le_of_ble_eq_true rfl) dX10_copy_58) (fun H locs X => ?_)
            have h := sm_x h
            exact RT H locs _ _ 61 ls X h dX10_copy_61
        · have h := it_p h c14
          refine lv_aload_n hx hb dX10_copy_35 rfl (lv_at hl 0 rfl) ?_
          refine lv_iconst (v := 1) hx hb dX10_copy_36 (by decide) ?_
          obtain ⟨r28, hr28, h⟩ := bd_x h
          refine r_calli X (r_runV F X (kX10_meets l D ad cs A  M 1 _ hr28) gm_X10_151 hd_X10_meets ⟨Nat.le_of_ble_eq_true rfl, Nat.le_of_ble_eq_true rfl⟩ qM0 rfl rfl hl.1 rfl (Nat.le_of_ble_eq_true rfl) dX10_copy_37) (fun H locs X => ?_)
          have h := sm_x h
          exact RT H locs _ _ 40 ls X h dX10_copy_40
    · have h := it_p h c11
      refine lv_bipush (v := (-2)) hx hb dX10_copy_14 (by decide) ?_
      have h := sm_x h
      exact RT H locs _ _ 16 ls X h dX10_copy_16

/-! ===== X10_write ===== -/
def fX10_write_43 (a1 : Int32) (a2 : Int32) (x3 : Int32) (M : Mem) : Option ((Int32 × Mem) ⊕ (Int32 × Mem)) :=
  gd (inB a2 4) <|
  (if (M 0 38 (Int32.toNatClampNeg a2)) ≤ x3 then
    some (.inr (x3, M))
  else
    if (M 0 2 0) ≤ x3 then
      some (.inr (x3, M))
    else
      gd (inB (((8 : Int32) * a1) + x3) 168) <|
      (fX10_keep M a2 x3 (M 0 28 (Int32.toNatClampNeg (((8 : Int32) * a1) + x3)))).bind fun r3 =>
      nm (x3 + 1 : Int32) fun u4 =>
      some (.inl (u4, r3)))
def fX10_write (M : Mem) (a1 : Int32) (a2 : Int32) : Option (Int32 × Mem) :=
  (fX10_stopsMany M).bind fun r5 =>
  (fX10_in a1 0 r5.1).bind fun r6 =>
  (if r6 = 0 then
    some ((-2), r5.2)
  else
    (fX10_isSheet a2).bind fun r8 =>
    (if r8 = 0 then
      some ((-2), r5.2)
    else
      gd (inB a2 4) <|
      (if (r5.2 0 36 (Int32.toNatClampNeg a2)) = 0 then
        (fX10_meets r5.2 1).bind fun r13 =>
        some (r13.1, r13.2)
      else
        (fX10_runsTold r5.2).bind fun r11 =>
        nm (0 : Int32) fun u12 =>
        lpO (fun st => fX10_write_43 a1 a2 st.1 st.2) FU (u12, r11))))
set_option maxHeartbeats 4000000 in
set_option maxRecDepth 100000 in
theorem kX10_write (l : Launch) (D : va_G) (ad : Nat → Nat) (cs : Nat → ClassId) (A : Nat → Prop)  (M : Mem) (a1 : Int32) (a2 : Int32) (z : (Int32 × Mem)) (hz : fX10_write M a1 a2 = some z) : Met l yX10_write (wsU yX10_write cX10_write 4 (some .int)) (rmo 8 220) (va_Pc [.ref (ad (cO GM 0)), .int a1, .int a2] (Wd0 D ad cs GM A M)) (va_Qi (fun r u => (r, u) = z) (Wd0 D ad cs GM A) A) 0 0 A := by
  refine ct_i (by decide) rfl okGM (Nat.le_of_ble_eq_true rfl) ?_
  intro p e s m args below meth c Q ls F X hl RT
  have hx := F.1
  have hb := F.2.1
  have hl : lv_has ls 4 [(0, .ref (ad (cO GM 0))), (1, .int a1), (2, .int a2)] := hl
  obtain ⟨H, hH⟩ : ∃ H, H = s.heap := ⟨_, rfl⟩
  rw [← hH] at X ⊢
  obtain ⟨locs, hlocs⟩ : ∃ locs : List Loc, locs = [] := ⟨_, rfl⟩
  rw [← hlocs] at X ⊢
  clear hH hlocs
  have L43 : ∀ (n : Nat) (H : Heap) (locs : List Loc) (x3 : Int32) (M : Mem) (ls : Array Slot), Wd D ad cs GM A s H locs M → lv_has ls 4 [(0, .ref (ad (cO GM 0))), (1, .int a1), (2, .int a2), (3, .int x3)] → ∀ (_ : Unit), lpO (fun st => fX10_write_43 a1 a2 st.1 st.2) n (x3, M) = some z → W p l e (rmo 8 220) s m args below meth c H locs 0 0 Q (F0 m 43 ls []) := by
    intro n
    induction n with
    | zero =>
      intro H locs x3 M ls X hl  yy h
      exact lp_0 h
    | succ n1 ih43 =>
      intro H locs x3 M ls X hl  _u h
      obtain ⟨y1, h, hk1⟩ := lp_x h
      unfold fX10_write_43 at h
      refine lv_iload_n hx hb dX10_write_43 rfl (lv_at hl 3 rfl) ?_
      refine lv_aload_n hx hb dX10_write_44 rfl (lv_at hl 0 rfl) ?_
      refine gf_X10_86 F X qM0 dX10_write_45 ?_
      refine lv_iload_n hx hb dX10_write_48 rfl (lv_at hl 2 rfl) ?_
      obtain ⟨hin, h⟩ := gd_x h
      refine r_iald F X (ar_X10_38 qM0) hin dX10_write_49 ?_
      refine lv_icmp_ge (tgt := 84) hx hb dX10_write_50 (by decide) (fun c1 => ?_) (fun c1 => ?_)
      · have h := it_p h c1
        refine lv_iload_n hx hb dX10_write_84 rfl (lv_at hl 3 rfl) ?_
        have h := sm_x h
        rw [← h] at hk1
        have h := sm_x hk1
        exact RT H locs _ _ 85 ls X h dX10_write_85
      · have h := it_n h c1
        refine lv_iload_n hx hb dX10_write_53 rfl (lv_at hl 3 rfl) ?_
        refine lv_aload_n hx hb dX10_write_54 rfl (lv_at hl 0 rfl) ?_
        refine gf_X10_109 F X qM0 dX10_write_55 ?_
        refine lv_icmp_ge (tgt := 84) hx hb dX10_write_58 (by decide) (fun c2 => ?_) (fun c2 => ?_)
        · have h := it_p h c2
          refine lv_iload_n hx hb dX10_write_84 rfl (lv_at hl 3 rfl) ?_
          have h := sm_x h
          rw [← h] at hk1
          have h := sm_x hk1
          exact RT H locs _ _ 85 ls X h dX10_write_85
        · have h := it_n h c2
          refine lv_aload_n hx hb dX10_write_61 rfl (lv_at hl 0 rfl) ?_
          refine lv_iload_n hx hb dX10_write_62 rfl (lv_at hl 2 rfl) ?_
          refine lv_iload_n hx hb dX10_write_63 rfl (lv_at hl 3 rfl) ?_
          refine lv_aload_n hx hb dX10_write_64 rfl (lv_at hl 0 rfl) ?_
          refine gf_X10_58 F X qM0 dX10_write_65 ?_
          refine lv_bipush (v := 8) hx hb dX10_write_68 (by decide) ?_
          refine lv_iload_n hx hb dX10_write_70 rfl (lv_at hl 1 rfl) ?_
          refine lv_imul hx hb dX10_write_71 ?_
          refine lv_iload_n hx hb dX10_write_72 rfl (lv_at hl 3 rfl) ?_
          refine lv_iadd hx hb dX10_write_73 ?_
          obtain ⟨hin, h⟩ := gd_x h
          refine r_iald F X (ar_X10_28 qM0) hin dX10_write_74 ?_
          obtain ⟨r3, hr3, h⟩ := bd_x h
          refine r_callv X (r_runV F X (kX10_keep l D ad cs A  M a2 x3 (M 0 28 (Int32.toNatClampNeg (((8 : Int32) * a1) + x3))) _ hr3) gm_X10_311 hd_X10_keep ⟨Nat.le_of_ble_eq_true rfl, Nat.le_of_ble_eq_true rfl⟩ qM0 rfl rfl hl.1 rfl (Nat.le_of_ble_eq_true rfl) dX10_write_75) (fun H locs X => ?_)
          obtain ⟨u4, eu4, h⟩ := nm_x h
          refine lv_iinc (v := u4) (lv' := [(3, .int u4), (0, .ref (ad (cO GM 0))), (1, .int a1), (2, .int a2)]) hx hb dX10_write_78 hl (k := 3) rfl (by rw [eu4]; rfl) (by decide) rfl (fun ls hl => ?_)
          refine lv_goto (tgt := 43) hx hb dX10_write_81 (by decide) ?_
          rw [← sm_x h] at hk1
          exact ih43 _ _ u4 r3 ls X (lv_sub hl [1, 2, 3, 0] rfl)  () hk1
  have h := hz
  unfold fX10_write at h
  refine lv_iload_n hx hb dX10_write_0 rfl (lv_at hl 1 rfl) ?_
  refine lv_iconst (v := 0) hx hb dX10_write_1 (by decide) ?_
  refine lv_aload_n hx hb dX10_write_2 rfl (lv_at hl 0 rfl) ?_
  obtain ⟨r5, hr5, h⟩ := bd_x h
  refine r_calli X (r_runV F X (kX10_stopsMany l D ad cs A  M  _ hr5) gm_X10_218 hd_X10_stopsMany ⟨Nat.le_of_ble_eq_true rfl, Nat.le_of_ble_eq_true rfl⟩ qM0 rfl rfl hl.1 rfl (Nat.le_of_ble_eq_true rfl) dX10_write_3) (fun H locs X => ?_)
  obtain ⟨r6, hr6, h⟩ := bd_x h
  refine r_calli0 X (r_runS F X (kX10_in l D ad cs A  r5.2 a1 0 r5.1 _ hr6) gm_X10_97 hd_X10_in ⟨Nat.le_of_ble_eq_true rfl, Nat.le_of_ble_eq_true rfl⟩ rfl hl.1 rfl (Nat.le_of_ble_eq_true rfl) dX10_write_6) (fun H locs X => ?_)
  refine lv_if_eq (tgt := 19) hx hb dX10_write_9 (by decide) (fun c7 => ?_) (fun c7 => ?_)
  · have h := it_p h c7
    refine lv_bipush (v := (-2)) hx hb dX10_write_19 (by decide) ?_
    have h := sm_x h
    exact RT H locs _ _ 21 ls X h dX10_write_21
  · have h := it_n h c7
    refine lv_iload_n hx hb dX10_write_12 rfl (lv_at hl 2 rfl) ?_
    obtain ⟨r8, hr8, h⟩ := bd_x h
    refine r_calli0 X (r_runS F X (kX10_isSheet l D ad cs A  r5.2 a2 _ hr8) gm_X10_148 hd_X10_isSheet ⟨Nat.le_of_ble_eq_true rfl, Nat.le_of_ble_eq_true rfl⟩ rfl hl.1 rfl (Nat.le_of_ble_eq_true rfl) dX10_write_13) (fun H locs X => ?_)
    refine lv_if_ne (tgt := 22) hx hb dX10_write_16 (by decide) (fun c9 => ?_) (fun c9 => ?_)
    · have h := it_n h c9
      refine lv_aload_n hx hb dX10_write_22 rfl (lv_at hl 0 rfl) ?_
      refine gf_X10_79 F X qM0 dX10_write_23 ?_
      refine lv_iload_n hx hb dX10_write_26 rfl (lv_at hl 2 rfl) ?_
      obtain ⟨hin, h⟩ := gd_x h
      refine r_zald F X (ar_X10_36 qM0) hin dX10_write_27 ?_
      refine lv_if_ne (tgt := 37) hx hb dX10_write_28 (by decide) (fun c10 => ?_) (fun c10 => ?_)
      · have h := it_n h c10
        refine lv_aload_n hx hb dX10_write_37 rfl (lv_at hl 0 rfl) ?_
        obtain ⟨r11, hr11, h⟩ := bd_x h
        refine r_callv X (r_runV F X (kX10_runsTold l D ad cs A  r5.2  _ hr11) gm_X10_215 hd_X10_runsTold ⟨Nat.le_of_ble_eq_true rfl, Nat.le_of_ble_eq_true rfl⟩ qM0 rfl rfl hl.1 rfl (Nat.le_of_ble_eq_true rfl) dX10_write_38) (fun H locs X => ?_)
        refine lv_iconst (v := 0) hx hb dX10_write_41 (by decide) ?_
        obtain ⟨u12, eu12, h⟩ := nm_x h
        refine topE eu12 ?_
        refine lv_istore_n (lv' := [(3, .int u12), (0, .ref (ad (cO GM 0))), (1, .int a1), (2, .int a2)]) hx hb dX10_write_42 rfl hl (by decide) rfl (fun ls hl => ?_)
        exact L43 FU _ _ u12 r11 ls X (lv_sub hl [1, 2, 3, 0] rfl)  () h
      · have h := it_p h c10
        refine lv_aload_n hx hb dX10_write_31 rfl (lv_at hl 0 rfl) ?_
        refine lv_iconst (v := 1) hx hb dX10_write_32 (by decide) ?_
        obtain ⟨r13, hr13, h⟩ := bd_x h
        refine r_calli X (r_runV F X (kX10_meets l D ad cs A  r5.2 1 _ hr13) gm_X10_151 hd_X10_meets ⟨Nat.le_of_ble_eq_true rfl, Nat.le_of_ble_eq_true rfl⟩ qM0 rfl rfl hl.1 rfl (Nat.le_of_ble_eq_true rfl) dX10_write_33) (fun H locs X => ?_)
        have h := sm_x h
        exact RT H locs _ _ 36 ls X h dX10_write_36
    · have h := it_p h c9
      refine lv_bipush (v := (-2)) hx hb dX10_write_19 (by decide) ?_
      have h := sm_x h
      exact RT H locs _ _ 21 ls X h dX10_write_21

/-! ===== X10_sumOf ===== -/
def fX10_sumOf_31 (a1 : Int32) (x2 : Int32) (M : Mem) : Option (Int32 × Mem) :=
  if a1 = 0 then
    some (M 0 2 0, M)
  else
    if a1 = 1 then
      some (M 0 6 0, M)
    else
      if a1 = 5 then
        some (M 0 16 0, M)
      else
        some (x2, M)
def fX10_sumOf_8 (a1 : Int32) (x2 : Int32) (x3 : Int32) (M : Mem) : Option ((Int32 × Int32 × Mem) ⊕ (Int32 × Mem)) :=
  if (M 0 2 0) ≤ x3 then
    inr' (fX10_sumOf_31 a1 x2 M)
  else
    gd (inB x3 8) <|
    nm (x2 + (M 0 21 (Int32.toNatClampNeg x3)) : Int32) fun u5 =>
    nm (x3 + 1 : Int32) fun u6 =>
    some (.inl (u5, u6, M))
def fX10_sumOf (M : Mem) (a1 : Int32) : Option (Int32 × Mem) :=
  (fX10_runsTold M).bind fun r7 =>
  nm (0 : Int32) fun u8 =>
  nm (0 : Int32) fun u9 =>
  lpO (fun st => fX10_sumOf_8 a1 st.1 st.2.1 st.2.2) FU (u8, u9, r7)
set_option maxHeartbeats 4000000 in
set_option maxRecDepth 100000 in
theorem kX10_sumOf (l : Launch) (D : va_G) (ad : Nat → Nat) (cs : Nat → ClassId) (A : Nat → Prop)  (M : Mem) (a1 : Int32) (z : (Int32 × Mem)) (hz : fX10_sumOf M a1 = some z) : Met l yX10_sumOf (wsU yX10_sumOf cX10_sumOf 4 (some .int)) (rmo 8 220) (va_Pc [.ref (ad (cO GM 0)), .int a1] (Wd0 D ad cs GM A M)) (va_Qi (fun r u => (r, u) = z) (Wd0 D ad cs GM A) A) 0 0 A := by
  refine ct_i (by decide) rfl okGM (Nat.le_of_ble_eq_true rfl) ?_
  intro p e s m args below meth c Q ls F X hl RT
  have hx := F.1
  have hb := F.2.1
  have hl : lv_has ls 4 [(0, .ref (ad (cO GM 0))), (1, .int a1)] := hl
  obtain ⟨H, hH⟩ : ∃ H, H = s.heap := ⟨_, rfl⟩
  rw [← hH] at X ⊢
  obtain ⟨locs, hlocs⟩ : ∃ locs : List Loc, locs = [] := ⟨_, rfl⟩
  rw [← hlocs] at X ⊢
  clear hH hlocs
  have J31 : ∀ (H : Heap) (locs : List Loc) (x2 : Int32) (M : Mem) (ls : Array Slot), Wd D ad cs GM A s H locs M → lv_has ls 4 [(0, .ref (ad (cO GM 0))), (1, .int a1), (2, .int x2)] → ∀ (_ : Unit), fX10_sumOf_31 a1 x2 M = some z → W p l e (rmo 8 220) s m args below meth c H locs 0 0 Q (F0 m 31 ls []) := by
    intro H locs x2 M ls X hl  _u h
    unfold fX10_sumOf_31 at h
    refine lv_iload_n hx hb dX10_sumOf_31 rfl (lv_at hl 1 rfl) ?_
    refine lv_if_ne (tgt := 42) hx hb dX10_sumOf_32 (by decide) (fun c1 => ?_) (fun c1 => ?_)
    · have h := it_n h c1
      refine lv_iload_n hx hb dX10_sumOf_42 rfl (lv_at hl 1 rfl) ?_
      refine lv_iconst (v := 1) hx hb dX10_sumOf_43 (by decide) ?_
      refine lv_icmp_ne (tgt := 54) hx hb dX10_sumOf_44 (by decide) (fun c2 => ?_) (fun c2 => ?_)
      · have h := it_n h c2
        refine lv_iload_n hx hb dX10_sumOf_54 rfl (lv_at hl 1 rfl) ?_
        refine lv_iconst (v := 5) hx hb dX10_sumOf_55 (by decide) ?_
        refine lv_icmp_ne (tgt := 66) hx hb dX10_sumOf_56 (by decide) (fun c3 => ?_) (fun c3 => ?_)
        · have h := it_n h c3
          refine lv_iload_n hx hb dX10_sumOf_66 rfl (lv_at hl 2 rfl) ?_
          have h := sm_x h
          exact RT H locs _ _ 67 ls X h dX10_sumOf_67
        · have h := it_p h c3
          refine lv_aload_n hx hb dX10_sumOf_59 rfl (lv_at hl 0 rfl) ?_
          refine gf_X10_188 F X qM0 dX10_sumOf_60 ?_
          refine lv_goto (tgt := 67) hx hb dX10_sumOf_63 (by decide) ?_
          have h := sm_x h
          exact RT H locs _ _ 67 ls X h dX10_sumOf_67
      · have h := it_p h c2
        refine lv_aload_n hx hb dX10_sumOf_47 rfl (lv_at hl 0 rfl) ?_
        refine gf_X10_117 F X qM0 dX10_sumOf_48 ?_
        refine lv_goto (tgt := 67) hx hb dX10_sumOf_51 (by decide) ?_
        have h := sm_x h
        exact RT H locs _ _ 67 ls X h dX10_sumOf_67
    · have h := it_p h c1
      refine lv_aload_n hx hb dX10_sumOf_35 rfl (lv_at hl 0 rfl) ?_
      refine gf_X10_109 F X qM0 dX10_sumOf_36 ?_
      refine lv_goto (tgt := 67) hx hb dX10_sumOf_39 (by decide) ?_
      have h := sm_x h
      exact RT H locs _ _ 67 ls X h dX10_sumOf_67
  have L8 : ∀ (n : Nat) (H : Heap) (locs : List Loc) (x2 : Int32) (x3 : Int32) (M : Mem) (ls : Array Slot), Wd D ad cs GM A s H locs M → lv_has ls 4 [(0, .ref (ad (cO GM 0))), (1, .int a1), (2, .int x2), (3, .int x3)] → ∀ (_ : Unit), lpO (fun st => fX10_sumOf_8 a1 st.1 st.2.1 st.2.2) n (x2, x3, M) = some z → W p l e (rmo 8 220) s m args below meth c H locs 0 0 Q (F0 m 8 ls []) := by
    intro n
    induction n with
    | zero =>
      intro H locs x2 x3 M ls X hl  yy h
      exact lp_0 h
    | succ n1 ih8 =>
      intro H locs x2 x3 M ls X hl  _u h
      obtain ⟨y1, h, hk1⟩ := lp_x h
      unfold fX10_sumOf_8 at h
      refine lv_iload_n hx hb dX10_sumOf_8 rfl (lv_at hl 3 rfl) ?_
      refine lv_aload_n hx hb dX10_sumOf_9 rfl (lv_at hl 0 rfl) ?_
      refine gf_X10_109 F X qM0 dX10_sumOf_10 ?_
      refine lv_icmp_ge (tgt := 31) hx hb dX10_sumOf_13 (by decide) (fun c4 => ?_) (fun c4 => ?_)
      · have h := it_p h c4
        obtain ⟨_, h, ey⟩ := inr_x h
        rw [ey] at hk1
        have h := h.trans (congrArg some (sm_x hk1))
        exact J31 _ _ x2 M ls X (lv_sub hl [0, 1, 2] rfl)  () h
      · have h := it_n h c4
        refine lv_iload_n hx hb dX10_sumOf_16 rfl (lv_at hl 2 rfl) ?_
        refine lv_aload_n hx hb dX10_sumOf_17 rfl (lv_at hl 0 rfl) ?_
        refine gf_X10_40 F X qM0 dX10_sumOf_18 ?_
        refine lv_iload_n hx hb dX10_sumOf_21 rfl (lv_at hl 3 rfl) ?_
        obtain ⟨hin, h⟩ := gd_x h
        refine r_iald F X (ar_X10_21 qM0) hin dX10_sumOf_22 ?_
        refine lv_iadd hx hb dX10_sumOf_23 ?_
        obtain ⟨u5, eu5, h⟩ := nm_x h
        refine topE eu5 ?_
        refine lv_istore_n (lv' := [(2, .int u5), (0, .ref (ad (cO GM 0))), (1, .int a1), (3, .int x3)]) hx hb dX10_sumOf_24 rfl hl (by decide) rfl (fun ls hl => ?_)
        obtain ⟨u6, eu6, h⟩ := nm_x h
        refine lv_iinc (v := u6) (lv' := [(3, .int u6), (2, .int u5), (0, .ref (ad (cO GM 0))), (1, .int a1)]) hx hb dX10_sumOf_25 hl (k := 3) rfl (by rw [eu6]; rfl) (by decide) rfl (fun ls hl => ?_)
        refine lv_goto (tgt := 8) hx hb dX10_sumOf_28 (by decide) ?_
        rw [← sm_x h] at hk1
        exact ih8 _ _ u5 u6 M ls X (lv_sub hl [2, 3, 1, 0] rfl)  () hk1
  have h := hz
  unfold fX10_sumOf at h
  refine lv_aload_n hx hb dX10_sumOf_0 rfl (lv_at hl 0 rfl) ?_
  obtain ⟨r7, hr7, h⟩ := bd_x h
  refine r_callv X (r_runV F X (kX10_runsTold l D ad cs A  M  _ hr7) gm_X10_215 hd_X10_runsTold ⟨Nat.le_of_ble_eq_true rfl, Nat.le_of_ble_eq_true rfl⟩ qM0 rfl rfl hl.1 rfl (Nat.le_of_ble_eq_true rfl) dX10_sumOf_1) (fun H locs X => ?_)
  refine lv_iconst (v := 0) hx hb dX10_sumOf_4 (by decide) ?_
  obtain ⟨u8, eu8, h⟩ := nm_x h
  refine topE eu8 ?_
  refine lv_istore_n (lv' := [(2, .int u8), (0, .ref (ad (cO GM 0))), (1, .int a1)]) hx hb dX10_sumOf_5 rfl hl (by decide) rfl (fun ls hl => ?_)
  refine lv_iconst (v := 0) hx hb dX10_sumOf_6 (by decide) ?_
  obtain ⟨u9, eu9, h⟩ := nm_x h
  refine topE eu9 ?_
  refine lv_istore_n (lv' := [(3, .int u9), (2, .int u8), (0, .ref (ad (cO GM 0))), (1, .int a1)]) hx hb dX10_sumOf_7 rfl hl (by decide) rfl (fun ls hl => ?_)
  exact L8 FU _ _ u8 u9 r7 ls X (lv_sub hl [2, 3, 1, 0] rfl)  () h

/-! ===== X10_count ===== -/
def fX10_count (M : Mem) (a1 : Int32) : Option (Int32 × Mem) :=
  if a1 = 0 then
    (fX10_sumOf M a1).bind fun r2 =>
    some (r2.1, r2.2)
  else
    if a1 = 1 then
      (fX10_sumOf M a1).bind fun r4 =>
      some (r4.1, r4.2)
    else
      if a1 = 2 then
        gd (inB (a1 - (2 : Int32)) 2) <|
        some (M 0 0 (Int32.toNatClampNeg (a1 - (2 : Int32))), M)
      else
        if a1 = 3 then
          gd (inB (a1 - (2 : Int32)) 2) <|
          some (M 0 0 (Int32.toNatClampNeg (a1 - (2 : Int32))), M)
        else
          if a1 = 4 then
            some (M 0 9 0, M)
          else
            if a1 = 5 then
              (fX10_sumOf M a1).bind fun r9 =>
              some (r9.1, r9.2)
            else
              if a1 = 6 then
                (fX10_sumOf M a1).bind fun r11 =>
                some (r11.1, r11.2)
              else
                if a1 = 7 then
                  some (M 0 32 0, M)
                else
                  if a1 = 8 then
                    some (M 0 41 0, M)
                  else
                    some ((-2), M)
set_option maxHeartbeats 4000000 in
set_option maxRecDepth 100000 in
theorem kX10_count (l : Launch) (D : va_G) (ad : Nat → Nat) (cs : Nat → ClassId) (A : Nat → Prop)  (M : Mem) (a1 : Int32) (z : (Int32 × Mem)) (hz : fX10_count M a1 = some z) : Met l yX10_count (wsU yX10_count cX10_count 2 (some .int)) (rmo 9 243) (va_Pc [.ref (ad (cO GM 0)), .int a1] (Wd0 D ad cs GM A M)) (va_Qi (fun r u => (r, u) = z) (Wd0 D ad cs GM A) A) 0 0 A := by
  refine ct_i (by decide) rfl okGM (Nat.le_of_ble_eq_true rfl) ?_
  intro p e s m args below meth c Q ls F X hl RT
  have hx := F.1
  have hb := F.2.1
  have hl : lv_has ls 2 [(0, .ref (ad (cO GM 0))), (1, .int a1)] := hl
  obtain ⟨H, hH⟩ : ∃ H, H = s.heap := ⟨_, rfl⟩
  rw [← hH] at X ⊢
  obtain ⟨locs, hlocs⟩ : ∃ locs : List Loc, locs = [] := ⟨_, rfl⟩
  rw [← hlocs] at X ⊢
  clear hH hlocs
  have h := hz
  unfold fX10_count at h
  refine lv_iload_n hx hb dX10_count_0 rfl (lv_at hl 1 rfl) ?_
  by_cases c1 : a1 = 0
  · have h := it_p h c1
    refine r_tabI (off := 51) (tgt := 52) hx hb dX10_count_1 c1 (by decide) (by decide) (by decide) (by decide) ?_
    refine lv_aload_n hx hb dX10_count_52 rfl (lv_at hl 0 rfl) ?_
    refine lv_iload_n hx hb dX10_count_53 rfl (lv_at hl 1 rfl) ?_
    obtain ⟨r2, hr2, h⟩ := bd_x h
    refine r_calli X (r_runV F X (kX10_sumOf l D ad cs A  M a1 _ hr2) gm_X10_316 hd_X10_sumOf ⟨Nat.le_of_ble_eq_true rfl, Nat.le_of_ble_eq_true rfl⟩ qM0 rfl rfl hl.1 rfl (Nat.le_of_ble_eq_true rfl) dX10_count_54) (fun H locs X => ?_)
    have h := sm_x h
    exact RT H locs _ _ 57 ls X h dX10_count_57
  · have h := it_n h c1
    by_cases c3 : a1 = 1
    · have h := it_p h c3
      refine r_tabI (off := 51) (tgt := 52) hx hb dX10_count_1 c3 (by decide) (by decide) (by decide) (by decide) ?_
      refine lv_aload_n hx hb dX10_count_52 rfl (lv_at hl 0 rfl) ?_
      refine lv_iload_n hx hb dX10_count_53 rfl (lv_at hl 1 rfl) ?_
      obtain ⟨r4, hr4, h⟩ := bd_x h
      refine r_calli X (r_runV F X (kX10_sumOf l D ad cs A  M a1 _ hr4) gm_X10_316 hd_X10_sumOf ⟨Nat.le_of_ble_eq_true rfl, Nat.le_of_ble_eq_true rfl⟩ qM0 rfl rfl hl.1 rfl (Nat.le_of_ble_eq_true rfl) dX10_count_54) (fun H locs X => ?_)
      have h := sm_x h
      exact RT H locs _ _ 57 ls X h dX10_count_57
    · have h := it_n h c3
      by_cases c5 : a1 = 2
      · have h := it_p h c5
        refine r_tabI (off := 57) (tgt := 58) hx hb dX10_count_1 c5 (by decide) (by decide) (by decide) (by decide) ?_
        refine lv_aload_n hx hb dX10_count_58 rfl (lv_at hl 0 rfl) ?_
        refine gf_X10_7 F X qM0 dX10_count_59 ?_
        refine lv_iload_n hx hb dX10_count_62 rfl (lv_at hl 1 rfl) ?_
        refine lv_iconst (v := 2) hx hb dX10_count_63 (by decide) ?_
        refine lv_isub hx hb dX10_count_64 ?_
        obtain ⟨hin, h⟩ := gd_x h
        refine r_iald F X (ar_X10_0 qM0) hin dX10_count_65 ?_
        have h := sm_x h
        exact RT H locs _ _ 66 ls X h dX10_count_66
      · have h := it_n h c5
        by_cases c6 : a1 = 3
        · have h := it_p h c6
          refine r_tabI (off := 57) (tgt := 58) hx hb dX10_count_1 c6 (by decide) (by decide) (by decide) (by decide) ?_
          refine lv_aload_n hx hb dX10_count_58 rfl (lv_at hl 0 rfl) ?_
          refine gf_X10_7 F X qM0 dX10_count_59 ?_
          refine lv_iload_n hx hb dX10_count_62 rfl (lv_at hl 1 rfl) ?_
          refine lv_iconst (v := 2) hx hb dX10_count_63 (by decide) ?_
          refine lv_isub hx hb dX10_count_64 ?_
          obtain ⟨hin, h⟩ := gd_x h
          refine r_iald F X (ar_X10_0 qM0) hin dX10_count_65 ?_
          have h := sm_x h
          exact RT H locs _ _ 66 ls X h dX10_count_66
        · have h := it_n h c6
          by_cases c7 : a1 = 4
          · have h := it_p h c7
            refine r_tabI (off := 66) (tgt := 67) hx hb dX10_count_1 c7 (by decide) (by decide) (by decide) (by decide) ?_
            refine lv_aload_n hx hb dX10_count_67 rfl (lv_at hl 0 rfl) ?_
            refine gf_X10_145 F X qM0 dX10_count_68 ?_
            have h := sm_x h
            exact RT H locs _ _ 71 ls X h dX10_count_71
          · have h := it_n h c7
            by_cases c8 : a1 = 5
            · have h := it_p h c8
              refine r_tabI (off := 51) (tgt := 52) hx hb dX10_count_1 c8 (by decide) (by decide) (by decide) (by decide) ?_
              refine lv_aload_n hx hb dX10_count_52 rfl (lv_at hl 0 rfl) ?_
              refine lv_iload_n hx hb dX10_count_53 rfl (lv_at hl 1 rfl) ?_
              obtain ⟨r9, hr9, h⟩ := bd_x h
              refine r_calli X (r_runV F X (kX10_sumOf l D ad cs A  M a1 _ hr9) gm_X10_316 hd_X10_sumOf ⟨Nat.le_of_ble_eq_true rfl, Nat.le_of_ble_eq_true rfl⟩ qM0 rfl rfl hl.1 rfl (Nat.le_of_ble_eq_true rfl) dX10_count_54) (fun H locs X => ?_)
              have h := sm_x h
              exact RT H locs _ _ 57 ls X h dX10_count_57
            · have h := it_n h c8
              by_cases c10 : a1 = 6
              · have h := it_p h c10
                refine r_tabI (off := 51) (tgt := 52) hx hb dX10_count_1 c10 (by decide) (by decide) (by decide) (by decide) ?_
                refine lv_aload_n hx hb dX10_count_52 rfl (lv_at hl 0 rfl) ?_
                refine lv_iload_n hx hb dX10_count_53 rfl (lv_at hl 1 rfl) ?_
                obtain ⟨r11, hr11, h⟩ := bd_x h
                refine r_calli X (r_runV F X (kX10_sumOf l D ad cs A  M a1 _ hr11) gm_X10_316 hd_X10_sumOf ⟨Nat.le_of_ble_eq_true rfl, Nat.le_of_ble_eq_true rfl⟩ qM0 rfl rfl hl.1 rfl (Nat.le_of_ble_eq_true rfl) dX10_count_54) (fun H locs X => ?_)
                have h := sm_x h
                exact RT H locs _ _ 57 ls X h dX10_count_57
              · have h := it_n h c10
                by_cases c12 : a1 = 7
                · have h := it_p h c12
                  refine r_tabI (off := 71) (tgt := 72) hx hb dX10_count_1 c12 (by decide) (by decide) (by decide) (by decide) ?_
                  refine lv_aload_n hx hb dX10_count_72 rfl (lv_at hl 0 rfl) ?_
                  refine gf_X10_274 F X qM0 dX10_count_73 ?_
                  have h := sm_x h
                  exact RT H locs _ _ 76 ls X h dX10_count_76
                · have h := it_n h c12
                  by_cases c13 : a1 = 8
                  · have h := it_p h c13
                    refine r_tabI (off := 76) (tgt := 77) hx hb dX10_count_1 c13 (by decide) (by decide) (by decide) (by decide) ?_
                    refine lv_aload_n hx hb dX10_count_77 rfl (lv_at hl 0 rfl) ?_
                    refine gf_X10_305 F X qM0 dX10_count_78 ?_
                    have h := sm_x h
                    exact RT H locs _ _ 81 ls X h dX10_count_81
                  · have h := it_n h c13
                    refine r_tabO (tgt := 82) hx hb dX10_count_1 8 (by decide) (by decide) (fun k hk => by rcases (show k = 0 ∨ k = 1 ∨ k = 2 ∨ k = 3 ∨ k = 4 ∨ k = 5 ∨ k = 6 ∨ k = 7 ∨ k = 8 by omega) with rfl | rfl | rfl | rfl | rfl | rfl | rfl | rfl | rfl <;> assumption) (by decide) ?_
                    refine lv_bipush (v := (-2)) hx hb dX10_count_82 (by decide) ?_
                    have h := sm_x h
                    exact RT H locs _ _ 84 ls X h dX10_count_84

/-! ===== X10_heirDigest ===== -/
def fX10_heirDigest_71 (a1 : Int64) (a3 : Int32) (x4 : Int64) (M : Mem) : Option (Int64 × Mem) :=
  (fX10_baitOf M a3).bind fun r1 =>
  nm (((31 : Int64) * x4) + (Int32.toInt64 r1.1) : Int64) fun u2 =>
  (fX10_careOf r1.2 a3).bind fun r3 =>
  nm (((31 : Int64) * u2) + (Int32.toInt64 r3.1) : Int64) fun u4 =>
  (fX10_skipOf r3.2 a3 0).bind fun r5 =>
  nm (((31 : Int64) * u4) + (Int32.toInt64 r5.1) : Int64) fun u6 =>
  (fX10_skipOf r5.2 a3 1).bind fun r7 =>
  nm (((31 : Int64) * u6) + (Int32.toInt64 r7.1) : Int64) fun u8 =>
  (fX10_wasBy r7.2 a3 0).bind fun r9 =>
  nm (((31 : Int64) * u8) + (Int32.toInt64 r9.1) : Int64) fun u10 =>
  (fX10_wasBy r9.2 a3 1).bind fun r11 =>
  nm (((31 : Int64) * u10) + (Int32.toInt64 r11.1) : Int64) fun u12 =>
  (fX10_askOf r11.2 a3).bind fun r13 =>
  nm (((31 : Int64) * u12) + (Int32.toInt64 r13.1) : Int64) fun u14 =>
  (fX10_swarmOf r13.2 5 a3 0).bind fun r15 =>
  nm (((31 : Int64) * u14) + r15.1 : Int64) fun u16 =>
  (fX10_swarmOf r15.2 5 a3 1).bind fun r17 =>
  some (((31 : Int64) * u16) + r17.1, r17.2)
def fX10_heirDigest_38 (a1 : Int64) (a3 : Int32) (x4 : Int64) (x6 : Int32) (M : Mem) : Option ((Int64 × Int32 × Mem) ⊕ (Int64 × Mem)) :=
  if 3 ≤ x6 then
    inr' (fX10_heirDigest_71 a1 a3 x4 M)
  else
    (fX10_shareOf M (M 0 6 0) a3 x6).bind fun r19 =>
    nm (((31 : Int64) * x4) + (Int32.toInt64 r19.1) : Int64) fun u20 =>
    nm (x6 + 1 : Int32) fun u21 =>
    some (.inl (u20, u21, r19.2))
def fX10_heirDigest_35 (a1 : Int64) (a3 : Int32) (x4 : Int64) (M : Mem) : Option (Int64 × Mem) :=
  nm (0 : Int32) fun u22 =>
  lpO (fun st => fX10_heirDigest_38 a1 a3 st.1 st.2.1 st.2.2) FU (x4, u22, M)
def fX10_heirDigest_6 (a1 : Int64) (a3 : Int32) (x4 : Int64) (x6 : Int32) (M : Mem) : Option ((Int64 × Int32 × Mem) ⊕ (Int64 × Mem)) :=
  if 3 ≤ x6 then
    inr' (fX10_heirDigest_35 a1 a3 x4 M)
  else
    (fX10_heirOf M a3 x6).bind fun r24 =>
    nm (((31 : Int64) * x4) + (Int32.toInt64 r24) : Int64) fun u25 =>
    nm (x6 + 1 : Int32) fun u26 =>
    some (.inl (u25, u26, M))
def fX10_heirDigest (M : Mem) (a1 : Int64) (a3 : Int32) : Option (Int64 × Mem) :=
  nm (a1 : Int64) fun u27 =>
  nm (0 : Int32) fun u28 =>
  lpO (fun st => fX10_heirDigest_6 a1 a3 st.1 st.2.1 st.2.2) FU (u27, u28, M)
set_option maxHeartbeats 4000000 in
set_option maxRecDepth 100000 in
theorem kX10_heirDigest (l : Launch) (D : va_G) (ad : Nat → Nat) (cs : Nat → ClassId) (A : Nat → Prop)  (M : Mem) (a1 : Int64) (a3 : Int32) (z : (Int64 × Mem)) (hz : fX10_heirDigest M a1 a3 = some z) : Met l yX10_heirDigest (wsU yX10_heirDigest cX10_heirDigest 7 (some .long)) (rmo 9 256) (va_Pc [.ref (ad (cO GM 0)), .long a1, .int a3] (Wd0 D ad cs GM A M)) (va_Ql (fun r u => (r, u) = z) (Wd0 D ad cs GM A) A) 0 0 A := by
  refine ct_l (by decide) rfl okGM (Nat.le_of_ble_eq_true rfl) ?_
  intro p e s m args below meth c Q ls F X hl RT
  have hx := F.1
  have hb := F.2.1
  have hl : lv_has ls 7 [(0, .ref (ad (cO GM 0))), (1, .long a1), (3, .int a3)] := hl
  obtain ⟨H, hH⟩ : ∃ H, H = s.heap := ⟨_, rfl⟩
  rw [← hH] at X ⊢
  obtain ⟨locs, hlocs⟩ : ∃ locs : List Loc, locs = [] := ⟨_, rfl⟩
  rw [← hlocs] at X ⊢
  clear hH hlocs
  have J71 : ∀ (H : Heap) (locs : List Loc) (x4 : Int64) (M : Mem) (ls : Array Slot), Wd D ad cs GM A s H locs M → lv_has ls 7 [(0, .ref (ad (cO GM 0))), (3, .int a3), (4, .long x4)] → ∀ (_ : Unit), fX10_heirDigest_71 a1 a3 x4 M = some z → W p l e (rmo 9 256) s m args below meth c H locs 0 0 Q (F0 m 71 ls []) := by
    intro H locs x4 M ls X hl  _u h
    unfold fX10_heirDigest_71 at h
    refine lv_ldc2 (v := 31) hx hb F.2.2.2.1 (F.2.2.2.2 _ (mT6 57 rfl rfl)) dX10_heirDigest_71 ?_
    refine lv_lload hx hb dX10_heirDigest_74 (lv_at hl 2 rfl) ?_
    refine lv_lmul hx hb dX10_heirDigest_76 ?_
    refine lv_aload_n hx hb dX10_heirDigest_77 rfl (lv_at hl 0 rfl) ?_
    refine lv_iload_n hx hb dX10_heirDigest_78 rfl (lv_at hl 1 rfl) ?_
    obtain ⟨r1, hr1, h⟩ := bd_x h
    refine r_calli X (r_runV F X (kX10_baitOf l D ad cs A  M a3 _ hr1) gm_X10_252 hd_X10_baitOf ⟨Nat.le_of_ble_eq_true rfl, Nat.le_of_ble_eq_true rfl⟩ qM0 rfl rfl hl.1 rfl (Nat.le_of_ble_eq_true rfl) dX10_heirDigest_79) (fun H locs X => ?_)
    refine lv_i2l (v := Int32.toInt64 r1.1) hx hb dX10_heirDigest_82 rfl ?_
    refine lv_ladd hx hb dX10_heirDigest_83 ?_
    obtain ⟨u2, eu2, h⟩ := nm_x h
    refine topL eu2 ?_
    refine lv_lstore (lv' := [(4, .long u2), (0, .ref (ad (cO GM 0))), (3, .int a3)]) hx hb dX10_heirDigest_84 hl (by decide) rfl (fun ls hl => ?_)
    refine lv_ldc2 (v := 31) hx hb F.2.2.2.1 (F.2.2.2.2 _ (mT6 57 rfl rfl)) dX10_heirDigest_86 ?_
    refine lv_lload hx hb dX10_heirDigest_89 (lv_at hl 0 rfl) ?_
    refine lv_lmul hx hb dX10_heirDigest_91 ?_
    refine lv_aload_n hx hb dX10_heirDigest_92 rfl (lv_at hl 1 rfl) ?_
    refine lv_iload_n hx hb dX10_heirDigest_93 rfl (lv_at hl 2 rfl) ?_
    obtain ⟨r3, hr3, h⟩ := bd_x h
    refine r_calli X (r_runV F X (kX10_careOf l D ad cs A  r1.2 a3 _ hr3) gm_X10_268 hd_X10_careOf ⟨Nat.le_of_ble_eq_true rfl, Nat.le_of_ble_eq_true rfl⟩ qM0 rfl rfl hl.1 rfl (Nat.le_of_ble_eq_true rfl) dX10_heirDigest_94) (fun H locs X => ?_)
    refine lv_i2l (v := Int32.toInt64 r3.1) hx hb dX10_heirDigest_97 rfl ?_
    refine lv_ladd hx hb dX10_heirDigest_98 ?_
    obtain ⟨u4, eu4, h⟩ := nm_x h
    refine topL eu4 ?_
    refine lv_lstore (lv' := [(4, .long u4), (0, .ref (ad (cO GM 0))), (3, .int a3)]) hx hb dX10_heirDigest_99 hl (by decide) rfl (fun ls hl => ?_)
    refine lv_ldc2 (v := 31) hx hb F.2.2.2.1 (F.2.2.2.2 _ (mT6 57 rfl rfl)) dX10_heirDigest_101 ?_
    refine lv_lload hx hb dX10_heirDigest_104 (lv_at hl 0 rfl) ?_
    refine lv_lmul hx hb dX10_heirDigest_106 ?_
    refine lv_aload_n hx hb dX10_heirDigest_107 rfl (lv_at hl 1 rfl) ?_
    refine lv_iload_n hx hb dX10_heirDigest_108 rfl (lv_at hl 2 rfl) ?_
    refine lv_iconst (v := 0) hx hb dX10_heirDigest_109 (by decide) ?_
    obtain ⟨r5, hr5, h⟩ := bd_x h
    refine r_calli X (r_runV F X (kX10_skipOf l D ad cs A  r3.2 a3 0 _ hr5) gm_X10_271 hd_X10_skipOf ⟨Nat.le_of_ble_eq_true rfl, Nat.le_of_ble_eq_true rfl⟩ qM0 rfl rfl hl.1 rfl (Nat.le_of_ble_eq_true rfl) dX10_heirDigest_110) (fun H locs X => ?_)
    refine lv_i2l (v := Int32.toInt64 r5.1) hx hb dX10_heirDigest_113 rfl ?_
    refine lv_ladd hx hb dX10_heirDigest_114 ?_
    obtain ⟨u6, eu6, h⟩ := nm_x h
    refine topL eu6 ?_
    refine lv_lstore (lv' := [(4, .long u6), (0, .ref (ad (cO GM 0))), (3, .int a3)]) hx hb dX10_heirDigest_115 hl (by decide) rfl (fun ls hl => ?_)
    refine lv_ldc2 (v := 31) hx hb F.2.2.2.1 (F.2.2.2.2 _ (mT6 57 rfl rfl)) dX10_heirDigest_117 ?_
    refine lv_lload hx hb dX10_heirDigest_120 (lv_at hl 0 rfl) ?_
    refine lv_lmul hx hb dX10_heirDigest_122 ?_
    refine lv_aload_n hx hb dX10_heirDigest_123 rfl (lv_at hl 1 rfl) ?_
    refine lv_iload_n hx hb dX10_heirDigest_124 rfl (lv_at hl 2 rfl) ?_
    refine lv_iconst (v := 1) hx hb dX10_heirDigest_125 (by decide) ?_
    obtain ⟨r7, hr7, h⟩ := bd_x h
    refine r_calli X (r_runV F X (kX10_skipOf l D ad cs A  r5.2 a3 1 _ hr7) gm_X10_271 hd_X10_skipOf ⟨Nat.le_of_ble_eq_true rfl, Nat.le_of_ble_eq_true rfl⟩ qM0 rfl rfl hl.1 rfl (Nat.le_of_ble_eq_true rfl) dX10_heirDigest_126) (fun H locs X => ?_)
    refine lv_i2l (v := Int32.toInt64 r7.1) hx hb dX10_heirDigest_129 rfl ?_
    refine lv_ladd hx hb dX10_heirDigest_130 ?_
    obtain ⟨u8, eu8, h⟩ := nm_x h
    refine topL eu8 ?_
    refine lv_lstore (lv' := [(4, .long u8), (0, .ref (ad (cO GM 0))), (3, .int a3)]) hx hb dX10_heirDigest_131 hl (by decide) rfl (fun ls hl => ?_)
    refine lv_ldc2 (v := 31) hx hb F.2.2.2.1 (F.2.2.2.2 _ (mT6 57 rfl rfl)) dX10_heirDigest_133 ?_
    refine lv_lload hx hb dX10_heirDigest_136 (lv_at hl 0 rfl) ?_
    refine lv_lmul hx hb dX10_heirDigest_138 ?_
    refine lv_aload_n hx hb dX10_heirDigest_139 rfl (lv_at hl 1 rfl) ?_
    refine lv_iload_n hx hb dX10_heirDigest_140 rfl (lv_at hl 2 rfl) ?_
    refine lv_iconst (v := 0) hx hb dX10_heirDigest_141 (by decide) ?_
    obtain ⟨r9, hr9, h⟩ := bd_x h
    refine r_calli X (r_runV F X (kX10_wasBy l D ad cs A  r7.2 a3 0 _ hr9) gm_X10_283 hd_X10_wasBy ⟨Nat.le_of_ble_eq_true rfl, Nat.le_of_ble_eq_true rfl⟩ qM0 rfl rfl hl.1 rfl (Nat.le_of_ble_eq_true rfl) dX10_heirDigest_142) (fun H locs X => ?_)
    refine lv_i2l (v := Int32.toInt64 r9.1) hx hb dX10_heirDigest_145 rfl ?_
    refine lv_ladd hx hb dX10_heirDigest_146 ?_
    obtain ⟨u10, eu10, h⟩ := nm_x h
    refine topL eu10 ?_
    refine lv_lstore (lv' := [(4, .long u10), (0, .ref (ad (cO GM 0))), (3, .int a3)]) hx hb dX10_heirDigest_147 hl (by decide) rfl (fun ls hl => ?_)
    refine lv_ldc2 (v := 31) hx hb F.2.2.2.1 (F.2.2.2.2 _ (mT6 57 rfl rfl)) dX10_heirDigest_149 ?_
    refine lv_lload hx hb dX10_heirDigest_152 (lv_at hl 0 rfl) ?_
    refine lv_lmul hx hb dX10_heirDigest_154 ?_
    refine lv_aload_n hx hb dX10_heirDigest_155 rfl (lv_at hl 1 rfl) ?_
    refine lv_iload_n hx hb dX10_heirDigest_156 rfl (lv_at hl 2 rfl) ?_
    refine lv_iconst (v := 1) hx hb dX10_heirDigest_157 (by decide) ?_
    obtain ⟨r11, hr11, h⟩ := bd_x h
    refine r_calli X (r_runV F X (kX10_wasBy l D ad cs A  r9.2 a3 1 _ hr11) gm_X10_283 hd_X10_wasBy ⟨Nat.le_of_ble_eq_true rfl, Nat.le_of_ble_eq_true rfl⟩ qM0 rfl rfl hl.1 rfl (Nat.le_of_ble_eq_true rfl) dX10_heirDigest_158) (fun H locs X => ?_)
    refine lv_i2l (v := Int32.toInt64 r11.1) hx hb dX10_heirDigest_161 rfl ?_
    refine lv_ladd hx hb dX10_heirDigest_162 ?_
    obtain ⟨u12, eu12, h⟩ := nm_x h
    refine topL eu12 ?_
    refine lv_lstore (lv' := [(4, .long u12), (0, .ref (ad (cO GM 0))), (3, .int a3)]) hx hb dX10_heirDigest_163 hl (by decide) rfl (fun ls hl => ?_)
    refine lv_ldc2 (v := 31) hx hb F.2.2.2.1 (F.2.2.2.2 _ (mT6 57 rfl rfl)) dX10_heirDigest_165 ?_
    refine lv_lload hx hb dX10_heirDigest_168 (lv_at hl 0 rfl) ?_
    refine lv_lmul hx hb dX10_heirDigest_170 ?_
    refine lv_aload_n hx hb dX10_heirDigest_171 rfl (lv_at hl 1 rfl) ?_
    refine lv_iload_n hx hb dX10_heirDigest_172 rfl (lv_at hl 2 rfl) ?_
    obtain ⟨r13, hr13, h⟩ := bd_x h
    refine r_calli X (r_runV F X (kX10_askOf l D ad cs A  r11.2 a3 _ hr13) gm_X10_286 hd_X10_askOf ⟨Nat.le_of_ble_eq_true rfl, Nat.le_of_ble_eq_true rfl⟩ qM0 rfl rfl hl.1 rfl (Nat.le_of_ble_eq_true rfl) dX10_heirDigest_173) (fun H locs X => ?_)
    refine lv_i2l (v := Int32.toInt64 r13.1) hx hb dX10_heirDigest_176 rfl ?_
    refine lv_ladd hx hb dX10_heirDigest_177 ?_
    obtain ⟨u14, eu14, h⟩ := nm_x h
    refine topL eu14 ?_
    refine lv_lstore (lv' := [(4, .long u14), (0, .ref (ad (cO GM 0))), (3, .int a3)]) hx hb dX10_heirDigest_178 hl (by decide) rfl (fun ls hl => ?_)
    refine lv_ldc2 (v := 31) hx hb F.2.2.2.1 (F.2.2.2.2 _ (mT6 57 rfl rfl)) dX10_heirDigest_180 ?_
    refine lv_lload hx hb dX10_heirDigest_183 (lv_at hl 0 rfl) ?_
    refine lv_lmul hx hb dX10_heirDigest_185 ?_
    refine lv_aload_n hx hb dX10_heirDigest_186 rfl (lv_at hl 1 rfl) ?_
    refine lv_iconst (v := 5) hx hb dX10_heirDigest_187 (by decide) ?_
    refine lv_iload_n hx hb dX10_heirDigest_188 rfl (lv_at hl 2 rfl) ?_
    refine lv_iconst (v := 0) hx hb dX10_heirDigest_189 (by decide) ?_
    obtain ⟨r15, hr15, h⟩ := bd_x h
    refine r_calll X (r_runV F X (kX10_swarmOf l D ad cs A  r13.2 5 a3 0 _ hr15) gm_X10_293 hd_X10_swarmOf ⟨Nat.le_of_ble_eq_true rfl, Nat.le_of_ble_eq_true rfl⟩ qM0 rfl rfl hl.1 rfl (Nat.le_of_ble_eq_true rfl) dX10_heirDigest_190) (fun H locs X => ?_)
    refine lv_ladd hx hb dX10_heirDigest_193 ?_
    obtain ⟨u16, eu16, h⟩ := nm_x h
    refine topL eu16 ?_
    refine lv_lstore (lv' := [(4, .long u16), (0, .ref (ad (cO GM 0))), (3, .int a3)]) hx hb dX10_heirDigest_194 hl (by decide) rfl (fun ls hl => ?_)
    refine lv_ldc2 (v := 31) hx hb F.2.2.2.1 (F.2.2.2.2 _ (mT6 57 rfl rfl)) dX10_heirDigest_196 ?_
    refine lv_lload hx hb dX10_heirDigest_199 (lv_at hl 0 rfl) ?_
    refine lv_lmul hx hb dX10_heirDigest_201 ?_
    refine lv_aload_n hx hb dX10_heirDigest_202 rfl (lv_at hl 1 rfl) ?_
    refine lv_iconst (v := 5) hx hb dX10_heirDigest_203 (by decide) ?_
    refine lv_iload_n hx hb dX10_heirDigest_204 rfl (lv_at hl 2 rfl) ?_
    refine lv_iconst (v := 1) hx hb dX10_heirDigest_205 (by decide) ?_
    obtain ⟨r17, hr17, h⟩ := bd_x h
    refine r_calll X (r_runV F X (kX10_swarmOf l D ad cs A  r15.2 5 a3 1 _ hr17) gm_X10_293 hd_X10_swarmOf ⟨Nat.le_of_ble_eq_true rfl, Nat.le_of_ble_eq_true rfl⟩ qM0 rfl rfl hl.1 rfl (Nat.le_of_ble_eq_true rfl) dX10_heirDigest_206) (fun H locs X => ?_)
    refine lv_ladd hx hb dX10_heirDigest_209 ?_
    have h := sm_x h
    exact RT H locs _ _ 210 ls X h dX10_heirDigest_210
  have L38 : ∀ (n : Nat) (H : Heap) (locs : List Loc) (x4 : Int64) (x6 : Int32) (M : Mem) (ls : Array Slot), Wd D ad cs GM A s H locs M → lv_has ls 7 [(0, .ref (ad (cO GM 0))), (3, .int a3), (4, .long x4), (6, .int x6)] → ∀ (_ : Unit), lpO (fun st => fX10_heirDigest_38 a1 a3 st.1 st.2.1 st.2.2) n (x4, x6, M) = some z → W p l e (rmo 9 256) s m args below meth c H locs 0 0 Q (F0 m 38 ls []) := by
    intro n
    induction n with
    | zero =>
      intro H locs x4 x6 M ls X hl  yy h
      exact lp_0 h
    | succ n1 ih38 =>
      intro H locs x4 x6 M ls X hl  _u h
      obtain ⟨y1, h, hk1⟩ := lp_x h
      unfold fX10_heirDigest_38 at h
      refine lv_iload hx hb dX10_heirDigest_38 (lv_at hl 3 rfl) ?_
      refine lv_iconst (v := 3) hx hb dX10_heirDigest_40 (by decide) ?_
      refine lv_icmp_ge (tgt := 71) hx hb dX10_heirDigest_41 (by decide) (fun c18 => ?_) (fun c18 => ?_)
      · have h := it_p h c18
        obtain ⟨_, h, ey⟩ := inr_x h
        rw [ey] at hk1
        have h := h.trans (congrArg some (sm_x hk1))
        exact J71 _ _ x4 M ls X (lv_sub hl [0, 1, 2] rfl)  () h
      · have h := it_n h c18
        refine lv_ldc2 (v := 31) hx hb F.2.2.2.1 (F.2.2.2.2 _ (mT6 57 rfl rfl)) dX10_heirDigest_44 ?_
        refine lv_lload hx hb dX10_heirDigest_47 (lv_at hl 2 rfl) ?_
        refine lv_lmul hx hb dX10_heirDigest_49 ?_
        refine lv_aload_n hx hb dX10_heirDigest_50 rfl (lv_at hl 0 rfl) ?_
        refine lv_aload_n hx hb dX10_heirDigest_51 rfl (lv_at hl 0 rfl) ?_
        refine gf_X10_117 F X qM0 dX10_heirDigest_52 ?_
        refine lv_iload_n hx hb dX10_heirDigest_55 rfl (lv_at hl 1 rfl) ?_
        refine lv_iload hx hb dX10_heirDigest_56 (lv_at hl 3 rfl) ?_
        obtain ⟨r19, hr19, h⟩ := bd_x h
        refine r_calli X (r_runV F X (kX10_shareOf l D ad cs A  M (M 0 6 0) a3 x6 _ hr19) gm_X10_224 hd_X10_shareOf ⟨Nat.le_of_ble_eq_true rfl, Nat.le_of_ble_eq_true rfl⟩ qM0 rfl rfl hl.1 rfl (Nat.le_of_ble_eq_true rfl) dX10_heirDigest_58) (fun H locs X => ?_)
        refine lv_i2l (v := Int32.toInt64 r19.1) hx hb dX10_heirDigest_61 rfl ?_
        refine lv_ladd hx hb dX10_heirDigest_62 ?_
        obtain ⟨u20, eu20, h⟩ := nm_x h
        refine topL eu20 ?_
        refine lv_lstore (lv' := [(4, .long u20), (0, .ref (ad (cO GM 0))), (3, .int a3), (6, .int x6)]) hx hb dX10_heirDigest_63 hl (by decide) rfl (fun ls hl => ?_)
        obtain ⟨u21, eu21, h⟩ := nm_x h
        refine lv_iinc (v := u21) (lv' := [(6, .int u21), (4, .long u20), (0, .ref (ad (cO GM 0))), (3, .int a3)]) hx hb dX10_heirDigest_65 hl (k := 3) rfl (by rw [eu21]; rfl) (by decide) rfl (fun ls hl => ?_)
        refine lv_goto (tgt := 38) hx hb dX10_heirDigest_68 (by decide) ?_
        rw [← sm_x h] at hk1
        exact ih38 _ _ u20 u21 r19.2 ls X (lv_sub hl [2, 3, 1, 0] rfl)  () hk1
  have J35 : ∀ (H : Heap) (locs : List Loc) (x4 : Int64) (M : Mem) (ls : Array Slot), Wd D ad cs GM A s H locs M → lv_has ls 7 [(0, .ref (ad (cO GM 0))), (3, .int a3), (4, .long x4)] → ∀ (_ : Unit), fX10_heirDigest_35 a1 a3 x4 M = some z → W p l e (rmo 9 256) s m args below meth c H locs 0 0 Q (F0 m 35 ls []) := by
    intro H locs x4 M ls X hl  _u h
    unfold fX10_heirDigest_35 at h
    refine lv_iconst (v := 0) hx hb dX10_heirDigest_35 (by decide) ?_
    obtain ⟨u22, eu22, h⟩ := nm_x h
    refine topE eu22 ?_
    refine lv_istore (lv' := [(6, .int u22), (0, .ref (ad (cO GM 0))), (3, .int a3), (4, .long x4)]) hx hb dX10_heirDigest_36 hl (by decide) rfl (fun ls hl => ?_)
    exact L38 FU _ _ x4 u22 M ls X (lv_sub hl [1, 2, 3, 0] rfl)  () h
  have L6 : ∀ (n : Nat) (H : Heap) (locs : List Loc) (x4 : Int64) (x6 : Int32) (M : Mem) (ls : Array Slot), Wd D ad cs GM A s H locs M → lv_has ls 7 [(0, .ref (ad (cO GM 0))), (3, .int a3), (4, .long x4), (6, .int x6)] → ∀ (_ : Unit), lpO (fun st => fX10_heirDigest_6 a1 a3 st.1 st.2.1 st.2.2) n (x4, x6, M) = some z → W p l e (rmo 9 256) s m args below meth c H locs 0 0 Q (F0 m 6 ls []) := by
    intro n
    induction n with
    | zero =>
      intro H locs x4 x6 M ls X hl  yy h
      exact lp_0 h
    | succ n1 ih6 =>
      intro H locs x4 x6 M ls X hl  _u h
      obtain ⟨y1, h, hk1⟩ := lp_x h
      unfold fX10_heirDigest_6 at h
      refine lv_iload hx hb dX10_heirDigest_6 (lv_at hl 3 rfl) ?_
      refine lv_iconst (v := 3) hx hb dX10_heirDigest_8 (by decide) ?_
      refine lv_icmp_ge (tgt := 35) hx hb dX10_heirDigest_9 (by decide) (fun c23 => ?_) (fun c23 => ?_)
      · have h := it_p h c23
        obtain ⟨_, h, ey⟩ := inr_x h
        rw [ey] at hk1
        have h := h.trans (congrArg some (sm_x hk1))
        exact J35 _ _ x4 M ls X (lv_sub hl [0, 1, 2] rfl)  () h
      · have h := it_n h c23
        refine lv_ldc2 (v := 31) hx hb F.2.2.2.1 (F.2.2.2.2 _ (mT6 57 rfl rfl)) dX10_heirDigest_12 ?_
        refine lv_lload hx hb dX10_heirDigest_15 (lv_at hl 2 rfl) ?_
        refine lv_lmul hx hb dX10_heirDigest_17 ?_
        refine lv_aload_n hx hb dX10_heirDigest_18 rfl (lv_at hl 0 rfl) ?_
        refine lv_iload_n hx hb dX10_heirDigest_19 rfl (lv_at hl 1 rfl) ?_
        refine lv_iload hx hb dX10_heirDigest_20 (lv_at hl 3 rfl) ?_
        obtain ⟨r24, hr24, h⟩ := bd_x h
        refine r_calli0 X (r_runV F X (kX10_heirOf l D ad cs A  M a3 x6 _ hr24) gm_X10_136 hd_X10_heirOf ⟨Nat.le_of_ble_eq_true rfl, Nat.le_of_ble_eq_true rfl⟩ qM0 rfl rfl hl.1 rfl (Nat.le_of_ble_eq_true rfl) dX10_heirDigest_22) (fun H locs X => ?_)
        refine lv_i2l (v := Int32.toInt64 r24) hx hb dX10_heirDigest_25 rfl ?_
        refine lv_ladd hx hb dX10_heirDigest_26 ?_
        obtain ⟨u25, eu25, h⟩ := nm_x h
        refine topL eu25 ?_
        refine lv_lstore (lv' := [(4, .long u25), (0, .ref (ad (cO GM 0))), (3, .int a3), (6, .int x6)]) hx hb dX10_heirDigest_27 hl (by decide) rfl (fun ls hl => ?_)
        obtain ⟨u26, eu26, h⟩ := nm_x h
        refine lv_iinc (v := u26) (lv' := [(6, .int u26), (4, .long u25), (0, .ref (ad (cO GM 0))), (3, .int a3)]) hx hb dX10_heirDigest_29 hl (k := 3) rfl (by rw [eu26]; rfl) (by decide) rfl (fun ls hl => ?_)
        refine lv_goto (tgt := 6) hx hb dX10_heirDigest_32 (by decide) ?_
        rw [← sm_x h] at hk1
        exact ih6 _ _ u25 u26 M ls X (lv_sub hl [2, 3, 1, 0] rfl)  () hk1
  have h := hz
  unfold fX10_heirDigest at h
  refine lv_lload_n hx hb dX10_heirDigest_0 rfl (lv_at hl 1 rfl) ?_
  obtain ⟨u27, eu27, h⟩ := nm_x h
  refine topL eu27 ?_
  refine lv_lstore (lv' := [(4, .long u27), (0, .ref (ad (cO GM 0))), (1, .long a1), (3, .int a3)]) hx hb dX10_heirDigest_1 hl (by decide) rfl (fun ls hl => ?_)
  refine lv_iconst (v := 0) hx hb dX10_heirDigest_3 (by decide) ?_
  obtain ⟨u28, eu28, h⟩ := nm_x h
  refine topE eu28 ?_
  refine lv_istore (lv' := [(6, .int u28), (4, .long u27), (0, .ref (ad (cO GM 0))), (1, .long a1), (3, .int a3)]) hx hb dX10_heirDigest_4 hl (by decide) rfl (fun ls hl => ?_)
  exact L6 FU _ _ u27 u28 M ls X (lv_sub hl [2, 4, 1, 0] rfl)  () h

/-! ===== X10_stopDigest ===== -/
def fX10_stopDigest_50 (a1 : Int64) (a3 : Int32) (x4 : Int64) (x6 : Int32) (M : Mem) : Option ((Int64 × Int32 × Mem) ⊕ (Int64 × Mem)) :=
  if (M 0 2 0) ≤ x6 then
    some (.inr (x4, M))
  else
    (fX10_shareOf M a3 x6 0).bind fun r2 =>
    nm (((31 : Int64) * x4) + (Int32.toInt64 r2.1) : Int64) fun u3 =>
    nm (x6 + 1 : Int32) fun u4 =>
    some (.inl (u3, u4, r2.2))
def fX10_stopDigest_47 (a1 : Int64) (a3 : Int32) (x4 : Int64) (M : Mem) : Option (Int64 × Mem) :=
  nm (0 : Int32) fun u5 =>
  lpO (fun st => fX10_stopDigest_50 a1 a3 st.1 st.2.1 st.2.2) FU (x4, u5, M)
def fX10_stopDigest_18 (a1 : Int64) (a3 : Int32) (x4 : Int64) (x6 : Int32) (M : Mem) : Option ((Int64 × Int32 × Mem) ⊕ (Int64 × Mem)) :=
  if 4 ≤ x6 then
    inr' (fX10_stopDigest_47 a1 a3 x4 M)
  else
    (fX10_doesOf M a3 x6).bind fun r7 =>
    nm (((31 : Int64) * x4) + (Int32.toInt64 r7.1) : Int64) fun u8 =>
    nm (x6 + 1 : Int32) fun u9 =>
    some (.inl (u8, u9, r7.2))
def fX10_stopDigest (M : Mem) (a1 : Int64) (a3 : Int32) : Option (Int64 × Mem) :=
  gd (inB a3 20) <|
  nm (((31 : Int64) * a1) + (Int32.toInt64 (M 0 7 (Int32.toNatClampNeg a3))) : Int64) fun u10 =>
  nm (0 : Int32) fun u11 =>
  lpO (fun st => fX10_stopDigest_18 a1 a3 st.1 st.2.1 st.2.2) FU (u10, u11, M)
set_option maxHeartbeats 4000000 in
set_option maxRecDepth 100000 in
theorem kX10_stopDigest (l : Launch) (D : va_G) (ad : Nat → Nat) (cs : Nat → ClassId) (A : Nat → Prop)  (M : Mem) (a1 : Int64) (a3 : Int32) (z : (Int64 × Mem)) (hz : fX10_stopDigest M a1 a3 = some z) : Met l yX10_stopDigest (wsU yX10_stopDigest cX10_stopDigest 7 (some .long)) (rmo 9 243) (va_Pc [.ref (ad (cO GM 0)), .long a1, .int a3] (Wd0 D ad cs GM A M)) (va_Ql (fun r u => (r, u) = z) (Wd0 D ad cs GM A) A) 0 0 A := by
  refine ct_l (by decide) rfl okGM (Nat.le_of_ble_eq_true rfl) ?_
  intro p e s m args below meth c Q ls F X hl RT
  have hx := F.1
  have hb := F.2.1
  have hl : lv_has ls 7 [(0, .ref (ad (cO GM 0))), (1, .long a1), (3, .int a3)] := hl
  obtain ⟨H, hH⟩ : ∃ H, H = s.heap := ⟨_, rfl⟩
  rw [← hH] at X ⊢
  obtain ⟨locs, hlocs⟩ : ∃ locs : List Loc, locs = [] := ⟨_, rfl⟩
  rw [← hlocs] at X ⊢
  clear hH hlocs
  have L50 : ∀ (n : Nat) (H : Heap) (locs : List Loc) (x4 : Int64) (x6 : Int32) (M : Mem) (ls : Array Slot), Wd D ad cs GM A s H locs M → lv_has ls 7 [(0, .ref (ad (cO GM 0))), (3, .int a3), (4, .long x4), (6, .int x6)] → ∀ (_ : Unit), lpO (fun st => fX10_stopDigest_50 a1 a3 st.1 st.2.1 st.2.2) n (x4, x6, M) = some z → W p l e (rmo 9 243) s m args below meth c H locs 0 0 Q (F0 m 50 ls []) := by
    intro n
    induction n with
    | zero =>
      intro H locs x4 x6 M ls X hl  yy h
      exact lp_0 h
    | succ n1 ih50 =>
      intro H locs x4 x6 M ls X hl  _u h
      obtain ⟨y1, h, hk1⟩ := lp_x h
      unfold fX10_stopDigest_50 at h
      refine lv_iload hx hb dX10_stopDigest_50 (lv_at hl 3 rfl) ?_
      refine lv_aload_n hx hb dX10_stopDigest_52 rfl (lv_at hl 0 rfl) ?_
      refine gf_X10_109 F X qM0 dX10_stopDigest_53 ?_
      refine lv_icmp_ge (tgt := 83) hx hb dX10_stopDigest_56 (by decide) (fun c1 => ?_) (fun c1 => ?_)
      · have h := it_p h c1
        refine lv_lload hx hb dX10_stopDigest_83 (lv_at hl 2 rfl) ?_
        have h := sm_x h
        rw [← h] at hk1
        have h := sm_x hk1
        exact RT H locs _ _ 85 ls X h dX10_stopDigest_85
      · have h := it_n h c1
        refine lv_ldc2 (v := 31) hx hb F.2.2.2.1 (F.2.2.2.2 _ (mT6 57 rfl rfl)) dX10_stopDigest_59 ?_
        refine lv_lload hx hb dX10_stopDigest_62 (lv_at hl 2 rfl) ?_
        refine lv_lmul hx hb dX10_stopDigest_64 ?_
        refine lv_aload_n hx hb dX10_stopDigest_65 rfl (lv_at hl 0 rfl) ?_
        refine lv_iload_n hx hb dX10_stopDigest_66 rfl (lv_at hl 1 rfl) ?_
        refine lv_iload hx hb dX10_stopDigest_67 (lv_at hl 3 rfl) ?_
        refine lv_iconst (v := 0) hx hb dX10_stopDigest_69 (by decide) ?_
        obtain ⟨r2, hr2, h⟩ := bd_x h
        refine r_calli X (r_runV F X (kX10_shareOf l D ad cs A  M a3 x6 0 _ hr2) gm_X10_224 hd_X10_shareOf ⟨Nat.le_of_ble_eq_true rfl, Nat.le_of_ble_eq_true rfl⟩ qM0 rfl rfl hl.1 rfl (Nat.le_of_ble_eq_true rfl) dX10_stopDigest_70) (fun H locs X => ?_)
        refine lv_i2l (v := Int32.toInt64 r2.1) hx hb dX10_stopDigest_73 rfl ?_
        refine lv_ladd hx hb dX10_stopDigest_74 ?_
        obtain ⟨u3, eu3, h⟩ := nm_x h
        refine topL eu3 ?_
        refine lv_lstore (lv' := [(4, .long u3), (0, .ref (ad (cO GM 0))), (3, .int a3), (6, .int x6)]) hx hb dX10_stopDigest_75 hl (by decide) rfl (fun ls hl => ?_)
        obtain ⟨u4, eu4, h⟩ := nm_x h
        refine lv_iinc (v := u4) (lv' := [(6, .int u4), (4, .long u3), (0, .ref (ad (cO GM 0))), (3, .int a3)]) hx hb dX10_stopDigest_77 hl (k := 3) rfl (by rw [eu4]; rfl) (by decide) rfl (fun ls hl => ?_)
        refine lv_goto (tgt := 50) hx hb dX10_stopDigest_80 (by decide) ?_
        rw [← sm_x h] at hk1
        exact ih50 _ _ u3 u4 r2.2 ls X (lv_sub hl [2, 3, 1, 0] rfl)  () hk1
  have J47 : ∀ (H : Heap) (locs : List Loc) (x4 : Int64) (M : Mem) (ls : Array Slot), Wd D ad cs GM A s H locs M → lv_has ls 7 [(0, .ref (ad (cO GM 0))), (3, .int a3), (4, .long x4)] → ∀ (_ : Unit), fX10_stopDigest_47 a1 a3 x4 M = some z → W p l e (rmo 9 243) s m args below meth c H locs 0 0 Q (F0 m 47 ls []) := by
    intro H locs x4 M ls X hl  _u h
    unfold fX10_stopDigest_47 at h
    refine lv_iconst (v := 0) hx hb dX10_stopDigest_47 (by decide) ?_
    obtain ⟨u5, eu5, h⟩ := nm_x h
    refine topE eu5 ?_
    refine lv_istore (lv' := [(6, .int u5), (0, .ref (ad (cO GM 0))), (3, .int a3), (4, .long x4)]) hx hb dX10_stopDigest_48 hl (by decide) rfl (fun ls hl => ?_)
    exact L50 FU _ _ x4 u5 M ls X (lv_sub hl [1, 2, 3, 0] rfl)  () h
  have L18 : ∀ (n : Nat) (H : Heap) (locs : List Loc) (x4 : Int64) (x6 : Int32) (M : Mem) (ls : Array Slot), Wd D ad cs GM A s H locs M → lv_has ls 7 [(0, .ref (ad (cO GM 0))), (3, .int a3), (4, .long x4), (6, .int x6)] → ∀ (_ : Unit), lpO (fun st => fX10_stopDigest_18 a1 a3 st.1 st.2.1 st.2.2) n (x4, x6, M) = some z → W p l e (rmo 9 243) s m args below meth c H locs 0 0 Q (F0 m 18 ls []) := by
    intro n
    induction n with
    | zero =>
      intro H locs x4 x6 M ls X hl  yy h
      exact lp_0 h
    | succ n1 ih18 =>
      intro H locs x4 x6 M ls X hl  _u h
      obtain ⟨y1, h, hk1⟩ := lp_x h
      unfold fX10_stopDigest_18 at h
      refine lv_iload hx hb dX10_stopDigest_18 (lv_at hl 3 rfl) ?_
      refine lv_iconst (v := 4) hx hb dX10_stopDigest_20 (by decide) ?_
      refine lv_icmp_ge (tgt := 47) hx hb dX10_stopDigest_21 (by decide) (fun c6 => ?_) (fun c6 => ?_)
      · have h := it_p h c6
        obtain ⟨_, h, ey⟩ := inr_x h
        rw [ey] at hk1
        have h := h.trans (congrArg some (sm_x hk1))
        exact J47 _ _ x4 M ls X (lv_sub hl [0, 1, 2] rfl)  () h
      · have h := it_n h c6
        refine lv_ldc2 (v := 31) hx hb F.2.2.2.1 (F.2.2.2.2 _ (mT6 57 rfl rfl)) dX10_stopDigest_24 ?_
        refine lv_lload hx hb dX10_stopDigest_27 (lv_at hl 2 rfl) ?_
        refine lv_lmul hx hb dX10_stopDigest_29 ?_
        refine lv_aload_n hx hb dX10_stopDigest_30 rfl (lv_at hl 0 rfl) ?_
        refine lv_iload_n hx hb dX10_stopDigest_31 rfl (lv_at hl 1 rfl) ?_
        refine lv_iload hx hb dX10_stopDigest_32 (lv_at hl 3 rfl) ?_
        obtain ⟨r7, hr7, h⟩ := bd_x h
        refine r_calli X (r_runV F X (kX10_doesOf l D ad cs A  M a3 x6 _ hr7) gm_X10_221 hd_X10_doesOf ⟨Nat.le_of_ble_eq_true rfl, Nat.le_of_ble_eq_true rfl⟩ qM0 rfl rfl hl.1 rfl (Nat.le_of_ble_eq_true rfl) dX10_stopDigest_34) (fun H locs X => ?_)
        refine lv_i2l (v := Int32.toInt64 r7.1) hx hb dX10_stopDigest_37 rfl ?_
        refine lv_ladd hx hb dX10_stopDigest_38 ?_
        obtain ⟨u8, eu8, h⟩ := nm_x h
        refine topL eu8 ?_
        refine lv_lstore (lv' := [(4, .long u8), (0, .ref (ad (cO GM 0))), (3, .int a3), (6, .int x6)]) hx hb dX10_stopDigest_39 hl (by decide) rfl (fun ls hl => ?_)
        obtain ⟨u9, eu9, h⟩ := nm_x h
        refine lv_iinc (v := u9) (lv' := [(6, .int u9), (4, .long u8), (0, .ref (ad (cO GM 0))), (3, .int a3)]) hx hb dX10_stopDigest_41 hl (k := 3) rfl (by rw [eu9]; rfl) (by decide) rfl (fun ls hl => ?_)
        refine lv_goto (tgt := 18) hx hb dX10_stopDigest_44 (by decide) ?_
        rw [← sm_x h] at hk1
        exact ih18 _ _ u8 u9 r7.2 ls X (lv_sub hl [2, 3, 1, 0] rfl)  () hk1
  have h := hz
  unfold fX10_stopDigest at h
  refine lv_ldc2 (v := 31) hx hb F.2.2.2.1 (F.2.2.2.2 _ (mT6 57 rfl rfl)) dX10_stopDigest_0 ?_
  refine lv_lload_n hx hb dX10_stopDigest_3 rfl (lv_at hl 1 rfl) ?_
  refine lv_lmul hx hb dX10_stopDigest_4 ?_
  refine lv_aload_n hx hb dX10_stopDigest_5 rfl (lv_at hl 0 rfl) ?_
  refine gf_X10_25 F X qM0 dX10_stopDigest_6 ?_
  refine lv_iload_n hx hb dX10_stopDigest_9 rfl (lv_at hl 2 rfl) ?_
  obtain ⟨hin, h⟩ := gd_x h
  refine r_iald F X (ar_X10_7 qM0) hin dX10_stopDigest_10 ?_
  refine lv_i2l (v := Int32.toInt64 (M 0 7 (Int32.toNatClampNeg a3))) hx hb dX10_stopDigest_11 rfl ?_
  refine lv_ladd hx hb dX10_stopDigest_12 ?_
  obtain ⟨u10, eu10, h⟩ := nm_x h
  refine topL eu10 ?_
  refine lv_lstore (lv' := [(4, .long u10), (0, .ref (ad (cO GM 0))), (1, .long a1), (3, .int a3)]) hx hb dX10_stopDigest_13 hl (by decide) rfl (fun ls hl => ?_)
  refine lv_iconst (v := 0) hx hb dX10_stopDigest_15 (by decide) ?_
  obtain ⟨u11, eu11, h⟩ := nm_x h
  refine topE eu11 ?_
  refine lv_istore (lv' := [(6, .int u11), (4, .long u10), (0, .ref (ad (cO GM 0))), (1, .long a1), (3, .int a3)]) hx hb dX10_stopDigest_16 hl (by decide) rfl (fun ls hl => ?_)
  exact L18 FU _ _ u10 u11 M ls X (lv_sub hl [2, 4, 1, 0] rfl)  () h

/-! ===== X10_digest ===== -/
def fX10_digest_220  (x1 : Int64) (M : Mem) : Option (Int64 × Mem) :=
  (fX10_neverNow M).bind fun r1 =>
  nm (((31 : Int64) * x1) + (Int32.toInt64 r1.1) : Int64) fun u2 =>
  (fX10_againOf r1.2 7 15 0).bind fun r3 =>
  nm (((31 : Int64) * u2) + (Int32.toInt64 r3.1) : Int64) fun u4 =>
  (fX10_againOf r3.2 7 15 1).bind fun r5 =>
  some (((31 : Int64) * u4) + (Int32.toInt64 r5.1), r5.2)
def fX10_digest_211  (x4 : Int32) (v0 : Int32) (v1 : Int64) (M : Mem) : Option ((Int64 × Int32 × Mem) ⊕ (Int64 × Mem)) :=
  nm (v1 + (Int32.toInt64 v0) : Int64) fun u6 =>
  nm (x4 + 1 : Int32) fun u7 =>
  some (.inl (u6, u7, M))
def fX10_digest_180  (x1 : Int64) (x4 : Int32) (M : Mem) : Option ((Int64 × Int32 × Mem) ⊕ (Int64 × Mem)) :=
  if 3 ≤ x4 then
    inr' (fX10_digest_220 x1 M)
  else
    if (M 0 2 0) ≤ x4 then
      fX10_digest_211 x4 (-1) ((31 : Int64) * x1) M
    else
      gd (inB x4 8) <|
      fX10_digest_211 x4 (M 0 31 (Int32.toNatClampNeg x4)) ((31 : Int64) * x1) M
def fX10_digest_103  (x1 : Int64) (M : Mem) : Option (Int64 × Mem) :=
  (fX10_outOf M).bind fun r10 =>
  nm (((31 : Int64) * x1) + (Int32.toInt64 r10.1) : Int64) fun u11 =>
  (fX10_estateOf r10.2).bind fun r12 =>
  nm (((31 : Int64) * u11) + (Int32.toInt64 r12.1) : Int64) fun u13 =>
  (fX10_richestOf r12.2).bind fun r14 =>
  nm (((31 : Int64) * u13) + (Int32.toInt64 r14.1) : Int64) fun u15 =>
  (fX10_longestOf r14.2).bind fun r16 =>
  nm (((31 : Int64) * u15) + (Int32.toInt64 r16.1) : Int64) fun u17 =>
  (fX10_ditchOf r16.2).bind fun r18 =>
  nm (((31 : Int64) * u17) + (Int32.toInt64 r18.1) : Int64) fun u19 =>
  (fX10_fairBy r18.2).bind fun r20 =>
  nm (r20.1 : Int32) fun u21 =>
  nm (((31 : Int64) * u19) + (Int32.toInt64 u21) : Int64) fun u22 =>
  nm (0 : Int32) fun u23 =>
  lpO (fun st => fX10_digest_180 st.1 st.2.1 st.2.2) FU (u22, u23, r20.2)
def fX10_digest_82  (x1 : Int64) (x3 : Int32) (M : Mem) : Option ((Int64 × Int32 × Mem) ⊕ (Int64 × Mem)) :=
  if (M 0 6 0) ≤ x3 then
    inr' (fX10_digest_103 x1 M)
  else
    (fX10_stopDigest M x1 x3).bind fun r25 =>
    nm (r25.1 : Int64) fun u26 =>
    nm (x3 + 1 : Int32) fun u27 =>
    some (.inl (u26, u27, r25.2))
def fX10_digest_80  (x1 : Int64) (M : Mem) : Option (Int64 × Mem) :=
  nm (0 : Int32) fun u28 =>
  lpO (fun st => fX10_digest_82 st.1 st.2.1 st.2.2) FU (x1, u28, M)
def fX10_digest_59  (x1 : Int64) (x3 : Int32) (M : Mem) : Option ((Int64 × Int32 × Mem) ⊕ (Int64 × Mem)) :=
  if (M 0 2 0) ≤ x3 then
    inr' (fX10_digest_80 x1 M)
  else
    (fX10_heirDigest M x1 x3).bind fun r30 =>
    nm (r30.1 : Int64) fun u31 =>
    nm (x3 + 1 : Int32) fun u32 =>
    some (.inl (u31, u32, r30.2))
def fX10_digest_31  (x1 : Int64) (M : Mem) : Option (Int64 × Mem) :=
  (fX10_faultOf M 0).bind fun r33 =>
  nm (((31 : Int64) * x1) + (Int32.toInt64 r33.1) : Int64) fun u34 =>
  (fX10_faultOf r33.2 1).bind fun r35 =>
  nm (((31 : Int64) * u34) + (Int32.toInt64 r35.1) : Int64) fun u36 =>
  nm (0 : Int32) fun u37 =>
  lpO (fun st => fX10_digest_59 st.1 st.2.1 st.2.2) FU (u36, u37, r35.2)
def fX10_digest_6  (x1 : Int64) (x3 : Int32) (M : Mem) : Option ((Int64 × Int32 × Mem) ⊕ (Int64 × Mem)) :=
  if 8 ≤ x3 then
    inr' (fX10_digest_31 x1 M)
  else
    (fX10_count M x3).bind fun r39 =>
    nm (((31 : Int64) * x1) + (Int32.toInt64 r39.1) : Int64) fun u40 =>
    nm (x3 + 1 : Int32) fun u41 =>
    some (.inl (u40, u41, r39.2))
def fX10_digest (M : Mem) : Option (Int64 × Mem) :=
  nm (17 : Int64) fun u42 =>
  nm (0 : Int32) fun u43 =>
  lpO (fun st => fX10_digest_6 st.1 st.2.1 st.2.2) FU (u42, u43, M)
set_option maxHeartbeats 4000000 in
set_option maxRecDepth 100000 in
theorem kX10_digest (l : Launch) (D : va_G) (ad : Nat → Nat) (cs : Nat → ClassId) (A : Nat → Prop)  (M : Mem)  (z : (Int64 × Mem)) (hz : fX10_digest M = some z) : Met l yX10_digest (wsU yX10_digest cX10_digest 5 (some .long)) (rmo 10 282) (va_Pc [.ref (ad (cO GM 0))] (Wd0 D ad cs GM A M)) (va_Ql (fun r u => (r, u) = z) (Wd0 D ad cs GM A) A) 0 0 A := by
  refine ct_l (by decide) rfl okGM (Nat.le_of_ble_eq_true rfl) ?_
  intro p e s m args below meth c Q ls F X hl RT
  have hx := F.1
  have hb := F.2.1
  have hl : lv_has ls 5 [(0, .ref (ad (cO GM 0)))] := hl
  obtain ⟨H, hH⟩ : ∃ H, H = s.heap := ⟨_, rfl⟩
  rw [← hH] at X ⊢
  obtain ⟨locs, hlocs⟩ : ∃ locs : List Loc, locs = [] := ⟨_, rfl⟩
  rw [← hlocs] at X ⊢
  clear hH hlocs
  have J220 : ∀ (H : Heap) (locs : List Loc) (x1 : Int64) (M : Mem) (ls : Array Slot), Wd D ad cs GM A s H locs M → lv_has ls 5 [(0, .ref (ad (cO GM 0))), (1, .long x1)] → ∀ (_ : Unit), fX10_digest_220 x1 M = some z → W p l e (rmo 10 282) s m args below meth c H locs 0 0 Q (F0 m 220 ls []) := by
    intro H locs x1 M ls X hl  _u h
    unfold fX10_digest_220 at h
    refine lv_ldc2 (v := 31) hx hb F.2.2.2.1 (F.2.2.2.2 _ (mT6 57 rfl rfl)) dX10_digest_220 ?_
    refine lv_lload_n hx hb dX10_digest_223 rfl (lv_at hl 1 rfl) ?_
    refine lv_lmul hx hb dX10_digest_224 ?_
    refine lv_aload_n hx hb dX10_digest_225 rfl (lv_at hl 0 rfl) ?_
    obtain ⟨r1, hr1, h⟩ := bd_x h
    refine r_calli X (r_runV F X (kX10_neverNow l D ad cs A  M  _ hr1) gm_X10_280 hd_X10_neverNow ⟨Nat.le_of_ble_eq_true rfl, Nat.le_of_ble_eq_true rfl⟩ qM0 rfl rfl hl.1 rfl (Nat.le_of_ble_eq_true rfl) dX10_digest_226) (fun H locs X => ?_)
    refine lv_i2l (v := Int32.toInt64 r1.1) hx hb dX10_digest_229 rfl ?_
    refine lv_ladd hx hb dX10_digest_230 ?_
    obtain ⟨u2, eu2, h⟩ := nm_x h
    refine topL eu2 ?_
    refine lv_lstore_n (lv' := [(1, .long u2), (0, .ref (ad (cO GM 0)))]) hx hb dX10_digest_231 rfl hl (by decide) rfl (fun ls hl => ?_)
    refine lv_ldc2 (v := 31) hx hb F.2.2.2.1 (F.2.2.2.2 _ (mT6 57 rfl rfl)) dX10_digest_232 ?_
    refine lv_lload_n hx hb dX10_digest_235 rfl (lv_at hl 0 rfl) ?_
    refine lv_lmul hx hb dX10_digest_236 ?_
    refine lv_aload_n hx hb dX10_digest_237 rfl (lv_at hl 1 rfl) ?_
    refine lv_bipush (v := 7) hx hb dX10_digest_238 (by decide) ?_
    refine lv_bipush (v := 15) hx hb dX10_digest_240 (by decide) ?_
    refine lv_iconst (v := 0) hx hb dX10_digest_242 (by decide) ?_
    obtain ⟨r3, hr3, h⟩ := bd_x h
    refine r_calli X (r_runV F X (kX10_againOf l D ad cs A  r1.2 7 15 0 _ hr3) gm_X10_302 hd_X10_againOf ⟨Nat.le_of_ble_eq_true rfl, Nat.le_of_ble_eq_true rfl⟩ qM0 rfl rfl hl.1 rfl (Nat.le_of_ble_eq_true rfl) dX10_digest_243) (fun H locs X => ?_)
    refine lv_i2l (v := Int32.toInt64 r3.1) hx hb dX10_digest_246 rfl ?_
    refine lv_ladd hx hb dX10_digest_247 ?_
    obtain ⟨u4, eu4, h⟩ := nm_x h
    refine topL eu4 ?_
    refine lv_lstore_n (lv' := [(1, .long u4), (0, .ref (ad (cO GM 0)))]) hx hb dX10_digest_248 rfl hl (by decide) rfl (fun ls hl => ?_)
    refine lv_ldc2 (v := 31) hx hb F.2.2.2.1 (F.2.2.2.2 _ (mT6 57 rfl rfl)) dX10_digest_249 ?_
    refine lv_lload_n hx hb dX10_digest_252 rfl (lv_at hl 0 rfl) ?_
    refine lv_lmul hx hb dX10_digest_253 ?_
    refine lv_aload_n hx hb dX10_digest_254 rfl (lv_at hl 1 rfl) ?_
    refine lv_bipush (v := 7) hx hb dX10_digest_255 (by decide) ?_
    refine lv_bipush (v := 15) hx hb dX10_digest_257 (by decide) ?_
    refine lv_iconst (v := 1) hx hb dX10_digest_259 (by decide) ?_
    obtain ⟨r5, hr5, h⟩ := bd_x h
    refine r_calli X (r_runV F X (kX10_againOf l D ad cs A  r3.2 7 15 1 _ hr5) gm_X10_302 hd_X10_againOf ⟨Nat.le_of_ble_eq_true rfl, Nat.le_of_ble_eq_true rfl⟩ qM0 rfl rfl hl.1 rfl (Nat.le_of_ble_eq_true rfl) dX10_digest_260) (fun H locs X => ?_)
    refine lv_i2l (v := Int32.toInt64 r5.1) hx hb dX10_digest_263 rfl ?_
    refine lv_ladd hx hb dX10_digest_264 ?_
    have h := sm_x h
    exact RT H locs _ _ 265 ls X h dX10_digest_265
  have L180 : ∀ (n : Nat) (H : Heap) (locs : List Loc) (x1 : Int64) (x4 : Int32) (M : Mem) (ls : Array Slot), Wd D ad cs GM A s H locs M → lv_has ls 5 [(0, .ref (ad (cO GM 0))), (1, .long x1), (4, .int x4)] → ∀ (_ : Unit), lpO (fun st => fX10_digest_180 st.1 st.2.1 st.2.2) n (x1, x4, M) = some z → W p l e (rmo 10 282) s m args below meth c H locs 0 0 Q (F0 m 180 ls []) := by
    intro n
    induction n with
    | zero =>
      intro H locs x1 x4 M ls X hl  yy h
      exact lp_0 h
    | succ n1 ih180 =>
      intro H locs x1 x4 M ls X hl  _u h
      obtain ⟨y1, h, hk1⟩ := lp_x h
      have J211 : ∀ (H : Heap) (locs : List Loc) (x4 : Int32) (v0 : Int32) (v1 : Int64) (M : Mem) (ls : Array Slot), Wd D ad cs GM A s H locs M → lv_has ls 5 [(0, .ref (ad (cO GM 0))), (4, .int x4)] → ∀ (y1 : ((Int64 × Int32 × Mem) ⊕ (Int64 × Mem))), fX10_digest_211 x4 v0 v1 M = some y1 → lpK (fun st => fX10_digest_180 st.1 st.2.1 st.2.2) n1 y1 = some z → W p l e (rmo 10 282) s m args below meth c H locs 0 0 Q (F0 m 211 ls [.int v0, .long v1]) := by
        intro H locs x4 v0 v1 M ls X hl  y1 h hk1
        unfold fX10_digest_211 at h
        refine lv_i2l (v := Int32.toInt64 v0) hx hb dX10_digest_211 rfl ?_
        refine lv_ladd hx hb dX10_digest_212 ?_
        obtain ⟨u6, eu6, h⟩ := nm_x h
        refine topL eu6 ?_
        refine lv_lstore_n (lv' := [(1, .long u6), (0, .ref (ad (cO GM 0))), (4, .int x4)]) hx hb dX10_digest_213 rfl hl (by decide) rfl (fun ls hl => ?_)
        obtain ⟨u7, eu7, h⟩ := nm_x h
        refine lv_iinc (v := u7) (lv' := [(4, .int u7), (1, .long u6), (0, .ref (ad (cO GM 0)))]) hx hb dX10_digest_214 hl (k := 2) rfl (by rw [eu7]; rfl) (by decide) rfl (fun ls hl => ?_)
        refine lv_goto (tgt := 180) hx hb dX10_digest_217 (by decide) ?_
        rw [← sm_x h] at hk1
        exact ih180 _ _ u6 u7 M ls X (lv_sub hl [2, 1, 0] rfl)  () hk1
      unfold fX10_digest_180 at h
      refine lv_iload hx hb dX10_digest_180 (lv_at hl 2 rfl) ?_
      refine lv_iconst (v := 3) hx hb dX10_digest_182 (by decide) ?_
      refine lv_icmp_ge (tgt := 220) hx hb dX10_digest_183 (by decide) (fun c8 => ?_) (fun c8 => ?_)
      · have h := it_p h c8
        obtain ⟨_, h, ey⟩ := inr_x h
        rw [ey] at hk1
        have h := h.trans (congrArg some (sm_x hk1))
        exact J220 _ _ x1 M ls X (lv_sub hl [0, 1] rfl)  () h
      · have h := it_n h c8
        refine lv_ldc2 (v := 31) hx hb F.2.2.2.1 (F.2.2.2.2 _ (mT6 57 rfl rfl)) dX10_digest_186 ?_
        refine lv_lload_n hx hb dX10_digest_189 rfl (lv_at hl 1 rfl) ?_
        refine lv_lmul hx hb dX10_digest_190 ?_
        refine lv_iload hx hb dX10_digest_191 (lv_at hl 2 rfl) ?_
        refine lv_aload_n hx hb dX10_digest_193 rfl (lv_at hl 0 rfl) ?_
        refine gf_X10_109 F X qM0 dX10_digest_194 ?_
        refine lv_icmp_ge (tgt := 210) hx hb dX10_digest_197 (by decide) (fun c9 => ?_) (fun c9 => ?_)
        · have h := it_p h c9
          refine lv_iconst (v := (-1)) hx hb dX10_digest_210 (by decide) ?_
          exact J211 _ _ x4 (-1) ((31 : Int64) * x1) M ls X (lv_sub hl [0, 2] rfl)  _ h hk1
        · have h := it_n h c9
          refine lv_aload_n hx hb dX10_digest_200 rfl (lv_at hl 0 rfl) ?_
          refine gf_X10_67 F X qM0 dX10_digest_201 ?_
          refine lv_iload hx hb dX10_digest_204 (lv_at hl 2 rfl) ?_
          obtain ⟨hin, h⟩ := gd_x h
          refine r_iald F X (ar_X10_31 qM0) hin dX10_digest_206 ?_
          refine lv_goto (tgt := 211) hx hb dX10_digest_207 (by decide) ?_
          exact J211 _ _ x4 (M 0 31 (Int32.toNatClampNeg x4)) ((31 : Int64) * x1) M ls X (lv_sub hl [0, 2] rfl)  _ h hk1
  have J103 : ∀ (H : Heap) (locs : List Loc) (x1 : Int64) (M : Mem) (ls : Array Slot), Wd D ad cs GM A s H locs M → lv_has ls 5 [(0, .ref (ad (cO GM 0))), (1, .long x1)] → ∀ (_ : Unit), fX10_digest_103 x1 M = some z → W p l e (rmo 10 282) s m args below meth c H locs 0 0 Q (F0 m 103 ls []) := by
    intro H locs x1 M ls X hl  _u h
    unfold fX10_digest_103 at h
    refine lv_ldc2 (v := 31) hx hb F.2.2.2.1 (F.2.2.2.2 _ (mT6 57 rfl rfl)) dX10_digest_103 ?_
    refine lv_lload_n hx hb dX10_digest_106 rfl (lv_at hl 1 rfl) ?_
    refine lv_lmul hx hb dX10_digest_107 ?_
    refine lv_aload_n hx hb dX10_digest_108 rfl (lv_at hl 0 rfl) ?_
    obtain ⟨r10, hr10, h⟩ := bd_x h
    refine r_calli X (r_runV F X (kX10_outOf l D ad cs A  M  _ hr10) gm_X10_228 hd_X10_outOf ⟨Nat.le_of_ble_eq_true rfl, Nat.le_of_ble_eq_true rfl⟩ qM0 rfl rfl hl.1 rfl (Nat.le_of_ble_eq_true rfl) dX10_digest_109) (fun H locs X => ?_)
    refine lv_i2l (v := Int32.toInt64 r10.1) hx hb dX10_digest_112 rfl ?_
    refine lv_ladd hx hb dX10_digest_113 ?_
    obtain ⟨u11, eu11, h⟩ := nm_x h
    refine topL eu11 ?_
    refine lv_lstore_n (lv' := [(1, .long u11), (0, .ref (ad (cO GM 0)))]) hx hb dX10_digest_114 rfl hl (by decide) rfl (fun ls hl => ?_)
    refine lv_ldc2 (v := 31) hx hb F.2.2.2.1 (F.2.2.2.2 _ (mT6 57 rfl rfl)) dX10_digest_115 ?_
    refine lv_lload_n hx hb dX10_digest_118 rfl (lv_at hl 0 rfl) ?_
    refine lv_lmul hx hb dX10_digest_119 ?_
    refine lv_aload_n hx hb dX10_digest_120 rfl (lv_at hl 1 rfl) ?_
    obtain ⟨r12, hr12, h⟩ := bd_x h
    refine r_calli X (r_runV F X (kX10_estateOf l D ad cs A  r10.2  _ hr12) gm_X10_234 hd_X10_estateOf ⟨Nat.le_of_ble_eq_true rfl, Nat.le_of_ble_eq_true rfl⟩ qM0 rfl rfl hl.1 rfl (Nat.le_of_ble_eq_true rfl) dX10_digest_121) (fun H locs X => ?_)
    refine lv_i2l (v := Int32.toInt64 r12.1) hx hb dX10_digest_124 rfl ?_
    refine lv_ladd hx hb dX10_digest_125 ?_
    obtain ⟨u13, eu13, h⟩ := nm_x h
    refine topL eu13 ?_
    refine lv_lstore_n (lv' := [(1, .long u13), (0, .ref (ad (cO GM 0)))]) hx hb dX10_digest_126 rfl hl (by decide) rfl (fun ls hl => ?_)
    refine lv_ldc2 (v := 31) hx hb F.2.2.2.1 (F.2.2.2.2 _ (mT6 57 rfl rfl)) dX10_digest_127 ?_
    refine lv_lload_n hx hb dX10_digest_130 rfl (lv_at hl 0 rfl) ?_
    refine lv_lmul hx hb dX10_digest_131 ?_
    refine lv_aload_n hx hb dX10_digest_132 rfl (lv_at hl 1 rfl) ?_
    obtain ⟨r14, hr14, h⟩ := bd_x h
    refine r_calli X (r_runV F X (kX10_richestOf l D ad cs A  r12.2  _ hr14) gm_X10_240 hd_X10_richestOf ⟨Nat.le_of_ble_eq_true rfl, Nat.le_of_ble_eq_true rfl⟩ qM0 rfl rfl hl.1 rfl (Nat.le_of_ble_eq_true rfl) dX10_digest_133) (fun H locs X => ?_)
    refine lv_i2l (v := Int32.toInt64 r14.1) hx hb dX10_digest_136 rfl ?_
    refine lv_ladd hx hb dX10_digest_137 ?_
    obtain ⟨u15, eu15, h⟩ := nm_x h
    refine topL eu15 ?_
    refine lv_lstore_n (lv' := [(1, .long u15), (0, .ref (ad (cO GM 0)))]) hx hb dX10_digest_138 rfl hl (by decide) rfl (fun ls hl => ?_)
    refine lv_ldc2 (v := 31) hx hb F.2.2.2.1 (F.2.2.2.2 _ (mT6 57 rfl rfl)) dX10_digest_139 ?_
    refine lv_lload_n hx hb dX10_digest_142 rfl (lv_at hl 0 rfl) ?_
    refine lv_lmul hx hb dX10_digest_143 ?_
    refine lv_aload_n hx hb dX10_digest_144 rfl (lv_at hl 1 rfl) ?_
    obtain ⟨r16, hr16, h⟩ := bd_x h
    refine r_calli X (r_runV F X (kX10_longestOf l D ad cs A  r14.2  _ hr16) gm_X10_243 hd_X10_longestOf ⟨Nat.le_of_ble_eq_true rfl, Nat.le_of_ble_eq_true rfl⟩ qM0 rfl rfl hl.1 rfl (Nat.le_of_ble_eq_true rfl) dX10_digest_145) (fun H locs X => ?_)
    refine lv_i2l (v := Int32.toInt64 r16.1) hx hb dX10_digest_148 rfl ?_
    refine lv_ladd hx hb dX10_digest_149 ?_
    obtain ⟨u17, eu17, h⟩ := nm_x h
    refine topL eu17 ?_
    refine lv_lstore_n (lv' := [(1, .long u17), (0, .ref (ad (cO GM 0)))]) hx hb dX10_digest_150 rfl hl (by decide) rfl (fun ls hl => ?_)
    refine lv_ldc2 (v := 31) hx hb F.2.2.2.1 (F.2.2.2.2 _ (mT6 57 rfl rfl)) dX10_digest_151 ?_
    refine lv_lload_n hx hb dX10_digest_154 rfl (lv_at hl 0 rfl) ?_
    refine lv_lmul hx hb dX10_digest_155 ?_
    refine lv_aload_n hx hb dX10_digest_156 rfl (lv_at hl 1 rfl) ?_
    obtain ⟨r18, hr18, h⟩ := bd_x h
    refine r_calli X (r_runV F X (kX10_ditchOf l D ad cs A  r16.2  _ hr18) gm_X10_246 hd_X10_ditchOf ⟨Nat.le_of_ble_eq_true rfl, Nat.le_of_ble_eq_true rfl⟩ qM0 rfl rfl hl.1 rfl (Nat.le_of_ble_eq_true rfl) dX10_digest_157) (fun H locs X => ?_)
    refine lv_i2l (v := Int32.toInt64 r18.1) hx hb dX10_digest_160 rfl ?_
    refine lv_ladd hx hb dX10_digest_161 ?_
    obtain ⟨u19, eu19, h⟩ := nm_x h
    refine topL eu19 ?_
    refine lv_lstore_n (lv' := [(1, .long u19), (0, .ref (ad (cO GM 0)))]) hx hb dX10_digest_162 rfl hl (by decide) rfl (fun ls hl => ?_)
    refine lv_aload_n hx hb dX10_digest_163 rfl (lv_at hl 1 rfl) ?_
    obtain ⟨r20, hr20, h⟩ := bd_x h
    refine r_calli X (r_runV F X (kX10_fairBy l D ad cs A  r18.2  _ hr20) gm_X10_262 hd_X10_fairBy ⟨Nat.le_of_ble_eq_true rfl, Nat.le_of_ble_eq_true rfl⟩ qM0 rfl rfl hl.1 rfl (Nat.le_of_ble_eq_true rfl) dX10_digest_164) (fun H locs X => ?_)
    obtain ⟨u21, eu21, h⟩ := nm_x h
    refine topE eu21 ?_
    refine lv_istore_n (lv' := [(3, .int u21), (1, .long u19), (0, .ref (ad (cO GM 0)))]) hx hb dX10_digest_167 rfl hl (by decide) rfl (fun ls hl => ?_)
    refine lv_ldc2 (v := 31) hx hb F.2.2.2.1 (F.2.2.2.2 _ (mT6 57 rfl rfl)) dX10_digest_168 ?_
    refine lv_lload_n hx hb dX10_digest_171 rfl (lv_at hl 1 rfl) ?_
    refine lv_lmul hx hb dX10_digest_172 ?_
    refine lv_iload_n hx hb dX10_digest_173 rfl (lv_at hl 0 rfl) ?_
    refine lv_i2l (v := Int32.toInt64 u21) hx hb dX10_digest_174 rfl ?_
    refine lv_ladd hx hb dX10_digest_175 ?_
    obtain ⟨u22, eu22, h⟩ := nm_x h
    refine topL eu22 ?_
    refine lv_lstore_n (lv' := [(1, .long u22), (3, .int u21), (0, .ref (ad (cO GM 0)))]) hx hb dX10_digest_176 rfl hl (by decide) rfl (fun ls hl => ?_)
    refine lv_iconst (v := 0) hx hb dX10_digest_177 (by decide) ?_
    obtain ⟨u23, eu23, h⟩ := nm_x h
    refine topE eu23 ?_
    refine lv_istore (lv' := [(4, .int u23), (1, .long u22), (3, .int u21), (0, .ref (ad (cO GM 0)))]) hx hb dX10_digest_178 hl (by decide) rfl (fun ls hl => ?_)
    exact L180 FU _ _ u22 u23 r20.2 ls X (lv_sub hl [3, 1, 0] rfl)  () h
  have L82 : ∀ (n : Nat) (H : Heap) (locs : List Loc) (x1 : Int64) (x3 : Int32) (M : Mem) (ls : Array Slot), Wd D ad cs GM A s H locs M → lv_has ls 5 [(0, .ref (ad (cO GM 0))), (1, .long x1), (3, .int x3)] → ∀ (_ : Unit), lpO (fun st => fX10_digest_82 st.1 st.2.1 st.2.2) n (x1, x3, M) = some z → W p l e (rmo 10 282) s m args below meth c H locs 0 0 Q (F0 m 82 ls []) := by
    intro n
    induction n with
    | zero =>
      intro H locs x1 x3 M ls X hl  yy h
      exact lp_0 h
    | succ n1 ih82 =>
      intro H locs x1 x3 M ls X hl  _u h
      obtain ⟨y1, h, hk1⟩ := lp_x h
      unfold fX10_digest_82 at h
      refine lv_iload_n hx hb dX10_digest_82 rfl (lv_at hl 2 rfl) ?_
      refine lv_aload_n hx hb dX10_digest_83 rfl (lv_at hl 0 rfl) ?_
      refine gf_X10_117 F X qM0 dX10_digest_84 ?_
      refine lv_icmp_ge (tgt := 103) hx hb dX10_digest_87 (by decide) (fun c24 => ?_) (fun c24 => ?_)
      · have h := it_p h c24
        obtain ⟨_, h, ey⟩ := inr_x h
        rw [ey] at hk1
        have h := h.trans (congrArg some (sm_x hk1))
        exact J103 _ _ x1 M ls X (lv_sub hl [0, 1] rfl)  () h
      · have h := it_n h c24
        refine lv_aload_n hx hb dX10_digest_90 rfl (lv_at hl 0 rfl) ?_
        refine lv_lload_n hx hb dX10_digest_91 rfl (lv_at hl 1 rfl) ?_
        refine lv_iload_n hx hb dX10_digest_92 rfl (lv_at hl 2 rfl) ?_
        obtain ⟨r25, hr25, h⟩ := bd_x h
        refine r_calll X (r_runV F X (kX10_stopDigest l D ad cs A  M x1 x3 _ hr25) gm_X10_330 hd_X10_stopDigest ⟨Nat.le_of_ble_eq_true rfl, Nat.le_of_ble_eq_true rfl⟩ qM0 rfl rfl hl.1 rfl (Nat.le_of_ble_eq_true rfl) dX10_digest_93) (fun H locs X => ?_)
        obtain ⟨u26, eu26, h⟩ := nm_x h
        refine topL eu26 ?_
        refine lv_lstore_n (lv' := [(1, .long u26), (0, .ref (ad (cO GM 0))), (3, .int x3)]) hx hb dX10_digest_96 rfl hl (by decide) rfl (fun ls hl => ?_)
        obtain ⟨u27, eu27, h⟩ := nm_x h
        refine lv_iinc (v := u27) (lv' := [(3, .int u27), (1, .long u26), (0, .ref (ad (cO GM 0)))]) hx hb dX10_digest_97 hl (k := 2) rfl (by rw [eu27]; rfl) (by decide) rfl (fun ls hl => ?_)
        refine lv_goto (tgt := 82) hx hb dX10_digest_100 (by decide) ?_
        rw [← sm_x h] at hk1
        exact ih82 _ _ u26 u27 r25.2 ls X (lv_sub hl [2, 1, 0] rfl)  () hk1
  have J80 : ∀ (H : Heap) (locs : List Loc) (x1 : Int64) (M : Mem) (ls : Array Slot), Wd D ad cs GM A s H locs M → lv_has ls 5 [(0, .ref (ad (cO GM 0))), (1, .long x1)] → ∀ (_ : Unit), fX10_digest_80 x1 M = some z → W p l e (rmo 10 282) s m args below meth c H locs 0 0 Q (F0 m 80 ls []) := by
    intro H locs x1 M ls X hl  _u h
    unfold fX10_digest_80 at h
    refine lv_iconst (v := 0) hx hb dX10_digest_80 (by decide) ?_
    obtain ⟨u28, eu28, h⟩ := nm_x h
    refine topE eu28 ?_
    refine lv_istore_n (lv' := [(3, .int u28), (0, .ref (ad (cO GM 0))), (1, .long x1)]) hx hb dX10_digest_81 rfl hl (by decide) rfl (fun ls hl => ?_)
    exact L82 FU _ _ x1 u28 M ls X (lv_sub hl [1, 2, 0] rfl)  () h
  have L59 : ∀ (n : Nat) (H : Heap) (locs : List Loc) (x1 : Int64) (x3 : Int32) (M : Mem) (ls : Array Slot), Wd D ad cs GM A s H locs M → lv_has ls 5 [(0, .ref (ad (cO GM 0))), (1, .long x1), (3, .int x3)] → ∀ (_ : Unit), lpO (fun st => fX10_digest_59 st.1 st.2.1 st.2.2) n (x1, x3, M) = some z → W p l e (rmo 10 282) s m args below meth c H locs 0 0 Q (F0 m 59 ls []) := by
    intro n
    induction n with
    | zero =>
      intro H locs x1 x3 M ls X hl  yy h
      exact lp_0 h
    | succ n1 ih59 =>
      intro H locs x1 x3 M ls X hl  _u h
      obtain ⟨y1, h, hk1⟩ := lp_x h
      unfold fX10_digest_59 at h
      refine lv_iload_n hx hb dX10_digest_59 rfl (lv_at hl 2 rfl) ?_
      refine lv_aload_n hx hb dX10_digest_60 rfl (lv_at hl 0 rfl) ?_
      refine gf_X10_109 F X qM0 dX10_digest_61 ?_
      refine lv_icmp_ge (tgt := 80) hx hb dX10_digest_64 (by decide) (fun c29 => ?_) (fun c29 => ?_)
      · have h := it_p h c29
        obtain ⟨_, h, ey⟩ := inr_x h
        rw [ey] at hk1
        have h := h.trans (congrArg some (sm_x hk1))
        exact J80 _ _ x1 M ls X (lv_sub hl [0, 1] rfl)  () h
      · have h := it_n h c29
        refine lv_aload_n hx hb dX10_digest_67 rfl (lv_at hl 0 rfl) ?_
        refine lv_lload_n hx hb dX10_digest_68 rfl (lv_at hl 1 rfl) ?_
        refine lv_iload_n hx hb dX10_digest_69 rfl (lv_at hl 2 rfl) ?_
        obtain ⟨r30, hr30, h⟩ := bd_x h
        refine r_calll X (r_runV F X (kX10_heirDigest l D ad cs A  M x1 x3 _ hr30) gm_X10_326 hd_X10_heirDigest ⟨Nat.le_of_ble_eq_true rfl, Nat.le_of_ble_eq_true rfl⟩ qM0 rfl rfl hl.1 rfl (Nat.le_of_ble_eq_true rfl) dX10_digest_70) (fun H locs X => ?_)
        obtain ⟨u31, eu31, h⟩ := nm_x h
        refine topL eu31 ?_
        refine lv_lstore_n (lv' := [(1, .long u31), (0, .ref (ad (cO GM 0))), (3, .int x3)]) hx hb dX10_digest_73 rfl hl (by decide) rfl (fun ls hl => ?_)
        obtain ⟨u32, eu32, h⟩ := nm_x h
        refine lv_iinc (v := u32) (lv' := [(3, .int u32), (1, .long u31), (0, .ref (ad (cO GM 0)))]) hx hb dX10_digest_74 hl (k := 2) rfl (by rw [eu32]; rfl) (by decide) rfl (fun ls hl => ?_)
        refine lv_goto (tgt := 59) hx hb dX10_digest_77 (by decide) ?_
        rw [← sm_x h] at hk1
        exact ih59 _ _ u31 u32 r30.2 ls X (lv_sub hl [2, 1, 0] rfl)  () hk1
  have J31 : ∀ (H : Heap) (locs : List Loc) (x1 : Int64) (M : Mem) (ls : Array Slot), Wd D ad cs GM A s H locs M → lv_has ls 5 [(0, .ref (ad (cO GM 0))), (1, .long x1)] → ∀ (_ : Unit), fX10_digest_31 x1 M = some z → W p l e (rmo 10 282) s m args below meth c H locs 0 0 Q (F0 m 31 ls []) := by
    intro H locs x1 M ls X hl  _u h
    unfold fX10_digest_31 at h
    refine lv_ldc2 (v := 31) hx hb F.2.2.2.1 (F.2.2.2.2 _ (mT6 57 rfl rfl)) dX10_digest_31 ?_
    refine lv_lload_n hx hb dX10_digest_34 rfl (lv_at hl 1 rfl) ?_
    refine lv_lmul hx hb dX10_digest_35 ?_
    refine lv_aload_n hx hb dX10_digest_36 rfl (lv_at hl 0 rfl) ?_
    refine lv_iconst (v := 0) hx hb dX10_digest_37 (by decide) ?_
    obtain ⟨r33, hr33, h⟩ := bd_x h
    refine r_calli X (r_runV F X (kX10_faultOf l D ad cs A  M 0 _ hr33) gm_X10_127 hd_X10_faultOf ⟨Nat.le_of_ble_eq_true rfl, Nat.le_of_ble_eq_true rfl⟩ qM0 rfl rfl hl.1 rfl (Nat.le_of_ble_eq_true rfl) dX10_digest_38) (fun H locs X => ?_)
    refine lv_i2l (v := Int32.toInt64 r33.1) hx hb dX10_digest_41 rfl ?_
    refine lv_ladd hx hb dX10_digest_42 ?_
    obtain ⟨u34, eu34, h⟩ := nm_x h
    refine topL eu34 ?_
    refine lv_lstore_n (lv' := [(1, .long u34), (0, .ref (ad (cO GM 0)))]) hx hb dX10_digest_43 rfl hl (by decide) rfl (fun ls hl => ?_)
    refine lv_ldc2 (v := 31) hx hb F.2.2.2.1 (F.2.2.2.2 _ (mT6 57 rfl rfl)) dX10_digest_44 ?_
    refine lv_lload_n hx hb dX10_digest_47 rfl (lv_at hl 0 rfl) ?_
    refine lv_lmul hx hb dX10_digest_48 ?_
    refine lv_aload_n hx hb dX10_digest_49 rfl (lv_at hl 1 rfl) ?_
    refine lv_iconst (v := 1) hx hb dX10_digest_50 (by decide) ?_
    obtain ⟨r35, hr35, h⟩ := bd_x h
    refine r_calli X (r_runV F X (kX10_faultOf l D ad cs A  r33.2 1 _ hr35) gm_X10_127 hd_X10_faultOf ⟨Nat.le_of_ble_eq_true rfl, Nat.le_of_ble_eq_true rfl⟩ qM0 rfl rfl hl.1 rfl (Nat.le_of_ble_eq_true rfl) dX10_digest_51) (fun H locs X => ?_)
    refine lv_i2l (v := Int32.toInt64 r35.1) hx hb dX10_digest_54 rfl ?_
    refine lv_ladd hx hb dX10_digest_55 ?_
    obtain ⟨u36, eu36, h⟩ := nm_x h
    refine topL eu36 ?_
    refine lv_lstore_n (lv' := [(1, .long u36), (0, .ref (ad (cO GM 0)))]) hx hb dX10_digest_56 rfl hl (by decide) rfl (fun ls hl => ?_)
    refine lv_iconst (v := 0) hx hb dX10_digest_57 (by decide) ?_
    obtain ⟨u37, eu37, h⟩ := nm_x h
    refine topE eu37 ?_
    refine lv_istore_n (lv' := [(3, .int u37), (1, .long u36), (0, .ref (ad (cO GM 0)))]) hx hb dX10_digest_58 rfl hl (by decide) rfl (fun ls hl => ?_)
    exact L59 FU _ _ u36 u37 r35.2 ls X (lv_sub hl [2, 1, 0] rfl)  () h
  have L6 : ∀ (n : Nat) (H : Heap) (locs : List Loc) (x1 : Int64) (x3 : Int32) (M : Mem) (ls : Array Slot), Wd D ad cs GM A s H locs M → lv_has ls 5 [(0, .ref (ad (cO GM 0))), (1, .long x1), (3, .int x3)] → ∀ (_ : Unit), lpO (fun st => fX10_digest_6 st.1 st.2.1 st.2.2) n (x1, x3, M) = some z → W p l e (rmo 10 282) s m args below meth c H locs 0 0 Q (F0 m 6 ls []) := by
    intro n
    induction n with
    | zero =>
      intro H locs x1 x3 M ls X hl  yy h
      exact lp_0 h
    | succ n1 ih6 =>
      intro H locs x1 x3 M ls X hl  _u h
      obtain ⟨y1, h, hk1⟩ := lp_x h
      unfold fX10_digest_6 at h
      refine lv_iload_n hx hb dX10_digest_6 rfl (lv_at hl 2 rfl) ?_
      refine lv_bipush (v := 8) hx hb dX10_digest_7 (by decide) ?_
      refine lv_icmp_ge (tgt := 31) hx hb dX10_digest_9 (by decide) (fun c38 => ?_) (fun c38 => ?_)
      · have h := it_p h c38
        obtain ⟨_, h, ey⟩ := inr_x h
        rw [ey] at hk1
        have h := h.trans (congrArg some (sm_x hk1))
        exact J31 _ _ x1 M ls X (lv_sub hl [0, 1] rfl)  () h
      · have h := it_n h c38
        refine lv_ldc2 (v := 31) hx hb F.2.2.2.1 (F.2.2.2.2 _ (mT6 57 rfl rfl)) dX10_digest_12 ?_
        refine lv_lload_n hx hb dX10_digest_15 rfl (lv_at hl 1 rfl) ?_
        refine lv_lmul hx hb dX10_digest_16 ?_
        refine lv_aload_n hx hb dX10_digest_17 rfl (lv_at hl 0 rfl) ?_
        refine lv_iload_n hx hb dX10_digest_18 rfl (lv_at hl 2 rfl) ?_
        obtain ⟨r39, hr39, h⟩ := bd_x h
        refine r_calli X (r_runV F X (kX10_count l D ad cs A  M x3 _ hr39) gm_X10_323 hd_X10_count ⟨Nat.le_of_ble_eq_true rfl, Nat.le_of_ble_eq_true rfl⟩ qM0 rfl rfl hl.1 rfl (Nat.le_of_ble_eq_true rfl) dX10_digest_19) (fun H locs X => ?_)
        refine lv_i2l (v := Int32.toInt64 r39.1) hx hb dX10_digest_22 rfl ?_
        refine lv_ladd hx hb dX10_digest_23 ?_
        obtain ⟨u40, eu40, h⟩ := nm_x h
        refine topL eu40 ?_
        refine lv_lstore_n (lv' := [(1, .long u40), (0, .ref (ad (cO GM 0))), (3, .int x3)]) hx hb dX10_digest_24 rfl hl (by decide) rfl (fun ls hl => ?_)
        obtain ⟨u41, eu41, h⟩ := nm_x h
        refine lv_iinc (v := u41) (lv' := [(3, .int u41), (1, .long u40), (0, .ref (ad (cO GM 0)))]) hx hb dX10_digest_25 hl (k := 2) rfl (by rw [eu41]; rfl) (by decide) rfl (fun ls hl => ?_)
        refine lv_goto (tgt := 6) hx hb dX10_digest_28 (by decide) ?_
        rw [← sm_x h] at hk1
        exact ih6 _ _ u40 u41 r39.2 ls X (lv_sub hl [2, 1, 0] rfl)  () hk1
  have h := hz
  unfold fX10_digest at h
  refine lv_ldc2 (v := 17) hx hb F.2.2.2.1 (F.2.2.2.2 _ (mT6 56 rfl rfl)) dX10_digest_0 ?_
  obtain ⟨u42, eu42, h⟩ := nm_x h
  refine topL eu42 ?_
  refine lv_lstore_n (lv' := [(1, .long u42), (0, .ref (ad (cO GM 0)))]) hx hb dX10_digest_3 rfl hl (by decide) rfl (fun ls hl => ?_)
  refine lv_iconst (v := 0) hx hb dX10_digest_4 (by decide) ?_
  obtain ⟨u43, eu43, h⟩ := nm_x h
  refine topE eu43 ?_
  refine lv_istore_n (lv' := [(3, .int u43), (1, .long u42), (0, .ref (ad (cO GM 0)))]) hx hb dX10_digest_5 rfl hl (by decide) rfl (fun ls hl => ?_)
  exact L6 FU _ _ u42 u43 M ls X (lv_sub hl [2, 1, 0] rfl)  () h

