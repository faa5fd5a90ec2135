/-! ===== X1_append ===== -/
def fX1_append (M : Mem) (a1 : Int32) : Option Mem :=
  if 6 ≤ (M 9 1 0) then
    some M
  else
    gd (inB (M 9 1 0) 6) <|
    nm (wr M 9 0 (Int32.toNatClampNeg (M 9 1 0)) a1) fun M2 =>
    nm (wr M2 9 1 0 ((M2 9 1 0) + (1 : Int32))) fun M3 =>
    some M3
set_option maxHeartbeats 4000000 in
set_option maxRecDepth 100000 in
theorem kX1_append (l : Launch) (D : va_G) (ad : Nat → Nat) (cs : Nat → ClassId) (A : Nat → Prop)  (M : Mem) (a1 : Int32) (z : Mem) (hz : fX1_append M a1 = some z) : Met l yX1_append (wsU yX1_append cX1_append 2 none) (rmo 1 64) (va_Pc [.ref (ad (cO GC 9)), .int a1] (Wd0 D ad cs GC A M)) (va_Qv (fun u => u = z) (Wd0 D ad cs GC A) A) 0 0 A := by
  refine ct_v (by decide) rfl okGC (Nat.le_of_ble_eq_true rfl) ?_
  intro p e s m args below meth c Q ls F X hl RT
  have hx := F.1
  have hb := F.2.1
  have hl : lv_has ls 2 [(0, .ref (ad (cO GC 9))), (1, .int a1)] := hl
  obtain ⟨H, hH⟩ : ∃ H, H = s.heap := ⟨_, rfl⟩
  rw [← hH] at X ⊢
  obtain ⟨locs, hlocs⟩ : ∃ locs : List Loc, locs = [] := ⟨_, rfl⟩
  rw [← hlocs] at X ⊢
  clear hH hlocs
  have h := hz
  unfold fX1_append at h
  refine lv_aload_n hx hb dX1_append_0 rfl (lv_at hl 0 rfl) ?_
  refine gf_X1_15 F X qC9 dX1_append_1 ?_
  refine lv_bipush (v := 6) hx hb dX1_append_4 (by decide) ?_
  refine lv_icmp_ge (tgt := 29) hx hb dX1_append_6 (by decide) (fun c1 => ?_) (fun c1 => ?_)
  · have h := it_p h c1
    have h := sm_x h
    exact RT H locs _ 29 ls X h dX1_append_29
  · have h := it_n h c1
    refine lv_aload_n hx hb dX1_append_9 rfl (lv_at hl 0 rfl) ?_
    refine gf_X1_9 F X qC9 dX1_append_10 ?_
    refine lv_aload_n hx hb dX1_append_13 rfl (lv_at hl 0 rfl) ?_
    refine gf_X1_15 F X qC9 dX1_append_14 ?_
    refine lv_iload_n hx hb dX1_append_17 rfl (lv_at hl 1 rfl) ?_
    obtain ⟨hin, h⟩ := gd_x h
    obtain ⟨M2, eM2, h⟩ := nm_x h
    refine r_iast F X (ar_X1_0 qC9) hin dX1_append_18 (fun H locs X => ?_)
    have X := Wd_eq eM2 X
    refine lv_aload_n hx hb dX1_append_19 rfl (lv_at hl 0 rfl) ?_
    refine lv_dup hx hb dX1_append_20 rfl ?_
    refine gf_X1_15 F X qC9 dX1_append_21 ?_
    refine lv_iconst (v := 1) hx hb dX1_append_24 (by decide) ?_
    refine lv_iadd hx hb dX1_append_25 ?_
    obtain ⟨M3, eM3, h⟩ := nm_x h
    refine pf_X1_15 F X qC9 dX1_append_26 (fun H locs X => ?_)
    have X := Wd_eq eM3 X
    have h := sm_x h
    exact RT H locs _ 29 ls X h dX1_append_29

/-! ===== X1_stopsOf ===== -/
def fX1_stopsOf_31 (M : Mem) (a1 : Int32) (x2 : Int32) (x3 : Int32) : Option ((Int32 × Int32) ⊕ Int32) :=
  nm (x3 + 1 : Int32) fun u1 =>
  some (.inl (x2, u1))
def fX1_stopsOf_4 (M : Mem) (a1 : Int32) (x2 : Int32) (x3 : Int32) : Option ((Int32 × Int32) ⊕ Int32) :=
  if (M 9 1 0) ≤ x3 then
    some (.inr x2)
  else
    if ((a1 >>> (x3 &&& 31)) &&& (1 : Int32)) = 0 then
      fX1_stopsOf_31 M a1 x2 x3
    else
      gd (inB x3 6) <|
      nm (x2 ||| ((1 : Int32) <<< ((M 9 0 (Int32.toNatClampNeg x3)) &&& 31)) : Int32) fun u4 =>
      fX1_stopsOf_31 M a1 u4 x3
def fX1_stopsOf (M : Mem) (a1 : Int32) : Option Int32 :=
  nm (0 : Int32) fun u5 =>
  nm (0 : Int32) fun u6 =>
  lpO (fun st => fX1_stopsOf_4 M a1 st.1 st.2) FU (u5, u6)
set_option maxHeartbeats 4000000 in
set_option maxRecDepth 100000 in
theorem kX1_stopsOf (l : Launch) (D : va_G) (ad : Nat → Nat) (cs : Nat → ClassId) (A : Nat → Prop)  (M : Mem) (a1 : Int32) (z : Int32) (hz : fX1_stopsOf M a1 = some z) : Met l yX1_stopsOf (wsU yX1_stopsOf cX1_stopsOf 4 (some .int)) (rmo 1 64) (va_Pc [.ref (ad (cO GC 9)), .int a1] (Wd0 D ad cs GC A M)) (va_Qi (fun r u => (r, u) = (z, M)) (Wd0 D ad cs GC A) A) 0 0 A := by
  refine ct_i0 (by decide) rfl okGC (Nat.le_of_ble_eq_true rfl) ?_
  intro p e s m args below meth c Q ls F X hl RT
  have hx := F.1
  have hb := F.2.1
  have hl : lv_has ls 4 [(0, .ref (ad (cO GC 9))), (1, .int a1)] := hl
  obtain ⟨H, hH⟩ : ∃ H, H = s.heap := ⟨_, rfl⟩
  rw [← hH] at X ⊢
  obtain ⟨locs, hlocs⟩ : ∃ locs : List Loc, locs = [] := ⟨_, rfl⟩
  rw [← hlocs] at X ⊢
  clear hH hlocs
  have L4 : ∀ (n : Nat) (H : Heap) (locs : List Loc) (x2 : Int32) (x3 : Int32) (ls : Array Slot), Wd D ad cs GC A s H locs M → lv_has ls 4 [(0, .ref (ad (cO GC 9))), (1, .int a1), (2, .int x2), (3, .int x3)] → ∀ (_ : Unit), lpO (fun st => fX1_stopsOf_4 M a1 st.1 st.2) n (x2, x3) = some z → W p l e (rmo 1 64) s m args below meth c H locs 0 0 Q (F0 m 4 ls []) := by
    intro n
    induction n with
    | zero =>
      intro H locs x2 x3 ls X hl  yy h
      exact lp_0 h
    | succ n1 ih4 =>
      intro H locs x2 x3 ls X hl  _u h
      obtain ⟨y1, h, hk1⟩ := lp_x h
      have J31 : ∀ (H : Heap) (locs : List Loc) (x2 : Int32) (x3 : Int32) (ls : Array Slot), Wd D ad cs GC A s H locs M → lv_has ls 4 [(0, .ref (ad (cO GC 9))), (1, .int a1), (2, .int x2), (3, .int x3)] → ∀ (y1 : ((Int32 × Int32) ⊕ Int32)), fX1_stopsOf_31 M a1 x2 x3 = some y1 → lpK (fun st => fX1_stopsOf_4 M a1 st.1 st.2) n1 y1 = some z → W p l e (rmo 1 64) s m args below meth c H locs 0 0 Q (F0 m 31 ls []) := by
        intro H locs x2 x3 ls X hl  y1 h hk1
        unfold fX1_stopsOf_31 at h
        obtain ⟨u1, eu1, h⟩ := nm_x h
        refine lv_iinc (v := u1) (lv' := [(3, .int u1), (0, .ref (ad (cO GC 9))), (1, .int a1), (2, .int x2)]) hx hb dX1_stopsOf_31 hl (k := 3) rfl (by rw [eu1]; rfl) (by decide) rfl (fun ls hl => ?_)
        refine lv_goto (tgt := 4) hx hb dX1_stopsOf_34 (by decide) ?_
        rw [← sm_x h] at hk1
        exact ih4 _ _ x2 u1 ls X (lv_sub hl [1, 2, 3, 0] rfl)  () hk1
      unfold fX1_stopsOf_4 at h
      refine lv_iload_n hx hb dX1_stopsOf_4 rfl (lv_at hl 3 rfl) ?_
      refine lv_aload_n hx hb dX1_stopsOf_5 rfl (lv_at hl 0 rfl) ?_
      refine gf_X1_15 F X qC9 dX1_stopsOf_6 ?_
      refine lv_icmp_ge (tgt := 37) hx hb dX1_stopsOf_9 (by decide) (fun c2 => ?_) (fun c2 => ?_)
      · have h := it_p h c2
        refine lv_iload_n hx hb dX1_stopsOf_37 rfl (lv_at hl 2 rfl) ?_
        have h := sm_x h
        rw [← h] at hk1
        have h := sm_x hk1
        exact RT H locs _ 38 ls X h dX1_stopsOf_38
      · have h := it_n h c2
        refine lv_iload_n hx hb dX1_stopsOf_12 rfl (lv_at hl 1 rfl) ?_
        refine lv_iload_n hx hb dX1_stopsOf_13 rfl (lv_at hl 3 rfl) ?_
        refine lv_ishr hx hb dX1_stopsOf_14 ?_
        refine lv_iconst (v := 1) hx hb dX1_stopsOf_15 (by decide) ?_
        refine lv_iand hx hb dX1_stopsOf_16 ?_
        refine lv_if_eq (tgt := 31) hx hb dX1_stopsOf_17 (by decide) (fun c3 => ?_) (fun c3 => ?_)
        · have h := it_p h c3
          exact J31 _ _ x2 x3 ls X (lv_sub hl [0, 1, 2, 3] rfl)  _ h hk1
        · have h := it_n h c3
          refine lv_iload_n hx hb dX1_stopsOf_20 rfl (lv_at hl 2 rfl) ?_
          refine lv_iconst (v := 1) hx hb dX1_stopsOf_21 (by decide) ?_
          refine lv_aload_n hx hb dX1_stopsOf_22 rfl (lv_at hl 0 rfl) ?_
          refine gf_X1_9 F X qC9 dX1_stopsOf_23 ?_
          refine lv_iload_n hx hb dX1_stopsOf_26 rfl (lv_at hl 3 rfl) ?_
          obtain ⟨hin, h⟩ := gd_x h
          refine r_iald F X (ar_X1_0 qC9) hin dX1_stopsOf_27 ?_
          refine lv_ishl hx hb dX1_stopsOf_28 ?_
          refine lv_ior hx hb dX1_stopsOf_29 ?_
          obtain ⟨u4, eu4, h⟩ := nm_x h
          refine topE eu4 ?_
          refine lv_istore_n (lv' := [(2, .int u4), (0, .ref (ad (cO GC 9))), (1, .int a1), (3, .int x3)]) hx hb dX1_stopsOf_30 rfl hl (by decide) rfl (fun ls hl => ?_)
          exact J31 _ _ u4 x3 ls X (lv_sub hl [1, 2, 0, 3] rfl)  _ h hk1
  have h := hz
  unfold fX1_stopsOf at h
  refine lv_iconst (v := 0) hx hb dX1_stopsOf_0 (by decide) ?_
  obtain ⟨u5, eu5, h⟩ := nm_x h
  refine topE eu5 ?_
  refine lv_istore_n (lv' := [(2, .int u5), (0, .ref (ad (cO GC 9))), (1, .int a1)]) hx hb dX1_stopsOf_1 rfl hl (by decide) rfl (fun ls hl => ?_)
  refine lv_iconst (v := 0) hx hb dX1_stopsOf_2 (by decide) ?_
  obtain ⟨u6, eu6, h⟩ := nm_x h
  refine topE eu6 ?_
  refine lv_istore_n (lv' := [(3, .int u6), (2, .int u5), (0, .ref (ad (cO GC 9))), (1, .int a1)]) hx hb dX1_stopsOf_3 rfl hl (by decide) rfl (fun ls hl => ?_)
  exact L4 FU _ _ u5 u6 ls X (lv_sub hl [2, 3, 1, 0] rfl)  () h

/-! ===== X1_stopsWithout ===== -/
def fX1_stopsWithout (M : Mem) (a1 : Int32) : Option Int32 :=
  (fX1_stopsOf M ((63 : Int32) &&& (((1 : Int32) <<< (a1 &&& 31)) ^^^ (-1 : Int32)))).bind fun r1 =>
  some r1
set_option maxHeartbeats 4000000 in
set_option maxRecDepth 100000 in
theorem kX1_stopsWithout (l : Launch) (D : va_G) (ad : Nat → Nat) (cs : Nat → ClassId) (A : Nat → Prop)  (M : Mem) (a1 : Int32) (z : Int32) (hz : fX1_stopsWithout M a1 = some z) : Met l yX1_stopsWithout (wsU yX1_stopsWithout cX1_stopsWithout 2 (some .int)) (rmo 2 87) (va_Pc [.ref (ad (cO GC 9)), .int a1] (Wd0 D ad cs GC A M)) (va_Qi (fun r u => (r, u) = (z, M)) (Wd0 D ad cs GC A) A) 0 0 A := by
  refine ct_i0 (by decide) rfl okGC (Nat.le_of_ble_eq_true rfl) ?_
  intro p e s m args below meth c Q ls F X hl RT
  have hx := F.1
  have hb := F.2.1
  have hl : lv_has ls 2 [(0, .ref (ad (cO GC 9))), (1, .int a1)] := hl
  obtain ⟨H, hH⟩ : ∃ H, H = s.heap := ⟨_, rfl⟩
  rw [← hH] at X ⊢
  obtain ⟨locs, hlocs⟩ : ∃ locs : List Loc, locs = [] := ⟨_, rfl⟩
  rw [← hlocs] at X ⊢
  clear hH hlocs
  have h := hz
  unfold fX1_stopsWithout at h
  refine lv_aload_n hx hb dX1_stopsWithout_0 rfl (lv_at hl 0 rfl) ?_
  refine lv_bipush (v := 63) hx hb dX1_stopsWithout_1 (by decide) ?_
  refine lv_iconst (v := 1) hx hb dX1_stopsWithout_3 (by decide) ?_
  refine lv_iload_n hx hb dX1_stopsWithout_4 rfl (lv_at hl 1 rfl) ?_
  refine lv_ishl hx hb dX1_stopsWithout_5 ?_
  refine lv_iconst (v := (-1)) hx hb dX1_stopsWithout_6 (by decide) ?_
  refine lv_ixor hx hb dX1_stopsWithout_7 ?_
  refine lv_iand hx hb dX1_stopsWithout_8 ?_
  obtain ⟨r1, hr1, h⟩ := bd_x h
  refine r_calli0 X (r_runV F X (kX1_stopsOf l D ad cs A  M ((63 : Int32) &&& (((1 : Int32) <<< (a1 &&& 31)) ^^^ (-1 : Int32))) _ hr1) gm_X1_19 hd_X1_stopsOf ⟨Nat.le_of_ble_eq_true rfl, Nat.le_of_ble_eq_true rfl⟩ qC9 rfl rfl hl.1 rfl (Nat.le_of_ble_eq_true rfl) dX1_stopsWithout_9) (fun H locs X => ?_)
  have h := sm_x h
  exact RT H locs _ 12 ls X h dX1_stopsWithout_12

/-! ===== X3_fitsHeirs ===== -/
def fX3_fitsHeirs (a0 : Int32) (a1 : Int32) : Option Int32 :=
  if (a0 - a0 / 4 * 4) = 0 then
    if 8 ≤ (a0 / 4) then
      some 0
    else
      if a1 = 107 then
        some 1
      else
        if a1 = 109 then
          some 1
        else
          if a1 = 115 then
            some 1
          else
            some 0
  else if (a0 - a0 / 4 * 4) = 3 then
    if a1 = 59 then
      some 1
    else
      some 0
  else
    if a1 < 48 then
      some 0
    else
      if 57 < a1 then
        some 0
      else
        some 1
set_option maxHeartbeats 4000000 in
set_option maxRecDepth 100000 in
theorem kX3_fitsHeirs (l : Launch) (D : va_G) (ad : Nat → Nat) (cs : Nat → ClassId) (A : Nat → Prop)  (M : Mem) (a0 : Int32) (a1 : Int32) (z : Int32) (hz : fX3_fitsHeirs a0 a1 = some z) : Met l yX3_fitsHeirs (wsU yX3_fitsHeirs cX3_fitsHeirs 2 (some .boolean)) (rmo 1 64) (va_Pc [.int a0, .int a1] (Wd0 D ad cs GC A M)) (va_Qi (fun r u => (r, u) = (z, M)) (Wd0 D ad cs GC A) A) 0 0 A := by
  refine ct_z0 (by decide) rfl okGC (Nat.le_of_ble_eq_true rfl) ?_
  intro p e s m args below meth c Q ls F X hl RT
  have hx := F.1
  have hb := F.2.1
  have hl : lv_has ls 2 [(0, .int a0), (1, .int a1)] := hl
  obtain ⟨H, hH⟩ : ∃ H, H = s.heap := ⟨_, rfl⟩
  rw [← hH] at X ⊢
  obtain ⟨locs, hlocs⟩ : ∃ locs : List Loc, locs = [] := ⟨_, rfl⟩
  rw [← hlocs] at X ⊢
  clear hH hlocs
  have h := hz
  unfold fX3_fitsHeirs at h
  refine lv_iload_n hx hb dX3_fitsHeirs_0 rfl (lv_at hl 0 rfl) ?_
  refine lv_iconst (v := 4) hx hb dX3_fitsHeirs_1 (by decide) ?_
  refine lv_irem hx hb dX3_fitsHeirs_2 (by decide) ?_
  refine r_lk2 0 3 (t1 := 28) (t2 := 60) (t3 := 72) hx hb dX3_fitsHeirs_3 (by decide) (by decide) (by decide) (by decide) (by decide) (by decide) (fun c1 => ?_) (fun c1 c2 => ?_) (fun c1 c2 => ?_)
  · have h := it_p h c1
    refine lv_iload_n hx hb dX3_fitsHeirs_28 rfl (lv_at hl 0 rfl) ?_
    refine lv_iconst (v := 4) hx hb dX3_fitsHeirs_29 (by decide) ?_
    refine lv_idiv hx hb dX3_fitsHeirs_30 (by decide) ?_
    refine lv_bipush (v := 8) hx hb dX3_fitsHeirs_31 (by decide) ?_
    refine lv_icmp_ge (tgt := 58) hx hb dX3_fitsHeirs_33 (by decide) (fun c3 => ?_) (fun c3 => ?_)
    · have h := it_p h c3
      refine lv_iconst (v := 0) hx hb dX3_fitsHeirs_58 (by decide) ?_
      have h := sm_x h
      exact RT H locs _ 59 ls X h (by decide) dX3_fitsHeirs_59
    · have h := it_n h c3
      refine lv_iload_n hx hb dX3_fitsHeirs_36 rfl (lv_at hl 1 rfl) ?_
      refine lv_bipush (v := 107) hx hb dX3_fitsHeirs_37 (by decide) ?_
      refine lv_icmp_eq (tgt := 54) hx hb dX3_fitsHeirs_39 (by decide) (fun c4 => ?_) (fun c4 => ?_)
      · have h := it_p h c4
        refine lv_iconst (v := 1) hx hb dX3_fitsHeirs_54 (by decide) ?_
        refine lv_goto (tgt := 59) hx hb dX3_fitsHeirs_55 (by decide) ?_
        have h := sm_x h
        exact RT H locs _ 59 ls X h (by decide) dX3_fitsHeirs_59
      · have h := it_n h c4
        refine lv_iload_n hx hb dX3_fitsHeirs_42 rfl (lv_at hl 1 rfl) ?_
        refine lv_bipush (v := 109) hx hb dX3_fitsHeirs_43 (by decide) ?_
        refine lv_icmp_eq (tgt := 54) hx hb dX3_fitsHeirs_45 (by decide) (fun c5 => ?_) (fun c5 => ?_)
        · have h := it_p h c5
          refine lv_iconst (v := 1) hx hb dX3_fitsHeirs_54 (by decide) ?_
          refine lv_goto (tgt := 59) hx hb dX3_fitsHeirs_55 (by decide) ?_
          have h := sm_x h
          exact RT H locs _ 59 ls X h (by decide) dX3_fitsHeirs_59
        · have h := it_n h c5
          refine lv_iload_n hx hb dX3_fitsHeirs_48 rfl (lv_at hl 1 rfl) ?_
          refine lv_bipush (v := 115) hx hb dX3_fitsHeirs_49 (by decide) ?_
          refine lv_icmp_ne (tgt := 58) hx hb dX3_fitsHeirs_51 (by decide) (fun c6 => ?_) (fun c6 => ?_)
          · have h := it_n h c6
            refine lv_iconst (v := 0) hx hb dX3_fitsHeirs_58 (by decide) ?_
            have h := sm_x h
            exact RT H locs _ 59 ls X h (by decide) dX3_fitsHeirs_59
          · have h := it_p h c6
            refine lv_iconst (v := 1) hx hb dX3_fitsHeirs_54 (by decide) ?_
            refine lv_goto (tgt := 59) hx hb dX3_fitsHeirs_55 (by decide) ?_
            have h := sm_x h
            exact RT H locs _ 59 ls X h (by decide) dX3_fitsHeirs_59
  · have h := it_p (it_n h c1) c2
    refine lv_iload_n hx hb dX3_fitsHeirs_60 rfl (lv_at hl 1 rfl) ?_
    refine lv_bipush (v := 59) hx hb dX3_fitsHeirs_61 (by decide) ?_
    refine lv_icmp_ne (tgt := 70) hx hb dX3_fitsHeirs_63 (by decide) (fun c7 => ?_) (fun c7 => ?_)
    · have h := it_n h c7
      refine lv_iconst (v := 0) hx hb dX3_fitsHeirs_70 (by decide) ?_
      have h := sm_x h
      exact RT H locs _ 71 ls X h (by decide) dX3_fitsHeirs_71
    · have h := it_p h c7
      refine lv_iconst (v := 1) hx hb dX3_fitsHeirs_66 (by decide) ?_
      refine lv_goto (tgt := 71) hx hb dX3_fitsHeirs_67 (by decide) ?_
      have h := sm_x h
      exact RT H locs _ 71 ls X h (by decide) dX3_fitsHeirs_71
  · have h := it_n (it_n h c1) c2
    refine lv_iload_n hx hb dX3_fitsHeirs_72 rfl (lv_at hl 1 rfl) ?_
    refine lv_bipush (v := 48) hx hb dX3_fitsHeirs_73 (by decide) ?_
    refine lv_icmp_lt (tgt := 88) hx hb dX3_fitsHeirs_75 (by decide) (fun c8 => ?_) (fun c8 => ?_)
    · have h := it_p h c8
      refine lv_iconst (v := 0) hx hb dX3_fitsHeirs_88 (by decide) ?_
      have h := sm_x h
      exact RT H locs _ 89 ls X h (by decide) dX3_fitsHeirs_89
    · have h := it_n h c8
      refine lv_iload_n hx hb dX3_fitsHeirs_78 rfl (lv_at hl 1 rfl) ?_
      refine lv_bipush (v := 57) hx hb dX3_fitsHeirs_79 (by decide) ?_
      refine lv_icmp_gt (tgt := 88) hx hb dX3_fitsHeirs_81 (by decide) (fun c9 => ?_) (fun c9 => ?_)
      · have h := it_p h c9
        refine lv_iconst (v := 0) hx hb dX3_fitsHeirs_88 (by decide) ?_
        have h := sm_x h
        exact RT H locs _ 89 ls X h (by decide) dX3_fitsHeirs_89
      · have h := it_n h c9
        refine lv_iconst (v := 1) hx hb dX3_fitsHeirs_84 (by decide) ?_
        refine lv_goto (tgt := 89) hx hb dX3_fitsHeirs_85 (by decide) ?_
        have h := sm_x h
        exact RT H locs _ 89 ls X h (by decide) dX3_fitsHeirs_89

/-! ===== X3_faultAsHeirs ===== -/
def fX3_faultAsHeirs_31 (o : Nat) (M : Mem) (u0 : Unit) : Option Int32 :=
  if (M o 1 0) = 0 then
    some (-1)
  else
    if ((M o 1 0) - (M o 1 0) / 4 * 4) = 3 then
      some (-1)
    else
      some (M o 1 0)
def fX3_faultAsHeirs_2 (o : Nat) (M : Mem) (x1 : Int32) : Option (Int32 ⊕ Int32) :=
  if (M o 1 0) ≤ x1 then
    inr' (fX3_faultAsHeirs_31 o M ())
  else
    gd (inB x1 (if o = 1 then 31 else 20)) <|
    (fX3_fitsHeirs x1 (M o 0 (Int32.toNatClampNeg x1))).bind fun r4 =>
    (if r4 = 0 then
      some (.inr x1)
    else
      nm (x1 + 1 : Int32) fun u6 =>
      some (.inl u6))
def fX3_faultAsHeirs (o : Nat) (M : Mem) : Option Int32 :=
  nm (0 : Int32) fun u7 =>
  lpO (fun st => fX3_faultAsHeirs_2 o M st) FU u7
set_option maxHeartbeats 4000000 in
set_option maxRecDepth 100000 in
theorem kX3_faultAsHeirs (l : Launch) (D : va_G) (ad : Nat → Nat) (cs : Nat → ClassId) (A : Nat → Prop) {o : Nat} (ho : GC[cO GC o]? = some (o, 0, 3, 0)) (M : Mem)  (z : Int32) (hz : fX3_faultAsHeirs o M = some z) : Met l yX3_faultAsHeirs (wsU yX3_faultAsHeirs cX3_faultAsHeirs 2 (some .int)) (rmo 2 85) (va_Pc [.ref (ad (cO GC o))] (Wd0 D ad cs GC A M)) (va_Qi (fun r u => (r, u) = (z, M)) (Wd0 D ad cs GC A) A) 0 0 A := by
  refine ct_i0 (by decide) rfl okGC (Nat.le_of_ble_eq_true rfl) ?_
  intro p e s m args below meth c Q ls F X hl RT
  have hx := F.1
  have hb := F.2.1
  have hl : lv_has ls 2 [(0, .ref (ad (cO GC o)))] := hl
  obtain ⟨H, hH⟩ : ∃ H, H = s.heap := ⟨_, rfl⟩
  rw [← hH] at X ⊢
  obtain ⟨locs, hlocs⟩ : ∃ locs : List Loc, locs = [] := ⟨_, rfl⟩
  rw [← hlocs] at X ⊢
  clear hH hlocs
  have J31 : ∀ (H : Heap) (locs : List Loc) (u0 : Unit) (ls : Array Slot), Wd D ad cs GC A s H locs M → lv_has ls 2 [(0, .ref (ad (cO GC o)))] → ∀ (_ : Unit), fX3_faultAsHeirs_31 o M u0 = some z → W p l e (rmo 2 85) s m args below meth c H locs 0 0 Q (F0 m 31 ls []) := by
    intro H locs u0 ls X hl  _u h
    unfold fX3_faultAsHeirs_31 at h
    refine lv_aload_n hx hb dX3_faultAsHeirs_31 rfl (lv_at hl 0 rfl) ?_
    refine gf_X3_9 F X ho dX3_faultAsHeirs_32 ?_
    refine lv_if_eq (tgt := 48) hx hb dX3_faultAsHeirs_35 (by decide) (fun c1 => ?_) (fun c1 => ?_)
    · have h := it_p h c1
      refine lv_iconst (v := (-1)) hx hb dX3_faultAsHeirs_48 (by decide) ?_
      refine lv_goto (tgt := 56) hx hb dX3_faultAsHeirs_49 (by decide) ?_
      have h := sm_x h
      exact RT H locs _ 56 ls X h dX3_faultAsHeirs_56
    · have h := it_n h c1
      refine lv_aload_n hx hb dX3_faultAsHeirs_38 rfl (lv_at hl 0 rfl) ?_
      refine gf_X3_9 F X ho dX3_faultAsHeirs_39 ?_
      refine lv_iconst (v := 4) hx hb dX3_faultAsHeirs_42 (by decide) ?_
      refine lv_irem hx hb dX3_faultAsHeirs_43 (by decide) ?_
      refine lv_iconst (v := 3) hx hb dX3_faultAsHeirs_44 (by decide) ?_
      refine lv_icmp_ne (tgt := 52) hx hb dX3_faultAsHeirs_45 (by decide) (fun c2 => ?_) (fun c2 => ?_)
      · have h := it_n h c2
        refine lv_aload_n hx hb dX3_faultAsHeirs_52 rfl (lv_at hl 0 rfl) ?_
        refine gf_X3_9 F X ho dX3_faultAsHeirs_53 ?_
        have h := sm_x h
        exact RT H locs _ 56 ls X h dX3_faultAsHeirs_56
      · have h := it_p h c2
        refine lv_iconst (v := (-1)) hx hb dX3_faultAsHeirs_48 (by decide) ?_
        refine lv_goto (tgt := 56) hx hb dX3_faultAsHeirs_49 (by decide) ?_
        have h := sm_x h
        exact RT H locs _ 56 ls X h dX3_faultAsHeirs_56
  have L2 : ∀ (n : Nat) (H : Heap) (locs : List Loc) (x1 : Int32) (ls : Array Slot), Wd D ad cs GC A s H locs M → lv_has ls 2 [(0, .ref (ad (cO GC o))), (1, .int x1)] → ∀ (_ : Unit), lpO (fun st => fX3_faultAsHeirs_2 o M st) n x1 = some z → W p l e (rmo 2 85) s m args below meth c H locs 0 0 Q (F0 m 2 ls []) := by
    intro n
    induction n with
    | zero =>
      intro H locs x1 ls X hl  yy h
      exact lp_0 h
    | succ n1 ih2 =>
      intro H locs x1 ls X hl  _u h
      obtain ⟨y1, h, hk1⟩ := lp_x h
      unfold fX3_faultAsHeirs_2 at h
      refine lv_iload_n hx hb dX3_faultAsHeirs_2 rfl (lv_at hl 1 rfl) ?_
      refine lv_aload_n hx hb dX3_faultAsHeirs_3 rfl (lv_at hl 0 rfl) ?_
      refine gf_X3_9 F X ho dX3_faultAsHeirs_4 ?_
      refine lv_icmp_ge (tgt := 31) hx hb dX3_faultAsHeirs_7 (by decide) (fun c3 => ?_) (fun c3 => ?_)
      · have h := it_p h c3
        obtain ⟨_, h, ey⟩ := inr_x h
        rw [ey] at hk1
        have h := h.trans (congrArg some (sm_x hk1))
        exact J31 _ _ () ls X (lv_sub hl [0] rfl)  () h
      · have h := it_n h c3
        refine lv_iload_n hx hb dX3_faultAsHeirs_10 rfl (lv_at hl 1 rfl) ?_
        refine lv_aload_n hx hb dX3_faultAsHeirs_11 rfl (lv_at hl 0 rfl) ?_
        refine gf_X3_15 F X ho dX3_faultAsHeirs_12 ?_
        refine lv_iload_n hx hb dX3_faultAsHeirs_15 rfl (lv_at hl 1 rfl) ?_
        obtain ⟨hin, h⟩ := gd_x h
        refine r_iald F X (ar_X3_0 ho) hin dX3_faultAsHeirs_16 ?_
        obtain ⟨r4, hr4, h⟩ := bd_x h
        refine r_calli0 X (r_runS F X (kX3_fitsHeirs l D ad cs A  M x1 (M o 0 (Int32.toNatClampNeg x1)) _ hr4) gm_X3_23 hd_X3_fitsHeirs ⟨Nat.le_of_ble_eq_true rfl, Nat.le_of_ble_eq_true rfl⟩ rfl hl.1 rfl (Nat.le_of_ble_eq_true rfl) dX3_faultAsHeirs_17) (fun H locs X => ?_)
        refine lv_if_ne (tgt := 25) hx hb dX3_faultAsHeirs_20 (by decide) (fun c5 => ?_) (fun c5 => ?_)
        · have h := it_n h c5
          obtain ⟨u6, eu6, h⟩ := nm_x h
          refine lv_iinc (v := u6) (lv' := [(1, .int u6), (0, .ref (ad (cO GC o)))]) hx hb dX3_faultAsHeirs_25 hl (k := 1) rfl (by rw [eu6]; rfl) (by decide) rfl (fun ls hl => ?_)
          refine lv_goto (tgt := 2) hx hb dX3_faultAsHeirs_28 (by decide) ?_
          rw [← sm_x h] at hk1
          exact ih2 _ _ u6 ls X (lv_sub hl [1, 0] rfl)  () hk1
        · have h := it_p h c5
          refine lv_iload_n hx hb dX3_faultAsHeirs_23 rfl (lv_at hl 1 rfl) ?_
          have h := sm_x h
          rw [← h] at hk1
          have h := sm_x hk1
          exact RT H locs _ 24 ls X h dX3_faultAsHeirs_24
  have h := hz
  unfold fX3_faultAsHeirs at h
  refine lv_iconst (v := 0) hx hb dX3_faultAsHeirs_0 (by decide) ?_
  obtain ⟨u7, eu7, h⟩ := nm_x h
  refine topE eu7 ?_
  refine lv_istore_n (lv' := [(1, .int u7), (0, .ref (ad (cO GC o)))]) hx hb dX3_faultAsHeirs_1 rfl hl (by decide) rfl (fun ls hl => ?_)
  exact L2 FU _ _ u7 ls X (lv_sub hl [1, 0] rfl)  () h

/-! ===== X2_sortOf ===== -/
def fX2_sortOf (a0 : Int32) : Option Int32 :=
  if a0 = 109 then
    some 1
  else
    if a0 = 115 then
      some 2
    else
      some 0
set_option maxHeartbeats 4000000 in
set_option maxRecDepth 100000 in
theorem kX2_sortOf (l : Launch) (D : va_G) (ad : Nat → Nat) (cs : Nat → ClassId) (A : Nat → Prop)  (M : Mem) (a0 : Int32) (z : Int32) (hz : fX2_sortOf a0 = some z) : Met l yX2_sortOf (wsU yX2_sortOf cX2_sortOf 1 (some .int)) (rmo 1 64) (va_Pc [.int a0] (Wd0 D ad cs GC A M)) (va_Qi (fun r u => (r, u) = (z, M)) (Wd0 D ad cs GC A) A) 0 0 A := by
  refine ct_i0 (by decide) rfl okGC (Nat.le_of_ble_eq_true rfl) ?_
  intro p e s m args below meth c Q ls F X hl RT
  have hx := F.1
  have hb := F.2.1
  have hl : lv_has ls 1 [(0, .int a0)] := hl
  obtain ⟨H, hH⟩ : ∃ H, H = s.heap := ⟨_, rfl⟩
  rw [← hH] at X ⊢
  obtain ⟨locs, hlocs⟩ : ∃ locs : List Loc, locs = [] := ⟨_, rfl⟩
  rw [← hlocs] at X ⊢
  clear hH hlocs
  have h := hz
  unfold fX2_sortOf at h
  refine lv_iload_n hx hb dX2_sortOf_0 rfl (lv_at hl 0 rfl) ?_
  refine lv_bipush (v := 109) hx hb dX2_sortOf_1 (by decide) ?_
  refine lv_icmp_ne (tgt := 8) hx hb dX2_sortOf_3 (by decide) (fun c1 => ?_) (fun c1 => ?_)
  · have h := it_n h c1
    refine lv_iload_n hx hb dX2_sortOf_8 rfl (lv_at hl 0 rfl) ?_
    refine lv_bipush (v := 115) hx hb dX2_sortOf_9 (by decide) ?_
    refine lv_icmp_ne (tgt := 18) hx hb dX2_sortOf_11 (by decide) (fun c2 => ?_) (fun c2 => ?_)
    · have h := it_n h c2
      refine lv_iconst (v := 0) hx hb dX2_sortOf_18 (by decide) ?_
      have h := sm_x h
      exact RT H locs _ 19 ls X h dX2_sortOf_19
    · have h := it_p h c2
      refine lv_iconst (v := 2) hx hb dX2_sortOf_14 (by decide) ?_
      refine lv_goto (tgt := 19) hx hb dX2_sortOf_15 (by decide) ?_
      have h := sm_x h
      exact RT H locs _ 19 ls X h dX2_sortOf_19
  · have h := it_p h c1
    refine lv_iconst (v := 1) hx hb dX2_sortOf_6 (by decide) ?_
    have h := sm_x h
    exact RT H locs _ 7 ls X h dX2_sortOf_7

/-! ===== X2_takeHeirs ===== -/
def fX2_takeHeirs_26 (o : Nat) (o1 : Nat) (x2 : Int32) (M : Mem) : Option ((Int32 × Mem) ⊕ Mem) :=
  if (M o 5 0) ≤ x2 then
    some (.inr M)
  else
    nm (x2 * (4 : Int32) : Int32) fun u2 =>
    gd (inB u2 (if o1 = 1 then 31 else 20)) <|
    (fX2_sortOf (M o1 0 (Int32.toNatClampNeg u2))).bind fun r3 =>
    gd (inB x2 8) <|
    nm (wr M o 0 (Int32.toNatClampNeg x2) r3) fun M4 =>
    gd (inB (u2 + (1 : Int32)) (if o1 = 1 then 31 else 20)) <|
    gd (inB x2 8) <|
    nm (wr M4 o 1 (Int32.toNatClampNeg x2) ((M4 o1 0 (Int32.toNatClampNeg (u2 + (1 : Int32)))) - (48 : Int32))) fun M5 =>
    gd (inB (u2 + (2 : Int32)) (if o1 = 1 then 31 else 20)) <|
    gd (inB x2 8) <|
    nm (wr M5 o 2 (Int32.toNatClampNeg x2) ((M5 o1 0 (Int32.toNatClampNeg (u2 + (2 : Int32)))) - (48 : Int32))) fun M6 =>
    nm (x2 + 1 : Int32) fun u7 =>
    some (.inl (u7, M6))
def fX2_takeHeirs_21 (o : Nat) (o1 : Nat) (v0 : Int32) (M : Mem) : Option Mem :=
  nm (wr M o 5 0 v0) fun M8 =>
  nm (0 : Int32) fun u9 =>
  lpO (fun st => fX2_takeHeirs_26 o o1 st.1 st.2) FU (u9, M8)
def fX2_takeHeirs (o : Nat) (o1 : Nat) (M : Mem) : Option Mem :=
  (fX3_faultAsHeirs o1 M).bind fun r10 =>
  (if r10 = (-1) then
    fX2_takeHeirs_21 o o1 (((M o1 1 0) + (1 : Int32)) / 4) M
  else
    fX2_takeHeirs_21 o o1 0 M)
set_option maxHeartbeats 4000000 in
set_option maxRecDepth 100000 in
theorem kX2_takeHeirs (l : Launch) (D : va_G) (ad : Nat → Nat) (cs : Nat → ClassId) (A : Nat → Prop) {o : Nat} (ho : GC[cO GC o]? = some (o, 0, 2, 0)) {o1 : Nat} (ho1 : GC[cO GC o1]? = some (o1, 0, 3, 0)) (M : Mem)  (z : Mem) (hz : fX2_takeHeirs o o1 M = some z) : Met l yX2_takeHeirs (wsU yX2_takeHeirs cX2_takeHeirs 4 none) (rmo 3 106) (va_Pc [.ref (ad (cO GC o)), .ref (ad (cO GC o1))] (Wd0 D ad cs GC A M)) (va_Qv (fun u => u = z) (Wd0 D ad cs GC A) A) 0 0 A := by
  refine ct_v (by decide) rfl okGC (Nat.le_of_ble_eq_true rfl) ?_
  intro p e s m args below meth c Q ls F X hl RT
  have hx := F.1
  have hb := F.2.1
  have hl : lv_has ls 4 [(0, .ref (ad (cO GC o))), (1, .ref (ad (cO GC o1)))] := hl
  obtain ⟨H, hH⟩ : ∃ H, H = s.heap := ⟨_, rfl⟩
  rw [← hH] at X ⊢
  obtain ⟨locs, hlocs⟩ : ∃ locs : List Loc, locs = [] := ⟨_, rfl⟩
  rw [← hlocs] at X ⊢
  clear hH hlocs
  have L26 : ∀ (n : Nat) (H : Heap) (locs : List Loc) (x2 : Int32) (M : Mem) (ls : Array Slot), Wd D ad cs GC A s H locs M → lv_has ls 4 [(0, .ref (ad (cO GC o))), (1, .ref (ad (cO GC o1))), (2, .int x2)] → ∀ (_ : Unit), lpO (fun st => fX2_takeHeirs_26 o o1 st.1 st.2) n (x2, M) = some z → W p l e (rmo 3 106) s m args below meth c H locs 0 0 Q (F0 m 26 ls []) := by
    intro n
    induction n with
    | zero =>
      intro H locs x2 M ls X hl  yy h
      exact lp_0 h
    | succ n1 ih26 =>
      intro H locs x2 M ls X hl  _u h
      obtain ⟨y1, h, hk1⟩ := lp_x h
      unfold fX2_takeHeirs_26 at h
      refine lv_iload_n hx hb dX2_takeHeirs_26 rfl (lv_at hl 2 rfl) ?_
      refine lv_aload_n hx hb dX2_takeHeirs_27 rfl (lv_at hl 0 rfl) ?_
      refine gf_X2_27 F X ho dX2_takeHeirs_28 ?_
      refine lv_icmp_ge (tgt := 93) hx hb dX2_takeHeirs_31 (by decide) (fun c1 => ?_) (fun c1 => ?_)
      · have h := it_p h c1
        have h := sm_x h
        rw [← h] at hk1
        have h := sm_x hk1
        exact RT H locs _ 93 ls X h dX2_takeHeirs_93
      · have h := it_n h c1
        refine lv_iload_n hx hb dX2_takeHeirs_34 rfl (lv_at hl 2 rfl) ?_
        refine lv_iconst (v := 4) hx hb dX2_takeHeirs_35 (by decide) ?_
        refine lv_imul hx hb dX2_takeHeirs_36 ?_
        obtain ⟨u2, eu2, h⟩ := nm_x h
        refine topE eu2 ?_
        refine lv_istore_n (lv' := [(3, .int u2), (0, .ref (ad (cO GC o))), (1, .ref (ad (cO GC o1))), (2, .int x2)]) hx hb dX2_takeHeirs_37 rfl hl (by decide) rfl (fun ls hl => ?_)
        refine lv_aload_n hx hb dX2_takeHeirs_38 rfl (lv_at hl 1 rfl) ?_
        refine gf_X2_9 F X ho dX2_takeHeirs_39 ?_
        refine lv_iload_n hx hb dX2_takeHeirs_42 rfl (lv_at hl 3 rfl) ?_
        refine lv_aload_n hx hb dX2_takeHeirs_43 rfl (lv_at hl 2 rfl) ?_
        refine gf_X2_49 F X ho1 dX2_takeHeirs_44 ?_
        refine lv_iload_n hx hb dX2_takeHeirs_47 rfl (lv_at hl 0 rfl) ?_
        obtain ⟨hin, h⟩ := gd_x h
        refine r_iald F X (ar_X3_0 ho1) hin dX2_takeHeirs_48 ?_
        obtain ⟨r3, hr3, h⟩ := bd_x h
        refine r_calli0 X (r_runS F X (kX2_sortOf l D ad cs A  M (M o1 0 (Int32.toNatClampNeg u2)) _ hr3) gm_X2_52 hd_X2_sortOf ⟨Nat.le_of_ble_eq_true rfl, Nat.le_of_ble_eq_true rfl⟩ rfl hl.1 rfl (Nat.le_of_ble_eq_true rfl) dX2_takeHeirs_49) (fun H locs X => ?_)
        obtain ⟨hin, h⟩ := gd_x h
        obtain ⟨M4, eM4, h⟩ := nm_x h
        refine r_iast F X (ar_X2_0 ho) hin dX2_takeHeirs_52 (fun H locs X => ?_)
        have X := Wd_eq eM4 X
        refine lv_aload_n hx hb dX2_takeHeirs_53 rfl (lv_at hl 1 rfl) ?_
        refine gf_X2_15 F X ho dX2_takeHeirs_54 ?_
        refine lv_iload_n hx hb dX2_takeHeirs_57 rfl (lv_at hl 3 rfl) ?_
        refine lv_aload_n hx hb dX2_takeHeirs_58 rfl (lv_at hl 2 rfl) ?_
        refine gf_X2_49 F X ho1 dX2_takeHeirs_59 ?_
        refine lv_iload_n hx hb dX2_takeHeirs_62 rfl (lv_at hl 0 rfl) ?_
        refine lv_iconst (v := 1) hx hb dX2_takeHeirs_63 (by decide) ?_
        refine lv_iadd hx hb dX2_takeHeirs_64 ?_
        obtain ⟨hin, h⟩ := gd_x h
        refine r_iald F X (ar_X3_0 ho1) hin dX2_takeHeirs_65 ?_
        refine lv_bipush (v := 48) hx hb dX2_takeHeirs_66 (by decide) ?_
        refine lv_isub hx hb dX2_takeHeirs_68 ?_
        obtain ⟨hin, h⟩ := gd_x h
        obtain ⟨M5, eM5, h⟩ := nm_x h
        refine r_iast F X (ar_X2_1 ho) hin dX2_takeHeirs_69 (fun H locs X => ?_)
        have X := Wd_eq eM5 X
        refine lv_aload_n hx hb dX2_takeHeirs_70 rfl (lv_at hl 1 rfl) ?_
        refine gf_X2_18 F X ho dX2_takeHeirs_71 ?_
        refine lv_iload_n hx hb dX2_takeHeirs_74 rfl (lv_at hl 3 rfl) ?_
        refine lv_aload_n hx hb dX2_takeHeirs_75 rfl (lv_at hl 2 rfl) ?_
        refine gf_X2_49 F X ho1 dX2_takeHeirs_76 ?_
        refine lv_iload_n hx hb dX2_takeHeirs_79 rfl (lv_at hl 0 rfl) ?_
        refine lv_iconst (v := 2) hx hb dX2_takeHeirs_80 (by decide) ?_
        refine lv_iadd hx hb dX2_takeHeirs_81 ?_
        obtain ⟨hin, h⟩ := gd_x h
        refine r_iald F X (ar_X3_0 ho1) hin dX2_takeHeirs_82 ?_
        refine lv_bipush (v := 48) hx hb dX2_takeHeirs_83 (by decide) ?_
        refine lv_isub hx hb dX2_takeHeirs_85 ?_
        obtain ⟨hin, h⟩ := gd_x h
        obtain ⟨M6, eM6, h⟩ := nm_x h
        refine r_iast F X (ar_X2_2 ho) hin dX2_takeHeirs_86 (fun H locs X => ?_)
        have X := Wd_eq eM6 X
        obtain ⟨u7, eu7, h⟩ := nm_x h
        refine lv_iinc (v := u7) (lv' := [(2, .int u7), (3, .int u2), (0, .ref (ad (cO GC o))), (1, .ref (ad (cO GC o1)))]) hx hb dX2_takeHeirs_87 hl (k := 3) rfl (by rw [eu7]; rfl) (by decide) rfl (fun ls hl => ?_)
        refine lv_goto (tgt := 26) hx hb dX2_takeHeirs_90 (by decide) ?_
        rw [← sm_x h] at hk1
        exact ih26 _ _ u7 M6 ls X (lv_sub hl [2, 3, 0] rfl)  () hk1
  have J21 : ∀ (H : Heap) (locs : List Loc) (v0 : Int32) (M : Mem) (ls : Array Slot), Wd D ad cs GC A s H locs M → lv_has ls 4 [(0, .ref (ad (cO GC o))), (1, .ref (ad (cO GC o1)))] → ∀ (_ : Unit), fX2_takeHeirs_21 o o1 v0 M = some z → W p l e (rmo 3 106) s m args below meth c H locs 0 0 Q (F0 m 21 ls [.int v0, .ref (ad (cO GC o))]) := by
    intro H locs v0 M ls X hl  _u h
    unfold fX2_takeHeirs_21 at h
    obtain ⟨M8, eM8, h⟩ := nm_x h
    refine pf_X2_27 F X ho dX2_takeHeirs_21 (fun H locs X => ?_)
    have X := Wd_eq eM8 X
    refine lv_iconst (v := 0) hx hb dX2_takeHeirs_24 (by decide) ?_
    obtain ⟨u9, eu9, h⟩ := nm_x h
    refine topE eu9 ?_
    refine lv_istore_n (lv' := [(2, .int u9), (0, .ref (ad (cO GC o))), (1, .ref (ad (cO GC o1)))]) hx hb dX2_takeHeirs_25 rfl hl (by decide) rfl (fun ls hl => ?_)
    exact L26 FU _ _ u9 M8 ls X (lv_sub hl [1, 2, 0] rfl)  () h
  have h := hz
  unfold fX2_takeHeirs at h
  refine lv_aload_n hx hb dX2_takeHeirs_0 rfl (lv_at hl 0 rfl) ?_
  refine lv_aload_n hx hb dX2_takeHeirs_1 rfl (lv_at hl 1 rfl) ?_
  obtain ⟨r10, hr10, h⟩ := bd_x h
  refine r_calli0 X (r_runV F X (kX3_faultAsHeirs l D ad cs A ho1 M  _ hr10) gm_X2_40 hd_X3_faultAsHeirs ⟨Nat.le_of_ble_eq_true rfl, Nat.le_of_ble_eq_true rfl⟩ ho1 rfl rfl hl.1 rfl (Nat.le_of_ble_eq_true rfl) dX2_takeHeirs_2) (fun H locs X => ?_)
  refine lv_iconst (v := (-1)) hx hb dX2_takeHeirs_5 (by decide) ?_
  refine lv_icmp_ne (tgt := 20) hx hb dX2_takeHeirs_6 (by decide) (fun c11 => ?_) (fun c11 => ?_)
  · have h := it_n h c11
    refine lv_iconst (v := 0) hx hb dX2_takeHeirs_20 (by decide) ?_
    exact J21 _ _ 0 M ls X (lv_sub hl [0, 1] rfl)  () h
  · have h := it_p h c11
    refine lv_aload_n hx hb dX2_takeHeirs_9 rfl (lv_at hl 1 rfl) ?_
    refine gf_X2_46 F X ho1 dX2_takeHeirs_10 ?_
    refine lv_iconst (v := 1) hx hb dX2_takeHeirs_13 (by decide) ?_
    refine lv_iadd hx hb dX2_takeHeirs_14 ?_
    refine lv_iconst (v := 4) hx hb dX2_takeHeirs_15 (by decide) ?_
    refine lv_idiv hx hb dX2_takeHeirs_16 (by decide) ?_
    refine lv_goto (tgt := 21) hx hb dX2_takeHeirs_17 (by decide) ?_
    exact J21 _ _ (((M o1 1 0) + (1 : Int32)) / 4) M ls X (lv_sub hl [0, 1] rfl)  () h

/-! ===== X3_faultAsRound ===== -/
def fX3_faultAsRound_2 (o : Nat) (M : Mem) (x1 : Int32) : Option (Int32 ⊕ Int32) :=
  if (M o 1 0) ≤ x1 then
    some (.inr (-1))
  else
    gd (inB x1 (if o = 1 then 31 else 20)) <|
    (if (M o 0 (Int32.toNatClampNeg x1)) < 97 then
      some (.inr x1)
    else
      gd (inB x1 (if o = 1 then 31 else 20)) <|
      (if (M o 0 (Int32.toNatClampNeg x1)) ≤ 104 then
        nm (x1 + 1 : Int32) fun u4 =>
        some (.inl u4)
      else
        some (.inr x1)))
def fX3_faultAsRound (o : Nat) (M : Mem) : Option Int32 :=
  nm (0 : Int32) fun u5 =>
  lpO (fun st => fX3_faultAsRound_2 o M st) FU u5
set_option maxHeartbeats 4000000 in
set_option maxRecDepth 100000 in
theorem kX3_faultAsRound (l : Launch) (D : va_G) (ad : Nat → Nat) (cs : Nat → ClassId) (A : Nat → Prop) {o : Nat} (ho : GC[cO GC o]? = some (o, 0, 3, 0)) (M : Mem)  (z : Int32) (hz : fX3_faultAsRound o M = some z) : Met l yX3_faultAsRound (wsU yX3_faultAsRound cX3_faultAsRound 2 (some .int)) (rmo 1 64) (va_Pc [.ref (ad (cO GC o))] (Wd0 D ad cs GC A M)) (va_Qi (fun r u => (r, u) = (z, M)) (Wd0 D ad cs GC A) A) 0 0 A := by
  refine ct_i0 (by decide) rfl okGC (Nat.le_of_ble_eq_true rfl) ?_
  intro p e s m args below meth c Q ls F X hl RT
  have hx := F.1
  have hb := F.2.1
  have hl : lv_has ls 2 [(0, .ref (ad (cO GC o)))] := hl
  obtain ⟨H, hH⟩ : ∃ H, H = s.heap := ⟨_, rfl⟩
  rw [← hH] at X ⊢
  obtain ⟨locs, hlocs⟩ : ∃ locs : List Loc, locs = [] := ⟨_, rfl⟩
  rw [← hlocs] at X ⊢
  clear hH hlocs
  have L2 : ∀ (n : Nat) (H : Heap) (locs : List Loc) (x1 : Int32) (ls : Array Slot), Wd D ad cs GC A s H locs M → lv_has ls 2 [(0, .ref (ad (cO GC o))), (1, .int x1)] → ∀ (_ : Unit), lpO (fun st => fX3_faultAsRound_2 o M st) n x1 = some z → W p l e (rmo 1 64) s m args below meth c H locs 0 0 Q (F0 m 2 ls []) := by
    intro n
    induction n with
    | zero =>
      intro H locs x1 ls X hl  yy h
      exact lp_0 h
    | succ n1 ih2 =>
      intro H locs x1 ls X hl  _u h
      obtain ⟨y1, h, hk1⟩ := lp_x h
      unfold fX3_faultAsRound_2 at h
      refine lv_iload_n hx hb dX3_faultAsRound_2 rfl (lv_at hl 1 rfl) ?_
      refine lv_aload_n hx hb dX3_faultAsRound_3 rfl (lv_at hl 0 rfl) ?_
      refine gf_X3_9 F X ho dX3_faultAsRound_4 ?_
      refine lv_icmp_ge (tgt := 40) hx hb dX3_faultAsRound_7 (by decide) (fun c1 => ?_) (fun c1 => ?_)
      · have h := it_p h c1
        refine lv_iconst (v := (-1)) hx hb dX3_faultAsRound_40 (by decide) ?_
        have h := sm_x h
        rw [← h] at hk1
        have h := sm_x hk1
        exact RT H locs _ 41 ls X h dX3_faultAsRound_41
      · have h := it_n h c1
        refine lv_aload_n hx hb dX3_faultAsRound_10 rfl (lv_at hl 0 rfl) ?_
        refine gf_X3_15 F X ho dX3_faultAsRound_11 ?_
        refine lv_iload_n hx hb dX3_faultAsRound_14 rfl (lv_at hl 1 rfl) ?_
        obtain ⟨hin, h⟩ := gd_x h
        refine r_iald F X (ar_X3_0 ho) hin dX3_faultAsRound_15 ?_
        refine lv_bipush (v := 97) hx hb dX3_faultAsRound_16 (by decide) ?_
        refine lv_icmp_lt (tgt := 32) hx hb dX3_faultAsRound_18 (by decide) (fun c2 => ?_) (fun c2 => ?_)
        · have h := it_p h c2
          refine lv_iload_n hx hb dX3_faultAsRound_32 rfl (lv_at hl 1 rfl) ?_
          have h := sm_x h
          rw [← h] at hk1
          have h := sm_x hk1
          exact RT H locs _ 33 ls X h dX3_faultAsRound_33
        · have h := it_n h c2
          refine lv_aload_n hx hb dX3_faultAsRound_21 rfl (lv_at hl 0 rfl) ?_
          refine gf_X3_15 F X ho dX3_faultAsRound_22 ?_
          refine lv_iload_n hx hb dX3_faultAsRound_25 rfl (lv_at hl 1 rfl) ?_
          obtain ⟨hin, h⟩ := gd_x h
          refine r_iald F X (ar_X3_0 ho) hin dX3_faultAsRound_26 ?_
          refine lv_bipush (v := 104) hx hb dX3_faultAsRound_27 (by decide) ?_
          refine lv_icmp_le (tgt := 34) hx hb dX3_faultAsRound_29 (by decide) (fun c3 => ?_) (fun c3 => ?_)
          · have h := it_p h c3
            obtain ⟨u4, eu4, h⟩ := nm_x h
            refine lv_iinc (v := u4) (lv' := [(1, .int u4), (0, .ref (ad (cO GC o)))]) hx hb dX3_faultAsRound_34 hl (k := 1) rfl (by rw [eu4]; rfl) (by decide) rfl (fun ls hl => ?_)
            refine lv_goto (tgt := 2) hx hb dX3_faultAsRound_37 (by decide) ?_
            rw [← sm_x h] at hk1
            exact ih2 _ _ u4 ls X (lv_sub hl [1, 0] rfl)  () hk1
          · have h := it_n h c3
            refine lv_iload_n hx hb dX3_faultAsRound_32 rfl (lv_at hl 1 rfl) ?_
            have h := sm_x h
            rw [← h] at hk1
            have h := sm_x hk1
            exact RT H locs _ 33 ls X h dX3_faultAsRound_33
  have h := hz
  unfold fX3_faultAsRound at h
  refine lv_iconst (v := 0) hx hb dX3_faultAsRound_0 (by decide) ?_
  obtain ⟨u5, eu5, h⟩ := nm_x h
  refine topE eu5 ?_
  refine lv_istore_n (lv' := [(1, .int u5), (0, .ref (ad (cO GC o)))]) hx hb dX3_faultAsRound_1 rfl hl (by decide) rfl (fun ls hl => ?_)
  exact L2 FU _ _ u5 ls X (lv_sub hl [1, 0] rfl)  () h

/-! ===== X2_takeRound ===== -/
def fX2_takeRound_22 (o : Nat) (o1 : Nat) (x2 : Int32) (M : Mem) : Option ((Int32 × Mem) ⊕ Mem) :=
  if (M o 6 0) ≤ x2 then
    some (.inr M)
  else
    gd (inB x2 (if o1 = 1 then 31 else 20)) <|
    gd (inB x2 20) <|
    nm (wr M o 4 (Int32.toNatClampNeg x2) ((M o1 0 (Int32.toNatClampNeg x2)) - (97 : Int32))) fun M2 =>
    nm (x2 + 1 : Int32) fun u3 =>
    some (.inl (u3, M2))
def fX2_takeRound_17 (o : Nat) (o1 : Nat) (v0 : Int32) (M : Mem) : Option Mem :=
  nm (wr M o 6 0 v0) fun M4 =>
  nm (0 : Int32) fun u5 =>
  lpO (fun st => fX2_takeRound_22 o o1 st.1 st.2) FU (u5, M4)
def fX2_takeRound (o : Nat) (o1 : Nat) (M : Mem) : Option Mem :=
  (fX3_faultAsRound o1 M).bind fun r6 =>
  (if r6 = (-1) then
    fX2_takeRound_17 o o1 (M o1 1 0) M
  else
    fX2_takeRound_17 o o1 0 M)
set_option maxHeartbeats 4000000 in
set_option maxRecDepth 100000 in
theorem kX2_takeRound (l : Launch) (D : va_G) (ad : Nat → Nat) (cs : Nat → ClassId) (A : Nat → Prop) {o : Nat} (ho : GC[cO GC o]? = some (o, 0, 2, 0)) {o1 : Nat} (ho1 : GC[cO GC o1]? = some (o1, 0, 3, 0)) (M : Mem)  (z : Mem) (hz : fX2_takeRound o o1 M = some z) : Met l yX2_takeRound (wsU yX2_takeRound cX2_takeRound 3 none) (rmo 2 85) (va_Pc [.ref (ad (cO GC o)), .ref (ad (cO GC o1))] (Wd0 D ad cs GC A M)) (va_Qv (fun u => u = z) (Wd0 D ad cs GC A) A) 0 0 A := by
  refine ct_v (by decide) rfl okGC (Nat.le_of_ble_eq_true rfl) ?_
  intro p e s m args below meth c Q ls F X hl RT
  have hx := F.1
  have hb := F.2.1
  have hl : lv_has ls 3 [(0, .ref (ad (cO GC o))), (1, .ref (ad (cO GC o1)))] := hl
  obtain ⟨H, hH⟩ : ∃ H, H = s.heap := ⟨_, rfl⟩
  rw [← hH] at X ⊢
  obtain ⟨locs, hlocs⟩ : ∃ locs : List Loc, locs = [] := ⟨_, rfl⟩
  rw [← hlocs] at X ⊢
  clear hH hlocs
  have L22 : ∀ (n : Nat) (H : Heap) (locs : List Loc) (x2 : Int32) (M : Mem) (ls : Array Slot), Wd D ad cs GC A s H locs M → lv_has ls 3 [(0, .ref (ad (cO GC o))), (1, .ref (ad (cO GC o1))), (2, .int x2)] → ∀ (_ : Unit), lpO (fun st => fX2_takeRound_22 o o1 st.1 st.2) n (x2, M) = some z → W p l e (rmo 2 85) s m args below meth c H locs 0 0 Q (F0 m 22 ls []) := by
    intro n
    induction n with
    | zero =>
      intro H locs x2 M ls X hl  yy h
      exact lp_0 h
    | succ n1 ih22 =>
      intro H locs x2 M ls X hl  _u h
      obtain ⟨y1, h, hk1⟩ := lp_x h
      unfold fX2_takeRound_22 at h
      refine lv_iload_n hx hb dX2_takeRound_22 rfl (lv_at hl 2 rfl) ?_
      refine lv_aload_n hx hb dX2_takeRound_23 rfl (lv_at hl 0 rfl) ?_
      refine gf_X2_31 F X ho dX2_takeRound_24 ?_
      refine lv_icmp_ge (tgt := 51) hx hb dX2_takeRound_27 (by decide) (fun c1 => ?_) (fun c1 => ?_)
      · have h := it_p h c1
        have h := sm_x h
        rw [← h] at hk1
        have h := sm_x hk1
        exact RT H locs _ 51 ls X h dX2_takeRound_51
      · have h := it_n h c1
        refine lv_aload_n hx hb dX2_takeRound_30 rfl (lv_at hl 0 rfl) ?_
        refine gf_X2_24 F X ho dX2_takeRound_31 ?_
        refine lv_iload_n hx hb dX2_takeRound_34 rfl (lv_at hl 2 rfl) ?_
        refine lv_aload_n hx hb dX2_takeRound_35 rfl (lv_at hl 1 rfl) ?_
        refine gf_X2_49 F X ho1 dX2_takeRound_36 ?_
        refine lv_iload_n hx hb dX2_takeRound_39 rfl (lv_at hl 2 rfl) ?_
        obtain ⟨hin, h⟩ := gd_x h
        refine r_iald F X (ar_X3_0 ho1) hin dX2_takeRound_40 ?_
        refine lv_bipush (v := 97) hx hb dX2_takeRound_41 (by decide) ?_
        refine lv_isub hx hb dX2_takeRound_43 ?_
        obtain ⟨hin, h⟩ := gd_x h
        obtain ⟨M2, eM2, h⟩ := nm_x h
        refine r_iast F X (ar_X2_4 ho) hin dX2_takeRound_44 (fun H locs X => ?_)
        have X := Wd_eq eM2 X
        obtain ⟨u3, eu3, h⟩ := nm_x h
        refine lv_iinc (v := u3) (lv' := [(2, .int u3), (0, .ref (ad (cO GC o))), (1, .ref (ad (cO GC o1)))]) hx hb dX2_takeRound_45 hl (k := 2) rfl (by rw [eu3]; rfl) (by decide) rfl (fun ls hl => ?_)
        refine lv_goto (tgt := 22) hx hb dX2_takeRound_48 (by decide) ?_
        rw [← sm_x h] at hk1
        exact ih22 _ _ u3 M2 ls X (lv_sub hl [1, 2, 0] rfl)  () hk1
  have J17 : ∀ (H : Heap) (locs : List Loc) (v0 : Int32) (M : Mem) (ls : Array Slot), Wd D ad cs GC A s H locs M → lv_has ls 3 [(0, .ref (ad (cO GC o))), (1, .ref (ad (cO GC o1)))] → ∀ (_ : Unit), fX2_takeRound_17 o o1 v0 M = some z → W p l e (rmo 2 85) s m args below meth c H locs 0 0 Q (F0 m 17 ls [.int v0, .ref (ad (cO GC o))]) := by
    intro H locs v0 M ls X hl  _u h
    unfold fX2_takeRound_17 at h
    obtain ⟨M4, eM4, h⟩ := nm_x h
    refine pf_X2_31 F X ho dX2_takeRound_17 (fun H locs X => ?_)
    have X := Wd_eq eM4 X
    refine lv_iconst (v := 0) hx hb dX2_takeRound_20 (by decide) ?_
    obtain ⟨u5, eu5, h⟩ := nm_x h
    refine topE eu5 ?_
    refine lv_istore_n (lv' := [(2, .int u5), (0, .ref (ad (cO GC o))), (1, .ref (ad (cO GC o1)))]) hx hb dX2_takeRound_21 rfl hl (by decide) rfl (fun ls hl => ?_)
    exact L22 FU _ _ u5 M4 ls X (lv_sub hl [1, 2, 0] rfl)  () h
  have h := hz
  unfold fX2_takeRound at h
  refine lv_aload_n hx hb dX2_takeRound_0 rfl (lv_at hl 0 rfl) ?_
  refine lv_aload_n hx hb dX2_takeRound_1 rfl (lv_at hl 1 rfl) ?_
  obtain ⟨r6, hr6, h⟩ := bd_x h
  refine r_calli0 X (r_runV F X (kX3_faultAsRound l D ad cs A ho1 M  _ hr6) gm_X2_56 hd_X3_faultAsRound ⟨Nat.le_of_ble_eq_true rfl, Nat.le_of_ble_eq_true rfl⟩ ho1 rfl rfl hl.1 rfl (Nat.le_of_ble_eq_true rfl) dX2_takeRound_2) (fun H locs X => ?_)
  refine lv_iconst (v := (-1)) hx hb dX2_takeRound_5 (by decide) ?_
  refine lv_icmp_ne (tgt := 16) hx hb dX2_takeRound_6 (by decide) (fun c7 => ?_) (fun c7 => ?_)
  · have h := it_n h c7
    refine lv_iconst (v := 0) hx hb dX2_takeRound_16 (by decide) ?_
    exact J17 _ _ 0 M ls X (lv_sub hl [0, 1] rfl)  () h
  · have h := it_p h c7
    refine lv_aload_n hx hb dX2_takeRound_9 rfl (lv_at hl 1 rfl) ?_
    refine gf_X2_46 F X ho1 dX2_takeRound_10 ?_
    refine lv_goto (tgt := 17) hx hb dX2_takeRound_13 (by decide) ?_
    exact J17 _ _ (M o1 1 0) M ls X (lv_sub hl [0, 1] rfl)  () h

/-! ===== X2_drawRound ===== -/
def fX2_drawRound_29 (o : Nat) (a1 : Int32) (a2 : Int32) (x3 : Int32) (x4 : Int32) (M : Mem) : Option ((Int32 × Int32 × Mem) ⊕ Mem) :=
  if (M o 6 0) ≤ x4 then
    some (.inr M)
  else
    nm (((1103515245 : Int32) * x3) + (12345 : Int32) : Int32) fun u2 =>
    gd (¬ (M o 5 0) = 0) <|
    gd (inB x4 20) <|
    nm (wr M o 4 (Int32.toNatClampNeg x4) (((Int32.toUInt32 u2 >>> (Int32.toUInt32 16 &&& Int32.toUInt32 31)).toInt32) - ((Int32.toUInt32 u2 >>> (Int32.toUInt32 16 &&& Int32.toUInt32 31)).toInt32) / (M o 5 0) * (M o 5 0))) fun M3 =>
    nm (x4 + 1 : Int32) fun u4 =>
    some (.inl (u2, u4, M3))
def fX2_drawRound (o : Nat) (M : Mem) (a1 : Int32) (a2 : Int32) : Option Mem :=
  nm (wr M o 6 0 0) fun M5 =>
  (if (M5 o 5 0) ≤ 0 then
    some M5
  else
    if a2 ≤ 20 then
      nm (wr M5 o 6 0 a2) fun M8 =>
      nm (a1 : Int32) fun u9 =>
      nm (0 : Int32) fun u10 =>
      lpO (fun st => fX2_drawRound_29 o a1 a2 st.1 st.2.1 st.2.2) FU (u9, u10, M8)
    else
      some M5)
set_option maxHeartbeats 4000000 in
set_option maxRecDepth 100000 in
theorem kX2_drawRound (l : Launch) (D : va_G) (ad : Nat → Nat) (cs : Nat → ClassId) (A : Nat → Prop) {o : Nat} (ho : GC[cO GC o]? = some (o, 0, 2, 0)) (M : Mem) (a1 : Int32) (a2 : Int32) (z : Mem) (hz : fX2_drawRound o M a1 a2 = some z) : Met l yX2_drawRound (wsU yX2_drawRound cX2_drawRound 5 none) (rmo 1 64) (va_Pc [.ref (ad (cO GC o)), .int a1, .int a2] (Wd0 D ad cs GC A M)) (va_Qv (fun u => u = z) (Wd0 D ad cs GC A) A) 0 0 A := by
  refine ct_v (by decide) rfl okGC (Nat.le_of_ble_eq_true rfl) ?_
  intro p e s m args below meth c Q ls F X hl RT
  have hx := F.1
  have hb := F.2.1
  have hl : lv_has ls 5 [(0, .ref (ad (cO GC o))), (1, .int a1), (2, .int a2)] := hl
  obtain ⟨H, hH⟩ : ∃ H, H = s.heap := ⟨_, rfl⟩
  rw [← hH] at X ⊢
  obtain ⟨locs, hlocs⟩ : ∃ locs : List Loc, locs = [] := ⟨_, rfl⟩
  rw [← hlocs] at X ⊢
  clear hH hlocs
  have L29 : ∀ (n : Nat) (H : Heap) (locs : List Loc) (x3 : Int32) (x4 : Int32) (M : Mem) (ls : Array Slot), Wd D ad cs GC A s H locs M → lv_has ls 5 [(0, .ref (ad (cO GC o))), (3, .int x3), (4, .int x4)] → ∀ (_ : Unit), lpO (fun st => fX2_drawRound_29 o a1 a2 st.1 st.2.1 st.2.2) n (x3, x4, M) = some z → W p l e (rmo 1 64) s m args below meth c H locs 0 0 Q (F0 m 29 ls []) := by
    intro n
    induction n with
    | zero =>
      intro H locs x3 x4 M ls X hl  yy h
      exact lp_0 h
    | succ n1 ih29 =>
      intro H locs x3 x4 M ls X hl  _u h
      obtain ⟨y1, h, hk1⟩ := lp_x h
      unfold fX2_drawRound_29 at h
      refine lv_iload hx hb dX2_drawRound_29 (lv_at hl 2 rfl) ?_
      refine lv_aload_n hx hb dX2_drawRound_31 rfl (lv_at hl 0 rfl) ?_
      refine gf_X2_31 F X ho dX2_drawRound_32 ?_
      refine lv_icmp_ge (tgt := 69) hx hb dX2_drawRound_35 (by decide) (fun c1 => ?_) (fun c1 => ?_)
      · have h := it_p h c1
        have h := sm_x h
        rw [← h] at hk1
        have h := sm_x hk1
        exact RT H locs _ 69 ls X h dX2_drawRound_69
      · have h := it_n h c1
        refine lv_ldc (v := 1103515245) hx hb F.2.2.2.1 (F.2.2.2.2 _ (mT3 197 rfl rfl)) dX2_drawRound_38 ?_
        refine lv_iload_n hx hb dX2_drawRound_40 rfl (lv_at hl 1 rfl) ?_
        refine lv_imul hx hb dX2_drawRound_41 ?_
        refine lv_sipush (v := 12345) hx hb dX2_drawRound_42 (by decide) ?_
        refine lv_iadd hx hb dX2_drawRound_45 ?_
        obtain ⟨u2, eu2, h⟩ := nm_x h
        refine topE eu2 ?_
        refine lv_istore_n (lv' := [(3, .int u2), (0, .ref (ad (cO GC o))), (4, .int x4)]) hx hb dX2_drawRound_46 rfl hl (by decide) rfl (fun ls hl => ?_)
        refine lv_aload_n hx hb dX2_drawRound_47 rfl (lv_at hl 1 rfl) ?_
        refine gf_X2_24 F X ho dX2_drawRound_48 ?_
        refine lv_iload hx hb dX2_drawRound_51 (lv_at hl 2 rfl) ?_
        refine lv_iload_n hx hb dX2_drawRound_53 rfl (lv_at hl 0 rfl) ?_
        refine lv_bipush (v := 16) hx hb dX2_drawRound_54 (by decide) ?_
        refine lv_iushr (v := (Int32.toUInt32 u2 >>> (Int32.toUInt32 16 &&& Int32.toUInt32 31)).toInt32) hx hb dX2_drawRound_56 rfl ?_
        refine lv_aload_n hx hb dX2_drawRound_57 rfl (lv_at hl 1 rfl) ?_
        refine gf_X2_27 F X ho dX2_drawRound_58 ?_
        obtain ⟨hn, h⟩ := gd_x h
        refine lv_irem hx hb dX2_drawRound_61 hn ?_
        obtain ⟨hin, h⟩ := gd_x h
        obtain ⟨M3, eM3, h⟩ := nm_x h
        refine r_iast F X (ar_X2_4 ho) hin dX2_drawRound_62 (fun H locs X => ?_)
        have X := Wd_eq eM3 X
        obtain ⟨u4, eu4, h⟩ := nm_x h
        refine lv_iinc (v := u4) (lv' := [(4, .int u4), (3, .int u2), (0, .ref (ad (cO GC o)))]) hx hb dX2_drawRound_63 hl (k := 2) rfl (by rw [eu4]; rfl) (by decide) rfl (fun ls hl => ?_)
        refine lv_goto (tgt := 29) hx hb dX2_drawRound_66 (by decide) ?_
        rw [← sm_x h] at hk1
        exact ih29 _ _ u2 u4 M3 ls X (lv_sub hl [2, 1, 0] rfl)  () hk1
  have h := hz
  unfold fX2_drawRound at h
  refine lv_aload_n hx hb dX2_drawRound_0 rfl (lv_at hl 0 rfl) ?_
  refine lv_iconst (v := 0) hx hb dX2_drawRound_1 (by decide) ?_
  obtain ⟨M5, eM5, h⟩ := nm_x h
  refine pf_X2_31 F X ho dX2_drawRound_2 (fun H locs X => ?_)
  have X := Wd_eq eM5 X
  refine lv_aload_n hx hb dX2_drawRound_5 rfl (lv_at hl 0 rfl) ?_
  refine gf_X2_27 F X ho dX2_drawRound_6 ?_
  refine lv_if_le (tgt := 18) hx hb dX2_drawRound_9 (by decide) (fun c6 => ?_) (fun c6 => ?_)
  · have h := it_p h c6
    have h := sm_x h
    exact RT H locs _ 18 ls X h dX2_drawRound_18
  · have h := it_n h c6
    refine lv_iload_n hx hb dX2_drawRound_12 rfl (lv_at hl 2 rfl) ?_
    refine lv_bipush (v := 20) hx hb dX2_drawRound_13 (by decide) ?_
    refine lv_icmp_le (tgt := 19) hx hb dX2_drawRound_15 (by decide) (fun c7 => ?_) (fun c7 => ?_)
    · have h := it_p h c7
      refine lv_aload_n hx hb dX2_drawRound_19 rfl (lv_at hl 0 rfl) ?_
      refine lv_iload_n hx hb dX2_drawRound_20 rfl (lv_at hl 2 rfl) ?_
      obtain ⟨M8, eM8, h⟩ := nm_x h
      refine pf_X2_31 F X ho dX2_drawRound_21 (fun H locs X => ?_)
      have X := Wd_eq eM8 X
      refine lv_iload_n hx hb dX2_drawRound_24 rfl (lv_at hl 1 rfl) ?_
      obtain ⟨u9, eu9, h⟩ := nm_x h
      refine topE eu9 ?_
      refine lv_istore_n (lv' := [(3, .int u9), (0, .ref (ad (cO GC o))), (1, .int a1), (2, .int a2)]) hx hb dX2_drawRound_25 rfl hl (by decide) rfl (fun ls hl => ?_)
      refine lv_iconst (v := 0) hx hb dX2_drawRound_26 (by decide) ?_
      obtain ⟨u10, eu10, h⟩ := nm_x h
      refine topE eu10 ?_
      refine lv_istore (lv' := [(4, .int u10), (3, .int u9), (0, .ref (ad (cO GC o))), (1, .int a1), (2, .int a2)]) hx hb dX2_drawRound_27 hl (by decide) rfl (fun ls hl => ?_)
      exact L29 FU _ _ u9 u10 M8 ls X (lv_sub hl [2, 1, 0] rfl)  () h
    · have h := it_n h c7
      have h := sm_x h
      exact RT H locs _ 18 ls X h dX2_drawRound_18

/-! ===== X2_copyFrom ===== -/
def fX2_copyFrom (o : Nat) (o1 : Nat) (M : Mem) : Option Mem :=
  nm (cpM M o1 0 o 0 (Int32.toNatClampNeg 0) (Int32.toNatClampNeg 0) (Int32.toNatClampNeg 8)) fun M1 =>
  nm (cpM M1 o1 1 o 1 (Int32.toNatClampNeg 0) (Int32.toNatClampNeg 0) (Int32.toNatClampNeg 8)) fun M2 =>
  nm (cpM M2 o1 2 o 2 (Int32.toNatClampNeg 0) (Int32.toNatClampNeg 0) (Int32.toNatClampNeg 8)) fun M3 =>
  nm (cpM M3 o1 3 o 3 (Int32.toNatClampNeg 0) (Int32.toNatClampNeg 0) (Int32.toNatClampNeg (nI 4))) fun M4 =>
  nm (cpM M4 o1 4 o 4 (Int32.toNatClampNeg 0) (Int32.toNatClampNeg 0) (Int32.toNatClampNeg 20)) fun M5 =>
  nm (wr M5 o 5 0 (M5 o1 5 0)) fun M6 =>
  nm (wr M6 o 6 0 (M6 o1 6 0)) fun M7 =>
  nm (wr M7 o 7 0 (M7 o1 7 0)) fun M8 =>
  nm (wr M8 o 8 0 (M8 o1 8 0)) fun M9 =>
  some M9
set_option maxHeartbeats 4000000 in
set_option maxRecDepth 100000 in
theorem kX2_copyFrom (l : Launch) (D : va_G) (ad : Nat → Nat) (cs : Nat → ClassId) (A : Nat → Prop) {o : Nat} (ho : GC[cO GC o]? = some (o, 0, 2, 0)) {o1 : Nat} (ho1 : GC[cO GC o1]? = some (o1, 0, 2, 0)) (M : Mem)  (z : Mem) (hz : fX2_copyFrom o o1 M = some z) : Met l yX2_copyFrom (wsU yX2_copyFrom cX2_copyFrom 2 none) (rmo 1 64) (va_Pc [.ref (ad (cO GC o)), .ref (ad (cO GC o1))] (Wd0 D ad cs GC A M)) (va_Qv (fun u => u = z) (Wd0 D ad cs GC A) A) 0 0 A := by
  refine ct_v (by decide) rfl okGC (Nat.le_of_ble_eq_true rfl) ?_
  intro p e s m args below meth c Q ls F X hl RT
  have hx := F.1
  have hb := F.2.1
  have hl : lv_has ls 2 [(0, .ref (ad (cO GC o))), (1, .ref (ad (cO GC o1)))] := hl
  obtain ⟨H, hH⟩ : ∃ H, H = s.heap := ⟨_, rfl⟩
  rw [← hH] at X ⊢
  obtain ⟨locs, hlocs⟩ : ∃ locs : List Loc, locs = [] := ⟨_, rfl⟩
  rw [← hlocs] at X ⊢
  clear hH hlocs
  have h := hz
  unfold fX2_copyFrom at h
  refine lv_aload_n hx hb dX2_copyFrom_0 rfl (lv_at hl 1 rfl) ?_
  refine gf_X2_9 F X ho1 dX2_copyFrom_1 ?_
  refine lv_iconst (v := 0) hx hb dX2_copyFrom_4 (by decide) ?_
  refine lv_aload_n hx hb dX2_copyFrom_5 rfl (lv_at hl 0 rfl) ?_
  refine gf_X2_9 F X ho dX2_copyFrom_6 ?_
  refine lv_iconst (v := 0) hx hb dX2_copyFrom_9 (by decide) ?_
  refine lv_bipush (v := 8) hx hb dX2_copyFrom_10 (by decide) ?_
  obtain ⟨M1, eM1, h⟩ := nm_x h
  refine r_copy F X hl.1 (ar_X2_0 ho1) (ar_X2_0 ho) (mT3 82 rfl rfl) (mT2 62 rfl rfl) (mT2 61 rfl rfl) (mT1 11 rfl rfl) (by decide) (Nat.le_of_ble_eq_true rfl) (Nat.le_of_ble_eq_true rfl) dX2_copyFrom_12 (fun H locs X => ?_)
  have X := Wd_eq eM1 X
  refine lv_aload_n hx hb dX2_copyFrom_15 rfl (lv_at hl 1 rfl) ?_
  refine gf_X2_15 F X ho1 dX2_copyFrom_16 ?_
  refine lv_iconst (v := 0) hx hb dX2_copyFrom_19 (by decide) ?_
  refine lv_aload_n hx hb dX2_copyFrom_20 rfl (lv_at hl 0 rfl) ?_
  refine gf_X2_15 F X ho dX2_copyFrom_21 ?_
  refine lv_iconst (v := 0) hx hb dX2_copyFrom_24 (by decide) ?_
  refine lv_bipush (v := 8) hx hb dX2_copyFrom_25 (by decide) ?_
  obtain ⟨M2, eM2, h⟩ := nm_x h
  refine r_copy F X hl.1 (ar_X2_1 ho1) (ar_X2_1 ho) (mT3 82 rfl rfl) (mT2 62 rfl rfl) (mT2 61 rfl rfl) (mT1 11 rfl rfl) (by decide) (Nat.le_of_ble_eq_true rfl) (Nat.le_of_ble_eq_true rfl) dX2_copyFrom_27 (fun H locs X => ?_)
  have X := Wd_eq eM2 X
  refine lv_aload_n hx hb dX2_copyFrom_30 rfl (lv_at hl 1 rfl) ?_
  refine gf_X2_18 F X ho1 dX2_copyFrom_31 ?_
  refine lv_iconst (v := 0) hx hb dX2_copyFrom_34 (by decide) ?_
  refine lv_aload_n hx hb dX2_copyFrom_35 rfl (lv_at hl 0 rfl) ?_
  refine gf_X2_18 F X ho dX2_copyFrom_36 ?_
  refine lv_iconst (v := 0) hx hb dX2_copyFrom_39 (by decide) ?_
  refine lv_bipush (v := 8) hx hb dX2_copyFrom_40 (by decide) ?_
  obtain ⟨M3, eM3, h⟩ := nm_x h
  refine r_copy F X hl.1 (ar_X2_2 ho1) (ar_X2_2 ho) (mT3 82 rfl rfl) (mT2 62 rfl rfl) (mT2 61 rfl rfl) (mT1 11 rfl rfl) (by decide) (Nat.le_of_ble_eq_true rfl) (Nat.le_of_ble_eq_true rfl) dX2_copyFrom_42 (fun H locs X => ?_)
  have X := Wd_eq eM3 X
  refine lv_aload_n hx hb dX2_copyFrom_45 rfl (lv_at hl 1 rfl) ?_
  refine gf_X2_21 F X ho1 dX2_copyFrom_46 ?_
  refine lv_iconst (v := 0) hx hb dX2_copyFrom_49 (by decide) ?_
  refine lv_aload_n hx hb dX2_copyFrom_50 rfl (lv_at hl 0 rfl) ?_
  refine gf_X2_21 F X ho dX2_copyFrom_51 ?_
  refine lv_iconst (v := 0) hx hb dX2_copyFrom_54 (by decide) ?_
  refine lv_aload_n hx hb dX2_copyFrom_55 rfl (lv_at hl 0 rfl) ?_
  refine gf_X2_21 F X ho dX2_copyFrom_56 ?_
  refine r_alen F X (ar_X2_3 ho) dX2_copyFrom_59 ?_
  obtain ⟨M4, eM4, h⟩ := nm_x h
  refine r_copy F X hl.1 (ar_X2_3 ho1) (ar_X2_3 ho) (mT3 82 rfl rfl) (mT2 62 rfl rfl) (mT2 61 rfl rfl) (mT1 11 rfl rfl) (by decide) (Nat.le_of_ble_eq_true rfl) (Nat.le_of_ble_eq_true rfl) dX2_copyFrom_60 (fun H locs X => ?_)
  have X := Wd_eq eM4 X
  refine lv_aload_n hx hb dX2_copyFrom_63 rfl (lv_at hl 1 rfl) ?_
  refine gf_X2_24 F X ho1 dX2_copyFrom_64 ?_
  refine lv_iconst (v := 0) hx hb dX2_copyFrom_67 (by decide) ?_
  refine lv_aload_n hx hb dX2_copyFrom_68 rfl (lv_at hl 0 rfl) ?_
  refine gf_X2_24 F X ho dX2_copyFrom_69 ?_
  refine lv_iconst (v := 0) hx hb dX2_copyFrom_72 (by decide) ?_
  refine lv_bipush (v := 20) hx hb dX2_copyFrom_73 (by decide) ?_
  obtain ⟨M5, eM5, h⟩ := nm_x h
  refine r_copy F X hl.1 (ar_X2_4 ho1) (ar_X2_4 ho) (mT3 82 rfl rfl) (mT2 62 rfl rfl) (mT2 61 rfl rfl) (mT1 11 rfl rfl) (by decide) (Nat.le_of_ble_eq_true rfl) (Nat.le_of_ble_eq_true rfl) dX2_copyFrom_75 (fun H locs X => ?_)
  have X := Wd_eq eM5 X
  refine lv_aload_n hx hb dX2_copyFrom_78 rfl (lv_at hl 0 rfl) ?_
  refine lv_aload_n hx hb dX2_copyFrom_79 rfl (lv_at hl 1 rfl) ?_
  refine gf_X2_27 F X ho1 dX2_copyFrom_80 ?_
  obtain ⟨M6, eM6, h⟩ := nm_x h
  refine pf_X2_27 F X ho dX2_copyFrom_83 (fun H locs X => ?_)
  have X := Wd_eq eM6 X
  refine lv_aload_n hx hb dX2_copyFrom_86 rfl (lv_at hl 0 rfl) ?_
  refine lv_aload_n hx hb dX2_copyFrom_87 rfl (lv_at hl 1 rfl) ?_
  refine gf_X2_31 F X ho1 dX2_copyFrom_88 ?_
  obtain ⟨M7, eM7, h⟩ := nm_x h
  refine pf_X2_31 F X ho dX2_copyFrom_91 (fun H locs X => ?_)
  have X := Wd_eq eM7 X
  refine lv_aload_n hx hb dX2_copyFrom_94 rfl (lv_at hl 0 rfl) ?_
  refine lv_aload_n hx hb dX2_copyFrom_95 rfl (lv_at hl 1 rfl) ?_
  refine gf_X2_34 F X ho1 dX2_copyFrom_96 ?_
  obtain ⟨M8, eM8, h⟩ := nm_x h
  refine pf_X2_34 F X ho dX2_copyFrom_99 (fun H locs X => ?_)
  have X := Wd_eq eM8 X
  refine lv_aload_n hx hb dX2_copyFrom_102 rfl (lv_at hl 0 rfl) ?_
  refine lv_aload_n hx hb dX2_copyFrom_103 rfl (lv_at hl 1 rfl) ?_
  refine gf_X2_37 F X ho1 dX2_copyFrom_104 ?_
  obtain ⟨M9, eM9, h⟩ := nm_x h
  refine pf_X2_37 F X ho dX2_copyFrom_107 (fun H locs X => ?_)
  have X := Wd_eq eM9 X
  have h := sm_x h
  exact RT H locs _ 110 ls X h dX2_copyFrom_110

/-! ===== X2_dreadAt ===== -/
def fX2_dreadAt_47 (o : Nat) (M : Mem) (a1 : Int32) (a2 : Int32) (x3 : Int32) : Option Int32 :=
  if 0 ≤ x3 then
    some x3
  else
    some 0
def fX2_dreadAt_34 (o : Nat) (M : Mem) (a1 : Int32) (a2 : Int32) (x3 : Int32) : Option Int32 :=
  gd (inB a2 8) <|
  (if (M o 0 (Int32.toNatClampNeg a2)) = 1 then
    nm (x3 + (-1) : Int32) fun u3 =>
    fX2_dreadAt_47 o M a1 a2 u3
  else
    fX2_dreadAt_47 o M a1 a2 x3)
def fX2_dreadAt_21 (o : Nat) (M : Mem) (a1 : Int32) (a2 : Int32) (x3 : Int32) : Option Int32 :=
  gd (inB a2 8) <|
  (if (M o 0 (Int32.toNatClampNeg a2)) = 2 then
    nm (x3 + 2 : Int32) fun u5 =>
    fX2_dreadAt_34 o M a1 a2 u5
  else
    fX2_dreadAt_34 o M a1 a2 x3)
def fX2_dreadAt (o : Nat) (M : Mem) (a1 : Int32) (a2 : Int32) : Option Int32 :=
  nm (M o 3 (Int32.toNatClampNeg 1) : Int32) fun u6 =>
  (if (((M o 7 0) >>> (a1 &&& 31)) &&& (1 : Int32)) = 0 then
    fX2_dreadAt_21 o M a1 a2 u6
  else
    nm (u6 + 2 : Int32) fun u8 =>
    fX2_dreadAt_21 o M a1 a2 u8)
set_option maxHeartbeats 4000000 in
set_option maxRecDepth 100000 in
theorem kX2_dreadAt (l : Launch) (D : va_G) (ad : Nat → Nat) (cs : Nat → ClassId) (A : Nat → Prop) {o : Nat} (ho : GC[cO GC o]? = some (o, 0, 2, 0)) (M : Mem) (a1 : Int32) (a2 : Int32) (z : Int32) (hz : fX2_dreadAt o M a1 a2 = some z) : Met l yX2_dreadAt (wsU yX2_dreadAt cX2_dreadAt 4 (some .int)) (rmo 1 64) (va_Pc [.ref (ad (cO GC o)), .int a1, .int a2] (Wd0 D ad cs GC A M)) (va_Qi (fun r u => (r, u) = (z, M)) (Wd0 D ad cs GC A) A) 0 0 A := by
  refine ct_i0 (by decide) rfl okGC (Nat.le_of_ble_eq_true rfl) ?_
  intro p e s m args below meth c Q ls F X hl RT
  have hx := F.1
  have hb := F.2.1
  have hl : lv_has ls 4 [(0, .ref (ad (cO GC o))), (1, .int a1), (2, .int a2)] := hl
  obtain ⟨H, hH⟩ : ∃ H, H = s.heap := ⟨_, rfl⟩
  rw [← hH] at X ⊢
  obtain ⟨locs, hlocs⟩ : ∃ locs : List Loc, locs = [] := ⟨_, rfl⟩
  rw [← hlocs] at X ⊢
  clear hH hlocs
  have J47 : ∀ (H : Heap) (locs : List Loc) (x3 : Int32) (ls : Array Slot), Wd D ad cs GC A s H locs M → lv_has ls 4 [(3, .int x3)] → ∀ (_ : Unit), fX2_dreadAt_47 o M a1 a2 x3 = some z → W p l e (rmo 1 64) s m args below meth c H locs 0 0 Q (F0 m 47 ls []) := by
    intro H locs x3 ls X hl  _u h
    unfold fX2_dreadAt_47 at h
    refine lv_iload_n hx hb dX2_dreadAt_47 rfl (lv_at hl 0 rfl) ?_
    refine lv_if_ge (tgt := 55) hx hb dX2_dreadAt_48 (by decide) (fun c1 => ?_) (fun c1 => ?_)
    · have h := it_p h c1
      refine lv_iload_n hx hb dX2_dreadAt_55 rfl (lv_at hl 0 rfl) ?_
      have h := sm_x h
      exact RT H locs _ 56 ls X h dX2_dreadAt_56
    · have h := it_n h c1
      refine lv_iconst (v := 0) hx hb dX2_dreadAt_51 (by decide) ?_
      refine lv_goto (tgt := 56) hx hb dX2_dreadAt_52 (by decide) ?_
      have h := sm_x h
      exact RT H locs _ 56 ls X h dX2_dreadAt_56
  have J34 : ∀ (H : Heap) (locs : List Loc) (x3 : Int32) (ls : Array Slot), Wd D ad cs GC A s H locs M → lv_has ls 4 [(0, .ref (ad (cO GC o))), (2, .int a2), (3, .int x3)] → ∀ (_ : Unit), fX2_dreadAt_34 o M a1 a2 x3 = some z → W p l e (rmo 1 64) s m args below meth c H locs 0 0 Q (F0 m 34 ls []) := by
    intro H locs x3 ls X hl  _u h
    unfold fX2_dreadAt_34 at h
    refine lv_aload_n hx hb dX2_dreadAt_34 rfl (lv_at hl 0 rfl) ?_
    refine gf_X2_9 F X ho dX2_dreadAt_35 ?_
    refine lv_iload_n hx hb dX2_dreadAt_38 rfl (lv_at hl 1 rfl) ?_
    obtain ⟨hin, h⟩ := gd_x h
    refine r_iald F X (ar_X2_0 ho) hin dX2_dreadAt_39 ?_
    refine lv_iconst (v := 1) hx hb dX2_dreadAt_40 (by decide) ?_
    refine lv_icmp_ne (tgt := 47) hx hb dX2_dreadAt_41 (by decide) (fun c2 => ?_) (fun c2 => ?_)
    · have h := it_n h c2
      exact J47 _ _ x3 ls X (lv_sub hl [2] rfl)  () h
    · have h := it_p h c2
      obtain ⟨u3, eu3, h⟩ := nm_x h
      refine lv_iinc (v := u3) (lv' := [(3, .int u3), (0, .ref (ad (cO GC o))), (2, .int a2)]) hx hb dX2_dreadAt_44 hl (k := 2) rfl (by rw [eu3]; rfl) (by decide) rfl (fun ls hl => ?_)
      exact J47 _ _ u3 ls X (lv_sub hl [0] rfl)  () h
  have J21 : ∀ (H : Heap) (locs : List Loc) (x3 : Int32) (ls : Array Slot), Wd D ad cs GC A s H locs M → lv_has ls 4 [(0, .ref (ad (cO GC o))), (2, .int a2), (3, .int x3)] → ∀ (_ : Unit), fX2_dreadAt_21 o M a1 a2 x3 = some z → W p l e (rmo 1 64) s m args below meth c H locs 0 0 Q (F0 m 21 ls []) := by
    intro H locs x3 ls X hl  _u h
    unfold fX2_dreadAt_21 at h
    refine lv_aload_n hx hb dX2_dreadAt_21 rfl (lv_at hl 0 rfl) ?_
    refine gf_X2_9 F X ho dX2_dreadAt_22 ?_
    refine lv_iload_n hx hb dX2_dreadAt_25 rfl (lv_at hl 1 rfl) ?_
    obtain ⟨hin, h⟩ := gd_x h
    refine r_iald F X (ar_X2_0 ho) hin dX2_dreadAt_26 ?_
    refine lv_iconst (v := 2) hx hb dX2_dreadAt_27 (by decide) ?_
    refine lv_icmp_ne (tgt := 34) hx hb dX2_dreadAt_28 (by decide) (fun c4 => ?_) (fun c4 => ?_)
    · have h := it_n h c4
      exact J34 _ _ x3 ls X (lv_sub hl [0, 1, 2] rfl)  () h
    · have h := it_p h c4
      obtain ⟨u5, eu5, h⟩ := nm_x h
      refine lv_iinc (v := u5) (lv' := [(3, .int u5), (0, .ref (ad (cO GC o))), (2, .int a2)]) hx hb dX2_dreadAt_31 hl (k := 2) rfl (by rw [eu5]; rfl) (by decide) rfl (fun ls hl => ?_)
      exact J34 _ _ u5 ls X (lv_sub hl [1, 2, 0] rfl)  () h
  have h := hz
  unfold fX2_dreadAt at h
  refine lv_aload_n hx hb dX2_dreadAt_0 rfl (lv_at hl 0 rfl) ?_
  refine gf_X2_21 F X ho dX2_dreadAt_1 ?_
  refine lv_iconst (v := 1) hx hb dX2_dreadAt_4 (by decide) ?_
  refine r_iald F X (ar_X2_3 ho) (by decide : inB 1 4) dX2_dreadAt_5 ?_
  obtain ⟨u6, eu6, h⟩ := nm_x h
  refine topE eu6 ?_
  refine lv_istore_n (lv' := [(3, .int u6), (0, .ref (ad (cO GC o))), (1, .int a1), (2, .int a2)]) hx hb dX2_dreadAt_6 rfl hl (by decide) rfl (fun ls hl => ?_)
  refine lv_aload_n hx hb dX2_dreadAt_7 rfl (lv_at hl 1 rfl) ?_
  refine gf_X2_34 F X ho dX2_dreadAt_8 ?_
  refine lv_iload_n hx hb dX2_dreadAt_11 rfl (lv_at hl 2 rfl) ?_
  refine lv_ishr hx hb dX2_dreadAt_12 ?_
  refine lv_iconst (v := 1) hx hb dX2_dreadAt_13 (by decide) ?_
  refine lv_iand hx hb dX2_dreadAt_14 ?_
  refine lv_if_eq (tgt := 21) hx hb dX2_dreadAt_15 (by decide) (fun c7 => ?_) (fun c7 => ?_)
  · have h := it_p h c7
    exact J21 _ _ u6 ls X (lv_sub hl [1, 3, 0] rfl)  () h
  · have h := it_n h c7
    obtain ⟨u8, eu8, h⟩ := nm_x h
    refine lv_iinc (v := u8) (lv' := [(3, .int u8), (0, .ref (ad (cO GC o))), (1, .int a1), (2, .int a2)]) hx hb dX2_dreadAt_18 hl (k := 0) rfl (by rw [eu8]; rfl) (by decide) rfl (fun ls hl => ?_)
    exact J21 _ _ u8 ls X (lv_sub hl [1, 3, 0] rfl)  () h

/-! ===== X2_mostGain ===== -/
def fX2_mostGain (o : Nat) (M : Mem) (a1 : Int32) : Option Int32 :=
  gd (inB a1 8) <|
  nm (imin (M o 2 (Int32.toNatClampNeg a1)) (imin 9 (M o 3 (Int32.toNatClampNeg 3))) : Int32) fun u1 =>
  gd (inB a1 8) <|
  nm (imin ((M o 1 (Int32.toNatClampNeg a1)) + u1) 9 : Int32) fun u2 =>
  (if u1 ≤ 0 then
    some u2
  else
    some ((2 : Int32) * u2))
set_option maxHeartbeats 4000000 in
set_option maxRecDepth 100000 in
theorem kX2_mostGain (l : Launch) (D : va_G) (ad : Nat → Nat) (cs : Nat → ClassId) (A : Nat → Prop) {o : Nat} (ho : GC[cO GC o]? = some (o, 0, 2, 0)) (M : Mem) (a1 : Int32) (z : Int32) (hz : fX2_mostGain o M a1 = some z) : Met l yX2_mostGain (wsU yX2_mostGain cX2_mostGain 4 (some .int)) (rmo 1 64) (va_Pc [.ref (ad (cO GC o)), .int a1] (Wd0 D ad cs GC A M)) (va_Qi (fun r u => (r, u) = (z, M)) (Wd0 D ad cs GC A) A) 0 0 A := by
  refine ct_i0 (by decide) rfl okGC (Nat.le_of_ble_eq_true rfl) ?_
  intro p e s m args below meth c Q ls F X hl RT
  have hx := F.1
  have hb := F.2.1
  have hl : lv_has ls 4 [(0, .ref (ad (cO GC o))), (1, .int a1)] := hl
  obtain ⟨H, hH⟩ : ∃ H, H = s.heap := ⟨_, rfl⟩
  rw [← hH] at X ⊢
  obtain ⟨locs, hlocs⟩ : ∃ locs : List Loc, locs = [] := ⟨_, rfl⟩
  rw [← hlocs] at X ⊢
  clear hH hlocs
  have h := hz
  unfold fX2_mostGain at h
  refine lv_aload_n hx hb dX2_mostGain_0 rfl (lv_at hl 0 rfl) ?_
  refine gf_X2_18 F X ho dX2_mostGain_1 ?_
  refine lv_iload_n hx hb dX2_mostGain_4 rfl (lv_at hl 1 rfl) ?_
  obtain ⟨hin, h⟩ := gd_x h
  refine r_iald F X (ar_X2_2 ho) hin dX2_mostGain_5 ?_
  refine lv_bipush (v := 9) hx hb dX2_mostGain_6 (by decide) ?_
  refine lv_aload_n hx hb dX2_mostGain_8 rfl (lv_at hl 0 rfl) ?_
  refine gf_X2_21 F X ho dX2_mostGain_9 ?_
  refine lv_iconst (v := 3) hx hb dX2_mostGain_12 (by decide) ?_
  refine r_iald F X (ar_X2_3 ho) (by decide : inB 3 4) dX2_mostGain_13 ?_
  refine r_mmin F hl.1 (mT3 113 rfl rfl) (mT2 189 rfl rfl) (mT1 14 rfl rfl) (mT2 190 rfl rfl) (Nat.le_of_ble_eq_true rfl) (Nat.le_of_ble_eq_true rfl) dX2_mostGain_14 ?_
  refine r_mmin F hl.1 (mT3 113 rfl rfl) (mT2 189 rfl rfl) (mT1 14 rfl rfl) (mT2 190 rfl rfl) (Nat.le_of_ble_eq_true rfl) (Nat.le_of_ble_eq_true rfl) dX2_mostGain_17 ?_
  obtain ⟨u1, eu1, h⟩ := nm_x h
  refine topE eu1 ?_
  refine lv_istore_n (lv' := [(2, .int u1), (0, .ref (ad (cO GC o))), (1, .int a1)]) hx hb dX2_mostGain_20 rfl hl (by decide) rfl (fun ls hl => ?_)
  refine lv_aload_n hx hb dX2_mostGain_21 rfl (lv_at hl 1 rfl) ?_
  refine gf_X2_15 F X ho dX2_mostGain_22 ?_
  refine lv_iload_n hx hb dX2_mostGain_25 rfl (lv_at hl 2 rfl) ?_
  obtain ⟨hin, h⟩ := gd_x h
  refine r_iald F X (ar_X2_1 ho) hin dX2_mostGain_26 ?_
  refine lv_iload_n hx hb dX2_mostGain_27 rfl (lv_at hl 0 rfl) ?_
  refine lv_iadd hx hb dX2_mostGain_28 ?_
  refine lv_bipush (v := 9) hx hb dX2_mostGain_29 (by decide) ?_
  refine r_mmin F hl.1 (mT3 113 rfl rfl) (mT2 189 rfl rfl) (mT1 14 rfl rfl) (mT2 190 rfl rfl) (Nat.le_of_ble_eq_true rfl) (Nat.le_of_ble_eq_true rfl) dX2_mostGain_31 ?_
  obtain ⟨u2, eu2, h⟩ := nm_x h
  refine topE eu2 ?_
  refine lv_istore_n (lv' := [(3, .int u2), (2, .int u1), (0, .ref (ad (cO GC o))), (1, .int a1)]) hx hb dX2_mostGain_34 rfl hl (by decide) rfl (fun ls hl => ?_)
  refine lv_iload_n hx hb dX2_mostGain_35 rfl (lv_at hl 1 rfl) ?_
  refine lv_if_le (tgt := 45) hx hb dX2_mostGain_36 (by decide) (fun c3 => ?_) (fun c3 => ?_)
  · have h := it_p h c3
    refine lv_iload_n hx hb dX2_mostGain_45 rfl (lv_at hl 0 rfl) ?_
    have h := sm_x h
    exact RT H locs _ 46 ls X h dX2_mostGain_46
  · have h := it_n h c3
    refine lv_iconst (v := 2) hx hb dX2_mostGain_39 (by decide) ?_
    refine lv_iload_n hx hb dX2_mostGain_40 rfl (lv_at hl 0 rfl) ?_
    refine lv_imul hx hb dX2_mostGain_41 ?_
    refine lv_goto (tgt := 46) hx hb dX2_mostGain_42 (by decide) ?_
    have h := sm_x h
    exact RT H locs _ 46 ls X h dX2_mostGain_46

/-! ===== X3_isFull ===== -/
def fX3_isFull (o : Nat) (M : Mem) : Option Int32 :=
  if (M o 1 0) < (nI (if o = 1 then 31 else 20)) then
    some 0
  else
    some 1
set_option maxHeartbeats 4000000 in
set_option maxRecDepth 100000 in
theorem kX3_isFull (l : Launch) (D : va_G) (ad : Nat → Nat) (cs : Nat → ClassId) (A : Nat → Prop) {o : Nat} (ho : GC[cO GC o]? = some (o, 0, 3, 0)) (M : Mem)  (z : Int32) (hz : fX3_isFull o M = some z) : Met l yX3_isFull (wsU yX3_isFull cX3_isFull 1 (some .boolean)) (rmo 1 64) (va_Pc [.ref (ad (cO GC o))] (Wd0 D ad cs GC A M)) (va_Qi (fun r u => (r, u) = (z, M)) (Wd0 D ad cs GC A) A) 0 0 A := by
  refine ct_z0 (by decide) rfl okGC (Nat.le_of_ble_eq_true rfl) ?_
  intro p e s m args below meth c Q ls F X hl RT
  have hx := F.1
  have hb := F.2.1
  have hl : lv_has ls 1 [(0, .ref (ad (cO GC o)))] := hl
  obtain ⟨H, hH⟩ : ∃ H, H = s.heap := ⟨_, rfl⟩
  rw [← hH] at X ⊢
  obtain ⟨locs, hlocs⟩ : ∃ locs : List Loc, locs = [] := ⟨_, rfl⟩
  rw [← hlocs] at X ⊢
  clear hH hlocs
  have h := hz
  unfold fX3_isFull at h
  refine lv_aload_n hx hb dX3_isFull_0 rfl (lv_at hl 0 rfl) ?_
  refine gf_X3_9 F X ho dX3_isFull_1 ?_
  refine lv_aload_n hx hb dX3_isFull_4 rfl (lv_at hl 0 rfl) ?_
  refine gf_X3_15 F X ho dX3_isFull_5 ?_
  refine r_alen F X (ar_X3_0 ho) dX3_isFull_8 ?_
  refine lv_icmp_lt (tgt := 16) hx hb dX3_isFull_9 (by decide) (fun c1 => ?_) (fun c1 => ?_)
  · have h := it_p h c1
    refine lv_iconst (v := 0) hx hb dX3_isFull_16 (by decide) ?_
    have h := sm_x h
    exact RT H locs _ 17 ls X h (by decide) dX3_isFull_17
  · have h := it_n h c1
    refine lv_iconst (v := 1) hx hb dX3_isFull_12 (by decide) ?_
    refine lv_goto (tgt := 17) hx hb dX3_isFull_13 (by decide) ?_
    have h := sm_x h
    exact RT H locs _ 17 ls X h (by decide) dX3_isFull_17

/-! ===== X3_append ===== -/
def fX3_append (o : Nat) (M : Mem) (a1 : Int32) : Option Mem :=
  (fX3_isFull o M).bind fun r1 =>
  (if r1 = 0 then
    gd (inB (M o 1 0) (if o = 1 then 31 else 20)) <|
    nm (wr M o 0 (Int32.toNatClampNeg (M o 1 0)) a1) fun M3 =>
    nm (wr M3 o 1 0 ((M3 o 1 0) + (1 : Int32))) fun M4 =>
    some M4
  else
    some M)
set_option maxHeartbeats 4000000 in
set_option maxRecDepth 100000 in
theorem kX3_append (l : Launch) (D : va_G) (ad : Nat → Nat) (cs : Nat → ClassId) (A : Nat → Prop) {o : Nat} (ho : GC[cO GC o]? = some (o, 0, 3, 0)) (M : Mem) (a1 : Int32) (z : Mem) (hz : fX3_append o M a1 = some z) : Met l yX3_append (wsU yX3_append cX3_append 2 none) (rmo 2 84) (va_Pc [.ref (ad (cO GC o)), .int a1] (Wd0 D ad cs GC A M)) (va_Qv (fun u => u = z) (Wd0 D ad cs GC A) A) 0 0 A := by
  refine ct_v (by decide) rfl okGC (Nat.le_of_ble_eq_true rfl) ?_
  intro p e s m args below meth c Q ls F X hl RT
  have hx := F.1
  have hb := F.2.1
  have hl : lv_has ls 2 [(0, .ref (ad (cO GC o))), (1, .int a1)] := hl
  obtain ⟨H, hH⟩ : ∃ H, H = s.heap := ⟨_, rfl⟩
  rw [← hH] at X ⊢
  obtain ⟨locs, hlocs⟩ : ∃ locs : List Loc, locs = [] := ⟨_, rfl⟩
  rw [← hlocs] at X ⊢
  clear hH hlocs
  have h := hz
  unfold fX3_append at h
  refine lv_aload_n hx hb dX3_append_0 rfl (lv_at hl 0 rfl) ?_
  obtain ⟨r1, hr1, h⟩ := bd_x h
  refine r_calli0 X (r_runV F X (kX3_isFull l D ad cs A ho M  _ hr1) gm_X3_19 hd_X3_isFull ⟨Nat.le_of_ble_eq_true rfl, Nat.le_of_ble_eq_true rfl⟩ ho rfl rfl hl.1 rfl (Nat.le_of_ble_eq_true rfl) dX3_append_1) (fun H locs X => ?_)
  refine lv_if_ne (tgt := 27) hx hb dX3_append_4 (by decide) (fun c2 => ?_) (fun c2 => ?_)
  · have h := it_n h c2
    have h := sm_x h
    exact RT H locs _ 27 ls X h dX3_append_27
  · have h := it_p h c2
    refine lv_aload_n hx hb dX3_append_7 rfl (lv_at hl 0 rfl) ?_
    refine gf_X3_15 F X ho dX3_append_8 ?_
    refine lv_aload_n hx hb dX3_append_11 rfl (lv_at hl 0 rfl) ?_
    refine gf_X3_9 F X ho dX3_append_12 ?_
    refine lv_iload_n hx hb dX3_append_15 rfl (lv_at hl 1 rfl) ?_
    obtain ⟨hin, h⟩ := gd_x h
    obtain ⟨M3, eM3, h⟩ := nm_x h
    refine r_iast F X (ar_X3_0 ho) hin dX3_append_16 (fun H locs X => ?_)
    have X := Wd_eq eM3 X
    refine lv_aload_n hx hb dX3_append_17 rfl (lv_at hl 0 rfl) ?_
    refine lv_dup hx hb dX3_append_18 rfl ?_
    refine gf_X3_9 F X ho dX3_append_19 ?_
    refine lv_iconst (v := 1) hx hb dX3_append_22 (by decide) ?_
    refine lv_iadd hx hb dX3_append_23 ?_
    obtain ⟨M4, eM4, h⟩ := nm_x h
    refine pf_X3_9 F X ho dX3_append_24 (fun H locs X => ?_)
    have X := Wd_eq eM4 X
    have h := sm_x h
    exact RT H locs _ 27 ls X h dX3_append_27

/-! ===== J7_fill_53178 ===== -/
def fJ7_fill_53178_5 (o0 f0 n0 : Nat) (a1 : Int32) (x2 : Int32) (x3 : Int32) (M : Mem) : Option ((Int32 × Int32 × Mem) ⊕ Mem) :=
  if x3 ≤ x2 then
    some (.inr M)
  else
    gd (inB x2 n0) <|
    nm (wr M o0 f0 (Int32.toNatClampNeg x2) a1) fun M2 =>
    nm (x2 + 1 : Int32) fun u3 =>
    some (.inl (u3, x3, M2))
def fJ7_fill_53178 (o0 f0 n0 : Nat) (M : Mem) (a1 : Int32) : Option Mem :=
  nm (0 : Int32) fun u4 =>
  nm (nI n0 : Int32) fun u5 =>
  lpO (fun st => fJ7_fill_53178_5 o0 f0 n0 a1 st.1 st.2.1 st.2.2) FU (u4, u5, M)
set_option maxHeartbeats 4000000 in
set_option maxRecDepth 100000 in
theorem kJ7_fill_53178 (l : Launch) (D : va_G) (ad : Nat → Nat) (cs : Nat → ClassId) (A : Nat → Prop) {k0 o0 f0 n0 : Nat} (h0 : GC[k0]? = some (o0, 1, f0, n0)) (M : Mem) (a1 : Int32) (z : Mem) (hz : fJ7_fill_53178 o0 f0 n0 M a1 = some z) : Met l yJ7_fill_53178 (wsU yJ7_fill_53178 cJ7_fill_53178 4 none) (rmo 1 64) (va_Pc [.ref (ad (k0)), .int a1] (Wd0 D ad cs GC A M)) (va_Qv (fun u => u = z) (Wd0 D ad cs GC A) A) 0 0 A := by
  refine ct_v (by decide) rfl okGC (Nat.le_of_ble_eq_true rfl) ?_
  intro p e s m args below meth c Q ls F X hl RT
  have hx := F.1
  have hb := F.2.1
  have hl : lv_has ls 4 [(0, .ref (ad (k0))), (1, .int a1)] := hl
  obtain ⟨H, hH⟩ : ∃ H, H = s.heap := ⟨_, rfl⟩
  rw [← hH] at X ⊢
  obtain ⟨locs, hlocs⟩ : ∃ locs : List Loc, locs = [] := ⟨_, rfl⟩
  rw [← hlocs] at X ⊢
  clear hH hlocs
  have L5 : ∀ (n : Nat) (H : Heap) (locs : List Loc) (x2 : Int32) (x3 : Int32) (M : Mem) (ls : Array Slot), Wd D ad cs GC A s H locs M → lv_has ls 4 [(0, .ref (ad (k0))), (1, .int a1), (2, .int x2), (3, .int x3)] → ∀ (_ : Unit), lpO (fun st => fJ7_fill_53178_5 o0 f0 n0 a1 st.1 st.2.1 st.2.2) n (x2, x3, M) = some z → W p l e (rmo 1 64) s m args below meth c H locs 0 0 Q (F0 m 5 ls []) := by
    intro n
    induction n with
    | zero =>
      intro H locs x2 x3 M ls X hl  yy h
      exact lp_0 h
    | succ n1 ih5 =>
      intro H locs x2 x3 M ls X hl  _u h
      obtain ⟨y1, h, hk1⟩ := lp_x h
      unfold fJ7_fill_53178_5 at h
      refine lv_iload_n hx hb dJ7_fill_53178_5 rfl (lv_at hl 2 rfl) ?_
      refine lv_iload_n hx hb dJ7_fill_53178_6 rfl (lv_at hl 3 rfl) ?_
      refine lv_icmp_ge (tgt := 20) hx hb dJ7_fill_53178_7 (by decide) (fun c1 => ?_) (fun c1 => ?_)
      · have h := it_p h c1
        have h := sm_x h
        rw [← h] at hk1
        have h := sm_x hk1
        exact RT H locs _ 20 ls X h dJ7_fill_53178_20
      · have h := it_n h c1
        refine lv_aload_n hx hb dJ7_fill_53178_10 rfl (lv_at hl 0 rfl) ?_
        refine lv_iload_n hx hb dJ7_fill_53178_11 rfl (lv_at hl 2 rfl) ?_
        refine lv_iload_n hx hb dJ7_fill_53178_12 rfl (lv_at hl 1 rfl) ?_
        obtain ⟨hin, h⟩ := gd_x h
        obtain ⟨M2, eM2, h⟩ := nm_x h
        refine r_iast F X h0 hin dJ7_fill_53178_13 (fun H locs X => ?_)
        have X := Wd_eq eM2 X
        obtain ⟨u3, eu3, h⟩ := nm_x h
        refine lv_iinc (v := u3) (lv' := [(2, .int u3), (0, .ref (ad (k0))), (1, .int a1), (3, .int x3)]) hx hb dJ7_fill_53178_14 hl (k := 2) rfl (by rw [eu3]; rfl) (by decide) rfl (fun ls hl => ?_)
        refine lv_goto (tgt := 5) hx hb dJ7_fill_53178_17 (by decide) ?_
        rw [← sm_x h] at hk1
        exact ih5 _ _ u3 x3 M2 ls X (lv_sub hl [1, 2, 0, 3] rfl)  () hk1
  have h := hz
  unfold fJ7_fill_53178 at h
  refine lv_iconst (v := 0) hx hb dJ7_fill_53178_0 (by decide) ?_
  obtain ⟨u4, eu4, h⟩ := nm_x h
  refine topE eu4 ?_
  refine lv_istore_n (lv' := [(2, .int u4), (0, .ref (ad (k0))), (1, .int a1)]) hx hb dJ7_fill_53178_1 rfl hl (by decide) rfl (fun ls hl => ?_)
  refine lv_aload_n hx hb dJ7_fill_53178_2 rfl (lv_at hl 1 rfl) ?_
  refine r_alen F X h0 dJ7_fill_53178_3 ?_
  obtain ⟨u5, eu5, h⟩ := nm_x h
  refine topE eu5 ?_
  refine lv_istore_n (lv' := [(3, .int u5), (2, .int u4), (0, .ref (ad (k0))), (1, .int a1)]) hx hb dJ7_fill_53178_4 rfl hl (by decide) rfl (fun ls hl => ?_)
  exact L5 FU _ _ u4 u5 M ls X (lv_sub hl [2, 3, 1, 0] rfl)  () h

/-! ===== X4_renew ===== -/
def fX4_renew (o : Nat) (M : Mem) (a1 : Int32) (a2 : Int32) : Option Mem :=
  nm (wr M o 1 0 0) fun M1 =>
  nm (wr M1 o 2 0 a1) fun M2 =>
  nm (wr M2 o 3 0 a2) fun M3 =>
  (fJ7_fill_53178 o 0 60 M3 0).bind fun r4 =>
  some r4
set_option maxHeartbeats 4000000 in
set_option maxRecDepth 100000 in
theorem kX4_renew (l : Launch) (D : va_G) (ad : Nat → Nat) (cs : Nat → ClassId) (A : Nat → Prop) {o : Nat} (ho : GC[cO GC o]? = some (o, 0, 4, 0)) (M : Mem) (a1 : Int32) (a2 : Int32) (z : Mem) (hz : fX4_renew o M a1 a2 = some z) : Met l yX4_renew (wsU yX4_renew cX4_renew 3 none) (rmo 2 87) (va_Pc [.ref (ad (cO GC o)), .int a1, .int a2] (Wd0 D ad cs GC A M)) (va_Qv (fun u => u = z) (Wd0 D ad cs GC A) A) 0 0 A := by
  refine ct_v (by decide) rfl okGC (Nat.le_of_ble_eq_true rfl) ?_
  intro p e s m args below meth c Q ls F X hl RT
  have hx := F.1
  have hb := F.2.1
  have hl : lv_has ls 3 [(0, .ref (ad (cO GC o))), (1, .int a1), (2, .int a2)] := hl
  obtain ⟨H, hH⟩ : ∃ H, H = s.heap := ⟨_, rfl⟩
  rw [← hH] at X ⊢
  obtain ⟨locs, hlocs⟩ : ∃ locs : List Loc, locs = [] := ⟨_, rfl⟩
  rw [← hlocs] at X ⊢
  clear hH hlocs
  have h := hz
  unfold fX4_renew at h
  refine lv_aload_n hx hb dX4_renew_0 rfl (lv_at hl 0 rfl) ?_
  refine lv_iconst (v := 0) hx hb dX4_renew_1 (by decide) ?_
  obtain ⟨M1, eM1, h⟩ := nm_x h
  refine pf_X4_15 F X ho (by decide) dX4_renew_2 (fun H locs X => ?_)
  have X := Wd_eq eM1 X
  refine lv_aload_n hx hb dX4_renew_5 rfl (lv_at hl 0 rfl) ?_
  refine lv_iload_n hx hb dX4_renew_6 rfl (lv_at hl 1 rfl) ?_
  obtain ⟨M2, eM2, h⟩ := nm_x h
  refine pf_X4_19 F X ho dX4_renew_7 (fun H locs X => ?_)
  have X := Wd_eq eM2 X
  refine lv_aload_n hx hb dX4_renew_10 rfl (lv_at hl 0 rfl) ?_
  refine lv_iload_n hx hb dX4_renew_11 rfl (lv_at hl 2 rfl) ?_
  obtain ⟨M3, eM3, h⟩ := nm_x h
  refine pf_X4_23 F X ho dX4_renew_12 (fun H locs X => ?_)
  have X := Wd_eq eM3 X
  refine lv_aload_n hx hb dX4_renew_15 rfl (lv_at hl 0 rfl) ?_
  refine gf_X4_9 F X ho dX4_renew_16 ?_
  refine lv_iconst (v := 0) hx hb dX4_renew_19 (by decide) ?_
  obtain ⟨r4, hr4, h⟩ := bd_x h
  refine r_callv X (r_runS F X (kJ7_fill_53178 l D ad cs A (ar_X4_0 ho) M3 0 _ hr4) gm_X4_26 hd_J7_fill_53178 ⟨Nat.le_of_ble_eq_true rfl, Nat.le_of_ble_eq_true rfl⟩ rfl hl.1 rfl (Nat.le_of_ble_eq_true rfl) dX4_renew_20) (fun H locs X => ?_)
  have h := sm_x h
  exact RT H locs _ 23 ls X h dX4_renew_23

/-! ===== X4_faultOf ===== -/
def fX4_faultOf (o : Nat) (M : Mem) (a1 : Int32) (a2 : Int32) : Option Int32 :=
  if (M o 1 0) = 0 then
    if (M o 2 0) = a1 then
      if a2 < 0 then
        some 2
      else
        if a2 < (M o 3 0) then
          some 0
        else
          some 2
    else
      some 3
  else
    some 1
set_option maxHeartbeats 4000000 in
set_option maxRecDepth 100000 in
theorem kX4_faultOf (l : Launch) (D : va_G) (ad : Nat → Nat) (cs : Nat → ClassId) (A : Nat → Prop) {o : Nat} (ho : GC[cO GC o]? = some (o, 0, 4, 0)) (M : Mem) (a1 : Int32) (a2 : Int32) (z : Int32) (hz : fX4_faultOf o M a1 a2 = some z) : Met l yX4_faultOf (wsU yX4_faultOf cX4_faultOf 3 (some .int)) (rmo 1 64) (va_Pc [.ref (ad (cO GC o)), .int a1, .int a2] (Wd0 D ad cs GC A M)) (va_Qi (fun r u => (r, u) = (z, M)) (Wd0 D ad cs GC A) A) 0 0 A := by
  refine ct_i0 (by decide) rfl okGC (Nat.le_of_ble_eq_true rfl) ?_
  intro p e s m args below meth c Q ls F X hl RT
  have hx := F.1
  have hb := F.2.1
  have hl : lv_has ls 3 [(0, .ref (ad (cO GC o))), (1, .int a1), (2, .int a2)] := hl
  obtain ⟨H, hH⟩ : ∃ H, H = s.heap := ⟨_, rfl⟩
  rw [← hH] at X ⊢
  obtain ⟨locs, hlocs⟩ : ∃ locs : List Loc, locs = [] := ⟨_, rfl⟩
  rw [← hlocs] at X ⊢
  clear hH hlocs
  have h := hz
  unfold fX4_faultOf at h
  refine lv_aload_n hx hb dX4_faultOf_0 rfl (lv_at hl 0 rfl) ?_
  refine gf_X4_15 F X ho dX4_faultOf_1 ?_
  refine lv_if_eq (tgt := 9) hx hb dX4_faultOf_4 (by decide) (fun c1 => ?_) (fun c1 => ?_)
  · have h := it_p h c1
    refine lv_aload_n hx hb dX4_faultOf_9 rfl (lv_at hl 0 rfl) ?_
    refine gf_X4_19 F X ho dX4_faultOf_10 ?_
    refine lv_iload_n hx hb dX4_faultOf_13 rfl (lv_at hl 1 rfl) ?_
    refine lv_icmp_eq (tgt := 19) hx hb dX4_faultOf_14 (by decide) (fun c2 => ?_) (fun c2 => ?_)
    · have h := it_p h c2
      refine lv_iload_n hx hb dX4_faultOf_19 rfl (lv_at hl 2 rfl) ?_
      refine lv_if_lt (tgt := 31) hx hb dX4_faultOf_20 (by decide) (fun c3 => ?_) (fun c3 => ?_)
      · have h := it_p h c3
        refine lv_iconst (v := 2) hx hb dX4_faultOf_31 (by decide) ?_
        refine lv_goto (tgt := 36) hx hb dX4_faultOf_32 (by decide) ?_
        have h := sm_x h
        exact RT H locs _ 36 ls X h dX4_faultOf_36
      · have h := it_n h c3
        refine lv_iload_n hx hb dX4_faultOf_23 rfl (lv_at hl 2 rfl) ?_
        refine lv_aload_n hx hb dX4_faultOf_24 rfl (lv_at hl 0 rfl) ?_
        refine gf_X4_23 F X ho dX4_faultOf_25 ?_
        refine lv_icmp_lt (tgt := 35) hx hb dX4_faultOf_28 (by decide) (fun c4 => ?_) (fun c4 => ?_)
        · have h := it_p h c4
          refine lv_iconst (v := 0) hx hb dX4_faultOf_35 (by decide) ?_
          have h := sm_x h
          exact RT H locs _ 36 ls X h dX4_faultOf_36
        · have h := it_n h c4
          refine lv_iconst (v := 2) hx hb dX4_faultOf_31 (by decide) ?_
          refine lv_goto (tgt := 36) hx hb dX4_faultOf_32 (by decide) ?_
          have h := sm_x h
          exact RT H locs _ 36 ls X h dX4_faultOf_36
    · have h := it_n h c2
      refine lv_iconst (v := 3) hx hb dX4_faultOf_17 (by decide) ?_
      have h := sm_x h
      exact RT H locs _ 18 ls X h dX4_faultOf_18
  · have h := it_n h c1
    refine lv_iconst (v := 1) hx hb dX4_faultOf_7 (by decide) ?_
    have h := sm_x h
    exact RT H locs _ 8 ls X h dX4_faultOf_8

/-! ===== X4_hasRange ===== -/
def fX4_hasRange (o : Nat) (M : Mem) (a1 : Int32) (a2 : Int32) : Option Int32 :=
  if a1 < 0 then
    some 0
  else
    if a2 < 0 then
      some 0
    else
      if (M o 3 0) < a2 then
        some 0
      else
        if ((M o 3 0) - a2) < a1 then
          some 0
        else
          some 1
set_option maxHeartbeats 4000000 in
set_option maxRecDepth 100000 in
theorem kX4_hasRange (l : Launch) (D : va_G) (ad : Nat → Nat) (cs : Nat → ClassId) (A : Nat → Prop) {o : Nat} (ho : GC[cO GC o]? = some (o, 0, 4, 0)) (M : Mem) (a1 : Int32) (a2 : Int32) (z : Int32) (hz : fX4_hasRange o M a1 a2 = some z) : Met l yX4_hasRange (wsU yX4_hasRange cX4_hasRange 3 (some .boolean)) (rmo 1 64) (va_Pc [.ref (ad (cO GC o)), .int a1, .int a2] (Wd0 D ad cs GC A M)) (va_Qi (fun r u => (r, u) = (z, M)) (Wd0 D ad cs GC A) A) 0 0 A := by
  refine ct_z0 (by decide) rfl okGC (Nat.le_of_ble_eq_true rfl) ?_
  intro p e s m args below meth c Q ls F X hl RT
  have hx := F.1
  have hb := F.2.1
  have hl : lv_has ls 3 [(0, .ref (ad (cO GC o))), (1, .int a1), (2, .int a2)] := hl
  obtain ⟨H, hH⟩ : ∃ H, H = s.heap := ⟨_, rfl⟩
  rw [← hH] at X ⊢
  obtain ⟨locs, hlocs⟩ : ∃ locs : List Loc, locs = [] := ⟨_, rfl⟩
  rw [← hlocs] at X ⊢
  clear hH hlocs
  have h := hz
  unfold fX4_hasRange at h
  refine lv_iload_n hx hb dX4_hasRange_0 rfl (lv_at hl 1 rfl) ?_
  refine lv_if_lt (tgt := 30) hx hb dX4_hasRange_1 (by decide) (fun c1 => ?_) (fun c1 => ?_)
  · have h := it_p h c1
    refine lv_iconst (v := 0) hx hb dX4_hasRange_30 (by decide) ?_
    have h := sm_x h
    exact RT H locs _ 31 ls X h (by decide) dX4_hasRange_31
  · have h := it_n h c1
    refine lv_iload_n hx hb dX4_hasRange_4 rfl (lv_at hl 2 rfl) ?_
    refine lv_if_lt (tgt := 30) hx hb dX4_hasRange_5 (by decide) (fun c2 => ?_) (fun c2 => ?_)
    · have h := it_p h c2
      refine lv_iconst (v := 0) hx hb dX4_hasRange_30 (by decide) ?_
      have h := sm_x h
      exact RT H locs _ 31 ls X h (by decide) dX4_hasRange_31
    · have h := it_n h c2
      refine lv_iload_n hx hb dX4_hasRange_8 rfl (lv_at hl 2 rfl) ?_
      refine lv_aload_n hx hb dX4_hasRange_9 rfl (lv_at hl 0 rfl) ?_
      refine gf_X4_23 F X ho dX4_hasRange_10 ?_
      refine lv_icmp_gt (tgt := 30) hx hb dX4_hasRange_13 (by decide) (fun c3 => ?_) (fun c3 => ?_)
      · have h := it_p h c3
        refine lv_iconst (v := 0) hx hb dX4_hasRange_30 (by decide) ?_
        have h := sm_x h
        exact RT H locs _ 31 ls X h (by decide) dX4_hasRange_31
      · have h := it_n h c3
        refine lv_iload_n hx hb dX4_hasRange_16 rfl (lv_at hl 1 rfl) ?_
        refine lv_aload_n hx hb dX4_hasRange_17 rfl (lv_at hl 0 rfl) ?_
        refine gf_X4_23 F X ho dX4_hasRange_18 ?_
        refine lv_iload_n hx hb dX4_hasRange_21 rfl (lv_at hl 2 rfl) ?_
        refine lv_isub hx hb dX4_hasRange_22 ?_
        refine lv_icmp_gt (tgt := 30) hx hb dX4_hasRange_23 (by decide) (fun c4 => ?_) (fun c4 => ?_)
        · have h := it_p h c4
          refine lv_iconst (v := 0) hx hb dX4_hasRange_30 (by decide) ?_
          have h := sm_x h
          exact RT H locs _ 31 ls X h (by decide) dX4_hasRange_31
        · have h := it_n h c4
          refine lv_iconst (v := 1) hx hb dX4_hasRange_26 (by decide) ?_
          refine lv_goto (tgt := 31) hx hb dX4_hasRange_27 (by decide) ?_
          have h := sm_x h
          exact RT H locs _ 31 ls X h (by decide) dX4_hasRange_31

/-! ===== X4_store ===== -/
def fX4_store (o : Nat) (M : Mem) (a1 : Int32) (a2 : Int32) : Option Mem :=
  if (M o 2 0) = 0 then
    gd (inB a1 60) <|
    nm (wr M o 0 (Int32.toNatClampNeg a1) ((Int32.toInt8 a2).toInt32)) fun M3 =>
    some M3
  else if (M o 2 0) = 1 then
    gd (inB a1 60) <|
    nm (wr M o 0 (Int32.toNatClampNeg a1) ((Int32.toInt16 a2).toInt32)) fun M4 =>
    some M4
  else
    gd (inB a1 60) <|
    nm (wr M o 0 (Int32.toNatClampNeg a1) a2) fun M5 =>
    some M5
set_option maxHeartbeats 4000000 in
set_option maxRecDepth 100000 in
theorem kX4_store (l : Launch) (D : va_G) (ad : Nat → Nat) (cs : Nat → ClassId) (A : Nat → Prop) {o : Nat} (ho : GC[cO GC o]? = some (o, 0, 4, 0)) (M : Mem) (a1 : Int32) (a2 : Int32) (z : Mem) (hz : fX4_store o M a1 a2 = some z) : Met l yX4_store (wsU yX4_store cX4_store 3 none) (rmo 1 64) (va_Pc [.ref (ad (cO GC o)), .int a1, .int a2] (Wd0 D ad cs GC A M)) (va_Qv (fun u => u = z) (Wd0 D ad cs GC A) A) 0 0 A := by
  refine ct_v (by decide) rfl okGC (Nat.le_of_ble_eq_true rfl) ?_
  intro p e s m args below meth c Q ls F X hl RT
  have hx := F.1
  have hb := F.2.1
  have hl : lv_has ls 3 [(0, .ref (ad (cO GC o))), (1, .int a1), (2, .int a2)] := hl
  obtain ⟨H, hH⟩ : ∃ H, H = s.heap := ⟨_, rfl⟩
  rw [← hH] at X ⊢
  obtain ⟨locs, hlocs⟩ : ∃ locs : List Loc, locs = [] := ⟨_, rfl⟩
  rw [← hlocs] at X ⊢
  clear hH hlocs
  have h := hz
  unfold fX4_store at h
  refine lv_aload_n hx hb dX4_store_0 rfl (lv_at hl 0 rfl) ?_
  refine gf_X4_19 F X ho dX4_store_1 ?_
  refine r_lk2 0 1 (t1 := 32) (t2 := 43) (t3 := 54) hx hb dX4_store_4 (by decide) (by decide) (by decide) (by decide) (by decide) (by decide) (fun c1 => ?_) (fun c1 c2 => ?_) (fun c1 c2 => ?_)
  · have h := it_p h c1
    refine lv_aload_n hx hb dX4_store_32 rfl (lv_at hl 0 rfl) ?_
    refine gf_X4_9 F X ho dX4_store_33 ?_
    refine lv_iload_n hx hb dX4_store_36 rfl (lv_at hl 1 rfl) ?_
    refine lv_iload_n hx hb dX4_store_37 rfl (lv_at hl 2 rfl) ?_
    refine lv_i2b (v := (Int32.toInt8 a2).toInt32) hx hb dX4_store_38 rfl ?_
    obtain ⟨hin, h⟩ := gd_x h
    obtain ⟨M3, eM3, h⟩ := nm_x h
    refine r_iast F X (ar_X4_0 ho) hin dX4_store_39 (fun H locs X => ?_)
    have X := Wd_eq eM3 X
    refine lv_goto (tgt := 61) hx hb dX4_store_40 (by decide) ?_
    have h := sm_x h
    exact RT H locs _ 61 ls X h dX4_store_61
  · have h := it_p (it_n h c1) c2
    refine lv_aload_n hx hb dX4_store_43 rfl (lv_at hl 0 rfl) ?_
    refine gf_X4_9 F X ho dX4_store_44 ?_
    refine lv_iload_n hx hb dX4_store_47 rfl (lv_at hl 1 rfl) ?_
    refine lv_iload_n hx hb dX4_store_48 rfl (lv_at hl 2 rfl) ?_
    refine lv_i2s (v := (Int32.toInt16 a2).toInt32) hx hb dX4_store_49 rfl ?_
    obtain ⟨hin, h⟩ := gd_x h
    obtain ⟨M4, eM4, h⟩ := nm_x h
    refine r_iast F X (ar_X4_0 ho) hin dX4_store_50 (fun H locs X => ?_)
    have X := Wd_eq eM4 X
    refine lv_goto (tgt := 61) hx hb dX4_store_51 (by decide) ?_
    have h := sm_x h
    exact RT H locs _ 61 ls X h dX4_store_61
  · have h := it_n (it_n h c1) c2
    refine lv_aload_n hx hb dX4_store_54 rfl (lv_at hl 0 rfl) ?_
    refine gf_X4_9 F X ho dX4_store_55 ?_
    refine lv_iload_n hx hb dX4_store_58 rfl (lv_at hl 1 rfl) ?_
    refine lv_iload_n hx hb dX4_store_59 rfl (lv_at hl 2 rfl) ?_
    obtain ⟨hin, h⟩ := gd_x h
    obtain ⟨M5, eM5, h⟩ := nm_x h
    refine r_iast F X (ar_X4_0 ho) hin dX4_store_60 (fun H locs X => ?_)
    have X := Wd_eq eM5 X
    have h := sm_x h
    exact RT H locs _ 61 ls X h dX4_store_61

/-! ===== X7_begin ===== -/
def fX7_begin (o : Nat) (o1 : Nat) (M : Mem) : Option Mem :=
  (fJ7_fill_53178 o 0 8 M 0).bind fun r1 =>
  (fJ7_fill_53178 o 1 8 r1 0).bind fun r2 =>
  nm (cpM r2 o1 2 o 2 (Int32.toNatClampNeg 0) (Int32.toNatClampNeg 0) (Int32.toNatClampNeg 8)) fun M3 =>
  nm (wr M3 o 3 0 (M3 o1 5 0)) fun M4 =>
  nm (wr M4 o 4 0 0) fun M5 =>
  nm (wr M5 o 5 0 (M5 o1 3 (Int32.toNatClampNeg 0))) fun M6 =>
  nm (wr M6 o 6 0 0) fun M7 =>
  nm (wr M7 o 7 0 0) fun M8 =>
  some M8
set_option maxHeartbeats 4000000 in
set_option maxRecDepth 100000 in
theorem kX7_begin (l : Launch) (D : va_G) (ad : Nat → Nat) (cs : Nat → ClassId) (A : Nat → Prop) {o : Nat} (ho : GC[cO GC o]? = some (o, 0, 7, 0)) {o1 : Nat} (ho1 : GC[cO GC o1]? = some (o1, 0, 2, 0)) (M : Mem)  (z : Mem) (hz : fX7_begin o o1 M = some z) : Met l yX7_begin (wsU yX7_begin cX7_begin 2 none) (rmo 2 87) (va_Pc [.ref (ad (cO GC o)), .ref (ad (cO GC o1))] (Wd0 D ad cs GC A M)) (va_Qv (fun u => u = z) (Wd0 D ad cs GC A) A) 0 0 A := by
  refine ct_v (by decide) rfl okGC (Nat.le_of_ble_eq_true rfl) ?_
  intro p e s m args below meth c Q ls F X hl RT
  have hx := F.1
  have hb := F.2.1
  have hl : lv_has ls 2 [(0, .ref (ad (cO GC o))), (1, .ref (ad (cO GC o1)))] := hl
  obtain ⟨H, hH⟩ : ∃ H, H = s.heap := ⟨_, rfl⟩
  rw [← hH] at X ⊢
  obtain ⟨locs, hlocs⟩ : ∃ locs : List Loc, locs = [] := ⟨_, rfl⟩
  rw [← hlocs] at X ⊢
  clear hH hlocs
  have h := hz
  unfold fX7_begin at h
  refine lv_aload_n hx hb dX7_begin_0 rfl (lv_at hl 0 rfl) ?_
  refine gf_X7_9 F X ho dX7_begin_1 ?_
  refine lv_iconst (v := 0) hx hb dX7_begin_4 (by decide) ?_
  obtain ⟨r1, hr1, h⟩ := bd_x h
  refine r_callv X (r_runS F X (kJ7_fill_53178 l D ad cs A (ar_X7_0 ho) M 0 _ hr1) gm_X7_49 hd_J7_fill_53178 ⟨Nat.le_of_ble_eq_true rfl, Nat.le_of_ble_eq_true rfl⟩ rfl hl.1 rfl (Nat.le_of_ble_eq_true rfl) dX7_begin_5) (fun H locs X => ?_)
  refine lv_aload_n hx hb dX7_begin_8 rfl (lv_at hl 0 rfl) ?_
  refine gf_X7_15 F X ho dX7_begin_9 ?_
  refine lv_iconst (v := 0) hx hb dX7_begin_12 (by decide) ?_
  obtain ⟨r2, hr2, h⟩ := bd_x h
  refine r_callv X (r_runS F X (kJ7_fill_53178 l D ad cs A (ar_X7_1 ho) r1 0 _ hr2) gm_X7_49 hd_J7_fill_53178 ⟨Nat.le_of_ble_eq_true rfl, Nat.le_of_ble_eq_true rfl⟩ rfl hl.1 rfl (Nat.le_of_ble_eq_true rfl) dX7_begin_13) (fun H locs X => ?_)
  refine lv_aload_n hx hb dX7_begin_16 rfl (lv_at hl 1 rfl) ?_
  refine gf_X7_55 F X ho1 dX7_begin_17 ?_
  refine lv_iconst (v := 0) hx hb dX7_begin_20 (by decide) ?_
  refine lv_aload_n hx hb dX7_begin_21 rfl (lv_at hl 0 rfl) ?_
  refine gf_X7_18 F X ho dX7_begin_22 ?_
  refine lv_iconst (v := 0) hx hb dX7_begin_25 (by decide) ?_
  refine lv_bipush (v := 8) hx hb dX7_begin_26 (by decide) ?_
  obtain ⟨M3, eM3, h⟩ := nm_x h
  refine r_copy F X hl.1 (ar_X2_2 ho1) (ar_X7_2 ho) (mT2 170 rfl rfl) (mT2 62 rfl rfl) (mT2 61 rfl rfl) (mT1 11 rfl rfl) (by decide) (Nat.le_of_ble_eq_true rfl) (Nat.le_of_ble_eq_true rfl) dX7_begin_28 (fun H locs X => ?_)
  have X := Wd_eq eM3 X
  refine lv_aload_n hx hb dX7_begin_31 rfl (lv_at hl 0 rfl) ?_
  refine lv_aload_n hx hb dX7_begin_32 rfl (lv_at hl 1 rfl) ?_
  refine gf_X7_66 F X ho1 dX7_begin_33 ?_
  obtain ⟨M4, eM4, h⟩ := nm_x h
  refine pf_X7_21 F X ho dX7_begin_36 (fun H locs X => ?_)
  have X := Wd_eq eM4 X
  refine lv_aload_n hx hb dX7_begin_39 rfl (lv_at hl 0 rfl) ?_
  refine lv_iconst (v := 0) hx hb dX7_begin_40 (by decide) ?_
  obtain ⟨M5, eM5, h⟩ := nm_x h
  refine pf_X7_25 F X ho dX7_begin_41 (fun H locs X => ?_)
  have X := Wd_eq eM5 X
  refine lv_aload_n hx hb dX7_begin_44 rfl (lv_at hl 0 rfl) ?_
  refine lv_aload_n hx hb dX7_begin_45 rfl (lv_at hl 1 rfl) ?_
  refine gf_X7_67 F X ho1 dX7_begin_46 ?_
  refine lv_iconst (v := 0) hx hb dX7_begin_49 (by decide) ?_
  refine r_iald F X (ar_X2_3 ho1) (by decide : inB 0 4) dX7_begin_50 ?_
  obtain ⟨M6, eM6, h⟩ := nm_x h
  refine pf_X7_28 F X ho dX7_begin_51 (fun H locs X => ?_)
  have X := Wd_eq eM6 X
  refine lv_aload_n hx hb dX7_begin_54 rfl (lv_at hl 0 rfl) ?_
  refine lv_iconst (v := 0) hx hb dX7_begin_55 (by decide) ?_
  obtain ⟨M7, eM7, h⟩ := nm_x h
  refine pf_X7_31 F X ho dX7_begin_56 (fun H locs X => ?_)
  have X := Wd_eq eM7 X
  refine lv_aload_n hx hb dX7_begin_59 rfl (lv_at hl 0 rfl) ?_
  refine lv_iconst (v := 0) hx hb dX7_begin_60 (by decide) ?_
  obtain ⟨M8, eM8, h⟩ := nm_x h
  refine pf_X7_34 F X ho dX7_begin_61 (fun H locs X => ?_)
  have X := Wd_eq eM8 X
  have h := sm_x h
  exact RT H locs _ 64 ls X h dX7_begin_64

/-! ===== X7_copyFrom ===== -/
def fX7_copyFrom (o : Nat) (o1 : Nat) (M : Mem) : Option Mem :=
  nm (cpM M o1 0 o 0 (Int32.toNatClampNeg 0) (Int32.toNatClampNeg 0) (Int32.toNatClampNeg 8)) fun M1 =>
  nm (cpM M1 o1 1 o 1 (Int32.toNatClampNeg 0) (Int32.toNatClampNeg 0) (Int32.toNatClampNeg 8)) fun M2 =>
  nm (cpM M2 o1 2 o 2 (Int32.toNatClampNeg 0) (Int32.toNatClampNeg 0) (Int32.toNatClampNeg 8)) fun M3 =>
  nm (wr M3 o 3 0 (M3 o1 3 0)) fun M4 =>
  nm (wr M4 o 4 0 (M4 o1 4 0)) fun M5 =>
  nm (wr M5 o 5 0 (M5 o1 5 0)) fun M6 =>
  nm (wr M6 o 6 0 (M6 o1 6 0)) fun M7 =>
  nm (wr M7 o 7 0 (M7 o1 7 0)) fun M8 =>
  some M8
set_option maxHeartbeats 4000000 in
set_option maxRecDepth 100000 in
theorem kX7_copyFrom (l : Launch) (D : va_G) (ad : Nat → Nat) (cs : Nat → ClassId) (A : Nat → Prop) {o : Nat} (ho : GC[cO GC o]? = some (o, 0, 7, 0)) {o1 : Nat} (ho1 : GC[cO GC o1]? = some (o1, 0, 7, 0)) (M : Mem)  (z : Mem) (hz : fX7_copyFrom o o1 M = some z) : Met l yX7_copyFrom (wsU yX7_copyFrom cX7_copyFrom 2 none) (rmo 1 64) (va_Pc [.ref (ad (cO GC o)), .ref (ad (cO GC o1))] (Wd0 D ad cs GC A M)) (va_Qv (fun u => u = z) (Wd0 D ad cs GC A) A) 0 0 A := by
  refine ct_v (by decide) rfl okGC (Nat.le_of_ble_eq_true rfl) ?_
  intro p e s m args below meth c Q ls F X hl RT
  have hx := F.1
  have hb := F.2.1
  have hl : lv_has ls 2 [(0, .ref (ad (cO GC o))), (1, .ref (ad (cO GC o1)))] := hl
  obtain ⟨H, hH⟩ : ∃ H, H = s.heap := ⟨_, rfl⟩
  rw [← hH] at X ⊢
  obtain ⟨locs, hlocs⟩ : ∃ locs : List Loc, locs = [] := ⟨_, rfl⟩
  rw [← hlocs] at X ⊢
  clear hH hlocs
  have h := hz
  unfold fX7_copyFrom at h
  refine lv_aload_n hx hb dX7_copyFrom_0 rfl (lv_at hl 1 rfl) ?_
  refine gf_X7_9 F X ho1 dX7_copyFrom_1 ?_
  refine lv_iconst (v := 0) hx hb dX7_copyFrom_4 (by decide) ?_
  refine lv_aload_n hx hb dX7_copyFrom_5 rfl (lv_at hl 0 rfl) ?_
  refine gf_X7_9 F X ho dX7_copyFrom_6 ?_
  refine lv_iconst (v := 0) hx hb dX7_copyFrom_9 (by decide) ?_
  refine lv_bipush (v := 8) hx hb dX7_copyFrom_10 (by decide) ?_
  obtain ⟨M1, eM1, h⟩ := nm_x h
  refine r_copy F X hl.1 (ar_X7_0 ho1) (ar_X7_0 ho) (mT2 170 rfl rfl) (mT2 62 rfl rfl) (mT2 61 rfl rfl) (mT1 11 rfl rfl) (by decide) (Nat.le_of_ble_eq_true rfl) (Nat.le_of_ble_eq_true rfl) dX7_copyFrom_12 (fun H locs X => ?_)
  have X := Wd_eq eM1 X
  refine lv_aload_n hx hb dX7_copyFrom_15 rfl (lv_at hl 1 rfl) ?_
  refine gf_X7_15 F X ho1 dX7_copyFrom_16 ?_
  refine lv_iconst (v := 0) hx hb dX7_copyFrom_19 (by decide) ?_
  refine lv_aload_n hx hb dX7_copyFrom_20 rfl (lv_at hl 0 rfl) ?_
  refine gf_X7_15 F X ho dX7_copyFrom_21 ?_
  refine lv_iconst (v := 0) hx hb dX7_copyFrom_24 (by decide) ?_
  refine lv_bipush (v := 8) hx hb dX7_copyFrom_25 (by decide) ?_
  obtain ⟨M2, eM2, h⟩ := nm_x h
  refine r_copy F X hl.1 (ar_X7_1 ho1) (ar_X7_1 ho) (mT2 170 rfl rfl) (mT2 62 rfl rfl) (mT2 61 rfl rfl) (mT1 11 rfl rfl) (by decide) (Nat.le_of_ble_eq_true rfl) (Nat.le_of_ble_eq_true rfl) dX7_copyFrom_27 (fun H locs X => ?_)
  have X := Wd_eq eM2 X
  refine lv_aload_n hx hb dX7_copyFrom_30 rfl (lv_at hl 1 rfl) ?_
  refine gf_X7_18 F X ho1 dX7_copyFrom_31 ?_
  refine lv_iconst (v := 0) hx hb dX7_copyFrom_34 (by decide) ?_
  refine lv_aload_n hx hb dX7_copyFrom_35 rfl (lv_at hl 0 rfl) ?_
  refine gf_X7_18 F X ho dX7_copyFrom_36 ?_
  refine lv_iconst (v := 0) hx hb dX7_copyFrom_39 (by decide) ?_
  refine lv_bipush (v := 8) hx hb dX7_copyFrom_40 (by decide) ?_
  obtain ⟨M3, eM3, h⟩ := nm_x h
  refine r_copy F X hl.1 (ar_X7_2 ho1) (ar_X7_2 ho) (mT2 170 rfl rfl) (mT2 62 rfl rfl) (mT2 61 rfl rfl) (mT1 11 rfl rfl) (by decide) (Nat.le_of_ble_eq_true rfl) (Nat.le_of_ble_eq_true rfl) dX7_copyFrom_42 (fun H locs X => ?_)
  have X := Wd_eq eM3 X
  refine lv_aload_n hx hb dX7_copyFrom_45 rfl (lv_at hl 0 rfl) ?_
  refine lv_aload_n hx hb dX7_copyFrom_46 rfl (lv_at hl 1 rfl) ?_
  refine gf_X7_21 F X ho1 dX7_copyFrom_47 ?_
  obtain ⟨M4, eM4, h⟩ := nm_x h
  refine pf_X7_21 F X ho dX7_copyFrom_50 (fun H locs X => ?_)
  have X := Wd_eq eM4 X
  refine lv_aload_n hx hb dX7_copyFrom_53 rfl (lv_at hl 0 rfl) ?_
  refine lv_aload_n hx hb dX7_copyFrom_54 rfl (lv_at hl 1 rfl) ?_
  refine gf_X7_25 F X ho1 dX7_copyFrom_55 ?_
  obtain ⟨M5, eM5, h⟩ := nm_x h
  refine pf_X7_25 F X ho dX7_copyFrom_58 (fun H locs X => ?_)
  have X := Wd_eq eM5 X
  refine lv_aload_n hx hb dX7_copyFrom_61 rfl (lv_at hl 0 rfl) ?_
  refine lv_aload_n hx hb dX7_copyFrom_62 rfl (lv_at hl 1 rfl) ?_
  refine gf_X7_28 F X ho1 dX7_copyFrom_63 ?_
  obtain ⟨M6, eM6, h⟩ := nm_x h
  refine pf_X7_28 F X ho dX7_copyFrom_66 (fun H locs X => ?_)
  have X := Wd_eq eM6 X
  refine lv_aload_n hx hb dX7_copyFrom_69 rfl (lv_at hl 0 rfl) ?_
  refine lv_aload_n hx hb dX7_copyFrom_70 rfl (lv_at hl 1 rfl) ?_
  refine gf_X7_31 F X ho1 dX7_copyFrom_71 ?_
  obtain ⟨M7, eM7, h⟩ := nm_x h
  refine pf_X7_31 F X ho dX7_copyFrom_74 (fun H locs X => ?_)
  have X := Wd_eq eM7 X
  refine lv_aload_n hx hb dX7_copyFrom_77 rfl (lv_at hl 0 rfl) ?_
  refine lv_aload_n hx hb dX7_copyFrom_78 rfl (lv_at hl 1 rfl) ?_
  refine gf_X7_34 F X ho1 dX7_copyFrom_79 ?_
  obtain ⟨M8, eM8, h⟩ := nm_x h
  refine pf_X7_34 F X ho dX7_copyFrom_82 (fun H locs X => ?_)
  have X := Wd_eq eM8 X
  have h := sm_x h
  exact RT H locs _ 85 ls X h dX7_copyFrom_85

/-! ===== X7_isOut ===== -/
def fX7_isOut (o : Nat) (M : Mem) (a1 : Int32) : Option Int32 :=
  if (((M o 4 0) >>> (a1 &&& 31)) &&& (1 : Int32)) = 0 then
    some 0
  else
    some 1
set_option maxHeartbeats 4000000 in
set_option maxRecDepth 100000 in
theorem kX7_isOut (l : Launch) (D : va_G) (ad : Nat → Nat) (cs : Nat → ClassId) (A : Nat → Prop) {o : Nat} (ho : GC[cO GC o]? = some (o, 0, 7, 0)) (M : Mem) (a1 : Int32) (z : Int32) (hz : fX7_isOut o M a1 = some z) : Met l yX7_isOut (wsU yX7_isOut cX7_isOut 2 (some .boolean)) (rmo 1 64) (va_Pc [.ref (ad (cO GC o)), .int a1] (Wd0 D ad cs GC A M)) (va_Qi (fun r u => (r, u) = (z, M)) (Wd0 D ad cs GC A) A) 0 0 A := by
  refine ct_z0 (by decide) rfl okGC (Nat.le_of_ble_eq_true rfl) ?_
  intro p e s m args below meth c Q ls F X hl RT
  have hx := F.1
  have hb := F.2.1
  have hl : lv_has ls 2 [(0, .ref (ad (cO GC o))), (1, .int a1)] := hl
  obtain ⟨H, hH⟩ : ∃ H, H = s.heap := ⟨_, rfl⟩
  rw [← hH] at X ⊢
  obtain ⟨locs, hlocs⟩ : ∃ locs : List Loc, locs = [] := ⟨_, rfl⟩
  rw [← hlocs] at X ⊢
  clear hH hlocs
  have h := hz
  unfold fX7_isOut at h
  refine lv_aload_n hx hb dX7_isOut_0 rfl (lv_at hl 0 rfl) ?_
  refine gf_X7_25 F X ho dX7_isOut_1 ?_
  refine lv_iload_n hx hb dX7_isOut_4 rfl (lv_at hl 1 rfl) ?_
  refine lv_ishr hx hb dX7_isOut_5 ?_
  refine lv_iconst (v := 1) hx hb dX7_isOut_6 (by decide) ?_
  refine lv_iand hx hb dX7_isOut_7 ?_
  refine lv_if_eq (tgt := 15) hx hb dX7_isOut_8 (by decide) (fun c1 => ?_) (fun c1 => ?_)
  · have h := it_p h c1
    refine lv_iconst (v := 0) hx hb dX7_isOut_15 (by decide) ?_
    have h := sm_x h
    exact RT H locs _ 16 ls X h (by decide) dX7_isOut_16
  · have h := it_n h c1
    refine lv_iconst (v := 1) hx hb dX7_isOut_11 (by decide) ?_
    refine lv_goto (tgt := 16) hx hb dX7_isOut_12 (by decide) ?_
    have h := sm_x h
    exact RT H locs _ 16 ls X h (by decide) dX7_isOut_16

/-! ===== X7_disinherit ===== -/
def fX7_disinherit (o : Nat) (M : Mem) (a1 : Int32) : Option Mem :=
  nm (wr M o 8 0 1) fun M1 =>
  nm (wr M1 o 6 0 ((M1 o 6 0) + (1 : Int32))) fun M2 =>
  gd (inB a1 8) <|
  nm (wr M2 o 7 0 ((M2 o 7 0) + (M2 o 0 (Int32.toNatClampNeg a1)))) fun M3 =>
  gd (inB a1 8) <|
  nm (wr M3 o 0 (Int32.toNatClampNeg a1) 0) fun M4 =>
  gd (inB a1 8) <|
  nm (wr M4 o 1 (Int32.toNatClampNeg a1) 0) fun M5 =>
  nm (wr M5 o 4 0 ((M5 o 4 0) ||| ((1 : Int32) <<< (a1 &&& 31)))) fun M6 =>
  some M6
set_option maxHeartbeats 4000000 in
set_option maxRecDepth 100000 in
theorem kX7_disinherit (l : Launch) (D : va_G) (ad : Nat → Nat) (cs : Nat → ClassId) (A : Nat → Prop) {o : Nat} (ho : GC[cO GC o]? = some (o, 0, 7, 0)) (M : Mem) (a1 : Int32) (z : Mem) (hz : fX7_disinherit o M a1 = some z) : Met l yX7_disinherit (wsU yX7_disinherit cX7_disinherit 2 none) (rmo 1 64) (va_Pc [.ref (ad (cO GC o)), .int a1] (Wd0 D ad cs GC A M)) (va_Qv (fun u => u = z) (Wd0 D ad cs GC A) A) 0 0 A := by
  refine ct_v (by decide) rfl okGC (Nat.le_of_ble_eq_true rfl) ?_
  intro p e s m args below meth c Q ls F X hl RT
  have hx := F.1
  have hb := F.2.1
  have hl : lv_has ls 2 [(0, .ref (ad (cO GC o))), (1, .int a1)] := hl
  obtain ⟨H, hH⟩ : ∃ H, H = s.heap := ⟨_, rfl⟩
  rw [← hH] at X ⊢
  obtain ⟨locs, hlocs⟩ : ∃ locs : List Loc, locs = [] := ⟨_, rfl⟩
  rw [← hlocs] at X ⊢
  clear hH hlocs
  have h := hz
  unfold fX7_disinherit at h
  refine lv_aload_n hx hb dX7_disinherit_0 rfl (lv_at hl 0 rfl) ?_
  refine lv_iconst (v := 1) hx hb dX7_disinherit_1 (by decide) ?_
  obtain ⟨M1, eM1, h⟩ := nm_x h
  refine pf_X7_37 F X ho dX7_disinherit_2 (fun H locs X => ?_)
  have X := Wd_eq eM1 X
  refine lv_aload_n hx hb dX7_disinherit_5 rfl (lv_at hl 0 rfl) ?_
  refine lv_dup hx hb dX7_disinherit_6 rfl ?_
  refine gf_X7_31 F X ho dX7_disinherit_7 ?_
  refine lv_iconst (v := 1) hx hb dX7_disinherit_10 (by decide) ?_
  refine lv_iadd hx hb dX7_disinherit_11 ?_
  obtain ⟨M2, eM2, h⟩ := nm_x h
  refine pf_X7_31 F X ho dX7_disinherit_12 (fun H locs X => ?_)
  have X := Wd_eq eM2 X
  refine lv_aload_n hx hb dX7_disinherit_15 rfl (lv_at hl 0 rfl) ?_
  refine lv_dup hx hb dX7_disinherit_16 rfl ?_
  refine gf_X7_34 F X ho dX7_disinherit_17 ?_
  refine lv_aload_n hx hb dX7_disinherit_20 rfl (lv_at hl 0 rfl) ?_
  refine gf_X7_9 F X ho dX7_disinherit_21 ?_
  refine lv_iload_n hx hb dX7_disinherit_24 rfl (lv_at hl 1 rfl) ?_
  obtain ⟨hin, h⟩ := gd_x h
  refine r_iald F X (ar_X7_0 ho) hin dX7_disinherit_25 ?_
  refine lv_iadd hx hb dX7_disinherit_26 ?_
  obtain ⟨M3, eM3, h⟩ := nm_x h
  refine pf_X7_34 F X ho dX7_disinherit_27 (fun H locs X => ?_)
  have X := Wd_eq eM3 X
  refine lv_aload_n hx hb dX7_disinherit_30 rfl (lv_at hl 0 rfl) ?_
  refine gf_X7_9 F X ho dX7_disinherit_31 ?_
  refine lv_iload_n hx hb dX7_disinherit_34 rfl (lv_at hl 1 rfl) ?_
  refine lv_iconst (v := 0) hx hb dX7_disinherit_35 (by decide) ?_
  obtain ⟨hin, h⟩ := gd_x h
  obtain ⟨M4, eM4, h⟩ := nm_x h
  refine r_iast F X (ar_X7_0 ho) hin dX7_disinherit_36 (fun H locs X => ?_)
  have X := Wd_eq eM4 X
  refine lv_aload_n hx hb dX7_disinherit_37 rfl (lv_at hl 0 rfl) ?_
  refine gf_X7_15 F X ho dX7_disinherit_38 ?_
  refine lv_iload_n hx hb dX7_disinherit_41 rfl (lv_at hl 1 rfl) ?_
  refine lv_iconst (v := 0) hx hb dX7_disinherit_42 (by decide) ?_
  obtain ⟨hin, h⟩ := gd_x h
  obtain ⟨M5, eM5, h⟩ := nm_x h
  refine r_iast F X (ar_X7_1 ho) hin dX7_disinherit_43 (fun H locs X => ?_)
  have X := Wd_eq eM5 X
  refine lv_aload_n hx hb dX7_disinherit_44 rfl (lv_at hl 0 rfl) ?_
  refine lv_dup hx hb dX7_disinherit_45 rfl ?_
  refine gf_X7_25 F X ho dX7_disinherit_46 ?_
  refine lv_iconst (v := 1) hx hb dX7_disinherit_49 (by decide) ?_
  refine lv_iload_n hx hb dX7_disinherit_50 rfl (lv_at hl 1 rfl) ?_
  refine lv_ishl hx hb dX7_disinherit_51 ?_
  refine lv_ior hx hb dX7_disinherit_52 ?_
  obtain ⟨M6, eM6, h⟩ := nm_x h
  refine pf_X7_25 F X ho dX7_disinherit_53 (fun H locs X => ?_)
  have X := Wd_eq eM6 X
  have h := sm_x h
  exact RT H locs _ 56 ls X h dX7_disinherit_56

/-! ===== X7_halveShares ===== -/
def fX7_halveShares_7 (o : Nat) (x1 : Int32) (M : Mem) : Option ((Int32 × Mem) ⊕ Mem) :=
  if (M o 3 0) ≤ x1 then
    some (.inr M)
  else
    gd (inB x1 8) <|
    nm ((M o 0 (Int32.toNatClampNeg x1)) / 2 : Int32) fun u2 =>
    gd (inB x1 8) <|
    nm (wr M o 7 0 ((M o 7 0) + ((M o 0 (Int32.toNatClampNeg x1)) - u2))) fun M3 =>
    gd (inB x1 8) <|
    nm (wr M3 o 0 (Int32.toNatClampNeg x1) u2) fun M4 =>
    nm (x1 + 1 : Int32) fun u5 =>
    some (.inl (u5, M4))
def fX7_halveShares (o : Nat) (M : Mem) : Option Mem :=
  nm (wr M o 8 0 2) fun M6 =>
  nm (0 : Int32) fun u7 =>
  lpO (fun st => fX7_halveShares_7 o st.1 st.2) FU (u7, M6)
set_option maxHeartbeats 4000000 in
set_option maxRecDepth 100000 in
theorem kX7_halveShares (l : Launch) (D : va_G) (ad : Nat → Nat) (cs : Nat → ClassId) (A : Nat → Prop) {o : Nat} (ho : GC[cO GC o]? = some (o, 0, 7, 0)) (M : Mem)  (z : Mem) (hz : fX7_halveShares o M = some z) : Met l yX7_halveShares (wsU yX7_halveShares cX7_halveShares 3 none) (rmo 1 64) (va_Pc [.ref (ad (cO GC o))] (Wd0 D ad cs GC A M)) (va_Qv (fun u => u = z) (Wd0 D ad cs GC A) A) 0 0 A := by
  refine ct_v (by decide) rfl okGC (Nat.le_of_ble_eq_true rfl) ?_
  intro p e s m args below meth c Q ls F X hl RT
  have hx := F.1
  have hb := F.2.1
  have hl : lv_has ls 3 [(0, .ref (ad (cO GC o)))] := hl
  obtain ⟨H, hH⟩ : ∃ H, H = s.heap := ⟨_, rfl⟩
  rw [← hH] at X ⊢
  obtain ⟨locs, hlocs⟩ : ∃ locs : List Loc, locs = [] := ⟨_, rfl⟩
  rw [← hlocs] at X ⊢
  clear hH hlocs
  have L7 : ∀ (n : Nat) (H : Heap) (locs : List Loc) (x1 : Int32) (M : Mem) (ls : Array Slot), Wd D ad cs GC A s H locs M → lv_has ls 3 [(0, .ref (ad (cO GC o))), (1, .int x1)] → ∀ (_ : Unit), lpO (fun st => fX7_halveShares_7 o st.1 st.2) n (x1, M) = some z → W p l e (rmo 1 64) s m args below meth c H locs 0 0 Q (F0 m 7 ls []) := by
    intro n
    induction n with
    | zero =>
      intro H locs x1 M ls X hl  yy h
      exact lp_0 h
    | succ n1 ih7 =>
      intro H locs x1 M ls X hl  _u h
      obtain ⟨y1, h, hk1⟩ := lp_x h
      unfold fX7_halveShares_7 at h
      refine lv_iload_n hx hb dX7_halveShares_7 rfl (lv_at hl 1 rfl) ?_
      refine lv_aload_n hx hb dX7_halveShares_8 rfl (lv_at hl 0 rfl) ?_
      refine gf_X7_21 F X ho dX7_halveShares_9 ?_
      refine lv_icmp_ge (tgt := 54) hx hb dX7_halveShares_12 (by decide) (fun c1 => ?_) (fun c1 => ?_)
      · have h := it_p h c1
        have h := sm_x h
        rw [← h] at hk1
        have h := sm_x hk1
        exact RT H locs _ 54 ls X h dX7_halveShares_54
      · have h := it_n h c1
        refine lv_aload_n hx hb dX7_halveShares_15 rfl (lv_at hl 0 rfl) ?_
        refine gf_X7_9 F X ho dX7_halveShares_16 ?_
        refine lv_iload_n hx hb dX7_halveShares_19 rfl (lv_at hl 1 rfl) ?_
        obtain ⟨hin, h⟩ := gd_x h
        refine r_iald F X (ar_X7_0 ho) hin dX7_halveShares_20 ?_
        refine lv_iconst (v := 2) hx hb dX7_halveShares_21 (by decide) ?_
        refine lv_idiv hx hb dX7_halveShares_22 (by decide) ?_
        obtain ⟨u2, eu2, h⟩ := nm_x h
        refine topE eu2 ?_
        refine lv_istore_n (lv' := [(2, .int u2), (0, .ref (ad (cO GC o))), (1, .int x1)]) hx hb dX7_halveShares_23 rfl hl (by decide) rfl (fun ls hl => ?_)
        refine lv_aload_n hx hb dX7_halveShares_24 rfl (lv_at hl 1 rfl) ?_
        refine lv_dup hx hb dX7_halveShares_25 rfl ?_
        refine gf_X7_34 F X ho dX7_halveShares_26 ?_
        refine lv_aload_n hx hb dX7_halveShares_29 rfl (lv_at hl 1 rfl) ?_
        refine gf_X7_9 F X ho dX7_halveShares_30 ?_
        refine lv_iload_n hx hb dX7_halveShares_33 rfl (lv_at hl 2 rfl) ?_
        obtain ⟨hin, h⟩ := gd_x h
        refine r_iald F X (ar_X7_0 ho) hin dX7_halveShares_34 ?_
        refine lv_iload_n hx hb dX7_halveShares_35 rfl (lv_at hl 0 rfl) ?_
        refine lv_isub hx hb dX7_halveShares_36 ?_
        refine lv_iadd hx hb dX7_halveShares_37 ?_
        obtain ⟨M3, eM3, h⟩ := nm_x h
        refine pf_X7_34 F X ho dX7_halveShares_38 (fun H locs X => ?_)
        have X := Wd_eq eM3 X
        refine lv_aload_n hx hb dX7_halveShares_41 rfl (lv_at hl 1 rfl) ?_
        refine gf_X7_9 F X ho dX7_halveShares_42 ?_
        refine lv_iload_n hx hb dX7_halveShares_45 rfl (lv_at hl 2 rfl) ?_
        refine lv_iload_n hx hb dX7_halveShares_46 rfl (lv_at hl 0 rfl) ?_
        obtain ⟨hin, h⟩ := gd_x h
        obtain ⟨M4, eM4, h⟩ := nm_x h
        refine r_iast F X (ar_X7_0 ho) hin dX7_halveShares_47 (fun H locs X => ?_)
        have X := Wd_eq eM4 X
        obtain ⟨u5, eu5, h⟩ := nm_x h
        refine lv_iinc (v := u5) (lv' := [(1, .int u5), (2, .int u2), (0, .ref (ad (cO GC o)))]) hx hb dX7_halveShares_48 hl (k := 2) rfl (by rw [eu5]; rfl) (by decide) rfl (fun ls hl => ?_)
        refine lv_goto (tgt := 7) hx hb dX7_halveShares_51 (by decide) ?_
        rw [← sm_x h] at hk1
        exact ih7 _ _ u5 M4 ls X (lv_sub hl [2, 0] rfl)  () hk1
  have h := hz
  unfold fX7_halveShares at h
  refine lv_aload_n hx hb dX7_halveShares_0 rfl (lv_at hl 0 rfl) ?_
  refine lv_iconst (v := 2) hx hb dX7_halveShares_1 (by decide) ?_
  obtain ⟨M6, eM6, h⟩ := nm_x h
  refine pf_X7_37 F X ho dX7_halveShares_2 (fun H locs X => ?_)
  have X := Wd_eq eM6 X
  refine lv_iconst (v := 0) hx hb dX7_halveShares_5 (by decide) ?_
  obtain ⟨u7, eu7, h⟩ := nm_x h
  refine topE eu7 ?_
  refine lv_istore_n (lv' := [(1, .int u7), (0, .ref (ad (cO GC o)))]) hx hb dX7_halveShares_6 rfl hl (by decide) rfl (fun ls hl => ?_)
  exact L7 FU _ _ u7 M6 ls X (lv_sub hl [1, 0] rfl)  () h

/-! ===== X7_bestow ===== -/
def fX7_bestow_44 (o : Nat) (a1 : Int32) (M : Mem) : Option Mem :=
  gd (inB a1 8) <|
  gd (inB a1 8) <|
  nm (wr M o 0 (Int32.toNatClampNeg a1) ((M o 0 (Int32.toNatClampNeg a1)) + (M o 11 0))) fun M1 =>
  (if (M1 o 10 0) < 9 then
    some M1
  else
    nm (wr M1 o 8 0 4) fun M3 =>
    gd (inB a1 8) <|
    gd (inB a1 8) <|
    nm (wr M3 o 1 (Int32.toNatClampNeg a1) ((M3 o 1 (Int32.toNatClampNeg a1)) + (1 : Int32))) fun M4 =>
    some M4)
def fX7_bestow_24 (o : Nat) (a1 : Int32) (v0 : Int32) (M : Mem) : Option Mem :=
  nm (wr M o 11 0 v0) fun M5 =>
  (if (M5 o 9 0) ≤ 0 then
    fX7_bestow_44 o a1 M5
  else
    nm (wr M5 o 11 0 ((M5 o 11 0) * (2 : Int32))) fun M7 =>
    fX7_bestow_44 o a1 M7)
def fX7_bestow (o : Nat) (M : Mem) (a1 : Int32) : Option Mem :=
  nm (wr M o 8 0 3) fun M8 =>
  (if 9 ≤ (M8 o 10 0) then
    fX7_bestow_24 o a1 9 M8
  else
    fX7_bestow_24 o a1 (M8 o 10 0) M8)
set_option maxHeartbeats 4000000 in
set_option maxRecDepth 100000 in
theorem kX7_bestow (l : Launch) (D : va_G) (ad : Nat → Nat) (cs : Nat → ClassId) (A : Nat → Prop) {o : Nat} (ho : GC[cO GC o]? = some (o, 0, 7, 0)) (M : Mem) (a1 : Int32) (z : Mem) (hz : fX7_bestow o M a1 = some z) : Met l yX7_bestow (wsU yX7_bestow cX7_bestow 2 none) (rmo 1 64) (va_Pc [.ref (ad (cO GC o)), .int a1] (Wd0 D ad cs GC A M)) (va_Qv (fun u => u = z) (Wd0 D ad cs GC A) A) 0 0 A := by
  refine ct_v (by decide) rfl okGC (Nat.le_of_ble_eq_true rfl) ?_
  intro p e s m args below meth c Q ls F X hl RT
  have hx := F.1
  have hb := F.2.1
  have hl : lv_has ls 2 [(0, .ref (ad (cO GC o))), (1, .int a1)] := hl
  obtain ⟨H, hH⟩ : ∃ H, H = s.heap := ⟨_, rfl⟩
  rw [← hH] at X ⊢
  obtain ⟨locs, hlocs⟩ : ∃ locs : List Loc, locs = [] := ⟨_, rfl⟩
  rw [← hlocs] at X ⊢
  clear hH hlocs
  have J44 : ∀ (H : Heap) (locs : List Loc) (M : Mem) (ls : Array Slot), Wd D ad cs GC A s H locs M → lv_has ls 2 [(0, .ref (ad (cO GC o))), (1, .int a1)] → ∀ (_ : Unit), fX7_bestow_44 o a1 M = some z → W p l e (rmo 1 64) s m args below meth c H locs 0 0 Q (F0 m 44 ls []) := by
    intro H locs M ls X hl  _u h
    unfold fX7_bestow_44 at h
    refine lv_aload_n hx hb dX7_bestow_44 rfl (lv_at hl 0 rfl) ?_
    refine gf_X7_9 F X ho dX7_bestow_45 ?_
    refine lv_iload_n hx hb dX7_bestow_48 rfl (lv_at hl 1 rfl) ?_
    refine lv_dup2_11 hx hb dX7_bestow_49 rfl rfl ?_
    obtain ⟨hin, h⟩ := gd_x h
    refine r_iald F X (ar_X7_0 ho) hin dX7_bestow_50 ?_
    refine lv_aload_n hx hb dX7_bestow_51 rfl (lv_at hl 0 rfl) ?_
    refine gf_X7_46 F X ho dX7_bestow_52 ?_
    refine lv_iadd hx hb dX7_bestow_55 ?_
    obtain ⟨hin, h⟩ := gd_x h
    obtain ⟨M1, eM1, h⟩ := nm_x h
    refine r_iast F X (ar_X7_0 ho) hin dX7_bestow_56 (fun H locs X => ?_)
    have X := Wd_eq eM1 X
    refine lv_aload_n hx hb dX7_bestow_57 rfl (lv_at hl 0 rfl) ?_
    refine gf_X7_43 F X ho dX7_bestow_58 ?_
    refine lv_bipush (v := 9) hx hb dX7_bestow_61 (by decide) ?_
    refine lv_icmp_lt (tgt := 81) hx hb dX7_bestow_63 (by decide) (fun c2 => ?_) (fun c2 => ?_)
    · have h := it_p h c2
      have h := sm_x h
      exact RT H locs _ 81 ls X h dX7_bestow_81
    · have h := it_n h c2
      refine lv_aload_n hx hb dX7_bestow_66 rfl (lv_at hl 0 rfl) ?_
      refine lv_iconst (v := 4) hx hb dX7_bestow_67 (by decide) ?_
      obtain ⟨M3, eM3, h⟩ := nm_x h
      refine pf_X7_37 F X ho dX7_bestow_68 (fun H locs X => ?_)
      have X := Wd_eq eM3 X
      refine lv_aload_n hx hb dX7_bestow_71 rfl (lv_at hl 0 rfl) ?_
      refine gf_X7_15 F X ho dX7_bestow_72 ?_
      refine lv_iload_n hx hb dX7_bestow_75 rfl (lv_at hl 1 rfl) ?_
      refine lv_dup2_11 hx hb dX7_bestow_76 rfl rfl ?_
      obtain ⟨hin, h⟩ := gd_x h
      refine r_iald F X (ar_X7_1 ho) hin dX7_bestow_77 ?_
      refine lv_iconst (v := 1) hx hb dX7_bestow_78 (by decide) ?_
      refine lv_iadd hx hb dX7_bestow_79 ?_
      obtain ⟨hin, h⟩ := gd_x h
      obtain ⟨M4, eM4, h⟩ := nm_x h
      refine r_iast F X (ar_X7_1 ho) hin dX7_bestow_80 (fun H locs X => ?_)
      have X := Wd_eq eM4 X
      have h := sm_x h
      exact RT H locs _ 81 ls X h dX7_bestow_81
  have J24 : ∀ (H : Heap) (locs : List Loc) (v0 : Int32) (M : Mem) (ls : Array Slot), Wd D ad cs GC A s H locs M → lv_has ls 2 [(0, .ref (ad (cO GC o))), (1, .int a1)] → ∀ (_ : Unit), fX7_bestow_24 o a1 v0 M = some z → W p l e (rmo 1 64) s m args below meth c H locs 0 0 Q (F0 m 24 ls [.int v0, .ref (ad (cO GC o))]) := by
    intro H locs v0 M ls X hl  _u h
    unfold fX7_bestow_24 at h
    obtain ⟨M5, eM5, h⟩ := nm_x h
    refine pf_X7_46 F X ho dX7_bestow_24 (fun H locs X => ?_)
    have X := Wd_eq eM5 X
    refine lv_aload_n hx hb dX7_bestow_27 rfl (lv_at hl 0 rfl) ?_
    refine gf_X7_40 F X ho dX7_bestow_28 ?_
    refine lv_if_le (tgt := 44) hx hb dX7_bestow_31 (by decide) (fun c6 => ?_) (fun c6 => ?_)
    · have h := it_p h c6
      exact J44 _ _ M5 ls X (lv_sub hl [0, 1] rfl)  () h
    · have h := it_n h c6
      refine lv_aload_n hx hb dX7_bestow_34 rfl (lv_at hl 0 rfl) ?_
      refine lv_dup hx hb dX7_bestow_35 rfl ?_
      refine gf_X7_46 F X ho dX7_bestow_36 ?_
      refine lv_iconst (v := 2) hx hb dX7_bestow_39 (by decide) ?_
      refine lv_imul hx hb dX7_bestow_40 ?_
      obtain ⟨M7, eM7, h⟩ := nm_x h
      refine pf_X7_46 F X ho dX7_bestow_41 (fun H locs X => ?_)
      have X := Wd_eq eM7 X
      exact J44 _ _ M7 ls X (lv_sub hl [0, 1] rfl)  () h
  have h := hz
  unfold fX7_bestow at h
  refine lv_aload_n hx hb dX7_bestow_0 rfl (lv_at hl 0 rfl) ?_
  refine lv_iconst (v := 3) hx hb dX7_bestow_1 (by decide) ?_
  obtain ⟨M8, eM8, h⟩ := nm_x h
  refine pf_X7_37 F X ho dX7_bestow_2 (fun H locs X => ?_)
  have X := Wd_eq eM8 X
  refine lv_aload_n hx hb dX7_bestow_5 rfl (lv_at hl 0 rfl) ?_
  refine lv_aload_n hx hb dX7_bestow_6 rfl (lv_at hl 0 rfl) ?_
  refine gf_X7_43 F X ho dX7_bestow_7 ?_
  refine lv_bipush (v := 9) hx hb dX7_bestow_10 (by decide) ?_
  refine lv_icmp_ge (tgt := 22) hx hb dX7_bestow_12 (by decide) (fun c9 => ?_) (fun c9 => ?_)
  · have h := it_p h c9
    refine lv_bipush (v := 9) hx hb dX7_bestow_22 (by decide) ?_
    exact J24 _ _ 9 M8 ls X (lv_sub hl [0, 1] rfl)  () h
  · have h := it_n h c9
    refine lv_aload_n hx hb dX7_bestow_15 rfl (lv_at hl 0 rfl) ?_
    refine gf_X7_43 F X ho dX7_bestow_16 ?_
    refine lv_goto (tgt := 24) hx hb dX7_bestow_19 (by decide) ?_
    exact J24 _ _ (M8 o 10 0) M8 ls X (lv_sub hl [0, 1] rfl)  () h

/-! ===== X7_meet ===== -/
def fX7_meet (o : Nat) (o1 : Nat) (M : Mem) (a2 : Int32) (a3 : Int32) : Option Mem :=
  gd (inB a3 8) <|
  nm (imin (M o 2 (Int32.toNatClampNeg a3)) (imin (M o 5 0) (M o1 3 (Int32.toNatClampNeg 3))) : Int32) fun u1 =>
  gd (inB a3 8) <|
  nm (wr M o 10 0 ((M o1 1 (Int32.toNatClampNeg a3)) + u1)) fun M2 =>
  (fX2_dreadAt o1 M2 a2 a3).bind fun r3 =>
  (if r3 ≤ (M2 o 10 0) then
    nm (wr M2 o 9 0 u1) fun M5 =>
    nm (wr M5 o 5 0 ((M5 o 5 0) - u1)) fun M6 =>
    gd (inB a3 8) <|
    gd (inB a3 8) <|
    nm (wr M6 o 2 (Int32.toNatClampNeg a3) ((M6 o 2 (Int32.toNatClampNeg a3)) - u1)) fun M7 =>
    (if (M7 o 10 0) = (M7 o1 3 (Int32.toNatClampNeg 2)) then
      (fX7_halveShares o M7).bind fun r10 =>
      some r10
    else
      (fX7_bestow o M7 a3).bind fun r9 =>
      some r9)
  else
    (fX7_disinherit o M2 a3).bind fun r11 =>
    some r11)
set_option maxHeartbeats 4000000 in
set_option maxRecDepth 100000 in
theorem kX7_meet (l : Launch) (D : va_G) (ad : Nat → Nat) (cs : Nat → ClassId) (A : Nat → Prop) {o : Nat} (ho : GC[cO GC o]? = some (o, 0, 7, 0)) {o1 : Nat} (ho1 : GC[cO GC o1]? = some (o1, 0, 2, 0)) (M : Mem) (a2 : Int32) (a3 : Int32) (z : Mem) (hz : fX7_meet o o1 M a2 a3 = some z) : Met l yX7_meet (wsU yX7_meet cX7_meet 5 none) (rmo 2 87) (va_Pc [.ref (ad (cO GC o)), .ref (ad (cO GC o1)), .int a2, .int a3] (Wd0 D ad cs GC A M)) (va_Qv (fun u => u = z) (Wd0 D ad cs GC A) A) 0 0 A := by
  refine ct_v (by decide) rfl okGC (Nat.le_of_ble_eq_true rfl) ?_
  intro p e s m args below meth c Q ls F X hl RT
  have hx := F.1
  have hb := F.2.1
  have hl : lv_has ls 5 [(0, .ref (ad (cO GC o))), (1, .ref (ad (cO GC o1))), (2, .int a2), (3, .int a3)] := hl
  obtain ⟨H, hH⟩ : ∃ H, H = s.heap := ⟨_, rfl⟩
  rw [← hH] at X ⊢
  obtain ⟨locs, hlocs⟩ : ∃ locs : List Loc, locs = [] := ⟨_, rfl⟩
  rw [← hlocs] at X ⊢
  clear hH hlocs
  have h := hz
  unfold fX7_meet at h
  refine lv_aload_n hx hb dX7_meet_0 rfl (lv_at hl 0 rfl) ?_
  refine gf_X7_18 F X ho dX7_meet_1 ?_
  refine lv_iload_n hx hb dX7_meet_4 rfl (lv_at hl 3 rfl) ?_
  obtain ⟨hin, h⟩ := gd_x h
  refine r_iald F X (ar_X7_2 ho) hin dX7_meet_5 ?_
  refine lv_aload_n hx hb dX7_meet_6 rfl (lv_at hl 0 rfl) ?_
  refine gf_X7_28 F X ho dX7_meet_7 ?_
  refine lv_aload_n hx hb dX7_meet_10 rfl (lv_at hl 1 rfl) ?_
  refine gf_X7_67 F X ho1 dX7_meet_11 ?_
  refine lv_iconst (v := 3) hx hb dX7_meet_14 (by decide) ?_
  refine r_iald F X (ar_X2_3 ho1) (by decide : inB 3 4) dX7_meet_15 ?_
  refine r_mmin F hl.1 (mT2 188 rfl rfl) (mT2 189 rfl rfl) (mT1 14 rfl rfl) (mT2 190 rfl rfl) (Nat.le_of_ble_eq_true rfl) (Nat.le_of_ble_eq_true rfl) dX7_meet_16 ?_
  refine r_mmin F hl.1 (mT2 188 rfl rfl) (mT2 189 rfl rfl) (mT1 14 rfl rfl) (mT2 190 rfl rfl) (Nat.le_of_ble_eq_true rfl) (Nat.le_of_ble_eq_true rfl) dX7_meet_19 ?_
  obtain ⟨u1, eu1, h⟩ := nm_x h
  refine topE eu1 ?_
  refine lv_istore (lv' := [(4, .int u1), (0, .ref (ad (cO GC o))), (1, .ref (ad (cO GC o1))), (2, .int a2), (3, .int a3)]) hx hb dX7_meet_22 hl (by decide) rfl (fun ls hl => ?_)
  refine lv_aload_n hx hb dX7_meet_24 rfl (lv_at hl 1 rfl) ?_
  refine lv_aload_n hx hb dX7_meet_25 rfl (lv_at hl 2 rfl) ?_
  refine gf_X7_87 F X ho1 dX7_meet_26 ?_
  refine lv_iload_n hx hb dX7_meet_29 rfl (lv_at hl 4 rfl) ?_
  obtain ⟨hin, h⟩ := gd_x h
  refine r_iald F X (ar_X2_1 ho1) hin dX7_meet_30 ?_
  refine lv_iload hx hb dX7_meet_31 (lv_at hl 0 rfl) ?_
  refine lv_iadd hx hb dX7_meet_33 ?_
  obtain ⟨M2, eM2, h⟩ := nm_x h
  refine pf_X7_43 F X ho dX7_meet_34 (fun H locs X => ?_)
  have X := Wd_eq eM2 X
  refine lv_aload_n hx hb dX7_meet_37 rfl (lv_at hl 1 rfl) ?_
  refine gf_X7_43 F X ho dX7_meet_38 ?_
  refine lv_aload_n hx hb dX7_meet_41 rfl (lv_at hl 2 rfl) ?_
  refine lv_iload_n hx hb dX7_meet_42 rfl (lv_at hl 3 rfl) ?_
  refine lv_iload_n hx hb dX7_meet_43 rfl (lv_at hl 4 rfl) ?_
  obtain ⟨r3, hr3, h⟩ := bd_x h
  refine r_calli0 X (r_runV F X (kX2_dreadAt l D ad cs A ho1 M2 a2 a3 _ hr3) gm_X7_90 hd_X2_dreadAt ⟨Nat.le_of_ble_eq_true rfl, Nat.le_of_ble_eq_true rfl⟩ ho1 rfl rfl hl.1 rfl (Nat.le_of_ble_eq_true rfl) dX7_meet_44) (fun H locs X => ?_)
  refine lv_icmp_ge (tgt := 56) hx hb dX7_meet_47 (by decide) (fun c4 => ?_) (fun c4 => ?_)
  · have h := it_p h c4
    refine lv_aload_n hx hb dX7_meet_56 rfl (lv_at hl 1 rfl) ?_
    refine lv_iload hx hb dX7_meet_57 (lv_at hl 0 rfl) ?_
    obtain ⟨M5, eM5, h⟩ := nm_x h
    refine pf_X7_40 F X ho dX7_meet_59 (fun H locs X => ?_)
    have X := Wd_eq eM5 X
    refine lv_aload_n hx hb dX7_meet_62 rfl (lv_at hl 1 rfl) ?_
    refine lv_dup hx hb dX7_meet_63 rfl ?_
    refine gf_X7_28 F X ho dX7_meet_64 ?_
    refine lv_iload hx hb dX7_meet_67 (lv_at hl 0 rfl) ?_
    refine lv_isub hx hb dX7_meet_69 ?_
    obtain ⟨M6, eM6, h⟩ := nm_x h
    refine pf_X7_28 F X ho dX7_meet_70 (fun H locs X => ?_)
    have X := Wd_eq eM6 X
    refine lv_aload_n hx hb dX7_meet_73 rfl (lv_at hl 1 rfl) ?_
    refine gf_X7_18 F X ho dX7_meet_74 ?_
    refine lv_iload_n hx hb dX7_meet_77 rfl (lv_at hl 4 rfl) ?_
    refine lv_dup2_11 hx hb dX7_meet_78 rfl rfl ?_
    obtain ⟨hin, h⟩ := gd_x h
    refine r_iald F X (ar_X7_2 ho) hin dX7_meet_79 ?_
    refine lv_iload hx hb dX7_meet_80 (lv_at hl 0 rfl) ?_
    refine lv_isub hx hb dX7_meet_82 ?_
    obtain ⟨hin, h⟩ := gd_x h
    obtain ⟨M7, eM7, h⟩ := nm_x h
    refine r_iast F X (ar_X7_2 ho) hin dX7_meet_83 (fun H locs X => ?_)
    have X := Wd_eq eM7 X
    refine lv_aload_n hx hb dX7_meet_84 rfl (lv_at hl 1 rfl) ?_
    refine gf_X7_43 F X ho dX7_meet_85 ?_
    refine lv_aload_n hx hb dX7_meet_88 rfl (lv_at hl 2 rfl) ?_
    refine gf_X7_67 F X ho1 dX7_meet_89 ?_
    refine lv_iconst (v := 2) hx hb dX7_meet_92 (by decide) ?_
    refine r_iald F X (ar_X2_3 ho1) (by decide : inB 2 4) dX7_meet_93 ?_
    refine lv_icmp_ne (tgt := 104) hx hb dX7_meet_94 (by decide) (fun c8 => ?_) (fun c8 => ?_)
    · have h := it_n h c8
      refine lv_aload_n hx hb dX7_meet_104 rfl (lv_at hl 1 rfl) ?_
      refine lv_iload_n hx hb dX7_meet_105 rfl (lv_at hl 4 rfl) ?_
      obtain ⟨r9, hr9, h⟩ := bd_x h
      refine r_callv X (r_runV F X (kX7_bestow l D ad cs A ho M7 a3 _ hr9) gm_X7_100 hd_X7_bestow ⟨Nat.le_of_ble_eq_true rfl, Nat.le_of_ble_eq_true rfl⟩ ho rfl rfl hl.1 rfl (Nat.le_of_ble_eq_true rfl) dX7_meet_106) (fun H locs X => ?_)
      have h := sm_x h
      exact RT H locs _ 109 ls X h dX7_meet_109
    · have h := it_p h c8
      refine lv_aload_n hx hb dX7_meet_97 rfl (lv_at hl 1 rfl) ?_
      obtain ⟨r10, hr10, h⟩ := bd_x h
      refine r_callv X (r_runV F X (kX7_halveShares l D ad cs A ho M7  _ hr10) gm_X7_97 hd_X7_halveShares ⟨Nat.le_of_ble_eq_true rfl, Nat.le_of_ble_eq_true rfl⟩ ho rfl rfl hl.1 rfl (Nat.le_of_ble_eq_true rfl) dX7_meet_98) (fun H locs X => ?_)
      refine lv_goto (tgt := 109) hx hb dX7_meet_101 (by decide) ?_
      have h := sm_x h
      exact RT H locs _ 109 ls X h dX7_meet_109
  · have h := it_n h c4
    refine lv_aload_n hx hb dX7_meet_50 rfl (lv_at hl 1 rfl) ?_
    refine lv_iload_n hx hb dX7_meet_51 rfl (lv_at hl 4 rfl) ?_
    obtain ⟨r11, hr11, h⟩ := bd_x h
    refine r_callv X (r_runV F X (kX7_disinherit l D ad cs A ho M2 a3 _ hr11) gm_X7_93 hd_X7_disinherit ⟨Nat.le_of_ble_eq_true rfl, Nat.le_of_ble_eq_true rfl⟩ ho rfl rfl hl.1 rfl (Nat.le_of_ble_eq_true rfl) dX7_meet_52) (fun H locs X => ?_)
    have h := sm_x h
    exact RT H locs _ 55 ls X h dX7_meet_55

/-! ===== X7_visit ===== -/
def fX7_visit_51 (o : Nat) (o1 : Nat) (a2 : Int32) (a3 : Int32) (M : Mem) : Option Mem :=
  nm (wr M o 5 0 (imin ((M o 5 0) + (1 : Int32)) 9)) fun M1 =>
  some M1
def fX7_visit (o : Nat) (o1 : Nat) (M : Mem) (a2 : Int32) (a3 : Int32) : Option Mem :=
  nm (wr M o 8 0 0) fun M2 =>
  nm (wr M2 o 9 0 0) fun M3 =>
  nm (wr M3 o 10 0 0) fun M4 =>
  nm (wr M4 o 11 0 0) fun M5 =>
  (if (M5 o 3 0) ≤ a3 then
    fX7_visit_51 o o1 a2 a3 M5
  else
    if a3 = (M5 o1 8 0) then
      fX7_visit_51 o o1 a2 a3 M5
    else
      (fX7_isOut o M5 a3).bind fun r8 =>
      (if r8 = 0 then
        (fX7_meet o o1 M5 a2 a3).bind fun r10 =>
        fX7_visit_51 o o1 a2 a3 r10
      else
        fX7_visit_51 o o1 a2 a3 M5))
set_option maxHeartbeats 4000000 in
set_option maxRecDepth 100000 in
theorem kX7_visit (l : Launch) (D : va_G) (ad : Nat → Nat) (cs : Nat → ClassId) (A : Nat → Prop) {o : Nat} (ho : GC[cO GC o]? = some (o, 0, 7, 0)) {o1 : Nat} (ho1 : GC[cO GC o1]? = some (o1, 0, 2, 0)) (M : Mem) (a2 : Int32) (a3 : Int32) (z : Mem) (hz : fX7_visit o o1 M a2 a3 = some z) : Met l yX7_visit (wsU yX7_visit cX7_visit 4 none) (rmo 3 111) (va_Pc [.ref (ad (cO GC o)), .ref (ad (cO GC o1)), .int a2, .int a3] (Wd0 D ad cs GC A M)) (va_Qv (fun u => u = z) (Wd0 D ad cs GC A) A) 0 0 A := by
  refine ct_v (by decide) rfl okGC (Nat.le_of_ble_eq_true rfl) ?_
  intro p e s m args below meth c Q ls F X hl RT
  have hx := F.1
  have hb := F.2.1
  have hl : lv_has ls 4 [(0, .ref (ad (cO GC o))), (1, .ref (ad (cO GC o1))), (2, .int a2), (3, .int a3)] := hl
  obtain ⟨H, hH⟩ : ∃ H, H = s.heap := ⟨_, rfl⟩
  rw [← hH] at X ⊢
  obtain ⟨locs, hlocs⟩ : ∃ locs : List Loc, locs = [] := ⟨_, rfl⟩
  rw [← hlocs] at X ⊢
  clear hH hlocs
  have J51 : ∀ (H : Heap) (locs : List Loc) (M : Mem) (ls : Array Slot), Wd D ad cs GC A s H locs M → lv_has ls 4 [(0, .ref (ad (cO GC o)))] → ∀ (_ : Unit), fX7_visit_51 o o1 a2 a3 M = some z → W p l e (rmo 3 111) s m args below meth c H locs 0 0 Q (F0 m 51 ls []) := by
    intro H locs M ls X hl  _u h
    unfold fX7_visit_51 at h
    refine lv_aload_n hx hb dX7_visit_51 rfl (lv_at hl 0 rfl) ?_
    refine lv_aload_n hx hb dX7_visit_52 rfl (lv_at hl 0 rfl) ?_
    refine gf_X7_28 F X ho dX7_visit_53 ?_
    refine lv_iconst (v := 1) hx hb dX7_visit_56 (by decide) ?_
    refine lv_iadd hx hb dX7_visit_57 ?_
    refine lv_bipush (v := 9) hx hb dX7_visit_58 (by decide) ?_
    refine r_mmin F hl.1 (mT2 188 rfl rfl) (mT2 189 rfl rfl) (mT1 14 rfl rfl) (mT2 190 rfl rfl) (Nat.le_of_ble_eq_true rfl) (Nat.le_of_ble_eq_true rfl) dX7_visit_60 ?_
    obtain ⟨M1, eM1, h⟩ := nm_x h
    refine pf_X7_28 F X ho dX7_visit_63 (fun H locs X => ?_)
    have X := Wd_eq eM1 X
    have h := sm_x h
    exact RT H locs _ 66 ls X h dX7_visit_66
  have h := hz
  unfold fX7_visit at h
  refine lv_aload_n hx hb dX7_visit_0 rfl (lv_at hl 0 rfl) ?_
  refine lv_iconst (v := 0) hx hb dX7_visit_1 (by decide) ?_
  obtain ⟨M2, eM2, h⟩ := nm_x h
  refine pf_X7_37 F X ho dX7_visit_2 (fun H locs X => ?_)
  have X := Wd_eq eM2 X
  refine lv_aload_n hx hb dX7_visit_5 rfl (lv_at hl 0 rfl) ?_
  refine lv_iconst (v := 0) hx hb dX7_visit_6 (by decide) ?_
  obtain ⟨M3, eM3, h⟩ := nm_x h
  refine pf_X7_40 F X ho dX7_visit_7 (fun H locs X => ?_)
  have X := Wd_eq eM3 X
  refine lv_aload_n hx hb dX7_visit_10 rfl (lv_at hl 0 rfl) ?_
  refine lv_iconst (v := 0) hx hb dX7_visit_11 (by decide) ?_
  obtain ⟨M4, eM4, h⟩ := nm_x h
  refine pf_X7_43 F X ho dX7_visit_12 (fun H locs X => ?_)
  have X := Wd_eq eM4 X
  refine lv_aload_n hx hb dX7_visit_15 rfl (lv_at hl 0 rfl) ?_
  refine lv_iconst (v := 0) hx hb dX7_visit_16 (by decide) ?_
  obtain ⟨M5, eM5, h⟩ := nm_x h
  refine pf_X7_46 F X ho dX7_visit_17 (fun H locs X => ?_)
  have X := Wd_eq eM5 X
  refine lv_iload_n hx hb dX7_visit_20 rfl (lv_at hl 3 rfl) ?_
  refine lv_aload_n hx hb dX7_visit_21 rfl (lv_at hl 0 rfl) ?_
  refine gf_X7_21 F X ho dX7_visit_22 ?_
  refine lv_icmp_ge (tgt := 51) hx hb dX7_visit_25 (by decide) (fun c6 => ?_) (fun c6 => ?_)
  · have h := it_p h c6
    exact J51 _ _ M5 ls X (lv_sub hl [0] rfl)  () h
  · have h := it_n h c6
    refine lv_iload_n hx hb dX7_visit_28 rfl (lv_at hl 3 rfl) ?_
    refine lv_aload_n hx hb dX7_visit_29 rfl (lv_at hl 1 rfl) ?_
    refine gf_X7_70 F X ho1 dX7_visit_30 ?_
    refine lv_icmp_eq (tgt := 51) hx hb dX7_visit_33 (by decide) (fun c7 => ?_) (fun c7 => ?_)
    · have h := it_p h c7
      exact J51 _ _ M5 ls X (lv_sub hl [0] rfl)  () h
    · have h := it_n h c7
      refine lv_aload_n hx hb dX7_visit_36 rfl (lv_at hl 0 rfl) ?_
      refine lv_iload_n hx hb dX7_visit_37 rfl (lv_at hl 3 rfl) ?_
      obtain ⟨r8, hr8, h⟩ := bd_x h
      refine r_calli0 X (r_runV F X (kX7_isOut l D ad cs A ho M5 a3 _ hr8) gm_X7_73 hd_X7_isOut ⟨Nat.le_of_ble_eq_true rfl, Nat.le_of_ble_eq_true rfl⟩ ho rfl rfl hl.1 rfl (Nat.le_of_ble_eq_true rfl) dX7_visit_38) (fun H locs X => ?_)
      refine lv_if_ne (tgt := 51) hx hb dX7_visit_41 (by decide) (fun c9 => ?_) (fun c9 => ?_)
      · have h := it_n h c9
        exact J51 _ _ M5 ls X (lv_sub hl [0] rfl)  () h
      · have h := it_p h c9
        refine lv_aload_n hx hb dX7_visit_44 rfl (lv_at hl 0 rfl) ?_
        refine lv_aload_n hx hb dX7_visit_45 rfl (lv_at hl 1 rfl) ?_
        refine lv_iload_n hx hb dX7_visit_46 rfl (lv_at hl 2 rfl) ?_
        refine lv_iload_n hx hb dX7_visit_47 rfl (lv_at hl 3 rfl) ?_
        obtain ⟨r10, hr10, h⟩ := bd_x h
        refine r_callv X (r_runV F X (kX7_meet l D ad cs A ho ho1 M5 a2 a3 _ hr10) gm_X7_77 hd_X7_meet ⟨Nat.le_of_ble_eq_true rfl, Nat.le_of_ble_eq_true rfl⟩ ho rfl rfl hl.1 rfl (Nat.le_of_ble_eq_true rfl) dX7_visit_48) (fun H locs X => ?_)
        exact J51 _ _ r10 ls X (lv_sub hl [0] rfl)  () h

/-! ===== X7_allShares ===== -/
def fX7_allShares_4 (o : Nat) (M : Mem) (x1 : Int32) (x2 : Int32) : Option ((Int32 × Int32) ⊕ Int32) :=
  if (M o 3 0) ≤ x2 then
    some (.inr x1)
  else
    gd (inB x2 8) <|
    nm (x1 + (M o 0 (Int32.toNatClampNeg x2)) : Int32) fun u2 =>
    nm (x2 + 1 : Int32) fun u3 =>
    some (.inl (u2, u3))
def fX7_allShares (o : Nat) (M : Mem) : Option Int32 :=
  nm (0 : Int32) fun u4 =>
  nm (0 : Int32) fun u5 =>
  lpO (fun st => fX7_allShares_4 o M st.1 st.2) FU (u4, u5)
set_option maxHeartbeats 4000000 in
set_option maxRecDepth 100000 in
theorem kX7_allShares (l : Launch) (D : va_G) (ad : Nat → Nat) (cs : Nat → ClassId) (A : Nat → Prop) {o : Nat} (ho : GC[cO GC o]? = some (o, 0, 7, 0)) (M : Mem)  (z : Int32) (hz : fX7_allShares o M = some z) : Met l yX7_allShares (wsU yX7_allShares cX7_allShares 3 (some .int)) (rmo 1 64) (va_Pc [.ref (ad (cO GC o))] (Wd0 D ad cs GC A M)) (va_Qi (fun r u => (r, u) = (z, M)) (Wd0 D ad cs GC A) A) 0 0 A := by
  refine ct_i0 (by decide) rfl okGC (Nat.le_of_ble_eq_true rfl) ?_
  intro p e s m args below meth c Q ls F X hl RT
  have hx := F.1
  have hb := F.2.1
  have hl : lv_has ls 3 [(0, .ref (ad (cO GC o)))] := hl
  obtain ⟨H, hH⟩ : ∃ H, H = s.heap := ⟨_, rfl⟩
  rw [← hH] at X ⊢
  obtain ⟨locs, hlocs⟩ : ∃ locs : List Loc, locs = [] := ⟨_, rfl⟩
  rw [← hlocs] at X ⊢
  clear hH hlocs
  have L4 : ∀ (n : Nat) (H : Heap) (locs : List Loc) (x1 : Int32) (x2 : Int32) (ls : Array Slot), Wd D ad cs GC A s H locs M → lv_has ls 3 [(0, .ref (ad (cO GC o))), (1, .int x1), (2, .int x2)] → ∀ (_ : Unit), lpO (fun st => fX7_allShares_4 o M st.1 st.2) n (x1, x2) = some z → W p l e (rmo 1 64) s m args below meth c H locs 0 0 Q (F0 m 4 ls []) := by
    intro n
    induction n with
    | zero =>
      intro H locs x1 x2 ls X hl  yy h
      exact lp_0 h
    | succ n1 ih4 =>
      intro H locs x1 x2 ls X hl  _u h
      obtain ⟨y1, h, hk1⟩ := lp_x h
      unfold fX7_allShares_4 at h
      refine lv_iload_n hx hb dX7_allShares_4 rfl (lv_at hl 2 rfl) ?_
      refine lv_aload_n hx hb dX7_allShares_5 rfl (lv_at hl 0 rfl) ?_
      refine gf_X7_21 F X ho dX7_allShares_6 ?_
      refine lv_icmp_ge (tgt := 27) hx hb dX7_allShares_9 (by decide) (fun c1 => ?_) (fun c1 => ?_)
      · have h := it_p h c1
        refine lv_iload_n hx hb dX7_allShares_27 rfl (lv_at hl 1 rfl) ?_
        have h := sm_x h
        rw [← h] at hk1
        have h := sm_x hk1
        exact RT H locs _ 28 ls X h dX7_allShares_28
      · have h := it_n h c1
        refine lv_iload_n hx hb dX7_allShares_12 rfl (lv_at hl 1 rfl) ?_
        refine lv_aload_n hx hb dX7_allShares_13 rfl (lv_at hl 0 rfl) ?_
        refine gf_X7_9 F X ho dX7_allShares_14 ?_
        refine lv_iload_n hx hb dX7_allShares_17 rfl (lv_at hl 2 rfl) ?_
        obtain ⟨hin, h⟩ := gd_x h
        refine r_iald F X (ar_X7_0 ho) hin dX7_allShares_18 ?_
        refine lv_iadd hx hb dX7_allShares_19 ?_
        obtain ⟨u2, eu2, h⟩ := nm_x h
        refine topE eu2 ?_
        refine lv_istore_n (lv' := [(1, .int u2), (0, .ref (ad (cO GC o))), (2, .int x2)]) hx hb dX7_allShares_20 rfl hl (by decide) rfl (fun ls hl => ?_)
        obtain ⟨u3, eu3, h⟩ := nm_x h
        refine lv_iinc (v := u3) (lv' := [(2, .int u3), (1, .int u2), (0, .ref (ad (cO GC o)))]) hx hb dX7_allShares_21 hl (k := 2) rfl (by rw [eu3]; rfl) (by decide) rfl (fun ls hl => ?_)
        refine lv_goto (tgt := 4) hx hb dX7_allShares_24 (by decide) ?_
        rw [← sm_x h] at hk1
        exact ih4 _ _ u2 u3 ls X (lv_sub hl [2, 1, 0] rfl)  () hk1
  have h := hz
  unfold fX7_allShares at h
  refine lv_iconst (v := 0) hx hb dX7_allShares_0 (by decide) ?_
  obtain ⟨u4, eu4, h⟩ := nm_x h
  refine topE eu4 ?_
  refine lv_istore_n (lv' := [(1, .int u4), (0, .ref (ad (cO GC o)))]) hx hb dX7_allShares_1 rfl hl (by decide) rfl (fun ls hl => ?_)
  refine lv_iconst (v := 0) hx hb dX7_allShares_2 (by decide) ?_
  obtain ⟨u5, eu5, h⟩ := nm_x h
  refine topE eu5 ?_
  refine lv_istore_n (lv' := [(2, .int u5), (1, .int u4), (0, .ref (ad (cO GC o)))]) hx hb dX7_allShares_3 rfl hl (by decide) rfl (fun ls hl => ?_)
  exact L4 FU _ _ u4 u5 ls X (lv_sub hl [2, 1, 0] rfl)  () h

/-! ===== X7_allFields ===== -/
def fX7_allFields_4 (o : Nat) (M : Mem) (x1 : Int32) (x2 : Int32) : Option ((Int32 × Int32) ⊕ Int32) :=
  if (M o 3 0) ≤ x2 then
    some (.inr x1)
  else
    gd (inB x2 8) <|
    nm (x1 + (M o 1 (Int32.toNatClampNeg x2)) : Int32) fun u2 =>
    nm (x2 + 1 : Int32) fun u3 =>
    some (.inl (u2, u3))
def fX7_allFields (o : Nat) (M : Mem) : Option Int32 :=
  nm (0 : Int32) fun u4 =>
  nm (0 : Int32) fun u5 =>
  lpO (fun st => fX7_allFields_4 o M st.1 st.2) FU (u4, u5)
set_option maxHeartbeats 4000000 in
set_option maxRecDepth 100000 in
theorem kX7_allFields (l : Launch) (D : va_G) (ad : Nat → Nat) (cs : Nat → ClassId) (A : Nat → Prop) {o : Nat} (ho : GC[cO GC o]? = some (o, 0, 7, 0)) (M : Mem)  (z : Int32) (hz : fX7_allFields o M = some z) : Met l yX7_allFields (wsU yX7_allFields cX7_allFields 3 (some .int)) (rmo 1 64) (va_Pc [.ref (ad (cO GC o))] (Wd0 D ad cs GC A M)) (va_Qi (fun r u => (r, u) = (z, M)) (Wd0 D ad cs GC A) A) 0 0 A := by
  refine ct_i0 (by decide) rfl okGC (Nat.le_of_ble_eq_true rfl) ?_
  intro p e s m args below meth c Q ls F X hl RT
  have hx := F.1
  have hb := F.2.1
  have hl : lv_has ls 3 [(0, .ref (ad (cO GC o)))] := hl
  obtain ⟨H, hH⟩ : ∃ H, H = s.heap := ⟨_, rfl⟩
  rw [← hH] at X ⊢
  obtain ⟨locs, hlocs⟩ : ∃ locs : List Loc, locs = [] := ⟨_, rfl⟩
  rw [← hlocs] at X ⊢
  clear hH hlocs
  have L4 : ∀ (n : Nat) (H : Heap) (locs : List Loc) (x1 : Int32) (x2 : Int32) (ls : Array Slot), Wd D ad cs GC A s H locs M → lv_has ls 3 [(0, .ref (ad (cO GC o))), (1, .int x1), (2, .int x2)] → ∀ (_ : Unit), lpO (fun st => fX7_allFields_4 o M st.1 st.2) n (x1, x2) = some z → W p l e (rmo 1 64) s m args below meth c H locs 0 0 Q (F0 m 4 ls []) := by
    intro n
    induction n with
    | zero =>
      intro H locs x1 x2 ls X hl  yy h
      exact lp_0 h
    | succ n1 ih4 =>
      intro H locs x1 x2 ls X hl  _u h
      obtain ⟨y1, h, hk1⟩ := lp_x h
      unfold fX7_allFields_4 at h
      refine lv_iload_n hx hb dX7_allFields_4 rfl (lv_at hl 2 rfl) ?_
      refine lv_aload_n hx hb dX7_allFields_5 rfl (lv_at hl 0 rfl) ?_
      refine gf_X7_21 F X ho dX7_allFields_6 ?_
      refine lv_icmp_ge (tgt := 27) hx hb dX7_allFields_9 (by decide) (fun c1 => ?_) (fun c1 => ?_)
      · have h := it_p h c1
        refine lv_iload_n hx hb dX7_allFields_27 rfl (lv_at hl 1 rfl) ?_
        have h := sm_x h
        rw [← h] at hk1
        have h := sm_x hk1
        exact RT H locs _ 28 ls X h dX7_allFields_28
      · have h := it_n h c1
        refine lv_iload_n hx hb dX7_allFields_12 rfl (lv_at hl 1 rfl) ?_
        refine lv_aload_n hx hb dX7_allFields_13 rfl (lv_at hl 0 rfl) ?_
        refine gf_X7_15 F X ho dX7_allFields_14 ?_
        refine lv_iload_n hx hb dX7_allFields_17 rfl (lv_at hl 2 rfl) ?_
        obtain ⟨hin, h⟩ := gd_x h
        refine r_iald F X (ar_X7_1 ho) hin dX7_allFields_18 ?_
        refine lv_iadd hx hb dX7_allFields_19 ?_
        obtain ⟨u2, eu2, h⟩ := nm_x h
        refine topE eu2 ?_
        refine lv_istore_n (lv' := [(1, .int u2), (0, .ref (ad (cO GC o))), (2, .int x2)]) hx hb dX7_allFields_20 rfl hl (by decide) rfl (fun ls hl => ?_)
        obtain ⟨u3, eu3, h⟩ := nm_x h
        refine lv_iinc (v := u3) (lv' := [(2, .int u3), (1, .int u2), (0, .ref (ad (cO GC o)))]) hx hb dX7_allFields_21 hl (k := 2) rfl (by rw [eu3]; rfl) (by decide) rfl (fun ls hl => ?_)
        refine lv_goto (tgt := 4) hx hb dX7_allFields_24 (by decide) ?_
        rw [← sm_x h] at hk1
        exact ih4 _ _ u2 u3 ls X (lv_sub hl [2, 1, 0] rfl)  () hk1
  have h := hz
  unfold fX7_allFields at h
  refine lv_iconst (v := 0) hx hb dX7_allFields_0 (by decide) ?_
  obtain ⟨u4, eu4, h⟩ := nm_x h
  refine topE eu4 ?_
  refine lv_istore_n (lv' := [(1, .int u4), (0, .ref (ad (cO GC o)))]) hx hb dX7_allFields_1 rfl hl (by decide) rfl (fun ls hl => ?_)
  refine lv_iconst (v := 0) hx hb dX7_allFields_2 (by decide) ?_
  obtain ⟨u5, eu5, h⟩ := nm_x h
  refine topE eu5 ?_
  refine lv_istore_n (lv' := [(2, .int u5), (1, .int u4), (0, .ref (ad (cO GC o)))]) hx hb dX7_allFields_3 rfl hl (by decide) rfl (fun ls hl => ?_)
  exact L4 FU _ _ u4 u5 ls X (lv_sub hl [2, 1, 0] rfl)  () h

/-! ===== X7_richestHeir ===== -/
def fX7_richestHeir_33 (o : Nat) (M : Mem) (x1 : Int32) (x2 : Int32) (x3 : Int32) : Option ((Int32 × Int32 × Int32) ⊕ Int32) :=
  nm (x3 + 1 : Int32) fun u1 =>
  some (.inl (x1, x2, u1))
def fX7_richestHeir_6 (o : Nat) (M : Mem) (x1 : Int32) (x2 : Int32) (x3 : Int32) : Option ((Int32 × Int32 × Int32) ⊕ Int32) :=
  if (M o 3 0) ≤ x3 then
    some (.inr x1)
  else
    gd (inB x3 8) <|
    (if (M o 0 (Int32.toNatClampNeg x3)) ≤ x2 then
      fX7_richestHeir_33 o M x1 x2 x3
    else
      gd (inB x3 8) <|
      nm (M o 0 (Int32.toNatClampNeg x3) : Int32) fun u4 =>
      nm (x3 : Int32) fun u5 =>
      fX7_richestHeir_33 o M u5 u4 x3)
def fX7_richestHeir (o : Nat) (M : Mem) : Option Int32 :=
  nm ((-1) : Int32) fun u6 =>
  nm (0 : Int32) fun u7 =>
  nm (0 : Int32) fun u8 =>
  lpO (fun st => fX7_richestHeir_6 o M st.1 st.2.1 st.2.2) FU (u6, u7, u8)
set_option maxHeartbeats 4000000 in
set_option maxRecDepth 100000 in
theorem kX7_richestHeir (l : Launch) (D : va_G) (ad : Nat → Nat) (cs : Nat → ClassId) (A : Nat → Prop) {o : Nat} (ho : GC[cO GC o]? = some (o, 0, 7, 0)) (M : Mem)  (z : Int32) (hz : fX7_richestHeir o M = some z) : Met l yX7_richestHeir (wsU yX7_richestHeir cX7_richestHeir 4 (some .int)) (rmo 1 64) (va_Pc [.ref (ad (cO GC o))] (Wd0 D ad cs GC A M)) (va_Qi (fun r u => (r, u) = (z, M)) (Wd0 D ad cs GC A) A) 0 0 A := by
  refine ct_i0 (by decide) rfl okGC (Nat.le_of_ble_eq_true rfl) ?_
  intro p e s m args below meth c Q ls F X hl RT
  have hx := F.1
  have hb := F.2.1
  have hl : lv_has ls 4 [(0, .ref (ad (cO GC o)))] := hl
  obtain ⟨H, hH⟩ : ∃ H, H = s.heap := ⟨_, rfl⟩
  rw [← hH] at X ⊢
  obtain ⟨locs, hlocs⟩ : ∃ locs : List Loc, locs = [] := ⟨_, rfl⟩
  rw [← hlocs] at X ⊢
  clear hH hlocs
  have L6 : ∀ (n : Nat) (H : Heap) (locs : List Loc) (x1 : Int32) (x2 : Int32) (x3 : Int32) (ls : Array Slot), Wd D ad cs GC A s H locs M → lv_has ls 4 [(0, .ref (ad (cO GC o))), (1, .int x1), (2, .int x2), (3, .int x3)] → ∀ (_ : Unit), lpO (fun st => fX7_richestHeir_6 o M st.1 st.2.1 st.2.2) n (x1, x2, x3) = some z → W p l e (rmo 1 64) s m args below meth c H locs 0 0 Q (F0 m 6 ls []) := by
    intro n
    induction n with
    | zero =>
      intro H locs x1 x2 x3 ls X hl  yy h
      exact lp_0 h
    | succ n1 ih6 =>
      intro H locs x1 x2 x3 ls X hl  _u h
      obtain ⟨y1, h, hk1⟩ := lp_x h
      have J33 : ∀ (H : Heap) (locs : List Loc) (x1 : Int32) (x2 : Int32) (x3 : Int32) (ls : Array Slot), Wd D ad cs GC A s H locs M → lv_has ls 4 [(0, .ref (ad (cO GC o))), (1, .int x1), (2, .int x2), (3, .int x3)] → ∀ (y1 : ((Int32 × Int32 × Int32) ⊕ Int32)), fX7_richestHeir_33 o M x1 x2 x3 = some y1 → lpK (fun st => fX7_richestHeir_6 o M st.1 st.2.1 st.2.2) n1 y1 = some z → W p l e (rmo 1 64) s m args below meth c H locs 0 0 Q (F0 m 33 ls []) := by
        intro H locs x1 x2 x3 ls X hl  y1 h hk1
        unfold fX7_richestHeir_33 at h
        obtain ⟨u1, eu1, h⟩ := nm_x h
        refine lv_iinc (v := u1) (lv' := [(3, .int u1), (0, .ref (ad (cO GC o))), (1, .int x1), (2, .int x2)]) hx hb dX7_richestHeir_33 hl (k := 3) rfl (by rw [eu1]; rfl) (by decide) rfl (fun ls hl => ?_)
        refine lv_goto (tgt := 6) hx hb dX7_richestHeir_36 (by decide) ?_
        rw [← sm_x h] at hk1
        exact ih6 _ _ x1 x2 u1 ls X (lv_sub hl [1, 2, 3, 0] rfl)  () hk1
      unfold fX7_richestHeir_6 at h
      refine lv_iload_n hx hb dX7_richestHeir_6 rfl (lv_at hl 3 rfl) ?_
      refine lv_aload_n hx hb dX7_richestHeir_7 rfl (lv_at hl 0 rfl) ?_
      refine gf_X7_21 F X ho dX7_richestHeir_8 ?_
      refine lv_icmp_ge (tgt := 39) hx hb dX7_richestHeir_11 (by decide) (fun c2 => ?_) (fun c2 => ?_)
      · have h := it_p h c2
        refine lv_iload_n hx hb dX7_richestHeir_39 rfl (lv_at hl 1 rfl) ?_
        have h := sm_x h
        rw [← h] at hk1
        have h := sm_x hk1
        exact RT H locs _ 40 ls X h dX7_richestHeir_40
      · have h := it_n h c2
        refine lv_aload_n hx hb dX7_richestHeir_14 rfl (lv_at hl 0 rfl) ?_
        refine gf_X7_9 F X ho dX7_richestHeir_15 ?_
        refine lv_iload_n hx hb dX7_richestHeir_18 rfl (lv_at hl 3 rfl) ?_
        obtain ⟨hin, h⟩ := gd_x h
        refine r_iald F X (ar_X7_0 ho) hin dX7_richestHeir_19 ?_
        refine lv_iload_n hx hb dX7_richestHeir_20 rfl (lv_at hl 2 rfl) ?_
        refine lv_icmp_le (tgt := 33) hx hb dX7_richestHeir_21 (by decide) (fun c3 => ?_) (fun c3 => ?_)
        · have h := it_p h c3
          exact J33 _ _ x1 x2 x3 ls X (lv_sub hl [0, 1, 2, 3] rfl)  _ h hk1
        · have h := it_n h c3
          refine lv_aload_n hx hb dX7_richestHeir_24 rfl (lv_at hl 0 rfl) ?_
          refine gf_X7_9 F X ho dX7_richestHeir_25 ?_
          refine lv_iload_n hx hb dX7_richestHeir_28 rfl (lv_at hl 3 rfl) ?_
          obtain ⟨hin, h⟩ := gd_x h
          refine r_iald F X (ar_X7_0 ho) hin dX7_richestHeir_29 ?_
          obtain ⟨u4, eu4, h⟩ := nm_x h
          refine topE eu4 ?_
          refine lv_istore_n (lv' := [(2, .int u4), (0, .ref (ad (cO GC o))), (1, .int x1), (3, .int x3)]) hx hb dX7_richestHeir_30 rfl hl (by decide) rfl (fun ls hl => ?_)
          refine lv_iload_n hx hb dX7_richestHeir_31 rfl (lv_at hl 3 rfl) ?_
          obtain ⟨u5, eu5, h⟩ := nm_x h
          refine topE eu5 ?_
          refine lv_istore_n (lv' := [(1, .int u5), (2, .int u4), (0, .ref (ad (cO GC o))), (3, .int x3)]) hx hb dX7_richestHeir_32 rfl hl (by decide) rfl (fun ls hl => ?_)
          exact J33 _ _ u5 u4 x3 ls X (lv_sub hl [2, 0, 1, 3] rfl)  _ h hk1
  have h := hz
  unfold fX7_richestHeir at h
  refine lv_iconst (v := (-1)) hx hb dX7_richestHeir_0 (by decide) ?_
  obtain ⟨u6, eu6, h⟩ := nm_x h
  refine topE eu6 ?_
  refine lv_istore_n (lv' := [(1, .int u6), (0, .ref (ad (cO GC o)))]) hx hb dX7_richestHeir_1 rfl hl (by decide) rfl (fun ls hl => ?_)
  refine lv_iconst (v := 0) hx hb dX7_richestHeir_2 (by decide) ?_
  obtain ⟨u7, eu7, h⟩ := nm_x h
  refine topE eu7 ?_
  refine lv_istore_n (lv' := [(2, .int u7), (1, .int u6), (0, .ref (ad (cO GC o)))]) hx hb dX7_richestHeir_3 rfl hl (by decide) rfl (fun ls hl => ?_)
  refine lv_iconst (v := 0) hx hb dX7_richestHeir_4 (by decide) ?_
  obtain ⟨u8, eu8, h⟩ := nm_x h
  refine topE eu8 ?_
  refine lv_istore_n (lv' := [(3, .int u8), (2, .int u7), (1, .int u6), (0, .ref (ad (cO GC o)))]) hx hb dX7_richestHeir_5 rfl hl (by decide) rfl (fun ls hl => ?_)
  exact L6 FU _ _ u6 u7 u8 ls X (lv_sub hl [3, 2, 1, 0] rfl)  () h

/-! ===== X7_hasMost ===== -/
def fX7_hasMost_43 (o : Nat) (M : Mem) (a1 : Int32) (x2 : Int32) : Option (Int32 ⊕ Int32) :=
  nm (x2 + 1 : Int32) fun u1 =>
  some (.inl u1)
def fX7_hasMost_13 (o : Nat) (M : Mem) (a1 : Int32) (x2 : Int32) : Option (Int32 ⊕ Int32) :=
  if (M o 3 0) ≤ x2 then
    some (.inr 1)
  else
    if x2 = a1 then
      fX7_hasMost_43 o M a1 x2
    else
      gd (inB x2 8) <|
      gd (inB a1 8) <|
      (if (M o 0 (Int32.toNatClampNeg x2)) < (M o 0 (Int32.toNatClampNeg a1)) then
        fX7_hasMost_43 o M a1 x2
      else
        some (.inr 0))
def fX7_hasMost (o : Nat) (M : Mem) (a1 : Int32) : Option Int32 :=
  gd (inB a1 8) <|
  (if 0 < (M o 0 (Int32.toNatClampNeg a1)) then
    nm (0 : Int32) fun u6 =>
    lpO (fun st => fX7_hasMost_13 o M a1 st) FU u6
  else
    some 0)
set_option maxHeartbeats 4000000 in
set_option maxRecDepth 100000 in
theorem kX7_hasMost (l : Launch) (D : va_G) (ad : Nat → Nat) (cs : Nat → ClassId) (A : Nat → Prop) {o : Nat} (ho : GC[cO GC o]? = some (o, 0, 7, 0)) (M : Mem) (a1 : Int32) (z : Int32) (hz : fX7_hasMost o M a1 = some z) : Met l yX7_hasMost (wsU yX7_hasMost cX7_hasMost 3 (some .boolean)) (rmo 1 64) (va_Pc [.ref (ad (cO GC o)), .int a1] (Wd0 D ad cs GC A M)) (va_Qi (fun r u => (r, u) = (z, M)) (Wd0 D ad cs GC A) A) 0 0 A := by
  refine ct_z0 (by decide) rfl okGC (Nat.le_of_ble_eq_true rfl) ?_
  intro p e s m args below meth c Q ls F X hl RT
  have hx := F.1
  have hb := F.2.1
  have hl : lv_has ls 3 [(0, .ref (ad (cO GC o))), (1, .int a1)] := hl
  obtain ⟨H, hH⟩ : ∃ H, H = s.heap := ⟨_, rfl⟩
  rw [← hH] at X ⊢
  obtain ⟨locs, hlocs⟩ : ∃ locs : List Loc, locs = [] := ⟨_, rfl⟩
  rw [← hlocs] at X ⊢
  clear hH hlocs
  have L13 : ∀ (n : Nat) (H : Heap) (locs : List Loc) (x2 : Int32) (ls : Array Slot), Wd D ad cs GC A s H locs M → lv_has ls 3 [(0, .ref (ad (cO GC o))), (1, .int a1), (2, .int x2)] → ∀ (_ : Unit), lpO (fun st => fX7_hasMost_13 o M a1 st) n x2 = some z → W p l e (rmo 1 64) s m args below meth c H locs 0 0 Q (F0 m 13 ls []) := by
    intro n
    induction n with
    | zero =>
      intro H locs x2 ls X hl  yy h
      exact lp_0 h
    | succ n1 ih13 =>
      intro H locs x2 ls X hl  _u h
      obtain ⟨y1, h, hk1⟩ := lp_x h
      have J43 : ∀ (H : Heap) (locs : List Loc) (x2 : Int32) (ls : Array Slot), Wd D ad cs GC A s H locs M → lv_has ls 3 [(0, .ref (ad (cO GC o))), (1, .int a1), (2, .int x2)] → ∀ (y1 : (Int32 ⊕ Int32)), fX7_hasMost_43 o M a1 x2 = some y1 → lpK (fun st => fX7_hasMost_13 o M a1 st) n1 y1 = some z → W p l e (rmo 1 64) s m args below meth c H locs 0 0 Q (F0 m 43 ls []) := by
        intro H locs x2 ls X hl  y1 h hk1
        unfold fX7_hasMost_43 at h
        obtain ⟨u1, eu1, h⟩ := nm_x h
        refine lv_iinc (v := u1) (lv' := [(2, .int u1), (0, .ref (ad (cO GC o))), (1, .int a1)]) hx hb dX7_hasMost_43 hl (k := 2) rfl (by rw [eu1]; rfl) (by decide) rfl (fun ls hl => ?_)
        refine lv_goto (tgt := 13) hx hb dX7_hasMost_46 (by decide) ?_
        rw [← sm_x h] at hk1
        exact ih13 _ _ u1 ls X (lv_sub hl [1, 2, 0] rfl)  () hk1
      unfold fX7_hasMost_13 at h
      refine lv_iload_n hx hb dX7_hasMost_13 rfl (lv_at hl 2 rfl) ?_
      refine lv_aload_n hx hb dX7_hasMost_14 rfl (lv_at hl 0 rfl) ?_
      refine gf_X7_21 F X ho dX7_hasMost_15 ?_
      refine lv_icmp_ge (tgt := 49) hx hb dX7_hasMost_18 (by decide) (fun c2 => ?_) (fun c2 => ?_)
      · have h := it_p h c2
        refine lv_iconst (v := 1) hx hb dX7_hasMost_49 (by decide) ?_
        have h := sm_x h
        rw [← h] at hk1
        have h := sm_x hk1
        exact RT H locs _ 50 ls X h (by decide) dX7_hasMost_50
      · have h := it_n h c2
        refine lv_iload_n hx hb dX7_hasMost_21 rfl (lv_at hl 2 rfl) ?_
        refine lv_iload_n hx hb dX7_hasMost_22 rfl (lv_at hl 1 rfl) ?_
        refine lv_icmp_eq (tgt := 43) hx hb dX7_hasMost_23 (by decide) (fun c3 => ?_) (fun c3 => ?_)
        · have h := it_p h c3
          exact J43 _ _ x2 ls X (lv_sub hl [0, 1, 2] rfl)  _ h hk1
        · have h := it_n h c3
          refine lv_aload_n hx hb dX7_hasMost_26 rfl (lv_at hl 0 rfl) ?_
          refine gf_X7_9 F X ho dX7_hasMost_27 ?_
          refine lv_iload_n hx hb dX7_hasMost_30 rfl (lv_at hl 2 rfl) ?_
          obtain ⟨hin, h⟩ := gd_x h
          refine r_iald F X (ar_X7_0 ho) hin dX7_hasMost_31 ?_
          refine lv_aload_n hx hb dX7_hasMost_32 rfl (lv_at hl 0 rfl) ?_
          refine gf_X7_9 F X ho dX7_hasMost_33 ?_
          refine lv_iload_n hx hb dX7_hasMost_36 rfl (lv_at hl 1 rfl) ?_
          obtain ⟨hin, h⟩ := gd_x h
          refine r_iald F X (ar_X7_0 ho) hin dX7_hasMost_37 ?_
          refine lv_icmp_lt (tgt := 43) hx hb dX7_hasMost_38 (by decide) (fun c4 => ?_) (fun c4 => ?_)
          · have h := it_p h c4
            exact J43 _ _ x2 ls X (lv_sub hl [0, 1, 2] rfl)  _ h hk1
          · have h := it_n h c4
            refine lv_iconst (v := 0) hx hb dX7_hasMost_41 (by decide) ?_
            have h := sm_x h
            rw [← h] at hk1
            have h := sm_x hk1
            exact RT H locs _ 42 ls X h (by decide) dX7_hasMost_42
  have h := hz
  unfold fX7_hasMost at h
  refine lv_aload_n hx hb dX7_hasMost_0 rfl (lv_at hl 0 rfl) ?_
  refine gf_X7_9 F X ho dX7_hasMost_1 ?_
  refine lv_iload_n hx hb dX7_hasMost_4 rfl (lv_at hl 1 rfl) ?_
  obtain ⟨hin, h⟩ := gd_x h
  refine r_iald F X (ar_X7_0 ho) hin dX7_hasMost_5 ?_
  refine lv_if_gt (tgt := 11) hx hb dX7_hasMost_6 (by decide) (fun c5 => ?_) (fun c5 => ?_)
  · have h := it_p h c5
    refine lv_iconst (v := 0) hx hb dX7_hasMost_11 (by decide) ?_
    obtain ⟨u6, eu6, h⟩ := nm_x h
    refine topE eu6 ?_
    refine lv_istore_n (lv' := [(2, .int u6), (0, .ref (ad (cO GC o))), (1, .int a1)]) hx hb dX7_hasMost_12 rfl hl (by decide) rfl (fun ls hl => ?_)
    exact L13 FU _ _ u6 ls X (lv_sub hl [1, 2, 0] rfl)  () h
  · have h := it_n h c5
    refine lv_iconst (v := 0) hx hb dX7_hasMost_9 (by decide) ?_
    have h := sm_x h
    exact RT H locs _ 10 ls X h (by decide) dX7_hasMost_10

/-! ===== X8_append ===== -/
def fX8_append (M : Mem) (a1 : Int32) (a2 : Int32) : Option Mem :=
  if 8 ≤ (M 10 2 0) then
    some M
  else
    gd (inB (M 10 2 0) 8) <|
    nm (wr M 10 0 (Int32.toNatClampNeg (M 10 2 0)) a1) fun M2 =>
    gd (inB (M2 10 2 0) 8) <|
    nm (wr M2 10 1 (Int32.toNatClampNeg (M2 10 2 0)) a2) fun M3 =>
    nm (wr M3 10 2 0 ((M3 10 2 0) + (1 : Int32))) fun M4 =>
    some M4
set_option maxHeartbeats 4000000 in
set_option maxRecDepth 100000 in
theorem kX8_append (l : Launch) (D : va_G) (ad : Nat → Nat) (cs : Nat → ClassId) (A : Nat → Prop)  (M : Mem) (a1 : Int32) (a2 : Int32) (z : Mem) (hz : fX8_append M a1 a2 = some z) : Met l yX8_append (wsU yX8_append cX8_append 3 none) (rmo 1 64) (va_Pc [.ref (ad (cO GC 10)), .int a1, .int a2] (Wd0 D ad cs GC A M)) (va_Qv (fun u => u = z) (Wd0 D ad cs GC A) A) 0 0 A := by
  refine ct_v (by decide) rfl okGC (Nat.le_of_ble_eq_true rfl) ?_
  intro p e s m args below meth c Q ls F X hl RT
  have hx := F.1
  have hb := F.2.1
  have hl : lv_has ls 3 [(0, .ref (ad (cO GC 10))), (1, .int a1), (2, .int a2)] := hl
  obtain ⟨H, hH⟩ : ∃ H, H = s.heap := ⟨_, rfl⟩
  rw [← hH] at X ⊢
  obtain ⟨locs, hlocs⟩ : ∃ locs : List Loc, locs = [] := ⟨_, rfl⟩
  rw [← hlocs] at X ⊢
  clear hH hlocs
  have h := hz
  unfold fX8_append at h
  refine lv_aload_n hx hb dX8_append_0 rfl (lv_at hl 0 rfl) ?_
  refine gf_X8_18 F X qC10 dX8_append_1 ?_
  refine lv_bipush (v := 8) hx hb dX8_append_4 (by decide) ?_
  refine lv_icmp_ge (tgt := 39) hx hb dX8_append_6 (by decide) (fun c1 => ?_) (fun c1 => ?_)
  · have h := it_p h c1
    have h := sm_x h
    exact RT H locs _ 39 ls X h dX8_append_39
  · have h := it_n h c1
    refine lv_aload_n hx hb dX8_append_9 rfl (lv_at hl 0 rfl) ?_
    refine gf_X8_9 F X qC10 dX8_append_10 ?_
    refine lv_aload_n hx hb dX8_append_13 rfl (lv_at hl 0 rfl) ?_
    refine gf_X8_18 F X qC10 dX8_append_14 ?_
    refine lv_iload_n hx hb dX8_append_17 rfl (lv_at hl 1 rfl) ?_
    obtain ⟨hin, h⟩ := gd_x h
    obtain ⟨M2, eM2, h⟩ := nm_x h
    refine r_iast F X (ar_X8_0 qC10) hin dX8_append_18 (fun H locs X => ?_)
    have X := Wd_eq eM2 X
    refine lv_aload_n hx hb dX8_append_19 rfl (lv_at hl 0 rfl) ?_
    refine gf_X8_15 F X qC10 dX8_append_20 ?_
    refine lv_aload_n hx hb dX8_append_23 rfl (lv_at hl 0 rfl) ?_
    refine gf_X8_18 F X qC10 dX8_append_24 ?_
    refine lv_iload_n hx hb dX8_append_27 rfl (lv_at hl 2 rfl) ?_
    obtain ⟨hin, h⟩ := gd_x h
    obtain ⟨M3, eM3, h⟩ := nm_x h
    refine r_iast F X (ar_X8_1 qC10) hin dX8_append_28 (fun H locs X => ?_)
    have X := Wd_eq eM3 X
    refine lv_aload_n hx hb dX8_append_29 rfl (lv_at hl 0 rfl) ?_
    refine lv_dup hx hb dX8_append_30 rfl ?_
    refine gf_X8_18 F X qC10 dX8_append_31 ?_
    refine lv_iconst (v := 1) hx hb dX8_append_34 (by decide) ?_
    refine lv_iadd hx hb dX8_append_35 ?_
    obtain ⟨M4, eM4, h⟩ := nm_x h
    refine pf_X8_18 F X qC10 dX8_append_36 (fun H locs X => ?_)
    have X := Wd_eq eM4 X
    have h := sm_x h
    exact RT H locs _ 39 ls X h dX8_append_39

/-! ===== X8_agrees ===== -/
def fX8_agrees_2 (M : Mem) (x2 : Int32) : Option (Int32 ⊕ Int32) :=
  if (M 10 2 0) ≤ x2 then
    some (.inr 1)
  else
    gd (inB x2 8) <|
    (if (M 7 6 0) ≤ (M 10 0 (Int32.toNatClampNeg x2)) then
      some (.inr 0)
    else
      gd (inB x2 8) <|
      gd (inB (M 10 0 (Int32.toNatClampNeg x2)) 20) <|
      gd (inB x2 8) <|
      (if (M 6 2 (Int32.toNatClampNeg (M 10 0 (Int32.toNatClampNeg x2)))) = (M 10 1 (Int32.toNatClampNeg x2)) then
        nm (x2 + 1 : Int32) fun u4 =>
        some (.inl u4)
      else
        some (.inr 0)))
def fX8_agrees (M : Mem) : Option Int32 :=
  nm (0 : Int32) fun u5 =>
  lpO (fun st => fX8_agrees_2 M st) FU u5
set_option maxHeartbeats 4000000 in
set_option maxRecDepth 100000 in
theorem kX8_agrees (l : Launch) (D : va_G) (ad : Nat → Nat) (cs : Nat → ClassId) (A : Nat → Prop)  (M : Mem)  (z : Int32) (hz : fX8_agrees M = some z) : Met l yX8_agrees (wsU yX8_agrees cX8_agrees 3 (some .boolean)) (rmo 1 64) (va_Pc [.ref (ad (cO GC 10)), .ref (ad (cO GC 6))] (Wd0 D ad cs GC A M)) (va_Qi (fun r u => (r, u) = (z, M)) (Wd0 D ad cs GC A) A) 0 0 A := by
  refine ct_z0 (by decide) rfl okGC (Nat.le_of_ble_eq_true rfl) ?_
  intro p e s m args below meth c Q ls F X hl RT
  have hx := F.1
  have hb := F.2.1
  have hl : lv_has ls 3 [(0, .ref (ad (cO GC 10))), (1, .ref (ad (cO GC 6)))] := hl
  obtain ⟨H, hH⟩ : ∃ H, H = s.heap := ⟨_, rfl⟩
  rw [← hH] at X ⊢
  obtain ⟨locs, hlocs⟩ : ∃ locs : List Loc, locs = [] := ⟨_, rfl⟩
  rw [← hlocs] at X ⊢
  clear hH hlocs
  have L2 : ∀ (n : Nat) (H : Heap) (locs : List Loc) (x2 : Int32) (ls : Array Slot), Wd D ad cs GC A s H locs M → lv_has ls 3 [(0, .ref (ad (cO GC 10))), (1, .ref (ad (cO GC 6))), (2, .int x2)] → ∀ (_ : Unit), lpO (fun st => fX8_agrees_2 M st) n x2 = some z → W p l e (rmo 1 64) s m args below meth c H locs 0 0 Q (F0 m 2 ls []) := by
    intro n
    induction n with
    | zero =>
      intro H locs x2 ls X hl  yy h
      exact lp_0 h
    | succ n1 ih2 =>
      intro H locs x2 ls X hl  _u h
      obtain ⟨y1, h, hk1⟩ := lp_x h
      unfold fX8_agrees_2 at h
      refine lv_iload_n hx hb dX8_agrees_2 rfl (lv_at hl 2 rfl) ?_
      refine lv_aload_n hx hb dX8_agrees_3 rfl (lv_at hl 0 rfl) ?_
      refine gf_X8_18 F X qC10 dX8_agrees_4 ?_
      refine lv_icmp_ge (tgt := 54) hx hb dX8_agrees_7 (by decide) (fun c1 => ?_) (fun c1 => ?_)
      · have h := it_p h c1
        refine lv_iconst (v := 1) hx hb dX8_agrees_54 (by decide) ?_
        have h := sm_x h
        rw [← h] at hk1
        have h := sm_x hk1
        exact RT H locs _ 55 ls X h (by decide) dX8_agrees_55
      · have h := it_n h c1
        refine lv_aload_n hx hb dX8_agrees_10 rfl (lv_at hl 0 rfl) ?_
        refine gf_X8_9 F X qC10 dX8_agrees_11 ?_
        refine lv_iload_n hx hb dX8_agrees_14 rfl (lv_at hl 2 rfl) ?_
        obtain ⟨hin, h⟩ := gd_x h
        refine r_iald F X (ar_X8_0 qC10) hin dX8_agrees_15 ?_
        refine lv_aload_n hx hb dX8_agrees_16 rfl (lv_at hl 1 rfl) ?_
        refine gf_X8_22 F X qC6 dX8_agrees_17 ?_
        refine gf_X8_28 F X qC7 dX8_agrees_20 ?_
        refine lv_icmp_ge (tgt := 46) hx hb dX8_agrees_23 (by decide) (fun c2 => ?_) (fun c2 => ?_)
        · have h := it_p h c2
          refine lv_iconst (v := 0) hx hb dX8_agrees_46 (by decide) ?_
          have h := sm_x h
          rw [← h] at hk1
          have h := sm_x hk1
          exact RT H locs _ 47 ls X h (by decide) dX8_agrees_47
        · have h := it_n h c2
          refine lv_aload_n hx hb dX8_agrees_26 rfl (lv_at hl 1 rfl) ?_
          refine gf_X8_32 F X qC6 dX8_agrees_27 ?_
          refine lv_aload_n hx hb dX8_agrees_30 rfl (lv_at hl 0 rfl) ?_
          refine gf_X8_9 F X qC10 dX8_agrees_31 ?_
          refine lv_iload_n hx hb dX8_agrees_34 rfl (lv_at hl 2 rfl) ?_
          obtain ⟨hin, h⟩ := gd_x h
          refine r_iald F X (ar_X8_0 qC10) hin dX8_agrees_35 ?_
          obtain ⟨hin, h⟩ := gd_x h
          refine r_iald F X (ar_X6_2 qC6) hin dX8_agrees_36 ?_
          refine lv_aload_n hx hb dX8_agrees_37 rfl (lv_at hl 0 rfl) ?_
          refine gf_X8_15 F X qC10 dX8_agrees_38 ?_
          refine lv_iload_n hx hb dX8_agrees_41 rfl (lv_at hl 2 rfl) ?_
          obtain ⟨hin, h⟩ := gd_x h
          refine r_iald F X (ar_X8_1 qC10) hin dX8_agrees_42 ?_
          refine lv_icmp_eq (tgt := 48) hx hb dX8_agrees_43 (by decide) (fun c3 => ?_) (fun c3 => ?_)
          · have h := it_p h c3
            obtain ⟨u4, eu4, h⟩ := nm_x h
            refine lv_iinc (v := u4) (lv' := [(2, .int u4), (0, .ref (ad (cO GC 10))), (1, .ref (ad (cO GC 6)))]) hx hb dX8_agrees_48 hl (k := 2) rfl (by rw [eu4]; rfl) (by decide) rfl (fun ls hl => ?_)
            refine lv_goto (tgt := 2) hx hb dX8_agrees_51 (by decide) ?_
            rw [← sm_x h] at hk1
            exact ih2 _ _ u4 ls X (lv_sub hl [1, 2, 0] rfl)  () hk1
          · have h := it_n h c3
            refine lv_iconst (v := 0) hx hb dX8_agrees_46 (by decide) ?_
            have h := sm_x h
            rw [← h] at hk1
            have h := sm_x hk1
            exact RT H locs _ 47 ls X h (by decide) dX8_agrees_47
  have h := hz
  unfold fX8_agrees at h
  refine lv_iconst (v := 0) hx hb dX8_agrees_0 (by decide) ?_
  obtain ⟨u5, eu5, h⟩ := nm_x h
  refine topE eu5 ?_
  refine lv_istore_n (lv' := [(2, .int u5), (0, .ref (ad (cO GC 10))), (1, .ref (ad (cO GC 6)))]) hx hb dX8_agrees_1 rfl hl (by decide) rfl (fun ls hl => ?_)
  exact L2 FU _ _ u5 ls X (lv_sub hl [1, 2, 0] rfl)  () h

