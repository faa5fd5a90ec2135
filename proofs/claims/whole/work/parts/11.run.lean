/-! ===== X0_hope ===== -/
def fX0_hope_53 (o0 : Nat) (o1 : Nat) (M : Mem) (a2 : Int32) (x4 : Int32) (v0 : Int32) (v1 : Int32) : Option ((Int32 × Int32) ⊕ Int32) :=
  nm (imin v1 v0 : Int32) fun u1 =>
  nm (x4 + 1 : Int32) fun u2 =>
  some (.inl (u1, u2))
def fX0_hope_29 (o0 : Nat) (o1 : Nat) (M : Mem) (a2 : Int32) (x3 : Int32) (x4 : Int32) (v0 : Int32) : Option ((Int32 × Int32) ⊕ Int32) :=
  nm (v0 : Int32) fun u3 =>
  (if u3 = 0 then
    (fX2_mostGain o0 M x4).bind fun r5 =>
    fX0_hope_53 o0 o1 M a2 x4 r5 x3
  else
    gd (inB x4 8) <|
    fX0_hope_53 o0 o1 M a2 x4 (M o1 0 (Int32.toNatClampNeg x4)) x3)
def fX0_hope_6 (o0 : Nat) (o1 : Nat) (M : Mem) (a2 : Int32) (x3 : Int32) (x4 : Int32) : Option ((Int32 × Int32) ⊕ Int32) :=
  if (M o0 5 0) ≤ x4 then
    some (.inr x3)
  else
    if ((a2 >>> (x4 &&& 31)) &&& (1 : Int32)) = 0 then
      fX0_hope_29 o0 o1 M a2 x3 x4 0
    else
      fX0_hope_29 o0 o1 M a2 x3 x4 1
def fX0_hope (o0 : Nat) (o1 : Nat) (M : Mem) (a2 : Int32) : Option Int32 :=
  nm (18 : Int32) fun u8 =>
  nm (0 : Int32) fun u9 =>
  lpO (fun st => fX0_hope_6 o0 o1 M a2 st.1 st.2) FU (u8, u9)
set_option maxHeartbeats 4000000 in
set_option maxRecDepth 100000 in
theorem kX0_hope (l : Launch) (D : va_G) (ad : Nat → Nat) (cs : Nat → ClassId) (A : Nat → Prop) {o0 : Nat} (ho0 : GC[cO GC o0]? = some (o0, 0, 2, 0)) {o1 : Nat} (ho1 : GC[cO GC o1]? = some (o1, 0, 7, 0)) (M : Mem) (a2 : Int32) (z : Int32) (hz : fX0_hope o0 o1 M a2 = some z) : Met l yX0_hope (wsU yX0_hope cX0_hope 6 (some .int)) (rmo 2 87) (va_Pc [.ref (ad (cO GC o0)), .ref (ad (cO GC o1)), .int a2] (Wd0 D ad cs GC A M)) (va_Qi (fun r u => (r, u) = (z, M)) (Wd0 D ad cs GC A) A) 0 0 A := by
  refine ct_i0 (by decide) rfl okGC (Nat.le_of_ble_eq_true rfl) ?_
  intro p e s m args below meth c Q ls F X hl RT
  have hx := F.1
  have hb := F.2.1
  have hl : lv_has ls 6 [(0, .ref (ad (cO GC o0))), (1, .ref (ad (cO GC o1))), (2, .int a2)] := hl
  obtain ⟨H, hH⟩ : ∃ H, H = s.heap := ⟨_, rfl⟩
  rw [← hH] at X ⊢
  obtain ⟨locs, hlocs⟩ : ∃ locs : List Loc, locs = [] := ⟨_, rfl⟩
  rw [← hlocs] at X ⊢
  clear hH hlocs
  have L6 : ∀ (n : Nat) (H : Heap) (locs : List Loc) (x3 : Int32) (x4 : Int32) (ls : Array Slot), Wd D ad cs GC A s H locs M → lv_has ls 6 [(0, .ref (ad (cO GC o0))), (1, .ref (ad (cO GC o1))), (2, .int a2), (3, .int x3), (4, .int x4)] → ∀ (_ : Unit), lpO (fun st => fX0_hope_6 o0 o1 M a2 st.1 st.2) n (x3, x4) = some z → W p l e (rmo 2 87) s m args below meth c H locs 0 0 Q (F0 m 6 ls []) := by
    intro n
    induction n with
    | zero =>
      intro H locs x3 x4 ls X hl  yy h
      exact lp_0 h
    | succ n1 ih6 =>
      intro H locs x3 x4 ls X hl  _u h
      obtain ⟨y1, h, hk1⟩ := lp_x h
      have J53 : ∀ (H : Heap) (locs : List Loc) (x4 : Int32) (v0 : Int32) (v1 : Int32) (ls : Array Slot), Wd D ad cs GC A s H locs M → lv_has ls 6 [(0, .ref (ad (cO GC o0))), (1, .ref (ad (cO GC o1))), (2, .int a2), (4, .int x4)] → ∀ (y1 : ((Int32 × Int32) ⊕ Int32)), fX0_hope_53 o0 o1 M a2 x4 v0 v1 = some y1 → lpK (fun st => fX0_hope_6 o0 o1 M a2 st.1 st.2) n1 y1 = some z → W p l e (rmo 2 87) s m args below meth c H locs 0 0 Q (F0 m 53 ls [.int v0, .int v1]) := by
        intro H locs x4 v0 v1 ls X hl  y1 h hk1
        unfold fX0_hope_53 at h
        refine r_mmin F hl.1 (mT3 114 rfl rfl) (mT2 189 rfl rfl) (mT1 14 rfl rfl) (mT2 190 rfl rfl) (Nat.le_of_ble_eq_true rfl) (Nat.le_of_ble_eq_true rfl) dX0_hope_53 ?_
        obtain ⟨u1, eu1, h⟩ := nm_x h
        refine topE eu1 ?_
        refine lv_istore_n (lv' := [(3, .int u1), (0, .ref (ad (cO GC o0))), (1, .ref (ad (cO GC o1))), (2, .int a2), (4, .int x4)]) hx hb dX0_hope_56 rfl hl (by decide) rfl (fun ls hl => ?_)
        obtain ⟨u2, eu2, h⟩ := nm_x h
        refine lv_iinc (v := u2) (lv' := [(4, .int u2), (3, .int u1), (0, .ref (ad (cO GC o0))), (1, .ref (ad (cO GC o1))), (2, .int a2)]) hx hb dX0_hope_57 hl (k := 4) rfl (by rw [eu2]; rfl) (by decide) rfl (fun ls hl => ?_)
        refine lv_goto (tgt := 6) hx hb dX0_hope_60 (by decide) ?_
        rw [← sm_x h] at hk1
        exact ih6 _ _ u1 u2 ls X (lv_sub hl [2, 3, 4, 1, 0] rfl)  () hk1
      have J29 : ∀ (H : Heap) (locs : List Loc) (x3 : Int32) (x4 : Int32) (v0 : Int32) (ls : Array Slot), Wd D ad cs GC A s H locs M → lv_has ls 6 [(0, .ref (ad (cO GC o0))), (1, .ref (ad (cO GC o1))), (2, .int a2), (3, .int x3), (4, .int x4)] → ∀ (y1 : ((Int32 × Int32) ⊕ Int32)), fX0_hope_29 o0 o1 M a2 x3 x4 v0 = some y1 → lpK (fun st => fX0_hope_6 o0 o1 M a2 st.1 st.2) n1 y1 = some z → W p l e (rmo 2 87) s m args below meth c H locs 0 0 Q (F0 m 29 ls [.int v0]) := by
        intro H locs x3 x4 v0 ls X hl  y1 h hk1
        unfold fX0_hope_29 at h
        obtain ⟨u3, eu3, h⟩ := nm_x h
        refine topE eu3 ?_
        refine lv_istore (lv' := [(5, .int u3), (0, .ref (ad (cO GC o0))), (1, .ref (ad (cO GC o1))), (2, .int a2), (3, .int x3), (4, .int x4)]) hx hb dX0_hope_29 hl (by decide) rfl (fun ls hl => ?_)
        refine lv_iload_n hx hb dX0_hope_31 rfl (lv_at hl 4 rfl) ?_
        refine lv_iload hx hb dX0_hope_32 (lv_at hl 0 rfl) ?_
        refine lv_if_eq (tgt := 47) hx hb dX0_hope_34 (by decide) (fun c4 => ?_) (fun c4 => ?_)
        · have h := it_p h c4
          refine lv_aload_n hx hb dX0_hope_47 rfl (lv_at hl 1 rfl) ?_
          refine lv_iload hx hb dX0_hope_48 (lv_at hl 5 rfl) ?_
          obtain ⟨r5, hr5, h⟩ := bd_x h
          refine r_calli0 X (r_runV F X (kX2_mostGain l D ad cs A ho0 M x4 _ hr5) gm_X0_62 hd_X2_mostGain ⟨Nat.le_of_ble_eq_true rfl, Nat.le_of_ble_eq_true rfl⟩ ho0 rfl rfl hl.1 rfl (Nat.le_of_ble_eq_true rfl) dX0_hope_50) (fun H locs X => ?_)
          exact J53 _ _ x4 r5 x3 ls X (lv_sub hl [1, 2, 3, 5] rfl)  _ h hk1
        · have h := it_n h c4
          refine lv_aload_n hx hb dX0_hope_37 rfl (lv_at hl 2 rfl) ?_
          refine gf_X0_59 F X ho1 dX0_hope_38 ?_
          refine lv_iload hx hb dX0_hope_41 (lv_at hl 5 rfl) ?_
          obtain ⟨hin, h⟩ := gd_x h
          refine r_iald F X (ar_X7_0 ho1) hin dX0_hope_43 ?_
          refine lv_goto (tgt := 53) hx hb dX0_hope_44 (by decide) ?_
          exact J53 _ _ x4 (M o1 0 (Int32.toNatClampNeg x4)) x3 ls X (lv_sub hl [1, 2, 3, 5] rfl)  _ h hk1
      unfold fX0_hope_6 at h
      refine lv_iload hx hb dX0_hope_6 (lv_at hl 4 rfl) ?_
      refine lv_aload_n hx hb dX0_hope_8 rfl (lv_at hl 0 rfl) ?_
      refine gf_X0_37 F X ho0 dX0_hope_9 ?_
      refine lv_icmp_ge (tgt := 63) hx hb dX0_hope_12 (by decide) (fun c6 => ?_) (fun c6 => ?_)
      · have h := it_p h c6
        refine lv_iload_n hx hb dX0_hope_63 rfl (lv_at hl 3 rfl) ?_
        have h := sm_x h
        rw [← h] at hk1
        have h := sm_x hk1
        exact RT H locs _ 64 ls X h dX0_hope_64
      · have h := it_n h c6
        refine lv_iload_n hx hb dX0_hope_15 rfl (lv_at hl 2 rfl) ?_
        refine lv_iload hx hb dX0_hope_16 (lv_at hl 4 rfl) ?_
        refine lv_ishr hx hb dX0_hope_18 ?_
        refine lv_iconst (v := 1) hx hb dX0_hope_19 (by decide) ?_
        refine lv_iand hx hb dX0_hope_20 ?_
        refine lv_if_eq (tgt := 28) hx hb dX0_hope_21 (by decide) (fun c7 => ?_) (fun c7 => ?_)
        · have h := it_p h c7
          refine lv_iconst (v := 0) hx hb dX0_hope_28 (by decide) ?_
          exact J29 _ _ x3 x4 0 ls X (lv_sub hl [0, 1, 2, 3, 4] rfl)  _ h hk1
        · have h := it_n h c7
          refine lv_iconst (v := 1) hx hb dX0_hope_24 (by decide) ?_
          refine lv_goto (tgt := 29) hx hb dX0_hope_25 (by decide) ?_
          exact J29 _ _ x3 x4 1 ls X (lv_sub hl [0, 1, 2, 3, 4] rfl)  _ h hk1
  have h := hz
  unfold fX0_hope at h
  refine lv_bipush (v := 18) hx hb dX0_hope_0 (by decide) ?_
  obtain ⟨u8, eu8, h⟩ := nm_x h
  refine topE eu8 ?_
  refine lv_istore_n (lv' := [(3, .int u8), (0, .ref (ad (cO GC o0))), (1, .ref (ad (cO GC o1))), (2, .int a2)]) hx hb dX0_hope_2 rfl hl (by decide) rfl (fun ls hl => ?_)
  refine lv_iconst (v := 0) hx hb dX0_hope_3 (by decide) ?_
  obtain ⟨u9, eu9, h⟩ := nm_x h
  refine topE eu9 ?_
  refine lv_istore (lv' := [(4, .int u9), (3, .int u8), (0, .ref (ad (cO GC o0))), (1, .ref (ad (cO GC o1))), (2, .int a2)]) hx hb dX0_hope_4 hl (by decide) rfl (fun ls hl => ?_)
  exact L6 FU _ _ u8 u9 ls X (lv_sub hl [2, 3, 4, 1, 0] rfl)  () h

/-! ===== X0_seek ===== -/
def fX0_seek_137 (rc : Nat → Mem → Int32 → Int32 → Option Mem) (o1 : Nat) (a2 : Int32) (a3 : Int32) (p4 : Nat) (x5 : Int32) (M : Mem) : Option ((Nat × Int32 × Mem) ⊕ Mem) :=
  nm (x5 + 1 : Int32) fun u1 =>
  some (.inl (p4, u1, M))
def fX0_seek_58 (rc : Nat → Mem → Int32 → Int32 → Option Mem) (o1 : Nat) (a2 : Int32) (a3 : Int32) (p4 : Nat) (x5 : Int32) (M : Mem) : Option ((Nat × Int32 × Mem) ⊕ Mem) :=
  if (M o1 5 0) ≤ x5 then
    some (.inr M)
  else
    if ((a3 >>> (x5 &&& 31)) &&& (1 : Int32)) = 0 then
      nm (a3 ||| ((1 : Int32) <<< (x5 &&& 31)) : Int32) fun u4 =>
      gd (inB a2 8) <|
      nm (wr M 11 1 (Int32.toNatClampNeg a2) x5) fun M5 =>
      gd (inB a2 9) <|
      (fX7_copyFrom p4 (12 + Int32.toNatClampNeg a2) M5).bind fun r7 =>
      (fX7_visit p4 o1 r7 a2 x5).bind fun r8 =>
      (fX0_hope o1 p4 r8 u4).bind fun r9 =>
      (if r9 ≤ (r8 11 3 0) then
        fX0_seek_137 rc o1 a2 a3 p4 x5 r8
      else
        (rc o1 r8 (a2 + (1 : Int32)) u4).bind fun r11 =>
        fX0_seek_137 rc o1 a2 a3 p4 x5 r11)
    else
      fX0_seek_137 rc o1 a2 a3 p4 x5 M
def fX0_seek_14 (rc : Nat → Mem → Int32 → Int32 → Option Mem) (o1 : Nat) (a2 : Int32) (a3 : Int32) (M : Mem) : Option Mem :=
  gd (inB a2 9) <|
  (fX0_hope o1 (12 + Int32.toNatClampNeg a2) M a3).bind fun r13 =>
  nm (wr M 11 3 0 r13) fun M14 =>
  nm (cpM M14 11 1 11 2 (Int32.toNatClampNeg 0) (Int32.toNatClampNeg 0) (Int32.toNatClampNeg 8)) fun M15 =>
  some M15
def fX0_seek_0 (rc : Nat → Mem → Int32 → Int32 → Option Mem) (o1 : Nat) (M : Mem) (a2 : Int32) (a3 : Int32) : Option Mem :=
  if (M o1 5 0) ≤ a2 then
    fX0_seek_14 rc o1 a2 a3 M
  else
    if a2 < 8 then
      gd (inB (a2 + (1 : Int32)) 9) <|
      nm (0 : Int32) fun u19 =>
      lpO (fun st => fX0_seek_58 rc o1 a2 a3 st.1 st.2.1 st.2.2) FU ((12 + Int32.toNatClampNeg (a2 + (1 : Int32))), u19, M)
    else
      fX0_seek_14 rc o1 a2 a3 M
def fX0_seek : Nat → Nat → Mem → Int32 → Int32 → Option Mem
  | 0 => fun _ _ _ _ => none
  | n + 1 => fX0_seek_0 (fX0_seek n)
set_option maxHeartbeats 4000000 in
set_option maxRecDepth 100000 in
theorem kX0_seek (l : Launch) (D : va_G) (ad : Nat → Nat) (cs : Nat → ClassId) (A : Nat → Prop) : ∀ (d : Nat) {o1 : Nat} (ho1 : GC[cO GC o1]? = some (o1, 0, 2, 0)) (M : Mem) (a2 : Int32) (a3 : Int32) (z : Mem) (hz : fX0_seek d o1 M a2 a3 = some z), Met l yX0_seek (wsU yX0_seek cX0_seek 7 none) (rmo (10 + d) (300 + 26 * d)) (va_Pc [.ref (ad (cO GC 11)), .ref (ad (cO GC o1)), .int a2, .int a3] (Wd0 D ad cs GC A M)) (va_Qv (fun u => u = z) (Wd0 D ad cs GC A) A) 0 0 A := by
  intro d
  induction d with
  | zero =>
    intro o1 ho1 M a2 a3 z hz
    cases hz
  | succ d ihc =>
    intro o1 ho1 M a2 a3 z hz
    have hRr : (10 + d) + 1 ≤ (rmo (10 + (d + 1)) (300 + 26 * (d + 1))).frames ∧ 8 + (7 + 11) + (300 + 26 * d) ≤ (rmo (10 + (d + 1)) (300 + 26 * (d + 1))).locals := ⟨by show _ ≤ 10 + (d + 1); omega, by show _ ≤ 300 + 26 * (d + 1); omega⟩
    have hz : fX0_seek_0 (fX0_seek d) o1 M a2 a3 = some z := hz
    generalize fX0_seek d = rc at hz ihc
    refine ct_v (by decide) rfl okGC (Nat.le_of_ble_eq_true rfl) ?_
    intro p e s m args below meth c Q ls F X hl RT
    have hx := F.1
    have hb := F.2.1
    have hl : lv_has ls 7 [(0, .ref (ad (cO GC 11))), (1, .ref (ad (cO GC o1))), (2, .int a2), (3, .int a3)] := hl
    obtain ⟨H, hH⟩ : ∃ H, H = s.heap := ⟨_, rfl⟩
    rw [← hH] at X ⊢
    obtain ⟨locs, hlocs⟩ : ∃ locs : List Loc, locs = [] := ⟨_, rfl⟩
    rw [← hlocs] at X ⊢
    clear hH hlocs
    have L58 : ∀ (n : Nat) (H : Heap) (locs : List Loc) (p4 : Nat) (x5 : Int32) (M : Mem) (ls : Array Slot), Wd D ad cs GC A s H locs M → lv_has ls 7 [(0, .ref (ad (cO GC 11))), (1, .ref (ad (cO GC o1))), (2, .int a2), (3, .int a3), (4, .ref (ad (cO GC p4))), (5, .int x5)] → GC[cO GC p4]? = some (p4, 0, 7, 0) → ∀ (_ : Unit), lpO (fun st => fX0_seek_58 rc o1 a2 a3 st.1 st.2.1 st.2.2) n (p4, x5, M) = some z → W p l e (rmo (10 + (d + 1)) (300 + 26 * (d + 1))) s m args below meth c H locs 0 0 Q (F0 m 58 ls []) := by
      intro n
      induction n with
      | zero =>
        intro H locs p4 x5 M ls X hl hq4 yy h
        exact lp_0 h
      | succ n1 ih58 =>
        intro H locs p4 x5 M ls X hl hq4 _u h
        obtain ⟨y1, h, hk1⟩ := lp_x h
        have J137 : ∀ (H : Heap) (locs : List Loc) (p4 : Nat) (x5 : Int32) (M : Mem) (ls : Array Slot), Wd D ad cs GC A s H locs M → lv_has ls 7 [(0, .ref (ad (cO GC 11))), (1, .ref (ad (cO GC o1))), (2, .int a2), (3, .int a3), (4, .ref (ad (cO GC p4))), (5, .int x5)] → GC[cO GC p4]? = some (p4, 0, 7, 0) → ∀ (y1 : ((Nat × Int32 × Mem) ⊕ Mem)), fX0_seek_137 rc o1 a2 a3 p4 x5 M = some y1 → lpK (fun st => fX0_seek_58 rc o1 a2 a3 st.1 st.2.1 st.2.2) n1 y1 = some z → W p l e (rmo (10 + (d + 1)) (300 + 26 * (d + 1))) s m args below meth c H locs 0 0 Q (F0 m 137 ls []) := by
          intro H locs p4 x5 M ls X hl hq4 y1 h hk1
          unfold fX0_seek_137 at h
          obtain ⟨u1, eu1, h⟩ := nm_x h
          refine lv_iinc (v := u1) (lv' := [(5, .int u1), (0, .ref (ad (cO GC 11))), (1, .ref (ad (cO GC o1))), (2, .int a2), (3, .int a3), (4, .ref (ad (cO GC p4)))]) hx hb dX0_seek_137 hl (k := 5) rfl (by rw [eu1]; rfl) (by decide) rfl (fun ls hl => ?_)
          refine lv_goto (tgt := 58) hx hb dX0_seek_140 (by decide) ?_
          rw [← sm_x h] at hk1
          exact ih58 _ _ p4 u1 M ls X (lv_sub hl [1, 2, 3, 4, 5, 0] rfl) hq4 () hk1
        unfold fX0_seek_58 at h
        refine lv_iload hx hb dX0_seek_58 (lv_at hl 5 rfl) ?_
        refine lv_aload_n hx hb dX0_seek_60 rfl (lv_at hl 1 rfl) ?_
        refine gf_X0_37 F X ho1 dX0_seek_61 ?_
        refine lv_icmp_ge (tgt := 143) hx hb dX0_seek_64 (by decide) (fun c2 => ?_) (fun c2 => ?_)
        · have h := it_p h c2
          have h := sm_x h
          rw [← h] at hk1
          have h := sm_x hk1
          exact RT H locs _ 143 ls X h dX0_seek_143
        · have h := it_n h c2
          refine lv_iload_n hx hb dX0_seek_67 rfl (lv_at hl 3 rfl) ?_
          refine lv_iload hx hb dX0_seek_68 (lv_at hl 5 rfl) ?_
          refine lv_ishr hx hb dX0_seek_70 ?_
          refine lv_iconst (v := 1) hx hb dX0_seek_71 (by decide) ?_
          refine lv_iand hx hb dX0_seek_72 ?_
          refine lv_if_ne (tgt := 137) hx hb dX0_seek_73 (by decide) (fun c3 => ?_) (fun c3 => ?_)
          · have h := it_n h c3
            exact J137 _ _ p4 x5 M ls X (lv_sub hl [0, 1, 2, 3, 4, 5] rfl) hq4 _ h hk1
          · have h := it_p h c3
            refine lv_iload_n hx hb dX0_seek_76 rfl (lv_at hl 3 rfl) ?_
            refine lv_iconst (v := 1) hx hb dX0_seek_77 (by decide) ?_
            refine lv_iload hx hb dX0_seek_78 (lv_at hl 5 rfl) ?_
            refine lv_ishl hx hb dX0_seek_80 ?_
            refine lv_ior hx hb dX0_seek_81 ?_
            obtain ⟨u4, eu4, h⟩ := nm_x h
            refine topE eu4 ?_
            refine lv_istore (lv' := [(6, .int u4), (0, .ref (ad (cO GC 11))), (1, .ref (ad (cO GC o1))), (2, .int a2), (3, .int a3), (4, .ref (ad (cO GC p4))), (5, .int x5)]) hx hb dX0_seek_82 hl (by decide) rfl (fun ls hl => ?_)
            refine lv_aload_n hx hb dX0_seek_84 rfl (lv_at hl 1 rfl) ?_
            refine gf_X0_17 F X qC11 dX0_seek_85 ?_
            refine lv_iload_n hx hb dX0_seek_88 rfl (lv_at hl 3 rfl) ?_
            refine lv_iload hx hb dX0_seek_89 (lv_at hl 6 rfl) ?_
            obtain ⟨hin, h⟩ := gd_x h
            obtain ⟨M5, eM5, h⟩ := nm_x h
            refine r_iast F X (ar_X0_1 qC11) hin dX0_seek_91 (fun H locs X => ?_)
            have X := Wd_eq eM5 X
            refine lv_aload hx hb dX0_seek_92 (lv_at hl 5 rfl) ?_
            refine lv_aload_n hx hb dX0_seek_94 rfl (lv_at hl 1 rfl) ?_
            refine gf_X0_11 F X qC11 dX0_seek_95 ?_
            refine lv_iload_n hx hb dX0_seek_98 rfl (lv_at hl 3 rfl) ?_
            obtain ⟨hin, h⟩ := gd_x h
            have hw6 := q_walk (i := a2) hin
            refine r_aald3 F X (ar_X0_0 qC11) hin dX0_seek_99 ?_
            obtain ⟨r7, hr7, h⟩ := bd_x h
            refine r_callv X (r_runV F X (kX7_copyFrom l D ad cs A hq4 hw6 M5  _ hr7) gm_X0_52 hd_X7_copyFrom ⟨by show _ ≤ 10 + _; omega, by show _ ≤ 300 + _; omega⟩ hq4 rfl rfl hl.1 rfl (Nat.le_of_ble_eq_true rfl) dX0_seek_100) (fun H locs X => ?_)
            refine lv_aload hx hb dX0_seek_103 (lv_at hl 5 rfl) ?_
            refine lv_aload_n hx hb dX0_seek_105 rfl (lv_at hl 2 rfl) ?_
            refine lv_iload_n hx hb dX0_seek_106 rfl (lv_at hl 3 rfl) ?_
            refine lv_iload hx hb dX0_seek_107 (lv_at hl 6 rfl) ?_
            obtain ⟨r8, hr8, h⟩ := bd_x h
            refine r_callv X (r_runV F X (kX7_visit l D ad cs A hq4 ho1 r7 a2 x5 _ hr8) gm_X0_56 hd_X7_visit ⟨by show _ ≤ 10 + _; omega, by show _ ≤ 300 + _; omega⟩ hq4 rfl rfl hl.1 rfl (Nat.le_of_ble_eq_true rfl) dX0_seek_109) (fun H locs X => ?_)
            refine lv_aload_n hx hb dX0_seek_112 rfl (lv_at hl 2 rfl) ?_
            refine lv_aload hx hb dX0_seek_113 (lv_at hl 5 rfl) ?_
            refine lv_iload hx hb dX0_seek_115 (lv_at hl 0 rfl) ?_
            obtain ⟨r9, hr9, h⟩ := bd_x h
            refine r_calli0 X (r_runS F X (kX0_hope l D ad cs A ho1 hq4 r8 u4 _ hr9) gm_X0_42 hd_X0_hope ⟨by show _ ≤ 10 + _; omega, by show _ ≤ 300 + _; omega⟩ rfl hl.1 rfl (Nat.le_of_ble_eq_true rfl) dX0_seek_117) (fun H locs X => ?_)
            refine lv_aload_n hx hb dX0_seek_120 rfl (lv_at hl 1 rfl) ?_
            refine gf_X0_24 F X qC11 dX0_seek_121 ?_
            refine lv_icmp_le (tgt := 137) hx hb dX0_seek_124 (by decide) (fun c10 => ?_) (fun c10 => ?_)
            · have h := it_p h c10
              exact J137 _ _ p4 x5 r8 ls X (lv_sub hl [1, 2, 3, 4, 5, 6] rfl) hq4 _ h hk1
            · have h := it_n h c10
              refine lv_aload_n hx hb dX0_seek_127 rfl (lv_at hl 1 rfl) ?_
              refine lv_aload_n hx hb dX0_seek_128 rfl (lv_at hl 2 rfl) ?_
              refine lv_iload_n hx hb dX0_seek_129 rfl (lv_at hl 3 rfl) ?_
              refine lv_iconst (v := 1) hx hb dX0_seek_130 (by decide) ?_
              refine lv_iadd hx hb dX0_seek_131 ?_
              refine lv_iload hx hb dX0_seek_132 (lv_at hl 0 rfl) ?_
              obtain ⟨r11, hr11, h⟩ := bd_x h
              refine r_callv X (r_runV F X (ihc ho1 r8 (a2 + (1 : Int32)) u4 _ hr11) gm_X0_33 hd_X0_seek hRr qC11 rfl rfl hl.1 rfl (Nat.le_of_ble_eq_true rfl) dX0_seek_134) (fun H locs X => ?_)
              exact J137 _ _ p4 x5 r11 ls X (lv_sub hl [1, 2, 3, 4, 5, 6] rfl) hq4 _ h hk1
    have J14 : ∀ (H : Heap) (locs : List Loc) (M : Mem) (ls : Array Slot), Wd D ad cs GC A s H locs M → lv_has ls 7 [(0, .ref (ad (cO GC 11))), (1, .ref (ad (cO GC o1))), (2, .int a2), (3, .int a3)] → ∀ (_ : Unit), fX0_seek_14 rc o1 a2 a3 M = some z → W p l e (rmo (10 + (d + 1)) (300 + 26 * (d + 1))) s m args below meth c H locs 0 0 Q (F0 m 14 ls []) := by
      intro H locs M ls X hl  _u h
      unfold fX0_seek_14 at h
      refine lv_aload_n hx hb dX0_seek_14 rfl (lv_at hl 0 rfl) ?_
      refine lv_aload_n hx hb dX0_seek_15 rfl (lv_at hl 1 rfl) ?_
      refine lv_aload_n hx hb dX0_seek_16 rfl (lv_at hl 0 rfl) ?_
      refine gf_X0_11 F X qC11 dX0_seek_17 ?_
      refine lv_iload_n hx hb dX0_seek_20 rfl (lv_at hl 2 rfl) ?_
      obtain ⟨hin, h⟩ := gd_x h
      have hw12 := q_walk (i := a2) hin
      refine r_aald3 F X (ar_X0_0 qC11) hin dX0_seek_21 ?_
      refine lv_iload_n hx hb dX0_seek_22 rfl (lv_at hl 3 rfl) ?_
      obtain ⟨r13, hr13, h⟩ := bd_x h
      refine r_calli0 X (r_runS F X (kX0_hope l D ad cs A ho1 hw12 M a3 _ hr13) gm_X0_42 hd_X0_hope ⟨by show _ ≤ 10 + _; omega, by show _ ≤ 300 + _; omega⟩ rfl hl.1 rfl (Nat.le_of_ble_eq_true rfl) dX0_seek_23) (fun H locs X => ?_)
      obtain ⟨M14, eM14, h⟩ := nm_x h
      refine pf_X0_24 F X qC11 dX0_seek_26 (fun H locs X => ?_)
      have X := Wd_eq eM14 X
      refine lv_aload_n hx hb dX0_seek_29 rfl (lv_at hl 0 rfl) ?_
      refine gf_X0_17 F X qC11 dX0_seek_30 ?_
      refine lv_iconst (v := 0) hx hb dX0_seek_33 (by decide) ?_
      refine lv_aload_n hx hb dX0_seek_34 rfl (lv_at hl 0 rfl) ?_
      refine gf_X0_21 F X qC11 dX0_seek_35 ?_
      refine lv_iconst (v := 0) hx hb dX0_seek_38 (by decide) ?_
      refine lv_bipush (v := 8) hx hb dX0_seek_39 (by decide) ?_
      obtain ⟨M15, eM15, h⟩ := nm_x h
      refine r_copy F X hl.1 (ar_X0_1 qC11) (ar_X0_2 qC11) (mT3 115 rfl rfl) (mT2 62 rfl rfl) (mT2 61 rfl rfl) (mT1 11 rfl rfl) (by decide) (Nat.le_of_ble_eq_true rfl) (Nat.le_trans (m := 300) (Nat.le_of_ble_eq_true rfl) (Nat.le_add_right 300 _)) dX0_seek_41 (fun H locs X => ?_)
      have X := Wd_eq eM15 X
      have h := sm_x h
      exact RT H locs _ 44 ls X h dX0_seek_44
    have h := hz
    unfold fX0_seek_0 at h
    refine lv_iload_n hx hb dX0_seek_0 rfl (lv_at hl 2 rfl) ?_
    refine lv_aload_n hx hb dX0_seek_1 rfl (lv_at hl 1 rfl) ?_
    refine gf_X0_37 F X ho1 dX0_seek_2 ?_
    refine lv_icmp_ge (tgt := 14) hx hb dX0_seek_5 (by decide) (fun c16 => ?_) (fun c16 => ?_)
    · have h := it_p h c16
      exact J14 _ _ M ls X (lv_sub hl [0, 1, 2, 3] rfl)  () h
    · have h := it_n h c16
      refine lv_iload_n hx hb dX0_seek_8 rfl (lv_at hl 2 rfl) ?_
      refine lv_bipush (v := 8) hx hb dX0_seek_9 (by decide) ?_
      refine lv_icmp_lt (tgt := 45) hx hb dX0_seek_11 (by decide) (fun c17 => ?_) (fun c17 => ?_)
      · have h := it_p h c17
        refine lv_aload_n hx hb dX0_seek_45 rfl (lv_at hl 0 rfl) ?_
        refine gf_X0_11 F X qC11 dX0_seek_46 ?_
        refine lv_iload_n hx hb dX0_seek_49 rfl (lv_at hl 2 rfl) ?_
        refine lv_iconst (v := 1) hx hb dX0_seek_50 (by decide) ?_
        refine lv_iadd hx hb dX0_seek_51 ?_
        obtain ⟨hin, h⟩ := gd_x h
        have hw18 := q_walk (i := a2 + (1 : Int32)) hin
        refine r_aald3 F X (ar_X0_0 qC11) hin dX0_seek_52 ?_
        refine lv_astore (lv' := [(4, .ref (ad (cO GC (12 + Int32.toNatClampNeg (a2 + (1 : Int32)))))), (0, .ref (ad (cO GC 11))), (1, .ref (ad (cO GC o1))), (2, .int a2), (3, .int a3)]) hx hb dX0_seek_53 hl (by decide) rfl (fun ls hl => ?_)
        refine lv_iconst (v := 0) hx hb dX0_seek_55 (by decide) ?_
        obtain ⟨u19, eu19, h⟩ := nm_x h
        refine topE eu19 ?_
        refine lv_istore (lv' := [(5, .int u19), (4, .ref (ad (cO GC (12 + Int32.toNatClampNeg (a2 + (1 : Int32)))))), (0, .ref (ad (cO GC 11))), (1, .ref (ad (cO GC o1))), (2, .int a2), (3, .int a3)]) hx hb dX0_seek_56 hl (by decide) rfl (fun ls hl => ?_)
        exact L58 FU _ _ (12 + Int32.toNatClampNeg (a2 + (1 : Int32))) u19 M ls X (lv_sub hl [2, 3, 4, 5, 1, 0] rfl) hw18 () h
      · have h := it_n h c17
        exact J14 _ _ M ls X (lv_sub hl [0, 1, 2, 3] rfl)  () h

/-! ===== X0_find ===== -/
def fX0_find (o1 : Nat) (M : Mem) : Option Mem :=
  nm (wr M 11 3 0 (-1)) fun M1 =>
  (fX7_begin (12 + Int32.toNatClampNeg 0) o1 M1).bind fun r3 =>
  (fX0_seek 10 o1 r3 0 0).bind fun r4 =>
  some r4
set_option maxHeartbeats 4000000 in
set_option maxRecDepth 100000 in
theorem kX0_find (l : Launch) (D : va_G) (ad : Nat → Nat) (cs : Nat → ClassId) (A : Nat → Prop) {o1 : Nat} (ho1 : GC[cO GC o1]? = some (o1, 0, 2, 0)) (M : Mem)  (z : Mem) (hz : fX0_find o1 M = some z) : Met l yX0_find (wsU yX0_find cX0_find 2 none) (rmo 21 586) (va_Pc [.ref (ad (cO GC 11)), .ref (ad (cO GC o1))] (Wd0 D ad cs GC A M)) (va_Qv (fun u => u = z) (Wd0 D ad cs GC A) A) 0 0 A := by
  refine ct_v (by decide) rfl okGC (Nat.le_of_ble_eq_true rfl) ?_
  intro p e s m args below meth c Q ls F X hl RT
  have hx := F.1
  have hb := F.2.1
  have hl : lv_has ls 2 [(0, .ref (ad (cO GC 11))), (1, .ref (ad (cO GC o1)))] := hl
  obtain ⟨H, hH⟩ : ∃ H, H = s.heap := ⟨_, rfl⟩
  rw [← hH] at X ⊢
  obtain ⟨locs, hlocs⟩ : ∃ locs : List Loc, locs = [] := ⟨_, rfl⟩
  rw [← hlocs] at X ⊢
  clear hH hlocs
  have h := hz
  unfold fX0_find at h
  refine lv_aload_n hx hb dX0_find_0 rfl (lv_at hl 0 rfl) ?_
  refine lv_iconst (v := (-1)) hx hb dX0_find_1 (by decide) ?_
  obtain ⟨M1, eM1, h⟩ := nm_x h
  refine pf_X0_24 F X qC11 dX0_find_2 (fun H locs X => ?_)
  have X := Wd_eq eM1 X
  refine lv_aload_n hx hb dX0_find_5 rfl (lv_at hl 0 rfl) ?_
  refine gf_X0_11 F X qC11 dX0_find_6 ?_
  refine lv_iconst (v := 0) hx hb dX0_find_9 (by decide) ?_
  have hw2 := q_walk (i := 0) (by decide : inB 0 9)
  refine r_aald3 F X (ar_X0_0 qC11) (by decide : inB 0 9) dX0_find_10 ?_
  refine lv_aload_n hx hb dX0_find_11 rfl (lv_at hl 1 rfl) ?_
  obtain ⟨r3, hr3, h⟩ := bd_x h
  refine r_callv X (r_runV F X (kX7_begin l D ad cs A hw2 ho1 M1  _ hr3) gm_X0_29 hd_X7_begin ⟨Nat.le_of_ble_eq_true rfl, Nat.le_of_ble_eq_true rfl⟩ hw2 rfl rfl hl.1 rfl (Nat.le_of_ble_eq_true rfl) dX0_find_12) (fun H locs X => ?_)
  refine lv_aload_n hx hb dX0_find_15 rfl (lv_at hl 0 rfl) ?_
  refine lv_aload_n hx hb dX0_find_16 rfl (lv_at hl 1 rfl) ?_
  refine lv_iconst (v := 0) hx hb dX0_find_17 (by decide) ?_
  refine lv_iconst (v := 0) hx hb dX0_find_18 (by decide) ?_
  obtain ⟨r4, hr4, h⟩ := bd_x h
  refine r_callv X (r_runV F X (kX0_seek l D ad cs A 10 ho1 r3 0 0 _ hr4) gm_X0_33 hd_X0_seek ⟨Nat.le_of_ble_eq_true rfl, Nat.le_of_ble_eq_true rfl⟩ qC11 rfl rfl hl.1 rfl (Nat.le_of_ble_eq_true rfl) dX0_find_19) (fun H locs X => ?_)
  have h := sm_x h
  exact RT H locs _ 22 ls X h dX0_find_22

/-! ===== X5_keep ===== -/
def fX5_keep (M : Mem) (a1 : Int32) : Option Mem :=
  gd (¬ (0 : Int32) < 0 ∧ ¬ (a1 * (8 : Int32)) < 0 ∧ ¬ (8 : Int32) < 0 ∧ Int32.toNatClampNeg 0 + Int32.toNatClampNeg 8 ≤ 8 ∧ Int32.toNatClampNeg (a1 * (8 : Int32)) + Int32.toNatClampNeg 8 ≤ 168) <|
  nm (cpM M 5 0 4 5 (Int32.toNatClampNeg 0) (Int32.toNatClampNeg (a1 * (8 : Int32))) (Int32.toNatClampNeg 8)) fun M1 =>
  gd (¬ (0 : Int32) < 0 ∧ ¬ (a1 * (8 : Int32)) < 0 ∧ ¬ (8 : Int32) < 0 ∧ Int32.toNatClampNeg 0 + Int32.toNatClampNeg 8 ≤ 8 ∧ Int32.toNatClampNeg (a1 * (8 : Int32)) + Int32.toNatClampNeg 8 ≤ 168) <|
  nm (cpM M1 5 1 4 6 (Int32.toNatClampNeg 0) (Int32.toNatClampNeg (a1 * (8 : Int32))) (Int32.toNatClampNeg 8)) fun M2 =>
  gd (¬ (0 : Int32) < 0 ∧ ¬ (a1 * (8 : Int32)) < 0 ∧ ¬ (8 : Int32) < 0 ∧ Int32.toNatClampNeg 0 + Int32.toNatClampNeg 8 ≤ 8 ∧ Int32.toNatClampNeg (a1 * (8 : Int32)) + Int32.toNatClampNeg 8 ≤ 168) <|
  nm (cpM M2 5 2 4 7 (Int32.toNatClampNeg 0) (Int32.toNatClampNeg (a1 * (8 : Int32))) (Int32.toNatClampNeg 8)) fun M3 =>
  some M3
set_option maxHeartbeats 4000000 in
set_option maxRecDepth 100000 in
theorem kX5_keep (l : Launch) (D : va_G) (ad : Nat → Nat) (cs : Nat → ClassId) (A : Nat → Prop)  (M : Mem) (a1 : Int32) (z : Mem) (hz : fX5_keep M a1 = some z) : Met l yX5_keep (wsU yX5_keep cX5_keep 2 none) (rmo 1 64) (va_Pc [.ref (ad (cO GC 4)), .int a1] (Wd0 D ad cs GC A M)) (va_Qv (fun u => u = z) (Wd0 D ad cs GC A) A) 0 0 A := by
  refine ct_v (by decide) rfl okGC (Nat.le_of_ble_eq_true rfl) ?_
  intro p e s m args below meth c Q ls F X hl RT
  have hx := F.1
  have hb := F.2.1
  have hl : lv_has ls 2 [(0, .ref (ad (cO GC 4))), (1, .int a1)] := hl
  obtain ⟨H, hH⟩ : ∃ H, H = s.heap := ⟨_, rfl⟩
  rw [← hH] at X ⊢
  obtain ⟨locs, hlocs⟩ : ∃ locs : List Loc, locs = [] := ⟨_, rfl⟩
  rw [← hlocs] at X ⊢
  clear hH hlocs
  have h := hz
  unfold fX5_keep at h
  refine lv_aload_n hx hb dX5_keep_0 rfl (lv_at hl 0 rfl) ?_
  refine gf_X5_12 F X qC4 dX5_keep_1 ?_
  refine gf_X5_75 F X qC5 dX5_keep_4 ?_
  refine lv_iconst (v := 0) hx hb dX5_keep_7 (by decide) ?_
  refine lv_aload_n hx hb dX5_keep_8 rfl (lv_at hl 0 rfl) ?_
  refine gf_X5_31 F X qC4 dX5_keep_9 ?_
  refine lv_iload_n hx hb dX5_keep_12 rfl (lv_at hl 1 rfl) ?_
  refine lv_bipush (v := 8) hx hb dX5_keep_13 (by decide) ?_
  refine lv_imul hx hb dX5_keep_15 ?_
  refine lv_bipush (v := 8) hx hb dX5_keep_16 (by decide) ?_
  obtain ⟨hcp, h⟩ := gd_x h
  obtain ⟨M1, eM1, h⟩ := nm_x h
  refine r_copy F X hl.1 (ar_X7_0 qC5) (ar_X5_5 qC4) (mT2 175 rfl rfl) (mT2 62 rfl rfl) (mT2 61 rfl rfl) (mT1 11 rfl rfl) hcp (Nat.le_of_ble_eq_true rfl) (Nat.le_of_ble_eq_true rfl) dX5_keep_18 (fun H locs X => ?_)
  have X := Wd_eq eM1 X
  refine lv_aload_n hx hb dX5_keep_21 rfl (lv_at hl 0 rfl) ?_
  refine gf_X5_12 F X qC4 dX5_keep_22 ?_
  refine gf_X5_84 F X qC5 dX5_keep_25 ?_
  refine lv_iconst (v := 0) hx hb dX5_keep_28 (by decide) ?_
  refine lv_aload_n hx hb dX5_keep_29 rfl (lv_at hl 0 rfl) ?_
  refine gf_X5_34 F X qC4 dX5_keep_30 ?_
  refine lv_iload_n hx hb dX5_keep_33 rfl (lv_at hl 1 rfl) ?_
  refine lv_bipush (v := 8) hx hb dX5_keep_34 (by decide) ?_
  refine lv_imul hx hb dX5_keep_36 ?_
  refine lv_bipush (v := 8) hx hb dX5_keep_37 (by decide) ?_
  obtain ⟨hcp, h⟩ := gd_x h
  obtain ⟨M2, eM2, h⟩ := nm_x h
  refine r_copy F X hl.1 (ar_X7_1 qC5) (ar_X5_6 qC4) (mT2 175 rfl rfl) (mT2 62 rfl rfl) (mT2 61 rfl rfl) (mT1 11 rfl rfl) hcp (Nat.le_of_ble_eq_true rfl) (Nat.le_of_ble_eq_true rfl) dX5_keep_39 (fun H locs X => ?_)
  have X := Wd_eq eM2 X
  refine lv_aload_n hx hb dX5_keep_42 rfl (lv_at hl 0 rfl) ?_
  refine gf_X5_12 F X qC4 dX5_keep_43 ?_
  refine gf_X5_85 F X qC5 dX5_keep_46 ?_
  refine lv_iconst (v := 0) hx hb dX5_keep_49 (by decide) ?_
  refine lv_aload_n hx hb dX5_keep_50 rfl (lv_at hl 0 rfl) ?_
  refine gf_X5_37 F X qC4 dX5_keep_51 ?_
  refine lv_iload_n hx hb dX5_keep_54 rfl (lv_at hl 1 rfl) ?_
  refine lv_bipush (v := 8) hx hb dX5_keep_55 (by decide) ?_
  refine lv_imul hx hb dX5_keep_57 ?_
  refine lv_bipush (v := 8) hx hb dX5_keep_58 (by decide) ?_
  obtain ⟨hcp, h⟩ := gd_x h
  obtain ⟨M3, eM3, h⟩ := nm_x h
  refine r_copy F X hl.1 (ar_X7_2 qC5) (ar_X5_7 qC4) (mT2 175 rfl rfl) (mT2 62 rfl rfl) (mT2 61 rfl rfl) (mT1 11 rfl rfl) hcp (Nat.le_of_ble_eq_true rfl) (Nat.le_of_ble_eq_true rfl) dX5_keep_60 (fun H locs X => ?_)
  have X := Wd_eq eM3 X
  have h := sm_x h
  exact RT H locs _ 63 ls X h dX5_keep_63

/-! ===== X5_tell ===== -/
def fX5_tell_121 (o1 : Nat) (x2 : Int32) (x3 : Int32) (M : Mem) : Option ((Int32 × Int32 × Mem) ⊕ Mem) :=
  (fX5_keep M (x3 + (1 : Int32))).bind fun r1 =>
  nm (x3 + 1 : Int32) fun u2 =>
  some (.inl (x2, u2, r1))
def fX5_tell_22 (o1 : Nat) (x2 : Int32) (x3 : Int32) (M : Mem) : Option ((Int32 × Int32 × Mem) ⊕ Mem) :=
  if (M o1 6 0) ≤ x3 then
    some (.inr M)
  else
    gd (inB x3 20) <|
    nm (wr M 4 3 (Int32.toNatClampNeg x3) (M 5 5 0)) fun M4 =>
    gd (inB x3 20) <|
    (fX7_visit 5 o1 M4 x3 (M4 o1 4 (Int32.toNatClampNeg x3))).bind fun r5 =>
    gd (inB x3 20) <|
    nm (wr r5 4 1 (Int32.toNatClampNeg x3) (r5 5 8 0)) fun M6 =>
    gd (inB x3 20) <|
    nm (wr M6 4 2 (Int32.toNatClampNeg x3) (M6 5 9 0)) fun M7 =>
    gd (inB x3 20) <|
    nm (wr M7 4 4 (Int32.toNatClampNeg x3) (M7 5 10 0)) fun M8 =>
    (if (M8 5 11 0) ≤ x2 then
      fX5_tell_121 o1 x2 x3 M8
    else
      nm (M8 5 11 0 : Int32) fun u10 =>
      nm (wr M8 4 8 0 x3) fun M11 =>
      fX5_tell_121 o1 u10 x3 M11)
def fX5_tell (o1 : Nat) (M : Mem) : Option Mem :=
  (fX7_begin 5 o1 M).bind fun r12 =>
  (fX5_keep r12 0).bind fun r13 =>
  nm (wr r13 4 8 0 (-1)) fun M14 =>
  nm (0 : Int32) fun u15 =>
  nm (0 : Int32) fun u16 =>
  lpO (fun st => fX5_tell_22 o1 st.1 st.2.1 st.2.2) FU (u15, u16, M14)
set_option maxHeartbeats 4000000 in
set_option maxRecDepth 100000 in
theorem kX5_tell (l : Launch) (D : va_G) (ad : Nat → Nat) (cs : Nat → ClassId) (A : Nat → Prop) {o1 : Nat} (ho1 : GC[cO GC o1]? = some (o1, 0, 2, 0)) (M : Mem)  (z : Mem) (hz : fX5_tell o1 M = some z) : Met l yX5_tell (wsU yX5_tell cX5_tell 4 none) (rmo 4 134) (va_Pc [.ref (ad (cO GC 4)), .ref (ad (cO GC o1))] (Wd0 D ad cs GC A M)) (va_Qv (fun u => u = z) (Wd0 D ad cs GC A) A) 0 0 A := by
  refine ct_v (by decide) rfl okGC (Nat.le_of_ble_eq_true rfl) ?_
  intro p e s m args below meth c Q ls F X hl RT
  have hx := F.1
  have hb := F.2.1
  have hl : lv_has ls 4 [(0, .ref (ad (cO GC 4))), (1, .ref (ad (cO GC o1)))] := hl
  obtain ⟨H, hH⟩ : ∃ H, H = s.heap := ⟨_, rfl⟩
  rw [← hH] at X ⊢
  obtain ⟨locs, hlocs⟩ : ∃ locs : List Loc, locs = [] := ⟨_, rfl⟩
  rw [← hlocs] at X ⊢
  clear hH hlocs
  have L22 : ∀ (n : Nat) (H : Heap) (locs : List Loc) (x2 : Int32) (x3 : Int32) (M : Mem) (ls : Array Slot), Wd D ad cs GC A s H locs M → lv_has ls 4 [(0, .ref (ad (cO GC 4))), (1, .ref (ad (cO GC o1))), (2, .int x2), (3, .int x3)] → ∀ (_ : Unit), lpO (fun st => fX5_tell_22 o1 st.1 st.2.1 st.2.2) n (x2, x3, M) = some z → W p l e (rmo 4 134) s m args below meth c H locs 0 0 Q (F0 m 22 ls []) := by
    intro n
    induction n with
    | zero =>
      intro H locs x2 x3 M ls X hl  yy h
      exact lp_0 h
    | succ n1 ih22 =>
      intro H locs x2 x3 M ls X hl  _u h
      obtain ⟨y1, h, hk1⟩ := lp_x h
      have J121 : ∀ (H : Heap) (locs : List Loc) (x2 : Int32) (x3 : Int32) (M : Mem) (ls : Array Slot), Wd D ad cs GC A s H locs M → lv_has ls 4 [(0, .ref (ad (cO GC 4))), (1, .ref (ad (cO GC o1))), (2, .int x2), (3, .int x3)] → ∀ (y1 : ((Int32 × Int32 × Mem) ⊕ Mem)), fX5_tell_121 o1 x2 x3 M = some y1 → lpK (fun st => fX5_tell_22 o1 st.1 st.2.1 st.2.2) n1 y1 = some z → W p l e (rmo 4 134) s m args below meth c H locs 0 0 Q (F0 m 121 ls []) := by
        intro H locs x2 x3 M ls X hl  y1 h hk1
        unfold fX5_tell_121 at h
        refine lv_aload_n hx hb dX5_tell_121 rfl (lv_at hl 0 rfl) ?_
        refine lv_iload_n hx hb dX5_tell_122 rfl (lv_at hl 3 rfl) ?_
        refine lv_iconst (v := 1) hx hb dX5_tell_123 (by decide) ?_
        refine lv_iadd hx hb dX5_tell_124 ?_
        obtain ⟨r1, hr1, h⟩ := bd_x h
        refine r_callv X (r_runV F X (kX5_keep l D ad cs A  M (x3 + (1 : Int32)) _ hr1) gm_X5_48 hd_X5_keep ⟨Nat.le_of_ble_eq_true rfl, Nat.le_of_ble_eq_true rfl⟩ qC4 rfl rfl hl.1 rfl (Nat.le_of_ble_eq_true rfl) dX5_tell_125) (fun H locs X => ?_)
        obtain ⟨u2, eu2, h⟩ := nm_x h
        refine lv_iinc (v := u2) (lv' := [(3, .int u2), (0, .ref (ad (cO GC 4))), (1, .ref (ad (cO GC o1))), (2, .int x2)]) hx hb dX5_tell_128 hl (k := 3) rfl (by rw [eu2]; rfl) (by decide) rfl (fun ls hl => ?_)
        refine lv_goto (tgt := 22) hx hb dX5_tell_131 (by decide) ?_
        rw [← sm_x h] at hk1
        exact ih22 _ _ x2 u2 r1 ls X (lv_sub hl [1, 2, 3, 0] rfl)  () hk1
      unfold fX5_tell_22 at h
      refine lv_iload_n hx hb dX5_tell_22 rfl (lv_at hl 3 rfl) ?_
      refine lv_aload_n hx hb dX5_tell_23 rfl (lv_at hl 1 rfl) ?_
      refine gf_X5_52 F X ho1 dX5_tell_24 ?_
      refine lv_icmp_ge (tgt := 134) hx hb dX5_tell_27 (by decide) (fun c3 => ?_) (fun c3 => ?_)
      · have h := it_p h c3
        have h := sm_x h
        rw [← h] at hk1
        have h := sm_x hk1
        exact RT H locs _ 134 ls X h dX5_tell_134
      · have h := it_n h c3
        refine lv_aload_n hx hb dX5_tell_30 rfl (lv_at hl 0 rfl) ?_
        refine gf_X5_25 F X qC4 dX5_tell_31 ?_
        refine lv_iload_n hx hb dX5_tell_34 rfl (lv_at hl 3 rfl) ?_
        refine lv_aload_n hx hb dX5_tell_35 rfl (lv_at hl 0 rfl) ?_
        refine gf_X5_12 F X qC4 dX5_tell_36 ?_
        refine gf_X5_57 F X qC5 dX5_tell_39 ?_
        obtain ⟨hin, h⟩ := gd_x h
        obtain ⟨M4, eM4, h⟩ := nm_x h
        refine r_iast F X (ar_X5_3 qC4) hin dX5_tell_42 (fun H locs X => ?_)
        have X := Wd_eq eM4 X
        refine lv_aload_n hx hb dX5_tell_43 rfl (lv_at hl 0 rfl) ?_
        refine gf_X5_12 F X qC4 dX5_tell_44 ?_
        refine lv_aload_n hx hb dX5_tell_47 rfl (lv_at hl 1 rfl) ?_
        refine lv_iload_n hx hb dX5_tell_48 rfl (lv_at hl 3 rfl) ?_
        refine lv_aload_n hx hb dX5_tell_49 rfl (lv_at hl 1 rfl) ?_
        refine gf_X5_59 F X ho1 dX5_tell_50 ?_
        refine lv_iload_n hx hb dX5_tell_53 rfl (lv_at hl 3 rfl) ?_
        obtain ⟨hin, h⟩ := gd_x h
        refine r_iald F X (ar_X2_4 ho1) hin dX5_tell_54 ?_
        obtain ⟨r5, hr5, h⟩ := bd_x h
        refine r_callv X (r_runV F X (kX7_visit l D ad cs A qC5 ho1 M4 x3 (M4 o1 4 (Int32.toNatClampNeg x3)) _ hr5) gm_X5_62 hd_X7_visit ⟨Nat.le_of_ble_eq_true rfl, Nat.le_of_ble_eq_true rfl⟩ qC5 rfl rfl hl.1 rfl (Nat.le_of_ble_eq_true rfl) dX5_tell_55) (fun H locs X => ?_)
        refine lv_aload_n hx hb dX5_tell_58 rfl (lv_at hl 0 rfl) ?_
        refine gf_X5_18 F X qC4 dX5_tell_59 ?_
        refine lv_iload_n hx hb dX5_tell_62 rfl (lv_at hl 3 rfl) ?_
        refine lv_aload_n hx hb dX5_tell_63 rfl (lv_at hl 0 rfl) ?_
        refine gf_X5_12 F X qC4 dX5_tell_64 ?_
        refine gf_X5_66 F X qC5 dX5_tell_67 ?_
        obtain ⟨hin, h⟩ := gd_x h
        obtain ⟨M6, eM6, h⟩ := nm_x h
        refine r_iast F X (ar_X5_1 qC4) hin dX5_tell_70 (fun H locs X => ?_)
        have X := Wd_eq eM6 X
        refine lv_aload_n hx hb dX5_tell_71 rfl (lv_at hl 0 rfl) ?_
        refine gf_X5_22 F X qC4 dX5_tell_72 ?_
        refine lv_iload_n hx hb dX5_tell_75 rfl (lv_at hl 3 rfl) ?_
        refine lv_aload_n hx hb dX5_tell_76 rfl (lv_at hl 0 rfl) ?_
        refine gf_X5_12 F X qC4 dX5_tell_77 ?_
        refine gf_X5_68 F X qC5 dX5_tell_80 ?_
        obtain ⟨hin, h⟩ := gd_x h
        obtain ⟨M7, eM7, h⟩ := nm_x h
        refine r_iast F X (ar_X5_2 qC4) hin dX5_tell_83 (fun H locs X => ?_)
        have X := Wd_eq eM7 X
        refine lv_aload_n hx hb dX5_tell_84 rfl (lv_at hl 0 rfl) ?_
        refine gf_X5_28 F X qC4 dX5_tell_85 ?_
        refine lv_iload_n hx hb dX5_tell_88 rfl (lv_at hl 3 rfl) ?_
        refine lv_aload_n hx hb dX5_tell_89 rfl (lv_at hl 0 rfl) ?_
        refine gf_X5_12 F X qC4 dX5_tell_90 ?_
        refine gf_X5_70 F X qC5 dX5_tell_93 ?_
        obtain ⟨hin, h⟩ := gd_x h
        obtain ⟨M8, eM8, h⟩ := nm_x h
        refine r_iast F X (ar_X5_4 qC4) hin dX5_tell_96 (fun H locs X => ?_)
        have X := Wd_eq eM8 X
        refine lv_aload_n hx hb dX5_tell_97 rfl (lv_at hl 0 rfl) ?_
        refine gf_X5_12 F X qC4 dX5_tell_98 ?_
        refine gf_X5_72 F X qC5 dX5_tell_101 ?_
        refine lv_iload_n hx hb dX5_tell_104 rfl (lv_at hl 2 rfl) ?_
        refine lv_icmp_le (tgt := 121) hx hb dX5_tell_105 (by decide) (fun c9 => ?_) (fun c9 => ?_)
        · have h := it_p h c9
          exact J121 _ _ x2 x3 M8 ls X (lv_sub hl [0, 1, 2, 3] rfl)  _ h hk1
        · have h := it_n h c9
          refine lv_aload_n hx hb dX5_tell_108 rfl (lv_at hl 0 rfl) ?_
          refine gf_X5_12 F X qC4 dX5_tell_109 ?_
          refine gf_X5_72 F X qC5 dX5_tell_112 ?_
          obtain ⟨u10, eu10, h⟩ := nm_x h
          refine topE eu10 ?_
          refine lv_istore_n (lv' := [(2, .int u10), (0, .ref (ad (cO GC 4))), (1, .ref (ad (cO GC o1))), (3, .int x3)]) hx hb dX5_tell_115 rfl hl (by decide) rfl (fun ls hl => ?_)
          refine lv_aload_n hx hb dX5_tell_116 rfl (lv_at hl 1 rfl) ?_
          refine lv_iload_n hx hb dX5_tell_117 rfl (lv_at hl 3 rfl) ?_
          obtain ⟨M11, eM11, h⟩ := nm_x h
          refine pf_X5_40 F X qC4 dX5_tell_118 (fun H locs X => ?_)
          have X := Wd_eq eM11 X
          exact J121 _ _ u10 x3 M11 ls X (lv_sub hl [1, 2, 0, 3] rfl)  _ h hk1
  have h := hz
  unfold fX5_tell at h
  refine lv_aload_n hx hb dX5_tell_0 rfl (lv_at hl 0 rfl) ?_
  refine gf_X5_12 F X qC4 dX5_tell_1 ?_
  refine lv_aload_n hx hb dX5_tell_4 rfl (lv_at hl 1 rfl) ?_
  obtain ⟨r12, hr12, h⟩ := bd_x h
  refine r_callv X (r_runV F X (kX7_begin l D ad cs A qC5 ho1 M  _ hr12) gm_X5_44 hd_X7_begin ⟨Nat.le_of_ble_eq_true rfl, Nat.le_of_ble_eq_true rfl⟩ qC5 rfl rfl hl.1 rfl (Nat.le_of_ble_eq_true rfl) dX5_tell_5) (fun H locs X => ?_)
  refine lv_aload_n hx hb dX5_tell_8 rfl (lv_at hl 0 rfl) ?_
  refine lv_iconst (v := 0) hx hb dX5_tell_9 (by decide) ?_
  obtain ⟨r13, hr13, h⟩ := bd_x h
  refine r_callv X (r_runV F X (kX5_keep l D ad cs A  r12 0 _ hr13) gm_X5_48 hd_X5_keep ⟨Nat.le_of_ble_eq_true rfl, Nat.le_of_ble_eq_true rfl⟩ qC4 rfl rfl hl.1 rfl (Nat.le_of_ble_eq_true rfl) dX5_tell_10) (fun H locs X => ?_)
  refine lv_aload_n hx hb dX5_tell_13 rfl (lv_at hl 0 rfl) ?_
  refine lv_iconst (v := (-1)) hx hb dX5_tell_14 (by decide) ?_
  obtain ⟨M14, eM14, h⟩ := nm_x h
  refine pf_X5_40 F X qC4 dX5_tell_15 (fun H locs X => ?_)
  have X := Wd_eq eM14 X
  refine lv_iconst (v := 0) hx hb dX5_tell_18 (by decide) ?_
  obtain ⟨u15, eu15, h⟩ := nm_x h
  refine topE eu15 ?_
  refine lv_istore_n (lv' := [(2, .int u15), (0, .ref (ad (cO GC 4))), (1, .ref (ad (cO GC o1)))]) hx hb dX5_tell_19 rfl hl (by decide) rfl (fun ls hl => ?_)
  refine lv_iconst (v := 0) hx hb dX5_tell_20 (by decide) ?_
  obtain ⟨u16, eu16, h⟩ := nm_x h
  refine topE eu16 ?_
  refine lv_istore_n (lv' := [(3, .int u16), (2, .int u15), (0, .ref (ad (cO GC 4))), (1, .ref (ad (cO GC o1)))]) hx hb dX5_tell_21 rfl hl (by decide) rfl (fun ls hl => ?_)
  exact L22 FU _ _ u15 u16 M14 ls X (lv_sub hl [2, 3, 1, 0] rfl)  () h

/-! ===== X6_prepare ===== -/
def fX6_prepare (o1 : Nat) (M : Mem) : Option Mem :=
  (fX2_copyFrom 7 o1 M).bind fun r1 =>
  some r1
set_option maxHeartbeats 4000000 in
set_option maxRecDepth 100000 in
theorem kX6_prepare (l : Launch) (D : va_G) (ad : Nat → Nat) (cs : Nat → ClassId) (A : Nat → Prop) {o1 : Nat} (ho1 : GC[cO GC o1]? = some (o1, 0, 2, 0)) (M : Mem)  (z : Mem) (hz : fX6_prepare o1 M = some z) : Met l yX6_prepare (wsU yX6_prepare cX6_prepare 2 none) (rmo 2 85) (va_Pc [.ref (ad (cO GC 6)), .ref (ad (cO GC o1))] (Wd0 D ad cs GC A M)) (va_Qv (fun u => u = z) (Wd0 D ad cs GC A) A) 0 0 A := by
  refine ct_v (by decide) rfl okGC (Nat.le_of_ble_eq_true rfl) ?_
  intro p e s m args below meth c Q ls F X hl RT
  have hx := F.1
  have hb := F.2.1
  have hl : lv_has ls 2 [(0, .ref (ad (cO GC 6))), (1, .ref (ad (cO GC o1)))] := hl
  obtain ⟨H, hH⟩ : ∃ H, H = s.heap := ⟨_, rfl⟩
  rw [← hH] at X ⊢
  obtain ⟨locs, hlocs⟩ : ∃ locs : List Loc, locs = [] := ⟨_, rfl⟩
  rw [← hlocs] at X ⊢
  clear hH hlocs
  have h := hz
  unfold fX6_prepare at h
  refine lv_aload_n hx hb dX6_prepare_0 rfl (lv_at hl 0 rfl) ?_
  refine gf_X6_12 F X qC6 dX6_prepare_1 ?_
  refine lv_aload_n hx hb dX6_prepare_4 rfl (lv_at hl 1 rfl) ?_
  obtain ⟨r1, hr1, h⟩ := bd_x h
  refine r_callv X (r_runV F X (kX2_copyFrom l D ad cs A qC7 ho1 M  _ hr1) gm_X6_29 hd_X2_copyFrom ⟨Nat.le_of_ble_eq_true rfl, Nat.le_of_ble_eq_true rfl⟩ qC7 rfl rfl hl.1 rfl (Nat.le_of_ble_eq_true rfl) dX6_prepare_5) (fun H locs X => ?_)
  have h := sm_x h
  exact RT H locs _ 8 ls X h dX6_prepare_8

/-! ===== X6_run ===== -/
def fX6_run_13  (x1 : Int32) (M : Mem) : Option ((Int32 × Mem) ⊕ Mem) :=
  if (M 7 6 0) ≤ x1 then
    some (.inr M)
  else
    gd (inB x1 20) <|
    (fX7_visit 8 7 M x1 (M 7 4 (Int32.toNatClampNeg x1))).bind fun r2 =>
    gd (inB x1 20) <|
    nm (wr r2 6 2 (Int32.toNatClampNeg x1) (r2 8 8 0)) fun M3 =>
    nm (x1 + 1 : Int32) fun u4 =>
    some (.inl (u4, M3))
def fX6_run (M : Mem) : Option Mem :=
  (fX7_begin 8 7 M).bind fun r5 =>
  nm (0 : Int32) fun u6 =>
  lpO (fun st => fX6_run_13 st.1 st.2) FU (u6, r5)
set_option maxHeartbeats 4000000 in
set_option maxRecDepth 100000 in
theorem kX6_run (l : Launch) (D : va_G) (ad : Nat → Nat) (cs : Nat → ClassId) (A : Nat → Prop)  (M : Mem)  (z : Mem) (hz : fX6_run M = some z) : Met l yX6_run (wsU yX6_run cX6_run 2 none) (rmo 4 134) (va_Pc [.ref (ad (cO GC 6))] (Wd0 D ad cs GC A M)) (va_Qv (fun u => u = z) (Wd0 D ad cs GC A) A) 0 0 A := by
  refine ct_v (by decide) rfl okGC (Nat.le_of_ble_eq_true rfl) ?_
  intro p e s m args below meth c Q ls F X hl RT
  have hx := F.1
  have hb := F.2.1
  have hl : lv_has ls 2 [(0, .ref (ad (cO GC 6)))] := hl
  obtain ⟨H, hH⟩ : ∃ H, H = s.heap := ⟨_, rfl⟩
  rw [← hH] at X ⊢
  obtain ⟨locs, hlocs⟩ : ∃ locs : List Loc, locs = [] := ⟨_, rfl⟩
  rw [← hlocs] at X ⊢
  clear hH hlocs
  have L13 : ∀ (n : Nat) (H : Heap) (locs : List Loc) (x1 : Int32) (M : Mem) (ls : Array Slot), Wd D ad cs GC A s H locs M → lv_has ls 2 [(0, .ref (ad (cO GC 6))), (1, .int x1)] → ∀ (_ : Unit), lpO (fun st => fX6_run_13 st.1 st.2) n (x1, M) = some z → W p l e (rmo 4 134) s m args below meth c H locs 0 0 Q (F0 m 13 ls []) := by
    intro n
    induction n with
    | zero =>
      intro H locs x1 M ls X hl  yy h
      exact lp_0 h
    | succ n1 ih13 =>
      intro H locs x1 M ls X hl  _u h
      obtain ⟨y1, h, hk1⟩ := lp_x h
      unfold fX6_run_13 at h
      refine lv_iload_n hx hb dX6_run_13 rfl (lv_at hl 1 rfl) ?_
      refine lv_aload_n hx hb dX6_run_14 rfl (lv_at hl 0 rfl) ?_
      refine gf_X6_12 F X qC6 dX6_run_15 ?_
      refine gf_X6_36 F X qC7 dX6_run_18 ?_
      refine lv_icmp_ge (tgt := 64) hx hb dX6_run_21 (by decide) (fun c1 => ?_) (fun c1 => ?_)
      · have h := it_p h c1
        have h := sm_x h
        rw [← h] at hk1
        have h := sm_x hk1
        exact RT H locs _ 64 ls X h dX6_run_64
      · have h := it_n h c1
        refine lv_aload_n hx hb dX6_run_24 rfl (lv_at hl 0 rfl) ?_
        refine gf_X6_21 F X qC6 dX6_run_25 ?_
        refine lv_aload_n hx hb dX6_run_28 rfl (lv_at hl 0 rfl) ?_
        refine gf_X6_12 F X qC6 dX6_run_29 ?_
        refine lv_iload_n hx hb dX6_run_32 rfl (lv_at hl 1 rfl) ?_
        refine lv_aload_n hx hb dX6_run_33 rfl (lv_at hl 0 rfl) ?_
        refine gf_X6_12 F X qC6 dX6_run_34 ?_
        refine gf_X6_40 F X qC7 dX6_run_37 ?_
        refine lv_iload_n hx hb dX6_run_40 rfl (lv_at hl 1 rfl) ?_
        obtain ⟨hin, h⟩ := gd_x h
        refine r_iald F X (ar_X2_4 qC7) hin dX6_run_41 ?_
        obtain ⟨r2, hr2, h⟩ := bd_x h
        refine r_callv X (r_runV F X (kX7_visit l D ad cs A qC8 qC7 M x1 (M 7 4 (Int32.toNatClampNeg x1)) _ hr2) gm_X6_43 hd_X7_visit ⟨Nat.le_of_ble_eq_true rfl, Nat.le_of_ble_eq_true rfl⟩ qC8 rfl rfl hl.1 rfl (Nat.le_of_ble_eq_true rfl) dX6_run_42) (fun H locs X => ?_)
        refine lv_aload_n hx hb dX6_run_45 rfl (lv_at hl 0 rfl) ?_
        refine gf_X6_25 F X qC6 dX6_run_46 ?_
        refine lv_iload_n hx hb dX6_run_49 rfl (lv_at hl 1 rfl) ?_
        refine lv_aload_n hx hb dX6_run_50 rfl (lv_at hl 0 rfl) ?_
        refine gf_X6_21 F X qC6 dX6_run_51 ?_
        refine gf_X6_47 F X qC8 dX6_run_54 ?_
        obtain ⟨hin, h⟩ := gd_x h
        obtain ⟨M3, eM3, h⟩ := nm_x h
        refine r_iast F X (ar_X6_2 qC6) hin dX6_run_57 (fun H locs X => ?_)
        have X := Wd_eq eM3 X
        obtain ⟨u4, eu4, h⟩ := nm_x h
        refine lv_iinc (v := u4) (lv' := [(1, .int u4), (0, .ref (ad (cO GC 6)))]) hx hb dX6_run_58 hl (k := 1) rfl (by rw [eu4]; rfl) (by decide) rfl (fun ls hl => ?_)
        refine lv_goto (tgt := 13) hx hb dX6_run_61 (by decide) ?_
        rw [← sm_x h] at hk1
        exact ih13 _ _ u4 M3 ls X (lv_sub hl [1, 0] rfl)  () hk1
  have h := hz
  unfold fX6_run at h
  refine lv_aload_n hx hb dX6_run_0 rfl (lv_at hl 0 rfl) ?_
  refine gf_X6_21 F X qC6 dX6_run_1 ?_
  refine lv_aload_n hx hb dX6_run_4 rfl (lv_at hl 0 rfl) ?_
  refine gf_X6_12 F X qC6 dX6_run_5 ?_
  obtain ⟨r5, hr5, h⟩ := bd_x h
  refine r_callv X (r_runV F X (kX7_begin l D ad cs A qC8 qC7 M  _ hr5) gm_X6_33 hd_X7_begin ⟨Nat.le_of_ble_eq_true rfl, Nat.le_of_ble_eq_true rfl⟩ qC8 rfl rfl hl.1 rfl (Nat.le_of_ble_eq_true rfl) dX6_run_8) (fun H locs X => ?_)
  refine lv_iconst (v := 0) hx hb dX6_run_11 (by decide) ?_
  obtain ⟨u6, eu6, h⟩ := nm_x h
  refine topE eu6 ?_
  refine lv_istore_n (lv' := [(1, .int u6), (0, .ref (ad (cO GC 6)))]) hx hb dX6_run_12 rfl hl (by decide) rfl (fun ls hl => ?_)
  exact L13 FU _ _ u6 r5 ls X (lv_sub hl [1, 0] rfl)  () h

