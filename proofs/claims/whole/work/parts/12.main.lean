/-! ===== X9_isText ===== -/
def fX9_isText (a0 : Int32) : Option Int32 :=
  if a0 = 0 then
    some 1
  else
    if a0 = 1 then
      some 1
    else
      some 0
set_option maxHeartbeats 4000000 in
set_option maxRecDepth 100000 in
theorem kX9_isText (l : Launch) (D : va_G) (ad : Nat → Nat) (cs : Nat → ClassId) (A : Nat → Prop)  (M : Mem) (a0 : Int32) (z : Int32) (hz : fX9_isText a0 = some z) : Met l yX9_isText (wsU yX9_isText cX9_isText 1 (some .boolean)) (rmo 1 64) (va_Pc [.int a0] (Wd0 D ad cs GC A M)) (va_Qi (fun r u => (r, u) = (z, M)) (Wd0 D ad cs GC A) A) 0 0 A := by
  refine ct_z0 (by decide) rfl okGC (Nat.le_of_ble_eq_true rfl) ?_
  intro p e s m args below meth c Q ls F X hl RT
  have hx := F.1
  have hb := F.2.1
  have hl : lv_has ls 1 [(0, .int a0)] := hl
  obtain ⟨H, hH⟩ : ∃ H, H = s.heap := ⟨_, rfl⟩
  rw [← hH] at X ⊢
  obtain ⟨locs, hlocs⟩ : ∃ locs : List Loc, locs = [] := ⟨_, rfl⟩
  rw [← hlocs] at X ⊢
  clear hH hlocs
  have h := hz
  unfold fX9_isText at h
  refine lv_iload_n hx hb dX9_isText_0 rfl (lv_at hl 0 rfl) ?_
  refine lv_if_eq (tgt := 9) hx hb dX9_isText_1 (by decide) (fun c1 => ?_) (fun c1 => ?_)
  · have h := it_p h c1
    refine lv_iconst (v := 1) hx hb dX9_isText_9 (by decide) ?_
    refine lv_goto (tgt := 14) hx hb dX9_isText_10 (by decide) ?_
    have h := sm_x h
    exact RT H locs _ 14 ls X h (by decide) dX9_isText_14
  · have h := it_n h c1
    refine lv_iload_n hx hb dX9_isText_4 rfl (lv_at hl 0 rfl) ?_
    refine lv_iconst (v := 1) hx hb dX9_isText_5 (by decide) ?_
    refine lv_icmp_ne (tgt := 13) hx hb dX9_isText_6 (by decide) (fun c2 => ?_) (fun c2 => ?_)
    · have h := it_n h c2
      refine lv_iconst (v := 0) hx hb dX9_isText_13 (by decide) ?_
      have h := sm_x h
      exact RT H locs _ 14 ls X h (by decide) dX9_isText_14
    · have h := it_p h c2
      refine lv_iconst (v := 1) hx hb dX9_isText_9 (by decide) ?_
      refine lv_goto (tgt := 14) hx hb dX9_isText_10 (by decide) ?_
      have h := sm_x h
      exact RT H locs _ 14 ls X h (by decide) dX9_isText_14

/-! ===== X9_within ===== -/
def fX9_within (a0 : Int32) (a1 : Int32) : Option Int32 :=
  if a0 < 0 then
    some 0
  else
    if a1 < a0 then
      some 0
    else
      some 1
set_option maxHeartbeats 4000000 in
set_option maxRecDepth 100000 in
theorem kX9_within (l : Launch) (D : va_G) (ad : Nat → Nat) (cs : Nat → ClassId) (A : Nat → Prop)  (M : Mem) (a0 : Int32) (a1 : Int32) (z : Int32) (hz : fX9_within a0 a1 = some z) : Met l yX9_within (wsU yX9_within cX9_within 2 (some .boolean)) (rmo 1 64) (va_Pc [.int a0, .int a1] (Wd0 D ad cs GC A M)) (va_Qi (fun r u => (r, u) = (z, M)) (Wd0 D ad cs GC A) A) 0 0 A := by
  refine ct_z0 (by decide) rfl okGC (Nat.le_of_ble_eq_true rfl) ?_
  intro p e s m args below meth c Q ls F X hl RT
  have hx := F.1
  have hb := F.2.1
  have hl : lv_has ls 2 [(0, .int a0), (1, .int a1)] := hl
  obtain ⟨H, hH⟩ : ∃ H, H = s.heap := ⟨_, rfl⟩
  rw [← hH] at X ⊢
  obtain ⟨locs, hlocs⟩ : ∃ locs : List Loc, locs = [] := ⟨_, rfl⟩
  rw [← hlocs] at X ⊢
  clear hH hlocs
  have h := hz
  unfold fX9_within at h
  refine lv_iload_n hx hb dX9_within_0 rfl (lv_at hl 0 rfl) ?_
  refine lv_if_lt (tgt := 13) hx hb dX9_within_1 (by decide) (fun c1 => ?_) (fun c1 => ?_)
  · have h := it_p h c1
    refine lv_iconst (v := 0) hx hb dX9_within_13 (by decide) ?_
    have h := sm_x h
    exact RT H locs _ 14 ls X h (by decide) dX9_within_14
  · have h := it_n h c1
    refine lv_iload_n hx hb dX9_within_4 rfl (lv_at hl 0 rfl) ?_
    refine lv_iload_n hx hb dX9_within_5 rfl (lv_at hl 1 rfl) ?_
    refine lv_icmp_gt (tgt := 13) hx hb dX9_within_6 (by decide) (fun c2 => ?_) (fun c2 => ?_)
    · have h := it_p h c2
      refine lv_iconst (v := 0) hx hb dX9_within_13 (by decide) ?_
      have h := sm_x h
      exact RT H locs _ 14 ls X h (by decide) dX9_within_14
    · have h := it_n h c2
      refine lv_iconst (v := 1) hx hb dX9_within_9 (by decide) ?_
      refine lv_goto (tgt := 14) hx hb dX9_within_10 (by decide) ?_
      have h := sm_x h
      exact RT H locs _ 14 ls X h (by decide) dX9_within_14

/-! ===== X9_scriptOf ===== -/
def fX9_scriptOf (M : Mem) (a1 : Int32) : Option Nat :=
  if a1 = 0 then
    some 1
  else
    some 2
theorem rf_X9_scriptOf {M : Mem} {a1 : Int32} {r : Nat} (h : fX9_scriptOf M a1 = some r) : GC[cO GC r]? = some (r, 0, 3, 0) := by
  unfold fX9_scriptOf at h
  by_cases c1 : a1 = 0
  · have h := it_p h c1
    obtain rfl := sm_x h
    exact qC1
  · have h := it_n h c1
    obtain rfl := sm_x h
    exact qC2

set_option maxHeartbeats 4000000 in
set_option maxRecDepth 100000 in
theorem kX9_scriptOf (l : Launch) (D : va_G) (ad : Nat → Nat) (cs : Nat → ClassId) (A : Nat → Prop)  (M : Mem) (a1 : Int32) (z : Nat) (hz : fX9_scriptOf M a1 = some z) : Met l yX9_scriptOf (wsU yX9_scriptOf cX9_scriptOf 2 (some (.object "DonkeyExecutor$Script"))) (rmo 1 64) (va_Pc [.ref (ad (cO GC 0)), .int a1] (Wd0 D ad cs GC A M)) (va_Qr (fun u => u = M) (fun u q t => Wd0 D ad cs GC A u t ∧ q = ad (cO GC z)) A) 0 0 A := by
  refine ct_r (by decide) rfl okGC (Nat.le_of_ble_eq_true rfl) ?_
  intro p e s m args below meth c Q ls F X hl RT
  have hx := F.1
  have hb := F.2.1
  have hl : lv_has ls 2 [(0, .ref (ad (cO GC 0))), (1, .int a1)] := hl
  obtain ⟨H, hH⟩ : ∃ H, H = s.heap := ⟨_, rfl⟩
  rw [← hH] at X ⊢
  obtain ⟨locs, hlocs⟩ : ∃ locs : List Loc, locs = [] := ⟨_, rfl⟩
  rw [← hlocs] at X ⊢
  clear hH hlocs
  have h := hz
  unfold fX9_scriptOf at h
  refine lv_iload_n hx hb dX9_scriptOf_0 rfl (lv_at hl 1 rfl) ?_
  refine lv_if_ne (tgt := 11) hx hb dX9_scriptOf_1 (by decide) (fun c1 => ?_) (fun c1 => ?_)
  · have h := it_n h c1
    refine lv_aload_n hx hb dX9_scriptOf_11 rfl (lv_at hl 0 rfl) ?_
    refine gf_X9_18 F X qC0 dX9_scriptOf_12 ?_
    have h := sm_x h
    exact RT H locs _ 15 ls X h dX9_scriptOf_15
  · have h := it_p h c1
    refine lv_aload_n hx hb dX9_scriptOf_4 rfl (lv_at hl 0 rfl) ?_
    refine gf_X9_14 F X qC0 dX9_scriptOf_5 ?_
    refine lv_goto (tgt := 15) hx hb dX9_scriptOf_8 (by decide) ?_
    have h := sm_x h
    exact RT H locs _ 15 ls X h dX9_scriptOf_15

/-! ===== X9_retell ===== -/
def fX9_retell (M : Mem) : Option Mem :=
  (fX5_tell 3 M).bind fun r1 =>
  nm (wr r1 0 11 0 0) fun M2 =>
  nm (wr M2 0 12 0 0) fun M3 =>
  some M3
set_option maxHeartbeats 4000000 in
set_option maxRecDepth 100000 in
theorem kX9_retell (l : Launch) (D : va_G) (ad : Nat → Nat) (cs : Nat → ClassId) (A : Nat → Prop)  (M : Mem)  (z : Mem) (hz : fX9_retell M = some z) : Met l yX9_retell (wsU yX9_retell cX9_retell 1 none) (rmo 5 157) (va_Pc [.ref (ad (cO GC 0))] (Wd0 D ad cs GC A M)) (va_Qv (fun u => u = z) (Wd0 D ad cs GC A) A) 0 0 A := by
  refine ct_v (by decide) rfl okGC (Nat.le_of_ble_eq_true rfl) ?_
  intro p e s m args below meth c Q ls F X hl RT
  have hx := F.1
  have hb := F.2.1
  have hl : lv_has ls 1 [(0, .ref (ad (cO GC 0)))] := hl
  obtain ⟨H, hH⟩ : ∃ H, H = s.heap := ⟨_, rfl⟩
  rw [← hH] at X ⊢
  obtain ⟨locs, hlocs⟩ : ∃ locs : List Loc, locs = [] := ⟨_, rfl⟩
  rw [← hlocs] at X ⊢
  clear hH hlocs
  have h := hz
  unfold fX9_retell at h
  refine lv_aload_n hx hb dX9_retell_0 rfl (lv_at hl 0 rfl) ?_
  refine gf_X9_31 F X qC0 dX9_retell_1 ?_
  refine lv_aload_n hx hb dX9_retell_4 rfl (lv_at hl 0 rfl) ?_
  refine gf_X9_24 F X qC0 dX9_retell_5 ?_
  obtain ⟨r1, hr1, h⟩ := bd_x h
  refine r_callv X (r_runV F X (kX5_tell l D ad cs A qC3 M  _ hr1) gm_X9_407 hd_X5_tell ⟨Nat.le_of_ble_eq_true rfl, Nat.le_of_ble_eq_true rfl⟩ qC4 rfl rfl hl.1 rfl (Nat.le_of_ble_eq_true rfl) dX9_retell_8) (fun H locs X => ?_)
  refine lv_aload_n hx hb dX9_retell_11 rfl (lv_at hl 0 rfl) ?_
  refine lv_iconst (v := 0) hx hb dX9_retell_12 (by decide) ?_
  obtain ⟨M2, eM2, h⟩ := nm_x h
  refine pf_X9_76 F X qC0 (by decide) dX9_retell_13 (fun H locs X => ?_)
  have X := Wd_eq eM2 X
  refine lv_aload_n hx hb dX9_retell_16 rfl (lv_at hl 0 rfl) ?_
  refine lv_iconst (v := 0) hx hb dX9_retell_17 (by decide) ?_
  obtain ⟨M3, eM3, h⟩ := nm_x h
  refine pf_X9_80 F X qC0 (by decide) dX9_retell_18 (fun H locs X => ?_)
  have X := Wd_eq eM3 X
  have h := sm_x h
  exact RT H locs _ 21 ls X h dX9_retell_21

/-! ===== X9_takeText ===== -/
def fX9_takeText (M : Mem) (a1 : Int32) : Option Mem :=
  if a1 = 0 then
    (fX2_takeHeirs 3 1 M).bind fun r4 =>
    (fX9_retell r4).bind fun r5 =>
    some r5
  else
    (fX2_takeRound 3 2 M).bind fun r2 =>
    (fX9_retell r2).bind fun r3 =>
    some r3
set_option maxHeartbeats 4000000 in
set_option maxRecDepth 100000 in
theorem kX9_takeText (l : Launch) (D : va_G) (ad : Nat → Nat) (cs : Nat → ClassId) (A : Nat → Prop)  (M : Mem) (a1 : Int32) (z : Mem) (hz : fX9_takeText M a1 = some z) : Met l yX9_takeText (wsU yX9_takeText cX9_takeText 2 none) (rmo 6 177) (va_Pc [.ref (ad (cO GC 0)), .int a1] (Wd0 D ad cs GC A M)) (va_Qv (fun u => u = z) (Wd0 D ad cs GC A) A) 0 0 A := by
  refine ct_v (by decide) rfl okGC (Nat.le_of_ble_eq_true rfl) ?_
  intro p e s m args below meth c Q ls F X hl RT
  have hx := F.1
  have hb := F.2.1
  have hl : lv_has ls 2 [(0, .ref (ad (cO GC 0))), (1, .int a1)] := hl
  obtain ⟨H, hH⟩ : ∃ H, H = s.heap := ⟨_, rfl⟩
  rw [← hH] at X ⊢
  obtain ⟨locs, hlocs⟩ : ∃ locs : List Loc, locs = [] := ⟨_, rfl⟩
  rw [← hlocs] at X ⊢
  clear hH hlocs
  have h := hz
  unfold fX9_takeText at h
  refine lv_iload_n hx hb dX9_takeText_0 rfl (lv_at hl 1 rfl) ?_
  refine lv_if_ne (tgt := 18) hx hb dX9_takeText_1 (by decide) (fun c1 => ?_) (fun c1 => ?_)
  · have h := it_n h c1
    refine lv_aload_n hx hb dX9_takeText_18 rfl (lv_at hl 0 rfl) ?_
    refine gf_X9_24 F X qC0 dX9_takeText_19 ?_
    refine lv_aload_n hx hb dX9_takeText_22 rfl (lv_at hl 0 rfl) ?_
    refine gf_X9_18 F X qC0 dX9_takeText_23 ?_
    obtain ⟨r2, hr2, h⟩ := bd_x h
    refine r_callv X (r_runV F X (kX2_takeRound l D ad cs A qC3 qC2 M  _ hr2) gm_X9_401 hd_X2_takeRound ⟨Nat.le_of_ble_eq_true rfl, Nat.le_of_ble_eq_true rfl⟩ qC3 rfl rfl hl.1 rfl (Nat.le_of_ble_eq_true rfl) dX9_takeText_26) (fun H locs X => ?_)
    refine lv_aload_n hx hb dX9_takeText_29 rfl (lv_at hl 0 rfl) ?_
    obtain ⟨r3, hr3, h⟩ := bd_x h
    refine r_callv X (r_runV F X (kX9_retell l D ad cs A  r2  _ hr3) gm_X9_153 hd_X9_retell ⟨Nat.le_of_ble_eq_true rfl, Nat.le_of_ble_eq_true rfl⟩ qC0 rfl rfl hl.1 rfl (Nat.le_of_ble_eq_true rfl) dX9_takeText_30) (fun H locs X => ?_)
    have h := sm_x h
    exact RT H locs _ 33 ls X h dX9_takeText_33
  · have h := it_p h c1
    refine lv_aload_n hx hb dX9_takeText_4 rfl (lv_at hl 0 rfl) ?_
    refine gf_X9_24 F X qC0 dX9_takeText_5 ?_
    refine lv_aload_n hx hb dX9_takeText_8 rfl (lv_at hl 0 rfl) ?_
    refine gf_X9_14 F X qC0 dX9_takeText_9 ?_
    obtain ⟨r4, hr4, h⟩ := bd_x h
    refine r_callv X (r_runV F X (kX2_takeHeirs l D ad cs A qC3 qC1 M  _ hr4) gm_X9_397 hd_X2_takeHeirs ⟨Nat.le_of_ble_eq_true rfl, Nat.le_of_ble_eq_true rfl⟩ qC3 rfl rfl hl.1 rfl (Nat.le_of_ble_eq_true rfl) dX9_takeText_12) (fun H locs X => ?_)
    refine lv_goto (tgt := 29) hx hb dX9_takeText_15 (by decide) ?_
    refine lv_aload_n hx hb dX9_takeText_29 rfl (lv_at hl 0 rfl) ?_
    obtain ⟨r5, hr5, h⟩ := bd_x h
    refine r_callv X (r_runV F X (kX9_retell l D ad cs A  r4  _ hr5) gm_X9_153 hd_X9_retell ⟨Nat.le_of_ble_eq_true rfl, Nat.le_of_ble_eq_true rfl⟩ qC0 rfl rfl hl.1 rfl (Nat.le_of_ble_eq_true rfl) dX9_takeText_30) (fun H locs X => ?_)
    have h := sm_x h
    exact RT H locs _ 33 ls X h dX9_takeText_33

/-! ===== X9_type ===== -/
def fX9_type (M : Mem) (a1 : Int32) (a2 : Int32) : Option (Int32 × Mem) :=
  (fX9_isText a1).bind fun r1 =>
  (if r1 = 0 then
    some ((-2), M)
  else
    (fX9_within a2 255).bind fun r3 =>
    (if r3 = 0 then
      some ((-2), M)
    else
      (fX9_scriptOf M a1).bind fun r5 =>
      (fX3_isFull r5 M).bind fun r7 =>
      (if r7 = 0 then
        (fX3_append r5 M a2).bind fun r9 =>
        (fX9_takeText r9 a1).bind fun r10 =>
        some (r10 r5 1 0, r10)
      else
        some ((-4), M))))
set_option maxHeartbeats 4000000 in
set_option maxRecDepth 100000 in
theorem kX9_type (l : Launch) (D : va_G) (ad : Nat → Nat) (cs : Nat → ClassId) (A : Nat → Prop)  (M : Mem) (a1 : Int32) (a2 : Int32) (z : (Int32 × Mem)) (hz : fX9_type M a1 a2 = some z) : Met l yX9_type (wsU yX9_type cX9_type 4 (some .int)) (rmo 7 198) (va_Pc [.ref (ad (cO GC 0)), .int a1, .int a2] (Wd0 D ad cs GC A M)) (va_Qi (fun r u => (r, u) = z) (Wd0 D ad cs GC A) A) 0 0 A := by
  refine ct_i (by decide) rfl okGC (Nat.le_of_ble_eq_true rfl) ?_
  intro p e s m args below meth c Q ls F X hl RT
  have hx := F.1
  have hb := F.2.1
  have hl : lv_has ls 4 [(0, .ref (ad (cO GC 0))), (1, .int a1), (2, .int a2)] := hl
  obtain ⟨H, hH⟩ : ∃ H, H = s.heap := ⟨_, rfl⟩
  rw [← hH] at X ⊢
  obtain ⟨locs, hlocs⟩ : ∃ locs : List Loc, locs = [] := ⟨_, rfl⟩
  rw [← hlocs] at X ⊢
  clear hH hlocs
  have h := hz
  unfold fX9_type at h
  refine lv_iload_n hx hb dX9_type_0 rfl (lv_at hl 1 rfl) ?_
  obtain ⟨r1, hr1, h⟩ := bd_x h
  refine r_calli0 X (r_runS F X (kX9_isText l D ad cs A  M a1 _ hr1) gm_X9_100 hd_X9_isText ⟨Nat.le_of_ble_eq_true rfl, Nat.le_of_ble_eq_true rfl⟩ rfl hl.1 rfl (Nat.le_of_ble_eq_true rfl) dX9_type_1) (fun H locs X => ?_)
  refine lv_if_eq (tgt := 17) hx hb dX9_type_4 (by decide) (fun c2 => ?_) (fun c2 => ?_)
  · have h := it_p h c2
    refine lv_bipush (v := (-2)) hx hb dX9_type_17 (by decide) ?_
    have h := sm_x h
    exact RT H locs _ _ 19 ls X h dX9_type_19
  · have h := it_n h c2
    refine lv_iload_n hx hb dX9_type_7 rfl (lv_at hl 2 rfl) ?_
    refine lv_sipush (v := 255) hx hb dX9_type_8 (by decide) ?_
    obtain ⟨r3, hr3, h⟩ := bd_x h
    refine r_calli0 X (r_runS F X (kX9_within l D ad cs A  M a2 255 _ hr3) gm_X9_104 hd_X9_within ⟨Nat.le_of_ble_eq_true rfl, Nat.le_of_ble_eq_true rfl⟩ rfl hl.1 rfl (Nat.le_of_ble_eq_true rfl) dX9_type_11) (fun H locs X => ?_)
    refine lv_if_ne (tgt := 20) hx hb dX9_type_14 (by decide) (fun c4 => ?_) (fun c4 => ?_)
    · have h := it_n h c4
      refine lv_aload_n hx hb dX9_type_20 rfl (lv_at hl 0 rfl) ?_
      refine lv_iload_n hx hb dX9_type_21 rfl (lv_at hl 1 rfl) ?_
      obtain ⟨r5, hr5, h⟩ := bd_x h
      refine r_callr X (r_runV F X (kX9_scriptOf l D ad cs A  M a1 _ hr5) gm_X9_108 hd_X9_scriptOf ⟨Nat.le_of_ble_eq_true rfl, Nat.le_of_ble_eq_true rfl⟩ qC0 rfl rfl hl.1 rfl (Nat.le_of_ble_eq_true rfl) dX9_type_22) (fun H locs X => ?_)
      have hw6 := rf_X9_scriptOf hr5
      refine lv_astore_n (lv' := [(3, .ref (ad (cO GC r5))), (0, .ref (ad (cO GC 0))), (1, .int a1), (2, .int a2)]) hx hb dX9_type_25 rfl hl (by decide) rfl (fun ls hl => ?_)
      refine lv_aload_n hx hb dX9_type_26 rfl (lv_at hl 0 rfl) ?_
      obtain ⟨r7, hr7, h⟩ := bd_x h
      refine r_calli0 X (r_runV F X (kX3_isFull l D ad cs A hw6 M  _ hr7) gm_X9_112 hd_X3_isFull ⟨Nat.le_of_ble_eq_true rfl, Nat.le_of_ble_eq_true rfl⟩ hw6 rfl rfl hl.1 rfl (Nat.le_of_ble_eq_true rfl) dX9_type_27) (fun H locs X => ?_)
      refine lv_if_eq (tgt := 36) hx hb dX9_type_30 (by decide) (fun c8 => ?_) (fun c8 => ?_)
      · have h := it_p h c8
        refine lv_aload_n hx hb dX9_type_36 rfl (lv_at hl 0 rfl) ?_
        refine lv_iload_n hx hb dX9_type_37 rfl (lv_at hl 3 rfl) ?_
        obtain ⟨r9, hr9, h⟩ := bd_x h
        refine r_callv X (r_runV F X (kX3_append l D ad cs A hw6 M a2 _ hr9) gm_X9_116 hd_X3_append ⟨Nat.le_of_ble_eq_true rfl, Nat.le_of_ble_eq_true rfl⟩ hw6 rfl rfl hl.1 rfl (Nat.le_of_ble_eq_true rfl) dX9_type_38) (fun H locs X => ?_)
        refine lv_aload_n hx hb dX9_type_41 rfl (lv_at hl 1 rfl) ?_
        refine lv_iload_n hx hb dX9_type_42 rfl (lv_at hl 2 rfl) ?_
        obtain ⟨r10, hr10, h⟩ := bd_x h
        refine r_callv X (r_runV F X (kX9_takeText l D ad cs A  r9 a1 _ hr10) gm_X9_119 hd_X9_takeText ⟨Nat.le_of_ble_eq_true rfl, Nat.le_of_ble_eq_true rfl⟩ qC0 rfl rfl hl.1 rfl (Nat.le_of_ble_eq_true rfl) dX9_type_43) (fun H locs X => ?_)
        refine lv_aload_n hx hb dX9_type_46 rfl (lv_at hl 0 rfl) ?_
        refine gf_X9_122 F X hw6 dX9_type_47 ?_
        have h := sm_x h
        exact RT H locs _ _ 50 ls X h dX9_type_50
      · have h := it_n h c8
        refine lv_bipush (v := (-4)) hx hb dX9_type_33 (by decide) ?_
        have h := sm_x h
        exact RT H locs _ _ 35 ls X h dX9_type_35
    · have h := it_p h c4
      refine lv_bipush (v := (-2)) hx hb dX9_type_17 (by decide) ?_
      have h := sm_x h
      exact RT H locs _ _ 19 ls X h dX9_type_19

/-! ===== X9_wipe ===== -/
def fX9_wipe (M : Mem) (a1 : Int32) : Option (Int32 × Mem) :=
  (fX9_isText a1).bind fun r1 =>
  (if r1 = 0 then
    some ((-2), M)
  else
    (fX9_scriptOf M a1).bind fun r3 =>
    nm (M r3 1 0 : Int32) fun u5 =>
    nm (wr M r3 1 0 0) fun M6 =>
    (fX9_takeText M6 a1).bind fun r7 =>
    some (u5, r7))
set_option maxHeartbeats 4000000 in
set_option maxRecDepth 100000 in
theorem kX9_wipe (l : Launch) (D : va_G) (ad : Nat → Nat) (cs : Nat → ClassId) (A : Nat → Prop)  (M : Mem) (a1 : Int32) (z : (Int32 × Mem)) (hz : fX9_wipe M a1 = some z) : Met l yX9_wipe (wsU yX9_wipe cX9_wipe 4 (some .int)) (rmo 7 198) (va_Pc [.ref (ad (cO GC 0)), .int a1] (Wd0 D ad cs GC A M)) (va_Qi (fun r u => (r, u) = z) (Wd0 D ad cs GC A) A) 0 0 A := by
  refine ct_i (by decide) rfl okGC (Nat.le_of_ble_eq_true rfl) ?_
  intro p e s m args below meth c Q ls F X hl RT
  have hx := F.1
  have hb := F.2.1
  have hl : lv_has ls 4 [(0, .ref (ad (cO GC 0))), (1, .int a1)] := hl
  obtain ⟨H, hH⟩ : ∃ H, H = s.heap := ⟨_, rfl⟩
  rw [← hH] at X ⊢
  obtain ⟨locs, hlocs⟩ : ∃ locs : List Loc, locs = [] := ⟨_, rfl⟩
  rw [← hlocs] at X ⊢
  clear hH hlocs
  have h := hz
  unfold fX9_wipe at h
  refine lv_iload_n hx hb dX9_wipe_0 rfl (lv_at hl 1 rfl) ?_
  obtain ⟨r1, hr1, h⟩ := bd_x h
  refine r_calli0 X (r_runS F X (kX9_isText l D ad cs A  M a1 _ hr1) gm_X9_100 hd_X9_isText ⟨Nat.le_of_ble_eq_true rfl, Nat.le_of_ble_eq_true rfl⟩ rfl hl.1 rfl (Nat.le_of_ble_eq_true rfl) dX9_wipe_1) (fun H locs X => ?_)
  refine lv_if_ne (tgt := 10) hx hb dX9_wipe_4 (by decide) (fun c2 => ?_) (fun c2 => ?_)
  · have h := it_n h c2
    refine lv_aload_n hx hb dX9_wipe_10 rfl (lv_at hl 0 rfl) ?_
    refine lv_iload_n hx hb dX9_wipe_11 rfl (lv_at hl 1 rfl) ?_
    obtain ⟨r3, hr3, h⟩ := bd_x h
    refine r_callr X (r_runV F X (kX9_scriptOf l D ad cs A  M a1 _ hr3) gm_X9_108 hd_X9_scriptOf ⟨Nat.le_of_ble_eq_true rfl, Nat.le_of_ble_eq_true rfl⟩ qC0 rfl rfl hl.1 rfl (Nat.le_of_ble_eq_true rfl) dX9_wipe_12) (fun H locs X => ?_)
    have hw4 := rf_X9_scriptOf hr3
    refine lv_astore_n (lv' := [(2, .ref (ad (cO GC r3))), (0, .ref (ad (cO GC 0))), (1, .int a1)]) hx hb dX9_wipe_15 rfl hl (by decide) rfl (fun ls hl => ?_)
    refine lv_aload_n hx hb dX9_wipe_16 rfl (lv_at hl 0 rfl) ?_
    refine gf_X9_122 F X hw4 dX9_wipe_17 ?_
    obtain ⟨u5, eu5, h⟩ := nm_x h
    refine topE eu5 ?_
    refine lv_istore_n (lv' := [(3, .int u5), (2, .ref (ad (cO GC r3))), (0, .ref (ad (cO GC 0))), (1, .int a1)]) hx hb dX9_wipe_20 rfl hl (by decide) rfl (fun ls hl => ?_)
    refine lv_aload_n hx hb dX9_wipe_21 rfl (lv_at hl 1 rfl) ?_
    refine lv_iconst (v := 0) hx hb dX9_wipe_22 (by decide) ?_
    obtain ⟨M6, eM6, h⟩ := nm_x h
    refine pf_X9_122 F X hw4 dX9_wipe_23 (fun H locs X => ?_)
    have X := Wd_eq eM6 X
    refine lv_aload_n hx hb dX9_wipe_26 rfl (lv_at hl 2 rfl) ?_
    refine lv_iload_n hx hb dX9_wipe_27 rfl (lv_at hl 3 rfl) ?_
    obtain ⟨r7, hr7, h⟩ := bd_x h
    refine r_callv X (r_runV F X (kX9_takeText l D ad cs A  M6 a1 _ hr7) gm_X9_119 hd_X9_takeText ⟨Nat.le_of_ble_eq_true rfl, Nat.le_of_ble_eq_true rfl⟩ qC0 rfl rfl hl.1 rfl (Nat.le_of_ble_eq_true rfl) dX9_wipe_28) (fun H locs X => ?_)
    refine lv_iload_n hx hb dX9_wipe_31 rfl (lv_at hl 0 rfl) ?_
    have h := sm_x h
    exact RT H locs _ _ 32 ls X h dX9_wipe_32
  · have h := it_p h c2
    refine lv_bipush (v := (-2)) hx hb dX9_wipe_7 (by decide) ?_
    have h := sm_x h
    exact RT H locs _ _ 9 ls X h dX9_wipe_9

/-! ===== X9_undo ===== -/
def fX9_undo (M : Mem) (a1 : Int32) : Option (Int32 × Mem) :=
  (fX9_isText a1).bind fun r1 =>
  (if r1 = 0 then
    some ((-2), M)
  else
    (fX9_scriptOf M a1).bind fun r3 =>
    (if 0 < (M r3 1 0) then
      nm (wr M r3 1 0 ((M r3 1 0) - (1 : Int32))) fun M6 =>
      (fX9_takeText M6 a1).bind fun r7 =>
      some (r7 r3 1 0, r7)
    else
      some ((-3), M)))
set_option maxHeartbeats 4000000 in
set_option maxRecDepth 100000 in
theorem kX9_undo (l : Launch) (D : va_G) (ad : Nat → Nat) (cs : Nat → ClassId) (A : Nat → Prop)  (M : Mem) (a1 : Int32) (z : (Int32 × Mem)) (hz : fX9_undo M a1 = some z) : Met l yX9_undo (wsU yX9_undo cX9_undo 3 (some .int)) (rmo 7 198) (va_Pc [.ref (ad (cO GC 0)), .int a1] (Wd0 D ad cs GC A M)) (va_Qi (fun r u => (r, u) = z) (Wd0 D ad cs GC A) A) 0 0 A := by
  refine ct_i (by decide) rfl okGC (Nat.le_of_ble_eq_true rfl) ?_
  intro p e s m args below meth c Q ls F X hl RT
  have hx := F.1
  have hb := F.2.1
  have hl : lv_has ls 3 [(0, .ref (ad (cO GC 0))), (1, .int a1)] := hl
  obtain ⟨H, hH⟩ : ∃ H, H = s.heap := ⟨_, rfl⟩
  rw [← hH] at X ⊢
  obtain ⟨locs, hlocs⟩ : ∃ locs : List Loc, locs = [] := ⟨_, rfl⟩
  rw [← hlocs] at X ⊢
  clear hH hlocs
  have h := hz
  unfold fX9_undo at h
  refine lv_iload_n hx hb dX9_undo_0 rfl (lv_at hl 1 rfl) ?_
  obtain ⟨r1, hr1, h⟩ := bd_x h
  refine r_calli0 X (r_runS F X (kX9_isText l D ad cs A  M a1 _ hr1) gm_X9_100 hd_X9_isText ⟨Nat.le_of_ble_eq_true rfl, Nat.le_of_ble_eq_true rfl⟩ rfl hl.1 rfl (Nat.le_of_ble_eq_true rfl) dX9_undo_1) (fun H locs X => ?_)
  refine lv_if_ne (tgt := 10) hx hb dX9_undo_4 (by decide) (fun c2 => ?_) (fun c2 => ?_)
  · have h := it_n h c2
    refine lv_aload_n hx hb dX9_undo_10 rfl (lv_at hl 0 rfl) ?_
    refine lv_iload_n hx hb dX9_undo_11 rfl (lv_at hl 1 rfl) ?_
    obtain ⟨r3, hr3, h⟩ := bd_x h
    refine r_callr X (r_runV F X (kX9_scriptOf l D ad cs A  M a1 _ hr3) gm_X9_108 hd_X9_scriptOf ⟨Nat.le_of_ble_eq_true rfl, Nat.le_of_ble_eq_true rfl⟩ qC0 rfl rfl hl.1 rfl (Nat.le_of_ble_eq_true rfl) dX9_undo_12) (fun H locs X => ?_)
    have hw4 := rf_X9_scriptOf hr3
    refine lv_astore_n (lv' := [(2, .ref (ad (cO GC r3))), (0, .ref (ad (cO GC 0))), (1, .int a1)]) hx hb dX9_undo_15 rfl hl (by decide) rfl (fun ls hl => ?_)
    refine lv_aload_n hx hb dX9_undo_16 rfl (lv_at hl 0 rfl) ?_
    refine gf_X9_122 F X hw4 dX9_undo_17 ?_
    refine lv_if_gt (tgt := 26) hx hb dX9_undo_20 (by decide) (fun c5 => ?_) (fun c5 => ?_)
    · have h := it_p h c5
      refine lv_aload_n hx hb dX9_undo_26 rfl (lv_at hl 0 rfl) ?_
      refine lv_dup hx hb dX9_undo_27 rfl ?_
      refine gf_X9_122 F X hw4 dX9_undo_28 ?_
      refine lv_iconst (v := 1) hx hb dX9_undo_31 (by decide) ?_
      refine lv_isub hx hb dX9_undo_32 ?_
      obtain ⟨M6, eM6, h⟩ := nm_x h
      refine pf_X9_122 F X hw4 dX9_undo_33 (fun H locs X => ?_)
      have X := Wd_eq eM6 X
      refine lv_aload_n hx hb dX9_undo_36 rfl (lv_at hl 1 rfl) ?_
      refine lv_iload_n hx hb dX9_undo_37 rfl (lv_at hl 2 rfl) ?_
      obtain ⟨r7, hr7, h⟩ := bd_x h
      refine r_callv X (r_runV F X (kX9_takeText l D ad cs A  M6 a1 _ hr7) gm_X9_119 hd_X9_takeText ⟨Nat.le_of_ble_eq_true rfl, Nat.le_of_ble_eq_true rfl⟩ qC0 rfl rfl hl.1 rfl (Nat.le_of_ble_eq_true rfl) dX9_undo_38) (fun H locs X => ?_)
      refine lv_aload_n hx hb dX9_undo_41 rfl (lv_at hl 0 rfl) ?_
      refine gf_X9_122 F X hw4 dX9_undo_42 ?_
      have h := sm_x h
      exact RT H locs _ _ 45 ls X h dX9_undo_45
    · have h := it_n h c5
      refine lv_bipush (v := (-3)) hx hb dX9_undo_23 (by decide) ?_
      have h := sm_x h
      exact RT H locs _ _ 25 ls X h dX9_undo_25
  · have h := it_p h c2
    refine lv_bipush (v := (-2)) hx hb dX9_undo_7 (by decide) ?_
    have h := sm_x h
    exact RT H locs _ _ 9 ls X h dX9_undo_9

/-! ===== X9_fault ===== -/
def fX9_fault (M : Mem) (a1 : Int32) : Option Int32 :=
  (fX9_isText a1).bind fun r1 =>
  (if r1 = 0 then
    some (-2)
  else
    if a1 = 0 then
      (fX3_faultAsHeirs 1 M).bind fun r5 =>
      some r5
    else
      (fX3_faultAsRound 2 M).bind fun r4 =>
      some r4)
set_option maxHeartbeats 4000000 in
set_option maxRecDepth 100000 in
theorem kX9_fault (l : Launch) (D : va_G) (ad : Nat → Nat) (cs : Nat → ClassId) (A : Nat → Prop)  (M : Mem) (a1 : Int32) (z : Int32) (hz : fX9_fault M a1 = some z) : Met l yX9_fault (wsU yX9_fault cX9_fault 2 (some .int)) (rmo 3 106) (va_Pc [.ref (ad (cO GC 0)), .int a1] (Wd0 D ad cs GC A M)) (va_Qi (fun r u => (r, u) = (z, M)) (Wd0 D ad cs GC A) A) 0 0 A := by
  refine ct_i0 (by decide) rfl okGC (Nat.le_of_ble_eq_true rfl) ?_
  intro p e s m args below meth c Q ls F X hl RT
  have hx := F.1
  have hb := F.2.1
  have hl : lv_has ls 2 [(0, .ref (ad (cO GC 0))), (1, .int a1)] := hl
  obtain ⟨H, hH⟩ : ∃ H, H = s.heap := ⟨_, rfl⟩
  rw [← hH] at X ⊢
  obtain ⟨locs, hlocs⟩ : ∃ locs : List Loc, locs = [] := ⟨_, rfl⟩
  rw [← hlocs] at X ⊢
  clear hH hlocs
  have h := hz
  unfold fX9_fault at h
  refine lv_iload_n hx hb dX9_fault_0 rfl (lv_at hl 1 rfl) ?_
  obtain ⟨r1, hr1, h⟩ := bd_x h
  refine r_calli0 X (r_runS F X (kX9_isText l D ad cs A  M a1 _ hr1) gm_X9_100 hd_X9_isText ⟨Nat.le_of_ble_eq_true rfl, Nat.le_of_ble_eq_true rfl⟩ rfl hl.1 rfl (Nat.le_of_ble_eq_true rfl) dX9_fault_1) (fun H locs X => ?_)
  refine lv_if_ne (tgt := 10) hx hb dX9_fault_4 (by decide) (fun c2 => ?_) (fun c2 => ?_)
  · have h := it_n h c2
    refine lv_iload_n hx hb dX9_fault_10 rfl (lv_at hl 1 rfl) ?_
    refine lv_if_ne (tgt := 24) hx hb dX9_fault_11 (by decide) (fun c3 => ?_) (fun c3 => ?_)
    · have h := it_n h c3
      refine lv_aload_n hx hb dX9_fault_24 rfl (lv_at hl 0 rfl) ?_
      refine gf_X9_18 F X qC0 dX9_fault_25 ?_
      obtain ⟨r4, hr4, h⟩ := bd_x h
      refine r_calli0 X (r_runV F X (kX3_faultAsRound l D ad cs A qC2 M  _ hr4) gm_X9_129 hd_X3_faultAsRound ⟨Nat.le_of_ble_eq_true rfl, Nat.le_of_ble_eq_true rfl⟩ qC2 rfl rfl hl.1 rfl (Nat.le_of_ble_eq_true rfl) dX9_fault_28) (fun H locs X => ?_)
      have h := sm_x h
      exact RT H locs _ 31 ls X h dX9_fault_31
    · have h := it_p h c3
      refine lv_aload_n hx hb dX9_fault_14 rfl (lv_at hl 0 rfl) ?_
      refine gf_X9_14 F X qC0 dX9_fault_15 ?_
      obtain ⟨r5, hr5, h⟩ := bd_x h
      refine r_calli0 X (r_runV F X (kX3_faultAsHeirs l D ad cs A qC1 M  _ hr5) gm_X9_125 hd_X3_faultAsHeirs ⟨Nat.le_of_ble_eq_true rfl, Nat.le_of_ble_eq_true rfl⟩ qC1 rfl rfl hl.1 rfl (Nat.le_of_ble_eq_true rfl) dX9_fault_18) (fun H locs X => ?_)
      refine lv_goto (tgt := 31) hx hb dX9_fault_21 (by decide) ?_
      have h := sm_x h
      exact RT H locs _ 31 ls X h dX9_fault_31
  · have h := it_p h c2
    refine lv_bipush (v := (-2)) hx hb dX9_fault_7 (by decide) ?_
    have h := sm_x h
    exact RT H locs _ 9 ls X h dX9_fault_9

/-! ===== X9_isHeir ===== -/
def fX9_isHeir (M : Mem) (a1 : Int32) : Option Int32 :=
  if a1 < 0 then
    some 0
  else
    if (M 3 5 0) ≤ a1 then
      some 0
    else
      some 1
set_option maxHeartbeats 4000000 in
set_option maxRecDepth 100000 in
theorem kX9_isHeir (l : Launch) (D : va_G) (ad : Nat → Nat) (cs : Nat → ClassId) (A : Nat → Prop)  (M : Mem) (a1 : Int32) (z : Int32) (hz : fX9_isHeir M a1 = some z) : Met l yX9_isHeir (wsU yX9_isHeir cX9_isHeir 2 (some .boolean)) (rmo 1 64) (va_Pc [.ref (ad (cO GC 0)), .int a1] (Wd0 D ad cs GC A M)) (va_Qi (fun r u => (r, u) = (z, M)) (Wd0 D ad cs GC A) A) 0 0 A := by
  refine ct_z0 (by decide) rfl okGC (Nat.le_of_ble_eq_true rfl) ?_
  intro p e s m args below meth c Q ls F X hl RT
  have hx := F.1
  have hb := F.2.1
  have hl : lv_has ls 2 [(0, .ref (ad (cO GC 0))), (1, .int a1)] := hl
  obtain ⟨H, hH⟩ : ∃ H, H = s.heap := ⟨_, rfl⟩
  rw [← hH] at X ⊢
  obtain ⟨locs, hlocs⟩ : ∃ locs : List Loc, locs = [] := ⟨_, rfl⟩
  rw [← hlocs] at X ⊢
  clear hH hlocs
  have h := hz
  unfold fX9_isHeir at h
  refine lv_iload_n hx hb dX9_isHeir_0 rfl (lv_at hl 1 rfl) ?_
  refine lv_if_lt (tgt := 19) hx hb dX9_isHeir_1 (by decide) (fun c1 => ?_) (fun c1 => ?_)
  · have h := it_p h c1
    refine lv_iconst (v := 0) hx hb dX9_isHeir_19 (by decide) ?_
    have h := sm_x h
    exact RT H locs _ 20 ls X h (by decide) dX9_isHeir_20
  · have h := it_n h c1
    refine lv_iload_n hx hb dX9_isHeir_4 rfl (lv_at hl 1 rfl) ?_
    refine lv_aload_n hx hb dX9_isHeir_5 rfl (lv_at hl 0 rfl) ?_
    refine gf_X9_24 F X qC0 dX9_isHeir_6 ?_
    refine gf_X9_232 F X qC3 dX9_isHeir_9 ?_
    refine lv_icmp_ge (tgt := 19) hx hb dX9_isHeir_12 (by decide) (fun c2 => ?_) (fun c2 => ?_)
    · have h := it_p h c2
      refine lv_iconst (v := 0) hx hb dX9_isHeir_19 (by decide) ?_
      have h := sm_x h
      exact RT H locs _ 20 ls X h (by decide) dX9_isHeir_20
    · have h := it_n h c2
      refine lv_iconst (v := 1) hx hb dX9_isHeir_15 (by decide) ?_
      refine lv_goto (tgt := 20) hx hb dX9_isHeir_16 (by decide) ?_
      have h := sm_x h
      exact RT H locs _ 20 ls X h (by decide) dX9_isHeir_20

/-! ===== X9_heir ===== -/
def fX9_heir (M : Mem) (a1 : Int32) (a2 : Int32) : Option Int32 :=
  (fX9_isHeir M a1).bind fun r1 =>
  (if r1 = 0 then
    some (-2)
  else
    if a2 = 0 then
      gd (inB a1 8) <|
      some (M 3 0 (Int32.toNatClampNeg a1))
    else
      if a2 = 1 then
        gd (inB a1 8) <|
        some (M 3 1 (Int32.toNatClampNeg a1))
      else
        if a2 = 2 then
          gd (inB a1 8) <|
          some (M 3 2 (Int32.toNatClampNeg a1))
        else
          some (-2))
set_option maxHeartbeats 4000000 in
set_option maxRecDepth 100000 in
theorem kX9_heir (l : Launch) (D : va_G) (ad : Nat → Nat) (cs : Nat → ClassId) (A : Nat → Prop)  (M : Mem) (a1 : Int32) (a2 : Int32) (z : Int32) (hz : fX9_heir M a1 a2 = some z) : Met l yX9_heir (wsU yX9_heir cX9_heir 3 (some .int)) (rmo 2 85) (va_Pc [.ref (ad (cO GC 0)), .int a1, .int a2] (Wd0 D ad cs GC A M)) (va_Qi (fun r u => (r, u) = (z, M)) (Wd0 D ad cs GC A) A) 0 0 A := by
  refine ct_i0 (by decide) rfl okGC (Nat.le_of_ble_eq_true rfl) ?_
  intro p e s m args below meth c Q ls F X hl RT
  have hx := F.1
  have hb := F.2.1
  have hl : lv_has ls 3 [(0, .ref (ad (cO GC 0))), (1, .int a1), (2, .int a2)] := hl
  obtain ⟨H, hH⟩ : ∃ H, H = s.heap := ⟨_, rfl⟩
  rw [← hH] at X ⊢
  obtain ⟨locs, hlocs⟩ : ∃ locs : List Loc, locs = [] := ⟨_, rfl⟩
  rw [← hlocs] at X ⊢
  clear hH hlocs
  have h := hz
  unfold fX9_heir at h
  refine lv_aload_n hx hb dX9_heir_0 rfl (lv_at hl 0 rfl) ?_
  refine lv_iload_n hx hb dX9_heir_1 rfl (lv_at hl 1 rfl) ?_
  obtain ⟨r1, hr1, h⟩ := bd_x h
  refine r_calli0 X (r_runV F X (kX9_isHeir l D ad cs A  M a1 _ hr1) gm_X9_132 hd_X9_isHeir ⟨Nat.le_of_ble_eq_true rfl, Nat.le_of_ble_eq_true rfl⟩ qC0 rfl rfl hl.1 rfl (Nat.le_of_ble_eq_true rfl) dX9_heir_2) (fun H locs X => ?_)
  refine lv_if_ne (tgt := 11) hx hb dX9_heir_5 (by decide) (fun c2 => ?_) (fun c2 => ?_)
  · have h := it_n h c2
    refine lv_iload_n hx hb dX9_heir_11 rfl (lv_at hl 2 rfl) ?_
    by_cases c3 : a2 = 0
    · have h := it_p h c3
      refine r_tabI (off := 28) (tgt := 40) hx hb dX9_heir_12 c3 (by decide) (by decide) (by decide) (by decide) ?_
      refine lv_aload_n hx hb dX9_heir_40 rfl (lv_at hl 0 rfl) ?_
      refine gf_X9_24 F X qC0 dX9_heir_41 ?_
      refine gf_X9_135 F X qC3 dX9_heir_44 ?_
      refine lv_iload_n hx hb dX9_heir_47 rfl (lv_at hl 1 rfl) ?_
      obtain ⟨hin, h⟩ := gd_x h
      refine r_iald F X (ar_X2_0 qC3) hin dX9_heir_48 ?_
      have h := sm_x h
      exact RT H locs _ 49 ls X h dX9_heir_49
    · have h := it_n h c3
      by_cases c4 : a2 = 1
      · have h := it_p h c4
        refine r_tabI (off := 38) (tgt := 50) hx hb dX9_heir_12 c4 (by decide) (by decide) (by decide) (by decide) ?_
        refine lv_aload_n hx hb dX9_heir_50 rfl (lv_at hl 0 rfl) ?_
        refine gf_X9_24 F X qC0 dX9_heir_51 ?_
        refine gf_X9_138 F X qC3 dX9_heir_54 ?_
        refine lv_iload_n hx hb dX9_heir_57 rfl (lv_at hl 1 rfl) ?_
        obtain ⟨hin, h⟩ := gd_x h
        refine r_iald F X (ar_X2_1 qC3) hin dX9_heir_58 ?_
        have h := sm_x h
        exact RT H locs _ 59 ls X h dX9_heir_59
      · have h := it_n h c4
        by_cases c5 : a2 = 2
        · have h := it_p h c5
          refine r_tabI (off := 48) (tgt := 60) hx hb dX9_heir_12 c5 (by decide) (by decide) (by decide) (by decide) ?_
          refine lv_aload_n hx hb dX9_heir_60 rfl (lv_at hl 0 rfl) ?_
          refine gf_X9_24 F X qC0 dX9_heir_61 ?_
          refine gf_X9_141 F X qC3 dX9_heir_64 ?_
          refine lv_iload_n hx hb dX9_heir_67 rfl (lv_at hl 1 rfl) ?_
          obtain ⟨hin, h⟩ := gd_x h
          refine r_iald F X (ar_X2_2 qC3) hin dX9_heir_68 ?_
          have h := sm_x h
          exact RT H locs _ 69 ls X h dX9_heir_69
        · have h := it_n h c5
          refine r_tabO (tgt := 70) hx hb dX9_heir_12 2 (by decide) (by decide) (fun k hk => by rcases (show k = 0 ∨ k = 1 ∨ k = 2 by omega) with rfl | rfl | rfl <;> assumption) (by decide) ?_
          refine lv_bipush (v := (-2)) hx hb dX9_heir_70 (by decide) ?_
          have h := sm_x h
          exact RT H locs _ 72 ls X h dX9_heir_72
  · have h := it_p h c2
    refine lv_bipush (v := (-2)) hx hb dX9_heir_8 (by decide) ?_
    have h := sm_x h
    exact RT H locs _ 10 ls X h dX9_heir_10

/-! ===== X9_round ===== -/
def fX9_round (M : Mem) (a1 : Int32) : Option Int32 :=
  (fX9_within a1 19).bind fun r1 =>
  (if r1 = 0 then
    some (-2)
  else
    if (M 3 6 0) ≤ a1 then
      some (-1)
    else
      gd (inB a1 20) <|
      some (M 3 4 (Int32.toNatClampNeg a1)))
set_option maxHeartbeats 4000000 in
set_option maxRecDepth 100000 in
theorem kX9_round (l : Launch) (D : va_G) (ad : Nat → Nat) (cs : Nat → ClassId) (A : Nat → Prop)  (M : Mem) (a1 : Int32) (z : Int32) (hz : fX9_round M a1 = some z) : Met l yX9_round (wsU yX9_round cX9_round 2 (some .int)) (rmo 2 85) (va_Pc [.ref (ad (cO GC 0)), .int a1] (Wd0 D ad cs GC A M)) (va_Qi (fun r u => (r, u) = (z, M)) (Wd0 D ad cs GC A) A) 0 0 A := by
  refine ct_i0 (by decide) rfl okGC (Nat.le_of_ble_eq_true rfl) ?_
  intro p e s m args below meth c Q ls F X hl RT
  have hx := F.1
  have hb := F.2.1
  have hl : lv_has ls 2 [(0, .ref (ad (cO GC 0))), (1, .int a1)] := hl
  obtain ⟨H, hH⟩ : ∃ H, H = s.heap := ⟨_, rfl⟩
  rw [← hH] at X ⊢
  obtain ⟨locs, hlocs⟩ : ∃ locs : List Loc, locs = [] := ⟨_, rfl⟩
  rw [← hlocs] at X ⊢
  clear hH hlocs
  have h := hz
  unfold fX9_round at h
  refine lv_iload_n hx hb dX9_round_0 rfl (lv_at hl 1 rfl) ?_
  refine lv_bipush (v := 19) hx hb dX9_round_1 (by decide) ?_
  obtain ⟨r1, hr1, h⟩ := bd_x h
  refine r_calli0 X (r_runS F X (kX9_within l D ad cs A  M a1 19 _ hr1) gm_X9_104 hd_X9_within ⟨Nat.le_of_ble_eq_true rfl, Nat.le_of_ble_eq_true rfl⟩ rfl hl.1 rfl (Nat.le_of_ble_eq_true rfl) dX9_round_3) (fun H locs X => ?_)
  refine lv_if_ne (tgt := 12) hx hb dX9_round_6 (by decide) (fun c2 => ?_) (fun c2 => ?_)
  · have h := it_n h c2
    refine lv_iload_n hx hb dX9_round_12 rfl (lv_at hl 1 rfl) ?_
    refine lv_aload_n hx hb dX9_round_13 rfl (lv_at hl 0 rfl) ?_
    refine gf_X9_24 F X qC0 dX9_round_14 ?_
    refine gf_X9_144 F X qC3 dX9_round_17 ?_
    refine lv_icmp_ge (tgt := 35) hx hb dX9_round_20 (by decide) (fun c3 => ?_) (fun c3 => ?_)
    · have h := it_p h c3
      refine lv_iconst (v := (-1)) hx hb dX9_round_35 (by decide) ?_
      have h := sm_x h
      exact RT H locs _ 36 ls X h dX9_round_36
    · have h := it_n h c3
      refine lv_aload_n hx hb dX9_round_23 rfl (lv_at hl 0 rfl) ?_
      refine gf_X9_24 F X qC0 dX9_round_24 ?_
      refine gf_X9_147 F X qC3 dX9_round_27 ?_
      refine lv_iload_n hx hb dX9_round_30 rfl (lv_at hl 1 rfl) ?_
      obtain ⟨hin, h⟩ := gd_x h
      refine r_iald F X (ar_X2_4 qC3) hin dX9_round_31 ?_
      refine lv_goto (tgt := 36) hx hb dX9_round_32 (by decide) ?_
      have h := sm_x h
      exact RT H locs _ 36 ls X h dX9_round_36
  · have h := it_p h c2
    refine lv_bipush (v := (-2)) hx hb dX9_round_9 (by decide) ?_
    have h := sm_x h
    exact RT H locs _ 11 ls X h dX9_round_11

/-! ===== X9_set ===== -/
def fX9_set (M : Mem) (a1 : Int32) (a2 : Int32) : Option (Int32 × Mem) :=
  (fX9_within a1 ((4 : Int32) - (1 : Int32))).bind fun r1 =>
  (if r1 = 0 then
    some ((-2), M)
  else
    gd (inB a1 4) <|
    (fX9_within a2 (tMost (Int32.toNatClampNeg a1))).bind fun r3 =>
    (if r3 = 0 then
      some ((-2), M)
    else
      gd (inB a1 4) <|
      nm (M 3 3 (Int32.toNatClampNeg a1) : Int32) fun u5 =>
      gd (inB a1 4) <|
      nm (wr M 3 3 (Int32.toNatClampNeg a1) a2) fun M6 =>
      (fX9_retell M6).bind fun r7 =>
      some (u5, r7)))
set_option maxHeartbeats 4000000 in
set_option maxRecDepth 100000 in
theorem kX9_set (l : Launch) (D : va_G) (ad : Nat → Nat) (cs : Nat → ClassId) (A : Nat → Prop)  (M : Mem) (a1 : Int32) (a2 : Int32) (z : (Int32 × Mem)) (hz : fX9_set M a1 a2 = some z) : Met l yX9_set (wsU yX9_set cX9_set 4 (some .int)) (rmo 6 177) (va_Pc [.ref (ad (cO GC 0)), .int a1, .int a2] (Wd0 D ad cs GC A M)) (va_Qi (fun r u => (r, u) = z) (Wd0 D ad cs GC A) A) 0 0 A := by
  refine ct_i (by decide) rfl okGC (Nat.le_of_ble_eq_true rfl) ?_
  intro p e s m args below meth c Q ls F X hl RT
  have hx := F.1
  have hb := F.2.1
  have hl : lv_has ls 4 [(0, .ref (ad (cO GC 0))), (1, .int a1), (2, .int a2)] := hl
  obtain ⟨H, hH⟩ : ∃ H, H = s.heap := ⟨_, rfl⟩
  rw [← hH] at X ⊢
  obtain ⟨locs, hlocs⟩ : ∃ locs : List Loc, locs = [] := ⟨_, rfl⟩
  rw [← hlocs] at X ⊢
  clear hH hlocs
  have h := hz
  unfold fX9_set at h
  refine lv_iload_n hx hb dX9_set_0 rfl (lv_at hl 1 rfl) ?_
  refine r_most F X (mT2 237 rfl rfl) dX9_set_1 (fun t hT => ?_)
  refine r_mostLen F X hT dX9_set_4 ?_
  refine lv_iconst (v := 1) hx hb dX9_set_5 (by decide) ?_
  refine lv_isub hx hb dX9_set_6 ?_
  obtain ⟨r1, hr1, h⟩ := bd_x h
  refine r_calli0 X (r_runS F X (kX9_within l D ad cs A  M a1 ((4 : Int32) - (1 : Int32)) _ hr1) gm_X9_104 hd_X9_within ⟨Nat.le_of_ble_eq_true rfl, Nat.le_of_ble_eq_true rfl⟩ rfl hl.1 rfl (Nat.le_of_ble_eq_true rfl) dX9_set_7) (fun H locs X => ?_)
  refine lv_if_eq (tgt := 25) hx hb dX9_set_10 (by decide) (fun c2 => ?_) (fun c2 => ?_)
  · have h := it_p h c2
    refine lv_bipush (v := (-2)) hx hb dX9_set_25 (by decide) ?_
    have h := sm_x h
    exact RT H locs _ _ 27 ls X h dX9_set_27
  · have h := it_n h c2
    refine lv_iload_n hx hb dX9_set_13 rfl (lv_at hl 2 rfl) ?_
    refine r_most F X (mT2 237 rfl rfl) dX9_set_14 (fun t hT => ?_)
    refine lv_iload_n hx hb dX9_set_17 rfl (lv_at hl 1 rfl) ?_
    obtain ⟨hin, h⟩ := gd_x h
    refine r_mostAt F X hT hin dX9_set_18 ?_
    obtain ⟨r3, hr3, h⟩ := bd_x h
    refine r_calli0 X (r_runS F X (kX9_within l D ad cs A  M a2 (tMost (Int32.toNatClampNeg a1)) _ hr3) gm_X9_104 hd_X9_within ⟨Nat.le_of_ble_eq_true rfl, Nat.le_of_ble_eq_true rfl⟩ rfl hl.1 rfl (Nat.le_of_ble_eq_true rfl) dX9_set_19) (fun H locs X => ?_)
    refine lv_if_ne (tgt := 28) hx hb dX9_set_22 (by decide) (fun c4 => ?_) (fun c4 => ?_)
    · have h := it_n h c4
      refine lv_aload_n hx hb dX9_set_28 rfl (lv_at hl 0 rfl) ?_
      refine gf_X9_24 F X qC0 dX9_set_29 ?_
      refine gf_X9_91 F X qC3 dX9_set_32 ?_
      refine lv_iload_n hx hb dX9_set_35 rfl (lv_at hl 1 rfl) ?_
      obtain ⟨hin, h⟩ := gd_x h
      refine r_iald F X (ar_X2_3 qC3) hin dX9_set_36 ?_
      obtain ⟨u5, eu5, h⟩ := nm_x h
      refine topE eu5 ?_
      refine lv_istore_n (lv' := [(3, .int u5), (0, .ref (ad (cO GC 0))), (1, .int a1), (2, .int a2)]) hx hb dX9_set_37 rfl hl (by decide) rfl (fun ls hl => ?_)
      refine lv_aload_n hx hb dX9_set_38 rfl (lv_at hl 1 rfl) ?_
      refine gf_X9_24 F X qC0 dX9_set_39 ?_
      refine gf_X9_91 F X qC3 dX9_set_42 ?_
      refine lv_iload_n hx hb dX9_set_45 rfl (lv_at hl 2 rfl) ?_
      refine lv_iload_n hx hb dX9_set_46 rfl (lv_at hl 3 rfl) ?_
      obtain ⟨hin, h⟩ := gd_x h
      obtain ⟨M6, eM6, h⟩ := nm_x h
      refine r_iast F X (ar_X2_3 qC3) hin dX9_set_47 (fun H locs X => ?_)
      have X := Wd_eq eM6 X
      refine lv_aload_n hx hb dX9_set_48 rfl (lv_at hl 1 rfl) ?_
      obtain ⟨r7, hr7, h⟩ := bd_x h
      refine r_callv X (r_runV F X (kX9_retell l D ad cs A  M6  _ hr7) gm_X9_153 hd_X9_retell ⟨Nat.le_of_ble_eq_true rfl, Nat.le_of_ble_eq_true rfl⟩ qC0 rfl rfl hl.1 rfl (Nat.le_of_ble_eq_true rfl) dX9_set_49) (fun H locs X => ?_)
      refine lv_iload_n hx hb dX9_set_52 rfl (lv_at hl 0 rfl) ?_
      have h := sm_x h
      exact RT H locs _ _ 53 ls X h dX9_set_53
    · have h := it_p h c4
      refine lv_bipush (v := (-2)) hx hb dX9_set_25 (by decide) ?_
      have h := sm_x h
      exact RT H locs _ _ 27 ls X h dX9_set_27

/-! ===== X9_takeFlies ===== -/
def fX9_takeFlies (M : Mem) : Option Mem :=
  (fX1_stopsOf M 63).bind fun r1 =>
  nm (wr M 3 7 0 r1) fun M2 =>
  (fX9_retell M2).bind fun r3 =>
  some r3
set_option maxHeartbeats 4000000 in
set_option maxRecDepth 100000 in
theorem kX9_takeFlies (l : Launch) (D : va_G) (ad : Nat → Nat) (cs : Nat → ClassId) (A : Nat → Prop)  (M : Mem)  (z : Mem) (hz : fX9_takeFlies M = some z) : Met l yX9_takeFlies (wsU yX9_takeFlies cX9_takeFlies 1 none) (rmo 6 177) (va_Pc [.ref (ad (cO GC 0))] (Wd0 D ad cs GC A M)) (va_Qv (fun u => u = z) (Wd0 D ad cs GC A) A) 0 0 A := by
  refine ct_v (by decide) rfl okGC (Nat.le_of_ble_eq_true rfl) ?_
  intro p e s m args below meth c Q ls F X hl RT
  have hx := F.1
  have hb := F.2.1
  have hl : lv_has ls 1 [(0, .ref (ad (cO GC 0)))] := hl
  obtain ⟨H, hH⟩ : ∃ H, H = s.heap := ⟨_, rfl⟩
  rw [← hH] at X ⊢
  obtain ⟨locs, hlocs⟩ : ∃ locs : List Loc, locs = [] := ⟨_, rfl⟩
  rw [← hlocs] at X ⊢
  clear hH hlocs
  have h := hz
  unfold fX9_takeFlies at h
  refine lv_aload_n hx hb dX9_takeFlies_0 rfl (lv_at hl 0 rfl) ?_
  refine gf_X9_24 F X qC0 dX9_takeFlies_1 ?_
  refine lv_aload_n hx hb dX9_takeFlies_4 rfl (lv_at hl 0 rfl) ?_
  refine gf_X9_45 F X qC0 dX9_takeFlies_5 ?_
  refine lv_bipush (v := 63) hx hb dX9_takeFlies_8 (by decide) ?_
  obtain ⟨r1, hr1, h⟩ := bd_x h
  refine r_calli0 X (r_runV F X (kX1_stopsOf l D ad cs A  M 63 _ hr1) gm_X9_404 hd_X1_stopsOf ⟨Nat.le_of_ble_eq_true rfl, Nat.le_of_ble_eq_true rfl⟩ qC9 rfl rfl hl.1 rfl (Nat.le_of_ble_eq_true rfl) dX9_takeFlies_10) (fun H locs X => ?_)
  obtain ⟨M2, eM2, h⟩ := nm_x h
  refine pf_X9_260 F X qC3 dX9_takeFlies_13 (fun H locs X => ?_)
  have X := Wd_eq eM2 X
  refine lv_aload_n hx hb dX9_takeFlies_16 rfl (lv_at hl 0 rfl) ?_
  obtain ⟨r3, hr3, h⟩ := bd_x h
  refine r_callv X (r_runV F X (kX9_retell l D ad cs A  M2  _ hr3) gm_X9_153 hd_X9_retell ⟨Nat.le_of_ble_eq_true rfl, Nat.le_of_ble_eq_true rfl⟩ qC0 rfl rfl hl.1 rfl (Nat.le_of_ble_eq_true rfl) dX9_takeFlies_17) (fun H locs X => ?_)
  have h := sm_x h
  exact RT H locs _ 20 ls X h dX9_takeFlies_20

/-! ===== X9_fly ===== -/
def fX9_fly (M : Mem) (a1 : Int32) : Option (Int32 × Mem) :=
  (fX9_within a1 19).bind fun r1 =>
  (if r1 = 0 then
    some ((-2), M)
  else
    if (M 9 1 0) < 6 then
      (fX1_append M a1).bind fun r4 =>
      (fX9_takeFlies r4).bind fun r5 =>
      some (r5 9 1 0, r5)
    else
      some ((-4), M))
set_option maxHeartbeats 4000000 in
set_option maxRecDepth 100000 in
theorem kX9_fly (l : Launch) (D : va_G) (ad : Nat → Nat) (cs : Nat → ClassId) (A : Nat → Prop)  (M : Mem) (a1 : Int32) (z : (Int32 × Mem)) (hz : fX9_fly M a1 = some z) : Met l yX9_fly (wsU yX9_fly cX9_fly 2 (some .int)) (rmo 7 197) (va_Pc [.ref (ad (cO GC 0)), .int a1] (Wd0 D ad cs GC A M)) (va_Qi (fun r u => (r, u) = z) (Wd0 D ad cs GC A) A) 0 0 A := by
  refine ct_i (by decide) rfl okGC (Nat.le_of_ble_eq_true rfl) ?_
  intro p e s m args below meth c Q ls F X hl RT
  have hx := F.1
  have hb := F.2.1
  have hl : lv_has ls 2 [(0, .ref (ad (cO GC 0))), (1, .int a1)] := hl
  obtain ⟨H, hH⟩ : ∃ H, H = s.heap := ⟨_, rfl⟩
  rw [← hH] at X ⊢
  obtain ⟨locs, hlocs⟩ : ∃ locs : List Loc, locs = [] := ⟨_, rfl⟩
  rw [← hlocs] at X ⊢
  clear hH hlocs
  have h := hz
  unfold fX9_fly at h
  refine lv_iload_n hx hb dX9_fly_0 rfl (lv_at hl 1 rfl) ?_
  refine lv_bipush (v := 19) hx hb dX9_fly_1 (by decide) ?_
  obtain ⟨r1, hr1, h⟩ := bd_x h
  refine r_calli0 X (r_runS F X (kX9_within l D ad cs A  M a1 19 _ hr1) gm_X9_104 hd_X9_within ⟨Nat.le_of_ble_eq_true rfl, Nat.le_of_ble_eq_true rfl⟩ rfl hl.1 rfl (Nat.le_of_ble_eq_true rfl) dX9_fly_3) (fun H locs X => ?_)
  refine lv_if_ne (tgt := 12) hx hb dX9_fly_6 (by decide) (fun c2 => ?_) (fun c2 => ?_)
  · have h := it_n h c2
    refine lv_aload_n hx hb dX9_fly_12 rfl (lv_at hl 0 rfl) ?_
    refine gf_X9_45 F X qC0 dX9_fly_13 ?_
    refine gf_X9_156 F X qC9 dX9_fly_16 ?_
    refine lv_bipush (v := 6) hx hb dX9_fly_19 (by decide) ?_
    refine lv_icmp_lt (tgt := 27) hx hb dX9_fly_21 (by decide) (fun c3 => ?_) (fun c3 => ?_)
    · have h := it_p h c3
      refine lv_aload_n hx hb dX9_fly_27 rfl (lv_at hl 0 rfl) ?_
      refine gf_X9_45 F X qC0 dX9_fly_28 ?_
      refine lv_iload_n hx hb dX9_fly_31 rfl (lv_at hl 1 rfl) ?_
      obtain ⟨r4, hr4, h⟩ := bd_x h
      refine r_callv X (r_runV F X (kX1_append l D ad cs A  M a1 _ hr4) gm_X9_157 hd_X1_append ⟨Nat.le_of_ble_eq_true rfl, Nat.le_of_ble_eq_true rfl⟩ qC9 rfl rfl hl.1 rfl (Nat.le_of_ble_eq_true rfl) dX9_fly_32) (fun H locs X => ?_)
      refine lv_aload_n hx hb dX9_fly_35 rfl (lv_at hl 0 rfl) ?_
      obtain ⟨r5, hr5, h⟩ := bd_x h
      refine r_callv X (r_runV F X (kX9_takeFlies l D ad cs A  r4  _ hr5) gm_X9_158 hd_X9_takeFlies ⟨Nat.le_of_ble_eq_true rfl, Nat.le_of_ble_eq_true rfl⟩ qC0 rfl rfl hl.1 rfl (Nat.le_of_ble_eq_true rfl) dX9_fly_36) (fun H locs X => ?_)
      refine lv_aload_n hx hb dX9_fly_39 rfl (lv_at hl 0 rfl) ?_
      refine gf_X9_45 F X qC0 dX9_fly_40 ?_
      refine gf_X9_156 F X qC9 dX9_fly_43 ?_
      have h := sm_x h
      exact RT H locs _ _ 46 ls X h dX9_fly_46
    · have h := it_n h c3
      refine lv_bipush (v := (-4)) hx hb dX9_fly_24 (by decide) ?_
      have h := sm_x h
      exact RT H locs _ _ 26 ls X h dX9_fly_26
  · have h := it_p h c2
    refine lv_bipush (v := (-2)) hx hb dX9_fly_9 (by decide) ?_
    have h := sm_x h
    exact RT H locs _ _ 11 ls X h dX9_fly_11

/-! ===== X9_back ===== -/
def fX9_back (M : Mem) : Option (Int32 × Mem) :=
  if 0 < (M 9 1 0) then
    nm (wr M 9 1 0 ((M 9 1 0) - (1 : Int32))) fun M2 =>
    (fX9_takeFlies M2).bind fun r3 =>
    some (r3 9 1 0, r3)
  else
    some ((-3), M)
set_option maxHeartbeats 4000000 in
set_option maxRecDepth 100000 in
theorem kX9_back (l : Launch) (D : va_G) (ad : Nat → Nat) (cs : Nat → ClassId) (A : Nat → Prop)  (M : Mem)  (z : (Int32 × Mem)) (hz : fX9_back M = some z) : Met l yX9_back (wsU yX9_back cX9_back 1 (some .int)) (rmo 7 197) (va_Pc [.ref (ad (cO GC 0))] (Wd0 D ad cs GC A M)) (va_Qi (fun r u => (r, u) = z) (Wd0 D ad cs GC A) A) 0 0 A := by
  refine ct_i (by decide) rfl okGC (Nat.le_of_ble_eq_true rfl) ?_
  intro p e s m args below meth c Q ls F X hl RT
  have hx := F.1
  have hb := F.2.1
  have hl : lv_has ls 1 [(0, .ref (ad (cO GC 0)))] := hl
  obtain ⟨H, hH⟩ : ∃ H, H = s.heap := ⟨_, rfl⟩
  rw [← hH] at X ⊢
  obtain ⟨locs, hlocs⟩ : ∃ locs : List Loc, locs = [] := ⟨_, rfl⟩
  rw [← hlocs] at X ⊢
  clear hH hlocs
  have h := hz
  unfold fX9_back at h
  refine lv_aload_n hx hb dX9_back_0 rfl (lv_at hl 0 rfl) ?_
  refine gf_X9_45 F X qC0 dX9_back_1 ?_
  refine gf_X9_156 F X qC9 dX9_back_4 ?_
  refine lv_if_gt (tgt := 13) hx hb dX9_back_7 (by decide) (fun c1 => ?_) (fun c1 => ?_)
  · have h := it_p h c1
    refine lv_aload_n hx hb dX9_back_13 rfl (lv_at hl 0 rfl) ?_
    refine gf_X9_45 F X qC0 dX9_back_14 ?_
    refine lv_dup hx hb dX9_back_17 rfl ?_
    refine gf_X9_156 F X qC9 dX9_back_18 ?_
    refine lv_iconst (v := 1) hx hb dX9_back_21 (by decide) ?_
    refine lv_isub hx hb dX9_back_22 ?_
    obtain ⟨M2, eM2, h⟩ := nm_x h
    refine pf_X9_156 F X qC9 dX9_back_23 (fun H locs X => ?_)
    have X := Wd_eq eM2 X
    refine lv_aload_n hx hb dX9_back_26 rfl (lv_at hl 0 rfl) ?_
    obtain ⟨r3, hr3, h⟩ := bd_x h
    refine r_callv X (r_runV F X (kX9_takeFlies l D ad cs A  M2  _ hr3) gm_X9_158 hd_X9_takeFlies ⟨Nat.le_of_ble_eq_true rfl, Nat.le_of_ble_eq_true rfl⟩ qC0 rfl rfl hl.1 rfl (Nat.le_of_ble_eq_true rfl) dX9_back_27) (fun H locs X => ?_)
    refine lv_aload_n hx hb dX9_back_30 rfl (lv_at hl 0 rfl) ?_
    refine gf_X9_45 F X qC0 dX9_back_31 ?_
    refine gf_X9_156 F X qC9 dX9_back_34 ?_
    have h := sm_x h
    exact RT H locs _ _ 37 ls X h dX9_back_37
  · have h := it_n h c1
    refine lv_bipush (v := (-3)) hx hb dX9_back_10 (by decide) ?_
    have h := sm_x h
    exact RT H locs _ _ 12 ls X h dX9_back_12

/-! ===== X9_isSheet ===== -/
def fX9_isSheet (a0 : Int32) : Option Int32 :=
  (fX9_within a0 3).bind fun r1 =>
  gd (r1 = 0 ∨ r1 = 1) <|
  some r1
set_option maxHeartbeats 4000000 in
set_option maxRecDepth 100000 in
theorem kX9_isSheet (l : Launch) (D : va_G) (ad : Nat → Nat) (cs : Nat → ClassId) (A : Nat → Prop)  (M : Mem) (a0 : Int32) (z : Int32) (hz : fX9_isSheet a0 = some z) : Met l yX9_isSheet (wsU yX9_isSheet cX9_isSheet 1 (some .boolean)) (rmo 2 85) (va_Pc [.int a0] (Wd0 D ad cs GC A M)) (va_Qi (fun r u => (r, u) = (z, M)) (Wd0 D ad cs GC A) A) 0 0 A := by
  refine ct_z0 (by decide) rfl okGC (Nat.le_of_ble_eq_true rfl) ?_
  intro p e s m args below meth c Q ls F X hl RT
  have hx := F.1
  have hb := F.2.1
  have hl : lv_has ls 1 [(0, .int a0)] := hl
  obtain ⟨H, hH⟩ : ∃ H, H = s.heap := ⟨_, rfl⟩
  rw [← hH] at X ⊢
  obtain ⟨locs, hlocs⟩ : ∃ locs : List Loc, locs = [] := ⟨_, rfl⟩
  rw [← hlocs] at X ⊢
  clear hH hlocs
  have h := hz
  unfold fX9_isSheet at h
  refine lv_iload_n hx hb dX9_isSheet_0 rfl (lv_at hl 0 rfl) ?_
  refine lv_iconst (v := 3) hx hb dX9_isSheet_1 (by decide) ?_
  obtain ⟨r1, hr1, h⟩ := bd_x h
  refine r_calli0 X (r_runS F X (kX9_within l D ad cs A  M a0 3 _ hr1) gm_X9_104 hd_X9_within ⟨Nat.le_of_ble_eq_true rfl, Nat.le_of_ble_eq_true rfl⟩ rfl hl.1 rfl (Nat.le_of_ble_eq_true rfl) dX9_isSheet_2) (fun H locs X => ?_)
  obtain ⟨h01, h⟩ := gd_x h
  have h := sm_x h
  exact RT H locs _ 5 ls X h h01 dX9_isSheet_5

/-! ===== X9_found ===== -/
def fX9_found (M : Mem) (a1 : Int32) : Option (Int32 × Mem) :=
  nm (wr M 0 13 0 a1) fun M1 =>
  some ((-10 : Int32) - a1, M1)
set_option maxHeartbeats 4000000 in
set_option maxRecDepth 100000 in
theorem kX9_found (l : Launch) (D : va_G) (ad : Nat → Nat) (cs : Nat → ClassId) (A : Nat → Prop)  (M : Mem) (a1 : Int32) (z : (Int32 × Mem)) (hz : fX9_found M a1 = some z) : Met l yX9_found (wsU yX9_found cX9_found 2 (some .int)) (rmo 1 64) (va_Pc [.ref (ad (cO GC 0)), .int a1] (Wd0 D ad cs GC A M)) (va_Qi (fun r u => (r, u) = z) (Wd0 D ad cs GC A) A) 0 0 A := by
  refine ct_i (by decide) rfl okGC (Nat.le_of_ble_eq_true rfl) ?_
  intro p e s m args below meth c Q ls F X hl RT
  have hx := F.1
  have hb := F.2.1
  have hl : lv_has ls 2 [(0, .ref (ad (cO GC 0))), (1, .int a1)] := hl
  obtain ⟨H, hH⟩ : ∃ H, H = s.heap := ⟨_, rfl⟩
  rw [← hH] at X ⊢
  obtain ⟨locs, hlocs⟩ : ∃ locs : List Loc, locs = [] := ⟨_, rfl⟩
  rw [← hlocs] at X ⊢
  clear hH hlocs
  have h := hz
  unfold fX9_found at h
  refine lv_aload_n hx hb dX9_found_0 rfl (lv_at hl 0 rfl) ?_
  refine lv_iload_n hx hb dX9_found_1 rfl (lv_at hl 1 rfl) ?_
  obtain ⟨M1, eM1, h⟩ := nm_x h
  refine pf_X9_83 F X qC0 dX9_found_2 (fun H locs X => ?_)
  have X := Wd_eq eM1 X
  refine lv_bipush (v := (-10)) hx hb dX9_found_5 (by decide) ?_
  refine lv_iload_n hx hb dX9_found_7 rfl (lv_at hl 1 rfl) ?_
  refine lv_isub hx hb dX9_found_8 ?_
  have h := sm_x h
  exact RT H locs _ _ 9 ls X h dX9_found_9

/-! ===== X9_mayFly ===== -/
def fX9_mayFly (M : Mem) (a1 : Int32) : Option Int32 :=
  (fX9_within a1 19).bind fun r1 =>
  (if r1 = 0 then
    some 0
  else
    if 6 ≤ (M 9 1 0) then
      some 0
    else
      some 1)
set_option maxHeartbeats 4000000 in
set_option maxRecDepth 100000 in
theorem kX9_mayFly (l : Launch) (D : va_G) (ad : Nat → Nat) (cs : Nat → ClassId) (A : Nat → Prop)  (M : Mem) (a1 : Int32) (z : Int32) (hz : fX9_mayFly M a1 = some z) : Met l yX9_mayFly (wsU yX9_mayFly cX9_mayFly 2 (some .boolean)) (rmo 2 85) (va_Pc [.ref (ad (cO GC 0)), .int a1] (Wd0 D ad cs GC A M)) (va_Qi (fun r u => (r, u) = (z, M)) (Wd0 D ad cs GC A) A) 0 0 A := by
  refine ct_z0 (by decide) rfl okGC (Nat.le_of_ble_eq_true rfl) ?_
  intro p e s m args below meth c Q ls F X hl RT
  have hx := F.1
  have hb := F.2.1
  have hl : lv_has ls 2 [(0, .ref (ad (cO GC 0))), (1, .int a1)] := hl
  obtain ⟨H, hH⟩ : ∃ H, H = s.heap := ⟨_, rfl⟩
  rw [← hH] at X ⊢
  obtain ⟨locs, hlocs⟩ : ∃ locs : List Loc, locs = [] := ⟨_, rfl⟩
  rw [← hlocs] at X ⊢
  clear hH hlocs
  have h := hz
  unfold fX9_mayFly at h
  refine lv_iload_n hx hb dX9_mayFly_0 rfl (lv_at hl 1 rfl) ?_
  refine lv_bipush (v := 19) hx hb dX9_mayFly_1 (by decide) ?_
  obtain ⟨r1, hr1, h⟩ := bd_x h
  refine r_calli0 X (r_runS F X (kX9_within l D ad cs A  M a1 19 _ hr1) gm_X9_104 hd_X9_within ⟨Nat.le_of_ble_eq_true rfl, Nat.le_of_ble_eq_true rfl⟩ rfl hl.1 rfl (Nat.le_of_ble_eq_true rfl) dX9_mayFly_3) (fun H locs X => ?_)
  refine lv_if_eq (tgt := 25) hx hb dX9_mayFly_6 (by decide) (fun c2 => ?_) (fun c2 => ?_)
  · have h := it_p h c2
    refine lv_iconst (v := 0) hx hb dX9_mayFly_25 (by decide) ?_
    have h := sm_x h
    exact RT H locs _ 26 ls X h (by decide) dX9_mayFly_26
  · have h := it_n h c2
    refine lv_aload_n hx hb dX9_mayFly_9 rfl (lv_at hl 0 rfl) ?_
    refine gf_X9_45 F X qC0 dX9_mayFly_10 ?_
    refine gf_X9_156 F X qC9 dX9_mayFly_13 ?_
    refine lv_bipush (v := 6) hx hb dX9_mayFly_16 (by decide) ?_
    refine lv_icmp_ge (tgt := 25) hx hb dX9_mayFly_18 (by decide) (fun c3 => ?_) (fun c3 => ?_)
    · have h := it_p h c3
      refine lv_iconst (v := 0) hx hb dX9_mayFly_25 (by decide) ?_
      have h := sm_x h
      exact RT H locs _ 26 ls X h (by decide) dX9_mayFly_26
    · have h := it_n h c3
      refine lv_iconst (v := 1) hx hb dX9_mayFly_21 (by decide) ?_
      refine lv_goto (tgt := 26) hx hb dX9_mayFly_22 (by decide) ?_
      have h := sm_x h
      exact RT H locs _ 26 ls X h (by decide) dX9_mayFly_26

/-! ===== X9_read ===== -/
def fX9_read_84 (a1 : Int32) (x3 : Int32) (M : Mem) : Option (Int32 × Mem) :=
  (fX9_takeFlies M).bind fun r1 =>
  some ((r1 9 1 0) - x3, r1)
def fX9_read_41 (a1 : Int32) (x3 : Int32) (x4 : Int32) (M : Mem) : Option ((Int32 × Int32 × Mem) ⊕ (Int32 × Mem)) :=
  if (M (21 + a1.toNatClampNeg) 3 0) ≤ x4 then
    inr' (fX9_read_84 a1 x3 M)
  else
    gd (inB x4 60) <|
    (fX9_mayFly M (M (21 + a1.toNatClampNeg) 0 (Int32.toNatClampNeg x4))).bind fun r3 =>
    (if r3 = 0 then
      inr' (fX9_read_84 a1 x3 M)
    else
      gd (inB x4 60) <|
      (fX1_append M (M (21 + a1.toNatClampNeg) 0 (Int32.toNatClampNeg x4))).bind fun r5 =>
      nm (x4 + 1 : Int32) fun u6 =>
      some (.inl (x3, u6, r5)))
def fX9_read (M : Mem) (a1 : Int32) : Option (Int32 × Mem) :=
  (fX9_isSheet a1).bind fun r7 =>
  (if r7 = 0 then
    some ((-2), M)
  else
    gd (inB a1 4) <|
    (if (M (21 + Int32.toNatClampNeg a1) 1 0) = 0 then
      nm (M 9 1 0 : Int32) fun u11 =>
      nm (0 : Int32) fun u12 =>
      lpO (fun st => fX9_read_41 a1 st.1 st.2.1 st.2.2) FU (u11, u12, M)
    else
      (fX9_found M 1).bind fun r13 =>
      some (r13.1, r13.2)))
set_option maxHeartbeats 4000000 in
set_option maxRecDepth 100000 in
theorem kX9_read (l : Launch) (D : va_G) (ad : Nat → Nat) (cs : Nat → ClassId) (A : Nat → Prop)  (M : Mem) (a1 : Int32) (z : (Int32 × Mem)) (hz : fX9_read M a1 = some z) : Met l yX9_read (wsU yX9_read cX9_read 5 (some .int)) (rmo 7 197) (va_Pc [.ref (ad (cO GC 0)), .int a1] (Wd0 D ad cs GC A M)) (va_Qi (fun r u => (r, u) = z) (Wd0 D ad cs GC A) A) 0 0 A := by
  refine ct_i (by decide) rfl okGC (Nat.le_of_ble_eq_true rfl) ?_
  intro p e s m args below meth c Q ls F X hl RT
  have hx := F.1
  have hb := F.2.1
  have hl : lv_has ls 5 [(0, .ref (ad (cO GC 0))), (1, .int a1)] := hl
  obtain ⟨H, hH⟩ : ∃ H, H = s.heap := ⟨_, rfl⟩
  rw [← hH] at X ⊢
  obtain ⟨locs, hlocs⟩ : ∃ locs : List Loc, locs = [] := ⟨_, rfl⟩
  rw [← hlocs] at X ⊢
  clear hH hlocs
  have J84 : ∀ (H : Heap) (locs : List Loc) (x3 : Int32) (M : Mem) (ls : Array Slot), Wd D ad cs GC A s H locs M → lv_has ls 5 [(0, .ref (ad (cO GC 0))), (3, .int x3)] → ∀ (_ : Unit), fX9_read_84 a1 x3 M = some z → W p l e (rmo 7 197) s m args below meth c H locs 0 0 Q (F0 m 84 ls []) := by
    intro H locs x3 M ls X hl  _u h
    unfold fX9_read_84 at h
    refine lv_aload_n hx hb dX9_read_84 rfl (lv_at hl 0 rfl) ?_
    obtain ⟨r1, hr1, h⟩ := bd_x h
    refine r_callv X (r_runV F X (kX9_takeFlies l D ad cs A  M  _ hr1) gm_X9_158 hd_X9_takeFlies ⟨Nat.le_of_ble_eq_true rfl, Nat.le_of_ble_eq_true rfl⟩ qC0 rfl rfl hl.1 rfl (Nat.le_of_ble_eq_true rfl) dX9_read_85) (fun H locs X => ?_)
    refine lv_aload_n hx hb dX9_read_88 rfl (lv_at hl 0 rfl) ?_
    refine gf_X9_45 F X qC0 dX9_read_89 ?_
    refine gf_X9_156 F X qC9 dX9_read_92 ?_
    refine lv_iload_n hx hb dX9_read_95 rfl (lv_at hl 1 rfl) ?_
    refine lv_isub hx hb dX9_read_96 ?_
    have h := sm_x h
    exact RT H locs _ _ 97 ls X h dX9_read_97
  have L41 : ∀ (n : Nat) (H : Heap) (locs : List Loc) (x3 : Int32) (x4 : Int32) (M : Mem) (ls : Array Slot), Wd D ad cs GC A s H locs M → lv_has ls 5 [(0, .ref (ad (cO GC 0))), (2, .ref (ad (cO GC (21 + a1.toNatClampNeg)))), (3, .int x3), (4, .int x4)] → GC[cO GC (21 + a1.toNatClampNeg)]? = some ((21 + a1.toNatClampNeg), 0, 4, 0) → ∀ (_ : Unit), lpO (fun st => fX9_read_41 a1 st.1 st.2.1 st.2.2) n (x3, x4, M) = some z → W p l e (rmo 7 197) s m args below meth c H locs 0 0 Q (F0 m 41 ls []) := by
    intro n
    induction n with
    | zero =>
      intro H locs x3 x4 M ls X hl hq2 yy h
      exact lp_0 h
    | succ n1 ih41 =>
      intro H locs x3 x4 M ls X hl hq2 _u h
      obtain ⟨y1, h, hk1⟩ := lp_x h
      unfold fX9_read_41 at h
      refine lv_iload hx hb dX9_read_41 (lv_at hl 3 rfl) ?_
      refine lv_aload_n hx hb dX9_read_43 rfl (lv_at hl 1 rfl) ?_
      refine gf_X9_171 F X hq2 dX9_read_44 ?_
      refine lv_icmp_ge (tgt := 84) hx hb dX9_read_47 (by decide) (fun c2 => ?_) (fun c2 => ?_)
      · have h := it_p h c2
        obtain ⟨_, h, ey⟩ := inr_x h
        rw [ey] at hk1
        have h := h.trans (congrArg some (sm_x hk1))
        exact J84 _ _ x3 M ls X (lv_sub hl [0, 2] rfl)  () h
      · have h := it_n h c2
        refine lv_aload_n hx hb dX9_read_50 rfl (lv_at hl 0 rfl) ?_
        refine lv_aload_n hx hb dX9_read_51 rfl (lv_at hl 1 rfl) ?_
        refine gf_X9_172 F X hq2 dX9_read_52 ?_
        refine lv_iload hx hb dX9_read_55 (lv_at hl 3 rfl) ?_
        obtain ⟨hin, h⟩ := gd_x h
        refine r_iald F X (ar_X4_0 hq2) hin dX9_read_57 ?_
        obtain ⟨r3, hr3, h⟩ := bd_x h
        refine r_calli0 X (r_runV F X (kX9_mayFly l D ad cs A  M (M (21 + a1.toNatClampNeg) 0 (Int32.toNatClampNeg x4)) _ hr3) gm_X9_175 hd_X9_mayFly ⟨Nat.le_of_ble_eq_true rfl, Nat.le_of_ble_eq_true rfl⟩ qC0 rfl rfl hl.1 rfl (Nat.le_of_ble_eq_true rfl) dX9_read_58) (fun H locs X => ?_)
        refine lv_if_eq (tgt := 84) hx hb dX9_read_61 (by decide) (fun c4 => ?_) (fun c4 => ?_)
        · have h := it_p h c4
          obtain ⟨_, h, ey⟩ := inr_x h
          rw [ey] at hk1
          have h := h.trans (congrArg some (sm_x hk1))
          exact J84 _ _ x3 M ls X (lv_sub hl [0, 2] rfl)  () h
        · have h := it_n h c4
          refine lv_aload_n hx hb dX9_read_64 rfl (lv_at hl 0 rfl) ?_
          refine gf_X9_45 F X qC0 dX9_read_65 ?_
          refine lv_aload_n hx hb dX9_read_68 rfl (lv_at hl 1 rfl) ?_
          refine gf_X9_172 F X hq2 dX9_read_69 ?_
          refine lv_iload hx hb dX9_read_72 (lv_at hl 3 rfl) ?_
          obtain ⟨hin, h⟩ := gd_x h
          refine r_iald F X (ar_X4_0 hq2) hin dX9_read_74 ?_
          obtain ⟨r5, hr5, h⟩ := bd_x h
          refine r_callv X (r_runV F X (kX1_append l D ad cs A  M (M (21 + a1.toNatClampNeg) 0 (Int32.toNatClampNeg x4)) _ hr5) gm_X9_157 hd_X1_append ⟨Nat.le_of_ble_eq_true rfl, Nat.le_of_ble_eq_true rfl⟩ qC9 rfl rfl hl.1 rfl (Nat.le_of_ble_eq_true rfl) dX9_read_75) (fun H locs X => ?_)
          obtain ⟨u6, eu6, h⟩ := nm_x h
          refine lv_iinc (v := u6) (lv' := [(4, .int u6), (0, .ref (ad (cO GC 0))), (2, .ref (ad (cO GC (21 + a1.toNatClampNeg)))), (3, .int x3)]) hx hb dX9_read_78 hl (k := 3) rfl (by rw [eu6]; rfl) (by decide) rfl (fun ls hl => ?_)
          refine lv_goto (tgt := 41) hx hb dX9_read_81 (by decide) ?_
          rw [← sm_x h] at hk1
          exact ih41 _ _ x3 u6 r5 ls X (lv_sub hl [1, 2, 3, 0] rfl) hq2 () hk1
  have h := hz
  unfold fX9_read at h
  refine lv_iload_n hx hb dX9_read_0 rfl (lv_at hl 1 rfl) ?_
  obtain ⟨r7, hr7, h⟩ := bd_x h
  refine r_calli0 X (r_runS F X (kX9_isSheet l D ad cs A  M a1 _ hr7) gm_X9_161 hd_X9_isSheet ⟨Nat.le_of_ble_eq_true rfl, Nat.le_of_ble_eq_true rfl⟩ rfl hl.1 rfl (Nat.le_of_ble_eq_true rfl) dX9_read_1) (fun H locs X => ?_)
  refine lv_if_ne (tgt := 10) hx hb dX9_read_4 (by decide) (fun c8 => ?_) (fun c8 => ?_)
  · have h := it_n h c8
    refine lv_aload_n hx hb dX9_read_10 rfl (lv_at hl 0 rfl) ?_
    refine gf_X9_72 F X qC0 dX9_read_11 ?_
    refine lv_iload_n hx hb dX9_read_14 rfl (lv_at hl 1 rfl) ?_
    obtain ⟨hin, h⟩ := gd_x h
    have hw9 := q_sheet (i := a1) hin
    refine r_aald4 F X (ar_X9_10 qC0) hin dX9_read_15 ?_
    refine lv_astore_n (lv' := [(2, .ref (ad (cO GC (21 + Int32.toNatClampNeg a1)))), (0, .ref (ad (cO GC 0))), (1, .int a1)]) hx hb dX9_read_16 rfl hl (by decide) rfl (fun ls hl => ?_)
    refine lv_aload_n hx hb dX9_read_17 rfl (lv_at hl 0 rfl) ?_
    refine gf_X9_164 F X hw9 dX9_read_18 ?_
    refine lv_if_eq (tgt := 30) hx hb dX9_read_21 (by decide) (fun c10 => ?_) (fun c10 => ?_)
    · have h := it_p h c10
      refine lv_aload_n hx hb dX9_read_30 rfl (lv_at hl 1 rfl) ?_
      refine gf_X9_45 F X qC0 dX9_read_31 ?_
      refine gf_X9_156 F X qC9 dX9_read_34 ?_
      obtain ⟨u11, eu11, h⟩ := nm_x h
      refine topE eu11 ?_
      refine lv_istore_n (lv' := [(3, .int u11), (2, .ref (ad (cO GC (21 + Int32.toNatClampNeg a1)))), (0, .ref (ad (cO GC 0))), (1, .int a1)]) hx hb dX9_read_37 rfl hl (by decide) rfl (fun ls hl => ?_)
      refine lv_iconst (v := 0) hx hb dX9_read_38 (by decide) ?_
      obtain ⟨u12, eu12, h⟩ := nm_x h
      refine topE eu12 ?_
      refine lv_istore (lv' := [(4, .int u12), (3, .int u11), (2, .ref (ad (cO GC (21 + Int32.toNatClampNeg a1)))), (0, .ref (ad (cO GC 0))), (1, .int a1)]) hx hb dX9_read_39 hl (by decide) rfl (fun ls hl => ?_)
      exact L41 FU _ _ u11 u12 M ls X (lv_sub hl [3, 2, 1, 0] rfl) hw9 () h
    · have h := it_n h c10
      refine lv_aload_n hx hb dX9_read_24 rfl (lv_at hl 1 rfl) ?_
      refine lv_iconst (v := 1) hx hb dX9_read_25 (by decide) ?_
      obtain ⟨r13, hr13, h⟩ := bd_x h
      refine r_calli X (r_runV F X (kX9_found l D ad cs A  M 1 _ hr13) gm_X9_167 hd_X9_found ⟨Nat.le_of_ble_eq_true rfl, Nat.le_of_ble_eq_true rfl⟩ qC0 rfl rfl hl.1 rfl (Nat.le_of_ble_eq_true rfl) dX9_read_26) (fun H locs X => ?_)
      have h := sm_x h
      exact RT H locs _ _ 29 ls X h dX9_read_29
  · have h := it_p h c8
    refine lv_bipush (v := (-2)) hx hb dX9_read_7 (by decide) ?_
    have h := sm_x h
    exact RT H locs _ _ 9 ls X h dX9_read_9

/-! ===== X9_does ===== -/
def fX9_does (M : Mem) (a1 : Int32) (a2 : Int32) : Option Int32 :=
  if a1 < 0 then
    some (-2)
  else
    if a1 < (M 3 6 0) then
      if a2 = 0 then
        gd (inB a1 20) <|
        some (M 4 1 (Int32.toNatClampNeg a1))
      else
        if a2 = 1 then
          gd (inB a1 20) <|
          some (M 4 2 (Int32.toNatClampNeg a1))
        else
          if a2 = 2 then
            gd (inB a1 20) <|
            some (M 4 3 (Int32.toNatClampNeg a1))
          else
            if a2 = 3 then
              gd (inB a1 20) <|
              some (M 4 4 (Int32.toNatClampNeg a1))
            else
              some (-2)
    else
      some (-2)
set_option maxHeartbeats 4000000 in
set_option maxRecDepth 100000 in
theorem kX9_does (l : Launch) (D : va_G) (ad : Nat → Nat) (cs : Nat → ClassId) (A : Nat → Prop)  (M : Mem) (a1 : Int32) (a2 : Int32) (z : Int32) (hz : fX9_does M a1 a2 = some z) : Met l yX9_does (wsU yX9_does cX9_does 3 (some .int)) (rmo 1 64) (va_Pc [.ref (ad (cO GC 0)), .int a1, .int a2] (Wd0 D ad cs GC A M)) (va_Qi (fun r u => (r, u) = (z, M)) (Wd0 D ad cs GC A) A) 0 0 A := by
  refine ct_i0 (by decide) rfl okGC (Nat.le_of_ble_eq_true rfl) ?_
  intro p e s m args below meth c Q ls F X hl RT
  have hx := F.1
  have hb := F.2.1
  have hl : lv_has ls 3 [(0, .ref (ad (cO GC 0))), (1, .int a1), (2, .int a2)] := hl
  obtain ⟨H, hH⟩ : ∃ H, H = s.heap := ⟨_, rfl⟩
  rw [← hH] at X ⊢
  obtain ⟨locs, hlocs⟩ : ∃ locs : List Loc, locs = [] := ⟨_, rfl⟩
  rw [← hlocs] at X ⊢
  clear hH hlocs
  have h := hz
  unfold fX9_does at h
  refine lv_iload_n hx hb dX9_does_0 rfl (lv_at hl 1 rfl) ?_
  refine lv_if_lt (tgt := 15) hx hb dX9_does_1 (by decide) (fun c1 => ?_) (fun c1 => ?_)
  · have h := it_p h c1
    refine lv_bipush (v := (-2)) hx hb dX9_does_15 (by decide) ?_
    have h := sm_x h
    exact RT H locs _ 17 ls X h dX9_does_17
  · have h := it_n h c1
    refine lv_iload_n hx hb dX9_does_4 rfl (lv_at hl 1 rfl) ?_
    refine lv_aload_n hx hb dX9_does_5 rfl (lv_at hl 0 rfl) ?_
    refine gf_X9_24 F X qC0 dX9_does_6 ?_
    refine gf_X9_144 F X qC3 dX9_does_9 ?_
    refine lv_icmp_lt (tgt := 18) hx hb dX9_does_12 (by decide) (fun c2 => ?_) (fun c2 => ?_)
    · have h := it_p h c2
      refine lv_iload_n hx hb dX9_does_18 rfl (lv_at hl 2 rfl) ?_
      by_cases c3 : a2 = 0
      · have h := it_p h c3
        refine r_tabI (off := 29) (tgt := 48) hx hb dX9_does_19 c3 (by decide) (by decide) (by decide) (by decide) ?_
        refine lv_aload_n hx hb dX9_does_48 rfl (lv_at hl 0 rfl) ?_
        refine gf_X9_31 F X qC0 dX9_does_49 ?_
        refine gf_X9_178 F X qC4 dX9_does_52 ?_
        refine lv_iload_n hx hb dX9_does_55 rfl (lv_at hl 1 rfl) ?_
        obtain ⟨hin, h⟩ := gd_x h
        refine r_iald F X (ar_X5_1 qC4) hin dX9_does_56 ?_
        have h := sm_x h
        exact RT H locs _ 57 ls X h dX9_does_57
      · have h := it_n h c3
        by_cases c4 : a2 = 1
        · have h := it_p h c4
          refine r_tabI (off := 39) (tgt := 58) hx hb dX9_does_19 c4 (by decide) (by decide) (by decide) (by decide) ?_
          refine lv_aload_n hx hb dX9_does_58 rfl (lv_at hl 0 rfl) ?_
          refine gf_X9_31 F X qC0 dX9_does_59 ?_
          refine gf_X9_181 F X qC4 dX9_does_62 ?_
          refine lv_iload_n hx hb dX9_does_65 rfl (lv_at hl 1 rfl) ?_
          obtain ⟨hin, h⟩ := gd_x h
          refine r_iald F X (ar_X5_2 qC4) hin dX9_does_66 ?_
          have h := sm_x h
          exact RT H locs _ 67 ls X h dX9_does_67
        · have h := it_n h c4
          by_cases c5 : a2 = 2
          · have h := it_p h c5
            refine r_tabI (off := 49) (tgt := 68) hx hb dX9_does_19 c5 (by decide) (by decide) (by decide) (by decide) ?_
            refine lv_aload_n hx hb dX9_does_68 rfl (lv_at hl 0 rfl) ?_
            refine gf_X9_31 F X qC0 dX9_does_69 ?_
            refine gf_X9_184 F X qC4 dX9_does_72 ?_
            refine lv_iload_n hx hb dX9_does_75 rfl (lv_at hl 1 rfl) ?_
            obtain ⟨hin, h⟩ := gd_x h
            refine r_iald F X (ar_X5_3 qC4) hin dX9_does_76 ?_
            have h := sm_x h
            exact RT H locs _ 77 ls X h dX9_does_77
          · have h := it_n h c5
            by_cases c6 : a2 = 3
            · have h := it_p h c6
              refine r_tabI (off := 59) (tgt := 78) hx hb dX9_does_19 c6 (by decide) (by decide) (by decide) (by decide) ?_
              refine lv_aload_n hx hb dX9_does_78 rfl (lv_at hl 0 rfl) ?_
              refine gf_X9_31 F X qC0 dX9_does_79 ?_
              refine gf_X9_187 F X qC4 dX9_does_82 ?_
              refine lv_iload_n hx hb dX9_does_85 rfl (lv_at hl 1 rfl) ?_
              obtain ⟨hin, h⟩ := gd_x h
              refine r_iald F X (ar_X5_4 qC4) hin dX9_does_86 ?_
              have h := sm_x h
              exact RT H locs _ 87 ls X h dX9_does_87
            · have h := it_n h c6
              refine r_tabO (tgt := 88) hx hb dX9_does_19 3 (by decide) (by decide) (fun k hk => by rcases (show k = 0 ∨ k = 1 ∨ k = 2 ∨ k = 3 by omega) with rfl | rfl | rfl | rfl <;> assumption) (by decide) ?_
              refine lv_bipush (v := (-2)) hx hb dX9_does_88 (by decide) ?_
              have h := sm_x h
              exact RT H locs _ 90 ls X h dX9_does_90
    · have h := it_n h c2
      refine lv_bipush (v := (-2)) hx hb dX9_does_15 (by decide) ?_
      have h := sm_x h
      exact RT H locs _ 17 ls X h dX9_does_17

/-! ===== X9_share ===== -/
def fX9_share (M : Mem) (a1 : Int32) (a2 : Int32) (a3 : Int32) : Option Int32 :=
  (fX9_within a1 (M 3 6 0)).bind fun r1 =>
  (if r1 = 0 then
    some (-2)
  else
    (fX9_isHeir M a2).bind fun r3 =>
    (if r3 = 0 then
      some (-2)
    else
      nm ((a1 * (8 : Int32)) + a2 : Int32) fun u5 =>
      (if a3 = 0 then
        gd (inB u5 168) <|
        some (M 4 5 (Int32.toNatClampNeg u5))
      else
        if a3 = 1 then
          gd (inB u5 168) <|
          some (M 4 6 (Int32.toNatClampNeg u5))
        else
          if a3 = 2 then
            gd (inB u5 168) <|
            some (M 4 7 (Int32.toNatClampNeg u5))
          else
            some (-2))))
set_option maxHeartbeats 4000000 in
set_option maxRecDepth 100000 in
theorem kX9_share (l : Launch) (D : va_G) (ad : Nat → Nat) (cs : Nat → ClassId) (A : Nat → Prop)  (M : Mem) (a1 : Int32) (a2 : Int32) (a3 : Int32) (z : Int32) (hz : fX9_share M a1 a2 a3 = some z) : Met l yX9_share (wsU yX9_share cX9_share 5 (some .int)) (rmo 2 85) (va_Pc [.ref (ad (cO GC 0)), .int a1, .int a2, .int a3] (Wd0 D ad cs GC A M)) (va_Qi (fun r u => (r, u) = (z, M)) (Wd0 D ad cs GC A) A) 0 0 A := by
  refine ct_i0 (by decide) rfl okGC (Nat.le_of_ble_eq_true rfl) ?_
  intro p e s m args below meth c Q ls F X hl RT
  have hx := F.1
  have hb := F.2.1
  have hl : lv_has ls 5 [(0, .ref (ad (cO GC 0))), (1, .int a1), (2, .int a2), (3, .int a3)] := hl
  obtain ⟨H, hH⟩ : ∃ H, H = s.heap := ⟨_, rfl⟩
  rw [← hH] at X ⊢
  obtain ⟨locs, hlocs⟩ : ∃ locs : List Loc, locs = [] := ⟨_, rfl⟩
  rw [← hlocs] at X ⊢
  clear hH hlocs
  have h := hz
  unfold fX9_share at h
  refine lv_iload_n hx hb dX9_share_0 rfl (lv_at hl 1 rfl) ?_
  refine lv_aload_n hx hb dX9_share_1 rfl (lv_at hl 0 rfl) ?_
  refine gf_X9_24 F X qC0 dX9_share_2 ?_
  refine gf_X9_144 F X qC3 dX9_share_5 ?_
  obtain ⟨r1, hr1, h⟩ := bd_x h
  refine r_calli0 X (r_runS F X (kX9_within l D ad cs A  M a1 (M 3 6 0) _ hr1) gm_X9_104 hd_X9_within ⟨Nat.le_of_ble_eq_true rfl, Nat.le_of_ble_eq_true rfl⟩ rfl hl.1 rfl (Nat.le_of_ble_eq_true rfl) dX9_share_8) (fun H locs X => ?_)
  refine lv_if_eq (tgt := 22) hx hb dX9_share_11 (by decide) (fun c2 => ?_) (fun c2 => ?_)
  · have h := it_p h c2
    refine lv_bipush (v := (-2)) hx hb dX9_share_22 (by decide) ?_
    have h := sm_x h
    exact RT H locs _ 24 ls X h dX9_share_24
  · have h := it_n h c2
    refine lv_aload_n hx hb dX9_share_14 rfl (lv_at hl 0 rfl) ?_
    refine lv_iload_n hx hb dX9_share_15 rfl (lv_at hl 2 rfl) ?_
    obtain ⟨r3, hr3, h⟩ := bd_x h
    refine r_calli0 X (r_runV F X (kX9_isHeir l D ad cs A  M a2 _ hr3) gm_X9_132 hd_X9_isHeir ⟨Nat.le_of_ble_eq_true rfl, Nat.le_of_ble_eq_true rfl⟩ qC0 rfl rfl hl.1 rfl (Nat.le_of_ble_eq_true rfl) dX9_share_16) (fun H locs X => ?_)
    refine lv_if_ne (tgt := 25) hx hb dX9_share_19 (by decide) (fun c4 => ?_) (fun c4 => ?_)
    · have h := it_n h c4
      refine lv_iload_n hx hb dX9_share_25 rfl (lv_at hl 1 rfl) ?_
      refine lv_bipush (v := 8) hx hb dX9_share_26 (by decide) ?_
      refine lv_imul hx hb dX9_share_28 ?_
      refine lv_iload_n hx hb dX9_share_29 rfl (lv_at hl 2 rfl) ?_
      refine lv_iadd hx hb dX9_share_30 ?_
      obtain ⟨u5, eu5, h⟩ := nm_x h
      refine topE eu5 ?_
      refine lv_istore (lv' := [(4, .int u5), (0, .ref (ad (cO GC 0))), (1, .int a1), (2, .int a2), (3, .int a3)]) hx hb dX9_share_31 hl (by decide) rfl (fun ls hl => ?_)
      refine lv_iload_n hx hb dX9_share_33 rfl (lv_at hl 4 rfl) ?_
      by_cases c6 : a3 = 0
      · have h := it_p h c6
        refine r_tabI (off := 26) (tgt := 60) hx hb dX9_share_34 c6 (by decide) (by decide) (by decide) (by decide) ?_
        refine lv_aload_n hx hb dX9_share_60 rfl (lv_at hl 1 rfl) ?_
        refine gf_X9_31 F X qC0 dX9_share_61 ?_
        refine gf_X9_190 F X qC4 dX9_share_64 ?_
        refine lv_iload hx hb dX9_share_67 (lv_at hl 0 rfl) ?_
        obtain ⟨hin, h⟩ := gd_x h
        refine r_iald F X (ar_X5_5 qC4) hin dX9_share_69 ?_
        have h := sm_x h
        exact RT H locs _ 70 ls X h dX9_share_70
      · have h := it_n h c6
        by_cases c7 : a3 = 1
        · have h := it_p h c7
          refine r_tabI (off := 37) (tgt := 71) hx hb dX9_share_34 c7 (by decide) (by decide) (by decide) (by decide) ?_
          refine lv_aload_n hx hb dX9_share_71 rfl (lv_at hl 1 rfl) ?_
          refine gf_X9_31 F X qC0 dX9_share_72 ?_
          refine gf_X9_193 F X qC4 dX9_share_75 ?_
          refine lv_iload hx hb dX9_share_78 (lv_at hl 0 rfl) ?_
          obtain ⟨hin, h⟩ := gd_x h
          refine r_iald F X (ar_X5_6 qC4) hin dX9_share_80 ?_
          have h := sm_x h
          exact RT H locs _ 81 ls X h dX9_share_81
        · have h := it_n h c7
          by_cases c8 : a3 = 2
          · have h := it_p h c8
            refine r_tabI (off := 48) (tgt := 82) hx hb dX9_share_34 c8 (by decide) (by decide) (by decide) (by decide) ?_
            refine lv_aload_n hx hb dX9_share_82 rfl (lv_at hl 1 rfl) ?_
            refine gf_X9_31 F X qC0 dX9_share_83 ?_
            refine gf_X9_196 F X qC4 dX9_share_86 ?_
            refine lv_iload hx hb dX9_share_89 (lv_at hl 0 rfl) ?_
            obtain ⟨hin, h⟩ := gd_x h
            refine r_iald F X (ar_X5_7 qC4) hin dX9_share_91 ?_
            have h := sm_x h
            exact RT H locs _ 92 ls X h dX9_share_92
          · have h := it_n h c8
            refine r_tabO (tgt := 93) hx hb dX9_share_34 2 (by decide) (by decide) (fun k hk => by rcases (show k = 0 ∨ k = 1 ∨ k = 2 by omega) with rfl | rfl | rfl <;> assumption) (by decide) ?_
            refine lv_bipush (v := (-2)) hx hb dX9_share_93 (by decide) ?_
            have h := sm_x h
            exact RT H locs _ 95 ls X h dX9_share_95
    · have h := it_p h c4
      refine lv_bipush (v := (-2)) hx hb dX9_share_22 (by decide) ?_
      have h := sm_x h
      exact RT H locs _ 24 ls X h dX9_share_24

/-! ===== X9_out ===== -/
def fX9_out (M : Mem) : Option Int32 :=
  some (M 5 4 0)
set_option maxHeartbeats 4000000 in
set_option maxRecDepth 100000 in
theorem kX9_out (l : Launch) (D : va_G) (ad : Nat → Nat) (cs : Nat → ClassId) (A : Nat → Prop)  (M : Mem)  (z : Int32) (hz : fX9_out M = some z) : Met l yX9_out (wsU yX9_out cX9_out 1 (some .int)) (rmo 1 64) (va_Pc [.ref (ad (cO GC 0))] (Wd0 D ad cs GC A M)) (va_Qi (fun r u => (r, u) = (z, M)) (Wd0 D ad cs GC A) A) 0 0 A := by
  refine ct_i0 (by decide) rfl okGC (Nat.le_of_ble_eq_true rfl) ?_
  intro p e s m args below meth c Q ls F X hl RT
  have hx := F.1
  have hb := F.2.1
  have hl : lv_has ls 1 [(0, .ref (ad (cO GC 0)))] := hl
  obtain ⟨H, hH⟩ : ∃ H, H = s.heap := ⟨_, rfl⟩
  rw [← hH] at X ⊢
  obtain ⟨locs, hlocs⟩ : ∃ locs : List Loc, locs = [] := ⟨_, rfl⟩
  rw [← hlocs] at X ⊢
  clear hH hlocs
  have h := hz
  unfold fX9_out at h
  refine lv_aload_n hx hb dX9_out_0 rfl (lv_at hl 0 rfl) ?_
  refine gf_X9_31 F X qC0 dX9_out_1 ?_
  refine gf_X9_199 F X qC4 dX9_out_4 ?_
  refine gf_X9_203 F X qC5 dX9_out_7 ?_
  have h := sm_x h
  exact RT H locs _ 10 ls X h dX9_out_10

/-! ===== X9_estate ===== -/
def fX9_estate (M : Mem) : Option Int32 :=
  (fX7_allShares 5 M).bind fun r1 =>
  some r1
set_option maxHeartbeats 4000000 in
set_option maxRecDepth 100000 in
theorem kX9_estate (l : Launch) (D : va_G) (ad : Nat → Nat) (cs : Nat → ClassId) (A : Nat → Prop)  (M : Mem)  (z : Int32) (hz : fX9_estate M = some z) : Met l yX9_estate (wsU yX9_estate cX9_estate 1 (some .int)) (rmo 2 86) (va_Pc [.ref (ad (cO GC 0))] (Wd0 D ad cs GC A M)) (va_Qi (fun r u => (r, u) = (z, M)) (Wd0 D ad cs GC A) A) 0 0 A := by
  refine ct_i0 (by decide) rfl okGC (Nat.le_of_ble_eq_true rfl) ?_
  intro p e s m args below meth c Q ls F X hl RT
  have hx := F.1
  have hb := F.2.1
  have hl : lv_has ls 1 [(0, .ref (ad (cO GC 0)))] := hl
  obtain ⟨H, hH⟩ : ∃ H, H = s.heap := ⟨_, rfl⟩
  rw [← hH] at X ⊢
  obtain ⟨locs, hlocs⟩ : ∃ locs : List Loc, locs = [] := ⟨_, rfl⟩
  rw [← hlocs] at X ⊢
  clear hH hlocs
  have h := hz
  unfold fX9_estate at h
  refine lv_aload_n hx hb dX9_estate_0 rfl (lv_at hl 0 rfl) ?_
  refine gf_X9_31 F X qC0 dX9_estate_1 ?_
  refine gf_X9_199 F X qC4 dX9_estate_4 ?_
  obtain ⟨r1, hr1, h⟩ := bd_x h
  refine r_calli0 X (r_runV F X (kX7_allShares l D ad cs A qC5 M  _ hr1) gm_X9_208 hd_X7_allShares ⟨Nat.le_of_ble_eq_true rfl, Nat.le_of_ble_eq_true rfl⟩ qC5 rfl rfl hl.1 rfl (Nat.le_of_ble_eq_true rfl) dX9_estate_7) (fun H locs X => ?_)
  have h := sm_x h
  exact RT H locs _ 10 ls X h dX9_estate_10

/-! ===== X9_richest ===== -/
def fX9_richest (M : Mem) : Option Int32 :=
  (fX7_richestHeir 5 M).bind fun r1 =>
  some r1
set_option maxHeartbeats 4000000 in
set_option maxRecDepth 100000 in
theorem kX9_richest (l : Launch) (D : va_G) (ad : Nat → Nat) (cs : Nat → ClassId) (A : Nat → Prop)  (M : Mem)  (z : Int32) (hz : fX9_richest M = some z) : Met l yX9_richest (wsU yX9_richest cX9_richest 1 (some .int)) (rmo 2 87) (va_Pc [.ref (ad (cO GC 0))] (Wd0 D ad cs GC A M)) (va_Qi (fun r u => (r, u) = (z, M)) (Wd0 D ad cs GC A) A) 0 0 A := by
  refine ct_i0 (by decide) rfl okGC (Nat.le_of_ble_eq_true rfl) ?_
  intro p e s m args below meth c Q ls F X hl RT
  have hx := F.1
  have hb := F.2.1
  have hl : lv_has ls 1 [(0, .ref (ad (cO GC 0)))] := hl
  obtain ⟨H, hH⟩ : ∃ H, H = s.heap := ⟨_, rfl⟩
  rw [← hH] at X ⊢
  obtain ⟨locs, hlocs⟩ : ∃ locs : List Loc, locs = [] := ⟨_, rfl⟩
  rw [← hlocs] at X ⊢
  clear hH hlocs
  have h := hz
  unfold fX9_richest at h
  refine lv_aload_n hx hb dX9_richest_0 rfl (lv_at hl 0 rfl) ?_
  refine gf_X9_31 F X qC0 dX9_richest_1 ?_
  refine gf_X9_199 F X qC4 dX9_richest_4 ?_
  obtain ⟨r1, hr1, h⟩ := bd_x h
  refine r_calli0 X (r_runV F X (kX7_richestHeir l D ad cs A qC5 M  _ hr1) gm_X9_211 hd_X7_richestHeir ⟨Nat.le_of_ble_eq_true rfl, Nat.le_of_ble_eq_true rfl⟩ qC5 rfl rfl hl.1 rfl (Nat.le_of_ble_eq_true rfl) dX9_richest_7) (fun H locs X => ?_)
  have h := sm_x h
  exact RT H locs _ 10 ls X h dX9_richest_10

/-! ===== X9_longest ===== -/
def fX9_longest (M : Mem) : Option Int32 :=
  some (M 4 8 0)
set_option maxHeartbeats 4000000 in
set_option maxRecDepth 100000 in
theorem kX9_longest (l : Launch) (D : va_G) (ad : Nat → Nat) (cs : Nat → ClassId) (A : Nat → Prop)  (M : Mem)  (z : Int32) (hz : fX9_longest M = some z) : Met l yX9_longest (wsU yX9_longest cX9_longest 1 (some .int)) (rmo 1 64) (va_Pc [.ref (ad (cO GC 0))] (Wd0 D ad cs GC A M)) (va_Qi (fun r u => (r, u) = (z, M)) (Wd0 D ad cs GC A) A) 0 0 A := by
  refine ct_i0 (by decide) rfl okGC (Nat.le_of_ble_eq_true rfl) ?_
  intro p e s m args below meth c Q ls F X hl RT
  have hx := F.1
  have hb := F.2.1
  have hl : lv_has ls 1 [(0, .ref (ad (cO GC 0)))] := hl
  obtain ⟨H, hH⟩ : ∃ H, H = s.heap := ⟨_, rfl⟩
  rw [← hH] at X ⊢
  obtain ⟨locs, hlocs⟩ : ∃ locs : List Loc, locs = [] := ⟨_, rfl⟩
  rw [← hlocs] at X ⊢
  clear hH hlocs
  have h := hz
  unfold fX9_longest at h
  refine lv_aload_n hx hb dX9_longest_0 rfl (lv_at hl 0 rfl) ?_
  refine gf_X9_31 F X qC0 dX9_longest_1 ?_
  refine gf_X9_214 F X qC4 dX9_longest_4 ?_
  have h := sm_x h
  exact RT H locs _ 7 ls X h dX9_longest_7

/-! ===== X9_ditch ===== -/
def fX9_ditch (M : Mem) : Option Int32 :=
  some (M 5 7 0)
set_option maxHeartbeats 4000000 in
set_option maxRecDepth 100000 in
theorem kX9_ditch (l : Launch) (D : va_G) (ad : Nat → Nat) (cs : Nat → ClassId) (A : Nat → Prop)  (M : Mem)  (z : Int32) (hz : fX9_ditch M = some z) : Met l yX9_ditch (wsU yX9_ditch cX9_ditch 1 (some .int)) (rmo 1 64) (va_Pc [.ref (ad (cO GC 0))] (Wd0 D ad cs GC A M)) (va_Qi (fun r u => (r, u) = (z, M)) (Wd0 D ad cs GC A) A) 0 0 A := by
  refine ct_i0 (by decide) rfl okGC (Nat.le_of_ble_eq_true rfl) ?_
  intro p e s m args below meth c Q ls F X hl RT
  have hx := F.1
  have hb := F.2.1
  have hl : lv_has ls 1 [(0, .ref (ad (cO GC 0)))] := hl
  obtain ⟨H, hH⟩ : ∃ H, H = s.heap := ⟨_, rfl⟩
  rw [← hH] at X ⊢
  obtain ⟨locs, hlocs⟩ : ∃ locs : List Loc, locs = [] := ⟨_, rfl⟩
  rw [← hlocs] at X ⊢
  clear hH hlocs
  have h := hz
  unfold fX9_ditch at h
  refine lv_aload_n hx hb dX9_ditch_0 rfl (lv_at hl 0 rfl) ?_
  refine gf_X9_31 F X qC0 dX9_ditch_1 ?_
  refine gf_X9_199 F X qC4 dX9_ditch_4 ?_
  refine gf_X9_217 F X qC5 dX9_ditch_7 ?_
  have h := sm_x h
  exact RT H locs _ 10 ls X h dX9_ditch_10

/-! ===== X9_bait ===== -/
def fX9_bait_24 (a1 : Int32) (x2 : Int32) (M : Mem) : Option ((Int32 × Mem) ⊕ (Int32 × Mem)) :=
  if 10 ≤ x2 then
    some (.inr ((-1), M))
  else
    gd (inB a1 8) <|
    nm (wr M 7 2 (Int32.toNatClampNeg a1) x2) fun M2 =>
    (fX6_run M2).bind fun r3 =>
    (fX7_hasMost 8 r3 a1).bind fun r4 =>
    (if r4 = 0 then
      nm (x2 + 1 : Int32) fun u6 =>
      some (.inl (u6, r3))
    else
      some (.inr (x2, r3)))
def fX9_bait (M : Mem) (a1 : Int32) : Option (Int32 × Mem) :=
  (fX9_isHeir M a1).bind fun r7 =>
  (if r7 = 0 then
    some ((-2), M)
  else
    (fX6_prepare 3 M).bind fun r9 =>
    nm (0 : Int32) fun u10 =>
    lpO (fun st => fX9_bait_24 a1 st.1 st.2) FU (u10, r9))
set_option maxHeartbeats 4000000 in
set_option maxRecDepth 100000 in
theorem kX9_bait (l : Launch) (D : va_G) (ad : Nat → Nat) (cs : Nat → ClassId) (A : Nat → Prop)  (M : Mem) (a1 : Int32) (z : (Int32 × Mem)) (hz : fX9_bait M a1 = some z) : Met l yX9_bait (wsU yX9_bait cX9_bait 3 (some .int)) (rmo 5 155) (va_Pc [.ref (ad (cO GC 0)), .int a1] (Wd0 D ad cs GC A M)) (va_Qi (fun r u => (r, u) = z) (Wd0 D ad cs GC A) A) 0 0 A := by
  refine ct_i (by decide) rfl okGC (Nat.le_of_ble_eq_true rfl) ?_
  intro p e s m args below meth c Q ls F X hl RT
  have hx := F.1
  have hb := F.2.1
  have hl : lv_has ls 3 [(0, .ref (ad (cO GC 0))), (1, .int a1)] := hl
  obtain ⟨H, hH⟩ : ∃ H, H = s.heap := ⟨_, rfl⟩
  rw [← hH] at X ⊢
  obtain ⟨locs, hlocs⟩ : ∃ locs : List Loc, locs = [] := ⟨_, rfl⟩
  rw [← hlocs] at X ⊢
  clear hH hlocs
  have L24 : ∀ (n : Nat) (H : Heap) (locs : List Loc) (x2 : Int32) (M : Mem) (ls : Array Slot), Wd D ad cs GC A s H locs M → lv_has ls 3 [(0, .ref (ad (cO GC 0))), (1, .int a1), (2, .int x2)] → ∀ (_ : Unit), lpO (fun st => fX9_bait_24 a1 st.1 st.2) n (x2, M) = some z → W p l e (rmo 5 155) s m args below meth c H locs 0 0 Q (F0 m 24 ls []) := by
    intro n
    induction n with
    | zero =>
      intro H locs x2 M ls X hl  yy h
      exact lp_0 h
    | succ n1 ih24 =>
      intro H locs x2 M ls X hl  _u h
      obtain ⟨y1, h, hk1⟩ := lp_x h
      unfold fX9_bait_24 at h
      refine lv_iload_n hx hb dX9_bait_24 rfl (lv_at hl 2 rfl) ?_
      refine lv_bipush (v := 10) hx hb dX9_bait_25 (by decide) ?_
      refine lv_icmp_ge (tgt := 72) hx hb dX9_bait_27 (by decide) (fun c1 => ?_) (fun c1 => ?_)
      · have h := it_p h c1
        refine lv_iconst (v := (-1)) hx hb dX9_bait_72 (by decide) ?_
        have h := sm_x h
        rw [← h] at hk1
        have h := sm_x hk1
        exact RT H locs _ _ 73 ls X h dX9_bait_73
      · have h := it_n h c1
        refine lv_aload_n hx hb dX9_bait_30 rfl (lv_at hl 0 rfl) ?_
        refine gf_X9_38 F X qC0 dX9_bait_31 ?_
        refine gf_X9_224 F X qC6 dX9_bait_34 ?_
        refine gf_X9_141 F X qC7 dX9_bait_37 ?_
        refine lv_iload_n hx hb dX9_bait_40 rfl (lv_at hl 1 rfl) ?_
        refine lv_iload_n hx hb dX9_bait_41 rfl (lv_at hl 2 rfl) ?_
        obtain ⟨hin, h⟩ := gd_x h
        obtain ⟨M2, eM2, h⟩ := nm_x h
        refine r_iast F X (ar_X2_2 qC7) hin dX9_bait_42 (fun H locs X => ?_)
        have X := Wd_eq eM2 X
        refine lv_aload_n hx hb dX9_bait_43 rfl (lv_at hl 0 rfl) ?_
        refine gf_X9_38 F X qC0 dX9_bait_44 ?_
        obtain ⟨r3, hr3, h⟩ := bd_x h
        refine r_callv X (r_runV F X (kX6_run l D ad cs A  M2  _ hr3) gm_X9_225 hd_X6_run ⟨Nat.le_of_ble_eq_true rfl, Nat.le_of_ble_eq_true rfl⟩ qC6 rfl rfl hl.1 rfl (Nat.le_of_ble_eq_true rfl) dX9_bait_47) (fun H locs X => ?_)
        refine lv_aload_n hx hb dX9_bait_50 rfl (lv_at hl 0 rfl) ?_
        refine gf_X9_38 F X qC0 dX9_bait_51 ?_
        refine gf_X9_228 F X qC6 dX9_bait_54 ?_
        refine lv_iload_n hx hb dX9_bait_57 rfl (lv_at hl 1 rfl) ?_
        obtain ⟨r4, hr4, h⟩ := bd_x h
        refine r_calli0 X (r_runV F X (kX7_hasMost l D ad cs A qC8 r3 a1 _ hr4) gm_X9_229 hd_X7_hasMost ⟨Nat.le_of_ble_eq_true rfl, Nat.le_of_ble_eq_true rfl⟩ qC8 rfl rfl hl.1 rfl (Nat.le_of_ble_eq_true rfl) dX9_bait_58) (fun H locs X => ?_)
        refine lv_if_eq (tgt := 66) hx hb dX9_bait_61 (by decide) (fun c5 => ?_) (fun c5 => ?_)
        · have h := it_p h c5
          obtain ⟨u6, eu6, h⟩ := nm_x h
          refine lv_iinc (v := u6) (lv' := [(2, .int u6), (0, .ref (ad (cO GC 0))), (1, .int a1)]) hx hb dX9_bait_66 hl (k := 2) rfl (by rw [eu6]; rfl) (by decide) rfl (fun ls hl => ?_)
          refine lv_goto (tgt := 24) hx hb dX9_bait_69 (by decide) ?_
          rw [← sm_x h] at hk1
          exact ih24 _ _ u6 r3 ls X (lv_sub hl [1, 2, 0] rfl)  () hk1
        · have h := it_n h c5
          refine lv_iload_n hx hb dX9_bait_64 rfl (lv_at hl 2 rfl) ?_
          have h := sm_x h
          rw [← h] at hk1
          have h := sm_x hk1
          exact RT H locs _ _ 65 ls X h dX9_bait_65
  have h := hz
  unfold fX9_bait at h
  refine lv_aload_n hx hb dX9_bait_0 rfl (lv_at hl 0 rfl) ?_
  refine lv_iload_n hx hb dX9_bait_1 rfl (lv_at hl 1 rfl) ?_
  obtain ⟨r7, hr7, h⟩ := bd_x h
  refine r_calli0 X (r_runV F X (kX9_isHeir l D ad cs A  M a1 _ hr7) gm_X9_132 hd_X9_isHeir ⟨Nat.le_of_ble_eq_true rfl, Nat.le_of_ble_eq_true rfl⟩ qC0 rfl rfl hl.1 rfl (Nat.le_of_ble_eq_true rfl) dX9_bait_2) (fun H locs X => ?_)
  refine lv_if_ne (tgt := 11) hx hb dX9_bait_5 (by decide) (fun c8 => ?_) (fun c8 => ?_)
  · have h := it_n h c8
    refine lv_aload_n hx hb dX9_bait_11 rfl (lv_at hl 0 rfl) ?_
    refine gf_X9_38 F X qC0 dX9_bait_12 ?_
    refine lv_aload_n hx hb dX9_bait_15 rfl (lv_at hl 0 rfl) ?_
    refine gf_X9_24 F X qC0 dX9_bait_16 ?_
    obtain ⟨r9, hr9, h⟩ := bd_x h
    refine r_callv X (r_runV F X (kX6_prepare l D ad cs A qC3 M  _ hr9) gm_X9_220 hd_X6_prepare ⟨Nat.le_of_ble_eq_true rfl, Nat.le_of_ble_eq_true rfl⟩ qC6 rfl rfl hl.1 rfl (Nat.le_of_ble_eq_true rfl) dX9_bait_19) (fun H locs X => ?_)
    refine lv_iconst (v := 0) hx hb dX9_bait_22 (by decide) ?_
    obtain ⟨u10, eu10, h⟩ := nm_x h
    refine topE eu10 ?_
    refine lv_istore_n (lv' := [(2, .int u10), (0, .ref (ad (cO GC 0))), (1, .int a1)]) hx hb dX9_bait_23 rfl hl (by decide) rfl (fun ls hl => ?_)
    exact L24 FU _ _ u10 r9 ls X (lv_sub hl [1, 2, 0] rfl)  () h
  · have h := it_p h c8
    refine lv_bipush (v := (-2)) hx hb dX9_bait_8 (by decide) ?_
    have h := sm_x h
    exact RT H locs _ _ 10 ls X h dX9_bait_10

/-! ===== X9_fair ===== -/
def fX9_fair_58 (a1 : Int32) (M : Mem) : Option (Int32 × Mem) :=
  if a1 = 0 then
    some (M 11 3 0, M)
  else
    gd (inB (a1 - (1 : Int32)) 8) <|
    some (M 11 2 (Int32.toNatClampNeg (a1 - (1 : Int32))), M)
def fX9_fair (M : Mem) (a1 : Int32) : Option (Int32 × Mem) :=
  (fX9_within a1 8).bind fun r2 =>
  (if r2 = 0 then
    some ((-2), M)
  else
    if (M 3 5 0) = 0 then
      some ((-1), M)
    else
      if a1 ≤ (M 3 5 0) then
        if (M 0 11 0) = 0 then
          (fX0_find 3 M).bind fun r7 =>
          nm (wr r7 0 11 0 1) fun M8 =>
          fX9_fair_58 a1 M8
        else
          fX9_fair_58 a1 M
      else
        some ((-1), M))
set_option maxHeartbeats 4000000 in
set_option maxRecDepth 100000 in
theorem kX9_fair (l : Launch) (D : va_G) (ad : Nat → Nat) (cs : Nat → ClassId) (A : Nat → Prop)  (M : Mem) (a1 : Int32) (z : (Int32 × Mem)) (hz : fX9_fair M a1 = some z) : Met l yX9_fair (wsU yX9_fair cX9_fair 2 (some .int)) (rmo 22 607) (va_Pc [.ref (ad (cO GC 0)), .int a1] (Wd0 D ad cs GC A M)) (va_Qi (fun r u => (r, u) = z) (Wd0 D ad cs GC A) A) 0 0 A := by
  refine ct_i (by decide) rfl okGC (Nat.le_of_ble_eq_true rfl) ?_
  intro p e s m args below meth c Q ls F X hl RT
  have hx := F.1
  have hb := F.2.1
  have hl : lv_has ls 2 [(0, .ref (ad (cO GC 0))), (1, .int a1)] := hl
  obtain ⟨H, hH⟩ : ∃ H, H = s.heap := ⟨_, rfl⟩
  rw [← hH] at X ⊢
  obtain ⟨locs, hlocs⟩ : ∃ locs : List Loc, locs = [] := ⟨_, rfl⟩
  rw [← hlocs] at X ⊢
  clear hH hlocs
  have J58 : ∀ (H : Heap) (locs : List Loc) (M : Mem) (ls : Array Slot), Wd D ad cs GC A s H locs M → lv_has ls 2 [(0, .ref (ad (cO GC 0))), (1, .int a1)] → ∀ (_ : Unit), fX9_fair_58 a1 M = some z → W p l e (rmo 22 607) s m args below meth c H locs 0 0 Q (F0 m 58 ls []) := by
    intro H locs M ls X hl  _u h
    unfold fX9_fair_58 at h
    refine lv_iload_n hx hb dX9_fair_58 rfl (lv_at hl 1 rfl) ?_
    refine lv_if_ne (tgt := 72) hx hb dX9_fair_59 (by decide) (fun c1 => ?_) (fun c1 => ?_)
    · have h := it_n h c1
      refine lv_aload_n hx hb dX9_fair_72 rfl (lv_at hl 0 rfl) ?_
      refine gf_X9_59 F X qC0 dX9_fair_73 ?_
      refine gf_X9_241 F X qC11 dX9_fair_76 ?_
      refine lv_iload_n hx hb dX9_fair_79 rfl (lv_at hl 1 rfl) ?_
      refine lv_iconst (v := 1) hx hb dX9_fair_80 (by decide) ?_
      refine lv_isub hx hb dX9_fair_81 ?_
      obtain ⟨hin, h⟩ := gd_x h
      refine r_iald F X (ar_X0_2 qC11) hin dX9_fair_82 ?_
      have h := sm_x h
      exact RT H locs _ _ 83 ls X h dX9_fair_83
    · have h := it_p h c1
      refine lv_aload_n hx hb dX9_fair_62 rfl (lv_at hl 0 rfl) ?_
      refine gf_X9_59 F X qC0 dX9_fair_63 ?_
      refine gf_X9_238 F X qC11 dX9_fair_66 ?_
      refine lv_goto (tgt := 83) hx hb dX9_fair_69 (by decide) ?_
      have h := sm_x h
      exact RT H locs _ _ 83 ls X h dX9_fair_83
  have h := hz
  unfold fX9_fair at h
  refine lv_iload_n hx hb dX9_fair_0 rfl (lv_at hl 1 rfl) ?_
  refine lv_bipush (v := 8) hx hb dX9_fair_1 (by decide) ?_
  obtain ⟨r2, hr2, h⟩ := bd_x h
  refine r_calli0 X (r_runS F X (kX9_within l D ad cs A  M a1 8 _ hr2) gm_X9_104 hd_X9_within ⟨Nat.le_of_ble_eq_true rfl, Nat.le_of_ble_eq_true rfl⟩ rfl hl.1 rfl (Nat.le_of_ble_eq_true rfl) dX9_fair_3) (fun H locs X => ?_)
  refine lv_if_ne (tgt := 12) hx hb dX9_fair_6 (by decide) (fun c3 => ?_) (fun c3 => ?_)
  · have h := it_n h c3
    refine lv_aload_n hx hb dX9_fair_12 rfl (lv_at hl 0 rfl) ?_
    refine gf_X9_24 F X qC0 dX9_fair_13 ?_
    refine gf_X9_232 F X qC3 dX9_fair_16 ?_
    refine lv_if_eq (tgt := 33) hx hb dX9_fair_19 (by decide) (fun c4 => ?_) (fun c4 => ?_)
    · have h := it_p h c4
      refine lv_iconst (v := (-1)) hx hb dX9_fair_33 (by decide) ?_
      have h := sm_x h
      exact RT H locs _ _ 34 ls X h dX9_fair_34
    · have h := it_n h c4
      refine lv_iload_n hx hb dX9_fair_22 rfl (lv_at hl 1 rfl) ?_
      refine lv_aload_n hx hb dX9_fair_23 rfl (lv_at hl 0 rfl) ?_
      refine gf_X9_24 F X qC0 dX9_fair_24 ?_
      refine gf_X9_232 F X qC3 dX9_fair_27 ?_
      refine lv_icmp_le (tgt := 35) hx hb dX9_fair_30 (by decide) (fun c5 => ?_) (fun c5 => ?_)
      · have h := it_p h c5
        refine lv_aload_n hx hb dX9_fair_35 rfl (lv_at hl 0 rfl) ?_
        refine gf_X9_76 F X qC0 dX9_fair_36 ?_
        refine lv_if_ne (tgt := 58) hx hb dX9_fair_39 (by decide) (fun c6 => ?_) (fun c6 => ?_)
        · have h := it_n h c6
          exact J58 _ _ M ls X (lv_sub hl [0, 1] rfl)  () h
        · have h := it_p h c6
          refine lv_aload_n hx hb dX9_fair_42 rfl (lv_at hl 0 rfl) ?_
          refine gf_X9_59 F X qC0 dX9_fair_43 ?_
          refine lv_aload_n hx hb dX9_fair_46 rfl (lv_at hl 0 rfl) ?_
          refine gf_X9_24 F X qC0 dX9_fair_47 ?_
          obtain ⟨r7, hr7, h⟩ := bd_x h
          refine r_callv X (r_runV F X (kX0_find l D ad cs A qC3 M  _ hr7) gm_X9_235 hd_X0_find ⟨Nat.le_of_ble_eq_true rfl, Nat.le_of_ble_eq_true rfl⟩ qC11 rfl rfl hl.1 rfl (Nat.le_of_ble_eq_true rfl) dX9_fair_50) (fun H locs X => ?_)
          refine lv_aload_n hx hb dX9_fair_53 rfl (lv_at hl 0 rfl) ?_
          refine lv_iconst (v := 1) hx hb dX9_fair_54 (by decide) ?_
          obtain ⟨M8, eM8, h⟩ := nm_x h
          refine pf_X9_76 F X qC0 (by decide) dX9_fair_55 (fun H locs X => ?_)
          have X := Wd_eq eM8 X
          exact J58 _ _ M8 ls X (lv_sub hl [0, 1] rfl)  () h
      · have h := it_n h c5
        refine lv_iconst (v := (-1)) hx hb dX9_fair_33 (by decide) ?_
        have h := sm_x h
        exact RT H locs _ _ 34 ls X h dX9_fair_34
  · have h := it_p h c3
    refine lv_bipush (v := (-2)) hx hb dX9_fair_9 (by decide) ?_
    have h := sm_x h
    exact RT H locs _ _ 11 ls X h dX9_fair_11

/-! ===== X9_care ===== -/
def fX9_care_24 (a1 : Int32) (x2 : Int32) (M : Mem) : Option ((Int32 × Mem) ⊕ (Int32 × Mem)) :=
  if 10 ≤ x2 then
    some (.inr ((-1), M))
  else
    gd (inB a1 8) <|
    nm (wr M 7 1 (Int32.toNatClampNeg a1) x2) fun M2 =>
    (fX6_run M2).bind fun r3 =>
    (fX7_isOut 8 r3 a1).bind fun r4 =>
    (if r4 = 0 then
      some (.inr (x2, r3))
    else
      nm (x2 + 1 : Int32) fun u6 =>
      some (.inl (u6, r3)))
def fX9_care (M : Mem) (a1 : Int32) : Option (Int32 × Mem) :=
  (fX9_isHeir M a1).bind fun r7 =>
  (if r7 = 0 then
    some ((-2), M)
  else
    (fX6_prepare 3 M).bind fun r9 =>
    nm (0 : Int32) fun u10 =>
    lpO (fun st => fX9_care_24 a1 st.1 st.2) FU (u10, r9))
set_option maxHeartbeats 4000000 in
set_option maxRecDepth 100000 in
theorem kX9_care (l : Launch) (D : va_G) (ad : Nat → Nat) (cs : Nat → ClassId) (A : Nat → Prop)  (M : Mem) (a1 : Int32) (z : (Int32 × Mem)) (hz : fX9_care M a1 = some z) : Met l yX9_care (wsU yX9_care cX9_care 3 (some .int)) (rmo 5 155) (va_Pc [.ref (ad (cO GC 0)), .int a1] (Wd0 D ad cs GC A M)) (va_Qi (fun r u => (r, u) = z) (Wd0 D ad cs GC A) A) 0 0 A := by
  refine ct_i (by decide) rfl okGC (Nat.le_of_ble_eq_true rfl) ?_
  intro p e s m args below meth c Q ls F X hl RT
  have hx := F.1
  have hb := F.2.1
  have hl : lv_has ls 3 [(0, .ref (ad (cO GC 0))), (1, .int a1)] := hl
  obtain ⟨H, hH⟩ : ∃ H, H = s.heap := ⟨_, rfl⟩
  rw [← hH] at X ⊢
  obtain ⟨locs, hlocs⟩ : ∃ locs : List Loc, locs = [] := ⟨_, rfl⟩
  rw [← hlocs] at X ⊢
  clear hH hlocs
  have L24 : ∀ (n : Nat) (H : Heap) (locs : List Loc) (x2 : Int32) (M : Mem) (ls : Array Slot), Wd D ad cs GC A s H locs M → lv_has ls 3 [(0, .ref (ad (cO GC 0))), (1, .int a1), (2, .int x2)] → ∀ (_ : Unit), lpO (fun st => fX9_care_24 a1 st.1 st.2) n (x2, M) = some z → W p l e (rmo 5 155) s m args below meth c H locs 0 0 Q (F0 m 24 ls []) := by
    intro n
    induction n with
    | zero =>
      intro H locs x2 M ls X hl  yy h
      exact lp_0 h
    | succ n1 ih24 =>
      intro H locs x2 M ls X hl  _u h
      obtain ⟨y1, h, hk1⟩ := lp_x h
      unfold fX9_care_24 at h
      refine lv_iload_n hx hb dX9_care_24 rfl (lv_at hl 2 rfl) ?_
      refine lv_bipush (v := 10) hx hb dX9_care_25 (by decide) ?_
      refine lv_icmp_ge (tgt := 72) hx hb dX9_care_27 (by decide) (fun c1 => ?_) (fun c1 => ?_)
      · have h := it_p h c1
        refine lv_iconst (v := (-1)) hx hb dX9_care_72 (by decide) ?_
        have h := sm_x h
        rw [← h] at hk1
        have h := sm_x hk1
        exact RT H locs _ _ 73 ls X h dX9_care_73
      · have h := it_n h c1
        refine lv_aload_n hx hb dX9_care_30 rfl (lv_at hl 0 rfl) ?_
        refine gf_X9_38 F X qC0 dX9_care_31 ?_
        refine gf_X9_224 F X qC6 dX9_care_34 ?_
        refine gf_X9_138 F X qC7 dX9_care_37 ?_
        refine lv_iload_n hx hb dX9_care_40 rfl (lv_at hl 1 rfl) ?_
        refine lv_iload_n hx hb dX9_care_41 rfl (lv_at hl 2 rfl) ?_
        obtain ⟨hin, h⟩ := gd_x h
        obtain ⟨M2, eM2, h⟩ := nm_x h
        refine r_iast F X (ar_X2_1 qC7) hin dX9_care_42 (fun H locs X => ?_)
        have X := Wd_eq eM2 X
        refine lv_aload_n hx hb dX9_care_43 rfl (lv_at hl 0 rfl) ?_
        refine gf_X9_38 F X qC0 dX9_care_44 ?_
        obtain ⟨r3, hr3, h⟩ := bd_x h
        refine r_callv X (r_runV F X (kX6_run l D ad cs A  M2  _ hr3) gm_X9_225 hd_X6_run ⟨Nat.le_of_ble_eq_true rfl, Nat.le_of_ble_eq_true rfl⟩ qC6 rfl rfl hl.1 rfl (Nat.le_of_ble_eq_true rfl) dX9_care_47) (fun H locs X => ?_)
        refine lv_aload_n hx hb dX9_care_50 rfl (lv_at hl 0 rfl) ?_
        refine gf_X9_38 F X qC0 dX9_care_51 ?_
        refine gf_X9_228 F X qC6 dX9_care_54 ?_
        refine lv_iload_n hx hb dX9_care_57 rfl (lv_at hl 1 rfl) ?_
        obtain ⟨r4, hr4, h⟩ := bd_x h
        refine r_calli0 X (r_runV F X (kX7_isOut l D ad cs A qC8 r3 a1 _ hr4) gm_X9_244 hd_X7_isOut ⟨Nat.le_of_ble_eq_true rfl, Nat.le_of_ble_eq_true rfl⟩ qC8 rfl rfl hl.1 rfl (Nat.le_of_ble_eq_true rfl) dX9_care_58) (fun H locs X => ?_)
        refine lv_if_ne (tgt := 66) hx hb dX9_care_61 (by decide) (fun c5 => ?_) (fun c5 => ?_)
        · have h := it_n h c5
          obtain ⟨u6, eu6, h⟩ := nm_x h
          refine lv_iinc (v := u6) (lv' := [(2, .int u6), (0, .ref (ad (cO GC 0))), (1, .int a1)]) hx hb dX9_care_66 hl (k := 2) rfl (by rw [eu6]; rfl) (by decide) rfl (fun ls hl => ?_)
          refine lv_goto (tgt := 24) hx hb dX9_care_69 (by decide) ?_
          rw [← sm_x h] at hk1
          exact ih24 _ _ u6 r3 ls X (lv_sub hl [1, 2, 0] rfl)  () hk1
        · have h := it_p h c5
          refine lv_iload_n hx hb dX9_care_64 rfl (lv_at hl 2 rfl) ?_
          have h := sm_x h
          rw [← h] at hk1
          have h := sm_x hk1
          exact RT H locs _ _ 65 ls X h dX9_care_65
  have h := hz
  unfold fX9_care at h
  refine lv_aload_n hx hb dX9_care_0 rfl (lv_at hl 0 rfl) ?_
  refine lv_iload_n hx hb dX9_care_1 rfl (lv_at hl 1 rfl) ?_
  obtain ⟨r7, hr7, h⟩ := bd_x h
  refine r_calli0 X (r_runV F X (kX9_isHeir l D ad cs A  M a1 _ hr7) gm_X9_132 hd_X9_isHeir ⟨Nat.le_of_ble_eq_true rfl, Nat.le_of_ble_eq_true rfl⟩ qC0 rfl rfl hl.1 rfl (Nat.le_of_ble_eq_true rfl) dX9_care_2) (fun H locs X => ?_)
  refine lv_if_ne (tgt := 11) hx hb dX9_care_5 (by decide) (fun c8 => ?_) (fun c8 => ?_)
  · have h := it_n h c8
    refine lv_aload_n hx hb dX9_care_11 rfl (lv_at hl 0 rfl) ?_
    refine gf_X9_38 F X qC0 dX9_care_12 ?_
    refine lv_aload_n hx hb dX9_care_15 rfl (lv_at hl 0 rfl) ?_
    refine gf_X9_24 F X qC0 dX9_care_16 ?_
    obtain ⟨r9, hr9, h⟩ := bd_x h
    refine r_callv X (r_runV F X (kX6_prepare l D ad cs A qC3 M  _ hr9) gm_X9_220 hd_X6_prepare ⟨Nat.le_of_ble_eq_true rfl, Nat.le_of_ble_eq_true rfl⟩ qC6 rfl rfl hl.1 rfl (Nat.le_of_ble_eq_true rfl) dX9_care_19) (fun H locs X => ?_)
    refine lv_iconst (v := 0) hx hb dX9_care_22 (by decide) ?_
    obtain ⟨u10, eu10, h⟩ := nm_x h
    refine topE eu10 ?_
    refine lv_istore_n (lv' := [(2, .int u10), (0, .ref (ad (cO GC 0))), (1, .int a1)]) hx hb dX9_care_23 rfl hl (by decide) rfl (fun ls hl => ?_)
    exact L24 FU _ _ u10 r9 ls X (lv_sub hl [1, 2, 0] rfl)  () h
  · have h := it_p h c8
    refine lv_bipush (v := (-2)) hx hb dX9_care_8 (by decide) ?_
    have h := sm_x h
    exact RT H locs _ _ 10 ls X h dX9_care_10

/-! ===== X9_skip ===== -/
def fX9_skip_115 (a1 : Int32) (a2 : Int32) (x3 : Int32) (x4 : Int32) (M : Mem) : Option (Int32 × Mem) :=
  if a2 = 0 then
    some (x3, M)
  else
    some (x4, M)
def fX9_skip_109 (a1 : Int32) (a2 : Int32) (x3 : Int32) (x4 : Int32) (x5 : Int32) (M : Mem) : Option ((Int32 × Int32 × Int32 × Mem) ⊕ (Int32 × Mem)) :=
  nm (x5 + 1 : Int32) fun u2 =>
  some (.inl (x3, x4, u2, M))
def fX9_skip_38 (a1 : Int32) (a2 : Int32) (x3 : Int32) (x4 : Int32) (x5 : Int32) (M : Mem) : Option ((Int32 × Int32 × Int32 × Mem) ⊕ (Int32 × Mem)) :=
  if (M 3 5 0) ≤ x5 then
    inr' (fX9_skip_115 a1 a2 x3 x4 M)
  else
    if x5 = a1 then
      fX9_skip_109 a1 a2 x3 x4 x5 M
    else
      nm (wr M 7 8 0 x5) fun M5 =>
      (fX6_run M5).bind fun r6 =>
      gd (inB a1 8) <|
      (if (r6 8 0 (Int32.toNatClampNeg a1)) ≤ x4 then
        fX9_skip_109 a1 a2 x3 x4 x5 r6
      else
        gd (inB a1 8) <|
        nm (r6 8 0 (Int32.toNatClampNeg a1) : Int32) fun u8 =>
        nm (x5 : Int32) fun u9 =>
        fX9_skip_109 a1 a2 u9 u8 x5 r6)
def fX9_skip (M : Mem) (a1 : Int32) (a2 : Int32) : Option (Int32 × Mem) :=
  (fX9_isHeir M a1).bind fun r10 =>
  (if r10 = 0 then
    some ((-2), M)
  else
    (fX9_within a2 1).bind fun r12 =>
    (if r12 = 0 then
      some ((-2), M)
    else
      (fX6_prepare 3 M).bind fun r14 =>
      nm ((-1) : Int32) fun u15 =>
      nm ((-1) : Int32) fun u16 =>
      nm (0 : Int32) fun u17 =>
      lpO (fun st => fX9_skip_38 a1 a2 st.1 st.2.1 st.2.2.1 st.2.2.2) FU (u15, u16, u17, r14)))
set_option maxHeartbeats 4000000 in
set_option maxRecDepth 100000 in
theorem kX9_skip (l : Launch) (D : va_G) (ad : Nat → Nat) (cs : Nat → ClassId) (A : Nat → Prop)  (M : Mem) (a1 : Int32) (a2 : Int32) (z : (Int32 × Mem)) (hz : fX9_skip M a1 a2 = some z) : Met l yX9_skip (wsU yX9_skip cX9_skip 6 (some .int)) (rmo 5 155) (va_Pc [.ref (ad (cO GC 0)), .int a1, .int a2] (Wd0 D ad cs GC A M)) (va_Qi (fun r u => (r, u) = z) (Wd0 D ad cs GC A) A) 0 0 A := by
  refine ct_i (by decide) rfl okGC (Nat.le_of_ble_eq_true rfl) ?_
  intro p e s m args below meth c Q ls F X hl RT
  have hx := F.1
  have hb := F.2.1
  have hl : lv_has ls 6 [(0, .ref (ad (cO GC 0))), (1, .int a1), (2, .int a2)] := hl
  obtain ⟨H, hH⟩ : ∃ H, H = s.heap := ⟨_, rfl⟩
  rw [← hH] at X ⊢
  obtain ⟨locs, hlocs⟩ : ∃ locs : List Loc, locs = [] := ⟨_, rfl⟩
  rw [← hlocs] at X ⊢
  clear hH hlocs
  have J115 : ∀ (H : Heap) (locs : List Loc) (x3 : Int32) (x4 : Int32) (M : Mem) (ls : Array Slot), Wd D ad cs GC A s H locs M → lv_has ls 6 [(2, .int a2), (3, .int x3), (4, .int x4)] → ∀ (_ : Unit), fX9_skip_115 a1 a2 x3 x4 M = some z → W p l e (rmo 5 155) s m args below meth c H locs 0 0 Q (F0 m 115 ls []) := by
    intro H locs x3 x4 M ls X hl  _u h
    unfold fX9_skip_115 at h
    refine lv_iload_n hx hb dX9_skip_115 rfl (lv_at hl 0 rfl) ?_
    refine lv_if_ne (tgt := 123) hx hb dX9_skip_116 (by decide) (fun c1 => ?_) (fun c1 => ?_)
    · have h := it_n h c1
      refine lv_iload hx hb dX9_skip_123 (lv_at hl 2 rfl) ?_
      have h := sm_x h
      exact RT H locs _ _ 125 ls X h dX9_skip_125
    · have h := it_p h c1
      refine lv_iload_n hx hb dX9_skip_119 rfl (lv_at hl 1 rfl) ?_
      refine lv_goto (tgt := 125) hx hb dX9_skip_120 (by decide) ?_
      have h := sm_x h
      exact RT H locs _ _ 125 ls X h dX9_skip_125
  have L38 : ∀ (n : Nat) (H : Heap) (locs : List Loc) (x3 : Int32) (x4 : Int32) (x5 : Int32) (M : Mem) (ls : Array Slot), Wd D ad cs GC A s H locs M → lv_has ls 6 [(0, .ref (ad (cO GC 0))), (1, .int a1), (2, .int a2), (3, .int x3), (4, .int x4), (5, .int x5)] → ∀ (_ : Unit), lpO (fun st => fX9_skip_38 a1 a2 st.1 st.2.1 st.2.2.1 st.2.2.2) n (x3, x4, x5, M) = some z → W p l e (rmo 5 155) s m args below meth c H locs 0 0 Q (F0 m 38 ls []) := by
    intro n
    induction n with
    | zero =>
      intro H locs x3 x4 x5 M ls X hl  yy h
      exact lp_0 h
    | succ n1 ih38 =>
      intro H locs x3 x4 x5 M ls X hl  _u h
      obtain ⟨y1, h, hk1⟩ := lp_x h
      have J109 : ∀ (H : Heap) (locs : List Loc) (x3 : Int32) (x4 : Int32) (x5 : Int32) (M : Mem) (ls : Array Slot), Wd D ad cs GC A s H locs M → lv_has ls 6 [(0, .ref (ad (cO GC 0))), (1, .int a1), (2, .int a2), (3, .int x3), (4, .int x4), (5, .int x5)] → ∀ (y1 : ((Int32 × Int32 × Int32 × Mem) ⊕ (Int32 × Mem))), fX9_skip_109 a1 a2 x3 x4 x5 M = some y1 → lpK (fun st => fX9_skip_38 a1 a2 st.1 st.2.1 st.2.2.1 st.2.2.2) n1 y1 = some z → W p l e (rmo 5 155) s m args below meth c H locs 0 0 Q (F0 m 109 ls []) := by
        intro H locs x3 x4 x5 M ls X hl  y1 h hk1
        unfold fX9_skip_109 at h
        obtain ⟨u2, eu2, h⟩ := nm_x h
        refine lv_iinc (v := u2) (lv' := [(5, .int u2), (0, .ref (ad (cO GC 0))), (1, .int a1), (2, .int a2), (3, .int x3), (4, .int x4)]) hx hb dX9_skip_109 hl (k := 5) rfl (by rw [eu2]; rfl) (by decide) rfl (fun ls hl => ?_)
        refine lv_goto (tgt := 38) hx hb dX9_skip_112 (by decide) ?_
        rw [← sm_x h] at hk1
        exact ih38 _ _ x3 x4 u2 M ls X (lv_sub hl [1, 2, 3, 4, 5, 0] rfl)  () hk1
      unfold fX9_skip_38 at h
      refine lv_iload hx hb dX9_skip_38 (lv_at hl 5 rfl) ?_
      refine lv_aload_n hx hb dX9_skip_40 rfl (lv_at hl 0 rfl) ?_
      refine gf_X9_24 F X qC0 dX9_skip_41 ?_
      refine gf_X9_232 F X qC3 dX9_skip_44 ?_
      refine lv_icmp_ge (tgt := 115) hx hb dX9_skip_47 (by decide) (fun c3 => ?_) (fun c3 => ?_)
      · have h := it_p h c3
        obtain ⟨_, h, ey⟩ := inr_x h
        rw [ey] at hk1
        have h := h.trans (congrArg some (sm_x hk1))
        exact J115 _ _ x3 x4 M ls X (lv_sub hl [2, 3, 4] rfl)  () h
      · have h := it_n h c3
        refine lv_iload hx hb dX9_skip_50 (lv_at hl 5 rfl) ?_
        refine lv_iload_n hx hb dX9_skip_52 rfl (lv_at hl 1 rfl) ?_
        refine lv_icmp_eq (tgt := 109) hx hb dX9_skip_53 (by decide) (fun c4 => ?_) (fun c4 => ?_)
        · have h := it_p h c4
          exact J109 _ _ x3 x4 x5 M ls X (lv_sub hl [0, 1, 2, 3, 4, 5] rfl)  _ h hk1
        · have h := it_n h c4
          refine lv_aload_n hx hb dX9_skip_56 rfl (lv_at hl 0 rfl) ?_
          refine gf_X9_38 F X qC0 dX9_skip_57 ?_
          refine gf_X9_224 F X qC6 dX9_skip_60 ?_
          refine lv_iload hx hb dX9_skip_63 (lv_at hl 5 rfl) ?_
          obtain ⟨M5, eM5, h⟩ := nm_x h
          refine pf_X9_247 F X qC7 dX9_skip_65 (fun H locs X => ?_)
          have X := Wd_eq eM5 X
          refine lv_aload_n hx hb dX9_skip_68 rfl (lv_at hl 0 rfl) ?_
          refine gf_X9_38 F X qC0 dX9_skip_69 ?_
          obtain ⟨r6, hr6, h⟩ := bd_x h
          refine r_callv X (r_runV F X (kX6_run l D ad cs A  M5  _ hr6) gm_X9_225 hd_X6_run ⟨Nat.le_of_ble_eq_true rfl, Nat.le_of_ble_eq_true rfl⟩ qC6 rfl rfl hl.1 rfl (Nat.le_of_ble_eq_true rfl) dX9_skip_72) (fun H locs X => ?_)
          refine lv_aload_n hx hb dX9_skip_75 rfl (lv_at hl 0 rfl) ?_
          refine gf_X9_38 F X qC0 dX9_skip_76 ?_
          refine gf_X9_228 F X qC6 dX9_skip_79 ?_
          refine gf_X9_250 F X qC8 dX9_skip_82 ?_
          refine lv_iload_n hx hb dX9_skip_85 rfl (lv_at hl 1 rfl) ?_
          obtain ⟨hin, h⟩ := gd_x h
          refine r_iald F X (ar_X7_0 qC8) hin dX9_skip_86 ?_
          refine lv_iload hx hb dX9_skip_87 (lv_at hl 4 rfl) ?_
          refine lv_icmp_le (tgt := 109) hx hb dX9_skip_89 (by decide) (fun c7 => ?_) (fun c7 => ?_)
          · have h := it_p h c7
            exact J109 _ _ x3 x4 x5 r6 ls X (lv_sub hl [0, 1, 2, 3, 4, 5] rfl)  _ h hk1
          · have h := it_n h c7
            refine lv_aload_n hx hb dX9_skip_92 rfl (lv_at hl 0 rfl) ?_
            refine gf_X9_38 F X qC0 dX9_skip_93 ?_
            refine gf_X9_228 F X qC6 dX9_skip_96 ?_
            refine gf_X9_250 F X qC8 dX9_skip_99 ?_
            refine lv_iload_n hx hb dX9_skip_102 rfl (lv_at hl 1 rfl) ?_
            obtain ⟨hin, h⟩ := gd_x h
            refine r_iald F X (ar_X7_0 qC8) hin dX9_skip_103 ?_
            obtain ⟨u8, eu8, h⟩ := nm_x h
            refine topE eu8 ?_
            refine lv_istore (lv' := [(4, .int u8), (0, .ref (ad (cO GC 0))), (1, .int a1), (2, .int a2), (3, .int x3), (5, .int x5)]) hx hb dX9_skip_104 hl (by decide) rfl (fun ls hl => ?_)
            refine lv_iload hx hb dX9_skip_106 (lv_at hl 5 rfl) ?_
            obtain ⟨u9, eu9, h⟩ := nm_x h
            refine topE eu9 ?_
            refine lv_istore_n (lv' := [(3, .int u9), (4, .int u8), (0, .ref (ad (cO GC 0))), (1, .int a1), (2, .int a2), (5, .int x5)]) hx hb dX9_skip_108 rfl hl (by decide) rfl (fun ls hl => ?_)
            exact J109 _ _ u9 u8 x5 r6 ls X (lv_sub hl [2, 3, 4, 0, 1, 5] rfl)  _ h hk1
  have h := hz
  unfold fX9_skip at h
  refine lv_aload_n hx hb dX9_skip_0 rfl (lv_at hl 0 rfl) ?_
  refine lv_iload_n hx hb dX9_skip_1 rfl (lv_at hl 1 rfl) ?_
  obtain ⟨r10, hr10, h⟩ := bd_x h
  refine r_calli0 X (r_runV F X (kX9_isHeir l D ad cs A  M a1 _ hr10) gm_X9_132 hd_X9_isHeir ⟨Nat.le_of_ble_eq_true rfl, Nat.le_of_ble_eq_true rfl⟩ qC0 rfl rfl hl.1 rfl (Nat.le_of_ble_eq_true rfl) dX9_skip_2) (fun H locs X => ?_)
  refine lv_if_eq (tgt := 16) hx hb dX9_skip_5 (by decide) (fun c11 => ?_) (fun c11 => ?_)
  · have h := it_p h c11
    refine lv_bipush (v := (-2)) hx hb dX9_skip_16 (by decide) ?_
    have h := sm_x h
    exact RT H locs _ _ 18 ls X h dX9_skip_18
  · have h := it_n h c11
    refine lv_iload_n hx hb dX9_skip_8 rfl (lv_at hl 2 rfl) ?_
    refine lv_iconst (v := 1) hx hb dX9_skip_9 (by decide) ?_
    obtain ⟨r12, hr12, h⟩ := bd_x h
    refine r_calli0 X (r_runS F X (kX9_within l D ad cs A  M a2 1 _ hr12) gm_X9_104 hd_X9_within ⟨Nat.le_of_ble_eq_true rfl, Nat.le_of_ble_eq_true rfl⟩ rfl hl.1 rfl (Nat.le_of_ble_eq_true rfl) dX9_skip_10) (fun H locs X => ?_)
    refine lv_if_ne (tgt := 19) hx hb dX9_skip_13 (by decide) (fun c13 => ?_) (fun c13 => ?_)
    · have h := it_n h c13
      refine lv_aload_n hx hb dX9_skip_19 rfl (lv_at hl 0 rfl) ?_
      refine gf_X9_38 F X qC0 dX9_skip_20 ?_
      refine lv_aload_n hx hb dX9_skip_23 rfl (lv_at hl 0 rfl) ?_
      refine gf_X9_24 F X qC0 dX9_skip_24 ?_
      obtain ⟨r14, hr14, h⟩ := bd_x h
      refine r_callv X (r_runV F X (kX6_prepare l D ad cs A qC3 M  _ hr14) gm_X9_220 hd_X6_prepare ⟨Nat.le_of_ble_eq_true rfl, Nat.le_of_ble_eq_true rfl⟩ qC6 rfl rfl hl.1 rfl (Nat.le_of_ble_eq_true rfl) dX9_skip_27) (fun H locs X => ?_)
      refine lv_iconst (v := (-1)) hx hb dX9_skip_30 (by decide) ?_
      obtain ⟨u15, eu15, h⟩ := nm_x h
      refine topE eu15 ?_
      refine lv_istore_n (lv' := [(3, .int u15), (0, .ref (ad (cO GC 0))), (1, .int a1), (2, .int a2)]) hx hb dX9_skip_31 rfl hl (by decide) rfl (fun ls hl => ?_)
      refine lv_iconst (v := (-1)) hx hb dX9_skip_32 (by decide) ?_
      obtain ⟨u16, eu16, h⟩ := nm_x h
      refine topE eu16 ?_
      refine lv_istore (lv' := [(4, .int u16), (3, .int u15), (0, .ref (ad (cO GC 0))), (1, .int a1), (2, .int a2)]) hx hb dX9_skip_33 hl (by decide) rfl (fun ls hl => ?_)
      refine lv_iconst (v := 0) hx hb dX9_skip_35 (by decide) ?_
      obtain ⟨u17, eu17, h⟩ := nm_x h
      refine topE eu17 ?_
      refine lv_istore (lv' := [(5, .int u17), (4, .int u16), (3, .int u15), (0, .ref (ad (cO GC 0))), (1, .int a1), (2, .int a2)]) hx hb dX9_skip_36 hl (by decide) rfl (fun ls hl => ?_)
      exact L38 FU _ _ u15 u16 u17 r14 ls X (lv_sub hl [3, 4, 5, 2, 1, 0] rfl)  () h
    · have h := it_p h c13
      refine lv_bipush (v := (-2)) hx hb dX9_skip_16 (by decide) ?_
      have h := sm_x h
      exact RT H locs _ _ 18 ls X h dX9_skip_18

/-! ===== X9_seen ===== -/
def fX9_seen (M : Mem) (a1 : Int32) (a2 : Int32) : Option (Int32 × Mem) :=
  (fX9_within a1 19).bind fun r1 =>
  (if r1 = 0 then
    some ((-2), M)
  else
    (fX9_within a2 4).bind fun r3 =>
    (if r3 = 0 then
      some ((-2), M)
    else
      if (M 10 2 0) < 8 then
        (fX8_append M a1 a2).bind fun r6 =>
        some (r6 10 2 0, r6)
      else
        some ((-4), M)))
set_option maxHeartbeats 4000000 in
set_option maxRecDepth 100000 in
theorem kX9_seen (l : Launch) (D : va_G) (ad : Nat → Nat) (cs : Nat → ClassId) (A : Nat → Prop)  (M : Mem) (a1 : Int32) (a2 : Int32) (z : (Int32 × Mem)) (hz : fX9_seen M a1 a2 = some z) : Met l yX9_seen (wsU yX9_seen cX9_seen 3 (some .int)) (rmo 2 86) (va_Pc [.ref (ad (cO GC 0)), .int a1, .int a2] (Wd0 D ad cs GC A M)) (va_Qi (fun r u => (r, u) = z) (Wd0 D ad cs GC A) A) 0 0 A := by
  refine ct_i (by decide) rfl okGC (Nat.le_of_ble_eq_true rfl) ?_
  intro p e s m args below meth c Q ls F X hl RT
  have hx := F.1
  have hb := F.2.1
  have hl : lv_has ls 3 [(0, .ref (ad (cO GC 0))), (1, .int a1), (2, .int a2)] := hl
  obtain ⟨H, hH⟩ : ∃ H, H = s.heap := ⟨_, rfl⟩
  rw [← hH] at X ⊢
  obtain ⟨locs, hlocs⟩ : ∃ locs : List Loc, locs = [] := ⟨_, rfl⟩
  rw [← hlocs] at X ⊢
  clear hH hlocs
  have h := hz
  unfold fX9_seen at h
  refine lv_iload_n hx hb dX9_seen_0 rfl (lv_at hl 1 rfl) ?_
  refine lv_bipush (v := 19) hx hb dX9_seen_1 (by decide) ?_
  obtain ⟨r1, hr1, h⟩ := bd_x h
  refine r_calli0 X (r_runS F X (kX9_within l D ad cs A  M a1 19 _ hr1) gm_X9_104 hd_X9_within ⟨Nat.le_of_ble_eq_true rfl, Nat.le_of_ble_eq_true rfl⟩ rfl hl.1 rfl (Nat.le_of_ble_eq_true rfl) dX9_seen_3) (fun H locs X => ?_)
  refine lv_if_eq (tgt := 17) hx hb dX9_seen_6 (by decide) (fun c2 => ?_) (fun c2 => ?_)
  · have h := it_p h c2
    refine lv_bipush (v := (-2)) hx hb dX9_seen_17 (by decide) ?_
    have h := sm_x h
    exact RT H locs _ _ 19 ls X h dX9_seen_19
  · have h := it_n h c2
    refine lv_iload_n hx hb dX9_seen_9 rfl (lv_at hl 2 rfl) ?_
    refine lv_iconst (v := 4) hx hb dX9_seen_10 (by decide) ?_
    obtain ⟨r3, hr3, h⟩ := bd_x h
    refine r_calli0 X (r_runS F X (kX9_within l D ad cs A  M a2 4 _ hr3) gm_X9_104 hd_X9_within ⟨Nat.le_of_ble_eq_true rfl, Nat.le_of_ble_eq_true rfl⟩ rfl hl.1 rfl (Nat.le_of_ble_eq_true rfl) dX9_seen_11) (fun H locs X => ?_)
    refine lv_if_ne (tgt := 20) hx hb dX9_seen_14 (by decide) (fun c4 => ?_) (fun c4 => ?_)
    · have h := it_n h c4
      refine lv_aload_n hx hb dX9_seen_20 rfl (lv_at hl 0 rfl) ?_
      refine gf_X9_52 F X qC0 dX9_seen_21 ?_
      refine gf_X9_253 F X qC10 dX9_seen_24 ?_
      refine lv_bipush (v := 8) hx hb dX9_seen_27 (by decide) ?_
      refine lv_icmp_lt (tgt := 35) hx hb dX9_seen_29 (by decide) (fun c5 => ?_) (fun c5 => ?_)
      · have h := it_p h c5
        refine lv_aload_n hx hb dX9_seen_35 rfl (lv_at hl 0 rfl) ?_
        refine gf_X9_52 F X qC0 dX9_seen_36 ?_
        refine lv_iload_n hx hb dX9_seen_39 rfl (lv_at hl 1 rfl) ?_
        refine lv_iload_n hx hb dX9_seen_40 rfl (lv_at hl 2 rfl) ?_
        obtain ⟨r6, hr6, h⟩ := bd_x h
        refine r_callv X (r_runV F X (kX8_append l D ad cs A  M a1 a2 _ hr6) gm_X9_254 hd_X8_append ⟨Nat.le_of_ble_eq_true rfl, Nat.le_of_ble_eq_true rfl⟩ qC10 rfl rfl hl.1 rfl (Nat.le_of_ble_eq_true rfl) dX9_seen_41) (fun H locs X => ?_)
        refine lv_aload_n hx hb dX9_seen_44 rfl (lv_at hl 0 rfl) ?_
        refine gf_X9_52 F X qC0 dX9_seen_45 ?_
        refine gf_X9_253 F X qC10 dX9_seen_48 ?_
        have h := sm_x h
        exact RT H locs _ _ 51 ls X h dX9_seen_51
      · have h := it_n h c5
        refine lv_bipush (v := (-4)) hx hb dX9_seen_32 (by decide) ?_
        have h := sm_x h
        exact RT H locs _ _ 34 ls X h dX9_seen_34
    · have h := it_p h c4
      refine lv_bipush (v := (-2)) hx hb dX9_seen_17 (by decide) ?_
      have h := sm_x h
      exact RT H locs _ _ 19 ls X h dX9_seen_19

/-! ===== X9_forget ===== -/
def fX9_forget (M : Mem) : Option (Int32 × Mem) :=
  nm (M 10 2 0 : Int32) fun u1 =>
  nm (wr M 10 2 0 0) fun M2 =>
  some (u1, M2)
set_option maxHeartbeats 4000000 in
set_option maxRecDepth 100000 in
theorem kX9_forget (l : Launch) (D : va_G) (ad : Nat → Nat) (cs : Nat → ClassId) (A : Nat → Prop)  (M : Mem)  (z : (Int32 × Mem)) (hz : fX9_forget M = some z) : Met l yX9_forget (wsU yX9_forget cX9_forget 2 (some .int)) (rmo 1 64) (va_Pc [.ref (ad (cO GC 0))] (Wd0 D ad cs GC A M)) (va_Qi (fun r u => (r, u) = z) (Wd0 D ad cs GC A) A) 0 0 A := by
  refine ct_i (by decide) rfl okGC (Nat.le_of_ble_eq_true rfl) ?_
  intro p e s m args below meth c Q ls F X hl RT
  have hx := F.1
  have hb := F.2.1
  have hl : lv_has ls 2 [(0, .ref (ad (cO GC 0)))] := hl
  obtain ⟨H, hH⟩ : ∃ H, H = s.heap := ⟨_, rfl⟩
  rw [← hH] at X ⊢
  obtain ⟨locs, hlocs⟩ : ∃ locs : List Loc, locs = [] := ⟨_, rfl⟩
  rw [← hlocs] at X ⊢
  clear hH hlocs
  have h := hz
  unfold fX9_forget at h
  refine lv_aload_n hx hb dX9_forget_0 rfl (lv_at hl 0 rfl) ?_
  refine gf_X9_52 F X qC0 dX9_forget_1 ?_
  refine gf_X9_253 F X qC10 dX9_forget_4 ?_
  obtain ⟨u1, eu1, h⟩ := nm_x h
  refine topE eu1 ?_
  refine lv_istore_n (lv' := [(1, .int u1), (0, .ref (ad (cO GC 0)))]) hx hb dX9_forget_7 rfl hl (by decide) rfl (fun ls hl => ?_)
  refine lv_aload_n hx hb dX9_forget_8 rfl (lv_at hl 1 rfl) ?_
  refine gf_X9_52 F X qC0 dX9_forget_9 ?_
  refine lv_iconst (v := 0) hx hb dX9_forget_12 (by decide) ?_
  obtain ⟨M2, eM2, h⟩ := nm_x h
  refine pf_X9_253 F X qC10 dX9_forget_13 (fun H locs X => ?_)
  have X := Wd_eq eM2 X
  refine lv_iload_n hx hb dX9_forget_16 rfl (lv_at hl 0 rfl) ?_
  have h := sm_x h
  exact RT H locs _ _ 17 ls X h dX9_forget_17

/-! ===== X9_never ===== -/
def fX9_never_71  (x1 : Int32) (x2 : Int32) (M : Mem) : Option ((Int32 × Int32 × Mem) ⊕ (Int32 × Mem)) :=
  nm (x2 + 1 : Int32) fun u1 =>
  some (.inl (x1, u1, M))
def fX9_never_15  (x1 : Int32) (x2 : Int32) (M : Mem) : Option ((Int32 × Int32 × Mem) ⊕ (Int32 × Mem)) :=
  if (M 9 1 0) ≤ x2 then
    some (.inr (x1, M))
  else
    (fX1_stopsWithout M x2).bind fun r3 =>
    nm (wr M 7 7 0 r3) fun M4 =>
    (fX6_run M4).bind fun r5 =>
    (fX8_agrees r5).bind fun r6 =>
    (if r6 = 0 then
      fX9_never_71 x1 x2 r5
    else
      nm (x1 ||| ((1 : Int32) <<< (x2 &&& 31)) : Int32) fun u8 =>
      fX9_never_71 u8 x2 r5)
def fX9_never (M : Mem) : Option (Int32 × Mem) :=
  (fX6_prepare 3 M).bind fun r9 =>
  nm (0 : Int32) fun u10 =>
  nm (0 : Int32) fun u11 =>
  lpO (fun st => fX9_never_15 st.1 st.2.1 st.2.2) FU (u10, u11, r9)
set_option maxHeartbeats 4000000 in
set_option maxRecDepth 100000 in
theorem kX9_never (l : Launch) (D : va_G) (ad : Nat → Nat) (cs : Nat → ClassId) (A : Nat → Prop)  (M : Mem)  (z : (Int32 × Mem)) (hz : fX9_never M = some z) : Met l yX9_never (wsU yX9_never cX9_never 3 (some .int)) (rmo 5 155) (va_Pc [.ref (ad (cO GC 0))] (Wd0 D ad cs GC A M)) (va_Qi (fun r u => (r, u) = z) (Wd0 D ad cs GC A) A) 0 0 A := by
  refine ct_i (by decide) rfl okGC (Nat.le_of_ble_eq_true rfl) ?_
  intro p e s m args below meth c Q ls F X hl RT
  have hx := F.1
  have hb := F.2.1
  have hl : lv_has ls 3 [(0, .ref (ad (cO GC 0)))] := hl
  obtain ⟨H, hH⟩ : ∃ H, H = s.heap := ⟨_, rfl⟩
  rw [← hH] at X ⊢
  obtain ⟨locs, hlocs⟩ : ∃ locs : List Loc, locs = [] := ⟨_, rfl⟩
  rw [← hlocs] at X ⊢
  clear hH hlocs
  have L15 : ∀ (n : Nat) (H : Heap) (locs : List Loc) (x1 : Int32) (x2 : Int32) (M : Mem) (ls : Array Slot), Wd D ad cs GC A s H locs M → lv_has ls 3 [(0, .ref (ad (cO GC 0))), (1, .int x1), (2, .int x2)] → ∀ (_ : Unit), lpO (fun st => fX9_never_15 st.1 st.2.1 st.2.2) n (x1, x2, M) = some z → W p l e (rmo 5 155) s m args below meth c H locs 0 0 Q (F0 m 15 ls []) := by
    intro n
    induction n with
    | zero =>
      intro H locs x1 x2 M ls X hl  yy h
      exact lp_0 h
    | succ n1 ih15 =>
      intro H locs x1 x2 M ls X hl  _u h
      obtain ⟨y1, h, hk1⟩ := lp_x h
      have J71 : ∀ (H : Heap) (locs : List Loc) (x1 : Int32) (x2 : Int32) (M : Mem) (ls : Array Slot), Wd D ad cs GC A s H locs M → lv_has ls 3 [(0, .ref (ad (cO GC 0))), (1, .int x1), (2, .int x2)] → ∀ (y1 : ((Int32 × Int32 × Mem) ⊕ (Int32 × Mem))), fX9_never_71 x1 x2 M = some y1 → lpK (fun st => fX9_never_15 st.1 st.2.1 st.2.2) n1 y1 = some z → W p l e (rmo 5 155) s m args below meth c H locs 0 0 Q (F0 m 71 ls []) := by
        intro H locs x1 x2 M ls X hl  y1 h hk1
        unfold fX9_never_71 at h
        obtain ⟨u1, eu1, h⟩ := nm_x h
        refine lv_iinc (v := u1) (lv' := [(2, .int u1), (0, .ref (ad (cO GC 0))), (1, .int x1)]) hx hb dX9_never_71 hl (k := 2) rfl (by rw [eu1]; rfl) (by decide) rfl (fun ls hl => ?_)
        refine lv_goto (tgt := 15) hx hb dX9_never_74 (by decide) ?_
        rw [← sm_x h] at hk1
        exact ih15 _ _ x1 u1 M ls X (lv_sub hl [1, 2, 0] rfl)  () hk1
      unfold fX9_never_15 at h
      refine lv_iload_n hx hb dX9_never_15 rfl (lv_at hl 2 rfl) ?_
      refine lv_aload_n hx hb dX9_never_16 rfl (lv_at hl 0 rfl) ?_
      refine gf_X9_45 F X qC0 dX9_never_17 ?_
      refine gf_X9_156 F X qC9 dX9_never_20 ?_
      refine lv_icmp_ge (tgt := 77) hx hb dX9_never_23 (by decide) (fun c2 => ?_) (fun c2 => ?_)
      · have h := it_p h c2
        refine lv_iload_n hx hb dX9_never_77 rfl (lv_at hl 1 rfl) ?_
        have h := sm_x h
        rw [← h] at hk1
        have h := sm_x hk1
        exact RT H locs _ _ 78 ls X h dX9_never_78
      · have h := it_n h c2
        refine lv_aload_n hx hb dX9_never_26 rfl (lv_at hl 0 rfl) ?_
        refine gf_X9_38 F X qC0 dX9_never_27 ?_
        refine gf_X9_224 F X qC6 dX9_never_30 ?_
        refine lv_aload_n hx hb dX9_never_33 rfl (lv_at hl 0 rfl) ?_
        refine gf_X9_45 F X qC0 dX9_never_34 ?_
        refine lv_iload_n hx hb dX9_never_37 rfl (lv_at hl 2 rfl) ?_
        obtain ⟨r3, hr3, h⟩ := bd_x h
        refine r_calli0 X (r_runV F X (kX1_stopsWithout l D ad cs A  M x2 _ hr3) gm_X9_257 hd_X1_stopsWithout ⟨Nat.le_of_ble_eq_true rfl, Nat.le_of_ble_eq_true rfl⟩ qC9 rfl rfl hl.1 rfl (Nat.le_of_ble_eq_true rfl) dX9_never_38) (fun H locs X => ?_)
        obtain ⟨M4, eM4, h⟩ := nm_x h
        refine pf_X9_260 F X qC7 dX9_never_41 (fun H locs X => ?_)
        have X := Wd_eq eM4 X
        refine lv_aload_n hx hb dX9_never_44 rfl (lv_at hl 0 rfl) ?_
        refine gf_X9_38 F X qC0 dX9_never_45 ?_
        obtain ⟨r5, hr5, h⟩ := bd_x h
        refine r_callv X (r_runV F X (kX6_run l D ad cs A  M4  _ hr5) gm_X9_225 hd_X6_run ⟨Nat.le_of_ble_eq_true rfl, Nat.le_of_ble_eq_true rfl⟩ qC6 rfl rfl hl.1 rfl (Nat.le_of_ble_eq_true rfl) dX9_never_48) (fun H locs X => ?_)
        refine lv_aload_n hx hb dX9_never_51 rfl (lv_at hl 0 rfl) ?_
        refine gf_X9_52 F X qC0 dX9_never_52 ?_
        refine lv_aload_n hx hb dX9_never_55 rfl (lv_at hl 0 rfl) ?_
        refine gf_X9_38 F X qC0 dX9_never_56 ?_
        obtain ⟨r6, hr6, h⟩ := bd_x h
        refine r_calli0 X (r_runV F X (kX8_agrees l D ad cs A  r5  _ hr6) gm_X9_263 hd_X8_agrees ⟨Nat.le_of_ble_eq_true rfl, Nat.le_of_ble_eq_true rfl⟩ qC10 rfl rfl hl.1 rfl (Nat.le_of_ble_eq_true rfl) dX9_never_59) (fun H locs X => ?_)
        refine lv_if_eq (tgt := 71) hx hb dX9_never_62 (by decide) (fun c7 => ?_) (fun c7 => ?_)
        · have h := it_p h c7
          exact J71 _ _ x1 x2 r5 ls X (lv_sub hl [0, 1, 2] rfl)  _ h hk1
        · have h := it_n h c7
          refine lv_iload_n hx hb dX9_never_65 rfl (lv_at hl 1 rfl) ?_
          refine lv_iconst (v := 1) hx hb dX9_never_66 (by decide) ?_
          refine lv_iload_n hx hb dX9_never_67 rfl (lv_at hl 2 rfl) ?_
          refine lv_ishl hx hb dX9_never_68 ?_
          refine lv_ior hx hb dX9_never_69 ?_
          obtain ⟨u8, eu8, h⟩ := nm_x h
          refine topE eu8 ?_
          refine lv_istore_n (lv' := [(1, .int u8), (0, .ref (ad (cO GC 0))), (2, .int x2)]) hx hb dX9_never_70 rfl hl (by decide) rfl (fun ls hl => ?_)
          exact J71 _ _ u8 x2 r5 ls X (lv_sub hl [1, 0, 2] rfl)  _ h hk1
  have h := hz
  unfold fX9_never at h
  refine lv_aload_n hx hb dX9_never_0 rfl (lv_at hl 0 rfl) ?_
  refine gf_X9_38 F X qC0 dX9_never_1 ?_
  refine lv_aload_n hx hb dX9_never_4 rfl (lv_at hl 0 rfl) ?_
  refine gf_X9_24 F X qC0 dX9_never_5 ?_
  obtain ⟨r9, hr9, h⟩ := bd_x h
  refine r_callv X (r_runV F X (kX6_prepare l D ad cs A qC3 M  _ hr9) gm_X9_220 hd_X6_prepare ⟨Nat.le_of_ble_eq_true rfl, Nat.le_of_ble_eq_true rfl⟩ qC6 rfl rfl hl.1 rfl (Nat.le_of_ble_eq_true rfl) dX9_never_8) (fun H locs X => ?_)
  refine lv_iconst (v := 0) hx hb dX9_never_11 (by decide) ?_
  obtain ⟨u10, eu10, h⟩ := nm_x h
  refine topE eu10 ?_
  refine lv_istore_n (lv' := [(1, .int u10), (0, .ref (ad (cO GC 0)))]) hx hb dX9_never_12 rfl hl (by decide) rfl (fun ls hl => ?_)
  refine lv_iconst (v := 0) hx hb dX9_never_13 (by decide) ?_
  obtain ⟨u11, eu11, h⟩ := nm_x h
  refine topE eu11 ?_
  refine lv_istore_n (lv' := [(2, .int u11), (1, .int u10), (0, .ref (ad (cO GC 0)))]) hx hb dX9_never_14 rfl hl (by decide) rfl (fun ls hl => ?_)
  exact L15 FU _ _ u10 u11 r9 ls X (lv_sub hl [2, 1, 0] rfl)  () h

/-! ===== X9_was ===== -/
def fX9_was_106 (a1 : Int32) (a2 : Int32) (p3 : Nat) (x4 : Int32) (x5 : Int32) (M : Mem) : Option ((Nat × Int32 × Int32 × Mem) ⊕ (Int32 × Mem)) :=
  nm (x5 + 1 : Int32) fun u1 =>
  some (.inl (p3, x4, u1, M))
def fX9_was_64 (a1 : Int32) (a2 : Int32) (p3 : Nat) (x4 : Int32) (x5 : Int32) (M : Mem) : Option ((Nat × Int32 × Int32 × Mem) ⊕ (Int32 × Mem)) :=
  if 10 ≤ x5 then
    some (.inr (x4, M))
  else
    gd (inB a1 8) <|
    nm (wr M 7 p3 (Int32.toNatClampNeg a1) x5) fun M3 =>
    (fX6_run M3).bind fun r4 =>
    (fX8_agrees r4).bind fun r5 =>
    (if r5 = 0 then
      fX9_was_106 a1 a2 p3 x4 x5 r4
    else
      nm (x4 ||| ((1 : Int32) <<< (x5 &&& 31)) : Int32) fun u7 =>
      fX9_was_106 a1 a2 p3 u7 x5 r4)
def fX9_was_57 (a1 : Int32) (a2 : Int32) (v0 : Nat) (M : Mem) : Option (Int32 × Mem) :=
  nm (0 : Int32) fun u8 =>
  nm (0 : Int32) fun u9 =>
  lpO (fun st => fX9_was_64 a1 a2 st.1 st.2.1 st.2.2.1 st.2.2.2) FU (v0, u8, u9, M)
def fX9_was (M : Mem) (a1 : Int32) (a2 : Int32) : Option (Int32 × Mem) :=
  (fX9_isHeir M a1).bind fun r10 =>
  (if r10 = 0 then
    some ((-2), M)
  else
    (fX9_within a2 1).bind fun r12 =>
    (if r12 = 0 then
      some ((-2), M)
    else
      (fX6_prepare 3 M).bind fun r14 =>
      (if a2 = 0 then
        fX9_was_57 a1 a2 2 r14
      else
        fX9_was_57 a1 a2 1 r14)))
set_option maxHeartbeats 4000000 in
set_option maxRecDepth 100000 in
theorem kX9_was (l : Launch) (D : va_G) (ad : Nat → Nat) (cs : Nat → ClassId) (A : Nat → Prop)  (M : Mem) (a1 : Int32) (a2 : Int32) (z : (Int32 × Mem)) (hz : fX9_was M a1 a2 = some z) : Met l yX9_was (wsU yX9_was cX9_was 6 (some .int)) (rmo 5 155) (va_Pc [.ref (ad (cO GC 0)), .int a1, .int a2] (Wd0 D ad cs GC A M)) (va_Qi (fun r u => (r, u) = z) (Wd0 D ad cs GC A) A) 0 0 A := by
  refine ct_i (by decide) rfl okGC (Nat.le_of_ble_eq_true rfl) ?_
  intro p e s m args below meth c Q ls F X hl RT
  have hx := F.1
  have hb := F.2.1
  have hl : lv_has ls 6 [(0, .ref (ad (cO GC 0))), (1, .int a1), (2, .int a2)] := hl
  obtain ⟨H, hH⟩ : ∃ H, H = s.heap := ⟨_, rfl⟩
  rw [← hH] at X ⊢
  obtain ⟨locs, hlocs⟩ : ∃ locs : List Loc, locs = [] := ⟨_, rfl⟩
  rw [← hlocs] at X ⊢
  clear hH hlocs
  have L64 : ∀ (n : Nat) (H : Heap) (locs : List Loc) (p3 : Nat) (x4 : Int32) (x5 : Int32) (M : Mem) (ls : Array Slot), Wd D ad cs GC A s H locs M → lv_has ls 6 [(0, .ref (ad (cO GC 0))), (1, .int a1), (3, .ref (ad (cO GC 7 + (p3 + 1)))), (4, .int x4), (5, .int x5)] → GC[cO GC 7 + (p3 + 1)]? = some (7, 1, p3, 8) → ∀ (_ : Unit), lpO (fun st => fX9_was_64 a1 a2 st.1 st.2.1 st.2.2.1 st.2.2.2) n (p3, x4, x5, M) = some z → W p l e (rmo 5 155) s m args below meth c H locs 0 0 Q (F0 m 64 ls []) := by
    intro n
    induction n with
    | zero =>
      intro H locs p3 x4 x5 M ls X hl hq3 yy h
      exact lp_0 h
    | succ n1 ih64 =>
      intro H locs p3 x4 x5 M ls X hl hq3 _u h
      obtain ⟨y1, h, hk1⟩ := lp_x h
      have J106 : ∀ (H : Heap) (locs : List Loc) (p3 : Nat) (x4 : Int32) (x5 : Int32) (M : Mem) (ls : Array Slot), Wd D ad cs GC A s H locs M → lv_has ls 6 [(0, .ref (ad (cO GC 0))), (1, .int a1), (3, .ref (ad (cO GC 7 + (p3 + 1)))), (4, .int x4), (5, .int x5)] → GC[cO GC 7 + (p3 + 1)]? = some (7, 1, p3, 8) → ∀ (y1 : ((Nat × Int32 × Int32 × Mem) ⊕ (Int32 × Mem))), fX9_was_106 a1 a2 p3 x4 x5 M = some y1 → lpK (fun st => fX9_was_64 a1 a2 st.1 st.2.1 st.2.2.1 st.2.2.2) n1 y1 = some z → W p l e (rmo 5 155) s m args below meth c H locs 0 0 Q (F0 m 106 ls []) := by
        intro H locs p3 x4 x5 M ls X hl hq3 y1 h hk1
        unfold fX9_was_106 at h
        obtain ⟨u1, eu1, h⟩ := nm_x h
        refine lv_iinc (v := u1) (lv' := [(5, .int u1), (0, .ref (ad (cO GC 0))), (1, .int a1), (3, .ref (ad (cO GC 7 + (p3 + 1)))), (4, .int x4)]) hx hb dX9_was_106 hl (k := 4) rfl (by rw [eu1]; rfl) (by decide) rfl (fun ls hl => ?_)
        refine lv_goto (tgt := 64) hx hb dX9_was_109 (by decide) ?_
        rw [← sm_x h] at hk1
        exact ih64 _ _ p3 x4 u1 M ls X (lv_sub hl [1, 2, 3, 4, 0] rfl) hq3 () hk1
      unfold fX9_was_64 at h
      refine lv_iload hx hb dX9_was_64 (lv_at hl 4 rfl) ?_
      refine lv_bipush (v := 10) hx hb dX9_was_66 (by decide) ?_
      refine lv_icmp_ge (tgt := 112) hx hb dX9_was_68 (by decide) (fun c2 => ?_) (fun c2 => ?_)
      · have h := it_p h c2
        refine lv_iload hx hb dX9_was_112 (lv_at hl 3 rfl) ?_
        have h := sm_x h
        rw [← h] at hk1
        have h := sm_x hk1
        exact RT H locs _ _ 114 ls X h dX9_was_114
      · have h := it_n h c2
        refine lv_aload_n hx hb dX9_was_71 rfl (lv_at hl 2 rfl) ?_
        refine lv_iload_n hx hb dX9_was_72 rfl (lv_at hl 1 rfl) ?_
        refine lv_iload hx hb dX9_was_73 (lv_at hl 4 rfl) ?_
        obtain ⟨hin, h⟩ := gd_x h
        obtain ⟨M3, eM3, h⟩ := nm_x h
        refine r_iast F X hq3 hin dX9_was_75 (fun H locs X => ?_)
        have X := Wd_eq eM3 X
        refine lv_aload_n hx hb dX9_was_76 rfl (lv_at hl 0 rfl) ?_
        refine gf_X9_38 F X qC0 dX9_was_77 ?_
        obtain ⟨r4, hr4, h⟩ := bd_x h
        refine r_callv X (r_runV F X (kX6_run l D ad cs A  M3  _ hr4) gm_X9_225 hd_X6_run ⟨Nat.le_of_ble_eq_true rfl, Nat.le_of_ble_eq_true rfl⟩ qC6 rfl rfl hl.1 rfl (Nat.le_of_ble_eq_true rfl) dX9_was_80) (fun H locs X => ?_)
        refine lv_aload_n hx hb dX9_was_83 rfl (lv_at hl 0 rfl) ?_
        refine gf_X9_52 F X qC0 dX9_was_84 ?_
        refine lv_aload_n hx hb dX9_was_87 rfl (lv_at hl 0 rfl) ?_
        refine gf_X9_38 F X qC0 dX9_was_88 ?_
        obtain ⟨r5, hr5, h⟩ := bd_x h
        refine r_calli0 X (r_runV F X (kX8_agrees l D ad cs A  r4  _ hr5) gm_X9_263 hd_X8_agrees ⟨Nat.le_of_ble_eq_true rfl, Nat.le_of_ble_eq_true rfl⟩ qC10 rfl rfl hl.1 rfl (Nat.le_of_ble_eq_true rfl) dX9_was_91) (fun H locs X => ?_)
        refine lv_if_eq (tgt := 106) hx hb dX9_was_94 (by decide) (fun c6 => ?_) (fun c6 => ?_)
        · have h := it_p h c6
          exact J106 _ _ p3 x4 x5 r4 ls X (lv_sub hl [0, 1, 2, 3, 4] rfl) hq3 _ h hk1
        · have h := it_n h c6
          refine lv_iload hx hb dX9_was_97 (lv_at hl 3 rfl) ?_
          refine lv_iconst (v := 1) hx hb dX9_was_99 (by decide) ?_
          refine lv_iload hx hb dX9_was_100 (lv_at hl 4 rfl) ?_
          refine lv_ishl hx hb dX9_was_102 ?_
          refine lv_ior hx hb dX9_was_103 ?_
          obtain ⟨u7, eu7, h⟩ := nm_x h
          refine topE eu7 ?_
          refine lv_istore (lv' := [(4, .int u7), (0, .ref (ad (cO GC 0))), (1, .int a1), (3, .ref (ad (cO GC 7 + (p3 + 1)))), (5, .int x5)]) hx hb dX9_was_104 hl (by decide) rfl (fun ls hl => ?_)
          exact J106 _ _ p3 u7 x5 r4 ls X (lv_sub hl [1, 2, 3, 0, 4] rfl) hq3 _ h hk1
  have J57 : ∀ (H : Heap) (locs : List Loc) (v0 : Nat) (M : Mem) (ls : Array Slot), Wd D ad cs GC A s H locs M → lv_has ls 6 [(0, .ref (ad (cO GC 0))), (1, .int a1)] → GC[cO GC 7 + (v0 + 1)]? = some (7, 1, v0, 8) → ∀ (_ : Unit), fX9_was_57 a1 a2 v0 M = some z → W p l e (rmo 5 155) s m args below meth c H locs 0 0 Q (F0 m 57 ls [.ref (ad (cO GC 7 + (v0 + 1)))]) := by
    intro H locs v0 M ls X hl hs0 _u h
    unfold fX9_was_57 at h
    refine lv_astore_n (lv' := [(3, .ref (ad (cO GC 7 + (v0 + 1)))), (0, .ref (ad (cO GC 0))), (1, .int a1)]) hx hb dX9_was_57 rfl hl (by decide) rfl (fun ls hl => ?_)
    refine lv_iconst (v := 0) hx hb dX9_was_58 (by decide) ?_
    obtain ⟨u8, eu8, h⟩ := nm_x h
    refine topE eu8 ?_
    refine lv_istore (lv' := [(4, .int u8), (3, .ref (ad (cO GC 7 + (v0 + 1)))), (0, .ref (ad (cO GC 0))), (1, .int a1)]) hx hb dX9_was_59 hl (by decide) rfl (fun ls hl => ?_)
    refine lv_iconst (v := 0) hx hb dX9_was_61 (by decide) ?_
    obtain ⟨u9, eu9, h⟩ := nm_x h
    refine topE eu9 ?_
    refine lv_istore (lv' := [(5, .int u9), (4, .int u8), (3, .ref (ad (cO GC 7 + (v0 + 1)))), (0, .ref (ad (cO GC 0))), (1, .int a1)]) hx hb dX9_was_62 hl (by decide) rfl (fun ls hl => ?_)
    exact L64 FU _ _ v0 u8 u9 M ls X (lv_sub hl [3, 4, 2, 1, 0] rfl) hs0 () h
  have h := hz
  unfold fX9_was at h
  refine lv_aload_n hx hb dX9_was_0 rfl (lv_at hl 0 rfl) ?_
  refine lv_iload_n hx hb dX9_was_1 rfl (lv_at hl 1 rfl) ?_
  obtain ⟨r10, hr10, h⟩ := bd_x h
  refine r_calli0 X (r_runV F X (kX9_isHeir l D ad cs A  M a1 _ hr10) gm_X9_132 hd_X9_isHeir ⟨Nat.le_of_ble_eq_true rfl, Nat.le_of_ble_eq_true rfl⟩ qC0 rfl rfl hl.1 rfl (Nat.le_of_ble_eq_true rfl) dX9_was_2) (fun H locs X => ?_)
  refine lv_if_eq (tgt := 16) hx hb dX9_was_5 (by decide) (fun c11 => ?_) (fun c11 => ?_)
  · have h := it_p h c11
    refine lv_bipush (v := (-2)) hx hb dX9_was_16 (by decide) ?_
    have h := sm_x h
    exact RT H locs _ _ 18 ls X h dX9_was_18
  · have h := it_n h c11
    refine lv_iload_n hx hb dX9_was_8 rfl (lv_at hl 2 rfl) ?_
    refine lv_iconst (v := 1) hx hb dX9_was_9 (by decide) ?_
    obtain ⟨r12, hr12, h⟩ := bd_x h
    refine r_calli0 X (r_runS F X (kX9_within l D ad cs A  M a2 1 _ hr12) gm_X9_104 hd_X9_within ⟨Nat.le_of_ble_eq_true rfl, Nat.le_of_ble_eq_true rfl⟩ rfl hl.1 rfl (Nat.le_of_ble_eq_true rfl) dX9_was_10) (fun H locs X => ?_)
    refine lv_if_ne (tgt := 19) hx hb dX9_was_13 (by decide) (fun c13 => ?_) (fun c13 => ?_)
    · have h := it_n h c13
      refine lv_aload_n hx hb dX9_was_19 rfl (lv_at hl 0 rfl) ?_
      refine gf_X9_38 F X qC0 dX9_was_20 ?_
      refine lv_aload_n hx hb dX9_was_23 rfl (lv_at hl 0 rfl) ?_
      refine gf_X9_24 F X qC0 dX9_was_24 ?_
      obtain ⟨r14, hr14, h⟩ := bd_x h
      refine r_callv X (r_runV F X (kX6_prepare l D ad cs A qC3 M  _ hr14) gm_X9_220 hd_X6_prepare ⟨Nat.le_of_ble_eq_true rfl, Nat.le_of_ble_eq_true rfl⟩ qC6 rfl rfl hl.1 rfl (Nat.le_of_ble_eq_true rfl) dX9_was_27) (fun H locs X => ?_)
      refine lv_iload_n hx hb dX9_was_30 rfl (lv_at hl 2 rfl) ?_
      refine lv_if_ne (tgt := 47) hx hb dX9_was_31 (by decide) (fun c15 => ?_) (fun c15 => ?_)
      · have h := it_n h c15
        refine lv_aload_n hx hb dX9_was_47 rfl (lv_at hl 0 rfl) ?_
        refine gf_X9_38 F X qC0 dX9_was_48 ?_
        refine gf_X9_224 F X qC6 dX9_was_51 ?_
        refine gf_X9_138 F X qC7 dX9_was_54 ?_
        exact J57 _ _ 1 r14 ls X (lv_sub hl [0, 1] rfl) (ar_X2_1 qC7) () h
      · have h := it_p h c15
        refine lv_aload_n hx hb dX9_was_34 rfl (lv_at hl 0 rfl) ?_
        refine gf_X9_38 F X qC0 dX9_was_35 ?_
        refine gf_X9_224 F X qC6 dX9_was_38 ?_
        refine gf_X9_141 F X qC7 dX9_was_41 ?_
        refine lv_goto (tgt := 57) hx hb dX9_was_44 (by decide) ?_
        exact J57 _ _ 2 r14 ls X (lv_sub hl [0, 1] rfl) (ar_X2_2 qC7) () h
    · have h := it_p h c13
      refine lv_bipush (v := (-2)) hx hb dX9_was_16 (by decide) ?_
      have h := sm_x h
      exact RT H locs _ _ 18 ls X h dX9_was_18

/-! ===== X9_tallyTrial ===== -/
def fX9_tallyTrial_2  (x1 : Int32) (M : Mem) : Option ((Int32 × Mem) ⊕ Mem) :=
  if (M 3 6 0) ≤ x1 then
    some (.inr M)
  else
    gd (inB x1 20) <|
    gd (inB ((x1 * (5 : Int32)) + (M 6 2 (Int32.toNatClampNeg x1))) 100) <|
    gd (inB ((x1 * (5 : Int32)) + (M 6 2 (Int32.toNatClampNeg x1))) 100) <|
    nm (wr M 0 9 (Int32.toNatClampNeg ((x1 * (5 : Int32)) + (M 6 2 (Int32.toNatClampNeg x1)))) ((M 0 9 (Int32.toNatClampNeg ((x1 * (5 : Int32)) + (M 6 2 (Int32.toNatClampNeg x1))))) + (1 : Int32))) fun M2 =>
    nm (x1 + 1 : Int32) fun u3 =>
    some (.inl (u3, M2))
def fX9_tallyTrial (M : Mem) : Option Mem :=
  nm (0 : Int32) fun u4 =>
  lpO (fun st => fX9_tallyTrial_2 st.1 st.2) FU (u4, M)
set_option maxHeartbeats 4000000 in
set_option maxRecDepth 100000 in
theorem kX9_tallyTrial (l : Launch) (D : va_G) (ad : Nat → Nat) (cs : Nat → ClassId) (A : Nat → Prop)  (M : Mem)  (z : Mem) (hz : fX9_tallyTrial M = some z) : Met l yX9_tallyTrial (wsU yX9_tallyTrial cX9_tallyTrial 2 none) (rmo 1 64) (va_Pc [.ref (ad (cO GC 0))] (Wd0 D ad cs GC A M)) (va_Qv (fun u => u = z) (Wd0 D ad cs GC A) A) 0 0 A := by
  refine ct_v (by decide) rfl okGC (Nat.le_of_ble_eq_true rfl) ?_
  intro p e s m args below meth c Q ls F X hl RT
  have hx := F.1
  have hb := F.2.1
  have hl : lv_has ls 2 [(0, .ref (ad (cO GC 0)))] := hl
  obtain ⟨H, hH⟩ : ∃ H, H = s.heap := ⟨_, rfl⟩
  rw [← hH] at X ⊢
  obtain ⟨locs, hlocs⟩ : ∃ locs : List Loc, locs = [] := ⟨_, rfl⟩
  rw [← hlocs] at X ⊢
  clear hH hlocs
  have L2 : ∀ (n : Nat) (H : Heap) (locs : List Loc) (x1 : Int32) (M : Mem) (ls : Array Slot), Wd D ad cs GC A s H locs M → lv_has ls 2 [(0, .ref (ad (cO GC 0))), (1, .int x1)] → ∀ (_ : Unit), lpO (fun st => fX9_tallyTrial_2 st.1 st.2) n (x1, M) = some z → W p l e (rmo 1 64) s m args below meth c H locs 0 0 Q (F0 m 2 ls []) := by
    intro n
    induction n with
    | zero =>
      intro H locs x1 M ls X hl  yy h
      exact lp_0 h
    | succ n1 ih2 =>
      intro H locs x1 M ls X hl  _u h
      obtain ⟨y1, h, hk1⟩ := lp_x h
      unfold fX9_tallyTrial_2 at h
      refine lv_iload_n hx hb dX9_tallyTrial_2 rfl (lv_at hl 1 rfl) ?_
      refine lv_aload_n hx hb dX9_tallyTrial_3 rfl (lv_at hl 0 rfl) ?_
      refine gf_X9_24 F X qC0 dX9_tallyTrial_4 ?_
      refine gf_X9_144 F X qC3 dX9_tallyTrial_7 ?_
      refine lv_icmp_ge (tgt := 41) hx hb dX9_tallyTrial_10 (by decide) (fun c1 => ?_) (fun c1 => ?_)
      · have h := it_p h c1
        have h := sm_x h
        rw [← h] at hk1
        have h := sm_x hk1
        exact RT H locs _ 41 ls X h dX9_tallyTrial_41
      · have h := it_n h c1
        refine lv_aload_n hx hb dX9_tallyTrial_13 rfl (lv_at hl 0 rfl) ?_
        refine gf_X9_67 F X qC0 dX9_tallyTrial_14 ?_
        refine lv_iload_n hx hb dX9_tallyTrial_17 rfl (lv_at hl 1 rfl) ?_
        refine lv_iconst (v := 5) hx hb dX9_tallyTrial_18 (by decide) ?_
        refine lv_imul hx hb dX9_tallyTrial_19 ?_
        refine lv_aload_n hx hb dX9_tallyTrial_20 rfl (lv_at hl 0 rfl) ?_
        refine gf_X9_38 F X qC0 dX9_tallyTrial_21 ?_
        refine gf_X9_410 F X qC6 dX9_tallyTrial_24 ?_
        refine lv_iload_n hx hb dX9_tallyTrial_27 rfl (lv_at hl 1 rfl) ?_
        obtain ⟨hin, h⟩ := gd_x h
        refine r_iald F X (ar_X6_2 qC6) hin dX9_tallyTrial_28 ?_
        refine lv_iadd hx hb dX9_tallyTrial_29 ?_
        refine lv_dup2_11 hx hb dX9_tallyTrial_30 rfl rfl ?_
        obtain ⟨hin, h⟩ := gd_x h
        refine r_iald F X (ar_X9_9 qC0) hin dX9_tallyTrial_31 ?_
        refine lv_iconst (v := 1) hx hb dX9_tallyTrial_32 (by decide) ?_
        refine lv_iadd hx hb dX9_tallyTrial_33 ?_
        obtain ⟨hin, h⟩ := gd_x h
        obtain ⟨M2, eM2, h⟩ := nm_x h
        refine r_iast F X (ar_X9_9 qC0) hin dX9_tallyTrial_34 (fun H locs X => ?_)
        have X := Wd_eq eM2 X
        obtain ⟨u3, eu3, h⟩ := nm_x h
        refine lv_iinc (v := u3) (lv' := [(1, .int u3), (0, .ref (ad (cO GC 0)))]) hx hb dX9_tallyTrial_35 hl (k := 1) rfl (by rw [eu3]; rfl) (by decide) rfl (fun ls hl => ?_)
        refine lv_goto (tgt := 2) hx hb dX9_tallyTrial_38 (by decide) ?_
        rw [← sm_x h] at hk1
        exact ih2 _ _ u3 M2 ls X (lv_sub hl [1, 0] rfl)  () hk1
  have h := hz
  unfold fX9_tallyTrial at h
  refine lv_iconst (v := 0) hx hb dX9_tallyTrial_0 (by decide) ?_
  obtain ⟨u4, eu4, h⟩ := nm_x h
  refine topE eu4 ?_
  refine lv_istore_n (lv' := [(1, .int u4), (0, .ref (ad (cO GC 0)))]) hx hb dX9_tallyTrial_1 rfl hl (by decide) rfl (fun ls hl => ?_)
  exact L2 FU _ _ u4 M ls X (lv_sub hl [1, 0] rfl)  () h

/-! ===== X9_mostAlike ===== -/
def fX9_mostAlike_4 (M : Mem) (a1 : Int32) (x2 : Int32) (x3 : Int32) : Option ((Int32 × Int32) ⊕ Int32) :=
  if 5 ≤ x3 then
    some (.inr x2)
  else
    gd (inB ((a1 * (5 : Int32)) + x3) 100) <|
    nm (imax x2 (M 0 9 (Int32.toNatClampNeg ((a1 * (5 : Int32)) + x3))) : Int32) fun u2 =>
    nm (x3 + 1 : Int32) fun u3 =>
    some (.inl (u2, u3))
def fX9_mostAlike (M : Mem) (a1 : Int32) : Option Int32 :=
  nm (0 : Int32) fun u4 =>
  nm (0 : Int32) fun u5 =>
  lpO (fun st => fX9_mostAlike_4 M a1 st.1 st.2) FU (u4, u5)
set_option maxHeartbeats 4000000 in
set_option maxRecDepth 100000 in
theorem kX9_mostAlike (l : Launch) (D : va_G) (ad : Nat → Nat) (cs : Nat → ClassId) (A : Nat → Prop)  (M : Mem) (a1 : Int32) (z : Int32) (hz : fX9_mostAlike M a1 = some z) : Met l yX9_mostAlike (wsU yX9_mostAlike cX9_mostAlike 4 (some .int)) (rmo 1 64) (va_Pc [.ref (ad (cO GC 0)), .int a1] (Wd0 D ad cs GC A M)) (va_Qi (fun r u => (r, u) = (z, M)) (Wd0 D ad cs GC A) A) 0 0 A := by
  refine ct_i0 (by decide) rfl okGC (Nat.le_of_ble_eq_true rfl) ?_
  intro p e s m args below meth c Q ls F X hl RT
  have hx := F.1
  have hb := F.2.1
  have hl : lv_has ls 4 [(0, .ref (ad (cO GC 0))), (1, .int a1)] := hl
  obtain ⟨H, hH⟩ : ∃ H, H = s.heap := ⟨_, rfl⟩
  rw [← hH] at X ⊢
  obtain ⟨locs, hlocs⟩ : ∃ locs : List Loc, locs = [] := ⟨_, rfl⟩
  rw [← hlocs] at X ⊢
  clear hH hlocs
  have L4 : ∀ (n : Nat) (H : Heap) (locs : List Loc) (x2 : Int32) (x3 : Int32) (ls : Array Slot), Wd D ad cs GC A s H locs M → lv_has ls 4 [(0, .ref (ad (cO GC 0))), (1, .int a1), (2, .int x2), (3, .int x3)] → ∀ (_ : Unit), lpO (fun st => fX9_mostAlike_4 M a1 st.1 st.2) n (x2, x3) = some z → W p l e (rmo 1 64) s m args below meth c H locs 0 0 Q (F0 m 4 ls []) := by
    intro n
    induction n with
    | zero =>
      intro H locs x2 x3 ls X hl  yy h
      exact lp_0 h
    | succ n1 ih4 =>
      intro H locs x2 x3 ls X hl  _u h
      obtain ⟨y1, h, hk1⟩ := lp_x h
      unfold fX9_mostAlike_4 at h
      refine lv_iload_n hx hb dX9_mostAlike_4 rfl (lv_at hl 3 rfl) ?_
      refine lv_iconst (v := 5) hx hb dX9_mostAlike_5 (by decide) ?_
      refine lv_icmp_ge (tgt := 30) hx hb dX9_mostAlike_6 (by decide) (fun c1 => ?_) (fun c1 => ?_)
      · have h := it_p h c1
        refine lv_iload_n hx hb dX9_mostAlike_30 rfl (lv_at hl 2 rfl) ?_
        have h := sm_x h
        rw [← h] at hk1
        have h := sm_x hk1
        exact RT H locs _ 31 ls X h dX9_mostAlike_31
      · have h := it_n h c1
        refine lv_iload_n hx hb dX9_mostAlike_9 rfl (lv_at hl 2 rfl) ?_
        refine lv_aload_n hx hb dX9_mostAlike_10 rfl (lv_at hl 0 rfl) ?_
        refine gf_X9_67 F X qC0 dX9_mostAlike_11 ?_
        refine lv_iload_n hx hb dX9_mostAlike_14 rfl (lv_at hl 1 rfl) ?_
        refine lv_iconst (v := 5) hx hb dX9_mostAlike_15 (by decide) ?_
        refine lv_imul hx hb dX9_mostAlike_16 ?_
        refine lv_iload_n hx hb dX9_mostAlike_17 rfl (lv_at hl 3 rfl) ?_
        refine lv_iadd hx hb dX9_mostAlike_18 ?_
        obtain ⟨hin, h⟩ := gd_x h
        refine r_iald F X (ar_X9_9 qC0) hin dX9_mostAlike_19 ?_
        refine r_mmax F hl.1 (mT3 172 rfl rfl) (mT3 173 rfl rfl) (mT1 14 rfl rfl) (mT3 174 rfl rfl) (Nat.le_of_ble_eq_true rfl) (Nat.le_of_ble_eq_true rfl) dX9_mostAlike_20 ?_
        obtain ⟨u2, eu2, h⟩ := nm_x h
        refine topE eu2 ?_
        refine lv_istore_n (lv' := [(2, .int u2), (0, .ref (ad (cO GC 0))), (1, .int a1), (3, .int x3)]) hx hb dX9_mostAlike_23 rfl hl (by decide) rfl (fun ls hl => ?_)
        obtain ⟨u3, eu3, h⟩ := nm_x h
        refine lv_iinc (v := u3) (lv' := [(3, .int u3), (2, .int u2), (0, .ref (ad (cO GC 0))), (1, .int a1)]) hx hb dX9_mostAlike_24 hl (k := 3) rfl (by rw [eu3]; rfl) (by decide) rfl (fun ls hl => ?_)
        refine lv_goto (tgt := 4) hx hb dX9_mostAlike_27 (by decide) ?_
        rw [← sm_x h] at hk1
        exact ih4 _ _ u2 u3 ls X (lv_sub hl [2, 3, 1, 0] rfl)  () hk1
  have h := hz
  unfold fX9_mostAlike at h
  refine lv_iconst (v := 0) hx hb dX9_mostAlike_0 (by decide) ?_
  obtain ⟨u4, eu4, h⟩ := nm_x h
  refine topE eu4 ?_
  refine lv_istore_n (lv' := [(2, .int u4), (0, .ref (ad (cO GC 0))), (1, .int a1)]) hx hb dX9_mostAlike_1 rfl hl (by decide) rfl (fun ls hl => ?_)
  refine lv_iconst (v := 0) hx hb dX9_mostAlike_2 (by decide) ?_
  obtain ⟨u5, eu5, h⟩ := nm_x h
  refine topE eu5 ?_
  refine lv_istore_n (lv' := [(3, .int u5), (2, .int u4), (0, .ref (ad (cO GC 0))), (1, .int a1)]) hx hb dX9_mostAlike_3 rfl hl (by decide) rfl (fun ls hl => ?_)
  exact L4 FU _ _ u4 u5 ls X (lv_sub hl [2, 3, 1, 0] rfl)  () h

/-! ===== X9_ask ===== -/
def fX9_ask_122 (a1 : Int32) (x2 : Int32) (x3 : Int32) (x4 : Int32) (M : Mem) : Option ((Int32 × Int32 × Int32 × Mem) ⊕ (Int32 × Mem)) :=
  nm (x4 + 1 : Int32) fun u1 =>
  some (.inl (x2, x3, u1, M))
def fX9_ask_90 (a1 : Int32) (x2 : Int32) (x3 : Int32) (x4 : Int32) (M : Mem) : Option ((Int32 × Int32 × Int32 × Mem) ⊕ (Int32 × Mem)) :=
  if (M 3 6 0) ≤ x4 then
    some (.inr (x2, M))
  else
    (fX9_mostAlike M x4).bind fun r3 =>
    nm (r3 : Int32) fun u4 =>
    (if x3 ≤ u4 then
      fX9_ask_122 a1 x2 x3 x4 M
    else
      nm (u4 : Int32) fun u6 =>
      nm (x4 : Int32) fun u7 =>
      fX9_ask_122 a1 u7 u6 x4 M)
def fX9_ask_82 (a1 : Int32) (M : Mem) : Option (Int32 × Mem) :=
  nm ((-1) : Int32) fun u8 =>
  nm (11 : Int32) fun u9 =>
  nm (0 : Int32) fun u10 =>
  lpO (fun st => fX9_ask_90 a1 st.1 st.2.1 st.2.2.1 st.2.2.2) FU (u8, u9, u10, M)
def fX9_ask_76 (a1 : Int32) (x2 : Int32) (M : Mem) : Option ((Int32 × Mem) ⊕ (Int32 × Mem)) :=
  nm (x2 + 1 : Int32) fun u11 =>
  some (.inl (u11, M))
def fX9_ask_32 (a1 : Int32) (x2 : Int32) (M : Mem) : Option ((Int32 × Mem) ⊕ (Int32 × Mem)) :=
  if 10 ≤ x2 then
    inr' (fX9_ask_82 a1 M)
  else
    gd (inB a1 8) <|
    nm (wr M 7 2 (Int32.toNatClampNeg a1) x2) fun M13 =>
    (fX6_run M13).bind fun r14 =>
    (fX8_agrees r14).bind fun r15 =>
    (if r15 = 0 then
      fX9_ask_76 a1 x2 r14
    else
      (fX9_tallyTrial r14).bind fun r17 =>
      fX9_ask_76 a1 x2 r17)
def fX9_ask (M : Mem) (a1 : Int32) : Option (Int32 × Mem) :=
  (fX9_isHeir M a1).bind fun r18 =>
  (if r18 = 0 then
    some ((-2), M)
  else
    (fJ7_fill_53178 0 9 100 M 0).bind fun r20 =>
    (fX6_prepare 3 r20).bind fun r21 =>
    nm (0 : Int32) fun u22 =>
    lpO (fun st => fX9_ask_32 a1 st.1 st.2) FU (u22, r21))
set_option maxHeartbeats 4000000 in
set_option maxRecDepth 100000 in
theorem kX9_ask (l : Launch) (D : va_G) (ad : Nat → Nat) (cs : Nat → ClassId) (A : Nat → Prop)  (M : Mem) (a1 : Int32) (z : (Int32 × Mem)) (hz : fX9_ask M a1 = some z) : Met l yX9_ask (wsU yX9_ask cX9_ask 6 (some .int)) (rmo 5 155) (va_Pc [.ref (ad (cO GC 0)), .int a1] (Wd0 D ad cs GC A M)) (va_Qi (fun r u => (r, u) = z) (Wd0 D ad cs GC A) A) 0 0 A := by
  refine ct_i (by decide) rfl okGC (Nat.le_of_ble_eq_true rfl) ?_
  intro p e s m args below meth c Q ls F X hl RT
  have hx := F.1
  have hb := F.2.1
  have hl : lv_has ls 6 [(0, .ref (ad (cO GC 0))), (1, .int a1)] := hl
  obtain ⟨H, hH⟩ : ∃ H, H = s.heap := ⟨_, rfl⟩
  rw [← hH] at X ⊢
  obtain ⟨locs, hlocs⟩ : ∃ locs : List Loc, locs = [] := ⟨_, rfl⟩
  rw [← hlocs] at X ⊢
  clear hH hlocs
  have L90 : ∀ (n : Nat) (H : Heap) (locs : List Loc) (x2 : Int32) (x3 : Int32) (x4 : Int32) (M : Mem) (ls : Array Slot), Wd D ad cs GC A s H locs M → lv_has ls 6 [(0, .ref (ad (cO GC 0))), (2, .int x2), (3, .int x3), (4, .int x4)] → ∀ (_ : Unit), lpO (fun st => fX9_ask_90 a1 st.1 st.2.1 st.2.2.1 st.2.2.2) n (x2, x3, x4, M) = some z → W p l e (rmo 5 155) s m args below meth c H locs 0 0 Q (F0 m 90 ls []) := by
    intro n
    induction n with
    | zero =>
      intro H locs x2 x3 x4 M ls X hl  yy h
      exact lp_0 h
    | succ n1 ih90 =>
      intro H locs x2 x3 x4 M ls X hl  _u h
      obtain ⟨y1, h, hk1⟩ := lp_x h
      have J122 : ∀ (H : Heap) (locs : List Loc) (x2 : Int32) (x3 : Int32) (x4 : Int32) (M : Mem) (ls : Array Slot), Wd D ad cs GC A s H locs M → lv_has ls 6 [(0, .ref (ad (cO GC 0))), (2, .int x2), (3, .int x3), (4, .int x4)] → ∀ (y1 : ((Int32 × Int32 × Int32 × Mem) ⊕ (Int32 × Mem))), fX9_ask_122 a1 x2 x3 x4 M = some y1 → lpK (fun st => fX9_ask_90 a1 st.1 st.2.1 st.2.2.1 st.2.2.2) n1 y1 = some z → W p l e (rmo 5 155) s m args below meth c H locs 0 0 Q (F0 m 122 ls []) := by
        intro H locs x2 x3 x4 M ls X hl  y1 h hk1
        unfold fX9_ask_122 at h
        obtain ⟨u1, eu1, h⟩ := nm_x h
        refine lv_iinc (v := u1) (lv' := [(4, .int u1), (0, .ref (ad (cO GC 0))), (2, .int x2), (3, .int x3)]) hx hb dX9_ask_122 hl (k := 3) rfl (by rw [eu1]; rfl) (by decide) rfl (fun ls hl => ?_)
        refine lv_goto (tgt := 90) hx hb dX9_ask_125 (by decide) ?_
        rw [← sm_x h] at hk1
        exact ih90 _ _ x2 x3 u1 M ls X (lv_sub hl [1, 2, 3, 0] rfl)  () hk1
      unfold fX9_ask_90 at h
      refine lv_iload hx hb dX9_ask_90 (lv_at hl 3 rfl) ?_
      refine lv_aload_n hx hb dX9_ask_92 rfl (lv_at hl 0 rfl) ?_
      refine gf_X9_24 F X qC0 dX9_ask_93 ?_
      refine gf_X9_144 F X qC3 dX9_ask_96 ?_
      refine lv_icmp_ge (tgt := 128) hx hb dX9_ask_99 (by decide) (fun c2 => ?_) (fun c2 => ?_)
      · have h := it_p h c2
        refine lv_iload_n hx hb dX9_ask_128 rfl (lv_at hl 1 rfl) ?_
        have h := sm_x h
        rw [← h] at hk1
        have h := sm_x hk1
        exact RT H locs _ _ 129 ls X h dX9_ask_129
      · have h := it_n h c2
        refine lv_aload_n hx hb dX9_ask_102 rfl (lv_at hl 0 rfl) ?_
        refine lv_iload hx hb dX9_ask_103 (lv_at hl 3 rfl) ?_
        obtain ⟨r3, hr3, h⟩ := bd_x h
        refine r_calli0 X (r_runV F X (kX9_mostAlike l D ad cs A  M x4 _ hr3) gm_X9_276 hd_X9_mostAlike ⟨Nat.le_of_ble_eq_true rfl, Nat.le_of_ble_eq_true rfl⟩ qC0 rfl rfl hl.1 rfl (Nat.le_of_ble_eq_true rfl) dX9_ask_105) (fun H locs X => ?_)
        obtain ⟨u4, eu4, h⟩ := nm_x h
        refine topE eu4 ?_
        refine lv_istore (lv' := [(5, .int u4), (0, .ref (ad (cO GC 0))), (2, .int x2), (3, .int x3), (4, .int x4)]) hx hb dX9_ask_108 hl (by decide) rfl (fun ls hl => ?_)
        refine lv_iload hx hb dX9_ask_110 (lv_at hl 0 rfl) ?_
        refine lv_iload_n hx hb dX9_ask_112 rfl (lv_at hl 3 rfl) ?_
        refine lv_icmp_ge (tgt := 122) hx hb dX9_ask_113 (by decide) (fun c5 => ?_) (fun c5 => ?_)
        · have h := it_p h c5
          exact J122 _ _ x2 x3 x4 M ls X (lv_sub hl [1, 2, 3, 4] rfl)  _ h hk1
        · have h := it_n h c5
          refine lv_iload hx hb dX9_ask_116 (lv_at hl 0 rfl) ?_
          obtain ⟨u6, eu6, h⟩ := nm_x h
          refine topE eu6 ?_
          refine lv_istore_n (lv' := [(3, .int u6), (5, .int u4), (0, .ref (ad (cO GC 0))), (2, .int x2), (4, .int x4)]) hx hb dX9_ask_118 rfl hl (by decide) rfl (fun ls hl => ?_)
          refine lv_iload hx hb dX9_ask_119 (lv_at hl 4 rfl) ?_
          obtain ⟨u7, eu7, h⟩ := nm_x h
          refine topE eu7 ?_
          refine lv_istore_n (lv' := [(2, .int u7), (3, .int u6), (5, .int u4), (0, .ref (ad (cO GC 0))), (4, .int x4)]) hx hb dX9_ask_121 rfl hl (by decide) rfl (fun ls hl => ?_)
          exact J122 _ _ u7 u6 x4 M ls X (lv_sub hl [3, 0, 1, 4] rfl)  _ h hk1
  have J82 : ∀ (H : Heap) (locs : List Loc) (M : Mem) (ls : Array Slot), Wd D ad cs GC A s H locs M → lv_has ls 6 [(0, .ref (ad (cO GC 0)))] → ∀ (_ : Unit), fX9_ask_82 a1 M = some z → W p l e (rmo 5 155) s m args below meth c H locs 0 0 Q (F0 m 82 ls []) := by
    intro H locs M ls X hl  _u h
    unfold fX9_ask_82 at h
    refine lv_iconst (v := (-1)) hx hb dX9_ask_82 (by decide) ?_
    obtain ⟨u8, eu8, h⟩ := nm_x h
    refine topE eu8 ?_
    refine lv_istore_n (lv' := [(2, .int u8), (0, .ref (ad (cO GC 0)))]) hx hb dX9_ask_83 rfl hl (by decide) rfl (fun ls hl => ?_)
    refine lv_bipush (v := 11) hx hb dX9_ask_84 (by decide) ?_
    obtain ⟨u9, eu9, h⟩ := nm_x h
    refine topE eu9 ?_
    refine lv_istore_n (lv' := [(3, .int u9), (2, .int u8), (0, .ref (ad (cO GC 0)))]) hx hb dX9_ask_86 rfl hl (by decide) rfl (fun ls hl => ?_)
    refine lv_iconst (v := 0) hx hb dX9_ask_87 (by decide) ?_
    obtain ⟨u10, eu10, h⟩ := nm_x h
    refine topE eu10 ?_
    refine lv_istore (lv' := [(4, .int u10), (3, .int u9), (2, .int u8), (0, .ref (ad (cO GC 0)))]) hx hb dX9_ask_88 hl (by decide) rfl (fun ls hl => ?_)
    exact L90 FU _ _ u8 u9 u10 M ls X (lv_sub hl [3, 2, 1, 0] rfl)  () h
  have L32 : ∀ (n : Nat) (H : Heap) (locs : List Loc) (x2 : Int32) (M : Mem) (ls : Array Slot), Wd D ad cs GC A s H locs M → lv_has ls 6 [(0, .ref (ad (cO GC 0))), (1, .int a1), (2, .int x2)] → ∀ (_ : Unit), lpO (fun st => fX9_ask_32 a1 st.1 st.2) n (x2, M) = some z → W p l e (rmo 5 155) s m args below meth c H locs 0 0 Q (F0 m 32 ls []) := by
    intro n
    induction n with
    | zero =>
      intro H locs x2 M ls X hl  yy h
      exact lp_0 h
    | succ n1 ih32 =>
      intro H locs x2 M ls X hl  _u h
      obtain ⟨y1, h, hk1⟩ := lp_x h
      have J76 : ∀ (H : Heap) (locs : List Loc) (x2 : Int32) (M : Mem) (ls : Array Slot), Wd D ad cs GC A s H locs M → lv_has ls 6 [(0, .ref (ad (cO GC 0))), (1, .int a1), (2, .int x2)] → ∀ (y1 : ((Int32 × Mem) ⊕ (Int32 × Mem))), fX9_ask_76 a1 x2 M = some y1 → lpK (fun st => fX9_ask_32 a1 st.1 st.2) n1 y1 = some z → W p l e (rmo 5 155) s m args below meth c H locs 0 0 Q (F0 m 76 ls []) := by
        intro H locs x2 M ls X hl  y1 h hk1
        unfold fX9_ask_76 at h
        obtain ⟨u11, eu11, h⟩ := nm_x h
        refine lv_iinc (v := u11) (lv' := [(2, .int u11), (0, .ref (ad (cO GC 0))), (1, .int a1)]) hx hb dX9_ask_76 hl (k := 2) rfl (by rw [eu11]; rfl) (by decide) rfl (fun ls hl => ?_)
        refine lv_goto (tgt := 32) hx hb dX9_ask_79 (by decide) ?_
        rw [← sm_x h] at hk1
        exact ih32 _ _ u11 M ls X (lv_sub hl [1, 2, 0] rfl)  () hk1
      unfold fX9_ask_32 at h
      refine lv_iload_n hx hb dX9_ask_32 rfl (lv_at hl 2 rfl) ?_
      refine lv_bipush (v := 10) hx hb dX9_ask_33 (by decide) ?_
      refine lv_icmp_ge (tgt := 82) hx hb dX9_ask_35 (by decide) (fun c12 => ?_) (fun c12 => ?_)
      · have h := it_p h c12
        obtain ⟨_, h, ey⟩ := inr_x h
        rw [ey] at hk1
        have h := h.trans (congrArg some (sm_x hk1))
        exact J82 _ _ M ls X (lv_sub hl [0] rfl)  () h
      · have h := it_n h c12
        refine lv_aload_n hx hb dX9_ask_38 rfl (lv_at hl 0 rfl) ?_
        refine gf_X9_38 F X qC0 dX9_ask_39 ?_
        refine gf_X9_224 F X qC6 dX9_ask_42 ?_
        refine gf_X9_141 F X qC7 dX9_ask_45 ?_
        refine lv_iload_n hx hb dX9_ask_48 rfl (lv_at hl 1 rfl) ?_
        refine lv_iload_n hx hb dX9_ask_49 rfl (lv_at hl 2 rfl) ?_
        obtain ⟨hin, h⟩ := gd_x h
        obtain ⟨M13, eM13, h⟩ := nm_x h
        refine r_iast F X (ar_X2_2 qC7) hin dX9_ask_50 (fun H locs X => ?_)
        have X := Wd_eq eM13 X
        refine lv_aload_n hx hb dX9_ask_51 rfl (lv_at hl 0 rfl) ?_
        refine gf_X9_38 F X qC0 dX9_ask_52 ?_
        obtain ⟨r14, hr14, h⟩ := bd_x h
        refine r_callv X (r_runV F X (kX6_run l D ad cs A  M13  _ hr14) gm_X9_225 hd_X6_run ⟨Nat.le_of_ble_eq_true rfl, Nat.le_of_ble_eq_true rfl⟩ qC6 rfl rfl hl.1 rfl (Nat.le_of_ble_eq_true rfl) dX9_ask_55) (fun H locs X => ?_)
        refine lv_aload_n hx hb dX9_ask_58 rfl (lv_at hl 0 rfl) ?_
        refine gf_X9_52 F X qC0 dX9_ask_59 ?_
        refine lv_aload_n hx hb dX9_ask_62 rfl (lv_at hl 0 rfl) ?_
        refine gf_X9_38 F X qC0 dX9_ask_63 ?_
        obtain ⟨r15, hr15, h⟩ := bd_x h
        refine r_calli0 X (r_runV F X (kX8_agrees l D ad cs A  r14  _ hr15) gm_X9_263 hd_X8_agrees ⟨Nat.le_of_ble_eq_true rfl, Nat.le_of_ble_eq_true rfl⟩ qC10 rfl rfl hl.1 rfl (Nat.le_of_ble_eq_true rfl) dX9_ask_66) (fun H locs X => ?_)
        refine lv_if_eq (tgt := 76) hx hb dX9_ask_69 (by decide) (fun c16 => ?_) (fun c16 => ?_)
        · have h := it_p h c16
          exact J76 _ _ x2 r14 ls X (lv_sub hl [0, 1, 2] rfl)  _ h hk1
        · have h := it_n h c16
          refine lv_aload_n hx hb dX9_ask_72 rfl (lv_at hl 0 rfl) ?_
          obtain ⟨r17, hr17, h⟩ := bd_x h
          refine r_callv X (r_runV F X (kX9_tallyTrial l D ad cs A  r14  _ hr17) gm_X9_273 hd_X9_tallyTrial ⟨Nat.le_of_ble_eq_true rfl, Nat.le_of_ble_eq_true rfl⟩ qC0 rfl rfl hl.1 rfl (Nat.le_of_ble_eq_true rfl) dX9_ask_73) (fun H locs X => ?_)
          exact J76 _ _ x2 r17 ls X (lv_sub hl [0, 1, 2] rfl)  _ h hk1
  have h := hz
  unfold fX9_ask at h
  refine lv_aload_n hx hb dX9_ask_0 rfl (lv_at hl 0 rfl) ?_
  refine lv_iload_n hx hb dX9_ask_1 rfl (lv_at hl 1 rfl) ?_
  obtain ⟨r18, hr18, h⟩ := bd_x h
  refine r_calli0 X (r_runV F X (kX9_isHeir l D ad cs A  M a1 _ hr18) gm_X9_132 hd_X9_isHeir ⟨Nat.le_of_ble_eq_true rfl, Nat.le_of_ble_eq_true rfl⟩ qC0 rfl rfl hl.1 rfl (Nat.le_of_ble_eq_true rfl) dX9_ask_2) (fun H locs X => ?_)
  refine lv_if_ne (tgt := 11) hx hb dX9_ask_5 (by decide) (fun c19 => ?_) (fun c19 => ?_)
  · have h := it_n h c19
    refine lv_aload_n hx hb dX9_ask_11 rfl (lv_at hl 0 rfl) ?_
    refine gf_X9_67 F X qC0 dX9_ask_12 ?_
    refine lv_iconst (v := 0) hx hb dX9_ask_15 (by decide) ?_
    obtain ⟨r20, hr20, h⟩ := bd_x h
    refine r_callv X (r_runS F X (kJ7_fill_53178 l D ad cs A (ar_X9_9 qC0) M 0 _ hr20) gm_X9_267 hd_J7_fill_53178 ⟨Nat.le_of_ble_eq_true rfl, Nat.le_of_ble_eq_true rfl⟩ rfl hl.1 rfl (Nat.le_of_ble_eq_true rfl) dX9_ask_16) (fun H locs X => ?_)
    refine lv_aload_n hx hb dX9_ask_19 rfl (lv_at hl 0 rfl) ?_
    refine gf_X9_38 F X qC0 dX9_ask_20 ?_
    refine lv_aload_n hx hb dX9_ask_23 rfl (lv_at hl 0 rfl) ?_
    refine gf_X9_24 F X qC0 dX9_ask_24 ?_
    obtain ⟨r21, hr21, h⟩ := bd_x h
    refine r_callv X (r_runV F X (kX6_prepare l D ad cs A qC3 r20  _ hr21) gm_X9_220 hd_X6_prepare ⟨Nat.le_of_ble_eq_true rfl, Nat.le_of_ble_eq_true rfl⟩ qC6 rfl rfl hl.1 rfl (Nat.le_of_ble_eq_true rfl) dX9_ask_27) (fun H locs X => ?_)
    refine lv_iconst (v := 0) hx hb dX9_ask_30 (by decide) ?_
    obtain ⟨u22, eu22, h⟩ := nm_x h
    refine topE eu22 ?_
    refine lv_istore_n (lv' := [(2, .int u22), (0, .ref (ad (cO GC 0))), (1, .int a1)]) hx hb dX9_ask_31 rfl hl (by decide) rfl (fun ls hl => ?_)
    exact L32 FU _ _ u22 r21 ls X (lv_sub hl [1, 2, 0] rfl)  () h
  · have h := it_p h c19
    refine lv_bipush (v := (-2)) hx hb dX9_ask_8 (by decide) ?_
    have h := sm_x h
    exact RT H locs _ _ 10 ls X h dX9_ask_10

/-! ===== X9_tellRichestBySet ===== -/
def fX9_tellRichestBySet_21  (x1 : Int32) (M : Mem) : Option ((Int32 × Mem) ⊕ Mem) :=
  if ((1 : Int32) <<< ((M 9 1 0) &&& 31)) ≤ x1 then
    nm (wr M 0 12 0 1) fun M2 =>
    some (.inr M2)
  else
    (fX1_stopsOf M x1).bind fun r3 =>
    nm (wr M 7 7 0 r3) fun M4 =>
    (fX6_run M4).bind fun r5 =>
    (fX7_richestHeir 8 r5).bind fun r6 =>
    gd (inB x1 64) <|
    nm (wr r5 0 8 (Int32.toNatClampNeg x1) r6) fun M7 =>
    nm (x1 + 1 : Int32) fun u8 =>
    some (.inl (u8, M7))
def fX9_tellRichestBySet (M : Mem) : Option Mem :=
  if (M 0 12 0) = 0 then
    (fX6_prepare 3 M).bind fun r10 =>
    nm (0 : Int32) fun u11 =>
    lpO (fun st => fX9_tellRichestBySet_21 st.1 st.2) FU (u11, r10)
  else
    some M
set_option maxHeartbeats 4000000 in
set_option maxRecDepth 100000 in
theorem kX9_tellRichestBySet (l : Launch) (D : va_G) (ad : Nat → Nat) (cs : Nat → ClassId) (A : Nat → Prop)  (M : Mem)  (z : Mem) (hz : fX9_tellRichestBySet M = some z) : Met l yX9_tellRichestBySet (wsU yX9_tellRichestBySet cX9_tellRichestBySet 2 none) (rmo 5 155) (va_Pc [.ref (ad (cO GC 0))] (Wd0 D ad cs GC A M)) (va_Qv (fun u => u = z) (Wd0 D ad cs GC A) A) 0 0 A := by
  refine ct_v (by decide) rfl okGC (Nat.le_of_ble_eq_true rfl) ?_
  intro p e s m args below meth c Q ls F X hl RT
  have hx := F.1
  have hb := F.2.1
  have hl : lv_has ls 2 [(0, .ref (ad (cO GC 0)))] := hl
  obtain ⟨H, hH⟩ : ∃ H, H = s.heap := ⟨_, rfl⟩
  rw [← hH] at X ⊢
  obtain ⟨locs, hlocs⟩ : ∃ locs : List Loc, locs = [] := ⟨_, rfl⟩
  rw [← hlocs] at X ⊢
  clear hH hlocs
  have L21 : ∀ (n : Nat) (H : Heap) (locs : List Loc) (x1 : Int32) (M : Mem) (ls : Array Slot), Wd D ad cs GC A s H locs M → lv_has ls 2 [(0, .ref (ad (cO GC 0))), (1, .int x1)] → ∀ (_ : Unit), lpO (fun st => fX9_tellRichestBySet_21 st.1 st.2) n (x1, M) = some z → W p l e (rmo 5 155) s m args below meth c H locs 0 0 Q (F0 m 21 ls []) := by
    intro n
    induction n with
    | zero =>
      intro H locs x1 M ls X hl  yy h
      exact lp_0 h
    | succ n1 ih21 =>
      intro H locs x1 M ls X hl  _u h
      obtain ⟨y1, h, hk1⟩ := lp_x h
      unfold fX9_tellRichestBySet_21 at h
      refine lv_iload_n hx hb dX9_tellRichestBySet_21 rfl (lv_at hl 1 rfl) ?_
      refine lv_iconst (v := 1) hx hb dX9_tellRichestBySet_22 (by decide) ?_
      refine lv_aload_n hx hb dX9_tellRichestBySet_23 rfl (lv_at hl 0 rfl) ?_
      refine gf_X9_45 F X qC0 dX9_tellRichestBySet_24 ?_
      refine gf_X9_156 F X qC9 dX9_tellRichestBySet_27 ?_
      refine lv_ishl hx hb dX9_tellRichestBySet_30 ?_
      refine lv_icmp_ge (tgt := 81) hx hb dX9_tellRichestBySet_31 (by decide) (fun c1 => ?_) (fun c1 => ?_)
      · have h := it_p h c1
        refine lv_aload_n hx hb dX9_tellRichestBySet_81 rfl (lv_at hl 0 rfl) ?_
        refine lv_iconst (v := 1) hx hb dX9_tellRichestBySet_82 (by decide) ?_
        obtain ⟨M2, eM2, h⟩ := nm_x h
        refine pf_X9_80 F X qC0 (by decide) dX9_tellRichestBySet_83 (fun H locs X => ?_)
        have X := Wd_eq eM2 X
        have h := sm_x h
        rw [← h] at hk1
        have h := sm_x hk1
        exact RT H locs _ 86 ls X h dX9_tellRichestBySet_86
      · have h := it_n h c1
        refine lv_aload_n hx hb dX9_tellRichestBySet_34 rfl (lv_at hl 0 rfl) ?_
        refine gf_X9_38 F X qC0 dX9_tellRichestBySet_35 ?_
        refine gf_X9_224 F X qC6 dX9_tellRichestBySet_38 ?_
        refine lv_aload_n hx hb dX9_tellRichestBySet_41 rfl (lv_at hl 0 rfl) ?_
        refine gf_X9_45 F X qC0 dX9_tellRichestBySet_42 ?_
        refine lv_iload_n hx hb dX9_tellRichestBySet_45 rfl (lv_at hl 1 rfl) ?_
        obtain ⟨r3, hr3, h⟩ := bd_x h
        refine r_calli0 X (r_runV F X (kX1_stopsOf l D ad cs A  M x1 _ hr3) gm_X9_404 hd_X1_stopsOf ⟨Nat.le_of_ble_eq_true rfl, Nat.le_of_ble_eq_true rfl⟩ qC9 rfl rfl hl.1 rfl (Nat.le_of_ble_eq_true rfl) dX9_tellRichestBySet_46) (fun H locs X => ?_)
        obtain ⟨M4, eM4, h⟩ := nm_x h
        refine pf_X9_260 F X qC7 dX9_tellRichestBySet_49 (fun H locs X => ?_)
        have X := Wd_eq eM4 X
        refine lv_aload_n hx hb dX9_tellRichestBySet_52 rfl (lv_at hl 0 rfl) ?_
        refine gf_X9_38 F X qC0 dX9_tellRichestBySet_53 ?_
        obtain ⟨r5, hr5, h⟩ := bd_x h
        refine r_callv X (r_runV F X (kX6_run l D ad cs A  M4  _ hr5) gm_X9_225 hd_X6_run ⟨Nat.le_of_ble_eq_true rfl, Nat.le_of_ble_eq_true rfl⟩ qC6 rfl rfl hl.1 rfl (Nat.le_of_ble_eq_true rfl) dX9_tellRichestBySet_56) (fun H locs X => ?_)
        refine lv_aload_n hx hb dX9_tellRichestBySet_59 rfl (lv_at hl 0 rfl) ?_
        refine gf_X9_63 F X qC0 dX9_tellRichestBySet_60 ?_
        refine lv_iload_n hx hb dX9_tellRichestBySet_63 rfl (lv_at hl 1 rfl) ?_
        refine lv_aload_n hx hb dX9_tellRichestBySet_64 rfl (lv_at hl 0 rfl) ?_
        refine gf_X9_38 F X qC0 dX9_tellRichestBySet_65 ?_
        refine gf_X9_228 F X qC6 dX9_tellRichestBySet_68 ?_
        obtain ⟨r6, hr6, h⟩ := bd_x h
        refine r_calli0 X (r_runV F X (kX7_richestHeir l D ad cs A qC8 r5  _ hr6) gm_X9_211 hd_X7_richestHeir ⟨Nat.le_of_ble_eq_true rfl, Nat.le_of_ble_eq_true rfl⟩ qC8 rfl rfl hl.1 rfl (Nat.le_of_ble_eq_true rfl) dX9_tellRichestBySet_71) (fun H locs X => ?_)
        obtain ⟨hin, h⟩ := gd_x h
        obtain ⟨M7, eM7, h⟩ := nm_x h
        refine r_iast F X (ar_X9_8 qC0) hin dX9_tellRichestBySet_74 (fun H locs X => ?_)
        have X := Wd_eq eM7 X
        obtain ⟨u8, eu8, h⟩ := nm_x h
        refine lv_iinc (v := u8) (lv' := [(1, .int u8), (0, .ref (ad (cO GC 0)))]) hx hb dX9_tellRichestBySet_75 hl (k := 1) rfl (by rw [eu8]; rfl) (by decide) rfl (fun ls hl => ?_)
        refine lv_goto (tgt := 21) hx hb dX9_tellRichestBySet_78 (by decide) ?_
        rw [← sm_x h] at hk1
        exact ih21 _ _ u8 M7 ls X (lv_sub hl [1, 0] rfl)  () hk1
  have h := hz
  unfold fX9_tellRichestBySet at h
  refine lv_aload_n hx hb dX9_tellRichestBySet_0 rfl (lv_at hl 0 rfl) ?_
  refine gf_X9_80 F X qC0 dX9_tellRichestBySet_1 ?_
  refine lv_if_eq (tgt := 8) hx hb dX9_tellRichestBySet_4 (by decide) (fun c9 => ?_) (fun c9 => ?_)
  · have h := it_p h c9
    refine lv_aload_n hx hb dX9_tellRichestBySet_8 rfl (lv_at hl 0 rfl) ?_
    refine gf_X9_38 F X qC0 dX9_tellRichestBySet_9 ?_
    refine lv_aload_n hx hb dX9_tellRichestBySet_12 rfl (lv_at hl 0 rfl) ?_
    refine gf_X9_24 F X qC0 dX9_tellRichestBySet_13 ?_
    obtain ⟨r10, hr10, h⟩ := bd_x h
    refine r_callv X (r_runV F X (kX6_prepare l D ad cs A qC3 M  _ hr10) gm_X9_220 hd_X6_prepare ⟨Nat.le_of_ble_eq_true rfl, Nat.le_of_ble_eq_true rfl⟩ qC6 rfl rfl hl.1 rfl (Nat.le_of_ble_eq_true rfl) dX9_tellRichestBySet_16) (fun H locs X => ?_)
    refine lv_iconst (v := 0) hx hb dX9_tellRichestBySet_19 (by decide) ?_
    obtain ⟨u11, eu11, h⟩ := nm_x h
    refine topE eu11 ?_
    refine lv_istore_n (lv' := [(1, .int u11), (0, .ref (ad (cO GC 0)))]) hx hb dX9_tellRichestBySet_20 rfl hl (by decide) rfl (fun ls hl => ?_)
    exact L21 FU _ _ u11 r10 ls X (lv_sub hl [1, 0] rfl)  () h
  · have h := it_n h c9
    have h := sm_x h
    exact RT H locs _ 7 ls X h dX9_tellRichestBySet_7

/-! ===== X9_weightOf ===== -/
def fX9_weightOf_37 (M : Mem) (a1 : Int32) (a2 : Int32) (x5 : Int32) (v0 : Int64) (v1 : Int64) : Option ((Int64 × Int32) ⊕ Int64) :=
  nm (v1 * v0 : Int64) fun u1 =>
  nm (x5 + 1 : Int32) fun u2 =>
  some (.inl (u1, u2))
def fX9_weightOf_5 (M : Mem) (a1 : Int32) (a2 : Int32) (x3 : Int64) (x5 : Int32) : Option ((Int64 × Int32) ⊕ Int64) :=
  if (M 9 1 0) ≤ x5 then
    some (.inr x3)
  else
    if ((a1 >>> (x5 &&& 31)) &&& (1 : Int32)) = 0 then
      fX9_weightOf_37 M a1 a2 x5 (Int32.toInt64 ((16 : Int32) - a2)) x3
    else
      fX9_weightOf_37 M a1 a2 x5 (Int32.toInt64 a2) x3
def fX9_weightOf (M : Mem) (a1 : Int32) (a2 : Int32) : Option Int64 :=
  nm (1 : Int64) fun u5 =>
  nm (0 : Int32) fun u6 =>
  lpO (fun st => fX9_weightOf_5 M a1 a2 st.1 st.2) FU (u5, u6)
set_option maxHeartbeats 4000000 in
set_option maxRecDepth 100000 in
theorem kX9_weightOf (l : Launch) (D : va_G) (ad : Nat → Nat) (cs : Nat → ClassId) (A : Nat → Prop)  (M : Mem) (a1 : Int32) (a2 : Int32) (z : Int64) (hz : fX9_weightOf M a1 a2 = some z) : Met l yX9_weightOf (wsU yX9_weightOf cX9_weightOf 6 (some .long)) (rmo 1 64) (va_Pc [.ref (ad (cO GC 0)), .int a1, .int a2] (Wd0 D ad cs GC A M)) (va_Ql (fun r u => (r, u) = (z, M)) (Wd0 D ad cs GC A) A) 0 0 A := by
  refine ct_l0 (by decide) rfl okGC (Nat.le_of_ble_eq_true rfl) ?_
  intro p e s m args below meth c Q ls F X hl RT
  have hx := F.1
  have hb := F.2.1
  have hl : lv_has ls 6 [(0, .ref (ad (cO GC 0))), (1, .int a1), (2, .int a2)] := hl
  obtain ⟨H, hH⟩ : ∃ H, H = s.heap := ⟨_, rfl⟩
  rw [← hH] at X ⊢
  obtain ⟨locs, hlocs⟩ : ∃ locs : List Loc, locs = [] := ⟨_, rfl⟩
  rw [← hlocs] at X ⊢
  clear hH hlocs
  have L5 : ∀ (n : Nat) (H : Heap) (locs : List Loc) (x3 : Int64) (x5 : Int32) (ls : Array Slot), Wd D ad cs GC A s H locs M → lv_has ls 6 [(0, .ref (ad (cO GC 0))), (1, .int a1), (2, .int a2), (3, .long x3), (5, .int x5)] → ∀ (_ : Unit), lpO (fun st => fX9_weightOf_5 M a1 a2 st.1 st.2) n (x3, x5) = some z → W p l e (rmo 1 64) s m args below meth c H locs 0 0 Q (F0 m 5 ls []) := by
    intro n
    induction n with
    | zero =>
      intro H locs x3 x5 ls X hl  yy h
      exact lp_0 h
    | succ n1 ih5 =>
      intro H locs x3 x5 ls X hl  _u h
      obtain ⟨y1, h, hk1⟩ := lp_x h
      have J37 : ∀ (H : Heap) (locs : List Loc) (x5 : Int32) (v0 : Int64) (v1 : Int64) (ls : Array Slot), Wd D ad cs GC A s H locs M → lv_has ls 6 [(0, .ref (ad (cO GC 0))), (1, .int a1), (2, .int a2), (5, .int x5)] → ∀ (y1 : ((Int64 × Int32) ⊕ Int64)), fX9_weightOf_37 M a1 a2 x5 v0 v1 = some y1 → lpK (fun st => fX9_weightOf_5 M a1 a2 st.1 st.2) n1 y1 = some z → W p l e (rmo 1 64) s m args below meth c H locs 0 0 Q (F0 m 37 ls [.long v0, .long v1]) := by
        intro H locs x5 v0 v1 ls X hl  y1 h hk1
        unfold fX9_weightOf_37 at h
        refine lv_lmul hx hb dX9_weightOf_37 ?_
        obtain ⟨u1, eu1, h⟩ := nm_x h
        refine topL eu1 ?_
        refine lv_lstore_n (lv' := [(3, .long u1), (0, .ref (ad (cO GC 0))), (1, .int a1), (2, .int a2), (5, .int x5)]) hx hb dX9_weightOf_38 rfl hl (by decide) rfl (fun ls hl => ?_)
        obtain ⟨u2, eu2, h⟩ := nm_x h
        refine lv_iinc (v := u2) (lv' := [(5, .int u2), (3, .long u1), (0, .ref (ad (cO GC 0))), (1, .int a1), (2, .int a2)]) hx hb dX9_weightOf_39 hl (k := 4) rfl (by rw [eu2]; rfl) (by decide) rfl (fun ls hl => ?_)
        refine lv_goto (tgt := 5) hx hb dX9_weightOf_42 (by decide) ?_
        rw [← sm_x h] at hk1
        exact ih5 _ _ u1 u2 ls X (lv_sub hl [2, 3, 4, 1, 0] rfl)  () hk1
      unfold fX9_weightOf_5 at h
      refine lv_iload hx hb dX9_weightOf_5 (lv_at hl 4 rfl) ?_
      refine lv_aload_n hx hb dX9_weightOf_7 rfl (lv_at hl 0 rfl) ?_
      refine gf_X9_45 F X qC0 dX9_weightOf_8 ?_
      refine gf_X9_156 F X qC9 dX9_weightOf_11 ?_
      refine lv_icmp_ge (tgt := 45) hx hb dX9_weightOf_14 (by decide) (fun c3 => ?_) (fun c3 => ?_)
      · have h := it_p h c3
        refine lv_lload_n hx hb dX9_weightOf_45 rfl (lv_at hl 3 rfl) ?_
        have h := sm_x h
        rw [← h] at hk1
        have h := sm_x hk1
        exact RT H locs _ 46 ls X h dX9_weightOf_46
      · have h := it_n h c3
        refine lv_lload_n hx hb dX9_weightOf_17 rfl (lv_at hl 3 rfl) ?_
        refine lv_iload_n hx hb dX9_weightOf_18 rfl (lv_at hl 1 rfl) ?_
        refine lv_iload hx hb dX9_weightOf_19 (lv_at hl 4 rfl) ?_
        refine lv_ishr hx hb dX9_weightOf_21 ?_
        refine lv_iconst (v := 1) hx hb dX9_weightOf_22 (by decide) ?_
        refine lv_iand hx hb dX9_weightOf_23 ?_
        refine lv_if_eq (tgt := 32) hx hb dX9_weightOf_24 (by decide) (fun c4 => ?_) (fun c4 => ?_)
        · have h := it_p h c4
          refine lv_bipush (v := 16) hx hb dX9_weightOf_32 (by decide) ?_
          refine lv_iload_n hx hb dX9_weightOf_34 rfl (lv_at hl 2 rfl) ?_
          refine lv_isub hx hb dX9_weightOf_35 ?_
          refine lv_i2l (v := Int32.toInt64 ((16 : Int32) - a2)) hx hb dX9_weightOf_36 rfl ?_
          exact J37 _ _ x5 (Int32.toInt64 ((16 : Int32) - a2)) x3 ls X (lv_sub hl [0, 1, 2, 4] rfl)  _ h hk1
        · have h := it_n h c4
          refine lv_iload_n hx hb dX9_weightOf_27 rfl (lv_at hl 2 rfl) ?_
          refine lv_i2l (v := Int32.toInt64 a2) hx hb dX9_weightOf_28 rfl ?_
          refine lv_goto (tgt := 37) hx hb dX9_weightOf_29 (by decide) ?_
          exact J37 _ _ x5 (Int32.toInt64 a2) x3 ls X (lv_sub hl [0, 1, 2, 4] rfl)  _ h hk1
  have h := hz
  unfold fX9_weightOf at h
  refine lv_lconst (v := 1) hx hb dX9_weightOf_0 (by decide) ?_
  obtain ⟨u5, eu5, h⟩ := nm_x h
  refine topL eu5 ?_
  refine lv_lstore_n (lv' := [(3, .long u5), (0, .ref (ad (cO GC 0))), (1, .int a1), (2, .int a2)]) hx hb dX9_weightOf_1 rfl hl (by decide) rfl (fun ls hl => ?_)
  refine lv_iconst (v := 0) hx hb dX9_weightOf_2 (by decide) ?_
  obtain ⟨u6, eu6, h⟩ := nm_x h
  refine topE eu6 ?_
  refine lv_istore (lv' := [(5, .int u6), (3, .long u5), (0, .ref (ad (cO GC 0))), (1, .int a1), (2, .int a2)]) hx hb dX9_weightOf_3 hl (by decide) rfl (fun ls hl => ?_)
  exact L5 FU _ _ u5 u6 ls X (lv_sub hl [2, 3, 4, 1, 0] rfl)  () h

/-! ===== X9_swarm ===== -/
def fX9_swarm_123 (a1 : Int32) (a2 : Int32) (a3 : Int32) (x4 : Int64) (x6 : Int32) (M : Mem) : Option (Int64 × Mem) :=
  if a3 = 0 then
    some (x4, M)
  else
    some ((1 : Int64) <<< (Int32.toInt64 x6 &&& 63), M)
def fX9_swarm_93 (a1 : Int32) (a2 : Int32) (a3 : Int32) (x4 : Int64) (x6 : Int32) (M : Mem) : Option ((Int64 × Int32 × Mem) ⊕ (Int64 × Mem)) :=
  if x6 ≤ 0 then
    inr' (fX9_swarm_123 a1 a2 a3 x4 x6 M)
  else
    if (lg_cmp (x4 - x4 / 2 * 2) 0) = 0 then
      nm (x4 / 2 : Int64) fun u4 =>
      nm (x6 + (-1) : Int32) fun u5 =>
      some (.inl (u4, u5, M))
    else
      inr' (fX9_swarm_123 a1 a2 a3 x4 x6 M)
def fX9_swarm_82 (a1 : Int32) (a2 : Int32) (a3 : Int32) (x4 : Int64) (M : Mem) : Option (Int64 × Mem) :=
  nm ((4 : Int32) * (M 9 1 0) : Int32) fun u6 =>
  lpO (fun st => fX9_swarm_93 a1 a2 a3 st.1 st.2.1 st.2.2) FU (x4, u6, M)
def fX9_swarm_76 (a1 : Int32) (a2 : Int32) (a3 : Int32) (x4 : Int64) (x6 : Int32) (M : Mem) : Option ((Int64 × Int32 × Mem) ⊕ (Int64 × Mem)) :=
  nm (x6 + 1 : Int32) fun u7 =>
  some (.inl (x4, u7, M))
def fX9_swarm_39 (a1 : Int32) (a2 : Int32) (a3 : Int32) (x4 : Int64) (x6 : Int32) (M : Mem) : Option ((Int64 × Int32 × Mem) ⊕ (Int64 × Mem)) :=
  if ((1 : Int32) <<< ((M 9 1 0) &&& 31)) ≤ x6 then
    inr' (fX9_swarm_82 a1 a2 a3 x4 M)
  else
    gd (inB x6 64) <|
    (if (M 0 8 (Int32.toNatClampNeg x6)) = a2 then
      (fX9_weightOf M x6 a1).bind fun r10 =>
      nm (x4 + r10 : Int64) fun u11 =>
      fX9_swarm_76 a1 a2 a3 u11 x6 M
    else
      fX9_swarm_76 a1 a2 a3 x4 x6 M)
def fX9_swarm (M : Mem) (a1 : Int32) (a2 : Int32) (a3 : Int32) : Option (Int64 × Mem) :=
  (fX9_within a1 16).bind fun r12 =>
  (if r12 = 0 then
    some ((-9223372036854775806), M)
  else
    (fX9_isHeir M a2).bind fun r14 =>
    (if r14 = 0 then
      some ((-9223372036854775806), M)
    else
      (fX9_within a3 1).bind fun r16 =>
      (if r16 = 0 then
        some ((-9223372036854775806), M)
      else
        (fX9_tellRichestBySet M).bind fun r18 =>
        nm (0 : Int64) fun u19 =>
        nm (0 : Int32) fun u20 =>
        lpO (fun st => fX9_swarm_39 a1 a2 a3 st.1 st.2.1 st.2.2) FU (u19, u20, r18))))
set_option maxHeartbeats 4000000 in
set_option maxRecDepth 100000 in
theorem kX9_swarm (l : Launch) (D : va_G) (ad : Nat → Nat) (cs : Nat → ClassId) (A : Nat → Prop)  (M : Mem) (a1 : Int32) (a2 : Int32) (a3 : Int32) (z : (Int64 × Mem)) (hz : fX9_swarm M a1 a2 a3 = some z) : Met l yX9_swarm (wsU yX9_swarm cX9_swarm 7 (some .long)) (rmo 6 176) (va_Pc [.ref (ad (cO GC 0)), .int a1, .int a2, .int a3] (Wd0 D ad cs GC A M)) (va_Ql (fun r u => (r, u) = z) (Wd0 D ad cs GC A) A) 0 0 A := by
  refine ct_l (by decide) rfl okGC (Nat.le_of_ble_eq_true rfl) ?_
  intro p e s m args below meth c Q ls F X hl RT
  have hx := F.1
  have hb := F.2.1
  have hl : lv_has ls 7 [(0, .ref (ad (cO GC 0))), (1, .int a1), (2, .int a2), (3, .int a3)] := hl
  obtain ⟨H, hH⟩ : ∃ H, H = s.heap := ⟨_, rfl⟩
  rw [← hH] at X ⊢
  obtain ⟨locs, hlocs⟩ : ∃ locs : List Loc, locs = [] := ⟨_, rfl⟩
  rw [← hlocs] at X ⊢
  clear hH hlocs
  have J123 : ∀ (H : Heap) (locs : List Loc) (x4 : Int64) (x6 : Int32) (M : Mem) (ls : Array Slot), Wd D ad cs GC A s H locs M → lv_has ls 7 [(3, .int a3), (4, .long x4), (6, .int x6)] → ∀ (_ : Unit), fX9_swarm_123 a1 a2 a3 x4 x6 M = some z → W p l e (rmo 6 176) s m args below meth c H locs 0 0 Q (F0 m 123 ls []) := by
    intro H locs x4 x6 M ls X hl  _u h
    unfold fX9_swarm_123 at h
    refine lv_iload_n hx hb dX9_swarm_123 rfl (lv_at hl 0 rfl) ?_
    refine lv_if_ne (tgt := 132) hx hb dX9_swarm_124 (by decide) (fun c1 => ?_) (fun c1 => ?_)
    · have h := it_n h c1
      refine lv_lconst (v := 1) hx hb dX9_swarm_132 (by decide) ?_
      refine lv_iload hx hb dX9_swarm_133 (lv_at hl 2 rfl) ?_
      refine lv_lshl (v := (1 : Int64) <<< (Int32.toInt64 x6 &&& 63)) hx hb dX9_swarm_135 rfl ?_
      have h := sm_x h
      exact RT H locs _ _ 136 ls X h dX9_swarm_136
    · have h := it_p h c1
      refine lv_lload hx hb dX9_swarm_127 (lv_at hl 1 rfl) ?_
      refine lv_goto (tgt := 136) hx hb dX9_swarm_129 (by decide) ?_
      have h := sm_x h
      exact RT H locs _ _ 136 ls X h dX9_swarm_136
  have L93 : ∀ (n : Nat) (H : Heap) (locs : List Loc) (x4 : Int64) (x6 : Int32) (M : Mem) (ls : Array Slot), Wd D ad cs GC A s H locs M → lv_has ls 7 [(3, .int a3), (4, .long x4), (6, .int x6)] → ∀ (_ : Unit), lpO (fun st => fX9_swarm_93 a1 a2 a3 st.1 st.2.1 st.2.2) n (x4, x6, M) = some z → W p l e (rmo 6 176) s m args below meth c H locs 0 0 Q (F0 m 93 ls []) := by
    intro n
    induction n with
    | zero =>
      intro H locs x4 x6 M ls X hl  yy h
      exact lp_0 h
    | succ n1 ih93 =>
      intro H locs x4 x6 M ls X hl  _u h
      obtain ⟨y1, h, hk1⟩ := lp_x h
      unfold fX9_swarm_93 at h
      refine lv_iload hx hb dX9_swarm_93 (lv_at hl 2 rfl) ?_
      refine lv_if_le (tgt := 123) hx hb dX9_swarm_95 (by decide) (fun c2 => ?_) (fun c2 => ?_)
      · have h := it_p h c2
        obtain ⟨_, h, ey⟩ := inr_x h
        rw [ey] at hk1
        have h := h.trans (congrArg some (sm_x hk1))
        exact J123 _ _ x4 x6 M ls X (lv_sub hl [0, 1, 2] rfl)  () h
      · have h := it_n h c2
        refine lv_lload hx hb dX9_swarm_98 (lv_at hl 1 rfl) ?_
        refine lv_ldc2 (v := 2) hx hb F.2.2.2.1 (F.2.2.2.2 _ (mT3 188 rfl rfl)) dX9_swarm_100 ?_
        refine lv_lrem hx hb dX9_swarm_103 (by decide) ?_
        refine lv_lconst (v := 0) hx hb dX9_swarm_104 (by decide) ?_
        refine W.lcmp hx hb dX9_swarm_105 ?_
        refine lv_if_ne (tgt := 123) hx hb dX9_swarm_106 (by decide) (fun c3 => ?_) (fun c3 => ?_)
        · have h := it_n h c3
          obtain ⟨_, h, ey⟩ := inr_x h
          rw [ey] at hk1
          have h := h.trans (congrArg some (sm_x hk1))
          exact J123 _ _ x4 x6 M ls X (lv_sub hl [0, 1, 2] rfl)  () h
        · have h := it_p h c3
          refine lv_lload hx hb dX9_swarm_109 (lv_at hl 1 rfl) ?_
          refine lv_ldc2 (v := 2) hx hb F.2.2.2.1 (F.2.2.2.2 _ (mT3 188 rfl rfl)) dX9_swarm_111 ?_
          refine lv_ldiv hx hb dX9_swarm_114 (by decide) ?_
          obtain ⟨u4, eu4, h⟩ := nm_x h
          refine topL eu4 ?_
          refine lv_lstore (lv' := [(4, .long u4), (3, .int a3), (6, .int x6)]) hx hb dX9_swarm_115 hl (by decide) rfl (fun ls hl => ?_)
          obtain ⟨u5, eu5, h⟩ := nm_x h
          refine lv_iinc (v := u5) (lv' := [(6, .int u5), (4, .long u4), (3, .int a3)]) hx hb dX9_swarm_117 hl (k := 2) rfl (by rw [eu5]; rfl) (by decide) rfl (fun ls hl => ?_)
          refine lv_goto (tgt := 93) hx hb dX9_swarm_120 (by decide) ?_
          rw [← sm_x h] at hk1
          exact ih93 _ _ u4 u5 M ls X (lv_sub hl [2, 1, 0] rfl)  () hk1
  have J82 : ∀ (H : Heap) (locs : List Loc) (x4 : Int64) (M : Mem) (ls : Array Slot), Wd D ad cs GC A s H locs M → lv_has ls 7 [(0, .ref (ad (cO GC 0))), (3, .int a3), (4, .long x4)] → ∀ (_ : Unit), fX9_swarm_82 a1 a2 a3 x4 M = some z → W p l e (rmo 6 176) s m args below meth c H locs 0 0 Q (F0 m 82 ls []) := by
    intro H locs x4 M ls X hl  _u h
    unfold fX9_swarm_82 at h
    refine lv_iconst (v := 4) hx hb dX9_swarm_82 (by decide) ?_
    refine lv_aload_n hx hb dX9_swarm_83 rfl (lv_at hl 0 rfl) ?_
    refine gf_X9_45 F X qC0 dX9_swarm_84 ?_
    refine gf_X9_156 F X qC9 dX9_swarm_87 ?_
    refine lv_imul hx hb dX9_swarm_90 ?_
    obtain ⟨u6, eu6, h⟩ := nm_x h
    refine topE eu6 ?_
    refine lv_istore (lv' := [(6, .int u6), (0, .ref (ad (cO GC 0))), (3, .int a3), (4, .long x4)]) hx hb dX9_swarm_91 hl (by decide) rfl (fun ls hl => ?_)
    exact L93 FU _ _ x4 u6 M ls X (lv_sub hl [2, 3, 0] rfl)  () h
  have L39 : ∀ (n : Nat) (H : Heap) (locs : List Loc) (x4 : Int64) (x6 : Int32) (M : Mem) (ls : Array Slot), Wd D ad cs GC A s H locs M → lv_has ls 7 [(0, .ref (ad (cO GC 0))), (1, .int a1), (2, .int a2), (3, .int a3), (4, .long x4), (6, .int x6)] → ∀ (_ : Unit), lpO (fun st => fX9_swarm_39 a1 a2 a3 st.1 st.2.1 st.2.2) n (x4, x6, M) = some z → W p l e (rmo 6 176) s m args below meth c H locs 0 0 Q (F0 m 39 ls []) := by
    intro n
    induction n with
    | zero =>
      intro H locs x4 x6 M ls X hl  yy h
      exact lp_0 h
    | succ n1 ih39 =>
      intro H locs x4 x6 M ls X hl  _u h
      obtain ⟨y1, h, hk1⟩ := lp_x h
      have J76 : ∀ (H : Heap) (locs : List Loc) (x4 : Int64) (x6 : Int32) (M : Mem) (ls : Array Slot), Wd D ad cs GC A s H locs M → lv_has ls 7 [(0, .ref (ad (cO GC 0))), (1, .int a1), (2, .int a2), (3, .int a3), (4, .long x4), (6, .int x6)] → ∀ (y1 : ((Int64 × Int32 × Mem) ⊕ (Int64 × Mem))), fX9_swarm_76 a1 a2 a3 x4 x6 M = some y1 → lpK (fun st => fX9_swarm_39 a1 a2 a3 st.1 st.2.1 st.2.2) n1 y1 = some z → W p l e (rmo 6 176) s m args below meth c H locs 0 0 Q (F0 m 76 ls []) := by
        intro H locs x4 x6 M ls X hl  y1 h hk1
        unfold fX9_swarm_76 at h
        obtain ⟨u7, eu7, h⟩ := nm_x h
        refine lv_iinc (v := u7) (lv' := [(6, .int u7), (0, .ref (ad (cO GC 0))), (1, .int a1), (2, .int a2), (3, .int a3), (4, .long x4)]) hx hb dX9_swarm_76 hl (k := 5) rfl (by rw [eu7]; rfl) (by decide) rfl (fun ls hl => ?_)
        refine lv_goto (tgt := 39) hx hb dX9_swarm_79 (by decide) ?_
        rw [← sm_x h] at hk1
        exact ih39 _ _ x4 u7 M ls X (lv_sub hl [1, 2, 3, 4, 5, 0] rfl)  () hk1
      unfold fX9_swarm_39 at h
      refine lv_iload hx hb dX9_swarm_39 (lv_at hl 5 rfl) ?_
      refine lv_iconst (v := 1) hx hb dX9_swarm_41 (by decide) ?_
      refine lv_aload_n hx hb dX9_swarm_42 rfl (lv_at hl 0 rfl) ?_
      refine gf_X9_45 F X qC0 dX9_swarm_43 ?_
      refine gf_X9_156 F X qC9 dX9_swarm_46 ?_
      refine lv_ishl hx hb dX9_swarm_49 ?_
      refine lv_icmp_ge (tgt := 82) hx hb dX9_swarm_50 (by decide) (fun c8 => ?_) (fun c8 => ?_)
      · have h := it_p h c8
        obtain ⟨_, h, ey⟩ := inr_x h
        rw [ey] at hk1
        have h := h.trans (congrArg some (sm_x hk1))
        exact J82 _ _ x4 M ls X (lv_sub hl [0, 3, 4] rfl)  () h
      · have h := it_n h c8
        refine lv_aload_n hx hb dX9_swarm_53 rfl (lv_at hl 0 rfl) ?_
        refine gf_X9_63 F X qC0 dX9_swarm_54 ?_
        refine lv_iload hx hb dX9_swarm_57 (lv_at hl 5 rfl) ?_
        obtain ⟨hin, h⟩ := gd_x h
        refine r_iald F X (ar_X9_8 qC0) hin dX9_swarm_59 ?_
        refine lv_iload_n hx hb dX9_swarm_60 rfl (lv_at hl 2 rfl) ?_
        refine lv_icmp_ne (tgt := 76) hx hb dX9_swarm_61 (by decide) (fun c9 => ?_) (fun c9 => ?_)
        · have h := it_n h c9
          exact J76 _ _ x4 x6 M ls X (lv_sub hl [0, 1, 2, 3, 4, 5] rfl)  _ h hk1
        · have h := it_p h c9
          refine lv_lload hx hb dX9_swarm_64 (lv_at hl 4 rfl) ?_
          refine lv_aload_n hx hb dX9_swarm_66 rfl (lv_at hl 0 rfl) ?_
          refine lv_iload hx hb dX9_swarm_67 (lv_at hl 5 rfl) ?_
          refine lv_iload_n hx hb dX9_swarm_69 rfl (lv_at hl 1 rfl) ?_
          obtain ⟨r10, hr10, h⟩ := bd_x h
          refine r_calll0 X (r_runV F X (kX9_weightOf l D ad cs A  M x6 a1 _ hr10) gm_X9_284 hd_X9_weightOf ⟨Nat.le_of_ble_eq_true rfl, Nat.le_of_ble_eq_true rfl⟩ qC0 rfl rfl hl.1 rfl (Nat.le_of_ble_eq_true rfl) dX9_swarm_70) (fun H locs X => ?_)
          refine lv_ladd hx hb dX9_swarm_73 ?_
          obtain ⟨u11, eu11, h⟩ := nm_x h
          refine topL eu11 ?_
          refine lv_lstore (lv' := [(4, .long u11), (0, .ref (ad (cO GC 0))), (1, .int a1), (2, .int a2), (3, .int a3), (6, .int x6)]) hx hb dX9_swarm_74 hl (by decide) rfl (fun ls hl => ?_)
          exact J76 _ _ u11 x6 M ls X (lv_sub hl [1, 2, 3, 4, 0, 5] rfl)  _ h hk1
  have h := hz
  unfold fX9_swarm at h
  refine lv_iload_n hx hb dX9_swarm_0 rfl (lv_at hl 1 rfl) ?_
  refine lv_bipush (v := 16) hx hb dX9_swarm_1 (by decide) ?_
  obtain ⟨r12, hr12, h⟩ := bd_x h
  refine r_calli0 X (r_runS F X (kX9_within l D ad cs A  M a1 16 _ hr12) gm_X9_104 hd_X9_within ⟨Nat.le_of_ble_eq_true rfl, Nat.le_of_ble_eq_true rfl⟩ rfl hl.1 rfl (Nat.le_of_ble_eq_true rfl) dX9_swarm_3) (fun H locs X => ?_)
  refine lv_if_eq (tgt := 25) hx hb dX9_swarm_6 (by decide) (fun c13 => ?_) (fun c13 => ?_)
  · have h := it_p h c13
    refine lv_ldc2 (v := (-9223372036854775806)) hx hb F.2.2.2.1 (F.2.2.2.2 _ (mT3 179 rfl rfl)) dX9_swarm_25 ?_
    have h := sm_x h
    exact RT H locs _ _ 28 ls X h dX9_swarm_28
  · have h := it_n h c13
    refine lv_aload_n hx hb dX9_swarm_9 rfl (lv_at hl 0 rfl) ?_
    refine lv_iload_n hx hb dX9_swarm_10 rfl (lv_at hl 2 rfl) ?_
    obtain ⟨r14, hr14, h⟩ := bd_x h
    refine r_calli0 X (r_runV F X (kX9_isHeir l D ad cs A  M a2 _ hr14) gm_X9_132 hd_X9_isHeir ⟨Nat.le_of_ble_eq_true rfl, Nat.le_of_ble_eq_true rfl⟩ qC0 rfl rfl hl.1 rfl (Nat.le_of_ble_eq_true rfl) dX9_swarm_11) (fun H locs X => ?_)
    refine lv_if_eq (tgt := 25) hx hb dX9_swarm_14 (by decide) (fun c15 => ?_) (fun c15 => ?_)
    · have h := it_p h c15
      refine lv_ldc2 (v := (-9223372036854775806)) hx hb F.2.2.2.1 (F.2.2.2.2 _ (mT3 179 rfl rfl)) dX9_swarm_25 ?_
      have h := sm_x h
      exact RT H locs _ _ 28 ls X h dX9_swarm_28
    · have h := it_n h c15
      refine lv_iload_n hx hb dX9_swarm_17 rfl (lv_at hl 3 rfl) ?_
      refine lv_iconst (v := 1) hx hb dX9_swarm_18 (by decide) ?_
      obtain ⟨r16, hr16, h⟩ := bd_x h
      refine r_calli0 X (r_runS F X (kX9_within l D ad cs A  M a3 1 _ hr16) gm_X9_104 hd_X9_within ⟨Nat.le_of_ble_eq_true rfl, Nat.le_of_ble_eq_true rfl⟩ rfl hl.1 rfl (Nat.le_of_ble_eq_true rfl) dX9_swarm_19) (fun H locs X => ?_)
      refine lv_if_ne (tgt := 29) hx hb dX9_swarm_22 (by decide) (fun c17 => ?_) (fun c17 => ?_)
      · have h := it_n h c17
        refine lv_aload_n hx hb dX9_swarm_29 rfl (lv_at hl 0 rfl) ?_
        obtain ⟨r18, hr18, h⟩ := bd_x h
        refine r_callv X (r_runV F X (kX9_tellRichestBySet l D ad cs A  M  _ hr18) gm_X9_281 hd_X9_tellRichestBySet ⟨Nat.le_of_ble_eq_true rfl, Nat.le_of_ble_eq_true rfl⟩ qC0 rfl rfl hl.1 rfl (Nat.le_of_ble_eq_true rfl) dX9_swarm_30) (fun H locs X => ?_)
        refine lv_lconst (v := 0) hx hb dX9_swarm_33 (by decide) ?_
        obtain ⟨u19, eu19, h⟩ := nm_x h
        refine topL eu19 ?_
        refine lv_lstore (lv' := [(4, .long u19), (0, .ref (ad (cO GC 0))), (1, .int a1), (2, .int a2), (3, .int a3)]) hx hb dX9_swarm_34 hl (by decide) rfl (fun ls hl => ?_)
        refine lv_iconst (v := 0) hx hb dX9_swarm_36 (by decide) ?_
        obtain ⟨u20, eu20, h⟩ := nm_x h
        refine topE eu20 ?_
        refine lv_istore (lv' := [(6, .int u20), (4, .long u19), (0, .ref (ad (cO GC 0))), (1, .int a1), (2, .int a2), (3, .int a3)]) hx hb dX9_swarm_37 hl (by decide) rfl (fun ls hl => ?_)
        exact L39 FU _ _ u19 u20 r18 ls X (lv_sub hl [2, 3, 4, 5, 1, 0] rfl)  () h
      · have h := it_p h c17
        refine lv_ldc2 (v := (-9223372036854775806)) hx hb F.2.2.2.1 (F.2.2.2.2 _ (mT3 179 rfl rfl)) dX9_swarm_25 ?_
        have h := sm_x h
        exact RT H locs _ _ 28 ls X h dX9_swarm_28

/-! ===== X9_again ===== -/
def fX9_again (M : Mem) (a1 : Int32) (a2 : Int32) (a3 : Int32) : Option (Int32 × Mem) :=
  if a2 < 1 then
    some ((-2), M)
  else
    if 20 < a2 then
      some ((-2), M)
    else
      (fX9_within a3 1).bind fun r3 =>
      (if r3 = 0 then
        some ((-2), M)
      else
        (fX6_prepare 3 M).bind fun r5 =>
        (fX2_drawRound 7 r5 a1 a2).bind fun r6 =>
        (fX6_run r6).bind fun r7 =>
        (if a3 = 0 then
          (fX7_allShares 8 r7).bind fun r9 =>
          some (r9, r7)
        else
          some (r7 8 6 0, r7)))
set_option maxHeartbeats 4000000 in
set_option maxRecDepth 100000 in
theorem kX9_again (l : Launch) (D : va_G) (ad : Nat → Nat) (cs : Nat → ClassId) (A : Nat → Prop)  (M : Mem) (a1 : Int32) (a2 : Int32) (a3 : Int32) (z : (Int32 × Mem)) (hz : fX9_again M a1 a2 a3 = some z) : Met l yX9_again (wsU yX9_again cX9_again 4 (some .int)) (rmo 5 155) (va_Pc [.ref (ad (cO GC 0)), .int a1, .int a2, .int a3] (Wd0 D ad cs GC A M)) (va_Qi (fun r u => (r, u) = z) (Wd0 D ad cs GC A) A) 0 0 A := by
  refine ct_i (by decide) rfl okGC (Nat.le_of_ble_eq_true rfl) ?_
  intro p e s m args below meth c Q ls F X hl RT
  have hx := F.1
  have hb := F.2.1
  have hl : lv_has ls 4 [(0, .ref (ad (cO GC 0))), (1, .int a1), (2, .int a2), (3, .int a3)] := hl
  obtain ⟨H, hH⟩ : ∃ H, H = s.heap := ⟨_, rfl⟩
  rw [← hH] at X ⊢
  obtain ⟨locs, hlocs⟩ : ∃ locs : List Loc, locs = [] := ⟨_, rfl⟩
  rw [← hlocs] at X ⊢
  clear hH hlocs
  have h := hz
  unfold fX9_again at h
  refine lv_iload_n hx hb dX9_again_0 rfl (lv_at hl 2 rfl) ?_
  refine lv_iconst (v := 1) hx hb dX9_again_1 (by decide) ?_
  refine lv_icmp_lt (tgt := 19) hx hb dX9_again_2 (by decide) (fun c1 => ?_) (fun c1 => ?_)
  · have h := it_p h c1
    refine lv_bipush (v := (-2)) hx hb dX9_again_19 (by decide) ?_
    have h := sm_x h
    exact RT H locs _ _ 21 ls X h dX9_again_21
  · have h := it_n h c1
    refine lv_iload_n hx hb dX9_again_5 rfl (lv_at hl 2 rfl) ?_
    refine lv_bipush (v := 20) hx hb dX9_again_6 (by decide) ?_
    refine lv_icmp_gt (tgt := 19) hx hb dX9_again_8 (by decide) (fun c2 => ?_) (fun c2 => ?_)
    · have h := it_p h c2
      refine lv_bipush (v := (-2)) hx hb dX9_again_19 (by decide) ?_
      have h := sm_x h
      exact RT H locs _ _ 21 ls X h dX9_again_21
    · have h := it_n h c2
      refine lv_iload_n hx hb dX9_again_11 rfl (lv_at hl 3 rfl) ?_
      refine lv_iconst (v := 1) hx hb dX9_again_12 (by decide) ?_
      obtain ⟨r3, hr3, h⟩ := bd_x h
      refine r_calli0 X (r_runS F X (kX9_within l D ad cs A  M a3 1 _ hr3) gm_X9_104 hd_X9_within ⟨Nat.le_of_ble_eq_true rfl, Nat.le_of_ble_eq_true rfl⟩ rfl hl.1 rfl (Nat.le_of_ble_eq_true rfl) dX9_again_13) (fun H locs X => ?_)
      refine lv_if_ne (tgt := 22) hx hb dX9_again_16 (by decide) (fun c4 => ?_) (fun c4 => ?_)
      · have h := it_n h c4
        refine lv_aload_n hx hb dX9_again_22 rfl (lv_at hl 0 rfl) ?_
        refine gf_X9_38 F X qC0 dX9_again_23 ?_
        refine lv_aload_n hx hb dX9_again_26 rfl (lv_at hl 0 rfl) ?_
        refine gf_X9_24 F X qC0 dX9_again_27 ?_
        obtain ⟨r5, hr5, h⟩ := bd_x h
        refine r_callv X (r_runV F X (kX6_prepare l D ad cs A qC3 M  _ hr5) gm_X9_220 hd_X6_prepare ⟨Nat.le_of_ble_eq_true rfl, Nat.le_of_ble_eq_true rfl⟩ qC6 rfl rfl hl.1 rfl (Nat.le_of_ble_eq_true rfl) dX9_again_30) (fun H locs X => ?_)
        refine lv_aload_n hx hb dX9_again_33 rfl (lv_at hl 0 rfl) ?_
        refine gf_X9_38 F X qC0 dX9_again_34 ?_
        refine gf_X9_224 F X qC6 dX9_again_37 ?_
        refine lv_iload_n hx hb dX9_again_40 rfl (lv_at hl 1 rfl) ?_
        refine lv_iload_n hx hb dX9_again_41 rfl (lv_at hl 2 rfl) ?_
        obtain ⟨r6, hr6, h⟩ := bd_x h
        refine r_callv X (r_runV F X (kX2_drawRound l D ad cs A qC7 r5 a1 a2 _ hr6) gm_X9_290 hd_X2_drawRound ⟨Nat.le_of_ble_eq_true rfl, Nat.le_of_ble_eq_true rfl⟩ qC7 rfl rfl hl.1 rfl (Nat.le_of_ble_eq_true rfl) dX9_again_42) (fun H locs X => ?_)
        refine lv_aload_n hx hb dX9_again_45 rfl (lv_at hl 0 rfl) ?_
        refine gf_X9_38 F X qC0 dX9_again_46 ?_
        obtain ⟨r7, hr7, h⟩ := bd_x h
        refine r_callv X (r_runV F X (kX6_run l D ad cs A  r6  _ hr7) gm_X9_225 hd_X6_run ⟨Nat.le_of_ble_eq_true rfl, Nat.le_of_ble_eq_true rfl⟩ qC6 rfl rfl hl.1 rfl (Nat.le_of_ble_eq_true rfl) dX9_again_49) (fun H locs X => ?_)
        refine lv_iload_n hx hb dX9_again_52 rfl (lv_at hl 3 rfl) ?_
        refine lv_if_ne (tgt := 69) hx hb dX9_again_53 (by decide) (fun c8 => ?_) (fun c8 => ?_)
        · have h := it_n h c8
          refine lv_aload_n hx hb dX9_again_69 rfl (lv_at hl 0 rfl) ?_
          refine gf_X9_38 F X qC0 dX9_again_70 ?_
          refine gf_X9_228 F X qC6 dX9_again_73 ?_
          refine gf_X9_293 F X qC8 dX9_again_76 ?_
          have h := sm_x h
          exact RT H locs _ _ 79 ls X h dX9_again_79
        · have h := it_p h c8
          refine lv_aload_n hx hb dX9_again_56 rfl (lv_at hl 0 rfl) ?_
          refine gf_X9_38 F X qC0 dX9_again_57 ?_
          refine gf_X9_228 F X qC6 dX9_again_60 ?_
          obtain ⟨r9, hr9, h⟩ := bd_x h
          refine r_calli0 X (r_runV F X (kX7_allShares l D ad cs A qC8 r7  _ hr9) gm_X9_208 hd_X7_allShares ⟨Nat.le_of_ble_eq_true rfl, Nat.le_of_ble_eq_true rfl⟩ qC8 rfl rfl hl.1 rfl (Nat.le_of_ble_eq_true rfl) dX9_again_63) (fun H locs X => ?_)
          refine lv_goto (tgt := 79) hx hb dX9_again_66 (by decide) ?_
          have h := sm_x h
          exact RT H locs _ _ 79 ls X h dX9_again_79
      · have h := it_p h c4
        refine lv_bipush (v := (-2)) hx hb dX9_again_19 (by decide) ?_
        have h := sm_x h
        exact RT H locs _ _ 21 ls X h dX9_again_21

/-! ===== X9_isForm ===== -/
def fX9_isForm (a0 : Int32) : Option Int32 :=
  (fX9_within a0 2).bind fun r1 =>
  gd (r1 = 0 ∨ r1 = 1) <|
  some r1
set_option maxHeartbeats 4000000 in
set_option maxRecDepth 100000 in
theorem kX9_isForm (l : Launch) (D : va_G) (ad : Nat → Nat) (cs : Nat → ClassId) (A : Nat → Prop)  (M : Mem) (a0 : Int32) (z : Int32) (hz : fX9_isForm a0 = some z) : Met l yX9_isForm (wsU yX9_isForm cX9_isForm 1 (some .boolean)) (rmo 2 85) (va_Pc [.int a0] (Wd0 D ad cs GC A M)) (va_Qi (fun r u => (r, u) = (z, M)) (Wd0 D ad cs GC A) A) 0 0 A := by
  refine ct_z0 (by decide) rfl okGC (Nat.le_of_ble_eq_true rfl) ?_
  intro p e s m args below meth c Q ls F X hl RT
  have hx := F.1
  have hb := F.2.1
  have hl : lv_has ls 1 [(0, .int a0)] := hl
  obtain ⟨H, hH⟩ : ∃ H, H = s.heap := ⟨_, rfl⟩
  rw [← hH] at X ⊢
  obtain ⟨locs, hlocs⟩ : ∃ locs : List Loc, locs = [] := ⟨_, rfl⟩
  rw [← hlocs] at X ⊢
  clear hH hlocs
  have h := hz
  unfold fX9_isForm at h
  refine lv_iload_n hx hb dX9_isForm_0 rfl (lv_at hl 0 rfl) ?_
  refine lv_iconst (v := 2) hx hb dX9_isForm_1 (by decide) ?_
  obtain ⟨r1, hr1, h⟩ := bd_x h
  refine r_calli0 X (r_runS F X (kX9_within l D ad cs A  M a0 2 _ hr1) gm_X9_104 hd_X9_within ⟨Nat.le_of_ble_eq_true rfl, Nat.le_of_ble_eq_true rfl⟩ rfl hl.1 rfl (Nat.le_of_ble_eq_true rfl) dX9_isForm_2) (fun H locs X => ?_)
  obtain ⟨h01, h⟩ := gd_x h
  have h := sm_x h
  exact RT H locs _ 5 ls X h h01 dX9_isForm_5

/-! ===== X9_sheet ===== -/
def fX9_sheet (M : Mem) (a1 : Int32) (a2 : Int32) (a3 : Int32) : Option (Int32 × Mem) :=
  (fX9_isSheet a1).bind fun r1 =>
  (if r1 = 0 then
    some ((-2), M)
  else
    (fX9_isForm a2).bind fun r3 =>
    (if r3 = 0 then
      some ((-2), M)
    else
      if a3 ≤ 60 then
        if 0 ≤ a3 then
          gd (inB a1 4) <|
          (fX4_renew (21 + Int32.toNatClampNeg a1) M a2 a3).bind fun r8 =>
          some (a3, r8)
        else
          (fX9_found M 5).bind fun r9 =>
          some (r9.1, r9.2)
      else
        some ((-2), M)))
set_option maxHeartbeats 4000000 in
set_option maxRecDepth 100000 in
theorem kX9_sheet (l : Launch) (D : va_G) (ad : Nat → Nat) (cs : Nat → ClassId) (A : Nat → Prop)  (M : Mem) (a1 : Int32) (a2 : Int32) (a3 : Int32) (z : (Int32 × Mem)) (hz : fX9_sheet M a1 a2 a3 = some z) : Met l yX9_sheet (wsU yX9_sheet cX9_sheet 4 (some .int)) (rmo 3 109) (va_Pc [.ref (ad (cO GC 0)), .int a1, .int a2, .int a3] (Wd0 D ad cs GC A M)) (va_Qi (fun r u => (r, u) = z) (Wd0 D ad cs GC A) A) 0 0 A := by
  refine ct_i (by decide) rfl okGC (Nat.le_of_ble_eq_true rfl) ?_
  intro p e s m args below meth c Q ls F X hl RT
  have hx := F.1
  have hb := F.2.1
  have hl : lv_has ls 4 [(0, .ref (ad (cO GC 0))), (1, .int a1), (2, .int a2), (3, .int a3)] := hl
  obtain ⟨H, hH⟩ : ∃ H, H = s.heap := ⟨_, rfl⟩
  rw [← hH] at X ⊢
  obtain ⟨locs, hlocs⟩ : ∃ locs : List Loc, locs = [] := ⟨_, rfl⟩
  rw [← hlocs] at X ⊢
  clear hH hlocs
  have h := hz
  unfold fX9_sheet at h
  refine lv_iload_n hx hb dX9_sheet_0 rfl (lv_at hl 1 rfl) ?_
  obtain ⟨r1, hr1, h⟩ := bd_x h
  refine r_calli0 X (r_runS F X (kX9_isSheet l D ad cs A  M a1 _ hr1) gm_X9_161 hd_X9_isSheet ⟨Nat.le_of_ble_eq_true rfl, Nat.le_of_ble_eq_true rfl⟩ rfl hl.1 rfl (Nat.le_of_ble_eq_true rfl) dX9_sheet_1) (fun H locs X => ?_)
  refine lv_if_eq (tgt := 20) hx hb dX9_sheet_4 (by decide) (fun c2 => ?_) (fun c2 => ?_)
  · have h := it_p h c2
    refine lv_bipush (v := (-2)) hx hb dX9_sheet_20 (by decide) ?_
    have h := sm_x h
    exact RT H locs _ _ 22 ls X h dX9_sheet_22
  · have h := it_n h c2
    refine lv_iload_n hx hb dX9_sheet_7 rfl (lv_at hl 2 rfl) ?_
    obtain ⟨r3, hr3, h⟩ := bd_x h
    refine r_calli0 X (r_runS F X (kX9_isForm l D ad cs A  M a2 _ hr3) gm_X9_296 hd_X9_isForm ⟨Nat.le_of_ble_eq_true rfl, Nat.le_of_ble_eq_true rfl⟩ rfl hl.1 rfl (Nat.le_of_ble_eq_true rfl) dX9_sheet_8) (fun H locs X => ?_)
    refine lv_if_eq (tgt := 20) hx hb dX9_sheet_11 (by decide) (fun c4 => ?_) (fun c4 => ?_)
    · have h := it_p h c4
      refine lv_bipush (v := (-2)) hx hb dX9_sheet_20 (by decide) ?_
      have h := sm_x h
      exact RT H locs _ _ 22 ls X h dX9_sheet_22
    · have h := it_n h c4
      refine lv_iload_n hx hb dX9_sheet_14 rfl (lv_at hl 3 rfl) ?_
      refine lv_bipush (v := 60) hx hb dX9_sheet_15 (by decide) ?_
      refine lv_icmp_le (tgt := 23) hx hb dX9_sheet_17 (by decide) (fun c5 => ?_) (fun c5 => ?_)
      · have h := it_p h c5
        refine lv_iload_n hx hb dX9_sheet_23 rfl (lv_at hl 3 rfl) ?_
        refine lv_if_ge (tgt := 33) hx hb dX9_sheet_24 (by decide) (fun c6 => ?_) (fun c6 => ?_)
        · have h := it_p h c6
          refine lv_aload_n hx hb dX9_sheet_33 rfl (lv_at hl 0 rfl) ?_
          refine gf_X9_72 F X qC0 dX9_sheet_34 ?_
          refine lv_iload_n hx hb dX9_sheet_37 rfl (lv_at hl 1 rfl) ?_
          obtain ⟨hin, h⟩ := gd_x h
          have hw7 := q_sheet (i := a1) hin
          refine r_aald4 F X (ar_X9_10 qC0) hin dX9_sheet_38 ?_
          refine lv_iload_n hx hb dX9_sheet_39 rfl (lv_at hl 2 rfl) ?_
          refine lv_iload_n hx hb dX9_sheet_40 rfl (lv_at hl 3 rfl) ?_
          obtain ⟨r8, hr8, h⟩ := bd_x h
          refine r_callv X (r_runV F X (kX4_renew l D ad cs A hw7 M a2 a3 _ hr8) gm_X9_299 hd_X4_renew ⟨Nat.le_of_ble_eq_true rfl, Nat.le_of_ble_eq_true rfl⟩ hw7 rfl rfl hl.1 rfl (Nat.le_of_ble_eq_true rfl) dX9_sheet_41) (fun H locs X => ?_)
          refine lv_iload_n hx hb dX9_sheet_44 rfl (lv_at hl 3 rfl) ?_
          have h := sm_x h
          exact RT H locs _ _ 45 ls X h dX9_sheet_45
        · have h := it_n h c6
          refine lv_aload_n hx hb dX9_sheet_27 rfl (lv_at hl 0 rfl) ?_
          refine lv_iconst (v := 5) hx hb dX9_sheet_28 (by decide) ?_
          obtain ⟨r9, hr9, h⟩ := bd_x h
          refine r_calli X (r_runV F X (kX9_found l D ad cs A  M 5 _ hr9) gm_X9_167 hd_X9_found ⟨Nat.le_of_ble_eq_true rfl, Nat.le_of_ble_eq_true rfl⟩ qC0 rfl rfl hl.1 rfl (Nat.le_of_ble_eq_true rfl) dX9_sheet_29) (fun H locs X => ?_)
          have h := sm_x h
          exact RT H locs _ _ 32 ls X h dX9_sheet_32
      · have h := it_n h c5
        refine lv_bipush (v := (-2)) hx hb dX9_sheet_20 (by decide) ?_
        have h := sm_x h
        exact RT H locs _ _ 22 ls X h dX9_sheet_22

/-! ===== X9_lose ===== -/
def fX9_lose (M : Mem) (a1 : Int32) : Option (Int32 × Mem) :=
  (fX9_isSheet a1).bind fun r1 =>
  (if r1 = 0 then
    some ((-2), M)
  else
    gd (inB a1 4) <|
    (if (M (21 + Int32.toNatClampNeg a1) 1 0) = 0 then
      gd (inB a1 4) <|
      nm (wr M (21 + Int32.toNatClampNeg a1) 1 0 1) fun M6 =>
      gd (inB a1 4) <|
      some (M6 (21 + Int32.toNatClampNeg a1) 3 0, M6)
    else
      (fX9_found M 1).bind fun r8 =>
      some (r8.1, r8.2)))
set_option maxHeartbeats 4000000 in
set_option maxRecDepth 100000 in
theorem kX9_lose (l : Launch) (D : va_G) (ad : Nat → Nat) (cs : Nat → ClassId) (A : Nat → Prop)  (M : Mem) (a1 : Int32) (z : (Int32 × Mem)) (hz : fX9_lose M a1 = some z) : Met l yX9_lose (wsU yX9_lose cX9_lose 2 (some .int)) (rmo 3 105) (va_Pc [.ref (ad (cO GC 0)), .int a1] (Wd0 D ad cs GC A M)) (va_Qi (fun r u => (r, u) = z) (Wd0 D ad cs GC A) A) 0 0 A := by
  refine ct_i (by decide) rfl okGC (Nat.le_of_ble_eq_true rfl) ?_
  intro p e s m args below meth c Q ls F X hl RT
  have hx := F.1
  have hb := F.2.1
  have hl : lv_has ls 2 [(0, .ref (ad (cO GC 0))), (1, .int a1)] := hl
  obtain ⟨H, hH⟩ : ∃ H, H = s.heap := ⟨_, rfl⟩
  rw [← hH] at X ⊢
  obtain ⟨locs, hlocs⟩ : ∃ locs : List Loc, locs = [] := ⟨_, rfl⟩
  rw [← hlocs] at X ⊢
  clear hH hlocs
  have h := hz
  unfold fX9_lose at h
  refine lv_iload_n hx hb dX9_lose_0 rfl (lv_at hl 1 rfl) ?_
  obtain ⟨r1, hr1, h⟩ := bd_x h
  refine r_calli0 X (r_runS F X (kX9_isSheet l D ad cs A  M a1 _ hr1) gm_X9_161 hd_X9_isSheet ⟨Nat.le_of_ble_eq_true rfl, Nat.le_of_ble_eq_true rfl⟩ rfl hl.1 rfl (Nat.le_of_ble_eq_true rfl) dX9_lose_1) (fun H locs X => ?_)
  refine lv_if_ne (tgt := 10) hx hb dX9_lose_4 (by decide) (fun c2 => ?_) (fun c2 => ?_)
  · have h := it_n h c2
    refine lv_aload_n hx hb dX9_lose_10 rfl (lv_at hl 0 rfl) ?_
    refine gf_X9_72 F X qC0 dX9_lose_11 ?_
    refine lv_iload_n hx hb dX9_lose_14 rfl (lv_at hl 1 rfl) ?_
    obtain ⟨hin, h⟩ := gd_x h
    have hw3 := q_sheet (i := a1) hin
    refine r_aald4 F X (ar_X9_10 qC0) hin dX9_lose_15 ?_
    refine gf_X9_164 F X hw3 dX9_lose_16 ?_
    refine lv_if_eq (tgt := 28) hx hb dX9_lose_19 (by decide) (fun c4 => ?_) (fun c4 => ?_)
    · have h := it_p h c4
      refine lv_aload_n hx hb dX9_lose_28 rfl (lv_at hl 0 rfl) ?_
      refine gf_X9_72 F X qC0 dX9_lose_29 ?_
      refine lv_iload_n hx hb dX9_lose_32 rfl (lv_at hl 1 rfl) ?_
      obtain ⟨hin, h⟩ := gd_x h
      have hw5 := q_sheet (i := a1) hin
      refine r_aald4 F X (ar_X9_10 qC0) hin dX9_lose_33 ?_
      refine lv_iconst (v := 1) hx hb dX9_lose_34 (by decide) ?_
      obtain ⟨M6, eM6, h⟩ := nm_x h
      refine pf_X9_164 F X hw5 (by decide) dX9_lose_35 (fun H locs X => ?_)
      have X := Wd_eq eM6 X
      refine lv_aload_n hx hb dX9_lose_38 rfl (lv_at hl 0 rfl) ?_
      refine gf_X9_72 F X qC0 dX9_lose_39 ?_
      refine lv_iload_n hx hb dX9_lose_42 rfl (lv_at hl 1 rfl) ?_
      obtain ⟨hin, h⟩ := gd_x h
      have hw7 := q_sheet (i := a1) hin
      refine r_aald4 F X (ar_X9_10 qC0) hin dX9_lose_43 ?_
      refine gf_X9_171 F X hw7 dX9_lose_44 ?_
      have h := sm_x h
      exact RT H locs _ _ 47 ls X h dX9_lose_47
    · have h := it_n h c4
      refine lv_aload_n hx hb dX9_lose_22 rfl (lv_at hl 0 rfl) ?_
      refine lv_iconst (v := 1) hx hb dX9_lose_23 (by decide) ?_
      obtain ⟨r8, hr8, h⟩ := bd_x h
      refine r_calli X (r_runV F X (kX9_found l D ad cs A  M 1 _ hr8) gm_X9_167 hd_X9_found ⟨Nat.le_of_ble_eq_true rfl, Nat.le_of_ble_eq_true rfl⟩ qC0 rfl rfl hl.1 rfl (Nat.le_of_ble_eq_true rfl) dX9_lose_24) (fun H locs X => ?_)
      have h := sm_x h
      exact RT H locs _ _ 27 ls X h dX9_lose_27
  · have h := it_p h c2
    refine lv_bipush (v := (-2)) hx hb dX9_lose_7 (by decide) ?_
    have h := sm_x h
    exact RT H locs _ _ 9 ls X h dX9_lose_9

/-! ===== X9_put ===== -/
def fX9_put (M : Mem) (a1 : Int32) (a2 : Int32) (a3 : Int32) (a4 : Int32) : Option (Int32 × Mem) :=
  (fX9_isSheet a1).bind fun r1 =>
  (if r1 = 0 then
    some ((-2), M)
  else
    (fX9_isForm a2).bind fun r3 =>
    (if r3 = 0 then
      some ((-2), M)
    else
      gd (inB a1 4) <|
      (fX4_faultOf (21 + Int32.toNatClampNeg a1) M a2 a3).bind fun r6 =>
      nm (r6 : Int32) fun u7 =>
      (if u7 = 0 then
        gd (inB a1 4) <|
        (fX4_store (21 + Int32.toNatClampNeg a1) M a3 a4).bind fun r10 =>
        some (1, r10)
      else
        (fX9_found M u7).bind fun r11 =>
        some (r11.1, r11.2))))
set_option maxHeartbeats 4000000 in
set_option maxRecDepth 100000 in
theorem kX9_put (l : Launch) (D : va_G) (ad : Nat → Nat) (cs : Nat → ClassId) (A : Nat → Prop)  (M : Mem) (a1 : Int32) (a2 : Int32) (a3 : Int32) (a4 : Int32) (z : (Int32 × Mem)) (hz : fX9_put M a1 a2 a3 a4 = some z) : Met l yX9_put (wsU yX9_put cX9_put 6 (some .int)) (rmo 3 105) (va_Pc [.ref (ad (cO GC 0)), .int a1, .int a2, .int a3, .int a4] (Wd0 D ad cs GC A M)) (va_Qi (fun r u => (r, u) = z) (Wd0 D ad cs GC A) A) 0 0 A := by
  refine ct_i (by decide) rfl okGC (Nat.le_of_ble_eq_true rfl) ?_
  intro p e s m args below meth c Q ls F X hl RT
  have hx := F.1
  have hb := F.2.1
  have hl : lv_has ls 6 [(0, .ref (ad (cO GC 0))), (1, .int a1), (2, .int a2), (3, .int a3), (4, .int a4)] := hl
  obtain ⟨H, hH⟩ : ∃ H, H = s.heap := ⟨_, rfl⟩
  rw [← hH] at X ⊢
  obtain ⟨locs, hlocs⟩ : ∃ locs : List Loc, locs = [] := ⟨_, rfl⟩
  rw [← hlocs] at X ⊢
  clear hH hlocs
  have h := hz
  unfold fX9_put at h
  refine lv_iload_n hx hb dX9_put_0 rfl (lv_at hl 1 rfl) ?_
  obtain ⟨r1, hr1, h⟩ := bd_x h
  refine r_calli0 X (r_runS F X (kX9_isSheet l D ad cs A  M a1 _ hr1) gm_X9_161 hd_X9_isSheet ⟨Nat.le_of_ble_eq_true rfl, Nat.le_of_ble_eq_true rfl⟩ rfl hl.1 rfl (Nat.le_of_ble_eq_true rfl) dX9_put_1) (fun H locs X => ?_)
  refine lv_if_eq (tgt := 14) hx hb dX9_put_4 (by decide) (fun c2 => ?_) (fun c2 => ?_)
  · have h := it_p h c2
    refine lv_bipush (v := (-2)) hx hb dX9_put_14 (by decide) ?_
    have h := sm_x h
    exact RT H locs _ _ 16 ls X h dX9_put_16
  · have h := it_n h c2
    refine lv_iload_n hx hb dX9_put_7 rfl (lv_at hl 2 rfl) ?_
    obtain ⟨r3, hr3, h⟩ := bd_x h
    refine r_calli0 X (r_runS F X (kX9_isForm l D ad cs A  M a2 _ hr3) gm_X9_296 hd_X9_isForm ⟨Nat.le_of_ble_eq_true rfl, Nat.le_of_ble_eq_true rfl⟩ rfl hl.1 rfl (Nat.le_of_ble_eq_true rfl) dX9_put_8) (fun H locs X => ?_)
    refine lv_if_ne (tgt := 17) hx hb dX9_put_11 (by decide) (fun c4 => ?_) (fun c4 => ?_)
    · have h := it_n h c4
      refine lv_aload_n hx hb dX9_put_17 rfl (lv_at hl 0 rfl) ?_
      refine gf_X9_72 F X qC0 dX9_put_18 ?_
      refine lv_iload_n hx hb dX9_put_21 rfl (lv_at hl 1 rfl) ?_
      obtain ⟨hin, h⟩ := gd_x h
      have hw5 := q_sheet (i := a1) hin
      refine r_aald4 F X (ar_X9_10 qC0) hin dX9_put_22 ?_
      refine lv_iload_n hx hb dX9_put_23 rfl (lv_at hl 2 rfl) ?_
      refine lv_iload_n hx hb dX9_put_24 rfl (lv_at hl 3 rfl) ?_
      obtain ⟨r6, hr6, h⟩ := bd_x h
      refine r_calli0 X (r_runV F X (kX4_faultOf l D ad cs A hw5 M a2 a3 _ hr6) gm_X9_302 hd_X4_faultOf ⟨Nat.le_of_ble_eq_true rfl, Nat.le_of_ble_eq_true rfl⟩ hw5 rfl rfl hl.1 rfl (Nat.le_of_ble_eq_true rfl) dX9_put_25) (fun H locs X => ?_)
      obtain ⟨u7, eu7, h⟩ := nm_x h
      refine topE eu7 ?_
      refine lv_istore (lv' := [(5, .int u7), (0, .ref (ad (cO GC 0))), (1, .int a1), (2, .int a2), (3, .int a3), (4, .int a4)]) hx hb dX9_put_28 hl (by decide) rfl (fun ls hl => ?_)
      refine lv_iload hx hb dX9_put_30 (lv_at hl 0 rfl) ?_
      refine lv_if_eq (tgt := 42) hx hb dX9_put_32 (by decide) (fun c8 => ?_) (fun c8 => ?_)
      · have h := it_p h c8
        refine lv_aload_n hx hb dX9_put_42 rfl (lv_at hl 1 rfl) ?_
        refine gf_X9_72 F X qC0 dX9_put_43 ?_
        refine lv_iload_n hx hb dX9_put_46 rfl (lv_at hl 2 rfl) ?_
        obtain ⟨hin, h⟩ := gd_x h
        have hw9 := q_sheet (i := a1) hin
        refine r_aald4 F X (ar_X9_10 qC0) hin dX9_put_47 ?_
        refine lv_iload_n hx hb dX9_put_48 rfl (lv_at hl 4 rfl) ?_
        refine lv_iload hx hb dX9_put_49 (lv_at hl 5 rfl) ?_
        obtain ⟨r10, hr10, h⟩ := bd_x h
        refine r_callv X (r_runV F X (kX4_store l D ad cs A hw9 M a3 a4 _ hr10) gm_X9_306 hd_X4_store ⟨Nat.le_of_ble_eq_true rfl, Nat.le_of_ble_eq_true rfl⟩ hw9 rfl rfl hl.1 rfl (Nat.le_of_ble_eq_true rfl) dX9_put_51) (fun H locs X => ?_)
        refine lv_iconst (v := 1) hx hb dX9_put_54 (by decide) ?_
        have h := sm_x h
        exact RT H locs _ _ 55 ls X h dX9_put_55
      · have h := it_n h c8
        refine lv_aload_n hx hb dX9_put_35 rfl (lv_at hl 1 rfl) ?_
        refine lv_iload hx hb dX9_put_36 (lv_at hl 0 rfl) ?_
        obtain ⟨r11, hr11, h⟩ := bd_x h
        refine r_calli X (r_runV F X (kX9_found l D ad cs A  M u7 _ hr11) gm_X9_167 hd_X9_found ⟨Nat.le_of_ble_eq_true rfl, Nat.le_of_ble_eq_true rfl⟩ qC0 rfl rfl hl.1 rfl (Nat.le_of_ble_eq_true rfl) dX9_put_38) (fun H locs X => ?_)
        have h := sm_x h
        exact RT H locs _ _ 41 ls X h dX9_put_41
    · have h := it_p h c4
      refine lv_bipush (v := (-2)) hx hb dX9_put_14 (by decide) ?_
      have h := sm_x h
      exact RT H locs _ _ 16 ls X h dX9_put_16

/-! ===== X9_get ===== -/
def fX9_get (M : Mem) (a1 : Int32) (a2 : Int32) (a3 : Int32) : Option (Int32 × Mem) :=
  (fX9_isSheet a1).bind fun r1 =>
  (if r1 = 0 then
    some ((-2147483648), M)
  else
    (fX9_isForm a2).bind fun r3 =>
    (if r3 = 0 then
      some ((-2147483648), M)
    else
      gd (inB a1 4) <|
      (fX4_faultOf (21 + Int32.toNatClampNeg a1) M a2 a3).bind fun r6 =>
      nm (r6 : Int32) fun u7 =>
      (if u7 = 0 then
        gd (inB a1 4) <|
        gd (inB a3 60) <|
        some (M (21 + Int32.toNatClampNeg a1) 0 (Int32.toNatClampNeg a3), M)
      else
        nm (wr M 0 13 0 u7) fun M10 =>
        some ((-2147483648), M10))))
set_option maxHeartbeats 4000000 in
set_option maxRecDepth 100000 in
theorem kX9_get (l : Launch) (D : va_G) (ad : Nat → Nat) (cs : Nat → ClassId) (A : Nat → Prop)  (M : Mem) (a1 : Int32) (a2 : Int32) (a3 : Int32) (z : (Int32 × Mem)) (hz : fX9_get M a1 a2 a3 = some z) : Met l yX9_get (wsU yX9_get cX9_get 5 (some .int)) (rmo 3 105) (va_Pc [.ref (ad (cO GC 0)), .int a1, .int a2, .int a3] (Wd0 D ad cs GC A M)) (va_Qi (fun r u => (r, u) = z) (Wd0 D ad cs GC A) A) 0 0 A := by
  refine ct_i (by decide) rfl okGC (Nat.le_of_ble_eq_true rfl) ?_
  intro p e s m args below meth c Q ls F X hl RT
  have hx := F.1
  have hb := F.2.1
  have hl : lv_has ls 5 [(0, .ref (ad (cO GC 0))), (1, .int a1), (2, .int a2), (3, .int a3)] := hl
  obtain ⟨H, hH⟩ : ∃ H, H = s.heap := ⟨_, rfl⟩
  rw [← hH] at X ⊢
  obtain ⟨locs, hlocs⟩ : ∃ locs : List Loc, locs = [] := ⟨_, rfl⟩
  rw [← hlocs] at X ⊢
  clear hH hlocs
  have h := hz
  unfold fX9_get at h
  refine lv_iload_n hx hb dX9_get_0 rfl (lv_at hl 1 rfl) ?_
  obtain ⟨r1, hr1, h⟩ := bd_x h
  refine r_calli0 X (r_runS F X (kX9_isSheet l D ad cs A  M a1 _ hr1) gm_X9_161 hd_X9_isSheet ⟨Nat.le_of_ble_eq_true rfl, Nat.le_of_ble_eq_true rfl⟩ rfl hl.1 rfl (Nat.le_of_ble_eq_true rfl) dX9_get_1) (fun H locs X => ?_)
  refine lv_if_eq (tgt := 14) hx hb dX9_get_4 (by decide) (fun c2 => ?_) (fun c2 => ?_)
  · have h := it_p h c2
    refine lv_ldcw (v := (-2147483648)) hx hb F.2.2.2.1 (F.2.2.2.2 _ (mT3 230 rfl rfl)) dX9_get_14 ?_
    have h := sm_x h
    exact RT H locs _ _ 17 ls X h dX9_get_17
  · have h := it_n h c2
    refine lv_iload_n hx hb dX9_get_7 rfl (lv_at hl 2 rfl) ?_
    obtain ⟨r3, hr3, h⟩ := bd_x h
    refine r_calli0 X (r_runS F X (kX9_isForm l D ad cs A  M a2 _ hr3) gm_X9_296 hd_X9_isForm ⟨Nat.le_of_ble_eq_true rfl, Nat.le_of_ble_eq_true rfl⟩ rfl hl.1 rfl (Nat.le_of_ble_eq_true rfl) dX9_get_8) (fun H locs X => ?_)
    refine lv_if_ne (tgt := 18) hx hb dX9_get_11 (by decide) (fun c4 => ?_) (fun c4 => ?_)
    · have h := it_n h c4
      refine lv_aload_n hx hb dX9_get_18 rfl (lv_at hl 0 rfl) ?_
      refine gf_X9_72 F X qC0 dX9_get_19 ?_
      refine lv_iload_n hx hb dX9_get_22 rfl (lv_at hl 1 rfl) ?_
      obtain ⟨hin, h⟩ := gd_x h
      have hw5 := q_sheet (i := a1) hin
      refine r_aald4 F X (ar_X9_10 qC0) hin dX9_get_23 ?_
      refine lv_iload_n hx hb dX9_get_24 rfl (lv_at hl 2 rfl) ?_
      refine lv_iload_n hx hb dX9_get_25 rfl (lv_at hl 3 rfl) ?_
      obtain ⟨r6, hr6, h⟩ := bd_x h
      refine r_calli0 X (r_runV F X (kX4_faultOf l D ad cs A hw5 M a2 a3 _ hr6) gm_X9_302 hd_X4_faultOf ⟨Nat.le_of_ble_eq_true rfl, Nat.le_of_ble_eq_true rfl⟩ hw5 rfl rfl hl.1 rfl (Nat.le_of_ble_eq_true rfl) dX9_get_26) (fun H locs X => ?_)
      obtain ⟨u7, eu7, h⟩ := nm_x h
      refine topE eu7 ?_
      refine lv_istore (lv' := [(4, .int u7), (0, .ref (ad (cO GC 0))), (1, .int a1), (2, .int a2), (3, .int a3)]) hx hb dX9_get_29 hl (by decide) rfl (fun ls hl => ?_)
      refine lv_iload hx hb dX9_get_31 (lv_at hl 0 rfl) ?_
      refine lv_if_eq (tgt := 46) hx hb dX9_get_33 (by decide) (fun c8 => ?_) (fun c8 => ?_)
      · have h := it_p h c8
        refine lv_aload_n hx hb dX9_get_46 rfl (lv_at hl 1 rfl) ?_
        refine gf_X9_72 F X qC0 dX9_get_47 ?_
        refine lv_iload_n hx hb dX9_get_50 rfl (lv_at hl 2 rfl) ?_
        obtain ⟨hin, h⟩ := gd_x h
        have hw9 := q_sheet (i := a1) hin
        refine r_aald4 F X (ar_X9_10 qC0) hin dX9_get_51 ?_
        refine gf_X9_172 F X hw9 dX9_get_52 ?_
        refine lv_iload_n hx hb dX9_get_55 rfl (lv_at hl 4 rfl) ?_
        obtain ⟨hin, h⟩ := gd_x h
        refine r_iald F X (ar_X4_0 hw9) hin dX9_get_56 ?_
        have h := sm_x h
        exact RT H locs _ _ 57 ls X h dX9_get_57
      · have h := it_n h c8
        refine lv_aload_n hx hb dX9_get_36 rfl (lv_at hl 1 rfl) ?_
        refine lv_iload hx hb dX9_get_37 (lv_at hl 0 rfl) ?_
        obtain ⟨M10, eM10, h⟩ := nm_x h
        refine pf_X9_83 F X qC0 dX9_get_39 (fun H locs X => ?_)
        have X := Wd_eq eM10 X
        refine lv_ldcw (v := (-2147483648)) hx hb F.2.2.2.1 (F.2.2.2.2 _ (mT3 230 rfl rfl)) dX9_get_42 ?_
        have h := sm_x h
        exact RT H locs _ _ 45 ls X h dX9_get_45
    · have h := it_p h c4
      refine lv_ldcw (v := (-2147483648)) hx hb F.2.2.2.1 (F.2.2.2.2 _ (mT3 230 rfl rfl)) dX9_get_14 ?_
      have h := sm_x h
      exact RT H locs _ _ 17 ls X h dX9_get_17

/-! ===== X9_copy ===== -/
def fX9_copy (M : Mem) (a1 : Int32) (a2 : Int32) (a3 : Int32) (a4 : Int32) (a5 : Int32) : Option (Int32 × Mem) :=
  (fX9_isSheet a1).bind fun r1 =>
  (if r1 = 0 then
    some ((-2), M)
  else
    (fX9_isSheet a3).bind fun r3 =>
    (if r3 = 0 then
      some ((-2), M)
    else
      gd (inB a1 4) <|
      gd (inB a3 4) <|
      (if (M (21 + Int32.toNatClampNeg a1) 1 0) = 0 then
        if (M (21 + Int32.toNatClampNeg a3) 1 0) = 0 then
          if (M (21 + Int32.toNatClampNeg a1) 2 0) = (M (21 + Int32.toNatClampNeg a3) 2 0) then
            (fX4_hasRange (21 + Int32.toNatClampNeg a1) M a2 a5).bind fun r11 =>
            (if r11 = 0 then
              (fX9_found M 2).bind fun r13 =>
              some (r13.1, r13.2)
            else
              (fX4_hasRange (21 + Int32.toNatClampNeg a3) M a4 a5).bind fun r14 =>
              (if r14 = 0 then
                (fX9_found M 2).bind fun r17 =>
                some (r17.1, r17.2)
              else
                gd (¬ a2 < 0 ∧ ¬ a4 < 0 ∧ ¬ a5 < 0 ∧ Int32.toNatClampNeg a2 + Int32.toNatClampNeg a5 ≤ 60 ∧ Int32.toNatClampNeg a4 + Int32.toNatClampNeg a5 ≤ 60) <|
                nm (cpM M (21 + Int32.toNatClampNeg a1) 0 (21 + Int32.toNatClampNeg a3) 0 (Int32.toNatClampNeg a2) (Int32.toNatClampNeg a4) (Int32.toNatClampNeg a5)) fun M16 =>
                some (1, M16)))
          else
            (fX9_found M 4).bind fun r18 =>
            some (r18.1, r18.2)
        else
          (fX9_found M 1).bind fun r19 =>
          some (r19.1, r19.2)
      else
        (fX9_found M 1).bind fun r8 =>
        some (r8.1, r8.2))))
set_option maxHeartbeats 4000000 in
set_option maxRecDepth 100000 in
theorem kX9_copy (l : Launch) (D : va_G) (ad : Nat → Nat) (cs : Nat → ClassId) (A : Nat → Prop)  (M : Mem) (a1 : Int32) (a2 : Int32) (a3 : Int32) (a4 : Int32) (a5 : Int32) (z : (Int32 × Mem)) (hz : fX9_copy M a1 a2 a3 a4 a5 = some z) : Met l yX9_copy (wsU yX9_copy cX9_copy 8 (some .int)) (rmo 3 105) (va_Pc [.ref (ad (cO GC 0)), .int a1, .int a2, .int a3, .int a4, .int a5] (Wd0 D ad cs GC A M)) (va_Qi (fun r u => (r, u) = z) (Wd0 D ad cs GC A) A) 0 0 A := by
  refine ct_i (by decide) rfl okGC (Nat.le_of_ble_eq_true rfl) ?_
  intro p e s m args below meth c Q ls F X hl RT
  have hx := F.1
  have hb := F.2.1
  have hl : lv_has ls 8 [(0, .ref (ad (cO GC 0))), (1, .int a1), (2, .int a2), (3, .int a3), (4, .int a4), (5, .int a5)] := hl
  obtain ⟨H, hH⟩ : ∃ H, H = s.heap := ⟨_, rfl⟩
  rw [← hH] at X ⊢
  obtain ⟨locs, hlocs⟩ : ∃ locs : List Loc, locs = [] := ⟨_, rfl⟩
  rw [← hlocs] at X ⊢
  clear hH hlocs
  have h := hz
  unfold fX9_copy at h
  refine lv_iload_n hx hb dX9_copy_0 rfl (lv_at hl 1 rfl) ?_
  obtain ⟨r1, hr1, h⟩ := bd_x h
  refine r_calli0 X (r_runS F X (kX9_isSheet l D ad cs A  M a1 _ hr1) gm_X9_161 hd_X9_isSheet ⟨Nat.le_of_ble_eq_true rfl, Nat.le_of_ble_eq_true rfl⟩ rfl hl.1 rfl (Nat.le_of_ble_eq_true rfl) dX9_copy_1) (fun H locs X => ?_)
  refine lv_if_eq (tgt := 14) hx hb dX9_copy_4 (by decide) (fun c2 => ?_) (fun c2 => ?_)
  · have h := it_p h c2
    refine lv_bipush (v := (-2)) hx hb dX9_copy_14 (by decide) ?_
    have h := sm_x h
    exact RT H locs _ _ 16 ls X h dX9_copy_16
  · have h := it_n h c2
    refine lv_iload_n hx hb dX9_copy_7 rfl (lv_at hl 3 rfl) ?_
    obtain ⟨r3, hr3, h⟩ := bd_x h
    refine r_calli0 X (r_runS F X (kX9_isSheet l D ad cs A  M a3 _ hr3) gm_X9_161 hd_X9_isSheet ⟨Nat.le_of_ble_eq_true rfl, Nat.le_of_ble_eq_true rfl⟩ rfl hl.1 rfl (Nat.le_of_ble_eq_true rfl) dX9_copy_8) (fun H locs X => ?_)
    refine lv_if_ne (tgt := 17) hx hb dX9_copy_11 (by decide) (fun c4 => ?_) (fun c4 => ?_)
    · have h := it_n h c4
      refine lv_aload_n hx hb dX9_copy_17 rfl (lv_at hl 0 rfl) ?_
      refine gf_X9_72 F X qC0 dX9_copy_18 ?_
      refine lv_iload_n hx hb dX9_copy_21 rfl (lv_at hl 1 rfl) ?_
      obtain ⟨hin, h⟩ := gd_x h
      have hw5 := q_sheet (i := a1) hin
      refine r_aald4 F X (ar_X9_10 qC0) hin dX9_copy_22 ?_
      refine lv_astore (lv' := [(6, .ref (ad (cO GC (21 + Int32.toNatClampNeg a1)))), (0, .ref (ad (cO GC 0))), (1, .int a1), (2, .int a2), (3, .int a3), (4, .int a4), (5, .int a5)]) hx hb dX9_copy_23 hl (by decide) rfl (fun ls hl => ?_)
      refine lv_aload_n hx hb dX9_copy_25 rfl (lv_at hl 1 rfl) ?_
      refine gf_X9_72 F X qC0 dX9_copy_26 ?_
      refine lv_iload_n hx hb dX9_copy_29 rfl (lv_at hl 4 rfl) ?_
      obtain ⟨hin, h⟩ := gd_x h
      have hw6 := q_sheet (i := a3) hin
      refine r_aald4 F X (ar_X9_10 qC0) hin dX9_copy_30 ?_
      refine lv_astore (lv' := [(7, .ref (ad (cO GC (21 + Int32.toNatClampNeg a3)))), (6, .ref (ad (cO GC (21 + Int32.toNatClampNeg a1)))), (0, .ref (ad (cO GC 0))), (1, .int a1), (2, .int a2), (3, .int a3), (4, .int a4), (5, .int a5)]) hx hb dX9_copy_31 hl (by decide) rfl (fun ls hl => ?_)
      refine lv_aload hx hb dX9_copy_33 (lv_at hl 1 rfl) ?_
      refine gf_X9_164 F X hw5 dX9_copy_35 ?_
      refine lv_if_ne (tgt := 49) hx hb dX9_copy_38 (by decide) (fun c7 => ?_) (fun c7 => ?_)
      · have h := it_n h c7
        refine lv_aload_n hx hb dX9_copy_49 rfl (lv_at hl 2 rfl) ?_
        refine lv_iconst (v := 1) hx hb dX9_copy_50 (by decide) ?_
        obtain ⟨r8, hr8, h⟩ := bd_x h
        refine r_calli X (r_runV F X (kX9_found l D ad cs A  M 1 _ hr8) gm_X9_167 hd_X9_found ⟨Nat.le_of_ble_eq_true rfl, Nat.le_of_ble_eq_true rfl⟩ qC0 rfl rfl hl.1 rfl (Nat.le_of_ble_eq_true rfl) dX9_copy_51) (fun H locs X => ?_)
        have h := sm_x h
        exact RT H locs _ _ 54 ls X h dX9_copy_54
      · have h := it_p h c7
        refine lv_aload hx hb dX9_copy_41 (lv_at hl 0 rfl) ?_
        refine gf_X9_164 F X hw6 dX9_copy_43 ?_
        refine lv_if_eq (tgt := 55) hx hb dX9_copy_46 (by decide) (fun c9 => ?_) (fun c9 => ?_)
        · have h := it_p h c9
          refine lv_aload hx hb dX9_copy_55 (lv_at hl 1 rfl) ?_
          refine gf_X9_310 F X hw5 dX9_copy_57 ?_
          refine lv_aload hx hb dX9_copy_60 (lv_at hl 0 rfl) ?_
          refine gf_X9_310 F X hw6 dX9_copy_62 ?_
          refine lv_icmp_eq (tgt := 74) hx hb dX9_copy_65 (by decide) (fun c10 => ?_) (fun c10 => ?_)
          · have h := it_p h c10
            refine lv_aload hx hb dX9_copy_74 (lv_at hl 1 rfl) ?_
            refine lv_iload_n hx hb dX9_copy_76 rfl (lv_at hl 4 rfl) ?_
            refine lv_iload hx hb dX9_copy_77 (lv_at hl 7 rfl) ?_
            obtain ⟨r11, hr11, h⟩ := bd_x h
            refine r_calli0 X (r_runV F X (kX4_hasRange l D ad cs A hw5 M a2 a5 _ hr11) gm_X9_313 hd_X4_hasRange ⟨Nat.le_of_ble_eq_true rfl, Nat.le_of_ble_eq_true rfl⟩ hw5 rfl rfl hl.1 rfl (Nat.le_of_ble_eq_true rfl) dX9_copy_79) (fun H locs X => ?_)
            refine lv_if_eq (tgt := 97) hx hb dX9_copy_82 (by decide) (fun c12 => ?_) (fun c12 => ?_)
            · have h := it_p h c12
              refine lv_aload_n hx hb dX9_copy_97 rfl (lv_at hl 2 rfl) ?_
              refine lv_iconst (v := 2) hx hb dX9_copy_98 (by decide) ?_
              obtain ⟨r13, hr13, h⟩ := bd_x h
              refine r_calli X (r_runV F X (kX9_found l D ad cs A  M 2 _ hr13) gm_X9_167 hd_X9_found ⟨Nat.le_of_ble_eq_true rfl, Nat.le_of_ble_eq_true rfl⟩ qC0 rfl rfl hl.1 rfl (Nat.le_of_ble_eq_true rfl) dX9_copy_99) (fun H locs X => ?_)
              have h := sm_x h
              exact RT H locs _ _ 102 ls X h dX9_copy_102
            · have h := it_n h c12
              refine lv_aload hx hb dX9_copy_85 (lv_at hl 0 rfl) ?_
              refine lv_iload hx hb dX9_copy_87 (lv_at hl 6 rfl) ?_
              refine lv_iload hx hb dX9_copy_89 (lv_at hl 7 rfl) ?_
              obtain ⟨r14, hr14, h⟩ := bd_x h
              refine r_calli0 X (r_runV F X (kX4_hasRange l D ad cs A hw6 M a4 a5 _ hr14) gm_X9_313 hd_X4_hasRange ⟨Nat.le_of_ble_eq_true rfl, Nat.le_of_ble_eq_true rfl⟩ hw6 rfl rfl hl.1 rfl (Nat.le_of_ble_eq_true rfl) dX9_copy_91) (fun H locs X => ?_)
              refine lv_if_ne (tgt := 103) hx hb dX9_copy_94 (by decide) (fun c15 => ?_) (fun c15 => ?_)
              · have h := it_n h c15
                refine lv_aload hx hb dX9_copy_103 (lv_at hl 1 rfl) ?_
                refine gf_X9_172 F X hw5 dX9_copy_105 ?_
                refine lv_iload_n hx hb dX9_copy_108 rfl (lv_at hl 4 rfl) ?_
                refine lv_aload hx hb dX9_copy_109 (lv_at hl 0 rfl) ?_
                refine gf_X9_172 F X hw6 dX9_copy_111 ?_
                refine lv_iload hx hb dX9_copy_114 (lv_at hl 6 rfl) ?_
                refine lv_iload hx hb dX9_copy_116 (lv_at hl 7 rfl) ?_
                obtain ⟨hcp, h⟩ := gd_x h
                obtain ⟨M16, eM16, h⟩ := nm_x h
                refine r_copy F X hl.1 (ar_X4_0 hw5) (ar_X4_0 hw6) (mT2 60 rfl rfl) (mT2 62 rfl rfl) (mT2 61 rfl rfl) (mT1 11 rfl rfl) hcp (Nat.le_of_ble_eq_true rfl) (Nat.le_of_ble_eq_true rfl) dX9_copy_118 (fun H locs X => ?_)
                have X := Wd_eq eM16 X
                refine lv_iconst (v := 1) hx hb dX9_copy_121 (by decide) ?_
                have h := sm_x h
                exact RT H locs _ _ 122 ls X h dX9_copy_122
              · have h := it_p h c15
                refine lv_aload_n hx hb dX9_copy_97 rfl (lv_at hl 2 rfl) ?_
                refine lv_iconst (v := 2) hx hb dX9_copy_98 (by decide) ?_
                obtain ⟨r17, hr17, h⟩ := bd_x h
                refine r_calli X (r_runV F X (kX9_found l D ad cs A  M 2 _ hr17) gm_X9_167 hd_X9_found ⟨Nat.le_of_ble_eq_true rfl, Nat.le_of_ble_eq_true rfl⟩ qC0 rfl rfl hl.1 rfl (Nat.le_of_ble_eq_true rfl) dX9_copy_99) (fun H locs X => ?_)
                have h := sm_x h
                exact RT H locs _ _ 102 ls X h dX9_copy_102
          · have h := it_n h c10
            refine lv_aload_n hx hb dX9_copy_68 rfl (lv_at hl 2 rfl) ?_
            refine lv_iconst (v := 4) hx hb dX9_copy_69 (by decide) ?_
            obtain ⟨r18, hr18, h⟩ := bd_x h
            refine r_calli X (r_runV F X (kX9_found l D ad cs A  M 4 _ hr18) gm_X9_167 hd_X9_found ⟨Nat.le_of_ble_eq_true rfl, Nat.le_of_ble_eq_true rfl⟩ qC0 rfl rfl hl.1 rfl (Nat.le_of_ble_eq_true rfl) dX9_copy_70) (fun H locs X => ?_)
            have h := sm_x h
            exact RT H locs _ _ 73 ls X h dX9_copy_73
        · have h := it_n h c9
          refine lv_aload_n hx hb dX9_copy_49 rfl (lv_at hl 2 rfl) ?_
          refine lv_iconst (v := 1) hx hb dX9_copy_50 (by decide) ?_
          obtain ⟨r19, hr19, h⟩ := bd_x h
          refine r_calli X (r_runV F X (kX9_found l D ad cs A  M 1 _ hr19) gm_X9_167 hd_X9_found ⟨Nat.le_of_ble_eq_true rfl, Nat.le_of_ble_eq_true rfl⟩ qC0 rfl rfl hl.1 rfl (Nat.le_of_ble_eq_true rfl) dX9_copy_51) (fun H locs X => ?_)
          have h := sm_x h
          exact RT H locs _ _ 54 ls X h dX9_copy_54
    · have h := it_p h c4
      refine lv_bipush (v := (-2)) hx hb dX9_copy_14 (by decide) ?_
      have h := sm_x h
      exact RT H locs _ _ 16 ls X h dX9_copy_16

/-! ===== X9_write ===== -/
def fX9_write_63 (a1 : Int32) (a2 : Int32) (x4 : Int32) (x5 : Int32) (M : Mem) : Option ((Int32 × Int32 × Mem) ⊕ (Int32 × Mem)) :=
  if x4 ≤ x5 then
    some (.inr (x4, M))
  else
    gd (inB ((a1 * (8 : Int32)) + x5) 168) <|
    (fX4_store (21 + a2.toNatClampNeg) M x5 (M 4 5 (Int32.toNatClampNeg ((a1 * (8 : Int32)) + x5)))).bind fun r2 =>
    nm (x5 + 1 : Int32) fun u3 =>
    some (.inl (x4, u3, r2))
def fX9_write (M : Mem) (a1 : Int32) (a2 : Int32) : Option (Int32 × Mem) :=
  (fX9_within a1 (M 3 6 0)).bind fun r4 =>
  (if r4 = 0 then
    some ((-2), M)
  else
    (fX9_isSheet a2).bind fun r6 =>
    (if r6 = 0 then
      some ((-2), M)
    else
      gd (inB a2 4) <|
      (if (M (21 + Int32.toNatClampNeg a2) 1 0) = 0 then
        nm (imin (M (21 + Int32.toNatClampNeg a2) 3 0) (M 3 5 0) : Int32) fun u10 =>
        nm (0 : Int32) fun u11 =>
        lpO (fun st => fX9_write_63 a1 a2 st.1 st.2.1 st.2.2) FU (u10, u11, M)
      else
        (fX9_found M 1).bind fun r12 =>
        some (r12.1, r12.2))))
set_option maxHeartbeats 4000000 in
set_option maxRecDepth 100000 in
theorem kX9_write (l : Launch) (D : va_G) (ad : Nat → Nat) (cs : Nat → ClassId) (A : Nat → Prop)  (M : Mem) (a1 : Int32) (a2 : Int32) (z : (Int32 × Mem)) (hz : fX9_write M a1 a2 = some z) : Met l yX9_write (wsU yX9_write cX9_write 6 (some .int)) (rmo 3 105) (va_Pc [.ref (ad (cO GC 0)), .int a1, .int a2] (Wd0 D ad cs GC A M)) (va_Qi (fun r u => (r, u) = z) (Wd0 D ad cs GC A) A) 0 0 A := by
  refine ct_i (by decide) rfl okGC (Nat.le_of_ble_eq_true rfl) ?_
  intro p e s m args below meth c Q ls F X hl RT
  have hx := F.1
  have hb := F.2.1
  have hl : lv_has ls 6 [(0, .ref (ad (cO GC 0))), (1, .int a1), (2, .int a2)] := hl
  obtain ⟨H, hH⟩ : ∃ H, H = s.heap := ⟨_, rfl⟩
  rw [← hH] at X ⊢
  obtain ⟨locs, hlocs⟩ : ∃ locs : List Loc, locs = [] := ⟨_, rfl⟩
  rw [← hlocs] at X ⊢
  clear hH hlocs
  have L63 : ∀ (n : Nat) (H : Heap) (locs : List Loc) (x4 : Int32) (x5 : Int32) (M : Mem) (ls : Array Slot), Wd D ad cs GC A s H locs M → lv_has ls 6 [(0, .ref (ad (cO GC 0))), (1, .int a1), (3, .ref (ad (cO GC (21 + a2.toNatClampNeg)))), (4, .int x4), (5, .int x5)] → GC[cO GC (21 + a2.toNatClampNeg)]? = some ((21 + a2.toNatClampNeg), 0, 4, 0) → ∀ (_ : Unit), lpO (fun st => fX9_write_63 a1 a2 st.1 st.2.1 st.2.2) n (x4, x5, M) = some z → W p l e (rmo 3 105) s m args below meth c H locs 0 0 Q (F0 m 63 ls []) := by
    intro n
    induction n with
    | zero =>
      intro H locs x4 x5 M ls X hl hq3 yy h
      exact lp_0 h
    | succ n1 ih63 =>
      intro H locs x4 x5 M ls X hl hq3 _u h
      obtain ⟨y1, h, hk1⟩ := lp_x h
      unfold fX9_write_63 at h
      refine lv_iload hx hb dX9_write_63 (lv_at hl 4 rfl) ?_
      refine lv_iload hx hb dX9_write_65 (lv_at hl 3 rfl) ?_
      refine lv_icmp_ge (tgt := 97) hx hb dX9_write_67 (by decide) (fun c1 => ?_) (fun c1 => ?_)
      · have h := it_p h c1
        refine lv_iload hx hb dX9_write_97 (lv_at hl 3 rfl) ?_
        have h := sm_x h
        rw [← h] at hk1
        have h := sm_x hk1
        exact RT H locs _ _ 99 ls X h dX9_write_99
      · have h := it_n h c1
        refine lv_aload_n hx hb dX9_write_70 rfl (lv_at hl 2 rfl) ?_
        refine lv_iload hx hb dX9_write_71 (lv_at hl 4 rfl) ?_
        refine lv_aload_n hx hb dX9_write_73 rfl (lv_at hl 0 rfl) ?_
        refine gf_X9_31 F X qC0 dX9_write_74 ?_
        refine gf_X9_190 F X qC4 dX9_write_77 ?_
        refine lv_iload_n hx hb dX9_write_80 rfl (lv_at hl 1 rfl) ?_
        refine lv_bipush (v := 8) hx hb dX9_write_81 (by decide) ?_
        refine lv_imul hx hb dX9_write_83 ?_
        refine lv_iload hx hb dX9_write_84 (lv_at hl 4 rfl) ?_
        refine lv_iadd hx hb dX9_write_86 ?_
        obtain ⟨hin, h⟩ := gd_x h
        refine r_iald F X (ar_X5_5 qC4) hin dX9_write_87 ?_
        obtain ⟨r2, hr2, h⟩ := bd_x h
        refine r_callv X (r_runV F X (kX4_store l D ad cs A hq3 M x5 (M 4 5 (Int32.toNatClampNeg ((a1 * (8 : Int32)) + x5))) _ hr2) gm_X9_306 hd_X4_store ⟨Nat.le_of_ble_eq_true rfl, Nat.le_of_ble_eq_true rfl⟩ hq3 rfl rfl hl.1 rfl (Nat.le_of_ble_eq_true rfl) dX9_write_88) (fun H locs X => ?_)
        obtain ⟨u3, eu3, h⟩ := nm_x h
        refine lv_iinc (v := u3) (lv' := [(5, .int u3), (0, .ref (ad (cO GC 0))), (1, .int a1), (3, .ref (ad (cO GC (21 + a2.toNatClampNeg)))), (4, .int x4)]) hx hb dX9_write_91 hl (k := 4) rfl (by rw [eu3]; rfl) (by decide) rfl (fun ls hl => ?_)
        refine lv_goto (tgt := 63) hx hb dX9_write_94 (by decide) ?_
        rw [← sm_x h] at hk1
        exact ih63 _ _ x4 u3 r2 ls X (lv_sub hl [1, 2, 3, 4, 0] rfl) hq3 () hk1
  have h := hz
  unfold fX9_write at h
  refine lv_iload_n hx hb dX9_write_0 rfl (lv_at hl 1 rfl) ?_
  refine lv_aload_n hx hb dX9_write_1 rfl (lv_at hl 0 rfl) ?_
  refine gf_X9_24 F X qC0 dX9_write_2 ?_
  refine gf_X9_144 F X qC3 dX9_write_5 ?_
  obtain ⟨r4, hr4, h⟩ := bd_x h
  refine r_calli0 X (r_runS F X (kX9_within l D ad cs A  M a1 (M 3 6 0) _ hr4) gm_X9_104 hd_X9_within ⟨Nat.le_of_ble_eq_true rfl, Nat.le_of_ble_eq_true rfl⟩ rfl hl.1 rfl (Nat.le_of_ble_eq_true rfl) dX9_write_8) (fun H locs X => ?_)
  refine lv_if_eq (tgt := 21) hx hb dX9_write_11 (by decide) (fun c5 => ?_) (fun c5 => ?_)
  · have h := it_p h c5
    refine lv_bipush (v := (-2)) hx hb dX9_write_21 (by decide) ?_
    have h := sm_x h
    exact RT H locs _ _ 23 ls X h dX9_write_23
  · have h := it_n h c5
    refine lv_iload_n hx hb dX9_write_14 rfl (lv_at hl 2 rfl) ?_
    obtain ⟨r6, hr6, h⟩ := bd_x h
    refine r_calli0 X (r_runS F X (kX9_isSheet l D ad cs A  M a2 _ hr6) gm_X9_161 hd_X9_isSheet ⟨Nat.le_of_ble_eq_true rfl, Nat.le_of_ble_eq_true rfl⟩ rfl hl.1 rfl (Nat.le_of_ble_eq_true rfl) dX9_write_15) (fun H locs X => ?_)
    refine lv_if_ne (tgt := 24) hx hb dX9_write_18 (by decide) (fun c7 => ?_) (fun c7 => ?_)
    · have h := it_n h c7
      refine lv_aload_n hx hb dX9_write_24 rfl (lv_at hl 0 rfl) ?_
      refine gf_X9_72 F X qC0 dX9_write_25 ?_
      refine lv_iload_n hx hb dX9_write_28 rfl (lv_at hl 2 rfl) ?_
      obtain ⟨hin, h⟩ := gd_x h
      have hw8 := q_sheet (i := a2) hin
      refine r_aald4 F X (ar_X9_10 qC0) hin dX9_write_29 ?_
      refine lv_astore_n (lv' := [(3, .ref (ad (cO GC (21 + Int32.toNatClampNeg a2)))), (0, .ref (ad (cO GC 0))), (1, .int a1), (2, .int a2)]) hx hb dX9_write_30 rfl hl (by decide) rfl (fun ls hl => ?_)
      refine lv_aload_n hx hb dX9_write_31 rfl (lv_at hl 0 rfl) ?_
      refine gf_X9_164 F X hw8 dX9_write_32 ?_
      refine lv_if_eq (tgt := 44) hx hb dX9_write_35 (by decide) (fun c9 => ?_) (fun c9 => ?_)
      · have h := it_p h c9
        refine lv_aload_n hx hb dX9_write_44 rfl (lv_at hl 0 rfl) ?_
        refine gf_X9_171 F X hw8 dX9_write_45 ?_
        refine lv_aload_n hx hb dX9_write_48 rfl (lv_at hl 1 rfl) ?_
        refine gf_X9_24 F X qC0 dX9_write_49 ?_
        refine gf_X9_232 F X qC3 dX9_write_52 ?_
        refine r_mmin F hl.1 (mT4 3 rfl rfl) (mT2 189 rfl rfl) (mT1 14 rfl rfl) (mT2 190 rfl rfl) (Nat.le_of_ble_eq_true rfl) (Nat.le_of_ble_eq_true rfl) dX9_write_55 ?_
        obtain ⟨u10, eu10, h⟩ := nm_x h
        refine topE eu10 ?_
        refine lv_istore (lv' := [(4, .int u10), (3, .ref (ad (cO GC (21 + Int32.toNatClampNeg a2)))), (0, .ref (ad (cO GC 0))), (1, .int a1), (2, .int a2)]) hx hb dX9_write_58 hl (by decide) rfl (fun ls hl => ?_)
        refine lv_iconst (v := 0) hx hb dX9_write_60 (by decide) ?_
        obtain ⟨u11, eu11, h⟩ := nm_x h
        refine topE eu11 ?_
        refine lv_istore (lv' := [(5, .int u11), (4, .int u10), (3, .ref (ad (cO GC (21 + Int32.toNatClampNeg a2)))), (0, .ref (ad (cO GC 0))), (1, .int a1), (2, .int a2)]) hx hb dX9_write_61 hl (by decide) rfl (fun ls hl => ?_)
        exact L63 FU _ _ u10 u11 M ls X (lv_sub hl [3, 4, 2, 1, 0] rfl) hw8 () h
      · have h := it_n h c9
        refine lv_aload_n hx hb dX9_write_38 rfl (lv_at hl 1 rfl) ?_
        refine lv_iconst (v := 1) hx hb dX9_write_39 (by decide) ?_
        obtain ⟨r12, hr12, h⟩ := bd_x h
        refine r_calli X (r_runV F X (kX9_found l D ad cs A  M 1 _ hr12) gm_X9_167 hd_X9_found ⟨Nat.le_of_ble_eq_true rfl, Nat.le_of_ble_eq_true rfl⟩ qC0 rfl rfl hl.1 rfl (Nat.le_of_ble_eq_true rfl) dX9_write_40) (fun H locs X => ?_)
        have h := sm_x h
        exact RT H locs _ _ 43 ls X h dX9_write_43
    · have h := it_p h c7
      refine lv_bipush (v := (-2)) hx hb dX9_write_21 (by decide) ?_
      have h := sm_x h
      exact RT H locs _ _ 23 ls X h dX9_write_23

/-! ===== X9_count ===== -/
def fX9_count (M : Mem) (a1 : Int32) : Option Int32 :=
  if a1 = 0 then
    some (M 3 5 0)
  else
    if a1 = 1 then
      some (M 3 6 0)
    else
      if a1 = 2 then
        some (M 1 1 0)
      else
        if a1 = 3 then
          some (M 2 1 0)
        else
          if a1 = 4 then
            some (M 9 1 0)
          else
            if a1 = 5 then
              some (M 5 6 0)
            else
              if a1 = 6 then
                (fX7_allFields 5 M).bind fun r8 =>
                some r8
              else
                if a1 = 7 then
                  some (M 10 2 0)
                else
                  if a1 = 8 then
                    some (M 0 13 0)
                  else
                    some (-2)
set_option maxHeartbeats 4000000 in
set_option maxRecDepth 100000 in
theorem kX9_count (l : Launch) (D : va_G) (ad : Nat → Nat) (cs : Nat → ClassId) (A : Nat → Prop)  (M : Mem) (a1 : Int32) (z : Int32) (hz : fX9_count M a1 = some z) : Met l yX9_count (wsU yX9_count cX9_count 2 (some .int)) (rmo 2 86) (va_Pc [.ref (ad (cO GC 0)), .int a1] (Wd0 D ad cs GC A M)) (va_Qi (fun r u => (r, u) = (z, M)) (Wd0 D ad cs GC A) A) 0 0 A := by
  refine ct_i0 (by decide) rfl okGC (Nat.le_of_ble_eq_true rfl) ?_
  intro p e s m args below meth c Q ls F X hl RT
  have hx := F.1
  have hb := F.2.1
  have hl : lv_has ls 2 [(0, .ref (ad (cO GC 0))), (1, .int a1)] := hl
  obtain ⟨H, hH⟩ : ∃ H, H = s.heap := ⟨_, rfl⟩
  rw [← hH] at X ⊢
  obtain ⟨locs, hlocs⟩ : ∃ locs : List Loc, locs = [] := ⟨_, rfl⟩
  rw [← hlocs] at X ⊢
  clear hH hlocs
  have h := hz
  unfold fX9_count at h
  refine lv_iload_n hx hb dX9_count_0 rfl (lv_at hl 1 rfl) ?_
  by_cases c1 : a1 = 0
  · have h := it_p h c1
    refine r_tabI (off := 51) (tgt := 52) hx hb dX9_count_1 c1 (by decide) (by decide) (by decide) (by decide) ?_
    refine lv_aload_n hx hb dX9_count_52 rfl (lv_at hl 0 rfl) ?_
    refine gf_X9_24 F X qC0 dX9_count_53 ?_
    refine gf_X9_232 F X qC3 dX9_count_56 ?_
    have h := sm_x h
    exact RT H locs _ 59 ls X h dX9_count_59
  · have h := it_n h c1
    by_cases c2 : a1 = 1
    · have h := it_p h c2
      refine r_tabI (off := 59) (tgt := 60) hx hb dX9_count_1 c2 (by decide) (by decide) (by decide) (by decide) ?_
      refine lv_aload_n hx hb dX9_count_60 rfl (lv_at hl 0 rfl) ?_
      refine gf_X9_24 F X qC0 dX9_count_61 ?_
      refine gf_X9_144 F X qC3 dX9_count_64 ?_
      have h := sm_x h
      exact RT H locs _ 67 ls X h dX9_count_67
    · have h := it_n h c2
      by_cases c3 : a1 = 2
      · have h := it_p h c3
        refine r_tabI (off := 67) (tgt := 68) hx hb dX9_count_1 c3 (by decide) (by decide) (by decide) (by decide) ?_
        refine lv_aload_n hx hb dX9_count_68 rfl (lv_at hl 0 rfl) ?_
        refine gf_X9_14 F X qC0 dX9_count_69 ?_
        refine gf_X9_122 F X qC1 dX9_count_72 ?_
        have h := sm_x h
        exact RT H locs _ 75 ls X h dX9_count_75
      · have h := it_n h c3
        by_cases c4 : a1 = 3
        · have h := it_p h c4
          refine r_tabI (off := 75) (tgt := 76) hx hb dX9_count_1 c4 (by decide) (by decide) (by decide) (by decide) ?_
          refine lv_aload_n hx hb dX9_count_76 rfl (lv_at hl 0 rfl) ?_
          refine gf_X9_18 F X qC0 dX9_count_77 ?_
          refine gf_X9_122 F X qC2 dX9_count_80 ?_
          have h := sm_x h
          exact RT H locs _ 83 ls X h dX9_count_83
        · have h := it_n h c4
          by_cases c5 : a1 = 4
          · have h := it_p h c5
            refine r_tabI (off := 83) (tgt := 84) hx hb dX9_count_1 c5 (by decide) (by decide) (by decide) (by decide) ?_
            refine lv_aload_n hx hb dX9_count_84 rfl (lv_at hl 0 rfl) ?_
            refine gf_X9_45 F X qC0 dX9_count_85 ?_
            refine gf_X9_156 F X qC9 dX9_count_88 ?_
            have h := sm_x h
            exact RT H locs _ 91 ls X h dX9_count_91
          · have h := it_n h c5
            by_cases c6 : a1 = 5
            · have h := it_p h c6
              refine r_tabI (off := 91) (tgt := 92) hx hb dX9_count_1 c6 (by decide) (by decide) (by decide) (by decide) ?_
              refine lv_aload_n hx hb dX9_count_92 rfl (lv_at hl 0 rfl) ?_
              refine gf_X9_31 F X qC0 dX9_count_93 ?_
              refine gf_X9_199 F X qC4 dX9_count_96 ?_
              refine gf_X9_293 F X qC5 dX9_count_99 ?_
              have h := sm_x h
              exact RT H locs _ 102 ls X h dX9_count_102
            · have h := it_n h c6
              by_cases c7 : a1 = 6
              · have h := it_p h c7
                refine r_tabI (off := 102) (tgt := 103) hx hb dX9_count_1 c7 (by decide) (by decide) (by decide) (by decide) ?_
                refine lv_aload_n hx hb dX9_count_103 rfl (lv_at hl 0 rfl) ?_
                refine gf_X9_31 F X qC0 dX9_count_104 ?_
                refine gf_X9_199 F X qC4 dX9_count_107 ?_
                obtain ⟨r8, hr8, h⟩ := bd_x h
                refine r_calli0 X (r_runV F X (kX7_allFields l D ad cs A qC5 M  _ hr8) gm_X9_321 hd_X7_allFields ⟨Nat.le_of_ble_eq_true rfl, Nat.le_of_ble_eq_true rfl⟩ qC5 rfl rfl hl.1 rfl (Nat.le_of_ble_eq_true rfl) dX9_count_110) (fun H locs X => ?_)
                have h := sm_x h
                exact RT H locs _ 113 ls X h dX9_count_113
              · have h := it_n h c7
                by_cases c9 : a1 = 7
                · have h := it_p h c9
                  refine r_tabI (off := 113) (tgt := 114) hx hb dX9_count_1 c9 (by decide) (by decide) (by decide) (by decide) ?_
                  refine lv_aload_n hx hb dX9_count_114 rfl (lv_at hl 0 rfl) ?_
                  refine gf_X9_52 F X qC0 dX9_count_115 ?_
                  refine gf_X9_253 F X qC10 dX9_count_118 ?_
                  have h := sm_x h
                  exact RT H locs _ 121 ls X h dX9_count_121
                · have h := it_n h c9
                  by_cases c10 : a1 = 8
                  · have h := it_p h c10
                    refine r_tabI (off := 121) (tgt := 122) hx hb dX9_count_1 c10 (by decide) (by decide) (by decide) (by decide) ?_
                    refine lv_aload_n hx hb dX9_count_122 rfl (lv_at hl 0 rfl) ?_
                    refine gf_X9_83 F X qC0 dX9_count_123 ?_
                    have h := sm_x h
                    exact RT H locs _ 126 ls X h dX9_count_126
                  · have h := it_n h c10
                    refine r_tabO (tgt := 127) hx hb dX9_count_1 8 (by decide) (by decide) (fun k hk => by rcases (show k = 0 ∨ k = 1 ∨ k = 2 ∨ k = 3 ∨ k = 4 ∨ k = 5 ∨ k = 6 ∨ k = 7 ∨ k = 8 by omega) with rfl | rfl | rfl | rfl | rfl | rfl | rfl | rfl | rfl <;> assumption) (by decide) ?_
                    refine lv_bipush (v := (-2)) hx hb dX9_count_127 (by decide) ?_
                    have h := sm_x h
                    exact RT H locs _ 129 ls X h dX9_count_129

/-! ===== X9_mixed ===== -/
def fX9_mixed (a0 : Int64) (a2 : Int64) : Option Int64 :=
  some (((31 : Int64) * a0) + a2)
set_option maxHeartbeats 4000000 in
set_option maxRecDepth 100000 in
theorem kX9_mixed (l : Launch) (D : va_G) (ad : Nat → Nat) (cs : Nat → ClassId) (A : Nat → Prop)  (M : Mem) (a0 : Int64) (a2 : Int64) (z : Int64) (hz : fX9_mixed a0 a2 = some z) : Met l yX9_mixed (wsU yX9_mixed cX9_mixed 4 (some .long)) (rmo 1 64) (va_Pc [.long a0, .long a2] (Wd0 D ad cs GC A M)) (va_Ql (fun r u => (r, u) = (z, M)) (Wd0 D ad cs GC A) A) 0 0 A := by
  refine ct_l0 (by decide) rfl okGC (Nat.le_of_ble_eq_true rfl) ?_
  intro p e s m args below meth c Q ls F X hl RT
  have hx := F.1
  have hb := F.2.1
  have hl : lv_has ls 4 [(0, .long a0), (2, .long a2)] := hl
  obtain ⟨H, hH⟩ : ∃ H, H = s.heap := ⟨_, rfl⟩
  rw [← hH] at X ⊢
  obtain ⟨locs, hlocs⟩ : ∃ locs : List Loc, locs = [] := ⟨_, rfl⟩
  rw [← hlocs] at X ⊢
  clear hH hlocs
  have h := hz
  unfold fX9_mixed at h
  refine lv_ldc2 (v := 31) hx hb F.2.2.2.1 (F.2.2.2.2 _ (mT4 21 rfl rfl)) dX9_mixed_0 ?_
  refine lv_lload_n hx hb dX9_mixed_3 rfl (lv_at hl 0 rfl) ?_
  refine lv_lmul hx hb dX9_mixed_4 ?_
  refine lv_lload_n hx hb dX9_mixed_5 rfl (lv_at hl 1 rfl) ?_
  refine lv_ladd hx hb dX9_mixed_6 ?_
  have h := sm_x h
  exact RT H locs _ 7 ls X h dX9_mixed_7

/-! ===== X9_mixHeir ===== -/
def fX9_mixHeir_70 (a1 : Int64) (a3 : Int32) (x4 : Int64) (M : Mem) : Option (Int64 × Mem) :=
  (fX9_bait M a3).bind fun r1 =>
  (fX9_mixed x4 (Int32.toInt64 r1.1)).bind fun r2 =>
  nm (r2 : Int64) fun u3 =>
  (fX9_care r1.2 a3).bind fun r4 =>
  (fX9_mixed u3 (Int32.toInt64 r4.1)).bind fun r5 =>
  nm (r5 : Int64) fun u6 =>
  (fX9_skip r4.2 a3 0).bind fun r7 =>
  (fX9_mixed u6 (Int32.toInt64 r7.1)).bind fun r8 =>
  nm (r8 : Int64) fun u9 =>
  (fX9_skip r7.2 a3 1).bind fun r10 =>
  (fX9_mixed u9 (Int32.toInt64 r10.1)).bind fun r11 =>
  nm (r11 : Int64) fun u12 =>
  (fX9_was r10.2 a3 0).bind fun r13 =>
  (fX9_mixed u12 (Int32.toInt64 r13.1)).bind fun r14 =>
  nm (r14 : Int64) fun u15 =>
  (fX9_was r13.2 a3 1).bind fun r16 =>
  (fX9_mixed u15 (Int32.toInt64 r16.1)).bind fun r17 =>
  nm (r17 : Int64) fun u18 =>
  (fX9_ask r16.2 a3).bind fun r19 =>
  (fX9_mixed u18 (Int32.toInt64 r19.1)).bind fun r20 =>
  nm (r20 : Int64) fun u21 =>
  (fX9_swarm r19.2 5 a3 0).bind fun r22 =>
  (fX9_mixed u21 r22.1).bind fun r23 =>
  nm (r23 : Int64) fun u24 =>
  (fX9_swarm r22.2 5 a3 1).bind fun r25 =>
  (fX9_mixed u24 r25.1).bind fun r26 =>
  some (r26, r25.2)
def fX9_mixHeir_36 (a1 : Int64) (a3 : Int32) (x4 : Int64) (x6 : Int32) (M : Mem) : Option ((Int64 × Int32 × Mem) ⊕ (Int64 × Mem)) :=
  if 2 < x6 then
    inr' (fX9_mixHeir_70 a1 a3 x4 M)
  else
    (fX9_share M (M 3 6 0) a3 x6).bind fun r28 =>
    (fX9_mixed x4 (Int32.toInt64 r28)).bind fun r29 =>
    nm (r29 : Int64) fun u30 =>
    nm (x6 + 1 : Int32) fun u31 =>
    some (.inl (u30, u31, M))
def fX9_mixHeir_33 (a1 : Int64) (a3 : Int32) (x4 : Int64) (M : Mem) : Option (Int64 × Mem) :=
  nm (0 : Int32) fun u32 =>
  lpO (fun st => fX9_mixHeir_36 a1 a3 st.1 st.2.1 st.2.2) FU (x4, u32, M)
def fX9_mixHeir_6 (a1 : Int64) (a3 : Int32) (x4 : Int64) (x6 : Int32) (M : Mem) : Option ((Int64 × Int32 × Mem) ⊕ (Int64 × Mem)) :=
  if 2 < x6 then
    inr' (fX9_mixHeir_33 a1 a3 x4 M)
  else
    (fX9_heir M a3 x6).bind fun r34 =>
    (fX9_mixed x4 (Int32.toInt64 r34)).bind fun r35 =>
    nm (r35 : Int64) fun u36 =>
    nm (x6 + 1 : Int32) fun u37 =>
    some (.inl (u36, u37, M))
def fX9_mixHeir (M : Mem) (a1 : Int64) (a3 : Int32) : Option (Int64 × Mem) :=
  nm (a1 : Int64) fun u38 =>
  nm (0 : Int32) fun u39 =>
  lpO (fun st => fX9_mixHeir_6 a1 a3 st.1 st.2.1 st.2.2) FU (u38, u39, M)
set_option maxHeartbeats 4000000 in
set_option maxRecDepth 100000 in
theorem kX9_mixHeir (l : Launch) (D : va_G) (ad : Nat → Nat) (cs : Nat → ClassId) (A : Nat → Prop)  (M : Mem) (a1 : Int64) (a3 : Int32) (z : (Int64 × Mem)) (hz : fX9_mixHeir M a1 a3 = some z) : Met l yX9_mixHeir (wsU yX9_mixHeir cX9_mixHeir 7 (some .long)) (rmo 7 202) (va_Pc [.ref (ad (cO GC 0)), .long a1, .int a3] (Wd0 D ad cs GC A M)) (va_Ql (fun r u => (r, u) = z) (Wd0 D ad cs GC A) A) 0 0 A := by
  refine ct_l (by decide) rfl okGC (Nat.le_of_ble_eq_true rfl) ?_
  intro p e s m args below meth c Q ls F X hl RT
  have hx := F.1
  have hb := F.2.1
  have hl : lv_has ls 7 [(0, .ref (ad (cO GC 0))), (1, .long a1), (3, .int a3)] := hl
  obtain ⟨H, hH⟩ : ∃ H, H = s.heap := ⟨_, rfl⟩
  rw [← hH] at X ⊢
  obtain ⟨locs, hlocs⟩ : ∃ locs : List Loc, locs = [] := ⟨_, rfl⟩
  rw [← hlocs] at X ⊢
  clear hH hlocs
  have J70 : ∀ (H : Heap) (locs : List Loc) (x4 : Int64) (M : Mem) (ls : Array Slot), Wd D ad cs GC A s H locs M → lv_has ls 7 [(0, .ref (ad (cO GC 0))), (3, .int a3), (4, .long x4)] → ∀ (_ : Unit), fX9_mixHeir_70 a1 a3 x4 M = some z → W p l e (rmo 7 202) s m args below meth c H locs 0 0 Q (F0 m 70 ls []) := by
    intro H locs x4 M ls X hl  _u h
    unfold fX9_mixHeir_70 at h
    refine lv_lload hx hb dX9_mixHeir_70 (lv_at hl 2 rfl) ?_
    refine lv_aload_n hx hb dX9_mixHeir_72 rfl (lv_at hl 0 rfl) ?_
    refine lv_iload_n hx hb dX9_mixHeir_73 rfl (lv_at hl 1 rfl) ?_
    obtain ⟨r1, hr1, h⟩ := bd_x h
    refine r_calli X (r_runV F X (kX9_bait l D ad cs A  M a3 _ hr1) gm_X9_370 hd_X9_bait ⟨Nat.le_of_ble_eq_true rfl, Nat.le_of_ble_eq_true rfl⟩ qC0 rfl rfl hl.1 rfl (Nat.le_of_ble_eq_true rfl) dX9_mixHeir_74) (fun H locs X => ?_)
    refine lv_i2l (v := Int32.toInt64 r1.1) hx hb dX9_mixHeir_77 rfl ?_
    obtain ⟨r2, hr2, h⟩ := bd_x h
    refine r_calll0 X (r_runS F X (kX9_mixed l D ad cs A  r1.2 x4 (Int32.toInt64 r1.1) _ hr2) gm_X9_329 hd_X9_mixed ⟨Nat.le_of_ble_eq_true rfl, Nat.le_of_ble_eq_true rfl⟩ rfl hl.1 rfl (Nat.le_of_ble_eq_true rfl) dX9_mixHeir_78) (fun H locs X => ?_)
    obtain ⟨u3, eu3, h⟩ := nm_x h
    refine topL eu3 ?_
    refine lv_lstore (lv' := [(4, .long u3), (0, .ref (ad (cO GC 0))), (3, .int a3)]) hx hb dX9_mixHeir_81 hl (by decide) rfl (fun ls hl => ?_)
    refine lv_lload hx hb dX9_mixHeir_83 (lv_at hl 0 rfl) ?_
    refine lv_aload_n hx hb dX9_mixHeir_85 rfl (lv_at hl 1 rfl) ?_
    refine lv_iload_n hx hb dX9_mixHeir_86 rfl (lv_at hl 2 rfl) ?_
    obtain ⟨r4, hr4, h⟩ := bd_x h
    refine r_calli X (r_runV F X (kX9_care l D ad cs A  r1.2 a3 _ hr4) gm_X9_373 hd_X9_care ⟨Nat.le_of_ble_eq_true rfl, Nat.le_of_ble_eq_true rfl⟩ qC0 rfl rfl hl.1 rfl (Nat.le_of_ble_eq_true rfl) dX9_mixHeir_87) (fun H locs X => ?_)
    refine lv_i2l (v := Int32.toInt64 r4.1) hx hb dX9_mixHeir_90 rfl ?_
    obtain ⟨r5, hr5, h⟩ := bd_x h
    refine r_calll0 X (r_runS F X (kX9_mixed l D ad cs A  r4.2 u3 (Int32.toInt64 r4.1) _ hr5) gm_X9_329 hd_X9_mixed ⟨Nat.le_of_ble_eq_true rfl, Nat.le_of_ble_eq_true rfl⟩ rfl hl.1 rfl (Nat.le_of_ble_eq_true rfl) dX9_mixHeir_91) (fun H locs X => ?_)
    obtain ⟨u6, eu6, h⟩ := nm_x h
    refine topL eu6 ?_
    refine lv_lstore (lv' := [(4, .long u6), (0, .ref (ad (cO GC 0))), (3, .int a3)]) hx hb dX9_mixHeir_94 hl (by decide) rfl (fun ls hl => ?_)
    refine lv_lload hx hb dX9_mixHeir_96 (lv_at hl 0 rfl) ?_
    refine lv_aload_n hx hb dX9_mixHeir_98 rfl (lv_at hl 1 rfl) ?_
    refine lv_iload_n hx hb dX9_mixHeir_99 rfl (lv_at hl 2 rfl) ?_
    refine lv_iconst (v := 0) hx hb dX9_mixHeir_100 (by decide) ?_
    obtain ⟨r7, hr7, h⟩ := bd_x h
    refine r_calli X (r_runV F X (kX9_skip l D ad cs A  r4.2 a3 0 _ hr7) gm_X9_376 hd_X9_skip ⟨Nat.le_of_ble_eq_true rfl, Nat.le_of_ble_eq_true rfl⟩ qC0 rfl rfl hl.1 rfl (Nat.le_of_ble_eq_true rfl) dX9_mixHeir_101) (fun H locs X => ?_)
    refine lv_i2l (v := Int32.toInt64 r7.1) hx hb dX9_mixHeir_104 rfl ?_
    obtain ⟨r8, hr8, h⟩ := bd_x h
    refine r_calll0 X (r_runS F X (kX9_mixed l D ad cs A  r7.2 u6 (Int32.toInt64 r7.1) _ hr8) gm_X9_329 hd_X9_mixed ⟨Nat.le_of_ble_eq_true rfl, Nat.le_of_ble_eq_true rfl⟩ rfl hl.1 rfl (Nat.le_of_ble_eq_true rfl) dX9_mixHeir_105) (fun H locs X => ?_)
    obtain ⟨u9, eu9, h⟩ := nm_x h
    refine topL eu9 ?_
    refine lv_lstore (lv' := [(4, .long u9), (0, .ref (ad (cO GC 0))), (3, .int a3)]) hx hb dX9_mixHeir_108 hl (by decide) rfl (fun ls hl => ?_)
    refine lv_lload hx hb dX9_mixHeir_110 (lv_at hl 0 rfl) ?_
    refine lv_aload_n hx hb dX9_mixHeir_112 rfl (lv_at hl 1 rfl) ?_
    refine lv_iload_n hx hb dX9_mixHeir_113 rfl (lv_at hl 2 rfl) ?_
    refine lv_iconst (v := 1) hx hb dX9_mixHeir_114 (by decide) ?_
    obtain ⟨r10, hr10, h⟩ := bd_x h
    refine r_calli X (r_runV F X (kX9_skip l D ad cs A  r7.2 a3 1 _ hr10) gm_X9_376 hd_X9_skip ⟨Nat.le_of_ble_eq_true rfl, Nat.le_of_ble_eq_true rfl⟩ qC0 rfl rfl hl.1 rfl (Nat.le_of_ble_eq_true rfl) dX9_mixHeir_115) (fun H locs X => ?_)
    refine lv_i2l (v := Int32.toInt64 r10.1) hx hb dX9_mixHeir_118 rfl ?_
    obtain ⟨r11, hr11, h⟩ := bd_x h
    refine r_calll0 X (r_runS F X (kX9_mixed l D ad cs A  r10.2 u9 (Int32.toInt64 r10.1) _ hr11) gm_X9_329 hd_X9_mixed ⟨Nat.le_of_ble_eq_true rfl, Nat.le_of_ble_eq_true rfl⟩ rfl hl.1 rfl (Nat.le_of_ble_eq_true rfl) dX9_mixHeir_119) (fun H locs X => ?_)
    obtain ⟨u12, eu12, h⟩ := nm_x h
    refine topL eu12 ?_
    refine lv_lstore (lv' := [(4, .long u12), (0, .ref (ad (cO GC 0))), (3, .int a3)]) hx hb dX9_mixHeir_122 hl (by decide) rfl (fun ls hl => ?_)
    refine lv_lload hx hb dX9_mixHeir_124 (lv_at hl 0 rfl) ?_
    refine lv_aload_n hx hb dX9_mixHeir_126 rfl (lv_at hl 1 rfl) ?_
    refine lv_iload_n hx hb dX9_mixHeir_127 rfl (lv_at hl 2 rfl) ?_
    refine lv_iconst (v := 0) hx hb dX9_mixHeir_128 (by decide) ?_
    obtain ⟨r13, hr13, h⟩ := bd_x h
    refine r_calli X (r_runV F X (kX9_was l D ad cs A  r10.2 a3 0 _ hr13) gm_X9_379 hd_X9_was ⟨Nat.le_of_ble_eq_true rfl, Nat.le_of_ble_eq_true rfl⟩ qC0 rfl rfl hl.1 rfl (Nat.le_of_ble_eq_true rfl) dX9_mixHeir_129) (fun H locs X => ?_)
    refine lv_i2l (v := Int32.toInt64 r13.1) hx hb dX9_mixHeir_132 rfl ?_
    obtain ⟨r14, hr14, h⟩ := bd_x h
    refine r_calll0 X (r_runS F X (kX9_mixed l D ad cs A  r13.2 u12 (Int32.toInt64 r13.1) _ hr14) gm_X9_329 hd_X9_mixed ⟨Nat.le_of_ble_eq_true rfl, Nat.le_of_ble_eq_true rfl⟩ rfl hl.1 rfl (Nat.le_of_ble_eq_true rfl) dX9_mixHeir_133) (fun H locs X => ?_)
    obtain ⟨u15, eu15, h⟩ := nm_x h
    refine topL eu15 ?_
    refine lv_lstore (lv' := [(4, .long u15), (0, .ref (ad (cO GC 0))), (3, .int a3)]) hx hb dX9_mixHeir_136 hl (by decide) rfl (fun ls hl => ?_)
    refine lv_lload hx hb dX9_mixHeir_138 (lv_at hl 0 rfl) ?_
    refine lv_aload_n hx hb dX9_mixHeir_140 rfl (lv_at hl 1 rfl) ?_
    refine lv_iload_n hx hb dX9_mixHeir_141 rfl (lv_at hl 2 rfl) ?_
    refine lv_iconst (v := 1) hx hb dX9_mixHeir_142 (by decide) ?_
    obtain ⟨r16, hr16, h⟩ := bd_x h
    refine r_calli X (r_runV F X (kX9_was l D ad cs A  r13.2 a3 1 _ hr16) gm_X9_379 hd_X9_was ⟨Nat.le_of_ble_eq_true rfl, Nat.le_of_ble_eq_true rfl⟩ qC0 rfl rfl hl.1 rfl (Nat.le_of_ble_eq_true rfl) dX9_mixHeir_143) (fun H locs X => ?_)
    refine lv_i2l (v := Int32.toInt64 r16.1) hx hb dX9_mixHeir_146 rfl ?_
    obtain ⟨r17, hr17, h⟩ := bd_x h
    refine r_calll0 X (r_runS F X (kX9_mixed l D ad cs A  r16.2 u15 (Int32.toInt64 r16.1) _ hr17) gm_X9_329 hd_X9_mixed ⟨Nat.le_of_ble_eq_true rfl, Nat.le_of_ble_eq_true rfl⟩ rfl hl.1 rfl (Nat.le_of_ble_eq_true rfl) dX9_mixHeir_147) (fun H locs X => ?_)
    obtain ⟨u18, eu18, h⟩ := nm_x h
    refine topL eu18 ?_
    refine lv_lstore (lv' := [(4, .long u18), (0, .ref (ad (cO GC 0))), (3, .int a3)]) hx hb dX9_mixHeir_150 hl (by decide) rfl (fun ls hl => ?_)
    refine lv_lload hx hb dX9_mixHeir_152 (lv_at hl 0 rfl) ?_
    refine lv_aload_n hx hb dX9_mixHeir_154 rfl (lv_at hl 1 rfl) ?_
    refine lv_iload_n hx hb dX9_mixHeir_155 rfl (lv_at hl 2 rfl) ?_
    obtain ⟨r19, hr19, h⟩ := bd_x h
    refine r_calli X (r_runV F X (kX9_ask l D ad cs A  r16.2 a3 _ hr19) gm_X9_382 hd_X9_ask ⟨Nat.le_of_ble_eq_true rfl, Nat.le_of_ble_eq_true rfl⟩ qC0 rfl rfl hl.1 rfl (Nat.le_of_ble_eq_true rfl) dX9_mixHeir_156) (fun H locs X => ?_)
    refine lv_i2l (v := Int32.toInt64 r19.1) hx hb dX9_mixHeir_159 rfl ?_
    obtain ⟨r20, hr20, h⟩ := bd_x h
    refine r_calll0 X (r_runS F X (kX9_mixed l D ad cs A  r19.2 u18 (Int32.toInt64 r19.1) _ hr20) gm_X9_329 hd_X9_mixed ⟨Nat.le_of_ble_eq_true rfl, Nat.le_of_ble_eq_true rfl⟩ rfl hl.1 rfl (Nat.le_of_ble_eq_true rfl) dX9_mixHeir_160) (fun H locs X => ?_)
    obtain ⟨u21, eu21, h⟩ := nm_x h
    refine topL eu21 ?_
    refine lv_lstore (lv' := [(4, .long u21), (0, .ref (ad (cO GC 0))), (3, .int a3)]) hx hb dX9_mixHeir_163 hl (by decide) rfl (fun ls hl => ?_)
    refine lv_lload hx hb dX9_mixHeir_165 (lv_at hl 0 rfl) ?_
    refine lv_aload_n hx hb dX9_mixHeir_167 rfl (lv_at hl 1 rfl) ?_
    refine lv_iconst (v := 5) hx hb dX9_mixHeir_168 (by decide) ?_
    refine lv_iload_n hx hb dX9_mixHeir_169 rfl (lv_at hl 2 rfl) ?_
    refine lv_iconst (v := 0) hx hb dX9_mixHeir_170 (by decide) ?_
    obtain ⟨r22, hr22, h⟩ := bd_x h
    refine r_calll X (r_runV F X (kX9_swarm l D ad cs A  r19.2 5 a3 0 _ hr22) gm_X9_385 hd_X9_swarm ⟨Nat.le_of_ble_eq_true rfl, Nat.le_of_ble_eq_true rfl⟩ qC0 rfl rfl hl.1 rfl (Nat.le_of_ble_eq_true rfl) dX9_mixHeir_171) (fun H locs X => ?_)
    obtain ⟨r23, hr23, h⟩ := bd_x h
    refine r_calll0 X (r_runS F X (kX9_mixed l D ad cs A  r22.2 u21 r22.1 _ hr23) gm_X9_329 hd_X9_mixed ⟨Nat.le_of_ble_eq_true rfl, Nat.le_of_ble_eq_true rfl⟩ rfl hl.1 rfl (Nat.le_of_ble_eq_true rfl) dX9_mixHeir_174) (fun H locs X => ?_)
    obtain ⟨u24, eu24, h⟩ := nm_x h
    refine topL eu24 ?_
    refine lv_lstore (lv' := [(4, .long u24), (0, .ref (ad (cO GC 0))), (3, .int a3)]) hx hb dX9_mixHeir_177 hl (by decide) rfl (fun ls hl => ?_)
    refine lv_lload hx hb dX9_mixHeir_179 (lv_at hl 0 rfl) ?_
    refine lv_aload_n hx hb dX9_mixHeir_181 rfl (lv_at hl 1 rfl) ?_
    refine lv_iconst (v := 5) hx hb dX9_mixHeir_182 (by decide) ?_
    refine lv_iload_n hx hb dX9_mixHeir_183 rfl (lv_at hl 2 rfl) ?_
    refine lv_iconst (v := 1) hx hb dX9_mixHeir_184 (by decide) ?_
    obtain ⟨r25, hr25, h⟩ := bd_x h
    refine r_calll X (r_runV F X (kX9_swarm l D ad cs A  r22.2 5 a3 1 _ hr25) gm_X9_385 hd_X9_swarm ⟨Nat.le_of_ble_eq_true rfl, Nat.le_of_ble_eq_true rfl⟩ qC0 rfl rfl hl.1 rfl (Nat.le_of_ble_eq_true rfl) dX9_mixHeir_185) (fun H locs X => ?_)
    obtain ⟨r26, hr26, h⟩ := bd_x h
    refine r_calll0 X (r_runS F X (kX9_mixed l D ad cs A  r25.2 u24 r25.1 _ hr26) gm_X9_329 hd_X9_mixed ⟨Nat.le_of_ble_eq_true rfl, Nat.le_of_ble_eq_true rfl⟩ rfl hl.1 rfl (Nat.le_of_ble_eq_true rfl) dX9_mixHeir_188) (fun H locs X => ?_)
    have h := sm_x h
    exact RT H locs _ _ 191 ls X h dX9_mixHeir_191
  have L36 : ∀ (n : Nat) (H : Heap) (locs : List Loc) (x4 : Int64) (x6 : Int32) (M : Mem) (ls : Array Slot), Wd D ad cs GC A s H locs M → lv_has ls 7 [(0, .ref (ad (cO GC 0))), (3, .int a3), (4, .long x4), (6, .int x6)] → ∀ (_ : Unit), lpO (fun st => fX9_mixHeir_36 a1 a3 st.1 st.2.1 st.2.2) n (x4, x6, M) = some z → W p l e (rmo 7 202) s m args below meth c H locs 0 0 Q (F0 m 36 ls []) := by
    intro n
    induction n with
    | zero =>
      intro H locs x4 x6 M ls X hl  yy h
      exact lp_0 h
    | succ n1 ih36 =>
      intro H locs x4 x6 M ls X hl  _u h
      obtain ⟨y1, h, hk1⟩ := lp_x h
      unfold fX9_mixHeir_36 at h
      refine lv_iload hx hb dX9_mixHeir_36 (lv_at hl 3 rfl) ?_
      refine lv_iconst (v := 2) hx hb dX9_mixHeir_38 (by decide) ?_
      refine lv_icmp_gt (tgt := 70) hx hb dX9_mixHeir_39 (by decide) (fun c27 => ?_) (fun c27 => ?_)
      · have h := it_p h c27
        obtain ⟨_, h, ey⟩ := inr_x h
        rw [ey] at hk1
        have h := h.trans (congrArg some (sm_x hk1))
        exact J70 _ _ x4 M ls X (lv_sub hl [0, 1, 2] rfl)  () h
      · have h := it_n h c27
        refine lv_lload hx hb dX9_mixHeir_42 (lv_at hl 2 rfl) ?_
        refine lv_aload_n hx hb dX9_mixHeir_44 rfl (lv_at hl 0 rfl) ?_
        refine lv_aload_n hx hb dX9_mixHeir_45 rfl (lv_at hl 0 rfl) ?_
        refine gf_X9_24 F X qC0 dX9_mixHeir_46 ?_
        refine gf_X9_144 F X qC3 dX9_mixHeir_49 ?_
        refine lv_iload_n hx hb dX9_mixHeir_52 rfl (lv_at hl 1 rfl) ?_
        refine lv_iload hx hb dX9_mixHeir_53 (lv_at hl 3 rfl) ?_
        obtain ⟨r28, hr28, h⟩ := bd_x h
        refine r_calli0 X (r_runV F X (kX9_share l D ad cs A  M (M 3 6 0) a3 x6 _ hr28) gm_X9_368 hd_X9_share ⟨Nat.le_of_ble_eq_true rfl, Nat.le_of_ble_eq_true rfl⟩ qC0 rfl rfl hl.1 rfl (Nat.le_of_ble_eq_true rfl) dX9_mixHeir_55) (fun H locs X => ?_)
        refine lv_i2l (v := Int32.toInt64 r28) hx hb dX9_mixHeir_58 rfl ?_
        obtain ⟨r29, hr29, h⟩ := bd_x h
        refine r_calll0 X (r_runS F X (kX9_mixed l D ad cs A  M x4 (Int32.toInt64 r28) _ hr29) gm_X9_329 hd_X9_mixed ⟨Nat.le_of_ble_eq_true rfl, Nat.le_of_ble_eq_true rfl⟩ rfl hl.1 rfl (Nat.le_of_ble_eq_true rfl) dX9_mixHeir_59) (fun H locs X => ?_)
        obtain ⟨u30, eu30, h⟩ := nm_x h
        refine topL eu30 ?_
        refine lv_lstore (lv' := [(4, .long u30), (0, .ref (ad (cO GC 0))), (3, .int a3), (6, .int x6)]) hx hb dX9_mixHeir_62 hl (by decide) rfl (fun ls hl => ?_)
        obtain ⟨u31, eu31, h⟩ := nm_x h
        refine lv_iinc (v := u31) (lv' := [(6, .int u31), (4, .long u30), (0, .ref (ad (cO GC 0))), (3, .int a3)]) hx hb dX9_mixHeir_64 hl (k := 3) rfl (by rw [eu31]; rfl) (by decide) rfl (fun ls hl => ?_)
        refine lv_goto (tgt := 36) hx hb dX9_mixHeir_67 (by decide) ?_
        rw [← sm_x h] at hk1
        exact ih36 _ _ u30 u31 M ls X (lv_sub hl [2, 3, 1, 0] rfl)  () hk1
  have J33 : ∀ (H : Heap) (locs : List Loc) (x4 : Int64) (M : Mem) (ls : Array Slot), Wd D ad cs GC A s H locs M → lv_has ls 7 [(0, .ref (ad (cO GC 0))), (3, .int a3), (4, .long x4)] → ∀ (_ : Unit), fX9_mixHeir_33 a1 a3 x4 M = some z → W p l e (rmo 7 202) s m args below meth c H locs 0 0 Q (F0 m 33 ls []) := by
    intro H locs x4 M ls X hl  _u h
    unfold fX9_mixHeir_33 at h
    refine lv_iconst (v := 0) hx hb dX9_mixHeir_33 (by decide) ?_
    obtain ⟨u32, eu32, h⟩ := nm_x h
    refine topE eu32 ?_
    refine lv_istore (lv' := [(6, .int u32), (0, .ref (ad (cO GC 0))), (3, .int a3), (4, .long x4)]) hx hb dX9_mixHeir_34 hl (by decide) rfl (fun ls hl => ?_)
    exact L36 FU _ _ x4 u32 M ls X (lv_sub hl [1, 2, 3, 0] rfl)  () h
  have L6 : ∀ (n : Nat) (H : Heap) (locs : List Loc) (x4 : Int64) (x6 : Int32) (M : Mem) (ls : Array Slot), Wd D ad cs GC A s H locs M → lv_has ls 7 [(0, .ref (ad (cO GC 0))), (3, .int a3), (4, .long x4), (6, .int x6)] → ∀ (_ : Unit), lpO (fun st => fX9_mixHeir_6 a1 a3 st.1 st.2.1 st.2.2) n (x4, x6, M) = some z → W p l e (rmo 7 202) s m args below meth c H locs 0 0 Q (F0 m 6 ls []) := by
    intro n
    induction n with
    | zero =>
      intro H locs x4 x6 M ls X hl  yy h
      exact lp_0 h
    | succ n1 ih6 =>
      intro H locs x4 x6 M ls X hl  _u h
      obtain ⟨y1, h, hk1⟩ := lp_x h
      unfold fX9_mixHeir_6 at h
      refine lv_iload hx hb dX9_mixHeir_6 (lv_at hl 3 rfl) ?_
      refine lv_iconst (v := 2) hx hb dX9_mixHeir_8 (by decide) ?_
      refine lv_icmp_gt (tgt := 33) hx hb dX9_mixHeir_9 (by decide) (fun c33 => ?_) (fun c33 => ?_)
      · have h := it_p h c33
        obtain ⟨_, h, ey⟩ := inr_x h
        rw [ey] at hk1
        have h := h.trans (congrArg some (sm_x hk1))
        exact J33 _ _ x4 M ls X (lv_sub hl [0, 1, 2] rfl)  () h
      · have h := it_n h c33
        refine lv_lload hx hb dX9_mixHeir_12 (lv_at hl 2 rfl) ?_
        refine lv_aload_n hx hb dX9_mixHeir_14 rfl (lv_at hl 0 rfl) ?_
        refine lv_iload_n hx hb dX9_mixHeir_15 rfl (lv_at hl 1 rfl) ?_
        refine lv_iload hx hb dX9_mixHeir_16 (lv_at hl 3 rfl) ?_
        obtain ⟨r34, hr34, h⟩ := bd_x h
        refine r_calli0 X (r_runV F X (kX9_heir l D ad cs A  M a3 x6 _ hr34) gm_X9_365 hd_X9_heir ⟨Nat.le_of_ble_eq_true rfl, Nat.le_of_ble_eq_true rfl⟩ qC0 rfl rfl hl.1 rfl (Nat.le_of_ble_eq_true rfl) dX9_mixHeir_18) (fun H locs X => ?_)
        refine lv_i2l (v := Int32.toInt64 r34) hx hb dX9_mixHeir_21 rfl ?_
        obtain ⟨r35, hr35, h⟩ := bd_x h
        refine r_calll0 X (r_runS F X (kX9_mixed l D ad cs A  M x4 (Int32.toInt64 r34) _ hr35) gm_X9_329 hd_X9_mixed ⟨Nat.le_of_ble_eq_true rfl, Nat.le_of_ble_eq_true rfl⟩ rfl hl.1 rfl (Nat.le_of_ble_eq_true rfl) dX9_mixHeir_22) (fun H locs X => ?_)
        obtain ⟨u36, eu36, h⟩ := nm_x h
        refine topL eu36 ?_
        refine lv_lstore (lv' := [(4, .long u36), (0, .ref (ad (cO GC 0))), (3, .int a3), (6, .int x6)]) hx hb dX9_mixHeir_25 hl (by decide) rfl (fun ls hl => ?_)
        obtain ⟨u37, eu37, h⟩ := nm_x h
        refine lv_iinc (v := u37) (lv' := [(6, .int u37), (4, .long u36), (0, .ref (ad (cO GC 0))), (3, .int a3)]) hx hb dX9_mixHeir_27 hl (k := 3) rfl (by rw [eu37]; rfl) (by decide) rfl (fun ls hl => ?_)
        refine lv_goto (tgt := 6) hx hb dX9_mixHeir_30 (by decide) ?_
        rw [← sm_x h] at hk1
        exact ih6 _ _ u36 u37 M ls X (lv_sub hl [2, 3, 1, 0] rfl)  () hk1
  have h := hz
  unfold fX9_mixHeir at h
  refine lv_lload_n hx hb dX9_mixHeir_0 rfl (lv_at hl 1 rfl) ?_
  obtain ⟨u38, eu38, h⟩ := nm_x h
  refine topL eu38 ?_
  refine lv_lstore (lv' := [(4, .long u38), (0, .ref (ad (cO GC 0))), (1, .long a1), (3, .int a3)]) hx hb dX9_mixHeir_1 hl (by decide) rfl (fun ls hl => ?_)
  refine lv_iconst (v := 0) hx hb dX9_mixHeir_3 (by decide) ?_
  obtain ⟨u39, eu39, h⟩ := nm_x h
  refine topE eu39 ?_
  refine lv_istore (lv' := [(6, .int u39), (4, .long u38), (0, .ref (ad (cO GC 0))), (1, .long a1), (3, .int a3)]) hx hb dX9_mixHeir_4 hl (by decide) rfl (fun ls hl => ?_)
  exact L6 FU _ _ u38 u39 M ls X (lv_sub hl [2, 4, 1, 0] rfl)  () h

/-! ===== X9_mixStop ===== -/
def fX9_mixStop_45 (M : Mem) (a1 : Int64) (a3 : Int32) (x4 : Int64) (x6 : Int32) : Option ((Int64 × Int32) ⊕ Int64) :=
  if (M 3 5 0) ≤ x6 then
    some (.inr x4)
  else
    (fX9_share M a3 x6 0).bind fun r2 =>
    (fX9_mixed x4 (Int32.toInt64 r2)).bind fun r3 =>
    nm (r3 : Int64) fun u4 =>
    nm (x6 + 1 : Int32) fun u5 =>
    some (.inl (u4, u5))
def fX9_mixStop_42 (M : Mem) (a1 : Int64) (a3 : Int32) (x4 : Int64) : Option Int64 :=
  nm (0 : Int32) fun u6 =>
  lpO (fun st => fX9_mixStop_45 M a1 a3 st.1 st.2) FU (x4, u6)
def fX9_mixStop_15 (M : Mem) (a1 : Int64) (a3 : Int32) (x4 : Int64) (x6 : Int32) : Option ((Int64 × Int32) ⊕ Int64) :=
  if 3 < x6 then
    inr' (fX9_mixStop_42 M a1 a3 x4)
  else
    (fX9_does M a3 x6).bind fun r8 =>
    (fX9_mixed x4 (Int32.toInt64 r8)).bind fun r9 =>
    nm (r9 : Int64) fun u10 =>
    nm (x6 + 1 : Int32) fun u11 =>
    some (.inl (u10, u11))
def fX9_mixStop (M : Mem) (a1 : Int64) (a3 : Int32) : Option Int64 :=
  (fX9_round M a3).bind fun r12 =>
  (fX9_mixed a1 (Int32.toInt64 r12)).bind fun r13 =>
  nm (r13 : Int64) fun u14 =>
  nm (0 : Int32) fun u15 =>
  lpO (fun st => fX9_mixStop_15 M a1 a3 st.1 st.2) FU (u14, u15)
set_option maxHeartbeats 4000000 in
set_option maxRecDepth 100000 in
theorem kX9_mixStop (l : Launch) (D : va_G) (ad : Nat → Nat) (cs : Nat → ClassId) (A : Nat → Prop)  (M : Mem) (a1 : Int64) (a3 : Int32) (z : Int64) (hz : fX9_mixStop M a1 a3 = some z) : Met l yX9_mixStop (wsU yX9_mixStop cX9_mixStop 7 (some .long)) (rmo 3 109) (va_Pc [.ref (ad (cO GC 0)), .long a1, .int a3] (Wd0 D ad cs GC A M)) (va_Ql (fun r u => (r, u) = (z, M)) (Wd0 D ad cs GC A) A) 0 0 A := by
  refine ct_l0 (by decide) rfl okGC (Nat.le_of_ble_eq_true rfl) ?_
  intro p e s m args below meth c Q ls F X hl RT
  have hx := F.1
  have hb := F.2.1
  have hl : lv_has ls 7 [(0, .ref (ad (cO GC 0))), (1, .long a1), (3, .int a3)] := hl
  obtain ⟨H, hH⟩ : ∃ H, H = s.heap := ⟨_, rfl⟩
  rw [← hH] at X ⊢
  obtain ⟨locs, hlocs⟩ : ∃ locs : List Loc, locs = [] := ⟨_, rfl⟩
  rw [← hlocs] at X ⊢
  clear hH hlocs
  have L45 : ∀ (n : Nat) (H : Heap) (locs : List Loc) (x4 : Int64) (x6 : Int32) (ls : Array Slot), Wd D ad cs GC A s H locs M → lv_has ls 7 [(0, .ref (ad (cO GC 0))), (3, .int a3), (4, .long x4), (6, .int x6)] → ∀ (_ : Unit), lpO (fun st => fX9_mixStop_45 M a1 a3 st.1 st.2) n (x4, x6) = some z → W p l e (rmo 3 109) s m args below meth c H locs 0 0 Q (F0 m 45 ls []) := by
    intro n
    induction n with
    | zero =>
      intro H locs x4 x6 ls X hl  yy h
      exact lp_0 h
    | succ n1 ih45 =>
      intro H locs x4 x6 ls X hl  _u h
      obtain ⟨y1, h, hk1⟩ := lp_x h
      unfold fX9_mixStop_45 at h
      refine lv_iload hx hb dX9_mixStop_45 (lv_at hl 3 rfl) ?_
      refine lv_aload_n hx hb dX9_mixStop_47 rfl (lv_at hl 0 rfl) ?_
      refine gf_X9_24 F X qC0 dX9_mixStop_48 ?_
      refine gf_X9_232 F X qC3 dX9_mixStop_51 ?_
      refine lv_icmp_ge (tgt := 79) hx hb dX9_mixStop_54 (by decide) (fun c1 => ?_) (fun c1 => ?_)
      · have h := it_p h c1
        refine lv_lload hx hb dX9_mixStop_79 (lv_at hl 2 rfl) ?_
        have h := sm_x h
        rw [← h] at hk1
        have h := sm_x hk1
        exact RT H locs _ 81 ls X h dX9_mixStop_81
      · have h := it_n h c1
        refine lv_lload hx hb dX9_mixStop_57 (lv_at hl 2 rfl) ?_
        refine lv_aload_n hx hb dX9_mixStop_59 rfl (lv_at hl 0 rfl) ?_
        refine lv_iload_n hx hb dX9_mixStop_60 rfl (lv_at hl 1 rfl) ?_
        refine lv_iload hx hb dX9_mixStop_61 (lv_at hl 3 rfl) ?_
        refine lv_iconst (v := 0) hx hb dX9_mixStop_63 (by decide) ?_
        obtain ⟨r2, hr2, h⟩ := bd_x h
        refine r_calli0 X (r_runV F X (kX9_share l D ad cs A  M a3 x6 0 _ hr2) gm_X9_368 hd_X9_share ⟨Nat.le_of_ble_eq_true rfl, Nat.le_of_ble_eq_true rfl⟩ qC0 rfl rfl hl.1 rfl (Nat.le_of_ble_eq_true rfl) dX9_mixStop_64) (fun H locs X => ?_)
        refine lv_i2l (v := Int32.toInt64 r2) hx hb dX9_mixStop_67 rfl ?_
        obtain ⟨r3, hr3, h⟩ := bd_x h
        refine r_calll0 X (r_runS F X (kX9_mixed l D ad cs A  M x4 (Int32.toInt64 r2) _ hr3) gm_X9_329 hd_X9_mixed ⟨Nat.le_of_ble_eq_true rfl, Nat.le_of_ble_eq_true rfl⟩ rfl hl.1 rfl (Nat.le_of_ble_eq_true rfl) dX9_mixStop_68) (fun H locs X => ?_)
        obtain ⟨u4, eu4, h⟩ := nm_x h
        refine topL eu4 ?_
        refine lv_lstore (lv' := [(4, .long u4), (0, .ref (ad (cO GC 0))), (3, .int a3), (6, .int x6)]) hx hb dX9_mixStop_71 hl (by decide) rfl (fun ls hl => ?_)
        obtain ⟨u5, eu5, h⟩ := nm_x h
        refine lv_iinc (v := u5) (lv' := [(6, .int u5), (4, .long u4), (0, .ref (ad (cO GC 0))), (3, .int a3)]) hx hb dX9_mixStop_73 hl (k := 3) rfl (by rw [eu5]; rfl) (by decide) rfl (fun ls hl => ?_)
        refine lv_goto (tgt := 45) hx hb dX9_mixStop_76 (by decide) ?_
        rw [← sm_x h] at hk1
        exact ih45 _ _ u4 u5 ls X (lv_sub hl [2, 3, 1, 0] rfl)  () hk1
  have J42 : ∀ (H : Heap) (locs : List Loc) (x4 : Int64) (ls : Array Slot), Wd D ad cs GC A s H locs M → lv_has ls 7 [(0, .ref (ad (cO GC 0))), (3, .int a3), (4, .long x4)] → ∀ (_ : Unit), fX9_mixStop_42 M a1 a3 x4 = some z → W p l e (rmo 3 109) s m args below meth c H locs 0 0 Q (F0 m 42 ls []) := by
    intro H locs x4 ls X hl  _u h
    unfold fX9_mixStop_42 at h
    refine lv_iconst (v := 0) hx hb dX9_mixStop_42 (by decide) ?_
    obtain ⟨u6, eu6, h⟩ := nm_x h
    refine topE eu6 ?_
    refine lv_istore (lv' := [(6, .int u6), (0, .ref (ad (cO GC 0))), (3, .int a3), (4, .long x4)]) hx hb dX9_mixStop_43 hl (by decide) rfl (fun ls hl => ?_)
    exact L45 FU _ _ x4 u6 ls X (lv_sub hl [1, 2, 3, 0] rfl)  () h
  have L15 : ∀ (n : Nat) (H : Heap) (locs : List Loc) (x4 : Int64) (x6 : Int32) (ls : Array Slot), Wd D ad cs GC A s H locs M → lv_has ls 7 [(0, .ref (ad (cO GC 0))), (3, .int a3), (4, .long x4), (6, .int x6)] → ∀ (_ : Unit), lpO (fun st => fX9_mixStop_15 M a1 a3 st.1 st.2) n (x4, x6) = some z → W p l e (rmo 3 109) s m args below meth c H locs 0 0 Q (F0 m 15 ls []) := by
    intro n
    induction n with
    | zero =>
      intro H locs x4 x6 ls X hl  yy h
      exact lp_0 h
    | succ n1 ih15 =>
      intro H locs x4 x6 ls X hl  _u h
      obtain ⟨y1, h, hk1⟩ := lp_x h
      unfold fX9_mixStop_15 at h
      refine lv_iload hx hb dX9_mixStop_15 (lv_at hl 3 rfl) ?_
      refine lv_iconst (v := 3) hx hb dX9_mixStop_17 (by decide) ?_
      refine lv_icmp_gt (tgt := 42) hx hb dX9_mixStop_18 (by decide) (fun c7 => ?_) (fun c7 => ?_)
      · have h := it_p h c7
        obtain ⟨_, h, ey⟩ := inr_x h
        rw [ey] at hk1
        have h := h.trans (congrArg some (sm_x hk1))
        exact J42 _ _ x4 ls X (lv_sub hl [0, 1, 2] rfl)  () h
      · have h := it_n h c7
        refine lv_lload hx hb dX9_mixStop_21 (lv_at hl 2 rfl) ?_
        refine lv_aload_n hx hb dX9_mixStop_23 rfl (lv_at hl 0 rfl) ?_
        refine lv_iload_n hx hb dX9_mixStop_24 rfl (lv_at hl 1 rfl) ?_
        refine lv_iload hx hb dX9_mixStop_25 (lv_at hl 3 rfl) ?_
        obtain ⟨r8, hr8, h⟩ := bd_x h
        refine r_calli0 X (r_runV F X (kX9_does l D ad cs A  M a3 x6 _ hr8) gm_X9_392 hd_X9_does ⟨Nat.le_of_ble_eq_true rfl, Nat.le_of_ble_eq_true rfl⟩ qC0 rfl rfl hl.1 rfl (Nat.le_of_ble_eq_true rfl) dX9_mixStop_27) (fun H locs X => ?_)
        refine lv_i2l (v := Int32.toInt64 r8) hx hb dX9_mixStop_30 rfl ?_
        obtain ⟨r9, hr9, h⟩ := bd_x h
        refine r_calll0 X (r_runS F X (kX9_mixed l D ad cs A  M x4 (Int32.toInt64 r8) _ hr9) gm_X9_329 hd_X9_mixed ⟨Nat.le_of_ble_eq_true rfl, Nat.le_of_ble_eq_true rfl⟩ rfl hl.1 rfl (Nat.le_of_ble_eq_true rfl) dX9_mixStop_31) (fun H locs X => ?_)
        obtain ⟨u10, eu10, h⟩ := nm_x h
        refine topL eu10 ?_
        refine lv_lstore (lv' := [(4, .long u10), (0, .ref (ad (cO GC 0))), (3, .int a3), (6, .int x6)]) hx hb dX9_mixStop_34 hl (by decide) rfl (fun ls hl => ?_)
        obtain ⟨u11, eu11, h⟩ := nm_x h
        refine lv_iinc (v := u11) (lv' := [(6, .int u11), (4, .long u10), (0, .ref (ad (cO GC 0))), (3, .int a3)]) hx hb dX9_mixStop_36 hl (k := 3) rfl (by rw [eu11]; rfl) (by decide) rfl (fun ls hl => ?_)
        refine lv_goto (tgt := 15) hx hb dX9_mixStop_39 (by decide) ?_
        rw [← sm_x h] at hk1
        exact ih15 _ _ u10 u11 ls X (lv_sub hl [2, 3, 1, 0] rfl)  () hk1
  have h := hz
  unfold fX9_mixStop at h
  refine lv_lload_n hx hb dX9_mixStop_0 rfl (lv_at hl 1 rfl) ?_
  refine lv_aload_n hx hb dX9_mixStop_1 rfl (lv_at hl 0 rfl) ?_
  refine lv_iload_n hx hb dX9_mixStop_2 rfl (lv_at hl 2 rfl) ?_
  obtain ⟨r12, hr12, h⟩ := bd_x h
  refine r_calli0 X (r_runV F X (kX9_round l D ad cs A  M a3 _ hr12) gm_X9_389 hd_X9_round ⟨Nat.le_of_ble_eq_true rfl, Nat.le_of_ble_eq_true rfl⟩ qC0 rfl rfl hl.1 rfl (Nat.le_of_ble_eq_true rfl) dX9_mixStop_3) (fun H locs X => ?_)
  refine lv_i2l (v := Int32.toInt64 r12) hx hb dX9_mixStop_6 rfl ?_
  obtain ⟨r13, hr13, h⟩ := bd_x h
  refine r_calll0 X (r_runS F X (kX9_mixed l D ad cs A  M a1 (Int32.toInt64 r12) _ hr13) gm_X9_329 hd_X9_mixed ⟨Nat.le_of_ble_eq_true rfl, Nat.le_of_ble_eq_true rfl⟩ rfl hl.1 rfl (Nat.le_of_ble_eq_true rfl) dX9_mixStop_7) (fun H locs X => ?_)
  obtain ⟨u14, eu14, h⟩ := nm_x h
  refine topL eu14 ?_
  refine lv_lstore (lv' := [(4, .long u14), (0, .ref (ad (cO GC 0))), (1, .long a1), (3, .int a3)]) hx hb dX9_mixStop_10 hl (by decide) rfl (fun ls hl => ?_)
  refine lv_iconst (v := 0) hx hb dX9_mixStop_12 (by decide) ?_
  obtain ⟨u15, eu15, h⟩ := nm_x h
  refine topE eu15 ?_
  refine lv_istore (lv' := [(6, .int u15), (4, .long u14), (0, .ref (ad (cO GC 0))), (1, .long a1), (3, .int a3)]) hx hb dX9_mixStop_13 hl (by decide) rfl (fun ls hl => ?_)
  exact L15 FU _ _ u14 u15 ls X (lv_sub hl [2, 4, 1, 0] rfl)  () h

/-! ===== X9_digest ===== -/
def fX9_digest_177  (x1 : Int64) (M : Mem) : Option (Int64 × Mem) :=
  (fX9_never M).bind fun r1 =>
  (fX9_mixed x1 (Int32.toInt64 r1.1)).bind fun r2 =>
  nm (r2 : Int64) fun u3 =>
  (fX9_again r1.2 7 15 0).bind fun r4 =>
  (fX9_mixed u3 (Int32.toInt64 r4.1)).bind fun r5 =>
  nm (r5 : Int64) fun u6 =>
  (fX9_again r4.2 7 15 1).bind fun r7 =>
  (fX9_mixed u6 (Int32.toInt64 r7.1)).bind fun r8 =>
  some (r8, r7.2)
def fX9_digest_155  (x1 : Int64) (x3 : Int32) (M : Mem) : Option ((Int64 × Int32 × Mem) ⊕ (Int64 × Mem)) :=
  if 3 < x3 then
    inr' (fX9_digest_177 x1 M)
  else
    (fX9_fair M x3).bind fun r10 =>
    (fX9_mixed x1 (Int32.toInt64 r10.1)).bind fun r11 =>
    nm (r11 : Int64) fun u12 =>
    nm (x3 + 1 : Int32) fun u13 =>
    some (.inl (u12, u13, r10.2))
def fX9_digest_103  (x1 : Int64) (M : Mem) : Option (Int64 × Mem) :=
  (fX9_out M).bind fun r14 =>
  (fX9_mixed x1 (Int32.toInt64 r14)).bind fun r15 =>
  nm (r15 : Int64) fun u16 =>
  (fX9_estate M).bind fun r17 =>
  (fX9_mixed u16 (Int32.toInt64 r17)).bind fun r18 =>
  nm (r18 : Int64) fun u19 =>
  (fX9_richest M).bind fun r20 =>
  (fX9_mixed u19 (Int32.toInt64 r20)).bind fun r21 =>
  nm (r21 : Int64) fun u22 =>
  (fX9_longest M).bind fun r23 =>
  (fX9_mixed u22 (Int32.toInt64 r23)).bind fun r24 =>
  nm (r24 : Int64) fun u25 =>
  (fX9_ditch M).bind fun r26 =>
  (fX9_mixed u25 (Int32.toInt64 r26)).bind fun r27 =>
  nm (r27 : Int64) fun u28 =>
  nm (0 : Int32) fun u29 =>
  lpO (fun st => fX9_digest_155 st.1 st.2.1 st.2.2) FU (u28, u29, M)
def fX9_digest_79  (x1 : Int64) (x3 : Int32) (M : Mem) : Option ((Int64 × Int32 × Mem) ⊕ (Int64 × Mem)) :=
  if (M 3 6 0) ≤ x3 then
    inr' (fX9_digest_103 x1 M)
  else
    (fX9_mixStop M x1 x3).bind fun r31 =>
    nm (r31 : Int64) fun u32 =>
    nm (x3 + 1 : Int32) fun u33 =>
    some (.inl (u32, u33, M))
def fX9_digest_77  (x1 : Int64) (M : Mem) : Option (Int64 × Mem) :=
  nm (0 : Int32) fun u34 =>
  lpO (fun st => fX9_digest_79 st.1 st.2.1 st.2.2) FU (x1, u34, M)
def fX9_digest_53  (x1 : Int64) (x3 : Int32) (M : Mem) : Option ((Int64 × Int32 × Mem) ⊕ (Int64 × Mem)) :=
  if (M 3 5 0) ≤ x3 then
    inr' (fX9_digest_77 x1 M)
  else
    (fX9_mixHeir M x1 x3).bind fun r36 =>
    nm (r36.1 : Int64) fun u37 =>
    nm (x3 + 1 : Int32) fun u38 =>
    some (.inl (u37, u38, r36.2))
def fX9_digest_29  (x1 : Int64) (M : Mem) : Option (Int64 × Mem) :=
  (fX9_fault M 0).bind fun r39 =>
  (fX9_mixed x1 (Int32.toInt64 r39)).bind fun r40 =>
  nm (r40 : Int64) fun u41 =>
  (fX9_fault M 1).bind fun r42 =>
  (fX9_mixed u41 (Int32.toInt64 r42)).bind fun r43 =>
  nm (r43 : Int64) fun u44 =>
  nm (0 : Int32) fun u45 =>
  lpO (fun st => fX9_digest_53 st.1 st.2.1 st.2.2) FU (u44, u45, M)
def fX9_digest_6  (x1 : Int64) (x3 : Int32) (M : Mem) : Option ((Int64 × Int32 × Mem) ⊕ (Int64 × Mem)) :=
  if 7 < x3 then
    inr' (fX9_digest_29 x1 M)
  else
    (fX9_count M x3).bind fun r47 =>
    (fX9_mixed x1 (Int32.toInt64 r47)).bind fun r48 =>
    nm (r48 : Int64) fun u49 =>
    nm (x3 + 1 : Int32) fun u50 =>
    some (.inl (u49, u50, M))
def fX9_digest (M : Mem) : Option (Int64 × Mem) :=
  nm (17 : Int64) fun u51 =>
  nm (0 : Int32) fun u52 =>
  lpO (fun st => fX9_digest_6 st.1 st.2.1 st.2.2) FU (u51, u52, M)
set_option maxHeartbeats 4000000 in
set_option maxRecDepth 100000 in
theorem kX9_digest (l : Launch) (D : va_G) (ad : Nat → Nat) (cs : Nat → ClassId) (A : Nat → Prop)  (M : Mem)  (z : (Int64 × Mem)) (hz : fX9_digest M = some z) : Met l yX9_digest (wsU yX9_digest cX9_digest 4 (some .long)) (rmo 23 628) (va_Pc [.ref (ad (cO GC 0))] (Wd0 D ad cs GC A M)) (va_Ql (fun r u => (r, u) = z) (Wd0 D ad cs GC A) A) 0 0 A := by
  refine ct_l (by decide) rfl okGC (Nat.le_of_ble_eq_true rfl) ?_
  intro p e s m args below meth c Q ls F X hl RT
  have hx := F.1
  have hb := F.2.1
  have hl : lv_has ls 4 [(0, .ref (ad (cO GC 0)))] := hl
  obtain ⟨H, hH⟩ : ∃ H, H = s.heap := ⟨_, rfl⟩
  rw [← hH] at X ⊢
  obtain ⟨locs, hlocs⟩ : ∃ locs : List Loc, locs = [] := ⟨_, rfl⟩
  rw [← hlocs] at X ⊢
  clear hH hlocs
  have J177 : ∀ (H : Heap) (locs : List Loc) (x1 : Int64) (M : Mem) (ls : Array Slot), Wd D ad cs GC A s H locs M → lv_has ls 4 [(0, .ref (ad (cO GC 0))), (1, .long x1)] → ∀ (_ : Unit), fX9_digest_177 x1 M = some z → W p l e (rmo 23 628) s m args below meth c H locs 0 0 Q (F0 m 177 ls []) := by
    intro H locs x1 M ls X hl  _u h
    unfold fX9_digest_177 at h
    refine lv_lload_n hx hb dX9_digest_177 rfl (lv_at hl 1 rfl) ?_
    refine lv_aload_n hx hb dX9_digest_178 rfl (lv_at hl 0 rfl) ?_
    obtain ⟨r1, hr1, h⟩ := bd_x h
    refine r_calli X (r_runV F X (kX9_never l D ad cs A  M  _ hr1) gm_X9_358 hd_X9_never ⟨Nat.le_of_ble_eq_true rfl, Nat.le_of_ble_eq_true rfl⟩ qC0 rfl rfl hl.1 rfl (Nat.le_of_ble_eq_true rfl) dX9_digest_179) (fun H locs X => ?_)
    refine lv_i2l (v := Int32.toInt64 r1.1) hx hb dX9_digest_182 rfl ?_
    obtain ⟨r2, hr2, h⟩ := bd_x h
    refine r_calll0 X (r_runS F X (kX9_mixed l D ad cs A  r1.2 x1 (Int32.toInt64 r1.1) _ hr2) gm_X9_329 hd_X9_mixed ⟨Nat.le_of_ble_eq_true rfl, Nat.le_of_ble_eq_true rfl⟩ rfl hl.1 rfl (Nat.le_of_ble_eq_true rfl) dX9_digest_183) (fun H locs X => ?_)
    obtain ⟨u3, eu3, h⟩ := nm_x h
    refine topL eu3 ?_
    refine lv_lstore_n (lv' := [(1, .long u3), (0, .ref (ad (cO GC 0)))]) hx hb dX9_digest_186 rfl hl (by decide) rfl (fun ls hl => ?_)
    refine lv_lload_n hx hb dX9_digest_187 rfl (lv_at hl 0 rfl) ?_
    refine lv_aload_n hx hb dX9_digest_188 rfl (lv_at hl 1 rfl) ?_
    refine lv_bipush (v := 7) hx hb dX9_digest_189 (by decide) ?_
    refine lv_bipush (v := 15) hx hb dX9_digest_191 (by decide) ?_
    refine lv_iconst (v := 0) hx hb dX9_digest_193 (by decide) ?_
    obtain ⟨r4, hr4, h⟩ := bd_x h
    refine r_calli X (r_runV F X (kX9_again l D ad cs A  r1.2 7 15 0 _ hr4) gm_X9_361 hd_X9_again ⟨Nat.le_of_ble_eq_true rfl, Nat.le_of_ble_eq_true rfl⟩ qC0 rfl rfl hl.1 rfl (Nat.le_of_ble_eq_true rfl) dX9_digest_194) (fun H locs X => ?_)
    refine lv_i2l (v := Int32.toInt64 r4.1) hx hb dX9_digest_197 rfl ?_
    obtain ⟨r5, hr5, h⟩ := bd_x h
    refine r_calll0 X (r_runS F X (kX9_mixed l D ad cs A  r4.2 u3 (Int32.toInt64 r4.1) _ hr5) gm_X9_329 hd_X9_mixed ⟨Nat.le_of_ble_eq_true rfl, Nat.le_of_ble_eq_true rfl⟩ rfl hl.1 rfl (Nat.le_of_ble_eq_true rfl) dX9_digest_198) (fun H locs X => ?_)
    obtain ⟨u6, eu6, h⟩ := nm_x h
    refine topL eu6 ?_
    refine lv_lstore_n (lv' := [(1, .long u6), (0, .ref (ad (cO GC 0)))]) hx hb dX9_digest_201 rfl hl (by decide) rfl (fun ls hl => ?_)
    refine lv_lload_n hx hb dX9_digest_202 rfl (lv_at hl 0 rfl) ?_
    refine lv_aload_n hx hb dX9_digest_203 rfl (lv_at hl 1 rfl) ?_
    refine lv_bipush (v := 7) hx hb dX9_digest_204 (by decide) ?_
    refine lv_bipush (v := 15) hx hb dX9_digest_206 (by decide) ?_
    refine lv_iconst (v := 1) hx hb dX9_digest_208 (by decide) ?_
    obtain ⟨r7, hr7, h⟩ := bd_x h
    refine r_calli X (r_runV F X (kX9_again l D ad cs A  r4.2 7 15 1 _ hr7) gm_X9_361 hd_X9_again ⟨Nat.le_of_ble_eq_true rfl, Nat.le_of_ble_eq_true rfl⟩ qC0 rfl rfl hl.1 rfl (Nat.le_of_ble_eq_true rfl) dX9_digest_209) (fun H locs X => ?_)
    refine lv_i2l (v := Int32.toInt64 r7.1) hx hb dX9_digest_212 rfl ?_
    obtain ⟨r8, hr8, h⟩ := bd_x h
    refine r_calll0 X (r_runS F X (kX9_mixed l D ad cs A  r7.2 u6 (Int32.toInt64 r7.1) _ hr8) gm_X9_329 hd_X9_mixed ⟨Nat.le_of_ble_eq_true rfl, Nat.le_of_ble_eq_true rfl⟩ rfl hl.1 rfl (Nat.le_of_ble_eq_true rfl) dX9_digest_213) (fun H locs X => ?_)
    have h := sm_x h
    exact RT H locs _ _ 216 ls X h dX9_digest_216
  have L155 : ∀ (n : Nat) (H : Heap) (locs : List Loc) (x1 : Int64) (x3 : Int32) (M : Mem) (ls : Array Slot), Wd D ad cs GC A s H locs M → lv_has ls 4 [(0, .ref (ad (cO GC 0))), (1, .long x1), (3, .int x3)] → ∀ (_ : Unit), lpO (fun st => fX9_digest_155 st.1 st.2.1 st.2.2) n (x1, x3, M) = some z → W p l e (rmo 23 628) s m args below meth c H locs 0 0 Q (F0 m 155 ls []) := by
    intro n
    induction n with
    | zero =>
      intro H locs x1 x3 M ls X hl  yy h
      exact lp_0 h
    | succ n1 ih155 =>
      intro H locs x1 x3 M ls X hl  _u h
      obtain ⟨y1, h, hk1⟩ := lp_x h
      unfold fX9_digest_155 at h
      refine lv_iload_n hx hb dX9_digest_155 rfl (lv_at hl 2 rfl) ?_
      refine lv_iconst (v := 3) hx hb dX9_digest_156 (by decide) ?_
      refine lv_icmp_gt (tgt := 177) hx hb dX9_digest_157 (by decide) (fun c9 => ?_) (fun c9 => ?_)
      · have h := it_p h c9
        obtain ⟨_, h, ey⟩ := inr_x h
        rw [ey] at hk1
        have h := h.trans (congrArg some (sm_x hk1))
        exact J177 _ _ x1 M ls X (lv_sub hl [0, 1] rfl)  () h
      · have h := it_n h c9
        refine lv_lload_n hx hb dX9_digest_160 rfl (lv_at hl 1 rfl) ?_
        refine lv_aload_n hx hb dX9_digest_161 rfl (lv_at hl 0 rfl) ?_
        refine lv_iload_n hx hb dX9_digest_162 rfl (lv_at hl 2 rfl) ?_
        obtain ⟨r10, hr10, h⟩ := bd_x h
        refine r_calli X (r_runV F X (kX9_fair l D ad cs A  M x3 _ hr10) gm_X9_355 hd_X9_fair ⟨Nat.le_of_ble_eq_true rfl, Nat.le_of_ble_eq_true rfl⟩ qC0 rfl rfl hl.1 rfl (Nat.le_of_ble_eq_true rfl) dX9_digest_163) (fun H locs X => ?_)
        refine lv_i2l (v := Int32.toInt64 r10.1) hx hb dX9_digest_166 rfl ?_
        obtain ⟨r11, hr11, h⟩ := bd_x h
        refine r_calll0 X (r_runS F X (kX9_mixed l D ad cs A  r10.2 x1 (Int32.toInt64 r10.1) _ hr11) gm_X9_329 hd_X9_mixed ⟨Nat.le_of_ble_eq_true rfl, Nat.le_of_ble_eq_true rfl⟩ rfl hl.1 rfl (Nat.le_of_ble_eq_true rfl) dX9_digest_167) (fun H locs X => ?_)
        obtain ⟨u12, eu12, h⟩ := nm_x h
        refine topL eu12 ?_
        refine lv_lstore_n (lv' := [(1, .long u12), (0, .ref (ad (cO GC 0))), (3, .int x3)]) hx hb dX9_digest_170 rfl hl (by decide) rfl (fun ls hl => ?_)
        obtain ⟨u13, eu13, h⟩ := nm_x h
        refine lv_iinc (v := u13) (lv' := [(3, .int u13), (1, .long u12), (0, .ref (ad (cO GC 0)))]) hx hb dX9_digest_171 hl (k := 2) rfl (by rw [eu13]; rfl) (by decide) rfl (fun ls hl => ?_)
        refine lv_goto (tgt := 155) hx hb dX9_digest_174 (by decide) ?_
        rw [← sm_x h] at hk1
        exact ih155 _ _ u12 u13 r10.2 ls X (lv_sub hl [2, 1, 0] rfl)  () hk1
  have J103 : ∀ (H : Heap) (locs : List Loc) (x1 : Int64) (M : Mem) (ls : Array Slot), Wd D ad cs GC A s H locs M → lv_has ls 4 [(0, .ref (ad (cO GC 0))), (1, .long x1)] → ∀ (_ : Unit), fX9_digest_103 x1 M = some z → W p l e (rmo 23 628) s m args below meth c H locs 0 0 Q (F0 m 103 ls []) := by
    intro H locs x1 M ls X hl  _u h
    unfold fX9_digest_103 at h
    refine lv_lload_n hx hb dX9_digest_103 rfl (lv_at hl 1 rfl) ?_
    refine lv_aload_n hx hb dX9_digest_104 rfl (lv_at hl 0 rfl) ?_
    obtain ⟨r14, hr14, h⟩ := bd_x h
    refine r_calli0 X (r_runV F X (kX9_out l D ad cs A  M  _ hr14) gm_X9_343 hd_X9_out ⟨Nat.le_of_ble_eq_true rfl, Nat.le_of_ble_eq_true rfl⟩ qC0 rfl rfl hl.1 rfl (Nat.le_of_ble_eq_true rfl) dX9_digest_105) (fun H locs X => ?_)
    refine lv_i2l (v := Int32.toInt64 r14) hx hb dX9_digest_108 rfl ?_
    obtain ⟨r15, hr15, h⟩ := bd_x h
    refine r_calll0 X (r_runS F X (kX9_mixed l D ad cs A  M x1 (Int32.toInt64 r14) _ hr15) gm_X9_329 hd_X9_mixed ⟨Nat.le_of_ble_eq_true rfl, Nat.le_of_ble_eq_true rfl⟩ rfl hl.1 rfl (Nat.le_of_ble_eq_true rfl) dX9_digest_109) (fun H locs X => ?_)
    obtain ⟨u16, eu16, h⟩ := nm_x h
    refine topL eu16 ?_
    refine lv_lstore_n (lv' := [(1, .long u16), (0, .ref (ad (cO GC 0)))]) hx hb dX9_digest_112 rfl hl (by decide) rfl (fun ls hl => ?_)
    refine lv_lload_n hx hb dX9_digest_113 rfl (lv_at hl 0 rfl) ?_
    refine lv_aload_n hx hb dX9_digest_114 rfl (lv_at hl 1 rfl) ?_
    obtain ⟨r17, hr17, h⟩ := bd_x h
    refine r_calli0 X (r_runV F X (kX9_estate l D ad cs A  M  _ hr17) gm_X9_345 hd_X9_estate ⟨Nat.le_of_ble_eq_true rfl, Nat.le_of_ble_eq_true rfl⟩ qC0 rfl rfl hl.1 rfl (Nat.le_of_ble_eq_true rfl) dX9_digest_115) (fun H locs X => ?_)
    refine lv_i2l (v := Int32.toInt64 r17) hx hb dX9_digest_118 rfl ?_
    obtain ⟨r18, hr18, h⟩ := bd_x h
    refine r_calll0 X (r_runS F X (kX9_mixed l D ad cs A  M u16 (Int32.toInt64 r17) _ hr18) gm_X9_329 hd_X9_mixed ⟨Nat.le_of_ble_eq_true rfl, Nat.le_of_ble_eq_true rfl⟩ rfl hl.1 rfl (Nat.le_of_ble_eq_true rfl) dX9_digest_119) (fun H locs X => ?_)
    obtain ⟨u19, eu19, h⟩ := nm_x h
    refine topL eu19 ?_
    refine lv_lstore_n (lv' := [(1, .long u19), (0, .ref (ad (cO GC 0)))]) hx hb dX9_digest_122 rfl hl (by decide) rfl (fun ls hl => ?_)
    refine lv_lload_n hx hb dX9_digest_123 rfl (lv_at hl 0 rfl) ?_
    refine lv_aload_n hx hb dX9_digest_124 rfl (lv_at hl 1 rfl) ?_
    obtain ⟨r20, hr20, h⟩ := bd_x h
    refine r_calli0 X (r_runV F X (kX9_richest l D ad cs A  M  _ hr20) gm_X9_348 hd_X9_richest ⟨Nat.le_of_ble_eq_true rfl, Nat.le_of_ble_eq_true rfl⟩ qC0 rfl rfl hl.1 rfl (Nat.le_of_ble_eq_true rfl) dX9_digest_125) (fun H locs X => ?_)
    refine lv_i2l (v := Int32.toInt64 r20) hx hb dX9_digest_128 rfl ?_
    obtain ⟨r21, hr21, h⟩ := bd_x h
    refine r_calll0 X (r_runS F X (kX9_mixed l D ad cs A  M u19 (Int32.toInt64 r20) _ hr21) gm_X9_329 hd_X9_mixed ⟨Nat.le_of_ble_eq_true rfl, Nat.le_of_ble_eq_true rfl⟩ rfl hl.1 rfl (Nat.le_of_ble_eq_true rfl) dX9_digest_129) (fun H locs X => ?_)
    obtain ⟨u22, eu22, h⟩ := nm_x h
    refine topL eu22 ?_
    refine lv_lstore_n (lv' := [(1, .long u22), (0, .ref (ad (cO GC 0)))]) hx hb dX9_digest_132 rfl hl (by decide) rfl (fun ls hl => ?_)
    refine lv_lload_n hx hb dX9_digest_133 rfl (lv_at hl 0 rfl) ?_
    refine lv_aload_n hx hb dX9_digest_134 rfl (lv_at hl 1 rfl) ?_
    obtain ⟨r23, hr23, h⟩ := bd_x h
    refine r_calli0 X (r_runV F X (kX9_longest l D ad cs A  M  _ hr23) gm_X9_351 hd_X9_longest ⟨Nat.le_of_ble_eq_true rfl, Nat.le_of_ble_eq_true rfl⟩ qC0 rfl rfl hl.1 rfl (Nat.le_of_ble_eq_true rfl) dX9_digest_135) (fun H locs X => ?_)
    refine lv_i2l (v := Int32.toInt64 r23) hx hb dX9_digest_138 rfl ?_
    obtain ⟨r24, hr24, h⟩ := bd_x h
    refine r_calll0 X (r_runS F X (kX9_mixed l D ad cs A  M u22 (Int32.toInt64 r23) _ hr24) gm_X9_329 hd_X9_mixed ⟨Nat.le_of_ble_eq_true rfl, Nat.le_of_ble_eq_true rfl⟩ rfl hl.1 rfl (Nat.le_of_ble_eq_true rfl) dX9_digest_139) (fun H locs X => ?_)
    obtain ⟨u25, eu25, h⟩ := nm_x h
    refine topL eu25 ?_
    refine lv_lstore_n (lv' := [(1, .long u25), (0, .ref (ad (cO GC 0)))]) hx hb dX9_digest_142 rfl hl (by decide) rfl (fun ls hl => ?_)
    refine lv_lload_n hx hb dX9_digest_143 rfl (lv_at hl 0 rfl) ?_
    refine lv_aload_n hx hb dX9_digest_144 rfl (lv_at hl 1 rfl) ?_
    obtain ⟨r26, hr26, h⟩ := bd_x h
    refine r_calli0 X (r_runV F X (kX9_ditch l D ad cs A  M  _ hr26) gm_X9_353 hd_X9_ditch ⟨Nat.le_of_ble_eq_true rfl, Nat.le_of_ble_eq_true rfl⟩ qC0 rfl rfl hl.1 rfl (Nat.le_of_ble_eq_true rfl) dX9_digest_145) (fun H locs X => ?_)
    refine lv_i2l (v := Int32.toInt64 r26) hx hb dX9_digest_148 rfl ?_
    obtain ⟨r27, hr27, h⟩ := bd_x h
    refine r_calll0 X (r_runS F X (kX9_mixed l D ad cs A  M u25 (Int32.toInt64 r26) _ hr27) gm_X9_329 hd_X9_mixed ⟨Nat.le_of_ble_eq_true rfl, Nat.le_of_ble_eq_true rfl⟩ rfl hl.1 rfl (Nat.le_of_ble_eq_true rfl) dX9_digest_149) (fun H locs X => ?_)
    obtain ⟨u28, eu28, h⟩ := nm_x h
    refine topL eu28 ?_
    refine lv_lstore_n (lv' := [(1, .long u28), (0, .ref (ad (cO GC 0)))]) hx hb dX9_digest_152 rfl hl (by decide) rfl (fun ls hl => ?_)
    refine lv_iconst (v := 0) hx hb dX9_digest_153 (by decide) ?_
    obtain ⟨u29, eu29, h⟩ := nm_x h
    refine topE eu29 ?_
    refine lv_istore_n (lv' := [(3, .int u29), (1, .long u28), (0, .ref (ad (cO GC 0)))]) hx hb dX9_digest_154 rfl hl (by decide) rfl (fun ls hl => ?_)
    exact L155 FU _ _ u28 u29 M ls X (lv_sub hl [2, 1, 0] rfl)  () h
  have L79 : ∀ (n : Nat) (H : Heap) (locs : List Loc) (x1 : Int64) (x3 : Int32) (M : Mem) (ls : Array Slot), Wd D ad cs GC A s H locs M → lv_has ls 4 [(0, .ref (ad (cO GC 0))), (1, .long x1), (3, .int x3)] → ∀ (_ : Unit), lpO (fun st => fX9_digest_79 st.1 st.2.1 st.2.2) n (x1, x3, M) = some z → W p l e (rmo 23 628) s m args below meth c H locs 0 0 Q (F0 m 79 ls []) := by
    intro n
    induction n with
    | zero =>
      intro H locs x1 x3 M ls X hl  yy h
      exact lp_0 h
    | succ n1 ih79 =>
      intro H locs x1 x3 M ls X hl  _u h
      obtain ⟨y1, h, hk1⟩ := lp_x h
      unfold fX9_digest_79 at h
      refine lv_iload_n hx hb dX9_digest_79 rfl (lv_at hl 2 rfl) ?_
      refine lv_aload_n hx hb dX9_digest_80 rfl (lv_at hl 0 rfl) ?_
      refine gf_X9_24 F X qC0 dX9_digest_81 ?_
      refine gf_X9_144 F X qC3 dX9_digest_84 ?_
      refine lv_icmp_ge (tgt := 103) hx hb dX9_digest_87 (by decide) (fun c30 => ?_) (fun c30 => ?_)
      · have h := it_p h c30
        obtain ⟨_, h, ey⟩ := inr_x h
        rw [ey] at hk1
        have h := h.trans (congrArg some (sm_x hk1))
        exact J103 _ _ x1 M ls X (lv_sub hl [0, 1] rfl)  () h
      · have h := it_n h c30
        refine lv_aload_n hx hb dX9_digest_90 rfl (lv_at hl 0 rfl) ?_
        refine lv_lload_n hx hb dX9_digest_91 rfl (lv_at hl 1 rfl) ?_
        refine lv_iload_n hx hb dX9_digest_92 rfl (lv_at hl 2 rfl) ?_
        obtain ⟨r31, hr31, h⟩ := bd_x h
        refine r_calll0 X (r_runV F X (kX9_mixStop l D ad cs A  M x1 x3 _ hr31) gm_X9_340 hd_X9_mixStop ⟨Nat.le_of_ble_eq_true rfl, Nat.le_of_ble_eq_true rfl⟩ qC0 rfl rfl hl.1 rfl (Nat.le_of_ble_eq_true rfl) dX9_digest_93) (fun H locs X => ?_)
        obtain ⟨u32, eu32, h⟩ := nm_x h
        refine topL eu32 ?_
        refine lv_lstore_n (lv' := [(1, .long u32), (0, .ref (ad (cO GC 0))), (3, .int x3)]) hx hb dX9_digest_96 rfl hl (by decide) rfl (fun ls hl => ?_)
        obtain ⟨u33, eu33, h⟩ := nm_x h
        refine lv_iinc (v := u33) (lv' := [(3, .int u33), (1, .long u32), (0, .ref (ad (cO GC 0)))]) hx hb dX9_digest_97 hl (k := 2) rfl (by rw [eu33]; rfl) (by decide) rfl (fun ls hl => ?_)
        refine lv_goto (tgt := 79) hx hb dX9_digest_100 (by decide) ?_
        rw [← sm_x h] at hk1
        exact ih79 _ _ u32 u33 M ls X (lv_sub hl [2, 1, 0] rfl)  () hk1
  have J77 : ∀ (H : Heap) (locs : List Loc) (x1 : Int64) (M : Mem) (ls : Array Slot), Wd D ad cs GC A s H locs M → lv_has ls 4 [(0, .ref (ad (cO GC 0))), (1, .long x1)] → ∀ (_ : Unit), fX9_digest_77 x1 M = some z → W p l e (rmo 23 628) s m args below meth c H locs 0 0 Q (F0 m 77 ls []) := by
    intro H locs x1 M ls X hl  _u h
    unfold fX9_digest_77 at h
    refine lv_iconst (v := 0) hx hb dX9_digest_77 (by decide) ?_
    obtain ⟨u34, eu34, h⟩ := nm_x h
    refine topE eu34 ?_
    refine lv_istore_n (lv' := [(3, .int u34), (0, .ref (ad (cO GC 0))), (1, .long x1)]) hx hb dX9_digest_78 rfl hl (by decide) rfl (fun ls hl => ?_)
    exact L79 FU _ _ x1 u34 M ls X (lv_sub hl [1, 2, 0] rfl)  () h
  have L53 : ∀ (n : Nat) (H : Heap) (locs : List Loc) (x1 : Int64) (x3 : Int32) (M : Mem) (ls : Array Slot), Wd D ad cs GC A s H locs M → lv_has ls 4 [(0, .ref (ad (cO GC 0))), (1, .long x1), (3, .int x3)] → ∀ (_ : Unit), lpO (fun st => fX9_digest_53 st.1 st.2.1 st.2.2) n (x1, x3, M) = some z → W p l e (rmo 23 628) s m args below meth c H locs 0 0 Q (F0 m 53 ls []) := by
    intro n
    induction n with
    | zero =>
      intro H locs x1 x3 M ls X hl  yy h
      exact lp_0 h
    | succ n1 ih53 =>
      intro H locs x1 x3 M ls X hl  _u h
      obtain ⟨y1, h, hk1⟩ := lp_x h
      unfold fX9_digest_53 at h
      refine lv_iload_n hx hb dX9_digest_53 rfl (lv_at hl 2 rfl) ?_
      refine lv_aload_n hx hb dX9_digest_54 rfl (lv_at hl 0 rfl) ?_
      refine gf_X9_24 F X qC0 dX9_digest_55 ?_
      refine gf_X9_232 F X qC3 dX9_digest_58 ?_
      refine lv_icmp_ge (tgt := 77) hx hb dX9_digest_61 (by decide) (fun c35 => ?_) (fun c35 => ?_)
      · have h := it_p h c35
        obtain ⟨_, h, ey⟩ := inr_x h
        rw [ey] at hk1
        have h := h.trans (congrArg some (sm_x hk1))
        exact J77 _ _ x1 M ls X (lv_sub hl [0, 1] rfl)  () h
      · have h := it_n h c35
        refine lv_aload_n hx hb dX9_digest_64 rfl (lv_at hl 0 rfl) ?_
        refine lv_lload_n hx hb dX9_digest_65 rfl (lv_at hl 1 rfl) ?_
        refine lv_iload_n hx hb dX9_digest_66 rfl (lv_at hl 2 rfl) ?_
        obtain ⟨r36, hr36, h⟩ := bd_x h
        refine r_calll X (r_runV F X (kX9_mixHeir l D ad cs A  M x1 x3 _ hr36) gm_X9_336 hd_X9_mixHeir ⟨Nat.le_of_ble_eq_true rfl, Nat.le_of_ble_eq_true rfl⟩ qC0 rfl rfl hl.1 rfl (Nat.le_of_ble_eq_true rfl) dX9_digest_67) (fun H locs X => ?_)
        obtain ⟨u37, eu37, h⟩ := nm_x h
        refine topL eu37 ?_
        refine lv_lstore_n (lv' := [(1, .long u37), (0, .ref (ad (cO GC 0))), (3, .int x3)]) hx hb dX9_digest_70 rfl hl (by decide) rfl (fun ls hl => ?_)
        obtain ⟨u38, eu38, h⟩ := nm_x h
        refine lv_iinc (v := u38) (lv' := [(3, .int u38), (1, .long u37), (0, .ref (ad (cO GC 0)))]) hx hb dX9_digest_71 hl (k := 2) rfl (by rw [eu38]; rfl) (by decide) rfl (fun ls hl => ?_)
        refine lv_goto (tgt := 53) hx hb dX9_digest_74 (by decide) ?_
        rw [← sm_x h] at hk1
        exact ih53 _ _ u37 u38 r36.2 ls X (lv_sub hl [2, 1, 0] rfl)  () hk1
  have J29 : ∀ (H : Heap) (locs : List Loc) (x1 : Int64) (M : Mem) (ls : Array Slot), Wd D ad cs GC A s H locs M → lv_has ls 4 [(0, .ref (ad (cO GC 0))), (1, .long x1)] → ∀ (_ : Unit), fX9_digest_29 x1 M = some z → W p l e (rmo 23 628) s m args below meth c H locs 0 0 Q (F0 m 29 ls []) := by
    intro H locs x1 M ls X hl  _u h
    unfold fX9_digest_29 at h
    refine lv_lload_n hx hb dX9_digest_29 rfl (lv_at hl 1 rfl) ?_
    refine lv_aload_n hx hb dX9_digest_30 rfl (lv_at hl 0 rfl) ?_
    refine lv_iconst (v := 0) hx hb dX9_digest_31 (by decide) ?_
    obtain ⟨r39, hr39, h⟩ := bd_x h
    refine r_calli0 X (r_runV F X (kX9_fault l D ad cs A  M 0 _ hr39) gm_X9_333 hd_X9_fault ⟨Nat.le_of_ble_eq_true rfl, Nat.le_of_ble_eq_true rfl⟩ qC0 rfl rfl hl.1 rfl (Nat.le_of_ble_eq_true rfl) dX9_digest_32) (fun H locs X => ?_)
    refine lv_i2l (v := Int32.toInt64 r39) hx hb dX9_digest_35 rfl ?_
    obtain ⟨r40, hr40, h⟩ := bd_x h
    refine r_calll0 X (r_runS F X (kX9_mixed l D ad cs A  M x1 (Int32.toInt64 r39) _ hr40) gm_X9_329 hd_X9_mixed ⟨Nat.le_of_ble_eq_true rfl, Nat.le_of_ble_eq_true rfl⟩ rfl hl.1 rfl (Nat.le_of_ble_eq_true rfl) dX9_digest_36) (fun H locs X => ?_)
    obtain ⟨u41, eu41, h⟩ := nm_x h
    refine topL eu41 ?_
    refine lv_lstore_n (lv' := [(1, .long u41), (0, .ref (ad (cO GC 0)))]) hx hb dX9_digest_39 rfl hl (by decide) rfl (fun ls hl => ?_)
    refine lv_lload_n hx hb dX9_digest_40 rfl (lv_at hl 0 rfl) ?_
    refine lv_aload_n hx hb dX9_digest_41 rfl (lv_at hl 1 rfl) ?_
    refine lv_iconst (v := 1) hx hb dX9_digest_42 (by decide) ?_
    obtain ⟨r42, hr42, h⟩ := bd_x h
    refine r_calli0 X (r_runV F X (kX9_fault l D ad cs A  M 1 _ hr42) gm_X9_333 hd_X9_fault ⟨Nat.le_of_ble_eq_true rfl, Nat.le_of_ble_eq_true rfl⟩ qC0 rfl rfl hl.1 rfl (Nat.le_of_ble_eq_true rfl) dX9_digest_43) (fun H locs X => ?_)
    refine lv_i2l (v := Int32.toInt64 r42) hx hb dX9_digest_46 rfl ?_
    obtain ⟨r43, hr43, h⟩ := bd_x h
    refine r_calll0 X (r_runS F X (kX9_mixed l D ad cs A  M u41 (Int32.toInt64 r42) _ hr43) gm_X9_329 hd_X9_mixed ⟨Nat.le_of_ble_eq_true rfl, Nat.le_of_ble_eq_true rfl⟩ rfl hl.1 rfl (Nat.le_of_ble_eq_true rfl) dX9_digest_47) (fun H locs X => ?_)
    obtain ⟨u44, eu44, h⟩ := nm_x h
    refine topL eu44 ?_
    refine lv_lstore_n (lv' := [(1, .long u44), (0, .ref (ad (cO GC 0)))]) hx hb dX9_digest_50 rfl hl (by decide) rfl (fun ls hl => ?_)
    refine lv_iconst (v := 0) hx hb dX9_digest_51 (by decide) ?_
    obtain ⟨u45, eu45, h⟩ := nm_x h
    refine topE eu45 ?_
    refine lv_istore_n (lv' := [(3, .int u45), (1, .long u44), (0, .ref (ad (cO GC 0)))]) hx hb dX9_digest_52 rfl hl (by decide) rfl (fun ls hl => ?_)
    exact L53 FU _ _ u44 u45 M ls X (lv_sub hl [2, 1, 0] rfl)  () h
  have L6 : ∀ (n : Nat) (H : Heap) (locs : List Loc) (x1 : Int64) (x3 : Int32) (M : Mem) (ls : Array Slot), Wd D ad cs GC A s H locs M → lv_has ls 4 [(0, .ref (ad (cO GC 0))), (1, .long x1), (3, .int x3)] → ∀ (_ : Unit), lpO (fun st => fX9_digest_6 st.1 st.2.1 st.2.2) n (x1, x3, M) = some z → W p l e (rmo 23 628) s m args below meth c H locs 0 0 Q (F0 m 6 ls []) := by
    intro n
    induction n with
    | zero =>
      intro H locs x1 x3 M ls X hl  yy h
      exact lp_0 h
    | succ n1 ih6 =>
      intro H locs x1 x3 M ls X hl  _u h
      obtain ⟨y1, h, hk1⟩ := lp_x h
      unfold fX9_digest_6 at h
      refine lv_iload_n hx hb dX9_digest_6 rfl (lv_at hl 2 rfl) ?_
      refine lv_bipush (v := 7) hx hb dX9_digest_7 (by decide) ?_
      refine lv_icmp_gt (tgt := 29) hx hb dX9_digest_9 (by decide) (fun c46 => ?_) (fun c46 => ?_)
      · have h := it_p h c46
        obtain ⟨_, h, ey⟩ := inr_x h
        rw [ey] at hk1
        have h := h.trans (congrArg some (sm_x hk1))
        exact J29 _ _ x1 M ls X (lv_sub hl [0, 1] rfl)  () h
      · have h := it_n h c46
        refine lv_lload_n hx hb dX9_digest_12 rfl (lv_at hl 1 rfl) ?_
        refine lv_aload_n hx hb dX9_digest_13 rfl (lv_at hl 0 rfl) ?_
        refine lv_iload_n hx hb dX9_digest_14 rfl (lv_at hl 2 rfl) ?_
        obtain ⟨r47, hr47, h⟩ := bd_x h
        refine r_calli0 X (r_runV F X (kX9_count l D ad cs A  M x3 _ hr47) gm_X9_326 hd_X9_count ⟨Nat.le_of_ble_eq_true rfl, Nat.le_of_ble_eq_true rfl⟩ qC0 rfl rfl hl.1 rfl (Nat.le_of_ble_eq_true rfl) dX9_digest_15) (fun H locs X => ?_)
        refine lv_i2l (v := Int32.toInt64 r47) hx hb dX9_digest_18 rfl ?_
        obtain ⟨r48, hr48, h⟩ := bd_x h
        refine r_calll0 X (r_runS F X (kX9_mixed l D ad cs A  M x1 (Int32.toInt64 r47) _ hr48) gm_X9_329 hd_X9_mixed ⟨Nat.le_of_ble_eq_true rfl, Nat.le_of_ble_eq_true rfl⟩ rfl hl.1 rfl (Nat.le_of_ble_eq_true rfl) dX9_digest_19) (fun H locs X => ?_)
        obtain ⟨u49, eu49, h⟩ := nm_x h
        refine topL eu49 ?_
        refine lv_lstore_n (lv' := [(1, .long u49), (0, .ref (ad (cO GC 0))), (3, .int x3)]) hx hb dX9_digest_22 rfl hl (by decide) rfl (fun ls hl => ?_)
        obtain ⟨u50, eu50, h⟩ := nm_x h
        refine lv_iinc (v := u50) (lv' := [(3, .int u50), (1, .long u49), (0, .ref (ad (cO GC 0)))]) hx hb dX9_digest_23 hl (k := 2) rfl (by rw [eu50]; rfl) (by decide) rfl (fun ls hl => ?_)
        refine lv_goto (tgt := 6) hx hb dX9_digest_26 (by decide) ?_
        rw [← sm_x h] at hk1
        exact ih6 _ _ u49 u50 M ls X (lv_sub hl [2, 1, 0] rfl)  () hk1
  have h := hz
  unfold fX9_digest at h
  refine lv_ldc2 (v := 17) hx hb F.2.2.2.1 (F.2.2.2.2 _ (mT4 16 rfl rfl)) dX9_digest_0 ?_
  obtain ⟨u51, eu51, h⟩ := nm_x h
  refine topL eu51 ?_
  refine lv_lstore_n (lv' := [(1, .long u51), (0, .ref (ad (cO GC 0)))]) hx hb dX9_digest_3 rfl hl (by decide) rfl (fun ls hl => ?_)
  refine lv_iconst (v := 0) hx hb dX9_digest_4 (by decide) ?_
  obtain ⟨u52, eu52, h⟩ := nm_x h
  refine topE eu52 ?_
  refine lv_istore_n (lv' := [(3, .int u52), (1, .long u51), (0, .ref (ad (cO GC 0)))]) hx hb dX9_digest_5 rfl hl (by decide) rfl (fun ls hl => ?_)
  exact L6 FU _ _ u51 u52 M ls X (lv_sub hl [2, 1, 0] rfl)  () h

