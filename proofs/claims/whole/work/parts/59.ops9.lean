/-! ===== what is asked of the told walk ===== -/
theorem md_estateNow {R : Mem} {h : Nat} {r : Nat → Nat} (h8 : h ≤ 8) (e3 : R 0 2 0 = nI h) (e : ∀ i, i < h → R 0 20 i = nI (r i)) : fX10_estateNow R = some (nI (sN r h)) := by
  apply Sp.eq
  unfold fX10_estateNow
  simp only [sp_gd, sp_nm, sp_bind, sp_ite, sp_some, sp_inr]
  refine lp_for (fun i st => st = (nI (sN r i), nI i)) h (by omega) ?_ ?_ (Nat.zero_le _) rfl
  · rintro i st hi rfl
    unfold fX10_estateNow_4
    simp only [sp_gd, sp_nm, sp_bind, sp_ite, sp_some, sp_inr]
    rw [e3, nI_leI (by omega) (by omega), inB_nI (by omega), nI_clamp (by omega), e i hi, nI_1, nI_add]
    exact ⟨fun hc => absurd hc (by omega), fun _ => ⟨by omega, rfl⟩⟩
  · rintro st rfl
    unfold fX10_estateNow_4
    simp only [sp_gd, sp_nm, sp_bind, sp_ite, sp_some, sp_inr]
    rw [e3, nI_leI (by omega) (by omega)]
    exact ⟨fun _ => rfl, fun hc => absurd (Nat.le_refl _) hc⟩
theorem md_richestNow {R : Mem} {h : Nat} {r : Nat → Nat} (h8 : h ≤ 8) (e3 : R 0 2 0 = nI h) (e : ∀ i, i < h → R 0 20 i = nI (r i)) (hr : ∀ i, i < h → r i ≤ 360) : fX10_richestNow R = some (richA r h).1 := by
  apply Sp.eq
  unfold fX10_richestNow
  simp only [sp_gd, sp_nm, sp_bind, sp_ite, sp_some, sp_inr]
  refine lp_for (fun i st => st = ((richA r i).1, nI (richA r i).2, nI i)) h (by omega) ?_ ?_ (Nat.zero_le _) rfl
  · rintro i st hi rfl
    have hm := richA_le (r := r) (b := 360) i (fun q hq => hr q (by omega))
    have hri := hr i hi
    unfold fX10_richestNow_6 fX10_richestNow_29 fX10_richestNow_50
    simp only [sp_gd, sp_nm, sp_bind, sp_ite, sp_some, sp_inr]
    rw [e3, nI_leI (by omega) (by omega), inB_nI (by omega), nI_clamp (by omega), e i hi, nI_1, nI_leI (by omega) (by omega)]
    refine ⟨fun hc => absurd hc (by omega), fun _ => ⟨by omega, fun hle => ⟨by omega, fun _ => ?_, fun z => absurd hle z⟩, fun hle => ⟨by omega, fun z => absurd z hle, fun _ => ⟨by omega, ?_⟩⟩⟩⟩
    · show _ = _
      rw [show richA r (i + 1) = richA r i by rw [richA, if_neg (by omega)]]
    · show _ = _
      rw [show richA r (i + 1) = (nI i, r i) by rw [richA, if_pos (by omega)]]
  · rintro st rfl
    unfold fX10_richestNow_6
    simp only [sp_gd, sp_nm, sp_bind, sp_ite, sp_some, sp_inr]
    rw [e3, nI_leI (by omega) (by omega)]
    exact ⟨fun _ => rfl, fun hc => absurd (Nat.le_refl _) hc⟩
theorem st360 {γ : Cfg} (hγ : okC γ) {k : Nat} (hk : k ≤ 20) : ∀ i, i < γ.1 5 0 → (stW γ k).1 0 i ≤ 360 := fun i hi => ((Bd_20 (Bd_st hγ k) hk).2.2.2 i hi).1
theorem cl_estate {C : Mem} {S : St} (hS : okS S) (hC : RC C S) : fX9_estate C = some (nI (sN ((stW (told S) ((told S).1 6 0)).1 0) ((told S).1 5 0))) := by
  have hγ := okC_told hS
  have hw := hC.2.1.2.1
  apply Sp.eq
  unfold fX9_estate
  simp only [sp_gd, sp_nm, sp_bind, sp_ite, sp_some, sp_inr]
  exact Sp.of (cl_allShares hγ.1 hw.2.1 (fun i hi => (hw.1 i hi).1)) rfl
theorem cl_richestOp {C : Mem} {S : St} (hS : okS S) (hC : RC C S) : fX9_richest C = some (richA ((stW (told S) ((told S).1 6 0)).1 0) ((told S).1 5 0)).1 := by
  have hγ := okC_told hS
  have hw := hC.2.1.2.1
  apply Sp.eq
  unfold fX9_richest
  simp only [sp_gd, sp_nm, sp_bind, sp_ite, sp_some, sp_inr]
  exact Sp.of (cl_richest hγ.1 hw.2.1 (fun i hi => (hw.1 i hi).1) (st360 hγ hγ.2.1)) rfl
theorem md_estateOf {R : Mem} {S : St} (hS : okS S) (hR : RR R S) : Sp (fX10_estateOf R) (fun z => z.1 = nI (sN ((stW (told S) ((told S).1 6 0)).1 0) ((told S).1 5 0)) ∧ MT z.2 S ∧ frM SL R z.2) := by
  have hγ := okC_told hS
  unfold fX10_estateOf
  simp only [sp_gd, sp_nm, sp_bind, sp_ite, sp_some, sp_inr]
  refine (md_runsTold hS hR).mono (fun R1 ⟨⟨m1, m2, m3, m4, m5⟩, t1, f1⟩ => ?_)
  exact Sp.of (md_estateNow hγ.1 m1.1 (fun i hi => (m2.1 i hi).1)) ⟨rfl, t1, f1⟩
theorem md_richestOf {R : Mem} {S : St} (hS : okS S) (hR : RR R S) : Sp (fX10_richestOf R) (fun z => z.1 = (richA ((stW (told S) ((told S).1 6 0)).1 0) ((told S).1 5 0)).1 ∧ MT z.2 S ∧ frM SL R z.2) := by
  have hγ := okC_told hS
  unfold fX10_richestOf
  simp only [sp_gd, sp_nm, sp_bind, sp_ite, sp_some, sp_inr]
  refine (md_runsTold hS hR).mono (fun R1 ⟨⟨m1, m2, m3, m4, m5⟩, t1, f1⟩ => ?_)
  exact Sp.of (md_richestNow hγ.1 m1.1 (fun i hi => (m2.1 i hi).1) (st360 hγ hγ.2.1)) ⟨rfl, t1, f1⟩
theorem md_outOf {R : Mem} {S : St} (hS : okS S) (hR : RR R S) : Sp (fX10_outOf R) (fun z => z.1 = (stW (told S) ((told S).1 6 0)).2 ∧ MT z.2 S ∧ frM SL R z.2) := by
  unfold fX10_outOf
  simp only [sp_gd, sp_nm, sp_bind, sp_ite, sp_some, sp_inr]
  exact (md_runsTold hS hR).mono (fun R1 ⟨⟨m1, m2, m3, m4, m5⟩, t1, f1⟩ => ⟨m2.2.1, t1, f1⟩)
theorem md_longestOf {R : Mem} {S : St} (hS : okS S) (hR : RR R S) : Sp (fX10_longestOf R) (fun z => z.1 = (lngA (told S) ((told S).1 6 0)).1 ∧ MT z.2 S ∧ frM SL R z.2) := by
  unfold fX10_longestOf
  simp only [sp_gd, sp_nm, sp_bind, sp_ite, sp_some, sp_inr]
  exact (md_runsTold hS hR).mono (fun R1 ⟨⟨m1, m2, m3, m4, m5⟩, t1, f1⟩ => ⟨m4, t1, f1⟩)
theorem md_ditchOf {R : Mem} {S : St} (hS : okS S) (hR : RR R S) : Sp (fX10_ditchOf R) (fun z => z.1 = nI ((stW (told S) ((told S).1 6 0)).1 7 0) ∧ MT z.2 S ∧ frM SL R z.2) := by
  unfold fX10_ditchOf
  simp only [sp_gd, sp_nm, sp_bind, sp_ite, sp_some, sp_inr]
  exact (md_runsTold hS hR).mono (fun R1 ⟨⟨m1, m2, m3, m4, m5⟩, t1, f1⟩ => ⟨m2.2.2.2.2, t1, f1⟩)
theorem cl_outOp {C : Mem} {S : St} (hC : RC C S) : fX9_out C = some ((stW (told S) ((told S).1 6 0)).2) := by unfold fX9_out; rw [hC.2.1.2.1.2.2.1]
theorem cl_longestOp {C : Mem} {S : St} (hC : RC C S) : fX9_longest C = some ((lngA (told S) ((told S).1 6 0)).1) := by unfold fX9_longest; rw [hC.2.1.2.2.2.2]
theorem cl_ditchOp {C : Mem} {S : St} (hC : RC C S) : fX9_ditch C = some (nI ((stW (told S) ((told S).1 6 0)).1 7 0)) := by unfold fX9_ditch; rw [hC.2.1.2.1.2.2.2.2.2]
theorem op_out {C R : Mem} (h : Rel C R) : ∃ (r : Int32) (R' : Mem), fX9_out C = some r ∧ fX10_out R = some (r, R') ∧ Rel C R' := by
  obtain ⟨S, hS, hC, hR⟩ := h
  refine op_ro hS hC (cl_outOp hC) ?_
  unfold fX10_out
  simp only [sp_gd, sp_nm, sp_bind, sp_ite, sp_some, sp_inr]
  exact (md_outOf hS hR).mono (fun z ⟨z1, z2, z3⟩ => ⟨z1, hR.fr z3⟩)
theorem op_longest {C R : Mem} (h : Rel C R) : ∃ (r : Int32) (R' : Mem), fX9_longest C = some r ∧ fX10_longest R = some (r, R') ∧ Rel C R' := by
  obtain ⟨S, hS, hC, hR⟩ := h
  refine op_ro hS hC (cl_longestOp hC) ?_
  unfold fX10_longest
  simp only [sp_gd, sp_nm, sp_bind, sp_ite, sp_some, sp_inr]
  exact (md_longestOf hS hR).mono (fun z ⟨z1, z2, z3⟩ => ⟨z1, hR.fr z3⟩)
theorem op_ditch {C R : Mem} (h : Rel C R) : ∃ (r : Int32) (R' : Mem), fX9_ditch C = some r ∧ fX10_ditch R = some (r, R') ∧ Rel C R' := by
  obtain ⟨S, hS, hC, hR⟩ := h
  refine op_ro hS hC (cl_ditchOp hC) ?_
  unfold fX10_ditch
  simp only [sp_gd, sp_nm, sp_bind, sp_ite, sp_some, sp_inr]
  exact (md_ditchOf hS hR).mono (fun z ⟨z1, z2, z3⟩ => ⟨z1, hR.fr z3⟩)
theorem op_estate {C R : Mem} (h : Rel C R) : ∃ (r : Int32) (R' : Mem), fX9_estate C = some r ∧ fX10_estate R = some (r, R') ∧ Rel C R' := by
  obtain ⟨S, hS, hC, hR⟩ := h
  refine op_ro hS hC (cl_estate hS hC) ?_
  unfold fX10_estate
  simp only [sp_gd, sp_nm, sp_bind, sp_ite, sp_some, sp_inr]
  exact (md_estateOf hS hR).mono (fun z ⟨z1, z2, z3⟩ => ⟨z1, hR.fr z3⟩)
theorem op_richest {C R : Mem} (h : Rel C R) : ∃ (r : Int32) (R' : Mem), fX9_richest C = some r ∧ fX10_richest R = some (r, R') ∧ Rel C R' := by
  obtain ⟨S, hS, hC, hR⟩ := h
  refine op_ro hS hC (cl_richestOp hS hC) ?_
  unfold fX10_richest
  simp only [sp_gd, sp_nm, sp_bind, sp_ite, sp_some, sp_inr]
  exact (md_richestOf hS hR).mono (fun z ⟨z1, z2, z3⟩ => ⟨z1, hR.fr z3⟩)
/-- the four things of a stop -/
def dsN (S : St) (k w : Nat) : Nat := if w = 0 then (stW (told S) (k + 1)).1 8 0 else if w = 1 then (stW (told S) (k + 1)).1 9 0 else if w = 2 then (stW (told S) k).1 5 0 else (stW (told S) (k + 1)).1 10 0
theorem cl_does {C : Mem} {S : St} (hS : okS S) (hC : RC C S) {k w : Nat} (hk : k < (told S).1 6 0) (hw : w < 4) : fX9_does C (nI k) (nI w) = some (nI (dsN S k w)) := by
  have hn := (okC_told hS).2.1
  have hg := hC.2.1.1
  obtain ⟨q1, q2, q3, q4⟩ := hC.2.1.2.2.1 k hk
  apply Sp.eq
  unfold fX9_does
  simp only [sp_gd, sp_nm, sp_bind, sp_ite, sp_some, sp_inr]
  rw [hg.2.2.2.2.1, nI_ltI (by omega) (by omega), inB_nI (by omega), nI_clamp (by omega), q1, q2, q3, q4]
  refine ⟨fun z => absurd z (nI_pos (by omega)), fun _ => ⟨fun _ => ?_, fun z => absurd hk z⟩⟩
  rcases (show w = 0 ∨ w = 1 ∨ w = 2 ∨ w = 3 by omega) with rfl | rfl | rfl | rfl
  · exact ⟨fun _ => ⟨by omega, rfl⟩, fun z => absurd rfl z⟩
  · exact ⟨fun z => absurd z (by decide), fun _ => ⟨fun _ => ⟨by omega, rfl⟩, fun z => absurd rfl z⟩⟩
  · exact ⟨fun z => absurd z (by decide), fun _ => ⟨fun z => absurd z (by decide), fun _ => ⟨fun _ => ⟨by omega, rfl⟩, fun z => absurd rfl z⟩⟩⟩
  · exact ⟨fun z => absurd z (by decide), fun _ => ⟨fun z => absurd z (by decide), fun _ => ⟨fun z => absurd z (by decide), fun _ => ⟨fun _ => ⟨by omega, rfl⟩, fun z => absurd rfl z⟩⟩⟩⟩
theorem md_doesOf {R : Mem} {S : St} (hS : okS S) (hR : RR R S) {k w : Nat} (hk : k < (told S).1 6 0) (hw : w < 4) : Sp (fX10_doesOf R (nI k) (nI w)) (fun z => z.1 = nI (dsN S k w) ∧ MT z.2 S ∧ frM SL R z.2) := by
  have hn := (okC_told hS).2.1
  unfold fX10_doesOf
  simp only [sp_gd, sp_nm, sp_bind, sp_ite, sp_some, sp_inr]
  refine (md_runsTold hS hR).mono (fun R1 ⟨⟨m1, m2, m3, m4, m5⟩, t1, f1⟩ => ?_)
  obtain ⟨q1, q2, q3, q4⟩ := m3.1 k hk
  rw [inB_nI (by omega), nI_clamp (by omega), q1, q2, q3, q4]
  rcases (show w = 0 ∨ w = 1 ∨ w = 2 ∨ w = 3 by omega) with rfl | rfl | rfl | rfl
  · exact ⟨fun _ => ⟨by omega, rfl, t1, f1⟩, fun z => absurd rfl z⟩
  · exact ⟨fun z => absurd z (by decide), fun _ => ⟨fun _ => ⟨by omega, rfl, t1, f1⟩, fun z => absurd rfl z⟩⟩
  · exact ⟨fun z => absurd z (by decide), fun _ => ⟨fun z => absurd z (by decide), fun _ => ⟨fun _ => ⟨by omega, rfl, t1, f1⟩, fun z => absurd rfl z⟩⟩⟩
  · exact ⟨fun z => absurd z (by decide), fun _ => ⟨fun z => absurd z (by decide), fun _ => ⟨fun z => absurd z (by decide), fun _ => ⟨by omega, rfl, t1, f1⟩⟩⟩⟩
theorem outI_ne {b : Int32} {n j : Nat} (h : outI b n) (hj : j < n) (hn : n < 2147483648) : ¬ b = nI j := by
  intro e
  rw [e] at h
  rcases h with h | h
  · exact absurd h (nI_pos (by omega))
  · exact absurd ((nI_leI (by omega) (by omega)).mp h) (by omega)
theorem md_stopsMany {R : Mem} {S : St} (hS : okS S) (hR : RR R S) : Sp (fX10_stopsMany R) (fun z => z.1 = nI ((told S).1 6 0) ∧ MT z.2 S ∧ frM SL R z.2) := by
  unfold fX10_stopsMany
  simp only [sp_gd, sp_nm, sp_bind, sp_ite, sp_some, sp_inr]
  exact (md_reads hS hR).mono (fun R1 ⟨m1, f1⟩ => ⟨m1.2.2.1, m1, f1⟩)
theorem op_does {C R : Mem} (h : Rel C R) (a b : Int32) : ∃ (r : Int32) (R' : Mem), fX9_does C a b = some r ∧ fX10_does R a b = some (r, R') ∧ Rel C R' := by
  obtain ⟨S, hS, hC, hR⟩ := h
  have hn := (okC_told hS).2.1
  have hg := hC.2.1.1
  rcases ixI a (n := (told S).1 6 0) (by omega) with ha | ⟨k, hk, rfl⟩
  · refine op_ro (r := -2) hS hC (Sp.eq ?_) ?_
    · unfold fX9_does
      simp only [sp_gd, sp_nm, sp_bind, sp_ite, sp_some, sp_inr]
      rw [hg.2.2.2.2.1]
      refine ⟨fun _ => (by trivial), fun h0 => ⟨fun h1 => ?_, fun _ => (by trivial)⟩⟩
      rcases ha with ha | ha
      · exact absurd ha h0
      · exact absurd h1 (Int32.not_lt.mpr ha)
    · unfold fX10_does
      simp only [sp_gd, sp_nm, sp_bind, sp_ite, sp_some, sp_inr]
      refine (md_stopsMany hS hR).mono (fun z ⟨z1, z2, z3⟩ => ?_)
      rw [z1]
      exact Sp.of (inH_0 ha (by omega)) ⟨fun _ => ⟨(by trivial), hR.fr z3⟩, fun q => absurd rfl q⟩
  · rcases ixI b (n := 4) (by omega) with hb | ⟨w, hw, rfl⟩
    · refine op_ro (r := -2) hS hC (Sp.eq ?_) ?_
      · unfold fX9_does
        simp only [sp_gd, sp_nm, sp_bind, sp_ite, sp_some, sp_inr]
        rw [hg.2.2.2.2.1, nI_ltI (by omega) (by omega)]
        exact ⟨fun z => absurd z (nI_pos (by omega)), fun _ => ⟨fun _ => ⟨fun e => absurd e (outI_ne (j := 0) hb (by omega) (by omega)), fun _ => ⟨fun e => absurd e (outI_ne (j := 1) hb (by omega) (by omega)), fun _ => ⟨fun e => absurd e (outI_ne (j := 2) hb (by omega) (by omega)), fun _ => ⟨fun e => absurd e (outI_ne (j := 3) hb (by omega) (by omega)), fun _ => (by trivial)⟩⟩⟩⟩, fun z => absurd hk z⟩⟩
      · unfold fX10_does
        simp only [sp_gd, sp_nm, sp_bind, sp_ite, sp_some, sp_inr]
        refine (md_stopsMany hS hR).mono (fun z ⟨z1, z2, z3⟩ => ?_)
        rw [z1]
        exact Sp.of (inH_1 hk (by omega)) ⟨fun q => absurd q (by decide), fun _ => Sp.of (in_0 (n := 3) hb (by omega)) ⟨fun _ => ⟨(by trivial), hR.fr z3⟩, fun q => absurd rfl q⟩⟩
    · refine op_ro hS hC (cl_does hS hC hk hw) ?_
      unfold fX10_does
      simp only [sp_gd, sp_nm, sp_bind, sp_ite, sp_some, sp_inr]
      refine (md_stopsMany hS hR).mono (fun z ⟨z1, z2, z3⟩ => ?_)
      rw [z1]
      refine Sp.of (inH_1 hk (by omega)) ⟨fun q => absurd q (by decide), fun _ => Sp.of (in_1 (j := w) (n := 3) (by omega) (by omega)) ⟨fun q => absurd q (by decide), fun _ => ?_⟩⟩
      exact (md_doesOf hS (hR.fr z3) hk hw).mono (fun y ⟨y1, y2, y3⟩ => ⟨y1, hR.fr (z3.tr y3)⟩)
/-- share, fields, what is left -/
theorem cl_share {C : Mem} {S : St} (hS : okS S) (hC : RC C S) {k i w : Nat} (hk : k ≤ (told S).1 6 0) (hi : i < (told S).1 5 0) (hw : w < 3) : fX9_share C (nI k) (nI i) (nI w) = some (nI ((stW (told S) k).1 w i)) := by
  have hγ := okC_told hS
  have hn := hγ.2.1
  have h8 := hγ.1
  have hg := hC.2.1.1
  obtain ⟨q1, q2, q3⟩ := hC.2.1.2.2.2.1 k hk i hi
  apply Sp.eq
  unfold fX9_share
  simp only [sp_gd, sp_nm, sp_bind, sp_ite, sp_some, sp_inr]
  rw [hg.2.2.2.2.1]
  refine Sp.of (w_1 (j := k) hk (by omega)) ⟨fun z => absurd z (by decide), fun _ => Sp.of (h_1 hg.2.2.2.1 hi (by omega)) ⟨fun z => absurd z (by decide), fun _ => ?_⟩⟩
  rw [show nI k * (8 : Int32) + nI i = nI (8 * k + i) by rw [il8, pk_mul, nI_add, Nat.mul_comm], inB_nI (by omega), nI_clamp (by omega), q1, q2, q3]
  rcases (show w = 0 ∨ w = 1 ∨ w = 2 by omega) with rfl | rfl | rfl
  · exact ⟨fun _ => ⟨by omega, rfl⟩, fun z => absurd rfl z⟩
  · exact ⟨fun z => absurd z (by decide), fun _ => ⟨fun _ => ⟨by omega, rfl⟩, fun z => absurd rfl z⟩⟩
  · exact ⟨fun z => absurd z (by decide), fun _ => ⟨fun z => absurd z (by decide), fun _ => ⟨fun _ => ⟨by omega, rfl⟩, fun z => absurd rfl z⟩⟩⟩
theorem md_shareOf {R : Mem} {S : St} (hS : okS S) (hR : RR R S) {k i w : Nat} (hk : k ≤ (told S).1 6 0) (hi : i < (told S).1 5 0) (hw : w < 3) : Sp (fX10_shareOf R (nI k) (nI i) (nI w)) (fun z => z.1 = nI ((stW (told S) k).1 w i) ∧ MT z.2 S ∧ frM SL R z.2) := by
  have hγ := okC_told hS
  have hn := hγ.2.1
  have h8 := hγ.1
  unfold fX10_shareOf
  simp only [sp_gd, sp_nm, sp_bind, sp_ite, sp_some, sp_inr]
  refine (md_runsTold hS hR).mono (fun R1 ⟨⟨m1, m2, m3, m4, m5⟩, t1, f1⟩ => ?_)
  obtain ⟨q1, q2, q3⟩ := m3.2 k hk i hi
  rw [show (8 : Int32) * nI k + nI i = nI (8 * k + i) by rw [il8, pk_mul, nI_add], inB_nI (by omega), nI_clamp (by omega), q1, q2, q3]
  rcases (show w = 0 ∨ w = 1 ∨ w = 2 by omega) with rfl | rfl | rfl
  · exact ⟨fun _ => ⟨by omega, rfl, t1, f1⟩, fun z => absurd rfl z⟩
  · exact ⟨fun z => absurd z (by decide), fun _ => ⟨fun _ => ⟨by omega, rfl, t1, f1⟩, fun z => absurd rfl z⟩⟩
  · exact ⟨fun z => absurd z (by decide), fun _ => ⟨fun z => absurd z (by decide), fun _ => ⟨by omega, rfl, t1, f1⟩⟩⟩
theorem op_share {C R : Mem} (h : Rel C R) (a b c : Int32) : ∃ (r : Int32) (R' : Mem), fX9_share C a b c = some r ∧ fX10_share R a b c = some (r, R') ∧ Rel C R' := by
  obtain ⟨S, hS, hC, hR⟩ := h
  have hγ := okC_told hS
  have hn := hγ.2.1
  have h8 := hγ.1
  have hg := hC.2.1.1
  rcases ixI a (n := (told S).1 6 0 + 1) (by omega) with ha | ⟨k, hk, rfl⟩
  · refine op_ro (r := -2) hS hC (Sp.eq ?_) ?_
    · unfold fX9_share
      simp only [sp_gd, sp_nm, sp_bind, sp_ite, sp_some, sp_inr]
      rw [hg.2.2.2.2.1]
      exact Sp.of (w_0 ha (by omega)) ⟨fun _ => (by trivial), fun z => absurd rfl z⟩
    · unfold fX10_share
      simp only [sp_gd, sp_nm, sp_bind, sp_ite, sp_some, sp_inr]
      refine (md_stopsMany hS hR).mono (fun z ⟨z1, z2, z3⟩ => ?_)
      rw [z1]
      exact Sp.of (in_0 ha (by omega)) ⟨fun _ => ⟨(by trivial), hR.fr z3⟩, fun q => absurd rfl q⟩
  · rcases ixI b (n := (told S).1 5 0) (by omega) with hb | ⟨i, hi, rfl⟩
    · refine op_ro (r := -2) hS hC (Sp.eq ?_) ?_
      · unfold fX9_share
        simp only [sp_gd, sp_nm, sp_bind, sp_ite, sp_some, sp_inr]
        rw [hg.2.2.2.2.1]
        exact Sp.of (w_1 (j := k) (by omega) (by omega)) ⟨fun z => absurd z (by decide), fun _ => Sp.of (h_0 hg.2.2.2.1 hb) ⟨fun _ => (by trivial), fun z => absurd rfl z⟩⟩
      · unfold fX10_share
        simp only [sp_gd, sp_nm, sp_bind, sp_ite, sp_some, sp_inr]
        refine (md_stopsMany hS hR).mono (fun z ⟨z1, z2, z3⟩ => ?_)
        rw [z1]
        refine Sp.of (in_1 (j := k) (by omega) (by omega)) ⟨fun q => absurd q (by decide), fun _ => ?_⟩
        exact (md_isHeir0 hS (hR.fr z3) hb).mono (fun y ⟨y1, y2, y3⟩ => ⟨fun _ => ⟨(by trivial), hR.fr (z3.tr y3)⟩, fun q => absurd y1 q⟩)
    · rcases ixI c (n := 3) (by omega) with hc | ⟨w, hw, rfl⟩
      · refine op_ro (r := -2) hS hC (Sp.eq ?_) ?_
        · unfold fX9_share
          simp only [sp_gd, sp_nm, sp_bind, sp_ite, sp_some, sp_inr]
          rw [hg.2.2.2.2.1]
          exact Sp.of (w_1 (j := k) (by omega) (by omega)) ⟨fun z => absurd z (by decide), fun _ => Sp.of (h_1 hg.2.2.2.1 hi (by omega)) ⟨fun z => absurd z (by decide), fun _ => ⟨fun e => absurd e (outI_ne (j := 0) hc (by omega) (by omega)), fun _ => ⟨fun e => absurd e (outI_ne (j := 1) hc (by omega) (by omega)), fun _ => ⟨fun e => absurd e (outI_ne (j := 2) hc (by omega) (by omega)), fun _ => (by trivial)⟩⟩⟩⟩⟩
        · unfold fX10_share
          simp only [sp_gd, sp_nm, sp_bind, sp_ite, sp_some, sp_inr]
          refine (md_stopsMany hS hR).mono (fun z ⟨z1, z2, z3⟩ => ?_)
          rw [z1]
          refine Sp.of (in_1 (j := k) (by omega) (by omega)) ⟨fun q => absurd q (by decide), fun _ => ?_⟩
          refine (md_isHeir1 hS (hR.fr z3) hi).mono (fun y ⟨y1, y2, y3⟩ => ⟨fun q => absurd (y1.symm.trans q) (by decide), fun _ => ?_⟩)
          exact Sp.of (in_0 (n := 2) hc (by omega)) ⟨fun _ => ⟨(by trivial), hR.fr (z3.tr y3)⟩, fun q => absurd rfl q⟩
      · refine op_ro hS hC (cl_share hS hC (by omega) hi hw) ?_
        unfold fX10_share
        simp only [sp_gd, sp_nm, sp_bind, sp_ite, sp_some, sp_inr]
        refine (md_stopsMany hS hR).mono (fun z ⟨z1, z2, z3⟩ => ?_)
        rw [z1]
        refine Sp.of (in_1 (j := k) (by omega) (by omega)) ⟨fun q => absurd q (by decide), fun _ => ?_⟩
        refine (md_isHeir1 hS (hR.fr z3) hi).mono (fun y ⟨y1, y2, y3⟩ => ⟨fun q => absurd (y1.symm.trans q) (by decide), fun _ => ?_⟩)
        refine Sp.of (in_1 (j := w) (n := 2) (by omega) (by omega)) ⟨fun q => absurd q (by decide), fun _ => ?_⟩
        exact (md_shareOf hS (hR.fr (z3.tr y3)) (by omega) hi hw).mono (fun x ⟨x1, x2, x3⟩ => ⟨x1, hR.fr ((z3.tr y3).tr x3)⟩)
/-! count -/
def cntN (S : St) (w : Nat) : Nat := if w = 0 then (told S).1 5 0 else if w = 1 then (told S).1 6 0 else if w = 2 then S.1 2 0 else if w = 3 then S.1 2 1 else if w = 4 then S.1 5 0 else if w = 5 then (stW (told S) ((told S).1 6 0)).1 6 0 else if w = 6 then sN ((stW (told S) ((told S).1 6 0)).1 1) ((told S).1 5 0) else if w = 7 then S.1 8 0 else S.1 12 0
theorem cl_count {C : Mem} {S : St} (hS : okS S) (hC : RC C S) {w : Nat} (hw : w < 9) : fX9_count C (nI w) = some (nI (cntN S w)) := by
  have hγ := okC_told hS
  have hg := hC.2.1.1
  have hwk := hC.2.1.2.1
  obtain ⟨t1, t2, t3, t4, t5, t6⟩ := hC.1
  apply Sp.eq
  unfold fX9_count
  simp only [sp_gd, sp_nm, sp_bind, sp_ite, sp_some, sp_inr]
  rw [hg.2.2.2.1, hg.2.2.2.2.1, t1.1, t2.1, t3.1, hwk.2.2.2.2.1, t4.1, t6]
  rcases (show w = 0 ∨ w = 1 ∨ w = 2 ∨ w = 3 ∨ w = 4 ∨ w = 5 ∨ w = 6 ∨ w = 7 ∨ w = 8 by omega) with rfl | rfl | rfl | rfl | rfl | rfl | rfl | rfl | rfl
  · exact ⟨fun _ => rfl, fun z => absurd rfl z⟩
  · exact ⟨fun z => absurd z (by decide), fun _ => ⟨fun _ => rfl, fun z => absurd rfl z⟩⟩
  · exact ⟨fun z => absurd z (by decide), fun _ => ⟨fun z => absurd z (by decide), fun _ => ⟨fun _ => rfl, fun z => absurd rfl z⟩⟩⟩
  · exact ⟨fun z => absurd z (by decide), fun _ => ⟨fun z => absurd z (by decide), fun _ => ⟨fun z => absurd z (by decide), fun _ => ⟨fun _ => rfl, fun z => absurd rfl z⟩⟩⟩⟩
  · exact ⟨fun z => absurd z (by decide), fun _ => ⟨fun z => absurd z (by decide), fun _ => ⟨fun z => absurd z (by decide), fun _ => ⟨fun z => absurd z (by decide), fun _ => ⟨fun _ => rfl, fun z => absurd rfl z⟩⟩⟩⟩⟩
  · exact ⟨fun z => absurd z (by decide), fun _ => ⟨fun z => absurd z (by decide), fun _ => ⟨fun z => absurd z (by decide), fun _ => ⟨fun z => absurd z (by decide), fun _ => ⟨fun z => absurd z (by decide), fun _ => ⟨fun _ => rfl, fun z => absurd rfl z⟩⟩⟩⟩⟩⟩
  · exact ⟨fun z => absurd z (by decide), fun _ => ⟨fun z => absurd z (by decide), fun _ => ⟨fun z => absurd z (by decide), fun _ => ⟨fun z => absurd z (by decide), fun _ => ⟨fun z => absurd z (by decide), fun _ => ⟨fun z => absurd z (by decide), fun _ => ⟨fun _ => Sp.of (cl_allFields hγ.1 hwk.2.1 (fun i hi => (hwk.1 i hi).2.1)) rfl, fun z => absurd rfl z⟩⟩⟩⟩⟩⟩⟩
  · exact ⟨fun z => absurd z (by decide), fun _ => ⟨fun z => absurd z (by decide), fun _ => ⟨fun z => absurd z (by decide), fun _ => ⟨fun z => absurd z (by decide), fun _ => ⟨fun z => absurd z (by decide), fun _ => ⟨fun z => absurd z (by decide), fun _ => ⟨fun z => absurd z (by decide), fun _ => ⟨fun _ => rfl, fun z => absurd rfl z⟩⟩⟩⟩⟩⟩⟩⟩
  · exact ⟨fun z => absurd z (by decide), fun _ => ⟨fun z => absurd z (by decide), fun _ => ⟨fun z => absurd z (by decide), fun _ => ⟨fun z => absurd z (by decide), fun _ => ⟨fun z => absurd z (by decide), fun _ => ⟨fun z => absurd z (by decide), fun _ => ⟨fun z => absurd z (by decide), fun _ => ⟨fun z => absurd z (by decide), fun _ => ⟨fun _ => rfl, fun z => absurd rfl z⟩⟩⟩⟩⟩⟩⟩⟩⟩
theorem md_sumOf {R : Mem} {S : St} (hS : okS S) (hR : RR R S) {w : Nat} (hw : w = 0 ∨ w = 1 ∨ w = 5 ∨ w = 6) : Sp (fX10_sumOf R (nI w)) (fun z => z.1 = nI (cntN S w) ∧ MT z.2 S ∧ frM SL R z.2) := by
  have hγ := okC_told hS
  have h8 := hγ.1
  unfold fX10_sumOf
  simp only [sp_gd, sp_nm, sp_bind, sp_ite, sp_some, sp_inr]
  refine (md_runsTold hS hR).mono (fun R1 ⟨⟨m1, m2, m3, m4, m5⟩, t1, f1⟩ => ?_)
  refine lp_for (fun i st => st = (nI (sN ((stW (told S) ((told S).1 6 0)).1 1) i), nI i, R1)) ((told S).1 5 0) (by omega) ?_ ?_ (Nat.zero_le _) rfl
  · rintro i st hi rfl
    unfold fX10_sumOf_8
    simp only [sp_gd, sp_nm, sp_bind, sp_ite, sp_some, sp_inr]
    rw [m1.1, nI_leI (by omega) (by omega), inB_nI (by omega), nI_clamp (by omega), (m2.1 i hi).2.1, nI_1, nI_add]
    exact ⟨fun hc => absurd hc (by omega), fun _ => ⟨by omega, rfl⟩⟩
  · rintro st rfl
    unfold fX10_sumOf_8 fX10_sumOf_31
    simp only [sp_gd, sp_nm, sp_bind, sp_ite, sp_some, sp_inr]
    rw [m1.1, nI_leI (by omega) (by omega), t1.2.2.1, m2.2.2.2.1]
    refine ⟨fun _ => ?_, fun hc => absurd (Nat.le_refl _) hc⟩
    rcases hw with rfl | rfl | rfl | rfl
    · exact ⟨fun _ => ⟨rfl, t1, f1⟩, fun z => absurd rfl z⟩
    · exact ⟨fun z => absurd z (by decide), fun _ => ⟨fun _ => ⟨rfl, t1, f1⟩, fun z => absurd rfl z⟩⟩
    · exact ⟨fun z => absurd z (by decide), fun _ => ⟨fun z => absurd z (by decide), fun _ => ⟨fun _ => ⟨rfl, t1, f1⟩, fun z => absurd rfl z⟩⟩⟩
    · exact ⟨fun z => absurd z (by decide), fun _ => ⟨fun z => absurd z (by decide), fun _ => ⟨fun z => absurd z (by decide), fun _ => ⟨rfl, t1, f1⟩⟩⟩⟩
theorem md_count {R : Mem} {S : St} (hS : okS S) (hR : RR R S) {w : Nat} (hw : w < 9) : Sp (fX10_count R (nI w)) (fun z => z.1 = nI (cntN S w) ∧ RR z.2 S) := by
  obtain ⟨h1, h2, h3, h4, h5, h6, h7⟩ := id hR
  unfold fX10_count
  simp only [sp_gd, sp_nm, sp_bind, sp_ite, sp_some, sp_inr]
  rcases (show w = 0 ∨ w = 1 ∨ w = 2 ∨ w = 3 ∨ w = 4 ∨ w = 5 ∨ w = 6 ∨ w = 7 ∨ w = 8 by omega) with rfl | rfl | rfl | rfl | rfl | rfl | rfl | rfl | rfl
  · exact ⟨fun _ => (md_sumOf hS hR (w := 0) (by omega)).mono (fun z ⟨z1, z2, z3⟩ => ⟨z1, hR.fr z3⟩), fun z => absurd rfl z⟩
  · exact ⟨fun z => absurd z (by decide), fun _ => ⟨fun _ => (md_sumOf hS hR (w := 1) (by omega)).mono (fun z ⟨z1, z2, z3⟩ => ⟨z1, hR.fr z3⟩), fun z => absurd rfl z⟩⟩
  · exact ⟨fun z => absurd z (by decide), fun _ => ⟨fun z => absurd z (by decide), fun _ => ⟨fun _ => ⟨by decide, by rw [show Int32.toNatClampNeg (nI 2 - (2 : Int32)) = 0 by decide]; exact h1.1, hR⟩, fun z => absurd rfl z⟩⟩⟩
  · exact ⟨fun z => absurd z (by decide), fun _ => ⟨fun z => absurd z (by decide), fun _ => ⟨fun z => absurd z (by decide), fun _ => ⟨fun _ => ⟨by decide, by rw [show Int32.toNatClampNeg (nI 3 - (2 : Int32)) = 1 by decide]; exact h2.1, hR⟩, fun z => absurd rfl z⟩⟩⟩⟩
  · exact ⟨fun z => absurd z (by decide), fun _ => ⟨fun z => absurd z (by decide), fun _ => ⟨fun z => absurd z (by decide), fun _ => ⟨fun z => absurd z (by decide), fun _ => ⟨fun _ => ⟨h4.1, hR⟩, fun z => absurd rfl z⟩⟩⟩⟩⟩
  · exact ⟨fun z => absurd z (by decide), fun _ => ⟨fun z => absurd z (by decide), fun _ => ⟨fun z => absurd z (by decide), fun _ => ⟨fun z => absurd z (by decide), fun _ => ⟨fun z => absurd z (by decide), fun _ => ⟨fun _ => (md_sumOf hS hR (w := 5) (by omega)).mono (fun z ⟨z1, z2, z3⟩ => ⟨z1, hR.fr z3⟩), fun z => absurd rfl z⟩⟩⟩⟩⟩⟩
  · exact ⟨fun z => absurd z (by decide), fun _ => ⟨fun z => absurd z (by decide), fun _ => ⟨fun z => absurd z (by decide), fun _ => ⟨fun z => absurd z (by decide), fun _ => ⟨fun z => absurd z (by decide), fun _ => ⟨fun z => absurd z (by decide), fun _ => ⟨fun _ => (md_sumOf hS hR (w := 6) (by omega)).mono (fun z ⟨z1, z2, z3⟩ => ⟨z1, hR.fr z3⟩), fun z => absurd rfl z⟩⟩⟩⟩⟩⟩⟩
  · exact ⟨fun z => absurd z (by decide), fun _ => ⟨fun z => absurd z (by decide), fun _ => ⟨fun z => absurd z (by decide), fun _ => ⟨fun z => absurd z (by decide), fun _ => ⟨fun z => absurd z (by decide), fun _ => ⟨fun z => absurd z (by decide), fun _ => ⟨fun z => absurd z (by decide), fun _ => ⟨fun _ => ⟨h5.1, hR⟩, fun z => absurd rfl z⟩⟩⟩⟩⟩⟩⟩⟩
  · exact ⟨fun z => absurd z (by decide), fun _ => ⟨fun z => absurd z (by decide), fun _ => ⟨fun z => absurd z (by decide), fun _ => ⟨fun z => absurd z (by decide), fun _ => ⟨fun z => absurd z (by decide), fun _ => ⟨fun z => absurd z (by decide), fun _ => ⟨fun z => absurd z (by decide), fun _ => ⟨fun z => absurd z (by decide), fun _ => ⟨fun _ => ⟨h7, hR⟩, fun z => absurd rfl z⟩⟩⟩⟩⟩⟩⟩⟩⟩
theorem op_count {C R : Mem} (h : Rel C R) (a : Int32) : ∃ (r : Int32) (R' : Mem), fX9_count C a = some r ∧ fX10_count R a = some (r, R') ∧ Rel C R' := by
  obtain ⟨S, hS, hC, hR⟩ := h
  rcases ixI a (n := 9) (by omega) with ha | ⟨w, hw, rfl⟩
  · refine op_ro (r := -2) hS hC (Sp.eq ?_) ?_
    · unfold fX9_count
      simp only [sp_gd, sp_nm, sp_bind, sp_ite, sp_some, sp_inr]
      exact ⟨fun e => absurd e (outI_ne (j := 0) ha (by omega) (by omega)), fun _ => ⟨fun e => absurd e (outI_ne (j := 1) ha (by omega) (by omega)), fun _ => ⟨fun e => absurd e (outI_ne (j := 2) ha (by omega) (by omega)), fun _ => ⟨fun e => absurd e (outI_ne (j := 3) ha (by omega) (by omega)), fun _ => ⟨fun e => absurd e (outI_ne (j := 4) ha (by omega) (by omega)), fun _ => ⟨fun e => absurd e (outI_ne (j := 5) ha (by omega) (by omega)), fun _ => ⟨fun e => absurd e (outI_ne (j := 6) ha (by omega) (by omega)), fun _ => ⟨fun e => absurd e (outI_ne (j := 7) ha (by omega) (by omega)), fun _ => ⟨fun e => absurd e (outI_ne (j := 8) ha (by omega) (by omega)), fun _ => (by trivial)⟩⟩⟩⟩⟩⟩⟩⟩⟩
    · unfold fX10_count
      simp only [sp_gd, sp_nm, sp_bind, sp_ite, sp_some, sp_inr]
      exact ⟨fun e => absurd e (outI_ne (j := 0) ha (by omega) (by omega)), fun _ => ⟨fun e => absurd e (outI_ne (j := 1) ha (by omega) (by omega)), fun _ => ⟨fun e => absurd e (outI_ne (j := 2) ha (by omega) (by omega)), fun _ => ⟨fun e => absurd e (outI_ne (j := 3) ha (by omega) (by omega)), fun _ => ⟨fun e => absurd e (outI_ne (j := 4) ha (by omega) (by omega)), fun _ => ⟨fun e => absurd e (outI_ne (j := 5) ha (by omega) (by omega)), fun _ => ⟨fun e => absurd e (outI_ne (j := 6) ha (by omega) (by omega)), fun _ => ⟨fun e => absurd e (outI_ne (j := 7) ha (by omega) (by omega)), fun _ => ⟨fun e => absurd e (outI_ne (j := 8) ha (by omega) (by omega)), fun _ => ⟨(by trivial), hR⟩⟩⟩⟩⟩⟩⟩⟩⟩⟩
  · exact op_ro hS hC (cl_count hS hC hw) (md_count hS hR hw)
