/-! ===== digest ===== -/
def mx (x v : Int64) : Int64 := (31 : Int64) * x + v
def dg (g : Nat → Int64) : Nat → Int64 → Int64
  | 0, x => x
  | n + 1, x => mx (dg g n x) (g n)
def hD (S : St) (j : Nat) (x : Int64) : Int64 := mx (mx (mx (mx (mx (mx (mx (mx (mx x (fsA (p_bait (told S) j) 10).toInt64) (fsA (p_care (told S) j) 10).toInt64) (skR (told S) j 0).toInt64) (skR (told S) j 1).toInt64) (nvA (wsB S 2 j) 10).toInt64) (nvA (wsB S 1 j) 10).toInt64) (akA S j ((told S).1 6 0)).1.toInt64) (swR (swT S 5 j) (S.1 5 0) 0)) (swR (swT S 5 j) (S.1 5 0) 1)
def h1D (S : St) (j : Nat) (w : Nat) : Int64 := (nI ((told S).1 w j)).toInt64
def h2D (S : St) (j : Nat) (w : Nat) : Int64 := (nI ((stW (told S) ((told S).1 6 0)).1 w j)).toInt64
def heD (S : St) (j : Nat) (x : Int64) : Int64 := hD S j (dg (h2D S j) 3 (dg (h1D S j) 3 x))
theorem mxd (x v : Int64) : fX9_mixed x v = some (mx x v) := rfl
theorem cl_hD {C : Mem} {S : St} (hS : okS S) (hC : RC C S) {j : Nat} (hj : j < (told S).1 5 0) (a1 x : Int64) : Sp (fX9_mixHeir_70 a1 (nI j) x C) (fun z => z.1 = hD S j x ∧ RC z.2 S) := by
  unfold fX9_mixHeir_70
  simp only [mxd]
  simp only [sp_gd, sp_nm, sp_bind, sp_ite, sp_some, sp_inr]
  refine (cl_bait hS hC hj).mono (fun z ⟨q1, z2⟩ => ?_)
  have hC := hC.trial z2
  refine (cl_care hS hC hj).mono (fun z ⟨q2, z2⟩ => ?_)
  have hC := hC.trial z2
  refine (show Sp (fX9_skip _ (nI j) 0) _ from cl_skip (b := 0) hS hC hj (by omega)).mono (fun z ⟨q3, z2⟩ => ?_)
  have hC := hC.trial z2
  refine (show Sp (fX9_skip _ (nI j) 1) _ from cl_skip (b := 1) hS hC hj (by omega)).mono (fun z ⟨q4, z2⟩ => ?_)
  have hC := hC.trial z2
  refine (show Sp (fX9_was _ (nI j) 0) _ from cl_was (b := 0) hS hC hj (by omega)).mono (fun z ⟨q5, z2⟩ => ?_)
  have hC := hC.trial z2
  refine (show Sp (fX9_was _ (nI j) 1) _ from cl_was (b := 1) hS hC hj (by omega)).mono (fun z ⟨q6, z2⟩ => ?_)
  have hC := hC.trial z2
  refine (cl_ask hS hC hj).mono (fun z ⟨q7, z2, z3⟩ => ?_)
  have hC := hC.fr z2 (fun f hf => z3 f (by omega))
  refine (show Sp (fX9_swarm _ 5 (nI j) 0) _ from cl_swarm (a := 5) (b := 0) hS hC (by omega) hj (by omega)).mono (fun z ⟨q8, hC⟩ => ?_)
  refine (show Sp (fX9_swarm _ 5 (nI j) 1) _ from cl_swarm (a := 5) (b := 1) hS hC (by omega) hj (by omega)).mono (fun z ⟨q9, hC⟩ => ⟨?_, hC⟩)
  rw [q1, q2, q3, q4, q5, q6, q7, q8, q9]
  rfl
theorem md_hD {R : Mem} {S : St} (hS : okS S) (hR : RR R S) {j : Nat} (hj : j < (told S).1 5 0) (a1 x : Int64) : Sp (fX10_heirDigest_71 a1 (nI j) x R) (fun z => z.1 = hD S j x ∧ RR z.2 S ∧ MT z.2 S) := by
  unfold fX10_heirDigest_71
  simp only [sp_gd, sp_nm, sp_bind, sp_ite, sp_some, sp_inr]
  refine (md_baitOf hS hR hj).mono (fun z ⟨q1, z2⟩ => ?_)
  have hR := hR.fr z2
  refine (md_careOf hS hR hj).mono (fun z ⟨q2, z2⟩ => ?_)
  have hR := hR.fr z2
  refine (md_skipOf hS hR 0 hj).mono (fun z ⟨q3, z2⟩ => ?_)
  have hR := hR.fr z2
  refine (md_skipOf hS hR 1 hj).mono (fun z ⟨q4, z2⟩ => ?_)
  have hR := hR.fr z2
  refine (show Sp (fX10_wasBy _ (nI j) 0) _ from md_wasBy (b := 0) hS hR hj (by omega)).mono (fun z ⟨q5, z2, _⟩ => ?_)
  have hR := hR.fr z2
  refine (show Sp (fX10_wasBy _ (nI j) 1) _ from md_wasBy (b := 1) hS hR hj (by omega)).mono (fun z ⟨q6, z2, _⟩ => ?_)
  have hR := hR.fr z2
  refine (md_askOf hS hR hj).mono (fun z ⟨q7, z2⟩ => ?_)
  have hR := hR.fr z2
  refine (show Sp (fX10_swarmOf _ 5 (nI j) 0) _ from md_swarmOf (a := 5) hS hR 0 (by omega) hj).mono (fun z ⟨q8, z2, _⟩ => ?_)
  have hR := hR.fr z2
  refine (show Sp (fX10_swarmOf _ 5 (nI j) 1) _ from md_swarmOf (a := 5) hS hR 1 (by omega) hj).mono (fun z ⟨q9, z2, z3⟩ => ⟨?_, hR.fr z2, z3⟩)
  rw [q1, q2, q3, q4, q5, q6, q7, q8, q9]
  rfl
theorem cl_heirV {C : Mem} {S : St} (hS : okS S) (hC : RC C S) {j w : Nat} (hj : j < (told S).1 5 0) (hw : w < 3) : fX9_heir C (nI j) (nI w) = some (nI ((told S).1 w j)) := by
  have h8 := (okC_told hS).1
  have hg := hC.2.1.1
  obtain ⟨q0, q1, q2⟩ := hg.1 j hj
  apply Sp.eq
  unfold fX9_heir
  simp only [sp_gd, sp_nm, sp_bind, sp_ite, sp_some, sp_inr]
  refine Sp.of (h_1 hg.2.2.2.1 hj (by omega)) ⟨fun z => absurd z (by decide), fun _ => ?_⟩
  rw [inB_nI (by omega), nI_clamp (by omega), q0, q1, q2]
  rcases (show w = 0 ∨ w = 1 ∨ w = 2 by omega) with rfl | rfl | rfl
  · exact ⟨fun _ => ⟨by omega, rfl⟩, fun q => absurd rfl q⟩
  · exact ⟨fun q => absurd q (by decide), fun _ => ⟨fun _ => ⟨by omega, rfl⟩, fun q => absurd rfl q⟩⟩
  · exact ⟨fun q => absurd q (by decide), fun _ => ⟨fun q => absurd q (by decide), fun _ => ⟨fun _ => ⟨by omega, rfl⟩, fun q => absurd rfl q⟩⟩⟩
theorem md_heirV {R : Mem} {S : St} (hS : okS S) (hR : MT R S) {j w : Nat} (hj : j < (told S).1 5 0) (hw : w < 3) : fX10_heirOf R (nI j) (nI w) = some (nI ((told S).1 w j)) := by
  have h8 := (okC_told hS).1
  obtain ⟨q0, q1, q2⟩ := hR.2.1 j hj
  apply Sp.eq
  unfold fX10_heirOf
  simp only [sp_gd, sp_nm, sp_bind, sp_ite, sp_some, sp_inr]
  rw [inB_nI (by omega), nI_clamp (by omega), q0, q1, q2]
  rcases (show w = 0 ∨ w = 1 ∨ w = 2 by omega) with rfl | rfl | rfl
  · exact ⟨fun _ => ⟨by omega, rfl⟩, fun q => absurd rfl q⟩
  · exact ⟨fun q => absurd q (by decide), fun _ => ⟨fun _ => ⟨by omega, rfl⟩, fun q => absurd rfl q⟩⟩
  · exact ⟨fun q => absurd q (by decide), fun _ => ⟨fun q => absurd q (by decide), fun _ => ⟨by omega, rfl⟩⟩⟩
theorem nlt2 {i : Nat} (h : i < 3) : ¬ (2 : Int32) < nI i := by rw [il2]; exact nI_nlt (by omega) (by omega)
theorem cl_mixHeir {C : Mem} {S : St} (hS : okS S) (hC : RC C S) {j : Nat} (hj : j < (told S).1 5 0) (x : Int64) : Sp (fX9_mixHeir C x (nI j)) (fun z => z.1 = heD S j x ∧ RC z.2 S) := by
  have hn := (okC_told hS).2.1
  unfold fX9_mixHeir
  simp only [sp_gd, sp_nm, sp_bind, sp_ite, sp_some, sp_inr]
  refine lp_for (fun i st => st = (dg (h1D S j) i x, nI i, C)) 3 (by omega) ?_ ?_ (Nat.zero_le _) rfl
  · rintro i st hi rfl
    unfold fX9_mixHeir_6
    simp only [mxd]
    simp only [sp_gd, sp_nm, sp_bind, sp_ite, sp_some, sp_inr]
    rw [nI_1]
    exact ⟨fun hc => absurd hc (nlt2 hi), fun _ => Sp.of (cl_heirV hS hC hj hi) rfl⟩
  · rintro st rfl
    unfold fX9_mixHeir_6 fX9_mixHeir_33
    simp only [sp_gd, sp_nm, sp_bind, sp_ite, sp_some, sp_inr]
    refine ⟨fun _ => ?_, fun z => absurd (by decide) z⟩
    refine lp_for (fun i st => st = (dg (h2D S j) i (dg (h1D S j) 3 x), nI i, C)) 3 (by omega) ?_ ?_ (Nat.zero_le _) rfl
    · rintro i st hi rfl
      unfold fX9_mixHeir_36
      simp only [mxd]
      simp only [sp_gd, sp_nm, sp_bind, sp_ite, sp_some, sp_inr]
      rw [nI_1, hC.2.1.1.2.2.2.2.1]
      exact ⟨fun hc => absurd hc (nlt2 hi), fun _ => Sp.of (cl_share hS hC (Nat.le_refl _) hj hi) rfl⟩
    · rintro st rfl
      unfold fX9_mixHeir_36
      simp only [sp_gd, sp_nm, sp_bind, sp_ite, sp_some, sp_inr]
      exact ⟨fun _ => (cl_hD hS hC hj x _).mono (fun z hz => hz), fun z => absurd (by decide) z⟩
theorem md_heirDigest {R : Mem} {S : St} (hS : okS S) (hR : RR R S) (hT : MT R S) {j : Nat} (hj : j < (told S).1 5 0) (x : Int64) : Sp (fX10_heirDigest R x (nI j)) (fun z => z.1 = heD S j x ∧ RR z.2 S ∧ MT z.2 S) := by
  unfold fX10_heirDigest
  simp only [sp_gd, sp_nm, sp_bind, sp_ite, sp_some, sp_inr]
  refine lp_for (fun i st => st = (dg (h1D S j) i x, nI i, R)) 3 (by omega) ?_ ?_ (Nat.zero_le _) rfl
  · rintro i st hi rfl
    unfold fX10_heirDigest_6
    simp only [sp_gd, sp_nm, sp_bind, sp_ite, sp_some, sp_inr]
    rw [nI_1, il3, nI_leI (by omega) (by omega)]
    exact ⟨fun hc => absurd hc (by omega), fun _ => Sp.of (md_heirV hS hT hj hi) rfl⟩
  · rintro st rfl
    unfold fX10_heirDigest_6 fX10_heirDigest_35
    simp only [sp_gd, sp_nm, sp_bind, sp_ite, sp_some, sp_inr]
    refine ⟨fun _ => ?_, fun z => absurd (by decide) z⟩
    refine lp_for (fun i st => st.1 = dg (h2D S j) i (dg (h1D S j) 3 x) ∧ st.2.1 = nI i ∧ RR st.2.2 S ∧ MT st.2.2 S) 3 (by omega) ?_ ?_ (Nat.zero_le _) ⟨rfl, rfl, hR, hT⟩
    · rintro i ⟨y, z, M⟩ hi ⟨a1, a2, a3, a4⟩
      dsimp only at a1 a2 a3 a4 ⊢
      subst a1 a2
      unfold fX10_heirDigest_38
      simp only [sp_gd, sp_nm, sp_bind, sp_ite, sp_some, sp_inr]
      rw [nI_1, il3, nI_leI (by omega) (by omega), a4.2.2.1]
      exact ⟨fun hc => absurd hc (by omega), fun _ => (md_shareOf hS a3 (Nat.le_refl _) hj hi).mono (fun y ⟨y1, y2, y3⟩ => ⟨by dsimp only; rw [y1]; rfl, rfl, a3.fr y3, y2⟩)⟩
    · rintro ⟨y, z, M⟩ ⟨a1, a2, a3, a4⟩
      dsimp only at a1 a2 a3 a4 ⊢
      subst a1 a2
      unfold fX10_heirDigest_38
      simp only [sp_gd, sp_nm, sp_bind, sp_ite, sp_some, sp_inr]
      exact ⟨fun _ => (md_hD hS a3 hj x _).mono (fun z hz => hz), fun z => absurd (by decide) z⟩
