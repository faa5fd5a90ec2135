/-! ===== skip ===== -/
def wSk (γ : Cfg) (x : Int32) : Cfg := (γ.1, γ.2.1, x)
def skS (γ : Cfg) (j i : Nat) (u : Int32 × Int32) : Int32 × Int32 := if i = j then u else if nI ((stW (wSk γ (nI i)) (γ.1 6 0)).1 0 j) ≤ u.2 then u else (nI i, nI ((stW (wSk γ (nI i)) (γ.1 6 0)).1 0 j))
def skA (γ : Cfg) (j : Nat) : Nat → Int32 × Int32
  | 0 => (-1, -1)
  | n + 1 => skS γ j n (skA γ j n)
def skR (γ : Cfg) (j : Nat) (b : Int32) : Int32 := if b = 0 then (skA γ j (γ.1 5 0)).1 else (skA γ j (γ.1 5 0)).2
theorem okC_sk {γ : Cfg} (h : okC γ) (x : Int32) : okC (wSk γ x) := h
theorem RG.sk {M : Mem} {γ : Cfg} {y x : Int32} (h : RG (M 7) (wSk γ y)) : RG (wr M 7 8 0 x 7) (wSk γ x) := by
  obtain ⟨h1, h2, h3, h4, h5, h6, h7⟩ := h
  refine ⟨fun i hi => ?_, fun i hi => ?_, fun k hk => ?_, ?_, ?_, ?_, ?_⟩
  · rw [wr_row _ _ _ _ _ (by omega), wr_row _ _ _ _ _ (by omega), wr_row _ _ _ _ _ (by omega)]; exact h1 i hi
  · rw [wr_row _ _ _ _ _ (by omega)]; exact h2 i hi
  · rw [wr_row _ _ _ _ _ (by omega)]; exact h3 k hk
  · rw [wr_row _ _ _ _ _ (by omega)]; exact h4
  · rw [wr_row _ _ _ _ _ (by omega)]; exact h5
  · rw [wr_row _ _ _ _ _ (by omega)]; exact h6
  · rw [wr_ap, if_pos ⟨rfl, rfl, rfl⟩]; rfl
theorem MG.sk {R : Mem} {γ : Cfg} {y x : Int32} (h : MG R (wSk γ y)) : MG (wr R 0 14 0 x) (wSk γ x) := by
  obtain ⟨h1, h2, h3, h4, h5, h6, h7⟩ := h
  refine ⟨?_, fun i hi => ?_, fun i hi => ?_, ?_, fun k hk => ?_, ?_, ?_⟩
  · rw [wr_row _ _ _ _ _ (by omega)]; exact h1
  · rw [wr_row _ _ _ _ _ (by omega), wr_row _ _ _ _ _ (by omega), wr_row _ _ _ _ _ (by omega)]; exact h2 i hi
  · rw [wr_row _ _ _ _ _ (by omega)]; exact h3 i hi
  · rw [wr_row _ _ _ _ _ (by omega)]; exact h4
  · rw [wr_row _ _ _ _ _ (by omega)]; exact h5 k hk
  · rw [wr_row _ _ _ _ _ (by omega)]; exact h6
  · rw [wr_ap, if_pos ⟨rfl, rfl, rfl⟩]; rfl
theorem cl_skip {C : Mem} {S : St} (hS : okS S) (hC : RC C S) {j b : Nat} (hj : j < (told S).1 5 0) (hb : b ≤ 1) : Sp (fX9_skip C (nI j) (nI b)) (fun z => z.1 = skR (told S) j (nI b) ∧ frS [6, 7, 8] C z.2) := by
  have hγ := okC_told hS
  have h8 := hγ.1
  have hn := hγ.2.1
  have hg := hC.2.1.1
  unfold fX9_skip
  simp only [sp_gd, sp_nm, sp_bind, sp_ite, sp_some, sp_inr]
  refine Sp.of (h_1 hg.2.2.2.1 hj (by omega)) ⟨fun z => absurd z (by decide), fun _ => Sp.of (w_1 (n := 1) hb (by omega)) ⟨fun z => absurd z (by decide), fun _ => ?_⟩⟩
  refine (cl_prepare hγ hg (by decide)).mono (fun M1 ⟨f1, f2⟩ => ?_)
  refine lp_for (fun i st => (st.1, st.2.1) = skA (told S) j i ∧ st.2.2.1 = nI i ∧ (∃ v, RG (st.2.2.2 7) (wSk (told S) v)) ∧ frS [6, 7, 8] C st.2.2.2) ((told S).1 5 0) (by omega) ?_ ?_ (Nat.zero_le _) ⟨rfl, rfl, ⟨(told S).2.2, f1⟩, f2.S (by decide)⟩
  · rintro i ⟨x3, x4, x5, Mc⟩ hi ⟨a1, a2, ⟨v, a3⟩, a4⟩
    dsimp only at a1 a2 a3 a4 ⊢
    subst a2
    have e3 : Mc 3 5 0 = nI ((told S).1 5 0) := by rw [a4 3 (by decide)]; exact hg.2.2.2.1
    unfold fX9_skip_38 fX9_skip_109
    simp only [sp_gd, sp_nm, sp_bind, sp_ite, sp_some, sp_inr]
    rw [e3, nI_leI (by omega) (by omega), nI_eq (by omega) (by omega), inB_nI (by omega), nI_clamp (by omega), nI_1]
    refine ⟨fun hc => absurd hc (by omega), fun _ => ⟨fun hij => ⟨?_, rfl, ⟨v, a3⟩, a4⟩, fun hij => ?_⟩⟩
    · rw [skA, skS, if_pos hij]; exact a1
    · have g2 := a3.sk (x := nI i)
      refine (cl_run (okC_sk hγ (nI i)) g2).mono (fun M2 ⟨t1, t2, t3⟩ => ?_)
      have g3 : RG (M2 7) (wSk (told S) (nI i)) := by rw [t3 7 (by decide)]; exact g2
      have fr : frS [6, 7, 8] C M2 := a4.tr (frS.tr (fun o ho => wr_ob _ _ _ _ _ (fun z => ho (by rw [z]; decide))) (t3.sub (by decide)))
      have e8 : M2 8 0 j = nI ((stW (wSk (told S) (nI i)) ((told S).1 6 0)).1 0 j) := (t1.1 j hj).1
      rw [e8]
      refine ⟨by omega, fun hle => ⟨?_, rfl, ⟨nI i, g3⟩, fr⟩, fun hle => ⟨by omega, ?_, rfl, ⟨nI i, g3⟩, fr⟩⟩
      · rw [skA, skS, if_neg hij, ← a1, if_pos hle]
      · rw [skA, skS, if_neg hij, ← a1, if_neg hle]
  · rintro ⟨x3, x4, x5, Mc⟩ ⟨a1, a2, a3, a4⟩
    dsimp only at a1 a2 a3 a4 ⊢
    subst a2
    have e3 : Mc 3 5 0 = nI ((told S).1 5 0) := by rw [a4 3 (by decide)]; exact hg.2.2.2.1
    unfold fX9_skip_38 fX9_skip_115
    simp only [sp_gd, sp_nm, sp_bind, sp_ite, sp_some, sp_inr]
    rw [e3, nI_leI (by omega) (by omega)]
    refine ⟨fun _ => ⟨fun h0 => ⟨?_, a4⟩, fun h0 => ⟨?_, a4⟩⟩, fun hc => absurd (Nat.le_refl _) hc⟩
    · unfold skR
      rw [if_pos h0, ← a1]
    · unfold skR
      rw [if_neg h0, ← a1]
theorem md_skipOf {R : Mem} {S : St} (hS : okS S) (hR : RR R S) {j : Nat} (b : Int32) (hj : j < (told S).1 5 0) : Sp (fX10_skipOf R (nI j) b) (fun z => z.1 = skR (told S) j b ∧ frM SL R z.2) := by
  have hγ := okC_told hS
  have h8 := hγ.1
  have hn := hγ.2.1
  unfold fX10_skipOf
  simp only [sp_gd, sp_nm, sp_bind, sp_ite, sp_some, sp_inr]
  refine (md_asTold hS hR).mono (fun R1 ⟨m1, m2, f1⟩ => ?_)
  refine lp_for (fun i st => (st.1, st.2.1) = skA (told S) j i ∧ st.2.2.1 = nI i ∧ (∃ v, MG st.2.2.2 (wSk (told S) v)) ∧ frM SL R st.2.2.2) ((told S).1 5 0) (by omega) ?_ ?_ (Nat.zero_le _) ⟨rfl, rfl, ⟨(told S).2.2, m1⟩, f1⟩
  · rintro i ⟨x3, x4, x5, Mc⟩ hi ⟨a1, a2, ⟨v, a3⟩, a4⟩
    dsimp only at a1 a2 a3 a4 ⊢
    subst a2
    have e3 : Mc 0 2 0 = nI ((told S).1 5 0) := a3.1
    unfold fX10_skipOf_12 fX10_skipOf_54 fX10_skipOf_77 fX10_skipOf_79
    simp only [sp_gd, sp_nm, sp_bind, sp_ite, sp_some, sp_inr]
    rw [e3, nI_leI (by omega) (by omega), nI_eq (by omega) (by omega), inB_nI (by omega), nI_clamp (by omega), nI_1]
    refine ⟨fun hc => absurd hc (by omega), fun _ => ⟨fun hij => ⟨?_, rfl, ⟨v, a3⟩, a4⟩, fun hij => ?_⟩⟩
    · rw [skA, skS, if_pos hij]; exact a1
    · have g2 := a3.sk (x := nI i)
      refine (md_runs (okC_sk hγ (nI i)) g2).mono (fun M2 ⟨⟨t1, t2, _⟩, t3⟩ => ?_)
      have fr : frM SL R M2 := (a4.w 14 0 (nI i) (by decide)).tr (t3.sub RuL_SL)
      have e8 : M2 0 20 j = nI ((stW (wSk (told S) (nI i)) ((told S).1 6 0)).1 0 j) := (t2.1 j hj).1
      rw [e8]
      refine ⟨by omega, fun hle => ⟨by omega, fun _ => ⟨?_, rfl, ⟨nI i, t1⟩, fr⟩, fun z => absurd hle z⟩, fun hle => ⟨by omega, fun z => absurd z hle, fun _ => ⟨by omega, ?_, rfl, ⟨nI i, t1⟩, fr⟩⟩⟩
      · rw [skA, skS, if_neg hij, ← a1, if_pos hle]
      · rw [skA, skS, if_neg hij, ← a1, if_neg hle]
  · rintro ⟨x3, x4, x5, Mc⟩ ⟨a1, a2, ⟨v, a3⟩, a4⟩
    dsimp only at a1 a2 a3 a4 ⊢
    subst a2
    have e3 : Mc 0 2 0 = nI ((told S).1 5 0) := a3.1
    unfold fX10_skipOf_12 fX10_skipOf_85
    simp only [sp_gd, sp_nm, sp_bind, sp_ite, sp_some, sp_inr]
    rw [e3, nI_leI (by omega) (by omega)]
    refine ⟨fun _ => ⟨fun h0 => ⟨?_, a4⟩, fun h0 => ⟨?_, a4⟩⟩, fun hc => absurd (Nat.le_refl _) hc⟩
    · unfold skR
      rw [if_pos h0, ← a1]
    · unfold skR
      rw [if_neg h0, ← a1]
theorem op_skip {C R : Mem} (h : Rel C R) (a b : Int32) : ∃ (r : Int32) (C' R' : Mem), fX9_skip C a b = some (r, C') ∧ fX10_skip R a b = some (r, R') ∧ Rel C' R' := by
  obtain ⟨S, hS, hC, hR⟩ := h
  have h8 := (okC_told hS).1
  have hg := hC.2.1.1
  rcases ixI a (n := (told S).1 5 0) (by omega) with ha | ⟨j, hj, rfl⟩
  · refine op_rw (S' := S) (r := -2) hS ?_ ?_
    · unfold fX9_skip
      simp only [sp_gd, sp_nm, sp_bind, sp_ite, sp_some, sp_inr]
      exact Sp.of (h_0 hg.2.2.2.1 ha) ⟨fun _ => ⟨(by trivial), hC⟩, fun z => absurd rfl z⟩
    · unfold fX10_skip
      simp only [sp_gd, sp_nm, sp_bind, sp_ite, sp_some, sp_inr]
      exact (md_isHeir0 hS hR ha).mono (fun z ⟨z1, z2, z3⟩ => ⟨fun _ => ⟨(by trivial), hR.fr z3⟩, fun q => absurd z1 q⟩)
  · rcases ixI b (n := 2) (by omega) with hb | ⟨w, hw, rfl⟩
    · refine op_rw (S' := S) (r := -2) hS ?_ ?_
      · unfold fX9_skip
        simp only [sp_gd, sp_nm, sp_bind, sp_ite, sp_some, sp_inr]
        exact Sp.of (h_1 hg.2.2.2.1 hj (by omega)) ⟨fun z => absurd z (by decide), fun _ => Sp.of (w_0 (n := 1) hb (by omega)) ⟨fun _ => ⟨(by trivial), hC⟩, fun z => absurd rfl z⟩⟩
      · unfold fX10_skip
        simp only [sp_gd, sp_nm, sp_bind, sp_ite, sp_some, sp_inr]
        refine (md_isHeir1 hS hR hj).mono (fun z ⟨z1, z2, z3⟩ => ⟨fun q => absurd (z1.symm.trans q) (by decide), fun _ => ?_⟩)
        exact Sp.of (in_0 (n := 1) hb (by omega)) ⟨fun _ => ⟨(by trivial), hR.fr z3⟩, fun q => absurd rfl q⟩
    · refine op_rw (S' := S) hS ((cl_skip hS hC hj (b := w) (by omega)).mono (fun z ⟨z1, z2⟩ => ⟨z1, hC.trial z2⟩)) ?_
      unfold fX10_skip
      simp only [sp_gd, sp_nm, sp_bind, sp_ite, sp_some, sp_inr]
      refine (md_isHeir1 hS hR hj).mono (fun z ⟨z1, z2, z3⟩ => ⟨fun q => absurd (z1.symm.trans q) (by decide), fun _ => ?_⟩)
      refine Sp.of (in_1 (j := w) (n := 1) (by omega) (by omega)) ⟨fun q => absurd q (by decide), fun _ => ?_⟩
      exact (md_skipOf hS (hR.fr z3) (nI w) hj).mono (fun y ⟨y1, y2⟩ => ⟨y1, hR.fr (z3.tr y2)⟩)
