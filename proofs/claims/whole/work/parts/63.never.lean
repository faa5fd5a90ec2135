/-! ===== what was seen; never ===== -/
def seenB (S : St) (γ : Cfg) : Bool := decide (∀ i, i < S.1 8 0 → S.1 6 i < γ.1 6 0 ∧ (stW γ (S.1 6 i + 1)).1 8 0 = S.1 7 i)
theorem seenB_t {S : St} {γ : Cfg} : seenB S γ = true ↔ ∀ i, i < S.1 8 0 → S.1 6 i < γ.1 6 0 ∧ (stW γ (S.1 6 i + 1)).1 8 0 = S.1 7 i := by
  unfold seenB
  exact decide_eq_true_iff
def b01 (p : Bool) : Int32 := if p = true then 1 else 0
theorem b01_1 {p : Bool} (h : p = true) : b01 p = 1 := if_pos h
theorem b01_0 {p : Bool} (h : ¬ p = true) : b01 p = 0 := if_neg h
theorem did4 {γ : Cfg} (hγ : okC γ) (k : Nat) : (stW γ k).1 8 0 ≤ 4 := (Bd_st hγ k).2.2.2.2.1
theorem cl_agrees {M : Mem} {S : St} {γ : Cfg} (hS : okS S) (hγ : okC γ) (h4 : M 10 2 0 = nI (S.1 8 0) ∧ ∀ i, i < S.1 8 0 → M 10 0 i = nI (S.1 6 i) ∧ M 10 1 i = nI (S.1 7 i)) (e6 : M 7 6 0 = nI (γ.1 6 0)) (ed : ∀ k, k < γ.1 6 0 → M 6 2 k = nI ((stW γ (k + 1)).1 8 0)) : fX8_agrees M = some (b01 (seenB S γ)) := by
  obtain ⟨-, -, -, -, ⟨s1, s2⟩, -⟩ := hS
  have hn := hγ.2.1
  apply Sp.eq
  unfold fX8_agrees
  simp only [sp_gd, sp_nm, sp_bind, sp_ite, sp_some, sp_inr]
  refine lp_for (fun i st => st = nI i ∧ ∀ q, q < i → S.1 6 q < γ.1 6 0 ∧ (stW γ (S.1 6 q + 1)).1 8 0 = S.1 7 q) (S.1 8 0) (by omega) ?_ ?_ (Nat.zero_le _) ⟨rfl, fun q hq => absurd hq (Nat.not_lt_zero _)⟩
  · rintro i st hi ⟨rfl, hI⟩
    obtain ⟨x1, x2⟩ := s2 i hi
    have d4 := did4 hγ (S.1 6 i + 1)
    unfold fX8_agrees_2
    simp only [sp_gd, sp_nm, sp_bind, sp_ite, sp_some, sp_inr]
    rw [h4.1, nI_leI (by omega) (by omega), inB_nI (by omega), nI_clamp (by omega), e6, (h4.2 i hi).1, (h4.2 i hi).2, nI_leI (by omega) (by omega), inB_nI (by omega), nI_clamp (by omega), nI_1]
    refine ⟨fun hc => absurd hc (by omega), fun _ => ⟨by omega, fun hle => ?_, fun hle => ⟨by omega, by omega, by omega, fun he => ?_, fun he => ?_⟩⟩⟩
    · show _ = _
      rw [b01_0 (fun z => by have := (seenB_t.mp z i hi).1; omega)]
    · rw [ed _ (by omega), nI_eq (by omega) (by omega)] at he
      refine ⟨rfl, fun q hq => ?_⟩
      by_cases hqi : q = i
      · rw [hqi]; exact ⟨by omega, he⟩
      · exact hI q (by omega)
    · rw [ed _ (by omega), nI_eq (by omega) (by omega)] at he
      show _ = _
      rw [b01_0 (fun z => he (seenB_t.mp z i hi).2)]
  · rintro st ⟨rfl, hI⟩
    unfold fX8_agrees_2
    simp only [sp_gd, sp_nm, sp_bind, sp_ite, sp_some, sp_inr]
    rw [h4.1, nI_leI (by omega) (by omega)]
    refine ⟨fun _ => ?_, fun hc => absurd (Nat.le_refl _) hc⟩
    show _ = _
    rw [b01_1 (seenB_t.mpr hI)]
theorem md_isSeen {R : Mem} {S : St} {γ : Cfg} (hS : okS S) (hγ : okC γ) (hg : MG R γ) (hR : RR R S) : Sp (fX10_isSeen R) (fun z => z.1 = b01 (seenB S γ) ∧ MI z.2 γ (γ.1 6 0) ∧ frM RuL R z.2) := by
  obtain ⟨-, -, -, -, ⟨s1, s2⟩, -⟩ := hS
  have hn := hγ.2.1
  unfold fX10_isSeen
  simp only [sp_gd, sp_nm, sp_bind, sp_ite, sp_some, sp_inr]
  refine (md_runs hγ hg).mono (fun M ⟨m, f⟩ => ?_)
  have h4 := (hR.fr (f.sub RuL_SL)).2.2.2.2.1
  have e6 : M 0 11 0 = nI (γ.1 6 0) := m.1.2.2.2.1
  have ed : ∀ k, k < γ.1 6 0 → M 0 24 k = nI ((stW γ (k + 1)).1 8 0) := fun k hk => (m.2.2.1.1 k hk).1
  refine lp_for (fun i st => st.2.1 = nI i ∧ st.2.2 = M ∧ ((st.1 = 1 ∧ ∀ q, q < i → S.1 6 q < γ.1 6 0 ∧ (stW γ (S.1 6 q + 1)).1 8 0 = S.1 7 q) ∨ (st.1 = 0 ∧ ¬ seenB S γ = true))) (S.1 8 0) (by omega) ?_ ?_ (Nat.zero_le _) ⟨rfl, rfl, Or.inl ⟨rfl, fun q hq => absurd hq (Nat.not_lt_zero _)⟩⟩
  · rintro i ⟨x, y, Mc⟩ hi ⟨a1, a2, hI⟩
    dsimp only at a1 a2 hI ⊢
    subst a1 a2
    obtain ⟨x1, x2⟩ := s2 i hi
    have d4 := did4 hγ (S.1 6 i + 1)
    unfold fX10_isSeen_8 fX10_isSeen_57 fX10_isSeen_58
    simp only [sp_gd, sp_nm, sp_bind, sp_ite, sp_some, sp_inr]
    rw [h4.1, nI_leI (by omega) (by omega), inB_nI (by omega), nI_clamp (by omega), e6, (h4.2 i hi).1, (h4.2 i hi).2, nI_leI (by omega) (by omega), inB_nI (by omega), nI_clamp (by omega), nI_1]
    refine ⟨fun hc => absurd hc (by omega), fun _ => ⟨fun h0 => ⟨Or.inl h0, ?_, m, f⟩, fun h0 => ?_⟩⟩
    · dsimp only
      rcases hI with ⟨q, -⟩ | ⟨q, p⟩
      · exact absurd (q.symm.trans h0) (by decide)
      · rw [h0, b01_0 p]
    · have hI1 : ∀ q, q < i → S.1 6 q < γ.1 6 0 ∧ (stW γ (S.1 6 q + 1)).1 8 0 = S.1 7 q := by
        rcases hI with ⟨q, p⟩ | ⟨q, p⟩
        · exact p
        · exact absurd q h0
      refine ⟨by omega, fun hle => ⟨rfl, rfl, Or.inr ⟨rfl, fun z => by have := (seenB_t.mp z i hi).1; omega⟩⟩, fun hle => ⟨by omega, by omega, by omega, fun he => ?_, fun he => ?_⟩⟩
      · rw [ed _ (by omega), nI_eq (by omega) (by omega)] at he
        refine ⟨rfl, rfl, Or.inl ⟨rfl, fun q hq => ?_⟩⟩
        by_cases hqi : q = i
        · rw [hqi]; exact ⟨by omega, he⟩
        · exact hI1 q (by omega)
      · rw [ed _ (by omega), nI_eq (by omega) (by omega)] at he
        exact ⟨rfl, rfl, Or.inr ⟨rfl, fun z => he (seenB_t.mp z i hi).2⟩⟩
  · rintro ⟨x, y, Mc⟩ ⟨a1, a2, hI⟩
    dsimp only at a1 a2 hI ⊢
    subst a1 a2
    unfold fX10_isSeen_8
    simp only [sp_gd, sp_nm, sp_bind, sp_ite, sp_some, sp_inr]
    rw [h4.1, nI_leI (by omega) (by omega)]
    refine ⟨fun _ => ?_, fun hc => absurd (Nat.le_refl _) hc⟩
    rcases hI with ⟨q, p⟩ | ⟨q, p⟩
    · exact ⟨Or.inr q, by rw [b01_1 (seenB_t.mpr p)]; exact q, m, f⟩
    · exact ⟨Or.inl q, by rw [b01_0 p]; exact q, m, f⟩
/-- without one fly -/
def wo (S : St) (i : Nat) : Cfg := wFly (told S) (flB (S.1 4) (fun q => decide (q ≠ i)) (S.1 5 0))
def nvA (p : Nat → Bool) : Nat → Int32
  | 0 => 0
  | n + 1 => if p n = true then nvA p n ||| ((1 : Int32) <<< (nI n &&& 31)) else nvA p n
theorem okC_fly {γ : Cfg} (h : okC γ) (x : Int32) : okC (wFly γ x) := h
theorem RG.fly {M : Mem} {γ : Cfg} {y x : Int32} (h : RG (M 7) (wFly γ y)) : RG (wr M 7 7 0 x 7) (wFly γ x) := by
  obtain ⟨h1, h2, h3, h4, h5, h6, h7⟩ := h
  refine ⟨fun i hi => ?_, fun i hi => ?_, fun k hk => ?_, ?_, ?_, ?_, ?_⟩
  · rw [wr_row _ _ _ _ _ (by omega), wr_row _ _ _ _ _ (by omega), wr_row _ _ _ _ _ (by omega)]; exact h1 i hi
  · rw [wr_row _ _ _ _ _ (by omega)]; exact h2 i hi
  · rw [wr_row _ _ _ _ _ (by omega)]; exact h3 k hk
  · rw [wr_row _ _ _ _ _ (by omega)]; exact h4
  · rw [wr_row _ _ _ _ _ (by omega)]; exact h5
  · rw [wr_ap, if_pos ⟨rfl, rfl, rfl⟩]; rfl
  · rw [wr_row _ _ _ _ _ (by omega)]; exact h7
theorem MG.fly {R : Mem} {γ : Cfg} {y x : Int32} (h : MG R (wFly γ y)) : MG (wr R 0 13 0 x) (wFly γ x) := by
  obtain ⟨h1, h2, h3, h4, h5, h6, h7⟩ := h
  refine ⟨?_, fun i hi => ?_, fun i hi => ?_, ?_, fun k hk => ?_, ?_, ?_⟩
  · rw [wr_row _ _ _ _ _ (by omega)]; exact h1
  · rw [wr_row _ _ _ _ _ (by omega), wr_row _ _ _ _ _ (by omega), wr_row _ _ _ _ _ (by omega)]; exact h2 i hi
  · rw [wr_row _ _ _ _ _ (by omega)]; exact h3 i hi
  · rw [wr_row _ _ _ _ _ (by omega)]; exact h4
  · rw [wr_row _ _ _ _ _ (by omega)]; exact h5 k hk
  · rw [wr_ap, if_pos ⟨rfl, rfl, rfl⟩]; rfl
  · rw [wr_row _ _ _ _ _ (by omega)]; exact h7
theorem wo_m : ∀ i, i < 6 → ∀ q, q < 6 → (decide (q ≠ i) = true ↔ ¬ ((((63 : Int32) &&& (((1 : Int32) <<< (nI i &&& 31)) ^^^ (-1 : Int32))) >>> (nI q &&& 31)) &&& (1 : Int32)) = 0) := by decide +kernel
theorem wo_o : ∀ i, i < 6 → ∀ q, q < 6 → (decide (q ≠ i) = true ↔ (((1 : Int32) <<< (nI i &&& 31)) >>> (nI q &&& 31)) &&& (1 : Int32) = 0) := by decide +kernel
theorem cl_without {M : Mem} {S : St} (hS : okS S) (h9 : M 9 1 0 = nI (S.1 5 0) ∧ ∀ i, i < S.1 5 0 → M 9 0 i = nI (S.1 4 i)) {i : Nat} (hi : i < S.1 5 0) : fX1_stopsWithout M (nI i) = some (flB (S.1 4) (fun q => decide (q ≠ i)) (S.1 5 0)) := by
  have s5 := hS.2.2.2.1.1
  unfold fX1_stopsWithout
  rw [cl_stopsOf s5 h9.1 h9.2 (kp := fun q => decide (q ≠ i)) (fun q hq => wo_m i (by omega) q (by omega))]
  rfl
theorem cl_never {C : Mem} {S : St} (hS : okS S) (hC : RC C S) : Sp (fX9_never C) (fun z => z.1 = nvA (fun i => seenB S (wo S i)) (S.1 5 0) ∧ frS [6, 7, 8] C z.2) := by
  have hγ := okC_told hS
  have h8 := hγ.1
  have hn := hγ.2.1
  have s5 := hS.2.2.2.1.1
  have hg := hC.2.1.1
  unfold fX9_never
  simp only [sp_gd, sp_nm, sp_bind, sp_ite, sp_some, sp_inr]
  refine (cl_prepare hγ hg (by decide)).mono (fun M1 ⟨f1, f2⟩ => ?_)
  refine lp_for (fun i st => st.1 = nvA (fun i => seenB S (wo S i)) i ∧ st.2.1 = nI i ∧ (∃ v, RG (st.2.2 7) (wFly (told S) v)) ∧ frS [6, 7, 8] C st.2.2) (S.1 5 0) (by omega) ?_ ?_ (Nat.zero_le _) ⟨rfl, rfl, ⟨(told S).2.1, f1⟩, f2.S (by decide)⟩
  · rintro i ⟨x, y, Mc⟩ hi ⟨a1, a2, ⟨v, a3⟩, a4⟩
    dsimp only at a1 a2 a3 a4 ⊢
    subst a2
    have e9 : Mc 9 = C 9 := a4 9 (by decide)
    unfold fX9_never_15 fX9_never_71
    simp only [sp_gd, sp_nm, sp_bind, sp_ite, sp_some, sp_inr]
    rw [e9, hC.1.2.2.1.1, nI_leI (by omega) (by omega), nI_1]
    refine ⟨fun hc => absurd hc (by omega), fun _ => Sp.of (cl_without hS (by rw [e9]; exact hC.1.2.2.1) hi) ?_⟩
    have g2 : RG (wr Mc 7 7 0 (flB (S.1 4) (fun q => decide (q ≠ i)) (S.1 5 0)) 7) (wo S i) := a3.fly
    have ok2 : okC (wo S i) := okC_fly hγ _
    refine (cl_run ok2 g2).mono (fun M2 ⟨t1, t2, t3⟩ => ?_)
    have g3 : RG (M2 7) (wo S i) := by rw [t3 7 (by decide)]; exact g2
    have fr : frS [6, 7, 8] C M2 := a4.tr (frS.tr (fun o ho => wr_ob _ _ _ _ _ (fun z => ho (by rw [z]; decide))) (t3.sub (by decide)))
    refine Sp.of (cl_agrees hS ok2 (by rw [fr 10 (by decide)]; exact hC.1.2.2.2.1) g3.2.2.2.2.1 t2) ?_
    by_cases hp : seenB S (wo S i) = true
    · rw [b01_1 hp]
      refine ⟨fun z => absurd z (by decide), fun _ => ⟨?_, rfl, ⟨_, g3⟩, fr⟩⟩
      dsimp only
      rw [nvA, if_pos hp, a1]
    · rw [b01_0 hp]
      refine ⟨fun _ => ⟨?_, rfl, ⟨_, g3⟩, fr⟩, fun z => absurd rfl z⟩
      dsimp only
      rw [nvA, if_neg hp, a1]
  · rintro ⟨x, y, Mc⟩ ⟨a1, a2, a3, a4⟩
    dsimp only at a1 a2 a3 a4 ⊢
    subst a2
    have e9 : Mc 9 = C 9 := a4 9 (by decide)
    unfold fX9_never_15
    simp only [sp_gd, sp_nm, sp_bind, sp_ite, sp_some, sp_inr]
    rw [e9, hC.1.2.2.1.1, nI_leI (by omega) (by omega)]
    exact ⟨fun _ => ⟨a1, a4⟩, fun hc => absurd (Nat.le_refl _) hc⟩
theorem md_neverNow {R : Mem} {S : St} (hS : okS S) (hR : RR R S) : Sp (fX10_neverNow R) (fun z => z.1 = nvA (fun i => seenB S (wo S i)) (S.1 5 0) ∧ frM SL R z.2) := by
  have hγ := okC_told hS
  have s5 := hS.2.2.2.1.1
  unfold fX10_neverNow
  simp only [sp_gd, sp_nm, sp_bind, sp_ite, sp_some, sp_inr]
  refine (md_asTold hS hR).mono (fun R1 ⟨m1, m2, f1⟩ => ?_)
  refine lp_for (fun i st => st.1 = nvA (fun i => seenB S (wo S i)) i ∧ st.2.1 = nI i ∧ (∃ v, MG st.2.2 (wFly (told S) v)) ∧ frM SL R st.2.2) (S.1 5 0) (by omega) ?_ ?_ (Nat.zero_le _) ⟨rfl, rfl, ⟨(told S).2.1, m1⟩, f1⟩
  · rintro i ⟨x, y, Mc⟩ hi ⟨a1, a2, ⟨v, a3⟩, a4⟩
    dsimp only at a1 a2 a3 a4 ⊢
    subst a2
    have hRc := hR.fr a4
    unfold fX10_neverNow_8 fX10_neverNow_42
    simp only [sp_gd, sp_nm, sp_bind, sp_ite, sp_some, sp_inr]
    rw [hRc.2.2.2.1.1, nI_leI (by omega) (by omega), nI_1]
    refine ⟨fun hc => absurd hc (by omega), fun _ => Sp.of (md_fliesBut hS hRc.2.2.2.1 (kp := fun q => decide (q ≠ i)) (fun q hq => ?_)) ?_⟩
    · rw [wo_o i (by omega) q (by omega)]
      exact Iff.symm Decidable.not_not
    · have g2 : MG (wr Mc 0 13 0 (flB (S.1 4) (fun q => decide (q ≠ i)) (S.1 5 0))) (wo S i) := a3.fly
      have ok2 : okC (wo S i) := okC_fly hγ _
      refine (md_isSeen hS ok2 g2 (hRc.fr (frM.rf.w _ _ _ (by decide)))).mono (fun z ⟨z1, z2, z3⟩ => ?_)
      have fr : frM SL R z.2 := (a4.w 13 0 _ (by decide)).tr (z3.sub RuL_SL)
      by_cases hp : seenB S (wo S i) = true
      · rw [z1, b01_1 hp]
        refine ⟨fun z => absurd z (by decide), fun _ => ⟨?_, rfl, ⟨_, z2.1⟩, fr⟩⟩
        dsimp only
        rw [nvA, if_pos hp, a1]
      · rw [z1, b01_0 hp]
        refine ⟨fun _ => ⟨?_, rfl, ⟨_, z2.1⟩, fr⟩, fun z => absurd rfl z⟩
        dsimp only
        rw [nvA, if_neg hp, a1, or_0]
  · rintro ⟨x, y, Mc⟩ ⟨a1, a2, a3, a4⟩
    dsimp only at a1 a2 a3 a4 ⊢
    subst a2
    unfold fX10_neverNow_8
    simp only [sp_gd, sp_nm, sp_bind, sp_ite, sp_some, sp_inr]
    rw [(hR.fr a4).2.2.2.1.1, nI_leI (by omega) (by omega)]
    exact ⟨fun _ => ⟨a1, a4⟩, fun hc => absurd (Nat.le_refl _) hc⟩
theorem op_never {C R : Mem} (h : Rel C R) : ∃ (r : Int32) (C' R' : Mem), fX9_never C = some (r, C') ∧ fX10_never R = some (r, R') ∧ Rel C' R' := by
  obtain ⟨S, hS, hC, hR⟩ := h
  refine op_rw (S' := S) hS ((cl_never hS hC).mono (fun z ⟨z1, z2⟩ => ⟨z1, hC.trial z2⟩)) ?_
  unfold fX10_never
  simp only [sp_gd, sp_nm, sp_bind, sp_ite, sp_some, sp_inr]
  exact (md_neverNow hS hR).mono (fun z ⟨z1, z2⟩ => ⟨z1, hR.fr z2⟩)
