/-! ===== the reference's walk does so too ===== -/
/-- nothing but the fields of the list has changed (of the reference) -/
def frM (l : List Nat) (R R' : Mem) : Prop := ∀ f, f ∉ l → R' 0 f = R 0 f
theorem frM.tr {l : List Nat} {M M1 M2 : Mem} (h : frM l M M1) (h2 : frM l M1 M2) : frM l M M2 := fun o ho => (h2 o ho).trans (h o ho)
theorem frM.rf {l : List Nat} {M : Mem} : frM l M M := fun _ _ => rfl
theorem frM.sub {l l' : List Nat} {M M' : Mem} (h : frM l M M') (hs : ∀ x, x ∈ l → x ∈ l') : frM l' M M' := fun o ho => h o (fun z => ho (hs o z))
theorem frM.w {l : List Nat} {M M' : Mem} (h : frM l M M') (f i : Nat) (v : Int32) (hf : f ∈ l) : frM l M (wr M' 0 f i v) := fun x hx => by
  have hne : ¬ (0 = 0 ∧ x = f) := fun z => hx (by rw [z.2]; exact hf)
  rw [wr_row M' 0 f i v hne]
  exact h x hx
/-- the reference holds what is given -/
def MG (R : Mem) (γ : Cfg) : Prop := R 0 2 0 = nI (γ.1 5 0) ∧ (∀ i, i < γ.1 5 0 → R 0 3 i = nI (γ.1 0 i) ∧ R 0 4 i = nI (γ.1 1 i) ∧ R 0 5 i = nI (γ.1 2 i)) ∧ (∀ i, i < 4 → R 0 8 i = nI (γ.1 3 i)) ∧ R 0 11 0 = nI (γ.1 6 0) ∧ (∀ k, k < γ.1 6 0 → R 0 12 k = nI (γ.1 4 k)) ∧ R 0 13 0 = γ.2.1 ∧ R 0 14 0 = γ.2.2
theorem MG.fr {R R' : Mem} {γ : Cfg} (h : MG R γ) (e : ∀ f, f = 2 ∨ f = 3 ∨ f = 4 ∨ f = 5 ∨ f = 8 ∨ f = 11 ∨ f = 12 ∨ f = 13 ∨ f = 14 → R' 0 f = R 0 f) : MG R' γ := by
  obtain ⟨h1, h2, h3, h4, h5, h6, h7⟩ := h
  refine ⟨?_, fun i hi => ⟨?_, ?_, ?_⟩, fun i hi => ?_, ?_, fun k hk => ?_, ?_, ?_⟩
  · rw [e 2 (by decide)]; exact h1
  · rw [e 3 (by decide)]; exact (h2 i hi).1
  · rw [e 4 (by decide)]; exact (h2 i hi).2.1
  · rw [e 5 (by decide)]; exact (h2 i hi).2.2
  · rw [e 8 (by decide)]; exact h3 i hi
  · rw [e 11 (by decide)]; exact h4
  · rw [e 12 (by decide)]; exact h5 k hk
  · rw [e 13 (by decide)]; exact h6
  · rw [e 14 (by decide)]; exact h7
/-- the reference holds how things stand -/
def MW (R : Mem) (γ : Cfg) (w : Wk) : Prop := (∀ i, i < γ.1 5 0 → R 0 20 i = nI (w.1 0 i) ∧ R 0 21 i = nI (w.1 1 i) ∧ R 0 22 i = nI (w.1 2 i)) ∧ R 0 23 0 = w.2 ∧ R 0 15 0 = nI (w.1 5 0) ∧ R 0 16 0 = nI (w.1 6 0) ∧ R 0 17 0 = nI (w.1 7 0)
theorem and1 (x : Int32) : x &&& 1 = 0 ∨ x &&& 1 = 1 := by
  obtain ⟨j, hj, e⟩ := pk_andE x (m := 1) 1 (by decide)
  rcases (show j = 0 ∨ j = 1 by omega) with rfl | rfl
  · exact Or.inl e
  · exact Or.inr e
theorem md_isIn {x : Int32} {k : Nat} : fX10_isIn x (nI k) = some (if isO x k then 1 else 0) := by
  unfold fX10_isIn
  rcases and1 (x >>> (nI k &&& 31)) with h | h
  · rw [if_neg (fun z => by rw [h] at z; exact absurd z (by decide)), if_neg (fun z => z h)]
  · rw [if_pos h, if_pos (fun z => by rw [h] at z; exact absurd z (by decide))]
theorem md_in {a b c : Int32} : fX10_in a b c = some (if ¬ a < b ∧ ¬ c < a then 1 else 0) := by
  unfold fX10_in
  by_cases h : a < b
  · rw [if_pos h, if_neg (fun z => z.1 h)]
  · rw [if_neg h]
    by_cases h2 : c < a
    · rw [if_pos h2, if_neg (fun z => z.2 h2)]
    · rw [if_neg h2, if_pos ⟨h, h2⟩]
theorem md_afraid {R : Mem} {γ : Cfg} {k j : Nat} (hγ : okC γ) (hg : MG R γ) (hj : j < γ.1 5 0) : fX10_afraid R (nI j) (nI k) = some (nI (dr γ k j)) := by
  obtain ⟨g1, g2, g3, g4, g5, g6, g7⟩ := hg
  obtain ⟨h1, h2, h3, h4, h5, h6, h7, h8⟩ := hγ
  have sj := (h3 j hj).1
  have e3 := (g2 j hj).1
  have k54 : ∀ v0 v1 : Nat, v0 ≤ 1 → v1 < 100 → fX10_afraid_54 R (nI j) (nI k) (nI v0) (nI v1) = some (nI (v1 - v0)) := by
    intro v0 v1 hv0 hv1
    unfold fX10_afraid_54
    rw [nm_d]
    by_cases hle : v0 ≤ v1
    · rw [pk_sub hle]
      by_cases hz : v1 - v0 = 0
      · rw [hz, if_pos (by decide)]; rfl
      · rw [if_neg (nI_nle (by omega) (by omega))]
    · have a : v0 = 1 := by omega
      have b : v1 = 0 := by omega
      subst a b
      rw [if_pos (by decide)]; rfl
  have k38 : ∀ v0 v1 : Nat, v0 + v1 < 50 → fX10_afraid_38 R (nI j) (nI k) (nI v0) (nI v1) = some (nI ((v1 + v0) - (if γ.1 0 j = 1 then 1 else 0))) := by
    intro v0 v1 hv
    unfold fX10_afraid_38
    rw [gd_p ((inB_nI (by omega)).mpr (by omega)), nI_clamp (by omega), e3, nI_add]
    by_cases hs : γ.1 0 j = 1
    · rw [if_pos ((nI_e1 (by omega)).mpr hs), if_pos hs, il1, k54 1 _ (by omega) (by omega)]
    · rw [if_neg (fun q => hs ((nI_e1 (by omega)).mp q)), if_neg hs, il0, k54 0 _ (by omega) (by omega)]
  have k22 : ∀ v0 v1 : Nat, v0 + v1 < 20 → fX10_afraid_22 R (nI j) (nI k) (nI v0) (nI v1) = some (nI ((v1 + v0 + (if γ.1 0 j = 2 then 2 else 0)) - (if γ.1 0 j = 1 then 1 else 0))) := by
    intro v0 v1 hv
    unfold fX10_afraid_22
    rw [gd_p ((inB_nI (by omega)).mpr (by omega)), nI_clamp (by omega), e3, nI_add]
    by_cases hs : γ.1 0 j = 2
    · rw [if_pos ((nI_e2 (by omega)).mpr hs), if_pos hs, il2, k38 2 _ (by omega)]
    · rw [if_neg (fun q => hs ((nI_e2 (by omega)).mp q)), if_neg hs, il0, k38 0 _ (by omega)]
  have r : Sp (fX10_afraid R (nI j) (nI k)) (fun z => z = nI (dr γ k j)) := by
    unfold fX10_afraid
    simp only [sp_gd, sp_nm, sp_bind, sp_ite, sp_some, sp_inr]
    rw [g6]
    refine Sp.of md_isIn ?_
    rw [cl1, g3 1 (by omega)]
    unfold dr
    by_cases hf : isO γ.2.1 k
    · rw [if_pos hf, if_pos hf]
      refine ⟨fun z => absurd z (by decide), fun _ => ?_⟩
      rw [il2, k22 2 _ (by omega)]
      exact sp_some.mpr rfl
    · rw [if_neg hf, if_neg hf]
      refine ⟨fun _ => ?_, fun z => absurd rfl z⟩
      rw [il0, k22 0 _ (by omega)]
      exact sp_some.mpr rfl
  obtain ⟨z, hz, rfl⟩ := r
  exact hz
theorem md_goesBack {h d : Nat} {R : Mem} {r : Nat → Nat} (hh : h ≤ 8) (e3 : R 0 2 0 = nI h) (e0 : ∀ i, i < h → R 0 20 i = nI (r i)) (hr : ∀ i, i < h → r i ≤ 360) (e7 : R 0 17 0 = nI d) : Sp (fX10_goesBack R) (fun R' => frM [17, 20] R R' ∧ (∀ i, i < h → R' 0 20 i = nI (r i / 2)) ∧ R' 0 17 0 = nI (d + sN (fun i => r i - r i / 2) h)) := by
  unfold fX10_goesBack
  simp only [sp_gd, sp_nm, sp_bind, sp_ite, sp_some, sp_inr]
  refine lp_for (fun i st => st.1 = nI i ∧ frM [17, 20] R st.2 ∧ (∀ q, q < i → st.2 0 20 q = nI (r q / 2)) ∧ (∀ q, i ≤ q → q < h → st.2 0 20 q = nI (r q)) ∧ st.2 0 17 0 = nI (d + sN (fun i => r i - r i / 2) i)) h (by omega) ?_ ?_ (Nat.zero_le _) ⟨rfl, frM.rf, fun q hq => absurd hq (Nat.not_lt_zero _), fun q _ hq => e0 q hq, e7⟩
  · rintro i ⟨x, Mc⟩ hi ⟨h1, h2, h5, h6, h7⟩
    dsimp only at h1 h2 h5 h6 h7 ⊢
    subst h1
    have hri := hr i hi
    unfold fX10_goesBack_2
    simp only [sp_gd, sp_nm, sp_bind, sp_ite, sp_some, sp_inr]
    have q20 : ∀ v, (wr Mc 0 17 0 v) 0 20 i = Mc 0 20 i := fun v => by rw [wr_row _ _ _ _ _ (by decide)]
    rw [show Mc 0 2 0 = nI h by rw [h2 2 (by decide)]; exact e3, nI_leI (by omega) (by omega), inB_nI (by omega), nI_clamp (by omega), nI_1, q20, h6 i (Nat.le_refl _) hi, il2, pk_div (by omega) (by omega) (by omega), h7, pk_sub (by omega), nI_add]
    refine ⟨fun hc => absurd hc (by omega), fun _ => ⟨by omega, by omega, by omega, by omega, rfl, (h2.w _ _ _ (by decide)).w _ _ _ (by decide), fun q hq => ?_, fun q hq hq2 => ?_, ?_⟩⟩
    · simp only [wr_ap]
      by_cases hqi : q = i
      · simp [hqi]
      · simp [hqi]
        exact h5 q (by omega)
    · simp only [wr_ap]
      have hqi : q ≠ i := by omega
      simp [hqi]
      exact h6 q (by omega) hq2
    · simp [wr_ap]
      show nI _ = nI (d + (sN _ i + (r i - r i / 2)))
      congr 1
      omega
  · rintro ⟨x, Mc⟩ ⟨h1, h2, h5, h6, h7⟩
    dsimp only at h1 h2 h5 h6 h7 ⊢
    subst h1
    unfold fX10_goesBack_2
    simp only [sp_gd, sp_nm, sp_bind, sp_ite, sp_some, sp_inr]
    rw [show Mc 0 2 0 = nI h by rw [h2 2 (by decide)]; exact e3, nI_leI (by omega) (by omega)]
    exact ⟨fun _ => ⟨h2, h5, h7⟩, fun hc => absurd (Nat.le_refl _) hc⟩
theorem md_keepsAt {h k : Nat} {R : Mem} (hh : h ≤ 8) (hk : k ≤ 20) (e3 : R 0 2 0 = nI h) : Sp (fX10_keepsAt R (nI k)) (fun R' => frM [28, 29, 30] R R' ∧ (∀ i, i < h → R' 0 28 (8 * k + i) = R 0 20 i ∧ R' 0 29 (8 * k + i) = R 0 21 i ∧ R' 0 30 (8 * k + i) = R 0 22 i) ∧ ∀ q, q < 8 * k → R' 0 28 q = R 0 28 q ∧ R' 0 29 q = R 0 29 q ∧ R' 0 30 q = R 0 30 q) := by
  unfold fX10_keepsAt
  simp only [sp_gd, sp_nm, sp_bind, sp_ite, sp_some, sp_inr]
  refine lp_for (fun i st => st.1 = nI i ∧ frM [28, 29, 30] R st.2 ∧ (∀ q, q < i → st.2 0 28 (8 * k + q) = R 0 20 q ∧ st.2 0 29 (8 * k + q) = R 0 21 q ∧ st.2 0 30 (8 * k + q) = R 0 22 q) ∧ ∀ q, q < 8 * k → st.2 0 28 q = R 0 28 q ∧ st.2 0 29 q = R 0 29 q ∧ st.2 0 30 q = R 0 30 q) h (by omega) ?_ ?_ (Nat.zero_le _) ⟨rfl, frM.rf, fun q hq => absurd hq (Nat.not_lt_zero _), fun q hq => ⟨rfl, rfl, rfl⟩⟩
  · rintro i ⟨x, Mc⟩ hi ⟨h1, h2, h3, h4⟩
    dsimp only at h1 h2 h3 h4 ⊢
    subst h1
    unfold fX10_keepsAt_2
    simp only [sp_gd, sp_nm, sp_bind, sp_ite, sp_some, sp_inr]
    have ei : (8 : Int32) * nI k + nI i = nI (8 * k + i) := by rw [il8, pk_mul, nI_add]
    have a0 : Mc 0 20 = R 0 20 := h2 20 (by decide)
    have a1 : Mc 0 21 = R 0 21 := h2 21 (by decide)
    have a2 : Mc 0 22 = R 0 22 := h2 22 (by decide)
    rw [show Mc 0 2 0 = nI h by rw [h2 2 (by decide)]; exact e3, nI_leI (by omega) (by omega), ei, inB_nI (by omega), inB_nI (by omega), nI_clamp (by omega), nI_clamp (by omega), nI_1]
    refine ⟨fun hc => absurd hc (by omega), fun _ => ⟨by omega, by omega, by omega, by omega, by omega, by omega, rfl, ((h2.w _ _ _ (by decide)).w _ _ _ (by decide)).w _ _ _ (by decide), fun q hq => ?_, fun q hq => ?_⟩⟩
    · simp only [wr_ap]
      by_cases hqi : q = i
      · simp [hqi, a0, a1, a2]
      · have c : ¬ (8 * k + q = 8 * k + i) := by omega
        simp [hqi]
        exact h3 q (by omega)
    · have c : ¬ (q = 8 * k + i) := by omega
      simp [wr_ap, c]
      exact h4 q hq
  · rintro ⟨x, Mc⟩ ⟨h1, h2, h3, h4⟩
    dsimp only at h1 h2 h3 h4 ⊢
    subst h1
    unfold fX10_keepsAt_2
    simp only [sp_gd, sp_nm, sp_bind, sp_ite, sp_some, sp_inr]
    rw [show Mc 0 2 0 = nI h by rw [h2 2 (by decide)]; exact e3, nI_leI (by omega) (by omega)]
    exact ⟨fun _ => ⟨h2, h3, h4⟩, fun hc => absurd (Nat.le_refl _) hc⟩
