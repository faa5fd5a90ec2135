/-! ===== Story: the told walk, stop by stop ===== -/
theorem cl_keep {k : Nat} {M : Mem} (hk : k ≤ 20) : Sp (fX5_keep M (nI k)) (fun M' => frO 4 M M' ∧ (∀ f, f ≠ 5 → f ≠ 6 → f ≠ 7 → M' 4 f = M 4 f) ∧ (∀ i, i < 8 → M' 4 5 (8 * k + i) = M 5 0 i ∧ M' 4 6 (8 * k + i) = M 5 1 i ∧ M' 4 7 (8 * k + i) = M 5 2 i) ∧ ∀ q, q < 8 * k → M' 4 5 q = M 4 5 q ∧ M' 4 6 q = M 4 6 q ∧ M' 4 7 q = M 4 7 q) := by
  have e8 : nI k * (8 : Int32) = nI (k * 8) := by rw [il8, pk_mul]
  have eg : (¬ (0 : Int32) < 0 ∧ ¬ (nI (k * 8)) < 0 ∧ ¬ (8 : Int32) < 0 ∧ Int32.toNatClampNeg 0 + Int32.toNatClampNeg 8 ≤ 8 ∧ Int32.toNatClampNeg (nI (k * 8)) + Int32.toNatClampNeg 8 ≤ 168) := by
    rw [nI_clamp (by omega), cl0, cl8]
    exact ⟨by decide, nI_pos (by omega), by decide, by omega, by omega⟩
  unfold fX5_keep
  simp only [sp_gd, sp_nm, sp_bind, sp_ite, sp_some, sp_inr]
  rw [e8]
  refine ⟨eg, eg, eg, ?_⟩
  rw [nI_clamp (by omega), cl0, cl8]
  refine ⟨fun x hx => ?_, fun f h5 h6 h7 => ?_, fun i hi => ?_, fun q hq => ?_⟩
  · rw [cp_ob _ _ _ _ _ _ _ _ hx, cp_ob _ _ _ _ _ _ _ _ hx, cp_ob _ _ _ _ _ _ _ _ hx]
  · funext i
    simp [cp_ap, h5, h6, h7]
  · have c : k * 8 ≤ 8 * k + i ∧ 8 * k + i < k * 8 + 8 := by omega
    have d : 8 * k + i - k * 8 = i := by omega
    simp [cp_ap, c.1, c.2, d]
  · have c : ¬ (k * 8 ≤ q) := by omega
    simp [cp_ap, c]
/-- the stop at which a share became more by most, and by how much -/
def lngA (γ : Cfg) : Nat → Int32 × Nat
  | 0 => (-1, 0)
  | k + 1 => if (lngA γ k).2 < (stW γ (k + 1)).1 11 0 then (nI k, (stW γ (k + 1)).1 11 0) else lngA γ k
theorem lngA_le {γ : Cfg} (h : okC γ) : ∀ k, (lngA γ k).2 ≤ 18
  | 0 => Nat.zero_le _
  | k + 1 => by
    have h1 := lngA_le h k
    have h2 := (Bd_st h (k + 1)).2.2.2.2.2.2.2
    unfold lngA
    split <;> omega
/-- a Story holds the first m stops -/
def RS (x : Ob) (γ : Cfg) (m : Nat) : Prop := (∀ k, k < m → x 1 k = nI ((stW γ (k + 1)).1 8 0) ∧ x 2 k = nI ((stW γ (k + 1)).1 9 0) ∧ x 3 k = nI ((stW γ k).1 5 0) ∧ x 4 k = nI ((stW γ (k + 1)).1 10 0)) ∧ (∀ k, k ≤ m → ∀ i, i < γ.1 5 0 → x 5 (8 * k + i) = nI ((stW γ k).1 0 i) ∧ x 6 (8 * k + i) = nI ((stW γ k).1 1 i) ∧ x 7 (8 * k + i) = nI ((stW γ k).1 2 i)) ∧ x 8 0 = (lngA γ m).1
theorem cl_tell {o : Nat} {M : Mem} {γ : Cfg} (hγ : okC γ) (hg : RG (M o) γ) (ho4 : o ≠ 4) (ho5 : o ≠ 5) : Sp (fX5_tell o M) (fun M' => RW (M' 5) γ (stW γ (γ.1 6 0)) ∧ RS (M' 4) γ (γ.1 6 0) ∧ frS [4, 5] M M') := by
  have h8 := hγ.1
  have hn := hγ.2.1
  have hg' := hg
  obtain ⟨g1, g2, g3, g4, g5, g6, g7⟩ := hg'
  unfold fX5_tell
  simp only [sp_gd, sp_nm, sp_bind, sp_ite, sp_some, sp_inr]
  refine (cl_begin hγ hg ho5).mono (fun M1 ⟨f1, f2⟩ => ?_)
  refine (cl_keep (k := 0) (by omega)).mono (fun M2 ⟨t1, t2, t3, t4⟩ => ?_)
  have e5 : M2 5 = M1 5 := t1 5 (by decide)
  refine lp_for (fun i st => st.1 = nI (lngA γ i).2 ∧ st.2.1 = nI i ∧ RW (st.2.2 5) γ (stW γ i) ∧ RS (st.2.2 4) γ i ∧ frS [4, 5] M st.2.2) (γ.1 6 0) (by omega) ?_ ?_ (Nat.zero_le _) ⟨rfl, rfl, ?_, ?_, ?_⟩
  · rintro i ⟨x2, x3, Mc⟩ hi ⟨h1, h2, h3, h4, h5⟩
    dsimp only at h1 h2 h3 h4 h5 ⊢
    subst h1 h2
    have eo : Mc o = M o := h5 o (by simp; exact ⟨ho4, ho5⟩)
    obtain ⟨r1, r2, r3⟩ := h4
    have hl := lngA_le hγ i
    have hb := Bd_st hγ (i + 1)
    unfold fX5_tell_22 fX5_tell_121
    simp only [sp_gd, sp_nm, sp_bind, sp_ite, sp_some, sp_inr]
    have ew : (wr Mc 4 3 i (Mc 5 5 0)) o 4 i = nI (γ.1 4 i) := by rw [wr_ob _ _ _ _ _ ho4, eo]; exact g3 i hi
    rw [show Mc o 6 0 = nI (γ.1 6 0) by rw [eo]; exact g5, nI_leI (by omega) (by omega), inB_nI (by omega), nI_clamp (by omega), ew]
    refine ⟨fun hc => absurd hc (by omega), fun _ => ⟨by omega, by omega, ?_⟩⟩
    have h35 : (wr Mc 4 3 i (Mc 5 5 0)) 5 = Mc 5 := wr_ob _ _ _ _ _ (by decide)
    refine (cl_visit (w := stW γ i) hγ (hg.eq ((wr_ob _ _ _ _ _ ho4).trans eo)) ho5 (by rw [h35]; exact h3) (Bd_st hγ i) (by omega) (hγ.2.2.2.2.2.2.2 i hi)).mono (fun M5 ⟨v1, v2, v3⟩ => ⟨by omega, by omega, by omega, ?_⟩)
    obtain ⟨M8, hM8⟩ : ∃ M8, M8 = wr (wr (wr M5 4 1 i (M5 5 8 0)) 4 2 i ((wr M5 4 1 i (M5 5 8 0)) 5 9 0)) 4 4 i ((wr (wr M5 4 1 i (M5 5 8 0)) 4 2 i ((wr M5 4 1 i (M5 5 8 0)) 5 9 0)) 5 10 0) := ⟨_, rfl⟩
    rw [← hM8]
    have hS : ∀ x, x ≠ 4 → M8 x = M5 x := fun x hx => by rw [hM8, wr_ob _ _ _ _ _ hx, wr_ob _ _ _ _ _ hx, wr_ob _ _ _ _ _ hx]
    have h8_5 : M8 5 = M5 5 := hS 5 (by decide)
    have vst : vW γ i (γ.1 4 i) (stW γ i) = stW γ (i + 1) := rfl
    rw [vst] at v1 v2
    have h54 : M5 4 = (wr Mc 4 3 i (Mc 5 5 0)) 4 := v3 4 (by decide)
    have c1 : ∀ k, k < i + 1 → M8 4 1 k = nI ((stW γ (k + 1)).1 8 0) ∧ M8 4 2 k = nI ((stW γ (k + 1)).1 9 0) ∧ M8 4 3 k = nI ((stW γ k).1 5 0) ∧ M8 4 4 k = nI ((stW γ (k + 1)).1 10 0) := by
      intro k hk
      rw [hM8]
      simp only [wr_ap, h54]
      by_cases hki : k = i
      · simp [hki, v2.1, v2.2.1, v2.2.2.1, h3.2.2.2.1]
      · have := r1 k (by omega)
        simp [hki, this]
    have c2 : ∀ f, f ≠ 1 → f ≠ 2 → f ≠ 3 → f ≠ 4 → M8 4 f = Mc 4 f := by
      intro f n1 n2 n3 n4
      rw [hM8, wr_row _ _ _ _ _ (fun z => n4 z.2), wr_row _ _ _ _ _ (fun z => n2 z.2), wr_row _ _ _ _ _ (fun z => n1 z.2), h54, wr_row _ _ _ _ _ (fun z => n3 z.2)]
    have c3 : frS [4, 5] M M8 := by
      intro x hx
      simp at hx
      rw [hS x hx.1, v3 x hx.2, wr_ob _ _ _ _ _ hx.1]
      exact h5 x (by simp; exact hx)
    have fin : ∀ (M9 : Mem) (u : Int32 × Nat), M9 5 = M8 5 → (∀ f, f ≠ 8 → M9 4 f = M8 4 f) → M9 4 8 0 = u.1 → frS [4, 5] M M9 → lngA γ (i + 1) = u → Sp (fX5_keep M9 (nI i + (1 : Int32))) (fun y => lpP (fun st : Int32 × Int32 × Mem => st.1 = nI (lngA γ (i + 1)).2 ∧ st.2.1 = nI (i + 1) ∧ RW (st.2.2 5) γ (stW γ (i + 1)) ∧ RS (st.2.2 4) γ (i + 1) ∧ frS [4, 5] M st.2.2) (fun M' : Mem => RW (M' 5) γ (stW γ (γ.1 6 0)) ∧ RS (M' 4) γ (γ.1 6 0) ∧ frS [4, 5] M M') (.inl (nI u.2, nI i + 1, y))) := by
      intro M9 u q1 q2 q3 q4 q5
      rw [nI_1]
      refine (cl_keep (k := i + 1) (by omega)).mono (fun M' ⟨k1, k2, k3, k4⟩ => ⟨by rw [q5], rfl, ?_, ⟨fun k hk => ?_, fun k hk q hq => ?_, ?_⟩, fun x hx => ?_⟩)
      · dsimp only
        rw [k1 5 (by decide), q1, h8_5]
        exact v1
      · dsimp only
        rw [k2 1 (by decide) (by decide) (by decide), k2 2 (by decide) (by decide) (by decide), k2 3 (by decide) (by decide) (by decide), k2 4 (by decide) (by decide) (by decide), q2 1 (by decide), q2 2 (by decide), q2 3 (by decide), q2 4 (by decide)]
        exact c1 k hk
      · dsimp only
        by_cases hki : k = i + 1
        · subst hki
          obtain ⟨a1, a2, a3⟩ := k3 q (by omega)
          rw [a1, a2, a3, q1, h8_5]
          exact v1.1 q hq
        · obtain ⟨a1, a2, a3⟩ := k4 (8 * k + q) (by omega)
          rw [a1, a2, a3, q2 5 (by decide), q2 6 (by decide), q2 7 (by decide), c2 5 (by decide) (by decide) (by decide) (by decide), c2 6 (by decide) (by decide) (by decide) (by decide), c2 7 (by decide) (by decide) (by decide) (by decide)]
          exact r2 k (by omega) q hq
      · dsimp only
        rw [k2 8 (by decide) (by decide) (by decide), q3, q5]
      · dsimp only
        have hx' := hx
        simp at hx'
        rw [k1 x hx'.1]
        exact q4 x hx
    have e11 : M8 5 11 0 = nI ((stW γ (i + 1)).1 11 0) := by rw [h8_5]; exact v2.2.2.2
    rw [e11, nI_leI (by have := hb.2.2.2.2.2.2.2; omega) (by omega)]
    refine ⟨fun hle => ?_, fun hle => ?_⟩
    · exact fin M8 (lngA γ i) rfl (fun _ _ => rfl) (by rw [c2 8 (by decide) (by decide) (by decide) (by decide)]; exact r3) c3 (by rw [lngA, if_neg (by omega)])
    · refine fin (wr M8 4 8 0 (nI i)) (nI i, (stW γ (i + 1)).1 11 0) (wr_ob _ _ _ _ _ (by decide)) (fun f hf => wr_row _ _ _ _ _ (fun z => hf z.2)) (by simp [wr_ap]) (fun x hx => ?_) (by rw [lngA, if_pos (by omega)])
      have hx' := hx
      simp at hx'
      rw [wr_ob _ _ _ _ _ hx'.1]
      exact c3 x hx
  · rintro ⟨x2, x3, Mc⟩ ⟨h1, h2, h3, h4, h5⟩
    dsimp only at h1 h2 h3 h4 h5 ⊢
    subst h1 h2
    have eo : Mc o = M o := h5 o (by simp; exact ⟨ho4, ho5⟩)
    unfold fX5_tell_22
    simp only [sp_gd, sp_nm, sp_bind, sp_ite, sp_some, sp_inr]
    rw [show Mc o 6 0 = nI (γ.1 6 0) by rw [eo]; exact g5, nI_leI (by omega) (by omega)]
    exact ⟨fun _ => ⟨h3, h4, h5⟩, fun hc => absurd (Nat.le_refl _) hc⟩
  · dsimp only
    rw [wr_ob _ _ _ _ _ (by decide), e5]
    exact f1
  · dsimp only
    refine ⟨fun k hk => absurd hk (Nat.not_lt_zero _), fun k hk i hi => ?_, by simp [wr_ap, lngA]⟩
    have hk0 : k = 0 := by omega
    subst hk0
    obtain ⟨a1, a2, a3⟩ := t3 i (by omega)
    rw [wr_row _ _ _ _ _ (by decide), wr_row _ _ _ _ _ (by decide), wr_row _ _ _ _ _ (by decide), a1, a2, a3]
    exact f1.1 i hi
  · intro x hx
    simp at hx
    dsimp only
    rw [wr_ob _ _ _ _ _ hx.1, t1 x hx.1, f2 x hx.2]
