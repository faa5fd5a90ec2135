/-! ===== bait, care ===== -/
def setC (γ : Cfg) (f j v : Nat) : Cfg := (fun a i => if a = f ∧ i = j then v else γ.1 a i, γ.2)
theorem setC_o {γ : Cfg} {f j v a i : Nat} (h : a ≠ f) : (setC γ f j v).1 a i = γ.1 a i := by
  unfold setC
  exact if_neg (fun z => h z.1)
theorem setC_a {γ : Cfg} {f j v a i : Nat} : (setC γ f j v).1 a i = if a = f ∧ i = j then v else γ.1 a i := by
  unfold setC
  dsimp only
theorem setC_2 {γ : Cfg} {f j v u : Nat} : setC (setC γ f j v) f j u = setC γ f j u := by
  apply Prod.ext
  · funext a i
    rw [setC_a, setC_a, setC_a]
    split <;> rfl
  · rfl
theorem setC_self {γ : Cfg} {f j : Nat} : setC γ f j (γ.1 f j) = γ := by
  apply Prod.ext
  · funext a i
    rw [setC_a]
    split
    · rename_i e; rw [e.1, e.2]
    · rfl
  · rfl
theorem okC_set {γ : Cfg} (h : okC γ) {f j v : Nat} (hf : f = 1 ∨ f = 2) (hv : v ≤ 9) : okC (setC γ f j v) := by
  obtain ⟨h1, h2, h3, h4, h5, h6, h7, h8⟩ := h
  refine ⟨by rw [setC_o (by omega)]; exact h1, by rw [setC_o (by omega)]; exact h2, fun i hi => ?_, by rw [setC_o (by omega)]; exact h4, by rw [setC_o (by omega)]; exact h5, by rw [setC_o (by omega)]; exact h6, by rw [setC_o (by omega)]; exact h7, fun k hk => ?_⟩
  · rw [setC_o (by omega)] at hi
    obtain ⟨a, b, c⟩ := h3 i hi
    refine ⟨by rw [setC_o (by omega)]; exact a, ?_, ?_⟩
    · rw [setC_a]
      split <;> omega
    · rw [setC_a]
      split <;> omega
  · rw [setC_o (by omega)] at hk
    rw [setC_o (by omega)]; exact h8 k hk
theorem RG.set {M : Mem} {γ : Cfg} (h : RG (M 7) γ) {f j v : Nat} (hf : f = 1 ∨ f = 2) : RG (wr M 7 f j (nI v) 7) (setC γ f j v) := by
  obtain ⟨h1, h2, h3, h4, h5, h6, h7⟩ := h
  refine ⟨fun i hi => ?_, fun i hi => ?_, fun k hk => ?_, ?_, ?_, ?_, ?_⟩
  · rw [setC_o (by omega)] at hi
    obtain ⟨a, b, c⟩ := h1 i hi
    refine ⟨?_, ?_, ?_⟩
    · rw [wr_row _ _ _ _ _ (by omega), setC_o (by omega)]; exact a
    · rw [wr_ap, setC_a]
      by_cases hc : 1 = f ∧ i = j
      · rw [if_pos ⟨rfl, hc⟩, if_pos hc]
      · rw [if_neg (fun z => hc z.2), if_neg hc]; exact b
    · rw [wr_ap, setC_a]
      by_cases hc : 2 = f ∧ i = j
      · rw [if_pos ⟨rfl, hc⟩, if_pos hc]
      · rw [if_neg (fun z => hc z.2), if_neg hc]; exact c
  · rw [wr_row _ _ _ _ _ (by omega), setC_o (by omega)]; exact h2 i hi
  · rw [setC_o (by omega)] at hk
    rw [wr_row _ _ _ _ _ (by omega), setC_o (by omega)]; exact h3 k hk
  · rw [wr_row _ _ _ _ _ (by omega), setC_o (by omega)]; exact h4
  · rw [wr_row _ _ _ _ _ (by omega), setC_o (by omega)]; exact h5
  · rw [wr_row _ _ _ _ _ (by omega)]; exact h6
  · rw [wr_row _ _ _ _ _ (by omega)]; exact h7
theorem MG.set {R : Mem} {γ : Cfg} (h : MG R γ) {f j v : Nat} (hf : f = 1 ∨ f = 2) : MG (wr R 0 (3 + f) j (nI v)) (setC γ f j v) := by
  obtain ⟨h1, h2, h3, h4, h5, h6, h7⟩ := h
  refine ⟨?_, fun i hi => ?_, fun i hi => ?_, ?_, fun k hk => ?_, ?_, ?_⟩
  · rw [wr_row _ _ _ _ _ (by omega), setC_o (by omega)]; exact h1
  · rw [setC_o (by omega)] at hi
    obtain ⟨a, b, c⟩ := h2 i hi
    refine ⟨?_, ?_, ?_⟩
    · rw [wr_row _ _ _ _ _ (by omega), setC_o (by omega)]; exact a
    · rw [wr_ap, setC_a]
      by_cases hc : 1 = f ∧ i = j
      · rw [if_pos ⟨rfl, by omega, hc.2⟩, if_pos hc]
      · rw [if_neg (fun z => hc ⟨by omega, z.2.2⟩), if_neg hc]; exact b
    · rw [wr_ap, setC_a]
      by_cases hc : 2 = f ∧ i = j
      · rw [if_pos ⟨rfl, by omega, hc.2⟩, if_pos hc]
      · rw [if_neg (fun z => hc ⟨by omega, z.2.2⟩), if_neg hc]; exact c
  · rw [wr_row _ _ _ _ _ (by omega), setC_o (by omega)]; exact h3 i hi
  · rw [wr_row _ _ _ _ _ (by omega), setC_o (by omega)]; exact h4
  · rw [setC_o (by omega)] at hk
    rw [wr_row _ _ _ _ _ (by omega), setC_o (by omega)]; exact h5 k hk
  · rw [wr_row _ _ _ _ _ (by omega)]; exact h6
  · rw [wr_row _ _ _ _ _ (by omega)]; exact h7
theorem md_isFirst {h j : Nat} {M : Mem} {r : Nat → Nat} (h8 : h ≤ 8) (hj : j < h) (e3 : M 0 2 0 = nI h) (e : ∀ i, i < h → M 0 20 i = nI (r i)) (hr : ∀ i, i < h → r i ≤ 360) : Sp (fX10_isFirst M (nI j)) (fun z => (z = 1 ∧ hasM r h j) ∨ (z = 0 ∧ ¬ hasM r h j)) := by
  have hrj := hr j hj
  have key : ∀ v : Int32, ((v = 1 ∧ 0 < r j) ∨ (v = 0 ∧ ¬ 0 < r j)) → Sp (fX10_isFirst_14 M (nI j) v) (fun z => (z = 1 ∧ hasM r h j) ∨ (z = 0 ∧ ¬ hasM r h j)) := by
    intro v hv
    unfold fX10_isFirst_14
    simp only [sp_gd, sp_nm, sp_bind, sp_ite, sp_some, sp_inr]
    refine lp_for (fun i st => st.2 = nI i ∧ ((st.1 = 1 ∧ hasM r i j) ∨ (st.1 = 0 ∧ ¬ hasM r i j))) h (by omega) ?_ ?_ (Nat.zero_le _) ⟨rfl, ?_⟩
    · rintro i ⟨x, y⟩ hi ⟨rfl, hI⟩
      have hri := hr i hi
      unfold fX10_isFirst_17 fX10_isFirst_53 fX10_isFirst_49 fX10_isFirst_54
      simp only [sp_gd, sp_nm, sp_bind, sp_ite, sp_some, sp_inr]
      dsimp only at hI ⊢
      rw [e3, nI_leI (by omega) (by omega), nI_eq (by omega) (by omega), inB_nI (by omega), inB_nI (by omega), nI_clamp (by omega), nI_clamp (by omega), e i hi, e j hj, nI_1, nI_leI (by omega) (by omega)]
      refine ⟨fun hc => absurd hc (by omega), fun _ => ⟨fun hx => ⟨rfl, Or.inr ⟨rfl, fun z => ?_⟩⟩, fun hx => ?_⟩⟩
      · rcases hI with ⟨q1, q2⟩ | ⟨q1, q2⟩
        · exact absurd (q1.symm.trans hx) (by decide)
        · exact q2 ⟨z.1, fun q hq hqj => z.2 q (by omega) hqj⟩
      · have hm : hasM r i j := by
          rcases hI with ⟨q1, q2⟩ | ⟨q1, q2⟩
          · exact q2
          · exact absurd q1 hx
        refine ⟨fun hij => ⟨rfl, Or.inl ⟨rfl, hm.1, fun q hq hqj => hm.2 q (by omega) hqj⟩⟩, fun hij => ⟨by omega, by omega, fun hle => ⟨rfl, Or.inr ⟨rfl, fun z => ?_⟩⟩, fun hle => ⟨rfl, Or.inl ⟨rfl, hm.1, fun q hq hqj => ?_⟩⟩⟩⟩
        · have := z.2 i (by omega) hij
          omega
        · by_cases hqi : q = i
          · rw [hqi]; omega
          · exact hm.2 q (by omega) hqj
    · rintro ⟨x, y⟩ ⟨rfl, hI⟩
      unfold fX10_isFirst_17
      simp only [sp_gd, sp_nm, sp_bind, sp_ite, sp_some, sp_inr]
      dsimp only at hI ⊢
      rw [e3, nI_leI (by omega) (by omega)]
      refine ⟨fun _ => ⟨?_, hI⟩, fun hc => absurd (Nat.le_refl _) hc⟩
      rcases hI with ⟨q, -⟩ | ⟨q, -⟩
      · exact Or.inr q
      · exact Or.inl q
    · rcases hv with ⟨q, p⟩ | ⟨q, p⟩
      · exact Or.inl ⟨q, p, fun q hq => absurd hq (Nat.not_lt_zero _)⟩
      · exact Or.inr ⟨q, fun z => p z.1⟩
  unfold fX10_isFirst
  simp only [sp_gd, sp_nm, sp_bind, sp_ite, sp_some, sp_inr]
  rw [inB_nI (by omega), nI_clamp (by omega), e j hj, il0, nI_leI (by omega) (by omega)]
  exact ⟨by omega, fun h0 => key _ (Or.inr ⟨rfl, by omega⟩), fun h0 => key _ (Or.inl ⟨rfl, by omega⟩)⟩
/-- the first that will do -/
def fsA (p : Nat → Bool) : Nat → Int32
  | 0 => -1
  | n + 1 => if fsA p n = -1 then (if p n = true then nI n else -1) else fsA p n
theorem fsA_f {p : Nat → Bool} : ∀ n, (∀ q, q < n → ¬ p q = true) → fsA p n = -1
  | 0, _ => rfl
  | n + 1, h => by
    rw [fsA, if_pos (fsA_f n (fun q hq => h q (by omega))), if_neg (h n (by omega))]
theorem fsA_t {p : Nat → Bool} {i : Nat} (hi : i < 1000) (h : ∀ q, q < i → ¬ p q = true) (ht : p i = true) : ∀ d, fsA p (i + 1 + d) = nI i
  | 0 => by rw [Nat.add_zero, fsA, if_pos (fsA_f i h), if_pos ht]
  | d + 1 => by
    have := fsA_t hi h ht d
    rw [show i + 1 + (d + 1) = (i + 1 + d) + 1 by omega, fsA, this, if_neg (nI_ne_m1 (by omega))]
def hasB (r : Nat → Nat) (h j : Nat) : Bool := decide (0 < r j ∧ ∀ i, i < h → i ≠ j → r i < r j)
theorem hasB_t {r : Nat → Nat} {h j : Nat} : hasB r h j = true ↔ hasM r h j := by
  unfold hasB hasM
  exact decide_eq_true_iff
def p_bait (γ : Cfg) (j v : Nat) : Bool := hasB ((stW (setC γ 2 j v) (γ.1 6 0)).1 0) (γ.1 5 0) j
def p_care (γ : Cfg) (j v : Nat) : Bool := decide (¬ isO (stW (setC γ 1 j v) (γ.1 6 0)).2 j)
theorem p_care_t {γ : Cfg} {j v : Nat} : p_care γ j v = true ↔ ¬ isO (stW (setC γ 1 j v) (γ.1 6 0)).2 j := by
  unfold p_care
  exact decide_eq_true_iff
theorem cl_bait {C : Mem} {S : St} (hS : okS S) (hC : RC C S) {j : Nat} (hj : j < (told S).1 5 0) : Sp (fX9_bait C (nI j)) (fun z => z.1 = fsA (p_bait (told S) j) 10 ∧ frS [6, 7, 8] C z.2) := by
  have hγ := okC_told hS
  have h8 := hγ.1
  have hn := hγ.2.1
  have hg := hC.2.1.1
  unfold fX9_bait
  simp only [sp_gd, sp_nm, sp_bind, sp_ite, sp_some, sp_inr]
  refine Sp.of (h_1 hg.2.2.2.1 hj (by omega)) ⟨fun z => absurd z (by decide), fun _ => ?_⟩
  refine (cl_prepare hγ hg (by decide)).mono (fun M1 ⟨f1, f2⟩ => ?_)
  refine lp_for (fun i st => st.1 = nI i ∧ (∃ v, RG (st.2 7) (setC (told S) 2 j v)) ∧ frS [6, 7, 8] C st.2 ∧ ∀ q, q < i → ¬ p_bait (told S) j q = true) 10 (by omega) ?_ ?_ (Nat.zero_le _) ⟨rfl, ⟨(told S).1 2 j, by rw [setC_self]; exact f1⟩, f2.S (by decide), fun q hq => absurd hq (Nat.not_lt_zero _)⟩
  · rintro i ⟨x, Mc⟩ hi ⟨a1, ⟨v, a2⟩, a3, a4⟩
    dsimp only at a1 a2 a3 a4 ⊢
    subst a1
    unfold fX9_bait_24
    simp only [sp_gd, sp_nm, sp_bind, sp_ite, sp_some, sp_inr]
    rw [inB_nI (by omega), nI_clamp (by omega), nI_1, il10, nI_leI (by omega) (by omega)]
    refine ⟨fun hc => absurd hc (by omega), fun _ => ⟨by omega, ?_⟩⟩
    have g2 := RG.set (j := j) (v := i) a2 (f := 2) (by omega)
    rw [setC_2] at g2
    have ok2 := okC_set (j := j) (v := i) hγ (f := 2) (by omega) (by omega)
    refine (cl_run ok2 g2).mono (fun M2 ⟨t1, t2, t3⟩ => ?_)
    have e5 : (setC (told S) 2 j i).1 5 0 = (told S).1 5 0 := setC_o (by omega)
    have e6 : (setC (told S) 2 j i).1 6 0 = (told S).1 6 0 := setC_o (by omega)
    rw [e6] at t1
    have g3 : RG (M2 7) (setC (told S) 2 j i) := by rw [t3 7 (by decide)]; exact g2
    have fr : frS [6, 7, 8] C M2 := a3.tr (frS.tr (fun o ho => wr_ob _ _ _ _ _ (fun z => ho (by rw [z]; decide))) (t3.sub (by decide)))
    have hno : ¬ p_bait (told S) j i = true → ∀ q, q < i + 1 → ¬ p_bait (told S) j q = true := fun hp q hq => by
      by_cases hqi : q = i
      · rw [hqi]; exact hp
      · exact a4 q (by omega)
    have hye : p_bait (told S) j i = true → nI i = fsA (p_bait (told S) j) 10 := fun hp => by
      have := fsA_t (by omega) a4 hp (9 - i)
      rw [show i + 1 + (9 - i) = 10 by omega] at this
      exact this.symm
    have s360 : ∀ q, q < (told S).1 5 0 → (stW (setC (told S) 2 j i) ((told S).1 6 0)).1 0 q ≤ 360 := fun q hq => st360 ok2 hn q (by rw [e5]; exact hq)
    refine (cl_hasMost h8 hj (by rw [t1.2.1, e5]) (fun q hq => (t1.1 q (by rw [e5]; exact hq)).1) s360).mono (fun z hz => ⟨fun h0 => ?_, fun h0 => ?_⟩)
    · refine ⟨rfl, ⟨i, g3⟩, fr, hno (fun hp => ?_)⟩
      rcases hz with ⟨z1, z2⟩ | ⟨z1, z2⟩
      · exact absurd (z1.symm.trans h0) (by decide)
      · exact z2 (hasB_t.mp hp)
    · refine ⟨hye ?_, fr⟩
      rcases hz with ⟨z1, z2⟩ | ⟨z1, z2⟩
      · exact hasB_t.mpr z2
      · exact absurd z1 h0
  · rintro ⟨x, Mc⟩ ⟨a1, ⟨v, a2⟩, a3, a4⟩
    dsimp only at a1 a2 a3 a4 ⊢
    subst a1
    unfold fX9_bait_24
    simp only [sp_gd, sp_nm, sp_bind, sp_ite, sp_some, sp_inr]
    rw [il10, nI_leI (by omega) (by omega)]
    exact ⟨fun _ => ⟨(fsA_f 10 a4).symm, a3⟩, fun hc => absurd (Nat.le_refl _) hc⟩
theorem fsA_c {p : Nat → Bool} : ∀ n, n ≤ 20 → fsA p n = -1 ∨ ∃ i, i < n ∧ fsA p n = nI i
  | 0, _ => Or.inl rfl
  | n + 1, h => by
    rw [fsA]
    rcases fsA_c n (by omega) with e | ⟨i, hi, e⟩
    · rw [if_pos e]
      split
      · exact Or.inr ⟨n, by omega, rfl⟩
      · exact Or.inl rfl
    · rw [e, if_neg (nI_ne_m1 (by omega))]
      exact Or.inr ⟨i, by omega, rfl⟩
theorem md_baitOf {R : Mem} {S : St} (hS : okS S) (hR : RR R S) {j : Nat} (hj : j < (told S).1 5 0) : Sp (fX10_baitOf R (nI j)) (fun z => z.1 = fsA (p_bait (told S) j) 10 ∧ frM SL R z.2) := by
  have hγ := okC_told hS
  have h8 := hγ.1
  have hn := hγ.2.1
  unfold fX10_baitOf
  simp only [sp_gd, sp_nm, sp_bind, sp_ite, sp_some, sp_inr]
  refine (md_asTold hS hR).mono (fun R1 ⟨m1, m2, f1⟩ => ?_)
  rw [inB_nI (by omega)]
  refine ⟨by omega, ?_⟩
  have stop : ∀ (x2 x3 : Int32) (M : Mem), frM SL R M → x3 = fsA (p_bait (told S) j) 10 → Sp (fX10_baitOf_61 (nI j) x2 x3 M) (fun z => z.1 = fsA (p_bait (told S) j) 10 ∧ frM SL R z.2) := by
    intro x2 x3 M hM e
    unfold fX10_baitOf_61
    simp only [sp_gd, sp_nm, sp_bind, sp_ite, sp_some, sp_inr]
    rw [inB_nI (by omega)]
    exact ⟨by omega, e, hM.w _ _ _ (by decide)⟩
  refine lp_for (fun i st => st.2.2.1 = nI i ∧ st.2.1 = fsA (p_bait (told S) j) i ∧ (∃ v, MG st.2.2.2 (setC (told S) 2 j v)) ∧ frM SL R st.2.2.2) 10 (by omega) ?_ ?_ (Nat.zero_le _) ⟨rfl, rfl, ⟨(told S).1 2 j, by rw [setC_self]; exact m1⟩, f1⟩
  · rintro i ⟨x2, x3, x4, Mc⟩ hi ⟨a1, a2, ⟨v, a3⟩, a4⟩
    dsimp only at a1 a2 a3 a4 ⊢
    subst a1
    unfold fX10_baitOf_16 fX10_baitOf_54
    simp only [sp_gd, sp_nm, sp_bind, sp_ite, sp_some, sp_inr]
    rw [il10, nI_leI (by omega) (by omega), inB_nI (by omega), nI_clamp (by omega), nI_1]
    refine ⟨fun hc => absurd hc (by omega), fun _ => ⟨fun hx => ⟨by omega, ?_⟩, fun hx => ?_⟩⟩
    · have g2 := MG.set (j := j) (v := i) a3 (f := 2) (by omega)
      rw [setC_2] at g2
      have ok2 := okC_set (j := j) (v := i) hγ (f := 2) (by omega) (by omega)
      refine (md_runs ok2 g2).mono (fun M2 ⟨⟨t1, t2, _⟩, t3⟩ => ?_)
      have e5 : (setC (told S) 2 j i).1 5 0 = (told S).1 5 0 := setC_o (by omega)
      have e6 : (setC (told S) 2 j i).1 6 0 = (told S).1 6 0 := setC_o (by omega)
      rw [e6] at t2
      have fr : frM SL R M2 := (a4.w (3 + 2) j (nI i) (by decide)).tr (t3.sub RuL_SL)
      have ey : p_bait (told S) j i = true → nI i = fsA (p_bait (told S) j) (i + 1) := fun hp => by
        rw [fsA, if_pos (a2.symm.trans hx), if_pos hp]
      have en : ¬ p_bait (told S) j i = true → (-1 : Int32) = fsA (p_bait (told S) j) (i + 1) := fun hp => by
        rw [fsA, if_pos (a2.symm.trans hx), if_neg hp]
      have s360 : ∀ q, q < (told S).1 5 0 → (stW (setC (told S) 2 j i) ((told S).1 6 0)).1 0 q ≤ 360 := fun q hq => st360 ok2 hn q (by rw [e5]; exact hq)
      refine (md_isFirst h8 hj (by rw [t1.1, e5]) (fun q hq => (t2.1 q (by rw [e5]; exact hq)).1) s360).mono (fun z hz => ⟨fun h0 => ?_, fun h0 => ?_⟩)
      · refine ⟨rfl, en (fun hp => ?_), ⟨i, t1⟩, fr⟩
        rcases hz with ⟨z1, z2⟩ | ⟨z1, z2⟩
        · exact absurd (z1.symm.trans h0) (by decide)
        · exact z2 (hasB_t.mp hp)
      · refine ⟨rfl, ey ?_, ⟨i, t1⟩, fr⟩
        rcases hz with ⟨z1, z2⟩ | ⟨z1, z2⟩
        · exact hasB_t.mpr z2
        · exact absurd z1 h0
    · refine (stop x2 x3 Mc a4 ?_).mono (fun z hz => hz)
      rcases fsA_c (p := p_bait (told S) j) i (by omega) with e | ⟨q, hq, e⟩
      · exact absurd (a2.trans e) hx
      · have hst : ∀ d, fsA (p_bait (told S) j) (i + d) = fsA (p_bait (told S) j) i := by
          intro d
          induction d with
          | zero => rfl
          | succ d ih => rw [show i + (d + 1) = (i + d) + 1 by omega, fsA, ih, if_neg (fun z => hx (a2.trans z))]
        rw [a2, ← hst (10 - i), show i + (10 - i) = 10 by omega]
  · rintro ⟨x2, x3, x4, Mc⟩ ⟨a1, a2, a3, a4⟩
    dsimp only at a1 a2 a3 a4 ⊢
    subst a1
    unfold fX10_baitOf_16
    simp only [sp_gd, sp_nm, sp_bind, sp_ite, sp_some, sp_inr]
    rw [il10, nI_leI (by omega) (by omega)]
    exact ⟨fun _ => (stop x2 x3 Mc a4 a2).mono (fun z hz => hz), fun hc => absurd (Nat.le_refl _) hc⟩
theorem op_bait {C R : Mem} (h : Rel C R) (a : Int32) : ∃ (r : Int32) (C' R' : Mem), fX9_bait C a = some (r, C') ∧ fX10_bait R a = some (r, R') ∧ Rel C' R' := by
  obtain ⟨S, hS, hC, hR⟩ := h
  have h8 := (okC_told hS).1
  have hg := hC.2.1.1
  rcases ixI a (n := (told S).1 5 0) (by omega) with ha | ⟨j, hj, rfl⟩
  · refine op_rw (S' := S) (r := -2) hS ?_ ?_
    · unfold fX9_bait
      simp only [sp_gd, sp_nm, sp_bind, sp_ite, sp_some, sp_inr]
      exact Sp.of (h_0 hg.2.2.2.1 ha) ⟨fun _ => ⟨(by trivial), hC⟩, fun z => absurd rfl z⟩
    · unfold fX10_bait
      simp only [sp_gd, sp_nm, sp_bind, sp_ite, sp_some, sp_inr]
      exact (md_isHeir0 hS hR ha).mono (fun z ⟨z1, z2, z3⟩ => ⟨fun _ => ⟨(by trivial), hR.fr z3⟩, fun q => absurd z1 q⟩)
  · refine op_rw (S' := S) hS ((cl_bait hS hC hj).mono (fun z ⟨z1, z2⟩ => ⟨z1, hC.trial z2⟩)) ?_
    unfold fX10_bait
    simp only [sp_gd, sp_nm, sp_bind, sp_ite, sp_some, sp_inr]
    refine (md_isHeir1 hS hR hj).mono (fun z ⟨z1, z2, z3⟩ => ⟨fun q => absurd (z1.symm.trans q) (by decide), fun _ => ?_⟩)
    exact (md_baitOf hS (hR.fr z3) hj).mono (fun y ⟨y1, y2⟩ => ⟨y1, hR.fr (z3.tr y2)⟩)
theorem cl_care {C : Mem} {S : St} (hS : okS S) (hC : RC C S) {j : Nat} (hj : j < (told S).1 5 0) : Sp (fX9_care C (nI j)) (fun z => z.1 = fsA (p_care (told S) j) 10 ∧ frS [6, 7, 8] C z.2) := by
  have hγ := okC_told hS
  have h8 := hγ.1
  have hn := hγ.2.1
  have hg := hC.2.1.1
  unfold fX9_care
  simp only [sp_gd, sp_nm, sp_bind, sp_ite, sp_some, sp_inr]
  refine Sp.of (h_1 hg.2.2.2.1 hj (by omega)) ⟨fun z => absurd z (by decide), fun _ => ?_⟩
  refine (cl_prepare hγ hg (by decide)).mono (fun M1 ⟨f1, f2⟩ => ?_)
  refine lp_for (fun i st => st.1 = nI i ∧ (∃ v, RG (st.2 7) (setC (told S) 1 j v)) ∧ frS [6, 7, 8] C st.2 ∧ ∀ q, q < i → ¬ p_care (told S) j q = true) 10 (by omega) ?_ ?_ (Nat.zero_le _) ⟨rfl, ⟨(told S).1 1 j, by rw [setC_self]; exact f1⟩, f2.S (by decide), fun q hq => absurd hq (Nat.not_lt_zero _)⟩
  · rintro i ⟨x, Mc⟩ hi ⟨a1, ⟨v, a2⟩, a3, a4⟩
    dsimp only at a1 a2 a3 a4 ⊢
    subst a1
    unfold fX9_care_24
    simp only [sp_gd, sp_nm, sp_bind, sp_ite, sp_some, sp_inr]
    rw [inB_nI (by omega), nI_clamp (by omega), nI_1, il10, nI_leI (by omega) (by omega)]
    refine ⟨fun hc => absurd hc (by omega), fun _ => ⟨by omega, ?_⟩⟩
    have g2 := RG.set (j := j) (v := i) a2 (f := 1) (by omega)
    rw [setC_2] at g2
    have ok2 := okC_set (j := j) (v := i) hγ (f := 1) (by omega) (by omega)
    refine (cl_run ok2 g2).mono (fun M2 ⟨t1, t2, t3⟩ => ?_)
    have e5 : (setC (told S) 1 j i).1 5 0 = (told S).1 5 0 := setC_o (by omega)
    have e6 : (setC (told S) 1 j i).1 6 0 = (told S).1 6 0 := setC_o (by omega)
    rw [e6] at t1
    have g3 : RG (M2 7) (setC (told S) 1 j i) := by rw [t3 7 (by decide)]; exact g2
    have fr : frS [6, 7, 8] C M2 := a3.tr (frS.tr (fun o ho => wr_ob _ _ _ _ _ (fun z => ho (by rw [z]; decide))) (t3.sub (by decide)))
    have hno : ¬ p_care (told S) j i = true → ∀ q, q < i + 1 → ¬ p_care (told S) j q = true := fun hp q hq => by
      by_cases hqi : q = i
      · rw [hqi]; exact hp
      · exact a4 q (by omega)
    have hye : p_care (told S) j i = true → nI i = fsA (p_care (told S) j) 10 := fun hp => by
      have := fsA_t (by omega) a4 hp (9 - i)
      rw [show i + 1 + (9 - i) = 10 by omega] at this
      exact this.symm
    refine Sp.of cl_isOut ?_
    rw [t1.2.2.1]
    by_cases ho : isO (stW (setC (told S) 1 j i) ((told S).1 6 0)).2 j
    · rw [if_pos ho]
      exact ⟨fun z => absurd z (by decide), fun _ => ⟨rfl, ⟨i, g3⟩, fr, hno (fun hp => p_care_t.mp hp ho)⟩⟩
    · rw [if_neg ho]
      exact ⟨fun _ => ⟨hye (p_care_t.mpr ho), fr⟩, fun z => absurd rfl z⟩
  · rintro ⟨x, Mc⟩ ⟨a1, ⟨v, a2⟩, a3, a4⟩
    dsimp only at a1 a2 a3 a4 ⊢
    subst a1
    unfold fX9_care_24
    simp only [sp_gd, sp_nm, sp_bind, sp_ite, sp_some, sp_inr]
    rw [il10, nI_leI (by omega) (by omega)]
    exact ⟨fun _ => ⟨(fsA_f 10 a4).symm, a3⟩, fun hc => absurd (Nat.le_refl _) hc⟩
theorem md_careOf {R : Mem} {S : St} (hS : okS S) (hR : RR R S) {j : Nat} (hj : j < (told S).1 5 0) : Sp (fX10_careOf R (nI j)) (fun z => z.1 = fsA (p_care (told S) j) 10 ∧ frM SL R z.2) := by
  have hγ := okC_told hS
  have h8 := hγ.1
  have hn := hγ.2.1
  unfold fX10_careOf
  simp only [sp_gd, sp_nm, sp_bind, sp_ite, sp_some, sp_inr]
  refine (md_asTold hS hR).mono (fun R1 ⟨m1, m2, f1⟩ => ?_)
  rw [inB_nI (by omega)]
  refine ⟨by omega, ?_⟩
  have stop : ∀ (x2 x3 : Int32) (M : Mem), frM SL R M → x3 = fsA (p_care (told S) j) 10 → Sp (fX10_careOf_64 (nI j) x2 x3 M) (fun z => z.1 = fsA (p_care (told S) j) 10 ∧ frM SL R z.2) := by
    intro x2 x3 M hM e
    unfold fX10_careOf_64
    simp only [sp_gd, sp_nm, sp_bind, sp_ite, sp_some, sp_inr]
    rw [inB_nI (by omega)]
    exact ⟨by omega, e, hM.w _ _ _ (by decide)⟩
  refine lp_for (fun i st => st.2.2.1 = nI i ∧ st.2.1 = fsA (p_care (told S) j) i ∧ (∃ v, MG st.2.2.2 (setC (told S) 1 j v)) ∧ frM SL R st.2.2.2) 10 (by omega) ?_ ?_ (Nat.zero_le _) ⟨rfl, rfl, ⟨(told S).1 1 j, by rw [setC_self]; exact m1⟩, f1⟩
  · rintro i ⟨x2, x3, x4, Mc⟩ hi ⟨a1, a2, ⟨v, a3⟩, a4⟩
    dsimp only at a1 a2 a3 a4 ⊢
    subst a1
    unfold fX10_careOf_16 fX10_careOf_57
    simp only [sp_gd, sp_nm, sp_bind, sp_ite, sp_some, sp_inr]
    rw [il10, nI_leI (by omega) (by omega), inB_nI (by omega), nI_clamp (by omega), nI_1]
    refine ⟨fun hc => absurd hc (by omega), fun _ => ⟨fun hx => ⟨by omega, ?_⟩, fun hx => ?_⟩⟩
    · have g2 := MG.set (j := j) (v := i) a3 (f := 1) (by omega)
      rw [setC_2] at g2
      have ok2 := okC_set (j := j) (v := i) hγ (f := 1) (by omega) (by omega)
      refine (md_runs ok2 g2).mono (fun M2 ⟨⟨t1, t2, _⟩, t3⟩ => ?_)
      have e5 : (setC (told S) 1 j i).1 5 0 = (told S).1 5 0 := setC_o (by omega)
      have e6 : (setC (told S) 1 j i).1 6 0 = (told S).1 6 0 := setC_o (by omega)
      rw [e6] at t2
      have fr : frM SL R M2 := (a4.w (3 + 1) j (nI i) (by decide)).tr (t3.sub RuL_SL)
      have ey : p_care (told S) j i = true → nI i = fsA (p_care (told S) j) (i + 1) := fun hp => by
        rw [fsA, if_pos (a2.symm.trans hx), if_pos hp]
      have en : ¬ p_care (told S) j i = true → (-1 : Int32) = fsA (p_care (told S) j) (i + 1) := fun hp => by
        rw [fsA, if_pos (a2.symm.trans hx), if_neg hp]
      refine Sp.of md_isIn ?_
      rw [t2.2.1]
      by_cases ho : isO (stW (setC (told S) 1 j i) ((told S).1 6 0)).2 j
      · rw [if_pos ho]
        exact ⟨fun z => absurd z (by decide), fun _ => ⟨rfl, en (fun hp => p_care_t.mp hp ho), ⟨i, t1⟩, fr⟩⟩
      · rw [if_neg ho]
        exact ⟨fun _ => ⟨rfl, ey (p_care_t.mpr ho), ⟨i, t1⟩, fr⟩, fun z => absurd rfl z⟩
    · refine (stop x2 x3 Mc a4 ?_).mono (fun z hz => hz)
      rcases fsA_c (p := p_care (told S) j) i (by omega) with e | ⟨q, hq, e⟩
      · exact absurd (a2.trans e) hx
      · have hst : ∀ d, fsA (p_care (told S) j) (i + d) = fsA (p_care (told S) j) i := by
          intro d
          induction d with
          | zero => rfl
          | succ d ih => rw [show i + (d + 1) = (i + d) + 1 by omega, fsA, ih, if_neg (fun z => hx (a2.trans z))]
        rw [a2, ← hst (10 - i), show i + (10 - i) = 10 by omega]
  · rintro ⟨x2, x3, x4, Mc⟩ ⟨a1, a2, a3, a4⟩
    dsimp only at a1 a2 a3 a4 ⊢
    subst a1
    unfold fX10_careOf_16
    simp only [sp_gd, sp_nm, sp_bind, sp_ite, sp_some, sp_inr]
    rw [il10, nI_leI (by omega) (by omega)]
    exact ⟨fun _ => (stop x2 x3 Mc a4 a2).mono (fun z hz => hz), fun hc => absurd (Nat.le_refl _) hc⟩
theorem op_care {C R : Mem} (h : Rel C R) (a : Int32) : ∃ (r : Int32) (C' R' : Mem), fX9_care C a = some (r, C') ∧ fX10_care R a = some (r, R') ∧ Rel C' R' := by
  obtain ⟨S, hS, hC, hR⟩ := h
  have h8 := (okC_told hS).1
  have hg := hC.2.1.1
  rcases ixI a (n := (told S).1 5 0) (by omega) with ha | ⟨j, hj, rfl⟩
  · refine op_rw (S' := S) (r := -2) hS ?_ ?_
    · unfold fX9_care
      simp only [sp_gd, sp_nm, sp_bind, sp_ite, sp_some, sp_inr]
      exact Sp.of (h_0 hg.2.2.2.1 ha) ⟨fun _ => ⟨(by trivial), hC⟩, fun z => absurd rfl z⟩
    · unfold fX10_care
      simp only [sp_gd, sp_nm, sp_bind, sp_ite, sp_some, sp_inr]
      exact (md_isHeir0 hS hR ha).mono (fun z ⟨z1, z2, z3⟩ => ⟨fun _ => ⟨(by trivial), hR.fr z3⟩, fun q => absurd z1 q⟩)
  · refine op_rw (S' := S) hS ((cl_care hS hC hj).mono (fun z ⟨z1, z2⟩ => ⟨z1, hC.trial z2⟩)) ?_
    unfold fX10_care
    simp only [sp_gd, sp_nm, sp_bind, sp_ite, sp_some, sp_inr]
    refine (md_isHeir1 hS hR hj).mono (fun z ⟨z1, z2, z3⟩ => ⟨fun q => absurd (z1.symm.trans q) (by decide), fun _ => ?_⟩)
    exact (md_careOf hS (hR.fr z3) hj).mono (fun y ⟨y1, y2⟩ => ⟨y1, hR.fr (z3.tr y2)⟩)
