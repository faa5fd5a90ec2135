/-- the reference holds the first m stops -/
def MH (R : Mem) (γ : Cfg) (m : Nat) : Prop := (∀ k, k < m → R 0 24 k = nI ((stW γ (k + 1)).1 8 0) ∧ R 0 25 k = nI ((stW γ (k + 1)).1 9 0) ∧ R 0 26 k = nI ((stW γ k).1 5 0) ∧ R 0 27 k = nI ((stW γ (k + 1)).1 10 0)) ∧ (∀ k, k ≤ m → ∀ i, i < γ.1 5 0 → R 0 28 (8 * k + i) = nI ((stW γ k).1 0 i) ∧ R 0 29 (8 * k + i) = nI ((stW γ k).1 1 i) ∧ R 0 30 (8 * k + i) = nI ((stW γ k).1 2 i))
/-- the reference holds the walk behind m stops, and all ahead of it -/
def MI (R : Mem) (γ : Cfg) (m : Nat) : Prop := MG R γ ∧ MW R γ (stW γ m) ∧ MH R γ m ∧ R 0 18 0 = (lngA γ m).1 ∧ R 0 19 0 = nI (lngA γ m).2
abbrev RuL : List Nat := [15, 16, 17, 18, 19, 20, 21, 22, 23, 24, 25, 26, 27, 28, 29, 30]
theorem MG.frRL {R R' : Mem} {γ : Cfg} (h : MG R γ) (e : frM RuL R R') : MG R' γ := h.fr (fun f hf => e f (by rcases hf with rfl | rfl | rfl | rfl | rfl | rfl | rfl | rfl | rfl <;> decide))
theorem lngA_S (γ : Cfg) (k : Nat) : lngA γ (k + 1) = lgS k ((stW γ (k + 1)).1 11 0) (lngA γ k) := by
  rw [lngA]; rfl
theorem md_163 {R M : Mem} {γ : Cfg} {i : Nat} {w' : Wk} (hγ : okC γ) (hi : i < γ.1 6 0) (hst : stW γ (i + 1) = hUp w') (hM : MG M γ) (hw : MW M γ w') (h5 : w'.1 5 0 ≤ 9) (hfr : frM RuL R M) (hh : ∀ k, k < i → M 0 24 k = nI ((stW γ (k + 1)).1 8 0) ∧ M 0 25 k = nI ((stW γ (k + 1)).1 9 0) ∧ M 0 26 k = nI ((stW γ k).1 5 0) ∧ M 0 27 k = nI ((stW γ (k + 1)).1 10 0)) (h24 : M 0 24 i = nI (w'.1 8 0)) (h25 : M 0 25 i = nI (w'.1 9 0)) (h26 : M 0 26 i = nI ((stW γ i).1 5 0)) (h27 : M 0 27 i = nI (w'.1 10 0)) (hs : ∀ k, k ≤ i → ∀ q, q < γ.1 5 0 → M 0 28 (8 * k + q) = nI ((stW γ k).1 0 q) ∧ M 0 29 (8 * k + q) = nI ((stW γ k).1 1 q) ∧ M 0 30 (8 * k + q) = nI ((stW γ k).1 2 q)) (h18 : M 0 18 0 = (lngA γ (i + 1)).1) (h19 : M 0 19 0 = nI (lngA γ (i + 1)).2) {P : Mem → Prop} : Sp (fX10_runs_163 (nI i) M) (lpP (fun st => st.1 = nI (i + 1) ∧ MI st.2 γ (i + 1) ∧ frM RuL R st.2) P) := by
  have h8 := hγ.1
  have hn := hγ.2.1
  have k182 : ∀ v : Nat, w'.1 5 0 + v = (stW γ (i + 1)).1 5 0 → Sp (fX10_runs_182 (nI i) (nI v) (nI (w'.1 5 0)) M) (lpP (fun st => st.1 = nI (i + 1) ∧ MI st.2 γ (i + 1) ∧ frM RuL R st.2) P) := by
    intro v hv
    unfold fX10_runs_182
    simp only [sp_gd, sp_nm, sp_bind, sp_ite, sp_some, sp_inr]
    rw [nI_add, hv, nI_1]
    obtain ⟨M1, hM1⟩ : ∃ M1, M1 = wr M 0 15 0 (nI ((stW γ (i + 1)).1 5 0)) := ⟨_, rfl⟩
    rw [← hM1]
    have m1 : ∀ f, f ≠ 15 → M1 0 f = M 0 f := fun f hf => by rw [hM1, wr_row _ _ _ _ _ (fun z => hf z.2)]
    have m15 : M1 0 15 0 = nI ((stW γ (i + 1)).1 5 0) := by rw [hM1, wr_ap]; simp
    refine (md_keepsAt (k := i + 1) h8 (by omega) (by rw [m1 2 (by decide)]; exact hM.1)).mono (fun R' ⟨f1, f2, f3⟩ => ?_)
    have hfr1 : frM RuL M R' := fun f hf => by
      rw [f1 f (fun z => hf ((show ∀ x, x ∈ [28, 29, 30] → x ∈ RuL by decide) f z)), m1 f (fun z => hf (by rw [z]; decide))]
    have hfin : MW R' γ (stW γ (i + 1)) := by
      obtain ⟨w1, w3, w4, w5, w6⟩ := hw
      refine ⟨fun q hq => ?_, ?_, ?_, ?_, ?_⟩
      · rw [f1 20 (by decide), f1 21 (by decide), f1 22 (by decide), m1 20 (by decide), m1 21 (by decide), m1 22 (by decide), hst]
        exact w1 q hq
      · rw [f1 23 (by decide), m1 23 (by decide), hst]; exact w3
      · rw [f1 15 (by decide)]; exact m15
      · rw [f1 16 (by decide), m1 16 (by decide), hst]; exact w5
      · rw [f1 17 (by decide), m1 17 (by decide), hst]; exact w6
    refine ⟨rfl, ⟨hM.frRL hfr1, hfin, ⟨fun k hk => ?_, fun k hk q hq => ?_⟩, ?_, ?_⟩, hfr.tr hfr1⟩
    · dsimp only
      rw [f1 24 (by decide), f1 25 (by decide), f1 26 (by decide), f1 27 (by decide), m1 24 (by decide), m1 25 (by decide), m1 26 (by decide), m1 27 (by decide)]
      by_cases hki : k = i
      · subst hki
        rw [h24, h25, h26, h27, hst]
        exact ⟨rfl, rfl, rfl, rfl⟩
      · exact hh k (by omega)
    · dsimp only
      by_cases hki : k = i + 1
      · subst hki
        obtain ⟨a1, a2, a3⟩ := f2 q hq
        rw [a1, a2, a3, m1 20 (by decide), m1 21 (by decide), m1 22 (by decide), hst]
        exact hw.1 q hq
      · obtain ⟨a1, a2, a3⟩ := f3 (8 * k + q) (by omega)
        rw [a1, a2, a3, m1 28 (by decide), m1 29 (by decide), m1 30 (by decide)]
        exact hs k (by omega) q hq
    · dsimp only
      rw [f1 18 (by decide), m1 18 (by decide)]; exact h18
    · dsimp only
      rw [f1 19 (by decide), m1 19 (by decide)]; exact h19
  have e5 : (stW γ (i + 1)).1 5 0 = min (w'.1 5 0 + 1) 9 := by rw [hst]; rfl
  unfold fX10_runs_163
  simp only [sp_gd, sp_nm, sp_bind, sp_ite, sp_some, sp_inr]
  rw [show M 0 15 0 = nI (w'.1 5 0) from hw.2.2.1, il9, nI_leI (by omega) (by omega)]
  exact ⟨fun h9 => k182 0 (by omega), fun h9 => k182 1 (by omega)⟩
theorem md_84 {R M : Mem} {γ : Cfg} {i : Nat} (hγ : okC γ) (hi : i < γ.1 6 0) (hI : MI M γ i) (hfr : frM RuL R M) {P : Mem → Prop} : Sp (fX10_runs_84 (nI i) M) (lpP (fun st => st.1 = nI (i + 1) ∧ MI st.2 γ (i + 1) ∧ frM RuL R st.2) P) := by
  have h8 := hγ.1
  have hn := hγ.2.1
  obtain ⟨hM, hw, ⟨hh1, hh2⟩, h18, h19⟩ := hI
  have hb := Bd_st hγ i
  have hl := lngA_le hγ i
  have hM' := hM
  obtain ⟨g1, g2, g3, g4, g5, g6, g7⟩ := hM'
  have hj : γ.1 4 i < 8 := hγ.2.2.2.2.2.2.2 i hi
  unfold fX10_runs_84
  simp only [sp_gd, sp_nm, sp_bind, sp_ite, sp_some, sp_inr]
  rw [g4, nI_leI (by omega) (by omega), inB_nI (by omega), nI_clamp (by omega), g5 i hi]
  obtain ⟨MA, hMA⟩ : ∃ MA, MA = wr (wr (wr (wr M 0 24 i 0) 0 25 i 0) 0 26 i ((wr (wr M 0 24 i 0) 0 25 i 0) 0 15 0)) 0 27 i 0 := ⟨_, rfl⟩
  rw [← hMA]
  have mA : ∀ f, f ≠ 24 → f ≠ 25 → f ≠ 26 → f ≠ 27 → MA 0 f = M 0 f := fun f n1 n2 n3 n4 => by rw [hMA, wr_row _ _ _ _ _ (fun z => n4 z.2), wr_row _ _ _ _ _ (fun z => n3 z.2), wr_row _ _ _ _ _ (fun z => n2 z.2), wr_row _ _ _ _ _ (fun z => n1 z.2)]
  have a15 : (wr (wr M 0 24 i 0) 0 25 i 0) 0 15 0 = nI ((stW γ i).1 5 0) := by rw [wr_row _ _ _ _ _ (by decide), wr_row _ _ _ _ _ (by decide)]; exact hw.2.2.1
  have aH : ∀ k, MA 0 24 k = (if k = i then nI 0 else M 0 24 k) ∧ MA 0 25 k = (if k = i then nI 0 else M 0 25 k) ∧ MA 0 26 k = (if k = i then nI ((stW γ i).1 5 0) else M 0 26 k) ∧ MA 0 27 k = (if k = i then nI 0 else M 0 27 k) := by
    intro k
    rw [hMA, a15]
    simp [wr_ap, il0]
  have frA : frM RuL R MA := fun f hf => by
    rw [mA f (fun z => hf (by rw [z]; decide)) (fun z => hf (by rw [z]; decide)) (fun z => hf (by rw [z]; decide)) (fun z => hf (by rw [z]; decide))]
    exact hfr f hf
  have hMA2 : MG MA γ := hM.fr (fun f hf => mA f (by omega) (by omega) (by omega) (by omega))
  have hwA : MW MA γ (stW γ i) := by
    obtain ⟨w1, w3, w4, w5, w6⟩ := hw
    refine ⟨fun q hq => ?_, ?_, ?_, ?_, ?_⟩
    · rw [mA 20 (by decide) (by decide) (by decide) (by decide), mA 21 (by decide) (by decide) (by decide) (by decide), mA 22 (by decide) (by decide) (by decide) (by decide)]; exact w1 q hq
    · rw [mA 23 (by decide) (by decide) (by decide) (by decide)]; exact w3
    · rw [mA 15 (by decide) (by decide) (by decide) (by decide)]; exact w4
    · rw [mA 16 (by decide) (by decide) (by decide) (by decide)]; exact w5
    · rw [mA 17 (by decide) (by decide) (by decide) (by decide)]; exact w6
  have hpass : stW γ (i + 1) = hUp (mPass (stW γ i)) → Sp (fX10_runs_163 (nI i) MA) (lpP (fun st => st.1 = nI (i + 1) ∧ MI st.2 γ (i + 1) ∧ frM RuL R st.2) P) := by
    intro hst
    have hg0 : lngA γ (i + 1) = lngA γ i := by
      rw [lngA_S, hst]
      show lgS i 0 _ = _
      unfold lgS
      rw [if_neg (Nat.not_lt_zero _)]
    refine md_163 (w' := mPass (stW γ i)) hγ hi hst hMA2 hwA hb.1 frA (fun k hk => ?_) ?_ ?_ ?_ ?_ (fun k hk q hq => ?_) ?_ ?_
    · obtain ⟨a1, a2, a3, a4⟩ := aH k
      have hne : k ≠ i := by omega
      rw [a1, a2, a3, a4, if_neg hne, if_neg hne, if_neg hne, if_neg hne]
      exact hh1 k hk
    · rw [(aH i).1, if_pos rfl]; rfl
    · rw [(aH i).2.1, if_pos rfl]; rfl
    · rw [(aH i).2.2.1, if_pos rfl]
    · rw [(aH i).2.2.2, if_pos rfl]; rfl
    · rw [mA 28 (by decide) (by decide) (by decide) (by decide), mA 29 (by decide) (by decide) (by decide) (by decide), mA 30 (by decide) (by decide) (by decide) (by decide)]
      exact hh2 k hk q hq
    · rw [mA 18 (by decide) (by decide) (by decide) (by decide), hg0]; exact h18
    · rw [mA 19 (by decide) (by decide) (by decide) (by decide), hg0]; exact h19
  rw [show MA 0 2 0 = nI (γ.1 5 0) from hMA2.1, nI_leI (by omega) (by omega), show MA 0 14 0 = γ.2.2 from hMA2.2.2.2.2.2.2, show MA 0 23 0 = (stW γ i).2 from hwA.2.1]
  have hvW : stW γ (i + 1) = vW γ i (γ.1 4 i) (stW γ i) := rfl
  refine ⟨fun hc => absurd hc (by omega), fun _ => ⟨by omega, by omega, by omega, by omega, by omega, fun hc => ?_, fun hc => ⟨fun hs => ?_, fun hs => ?_⟩⟩⟩
  · exact hpass (by rw [hvW]; unfold vW; rw [if_neg (fun z => by omega)])
  · exact hpass (by rw [hvW]; unfold vW; rw [if_neg (fun z => z.2.1 hs)])
  · refine Sp.of md_isIn ?_
    by_cases ho : isO (stW γ i).2 (γ.1 4 i)
    · rw [if_pos ho]
      refine ⟨fun z => absurd z (by decide), fun _ => ?_⟩
      exact hpass (by rw [hvW]; unfold vW; rw [if_neg (fun z => z.2.2 ho)])
    · rw [if_neg ho]
      refine ⟨fun _ => ?_, fun z => absurd rfl z⟩
      have hjh : γ.1 4 i < γ.1 5 0 := by omega
      have hst : stW γ (i + 1) = hUp (mW γ i (γ.1 4 i) (stW γ i)) := by rw [hvW]; unfold vW; rw [if_pos ⟨hjh, hs, ho⟩]
      refine (md_visits (u := lngA γ i) hγ hMA2 hwA hb (by omega) hjh (by rw [(aH i).2.1, if_pos rfl]) (by rw [mA 18 (by decide) (by decide) (by decide) (by decide)]; exact h18) (by rw [mA 19 (by decide) (by decide) (by decide) (by decide)]; exact h19) hl).mono (fun R' ⟨f1, f2, f3, f4, f5, f6, f7, f8⟩ => ?_)
      have f7' : frM RuL MA R' := f7.sub (by decide)
      refine md_163 (w' := mW γ i (γ.1 4 i) (stW γ i)) hγ hi hst (hMA2.frRL f7') f1 (Bd_mW hγ hjh hb).1 (frA.tr f7') (fun k hk => ?_) f2 f3 ?_ f4 (fun k hk q hq => ?_) ?_ ?_
      · obtain ⟨a1, a2, a3, a4⟩ := aH k
        have hne : k ≠ i := by omega
        obtain ⟨t1, t2, t3⟩ := f8 k hne
        rw [t1, t2, t3, f7 26 (by decide), a1, a2, a3, a4, if_neg hne, if_neg hne, if_neg hne, if_neg hne]
        exact hh1 k hk
      · rw [f7 26 (by decide), (aH i).2.2.1, if_pos rfl]
      · rw [f7 28 (by decide), f7 29 (by decide), f7 30 (by decide), mA 28 (by decide) (by decide) (by decide) (by decide), mA 29 (by decide) (by decide) (by decide) (by decide), mA 30 (by decide) (by decide) (by decide) (by decide)]
        exact hh2 k hk q hq
      · rw [lngA_S, hst]; exact f5
      · rw [lngA_S, hst]; exact f6
theorem md_runs {R : Mem} {γ : Cfg} (hγ : okC γ) (hg : MG R γ) : Sp (fX10_runs R) (fun R' => MI R' γ (γ.1 6 0) ∧ frM RuL R R') := by
  have h8 := hγ.1
  have hn := hγ.2.1
  have hg' := hg
  obtain ⟨g1, g2, g3, g4, g5, g6, g7⟩ := hg'
  unfold fX10_runs
  simp only [sp_gd, sp_nm, sp_bind, sp_ite, sp_some, sp_inr]
  refine lp_for (fun i st => st.1 = nI i ∧ frM [20, 21, 22] R st.2 ∧ ∀ q, q < i → st.2 0 20 q = nI 0 ∧ st.2 0 21 q = nI 0 ∧ st.2 0 22 q = nI (γ.1 2 q)) (γ.1 5 0) (by omega) ?_ ?_ (Nat.zero_le _) ⟨rfl, frM.rf, fun q hq => absurd hq (Nat.not_lt_zero _)⟩
  · rintro i ⟨x, Mc⟩ hi ⟨h1, h2, h3⟩
    dsimp only at h1 h2 h3 ⊢
    subst h1
    unfold fX10_runs_2
    simp only [sp_gd, sp_nm, sp_bind, sp_ite, sp_some, sp_inr]
    have e5 : (wr (wr Mc 0 20 i 0) 0 21 i 0) 0 5 i = nI (γ.1 2 i) := by rw [wr_row _ _ _ _ _ (by decide), wr_row _ _ _ _ _ (by decide), h2 5 (by decide)]; exact (g2 i hi).2.2
    rw [show Mc 0 2 0 = nI (γ.1 5 0) by rw [h2 2 (by decide)]; exact g1, nI_leI (by omega) (by omega), inB_nI (by omega), inB_nI (by omega), nI_clamp (by omega), e5, nI_1]
    refine ⟨fun hc => absurd hc (by omega), fun _ => ⟨by omega, by omega, by omega, by omega, rfl, ((h2.w _ _ _ (by decide)).w _ _ _ (by decide)).w _ _ _ (by decide), fun q hq => ?_⟩⟩
    simp only [wr_ap]
    by_cases hqi : q = i
    · simp [hqi, il0]
    · simp [hqi]
      exact h3 q (by omega)
  · rintro ⟨x, Mc⟩ ⟨h1, h2, h3⟩
    dsimp only at h1 h2 h3 ⊢
    subst h1
    unfold fX10_runs_2
    simp only [sp_gd, sp_nm, sp_bind, sp_ite, sp_some, sp_inr]
    rw [show Mc 0 2 0 = nI (γ.1 5 0) by rw [h2 2 (by decide)]; exact g1, nI_leI (by omega) (by omega)]
    refine ⟨fun _ => ?_, fun hc => absurd (Nat.le_refl _) hc⟩
    show Sp (fX10_runs_42 Mc) (fun R' => MI R' γ (γ.1 6 0) ∧ frM RuL R R')
    unfold fX10_runs_42
    simp only [sp_gd, sp_nm, sp_bind, sp_ite, sp_some, sp_inr]
    rw [show (wr Mc 0 23 0 0) 0 8 (Int32.toNatClampNeg 0) = nI (γ.1 3 0) by rw [wr_row _ _ _ _ _ (by decide), cl0, h2 8 (by decide)]; exact g3 0 (by omega)]
    obtain ⟨MA, hMA⟩ : ∃ MA, MA = wr (wr (wr (wr (wr (wr Mc 0 23 0 0) 0 15 0 (nI (γ.1 3 0))) 0 16 0 0) 0 17 0 0) 0 18 0 (-1)) 0 19 0 0 := ⟨_, rfl⟩
    rw [← hMA]
    have frA : frM RuL R MA := by
      rw [hMA]
      exact (((((frM.w (h2.sub (by decide)) _ _ _ (by decide)).w _ _ _ (by decide)).w _ _ _ (by decide)).w _ _ _ (by decide)).w _ _ _ (by decide)).w _ _ _ (by decide)
    have mA : ∀ f, f = 20 ∨ f = 21 ∨ f = 22 → MA 0 f = Mc 0 f := by
      intro f hf
      rw [hMA, wr_row _ _ _ _ _ (fun z => by omega), wr_row _ _ _ _ _ (fun z => by omega), wr_row _ _ _ _ _ (fun z => by omega), wr_row _ _ _ _ _ (fun z => by omega), wr_row _ _ _ _ _ (fun z => by omega), wr_row _ _ _ _ _ (fun z => by omega)]
    refine (md_keepsAt (k := 0) h8 (by omega) (hg.frRL frA).1).mono (fun MB ⟨f1, f2, f3⟩ => ?_)
    have frB : frM RuL R MB := frA.tr (f1.sub (by decide))
    refine lp_for (fun i st => st.1 = nI i ∧ MI st.2 γ i ∧ frM RuL R st.2) (γ.1 6 0) (by omega) ?_ ?_ (Nat.zero_le _) ⟨rfl, ⟨hg.frRL frB, ⟨fun q hq => ?_, ?_, ?_, ?_, ?_⟩, ⟨fun k hk => absurd hk (Nat.not_lt_zero _), fun k hk q hq => ?_⟩, ?_, ?_⟩, frB⟩
    · rintro i ⟨x, Md⟩ hi ⟨h1, h2, h3⟩
      dsimp only at h1 h2 h3 ⊢
      subst h1
      exact md_84 hγ hi h2 h3
    · rintro ⟨x, Md⟩ ⟨h1, h2, h3⟩
      dsimp only at h1 h2 h3 ⊢
      subst h1
      unfold fX10_runs_84
      simp only [sp_gd, sp_nm, sp_bind, sp_ite, sp_some, sp_inr]
      rw [show Md 0 11 0 = nI (γ.1 6 0) from h2.1.2.2.2.1, nI_leI (by omega) (by omega)]
      exact ⟨fun _ => ⟨h2, h3⟩, fun hc => absurd (Nat.le_refl _) hc⟩
    · dsimp only
      rw [f1 20 (by decide), f1 21 (by decide), f1 22 (by decide), mA 20 (by decide), mA 21 (by decide), mA 22 (by decide)]
      exact h3 q hq
    · dsimp only
      rw [f1 23 (by decide), hMA]; simp [wr_ap, stW, w0]
    · dsimp only
      rw [f1 15 (by decide), hMA]; simp [wr_ap, stW, w0]
    · dsimp only
      rw [f1 16 (by decide), hMA]; simp [wr_ap, stW, w0]; rfl
    · dsimp only
      rw [f1 17 (by decide), hMA]; simp [wr_ap, stW, w0]; rfl
    · dsimp only
      have hk0 : k = 0 := by omega
      subst hk0
      obtain ⟨a1, a2, a3⟩ := f2 q hq
      rw [a1, a2, a3, mA 20 (by decide), mA 21 (by decide), mA 22 (by decide)]
      exact h3 q hq
    · dsimp only
      rw [f1 18 (by decide), hMA]; simp [wr_ap, lngA]
    · dsimp only
      rw [f1 19 (by decide), hMA]; simp [wr_ap, lngA]; rfl
