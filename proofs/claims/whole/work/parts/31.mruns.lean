theorem md_stays {R : Mem} {h j k p b g0 : Nat} {l : Int32} {r0 r1 : Nat → Nat} (h8 : h ≤ 8) (hj : j < h) (e0 : ∀ i, i < h → R 0 20 i = nI (r0 i) ∧ R 0 21 i = nI (r1 i)) (hp : p < 100) (hb : b < 100) (hg0 : g0 < 100) (e18 : R 0 18 0 = l) (e19 : R 0 19 0 = nI g0) : Sp (fX10_stays R (nI j) (nI k) (nI p) (nI b)) (fun R' => frM [18, 19, 20, 21] R R' ∧ (∀ i, i < h → R' 0 20 i = nI (if i = j then r0 j + gn p b else r0 i) ∧ R' 0 21 i = nI (if i = j then r1 j + (if 9 ≤ p then 1 else 0) else r1 i)) ∧ R' 0 18 0 = (if g0 < gn p b then nI k else l) ∧ R' 0 19 0 = nI (if g0 < gn p b then gn p b else g0)) := by
  have hgn := gn_le p b
  have k74 : ∀ (v : Int32) (M : Mem), M 0 19 0 = nI g0 → Sp (fX10_stays_74 (nI j) (nI k) (nI p) (nI b) (nI (gn p b)) v M) (fun R' => frM [18, 19] M R' ∧ R' 0 18 0 = v ∧ R' 0 19 0 = nI (if g0 < gn p b then gn p b else g0)) := by
    intro v M h19
    unfold fX10_stays_74
    simp only [sp_gd, sp_nm, sp_bind, sp_ite, sp_some, sp_inr]
    rw [show (wr M 0 18 0 v) 0 19 0 = nI g0 by rw [wr_row _ _ _ _ _ (by decide)]; exact h19, nI_leI (by omega) (by omega)]
    refine ⟨fun hle => ⟨(frM.rf.w _ _ _ (by decide)).w _ _ _ (by decide), by simp [wr_ap], ?_⟩, fun hle => ⟨(frM.rf.w _ _ _ (by decide)).w _ _ _ (by decide), by simp [wr_ap], ?_⟩⟩
    · rw [if_neg (by omega)]; simp [wr_ap]
    · rw [if_pos (by omega)]; simp [wr_ap]
  have k54 : ∀ (a c : Nat) (M : Mem), M 0 19 0 = nI g0 → M 0 18 0 = l → Sp (fX10_stays_54 (nI j) (nI k) (nI p) (nI b) (nI (gn p b)) (nI a) (nI c) (nI j) M) (fun R' => frM [18, 19, 21] M R' ∧ (∀ i, R' 0 21 i = if i = j then nI (c + a) else M 0 21 i) ∧ R' 0 18 0 = (if g0 < gn p b then nI k else l) ∧ R' 0 19 0 = nI (if g0 < gn p b then gn p b else g0)) := by
    intro a c M h19 h18
    unfold fX10_stays_54
    simp only [sp_gd, sp_nm, sp_bind, sp_ite, sp_some, sp_inr]
    rw [inB_nI (by omega), nI_clamp (by omega), nI_add, show ∀ v, (wr M 0 21 j v) 0 19 0 = nI g0 from fun v => by rw [wr_row _ _ _ _ _ (by decide)]; exact h19, show ∀ v, (wr M 0 21 j v) 0 18 0 = l from fun v => by rw [wr_row _ _ _ _ _ (by decide)]; exact h18, nI_leI (by omega) (by omega)]
    have h19' : ∀ v, (wr M 0 21 j v) 0 19 0 = nI g0 := fun v => by rw [wr_row _ _ _ _ _ (by decide)]; exact h19
    refine ⟨by omega, fun hle => ?_, fun hle => ?_⟩
    · refine (k74 l _ (h19' _)).mono (fun R' ⟨f1, f2, f3⟩ => ⟨?_, fun i => ?_, ?_, f3⟩)
      · exact (frM.rf.w _ _ _ (by decide)).tr (f1.sub (by decide))
      · rw [f1 21 (by decide), wr_ap]; simp
      · rw [f2, if_neg (by omega)]
    · refine (k74 (nI k) _ (h19' _)).mono (fun R' ⟨f1, f2, f3⟩ => ⟨?_, fun i => ?_, ?_, f3⟩)
      · exact (frM.rf.w _ _ _ (by decide)).tr (f1.sub (by decide))
      · rw [f1 21 (by decide), wr_ap]; simp
      · rw [f2, if_pos (by omega)]
  have k22 : ∀ (u v : Nat), u * v = gn p b → Sp (fX10_stays_22 (nI j) (nI k) (nI p) (nI b) (nI v) (nI u) R) (fun R' => frM [18, 19, 20, 21] R R' ∧ (∀ i, i < h → R' 0 20 i = nI (if i = j then r0 j + gn p b else r0 i) ∧ R' 0 21 i = nI (if i = j then r1 j + (if 9 ≤ p then 1 else 0) else r1 i)) ∧ R' 0 18 0 = (if g0 < gn p b then nI k else l) ∧ R' 0 19 0 = nI (if g0 < gn p b then gn p b else g0)) := by
    intro u v huv
    unfold fX10_stays_22
    simp only [sp_gd, sp_nm, sp_bind, sp_ite, sp_some, sp_inr]
    rw [pk_mul, huv, inB_nI (by omega), nI_clamp (by omega), (e0 j hj).1, nI_add]
    obtain ⟨M8, hM8⟩ : ∃ M8, M8 = wr R 0 20 j (nI (r0 j + gn p b)) := ⟨_, rfl⟩
    rw [← hM8]
    have t19 : M8 0 19 0 = nI g0 := by rw [hM8, wr_row _ _ _ _ _ (by decide)]; exact e19
    have t18 : M8 0 18 0 = l := by rw [hM8, wr_row _ _ _ _ _ (by decide)]; exact e18
    have t21 : M8 0 21 = R 0 21 := by rw [hM8, wr_row _ _ _ _ _ (by decide)]
    have t20 : ∀ i, i < h → M8 0 20 i = nI (if i = j then r0 j + gn p b else r0 i) := by
      intro i hi
      rw [hM8, wr_ap]
      by_cases hij : i = j
      · simp [hij]
      · simp [hij, (e0 i hi).1]
    rw [t21, (e0 j hj).2, il9, nI_ltI (by omega) (by omega)]
    have fin : ∀ a : Nat, a = (if 9 ≤ p then 1 else 0) → Sp (fX10_stays_54 (nI j) (nI k) (nI p) (nI b) (nI (gn p b)) (nI a) (nI (r1 j)) (nI j) M8) (fun R' => frM [18, 19, 20, 21] R R' ∧ (∀ i, i < h → R' 0 20 i = nI (if i = j then r0 j + gn p b else r0 i) ∧ R' 0 21 i = nI (if i = j then r1 j + (if 9 ≤ p then 1 else 0) else r1 i)) ∧ R' 0 18 0 = (if g0 < gn p b then nI k else l) ∧ R' 0 19 0 = nI (if g0 < gn p b then gn p b else g0)) := by
      intro a ha
      refine (k54 a (r1 j) M8 t19 t18).mono (fun R' ⟨f1, f2, f3, f4⟩ => ⟨?_, fun i hi => ⟨?_, ?_⟩, f3, f4⟩)
      · refine frM.tr (M1 := M8) ?_ (f1.sub (by decide))
        rw [hM8]
        exact frM.rf.w _ _ _ (by decide)
      · rw [f1 20 (by decide)]; exact t20 i hi
      · rw [f2 i, ha]
        by_cases hij : i = j
        · rw [if_pos hij, if_pos hij]
        · rw [if_neg hij, if_neg hij, t21]; exact (e0 i hi).2
    refine ⟨by omega, by omega, by omega, fun h9 => ?_, fun h9 => ?_⟩
    · exact fin 0 (by rw [if_neg (by omega)])
    · exact fin 1 (by rw [if_pos (by omega)])
  have k12 : ∀ u : Nat, u = min p 9 → Sp (fX10_stays_12 (nI j) (nI k) (nI p) (nI b) (nI u) R) (fun R' => frM [18, 19, 20, 21] R R' ∧ (∀ i, i < h → R' 0 20 i = nI (if i = j then r0 j + gn p b else r0 i) ∧ R' 0 21 i = nI (if i = j then r1 j + (if 9 ≤ p then 1 else 0) else r1 i)) ∧ R' 0 18 0 = (if g0 < gn p b then nI k else l) ∧ R' 0 19 0 = nI (if g0 < gn p b then gn p b else g0)) := by
    intro u hu
    unfold fX10_stays_12
    simp only [sp_gd, sp_nm, sp_bind, sp_ite, sp_some, sp_inr]
    rw [il0, nI_leI (by omega) (by omega)]
    exact ⟨fun h0 => k22 u 1 (by unfold gn; rw [if_neg (by omega), hu, Nat.mul_one]), fun h0 => k22 u 2 (by unfold gn; rw [if_pos (by omega), hu])⟩
  unfold fX10_stays
  simp only [sp_gd, sp_nm, sp_bind, sp_ite, sp_some, sp_inr]
  rw [il9, nI_leI (by omega) (by omega)]
  exact ⟨fun h9 => k12 9 (by omega), fun h9 => k12 p (by omega)⟩
/-- the longest one, and by how much, behind a stop that brought g -/
def lgS (k g : Nat) (u : Int32 × Nat) : Int32 × Nat := if u.2 < g then (nI k, g) else u
theorem md_visits {R : Mem} {γ : Cfg} {w : Wk} {k j : Nat} {u : Int32 × Nat} (hγ : okC γ) (hg : MG R γ) (hw : MW R γ w) (bd : Bd γ k w) (hk : k < 20) (hj : j < γ.1 5 0) (e25 : R 0 25 k = nI 0) (e18 : R 0 18 0 = u.1) (e19 : R 0 19 0 = nI u.2) (hu : u.2 ≤ 18) : Sp (fX10_visits R (nI j) (nI k)) (fun R' => MW R' γ (mW γ k j w) ∧ R' 0 24 k = nI ((mW γ k j w).1 8 0) ∧ R' 0 25 k = nI ((mW γ k j w).1 9 0) ∧ R' 0 27 k = nI ((mW γ k j w).1 10 0) ∧ R' 0 18 0 = (lgS k ((mW γ k j w).1 11 0) u).1 ∧ R' 0 19 0 = nI (lgS k ((mW γ k j w).1 11 0) u).2 ∧ frM [15, 16, 17, 18, 19, 20, 21, 22, 23, 24, 25, 27] R R' ∧ ∀ q, q ≠ k → R' 0 24 q = R 0 24 q ∧ R' 0 25 q = R 0 25 q ∧ R' 0 27 q = R 0 27 q) := by
  have h8 := hγ.1
  obtain ⟨b5, b6, b7, bi'⟩ := Bd_20 bd (by omega)
  have hγ' := hγ
  obtain ⟨h1, h2, h3, h4, h5, h6, h7, -⟩ := hγ'
  have hg' := hg
  obtain ⟨g1, g2, g3, g4, g5, g6, g7⟩ := hg'
  obtain ⟨w1, w3, w4, w5, w6⟩ := hw
  obtain ⟨w1a, w1b, w1c⟩ := w1 j hj
  have hlj := (bi' j hj).2.2
  have hl9 := (h3 j hj).2.2
  have hk9 := (h3 j hj).2.1
  have hb1 : bi γ w j ≤ w.1 2 j := Nat.min_le_left _ _
  have hb2 : bi γ w j ≤ w.1 5 0 := Nat.le_trans (Nat.min_le_right _ _) (Nat.min_le_left _ _)
  have hdr : dr γ k j < 100 := by unfold dr; split <;> split <;> omega
  have hpu : pu γ w j < 100 := by unfold pu; omega
  have k47 : Sp (fX10_visits_47 (nI j) (nI k) (nI (bi γ w j)) R) (fun R' => MW R' γ (mW γ k j w) ∧ R' 0 24 k = nI ((mW γ k j w).1 8 0) ∧ R' 0 25 k = nI ((mW γ k j w).1 9 0) ∧ R' 0 27 k = nI ((mW γ k j w).1 10 0) ∧ R' 0 18 0 = (lgS k ((mW γ k j w).1 11 0) u).1 ∧ R' 0 19 0 = nI (lgS k ((mW γ k j w).1 11 0) u).2 ∧ frM [15, 16, 17, 18, 19, 20, 21, 22, 23, 24, 25, 27] R R' ∧ ∀ q, q ≠ k → R' 0 24 q = R 0 24 q ∧ R' 0 25 q = R 0 25 q ∧ R' 0 27 q = R 0 27 q) := by
    unfold fX10_visits_47
    simp only [sp_gd, sp_nm, sp_bind, sp_ite, sp_some, sp_inr]
    rw [inB_nI (by omega), inB_nI (by omega), inB_nI (by omega), nI_clamp (by omega), nI_clamp (by omega), (g2 j hj).2.1, nI_add, show γ.1 1 j + bi γ w j = pu γ w j from rfl]
    obtain ⟨M7, hM7⟩ : ∃ M7, M7 = wr R 0 27 k (nI (pu γ w j)) := ⟨_, rfl⟩
    rw [← hM7]
    have m7 : ∀ f, f ≠ 27 → M7 0 f = R 0 f := fun f hf => by rw [hM7, wr_row _ _ _ _ _ (fun z => hf z.2)]
    have m27 : ∀ q, M7 0 27 q = if q = k then nI (pu γ w j) else R 0 27 q := fun q => by rw [hM7, wr_ap]; simp
    have hg7 : MG M7 γ := hg.fr (fun f hf => m7 f (by omega))
    refine ⟨by omega, by omega, ?_⟩
    refine Sp.of (md_afraid hγ hg7 hj) ?_
    rw [nI_leI (by omega) (by omega)]
    refine ⟨fun hd => ?_, fun hd => ?_⟩
    · rw [show (wr M7 0 25 k (nI (bi γ w j))) 0 15 0 = nI (w.1 5 0) by rw [wr_row _ _ _ _ _ (by decide), m7 15 (by decide)]; exact w4, pk_sub hb2]
      rw [show (wr (wr M7 0 25 k (nI (bi γ w j))) 0 15 0 (nI (w.1 5 0 - bi γ w j))) 0 22 j = nI (w.1 2 j) by rw [wr_row _ _ _ _ _ (by decide), wr_row _ _ _ _ _ (by decide), m7 22 (by decide)]; exact w1c, pk_sub hb1]
      obtain ⟨MA, hMA⟩ : ∃ MA, MA = wr (wr (wr M7 0 25 k (nI (bi γ w j))) 0 15 0 (nI (w.1 5 0 - bi γ w j))) 0 22 j (nI (w.1 2 j - bi γ w j)) := ⟨_, rfl⟩
      rw [← hMA]
      have mA : ∀ f, f ≠ 27 → f ≠ 25 → f ≠ 15 → f ≠ 22 → MA 0 f = R 0 f := fun f n1 n2 n3 n4 => by rw [hMA, wr_row _ _ _ _ _ (fun z => n4 z.2), wr_row _ _ _ _ _ (fun z => n3 z.2), wr_row _ _ _ _ _ (fun z => n2 z.2), m7 f n1]
      have a27 : ∀ q, MA 0 27 q = if q = k then nI (pu γ w j) else R 0 27 q := fun q => by rw [hMA, wr_row _ _ _ _ _ (by decide), wr_row _ _ _ _ _ (by decide), wr_row _ _ _ _ _ (by decide)]; exact m27 q
      have a25 : ∀ q, MA 0 25 q = if q = k then nI (bi γ w j) else R 0 25 q := fun q => by
        rw [hMA, wr_row _ _ _ _ _ (by decide), wr_row _ _ _ _ _ (by decide), wr_ap, m7 25 (by decide)]; simp
      have a15 : MA 0 15 0 = nI (w.1 5 0 - bi γ w j) := by rw [hMA, wr_row _ _ _ _ _ (by decide), wr_ap]; simp
      have a22 : ∀ i, i < γ.1 5 0 → MA 0 22 i = nI (if i = j then w.1 2 j - bi γ w j else w.1 2 i) := by
        intro i hi
        rw [hMA, wr_ap, wr_row _ _ _ _ _ (by decide), wr_row _ _ _ _ _ (by decide), m7 22 (by decide)]
        by_cases hij : i = j
        · simp [hij]
        · simp [hij, (w1 i hi).2.2]
      have k195 : ∀ d : Nat, d = (mW γ k j w).1 8 0 → Sp (fX10_visits_195 (nI j) (nI k) (nI (bi γ w j)) (nI (pu γ w j)) (nI d) (nI k) MA) (fun R' => MW R' γ (mW γ k j w) ∧ R' 0 24 k = nI ((mW γ k j w).1 8 0) ∧ R' 0 25 k = nI ((mW γ k j w).1 9 0) ∧ R' 0 27 k = nI ((mW γ k j w).1 10 0) ∧ R' 0 18 0 = (lgS k ((mW γ k j w).1 11 0) u).1 ∧ R' 0 19 0 = nI (lgS k ((mW γ k j w).1 11 0) u).2 ∧ frM [15, 16, 17, 18, 19, 20, 21, 22, 23, 24, 25, 27] R R' ∧ ∀ q, q ≠ k → R' 0 24 q = R 0 24 q ∧ R' 0 25 q = R 0 25 q ∧ R' 0 27 q = R 0 27 q) := by
        intro d hd8
        unfold fX10_visits_195
        simp only [sp_gd, sp_nm, sp_bind, sp_ite, sp_some, sp_inr]
        rw [inB_nI (by omega), nI_clamp (by omega)]
        obtain ⟨MB, hMB⟩ : ∃ MB, MB = wr MA 0 24 k (nI d) := ⟨_, rfl⟩
        rw [← hMB]
        have mB : ∀ f, f ≠ 24 → MB 0 f = MA 0 f := fun f hf => by rw [hMB, wr_row _ _ _ _ _ (fun z => hf z.2)]
        have b24 : ∀ q, MB 0 24 q = if q = k then nI d else R 0 24 q := fun q => by rw [hMB, wr_ap, mA 24 (by decide) (by decide) (by decide) (by decide)]; simp
        have mBR : ∀ f, f ≠ 24 → f ≠ 27 → f ≠ 25 → f ≠ 15 → f ≠ 22 → MB 0 f = R 0 f := fun f n0 n1 n2 n3 n4 => by rw [mB f n0, mA f n1 n2 n3 n4]
        have frB : frM [15, 16, 17, 18, 19, 20, 21, 22, 23, 24, 25, 27] R MB := fun f hf => mBR f (fun z => hf (by rw [z]; decide)) (fun z => hf (by rw [z]; decide)) (fun z => hf (by rw [z]; decide)) (fun z => hf (by rw [z]; decide)) (fun z => hf (by rw [z]; decide))
        rw [show MB 0 8 (Int32.toNatClampNeg 2) = nI (γ.1 3 2) by rw [cl2, mBR 8 (by decide) (by decide) (by decide) (by decide) (by decide)]; exact g3 2 (by omega), nI_eq (by omega) (by omega)]
        have hmw : mW γ k j w = if pu γ w j = γ.1 3 2 then mBack γ j w else mStay γ j w := by unfold mW; rw [if_neg (by omega)]
        have hist : ∀ R' : Mem, R' 0 24 = MB 0 24 → R' 0 25 = MB 0 25 → R' 0 27 = MB 0 27 → R' 0 24 k = nI ((mW γ k j w).1 8 0) ∧ R' 0 25 k = nI (bi γ w j) ∧ R' 0 27 k = nI (pu γ w j) ∧ ∀ q, q ≠ k → R' 0 24 q = R 0 24 q ∧ R' 0 25 q = R 0 25 q ∧ R' 0 27 q = R 0 27 q := by
          intro R' q1 q2 q3
          rw [q1, q2, q3, mB 25 (by decide), mB 27 (by decide)]
          refine ⟨by rw [b24, if_pos rfl, hd8], by rw [a25, if_pos rfl], by rw [a27, if_pos rfl], fun q hq => ⟨by rw [b24, if_neg hq], by rw [a25, if_neg hq], by rw [a27, if_neg hq]⟩⟩
        refine ⟨by omega, fun hgr => ?_, fun hgr => ?_⟩
        · rw [if_pos hgr] at hmw
          refine (md_goesBack (d := w.1 7 0) (r := w.1 0) h8 (by rw [mBR 2 (by decide) (by decide) (by decide) (by decide) (by decide)]; exact g1) (fun i hi => by rw [mBR 20 (by decide) (by decide) (by decide) (by decide) (by decide)]; exact (w1 i hi).1) (fun i hi => (bi' i hi).1) (by rw [mBR 17 (by decide) (by decide) (by decide) (by decide) (by decide)]; exact w6)).mono (fun R' ⟨f1, f2, f3⟩ => ?_)
          obtain ⟨q1, q2, q3, q4⟩ := hist R' (f1 24 (by decide)) (f1 25 (by decide)) (f1 27 (by decide))
          rw [hmw] at q1 ⊢
          refine ⟨⟨fun i hi => ⟨f2 i hi, ?_, ?_⟩, ?_, ?_, ?_, f3⟩, q1, q2, q3, ?_, ?_, frB.tr (f1.sub (by decide)), q4⟩
          · rw [f1 21 (by decide), mBR 21 (by decide) (by decide) (by decide) (by decide) (by decide)]; exact (w1 i hi).2.1
          · rw [f1 22 (by decide), mB 22 (by decide)]; exact a22 i hi
          · rw [f1 23 (by decide), mBR 23 (by decide) (by decide) (by decide) (by decide) (by decide)]; exact w3
          · rw [f1 15 (by decide), mB 15 (by decide)]; exact a15
          · rw [f1 16 (by decide), mBR 16 (by decide) (by decide) (by decide) (by decide) (by decide)]; exact w5
          · rw [f1 18 (by decide), mBR 18 (by decide) (by decide) (by decide) (by decide) (by decide), e18]
            show u.1 = (lgS k 0 u).1
            unfold lgS
            rw [if_neg (Nat.not_lt_zero _)]
          · rw [f1 19 (by decide), mBR 19 (by decide) (by decide) (by decide) (by decide) (by decide), e19]
            show nI u.2 = nI (lgS k 0 u).2
            unfold lgS
            rw [if_neg (Nat.not_lt_zero _)]
        · rw [if_neg hgr] at hmw
          refine (md_stays (l := u.1) (g0 := u.2) (r0 := w.1 0) (r1 := w.1 1) h8 hj (fun i hi => by rw [mBR 20 (by decide) (by decide) (by decide) (by decide) (by decide), mBR 21 (by decide) (by decide) (by decide) (by decide) (by decide)]; exact ⟨(w1 i hi).1, (w1 i hi).2.1⟩) hpu (by omega) (by omega) (by rw [mBR 18 (by decide) (by decide) (by decide) (by decide) (by decide)]; exact e18) (by rw [mBR 19 (by decide) (by decide) (by decide) (by decide) (by decide)]; exact e19)).mono (fun R' ⟨f1, f2, f3, f4⟩ => ?_)
          obtain ⟨q1, q2, q3, q4⟩ := hist R' (f1 24 (by decide)) (f1 25 (by decide)) (f1 27 (by decide))
          rw [hmw] at q1 ⊢
          refine ⟨⟨fun i hi => ⟨(f2 i hi).1, (f2 i hi).2, ?_⟩, ?_, ?_, ?_, ?_⟩, q1, q2, q3, ?_, ?_, frB.tr (f1.sub (by decide)), q4⟩
          · rw [f1 22 (by decide), mB 22 (by decide)]; exact a22 i hi
          · rw [f1 23 (by decide), mBR 23 (by decide) (by decide) (by decide) (by decide) (by decide)]; exact w3
          · rw [f1 15 (by decide), mB 15 (by decide)]; exact a15
          · rw [f1 16 (by decide), mBR 16 (by decide) (by decide) (by decide) (by decide) (by decide)]; exact w5
          · rw [f1 17 (by decide), mBR 17 (by decide) (by decide) (by decide) (by decide) (by decide)]; exact w6
          · rw [f3]
            show _ = (lgS k (gn (pu γ w j) (bi γ w j)) u).1
            unfold lgS
            split <;> rfl
          · rw [f4]
            show _ = nI (lgS k (gn (pu γ w j) (bi γ w j)) u).2
            unfold lgS
            split <;> rfl
      rw [show MA 0 8 (Int32.toNatClampNeg 2) = nI (γ.1 3 2) by rw [cl2, mA 8 (by decide) (by decide) (by decide) (by decide)]; exact g3 2 (by omega), nI_eq (by omega) (by omega), il9, nI_ltI (by omega) (by omega)]
      have hmw : mW γ k j w = if pu γ w j = γ.1 3 2 then mBack γ j w else mStay γ j w := by unfold mW; rw [if_neg (by omega)]
      refine ⟨by omega, by omega, by omega, fun hgr => ?_, fun hgr => ⟨fun h9 => ?_, fun h9 => ?_⟩⟩
      · exact k195 2 (by rw [hmw, if_pos hgr]; rfl)
      · exact k195 3 (by rw [hmw, if_neg hgr]; show 3 = (if 9 ≤ pu γ w j then 4 else 3); rw [if_neg (by omega)])
      · exact k195 4 (by rw [hmw, if_neg hgr]; show 4 = (if 9 ≤ pu γ w j then 4 else 3); rw [if_pos (by omega)])
    · have hmw : mW γ k j w = mKick γ j w := by unfold mW; rw [if_pos (by omega)]
      refine ⟨by omega, by omega, by omega, by omega, ?_⟩
      rw [hmw]
      have c20 := w1a
      refine ⟨⟨fun i hi => ?_, ?_, ?_, ?_, ?_⟩, ?_, ?_, ?_, ?_, ?_, ?_, fun q hq => ?_⟩
      · obtain ⟨a1, a2, a3⟩ := w1 i hi
        simp only [wr_ap, mKick]
        by_cases hij : i = j
        · simp [hij, il0, m7, w1c]
        · simp [hij, a1, a2, a3, m7]
      · simp [wr_ap, mKick, m7, w3]
      · simp [wr_ap, mKick, m7, w4]
      · simp [wr_ap, mKick, m7, w5, il1, nI_add]
      · simp [wr_ap, mKick, m7, w6, w1a, nI_add]
      · simp [wr_ap, mKick]; rfl
      · simp [wr_ap, mKick, m7, e25]
      · simp [wr_ap, mKick, m27]
      · show _ = (lgS k 0 u).1
        unfold lgS
        rw [if_neg (Nat.not_lt_zero _)]
        simp [wr_ap, m7, e18]
      · show _ = nI (lgS k 0 u).2
        unfold lgS
        rw [if_neg (Nat.not_lt_zero _)]
        simp [wr_ap, m7, e19]
      · refine frM.w (frM.w (frM.w (frM.w (frM.w (frM.w ?_ _ _ _ (by decide)) _ _ _ (by decide)) _ _ _ (by decide)) _ _ _ (by decide)) _ _ _ (by decide)) _ _ _ (by decide)
        rw [hM7]
        exact frM.rf.w _ _ _ (by decide)
      · simp [wr_ap, m7, m27, hq]
  have k26 : ∀ v : Nat, v < 100 → min v (γ.1 3 3) = bi γ w j → Sp (fX10_visits_26 (nI j) (nI k) (nI v) R) (fun R' => MW R' γ (mW γ k j w) ∧ R' 0 24 k = nI ((mW γ k j w).1 8 0) ∧ R' 0 25 k = nI ((mW γ k j w).1 9 0) ∧ R' 0 27 k = nI ((mW γ k j w).1 10 0) ∧ R' 0 18 0 = (lgS k ((mW γ k j w).1 11 0) u).1 ∧ R' 0 19 0 = nI (lgS k ((mW γ k j w).1 11 0) u).2 ∧ frM [15, 16, 17, 18, 19, 20, 21, 22, 23, 24, 25, 27] R R' ∧ ∀ q, q ≠ k → R' 0 24 q = R 0 24 q ∧ R' 0 25 q = R 0 25 q ∧ R' 0 27 q = R 0 27 q) := by
    intro v hv hmin
    unfold fX10_visits_26
    simp only [sp_gd, sp_nm, sp_bind, sp_ite, sp_some, sp_inr]
    rw [cl3, g3 3 (by omega), nI_leI (by omega) (by omega)]
    refine ⟨fun hle => ?_, fun hle => ?_⟩
    · rw [show v = bi γ w j by omega]; exact k47
    · rw [show γ.1 3 3 = bi γ w j by omega]; exact k47
  unfold fX10_visits
  simp only [sp_gd, sp_nm, sp_bind, sp_ite, sp_some, sp_inr]
  rw [inB_nI (by omega), nI_clamp (by omega), w1c, w4, nI_leI (by omega) (by omega)]
  refine ⟨by omega, fun hle => ?_, fun hle => ⟨by omega, ?_⟩⟩
  · exact k26 _ (by omega) (by unfold bi; omega)
  · exact k26 _ (by omega) (by unfold bi; omega)
