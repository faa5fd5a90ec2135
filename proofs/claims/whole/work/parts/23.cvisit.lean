theorem cl_disin {o j : Nat} {M : Mem} {γ : Cfg} {w : Wk} (h8 : γ.1 5 0 ≤ 8) (hw : RW (M o) γ w) (e9 : M o 9 0 = nI 0) (e10 : M o 10 0 = nI (pu γ w j)) (e11 : M o 11 0 = nI 0) (hj : j < γ.1 5 0) : Sp (fX7_disinherit o M (nI j)) (fun M' => RW (M' o) γ (mKick γ j w) ∧ RV (M' o) (mKick γ j w) ∧ frO o M M') := by
  obtain ⟨w1, w2, w3, w4, w5, w6⟩ := hw
  unfold fX7_disinherit
  simp only [sp_gd, sp_nm, sp_bind, sp_ite, sp_some, sp_inr]
  rw [inB_nI (by omega), nI_clamp (by omega)]
  refine ⟨by omega, by omega, by omega, ⟨fun i hi => ?_, ?_, ?_, ?_, ?_, ?_⟩, ⟨?_, ?_, ?_, ?_⟩, fun x hx => ?_⟩
  · obtain ⟨a1, a2, a3⟩ := w1 i hi
    simp only [wr_ap, mKick]
    by_cases hij : i = j
    · simp [hij, il0, (w1 j hj).2.2]
    · simp [hij, a1, a2, a3]
  · simp [wr_ap, w2]
  · simp [wr_ap, w3, mKick]
  · simp [wr_ap, w4, mKick]
  · simp [wr_ap, w5, mKick, il1, nI_add]
  · simp [wr_ap, w6, mKick, (w1 j hj).1, nI_add]
  · simp [wr_ap, mKick]; rfl
  · simp [wr_ap, e9, mKick]
  · simp [wr_ap, e10, mKick]
  · simp [wr_ap, e11, mKick]
  · rw [wr_ob _ _ _ _ _ hx, wr_ob _ _ _ _ _ hx, wr_ob _ _ _ _ _ hx, wr_ob _ _ _ _ _ hx, wr_ob _ _ _ _ _ hx, wr_ob _ _ _ _ _ hx]
theorem cl_best44 {o h j p g : Nat} {M : Mem} {r0 r1 : Nat → Nat} (h8 : h ≤ 8) (hj : j < h) (e0 : ∀ i, i < h → M o 0 i = nI (r0 i) ∧ M o 1 i = nI (r1 i)) (hp : p < 100) (e8 : M o 8 0 = nI 3) (e10 : M o 10 0 = nI p) (e11 : M o 11 0 = nI g) : Sp (fX7_bestow_44 o (nI j) M) (fun M' => frL o [0, 1, 8] M M' ∧ M' o 8 0 = nI (if 9 ≤ p then 4 else 3) ∧ ∀ i, i < h → M' o 0 i = nI (if i = j then r0 j + g else r0 i) ∧ M' o 1 i = nI (if i = j then r1 j + (if 9 ≤ p then 1 else 0) else r1 i)) := by
  unfold fX7_bestow_44
  simp only [sp_gd, sp_nm, sp_bind, sp_ite, sp_some, sp_inr]
  rw [inB_nI (by omega), nI_clamp (by omega), (e0 j hj).1, e11, nI_add]
  have hc : (wr M o 0 j (nI (r0 j + g))) o 10 0 = nI p := by simp [wr_ap, e10]
  have e1 : (wr (wr M o 0 j (nI (r0 j + g))) o 8 0 4) o 1 j = nI (r1 j) := by simp [wr_ap, (e0 j hj).2]
  rw [hc, e1, il9, il1, nI_add, nI_ltI (by omega) (by omega)]
  refine ⟨by omega, by omega, fun hp9 => ?_, fun hp9 => ⟨by omega, by omega, ?_⟩⟩
  · have n9 : ¬ 9 ≤ p := by omega
    refine ⟨⟨fun x hx => wr_ob _ _ _ _ _ hx, fun f hf => ?_⟩, ?_, fun i hi => ?_⟩
    · simp at hf
      exact wr_row _ _ _ _ _ (fun z => hf.1 z.2)
    · simp [wr_ap, e8, n9]
    · obtain ⟨a, b⟩ := e0 i hi
      simp only [wr_ap]
      by_cases hij : i = j
      · simp [hij, n9, (e0 j hj).2]
      · simp [hij, a, b]
  · have n9 : 9 ≤ p := by omega
    refine ⟨⟨fun x hx => ?_, fun f hf => ?_⟩, ?_, fun i hi => ?_⟩
    · rw [wr_ob _ _ _ _ _ hx, wr_ob _ _ _ _ _ hx, wr_ob _ _ _ _ _ hx]
    · simp at hf
      rw [wr_row _ _ _ _ _ (fun z => hf.2.1 z.2), wr_row _ _ _ _ _ (fun z => hf.2.2 z.2), wr_row _ _ _ _ _ (fun z => hf.1 z.2)]
    · simp [wr_ap, n9]; rfl
    · obtain ⟨a, b⟩ := e0 i hi
      simp only [wr_ap]
      by_cases hij : i = j
      · simp [hij, n9]
      · simp [hij, a, b]
theorem cl_bestow {o h j p b : Nat} {M : Mem} {r0 r1 : Nat → Nat} (h8 : h ≤ 8) (hj : j < h) (e0 : ∀ i, i < h → M o 0 i = nI (r0 i) ∧ M o 1 i = nI (r1 i)) (hp : p < 100) (hb : b < 100) (e9 : M o 9 0 = nI b) (e10 : M o 10 0 = nI p) : Sp (fX7_bestow o M (nI j)) (fun M' => frL o [0, 1, 8, 11] M M' ∧ M' o 8 0 = nI (if 9 ≤ p then 4 else 3) ∧ M' o 11 0 = nI (gn p b) ∧ ∀ i, i < h → M' o 0 i = nI (if i = j then r0 j + gn p b else r0 i) ∧ M' o 1 i = nI (if i = j then r1 j + (if 9 ≤ p then 1 else 0) else r1 i)) := by
  have key : ∀ q : Nat, q = min p 9 → Sp (fX7_bestow_24 o (nI j) (nI q) (wr M o 8 0 3)) (fun M' => frL o [0, 1, 8, 11] M M' ∧ M' o 8 0 = nI (if 9 ≤ p then 4 else 3) ∧ M' o 11 0 = nI (gn p b) ∧ ∀ i, i < h → M' o 0 i = nI (if i = j then r0 j + gn p b else r0 i) ∧ M' o 1 i = nI (if i = j then r1 j + (if 9 ≤ p then 1 else 0) else r1 i)) := by
    intro q hq
    unfold fX7_bestow_24
    simp only [sp_gd, sp_nm, sp_bind, sp_ite, sp_some, sp_inr]
    have hc : (wr (wr M o 8 0 3) o 11 0 (nI q)) o 9 0 = nI b := by simp [wr_ap, e9]
    have hc2 : (wr (wr M o 8 0 3) o 11 0 (nI q)) o 11 0 = nI q := by simp [wr_ap]
    rw [hc, hc2, il0, nI_leI (by omega) (by omega), il2, pk_mul]
    refine ⟨fun h0 => ?_, fun h0 => ?_⟩
    · have hg : gn p b = q := by unfold gn; rw [if_neg (by omega), hq]
      rw [hg]
      refine (cl_best44 (r0 := r0) (r1 := r1) (p := p) (g := q) h8 hj (fun i hi => by simp [wr_ap, e0 i hi]) hp (by simp [wr_ap]; rfl) (by simp [wr_ap, e10]) (by simp [wr_ap])).mono (fun M' ⟨⟨f1, f2⟩, f3, f4⟩ => ⟨⟨fun x hx => ?_, fun f hf => ?_⟩, f3, ?_, f4⟩)
      · rw [f1 x hx, wr_ob _ _ _ _ _ hx, wr_ob _ _ _ _ _ hx]
      · simp at hf
        rw [f2 f (by simp; exact ⟨hf.1, hf.2.1, hf.2.2.1⟩), wr_row _ _ _ _ _ (fun z => hf.2.2.2 z.2), wr_row _ _ _ _ _ (fun z => hf.2.2.1 z.2)]
      · rw [f2 11 (by decide)]
        simp [wr_ap]
    · have hg : gn p b = q * 2 := by unfold gn; rw [if_pos (by omega), hq]
      rw [hg]
      refine (cl_best44 (r0 := r0) (r1 := r1) (p := p) (g := q * 2) h8 hj (fun i hi => by simp [wr_ap, e0 i hi]) hp (by simp [wr_ap]; rfl) (by simp [wr_ap, e10]) (by simp [wr_ap])).mono (fun M' ⟨⟨f1, f2⟩, f3, f4⟩ => ⟨⟨fun x hx => ?_, fun f hf => ?_⟩, f3, ?_, f4⟩)
      · rw [f1 x hx, wr_ob _ _ _ _ _ hx, wr_ob _ _ _ _ _ hx, wr_ob _ _ _ _ _ hx]
      · simp at hf
        rw [f2 f (by simp; exact ⟨hf.1, hf.2.1, hf.2.2.1⟩), wr_row _ _ _ _ _ (fun z => hf.2.2.2 z.2), wr_row _ _ _ _ _ (fun z => hf.2.2.2 z.2), wr_row _ _ _ _ _ (fun z => hf.2.2.1 z.2)]
      · rw [f2 11 (by decide)]
        simp [wr_ap]
  unfold fX7_bestow
  simp only [sp_gd, sp_nm, sp_bind, sp_ite, sp_some, sp_inr]
  have hc : (wr M o 8 0 3) o 10 0 = nI p := by simp [wr_ap, e10]
  rw [hc, il9, nI_leI (by omega) (by omega)]
  exact ⟨fun h9 => key 9 (by omega), fun h9 => key p (by omega)⟩
theorem RG.eq {g g' : Ob} {γ : Cfg} (h : RG g γ) (e : g' = g) : RG g' γ := by rw [e]; exact h
theorem cl_meet {o g k j : Nat} {M : Mem} {γ : Cfg} {w : Wk} (hγ : okC γ) (hg : RG (M g) γ) (hne : g ≠ o) (hw : RW (M o) γ w) (b : Bd γ k w) (hk : k ≤ 20) (hj : j < γ.1 5 0) (e9 : M o 9 0 = nI 0) (e11 : M o 11 0 = nI 0) : Sp (fX7_meet o g M (nI k) (nI j)) (fun M' => RW (M' o) γ (mW γ k j w) ∧ RV (M' o) (mW γ k j w) ∧ frO o M M') := by
  have h8 := hγ.1
  obtain ⟨b5, b6, b7, bi'⟩ := Bd_20 b hk
  have hγ' := hγ
  obtain ⟨h1, h2, h3, h4, h5, h6, h7, -⟩ := hγ'
  have hg' := hg
  obtain ⟨g1, g2, g3, g4, g5, g6, g7⟩ := hg'
  have hw' := hw
  obtain ⟨w1, w2, w3, w4, w5, w6⟩ := hw'
  obtain ⟨w1a, w1b, w1c⟩ := w1 j hj
  have hlj := (bi' j hj).2.2
  have hl9 := (h3 j hj).2.2
  have hk9 := (h3 j hj).2.1
  have hb1 : bi γ w j ≤ w.1 2 j := Nat.min_le_left _ _
  have hb2 : bi γ w j ≤ w.1 5 0 := Nat.le_trans (Nat.min_le_right _ _) (Nat.min_le_left _ _)
  have hdr : dr γ k j < 100 := by unfold dr; split <;> split <;> omega
  have eu : imin (M o 2 j) (imin (M o 5 0) (M g 3 3)) = nI (bi γ w j) := by
    rw [w1c, w4, g2 3 (by omega), imin_nI (by omega) (by omega), imin_nI (by omega) (by omega)]
    rfl
  have hpu : pu γ w j < 100 := by unfold pu; omega
  unfold fX7_meet
  simp only [sp_gd, sp_nm, sp_bind, sp_ite, sp_some, sp_inr]
  rw [inB_nI (by omega), nI_clamp (by omega), cl3, eu, (g1 j hj).2.1, nI_add]
  refine ⟨by omega, by omega, ?_⟩
  refine Sp.of (cl_dread hγ (hg.eq (wr_ob _ _ _ _ _ hne)) hj) ?_
  have hc : (wr M o 10 0 (nI (γ.1 1 j + bi γ w j))) o 10 0 = nI (pu γ w j) := by simp [wr_ap]; rfl
  rw [hc, nI_leI (by omega) (by omega)]
  refine ⟨fun hd => ⟨by omega, by omega, ?_⟩, fun hd => ?_⟩
  · have q5 : (wr (wr M o 10 0 (nI (γ.1 1 j + bi γ w j))) o 9 0 (nI (bi γ w j))) o 5 0 = nI (w.1 5 0) := by simp [wr_ap, w4]
    rw [q5, pk_sub hb2]
    have q2 : (wr (wr (wr M o 10 0 (nI (γ.1 1 j + bi γ w j))) o 9 0 (nI (bi γ w j))) o 5 0 (nI (w.1 5 0 - bi γ w j))) o 2 j = nI (w.1 2 j) := by simp [wr_ap, w1c]
    rw [q2, pk_sub hb1]
    obtain ⟨M7, hM7⟩ : ∃ M7, M7 = wr (wr (wr (wr M o 10 0 (nI (γ.1 1 j + bi γ w j))) o 9 0 (nI (bi γ w j))) o 5 0 (nI (w.1 5 0 - bi γ w j))) o 2 j (nI (w.1 2 j - bi γ w j)) := ⟨_, rfl⟩
    rw [← hM7]
    have p10 : M7 o 10 0 = nI (pu γ w j) := by rw [hM7]; simp [wr_ap]; rfl
    have p9 : M7 o 9 0 = nI (bi γ w j) := by rw [hM7]; simp [wr_ap]
    have p11 : M7 o 11 0 = nI 0 := by rw [hM7]; simp [wr_ap, e11]
    have p5 : M7 o 5 0 = nI (w.1 5 0 - bi γ w j) := by rw [hM7]; simp [wr_ap]
    have p0 : ∀ i, i < γ.1 5 0 → M7 o 0 i = nI (w.1 0 i) ∧ M7 o 1 i = nI (w.1 1 i) ∧ M7 o 2 i = nI (if i = j then w.1 2 j - bi γ w j else w.1 2 i) := by
      intro i hi
      obtain ⟨a1, a2, a3⟩ := w1 i hi
      rw [hM7]
      simp only [wr_ap]
      by_cases hij : i = j
      · simp [hij, w1a, w1b]
      · simp [hij, a1, a2, a3]
    have p3 : M7 o 3 0 = nI (γ.1 5 0) := by rw [hM7]; simp [wr_ap, w2]
    have p4 : M7 o 4 0 = w.2 := by rw [hM7]; simp [wr_ap, w3]
    have p6 : M7 o 6 0 = nI (w.1 6 0) := by rw [hM7]; simp [wr_ap, w5]
    have p7 : M7 o 7 0 = nI (w.1 7 0) := by rw [hM7]; simp [wr_ap, w6]
    have pg : M7 g 3 2 = nI (γ.1 3 2) := by rw [hM7]; simp [wr_ap, hne, g2 2 (by omega)]
    have pf : frO o M M7 := by
      intro x hx
      rw [hM7, wr_ob _ _ _ _ _ hx, wr_ob _ _ _ _ _ hx, wr_ob _ _ _ _ _ hx, wr_ob _ _ _ _ _ hx]
    rw [p10, cl2, pg, nI_eq (by omega) (by omega)]
    have hmw : mW γ k j w = if pu γ w j = γ.1 3 2 then mBack γ j w else mStay γ j w := by unfold mW; rw [if_neg (by omega)]
    refine ⟨fun hgr => ?_, fun hgr => ?_⟩
    · rw [hmw, if_pos hgr]
      refine (cl_halve (r := w.1 0) h8 p3 (fun i hi => (p0 i hi).1) (fun i hi => (bi' i hi).1) p7).mono (fun M' ⟨⟨f1, f2⟩, f3, f4, f5⟩ => ?_)
      refine ⟨⟨fun i hi => ⟨f4 i hi, ?_, ?_⟩, ?_, ?_, ?_, ?_, f5⟩, ⟨f3, ?_, ?_, ?_⟩, pf.tr f1⟩
      · rw [f2 1 (by decide)]; exact (p0 i hi).2.1
      · rw [f2 2 (by decide)]; exact (p0 i hi).2.2
      · rw [f2 3 (by decide)]; exact p3
      · rw [f2 4 (by decide)]; exact p4
      · rw [f2 5 (by decide)]; exact p5
      · rw [f2 6 (by decide)]; exact p6
      · rw [f2 9 (by decide)]; exact p9
      · rw [f2 10 (by decide)]; exact p10
      · rw [f2 11 (by decide)]; exact p11
    · rw [hmw, if_neg hgr]
      refine (cl_bestow (r0 := w.1 0) (r1 := w.1 1) h8 hj (fun i hi => ⟨(p0 i hi).1, (p0 i hi).2.1⟩) hpu (by omega) p9 p10).mono (fun M' ⟨⟨f1, f2⟩, f3, f4, f5⟩ => ?_)
      refine ⟨⟨fun i hi => ⟨(f5 i hi).1, (f5 i hi).2, ?_⟩, ?_, ?_, ?_, ?_, ?_⟩, ⟨f3, ?_, ?_, f4⟩, pf.tr f1⟩
      · rw [f2 2 (by decide)]; exact (p0 i hi).2.2
      · rw [f2 3 (by decide)]; exact p3
      · rw [f2 4 (by decide)]; exact p4
      · rw [f2 5 (by decide)]; exact p5
      · rw [f2 6 (by decide)]; exact p6
      · rw [f2 7 (by decide)]; exact p7
      · rw [f2 9 (by decide)]; exact p9
      · rw [f2 10 (by decide)]; exact p10
  · have hmw : mW γ k j w = mKick γ j w := by unfold mW; rw [if_pos (by omega)]
    rw [hmw]
    refine (cl_disin (w := w) h8 ⟨fun i hi => ?_, ?_, ?_, ?_, ?_, ?_⟩ ?_ hc ?_ hj).mono (fun M' ⟨f1, f2, f3⟩ => ⟨f1, f2, fun x hx => by rw [f3 x hx, wr_ob _ _ _ _ _ hx]⟩)
    · simp [wr_ap, w1 i hi]
    · simp [wr_ap, w2]
    · simp [wr_ap, w3]
    · simp [wr_ap, w4]
    · simp [wr_ap, w5]
    · simp [wr_ap, w6]
    · simp [wr_ap, e9]
    · simp [wr_ap, e11]
