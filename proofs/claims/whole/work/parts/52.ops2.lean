/-! ===== type, wipe, undo, fault ===== -/
/-- the texts of S, changed -/
def sT (S : St) (x n : Nat) (g : Nat → Nat) : St := sU (sU S x g) 2 (uN (S.1 2) x n)
theorem okS_T0 {S : St} (h : okS S) {n : Nat} {g : Nat → Nat} (hn : n ≤ 31) (hg : ∀ i, i < n → g i ≤ 255) : okS (sT S 0 n g) := by
  obtain ⟨h1, h2, h3, h4, h5, h6, h7⟩ := h
  refine ⟨⟨?_, ?_⟩, ?_, h3, h4, h5, h6, h7⟩
  · simpa [sT, sU, uN] using hn
  · simpa [sT, sU, uN] using hg
  · simpa [sT, sU, uN] using h2
theorem okS_T1 {S : St} (h : okS S) {n : Nat} {g : Nat → Nat} (hn : n ≤ 20) (hg : ∀ i, i < n → g i ≤ 255) : okS (sT S 1 n g) := by
  obtain ⟨h1, h2, h3, h4, h5, h6, h7⟩ := h
  refine ⟨?_, ⟨?_, ?_⟩, h3, h4, h5, h6, h7⟩
  · simpa [sT, sU, uN] using h1
  · simpa [sT, sU, uN] using hn
  · simpa [sT, sU, uN] using hg
/-- the class: text 0 has become g, n bytes of it -/
theorem cl_text0 {C M : Mem} {S : St} {n : Nat} {g : Nat → Nat} (hS : okS S) (hC : RC C S) (hn : n ≤ 31) (hg : ∀ i, i < n → g i ≤ 255) (fr : frO 1 C M) (e1 : M 1 1 0 = nI n) (e0 : ∀ i, i < n → M 1 0 i = nI (g i)) : Sp (fX9_takeText M 0) (fun M' => RC M' (sT S 0 n g) ∧ M' 1 = M 1) := by
  obtain ⟨⟨t1, t2, t3, t4, t5, t6⟩, ⟨d1, d2, d3⟩, -⟩ := hC
  obtain ⟨g1, g2, g3, g4, g5, g6, g7⟩ := d1
  refine (cl_take0 (okS_T0 hS hn hg) ⟨⟨?_, ?_⟩, ?_, ?_, ?_, fun s hs => ?_, ?_⟩ ?_ ?_ ?_ ?_ ?_).mono (fun M' ⟨f1, f2⟩ => ⟨f1, f2 1 (by decide)⟩)
  · simpa [sT, sU, uN] using e1
  · simpa [sT, sU, uN] using e0
  · rw [fr 2 (by decide)]; simpa [sT, sU, uN] using t2
  · rw [fr 9 (by decide)]; simpa [sT, sU, uN] using t3
  · rw [fr 10 (by decide)]; simpa [sT, sU, uN] using t4
  · rw [fr (21 + s) (by omega)]; simpa [sT, sU, uN] using t5 s hs
  · rw [fr 0 (by decide)]; simpa [sT, sU, uN] using t6
  · intro i hi
    rw [fr 3 (by decide)]
    exact g2 i hi
  · intro k hk
    rw [fr 3 (by decide)]
    have hk' : k < (told S).1 6 0 := by simpa [told, sT, sU, uN] using hk
    have := g3 k hk'
    simpa [told, sT, sU, uN] using this
  · rw [fr 3 (by decide)]
    simpa [told, sT, sU, uN] using g5
  · rw [fr 3 (by decide)]
    exact g6
  · rw [fr 3 (by decide)]
    exact g7
theorem cl_text1 {C M : Mem} {S : St} {n : Nat} {g : Nat → Nat} (hS : okS S) (hC : RC C S) (hn : n ≤ 20) (hg : ∀ i, i < n → g i ≤ 255) (fr : frO 2 C M) (e1 : M 2 1 0 = nI n) (e0 : ∀ i, i < n → M 2 0 i = nI (g i)) : Sp (fX9_takeText M 1) (fun M' => RC M' (sT S 1 n g) ∧ M' 2 = M 2) := by
  obtain ⟨⟨t1, t2, t3, t4, t5, t6⟩, ⟨d1, d2, d3⟩, -⟩ := hC
  obtain ⟨g1, g2, g3, g4, g5, g6, g7⟩ := d1
  refine (cl_take1 (okS_T1 hS hn hg) ⟨?_, ⟨?_, ?_⟩, ?_, ?_, fun s hs => ?_, ?_⟩ ?_ ?_ ?_ ?_ ?_).mono (fun M' ⟨f1, f2⟩ => ⟨f1, f2 2 (by decide)⟩)
  · rw [fr 1 (by decide)]; simpa [sT, sU, uN] using t1
  · simpa [sT, sU, uN] using e1
  · simpa [sT, sU, uN] using e0
  · rw [fr 9 (by decide)]; simpa [sT, sU, uN] using t3
  · rw [fr 10 (by decide)]; simpa [sT, sU, uN] using t4
  · rw [fr (21 + s) (by omega)]; simpa [sT, sU, uN] using t5 s hs
  · rw [fr 0 (by decide)]; simpa [sT, sU, uN] using t6
  · intro i hi
    rw [fr 3 (by decide)]
    have hi' : i < (told S).1 5 0 := by simpa [told, sT, sU, uN] using hi
    have := g1 i hi'
    simpa [told, sT, sU, uN] using this
  · intro i hi
    rw [fr 3 (by decide)]
    exact g2 i hi
  · rw [fr 3 (by decide)]
    simpa [told, sT, sU, uN] using g4
  · rw [fr 3 (by decide)]
    exact g6
  · rw [fr 3 (by decide)]
    exact g7
/-- the reference: text 0 has become g, n bytes of it -/
theorem md_text0 {R M : Mem} {S : St} {n : Nat} {g : Nat → Nat} (hR : RR R S) (fr : ∀ f, f ≠ 0 → f ≠ 1 → M 0 f = R 0 f) (e1 : M 0 0 0 = nI n) (e1' : M 0 0 1 = R 0 0 1) (e0 : ∀ i, i < n → M 0 1 i = nI (g i)) (e0' : ∀ i, M 0 1 (31 + i) = R 0 1 (31 + i)) : RR M (sT S 0 n g) := by
  obtain ⟨t1, t2, t3, t4, t5, t6, t7⟩ := hR
  refine ⟨⟨?_, ?_⟩, ⟨?_, fun i hi => ?_⟩, ?_, ?_, ?_, ?_, ?_⟩
  · simpa [sT, sU, uN] using e1
  · simpa [sT, sU, uN] using e0
  · rw [e1']; simpa [sT, sU, uN] using t2.1
  · rw [e0']
    have hi' : i < S.1 2 1 := by simpa [sT, sU, uN] using hi
    simpa [sT, sU, uN] using t2.2 i hi'
  · rw [fr 8 (by decide) (by decide)]; exact t3
  · rw [fr 9 (by decide) (by decide), fr 10 (by decide) (by decide)]; exact t4
  · rw [fr 32 (by decide) (by decide), fr 33 (by decide) (by decide), fr 34 (by decide) (by decide)]; exact t5
  · rw [fr 36 (by decide) (by decide), fr 37 (by decide) (by decide), fr 38 (by decide) (by decide), fr 39 (by decide) (by decide)]; exact t6
  · rw [fr 41 (by decide) (by decide)]; exact t7
theorem md_text1 {R M : Mem} {S : St} {n : Nat} {g : Nat → Nat} (hS : okS S) (hR : RR R S) (fr : ∀ f, f ≠ 0 → f ≠ 1 → M 0 f = R 0 f) (e1 : M 0 0 1 = nI n) (e1' : M 0 0 0 = R 0 0 0) (e0 : ∀ i, i < n → M 0 1 (31 + i) = nI (g i)) (e0' : ∀ i, i < 31 → M 0 1 i = R 0 1 i) : RR M (sT S 1 n g) := by
  obtain ⟨t1, t2, t3, t4, t5, t6, t7⟩ := hR
  refine ⟨⟨?_, fun i hi => ?_⟩, ⟨?_, ?_⟩, ?_, ?_, ?_, ?_, ?_⟩
  · rw [e1']; simpa [sT, sU, uN] using t1.1
  · have hi' : i < S.1 2 0 := by simpa [sT, sU, uN] using hi
    rw [e0' i (by have := hS.1.1; omega)]
    simpa [sT, sU, uN] using t1.2 i hi'
  · simpa [sT, sU, uN] using e1
  · simpa [sT, sU, uN] using e0
  · rw [fr 8 (by decide) (by decide)]; exact t3
  · rw [fr 9 (by decide) (by decide), fr 10 (by decide) (by decide)]; exact t4
  · rw [fr 32 (by decide) (by decide), fr 33 (by decide) (by decide), fr 34 (by decide) (by decide)]; exact t5
  · rw [fr 36 (by decide) (by decide), fr 37 (by decide) (by decide), fr 38 (by decide) (by decide), fr 39 (by decide) (by decide)]; exact t6
  · rw [fr 41 (by decide) (by decide)]; exact t7
theorem op_type {C R : Mem} (h : Rel C R) (a b : Int32) : ∃ (r : Int32) (C' R' : Mem), fX9_type C a b = some (r, C') ∧ fX10_type R a b = some (r, R') ∧ Rel C' R' := by
  obtain ⟨S, hS, hC, hR⟩ := h
  by_cases a0 : a = 0
  · subst a0
    rcases ixI b (n := 256) (by omega) with hb | ⟨j, hj, rfl⟩
    · refine op_rw (S' := S) (r := -2) hS ?_ ?_
      · unfold fX9_type
        simp only [sp_gd, sp_nm, sp_bind, sp_ite, sp_some, sp_inr]
        exact Sp.of isT_0 ⟨fun z => absurd z (by decide), fun _ => Sp.of (w_0 (n := 255) hb (by omega)) ⟨fun _ => ⟨trivial, hC⟩, fun z => absurd rfl z⟩⟩
      · unfold fX10_type
        simp only [sp_gd, sp_nm, sp_bind, sp_ite, sp_some, sp_inr]
        exact Sp.of mT_0 ⟨fun z => absurd z (by decide), fun _ => Sp.of (in_0 (n := 255) hb (by omega)) ⟨fun _ => ⟨trivial, hR⟩, fun z => absurd rfl z⟩⟩
    · have h31 := hS.1.1
      by_cases hf : S.1 2 0 = 31
      · refine op_rw (S' := S) (r := -4) hS ?_ ?_
        · unfold fX9_type fX3_isFull
          simp only [sp_gd, sp_nm, sp_bind, sp_ite, sp_some, sp_inr]
          refine Sp.of isT_0 ⟨fun z => absurd z (by decide), fun _ => Sp.of (w_1 (j := j) (n := 255) (by omega) (by omega)) ⟨fun z => absurd z (by decide), fun _ => ?_⟩⟩
          refine Sp.of (z := 1) (by unfold fX9_scriptOf; rw [if_pos rfl]) ?_
          rw [hC.1.1.1, if_pos rfl, hf]
          exact ⟨fun z => absurd z (by decide), fun _ => ⟨fun z => absurd z (by decide), fun _ => ⟨trivial, hC⟩⟩⟩
        · unfold fX10_type fX10_type_38
          simp only [sp_gd, sp_nm, sp_bind, sp_ite, sp_some, sp_inr]
          refine Sp.of mT_0 ⟨fun z => absurd z (by decide), fun _ => Sp.of (in_1 (j := j) (n := 255) (by omega) (by omega)) ⟨fun z => absurd z (by decide), fun _ => ⟨by decide, fun _ => ?_, fun z => absurd trivial z⟩⟩⟩
          rw [cl0, hR.1.1, hf]
          exact ⟨fun _ => ⟨trivial, hR⟩, fun z => absurd rfl z⟩
      · have hlt : S.1 2 0 < 31 := by omega
        refine op_rw (S' := sT S 0 (S.1 2 0 + 1) (uN (S.1 0) (S.1 2 0) j)) (r := nI (S.1 2 0 + 1)) (okS_T0 hS (by omega) (fun i hi => ?_)) ?_ ?_
        · unfold uN
          split
          · omega
          · exact hS.1.2 i (by omega)
        · unfold fX9_type fX3_isFull fX3_append fX3_isFull
          simp only [sp_gd, sp_nm, sp_bind, sp_ite, sp_some, sp_inr]
          refine Sp.of isT_0 ⟨fun z => absurd z (by decide), fun _ => Sp.of (w_1 (j := j) (n := 255) (by omega) (by omega)) ⟨fun z => absurd z (by decide), fun _ => ?_⟩⟩
          refine Sp.of (z := 1) (by unfold fX9_scriptOf; rw [if_pos rfl]) ?_
          rw [hC.1.1.1, if_pos rfl, nI_ltI (by omega) (by omega), inB_nI (by omega), nI_clamp (by omega)]
          refine ⟨fun _ => ⟨fun _ => ⟨fun _ => ⟨fun _ => ⟨hlt, ?_⟩, fun z => absurd trivial z⟩, fun z => absurd hlt z⟩, fun z => absurd trivial z⟩, fun z => absurd hlt z⟩
          have e : (wr C 1 0 (S.1 2 0) (nI j)) 1 1 0 = nI (S.1 2 0) := by rw [wr_row _ _ _ _ _ (by decide)]; exact hC.1.1.1
          rw [e, nI_1]
          refine (cl_text0 (n := S.1 2 0 + 1) (g := uN (S.1 0) (S.1 2 0) j) hS hC (by omega) (fun i hi => ?_) (fun x hx => by rw [wr_ob _ _ _ _ _ hx, wr_ob _ _ _ _ _ hx]) (by simp [wr_ap]) (fun i hi => ?_)).mono (fun M' ⟨f1, f2⟩ => ⟨by rw [f2]; simp [wr_ap], f1⟩)
          · unfold uN
            split
            · omega
            · exact hS.1.2 i (by omega)
          · rw [wr_row _ _ _ _ _ (by decide), wr_ap]
            unfold uN
            by_cases hi2 : i = S.1 2 0
            · simp [hi2]
            · simp [hi2]
              exact hC.1.1.2 i (by omega)
        · unfold fX10_type fX10_type_38
          simp only [sp_gd, sp_nm, sp_bind, sp_ite, sp_some, sp_inr]
          refine Sp.of mT_0 ⟨fun z => absurd z (by decide), fun _ => Sp.of (in_1 (j := j) (n := 255) (by omega) (by omega)) ⟨fun z => absurd z (by decide), fun _ => ⟨by decide, fun _ => ?_, fun z => absurd trivial z⟩⟩⟩
          rw [cl0, hR.1.1]
          have e31 : ((31 : Int32) * 0 + nI (S.1 2 0)) = nI (S.1 2 0) := by rw [il31, il0, pk_mul, nI_add]; congr 1; omega
          rw [e31, nI_clamp (by omega), inB_nI (by omega)]
          have e : (wr R 0 1 (S.1 2 0) (nI j)) 0 0 0 = nI (S.1 2 0) := by rw [wr_row _ _ _ _ _ (by decide)]; exact hR.1.1
          rw [e, nI_1]
          refine ⟨fun z => absurd ((nI_ev 31 il31 (by omega) (by omega)).mp z) hf, fun _ => ⟨by decide, by omega, by decide, by decide, by decide, by simp [wr_ap], ?_⟩⟩
          refine md_text0 hR (fun f n0 n1 => by rw [wr_row _ _ _ _ _ (fun z => n0 z.2), wr_row _ _ _ _ _ (fun z => n1 z.2)]) (by simp [wr_ap]) (by simp [wr_ap]) (fun i hi => ?_) (fun i => ?_)
          · rw [wr_row _ _ _ _ _ (by decide), wr_ap]
            unfold uN
            by_cases hi2 : i = S.1 2 0
            · simp [hi2]
            · simp [hi2]
              exact hR.1.2 i (by omega)
          · rw [wr_row _ _ _ _ _ (by decide), wr_ap, if_neg (by omega)]
  · by_cases a1 : a = 1
    · subst a1
      rcases ixI b (n := 256) (by omega) with hb | ⟨j, hj, rfl⟩
      · refine op_rw (S' := S) (r := -2) hS ?_ ?_
        · unfold fX9_type
          simp only [sp_gd, sp_nm, sp_bind, sp_ite, sp_some, sp_inr]
          exact Sp.of isT_1 ⟨fun z => absurd z (by decide), fun _ => Sp.of (w_0 (n := 255) hb (by omega)) ⟨fun _ => ⟨trivial, hC⟩, fun z => absurd rfl z⟩⟩
        · unfold fX10_type
          simp only [sp_gd, sp_nm, sp_bind, sp_ite, sp_some, sp_inr]
          exact Sp.of mT_1' ⟨fun z => absurd z (by decide), fun _ => Sp.of (in_0 (n := 255) hb (by omega)) ⟨fun _ => ⟨trivial, hR⟩, fun z => absurd rfl z⟩⟩
      · have h20 := hS.2.1.1
        by_cases hf : S.1 2 1 = 20
        · refine op_rw (S' := S) (r := -4) hS ?_ ?_
          · unfold fX9_type fX3_isFull
            simp only [sp_gd, sp_nm, sp_bind, sp_ite, sp_some, sp_inr]
            refine Sp.of isT_1 ⟨fun z => absurd z (by decide), fun _ => Sp.of (w_1 (j := j) (n := 255) (by omega) (by omega)) ⟨fun z => absurd z (by decide), fun _ => ?_⟩⟩
            refine Sp.of (z := 2) (by unfold fX9_scriptOf; rw [if_neg (by decide)]) ?_
            rw [hC.1.2.1.1, if_neg (by decide), hf]
            exact ⟨fun z => absurd z (by decide), fun _ => ⟨fun z => absurd z (by decide), fun _ => ⟨trivial, hC⟩⟩⟩
          · unfold fX10_type fX10_type_38
            simp only [sp_gd, sp_nm, sp_bind, sp_ite, sp_some, sp_inr]
            refine Sp.of mT_1' ⟨fun z => absurd z (by decide), fun _ => Sp.of (in_1 (j := j) (n := 255) (by omega) (by omega)) ⟨fun z => absurd z (by decide), fun _ => ⟨by decide, fun z => absurd z (by decide), fun _ => ?_⟩⟩⟩
            rw [cl1, hR.2.1.1, hf]
            exact ⟨fun _ => ⟨trivial, hR⟩, fun z => absurd rfl z⟩
        · have hlt : S.1 2 1 < 20 := by omega
          refine op_rw (S' := sT S 1 (S.1 2 1 + 1) (uN (S.1 1) (S.1 2 1) j)) (r := nI (S.1 2 1 + 1)) (okS_T1 hS (by omega) (fun i hi => ?_)) ?_ ?_
          · unfold uN
            split
            · omega
            · exact hS.2.1.2 i (by omega)
          · unfold fX9_type fX3_isFull fX3_append fX3_isFull
            simp only [sp_gd, sp_nm, sp_bind, sp_ite, sp_some, sp_inr]
            refine Sp.of isT_1 ⟨fun z => absurd z (by decide), fun _ => Sp.of (w_1 (j := j) (n := 255) (by omega) (by omega)) ⟨fun z => absurd z (by decide), fun _ => ?_⟩⟩
            refine Sp.of (z := 2) (by unfold fX9_scriptOf; rw [if_neg (by decide)]) ?_
            rw [hC.1.2.1.1, if_neg (by decide), nI_ltI (by omega) (by omega), inB_nI (by omega), nI_clamp (by omega)]
            refine ⟨fun _ => ⟨fun _ => ⟨fun _ => ⟨fun _ => ⟨hlt, ?_⟩, fun z => absurd trivial z⟩, fun z => absurd hlt z⟩, fun z => absurd trivial z⟩, fun z => absurd hlt z⟩
            have e : (wr C 2 0 (S.1 2 1) (nI j)) 2 1 0 = nI (S.1 2 1) := by rw [wr_row _ _ _ _ _ (by decide)]; exact hC.1.2.1.1
            rw [e, nI_1]
            refine (cl_text1 (n := S.1 2 1 + 1) (g := uN (S.1 1) (S.1 2 1) j) hS hC (by omega) (fun i hi => ?_) (fun x hx => by rw [wr_ob _ _ _ _ _ hx, wr_ob _ _ _ _ _ hx]) (by simp [wr_ap]) (fun i hi => ?_)).mono (fun M' ⟨f1, f2⟩ => ⟨by rw [f2]; simp [wr_ap], f1⟩)
            · unfold uN
              split
              · omega
              · exact hS.2.1.2 i (by omega)
            · rw [wr_row _ _ _ _ _ (by decide), wr_ap]
              unfold uN
              by_cases hi2 : i = S.1 2 1
              · simp [hi2]
              · simp [hi2]
                exact hC.1.2.1.2 i (by omega)
          · unfold fX10_type fX10_type_38
            simp only [sp_gd, sp_nm, sp_bind, sp_ite, sp_some, sp_inr]
            refine Sp.of mT_1' ⟨fun z => absurd z (by decide), fun _ => Sp.of (in_1 (j := j) (n := 255) (by omega) (by omega)) ⟨fun z => absurd z (by decide), fun _ => ⟨by decide, fun z => absurd z (by decide), fun _ => ?_⟩⟩⟩
            rw [cl1, hR.2.1.1]
            have e31 : ((31 : Int32) * 1 + nI (S.1 2 1)) = nI (31 + S.1 2 1) := by rw [il31, il1, pk_mul, nI_add]
            rw [e31, nI_clamp (by omega), inB_nI (by omega)]
            have e : (wr R 0 1 (31 + S.1 2 1) (nI j)) 0 0 1 = nI (S.1 2 1) := by rw [wr_row _ _ _ _ _ (by decide)]; exact hR.2.1.1
            rw [e, nI_1]
            refine ⟨fun z => absurd ((nI_ev 20 il20 (by omega) (by omega)).mp z) hf, fun _ => ⟨by decide, by omega, by decide, by decide, by decide, by simp [wr_ap], ?_⟩⟩
            refine md_text1 hS hR (fun f n0 n1 => by rw [wr_row _ _ _ _ _ (fun z => n0 z.2), wr_row _ _ _ _ _ (fun z => n1 z.2)]) (by simp [wr_ap]) (by simp [wr_ap]) (fun i hi => ?_) (fun i hi => ?_)
            · rw [wr_row _ _ _ _ _ (by decide), wr_ap]
              unfold uN
              by_cases hi2 : i = S.1 2 1
              · simp [hi2]
              · rw [if_neg (by omega), if_neg hi2]
                exact hR.2.1.2 i (by omega)
            · rw [wr_row _ _ _ _ _ (by decide), wr_ap, if_neg (by omega)]
    · refine op_rw (S' := S) (r := -2) hS ?_ ?_
      · unfold fX9_type
        simp only [sp_gd, sp_nm, sp_bind, sp_ite, sp_some, sp_inr]
        exact Sp.of (isT_n a0 a1) ⟨fun _ => ⟨trivial, hC⟩, fun z => absurd rfl z⟩
      · unfold fX10_type
        simp only [sp_gd, sp_nm, sp_bind, sp_ite, sp_some, sp_inr]
        exact Sp.of (mT_n a0 a1) ⟨fun _ => ⟨trivial, hR⟩, fun z => absurd rfl z⟩
