/-! ===== set, fly, back, seen, forget; the sheets ===== -/
theorem cs_0 {a : Int32} (h : outI a 4) : fX9_isSheet a = some 0 := by
  apply Sp.eq
  unfold fX9_isSheet
  simp only [sp_gd, sp_nm, sp_bind, sp_ite, sp_some, sp_inr]
  exact Sp.of (w_0 (n := 3) h (by omega)) ⟨Or.inl rfl, rfl⟩
theorem cs_1 {j : Nat} (h : j < 4) : fX9_isSheet (nI j) = some 1 := by
  apply Sp.eq
  unfold fX9_isSheet
  simp only [sp_gd, sp_nm, sp_bind, sp_ite, sp_some, sp_inr]
  exact Sp.of (w_1 (j := j) (n := 3) (by omega) (by omega)) ⟨Or.inr rfl, rfl⟩
theorem cf_0 {a : Int32} (h : outI a 3) : fX9_isForm a = some 0 := by
  apply Sp.eq
  unfold fX9_isForm
  simp only [sp_gd, sp_nm, sp_bind, sp_ite, sp_some, sp_inr]
  exact Sp.of (w_0 (n := 2) h (by omega)) ⟨Or.inl rfl, rfl⟩
theorem cf_1 {j : Nat} (h : j < 3) : fX9_isForm (nI j) = some 1 := by
  apply Sp.eq
  unfold fX9_isForm
  simp only [sp_gd, sp_nm, sp_bind, sp_ite, sp_some, sp_inr]
  exact Sp.of (w_1 (j := j) (n := 2) (by omega) (by omega)) ⟨Or.inr rfl, rfl⟩
theorem ms_0 {a : Int32} (h : outI a 4) : fX10_isSheet a = some 0 := by
  apply Sp.eq
  unfold fX10_isSheet
  simp only [sp_gd, sp_nm, sp_bind, sp_ite, sp_some, sp_inr]
  exact Sp.of (in_0 (n := 3) h (by omega)) ⟨Or.inl rfl, rfl⟩
theorem ms_1 {j : Nat} (h : j < 4) : fX10_isSheet (nI j) = some 1 := by
  apply Sp.eq
  unfold fX10_isSheet
  simp only [sp_gd, sp_nm, sp_bind, sp_ite, sp_some, sp_inr]
  exact Sp.of (in_1 (j := j) (n := 3) (by omega) (by omega)) ⟨Or.inr rfl, rfl⟩
theorem mst_0 {a : Int32} (h : outI a 20) : fX10_isStop a = some 0 := by
  apply Sp.eq
  unfold fX10_isStop
  simp only [sp_gd, sp_nm, sp_bind, sp_ite, sp_some, sp_inr]
  exact Sp.of (in_0 (n := 19) h (by omega)) ⟨Or.inl rfl, rfl⟩
theorem mst_1 {j : Nat} (h : j < 20) : fX10_isStop (nI j) = some 1 := by
  apply Sp.eq
  unfold fX10_isStop
  simp only [sp_gd, sp_nm, sp_bind, sp_ite, sp_some, sp_inr]
  exact Sp.of (in_1 (j := j) (n := 19) (by omega) (by omega)) ⟨Or.inr rfl, rfl⟩
theorem RC.set {C C' : Mem} {S S' : St} (h : RC C S) (fr : frS [0, 10, 21, 22, 23, 24] C C') (f0 : ∀ f, f = 8 ∨ f = 11 ∨ f = 12 → C' 0 f = C 0 f) (ht : RT C' S') (e : told S' = told S) (e4 : S'.1 4 = S.1 4) (e5 : S'.1 5 = S.1 5) : RC C' S' := by
  obtain ⟨-, ⟨d1, d2, d3⟩, k1, k2⟩ := h
  refine ⟨ht, ⟨?_, ?_, ?_⟩, ?_, ?_⟩
  · rw [e, fr 3 (by decide)]; exact d1
  · rw [e, fr 5 (by decide)]; exact d2
  · rw [e, fr 4 (by decide)]; exact d3
  · rw [f0 11 (by decide), e, fr 11 (by decide)]; exact k1
  · rw [f0 12 (by decide), f0 8 (by decide)]
    rcases k2 with k2 | k2
    · exact Or.inl k2
    · refine Or.inr ⟨k2.1, fun m hm => ?_⟩
      have := k2.2 m (by rw [← e5]; exact hm)
      rw [this]
      unfold richM
      rw [e, e4, e5]
/-! a finding -/
def sFd (S : St) (k : Nat) : St := sU S 12 (fun _ => k)
theorem okS_Fd {S : St} (h : okS S) {k : Nat} (hk : k ≤ 5) : okS (sFd S k) := by
  obtain ⟨h1, h2, h3, h4, h5, h6, h7⟩ := h
  exact ⟨h1, h2, h3, h4, h5, h6, hk⟩
theorem cl_found {C : Mem} {S : St} (hC : RC C S) (k : Nat) : Sp (fX9_found C (nI k)) (fun z => z.1 = (-10 : Int32) - nI k ∧ RC z.2 (sFd S k)) := by
  unfold fX9_found
  simp only [sp_gd, sp_nm, sp_bind, sp_ite, sp_some, sp_inr]
  refine ⟨(by trivial), hC.set (fun o ho => ?_) (fun f hf => ?_) ⟨?_, ?_, ?_, ?_, fun s hs => ?_, ?_⟩ rfl rfl rfl⟩
  · have ho' := ho
    simp at ho'
    exact wr_ob _ _ _ _ _ ho'.1
  · exact wr_row _ _ _ _ _ (by omega)
  · rw [wr_ob _ _ _ _ _ (by decide)]; exact hC.1.1
  · rw [wr_ob _ _ _ _ _ (by decide)]; exact hC.1.2.1
  · rw [wr_ob _ _ _ _ _ (by decide)]; exact hC.1.2.2.1
  · rw [wr_ob _ _ _ _ _ (by decide)]; exact hC.1.2.2.2.1
  · rw [wr_ob _ _ _ _ _ (by omega)]; exact hC.1.2.2.2.2.1 s hs
  · simp [wr_ap, sFd, sU]
theorem RR.fd {R : Mem} {S : St} (hR : RR R S) (k : Nat) : RR (wr R 0 41 0 (nI k)) (sFd S k) := by
  obtain ⟨h1, h2, h3, h4, h5, h6, h7⟩ := hR
  refine ⟨?_, ?_, ?_, ?_, ?_, ?_, ?_⟩
  · rw [wr_row _ _ _ _ _ (by decide), wr_row _ _ _ _ _ (by decide)]; exact h1
  · rw [wr_row _ _ _ _ _ (by decide), wr_row _ _ _ _ _ (by decide)]; exact h2
  · rw [wr_row _ _ _ _ _ (by decide)]; exact h3
  · rw [wr_row _ _ _ _ _ (by decide), wr_row _ _ _ _ _ (by decide)]; exact h4
  · rw [wr_row _ _ _ _ _ (by decide), wr_row _ _ _ _ _ (by decide), wr_row _ _ _ _ _ (by decide)]; exact h5
  · rw [wr_row _ _ _ _ _ (by decide), wr_row _ _ _ _ _ (by decide), wr_row _ _ _ _ _ (by decide), wr_row _ _ _ _ _ (by decide)]; exact h6
  · simp [wr_ap, sFd, sU]
theorem md_meets {R : Mem} {S : St} (hR : RR R S) (k : Nat) : Sp (fX10_meets R (nI k)) (fun z => z.1 = (-10 : Int32) - nI k ∧ RR z.2 (sFd S k)) := by
  unfold fX10_meets
  simp only [sp_gd, sp_nm, sp_bind, sp_ite, sp_some, sp_inr]
  exact ⟨(by trivial), hR.fd k⟩
/-! set -/
theorem tMost_eq {j : Nat} : tMost j = nI (if j = 2 then 19 else 9) := by
  unfold tMost
  split <;> rfl
theorem cl_set {C : Mem} {S : St} {j v : Nat} (hS' : okS (sU S 3 (uN (S.1 3) j v))) (hC : RC C S) (hj : j < 4) : Sp (fX9_retell (wr C 3 3 j (nI v))) (fun M' => RC M' (sU S 3 (uN (S.1 3) j v))) := by
  obtain ⟨g1, g2, g3, g4, g5, g6, g7⟩ := hC.2.1.1
  refine (cl_retell hS' ?_ ⟨fun i hi => ?_, fun i hi => ?_, fun k hk => ?_, ?_, ?_, ?_, ?_⟩).mono (fun M' h => h.1)
  · obtain ⟨t1, t2, t3, t4, t5, t6⟩ := hC.1
    refine ⟨?_, ?_, ?_, ?_, fun s hs => ?_, ?_⟩
    · rw [wr_ob _ _ _ _ _ (by decide)]; exact t1
    · rw [wr_ob _ _ _ _ _ (by decide)]; exact t2
    · rw [wr_ob _ _ _ _ _ (by decide)]; exact t3
    · rw [wr_ob _ _ _ _ _ (by decide)]; exact t4
    · rw [wr_ob _ _ _ _ _ (by omega)]; exact t5 s hs
    · rw [wr_ob _ _ _ _ _ (by decide)]; exact t6
  · rw [wr_row _ _ _ _ _ (by decide), wr_row _ _ _ _ _ (by decide), wr_row _ _ _ _ _ (by decide)]; exact g1 i hi
  · show _ = nI (uN (S.1 3) j v i)
    rw [wr_ap]
    unfold uN
    by_cases hij : i = j
    · simp [hij]
    · simp [hij]; exact g2 i hi
  · rw [wr_row _ _ _ _ _ (by decide)]; exact g3 k hk
  · rw [wr_row _ _ _ _ _ (by decide)]; exact g4
  · rw [wr_row _ _ _ _ _ (by decide)]; exact g5
  · rw [wr_row _ _ _ _ _ (by decide)]; exact g6
  · rw [wr_row _ _ _ _ _ (by decide)]; exact g7
theorem md_set {R : Mem} {S : St} {j v : Nat} (hR : RR R S) : RR (wr R 0 8 j (nI v)) (sU S 3 (uN (S.1 3) j v)) := by
  obtain ⟨h1, h2, h3, h4, h5, h6, h7⟩ := hR
  refine ⟨?_, ?_, fun i hi => ?_, ?_, ?_, ?_, ?_⟩
  · rw [wr_row _ _ _ _ _ (by decide), wr_row _ _ _ _ _ (by decide)]; exact h1
  · rw [wr_row _ _ _ _ _ (by decide), wr_row _ _ _ _ _ (by decide)]; exact h2
  · show _ = nI (uN (S.1 3) j v i)
    rw [wr_ap]
    unfold uN
    by_cases hij : i = j
    · simp [hij]
    · simp [hij]; exact h3 i hi
  · rw [wr_row _ _ _ _ _ (by decide), wr_row _ _ _ _ _ (by decide)]; exact h4
  · rw [wr_row _ _ _ _ _ (by decide), wr_row _ _ _ _ _ (by decide), wr_row _ _ _ _ _ (by decide)]; exact h5
  · rw [wr_row _ _ _ _ _ (by decide), wr_row _ _ _ _ _ (by decide), wr_row _ _ _ _ _ (by decide), wr_row _ _ _ _ _ (by decide)]; exact h6
  · rw [wr_row _ _ _ _ _ (by decide)]; exact h7
theorem op_set {C R : Mem} (h : Rel C R) (a b : Int32) : ∃ (r : Int32) (C' R' : Mem), fX9_set C a b = some (r, C') ∧ fX10_set R a b = some (r, R') ∧ Rel C' R' := by
  obtain ⟨S, hS, hC, hR⟩ := h
  have e41 : (4 : Int32) - (1 : Int32) = nI 3 := by decide
  rcases ixI a (n := 4) (by omega) with ha | ⟨j, hj, rfl⟩
  · refine op_rw (S' := S) (r := -2) hS ?_ ?_
    · unfold fX9_set
      simp only [sp_gd, sp_nm, sp_bind, sp_ite, sp_some, sp_inr]
      rw [e41]
      exact Sp.of (w_0 (n := 3) ha (by omega)) ⟨fun _ => ⟨(by trivial), hC⟩, fun z => absurd rfl z⟩
    · unfold fX10_set
      simp only [sp_gd, sp_nm, sp_bind, sp_ite, sp_some, sp_inr]
      exact Sp.of (in_0 (n := 3) ha (by omega)) ⟨fun _ => ⟨(by trivial), hR⟩, fun z => absurd rfl z⟩
  · have hq : (if j = 2 then 19 else 9) ≤ 19 := by split <;> omega
    have k23 : ∀ {P : Int32 × Mem → Prop}, Sp (fX10_set_23 (nI j) b (nI (if j = 2 then 19 else 9)) 0 b R) P → Sp (fX10_set R (nI j) b) P := by
      intro P hP
      unfold fX10_set
      simp only [sp_gd, sp_nm, sp_bind, sp_ite, sp_some, sp_inr]
      refine Sp.of (in_1 (j := j) (n := 3) (by omega) (by omega)) ⟨fun z => absurd z (by decide), fun _ => ⟨fun e => ?_, fun e => ?_⟩⟩
      · have : j = 2 := (nI_e2 (by omega)).mp e
        rw [if_pos this] at hP; exact hP
      · have : ¬ j = 2 := fun q => e ((nI_e2 (by omega)).mpr q)
        rw [if_neg this] at hP; exact hP
    rcases ixI b (n := (if j = 2 then 19 else 9) + 1) (by omega) with hb | ⟨v, hv, rfl⟩
    · refine op_rw (S' := S) (r := -2) hS ?_ (k23 ?_)
      · unfold fX9_set
        simp only [sp_gd, sp_nm, sp_bind, sp_ite, sp_some, sp_inr]
        rw [e41]
        refine Sp.of (w_1 (j := j) (n := 3) (by omega) (by omega)) ⟨fun z => absurd z (by decide), fun _ => ?_⟩
        rw [inB_nI (by omega), nI_clamp (by omega), tMost_eq]
        exact ⟨hj, Sp.of (w_0 hb (by omega)) ⟨fun _ => ⟨(by trivial), hC⟩, fun z => absurd rfl z⟩⟩
      · unfold fX10_set_23
        simp only [sp_gd, sp_nm, sp_bind, sp_ite, sp_some, sp_inr]
        exact Sp.of (in_0 hb (by omega)) ⟨fun _ => ⟨(by trivial), hR⟩, fun z => absurd rfl z⟩
    · have hS' : okS (sU S 3 (uN (S.1 3) j v)) := by
        obtain ⟨h1, h2, ⟨q0, q1, q2, q3⟩, h4, h5, h6, h7⟩ := hS
        refine ⟨h1, h2, ⟨?_, ?_, ?_, ?_⟩, h4, h5, h6, h7⟩
        · show uN (S.1 3) j v 0 ≤ 9
          unfold uN; split <;> rename_i e
          · rw [if_neg (by omega)] at hv; omega
          · exact q0
        · show uN (S.1 3) j v 1 ≤ 9
          unfold uN; split <;> rename_i e
          · rw [if_neg (by omega)] at hv; omega
          · exact q1
        · show uN (S.1 3) j v 2 ≤ 19
          unfold uN; split
          · omega
          · exact q2
        · show uN (S.1 3) j v 3 ≤ 9
          unfold uN; split <;> rename_i e
          · rw [if_neg (by omega)] at hv; omega
          · exact q3
      refine op_rw (S' := sU S 3 (uN (S.1 3) j v)) (r := nI (S.1 3 j)) hS' ?_ (k23 ?_)
      · unfold fX9_set
        simp only [sp_gd, sp_nm, sp_bind, sp_ite, sp_some, sp_inr]
        rw [e41]
        refine Sp.of (w_1 (j := j) (n := 3) (by omega) (by omega)) ⟨fun z => absurd z (by decide), fun _ => ?_⟩
        rw [inB_nI (by omega), nI_clamp (by omega), tMost_eq]
        refine ⟨hj, Sp.of (w_1 (j := v) (by omega) (by omega)) ⟨fun z => absurd z (by decide), fun _ => ⟨hj, hj, ?_⟩⟩⟩
        exact (cl_set hS' hC hj).mono (fun M' hM' => ⟨hC.2.1.1.2.1 j hj, hM'⟩)
      · unfold fX10_set_23
        simp only [sp_gd, sp_nm, sp_bind, sp_ite, sp_some, sp_inr]
        refine Sp.of (in_1 (j := v) (by omega) (by omega)) ⟨fun z => absurd z (by decide), fun _ => ?_⟩
        rw [inB_nI (by omega), nI_clamp (by omega)]
        exact ⟨hj, hj, hR.2.2.1 j hj, md_set hR⟩
/-! flies -/
def sFl (S : St) (n : Nat) (g : Nat → Nat) : St := sU (sU S 4 g) 5 (fun _ => n)
theorem okS_Fl {S : St} (h : okS S) {n : Nat} {g : Nat → Nat} (hn : n ≤ 6) (hg : ∀ i, i < n → g i < 20) : okS (sFl S n g) := by
  obtain ⟨h1, h2, h3, h4, h5, h6, h7⟩ := h
  exact ⟨h1, h2, h3, ⟨hn, hg⟩, h5, h6, h7⟩
theorem cl_stopsOf {M : Mem} {n : Nat} {g : Nat → Nat} (hn : n ≤ 6) (e1 : M 9 1 0 = nI n) (e0 : ∀ i, i < n → M 9 0 i = nI (g i)) {x : Int32} {kp : Nat → Bool} (hk : ∀ i, i < n → (kp i = true ↔ isO x i)) : fX1_stopsOf M x = some (flB g kp n) := by
  apply Sp.eq
  unfold fX1_stopsOf
  simp only [sp_gd, sp_nm, sp_bind, sp_ite, sp_some, sp_inr]
  refine lp_for (fun i st => st = (flB g kp i, nI i)) n (by omega) ?_ ?_ (Nat.zero_le _) rfl
  · rintro i st hi rfl
    unfold fX1_stopsOf_4 fX1_stopsOf_31
    simp only [sp_gd, sp_nm, sp_bind, sp_ite, sp_some, sp_inr]
    rw [e1, nI_leI (by omega) (by omega), nI_1, inB_nI (by omega), nI_clamp (by omega), e0 i hi]
    refine ⟨fun hc => absurd hc (by omega), fun _ => ⟨fun h0 => ?_, fun h0 => ⟨by omega, ?_⟩⟩⟩
    · show _ = _
      rw [flB, if_neg (fun z => ((hk i hi).mp z) h0)]
    · show _ = _
      rw [flB, if_pos ((hk i hi).mpr h0)]
  · rintro st rfl
    unfold fX1_stopsOf_4
    simp only [sp_gd, sp_nm, sp_bind, sp_ite, sp_some, sp_inr]
    rw [e1, nI_leI (by omega) (by omega)]
    exact ⟨fun _ => rfl, fun hc => absurd (Nat.le_refl _) hc⟩
theorem isO63 (i : Nat) (hi : i < 6) : isO 63 i := by
  have : ∀ i, i < 6 → ¬ ((63 : Int32) >>> (nI i &&& 31)) &&& (1 : Int32) = 0 := by decide +kernel
  exact this i hi
theorem cl_flies {C M : Mem} {S : St} {n : Nat} {g : Nat → Nat} (hS : okS S) (hC : RC C S) (hn : n ≤ 6) (hg : ∀ i, i < n → g i < 20) (fr : frO 9 C M) (e1 : M 9 1 0 = nI n) (e0 : ∀ i, i < n → M 9 0 i = nI (g i)) : Sp (fX9_takeFlies M) (fun M' => RC M' (sFl S n g) ∧ M' 9 = M 9) := by
  obtain ⟨g1, g2, g3, g4, g5, g6, g7⟩ := hC.2.1.1
  obtain ⟨t1, t2, t3, t4, t5, t6⟩ := hC.1
  unfold fX9_takeFlies
  simp only [sp_gd, sp_nm, sp_bind, sp_ite, sp_some, sp_inr]
  refine Sp.of (cl_stopsOf hn e1 e0 (kp := fun _ => true) (fun i hi => ⟨fun _ => isO63 i (by omega), fun _ => rfl⟩)) ?_
  refine (cl_retell (okS_Fl hS hn hg) ⟨?_, ?_, ⟨?_, ?_⟩, ?_, fun s hs => ?_, ?_⟩ ⟨fun i hi => ?_, fun i hi => ?_, fun k hk => ?_, ?_, ?_, ?_, ?_⟩).mono (fun M' ⟨f1, f2⟩ => ⟨f1, ?_⟩)
  · rw [wr_ob _ _ _ _ _ (by decide), fr 1 (by decide)]; exact t1
  · rw [wr_ob _ _ _ _ _ (by decide), fr 2 (by decide)]; exact t2
  · rw [wr_ob _ _ _ _ _ (by decide)]; exact e1
  · rw [wr_ob _ _ _ _ _ (by decide)]; exact e0
  · rw [wr_ob _ _ _ _ _ (by decide), fr 10 (by decide)]; exact t4
  · rw [wr_ob _ _ _ _ _ (by omega), fr (21 + s) (by omega)]; exact t5 s hs
  · rw [wr_ob _ _ _ _ _ (by decide), fr 0 (by decide)]; exact t6
  · rw [wr_row _ _ _ _ _ (by decide), wr_row _ _ _ _ _ (by decide), wr_row _ _ _ _ _ (by decide), fr 3 (by decide)]; exact g1 i hi
  · rw [wr_row _ _ _ _ _ (by decide), fr 3 (by decide)]; exact g2 i hi
  · rw [wr_row _ _ _ _ _ (by decide), fr 3 (by decide)]; exact g3 k hk
  · rw [wr_row _ _ _ _ _ (by decide), fr 3 (by decide)]; exact g4
  · rw [wr_row _ _ _ _ _ (by decide), fr 3 (by decide)]; exact g5
  · simp [wr_ap]; rfl
  · rw [wr_row _ _ _ _ _ (by decide), fr 3 (by decide)]; exact g7
  · rw [f2 9 (by decide), wr_ob _ _ _ _ _ (by decide)]
theorem md_flies {R M : Mem} {S : St} {n : Nat} {g : Nat → Nat} (hR : RR R S) (fr : ∀ f, f ≠ 9 → f ≠ 10 → M 0 f = R 0 f) (e1 : M 0 9 0 = nI n) (e0 : ∀ i, i < n → M 0 10 i = nI (g i)) : RR M (sFl S n g) := by
  obtain ⟨h1, h2, h3, h4, h5, h6, h7⟩ := hR
  refine ⟨?_, ?_, ?_, ⟨e1, e0⟩, ?_, ?_, ?_⟩
  · rw [fr 0 (by decide) (by decide), fr 1 (by decide) (by decide)]; exact h1
  · rw [fr 0 (by decide) (by decide), fr 1 (by decide) (by decide)]; exact h2
  · rw [fr 8 (by decide) (by decide)]; exact h3
  · rw [fr 32 (by decide) (by decide), fr 33 (by decide) (by decide), fr 34 (by decide) (by decide)]; exact h5
  · rw [fr 36 (by decide) (by decide), fr 37 (by decide) (by decide), fr 38 (by decide) (by decide), fr 39 (by decide) (by decide)]; exact h6
  · rw [fr 41 (by decide) (by decide)]; exact h7
theorem cl_append {C : Mem} {n j : Nat} {g : Nat → Nat} (hn : n < 6) (e1 : C 9 1 0 = nI n) (e0 : ∀ i, i < n → C 9 0 i = nI (g i)) : Sp (fX1_append C (nI j)) (fun M => frO 9 C M ∧ M 9 1 0 = nI (n + 1) ∧ ∀ i, i < n + 1 → M 9 0 i = nI (uN g n j i)) := by
  unfold fX1_append
  simp only [sp_gd, sp_nm, sp_bind, sp_ite, sp_some, sp_inr]
  rw [e1, il6, nI_leI (by omega) (by omega), inB_nI (by omega), nI_clamp (by omega), show (wr C 9 0 n (nI j)) 9 1 0 = nI n by rw [wr_row _ _ _ _ _ (by decide)]; exact e1, nI_1]
  refine ⟨fun hc => absurd hc (by omega), fun _ => ⟨hn, fun x hx => by rw [wr_ob _ _ _ _ _ hx, wr_ob _ _ _ _ _ hx], by simp [wr_ap], fun i hi => ?_⟩⟩
  rw [wr_row _ _ _ _ _ (by decide), wr_ap]
  unfold uN
  by_cases hin : i = n
  · simp [hin]
  · simp [hin]; exact e0 i (by omega)
theorem uN_lt {g : Nat → Nat} {n j b : Nat} (h : ∀ i, i < n → g i < b) (hj : j < b) : ∀ i, i < n + 1 → uN g n j i < b := by
  intro i hi
  unfold uN
  split
  · exact hj
  · exact h i (by omega)
/-- fly of the reference -/
theorem md_fly {R : Mem} {S : St} {j : Nat} (hR : RR R S) (hn : S.1 5 0 < 6) (hj : j < 20) : Sp (fX10_fly R (nI j)) (fun z => z.1 = nI (S.1 5 0 + 1) ∧ RR z.2 (sFl S (S.1 5 0 + 1) (uN (S.1 4) (S.1 5 0) j)) ∧ frM [9, 10] R z.2) := by
  unfold fX10_fly
  simp only [sp_gd, sp_nm, sp_bind, sp_ite, sp_some, sp_inr]
  refine Sp.of (mst_1 hj) ⟨fun z => absurd z (by decide), fun _ => ?_⟩
  rw [hR.2.2.2.1.1, inB_nI (by omega), nI_clamp (by omega), show (wr R 0 10 (S.1 5 0) (nI j)) 0 9 0 = nI (S.1 5 0) by rw [wr_row _ _ _ _ _ (by decide)]; exact hR.2.2.2.1.1, nI_1]
  refine ⟨fun z => absurd ((nI_ev 6 il6 (by omega) (by omega)).mp z) (by omega), fun _ => ⟨hn, by simp [wr_ap], md_flies hR (fun f n9 n10 => by rw [wr_row _ _ _ _ _ (fun z => n9 z.2), wr_row _ _ _ _ _ (fun z => n10 z.2)]) (by simp [wr_ap]) (fun i hi => ?_), (frM.rf.w _ _ _ (by decide)).w _ _ _ (by decide)⟩⟩
  rw [wr_row _ _ _ _ _ (by decide), wr_ap]
  unfold uN
  by_cases hin : i = S.1 5 0
  · simp [hin]
  · simp [hin]; exact hR.2.2.2.1.2 i (by omega)
theorem op_fly {C R : Mem} (h : Rel C R) (a : Int32) : ∃ (r : Int32) (C' R' : Mem), fX9_fly C a = some (r, C') ∧ fX10_fly R a = some (r, R') ∧ Rel C' R' := by
  obtain ⟨S, hS, hC, hR⟩ := h
  have h6 := hS.2.2.2.1.1
  rcases ixI a (n := 20) (by omega) with ha | ⟨j, hj, rfl⟩
  · refine op_rw (S' := S) (r := -2) hS ?_ ?_
    · unfold fX9_fly
      simp only [sp_gd, sp_nm, sp_bind, sp_ite, sp_some, sp_inr]
      exact Sp.of (w_0 (n := 19) ha (by omega)) ⟨fun _ => ⟨(by trivial), hC⟩, fun z => absurd rfl z⟩
    · unfold fX10_fly
      simp only [sp_gd, sp_nm, sp_bind, sp_ite, sp_some, sp_inr]
      exact Sp.of (mst_0 ha) ⟨fun _ => ⟨(by trivial), hR⟩, fun z => absurd rfl z⟩
  · by_cases hf : S.1 5 0 = 6
    · refine op_rw (S' := S) (r := -4) hS ?_ ?_
      · unfold fX9_fly
        simp only [sp_gd, sp_nm, sp_bind, sp_ite, sp_some, sp_inr]
        refine Sp.of (w_1 (j := j) (n := 19) (by omega) (by omega)) ⟨fun z => absurd z (by decide), fun _ => ?_⟩
        rw [hC.1.2.2.1.1, hf]
        exact ⟨fun z => absurd z (by decide), fun _ => ⟨(by trivial), hC⟩⟩
      · unfold fX10_fly
        simp only [sp_gd, sp_nm, sp_bind, sp_ite, sp_some, sp_inr]
        refine Sp.of (mst_1 hj) ⟨fun z => absurd z (by decide), fun _ => ?_⟩
        rw [hR.2.2.2.1.1, hf]
        exact ⟨fun _ => ⟨(by trivial), hR⟩, fun z => absurd rfl z⟩
    · refine op_rw (S' := sFl S (S.1 5 0 + 1) (uN (S.1 4) (S.1 5 0) j)) (r := nI (S.1 5 0 + 1)) (okS_Fl hS (by omega) (uN_lt hS.2.2.2.1.2 hj)) ?_ ?_
      · unfold fX9_fly
        simp only [sp_gd, sp_nm, sp_bind, sp_ite, sp_some, sp_inr]
        refine Sp.of (w_1 (j := j) (n := 19) (by omega) (by omega)) ⟨fun z => absurd z (by decide), fun _ => ?_⟩
        rw [hC.1.2.2.1.1, il6, nI_ltI (by omega) (by omega)]
        refine ⟨fun _ => ?_, fun z => absurd (by omega) z⟩
        refine (cl_append (by omega) hC.1.2.2.1.1 hC.1.2.2.1.2).mono (fun M ⟨m1, m2, m3⟩ => ?_)
        exact (cl_flies hS hC (by omega) (uN_lt hS.2.2.2.1.2 hj) m1 m2 m3).mono (fun M' ⟨f1, f2⟩ => ⟨by rw [f2]; exact m2, f1⟩)
      · exact (md_fly hR (by omega) hj).mono (fun z hz => ⟨hz.1, hz.2.1⟩)
theorem op_back {C R : Mem} (h : Rel C R) : ∃ (r : Int32) (C' R' : Mem), fX9_back C = some (r, C') ∧ fX10_back R = some (r, R') ∧ Rel C' R' := by
  obtain ⟨S, hS, hC, hR⟩ := h
  have h6 := hS.2.2.2.1.1
  by_cases hz : S.1 5 0 = 0
  · refine op_rw (S' := S) (r := -3) hS ?_ ?_
    · unfold fX9_back
      simp only [sp_gd, sp_nm, sp_bind, sp_ite, sp_some, sp_inr]
      rw [hC.1.2.2.1.1, hz]
      exact ⟨fun z => absurd z (by decide), fun _ => ⟨(by trivial), hC⟩⟩
    · unfold fX10_back
      simp only [sp_gd, sp_nm, sp_bind, sp_ite, sp_some, sp_inr]
      rw [hR.2.2.2.1.1, hz]
      exact ⟨fun _ => ⟨(by trivial), hR⟩, fun z => absurd rfl z⟩
  · refine op_rw (S' := sFl S (S.1 5 0 - 1) (S.1 4)) (r := nI (S.1 5 0 - 1)) (okS_Fl hS (by omega) (fun i hi => hS.2.2.2.1.2 i (by omega))) ?_ ?_
    · unfold fX9_back
      simp only [sp_gd, sp_nm, sp_bind, sp_ite, sp_some, sp_inr]
      rw [hC.1.2.2.1.1, show nI (S.1 5 0) - (1 : Int32) = nI (S.1 5 0 - 1) from pk_sub (b := 1) (by omega), il0, nI_ltI (by omega) (by omega)]
      refine ⟨fun _ => ?_, fun z => absurd (by omega) z⟩
      exact (cl_flies hS hC (by omega) (fun i hi => hS.2.2.2.1.2 i (by omega)) (fun x hx => wr_ob _ _ _ _ _ hx) (by simp [wr_ap]) (fun i hi => by rw [wr_row _ _ _ _ _ (by decide)]; exact hC.1.2.2.1.2 i (by omega))).mono (fun M' ⟨f1, f2⟩ => ⟨by rw [f2]; simp [wr_ap], f1⟩)
    · unfold fX10_back
      simp only [sp_gd, sp_nm, sp_bind, sp_ite, sp_some, sp_inr]
      rw [hR.2.2.2.1.1, show nI (S.1 5 0) - (1 : Int32) = nI (S.1 5 0 - 1) from pk_sub (b := 1) (by omega)]
      refine ⟨fun z => absurd ((nI_ev 0 il0 (by omega) (by omega)).mp z) hz, fun _ => ⟨by simp [wr_ap], md_flies hR (fun f n9 n10 => by rw [wr_row _ _ _ _ _ (fun z => n9 z.2)]) (by simp [wr_ap]) (fun i hi => by rw [wr_row _ _ _ _ _ (by decide)]; exact hR.2.2.2.1.2 i (by omega))⟩⟩
