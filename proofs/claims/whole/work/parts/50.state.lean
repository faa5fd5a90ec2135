/-! ===== what an object is told, in numbers ===== -/
/-- rows: 0, 1 the texts' bytes; 2 their sizes; 3 temper; 4 flies' stops; 5 how many flies; 6, 7 what was seen; 8 how much of it; 9 sheets that are there; 10 forms; 11 sizes; 12 the latest finding; and the sheets' items -/
abbrev St : Type := (Nat → Nat → Nat) × (Nat → Nat → Int32)
def flB (fl : Nat → Nat) (kp : Nat → Bool) : Nat → Int32
  | 0 => 0
  | n + 1 => if kp n = true then flB fl kp n ||| ((1 : Int32) <<< (nI (fl n) &&& 31)) else flB fl kp n
def told (S : St) : Cfg := (fun f i => if f = 0 then sortN (S.1 0 (4 * i)) else if f = 1 then S.1 0 (4 * i + 1) - 48 else if f = 2 then S.1 0 (4 * i + 2) - 48 else if f = 3 then S.1 3 i else if f = 4 then S.1 1 i - 97 else if f = 5 then hcN (S.1 0) (S.1 2 0) else if f = 6 then scN (S.1 1) (S.1 2 1) else 0, flB (S.1 4) (fun _ => true) (S.1 5 0), -1)
def okS (S : St) : Prop := (S.1 2 0 ≤ 31 ∧ ∀ i, i < S.1 2 0 → S.1 0 i ≤ 255) ∧ (S.1 2 1 ≤ 20 ∧ ∀ i, i < S.1 2 1 → S.1 1 i ≤ 255) ∧ (S.1 3 0 ≤ 9 ∧ S.1 3 1 ≤ 9 ∧ S.1 3 2 ≤ 19 ∧ S.1 3 3 ≤ 9) ∧ (S.1 5 0 ≤ 6 ∧ ∀ i, i < S.1 5 0 → S.1 4 i < 20) ∧ (S.1 8 0 ≤ 8 ∧ ∀ i, i < S.1 8 0 → S.1 6 i < 20 ∧ S.1 7 i ≤ 4) ∧ (∀ s, s < 4 → S.1 9 s ≤ 1 ∧ S.1 10 s ≤ 2 ∧ S.1 11 s ≤ 60) ∧ S.1 12 0 ≤ 5
theorem okC_told {S : St} (h : okS S) : okC (told S) := by
  obtain ⟨⟨h1, h2⟩, ⟨h3, h4⟩, ⟨h5, h6, h7, h8⟩, -⟩ := h
  have hh := hcN_le (t := S.1 0) h1
  refine ⟨hh.1, ?_, fun i hi => ?_, h5, h6, h7, h8, fun k hk => ?_⟩
  · show scN (S.1 1) (S.1 2 1) ≤ 20
    unfold scN
    split <;> omega
  · have hi' : i < hcN (S.1 0) (S.1 2 0) := hi
    have hf := hcN_fit hi'
    have d1 := digit_of (hf (4 * i + 1) (by omega)) (by omega)
    have d2 := digit_of (hf (4 * i + 2) (by omega)) (by omega)
    refine ⟨?_, ?_, ?_⟩
    · show sortN (S.1 0 (4 * i)) ≤ 2
      unfold sortN
      split
      · omega
      · split <;> omega
    · show S.1 0 (4 * i + 1) - 48 ≤ 9
      omega
    · show S.1 0 (4 * i + 2) - 48 ≤ 9
      omega
  · have hk' : k < scN (S.1 1) (S.1 2 1) := hk
    obtain ⟨e, hf⟩ := scN_fit hk'
    have := hf k (by omega)
    show S.1 1 k - 97 < 8
    omega
/-! the fairest row -/
def cfR (γ : Cfg) (p : List Nat) : Cfg := (fun f i => if f = 4 then p.getD i 0 else if f = 6 then γ.1 5 0 else γ.1 f i, γ.2.1, γ.2.2)
def lsN (r : Nat → Nat) : Nat → Nat
  | 0 => 1000
  | n + 1 => min (lsN r n) (r n)
def valP (γ : Cfg) (p : List Nat) : Nat := lsN ((stW (cfR γ p) (γ.1 5 0)).1 0) (γ.1 5 0)
def fstp (γ : Cfg) (u : Nat × List Nat) (p : List Nat) : Nat × List Nat := if u.1 < valP γ p + 1 then (valP γ p + 1, p) else u
def fairF (γ : Cfg) : Nat → List Nat → List Nat → Nat × List Nat → Nat × List Nat
  | 0, _, pre, u => fstp γ u pre
  | n + 1, l, pre, u => l.foldl (fun u x => fairF γ n (l.erase x) (pre ++ [x]) u) u
def fairR (γ : Cfg) : Nat × List Nat := fairF γ (γ.1 5 0) (List.range (γ.1 5 0)) [] (0, [])
def FairOK (x : Ob) (γ : Cfg) : Prop := x 3 0 = nI ((fairR γ).1 - 1) ∧ ∀ i, i < γ.1 5 0 → x 2 i = nI ((fairR γ).2.getD i 0)
/-! the richest for each set of flies -/
def wFly (γ : Cfg) (b : Int32) : Cfg := (γ.1, b, γ.2.2)
def bitB (m i : Nat) : Bool := m.testBit i
def richM (S : St) (m : Nat) : Int32 := (richA ((stW (wFly (told S) (flB (S.1 4) (bitB m) (S.1 5 0))) ((told S).1 6 0)).1 0) ((told S).1 5 0)).1
def RichOK (r : Nat → Int32) (S : St) : Prop := ∀ m, m < 2 ^ S.1 5 0 → r m = richM S m
/-! ===== the class holds it ===== -/
def RT (C : Mem) (S : St) : Prop :=
  (C 1 1 0 = nI (S.1 2 0) ∧ ∀ i, i < S.1 2 0 → C 1 0 i = nI (S.1 0 i)) ∧ (C 2 1 0 = nI (S.1 2 1) ∧ ∀ i, i < S.1 2 1 → C 2 0 i = nI (S.1 1 i)) ∧ (C 9 1 0 = nI (S.1 5 0) ∧ ∀ i, i < S.1 5 0 → C 9 0 i = nI (S.1 4 i)) ∧ (C 10 2 0 = nI (S.1 8 0) ∧ ∀ i, i < S.1 8 0 → C 10 0 i = nI (S.1 6 i) ∧ C 10 1 i = nI (S.1 7 i)) ∧ (∀ s, s < 4 → C (21 + s) 1 0 = nI (1 - S.1 9 s) ∧ C (21 + s) 2 0 = nI (S.1 10 s) ∧ C (21 + s) 3 0 = nI (S.1 11 s) ∧ ∀ i, i < 60 → C (21 + s) 0 i = S.2 s i) ∧ C 0 13 0 = nI (S.1 12 0)
/-- what is asked of the told walk: all but its hunger, which nobody asks for (a new object's is 0) -/
def RWs (x : Ob) (γ : Cfg) (w : Wk) : Prop := (∀ i, i < γ.1 5 0 → x 0 i = nI (w.1 0 i) ∧ x 1 i = nI (w.1 1 i) ∧ x 2 i = nI (w.1 2 i)) ∧ x 3 0 = nI (γ.1 5 0) ∧ x 4 0 = w.2 ∧ True ∧ x 6 0 = nI (w.1 6 0) ∧ x 7 0 = nI (w.1 7 0)
theorem RW.s {x : Ob} {γ : Cfg} {w : Wk} (h : RW x γ w) : RWs x γ w := ⟨h.1, h.2.1, h.2.2.1, trivial, h.2.2.2.2⟩
def RD (C : Mem) (S : St) : Prop := RG (C 3) (told S) ∧ RWs (C 5) (told S) (stW (told S) ((told S).1 6 0)) ∧ RS (C 4) (told S) ((told S).1 6 0)
def RK (C : Mem) (S : St) : Prop := (C 0 11 0 = 0 ∨ (C 0 11 0 = 1 ∧ FairOK (C 11) (told S))) ∧ (C 0 12 0 = 0 ∨ (C 0 12 0 = 1 ∧ RichOK (C 0 8) S))
def RC (C : Mem) (S : St) : Prop := RT C S ∧ RD C S ∧ RK C S
theorem RT.fr {C C' : Mem} {S : St} (h : RT C S) (e : ∀ o, o ∈ [1, 2, 9, 10, 21, 22, 23, 24] → C' o = C o) (e0 : C' 0 13 0 = C 0 13 0) : RT C' S := by
  obtain ⟨h1, h2, h3, h4, h5, h6⟩ := h
  refine ⟨?_, ?_, ?_, ?_, fun s hs => ?_, ?_⟩
  · rw [e 1 (by decide)]; exact h1
  · rw [e 2 (by decide)]; exact h2
  · rw [e 9 (by decide)]; exact h3
  · rw [e 10 (by decide)]; exact h4
  · rw [e (21 + s) (by rcases (show s = 0 ∨ s = 1 ∨ s = 2 ∨ s = 3 by omega) with rfl | rfl | rfl | rfl <;> decide)]; exact h5 s hs
  · rw [e0]; exact h6
/-- the trial's cells are nobody's -/
theorem RC.fr {C C' : Mem} {S : St} (h : RC C S) (e : frS [0, 6, 7, 8] C C') (e0 : ∀ f, f = 8 ∨ f = 11 ∨ f = 12 ∨ f = 13 → C' 0 f = C 0 f) : RC C' S := by
  obtain ⟨h1, ⟨d1, d2, d3⟩, k1, k2⟩ := h
  refine ⟨h1.fr (fun o ho => e o ?_) (by rw [e0 13 (by decide)]), ⟨?_, ?_, ?_⟩, ?_, ?_⟩
  · simp at ho ⊢
    omega
  · rw [e 3 (by decide)]; exact d1
  · rw [e 5 (by decide)]; exact d2
  · rw [e 4 (by decide)]; exact d3
  · rw [e0 11 (by decide), e 11 (by decide)]; exact k1
  · rw [e0 12 (by decide), e0 8 (by decide)]; exact k2
theorem RC.trial {C C' : Mem} {S : St} (h : RC C S) (e : frS [6, 7, 8] C C') : RC C' S := h.fr (e.sub (by decide)) (fun f _ => by rw [e 0 (by decide)])
/-! ===== the reference holds it ===== -/
def RR (R : Mem) (S : St) : Prop :=
  (R 0 0 0 = nI (S.1 2 0) ∧ ∀ i, i < S.1 2 0 → R 0 1 i = nI (S.1 0 i)) ∧ (R 0 0 1 = nI (S.1 2 1) ∧ ∀ i, i < S.1 2 1 → R 0 1 (31 + i) = nI (S.1 1 i)) ∧ (∀ j, j < 4 → R 0 8 j = nI (S.1 3 j)) ∧ (R 0 9 0 = nI (S.1 5 0) ∧ ∀ i, i < S.1 5 0 → R 0 10 i = nI (S.1 4 i)) ∧ (R 0 32 0 = nI (S.1 8 0) ∧ ∀ i, i < S.1 8 0 → R 0 33 i = nI (S.1 6 i) ∧ R 0 34 i = nI (S.1 7 i)) ∧ (∀ s, s < 4 → R 0 36 s = nI (S.1 9 s) ∧ R 0 37 s = nI (S.1 10 s) ∧ R 0 38 s = nI (S.1 11 s) ∧ ∀ i, i < 60 → R 0 39 (60 * s + i) = S.2 s i) ∧ R 0 41 0 = nI (S.1 12 0)
abbrev SL : List Nat := [2, 3, 4, 5, 6, 7, 11, 12, 13, 14, 15, 16, 17, 18, 19, 20, 21, 22, 23, 24, 25, 26, 27, 28, 29, 30, 31, 35, 40]
theorem RR.fr {R R' : Mem} {S : St} (h : RR R S) (e : frM SL R R') : RR R' S := by
  obtain ⟨h1, h2, h3, h4, h5, h6, h7⟩ := h
  refine ⟨?_, ?_, ?_, ?_, ?_, ?_, ?_⟩
  · rw [e 0 (by decide), e 1 (by decide)]; exact h1
  · rw [e 0 (by decide), e 1 (by decide)]; exact h2
  · rw [e 8 (by decide)]; exact h3
  · rw [e 9 (by decide), e 10 (by decide)]; exact h4
  · rw [e 32 (by decide), e 33 (by decide), e 34 (by decide)]; exact h5
  · rw [e 36 (by decide), e 37 (by decide), e 38 (by decide), e 39 (by decide)]; exact h6
  · rw [e 41 (by decide)]; exact h7
/-- what the reference has read -/
def MT (R : Mem) (S : St) : Prop := R 0 2 0 = nI ((told S).1 5 0) ∧ (∀ i, i < (told S).1 5 0 → R 0 3 i = nI ((told S).1 0 i) ∧ R 0 4 i = nI ((told S).1 1 i) ∧ R 0 5 i = nI ((told S).1 2 i)) ∧ R 0 6 0 = nI ((told S).1 6 0) ∧ ∀ k, k < (told S).1 6 0 → R 0 7 k = nI ((told S).1 4 k)
theorem MT.fr {R R' : Mem} {S : St} (h : MT R S) (e : ∀ f, f = 2 ∨ f = 3 ∨ f = 4 ∨ f = 5 ∨ f = 6 ∨ f = 7 → R' 0 f = R 0 f) : MT R' S := by
  obtain ⟨h1, h2, h3, h4⟩ := h
  refine ⟨?_, ?_, ?_, ?_⟩
  · rw [e 2 (by decide)]; exact h1
  · rw [e 3 (by decide), e 4 (by decide), e 5 (by decide)]; exact h2
  · rw [e 6 (by decide)]; exact h3
  · rw [e 7 (by decide)]; exact h4
theorem md_faultOf {R : Mem} {S : St} (hS : okS S) (h : RR R S) (a : Int32) : Sp (fX10_faultOf R a) (fun z => z.1 = (if a = 0 then fltH (S.1 0) (S.1 2 0) else fltR (S.1 1) (S.1 2 1)) ∧ MT z.2 S ∧ frM SL R z.2) := by
  obtain ⟨⟨s1, s2⟩, ⟨s3, s4⟩, -⟩ := hS
  obtain ⟨⟨h1, h1'⟩, ⟨h2, h2'⟩, -⟩ := h
  unfold fX10_faultOf
  simp only [sp_gd, sp_nm, sp_bind, sp_ite, sp_some, sp_inr]
  refine (md_readsHeirs s1 h1 h1' s2).mono (fun z ⟨z1, z2, z3, z4⟩ => ?_)
  refine (md_readsRound (t := S.1 1) (a := S.1 2 1) s3 (by rw [z2 0 (by decide)]; exact h2) (fun i hi => by rw [z2 1 (by decide)]; exact h2' i hi) s4).mono (fun y ⟨y1, y2, y3, y4⟩ => ?_)
  have hm : MT y.2 S := ⟨by rw [y2 2 (by decide)]; exact z3, fun i hi => by rw [y2 3 (by decide), y2 4 (by decide), y2 5 (by decide)]; exact z4 i hi, y3, y4⟩
  have hf : frM SL R y.2 := (z2.sub (by decide)).tr (y2.sub (by decide))
  exact ⟨fun h0 => ⟨by rw [if_pos h0]; exact z1, hm, hf⟩, fun h0 => ⟨by rw [if_neg h0]; exact y1, hm, hf⟩⟩
theorem md_reads {R : Mem} {S : St} (hS : okS S) (h : RR R S) : Sp (fX10_reads R) (fun R' => MT R' S ∧ frM SL R R') := by
  unfold fX10_reads
  simp only [sp_gd, sp_nm, sp_bind, sp_ite, sp_some, sp_inr]
  exact (md_faultOf hS h 0).mono (fun z hz => hz.2)
theorem or_0 (x : Int32) : x ||| 0 = x := by
  apply Int32.toBitVec_inj.mp
  simp
theorem md_fliesBut {R : Mem} {S : St} (hS : okS S) (h4 : R 0 9 0 = nI (S.1 5 0) ∧ ∀ i, i < S.1 5 0 → R 0 10 i = nI (S.1 4 i)) {x : Int32} {kp : Nat → Bool} (hk : ∀ i, i < S.1 5 0 → (kp i = true ↔ ¬ isO x i)) : fX10_fliesBut R x = some (flB (S.1 4) kp (S.1 5 0)) := by
  obtain ⟨-, -, -, ⟨s1, s2⟩, -⟩ := hS
  have r : Sp (fX10_fliesBut R x) (fun z => z = flB (S.1 4) kp (S.1 5 0)) := by
    unfold fX10_fliesBut
    simp only [sp_gd, sp_nm, sp_bind, sp_ite, sp_some, sp_inr]
    refine lp_for (fun i st => st = (flB (S.1 4) kp i, nI i)) (S.1 5 0) (by omega) ?_ ?_ (Nat.zero_le _) rfl
    · rintro i st hi rfl
      unfold fX10_fliesBut_4 fX10_fliesBut_33
      simp only [sp_gd, sp_nm, sp_bind, sp_ite, sp_some, sp_inr]
      rw [h4.1, nI_leI (by omega) (by omega), nI_1]
      refine ⟨fun hc => absurd hc (by omega), fun _ => ?_⟩
      refine Sp.of md_isIn ?_
      by_cases ho : isO x i
      · rw [if_pos ho]
        refine ⟨fun z => absurd z (by decide), fun _ => ?_⟩
        show _ = _
        rw [or_0, flB, if_neg (fun z => ((hk i hi).mp z) ho)]
      · rw [if_neg ho]
        refine ⟨fun _ => ⟨(inB_nI (by omega)).mpr (by omega), ?_⟩, fun z => absurd rfl z⟩
        show _ = _
        rw [nI_clamp (by omega), h4.2 i hi, flB, if_pos ((hk i hi).mpr ho)]
    · rintro st rfl
      unfold fX10_fliesBut_4
      simp only [sp_gd, sp_nm, sp_bind, sp_ite, sp_some, sp_inr]
      rw [h4.1, nI_leI (by omega) (by omega)]
      exact ⟨fun _ => rfl, fun hc => absurd (Nat.le_refl _) hc⟩
  obtain ⟨z, hz, rfl⟩ := r
  exact hz
theorem nisO0 (i : Nat) (hi : i < 6) : ¬ isO 0 i := by
  have : ∀ i, i < 6 → ((0 : Int32) >>> (nI i &&& 31)) &&& (1 : Int32) = 0 := by decide +kernel
  exact fun z => z (this i hi)
/-- asTold: what is told is what is given -/
theorem md_asTold {R : Mem} {S : St} (hS : okS S) (h : RR R S) : Sp (fX10_asTold R) (fun R' => MG R' (told S) ∧ MT R' S ∧ frM SL R R') := by
  have hγ := okC_told hS
  have hn := hγ.2.1
  unfold fX10_asTold
  simp only [sp_gd, sp_nm, sp_bind, sp_ite, sp_some, sp_inr]
  refine (md_reads hS h).mono (fun R1 ⟨m1, f1⟩ => ?_)
  rw [m1.2.2.1]
  refine lp_for (fun i st => st.1 = nI i ∧ frM [11, 12] R1 st.2 ∧ st.2 0 11 0 = nI ((told S).1 6 0) ∧ ∀ k, k < i → st.2 0 12 k = nI ((told S).1 4 k)) ((told S).1 6 0) (by omega) ?_ ?_ (Nat.zero_le _) ⟨rfl, frM.rf.w _ _ _ (by decide), by simp [wr_ap], fun k hk => absurd hk (Nat.not_lt_zero _)⟩
  · rintro i ⟨x, Mc⟩ hi ⟨h1, h2, h3, h4⟩
    dsimp only at h1 h2 h3 h4 ⊢
    subst h1
    unfold fX10_asTold_14
    simp only [sp_gd, sp_nm, sp_bind, sp_ite, sp_some, sp_inr]
    rw [h3, nI_leI (by omega) (by omega), inB_nI (by omega), nI_clamp (by omega), show Mc 0 7 i = nI ((told S).1 4 i) by rw [h2 7 (by decide)]; exact m1.2.2.2 i hi, nI_1]
    refine ⟨fun hc => absurd hc (by omega), fun _ => ⟨by omega, by omega, rfl, h2.w _ _ _ (by decide), by simp [wr_ap, h3], fun k hk => ?_⟩⟩
    simp only [wr_ap]
    by_cases hki : k = i
    · simp [hki]
    · simp [hki]
      exact h4 k (by omega)
  · rintro ⟨x, Mc⟩ ⟨h1, h2, h3, h4⟩
    dsimp only at h1 h2 h3 h4 ⊢
    subst h1
    unfold fX10_asTold_14 fX10_asTold_40
    simp only [sp_gd, sp_nm, sp_bind, sp_ite, sp_some, sp_inr]
    rw [h3, nI_leI (by omega) (by omega)]
    refine ⟨fun _ => ?_, fun hc => absurd (Nat.le_refl _) hc⟩
    have fM : frM SL R Mc := f1.tr (h2.sub (by decide))
    have hRc := h.fr fM
    refine Sp.of (md_fliesBut hS hRc.2.2.2.1 (kp := fun _ => true) (fun i hi => ⟨fun _ => nisO0 i (by have := hS.2.2.2.1.1; omega), fun _ => rfl⟩)) ?_
    refine ⟨⟨?_, fun i hi => ?_, fun j hj => ?_, ?_, fun k hk => ?_, ?_, ?_⟩, (m1.fr (fun f hf => h2 f (by rcases hf with rfl | rfl | rfl | rfl | rfl | rfl <;> decide))).fr (fun f hf => by rw [wr_row _ _ _ _ _ (by omega), wr_row _ _ _ _ _ (by omega)]), (fM.w _ _ _ (by decide)).w _ _ _ (by decide)⟩
    · rw [wr_row _ _ _ _ _ (by decide), wr_row _ _ _ _ _ (by decide), h2 2 (by decide)]; exact m1.1
    · rw [wr_row _ _ _ _ _ (by decide), wr_row _ _ _ _ _ (by decide), wr_row _ _ _ _ _ (by decide), wr_row _ _ _ _ _ (by decide), wr_row _ _ _ _ _ (by decide), wr_row _ _ _ _ _ (by decide), h2 3 (by decide), h2 4 (by decide), h2 5 (by decide)]; exact m1.2.1 i hi
    · rw [wr_row _ _ _ _ _ (by decide), wr_row _ _ _ _ _ (by decide)]; exact hRc.2.2.1 j hj
    · rw [wr_row _ _ _ _ _ (by decide), wr_row _ _ _ _ _ (by decide)]; exact h3
    · rw [wr_row _ _ _ _ _ (by decide), wr_row _ _ _ _ _ (by decide)]; exact h4 k hk
    · simp [wr_ap]; rfl
    · simp [wr_ap]; rfl
theorem RuL_SL : ∀ x, x ∈ RuL → x ∈ SL := by decide
theorem md_runsTold {R : Mem} {S : St} (hS : okS S) (h : RR R S) : Sp (fX10_runsTold R) (fun R' => MI R' (told S) ((told S).1 6 0) ∧ MT R' S ∧ frM SL R R') := by
  unfold fX10_runsTold
  simp only [sp_gd, sp_nm, sp_bind, sp_ite, sp_some, sp_inr]
  refine (md_asTold hS h).mono (fun R1 ⟨m1, m2, f1⟩ => ?_)
  refine (md_runs (okC_told hS) m1).mono (fun R2 ⟨q1, q2⟩ => ⟨q1, m2.fr (fun f hf => q2 f (by rcases hf with rfl | rfl | rfl | rfl | rfl | rfl <;> decide)), f1.tr (q2.sub RuL_SL)⟩)
