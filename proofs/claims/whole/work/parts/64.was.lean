/-! ===== was ===== -/
def wsB (S : St) (f j : Nat) (v : Nat) : Bool := seenB S (setC (told S) f j v)
theorem cl_was57 {C M1 : Mem} {S : St} (hS : okS S) (hC : RC C S) {j f : Nat} (a2 : Int32) (hf : f = 1 ∨ f = 2) (hj : j < (told S).1 5 0) (f1 : RG (M1 7) (told S)) (f2 : frS [6, 7, 8] C M1) : Sp (fX9_was_57 (nI j) a2 f M1) (fun z => z.1 = nvA (wsB S f j) 10 ∧ frS [6, 7, 8] C z.2) := by
  have hγ := okC_told hS
  have h8 := hγ.1
  have hn := hγ.2.1
  unfold fX9_was_57
  simp only [sp_gd, sp_nm, sp_bind, sp_ite, sp_some, sp_inr]
  refine lp_for (fun i st => st.1 = f ∧ st.2.1 = nvA (wsB S f j) i ∧ st.2.2.1 = nI i ∧ (∃ v, RG (st.2.2.2 7) (setC (told S) f j v)) ∧ frS [6, 7, 8] C st.2.2.2) 10 (by omega) ?_ ?_ (Nat.zero_le _) ⟨rfl, rfl, rfl, ⟨(told S).1 f j, by rw [setC_self]; exact f1⟩, f2⟩
  · rintro i ⟨p, x, y, Mc⟩ hi ⟨a0, a1, a2, ⟨v, a3⟩, a4⟩
    dsimp only at a0 a1 a2 a3 a4 ⊢
    subst a0 a2
    unfold fX9_was_64 fX9_was_106
    simp only [sp_gd, sp_nm, sp_bind, sp_ite, sp_some, sp_inr]
    rw [inB_nI (by omega), nI_clamp (by omega), nI_1, il10, nI_leI (by omega) (by omega)]
    refine ⟨fun hc => absurd hc (by omega), fun _ => ⟨by omega, ?_⟩⟩
    have g2 := RG.set (j := j) (v := i) a3 hf
    rw [setC_2] at g2
    have ok2 := okC_set (j := j) (v := i) hγ hf (by omega)
    refine (cl_run ok2 g2).mono (fun M2 ⟨t1, t2, t3⟩ => ?_)
    have g3 : RG (M2 7) (setC (told S) p j i) := by rw [t3 7 (by decide)]; exact g2
    have fr : frS [6, 7, 8] C M2 := a4.tr (frS.tr (fun o ho => wr_ob _ _ _ _ _ (fun z => ho (by rw [z]; decide))) (t3.sub (by decide)))
    refine Sp.of (cl_agrees hS ok2 (by rw [fr 10 (by decide)]; exact hC.1.2.2.2.1) g3.2.2.2.2.1 t2) ?_
    by_cases hp : wsB S p j i = true
    · rw [show seenB S (setC (told S) p j i) = true from hp, b01_1 rfl]
      refine ⟨fun z => absurd z (by decide), fun _ => ⟨rfl, ?_, rfl, ⟨_, g3⟩, fr⟩⟩
      dsimp only
      rw [nvA, if_pos hp, a1]
    · rw [b01_0 (p := seenB S (setC (told S) p j i)) hp]
      refine ⟨fun _ => ⟨rfl, ?_, rfl, ⟨_, g3⟩, fr⟩, fun z => absurd rfl z⟩
      dsimp only
      rw [nvA, if_neg hp, a1]
  · rintro ⟨p, x, y, Mc⟩ ⟨a0, a1, a2, a3, a4⟩
    dsimp only at a0 a1 a2 a3 a4 ⊢
    subst a0 a2
    unfold fX9_was_64
    simp only [sp_gd, sp_nm, sp_bind, sp_ite, sp_some, sp_inr]
    rw [il10, nI_leI (by omega) (by omega)]
    exact ⟨fun _ => ⟨a1, a4⟩, fun hc => absurd (Nat.le_refl _) hc⟩
/-- which of the two is tried: 0 the lure, 1 the power -/
def fW (b : Nat) : Nat := if b = 0 then 2 else 1
theorem fW_c (b : Nat) : fW b = 1 ∨ fW b = 2 := by
  unfold fW
  split <;> omega
theorem cl_was {C : Mem} {S : St} (hS : okS S) (hC : RC C S) {j b : Nat} (hj : j < (told S).1 5 0) (hb : b ≤ 1) : Sp (fX9_was C (nI j) (nI b)) (fun z => z.1 = nvA (wsB S (fW b) j) 10 ∧ frS [6, 7, 8] C z.2) := by
  have hγ := okC_told hS
  have h8 := hγ.1
  have hg := hC.2.1.1
  unfold fX9_was
  simp only [sp_gd, sp_nm, sp_bind, sp_ite, sp_some, sp_inr]
  refine Sp.of (h_1 hg.2.2.2.1 hj (by omega)) ⟨fun z => absurd z (by decide), fun _ => Sp.of (w_1 (n := 1) hb (by omega)) ⟨fun z => absurd z (by decide), fun _ => ?_⟩⟩
  refine (cl_prepare hγ hg (by decide)).mono (fun M1 ⟨f1, f2⟩ => ?_)
  rw [il0, nI_eq (by omega) (by omega)]
  refine ⟨fun h0 => ?_, fun h0 => ?_⟩
  · have : fW b = 2 := if_pos h0
    rw [this]
    exact cl_was57 hS hC _ (by omega) hj f1 (f2.S (by decide))
  · have : fW b = 1 := if_neg h0
    rw [this]
    exact cl_was57 hS hC _ (by omega) hj f1 (f2.S (by decide))
theorem setC_x {γ : Cfg} {f g j v : Nat} (h : g ≠ f) : setC (setC γ f j v) g j (γ.1 g j) = setC γ f j v := by
  have := setC_self (γ := setC γ f j v) (f := g) (j := j)
  rw [setC_o h] at this
  exact this
theorem MG.was {R : Mem} {γ : Cfg} {j v i b : Nat} (h : MG R (setC γ (fW b) j v)) : MG (wr (wr R 0 5 j (nI (if b = 0 then i else γ.1 2 j))) 0 4 j (nI (if b = 0 then γ.1 1 j else i))) (setC γ (fW b) j i) := by
  by_cases h0 : b = 0
  · have e : fW b = 2 := if_pos h0
    rw [e] at h ⊢
    rw [if_pos h0, if_pos h0]
    have g := MG.set (j := j) (v := i) h (f := 2) (by omega)
    rw [setC_2] at g
    have g' := MG.set (j := j) (v := γ.1 1 j) g (f := 1) (by omega)
    rw [setC_x (by omega)] at g'
    exact g'
  · have e : fW b = 1 := if_neg h0
    rw [e] at h ⊢
    rw [if_neg h0, if_neg h0]
    have g := MG.set (j := j) (v := γ.1 2 j) h (f := 2) (by omega)
    rw [setC_x (by omega)] at g
    have g' := MG.set (j := j) (v := i) g (f := 1) (by omega)
    rw [setC_2] at g'
    exact g'
/-- the table that wasBy leaves -/
def Tb (R : Mem) (S : St) (f j m : Nat) : Prop := ∀ v, v < m → ∀ k, k < (told S).1 6 0 → R 0 35 (20 * v + k) = nI ((stW (setC (told S) f j v) (k + 1)).1 8 0)
theorem md_was83 {R Mc : Mem} {S : St} (hS : okS S) {j b i : Nat} (hi : i < 10) {a1 a2 x3 x4 v0 v1 u : Int32} (e : v1 ||| v0 = u) (m : MI Mc (setC (told S) (fW b) j i) ((told S).1 6 0)) (fr : frM SL R Mc) (tb : Tb Mc S (fW b) j i) {Q : Int32 × Mem → Prop} : Sp (fX10_wasBy_83 a1 a2 x3 x4 (nI i) v0 v1 Mc) (lpP (fun st => st.1 = x3 ∧ st.2.1 = x4 ∧ st.2.2.1 = u ∧ st.2.2.2.1 = nI (i + 1) ∧ MG st.2.2.2.2 (setC (told S) (fW b) j i) ∧ frM SL R st.2.2.2.2 ∧ Tb st.2.2.2.2 S (fW b) j (i + 1)) Q) := by
  have hγ := okC_told hS
  have hn := hγ.2.1
  have hf := fW_c b
  have e6 : (setC (told S) (fW b) j i).1 6 0 = (told S).1 6 0 := setC_o (by omega)
  unfold fX10_wasBy_83
  simp only [sp_gd, sp_nm, sp_bind, sp_ite, sp_some, sp_inr]
  rw [e]
  refine lp_for (fun k st => st.1 = x3 ∧ st.2.1 = x4 ∧ st.2.2.1 = u ∧ st.2.2.2.1 = nI i ∧ st.2.2.2.2.1 = nI k ∧ frM [35] Mc st.2.2.2.2.2 ∧ ∀ q, st.2.2.2.2.2 0 35 q = if 20 * i ≤ q ∧ q < 20 * i + k then Mc 0 24 (q - 20 * i) else Mc 0 35 q) ((told S).1 6 0) (by omega) ?_ ?_ (Nat.zero_le _) ⟨rfl, rfl, rfl, rfl, rfl, frM.rf, fun q => by dsimp only; rw [if_neg (by omega)]⟩
  · rintro k ⟨y3, y4, y5, y6, y7, N⟩ hk ⟨c1, c2, c3, c4, c5, c6, c7⟩
    dsimp only at c1 c2 c3 c4 c5 c6 c7 ⊢
    subst c1 c2 c3 c4 c5
    have e11 : N 0 11 0 = nI ((told S).1 6 0) := by rw [c6 11 (by decide), m.1.2.2.2.1, e6]
    unfold fX10_wasBy_89
    simp only [sp_gd, sp_nm, sp_bind, sp_ite, sp_some, sp_inr]
    rw [e11, nI_leI (by omega) (by omega), il20, pk_mul, nI_add, inB_nI (by omega), inB_nI (by omega), nI_clamp (by omega), nI_clamp (by omega), nI_1]
    refine ⟨fun hc => absurd hc (by omega), fun _ => ⟨by omega, by omega, rfl, rfl, rfl, rfl, rfl, c6.w _ _ _ (by decide), fun q => ?_⟩⟩
    dsimp only
    rw [wr_ap]
    by_cases hq : q = 20 * i + k
    · rw [if_pos ⟨rfl, rfl, hq⟩, if_pos (by omega), c6 24 (by decide), hq, show 20 * i + k - 20 * i = k by omega]
    · rw [if_neg (fun z => hq z.2.2), c7 q]
      by_cases hq2 : 20 * i ≤ q ∧ q < 20 * i + k
      · rw [if_pos hq2, if_pos (by omega)]
      · rw [if_neg hq2, if_neg (by omega)]
  · rintro ⟨y3, y4, y5, y6, y7, N⟩ ⟨c1, c2, c3, c4, c5, c6, c7⟩
    dsimp only at c1 c2 c3 c4 c5 c6 c7 ⊢
    subst c1 c2 c3 c4 c5
    have e11 : N 0 11 0 = nI ((told S).1 6 0) := by rw [c6 11 (by decide), m.1.2.2.2.1, e6]
    unfold fX10_wasBy_89 fX10_wasBy_124
    simp only [sp_gd, sp_nm, sp_bind, sp_ite, sp_some, sp_inr]
    rw [e11, nI_leI (by omega) (by omega), nI_1]
    refine ⟨fun _ => ⟨rfl, rfl, rfl, rfl, m.1.fr (fun f hf => c6 f (by rcases hf with rfl | rfl | rfl | rfl | rfl | rfl | rfl | rfl | rfl <;> decide)), fr.tr (c6.sub (by decide)), fun v hv k hk => ?_⟩, fun hc => absurd (Nat.le_refl _) hc⟩
    dsimp only
    rw [c7]
    by_cases hvi : v = i
    · rw [hvi, if_pos (by omega), show 20 * i + k - 20 * i = k by omega]
      exact (m.2.2.1.1 k hk).1
    · rw [if_neg (by omega)]
      exact tb v (by omega) k hk
theorem md_wasBy {R : Mem} {S : St} (hS : okS S) (hR : RR R S) {j b : Nat} (hj : j < (told S).1 5 0) (hb : b ≤ 1) : Sp (fX10_wasBy R (nI j) (nI b)) (fun z => z.1 = nvA (wsB S (fW b) j) 10 ∧ frM SL R z.2 ∧ Tb z.2 S (fW b) j 10 ∧ z.2 0 11 0 = nI ((told S).1 6 0)) := by
  have hγ := okC_told hS
  have h8 := hγ.1
  have hn := hγ.2.1
  have hf := fW_c b
  unfold fX10_wasBy
  simp only [sp_gd, sp_nm, sp_bind, sp_ite, sp_some, sp_inr]
  refine (md_asTold hS hR).mono (fun R1 ⟨m1, m2, f1⟩ => ?_)
  rw [inB_nI (by omega), nI_clamp (by omega), (m1.2.1 j hj).2.1, (m1.2.1 j hj).2.2]
  refine ⟨by omega, by omega, ?_⟩
  refine lp_for (fun i st => st.1 = nI ((told S).1 2 j) ∧ st.2.1 = nI ((told S).1 1 j) ∧ st.2.2.1 = nvA (wsB S (fW b) j) i ∧ st.2.2.2.1 = nI i ∧ (∃ v, MG st.2.2.2.2 (setC (told S) (fW b) j v)) ∧ frM SL R st.2.2.2.2 ∧ Tb st.2.2.2.2 S (fW b) j i) 10 (by omega) ?_ ?_ (Nat.zero_le _) ⟨rfl, rfl, rfl, rfl, ⟨(told S).1 (fW b) j, by rw [setC_self]; exact m1⟩, f1, fun v hv => absurd hv (Nat.not_lt_zero _)⟩
  · rintro i ⟨x3, x4, x5, x6, Mc⟩ hi ⟨a1, a2, a3, a4, ⟨v, a5⟩, a6, a7⟩
    dsimp only at a1 a2 a3 a4 a5 a6 a7 ⊢
    subst a1 a2 a4
    have ok2 := okC_set (j := j) (v := i) hγ hf (by omega)
    have e6 : (setC (told S) (fW b) j i).1 6 0 = (told S).1 6 0 := setC_o (by omega)
    obtain ⟨Mx, hMx⟩ : ∃ Mx, Mx = wr (wr Mc 0 5 j (nI (if b = 0 then i else (told S).1 2 j))) 0 4 j (nI (if b = 0 then (told S).1 1 j else i)) := ⟨_, rfl⟩
    have g2 : MG Mx (setC (told S) (fW b) j i) := by rw [hMx]; exact a5.was
    have frx : frM SL Mc Mx := by rw [hMx]; exact (frM.rf.w _ _ _ (by decide)).w _ _ _ (by decide)
    have tbx : Tb Mx S (fW b) j i := fun v hv k hk => by
      rw [hMx, wr_row _ _ _ _ _ (by decide), wr_row _ _ _ _ _ (by decide)]; exact a7 v hv k hk
    have key : Sp (fX10_isSeen Mx) (fun r => (r.1 = 0 → Sp (fX10_wasBy_83 (nI j) (nI b) (nI ((told S).1 2 j)) (nI ((told S).1 1 j)) (nI i) 0 x5 r.2) (lpP (fun st => st.1 = nI ((told S).1 2 j) ∧ st.2.1 = nI ((told S).1 1 j) ∧ st.2.2.1 = nvA (wsB S (fW b) j) (i + 1) ∧ st.2.2.2.1 = nI (i + 1) ∧ (∃ v, MG st.2.2.2.2 (setC (told S) (fW b) j v)) ∧ frM SL R st.2.2.2.2 ∧ Tb st.2.2.2.2 S (fW b) j (i + 1)) (fun z => z.1 = nvA (wsB S (fW b) j) 10 ∧ frM SL R z.2 ∧ Tb z.2 S (fW b) j 10 ∧ z.2 0 11 0 = nI ((told S).1 6 0)))) ∧ (¬ r.1 = 0 → Sp (fX10_wasBy_83 (nI j) (nI b) (nI ((told S).1 2 j)) (nI ((told S).1 1 j)) (nI i) ((1 : Int32) <<< (nI i &&& 31)) x5 r.2) (lpP (fun st => st.1 = nI ((told S).1 2 j) ∧ st.2.1 = nI ((told S).1 1 j) ∧ st.2.2.1 = nvA (wsB S (fW b) j) (i + 1) ∧ st.2.2.2.1 = nI (i + 1) ∧ (∃ v, MG st.2.2.2.2 (setC (told S) (fW b) j v)) ∧ frM SL R st.2.2.2.2 ∧ Tb st.2.2.2.2 S (fW b) j (i + 1)) (fun z => z.1 = nvA (wsB S (fW b) j) 10 ∧ frM SL R z.2 ∧ Tb z.2 S (fW b) j 10 ∧ z.2 0 11 0 = nI ((told S).1 6 0))))) := by
      refine (md_isSeen hS ok2 g2 (hR.fr (a6.tr frx))).mono (fun z ⟨z1, z2, z3⟩ => ?_)
      rw [e6] at z2
      have fr : frM SL R z.2 := (a6.tr frx).tr (z3.sub RuL_SL)
      have tb : Tb z.2 S (fW b) j i := fun v hv k hk => by rw [z3 35 (by decide)]; exact tbx v hv k hk
      refine ⟨fun h0 => ?_, fun h0 => ?_⟩
      · have hp : ¬ wsB S (fW b) j i = true := fun hp => by
          rw [z1, b01_1 (p := seenB S (setC (told S) (fW b) j i)) hp] at h0
          exact absurd h0 (by decide)
        refine (md_was83 hS hi (u := nvA (wsB S (fW b) j) (i + 1)) (by rw [nvA, if_neg hp, a3, or_0]) z2 fr tb (Q := fun _ => False)).mono (fun y hy => ?_)
        rcases y with y | y
        · exact ⟨hy.1, hy.2.1, hy.2.2.1, hy.2.2.2.1, ⟨i, hy.2.2.2.2.1⟩, hy.2.2.2.2.2.1, hy.2.2.2.2.2.2⟩
        · exact hy.elim
      · have hp : wsB S (fW b) j i = true := by
          apply Decidable.byContradiction
          intro hp
          exact h0 (by rw [z1, b01_0 (p := seenB S (setC (told S) (fW b) j i)) hp])
        refine (md_was83 hS hi (u := nvA (wsB S (fW b) j) (i + 1)) (by rw [nvA, if_pos hp, a3]) z2 fr tb (Q := fun _ => False)).mono (fun y hy => ?_)
        rcases y with y | y
        · exact ⟨hy.1, hy.2.1, hy.2.2.1, hy.2.2.2.1, ⟨i, hy.2.2.2.2.1⟩, hy.2.2.2.2.2.1, hy.2.2.2.2.2.2⟩
        · exact hy.elim
    unfold fX10_wasBy_25 fX10_wasBy_47 fX10_wasBy_65
    simp only [sp_gd, sp_nm, sp_bind, sp_ite, sp_some, sp_inr]
    rw [il10, nI_leI (by omega) (by omega), inB_nI (by omega), nI_clamp (by omega)]
    refine ⟨fun hc => absurd hc (by omega), fun _ => ⟨fun hb0 => ⟨by omega, fun hb1 => ?_, fun hb1 => ⟨by omega, ?_⟩⟩, fun hb0 => ⟨by omega, fun hb1 => ⟨by omega, ?_⟩, fun hb1 => ?_⟩⟩⟩
    · exact absurd (hb0.symm.trans hb1) (by decide)
    · rw [il0, nI_eq (by omega) (by omega)] at hb0
      rw [if_pos hb0, if_pos hb0] at hMx
      rw [← hMx]
      exact key
    · rw [il0, nI_eq (by omega) (by omega)] at hb0
      rw [if_neg hb0, if_neg hb0] at hMx
      rw [← hMx]
      exact key
    · rw [il0, nI_eq (by omega) (by omega)] at hb0
      rw [il1, nI_eq (by omega) (by omega)] at hb1
      omega
  · rintro ⟨x3, x4, x5, x6, Mc⟩ ⟨a1, a2, a3, a4, ⟨v, a5⟩, a6, a7⟩
    dsimp only at a1 a2 a3 a4 a5 a6 a7 ⊢
    subst a1 a2 a4
    unfold fX10_wasBy_25 fX10_wasBy_130
    simp only [sp_gd, sp_nm, sp_bind, sp_ite, sp_some, sp_inr]
    rw [il10, nI_leI (by omega) (by omega), inB_nI (by omega), nI_clamp (by omega)]
    refine ⟨fun _ => ⟨by omega, by omega, a3, (a6.w _ _ _ (by decide)).w _ _ _ (by decide), fun v hv k hk => ?_, ?_⟩, fun hc => absurd (Nat.le_refl _) hc⟩
    · dsimp only
      rw [wr_row _ _ _ _ _ (by decide), wr_row _ _ _ _ _ (by decide)]; exact a7 v hv k hk
    · dsimp only
      rw [wr_row _ _ _ _ _ (by decide), wr_row _ _ _ _ _ (by decide), a5.2.2.2.1, setC_o (by omega)]
theorem op_was {C R : Mem} (h : Rel C R) (a b : Int32) : ∃ (r : Int32) (C' R' : Mem), fX9_was C a b = some (r, C') ∧ fX10_was R a b = some (r, R') ∧ Rel C' R' := by
  obtain ⟨S, hS, hC, hR⟩ := h
  have h8 := (okC_told hS).1
  have hg := hC.2.1.1
  rcases ixI a (n := (told S).1 5 0) (by omega) with ha | ⟨j, hj, rfl⟩
  · refine op_rw (S' := S) (r := -2) hS ?_ ?_
    · unfold fX9_was
      simp only [sp_gd, sp_nm, sp_bind, sp_ite, sp_some, sp_inr]
      exact Sp.of (h_0 hg.2.2.2.1 ha) ⟨fun _ => ⟨(by trivial), hC⟩, fun z => absurd rfl z⟩
    · unfold fX10_was
      simp only [sp_gd, sp_nm, sp_bind, sp_ite, sp_some, sp_inr]
      exact (md_isHeir0 hS hR ha).mono (fun z ⟨z1, z2, z3⟩ => ⟨fun _ => ⟨(by trivial), hR.fr z3⟩, fun q => absurd z1 q⟩)
  · rcases ixI b (n := 2) (by omega) with hb | ⟨w, hw, rfl⟩
    · refine op_rw (S' := S) (r := -2) hS ?_ ?_
      · unfold fX9_was
        simp only [sp_gd, sp_nm, sp_bind, sp_ite, sp_some, sp_inr]
        exact Sp.of (h_1 hg.2.2.2.1 hj (by omega)) ⟨fun z => absurd z (by decide), fun _ => Sp.of (w_0 (n := 1) hb (by omega)) ⟨fun _ => ⟨(by trivial), hC⟩, fun z => absurd rfl z⟩⟩
      · unfold fX10_was
        simp only [sp_gd, sp_nm, sp_bind, sp_ite, sp_some, sp_inr]
        refine (md_isHeir1 hS hR hj).mono (fun z ⟨z1, z2, z3⟩ => ⟨fun q => absurd (z1.symm.trans q) (by decide), fun _ => ?_⟩)
        exact Sp.of (in_0 (n := 1) hb (by omega)) ⟨fun _ => ⟨(by trivial), hR.fr z3⟩, fun q => absurd rfl q⟩
    · refine op_rw (S' := S) hS ((cl_was hS hC hj (b := w) (by omega)).mono (fun z ⟨z1, z2⟩ => ⟨z1, hC.trial z2⟩)) ?_
      unfold fX10_was
      simp only [sp_gd, sp_nm, sp_bind, sp_ite, sp_some, sp_inr]
      refine (md_isHeir1 hS hR hj).mono (fun z ⟨z1, z2, z3⟩ => ⟨fun q => absurd (z1.symm.trans q) (by decide), fun _ => ?_⟩)
      refine Sp.of (in_1 (j := w) (n := 1) (by omega) (by omega)) ⟨fun q => absurd q (by decide), fun _ => ?_⟩
      exact (md_wasBy hS (hR.fr z3) hj (by omega)).mono (fun y ⟨y1, y2, _⟩ => ⟨y1, hR.fr (z3.tr y2)⟩)
