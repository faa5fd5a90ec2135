/-! ===== read ===== -/
def rdF (it : Nat → Int32) (n0 : Nat) (i : Nat) : Bool := decide (¬ it i < 0 ∧ ¬ nI 20 ≤ it i ∧ n0 + i < 6)
def rdG (S : St) (s : Nat) (q : Nat) : Nat := if q < S.1 5 0 then S.1 4 q else (S.2 s (q - S.1 5 0)).toNatClampNeg
theorem rd_t {it : Nat → Int32} {n0 i : Nat} (h : rdF it n0 i = true) : (∃ j, j < 20 ∧ it i = nI j) ∧ n0 + i < 6 := by
  obtain ⟨h1, h2, h3⟩ := of_decide_eq_true h
  rcases ixI (it i) (n := 20) (by omega) with q | q
  · rcases q with q | q
    · exact absurd q h1
    · exact absurd q h2
  · exact ⟨q, h3⟩
theorem rd_f {it : Nat → Int32} {n0 i : Nat} (h : rdF it n0 i = false) : outI (it i) 20 ∨ 6 ≤ n0 + i := by
  have h := of_decide_eq_false h
  by_cases h1 : it i < 0
  · exact Or.inl (Or.inl h1)
  · by_cases h2 : nI 20 ≤ it i
    · exact Or.inl (Or.inr h2)
    · exact Or.inr (Nat.not_lt.mp fun q => h ⟨h1, h2, q⟩)
theorem op_read {C R : Mem} (h : Rel C R) (a : Int32) : ∃ (r : Int32) (C' R' : Mem), fX9_read C a = some (r, C') ∧ fX10_read R a = some (r, R') ∧ Rel C' R' := by
  obtain ⟨S, hS, hC, hR⟩ := h
  rcases ixI a (n := 4) (by omega) with ha | ⟨s, hs, rfl⟩
  · refine op_rw (S' := S) (r := -2) hS ?_ ?_
    · unfold fX9_read
      simp only [sp_gd, sp_nm, sp_bind, sp_ite, sp_some, sp_inr]
      exact Sp.of (cs_0 ha) ⟨fun _ => ⟨(by trivial), hC⟩, fun z => absurd rfl z⟩
    · unfold fX10_read
      simp only [sp_gd, sp_nm, sp_bind, sp_ite, sp_some, sp_inr]
      exact Sp.of (ms_0 ha) ⟨fun _ => ⟨(by trivial), hR⟩, fun z => absurd rfl z⟩
  · obtain ⟨q1, q2, q3⟩ := hS.2.2.2.2.2.1 s hs
    obtain ⟨c1, c2, c3, c4⟩ := hC.1.2.2.2.2.1 s hs
    obtain ⟨r1, r2, r3, r4⟩ := hR.2.2.2.2.2.1 s hs
    have h6 := hS.2.2.2.1.1
    by_cases ht : S.1 9 s = 1
    · obtain ⟨k, hk⟩ : ∃ k, k = bad (rdF (S.2 s) (S.1 5 0)) (S.1 11 s) := ⟨_, rfl⟩
      have hkz : k ≤ S.1 11 s := by rw [hk]; exact bad_le _ _
      have hkg : ∀ p, p < k → rdF (S.2 s) (S.1 5 0) p = true := fun p hp => bad_good _ _ (by rw [← hk]; exact hp)
      have hk6 : S.1 5 0 + k ≤ 6 := by
        cases k with
        | zero => omega
        | succ k => have := (rd_t (hkg k (by omega))).2; omega
      have hbadk : ∀ i, i < S.1 11 s → (∀ p, p < i → rdF (S.2 s) (S.1 5 0) p = true) → rdF (S.2 s) (S.1 5 0) i = false → i = k := fun i hi hp hf => by rw [hk, bad_at hp hf _ hi]
      have hallk : (∀ p, p < S.1 11 s → rdF (S.2 s) (S.1 5 0) p = true) → S.1 11 s = k := fun hp => by rw [hk, bad_all _ hp]
      have hGlt : ∀ i, i < S.1 5 0 + k → rdG S s i < 20 := by
        intro i hi
        unfold rdG
        split
        · exact hS.2.2.2.1.2 i (by assumption)
        · obtain ⟨⟨j, hj, e⟩, -⟩ := rd_t (hkg (i - S.1 5 0) (by omega))
          rw [e, nI_clamp (by omega)]; exact hj
      refine op_rw (S' := sFl S (S.1 5 0 + k) (rdG S s)) (r := nI k) (okS_Fl hS hk6 hGlt) ?_ ?_
      · unfold fX9_read
        simp only [sp_gd, sp_nm, sp_bind, sp_ite, sp_some, sp_inr]
        refine Sp.of (cs_1 hs) ⟨fun z => absurd z (by decide), fun _ => ?_⟩
        rw [inB_nI (by omega), nI_clamp (by omega), c1, hC.1.2.2.1.1]
        refine ⟨hs, fun _ => ?_, fun z => absurd ((n1e q1).mpr ht) z⟩
        have fin : ∀ (i : Nat) (Mc : Mem), i = k → frO 9 C Mc → Mc 9 1 0 = nI (S.1 5 0 + i) → (∀ q, q < S.1 5 0 + i → Mc 9 0 q = nI (rdG S s q)) → Sp (fX9_read_84 (nI s) (nI (S.1 5 0)) Mc) (fun z => z.1 = nI k ∧ RC z.2 (sFl S (S.1 5 0 + k) (rdG S s))) := by
          intro i Mc hik f1 f2 f3
          subst hik
          unfold fX9_read_84
          simp only [sp_gd, sp_nm, sp_bind, sp_ite, sp_some, sp_inr]
          refine (cl_flies hS hC hk6 hGlt f1 f2 f3).mono (fun M' ⟨m1, m2⟩ => ⟨?_, m1⟩)
          rw [m2, f2, pk_sub (by omega)]
          congr 1
          omega
        refine lp_for (fun i st => st.1 = nI (S.1 5 0) ∧ st.2.1 = nI i ∧ frO 9 C st.2.2 ∧ st.2.2 9 1 0 = nI (S.1 5 0 + i) ∧ (∀ q, q < S.1 5 0 + i → st.2.2 9 0 q = nI (rdG S s q)) ∧ ∀ p, p < i → rdF (S.2 s) (S.1 5 0) p = true) (S.1 11 s) (by omega) ?_ ?_ (Nat.zero_le _) ⟨rfl, rfl, frO.rf, hC.1.2.2.1.1, fun q hq => ?_, fun p hp => absurd hp (Nat.not_lt_zero _)⟩
        · rintro i ⟨x3, x4, Mc⟩ hi ⟨a1, a2, a3, a4, a5, a6⟩
          dsimp only at a1 a2 a3 a4 a5 a6 ⊢
          subst a1 a2
          have eS : Mc (21 + s) = C (21 + s) := a3 _ (by omega)
          have hle6 : S.1 5 0 + i ≤ 6 := by
            cases i with
            | zero => omega
            | succ i => have := (rd_t (a6 i (by omega))).2; omega
          unfold fX9_read_41 fX9_mayFly
          simp only [sp_gd, sp_nm, sp_bind, sp_ite, sp_some, sp_inr]
          rw [nI_clamp (by omega), nI_clamp (by omega), eS, c3, c4 i (by omega), nI_leI (by omega) (by omega), inB_nI (by omega), nI_1, a4, il6, nI_leI (by omega) (by omega)]
          refine ⟨fun hc => absurd hc (by omega), fun _ => ⟨by omega, ?_⟩⟩
          cases hf : rdF (S.2 s) (S.1 5 0) i with
          | true =>
            obtain ⟨⟨j, hj, e⟩, hlt⟩ := rd_t hf
            rw [e]
            refine Sp.of (w_1 (j := j) (n := 19) (by omega) (by omega)) ⟨fun z => absurd z (by decide), fun _ => ⟨fun z => absurd z (by omega), fun _ => ⟨fun z => absurd z (by decide), fun _ => ⟨by omega, ?_⟩⟩⟩⟩
            refine (cl_append (n := S.1 5 0 + i) (g := rdG S s) (by omega) a4 a5).mono (fun M' ⟨m1, m2, m3⟩ => ⟨rfl, rfl, a3.tr m1, m2, fun q hq => ?_, fun p hp => ?_⟩)
            · dsimp only
              rw [m3 q hq]
              unfold uN
              by_cases hqi : q = S.1 5 0 + i
              · rw [if_pos hqi]
                unfold rdG
                rw [if_neg (by omega), hqi, show S.1 5 0 + i - S.1 5 0 = i by omega, e, nI_clamp (by omega)]
              · rw [if_neg hqi]
            · by_cases hpi : p = i
              · rw [hpi]; exact hf
              · exact a6 p (by omega)
          | false =>
            have hik := hbadk i hi a6 hf
            rcases ixI (S.2 s i) (n := 20) (by omega) with ho | ⟨j, hj, e⟩
            · exact Sp.of (w_0 (n := 19) ho (by omega)) ⟨fun _ => ⟨fun _ => fin i Mc hik a3 a4 a5, fun z => absurd trivial z⟩, fun z => absurd rfl z⟩
            · rw [e]
              have h66 : 6 ≤ S.1 5 0 + i := by
                rcases rd_f hf with ho | ho
                · rw [e] at ho
                  rcases ho with ho | ho
                  · exact absurd ho (nI_pos (by omega))
                  · exact absurd ((nI_leI (by omega) (by omega)).mp ho) (by omega)
                · exact ho
              exact Sp.of (w_1 (j := j) (n := 19) (by omega) (by omega)) ⟨fun z => absurd z (by decide), fun _ => ⟨fun _ => ⟨fun _ => fin i Mc hik a3 a4 a5, fun z => absurd trivial z⟩, fun z => absurd h66 z⟩⟩
        · rintro ⟨x3, x4, Mc⟩ ⟨a1, a2, a3, a4, a5, a6⟩
          dsimp only at a1 a2 a3 a4 a5 a6 ⊢
          subst a1 a2
          have eS : Mc (21 + s) = C (21 + s) := a3 _ (by omega)
          unfold fX9_read_41
          simp only [sp_gd, sp_nm, sp_bind, sp_ite, sp_some, sp_inr]
          rw [nI_clamp (by omega), eS, c3, nI_leI (by omega) (by omega)]
          exact ⟨fun _ => fin _ Mc (hallk a6) a3 a4 a5, fun hc => absurd (Nat.le_refl _) hc⟩
        · dsimp only
          have hq' : q < S.1 5 0 := by omega
          unfold rdG
          rw [if_pos hq']
          exact hC.1.2.2.1.2 q hq'
      · unfold fX10_read
        simp only [sp_gd, sp_nm, sp_bind, sp_ite, sp_some, sp_inr]
        refine Sp.of (ms_1 hs) ⟨fun z => absurd z (by decide), fun _ => ?_⟩
        rw [inB_nI (by omega), nI_clamp (by omega), r1]
        refine ⟨hs, fun z => absurd ((n0e q1).mp z) (by omega), fun _ => ?_⟩
        refine lp_for (fun i st => st.1 = nI i ∧ RR st.2 (sFl S (S.1 5 0 + i) (rdG S s)) ∧ frM [9, 10] R st.2 ∧ ∀ p, p < i → rdF (S.2 s) (S.1 5 0) p = true) (S.1 11 s) (by omega) ?_ ?_ (Nat.zero_le _) ⟨rfl, ?_, frM.rf, fun p hp => absurd hp (Nat.not_lt_zero _)⟩
        · rintro i ⟨x, Mc⟩ hi ⟨a1, a2, a3, a4⟩
          dsimp only at a1 a2 a3 a4 ⊢
          subst a1
          have hle6 : S.1 5 0 + i ≤ 6 := by
            cases i with
            | zero => omega
            | succ i => have := (rd_t (a4 i (by omega))).2; omega
          unfold fX10_read_27
          simp only [sp_gd, sp_nm, sp_bind, sp_ite, sp_some, sp_inr]
          rw [inB_nI (by omega), nI_clamp (by omega), show Mc 0 38 s = nI (S.1 11 s) by rw [a3 38 (by decide)]; exact r3, nI_leI (by omega) (by omega), il60, pk_mul, nI_add, inB_nI (by omega), nI_clamp (by omega), show Mc 0 39 (60 * s + i) = S.2 s i by rw [a3 39 (by decide)]; exact r4 i (by omega), nI_1]
          refine ⟨hs, fun hc => absurd hc (by omega), fun _ => ⟨by omega, ?_⟩⟩
          cases hf : rdF (S.2 s) (S.1 5 0) i with
          | true =>
            obtain ⟨⟨j, hj, e⟩, hlt⟩ := rd_t hf
            rw [e]
            refine (md_fly (S := sFl S (S.1 5 0 + i) (rdG S s)) a2 hlt hj).mono (fun z ⟨z1, z2, z3⟩ => ⟨fun q => ?_, fun _ => ⟨rfl, ?_, a3.tr z3, fun p hp => ?_⟩⟩)
            · rw [z1] at q
              exact absurd q (nI_nle (Nat.succ_pos _) (by show S.1 5 0 + i + 1 < _; omega))
            · dsimp only
              refine md_flies hR (fun f n9 n10 => by rw [z3 f (by simp; exact ⟨n9, n10⟩), a3 f (by simp; exact ⟨n9, n10⟩)]) z2.2.2.2.1.1 (fun q hq => ?_)
              have e2 : z.2 0 10 q = nI (uN (rdG S s) (S.1 5 0 + i) j q) := z2.2.2.2.1.2 q hq
              rw [e2]
              unfold uN
              by_cases hqi : q = S.1 5 0 + i
              · rw [if_pos hqi]
                unfold rdG
                rw [if_neg (by omega), hqi, show S.1 5 0 + i - S.1 5 0 = i by omega, e, nI_clamp (by omega)]
              · rw [if_neg hqi]
            · by_cases hpi : p = i
              · rw [hpi]; exact hf
              · exact a4 p (by omega)
          | false =>
            have hik := hbadk i hi a4 hf
            rcases ixI (S.2 s i) (n := 20) (by omega) with ho | ⟨j, hj, e⟩
            · unfold fX10_fly
              simp only [sp_gd, sp_nm, sp_bind, sp_ite, sp_some, sp_inr]
              refine Sp.of (mst_0 ho) ⟨fun _ => ⟨fun _ => ⟨by rw [hik], by rw [← hik]; exact a2⟩, fun z => absurd (by decide) z⟩, fun z => absurd rfl z⟩
            · have h66 : S.1 5 0 + i = 6 := by
                rcases rd_f hf with ho | ho
                · rw [e] at ho
                  rcases ho with ho | ho
                  · exact absurd ho (nI_pos (by omega))
                  · exact absurd ((nI_leI (by omega) (by omega)).mp ho) (by omega)
                · omega
              rw [e]
              unfold fX10_fly
              simp only [sp_gd, sp_nm, sp_bind, sp_ite, sp_some, sp_inr]
              refine Sp.of (mst_1 hj) ⟨fun z => absurd z (by decide), fun _ => ?_⟩
              rw [show Mc 0 9 0 = nI (S.1 5 0 + i) from a2.2.2.2.1.1, h66]
              exact ⟨fun _ => ⟨fun _ => ⟨by rw [hik], by rw [← hik]; exact a2⟩, fun z => absurd (by decide) z⟩, fun z => absurd rfl z⟩
        · rintro ⟨x, Mc⟩ ⟨a1, a2, a3, a4⟩
          dsimp only at a1 a2 a3 a4 ⊢
          subst a1
          unfold fX10_read_27
          simp only [sp_gd, sp_nm, sp_bind, sp_ite, sp_some, sp_inr]
          rw [inB_nI (by omega), nI_clamp (by omega), show Mc 0 38 s = nI (S.1 11 s) by rw [a3 38 (by decide)]; exact r3, nI_leI (by omega) (by omega)]
          have hzk := hallk a4
          exact ⟨hs, fun _ => ⟨by rw [hzk], by rw [← hzk]; exact a2⟩, fun hc => absurd (Nat.le_refl _) hc⟩
        · dsimp only
          refine md_flies hR (fun f _ _ => rfl) hR.2.2.2.1.1 (fun q hq => ?_)
          have hq' : q < S.1 5 0 := by omega
          unfold rdG
          rw [if_pos hq']
          exact hR.2.2.2.1.2 q hq'
    · refine op_rw (S' := sFd S 1) (r := (-10 : Int32) - nI 1) (okS_Fd hS (by omega)) ?_ ?_
      · unfold fX9_read
        simp only [sp_gd, sp_nm, sp_bind, sp_ite, sp_some, sp_inr]
        refine Sp.of (cs_1 hs) ⟨fun z => absurd z (by decide), fun _ => ?_⟩
        rw [inB_nI (by omega), nI_clamp (by omega), c1]
        exact ⟨hs, fun z => absurd ((n1e q1).mp z) ht, fun _ => cl_found hC 1⟩
      · unfold fX10_read
        simp only [sp_gd, sp_nm, sp_bind, sp_ite, sp_some, sp_inr]
        refine Sp.of (ms_1 hs) ⟨fun z => absurd z (by decide), fun _ => ?_⟩
        rw [inB_nI (by omega), nI_clamp (by omega), r1]
        exact ⟨hs, fun _ => md_meets hR 1, fun z => absurd ((n0e q1).mpr (by omega)) z⟩
