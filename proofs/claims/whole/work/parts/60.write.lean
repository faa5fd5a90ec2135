/-! ===== write ===== -/
def wrI (S : St) (s k : Nat) (i : Nat) : Int32 := if i < min (S.1 11 s) ((told S).1 5 0) then cutF (S.1 10 s) (nI ((stW (told S) k).1 0 i)) else S.2 s i
theorem op_write {C R : Mem} (h : Rel C R) (a b : Int32) : ∃ (r : Int32) (C' R' : Mem), fX9_write C a b = some (r, C') ∧ fX10_write R a b = some (r, R') ∧ Rel C' R' := by
  obtain ⟨S, hS, hC, hR⟩ := h
  have hγ := okC_told hS
  have hn := hγ.2.1
  have h8 := hγ.1
  have hg := hC.2.1.1
  rcases ixI a (n := (told S).1 6 0 + 1) (by omega) with ha | ⟨k, hk, rfl⟩
  · refine op_rw (S' := S) (r := -2) hS ?_ ?_
    · unfold fX9_write
      simp only [sp_gd, sp_nm, sp_bind, sp_ite, sp_some, sp_inr]
      rw [hg.2.2.2.2.1]
      exact Sp.of (w_0 ha (by omega)) ⟨fun _ => ⟨(by trivial), hC⟩, fun z => absurd rfl z⟩
    · unfold fX10_write
      simp only [sp_gd, sp_nm, sp_bind, sp_ite, sp_some, sp_inr]
      refine (md_stopsMany hS hR).mono (fun z ⟨z1, z2, z3⟩ => ?_)
      rw [z1]
      exact Sp.of (in_0 ha (by omega)) ⟨fun _ => ⟨(by trivial), hR.fr z3⟩, fun q => absurd rfl q⟩
  · rcases ixI b (n := 4) (by omega) with hb | ⟨s, hs, rfl⟩
    · refine op_rw (S' := S) (r := -2) hS ?_ ?_
      · unfold fX9_write
        simp only [sp_gd, sp_nm, sp_bind, sp_ite, sp_some, sp_inr]
        rw [hg.2.2.2.2.1]
        exact Sp.of (w_1 (j := k) (by omega) (by omega)) ⟨fun z => absurd z (by decide), fun _ => Sp.of (cs_0 hb) ⟨fun _ => ⟨(by trivial), hC⟩, fun z => absurd rfl z⟩⟩
      · unfold fX10_write
        simp only [sp_gd, sp_nm, sp_bind, sp_ite, sp_some, sp_inr]
        refine (md_stopsMany hS hR).mono (fun z ⟨z1, z2, z3⟩ => ?_)
        rw [z1]
        exact Sp.of (in_1 (j := k) (by omega) (by omega)) ⟨fun q => absurd q (by decide), fun _ => Sp.of (ms_0 hb) ⟨fun _ => ⟨(by trivial), hR.fr z3⟩, fun q => absurd rfl q⟩⟩
    · obtain ⟨q1, q2, q3⟩ := hS.2.2.2.2.2.1 s hs
      obtain ⟨c1, c2, c3, c4⟩ := hC.1.2.2.2.2.1 s hs
      obtain ⟨r1, r2, r3, r4⟩ := hR.2.2.2.2.2.1 s hs
      by_cases ht : S.1 9 s = 1
      · have hm1 := Nat.min_le_left (S.1 11 s) ((told S).1 5 0)
        have hm2 := Nat.min_le_right (S.1 11 s) ((told S).1 5 0)
        refine op_rw (S' := sSh S s 1 (S.1 10 s) (S.1 11 s) (wrI S s k)) (r := nI (min (S.1 11 s) ((told S).1 5 0))) (okS_Sh hS (by omega) q2 q3) ?_ ?_
        · unfold fX9_write
          simp only [sp_gd, sp_nm, sp_bind, sp_ite, sp_some, sp_inr]
          rw [hg.2.2.2.2.1]
          refine Sp.of (w_1 (j := k) (by omega) (by omega)) ⟨fun z => absurd z (by decide), fun _ => Sp.of (cs_1 hs) ⟨fun z => absurd z (by decide), fun _ => ?_⟩⟩
          rw [inB_nI (by omega), nI_clamp (by omega), c1, c3, hg.2.2.2.1, imin_nI (by omega) (by omega)]
          refine ⟨hs, fun _ => ?_, fun z => absurd ((n1e q1).mpr ht) z⟩
          refine lp_for (fun i st => st.1 = nI (min (S.1 11 s) ((told S).1 5 0)) ∧ st.2.1 = nI i ∧ frO (21 + s) C st.2.2 ∧ (∀ f, f ≠ 0 → st.2.2 (21 + s) f = C (21 + s) f) ∧ ∀ q, q < 60 → st.2.2 (21 + s) 0 q = if q < i then wrI S s k q else S.2 s q) (min (S.1 11 s) ((told S).1 5 0)) (by omega) ?_ ?_ (Nat.zero_le _) ⟨rfl, rfl, frO.rf, fun _ _ => rfl, fun q hq => by dsimp only; rw [if_neg (Nat.not_lt_zero _)]; exact c4 q hq⟩
          · rintro i ⟨x4, x5, Mc⟩ hi ⟨a1, a2, a3, a4, a5⟩
            dsimp only at a1 a2 a3 a4 a5 ⊢
            subst a1 a2
            have hi1 : i < S.1 11 s := by omega
            have hi2 : i < (told S).1 5 0 := by omega
            unfold fX9_write_63
            simp only [sp_gd, sp_nm, sp_bind, sp_ite, sp_some, sp_inr]
            rw [nI_leI (by omega) (by omega), show nI k * (8 : Int32) + nI i = nI (8 * k + i) by rw [il8, pk_mul, nI_add, Nat.mul_comm], inB_nI (by omega), nI_clamp (by omega), nI_clamp (by omega), nI_1, a3 4 (by omega), (hC.2.1.2.2.2.1 k (by omega) i hi2).1]
            refine ⟨fun hc => absurd hc (by omega), fun _ => ⟨by omega, ?_⟩⟩
            refine (cl_store (fo := S.1 10 s) (by omega) q2 (by rw [a4 2 (by decide)]; exact c2)).mono (fun M' e => ⟨rfl, rfl, fun x hx => ?_, fun f hf => ?_, fun q hq => ?_⟩)
            · dsimp only
              rw [e, wr_ob _ _ _ _ _ hx]; exact a3 x hx
            · dsimp only
              rw [e, wr_row _ _ _ _ _ (fun z => hf z.2)]; exact a4 f hf
            · dsimp only
              rw [e, wr_ap]
              by_cases hqi : q = i
              · rw [if_pos ⟨rfl, rfl, hqi⟩, if_pos (by omega)]
                unfold wrI
                rw [if_pos (by omega), hqi]
              · rw [if_neg (fun z => hqi z.2.2), a5 q hq]
                by_cases hq2 : q < i
                · rw [if_pos hq2, if_pos (by omega)]
                · rw [if_neg hq2, if_neg (by omega)]
          · rintro ⟨x4, x5, Mc⟩ ⟨a1, a2, a3, a4, a5⟩
            dsimp only at a1 a2 a3 a4 a5 ⊢
            subst a1 a2
            unfold fX9_write_63
            simp only [sp_gd, sp_nm, sp_bind, sp_ite, sp_some, sp_inr]
            rw [nI_leI (by omega) (by omega)]
            refine ⟨fun _ => ⟨rfl, cl_sh hC hs a3 ?_ ?_ ?_ (fun q hq => ?_)⟩, fun hc => absurd (Nat.le_refl _) hc⟩
            · dsimp only
              rw [a4 1 (by decide), c1, ht]
            · dsimp only
              rw [a4 2 (by decide)]; exact c2
            · dsimp only
              rw [a4 3 (by decide)]; exact c3
            · dsimp only
              rw [a5 q hq]
              by_cases hq2 : q < min (S.1 11 s) ((told S).1 5 0)
              · rw [if_pos hq2]
              · rw [if_neg hq2]
                unfold wrI
                rw [if_neg hq2]
        · unfold fX10_write
          simp only [sp_gd, sp_nm, sp_bind, sp_ite, sp_some, sp_inr]
          refine (md_stopsMany hS hR).mono (fun z ⟨z1, z2, z3⟩ => ?_)
          rw [z1]
          refine Sp.of (in_1 (j := k) (by omega) (by omega)) ⟨fun q => absurd q (by decide), fun _ => Sp.of (ms_1 hs) ⟨fun q => absurd q (by decide), fun _ => ?_⟩⟩
          rw [inB_nI (by omega), nI_clamp (by omega), z3 36 (by decide), r1]
          refine ⟨hs, fun z => absurd ((n0e q1).mp z) (by omega), fun _ => ?_⟩
          refine (md_runsTold hS (hR.fr z3)).mono (fun R1 ⟨⟨m1, m2, m3, m4, m5⟩, t1, f1⟩ => ?_)
          have hR1 : RR R1 S := hR.fr (z3.tr f1)
          obtain ⟨u1, u2, u3, u4⟩ := hR1.2.2.2.2.2.1 s hs
          refine lp_for (fun i st => st.1 = nI i ∧ frM [39] R1 st.2 ∧ ∀ q, st.2 0 39 q = if 60 * s ≤ q ∧ q < 60 * s + i then wrI S s k (q - 60 * s) else R1 0 39 q) (min (S.1 11 s) ((told S).1 5 0)) (by omega) ?_ ?_ (Nat.zero_le _) ⟨rfl, frM.rf, fun q => by dsimp only; rw [if_neg (by omega)]⟩
          · rintro i ⟨x, Mc⟩ hi ⟨a1, a2, a3⟩
            dsimp only at a1 a2 a3 ⊢
            subst a1
            have hi1 : i < S.1 11 s := by omega
            have hi2 : i < (told S).1 5 0 := by omega
            unfold fX10_write_43
            simp only [sp_gd, sp_nm, sp_bind, sp_ite, sp_some, sp_inr]
            rw [inB_nI (by omega), nI_clamp (by omega), show Mc 0 38 s = nI (S.1 11 s) by rw [a2 38 (by decide)]; exact u3, nI_leI (by omega) (by omega), show Mc 0 2 0 = nI ((told S).1 5 0) by rw [a2 2 (by decide)]; exact m1.1, nI_leI (by omega) (by omega), show (8 : Int32) * nI k + nI i = nI (8 * k + i) by rw [il8, pk_mul, nI_add], inB_nI (by omega), nI_clamp (by omega), nI_1, show Mc 0 28 (8 * k + i) = nI ((stW (told S) k).1 0 i) by rw [a2 28 (by decide)]; exact (m3.2 k (by omega) i hi2).1]
            refine ⟨hs, fun hc => absurd hc (by omega), fun _ => ⟨fun hc => absurd hc (by omega), fun _ => ⟨by omega, ?_⟩⟩⟩
            refine (md_keep (fo := S.1 10 s) hs (by omega) q2 (by rw [a2 37 (by decide)]; exact u2)).mono (fun M' e => ⟨rfl, ?_, fun q => ?_⟩)
            · dsimp only
              rw [e]; exact a2.w _ _ _ (by decide)
            · dsimp only
              rw [e, wr_ap]
              by_cases hqi : q = 60 * s + i
              · rw [if_pos ⟨rfl, rfl, hqi⟩, if_pos (by omega), hqi, show 60 * s + i - 60 * s = i by omega]
                unfold wrI
                rw [if_pos hi]
              · rw [if_neg (fun z => hqi z.2.2), a3 q]
                by_cases hq2 : 60 * s ≤ q ∧ q < 60 * s + i
                · rw [if_pos hq2, if_pos (by omega)]
                · rw [if_neg hq2, if_neg (by omega)]
          · rintro ⟨x, Mc⟩ ⟨a1, a2, a3⟩
            dsimp only at a1 a2 a3 ⊢
            subst a1
            have fin : z3 = z3 → (nI (min (S.1 11 s) ((told S).1 5 0)) = nI (min (S.1 11 s) ((told S).1 5 0)) ∧ RR Mc (sSh S s 1 (S.1 10 s) (S.1 11 s) (wrI S s k))) := by
              intro _
              refine ⟨rfl, md_sh hR1 hs (a2.sub (by decide)) (fun q hq => ?_) (fun q hq => ?_) (fun q hq => ?_) (fun q j hq hj => ?_)⟩
              · rw [a2 36 (by decide)]
                split
                · rename_i e; rw [e, u1, ht]
                · rfl
              · rw [a2 37 (by decide)]
                split
                · rename_i e; rw [e]; exact u2
                · rfl
              · rw [a2 38 (by decide)]
                split
                · rename_i e; rw [e]; exact u3
                · rfl
              · rw [a3]
                by_cases hqs : q = s
                · subst hqs
                  rw [if_pos rfl]
                  by_cases hj2 : j < min (S.1 11 q) ((told S).1 5 0)
                  · rw [if_pos (by omega), show 60 * q + j - 60 * q = j by omega]
                  · rw [if_neg (by omega)]
                    unfold wrI
                    rw [if_neg hj2]
                    exact u4 j hj
                · rw [if_neg hqs, if_neg (by omega)]
            unfold fX10_write_43
            simp only [sp_gd, sp_nm, sp_bind, sp_ite, sp_some, sp_inr]
            rw [inB_nI (by omega), nI_clamp (by omega), show Mc 0 38 s = nI (S.1 11 s) by rw [a2 38 (by decide)]; exact u3, nI_leI (by omega) (by omega), show Mc 0 2 0 = nI ((told S).1 5 0) by rw [a2 2 (by decide)]; exact m1.1, nI_leI (by omega) (by omega)]
            exact ⟨hs, fun _ => fin rfl, fun hc => ⟨fun _ => fin rfl, fun hc2 => absurd (by omega) hc2⟩⟩
      · refine op_rw (S' := sFd S 1) (r := (-10 : Int32) - nI 1) (okS_Fd hS (by omega)) ?_ ?_
        · unfold fX9_write
          simp only [sp_gd, sp_nm, sp_bind, sp_ite, sp_some, sp_inr]
          rw [hg.2.2.2.2.1]
          refine Sp.of (w_1 (j := k) (by omega) (by omega)) ⟨fun z => absurd z (by decide), fun _ => Sp.of (cs_1 hs) ⟨fun z => absurd z (by decide), fun _ => ?_⟩⟩
          rw [inB_nI (by omega), nI_clamp (by omega), c1]
          exact ⟨hs, fun z => absurd ((n1e q1).mp z) ht, fun _ => cl_found hC 1⟩
        · unfold fX10_write
          simp only [sp_gd, sp_nm, sp_bind, sp_ite, sp_some, sp_inr]
          refine (md_stopsMany hS hR).mono (fun z ⟨z1, z2, z3⟩ => ?_)
          rw [z1]
          refine Sp.of (in_1 (j := k) (by omega) (by omega)) ⟨fun q => absurd q (by decide), fun _ => Sp.of (ms_1 hs) ⟨fun q => absurd q (by decide), fun _ => ?_⟩⟩
          rw [inB_nI (by omega), nI_clamp (by omega), z3 36 (by decide), r1]
          exact ⟨hs, fun _ => md_meets (hR.fr z3) 1, fun z => absurd ((n0e q1).mpr (by omega)) z⟩
