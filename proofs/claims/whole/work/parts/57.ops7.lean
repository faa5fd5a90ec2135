/-! ===== copy ===== -/
theorem hr_1 {o : Nat} {M : Mem} {z i n : Nat} (hz : z ≤ 60) (e : M o 3 0 = nI z) (h : i + n ≤ z) : fX4_hasRange o M (nI i) (nI n) = some 1 := by
  unfold fX4_hasRange
  rw [e, if_neg (nI_pos (by omega)), if_neg (nI_pos (by omega)), if_neg (nI_nlt (by omega) (by omega)), pk_sub (by omega), if_neg (nI_nlt (by omega) (by omega))]
theorem hr_0 {o : Nat} {M : Mem} {z : Nat} {x y : Int32} (hz : z ≤ 60) (e : M o 3 0 = nI z) (h : ¬ ∃ i n : Nat, x = nI i ∧ y = nI n ∧ i + n ≤ z) : fX4_hasRange o M x y = some 0 := by
  unfold fX4_hasRange
  rw [e]
  by_cases hx : x < 0
  · rw [if_pos hx]
  · rw [if_neg hx]
    by_cases hy : y < 0
    · rw [if_pos hy]
    · rw [if_neg hy]
      obtain ⟨i, hi, rfl⟩ := nI_of hx
      obtain ⟨n, hn, rfl⟩ := nI_of hy
      by_cases hzn : nI z < nI n
      · rw [if_pos hzn]
      · rw [if_neg hzn]
        rw [nI_ltI (by omega) hn] at hzn
        rw [pk_sub (by omega), if_pos ?_]
        rw [nI_ltI (by omega) hi]
        exact Nat.not_le.mp fun q => h ⟨i, n, rfl, rfl, by omega⟩
theorem lgc_lt {a b : Nat} (ha : a < 2147483648) (hb : b < 2147483648) : (0 < lg_cmp (lN a) (lN b)) ↔ b < a := by
  unfold lg_cmp
  by_cases h : lN a > lN b
  · rw [if_pos h]
    exact ⟨fun _ => (lN_lt hb ha).mp h, fun _ => by decide⟩
  · rw [if_neg h]
    have h2 : ¬ b < a := fun q => h ((lN_lt hb ha).mpr q)
    by_cases he : lN a = lN b
    · rw [if_pos he]; exact ⟨fun q => absurd q (by decide), fun q => absurd q h2⟩
    · rw [if_neg he]; exact ⟨fun q => absurd q (by decide), fun q => absurd q h2⟩
theorem lgc_le {a b : Nat} (ha : a < 2147483648) (hb : b < 2147483648) : (lg_cmp (lN a) (lN b) ≤ 0) ↔ a ≤ b := by
  have := lgc_lt ha hb
  constructor
  · intro h
    exact Nat.not_lt.mp fun q => absurd (this.mpr q) (Int32.not_lt.mpr h)
  · intro h
    exact Int32.not_lt.mp fun q => absurd (this.mp q) (by omega)
/-- behind the refusals: n items from i on come to j on -/
theorem md_copyRun {R : Mem} {S : St} {s t i j n : Nat} (hS : okS S) (hR : RR R S) (hs : s < 4) (ht : t < 4) (htt : S.1 9 t = 1) (h1 : i + n ≤ 60) (h2 : j + n ≤ 60) : Sp (lpO (fun st => fX10_copy_120 (nI s) (nI i) (nI t) (nI j) (nI n) st.1 st.2) FU (0, R)) (fun z => z.1 = 1 ∧ RR z.2 (sSh S t 1 (S.1 10 t) (S.1 11 t) (va_cpy (S.2 s) (S.2 t) i j n))) := by
  refine lp_for (fun k st => st.1 = nI k ∧ frM [40] R st.2 ∧ ∀ q, q < k → st.2 0 40 q = R 0 39 (60 * s + i + q)) n (by omega) ?_ ?_ (Nat.zero_le _) ⟨rfl, frM.rf, fun q hq => absurd hq (Nat.not_lt_zero _)⟩
  · rintro k ⟨x, Mc⟩ hk ⟨a1, a2, a3⟩
    dsimp only at a1 a2 a3 ⊢
    subst a1
    unfold fX10_copy_120
    simp only [sp_gd, sp_nm, sp_bind, sp_ite, sp_some, sp_inr]
    rw [nI_leI (by omega) (by omega), il60, pk_mul, nI_add, nI_add, nI_1, inB_nI (by omega), inB_nI (by omega), nI_clamp (by omega), nI_clamp (by omega), a2 39 (by decide)]
    refine ⟨fun hc => absurd hc (by omega), fun _ => ⟨by omega, by omega, rfl, a2.w _ _ _ (by decide), fun q hq => ?_⟩⟩
    simp only [wr_ap]
    by_cases hqk : q = k
    · simp [hqk]
    · simp [hqk]; exact a3 q (by omega)
  · rintro ⟨x, Mc⟩ ⟨a1, a2, a3⟩
    dsimp only at a1 a2 a3 ⊢
    subst a1
    unfold fX10_copy_120 fX10_copy_154
    simp only [sp_gd, sp_nm, sp_bind, sp_ite, sp_some, sp_inr]
    rw [nI_leI (by omega) (by omega)]
    refine ⟨fun _ => ?_, fun hc => absurd (Nat.le_refl _) hc⟩
    refine lp_for (fun k st => st.1 = nI k ∧ frM [39] Mc st.2 ∧ ∀ q, st.2 0 39 q = if 60 * t + j ≤ q ∧ q < 60 * t + j + k then R 0 39 (60 * s + i + (q - (60 * t + j))) else R 0 39 q) n (by omega) ?_ ?_ (Nat.zero_le _) ⟨rfl, frM.rf, fun q => by dsimp only; rw [if_neg (by omega), a2 39 (by decide)]⟩
    · rintro k ⟨x, Md⟩ hk ⟨b1, b2, b3⟩
      dsimp only at b1 b2 b3 ⊢
      subst b1
      unfold fX10_copy_157
      simp only [sp_gd, sp_nm, sp_bind, sp_ite, sp_some, sp_inr]
      rw [nI_leI (by omega) (by omega), il60, pk_mul, nI_add, nI_add, nI_1, inB_nI (by omega), inB_nI (by omega), nI_clamp (by omega), nI_clamp (by omega), b2 40 (by decide), a3 k hk]
      refine ⟨fun hc => absurd hc (by omega), fun _ => ⟨by omega, by omega, rfl, b2.w _ _ _ (by decide), fun q => ?_⟩⟩
      simp only [wr_ap]
      by_cases hq : q = 60 * t + j + k
      · rw [if_pos ⟨(by trivial), (by trivial), hq⟩, if_pos (by omega)]
        congr 1
        omega
      · rw [if_neg (fun z => hq z.2.2), b3 q]
        by_cases hq2 : 60 * t + j ≤ q ∧ q < 60 * t + j + k
        · rw [if_pos hq2, if_pos (by omega)]
        · rw [if_neg hq2, if_neg (by omega)]
    · rintro ⟨x, Md⟩ ⟨b1, b2, b3⟩
      dsimp only at b1 b2 b3 ⊢
      subst b1
      unfold fX10_copy_157
      simp only [sp_gd, sp_nm, sp_bind, sp_ite, sp_some, sp_inr]
      rw [nI_leI (by omega) (by omega)]
      have fr : frM [39, 40] R Md := (a2.sub (by decide)).tr (b2.sub (by decide))
      obtain ⟨r1, r2, r3, r4⟩ := hR.2.2.2.2.2.1 t ht
      refine ⟨fun _ => ⟨rfl, md_sh hR ht (fr.sub (by decide)) (fun q hq => ?_) (fun q hq => ?_) (fun q hq => ?_) (fun q k hq hk => ?_)⟩, fun hc => absurd (Nat.le_refl _) hc⟩
      · dsimp only
        rw [fr 36 (by decide)]
        split
        · rename_i e; rw [e, r1, htt]
        · rfl
      · dsimp only
        rw [fr 37 (by decide)]
        split
        · rename_i e; rw [e]; exact r2
        · rfl
      · dsimp only
        rw [fr 38 (by decide)]
        split
        · rename_i e; rw [e]; exact r3
        · rfl
      · dsimp only
        rw [b3]
        by_cases hqt : q = t
        · rw [if_pos hqt]
          unfold va_cpy
          by_cases hin : j ≤ k ∧ k < j + n
          · rw [if_pos hin, if_pos (by rw [hqt]; omega)]
            rw [show 60 * s + i + (60 * q + k - (60 * t + j)) = 60 * s + (i + (k - j)) by rw [hqt]; omega]
            exact (hR.2.2.2.2.2.1 s hs).2.2.2 _ (by omega)
          · rw [if_neg hin, if_neg (by rw [hqt]; omega), hqt]
            exact r4 k hk
        · rw [if_neg hqt, if_neg (by omega)]
theorem op_copy {C R : Mem} (h : Rel C R) (a b c d e : Int32) : ∃ (r : Int32) (C' R' : Mem), fX9_copy C a b c d e = some (r, C') ∧ fX10_copy R a b c d e = some (r, R') ∧ Rel C' R' := by
  obtain ⟨S, hS, hC, hR⟩ := h
  rcases ixI a (n := 4) (by omega) with ha | ⟨s, hs, rfl⟩
  · refine op_rw (S' := S) (r := -2) hS ?_ ?_
    · unfold fX9_copy
      simp only [sp_gd, sp_nm, sp_bind, sp_ite, sp_some, sp_inr]
      exact Sp.of (cs_0 ha) ⟨fun _ => ⟨(by trivial), hC⟩, fun z => absurd rfl z⟩
    · unfold fX10_copy
      simp only [sp_gd, sp_nm, sp_bind, sp_ite, sp_some, sp_inr]
      exact Sp.of (ms_0 ha) ⟨fun _ => ⟨(by trivial), hR⟩, fun z => absurd rfl z⟩
  · rcases ixI c (n := 4) (by omega) with hc | ⟨t, ht, rfl⟩
    · refine op_rw (S' := S) (r := -2) hS ?_ ?_
      · unfold fX9_copy
        simp only [sp_gd, sp_nm, sp_bind, sp_ite, sp_some, sp_inr]
        exact Sp.of (cs_1 hs) ⟨fun z => absurd z (by decide), fun _ => Sp.of (cs_0 hc) ⟨fun _ => ⟨(by trivial), hC⟩, fun z => absurd rfl z⟩⟩
      · unfold fX10_copy
        simp only [sp_gd, sp_nm, sp_bind, sp_ite, sp_some, sp_inr]
        exact Sp.of (ms_1 hs) ⟨fun z => absurd z (by decide), fun _ => Sp.of (ms_0 hc) ⟨fun _ => ⟨(by trivial), hR⟩, fun z => absurd rfl z⟩⟩
    · obtain ⟨q1, q2, q3⟩ := hS.2.2.2.2.2.1 s hs
      obtain ⟨p1, p2, p3⟩ := hS.2.2.2.2.2.1 t ht
      obtain ⟨c1, c2, c3, c4⟩ := hC.1.2.2.2.2.1 s hs
      obtain ⟨d1, d2, d3, d4⟩ := hC.1.2.2.2.2.1 t ht
      obtain ⟨r1, r2, r3, r4⟩ := hR.2.2.2.2.2.1 s hs
      obtain ⟨u1, u2, u3, u4⟩ := hR.2.2.2.2.2.1 t ht
      by_cases hts : S.1 9 s = 1
      · by_cases htt : S.1 9 t = 1
        · by_cases hfo : S.1 10 s = S.1 10 t
          · by_cases hg : ∃ i n : Nat, b = nI i ∧ e = nI n ∧ i + n ≤ S.1 11 s
            · by_cases hg2 : ∃ j n : Nat, d = nI j ∧ e = nI n ∧ j + n ≤ S.1 11 t
              · obtain ⟨i, n, rfl, rfl, h1⟩ := hg
                obtain ⟨j, n', rfl, hn', h2⟩ := hg2
                have hnn : n' < 2147483648 := by omega
                have : n = n' := (nI_eq (by omega) hnn).mp hn'
                subst this
                refine op_rw (S' := sSh S t 1 (S.1 10 t) (S.1 11 t) (va_cpy (S.2 s) (S.2 t) i j n)) (r := 1) (okS_Sh hS (by omega) p2 p3) ?_ ?_
                · unfold fX9_copy
                  simp only [sp_gd, sp_nm, sp_bind, sp_ite, sp_some, sp_inr]
                  refine Sp.of (cs_1 hs) ⟨fun z => absurd z (by decide), fun _ => Sp.of (cs_1 ht) ⟨fun z => absurd z (by decide), fun _ => ?_⟩⟩
                  rw [inB_nI (by omega), inB_nI (by omega), nI_clamp (by omega), nI_clamp (by omega), nI_clamp (by omega), nI_clamp (by omega), nI_clamp (by omega), c1, d1, c2, d2]
                  refine ⟨hs, ht, fun _ => ⟨fun _ => ⟨fun _ => ?_, fun z => absurd (by rw [hfo]) z⟩, fun z => absurd ((n1e p1).mpr htt) z⟩, fun z => absurd ((n1e q1).mpr hts) z⟩
                  refine Sp.of (hr_1 q3 c3 h1) ⟨fun z => absurd z (by decide), fun _ => Sp.of (hr_1 p3 d3 h2) ⟨fun z => absurd z (by decide), fun _ => ⟨⟨nI_pos (by omega), nI_pos (by omega), nI_pos (by omega), by omega, by omega⟩, (by trivial), ?_⟩⟩⟩
                  refine cl_sh hC ht (fun x hx => cp_ob _ _ _ _ _ _ _ _ hx) ?_ ?_ ?_ (fun k hk => ?_)
                  · rw [cp_ap, if_neg (by omega), d1, htt]
                  · rw [cp_ap, if_neg (by omega)]; exact d2
                  · rw [cp_ap, if_neg (by omega)]; exact d3
                  · rw [cp_ap, if_pos ⟨rfl, rfl⟩]
                    unfold va_cpy
                    split
                    · exact c4 _ (by omega)
                    · exact d4 k hk
                · unfold fX10_copy
                  simp only [sp_gd, sp_nm, sp_bind, sp_ite, sp_some, sp_inr]
                  refine Sp.of (ms_1 hs) ⟨fun z => absurd z (by decide), fun _ => Sp.of (ms_1 ht) ⟨fun z => absurd z (by decide), fun _ => ?_⟩⟩
                  rw [inB_nI (by omega), inB_nI (by omega), nI_clamp (by omega), nI_clamp (by omega), r1, u1, r2, u2, r3, u3, nI_l (by omega), nI_l (by omega), nI_l (by omega), nI_l (by omega), nI_l (by omega), lN_add, lN_add, lgc_lt (by omega) (by omega), lgc_le (by omega) (by omega)]
                  refine ⟨hs, fun z => absurd ((n0e q1).mp z) (by omega), fun _ => ⟨ht, fun z => absurd ((n0e p1).mp z) (by omega), fun _ => ⟨hs, ht, fun _ => ⟨fun z => absurd z (nI_pos (by omega)), fun _ => ⟨fun z => absurd z (nI_pos (by omega)), fun _ => ⟨fun z => absurd z (nI_pos (by omega)), fun _ => ⟨hs, fun z => absurd z (by omega), fun _ => ⟨ht, fun _ => ?_, fun z => absurd h2 z⟩⟩⟩⟩⟩, fun z => absurd (by rw [hfo]) z⟩⟩⟩
                  exact md_copyRun hS hR hs ht htt (by omega) (by omega)
              · -- the target has not so many
                refine op_rw (S' := sFd S 2) (r := (-10 : Int32) - nI 2) (okS_Fd hS (by omega)) ?_ ?_
                · obtain ⟨i, n, rfl, rfl, h1⟩ := hg
                  unfold fX9_copy
                  simp only [sp_gd, sp_nm, sp_bind, sp_ite, sp_some, sp_inr]
                  refine Sp.of (cs_1 hs) ⟨fun z => absurd z (by decide), fun _ => Sp.of (cs_1 ht) ⟨fun z => absurd z (by decide), fun _ => ?_⟩⟩
                  rw [inB_nI (by omega), inB_nI (by omega), nI_clamp (n := s) (by omega), nI_clamp (n := t) (by omega), c1, d1, c2, d2]
                  refine ⟨hs, ht, fun _ => ⟨fun _ => ⟨fun _ => ?_, fun z => absurd (by rw [hfo]) z⟩, fun z => absurd ((n1e p1).mpr htt) z⟩, fun z => absurd ((n1e q1).mpr hts) z⟩
                  exact Sp.of (hr_1 q3 c3 h1) ⟨fun z => absurd z (by decide), fun _ => Sp.of (hr_0 p3 d3 hg2) ⟨fun _ => cl_found hC 2, fun z => absurd rfl z⟩⟩
                · obtain ⟨i, n, rfl, rfl, h1⟩ := hg
                  unfold fX10_copy
                  simp only [sp_gd, sp_nm, sp_bind, sp_ite, sp_some, sp_inr]
                  refine Sp.of (ms_1 hs) ⟨fun z => absurd z (by decide), fun _ => Sp.of (ms_1 ht) ⟨fun z => absurd z (by decide), fun _ => ?_⟩⟩
                  rw [inB_nI (by omega), inB_nI (by omega), nI_clamp (n := s) (by omega), nI_clamp (n := t) (by omega), r1, u1, r2, u2, r3, u3]
                  refine ⟨hs, fun z => absurd ((n0e q1).mp z) (by omega), fun _ => ⟨ht, fun z => absurd ((n0e p1).mp z) (by omega), fun _ => ⟨hs, ht, fun _ => ⟨fun _ => md_meets hR 2, fun _ => ⟨fun _ => md_meets hR 2, fun hd => ⟨fun _ => md_meets hR 2, fun _ => ⟨hs, fun _ => md_meets hR 2, fun _ => ⟨ht, fun hle => ?_, fun _ => md_meets hR 2⟩⟩⟩⟩⟩, fun z => absurd (by rw [hfo]) z⟩⟩⟩
                  exfalso
                  obtain ⟨j, hj, rfl⟩ := nI_of hd
                  have key : (nI j).toInt64 + (nI n).toInt64 = lN (j + n) := by rw [nI_l hj, nI_l (by omega), lN_add]
                  rw [key, nI_l (by omega)] at hle
                  unfold lg_cmp at hle
                  have hbig : ¬ lN (j + n) > lN (S.1 11 t) := by
                    intro q
                    rw [if_pos q] at hle
                    exact absurd hle (by decide)
                  have : ¬ S.1 11 t < j + n := fun q => hbig ((pk_lLT (by omega) (by omega)).mpr q)
                  exact hg2 ⟨j, n, rfl, rfl, by omega⟩
            · refine op_rw (S' := sFd S 2) (r := (-10 : Int32) - nI 2) (okS_Fd hS (by omega)) ?_ ?_
              · unfold fX9_copy
                simp only [sp_gd, sp_nm, sp_bind, sp_ite, sp_some, sp_inr]
                refine Sp.of (cs_1 hs) ⟨fun z => absurd z (by decide), fun _ => Sp.of (cs_1 ht) ⟨fun z => absurd z (by decide), fun _ => ?_⟩⟩
                rw [inB_nI (by omega), inB_nI (by omega), nI_clamp (n := s) (by omega), nI_clamp (n := t) (by omega), c1, d1, c2, d2]
                refine ⟨hs, ht, fun _ => ⟨fun _ => ⟨fun _ => ?_, fun z => absurd (by rw [hfo]) z⟩, fun z => absurd ((n1e p1).mpr htt) z⟩, fun z => absurd ((n1e q1).mpr hts) z⟩
                exact Sp.of (hr_0 q3 c3 hg) ⟨fun _ => cl_found hC 2, fun z => absurd rfl z⟩
              · unfold fX10_copy
                simp only [sp_gd, sp_nm, sp_bind, sp_ite, sp_some, sp_inr]
                refine Sp.of (ms_1 hs) ⟨fun z => absurd z (by decide), fun _ => Sp.of (ms_1 ht) ⟨fun z => absurd z (by decide), fun _ => ?_⟩⟩
                rw [inB_nI (by omega), inB_nI (by omega), nI_clamp (n := s) (by omega), nI_clamp (n := t) (by omega), r1, u1, r2, u2, r3, u3]
                refine ⟨hs, fun z => absurd ((n0e q1).mp z) (by omega), fun _ => ⟨ht, fun z => absurd ((n0e p1).mp z) (by omega), fun _ => ⟨hs, ht, fun _ => ⟨fun _ => md_meets hR 2, fun hb => ⟨fun _ => md_meets hR 2, fun _ => ⟨fun _ => md_meets hR 2, fun he => ⟨hs, fun _ => md_meets hR 2, fun hle => ?_⟩⟩⟩⟩, fun z => absurd (by rw [hfo]) z⟩⟩⟩
                exfalso
                obtain ⟨i, hi, rfl⟩ := nI_of hb
                obtain ⟨n, hn, rfl⟩ := nI_of he
                have key : (nI i).toInt64 + (nI n).toInt64 = lN (i + n) := by rw [nI_l hi, nI_l hn, lN_add]
                rw [key, nI_l (by omega)] at hle
                have hbig : ¬ lN (i + n) > lN (S.1 11 s) := by
                  intro q
                  unfold lg_cmp at hle
                  rw [if_pos q] at hle
                  exact absurd (by decide) hle
                have : ¬ S.1 11 s < i + n := fun q => hbig ((pk_lLT (by omega) (by omega)).mpr q)
                exact hg ⟨i, n, rfl, rfl, by omega⟩
          · refine op_rw (S' := sFd S 4) (r := (-10 : Int32) - nI 4) (okS_Fd hS (by omega)) ?_ ?_
            · unfold fX9_copy
              simp only [sp_gd, sp_nm, sp_bind, sp_ite, sp_some, sp_inr]
              refine Sp.of (cs_1 hs) ⟨fun z => absurd z (by decide), fun _ => Sp.of (cs_1 ht) ⟨fun z => absurd z (by decide), fun _ => ?_⟩⟩
              rw [inB_nI (by omega), inB_nI (by omega), nI_clamp (n := s) (by omega), nI_clamp (n := t) (by omega), c1, d1, c2, d2]
              exact ⟨hs, ht, fun _ => ⟨fun _ => ⟨fun z => absurd ((nI_eq (by omega) (by omega)).mp z) hfo, fun _ => cl_found hC 4⟩, fun z => absurd ((n1e p1).mpr htt) z⟩, fun z => absurd ((n1e q1).mpr hts) z⟩
            · unfold fX10_copy
              simp only [sp_gd, sp_nm, sp_bind, sp_ite, sp_some, sp_inr]
              refine Sp.of (ms_1 hs) ⟨fun z => absurd z (by decide), fun _ => Sp.of (ms_1 ht) ⟨fun z => absurd z (by decide), fun _ => ?_⟩⟩
              rw [inB_nI (by omega), inB_nI (by omega), nI_clamp (n := s) (by omega), nI_clamp (n := t) (by omega), r1, u1, r2, u2]
              exact ⟨hs, fun z => absurd ((n0e q1).mp z) (by omega), fun _ => ⟨ht, fun z => absurd ((n0e p1).mp z) (by omega), fun _ => ⟨hs, ht, fun z => absurd ((nI_eq (by omega) (by omega)).mp z) hfo, fun _ => md_meets hR 4⟩⟩⟩
        · refine op_rw (S' := sFd S 1) (r := (-10 : Int32) - nI 1) (okS_Fd hS (by omega)) ?_ ?_
          · unfold fX9_copy
            simp only [sp_gd, sp_nm, sp_bind, sp_ite, sp_some, sp_inr]
            refine Sp.of (cs_1 hs) ⟨fun z => absurd z (by decide), fun _ => Sp.of (cs_1 ht) ⟨fun z => absurd z (by decide), fun _ => ?_⟩⟩
            rw [inB_nI (by omega), inB_nI (by omega), nI_clamp (n := s) (by omega), nI_clamp (n := t) (by omega), c1, d1]
            exact ⟨hs, ht, fun _ => ⟨fun z => absurd ((n1e p1).mp z) htt, fun _ => cl_found hC 1⟩, fun z => absurd ((n1e q1).mpr hts) z⟩
          · unfold fX10_copy
            simp only [sp_gd, sp_nm, sp_bind, sp_ite, sp_some, sp_inr]
            refine Sp.of (ms_1 hs) ⟨fun z => absurd z (by decide), fun _ => Sp.of (ms_1 ht) ⟨fun z => absurd z (by decide), fun _ => ?_⟩⟩
            rw [inB_nI (by omega), inB_nI (by omega), nI_clamp (n := s) (by omega), nI_clamp (n := t) (by omega), r1, u1]
            exact ⟨hs, fun z => absurd ((n0e q1).mp z) (by omega), fun _ => ⟨ht, fun _ => md_meets hR 1, fun z => absurd ((n0e p1).mpr (by omega)) z⟩⟩
      · refine op_rw (S' := sFd S 1) (r := (-10 : Int32) - nI 1) (okS_Fd hS (by omega)) ?_ ?_
        · unfold fX9_copy
          simp only [sp_gd, sp_nm, sp_bind, sp_ite, sp_some, sp_inr]
          refine Sp.of (cs_1 hs) ⟨fun z => absurd z (by decide), fun _ => Sp.of (cs_1 ht) ⟨fun z => absurd z (by decide), fun _ => ?_⟩⟩
          rw [inB_nI (by omega), inB_nI (by omega), nI_clamp (n := s) (by omega), nI_clamp (n := t) (by omega), c1]
          exact ⟨hs, ht, fun z => absurd ((n1e q1).mp z) hts, fun _ => cl_found hC 1⟩
        · unfold fX10_copy
          simp only [sp_gd, sp_nm, sp_bind, sp_ite, sp_some, sp_inr]
          refine Sp.of (ms_1 hs) ⟨fun z => absurd z (by decide), fun _ => Sp.of (ms_1 ht) ⟨fun z => absurd z (by decide), fun _ => ?_⟩⟩
          rw [inB_nI (by omega), inB_nI (by omega), nI_clamp (n := s) (by omega), nI_clamp (n := t) (by omega), r1]
          exact ⟨hs, fun _ => md_meets hR 1, fun z => absurd ((n0e q1).mpr (by omega)) z⟩
