/-! ===== the fairest row: the reference ===== -/
theorem desc_gD {D : List Nat} (h : D.Pairwise (fun a b => b < a)) {i j : Nat} (hij : i < j) (hj : j < D.length) : D.getD j 0 < D.getD i 0 := by
  rw [List.getD_eq_getElem?_getD, List.getD_eq_getElem?_getD, List.getElem?_eq_getElem hj, List.getElem?_eq_getElem (show i < D.length by omega)]
  exact List.pairwise_iff_getElem.mp h i j (by omega) hj hij
theorem gD_mem {D : List Nat} {i : Nat} (h : i < D.length) : D.getD i 0 ∈ D := by
  rw [List.getD_eq_getElem?_getD, List.getElem?_eq_getElem h]
  exact List.getElem_mem h
theorem gD_mid {A D : List Nat} {x : Nat} : (A ++ x :: D).getD A.length 0 = x := by
  rw [gD_r (Nat.le_refl _), Nat.sub_self]
  rfl
theorem gD_aft {A D : List Nat} {x k : Nat} (h : A.length < k) : (A ++ x :: D).getD k 0 = D.getD (k - A.length - 1) 0 := by
  obtain ⟨m, rfl⟩ : ∃ m, k = A.length + (m + 1) := ⟨k - A.length - 1, by omega⟩
  rw [gD_r (by omega), show A.length + (m + 1) - A.length = m + 1 by omega, Nat.add_sub_cancel]
  rfl
theorem gD_rev {D : List Nat} {i : Nat} (h : i < D.length) : D.reverse.getD i 0 = D.getD (D.length - 1 - i) 0 := by
  rw [List.getD_eq_getElem?_getD, List.getD_eq_getElem?_getD, List.getElem?_reverse h]
theorem md_nextL {M : Mem} {P Q : List Nat} (h8 : P.length ≤ 8) (e2 : M 0 2 0 = nI P.length) (e : ∀ i, i < P.length → M 0 12 i = nI (P.getD i 0)) (hr : ∀ x, x ∈ P → x < 100) (hn : Nx P Q) : Sp (fX10_nextRow M) (fun z => z.1 = 1 ∧ frM [12] M z.2 ∧ ∀ i, i < P.length → z.2 0 12 i = nI (Q.getD i 0)) := by
  obtain ⟨A, x, y, D1, D2, rfl, rfl, hd, hxy, h2⟩ := hn
  have hlen : (A ++ x :: (D1 ++ y :: D2)).length = A.length + 1 + D1.length + 1 + D2.length := by
    simp
    omega
  have hlD : (D1 ++ y :: D2).length = D1.length + 1 + D2.length := by
    simp
    omega
  have hlE : (D1 ++ x :: D2).length = D1.length + 1 + D2.length := by
    simp
    omega
  have ra : (A ++ x :: (D1 ++ y :: D2)).getD A.length 0 = x := gD_mid
  have rD : ∀ i, A.length < i → (A ++ x :: (D1 ++ y :: D2)).getD i 0 = (D1 ++ y :: D2).getD (i - A.length - 1) 0 := fun i hi => gD_aft hi
  have ry : (D1 ++ y :: D2).getD D1.length 0 = y := gD_mid
  refine (md_next (r := fun i => (A ++ x :: (D1 ++ y :: D2)).getD i 0) (h := (A ++ x :: (D1 ++ y :: D2)).length) (a := A.length) (j := A.length + 1 + D1.length) h8 e2 e (fun i hi => hr _ (gD_mem hi)) (by omega) (by omega) (fun i h1 h3 => ?_) ?_ ?_ (fun i h1 h3 => ?_)).mono (fun z ⟨z1, z2, z3⟩ => ⟨z1, z2, fun i hi => ?_⟩)
  · rw [rD i h1, rD (i + 1) (by omega)]
    exact desc_gD hd (by omega) (by omega)
  · rw [ra, rD _ (by omega), show A.length + 1 - A.length - 1 = 0 by omega]
    by_cases h0 : D1.length = 0
    · rw [h0] at ry
      rw [ry]; exact hxy
    · have := desc_gD hd (show 0 < D1.length by omega) (by omega)
      omega
  · rw [ra, rD _ (by omega), show A.length + 1 + D1.length - A.length - 1 = D1.length by omega, ry]
    exact hxy
  · rw [ra, rD _ (by omega), gD_aft (by omega)]
    exact h2 _ (gD_mem (by omega))
  · rw [z3 i hi]
    congr 1
    unfold nxF
    dsimp only
    by_cases i1 : i < A.length
    · rw [if_pos i1, gD_l i1, gD_l i1]
    · rw [if_neg i1]
      by_cases i2 : i = A.length
      · rw [if_pos i2, i2, gD_mid, rD _ (by omega), show A.length + 1 + D1.length - A.length - 1 = D1.length by omega, ry]
      · rw [if_neg i2, gD_aft (show A.length < i by omega), gD_rev (by omega)]
        rw [hlE]
        by_cases i3 : A.length + (A ++ x :: (D1 ++ y :: D2)).length - i = A.length + 1 + D1.length
        · rw [if_pos i3, ra, show D1.length + 1 + D2.length - 1 - (i - A.length - 1) = D1.length by omega, gD_mid]
        · rw [if_neg i3, rD _ (by omega)]
          rw [show A.length + (A ++ x :: (D1 ++ y :: D2)).length - i - A.length - 1 = D1.length + 1 + D2.length - 1 - (i - A.length - 1) by omega]
          by_cases i4 : D1.length + 1 + D2.length - 1 - (i - A.length - 1) < D1.length
          · rw [gD_l i4, gD_l i4]
          · rw [gD_aft (by omega), gD_aft (by omega)]
theorem md_least {R : Mem} {h : Nat} {r : Nat → Nat} (h8 : h ≤ 8) (h0 : 0 < h) (e3 : R 0 2 0 = nI h) (e : ∀ i, i < h → R 0 20 i = nI (r i)) (hr : ∀ i, i < h → r i ≤ 360) : fX10_leastNow R = some (nI (lsN r h)) := by
  apply Sp.eq
  unfold fX10_leastNow
  simp only [sp_gd, sp_nm, sp_bind, sp_ite, sp_some, sp_inr]
  have e0 : lsN r 1 = r 0 := by
    have := hr 0 h0
    unfold lsN lsN
    omega
  rw [cl0, e 0 h0, ← e0]
  refine lp_for (fun i st => st = (nI (lsN r i), nI i)) h (by omega) ?_ ?_ (show 1 ≤ h by omega) rfl
  · rintro i st hi rfl
    have hl := lsN_le (r := r) i
    have hri := hr i hi
    unfold fX10_leastNow_9 fX10_leastNow_37
    simp only [sp_gd, sp_nm, sp_bind, sp_ite, sp_some, sp_inr]
    rw [e3, nI_leI (by omega) (by omega), inB_nI (by omega), nI_clamp (by omega), e i hi, nI_1, nI_leI (by omega) (by omega)]
    refine ⟨fun hc => absurd hc (by omega), fun _ => ⟨by omega, fun hle => ?_, fun hle => ⟨by omega, ?_⟩⟩⟩
    · show _ = _
      rw [lsN, Nat.min_eq_left hle]
    · show _ = _
      rw [lsN, Nat.min_eq_right (by omega)]
  · rintro st rfl
    unfold fX10_leastNow_9
    simp only [sp_gd, sp_nm, sp_bind, sp_ite, sp_some, sp_inr]
    rw [e3, nI_leI (by omega) (by omega)]
    exact ⟨fun _ => rfl, fun hc => absurd (Nat.le_refl _) hc⟩
theorem MG_row {R R' : Mem} {γ : Cfg} {P Q : List Nat} (h : MG R (cfR γ P)) (e : ∀ f, f = 2 ∨ f = 3 ∨ f = 4 ∨ f = 5 ∨ f = 8 ∨ f = 11 ∨ f = 13 ∨ f = 14 → R' 0 f = R 0 f) (e12 : ∀ i, i < γ.1 5 0 → R' 0 12 i = nI (Q.getD i 0)) : MG R' (cfR γ Q) := by
  obtain ⟨h1, h2, h3, h4, h5, h6, h7⟩ := h
  refine ⟨?_, fun i hi => ?_, fun i hi => ?_, ?_, fun k hk => e12 k hk, ?_, ?_⟩
  · rw [e 2 (by decide)]; exact h1
  · rw [e 3 (by decide), e 4 (by decide), e 5 (by decide)]; exact h2 i hi
  · rw [e 8 (by decide)]; exact h3 i hi
  · rw [e 11 (by decide)]; exact h4
  · rw [e 13 (by decide)]; exact h6
  · rw [e 14 (by decide)]; exact h7
/-- the row that is kept -/
def KR (R : Mem) (h : Nat) (u : Nat × List Nat) : Prop := 0 < u.1 → ∀ i, i < h → R 0 31 i = nI (u.2.getD i 0)
/-- one row is looked at -/
theorem md_fair66 {M : Mem} {γ : Cfg} {P : List Nat} {u : Nat × List Nat} {v : Nat} (h8 : γ.1 5 0 ≤ 8) (e2 : M 0 2 0 = nI (γ.1 5 0)) (e12 : ∀ i, i < γ.1 5 0 → M 0 12 i = nI (P.getD i 0)) (hu : u.1 ≤ 1001) (hv : v ≤ 1000) (hk : KR M (γ.1 5 0) u) {T : (Int32 × Int32 × Mem) ⊕ (Int32 × Mem) → Prop} (hT : ∀ N, frM [31] M N → KR N (γ.1 5 0) (if u.1 < v + 1 then (v + 1, P) else u) → Sp (fX10_fairBy_110 (bI (if u.1 < v + 1 then (v + 1, P) else u).1) N) T) : Sp (lpO (fun st => fX10_fairBy_66 st.1 st.2.1 st.2.2.1 st.2.2.2) FU (bI u.1, nI v, 0, M)) T := by
  by_cases hc : v + 1 ≤ u.1
  · refine lp_for (fun i st => st = (bI u.1, nI v, 0, M)) 0 (by omega) (fun i s h => absurd h (Nat.not_lt_zero _)) ?_ (Nat.zero_le _) rfl
    rintro st rfl
    have key := hT M frM.rf (by rw [if_neg (by omega)]; exact hk)
    rw [if_neg (by omega)] at key
    unfold fX10_fairBy_66 fX10_fairBy_100
    simp only [sp_gd, sp_nm, sp_bind, sp_ite, sp_some, sp_inr]
    rw [bI_le (by omega) hu]
    exact ⟨fun _ => ⟨fun _ => key.mono (fun z hz => hz), fun z => absurd hc z⟩, fun _ => ⟨fun _ => ⟨fun _ => key.mono (fun z hz => hz), fun z => absurd hc z⟩, fun z => absurd hc z⟩⟩
  · refine lp_for (fun i st => st.1 = bI u.1 ∧ st.2.1 = nI v ∧ st.2.2.1 = nI i ∧ frM [31] M st.2.2.2 ∧ ∀ q, q < i → st.2.2.2 0 31 q = nI (P.getD q 0)) (γ.1 5 0) (by omega) ?_ ?_ (Nat.zero_le _) ⟨rfl, rfl, rfl, frM.rf, fun q hq => absurd hq (Nat.not_lt_zero _)⟩
    · rintro i ⟨x1, x3, x4, N⟩ hi ⟨a1, a2, a3, a4, a5⟩
      dsimp only at a1 a2 a3 a4 a5 ⊢
      subst a1 a2 a3
      unfold fX10_fairBy_66
      simp only [sp_gd, sp_nm, sp_bind, sp_ite, sp_some, sp_inr]
      rw [bI_le (by omega) hu, a4 2 (by decide), e2, nI_leI (by omega) (by omega), inB_nI (by omega), inB_nI (by omega), nI_clamp (by omega), nI_1, a4 12 (by decide), e12 i hi]
      refine ⟨fun z => absurd z (by omega), fun _ => ⟨fun z => absurd z hc, fun _ => ⟨by omega, by omega, rfl, rfl, rfl, a4.w _ _ _ (by decide), fun q hq => ?_⟩⟩⟩
      dsimp only
      rw [wr_ap]
      by_cases hqi : q = i
      · rw [if_pos ⟨rfl, rfl, hqi⟩, hqi]
      · rw [if_neg (fun z => hqi z.2.2)]; exact a5 q (by omega)
    · rintro ⟨x1, x3, x4, N⟩ ⟨a1, a2, a3, a4, a5⟩
      dsimp only at a1 a2 a3 a4 a5 ⊢
      subst a1 a2 a3
      have key := hT N a4 (by rw [if_pos (by omega)]; exact fun _ i hi => a5 i hi)
      rw [if_pos (by omega)] at key
      have eb : bI (v + 1) = nI v := by
        unfold bI
        rw [if_neg (by omega), Nat.add_sub_cancel]
      rw [eb] at key
      unfold fX10_fairBy_66 fX10_fairBy_100
      simp only [sp_gd, sp_nm, sp_bind, sp_ite, sp_some, sp_inr]
      rw [bI_le (by omega) hu, a4 2 (by decide), e2, nI_leI (by omega) (by omega)]
      exact ⟨fun _ => ⟨fun z => absurd z hc, fun _ => key.mono (fun z hz => hz)⟩, fun z => absurd (Nat.le_refl _) z⟩
theorem gD_range {h i : Nat} (hi : i < h) : (List.range h).getD i 0 = i := by
  rw [List.getD_eq_getElem?_getD, List.getElem?_range hi]
  rfl
theorem fcN_lt : ∀ h, h < 9 → fcN h < 100000 := by decide
theorem md_fair49 {R M : Mem} {γ : Cfg} (hγ : okC γ) (hh : 0 < γ.1 5 0) (hM : MG M (cfR γ (List.range (γ.1 5 0)))) (fr : frM SL R M) : Sp (fX10_fairBy_49 (-1) 1 M) (fun z => frM SL R z.2 ∧ z.2 0 2 0 = nI (γ.1 5 0) ∧ z.1 = nI ((fairR γ).1 - 1) ∧ ∀ i, i < γ.1 5 0 → z.2 0 31 i = nI ((fairR γ).2.getD i 0)) := by
  have h8 := hγ.1
  have hasc : (List.range (γ.1 5 0)).Pairwise (fun a b => a < b) := List.pairwise_lt_range
  have hN := len_pm (γ.1 5 0) (List.range (γ.1 5 0)) [] List.length_range
  have hN2 := fcN_lt (γ.1 5 0) (by omega)
  have hpos : 0 < (fairR γ).1 := fairF_pos _ _ _ _ (by rw [List.length_range])
  unfold fX10_fairBy_49
  simp only [sp_gd, sp_nm, sp_bind, sp_ite, sp_some, sp_inr]
  refine lp_for (fun i st => ∃ (L : List (List Nat)) (u : Nat × List Nat), L.length + i = fcN (γ.1 5 0) ∧ st.1 = bI u.1 ∧ u.1 ≤ 1001 ∧ KR st.2.2 (γ.1 5 0) u ∧ frM SL R st.2.2 ∧ st.2.2 0 2 0 = nI (γ.1 5 0) ∧ L.foldl (fstp γ) u = fairR γ ∧ (L = [] → st.2.1 = 0) ∧ (∀ P r, L = P :: r → st.2.1 = 1 ∧ MG st.2.2 (cfR γ P) ∧ Sq L P ([] ++ (List.range (γ.1 5 0)).reverse)) ∧ ∀ Q, Q ∈ L → Q.length = γ.1 5 0 ∧ ∀ x, x ∈ Q → x < γ.1 5 0) (fcN (γ.1 5 0)) (by omega) ?_ ?_ (Nat.zero_le _) ⟨pm (γ.1 5 0) (List.range (γ.1 5 0)) [], (0, []), by rw [hN]; rfl, rfl, Nat.zero_le _, fun z => absurd z (Nat.lt_irrefl 0), fr, hM.1, ?_, fun z => ?_, fun P r e => ?_, fun Q hQ => ?_⟩
  · rintro i ⟨x1, x2, Mc⟩ hi ⟨L, u, a1, a2, a3, a4, a5, a6, a7, a8, a9, a10⟩
    dsimp only at a2 a4 a5 a6 a8 a9 ⊢
    match L, a1, a7, a9, a10 with
    | [], a1, _, _, _ => exact absurd a1 (by rw [List.length_nil]; omega)
    | P :: r, a1, a7, a9, a10 =>
      obtain ⟨b1, b2, b3⟩ := a9 P r rfl
      subst a2 b1
      obtain ⟨p1, p2⟩ := a10 P List.mem_cons_self
      have ok2 := okC_cf hγ p2
      have e6 : (cfR γ P).1 6 0 = γ.1 5 0 := cf_6
      unfold fX10_fairBy_50
      simp only [sp_gd, sp_nm, sp_bind, sp_ite, sp_some, sp_inr]
      refine ⟨fun z => absurd z (by decide), fun _ => ?_⟩
      refine (md_runs ok2 b2).mono (fun M2 ⟨⟨t1, t2, _⟩, t3⟩ => ?_)
      rw [e6] at t2
      refine Sp.of (md_least (r := (stW (cfR γ P) (γ.1 5 0)).1 0) h8 hh t1.1 (fun q hq => (t2.1 q hq).1) (st360 ok2 (by omega))) ?_
      refine md_fair66 (γ := γ) (P := P) (u := u) (v := valP γ P) h8 t1.1 (fun q hq => t1.2.2.2.2.1 q hq) a3 (lsN_le _) (fun z q hq => by rw [t3 31 (by decide)]; exact a4 z q hq) (fun N n1 n2 => ?_)
      have frN : frM SL R N := (a5.tr (t3.sub RuL_SL)).tr (n1.sub (by decide))
      have mgN : MG N (cfR γ P) := t1.fr (fun f hf => n1 f (by rcases hf with rfl | rfl | rfl | rfl | rfl | rfl | rfl | rfl | rfl <;> decide))
      have hst : (if u.1 < valP γ P + 1 then (valP γ P + 1, P) else u) = fstp γ u P := rfl
      rw [hst] at n2 ⊢
      have hub : (fstp γ u P).1 ≤ 1001 := fairF_ub 0 [] P u a3
      rw [List.foldl_cons] at a7
      unfold fX10_fairBy_110
      simp only [sp_gd, sp_nm, sp_bind, sp_ite, sp_some, sp_inr]
      match r, a1, a7, a10, b3 with
      | [], a1, a7, a10, b3 =>
        have hd : P.Pairwise (fun a b => b < a) := by
          rw [b3.2, List.nil_append, List.pairwise_reverse]
          exact hasc
        refine (md_nextLast (r := fun q => P.getD q 0) h8 hh mgN.1 (fun q hq => mgN.2.2.2.2.1 q hq) (fun q hq => by have := p2 _ (gD_mem (D := P) (i := q) (by omega)); omega) (fun q hq => desc_gD hd (by omega) (by omega))).mono (fun z ⟨z1, z2⟩ => ?_)
        rw [z2]
        exact ⟨[], fstp γ u P, by rw [List.length_nil]; rw [List.length_cons, List.length_nil] at a1; omega, rfl, hub, n2, frN, mgN.1, a7, fun _ => z1, fun _ _ e => absurd e (by simp), fun Q hQ => absurd hQ List.not_mem_nil⟩
      | Q :: r', a1, a7, a10, b3 =>
        refine (md_nextL (P := P) (Q := Q) (by omega) (by rw [p1]; exact mgN.1) (fun q hq => mgN.2.2.2.2.1 q (show q < γ.1 5 0 by omega)) (fun x hx => by have := p2 x hx; omega) b3.2.1).mono (fun z ⟨z1, z2, z3⟩ => ?_)
        refine ⟨Q :: r', fstp γ u P, by rw [List.length_cons] at a1; omega, rfl, hub, fun hz q hq => ?_, frN.tr (z2.sub (by decide)), ?_, a7, fun e => absurd e (by simp), fun P' r2 e => ?_, fun Q' hQ => a10 Q' (List.mem_cons_of_mem _ hQ)⟩
        · dsimp only
          rw [z2 31 (by decide)]; exact n2 hz q hq
        · dsimp only
          rw [z2 2 (by decide)]; exact mgN.1
        · obtain ⟨rfl, rfl⟩ : Q = P' ∧ r' = r2 := by
            injection e with e1 e2
            exact ⟨e1, e2⟩
          refine ⟨z1, MG_row mgN (fun f hf => z2 f (by rcases hf with rfl | rfl | rfl | rfl | rfl | rfl | rfl | rfl <;> decide)) (fun q hq => z3 q (by omega)), b3.2.2⟩
  · rintro ⟨x1, x2, Mc⟩ ⟨L, u, a1, a2, a3, a4, a5, a6, a7, a8, a9, a10⟩
    dsimp only at a2 a4 a5 a6 a8 a9 ⊢
    have hL : L = [] := List.eq_nil_of_length_eq_zero (by omega)
    subst hL
    have hx2 := a8 rfl
    have hu : u = fairR γ := a7
    subst hx2 hu
    unfold fX10_fairBy_50
    simp only [sp_gd, sp_nm, sp_bind, sp_ite, sp_some, sp_inr]
    refine ⟨fun _ => ⟨a5, a6, ?_, a4 hpos⟩, fun z => absurd (by trivial) z⟩
    rw [a2]
    unfold bI
    rw [if_neg (by omega)]
  · rw [← fair_pm]
    rfl
  · exact absurd (congrArg List.length z) (by rw [hN, List.length_nil]; have : ∀ h, h < 9 → fcN h ≠ 0 := by decide
                                              exact this _ (by omega))
  · have hs := pm_Sq (γ.1 5 0) (List.range (γ.1 5 0)) [] List.length_range hasc
    obtain ⟨r2, e2⟩ := Sq_hd hs
    have eP : P = List.range (γ.1 5 0) := by
      rw [e2] at e
      injection e with e1 _
      rw [← e1, List.nil_append]
    refine ⟨rfl, by rw [eP]; exact hM, ?_⟩
    rw [eP]
    exact hs
  · obtain ⟨c1, c2⟩ := mem_pm (γ.1 5 0) (List.range (γ.1 5 0)) [] List.length_range Q hQ
    refine ⟨by rw [c1, List.length_nil, Nat.zero_add], fun x hx => ?_⟩
    rcases c2 x hx with z | z
    · exact absurd z List.not_mem_nil
    · exact List.mem_range.mp z
theorem md_fairBy {R : Mem} {S : St} (hS : okS S) (hR : RR R S) : Sp (fX10_fairBy R) (fun z => frM SL R z.2 ∧ z.2 0 2 0 = nI ((told S).1 5 0) ∧ ((told S).1 5 0 = 0 → z.1 = -1) ∧ (0 < (told S).1 5 0 → z.1 = nI ((fairR (told S)).1 - 1) ∧ ∀ i, i < (told S).1 5 0 → z.2 0 31 i = nI ((fairR (told S)).2.getD i 0))) := by
  have hγ := okC_told hS
  have h8 := hγ.1
  unfold fX10_fairBy
  simp only [sp_gd, sp_nm, sp_bind, sp_ite, sp_some, sp_inr]
  refine (md_asTold hS hR).mono (fun R1 ⟨⟨g1, g2, g3, g4, g5, g6, g7⟩, m2, f1⟩ => ?_)
  rw [g1]
  refine lp_for (fun i st => st.1 = -1 ∧ st.2.1 = nI i ∧ frM [11, 12] R1 st.2.2 ∧ st.2.2 0 11 0 = nI ((told S).1 5 0) ∧ ∀ q, q < i → st.2.2 0 12 q = nI q) ((told S).1 5 0) (by omega) ?_ ?_ (Nat.zero_le _) ⟨rfl, rfl, frM.rf.w _ _ _ (by decide), by dsimp only; rw [wr_ap, if_pos ⟨rfl, rfl, rfl⟩], fun q hq => absurd hq (Nat.not_lt_zero _)⟩
  · rintro i ⟨x1, x2, Mc⟩ hi ⟨a1, a2, a3, a4, a5⟩
    dsimp only at a1 a2 a3 a4 a5 ⊢
    subst a1 a2
    unfold fX10_fairBy_16
    simp only [sp_gd, sp_nm, sp_bind, sp_ite, sp_some, sp_inr]
    rw [a3 2 (by decide), g1, nI_leI (by omega) (by omega), inB_nI (by omega), nI_clamp (by omega), nI_1]
    refine ⟨fun hc => absurd hc (by omega), fun _ => ⟨by omega, rfl, rfl, a3.w _ _ _ (by decide), ?_, fun q hq => ?_⟩⟩
    · dsimp only
      rw [wr_row _ _ _ _ _ (by decide)]; exact a4
    · dsimp only
      rw [wr_ap]
      by_cases hqi : q = i
      · rw [if_pos ⟨rfl, rfl, hqi⟩, hqi]
      · rw [if_neg (fun z => hqi z.2.2)]; exact a5 q (by omega)
  · rintro ⟨x1, x2, Mc⟩ ⟨a1, a2, a3, a4, a5⟩
    dsimp only at a1 a2 a3 a4 a5 ⊢
    subst a1 a2
    have e2 : Mc 0 2 0 = nI ((told S).1 5 0) := by rw [a3 2 (by decide)]; exact g1
    have fr : frM SL R Mc := f1.tr (a3.sub (by decide))
    unfold fX10_fairBy_16 fX10_fairBy_37
    simp only [sp_gd, sp_nm, sp_bind, sp_ite, sp_some, sp_inr]
    rw [e2, nI_leI (by omega) (by omega)]
    refine ⟨fun _ => ⟨fun h0 => ?_, fun h0 => ?_⟩, fun hc => absurd (Nat.le_refl _) hc⟩
    · have hz : (told S).1 5 0 = 0 := by
        apply Decidable.byContradiction
        intro h
        exact nI_nle (by omega) (by omega) h0
      unfold fX10_fairBy_49
      simp only [sp_gd, sp_nm, sp_bind, sp_ite, sp_some, sp_inr]
      refine lp_for (fun i st => st = ((-1 : Int32), (0 : Int32), Mc)) 0 (by omega) (fun i s h => absurd h (Nat.not_lt_zero _)) ?_ (Nat.zero_le _) rfl
      rintro st rfl
      unfold fX10_fairBy_50
      simp only [sp_gd, sp_nm, sp_bind, sp_ite, sp_some, sp_inr]
      exact ⟨fun _ => ⟨fr, e2, fun _ => rfl, fun h => absurd h (by omega)⟩, fun z => absurd (by trivial) z⟩
    · have hpos : 0 < (told S).1 5 0 := by
        apply Nat.pos_of_ne_zero
        intro h
        exact h0 (by rw [h]; decide)
      refine (md_fair49 hγ hpos ⟨e2, fun i hi => ?_, fun i hi => ?_, a4, fun k hk => ?_, ?_, ?_⟩ fr).mono (fun z ⟨z1, z2, z3, z4⟩ => ⟨z1, z2, fun h => absurd h (by omega), fun _ => ⟨z3, z4⟩⟩)
      · rw [a3 3 (by decide), a3 4 (by decide), a3 5 (by decide)]; exact g2 i hi
      · rw [a3 8 (by decide)]; exact g3 i hi
      · rw [cf_6] at hk
        rw [cf_4, gD_range hk]; exact a5 k hk
      · rw [a3 13 (by decide)]; exact g6
      · rw [a3 14 (by decide)]; exact g7
theorem md_fairOf {R : Mem} {S : St} (hS : okS S) (hR : RR R S) {a : Nat} (ha : a ≤ 8) : Sp (fX10_fairOf R (nI a)) (fun z => z.1 = frA (told S) a ∧ frM SL R z.2) := by
  have h8 := (okC_told hS).1
  unfold fX10_fairOf
  simp only [sp_gd, sp_nm, sp_bind, sp_ite, sp_some, sp_inr]
  refine (md_fairBy hS hR).mono (fun z ⟨z1, z2, z3, z4⟩ => ?_)
  rw [il0, nI_eq (by omega) (by omega)]
  unfold frA
  refine ⟨fun h0 => ⟨?_, z1⟩, fun h0 => ?_⟩
  · by_cases hz : (told S).1 5 0 = 0
    · rw [if_pos hz]; exact z3 hz
    · rw [if_neg hz, if_pos (by omega), if_pos h0]; exact (z4 (by omega)).1
  · rw [z2, il1, pk_sub (by omega), nI_leI (by omega) (by omega), inB_nI (by omega), nI_clamp (by omega)]
    refine ⟨fun hle => ⟨?_, z1⟩, fun hle => ⟨by omega, ?_, z1⟩⟩
    · by_cases hz : (told S).1 5 0 = 0
      · rw [if_pos hz]
      · rw [if_neg hz, if_neg (by omega)]
    · rw [if_neg (by omega), if_pos (by omega), if_neg h0]; exact (z4 (by omega)).2 _ (by omega)
theorem op_fair {C R : Mem} (h : Rel C R) (a : Int32) : ∃ (r : Int32) (C' R' : Mem), fX9_fair C a = some (r, C') ∧ fX10_fair R a = some (r, R') ∧ Rel C' R' := by
  obtain ⟨S, hS, hC, hR⟩ := h
  rcases ixI a (n := 9) (by omega) with ha | ⟨x, hx, rfl⟩
  · refine op_rw (S' := S) (r := -2) hS ?_ ?_
    · unfold fX9_fair
      simp only [sp_gd, sp_nm, sp_bind, sp_ite, sp_some, sp_inr]
      exact Sp.of (w_0 (n := 8) ha (by omega)) ⟨fun _ => ⟨(by trivial), hC⟩, fun z => absurd rfl z⟩
    · unfold fX10_fair
      simp only [sp_gd, sp_nm, sp_bind, sp_ite, sp_some, sp_inr]
      exact Sp.of (in_0 (n := 8) ha (by omega)) ⟨fun _ => ⟨(by trivial), hR⟩, fun q => absurd rfl q⟩
  · refine op_rw (S' := S) hS (cl_fair hS hC (by omega)) ?_
    unfold fX10_fair
    simp only [sp_gd, sp_nm, sp_bind, sp_ite, sp_some, sp_inr]
    refine Sp.of (in_1 (j := x) (n := 8) (by omega) (by omega)) ⟨fun q => absurd q (by decide), fun _ => ?_⟩
    exact (md_fairOf hS hR (by omega)).mono (fun y ⟨y1, y2⟩ => ⟨y1, hR.fr y2⟩)
