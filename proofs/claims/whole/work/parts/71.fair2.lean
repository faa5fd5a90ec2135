/-! ===== the fairest row: the reference ===== -/
theorem desc_gD {D : List Nat} (h : D.Pairwise (fun a b => b < a)) {i j : Nat} (hij : i < j) (hj : j < D.length) : D.getD j 0 < D.getD i 0 := by
  rw [List.getD_eq_getElem?_getD, List.getD_eq_getElem?_getD, List.getElem?_eq_getElem hj, List.getElem?_eq_getElem (show i < D.length by omega)]
  exact List.pairwise_iff_getElem.mp h i j (by omega) hj hij
theorem gD_mem {D : List Nat} {i : Nat} (h : i < D.length) : D.getD i 0 ∈ D := by
  rw [List.getD_eq_getElem?_getD, List.getElem?_eq_getElem h]
  exact List.getElem_mem h
theorem gD_mid {A D : List Nat} {x : Nat} : (A ++ x :: D).getD A.length 0 = x := by
  rw [gD_r (Nat.le_refl _), Nat.sub_self]
  rfl
theorem gD_aft {A D : List Nat} {x k : Nat} (h : A.length < k) : (A ++ x :: D).getD k 0 = D.getD (k - A.length - 1) 0 := by
  obtain ⟨m, rfl⟩ : ∃ m, k = A.length + (m + 1) := ⟨k - A.length - 1, by omega⟩
  rw [gD_r (by omega), show A.length + (m + 1) - A.length = m + 1 by omega, Nat.add_sub_cancel]
  rfl
theorem gD_rev {D : List Nat} {i : Nat} (h : i < D.length) : D.reverse.getD i 0 = D.getD (D.length - 1 - i) 0 := by
  rw [List.getD_eq_getElem?_getD, List.getD_eq_getElem?_getD, List.getElem?_reverse h]
theorem md_nextL {M : Mem} {P Q : List Nat} (h8 : P.length ≤ 8) (e2 : M 0 2 0 = nI P.length) (e : ∀ i, i < P.length → M 0 12 i = nI (P.getD i 0)) (hr : ∀ x, x ∈ P → x < 100) (hn : Nx P Q) : Sp (fX10_nextRow M) (fun z => z.1 = 1 ∧ frM [12] M z.2 ∧ ∀ i, i < P.length → z.2 0 12 i = nI (Q.getD i 0)) := by
  obtain ⟨A, x, y, D1, D2, rfl, rfl, hd, hxy, h2⟩ := hn
  have hlen : (A ++ x :: (D1 ++ y :: D2)).length = A.length + 1 + D1.length + 1 + D2.length := by
    simp
    omega
  have hlD : (D1 ++ y :: D2).length = D1.length + 1 + D2.length := by
    simp
    omega
  have hlE : (D1 ++ x :: D2).length = D1.length + 1 + D2.length := by
    simp
    omega
  have ra : (A ++ x :: (D1 ++ y :: D2)).getD A.length 0 = x := gD_mid
  have rD : ∀ i, A.length < i → (A ++ x :: (D1 ++ y :: D2)).getD i 0 = (D1 ++ y :: D2).getD (i - A.length - 1) 0 := fun i hi => gD_aft hi
  have ry : (D1 ++ y :: D2).getD D1.length 0 = y := gD_mid
  refine (md_next (r := fun i => (A ++ x :: (D1 ++ y :: D2)).getD i 0) (h := (A ++ x :: (D1 ++ y :: D2)).length) (a := A.length) (j := A.length + 1 + D1.length) h8 e2 e (fun i hi => hr _ (gD_mem hi)) (by omega) (by omega) (fun i h1 h3 => ?_) ?_ ?_ (fun i h1 h3 => ?_)).mono (fun z ⟨z1, z2, z3⟩ => ⟨z1, z2, fun i hi => ?_⟩)
  · dsimp only
    rw [rD i h1, rD (i + 1) (by omega)]
    exact desc_gD hd (by omega) (by omega)
  · dsimp only
    rw [ra, rD _ (by omega), show A.length + 1 - A.length - 1 = 0 by omega]
    by_cases h0 : D1.length = 0
    · rw [h0] at ry
      rw [ry]; exact hxy
    · have := desc_gD hd (show 0 < D1.length by omega) (by omega)
      omega
  · dsimp only
    rw [ra, rD _ (by omega), show A.length + 1 + D1.length - A.length - 1 = D1.length by omega, ry]
    exact hxy
  · dsimp only
    rw [ra, rD _ (by omega), gD_aft (by omega)]
    exact h2 _ (gD_mem (by omega))
  · rw [z3 i hi]
    congr 1
    unfold nxF
    dsimp only
    by_cases i1 : i < A.length
    · rw [if_pos i1, gD_l i1, gD_l i1]
    · rw [if_neg i1]
      by_cases i2 : i = A.length
      · rw [if_pos i2, i2, gD_mid, rD _ (by omega), show A.length + 1 + D1.length - A.length - 1 = D1.length by omega, ry]
      · rw [if_neg i2, gD_aft (show A.length < i by omega), gD_rev (by omega)]
        rw [hlE]
        by_cases i3 : A.length + (A ++ x :: (D1 ++ y :: D2)).length - i = A.length + 1 + D1.length
        · rw [if_pos i3, ra, show D1.length + 1 + D2.length - 1 - (i - A.length - 1) = D1.length by omega, gD_mid]
        · rw [if_neg i3, rD _ (by omega)]
          rw [show A.length + (A ++ x :: (D1 ++ y :: D2)).length - i - A.length - 1 = D1.length + 1 + D2.length - 1 - (i - A.length - 1) by omega]
          by_cases i4 : D1.length + 1 + D2.length - 1 - (i - A.length - 1) < D1.length
          · rw [gD_l i4, gD_l i4]
          · rw [gD_aft (by omega), gD_aft (by omega)]
theorem md_least {R : Mem} {h : Nat} {r : Nat → Nat} (h8 : h ≤ 8) (h0 : 0 < h) (e3 : R 0 2 0 = nI h) (e : ∀ i, i < h → R 0 20 i = nI (r i)) (hr : ∀ i, i < h → r i ≤ 360) : fX10_leastNow R = some (nI (lsN r h)) := by
  apply Sp.eq
  unfold fX10_leastNow
  simp only [sp_gd, sp_nm, sp_bind, sp_ite, sp_some, sp_inr]
  have e0 : lsN r 1 = r 0 := by
    have := hr 0 h0
    unfold lsN lsN
    omega
  rw [cl0, e 0 h0, ← e0]
  refine lp_for (fun i st => st = (nI (lsN r i), nI i)) h (by omega) ?_ ?_ (show 1 ≤ h by omega) rfl
  · rintro i st hi rfl
    have hl := lsN_le (r := r) i
    have hri := hr i hi
    unfold fX10_leastNow_9 fX10_leastNow_37
    simp only [sp_gd, sp_nm, sp_bind, sp_ite, sp_some, sp_inr]
    rw [e3, nI_leI (by omega) (by omega), inB_nI (by omega), nI_clamp (by omega), e i hi, nI_1, nI_leI (by omega) (by omega)]
    refine ⟨fun hc => absurd hc (by omega), fun _ => ⟨by omega, fun hle => ?_, fun hle => ⟨by omega, ?_⟩⟩⟩
    · show _ = _
      rw [lsN, Nat.min_eq_left hle]
    · show _ = _
      rw [lsN, Nat.min_eq_right (by omega)]
  · rintro st rfl
    unfold fX10_leastNow_9
    simp only [sp_gd, sp_nm, sp_bind, sp_ite, sp_some, sp_inr]
    rw [e3, nI_leI (by omega) (by omega)]
    exact ⟨fun _ => rfl, fun hc => absurd (Nat.le_refl _) hc⟩
theorem MG_row {R R' : Mem} {γ : Cfg} {P Q : List Nat} (h : MG R (cfR γ P)) (e : ∀ f, f = 2 ∨ f = 3 ∨ f = 4 ∨ f = 5 ∨ f = 8 ∨ f = 11 ∨ f = 13 ∨ f = 14 → R' 0 f = R 0 f) (e12 : ∀ i, i < γ.1 5 0 → R' 0 12 i = nI (Q.getD i 0)) : MG R' (cfR γ Q) := by
  obtain ⟨h1, h2, h3, h4, h5, h6, h7⟩ := h
  refine ⟨?_, fun i hi => ?_, fun i hi => ?_, ?_, fun k hk => e12 k hk, ?_, ?_⟩
  · rw [e 2 (by decide)]; exact h1
  · rw [e 3 (by decide), e 4 (by decide), e 5 (by decide)]; exact h2 i hi
  · rw [e 8 (by decide)]; exact h3 i hi
  · rw [e 11 (by decide)]; exact h4
  · rw [e 13 (by decide)]; exact h6
  · rw [e 14 (by decide)]; exact h7
/-- the row that is kept -/
def KR (R : Mem) (h : Nat) (u : Nat × List Nat) : Prop := 0 < u.1 → ∀ i, i < h → R 0 31 i = nI (u.2.getD i 0)
/-- one row is looked at -/
theorem md_fair66 {R M : Mem} {γ : Cfg} {P : List Nat} {u : Nat × List Nat} {v : Nat} (h8 : γ.1 5 0 ≤ 8) (e2 : M 0 2 0 = nI (γ.1 5 0)) (e12 : ∀ i, i < γ.1 5 0 → M 0 12 i = nI (P.getD i 0)) (hu : u.1 ≤ 1001) (hv : v ≤ 1000) (hk : KR M (γ.1 5 0) u) {T : (Int32 × Int32 × Mem) ⊕ (Int32 × Mem) → Prop} (hT : ∀ N, frM [31] M N → KR N (γ.1 5 0) (if u.1 < v + 1 then (v + 1, P) else u) → Sp (fX10_fairBy_110 (bI (if u.1 < v + 1 then (v + 1, P) else u).1) N) T) : Sp (lpO (fun st => fX10_fairBy_66 st.1 st.2.1 st.2.2.1 st.2.2.2) FU (bI u.1, nI v, 0, M)) T := by
  by_cases hc : v + 1 ≤ u.1
  · refine lp_for (fun i st => st = (bI u.1, nI v, 0, M)) 0 (by omega) (fun i s h => absurd h (Nat.not_lt_zero _)) ?_ (Nat.zero_le _) rfl
    rintro st rfl
    have key := hT M frM.rf (by rw [if_neg (by omega)]; exact hk)
    rw [if_neg (by omega)] at key
    unfold fX10_fairBy_66 fX10_fairBy_100
    simp only [sp_gd, sp_nm, sp_bind, sp_ite, sp_some, sp_inr]
    rw [bI_le (by omega) hu]
    exact ⟨fun _ => ⟨fun _ => key.mono (fun z hz => hz), fun z => absurd hc z⟩, fun _ => ⟨fun _ => ⟨fun _ => key.mono (fun z hz => hz), fun z => absurd hc z⟩, fun z => absurd hc z⟩⟩
  · refine lp_for (fun i st => st.1 = bI u.1 ∧ st.2.1 = nI v ∧ st.2.2.1 = nI i ∧ frM [31] M st.2.2.2 ∧ ∀ q, q < i → st.2.2.2 0 31 q = nI (P.getD q 0)) (γ.1 5 0) (by omega) ?_ ?_ (Nat.zero_le _) ⟨rfl, rfl, rfl, frM.rf, fun q hq => absurd hq (Nat.not_lt_zero _)⟩
    · rintro i ⟨x1, x3, x4, N⟩ hi ⟨a1, a2, a3, a4, a5⟩
      dsimp only at a1 a2 a3 a4 a5 ⊢
      subst a1 a2 a3
      unfold fX10_fairBy_66
      simp only [sp_gd, sp_nm, sp_bind, sp_ite, sp_some, sp_inr]
      rw [bI_le (by omega) hu, a4 2 (by decide), e2, nI_leI (by omega) (by omega), inB_nI (by omega), inB_nI (by omega), nI_clamp (by omega), nI_1, a4 12 (by decide), e12 i hi]
      refine ⟨fun z => absurd z (by omega), fun _ => ⟨fun z => absurd z hc, fun _ => ⟨by omega, by omega, rfl, rfl, rfl, a4.w _ _ _ (by decide), fun q hq => ?_⟩⟩⟩
      dsimp only
      rw [wr_ap]
      by_cases hqi : q = i
      · rw [if_pos ⟨rfl, rfl, hqi⟩, hqi]
      · rw [if_neg (fun z => hqi z.2.2)]; exact a5 q (by omega)
    · rintro ⟨x1, x3, x4, N⟩ ⟨a1, a2, a3, a4, a5⟩
      dsimp only at a1 a2 a3 a4 a5 ⊢
      subst a1 a2 a3
      have key := hT N a4 (by rw [if_pos (by omega)]; exact fun _ i hi => a5 i hi)
      rw [if_pos (by omega)] at key
      have eb : bI (v + 1) = nI v := by
        unfold bI
        rw [if_neg (by omega), Nat.add_sub_cancel]
      rw [eb] at key
      unfold fX10_fairBy_66 fX10_fairBy_100
      simp only [sp_gd, sp_nm, sp_bind, sp_ite, sp_some, sp_inr]
      rw [bI_le (by omega) hu, a4 2 (by decide), e2, nI_leI (by omega) (by omega)]
      exact ⟨fun _ => ⟨fun z => absurd z hc, fun _ => key.mono (fun z hz => hz)⟩, fun z => absurd (Nat.le_refl _) z⟩
