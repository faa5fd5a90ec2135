/-! ===== the reference reads the texts ===== -/
theorem md_byteAt {R : Mem} {t : Nat → Nat} {a k : Nat} (ha : a ≤ 31) (e0 : R 0 0 0 = nI a) (e1 : ∀ i, i < a → R 0 1 i = nI (t i)) (hk : k < 62) : fX10_byteAt R (nI k) = some (if k < a then nI (t k) else -1) := by
  unfold fX10_byteAt
  rw [cl0, e0]
  by_cases h : k < a
  · rw [if_neg (fun q => by have := (nI_leI (by omega) (by omega)).mp q; omega), gd_p ((inB_nI (by omega)).mpr hk), nI_clamp (by omega), e1 k h, if_pos h]
  · rw [if_pos ((nI_leI (by omega) (by omega)).mpr (by omega)), if_neg h]
def srtB (c : Nat) : Bool := c == 107 || c == 109 || c == 115
theorem md_readsHeir {R : Mem} {t : Nat → Nat} {a n : Nat} (ha : a ≤ 31) (e0 : R 0 0 0 = nI a) (e1 : ∀ i, i < a → R 0 1 i = nI (t i)) (ht : ∀ i, i < a → t i ≤ 255) (hn : n ≤ 7) : Sp (fX10_readsHeir R (nI n) (nI (4 * n))) (fun z => (z = (0, R) ∧ ¬ (4 * n < a ∧ fitH t (4 * n) = true)) ∨ (z = (1, R) ∧ (4 * n < a ∧ fitH t (4 * n) = true) ∧ ¬ (4 * n + 1 < a ∧ fitH t (4 * n + 1) = true)) ∨ (z = (2, R) ∧ (4 * n + 1 < a ∧ fitH t (4 * n) = true ∧ fitH t (4 * n + 1) = true) ∧ ¬ (4 * n + 2 < a ∧ fitH t (4 * n + 2) = true)) ∨ (∃ R', z = (3, R') ∧ (4 * n + 2 < a ∧ fitH t (4 * n) = true ∧ fitH t (4 * n + 1) = true ∧ fitH t (4 * n + 2) = true) ∧ R' = wr (wr (wr R 0 3 n (nI (sortN (t (4 * n))))) 0 4 n (nI (t (4 * n + 1) - 48))) 0 5 n (nI (t (4 * n + 2) - 48)))) := by
  have f0 : fitH t (4 * n) = srtB (t (4 * n)) := by unfold fitH srtB; rw [if_pos (by omega)]
  have f1 : fitH t (4 * n + 1) = decide (48 ≤ t (4 * n + 1) ∧ t (4 * n + 1) ≤ 57) := by unfold fitH; rw [if_neg (by omega), if_neg (by omega)]
  have f2 : fitH t (4 * n + 2) = decide (48 ≤ t (4 * n + 2) ∧ t (4 * n + 2) ≤ 57) := by unfold fitH; rw [if_neg (by omega), if_neg (by omega)]
  have b1 := md_byteAt (k := 4 * n + 1) ha e0 e1 (by omega)
  have b2 := md_byteAt (k := 4 * n + 2) ha e0 e1 (by omega)
  -- what stands behind the sort
  have k37 : ∀ v : Int32, (v = -1 ∧ ¬ (4 * n < a ∧ fitH t (4 * n) = true)) ∨ (v = nI (sortN (t (4 * n))) ∧ 4 * n < a ∧ fitH t (4 * n) = true) → Sp (fX10_readsHeir_37 (nI n) (nI (4 * n)) v R) (fun z => (z = (0, R) ∧ ¬ (4 * n < a ∧ fitH t (4 * n) = true)) ∨ (z = (1, R) ∧ (4 * n < a ∧ fitH t (4 * n) = true) ∧ ¬ (4 * n + 1 < a ∧ fitH t (4 * n + 1) = true)) ∨ (z = (2, R) ∧ (4 * n + 1 < a ∧ fitH t (4 * n) = true ∧ fitH t (4 * n + 1) = true) ∧ ¬ (4 * n + 2 < a ∧ fitH t (4 * n + 2) = true)) ∨ (∃ R', z = (3, R') ∧ (4 * n + 2 < a ∧ fitH t (4 * n) = true ∧ fitH t (4 * n + 1) = true ∧ fitH t (4 * n + 2) = true) ∧ R' = wr (wr (wr R 0 3 n (nI (sortN (t (4 * n))))) 0 4 n (nI (t (4 * n + 1) - 48))) 0 5 n (nI (t (4 * n + 2) - 48)))) := by
    intro v hv
    unfold fX10_readsHeir_37
    simp only [sp_gd, sp_nm, sp_bind, sp_ite, sp_some, sp_inr]
    rw [show nI (4 * n) + (1 : Int32) = nI (4 * n + 1) from nI_1 _, show nI (4 * n) + (2 : Int32) = nI (4 * n + 2) by rw [il2, nI_add]]
    refine Sp.of b1 (Sp.of b2 ?_)
    refine ⟨fun h8 => absurd ((nI_ev 8 il8 (by omega) (by omega)).mp h8) (by omega), fun _ => ⟨fun hm => ?_, fun hm => ?_⟩⟩
    · rcases hv with ⟨-, hv⟩ | ⟨hv, -⟩
      · exact Or.inl ⟨trivial, hv⟩
      · rw [hv] at hm
        exact absurd hm (nI_ne_m1 (by unfold sortN; split; omega; split <;> omega))
    · rcases hv with ⟨hv, -⟩ | ⟨hv, hv2⟩
      · exact absurd hv hm
      · refine Sp.of md_in ?_
        have d1 : (¬ (if 4 * n + 1 < a then nI (t (4 * n + 1)) else -1) < (48 : Int32) ∧ ¬ (57 : Int32) < (if 4 * n + 1 < a then nI (t (4 * n + 1)) else -1)) ↔ (4 * n + 1 < a ∧ fitH t (4 * n + 1) = true) := by
          by_cases hlt : 4 * n + 1 < a
          · have := ht _ hlt
            rw [if_pos hlt, lt48, lt57, nI_ltI (by omega) (by omega), nI_ltI (by omega) (by omega), f1]
            simp
            omega
          · rw [if_neg hlt]
            exact ⟨fun z => absurd (show (-1 : Int32) < 48 by decide) z.1, fun z => absurd z.1 hlt⟩
        have d2 : (¬ (if 4 * n + 2 < a then nI (t (4 * n + 2)) else -1) < (48 : Int32) ∧ ¬ (57 : Int32) < (if 4 * n + 2 < a then nI (t (4 * n + 2)) else -1)) ↔ (4 * n + 2 < a ∧ fitH t (4 * n + 2) = true) := by
          by_cases hlt : 4 * n + 2 < a
          · have := ht _ hlt
            rw [if_pos hlt, lt48, lt57, nI_ltI (by omega) (by omega), nI_ltI (by omega) (by omega), f2]
            simp
            omega
          · rw [if_neg hlt]
            exact ⟨fun z => absurd (show (-1 : Int32) < 48 by decide) z.1, fun z => absurd z.1 hlt⟩
        by_cases c1 : 4 * n + 1 < a ∧ fitH t (4 * n + 1) = true
        · rw [if_pos (d1.mpr c1)]
          refine ⟨fun z => absurd z (by decide), fun _ => ?_⟩
          refine Sp.of md_in ?_
          by_cases c2 : 4 * n + 2 < a ∧ fitH t (4 * n + 2) = true
          · rw [if_pos (d2.mpr c2)]
            refine ⟨fun z => absurd z (by decide), fun _ => ?_⟩
            have q1 := c1.2
            rw [f1] at q1
            have q1 := of_decide_eq_true q1
            have q2 := c2.2
            rw [f2] at q2
            have q2 := of_decide_eq_true q2
            rw [inB_nI (by omega), nI_clamp (by omega), if_pos c1.1, if_pos c2.1, lt48, pk_sub (by omega), pk_sub (by omega), hv]
            exact ⟨by omega, by omega, by omega, Or.inr (Or.inr (Or.inr ⟨_, rfl, ⟨c2.1, hv2.2, c1.2, c2.2⟩, rfl⟩))⟩
          · rw [if_neg (fun z => c2 (d2.mp z))]
            refine ⟨fun _ => ?_, fun z => absurd rfl z⟩
            exact Or.inr (Or.inr (Or.inl ⟨trivial, ⟨c1.1, hv2.2, c1.2⟩, c2⟩))
        · rw [if_neg (fun z => c1 (d1.mp z))]
          refine ⟨fun _ => ?_, fun z => absurd rfl z⟩
          exact Or.inr (Or.inl ⟨trivial, hv2, c1⟩)
  unfold fX10_readsHeir
  simp only [sp_gd, sp_nm, sp_bind, sp_ite, sp_some, sp_inr]
  refine Sp.of (md_byteAt (k := 4 * n) ha e0 e1 (by omega)) ?_
  by_cases hlt : 4 * n < a
  · have htn := ht _ hlt
    rw [if_pos hlt, lt107, lt109, lt115, nI_eq (by omega) (by omega), nI_eq (by omega) (by omega), nI_eq (by omega) (by omega)]
    refine ⟨fun h => k37 _ (Or.inr ⟨?_, hlt, ?_⟩), fun h => ⟨fun h2 => k37 _ (Or.inr ⟨?_, hlt, ?_⟩), fun h2 => ⟨fun h3 => k37 _ (Or.inr ⟨?_, hlt, ?_⟩), fun h3 => k37 _ (Or.inl ⟨rfl, fun z => ?_⟩)⟩⟩⟩
    · rw [h]; rfl
    · rw [f0, h]; rfl
    · rw [h2]; rfl
    · rw [f0, h2]; rfl
    · rw [h3]; rfl
    · rw [f0, h3]; rfl
    · have := z.2
      rw [f0] at this
      unfold srtB at this
      simp at this
      omega
  · rw [if_neg hlt]
    refine ⟨fun h => absurd h (by decide), fun h => ⟨fun h2 => absurd h2 (by decide), fun h2 => ⟨fun h3 => absurd h3 (by decide), fun h3 => k37 _ (Or.inl ⟨rfl, fun z => absurd z.1 hlt⟩)⟩⟩⟩
theorem md_readsHeirs {R : Mem} {t : Nat → Nat} {a : Nat} (ha : a ≤ 31) (e0 : R 0 0 0 = nI a) (e1 : ∀ i, i < a → R 0 1 i = nI (t i)) (ht : ∀ i, i < a → t i ≤ 255) : Sp (fX10_readsHeirs R) (fun z => z.1 = fltH t a ∧ frM [2, 3, 4, 5] R z.2 ∧ z.2 0 2 0 = nI (hcN t a) ∧ ∀ i, i < hcN t a → z.2 0 3 i = nI (sortN (t (4 * i))) ∧ z.2 0 4 i = nI (t (4 * i + 1) - 48) ∧ z.2 0 5 i = nI (t (4 * i + 2) - 48)) := by
  unfold fX10_readsHeirs
  simp only [sp_gd, sp_nm, sp_bind, sp_ite, sp_some, sp_inr]
  refine lp_for (fun n st => st.1 = nI n ∧ st.2.1 = nI (4 * n) ∧ frM [2, 3, 4, 5] R st.2.2 ∧ st.2.2 0 2 0 = nI 0 ∧ 4 * n ≤ a ∧ (∀ p, p < 4 * n → fitH t p = true) ∧ ∀ i, i < n → st.2.2 0 3 i = nI (sortN (t (4 * i))) ∧ st.2.2 0 4 i = nI (t (4 * i + 1) - 48) ∧ st.2.2 0 5 i = nI (t (4 * i + 2) - 48)) 8 (by omega) ?_ ?_ (Nat.zero_le _) ⟨rfl, rfl, frM.rf.w _ _ _ (by decide), by simp [wr_ap]; rfl, by omega, fun p hp => absurd hp (by omega), fun i hi => absurd hi (Nat.not_lt_zero _)⟩
  · rintro n ⟨x1, x2, Mc⟩ hn ⟨h1, h2, h3, h4, h5, h6, h7⟩
    dsimp only at h1 h2 h3 h4 h5 h6 h7 ⊢
    subst h1 h2
    have m0 : Mc 0 0 0 = nI a := by rw [h3 0 (by decide)]; exact e0
    have m1 : ∀ i, i < a → Mc 0 1 i = nI (t i) := fun i hi => by rw [h3 1 (by decide)]; exact e1 i hi
    -- the ends that keep what was read
    have stop : ∀ (z : Int32), z = fltH t a → hcN t a = 0 → lpP (fun st : Int32 × Int32 × Mem => st.1 = nI (n + 1) ∧ st.2.1 = nI (4 * (n + 1)) ∧ frM [2, 3, 4, 5] R st.2.2 ∧ st.2.2 0 2 0 = nI 0 ∧ 4 * (n + 1) ≤ a ∧ (∀ p, p < 4 * (n + 1) → fitH t p = true) ∧ ∀ i, i < n + 1 → st.2.2 0 3 i = nI (sortN (t (4 * i))) ∧ st.2.2 0 4 i = nI (t (4 * i + 1) - 48) ∧ st.2.2 0 5 i = nI (t (4 * i + 2) - 48)) (fun z : Int32 × Mem => z.1 = fltH t a ∧ frM [2, 3, 4, 5] R z.2 ∧ z.2 0 2 0 = nI (hcN t a) ∧ ∀ i, i < hcN t a → z.2 0 3 i = nI (sortN (t (4 * i))) ∧ z.2 0 4 i = nI (t (4 * i + 1) - 48) ∧ z.2 0 5 i = nI (t (4 * i + 2) - 48)) (.inr (z, Mc)) := by
      intro z hz hh
      refine ⟨hz, h3, ?_, fun i hi => absurd hi (by omega)⟩
      rw [hh]; exact h4
    have k23 : ¬ (n = 0 ∧ a = 0) → Sp (fX10_readsHeirs_23 (nI n) (nI (4 * n)) Mc) (lpP (fun st : Int32 × Int32 × Mem => st.1 = nI (n + 1) ∧ st.2.1 = nI (4 * (n + 1)) ∧ frM [2, 3, 4, 5] R st.2.2 ∧ st.2.2 0 2 0 = nI 0 ∧ 4 * (n + 1) ≤ a ∧ (∀ p, p < 4 * (n + 1) → fitH t p = true) ∧ ∀ i, i < n + 1 → st.2.2 0 3 i = nI (sortN (t (4 * i))) ∧ st.2.2 0 4 i = nI (t (4 * i + 1) - 48) ∧ st.2.2 0 5 i = nI (t (4 * i + 2) - 48)) (fun z : Int32 × Mem => z.1 = fltH t a ∧ frM [2, 3, 4, 5] R z.2 ∧ z.2 0 2 0 = nI (hcN t a) ∧ ∀ i, i < hcN t a → z.2 0 3 i = nI (sortN (t (4 * i))) ∧ z.2 0 4 i = nI (t (4 * i + 1) - 48) ∧ z.2 0 5 i = nI (t (4 * i + 2) - 48))) := by
      intro hna
      -- a place p at which reading ends: bad there, or the text's end
      have endAt : ∀ p, (∀ q, q < p → fitH t q = true) → p ≤ a → ¬ (p < a ∧ fitH t p = true) → p ≠ 0 ∨ a ≠ 0 → p % 4 ≠ 3 → nI p = fltH t a ∧ hcN t a = 0 := by
        intro p hq hpa hnf h0 h3'
        by_cases hlt : p < a
        · have hf : fitH t p = false := by
            cases hv : fitH t p with
            | true => exact absurd ⟨hlt, hv⟩ hnf
            | false => rfl
          have hb := bad_at hq hf a hlt
          unfold fltH hcN
          rw [hb, if_neg (by omega), if_neg (by omega)]
          exact ⟨rfl, rfl⟩
        · have : p = a := by omega
          subst this
          have hb := bad_all p hq
          unfold fltH hcN
          rw [if_pos hb, if_neg (by omega), if_neg (by omega)]
          exact ⟨rfl, rfl⟩
      unfold fX10_readsHeirs_23
      simp only [sp_gd, sp_nm, sp_bind, sp_ite, sp_some, sp_inr]
      refine (md_readsHeir (n := n) ha m0 m1 ht (by omega)).mono (fun z hz => ?_)
      rcases hz with ⟨rfl, hz⟩ | ⟨rfl, hz, hz2⟩ | ⟨rfl, hz, hz2⟩ | ⟨R', rfl, hz, hR'⟩
      · dsimp only
        refine ⟨fun h => absurd h (by decide), fun _ => ?_⟩
        obtain ⟨q1, q2⟩ := endAt (4 * n) h6 h5 hz (by omega) (by omega)
        rw [show nI (4 * n) + (0 : Int32) = nI (4 * n) by rw [il0, nI_add]; rfl]
        exact stop _ q1 q2
      · dsimp only
        refine ⟨fun h => absurd h (by decide), fun _ => ?_⟩
        obtain ⟨q1, q2⟩ := endAt (4 * n + 1) (fun q hq => by
          by_cases hqn : q = 4 * n
          · rw [hqn]; exact hz.2
          · exact h6 q (by omega)) (by omega) hz2 (by omega) (by omega)
        rw [nI_1]
        exact stop _ q1 q2
      · dsimp only
        refine ⟨fun h => absurd h (by decide), fun _ => ?_⟩
        obtain ⟨q1, q2⟩ := endAt (4 * n + 2) (fun q hq => by
          by_cases hqn : q = 4 * n
          · rw [hqn]; exact hz.2.1
          · by_cases hqn2 : q = 4 * n + 1
            · rw [hqn2]; exact hz.2.2
            · exact h6 q (by omega)) (by omega) hz2 (by omega) (by omega)
        rw [il2, nI_add]
        exact stop _ q1 q2
      · dsimp only
        refine ⟨fun _ => ?_, fun h => absurd (by decide) h⟩
        have hgood : ∀ q, q < 4 * n + 3 → fitH t q = true := by
          intro q hq
          by_cases hqn : q = 4 * n
          · rw [hqn]; exact hz.2.1
          · by_cases hqn2 : q = 4 * n + 1
            · rw [hqn2]; exact hz.2.2.1
            · by_cases hqn3 : q = 4 * n + 2
              · rw [hqn3]; exact hz.2.2.2
              · exact h6 q (by omega)
        have frR : frM [2, 3, 4, 5] R R' := by rw [hR']; exact ((h3.w _ _ _ (by decide)).w _ _ _ (by decide)).w _ _ _ (by decide)
        have r0 : R' 0 0 0 = nI a := by rw [frR 0 (by decide)]; exact e0
        have r1 : ∀ i, i < a → R' 0 1 i = nI (t i) := fun i hi => by rw [frR 1 (by decide)]; exact e1 i hi
        have r2 : R' 0 2 0 = nI 0 := by rw [hR', wr_row _ _ _ _ _ (by decide), wr_row _ _ _ _ _ (by decide), wr_row _ _ _ _ _ (by decide)]; exact h4
        have r345 : ∀ i, i < n + 1 → R' 0 3 i = nI (sortN (t (4 * i))) ∧ R' 0 4 i = nI (t (4 * i + 1) - 48) ∧ R' 0 5 i = nI (t (4 * i + 2) - 48) := by
          intro i hi
          rw [hR']
          simp only [wr_ap]
          by_cases hin : i = n
          · simp [hin]
          · simp [hin]
            exact h7 i (by omega)
        rw [show nI (4 * n) + (3 : Int32) = nI (4 * n + 3) by rw [il3, nI_add], nI_1, cl0]
        rw [r0, nI_eq (by omega) (by omega)]
        refine ⟨fun hend => ?_, fun hend => ?_⟩
        · have hb : bad (fitH t) a = a := bad_all a (fun q hq => hgood q (by omega))
          have hc : hcN t a = n + 1 := by unfold hcN; rw [if_pos ⟨hb, by omega⟩]; omega
          refine ⟨?_, frR.w _ _ _ (by decide), ?_, fun i hi => ?_⟩
          · show (-1 : Int32) = fltH t a
            exact ((fltH_m1 ha).mpr ⟨hb, by omega⟩).symm
          · rw [hc]; simp [wr_ap]
          · rw [hc] at hi
            dsimp only
            rw [wr_row _ _ _ _ _ (by decide), wr_row _ _ _ _ _ (by decide), wr_row _ _ _ _ _ (by decide)]
            exact r345 i hi
        · refine Sp.of (md_byteAt (k := 4 * n + 3) ha r0 r1 (by omega)) ?_
          have hlt : 4 * n + 3 < a := by omega
          have htn := ht _ hlt
          rw [if_pos hlt, lt59, nI_eq (by omega) (by omega), nI_1]
          have f3 : fitH t (4 * n + 3) = (t (4 * n + 3) == 59) := by unfold fitH; rw [if_neg (by omega), if_pos (by omega)]
          refine ⟨fun h59 => ⟨rfl, rfl, frR, r2, by omega, fun p hp => ?_, r345⟩, fun h59 => ?_⟩
          · by_cases hp3 : p = 4 * n + 3
            · rw [hp3, f3, h59]; rfl
            · exact hgood p (by omega)
          · have hf : fitH t (4 * n + 3) = false := by rw [f3]; simp; exact h59
            have hb := bad_at hgood hf a hlt
            have hc : hcN t a = 0 := by unfold hcN; rw [if_neg (by omega)]
            refine ⟨?_, frR, by rw [hc]; exact r2, fun i hi => absurd hi (by omega)⟩
            show nI (4 * n + 3) = fltH t a
            unfold fltH
            rw [hb, if_neg (by omega)]
    unfold fX10_readsHeirs_9
    simp only [sp_gd, sp_nm, sp_bind, sp_ite, sp_some, sp_inr]
    rw [cl0, m0, nI_ltI (by omega) (by omega), il0, nI_leI (by omega) (by omega)]
    refine ⟨fun h => k23 (by omega), fun h => ⟨fun h0 => ?_, fun h0 => k23 (by omega)⟩⟩
    have a0 : a = 0 := by omega
    subst a0
    have := stop (-1) rfl rfl
    exact this
  · rintro ⟨x1, x2, Mc⟩ ⟨h1, h2, h3, h4, h5, h6, h7⟩
    omega
theorem md_readsRound {R : Mem} {t : Nat → Nat} {a : Nat} (ha : a ≤ 20) (e0 : R 0 0 1 = nI a) (e1 : ∀ i, i < a → R 0 1 (31 + i) = nI (t i)) (ht : ∀ i, i < a → t i ≤ 255) : Sp (fX10_readsRound R) (fun z => z.1 = fltR t a ∧ frM [6, 7] R z.2 ∧ z.2 0 6 0 = nI (scN t a) ∧ ∀ i, i < scN t a → z.2 0 7 i = nI (t i - 97)) := by
  unfold fX10_readsRound
  simp only [sp_gd, sp_nm, sp_bind, sp_ite, sp_some, sp_inr]
  refine lp_for (fun i st => st.1 = nI i ∧ st.2 = wr R 0 6 0 0 ∧ ∀ p, p < i → fitR t p = true) a (by omega) ?_ ?_ (Nat.zero_le _) ⟨rfl, rfl, fun p hp => absurd hp (Nat.not_lt_zero _)⟩
  · rintro i ⟨x, Mc⟩ hi ⟨h1, h2, hI⟩
    dsimp only at h1 h2 hI ⊢
    subst h1
    have fr : frM [6, 7] R Mc := by rw [h2]; exact frM.rf.w _ _ _ (by decide)
    have hti := ht i hi
    unfold fX10_readsRound_7
    simp only [sp_gd, sp_nm, sp_bind, sp_ite, sp_some, sp_inr]
    rw [cl1, show Mc 0 0 1 = nI a by rw [fr 0 (by decide)]; exact e0, nI_leI (by omega) (by omega), il31, nI_add, inB_nI (by omega), nI_clamp (by omega), show Mc 0 1 (31 + i) = nI (t i) by rw [fr 1 (by decide)]; exact e1 i hi, nI_1]
    refine ⟨fun hc => absurd hc (by omega), fun _ => ⟨by omega, ?_⟩⟩
    refine Sp.of md_in ?_
    rw [lt97, lt104]
    have dd : (¬ nI (t i) < nI 97 ∧ ¬ nI 104 < nI (t i)) ↔ fitR t i = true := by
      rw [nI_ltI (by omega) (by omega), nI_ltI (by omega) (by omega)]
      unfold fitR
      simp
    cases hf : fitR t i with
    | true =>
      rw [if_pos (dd.mpr hf)]
      refine ⟨fun z => absurd z (by decide), fun _ => ⟨rfl, h2, fun p hp => ?_⟩⟩
      by_cases hpi : p = i
      · rw [hpi]; exact hf
      · exact hI p (by omega)
    | false =>
      rw [if_neg (fun z => by rw [dd.mp z] at hf; cases hf)]
      refine ⟨fun _ => ?_, fun z => absurd rfl z⟩
      have hb := bad_at hI hf a hi
      have hc : scN t a = 0 := by unfold scN; rw [if_neg (by omega)]
      refine ⟨?_, fr, ?_, fun q hq => absurd hq (by omega)⟩
      · show nI i = fltR t a
        unfold fltR
        rw [hb, if_neg (by omega)]
      · rw [hc]
        dsimp only
        rw [h2]
        simp [wr_ap]; rfl
  · rintro ⟨x, Mc⟩ ⟨h1, h2, hI⟩
    dsimp only at h1 h2 hI ⊢
    subst h1
    have fr : frM [6, 7] R Mc := by rw [h2]; exact frM.rf.w _ _ _ (by decide)
    have hb := bad_all a hI
    have hc : scN t a = a := by unfold scN; rw [if_pos hb]
    have hz : (-1 : Int32) = fltR t a := ((fltR_m1 ha).mpr hb).symm
    unfold fX10_readsRound_7 fX10_readsRound_44
    simp only [sp_gd, sp_nm, sp_bind, sp_ite, sp_some, sp_inr]
    rw [cl1, show Mc 0 0 1 = nI a by rw [fr 0 (by decide)]; exact e0, nI_leI (by omega) (by omega)]
    refine ⟨fun _ => ?_, fun hc => absurd (Nat.le_refl _) hc⟩
    refine lp_for (fun i st => st.1 = nI i ∧ frM [6, 7] R st.2 ∧ ∀ q, q < i → st.2 0 7 q = nI (t q - 97)) a (by omega) ?_ ?_ (Nat.zero_le _) ⟨rfl, fr, fun p hp => absurd hp (Nat.not_lt_zero _)⟩
    · rintro i ⟨x, Md⟩ hi ⟨h1, h2, h3⟩
      dsimp only at h1 h2 h3 ⊢
      subst h1
      have hfi := hI i hi
      unfold fitR at hfi
      have hfi := of_decide_eq_true hfi
      unfold fX10_readsRound_46
      simp only [sp_gd, sp_nm, sp_bind, sp_ite, sp_some, sp_inr]
      rw [cl1, show Md 0 0 1 = nI a by rw [h2 0 (by decide)]; exact e0, nI_leI (by omega) (by omega), il31, nI_add, inB_nI (by omega), inB_nI (by omega), nI_clamp (by omega), nI_clamp (by omega), show Md 0 1 (31 + i) = nI (t i) by rw [h2 1 (by decide)]; exact e1 i hi, nI_1, lt97, pk_sub (by omega)]
      refine ⟨fun hc => absurd hc (by omega), fun _ => ⟨by omega, by omega, rfl, h2.w _ _ _ (by decide), fun q hq => ?_⟩⟩
      simp only [wr_ap]
      by_cases hqi : q = i
      · simp [hqi]
      · simp [hqi]
        exact h3 q (by omega)
    · rintro ⟨x, Md⟩ ⟨h1, h2, h3⟩
      dsimp only at h1 h2 h3 ⊢
      subst h1
      unfold fX10_readsRound_46 fX10_readsRound_80
      simp only [sp_gd, sp_nm, sp_bind, sp_ite, sp_some, sp_inr]
      rw [cl1, show Md 0 0 1 = nI a by rw [h2 0 (by decide)]; exact e0, nI_leI (by omega) (by omega)]
      refine ⟨fun _ => ⟨hz, h2.w _ _ _ (by decide), ?_, fun q hq => ?_⟩, fun hc => absurd (Nat.le_refl _) hc⟩
      · rw [hc]; simp [wr_ap]
      · rw [hc] at hq
        dsimp only
        rw [wr_row _ _ _ _ _ (by decide)]
        exact h3 q hq
