theorem cl_up51 {o g k j : Nat} {M : Mem} {γ : Cfg} {w : Wk} (hw : RW (M o) γ w) (hv : RV (M o) w) (h5 : w.1 5 0 ≤ 9) : Sp (fX7_visit_51 o g (nI k) (nI j) M) (fun M' => RW (M' o) γ (hUp w) ∧ RV (M' o) (hUp w) ∧ frO o M M') := by
  obtain ⟨w1, w2, w3, w4, w5, w6⟩ := hw
  obtain ⟨v1, v2, v3, v4⟩ := hv
  unfold fX7_visit_51
  simp only [sp_gd, sp_nm, sp_bind, sp_ite, sp_some, sp_inr]
  rw [w4, il1, nI_add, il9, imin_nI (by omega) (by omega)]
  refine ⟨⟨fun i hi => ?_, ?_, ?_, ?_, ?_, ?_⟩, ⟨?_, ?_, ?_, ?_⟩, fun x hx => wr_ob _ _ _ _ _ hx⟩
  · simp [wr_ap, hUp, w1 i hi]
  · simp [wr_ap, w2]
  · simp [wr_ap, hUp, w3]
  · simp [wr_ap, hUp]
  · simp [wr_ap, hUp, w5]
  · simp [wr_ap, hUp, w6]
  · simp [wr_ap, hUp, v1]
  · simp [wr_ap, hUp, v2]
  · simp [wr_ap, hUp, v3]
  · simp [wr_ap, hUp, v4]
theorem cl_visit {o g k j : Nat} {M : Mem} {γ : Cfg} {w : Wk} (hγ : okC γ) (hg : RG (M g) γ) (hne : g ≠ o) (hw : RW (M o) γ w) (b : Bd γ k w) (hk : k ≤ 20) (hj : j < 8) : Sp (fX7_visit o g M (nI k) (nI j)) (fun M' => RW (M' o) γ (vW γ k j w) ∧ RV (M' o) (vW γ k j w) ∧ frO o M M') := by
  have h8 := hγ.1
  have hg' := hg
  obtain ⟨g1, g2, g3, g4, g5, g6, g7⟩ := hg'
  obtain ⟨w1, w2, w3, w4, w5, w6⟩ := hw
  have b5 := b.1
  unfold fX7_visit
  simp only [sp_gd, sp_nm, sp_bind, sp_ite, sp_some, sp_inr]
  obtain ⟨M5, hM5⟩ : ∃ M5, M5 = wr (wr (wr (wr M o 8 0 0) o 9 0 0) o 10 0 0) o 11 0 0 := ⟨_, rfl⟩
  rw [← hM5]
  have pf : frO o M M5 := fun x hx => by rw [hM5, wr_ob _ _ _ _ _ hx, wr_ob _ _ _ _ _ hx, wr_ob _ _ _ _ _ hx, wr_ob _ _ _ _ _ hx]
  have pr : ∀ f, f < 8 → M5 o f = M o f := fun f hf => by
    rw [hM5, wr_row _ _ _ _ _ (fun z => by omega), wr_row _ _ _ _ _ (fun z => by omega), wr_row _ _ _ _ _ (fun z => by omega), wr_row _ _ _ _ _ (fun z => by omega)]
  have p8 : M5 o 8 0 = nI 0 := by rw [hM5]; simp [wr_ap]; rfl
  have p9 : M5 o 9 0 = nI 0 := by rw [hM5]; simp [wr_ap]; rfl
  have p10 : M5 o 10 0 = nI 0 := by rw [hM5]; simp [wr_ap]; rfl
  have p11 : M5 o 11 0 = nI 0 := by rw [hM5]; simp [wr_ap]; rfl
  have pg : M5 g = M g := pf g hne
  have q3 : M5 o 3 0 = nI (γ.1 5 0) := by rw [pr 3 (by omega)]; exact w2
  have q4 : M5 o 4 0 = w.2 := by rw [pr 4 (by omega)]; exact w3
  have hw5 : RW (M5 o) γ w := ⟨fun i hi => by rw [pr 0 (by omega), pr 1 (by omega), pr 2 (by omega)]; exact w1 i hi, q3, q4, by rw [pr 5 (by omega)]; exact w4, by rw [pr 6 (by omega)]; exact w5, by rw [pr 7 (by omega)]; exact w6⟩
  have hpass : Sp (fX7_visit_51 o g (nI k) (nI j) M5) (fun M' => RW (M' o) γ (hUp (mPass w)) ∧ RV (M' o) (hUp (mPass w)) ∧ frO o M M') := by
    refine (cl_up51 (w := mPass w) ?_ ⟨p8, p9, p10, p11⟩ b5).mono (fun M' ⟨f1, f2, f3⟩ => ⟨f1, f2, pf.tr f3⟩)
    exact hw5
  rw [q3, nI_leI (by omega) (by omega), show M5 g 8 0 = γ.2.2 by rw [pg]; exact g7]
  refine ⟨fun hc => ?_, fun hc => ⟨fun hs => ?_, fun hs => ?_⟩⟩
  · have : vW γ k j w = hUp (mPass w) := by unfold vW; rw [if_neg (fun z => by omega)]
    rw [this]; exact hpass
  · have : vW γ k j w = hUp (mPass w) := by unfold vW; rw [if_neg (fun z => z.2.1 hs)]
    rw [this]; exact hpass
  · refine Sp.of cl_isOut ?_
    rw [q4]
    by_cases ho : isO w.2 j
    · rw [if_pos ho]
      refine ⟨fun z => absurd z (by decide), fun _ => ?_⟩
      have : vW γ k j w = hUp (mPass w) := by unfold vW; rw [if_neg (fun z => z.2.2 ho)]
      rw [this]; exact hpass
    · rw [if_neg ho]
      refine ⟨fun _ => ?_, fun z => absurd rfl z⟩
      have hjh : j < γ.1 5 0 := by omega
      have : vW γ k j w = hUp (mW γ k j w) := by unfold vW; rw [if_pos ⟨hjh, hs, ho⟩]
      rw [this]
      refine (cl_meet hγ (hg.eq pg) hne hw5 b hk hjh p9 p11).mono (fun M' ⟨f1, f2, f3⟩ => ?_)
      refine (cl_up51 f1 f2 (Bd_mW hγ hjh b).1).mono (fun M2 ⟨t1, t2, t3⟩ => ⟨t1, t2, pf.tr (f3.tr t3)⟩)
/-- nothing but the objects of the list has changed -/
def frS (l : List Nat) (M M' : Mem) : Prop := ∀ o, o ∉ l → M' o = M o
theorem frS.tr {l : List Nat} {M M1 M2 : Mem} (h : frS l M M1) (h2 : frS l M1 M2) : frS l M M2 := fun o ho => (h2 o ho).trans (h o ho)
theorem frS.rf {l : List Nat} {M : Mem} : frS l M M := fun _ _ => rfl
theorem frS.sub {l l' : List Nat} {M M' : Mem} (h : frS l M M') (hs : ∀ x, x ∈ l → x ∈ l') : frS l' M M' := fun o ho => h o (fun z => ho (hs o z))
theorem frO.S {o : Nat} {l : List Nat} {M M' : Mem} (h : frO o M M') (ho : o ∈ l) : frS l M M' := fun x hx => h x (fun z => hx (z ▸ ho))
/-- Trial.run: the walk by what its Given holds -/
theorem cl_run {M : Mem} {γ : Cfg} (hγ : okC γ) (hg : RG (M 7) γ) : Sp (fX6_run M) (fun M' => RW (M' 8) γ (stW γ (γ.1 6 0)) ∧ (∀ k, k < γ.1 6 0 → M' 6 2 k = nI ((stW γ (k + 1)).1 8 0)) ∧ frS [6, 8] M M') := by
  have hg' := hg
  obtain ⟨g1, g2, g3, g4, g5, g6, g7⟩ := hg'
  have hn := hγ.2.1
  unfold fX6_run
  simp only [sp_gd, sp_nm, sp_bind, sp_ite, sp_some, sp_inr]
  refine (cl_begin hγ hg (by decide)).mono (fun M1 ⟨f1, f2⟩ => ?_)
  refine lp_for (fun i st => st.1 = nI i ∧ RW (st.2 8) γ (stW γ i) ∧ (∀ k, k < i → st.2 6 2 k = nI ((stW γ (k + 1)).1 8 0)) ∧ frS [6, 8] M st.2) (γ.1 6 0) (by omega) ?_ ?_ (Nat.zero_le _) ⟨rfl, f1, fun k hk => absurd hk (Nat.not_lt_zero _), f2.S (by decide)⟩
  · rintro i ⟨x, Mc⟩ hi ⟨h1, h2, h3, h4⟩
    dsimp only at h1 h2 h3 h4 ⊢
    subst h1
    have e7 : Mc 7 = M 7 := h4 7 (by decide)
    unfold fX6_run_13
    simp only [sp_gd, sp_nm, sp_bind, sp_ite, sp_some, sp_inr]
    rw [e7, g5, nI_leI (by omega) (by omega), inB_nI (by omega), nI_clamp (by omega), g3 i hi, nI_1]
    refine ⟨fun hc => absurd hc (by omega), fun _ => ⟨by omega, ?_⟩⟩
    refine (cl_visit hγ (hg.eq e7) (by decide) h2 (Bd_st hγ i) (by omega) (hγ.2.2.2.2.2.2.2 i hi)).mono (fun M2 ⟨t1, t2, t3⟩ => ⟨by omega, rfl, ?_, fun k hk => ?_, ?_⟩)
    · dsimp only
      rw [wr_ob _ _ _ _ _ (by decide)]
      exact t1
    · dsimp only
      rw [wr_ap]
      by_cases hki : k = i
      · rw [if_pos ⟨rfl, rfl, hki⟩, t2.1, hki]
        rfl
      · rw [if_neg (fun z => hki z.2.2), t3 6 (by decide)]
        exact h3 k (by omega)
    · intro o ho
      simp at ho
      dsimp only
      rw [wr_ob _ _ _ _ _ ho.1, t3 o ho.2]
      exact h4 o (by simp; exact ho)
  · rintro ⟨x, Mc⟩ ⟨h1, h2, h3, h4⟩
    dsimp only at h1 h2 h3 h4 ⊢
    subst h1
    have e7 : Mc 7 = M 7 := h4 7 (by decide)
    unfold fX6_run_13
    simp only [sp_gd, sp_nm, sp_bind, sp_ite, sp_some, sp_inr]
    rw [e7, g5, nI_leI (by omega) (by omega)]
    exact ⟨fun _ => ⟨h2, h3, h4⟩, fun hc => absurd (Nat.le_refl _) hc⟩
/-- Trial.prepare: its Given is the told one -/
theorem cl_prepare {o : Nat} {M : Mem} {γ : Cfg} (hγ : okC γ) (hg : RG (M o) γ) (ho : o ≠ 7) : Sp (fX6_prepare o M) (fun M' => RG (M' 7) γ ∧ frO 7 M M') := by
  obtain ⟨g1, g2, g3, g4, g5, g6, g7⟩ := hg
  have h8 := hγ.1
  have hn := hγ.2.1
  unfold fX6_prepare fX2_copyFrom
  simp only [sp_gd, sp_nm, sp_bind, sp_ite, sp_some, sp_inr]
  refine ⟨⟨fun i hi => ?_, fun i hi => ?_, fun k hk => ?_, ?_, ?_, ?_, ?_⟩, fun x hx => ?_⟩
  · obtain ⟨a1, a2, a3⟩ := g1 i hi
    have : i < 8 := by omega
    simp [wr_ap, cp_ap, ho, cl0, cl8, clN4, cl20, this, a1, a2, a3]
  · have := g2 i hi
    simp [wr_ap, cp_ap, ho, cl0, cl8, clN4, cl20, this, hi]
  · have := g3 k hk
    have hk2 : k < 20 := by omega
    simp [wr_ap, cp_ap, ho, cl0, cl8, clN4, cl20, this, hk2]
  · simp [wr_ap, cp_ap, ho, g4]
  · simp [wr_ap, cp_ap, ho, g5]
  · simp [wr_ap, cp_ap, ho, g6]
  · simp [wr_ap, cp_ap, ho, g7]
  · rw [wr_ob _ _ _ _ _ hx, wr_ob _ _ _ _ _ hx, wr_ob _ _ _ _ _ hx, wr_ob _ _ _ _ _ hx, cp_ob _ _ _ _ _ _ _ _ hx, cp_ob _ _ _ _ _ _ _ _ hx, cp_ob _ _ _ _ _ _ _ _ hx, cp_ob _ _ _ _ _ _ _ _ hx, cp_ob _ _ _ _ _ _ _ _ hx]
/-! ===== what is asked of a walk ===== -/
theorem cl_sum {o f h : Nat} {M : Mem} {r : Nat → Nat} (h8 : h ≤ 8) (e3 : M o 3 0 = nI h) (e : ∀ i, i < h → M o f i = nI (r i)) {body : Int32 × Int32 → Option ((Int32 × Int32) ⊕ Int32)} (hb : ∀ x1 x2, body (x1, x2) = (if M o 3 0 ≤ x2 then some (.inr x1) else gd (inB x2 8) (some (.inl (x1 + M o f (Int32.toNatClampNeg x2), x2 + 1))))) : Sp (lpO body FU (0, 0)) (fun z => z = nI (sN r h)) := by
  refine lp_for (fun i st => st = (nI (sN r i), nI i)) h (by omega) ?_ ?_ (Nat.zero_le _) rfl
  · rintro i st hi rfl
    rw [hb]
    simp only [sp_gd, sp_nm, sp_bind, sp_ite, sp_some, sp_inr]
    rw [e3, nI_leI (by omega) (by omega), inB_nI (by omega), nI_clamp (by omega), e i hi, nI_1, nI_add]
    exact ⟨fun hc => absurd hc (by omega), fun _ => ⟨by omega, rfl⟩⟩
  · rintro st rfl
    rw [hb]
    simp only [sp_gd, sp_nm, sp_bind, sp_ite, sp_some, sp_inr]
    rw [e3, nI_leI (by omega) (by omega)]
    exact ⟨fun _ => rfl, fun hc => absurd (Nat.le_refl _) hc⟩
theorem cl_allShares {o h : Nat} {M : Mem} {r : Nat → Nat} (h8 : h ≤ 8) (e3 : M o 3 0 = nI h) (e : ∀ i, i < h → M o 0 i = nI (r i)) : fX7_allShares o M = some (nI (sN r h)) := by
  obtain ⟨z, hz, rfl⟩ := cl_sum (body := fun st => fX7_allShares_4 o M st.1 st.2) h8 e3 e (fun x1 x2 => by unfold fX7_allShares_4; rw [nm_d, nm_d])
  exact hz
theorem cl_allFields {o h : Nat} {M : Mem} {r : Nat → Nat} (h8 : h ≤ 8) (e3 : M o 3 0 = nI h) (e : ∀ i, i < h → M o 1 i = nI (r i)) : fX7_allFields o M = some (nI (sN r h)) := by
  obtain ⟨z, hz, rfl⟩ := cl_sum (body := fun st => fX7_allFields_4 o M st.1 st.2) h8 e3 e (fun x1 x2 => by unfold fX7_allFields_4; rw [nm_d, nm_d])
  exact hz
/-- who has most among the first, and how much -/
def richA (r : Nat → Nat) : Nat → Int32 × Nat
  | 0 => (-1, 0)
  | n + 1 => if (richA r n).2 < r n then (nI n, r n) else richA r n
theorem richA_le {r : Nat → Nat} {b : Nat} : ∀ n, (∀ i, i < n → r i ≤ b) → (richA r n).2 ≤ b
  | 0, _ => Nat.zero_le _
  | n + 1, h => by
    unfold richA
    have := richA_le n (fun i hi => h i (by omega))
    have := h n (by omega)
    split <;> omega
theorem cl_richest {o h : Nat} {M : Mem} {r : Nat → Nat} (h8 : h ≤ 8) (e3 : M o 3 0 = nI h) (e : ∀ i, i < h → M o 0 i = nI (r i)) (hr : ∀ i, i < h → r i ≤ 360) : fX7_richestHeir o M = some (richA r h).1 := by
  have : Sp (fX7_richestHeir o M) (fun z => z = (richA r h).1) := by
    unfold fX7_richestHeir
    simp only [sp_gd, sp_nm, sp_bind, sp_ite, sp_some, sp_inr]
    refine lp_for (fun i st => st = ((richA r i).1, nI (richA r i).2, nI i)) h (by omega) ?_ ?_ (Nat.zero_le _) rfl
    · rintro i st hi rfl
      have hm := richA_le (r := r) (b := 360) i (fun q hq => hr q (by omega))
      have hri := hr i hi
      unfold fX7_richestHeir_6 fX7_richestHeir_33
      simp only [sp_gd, sp_nm, sp_bind, sp_ite, sp_some, sp_inr]
      rw [e3, nI_leI (by omega) (by omega), inB_nI (by omega), nI_clamp (by omega), e i hi, nI_1, nI_leI (by omega) (by omega)]
      refine ⟨fun hc => absurd hc (by omega), fun _ => ⟨by omega, fun hle => ?_, fun hle => ⟨by omega, ?_⟩⟩⟩
      · show _ = _
        rw [show richA r (i + 1) = richA r i by rw [richA, if_neg (by omega)]]
      · show _ = _
        rw [show richA r (i + 1) = (nI i, r i) by rw [richA, if_pos (by omega)]]
    · rintro st rfl
      unfold fX7_richestHeir_6
      simp only [sp_gd, sp_nm, sp_bind, sp_ite, sp_some, sp_inr]
      rw [e3, nI_leI (by omega) (by omega)]
      exact ⟨fun _ => rfl, fun hc => absurd (Nat.le_refl _) hc⟩
  obtain ⟨z, hz, rfl⟩ := this
  exact hz
/-- one has most: more than any other one, and more than 0 -/
def hasM (r : Nat → Nat) (h j : Nat) : Prop := 0 < r j ∧ ∀ i, i < h → i ≠ j → r i < r j
theorem cl_hasMost {o h j : Nat} {M : Mem} {r : Nat → Nat} (h8 : h ≤ 8) (hj : j < h) (e3 : M o 3 0 = nI h) (e : ∀ i, i < h → M o 0 i = nI (r i)) (hr : ∀ i, i < h → r i ≤ 360) : Sp (fX7_hasMost o M (nI j)) (fun z => (z = 1 ∧ hasM r h j) ∨ (z = 0 ∧ ¬ hasM r h j)) := by
  have hrj := hr j hj
  unfold fX7_hasMost
  simp only [sp_gd, sp_nm, sp_bind, sp_ite, sp_some, sp_inr]
  rw [inB_nI (by omega), nI_clamp (by omega), e j hj, il0, nI_ltI (by omega) (by omega)]
  refine ⟨by omega, fun h0 => ?_, fun h0 => Or.inr ⟨trivial, fun z => h0 z.1⟩⟩
  refine lp_for (fun i st => st = nI i ∧ ∀ q, q < i → q ≠ j → r q < r j) h (by omega) ?_ ?_ (Nat.zero_le _) ⟨rfl, fun q hq => absurd hq (Nat.not_lt_zero _)⟩
  · rintro i st hi ⟨rfl, hI⟩
    have hri := hr i hi
    unfold fX7_hasMost_13 fX7_hasMost_43
    simp only [sp_gd, sp_nm, sp_bind, sp_ite, sp_some, sp_inr]
    rw [e3, nI_leI (by omega) (by omega), nI_eq (by omega) (by omega), inB_nI (by omega), inB_nI (by omega), nI_clamp (by omega), nI_clamp (by omega), e i hi, e j hj, nI_1, nI_ltI (by omega) (by omega)]
    refine ⟨fun hc => absurd hc (by omega), fun _ => ⟨fun hij => ⟨rfl, fun q hq hqj => hI q (by omega) hqj⟩, fun hij => ⟨by omega, by omega, fun hlt => ⟨rfl, fun q hq hqj => ?_⟩, fun hlt => ?_⟩⟩⟩
    · by_cases hqi : q = i
      · rw [hqi]; exact hlt
      · exact hI q (by omega) hqj
    · exact Or.inr ⟨rfl, fun z => hlt (z.2 i hi hij)⟩
  · rintro st ⟨rfl, hI⟩
    unfold fX7_hasMost_13
    simp only [sp_gd, sp_nm, sp_bind, sp_ite, sp_some, sp_inr]
    rw [e3, nI_leI (by omega) (by omega)]
    exact ⟨fun _ => Or.inl ⟨rfl, h0, hI⟩, fun hc => absurd (Nat.le_refl _) hc⟩
