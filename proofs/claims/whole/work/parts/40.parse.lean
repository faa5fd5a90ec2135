/-! ===== the two texts: where they fail, what they say ===== -/
/-- the first place below n at which f fails; n: at none -/
def bad (f : Nat → Bool) : Nat → Nat
  | 0 => 0
  | n + 1 => if bad f n = n then (if f n = true then n + 1 else n) else bad f n
theorem bad_le (f : Nat → Bool) : ∀ n, bad f n ≤ n
  | 0 => Nat.le_refl _
  | n + 1 => by
    have := bad_le f n
    unfold bad
    split
    · split <;> omega
    · omega
theorem bad_all {f : Nat → Bool} : ∀ n, (∀ p, p < n → f p = true) → bad f n = n
  | 0, _ => rfl
  | n + 1, h => by
    unfold bad
    rw [if_pos (bad_all n (fun p hp => h p (by omega))), if_pos (h n (by omega))]
theorem bad_at {f : Nat → Bool} {p : Nat} (hp : ∀ q, q < p → f q = true) (hf : f p = false) : ∀ n, p < n → bad f n = p
  | 0, h => absurd h (Nat.not_lt_zero _)
  | n + 1, h => by
    unfold bad
    by_cases hpn : p = n
    · subst hpn
      rw [if_pos (bad_all p hp), if_neg (by rw [hf]; decide)]
    · have := bad_at hp hf n (by omega)
      rw [this, if_neg hpn]
theorem bad_good {f : Nat → Bool} : ∀ n p, p < bad f n → f p = true
  | 0, p, h => absurd h (Nat.not_lt_zero _)
  | n + 1, p, h => by
    unfold bad at h
    split at h
    · rename_i e
      split at h
      · rename_i e2
        by_cases hp : p = n
        · rw [hp]; exact e2
        · exact bad_good n p (by omega)
      · exact bad_good n p (by omega)
    · exact bad_good n p h
def fitH (t : Nat → Nat) (p : Nat) : Bool := if p % 4 = 0 then (t p == 107 || t p == 109 || t p == 115) else if p % 4 = 3 then t p == 59 else decide (48 ≤ t p ∧ t p ≤ 57)
def fitR (t : Nat → Nat) (p : Nat) : Bool := decide (97 ≤ t p ∧ t p ≤ 104)
def fltH (t : Nat → Nat) (a : Nat) : Int32 := if bad (fitH t) a = a then (if a = 0 ∨ a % 4 = 3 then -1 else nI a) else nI (bad (fitH t) a)
def fltR (t : Nat → Nat) (a : Nat) : Int32 := if bad (fitR t) a = a then -1 else nI (bad (fitR t) a)
def hcN (t : Nat → Nat) (a : Nat) : Nat := if bad (fitH t) a = a ∧ a % 4 = 3 then (a + 1) / 4 else 0
def scN (t : Nat → Nat) (a : Nat) : Nat := if bad (fitR t) a = a then a else 0
def sortN (c : Nat) : Nat := if c = 109 then 1 else if c = 115 then 2 else 0
theorem nI_ne_m1 {a : Nat} (h : a < 2147483648) : ¬ nI a = (-1 : Int32) := by
  intro e
  have h1 := nI_pos' (n := a) h
  rw [e] at h1
  exact absurd h1 (by decide)
theorem nI_ev {a b : Nat} (v : Int32) (hv : v = nI b) (ha : a < 2147483648) (hb : b < 2147483648) : nI a = v ↔ a = b := by rw [hv]; exact nI_eq ha hb
theorem lt48 : (48 : Int32) = nI 48 := rfl
theorem lt57 : (57 : Int32) = nI 57 := rfl
theorem lt59 : (59 : Int32) = nI 59 := rfl
theorem lt97 : (97 : Int32) = nI 97 := rfl
theorem lt104 : (104 : Int32) = nI 104 := rfl
theorem lt107 : (107 : Int32) = nI 107 := rfl
theorem lt109 : (109 : Int32) = nI 109 := rfl
theorem lt115 : (115 : Int32) = nI 115 := rfl
theorem lt255 : (255 : Int32) = nI 255 := rfl
theorem cl_fits {t : Nat → Nat} {p : Nat} (hp : p < 31) (ht : t p ≤ 255) : fX3_fitsHeirs (nI p) (nI (t p)) = some (if fitH t p = true then 1 else 0) := by
  have hd : nI p / 4 = nI (p / 4) := by rw [il4]; exact pk_div (by omega) (by omega) (by omega)
  have hr : nI p - nI p / 4 * 4 = nI (p % 4) := by rw [il4]; exact pk_rem (by omega) (by omega) (by omega)
  have r : Sp (fX3_fitsHeirs (nI p) (nI (t p))) (fun z => z = (if fitH t p = true then 1 else 0)) := by
    unfold fX3_fitsHeirs fitH
    simp only [sp_gd, sp_nm, sp_bind, sp_ite, sp_some, sp_inr]
    rw [hr, hd, il0, il3, il8, lt107, lt109, lt115, lt59, lt48, lt57, nI_eq (by omega) (by omega), nI_eq (by omega) (by omega), nI_leI (by omega) (by omega), nI_eq (by omega) (by omega), nI_eq (by omega) (by omega), nI_eq (by omega) (by omega), nI_eq (by omega) (by omega), nI_ltI (by omega) (by omega), nI_ltI (by omega) (by omega)]
    refine ⟨fun h0 => ⟨fun h => by omega, fun _ => ⟨fun h => ?_, fun h => ⟨fun h2 => ?_, fun h2 => ⟨fun h3 => ?_, fun h3 => ?_⟩⟩⟩⟩, fun h0 => ⟨fun h3 => ⟨fun h => ?_, fun h => ?_⟩, fun h3 => ⟨fun h => ?_, fun h => ⟨fun h2 => ?_, fun h2 => ?_⟩⟩⟩⟩
    · simp [h0, h]
    · simp [h0, h2]
    · simp [h0, h3]
    · simp [h0, h, h2, h3]
    · simp [h3, h]
    · simp [h3, h]
    · have : ¬ 48 ≤ t p := by omega
      simp [h0, h3, this]
    · have : ¬ t p ≤ 57 := by omega
      simp [h0, h3, this]
    · have a1 : 48 ≤ t p := by omega
      have a2 : t p ≤ 57 := by omega
      simp [h0, h3, a1, a2]
  obtain ⟨z, hz, rfl⟩ := r
  exact hz
theorem cl_faultH {o : Nat} {M : Mem} {t : Nat → Nat} {a : Nat} (ho : o = 1) (ha : a ≤ 31) (e1 : M o 1 0 = nI a) (e0 : ∀ i, i < a → M o 0 i = nI (t i)) (ht : ∀ i, i < a → t i ≤ 255) : fX3_faultAsHeirs o M = some (fltH t a) := by
  have r : Sp (fX3_faultAsHeirs o M) (fun z => z = fltH t a) := by
    unfold fX3_faultAsHeirs
    simp only [sp_gd, sp_nm, sp_bind, sp_ite, sp_some, sp_inr]
    refine lp_for (fun i st => st = nI i ∧ ∀ p, p < i → fitH t p = true) a (by omega) ?_ ?_ (Nat.zero_le _) ⟨rfl, fun p hp => absurd hp (Nat.not_lt_zero _)⟩
    · rintro i st hi ⟨rfl, hI⟩
      unfold fX3_faultAsHeirs_2
      simp only [sp_gd, sp_nm, sp_bind, sp_ite, sp_some, sp_inr]
      rw [e1, nI_leI (by omega) (by omega), if_pos ho, inB_nI (by omega), nI_clamp (by omega), e0 i hi, nI_1]
      refine ⟨fun hc => absurd hc (by omega), fun _ => ⟨by omega, ?_⟩⟩
      refine Sp.of (cl_fits (by omega) (ht i hi)) ?_
      cases hf : fitH t i with
      | true =>
        rw [if_pos rfl]
        refine ⟨fun z => absurd z (by decide), fun _ => ⟨rfl, fun p hp => ?_⟩⟩
        by_cases hpi : p = i
        · rw [hpi]; exact hf
        · exact hI p (by omega)
      | false =>
        rw [if_neg (by decide)]
        refine ⟨fun _ => ?_, fun z => absurd rfl z⟩
        show nI i = fltH t a
        unfold fltH
        rw [bad_at hI hf a hi, if_neg (by omega)]
    · rintro st ⟨rfl, hI⟩
      unfold fX3_faultAsHeirs_2 fX3_faultAsHeirs_31
      simp only [sp_gd, sp_nm, sp_bind, sp_ite, sp_some, sp_inr]
      rw [e1, nI_leI (by omega) (by omega), show nI a - nI a / 4 * 4 = nI (a % 4) by rw [il4]; exact pk_rem (by omega) (by omega) (by omega), il0, nI_eq (by omega) (by omega), il3, nI_eq (by omega) (by omega)]
      refine ⟨fun _ => ⟨fun h0 => ?_, fun h0 => ⟨fun h3 => ?_, fun h3 => ?_⟩⟩, fun hc => absurd (Nat.le_refl _) hc⟩
      · show (-1 : Int32) = fltH t a
        unfold fltH
        rw [if_pos (bad_all a hI), if_pos (Or.inl h0)]
      · show (-1 : Int32) = fltH t a
        unfold fltH
        rw [if_pos (bad_all a hI), if_pos (Or.inr h3)]
      · show nI a = fltH t a
        unfold fltH
        rw [if_pos (bad_all a hI), if_neg (fun z => z.elim h0 h3)]
  obtain ⟨z, hz, rfl⟩ := r
  exact hz
theorem fltH_m1 {t : Nat → Nat} {a : Nat} (ha : a ≤ 31) : fltH t a = -1 ↔ (bad (fitH t) a = a ∧ (a = 0 ∨ a % 4 = 3)) := by
  have := bad_le (fitH t) a
  unfold fltH
  by_cases h : bad (fitH t) a = a
  · rw [if_pos h]
    by_cases h2 : a = 0 ∨ a % 4 = 3
    · rw [if_pos h2]; exact ⟨fun _ => ⟨h, h2⟩, fun _ => rfl⟩
    · rw [if_neg h2]; exact ⟨fun e => absurd e (nI_ne_m1 (by omega)), fun e => absurd e.2 h2⟩
  · rw [if_neg h]; exact ⟨fun e => absurd e (nI_ne_m1 (by omega)), fun e => absurd e.1 h⟩
theorem hcN_le {t : Nat → Nat} {a : Nat} (ha : a ≤ 31) : hcN t a ≤ 8 ∧ 4 * hcN t a ≤ a + 1 := by
  unfold hcN
  split <;> omega
theorem hcN_fit {t : Nat → Nat} {a i : Nat} (h : i < hcN t a) : ∀ p, p < a → fitH t p = true := by
  unfold hcN at h
  split at h
  · rename_i e
    intro p hp
    exact bad_good a p (by omega)
  · exact absurd h (Nat.not_lt_zero _)
theorem cl_sortOf {c : Nat} (hc : c ≤ 255) : fX2_sortOf (nI c) = some (nI (sortN c)) := by
  unfold fX2_sortOf sortN
  by_cases h1 : c = 109
  · rw [if_pos (by rw [h1]; rfl), if_pos h1]; rfl
  · rw [if_neg (fun q => h1 ((nI_ev 109 lt109 (by omega) (by omega)).mp q)), if_neg h1]
    by_cases h2 : c = 115
    · rw [if_pos (by rw [h2]; rfl), if_pos h2]; rfl
    · rw [if_neg (fun q => h2 ((nI_ev 115 lt115 (by omega) (by omega)).mp q)), if_neg h2]; rfl
theorem digit_of {t : Nat → Nat} {p : Nat} (h : fitH t p = true) (h1 : p % 4 = 1 ∨ p % 4 = 2) : 48 ≤ t p ∧ t p ≤ 57 := by
  unfold fitH at h
  rw [if_neg (by omega), if_neg (by omega)] at h
  exact of_decide_eq_true h
/-- Given.takeHeirs -/
theorem cl_takeH {o : Nat} {M : Mem} {t : Nat → Nat} {a : Nat} (ho : o ≠ 1) (ha : a ≤ 31) (e1 : M 1 1 0 = nI a) (e0 : ∀ i, i < a → M 1 0 i = nI (t i)) (ht : ∀ i, i < a → t i ≤ 255) : Sp (fX2_takeHeirs o 1 M) (fun M' => frL o [0, 1, 2, 5] M M' ∧ M' o 5 0 = nI (hcN t a) ∧ ∀ i, i < hcN t a → M' o 0 i = nI (sortN (t (4 * i))) ∧ M' o 1 i = nI (t (4 * i + 1) - 48) ∧ M' o 2 i = nI (t (4 * i + 2) - 48)) := by
  have hh := hcN_le (t := t) ha
  have k21 : ∀ h : Nat, h = hcN t a → Sp (fX2_takeHeirs_21 o 1 (nI h) M) (fun M' => frL o [0, 1, 2, 5] M M' ∧ M' o 5 0 = nI (hcN t a) ∧ ∀ i, i < hcN t a → M' o 0 i = nI (sortN (t (4 * i))) ∧ M' o 1 i = nI (t (4 * i + 1) - 48) ∧ M' o 2 i = nI (t (4 * i + 2) - 48)) := by
    intro h hh2
    unfold fX2_takeHeirs_21
    simp only [sp_gd, sp_nm, sp_bind, sp_ite, sp_some, sp_inr]
    refine lp_for (fun i st => st.1 = nI i ∧ frL o [0, 1, 2, 5] M st.2 ∧ st.2 o 5 0 = nI h ∧ ∀ q, q < i → st.2 o 0 q = nI (sortN (t (4 * q))) ∧ st.2 o 1 q = nI (t (4 * q + 1) - 48) ∧ st.2 o 2 q = nI (t (4 * q + 2) - 48)) h (by omega) ?_ ?_ (Nat.zero_le _) ⟨rfl, ⟨fun x hx => wr_ob _ _ _ _ _ hx, fun f hf => wr_row _ _ _ _ _ (fun z => by simp at hf; exact hf.2.2.2 z.2)⟩, by simp [wr_ap], fun q hq => absurd hq (Nat.not_lt_zero _)⟩
    · rintro i ⟨x, Mc⟩ hi ⟨h1, ⟨h2, h2'⟩, h3, h4⟩
      dsimp only at h1 h2 h2' h3 h4 ⊢
      subst h1
      have hfit := hcN_fit (t := t) (a := a) (i := i) (by omega)
      have m1 : Mc 1 = M 1 := h2 1 (fun z => ho z.symm)
      have d1 := digit_of (hfit (4 * i + 1) (by omega)) (by omega)
      have d2 := digit_of (hfit (4 * i + 2) (by omega)) (by omega)
      unfold fX2_takeHeirs_26
      simp only [sp_gd, sp_nm, sp_bind, sp_ite, sp_some, sp_inr]
      have e4 : nI i * (4 : Int32) = nI (4 * i) := by rw [il4, pk_mul, Nat.mul_comm]
      rw [h3, nI_leI (by omega) (by omega), if_pos trivial, e4, il1, il2, nI_add, nI_add, nI_add, inB_nI (by omega), inB_nI (by omega), inB_nI (by omega), inB_nI (by omega), nI_clamp (by omega), nI_clamp (by omega), nI_clamp (by omega), nI_clamp (by omega), m1, e0 (4 * i) (by omega)]
      refine ⟨fun hc => absurd hc (by omega), fun _ => ⟨by omega, ?_⟩⟩
      refine Sp.of (cl_sortOf (ht (4 * i) (by omega))) ?_
      refine ⟨by omega, by omega, by omega, by omega, by omega, ?_⟩
      have n1 : (1 : Nat) ≠ o := fun z => ho z.symm
      rw [wr_ob _ _ _ _ _ n1, wr_ob _ _ _ _ _ n1, m1, e0 (4 * i + 1) (by omega), wr_ob _ _ _ _ _ n1, m1, e0 (4 * i + 2) (by omega), lt48, pk_sub (by omega), pk_sub (by omega)]
      refine ⟨rfl, ⟨fun y hy => ?_, fun f hf => ?_⟩, ?_, fun q hq => ?_⟩
      · dsimp only
        rw [wr_ob _ _ _ _ _ hy, wr_ob _ _ _ _ _ hy, wr_ob _ _ _ _ _ hy]; exact h2 y hy
      · dsimp only
        have hf' := hf
        simp at hf'
        rw [wr_row _ _ _ _ _ (fun z => hf'.2.2.1 z.2), wr_row _ _ _ _ _ (fun z => hf'.2.1 z.2), wr_row _ _ _ _ _ (fun z => hf'.1 z.2)]
        exact h2' f hf
      · simp [wr_ap, h3]
      · simp only [wr_ap]
        by_cases hqi : q = i
        · simp [hqi]
        · simp [hqi]
          exact h4 q (by omega)
    · rintro ⟨x, Mc⟩ ⟨h1, h2, h3, h4⟩
      dsimp only at h1 h2 h3 h4 ⊢
      subst h1
      unfold fX2_takeHeirs_26
      simp only [sp_gd, sp_nm, sp_bind, sp_ite, sp_some, sp_inr]
      rw [h3, nI_leI (by omega) (by omega)]
      refine ⟨fun _ => ⟨h2, by rw [h3, hh2], by rw [← hh2]; exact h4⟩, fun hc => absurd (Nat.le_refl _) hc⟩
  unfold fX2_takeHeirs
  simp only [sp_gd, sp_nm, sp_bind, sp_ite, sp_some, sp_inr]
  refine Sp.of (cl_faultH rfl ha e1 e0 ht) ?_
  rw [e1, il1, nI_add, show nI (a + 1) / 4 = nI ((a + 1) / 4) by rw [il4]; exact pk_div (by omega) (by omega) (by omega), show (-nI 1 : Int32) = -1 from rfl, fltH_m1 ha]
  refine ⟨fun hc => ?_, fun hc => ?_⟩
  · refine k21 _ ?_
    unfold hcN
    rcases hc.2 with h0 | h3
    · rw [if_neg (by omega), h0]
    · rw [if_pos ⟨hc.1, h3⟩]
  · rw [il0]
    refine k21 0 ?_
    unfold hcN
    rw [if_neg (fun z => hc ⟨z.1, Or.inr z.2⟩)]
theorem cl_faultR {o : Nat} {M : Mem} {t : Nat → Nat} {a : Nat} (ho : o = 2) (ha : a ≤ 20) (e1 : M o 1 0 = nI a) (e0 : ∀ i, i < a → M o 0 i = nI (t i)) (ht : ∀ i, i < a → t i ≤ 255) : fX3_faultAsRound o M = some (fltR t a) := by
  have r : Sp (fX3_faultAsRound o M) (fun z => z = fltR t a) := by
    unfold fX3_faultAsRound
    simp only [sp_gd, sp_nm, sp_bind, sp_ite, sp_some, sp_inr]
    refine lp_for (fun i st => st = nI i ∧ ∀ p, p < i → fitR t p = true) a (by omega) ?_ ?_ (Nat.zero_le _) ⟨rfl, fun p hp => absurd hp (Nat.not_lt_zero _)⟩
    · rintro i st hi ⟨rfl, hI⟩
      have hti := ht i hi
      unfold fX3_faultAsRound_2
      simp only [sp_gd, sp_nm, sp_bind, sp_ite, sp_some, sp_inr]
      rw [e1, nI_leI (by omega) (by omega), if_neg (by omega), inB_nI (by omega), nI_clamp (by omega), e0 i hi, nI_1, lt97, lt104, nI_ltI (by omega) (by omega), nI_leI (by omega) (by omega)]
      have hbad : fitR t i = false → nI i = fltR t a := by
        intro hf
        unfold fltR
        rw [bad_at hI hf a hi, if_neg (by omega)]
      refine ⟨fun hc => absurd hc (by omega), fun _ => ⟨by omega, fun h1 => hbad (by unfold fitR; exact decide_eq_false (by omega)), fun h1 => ⟨by omega, fun h2 => ⟨rfl, fun p hp => ?_⟩, fun h2 => hbad (by unfold fitR; exact decide_eq_false (by omega))⟩⟩⟩
      by_cases hpi : p = i
      · rw [hpi]; unfold fitR; exact decide_eq_true (by omega)
      · exact hI p (by omega)
    · rintro st ⟨rfl, hI⟩
      unfold fX3_faultAsRound_2
      simp only [sp_gd, sp_nm, sp_bind, sp_ite, sp_some, sp_inr]
      rw [e1, nI_leI (by omega) (by omega)]
      refine ⟨fun _ => ?_, fun hc => absurd (Nat.le_refl _) hc⟩
      show (-1 : Int32) = fltR t a
      unfold fltR
      rw [if_pos (bad_all a hI)]
  obtain ⟨z, hz, rfl⟩ := r
  exact hz
theorem fltR_m1 {t : Nat → Nat} {a : Nat} (ha : a ≤ 20) : fltR t a = -1 ↔ bad (fitR t) a = a := by
  have := bad_le (fitR t) a
  unfold fltR
  by_cases h : bad (fitR t) a = a
  · rw [if_pos h]; exact ⟨fun _ => h, fun _ => rfl⟩
  · rw [if_neg h]; exact ⟨fun e => absurd e (nI_ne_m1 (by omega)), fun e => absurd e h⟩
theorem scN_fit {t : Nat → Nat} {a i : Nat} (h : i < scN t a) : scN t a = a ∧ ∀ p, p < a → 97 ≤ t p ∧ t p ≤ 104 := by
  unfold scN at h ⊢
  split at h
  · rename_i e
    rw [if_pos e]
    refine ⟨rfl, fun p hp => ?_⟩
    have := bad_good a p (f := fitR t) (by omega)
    unfold fitR at this
    exact of_decide_eq_true this
  · exact absurd h (Nat.not_lt_zero _)
/-- Given.takeRound -/
theorem cl_takeR {o : Nat} {M : Mem} {t : Nat → Nat} {a : Nat} (ho : o ≠ 2) (ha : a ≤ 20) (e1 : M 2 1 0 = nI a) (e0 : ∀ i, i < a → M 2 0 i = nI (t i)) (ht : ∀ i, i < a → t i ≤ 255) : Sp (fX2_takeRound o 2 M) (fun M' => frL o [4, 6] M M' ∧ M' o 6 0 = nI (scN t a) ∧ ∀ i, i < scN t a → M' o 4 i = nI (t i - 97)) := by
  have k17 : ∀ h : Nat, h = scN t a → h ≤ 20 → Sp (fX2_takeRound_17 o 2 (nI h) M) (fun M' => frL o [4, 6] M M' ∧ M' o 6 0 = nI (scN t a) ∧ ∀ i, i < scN t a → M' o 4 i = nI (t i - 97)) := by
    intro h hh2 h20
    unfold fX2_takeRound_17
    simp only [sp_gd, sp_nm, sp_bind, sp_ite, sp_some, sp_inr]
    refine lp_for (fun i st => st.1 = nI i ∧ frL o [4, 6] M st.2 ∧ st.2 o 6 0 = nI h ∧ ∀ q, q < i → st.2 o 4 q = nI (t q - 97)) h (by omega) ?_ ?_ (Nat.zero_le _) ⟨rfl, ⟨fun x hx => wr_ob _ _ _ _ _ hx, fun f hf => wr_row _ _ _ _ _ (fun z => by simp at hf; exact hf.2 z.2)⟩, by simp [wr_ap], fun q hq => absurd hq (Nat.not_lt_zero _)⟩
    · rintro i ⟨x, Mc⟩ hi ⟨h1, ⟨h2, h2'⟩, h3, h4⟩
      dsimp only at h1 h2 h2' h3 h4 ⊢
      subst h1
      obtain ⟨hsa, hfit⟩ := scN_fit (t := t) (a := a) (i := i) (by omega)
      have m1 : Mc 2 = M 2 := h2 2 (fun z => ho z.symm)
      have d1 := hfit i (by omega)
      unfold fX2_takeRound_22
      simp only [sp_gd, sp_nm, sp_bind, sp_ite, sp_some, sp_inr]
      rw [h3, nI_leI (by omega) (by omega), if_neg (by omega), nI_1, inB_nI (by omega), nI_clamp (by omega), m1, e0 i (by omega), lt97, pk_sub (by omega)]
      refine ⟨fun hc => absurd hc (by omega), fun _ => ⟨by omega, by omega, rfl, ⟨fun y hy => ?_, fun f hf => ?_⟩, ?_, fun q hq => ?_⟩⟩
      · dsimp only
        rw [wr_ob _ _ _ _ _ hy]; exact h2 y hy
      · dsimp only
        have hf' := hf
        simp at hf'
        rw [wr_row _ _ _ _ _ (fun z => hf'.1 z.2)]
        exact h2' f hf
      · simp [wr_ap, h3]
      · simp only [wr_ap]
        by_cases hqi : q = i
        · simp [hqi]
        · simp [hqi]
          exact h4 q (by omega)
    · rintro ⟨x, Mc⟩ ⟨h1, h2, h3, h4⟩
      dsimp only at h1 h2 h3 h4 ⊢
      subst h1
      unfold fX2_takeRound_22
      simp only [sp_gd, sp_nm, sp_bind, sp_ite, sp_some, sp_inr]
      rw [h3, nI_leI (by omega) (by omega)]
      refine ⟨fun _ => ⟨h2, by rw [h3, hh2], by rw [← hh2]; exact h4⟩, fun hc => absurd (Nat.le_refl _) hc⟩
  unfold fX2_takeRound
  simp only [sp_gd, sp_nm, sp_bind, sp_ite, sp_some, sp_inr]
  refine Sp.of (cl_faultR rfl ha e1 e0 ht) ?_
  rw [e1, fltR_m1 ha]
  refine ⟨fun hc => k17 _ (by unfold scN; rw [if_pos hc]) ha, fun hc => k17 0 (by unfold scN; rw [if_neg hc]) (by omega)⟩
