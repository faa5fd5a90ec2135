/-! ===== the class's Given and Walk do so ===== -/
/-- nothing but the row f of the object o has changed -/
def frF (o f : Nat) (M M' : Mem) : Prop := ∀ o' f', ¬ (o' = o ∧ f' = f) → M' o' f' = M o' f'
theorem frF.O {o f : Nat} {M M' : Mem} (h : frF o f M M') : frO o M M' := fun o' hn => funext fun f' => h o' f' (fun z => hn z.1)
theorem cl_fill {o f n : Nat} {M : Mem} {v : Int32} (hn : n < 1000) : Sp (fJ7_fill_53178 o f n M v) (fun M' => frF o f M M' ∧ ∀ i, i < n → M' o f i = v) := by
  unfold fJ7_fill_53178
  simp only [sp_gd, sp_nm, sp_bind, sp_ite, sp_some, sp_inr]
  refine lp_for (fun i st => st.1 = nI i ∧ st.2.1 = nI n ∧ frF o f M st.2.2 ∧ ∀ q, q < i → st.2.2 o f q = v) n (by omega) ?_ ?_ (Nat.zero_le _) ⟨rfl, rfl, fun _ _ _ => rfl, fun q hq => absurd hq (Nat.not_lt_zero _)⟩
  · rintro i ⟨x2, x3, Mc⟩ hi ⟨h1, h2, h3, h4⟩
    dsimp only at h1 h2 h3 h4 ⊢
    subst h1 h2
    unfold fJ7_fill_53178_5
    simp only [sp_gd, sp_nm, sp_bind, sp_ite, sp_some, sp_inr]
    rw [nI_leI (by omega) (by omega), inB_nI (by omega), nI_clamp (by omega), nI_1]
    refine ⟨fun hc => absurd hc (by omega), fun _ => ⟨hi, rfl, rfl, fun o' f' hne => ?_, fun q hq => ?_⟩⟩
    · dsimp only
      rw [wr_row _ _ _ _ _ hne]
      exact h3 o' f' hne
    · dsimp only
      rw [wr_ap]
      by_cases hqi : q = i
      · simp [hqi]
      · rw [if_neg (fun z => hqi z.2.2)]
        exact h4 q (by omega)
  · rintro ⟨x2, x3, Mc⟩ ⟨h1, h2, h3, h4⟩
    dsimp only at h1 h2 h3 h4 ⊢
    subst h1 h2
    unfold fJ7_fill_53178_5
    simp only [sp_gd, sp_nm, sp_bind, sp_ite, sp_some, sp_inr]
    rw [nI_leI (by omega) (by omega)]
    exact ⟨fun _ => ⟨h3, h4⟩, fun hc => absurd (Nat.le_refl _) hc⟩
theorem cl_begin {o g : Nat} {M : Mem} {γ : Cfg} (hγ : okC γ) (hg : RG (M g) γ) (hne : g ≠ o) : Sp (fX7_begin o g M) (fun M' => RW (M' o) γ (w0 γ) ∧ frO o M M') := by
  obtain ⟨g1, g2, g3, g4, g5, g6, g7⟩ := hg
  have h8 := hγ.1
  unfold fX7_begin
  simp only [sp_gd, sp_nm, sp_bind, sp_ite, sp_some, sp_inr]
  refine (cl_fill (by omega)).mono (fun M1 ⟨hf1, hv1⟩ => ?_)
  refine (cl_fill (by omega)).mono (fun M2 ⟨hf2, hv2⟩ => ?_)
  have e2 : M2 g = M g := (hf2.O g hne).trans (hf1.O g hne)
  have e0 : M2 o 0 = M1 o 0 := hf2 o 0 (fun z => absurd z.2 (by decide))
  refine ⟨⟨fun i hi => ?_, ?_, ?_, ?_, ?_, ?_⟩, ?_⟩
  · refine ⟨?_, ?_, ?_⟩
    · simp only [wr_ap, cp_ap]
      simp [e0, hv1 i (by omega), w0]
      rfl
    · simp only [wr_ap, cp_ap]
      simp [hv2 i (by omega), w0]
      rfl
    · simp only [wr_ap, cp_ap, cl0, cl8]
      simp [w0, show i < 8 by omega, e2, (g1 i hi).2.2]
  · simp [wr_ap, cp_ap, hne, e2, g4]
  · simp [wr_ap, w0]
  · simp [wr_ap, cp_ap, hne, e2, g2 0 (by omega), w0, cl0]
  · simp [wr_ap, w0]; rfl
  · simp [wr_ap, w0]; rfl
  · intro x hx
    rw [wr_ob _ _ _ _ _ hx, wr_ob _ _ _ _ _ hx, wr_ob _ _ _ _ _ hx, wr_ob _ _ _ _ _ hx, wr_ob _ _ _ _ _ hx, cp_ob _ _ _ _ _ _ _ _ hx]
    exact (hf2.O x hx).trans (hf1.O x hx)
theorem cl_isOut {o : Nat} {M : Mem} {j : Nat} : fX7_isOut o M (nI j) = some (if isO (M o 4 0) j then 1 else 0) := by
  unfold fX7_isOut
  by_cases h : isO (M o 4 0) j
  · rw [if_pos h, if_neg h]
  · rw [if_neg h, if_pos (Classical.not_not.mp h)]
theorem gd_p {α : Type} {c : Prop} [Decidable c] {x : Option α} (h : c) : gd c x = x := by unfold gd; exact if_pos h
theorem nm_d {α β : Type} (e : α) (k : α → β) : nm e k = k e := congrFun (congrFun (rfl : (@nm α β) = fun e k => k e) e) k
theorem dr_neg : ¬ (0 : Int32) ≤ nI 0 + (-1) := by decide +kernel
theorem dr47 (g : Nat) (M : Mem) (a b : Int32) : fX2_dreadAt_47 g M a b (nI 0 + (-1)) = some (nI (0 - 1)) := by
  unfold fX2_dreadAt_47
  rw [if_neg dr_neg]
  rfl
theorem nI_e1 {a : Nat} (h : a < 100) : (nI a = 1) ↔ a = 1 := by rw [il1]; exact nI_eq (by omega) (by omega)
theorem nI_e2 {a : Nat} (h : a < 100) : (nI a = 2) ↔ a = 2 := by rw [il2]; exact nI_eq (by omega) (by omega)
theorem dr_47 (g : Nat) (M : Mem) (a b : Int32) {t : Nat} (ht : t < 100) : fX2_dreadAt_47 g M a b (nI t) = some (nI t) := by
  unfold fX2_dreadAt_47
  rw [if_pos (nI_pos' (by omega))]
theorem dr_34 (g : Nat) (M : Mem) (a : Int32) {j t u : Nat} (hj : j < 8) (hu : M g 0 j = nI u) (hu2 : u ≤ 2) (ht : t < 50) : fX2_dreadAt_34 g M a (nI j) (nI t) = some (nI (t - (if u = 1 then 1 else 0))) := by
  unfold fX2_dreadAt_34
  rw [gd_p ((inB_nI (by omega)).mpr hj), nI_clamp (by omega), hu]
  simp only [nm_d]
  by_cases hs : u = 1
  · rw [if_pos ((nI_e1 (by omega)).mpr hs), if_pos hs]
    cases t with
    | zero => exact dr47 g M a (nI j)
    | succ t => rw [pk_m1, dr_47 g M a (nI j) (by omega), Nat.add_sub_cancel]
  · rw [if_neg (fun q => hs ((nI_e1 (by omega)).mp q)), if_neg hs, dr_47 g M a (nI j) (by omega), Nat.sub_zero]
theorem dr_21 (g : Nat) (M : Mem) (a : Int32) {j t u : Nat} (hj : j < 8) (hu : M g 0 j = nI u) (hu2 : u ≤ 2) (ht : t ≤ 11) : fX2_dreadAt_21 g M a (nI j) (nI t) = some (nI ((t + (if u = 2 then 2 else 0)) - (if u = 1 then 1 else 0))) := by
  unfold fX2_dreadAt_21
  rw [gd_p ((inB_nI (by omega)).mpr hj), nI_clamp (by omega), hu]
  simp only [nm_d]
  by_cases hs : u = 2
  · rw [if_pos ((nI_e2 (by omega)).mpr hs), if_pos hs, il2, nI_add, dr_34 g M a hj hu hu2 (by omega)]
  · rw [if_neg (fun q => hs ((nI_e2 (by omega)).mp q)), if_neg hs, dr_34 g M a hj hu hu2 (by omega), Nat.add_zero]
theorem cl_dread {g : Nat} {M : Mem} {γ : Cfg} {k j : Nat} (hγ : okC γ) (hg : RG (M g) γ) (hj : j < γ.1 5 0) : fX2_dreadAt g M (nI k) (nI j) = some (nI (dr γ k j)) := by
  obtain ⟨g1, g2, g3, g4, g5, g6, g7⟩ := hg
  obtain ⟨h1, h2, h3, h4, h5, h6, h7, h8⟩ := hγ
  have e1 : M g 3 1 = nI (γ.1 3 1) := g2 1 (by omega)
  unfold fX2_dreadAt
  simp only [nm_d]
  rw [cl1, e1, g6]
  unfold dr
  by_cases hf : isO γ.2.1 k
  · rw [if_neg hf, if_pos hf, il2, nI_add, dr_21 g M _ (by omega) (g1 j hj).1 (h3 j hj).1 (by omega)]
  · rw [if_pos (Classical.not_not.mp hf), if_neg hf, dr_21 g M _ (by omega) (g1 j hj).1 (h3 j hj).1 (by omega), Nat.add_zero]
/-- the rows of the object o but those of the list are as they were -/
def frL (o : Nat) (l : List Nat) (M M' : Mem) : Prop := frO o M M' ∧ ∀ f, f ∉ l → M' o f = M o f
theorem cl_halve {o h d : Nat} {M : Mem} {r : Nat → Nat} (hh : h ≤ 8) (e3 : M o 3 0 = nI h) (e0 : ∀ i, i < h → M o 0 i = nI (r i)) (hr : ∀ i, i < h → r i ≤ 360) (e7 : M o 7 0 = nI d) : Sp (fX7_halveShares o M) (fun M' => frL o [0, 7, 8] M M' ∧ M' o 8 0 = nI 2 ∧ (∀ i, i < h → M' o 0 i = nI (r i / 2)) ∧ M' o 7 0 = nI (d + sN (fun i => r i - r i / 2) h)) := by
  unfold fX7_halveShares
  simp only [sp_gd, sp_nm, sp_bind, sp_ite, sp_some, sp_inr]
  refine lp_for (fun i st => st.1 = nI i ∧ frL o [0, 7, 8] M st.2 ∧ st.2 o 8 0 = nI 2 ∧ st.2 o 3 0 = nI h ∧ (∀ q, q < i → st.2 o 0 q = nI (r q / 2)) ∧ (∀ q, i ≤ q → q < h → st.2 o 0 q = nI (r q)) ∧ st.2 o 7 0 = nI (d + sN (fun i => r i - r i / 2) i)) h (by omega) ?_ ?_ (Nat.zero_le _) ⟨rfl, ?_⟩
  · rintro i ⟨x, Mc⟩ hi ⟨h1, ⟨h2, h2'⟩, h3, h4, h5, h6, h7⟩
    dsimp only at h1 h2 h2' h3 h4 h5 h6 h7 ⊢
    subst h1
    have hri := hr i hi
    unfold fX7_halveShares_7
    simp only [sp_gd, sp_nm, sp_bind, sp_ite, sp_some, sp_inr]
    rw [h4, nI_leI (by omega) (by omega), inB_nI (by omega), nI_clamp (by omega), nI_1]
    refine ⟨fun hc => absurd hc (by omega), fun _ => ⟨by omega, by omega, by omega, ?_⟩⟩
    rw [h6 i (Nat.le_refl _) hi, il2, pk_div (by omega) (by omega) (by omega), h7, pk_sub (by omega), nI_add]
    refine ⟨rfl, ⟨fun x hx => ?_, fun f hf => ?_⟩, ?_, ?_, fun q hq => ?_, fun q hq hq2 => ?_, ?_⟩
    · dsimp only
      rw [wr_ob _ _ _ _ _ hx, wr_ob _ _ _ _ _ hx, h2 x hx]
    · dsimp only
      simp at hf
      rw [wr_row _ _ _ _ _ (fun z => hf.1 z.2), wr_row _ _ _ _ _ (fun z => hf.2.1 z.2)]
      exact h2' f (by simp; exact hf)
    · simp [wr_ap, h3]
    · simp [wr_ap, h4]
    · simp only [wr_ap]
      by_cases hqi : q = i
      · simp [hqi]
      · simp [hqi]
        exact h5 q (by omega)
    · simp only [wr_ap]
      have hqi : q ≠ i := by omega
      simp [hqi]
      exact h6 q (by omega) hq2
    · simp [wr_ap]
      show nI _ = nI (d + (sN _ i + (r i - r i / 2)))
      congr 1
      omega
  · rintro ⟨x, Mc⟩ ⟨h1, h2, h3, h4, h5, h6, h7⟩
    dsimp only at h1 h2 h3 h4 h5 h6 h7 ⊢
    subst h1
    unfold fX7_halveShares_7
    simp only [sp_gd, sp_nm, sp_bind, sp_ite, sp_some, sp_inr]
    rw [h4, nI_leI (by omega) (by omega)]
    exact ⟨fun _ => ⟨h2, h3, h5, h7⟩, fun hc => absurd (Nat.le_refl _) hc⟩
  · refine ⟨⟨fun x hx => wr_ob _ _ _ _ _ hx, fun f hf => wr_row _ _ _ _ _ (fun z => by simp at hf; exact hf.2.2 z.2)⟩, by simp [wr_ap]; rfl, by simp [wr_ap, e3], fun q hq => absurd hq (Nat.not_lt_zero _), fun q _ hq => by simp [wr_ap, e0 q hq], by simp [wr_ap, e7, sN]⟩
