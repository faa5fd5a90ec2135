/-! ===== how things stand at first ===== -/
def S0 : St := (fun f i => if f = 3 then (if i = 0 then 5 else if i = 1 then 3 else if i = 2 then 4 else 9) else 0, fun _ _ => 0)
theorem okS_0 : okS S0 := by
  refine ⟨⟨by decide, fun i hi => absurd hi (by decide +revert)⟩, ⟨by decide, fun i hi => absurd hi (by decide +revert)⟩, ⟨by decide, by decide, by decide, by decide⟩, ⟨by decide, fun i hi => absurd hi (by decide +revert)⟩, ⟨by decide, fun i hi => absurd hi (by decide +revert)⟩, fun s _ => ⟨Nat.zero_le _, Nat.zero_le _, Nat.zero_le _⟩, by decide⟩
theorem told0_5 : (told S0).1 5 0 = 0 := by decide +kernel
theorem told0_6 : (told S0).1 6 0 = 0 := by decide +kernel
/-- a new object's memory -/
def C0ok (C : Mem) : Prop := C 1 1 0 = 0 ∧ C 2 1 0 = 0 ∧ C 9 1 0 = 0 ∧ C 10 2 0 = 0 ∧ (∀ s, s < 4 → C (21 + s) 1 0 = 1 ∧ C (21 + s) 2 0 = 0 ∧ C (21 + s) 3 0 = 0 ∧ ∀ i, i < 60 → C (21 + s) 0 i = 0) ∧ C 0 13 0 = 0 ∧ (∀ i, i < 4 → C 3 3 i = tFirst i) ∧ C 3 5 0 = 0 ∧ C 3 6 0 = 0 ∧ C 3 7 0 = 0 ∧ C 3 8 0 = -1 ∧ C 5 3 0 = 0 ∧ C 5 4 0 = 0 ∧ C 5 6 0 = 0 ∧ C 5 7 0 = 0 ∧ C 4 8 0 = -1 ∧ C 0 11 0 = 0 ∧ C 0 12 0 = 0
theorem tF_n : ∀ i, i < 4 → tFirst i = nI (S0.1 3 i) := by decide +kernel
theorem RC_0 {C : Mem} (h : C0ok C) : RC C S0 := by
  obtain ⟨h1, h2, h3, h4, h5, h6, h7, h8, h9, h10, h11, h12, h13, h14, h15, h16, h17, h18⟩ := h
  refine ⟨⟨⟨h1, fun i hi => absurd hi (by decide +revert)⟩, ⟨h2, fun i hi => absurd hi (by decide +revert)⟩, ⟨h3, fun i hi => absurd hi (by decide +revert)⟩, ⟨h4, fun i hi => absurd hi (by decide +revert)⟩, fun s hs => ?_, h6⟩, ⟨⟨fun i hi => ?_, fun i hi => ?_, fun k hk => ?_, ?_, ?_, h10, h11⟩, ⟨fun i hi => ?_, ?_, h13, trivial, ?_, ?_⟩, ⟨fun k hk => ?_, fun k hk i hi => ?_, ?_⟩⟩, Or.inl h17, Or.inl h18⟩
  · obtain ⟨a, b, c, d⟩ := h5 s hs
    exact ⟨a, b, c, d⟩
  · rw [told0_5] at hi; omega
  · rw [h7 i hi, tF_n i hi]; rfl
  · rw [told0_6] at hk; omega
  · rw [told0_5]; exact h8
  · rw [told0_6]; exact h9
  · rw [told0_5] at hi; omega
  · rw [told0_5]; exact h12
  · rw [told0_6]; exact h14
  · rw [told0_6]; exact h15
  · rw [told0_6] at hk; omega
  · rw [told0_5] at hi; omega
  · rw [told0_6]; exact h16
def R0ok (R : Mem) : Prop := R 0 0 0 = 0 ∧ R 0 0 1 = 0 ∧ (∀ i, i < 4 → R 0 8 i = tFirst i) ∧ R 0 9 0 = 0 ∧ R 0 32 0 = 0 ∧ (∀ s, s < 4 → R 0 36 s = 0 ∧ R 0 37 s = 0 ∧ R 0 38 s = 0 ∧ ∀ i, i < 60 → R 0 39 (60 * s + i) = 0) ∧ R 0 41 0 = 0
theorem RR_0 {R : Mem} (h : R0ok R) : RR R S0 := by
  obtain ⟨h1, h2, h3, h4, h5, h6, h7⟩ := h
  refine ⟨⟨h1, fun i hi => absurd hi (by decide +revert)⟩, ⟨h2, fun i hi => absurd hi (by decide +revert)⟩, fun j hj => ?_, ⟨h4, fun i hi => absurd hi (by decide +revert)⟩, ⟨h5, fun i hi => absurd hi (by decide +revert)⟩, fun s hs => ?_, h7⟩
  · rw [h3 j hj, tF_n j hj]
  · obtain ⟨a, b, c, d⟩ := h6 s hs
    exact ⟨a, b, c, d⟩
theorem Rel_0 {C R : Mem} (hc : C0ok C) (hr : R0ok R) : Rel C R := ⟨S0, okS_0, RC_0 hc, RR_0 hr⟩
