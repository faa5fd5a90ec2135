/-! ===== numbers as arguments ===== -/
def outI (a : Int32) (n : Nat) : Prop := a < 0 ∨ nI n ≤ a
theorem ixI (a : Int32) {n : Nat} (hn : n < 2147483648) : outI a n ∨ ∃ j : Nat, j < n ∧ a = nI j := by
  rcases pk_ix a (n := n) hn with h | h | h
  · exact Or.inl (Or.inl h)
  · exact Or.inl (Or.inr h)
  · exact Or.inr h
theorem nI_lt_of_le {a : Int32} {n : Nat} (h : nI (n + 1) ≤ a) (hn : n < 2147483647) : nI n < a := by
  have h1 : nI n < nI (n + 1) := nI_lt (by omega) (by omega)
  rw [Int32.lt_iff_toInt_lt] at h1 ⊢
  rw [Int32.le_iff_toInt_le] at h
  omega
theorem w_0 {a : Int32} {n : Nat} (h : outI a (n + 1)) (hn : n < 2147483647) : fX9_within a (nI n) = some 0 := by
  unfold fX9_within
  rcases h with h | h
  · rw [if_pos h]
  · by_cases h0 : a < 0
    · rw [if_pos h0]
    · rw [if_neg h0, if_pos (nI_lt_of_le h hn)]
theorem w_1 {j n : Nat} (h : j ≤ n) (hn : n < 2147483647) : fX9_within (nI j) (nI n) = some 1 := by
  unfold fX9_within
  rw [if_neg (nI_pos (by omega)), if_neg (nI_nlt h (by omega))]
theorem in_0 {a : Int32} {n : Nat} (h : outI a (n + 1)) (hn : n < 2147483647) : fX10_in a 0 (nI n) = some 0 := by
  rw [md_in]
  rcases h with h | h
  · rw [if_neg (fun z => z.1 h)]
  · rw [if_neg (fun z => z.2 (nI_lt_of_le h hn))]
theorem in_1 {j n : Nat} (h : j ≤ n) (hn : n < 2147483647) : fX10_in (nI j) 0 (nI n) = some 1 := by
  rw [md_in, if_pos ⟨nI_pos (by omega), nI_nlt h (by omega)⟩]
theorem inH_0 {a : Int32} {n : Nat} (h : outI a n) (hn : n < 2147483647) : fX10_in a 0 (nI n - (1 : Int32)) = some 0 := by
  cases n with
  | zero =>
    rw [md_in]
    have e : nI 0 - (1 : Int32) = -1 := by decide
    rw [e]
    by_cases h0 : a < 0
    · rw [if_neg (fun z => z.1 h0)]
    · have hlt : (-1 : Int32) < a := by
        rw [Int32.lt_iff_toInt_lt] at h0 ⊢
        have e1 : (-1 : Int32).toInt = -1 := by decide
        have e2 : (0 : Int32).toInt = 0 := by decide
        omega
      rw [if_neg (fun z => z.2 hlt)]
  | succ n => rw [nI_pred]; exact in_0 h (by omega)
theorem inH_1 {j n : Nat} (h : j < n) (hn : n < 2147483647) : fX10_in (nI j) 0 (nI n - (1 : Int32)) = some 1 := by
  cases n with
  | zero => exact absurd h (Nat.not_lt_zero _)
  | succ n => rw [nI_pred]; exact in_1 (by omega) (by omega)
theorem h_0 {M : Mem} {a : Int32} {n : Nat} (e : M 3 5 0 = nI n) (h : outI a n) : fX9_isHeir M a = some 0 := by
  unfold fX9_isHeir
  rw [e]
  rcases h with h | h
  · rw [if_pos h]
  · by_cases h0 : a < 0
    · rw [if_pos h0]
    · rw [if_neg h0, if_pos h]
theorem h_1 {M : Mem} {j n : Nat} (e : M 3 5 0 = nI n) (h : j < n) (hn : n < 2147483648) : fX9_isHeir M (nI j) = some 1 := by
  unfold fX9_isHeir
  rw [e, if_neg (nI_pos (by omega)), if_neg (nI_ge h (by omega))]
/-! ===== one call on both sides ===== -/
def Rel (C R : Mem) : Prop := ∃ S, okS S ∧ RC C S ∧ RR R S
theorem op_rw {ρ : Type} {x y : Option (ρ × Mem)} {S' : St} {r : ρ} (hS : okS S') (hc : Sp x (fun z => z.1 = r ∧ RC z.2 S')) (hm : Sp y (fun z => z.1 = r ∧ RR z.2 S')) : ∃ (r : ρ) (C' R' : Mem), x = some (r, C') ∧ y = some (r, R') ∧ Rel C' R' := by
  obtain ⟨⟨z1, z2⟩, hz, rfl, hz2⟩ := hc
  obtain ⟨⟨y1, y2⟩, hy, h1, hy2⟩ := hm
  dsimp only at h1
  subst h1
  exact ⟨_, _, _, hz, hy, S', hS, hz2, hy2⟩
theorem op_ro {ρ : Type} {C : Mem} {x : Option ρ} {y : Option (ρ × Mem)} {S : St} {r : ρ} (hS : okS S) (hC : RC C S) (hc : x = some r) (hm : Sp y (fun z => z.1 = r ∧ RR z.2 S)) : ∃ (r : ρ) (R' : Mem), x = some r ∧ y = some (r, R') ∧ Rel C R' := by
  obtain ⟨⟨y1, y2⟩, hy, h1, hy2⟩ := hm
  dsimp only at h1
  subst h1
  exact ⟨_, _, hc, hy, S, hS, hC, hy2⟩
def uN (g : Nat → Nat) (k v : Nat) : Nat → Nat := fun i => if i = k then v else g i
def sU (S : St) (f : Nat) (g : Nat → Nat) : St := (fun f' => if f' = f then g else S.1 f', S.2)
theorem sU1 (S : St) (f : Nat) (g : Nat → Nat) (f' : Nat) : (sU S f g).1 f' = if f' = f then g else S.1 f' := rfl
theorem sU2 (S : St) (f : Nat) (g : Nat → Nat) : (sU S f g).2 = S.2 := rfl
theorem cl_retell {M : Mem} {S : St} (hS : okS S) (ht : RT M S) (hg : RG (M 3) (told S)) : Sp (fX9_retell M) (fun M' => RC M' S ∧ frS [0, 4, 5] M M') := by
  unfold fX9_retell
  simp only [sp_gd, sp_nm, sp_bind, sp_ite, sp_some, sp_inr]
  refine (cl_tell (okC_told hS) hg (by decide) (by decide)).mono (fun M1 ⟨f1, f2, f3⟩ => ?_)
  have fr : frS [0, 4, 5] M (wr (wr M1 0 11 0 0) 0 12 0 0) := by
    intro o ho
    have ho' := ho
    simp at ho'
    rw [wr_ob _ _ _ _ _ ho'.1, wr_ob _ _ _ _ _ ho'.1]
    exact f3 o (by simp; exact ho'.2)
  refine ⟨⟨ht.fr (fun o ho => fr o (by simp at ho ⊢; omega)) ?_, ⟨?_, ?_, ?_⟩, Or.inl ?_, Or.inl ?_⟩, fr⟩
  · rw [wr_row _ _ _ _ _ (by decide), wr_row _ _ _ _ _ (by decide), f3 0 (by decide)]
  · rw [fr 3 (by decide)]; exact hg
  · rw [wr_ob _ _ _ _ _ (by decide), wr_ob _ _ _ _ _ (by decide)]; exact f1.s
  · rw [wr_ob _ _ _ _ _ (by decide), wr_ob _ _ _ _ _ (by decide)]; exact f2
  · simp [wr_ap]
  · simp [wr_ap]
theorem cl_take0 {M : Mem} {S : St} (hS : okS S) (ht : RT M S) (g2 : ∀ i, i < 4 → M 3 3 i = nI (S.1 3 i)) (g3 : ∀ k, k < (told S).1 6 0 → M 3 4 k = nI ((told S).1 4 k)) (g5 : M 3 6 0 = nI ((told S).1 6 0)) (g6 : M 3 7 0 = (told S).2.1) (g7 : M 3 8 0 = -1) : Sp (fX9_takeText M 0) (fun M' => RC M' S ∧ frS [0, 3, 4, 5] M M') := by
  unfold fX9_takeText
  simp only [sp_gd, sp_nm, sp_bind, sp_ite, sp_some, sp_inr]
  refine ⟨fun _ => ?_, fun h => absurd trivial h⟩
  refine (cl_takeH (o := 3) (t := S.1 0) (a := S.1 2 0) (by decide) hS.1.1 ht.1.1 ht.1.2 hS.1.2).mono (fun M1 ⟨⟨f1, f1'⟩, f2, f3⟩ => ?_)
  refine (cl_retell hS (ht.fr (fun o ho => f1 o (by simp at ho; omega)) (by rw [f1 0 (by decide)])) ⟨f3, fun i hi => ?_, fun k hk => ?_, f2, ?_, ?_, ?_⟩).mono (fun M2 ⟨t1, t2⟩ => ⟨t1, fun o ho => ?_⟩)
  · rw [f1' 3 (by decide)]; exact g2 i hi
  · rw [f1' 4 (by decide)]; exact g3 k hk
  · rw [f1' 6 (by decide)]; exact g5
  · rw [f1' 7 (by decide)]; exact g6
  · rw [f1' 8 (by decide)]; exact g7
  · simp at ho
    rw [t2 o (by simp; omega), f1 o ho.2.1]
theorem cl_take1 {M : Mem} {S : St} (hS : okS S) (ht : RT M S) (g1 : ∀ i, i < (told S).1 5 0 → M 3 0 i = nI ((told S).1 0 i) ∧ M 3 1 i = nI ((told S).1 1 i) ∧ M 3 2 i = nI ((told S).1 2 i)) (g2 : ∀ i, i < 4 → M 3 3 i = nI (S.1 3 i)) (g4 : M 3 5 0 = nI ((told S).1 5 0)) (g6 : M 3 7 0 = (told S).2.1) (g7 : M 3 8 0 = -1) : Sp (fX9_takeText M 1) (fun M' => RC M' S ∧ frS [0, 3, 4, 5] M M') := by
  unfold fX9_takeText
  simp only [sp_gd, sp_nm, sp_bind, sp_ite, sp_some, sp_inr]
  refine ⟨fun h => absurd h (by decide), fun _ => ?_⟩
  refine (cl_takeR (o := 3) (t := S.1 1) (a := S.1 2 1) (by decide) hS.2.1.1 ht.2.1.1 ht.2.1.2 hS.2.1.2).mono (fun M1 ⟨⟨f1, f1'⟩, f2, f3⟩ => ?_)
  refine (cl_retell hS (ht.fr (fun o ho => f1 o (by simp at ho; omega)) (by rw [f1 0 (by decide)])) ⟨fun i hi => ?_, fun i hi => ?_, f3, ?_, f2, ?_, ?_⟩).mono (fun M2 ⟨t1, t2⟩ => ⟨t1, fun o ho => ?_⟩)
  · rw [f1' 0 (by decide), f1' 1 (by decide), f1' 2 (by decide)]; exact g1 i hi
  · rw [f1' 3 (by decide)]; exact g2 i hi
  · rw [f1' 5 (by decide)]; exact g4
  · rw [f1' 7 (by decide)]; exact g6
  · rw [f1' 8 (by decide)]; exact g7
  · simp at ho
    rw [t2 o (by simp; omega), f1 o ho.2.1]
theorem isT_0 : fX9_isText 0 = some 1 := by unfold fX9_isText; rw [if_pos rfl]
theorem isT_1 : fX9_isText 1 = some 1 := by unfold fX9_isText; rw [if_neg (by decide), if_pos rfl]
theorem isT_n {a : Int32} (h0 : ¬ a = 0) (h1 : ¬ a = 1) : fX9_isText a = some 0 := by unfold fX9_isText; rw [if_neg h0, if_neg h1]
theorem mT_0 : fX10_isText 0 = some 1 := by decide +kernel
theorem mT_1' : fX10_isText 1 = some 1 := by decide +kernel
theorem mT_n {a : Int32} (h0 : ¬ a = 0) (h1 : ¬ a = 1) : fX10_isText a = some 0 := by
  have : fX10_in a 0 1 = some 0 := by
    rcases ixI a (n := 2) (by omega) with h | ⟨j, hj, rfl⟩
    · exact in_0 (n := 1) h (by omega)
    · rcases (show j = 0 ∨ j = 1 by omega) with rfl | rfl
      · exact absurd rfl h0
      · exact absurd rfl h1
  have r : Sp (fX10_isText a) (fun z => z = 0) := by
    unfold fX10_isText
    simp only [sp_gd, sp_nm, sp_bind, sp_ite, sp_some, sp_inr]
    exact Sp.of this ⟨Or.inl rfl, rfl⟩
  obtain ⟨z, hz, rfl⟩ := r
  exact hz
