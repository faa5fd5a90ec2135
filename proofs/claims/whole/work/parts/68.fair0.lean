/-! ===== the fairest row: in numbers ===== -/
theorem vW_o {γ : Cfg} {k j i : Nat} {w : Wk} (h : i ≠ j) : (vW γ k j w).1 0 i ≤ w.1 0 i := by
  unfold vW hUp
  dsimp only
  rw [if_neg (by decide)]
  split
  · unfold mW
    split
    · unfold mKick
      dsimp only
      rw [if_pos rfl, if_neg h]
      exact Nat.le_refl _
    · split
      · unfold mBack
        dsimp only
        rw [if_pos rfl]
        omega
      · unfold mStay
        dsimp only
        rw [if_pos rfl, if_neg h]
        exact Nat.le_refl _
  · unfold mPass
    dsimp only
    rw [if_neg (by decide)]
    exact Nat.le_refl _
def mg (γ : Cfg) (j : Nat) : Nat := gn (γ.1 1 j + min (γ.1 2 j) (min 9 (γ.1 3 3))) (min (γ.1 2 j) (min 9 (γ.1 3 3)))
theorem gn_mono {p q a b : Nat} (h1 : p ≤ q) (h2 : a ≤ b) : gn p a ≤ gn q b := by
  unfold gn
  split
  · split
    · omega
    · omega
  · split
    · omega
    · omega
theorem vW_j {γ : Cfg} {k j : Nat} {w : Wk} (h0 : w.1 0 j = 0) (h2 : w.1 2 j ≤ γ.1 2 j) (h5 : w.1 5 0 ≤ 9) : (vW γ k j w).1 0 j ≤ mg γ j := by
  unfold vW hUp
  dsimp only
  rw [if_neg (by decide)]
  split
  · unfold mW
    split
    · unfold mKick
      dsimp only
      rw [if_pos rfl, if_pos rfl]
      exact Nat.zero_le _
    · split
      · unfold mBack
        dsimp only
        rw [if_pos rfl, h0]
        exact Nat.zero_le _
      · unfold mStay
        dsimp only
        rw [if_pos rfl, if_pos rfl, h0, Nat.zero_add]
        unfold mg pu bi
        refine gn_mono ?_ ?_ <;> omega
  · unfold mPass
    dsimp only
    rw [if_neg (by decide), h0]
    exact Nat.zero_le _
theorem vW_cf {γ : Cfg} {p : List Nat} {k j : Nat} {w : Wk} : vW (cfR γ p) k j w = vW γ k j w := rfl
theorem w0_cf {γ : Cfg} {p : List Nat} : w0 (cfR γ p) = w0 γ := rfl
theorem cf_4 {γ : Cfg} {p : List Nat} {k : Nat} : (cfR γ p).1 4 k = p.getD k 0 := rfl
theorem cf_5 {γ : Cfg} {p : List Nat} {k : Nat} : (cfR γ p).1 5 k = γ.1 5 k := rfl
theorem cf_6 {γ : Cfg} {p : List Nat} {k : Nat} : (cfR γ p).1 6 k = γ.1 5 0 := rfl
theorem gD_l {p s : List Nat} {k d : Nat} (h : k < p.length) : (p ++ s).getD k d = p.getD k d := by
  rw [List.getD_eq_getElem?_getD, List.getD_eq_getElem?_getD, List.getElem?_append_left h]
theorem gD_r {p s : List Nat} {k d : Nat} (h : p.length ≤ k) : (p ++ s).getD k d = s.getD (k - p.length) d := by
  rw [List.getD_eq_getElem?_getD, List.getD_eq_getElem?_getD, List.getElem?_append_right h]
theorem st_ap {γ : Cfg} {p s : List Nat} : ∀ k, k ≤ p.length → stW (cfR γ (p ++ s)) k = stW (cfR γ p) k
  | 0, _ => rfl
  | k + 1, h => by
    rw [stW, stW, st_ap k (by omega), vW_cf, vW_cf, cf_4, cf_4, gD_l (by omega)]
/-- the walk along a row -/
def wp (γ : Cfg) (p : List Nat) : Wk := stW (cfR γ p) p.length
theorem wp_s {γ : Cfg} {p : List Nat} {x : Nat} : wp γ (p ++ [x]) = vW γ p.length x (wp γ p) := by
  unfold wp
  rw [List.length_append, List.length_singleton, stW, st_ap _ (Nat.le_refl _), vW_cf, cf_4, gD_r (Nat.le_refl _), Nat.sub_self]
  rfl
theorem okC_cf {γ : Cfg} (h : okC γ) {p : List Nat} (hp : ∀ x, x ∈ p → x < γ.1 5 0) : okC (cfR γ p) := by
  obtain ⟨h1, h2, h3, h4, h5, h6, h7, h8⟩ := h
  refine ⟨h1, show γ.1 5 0 ≤ 20 by omega, h3, h4, h5, h6, h7, fun k hk => ?_⟩
  rw [cf_4]
  by_cases hl : k < p.length
  · rw [List.getD_eq_getElem?_getD, List.getElem?_eq_getElem hl]
    have := hp _ (List.getElem_mem hl)
    show p[k] < 8
    omega
  · rw [List.getD_eq_getElem?_getD, List.getElem?_eq_none (by omega)]
    exact Nat.zero_lt_succ _
def lq (h : Nat) (q : Nat → Bool) : List Nat := (List.range h).filter q
theorem lq_s (h : Nat) (q : Nat → Bool) : lq (h + 1) q = if q h = true then lq h q ++ [h] else lq h q := by
  unfold lq
  rw [List.range_succ, List.filter_append]
  by_cases hq : q h = true
  · rw [if_pos hq, List.filter_cons_of_pos hq, List.filter_nil]
  · rw [if_neg hq, List.filter_cons_of_neg hq, List.filter_nil, List.append_nil]
theorem mem_lq {h x : Nat} {q : Nat → Bool} : x ∈ lq h q ↔ x < h ∧ q x = true := by
  unfold lq
  rw [List.mem_filter, List.mem_range]
def rmQ (q : Nat → Bool) (x : Nat) : Nat → Bool := fun y => (y != x) && q y
theorem rmQ_t {q : Nat → Bool} {x y : Nat} : rmQ q x y = true ↔ y ≠ x ∧ q y = true := by
  unfold rmQ
  rw [Bool.and_eq_true, bne_iff_ne]
theorem lq_er {h : Nat} {q : Nat → Bool} (x : Nat) : (lq h q).erase x = lq h (rmQ q x) := by
  have nd : (lq h q).Nodup := List.Pairwise.filter _ List.nodup_range
  rw [List.Nodup.erase_eq_filter nd]
  unfold lq
  rw [List.filter_filter]
  rfl
def hpN (γ : Cfg) (q : Nat → Bool) (w : Wk) : Nat → Nat
  | 0 => 18
  | n + 1 => min (hpN γ q w n) (if q n = true then mg γ n else w.1 0 n)
theorem hpN_le {γ : Cfg} {q : Nat → Bool} {w : Wk} : ∀ n, hpN γ q w n ≤ 18
  | 0 => Nat.le_refl _
  | n + 1 => Nat.le_trans (Nat.min_le_left _ _) (hpN_le n)
theorem hpN_mono {γ : Cfg} {q q' : Nat → Bool} {w w' : Wk} : ∀ n, (∀ i, i < n → (if q' i = true then mg γ i else w'.1 0 i) ≤ (if q i = true then mg γ i else w.1 0 i)) → hpN γ q' w' n ≤ hpN γ q w n
  | 0, _ => Nat.le_refl _
  | n + 1, h => by
    have h1 := hpN_mono (γ := γ) (q := q) (q' := q') (w := w) (w' := w') n (fun i hi => h i (by omega))
    have h2 := h n (by omega)
    rw [hpN, hpN]
    omega
theorem lsN_le {r : Nat → Nat} : ∀ n, lsN r n ≤ 1000
  | 0 => Nat.le_refl _
  | n + 1 => Nat.le_trans (Nat.min_le_left _ _) (lsN_le n)
theorem hp_ls {γ : Cfg} {q : Nat → Bool} {w : Wk} : ∀ n, 0 < n → (∀ i, i < n → ¬ q i = true) → (∀ i, i < n → w.1 0 i ≤ 18) → hpN γ q w n = lsN (w.1 0) n
  | 0, h, _, _ => absurd h (Nat.lt_irrefl 0)
  | n + 1, _, h, hw => by
    have h1 := hw n (by omega)
    rw [lsN, hpN, if_neg (h n (by omega))]
    by_cases h0 : n = 0
    · rw [h0] at h1 ⊢
      unfold lsN hpN
      omega
    · rw [hp_ls n (by omega) (fun i hi => h i (by omega)) (fun i hi => hw i (by omega))]
/-- where the search is -/
def FI (γ : Cfg) (n : Nat) (q : Nat → Bool) (p : List Nat) : Prop := p.length + n = γ.1 5 0 ∧ (lq (γ.1 5 0) q).length = n ∧ (∀ x, x ∈ p → x < γ.1 5 0) ∧ (∀ x, x < γ.1 5 0 → q x = true → (wp γ p).1 0 x = 0) ∧ ∀ x, x < γ.1 5 0 → (wp γ p).1 0 x ≤ 18
theorem wp_Bd {γ : Cfg} (hγ : okC γ) {p : List Nat} (hp : ∀ x, x ∈ p → x < γ.1 5 0) : Bd γ p.length (wp γ p) := Bd_st (okC_cf hγ hp) p.length
theorem FI_s {γ : Cfg} (hγ : okC γ) {n x : Nat} {q : Nat → Bool} {p : List Nat} (h : FI γ (n + 1) q p) (hx : x < γ.1 5 0) (hq : q x = true) : FI γ n (rmQ q x) (p ++ [x]) := by
  obtain ⟨h1, h2, h3, h4, h5⟩ := h
  refine ⟨by rw [List.length_append, List.length_singleton]; omega, ?_, fun y hy => ?_, fun y hy hqy => ?_, fun y hy => ?_⟩
  · rw [← lq_er x, List.length_erase_of_mem (mem_lq.mpr ⟨hx, hq⟩), h2]
    rfl
  · rcases List.mem_append.mp hy with z | z
    · exact h3 y z
    · rw [List.mem_singleton.mp z]; exact hx
  · obtain ⟨a, b⟩ := rmQ_t.mp hqy
    rw [wp_s]
    have := vW_o (γ := γ) (k := p.length) (w := wp γ p) a
    rw [h4 y hy b] at this
    omega
  · rw [wp_s]
    by_cases hyx : y = x
    · subst hyx
      have b := wp_Bd hγ h3
      exact Nat.le_trans (vW_j (h4 y hx hq) ((b.2.2.2.1 y hx).2.2) b.1) (gn_le _ _)
    · exact Nat.le_trans (vW_o hyx) (h5 y hy)
theorem hp_s {γ : Cfg} (hγ : okC γ) {n x : Nat} {q : Nat → Bool} {p : List Nat} (h : FI γ (n + 1) q p) (hx : x < γ.1 5 0) (hq : q x = true) : hpN γ (rmQ q x) (wp γ (p ++ [x])) (γ.1 5 0) ≤ hpN γ q (wp γ p) (γ.1 5 0) := by
  obtain ⟨h1, h2, h3, h4, _⟩ := h
  have b := wp_Bd hγ h3
  refine hpN_mono _ (fun i hi => ?_)
  rw [wp_s]
  by_cases hix : i = x
  · subst hix
    rw [if_neg (fun z => (rmQ_t.mp z).1 rfl), if_pos hq]
    exact vW_j (h4 i hx hq) ((b.2.2.2.1 i hx).2.2) b.1
  · by_cases hqi : q i = true
    · rw [if_pos (rmQ_t.mpr ⟨hix, hqi⟩), if_pos hqi]
      exact Nat.le_refl _
    · rw [if_neg (fun z => hqi (rmQ_t.mp z).2), if_neg hqi]
      exact vW_o hix
theorem foldl_id {α β : Type} {f : α → β → α} {u : α} : ∀ l : List β, (∀ x, x ∈ l → f u x = u) → l.foldl f u = u
  | [], _ => rfl
  | a :: l, h => by
    rw [List.foldl_cons, h a List.mem_cons_self]
    exact foldl_id l (fun x hx => h x (List.mem_cons_of_mem a hx))
theorem lq_0 {h : Nat} {q : Nat → Bool} (hl : (lq h q).length = 0) : ∀ i, i < h → ¬ q i = true := fun i hi hq => by
  have := mem_lq.mpr ⟨hi, hq⟩
  rw [List.eq_nil_of_length_eq_zero hl] at this
  exact absurd this List.not_mem_nil
theorem fair_id {γ : Cfg} (hγ : okC γ) (hh : 0 < γ.1 5 0) : ∀ (n : Nat) (q : Nat → Bool) (p : List Nat) (u : Nat × List Nat), FI γ n q p → hpN γ q (wp γ p) (γ.1 5 0) + 1 ≤ u.1 → fairF γ n (lq (γ.1 5 0) q) p u = u
  | 0, q, p, u, h, hu => by
    unfold fairF fstp
    have := hp_ls (γ := γ) (q := q) (w := wp γ p) (γ.1 5 0) hh (lq_0 h.2.1) h.2.2.2.2
    have e : valP γ p = lsN ((wp γ p).1 0) (γ.1 5 0) := by
      unfold valP wp
      rw [show p.length = γ.1 5 0 from by have := h.1; omega]
    rw [if_neg (by rw [e]; omega)]
  | n + 1, q, p, u, h, hu => by
    unfold fairF
    refine foldl_id _ (fun x hx => ?_)
    obtain ⟨hx1, hx2⟩ := mem_lq.mp hx
    rw [lq_er]
    have := hp_s hγ h hx1 hx2
    exact fair_id hγ hh n _ _ u (FI_s hγ h hx1 hx2) (by omega)
theorem fairF_le {γ : Cfg} : ∀ (n : Nat) (l p : List Nat) (u : Nat × List Nat), u.1 ≤ (fairF γ n l p u).1
  | 0, l, p, u => by
    unfold fairF fstp
    split
    · dsimp only
      omega
    · exact Nat.le_refl _
  | n + 1, l, p, u => by
    unfold fairF
    have key : ∀ (s : List Nat) (u : Nat × List Nat), u.1 ≤ (s.foldl (fun u x => fairF γ n (l.erase x) (p ++ [x]) u) u).1 := by
      intro s
      induction s with
      | nil => intro u; exact Nat.le_refl _
      | cons a s ih =>
        intro u
        rw [List.foldl_cons]
        exact Nat.le_trans (fairF_le n _ _ u) (ih _)
    exact key l u
theorem fairF_pos {γ : Cfg} : ∀ (n : Nat) (l p : List Nat) (u : Nat × List Nat), l.length = n → 0 < (fairF γ n l p u).1
  | 0, l, p, u, _ => by
    unfold fairF fstp
    split
    · exact Nat.zero_lt_succ _
    · omega
  | n + 1, [], p, u, h => absurd h (by simp)
  | n + 1, a :: l, p, u, h => by
    unfold fairF
    rw [List.foldl_cons]
    have h1 := fairF_pos (γ := γ) n ((a :: l).erase a) (p ++ [a]) u (by rw [List.erase_cons_head]; simpa using h)
    have key : ∀ (s t : List Nat) (u : Nat × List Nat), u.1 ≤ (s.foldl (fun u x => fairF γ n (t.erase x) (p ++ [x]) u) u).1 := by
      intro s t
      induction s with
      | nil => intro u; exact Nat.le_refl _
      | cons a s ih =>
        intro u
        rw [List.foldl_cons]
        exact Nat.le_trans (fairF_le n _ _ u) (ih _)
    exact Nat.lt_of_lt_of_le h1 (key l (a :: l) _)
theorem fairF_ub {γ : Cfg} : ∀ (n : Nat) (l p : List Nat) (u : Nat × List Nat), u.1 ≤ 1001 → (fairF γ n l p u).1 ≤ 1001
  | 0, l, p, u, h => by
    unfold fairF fstp
    split
    · dsimp only
      have := lsN_le (r := (stW (cfR γ p) (γ.1 5 0)).1 0) (γ.1 5 0)
      unfold valP
      omega
    · exact h
  | n + 1, l, p, u, h => by
    unfold fairF
    have key : ∀ (s : List Nat) (u : Nat × List Nat), u.1 ≤ 1001 → (s.foldl (fun u x => fairF γ n (l.erase x) (p ++ [x]) u) u).1 ≤ 1001 := by
      intro s
      induction s with
      | nil => intro u h; exact h
      | cons a s ih =>
        intro u h
        rw [List.foldl_cons]
        exact ih _ (fairF_ub n _ _ u h)
    exact key l u h
