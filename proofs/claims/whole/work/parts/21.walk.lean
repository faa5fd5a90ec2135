/-! ===== the donkey's walk, in numbers: what is given, how things stand ===== -/
/-- what is given: rows 0 sort, 1 kind, 2 lure, 3 temper, 4 route; 5 heirs, 6 stops; stops with flies (bits); the one passed by -/
abbrev Cfg : Type := (Nat → Nat → Nat) × Int32 × Int32
/-- how things stand: rows 0 share, 1 fields, 2 left; 5 hunger, 6 kicks, 7 ditch, 8 did, 9 ate, 10 pull, 11 gain; who is out (bits) -/
abbrev Wk : Type := (Nat → Nat → Nat) × Int32
abbrev isO (x : Int32) (j : Nat) : Prop := ¬ ((x >>> (nI j &&& 31)) &&& (1 : Int32)) = 0
def sN (f : Nat → Nat) : Nat → Nat
  | 0 => 0
  | n + 1 => sN f n + f n
def dr (γ : Cfg) (k j : Nat) : Nat := (γ.1 3 1 + (if isO γ.2.1 k then 2 else 0) + (if γ.1 0 j = 2 then 2 else 0)) - (if γ.1 0 j = 1 then 1 else 0)
def bi (γ : Cfg) (w : Wk) (j : Nat) : Nat := min (w.1 2 j) (min (w.1 5 0) (γ.1 3 3))
def pu (γ : Cfg) (w : Wk) (j : Nat) : Nat := γ.1 1 j + bi γ w j
def gn (p b : Nat) : Nat := if 0 < b then min p 9 * 2 else min p 9
def mKick (γ : Cfg) (j : Nat) (w : Wk) : Wk :=
  (fun f i => if f = 0 then (if i = j then 0 else w.1 0 i) else if f = 1 then (if i = j then 0 else w.1 1 i) else if f = 6 then w.1 6 0 + 1 else if f = 7 then w.1 7 0 + w.1 0 j else if f = 8 then 1 else if f = 9 then 0 else if f = 10 then pu γ w j else if f = 11 then 0 else w.1 f i, w.2 ||| ((1 : Int32) <<< (nI j &&& 31)))
def mBack (γ : Cfg) (j : Nat) (w : Wk) : Wk :=
  (fun f i => if f = 0 then w.1 0 i / 2 else if f = 2 then (if i = j then w.1 2 j - bi γ w j else w.1 2 i) else if f = 5 then w.1 5 0 - bi γ w j else if f = 7 then w.1 7 0 + sN (fun i => w.1 0 i - w.1 0 i / 2) (γ.1 5 0) else if f = 8 then 2 else if f = 9 then bi γ w j else if f = 10 then pu γ w j else if f = 11 then 0 else w.1 f i, w.2)
def mStay (γ : Cfg) (j : Nat) (w : Wk) : Wk :=
  (fun f i => if f = 0 then (if i = j then w.1 0 j + gn (pu γ w j) (bi γ w j) else w.1 0 i) else if f = 1 then (if i = j then w.1 1 j + (if 9 ≤ pu γ w j then 1 else 0) else w.1 1 i) else if f = 2 then (if i = j then w.1 2 j - bi γ w j else w.1 2 i) else if f = 5 then w.1 5 0 - bi γ w j else if f = 8 then (if 9 ≤ pu γ w j then 4 else 3) else if f = 9 then bi γ w j else if f = 10 then pu γ w j else if f = 11 then gn (pu γ w j) (bi γ w j) else w.1 f i, w.2)
def mPass (w : Wk) : Wk := (fun f i => if f = 8 ∨ f = 9 ∨ f = 10 ∨ f = 11 then 0 else w.1 f i, w.2)
def mW (γ : Cfg) (k j : Nat) (w : Wk) : Wk := if pu γ w j < dr γ k j then mKick γ j w else if pu γ w j = γ.1 3 2 then mBack γ j w else mStay γ j w
abbrev act (γ : Cfg) (j : Nat) (w : Wk) : Prop := j < γ.1 5 0 ∧ ¬ nI j = γ.2.2 ∧ ¬ isO w.2 j
def hUp (w : Wk) : Wk := (fun f i => if f = 5 then min (w.1 5 0 + 1) 9 else w.1 f i, w.2)

def vW (γ : Cfg) (k j : Nat) (w : Wk) : Wk := hUp (if act γ j w then mW γ k j w else mPass w)
def w0 (γ : Cfg) : Wk := (fun f i => if f = 2 then γ.1 2 i else if f = 5 then γ.1 3 0 else 0, 0)
def stW (γ : Cfg) : Nat → Wk
  | 0 => w0 γ
  | k + 1 => vW γ k (γ.1 4 k) (stW γ k)
def okC (γ : Cfg) : Prop := γ.1 5 0 ≤ 8 ∧ γ.1 6 0 ≤ 20 ∧ (∀ i, i < γ.1 5 0 → γ.1 0 i ≤ 2 ∧ γ.1 1 i ≤ 9 ∧ γ.1 2 i ≤ 9) ∧ γ.1 3 0 ≤ 9 ∧ γ.1 3 1 ≤ 9 ∧ γ.1 3 2 ≤ 19 ∧ γ.1 3 3 ≤ 9 ∧ ∀ k, k < γ.1 6 0 → γ.1 4 k < 8
/-- bounds behind k stops -/
def Bd (γ : Cfg) (k : Nat) (w : Wk) : Prop := w.1 5 0 ≤ 9 ∧ w.1 6 0 ≤ k ∧ w.1 7 0 ≤ 144 * (k * k) ∧ (∀ i, i < γ.1 5 0 → w.1 0 i ≤ 18 * k ∧ w.1 1 i ≤ k ∧ w.1 2 i ≤ γ.1 2 i) ∧ w.1 8 0 ≤ 4 ∧ w.1 9 0 ≤ 9 ∧ w.1 10 0 ≤ 18 ∧ w.1 11 0 ≤ 18
theorem sN_le {f : Nat → Nat} {n b : Nat} (h : ∀ i, i < n → f i ≤ b) : sN f n ≤ n * b := by
  induction n with
  | zero => simp [sN]
  | succ n ih =>
    have h1 := ih (fun i hi => h i (by omega))
    have h2 := h n (by omega)
    show sN f n + f n ≤ _
    rw [Nat.succ_mul]
    omega
theorem sqS (k : Nat) : 144 * ((k + 1) * (k + 1)) = 144 * (k * k) + 288 * k + 144 := by
  have : (k + 1) * (k + 1) = k * k + 2 * k + 1 := by rw [Nat.add_mul, Nat.mul_add, Nat.one_mul, Nat.mul_one]; omega
  omega
theorem gn_le (p b : Nat) : gn p b ≤ 18 := by
  unfold gn
  split <;> omega
theorem Bd_0 {γ : Cfg} (h : okC γ) : Bd γ 0 (w0 γ) := by
  obtain ⟨h1, h2, h3, h4, h5, h6, h7, h8⟩ := h
  simp only [Bd, w0]
  simp [h4]
theorem Bd_mPass {γ : Cfg} {k : Nat} {w : Wk} (b : Bd γ k w) : Bd γ k (mPass w) := by
  obtain ⟨b1, b2, b3, b4, b5, b6, b7, b8⟩ := b
  simp only [Bd, mPass]
  simp [b1, b2, b3]
  exact b4
theorem Bd_mW {γ : Cfg} {k j : Nat} {w : Wk} (h : okC γ) (hj : j < γ.1 5 0) (b : Bd γ k w) : Bd γ (k + 1) (mW γ k j w) := by
  obtain ⟨h1, h2, h3, h4, h5, h6, h7, h8⟩ := h
  obtain ⟨b1, b2, b3, b4, b5, b6, b7, b8⟩ := b
  have hb1 : bi γ w j ≤ w.1 2 j := Nat.min_le_left _ _
  have hb2 : bi γ w j ≤ w.1 5 0 := Nat.le_trans (Nat.min_le_right _ _) (Nat.min_le_left _ _)
  have hp : pu γ w j ≤ 18 := by have := (h3 j hj).2.1; unfold pu; omega
  have hg := gn_le (pu γ w j) (bi γ w j)
  have hkk := sqS k
  have bj := b4 j hj
  unfold mW
  split
  · refine ⟨b1, by show w.1 6 0 + 1 ≤ _; omega, by show w.1 7 0 + w.1 0 j ≤ _; omega, fun i hi => ⟨?_, ?_, (b4 i hi).2.2⟩, by show 1 ≤ 4; omega, by show 0 ≤ 9; omega, hp, by show 0 ≤ 18; omega⟩
    · show (if i = j then 0 else w.1 0 i) ≤ _
      have := b4 i hi
      split <;> omega
    · show (if i = j then 0 else w.1 1 i) ≤ _
      have := b4 i hi
      split <;> omega
  · split
    · have hs : sN (fun i => w.1 0 i - w.1 0 i / 2) (γ.1 5 0) ≤ γ.1 5 0 * (18 * k) := sN_le (fun i hi => by have := b4 i hi; omega)
      have hs2 : γ.1 5 0 * (18 * k) ≤ 8 * (18 * k) := Nat.mul_le_mul_right _ h1
      refine ⟨by show w.1 5 0 - bi γ w j ≤ 9; omega, by show w.1 6 0 ≤ _; omega, by show w.1 7 0 + sN (fun i => w.1 0 i - w.1 0 i / 2) (γ.1 5 0) ≤ _; omega, fun i hi => ⟨?_, ?_, ?_⟩, by show 2 ≤ 4; omega, by show bi γ w j ≤ 9; omega, hp, by show 0 ≤ 18; omega⟩
      · show w.1 0 i / 2 ≤ _
        have := b4 i hi
        omega
      · show w.1 1 i ≤ _
        have := b4 i hi
        omega
      · show (if i = j then w.1 2 j - bi γ w j else w.1 2 i) ≤ _
        have := b4 i hi
        split
        · rename_i e; subst e; omega
        · omega
    · refine ⟨by show w.1 5 0 - bi γ w j ≤ 9; omega, by show w.1 6 0 ≤ _; omega, by show w.1 7 0 ≤ _; omega, fun i hi => ⟨?_, ?_, ?_⟩, ?_, by show bi γ w j ≤ 9; omega, hp, hg⟩
      · show (if i = j then w.1 0 j + gn (pu γ w j) (bi γ w j) else w.1 0 i) ≤ _
        have := b4 i hi
        split <;> omega
      · show (if i = j then w.1 1 j + (if 9 ≤ pu γ w j then 1 else 0) else w.1 1 i) ≤ _
        have := b4 i hi
        split
        · split <;> omega
        · omega
      · show (if i = j then w.1 2 j - bi γ w j else w.1 2 i) ≤ _
        have := b4 i hi
        split
        · rename_i e; subst e; omega
        · omega
      · show (if 9 ≤ pu γ w j then 4 else 3) ≤ 4
        split <;> omega
theorem Bd_up {γ : Cfg} {k : Nat} {w : Wk} (b : Bd γ k w) : Bd γ k (hUp w) := by
  obtain ⟨b1, b2, b3, b4, b5⟩ := b
  exact ⟨by show min (w.1 5 0 + 1) 9 ≤ 9; omega, b2, b3, b4, b5⟩
theorem Bd_le {γ : Cfg} {k : Nat} {w : Wk} (b : Bd γ k w) : Bd γ (k + 1) w := by
  obtain ⟨b1, b2, b3, b4, b5⟩ := b
  have hkk := sqS k
  refine ⟨b1, by omega, by omega, fun i hi => ?_, b5⟩
  have := b4 i hi
  omega
theorem Bd_vW {γ : Cfg} {k j : Nat} {w : Wk} (h : okC γ) (b : Bd γ k w) : Bd γ (k + 1) (vW γ k j w) := by
  unfold vW
  apply Bd_up
  split
  · rename_i ha
    exact Bd_mW h ha.1 b
  · exact Bd_le (Bd_mPass b)
theorem Bd_st {γ : Cfg} (h : okC γ) : ∀ k, Bd γ k (stW γ k)
  | 0 => Bd_0 h
  | k + 1 => Bd_vW h (Bd_st h k)
theorem Bd_20 {γ : Cfg} {k : Nat} {w : Wk} (b : Bd γ k w) (hk : k ≤ 20) : w.1 5 0 ≤ 9 ∧ w.1 6 0 ≤ 20 ∧ w.1 7 0 ≤ 57600 ∧ (∀ i, i < γ.1 5 0 → w.1 0 i ≤ 360 ∧ w.1 1 i ≤ 20 ∧ w.1 2 i ≤ γ.1 2 i) := by
  obtain ⟨b1, b2, b3, b4, b5⟩ := b
  have : k * k ≤ 20 * 20 := Nat.mul_le_mul hk hk
  refine ⟨b1, by omega, by omega, fun i hi => ?_⟩
  have := b4 i hi
  omega
/-! ===== the cells that hold them ===== -/
abbrev Ob : Type := Nat → Nat → Int32
/-- a Given holds what is given -/
def RG (g : Ob) (γ : Cfg) : Prop := (∀ i, i < γ.1 5 0 → g 0 i = nI (γ.1 0 i) ∧ g 1 i = nI (γ.1 1 i) ∧ g 2 i = nI (γ.1 2 i)) ∧ (∀ i, i < 4 → g 3 i = nI (γ.1 3 i)) ∧ (∀ k, k < γ.1 6 0 → g 4 k = nI (γ.1 4 k)) ∧ g 5 0 = nI (γ.1 5 0) ∧ g 6 0 = nI (γ.1 6 0) ∧ g 7 0 = γ.2.1 ∧ g 8 0 = γ.2.2
/-- a Walk holds how things stand (but what the last stop brought) -/
def RW (x : Ob) (γ : Cfg) (w : Wk) : Prop := (∀ i, i < γ.1 5 0 → x 0 i = nI (w.1 0 i) ∧ x 1 i = nI (w.1 1 i) ∧ x 2 i = nI (w.1 2 i)) ∧ x 3 0 = nI (γ.1 5 0) ∧ x 4 0 = w.2 ∧ x 5 0 = nI (w.1 5 0) ∧ x 6 0 = nI (w.1 6 0) ∧ x 7 0 = nI (w.1 7 0)
/-- what the last stop brought -/
def RV (x : Ob) (w : Wk) : Prop := x 8 0 = nI (w.1 8 0) ∧ x 9 0 = nI (w.1 9 0) ∧ x 10 0 = nI (w.1 10 0) ∧ x 11 0 = nI (w.1 11 0)
