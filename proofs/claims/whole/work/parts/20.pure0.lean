/-! ===== the pure part: what an answer is, and when it comes ===== -/
def Sp {α : Type} (x : Option α) (P : α → Prop) : Prop := ∃ z, x = some z ∧ P z
theorem sp_some {α : Type} {z : α} {P : α → Prop} : Sp (some z) P ↔ P z := ⟨fun ⟨y, h, hp⟩ => by cases h; exact hp, fun h => ⟨z, rfl, h⟩⟩
theorem sp_gd {α : Type} {c : Prop} [Decidable c] {x : Option α} {P : α → Prop} : Sp (gd c x) P ↔ c ∧ Sp x P := by
  constructor
  · rintro ⟨z, h, hp⟩
    obtain ⟨hc, hx⟩ := gd_x h
    exact ⟨hc, z, hx, hp⟩
  · rintro ⟨hc, z, hx, hp⟩
    exact ⟨z, by unfold gd; rw [if_pos hc, hx], hp⟩
theorem sp_nm {α β : Type} {e : α} {k : α → Option β} {P : β → Prop} : Sp (nm e k) P ↔ Sp (k e) P := ⟨fun h => h, fun h => h⟩
theorem sp_bind {α β : Type} {x : Option α} {k : α → Option β} {P : β → Prop} : Sp (x.bind k) P ↔ Sp x (fun y => Sp (k y) P) := by
  constructor
  · rintro ⟨z, h, hp⟩
    obtain ⟨y, hy, hk⟩ := bd_x h
    exact ⟨y, hy, z, hk, hp⟩
  · rintro ⟨y, hy, z, hk, hp⟩
    exact ⟨z, by rw [hy]; exact hk, hp⟩
theorem sp_ite {α : Type} {c : Prop} [Decidable c] {x y : Option α} {P : α → Prop} : Sp (if c then x else y) P ↔ (c → Sp x P) ∧ (¬ c → Sp y P) := by
  by_cases hc : c
  · rw [if_pos hc]
    exact ⟨fun h => ⟨fun _ => h, fun n => absurd hc n⟩, fun h => h.1 hc⟩
  · rw [if_neg hc]
    exact ⟨fun h => ⟨fun n => absurd n hc, fun _ => h⟩, fun h => h.2 hc⟩
theorem sp_inr {σ ρ : Type} {x : Option ρ} {P : σ ⊕ ρ → Prop} : Sp (inr' x) P ↔ Sp x (fun r => P (.inr r)) := by
  constructor
  · rintro ⟨z, h, hp⟩
    obtain ⟨r, hr, rfl⟩ := inr_x h
    exact ⟨r, hr, hp⟩
  · rintro ⟨r, hr, hp⟩
    exact ⟨.inr r, by rw [hr]; rfl, hp⟩
theorem Sp.mono {α : Type} {x : Option α} {P Q : α → Prop} (h : Sp x P) (hPQ : ∀ z, P z → Q z) : Sp x Q := by
  obtain ⟨z, hz, hp⟩ := h
  exact ⟨z, hz, hPQ z hp⟩
theorem Sp.of {α : Type} {x : Option α} {z : α} {P : α → Prop} (h : x = some z) (hp : P z) : Sp x P := ⟨z, h, hp⟩
def lpP {σ ρ : Type} (I : σ → Prop) (P : ρ → Prop) : σ ⊕ ρ → Prop
  | .inl s => I s
  | .inr r => P r
theorem lpP_l {σ ρ : Type} {I : σ → Prop} {P : ρ → Prop} {s : σ} : lpP I P (.inl s) ↔ I s := Iff.rfl
theorem lpP_r {σ ρ : Type} {I : σ → Prop} {P : ρ → Prop} {r : ρ} : lpP I P (.inr r) ↔ P r := Iff.rfl
theorem lp_meas {σ ρ : Type} {body : σ → Option (σ ⊕ ρ)} {P : ρ → Prop} (I : σ → Prop) (μ : σ → Nat) (hs : ∀ s, I s → Sp (body s) (lpP (fun s' => I s' ∧ μ s' < μ s) P)) : ∀ (n : Nat) (s : σ), I s → μ s < n → Sp (lpO body n s) P := by
  intro n
  induction n with
  | zero => intro s _ h; exact absurd h (Nat.not_lt_zero _)
  | succ n ih =>
    intro s hI hm
    obtain ⟨y, hy, hp⟩ := hs s hI
    cases y with
    | inl s' =>
      obtain ⟨hI', hlt⟩ := hp
      obtain ⟨z, hz, hP⟩ := ih s' hI' (by omega)
      exact ⟨z, by unfold lpO; rw [hy]; exact hz, hP⟩
    | inr r => exact ⟨r, by unfold lpO; rw [hy]; rfl, hp⟩
/-- a loop that counts: before round i the invariant I i; it may end early -/
theorem lp_for {σ ρ : Type} {body : σ → Option (σ ⊕ ρ)} {P : ρ → Prop} (I : Nat → σ → Prop) (N : Nat) (hN : N < 100000) (hs : ∀ i s, i < N → I i s → Sp (body s) (lpP (I (i + 1)) P)) (hx : ∀ s, I N s → Sp (body s) (lpP (fun _ => False) P)) {i0 : Nat} {s0 : σ} (hi : i0 ≤ N) (h0 : I i0 s0) : Sp (lpO body FU s0) P := by
  have key : ∀ (k n i : Nat) (s : σ), N - i = k → i ≤ N → k < n → I i s → Sp (lpO body n s) P := by
    intro k
    induction k with
    | zero =>
      intro n i s hk hle hn hI
      have : i = N := by omega
      subst this
      obtain ⟨y, hy, hp⟩ := hx s hI
      cases n with
      | zero => exact absurd hn (Nat.not_lt_zero _)
      | succ n =>
        cases y with
        | inl s' => exact absurd hp id
        | inr r => exact ⟨r, by unfold lpO; rw [hy]; rfl, hp⟩
    | succ k ih =>
      intro n i s hk hle hn hI
      obtain ⟨y, hy, hp⟩ := hs i s (by omega) hI
      cases n with
      | zero => exact absurd hn (Nat.not_lt_zero _)
      | succ n =>
        cases y with
        | inl s' =>
          obtain ⟨z, hz, hP⟩ := ih n (i + 1) s' (by omega) (by omega) (by omega) hp
          exact ⟨z, by unfold lpO; rw [hy]; exact hz, hP⟩
        | inr r => exact ⟨r, by unfold lpO; rw [hy]; rfl, hp⟩
  exact key (N - i0) FU i0 s0 rfl hi (by show N - i0 < 100000; omega) h0
theorem lp_while {σ ρ : Type} {body : σ → Option (σ ⊕ ρ)} {P : ρ → Prop} (I : σ → Prop) (μ : σ → Nat) (hs : ∀ s, I s → Sp (body s) (lpP (fun s' => I s' ∧ μ s' < μ s) P)) {s : σ} (hI : I s) (hm : μ s < 100000) : Sp (lpO body FU s) P := lp_meas I μ hs FU s hI hm
theorem wr_ap (M : Mem) (o f i : Nat) (v : Int32) (o' f' i' : Nat) : wr M o f i v o' f' i' = if o' = o ∧ f' = f ∧ i' = i then v else M o' f' i' := by
  unfold wr wrow upd
  by_cases h : o' = o ∧ f' = f
  · obtain ⟨rfl, rfl⟩ := h
    simp
  · rw [if_neg h, if_neg (fun z => h ⟨z.1, z.2.1⟩)]
theorem wr_ob (M : Mem) (o f i : Nat) (v : Int32) {o' : Nat} (h : o' ≠ o) : wr M o f i v o' = M o' := by
  funext f' i'
  rw [wr_ap, if_neg (fun z => h z.1)]
theorem wr_row (M : Mem) (o f i : Nat) (v : Int32) {o' f' : Nat} (h : ¬ (o' = o ∧ f' = f)) : wr M o f i v o' f' = M o' f' := by
  funext i'
  rw [wr_ap, if_neg (fun z => h ⟨z.1, z.2.1⟩)]
theorem cp_ap (M : Mem) (o f o' f' sp dp n x y i : Nat) : cpM M o f o' f' sp dp n x y i = if x = o' ∧ y = f' then (if dp ≤ i ∧ i < dp + n then M o f (sp + (i - dp)) else M o' f' i) else M x y i := by
  unfold cpM wrow va_cpy
  by_cases h : x = o' ∧ y = f'
  · rw [if_pos h, if_pos h]
  · rw [if_neg h, if_neg h]
theorem cp_ob (M : Mem) (o f o' f' sp dp n : Nat) {x : Nat} (h : x ≠ o') : cpM M o f o' f' sp dp n x = M x := by
  funext y i
  rw [cp_ap, if_neg (fun z => h z.1)]
theorem inB_nI {j n : Nat} (hj : j < 2147483648) : inB (nI j) n ↔ j < n := by
  unfold inB
  rw [nI_clamp hj]
  have := nI_pos (n := j) hj
  constructor
  · intro h; exact Nat.not_le.mp fun q => h (Or.inr q)
  · intro h q; rcases q with q | q
    · exact this q
    · omega
theorem il0 : (0 : Int32) = nI 0 := rfl
theorem il1 : (1 : Int32) = nI 1 := rfl
theorem il2 : (2 : Int32) = nI 2 := rfl
theorem il3 : (3 : Int32) = nI 3 := rfl
theorem il4 : (4 : Int32) = nI 4 := rfl
theorem il5 : (5 : Int32) = nI 5 := rfl
theorem il6 : (6 : Int32) = nI 6 := rfl
theorem il7 : (7 : Int32) = nI 7 := rfl
theorem il8 : (8 : Int32) = nI 8 := rfl
theorem il9 : (9 : Int32) = nI 9 := rfl
theorem il10 : (10 : Int32) = nI 10 := rfl
theorem il15 : (15 : Int32) = nI 15 := rfl
theorem il16 : (16 : Int32) = nI 16 := rfl
theorem il19 : (19 : Int32) = nI 19 := rfl
theorem il20 : (20 : Int32) = nI 20 := rfl
theorem il31 : (31 : Int32) = nI 31 := rfl
theorem il60 : (60 : Int32) = nI 60 := rfl
theorem il63 : (63 : Int32) = nI 63 := rfl
theorem cl0 : Int32.toNatClampNeg 0 = 0 := by decide
theorem cl1 : Int32.toNatClampNeg 1 = 1 := by decide
theorem cl2 : Int32.toNatClampNeg 2 = 2 := by decide
theorem cl3 : Int32.toNatClampNeg 3 = 3 := by decide
theorem cl8 : Int32.toNatClampNeg 8 = 8 := by decide
theorem cl20 : Int32.toNatClampNeg 20 = 20 := by decide
theorem clN4 : Int32.toNatClampNeg (nI 4) = 4 := by decide
theorem imin_nI {a b : Nat} (ha : a < 2147483648) (hb : b < 2147483648) : imin (nI a) (nI b) = nI (min a b) := by
  unfold imin
  by_cases h : b < a
  · rw [if_pos ((nI_ltI hb ha).mpr h), Nat.min_eq_right (by omega)]
  · rw [if_neg (fun q => h ((nI_ltI hb ha).mp q)), Nat.min_eq_left (by omega)]
theorem imax_nI {a b : Nat} (ha : a < 2147483648) (hb : b < 2147483648) : imax (nI a) (nI b) = nI (max a b) := by
  unfold imax
  by_cases h : a < b
  · rw [if_pos ((nI_ltI ha hb).mpr h), Nat.max_eq_right (by omega)]
  · rw [if_neg (fun q => h ((nI_ltI ha hb).mp q)), Nat.max_eq_left (by omega)]
/-- nothing but the object o has changed -/
def frO (o : Nat) (M M' : Mem) : Prop := ∀ o', o' ≠ o → M' o' = M o'
theorem frO.rf {o : Nat} {M : Mem} : frO o M M := fun _ _ => rfl
theorem frO.tr {o : Nat} {M M' M2 : Mem} (h : frO o M M') (h2 : frO o M' M2) : frO o M M2 := fun x hx => (h2 x hx).trans (h x hx)

theorem frO.put {o : Nat} {M M' : Mem} (h : frO o M M') (f i : Nat) (v : Int32) : frO o M (wr M' o f i v) := h.tr (fun _ q => wr_ob M' o f i v q)
