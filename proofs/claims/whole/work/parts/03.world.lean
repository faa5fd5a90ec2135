/-! ===== the memory of a world of fixed shape: objects by number, fields by number, places ===== -/
abbrev Mem : Type := Nat → Nat → Nat → Int32
def wrow (M : Mem) (o f : Nat) (g : Nat → Int32) : Mem := fun o' f' => if o' = o ∧ f' = f then g else M o' f'
def wr (M : Mem) (o f i : Nat) (v : Int32) : Mem := wrow M o f (upd (M o f) i v)
/-- a cell: (object, 0, number of its class, 0); (object, 1 ints | 2 booleans, field, length); (object, 3 | 4 .., first object, length) -/
abbrev Ge : Type := Nat × Nat × Nat × Nat
def cO (G : List Ge) (o : Nat) : Nat := G.findIdx (fun q => q.1 == o && q.2.1 == 0)
def lay (ci : Nat) : List (Nat × Nat) := match ci with
  | 0 => [(1, 1), (1, 2), (1, 3), (0, 3)]
  | 1 => [(1, 1), (0, 1)]
  | 2 => [(1, 1), (1, 2), (1, 3), (1, 4), (1, 5), (0, 5), (0, 6), (0, 7), (0, 8)]
  | 3 => [(1, 1), (0, 1)]
  | 4 => [(1, 1), (0, 1), (0, 2), (0, 3)]
  | 5 => [(2, 5), (1, 1), (1, 2), (1, 3), (1, 4), (1, 5), (1, 6), (1, 7), (0, 8)]
  | 6 => [(2, 7), (2, 8), (1, 1)]
  | 7 => [(1, 1), (1, 2), (1, 3), (0, 3), (0, 4), (0, 5), (0, 6), (0, 7), (0, 8), (0, 9), (0, 10), (0, 11)]
  | 8 => [(1, 1), (1, 2), (0, 2)]
  | 9 => [(2, 1), (2, 2), (2, 3), (2, 4), (2, 6), (2, 9), (2, 10), (2, 11), (1, 1), (1, 2), (1, 3), (0, 11), (0, 12), (0, 13)]
  | 10 => [(1, 1), (1, 2), (0, 2), (1, 3), (1, 4), (1, 5), (0, 6), (1, 6), (1, 7), (0, 9), (1, 8), (0, 11), (1, 9), (0, 13), (0, 14), (0, 15), (0, 16), (0, 17), (0, 18), (0, 19), (1, 10), (1, 11), (1, 12), (0, 23), (1, 13), (1, 14), (1, 15), (1, 16), (1, 17), (1, 18), (1, 19), (1, 20), (0, 32), (1, 21), (1, 22), (1, 23), (1, 24), (1, 25), (1, 26), (1, 27), (1, 28), (0, 41)]
  | _ => []
def fv (ad : Nat → Nat) (G : List Ge) (M : Mem) (o k : Nat) (e : Nat × Nat) : Value := if e.1 = 0 then .int (M o e.2 0) else if e.1 = 1 then .ref (ad (k + e.2)) else .ref (ad (cO G e.2))
def ent (ad : Nat → Nat) (cs : Nat → ClassId) (G : List Ge) (M : Mem) (k : Nat) (q : Ge) : va_E :=
  if q.2.1 = 0 then .inr (q.2.2.1, (lay q.2.2.1).map (fv ad G M q.1 k))
  else if q.2.1 = 1 ∨ q.2.1 = 2 then .inl (cs q.2.1, q.2.2.2, .inl (M q.1 q.2.2.1))
  else .inl (cs q.2.1, q.2.2.2, .inr (.inr (.inr (.inr fun i => some (ad (cO G (q.2.2.1 + i)))))))
def wd (ad : Nat → Nat) (cs : Nat → ClassId) (G : List Ge) (M : Mem) : va_W := G.mapIdx (fun k q => (ad k, ent ad cs G M k q))
def keys (q : Ge) : List (Nat × Nat) :=
  if q.2.1 = 0 then (lay q.2.2.1).filterMap (fun e => if e.1 = 0 then some (q.1, e.2) else none)
  else if q.2.1 = 1 ∨ q.2.1 = 2 then [(q.1, q.2.2.1)] else []
def okG (G : List Ge) : Bool := (List.range G.length).all fun i => (List.range G.length).all fun j => i == j || (keys (G.getD i (0, 3, 0, 0))).all fun x => !(keys (G.getD j (0, 3, 0, 0))).contains x
def okL (ci : Nat) : Bool := (List.range (lay ci).length).all fun i => ((lay ci).getD i (1, 0)).1 != 0 || ((lay ci).getD i (1, 0)).2 == i
theorem wd_at {ad : Nat → Nat} {cs : Nat → ClassId} {G : List Ge} {M : Mem} {k : Nat} {q : Ge} (h : G[k]? = some q) : (wd ad cs G M)[k]? = some (ad k, ent ad cs G M k q) := by
  simp [wd, List.getElem?_mapIdx, h]
theorem wrow_ne {M : Mem} {o f o' f' : Nat} {g : Nat → Int32} (h : ¬ (o' = o ∧ f' = f)) : wrow M o f g o' f' = M o' f' := by
  simp only [wrow, if_neg h]
theorem wrow_eq {M : Mem} {o f : Nat} {g : Nat → Int32} : wrow M o f g o f = g := by
  simp only [wrow, and_self, if_true]
theorem ent_other {ad : Nat → Nat} {cs : Nat → ClassId} {G : List Ge} {M : Mem} {k : Nat} {q : Ge} {o f : Nat} {g : Nat → Int32} (h : (o, f) ∉ keys q) : ent ad cs G (wrow M o f g) k q = ent ad cs G M k q := by
  obtain ⟨o', t, a, n⟩ := q
  unfold ent
  unfold keys at h
  dsimp only at h ⊢
  by_cases h0 : t = 0
  · rw [if_pos h0] at h ⊢
    rw [if_pos h0]
    have e : List.map (fv ad G (wrow M o f g) o' k) (lay a) = List.map (fv ad G M o' k) (lay a) := by
      apply List.map_congr_left
      intro e he
      unfold fv
      by_cases h1 : e.1 = 0
      · rw [if_pos h1, if_pos h1, wrow_ne]
        rintro ⟨rfl, h2⟩
        exact h (List.mem_filterMap.mpr ⟨e, he, by rw [if_pos h1, h2]⟩)
      · rw [if_neg h1, if_neg h1]
    rw [e]
  · rw [if_neg h0] at h ⊢
    rw [if_neg h0]
    by_cases h1 : t = 1 ∨ t = 2
    · rw [if_pos h1] at h ⊢
      rw [if_pos h1, wrow_ne]
      rintro ⟨rfl, rfl⟩
      exact h (List.mem_singleton.mpr rfl)
    · rw [if_neg h1, if_neg h1]
theorem okG_sep {G : List Ge} (h : okG G = true) {i j : Nat} {q q' : Ge} (hi : G[i]? = some q) (hj : G[j]? = some q') (hn : i ≠ j) {x : Nat × Nat} (hx : x ∈ keys q) : x ∉ keys q' := by
  have hil : i < G.length := (List.getElem?_eq_some_iff.mp hi).1
  have hjl : j < G.length := (List.getElem?_eq_some_iff.mp hj).1
  have h1 := List.all_eq_true.mp h i (List.mem_range.mpr hil)
  have h2 := List.all_eq_true.mp h1 j (List.mem_range.mpr hjl)
  have e1 : G.getD i (0, 3, 0, 0) = q := by rw [List.getD_eq_getElem?_getD, hi]; rfl
  have e2 : G.getD j (0, 3, 0, 0) = q' := by rw [List.getD_eq_getElem?_getD, hj]; rfl
  rw [e1, e2] at h2
  rcases Bool.or_eq_true_iff.mp h2 with h3 | h3
  · exact absurd (beq_iff_eq.mp h3) hn
  · have h4 := List.all_eq_true.mp h3 x hx
    intro h5
    have h6 : (keys q').contains x = true := List.contains_iff_mem.mpr h5
    rw [h6] at h4
    cases h4
theorem wd_set {ad : Nat → Nat} {cs : Nat → ClassId} {G : List Ge} {M : Mem} (hG : okG G = true) {k : Nat} {q : Ge} (hk : G[k]? = some q) {o f : Nat} (hx : (o, f) ∈ keys q) (g : Nat → Int32) {e : va_E} (he : ent ad cs G (wrow M o f g) k q = e) : (wd ad cs G M).set k (ad k, e) = wd ad cs G (wrow M o f g) := by
  apply List.ext_getElem?
  intro j
  by_cases hj : j = k
  · subst hj
    have hl : j < (wd ad cs G M).length := (List.getElem?_eq_some_iff.mp (wd_at (ad := ad) (cs := cs) (M := M) hk)).1
    rw [List.getElem?_set_self hl, wd_at hk, he]
  · rw [List.getElem?_set_ne (fun z => hj z.symm)]
    cases hq : G[j]? with
    | none => simp [wd, List.getElem?_mapIdx, hq]
    | some q' => rw [wd_at hq, wd_at hq, ent_other (okG_sep hG hk hq (fun z => hj z.symm) hx)]
theorem okL_at {ci : Nat} (h : okL ci = true) {i j : Nat} (hi : (lay ci)[i]? = some (0, j)) : j = i := by
  have hil : i < (lay ci).length := (List.getElem?_eq_some_iff.mp hi).1
  have h1 := List.all_eq_true.mp h i (List.mem_range.mpr hil)
  have e1 : (lay ci).getD i (1, 0) = (0, j) := by rw [List.getD_eq_getElem?_getD, hi]; rfl
  rw [e1] at h1
  rcases Bool.or_eq_true_iff.mp h1 with h3 | h3
  · simp at h3
  · exact beq_iff_eq.mp h3
theorem lay_set {ad : Nat → Nat} {G : List Ge} {M : Mem} {o k ci f : Nat} (hL : okL ci = true) (hf : (lay ci)[f]? = some (0, f)) (v : Int32) : (lay ci).map (fv ad G (wr M o f 0 v) o k) = ((lay ci).map (fv ad G M o k)).set f (.int v) := by
  apply List.ext_getElem?
  intro i
  by_cases hi : i = f
  · subst hi
    have hl : i < ((lay ci).map (fv ad G M o k)).length := by rw [List.length_map]; exact (List.getElem?_eq_some_iff.mp hf).1
    rw [List.getElem?_set_self hl, List.getElem?_map, hf]
    show some (fv ad G (wr M o i 0 v) o k (0, i)) = some (.int v)
    unfold fv wr
    rw [if_pos rfl, wrow_eq]
    unfold upd
    rw [if_pos rfl]
  · rw [List.getElem?_set_ne (fun z => hi z.symm), List.getElem?_map, List.getElem?_map]
    cases he : (lay ci)[i]? with
    | none => rfl
    | some e =>
      obtain ⟨t, j⟩ := e
      show some (fv ad G (wr M o f 0 v) o k (t, j)) = some (fv ad G M o k (t, j))
      unfold fv
      by_cases h1 : t = 0
      · subst h1
        have := okL_at hL he
        subst this
        rw [if_pos rfl, if_pos rfl]
        unfold wr
        rw [wrow_ne (fun z => hi z.2)]
      · rw [if_neg h1, if_neg h1]
/-! ===== the world ===== -/
def tyU (cs : Nat → ClassId) : List (ClassId × FieldType) := [(cs 1, .int), (cs 2, .boolean), (cs 3, .object "DonkeyExecutor$Walk"), (cs 4, .object "DonkeyExecutor$Sheet")]
def tMost (j : Nat) : Int32 := if j = 2 then 19 else 9
def tFirst (j : Nat) : Int32 := if j = 0 then 5 else if j = 1 then 3 else if j = 2 then 4 else 9
def Zs (A : Nat → Prop) (U : State) (H : Heap) : Prop := ∃ t : Nat, va_Z "DonkeyExecutor" "TEMPER_MOST" "[I" (.ref t) A U H ∧ va_T .int t 4 (fun j => .int (tMost j)) A U H
theorem Zs.moved {A : Nat → Prop} {u U : State} {H : Heap} (hvm : u.vm.Alike U.vm) (h : Zs A u H) : Zs A U H := by
  obtain ⟨t, h1, h2⟩ := h
  exact ⟨t, h1.moved hvm, h2.moved hvm⟩
theorem Zs.kept {A : Nat → Prop} {U : State} {H H1 : Heap} (h : Zs A U H) (hq : ∀ a : Nat, a < H.size → ¬ A a → H1[a]? = H[a]?) : Zs A U H1 := by
  obtain ⟨t, h1, h2⟩ := h
  exact ⟨t, h1.kept hq, h2.kept hq⟩
def Wd0 (D : va_G) (ad : Nat → Nat) (cs : Nat → ClassId) (G : List Ge) (A : Nat → Prop) (M : Mem) (U : State) : Prop := va_P D vwCl (wd ad cs G M) U.heap ∧ va_K D vwCl (tyU cs) U ∧ va_D A (wd ad cs G M) ∧ Zs A U U.heap
def Wd (D : va_G) (ad : Nat → Nat) (cs : Nat → ClassId) (G : List Ge) (A : Nat → Prop) (s : State) (H : Heap) (locs : List Loc) (M : Mem) : Prop := va_P D vwCl (wd ad cs G M) H ∧ va_D A (wd ad cs G M) ∧ va_S A s.heap H locs ∧ va_K D vwCl (tyU cs) s ∧ okG G = true ∧ Zs A s s.heap
theorem Wd_eq {D : va_G} {ad : Nat → Nat} {cs : Nat → ClassId} {G : List Ge} {A : Nat → Prop} {s : State} {H : Heap} {locs : List Loc} {M M1 : Mem} (e : M1 = M) (X : Wd D ad cs G A s H locs M) : Wd D ad cs G A s H locs M1 := by
  subst e; exact X
theorem Wd0.blind {D : va_G} {ad : Nat → Nat} {cs : Nat → ClassId} {G : List Ge} {A : Nat → Prop} {M : Mem} {av : List Value} : FrameBlind (va_Pc av (Wd0 D ad cs G A M)) := fun a U g mk q => by
  obtain ⟨q0, qP, qK, qD, qZ⟩ := q
  exact ⟨q0, qP, va_K.moved (u := U) (U := U.calling g mk a) (Vm.Alike.refl U.vm) qK, qD, Zs.moved (u := U) (U := U.calling g mk a) (Vm.Alike.refl U.vm) qZ⟩
theorem Wd.at {D : va_G} {ad : Nat → Nat} {cs : Nat → ClassId} {G : List Ge} {A : Nat → Prop} {s : State} {H : Heap} {locs : List Loc} {M : Mem} (X : Wd D ad cs G A s H locs M) {t : State} (ht : t.heap = H) (hW : s.WarmedH t.vm) : Wd0 D ad cs G A M t := by
  obtain ⟨hP, hD, hS, hK, -, hZ⟩ := X
  refine ⟨by rw [ht]; exact hP, va_K.moved hW.alike hK, hD, ?_⟩
  rw [ht]
  exact (hZ.kept hS.2.1).moved hW.alike
def TS : List Cond := lw_tbl.filter goodWord
theorem TS_in : ∀ w ∈ TS, w ∈ lw_tbl := fun w h => (List.mem_filter.mp h).1
theorem mT_of {w : Cond} (h : w ∈ tables_1) (g : goodWord w = true) : w ∈ TS := List.mem_filter.mpr ⟨List.mem_append_right _ h, g⟩
theorem mTp (i : Nat) {w : Cond} (h : (k2_sels lw_privs)[i]? = some w) (g : goodWord w = true) : w ∈ TS := List.mem_filter.mpr ⟨List.mem_append_left _ (List.mem_of_getElem? h), g⟩
theorem mT1 (i : Nat) {w : Cond} (h : tables_1_1[i]? = some w) (g : goodWord w = true) : w ∈ TS := mT_of (List.mem_append_left _ (List.mem_of_getElem? h)) g
theorem mT2 (i : Nat) {w : Cond} (h : tables_1_2[i]? = some w) (g : goodWord w = true) : w ∈ TS := mT_of (List.mem_append_right _ (List.mem_append_left _ (List.mem_of_getElem? h))) g
theorem mT3 (i : Nat) {w : Cond} (h : tables_1_3[i]? = some w) (g : goodWord w = true) : w ∈ TS := mT_of (List.mem_append_right _ (List.mem_append_right _ (List.mem_append_left _ (List.mem_of_getElem? h)))) g
theorem mT4 (i : Nat) {w : Cond} (h : tables_1_4[i]? = some w) (g : goodWord w = true) : w ∈ TS := mT_of (List.mem_append_right _ (List.mem_append_right _ (List.mem_append_right _ (List.mem_append_left _ (List.mem_of_getElem? h))))) g
theorem mT5 (i : Nat) {w : Cond} (h : tables_1_5[i]? = some w) (g : goodWord w = true) : w ∈ TS := mT_of (List.mem_append_right _ (List.mem_append_right _ (List.mem_append_right _ (List.mem_append_right _ (List.mem_append_left _ (List.mem_of_getElem? h)))))) g
theorem mT6 (i : Nat) {w : Cond} (h : tables_1_6[i]? = some w) (g : goodWord w = true) : w ∈ TS := mT_of (List.mem_append_right _ (List.mem_append_right _ (List.mem_append_right _ (List.mem_append_right _ (List.mem_append_right _ (List.mem_of_getElem? h)))))) g
def wsU (y : MethodName) (b : ByteArray) (n : Nat) (r : Option FieldType) : List Cond := .code y b n r :: TS
abbrev rmo (fr lo : Nat) : Room := { frames := fr, cells := 0, slots := 0, locals := lo }
theorem gAll : TS.all goodWord = true := by
  rw [List.all_eq_true]
  intro w hw
  exact (List.mem_filter.mp hw).2
theorem gU {y : MethodName} {b : ByteArray} {n : Nat} {r : Option FieldType} (h : Cond.code y b n r ∈ TS) : GoodIn TS (wsU y b n r) := goodIn_sub (fun w hw => by
  rcases List.mem_cons.mp hw with rfl | h2
  · exact h
  · exact h2) (by
  rw [List.all_eq_true]
  intro w hw
  rcases List.mem_cons.mp hw with rfl | h2
  · exact List.all_eq_true.mp gAll _ h
  · exact List.all_eq_true.mp gAll _ h2)
theorem g4 {a b c d : Cond} (h1 : a ∈ TS) (h2 : b ∈ TS) (h3 : c ∈ TS) (h4 : d ∈ TS) : GoodIn TS [a, b, c, d] := goodIn_sub (fun w hw => by
  simp only [List.mem_cons, List.not_mem_nil, or_false] at hw
  rcases hw with rfl | rfl | rfl | rfl <;> assumption) (by
  simp only [List.all_cons, List.all_nil, Bool.and_true, Bool.and_eq_true]
  exact ⟨List.all_eq_true.mp gAll _ h1, List.all_eq_true.mp gAll _ h2, List.all_eq_true.mp gAll _ h3, List.all_eq_true.mp gAll _ h4⟩)
theorem g3 {a b c : Cond} (h1 : a ∈ TS) (h2 : b ∈ TS) (h3 : c ∈ TS) : GoodIn TS [a, b, c] := goodIn_sub (fun w hw => by
  simp only [List.mem_cons, List.not_mem_nil, or_false] at hw
  rcases hw with rfl | rfl | rfl <;> assumption) (by
  simp only [List.all_cons, List.all_nil, Bool.and_true, Bool.and_eq_true]
  exact ⟨List.all_eq_true.mp gAll _ h1, List.all_eq_true.mp gAll _ h2, List.all_eq_true.mp gAll _ h3⟩)
theorem gV {own : String} {idx : Nat} {C : String} {y : MethodName} {b : ByteArray} {n : Nat} {r : Option FieldType} (h1 : Cond.methodLink own idx y ∈ TS) (h2 : Cond.instanceMethod y ∈ TS) (h3 : Cond.selects C y y ∈ TS) (h4 : Cond.initialized C ∈ TS) (h5 : Cond.code y b n r ∈ TS) : GoodIn TS (wsV own idx C y (wsU y b n r)) := goodIn_app (g4 h1 h2 h3 h4) (gU h5)
theorem gS {own : String} {idx : Nat} {y : MethodName} {b : ByteArray} {n : Nat} {r : Option FieldType} (h1 : Cond.methodLink own idx y ∈ TS) (h2 : Cond.static y ∈ TS) (h3 : Cond.initialized y.cls ∈ TS) (h5 : Cond.code y b n r ∈ TS) : GoodIn TS (va_wsS own idx y (wsU y b n r)) := goodIn_app (g3 h1 h2 h3) (gU h5)
/-! ===== the answer's pieces ===== -/
def nm {α β : Type} (e : α) (k : α → β) : β := k e
theorem nm_x {α β : Type} {e : α} {k : α → Option β} {z : β} (h : nm e k = some z) : ∃ x, x = e ∧ k x = some z := ⟨e, rfl, h⟩
def gd {α : Type} (c : Prop) [Decidable c] (x : Option α) : Option α := if c then x else none
theorem gd_x {α : Type} {c : Prop} [Decidable c] {x : Option α} {z : α} (h : gd c x = some z) : c ∧ x = some z := by
  unfold gd at h
  by_cases hc : c
  · rw [if_pos hc] at h; exact ⟨hc, h⟩
  · rw [if_neg hc] at h; cases h
theorem bd_x {α β : Type} {x : Option α} {k : α → Option β} {z : β} (h : x.bind k = some z) : ∃ y, x = some y ∧ k y = some z := by
  cases x with
  | none => cases h
  | some y => exact ⟨y, rfl, h⟩
theorem it_p {α : Type} {c : Prop} [Decidable c] {x y : Option α} {z : α} (h : (if c then x else y) = some z) (hc : c) : x = some z := by rw [if_pos hc] at h; exact h
theorem it_n {α : Type} {c : Prop} [Decidable c] {x y : Option α} {z : α} (h : (if c then x else y) = some z) (hc : ¬ c) : y = some z := by rw [if_neg hc] at h; exact h
theorem sm_x {α : Type} {x z : α} (h : some x = some z) : x = z := Option.some.inj h
/-- a loop: at most n rounds -/
def lpO {σ ρ : Type} (body : σ → Option (σ ⊕ ρ)) : Nat → σ → Option ρ
  | 0, _ => none
  | n + 1, x => (body x).bind fun y => match y with
    | .inl x' => lpO body n x'
    | .inr r => some r
def lpK {σ ρ : Type} (body : σ → Option (σ ⊕ ρ)) (n : Nat) (y : σ ⊕ ρ) : Option ρ := match y with
  | .inl x' => lpO body n x'
  | .inr r => some r
theorem lp_x {σ ρ : Type} {body : σ → Option (σ ⊕ ρ)} {n : Nat} {x : σ} {z : ρ} (h : lpO body (n + 1) x = some z) : ∃ y, body x = some y ∧ lpK body n y = some z := by
  unfold lpO at h
  obtain ⟨y, h1, h2⟩ := bd_x h
  refine ⟨y, h1, ?_⟩
  cases y <;> exact h2
theorem lp_0 {σ ρ : Type} {body : σ → Option (σ ⊕ ρ)} {x : σ} {z : ρ} {P : Prop} (h : lpO body 0 x = some z) : P := by unfold lpO at h; cases h
def inr' {σ ρ : Type} (x : Option ρ) : Option (σ ⊕ ρ) := x.map .inr
theorem inr_x {σ ρ : Type} {x : Option ρ} {y : σ ⊕ ρ} (h : inr' x = some y) : ∃ r, x = some r ∧ y = .inr r := by
  cases x with
  | none => cases h
  | some r => exact ⟨r, rfl, (Option.some.inj h).symm⟩
/-- rounds at most: more than any loop here needs -/
def FU : Nat := 100000
/-! ===== rows of the machine over the world ===== -/
theorem ent_o {ad : Nat → Nat} {cs : Nat → ClassId} {G : List Ge} {M : Mem} {k o ci y : Nat} : ent ad cs G M k (o, 0, ci, y) = .inr (ci, (lay ci).map (fv ad G M o k)) := by unfold ent; exact if_pos rfl
theorem ent_i {ad : Nat → Nat} {cs : Nat → ClassId} {G : List Ge} {M : Mem} {k o f n : Nat} : ent ad cs G M k (o, 1, f, n) = .inl (cs 1, n, .inl (M o f)) := by
  unfold ent
  rw [if_neg (show ¬ (o, 1, f, n).2.1 = 0 from Nat.succ_ne_zero _)]
  exact if_pos (Or.inl rfl)
theorem ent_z {ad : Nat → Nat} {cs : Nat → ClassId} {G : List Ge} {M : Mem} {k o f n : Nat} : ent ad cs G M k (o, 2, f, n) = .inl (cs 2, n, .inl (M o f)) := by
  unfold ent
  rw [if_neg (show ¬ (o, 2, f, n).2.1 = 0 from Nat.succ_ne_zero _)]
  exact if_pos (Or.inr rfl)
theorem ent_r {ad : Nat → Nat} {cs : Nat → ClassId} {G : List Ge} {M : Mem} {k o t b n : Nat} : ent ad cs G M k (o, t + 3, b, n) = .inl (cs (t + 3), n, .inr (.inr (.inr (.inr fun i => some (ad (cO G (b + i))))))) := by
  unfold ent
  rw [if_neg (show ¬ t + 3 = 0 by omega), if_neg (show ¬ (t + 3 = 1 ∨ t + 3 = 2) by omega)]
section Rules
variable {p : Program} {l : Launch} {e : Env} {R : Room} {s : State} {m : MethodId} {args : Array Value} {below : List Frame} {meth : Method} {c : Code} {H : Heap} {locs : List Loc} {cells slots : Nat} {Q : State → Prop}
variable {cc : ByteArray} {nL pc : Nat} {ls : Array Slot} {rest : List Value} {D : va_G} {ad : Nat → Nat} {cs : Nat → ClassId} {G : List Ge} {A : Nat → Prop} {M : Mem} {own : String}
theorem r_get (F : CallFix p m c cc nL s args TS own) (X : Wd D ad cs G A s H locs M) {k o ci index : Nat} (hk : G[k]? = some (o, 0, ci, 0)) {C : String} {T : u_T} {N : Nat} (hc : vwCl[ci]? = some (C, T, N)) (hin : ∀ w ∈ u_ws C T N, w ∈ TS) (j : Nat) (hj : j < N) {ref : String} (hsame : (T j).1 = ref) (hlink : Cond.fieldLink own index ref (T j).2.1 (T j).2.2.1 ∈ TS) {v : Value} (hv : ((lay ci).map (fv ad G M o k))[j]? = some v) (hd : decode cc pc = .ok (.getfield index, 3))
    (kk : W p l e R s m args below meth c H locs cells slots Q (F0 m (pc + 3) ls (v :: rest))) : W p l e R s m args below meth c H locs cells slots Q (F0 m pc ls (.ref (ad k) :: rest)) := by
  obtain ⟨hx, hb, hml, hown, hts⟩ := F
  obtain ⟨hP, hD, hS, hK, hG, hZ⟩ := X
  subst hsame
  exact va_get (D := D) hx hb hts hin hown hK hP k (by rw [wd_at hk, ent_o]) hc j hj (hts _ hlink) (fun _ h9 => h9) hv hd kk
theorem r_puti (F : CallFix p m c cc nL s args TS own) (X : Wd D ad cs G A s H locs M) {k o ci index : Nat} (hk : G[k]? = some (o, 0, ci, 0)) {C : String} {T : u_T} {N : Nat} (hc : vwCl[ci]? = some (C, T, N)) (hin : ∀ w ∈ u_ws C T N, w ∈ TS) (ty0 : Nat → FieldType) (hty : ∀ k, k < N → parseFieldDescriptor (T k).2.2.1 = some (ty0 k)) (hnm : ∀ a, a < N → ∀ b, b < N → a ≠ b → (T a).2.1 ≠ (T b).2.1) (j : Nat) (hj : j < N) {ref : String} (hsame : (T j).1 = ref) (hlink : Cond.fieldLink own index ref (T j).2.1 (T j).2.2.1 ∈ TS) (hfin : (T j).2.2.2 = false) {ty : FieldType} (hdp : parseFieldDescriptor (T j).2.2.1 = some ty) {v : Int32} (hn : narrow ty (.int v) = .int v) (hfit : fits ty (.int v) = true) (hL : okL ci = true) (hf : (lay ci)[j]? = some (0, j)) (hd : decode cc pc = .ok (.putfield index, 3))
    (kk : ∀ (H : Heap) (locs : List Loc), Wd D ad cs G A s H locs (wr M o j 0 v) → W p l e R s m args below meth c H locs cells slots Q (F0 m (pc + 3) ls rest)) : W p l e R s m args below meth c H locs cells slots Q (F0 m pc ls (.int v :: .ref (ad k) :: rest)) := by
  obtain ⟨hx, hb, hml, hown, hts⟩ := F
  obtain ⟨hP, hD, hS, hK, hG, hZ⟩ := X
  subst hsame
  have hlen : j < ((lay ci).map (fv ad G M o k)).length := by rw [List.length_map]; exact (List.getElem?_eq_some_iff.mp hf).1
  have hkey : (o, j) ∈ keys (o, 0, ci, 0) := by
    unfold keys
    rw [if_pos rfl]
    exact List.mem_filterMap.mpr ⟨(0, j), List.mem_of_getElem? hf, rfl⟩
  have hset := wd_set (ad := ad) (cs := cs) (M := M) hG hk hkey (upd (M o j) 0 v) (ent_o.trans (congrArg (fun x => Sum.inr (ci, x)) (lay_set hL hf v)))
  refine va_put (D := D) hx hb hts hin ty0 hty hnm hown hK hP hD hS k (by rw [wd_at hk, ent_o]) hc j hj (hts _ hlink) (fun _ h9 => h9) hfin hdp hn hfit hlen hd (fun H1 locs1 hP1 hD1 hS1 => ?_)
  rw [hset] at hP1 hD1
  exact kk H1 locs1 ⟨hP1, hD1, hS1, hK, hG, hZ⟩
theorem r_iald (F : CallFix p m c cc nL s args TS own) (X : Wd D ad cs G A s H locs M) {k o f n : Nat} (hk : G[k]? = some (o, 1, f, n)) {i : Int32} (hin : vp_in i n) (hd : decode cc pc = .ok (.iaload, 1))
    (kk : W p l e R s m args below meth c H locs cells slots Q (F0 m (pc + 1) ls (.int (M o f i.toNatClampNeg) :: rest))) : W p l e R s m args below meth c H locs cells slots Q (F0 m pc ls (.int i :: .ref (ad k) :: rest)) := by
  obtain ⟨hx, hb, hml, hown, hts⟩ := F
  obtain ⟨hP, hD, hS, hK, hG, hZ⟩ := X
  exact va_iald (D := D) hx hb hK hP k 0 (by rw [wd_at hk, ent_i]) rfl hin hd kk
theorem r_zald (F : CallFix p m c cc nL s args TS own) (X : Wd D ad cs G A s H locs M) {k o f n : Nat} (hk : G[k]? = some (o, 2, f, n)) {i : Int32} (hin : vp_in i n) (hd : decode cc pc = .ok (.baload, 1))
    (kk : W p l e R s m args below meth c H locs cells slots Q (F0 m (pc + 1) ls (.int (M o f i.toNatClampNeg) :: rest))) : W p l e R s m args below meth c H locs cells slots Q (F0 m pc ls (.int i :: .ref (ad k) :: rest)) := by
  obtain ⟨hx, hb, hml, hown, hts⟩ := F
  obtain ⟨hP, hD, hS, hK, hG, hZ⟩ := X
  exact va_zald (D := D) hx hb hK hP k 1 (by rw [wd_at hk, ent_z]) rfl hin hd kk
theorem key_i {o f n : Nat} : (o, f) ∈ keys (o, 1, f, n) := by
  unfold keys
  rw [if_neg (show ¬ (o, 1, f, n).2.1 = 0 from Nat.succ_ne_zero _), if_pos (Or.inl rfl)]
  exact List.mem_singleton.mpr rfl
theorem key_z {o f n : Nat} : (o, f) ∈ keys (o, 2, f, n) := by
  unfold keys
  rw [if_neg (show ¬ (o, 2, f, n).2.1 = 0 from Nat.succ_ne_zero _), if_pos (Or.inr rfl)]
  exact List.mem_singleton.mpr rfl
theorem row_i {k o f n : Nat} (hG : okG G = true) (hk : G[k]? = some (o, 1, f, n)) (g : Nat → Int32) : (wd ad cs G M).set k (ad k, .inl (cs 1, n, .inl g)) = wd ad cs G (wrow M o f g) := wd_set hG hk key_i g (by rw [ent_i, wrow_eq])
theorem row_z {k o f n : Nat} (hG : okG G = true) (hk : G[k]? = some (o, 2, f, n)) (g : Nat → Int32) : (wd ad cs G M).set k (ad k, .inl (cs 2, n, .inl g)) = wd ad cs G (wrow M o f g) := wd_set hG hk key_z g (by rw [ent_z, wrow_eq])
theorem r_iast (F : CallFix p m c cc nL s args TS own) (X : Wd D ad cs G A s H locs M) {k o f n : Nat} (hk : G[k]? = some (o, 1, f, n)) {i x : Int32} (hin : vp_in i n) (hd : decode cc pc = .ok (.iastore, 1))
    (kk : ∀ (H : Heap) (locs : List Loc), Wd D ad cs G A s H locs (wr M o f i.toNatClampNeg x) → W p l e R s m args below meth c H locs cells slots Q (F0 m (pc + 1) ls rest)) : W p l e R s m args below meth c H locs cells slots Q (F0 m pc ls (.int x :: .int i :: .ref (ad k) :: rest)) := by
  obtain ⟨hx, hb, hml, hown, hts⟩ := F
  obtain ⟨hP, hD, hS, hK, hG, hZ⟩ := X
  refine va_iast (D := D) hx hb hK hP hD hS k 0 (by rw [wd_at hk, ent_i]) rfl hin hd (fun H1 locs1 hP1 hD1 hS1 => ?_)
  rw [row_i hG hk] at hP1 hD1
  exact kk H1 locs1 ⟨hP1, hD1, hS1, hK, hG, hZ⟩
theorem r_zast (F : CallFix p m c cc nL s args TS own) (X : Wd D ad cs G A s H locs M) {k o f n : Nat} (hk : G[k]? = some (o, 2, f, n)) {i x : Int32} (hx01 : vp_nar .boolean x = x) (hin : vp_in i n) (hd : decode cc pc = .ok (.bastore, 1))
    (kk : ∀ (H : Heap) (locs : List Loc), Wd D ad cs G A s H locs (wr M o f i.toNatClampNeg x) → W p l e R s m args below meth c H locs cells slots Q (F0 m (pc + 1) ls rest)) : W p l e R s m args below meth c H locs cells slots Q (F0 m pc ls (.int x :: .int i :: .ref (ad k) :: rest)) := by
  obtain ⟨hx, hb, hml, hown, hts⟩ := F
  obtain ⟨hP, hD, hS, hK, hG, hZ⟩ := X
  refine va_zast (D := D) hx hb hK hP hD hS k 1 (by rw [wd_at hk, ent_z]) rfl hin hd (fun H1 locs1 hP1 hD1 hS1 => ?_)
  rw [hx01, row_z hG hk] at hP1 hD1
  exact kk H1 locs1 ⟨hP1, hD1, hS1, hK, hG, hZ⟩
theorem r_alen (F : CallFix p m c cc nL s args TS own) (X : Wd D ad cs G A s H locs M) {k o f n : Nat} (hk : G[k]? = some (o, 1, f, n)) (hd : decode cc pc = .ok (.arraylength, 1))
    (kk : W p l e R s m args below meth c H locs cells slots Q (F0 m (pc + 1) ls (.int (nI n) :: rest))) : W p l e R s m args below meth c H locs cells slots Q (F0 m pc ls (.ref (ad k) :: rest)) := by
  obtain ⟨hx, hb, hml, hown, hts⟩ := F
  obtain ⟨hP, hD, hS, hK, hG, hZ⟩ := X
  exact va_alen (D := D) (x := (n, .inl (M o f))) (v := nI n) hx hb hK hP k 0 (by rw [wd_at hk, ent_i]) (ty := .int) rfl rfl hd kk
theorem r_aald3 (F : CallFix p m c cc nL s args TS own) (X : Wd D ad cs G A s H locs M) {k o b n : Nat} (hk : G[k]? = some (o, 3, b, n)) {i : Int32} (hin : vp_in i n) (hd : decode cc pc = .ok (.aaload, 1))
    (kk : W p l e R s m args below meth c H locs cells slots Q (F0 m (pc + 1) ls (.ref (ad (cO G (b + i.toNatClampNeg))) :: rest))) : W p l e R s m args below meth c H locs cells slots Q (F0 m pc ls (.int i :: .ref (ad k) :: rest)) := by
  obtain ⟨hx, hb, hml, hown, hts⟩ := F
  obtain ⟨hP, hD, hS, hK, hG, hZ⟩ := X
  exact va_aldq (D := D) (f := fun i => some (ad (cO G (b + i)))) hx hb hK hP k 2 (by rw [wd_at hk]; exact congrArg (fun z => some (ad k, z)) (ent_r (t := 0))) rfl hin hd kk
theorem r_aald4 (F : CallFix p m c cc nL s args TS own) (X : Wd D ad cs G A s H locs M) {k o b n : Nat} (hk : G[k]? = some (o, 4, b, n)) {i : Int32} (hin : vp_in i n) (hd : decode cc pc = .ok (.aaload, 1))
    (kk : W p l e R s m args below meth c H locs cells slots Q (F0 m (pc + 1) ls (.ref (ad (cO G (b + i.toNatClampNeg))) :: rest))) : W p l e R s m args below meth c H locs cells slots Q (F0 m pc ls (.int i :: .ref (ad k) :: rest)) := by
  obtain ⟨hx, hb, hml, hown, hts⟩ := F
  obtain ⟨hP, hD, hS, hK, hG, hZ⟩ := X
  exact va_aldq (D := D) (f := fun i => some (ad (cO G (b + i)))) hx hb hK hP k 3 (by rw [wd_at hk]; exact congrArg (fun z => some (ad k, z)) (ent_r (t := 1))) rfl hin hd kk
/-- the row that System.arraycopy leaves -/
def cpM (M : Mem) (o f o' f' sp dp n : Nat) : Mem := wrow M o' f' (va_cpy (M o f) (M o' f') sp dp n)
theorem fits_int (x : Int32) : fits .int (.int x) = true := rfl
theorem r_copy (F : CallFix p m c cc nL s args TS own) (X : Wd D ad cs G A s H locs M) (hls : ls.size = nL) {k0 k1 o0 o1 f0 f1 n0 n1 index : Nat} (hk0 : G[k0]? = some (o0, 1, f0, n0)) (hk1 : G[k1]? = some (o1, 1, f1, n1)) (hlink : Cond.methodLink own index arraycopyName ∈ TS) (hnat : Cond.native arraycopyName ∈ TS) (hstat : Cond.static arraycopyName ∈ TS) (hini : Cond.initialized "java/lang/System" ∈ TS) {sp dp n : Int32} (h : ¬ sp < 0 ∧ ¬ dp < 0 ∧ ¬ n < 0 ∧ sp.toNatClampNeg + n.toNatClampNeg ≤ n0 ∧ dp.toNatClampNeg + n.toNatClampNeg ≤ n1)
    (hframes : 1 ≤ R.frames) (hlocals : (rest.map fun v => v.category).sum + (nativeFrameWords "java/lang/System" "arraycopy" 5 + 11) ≤ R.locals) (hd : decode cc pc = .ok (.invokestatic index, 3))
    (kk : ∀ (H : Heap) (locs : List Loc), Wd D ad cs G A s H locs (cpM M o0 f0 o1 f1 sp.toNatClampNeg dp.toNatClampNeg n.toNatClampNeg) → W p l e R s m args below meth c H locs cells slots Q (F0 m (pc + 3) ls rest)) : W p l e R s m args below meth c H locs cells slots Q (F0 m pc ls (.int n :: .int dp :: .ref (ad k1) :: .int sp :: .ref (ad k0) :: rest)) := by
  obtain ⟨hx, hb, hml, hown, hts⟩ := F
  obtain ⟨hP, hD, hS, hK, hG, hZ⟩ := X
  obtain ⟨h1, h2, h3, h4, h5⟩ := h
  refine va_copyi (D := D) hx hb (hml.trans hls.symm) hown (hts _ hlink) (hts _ hnat) (hts _ hstat) (hts _ hini) hK hP hD hS k0 k1 0 0 (by rw [wd_at hk0, ent_i]) (by rw [wd_at hk1, ent_i]) rfl rfl rfl h1 h2 h3 h4 h5 (fun i _ => fits_int _) hframes hlocals hd (fun H1 locs1 hP1 hD1 hS1 => ?_)
  rw [row_i hG hk1] at hP1 hD1
  exact kk H1 locs1 ⟨hP1, hD1, hS1, hK, hG, hZ⟩
theorem topE {x y : Int32} (h : y = x) (k : W p l e R s m args below meth c H locs cells slots Q (F0 m pc ls (.int y :: rest))) : W p l e R s m args below meth c H locs cells slots Q (F0 m pc ls (.int x :: rest)) := h ▸ k
theorem topL {x y : Int64} (h : y = x) (k : W p l e R s m args below meth c H locs cells slots Q (F0 m pc ls (.long y :: rest))) : W p l e R s m args below meth c H locs cells slots Q (F0 m pc ls (.long x :: rest)) := h ▸ k
end Rules
section Calls
variable {p : Program} {l : Launch} {e : Env} {R : Room} {s : State} {m : MethodId} {args : Array Value} {below : List Frame} {meth : Method} {c : Code} {H : Heap} {locs : List Loc} {Q : State → Prop}
variable {cc : ByteArray} {nL pc : Nat} {ls : Array Slot} {rest st : List Value} {D : va_G} {ad : Nat → Nat} {cs : Nat → ClassId} {G : List Ge} {A : Nat → Prop} {M : Mem} {own : String}
theorem Wd.back {s t : State} {H H1 : Heap} {locs : List Loc} {M M' : Mem} (hvm : s.vm.Alike t.vm) (ht : t.heap = H1) (X : Wd D ad cs G A s H locs M) {locs1 : List Loc} (hS : va_S A s.heap H1 locs1) (h : Wd0 D ad cs G A M' t) : Wd D ad cs G A s H1 locs1 M' := by
  obtain ⟨hP, hK, hD, -⟩ := h
  obtain ⟨-, -, -, hK0, hG, hZ⟩ := X
  exact ⟨by rw [← ht]; exact hP, hD, hS, hK0, hG, hZ⟩
/-- what a call of an object's method needs -/
theorem r_runV (F : CallFix p m c cc nL s args TS own) (X : Wd D ad cs G A s H locs M) {y : MethodName} {b : ByteArray} {maxL n idx : Nat} {ret : Option FieldType} {fr lo k o ci : Nat} {As : List Value} {Qc : Array Value → State → Outcome → State → Prop} {C : String} {T : u_T} {N : Nat}
    (hM : Met l y (wsU y b maxL ret) (rmo fr lo) (va_Pc (.ref (ad k) :: As) (Wd0 D ad cs G A M)) Qc 0 0 A) (hG : GoodIn TS (wsV own idx C y (wsU y b maxL ret))) (hd : y.cls = C ∧ y.cls ≠ "java/lang/invoke/MethodHandle" ∧ y.cls ≠ "java/lang/invoke/VarHandle" ∧ (parseMethodDescriptor y.desc).map (fun d => d.parameters.length) = some n) (hR : fr + 1 ≤ R.frames ∧ 8 + (maxL + 11) + lo ≤ R.locals)
    (hk : G[k]? = some (o, 0, ci, 0)) (hc : vwCl[ci]? = some (C, T, N)) (hn : As.length = n) (hls : ls.size = nL) (hst : st = As.reverse ++ .ref (ad k) :: rest) (hw : (rest.map fun v => v.category).sum ≤ 8) (hdg : decode cc pc = .ok (.invokevirtual idx, 3)) :
    va_Run p l e R s m args below meth c H locs 0 0 0 0 (F0 m pc ls st) rest (Qc (Value.ref (ad k) :: As).toArray) A := by
  have F' := F
  obtain ⟨hx, hb, hml, hown, hts⟩ := F
  have X' := X
  obtain ⟨hP, hD, hS, hK, hG', hZ⟩ := X
  exact va_runV F' hM (cwV n hts hG rfl rfl rfl hd hR) ⟨Wd0.blind, va_recv hK hP hc (by rw [wd_at hk, ent_o]), fun U hU hW => ⟨rfl, X'.at hU hW⟩⟩ rfl hn hls hst (lv_room hw) hdg ⟨Nat.zero_le _, Nat.zero_le _⟩
theorem r_runS (F : CallFix p m c cc nL s args TS own) (X : Wd D ad cs G A s H locs M) {y : MethodName} {b : ByteArray} {maxL n idx : Nat} {ret : Option FieldType} {fr lo : Nat} {As : List Value} {Qc : Array Value → State → Outcome → State → Prop}
    (hM : Met l y (wsU y b maxL ret) (rmo fr lo) (va_Pc As (Wd0 D ad cs G A M)) Qc 0 0 A) (hG : GoodIn TS (va_wsS own idx y (wsU y b maxL ret))) (hd : y.cls ≠ "java/lang/invoke/MethodHandle" ∧ y.cls ≠ "java/lang/invoke/VarHandle" ∧ (parseMethodDescriptor y.desc).map (fun d => d.parameters.length) = some n) (hR : fr + 1 ≤ R.frames ∧ 8 + (maxL + 11) + lo ≤ R.locals)
    (hn : As.length = n) (hls : ls.size = nL) (hst : st = As.reverse ++ rest) (hw : (rest.map fun v => v.category).sum ≤ 8) (hdg : decode cc pc = .ok (.invokestatic idx, 3)) :
    va_Run p l e R s m args below meth c H locs 0 0 0 0 (F0 m pc ls st) rest (Qc As.toArray) A := by
  have F' := F
  obtain ⟨hx, hb, hml, hown, hts⟩ := F
  have X' := X
  exact va_runS F' hM (va_cwS n hts hG rfl rfl rfl hd hR) ⟨Wd0.blind, fun U hU hW => ⟨rfl, X'.at hU hW⟩⟩ rfl hn hls hst (lv_room hw) hdg ⟨Nat.zero_le _, Nat.zero_le _⟩
theorem r_callv {z : Mem} {a : Array Value} (X : Wd D ad cs G A s H locs M) (hr : va_Run p l e R s m args below meth c H locs 0 0 0 0 (F0 m pc ls st) rest (va_Qv (fun u => u = z) (Wd0 D ad cs G A) A a) A)
    (kk : ∀ (H : Heap) (locs : List Loc), Wd D ad cs G A s H locs z → W p l e R s m args below meth c H locs 0 0 Q (F0 m (pc + 3) ls rest)) : W p l e R s m args below meth c H locs 0 0 Q (F0 m pc ls st) := by
  refine va_callv hr X.2.2.1 (fun q _ h => h) (fun q h => h) (fun u t H1 locs1 ht hvm hw hB _ _ hS1 => ?_)
  subst hw
  exact kk H1 locs1 (X.back hvm ht hS1 hB)
theorem r_calli {z : Int32 × Mem} {a : Array Value} (X : Wd D ad cs G A s H locs M) (hr : va_Run p l e R s m args below meth c H locs 0 0 0 0 (F0 m pc ls st) rest (va_Qi (fun r u => (r, u) = z) (Wd0 D ad cs G A) A a) A)
    (kk : ∀ (H : Heap) (locs : List Loc), Wd D ad cs G A s H locs z.2 → W p l e R s m args below meth c H locs 0 0 Q (F0 m (pc + 3) ls (.int z.1 :: rest))) : W p l e R s m args below meth c H locs 0 0 Q (F0 m pc ls st) := by
  refine va_calli hr X.2.2.1 (fun q _ h => h) (fun q h => h) (fun r u t H1 locs1 ht hvm hw hB _ _ hS1 => ?_)
  subst hw
  exact kk H1 locs1 (X.back hvm ht hS1 hB)
theorem r_calll {z : Int64 × Mem} {a : Array Value} (X : Wd D ad cs G A s H locs M) (hr : va_Run p l e R s m args below meth c H locs 0 0 0 0 (F0 m pc ls st) rest (va_Ql (fun r u => (r, u) = z) (Wd0 D ad cs G A) A a) A)
    (kk : ∀ (H : Heap) (locs : List Loc), Wd D ad cs G A s H locs z.2 → W p l e R s m args below meth c H locs 0 0 Q (F0 m (pc + 3) ls (.long z.1 :: rest))) : W p l e R s m args below meth c H locs 0 0 Q (F0 m pc ls st) := by
  refine va_calll hr X.2.2.1 (fun q _ h => h) (fun q h => h) (fun r u t H1 locs1 ht hvm hw hB _ _ hS1 => ?_)
  subst hw
  exact kk H1 locs1 (X.back hvm ht hS1 hB)
/-- an answer that is one of the objects, by its number -/
theorem r_callr {z : Nat} {a : Array Value} (X : Wd D ad cs G A s H locs M) (hr : va_Run p l e R s m args below meth c H locs 0 0 0 0 (F0 m pc ls st) rest (va_Qr (fun u => u = M) (fun u q t => Wd0 D ad cs G A u t ∧ q = ad (cO G z)) A a) A)
    (kk : ∀ (H : Heap) (locs : List Loc), Wd D ad cs G A s H locs M → W p l e R s m args below meth c H locs 0 0 Q (F0 m (pc + 3) ls (.ref (ad (cO G z)) :: rest))) : W p l e R s m args below meth c H locs 0 0 Q (F0 m pc ls st) := by
  refine va_callr hr X.2.2.1 (fun q _ h => h) (fun q h => h) (fun u q t H1 locs1 ht hvm hw hB _ _ hS1 => ?_)
  obtain ⟨hB, rfl⟩ := hB
  subst hw
  exact kk H1 locs1 (X.back hvm ht hS1 hB)
end Calls
section Entry
variable {l : Launch} {D : va_G} {ad : Nat → Nat} {cs : Nat → ClassId} {G : List Ge} {A : Nat → Prop} {M : Mem} {own : String} {y : MethodName} {cc : ByteArray} {nL fr lo : Nat} {av : List Value}
theorem ct_in {ret : Option FieldType} {Qc : Array Value → State → Outcome → State → Prop} (hy : plainName y.cls = true) (hown : y.cls = own) (hG : okG G = true) (hn : (lg_sl av).length ≤ nL)
    (body : ∀ (p : Program) (e : Env) (s : State) (m : MethodId) (args : Array Value) (below : List Frame) (meth : Method) (c : Code) (ls : Array Slot), CallFix p m c cc nL s args TS own → meth.sig.returnType = ret → meth.locks = false → Wd D ad cs G A s s.heap [] M → lv_has ls nL (lv_args 0 av) → W p l e (rmo fr lo) s m args below meth c s.heap [] 0 0 (MQ below Qc args s 0 0 A) (F0 m 0 ls [])) :
    Met l y (wsU y cc nL ret) (rmo fr lo) (va_Pc av (Wd0 D ad cs G A M)) Qc 0 0 A := by
  refine Met.ofW (cc := cc) (maxL := nL) (ret := ret) hy rfl ?_
  intro p e s m args below meth c s₁ B hml hv
  obtain ⟨rfl, hP, hK, hD, hZ⟩ := hv
  have hts0 := atoms_spec (ws := wsU y cc nL ret) B.pre
  have hts : ∀ w ∈ TS, w.before av.toArray s = true := fun w h => hts0 w (List.mem_cons_of_mem _ h)
  have ho : s.vm.findClass own = some m.cls := by rw [← hown]; exact findClass_of_methodNamed B.named
  have hl := lv_entry av (n := nL) hn
  rw [lg_entry_eq]
  exact body p e s m _ below meth c _ ⟨B.exec, B.bytes, hml, ho, hts⟩ B.returns B.notSynchronized ⟨hP, hD, va_S.rf, hK, hG, hZ⟩ hl
/-- void -/
theorem ct_v {z : Mem} (hy : plainName y.cls = true) (hown : y.cls = own) (hG : okG G = true) (hn : (lg_sl av).length ≤ nL)
    (body : ∀ (p : Program) (e : Env) (s : State) (m : MethodId) (args : Array Value) (below : List Frame) (meth : Method) (c : Code) (Q : State → Prop) (ls : Array Slot), CallFix p m c cc nL s args TS own → Wd D ad cs G A s s.heap [] M → lv_has ls nL (lv_args 0 av) → (∀ (H : Heap) (locs : List Loc) (M' : Mem) (pc : Nat) (ls : Array Slot), Wd D ad cs G A s H locs M' → M' = z → decode cc pc = .ok (.return_, 1) → W p l e (rmo fr lo) s m args below meth c H locs 0 0 Q (F0 m pc ls [])) → W p l e (rmo fr lo) s m args below meth c s.heap [] 0 0 Q (F0 m 0 ls [])) :
    Met l y (wsU y cc nL none) (rmo fr lo) (va_Pc av (Wd0 D ad cs G A M)) (va_Qv (fun u => u = z) (Wd0 D ad cs G A) A) 0 0 A := by
  refine ct_in hy hown hG hn (fun p e s m args below meth c ls F hr hlk X hl => ?_)
  refine body p e s m args below meth c _ ls F X hl (fun H locs M' pc ls X' hz hd => ?_)
  have hS := X'.2.2.1
  exact W.vret (hlocks := hlk) F.1 F.2.1 hr (fun t ht hW => ⟨⟨M', rfl, hz, X'.at ht hW⟩, hS.F ht⟩) hS.2.2 hd
theorem ct_i {z : Int32 × Mem} (hy : plainName y.cls = true) (hown : y.cls = own) (hG : okG G = true) (hn : (lg_sl av).length ≤ nL)
    (body : ∀ (p : Program) (e : Env) (s : State) (m : MethodId) (args : Array Value) (below : List Frame) (meth : Method) (c : Code) (Q : State → Prop) (ls : Array Slot), CallFix p m c cc nL s args TS own → Wd D ad cs G A s s.heap [] M → lv_has ls nL (lv_args 0 av) → (∀ (H : Heap) (locs : List Loc) (M' : Mem) (r : Int32) (pc : Nat) (ls : Array Slot), Wd D ad cs G A s H locs M' → (r, M') = z → decode cc pc = .ok (.ireturn, 1) → W p l e (rmo fr lo) s m args below meth c H locs 0 0 Q (F0 m pc ls [.int r])) → W p l e (rmo fr lo) s m args below meth c s.heap [] 0 0 Q (F0 m 0 ls [])) :
    Met l y (wsU y cc nL (some .int)) (rmo fr lo) (va_Pc av (Wd0 D ad cs G A M)) (va_Qi (fun r u => (r, u) = z) (Wd0 D ad cs G A) A) 0 0 A := by
  refine ct_in hy hown hG hn (fun p e s m args below meth c ls F hr hlk X hl => ?_)
  refine body p e s m args below meth c _ ls F X hl (fun H locs M' r pc ls X' hz hd => ?_)
  have hS := X'.2.2.1
  exact W.iret (hlocks := hlk) (v := r) F.1 F.2.1 hr (fun t ht hW => ⟨⟨r, M', rfl, hz, X'.at ht hW⟩, hS.F ht⟩) hS.2.2 hd
theorem ct_z {z : Int32 × Mem} (hy : plainName y.cls = true) (hown : y.cls = own) (hG : okG G = true) (hn : (lg_sl av).length ≤ nL)
    (body : ∀ (p : Program) (e : Env) (s : State) (m : MethodId) (args : Array Value) (below : List Frame) (meth : Method) (c : Code) (Q : State → Prop) (ls : Array Slot), CallFix p m c cc nL s args TS own → Wd D ad cs G A s s.heap [] M → lv_has ls nL (lv_args 0 av) → (∀ (H : Heap) (locs : List Loc) (M' : Mem) (r : Int32) (pc : Nat) (ls : Array Slot), Wd D ad cs G A s H locs M' → (r, M') = z → (r = 0 ∨ r = 1) → decode cc pc = .ok (.ireturn, 1) → W p l e (rmo fr lo) s m args below meth c H locs 0 0 Q (F0 m pc ls [.int r])) → W p l e (rmo fr lo) s m args below meth c s.heap [] 0 0 Q (F0 m 0 ls [])) :
    Met l y (wsU y cc nL (some .boolean)) (rmo fr lo) (va_Pc av (Wd0 D ad cs G A M)) (va_Qi (fun r u => (r, u) = z) (Wd0 D ad cs G A) A) 0 0 A := by
  refine ct_in hy hown hG hn (fun p e s m args below meth c ls F hr hlk X hl => ?_)
  refine body p e s m args below meth c _ ls F X hl (fun H locs M' r pc ls X' hz h01 hd => ?_)
  have hS := X'.2.2.1
  exact W.zret (hlocks := hlk) (v := r) F.1 F.2.1 hr (by rcases h01 with rfl | rfl <;> rfl) (fun t ht hW => ⟨⟨r, M', rfl, hz, X'.at ht hW⟩, hS.F ht⟩) hS.2.2 hd
theorem ct_l {z : Int64 × Mem} (hy : plainName y.cls = true) (hown : y.cls = own) (hG : okG G = true) (hn : (lg_sl av).length ≤ nL)
    (body : ∀ (p : Program) (e : Env) (s : State) (m : MethodId) (args : Array Value) (below : List Frame) (meth : Method) (c : Code) (Q : State → Prop) (ls : Array Slot), CallFix p m c cc nL s args TS own → Wd D ad cs G A s s.heap [] M → lv_has ls nL (lv_args 0 av) → (∀ (H : Heap) (locs : List Loc) (M' : Mem) (r : Int64) (pc : Nat) (ls : Array Slot), Wd D ad cs G A s H locs M' → (r, M') = z → decode cc pc = .ok (.lreturn, 1) → W p l e (rmo fr lo) s m args below meth c H locs 0 0 Q (F0 m pc ls [.long r])) → W p l e (rmo fr lo) s m args below meth c s.heap [] 0 0 Q (F0 m 0 ls [])) :
    Met l y (wsU y cc nL (some .long)) (rmo fr lo) (va_Pc av (Wd0 D ad cs G A M)) (va_Ql (fun r u => (r, u) = z) (Wd0 D ad cs G A) A) 0 0 A := by
  refine ct_in hy hown hG hn (fun p e s m args below meth c ls F hr hlk X hl => ?_)
  refine body p e s m args below meth c _ ls F X hl (fun H locs M' r pc ls X' hz hd => ?_)
  have hS := X'.2.2.1
  exact W.lret (hlocks := hlk) (v := r) F.1 F.2.1 hr (fun t ht hW => ⟨⟨r, M', rfl, hz, X'.at ht hW⟩, hS.F ht⟩) hS.2.2 hd
theorem ct_r {z : Nat} {C : String} (hy : plainName y.cls = true) (hown : y.cls = own) (hG : okG G = true) (hn : (lg_sl av).length ≤ nL)
    (body : ∀ (p : Program) (e : Env) (s : State) (m : MethodId) (args : Array Value) (below : List Frame) (meth : Method) (c : Code) (Q : State → Prop) (ls : Array Slot), CallFix p m c cc nL s args TS own → Wd D ad cs G A s s.heap [] M → lv_has ls nL (lv_args 0 av) → (∀ (H : Heap) (locs : List Loc) (o pc : Nat) (ls : Array Slot), Wd D ad cs G A s H locs M → o = z → decode cc pc = .ok (.areturn, 1) → W p l e (rmo fr lo) s m args below meth c H locs 0 0 Q (F0 m pc ls [.ref (ad (cO G o))])) → W p l e (rmo fr lo) s m args below meth c s.heap [] 0 0 Q (F0 m 0 ls [])) :
    Met l y (wsU y cc nL (some (.object C))) (rmo fr lo) (va_Pc av (Wd0 D ad cs G A M)) (va_Qr (fun u => u = M) (fun u q t => Wd0 D ad cs G A u t ∧ q = ad (cO G z)) A) 0 0 A := by
  refine ct_in hy hown hG hn (fun p e s m args below meth c ls F hr hlk X hl => ?_)
  refine body p e s m args below meth c _ ls F X hl (fun H locs o pc ls X' hz hd => ?_)
  have hS := X'.2.2.1
  subst hz
  exact W.aret (hlocks := hlk) (v := .ref (ad (cO G o))) F.1 F.2.1 hr (Or.inl ⟨_, rfl⟩) (Or.inr ⟨_, rfl⟩) (fun t ht hW => ⟨⟨M, ad (cO G o), rfl, rfl, X'.at ht hW, rfl⟩, hS.F ht⟩) hS.2.2 hd
end Entry
section Rules2
variable {p : Program} {l : Launch} {e : Env} {R : Room} {s : State} {m : MethodId} {args : Array Value} {below : List Frame} {meth : Method} {c : Code} {H : Heap} {locs : List Loc} {cells slots : Nat} {Q : State → Prop}
variable {cc : ByteArray} {nL pc : Nat} {ls : Array Slot} {rest st : List Value} {D : va_G} {ad : Nat → Nat} {cs : Nat → ClassId} {G : List Ge} {A : Nat → Prop} {M : Mem} {own : String}
abbrev inB (i : Int32) (n : Nat) : Prop := ¬ (i < 0 ∨ n ≤ i.toNatClampNeg)
def imin (x y : Int32) : Int32 := if y < x then y else x
def imax (x y : Int32) : Int32 := if x < y then y else x
theorem toInt_ne {x v : Int32} (h : ¬ x = v) : ¬ v.toInt = x.toInt := fun e => h (Int32.toInt_inj.mp e.symm)
theorem r_tabI {x v : Int32} {dflt lo hi off : Int} {offs : Array Int} {len tgt : Nat} (hx : p.tables.exec = Jvm.exec) (hb : c.code = cc) (hd : decode cc pc = .ok (.tableswitch dflt lo hi offs, len)) (hv : x = v) (h1 : ¬ v.toInt < lo) (h2 : ¬ hi < v.toInt) (ho : offs[(v.toInt - lo).toNat]? = some off) (ht : (pc : Int) + off = (tgt : Int)) (k : W p l e R s m args below meth c H locs cells slots Q (F0 m tgt ls rest)) : W p l e R s m args below meth c H locs cells slots Q (F0 m pc ls (.int x :: rest)) := by
  subst hv
  exact lv_tableIn hx hb hd h1 h2 ho ht k
theorem tab_out {x : Int32} {n : Nat} (hn : n < 2 ^ 31) (h : ∀ k : Nat, k ≤ n → ¬ x = nI k) : x.toInt < 0 ∨ (n : Int) < x.toInt := by
  by_cases h0 : x.toInt < 0
  · exact Or.inl h0
  · by_cases h1 : (n : Int) < x.toInt
    · exact Or.inr h1
    · exfalso
      refine h x.toInt.toNat (by omega) ?_
      apply Int32.toInt_inj.mp
      rw [nI_toInt (by omega)]
      omega
theorem r_tabO {x : Int32} {dflt hi : Int} {offs : Array Int} {len tgt : Nat} (hx : p.tables.exec = Jvm.exec) (hb : c.code = cc) (hd : decode cc pc = .ok (.tableswitch dflt 0 hi offs, len)) (n : Nat) (hn : n < 2 ^ 31) (hi' : hi = (n : Int)) (h : ∀ k : Nat, k ≤ n → ¬ x = nI k) (ht : (pc : Int) + dflt = (tgt : Int)) (k : W p l e R s m args below meth c H locs cells slots Q (F0 m tgt ls rest)) : W p l e R s m args below meth c H locs cells slots Q (F0 m pc ls (.int x :: rest)) := by
  subst hi'
  exact lv_tableOut hx hb hd (tab_out hn h) ht k
theorem r_lk2 {x : Int32} (k1 k2 : Int32) {a1 a2 o1 o2 dflt : Int} {len t1 t2 t3 : Nat} (hx : p.tables.exec = Jvm.exec) (hb : c.code = cc) (hd : decode cc pc = .ok (.lookupswitch dflt #[(a1, o1), (a2, o2)], len)) (e1 : k1.toInt = a1) (e2 : k2.toInt = a2) (hlt : a1 < a2) (h1 : (pc : Int) + o1 = (t1 : Int)) (h2 : (pc : Int) + o2 = (t2 : Int)) (h3 : (pc : Int) + dflt = (t3 : Int))
    (w1 : x = k1 → W p l e R s m args below meth c H locs cells slots Q (F0 m t1 ls rest)) (w2 : ¬ x = k1 → x = k2 → W p l e R s m args below meth c H locs cells slots Q (F0 m t2 ls rest)) (w3 : ¬ x = k1 → ¬ x = k2 → W p l e R s m args below meth c H locs cells slots Q (F0 m t3 ls rest)) : W p l e R s m args below meth c H locs cells slots Q (F0 m pc ls (.int x :: rest)) := by
  have hp : ((#[(a1, o1), (a2, o2)] : Array (Int × Int)).toList.zip ((#[(a1, o1), (a2, o2)] : Array (Int × Int)).toList.drop 1)).all (fun (a, next) => a.1 < next.1) = true := by
    simp [hlt]
  by_cases c1 : x = k1
  · refine lv_lookup hx hb hd hp (off := o1) ?_ h1 (w1 c1)
    rw [show (#[(a1, o1), (a2, o2)] : Array (Int × Int)).toList = [(a1, o1), (a2, o2)] from rfl, Op.lookupswitch.offset_cons, if_pos (by rw [c1, e1])]
  · by_cases c2 : x = k2
    · refine lv_lookup hx hb hd hp (off := o2) ?_ h2 (w2 c1 c2)
      rw [show (#[(a1, o1), (a2, o2)] : Array (Int × Int)).toList = [(a1, o1), (a2, o2)] from rfl, Op.lookupswitch.offset_cons, if_neg (by rw [← e1]; exact toInt_ne c1), Op.lookupswitch.offset_cons, if_pos (by rw [c2, e2])]
    · refine lv_lookup hx hb hd hp (off := dflt) ?_ h3 (w3 c1 c2)
      rw [show (#[(a1, o1), (a2, o2)] : Array (Int × Int)).toList = [(a1, o1), (a2, o2)] from rfl, Op.lookupswitch.offset_cons, if_neg (by rw [← e1]; exact toInt_ne c1), Op.lookupswitch.offset_cons, if_neg (by rw [← e2]; exact toInt_ne c2), Op.lookupswitch.offset_nil]
theorem r_mmin (F : CallFix p m c cc nL s args TS own) (hls : ls.size = nL) {index : Nat} (h1 : Cond.methodLink own index Lib.Math.min.name ∈ TS) (h2 : Cond.static Lib.Math.min.name ∈ TS) (h3 : Cond.initialized "java/lang/Math" ∈ TS) (h4 : Cond.code Lib.Math.min.name Lib.Math.min.code 2 (some .int) ∈ TS) (hframes : 1 ≤ R.frames) (hlocals : (rest.map fun v => v.category).sum + 13 ≤ R.locals) {x y : Int32} (hd : decode cc pc = .ok (.invokestatic index, 3))
    (kk : W p l e R s m args below meth c H locs 0 0 Q (F0 m (pc + 3) ls (.int (imin x y) :: rest))) : W p l e R s m args below meth c H locs 0 0 Q (F0 m pc ls (.int y :: .int x :: rest)) :=
  va_mmin F.1 F.2.1 (F.2.2.1.trans hls.symm) F.2.2.2.1 (F.2.2.2.2 _ h1) (F.2.2.2.2 _ h2) (F.2.2.2.2 _ h3) (F.2.2.2.2 _ h4) hframes hlocals (Nat.zero_le _) (Nat.zero_le _) hd kk
theorem r_mmax (F : CallFix p m c cc nL s args TS own) (hls : ls.size = nL) {index : Nat} (h1 : Cond.methodLink own index Lib.Math.max.name ∈ TS) (h2 : Cond.static Lib.Math.max.name ∈ TS) (h3 : Cond.initialized "java/lang/Math" ∈ TS) (h4 : Cond.code Lib.Math.max.name Lib.Math.max.code 2 (some .int) ∈ TS) (hframes : 1 ≤ R.frames) (hlocals : (rest.map fun v => v.category).sum + 13 ≤ R.locals) {x y : Int32} (hd : decode cc pc = .ok (.invokestatic index, 3))
    (kk : W p l e R s m args below meth c H locs 0 0 Q (F0 m (pc + 3) ls (.int (imax x y) :: rest))) : W p l e R s m args below meth c H locs 0 0 Q (F0 m pc ls (.int y :: .int x :: rest)) :=
  va_mmax F.1 F.2.1 (F.2.2.1.trans hls.symm) F.2.2.2.1 (F.2.2.2.2 _ h1) (F.2.2.2.2 _ h2) (F.2.2.2.2 _ h3) (F.2.2.2.2 _ h4) hframes hlocals (Nat.zero_le _) (Nat.zero_le _) hd kk
theorem r_calli0 {z : Int32} {a : Array Value} (X : Wd D ad cs G A s H locs M) (hr : va_Run p l e R s m args below meth c H locs 0 0 0 0 (F0 m pc ls st) rest (va_Qi (fun r u => (r, u) = (z, M)) (Wd0 D ad cs G A) A a) A)
    (kk : ∀ (H : Heap) (locs : List Loc), Wd D ad cs G A s H locs M → W p l e R s m args below meth c H locs 0 0 Q (F0 m (pc + 3) ls (.int z :: rest))) : W p l e R s m args below meth c H locs 0 0 Q (F0 m pc ls st) := r_calli X hr kk
theorem r_calll0 {z : Int64} {a : Array Value} (X : Wd D ad cs G A s H locs M) (hr : va_Run p l e R s m args below meth c H locs 0 0 0 0 (F0 m pc ls st) rest (va_Ql (fun r u => (r, u) = (z, M)) (Wd0 D ad cs G A) A a) A)
    (kk : ∀ (H : Heap) (locs : List Loc), Wd D ad cs G A s H locs M → W p l e R s m args below meth c H locs 0 0 Q (F0 m (pc + 3) ls (.long z :: rest))) : W p l e R s m args below meth c H locs 0 0 Q (F0 m pc ls st) := r_calll X hr kk
/-- TEMPER_MOST -/
theorem r_most (F : CallFix p m c cc nL s args TS RX9) (X : Wd D ad cs G A s H locs M) {index : Nat} (h1 : Cond.fieldLink RX9 index "DonkeyExecutor" "TEMPER_MOST" "[I" ∈ TS) (hd : decode cc pc = .ok (.getstatic index, 3))
    (kk : ∀ t : Nat, va_T .int t 4 (fun j => .int (tMost j)) A s s.heap → W p l e R s m args below meth c H locs cells slots Q (F0 m (pc + 3) ls (.ref t :: rest))) : W p l e R s m args below meth c H locs cells slots Q (F0 m pc ls rest) := by
  obtain ⟨t, hz, ht⟩ := X.2.2.2.2.2
  exact va_gets F.1 F.2.1 hz X.2.2.1 F.2.2.2.1 (F.2.2.2.2 _ h1) (fun _ h9 => h9) hd (kk t ht)
theorem r_mostAt (F : CallFix p m c cc nL s args TS own) (X : Wd D ad cs G A s H locs M) {t : Nat} (ht : va_T .int t 4 (fun j => .int (tMost j)) A s s.heap) {i : Int32} (hin : vp_in i 4) (hd : decode cc pc = .ok (.iaload, 1))
    (kk : W p l e R s m args below meth c H locs cells slots Q (F0 m (pc + 1) ls (.int (tMost i.toNatClampNeg) :: rest))) : W p l e R s m args below meth c H locs cells slots Q (F0 m pc ls (.int i :: .ref t :: rest)) :=
  va_ti F.1 F.2.1 ht X.2.2.1 hin rfl hd kk
theorem r_mostLen (F : CallFix p m c cc nL s args TS own) (X : Wd D ad cs G A s H locs M) {t : Nat} (ht : va_T .int t 4 (fun j => .int (tMost j)) A s s.heap) (hd : decode cc pc = .ok (.arraylength, 1))
    (kk : W p l e R s m args below meth c H locs cells slots Q (F0 m (pc + 1) ls (.int 4 :: rest))) : W p l e R s m args below meth c H locs cells slots Q (F0 m pc ls (.ref t :: rest)) :=
  va_tlen F.1 F.2.1 ht X.2.2.1 rfl hd kk
end Rules2
section Entry2
variable {l : Launch} {D : va_G} {ad : Nat → Nat} {cs : Nat → ClassId} {G : List Ge} {A : Nat → Prop} {M : Mem} {own : String} {y : MethodName} {cc : ByteArray} {nL fr lo : Nat} {av : List Value}
theorem ct_i0 {z : Int32} (hy : plainName y.cls = true) (hown : y.cls = own) (hG : okG G = true) (hn : (lg_sl av).length ≤ nL)
    (body : ∀ (p : Program) (e : Env) (s : State) (m : MethodId) (args : Array Value) (below : List Frame) (meth : Method) (c : Code) (Q : State → Prop) (ls : Array Slot), CallFix p m c cc nL s args TS own → Wd D ad cs G A s s.heap [] M → lv_has ls nL (lv_args 0 av) → (∀ (H : Heap) (locs : List Loc) (r : Int32) (pc : Nat) (ls : Array Slot), Wd D ad cs G A s H locs M → r = z → decode cc pc = .ok (.ireturn, 1) → W p l e (rmo fr lo) s m args below meth c H locs 0 0 Q (F0 m pc ls [.int r])) → W p l e (rmo fr lo) s m args below meth c s.heap [] 0 0 Q (F0 m 0 ls [])) :
    Met l y (wsU y cc nL (some .int)) (rmo fr lo) (va_Pc av (Wd0 D ad cs G A M)) (va_Qi (fun r u => (r, u) = (z, M)) (Wd0 D ad cs G A) A) 0 0 A :=
  ct_i hy hown hG hn (fun p e s m args below meth c Q ls F X hl RT => body p e s m args below meth c Q ls F X hl (fun H locs r pc ls X' hr hd => RT H locs M r pc ls X' (by rw [hr]) hd))
theorem ct_z0 {z : Int32} (hy : plainName y.cls = true) (hown : y.cls = own) (hG : okG G = true) (hn : (lg_sl av).length ≤ nL)
    (body : ∀ (p : Program) (e : Env) (s : State) (m : MethodId) (args : Array Value) (below : List Frame) (meth : Method) (c : Code) (Q : State → Prop) (ls : Array Slot), CallFix p m c cc nL s args TS own → Wd D ad cs G A s s.heap [] M → lv_has ls nL (lv_args 0 av) → (∀ (H : Heap) (locs : List Loc) (r : Int32) (pc : Nat) (ls : Array Slot), Wd D ad cs G A s H locs M → r = z → (r = 0 ∨ r = 1) → decode cc pc = .ok (.ireturn, 1) → W p l e (rmo fr lo) s m args below meth c H locs 0 0 Q (F0 m pc ls [.int r])) → W p l e (rmo fr lo) s m args below meth c s.heap [] 0 0 Q (F0 m 0 ls [])) :
    Met l y (wsU y cc nL (some .boolean)) (rmo fr lo) (va_Pc av (Wd0 D ad cs G A M)) (va_Qi (fun r u => (r, u) = (z, M)) (Wd0 D ad cs G A) A) 0 0 A :=
  ct_z hy hown hG hn (fun p e s m args below meth c Q ls F X hl RT => body p e s m args below meth c Q ls F X hl (fun H locs r pc ls X' hr h01 hd => RT H locs M r pc ls X' (by rw [hr]) h01 hd))
theorem ct_l0 {z : Int64} (hy : plainName y.cls = true) (hown : y.cls = own) (hG : okG G = true) (hn : (lg_sl av).length ≤ nL)
    (body : ∀ (p : Program) (e : Env) (s : State) (m : MethodId) (args : Array Value) (below : List Frame) (meth : Method) (c : Code) (Q : State → Prop) (ls : Array Slot), CallFix p m c cc nL s args TS own → Wd D ad cs G A s s.heap [] M → lv_has ls nL (lv_args 0 av) → (∀ (H : Heap) (locs : List Loc) (r : Int64) (pc : Nat) (ls : Array Slot), Wd D ad cs G A s H locs M → r = z → decode cc pc = .ok (.lreturn, 1) → W p l e (rmo fr lo) s m args below meth c H locs 0 0 Q (F0 m pc ls [.long r])) → W p l e (rmo fr lo) s m args below meth c s.heap [] 0 0 Q (F0 m 0 ls [])) :
    Met l y (wsU y cc nL (some .long)) (rmo fr lo) (va_Pc av (Wd0 D ad cs G A M)) (va_Ql (fun r u => (r, u) = (z, M)) (Wd0 D ad cs G A) A) 0 0 A :=
  ct_l hy hown hG hn (fun p e s m args below meth c Q ls F X hl RT => body p e s m args below meth c Q ls F X hl (fun H locs r pc ls X' hr hd => RT H locs M r pc ls X' (by rw [hr]) hd))
end Entry2
def GC : List Ge := [(0, 0, 9, 0), (0, 1, 8, 64), (0, 1, 9, 100), (0, 4, 21, 4), (1, 0, 3, 0), (1, 1, 0, 31), (2, 0, 3, 0), (2, 1, 0, 20), (3, 0, 2, 0), (3, 1, 0, 8), (3, 1, 1, 8), (3, 1, 2, 8), (3, 1, 3, 4), (3, 1, 4, 20), (4, 0, 5, 0), (4, 1, 1, 20), (4, 1, 2, 20), (4, 1, 3, 20), (4, 1, 4, 20), (4, 1, 5, 168), (4, 1, 6, 168), (4, 1, 7, 168), (5, 0, 7, 0), (5, 1, 0, 8), (5, 1, 1, 8), (5, 1, 2, 8), (6, 0, 6, 0), (6, 1, 2, 20), (7, 0, 2, 0), (7, 1, 0, 8), (7, 1, 1, 8), (7, 1, 2, 8), (7, 1, 3, 4), (7, 1, 4, 20), (8, 0, 7, 0), (8, 1, 0, 8), (8, 1, 1, 8), (8, 1, 2, 8), (9, 0, 1, 0), (9, 1, 0, 6), (10, 0, 8, 0), (10, 1, 0, 8), (10, 1, 1, 8), (11, 0, 0, 0), (11, 3, 12, 9), (11, 1, 1, 8), (11, 1, 2, 8), (12, 0, 7, 0), (12, 1, 0, 8), (12, 1, 1, 8), (12, 1, 2, 8), (13, 0, 7, 0), (13, 1, 0, 8), (13, 1, 1, 8), (13, 1, 2, 8), (14, 0, 7, 0), (14, 1, 0, 8), (14, 1, 1, 8), (14, 1, 2, 8), (15, 0, 7, 0), (15, 1, 0, 8), (15, 1, 1, 8), (15, 1, 2, 8), (16, 0, 7, 0), (16, 1, 0, 8), (16, 1, 1, 8), (16, 1, 2, 8), (17, 0, 7, 0), (17, 1, 0, 8), (17, 1, 1, 8), (17, 1, 2, 8), (18, 0, 7, 0), (18, 1, 0, 8), (18, 1, 1, 8), (18, 1, 2, 8), (19, 0, 7, 0), (19, 1, 0, 8), (19, 1, 1, 8), (19, 1, 2, 8), (20, 0, 7, 0), (20, 1, 0, 8), (20, 1, 1, 8), (20, 1, 2, 8), (21, 0, 4, 0), (21, 1, 0, 60), (22, 0, 4, 0), (22, 1, 0, 60), (23, 0, 4, 0), (23, 1, 0, 60), (24, 0, 4, 0), (24, 1, 0, 60)]
def GM : List Ge := [(0, 0, 10, 0), (0, 1, 0, 2), (0, 1, 1, 62), (0, 1, 3, 9), (0, 1, 4, 9), (0, 1, 5, 9), (0, 1, 7, 20), (0, 1, 8, 4), (0, 1, 10, 6), (0, 1, 12, 20), (0, 1, 20, 8), (0, 1, 21, 8), (0, 1, 22, 8), (0, 1, 24, 20), (0, 1, 25, 20), (0, 1, 26, 20), (0, 1, 27, 20), (0, 1, 28, 168), (0, 1, 29, 168), (0, 1, 30, 168), (0, 1, 31, 8), (0, 1, 33, 8), (0, 1, 34, 8), (0, 1, 35, 200), (0, 2, 36, 4), (0, 1, 37, 4), (0, 1, 38, 4), (0, 1, 39, 240), (0, 1, 40, 60)]
theorem okGC : okG GC = true := by decide +kernel
theorem okGM : okG GM = true := by decide +kernel
