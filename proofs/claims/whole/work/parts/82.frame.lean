/-! ===== worlds with an unseen rest ===== -/
theorem P_mem {D : va_G} {cl : List vw_C} {w w' : va_W} {H : Heap} (h : va_P D cl w H) (hs : ∀ x ∈ w', x ∈ w) : va_P D cl w' H := by
  intro k q hk
  obtain ⟨i, hi⟩ := List.getElem?_of_mem (hs q (List.mem_of_getElem? hk))
  exact h i q hi
theorem P_perm {D : va_G} {cl : List vw_C} {w w' : va_W} {H : Heap} (hp : w.Perm w') (h : va_P D cl w H) : va_P D cl w' H := P_mem h (fun _ hx => hp.mem_iff.mpr hx)
theorem D_nodup {A : Nat → Prop} {w : va_W} : va_D A w ↔ (w.map Prod.fst).Nodup ∧ ∀ q ∈ w, A q.1 := by
  constructor
  · rintro ⟨h1, h2⟩
    refine ⟨?_, fun q hq => ?_⟩
    · rw [List.Nodup, List.pairwise_iff_getElem]
      intro i j hi hj hij he
      rw [List.length_map] at hi hj
      rw [List.getElem_map, List.getElem_map] at he
      exact Nat.ne_of_lt hij (h1 i j w[i] w[j] (List.getElem?_eq_getElem hi) (List.getElem?_eq_getElem hj) he)
    · obtain ⟨i, hi⟩ := List.getElem?_of_mem hq
      exact h2 i q hi
  · rintro ⟨h1, h2⟩
    refine ⟨fun i j x y hx hy hxy => ?_, fun k q hk => h2 q (List.mem_of_getElem? hk)⟩
    obtain ⟨hi, ei⟩ := List.getElem?_eq_some_iff.mp hx
    obtain ⟨hj, ej⟩ := List.getElem?_eq_some_iff.mp hy
    rw [List.Nodup, List.pairwise_iff_getElem] at h1
    rcases Nat.lt_trichotomy i j with h | h | h
    · exact absurd (by rw [List.getElem_map, List.getElem_map, ei, ej]; exact hxy) (h1 i j (by rw [List.length_map]; exact hi) (by rw [List.length_map]; exact hj) h)
    · exact h
    · exact absurd (by rw [List.getElem_map, List.getElem_map, ei, ej]; exact hxy.symm) (h1 j i (by rw [List.length_map]; exact hj) (by rw [List.length_map]; exact hi) h)
theorem D_perm {A : Nat → Prop} {w w' : va_W} (hp : w.Perm w') (h : va_D A w) : va_D A w' := by
  obtain ⟨h1, h2⟩ := D_nodup.mp h
  exact D_nodup.mpr ⟨(hp.map Prod.fst).nodup_iff.mp h1, fun q hq => h2 q (hp.mem_iff.mpr hq)⟩
theorem P_right {D : va_G} {cl : List vw_C} {w v : va_W} {H : Heap} (h : va_P D cl (w ++ v) H) : va_P D cl v H := P_mem h (fun _ hx => List.mem_append_right _ hx)
theorem P_left {D : va_G} {cl : List vw_C} {w v : va_W} {H : Heap} (h : va_P D cl (w ++ v) H) : va_P D cl w H := P_mem h (fun _ hx => List.mem_append_left _ hx)
theorem D_right {A : Nat → Prop} {w v : va_W} (h : va_D A (w ++ v)) : va_D A v := by
  obtain ⟨h1, h2⟩ := D_nodup.mp h
  rw [List.map_append] at h1
  exact D_nodup.mpr ⟨(List.nodup_append.mp h1).2.1, fun q hq => h2 q (List.mem_append_right _ hq)⟩
theorem D_left {A : Nat → Prop} {w v : va_W} (h : va_D A (w ++ v)) : va_D A w := by
  obtain ⟨h1, h2⟩ := D_nodup.mp h
  rw [List.map_append] at h1
  exact D_nodup.mpr ⟨(List.nodup_append.mp h1).1, fun q hq => h2 q (List.mem_append_left _ hq)⟩
theorem free_r {A0 : Nat → Prop} {wr wc : va_W} {H0 H : Heap} {locs : List Loc} (hD : va_D A0 (wr ++ wc)) (hS : va_S A0 H0 H locs) (hA : ∀ q, H0.size ≤ q → A0 q) : ∀ q, va_A wc H.size q → A0 q := by
  intro q h
  rcases h with ⟨k, e, h⟩ | h
  · exact (D_nodup.mp hD).2 (q, e) (List.mem_append_right _ (List.mem_of_getElem? h))
  · exact hA q (Nat.le_trans hS.1 h)
theorem join_r {A0 : Nat → Prop} {D : va_G} {cl : List vw_C} {wr wc w1 : va_W} {H H1 : Heap} (hP : va_P D cl (wr ++ wc) H) (hD : va_D A0 (wr ++ wc)) (hk : ∀ q : Nat, q < H.size → ¬ va_A wc H.size q → H1[q]? = H[q]?) (hF : ∀ q, va_A wc H.size q → A0 q) (hP1 : va_P D cl w1 H1) (hD1 : va_D (va_A wc H.size) w1) : va_P D cl (wr ++ w1) H1 ∧ va_D A0 (wr ++ w1) := by
  have apart : ∀ q ∈ wr, q.1 < H.size ∧ ¬ va_A wc H.size q.1 := by
    intro q hq
    obtain ⟨i, hi⟩ := List.getElem?_of_mem hq
    have hl := (P_left hP i q hi).lt
    refine ⟨hl, fun h => ?_⟩
    rcases h with ⟨k2, e, h⟩ | h
    · have h1 := (D_nodup.mp hD).1
      rw [List.map_append] at h1
      exact (List.nodup_append.mp h1).2.2 q.1 (List.mem_map.mpr ⟨q, hq, rfl⟩) q.1 (List.mem_map.mpr ⟨(q.1, e), List.mem_of_getElem? h, rfl⟩) rfl
    · omega
  refine ⟨va_P.app (fun k q hq => ?_) hP1, va_D.app (D_left hD) (hD1.weaken (fun k q _ h => hF q.1 h)) (fun i j x y hx hy hxy => ?_)⟩
  · obtain ⟨g1, g2⟩ := apart q (List.mem_of_getElem? hq)
    exact (P_left hP k q hq).kept (hk q.1 g1 g2)
  · exact (apart x (List.mem_of_getElem? hx)).2 (by rw [hxy]; exact hD1.2 j y hy)
theorem i_newR {p : Program} {l : Launch} {e : Env} {R : Room} {s : State} {m : MethodId} {args : Array Value} {below : List Frame} {meth : Method} {c : Code} {cc : ByteArray} {D : va_G} {cs : Nat → ClassId} {ws : va_W} {A : Nat → Prop} {H0 H : Heap} {locs : List Loc} {cells slots pc : Nat} {ls : Array Slot} {rest : List Value} {Q : State → Prop} (hexec : p.tables.exec = Jvm.exec) (hb : c.code = cc) {own C : String} {index : Nat} (hown : s.vm.findClass own = some m.cls) (hclink : (Cond.classLink own index C).before args s = true) (hover : va_AO C s) (hK : va_K D vwCl (tyU cs) s) (hP : va_P D vwCl ws H) (hD : va_D A ws) (hS : va_S A H0 H locs) (hA : ∀ q, H0.size ≤ q → A q) (t j : Nat) (ht : (tyU cs)[t]? = some (cs j, .object C)) (htl : (tyU cs)[t]? = (tyU cs ++ [(cs j, .object C)])[t]?)
    {n : Int32} {N : Nat} (hn : ¬ n < 0) (hN : n.toNatClampNeg = N) (hbytes : N * 4 ≤ 536870912) (hcells : cells + 1 ≤ R.cells) (hslots : slots + N ≤ R.slots) (hdg : decode cc pc = .ok (.anewarray index, 3))
    (kk : ∀ (q : Nat) (H1 : Heap), va_P D vwCl (ws ++ [(q, .inl (cs j, N, .inr (.inr (.inr (.inr (fun _ => none))))))]) H1 → va_D A (ws ++ [(q, .inl (cs j, N, .inr (.inr (.inr (.inr (fun _ => none))))))]) → va_S A H0 H1 locs → W p l e R s m args below meth c H1 locs (cells + 1) (slots + N) Q (F0 m (pc + 3) ls (.ref q :: rest))) : W p l e R s m args below meth c H locs cells slots Q (F0 m pc ls (.int n :: rest)) := by
  refine va_newq hexec hb hown hclink hover hK hP hD hS hA hn hN hbytes hcells hslots hdg (fun q cA H1 hK1 hP1 hD1 hS1 => ?_)
  have e : cA = cs j := ra_uniq (ty := .object C) (hK1.2 4 (cA, .object C) rfl).2 (hK.2 t (cs j, .object C) ht).2
  subst e
  exact kk q H1 hP1 hD1 hS1
/-- the copy of a static table of ints into an array of the world -/
theorem i_copyT {p : Program} {l : Launch} {e : Env} {R : Room} {s : State} {m : MethodId} {args : Array Value} {below : List Frame} {meth : Method} {c : Code} {cc : ByteArray} {D : va_G} {cs : Nat → ClassId} {ws : va_W} {A : Nat → Prop} {H : Heap} {locs : List Loc} {cells slots pc : Nat} {ls : Array Slot} {rest : List Value} {Q : State → Prop} (hexec : p.tables.exec = Jvm.exec) (hb : c.code = cc) (hml : c.maxLocals = ls.size) {own : String} {index : Nat} (hown : s.vm.findClass own = some m.cls) (hlink : (Cond.methodLink own index arraycopyName).before args s = true) (hnat : (Cond.native arraycopyName).before args s = true) (hstat : (Cond.static arraycopyName).before args s = true) (hini : (Cond.initialized "java/lang/System").before args s = true) {t a : Nat} {f g : Nat → Int32}
    (hT0 : va_T .int t 4 (fun j => .int (f j)) A s s.heap) (hK : va_K D vwCl (tyU cs) s) (hP : va_P D vwCl ws H) (hD : va_D A ws) (hS : va_S A s.heap H locs) (q1 : Nat) (ha : ws[q1]? = some (a, .inl (cs 1, 4, .inl g)))
    (hframes : 1 ≤ R.frames) (hlocals : (rest.map fun v => v.category).sum + (nativeFrameWords "java/lang/System" "arraycopy" 5 + 11) ≤ R.locals) (hdg : decode cc pc = .ok (.invokestatic index, 3))
    (kk : ∀ (H1 : Heap) (locs1 : List Loc), va_P D vwCl (ws.set q1 (a, .inl (cs 1, 4, .inl (va_cpy f g 0 0 4)))) H1 → va_D A (ws.set q1 (a, .inl (cs 1, 4, .inl (va_cpy f g 0 0 4)))) → va_S A s.heap H1 locs1 → W p l e R s m args below meth c H1 locs1 cells slots Q (F0 m (pc + 3) ls rest)) : W p l e R s m args below meth c H locs cells slots Q (F0 m pc ls (.int 4 :: .int 0 :: .ref a :: .int 0 :: .ref t :: rest)) := by
  intro T hT X
  obtain ⟨cell, h1, ⟨ho, k0, hk0, cm0, hkk0⟩, h3, h4, h5, h6, h7⟩ := hT0
  have hc0 : H[t]? = some cell := by rw [hS.2.1 t (Array.getElem?_eq_some_iff.mp h1).1 h7]; exact h1
  have hc1 : H[a]? = some (vp_cell (cs 1) (4, .inl g)) := hP q1 _ ha
  obtain ⟨-, k1, hk1, cm1, hkk1⟩ := (hK.2 0 _ rfl).1 4 (fun j => .int (g j))
  have rd : ∀ i : Nat, i < 4 → cell.slots.getD (0 + i) .null = .int (f i) := by
    intro i hi
    rw [Nat.zero_add, Array.getD_eq_getD_getElem?, h6 i hi]
    rfl
  obtain ⟨vm', X', step⟩ := X.arraycopy hexec hown hlink hnat hstat hini (src := t) (dst := a) (cs := cell) (cd := vp_cell (cs 1) (4, .inl g)) (srcPos := 0) (destPos := 0) (n := 4) (by rw [hT]; exact hc0) (by rw [hT]; exact hc1)
    ho (fun _ h => by cases h) h3 (fun h => by cases h) hk0 hk1 hkk0 hkk1 rfl (by decide) (by decide) (by decide)
    (by show ¬ (0 : Int) + 4 > _; omega)
    (by show ¬ (0 : Int) + 4 > ((arrV (cs 1) 4 (fun j => .int (g j))).slots.size : Int); rw [arrV_size]; omega)
    (fun vm₁ _ i hi => by
      have hi4 : i < 4 := hi
      have e : cell.slots.getD ((0 : Int32).toNatClampNeg + i) .null = .int (f i) := rd i hi4
      refine ⟨?_, ?_⟩
      · rw [e]; rfl
      · rw [e]; exact trivial)
    (g := F0 m pc ls (.int 4 :: .int 0 :: .ref a :: .int 0 :: .ref t :: rest)) rfl (by rw [hml]) (rest := rest) rfl (by rw [hb]; exact hdg) hframes (by show 2 * 0 + _ + _ ≤ _; omega)
  have es : cell.stretch 0 4 = (arrV (cs 1) 4 (fun j => .int (f j))).stretch 0 4 := by
    unfold Cell.stretch
    apply List.map_congr_left
    intro i hi
    have hi' := List.mem_range.mp hi
    rw [rd i hi', Array.getD_eq_getD_getElem?, arrV_read _ _ (by omega), Nat.zero_add]
    rfl
  have e1 : copied cell (vp_cell (cs 1) (4, .inl g)) 0 0 4 = vp_cell (cs 1) (4, .inl (va_cpy f g 0 0 4)) := by
    have := va_copied (fun z => Value.int z) (cs 1) (cs 1) (n0 := 4) (n1 := 4) (sp := 0) (dp := 0) (n := 4) f g (Nat.le_refl 4)
    rw [← es] at this
    exact this
  rw [e1] at X' step
  have hl : a < H.size := (Array.getElem?_eq_some_iff.mp hc1).1
  generalize hv : vp_cell (cs 1) (4, .inl (va_cpy f g 0 0 4)) = nc at X' step
  have hheap : ((T.setVm vm').setCell a nc).heap = H.setIfInBounds a nc := by rw [← hT]; rfl
  have oq : ∀ q : Nat, q ≠ a → (H.setIfInBounds a nc)[q]? = H[q]? := fun q hq => by simp [Array.getElem?_setIfInBounds, Ne.symm hq]
  obtain ⟨t2, a1, b1⟩ := kk _ _ (hP.set hD ha (show (H.setIfInBounds a nc)[a]? = some (vp_cell (cs 1) (4, .inl (va_cpy f g 0 0 4))) by rw [hv]; simp [Array.getElem?_setIfInBounds, hl]) oq) (hD.set ha) ⟨by simp; exact hS.1, fun q g1 g2 => by
      rw [oq q (fun e => g2 (by rw [e]; exact hD.2 q1 _ ha))]
      exact hS.2.1 q g1 g2, fun q hq => by
      rcases List.mem_append.mp hq with h | h
      · exact hS.2.2 q h
      · obtain ⟨z, -, hz⟩ := List.mem_map.mp h
        rw [← hz]
        exact hD.2 q1 _ ha⟩ _ hheap X'
  exact ⟨t2, step t2 a1, b1⟩
