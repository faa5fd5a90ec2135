/-! ===== constructors that make arrays only (written by gen_init.py) ===== -/
theorem i_newZ {p : Program} {l : Launch} {e : Env} {R : Room} {s : State} {m : MethodId} {args : Array Value} {below : List Frame} {meth : Method} {c : Code} {cc : ByteArray} {D : va_G} {cs : Nat → ClassId} {ws : va_W} {A : Nat → Prop} {H0 H : Heap} {locs : List Loc} {cells slots pc : Nat} {ls : Array Slot} {rest : List Value} {Q : State → Prop} (hexec : p.tables.exec = Jvm.exec) (hb : c.code = cc) (harr : (Cond.arrayClass .boolean).before args s = true) (hK : va_K D vwCl (tyU cs) s) (hP : va_P D vwCl ws H) (hD : va_D A ws) (hS : va_S A H0 H locs) (hA : ∀ q, H0.size ≤ q → A q)
    {n : Int32} {N : Nat} (hn : ¬ n < 0) (hN : n.toNatClampNeg = N) (hbytes : N * componentBytes .boolean ≤ 536870912) (hcells : cells + 1 ≤ R.cells) (hslots : slots + N ≤ R.slots) (hdg : decode cc pc = .ok (.newarray .boolean, 2))
    (kk : ∀ (q : Nat) (H1 : Heap), va_P D vwCl (ws ++ [(q, .inl (cs 2, N, .inl (fun _ => 0)))]) H1 → va_D A (ws ++ [(q, .inl (cs 2, N, .inl (fun _ => 0)))]) → va_S A H0 H1 locs → W p l e R s m args below meth c H1 locs (cells + 1) (slots + N) Q (F0 m (pc + 2) ls (.ref q :: rest))) : W p l e R s m args below meth c H locs cells slots Q (F0 m pc ls (.int n :: rest)) := by
  refine va_newa (atype := .boolean) (ty := .boolean) (a0 := (N, .inl (fun _ => 0))) hexec hb harr rfl hK hP hD hS hA (fun _ => rfl) hn hN hbytes hcells hslots hdg (fun q cA H1 hK1 hP1 hD1 hS1 => ?_)
  have e : cA = cs 2 := K_uniq 4 1 hK1 rfl rfl
  subst e
  exact kk q H1 hP1 hD1 hS1
set_option maxHeartbeats 4000000 in
theorem ci_X1 (l : Launch) (D : va_G) (cs : Nat → ClassId) (h0 sz : Nat) : Met l yX1_init (wsU yX1_init cX1_init 1 none) ({ frames := 1, cells := 1, slots := 6, locals := 12 }) (va_Pc [.ref h0] (fun U => U.heap.size = sz ∧ va_P D vwCl [(h0, .inr (1, [.null, .int 0]))] U.heap ∧ va_K D vwCl (tyU cs) U ∧ va_D (fun _ => True) [(h0, .inr (1, [.null, .int 0]))])) (va_Qv (fun _ : Nat → Nat => True) (fun u t => va_P D vwCl [(h0, .inr (1, [.ref (u 1), .int 0])), (u 1, .inl (cs 1, 6, .inl (fun _ => 0)))] t.heap ∧ va_K D vwCl (tyU cs) t ∧ va_D (va_A [(h0, .inr (1, [.null, .int 0]))] sz) [(h0, .inr (1, [.ref (u 1), .int 0])), (u 1, .inl (cs 1, 6, .inl (fun _ => 0)))]) (va_A [(h0, .inr (1, [.null, .int 0]))] sz)) 1 6 (va_A [(h0, .inr (1, [.null, .int 0]))] sz) := by
  refine Met.ofW (cc := cX1_init) (maxL := 1) (ret := none) (by decide) rfl ?_
  intro p e s m args below meth c s₁ B hml hv
  obtain ⟨rfl, hsz, hP, hK, hD0⟩ := hv
  have hx := B.exec
  have hb := B.bytes
  have hr := B.returns
  have hts0 := atoms_spec (ws := wsU yX1_init cX1_init 1 none) B.pre
  have hts : ∀ w ∈ TS, w.before #[Value.ref h0] s = true := fun w hw => hts0 w (List.mem_cons_of_mem _ hw)
  have hown : s.vm.findClass RX1 = some m.cls := findClass_of_methodNamed B.named
  have hlocks := B.notSynchronized
  have hin : meth.name = "<init>" := (name_of_methodNamed B.named B.method).1
  subst hsz
  have hD := hD0.self (sz := s.heap.size)
  generalize hAe : va_A [(h0, .inr (1, [.null, .int 0]))] s.heap.size = A at hD ⊢
  have hA : ∀ q : Nat, s.heap.size ≤ q → A q := fun q h => by rw [← hAe]; exact Or.inr h
  have hS : va_S A s.heap s.heap [] := va_S.rf
  have hl := lv_entry ([.ref h0]) (n := 1) (Nat.le_of_ble_eq_true rfl)
  rw [lg_entry_eq]
  generalize (lg_sl ([.ref h0]) ++ List.replicate (1 - (lg_sl ([.ref h0])).length) Slot.unset).toArray = ls at hl ⊢
  have hl : lv_has ls 1 [(0, .ref h0)] := hl
  refine lv_aload_n hx hb dX1_init_0 rfl (lv_at hl 0 rfl) ?_
  refine W.objInit hx hb hown (hts _ (mT1 224 rfl rfl)) (hts _ (mT1 21 rfl rfl)) (hts _ (mT1 22 rfl rfl)) rfl (by rw [hml]; exact hl.1) rfl dX1_init_1 (Nat.le_of_ble_eq_true rfl) (Nat.le_of_ble_eq_true rfl) ?_
  refine W.eq (g2 := F0 m 4 ls []) rfl ?_
  refine lv_aload_n hx hb dX1_init_4 rfl (lv_at hl 0 rfl) ?_
  refine lv_bipush hx hb dX1_init_5 rfl ?_
  refine i_newI (n := 6) (N := 6) hx hb (hts _ (mT1 39 rfl rfl)) hK hP hD hS hA (by decide) (by decide) (Nat.le_of_ble_eq_true rfl) (Nat.le_of_ble_eq_true rfl) (Nat.le_of_ble_eq_true rfl) dX1_init_7 (fun q7 H hP hD hS => ?_)
  have hP : va_P D vwCl [(h0, .inr (1, [.null, .int 0])), (q7, .inl (cs 1, 6, .inl (fun _ => 0)))] H := hP
  have hD : va_D A [(h0, .inr (1, [.null, .int 0])), (q7, .inl (cs 1, 6, .inl (fun _ => 0)))] := hD
  refine va_putF (D := D) (ci := 1) (v := .ref q7) (ty := .array .int) (C := RX1) (T := TX1) (N := 2) hx hb hts inT1 tyX1 tyX1_ok nmX1 hown hK hP hD hS 0 rfl rfl 0 (by decide) (hts _ (mT1 225 rfl rfl)) (fun _ h9 => h9) rfl hin rfl (by decide +kernel) rfl rfl (Nat.le_of_ble_eq_true rfl) dX1_init_9 (fun H locs hP hD hS => ?_)
  have hP : va_P D vwCl [(h0, .inr (1, [.ref q7, .int 0])), (q7, .inl (cs 1, 6, .inl (fun _ => 0)))] H := hP
  have hD : va_D A [(h0, .inr (1, [.ref q7, .int 0])), (q7, .inl (cs 1, 6, .inl (fun _ => 0)))] := hD
  refine lv_aload_n hx hb dX1_init_12 rfl (lv_at hl 0 rfl) ?_
  refine lv_iconst hx hb dX1_init_13 rfl ?_
  refine va_put (D := D) (ci := 1) (v := .int 0) (ty := .int) (C := RX1) (T := TX1) (N := 2) hx hb hts inT1 tyX1 tyX1_ok nmX1 hown hK hP hD hS 0 rfl rfl 1 (by decide) (hts _ (mT1 226 rfl rfl)) (fun _ h9 => h9) rfl (by decide +kernel) rfl rfl (Nat.le_of_ble_eq_true rfl) dX1_init_14 (fun H locs hP hD hS => ?_)
  have hP : va_P D vwCl [(h0, .inr (1, [.ref q7, .int 0])), (q7, .inl (cs 1, 6, .inl (fun _ => 0)))] H := hP
  have hD : va_D A [(h0, .inr (1, [.ref q7, .int 0])), (q7, .inl (cs 1, 6, .inl (fun _ => 0)))] := hD
  exact W.vret hx hb hr (fun t ht hW => ⟨⟨fun k => [h0, q7].getD k 0, rfl, trivial, by rw [ht]; exact hP, va_K.moved hW.alike hK, hD⟩, hS.F ht⟩) hS.2.2 dX1_init_17
set_option maxHeartbeats 4000000 in
theorem ci_X2 (l : Launch) (D : va_G) (cs : Nat → ClassId) (h0 sz : Nat) : Met l yX2_init (wsU yX2_init cX2_init 1 none) ({ frames := 1, cells := 5, slots := 48, locals := 12 }) (va_Pc [.ref h0] (fun U => U.heap.size = sz ∧ va_P D vwCl [(h0, .inr (2, [.null, .null, .null, .null, .null, .int 0, .int 0, .int 0, .int 0]))] U.heap ∧ va_K D vwCl (tyU cs) U ∧ va_D (fun _ => True) [(h0, .inr (2, [.null, .null, .null, .null, .null, .int 0, .int 0, .int 0, .int 0]))])) (va_Qv (fun _ : Nat → Nat => True) (fun u t => va_P D vwCl [(h0, .inr (2, [.ref (u 1), .ref (u 2), .ref (u 3), .ref (u 4), .ref (u 5), .int 0, .int 0, .int 0, .int (-1)])), (u 1, .inl (cs 1, 8, .inl (fun _ => 0))), (u 2, .inl (cs 1, 8, .inl (fun _ => 0))), (u 3, .inl (cs 1, 8, .inl (fun _ => 0))), (u 4, .inl (cs 1, 4, .inl (fun _ => 0))), (u 5, .inl (cs 1, 20, .inl (fun _ => 0)))] t.heap ∧ va_K D vwCl (tyU cs) t ∧ va_D (va_A [(h0, .inr (2, [.null, .null, .null, .null, .null, .int 0, .int 0, .int 0, .int 0]))] sz) [(h0, .inr (2, [.ref (u 1), .ref (u 2), .ref (u 3), .ref (u 4), .ref (u 5), .int 0, .int 0, .int 0, .int (-1)])), (u 1, .inl (cs 1, 8, .inl (fun _ => 0))), (u 2, .inl (cs 1, 8, .inl (fun _ => 0))), (u 3, .inl (cs 1, 8, .inl (fun _ => 0))), (u 4, .inl (cs 1, 4, .inl (fun _ => 0))), (u 5, .inl (cs 1, 20, .inl (fun _ => 0)))]) (va_A [(h0, .inr (2, [.null, .null, .null, .null, .null, .int 0, .int 0, .int 0, .int 0]))] sz)) 5 48 (va_A [(h0, .inr (2, [.null, .null, .null, .null, .null, .int 0, .int 0, .int 0, .int 0]))] sz) := by
  refine Met.ofW (cc := cX2_init) (maxL := 1) (ret := none) (by decide) rfl ?_
  intro p e s m args below meth c s₁ B hml hv
  obtain ⟨rfl, hsz, hP, hK, hD0⟩ := hv
  have hx := B.exec
  have hb := B.bytes
  have hr := B.returns
  have hts0 := atoms_spec (ws := wsU yX2_init cX2_init 1 none) B.pre
  have hts : ∀ w ∈ TS, w.before #[Value.ref h0] s = true := fun w hw => hts0 w (List.mem_cons_of_mem _ hw)
  have hown : s.vm.findClass RX2 = some m.cls := findClass_of_methodNamed B.named
  have hlocks := B.notSynchronized
  have hin : meth.name = "<init>" := (name_of_methodNamed B.named B.method).1
  subst hsz
  have hD := hD0.self (sz := s.heap.size)
  generalize hAe : va_A [(h0, .inr (2, [.null, .null, .null, .null, .null, .int 0, .int 0, .int 0, .int 0]))] s.heap.size = A at hD ⊢
  have hA : ∀ q : Nat, s.heap.size ≤ q → A q := fun q h => by rw [← hAe]; exact Or.inr h
  have hS : va_S A s.heap s.heap [] := va_S.rf
  have hl := lv_entry ([.ref h0]) (n := 1) (Nat.le_of_ble_eq_true rfl)
  rw [lg_entry_eq]
  generalize (lg_sl ([.ref h0]) ++ List.replicate (1 - (lg_sl ([.ref h0])).length) Slot.unset).toArray = ls at hl ⊢
  have hl : lv_has ls 1 [(0, .ref h0)] := hl
  refine lv_aload_n hx hb dX2_init_0 rfl (lv_at hl 0 rfl) ?_
  refine W.objInit hx hb hown (hts _ (mT1 45 rfl rfl)) (hts _ (mT1 21 rfl rfl)) (hts _ (mT1 22 rfl rfl)) rfl (by rw [hml]; exact hl.1) rfl dX2_init_1 (Nat.le_of_ble_eq_true rfl) (Nat.le_of_ble_eq_true rfl) ?_
  refine W.eq (g2 := F0 m 4 ls []) rfl ?_
  refine lv_aload_n hx hb dX2_init_4 rfl (lv_at hl 0 rfl) ?_
  refine lv_bipush hx hb dX2_init_5 rfl ?_
  refine i_newI (n := 8) (N := 8) hx hb (hts _ (mT1 39 rfl rfl)) hK hP hD hS hA (by decide) (by decide) (Nat.le_of_ble_eq_true rfl) (Nat.le_of_ble_eq_true rfl) (Nat.le_of_ble_eq_true rfl) dX2_init_7 (fun q7 H hP hD hS => ?_)
  have hP : va_P D vwCl [(h0, .inr (2, [.null, .null, .null, .null, .null, .int 0, .int 0, .int 0, .int 0])), (q7, .inl (cs 1, 8, .inl (fun _ => 0)))] H := hP
  have hD : va_D A [(h0, .inr (2, [.null, .null, .null, .null, .null, .int 0, .int 0, .int 0, .int 0])), (q7, .inl (cs 1, 8, .inl (fun _ => 0)))] := hD
  refine va_putF (D := D) (ci := 2) (v := .ref q7) (ty := .array .int) (C := RX2) (T := TX2) (N := 9) hx hb hts inT2 tyX2 tyX2_ok nmX2 hown hK hP hD hS 0 rfl rfl 0 (by decide) (hts _ (mT1 46 rfl rfl)) (fun _ h9 => h9) rfl hin rfl (by decide +kernel) rfl rfl (Nat.le_of_ble_eq_true rfl) dX2_init_9 (fun H locs hP hD hS => ?_)
  have hP : va_P D vwCl [(h0, .inr (2, [.ref q7, .null, .null, .null, .null, .int 0, .int 0, .int 0, .int 0])), (q7, .inl (cs 1, 8, .inl (fun _ => 0)))] H := hP
  have hD : va_D A [(h0, .inr (2, [.ref q7, .null, .null, .null, .null, .int 0, .int 0, .int 0, .int 0])), (q7, .inl (cs 1, 8, .inl (fun _ => 0)))] := hD
  refine lv_aload_n hx hb dX2_init_12 rfl (lv_at hl 0 rfl) ?_
  refine lv_bipush hx hb dX2_init_13 rfl ?_
  refine i_newI (n := 8) (N := 8) hx hb (hts _ (mT1 39 rfl rfl)) hK hP hD hS hA (by decide) (by decide) (Nat.le_of_ble_eq_true rfl) (Nat.le_of_ble_eq_true rfl) (Nat.le_of_ble_eq_true rfl) dX2_init_15 (fun q15 H hP hD hS => ?_)
  have hP : va_P D vwCl [(h0, .inr (2, [.ref q7, .null, .null, .null, .null, .int 0, .int 0, .int 0, .int 0])), (q7, .inl (cs 1, 8, .inl (fun _ => 0))), (q15, .inl (cs 1, 8, .inl (fun _ => 0)))] H := hP
  have hD : va_D A [(h0, .inr (2, [.ref q7, .null, .null, .null, .null, .int 0, .int 0, .int 0, .int 0])), (q7, .inl (cs 1, 8, .inl (fun _ => 0))), (q15, .inl (cs 1, 8, .inl (fun _ => 0)))] := hD
  refine va_putF (D := D) (ci := 2) (v := .ref q15) (ty := .array .int) (C := RX2) (T := TX2) (N := 9) hx hb hts inT2 tyX2 tyX2_ok nmX2 hown hK hP hD hS 0 rfl rfl 1 (by decide) (hts _ (mT1 48 rfl rfl)) (fun _ h9 => h9) rfl hin rfl (by decide +kernel) rfl rfl (Nat.le_of_ble_eq_true rfl) dX2_init_17 (fun H locs hP hD hS => ?_)
  have hP : va_P D vwCl [(h0, .inr (2, [.ref q7, .ref q15, .null, .null, .null, .int 0, .int 0, .int 0, .int 0])), (q7, .inl (cs 1, 8, .inl (fun _ => 0))), (q15, .inl (cs 1, 8, .inl (fun _ => 0)))] H := hP
  have hD : va_D A [(h0, .inr (2, [.ref q7, .ref q15, .null, .null, .null, .int 0, .int 0, .int 0, .int 0])), (q7, .inl (cs 1, 8, .inl (fun _ => 0))), (q15, .inl (cs 1, 8, .inl (fun _ => 0)))] := hD
  refine lv_aload_n hx hb dX2_init_20 rfl (lv_at hl 0 rfl) ?_
  refine lv_bipush hx hb dX2_init_21 rfl ?_
  refine i_newI (n := 8) (N := 8) hx hb (hts _ (mT1 39 rfl rfl)) hK hP hD hS hA (by decide) (by decide) (Nat.le_of_ble_eq_true rfl) (Nat.le_of_ble_eq_true rfl) (Nat.le_of_ble_eq_true rfl) dX2_init_23 (fun q23 H hP hD hS => ?_)
  have hP : va_P D vwCl [(h0, .inr (2, [.ref q7, .ref q15, .null, .null, .null, .int 0, .int 0, .int 0, .int 0])), (q7, .inl (cs 1, 8, .inl (fun _ => 0))), (q15, .inl (cs 1, 8, .inl (fun _ => 0))), (q23, .inl (cs 1, 8, .inl (fun _ => 0)))] H := hP
  have hD : va_D A [(h0, .inr (2, [.ref q7, .ref q15, .null, .null, .null, .int 0, .int 0, .int 0, .int 0])), (q7, .inl (cs 1, 8, .inl (fun _ => 0))), (q15, .inl (cs 1, 8, .inl (fun _ => 0))), (q23, .inl (cs 1, 8, .inl (fun _ => 0)))] := hD
  refine va_putF (D := D) (ci := 2) (v := .ref q23) (ty := .array .int) (C := RX2) (T := TX2) (N := 9) hx hb hts inT2 tyX2 tyX2_ok nmX2 hown hK hP hD hS 0 rfl rfl 2 (by decide) (hts _ (mT1 51 rfl rfl)) (fun _ h9 => h9) rfl hin rfl (by decide +kernel) rfl rfl (Nat.le_of_ble_eq_true rfl) dX2_init_25 (fun H locs hP hD hS => ?_)
  have hP : va_P D vwCl [(h0, .inr (2, [.ref q7, .ref q15, .ref q23, .null, .null, .int 0, .int 0, .int 0, .int 0])), (q7, .inl (cs 1, 8, .inl (fun _ => 0))), (q15, .inl (cs 1, 8, .inl (fun _ => 0))), (q23, .inl (cs 1, 8, .inl (fun _ => 0)))] H := hP
  have hD : va_D A [(h0, .inr (2, [.ref q7, .ref q15, .ref q23, .null, .null, .int 0, .int 0, .int 0, .int 0])), (q7, .inl (cs 1, 8, .inl (fun _ => 0))), (q15, .inl (cs 1, 8, .inl (fun _ => 0))), (q23, .inl (cs 1, 8, .inl (fun _ => 0)))] := hD
  refine lv_aload_n hx hb dX2_init_28 rfl (lv_at hl 0 rfl) ?_
  refine lv_iconst hx hb dX2_init_29 rfl ?_
  refine i_newI (n := 4) (N := 4) hx hb (hts _ (mT1 39 rfl rfl)) hK hP hD hS hA (by decide) (by decide) (Nat.le_of_ble_eq_true rfl) (Nat.le_of_ble_eq_true rfl) (Nat.le_of_ble_eq_true rfl) dX2_init_30 (fun q30 H hP hD hS => ?_)
  have hP : va_P D vwCl [(h0, .inr (2, [.ref q7, .ref q15, .ref q23, .null, .null, .int 0, .int 0, .int 0, .int 0])), (q7, .inl (cs 1, 8, .inl (fun _ => 0))), (q15, .inl (cs 1, 8, .inl (fun _ => 0))), (q23, .inl (cs 1, 8, .inl (fun _ => 0))), (q30, .inl (cs 1, 4, .inl (fun _ => 0)))] H := hP
  have hD : va_D A [(h0, .inr (2, [.ref q7, .ref q15, .ref q23, .null, .null, .int 0, .int 0, .int 0, .int 0])), (q7, .inl (cs 1, 8, .inl (fun _ => 0))), (q15, .inl (cs 1, 8, .inl (fun _ => 0))), (q23, .inl (cs 1, 8, .inl (fun _ => 0))), (q30, .inl (cs 1, 4, .inl (fun _ => 0)))] := hD
  refine va_putF (D := D) (ci := 2) (v := .ref q30) (ty := .array .int) (C := RX2) (T := TX2) (N := 9) hx hb hts inT2 tyX2 tyX2_ok nmX2 hown hK hP hD hS 0 rfl rfl 3 (by decide) (hts _ (mT1 54 rfl rfl)) (fun _ h9 => h9) rfl hin rfl (by decide +kernel) rfl rfl (Nat.le_of_ble_eq_true rfl) dX2_init_32 (fun H locs hP hD hS => ?_)
  have hP : va_P D vwCl [(h0, .inr (2, [.ref q7, .ref q15, .ref q23, .ref q30, .null, .int 0, .int 0, .int 0, .int 0])), (q7, .inl (cs 1, 8, .inl (fun _ => 0))), (q15, .inl (cs 1, 8, .inl (fun _ => 0))), (q23, .inl (cs 1, 8, .inl (fun _ => 0))), (q30, .inl (cs 1, 4, .inl (fun _ => 0)))] H := hP
  have hD : va_D A [(h0, .inr (2, [.ref q7, .ref q15, .ref q23, .ref q30, .null, .int 0, .int 0, .int 0, .int 0])), (q7, .inl (cs 1, 8, .inl (fun _ => 0))), (q15, .inl (cs 1, 8, .inl (fun _ => 0))), (q23, .inl (cs 1, 8, .inl (fun _ => 0))), (q30, .inl (cs 1, 4, .inl (fun _ => 0)))] := hD
  refine lv_aload_n hx hb dX2_init_35 rfl (lv_at hl 0 rfl) ?_
  refine lv_bipush hx hb dX2_init_36 rfl ?_
  refine i_newI (n := 20) (N := 20) hx hb (hts _ (mT1 39 rfl rfl)) hK hP hD hS hA (by decide) (by decide) (Nat.le_of_ble_eq_true rfl) (Nat.le_of_ble_eq_true rfl) (Nat.le_of_ble_eq_true rfl) dX2_init_38 (fun q38 H hP hD hS => ?_)
  have hP : va_P D vwCl [(h0, .inr (2, [.ref q7, .ref q15, .ref q23, .ref q30, .null, .int 0, .int 0, .int 0, .int 0])), (q7, .inl (cs 1, 8, .inl (fun _ => 0))), (q15, .inl (cs 1, 8, .inl (fun _ => 0))), (q23, .inl (cs 1, 8, .inl (fun _ => 0))), (q30, .inl (cs 1, 4, .inl (fun _ => 0))), (q38, .inl (cs 1, 20, .inl (fun _ => 0)))] H := hP
  have hD : va_D A [(h0, .inr (2, [.ref q7, .ref q15, .ref q23, .ref q30, .null, .int 0, .int 0, .int 0, .int 0])), (q7, .inl (cs 1, 8, .inl (fun _ => 0))), (q15, .inl (cs 1, 8, .inl (fun _ => 0))), (q23, .inl (cs 1, 8, .inl (fun _ => 0))), (q30, .inl (cs 1, 4, .inl (fun _ => 0))), (q38, .inl (cs 1, 20, .inl (fun _ => 0)))] := hD
  refine va_putF (D := D) (ci := 2) (v := .ref q38) (ty := .array .int) (C := RX2) (T := TX2) (N := 9) hx hb hts inT2 tyX2 tyX2_ok nmX2 hown hK hP hD hS 0 rfl rfl 4 (by decide) (hts _ (mT1 57 rfl rfl)) (fun _ h9 => h9) rfl hin rfl (by decide +kernel) rfl rfl (Nat.le_of_ble_eq_true rfl) dX2_init_40 (fun H locs hP hD hS => ?_)
  have hP : va_P D vwCl [(h0, .inr (2, [.ref q7, .ref q15, .ref q23, .ref q30, .ref q38, .int 0, .int 0, .int 0, .int 0])), (q7, .inl (cs 1, 8, .inl (fun _ => 0))), (q15, .inl (cs 1, 8, .inl (fun _ => 0))), (q23, .inl (cs 1, 8, .inl (fun _ => 0))), (q30, .inl (cs 1, 4, .inl (fun _ => 0))), (q38, .inl (cs 1, 20, .inl (fun _ => 0)))] H := hP
  have hD : va_D A [(h0, .inr (2, [.ref q7, .ref q15, .ref q23, .ref q30, .ref q38, .int 0, .int 0, .int 0, .int 0])), (q7, .inl (cs 1, 8, .inl (fun _ => 0))), (q15, .inl (cs 1, 8, .inl (fun _ => 0))), (q23, .inl (cs 1, 8, .inl (fun _ => 0))), (q30, .inl (cs 1, 4, .inl (fun _ => 0))), (q38, .inl (cs 1, 20, .inl (fun _ => 0)))] := hD
  refine lv_aload_n hx hb dX2_init_43 rfl (lv_at hl 0 rfl) ?_
  refine lv_iconst hx hb dX2_init_44 rfl ?_
  refine va_put (D := D) (ci := 2) (v := .int 0) (ty := .int) (C := RX2) (T := TX2) (N := 9) hx hb hts inT2 tyX2 tyX2_ok nmX2 hown hK hP hD hS 0 rfl rfl 5 (by decide) (hts _ (mT1 61 rfl rfl)) (fun _ h9 => h9) rfl (by decide +kernel) rfl rfl (Nat.le_of_ble_eq_true rfl) dX2_init_45 (fun H locs hP hD hS => ?_)
  have hP : va_P D vwCl [(h0, .inr (2, [.ref q7, .ref q15, .ref q23, .ref q30, .ref q38, .int 0, .int 0, .int 0, .int 0])), (q7, .inl (cs 1, 8, .inl (fun _ => 0))), (q15, .inl (cs 1, 8, .inl (fun _ => 0))), (q23, .inl (cs 1, 8, .inl (fun _ => 0))), (q30, .inl (cs 1, 4, .inl (fun _ => 0))), (q38, .inl (cs 1, 20, .inl (fun _ => 0)))] H := hP
  have hD : va_D A [(h0, .inr (2, [.ref q7, .ref q15, .ref q23, .ref q30, .ref q38, .int 0, .int 0, .int 0, .int 0])), (q7, .inl (cs 1, 8, .inl (fun _ => 0))), (q15, .inl (cs 1, 8, .inl (fun _ => 0))), (q23, .inl (cs 1, 8, .inl (fun _ => 0))), (q30, .inl (cs 1, 4, .inl (fun _ => 0))), (q38, .inl (cs 1, 20, .inl (fun _ => 0)))] := hD
  refine lv_aload_n hx hb dX2_init_48 rfl (lv_at hl 0 rfl) ?_
  refine lv_iconst hx hb dX2_init_49 rfl ?_
  refine va_put (D := D) (ci := 2) (v := .int 0) (ty := .int) (C := RX2) (T := TX2) (N := 9) hx hb hts inT2 tyX2 tyX2_ok nmX2 hown hK hP hD hS 0 rfl rfl 6 (by decide) (hts _ (mT1 65 rfl rfl)) (fun _ h9 => h9) rfl (by decide +kernel) rfl rfl (Nat.le_of_ble_eq_true rfl) dX2_init_50 (fun H locs hP hD hS => ?_)
  have hP : va_P D vwCl [(h0, .inr (2, [.ref q7, .ref q15, .ref q23, .ref q30, .ref q38, .int 0, .int 0, .int 0, .int 0])), (q7, .inl (cs 1, 8, .inl (fun _ => 0))), (q15, .inl (cs 1, 8, .inl (fun _ => 0))), (q23, .inl (cs 1, 8, .inl (fun _ => 0))), (q30, .inl (cs 1, 4, .inl (fun _ => 0))), (q38, .inl (cs 1, 20, .inl (fun _ => 0)))] H := hP
  have hD : va_D A [(h0, .inr (2, [.ref q7, .ref q15, .ref q23, .ref q30, .ref q38, .int 0, .int 0, .int 0, .int 0])), (q7, .inl (cs 1, 8, .inl (fun _ => 0))), (q15, .inl (cs 1, 8, .inl (fun _ => 0))), (q23, .inl (cs 1, 8, .inl (fun _ => 0))), (q30, .inl (cs 1, 4, .inl (fun _ => 0))), (q38, .inl (cs 1, 20, .inl (fun _ => 0)))] := hD
  refine lv_aload_n hx hb dX2_init_53 rfl (lv_at hl 0 rfl) ?_
  refine lv_iconst hx hb dX2_init_54 rfl ?_
  refine va_put (D := D) (ci := 2) (v := .int 0) (ty := .int) (C := RX2) (T := TX2) (N := 9) hx hb hts inT2 tyX2 tyX2_ok nmX2 hown hK hP hD hS 0 rfl rfl 7 (by decide) (hts _ (mT1 70 rfl rfl)) (fun _ h9 => h9) rfl (by decide +kernel) rfl rfl (Nat.le_of_ble_eq_true rfl) dX2_init_55 (fun H locs hP hD hS => ?_)
  have hP : va_P D vwCl [(h0, .inr (2, [.ref q7, .ref q15, .ref q23, .ref q30, .ref q38, .int 0, .int 0, .int 0, .int 0])), (q7, .inl (cs 1, 8, .inl (fun _ => 0))), (q15, .inl (cs 1, 8, .inl (fun _ => 0))), (q23, .inl (cs 1, 8, .inl (fun _ => 0))), (q30, .inl (cs 1, 4, .inl (fun _ => 0))), (q38, .inl (cs 1, 20, .inl (fun _ => 0)))] H := hP
  have hD : va_D A [(h0, .inr (2, [.ref q7, .ref q15, .ref q23, .ref q30, .ref q38, .int 0, .int 0, .int 0, .int 0])), (q7, .inl (cs 1, 8, .inl (fun _ => 0))), (q15, .inl (cs 1, 8, .inl (fun _ => 0))), (q23, .inl (cs 1, 8, .inl (fun _ => 0))), (q30, .inl (cs 1, 4, .inl (fun _ => 0))), (q38, .inl (cs 1, 20, .inl (fun _ => 0)))] := hD
  refine lv_aload_n hx hb dX2_init_58 rfl (lv_at hl 0 rfl) ?_
  refine lv_iconst hx hb dX2_init_59 rfl ?_
  refine va_put (D := D) (ci := 2) (v := .int (-1)) (ty := .int) (C := RX2) (T := TX2) (N := 9) hx hb hts inT2 tyX2 tyX2_ok nmX2 hown hK hP hD hS 0 rfl rfl 8 (by decide) (hts _ (mT1 72 rfl rfl)) (fun _ h9 => h9) rfl (by decide +kernel) rfl rfl (Nat.le_of_ble_eq_true rfl) dX2_init_60 (fun H locs hP hD hS => ?_)
  have hP : va_P D vwCl [(h0, .inr (2, [.ref q7, .ref q15, .ref q23, .ref q30, .ref q38, .int 0, .int 0, .int 0, .int (-1)])), (q7, .inl (cs 1, 8, .inl (fun _ => 0))), (q15, .inl (cs 1, 8, .inl (fun _ => 0))), (q23, .inl (cs 1, 8, .inl (fun _ => 0))), (q30, .inl (cs 1, 4, .inl (fun _ => 0))), (q38, .inl (cs 1, 20, .inl (fun _ => 0)))] H := hP
  have hD : va_D A [(h0, .inr (2, [.ref q7, .ref q15, .ref q23, .ref q30, .ref q38, .int 0, .int 0, .int 0, .int (-1)])), (q7, .inl (cs 1, 8, .inl (fun _ => 0))), (q15, .inl (cs 1, 8, .inl (fun _ => 0))), (q23, .inl (cs 1, 8, .inl (fun _ => 0))), (q30, .inl (cs 1, 4, .inl (fun _ => 0))), (q38, .inl (cs 1, 20, .inl (fun _ => 0)))] := hD
  exact W.vret hx hb hr (fun t ht hW => ⟨⟨fun k => [h0, q7, q15, q23, q30, q38].getD k 0, rfl, trivial, by rw [ht]; exact hP, va_K.moved hW.alike hK, hD⟩, hS.F ht⟩) hS.2.2 dX2_init_63
set_option maxHeartbeats 4000000 in
theorem ci_X7 (l : Launch) (D : va_G) (cs : Nat → ClassId) (h0 sz : Nat) : Met l yX7_init (wsU yX7_init cX7_init 1 none) ({ frames := 1, cells := 3, slots := 24, locals := 12 }) (va_Pc [.ref h0] (fun U => U.heap.size = sz ∧ va_P D vwCl [(h0, .inr (7, [.null, .null, .null, .int 0, .int 0, .int 0, .int 0, .int 0, .int 0, .int 0, .int 0, .int 0]))] U.heap ∧ va_K D vwCl (tyU cs) U ∧ va_D (fun _ => True) [(h0, .inr (7, [.null, .null, .null, .int 0, .int 0, .int 0, .int 0, .int 0, .int 0, .int 0, .int 0, .int 0]))])) (va_Qv (fun _ : Nat → Nat => True) (fun u t => va_P D vwCl [(h0, .inr (7, [.ref (u 1), .ref (u 2), .ref (u 3), .int 0, .int 0, .int 0, .int 0, .int 0, .int 0, .int 0, .int 0, .int 0])), (u 1, .inl (cs 1, 8, .inl (fun _ => 0))), (u 2, .inl (cs 1, 8, .inl (fun _ => 0))), (u 3, .inl (cs 1, 8, .inl (fun _ => 0)))] t.heap ∧ va_K D vwCl (tyU cs) t ∧ va_D (va_A [(h0, .inr (7, [.null, .null, .null, .int 0, .int 0, .int 0, .int 0, .int 0, .int 0, .int 0, .int 0, .int 0]))] sz) [(h0, .inr (7, [.ref (u 1), .ref (u 2), .ref (u 3), .int 0, .int 0, .int 0, .int 0, .int 0, .int 0, .int 0, .int 0, .int 0])), (u 1, .inl (cs 1, 8, .inl (fun _ => 0))), (u 2, .inl (cs 1, 8, .inl (fun _ => 0))), (u 3, .inl (cs 1, 8, .inl (fun _ => 0)))]) (va_A [(h0, .inr (7, [.null, .null, .null, .int 0, .int 0, .int 0, .int 0, .int 0, .int 0, .int 0, .int 0, .int 0]))] sz)) 3 24 (va_A [(h0, .inr (7, [.null, .null, .null, .int 0, .int 0, .int 0, .int 0, .int 0, .int 0, .int 0, .int 0, .int 0]))] sz) := by
  refine Met.ofW (cc := cX7_init) (maxL := 1) (ret := none) (by decide) rfl ?_
  intro p e s m args below meth c s₁ B hml hv
  obtain ⟨rfl, hsz, hP, hK, hD0⟩ := hv
  have hx := B.exec
  have hb := B.bytes
  have hr := B.returns
  have hts0 := atoms_spec (ws := wsU yX7_init cX7_init 1 none) B.pre
  have hts : ∀ w ∈ TS, w.before #[Value.ref h0] s = true := fun w hw => hts0 w (List.mem_cons_of_mem _ hw)
  have hown : s.vm.findClass RX7 = some m.cls := findClass_of_methodNamed B.named
  have hlocks := B.notSynchronized
  have hin : meth.name = "<init>" := (name_of_methodNamed B.named B.method).1
  subst hsz
  have hD := hD0.self (sz := s.heap.size)
  generalize hAe : va_A [(h0, .inr (7, [.null, .null, .null, .int 0, .int 0, .int 0, .int 0, .int 0, .int 0, .int 0, .int 0, .int 0]))] s.heap.size = A at hD ⊢
  have hA : ∀ q : Nat, s.heap.size ≤ q → A q := fun q h => by rw [← hAe]; exact Or.inr h
  have hS : va_S A s.heap s.heap [] := va_S.rf
  have hl := lv_entry ([.ref h0]) (n := 1) (Nat.le_of_ble_eq_true rfl)
  rw [lg_entry_eq]
  generalize (lg_sl ([.ref h0]) ++ List.replicate (1 - (lg_sl ([.ref h0])).length) Slot.unset).toArray = ls at hl ⊢
  have hl : lv_has ls 1 [(0, .ref h0)] := hl
  refine lv_aload_n hx hb dX7_init_0 rfl (lv_at hl 0 rfl) ?_
  refine W.objInit hx hb hown (hts _ (mT1 105 rfl rfl)) (hts _ (mT1 21 rfl rfl)) (hts _ (mT1 22 rfl rfl)) rfl (by rw [hml]; exact hl.1) rfl dX7_init_1 (Nat.le_of_ble_eq_true rfl) (Nat.le_of_ble_eq_true rfl) ?_
  refine W.eq (g2 := F0 m 4 ls []) rfl ?_
  refine lv_aload_n hx hb dX7_init_4 rfl (lv_at hl 0 rfl) ?_
  refine lv_bipush hx hb dX7_init_5 rfl ?_
  refine i_newI (n := 8) (N := 8) hx hb (hts _ (mT1 39 rfl rfl)) hK hP hD hS hA (by decide) (by decide) (Nat.le_of_ble_eq_true rfl) (Nat.le_of_ble_eq_true rfl) (Nat.le_of_ble_eq_true rfl) dX7_init_7 (fun q7 H hP hD hS => ?_)
  have hP : va_P D vwCl [(h0, .inr (7, [.null, .null, .null, .int 0, .int 0, .int 0, .int 0, .int 0, .int 0, .int 0, .int 0, .int 0])), (q7, .inl (cs 1, 8, .inl (fun _ => 0)))] H := hP
  have hD : va_D A [(h0, .inr (7, [.null, .null, .null, .int 0, .int 0, .int 0, .int 0, .int 0, .int 0, .int 0, .int 0, .int 0])), (q7, .inl (cs 1, 8, .inl (fun _ => 0)))] := hD
  refine va_putF (D := D) (ci := 7) (v := .ref q7) (ty := .array .int) (C := RX7) (T := TX7) (N := 12) hx hb hts inT7 tyX7 tyX7_ok nmX7 hown hK hP hD hS 0 rfl rfl 0 (by decide) (hts _ (mT1 106 rfl rfl)) (fun _ h9 => h9) rfl hin rfl (by decide +kernel) rfl rfl (Nat.le_of_ble_eq_true rfl) dX7_init_9 (fun H locs hP hD hS => ?_)
  have hP : va_P D vwCl [(h0, .inr (7, [.ref q7, .null, .null, .int 0, .int 0, .int 0, .int 0, .int 0, .int 0, .int 0, .int 0, .int 0])), (q7, .inl (cs 1, 8, .inl (fun _ => 0)))] H := hP
  have hD : va_D A [(h0, .inr (7, [.ref q7, .null, .null, .int 0, .int 0, .int 0, .int 0, .int 0, .int 0, .int 0, .int 0, .int 0])), (q7, .inl (cs 1, 8, .inl (fun _ => 0)))] := hD
  refine lv_aload_n hx hb dX7_init_12 rfl (lv_at hl 0 rfl) ?_
  refine lv_bipush hx hb dX7_init_13 rfl ?_
  refine i_newI (n := 8) (N := 8) hx hb (hts _ (mT1 39 rfl rfl)) hK hP hD hS hA (by decide) (by decide) (Nat.le_of_ble_eq_true rfl) (Nat.le_of_ble_eq_true rfl) (Nat.le_of_ble_eq_true rfl) dX7_init_15 (fun q15 H hP hD hS => ?_)
  have hP : va_P D vwCl [(h0, .inr (7, [.ref q7, .null, .null, .int 0, .int 0, .int 0, .int 0, .int 0, .int 0, .int 0, .int 0, .int 0])), (q7, .inl (cs 1, 8, .inl (fun _ => 0))), (q15, .inl (cs 1, 8, .inl (fun _ => 0)))] H := hP
  have hD : va_D A [(h0, .inr (7, [.ref q7, .null, .null, .int 0, .int 0, .int 0, .int 0, .int 0, .int 0, .int 0, .int 0, .int 0])), (q7, .inl (cs 1, 8, .inl (fun _ => 0))), (q15, .inl (cs 1, 8, .inl (fun _ => 0)))] := hD
  refine va_putF (D := D) (ci := 7) (v := .ref q15) (ty := .array .int) (C := RX7) (T := TX7) (N := 12) hx hb hts inT7 tyX7 tyX7_ok nmX7 hown hK hP hD hS 0 rfl rfl 1 (by decide) (hts _ (mT1 110 rfl rfl)) (fun _ h9 => h9) rfl hin rfl (by decide +kernel) rfl rfl (Nat.le_of_ble_eq_true rfl) dX7_init_17 (fun H locs hP hD hS => ?_)
  have hP : va_P D vwCl [(h0, .inr (7, [.ref q7, .ref q15, .null, .int 0, .int 0, .int 0, .int 0, .int 0, .int 0, .int 0, .int 0, .int 0])), (q7, .inl (cs 1, 8, .inl (fun _ => 0))), (q15, .inl (cs 1, 8, .inl (fun _ => 0)))] H := hP
  have hD : va_D A [(h0, .inr (7, [.ref q7, .ref q15, .null, .int 0, .int 0, .int 0, .int 0, .int 0, .int 0, .int 0, .int 0, .int 0])), (q7, .inl (cs 1, 8, .inl (fun _ => 0))), (q15, .inl (cs 1, 8, .inl (fun _ => 0)))] := hD
  refine lv_aload_n hx hb dX7_init_20 rfl (lv_at hl 0 rfl) ?_
  refine lv_bipush hx hb dX7_init_21 rfl ?_
  refine i_newI (n := 8) (N := 8) hx hb (hts _ (mT1 39 rfl rfl)) hK hP hD hS hA (by decide) (by decide) (Nat.le_of_ble_eq_true rfl) (Nat.le_of_ble_eq_true rfl) (Nat.le_of_ble_eq_true rfl) dX7_init_23 (fun q23 H hP hD hS => ?_)
  have hP : va_P D vwCl [(h0, .inr (7, [.ref q7, .ref q15, .null, .int 0, .int 0, .int 0, .int 0, .int 0, .int 0, .int 0, .int 0, .int 0])), (q7, .inl (cs 1, 8, .inl (fun _ => 0))), (q15, .inl (cs 1, 8, .inl (fun _ => 0))), (q23, .inl (cs 1, 8, .inl (fun _ => 0)))] H := hP
  have hD : va_D A [(h0, .inr (7, [.ref q7, .ref q15, .null, .int 0, .int 0, .int 0, .int 0, .int 0, .int 0, .int 0, .int 0, .int 0])), (q7, .inl (cs 1, 8, .inl (fun _ => 0))), (q15, .inl (cs 1, 8, .inl (fun _ => 0))), (q23, .inl (cs 1, 8, .inl (fun _ => 0)))] := hD
  refine va_putF (D := D) (ci := 7) (v := .ref q23) (ty := .array .int) (C := RX7) (T := TX7) (N := 12) hx hb hts inT7 tyX7 tyX7_ok nmX7 hown hK hP hD hS 0 rfl rfl 2 (by decide) (hts _ (mT1 112 rfl rfl)) (fun _ h9 => h9) rfl hin rfl (by decide +kernel) rfl rfl (Nat.le_of_ble_eq_true rfl) dX7_init_25 (fun H locs hP hD hS => ?_)
  have hP : va_P D vwCl [(h0, .inr (7, [.ref q7, .ref q15, .ref q23, .int 0, .int 0, .int 0, .int 0, .int 0, .int 0, .int 0, .int 0, .int 0])), (q7, .inl (cs 1, 8, .inl (fun _ => 0))), (q15, .inl (cs 1, 8, .inl (fun _ => 0))), (q23, .inl (cs 1, 8, .inl (fun _ => 0)))] H := hP
  have hD : va_D A [(h0, .inr (7, [.ref q7, .ref q15, .ref q23, .int 0, .int 0, .int 0, .int 0, .int 0, .int 0, .int 0, .int 0, .int 0])), (q7, .inl (cs 1, 8, .inl (fun _ => 0))), (q15, .inl (cs 1, 8, .inl (fun _ => 0))), (q23, .inl (cs 1, 8, .inl (fun _ => 0)))] := hD
  refine lv_aload_n hx hb dX7_init_28 rfl (lv_at hl 0 rfl) ?_
  refine lv_iconst hx hb dX7_init_29 rfl ?_
  refine va_put (D := D) (ci := 7) (v := .int 0) (ty := .int) (C := RX7) (T := TX7) (N := 12) hx hb hts inT7 tyX7 tyX7_ok nmX7 hown hK hP hD hS 0 rfl rfl 3 (by decide) (hts _ (mT1 114 rfl rfl)) (fun _ h9 => h9) rfl (by decide +kernel) rfl rfl (Nat.le_of_ble_eq_true rfl) dX7_init_30 (fun H locs hP hD hS => ?_)
  have hP : va_P D vwCl [(h0, .inr (7, [.ref q7, .ref q15, .ref q23, .int 0, .int 0, .int 0, .int 0, .int 0, .int 0, .int 0, .int 0, .int 0])), (q7, .inl (cs 1, 8, .inl (fun _ => 0))), (q15, .inl (cs 1, 8, .inl (fun _ => 0))), (q23, .inl (cs 1, 8, .inl (fun _ => 0)))] H := hP
  have hD : va_D A [(h0, .inr (7, [.ref q7, .ref q15, .ref q23, .int 0, .int 0, .int 0, .int 0, .int 0, .int 0, .int 0, .int 0, .int 0])), (q7, .inl (cs 1, 8, .inl (fun _ => 0))), (q15, .inl (cs 1, 8, .inl (fun _ => 0))), (q23, .inl (cs 1, 8, .inl (fun _ => 0)))] := hD
  refine lv_aload_n hx hb dX7_init_33 rfl (lv_at hl 0 rfl) ?_
  refine lv_iconst hx hb dX7_init_34 rfl ?_
  refine va_put (D := D) (ci := 7) (v := .int 0) (ty := .int) (C := RX7) (T := TX7) (N := 12) hx hb hts inT7 tyX7 tyX7_ok nmX7 hown hK hP hD hS 0 rfl rfl 4 (by decide) (hts _ (mT1 115 rfl rfl)) (fun _ h9 => h9) rfl (by decide +kernel) rfl rfl (Nat.le_of_ble_eq_true rfl) dX7_init_35 (fun H locs hP hD hS => ?_)
  have hP : va_P D vwCl [(h0, .inr (7, [.ref q7, .ref q15, .ref q23, .int 0, .int 0, .int 0, .int 0, .int 0, .int 0, .int 0, .int 0, .int 0])), (q7, .inl (cs 1, 8, .inl (fun _ => 0))), (q15, .inl (cs 1, 8, .inl (fun _ => 0))), (q23, .inl (cs 1, 8, .inl (fun _ => 0)))] H := hP
  have hD : va_D A [(h0, .inr (7, [.ref q7, .ref q15, .ref q23, .int 0, .int 0, .int 0, .int 0, .int 0, .int 0, .int 0, .int 0, .int 0])), (q7, .inl (cs 1, 8, .inl (fun _ => 0))), (q15, .inl (cs 1, 8, .inl (fun _ => 0))), (q23, .inl (cs 1, 8, .inl (fun _ => 0)))] := hD
  refine lv_aload_n hx hb dX7_init_38 rfl (lv_at hl 0 rfl) ?_
  refine lv_iconst hx hb dX7_init_39 rfl ?_
  refine va_put (D := D) (ci := 7) (v := .int 0) (ty := .int) (C := RX7) (T := TX7) (N := 12) hx hb hts inT7 tyX7 tyX7_ok nmX7 hown hK hP hD hS 0 rfl rfl 5 (by decide) (hts _ (mT1 117 rfl rfl)) (fun _ h9 => h9) rfl (by decide +kernel) rfl rfl (Nat.le_of_ble_eq_true rfl) dX7_init_40 (fun H locs hP hD hS => ?_)
  have hP : va_P D vwCl [(h0, .inr (7, [.ref q7, .ref q15, .ref q23, .int 0, .int 0, .int 0, .int 0, .int 0, .int 0, .int 0, .int 0, .int 0])), (q7, .inl (cs 1, 8, .inl (fun _ => 0))), (q15, .inl (cs 1, 8, .inl (fun _ => 0))), (q23, .inl (cs 1, 8, .inl (fun _ => 0)))] H := hP
  have hD : va_D A [(h0, .inr (7, [.ref q7, .ref q15, .ref q23, .int 0, .int 0, .int 0, .int 0, .int 0, .int 0, .int 0, .int 0, .int 0])), (q7, .inl (cs 1, 8, .inl (fun _ => 0))), (q15, .inl (cs 1, 8, .inl (fun _ => 0))), (q23, .inl (cs 1, 8, .inl (fun _ => 0)))] := hD
  refine lv_aload_n hx hb dX7_init_43 rfl (lv_at hl 0 rfl) ?_
  refine lv_iconst hx hb dX7_init_44 rfl ?_
  refine va_put (D := D) (ci := 7) (v := .int 0) (ty := .int) (C := RX7) (T := TX7) (N := 12) hx hb hts inT7 tyX7 tyX7_ok nmX7 hown hK hP hD hS 0 rfl rfl 6 (by decide) (hts _ (mT1 119 rfl rfl)) (fun _ h9 => h9) rfl (by decide +kernel) rfl rfl (Nat.le_of_ble_eq_true rfl) dX7_init_45 (fun H locs hP hD hS => ?_)
  have hP : va_P D vwCl [(h0, .inr (7, [.ref q7, .ref q15, .ref q23, .int 0, .int 0, .int 0, .int 0, .int 0, .int 0, .int 0, .int 0, .int 0])), (q7, .inl (cs 1, 8, .inl (fun _ => 0))), (q15, .inl (cs 1, 8, .inl (fun _ => 0))), (q23, .inl (cs 1, 8, .inl (fun _ => 0)))] H := hP
  have hD : va_D A [(h0, .inr (7, [.ref q7, .ref q15, .ref q23, .int 0, .int 0, .int 0, .int 0, .int 0, .int 0, .int 0, .int 0, .int 0])), (q7, .inl (cs 1, 8, .inl (fun _ => 0))), (q15, .inl (cs 1, 8, .inl (fun _ => 0))), (q23, .inl (cs 1, 8, .inl (fun _ => 0)))] := hD
  refine lv_aload_n hx hb dX7_init_48 rfl (lv_at hl 0 rfl) ?_
  refine lv_iconst hx hb dX7_init_49 rfl ?_
  refine va_put (D := D) (ci := 7) (v := .int 0) (ty := .int) (C := RX7) (T := TX7) (N := 12) hx hb hts inT7 tyX7 tyX7_ok nmX7 hown hK hP hD hS 0 rfl rfl 7 (by decide) (hts _ (mT1 121 rfl rfl)) (fun _ h9 => h9) rfl (by decide +kernel) rfl rfl (Nat.le_of_ble_eq_true rfl) dX7_init_50 (fun H locs hP hD hS => ?_)
  have hP : va_P D vwCl [(h0, .inr (7, [.ref q7, .ref q15, .ref q23, .int 0, .int 0, .int 0, .int 0, .int 0, .int 0, .int 0, .int 0, .int 0])), (q7, .inl (cs 1, 8, .inl (fun _ => 0))), (q15, .inl (cs 1, 8, .inl (fun _ => 0))), (q23, .inl (cs 1, 8, .inl (fun _ => 0)))] H := hP
  have hD : va_D A [(h0, .inr (7, [.ref q7, .ref q15, .ref q23, .int 0, .int 0, .int 0, .int 0, .int 0, .int 0, .int 0, .int 0, .int 0])), (q7, .inl (cs 1, 8, .inl (fun _ => 0))), (q15, .inl (cs 1, 8, .inl (fun _ => 0))), (q23, .inl (cs 1, 8, .inl (fun _ => 0)))] := hD
  refine lv_aload_n hx hb dX7_init_53 rfl (lv_at hl 0 rfl) ?_
  refine lv_iconst hx hb dX7_init_54 rfl ?_
  refine va_put (D := D) (ci := 7) (v := .int 0) (ty := .int) (C := RX7) (T := TX7) (N := 12) hx hb hts inT7 tyX7 tyX7_ok nmX7 hown hK hP hD hS 0 rfl rfl 8 (by decide) (hts _ (mT1 123 rfl rfl)) (fun _ h9 => h9) rfl (by decide +kernel) rfl rfl (Nat.le_of_ble_eq_true rfl) dX7_init_55 (fun H locs hP hD hS => ?_)
  have hP : va_P D vwCl [(h0, .inr (7, [.ref q7, .ref q15, .ref q23, .int 0, .int 0, .int 0, .int 0, .int 0, .int 0, .int 0, .int 0, .int 0])), (q7, .inl (cs 1, 8, .inl (fun _ => 0))), (q15, .inl (cs 1, 8, .inl (fun _ => 0))), (q23, .inl (cs 1, 8, .inl (fun _ => 0)))] H := hP
  have hD : va_D A [(h0, .inr (7, [.ref q7, .ref q15, .ref q23, .int 0, .int 0, .int 0, .int 0, .int 0, .int 0, .int 0, .int 0, .int 0])), (q7, .inl (cs 1, 8, .inl (fun _ => 0))), (q15, .inl (cs 1, 8, .inl (fun _ => 0))), (q23, .inl (cs 1, 8, .inl (fun _ => 0)))] := hD
  refine lv_aload_n hx hb dX7_init_58 rfl (lv_at hl 0 rfl) ?_
  refine lv_iconst hx hb dX7_init_59 rfl ?_
  refine va_put (D := D) (ci := 7) (v := .int 0) (ty := .int) (C := RX7) (T := TX7) (N := 12) hx hb hts inT7 tyX7 tyX7_ok nmX7 hown hK hP hD hS 0 rfl rfl 9 (by decide) (hts _ (mT1 126 rfl rfl)) (fun _ h9 => h9) rfl (by decide +kernel) rfl rfl (Nat.le_of_ble_eq_true rfl) dX7_init_60 (fun H locs hP hD hS => ?_)
  have hP : va_P D vwCl [(h0, .inr (7, [.ref q7, .ref q15, .ref q23, .int 0, .int 0, .int 0, .int 0, .int 0, .int 0, .int 0, .int 0, .int 0])), (q7, .inl (cs 1, 8, .inl (fun _ => 0))), (q15, .inl (cs 1, 8, .inl (fun _ => 0))), (q23, .inl (cs 1, 8, .inl (fun _ => 0)))] H := hP
  have hD : va_D A [(h0, .inr (7, [.ref q7, .ref q15, .ref q23, .int 0, .int 0, .int 0, .int 0, .int 0, .int 0, .int 0, .int 0, .int 0])), (q7, .inl (cs 1, 8, .inl (fun _ => 0))), (q15, .inl (cs 1, 8, .inl (fun _ => 0))), (q23, .inl (cs 1, 8, .inl (fun _ => 0)))] := hD
  refine lv_aload_n hx hb dX7_init_63 rfl (lv_at hl 0 rfl) ?_
  refine lv_iconst hx hb dX7_init_64 rfl ?_
  refine va_put (D := D) (ci := 7) (v := .int 0) (ty := .int) (C := RX7) (T := TX7) (N := 12) hx hb hts inT7 tyX7 tyX7_ok nmX7 hown hK hP hD hS 0 rfl rfl 10 (by decide) (hts _ (mT1 128 rfl rfl)) (fun _ h9 => h9) rfl (by decide +kernel) rfl rfl (Nat.le_of_ble_eq_true rfl) dX7_init_65 (fun H locs hP hD hS => ?_)
  have hP : va_P D vwCl [(h0, .inr (7, [.ref q7, .ref q15, .ref q23, .int 0, .int 0, .int 0, .int 0, .int 0, .int 0, .int 0, .int 0, .int 0])), (q7, .inl (cs 1, 8, .inl (fun _ => 0))), (q15, .inl (cs 1, 8, .inl (fun _ => 0))), (q23, .inl (cs 1, 8, .inl (fun _ => 0)))] H := hP
  have hD : va_D A [(h0, .inr (7, [.ref q7, .ref q15, .ref q23, .int 0, .int 0, .int 0, .int 0, .int 0, .int 0, .int 0, .int 0, .int 0])), (q7, .inl (cs 1, 8, .inl (fun _ => 0))), (q15, .inl (cs 1, 8, .inl (fun _ => 0))), (q23, .inl (cs 1, 8, .inl (fun _ => 0)))] := hD
  refine lv_aload_n hx hb dX7_init_68 rfl (lv_at hl 0 rfl) ?_
  refine lv_iconst hx hb dX7_init_69 rfl ?_
  refine va_put (D := D) (ci := 7) (v := .int 0) (ty := .int) (C := RX7) (T := TX7) (N := 12) hx hb hts inT7 tyX7 tyX7_ok nmX7 hown hK hP hD hS 0 rfl rfl 11 (by decide) (hts _ (mT1 130 rfl rfl)) (fun _ h9 => h9) rfl (by decide +kernel) rfl rfl (Nat.le_of_ble_eq_true rfl) dX7_init_70 (fun H locs hP hD hS => ?_)
  have hP : va_P D vwCl [(h0, .inr (7, [.ref q7, .ref q15, .ref q23, .int 0, .int 0, .int 0, .int 0, .int 0, .int 0, .int 0, .int 0, .int 0])), (q7, .inl (cs 1, 8, .inl (fun _ => 0))), (q15, .inl (cs 1, 8, .inl (fun _ => 0))), (q23, .inl (cs 1, 8, .inl (fun _ => 0)))] H := hP
  have hD : va_D A [(h0, .inr (7, [.ref q7, .ref q15, .ref q23, .int 0, .int 0, .int 0, .int 0, .int 0, .int 0, .int 0, .int 0, .int 0])), (q7, .inl (cs 1, 8, .inl (fun _ => 0))), (q15, .inl (cs 1, 8, .inl (fun _ => 0))), (q23, .inl (cs 1, 8, .inl (fun _ => 0)))] := hD
  exact W.vret hx hb hr (fun t ht hW => ⟨⟨fun k => [h0, q7, q15, q23].getD k 0, rfl, trivial, by rw [ht]; exact hP, va_K.moved hW.alike hK, hD⟩, hS.F ht⟩) hS.2.2 dX7_init_73
set_option maxHeartbeats 4000000 in
theorem ci_X8 (l : Launch) (D : va_G) (cs : Nat → ClassId) (h0 sz : Nat) : Met l yX8_init (wsU yX8_init cX8_init 1 none) ({ frames := 1, cells := 2, slots := 16, locals := 12 }) (va_Pc [.ref h0] (fun U => U.heap.size = sz ∧ va_P D vwCl [(h0, .inr (8, [.null, .null, .int 0]))] U.heap ∧ va_K D vwCl (tyU cs) U ∧ va_D (fun _ => True) [(h0, .inr (8, [.null, .null, .int 0]))])) (va_Qv (fun _ : Nat → Nat => True) (fun u t => va_P D vwCl [(h0, .inr (8, [.ref (u 1), .ref (u 2), .int 0])), (u 1, .inl (cs 1, 8, .inl (fun _ => 0))), (u 2, .inl (cs 1, 8, .inl (fun _ => 0)))] t.heap ∧ va_K D vwCl (tyU cs) t ∧ va_D (va_A [(h0, .inr (8, [.null, .null, .int 0]))] sz) [(h0, .inr (8, [.ref (u 1), .ref (u 2), .int 0])), (u 1, .inl (cs 1, 8, .inl (fun _ => 0))), (u 2, .inl (cs 1, 8, .inl (fun _ => 0)))]) (va_A [(h0, .inr (8, [.null, .null, .int 0]))] sz)) 2 16 (va_A [(h0, .inr (8, [.null, .null, .int 0]))] sz) := by
  refine Met.ofW (cc := cX8_init) (maxL := 1) (ret := none) (by decide) rfl ?_
  intro p e s m args below meth c s₁ B hml hv
  obtain ⟨rfl, hsz, hP, hK, hD0⟩ := hv
  have hx := B.exec
  have hb := B.bytes
  have hr := B.returns
  have hts0 := atoms_spec (ws := wsU yX8_init cX8_init 1 none) B.pre
  have hts : ∀ w ∈ TS, w.before #[Value.ref h0] s = true := fun w hw => hts0 w (List.mem_cons_of_mem _ hw)
  have hown : s.vm.findClass RX8 = some m.cls := findClass_of_methodNamed B.named
  have hlocks := B.notSynchronized
  have hin : meth.name = "<init>" := (name_of_methodNamed B.named B.method).1
  subst hsz
  have hD := hD0.self (sz := s.heap.size)
  generalize hAe : va_A [(h0, .inr (8, [.null, .null, .int 0]))] s.heap.size = A at hD ⊢
  have hA : ∀ q : Nat, s.heap.size ≤ q → A q := fun q h => by rw [← hAe]; exact Or.inr h
  have hS : va_S A s.heap s.heap [] := va_S.rf
  have hl := lv_entry ([.ref h0]) (n := 1) (Nat.le_of_ble_eq_true rfl)
  rw [lg_entry_eq]
  generalize (lg_sl ([.ref h0]) ++ List.replicate (1 - (lg_sl ([.ref h0])).length) Slot.unset).toArray = ls at hl ⊢
  have hl : lv_has ls 1 [(0, .ref h0)] := hl
  refine lv_aload_n hx hb dX8_init_0 rfl (lv_at hl 0 rfl) ?_
  refine W.objInit hx hb hown (hts _ (mT1 238 rfl rfl)) (hts _ (mT1 21 rfl rfl)) (hts _ (mT1 22 rfl rfl)) rfl (by rw [hml]; exact hl.1) rfl dX8_init_1 (Nat.le_of_ble_eq_true rfl) (Nat.le_of_ble_eq_true rfl) ?_
  refine W.eq (g2 := F0 m 4 ls []) rfl ?_
  refine lv_aload_n hx hb dX8_init_4 rfl (lv_at hl 0 rfl) ?_
  refine lv_bipush hx hb dX8_init_5 rfl ?_
  refine i_newI (n := 8) (N := 8) hx hb (hts _ (mT1 39 rfl rfl)) hK hP hD hS hA (by decide) (by decide) (Nat.le_of_ble_eq_true rfl) (Nat.le_of_ble_eq_true rfl) (Nat.le_of_ble_eq_true rfl) dX8_init_7 (fun q7 H hP hD hS => ?_)
  have hP : va_P D vwCl [(h0, .inr (8, [.null, .null, .int 0])), (q7, .inl (cs 1, 8, .inl (fun _ => 0)))] H := hP
  have hD : va_D A [(h0, .inr (8, [.null, .null, .int 0])), (q7, .inl (cs 1, 8, .inl (fun _ => 0)))] := hD
  refine va_putF (D := D) (ci := 8) (v := .ref q7) (ty := .array .int) (C := RX8) (T := TX8) (N := 3) hx hb hts inT8 tyX8 tyX8_ok nmX8 hown hK hP hD hS 0 rfl rfl 0 (by decide) (hts _ (mT1 239 rfl rfl)) (fun _ h9 => h9) rfl hin rfl (by decide +kernel) rfl rfl (Nat.le_of_ble_eq_true rfl) dX8_init_9 (fun H locs hP hD hS => ?_)
  have hP : va_P D vwCl [(h0, .inr (8, [.ref q7, .null, .int 0])), (q7, .inl (cs 1, 8, .inl (fun _ => 0)))] H := hP
  have hD : va_D A [(h0, .inr (8, [.ref q7, .null, .int 0])), (q7, .inl (cs 1, 8, .inl (fun _ => 0)))] := hD
  refine lv_aload_n hx hb dX8_init_12 rfl (lv_at hl 0 rfl) ?_
  refine lv_bipush hx hb dX8_init_13 rfl ?_
  refine i_newI (n := 8) (N := 8) hx hb (hts _ (mT1 39 rfl rfl)) hK hP hD hS hA (by decide) (by decide) (Nat.le_of_ble_eq_true rfl) (Nat.le_of_ble_eq_true rfl) (Nat.le_of_ble_eq_true rfl) dX8_init_15 (fun q15 H hP hD hS => ?_)
  have hP : va_P D vwCl [(h0, .inr (8, [.ref q7, .null, .int 0])), (q7, .inl (cs 1, 8, .inl (fun _ => 0))), (q15, .inl (cs 1, 8, .inl (fun _ => 0)))] H := hP
  have hD : va_D A [(h0, .inr (8, [.ref q7, .null, .int 0])), (q7, .inl (cs 1, 8, .inl (fun _ => 0))), (q15, .inl (cs 1, 8, .inl (fun _ => 0)))] := hD
  refine va_putF (D := D) (ci := 8) (v := .ref q15) (ty := .array .int) (C := RX8) (T := TX8) (N := 3) hx hb hts inT8 tyX8 tyX8_ok nmX8 hown hK hP hD hS 0 rfl rfl 1 (by decide) (hts _ (mT2 0 rfl rfl)) (fun _ h9 => h9) rfl hin rfl (by decide +kernel) rfl rfl (Nat.le_of_ble_eq_true rfl) dX8_init_17 (fun H locs hP hD hS => ?_)
  have hP : va_P D vwCl [(h0, .inr (8, [.ref q7, .ref q15, .int 0])), (q7, .inl (cs 1, 8, .inl (fun _ => 0))), (q15, .inl (cs 1, 8, .inl (fun _ => 0)))] H := hP
  have hD : va_D A [(h0, .inr (8, [.ref q7, .ref q15, .int 0])), (q7, .inl (cs 1, 8, .inl (fun _ => 0))), (q15, .inl (cs 1, 8, .inl (fun _ => 0)))] := hD
  refine lv_aload_n hx hb dX8_init_20 rfl (lv_at hl 0 rfl) ?_
  refine lv_iconst hx hb dX8_init_21 rfl ?_
  refine va_put (D := D) (ci := 8) (v := .int 0) (ty := .int) (C := RX8) (T := TX8) (N := 3) hx hb hts inT8 tyX8 tyX8_ok nmX8 hown hK hP hD hS 0 rfl rfl 2 (by decide) (hts _ (mT2 1 rfl rfl)) (fun _ h9 => h9) rfl (by decide +kernel) rfl rfl (Nat.le_of_ble_eq_true rfl) dX8_init_22 (fun H locs hP hD hS => ?_)
  have hP : va_P D vwCl [(h0, .inr (8, [.ref q7, .ref q15, .int 0])), (q7, .inl (cs 1, 8, .inl (fun _ => 0))), (q15, .inl (cs 1, 8, .inl (fun _ => 0)))] H := hP
  have hD : va_D A [(h0, .inr (8, [.ref q7, .ref q15, .int 0])), (q7, .inl (cs 1, 8, .inl (fun _ => 0))), (q15, .inl (cs 1, 8, .inl (fun _ => 0)))] := hD
  exact W.vret hx hb hr (fun t ht hW => ⟨⟨fun k => [h0, q7, q15].getD k 0, rfl, trivial, by rw [ht]; exact hP, va_K.moved hW.alike hK, hD⟩, hS.F ht⟩) hS.2.2 dX8_init_25
