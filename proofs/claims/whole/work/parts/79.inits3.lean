/-! ===== a new Script ===== -/
set_option maxHeartbeats 4000000 in
theorem ci_X3 (l : Launch) (D : va_G) (cs : Nat → ClassId) (h0 sz N : Nat) (hN : N ≤ 31) : Met l yX3_init (wsU yX3_init cX3_init 2 none) ({ frames := 1, cells := 1, slots := 31, locals := 12 }) (va_Pc [.ref h0, .int (nI N)] (fun U => U.heap.size = sz ∧ va_P D vwCl [(h0, .inr (3, [.null, .int 0]))] U.heap ∧ va_K D vwCl (tyU cs) U ∧ va_D (fun _ => True) [(h0, .inr (3, [.null, .int 0]))])) (va_Qv (fun _ : Nat → Nat => True) (fun u t => va_P D vwCl [(h0, .inr (3, [.ref (u 1), .int 0])), (u 1, .inl (cs 1, N, .inl (fun _ => 0)))] t.heap ∧ va_K D vwCl (tyU cs) t ∧ va_D (va_A [(h0, .inr (3, [.null, .int 0]))] sz) [(h0, .inr (3, [.ref (u 1), .int 0])), (u 1, .inl (cs 1, N, .inl (fun _ => 0)))]) (va_A [(h0, .inr (3, [.null, .int 0]))] sz)) 1 31 (va_A [(h0, .inr (3, [.null, .int 0]))] sz) := by
  refine Met.ofW (cc := cX3_init) (maxL := 2) (ret := none) (by decide) rfl ?_
  intro p e s m args below meth c s₁ B hml hv
  obtain ⟨rfl, hsz, hP, hK, hD0⟩ := hv
  have hx := B.exec
  have hb := B.bytes
  have hr := B.returns
  have hts0 := atoms_spec (ws := wsU yX3_init cX3_init 2 none) B.pre
  have hts : ∀ w ∈ TS, w.before #[Value.ref h0, Value.int (nI N)] s = true := fun w hw => hts0 w (List.mem_cons_of_mem _ hw)
  have hown : s.vm.findClass RX3 = some m.cls := findClass_of_methodNamed B.named
  have hlocks := B.notSynchronized
  have hin : meth.name = "<init>" := (name_of_methodNamed B.named B.method).1
  subst hsz
  have hD := hD0.self (sz := s.heap.size)
  generalize hAe : va_A [(h0, .inr (3, [.null, .int 0]))] s.heap.size = A at hD ⊢
  have hA : ∀ q : Nat, s.heap.size ≤ q → A q := fun q h => by rw [← hAe]; exact Or.inr h
  have hS : va_S A s.heap s.heap [] := va_S.rf
  have hl := lv_entry ([.ref h0, .int (nI N)]) (n := 2) (Nat.le_of_ble_eq_true rfl)
  rw [lg_entry_eq]
  generalize (lg_sl ([.ref h0, .int (nI N)]) ++ List.replicate (2 - (lg_sl ([.ref h0, .int (nI N)])).length) Slot.unset).toArray = ls at hl ⊢
  have hl : lv_has ls 2 [(0, .ref h0), (1, .int (nI N))] := hl
  refine lv_aload_n hx hb dX3_init_0 rfl (lv_at hl 0 rfl) ?_
  refine W.objInit hx hb hown (hts _ (mT1 28 rfl rfl)) (hts _ (mT1 21 rfl rfl)) (hts _ (mT1 22 rfl rfl)) rfl (by rw [hml]; exact hl.1) rfl dX3_init_1 (Nat.le_of_ble_eq_true rfl) (Nat.le_of_ble_eq_true rfl) ?_
  refine W.eq (g2 := F0 m 4 ls []) rfl ?_
  refine lv_aload_n hx hb dX3_init_4 rfl (lv_at hl 0 rfl) ?_
  refine lv_iconst hx hb dX3_init_5 rfl ?_
  refine va_put (D := D) (ci := 3) (v := .int 0) (ty := .int) (C := RX3) (T := TX3) (N := 2) hx hb hts inT3 tyX3 tyX3_ok nmX3 hown hK hP hD hS 0 rfl rfl 1 (by decide) (hts _ (mT1 31 rfl rfl)) (fun _ h9 => h9) rfl (by decide +kernel) rfl rfl (Nat.le_of_ble_eq_true rfl) dX3_init_6 (fun H locs hP hD hS => ?_)
  have hP : va_P D vwCl [(h0, .inr (3, [.null, .int 0]))] H := hP
  have hD : va_D A [(h0, .inr (3, [.null, .int 0]))] := hD
  refine lv_aload_n hx hb dX3_init_9 rfl (lv_at hl 0 rfl) ?_
  refine lv_iload_n hx hb dX3_init_10 rfl (lv_at hl 1 rfl) ?_
  refine i_newI (n := nI N) (N := N) hx hb (hts _ (mT1 39 rfl rfl)) hK hP hD hS hA (nI_pos (by omega)) (nI_clamp (by omega)) (by show N * 4 ≤ _; omega) (Nat.le_of_ble_eq_true rfl) (show 0 + N ≤ 31 by omega) dX3_init_11 (fun q H hP hD hS => ?_)
  have hP : va_P D vwCl [(h0, .inr (3, [.null, .int 0])), (q, .inl (cs 1, N, .inl (fun _ => 0)))] H := hP
  have hD : va_D A [(h0, .inr (3, [.null, .int 0])), (q, .inl (cs 1, N, .inl (fun _ => 0)))] := hD
  refine va_putF (D := D) (ci := 3) (v := .ref q) (ty := .array .int) (C := RX3) (T := TX3) (N := 2) hx hb hts inT3 tyX3 tyX3_ok nmX3 hown hK hP hD hS 0 rfl rfl 0 (by decide) (hts _ (mT1 29 rfl rfl)) (fun _ h9 => h9) rfl hin rfl (by decide +kernel) rfl rfl (Nat.le_of_ble_eq_true rfl) dX3_init_13 (fun H locs hP hD hS => ?_)
  refine W.widen (k := 1) (n := 31) (Nat.le_of_ble_eq_true rfl) (show 0 + N ≤ 31 by omega) ?_
  exact W.vret hx hb hr (fun t ht hW => ⟨⟨fun k => [h0, q].getD k 0, rfl, trivial, by rw [ht]; exact hP, va_K.moved hW.alike hK, hD⟩, hS.F ht⟩) hS.2.2 dX3_init_16
