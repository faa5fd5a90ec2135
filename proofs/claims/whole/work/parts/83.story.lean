/-! ===== a new Story ===== -/
def nwS (U : State) : Prop := va_Nw (.methodLinkNest "DonkeyExecutor$Story" 11 ⟨"DonkeyExecutor$Walk", "<init>", "()V"⟩ "DonkeyExecutor") U
theorem nwS.warm {s U : State} (hW : s.WarmedH U.vm) (h : nwS s) : nwS U := va_Nw.warmM hW h
theorem nwS.same {u U : State} (h : u.vm = U.vm) (q : nwS u) : nwS U := va_Nw.same rfl h q
theorem nwT.same {u U : State} (h : u.vm = U.vm) (q : nwT u) : nwT U := ⟨va_Nw.same rfl h q.1, va_Nw.same rfl h q.2⟩
set_option maxHeartbeats 8000000 in
set_option maxRecDepth 100000 in
theorem ci_X5 (l : Launch) (D : va_G) (cs : Nat → ClassId) (h0 sz : Nat) : Met l yX5_init (wsU yX5_init cX5_init 1 none) ({ frames := 2, cells := 11, slots := 620, locals := 32 }) (va_Pc [.ref h0] (fun U => U.heap.size = sz ∧ va_P D vwCl [(h0, .inr (5, [.null, .null, .null, .null, .null, .null, .null, .null, .int 0]))] U.heap ∧ va_K D vwCl (tyU cs) U ∧ va_D (fun _ => True) [(h0, .inr (5, [.null, .null, .null, .null, .null, .null, .null, .null, .int 0]))] ∧ nwS U)) (va_Qv (fun _ : Nat → Nat => True) (fun u t => va_P D vwCl [(h0, .inr (5, [.ref (u 1), .ref (u 5), .ref (u 6), .ref (u 7), .ref (u 8), .ref (u 9), .ref (u 10), .ref (u 11), .int (-1)])), (u 1, .inr (7, [.ref (u 2), .ref (u 3), .ref (u 4), .int 0, .int 0, .int 0, .int 0, .int 0, .int 0, .int 0, .int 0, .int 0])), (u 2, .inl (cs 1, 8, .inl (fun _ => 0))), (u 3, .inl (cs 1, 8, .inl (fun _ => 0))), (u 4, .inl (cs 1, 8, .inl (fun _ => 0))), (u 5, .inl (cs 1, 20, .inl (fun _ => 0))), (u 6, .inl (cs 1, 20, .inl (fun _ => 0))), (u 7, .inl (cs 1, 20, .inl (fun _ => 0))), (u 8, .inl (cs 1, 20, .inl (fun _ => 0))), (u 9, .inl (cs 1, 168, .inl (fun _ => 0))), (u 10, .inl (cs 1, 168, .inl (fun _ => 0))), (u 11, .inl (cs 1, 168, .inl (fun _ => 0)))] t.heap ∧ va_K D vwCl (tyU cs) t ∧ va_D (va_A [(h0, .inr (5, [.null, .null, .null, .null, .null, .null, .null, .null, .int 0]))] sz) [(h0, .inr (5, [.ref (u 1), .ref (u 5), .ref (u 6), .ref (u 7), .ref (u 8), .ref (u 9), .ref (u 10), .ref (u 11), .int (-1)])), (u 1, .inr (7, [.ref (u 2), .ref (u 3), .ref (u 4), .int 0, .int 0, .int 0, .int 0, .int 0, .int 0, .int 0, .int 0, .int 0])), (u 2, .inl (cs 1, 8, .inl (fun _ => 0))), (u 3, .inl (cs 1, 8, .inl (fun _ => 0))), (u 4, .inl (cs 1, 8, .inl (fun _ => 0))), (u 5, .inl (cs 1, 20, .inl (fun _ => 0))), (u 6, .inl (cs 1, 20, .inl (fun _ => 0))), (u 7, .inl (cs 1, 20, .inl (fun _ => 0))), (u 8, .inl (cs 1, 20, .inl (fun _ => 0))), (u 9, .inl (cs 1, 168, .inl (fun _ => 0))), (u 10, .inl (cs 1, 168, .inl (fun _ => 0))), (u 11, .inl (cs 1, 168, .inl (fun _ => 0)))]) (va_A [(h0, .inr (5, [.null, .null, .null, .null, .null, .null, .null, .null, .int 0]))] sz)) 11 620 (va_A [(h0, .inr (5, [.null, .null, .null, .null, .null, .null, .null, .null, .int 0]))] sz) := by
  refine Met.ofW (cc := cX5_init) (maxL := 1) (ret := none) (by decide) rfl ?_
  intro p e s m args below meth c s₁ B hml hv
  obtain ⟨rfl, hsz, hP, hK, hD0, hN⟩ := hv
  have hx := B.exec
  have hb := B.bytes
  have hr := B.returns
  have hts0 := atoms_spec (ws := wsU yX5_init cX5_init 1 none) B.pre
  have hts : ∀ w ∈ TS, w.before #[Value.ref h0] s = true := fun w hw => hts0 w (List.mem_cons_of_mem _ hw)
  have hown : s.vm.findClass RX5 = some m.cls := findClass_of_methodNamed B.named
  have hlocks := B.notSynchronized
  have hin : meth.name = "<init>" := (name_of_methodNamed B.named B.method).1
  subst hsz
  have hD := hD0.self (sz := s.heap.size)
  generalize hAe : va_A [(h0, .inr (5, [.null, .null, .null, .null, .null, .null, .null, .null, .int 0]))] s.heap.size = A at hD ⊢
  have hA : ∀ q : Nat, s.heap.size ≤ q → A q := fun q h => by rw [← hAe]; exact Or.inr h
  have hS : va_S A s.heap s.heap [] := va_S.rf
  have hl := lv_entry ([.ref h0]) (n := 1) (Nat.le_of_ble_eq_true rfl)
  rw [lg_entry_eq]
  generalize (lg_sl ([.ref h0]) ++ List.replicate (1 - (lg_sl ([.ref h0])).length) Slot.unset).toArray = ls at hl ⊢
  have hl : lv_has ls 1 [(0, .ref h0)] := hl
  refine lv_aload_n hx hb dX5_init_0 rfl (lv_at hl 0 rfl) ?_
  refine W.objInit hx hb hown (hts _ (mT1 99 rfl rfl)) (hts _ (mT1 21 rfl rfl)) (hts _ (mT1 22 rfl rfl)) rfl (by rw [hml]; exact hl.1) rfl dX5_init_1 (Nat.le_of_ble_eq_true rfl) (Nat.le_of_ble_eq_true rfl) ?_
  refine W.eq (g2 := F0 m 4 ls []) rfl ?_
  refine lv_aload_n hx hb dX5_init_4 rfl (lv_at hl 0 rfl) ?_
  refine va_new (ci := 7) (fs := [.null, .null, .null, .int 0, .int 0, .int 0, .int 0, .int 0, .int 0, .int 0, .int 0, .int 0]) (C := RX7) (T := TX7) (N := 12) hx hb hts inT7 tyX7 tyX7_ok hown (hts _ (mT1 100 rfl rfl)) (hts _ (mT1 101 rfl rfl)) (hts _ (mT1 5 rfl rfl)) hK hP hD hS hA rfl (by decide +kernel) (Nat.le_of_ble_eq_true rfl) (Nat.le_of_ble_eq_true rfl) dX5_init_5 (fun q5 H hP hD hS => ?_)
  have hP : va_P D vwCl (((h0, .inr (5, [.null, .null, .null, .null, .null, .null, .null, .null, .int 0])) :: []) ++ [(q5, .inr (7, [.null, .null, .null, .int 0, .int 0, .int 0, .int 0, .int 0, .int 0, .int 0, .int 0, .int 0]))]) H := hP
  have hD : va_D A (((h0, .inr (5, [.null, .null, .null, .null, .null, .null, .null, .null, .int 0])) :: []) ++ [(q5, .inr (7, [.null, .null, .null, .int 0, .int 0, .int 0, .int 0, .int 0, .int 0, .int 0, .int 0, .int 0]))]) := hD
  refine lv_dup hx hb dX5_init_8 rfl ?_
  have hPc := P_right (w := ((h0, .inr (5, [.null, .null, .null, .null, .null, .null, .null, .null, .int 0])) :: [])) (v := [(q5, .inr (7, [.null, .null, .null, .int 0, .int 0, .int 0, .int 0, .int 0, .int 0, .int 0, .int 0, .int 0]))]) hP
  have hDc := D_right (w := ((h0, .inr (5, [.null, .null, .null, .null, .null, .null, .null, .null, .int 0])) :: [])) (v := [(q5, .inr (7, [.null, .null, .null, .int 0, .int 0, .int 0, .int 0, .int 0, .int 0, .int 0, .int 0, .int 0]))]) hD
  have hFc := free_r (wr := ((h0, .inr (5, [.null, .null, .null, .null, .null, .null, .null, .null, .int 0])) :: [])) (wc := [(q5, .inr (7, [.null, .null, .null, .int 0, .int 0, .int 0, .int 0, .int 0, .int 0, .int 0, .int 0, .int 0]))]) hD hS hA
  refine va_callv (va_runIN (As := []) (rest := [.ref q5, .ref h0]) ⟨hx, hb, hml, hown, hts⟩ (ci_X7 l D cs q5 H.size) ⟨va_cnB 0 hts (gU (mT1 104 rfl rfl)) rfl rfl rfl hN (hts _ (mT1 5 rfl rfl)) (by decide +kernel) ⟨(Nat.le_of_ble_eq_true rfl), (Nat.le_of_ble_eq_true rfl)⟩, rfl, hts _ (mT1 103 rfl rfl)⟩ ⟨fun a U g mk q => by obtain ⟨q0, q1, qP, qK, qD⟩ := q; exact ⟨q0, q1, qP, va_K.moved (u := U) (U := U.calling g mk a) (Vm.Alike.refl U.vm) qK, qD⟩, fun U hU hW => ⟨rfl, by rw [hU], by rw [hU]; exact hPc, va_K.moved hW.alike hK, hDc.weaken (fun _ _ _ _ => trivial)⟩⟩ rfl rfl hl.1 rfl (lv_room (Nat.le_of_ble_eq_true rfl)) dX5_init_9 ⟨(Nat.le_of_ble_eq_true rfl), (Nat.le_of_ble_eq_true rfl)⟩) hS (fun q _ h => hFc q h) hFc (fun u5 t H1 locs ht hvm h5 hB hz1 hk1 hS => ?_)
  obtain ⟨hP1, hK1, hD1⟩ := hB
  rw [ht] at hP1
  obtain ⟨hP, hD⟩ := join_r (wr := ((h0, .inr (5, [.null, .null, .null, .null, .null, .null, .null, .null, .int 0])) :: [])) (wc := [(q5, .inr (7, [.null, .null, .null, .int 0, .int 0, .int 0, .int 0, .int 0, .int 0, .int 0, .int 0, .int 0]))]) (w1 := [(q5, .inr (7, [.ref (u5 1), .ref (u5 2), .ref (u5 3), .int 0, .int 0, .int 0, .int 0, .int 0, .int 0, .int 0, .int 0, .int 0])), (u5 1, .inl (cs 1, 8, .inl (fun _ => 0))), (u5 2, .inl (cs 1, 8, .inl (fun _ => 0))), (u5 3, .inl (cs 1, 8, .inl (fun _ => 0)))]) hP hD hk1 hFc hP1 hD1
  generalize H1 = H at hP hS ⊢
  have hP : va_P D vwCl ((h0, .inr (5, [.null, .null, .null, .null, .null, .null, .null, .null, .int 0])) :: ([] ++ [(q5, .inr (7, [.ref (u5 1), .ref (u5 2), .ref (u5 3), .int 0, .int 0, .int 0, .int 0, .int 0, .int 0, .int 0, .int 0, .int 0])), (u5 1, .inl (cs 1, 8, .inl (fun _ => 0))), (u5 2, .inl (cs 1, 8, .inl (fun _ => 0))), (u5 3, .inl (cs 1, 8, .inl (fun _ => 0)))])) H := hP
  have hD : va_D A ((h0, .inr (5, [.null, .null, .null, .null, .null, .null, .null, .null, .int 0])) :: ([] ++ [(q5, .inr (7, [.ref (u5 1), .ref (u5 2), .ref (u5 3), .int 0, .int 0, .int 0, .int 0, .int 0, .int 0, .int 0, .int 0, .int 0])), (u5 1, .inl (cs 1, 8, .inl (fun _ => 0))), (u5 2, .inl (cs 1, 8, .inl (fun _ => 0))), (u5 3, .inl (cs 1, 8, .inl (fun _ => 0)))])) := hD
  generalize hw1 : ([] ++ [(q5, .inr (7, [.ref (u5 1), .ref (u5 2), .ref (u5 3), .int 0, .int 0, .int 0, .int 0, .int 0, .int 0, .int 0, .int 0, .int 0])), (u5 1, .inl (cs 1, 8, .inl (fun _ => 0))), (u5 2, .inl (cs 1, 8, .inl (fun _ => 0))), (u5 3, .inl (cs 1, 8, .inl (fun _ => 0)))] : va_W) = w1 at hP hD
  refine va_putF (D := D) (ci := 5) (v := .ref q5) (ty := .object "DonkeyExecutor$Walk") (C := RX5) (T := TX5) (N := 9) hx hb hts inT5 tyX5 tyX5_ok nmX5 hown hK hP hD hS 0 rfl rfl 0 (by decide) (hts _ (mT1 157 rfl rfl)) (fun _ h9 => h9) rfl hin rfl (by decide +kernel) rfl rfl (Nat.le_of_ble_eq_true rfl) dX5_init_12 (fun H locs hP hD hS => ?_)
  have hP : va_P D vwCl (((h0, .inr (5, [.ref q5, .null, .null, .null, .null, .null, .null, .null, .int 0])) :: w1)) H := hP
  have hD : va_D A (((h0, .inr (5, [.ref q5, .null, .null, .null, .null, .null, .null, .null, .int 0])) :: w1)) := hD
  refine lv_aload_n hx hb dX5_init_15 rfl (lv_at hl 0 rfl) ?_
  refine lv_bipush hx hb dX5_init_16 rfl ?_
  refine i_newI (n := 20) (N := 20) hx hb (hts _ (mT1 39 rfl rfl)) hK hP hD hS hA (by decide) (by decide) (Nat.le_of_ble_eq_true rfl) (Nat.le_of_ble_eq_true rfl) (Nat.le_of_ble_eq_true rfl) dX5_init_18 (fun q18 H hP hD hS => ?_)
  have hP : va_P D vwCl ((h0, .inr (5, [.ref q5, .null, .null, .null, .null, .null, .null, .null, .int 0])) :: (w1 ++ [(q18, .inl (cs 1, 20, .inl (fun _ => 0)))])) H := hP
  have hD : va_D A ((h0, .inr (5, [.ref q5, .null, .null, .null, .null, .null, .null, .null, .int 0])) :: (w1 ++ [(q18, .inl (cs 1, 20, .inl (fun _ => 0)))])) := hD
  generalize hw2 : (w1 ++ [(q18, .inl (cs 1, 20, .inl (fun _ => 0)))] : va_W) = w2 at hP hD
  refine va_putF (D := D) (ci := 5) (v := .ref q18) (ty := .array .int) (C := RX5) (T := TX5) (N := 9) hx hb hts inT5 tyX5 tyX5_ok nmX5 hown hK hP hD hS 0 rfl rfl 1 (by decide) (hts _ (mT1 159 rfl rfl)) (fun _ h9 => h9) rfl hin rfl (by decide +kernel) rfl rfl (Nat.le_of_ble_eq_true rfl) dX5_init_20 (fun H locs hP hD hS => ?_)
  have hP : va_P D vwCl (((h0, .inr (5, [.ref q5, .ref q18, .null, .null, .null, .null, .null, .null, .int 0])) :: w2)) H := hP
  have hD : va_D A (((h0, .inr (5, [.ref q5, .ref q18, .null, .null, .null, .null, .null, .null, .int 0])) :: w2)) := hD
  refine lv_aload_n hx hb dX5_init_23 rfl (lv_at hl 0 rfl) ?_
  refine lv_bipush hx hb dX5_init_24 rfl ?_
  refine i_newI (n := 20) (N := 20) hx hb (hts _ (mT1 39 rfl rfl)) hK hP hD hS hA (by decide) (by decide) (Nat.le_of_ble_eq_true rfl) (Nat.le_of_ble_eq_true rfl) (Nat.le_of_ble_eq_true rfl) dX5_init_26 (fun q26 H hP hD hS => ?_)
  have hP : va_P D vwCl ((h0, .inr (5, [.ref q5, .ref q18, .null, .null, .null, .null, .null, .null, .int 0])) :: (w2 ++ [(q26, .inl (cs 1, 20, .inl (fun _ => 0)))])) H := hP
  have hD : va_D A ((h0, .inr (5, [.ref q5, .ref q18, .null, .null, .null, .null, .null, .null, .int 0])) :: (w2 ++ [(q26, .inl (cs 1, 20, .inl (fun _ => 0)))])) := hD
  generalize hw3 : (w2 ++ [(q26, .inl (cs 1, 20, .inl (fun _ => 0)))] : va_W) = w3 at hP hD
  refine va_putF (D := D) (ci := 5) (v := .ref q26) (ty := .array .int) (C := RX5) (T := TX5) (N := 9) hx hb hts inT5 tyX5 tyX5_ok nmX5 hown hK hP hD hS 0 rfl rfl 2 (by decide) (hts _ (mT1 161 rfl rfl)) (fun _ h9 => h9) rfl hin rfl (by decide +kernel) rfl rfl (Nat.le_of_ble_eq_true rfl) dX5_init_28 (fun H locs hP hD hS => ?_)
  have hP : va_P D vwCl (((h0, .inr (5, [.ref q5, .ref q18, .ref q26, .null, .null, .null, .null, .null, .int 0])) :: w3)) H := hP
  have hD : va_D A (((h0, .inr (5, [.ref q5, .ref q18, .ref q26, .null, .null, .null, .null, .null, .int 0])) :: w3)) := hD
  refine lv_aload_n hx hb dX5_init_31 rfl (lv_at hl 0 rfl) ?_
  refine lv_bipush hx hb dX5_init_32 rfl ?_
  refine i_newI (n := 20) (N := 20) hx hb (hts _ (mT1 39 rfl rfl)) hK hP hD hS hA (by decide) (by decide) (Nat.le_of_ble_eq_true rfl) (Nat.le_of_ble_eq_true rfl) (Nat.le_of_ble_eq_true rfl) dX5_init_34 (fun q34 H hP hD hS => ?_)
  have hP : va_P D vwCl ((h0, .inr (5, [.ref q5, .ref q18, .ref q26, .null, .null, .null, .null, .null, .int 0])) :: (w3 ++ [(q34, .inl (cs 1, 20, .inl (fun _ => 0)))])) H := hP
  have hD : va_D A ((h0, .inr (5, [.ref q5, .ref q18, .ref q26, .null, .null, .null, .null, .null, .int 0])) :: (w3 ++ [(q34, .inl (cs 1, 20, .inl (fun _ => 0)))])) := hD
  generalize hw4 : (w3 ++ [(q34, .inl (cs 1, 20, .inl (fun _ => 0)))] : va_W) = w4 at hP hD
  refine va_putF (D := D) (ci := 5) (v := .ref q34) (ty := .array .int) (C := RX5) (T := TX5) (N := 9) hx hb hts inT5 tyX5 tyX5_ok nmX5 hown hK hP hD hS 0 rfl rfl 3 (by decide) (hts _ (mT1 163 rfl rfl)) (fun _ h9 => h9) rfl hin rfl (by decide +kernel) rfl rfl (Nat.le_of_ble_eq_true rfl) dX5_init_36 (fun H locs hP hD hS => ?_)
  have hP : va_P D vwCl (((h0, .inr (5, [.ref q5, .ref q18, .ref q26, .ref q34, .null, .null, .null, .null, .int 0])) :: w4)) H := hP
  have hD : va_D A (((h0, .inr (5, [.ref q5, .ref q18, .ref q26, .ref q34, .null, .null, .null, .null, .int 0])) :: w4)) := hD
  refine lv_aload_n hx hb dX5_init_39 rfl (lv_at hl 0 rfl) ?_
  refine lv_bipush hx hb dX5_init_40 rfl ?_
  refine i_newI (n := 20) (N := 20) hx hb (hts _ (mT1 39 rfl rfl)) hK hP hD hS hA (by decide) (by decide) (Nat.le_of_ble_eq_true rfl) (Nat.le_of_ble_eq_true rfl) (Nat.le_of_ble_eq_true rfl) dX5_init_42 (fun q42 H hP hD hS => ?_)
  have hP : va_P D vwCl ((h0, .inr (5, [.ref q5, .ref q18, .ref q26, .ref q34, .null, .null, .null, .null, .int 0])) :: (w4 ++ [(q42, .inl (cs 1, 20, .inl (fun _ => 0)))])) H := hP
  have hD : va_D A ((h0, .inr (5, [.ref q5, .ref q18, .ref q26, .ref q34, .null, .null, .null, .null, .int 0])) :: (w4 ++ [(q42, .inl (cs 1, 20, .inl (fun _ => 0)))])) := hD
  generalize hw5 : (w4 ++ [(q42, .inl (cs 1, 20, .inl (fun _ => 0)))] : va_W) = w5 at hP hD
  refine va_putF (D := D) (ci := 5) (v := .ref q42) (ty := .array .int) (C := RX5) (T := TX5) (N := 9) hx hb hts inT5 tyX5 tyX5_ok nmX5 hown hK hP hD hS 0 rfl rfl 4 (by decide) (hts _ (mT1 165 rfl rfl)) (fun _ h9 => h9) rfl hin rfl (by decide +kernel) rfl rfl (Nat.le_of_ble_eq_true rfl) dX5_init_44 (fun H locs hP hD hS => ?_)
  have hP : va_P D vwCl (((h0, .inr (5, [.ref q5, .ref q18, .ref q26, .ref q34, .ref q42, .null, .null, .null, .int 0])) :: w5)) H := hP
  have hD : va_D A (((h0, .inr (5, [.ref q5, .ref q18, .ref q26, .ref q34, .ref q42, .null, .null, .null, .int 0])) :: w5)) := hD
  refine lv_aload_n hx hb dX5_init_47 rfl (lv_at hl 0 rfl) ?_
  refine lv_sipush hx hb dX5_init_48 rfl ?_
  refine i_newI (n := 168) (N := 168) hx hb (hts _ (mT1 39 rfl rfl)) hK hP hD hS hA (by decide) (by decide) (Nat.le_of_ble_eq_true rfl) (Nat.le_of_ble_eq_true rfl) (Nat.le_of_ble_eq_true rfl) dX5_init_51 (fun q51 H hP hD hS => ?_)
  have hP : va_P D vwCl ((h0, .inr (5, [.ref q5, .ref q18, .ref q26, .ref q34, .ref q42, .null, .null, .null, .int 0])) :: (w5 ++ [(q51, .inl (cs 1, 168, .inl (fun _ => 0)))])) H := hP
  have hD : va_D A ((h0, .inr (5, [.ref q5, .ref q18, .ref q26, .ref q34, .ref q42, .null, .null, .null, .int 0])) :: (w5 ++ [(q51, .inl (cs 1, 168, .inl (fun _ => 0)))])) := hD
  generalize hw6 : (w5 ++ [(q51, .inl (cs 1, 168, .inl (fun _ => 0)))] : va_W) = w6 at hP hD
  refine va_putF (D := D) (ci := 5) (v := .ref q51) (ty := .array .int) (C := RX5) (T := TX5) (N := 9) hx hb hts inT5 tyX5 tyX5_ok nmX5 hown hK hP hD hS 0 rfl rfl 5 (by decide) (hts _ (mT1 167 rfl rfl)) (fun _ h9 => h9) rfl hin rfl (by decide +kernel) rfl rfl (Nat.le_of_ble_eq_true rfl) dX5_init_53 (fun H locs hP hD hS => ?_)
  have hP : va_P D vwCl (((h0, .inr (5, [.ref q5, .ref q18, .ref q26, .ref q34, .ref q42, .ref q51, .null, .null, .int 0])) :: w6)) H := hP
  have hD : va_D A (((h0, .inr (5, [.ref q5, .ref q18, .ref q26, .ref q34, .ref q42, .ref q51, .null, .null, .int 0])) :: w6)) := hD
  refine lv_aload_n hx hb dX5_init_56 rfl (lv_at hl 0 rfl) ?_
  refine lv_sipush hx hb dX5_init_57 rfl ?_
  refine i_newI (n := 168) (N := 168) hx hb (hts _ (mT1 39 rfl rfl)) hK hP hD hS hA (by decide) (by decide) (Nat.le_of_ble_eq_true rfl) (Nat.le_of_ble_eq_true rfl) (Nat.le_of_ble_eq_true rfl) dX5_init_60 (fun q60 H hP hD hS => ?_)
  have hP : va_P D vwCl ((h0, .inr (5, [.ref q5, .ref q18, .ref q26, .ref q34, .ref q42, .ref q51, .null, .null, .int 0])) :: (w6 ++ [(q60, .inl (cs 1, 168, .inl (fun _ => 0)))])) H := hP
  have hD : va_D A ((h0, .inr (5, [.ref q5, .ref q18, .ref q26, .ref q34, .ref q42, .ref q51, .null, .null, .int 0])) :: (w6 ++ [(q60, .inl (cs 1, 168, .inl (fun _ => 0)))])) := hD
  generalize hw7 : (w6 ++ [(q60, .inl (cs 1, 168, .inl (fun _ => 0)))] : va_W) = w7 at hP hD
  refine va_putF (D := D) (ci := 5) (v := .ref q60) (ty := .array .int) (C := RX5) (T := TX5) (N := 9) hx hb hts inT5 tyX5 tyX5_ok nmX5 hown hK hP hD hS 0 rfl rfl 6 (by decide) (hts _ (mT1 169 rfl rfl)) (fun _ h9 => h9) rfl hin rfl (by decide +kernel) rfl rfl (Nat.le_of_ble_eq_true rfl) dX5_init_62 (fun H locs hP hD hS => ?_)
  have hP : va_P D vwCl (((h0, .inr (5, [.ref q5, .ref q18, .ref q26, .ref q34, .ref q42, .ref q51, .ref q60, .null, .int 0])) :: w7)) H := hP
  have hD : va_D A (((h0, .inr (5, [.ref q5, .ref q18, .ref q26, .ref q34, .ref q42, .ref q51, .ref q60, .null, .int 0])) :: w7)) := hD
  refine lv_aload_n hx hb dX5_init_65 rfl (lv_at hl 0 rfl) ?_
  refine lv_sipush hx hb dX5_init_66 rfl ?_
  refine i_newI (n := 168) (N := 168) hx hb (hts _ (mT1 39 rfl rfl)) hK hP hD hS hA (by decide) (by decide) (Nat.le_of_ble_eq_true rfl) (Nat.le_of_ble_eq_true rfl) (Nat.le_of_ble_eq_true rfl) dX5_init_69 (fun q69 H hP hD hS => ?_)
  have hP : va_P D vwCl ((h0, .inr (5, [.ref q5, .ref q18, .ref q26, .ref q34, .ref q42, .ref q51, .ref q60, .null, .int 0])) :: (w7 ++ [(q69, .inl (cs 1, 168, .inl (fun _ => 0)))])) H := hP
  have hD : va_D A ((h0, .inr (5, [.ref q5, .ref q18, .ref q26, .ref q34, .ref q42, .ref q51, .ref q60, .null, .int 0])) :: (w7 ++ [(q69, .inl (cs 1, 168, .inl (fun _ => 0)))])) := hD
  generalize hw8 : (w7 ++ [(q69, .inl (cs 1, 168, .inl (fun _ => 0)))] : va_W) = w8 at hP hD
  refine va_putF (D := D) (ci := 5) (v := .ref q69) (ty := .array .int) (C := RX5) (T := TX5) (N := 9) hx hb hts inT5 tyX5 tyX5_ok nmX5 hown hK hP hD hS 0 rfl rfl 7 (by decide) (hts _ (mT1 171 rfl rfl)) (fun _ h9 => h9) rfl hin rfl (by decide +kernel) rfl rfl (Nat.le_of_ble_eq_true rfl) dX5_init_71 (fun H locs hP hD hS => ?_)
  have hP : va_P D vwCl (((h0, .inr (5, [.ref q5, .ref q18, .ref q26, .ref q34, .ref q42, .ref q51, .ref q60, .ref q69, .int 0])) :: w8)) H := hP
  have hD : va_D A (((h0, .inr (5, [.ref q5, .ref q18, .ref q26, .ref q34, .ref q42, .ref q51, .ref q60, .ref q69, .int 0])) :: w8)) := hD
  refine lv_aload_n hx hb dX5_init_74 rfl (lv_at hl 0 rfl) ?_
  refine lv_iconst hx hb dX5_init_75 rfl ?_
  refine va_put (D := D) (ci := 5) (v := .int (-1)) (ty := .int) (C := RX5) (T := TX5) (N := 9) hx hb hts inT5 tyX5 tyX5_ok nmX5 hown hK hP hD hS 0 rfl rfl 8 (by decide) (hts _ (mT1 173 rfl rfl)) (fun _ h9 => h9) rfl (by decide +kernel) rfl rfl (Nat.le_of_ble_eq_true rfl) dX5_init_76 (fun H locs hP hD hS => ?_)
  have hP : va_P D vwCl (((h0, .inr (5, [.ref q5, .ref q18, .ref q26, .ref q34, .ref q42, .ref q51, .ref q60, .ref q69, .int (-1)])) :: w8)) H := hP
  have hD : va_D A (((h0, .inr (5, [.ref q5, .ref q18, .ref q26, .ref q34, .ref q42, .ref q51, .ref q60, .ref q69, .int (-1)])) :: w8)) := hD
  subst hw8
  subst hw7
  subst hw6
  subst hw5
  subst hw4
  subst hw3
  subst hw2
  subst hw1
  exact W.vret hx hb hr (fun t ht hW => ⟨⟨fun k => [h0, q5, u5 1, u5 2, u5 3, q18, q26, q34, q42, q51, q60, q69].getD k 0, rfl, trivial, by rw [ht]; exact hP, va_K.moved hW.alike hK, hD⟩, hS.F ht⟩) hS.2.2 dX5_init_79
