/-! ===== the law's cases (written by gen_law.py) ===== -/
set_option maxHeartbeats 4000000 in
theorem lc_18 {p : Program} {l : Launch} {e : Env} {s : State} {m : MethodId} {below : List Frame} {meth : Method} {c : Code} {b L : Nat} {xs : Nat → Int32} {D : va_G} {cs : Nat → ClassId} {ad ad' : Nat → Nat} {A1 A2 : Nat → Prop} {cells slots : Nat} {Q : State → Prop} {H : Heap} {C R : Mem} {ls : Array Slot} {x3 : Int32} (F : CallFix p m c cL_law 4 s #[Value.ref b] TS RL) (hX : va_X b L xs s s.heap) (hbl : b < s.heap.size) (hcs : cells ≤ room_1.cells ∧ slots ≤ room_1.slots) (hF : Lf D cs A1 A2 s) (hW : Lw D cs ad ad' A1 A2 s H C R) (hrel : Rel C R) (hl : lv_has ls 4 [(3, .int x3), (2, .ref (ad' (cO GM 0))), (1, .ref (ad (cO GC 0))), (0, .ref b)]) (hv : vp_in (x3 + 1) L ∧ vp_in (x3 + 2) L ∧ vp_in (x3 + 3) L ∧ vp_in (x3 + 4) L ∧ vp_in (x3 + 5) L) (kk : ∀ (H : Heap) (C R : Mem), Lw D cs ad ad' A1 A2 s H C R → Rel C R → W p l e room_1 s m #[Value.ref b] below meth c H [] cells slots Q (F0 m 1182 ls [])) : W p l e room_1 s m #[Value.ref b] below meth c H [] cells slots Q (F0 m 606 ls []) := by
  have hx := F.1
  have hb := F.2.1
  obtain ⟨hP, hD, hP', hD', hS⟩ := hW
  have hbA : ¬ (fun q : Nat => s.heap.size ≤ q) b := Nat.not_le.mpr hbl
  obtain ⟨r, C', R', e1, e2, hrel'⟩ := op_fair hrel (xs (x3 + 1).toNatClampNeg)
  refine lv_aload_n hx hb dL_law_606 rfl (lv_at hl 2 rfl) ?_
  refine lv_aload_n hx hb dL_law_607 rfl (lv_at hl 3 rfl) ?_
  refine lv_iload_n hx hb dL_law_608 rfl (lv_at hl 0 rfl) ?_
  refine lv_iconst (v := 1) hx hb dL_law_609 (by decide) ?_
  refine lv_iadd hx hb dL_law_610 ?_
  refine va_sld hx hb hX hbl hbA hS hv.1 dL_law_611 ?_
  refine lx_i (z := (r, C')) hF.2.2.1 hS (lx_run (n := 1) (As := [.int (xs (x3 + 1).toNatClampNeg)]) (rest := []) (T := TX9) (N := 14) F hF.1 hF.2.1 hF.2.2.1 hP hD hS hcs (kX9_fair l D ad cs A1 C (xs (x3 + 1).toNatClampNeg) (r, C') e1) (gV (mT3 93 rfl rfl) (mT3 94 rfl rfl) (mT3 95 rfl rfl) (mT1 1 rfl rfl) (mT3 96 rfl rfl)) (by decide +kernel) ⟨(Nat.le_of_ble_eq_true rfl), (Nat.le_of_ble_eq_true rfl)⟩ kGC rfl rfl hl.1 rfl (Nat.le_of_ble_eq_true rfl) dL_law_612) (fun H hPn hDn hk hS => ?_)
  have hPc := hPn
  have hDc := hDn
  have hP' := lx_keep hk (fun k q hq hA => hF.2.2.2.2 q.1 hA (hD'.2 k q hq)) hP'
  refine lv_aload_n hx hb dL_law_615 rfl (lv_at hl 1 rfl) ?_
  refine lv_aload_n hx hb dL_law_616 rfl (lv_at hl 3 rfl) ?_
  refine lv_iload_n hx hb dL_law_617 rfl (lv_at hl 0 rfl) ?_
  refine lv_iconst (v := 1) hx hb dL_law_618 (by decide) ?_
  refine lv_iadd hx hb dL_law_619 ?_
  refine va_sld hx hb hX hbl hbA hS hv.1 dL_law_620 ?_
  refine lx_i (z := (r, R')) hF.2.2.2.1 hS (lx_run (n := 1) (As := [.int (xs (x3 + 1).toNatClampNeg)]) (rest := [.int r]) (T := TX10) (N := 42) F hF.1 hF.2.1 hF.2.2.2.1 hP' hD' hS hcs (kX10_fair l D ad' cs A2 R (xs (x3 + 1).toNatClampNeg) (r, R') e2) (gV (mT5 155 rfl rfl) (mT5 156 rfl rfl) (mT5 157 rfl rfl) (mT1 12 rfl rfl) (mT5 158 rfl rfl)) (by decide +kernel) ⟨(Nat.le_of_ble_eq_true rfl), (Nat.le_of_ble_eq_true rfl)⟩ kGM rfl rfl hl.1 rfl (Nat.le_of_ble_eq_true rfl) dL_law_621) (fun H hPn hDn hk hS => ?_)
  have hPc := lx_keep hk (fun k q hq hA => hF.2.2.2.2 q.1 (hDc.2 k q hq) hA) hPc
  refine lv_icmp_eq (tgt := 1182) hx hb dL_law_624 (by decide) (fun _ => ?_) (fun z => absurd rfl z)
  exact kk H C' R' ⟨hPc, hDc, hPn, hDn, hS⟩ hrel'
set_option maxHeartbeats 4000000 in
theorem lc_19 {p : Program} {l : Launch} {e : Env} {s : State} {m : MethodId} {below : List Frame} {meth : Method} {c : Code} {b L : Nat} {xs : Nat → Int32} {D : va_G} {cs : Nat → ClassId} {ad ad' : Nat → Nat} {A1 A2 : Nat → Prop} {cells slots : Nat} {Q : State → Prop} {H : Heap} {C R : Mem} {ls : Array Slot} {x3 : Int32} (F : CallFix p m c cL_law 4 s #[Value.ref b] TS RL) (hX : va_X b L xs s s.heap) (hbl : b < s.heap.size) (hcs : cells ≤ room_1.cells ∧ slots ≤ room_1.slots) (hF : Lf D cs A1 A2 s) (hW : Lw D cs ad ad' A1 A2 s H C R) (hrel : Rel C R) (hl : lv_has ls 4 [(3, .int x3), (2, .ref (ad' (cO GM 0))), (1, .ref (ad (cO GC 0))), (0, .ref b)]) (hv : vp_in (x3 + 1) L ∧ vp_in (x3 + 2) L ∧ vp_in (x3 + 3) L ∧ vp_in (x3 + 4) L ∧ vp_in (x3 + 5) L) (kk : ∀ (H : Heap) (C R : Mem), Lw D cs ad ad' A1 A2 s H C R → Rel C R → W p l e room_1 s m #[Value.ref b] below meth c H [] cells slots Q (F0 m 1182 ls [])) : W p l e room_1 s m #[Value.ref b] below meth c H [] cells slots Q (F0 m 629 ls []) := by
  have hx := F.1
  have hb := F.2.1
  obtain ⟨hP, hD, hP', hD', hS⟩ := hW
  have hbA : ¬ (fun q : Nat => s.heap.size ≤ q) b := Nat.not_le.mpr hbl
  obtain ⟨r, C', R', e1, e2, hrel'⟩ := op_care hrel (xs (x3 + 1).toNatClampNeg)
  refine lv_aload_n hx hb dL_law_629 rfl (lv_at hl 2 rfl) ?_
  refine lv_aload_n hx hb dL_law_630 rfl (lv_at hl 3 rfl) ?_
  refine lv_iload_n hx hb dL_law_631 rfl (lv_at hl 0 rfl) ?_
  refine lv_iconst (v := 1) hx hb dL_law_632 (by decide) ?_
  refine lv_iadd hx hb dL_law_633 ?_
  refine va_sld hx hb hX hbl hbA hS hv.1 dL_law_634 ?_
  refine lx_i (z := (r, C')) hF.2.2.1 hS (lx_run (n := 1) (As := [.int (xs (x3 + 1).toNatClampNeg)]) (rest := []) (T := TX9) (N := 14) F hF.1 hF.2.1 hF.2.2.1 hP hD hS hcs (kX9_care l D ad cs A1 C (xs (x3 + 1).toNatClampNeg) (r, C') e1) (gV (mT3 121 rfl rfl) (mT3 122 rfl rfl) (mT3 123 rfl rfl) (mT1 1 rfl rfl) (mT3 124 rfl rfl)) (by decide +kernel) ⟨(Nat.le_of_ble_eq_true rfl), (Nat.le_of_ble_eq_true rfl)⟩ kGC rfl rfl hl.1 rfl (Nat.le_of_ble_eq_true rfl) dL_law_635) (fun H hPn hDn hk hS => ?_)
  have hPc := hPn
  have hDc := hDn
  have hP' := lx_keep hk (fun k q hq hA => hF.2.2.2.2 q.1 hA (hD'.2 k q hq)) hP'
  refine lv_aload_n hx hb dL_law_638 rfl (lv_at hl 1 rfl) ?_
  refine lv_aload_n hx hb dL_law_639 rfl (lv_at hl 3 rfl) ?_
  refine lv_iload_n hx hb dL_law_640 rfl (lv_at hl 0 rfl) ?_
  refine lv_iconst (v := 1) hx hb dL_law_641 (by decide) ?_
  refine lv_iadd hx hb dL_law_642 ?_
  refine va_sld hx hb hX hbl hbA hS hv.1 dL_law_643 ?_
  refine lx_i (z := (r, R')) hF.2.2.2.1 hS (lx_run (n := 1) (As := [.int (xs (x3 + 1).toNatClampNeg)]) (rest := [.int r]) (T := TX10) (N := 42) F hF.1 hF.2.1 hF.2.2.2.1 hP' hD' hS hcs (kX10_care l D ad' cs A2 R (xs (x3 + 1).toNatClampNeg) (r, R') e2) (gV (mT5 175 rfl rfl) (mT5 176 rfl rfl) (mT5 177 rfl rfl) (mT1 12 rfl rfl) (mT5 178 rfl rfl)) (by decide +kernel) ⟨(Nat.le_of_ble_eq_true rfl), (Nat.le_of_ble_eq_true rfl)⟩ kGM rfl rfl hl.1 rfl (Nat.le_of_ble_eq_true rfl) dL_law_644) (fun H hPn hDn hk hS => ?_)
  have hPc := lx_keep hk (fun k q hq hA => hF.2.2.2.2 q.1 (hDc.2 k q hq) hA) hPc
  refine lv_icmp_eq (tgt := 1182) hx hb dL_law_647 (by decide) (fun _ => ?_) (fun z => absurd rfl z)
  exact kk H C' R' ⟨hPc, hDc, hPn, hDn, hS⟩ hrel'
set_option maxHeartbeats 4000000 in
theorem lc_20 {p : Program} {l : Launch} {e : Env} {s : State} {m : MethodId} {below : List Frame} {meth : Method} {c : Code} {b L : Nat} {xs : Nat → Int32} {D : va_G} {cs : Nat → ClassId} {ad ad' : Nat → Nat} {A1 A2 : Nat → Prop} {cells slots : Nat} {Q : State → Prop} {H : Heap} {C R : Mem} {ls : Array Slot} {x3 : Int32} (F : CallFix p m c cL_law 4 s #[Value.ref b] TS RL) (hX : va_X b L xs s s.heap) (hbl : b < s.heap.size) (hcs : cells ≤ room_1.cells ∧ slots ≤ room_1.slots) (hF : Lf D cs A1 A2 s) (hW : Lw D cs ad ad' A1 A2 s H C R) (hrel : Rel C R) (hl : lv_has ls 4 [(3, .int x3), (2, .ref (ad' (cO GM 0))), (1, .ref (ad (cO GC 0))), (0, .ref b)]) (hv : vp_in (x3 + 1) L ∧ vp_in (x3 + 2) L ∧ vp_in (x3 + 3) L ∧ vp_in (x3 + 4) L ∧ vp_in (x3 + 5) L) (kk : ∀ (H : Heap) (C R : Mem), Lw D cs ad ad' A1 A2 s H C R → Rel C R → W p l e room_1 s m #[Value.ref b] below meth c H [] cells slots Q (F0 m 1182 ls [])) : W p l e room_1 s m #[Value.ref b] below meth c H [] cells slots Q (F0 m 652 ls []) := by
  have hx := F.1
  have hb := F.2.1
  obtain ⟨hP, hD, hP', hD', hS⟩ := hW
  have hbA : ¬ (fun q : Nat => s.heap.size ≤ q) b := Nat.not_le.mpr hbl
  obtain ⟨r, C', R', e1, e2, hrel'⟩ := op_skip hrel (xs (x3 + 1).toNatClampNeg) (xs (x3 + 2).toNatClampNeg)
  refine lv_aload_n hx hb dL_law_652 rfl (lv_at hl 2 rfl) ?_
  refine lv_aload_n hx hb dL_law_653 rfl (lv_at hl 3 rfl) ?_
  refine lv_iload_n hx hb dL_law_654 rfl (lv_at hl 0 rfl) ?_
  refine lv_iconst (v := 1) hx hb dL_law_655 (by decide) ?_
  refine lv_iadd hx hb dL_law_656 ?_
  refine va_sld hx hb hX hbl hbA hS hv.1 dL_law_657 ?_
  refine lv_aload_n hx hb dL_law_658 rfl (lv_at hl 3 rfl) ?_
  refine lv_iload_n hx hb dL_law_659 rfl (lv_at hl 0 rfl) ?_
  refine lv_iconst (v := 2) hx hb dL_law_660 (by decide) ?_
  refine lv_iadd hx hb dL_law_661 ?_
  refine va_sld hx hb hX hbl hbA hS hv.2.1 dL_law_662 ?_
  refine lx_i (z := (r, C')) hF.2.2.1 hS (lx_run (n := 2) (As := [.int (xs (x3 + 1).toNatClampNeg), .int (xs (x3 + 2).toNatClampNeg)]) (rest := []) (T := TX9) (N := 14) F hF.1 hF.2.1 hF.2.2.1 hP hD hS hcs (kX9_skip l D ad cs A1 C (xs (x3 + 1).toNatClampNeg) (xs (x3 + 2).toNatClampNeg) (r, C') e1) (gV (mT3 126 rfl rfl) (mT3 127 rfl rfl) (mT3 128 rfl rfl) (mT1 1 rfl rfl) (mT3 129 rfl rfl)) (by decide +kernel) ⟨(Nat.le_of_ble_eq_true rfl), (Nat.le_of_ble_eq_true rfl)⟩ kGC rfl rfl hl.1 rfl (Nat.le_of_ble_eq_true rfl) dL_law_663) (fun H hPn hDn hk hS => ?_)
  have hPc := hPn
  have hDc := hDn
  have hP' := lx_keep hk (fun k q hq hA => hF.2.2.2.2 q.1 hA (hD'.2 k q hq)) hP'
  refine lv_aload_n hx hb dL_law_666 rfl (lv_at hl 1 rfl) ?_
  refine lv_aload_n hx hb dL_law_667 rfl (lv_at hl 3 rfl) ?_
  refine lv_iload_n hx hb dL_law_668 rfl (lv_at hl 0 rfl) ?_
  refine lv_iconst (v := 1) hx hb dL_law_669 (by decide) ?_
  refine lv_iadd hx hb dL_law_670 ?_
  refine va_sld hx hb hX hbl hbA hS hv.1 dL_law_671 ?_
  refine lv_aload_n hx hb dL_law_672 rfl (lv_at hl 3 rfl) ?_
  refine lv_iload_n hx hb dL_law_673 rfl (lv_at hl 0 rfl) ?_
  refine lv_iconst (v := 2) hx hb dL_law_674 (by decide) ?_
  refine lv_iadd hx hb dL_law_675 ?_
  refine va_sld hx hb hX hbl hbA hS hv.2.1 dL_law_676 ?_
  refine lx_i (z := (r, R')) hF.2.2.2.1 hS (lx_run (n := 2) (As := [.int (xs (x3 + 1).toNatClampNeg), .int (xs (x3 + 2).toNatClampNeg)]) (rest := [.int r]) (T := TX10) (N := 42) F hF.1 hF.2.1 hF.2.2.2.1 hP' hD' hS hcs (kX10_skip l D ad' cs A2 R (xs (x3 + 1).toNatClampNeg) (xs (x3 + 2).toNatClampNeg) (r, R') e2) (gV (mT5 183 rfl rfl) (mT5 184 rfl rfl) (mT5 185 rfl rfl) (mT1 12 rfl rfl) (mT5 186 rfl rfl)) (by decide +kernel) ⟨(Nat.le_of_ble_eq_true rfl), (Nat.le_of_ble_eq_true rfl)⟩ kGM rfl rfl hl.1 rfl (Nat.le_of_ble_eq_true rfl) dL_law_677) (fun H hPn hDn hk hS => ?_)
  have hPc := lx_keep hk (fun k q hq hA => hF.2.2.2.2 q.1 (hDc.2 k q hq) hA) hPc
  refine lv_icmp_eq (tgt := 1182) hx hb dL_law_680 (by decide) (fun _ => ?_) (fun z => absurd rfl z)
  exact kk H C' R' ⟨hPc, hDc, hPn, hDn, hS⟩ hrel'
set_option maxHeartbeats 4000000 in
theorem lc_21 {p : Program} {l : Launch} {e : Env} {s : State} {m : MethodId} {below : List Frame} {meth : Method} {c : Code} {b L : Nat} {xs : Nat → Int32} {D : va_G} {cs : Nat → ClassId} {ad ad' : Nat → Nat} {A1 A2 : Nat → Prop} {cells slots : Nat} {Q : State → Prop} {H : Heap} {C R : Mem} {ls : Array Slot} {x3 : Int32} (F : CallFix p m c cL_law 4 s #[Value.ref b] TS RL) (hX : va_X b L xs s s.heap) (hbl : b < s.heap.size) (hcs : cells ≤ room_1.cells ∧ slots ≤ room_1.slots) (hF : Lf D cs A1 A2 s) (hW : Lw D cs ad ad' A1 A2 s H C R) (hrel : Rel C R) (hl : lv_has ls 4 [(3, .int x3), (2, .ref (ad' (cO GM 0))), (1, .ref (ad (cO GC 0))), (0, .ref b)]) (hv : vp_in (x3 + 1) L ∧ vp_in (x3 + 2) L ∧ vp_in (x3 + 3) L ∧ vp_in (x3 + 4) L ∧ vp_in (x3 + 5) L) (kk : ∀ (H : Heap) (C R : Mem), Lw D cs ad ad' A1 A2 s H C R → Rel C R → W p l e room_1 s m #[Value.ref b] below meth c H [] cells slots Q (F0 m 1182 ls [])) : W p l e room_1 s m #[Value.ref b] below meth c H [] cells slots Q (F0 m 685 ls []) := by
  have hx := F.1
  have hb := F.2.1
  obtain ⟨hP, hD, hP', hD', hS⟩ := hW
  have hbA : ¬ (fun q : Nat => s.heap.size ≤ q) b := Nat.not_le.mpr hbl
  obtain ⟨r, C', R', e1, e2, hrel'⟩ := op_seen hrel (xs (x3 + 1).toNatClampNeg) (xs (x3 + 2).toNatClampNeg)
  refine lv_aload_n hx hb dL_law_685 rfl (lv_at hl 2 rfl) ?_
  refine lv_aload_n hx hb dL_law_686 rfl (lv_at hl 3 rfl) ?_
  refine lv_iload_n hx hb dL_law_687 rfl (lv_at hl 0 rfl) ?_
  refine lv_iconst (v := 1) hx hb dL_law_688 (by decide) ?_
  refine lv_iadd hx hb dL_law_689 ?_
  refine va_sld hx hb hX hbl hbA hS hv.1 dL_law_690 ?_
  refine lv_aload_n hx hb dL_law_691 rfl (lv_at hl 3 rfl) ?_
  refine lv_iload_n hx hb dL_law_692 rfl (lv_at hl 0 rfl) ?_
  refine lv_iconst (v := 2) hx hb dL_law_693 (by decide) ?_
  refine lv_iadd hx hb dL_law_694 ?_
  refine va_sld hx hb hX hbl hbA hS hv.2.1 dL_law_695 ?_
  refine lx_i (z := (r, C')) hF.2.2.1 hS (lx_run (n := 2) (As := [.int (xs (x3 + 1).toNatClampNeg), .int (xs (x3 + 2).toNatClampNeg)]) (rest := []) (T := TX9) (N := 14) F hF.1 hF.2.1 hF.2.2.1 hP hD hS hcs (kX9_seen l D ad cs A1 C (xs (x3 + 1).toNatClampNeg) (xs (x3 + 2).toNatClampNeg) (r, C') e1) (gV (mT3 130 rfl rfl) (mT3 131 rfl rfl) (mT3 132 rfl rfl) (mT1 1 rfl rfl) (mT3 133 rfl rfl)) (by decide +kernel) ⟨(Nat.le_of_ble_eq_true rfl), (Nat.le_of_ble_eq_true rfl)⟩ kGC rfl rfl hl.1 rfl (Nat.le_of_ble_eq_true rfl) dL_law_696) (fun H hPn hDn hk hS => ?_)
  have hPc := hPn
  have hDc := hDn
  have hP' := lx_keep hk (fun k q hq hA => hF.2.2.2.2 q.1 hA (hD'.2 k q hq)) hP'
  refine lv_aload_n hx hb dL_law_699 rfl (lv_at hl 1 rfl) ?_
  refine lv_aload_n hx hb dL_law_700 rfl (lv_at hl 3 rfl) ?_
  refine lv_iload_n hx hb dL_law_701 rfl (lv_at hl 0 rfl) ?_
  refine lv_iconst (v := 1) hx hb dL_law_702 (by decide) ?_
  refine lv_iadd hx hb dL_law_703 ?_
  refine va_sld hx hb hX hbl hbA hS hv.1 dL_law_704 ?_
  refine lv_aload_n hx hb dL_law_705 rfl (lv_at hl 3 rfl) ?_
  refine lv_iload_n hx hb dL_law_706 rfl (lv_at hl 0 rfl) ?_
  refine lv_iconst (v := 2) hx hb dL_law_707 (by decide) ?_
  refine lv_iadd hx hb dL_law_708 ?_
  refine va_sld hx hb hX hbl hbA hS hv.2.1 dL_law_709 ?_
  refine lx_i (z := (r, R')) hF.2.2.2.1 hS (lx_run (n := 2) (As := [.int (xs (x3 + 1).toNatClampNeg), .int (xs (x3 + 2).toNatClampNeg)]) (rest := [.int r]) (T := TX10) (N := 42) F hF.1 hF.2.1 hF.2.2.2.1 hP' hD' hS hcs (kX10_seen l D ad' cs A2 R (xs (x3 + 1).toNatClampNeg) (xs (x3 + 2).toNatClampNeg) (r, R') e2) (gV (mT5 191 rfl rfl) (mT5 192 rfl rfl) (mT5 193 rfl rfl) (mT1 12 rfl rfl) (mT5 194 rfl rfl)) (by decide +kernel) ⟨(Nat.le_of_ble_eq_true rfl), (Nat.le_of_ble_eq_true rfl)⟩ kGM rfl rfl hl.1 rfl (Nat.le_of_ble_eq_true rfl) dL_law_710) (fun H hPn hDn hk hS => ?_)
  have hPc := lx_keep hk (fun k q hq hA => hF.2.2.2.2 q.1 (hDc.2 k q hq) hA) hPc
  refine lv_icmp_eq (tgt := 1182) hx hb dL_law_713 (by decide) (fun _ => ?_) (fun z => absurd rfl z)
  exact kk H C' R' ⟨hPc, hDc, hPn, hDn, hS⟩ hrel'
set_option maxHeartbeats 4000000 in
theorem lc_22 {p : Program} {l : Launch} {e : Env} {s : State} {m : MethodId} {below : List Frame} {meth : Method} {c : Code} {b L : Nat} {xs : Nat → Int32} {D : va_G} {cs : Nat → ClassId} {ad ad' : Nat → Nat} {A1 A2 : Nat → Prop} {cells slots : Nat} {Q : State → Prop} {H : Heap} {C R : Mem} {ls : Array Slot} {x3 : Int32} (F : CallFix p m c cL_law 4 s #[Value.ref b] TS RL) (hX : va_X b L xs s s.heap) (hbl : b < s.heap.size) (hcs : cells ≤ room_1.cells ∧ slots ≤ room_1.slots) (hF : Lf D cs A1 A2 s) (hW : Lw D cs ad ad' A1 A2 s H C R) (hrel : Rel C R) (hl : lv_has ls 4 [(3, .int x3), (2, .ref (ad' (cO GM 0))), (1, .ref (ad (cO GC 0))), (0, .ref b)]) (hv : vp_in (x3 + 1) L ∧ vp_in (x3 + 2) L ∧ vp_in (x3 + 3) L ∧ vp_in (x3 + 4) L ∧ vp_in (x3 + 5) L) (kk : ∀ (H : Heap) (C R : Mem), Lw D cs ad ad' A1 A2 s H C R → Rel C R → W p l e room_1 s m #[Value.ref b] below meth c H [] cells slots Q (F0 m 1182 ls [])) : W p l e room_1 s m #[Value.ref b] below meth c H [] cells slots Q (F0 m 718 ls []) := by
  have hx := F.1
  have hb := F.2.1
  obtain ⟨hP, hD, hP', hD', hS⟩ := hW
  have hbA : ¬ (fun q : Nat => s.heap.size ≤ q) b := Nat.not_le.mpr hbl
  obtain ⟨r, C', R', e1, e2, hrel'⟩ := op_forget hrel
  refine lv_aload_n hx hb dL_law_718 rfl (lv_at hl 2 rfl) ?_
  refine lx_i (z := (r, C')) hF.2.2.1 hS (lx_run (n := 0) (As := []) (rest := []) (T := TX9) (N := 14) F hF.1 hF.2.1 hF.2.2.1 hP hD hS hcs (kX9_forget l D ad cs A1 C (r, C') e1) (gV (mT3 138 rfl rfl) (mT3 139 rfl rfl) (mT3 140 rfl rfl) (mT1 1 rfl rfl) (mT3 141 rfl rfl)) (by decide +kernel) ⟨(Nat.le_of_ble_eq_true rfl), (Nat.le_of_ble_eq_true rfl)⟩ kGC rfl rfl hl.1 rfl (Nat.le_of_ble_eq_true rfl) dL_law_719) (fun H hPn hDn hk hS => ?_)
  have hPc := hPn
  have hDc := hDn
  have hP' := lx_keep hk (fun k q hq hA => hF.2.2.2.2 q.1 hA (hD'.2 k q hq)) hP'
  refine lv_aload_n hx hb dL_law_722 rfl (lv_at hl 1 rfl) ?_
  refine lx_i (z := (r, R')) hF.2.2.2.1 hS (lx_run (n := 0) (As := []) (rest := [.int r]) (T := TX10) (N := 42) F hF.1 hF.2.1 hF.2.2.2.1 hP' hD' hS hcs (kX10_forget l D ad' cs A2 R (r, R') e2) (gV (mT5 195 rfl rfl) (mT5 196 rfl rfl) (mT5 197 rfl rfl) (mT1 12 rfl rfl) (mT5 198 rfl rfl)) (by decide +kernel) ⟨(Nat.le_of_ble_eq_true rfl), (Nat.le_of_ble_eq_true rfl)⟩ kGM rfl rfl hl.1 rfl (Nat.le_of_ble_eq_true rfl) dL_law_723) (fun H hPn hDn hk hS => ?_)
  have hPc := lx_keep hk (fun k q hq hA => hF.2.2.2.2 q.1 (hDc.2 k q hq) hA) hPc
  refine lv_icmp_eq (tgt := 1182) hx hb dL_law_726 (by decide) (fun _ => ?_) (fun z => absurd rfl z)
  exact kk H C' R' ⟨hPc, hDc, hPn, hDn, hS⟩ hrel'
set_option maxHeartbeats 4000000 in
theorem lc_23 {p : Program} {l : Launch} {e : Env} {s : State} {m : MethodId} {below : List Frame} {meth : Method} {c : Code} {b L : Nat} {xs : Nat → Int32} {D : va_G} {cs : Nat → ClassId} {ad ad' : Nat → Nat} {A1 A2 : Nat → Prop} {cells slots : Nat} {Q : State → Prop} {H : Heap} {C R : Mem} {ls : Array Slot} {x3 : Int32} (F : CallFix p m c cL_law 4 s #[Value.ref b] TS RL) (hX : va_X b L xs s s.heap) (hbl : b < s.heap.size) (hcs : cells ≤ room_1.cells ∧ slots ≤ room_1.slots) (hF : Lf D cs A1 A2 s) (hW : Lw D cs ad ad' A1 A2 s H C R) (hrel : Rel C R) (hl : lv_has ls 4 [(3, .int x3), (2, .ref (ad' (cO GM 0))), (1, .ref (ad (cO GC 0))), (0, .ref b)]) (hv : vp_in (x3 + 1) L ∧ vp_in (x3 + 2) L ∧ vp_in (x3 + 3) L ∧ vp_in (x3 + 4) L ∧ vp_in (x3 + 5) L) (kk : ∀ (H : Heap) (C R : Mem), Lw D cs ad ad' A1 A2 s H C R → Rel C R → W p l e room_1 s m #[Value.ref b] below meth c H [] cells slots Q (F0 m 1182 ls [])) : W p l e room_1 s m #[Value.ref b] below meth c H [] cells slots Q (F0 m 731 ls []) := by
  have hx := F.1
  have hb := F.2.1
  obtain ⟨hP, hD, hP', hD', hS⟩ := hW
  have hbA : ¬ (fun q : Nat => s.heap.size ≤ q) b := Nat.not_le.mpr hbl
  obtain ⟨r, C', R', e1, e2, hrel'⟩ := op_never hrel
  refine lv_aload_n hx hb dL_law_731 rfl (lv_at hl 2 rfl) ?_
  refine lx_i (z := (r, C')) hF.2.2.1 hS (lx_run (n := 0) (As := []) (rest := []) (T := TX9) (N := 14) F hF.1 hF.2.1 hF.2.2.1 hP hD hS hcs (kX9_never l D ad cs A1 C (r, C') e1) (gV (mT3 142 rfl rfl) (mT3 143 rfl rfl) (mT3 144 rfl rfl) (mT1 1 rfl rfl) (mT3 145 rfl rfl)) (by decide +kernel) ⟨(Nat.le_of_ble_eq_true rfl), (Nat.le_of_ble_eq_true rfl)⟩ kGC rfl rfl hl.1 rfl (Nat.le_of_ble_eq_true rfl) dL_law_732) (fun H hPn hDn hk hS => ?_)
  have hPc := hPn
  have hDc := hDn
  have hP' := lx_keep hk (fun k q hq hA => hF.2.2.2.2 q.1 hA (hD'.2 k q hq)) hP'
  refine lv_aload_n hx hb dL_law_735 rfl (lv_at hl 1 rfl) ?_
  refine lx_i (z := (r, R')) hF.2.2.2.1 hS (lx_run (n := 0) (As := []) (rest := [.int r]) (T := TX10) (N := 42) F hF.1 hF.2.1 hF.2.2.2.1 hP' hD' hS hcs (kX10_never l D ad' cs A2 R (r, R') e2) (gV (mT5 199 rfl rfl) (mT5 200 rfl rfl) (mT5 201 rfl rfl) (mT1 12 rfl rfl) (mT5 202 rfl rfl)) (by decide +kernel) ⟨(Nat.le_of_ble_eq_true rfl), (Nat.le_of_ble_eq_true rfl)⟩ kGM rfl rfl hl.1 rfl (Nat.le_of_ble_eq_true rfl) dL_law_736) (fun H hPn hDn hk hS => ?_)
  have hPc := lx_keep hk (fun k q hq hA => hF.2.2.2.2 q.1 (hDc.2 k q hq) hA) hPc
  refine lv_icmp_eq (tgt := 1182) hx hb dL_law_739 (by decide) (fun _ => ?_) (fun z => absurd rfl z)
  exact kk H C' R' ⟨hPc, hDc, hPn, hDn, hS⟩ hrel'
set_option maxHeartbeats 4000000 in
theorem lc_24 {p : Program} {l : Launch} {e : Env} {s : State} {m : MethodId} {below : List Frame} {meth : Method} {c : Code} {b L : Nat} {xs : Nat → Int32} {D : va_G} {cs : Nat → ClassId} {ad ad' : Nat → Nat} {A1 A2 : Nat → Prop} {cells slots : Nat} {Q : State → Prop} {H : Heap} {C R : Mem} {ls : Array Slot} {x3 : Int32} (F : CallFix p m c cL_law 4 s #[Value.ref b] TS RL) (hX : va_X b L xs s s.heap) (hbl : b < s.heap.size) (hcs : cells ≤ room_1.cells ∧ slots ≤ room_1.slots) (hF : Lf D cs A1 A2 s) (hW : Lw D cs ad ad' A1 A2 s H C R) (hrel : Rel C R) (hl : lv_has ls 4 [(3, .int x3), (2, .ref (ad' (cO GM 0))), (1, .ref (ad (cO GC 0))), (0, .ref b)]) (hv : vp_in (x3 + 1) L ∧ vp_in (x3 + 2) L ∧ vp_in (x3 + 3) L ∧ vp_in (x3 + 4) L ∧ vp_in (x3 + 5) L) (kk : ∀ (H : Heap) (C R : Mem), Lw D cs ad ad' A1 A2 s H C R → Rel C R → W p l e room_1 s m #[Value.ref b] below meth c H [] cells slots Q (F0 m 1182 ls [])) : W p l e room_1 s m #[Value.ref b] below meth c H [] cells slots Q (F0 m 744 ls []) := by
  have hx := F.1
  have hb := F.2.1
  obtain ⟨hP, hD, hP', hD', hS⟩ := hW
  have hbA : ¬ (fun q : Nat => s.heap.size ≤ q) b := Nat.not_le.mpr hbl
  obtain ⟨r, C', R', e1, e2, hrel'⟩ := op_was hrel (xs (x3 + 1).toNatClampNeg) (xs (x3 + 2).toNatClampNeg)
  refine lv_aload_n hx hb dL_law_744 rfl (lv_at hl 2 rfl) ?_
  refine lv_aload_n hx hb dL_law_745 rfl (lv_at hl 3 rfl) ?_
  refine lv_iload_n hx hb dL_law_746 rfl (lv_at hl 0 rfl) ?_
  refine lv_iconst (v := 1) hx hb dL_law_747 (by decide) ?_
  refine lv_iadd hx hb dL_law_748 ?_
  refine va_sld hx hb hX hbl hbA hS hv.1 dL_law_749 ?_
  refine lv_aload_n hx hb dL_law_750 rfl (lv_at hl 3 rfl) ?_
  refine lv_iload_n hx hb dL_law_751 rfl (lv_at hl 0 rfl) ?_
  refine lv_iconst (v := 2) hx hb dL_law_752 (by decide) ?_
  refine lv_iadd hx hb dL_law_753 ?_
  refine va_sld hx hb hX hbl hbA hS hv.2.1 dL_law_754 ?_
  refine lx_i (z := (r, C')) hF.2.2.1 hS (lx_run (n := 2) (As := [.int (xs (x3 + 1).toNatClampNeg), .int (xs (x3 + 2).toNatClampNeg)]) (rest := []) (T := TX9) (N := 14) F hF.1 hF.2.1 hF.2.2.1 hP hD hS hcs (kX9_was l D ad cs A1 C (xs (x3 + 1).toNatClampNeg) (xs (x3 + 2).toNatClampNeg) (r, C') e1) (gV (mT3 155 rfl rfl) (mT3 156 rfl rfl) (mT3 157 rfl rfl) (mT1 1 rfl rfl) (mT3 158 rfl rfl)) (by decide +kernel) ⟨(Nat.le_of_ble_eq_true rfl), (Nat.le_of_ble_eq_true rfl)⟩ kGC rfl rfl hl.1 rfl (Nat.le_of_ble_eq_true rfl) dL_law_755) (fun H hPn hDn hk hS => ?_)
  have hPc := hPn
  have hDc := hDn
  have hP' := lx_keep hk (fun k q hq hA => hF.2.2.2.2 q.1 hA (hD'.2 k q hq)) hP'
  refine lv_aload_n hx hb dL_law_758 rfl (lv_at hl 1 rfl) ?_
  refine lv_aload_n hx hb dL_law_759 rfl (lv_at hl 3 rfl) ?_
  refine lv_iload_n hx hb dL_law_760 rfl (lv_at hl 0 rfl) ?_
  refine lv_iconst (v := 1) hx hb dL_law_761 (by decide) ?_
  refine lv_iadd hx hb dL_law_762 ?_
  refine va_sld hx hb hX hbl hbA hS hv.1 dL_law_763 ?_
  refine lv_aload_n hx hb dL_law_764 rfl (lv_at hl 3 rfl) ?_
  refine lv_iload_n hx hb dL_law_765 rfl (lv_at hl 0 rfl) ?_
  refine lv_iconst (v := 2) hx hb dL_law_766 (by decide) ?_
  refine lv_iadd hx hb dL_law_767 ?_
  refine va_sld hx hb hX hbl hbA hS hv.2.1 dL_law_768 ?_
  refine lx_i (z := (r, R')) hF.2.2.2.1 hS (lx_run (n := 2) (As := [.int (xs (x3 + 1).toNatClampNeg), .int (xs (x3 + 2).toNatClampNeg)]) (rest := [.int r]) (T := TX10) (N := 42) F hF.1 hF.2.1 hF.2.2.2.1 hP' hD' hS hcs (kX10_was l D ad' cs A2 R (xs (x3 + 1).toNatClampNeg) (xs (x3 + 2).toNatClampNeg) (r, R') e2) (gV (mT5 211 rfl rfl) (mT5 212 rfl rfl) (mT5 213 rfl rfl) (mT1 12 rfl rfl) (mT5 214 rfl rfl)) (by decide +kernel) ⟨(Nat.le_of_ble_eq_true rfl), (Nat.le_of_ble_eq_true rfl)⟩ kGM rfl rfl hl.1 rfl (Nat.le_of_ble_eq_true rfl) dL_law_769) (fun H hPn hDn hk hS => ?_)
  have hPc := lx_keep hk (fun k q hq hA => hF.2.2.2.2 q.1 (hDc.2 k q hq) hA) hPc
  refine lv_icmp_eq (tgt := 1182) hx hb dL_law_772 (by decide) (fun _ => ?_) (fun z => absurd rfl z)
  exact kk H C' R' ⟨hPc, hDc, hPn, hDn, hS⟩ hrel'
set_option maxHeartbeats 4000000 in
theorem lc_25 {p : Program} {l : Launch} {e : Env} {s : State} {m : MethodId} {below : List Frame} {meth : Method} {c : Code} {b L : Nat} {xs : Nat → Int32} {D : va_G} {cs : Nat → ClassId} {ad ad' : Nat → Nat} {A1 A2 : Nat → Prop} {cells slots : Nat} {Q : State → Prop} {H : Heap} {C R : Mem} {ls : Array Slot} {x3 : Int32} (F : CallFix p m c cL_law 4 s #[Value.ref b] TS RL) (hX : va_X b L xs s s.heap) (hbl : b < s.heap.size) (hcs : cells ≤ room_1.cells ∧ slots ≤ room_1.slots) (hF : Lf D cs A1 A2 s) (hW : Lw D cs ad ad' A1 A2 s H C R) (hrel : Rel C R) (hl : lv_has ls 4 [(3, .int x3), (2, .ref (ad' (cO GM 0))), (1, .ref (ad (cO GC 0))), (0, .ref b)]) (hv : vp_in (x3 + 1) L ∧ vp_in (x3 + 2) L ∧ vp_in (x3 + 3) L ∧ vp_in (x3 + 4) L ∧ vp_in (x3 + 5) L) (kk : ∀ (H : Heap) (C R : Mem), Lw D cs ad ad' A1 A2 s H C R → Rel C R → W p l e room_1 s m #[Value.ref b] below meth c H [] cells slots Q (F0 m 1182 ls [])) : W p l e room_1 s m #[Value.ref b] below meth c H [] cells slots Q (F0 m 777 ls []) := by
  have hx := F.1
  have hb := F.2.1
  obtain ⟨hP, hD, hP', hD', hS⟩ := hW
  have hbA : ¬ (fun q : Nat => s.heap.size ≤ q) b := Nat.not_le.mpr hbl
  obtain ⟨r, C', R', e1, e2, hrel'⟩ := op_ask hrel (xs (x3 + 1).toNatClampNeg)
  refine lv_aload_n hx hb dL_law_777 rfl (lv_at hl 2 rfl) ?_
  refine lv_aload_n hx hb dL_law_778 rfl (lv_at hl 3 rfl) ?_
  refine lv_iload_n hx hb dL_law_779 rfl (lv_at hl 0 rfl) ?_
  refine lv_iconst (v := 1) hx hb dL_law_780 (by decide) ?_
  refine lv_iadd hx hb dL_law_781 ?_
  refine va_sld hx hb hX hbl hbA hS hv.1 dL_law_782 ?_
  refine lx_i (z := (r, C')) hF.2.2.1 hS (lx_run (n := 1) (As := [.int (xs (x3 + 1).toNatClampNeg)]) (rest := []) (T := TX9) (N := 14) F hF.1 hF.2.1 hF.2.2.1 hP hD hS hcs (kX9_ask l D ad cs A1 C (xs (x3 + 1).toNatClampNeg) (r, C') e1) (gV (mT3 159 rfl rfl) (mT3 160 rfl rfl) (mT3 161 rfl rfl) (mT1 1 rfl rfl) (mT3 162 rfl rfl)) (by decide +kernel) ⟨(Nat.le_of_ble_eq_true rfl), (Nat.le_of_ble_eq_true rfl)⟩ kGC rfl rfl hl.1 rfl (Nat.le_of_ble_eq_true rfl) dL_law_783) (fun H hPn hDn hk hS => ?_)
  have hPc := hPn
  have hDc := hDn
  have hP' := lx_keep hk (fun k q hq hA => hF.2.2.2.2 q.1 hA (hD'.2 k q hq)) hP'
  refine lv_aload_n hx hb dL_law_786 rfl (lv_at hl 1 rfl) ?_
  refine lv_aload_n hx hb dL_law_787 rfl (lv_at hl 3 rfl) ?_
  refine lv_iload_n hx hb dL_law_788 rfl (lv_at hl 0 rfl) ?_
  refine lv_iconst (v := 1) hx hb dL_law_789 (by decide) ?_
  refine lv_iadd hx hb dL_law_790 ?_
  refine va_sld hx hb hX hbl hbA hS hv.1 dL_law_791 ?_
  refine lx_i (z := (r, R')) hF.2.2.2.1 hS (lx_run (n := 1) (As := [.int (xs (x3 + 1).toNatClampNeg)]) (rest := [.int r]) (T := TX10) (N := 42) F hF.1 hF.2.1 hF.2.2.2.1 hP' hD' hS hcs (kX10_ask l D ad' cs A2 R (xs (x3 + 1).toNatClampNeg) (r, R') e2) (gV (mT5 219 rfl rfl) (mT5 220 rfl rfl) (mT5 221 rfl rfl) (mT1 12 rfl rfl) (mT5 222 rfl rfl)) (by decide +kernel) ⟨(Nat.le_of_ble_eq_true rfl), (Nat.le_of_ble_eq_true rfl)⟩ kGM rfl rfl hl.1 rfl (Nat.le_of_ble_eq_true rfl) dL_law_792) (fun H hPn hDn hk hS => ?_)
  have hPc := lx_keep hk (fun k q hq hA => hF.2.2.2.2 q.1 (hDc.2 k q hq) hA) hPc
  refine lv_icmp_eq (tgt := 1182) hx hb dL_law_795 (by decide) (fun _ => ?_) (fun z => absurd rfl z)
  exact kk H C' R' ⟨hPc, hDc, hPn, hDn, hS⟩ hrel'
set_option maxHeartbeats 4000000 in
theorem lc_26 {p : Program} {l : Launch} {e : Env} {s : State} {m : MethodId} {below : List Frame} {meth : Method} {c : Code} {b L : Nat} {xs : Nat → Int32} {D : va_G} {cs : Nat → ClassId} {ad ad' : Nat → Nat} {A1 A2 : Nat → Prop} {cells slots : Nat} {Q : State → Prop} {H : Heap} {C R : Mem} {ls : Array Slot} {x3 : Int32} (F : CallFix p m c cL_law 4 s #[Value.ref b] TS RL) (hX : va_X b L xs s s.heap) (hbl : b < s.heap.size) (hcs : cells ≤ room_1.cells ∧ slots ≤ room_1.slots) (hF : Lf D cs A1 A2 s) (hW : Lw D cs ad ad' A1 A2 s H C R) (hrel : Rel C R) (hl : lv_has ls 4 [(3, .int x3), (2, .ref (ad' (cO GM 0))), (1, .ref (ad (cO GC 0))), (0, .ref b)]) (hv : vp_in (x3 + 1) L ∧ vp_in (x3 + 2) L ∧ vp_in (x3 + 3) L ∧ vp_in (x3 + 4) L ∧ vp_in (x3 + 5) L) (kk : ∀ (H : Heap) (C R : Mem), Lw D cs ad ad' A1 A2 s H C R → Rel C R → W p l e room_1 s m #[Value.ref b] below meth c H [] cells slots Q (F0 m 1182 ls [])) : W p l e room_1 s m #[Value.ref b] below meth c H [] cells slots Q (F0 m 800 ls []) := by
  have hx := F.1
  have hb := F.2.1
  obtain ⟨hP, hD, hP', hD', hS⟩ := hW
  have hbA : ¬ (fun q : Nat => s.heap.size ≤ q) b := Nat.not_le.mpr hbl
  obtain ⟨r, C', R', e1, e2, hrel'⟩ := op_swarm hrel (xs (x3 + 1).toNatClampNeg) (xs (x3 + 2).toNatClampNeg) (xs (x3 + 3).toNatClampNeg)
  refine lv_aload_n hx hb dL_law_800 rfl (lv_at hl 2 rfl) ?_
  refine lv_aload_n hx hb dL_law_801 rfl (lv_at hl 3 rfl) ?_
  refine lv_iload_n hx hb dL_law_802 rfl (lv_at hl 0 rfl) ?_
  refine lv_iconst (v := 1) hx hb dL_law_803 (by decide) ?_
  refine lv_iadd hx hb dL_law_804 ?_
  refine va_sld hx hb hX hbl hbA hS hv.1 dL_law_805 ?_
  refine lv_aload_n hx hb dL_law_806 rfl (lv_at hl 3 rfl) ?_
  refine lv_iload_n hx hb dL_law_807 rfl (lv_at hl 0 rfl) ?_
  refine lv_iconst (v := 2) hx hb dL_law_808 (by decide) ?_
  refine lv_iadd hx hb dL_law_809 ?_
  refine va_sld hx hb hX hbl hbA hS hv.2.1 dL_law_810 ?_
  refine lv_aload_n hx hb dL_law_811 rfl (lv_at hl 3 rfl) ?_
  refine lv_iload_n hx hb dL_law_812 rfl (lv_at hl 0 rfl) ?_
  refine lv_iconst (v := 3) hx hb dL_law_813 (by decide) ?_
  refine lv_iadd hx hb dL_law_814 ?_
  refine va_sld hx hb hX hbl hbA hS hv.2.2.1 dL_law_815 ?_
  refine lx_l (z := (r, C')) hF.2.2.1 hS (lx_run (n := 3) (As := [.int (xs (x3 + 1).toNatClampNeg), .int (xs (x3 + 2).toNatClampNeg), .int (xs (x3 + 3).toNatClampNeg)]) (rest := []) (T := TX9) (N := 14) F hF.1 hF.2.1 hF.2.2.1 hP hD hS hcs (kX9_swarm l D ad cs A1 C (xs (x3 + 1).toNatClampNeg) (xs (x3 + 2).toNatClampNeg) (xs (x3 + 3).toNatClampNeg) (r, C') e1) (gV (mT3 175 rfl rfl) (mT3 176 rfl rfl) (mT3 177 rfl rfl) (mT1 1 rfl rfl) (mT3 178 rfl rfl)) (by decide +kernel) ⟨(Nat.le_of_ble_eq_true rfl), (Nat.le_of_ble_eq_true rfl)⟩ kGC rfl rfl hl.1 rfl (Nat.le_of_ble_eq_true rfl) dL_law_816) (fun H hPn hDn hk hS => ?_)
  have hPc := hPn
  have hDc := hDn
  have hP' := lx_keep hk (fun k q hq hA => hF.2.2.2.2 q.1 hA (hD'.2 k q hq)) hP'
  refine lv_aload_n hx hb dL_law_819 rfl (lv_at hl 1 rfl) ?_
  refine lv_aload_n hx hb dL_law_820 rfl (lv_at hl 3 rfl) ?_
  refine lv_iload_n hx hb dL_law_821 rfl (lv_at hl 0 rfl) ?_
  refine lv_iconst (v := 1) hx hb dL_law_822 (by decide) ?_
  refine lv_iadd hx hb dL_law_823 ?_
  refine va_sld hx hb hX hbl hbA hS hv.1 dL_law_824 ?_
  refine lv_aload_n hx hb dL_law_825 rfl (lv_at hl 3 rfl) ?_
  refine lv_iload_n hx hb dL_law_826 rfl (lv_at hl 0 rfl) ?_
  refine lv_iconst (v := 2) hx hb dL_law_827 (by decide) ?_
  refine lv_iadd hx hb dL_law_828 ?_
  refine va_sld hx hb hX hbl hbA hS hv.2.1 dL_law_829 ?_
  refine lv_aload_n hx hb dL_law_830 rfl (lv_at hl 3 rfl) ?_
  refine lv_iload_n hx hb dL_law_831 rfl (lv_at hl 0 rfl) ?_
  refine lv_iconst (v := 3) hx hb dL_law_832 (by decide) ?_
  refine lv_iadd hx hb dL_law_833 ?_
  refine va_sld hx hb hX hbl hbA hS hv.2.2.1 dL_law_834 ?_
  refine lx_l (z := (r, R')) hF.2.2.2.1 hS (lx_run (n := 3) (As := [.int (xs (x3 + 1).toNatClampNeg), .int (xs (x3 + 2).toNatClampNeg), .int (xs (x3 + 3).toNatClampNeg)]) (rest := [.long r]) (T := TX10) (N := 42) F hF.1 hF.2.1 hF.2.2.2.1 hP' hD' hS hcs (kX10_swarm l D ad' cs A2 R (xs (x3 + 1).toNatClampNeg) (xs (x3 + 2).toNatClampNeg) (xs (x3 + 3).toNatClampNeg) (r, R') e2) (gV (mT5 227 rfl rfl) (mT5 228 rfl rfl) (mT5 229 rfl rfl) (mT1 12 rfl rfl) (mT5 230 rfl rfl)) (by decide +kernel) ⟨(Nat.le_of_ble_eq_true rfl), (Nat.le_of_ble_eq_true rfl)⟩ kGM rfl rfl hl.1 rfl (Nat.le_of_ble_eq_true rfl) dL_law_835) (fun H hPn hDn hk hS => ?_)
  have hPc := lx_keep hk (fun k q hq hA => hF.2.2.2.2 q.1 (hDc.2 k q hq) hA) hPc
  refine W.lcmp hx hb dL_law_838 ?_
  refine lv_if_eq (tgt := 1182) hx hb dL_law_839 (by decide) (fun _ => ?_) (fun z => absurd (lg_cmp_self r) z)
  exact kk H C' R' ⟨hPc, hDc, hPn, hDn, hS⟩ hrel'
set_option maxHeartbeats 4000000 in
theorem lc_27 {p : Program} {l : Launch} {e : Env} {s : State} {m : MethodId} {below : List Frame} {meth : Method} {c : Code} {b L : Nat} {xs : Nat → Int32} {D : va_G} {cs : Nat → ClassId} {ad ad' : Nat → Nat} {A1 A2 : Nat → Prop} {cells slots : Nat} {Q : State → Prop} {H : Heap} {C R : Mem} {ls : Array Slot} {x3 : Int32} (F : CallFix p m c cL_law 4 s #[Value.ref b] TS RL) (hX : va_X b L xs s s.heap) (hbl : b < s.heap.size) (hcs : cells ≤ room_1.cells ∧ slots ≤ room_1.slots) (hF : Lf D cs A1 A2 s) (hW : Lw D cs ad ad' A1 A2 s H C R) (hrel : Rel C R) (hl : lv_has ls 4 [(3, .int x3), (2, .ref (ad' (cO GM 0))), (1, .ref (ad (cO GC 0))), (0, .ref b)]) (hv : vp_in (x3 + 1) L ∧ vp_in (x3 + 2) L ∧ vp_in (x3 + 3) L ∧ vp_in (x3 + 4) L ∧ vp_in (x3 + 5) L) (kk : ∀ (H : Heap) (C R : Mem), Lw D cs ad ad' A1 A2 s H C R → Rel C R → W p l e room_1 s m #[Value.ref b] below meth c H [] cells slots Q (F0 m 1182 ls [])) : W p l e room_1 s m #[Value.ref b] below meth c H [] cells slots Q (F0 m 844 ls []) := by
  have hx := F.1
  have hb := F.2.1
  obtain ⟨hP, hD, hP', hD', hS⟩ := hW
  have hbA : ¬ (fun q : Nat => s.heap.size ≤ q) b := Nat.not_le.mpr hbl
  obtain ⟨r, C', R', e1, e2, hrel'⟩ := op_again hrel (xs (x3 + 1).toNatClampNeg) (xs (x3 + 2).toNatClampNeg) (xs (x3 + 3).toNatClampNeg)
  refine lv_aload_n hx hb dL_law_844 rfl (lv_at hl 2 rfl) ?_
  refine lv_aload_n hx hb dL_law_845 rfl (lv_at hl 3 rfl) ?_
  refine lv_iload_n hx hb dL_law_846 rfl (lv_at hl 0 rfl) ?_
  refine lv_iconst (v := 1) hx hb dL_law_847 (by decide) ?_
  refine lv_iadd hx hb dL_law_848 ?_
  refine va_sld hx hb hX hbl hbA hS hv.1 dL_law_849 ?_
  refine lv_aload_n hx hb dL_law_850 rfl (lv_at hl 3 rfl) ?_
  refine lv_iload_n hx hb dL_law_851 rfl (lv_at hl 0 rfl) ?_
  refine lv_iconst (v := 2) hx hb dL_law_852 (by decide) ?_
  refine lv_iadd hx hb dL_law_853 ?_
  refine va_sld hx hb hX hbl hbA hS hv.2.1 dL_law_854 ?_
  refine lv_aload_n hx hb dL_law_855 rfl (lv_at hl 3 rfl) ?_
  refine lv_iload_n hx hb dL_law_856 rfl (lv_at hl 0 rfl) ?_
  refine lv_iconst (v := 3) hx hb dL_law_857 (by decide) ?_
  refine lv_iadd hx hb dL_law_858 ?_
  refine va_sld hx hb hX hbl hbA hS hv.2.2.1 dL_law_859 ?_
  refine lx_i (z := (r, C')) hF.2.2.1 hS (lx_run (n := 3) (As := [.int (xs (x3 + 1).toNatClampNeg), .int (xs (x3 + 2).toNatClampNeg), .int (xs (x3 + 3).toNatClampNeg)]) (rest := []) (T := TX9) (N := 14) F hF.1 hF.2.1 hF.2.2.1 hP hD hS hcs (kX9_again l D ad cs A1 C (xs (x3 + 1).toNatClampNeg) (xs (x3 + 2).toNatClampNeg) (xs (x3 + 3).toNatClampNeg) (r, C') e1) (gV (mT3 189 rfl rfl) (mT3 190 rfl rfl) (mT3 191 rfl rfl) (mT1 1 rfl rfl) (mT3 192 rfl rfl)) (by decide +kernel) ⟨(Nat.le_of_ble_eq_true rfl), (Nat.le_of_ble_eq_true rfl)⟩ kGC rfl rfl hl.1 rfl (Nat.le_of_ble_eq_true rfl) dL_law_860) (fun H hPn hDn hk hS => ?_)
  have hPc := hPn
  have hDc := hDn
  have hP' := lx_keep hk (fun k q hq hA => hF.2.2.2.2 q.1 hA (hD'.2 k q hq)) hP'
  refine lv_aload_n hx hb dL_law_863 rfl (lv_at hl 1 rfl) ?_
  refine lv_aload_n hx hb dL_law_864 rfl (lv_at hl 3 rfl) ?_
  refine lv_iload_n hx hb dL_law_865 rfl (lv_at hl 0 rfl) ?_
  refine lv_iconst (v := 1) hx hb dL_law_866 (by decide) ?_
  refine lv_iadd hx hb dL_law_867 ?_
  refine va_sld hx hb hX hbl hbA hS hv.1 dL_law_868 ?_
  refine lv_aload_n hx hb dL_law_869 rfl (lv_at hl 3 rfl) ?_
  refine lv_iload_n hx hb dL_law_870 rfl (lv_at hl 0 rfl) ?_
  refine lv_iconst (v := 2) hx hb dL_law_871 (by decide) ?_
  refine lv_iadd hx hb dL_law_872 ?_
  refine va_sld hx hb hX hbl hbA hS hv.2.1 dL_law_873 ?_
  refine lv_aload_n hx hb dL_law_874 rfl (lv_at hl 3 rfl) ?_
  refine lv_iload_n hx hb dL_law_875 rfl (lv_at hl 0 rfl) ?_
  refine lv_iconst (v := 3) hx hb dL_law_876 (by decide) ?_
  refine lv_iadd hx hb dL_law_877 ?_
  refine va_sld hx hb hX hbl hbA hS hv.2.2.1 dL_law_878 ?_
  refine lx_i (z := (r, R')) hF.2.2.2.1 hS (lx_run (n := 3) (As := [.int (xs (x3 + 1).toNatClampNeg), .int (xs (x3 + 2).toNatClampNeg), .int (xs (x3 + 3).toNatClampNeg)]) (rest := [.int r]) (T := TX10) (N := 42) F hF.1 hF.2.1 hF.2.2.2.1 hP' hD' hS hcs (kX10_again l D ad' cs A2 R (xs (x3 + 1).toNatClampNeg) (xs (x3 + 2).toNatClampNeg) (xs (x3 + 3).toNatClampNeg) (r, R') e2) (gV (mT6 2 rfl rfl) (mT6 3 rfl rfl) (mT6 4 rfl rfl) (mT1 12 rfl rfl) (mT6 5 rfl rfl)) (by decide +kernel) ⟨(Nat.le_of_ble_eq_true rfl), (Nat.le_of_ble_eq_true rfl)⟩ kGM rfl rfl hl.1 rfl (Nat.le_of_ble_eq_true rfl) dL_law_879) (fun H hPn hDn hk hS => ?_)
  have hPc := lx_keep hk (fun k q hq hA => hF.2.2.2.2 q.1 (hDc.2 k q hq) hA) hPc
  refine lv_icmp_eq (tgt := 1182) hx hb dL_law_882 (by decide) (fun _ => ?_) (fun z => absurd rfl z)
  exact kk H C' R' ⟨hPc, hDc, hPn, hDn, hS⟩ hrel'
set_option maxHeartbeats 4000000 in
theorem lc_28 {p : Program} {l : Launch} {e : Env} {s : State} {m : MethodId} {below : List Frame} {meth : Method} {c : Code} {b L : Nat} {xs : Nat → Int32} {D : va_G} {cs : Nat → ClassId} {ad ad' : Nat → Nat} {A1 A2 : Nat → Prop} {cells slots : Nat} {Q : State → Prop} {H : Heap} {C R : Mem} {ls : Array Slot} {x3 : Int32} (F : CallFix p m c cL_law 4 s #[Value.ref b] TS RL) (hX : va_X b L xs s s.heap) (hbl : b < s.heap.size) (hcs : cells ≤ room_1.cells ∧ slots ≤ room_1.slots) (hF : Lf D cs A1 A2 s) (hW : Lw D cs ad ad' A1 A2 s H C R) (hrel : Rel C R) (hl : lv_has ls 4 [(3, .int x3), (2, .ref (ad' (cO GM 0))), (1, .ref (ad (cO GC 0))), (0, .ref b)]) (hv : vp_in (x3 + 1) L ∧ vp_in (x3 + 2) L ∧ vp_in (x3 + 3) L ∧ vp_in (x3 + 4) L ∧ vp_in (x3 + 5) L) (kk : ∀ (H : Heap) (C R : Mem), Lw D cs ad ad' A1 A2 s H C R → Rel C R → W p l e room_1 s m #[Value.ref b] below meth c H [] cells slots Q (F0 m 1182 ls [])) : W p l e room_1 s m #[Value.ref b] below meth c H [] cells slots Q (F0 m 887 ls []) := by
  have hx := F.1
  have hb := F.2.1
  obtain ⟨hP, hD, hP', hD', hS⟩ := hW
  have hbA : ¬ (fun q : Nat => s.heap.size ≤ q) b := Nat.not_le.mpr hbl
  obtain ⟨r, C', R', e1, e2, hrel'⟩ := op_sheet hrel (xs (x3 + 1).toNatClampNeg) (xs (x3 + 2).toNatClampNeg) (xs (x3 + 3).toNatClampNeg)
  refine lv_aload_n hx hb dL_law_887 rfl (lv_at hl 2 rfl) ?_
  refine lv_aload_n hx hb dL_law_888 rfl (lv_at hl 3 rfl) ?_
  refine lv_iload_n hx hb dL_law_889 rfl (lv_at hl 0 rfl) ?_
  refine lv_iconst (v := 1) hx hb dL_law_890 (by decide) ?_
  refine lv_iadd hx hb dL_law_891 ?_
  refine va_sld hx hb hX hbl hbA hS hv.1 dL_law_892 ?_
  refine lv_aload_n hx hb dL_law_893 rfl (lv_at hl 3 rfl) ?_
  refine lv_iload_n hx hb dL_law_894 rfl (lv_at hl 0 rfl) ?_
  refine lv_iconst (v := 2) hx hb dL_law_895 (by decide) ?_
  refine lv_iadd hx hb dL_law_896 ?_
  refine va_sld hx hb hX hbl hbA hS hv.2.1 dL_law_897 ?_
  refine lv_aload_n hx hb dL_law_898 rfl (lv_at hl 3 rfl) ?_
  refine lv_iload_n hx hb dL_law_899 rfl (lv_at hl 0 rfl) ?_
  refine lv_iconst (v := 3) hx hb dL_law_900 (by decide) ?_
  refine lv_iadd hx hb dL_law_901 ?_
  refine va_sld hx hb hX hbl hbA hS hv.2.2.1 dL_law_902 ?_
  refine lx_i (z := (r, C')) hF.2.2.1 hS (lx_run (n := 3) (As := [.int (xs (x3 + 1).toNatClampNeg), .int (xs (x3 + 2).toNatClampNeg), .int (xs (x3 + 3).toNatClampNeg)]) (rest := []) (T := TX9) (N := 14) F hF.1 hF.2.1 hF.2.2.1 hP hD hS hcs (kX9_sheet l D ad cs A1 C (xs (x3 + 1).toNatClampNeg) (xs (x3 + 2).toNatClampNeg) (xs (x3 + 3).toNatClampNeg) (r, C') e1) (gV (mT3 198 rfl rfl) (mT3 199 rfl rfl) (mT3 200 rfl rfl) (mT1 1 rfl rfl) (mT3 201 rfl rfl)) (by decide +kernel) ⟨(Nat.le_of_ble_eq_true rfl), (Nat.le_of_ble_eq_true rfl)⟩ kGC rfl rfl hl.1 rfl (Nat.le_of_ble_eq_true rfl) dL_law_903) (fun H hPn hDn hk hS => ?_)
  have hPc := hPn
  have hDc := hDn
  have hP' := lx_keep hk (fun k q hq hA => hF.2.2.2.2 q.1 hA (hD'.2 k q hq)) hP'
  refine lv_aload_n hx hb dL_law_906 rfl (lv_at hl 1 rfl) ?_
  refine lv_aload_n hx hb dL_law_907 rfl (lv_at hl 3 rfl) ?_
  refine lv_iload_n hx hb dL_law_908 rfl (lv_at hl 0 rfl) ?_
  refine lv_iconst (v := 1) hx hb dL_law_909 (by decide) ?_
  refine lv_iadd hx hb dL_law_910 ?_
  refine va_sld hx hb hX hbl hbA hS hv.1 dL_law_911 ?_
  refine lv_aload_n hx hb dL_law_912 rfl (lv_at hl 3 rfl) ?_
  refine lv_iload_n hx hb dL_law_913 rfl (lv_at hl 0 rfl) ?_
  refine lv_iconst (v := 2) hx hb dL_law_914 (by decide) ?_
  refine lv_iadd hx hb dL_law_915 ?_
  refine va_sld hx hb hX hbl hbA hS hv.2.1 dL_law_916 ?_
  refine lv_aload_n hx hb dL_law_917 rfl (lv_at hl 3 rfl) ?_
  refine lv_iload_n hx hb dL_law_918 rfl (lv_at hl 0 rfl) ?_
  refine lv_iconst (v := 3) hx hb dL_law_919 (by decide) ?_
  refine lv_iadd hx hb dL_law_920 ?_
  refine va_sld hx hb hX hbl hbA hS hv.2.2.1 dL_law_921 ?_
  refine lx_i (z := (r, R')) hF.2.2.2.1 hS (lx_run (n := 3) (As := [.int (xs (x3 + 1).toNatClampNeg), .int (xs (x3 + 2).toNatClampNeg), .int (xs (x3 + 3).toNatClampNeg)]) (rest := [.int r]) (T := TX10) (N := 42) F hF.1 hF.2.1 hF.2.2.2.1 hP' hD' hS hcs (kX10_sheet l D ad' cs A2 R (xs (x3 + 1).toNatClampNeg) (xs (x3 + 2).toNatClampNeg) (xs (x3 + 3).toNatClampNeg) (r, R') e2) (gV (mT6 11 rfl rfl) (mT6 12 rfl rfl) (mT6 13 rfl rfl) (mT1 12 rfl rfl) (mT6 14 rfl rfl)) (by decide +kernel) ⟨(Nat.le_of_ble_eq_true rfl), (Nat.le_of_ble_eq_true rfl)⟩ kGM rfl rfl hl.1 rfl (Nat.le_of_ble_eq_true rfl) dL_law_922) (fun H hPn hDn hk hS => ?_)
  have hPc := lx_keep hk (fun k q hq hA => hF.2.2.2.2 q.1 (hDc.2 k q hq) hA) hPc
  refine lv_icmp_eq (tgt := 1182) hx hb dL_law_925 (by decide) (fun _ => ?_) (fun z => absurd rfl z)
  exact kk H C' R' ⟨hPc, hDc, hPn, hDn, hS⟩ hrel'
set_option maxHeartbeats 4000000 in
theorem lc_29 {p : Program} {l : Launch} {e : Env} {s : State} {m : MethodId} {below : List Frame} {meth : Method} {c : Code} {b L : Nat} {xs : Nat → Int32} {D : va_G} {cs : Nat → ClassId} {ad ad' : Nat → Nat} {A1 A2 : Nat → Prop} {cells slots : Nat} {Q : State → Prop} {H : Heap} {C R : Mem} {ls : Array Slot} {x3 : Int32} (F : CallFix p m c cL_law 4 s #[Value.ref b] TS RL) (hX : va_X b L xs s s.heap) (hbl : b < s.heap.size) (hcs : cells ≤ room_1.cells ∧ slots ≤ room_1.slots) (hF : Lf D cs A1 A2 s) (hW : Lw D cs ad ad' A1 A2 s H C R) (hrel : Rel C R) (hl : lv_has ls 4 [(3, .int x3), (2, .ref (ad' (cO GM 0))), (1, .ref (ad (cO GC 0))), (0, .ref b)]) (hv : vp_in (x3 + 1) L ∧ vp_in (x3 + 2) L ∧ vp_in (x3 + 3) L ∧ vp_in (x3 + 4) L ∧ vp_in (x3 + 5) L) (kk : ∀ (H : Heap) (C R : Mem), Lw D cs ad ad' A1 A2 s H C R → Rel C R → W p l e room_1 s m #[Value.ref b] below meth c H [] cells slots Q (F0 m 1182 ls [])) : W p l e room_1 s m #[Value.ref b] below meth c H [] cells slots Q (F0 m 930 ls []) := by
  have hx := F.1
  have hb := F.2.1
  obtain ⟨hP, hD, hP', hD', hS⟩ := hW
  have hbA : ¬ (fun q : Nat => s.heap.size ≤ q) b := Nat.not_le.mpr hbl
  obtain ⟨r, C', R', e1, e2, hrel'⟩ := op_lose hrel (xs (x3 + 1).toNatClampNeg)
  refine lv_aload_n hx hb dL_law_930 rfl (lv_at hl 2 rfl) ?_
  refine lv_aload_n hx hb dL_law_931 rfl (lv_at hl 3 rfl) ?_
  refine lv_iload_n hx hb dL_law_932 rfl (lv_at hl 0 rfl) ?_
  refine lv_iconst (v := 1) hx hb dL_law_933 (by decide) ?_
  refine lv_iadd hx hb dL_law_934 ?_
  refine va_sld hx hb hX hbl hbA hS hv.1 dL_law_935 ?_
  refine lx_i (z := (r, C')) hF.2.2.1 hS (lx_run (n := 1) (As := [.int (xs (x3 + 1).toNatClampNeg)]) (rest := []) (T := TX9) (N := 14) F hF.1 hF.2.1 hF.2.2.1 hP hD hS hcs (kX9_lose l D ad cs A1 C (xs (x3 + 1).toNatClampNeg) (r, C') e1) (gV (mT3 210 rfl rfl) (mT3 211 rfl rfl) (mT3 212 rfl rfl) (mT1 1 rfl rfl) (mT3 213 rfl rfl)) (by decide +kernel) ⟨(Nat.le_of_ble_eq_true rfl), (Nat.le_of_ble_eq_true rfl)⟩ kGC rfl rfl hl.1 rfl (Nat.le_of_ble_eq_true rfl) dL_law_936) (fun H hPn hDn hk hS => ?_)
  have hPc := hPn
  have hDc := hDn
  have hP' := lx_keep hk (fun k q hq hA => hF.2.2.2.2 q.1 hA (hD'.2 k q hq)) hP'
  refine lv_aload_n hx hb dL_law_939 rfl (lv_at hl 1 rfl) ?_
  refine lv_aload_n hx hb dL_law_940 rfl (lv_at hl 3 rfl) ?_
  refine lv_iload_n hx hb dL_law_941 rfl (lv_at hl 0 rfl) ?_
  refine lv_iconst (v := 1) hx hb dL_law_942 (by decide) ?_
  refine lv_iadd hx hb dL_law_943 ?_
  refine va_sld hx hb hX hbl hbA hS hv.1 dL_law_944 ?_
  refine lx_i (z := (r, R')) hF.2.2.2.1 hS (lx_run (n := 1) (As := [.int (xs (x3 + 1).toNatClampNeg)]) (rest := [.int r]) (T := TX10) (N := 42) F hF.1 hF.2.1 hF.2.2.2.1 hP' hD' hS hcs (kX10_lose l D ad' cs A2 R (xs (x3 + 1).toNatClampNeg) (r, R') e2) (gV (mT6 15 rfl rfl) (mT6 16 rfl rfl) (mT6 17 rfl rfl) (mT1 12 rfl rfl) (mT6 18 rfl rfl)) (by decide +kernel) ⟨(Nat.le_of_ble_eq_true rfl), (Nat.le_of_ble_eq_true rfl)⟩ kGM rfl rfl hl.1 rfl (Nat.le_of_ble_eq_true rfl) dL_law_945) (fun H hPn hDn hk hS => ?_)
  have hPc := lx_keep hk (fun k q hq hA => hF.2.2.2.2 q.1 (hDc.2 k q hq) hA) hPc
  refine lv_icmp_eq (tgt := 1182) hx hb dL_law_948 (by decide) (fun _ => ?_) (fun z => absurd rfl z)
  exact kk H C' R' ⟨hPc, hDc, hPn, hDn, hS⟩ hrel'
set_option maxHeartbeats 4000000 in
theorem lc_30 {p : Program} {l : Launch} {e : Env} {s : State} {m : MethodId} {below : List Frame} {meth : Method} {c : Code} {b L : Nat} {xs : Nat → Int32} {D : va_G} {cs : Nat → ClassId} {ad ad' : Nat → Nat} {A1 A2 : Nat → Prop} {cells slots : Nat} {Q : State → Prop} {H : Heap} {C R : Mem} {ls : Array Slot} {x3 : Int32} (F : CallFix p m c cL_law 4 s #[Value.ref b] TS RL) (hX : va_X b L xs s s.heap) (hbl : b < s.heap.size) (hcs : cells ≤ room_1.cells ∧ slots ≤ room_1.slots) (hF : Lf D cs A1 A2 s) (hW : Lw D cs ad ad' A1 A2 s H C R) (hrel : Rel C R) (hl : lv_has ls 4 [(3, .int x3), (2, .ref (ad' (cO GM 0))), (1, .ref (ad (cO GC 0))), (0, .ref b)]) (hv : vp_in (x3 + 1) L ∧ vp_in (x3 + 2) L ∧ vp_in (x3 + 3) L ∧ vp_in (x3 + 4) L ∧ vp_in (x3 + 5) L) (kk : ∀ (H : Heap) (C R : Mem), Lw D cs ad ad' A1 A2 s H C R → Rel C R → W p l e room_1 s m #[Value.ref b] below meth c H [] cells slots Q (F0 m 1182 ls [])) : W p l e room_1 s m #[Value.ref b] below meth c H [] cells slots Q (F0 m 953 ls []) := by
  have hx := F.1
  have hb := F.2.1
  obtain ⟨hP, hD, hP', hD', hS⟩ := hW
  have hbA : ¬ (fun q : Nat => s.heap.size ≤ q) b := Nat.not_le.mpr hbl
  obtain ⟨r, C', R', e1, e2, hrel'⟩ := op_put hrel (xs (x3 + 1).toNatClampNeg) (xs (x3 + 2).toNatClampNeg) (xs (x3 + 3).toNatClampNeg) (xs (x3 + 4).toNatClampNeg)
  refine lv_aload_n hx hb dL_law_953 rfl (lv_at hl 2 rfl) ?_
  refine lv_aload_n hx hb dL_law_954 rfl (lv_at hl 3 rfl) ?_
  refine lv_iload_n hx hb dL_law_955 rfl (lv_at hl 0 rfl) ?_
  refine lv_iconst (v := 1) hx hb dL_law_956 (by decide) ?_
  refine lv_iadd hx hb dL_law_957 ?_
  refine va_sld hx hb hX hbl hbA hS hv.1 dL_law_958 ?_
  refine lv_aload_n hx hb dL_law_959 rfl (lv_at hl 3 rfl) ?_
  refine lv_iload_n hx hb dL_law_960 rfl (lv_at hl 0 rfl) ?_
  refine lv_iconst (v := 2) hx hb dL_law_961 (by decide) ?_
  refine lv_iadd hx hb dL_law_962 ?_
  refine va_sld hx hb hX hbl hbA hS hv.2.1 dL_law_963 ?_
  refine lv_aload_n hx hb dL_law_964 rfl (lv_at hl 3 rfl) ?_
  refine lv_iload_n hx hb dL_law_965 rfl (lv_at hl 0 rfl) ?_
  refine lv_iconst (v := 3) hx hb dL_law_966 (by decide) ?_
  refine lv_iadd hx hb dL_law_967 ?_
  refine va_sld hx hb hX hbl hbA hS hv.2.2.1 dL_law_968 ?_
  refine lv_aload_n hx hb dL_law_969 rfl (lv_at hl 3 rfl) ?_
  refine lv_iload_n hx hb dL_law_970 rfl (lv_at hl 0 rfl) ?_
  refine lv_iconst (v := 4) hx hb dL_law_971 (by decide) ?_
  refine lv_iadd hx hb dL_law_972 ?_
  refine va_sld hx hb hX hbl hbA hS hv.2.2.2.1 dL_law_973 ?_
  refine lx_i (z := (r, C')) hF.2.2.1 hS (lx_run (n := 4) (As := [.int (xs (x3 + 1).toNatClampNeg), .int (xs (x3 + 2).toNatClampNeg), .int (xs (x3 + 3).toNatClampNeg), .int (xs (x3 + 4).toNatClampNeg)]) (rest := []) (T := TX9) (N := 14) F hF.1 hF.2.1 hF.2.2.1 hP hD hS hcs (kX9_put l D ad cs A1 C (xs (x3 + 1).toNatClampNeg) (xs (x3 + 2).toNatClampNeg) (xs (x3 + 3).toNatClampNeg) (xs (x3 + 4).toNatClampNeg) (r, C') e1) (gV (mT3 214 rfl rfl) (mT3 215 rfl rfl) (mT3 216 rfl rfl) (mT1 1 rfl rfl) (mT3 217 rfl rfl)) (by decide +kernel) ⟨(Nat.le_of_ble_eq_true rfl), (Nat.le_of_ble_eq_true rfl)⟩ kGC rfl rfl hl.1 rfl (Nat.le_of_ble_eq_true rfl) dL_law_974) (fun H hPn hDn hk hS => ?_)
  have hPc := hPn
  have hDc := hDn
  have hP' := lx_keep hk (fun k q hq hA => hF.2.2.2.2 q.1 hA (hD'.2 k q hq)) hP'
  refine lv_aload_n hx hb dL_law_977 rfl (lv_at hl 1 rfl) ?_
  refine lv_aload_n hx hb dL_law_978 rfl (lv_at hl 3 rfl) ?_
  refine lv_iload_n hx hb dL_law_979 rfl (lv_at hl 0 rfl) ?_
  refine lv_iconst (v := 1) hx hb dL_law_980 (by decide) ?_
  refine lv_iadd hx hb dL_law_981 ?_
  refine va_sld hx hb hX hbl hbA hS hv.1 dL_law_982 ?_
  refine lv_aload_n hx hb dL_law_983 rfl (lv_at hl 3 rfl) ?_
  refine lv_iload_n hx hb dL_law_984 rfl (lv_at hl 0 rfl) ?_
  refine lv_iconst (v := 2) hx hb dL_law_985 (by decide) ?_
  refine lv_iadd hx hb dL_law_986 ?_
  refine va_sld hx hb hX hbl hbA hS hv.2.1 dL_law_987 ?_
  refine lv_aload_n hx hb dL_law_988 rfl (lv_at hl 3 rfl) ?_
  refine lv_iload_n hx hb dL_law_989 rfl (lv_at hl 0 rfl) ?_
  refine lv_iconst (v := 3) hx hb dL_law_990 (by decide) ?_
  refine lv_iadd hx hb dL_law_991 ?_
  refine va_sld hx hb hX hbl hbA hS hv.2.2.1 dL_law_992 ?_
  refine lv_aload_n hx hb dL_law_993 rfl (lv_at hl 3 rfl) ?_
  refine lv_iload_n hx hb dL_law_994 rfl (lv_at hl 0 rfl) ?_
  refine lv_iconst (v := 4) hx hb dL_law_995 (by decide) ?_
  refine lv_iadd hx hb dL_law_996 ?_
  refine va_sld hx hb hX hbl hbA hS hv.2.2.2.1 dL_law_997 ?_
  refine lx_i (z := (r, R')) hF.2.2.2.1 hS (lx_run (n := 4) (As := [.int (xs (x3 + 1).toNatClampNeg), .int (xs (x3 + 2).toNatClampNeg), .int (xs (x3 + 3).toNatClampNeg), .int (xs (x3 + 4).toNatClampNeg)]) (rest := [.int r]) (T := TX10) (N := 42) F hF.1 hF.2.1 hF.2.2.2.1 hP' hD' hS hcs (kX10_put l D ad' cs A2 R (xs (x3 + 1).toNatClampNeg) (xs (x3 + 2).toNatClampNeg) (xs (x3 + 3).toNatClampNeg) (xs (x3 + 4).toNatClampNeg) (r, R') e2) (gV (mT6 19 rfl rfl) (mT6 20 rfl rfl) (mT6 21 rfl rfl) (mT1 12 rfl rfl) (mT6 22 rfl rfl)) (by decide +kernel) ⟨(Nat.le_of_ble_eq_true rfl), (Nat.le_of_ble_eq_true rfl)⟩ kGM rfl rfl hl.1 rfl (Nat.le_of_ble_eq_true rfl) dL_law_998) (fun H hPn hDn hk hS => ?_)
  have hPc := lx_keep hk (fun k q hq hA => hF.2.2.2.2 q.1 (hDc.2 k q hq) hA) hPc
  refine lv_icmp_eq (tgt := 1182) hx hb dL_law_1001 (by decide) (fun _ => ?_) (fun z => absurd rfl z)
  exact kk H C' R' ⟨hPc, hDc, hPn, hDn, hS⟩ hrel'
set_option maxHeartbeats 4000000 in
theorem lc_31 {p : Program} {l : Launch} {e : Env} {s : State} {m : MethodId} {below : List Frame} {meth : Method} {c : Code} {b L : Nat} {xs : Nat → Int32} {D : va_G} {cs : Nat → ClassId} {ad ad' : Nat → Nat} {A1 A2 : Nat → Prop} {cells slots : Nat} {Q : State → Prop} {H : Heap} {C R : Mem} {ls : Array Slot} {x3 : Int32} (F : CallFix p m c cL_law 4 s #[Value.ref b] TS RL) (hX : va_X b L xs s s.heap) (hbl : b < s.heap.size) (hcs : cells ≤ room_1.cells ∧ slots ≤ room_1.slots) (hF : Lf D cs A1 A2 s) (hW : Lw D cs ad ad' A1 A2 s H C R) (hrel : Rel C R) (hl : lv_has ls 4 [(3, .int x3), (2, .ref (ad' (cO GM 0))), (1, .ref (ad (cO GC 0))), (0, .ref b)]) (hv : vp_in (x3 + 1) L ∧ vp_in (x3 + 2) L ∧ vp_in (x3 + 3) L ∧ vp_in (x3 + 4) L ∧ vp_in (x3 + 5) L) (kk : ∀ (H : Heap) (C R : Mem), Lw D cs ad ad' A1 A2 s H C R → Rel C R → W p l e room_1 s m #[Value.ref b] below meth c H [] cells slots Q (F0 m 1182 ls [])) : W p l e room_1 s m #[Value.ref b] below meth c H [] cells slots Q (F0 m 1006 ls []) := by
  have hx := F.1
  have hb := F.2.1
  obtain ⟨hP, hD, hP', hD', hS⟩ := hW
  have hbA : ¬ (fun q : Nat => s.heap.size ≤ q) b := Nat.not_le.mpr hbl
  obtain ⟨r, C', R', e1, e2, hrel'⟩ := op_get hrel (xs (x3 + 1).toNatClampNeg) (xs (x3 + 2).toNatClampNeg) (xs (x3 + 3).toNatClampNeg)
  refine lv_aload_n hx hb dL_law_1006 rfl (lv_at hl 2 rfl) ?_
  refine lv_aload_n hx hb dL_law_1007 rfl (lv_at hl 3 rfl) ?_
  refine lv_iload_n hx hb dL_law_1008 rfl (lv_at hl 0 rfl) ?_
  refine lv_iconst (v := 1) hx hb dL_law_1009 (by decide) ?_
  refine lv_iadd hx hb dL_law_1010 ?_
  refine va_sld hx hb hX hbl hbA hS hv.1 dL_law_1011 ?_
  refine lv_aload_n hx hb dL_law_1012 rfl (lv_at hl 3 rfl) ?_
  refine lv_iload_n hx hb dL_law_1013 rfl (lv_at hl 0 rfl) ?_
  refine lv_iconst (v := 2) hx hb dL_law_1014 (by decide) ?_
  refine lv_iadd hx hb dL_law_1015 ?_
  refine va_sld hx hb hX hbl hbA hS hv.2.1 dL_law_1016 ?_
  refine lv_aload_n hx hb dL_law_1017 rfl (lv_at hl 3 rfl) ?_
  refine lv_iload_n hx hb dL_law_1018 rfl (lv_at hl 0 rfl) ?_
  refine lv_iconst (v := 3) hx hb dL_law_1019 (by decide) ?_
  refine lv_iadd hx hb dL_law_1020 ?_
  refine va_sld hx hb hX hbl hbA hS hv.2.2.1 dL_law_1021 ?_
  refine lx_i (z := (r, C')) hF.2.2.1 hS (lx_run (n := 3) (As := [.int (xs (x3 + 1).toNatClampNeg), .int (xs (x3 + 2).toNatClampNeg), .int (xs (x3 + 3).toNatClampNeg)]) (rest := []) (T := TX9) (N := 14) F hF.1 hF.2.1 hF.2.2.1 hP hD hS hcs (kX9_get l D ad cs A1 C (xs (x3 + 1).toNatClampNeg) (xs (x3 + 2).toNatClampNeg) (xs (x3 + 3).toNatClampNeg) (r, C') e1) (gV (mT3 226 rfl rfl) (mT3 227 rfl rfl) (mT3 228 rfl rfl) (mT1 1 rfl rfl) (mT3 229 rfl rfl)) (by decide +kernel) ⟨(Nat.le_of_ble_eq_true rfl), (Nat.le_of_ble_eq_true rfl)⟩ kGC rfl rfl hl.1 rfl (Nat.le_of_ble_eq_true rfl) dL_law_1022) (fun H hPn hDn hk hS => ?_)
  have hPc := hPn
  have hDc := hDn
  have hP' := lx_keep hk (fun k q hq hA => hF.2.2.2.2 q.1 hA (hD'.2 k q hq)) hP'
  refine lv_aload_n hx hb dL_law_1025 rfl (lv_at hl 1 rfl) ?_
  refine lv_aload_n hx hb dL_law_1026 rfl (lv_at hl 3 rfl) ?_
  refine lv_iload_n hx hb dL_law_1027 rfl (lv_at hl 0 rfl) ?_
  refine lv_iconst (v := 1) hx hb dL_law_1028 (by decide) ?_
  refine lv_iadd hx hb dL_law_1029 ?_
  refine va_sld hx hb hX hbl hbA hS hv.1 dL_law_1030 ?_
  refine lv_aload_n hx hb dL_law_1031 rfl (lv_at hl 3 rfl) ?_
  refine lv_iload_n hx hb dL_law_1032 rfl (lv_at hl 0 rfl) ?_
  refine lv_iconst (v := 2) hx hb dL_law_1033 (by decide) ?_
  refine lv_iadd hx hb dL_law_1034 ?_
  refine va_sld hx hb hX hbl hbA hS hv.2.1 dL_law_1035 ?_
  refine lv_aload_n hx hb dL_law_1036 rfl (lv_at hl 3 rfl) ?_
  refine lv_iload_n hx hb dL_law_1037 rfl (lv_at hl 0 rfl) ?_
  refine lv_iconst (v := 3) hx hb dL_law_1038 (by decide) ?_
  refine lv_iadd hx hb dL_law_1039 ?_
  refine va_sld hx hb hX hbl hbA hS hv.2.2.1 dL_law_1040 ?_
  refine lx_i (z := (r, R')) hF.2.2.2.1 hS (lx_run (n := 3) (As := [.int (xs (x3 + 1).toNatClampNeg), .int (xs (x3 + 2).toNatClampNeg), .int (xs (x3 + 3).toNatClampNeg)]) (rest := [.int r]) (T := TX10) (N := 42) F hF.1 hF.2.1 hF.2.2.2.1 hP' hD' hS hcs (kX10_get l D ad' cs A2 R (xs (x3 + 1).toNatClampNeg) (xs (x3 + 2).toNatClampNeg) (xs (x3 + 3).toNatClampNeg) (r, R') e2) (gV (mT6 31 rfl rfl) (mT6 32 rfl rfl) (mT6 33 rfl rfl) (mT1 12 rfl rfl) (mT6 34 rfl rfl)) (by decide +kernel) ⟨(Nat.le_of_ble_eq_true rfl), (Nat.le_of_ble_eq_true rfl)⟩ kGM rfl rfl hl.1 rfl (Nat.le_of_ble_eq_true rfl) dL_law_1041) (fun H hPn hDn hk hS => ?_)
  have hPc := lx_keep hk (fun k q hq hA => hF.2.2.2.2 q.1 (hDc.2 k q hq) hA) hPc
  refine lv_icmp_eq (tgt := 1182) hx hb dL_law_1044 (by decide) (fun _ => ?_) (fun z => absurd rfl z)
  exact kk H C' R' ⟨hPc, hDc, hPn, hDn, hS⟩ hrel'
set_option maxHeartbeats 4000000 in
theorem lc_32 {p : Program} {l : Launch} {e : Env} {s : State} {m : MethodId} {below : List Frame} {meth : Method} {c : Code} {b L : Nat} {xs : Nat → Int32} {D : va_G} {cs : Nat → ClassId} {ad ad' : Nat → Nat} {A1 A2 : Nat → Prop} {cells slots : Nat} {Q : State → Prop} {H : Heap} {C R : Mem} {ls : Array Slot} {x3 : Int32} (F : CallFix p m c cL_law 4 s #[Value.ref b] TS RL) (hX : va_X b L xs s s.heap) (hbl : b < s.heap.size) (hcs : cells ≤ room_1.cells ∧ slots ≤ room_1.slots) (hF : Lf D cs A1 A2 s) (hW : Lw D cs ad ad' A1 A2 s H C R) (hrel : Rel C R) (hl : lv_has ls 4 [(3, .int x3), (2, .ref (ad' (cO GM 0))), (1, .ref (ad (cO GC 0))), (0, .ref b)]) (hv : vp_in (x3 + 1) L ∧ vp_in (x3 + 2) L ∧ vp_in (x3 + 3) L ∧ vp_in (x3 + 4) L ∧ vp_in (x3 + 5) L) (kk : ∀ (H : Heap) (C R : Mem), Lw D cs ad ad' A1 A2 s H C R → Rel C R → W p l e room_1 s m #[Value.ref b] below meth c H [] cells slots Q (F0 m 1182 ls [])) : W p l e room_1 s m #[Value.ref b] below meth c H [] cells slots Q (F0 m 1049 ls []) := by
  have hx := F.1
  have hb := F.2.1
  obtain ⟨hP, hD, hP', hD', hS⟩ := hW
  have hbA : ¬ (fun q : Nat => s.heap.size ≤ q) b := Nat.not_le.mpr hbl
  obtain ⟨r, C', R', e1, e2, hrel'⟩ := op_copy hrel (xs (x3 + 1).toNatClampNeg) (xs (x3 + 2).toNatClampNeg) (xs (x3 + 3).toNatClampNeg) (xs (x3 + 4).toNatClampNeg) (xs (x3 + 5).toNatClampNeg)
  refine lv_aload_n hx hb dL_law_1049 rfl (lv_at hl 2 rfl) ?_
  refine lv_aload_n hx hb dL_law_1050 rfl (lv_at hl 3 rfl) ?_
  refine lv_iload_n hx hb dL_law_1051 rfl (lv_at hl 0 rfl) ?_
  refine lv_iconst (v := 1) hx hb dL_law_1052 (by decide) ?_
  refine lv_iadd hx hb dL_law_1053 ?_
  refine va_sld hx hb hX hbl hbA hS hv.1 dL_law_1054 ?_
  refine lv_aload_n hx hb dL_law_1055 rfl (lv_at hl 3 rfl) ?_
  refine lv_iload_n hx hb dL_law_1056 rfl (lv_at hl 0 rfl) ?_
  refine lv_iconst (v := 2) hx hb dL_law_1057 (by decide) ?_
  refine lv_iadd hx hb dL_law_1058 ?_
  refine va_sld hx hb hX hbl hbA hS hv.2.1 dL_law_1059 ?_
  refine lv_aload_n hx hb dL_law_1060 rfl (lv_at hl 3 rfl) ?_
  refine lv_iload_n hx hb dL_law_1061 rfl (lv_at hl 0 rfl) ?_
  refine lv_iconst (v := 3) hx hb dL_law_1062 (by decide) ?_
  refine lv_iadd hx hb dL_law_1063 ?_
  refine va_sld hx hb hX hbl hbA hS hv.2.2.1 dL_law_1064 ?_
  refine lv_aload_n hx hb dL_law_1065 rfl (lv_at hl 3 rfl) ?_
  refine lv_iload_n hx hb dL_law_1066 rfl (lv_at hl 0 rfl) ?_
  refine lv_iconst (v := 4) hx hb dL_law_1067 (by decide) ?_
  refine lv_iadd hx hb dL_law_1068 ?_
  refine va_sld hx hb hX hbl hbA hS hv.2.2.2.1 dL_law_1069 ?_
  refine lv_aload_n hx hb dL_law_1070 rfl (lv_at hl 3 rfl) ?_
  refine lv_iload_n hx hb dL_law_1071 rfl (lv_at hl 0 rfl) ?_
  refine lv_iconst (v := 5) hx hb dL_law_1072 (by decide) ?_
  refine lv_iadd hx hb dL_law_1073 ?_
  refine va_sld hx hb hX hbl hbA hS hv.2.2.2.2 dL_law_1074 ?_
  refine lx_i (z := (r, C')) hF.2.2.1 hS (lx_run (n := 5) (As := [.int (xs (x3 + 1).toNatClampNeg), .int (xs (x3 + 2).toNatClampNeg), .int (xs (x3 + 3).toNatClampNeg), .int (xs (x3 + 4).toNatClampNeg), .int (xs (x3 + 5).toNatClampNeg)]) (rest := []) (T := TX9) (N := 14) F hF.1 hF.2.1 hF.2.2.1 hP hD hS hcs (kX9_copy l D ad cs A1 C (xs (x3 + 1).toNatClampNeg) (xs (x3 + 2).toNatClampNeg) (xs (x3 + 3).toNatClampNeg) (xs (x3 + 4).toNatClampNeg) (xs (x3 + 5).toNatClampNeg) (r, C') e1) (gV (mT3 231 rfl rfl) (mT3 232 rfl rfl) (mT3 233 rfl rfl) (mT1 1 rfl rfl) (mT3 234 rfl rfl)) (by decide +kernel) ⟨(Nat.le_of_ble_eq_true rfl), (Nat.le_of_ble_eq_true rfl)⟩ kGC rfl rfl hl.1 rfl (Nat.le_of_ble_eq_true rfl) dL_law_1075) (fun H hPn hDn hk hS => ?_)
  have hPc := hPn
  have hDc := hDn
  have hP' := lx_keep hk (fun k q hq hA => hF.2.2.2.2 q.1 hA (hD'.2 k q hq)) hP'
  refine lv_aload_n hx hb dL_law_1078 rfl (lv_at hl 1 rfl) ?_
  refine lv_aload_n hx hb dL_law_1079 rfl (lv_at hl 3 rfl) ?_
  refine lv_iload_n hx hb dL_law_1080 rfl (lv_at hl 0 rfl) ?_
  refine lv_iconst (v := 1) hx hb dL_law_1081 (by decide) ?_
  refine lv_iadd hx hb dL_law_1082 ?_
  refine va_sld hx hb hX hbl hbA hS hv.1 dL_law_1083 ?_
  refine lv_aload_n hx hb dL_law_1084 rfl (lv_at hl 3 rfl) ?_
  refine lv_iload_n hx hb dL_law_1085 rfl (lv_at hl 0 rfl) ?_
  refine lv_iconst (v := 2) hx hb dL_law_1086 (by decide) ?_
  refine lv_iadd hx hb dL_law_1087 ?_
  refine va_sld hx hb hX hbl hbA hS hv.2.1 dL_law_1088 ?_
  refine lv_aload_n hx hb dL_law_1089 rfl (lv_at hl 3 rfl) ?_
  refine lv_iload_n hx hb dL_law_1090 rfl (lv_at hl 0 rfl) ?_
  refine lv_iconst (v := 3) hx hb dL_law_1091 (by decide) ?_
  refine lv_iadd hx hb dL_law_1092 ?_
  refine va_sld hx hb hX hbl hbA hS hv.2.2.1 dL_law_1093 ?_
  refine lv_aload_n hx hb dL_law_1094 rfl (lv_at hl 3 rfl) ?_
  refine lv_iload_n hx hb dL_law_1095 rfl (lv_at hl 0 rfl) ?_
  refine lv_iconst (v := 4) hx hb dL_law_1096 (by decide) ?_
  refine lv_iadd hx hb dL_law_1097 ?_
  refine va_sld hx hb hX hbl hbA hS hv.2.2.2.1 dL_law_1098 ?_
  refine lv_aload_n hx hb dL_law_1099 rfl (lv_at hl 3 rfl) ?_
  refine lv_iload_n hx hb dL_law_1100 rfl (lv_at hl 0 rfl) ?_
  refine lv_iconst (v := 5) hx hb dL_law_1101 (by decide) ?_
  refine lv_iadd hx hb dL_law_1102 ?_
  refine va_sld hx hb hX hbl hbA hS hv.2.2.2.2 dL_law_1103 ?_
  refine lx_i (z := (r, R')) hF.2.2.2.1 hS (lx_run (n := 5) (As := [.int (xs (x3 + 1).toNatClampNeg), .int (xs (x3 + 2).toNatClampNeg), .int (xs (x3 + 3).toNatClampNeg), .int (xs (x3 + 4).toNatClampNeg), .int (xs (x3 + 5).toNatClampNeg)]) (rest := [.int r]) (T := TX10) (N := 42) F hF.1 hF.2.1 hF.2.2.2.1 hP' hD' hS hcs (kX10_copy l D ad' cs A2 R (xs (x3 + 1).toNatClampNeg) (xs (x3 + 2).toNatClampNeg) (xs (x3 + 3).toNatClampNeg) (xs (x3 + 4).toNatClampNeg) (xs (x3 + 5).toNatClampNeg) (r, R') e2) (gV (mT6 36 rfl rfl) (mT6 37 rfl rfl) (mT6 38 rfl rfl) (mT1 12 rfl rfl) (mT6 39 rfl rfl)) (by decide +kernel) ⟨(Nat.le_of_ble_eq_true rfl), (Nat.le_of_ble_eq_true rfl)⟩ kGM rfl rfl hl.1 rfl (Nat.le_of_ble_eq_true rfl) dL_law_1104) (fun H hPn hDn hk hS => ?_)
  have hPc := lx_keep hk (fun k q hq hA => hF.2.2.2.2 q.1 (hDc.2 k q hq) hA) hPc
  refine lv_icmp_eq (tgt := 1182) hx hb dL_law_1107 (by decide) (fun _ => ?_) (fun z => absurd rfl z)
  exact kk H C' R' ⟨hPc, hDc, hPn, hDn, hS⟩ hrel'
set_option maxHeartbeats 4000000 in
theorem lc_33 {p : Program} {l : Launch} {e : Env} {s : State} {m : MethodId} {below : List Frame} {meth : Method} {c : Code} {b L : Nat} {xs : Nat → Int32} {D : va_G} {cs : Nat → ClassId} {ad ad' : Nat → Nat} {A1 A2 : Nat → Prop} {cells slots : Nat} {Q : State → Prop} {H : Heap} {C R : Mem} {ls : Array Slot} {x3 : Int32} (F : CallFix p m c cL_law 4 s #[Value.ref b] TS RL) (hX : va_X b L xs s s.heap) (hbl : b < s.heap.size) (hcs : cells ≤ room_1.cells ∧ slots ≤ room_1.slots) (hF : Lf D cs A1 A2 s) (hW : Lw D cs ad ad' A1 A2 s H C R) (hrel : Rel C R) (hl : lv_has ls 4 [(3, .int x3), (2, .ref (ad' (cO GM 0))), (1, .ref (ad (cO GC 0))), (0, .ref b)]) (hv : vp_in (x3 + 1) L ∧ vp_in (x3 + 2) L ∧ vp_in (x3 + 3) L ∧ vp_in (x3 + 4) L ∧ vp_in (x3 + 5) L) (kk : ∀ (H : Heap) (C R : Mem), Lw D cs ad ad' A1 A2 s H C R → Rel C R → W p l e room_1 s m #[Value.ref b] below meth c H [] cells slots Q (F0 m 1182 ls [])) : W p l e room_1 s m #[Value.ref b] below meth c H [] cells slots Q (F0 m 1112 ls []) := by
  have hx := F.1
  have hb := F.2.1
  obtain ⟨hP, hD, hP', hD', hS⟩ := hW
  have hbA : ¬ (fun q : Nat => s.heap.size ≤ q) b := Nat.not_le.mpr hbl
  obtain ⟨r, C', R', e1, e2, hrel'⟩ := op_write hrel (xs (x3 + 1).toNatClampNeg) (xs (x3 + 2).toNatClampNeg)
  refine lv_aload_n hx hb dL_law_1112 rfl (lv_at hl 2 rfl) ?_
  refine lv_aload_n hx hb dL_law_1113 rfl (lv_at hl 3 rfl) ?_
  refine lv_iload_n hx hb dL_law_1114 rfl (lv_at hl 0 rfl) ?_
  refine lv_iconst (v := 1) hx hb dL_law_1115 (by decide) ?_
  refine lv_iadd hx hb dL_law_1116 ?_
  refine va_sld hx hb hX hbl hbA hS hv.1 dL_law_1117 ?_
  refine lv_aload_n hx hb dL_law_1118 rfl (lv_at hl 3 rfl) ?_
  refine lv_iload_n hx hb dL_law_1119 rfl (lv_at hl 0 rfl) ?_
  refine lv_iconst (v := 2) hx hb dL_law_1120 (by decide) ?_
  refine lv_iadd hx hb dL_law_1121 ?_
  refine va_sld hx hb hX hbl hbA hS hv.2.1 dL_law_1122 ?_
  refine lx_i (z := (r, C')) hF.2.2.1 hS (lx_run (n := 2) (As := [.int (xs (x3 + 1).toNatClampNeg), .int (xs (x3 + 2).toNatClampNeg)]) (rest := []) (T := TX9) (N := 14) F hF.1 hF.2.1 hF.2.2.1 hP hD hS hcs (kX9_write l D ad cs A1 C (xs (x3 + 1).toNatClampNeg) (xs (x3 + 2).toNatClampNeg) (r, C') e1) (gV (mT3 239 rfl rfl) (mT4 0 rfl rfl) (mT4 1 rfl rfl) (mT1 1 rfl rfl) (mT4 2 rfl rfl)) (by decide +kernel) ⟨(Nat.le_of_ble_eq_true rfl), (Nat.le_of_ble_eq_true rfl)⟩ kGC rfl rfl hl.1 rfl (Nat.le_of_ble_eq_true rfl) dL_law_1123) (fun H hPn hDn hk hS => ?_)
  have hPc := hPn
  have hDc := hDn
  have hP' := lx_keep hk (fun k q hq hA => hF.2.2.2.2 q.1 hA (hD'.2 k q hq)) hP'
  refine lv_aload_n hx hb dL_law_1126 rfl (lv_at hl 1 rfl) ?_
  refine lv_aload_n hx hb dL_law_1127 rfl (lv_at hl 3 rfl) ?_
  refine lv_iload_n hx hb dL_law_1128 rfl (lv_at hl 0 rfl) ?_
  refine lv_iconst (v := 1) hx hb dL_law_1129 (by decide) ?_
  refine lv_iadd hx hb dL_law_1130 ?_
  refine va_sld hx hb hX hbl hbA hS hv.1 dL_law_1131 ?_
  refine lv_aload_n hx hb dL_law_1132 rfl (lv_at hl 3 rfl) ?_
  refine lv_iload_n hx hb dL_law_1133 rfl (lv_at hl 0 rfl) ?_
  refine lv_iconst (v := 2) hx hb dL_law_1134 (by decide) ?_
  refine lv_iadd hx hb dL_law_1135 ?_
  refine va_sld hx hb hX hbl hbA hS hv.2.1 dL_law_1136 ?_
  refine lx_i (z := (r, R')) hF.2.2.2.1 hS (lx_run (n := 2) (As := [.int (xs (x3 + 1).toNatClampNeg), .int (xs (x3 + 2).toNatClampNeg)]) (rest := [.int r]) (T := TX10) (N := 42) F hF.1 hF.2.1 hF.2.2.2.1 hP' hD' hS hcs (kX10_write l D ad' cs A2 R (xs (x3 + 1).toNatClampNeg) (xs (x3 + 2).toNatClampNeg) (r, R') e2) (gV (mT6 40 rfl rfl) (mT6 41 rfl rfl) (mT6 42 rfl rfl) (mT1 12 rfl rfl) (mT6 43 rfl rfl)) (by decide +kernel) ⟨(Nat.le_of_ble_eq_true rfl), (Nat.le_of_ble_eq_true rfl)⟩ kGM rfl rfl hl.1 rfl (Nat.le_of_ble_eq_true rfl) dL_law_1137) (fun H hPn hDn hk hS => ?_)
  have hPc := lx_keep hk (fun k q hq hA => hF.2.2.2.2 q.1 (hDc.2 k q hq) hA) hPc
  refine lv_icmp_eq (tgt := 1182) hx hb dL_law_1140 (by decide) (fun _ => ?_) (fun z => absurd rfl z)
  exact kk H C' R' ⟨hPc, hDc, hPn, hDn, hS⟩ hrel'
set_option maxHeartbeats 4000000 in
theorem lc_34 {p : Program} {l : Launch} {e : Env} {s : State} {m : MethodId} {below : List Frame} {meth : Method} {c : Code} {b L : Nat} {xs : Nat → Int32} {D : va_G} {cs : Nat → ClassId} {ad ad' : Nat → Nat} {A1 A2 : Nat → Prop} {cells slots : Nat} {Q : State → Prop} {H : Heap} {C R : Mem} {ls : Array Slot} {x3 : Int32} (F : CallFix p m c cL_law 4 s #[Value.ref b] TS RL) (hX : va_X b L xs s s.heap) (hbl : b < s.heap.size) (hcs : cells ≤ room_1.cells ∧ slots ≤ room_1.slots) (hF : Lf D cs A1 A2 s) (hW : Lw D cs ad ad' A1 A2 s H C R) (hrel : Rel C R) (hl : lv_has ls 4 [(3, .int x3), (2, .ref (ad' (cO GM 0))), (1, .ref (ad (cO GC 0))), (0, .ref b)]) (hv : vp_in (x3 + 1) L ∧ vp_in (x3 + 2) L ∧ vp_in (x3 + 3) L ∧ vp_in (x3 + 4) L ∧ vp_in (x3 + 5) L) (kk : ∀ (H : Heap) (C R : Mem), Lw D cs ad ad' A1 A2 s H C R → Rel C R → W p l e room_1 s m #[Value.ref b] below meth c H [] cells slots Q (F0 m 1182 ls [])) : W p l e room_1 s m #[Value.ref b] below meth c H [] cells slots Q (F0 m 1145 ls []) := by
  have hx := F.1
  have hb := F.2.1
  obtain ⟨hP, hD, hP', hD', hS⟩ := hW
  have hbA : ¬ (fun q : Nat => s.heap.size ≤ q) b := Nat.not_le.mpr hbl
  obtain ⟨r, R', e1, e2, hrel'⟩ := op_count hrel (xs (x3 + 1).toNatClampNeg)
  refine lv_aload_n hx hb dL_law_1145 rfl (lv_at hl 2 rfl) ?_
  refine lv_aload_n hx hb dL_law_1146 rfl (lv_at hl 3 rfl) ?_
  refine lv_iload_n hx hb dL_law_1147 rfl (lv_at hl 0 rfl) ?_
  refine lv_iconst (v := 1) hx hb dL_law_1148 (by decide) ?_
  refine lv_iadd hx hb dL_law_1149 ?_
  refine va_sld hx hb hX hbl hbA hS hv.1 dL_law_1150 ?_
  refine lx_i (z := (r, C)) hF.2.2.1 hS (lx_run (n := 1) (As := [.int (xs (x3 + 1).toNatClampNeg)]) (rest := []) (T := TX9) (N := 14) F hF.1 hF.2.1 hF.2.2.1 hP hD hS hcs (kX9_count l D ad cs A1 C (xs (x3 + 1).toNatClampNeg) r e1) (gV (mT4 4 rfl rfl) (mT4 5 rfl rfl) (mT4 6 rfl rfl) (mT1 1 rfl rfl) (mT4 7 rfl rfl)) (by decide +kernel) ⟨(Nat.le_of_ble_eq_true rfl), (Nat.le_of_ble_eq_true rfl)⟩ kGC rfl rfl hl.1 rfl (Nat.le_of_ble_eq_true rfl) dL_law_1151) (fun H hPn hDn hk hS => ?_)
  have hPc := hPn
  have hDc := hDn
  have hP' := lx_keep hk (fun k q hq hA => hF.2.2.2.2 q.1 hA (hD'.2 k q hq)) hP'
  refine lv_aload_n hx hb dL_law_1154 rfl (lv_at hl 1 rfl) ?_
  refine lv_aload_n hx hb dL_law_1155 rfl (lv_at hl 3 rfl) ?_
  refine lv_iload_n hx hb dL_law_1156 rfl (lv_at hl 0 rfl) ?_
  refine lv_iconst (v := 1) hx hb dL_law_1157 (by decide) ?_
  refine lv_iadd hx hb dL_law_1158 ?_
  refine va_sld hx hb hX hbl hbA hS hv.1 dL_law_1159 ?_
  refine lx_i (z := (r, R')) hF.2.2.2.1 hS (lx_run (n := 1) (As := [.int (xs (x3 + 1).toNatClampNeg)]) (rest := [.int r]) (T := TX10) (N := 42) F hF.1 hF.2.1 hF.2.2.2.1 hP' hD' hS hcs (kX10_count l D ad' cs A2 R (xs (x3 + 1).toNatClampNeg) (r, R') e2) (gV (mT6 44 rfl rfl) (mT6 45 rfl rfl) (mT6 46 rfl rfl) (mT1 12 rfl rfl) (mT6 47 rfl rfl)) (by decide +kernel) ⟨(Nat.le_of_ble_eq_true rfl), (Nat.le_of_ble_eq_true rfl)⟩ kGM rfl rfl hl.1 rfl (Nat.le_of_ble_eq_true rfl) dL_law_1160) (fun H hPn hDn hk hS => ?_)
  have hPc := lx_keep hk (fun k q hq hA => hF.2.2.2.2 q.1 (hDc.2 k q hq) hA) hPc
  refine lv_icmp_eq (tgt := 1182) hx hb dL_law_1163 (by decide) (fun _ => ?_) (fun z => absurd rfl z)
  exact kk H C R' ⟨hPc, hDc, hPn, hDn, hS⟩ hrel'
set_option maxHeartbeats 4000000 in
theorem lc_35 {p : Program} {l : Launch} {e : Env} {s : State} {m : MethodId} {below : List Frame} {meth : Method} {c : Code} {b L : Nat} {xs : Nat → Int32} {D : va_G} {cs : Nat → ClassId} {ad ad' : Nat → Nat} {A1 A2 : Nat → Prop} {cells slots : Nat} {Q : State → Prop} {H : Heap} {C R : Mem} {ls : Array Slot} {x3 : Int32} (F : CallFix p m c cL_law 4 s #[Value.ref b] TS RL) (hX : va_X b L xs s s.heap) (hbl : b < s.heap.size) (hcs : cells ≤ room_1.cells ∧ slots ≤ room_1.slots) (hF : Lf D cs A1 A2 s) (hW : Lw D cs ad ad' A1 A2 s H C R) (hrel : Rel C R) (hl : lv_has ls 4 [(3, .int x3), (2, .ref (ad' (cO GM 0))), (1, .ref (ad (cO GC 0))), (0, .ref b)]) (hv : vp_in (x3 + 1) L ∧ vp_in (x3 + 2) L ∧ vp_in (x3 + 3) L ∧ vp_in (x3 + 4) L ∧ vp_in (x3 + 5) L) (kk : ∀ (H : Heap) (C R : Mem), Lw D cs ad ad' A1 A2 s H C R → Rel C R → W p l e room_1 s m #[Value.ref b] below meth c H [] cells slots Q (F0 m 1182 ls [])) : W p l e room_1 s m #[Value.ref b] below meth c H [] cells slots Q (F0 m 1168 ls []) := by
  have hx := F.1
  have hb := F.2.1
  obtain ⟨hP, hD, hP', hD', hS⟩ := hW
  have hbA : ¬ (fun q : Nat => s.heap.size ≤ q) b := Nat.not_le.mpr hbl
  obtain ⟨r, C', R', e1, e2, hrel'⟩ := op_digest hrel
  refine lv_aload_n hx hb dL_law_1168 rfl (lv_at hl 2 rfl) ?_
  refine lx_l (z := (r, C')) hF.2.2.1 hS (lx_run (n := 0) (As := []) (rest := []) (T := TX9) (N := 14) F hF.1 hF.2.1 hF.2.2.1 hP hD hS hcs (kX9_digest l D ad cs A1 C (r, C') e1) (gV (mT4 12 rfl rfl) (mT4 13 rfl rfl) (mT4 14 rfl rfl) (mT1 1 rfl rfl) (mT4 15 rfl rfl)) (by decide +kernel) ⟨(Nat.le_of_ble_eq_true rfl), (Nat.le_of_ble_eq_true rfl)⟩ kGC rfl rfl hl.1 rfl (Nat.le_of_ble_eq_true rfl) dL_law_1169) (fun H hPn hDn hk hS => ?_)
  have hPc := hPn
  have hDc := hDn
  have hP' := lx_keep hk (fun k q hq hA => hF.2.2.2.2 q.1 hA (hD'.2 k q hq)) hP'
  refine lv_aload_n hx hb dL_law_1172 rfl (lv_at hl 1 rfl) ?_
  refine lx_l (z := (r, R')) hF.2.2.2.1 hS (lx_run (n := 0) (As := []) (rest := [.long r]) (T := TX10) (N := 42) F hF.1 hF.2.1 hF.2.2.2.1 hP' hD' hS hcs (kX10_digest l D ad' cs A2 R (r, R') e2) (gV (mT6 52 rfl rfl) (mT6 53 rfl rfl) (mT6 54 rfl rfl) (mT1 12 rfl rfl) (mT6 55 rfl rfl)) (by decide +kernel) ⟨(Nat.le_of_ble_eq_true rfl), (Nat.le_of_ble_eq_true rfl)⟩ kGM rfl rfl hl.1 rfl (Nat.le_of_ble_eq_true rfl) dL_law_1173) (fun H hPn hDn hk hS => ?_)
  have hPc := lx_keep hk (fun k q hq hA => hF.2.2.2.2 q.1 (hDc.2 k q hq) hA) hPc
  refine W.lcmp hx hb dL_law_1176 ?_
  refine lv_if_eq (tgt := 1182) hx hb dL_law_1177 (by decide) (fun _ => ?_) (fun z => absurd (lg_cmp_self r) z)
  exact kk H C' R' ⟨hPc, hDc, hPn, hDn, hS⟩ hrel'
