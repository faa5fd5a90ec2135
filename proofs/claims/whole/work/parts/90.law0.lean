/-! ===== the law's cases (written by gen_law.py) ===== -/
set_option maxHeartbeats 4000000 in
theorem lc_0 {p : Program} {l : Launch} {e : Env} {s : State} {m : MethodId} {below : List Frame} {meth : Method} {c : Code} {b L : Nat} {xs : Nat → Int32} {D : va_G} {cs : Nat → ClassId} {ad ad' : Nat → Nat} {A1 A2 : Nat → Prop} {cells slots : Nat} {Q : State → Prop} {H : Heap} {C R : Mem} {ls : Array Slot} {x3 : Int32} (F : CallFix p m c cL_law 4 s #[Value.ref b] TS RL) (hX : va_X b L xs s s.heap) (hbl : b < s.heap.size) (hcs : cells ≤ room_1.cells ∧ slots ≤ room_1.slots) (hF : Lf D cs A1 A2 s) (hW : Lw D cs ad ad' A1 A2 s H C R) (hrel : Rel C R) (hl : lv_has ls 4 [(3, .int x3), (2, .ref (ad' (cO GM 0))), (1, .ref (ad (cO GC 0))), (0, .ref b)]) (hv : vp_in (x3 + 1) L ∧ vp_in (x3 + 2) L ∧ vp_in (x3 + 3) L ∧ vp_in (x3 + 4) L ∧ vp_in (x3 + 5) L) (kk : ∀ (H : Heap) (C R : Mem), Lw D cs ad ad' A1 A2 s H C R → Rel C R → W p l e room_1 s m #[Value.ref b] below meth c H [] cells slots Q (F0 m 1182 ls [])) : W p l e room_1 s m #[Value.ref b] below meth c H [] cells slots Q (F0 m 192 ls []) := by
  have hx := F.1
  have hb := F.2.1
  obtain ⟨hP, hD, hP', hD', hS⟩ := hW
  have hbA : ¬ (fun q : Nat => s.heap.size ≤ q) b := Nat.not_le.mpr hbl
  obtain ⟨r, C', R', e1, e2, hrel'⟩ := op_type hrel (xs (x3 + 1).toNatClampNeg) (xs (x3 + 2).toNatClampNeg)
  refine lv_aload_n hx hb dL_law_192 rfl (lv_at hl 2 rfl) ?_
  refine lv_aload_n hx hb dL_law_193 rfl (lv_at hl 3 rfl) ?_
  refine lv_iload_n hx hb dL_law_194 rfl (lv_at hl 0 rfl) ?_
  refine lv_iconst (v := 1) hx hb dL_law_195 (by decide) ?_
  refine lv_iadd hx hb dL_law_196 ?_
  refine va_sld hx hb hX hbl hbA hS hv.1 dL_law_197 ?_
  refine lv_aload_n hx hb dL_law_198 rfl (lv_at hl 3 rfl) ?_
  refine lv_iload_n hx hb dL_law_199 rfl (lv_at hl 0 rfl) ?_
  refine lv_iconst (v := 2) hx hb dL_law_200 (by decide) ?_
  refine lv_iadd hx hb dL_law_201 ?_
  refine va_sld hx hb hX hbl hbA hS hv.2.1 dL_law_202 ?_
  refine lx_i (z := (r, C')) hF.2.2.1 hS (lx_run (n := 2) (As := [.int (xs (x3 + 1).toNatClampNeg), .int (xs (x3 + 2).toNatClampNeg)]) (rest := []) (T := TX9) (N := 14) F hF.1 hF.2.1 hF.2.2.1 hP hD hS hcs (kX9_type l D ad cs A1 C (xs (x3 + 1).toNatClampNeg) (xs (x3 + 2).toNatClampNeg) (r, C') e1) (gV (mT2 106 rfl rfl) (mT2 107 rfl rfl) (mT2 108 rfl rfl) (mT1 1 rfl rfl) (mT2 109 rfl rfl)) (by decide +kernel) ⟨(Nat.le_of_ble_eq_true rfl), (Nat.le_of_ble_eq_true rfl)⟩ kGC rfl rfl hl.1 rfl (Nat.le_of_ble_eq_true rfl) dL_law_203) (fun H hPn hDn hk hS => ?_)
  have hPc := hPn
  have hDc := hDn
  have hP' := lx_keep hk (fun k q hq hA => hF.2.2.2.2 q.1 hA (hD'.2 k q hq)) hP'
  refine lv_aload_n hx hb dL_law_206 rfl (lv_at hl 1 rfl) ?_
  refine lv_aload_n hx hb dL_law_207 rfl (lv_at hl 3 rfl) ?_
  refine lv_iload_n hx hb dL_law_208 rfl (lv_at hl 0 rfl) ?_
  refine lv_iconst (v := 1) hx hb dL_law_209 (by decide) ?_
  refine lv_iadd hx hb dL_law_210 ?_
  refine va_sld hx hb hX hbl hbA hS hv.1 dL_law_211 ?_
  refine lv_aload_n hx hb dL_law_212 rfl (lv_at hl 3 rfl) ?_
  refine lv_iload_n hx hb dL_law_213 rfl (lv_at hl 0 rfl) ?_
  refine lv_iconst (v := 2) hx hb dL_law_214 (by decide) ?_
  refine lv_iadd hx hb dL_law_215 ?_
  refine va_sld hx hb hX hbl hbA hS hv.2.1 dL_law_216 ?_
  refine lx_i (z := (r, R')) hF.2.2.2.1 hS (lx_run (n := 2) (As := [.int (xs (x3 + 1).toNatClampNeg), .int (xs (x3 + 2).toNatClampNeg)]) (rest := [.int r]) (T := TX10) (N := 42) F hF.1 hF.2.1 hF.2.2.2.1 hP' hD' hS hcs (kX10_type l D ad' cs A2 R (xs (x3 + 1).toNatClampNeg) (xs (x3 + 2).toNatClampNeg) (r, R') e2) (gV (mT4 183 rfl rfl) (mT4 184 rfl rfl) (mT4 185 rfl rfl) (mT1 12 rfl rfl) (mT4 186 rfl rfl)) (by decide +kernel) ⟨(Nat.le_of_ble_eq_true rfl), (Nat.le_of_ble_eq_true rfl)⟩ kGM rfl rfl hl.1 rfl (Nat.le_of_ble_eq_true rfl) dL_law_217) (fun H hPn hDn hk hS => ?_)
  have hPc := lx_keep hk (fun k q hq hA => hF.2.2.2.2 q.1 (hDc.2 k q hq) hA) hPc
  refine lv_icmp_eq (tgt := 1182) hx hb dL_law_220 (by decide) (fun _ => ?_) (fun z => absurd rfl z)
  exact kk H C' R' ⟨hPc, hDc, hPn, hDn, hS⟩ hrel'
set_option maxHeartbeats 4000000 in
theorem lc_1 {p : Program} {l : Launch} {e : Env} {s : State} {m : MethodId} {below : List Frame} {meth : Method} {c : Code} {b L : Nat} {xs : Nat → Int32} {D : va_G} {cs : Nat → ClassId} {ad ad' : Nat → Nat} {A1 A2 : Nat → Prop} {cells slots : Nat} {Q : State → Prop} {H : Heap} {C R : Mem} {ls : Array Slot} {x3 : Int32} (F : CallFix p m c cL_law 4 s #[Value.ref b] TS RL) (hX : va_X b L xs s s.heap) (hbl : b < s.heap.size) (hcs : cells ≤ room_1.cells ∧ slots ≤ room_1.slots) (hF : Lf D cs A1 A2 s) (hW : Lw D cs ad ad' A1 A2 s H C R) (hrel : Rel C R) (hl : lv_has ls 4 [(3, .int x3), (2, .ref (ad' (cO GM 0))), (1, .ref (ad (cO GC 0))), (0, .ref b)]) (hv : vp_in (x3 + 1) L ∧ vp_in (x3 + 2) L ∧ vp_in (x3 + 3) L ∧ vp_in (x3 + 4) L ∧ vp_in (x3 + 5) L) (kk : ∀ (H : Heap) (C R : Mem), Lw D cs ad ad' A1 A2 s H C R → Rel C R → W p l e room_1 s m #[Value.ref b] below meth c H [] cells slots Q (F0 m 1182 ls [])) : W p l e room_1 s m #[Value.ref b] below meth c H [] cells slots Q (F0 m 225 ls []) := by
  have hx := F.1
  have hb := F.2.1
  obtain ⟨hP, hD, hP', hD', hS⟩ := hW
  have hbA : ¬ (fun q : Nat => s.heap.size ≤ q) b := Nat.not_le.mpr hbl
  obtain ⟨r, C', R', e1, e2, hrel'⟩ := op_wipe hrel (xs (x3 + 1).toNatClampNeg)
  refine lv_aload_n hx hb dL_law_225 rfl (lv_at hl 2 rfl) ?_
  refine lv_aload_n hx hb dL_law_226 rfl (lv_at hl 3 rfl) ?_
  refine lv_iload_n hx hb dL_law_227 rfl (lv_at hl 0 rfl) ?_
  refine lv_iconst (v := 1) hx hb dL_law_228 (by decide) ?_
  refine lv_iadd hx hb dL_law_229 ?_
  refine va_sld hx hb hX hbl hbA hS hv.1 dL_law_230 ?_
  refine lx_i (z := (r, C')) hF.2.2.1 hS (lx_run (n := 1) (As := [.int (xs (x3 + 1).toNatClampNeg)]) (rest := []) (T := TX9) (N := 14) F hF.1 hF.2.1 hF.2.2.1 hP hD hS hcs (kX9_wipe l D ad cs A1 C (xs (x3 + 1).toNatClampNeg) (r, C') e1) (gV (mT2 207 rfl rfl) (mT2 208 rfl rfl) (mT2 209 rfl rfl) (mT1 1 rfl rfl) (mT2 210 rfl rfl)) (by decide +kernel) ⟨(Nat.le_of_ble_eq_true rfl), (Nat.le_of_ble_eq_true rfl)⟩ kGC rfl rfl hl.1 rfl (Nat.le_of_ble_eq_true rfl) dL_law_231) (fun H hPn hDn hk hS => ?_)
  have hPc := hPn
  have hDc := hDn
  have hP' := lx_keep hk (fun k q hq hA => hF.2.2.2.2 q.1 hA (hD'.2 k q hq)) hP'
  refine lv_aload_n hx hb dL_law_234 rfl (lv_at hl 1 rfl) ?_
  refine lv_aload_n hx hb dL_law_235 rfl (lv_at hl 3 rfl) ?_
  refine lv_iload_n hx hb dL_law_236 rfl (lv_at hl 0 rfl) ?_
  refine lv_iconst (v := 1) hx hb dL_law_237 (by decide) ?_
  refine lv_iadd hx hb dL_law_238 ?_
  refine va_sld hx hb hX hbl hbA hS hv.1 dL_law_239 ?_
  refine lx_i (z := (r, R')) hF.2.2.2.1 hS (lx_run (n := 1) (As := [.int (xs (x3 + 1).toNatClampNeg)]) (rest := [.int r]) (T := TX10) (N := 42) F hF.1 hF.2.1 hF.2.2.2.1 hP' hD' hS hcs (kX10_wipe l D ad' cs A2 R (xs (x3 + 1).toNatClampNeg) (r, R') e2) (gV (mT4 193 rfl rfl) (mT4 194 rfl rfl) (mT4 195 rfl rfl) (mT1 12 rfl rfl) (mT4 196 rfl rfl)) (by decide +kernel) ⟨(Nat.le_of_ble_eq_true rfl), (Nat.le_of_ble_eq_true rfl)⟩ kGM rfl rfl hl.1 rfl (Nat.le_of_ble_eq_true rfl) dL_law_240) (fun H hPn hDn hk hS => ?_)
  have hPc := lx_keep hk (fun k q hq hA => hF.2.2.2.2 q.1 (hDc.2 k q hq) hA) hPc
  refine lv_icmp_eq (tgt := 1182) hx hb dL_law_243 (by decide) (fun _ => ?_) (fun z => absurd rfl z)
  exact kk H C' R' ⟨hPc, hDc, hPn, hDn, hS⟩ hrel'
set_option maxHeartbeats 4000000 in
theorem lc_2 {p : Program} {l : Launch} {e : Env} {s : State} {m : MethodId} {below : List Frame} {meth : Method} {c : Code} {b L : Nat} {xs : Nat → Int32} {D : va_G} {cs : Nat → ClassId} {ad ad' : Nat → Nat} {A1 A2 : Nat → Prop} {cells slots : Nat} {Q : State → Prop} {H : Heap} {C R : Mem} {ls : Array Slot} {x3 : Int32} (F : CallFix p m c cL_law 4 s #[Value.ref b] TS RL) (hX : va_X b L xs s s.heap) (hbl : b < s.heap.size) (hcs : cells ≤ room_1.cells ∧ slots ≤ room_1.slots) (hF : Lf D cs A1 A2 s) (hW : Lw D cs ad ad' A1 A2 s H C R) (hrel : Rel C R) (hl : lv_has ls 4 [(3, .int x3), (2, .ref (ad' (cO GM 0))), (1, .ref (ad (cO GC 0))), (0, .ref b)]) (hv : vp_in (x3 + 1) L ∧ vp_in (x3 + 2) L ∧ vp_in (x3 + 3) L ∧ vp_in (x3 + 4) L ∧ vp_in (x3 + 5) L) (kk : ∀ (H : Heap) (C R : Mem), Lw D cs ad ad' A1 A2 s H C R → Rel C R → W p l e room_1 s m #[Value.ref b] below meth c H [] cells slots Q (F0 m 1182 ls [])) : W p l e room_1 s m #[Value.ref b] below meth c H [] cells slots Q (F0 m 248 ls []) := by
  have hx := F.1
  have hb := F.2.1
  obtain ⟨hP, hD, hP', hD', hS⟩ := hW
  have hbA : ¬ (fun q : Nat => s.heap.size ≤ q) b := Nat.not_le.mpr hbl
  obtain ⟨r, C', R', e1, e2, hrel'⟩ := op_undo hrel (xs (x3 + 1).toNatClampNeg)
  refine lv_aload_n hx hb dL_law_248 rfl (lv_at hl 2 rfl) ?_
  refine lv_aload_n hx hb dL_law_249 rfl (lv_at hl 3 rfl) ?_
  refine lv_iload_n hx hb dL_law_250 rfl (lv_at hl 0 rfl) ?_
  refine lv_iconst (v := 1) hx hb dL_law_251 (by decide) ?_
  refine lv_iadd hx hb dL_law_252 ?_
  refine va_sld hx hb hX hbl hbA hS hv.1 dL_law_253 ?_
  refine lx_i (z := (r, C')) hF.2.2.1 hS (lx_run (n := 1) (As := [.int (xs (x3 + 1).toNatClampNeg)]) (rest := []) (T := TX9) (N := 14) F hF.1 hF.2.1 hF.2.2.1 hP hD hS hcs (kX9_undo l D ad cs A1 C (xs (x3 + 1).toNatClampNeg) (r, C') e1) (gV (mT2 211 rfl rfl) (mT2 212 rfl rfl) (mT2 213 rfl rfl) (mT1 1 rfl rfl) (mT2 214 rfl rfl)) (by decide +kernel) ⟨(Nat.le_of_ble_eq_true rfl), (Nat.le_of_ble_eq_true rfl)⟩ kGC rfl rfl hl.1 rfl (Nat.le_of_ble_eq_true rfl) dL_law_254) (fun H hPn hDn hk hS => ?_)
  have hPc := hPn
  have hDc := hDn
  have hP' := lx_keep hk (fun k q hq hA => hF.2.2.2.2 q.1 hA (hD'.2 k q hq)) hP'
  refine lv_aload_n hx hb dL_law_257 rfl (lv_at hl 1 rfl) ?_
  refine lv_aload_n hx hb dL_law_258 rfl (lv_at hl 3 rfl) ?_
  refine lv_iload_n hx hb dL_law_259 rfl (lv_at hl 0 rfl) ?_
  refine lv_iconst (v := 1) hx hb dL_law_260 (by decide) ?_
  refine lv_iadd hx hb dL_law_261 ?_
  refine va_sld hx hb hX hbl hbA hS hv.1 dL_law_262 ?_
  refine lx_i (z := (r, R')) hF.2.2.2.1 hS (lx_run (n := 1) (As := [.int (xs (x3 + 1).toNatClampNeg)]) (rest := [.int r]) (T := TX10) (N := 42) F hF.1 hF.2.1 hF.2.2.2.1 hP' hD' hS hcs (kX10_undo l D ad' cs A2 R (xs (x3 + 1).toNatClampNeg) (r, R') e2) (gV (mT4 197 rfl rfl) (mT4 198 rfl rfl) (mT4 199 rfl rfl) (mT1 12 rfl rfl) (mT4 200 rfl rfl)) (by decide +kernel) ⟨(Nat.le_of_ble_eq_true rfl), (Nat.le_of_ble_eq_true rfl)⟩ kGM rfl rfl hl.1 rfl (Nat.le_of_ble_eq_true rfl) dL_law_263) (fun H hPn hDn hk hS => ?_)
  have hPc := lx_keep hk (fun k q hq hA => hF.2.2.2.2 q.1 (hDc.2 k q hq) hA) hPc
  refine lv_icmp_eq (tgt := 1182) hx hb dL_law_266 (by decide) (fun _ => ?_) (fun z => absurd rfl z)
  exact kk H C' R' ⟨hPc, hDc, hPn, hDn, hS⟩ hrel'
set_option maxHeartbeats 4000000 in
theorem lc_3 {p : Program} {l : Launch} {e : Env} {s : State} {m : MethodId} {below : List Frame} {meth : Method} {c : Code} {b L : Nat} {xs : Nat → Int32} {D : va_G} {cs : Nat → ClassId} {ad ad' : Nat → Nat} {A1 A2 : Nat → Prop} {cells slots : Nat} {Q : State → Prop} {H : Heap} {C R : Mem} {ls : Array Slot} {x3 : Int32} (F : CallFix p m c cL_law 4 s #[Value.ref b] TS RL) (hX : va_X b L xs s s.heap) (hbl : b < s.heap.size) (hcs : cells ≤ room_1.cells ∧ slots ≤ room_1.slots) (hF : Lf D cs A1 A2 s) (hW : Lw D cs ad ad' A1 A2 s H C R) (hrel : Rel C R) (hl : lv_has ls 4 [(3, .int x3), (2, .ref (ad' (cO GM 0))), (1, .ref (ad (cO GC 0))), (0, .ref b)]) (hv : vp_in (x3 + 1) L ∧ vp_in (x3 + 2) L ∧ vp_in (x3 + 3) L ∧ vp_in (x3 + 4) L ∧ vp_in (x3 + 5) L) (kk : ∀ (H : Heap) (C R : Mem), Lw D cs ad ad' A1 A2 s H C R → Rel C R → W p l e room_1 s m #[Value.ref b] below meth c H [] cells slots Q (F0 m 1182 ls [])) : W p l e room_1 s m #[Value.ref b] below meth c H [] cells slots Q (F0 m 271 ls []) := by
  have hx := F.1
  have hb := F.2.1
  obtain ⟨hP, hD, hP', hD', hS⟩ := hW
  have hbA : ¬ (fun q : Nat => s.heap.size ≤ q) b := Nat.not_le.mpr hbl
  obtain ⟨r, R', e1, e2, hrel'⟩ := op_fault hrel (xs (x3 + 1).toNatClampNeg)
  refine lv_aload_n hx hb dL_law_271 rfl (lv_at hl 2 rfl) ?_
  refine lv_aload_n hx hb dL_law_272 rfl (lv_at hl 3 rfl) ?_
  refine lv_iload_n hx hb dL_law_273 rfl (lv_at hl 0 rfl) ?_
  refine lv_iconst (v := 1) hx hb dL_law_274 (by decide) ?_
  refine lv_iadd hx hb dL_law_275 ?_
  refine va_sld hx hb hX hbl hbA hS hv.1 dL_law_276 ?_
  refine lx_i (z := (r, C)) hF.2.2.1 hS (lx_run (n := 1) (As := [.int (xs (x3 + 1).toNatClampNeg)]) (rest := []) (T := TX9) (N := 14) F hF.1 hF.2.1 hF.2.2.1 hP hD hS hcs (kX9_fault l D ad cs A1 C (xs (x3 + 1).toNatClampNeg) r e1) (gV (mT2 215 rfl rfl) (mT2 216 rfl rfl) (mT2 217 rfl rfl) (mT1 1 rfl rfl) (mT2 218 rfl rfl)) (by decide +kernel) ⟨(Nat.le_of_ble_eq_true rfl), (Nat.le_of_ble_eq_true rfl)⟩ kGC rfl rfl hl.1 rfl (Nat.le_of_ble_eq_true rfl) dL_law_277) (fun H hPn hDn hk hS => ?_)
  have hPc := hPn
  have hDc := hDn
  have hP' := lx_keep hk (fun k q hq hA => hF.2.2.2.2 q.1 hA (hD'.2 k q hq)) hP'
  refine lv_aload_n hx hb dL_law_280 rfl (lv_at hl 1 rfl) ?_
  refine lv_aload_n hx hb dL_law_281 rfl (lv_at hl 3 rfl) ?_
  refine lv_iload_n hx hb dL_law_282 rfl (lv_at hl 0 rfl) ?_
  refine lv_iconst (v := 1) hx hb dL_law_283 (by decide) ?_
  refine lv_iadd hx hb dL_law_284 ?_
  refine va_sld hx hb hX hbl hbA hS hv.1 dL_law_285 ?_
  refine lx_i (z := (r, R')) hF.2.2.2.1 hS (lx_run (n := 1) (As := [.int (xs (x3 + 1).toNatClampNeg)]) (rest := [.int r]) (T := TX10) (N := 42) F hF.1 hF.2.1 hF.2.2.2.1 hP' hD' hS hcs (kX10_fault l D ad' cs A2 R (xs (x3 + 1).toNatClampNeg) (r, R') e2) (gV (mT4 201 rfl rfl) (mT4 202 rfl rfl) (mT4 203 rfl rfl) (mT1 12 rfl rfl) (mT4 204 rfl rfl)) (by decide +kernel) ⟨(Nat.le_of_ble_eq_true rfl), (Nat.le_of_ble_eq_true rfl)⟩ kGM rfl rfl hl.1 rfl (Nat.le_of_ble_eq_true rfl) dL_law_286) (fun H hPn hDn hk hS => ?_)
  have hPc := lx_keep hk (fun k q hq hA => hF.2.2.2.2 q.1 (hDc.2 k q hq) hA) hPc
  refine lv_icmp_eq (tgt := 1182) hx hb dL_law_289 (by decide) (fun _ => ?_) (fun z => absurd rfl z)
  exact kk H C R' ⟨hPc, hDc, hPn, hDn, hS⟩ hrel'
set_option maxHeartbeats 4000000 in
theorem lc_4 {p : Program} {l : Launch} {e : Env} {s : State} {m : MethodId} {below : List Frame} {meth : Method} {c : Code} {b L : Nat} {xs : Nat → Int32} {D : va_G} {cs : Nat → ClassId} {ad ad' : Nat → Nat} {A1 A2 : Nat → Prop} {cells slots : Nat} {Q : State → Prop} {H : Heap} {C R : Mem} {ls : Array Slot} {x3 : Int32} (F : CallFix p m c cL_law 4 s #[Value.ref b] TS RL) (hX : va_X b L xs s s.heap) (hbl : b < s.heap.size) (hcs : cells ≤ room_1.cells ∧ slots ≤ room_1.slots) (hF : Lf D cs A1 A2 s) (hW : Lw D cs ad ad' A1 A2 s H C R) (hrel : Rel C R) (hl : lv_has ls 4 [(3, .int x3), (2, .ref (ad' (cO GM 0))), (1, .ref (ad (cO GC 0))), (0, .ref b)]) (hv : vp_in (x3 + 1) L ∧ vp_in (x3 + 2) L ∧ vp_in (x3 + 3) L ∧ vp_in (x3 + 4) L ∧ vp_in (x3 + 5) L) (kk : ∀ (H : Heap) (C R : Mem), Lw D cs ad ad' A1 A2 s H C R → Rel C R → W p l e room_1 s m #[Value.ref b] below meth c H [] cells slots Q (F0 m 1182 ls [])) : W p l e room_1 s m #[Value.ref b] below meth c H [] cells slots Q (F0 m 294 ls []) := by
  have hx := F.1
  have hb := F.2.1
  obtain ⟨hP, hD, hP', hD', hS⟩ := hW
  have hbA : ¬ (fun q : Nat => s.heap.size ≤ q) b := Nat.not_le.mpr hbl
  obtain ⟨r, R', e1, e2, hrel'⟩ := op_heir hrel (xs (x3 + 1).toNatClampNeg) (xs (x3 + 2).toNatClampNeg)
  refine lv_aload_n hx hb dL_law_294 rfl (lv_at hl 2 rfl) ?_
  refine lv_aload_n hx hb dL_law_295 rfl (lv_at hl 3 rfl) ?_
  refine lv_iload_n hx hb dL_law_296 rfl (lv_at hl 0 rfl) ?_
  refine lv_iconst (v := 1) hx hb dL_law_297 (by decide) ?_
  refine lv_iadd hx hb dL_law_298 ?_
  refine va_sld hx hb hX hbl hbA hS hv.1 dL_law_299 ?_
  refine lv_aload_n hx hb dL_law_300 rfl (lv_at hl 3 rfl) ?_
  refine lv_iload_n hx hb dL_law_301 rfl (lv_at hl 0 rfl) ?_
  refine lv_iconst (v := 2) hx hb dL_law_302 (by decide) ?_
  refine lv_iadd hx hb dL_law_303 ?_
  refine va_sld hx hb hX hbl hbA hS hv.2.1 dL_law_304 ?_
  refine lx_i (z := (r, C)) hF.2.2.1 hS (lx_run (n := 2) (As := [.int (xs (x3 + 1).toNatClampNeg), .int (xs (x3 + 2).toNatClampNeg)]) (rest := []) (T := TX9) (N := 14) F hF.1 hF.2.1 hF.2.2.1 hP hD hS hcs (kX9_heir l D ad cs A1 C (xs (x3 + 1).toNatClampNeg) (xs (x3 + 2).toNatClampNeg) r e1) (gV (mT2 221 rfl rfl) (mT2 222 rfl rfl) (mT2 223 rfl rfl) (mT1 1 rfl rfl) (mT2 224 rfl rfl)) (by decide +kernel) ⟨(Nat.le_of_ble_eq_true rfl), (Nat.le_of_ble_eq_true rfl)⟩ kGC rfl rfl hl.1 rfl (Nat.le_of_ble_eq_true rfl) dL_law_305) (fun H hPn hDn hk hS => ?_)
  have hPc := hPn
  have hDc := hDn
  have hP' := lx_keep hk (fun k q hq hA => hF.2.2.2.2 q.1 hA (hD'.2 k q hq)) hP'
  refine lv_aload_n hx hb dL_law_308 rfl (lv_at hl 1 rfl) ?_
  refine lv_aload_n hx hb dL_law_309 rfl (lv_at hl 3 rfl) ?_
  refine lv_iload_n hx hb dL_law_310 rfl (lv_at hl 0 rfl) ?_
  refine lv_iconst (v := 1) hx hb dL_law_311 (by decide) ?_
  refine lv_iadd hx hb dL_law_312 ?_
  refine va_sld hx hb hX hbl hbA hS hv.1 dL_law_313 ?_
  refine lv_aload_n hx hb dL_law_314 rfl (lv_at hl 3 rfl) ?_
  refine lv_iload_n hx hb dL_law_315 rfl (lv_at hl 0 rfl) ?_
  refine lv_iconst (v := 2) hx hb dL_law_316 (by decide) ?_
  refine lv_iadd hx hb dL_law_317 ?_
  refine va_sld hx hb hX hbl hbA hS hv.2.1 dL_law_318 ?_
  refine lx_i (z := (r, R')) hF.2.2.2.1 hS (lx_run (n := 2) (As := [.int (xs (x3 + 1).toNatClampNeg), .int (xs (x3 + 2).toNatClampNeg)]) (rest := [.int r]) (T := TX10) (N := 42) F hF.1 hF.2.1 hF.2.2.2.1 hP' hD' hS hcs (kX10_heir l D ad' cs A2 R (xs (x3 + 1).toNatClampNeg) (xs (x3 + 2).toNatClampNeg) (r, R') e2) (gV (mT4 225 rfl rfl) (mT4 226 rfl rfl) (mT4 227 rfl rfl) (mT1 12 rfl rfl) (mT4 228 rfl rfl)) (by decide +kernel) ⟨(Nat.le_of_ble_eq_true rfl), (Nat.le_of_ble_eq_true rfl)⟩ kGM rfl rfl hl.1 rfl (Nat.le_of_ble_eq_true rfl) dL_law_319) (fun H hPn hDn hk hS => ?_)
  have hPc := lx_keep hk (fun k q hq hA => hF.2.2.2.2 q.1 (hDc.2 k q hq) hA) hPc
  refine lv_icmp_eq (tgt := 1182) hx hb dL_law_322 (by decide) (fun _ => ?_) (fun z => absurd rfl z)
  exact kk H C R' ⟨hPc, hDc, hPn, hDn, hS⟩ hrel'
set_option maxHeartbeats 4000000 in
theorem lc_5 {p : Program} {l : Launch} {e : Env} {s : State} {m : MethodId} {below : List Frame} {meth : Method} {c : Code} {b L : Nat} {xs : Nat → Int32} {D : va_G} {cs : Nat → ClassId} {ad ad' : Nat → Nat} {A1 A2 : Nat → Prop} {cells slots : Nat} {Q : State → Prop} {H : Heap} {C R : Mem} {ls : Array Slot} {x3 : Int32} (F : CallFix p m c cL_law 4 s #[Value.ref b] TS RL) (hX : va_X b L xs s s.heap) (hbl : b < s.heap.size) (hcs : cells ≤ room_1.cells ∧ slots ≤ room_1.slots) (hF : Lf D cs A1 A2 s) (hW : Lw D cs ad ad' A1 A2 s H C R) (hrel : Rel C R) (hl : lv_has ls 4 [(3, .int x3), (2, .ref (ad' (cO GM 0))), (1, .ref (ad (cO GC 0))), (0, .ref b)]) (hv : vp_in (x3 + 1) L ∧ vp_in (x3 + 2) L ∧ vp_in (x3 + 3) L ∧ vp_in (x3 + 4) L ∧ vp_in (x3 + 5) L) (kk : ∀ (H : Heap) (C R : Mem), Lw D cs ad ad' A1 A2 s H C R → Rel C R → W p l e room_1 s m #[Value.ref b] below meth c H [] cells slots Q (F0 m 1182 ls [])) : W p l e room_1 s m #[Value.ref b] below meth c H [] cells slots Q (F0 m 327 ls []) := by
  have hx := F.1
  have hb := F.2.1
  obtain ⟨hP, hD, hP', hD', hS⟩ := hW
  have hbA : ¬ (fun q : Nat => s.heap.size ≤ q) b := Nat.not_le.mpr hbl
  obtain ⟨r, R', e1, e2, hrel'⟩ := op_round hrel (xs (x3 + 1).toNatClampNeg)
  refine lv_aload_n hx hb dL_law_327 rfl (lv_at hl 2 rfl) ?_
  refine lv_aload_n hx hb dL_law_328 rfl (lv_at hl 3 rfl) ?_
  refine lv_iload_n hx hb dL_law_329 rfl (lv_at hl 0 rfl) ?_
  refine lv_iconst (v := 1) hx hb dL_law_330 (by decide) ?_
  refine lv_iadd hx hb dL_law_331 ?_
  refine va_sld hx hb hX hbl hbA hS hv.1 dL_law_332 ?_
  refine lx_i (z := (r, C)) hF.2.2.1 hS (lx_run (n := 1) (As := [.int (xs (x3 + 1).toNatClampNeg)]) (rest := []) (T := TX9) (N := 14) F hF.1 hF.2.1 hF.2.2.1 hP hD hS hcs (kX9_round l D ad cs A1 C (xs (x3 + 1).toNatClampNeg) r e1) (gV (mT2 229 rfl rfl) (mT2 230 rfl rfl) (mT2 231 rfl rfl) (mT1 1 rfl rfl) (mT2 232 rfl rfl)) (by decide +kernel) ⟨(Nat.le_of_ble_eq_true rfl), (Nat.le_of_ble_eq_true rfl)⟩ kGC rfl rfl hl.1 rfl (Nat.le_of_ble_eq_true rfl) dL_law_333) (fun H hPn hDn hk hS => ?_)
  have hPc := hPn
  have hDc := hDn
  have hP' := lx_keep hk (fun k q hq hA => hF.2.2.2.2 q.1 hA (hD'.2 k q hq)) hP'
  refine lv_aload_n hx hb dL_law_336 rfl (lv_at hl 1 rfl) ?_
  refine lv_aload_n hx hb dL_law_337 rfl (lv_at hl 3 rfl) ?_
  refine lv_iload_n hx hb dL_law_338 rfl (lv_at hl 0 rfl) ?_
  refine lv_iconst (v := 1) hx hb dL_law_339 (by decide) ?_
  refine lv_iadd hx hb dL_law_340 ?_
  refine va_sld hx hb hX hbl hbA hS hv.1 dL_law_341 ?_
  refine lx_i (z := (r, R')) hF.2.2.2.1 hS (lx_run (n := 1) (As := [.int (xs (x3 + 1).toNatClampNeg)]) (rest := [.int r]) (T := TX10) (N := 42) F hF.1 hF.2.1 hF.2.2.2.1 hP' hD' hS hcs (kX10_round l D ad' cs A2 R (xs (x3 + 1).toNatClampNeg) (r, R') e2) (gV (mT5 1 rfl rfl) (mT5 2 rfl rfl) (mT5 3 rfl rfl) (mT1 12 rfl rfl) (mT5 4 rfl rfl)) (by decide +kernel) ⟨(Nat.le_of_ble_eq_true rfl), (Nat.le_of_ble_eq_true rfl)⟩ kGM rfl rfl hl.1 rfl (Nat.le_of_ble_eq_true rfl) dL_law_342) (fun H hPn hDn hk hS => ?_)
  have hPc := lx_keep hk (fun k q hq hA => hF.2.2.2.2 q.1 (hDc.2 k q hq) hA) hPc
  refine lv_icmp_eq (tgt := 1182) hx hb dL_law_345 (by decide) (fun _ => ?_) (fun z => absurd rfl z)
  exact kk H C R' ⟨hPc, hDc, hPn, hDn, hS⟩ hrel'
set_option maxHeartbeats 4000000 in
theorem lc_6 {p : Program} {l : Launch} {e : Env} {s : State} {m : MethodId} {below : List Frame} {meth : Method} {c : Code} {b L : Nat} {xs : Nat → Int32} {D : va_G} {cs : Nat → ClassId} {ad ad' : Nat → Nat} {A1 A2 : Nat → Prop} {cells slots : Nat} {Q : State → Prop} {H : Heap} {C R : Mem} {ls : Array Slot} {x3 : Int32} (F : CallFix p m c cL_law 4 s #[Value.ref b] TS RL) (hX : va_X b L xs s s.heap) (hbl : b < s.heap.size) (hcs : cells ≤ room_1.cells ∧ slots ≤ room_1.slots) (hF : Lf D cs A1 A2 s) (hW : Lw D cs ad ad' A1 A2 s H C R) (hrel : Rel C R) (hl : lv_has ls 4 [(3, .int x3), (2, .ref (ad' (cO GM 0))), (1, .ref (ad (cO GC 0))), (0, .ref b)]) (hv : vp_in (x3 + 1) L ∧ vp_in (x3 + 2) L ∧ vp_in (x3 + 3) L ∧ vp_in (x3 + 4) L ∧ vp_in (x3 + 5) L) (kk : ∀ (H : Heap) (C R : Mem), Lw D cs ad ad' A1 A2 s H C R → Rel C R → W p l e room_1 s m #[Value.ref b] below meth c H [] cells slots Q (F0 m 1182 ls [])) : W p l e room_1 s m #[Value.ref b] below meth c H [] cells slots Q (F0 m 350 ls []) := by
  have hx := F.1
  have hb := F.2.1
  obtain ⟨hP, hD, hP', hD', hS⟩ := hW
  have hbA : ¬ (fun q : Nat => s.heap.size ≤ q) b := Nat.not_le.mpr hbl
  obtain ⟨r, C', R', e1, e2, hrel'⟩ := op_set hrel (xs (x3 + 1).toNatClampNeg) (xs (x3 + 2).toNatClampNeg)
  refine lv_aload_n hx hb dL_law_350 rfl (lv_at hl 2 rfl) ?_
  refine lv_aload_n hx hb dL_law_351 rfl (lv_at hl 3 rfl) ?_
  refine lv_iload_n hx hb dL_law_352 rfl (lv_at hl 0 rfl) ?_
  refine lv_iconst (v := 1) hx hb dL_law_353 (by decide) ?_
  refine lv_iadd hx hb dL_law_354 ?_
  refine va_sld hx hb hX hbl hbA hS hv.1 dL_law_355 ?_
  refine lv_aload_n hx hb dL_law_356 rfl (lv_at hl 3 rfl) ?_
  refine lv_iload_n hx hb dL_law_357 rfl (lv_at hl 0 rfl) ?_
  refine lv_iconst (v := 2) hx hb dL_law_358 (by decide) ?_
  refine lv_iadd hx hb dL_law_359 ?_
  refine va_sld hx hb hX hbl hbA hS hv.2.1 dL_law_360 ?_
  refine lx_i (z := (r, C')) hF.2.2.1 hS (lx_run (n := 2) (As := [.int (xs (x3 + 1).toNatClampNeg), .int (xs (x3 + 2).toNatClampNeg)]) (rest := []) (T := TX9) (N := 14) F hF.1 hF.2.1 hF.2.2.1 hP hD hS hcs (kX9_set l D ad cs A1 C (xs (x3 + 1).toNatClampNeg) (xs (x3 + 2).toNatClampNeg) (r, C') e1) (gV (mT2 233 rfl rfl) (mT2 234 rfl rfl) (mT2 235 rfl rfl) (mT1 1 rfl rfl) (mT2 236 rfl rfl)) (by decide +kernel) ⟨(Nat.le_of_ble_eq_true rfl), (Nat.le_of_ble_eq_true rfl)⟩ kGC rfl rfl hl.1 rfl (Nat.le_of_ble_eq_true rfl) dL_law_361) (fun H hPn hDn hk hS => ?_)
  have hPc := hPn
  have hDc := hDn
  have hP' := lx_keep hk (fun k q hq hA => hF.2.2.2.2 q.1 hA (hD'.2 k q hq)) hP'
  refine lv_aload_n hx hb dL_law_364 rfl (lv_at hl 1 rfl) ?_
  refine lv_aload_n hx hb dL_law_365 rfl (lv_at hl 3 rfl) ?_
  refine lv_iload_n hx hb dL_law_366 rfl (lv_at hl 0 rfl) ?_
  refine lv_iconst (v := 1) hx hb dL_law_367 (by decide) ?_
  refine lv_iadd hx hb dL_law_368 ?_
  refine va_sld hx hb hX hbl hbA hS hv.1 dL_law_369 ?_
  refine lv_aload_n hx hb dL_law_370 rfl (lv_at hl 3 rfl) ?_
  refine lv_iload_n hx hb dL_law_371 rfl (lv_at hl 0 rfl) ?_
  refine lv_iconst (v := 2) hx hb dL_law_372 (by decide) ?_
  refine lv_iadd hx hb dL_law_373 ?_
  refine va_sld hx hb hX hbl hbA hS hv.2.1 dL_law_374 ?_
  refine lx_i (z := (r, R')) hF.2.2.2.1 hS (lx_run (n := 2) (As := [.int (xs (x3 + 1).toNatClampNeg), .int (xs (x3 + 2).toNatClampNeg)]) (rest := [.int r]) (T := TX10) (N := 42) F hF.1 hF.2.1 hF.2.2.2.1 hP' hD' hS hcs (kX10_set l D ad' cs A2 R (xs (x3 + 1).toNatClampNeg) (xs (x3 + 2).toNatClampNeg) (r, R') e2) (gV (mT5 12 rfl rfl) (mT5 13 rfl rfl) (mT5 14 rfl rfl) (mT1 12 rfl rfl) (mT5 15 rfl rfl)) (by decide +kernel) ⟨(Nat.le_of_ble_eq_true rfl), (Nat.le_of_ble_eq_true rfl)⟩ kGM rfl rfl hl.1 rfl (Nat.le_of_ble_eq_true rfl) dL_law_375) (fun H hPn hDn hk hS => ?_)
  have hPc := lx_keep hk (fun k q hq hA => hF.2.2.2.2 q.1 (hDc.2 k q hq) hA) hPc
  refine lv_icmp_eq (tgt := 1182) hx hb dL_law_378 (by decide) (fun _ => ?_) (fun z => absurd rfl z)
  exact kk H C' R' ⟨hPc, hDc, hPn, hDn, hS⟩ hrel'
set_option maxHeartbeats 4000000 in
theorem lc_7 {p : Program} {l : Launch} {e : Env} {s : State} {m : MethodId} {below : List Frame} {meth : Method} {c : Code} {b L : Nat} {xs : Nat → Int32} {D : va_G} {cs : Nat → ClassId} {ad ad' : Nat → Nat} {A1 A2 : Nat → Prop} {cells slots : Nat} {Q : State → Prop} {H : Heap} {C R : Mem} {ls : Array Slot} {x3 : Int32} (F : CallFix p m c cL_law 4 s #[Value.ref b] TS RL) (hX : va_X b L xs s s.heap) (hbl : b < s.heap.size) (hcs : cells ≤ room_1.cells ∧ slots ≤ room_1.slots) (hF : Lf D cs A1 A2 s) (hW : Lw D cs ad ad' A1 A2 s H C R) (hrel : Rel C R) (hl : lv_has ls 4 [(3, .int x3), (2, .ref (ad' (cO GM 0))), (1, .ref (ad (cO GC 0))), (0, .ref b)]) (hv : vp_in (x3 + 1) L ∧ vp_in (x3 + 2) L ∧ vp_in (x3 + 3) L ∧ vp_in (x3 + 4) L ∧ vp_in (x3 + 5) L) (kk : ∀ (H : Heap) (C R : Mem), Lw D cs ad ad' A1 A2 s H C R → Rel C R → W p l e room_1 s m #[Value.ref b] below meth c H [] cells slots Q (F0 m 1182 ls [])) : W p l e room_1 s m #[Value.ref b] below meth c H [] cells slots Q (F0 m 383 ls []) := by
  have hx := F.1
  have hb := F.2.1
  obtain ⟨hP, hD, hP', hD', hS⟩ := hW
  have hbA : ¬ (fun q : Nat => s.heap.size ≤ q) b := Nat.not_le.mpr hbl
  obtain ⟨r, C', R', e1, e2, hrel'⟩ := op_fly hrel (xs (x3 + 1).toNatClampNeg)
  refine lv_aload_n hx hb dL_law_383 rfl (lv_at hl 2 rfl) ?_
  refine lv_aload_n hx hb dL_law_384 rfl (lv_at hl 3 rfl) ?_
  refine lv_iload_n hx hb dL_law_385 rfl (lv_at hl 0 rfl) ?_
  refine lv_iconst (v := 1) hx hb dL_law_386 (by decide) ?_
  refine lv_iadd hx hb dL_law_387 ?_
  refine va_sld hx hb hX hbl hbA hS hv.1 dL_law_388 ?_
  refine lx_i (z := (r, C')) hF.2.2.1 hS (lx_run (n := 1) (As := [.int (xs (x3 + 1).toNatClampNeg)]) (rest := []) (T := TX9) (N := 14) F hF.1 hF.2.1 hF.2.2.1 hP hD hS hcs (kX9_fly l D ad cs A1 C (xs (x3 + 1).toNatClampNeg) (r, C') e1) (gV (mT2 239 rfl rfl) (mT3 0 rfl rfl) (mT3 1 rfl rfl) (mT1 1 rfl rfl) (mT3 2 rfl rfl)) (by decide +kernel) ⟨(Nat.le_of_ble_eq_true rfl), (Nat.le_of_ble_eq_true rfl)⟩ kGC rfl rfl hl.1 rfl (Nat.le_of_ble_eq_true rfl) dL_law_389) (fun H hPn hDn hk hS => ?_)
  have hPc := hPn
  have hDc := hDn
  have hP' := lx_keep hk (fun k q hq hA => hF.2.2.2.2 q.1 hA (hD'.2 k q hq)) hP'
  refine lv_aload_n hx hb dL_law_392 rfl (lv_at hl 1 rfl) ?_
  refine lv_aload_n hx hb dL_law_393 rfl (lv_at hl 3 rfl) ?_
  refine lv_iload_n hx hb dL_law_394 rfl (lv_at hl 0 rfl) ?_
  refine lv_iconst (v := 1) hx hb dL_law_395 (by decide) ?_
  refine lv_iadd hx hb dL_law_396 ?_
  refine va_sld hx hb hX hbl hbA hS hv.1 dL_law_397 ?_
  refine lx_i (z := (r, R')) hF.2.2.2.1 hS (lx_run (n := 1) (As := [.int (xs (x3 + 1).toNatClampNeg)]) (rest := [.int r]) (T := TX10) (N := 42) F hF.1 hF.2.1 hF.2.2.2.1 hP' hD' hS hcs (kX10_fly l D ad' cs A2 R (xs (x3 + 1).toNatClampNeg) (r, R') e2) (gV (mT5 16 rfl rfl) (mT5 17 rfl rfl) (mT5 18 rfl rfl) (mT1 12 rfl rfl) (mT5 19 rfl rfl)) (by decide +kernel) ⟨(Nat.le_of_ble_eq_true rfl), (Nat.le_of_ble_eq_true rfl)⟩ kGM rfl rfl hl.1 rfl (Nat.le_of_ble_eq_true rfl) dL_law_398) (fun H hPn hDn hk hS => ?_)
  have hPc := lx_keep hk (fun k q hq hA => hF.2.2.2.2 q.1 (hDc.2 k q hq) hA) hPc
  refine lv_icmp_eq (tgt := 1182) hx hb dL_law_401 (by decide) (fun _ => ?_) (fun z => absurd rfl z)
  exact kk H C' R' ⟨hPc, hDc, hPn, hDn, hS⟩ hrel'
set_option maxHeartbeats 4000000 in
theorem lc_8 {p : Program} {l : Launch} {e : Env} {s : State} {m : MethodId} {below : List Frame} {meth : Method} {c : Code} {b L : Nat} {xs : Nat → Int32} {D : va_G} {cs : Nat → ClassId} {ad ad' : Nat → Nat} {A1 A2 : Nat → Prop} {cells slots : Nat} {Q : State → Prop} {H : Heap} {C R : Mem} {ls : Array Slot} {x3 : Int32} (F : CallFix p m c cL_law 4 s #[Value.ref b] TS RL) (hX : va_X b L xs s s.heap) (hbl : b < s.heap.size) (hcs : cells ≤ room_1.cells ∧ slots ≤ room_1.slots) (hF : Lf D cs A1 A2 s) (hW : Lw D cs ad ad' A1 A2 s H C R) (hrel : Rel C R) (hl : lv_has ls 4 [(3, .int x3), (2, .ref (ad' (cO GM 0))), (1, .ref (ad (cO GC 0))), (0, .ref b)]) (hv : vp_in (x3 + 1) L ∧ vp_in (x3 + 2) L ∧ vp_in (x3 + 3) L ∧ vp_in (x3 + 4) L ∧ vp_in (x3 + 5) L) (kk : ∀ (H : Heap) (C R : Mem), Lw D cs ad ad' A1 A2 s H C R → Rel C R → W p l e room_1 s m #[Value.ref b] below meth c H [] cells slots Q (F0 m 1182 ls [])) : W p l e room_1 s m #[Value.ref b] below meth c H [] cells slots Q (F0 m 406 ls []) := by
  have hx := F.1
  have hb := F.2.1
  obtain ⟨hP, hD, hP', hD', hS⟩ := hW
  have hbA : ¬ (fun q : Nat => s.heap.size ≤ q) b := Nat.not_le.mpr hbl
  obtain ⟨r, C', R', e1, e2, hrel'⟩ := op_back hrel
  refine lv_aload_n hx hb dL_law_406 rfl (lv_at hl 2 rfl) ?_
  refine lx_i (z := (r, C')) hF.2.2.1 hS (lx_run (n := 0) (As := []) (rest := []) (T := TX9) (N := 14) F hF.1 hF.2.1 hF.2.2.1 hP hD hS hcs (kX9_back l D ad cs A1 C (r, C') e1) (gV (mT3 15 rfl rfl) (mT3 16 rfl rfl) (mT3 17 rfl rfl) (mT1 1 rfl rfl) (mT3 18 rfl rfl)) (by decide +kernel) ⟨(Nat.le_of_ble_eq_true rfl), (Nat.le_of_ble_eq_true rfl)⟩ kGC rfl rfl hl.1 rfl (Nat.le_of_ble_eq_true rfl) dL_law_407) (fun H hPn hDn hk hS => ?_)
  have hPc := hPn
  have hDc := hDn
  have hP' := lx_keep hk (fun k q hq hA => hF.2.2.2.2 q.1 hA (hD'.2 k q hq)) hP'
  refine lv_aload_n hx hb dL_law_410 rfl (lv_at hl 1 rfl) ?_
  refine lx_i (z := (r, R')) hF.2.2.2.1 hS (lx_run (n := 0) (As := []) (rest := [.int r]) (T := TX10) (N := 42) F hF.1 hF.2.1 hF.2.2.2.1 hP' hD' hS hcs (kX10_back l D ad' cs A2 R (r, R') e2) (gV (mT5 20 rfl rfl) (mT5 21 rfl rfl) (mT5 22 rfl rfl) (mT1 12 rfl rfl) (mT5 23 rfl rfl)) (by decide +kernel) ⟨(Nat.le_of_ble_eq_true rfl), (Nat.le_of_ble_eq_true rfl)⟩ kGM rfl rfl hl.1 rfl (Nat.le_of_ble_eq_true rfl) dL_law_411) (fun H hPn hDn hk hS => ?_)
  have hPc := lx_keep hk (fun k q hq hA => hF.2.2.2.2 q.1 (hDc.2 k q hq) hA) hPc
  refine lv_icmp_eq (tgt := 1182) hx hb dL_law_414 (by decide) (fun _ => ?_) (fun z => absurd rfl z)
  exact kk H C' R' ⟨hPc, hDc, hPn, hDn, hS⟩ hrel'
set_option maxHeartbeats 4000000 in
theorem lc_9 {p : Program} {l : Launch} {e : Env} {s : State} {m : MethodId} {below : List Frame} {meth : Method} {c : Code} {b L : Nat} {xs : Nat → Int32} {D : va_G} {cs : Nat → ClassId} {ad ad' : Nat → Nat} {A1 A2 : Nat → Prop} {cells slots : Nat} {Q : State → Prop} {H : Heap} {C R : Mem} {ls : Array Slot} {x3 : Int32} (F : CallFix p m c cL_law 4 s #[Value.ref b] TS RL) (hX : va_X b L xs s s.heap) (hbl : b < s.heap.size) (hcs : cells ≤ room_1.cells ∧ slots ≤ room_1.slots) (hF : Lf D cs A1 A2 s) (hW : Lw D cs ad ad' A1 A2 s H C R) (hrel : Rel C R) (hl : lv_has ls 4 [(3, .int x3), (2, .ref (ad' (cO GM 0))), (1, .ref (ad (cO GC 0))), (0, .ref b)]) (hv : vp_in (x3 + 1) L ∧ vp_in (x3 + 2) L ∧ vp_in (x3 + 3) L ∧ vp_in (x3 + 4) L ∧ vp_in (x3 + 5) L) (kk : ∀ (H : Heap) (C R : Mem), Lw D cs ad ad' A1 A2 s H C R → Rel C R → W p l e room_1 s m #[Value.ref b] below meth c H [] cells slots Q (F0 m 1182 ls [])) : W p l e room_1 s m #[Value.ref b] below meth c H [] cells slots Q (F0 m 419 ls []) := by
  have hx := F.1
  have hb := F.2.1
  obtain ⟨hP, hD, hP', hD', hS⟩ := hW
  have hbA : ¬ (fun q : Nat => s.heap.size ≤ q) b := Nat.not_le.mpr hbl
  obtain ⟨r, C', R', e1, e2, hrel'⟩ := op_read hrel (xs (x3 + 1).toNatClampNeg)
  refine lv_aload_n hx hb dL_law_419 rfl (lv_at hl 2 rfl) ?_
  refine lv_aload_n hx hb dL_law_420 rfl (lv_at hl 3 rfl) ?_
  refine lv_iload_n hx hb dL_law_421 rfl (lv_at hl 0 rfl) ?_
  refine lv_iconst (v := 1) hx hb dL_law_422 (by decide) ?_
  refine lv_iadd hx hb dL_law_423 ?_
  refine va_sld hx hb hX hbl hbA hS hv.1 dL_law_424 ?_
  refine lx_i (z := (r, C')) hF.2.2.1 hS (lx_run (n := 1) (As := [.int (xs (x3 + 1).toNatClampNeg)]) (rest := []) (T := TX9) (N := 14) F hF.1 hF.2.1 hF.2.2.1 hP hD hS hcs (kX9_read l D ad cs A1 C (xs (x3 + 1).toNatClampNeg) (r, C') e1) (gV (mT3 19 rfl rfl) (mT3 20 rfl rfl) (mT3 21 rfl rfl) (mT1 1 rfl rfl) (mT3 22 rfl rfl)) (by decide +kernel) ⟨(Nat.le_of_ble_eq_true rfl), (Nat.le_of_ble_eq_true rfl)⟩ kGC rfl rfl hl.1 rfl (Nat.le_of_ble_eq_true rfl) dL_law_425) (fun H hPn hDn hk hS => ?_)
  have hPc := hPn
  have hDc := hDn
  have hP' := lx_keep hk (fun k q hq hA => hF.2.2.2.2 q.1 hA (hD'.2 k q hq)) hP'
  refine lv_aload_n hx hb dL_law_428 rfl (lv_at hl 1 rfl) ?_
  refine lv_aload_n hx hb dL_law_429 rfl (lv_at hl 3 rfl) ?_
  refine lv_iload_n hx hb dL_law_430 rfl (lv_at hl 0 rfl) ?_
  refine lv_iconst (v := 1) hx hb dL_law_431 (by decide) ?_
  refine lv_iadd hx hb dL_law_432 ?_
  refine va_sld hx hb hX hbl hbA hS hv.1 dL_law_433 ?_
  refine lx_i (z := (r, R')) hF.2.2.2.1 hS (lx_run (n := 1) (As := [.int (xs (x3 + 1).toNatClampNeg)]) (rest := [.int r]) (T := TX10) (N := 42) F hF.1 hF.2.1 hF.2.2.2.1 hP' hD' hS hcs (kX10_read l D ad' cs A2 R (xs (x3 + 1).toNatClampNeg) (r, R') e2) (gV (mT5 24 rfl rfl) (mT5 25 rfl rfl) (mT5 26 rfl rfl) (mT1 12 rfl rfl) (mT5 27 rfl rfl)) (by decide +kernel) ⟨(Nat.le_of_ble_eq_true rfl), (Nat.le_of_ble_eq_true rfl)⟩ kGM rfl rfl hl.1 rfl (Nat.le_of_ble_eq_true rfl) dL_law_434) (fun H hPn hDn hk hS => ?_)
  have hPc := lx_keep hk (fun k q hq hA => hF.2.2.2.2 q.1 (hDc.2 k q hq) hA) hPc
  refine lv_icmp_eq (tgt := 1182) hx hb dL_law_437 (by decide) (fun _ => ?_) (fun z => absurd rfl z)
  exact kk H C' R' ⟨hPc, hDc, hPn, hDn, hS⟩ hrel'
set_option maxHeartbeats 4000000 in
theorem lc_10 {p : Program} {l : Launch} {e : Env} {s : State} {m : MethodId} {below : List Frame} {meth : Method} {c : Code} {b L : Nat} {xs : Nat → Int32} {D : va_G} {cs : Nat → ClassId} {ad ad' : Nat → Nat} {A1 A2 : Nat → Prop} {cells slots : Nat} {Q : State → Prop} {H : Heap} {C R : Mem} {ls : Array Slot} {x3 : Int32} (F : CallFix p m c cL_law 4 s #[Value.ref b] TS RL) (hX : va_X b L xs s s.heap) (hbl : b < s.heap.size) (hcs : cells ≤ room_1.cells ∧ slots ≤ room_1.slots) (hF : Lf D cs A1 A2 s) (hW : Lw D cs ad ad' A1 A2 s H C R) (hrel : Rel C R) (hl : lv_has ls 4 [(3, .int x3), (2, .ref (ad' (cO GM 0))), (1, .ref (ad (cO GC 0))), (0, .ref b)]) (hv : vp_in (x3 + 1) L ∧ vp_in (x3 + 2) L ∧ vp_in (x3 + 3) L ∧ vp_in (x3 + 4) L ∧ vp_in (x3 + 5) L) (kk : ∀ (H : Heap) (C R : Mem), Lw D cs ad ad' A1 A2 s H C R → Rel C R → W p l e room_1 s m #[Value.ref b] below meth c H [] cells slots Q (F0 m 1182 ls [])) : W p l e room_1 s m #[Value.ref b] below meth c H [] cells slots Q (F0 m 442 ls []) := by
  have hx := F.1
  have hb := F.2.1
  obtain ⟨hP, hD, hP', hD', hS⟩ := hW
  have hbA : ¬ (fun q : Nat => s.heap.size ≤ q) b := Nat.not_le.mpr hbl
  obtain ⟨r, R', e1, e2, hrel'⟩ := op_does hrel (xs (x3 + 1).toNatClampNeg) (xs (x3 + 2).toNatClampNeg)
  refine lv_aload_n hx hb dL_law_442 rfl (lv_at hl 2 rfl) ?_
  refine lv_aload_n hx hb dL_law_443 rfl (lv_at hl 3 rfl) ?_
  refine lv_iload_n hx hb dL_law_444 rfl (lv_at hl 0 rfl) ?_
  refine lv_iconst (v := 1) hx hb dL_law_445 (by decide) ?_
  refine lv_iadd hx hb dL_law_446 ?_
  refine va_sld hx hb hX hbl hbA hS hv.1 dL_law_447 ?_
  refine lv_aload_n hx hb dL_law_448 rfl (lv_at hl 3 rfl) ?_
  refine lv_iload_n hx hb dL_law_449 rfl (lv_at hl 0 rfl) ?_
  refine lv_iconst (v := 2) hx hb dL_law_450 (by decide) ?_
  refine lv_iadd hx hb dL_law_451 ?_
  refine va_sld hx hb hX hbl hbA hS hv.2.1 dL_law_452 ?_
  refine lx_i (z := (r, C)) hF.2.2.1 hS (lx_run (n := 2) (As := [.int (xs (x3 + 1).toNatClampNeg), .int (xs (x3 + 2).toNatClampNeg)]) (rest := []) (T := TX9) (N := 14) F hF.1 hF.2.1 hF.2.2.1 hP hD hS hcs (kX9_does l D ad cs A1 C (xs (x3 + 1).toNatClampNeg) (xs (x3 + 2).toNatClampNeg) r e1) (gV (mT3 34 rfl rfl) (mT3 35 rfl rfl) (mT3 36 rfl rfl) (mT1 1 rfl rfl) (mT3 37 rfl rfl)) (by decide +kernel) ⟨(Nat.le_of_ble_eq_true rfl), (Nat.le_of_ble_eq_true rfl)⟩ kGC rfl rfl hl.1 rfl (Nat.le_of_ble_eq_true rfl) dL_law_453) (fun H hPn hDn hk hS => ?_)
  have hPc := hPn
  have hDc := hDn
  have hP' := lx_keep hk (fun k q hq hA => hF.2.2.2.2 q.1 hA (hD'.2 k q hq)) hP'
  refine lv_aload_n hx hb dL_law_456 rfl (lv_at hl 1 rfl) ?_
  refine lv_aload_n hx hb dL_law_457 rfl (lv_at hl 3 rfl) ?_
  refine lv_iload_n hx hb dL_law_458 rfl (lv_at hl 0 rfl) ?_
  refine lv_iconst (v := 1) hx hb dL_law_459 (by decide) ?_
  refine lv_iadd hx hb dL_law_460 ?_
  refine va_sld hx hb hX hbl hbA hS hv.1 dL_law_461 ?_
  refine lv_aload_n hx hb dL_law_462 rfl (lv_at hl 3 rfl) ?_
  refine lv_iload_n hx hb dL_law_463 rfl (lv_at hl 0 rfl) ?_
  refine lv_iconst (v := 2) hx hb dL_law_464 (by decide) ?_
  refine lv_iadd hx hb dL_law_465 ?_
  refine va_sld hx hb hX hbl hbA hS hv.2.1 dL_law_466 ?_
  refine lx_i (z := (r, R')) hF.2.2.2.1 hS (lx_run (n := 2) (As := [.int (xs (x3 + 1).toNatClampNeg), .int (xs (x3 + 2).toNatClampNeg)]) (rest := [.int r]) (T := TX10) (N := 42) F hF.1 hF.2.1 hF.2.2.2.1 hP' hD' hS hcs (kX10_does l D ad' cs A2 R (xs (x3 + 1).toNatClampNeg) (xs (x3 + 2).toNatClampNeg) (r, R') e2) (gV (mT5 36 rfl rfl) (mT5 37 rfl rfl) (mT5 38 rfl rfl) (mT1 12 rfl rfl) (mT5 39 rfl rfl)) (by decide +kernel) ⟨(Nat.le_of_ble_eq_true rfl), (Nat.le_of_ble_eq_true rfl)⟩ kGM rfl rfl hl.1 rfl (Nat.le_of_ble_eq_true rfl) dL_law_467) (fun H hPn hDn hk hS => ?_)
  have hPc := lx_keep hk (fun k q hq hA => hF.2.2.2.2 q.1 (hDc.2 k q hq) hA) hPc
  refine lv_icmp_eq (tgt := 1182) hx hb dL_law_470 (by decide) (fun _ => ?_) (fun z => absurd rfl z)
  exact kk H C R' ⟨hPc, hDc, hPn, hDn, hS⟩ hrel'
set_option maxHeartbeats 4000000 in
theorem lc_11 {p : Program} {l : Launch} {e : Env} {s : State} {m : MethodId} {below : List Frame} {meth : Method} {c : Code} {b L : Nat} {xs : Nat → Int32} {D : va_G} {cs : Nat → ClassId} {ad ad' : Nat → Nat} {A1 A2 : Nat → Prop} {cells slots : Nat} {Q : State → Prop} {H : Heap} {C R : Mem} {ls : Array Slot} {x3 : Int32} (F : CallFix p m c cL_law 4 s #[Value.ref b] TS RL) (hX : va_X b L xs s s.heap) (hbl : b < s.heap.size) (hcs : cells ≤ room_1.cells ∧ slots ≤ room_1.slots) (hF : Lf D cs A1 A2 s) (hW : Lw D cs ad ad' A1 A2 s H C R) (hrel : Rel C R) (hl : lv_has ls 4 [(3, .int x3), (2, .ref (ad' (cO GM 0))), (1, .ref (ad (cO GC 0))), (0, .ref b)]) (hv : vp_in (x3 + 1) L ∧ vp_in (x3 + 2) L ∧ vp_in (x3 + 3) L ∧ vp_in (x3 + 4) L ∧ vp_in (x3 + 5) L) (kk : ∀ (H : Heap) (C R : Mem), Lw D cs ad ad' A1 A2 s H C R → Rel C R → W p l e room_1 s m #[Value.ref b] below meth c H [] cells slots Q (F0 m 1182 ls [])) : W p l e room_1 s m #[Value.ref b] below meth c H [] cells slots Q (F0 m 475 ls []) := by
  have hx := F.1
  have hb := F.2.1
  obtain ⟨hP, hD, hP', hD', hS⟩ := hW
  have hbA : ¬ (fun q : Nat => s.heap.size ≤ q) b := Nat.not_le.mpr hbl
  obtain ⟨r, R', e1, e2, hrel'⟩ := op_share hrel (xs (x3 + 1).toNatClampNeg) (xs (x3 + 2).toNatClampNeg) (xs (x3 + 3).toNatClampNeg)
  refine lv_aload_n hx hb dL_law_475 rfl (lv_at hl 2 rfl) ?_
  refine lv_aload_n hx hb dL_law_476 rfl (lv_at hl 3 rfl) ?_
  refine lv_iload_n hx hb dL_law_477 rfl (lv_at hl 0 rfl) ?_
  refine lv_iconst (v := 1) hx hb dL_law_478 (by decide) ?_
  refine lv_iadd hx hb dL_law_479 ?_
  refine va_sld hx hb hX hbl hbA hS hv.1 dL_law_480 ?_
  refine lv_aload_n hx hb dL_law_481 rfl (lv_at hl 3 rfl) ?_
  refine lv_iload_n hx hb dL_law_482 rfl (lv_at hl 0 rfl) ?_
  refine lv_iconst (v := 2) hx hb dL_law_483 (by decide) ?_
  refine lv_iadd hx hb dL_law_484 ?_
  refine va_sld hx hb hX hbl hbA hS hv.2.1 dL_law_485 ?_
  refine lv_aload_n hx hb dL_law_486 rfl (lv_at hl 3 rfl) ?_
  refine lv_iload_n hx hb dL_law_487 rfl (lv_at hl 0 rfl) ?_
  refine lv_iconst (v := 3) hx hb dL_law_488 (by decide) ?_
  refine lv_iadd hx hb dL_law_489 ?_
  refine va_sld hx hb hX hbl hbA hS hv.2.2.1 dL_law_490 ?_
  refine lx_i (z := (r, C)) hF.2.2.1 hS (lx_run (n := 3) (As := [.int (xs (x3 + 1).toNatClampNeg), .int (xs (x3 + 2).toNatClampNeg), .int (xs (x3 + 3).toNatClampNeg)]) (rest := []) (T := TX9) (N := 14) F hF.1 hF.2.1 hF.2.2.1 hP hD hS hcs (kX9_share l D ad cs A1 C (xs (x3 + 1).toNatClampNeg) (xs (x3 + 2).toNatClampNeg) (xs (x3 + 3).toNatClampNeg) r e1) (gV (mT3 38 rfl rfl) (mT3 39 rfl rfl) (mT3 40 rfl rfl) (mT1 1 rfl rfl) (mT3 41 rfl rfl)) (by decide +kernel) ⟨(Nat.le_of_ble_eq_true rfl), (Nat.le_of_ble_eq_true rfl)⟩ kGC rfl rfl hl.1 rfl (Nat.le_of_ble_eq_true rfl) dL_law_491) (fun H hPn hDn hk hS => ?_)
  have hPc := hPn
  have hDc := hDn
  have hP' := lx_keep hk (fun k q hq hA => hF.2.2.2.2 q.1 hA (hD'.2 k q hq)) hP'
  refine lv_aload_n hx hb dL_law_494 rfl (lv_at hl 1 rfl) ?_
  refine lv_aload_n hx hb dL_law_495 rfl (lv_at hl 3 rfl) ?_
  refine lv_iload_n hx hb dL_law_496 rfl (lv_at hl 0 rfl) ?_
  refine lv_iconst (v := 1) hx hb dL_law_497 (by decide) ?_
  refine lv_iadd hx hb dL_law_498 ?_
  refine va_sld hx hb hX hbl hbA hS hv.1 dL_law_499 ?_
  refine lv_aload_n hx hb dL_law_500 rfl (lv_at hl 3 rfl) ?_
  refine lv_iload_n hx hb dL_law_501 rfl (lv_at hl 0 rfl) ?_
  refine lv_iconst (v := 2) hx hb dL_law_502 (by decide) ?_
  refine lv_iadd hx hb dL_law_503 ?_
  refine va_sld hx hb hX hbl hbA hS hv.2.1 dL_law_504 ?_
  refine lv_aload_n hx hb dL_law_505 rfl (lv_at hl 3 rfl) ?_
  refine lv_iload_n hx hb dL_law_506 rfl (lv_at hl 0 rfl) ?_
  refine lv_iconst (v := 3) hx hb dL_law_507 (by decide) ?_
  refine lv_iadd hx hb dL_law_508 ?_
  refine va_sld hx hb hX hbl hbA hS hv.2.2.1 dL_law_509 ?_
  refine lx_i (z := (r, R')) hF.2.2.2.1 hS (lx_run (n := 3) (As := [.int (xs (x3 + 1).toNatClampNeg), .int (xs (x3 + 2).toNatClampNeg), .int (xs (x3 + 3).toNatClampNeg)]) (rest := [.int r]) (T := TX10) (N := 42) F hF.1 hF.2.1 hF.2.2.2.1 hP' hD' hS hcs (kX10_share l D ad' cs A2 R (xs (x3 + 1).toNatClampNeg) (xs (x3 + 2).toNatClampNeg) (xs (x3 + 3).toNatClampNeg) (r, R') e2) (gV (mT5 87 rfl rfl) (mT5 88 rfl rfl) (mT5 89 rfl rfl) (mT1 12 rfl rfl) (mT5 90 rfl rfl)) (by decide +kernel) ⟨(Nat.le_of_ble_eq_true rfl), (Nat.le_of_ble_eq_true rfl)⟩ kGM rfl rfl hl.1 rfl (Nat.le_of_ble_eq_true rfl) dL_law_510) (fun H hPn hDn hk hS => ?_)
  have hPc := lx_keep hk (fun k q hq hA => hF.2.2.2.2 q.1 (hDc.2 k q hq) hA) hPc
  refine lv_icmp_eq (tgt := 1182) hx hb dL_law_513 (by decide) (fun _ => ?_) (fun z => absurd rfl z)
  exact kk H C R' ⟨hPc, hDc, hPn, hDn, hS⟩ hrel'
set_option maxHeartbeats 4000000 in
theorem lc_12 {p : Program} {l : Launch} {e : Env} {s : State} {m : MethodId} {below : List Frame} {meth : Method} {c : Code} {b L : Nat} {xs : Nat → Int32} {D : va_G} {cs : Nat → ClassId} {ad ad' : Nat → Nat} {A1 A2 : Nat → Prop} {cells slots : Nat} {Q : State → Prop} {H : Heap} {C R : Mem} {ls : Array Slot} {x3 : Int32} (F : CallFix p m c cL_law 4 s #[Value.ref b] TS RL) (hX : va_X b L xs s s.heap) (hbl : b < s.heap.size) (hcs : cells ≤ room_1.cells ∧ slots ≤ room_1.slots) (hF : Lf D cs A1 A2 s) (hW : Lw D cs ad ad' A1 A2 s H C R) (hrel : Rel C R) (hl : lv_has ls 4 [(3, .int x3), (2, .ref (ad' (cO GM 0))), (1, .ref (ad (cO GC 0))), (0, .ref b)]) (hv : vp_in (x3 + 1) L ∧ vp_in (x3 + 2) L ∧ vp_in (x3 + 3) L ∧ vp_in (x3 + 4) L ∧ vp_in (x3 + 5) L) (kk : ∀ (H : Heap) (C R : Mem), Lw D cs ad ad' A1 A2 s H C R → Rel C R → W p l e room_1 s m #[Value.ref b] below meth c H [] cells slots Q (F0 m 1182 ls [])) : W p l e room_1 s m #[Value.ref b] below meth c H [] cells slots Q (F0 m 518 ls []) := by
  have hx := F.1
  have hb := F.2.1
  obtain ⟨hP, hD, hP', hD', hS⟩ := hW
  have hbA : ¬ (fun q : Nat => s.heap.size ≤ q) b := Nat.not_le.mpr hbl
  obtain ⟨r, R', e1, e2, hrel'⟩ := op_out hrel
  refine lv_aload_n hx hb dL_law_518 rfl (lv_at hl 2 rfl) ?_
  refine lx_i (z := (r, C)) hF.2.2.1 hS (lx_run (n := 0) (As := []) (rest := []) (T := TX9) (N := 14) F hF.1 hF.2.1 hF.2.2.1 hP hD hS hcs (kX9_out l D ad cs A1 C r e1) (gV (mT3 42 rfl rfl) (mT3 43 rfl rfl) (mT3 44 rfl rfl) (mT1 1 rfl rfl) (mT3 45 rfl rfl)) (by decide +kernel) ⟨(Nat.le_of_ble_eq_true rfl), (Nat.le_of_ble_eq_true rfl)⟩ kGC rfl rfl hl.1 rfl (Nat.le_of_ble_eq_true rfl) dL_law_519) (fun H hPn hDn hk hS => ?_)
  have hPc := hPn
  have hDc := hDn
  have hP' := lx_keep hk (fun k q hq hA => hF.2.2.2.2 q.1 hA (hD'.2 k q hq)) hP'
  refine lv_aload_n hx hb dL_law_522 rfl (lv_at hl 1 rfl) ?_
  refine lx_i (z := (r, R')) hF.2.2.2.1 hS (lx_run (n := 0) (As := []) (rest := [.int r]) (T := TX10) (N := 42) F hF.1 hF.2.1 hF.2.2.2.1 hP' hD' hS hcs (kX10_out l D ad' cs A2 R (r, R') e2) (gV (mT5 95 rfl rfl) (mT5 96 rfl rfl) (mT5 97 rfl rfl) (mT1 12 rfl rfl) (mT5 98 rfl rfl)) (by decide +kernel) ⟨(Nat.le_of_ble_eq_true rfl), (Nat.le_of_ble_eq_true rfl)⟩ kGM rfl rfl hl.1 rfl (Nat.le_of_ble_eq_true rfl) dL_law_523) (fun H hPn hDn hk hS => ?_)
  have hPc := lx_keep hk (fun k q hq hA => hF.2.2.2.2 q.1 (hDc.2 k q hq) hA) hPc
  refine lv_icmp_eq (tgt := 1182) hx hb dL_law_526 (by decide) (fun _ => ?_) (fun z => absurd rfl z)
  exact kk H C R' ⟨hPc, hDc, hPn, hDn, hS⟩ hrel'
set_option maxHeartbeats 4000000 in
theorem lc_13 {p : Program} {l : Launch} {e : Env} {s : State} {m : MethodId} {below : List Frame} {meth : Method} {c : Code} {b L : Nat} {xs : Nat → Int32} {D : va_G} {cs : Nat → ClassId} {ad ad' : Nat → Nat} {A1 A2 : Nat → Prop} {cells slots : Nat} {Q : State → Prop} {H : Heap} {C R : Mem} {ls : Array Slot} {x3 : Int32} (F : CallFix p m c cL_law 4 s #[Value.ref b] TS RL) (hX : va_X b L xs s s.heap) (hbl : b < s.heap.size) (hcs : cells ≤ room_1.cells ∧ slots ≤ room_1.slots) (hF : Lf D cs A1 A2 s) (hW : Lw D cs ad ad' A1 A2 s H C R) (hrel : Rel C R) (hl : lv_has ls 4 [(3, .int x3), (2, .ref (ad' (cO GM 0))), (1, .ref (ad (cO GC 0))), (0, .ref b)]) (hv : vp_in (x3 + 1) L ∧ vp_in (x3 + 2) L ∧ vp_in (x3 + 3) L ∧ vp_in (x3 + 4) L ∧ vp_in (x3 + 5) L) (kk : ∀ (H : Heap) (C R : Mem), Lw D cs ad ad' A1 A2 s H C R → Rel C R → W p l e room_1 s m #[Value.ref b] below meth c H [] cells slots Q (F0 m 1182 ls [])) : W p l e room_1 s m #[Value.ref b] below meth c H [] cells slots Q (F0 m 531 ls []) := by
  have hx := F.1
  have hb := F.2.1
  obtain ⟨hP, hD, hP', hD', hS⟩ := hW
  have hbA : ¬ (fun q : Nat => s.heap.size ≤ q) b := Nat.not_le.mpr hbl
  obtain ⟨r, R', e1, e2, hrel'⟩ := op_estate hrel
  refine lv_aload_n hx hb dL_law_531 rfl (lv_at hl 2 rfl) ?_
  refine lx_i (z := (r, C)) hF.2.2.1 hS (lx_run (n := 0) (As := []) (rest := []) (T := TX9) (N := 14) F hF.1 hF.2.1 hF.2.2.1 hP hD hS hcs (kX9_estate l D ad cs A1 C r e1) (gV (mT3 46 rfl rfl) (mT3 47 rfl rfl) (mT3 48 rfl rfl) (mT1 1 rfl rfl) (mT3 49 rfl rfl)) (by decide +kernel) ⟨(Nat.le_of_ble_eq_true rfl), (Nat.le_of_ble_eq_true rfl)⟩ kGC rfl rfl hl.1 rfl (Nat.le_of_ble_eq_true rfl) dL_law_532) (fun H hPn hDn hk hS => ?_)
  have hPc := hPn
  have hDc := hDn
  have hP' := lx_keep hk (fun k q hq hA => hF.2.2.2.2 q.1 hA (hD'.2 k q hq)) hP'
  refine lv_aload_n hx hb dL_law_535 rfl (lv_at hl 1 rfl) ?_
  refine lx_i (z := (r, R')) hF.2.2.2.1 hS (lx_run (n := 0) (As := []) (rest := [.int r]) (T := TX10) (N := 42) F hF.1 hF.2.1 hF.2.2.2.1 hP' hD' hS hcs (kX10_estate l D ad' cs A2 R (r, R') e2) (gV (mT5 103 rfl rfl) (mT5 104 rfl rfl) (mT5 105 rfl rfl) (mT1 12 rfl rfl) (mT5 106 rfl rfl)) (by decide +kernel) ⟨(Nat.le_of_ble_eq_true rfl), (Nat.le_of_ble_eq_true rfl)⟩ kGM rfl rfl hl.1 rfl (Nat.le_of_ble_eq_true rfl) dL_law_536) (fun H hPn hDn hk hS => ?_)
  have hPc := lx_keep hk (fun k q hq hA => hF.2.2.2.2 q.1 (hDc.2 k q hq) hA) hPc
  refine lv_icmp_eq (tgt := 1182) hx hb dL_law_539 (by decide) (fun _ => ?_) (fun z => absurd rfl z)
  exact kk H C R' ⟨hPc, hDc, hPn, hDn, hS⟩ hrel'
set_option maxHeartbeats 4000000 in
theorem lc_14 {p : Program} {l : Launch} {e : Env} {s : State} {m : MethodId} {below : List Frame} {meth : Method} {c : Code} {b L : Nat} {xs : Nat → Int32} {D : va_G} {cs : Nat → ClassId} {ad ad' : Nat → Nat} {A1 A2 : Nat → Prop} {cells slots : Nat} {Q : State → Prop} {H : Heap} {C R : Mem} {ls : Array Slot} {x3 : Int32} (F : CallFix p m c cL_law 4 s #[Value.ref b] TS RL) (hX : va_X b L xs s s.heap) (hbl : b < s.heap.size) (hcs : cells ≤ room_1.cells ∧ slots ≤ room_1.slots) (hF : Lf D cs A1 A2 s) (hW : Lw D cs ad ad' A1 A2 s H C R) (hrel : Rel C R) (hl : lv_has ls 4 [(3, .int x3), (2, .ref (ad' (cO GM 0))), (1, .ref (ad (cO GC 0))), (0, .ref b)]) (hv : vp_in (x3 + 1) L ∧ vp_in (x3 + 2) L ∧ vp_in (x3 + 3) L ∧ vp_in (x3 + 4) L ∧ vp_in (x3 + 5) L) (kk : ∀ (H : Heap) (C R : Mem), Lw D cs ad ad' A1 A2 s H C R → Rel C R → W p l e room_1 s m #[Value.ref b] below meth c H [] cells slots Q (F0 m 1182 ls [])) : W p l e room_1 s m #[Value.ref b] below meth c H [] cells slots Q (F0 m 544 ls []) := by
  have hx := F.1
  have hb := F.2.1
  obtain ⟨hP, hD, hP', hD', hS⟩ := hW
  have hbA : ¬ (fun q : Nat => s.heap.size ≤ q) b := Nat.not_le.mpr hbl
  obtain ⟨r, R', e1, e2, hrel'⟩ := op_richest hrel
  refine lv_aload_n hx hb dL_law_544 rfl (lv_at hl 2 rfl) ?_
  refine lx_i (z := (r, C)) hF.2.2.1 hS (lx_run (n := 0) (As := []) (rest := []) (T := TX9) (N := 14) F hF.1 hF.2.1 hF.2.2.1 hP hD hS hcs (kX9_richest l D ad cs A1 C r e1) (gV (mT3 54 rfl rfl) (mT3 55 rfl rfl) (mT3 56 rfl rfl) (mT1 1 rfl rfl) (mT3 57 rfl rfl)) (by decide +kernel) ⟨(Nat.le_of_ble_eq_true rfl), (Nat.le_of_ble_eq_true rfl)⟩ kGC rfl rfl hl.1 rfl (Nat.le_of_ble_eq_true rfl) dL_law_545) (fun H hPn hDn hk hS => ?_)
  have hPc := hPn
  have hDc := hDn
  have hP' := lx_keep hk (fun k q hq hA => hF.2.2.2.2 q.1 hA (hD'.2 k q hq)) hP'
  refine lv_aload_n hx hb dL_law_548 rfl (lv_at hl 1 rfl) ?_
  refine lx_i (z := (r, R')) hF.2.2.2.1 hS (lx_run (n := 0) (As := []) (rest := [.int r]) (T := TX10) (N := 42) F hF.1 hF.2.1 hF.2.2.2.1 hP' hD' hS hcs (kX10_richest l D ad' cs A2 R (r, R') e2) (gV (mT5 115 rfl rfl) (mT5 116 rfl rfl) (mT5 117 rfl rfl) (mT1 12 rfl rfl) (mT5 118 rfl rfl)) (by decide +kernel) ⟨(Nat.le_of_ble_eq_true rfl), (Nat.le_of_ble_eq_true rfl)⟩ kGM rfl rfl hl.1 rfl (Nat.le_of_ble_eq_true rfl) dL_law_549) (fun H hPn hDn hk hS => ?_)
  have hPc := lx_keep hk (fun k q hq hA => hF.2.2.2.2 q.1 (hDc.2 k q hq) hA) hPc
  refine lv_icmp_eq (tgt := 1182) hx hb dL_law_552 (by decide) (fun _ => ?_) (fun z => absurd rfl z)
  exact kk H C R' ⟨hPc, hDc, hPn, hDn, hS⟩ hrel'
set_option maxHeartbeats 4000000 in
theorem lc_15 {p : Program} {l : Launch} {e : Env} {s : State} {m : MethodId} {below : List Frame} {meth : Method} {c : Code} {b L : Nat} {xs : Nat → Int32} {D : va_G} {cs : Nat → ClassId} {ad ad' : Nat → Nat} {A1 A2 : Nat → Prop} {cells slots : Nat} {Q : State → Prop} {H : Heap} {C R : Mem} {ls : Array Slot} {x3 : Int32} (F : CallFix p m c cL_law 4 s #[Value.ref b] TS RL) (hX : va_X b L xs s s.heap) (hbl : b < s.heap.size) (hcs : cells ≤ room_1.cells ∧ slots ≤ room_1.slots) (hF : Lf D cs A1 A2 s) (hW : Lw D cs ad ad' A1 A2 s H C R) (hrel : Rel C R) (hl : lv_has ls 4 [(3, .int x3), (2, .ref (ad' (cO GM 0))), (1, .ref (ad (cO GC 0))), (0, .ref b)]) (hv : vp_in (x3 + 1) L ∧ vp_in (x3 + 2) L ∧ vp_in (x3 + 3) L ∧ vp_in (x3 + 4) L ∧ vp_in (x3 + 5) L) (kk : ∀ (H : Heap) (C R : Mem), Lw D cs ad ad' A1 A2 s H C R → Rel C R → W p l e room_1 s m #[Value.ref b] below meth c H [] cells slots Q (F0 m 1182 ls [])) : W p l e room_1 s m #[Value.ref b] below meth c H [] cells slots Q (F0 m 557 ls []) := by
  have hx := F.1
  have hb := F.2.1
  obtain ⟨hP, hD, hP', hD', hS⟩ := hW
  have hbA : ¬ (fun q : Nat => s.heap.size ≤ q) b := Nat.not_le.mpr hbl
  obtain ⟨r, R', e1, e2, hrel'⟩ := op_longest hrel
  refine lv_aload_n hx hb dL_law_557 rfl (lv_at hl 2 rfl) ?_
  refine lx_i (z := (r, C)) hF.2.2.1 hS (lx_run (n := 0) (As := []) (rest := []) (T := TX9) (N := 14) F hF.1 hF.2.1 hF.2.2.1 hP hD hS hcs (kX9_longest l D ad cs A1 C r e1) (gV (mT3 62 rfl rfl) (mT3 63 rfl rfl) (mT3 64 rfl rfl) (mT1 1 rfl rfl) (mT3 65 rfl rfl)) (by decide +kernel) ⟨(Nat.le_of_ble_eq_true rfl), (Nat.le_of_ble_eq_true rfl)⟩ kGC rfl rfl hl.1 rfl (Nat.le_of_ble_eq_true rfl) dL_law_558) (fun H hPn hDn hk hS => ?_)
  have hPc := hPn
  have hDc := hDn
  have hP' := lx_keep hk (fun k q hq hA => hF.2.2.2.2 q.1 hA (hD'.2 k q hq)) hP'
  refine lv_aload_n hx hb dL_law_561 rfl (lv_at hl 1 rfl) ?_
  refine lx_i (z := (r, R')) hF.2.2.2.1 hS (lx_run (n := 0) (As := []) (rest := [.int r]) (T := TX10) (N := 42) F hF.1 hF.2.1 hF.2.2.2.1 hP' hD' hS hcs (kX10_longest l D ad' cs A2 R (r, R') e2) (gV (mT5 127 rfl rfl) (mT5 128 rfl rfl) (mT5 129 rfl rfl) (mT1 12 rfl rfl) (mT5 130 rfl rfl)) (by decide +kernel) ⟨(Nat.le_of_ble_eq_true rfl), (Nat.le_of_ble_eq_true rfl)⟩ kGM rfl rfl hl.1 rfl (Nat.le_of_ble_eq_true rfl) dL_law_562) (fun H hPn hDn hk hS => ?_)
  have hPc := lx_keep hk (fun k q hq hA => hF.2.2.2.2 q.1 (hDc.2 k q hq) hA) hPc
  refine lv_icmp_eq (tgt := 1182) hx hb dL_law_565 (by decide) (fun _ => ?_) (fun z => absurd rfl z)
  exact kk H C R' ⟨hPc, hDc, hPn, hDn, hS⟩ hrel'
set_option maxHeartbeats 4000000 in
theorem lc_16 {p : Program} {l : Launch} {e : Env} {s : State} {m : MethodId} {below : List Frame} {meth : Method} {c : Code} {b L : Nat} {xs : Nat → Int32} {D : va_G} {cs : Nat → ClassId} {ad ad' : Nat → Nat} {A1 A2 : Nat → Prop} {cells slots : Nat} {Q : State → Prop} {H : Heap} {C R : Mem} {ls : Array Slot} {x3 : Int32} (F : CallFix p m c cL_law 4 s #[Value.ref b] TS RL) (hX : va_X b L xs s s.heap) (hbl : b < s.heap.size) (hcs : cells ≤ room_1.cells ∧ slots ≤ room_1.slots) (hF : Lf D cs A1 A2 s) (hW : Lw D cs ad ad' A1 A2 s H C R) (hrel : Rel C R) (hl : lv_has ls 4 [(3, .int x3), (2, .ref (ad' (cO GM 0))), (1, .ref (ad (cO GC 0))), (0, .ref b)]) (hv : vp_in (x3 + 1) L ∧ vp_in (x3 + 2) L ∧ vp_in (x3 + 3) L ∧ vp_in (x3 + 4) L ∧ vp_in (x3 + 5) L) (kk : ∀ (H : Heap) (C R : Mem), Lw D cs ad ad' A1 A2 s H C R → Rel C R → W p l e room_1 s m #[Value.ref b] below meth c H [] cells slots Q (F0 m 1182 ls [])) : W p l e room_1 s m #[Value.ref b] below meth c H [] cells slots Q (F0 m 570 ls []) := by
  have hx := F.1
  have hb := F.2.1
  obtain ⟨hP, hD, hP', hD', hS⟩ := hW
  have hbA : ¬ (fun q : Nat => s.heap.size ≤ q) b := Nat.not_le.mpr hbl
  obtain ⟨r, R', e1, e2, hrel'⟩ := op_ditch hrel
  refine lv_aload_n hx hb dL_law_570 rfl (lv_at hl 2 rfl) ?_
  refine lx_i (z := (r, C)) hF.2.2.1 hS (lx_run (n := 0) (As := []) (rest := []) (T := TX9) (N := 14) F hF.1 hF.2.1 hF.2.2.1 hP hD hS hcs (kX9_ditch l D ad cs A1 C r e1) (gV (mT3 66 rfl rfl) (mT3 67 rfl rfl) (mT3 68 rfl rfl) (mT1 1 rfl rfl) (mT3 69 rfl rfl)) (by decide +kernel) ⟨(Nat.le_of_ble_eq_true rfl), (Nat.le_of_ble_eq_true rfl)⟩ kGC rfl rfl hl.1 rfl (Nat.le_of_ble_eq_true rfl) dL_law_571) (fun H hPn hDn hk hS => ?_)
  have hPc := hPn
  have hDc := hDn
  have hP' := lx_keep hk (fun k q hq hA => hF.2.2.2.2 q.1 hA (hD'.2 k q hq)) hP'
  refine lv_aload_n hx hb dL_law_574 rfl (lv_at hl 1 rfl) ?_
  refine lx_i (z := (r, R')) hF.2.2.2.1 hS (lx_run (n := 0) (As := []) (rest := [.int r]) (T := TX10) (N := 42) F hF.1 hF.2.1 hF.2.2.2.1 hP' hD' hS hcs (kX10_ditch l D ad' cs A2 R (r, R') e2) (gV (mT5 135 rfl rfl) (mT5 136 rfl rfl) (mT5 137 rfl rfl) (mT1 12 rfl rfl) (mT5 138 rfl rfl)) (by decide +kernel) ⟨(Nat.le_of_ble_eq_true rfl), (Nat.le_of_ble_eq_true rfl)⟩ kGM rfl rfl hl.1 rfl (Nat.le_of_ble_eq_true rfl) dL_law_575) (fun H hPn hDn hk hS => ?_)
  have hPc := lx_keep hk (fun k q hq hA => hF.2.2.2.2 q.1 (hDc.2 k q hq) hA) hPc
  refine lv_icmp_eq (tgt := 1182) hx hb dL_law_578 (by decide) (fun _ => ?_) (fun z => absurd rfl z)
  exact kk H C R' ⟨hPc, hDc, hPn, hDn, hS⟩ hrel'
set_option maxHeartbeats 4000000 in
theorem lc_17 {p : Program} {l : Launch} {e : Env} {s : State} {m : MethodId} {below : List Frame} {meth : Method} {c : Code} {b L : Nat} {xs : Nat → Int32} {D : va_G} {cs : Nat → ClassId} {ad ad' : Nat → Nat} {A1 A2 : Nat → Prop} {cells slots : Nat} {Q : State → Prop} {H : Heap} {C R : Mem} {ls : Array Slot} {x3 : Int32} (F : CallFix p m c cL_law 4 s #[Value.ref b] TS RL) (hX : va_X b L xs s s.heap) (hbl : b < s.heap.size) (hcs : cells ≤ room_1.cells ∧ slots ≤ room_1.slots) (hF : Lf D cs A1 A2 s) (hW : Lw D cs ad ad' A1 A2 s H C R) (hrel : Rel C R) (hl : lv_has ls 4 [(3, .int x3), (2, .ref (ad' (cO GM 0))), (1, .ref (ad (cO GC 0))), (0, .ref b)]) (hv : vp_in (x3 + 1) L ∧ vp_in (x3 + 2) L ∧ vp_in (x3 + 3) L ∧ vp_in (x3 + 4) L ∧ vp_in (x3 + 5) L) (kk : ∀ (H : Heap) (C R : Mem), Lw D cs ad ad' A1 A2 s H C R → Rel C R → W p l e room_1 s m #[Value.ref b] below meth c H [] cells slots Q (F0 m 1182 ls [])) : W p l e room_1 s m #[Value.ref b] below meth c H [] cells slots Q (F0 m 583 ls []) := by
  have hx := F.1
  have hb := F.2.1
  obtain ⟨hP, hD, hP', hD', hS⟩ := hW
  have hbA : ¬ (fun q : Nat => s.heap.size ≤ q) b := Nat.not_le.mpr hbl
  obtain ⟨r, C', R', e1, e2, hrel'⟩ := op_bait hrel (xs (x3 + 1).toNatClampNeg)
  refine lv_aload_n hx hb dL_law_583 rfl (lv_at hl 2 rfl) ?_
  refine lv_aload_n hx hb dL_law_584 rfl (lv_at hl 3 rfl) ?_
  refine lv_iload_n hx hb dL_law_585 rfl (lv_at hl 0 rfl) ?_
  refine lv_iconst (v := 1) hx hb dL_law_586 (by decide) ?_
  refine lv_iadd hx hb dL_law_587 ?_
  refine va_sld hx hb hX hbl hbA hS hv.1 dL_law_588 ?_
  refine lx_i (z := (r, C')) hF.2.2.1 hS (lx_run (n := 1) (As := [.int (xs (x3 + 1).toNatClampNeg)]) (rest := []) (T := TX9) (N := 14) F hF.1 hF.2.1 hF.2.2.1 hP hD hS hcs (kX9_bait l D ad cs A1 C (xs (x3 + 1).toNatClampNeg) (r, C') e1) (gV (mT3 70 rfl rfl) (mT3 71 rfl rfl) (mT3 72 rfl rfl) (mT1 1 rfl rfl) (mT3 73 rfl rfl)) (by decide +kernel) ⟨(Nat.le_of_ble_eq_true rfl), (Nat.le_of_ble_eq_true rfl)⟩ kGC rfl rfl hl.1 rfl (Nat.le_of_ble_eq_true rfl) dL_law_589) (fun H hPn hDn hk hS => ?_)
  have hPc := hPn
  have hDc := hDn
  have hP' := lx_keep hk (fun k q hq hA => hF.2.2.2.2 q.1 hA (hD'.2 k q hq)) hP'
  refine lv_aload_n hx hb dL_law_592 rfl (lv_at hl 1 rfl) ?_
  refine lv_aload_n hx hb dL_law_593 rfl (lv_at hl 3 rfl) ?_
  refine lv_iload_n hx hb dL_law_594 rfl (lv_at hl 0 rfl) ?_
  refine lv_iconst (v := 1) hx hb dL_law_595 (by decide) ?_
  refine lv_iadd hx hb dL_law_596 ?_
  refine va_sld hx hb hX hbl hbA hS hv.1 dL_law_597 ?_
  refine lx_i (z := (r, R')) hF.2.2.2.1 hS (lx_run (n := 1) (As := [.int (xs (x3 + 1).toNatClampNeg)]) (rest := [.int r]) (T := TX10) (N := 42) F hF.1 hF.2.1 hF.2.2.2.1 hP' hD' hS hcs (kX10_bait l D ad' cs A2 R (xs (x3 + 1).toNatClampNeg) (r, R') e2) (gV (mT5 143 rfl rfl) (mT5 144 rfl rfl) (mT5 145 rfl rfl) (mT1 12 rfl rfl) (mT5 146 rfl rfl)) (by decide +kernel) ⟨(Nat.le_of_ble_eq_true rfl), (Nat.le_of_ble_eq_true rfl)⟩ kGM rfl rfl hl.1 rfl (Nat.le_of_ble_eq_true rfl) dL_law_598) (fun H hPn hDn hk hS => ?_)
  have hPc := lx_keep hk (fun k q hq hA => hF.2.2.2.2 q.1 (hDc.2 k q hq) hA) hPc
  refine lv_icmp_eq (tgt := 1182) hx hb dL_law_601 (by decide) (fun _ => ?_) (fun z => absurd rfl z)
  exact kk H C' R' ⟨hPc, hDc, hPn, hDn, hS⟩ hrel'
