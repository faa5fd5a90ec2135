/-! ===== the law's loop (written by gen_end.py) ===== -/
theorem lp_more {L i : Nat} (hL : L ≤ 384) (hi : i ≤ 400) (h : ¬ (nI L - 6 < nI i)) : i + 6 ≤ L := by
  have h6 : (6 : Int32).toInt = 6 := by decide
  rw [Int32.lt_iff_toInt_lt, Int32.toInt_sub, nI_toInt (by omega), nI_toInt (by omega), h6, Int.bmod_def] at h
  have e : (2 ^ 32 : Nat) = 4294967296 := by decide
  rw [e] at h
  split at h <;> omega
theorem lp_in {L i : Nat} (hL : L ≤ 384) (h : i + 6 ≤ L) : vp_in (nI i + 1) L ∧ vp_in (nI i + 2) L ∧ vp_in (nI i + 3) L ∧ vp_in (nI i + 4) L ∧ vp_in (nI i + 5) L :=
  ⟨(nI_add i 1).symm ▸ vp_in_nI (by omega) (by omega), (nI_add i 2).symm ▸ vp_in_nI (by omega) (by omega), (nI_add i 3).symm ▸ vp_in_nI (by omega) (by omega), (nI_add i 4).symm ▸ vp_in_nI (by omega) (by omega), (nI_add i 5).symm ▸ vp_in_nI (by omega) (by omega)⟩
theorem sw_k {v : Int32} (h : ¬ (v.toInt < 0 ∨ 35 < v.toInt)) : ∃ k : Nat, k < 36 ∧ v.toInt = (k : Int) := ⟨v.toInt.toNat, by omega, by omega⟩
set_option maxHeartbeats 4000000 in
set_option maxRecDepth 100000 in
theorem law_loop {p : Program} {l : Launch} {e : Env} {s : State} {m : MethodId} {below : List Frame} {meth : Method} {c : Code} {D : va_G} {cs : Nat → ClassId} {ad ad' : Nat → Nat} {A1 A2 : Nat → Prop} {b L : Nat} {xs : Nat → Int32} {cells slots : Nat} (hL : L ≤ 384) (C0 : lw_At p s m meth c b L xs) (hF : Lf D cs A1 A2 s) (hcs : cells ≤ room_1.cells ∧ slots ≤ room_1.slots) : ∀ (n i : Nat), L + 1 ≤ i + n → i ≤ 400 → ∀ (C R : Mem) (H : Heap) (ls : Array Slot), Lw D cs ad ad' A1 A2 s H C R → Rel C R → lv_has ls 4 [(3, .int (nI i)), (2, .ref (ad' (cO GM 0))), (1, .ref (ad (cO GC 0))), (0, .ref b)] → W p l e room_1 s m #[Value.ref b] below meth c H [] cells slots (lw_Z below #[Value.ref b] s) (F0 m 18 ls []) := by
  obtain ⟨hx, hb, hr, hml, hown, hts, hX, hbl, hlocks, hgv⟩ := C0
  have F : CallFix p m c cL_law 4 s #[Value.ref b] TS RL := ⟨hx, hb, hml, hown, fun w h => hts w (TS_in w h)⟩
  have hbA : ¬ (fun q : Nat => s.heap.size ≤ q) b := Nat.not_le.mpr hbl
  intro n
  induction n with
  | zero =>
    intro i h1 h2 C R H ls hW hrel hl
    have hS := hW.2.2.2.2
    refine lv_iload_n hx hb dL_law_18 rfl (lv_at hl 0 rfl) ?_
    refine lv_aload_n hx hb dL_law_19 rfl (lv_at hl 3 rfl) ?_
    refine va_slen hx hb hX hbl hbA hS dL_law_20 ?_
    refine lv_bipush (v := 6) hx hb dL_law_21 (by decide) ?_
    refine lv_isub hx hb dL_law_23 ?_
    refine lv_icmp_gt (tgt := 1188) hx hb dL_law_24 (by decide) (fun _ => ?_) (fun z => absurd (lp_more hL h2 z) (by omega))
    refine lv_iconst (v := 1) hx hb dL_law_1188 (by decide) ?_
    refine W.widen (k := 600000) (n := 7302250) hcs.1 hcs.2 ?_
    exact lw_ret hx hb hr hlocks dL_law_1189
  | succ n ih =>
    intro i h1 h2 C R H ls hW hrel hl
    have hS := hW.2.2.2.2
    refine lv_iload_n hx hb dL_law_18 rfl (lv_at hl 0 rfl) ?_
    refine lv_aload_n hx hb dL_law_19 rfl (lv_at hl 3 rfl) ?_
    refine va_slen hx hb hX hbl hbA hS dL_law_20 ?_
    refine lv_bipush (v := 6) hx hb dL_law_21 (by decide) ?_
    refine lv_isub hx hb dL_law_23 ?_
    refine lv_icmp_gt (tgt := 1188) hx hb dL_law_24 (by decide) (fun _ => ?_) (fun z => ?_)
    · refine lv_iconst (v := 1) hx hb dL_law_1188 (by decide) ?_
      refine W.widen (k := 600000) (n := 7302250) hcs.1 hcs.2 ?_
      exact lw_ret hx hb hr hlocks dL_law_1189
    · have h6 := lp_more hL h2 z
      have hv := lp_in hL h6
      have hv0 : vp_in (nI i) L := vp_in_nI (by omega) (by omega)
      have next : ∀ (H : Heap) (C R : Mem), Lw D cs ad ad' A1 A2 s H C R → Rel C R → W p l e room_1 s m #[Value.ref b] below meth c H [] cells slots (lw_Z below #[Value.ref b] s) (F0 m 1182 ls []) := by
        intro H C R hW hrel
        refine lv_iinc (v := nI (i + 6)) (lv' := [(3, .int (nI (i + 6))), (2, .ref (ad' (cO GM 0))), (1, .ref (ad (cO GC 0))), (0, .ref b)]) hx hb dL_law_1182 hl (k := 0) rfl (nI_add i 6) (by decide) rfl (fun ls hl => ?_)
        refine lv_goto (tgt := 18) hx hb dL_law_1185 (by decide) ?_
        exact ih (i + 6) (by omega) (by omega) C R H ls hW hrel hl
      refine lv_aload_n hx hb dL_law_27 rfl (lv_at hl 3 rfl) ?_
      refine lv_iload_n hx hb dL_law_28 rfl (lv_at hl 0 rfl) ?_
      refine va_sld hx hb hX hbl hbA hS hv0 dL_law_29 ?_
      refine lv_bipush (v := 63) hx hb dL_law_30 (by decide) ?_
      refine lv_iand hx hb dL_law_32 ?_
      generalize xs (nI i).toNatClampNeg &&& 63 = v
      by_cases ho : v.toInt < 0 ∨ 35 < v.toInt
      · refine lv_tableOut (tgt := 1182) hx hb dL_law_33 ho (by decide) ?_
        exact next H C R hW hrel
      · obtain ⟨k, hk, hvk⟩ := sw_k ho
        have g1 : ¬ v.toInt < 0 := fun q => ho (Or.inl q)
        have g2 : ¬ 35 < v.toInt := fun q => ho (Or.inr q)
        match k, hk, hvk with
        | 0, _, hvk => exact lv_tableIn (off := 159) (tgt := 192) hx hb dL_law_33 g1 g2 (by rw [hvk]; rfl) (by decide) (lc_0 F hX hbl hcs hF hW hrel hl hv next)
        | 1, _, hvk => exact lv_tableIn (off := 192) (tgt := 225) hx hb dL_law_33 g1 g2 (by rw [hvk]; rfl) (by decide) (lc_1 F hX hbl hcs hF hW hrel hl hv next)
        | 2, _, hvk => exact lv_tableIn (off := 215) (tgt := 248) hx hb dL_law_33 g1 g2 (by rw [hvk]; rfl) (by decide) (lc_2 F hX hbl hcs hF hW hrel hl hv next)
        | 3, _, hvk => exact lv_tableIn (off := 238) (tgt := 271) hx hb dL_law_33 g1 g2 (by rw [hvk]; rfl) (by decide) (lc_3 F hX hbl hcs hF hW hrel hl hv next)
        | 4, _, hvk => exact lv_tableIn (off := 261) (tgt := 294) hx hb dL_law_33 g1 g2 (by rw [hvk]; rfl) (by decide) (lc_4 F hX hbl hcs hF hW hrel hl hv next)
        | 5, _, hvk => exact lv_tableIn (off := 294) (tgt := 327) hx hb dL_law_33 g1 g2 (by rw [hvk]; rfl) (by decide) (lc_5 F hX hbl hcs hF hW hrel hl hv next)
        | 6, _, hvk => exact lv_tableIn (off := 317) (tgt := 350) hx hb dL_law_33 g1 g2 (by rw [hvk]; rfl) (by decide) (lc_6 F hX hbl hcs hF hW hrel hl hv next)
        | 7, _, hvk => exact lv_tableIn (off := 350) (tgt := 383) hx hb dL_law_33 g1 g2 (by rw [hvk]; rfl) (by decide) (lc_7 F hX hbl hcs hF hW hrel hl hv next)
        | 8, _, hvk => exact lv_tableIn (off := 373) (tgt := 406) hx hb dL_law_33 g1 g2 (by rw [hvk]; rfl) (by decide) (lc_8 F hX hbl hcs hF hW hrel hl hv next)
        | 9, _, hvk => exact lv_tableIn (off := 386) (tgt := 419) hx hb dL_law_33 g1 g2 (by rw [hvk]; rfl) (by decide) (lc_9 F hX hbl hcs hF hW hrel hl hv next)
        | 10, _, hvk => exact lv_tableIn (off := 409) (tgt := 442) hx hb dL_law_33 g1 g2 (by rw [hvk]; rfl) (by decide) (lc_10 F hX hbl hcs hF hW hrel hl hv next)
        | 11, _, hvk => exact lv_tableIn (off := 442) (tgt := 475) hx hb dL_law_33 g1 g2 (by rw [hvk]; rfl) (by decide) (lc_11 F hX hbl hcs hF hW hrel hl hv next)
        | 12, _, hvk => exact lv_tableIn (off := 485) (tgt := 518) hx hb dL_law_33 g1 g2 (by rw [hvk]; rfl) (by decide) (lc_12 F hX hbl hcs hF hW hrel hl hv next)
        | 13, _, hvk => exact lv_tableIn (off := 498) (tgt := 531) hx hb dL_law_33 g1 g2 (by rw [hvk]; rfl) (by decide) (lc_13 F hX hbl hcs hF hW hrel hl hv next)
        | 14, _, hvk => exact lv_tableIn (off := 511) (tgt := 544) hx hb dL_law_33 g1 g2 (by rw [hvk]; rfl) (by decide) (lc_14 F hX hbl hcs hF hW hrel hl hv next)
        | 15, _, hvk => exact lv_tableIn (off := 524) (tgt := 557) hx hb dL_law_33 g1 g2 (by rw [hvk]; rfl) (by decide) (lc_15 F hX hbl hcs hF hW hrel hl hv next)
        | 16, _, hvk => exact lv_tableIn (off := 537) (tgt := 570) hx hb dL_law_33 g1 g2 (by rw [hvk]; rfl) (by decide) (lc_16 F hX hbl hcs hF hW hrel hl hv next)
        | 17, _, hvk => exact lv_tableIn (off := 550) (tgt := 583) hx hb dL_law_33 g1 g2 (by rw [hvk]; rfl) (by decide) (lc_17 F hX hbl hcs hF hW hrel hl hv next)
        | 18, _, hvk => exact lv_tableIn (off := 573) (tgt := 606) hx hb dL_law_33 g1 g2 (by rw [hvk]; rfl) (by decide) (lc_18 F hX hbl hcs hF hW hrel hl hv next)
        | 19, _, hvk => exact lv_tableIn (off := 596) (tgt := 629) hx hb dL_law_33 g1 g2 (by rw [hvk]; rfl) (by decide) (lc_19 F hX hbl hcs hF hW hrel hl hv next)
        | 20, _, hvk => exact lv_tableIn (off := 619) (tgt := 652) hx hb dL_law_33 g1 g2 (by rw [hvk]; rfl) (by decide) (lc_20 F hX hbl hcs hF hW hrel hl hv next)
        | 21, _, hvk => exact lv_tableIn (off := 652) (tgt := 685) hx hb dL_law_33 g1 g2 (by rw [hvk]; rfl) (by decide) (lc_21 F hX hbl hcs hF hW hrel hl hv next)
        | 22, _, hvk => exact lv_tableIn (off := 685) (tgt := 718) hx hb dL_law_33 g1 g2 (by rw [hvk]; rfl) (by decide) (lc_22 F hX hbl hcs hF hW hrel hl hv next)
        | 23, _, hvk => exact lv_tableIn (off := 698) (tgt := 731) hx hb dL_law_33 g1 g2 (by rw [hvk]; rfl) (by decide) (lc_23 F hX hbl hcs hF hW hrel hl hv next)
        | 24, _, hvk => exact lv_tableIn (off := 711) (tgt := 744) hx hb dL_law_33 g1 g2 (by rw [hvk]; rfl) (by decide) (lc_24 F hX hbl hcs hF hW hrel hl hv next)
        | 25, _, hvk => exact lv_tableIn (off := 744) (tgt := 777) hx hb dL_law_33 g1 g2 (by rw [hvk]; rfl) (by decide) (lc_25 F hX hbl hcs hF hW hrel hl hv next)
        | 26, _, hvk => exact lv_tableIn (off := 767) (tgt := 800) hx hb dL_law_33 g1 g2 (by rw [hvk]; rfl) (by decide) (lc_26 F hX hbl hcs hF hW hrel hl hv next)
        | 27, _, hvk => exact lv_tableIn (off := 811) (tgt := 844) hx hb dL_law_33 g1 g2 (by rw [hvk]; rfl) (by decide) (lc_27 F hX hbl hcs hF hW hrel hl hv next)
        | 28, _, hvk => exact lv_tableIn (off := 854) (tgt := 887) hx hb dL_law_33 g1 g2 (by rw [hvk]; rfl) (by decide) (lc_28 F hX hbl hcs hF hW hrel hl hv next)
        | 29, _, hvk => exact lv_tableIn (off := 897) (tgt := 930) hx hb dL_law_33 g1 g2 (by rw [hvk]; rfl) (by decide) (lc_29 F hX hbl hcs hF hW hrel hl hv next)
        | 30, _, hvk => exact lv_tableIn (off := 920) (tgt := 953) hx hb dL_law_33 g1 g2 (by rw [hvk]; rfl) (by decide) (lc_30 F hX hbl hcs hF hW hrel hl hv next)
        | 31, _, hvk => exact lv_tableIn (off := 973) (tgt := 1006) hx hb dL_law_33 g1 g2 (by rw [hvk]; rfl) (by decide) (lc_31 F hX hbl hcs hF hW hrel hl hv next)
        | 32, _, hvk => exact lv_tableIn (off := 1016) (tgt := 1049) hx hb dL_law_33 g1 g2 (by rw [hvk]; rfl) (by decide) (lc_32 F hX hbl hcs hF hW hrel hl hv next)
        | 33, _, hvk => exact lv_tableIn (off := 1079) (tgt := 1112) hx hb dL_law_33 g1 g2 (by rw [hvk]; rfl) (by decide) (lc_33 F hX hbl hcs hF hW hrel hl hv next)
        | 34, _, hvk => exact lv_tableIn (off := 1112) (tgt := 1145) hx hb dL_law_33 g1 g2 (by rw [hvk]; rfl) (by decide) (lc_34 F hX hbl hcs hF hW hrel hl hv next)
        | 35, _, hvk => exact lv_tableIn (off := 1135) (tgt := 1168) hx hb dL_law_33 g1 g2 (by rw [hvk]; rfl) (by decide) (lc_35 F hX hbl hcs hF hW hrel hl hv next)
        | k + 36, hk, _ => exact absurd hk (by omega)
