/-! ===== at the law's entry (written by gen_entry.py) ===== -/
theorem lt1 (i : Nat) {w : Cond} (h : tables_1_1[i]? = some w) : w ∈ lw_tbl := List.mem_append_right _ (List.mem_append_left _ (List.mem_of_getElem? h))
theorem lt2 (i : Nat) {w : Cond} (h : tables_1_2[i]? = some w) : w ∈ lw_tbl := List.mem_append_right _ (List.mem_append_right _ (List.mem_append_left _ (List.mem_of_getElem? h)))
theorem lt3 (i : Nat) {w : Cond} (h : tables_1_3[i]? = some w) : w ∈ lw_tbl := List.mem_append_right _ (List.mem_append_right _ (List.mem_append_right _ (List.mem_append_left _ (List.mem_of_getElem? h))))
theorem lt4 (i : Nat) {w : Cond} (h : tables_1_4[i]? = some w) : w ∈ lw_tbl := List.mem_append_right _ (List.mem_append_right _ (List.mem_append_right _ (List.mem_append_right _ (List.mem_append_left _ (List.mem_of_getElem? h)))))
theorem lt5 (i : Nat) {w : Cond} (h : tables_1_5[i]? = some w) : w ∈ lw_tbl := List.mem_append_right _ (List.mem_append_right _ (List.mem_append_right _ (List.mem_append_right _ (List.mem_append_right _ (List.mem_append_left _ (List.mem_of_getElem? h))))))
theorem lt6 (i : Nat) {w : Cond} (h : tables_1_6[i]? = some w) : w ∈ lw_tbl := List.mem_append_right _ (List.mem_append_right _ (List.mem_append_right _ (List.mem_append_right _ (List.mem_append_right _ (List.mem_append_right _ (List.mem_of_getElem? h))))))
theorem K_arr {s : State} {args : Array Value} {ty : FieldType} (hp : ∀ C, ty ≠ .object C) (h : (Cond.arrayClass ty).before args s = true) : ∃ c : ClassId, ArrOfT s c ty ∧ va_RA s c ty := by
  obtain ⟨c, k, comp, h1, h2, h3⟩ := Cond.arrayClass_spec h
  refine ⟨c, fun N z => ⟨(fun k h => by cases h), k, h2, comp, h3⟩, ?_⟩
  cases ty with
  | object C => exact absurd rfl (hp C)
  | _ => exact h1
theorem K_over {s : State} {args : Array Value} {C : String} (h : (Cond.arrayOver (.object C)).before args s = true) : ∃ c : ClassId, ArrOfT s c (.object C) ∧ va_RA s c (.object C) := by
  obtain ⟨comp, c, k, h1, h2, h3, h4, h5⟩ := Cond.arrayOver_spec h
  exact ⟨c, fun N z => ⟨(fun k h => by cases h), k, h3, comp, h4⟩, k, comp, h3, h4, h1, h5⟩
theorem en_K {s : State} {b : Nat} (hts : ∀ w ∈ lw_tbl, w.before #[Value.ref b] s = true) : ∃ (D : va_G) (cs : Nat → ClassId), va_K D vwCl (tyU cs) s := by
  have hT : ∀ w ∈ TS, w.before #[Value.ref b] s = true := fun w h => hts w (TS_in w h)
  obtain ⟨c0, i0, hn0⟩ := u_known (C := RX0) (T := TX0) (N := 4) (n := 4) hT inT0 (hts _ (lt2 11 rfl))
  obtain ⟨c1, i1, hn1⟩ := u_known (C := RX1) (T := TX1) (N := 2) (n := 2) hT inT1 (hts _ (lt1 220 rfl))
  obtain ⟨c2, i2, hn2⟩ := u_known (C := RX2) (T := TX2) (N := 9) (n := 9) hT inT2 (hts _ (lt1 41 rfl))
  obtain ⟨c3, i3, hn3⟩ := u_known (C := RX3) (T := TX3) (N := 2) (n := 2) hT inT3 (hts _ (lt1 24 rfl))
  obtain ⟨c4, i4, hn4⟩ := u_known (C := RX4) (T := TX4) (N := 4) (n := 4) hT inT4 (hts _ (lt2 36 rfl))
  obtain ⟨c5, i5, hn5⟩ := u_known (C := RX5) (T := TX5) (N := 9) (n := 9) hT inT5 (hts _ (lt1 95 rfl))
  obtain ⟨c6, i6, hn6⟩ := u_known (C := RX6) (T := TX6) (N := 3) (n := 3) hT inT6 (hts _ (lt1 195 rfl))
  obtain ⟨c7, i7, hn7⟩ := u_known (C := RX7) (T := TX7) (N := 12) (n := 12) hT inT7 (hts _ (lt1 101 rfl))
  obtain ⟨c8, i8, hn8⟩ := u_known (C := RX8) (T := TX8) (N := 3) (n := 3) hT inT8 (hts _ (lt1 234 rfl))
  obtain ⟨c9, i9, hn9⟩ := u_known (C := RX9) (T := TX9) (N := 14) (n := 14) hT inT9 (hts _ (lt1 16 rfl))
  obtain ⟨c10, i10, hn10⟩ := u_known (C := RX10) (T := TX10) (N := 42) (n := 42) hT inT10 (hts _ (lt4 50 rfl))
  obtain ⟨a1, p1, q1⟩ := K_arr (ty := .int) (fun C h => by cases h) (hts _ (lt1 39 rfl))
  obtain ⟨a2, p2, q2⟩ := K_arr (ty := .boolean) (fun C h => by cases h) (hts _ (lt4 182 rfl))
  obtain ⟨a3, p3, q3⟩ := K_over (hts _ (lt2 17 rfl))
  obtain ⟨a4, p4, q4⟩ := K_over (hts _ (lt2 35 rfl))
  refine ⟨(fun k => [c0, c1, c2, c3, c4, c5, c6, c7, c8, c9, c10].getD k c0, fun k => [i0, i1, i2, i3, i4, i5, i6, i7, i8, i9, i10].getD k i0), fun k => [a1, a1, a2, a3, a4].getD k a1, ?_, ?_⟩
  · intro k q hq
    have hl : k < 11 := (List.getElem?_eq_some_iff.mp hq).1
    match k, hl, hq with
    | 0, _, hq => cases hq; exact hn0
    | 1, _, hq => cases hq; exact hn1
    | 2, _, hq => cases hq; exact hn2
    | 3, _, hq => cases hq; exact hn3
    | 4, _, hq => cases hq; exact hn4
    | 5, _, hq => cases hq; exact hn5
    | 6, _, hq => cases hq; exact hn6
    | 7, _, hq => cases hq; exact hn7
    | 8, _, hq => cases hq; exact hn8
    | 9, _, hq => cases hq; exact hn9
    | 10, _, hq => cases hq; exact hn10
  · intro k q hq
    have hl : k < 4 := (List.getElem?_eq_some_iff.mp hq).1
    match k, hl, hq with
    | 0, _, hq => cases hq; exact ⟨p1, q1⟩
    | 1, _, hq => cases hq; exact ⟨p2, q2⟩
    | 2, _, hq => cases hq; exact ⟨p3, q3⟩
    | 3, _, hq => cases hq; exact ⟨p4, q4⟩
set_option maxRecDepth 100000 in
theorem en_Zs {s : State} {b : Nat} (hts : ∀ w ∈ lw_tbl, w.before #[Value.ref b] s = true) (hgv : (Jvm.Cond.and given_1 narrow_1).before #[Value.ref b] s = true) : Zs (fun q : Nat => s.heap.size ≤ q) s s.heap := by
  have hs := flat_of_before _ hgv
  have harr : (Cond.arrayOf (.static "DonkeyExecutor" "TEMPER_MOST" "[I") .int).before #[Value.ref b] s = true := hs _ (by decide +kernel)
  have hlen : (Cond.eq (.length (.static "DonkeyExecutor" "TEMPER_MOST" "[I")) (.int 4)).before #[Value.ref b] s = true := hs _ (by decide +kernel)
  have e0 : (Cond.eq (.elem (.static "DonkeyExecutor" "TEMPER_MOST" "[I") (.int 0)) (.int 9)).before #[Value.ref b] s = true := hs _ (by decide +kernel)
  have e1 : (Cond.eq (.elem (.static "DonkeyExecutor" "TEMPER_MOST" "[I") (.int 1)) (.int 9)).before #[Value.ref b] s = true := hs _ (by decide +kernel)
  have e2 : (Cond.eq (.elem (.static "DonkeyExecutor" "TEMPER_MOST" "[I") (.int 2)) (.int 19)).before #[Value.ref b] s = true := hs _ (by decide +kernel)
  have e3 : (Cond.eq (.elem (.static "DonkeyExecutor" "TEMPER_MOST" "[I") (.int 3)) (.int 9)).before #[Value.ref b] s = true := hs _ (by decide +kernel)
  have hA : ∀ a : Nat, a < s.heap.size → ¬ (fun q : Nat => s.heap.size ≤ q) a := fun a h => Nat.not_le.mpr h
  obtain ⟨t, h1, h2⟩ := va_Tof (N := 4) (f := fun j => .int (tMost j)) (by decide) harr (va_eqt hlen) (fun j hj => by
    match j, hj with
    | 0, _ => exact va_eqt e0
    | 1, _ => exact va_eqt e1
    | 2, _ => exact va_eqt e2
    | 3, _ => exact va_eqt e3
    ) hA
  exact ⟨t, va_Zref (hts _ (lt2 238 rfl)) (hts _ (lt1 1 rfl)) h1 hA, h2⟩
set_option maxRecDepth 100000 in
theorem en_Zf {s : State} {b : Nat} (hts : ∀ w ∈ lw_tbl, w.before #[Value.ref b] s = true) (hgv : (Jvm.Cond.and given_1 narrow_1).before #[Value.ref b] s = true) : Zf (fun q : Nat => s.heap.size ≤ q) s s.heap := by
  have hs := flat_of_before _ hgv
  have harr : (Cond.arrayOf (.static "DonkeyExecutor" "TEMPER_AT_FIRST" "[I") .int).before #[Value.ref b] s = true := hs _ (by decide +kernel)
  have hlen : (Cond.eq (.length (.static "DonkeyExecutor" "TEMPER_AT_FIRST" "[I")) (.int 4)).before #[Value.ref b] s = true := hs _ (by decide +kernel)
  have e0 : (Cond.eq (.elem (.static "DonkeyExecutor" "TEMPER_AT_FIRST" "[I") (.int 0)) (.int 5)).before #[Value.ref b] s = true := hs _ (by decide +kernel)
  have e1 : (Cond.eq (.elem (.static "DonkeyExecutor" "TEMPER_AT_FIRST" "[I") (.int 1)) (.int 3)).before #[Value.ref b] s = true := hs _ (by decide +kernel)
  have e2 : (Cond.eq (.elem (.static "DonkeyExecutor" "TEMPER_AT_FIRST" "[I") (.int 2)) (.int 4)).before #[Value.ref b] s = true := hs _ (by decide +kernel)
  have e3 : (Cond.eq (.elem (.static "DonkeyExecutor" "TEMPER_AT_FIRST" "[I") (.int 3)) (.int 9)).before #[Value.ref b] s = true := hs _ (by decide +kernel)
  have hA : ∀ a : Nat, a < s.heap.size → ¬ (fun q : Nat => s.heap.size ≤ q) a := fun a h => Nat.not_le.mpr h
  obtain ⟨t, h1, h2⟩ := va_Tof (N := 4) (f := fun j => .int (tFirst j)) (by decide) harr (va_eqt hlen) (fun j hj => by
    match j, hj with
    | 0, _ => exact va_eqt e0
    | 1, _ => exact va_eqt e1
    | 2, _ => exact va_eqt e2
    | 3, _ => exact va_eqt e3
    ) hA
  exact ⟨t, va_Zref (hts _ (lt2 59 rfl)) (hts _ (lt1 1 rfl)) h1 hA, h2⟩
theorem en_nw {s : State} {b : Nat} (hts : ∀ w ∈ lw_tbl, w.before #[Value.ref b] s = true) : nwX s := ⟨va_Nw.of rfl (hts _ (lt1 42 rfl)), va_Nw.of rfl (hts _ (lt1 96 rfl)), va_Nw.of rfl (hts _ (lt1 196 rfl)), va_Nw.of rfl (hts _ (lt1 221 rfl)), va_Nw.of rfl (hts _ (lt1 235 rfl)), va_Nw.of rfl (hts _ (lt2 37 rfl)), va_AO.of (hts _ (lt2 35 rfl)), va_Nw.of rfl (hts _ (lt1 102 rfl)), ⟨va_Nw.of rfl (hts _ (lt1 201 rfl)), va_Nw.of rfl (hts _ (lt1 203 rfl))⟩, ⟨va_Nw.of rfl (hts _ (lt2 18 rfl)), va_AO.of (hts _ (lt2 17 rfl))⟩⟩
