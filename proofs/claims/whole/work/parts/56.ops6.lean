/-! ===== put, get, copy, read ===== -/
theorem ft_c {C : Mem} {S : St} {s fo : Nat} {x : Int32} (hS : okS S) (hC : RC C S) (hs : s < 4) (hfo : fo < 3) :
    (¬ S.1 9 s = 1 → fX4_faultOf (21 + s) C (nI fo) x = some (nI 1)) ∧ (S.1 9 s = 1 → ¬ S.1 10 s = fo → fX4_faultOf (21 + s) C (nI fo) x = some (nI 3)) ∧ (S.1 9 s = 1 → S.1 10 s = fo → outI x (S.1 11 s) → fX4_faultOf (21 + s) C (nI fo) x = some (nI 2)) ∧ (∀ i, S.1 9 s = 1 → S.1 10 s = fo → x = nI i → i < S.1 11 s → fX4_faultOf (21 + s) C (nI fo) x = some (nI 0)) := by
  obtain ⟨q1, q2, q3⟩ := hS.2.2.2.2.2.1 s hs
  obtain ⟨c1, c2, c3, c4⟩ := hC.1.2.2.2.2.1 s hs
  unfold fX4_faultOf
  rw [c1, c2, c3]
  refine ⟨fun h => ?_, fun h h2 => ?_, fun h h2 h3 => ?_, fun i h h2 h3 h4 => ?_⟩
  · rw [if_neg (fun z => h ((n1e q1).mp z))]; rfl
  · rw [if_pos ((n1e q1).mpr h), if_neg (fun z => h2 ((nI_eq (by omega) (by omega)).mp z))]; rfl
  · rw [if_pos ((n1e q1).mpr h), if_pos (by rw [h2])]
    rcases h3 with h3 | h3
    · rw [if_pos h3]; rfl
    · by_cases h0 : x < 0
      · rw [if_pos h0]; rfl
      · rw [if_neg h0, if_neg (Int32.not_lt.mpr h3)]; rfl
  · rw [if_pos ((n1e q1).mpr h), if_pos (by rw [h2]), h3, if_neg (nI_pos (by omega)), if_pos (nI_lt h4 (by omega))]; rfl
theorem ft_m {R : Mem} {S : St} {s fo : Nat} {x : Int32} (hS : okS S) (hR : RR R S) (hs : s < 4) (hfo : fo < 3) :
    (¬ S.1 9 s = 1 → fX10_lacks R (nI s) (nI fo) x = some (nI 1)) ∧ (S.1 9 s = 1 → ¬ S.1 10 s = fo → fX10_lacks R (nI s) (nI fo) x = some (nI 3)) ∧ (S.1 9 s = 1 → S.1 10 s = fo → outI x (S.1 11 s) → fX10_lacks R (nI s) (nI fo) x = some (nI 2)) ∧ (∀ i, S.1 9 s = 1 → S.1 10 s = fo → x = nI i → i < S.1 11 s → fX10_lacks R (nI s) (nI fo) x = some (nI 0)) := by
  obtain ⟨q1, q2, q3⟩ := hS.2.2.2.2.2.1 s hs
  obtain ⟨r1, r2, r3, r4⟩ := hR.2.2.2.2.2.1 s hs
  have hin : inB (nI s) 4 := (inB_nI (by omega)).mpr hs
  have key : fX10_lacks R (nI s) (nI fo) x = (if nI (S.1 9 s) = 0 then some 1 else if nI (S.1 10 s) = nI fo then (fX10_in x 0 (nI (S.1 11 s) - (1 : Int32))).bind fun r3 => if r3 = 0 then some 2 else some 0 else some 3) := by
    unfold fX10_lacks
    rw [gd_p hin, gd_p hin, gd_p hin, nI_clamp (by omega), r1, r2, r3]
  rw [key]
  refine ⟨fun h => ?_, fun h h2 => ?_, fun h h2 h3 => ?_, fun i h h2 h3 h4 => ?_⟩
  · rw [if_pos ((n0e q1).mpr (by omega))]; rfl
  · rw [if_neg (fun z => by have := (n0e q1).mp z; omega), if_neg (fun z => h2 ((nI_eq (by omega) (by omega)).mp z))]; rfl
  · rw [if_neg (fun z => by have := (n0e q1).mp z; omega), if_pos (by rw [h2]), inH_0 h3 (by omega)]; rfl
  · rw [if_neg (fun z => by have := (n0e q1).mp z; omega), if_pos (by rw [h2]), h3, inH_1 h4 (by omega)]; rfl
def cutF (fo : Nat) (v : Int32) : Int32 := if fo = 0 then (Int32.toInt8 v).toInt32 else if fo = 1 then (Int32.toInt16 v).toInt32 else v
theorem cl_store {o i fo : Nat} {M : Mem} {v : Int32} (hi : i < 60) (hfo : fo ≤ 2) (e : M o 2 0 = nI fo) : Sp (fX4_store o M (nI i) v) (fun M' => M' = wr M o 0 i (cutF fo v)) := by
  unfold fX4_store cutF
  simp only [sp_gd, sp_nm, sp_bind, sp_ite, sp_some, sp_inr]
  rw [e, inB_nI (by omega), nI_clamp (by omega)]
  rcases (show fo = 0 ∨ fo = 1 ∨ fo = 2 by omega) with rfl | rfl | rfl
  · exact ⟨fun _ => ⟨hi, rfl⟩, fun z => absurd rfl z⟩
  · exact ⟨fun z => absurd z (by decide), fun _ => ⟨fun _ => ⟨hi, rfl⟩, fun z => absurd rfl z⟩⟩
  · exact ⟨fun z => absurd z (by decide), fun _ => ⟨fun z => absurd z (by decide), fun _ => ⟨hi, rfl⟩⟩⟩
theorem md_keep {s i fo : Nat} {R : Mem} {v : Int32} (hs : s < 4) (hi : i < 60) (hfo : fo ≤ 2) (e : R 0 37 s = nI fo) : Sp (fX10_keep R (nI s) (nI i) v) (fun M' => M' = wr R 0 39 (60 * s + i) (cutF fo v)) := by
  unfold fX10_keep cutF
  simp only [sp_gd, sp_nm, sp_bind, sp_ite, sp_some, sp_inr]
  rw [inB_nI (by omega), nI_clamp (by omega), e, il60, pk_mul, nI_add, inB_nI (by omega), nI_clamp (by omega)]
  rcases (show fo = 0 ∨ fo = 1 ∨ fo = 2 by omega) with rfl | rfl | rfl
  · exact ⟨hs, fun _ => ⟨by omega, rfl⟩, fun z => absurd rfl z⟩
  · exact ⟨hs, fun z => absurd z (by decide), fun _ => ⟨hs, fun _ => ⟨by omega, rfl⟩, fun z => absurd rfl z⟩⟩
  · exact ⟨hs, fun z => absurd z (by decide), fun _ => ⟨hs, fun z => absurd z (by decide), fun _ => ⟨by omega, rfl⟩⟩⟩
/-- one item of a sheet becomes v -/
theorem cl_item {C : Mem} {S : St} {s i : Nat} {v : Int32} (hC : RC C S) (hs : s < 4) (ht : S.1 9 s = 1) : RC (wr C (21 + s) 0 i v) (sSh S s 1 (S.1 10 s) (S.1 11 s) (upd (S.2 s) i v)) := by
  obtain ⟨c1, c2, c3, c4⟩ := hC.1.2.2.2.2.1 s hs
  refine cl_sh hC hs (fun x hx => wr_ob _ _ _ _ _ hx) ?_ ?_ ?_ (fun q hq => ?_)
  · rw [wr_row _ _ _ _ _ (by omega), c1, ht]
  · rw [wr_row _ _ _ _ _ (by omega)]; exact c2
  · rw [wr_row _ _ _ _ _ (by omega)]; exact c3
  · rw [wr_ap]
    unfold upd
    by_cases hqi : q = i
    · simp [hqi]
    · simp [hqi]; exact c4 q hq
theorem md_item {R : Mem} {S : St} {s i : Nat} {v : Int32} (hR : RR R S) (hs : s < 4) (hi : i < 60) (ht : S.1 9 s = 1) : RR (wr R 0 39 (60 * s + i) v) (sSh S s 1 (S.1 10 s) (S.1 11 s) (upd (S.2 s) i v)) := by
  obtain ⟨r1, r2, r3, r4⟩ := hR.2.2.2.2.2.1 s hs
  refine md_sh hR hs (frM.rf.w _ _ _ (by decide)) (fun q hq => ?_) (fun q hq => ?_) (fun q hq => ?_) (fun q j hq hj => ?_)
  · rw [wr_row _ _ _ _ _ (by decide)]
    split
    · rename_i e; rw [e, r1, ht]
    · rfl
  · rw [wr_row _ _ _ _ _ (by decide)]
    split
    · rename_i e; rw [e]; exact r2
    · rfl
  · rw [wr_row _ _ _ _ _ (by decide)]
    split
    · rename_i e; rw [e]; exact r3
    · rfl
  · rw [wr_ap]
    unfold upd
    by_cases hqs : q = s
    · rw [if_pos hqs]
      by_cases hji : j = i
      · rw [if_pos ⟨rfl, rfl, by rw [hqs, hji]⟩, if_pos hji]
      · rw [if_neg (fun z => hji (by have := z.2.2; omega)), if_neg hji, hqs]
        exact r4 j hj
    · rw [if_neg (fun z => hqs (by have := z.2.2; omega)), if_neg hqs]
theorem op_put {C R : Mem} (h : Rel C R) (a b c d : Int32) : ∃ (r : Int32) (C' R' : Mem), fX9_put C a b c d = some (r, C') ∧ fX10_put R a b c d = some (r, R') ∧ Rel C' R' := by
  obtain ⟨S, hS, hC, hR⟩ := h
  rcases ixI a (n := 4) (by omega) with ha | ⟨s, hs, rfl⟩
  · refine op_rw (S' := S) (r := -2) hS ?_ ?_
    · unfold fX9_put
      simp only [sp_gd, sp_nm, sp_bind, sp_ite, sp_some, sp_inr]
      exact Sp.of (cs_0 ha) ⟨fun _ => ⟨(by trivial), hC⟩, fun z => absurd rfl z⟩
    · unfold fX10_put
      simp only [sp_gd, sp_nm, sp_bind, sp_ite, sp_some, sp_inr]
      exact Sp.of (ms_0 ha) ⟨fun _ => ⟨(by trivial), hR⟩, fun z => absurd rfl z⟩
  · rcases ixI b (n := 3) (by omega) with hb | ⟨fo, hfo, rfl⟩
    · refine op_rw (S' := S) (r := -2) hS ?_ ?_
      · unfold fX9_put
        simp only [sp_gd, sp_nm, sp_bind, sp_ite, sp_some, sp_inr]
        exact Sp.of (cs_1 hs) ⟨fun z => absurd z (by decide), fun _ => Sp.of (cf_0 hb) ⟨fun _ => ⟨(by trivial), hC⟩, fun z => absurd rfl z⟩⟩
      · unfold fX10_put
        simp only [sp_gd, sp_nm, sp_bind, sp_ite, sp_some, sp_inr]
        exact Sp.of (ms_1 hs) ⟨fun z => absurd z (by decide), fun _ => Sp.of (in_0 (n := 2) hb (by omega)) ⟨fun _ => ⟨(by trivial), hR⟩, fun z => absurd rfl z⟩⟩
    · obtain ⟨q1, q2, q3⟩ := hS.2.2.2.2.2.1 s hs
      obtain ⟨A1, A3, A2, A0⟩ := ft_c (x := c) hS hC hs hfo
      obtain ⟨B1, B3, B2, B0⟩ := ft_m (x := c) hS hR hs hfo
      have fin : ∀ k : Nat, 1 ≤ k → k ≤ 5 → fX4_faultOf (21 + s) C (nI fo) c = some (nI k) → fX10_lacks R (nI s) (nI fo) c = some (nI k) → ∃ (r : Int32) (C' R' : Mem), fX9_put C (nI s) (nI fo) c d = some (r, C') ∧ fX10_put R (nI s) (nI fo) c d = some (r, R') ∧ Rel C' R' := by
        intro k hk1 hk5 e1 e2
        refine op_rw (S' := sFd S k) (r := (-10 : Int32) - nI k) (okS_Fd hS hk5) ?_ ?_
        · unfold fX9_put
          simp only [sp_gd, sp_nm, sp_bind, sp_ite, sp_some, sp_inr]
          refine Sp.of (cs_1 hs) ⟨fun z => absurd z (by decide), fun _ => Sp.of (cf_1 hfo) ⟨fun z => absurd z (by decide), fun _ => ?_⟩⟩
          rw [inB_nI (by omega), nI_clamp (by omega)]
          exact ⟨hs, Sp.of e1 ⟨fun z => absurd z (nI_ne0 (by omega) (by omega)), fun _ => cl_found hC k⟩⟩
        · unfold fX10_put
          simp only [sp_gd, sp_nm, sp_bind, sp_ite, sp_some, sp_inr]
          refine Sp.of (ms_1 hs) ⟨fun z => absurd z (by decide), fun _ => Sp.of (in_1 (j := fo) (n := 2) (by omega) (by omega)) ⟨fun z => absurd z (by decide), fun _ => ?_⟩⟩
          exact Sp.of e2 ⟨fun z => absurd z (nI_nle (by omega) (by omega)), fun _ => md_meets hR k⟩
      by_cases ht : S.1 9 s = 1
      · by_cases hf : S.1 10 s = fo
        · rcases ixI c (n := S.1 11 s) (by omega) with hc | ⟨i, hi, rfl⟩
          · exact fin 2 (by omega) (by omega) (A2 ht hf hc) (B2 ht hf hc)
          · have e2 := (hC.1.2.2.2.2.1 s hs).2.1
            have r2 := (hR.2.2.2.2.2.1 s hs).2.1
            refine op_rw (S' := sSh S s 1 (S.1 10 s) (S.1 11 s) (upd (S.2 s) i (cutF (S.1 10 s) d))) (r := 1) (okS_Sh hS (by omega) q2 q3) ?_ ?_
            · unfold fX9_put
              simp only [sp_gd, sp_nm, sp_bind, sp_ite, sp_some, sp_inr]
              refine Sp.of (cs_1 hs) ⟨fun z => absurd z (by decide), fun _ => Sp.of (cf_1 hfo) ⟨fun z => absurd z (by decide), fun _ => ?_⟩⟩
              rw [inB_nI (by omega), nI_clamp (by omega)]
              refine ⟨hs, Sp.of (A0 i ht hf rfl hi) ⟨fun _ => ⟨hs, ?_⟩, fun z => absurd rfl z⟩⟩
              exact (cl_store (by omega) q2 e2).mono (fun M' e => ⟨(by trivial), by rw [e]; exact cl_item hC hs ht⟩)
            · unfold fX10_put
              simp only [sp_gd, sp_nm, sp_bind, sp_ite, sp_some, sp_inr]
              refine Sp.of (ms_1 hs) ⟨fun z => absurd z (by decide), fun _ => Sp.of (in_1 (j := fo) (n := 2) (by omega) (by omega)) ⟨fun z => absurd z (by decide), fun _ => ?_⟩⟩
              refine Sp.of (B0 i ht hf rfl hi) ⟨fun _ => ?_, fun z => absurd (by decide) z⟩
              exact (md_keep hs (by omega) q2 r2).mono (fun M' e => ⟨(by trivial), by rw [e]; exact md_item hR hs (by omega) ht⟩)
        · exact fin 3 (by omega) (by omega) (A3 ht hf) (B3 ht hf)
      · exact fin 1 (by omega) (by omega) (A1 ht) (B1 ht)
theorem cl_fd {C : Mem} {S : St} (hC : RC C S) (k : Nat) : RC (wr C 0 13 0 (nI k)) (sFd S k) := by
  have h := cl_found hC k
  unfold fX9_found at h
  have h2 := sp_some.mp (sp_nm.mp h)
  exact h2.2
theorem op_get {C R : Mem} (h : Rel C R) (a b c : Int32) : ∃ (r : Int32) (C' R' : Mem), fX9_get C a b c = some (r, C') ∧ fX10_get R a b c = some (r, R') ∧ Rel C' R' := by
  obtain ⟨S, hS, hC, hR⟩ := h
  rcases ixI a (n := 4) (by omega) with ha | ⟨s, hs, rfl⟩
  · refine op_rw (S' := S) (r := -2147483648) hS ?_ ?_
    · unfold fX9_get
      simp only [sp_gd, sp_nm, sp_bind, sp_ite, sp_some, sp_inr]
      exact Sp.of (cs_0 ha) ⟨fun _ => ⟨(by trivial), hC⟩, fun z => absurd rfl z⟩
    · unfold fX10_get
      simp only [sp_gd, sp_nm, sp_bind, sp_ite, sp_some, sp_inr]
      exact Sp.of (ms_0 ha) ⟨fun _ => ⟨(by trivial), hR⟩, fun z => absurd rfl z⟩
  · rcases ixI b (n := 3) (by omega) with hb | ⟨fo, hfo, rfl⟩
    · refine op_rw (S' := S) (r := -2147483648) hS ?_ ?_
      · unfold fX9_get
        simp only [sp_gd, sp_nm, sp_bind, sp_ite, sp_some, sp_inr]
        exact Sp.of (cs_1 hs) ⟨fun z => absurd z (by decide), fun _ => Sp.of (cf_0 hb) ⟨fun _ => ⟨(by trivial), hC⟩, fun z => absurd rfl z⟩⟩
      · unfold fX10_get
        simp only [sp_gd, sp_nm, sp_bind, sp_ite, sp_some, sp_inr]
        exact Sp.of (ms_1 hs) ⟨fun z => absurd z (by decide), fun _ => Sp.of (in_0 (n := 2) hb (by omega)) ⟨fun _ => ⟨(by trivial), hR⟩, fun z => absurd rfl z⟩⟩
    · obtain ⟨q1, q2, q3⟩ := hS.2.2.2.2.2.1 s hs
      obtain ⟨A1, A3, A2, A0⟩ := ft_c (x := c) hS hC hs hfo
      obtain ⟨B1, B3, B2, B0⟩ := ft_m (x := c) hS hR hs hfo
      have fin : ∀ k : Nat, 1 ≤ k → k ≤ 5 → fX4_faultOf (21 + s) C (nI fo) c = some (nI k) → fX10_lacks R (nI s) (nI fo) c = some (nI k) → ∃ (r : Int32) (C' R' : Mem), fX9_get C (nI s) (nI fo) c = some (r, C') ∧ fX10_get R (nI s) (nI fo) c = some (r, R') ∧ Rel C' R' := by
        intro k hk1 hk5 e1 e2
        refine op_rw (S' := sFd S k) (r := -2147483648) (okS_Fd hS hk5) ?_ ?_
        · unfold fX9_get
          simp only [sp_gd, sp_nm, sp_bind, sp_ite, sp_some, sp_inr]
          refine Sp.of (cs_1 hs) ⟨fun z => absurd z (by decide), fun _ => Sp.of (cf_1 hfo) ⟨fun z => absurd z (by decide), fun _ => ?_⟩⟩
          rw [inB_nI (by omega), nI_clamp (by omega)]
          exact ⟨hs, Sp.of e1 ⟨fun z => absurd z (nI_ne0 (by omega) (by omega)), fun _ => ⟨(by trivial), cl_fd hC k⟩⟩⟩
        · unfold fX10_get
          simp only [sp_gd, sp_nm, sp_bind, sp_ite, sp_some, sp_inr]
          refine Sp.of (ms_1 hs) ⟨fun z => absurd z (by decide), fun _ => Sp.of (in_1 (j := fo) (n := 2) (by omega) (by omega)) ⟨fun z => absurd z (by decide), fun _ => ?_⟩⟩
          exact Sp.of e2 ⟨fun z => absurd z (nI_nle (by omega) (by omega)), fun _ => ⟨(by trivial), hR.fd k⟩⟩
      by_cases ht : S.1 9 s = 1
      · by_cases hf : S.1 10 s = fo
        · rcases ixI c (n := S.1 11 s) (by omega) with hc | ⟨i, hi, rfl⟩
          · exact fin 2 (by omega) (by omega) (A2 ht hf hc) (B2 ht hf hc)
          · refine op_rw (S' := S) (r := S.2 s i) hS ?_ ?_
            · unfold fX9_get
              simp only [sp_gd, sp_nm, sp_bind, sp_ite, sp_some, sp_inr]
              refine Sp.of (cs_1 hs) ⟨fun z => absurd z (by decide), fun _ => Sp.of (cf_1 hfo) ⟨fun z => absurd z (by decide), fun _ => ?_⟩⟩
              rw [inB_nI (by omega), inB_nI (by omega), nI_clamp (by omega), nI_clamp (by omega)]
              exact ⟨hs, Sp.of (A0 i ht hf rfl hi) ⟨fun _ => ⟨hs, by omega, (hC.1.2.2.2.2.1 s hs).2.2.2 i (by omega), hC⟩, fun z => absurd rfl z⟩⟩
            · unfold fX10_get
              simp only [sp_gd, sp_nm, sp_bind, sp_ite, sp_some, sp_inr]
              refine Sp.of (ms_1 hs) ⟨fun z => absurd z (by decide), fun _ => Sp.of (in_1 (j := fo) (n := 2) (by omega) (by omega)) ⟨fun z => absurd z (by decide), fun _ => ?_⟩⟩
              refine Sp.of (B0 i ht hf rfl hi) ⟨fun _ => ?_, fun z => absurd (by decide) z⟩
              rw [il60, pk_mul, nI_add, inB_nI (by omega), nI_clamp (by omega)]
              exact ⟨by omega, (hR.2.2.2.2.2.1 s hs).2.2.2 i (by omega), hR⟩
        · exact fin 3 (by omega) (by omega) (A3 ht hf) (B3 ht hf)
      · exact fin 1 (by omega) (by omega) (A1 ht) (B1 ht)
