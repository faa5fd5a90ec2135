theorem op_wipe {C R : Mem} (h : Rel C R) (a : Int32) : ∃ (r : Int32) (C' R' : Mem), fX9_wipe C a = some (r, C') ∧ fX10_wipe R a = some (r, R') ∧ Rel C' R' := by
  obtain ⟨S, hS, hC, hR⟩ := h
  by_cases a0 : a = 0
  · subst a0
    refine op_rw (S' := sT S 0 0 (S.1 0)) (r := nI (S.1 2 0)) (okS_T0 hS (by omega) (fun i hi => absurd hi (Nat.not_lt_zero _))) ?_ ?_
    · unfold fX9_wipe
      simp only [sp_gd, sp_nm, sp_bind, sp_ite, sp_some, sp_inr]
      refine Sp.of isT_0 ⟨fun z => absurd z (by decide), fun _ => ?_⟩
      refine Sp.of (z := 1) (by unfold fX9_scriptOf; rw [if_pos rfl]) ?_
      rw [hC.1.1.1]
      exact (cl_text0 (n := 0) (g := S.1 0) hS hC (by omega) (fun i hi => absurd hi (Nat.not_lt_zero _)) (fun x hx => wr_ob _ _ _ _ _ hx) (by simp [wr_ap]; rfl) (fun i hi => absurd hi (Nat.not_lt_zero _))).mono (fun M' ⟨f1, f2⟩ => ⟨(by trivial), f1⟩)
    · unfold fX10_wipe
      simp only [sp_gd, sp_nm, sp_bind, sp_ite, sp_some, sp_inr]
      refine Sp.of mT_0 ⟨fun z => absurd z (by decide), fun _ => ⟨by decide, by decide, ?_⟩⟩
      rw [cl0, hR.1.1]
      exact ⟨(by trivial), md_text0 hR (fun f n0 n1 => by rw [wr_row _ _ _ _ _ (fun z => n0 z.2)]) (by simp [wr_ap]; rfl) (by simp [wr_ap]) (fun i hi => absurd hi (Nat.not_lt_zero _)) (fun i => by rw [wr_row _ _ _ _ _ (by decide)])⟩
  · by_cases a1 : a = 1
    · subst a1
      refine op_rw (S' := sT S 1 0 (S.1 1)) (r := nI (S.1 2 1)) (okS_T1 hS (by omega) (fun i hi => absurd hi (Nat.not_lt_zero _))) ?_ ?_
      · unfold fX9_wipe
        simp only [sp_gd, sp_nm, sp_bind, sp_ite, sp_some, sp_inr]
        refine Sp.of isT_1 ⟨fun z => absurd z (by decide), fun _ => ?_⟩
        refine Sp.of (z := 2) (by unfold fX9_scriptOf; rw [if_neg (by decide)]) ?_
        rw [hC.1.2.1.1]
        exact (cl_text1 (n := 0) (g := S.1 1) hS hC (by omega) (fun i hi => absurd hi (Nat.not_lt_zero _)) (fun x hx => wr_ob _ _ _ _ _ hx) (by simp [wr_ap]; rfl) (fun i hi => absurd hi (Nat.not_lt_zero _))).mono (fun M' ⟨f1, f2⟩ => ⟨(by trivial), f1⟩)
      · unfold fX10_wipe
        simp only [sp_gd, sp_nm, sp_bind, sp_ite, sp_some, sp_inr]
        refine Sp.of mT_1' ⟨fun z => absurd z (by decide), fun _ => ⟨by decide, by decide, ?_⟩⟩
        rw [cl1, hR.2.1.1]
        exact ⟨(by trivial), md_text1 hS hR (fun f n0 n1 => by rw [wr_row _ _ _ _ _ (fun z => n0 z.2)]) (by simp [wr_ap]; rfl) (by simp [wr_ap]) (fun i hi => absurd hi (Nat.not_lt_zero _)) (fun i _ => by rw [wr_row _ _ _ _ _ (by decide)])⟩
    · refine op_rw (S' := S) (r := -2) hS ?_ ?_
      · unfold fX9_wipe
        simp only [sp_gd, sp_nm, sp_bind, sp_ite, sp_some, sp_inr]
        exact Sp.of (isT_n a0 a1) ⟨fun _ => ⟨(by trivial), hC⟩, fun z => absurd rfl z⟩
      · unfold fX10_wipe
        simp only [sp_gd, sp_nm, sp_bind, sp_ite, sp_some, sp_inr]
        exact Sp.of (mT_n a0 a1) ⟨fun _ => ⟨(by trivial), hR⟩, fun z => absurd rfl z⟩
theorem op_undo {C R : Mem} (h : Rel C R) (a : Int32) : ∃ (r : Int32) (C' R' : Mem), fX9_undo C a = some (r, C') ∧ fX10_undo R a = some (r, R') ∧ Rel C' R' := by
  obtain ⟨S, hS, hC, hR⟩ := h
  by_cases a0 : a = 0
  · subst a0
    have h31 := hS.1.1
    by_cases hz : S.1 2 0 = 0
    · refine op_rw (S' := S) (r := -3) hS ?_ ?_
      · unfold fX9_undo
        simp only [sp_gd, sp_nm, sp_bind, sp_ite, sp_some, sp_inr]
        refine Sp.of isT_0 ⟨fun z => absurd z (by decide), fun _ => ?_⟩
        refine Sp.of (z := 1) (by unfold fX9_scriptOf; rw [if_pos rfl]) ?_
        rw [hC.1.1.1, hz]
        exact ⟨fun z => absurd z (by decide), fun _ => ⟨(by trivial), hC⟩⟩
      · unfold fX10_undo
        simp only [sp_gd, sp_nm, sp_bind, sp_ite, sp_some, sp_inr]
        refine Sp.of mT_0 ⟨fun z => absurd z (by decide), fun _ => ⟨by decide, ?_⟩⟩
        rw [cl0, hR.1.1, hz]
        exact ⟨fun _ => ⟨(by trivial), hR⟩, fun z => absurd rfl z⟩
    · refine op_rw (S' := sT S 0 (S.1 2 0 - 1) (S.1 0)) (r := nI (S.1 2 0 - 1)) (okS_T0 hS (by omega) (fun i hi => hS.1.2 i (by omega))) ?_ ?_
      · unfold fX9_undo
        simp only [sp_gd, sp_nm, sp_bind, sp_ite, sp_some, sp_inr]
        refine Sp.of isT_0 ⟨fun z => absurd z (by decide), fun _ => ?_⟩
        refine Sp.of (z := 1) (by unfold fX9_scriptOf; rw [if_pos rfl]) ?_
        rw [hC.1.1.1, il1, pk_sub (by omega), il0, nI_ltI (by omega) (by omega)]
        refine ⟨fun _ => ?_, fun z => absurd (by omega) z⟩
        exact (cl_text0 (n := S.1 2 0 - 1) (g := S.1 0) hS hC (by omega) (fun i hi => hS.1.2 i (by omega)) (fun x hx => wr_ob _ _ _ _ _ hx) (by simp [wr_ap]) (fun i hi => by rw [wr_row _ _ _ _ _ (by decide)]; exact hC.1.1.2 i (by omega))).mono (fun M' ⟨f1, f2⟩ => ⟨by rw [f2]; simp [wr_ap], f1⟩)
      · unfold fX10_undo
        simp only [sp_gd, sp_nm, sp_bind, sp_ite, sp_some, sp_inr]
        refine Sp.of mT_0 ⟨fun z => absurd z (by decide), fun _ => ⟨by decide, ?_⟩⟩
        rw [cl0, hR.1.1, il1, pk_sub (by omega)]
        refine ⟨fun z => absurd ((nI_ev 0 il0 (by omega) (by omega)).mp z) hz, fun _ => ⟨by decide, by decide, by decide, by simp [wr_ap], ?_⟩⟩
        exact md_text0 hR (fun f n0 n1 => by rw [wr_row _ _ _ _ _ (fun z => n0 z.2)]) (by simp [wr_ap]) (by simp [wr_ap]) (fun i hi => by rw [wr_row _ _ _ _ _ (by decide)]; exact hR.1.2 i (by omega)) (fun i => by rw [wr_row _ _ _ _ _ (by decide)])
  · by_cases a1 : a = 1
    · subst a1
      have h20 := hS.2.1.1
      by_cases hz : S.1 2 1 = 0
      · refine op_rw (S' := S) (r := -3) hS ?_ ?_
        · unfold fX9_undo
          simp only [sp_gd, sp_nm, sp_bind, sp_ite, sp_some, sp_inr]
          refine Sp.of isT_1 ⟨fun z => absurd z (by decide), fun _ => ?_⟩
          refine Sp.of (z := 2) (by unfold fX9_scriptOf; rw [if_neg (by decide)]) ?_
          rw [hC.1.2.1.1, hz]
          exact ⟨fun z => absurd z (by decide), fun _ => ⟨(by trivial), hC⟩⟩
        · unfold fX10_undo
          simp only [sp_gd, sp_nm, sp_bind, sp_ite, sp_some, sp_inr]
          refine Sp.of mT_1' ⟨fun z => absurd z (by decide), fun _ => ⟨by decide, ?_⟩⟩
          rw [cl1, hR.2.1.1, hz]
          exact ⟨fun _ => ⟨(by trivial), hR⟩, fun z => absurd rfl z⟩
      · refine op_rw (S' := sT S 1 (S.1 2 1 - 1) (S.1 1)) (r := nI (S.1 2 1 - 1)) (okS_T1 hS (by omega) (fun i hi => hS.2.1.2 i (by omega))) ?_ ?_
        · unfold fX9_undo
          simp only [sp_gd, sp_nm, sp_bind, sp_ite, sp_some, sp_inr]
          refine Sp.of isT_1 ⟨fun z => absurd z (by decide), fun _ => ?_⟩
          refine Sp.of (z := 2) (by unfold fX9_scriptOf; rw [if_neg (by decide)]) ?_
          rw [hC.1.2.1.1, show nI (S.1 2 1) - (1 : Int32) = nI (S.1 2 1 - 1) from pk_sub (b := 1) (by omega), il0, nI_ltI (by omega) (by omega)]
          refine ⟨fun _ => ?_, fun z => absurd (by omega) z⟩
          exact (cl_text1 (n := S.1 2 1 - 1) (g := S.1 1) hS hC (by omega) (fun i hi => hS.2.1.2 i (by omega)) (fun x hx => wr_ob _ _ _ _ _ hx) (by simp [wr_ap]) (fun i hi => by rw [wr_row _ _ _ _ _ (by decide)]; exact hC.1.2.1.2 i (by omega))).mono (fun M' ⟨f1, f2⟩ => ⟨by rw [f2]; simp [wr_ap], f1⟩)
        · unfold fX10_undo
          simp only [sp_gd, sp_nm, sp_bind, sp_ite, sp_some, sp_inr]
          refine Sp.of mT_1' ⟨fun z => absurd z (by decide), fun _ => ⟨by decide, ?_⟩⟩
          rw [cl1, hR.2.1.1, show nI (S.1 2 1) - (1 : Int32) = nI (S.1 2 1 - 1) from pk_sub (b := 1) (by omega)]
          refine ⟨fun z => absurd ((nI_ev 0 il0 (by omega) (by omega)).mp z) hz, fun _ => ⟨by decide, by decide, by decide, by simp [wr_ap], ?_⟩⟩
          exact md_text1 hS hR (fun f n0 n1 => by rw [wr_row _ _ _ _ _ (fun z => n0 z.2)]) (by simp [wr_ap]) (by simp [wr_ap]) (fun i hi => by rw [wr_row _ _ _ _ _ (by decide)]; exact hR.2.1.2 i (by omega)) (fun i _ => by rw [wr_row _ _ _ _ _ (by decide)])
    · refine op_rw (S' := S) (r := -2) hS ?_ ?_
      · unfold fX9_undo
        simp only [sp_gd, sp_nm, sp_bind, sp_ite, sp_some, sp_inr]
        exact Sp.of (isT_n a0 a1) ⟨fun _ => ⟨(by trivial), hC⟩, fun z => absurd rfl z⟩
      · unfold fX10_undo
        simp only [sp_gd, sp_nm, sp_bind, sp_ite, sp_some, sp_inr]
        exact Sp.of (mT_n a0 a1) ⟨fun _ => ⟨(by trivial), hR⟩, fun z => absurd rfl z⟩
theorem Sp.eq {α : Type} {x : Option α} {v : α} (h : Sp x (fun z => z = v)) : x = some v := by
  obtain ⟨z, hz, rfl⟩ := h
  exact hz
theorem cl_fault {C : Mem} {S : St} (hS : okS S) (hC : RC C S) (a : Int32) : fX9_fault C a = some (if a = 0 then fltH (S.1 0) (S.1 2 0) else if a = 1 then fltR (S.1 1) (S.1 2 1) else -2) := by
  apply Sp.eq
  unfold fX9_fault
  simp only [sp_gd, sp_nm, sp_bind, sp_ite, sp_some, sp_inr]
  by_cases a0 : a = 0
  · subst a0
    refine Sp.of isT_0 ⟨fun z => absurd z (by decide), fun _ => ⟨fun _ => ?_, fun z => absurd rfl z⟩⟩
    rw [if_pos rfl]
    exact Sp.of (cl_faultH rfl hS.1.1 hC.1.1.1 hC.1.1.2 hS.1.2) rfl
  · by_cases a1 : a = 1
    · subst a1
      refine Sp.of isT_1 ⟨fun z => absurd z (by decide), fun _ => ⟨fun z => absurd z a0, fun _ => ?_⟩⟩
      rw [if_neg a0, if_pos rfl]
      exact Sp.of (cl_faultR rfl hS.2.1.1 hC.1.2.1.1 hC.1.2.1.2 hS.2.1.2) rfl
    · rw [if_neg a0, if_neg a1]
      exact Sp.of (isT_n a0 a1) ⟨fun _ => (by trivial), fun z => absurd rfl z⟩
theorem op_fault {C R : Mem} (h : Rel C R) (a : Int32) : ∃ (r : Int32) (R' : Mem), fX9_fault C a = some r ∧ fX10_fault R a = some (r, R') ∧ Rel C R' := by
  obtain ⟨S, hS, hC, hR⟩ := h
  refine op_ro hS hC (cl_fault hS hC a) ?_
  unfold fX10_fault
  simp only [sp_gd, sp_nm, sp_bind, sp_ite, sp_some, sp_inr]
  by_cases a0 : a = 0
  · subst a0
    refine Sp.of mT_0 ⟨fun z => absurd z (by decide), fun _ => ?_⟩
    exact (md_faultOf hS hR 0).mono (fun z ⟨z1, z2, z3⟩ => ⟨by rw [z1, if_pos rfl, if_pos rfl], hR.fr z3⟩)
  · by_cases a1 : a = 1
    · subst a1
      refine Sp.of mT_1' ⟨fun z => absurd z (by decide), fun _ => ?_⟩
      exact (md_faultOf hS hR 1).mono (fun z ⟨z1, z2, z3⟩ => ⟨by rw [z1, if_neg a0, if_neg a0, if_pos rfl], hR.fr z3⟩)
    · rw [if_neg a0, if_neg a1]
      exact Sp.of (mT_n a0 a1) ⟨fun _ => ⟨(by trivial), hR⟩, fun z => absurd rfl z⟩
/-- isHeir of the reference -/
theorem md_isHeir0 {R : Mem} {S : St} (hS : okS S) (hR : RR R S) {a : Int32} (h : outI a ((told S).1 5 0)) : Sp (fX10_isHeir R a) (fun z => z.1 = 0 ∧ MT z.2 S ∧ frM SL R z.2) := by
  have h8 := (okC_told hS).1
  unfold fX10_isHeir
  simp only [sp_gd, sp_nm, sp_bind, sp_ite, sp_some, sp_inr]
  refine (md_reads hS hR).mono (fun R1 ⟨m1, f1⟩ => ?_)
  rw [m1.1]
  exact Sp.of (inH_0 h (by omega)) ⟨Or.inl rfl, rfl, m1, f1⟩
theorem md_isHeir1 {R : Mem} {S : St} (hS : okS S) (hR : RR R S) {j : Nat} (h : j < (told S).1 5 0) : Sp (fX10_isHeir R (nI j)) (fun z => z.1 = 1 ∧ MT z.2 S ∧ frM SL R z.2) := by
  have h8 := (okC_told hS).1
  unfold fX10_isHeir
  simp only [sp_gd, sp_nm, sp_bind, sp_ite, sp_some, sp_inr]
  refine (md_reads hS hR).mono (fun R1 ⟨m1, f1⟩ => ?_)
  rw [m1.1]
  exact Sp.of (inH_1 h (by omega)) ⟨Or.inr rfl, rfl, m1, f1⟩
theorem op_heir {C R : Mem} (h : Rel C R) (a b : Int32) : ∃ (r : Int32) (R' : Mem), fX9_heir C a b = some r ∧ fX10_heir R a b = some (r, R') ∧ Rel C R' := by
  obtain ⟨S, hS, hC, hR⟩ := h
  have h8 := (okC_told hS).1
  have hg := hC.2.1.1
  rcases ixI a (n := (told S).1 5 0) (by omega) with ha | ⟨j, hj, rfl⟩
  · refine op_ro (r := -2) hS hC (Sp.eq ?_) ?_
    · unfold fX9_heir
      simp only [sp_gd, sp_nm, sp_bind, sp_ite, sp_some, sp_inr]
      exact Sp.of (h_0 hg.2.2.2.1 ha) ⟨fun _ => (by trivial), fun z => absurd rfl z⟩
    · unfold fX10_heir
      simp only [sp_gd, sp_nm, sp_bind, sp_ite, sp_some, sp_inr]
      exact (md_isHeir0 hS hR ha).mono (fun z ⟨z1, z2, z3⟩ => ⟨fun _ => ⟨(by trivial), hR.fr z3⟩, fun q => absurd z1 q⟩)
  · refine op_ro (r := if b = 0 then nI ((told S).1 0 j) else if b = 1 then nI ((told S).1 1 j) else if b = 2 then nI ((told S).1 2 j) else -2) hS hC (Sp.eq ?_) ?_
    · obtain ⟨q0, q1, q2⟩ := hg.1 j hj
      unfold fX9_heir
      simp only [sp_gd, sp_nm, sp_bind, sp_ite, sp_some, sp_inr]
      refine Sp.of (h_1 hg.2.2.2.1 hj (by omega)) ⟨fun z => absurd z (by decide), fun _ => ?_⟩
      rw [inB_nI (by omega), nI_clamp (by omega), q0, q1, q2]
      exact ⟨fun e => ⟨by omega, by rw [if_pos e]⟩, fun e => ⟨fun e1 => ⟨by omega, by rw [if_neg e, if_pos e1]⟩, fun e1 => ⟨fun e2 => ⟨by omega, by rw [if_neg e, if_neg e1, if_pos e2]⟩, fun e2 => by rw [if_neg e, if_neg e1, if_neg e2]⟩⟩⟩
    · unfold fX10_heir
      simp only [sp_gd, sp_nm, sp_bind, sp_ite, sp_some, sp_inr]
      refine (md_isHeir1 hS hR hj).mono (fun z ⟨z1, z2, z3⟩ => ⟨fun q => absurd (z1.symm.trans q) (by decide), fun _ => ?_⟩)
      obtain ⟨q0, q1, q2⟩ := z2.2.1 j hj
      rcases ixI b (n := 3) (by omega) with hb | ⟨i, hi, rfl⟩
      · have n0 : ¬ b = 0 := fun e => by rw [e] at hb; exact absurd hb (by unfold outI; decide)
        have n1 : ¬ b = 1 := fun e => by rw [e] at hb; exact absurd hb (by unfold outI; decide)
        have n2 : ¬ b = 2 := fun e => by rw [e] at hb; exact absurd hb (by unfold outI; decide)
        rw [if_neg n0, if_neg n1, if_neg n2]
        exact Sp.of (in_0 (n := 2) hb (by omega)) ⟨fun _ => ⟨(by trivial), hR.fr z3⟩, fun q => absurd rfl q⟩
      · refine Sp.of (in_1 (j := i) (n := 2) (by omega) (by omega)) ⟨fun q => absurd q (by decide), fun _ => ?_⟩
        unfold fX10_heirOf
        simp only [sp_gd, sp_nm, sp_bind, sp_ite, sp_some, sp_inr]
        rw [inB_nI (by omega), nI_clamp (by omega), q0, q1, q2]
        rcases (show i = 0 ∨ i = 1 ∨ i = 2 by omega) with rfl | rfl | rfl
        · exact ⟨fun _ => ⟨by omega, rfl, hR.fr z3⟩, fun q => absurd rfl q⟩
        · exact ⟨fun q => absurd q (by decide), fun _ => ⟨fun _ => ⟨by omega, rfl, hR.fr z3⟩, fun q => absurd rfl q⟩⟩
        · exact ⟨fun q => absurd q (by decide), fun _ => ⟨fun q => absurd q (by decide), fun _ => ⟨by omega, rfl, hR.fr z3⟩⟩⟩
theorem op_round {C R : Mem} (h : Rel C R) (a : Int32) : ∃ (r : Int32) (R' : Mem), fX9_round C a = some r ∧ fX10_round R a = some (r, R') ∧ Rel C R' := by
  obtain ⟨S, hS, hC, hR⟩ := h
  have hn := (okC_told hS).2.1
  have hg := hC.2.1.1
  rcases ixI a (n := 20) (by omega) with ha | ⟨j, hj, rfl⟩
  · refine op_ro (r := -2) hS hC (Sp.eq ?_) ?_
    · unfold fX9_round
      simp only [sp_gd, sp_nm, sp_bind, sp_ite, sp_some, sp_inr]
      exact Sp.of (w_0 (n := 19) ha (by omega)) ⟨fun _ => (by trivial), fun z => absurd rfl z⟩
    · unfold fX10_round fX10_isStop
      simp only [sp_gd, sp_nm, sp_bind, sp_ite, sp_some, sp_inr]
      exact Sp.of (in_0 (n := 19) ha (by omega)) ⟨Or.inl rfl, fun _ => ⟨(by trivial), hR⟩, fun z => absurd rfl z⟩
  · refine op_ro (r := if j < (told S).1 6 0 then nI ((told S).1 4 j) else -1) hS hC (Sp.eq ?_) ?_
    · unfold fX9_round
      simp only [sp_gd, sp_nm, sp_bind, sp_ite, sp_some, sp_inr]
      refine Sp.of (w_1 (j := j) (n := 19) (by omega) (by omega)) ⟨fun z => absurd z (by decide), fun _ => ?_⟩
      rw [hg.2.2.2.2.1, nI_leI (by omega) (by omega), inB_nI (by omega), nI_clamp (by omega)]
      exact ⟨fun e => by rw [if_neg (by omega)], fun e => ⟨hj, by rw [if_pos (by omega), hg.2.2.1 j (by omega)]⟩⟩
    · unfold fX10_round fX10_isStop fX10_roundOf
      simp only [sp_gd, sp_nm, sp_bind, sp_ite, sp_some, sp_inr]
      refine Sp.of (in_1 (j := j) (n := 19) (by omega) (by omega)) ⟨Or.inr rfl, fun z => absurd z (by decide), fun _ => ?_⟩
      refine (md_reads hS hR).mono (fun R1 ⟨m1, f1⟩ => ?_)
      rw [m1.2.2.1, nI_leI (by omega) (by omega), inB_nI (by omega), nI_clamp (by omega)]
      exact ⟨fun e => ⟨by rw [if_neg (by omega)], hR.fr f1⟩, fun e => ⟨hj, by rw [if_pos (by omega), m1.2.2.2 j (by omega)], hR.fr f1⟩⟩
