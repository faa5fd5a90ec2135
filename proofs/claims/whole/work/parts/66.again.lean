/-! ===== again ===== -/
theorem ofN (u : Int32) : u = nI u.toBitVec.toNat := Int32.toBitVec_inj.mp (BitVec.eq_of_toNat_eq (by rw [pk_tn u.toBitVec.isLt]))
def agV (u : Int32) (h : Nat) : Nat := u.toBitVec.toNat / 2 ^ 16 % h
theorem agV_e {u : Int32} {h : Nat} (h0 : 0 < h) (h8 : h ≤ 8) : ((Int32.toUInt32 u >>> (Int32.toUInt32 16 &&& Int32.toUInt32 31)).toInt32) - ((Int32.toUInt32 u >>> (Int32.toUInt32 16 &&& Int32.toUInt32 31)).toInt32) / nI h * nI h = nI (agV u h) := by
  have e := pk_ushrN (n := u.toBitVec.toNat) u.toBitVec.isLt 16 16 (by decide)
  rw [← ofN u] at e
  have hl : u.toBitVec.toNat / 2 ^ 16 < 2 ^ 31 := by
    have := u.toBitVec.isLt
    omega
  rw [e, pk_rem hl h0 (by omega)]
  rfl
def ags (x : Int32) : Nat → Int32
  | 0 => x
  | n + 1 => (1103515245 : Int32) * ags x n + 12345
def agC (γ : Cfg) (x : Int32) (m : Nat) : Cfg := (fun f i => if f = 4 then agV (ags x (i + 1)) (γ.1 5 0) else if f = 6 then (if γ.1 5 0 = 0 then 0 else m) else γ.1 f i, γ.2)
theorem agC_o {γ : Cfg} {x : Int32} {m f i : Nat} (h4 : f ≠ 4) (h6 : f ≠ 6) : (agC γ x m).1 f i = γ.1 f i := by
  unfold agC
  dsimp only
  rw [if_neg h4, if_neg h6]
theorem agC_6 {γ : Cfg} {x : Int32} {m i : Nat} : (agC γ x m).1 6 i = if γ.1 5 0 = 0 then 0 else m := by
  unfold agC
  dsimp only
  rw [if_neg (by decide), if_pos rfl]
theorem agC_4 {γ : Cfg} {x : Int32} {m i : Nat} : (agC γ x m).1 4 i = agV (ags x (i + 1)) (γ.1 5 0) := by
  unfold agC
  dsimp only
  rw [if_pos rfl]
theorem okC_ag {γ : Cfg} (h : okC γ) (x : Int32) {m : Nat} (hm : m ≤ 20) : okC (agC γ x m) := by
  obtain ⟨h1, h2, h3, h4, h5, h6, h7, h8⟩ := h
  refine ⟨by rw [agC_o (by omega) (by omega)]; exact h1, by rw [agC_6]; split <;> omega, fun i hi => ?_, by rw [agC_o (by omega) (by omega)]; exact h4, by rw [agC_o (by omega) (by omega)]; exact h5, by rw [agC_o (by omega) (by omega)]; exact h6, by rw [agC_o (by omega) (by omega)]; exact h7, fun k hk => ?_⟩
  · rw [agC_o (by omega) (by omega)] at hi
    rw [agC_o (by omega) (by omega), agC_o (by omega) (by omega), agC_o (by omega) (by omega)]; exact h3 i hi
  · rw [agC_6] at hk
    rw [agC_4]
    by_cases h0 : γ.1 5 0 = 0
    · rw [if_pos h0] at hk
      omega
    · have := Nat.mod_lt ((ags x (k + 1)).toBitVec.toNat / 2 ^ 16) (show 0 < γ.1 5 0 by omega)
      unfold agV
      omega
theorem cl_draw {M : Mem} {γ : Cfg} (hγ : okC γ) (hg : RG (M 7) γ) (x : Int32) {m : Nat} (hm : m ≤ 20) : Sp (fX2_drawRound 7 M x (nI m)) (fun M' => RG (M' 7) (agC γ x m) ∧ frO 7 M M') := by
  obtain ⟨h1, h2, h3, h4, h5, h6, h7⟩ := hg
  have h8 := hγ.1
  have fin : ∀ M' : Mem, (∀ f, f ≠ 4 → f ≠ 6 → M' 7 f = M 7 f) → M' 7 6 0 = nI (if γ.1 5 0 = 0 then 0 else m) → (∀ k, k < (if γ.1 5 0 = 0 then 0 else m) → M' 7 4 k = nI (agV (ags x (k + 1)) (γ.1 5 0))) → RG (M' 7) (agC γ x m) := by
    intro M' e e6 e4
    refine ⟨fun i hi => ?_, fun i hi => ?_, fun k hk => ?_, ?_, ?_, ?_, ?_⟩
    · rw [agC_o (by omega) (by omega)] at hi
      rw [agC_o (by omega) (by omega), agC_o (by omega) (by omega), agC_o (by omega) (by omega), e 0 (by omega) (by omega), e 1 (by omega) (by omega), e 2 (by omega) (by omega)]; exact h1 i hi
    · rw [agC_o (by omega) (by omega), e 3 (by omega) (by omega)]; exact h2 i hi
    · rw [agC_6] at hk
      rw [agC_4]; exact e4 k hk
    · rw [agC_o (by omega) (by omega), e 5 (by omega) (by omega)]; exact h4
    · rw [agC_6]; exact e6
    · rw [e 7 (by omega) (by omega)]; exact h6
    · rw [e 8 (by omega) (by omega)]; exact h7
  unfold fX2_drawRound
  simp only [sp_gd, sp_nm, sp_bind, sp_ite, sp_some, sp_inr]
  rw [wr_row _ _ _ _ _ (by decide), h4]
  by_cases h0 : γ.1 5 0 = 0
  · refine ⟨fun _ => ⟨fin _ (fun f _ hf => wr_row _ _ _ _ _ (fun z => hf z.2)) ?_ (fun k hk => ?_), fun o ho => wr_ob _ _ _ _ _ ho⟩, fun hc => absurd ?_ hc⟩
    · rw [wr_ap, if_pos ⟨rfl, rfl, rfl⟩, if_pos h0]; rfl
    · rw [if_pos h0] at hk
      omega
    · rw [h0]; decide
  · refine ⟨fun hc => absurd hc (nI_nle (by omega) (by omega)), fun _ => ⟨fun _ => ?_, fun hc => absurd (show nI m ≤ 20 by rw [il20]; exact nI_le hm (by omega)) hc⟩⟩
    refine lp_for (fun i st => st.1 = ags x i ∧ st.2.1 = nI i ∧ frO 7 M st.2.2 ∧ (∀ f, f ≠ 4 → f ≠ 6 → st.2.2 7 f = M 7 f) ∧ st.2.2 7 6 0 = nI m ∧ ∀ k, k < i → st.2.2 7 4 k = nI (agV (ags x (k + 1)) (γ.1 5 0))) m (by omega) ?_ ?_ (Nat.zero_le _) ⟨rfl, rfl, fun o ho => ?_, fun f _ hf => ?_, ?_, fun k hk => absurd hk (Nat.not_lt_zero _)⟩
    · rintro i ⟨y, z, Mc⟩ hi ⟨a1, a2, a3, a4, a5, a6⟩
      dsimp only at a1 a2 a3 a4 a5 a6 ⊢
      subst a1 a2
      unfold fX2_drawRound_29
      simp only [sp_gd, sp_nm, sp_bind, sp_ite, sp_some, sp_inr]
      rw [a5, nI_leI (by omega) (by omega), a4 5 (by omega) (by omega), h4, inB_nI (by omega), nI_clamp (by omega), nI_1, agV_e (by omega) h8]
      refine ⟨fun hc => absurd hc (by omega), fun _ => ⟨nI_ne0 (by omega) (by omega), by omega, rfl, rfl, fun o ho => ?_, fun f h4 h6 => ?_, ?_, fun k hk => ?_⟩⟩
      · dsimp only
        rw [wr_ob _ _ _ _ _ ho]; exact a3 o ho
      · dsimp only
        rw [wr_row _ _ _ _ _ (fun z => h4 z.2)]; exact a4 f h4 h6
      · dsimp only
        rw [wr_row _ _ _ _ _ (by decide)]; exact a5
      · dsimp only
        rw [wr_ap]
        by_cases hki : k = i
        · rw [if_pos ⟨rfl, rfl, hki⟩, hki]; rfl
        · rw [if_neg (fun z => hki z.2.2)]; exact a6 k (by omega)
    · rintro ⟨y, z, Mc⟩ ⟨a1, a2, a3, a4, a5, a6⟩
      dsimp only at a1 a2 a3 a4 a5 a6 ⊢
      subst a1 a2
      unfold fX2_drawRound_29
      simp only [sp_gd, sp_nm, sp_bind, sp_ite, sp_some, sp_inr]
      rw [a5, nI_leI (by omega) (by omega)]
      exact ⟨fun _ => ⟨fin _ a4 (by rw [if_neg h0]; exact a5) (fun k hk => by rw [if_neg h0] at hk; exact a6 k hk), a3⟩, fun hc => absurd (Nat.le_refl _) hc⟩
    · dsimp only
      rw [wr_ob _ _ _ _ _ ho, wr_ob _ _ _ _ _ ho]
    · dsimp only
      rw [wr_row _ _ _ _ _ (fun z => hf z.2), wr_row _ _ _ _ _ (fun z => hf z.2)]
    · dsimp only
      rw [wr_ap, if_pos ⟨rfl, rfl, rfl⟩]
def agR (γ : Cfg) (x : Int32) (m : Nat) (b : Int32) : Int32 := if b = 0 then nI (sN ((stW (agC γ x m) ((agC γ x m).1 6 0)).1 0) (γ.1 5 0)) else nI ((stW (agC γ x m) ((agC γ x m).1 6 0)).1 6 0)
theorem cl_again {C : Mem} {S : St} (hS : okS S) (hC : RC C S) (x : Int32) {m b : Nat} (h1 : 1 ≤ m) (hm : m ≤ 20) (hb : b ≤ 1) : Sp (fX9_again C x (nI m) (nI b)) (fun z => z.1 = agR (told S) x m (nI b) ∧ frS [6, 7, 8] C z.2) := by
  have hγ := okC_told hS
  have hg := hC.2.1.1
  unfold fX9_again
  simp only [sp_gd, sp_nm, sp_bind, sp_ite, sp_some, sp_inr]
  refine ⟨fun z => absurd z (by rw [il1]; exact nI_nlt h1 (by omega)), fun _ => ⟨fun z => absurd z (by rw [il20]; exact nI_nlt hm (by omega)), fun _ => Sp.of (w_1 (n := 1) hb (by omega)) ⟨fun z => absurd z (by decide), fun _ => ?_⟩⟩⟩
  refine (cl_prepare hγ hg (by decide)).mono (fun M1 ⟨f1, f2⟩ => ?_)
  refine (cl_draw hγ f1 x hm).mono (fun M2 ⟨g1, g2⟩ => ?_)
  have ok2 := okC_ag hγ x hm
  have e5 : (agC (told S) x m).1 5 0 = (told S).1 5 0 := agC_o (by omega) (by omega)
  refine (cl_run ok2 g1).mono (fun M3 ⟨t1, t2, t3⟩ => ?_)
  have fr : frS [6, 7, 8] C M3 := ((f2.tr g2).S (by decide)).tr (t3.sub (by decide))
  refine ⟨fun h0 => Sp.of (cl_allShares (r := (stW (agC (told S) x m) ((agC (told S) x m).1 6 0)).1 0) hγ.1 (by rw [t1.2.1, e5]) (fun i hi => (t1.1 i (by rw [e5]; exact hi)).1)) ⟨?_, fr⟩, fun h0 => ⟨?_, fr⟩⟩
  · unfold agR
    rw [if_pos h0]
  · unfold agR
    rw [if_neg h0]
    exact t1.2.2.2.2.1
theorem md_againOf {R : Mem} {S : St} (hS : okS S) (hR : RR R S) (x b : Int32) {m : Nat} (h1 : 1 ≤ m) (hm : m ≤ 20) : Sp (fX10_againOf R x (nI m) b) (fun z => z.1 = agR (told S) x m b ∧ frM SL R z.2) := by
  have hγ := okC_told hS
  have h8 := hγ.1
  have ok2 := okC_ag hγ x hm
  have e5 : (agC (told S) x m).1 5 0 = (told S).1 5 0 := agC_o (by omega) (by omega)
  unfold fX10_againOf
  simp only [sp_gd, sp_nm, sp_bind, sp_ite, sp_some, sp_inr]
  refine (md_asTold hS hR).mono (fun R1 ⟨⟨g1, g2, g3, g4, g5, g6, g7⟩, m2, f1⟩ => ?_)
  have key : Sp (fX10_againOf_20 x (nI m) b x (nI (if (told S).1 5 0 = 0 then 0 else m)) R1) (fun z => z.1 = agR (told S) x m b ∧ frM SL R z.2) := by
    have hm' : (if (told S).1 5 0 = 0 then 0 else m) ≤ 20 := by split <;> omega
    unfold fX10_againOf_20
    simp only [sp_gd, sp_nm, sp_bind, sp_ite, sp_some, sp_inr]
    refine lp_for (fun i st => st.1 = ags x i ∧ st.2.1 = nI i ∧ frM [11, 12] R1 st.2.2 ∧ st.2.2 0 11 0 = nI (if (told S).1 5 0 = 0 then 0 else m) ∧ ∀ k, k < i → st.2.2 0 12 k = nI (agV (ags x (k + 1)) ((told S).1 5 0))) (if (told S).1 5 0 = 0 then 0 else m) (by omega) ?_ ?_ (Nat.zero_le _) ⟨rfl, rfl, frM.rf.w _ _ _ (by decide), ?_, fun k hk => absurd hk (Nat.not_lt_zero _)⟩
    · rintro i ⟨y, z, Mc⟩ hi ⟨a1, a2, a3, a4, a5⟩
      dsimp only at a1 a2 a3 a4 a5 ⊢
      subst a1 a2
      have h0 : 0 < (told S).1 5 0 := by
        apply Nat.pos_of_ne_zero
        intro h
        rw [if_pos h] at hi
        omega
      unfold fX10_againOf_26
      simp only [sp_gd, sp_nm, sp_bind, sp_ite, sp_some, sp_inr]
      rw [a4, nI_leI (by omega) (by omega), a3 2 (by decide), g1, inB_nI (by omega), nI_clamp (by omega), nI_1, agV_e h0 h8]
      refine ⟨fun hc => absurd hc (by omega), fun _ => ⟨nI_ne0 (by omega) (by omega), by omega, rfl, rfl, a3.w _ _ _ (by decide), ?_, fun k hk => ?_⟩⟩
      · dsimp only
        rw [wr_row _ _ _ _ _ (by decide)]; exact a4
      · dsimp only
        rw [wr_ap]
        by_cases hki : k = i
        · rw [if_pos ⟨rfl, rfl, hki⟩, hki]; rfl
        · rw [if_neg (fun z => hki z.2.2)]; exact a5 k (by omega)
    · rintro ⟨y, z, Mc⟩ ⟨a1, a2, a3, a4, a5⟩
      dsimp only at a1 a2 a3 a4 a5 ⊢
      subst a1 a2
      unfold fX10_againOf_26 fX10_againOf_70
      simp only [sp_gd, sp_nm, sp_bind, sp_ite, sp_some, sp_inr]
      rw [a4, nI_leI (by omega) (by omega)]
      refine ⟨fun _ => ?_, fun hc => absurd (Nat.le_refl _) hc⟩
      have mg : MG Mc (agC (told S) x m) := by
        refine ⟨?_, fun i hi => ?_, fun i hi => ?_, ?_, fun k hk => ?_, ?_, ?_⟩
        · rw [a3 2 (by decide), e5]; exact g1
        · rw [e5] at hi
          rw [agC_o (by omega) (by omega), agC_o (by omega) (by omega), agC_o (by omega) (by omega), a3 3 (by decide), a3 4 (by decide), a3 5 (by decide)]; exact g2 i hi
        · rw [agC_o (by omega) (by omega), a3 8 (by decide)]; exact g3 i hi
        · rw [agC_6]; exact a4
        · rw [agC_6] at hk
          rw [agC_4]; exact a5 k hk
        · rw [a3 13 (by decide)]; exact g6
        · rw [a3 14 (by decide)]; exact g7
      refine (md_runs ok2 mg).mono (fun M3 ⟨⟨t1, t2, _⟩, t3⟩ => ?_)
      have fr : frM SL R M3 := (f1.tr (a3.sub (by decide))).tr (t3.sub RuL_SL)
      refine ⟨fun h0 => Sp.of (md_estateNow (r := (stW (agC (told S) x m) ((agC (told S) x m).1 6 0)).1 0) h8 (by rw [t1.1, e5]) (fun i hi => (t2.1 i (by rw [e5]; exact hi)).1)) ⟨?_, fr⟩, fun h0 => ⟨?_, fr⟩⟩
      · unfold agR
        rw [if_pos h0]
      · unfold agR
        rw [if_neg h0]
        exact t2.2.2.2.1
    · dsimp only
      rw [wr_ap, if_pos ⟨rfl, rfl, rfl⟩]
  rw [g1, il0, nI_eq (by omega) (by omega), ← il0]
  refine ⟨fun h0 => ?_, fun h0 => ?_⟩
  · rw [if_pos h0, ← il0] at key
    exact key
  · rw [if_neg h0] at key
    exact key
theorem op_again {C R : Mem} (h : Rel C R) (a b c : Int32) : ∃ (r : Int32) (C' R' : Mem), fX9_again C a b c = some (r, C') ∧ fX10_again R a b c = some (r, R') ∧ Rel C' R' := by
  obtain ⟨S, hS, hC, hR⟩ := h
  by_cases hb : b < 1 ∨ 20 < b
  · refine op_rw (S' := S) (r := -2) hS ?_ ?_
    · unfold fX9_again
      simp only [sp_gd, sp_nm, sp_bind, sp_ite, sp_some, sp_inr]
      exact ⟨fun _ => ⟨(by trivial), hC⟩, fun h1 => ⟨fun _ => ⟨(by trivial), hC⟩, fun h2 => absurd hb (fun z => z.elim h1 h2)⟩⟩
    · unfold fX10_again
      simp only [sp_gd, sp_nm, sp_bind, sp_ite, sp_some, sp_inr]
      refine Sp.of md_in ?_
      rw [if_neg (fun z => hb.elim z.1 z.2)]
      exact ⟨fun _ => ⟨(by trivial), hR⟩, fun q => absurd rfl q⟩
  · have hb1 : ¬ b < 1 := fun z => hb (Or.inl z)
    have hb2 : ¬ 20 < b := fun z => hb (Or.inr z)
    obtain ⟨m, hm1, hm2, rfl⟩ : ∃ m : Nat, 1 ≤ m ∧ m ≤ 20 ∧ b = nI m := by
      rcases ixI b (n := 21) (by omega) with h | ⟨m, hm, e⟩
      · rcases h with h | h
        · exact absurd (Int32.lt_trans h (by decide)) hb1
        · exact absurd (nI_lt_of_le (n := 20) h (by omega)) hb2
      · refine ⟨m, ?_, by omega, e⟩
        apply Nat.pos_of_ne_zero
        intro h
        exact hb1 (by rw [e, h]; decide)
    rcases ixI c (n := 2) (by omega) with hc | ⟨w, hw, rfl⟩
    · refine op_rw (S' := S) (r := -2) hS ?_ ?_
      · unfold fX9_again
        simp only [sp_gd, sp_nm, sp_bind, sp_ite, sp_some, sp_inr]
        exact ⟨fun z => absurd z hb1, fun _ => ⟨fun z => absurd z hb2, fun _ => Sp.of (w_0 (n := 1) hc (by omega)) ⟨fun _ => ⟨(by trivial), hC⟩, fun z => absurd rfl z⟩⟩⟩
      · unfold fX10_again
        simp only [sp_gd, sp_nm, sp_bind, sp_ite, sp_some, sp_inr]
        refine Sp.of md_in ?_
        rw [if_pos ⟨hb1, hb2⟩]
        refine ⟨fun q => absurd q (by decide), fun _ => Sp.of (in_0 (n := 1) hc (by omega)) ⟨fun _ => ⟨(by trivial), hR⟩, fun q => absurd rfl q⟩⟩
    · refine op_rw (S' := S) hS ((cl_again hS hC a hm1 hm2 (b := w) (by omega)).mono (fun z ⟨z1, z2⟩ => ⟨z1, hC.trial z2⟩)) ?_
      unfold fX10_again
      simp only [sp_gd, sp_nm, sp_bind, sp_ite, sp_some, sp_inr]
      refine Sp.of md_in ?_
      rw [if_pos ⟨hb1, hb2⟩]
      refine ⟨fun q => absurd q (by decide), fun _ => Sp.of (in_1 (j := w) (n := 1) (by omega) (by omega)) ⟨fun q => absurd q (by decide), fun _ => ?_⟩⟩
      exact (md_againOf hS hR a (nI w) hm1 hm2).mono (fun y ⟨y1, y2⟩ => ⟨y1, hR.fr y2⟩)
