/-! ===== the fairest row: the class's search ===== -/
theorem cl_copyW {o s : Nat} {M : Mem} {γ : Cfg} {w : Wk} (h8 : γ.1 5 0 ≤ 8) (hne : s ≠ o) (hw : RW (M s) γ w) : Sp (fX7_copyFrom o s M) (fun M' => RW (M' o) γ w ∧ frO o M M') := by
  obtain ⟨w1, w2, w3, w4, w5, w6⟩ := hw
  unfold fX7_copyFrom
  simp only [sp_gd, sp_nm, sp_bind, sp_ite, sp_some, sp_inr]
  refine ⟨⟨fun i hi => ?_, ?_, ?_, ?_, ?_, ?_⟩, fun x hx => ?_⟩
  · obtain ⟨a1, a2, a3⟩ := w1 i hi
    have : i < 8 := by omega
    simp [wr_ap, cp_ap, hne, cl0, cl8, this, a1, a2, a3]
  · simp [wr_ap, cp_ap, hne, w2]
  · simp [wr_ap, cp_ap, hne, w3]
  · simp [wr_ap, cp_ap, hne, w4]
  · simp [wr_ap, cp_ap, hne, w5]
  · simp [wr_ap, cp_ap, hne, w6]
  · rw [wr_ob _ _ _ _ _ hx, wr_ob _ _ _ _ _ hx, wr_ob _ _ _ _ _ hx, wr_ob _ _ _ _ _ hx, wr_ob _ _ _ _ _ hx, cp_ob _ _ _ _ _ _ _ _ hx, cp_ob _ _ _ _ _ _ _ _ hx, cp_ob _ _ _ _ _ _ _ _ hx]
theorem mg_le {γ : Cfg} (hγ : okC γ) {j : Nat} : mg γ j ≤ 18 := gn_le _ _
theorem cl_mostGain {M : Mem} {γ : Cfg} (hγ : okC γ) (hg : RG (M 3) γ) {j : Nat} (hj : j < γ.1 5 0) : fX2_mostGain 3 M (nI j) = some (nI (mg γ j)) := by
  have h8 := hγ.1
  obtain ⟨b1, b2, b3⟩ := hγ.2.2.1 j hj
  have t3 := hγ.2.2.2.2.2.2.1
  apply Sp.eq
  unfold fX2_mostGain
  simp only [sp_gd, sp_nm, sp_bind, sp_ite, sp_some, sp_inr]
  rw [inB_nI (by omega), nI_clamp (by omega), (hg.1 j hj).2.2, (hg.1 j hj).2.1, cl3, hg.2.1 3 (by omega), il9, imin_nI (by omega) (by omega), imin_nI (by omega) (by omega), nI_add, imin_nI (by omega) (by omega), il0, nI_leI (by omega) (by omega), il2, pk_mul]
  refine ⟨by omega, by omega, fun h0 => ?_, fun h0 => ?_⟩
  · unfold mg gn
    rw [if_neg (by omega)]
  · unfold mg gn
    rw [if_pos (by omega), Nat.mul_comm]
theorem cl_hope {o : Nat} {M : Mem} {γ : Cfg} {w : Wk} {q : Nat → Bool} {mask : Int32} (hγ : okC γ) (hg : RG (M 3) γ) (hw : RW (M o) γ w) (hb : ∀ i, i < γ.1 5 0 → w.1 0 i ≤ 360) (hm : ∀ x, x < γ.1 5 0 → (q x = true ↔ ¬ isO mask x)) : fX0_hope 3 o M mask = some (nI (hpN γ q w (γ.1 5 0))) := by
  have h8 := hγ.1
  apply Sp.eq
  unfold fX0_hope
  simp only [sp_gd, sp_nm, sp_bind, sp_ite, sp_some, sp_inr]
  refine lp_for (fun i st => st = (nI (hpN γ q w i), nI i)) (γ.1 5 0) (by omega) ?_ ?_ (Nat.zero_le _) rfl
  · rintro i st hi rfl
    have hl := hpN_le (γ := γ) (q := q) (w := w) i
    have hbi := hb i hi
    have hmg := mg_le hγ (j := i)
    unfold fX0_hope_6 fX0_hope_29 fX0_hope_53
    simp only [sp_gd, sp_nm, sp_bind, sp_ite, sp_some, sp_inr]
    rw [hg.2.2.2.1, nI_leI (by omega) (by omega), inB_nI (by omega), nI_clamp (by omega), (hw.1 i hi).1, nI_1, imin_nI (by omega) (by omega)]
    refine ⟨fun hc => absurd hc (by omega), fun _ => ⟨fun h0 => ⟨fun _ => Sp.of (cl_mostGain hγ hg hi) ?_, fun z => absurd (by trivial) z⟩, fun h0 => ⟨fun z => absurd z (by decide), fun _ => ⟨by omega, ?_⟩⟩⟩⟩
    · show _ = _
      rw [imin_nI (by omega) (by omega), hpN, if_pos ((hm i hi).mpr (fun z => z h0))]
    · show _ = _
      rw [hpN, if_neg (fun z => (hm i hi).mp z h0)]
  · rintro st rfl
    unfold fX0_hope_6
    simp only [sp_gd, sp_nm, sp_bind, sp_ite, sp_some, sp_inr]
    rw [hg.2.2.2.1, nI_leI (by omega) (by omega)]
    exact ⟨fun _ => rfl, fun hc => absurd (Nat.le_refl _) hc⟩
def bI (n : Nat) : Int32 := if n = 0 then -1 else nI (n - 1)
theorem bI_le {a n : Nat} (ha : a < 2147483648) (hn : n ≤ 1001) : nI a ≤ bI n ↔ a + 1 ≤ n := by
  unfold bI
  by_cases h0 : n = 0
  · rw [if_pos h0, Int32.le_iff_toInt_le, nI_toInt ha]
    have : (-1 : Int32).toInt = -1 := by decide
    omega
  · rw [if_neg h0, nI_leI ha (by omega)]
    omega
def UR (x : Ob) (h : Nat) (u : Nat × List Nat) : Prop := u.1 ≤ 1001 ∧ x 3 0 = bI u.1 ∧ (0 < u.1 → ∀ i, i < h → x 2 i = nI (u.2.getD i 0))
theorem mk_s {mask : Int32} {q : Nat → Bool} {h x : Nat} (h8 : h ≤ 8) (hx : x < h) (hm : ∀ y, y < h → (q y = true ↔ ¬ isO mask y)) : ∀ y, y < h → (rmQ q x y = true ↔ ¬ isO (mask ||| ((1 : Int32) <<< (nI x &&& 31))) y) := by
  intro y hy
  rw [rmQ_t, hm y hy]
  show _ ↔ ¬ ¬ _ = _
  rw [isO_or, or_z, one_b x (by omega) y (by omega)]
  exact ⟨fun z w => w ⟨Decidable.not_not.mp z.2, z.1⟩, fun z => ⟨fun e => z (fun w => w.2 e), fun w => z (fun v => w v.1)⟩⟩
theorem cl_seek {γ : Cfg} (hγ : okC γ) (hh : 0 < γ.1 5 0) : ∀ (n f : Nat) (q : Nat → Bool) (p : List Nat) (mask : Int32) (u : Nat × List Nat) (M : Mem), n < f → FI γ n q p → RG (M 3) γ → RW (M (12 + p.length)) γ (wp γ p) → (∀ x, x < γ.1 5 0 → (q x = true ↔ ¬ isO mask x)) → (∀ i, i < p.length → M 11 1 i = nI (p.getD i 0)) → UR (M 11) (γ.1 5 0) u → u.1 ≤ hpN γ q (wp γ p) (γ.1 5 0) → Sp (fX0_seek f 3 M (nI p.length) mask) (fun M' => UR (M' 11) (γ.1 5 0) (fairF γ n (lq (γ.1 5 0) q) p u) ∧ (∀ i, i < p.length → M' 11 1 i = M 11 1 i) ∧ ∀ o, o ≠ 11 → (o ≤ 12 + p.length ∨ 20 < o) → M' o = M o)
  | n, 0, _, _, _, _, _, h, _, _, _, _, _, _, _ => absurd h (Nat.not_lt_zero _)
  | 0, f + 1, q, p, mask, u, M, _, hF, hg, hw, hm, hp, hU, hu => by
    have h8 := hγ.1
    have hl : p.length = γ.1 5 0 := by have := hF.1; omega
    have hb : ∀ i, i < γ.1 5 0 → (wp γ p).1 0 i ≤ 360 := fun i hi => ((Bd_20 (wp_Bd hγ hF.2.2.1) (by omega)).2.2.2 i hi).1
    have e : valP γ p = lsN ((wp γ p).1 0) (γ.1 5 0) := by
      unfold valP wp
      rw [hl]
    have e2 := hp_ls (γ := γ) (q := q) (w := wp γ p) (γ.1 5 0) hh (lq_0 hF.2.1) hF.2.2.2.2
    unfold fX0_seek fX0_seek_0 fX0_seek_14
    simp only [sp_gd, sp_nm, sp_bind, sp_ite, sp_some, sp_inr]
    rw [hg.2.2.2.1, nI_leI (by omega) (by omega), inB_nI (by omega), nI_clamp (by omega)]
    refine ⟨fun _ => ⟨by omega, Sp.of (cl_hope hγ hg hw hb hm) ⟨?_, fun i hi => ?_, fun o ho _ => ?_⟩⟩, fun hc => absurd (by omega) hc⟩
    · unfold fairF fstp
      rw [e, ← e2, if_pos (by omega)]
      have hle := lsN_le (r := (wp γ p).1 0) (γ.1 5 0)
      refine ⟨by dsimp only; omega, ?_, fun _ i hi => ?_⟩
      · simp only [cp_ap, wr_ap]
        rw [if_neg (by decide), if_pos (by decide)]
        unfold bI
        rw [if_neg (by omega), Nat.add_sub_cancel]
      · simp only [cp_ap, wr_ap]
        rw [if_pos (by decide), if_pos (by rw [cl0, cl8]; omega), if_neg (fun z => by omega), cl0, show 0 + (i - 0) = i by omega]
        exact hp i (by omega)
    · simp only [cp_ap, wr_ap]
      rw [if_neg (by decide), if_neg (fun z => by omega)]
    · rw [cp_ob _ _ _ _ _ _ _ _ ho, wr_ob _ _ _ _ _ ho]
  | n + 1, f + 1, q, p, mask, u, M, hf, hF, hg, hw, hm, hp, hU, hu => by
    have h8 := hγ.1
    have hl : p.length < γ.1 5 0 := by have := hF.1; omega
    unfold fX0_seek fX0_seek_0
    simp only [sp_gd, sp_nm, sp_bind, sp_ite, sp_some, sp_inr]
    rw [hg.2.2.2.1, nI_leI (by omega) (by omega), il8, nI_ltI (by omega) (by omega), nI_1, inB_nI (by omega), nI_clamp (by omega)]
    refine ⟨fun hc => absurd hc (by omega), fun _ => ⟨fun _ => ⟨by omega, ?_⟩, fun hc => absurd (by omega) hc⟩⟩
    have eF : fairF γ (n + 1) (lq (γ.1 5 0) q) p u = (lq (γ.1 5 0) q).foldl (fun u x => fairF γ n ((lq (γ.1 5 0) q).erase x) (p ++ [x]) u) u := rfl
    rw [eF]
    refine lp_for (fun i st => st.1 = 12 + (p.length + 1) ∧ st.2.1 = nI i ∧ UR (st.2.2 11) (γ.1 5 0) ((lq i q).foldl (fun u x => fairF γ n ((lq (γ.1 5 0) q).erase x) (p ++ [x]) u) u) ∧ (∀ i, i < p.length → st.2.2 11 1 i = M 11 1 i) ∧ ∀ o, o ≠ 11 → (o ≤ 12 + p.length ∨ 20 < o) → st.2.2 o = M o) (γ.1 5 0) (by omega) ?_ ?_ (Nat.zero_le _) ⟨rfl, rfl, hU, fun _ _ => rfl, fun _ _ _ => rfl⟩
    · rintro i ⟨p4, x5, Mc⟩ hi ⟨a1, a2, a3, a4, a5⟩
      dsimp only at a1 a2 a3 a4 a5 ⊢
      subst a1 a2
      have g3 : RG (Mc 3) γ := by rw [a5 3 (by decide) (Or.inl (by omega))]; exact hg
      unfold fX0_seek_58 fX0_seek_137
      simp only [sp_gd, sp_nm, sp_bind, sp_ite, sp_some, sp_inr]
      rw [g3.2.2.2.1, nI_leI (by omega) (by omega), inB_nI (by omega), inB_nI (by omega), nI_clamp (by omega), nI_1]
      refine ⟨fun hc => absurd hc (by omega), fun _ => ⟨fun h0 => ⟨by omega, by omega, ?_⟩, fun h0 => ⟨rfl, rfl, ?_, a4, a5⟩⟩⟩
      · have hq : q i = true := (hm i hi).mpr (fun z => z h0)
        have ew : wr Mc 11 1 p.length (nI i) (12 + p.length) = M (12 + p.length) := by rw [wr_ob _ _ _ _ _ (by omega)]; exact a5 _ (by omega) (Or.inl (Nat.le_refl _))
        refine (cl_copyW (o := 12 + (p.length + 1)) (γ := γ) (w := wp γ p) h8 (by omega) (by rw [ew]; exact hw)).mono (fun M1 ⟨c1, c2⟩ => ?_)
        have g4 : RG (M1 3) γ := by rw [c2 3 (by omega), wr_ob _ _ _ _ _ (by decide)]; exact g3
        refine (cl_visit (γ := γ) (w := wp γ p) (k := p.length) hγ g4 (by omega) c1 (wp_Bd hγ hF.2.2.1) (by omega) (by omega)).mono (fun M2 ⟨v1, _, v3⟩ => ?_)
        rw [← wp_s] at v1
        have g5 : RG (M2 3) γ := by rw [v3 3 (by omega)]; exact g4
        have hF2 := FI_s hγ hF hi hq
        have hb : ∀ j, j < γ.1 5 0 → (wp γ (p ++ [i])).1 0 j ≤ 360 := fun j hj => ((Bd_20 (wp_Bd hγ hF2.2.2.1) (by have := hF2.1; omega)).2.2.2 j hj).1
        have hm2 := mk_s h8 hi hm
        have e11 : ∀ fl, M2 11 fl = wr Mc 11 1 p.length (nI i) 11 fl := fun fl => by rw [v3 11 (by omega), c2 11 (by omega)]
        have hU2 : UR (M2 11) (γ.1 5 0) ((lq i q).foldl (fun u x => fairF γ n ((lq (γ.1 5 0) q).erase x) (p ++ [x]) u) u) := by
          refine ⟨a3.1, ?_, fun hz j hj => ?_⟩
          · rw [e11, wr_row _ _ _ _ _ (by decide)]; exact a3.2.1
          · rw [e11, wr_row _ _ _ _ _ (by decide)]; exact a3.2.2 hz j hj
        have hrow : ∀ j, j < p.length → M2 11 1 j = M 11 1 j := fun j hj => by
          rw [e11, wr_ap, if_neg (fun z => by omega)]; exact a4 j hj
        have hfr : ∀ o, o ≠ 11 → (o ≤ 12 + p.length ∨ 20 < o) → M2 o = M o := fun o ho hc => by
          rw [v3 o (by omega), c2 o (by omega), wr_ob _ _ _ _ _ ho]; exact a5 o ho hc
        refine Sp.of (cl_hope hγ g5 v1 hb hm2) ?_
        have hl3 := hpN_le (γ := γ) (q := rmQ q i) (w := wp γ (p ++ [i])) (γ.1 5 0)
        rw [hU2.2.1, bI_le (by omega) hU2.1]
        have efold : (lq (i + 1) q).foldl (fun u x => fairF γ n ((lq (γ.1 5 0) q).erase x) (p ++ [x]) u) u = fairF γ n (lq (γ.1 5 0) (rmQ q i)) (p ++ [i]) ((lq i q).foldl (fun u x => fairF γ n ((lq (γ.1 5 0) q).erase x) (p ++ [x]) u) u) := by
          rw [lq_s, if_pos hq, List.foldl_append, List.foldl_cons, List.foldl_nil, lq_er]
        refine ⟨fun hle => ⟨rfl, rfl, ?_, hrow, hfr⟩, fun hle => ?_⟩
        · dsimp only
          rw [efold, fair_id hγ hh n _ _ _ hF2 hle]; exact hU2
        · have hlen : (p ++ [i]).length = p.length + 1 := by rw [List.length_append, List.length_singleton]
          have hrec := cl_seek hγ hh n f (rmQ q i) (p ++ [i]) _ _ M2 (by omega) hF2 g5 (by rw [hlen]; exact v1) hm2 (fun j hj => ?_) hU2 (by omega)
          · rw [hlen] at hrec
            rw [nI_1]
            refine hrec.mono (fun M3 ⟨r1, r2, r3⟩ => ⟨rfl, rfl, ?_, fun j hj => ?_, fun o ho hc => ?_⟩)
            · dsimp only
              rw [efold]; exact r1
            · dsimp only
              rw [r2 j (by omega)]; exact hrow j hj
            · dsimp only
              rw [r3 o ho (by omega)]; exact hfr o ho hc
          · rw [hlen] at hj
            by_cases hjp : j < p.length
            · rw [gD_l hjp, hrow j hjp]; exact hp j hjp
            · have : j = p.length := by omega
              rw [this, gD_r (Nat.le_refl _), Nat.sub_self, e11, wr_ap, if_pos ⟨rfl, rfl, rfl⟩]
              rfl
      · have hq : ¬ q i = true := fun z => (hm i hi).mp z h0
        dsimp only
        rw [lq_s, if_neg hq]; exact a3
    · rintro ⟨p4, x5, Mc⟩ ⟨a1, a2, a3, a4, a5⟩
      dsimp only at a1 a2 a3 a4 a5 ⊢
      subst a1 a2
      have g3 : RG (Mc 3) γ := by rw [a5 3 (by decide) (Or.inl (by omega))]; exact hg
      unfold fX0_seek_58
      simp only [sp_gd, sp_nm, sp_bind, sp_ite, sp_some, sp_inr]
      rw [g3.2.2.2.1, nI_leI (by omega) (by omega)]
      exact ⟨fun _ => ⟨a3, a4, a5⟩, fun hc => absurd (Nat.le_refl _) hc⟩
theorem lq_all (h : Nat) : lq h (fun _ => true) = List.range h := by
  unfold lq
  exact List.filter_eq_self.mpr (fun _ _ => rfl)
theorem cl_find {C : Mem} {γ : Cfg} (hγ : okC γ) (hh : 0 < γ.1 5 0) (hg : RG (C 3) γ) : Sp (fX0_find 3 C) (fun M' => FairOK (M' 11) γ ∧ ∀ o, o ≠ 11 → (o < 12 ∨ 20 < o) → M' o = C o) := by
  unfold fX0_find
  simp only [sp_gd, sp_nm, sp_bind, sp_ite, sp_some, sp_inr]
  rw [cl0]
  refine (cl_begin (o := 12 + 0) (γ := γ) hγ (by rw [wr_ob _ _ _ _ _ (by decide)]; exact hg) (by decide)).mono (fun M1 ⟨f1, f2⟩ => ?_)
  have hs := cl_seek hγ hh (γ.1 5 0) 10 (fun _ => true) [] 0 (0, []) M1 (by have := hγ.1; omega) ⟨Nat.zero_add _, by rw [lq_all, List.length_range], fun x hx => absurd hx List.not_mem_nil, fun _ _ _ => rfl, fun _ _ => Nat.zero_le _⟩ (by rw [f2 3 (by decide), wr_ob _ _ _ _ _ (by decide)]; exact hg) f1 (fun x hx => ⟨fun _ z => z (zero_b x (by have := hγ.1; omega)), fun _ => rfl⟩) (fun i hi => absurd hi (Nat.not_lt_zero _)) ⟨Nat.zero_le _, by rw [f2 11 (by decide), wr_ap, if_pos ⟨rfl, rfl, rfl⟩]; rfl, fun h => absurd h (Nat.lt_irrefl 0)⟩ (Nat.zero_le _)
  refine (show Sp (fX0_seek 10 3 M1 0 0) _ from hs).mono (fun M2 ⟨r1, r2, r3⟩ => ?_)
  rw [lq_all] at r1
  have hpos : 0 < (fairR γ).1 := fairF_pos _ _ _ _ (by rw [List.length_range])
  have r1' : UR (M2 11) (γ.1 5 0) (fairR γ) := r1
  refine ⟨⟨?_, r1'.2.2 hpos⟩, fun o ho hc => ?_⟩
  · rw [r1'.2.1]
    unfold bI
    rw [if_neg (by omega)]
  · have hlen : ([] : List Nat).length = 0 := rfl
    rw [r3 o ho (by rw [hlen]; omega), f2 o (by omega), wr_ob _ _ _ _ _ ho]
theorem RC.fair {C C' : Mem} {S : St} (h : RC C S) (e : ∀ o, o ≠ 0 → o ≠ 11 → (o < 12 ∨ 20 < o) → C' o = C o) (e0 : ∀ f, f ≠ 11 → C' 0 f = C 0 f) (k : C' 0 11 0 = 1 ∧ FairOK (C' 11) (told S)) : RC C' S := by
  obtain ⟨h1, ⟨d1, d2, d3⟩, k1, k2⟩ := h
  refine ⟨h1.fr (fun o ho => ?_) (by rw [e0 13 (by decide)]), ⟨?_, ?_, ?_⟩, Or.inr k, ?_⟩
  · simp at ho
    exact e o (by omega) (by omega) (by omega)
  · rw [e 3 (by decide) (by decide) (by decide)]; exact d1
  · rw [e 5 (by decide) (by decide) (by decide)]; exact d2
  · rw [e 4 (by decide) (by decide) (by decide)]; exact d3
  · rw [e0 12 (by decide), e0 8 (by decide)]; exact k2
def frA (γ : Cfg) (a : Nat) : Int32 := if γ.1 5 0 = 0 then -1 else if a ≤ γ.1 5 0 then (if a = 0 then nI ((fairR γ).1 - 1) else nI ((fairR γ).2.getD (a - 1) 0)) else -1
theorem cl_fair58 {M : Mem} {γ : Cfg} {a : Nat} (hγ : okC γ) (h0 : ¬ γ.1 5 0 = 0) (ha : a ≤ γ.1 5 0) (hf : FairOK (M 11) γ) : fX9_fair_58 (nI a) M = some (frA γ a, M) := by
  have h8 := hγ.1
  apply Sp.eq
  unfold fX9_fair_58 frA
  simp only [sp_gd, sp_nm, sp_bind, sp_ite, sp_some, sp_inr]
  rw [if_neg h0, if_pos ha, il0, nI_eq (by omega) (by omega)]
  refine ⟨fun e => ?_, fun e => ?_⟩
  · rw [if_pos e, hf.1]
  · rw [if_neg e, il1, pk_sub (by omega), inB_nI (by omega), nI_clamp (by omega), hf.2 _ (by omega)]
    exact ⟨by omega, rfl⟩
theorem cl_fair {C : Mem} {S : St} (hS : okS S) (hC : RC C S) {a : Nat} (ha : a ≤ 8) : Sp (fX9_fair C (nI a)) (fun z => z.1 = frA (told S) a ∧ RC z.2 S) := by
  have hγ := okC_told hS
  have h8 := hγ.1
  have hg := hC.2.1.1
  unfold fX9_fair
  simp only [sp_gd, sp_nm, sp_bind, sp_ite, sp_some, sp_inr]
  refine Sp.of (w_1 (n := 8) ha (by omega)) ⟨fun z => absurd z (by decide), fun _ => ?_⟩
  rw [hg.2.2.2.1, il0, nI_eq (by omega) (by omega), nI_leI (by omega) (by omega)]
  refine ⟨fun h0 => ⟨?_, hC⟩, fun h0 => ⟨fun hle => ⟨fun hk => ?_, fun hk => ?_⟩, fun hle => ⟨?_, hC⟩⟩⟩
  · unfold frA
    rw [if_pos h0]
  · refine (cl_find hγ (by omega) hg).mono (fun M ⟨m1, m2⟩ => ?_)
    have hf : FairOK (wr M 0 11 0 1 11) (told S) := by rw [wr_ob _ _ _ _ _ (by decide)]; exact m1
    refine Sp.of (cl_fair58 hγ h0 hle hf) ⟨rfl, hC.fair (fun o o0 o11 hc => ?_) (fun f hf => ?_) ⟨?_, hf⟩⟩
    · dsimp only
      rw [wr_ob _ _ _ _ _ o0]; exact m2 o o11 hc
    · dsimp only
      rw [wr_row _ _ _ _ _ (fun z => hf z.2), m2 0 (by decide) (by decide)]
    · dsimp only
      rw [wr_ap, if_pos ⟨rfl, rfl, rfl⟩]
  · rcases hC.2.2.1 with k | k
    · exact absurd k hk
    · exact Sp.of (cl_fair58 hγ h0 hle k.2) ⟨rfl, hC⟩
  · unfold frA
    rw [if_neg h0, if_neg hle]
