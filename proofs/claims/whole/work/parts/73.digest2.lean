/-! ===== digest: stops, the rest ===== -/
theorem dg_s {g : Nat → Int64} {n : Nat} {x : Int64} : dg g (n + 1) x = mx (dg g n x) (g n) := by rw [dg]
theorem dg_0 {g : Nat → Int64} {x : Int64} : dg g 0 x = x := by rw [dg]
def s1D (S : St) (k : Nat) (w : Nat) : Int64 := (nI (dsN S k w)).toInt64
def s2D (S : St) (k : Nat) (i : Nat) : Int64 := (nI ((stW (told S) k).1 0 i)).toInt64
def stD (S : St) (k : Nat) (x : Int64) : Int64 := dg (s2D S k) ((told S).1 5 0) (dg (s1D S k) 4 (mx x (nI ((told S).1 4 k)).toInt64))
theorem cl_roundV {C : Mem} {S : St} (hS : okS S) (hC : RC C S) {k : Nat} (hk : k < (told S).1 6 0) : fX9_round C (nI k) = some (nI ((told S).1 4 k)) := by
  have hn := (okC_told hS).2.1
  have hg := hC.2.1.1
  apply Sp.eq
  unfold fX9_round
  simp only [sp_gd, sp_nm, sp_bind, sp_ite, sp_some, sp_inr]
  refine Sp.of (w_1 (j := k) (n := 19) (by omega) (by omega)) ⟨fun z => absurd z (by decide), fun _ => ?_⟩
  rw [hg.2.2.2.2.1, nI_leI (by omega) (by omega), inB_nI (by omega), nI_clamp (by omega)]
  exact ⟨fun e => absurd e (by omega), fun e => ⟨by omega, hg.2.2.1 k hk⟩⟩
theorem nlt3 {i : Nat} (h : i < 4) : ¬ (3 : Int32) < nI i := by rw [il3]; exact nI_nlt (by omega) (by omega)
theorem cl_mixStop {C : Mem} {S : St} (hS : okS S) (hC : RC C S) {k : Nat} (hk : k < (told S).1 6 0) (x : Int64) : fX9_mixStop C x (nI k) = some (stD S k x) := by
  have h8 := (okC_told hS).1
  have hg := hC.2.1.1
  apply Sp.eq
  unfold fX9_mixStop
  simp only [mxd]
  simp only [sp_gd, sp_nm, sp_bind, sp_ite, sp_some, sp_inr]
  refine Sp.of (cl_roundV hS hC hk) ?_
  refine lp_for (fun i st => st = (dg (s1D S k) i (mx x (nI ((told S).1 4 k)).toInt64), nI i)) 4 (by omega) ?_ ?_ (Nat.zero_le _) (by rw [dg_0]; rfl)
  · rintro i st hi rfl
    unfold fX9_mixStop_15
    simp only [mxd]
    simp only [sp_gd, sp_nm, sp_bind, sp_ite, sp_some, sp_inr]
    rw [nI_1]
    exact ⟨fun hc => absurd hc (nlt3 hi), fun _ => Sp.of (cl_does hS hC hk hi) (by show _ = _; rw [dg_s]; rfl)⟩
  · rintro st rfl
    unfold fX9_mixStop_15 fX9_mixStop_42
    simp only [sp_gd, sp_nm, sp_bind, sp_ite, sp_some, sp_inr]
    refine ⟨fun _ => ?_, fun z => absurd (by decide) z⟩
    refine lp_for (fun i st => st = (dg (s2D S k) i (dg (s1D S k) 4 (mx x (nI ((told S).1 4 k)).toInt64)), nI i)) ((told S).1 5 0) (by omega) ?_ ?_ (Nat.zero_le _) (by rw [dg_0]; rfl)
    · rintro i st hi rfl
      unfold fX9_mixStop_45
      simp only [mxd]
      simp only [sp_gd, sp_nm, sp_bind, sp_ite, sp_some, sp_inr]
      rw [nI_1, hg.2.2.2.1, nI_leI (by omega) (by omega)]
      exact ⟨fun hc => absurd hc (by omega), fun _ => Sp.of (show fX9_share C (nI k) (nI i) 0 = _ from cl_share (w := 0) hS hC (by omega) hi (by omega)) (by show _ = _; rw [dg_s]; rfl)⟩
    · rintro st rfl
      unfold fX9_mixStop_45
      simp only [sp_gd, sp_nm, sp_bind, sp_ite, sp_some, sp_inr]
      rw [hg.2.2.2.1, nI_leI (by omega) (by omega)]
      exact ⟨fun _ => (by unfold stD; exact rfl), fun z => absurd (Nat.le_refl _) z⟩
theorem md_stopDigest {R : Mem} {S : St} (hS : okS S) (hR : RR R S) (hT : MT R S) {k : Nat} (hk : k < (told S).1 6 0) (x : Int64) : Sp (fX10_stopDigest R x (nI k)) (fun z => z.1 = stD S k x ∧ RR z.2 S ∧ MT z.2 S) := by
  have h8 := (okC_told hS).1
  have hn := (okC_told hS).2.1
  unfold fX10_stopDigest
  simp only [sp_gd, sp_nm, sp_bind, sp_ite, sp_some, sp_inr]
  rw [inB_nI (by omega), nI_clamp (by omega), hT.2.2.2 k hk]
  refine ⟨by omega, ?_⟩
  refine lp_for (fun i st => st.1 = dg (s1D S k) i (mx x (nI ((told S).1 4 k)).toInt64) ∧ st.2.1 = nI i ∧ RR st.2.2 S ∧ MT st.2.2 S) 4 (by omega) ?_ ?_ (Nat.zero_le _) ⟨by rw [dg_0]; rfl, rfl, hR, hT⟩
  · rintro i ⟨y, z, M⟩ hi ⟨a1, a2, a3, a4⟩
    dsimp only at a1 a2 a3 a4 ⊢
    subst a1 a2
    unfold fX10_stopDigest_18
    simp only [sp_gd, sp_nm, sp_bind, sp_ite, sp_some, sp_inr]
    rw [nI_1, il4, nI_leI (by omega) (by omega)]
    exact ⟨fun hc => absurd hc (by omega), fun _ => (md_doesOf hS a3 hk hi).mono (fun y ⟨y1, y2, y3⟩ => ⟨by dsimp only; rw [y1, dg_s]; rfl, rfl, a3.fr y3, y2⟩)⟩
  · rintro ⟨y, z, M⟩ ⟨a1, a2, a3, a4⟩
    dsimp only at a1 a2 a3 a4 ⊢
    subst a1 a2
    unfold fX10_stopDigest_18 fX10_stopDigest_47
    simp only [sp_gd, sp_nm, sp_bind, sp_ite, sp_some, sp_inr]
    refine ⟨fun _ => ?_, fun z => absurd (by decide) z⟩
    refine lp_for (fun i st => st.1 = dg (s2D S k) i (dg (s1D S k) 4 (mx x (nI ((told S).1 4 k)).toInt64)) ∧ st.2.1 = nI i ∧ RR st.2.2 S ∧ MT st.2.2 S) ((told S).1 5 0) (by omega) ?_ ?_ (Nat.zero_le _) ⟨by rw [dg_0], rfl, a3, a4⟩
    · rintro i ⟨y, z, N⟩ hi ⟨a1, a2, a3, a4⟩
      dsimp only at a1 a2 a3 a4 ⊢
      subst a1 a2
      unfold fX10_stopDigest_50
      simp only [sp_gd, sp_nm, sp_bind, sp_ite, sp_some, sp_inr]
      rw [nI_1, a4.1, nI_leI (by omega) (by omega)]
      exact ⟨fun hc => absurd hc (by omega), fun _ => (show Sp (fX10_shareOf N (nI k) (nI i) 0) _ from md_shareOf (w := 0) hS a3 (by omega) hi (by omega)).mono (fun y ⟨y1, y2, y3⟩ => ⟨by dsimp only; rw [y1, dg_s]; rfl, rfl, a3.fr y3, y2⟩)⟩
    · rintro ⟨y, z, N⟩ ⟨a1, a2, a3, a4⟩
      dsimp only at a1 a2 a3 a4 ⊢
      subst a1 a2
      unfold fX10_stopDigest_50
      simp only [sp_gd, sp_nm, sp_bind, sp_ite, sp_some, sp_inr]
      rw [a4.1, nI_leI (by omega) (by omega)]
      exact ⟨fun _ => ⟨by unfold stD; exact rfl, a3, a4⟩, fun z => absurd (Nat.le_refl _) z⟩
def frV (S : St) (a : Nat) : Int64 := (frA (told S) a).toInt64
def t1D (S : St) (x : Int64) : Int64 := mx (mx (mx (mx (mx x (stW (told S) ((told S).1 6 0)).2.toInt64) (nI (sN ((stW (told S) ((told S).1 6 0)).1 0) ((told S).1 5 0))).toInt64) (richA ((stW (told S) ((told S).1 6 0)).1 0) ((told S).1 5 0)).1.toInt64) (lngA (told S) ((told S).1 6 0)).1.toInt64) (nI ((stW (told S) ((told S).1 6 0)).1 7 0)).toInt64
def t2D (S : St) (x : Int64) : Int64 := mx (mx (mx x (nvA (fun i => seenB S (wo S i)) (S.1 5 0)).toInt64) (agR (told S) 7 15 0).toInt64) (agR (told S) 7 15 1).toInt64
def tlD (S : St) (x : Int64) : Int64 := t2D S (dg (frV S) 4 (t1D S x))
theorem cl_t2 {C : Mem} {S : St} (hS : okS S) (hC : RC C S) (x : Int64) : Sp (fX9_digest_177 x C) (fun z => z.1 = t2D S x ∧ RC z.2 S) := by
  unfold fX9_digest_177
  simp only [mxd]
  simp only [sp_gd, sp_nm, sp_bind, sp_ite, sp_some, sp_inr]
  refine (cl_never hS hC).mono (fun z ⟨q1, z2⟩ => ?_)
  have hC := hC.trial z2
  refine (show Sp (fX9_again _ 7 15 0) _ from cl_again (m := 15) (b := 0) hS hC 7 (by omega) (by omega) (by omega)).mono (fun z ⟨q2, z2⟩ => ?_)
  have hC := hC.trial z2
  refine (show Sp (fX9_again _ 7 15 1) _ from cl_again (m := 15) (b := 1) hS hC 7 (by omega) (by omega) (by omega)).mono (fun z ⟨q3, z2⟩ => ⟨?_, hC.trial z2⟩)
  rw [q1, q2, q3]
  rfl
theorem md_t2 {R : Mem} {S : St} (hS : okS S) (hR : RR R S) (x : Int64) : Sp (fX10_digest_220 x R) (fun z => z.1 = t2D S x ∧ RR z.2 S) := by
  unfold fX10_digest_220
  simp only [sp_gd, sp_nm, sp_bind, sp_ite, sp_some, sp_inr]
  refine (md_neverNow hS hR).mono (fun z ⟨q1, z2⟩ => ?_)
  have hR := hR.fr z2
  refine (show Sp (fX10_againOf _ 7 15 0) _ from md_againOf (m := 15) hS hR 7 0 (by omega) (by omega)).mono (fun z ⟨q2, z2⟩ => ?_)
  have hR := hR.fr z2
  refine (show Sp (fX10_againOf _ 7 15 1) _ from md_againOf (m := 15) hS hR 7 1 (by omega) (by omega)).mono (fun z ⟨q3, z2⟩ => ⟨?_, hR.fr z2⟩)
  rw [q1, q2, q3]
  rfl
theorem cl_richV {C : Mem} {S : St} (hS : okS S) (hC : RC C S) : fX9_richest C = some (richA ((stW (told S) ((told S).1 6 0)).1 0) ((told S).1 5 0)).1 := by
  have hγ := okC_told hS
  have hw := hC.2.1.2.1
  apply Sp.eq
  unfold fX9_richest
  simp only [sp_gd, sp_nm, sp_bind, sp_ite, sp_some, sp_inr]
  exact Sp.of (cl_richest hγ.1 hw.2.1 (fun i hi => (hw.1 i hi).1) (st360 hγ hγ.2.1)) rfl
theorem cl_tl {C : Mem} {S : St} (hS : okS S) (hC : RC C S) (x : Int64) : Sp (fX9_digest_103 x C) (fun z => z.1 = tlD S x ∧ RC z.2 S) := by
  unfold fX9_digest_103
  rw [cl_outOp hC, cl_estate hS hC, cl_richV hS hC, cl_longestOp hC, cl_ditchOp hC]
  simp only [mxd]
  simp only [sp_gd, sp_nm, sp_bind, sp_ite, sp_some, sp_inr]
  refine lp_for (fun i st => st.1 = dg (frV S) i (t1D S x) ∧ st.2.1 = nI i ∧ RC st.2.2 S) 4 (by omega) ?_ ?_ (Nat.zero_le _) ⟨rfl, rfl, hC⟩
  · rintro i ⟨y, z, M⟩ hi ⟨a1, a2, a3⟩
    dsimp only at a1 a2 a3 ⊢
    subst a1 a2
    unfold fX9_digest_155
    simp only [mxd]
    simp only [sp_gd, sp_nm, sp_bind, sp_ite, sp_some, sp_inr]
    rw [nI_1]
    exact ⟨fun hc => absurd hc (nlt3 hi), fun _ => (cl_fair hS a3 (by omega)).mono (fun y ⟨y1, y2⟩ => ⟨by dsimp only; rw [y1]; rfl, rfl, y2⟩)⟩
  · rintro ⟨y, z, M⟩ ⟨a1, a2, a3⟩
    dsimp only at a1 a2 a3 ⊢
    subst a1 a2
    unfold fX9_digest_155
    simp only [sp_gd, sp_nm, sp_bind, sp_ite, sp_some, sp_inr]
    exact ⟨fun _ => (cl_t2 hS a3 _).mono (fun z hz => hz), fun z => absurd (by decide) z⟩
theorem md_tl {R : Mem} {S : St} (hS : okS S) (hR : RR R S) (x : Int64) : Sp (fX10_digest_103 x R) (fun z => z.1 = tlD S x ∧ RR z.2 S) := by
  have h8 := (okC_told hS).1
  unfold fX10_digest_103
  simp only [sp_gd, sp_nm, sp_bind, sp_ite, sp_some, sp_inr]
  refine (md_outOf hS hR).mono (fun z ⟨q1, _, z2⟩ => ?_)
  have hR := hR.fr z2
  refine (md_estateOf hS hR).mono (fun z ⟨q2, _, z2⟩ => ?_)
  have hR := hR.fr z2
  refine (md_richestOf hS hR).mono (fun z ⟨q3, _, z2⟩ => ?_)
  have hR := hR.fr z2
  refine (md_longestOf hS hR).mono (fun z ⟨q4, _, z2⟩ => ?_)
  have hR := hR.fr z2
  refine (md_ditchOf hS hR).mono (fun z ⟨q5, _, z2⟩ => ?_)
  have hR := hR.fr z2
  refine (md_fairBy hS hR).mono (fun y ⟨y1, y2, y3, y4⟩ => ?_)
  have hR := hR.fr y1
  have e0 : y.1 = frA (told S) 0 := by
    unfold frA
    by_cases hz : (told S).1 5 0 = 0
    · rw [if_pos hz]; exact y3 hz
    · rw [if_neg hz, if_pos (Nat.zero_le _), if_pos rfl]; exact (y4 (by omega)).1
  rw [q1, q2, q3, q4, q5, e0]
  refine lp_for (fun i st => st.1 = dg (frV S) (i + 1) (t1D S x) ∧ st.2.1 = nI i ∧ st.2.2 = y.2) 3 (by omega) ?_ ?_ (Nat.zero_le _) ⟨rfl, rfl, rfl⟩
  · rintro i ⟨u, v, M⟩ hi ⟨a1, a2, a3⟩
    dsimp only at a1 a2 a3 ⊢
    subst a1 a2 a3
    unfold fX10_digest_180 fX10_digest_211
    simp only [sp_gd, sp_nm, sp_bind, sp_ite, sp_some, sp_inr]
    rw [y2, nI_1, il3, nI_leI (by omega) (by omega), nI_leI (by omega) (by omega), inB_nI (by omega), nI_clamp (by omega)]
    refine ⟨fun hc => absurd hc (by omega), fun _ => ⟨fun hle => ⟨?_, rfl, rfl⟩, fun hle => ⟨by omega, ?_, rfl, rfl⟩⟩⟩
    · have : frA (told S) (i + 1) = -1 := by
        unfold frA
        by_cases hz : (told S).1 5 0 = 0
        · rw [if_pos hz]
        · rw [if_neg hz, if_neg (by omega)]
      dsimp only
      rw [show dg (frV S) (i + 1 + 1) (t1D S x) = mx (dg (frV S) (i + 1) (t1D S x)) (frA (told S) (i + 1)).toInt64 from rfl, this]
      rfl
    · have : frA (told S) (i + 1) = nI ((fairR (told S)).2.getD i 0) := by
        unfold frA
        rw [if_neg (by omega), if_pos (by omega), if_neg (by omega), Nat.add_sub_cancel]
      dsimp only
      rw [show dg (frV S) (i + 1 + 1) (t1D S x) = mx (dg (frV S) (i + 1) (t1D S x)) (frA (told S) (i + 1)).toInt64 from rfl, this, (y4 (by omega)).2 i (by omega)]
      rfl
  · rintro ⟨u, v, M⟩ ⟨a1, a2, a3⟩
    dsimp only at a1 a2 a3 ⊢
    subst a1 a2 a3
    unfold fX10_digest_180
    simp only [sp_gd, sp_nm, sp_bind, sp_ite, sp_some, sp_inr]
    exact ⟨fun _ => (md_t2 hS hR _).mono (fun z hz => hz), fun z => absurd (by decide) z⟩
def itD (f : Nat → Int64 → Int64) : Nat → Int64 → Int64
  | 0, x => x
  | n + 1, x => f n (itD f n x)
def cnD (S : St) (w : Nat) : Int64 := (nI (cntN S w)).toInt64
def ftD (S : St) (x : Int64) : Int64 := mx (mx x (fltH (S.1 0) (S.1 2 0)).toInt64) (fltR (S.1 1) (S.1 2 1)).toInt64
def digD (S : St) : Int64 := tlD S (itD (stD S) ((told S).1 6 0) (itD (heD S) ((told S).1 5 0) (ftD S (dg (cnD S) 8 17))))
theorem nlt7 {i : Nat} (h : i < 8) : ¬ (7 : Int32) < nI i := by rw [il7]; exact nI_nlt (by omega) (by omega)
theorem cl_digest {C : Mem} {S : St} (hS : okS S) (hC : RC C S) : Sp (fX9_digest C) (fun z => z.1 = digD S ∧ RC z.2 S) := by
  have h8 := (okC_told hS).1
  have hn := (okC_told hS).2.1
  unfold fX9_digest
  simp only [sp_gd, sp_nm, sp_bind, sp_ite, sp_some, sp_inr]
  refine lp_for (fun i st => st = (dg (cnD S) i 17, nI i, C)) 8 (by omega) ?_ ?_ (Nat.zero_le _) rfl
  · rintro i st hi rfl
    unfold fX9_digest_6
    simp only [mxd]
    simp only [sp_gd, sp_nm, sp_bind, sp_ite, sp_some, sp_inr]
    rw [nI_1]
    exact ⟨fun hc => absurd hc (nlt7 hi), fun _ => Sp.of (cl_count hS hC (by omega)) rfl⟩
  · rintro st rfl
    unfold fX9_digest_6 fX9_digest_29
    rw [cl_fault hS hC 0, cl_fault hS hC 1, show (if (0 : Int32) = 0 then fltH (S.1 0) (S.1 2 0) else if (0 : Int32) = 1 then fltR (S.1 1) (S.1 2 1) else -2) = fltH (S.1 0) (S.1 2 0) from if_pos rfl, show (if (1 : Int32) = 0 then fltH (S.1 0) (S.1 2 0) else if (1 : Int32) = 1 then fltR (S.1 1) (S.1 2 1) else -2) = fltR (S.1 1) (S.1 2 1) from (if_neg (by decide)).trans (if_pos rfl)]
    simp only [mxd]
    simp only [sp_gd, sp_nm, sp_bind, sp_ite, sp_some, sp_inr]
    refine ⟨fun _ => ?_, fun z => absurd (by decide) z⟩
    refine lp_for (fun i st => st.1 = itD (heD S) i (ftD S (dg (cnD S) 8 17)) ∧ st.2.1 = nI i ∧ RC st.2.2 S) ((told S).1 5 0) (by omega) ?_ ?_ (Nat.zero_le _) ⟨rfl, rfl, hC⟩
    · rintro i ⟨y, z, M⟩ hi ⟨a1, a2, a3⟩
      dsimp only at a1 a2 a3 ⊢
      subst a1 a2
      unfold fX9_digest_53
      simp only [sp_gd, sp_nm, sp_bind, sp_ite, sp_some, sp_inr]
      rw [a3.2.1.1.2.2.2.1, nI_leI (by omega) (by omega), nI_1]
      exact ⟨fun hc => absurd hc (by omega), fun _ => (cl_mixHeir hS a3 hi _).mono (fun y ⟨y1, y2⟩ => ⟨y1, rfl, y2⟩)⟩
    · rintro ⟨y, z, M⟩ ⟨a1, a2, a3⟩
      dsimp only at a1 a2 a3 ⊢
      subst a1 a2
      unfold fX9_digest_53 fX9_digest_77
      simp only [sp_gd, sp_nm, sp_bind, sp_ite, sp_some, sp_inr]
      rw [a3.2.1.1.2.2.2.1, nI_leI (by omega) (by omega)]
      refine ⟨fun _ => ?_, fun z => absurd (Nat.le_refl _) z⟩
      refine lp_for (fun i st => st = (itD (stD S) i (itD (heD S) ((told S).1 5 0) (ftD S (dg (cnD S) 8 17))), nI i, M)) ((told S).1 6 0) (by omega) ?_ ?_ (Nat.zero_le _) rfl
      · rintro i st hi rfl
        unfold fX9_digest_79
        simp only [sp_gd, sp_nm, sp_bind, sp_ite, sp_some, sp_inr]
        rw [a3.2.1.1.2.2.2.2.1, nI_leI (by omega) (by omega), nI_1]
        exact ⟨fun hc => absurd hc (by omega), fun _ => Sp.of (cl_mixStop hS a3 hi _) rfl⟩
      · rintro st rfl
        unfold fX9_digest_79
        simp only [sp_gd, sp_nm, sp_bind, sp_ite, sp_some, sp_inr]
        rw [a3.2.1.1.2.2.2.2.1, nI_leI (by omega) (by omega)]
        exact ⟨fun _ => (cl_tl hS a3 _).mono (fun z hz => hz), fun z => absurd (Nat.le_refl _) z⟩
theorem md_digest {R : Mem} {S : St} (hS : okS S) (hR : RR R S) : Sp (fX10_digest R) (fun z => z.1 = digD S ∧ RR z.2 S) := by
  have h8 := (okC_told hS).1
  have hn := (okC_told hS).2.1
  unfold fX10_digest
  simp only [sp_gd, sp_nm, sp_bind, sp_ite, sp_some, sp_inr]
  refine lp_for (fun i st => st.1 = dg (cnD S) i 17 ∧ st.2.1 = nI i ∧ RR st.2.2 S) 8 (by omega) ?_ ?_ (Nat.zero_le _) ⟨rfl, rfl, hR⟩
  · rintro i ⟨y, z, M⟩ hi ⟨a1, a2, a3⟩
    dsimp only at a1 a2 a3 ⊢
    subst a1 a2
    unfold fX10_digest_6
    simp only [sp_gd, sp_nm, sp_bind, sp_ite, sp_some, sp_inr]
    rw [nI_1, il8, nI_leI (by omega) (by omega)]
    exact ⟨fun hc => absurd hc (by omega), fun _ => (md_count hS a3 (by omega)).mono (fun y ⟨y1, y2⟩ => ⟨by dsimp only; rw [y1]; rfl, rfl, y2⟩)⟩
  · rintro ⟨y, z, M⟩ ⟨a1, a2, a3⟩
    dsimp only at a1 a2 a3 ⊢
    subst a1 a2
    unfold fX10_digest_6 fX10_digest_31
    simp only [sp_gd, sp_nm, sp_bind, sp_ite, sp_some, sp_inr]
    refine ⟨fun _ => ?_, fun z => absurd (by decide) z⟩
    refine (md_faultOf hS a3 0).mono (fun z ⟨q1, _, z2⟩ => ?_)
    have hR := a3.fr z2
    refine (md_faultOf hS hR 1).mono (fun z ⟨q2, m1, z2⟩ => ?_)
    have hR := hR.fr z2
    rw [if_pos rfl] at q1
    rw [if_neg (by decide)] at q2
    rw [q1, q2]
    refine lp_for (fun i st => st.1 = itD (heD S) i (ftD S (dg (cnD S) 8 17)) ∧ st.2.1 = nI i ∧ RR st.2.2 S ∧ MT st.2.2 S) ((told S).1 5 0) (by omega) ?_ ?_ (Nat.zero_le _) ⟨rfl, rfl, hR, m1⟩
    · rintro i ⟨y, z, M⟩ hi ⟨a1, a2, a3, a4⟩
      dsimp only at a1 a2 a3 a4 ⊢
      subst a1 a2
      unfold fX10_digest_59
      simp only [sp_gd, sp_nm, sp_bind, sp_ite, sp_some, sp_inr]
      rw [a4.1, nI_leI (by omega) (by omega), nI_1]
      exact ⟨fun hc => absurd hc (by omega), fun _ => (md_heirDigest hS a3 a4 hi _).mono (fun y ⟨y1, y2, y3⟩ => ⟨y1, rfl, y2, y3⟩)⟩
    · rintro ⟨y, z, M⟩ ⟨a1, a2, a3, a4⟩
      dsimp only at a1 a2 a3 a4 ⊢
      subst a1 a2
      unfold fX10_digest_59 fX10_digest_80
      simp only [sp_gd, sp_nm, sp_bind, sp_ite, sp_some, sp_inr]
      rw [a4.1, nI_leI (by omega) (by omega)]
      refine ⟨fun _ => ?_, fun z => absurd (Nat.le_refl _) z⟩
      refine lp_for (fun i st => st.1 = itD (stD S) i (itD (heD S) ((told S).1 5 0) (ftD S (dg (cnD S) 8 17))) ∧ st.2.1 = nI i ∧ RR st.2.2 S ∧ MT st.2.2 S) ((told S).1 6 0) (by omega) ?_ ?_ (Nat.zero_le _) ⟨rfl, rfl, a3, a4⟩
      · rintro i ⟨y, z, M⟩ hi ⟨a1, a2, a3, a4⟩
        dsimp only at a1 a2 a3 a4 ⊢
        subst a1 a2
        unfold fX10_digest_82
        simp only [sp_gd, sp_nm, sp_bind, sp_ite, sp_some, sp_inr]
        rw [a4.2.2.1, nI_leI (by omega) (by omega), nI_1]
        exact ⟨fun hc => absurd hc (by omega), fun _ => (md_stopDigest hS a3 a4 hi _).mono (fun y ⟨y1, y2, y3⟩ => ⟨y1, rfl, y2, y3⟩)⟩
      · rintro ⟨y, z, M⟩ ⟨a1, a2, a3, a4⟩
        dsimp only at a1 a2 a3 a4 ⊢
        subst a1 a2
        unfold fX10_digest_82
        simp only [sp_gd, sp_nm, sp_bind, sp_ite, sp_some, sp_inr]
        rw [a4.2.2.1, nI_leI (by omega) (by omega)]
        exact ⟨fun _ => (md_tl hS a3 _).mono (fun z hz => hz), fun z => absurd (Nat.le_refl _) z⟩
theorem op_digest {C R : Mem} (h : Rel C R) : ∃ (r : Int64) (C' R' : Mem), fX9_digest C = some (r, C') ∧ fX10_digest R = some (r, R') ∧ Rel C' R' := by
  obtain ⟨S, hS, hC, hR⟩ := h
  exact op_rw (S' := S) hS (cl_digest hS hC) (md_digest hS hR)
