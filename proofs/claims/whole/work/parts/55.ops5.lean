/-! ===== seen, forget ===== -/
def sSn (S : St) (n : Nat) (g g' : Nat → Nat) : St := sU (sU (sU S 6 g) 7 g') 8 (fun _ => n)
theorem cl_sn {C M : Mem} {S : St} {n : Nat} {g g' : Nat → Nat} (hC : RC C S) (fr : frO 10 C M) (e2 : M 10 2 0 = nI n) (e : ∀ i, i < n → M 10 0 i = nI (g i) ∧ M 10 1 i = nI (g' i)) : RC M (sSn S n g g') := by
  obtain ⟨t1, t2, t3, t4, t5, t6⟩ := hC.1
  refine hC.set (fr.S (by decide)) (fun f _ => by rw [fr 0 (by decide)]) ⟨?_, ?_, ?_, ⟨e2, e⟩, fun s hs => ?_, ?_⟩ rfl rfl rfl
  · rw [fr 1 (by decide)]; exact t1
  · rw [fr 2 (by decide)]; exact t2
  · rw [fr 9 (by decide)]; exact t3
  · rw [fr (21 + s) (by omega)]; exact t5 s hs
  · rw [fr 0 (by decide)]; exact t6
theorem md_sn {R M : Mem} {S : St} {n : Nat} {g g' : Nat → Nat} (hR : RR R S) (fr : frM [32, 33, 34] R M) (e2 : M 0 32 0 = nI n) (e : ∀ i, i < n → M 0 33 i = nI (g i) ∧ M 0 34 i = nI (g' i)) : RR M (sSn S n g g') := by
  obtain ⟨h1, h2, h3, h4, h5, h6, h7⟩ := hR
  refine ⟨?_, ?_, ?_, ?_, ⟨e2, e⟩, ?_, ?_⟩
  · rw [fr 0 (by decide), fr 1 (by decide)]; exact h1
  · rw [fr 0 (by decide), fr 1 (by decide)]; exact h2
  · rw [fr 8 (by decide)]; exact h3
  · rw [fr 9 (by decide), fr 10 (by decide)]; exact h4
  · rw [fr 36 (by decide), fr 37 (by decide), fr 38 (by decide), fr 39 (by decide)]; exact h6
  · rw [fr 41 (by decide)]; exact h7
theorem okS_Sn {S : St} (h : okS S) {n : Nat} {g g' : Nat → Nat} (hn : n ≤ 8) (hg : ∀ i, i < n → g i < 20 ∧ g' i ≤ 4) : okS (sSn S n g g') := by
  obtain ⟨h1, h2, h3, h4, h5, h6, h7⟩ := h
  exact ⟨h1, h2, h3, h4, ⟨hn, hg⟩, h6, h7⟩
theorem op_seen {C R : Mem} (h : Rel C R) (a b : Int32) : ∃ (r : Int32) (C' R' : Mem), fX9_seen C a b = some (r, C') ∧ fX10_seen R a b = some (r, R') ∧ Rel C' R' := by
  obtain ⟨S, hS, hC, hR⟩ := h
  obtain ⟨h8, hs⟩ := hS.2.2.2.2.1
  rcases ixI a (n := 20) (by omega) with ha | ⟨j, hj, rfl⟩
  · refine op_rw (S' := S) (r := -2) hS ?_ ?_
    · unfold fX9_seen
      simp only [sp_gd, sp_nm, sp_bind, sp_ite, sp_some, sp_inr]
      exact Sp.of (w_0 (n := 19) ha (by omega)) ⟨fun _ => ⟨(by trivial), hC⟩, fun z => absurd rfl z⟩
    · unfold fX10_seen
      simp only [sp_gd, sp_nm, sp_bind, sp_ite, sp_some, sp_inr]
      exact Sp.of (mst_0 ha) ⟨fun _ => ⟨(by trivial), hR⟩, fun z => absurd rfl z⟩
  · rcases ixI b (n := 5) (by omega) with hb | ⟨d, hd, rfl⟩
    · refine op_rw (S' := S) (r := -2) hS ?_ ?_
      · unfold fX9_seen
        simp only [sp_gd, sp_nm, sp_bind, sp_ite, sp_some, sp_inr]
        exact Sp.of (w_1 (j := j) (n := 19) (by omega) (by omega)) ⟨fun z => absurd z (by decide), fun _ => Sp.of (w_0 (n := 4) hb (by omega)) ⟨fun _ => ⟨(by trivial), hC⟩, fun z => absurd rfl z⟩⟩
      · unfold fX10_seen
        simp only [sp_gd, sp_nm, sp_bind, sp_ite, sp_some, sp_inr]
        exact Sp.of (mst_1 hj) ⟨fun z => absurd z (by decide), fun _ => Sp.of (in_0 (n := 4) hb (by omega)) ⟨fun _ => ⟨(by trivial), hR⟩, fun z => absurd rfl z⟩⟩
    · by_cases hf : S.1 8 0 = 8
      · refine op_rw (S' := S) (r := -4) hS ?_ ?_
        · unfold fX9_seen
          simp only [sp_gd, sp_nm, sp_bind, sp_ite, sp_some, sp_inr]
          refine Sp.of (w_1 (j := j) (n := 19) (by omega) (by omega)) ⟨fun z => absurd z (by decide), fun _ => Sp.of (w_1 (j := d) (n := 4) (by omega) (by omega)) ⟨fun z => absurd z (by decide), fun _ => ?_⟩⟩
          rw [hC.1.2.2.2.1.1, hf]
          exact ⟨fun z => absurd z (by decide), fun _ => ⟨(by trivial), hC⟩⟩
        · unfold fX10_seen
          simp only [sp_gd, sp_nm, sp_bind, sp_ite, sp_some, sp_inr]
          refine Sp.of (mst_1 hj) ⟨fun z => absurd z (by decide), fun _ => Sp.of (in_1 (j := d) (n := 4) (by omega) (by omega)) ⟨fun z => absurd z (by decide), fun _ => ?_⟩⟩
          rw [hR.2.2.2.2.1.1, hf]
          exact ⟨fun _ => ⟨(by trivial), hR⟩, fun z => absurd rfl z⟩
      · have hlt : S.1 8 0 < 8 := by omega
        refine op_rw (S' := sSn S (S.1 8 0 + 1) (uN (S.1 6) (S.1 8 0) j) (uN (S.1 7) (S.1 8 0) d)) (r := nI (S.1 8 0 + 1)) (okS_Sn hS (by omega) (fun i hi => ?_)) ?_ ?_
        · unfold uN
          split
          · omega
          · exact hs i (by omega)
        · unfold fX9_seen fX8_append
          simp only [sp_gd, sp_nm, sp_bind, sp_ite, sp_some, sp_inr]
          refine Sp.of (w_1 (j := j) (n := 19) (by omega) (by omega)) ⟨fun z => absurd z (by decide), fun _ => Sp.of (w_1 (j := d) (n := 4) (by omega) (by omega)) ⟨fun z => absurd z (by decide), fun _ => ?_⟩⟩
          have q1 : ∀ k v, (wr C 10 0 k v) 10 2 0 = nI (S.1 8 0) := fun k v => by rw [wr_row _ _ _ _ _ (by decide)]; exact hC.1.2.2.2.1.1
          have q2 : ∀ k v k' v', (wr (wr C 10 0 k v) 10 1 k' v') 10 2 0 = nI (S.1 8 0) := fun k v k' v' => by rw [wr_row _ _ _ _ _ (by decide)]; exact q1 k v
          rw [hC.1.2.2.2.1.1, q1, q2, nI_1, il8, nI_ltI (by omega) (by omega), nI_leI (by omega) (by omega), inB_nI (by omega), nI_clamp (by omega)]
          refine ⟨fun _ => ⟨fun z => absurd z (by omega), fun _ => ⟨hlt, hlt, by simp [wr_ap], cl_sn hC (fun x hx => by rw [wr_ob _ _ _ _ _ hx, wr_ob _ _ _ _ _ hx, wr_ob _ _ _ _ _ hx]) (by simp [wr_ap]) (fun i hi => ?_)⟩⟩, fun z => absurd hlt z⟩
          simp only [wr_ap]
          unfold uN
          by_cases hin : i = S.1 8 0
          · simp [hin]
          · simp [hin]; exact hC.1.2.2.2.1.2 i (by omega)
        · unfold fX10_seen
          simp only [sp_gd, sp_nm, sp_bind, sp_ite, sp_some, sp_inr]
          refine Sp.of (mst_1 hj) ⟨fun z => absurd z (by decide), fun _ => Sp.of (in_1 (j := d) (n := 4) (by omega) (by omega)) ⟨fun z => absurd z (by decide), fun _ => ?_⟩⟩
          have q1 : ∀ k v, (wr R 0 33 k v) 0 32 0 = nI (S.1 8 0) := fun k v => by rw [wr_row _ _ _ _ _ (by decide)]; exact hR.2.2.2.2.1.1
          have q2 : ∀ k v k' v', (wr (wr R 0 33 k v) 0 34 k' v') 0 32 0 = nI (S.1 8 0) := fun k v k' v' => by rw [wr_row _ _ _ _ _ (by decide)]; exact q1 k v
          rw [hR.2.2.2.2.1.1, q1, q2, nI_1, inB_nI (by omega), nI_clamp (by omega)]
          refine ⟨fun z => absurd ((nI_ev 8 il8 (by omega) (by omega)).mp z) hf, fun _ => ⟨hlt, hlt, by simp [wr_ap], md_sn hR (((frM.rf.w _ _ _ (by decide)).w _ _ _ (by decide)).w _ _ _ (by decide)) (by simp [wr_ap]) (fun i hi => ?_)⟩⟩
          simp only [wr_ap]
          unfold uN
          by_cases hin : i = S.1 8 0
          · simp [hin]
          · simp [hin]; exact hR.2.2.2.2.1.2 i (by omega)
theorem op_forget {C R : Mem} (h : Rel C R) : ∃ (r : Int32) (C' R' : Mem), fX9_forget C = some (r, C') ∧ fX10_forget R = some (r, R') ∧ Rel C' R' := by
  obtain ⟨S, hS, hC, hR⟩ := h
  refine op_rw (S' := sSn S 0 (S.1 6) (S.1 7)) (r := nI (S.1 8 0)) (okS_Sn hS (by omega) (fun i hi => absurd hi (Nat.not_lt_zero _))) ?_ ?_
  · unfold fX9_forget
    simp only [sp_gd, sp_nm, sp_bind, sp_ite, sp_some, sp_inr]
    exact ⟨hC.1.2.2.2.1.1, cl_sn hC (fun x hx => wr_ob _ _ _ _ _ hx) (by simp [wr_ap]; rfl) (fun i hi => absurd hi (Nat.not_lt_zero _))⟩
  · unfold fX10_forget
    simp only [sp_gd, sp_nm, sp_bind, sp_ite, sp_some, sp_inr]
    exact ⟨hR.2.2.2.2.1.1, md_sn hR (frM.rf.w _ _ _ (by decide)) (by simp [wr_ap]; rfl) (fun i hi => absurd hi (Nat.not_lt_zero _))⟩
/-! ===== sheets ===== -/
def sSh (S : St) (s th fo sz : Nat) (it : Nat → Int32) : St := (fun f => if f = 9 then uN (S.1 9) s th else if f = 10 then uN (S.1 10) s fo else if f = 11 then uN (S.1 11) s sz else S.1 f, fun s' => if s' = s then it else S.2 s')
theorem okS_Sh {S : St} (h : okS S) {s th fo sz : Nat} {it : Nat → Int32} (h1 : th ≤ 1) (h2 : fo ≤ 2) (h3 : sz ≤ 60) : okS (sSh S s th fo sz it) := by
  obtain ⟨k1, k2, k3, k4, k5, k6, k7⟩ := h
  refine ⟨k1, k2, k3, k4, k5, fun q hq => ?_, k7⟩
  have := k6 q hq
  show uN (S.1 9) s th q ≤ 1 ∧ uN (S.1 10) s fo q ≤ 2 ∧ uN (S.1 11) s sz q ≤ 60
  unfold uN
  by_cases hqs : q = s
  · simp [hqs, h1, h2, h3]
  · simp [hqs]; exact this
theorem cl_sh {C M : Mem} {S : St} {s th fo sz : Nat} {it : Nat → Int32} (hC : RC C S) (hs : s < 4) (fr : frO (21 + s) C M) (e1 : M (21 + s) 1 0 = nI (1 - th)) (e2 : M (21 + s) 2 0 = nI fo) (e3 : M (21 + s) 3 0 = nI sz) (e0 : ∀ i, i < 60 → M (21 + s) 0 i = it i) : RC M (sSh S s th fo sz it) := by
  obtain ⟨t1, t2, t3, t4, t5, t6⟩ := hC.1
  refine hC.set (fr.S (by rcases (show s = 0 ∨ s = 1 ∨ s = 2 ∨ s = 3 by omega) with rfl | rfl | rfl | rfl <;> decide)) (fun f _ => by rw [fr 0 (by omega)]) ⟨?_, ?_, ?_, ?_, fun q hq => ?_, ?_⟩ rfl rfl rfl
  · rw [fr 1 (by omega)]; exact t1
  · rw [fr 2 (by omega)]; exact t2
  · rw [fr 9 (by omega)]; exact t3
  · rw [fr 10 (by omega)]; exact t4
  · show M (21 + q) 1 0 = nI (1 - uN (S.1 9) s th q) ∧ M (21 + q) 2 0 = nI (uN (S.1 10) s fo q) ∧ M (21 + q) 3 0 = nI (uN (S.1 11) s sz q) ∧ ∀ i, i < 60 → M (21 + q) 0 i = (if q = s then it else S.2 q) i
    unfold uN
    by_cases hqs : q = s
    · subst hqs
      simp only [if_true]
      exact ⟨e1, e2, e3, e0⟩
    · simp only [if_neg hqs]
      rw [fr (21 + q) (by omega)]
      exact t5 q hq
  · rw [fr 0 (by omega)]; exact t6
theorem md_sh {R M : Mem} {S : St} {s th fo sz : Nat} {it : Nat → Int32} (hR : RR R S) (hs : s < 4) (fr : frM [36, 37, 38, 39, 40] R M) (e1 : ∀ q, q < 4 → M 0 36 q = if q = s then nI th else R 0 36 q) (e2 : ∀ q, q < 4 → M 0 37 q = if q = s then nI fo else R 0 37 q) (e3 : ∀ q, q < 4 → M 0 38 q = if q = s then nI sz else R 0 38 q) (e0 : ∀ q i, q < 4 → i < 60 → M 0 39 (60 * q + i) = if q = s then it i else R 0 39 (60 * q + i)) : RR M (sSh S s th fo sz it) := by
  obtain ⟨h1, h2, h3, h4, h5, h6, h7⟩ := hR
  refine ⟨?_, ?_, ?_, ?_, ?_, fun q hq => ?_, ?_⟩
  · rw [fr 0 (by decide), fr 1 (by decide)]; exact h1
  · rw [fr 0 (by decide), fr 1 (by decide)]; exact h2
  · rw [fr 8 (by decide)]; exact h3
  · rw [fr 9 (by decide), fr 10 (by decide)]; exact h4
  · rw [fr 32 (by decide), fr 33 (by decide), fr 34 (by decide)]; exact h5
  · show M 0 36 q = nI (uN (S.1 9) s th q) ∧ M 0 37 q = nI (uN (S.1 10) s fo q) ∧ M 0 38 q = nI (uN (S.1 11) s sz q) ∧ ∀ i, i < 60 → M 0 39 (60 * q + i) = (if q = s then it else S.2 q) i
    rw [e1 q hq, e2 q hq, e3 q hq]
    unfold uN
    by_cases hqs : q = s
    · simp only [if_pos hqs]
      exact ⟨(by trivial), (by trivial), (by trivial), fun i hi => by rw [e0 q i hq hi, if_pos hqs]⟩
    · simp only [if_neg hqs]
      obtain ⟨k1, k2, k3, k4⟩ := h6 q hq
      exact ⟨k1, k2, k3, fun i hi => by rw [e0 q i hq hi, if_neg hqs]; exact k4 i hi⟩
  · rw [fr 41 (by decide)]; exact h7
theorem n1e {x : Nat} (h : x ≤ 1) : nI (1 - x) = 0 ↔ x = 1 := by
  rcases (show x = 0 ∨ x = 1 by omega) with rfl | rfl <;> decide
theorem n0e {x : Nat} (h : x ≤ 1) : nI x = 0 ↔ x = 0 := by
  rcases (show x = 0 ∨ x = 1 by omega) with rfl | rfl <;> decide
theorem op_sheet {C R : Mem} (h : Rel C R) (a b c : Int32) : ∃ (r : Int32) (C' R' : Mem), fX9_sheet C a b c = some (r, C') ∧ fX10_sheet R a b c = some (r, R') ∧ Rel C' R' := by
  obtain ⟨S, hS, hC, hR⟩ := h
  rcases ixI a (n := 4) (by omega) with ha | ⟨s, hs, rfl⟩
  · refine op_rw (S' := S) (r := -2) hS ?_ ?_
    · unfold fX9_sheet
      simp only [sp_gd, sp_nm, sp_bind, sp_ite, sp_some, sp_inr]
      exact Sp.of (cs_0 ha) ⟨fun _ => ⟨(by trivial), hC⟩, fun z => absurd rfl z⟩
    · unfold fX10_sheet
      simp only [sp_gd, sp_nm, sp_bind, sp_ite, sp_some, sp_inr]
      exact Sp.of (ms_0 ha) ⟨fun _ => ⟨(by trivial), hR⟩, fun z => absurd rfl z⟩
  · rcases ixI b (n := 3) (by omega) with hb | ⟨fo, hfo, rfl⟩
    · refine op_rw (S' := S) (r := -2) hS ?_ ?_
      · unfold fX9_sheet
        simp only [sp_gd, sp_nm, sp_bind, sp_ite, sp_some, sp_inr]
        exact Sp.of (cs_1 hs) ⟨fun z => absurd z (by decide), fun _ => Sp.of (cf_0 hb) ⟨fun _ => ⟨(by trivial), hC⟩, fun z => absurd rfl z⟩⟩
      · unfold fX10_sheet
        simp only [sp_gd, sp_nm, sp_bind, sp_ite, sp_some, sp_inr]
        exact Sp.of (ms_1 hs) ⟨fun z => absurd z (by decide), fun _ => Sp.of (in_0 (n := 2) hb (by omega)) ⟨fun _ => ⟨(by trivial), hR⟩, fun z => absurd rfl z⟩⟩
    · by_cases h60 : c ≤ 60
      · by_cases h0 : 0 ≤ c
        · obtain ⟨n, hn, rfl⟩ := nI_of2 (x := c) (M := 60) (n := 60) (by decide) (Int32.not_lt.mpr h0) h60
          refine op_rw (S' := sSh S s 1 fo n (fun _ => 0)) (r := nI n) (okS_Sh hS (by omega) (by omega) hn) ?_ ?_
          · unfold fX9_sheet fX4_renew
            simp only [sp_gd, sp_nm, sp_bind, sp_ite, sp_some, sp_inr]
            refine Sp.of (cs_1 hs) ⟨fun z => absurd z (by decide), fun _ => Sp.of (cf_1 hfo) ⟨fun z => absurd z (by decide), fun _ => ⟨fun _ => ⟨fun _ => ?_, fun z => absurd h0 z⟩, fun z => absurd h60 z⟩⟩⟩
            rw [inB_nI (by omega), nI_clamp (by omega)]
            refine ⟨hs, ?_⟩
            refine (cl_fill (by omega)).mono (fun M' ⟨f1, f2⟩ => ⟨(by trivial), cl_sh hC hs (fun x hx => ?_) ?_ ?_ ?_ (fun i hi => f2 i hi)⟩)
            · rw [f1.O x hx, wr_ob _ _ _ _ _ hx, wr_ob _ _ _ _ _ hx, wr_ob _ _ _ _ _ hx]
            · rw [f1 _ 1 (by omega)]; simp [wr_ap]; rfl
            · rw [f1 _ 2 (by omega)]; simp [wr_ap]
            · rw [f1 _ 3 (by omega)]; simp [wr_ap]
          · unfold fX10_sheet
            simp only [sp_gd, sp_nm, sp_bind, sp_ite, sp_some, sp_inr]
            refine Sp.of (ms_1 hs) ⟨fun z => absurd z (by decide), fun _ => Sp.of (in_1 (j := fo) (n := 2) (by omega) (by omega)) ⟨fun z => absurd z (by decide), fun _ => ⟨fun _ => ⟨fun _ => ?_, fun z => absurd h0 z⟩, fun z => absurd h60 z⟩⟩⟩
            rw [inB_nI (by omega), nI_clamp (by omega)]
            refine ⟨hs, hs, hs, ?_⟩
            obtain ⟨M3, hM3⟩ : ∃ M3, M3 = wr (wr (wr R 0 36 s 1) 0 37 s (nI fo)) 0 38 s (nI n) := ⟨_, rfl⟩
            rw [← hM3]
            have f3 : frM [36, 37, 38, 39, 40] R M3 := by rw [hM3]; exact ((frM.rf.w _ _ _ (by decide)).w _ _ _ (by decide)).w _ _ _ (by decide)
            have q36 : ∀ q, M3 0 36 q = if q = s then nI 1 else R 0 36 q := fun q => by rw [hM3]; simp [wr_ap]; rfl
            have q37 : ∀ q, M3 0 37 q = if q = s then nI fo else R 0 37 q := fun q => by rw [hM3]; simp [wr_ap]
            have q38 : ∀ q, M3 0 38 q = if q = s then nI n else R 0 38 q := fun q => by rw [hM3]; simp [wr_ap]
            have q39 : M3 0 39 = R 0 39 := by rw [hM3, wr_row _ _ _ _ _ (by decide), wr_row _ _ _ _ _ (by decide), wr_row _ _ _ _ _ (by decide)]
            refine lp_for (fun i st => st.1 = nI i ∧ frM [39] M3 st.2 ∧ ∀ q, st.2 0 39 q = if 60 * s ≤ q ∧ q < 60 * s + i then 0 else R 0 39 q) 60 (by omega) ?_ ?_ (Nat.zero_le _) ⟨rfl, frM.rf, fun q => by dsimp only; rw [if_neg (by omega), q39]⟩
            · rintro i ⟨x, Mc⟩ hi ⟨h1, h2, h3⟩
              dsimp only at h1 h2 h3 ⊢
              subst h1
              unfold fX10_sheet_59
              simp only [sp_gd, sp_nm, sp_bind, sp_ite, sp_some, sp_inr]
              rw [il60, nI_leI (by omega) (by omega), pk_mul, nI_add, nI_1, inB_nI (by omega), nI_clamp (by omega)]
              refine ⟨fun hc => absurd hc (by omega), fun _ => ⟨by omega, rfl, h2.w _ _ _ (by decide), fun q => ?_⟩⟩
              simp only [wr_ap]
              by_cases hq : q = 60 * s + i
              · rw [if_pos ⟨(by trivial), (by trivial), hq⟩, if_pos (by omega)]
              · rw [if_neg (fun z => hq z.2.2), h3 q]
                by_cases hq2 : 60 * s ≤ q ∧ q < 60 * s + i
                · rw [if_pos hq2, if_pos (by omega)]
                · rw [if_neg hq2, if_neg (by omega)]
            · rintro ⟨x, Mc⟩ ⟨h1, h2, h3⟩
              dsimp only at h1 h2 h3 ⊢
              subst h1
              unfold fX10_sheet_59
              simp only [sp_gd, sp_nm, sp_bind, sp_ite, sp_some, sp_inr]
              rw [il60, nI_leI (by omega) (by omega)]
              refine ⟨fun _ => ⟨rfl, md_sh hR hs (f3.tr (h2.sub (by decide))) (fun q _ => by dsimp only; rw [h2 36 (by decide)]; exact q36 q) (fun q _ => by dsimp only; rw [h2 37 (by decide)]; exact q37 q) (fun q _ => by dsimp only; rw [h2 38 (by decide)]; exact q38 q) (fun q i hq hi => ?_)⟩, fun hc => absurd (Nat.le_refl _) hc⟩
              dsimp only
              rw [h3]
              by_cases hqs : q = s
              · rw [if_pos (by rw [hqs]; omega), if_pos hqs]
              · rw [if_neg (by omega), if_neg hqs]
        · refine op_rw (S' := sFd S 5) (r := (-10 : Int32) - nI 5) (okS_Fd hS (by omega)) ?_ ?_
          · unfold fX9_sheet
            simp only [sp_gd, sp_nm, sp_bind, sp_ite, sp_some, sp_inr]
            exact Sp.of (cs_1 hs) ⟨fun z => absurd z (by decide), fun _ => Sp.of (cf_1 hfo) ⟨fun z => absurd z (by decide), fun _ => ⟨fun _ => ⟨fun z => absurd z h0, fun _ => cl_found hC 5⟩, fun z => absurd h60 z⟩⟩⟩
          · unfold fX10_sheet
            simp only [sp_gd, sp_nm, sp_bind, sp_ite, sp_some, sp_inr]
            exact Sp.of (ms_1 hs) ⟨fun z => absurd z (by decide), fun _ => Sp.of (in_1 (j := fo) (n := 2) (by omega) (by omega)) ⟨fun z => absurd z (by decide), fun _ => ⟨fun _ => ⟨fun z => absurd z h0, fun _ => md_meets hR 5⟩, fun z => absurd h60 z⟩⟩⟩
      · refine op_rw (S' := S) (r := -2) hS ?_ ?_
        · unfold fX9_sheet
          simp only [sp_gd, sp_nm, sp_bind, sp_ite, sp_some, sp_inr]
          exact Sp.of (cs_1 hs) ⟨fun z => absurd z (by decide), fun _ => Sp.of (cf_1 hfo) ⟨fun z => absurd z (by decide), fun _ => ⟨fun z => absurd z h60, fun _ => ⟨(by trivial), hC⟩⟩⟩⟩
        · unfold fX10_sheet
          simp only [sp_gd, sp_nm, sp_bind, sp_ite, sp_some, sp_inr]
          exact Sp.of (ms_1 hs) ⟨fun z => absurd z (by decide), fun _ => Sp.of (in_1 (j := fo) (n := 2) (by omega) (by omega)) ⟨fun z => absurd z (by decide), fun _ => ⟨fun z => absurd z h60, fun _ => ⟨(by trivial), hR⟩⟩⟩⟩
theorem op_lose {C R : Mem} (h : Rel C R) (a : Int32) : ∃ (r : Int32) (C' R' : Mem), fX9_lose C a = some (r, C') ∧ fX10_lose R a = some (r, R') ∧ Rel C' R' := by
  obtain ⟨S, hS, hC, hR⟩ := h
  rcases ixI a (n := 4) (by omega) with ha | ⟨s, hs, rfl⟩
  · refine op_rw (S' := S) (r := -2) hS ?_ ?_
    · unfold fX9_lose
      simp only [sp_gd, sp_nm, sp_bind, sp_ite, sp_some, sp_inr]
      exact Sp.of (cs_0 ha) ⟨fun _ => ⟨(by trivial), hC⟩, fun z => absurd rfl z⟩
    · unfold fX10_lose
      simp only [sp_gd, sp_nm, sp_bind, sp_ite, sp_some, sp_inr]
      exact Sp.of (ms_0 ha) ⟨fun _ => ⟨(by trivial), hR⟩, fun z => absurd rfl z⟩
  · obtain ⟨q1, q2, q3⟩ := hS.2.2.2.2.2.1 s hs
    obtain ⟨c1, c2, c3, c4⟩ := hC.1.2.2.2.2.1 s hs
    obtain ⟨r1, r2, r3, r4⟩ := hR.2.2.2.2.2.1 s hs
    by_cases ht : S.1 9 s = 1
    · refine op_rw (S' := sSh S s 0 (S.1 10 s) (S.1 11 s) (S.2 s)) (r := nI (S.1 11 s)) (okS_Sh hS (by omega) q2 q3) ?_ ?_
      · unfold fX9_lose
        simp only [sp_gd, sp_nm, sp_bind, sp_ite, sp_some, sp_inr]
        refine Sp.of (cs_1 hs) ⟨fun z => absurd z (by decide), fun _ => ?_⟩
        rw [inB_nI (by omega), nI_clamp (by omega), c1]
        refine ⟨hs, fun _ => ⟨hs, hs, ?_, cl_sh hC hs (fun x hx => wr_ob _ _ _ _ _ hx) (by simp [wr_ap]; rfl) ?_ ?_ (fun i hi => ?_)⟩, fun z => absurd ((n1e q1).mpr ht) z⟩
        · rw [wr_row _ _ _ _ _ (by omega)]; exact c3
        · rw [wr_row _ _ _ _ _ (by omega)]; exact c2
        · rw [wr_row _ _ _ _ _ (by omega)]; exact c3
        · rw [wr_row _ _ _ _ _ (by omega)]; exact c4 i hi
      · unfold fX10_lose
        simp only [sp_gd, sp_nm, sp_bind, sp_ite, sp_some, sp_inr]
        refine Sp.of (ms_1 hs) ⟨fun z => absurd z (by decide), fun _ => ?_⟩
        rw [inB_nI (by omega), nI_clamp (by omega), r1]
        refine ⟨hs, fun z => absurd ((n0e q1).mp z) (by omega), fun _ => ⟨hs, hs, ?_, md_sh hR hs (frM.rf.w _ _ _ (by decide)) (fun q hq => by simp [wr_ap]; rfl) (fun q hq => ?_) (fun q hq => ?_) (fun q i hq hi => ?_)⟩⟩
        · rw [wr_row _ _ _ _ _ (by decide)]; exact r3
        · rw [wr_row _ _ _ _ _ (by decide)]
          split
          · rename_i e; rw [e]; exact r2
          · rfl
        · rw [wr_row _ _ _ _ _ (by decide)]
          split
          · rename_i e; rw [e]; exact r3
          · rfl
        · rw [wr_row _ _ _ _ _ (by decide)]
          split
          · rename_i e; rw [e]; exact r4 i hi
          · rfl
    · refine op_rw (S' := sFd S 1) (r := (-10 : Int32) - nI 1) (okS_Fd hS (by omega)) ?_ ?_
      · unfold fX9_lose
        simp only [sp_gd, sp_nm, sp_bind, sp_ite, sp_some, sp_inr]
        refine Sp.of (cs_1 hs) ⟨fun z => absurd z (by decide), fun _ => ?_⟩
        rw [inB_nI (by omega), nI_clamp (by omega), c1]
        exact ⟨hs, fun z => absurd ((n1e q1).mp z) ht, fun _ => cl_found hC 1⟩
      · unfold fX10_lose
        simp only [sp_gd, sp_nm, sp_bind, sp_ite, sp_some, sp_inr]
        refine Sp.of (ms_1 hs) ⟨fun z => absurd z (by decide), fun _ => ?_⟩
        rw [inB_nI (by omega), nI_clamp (by omega), r1]
        exact ⟨hs, fun _ => md_meets hR 1, fun z => absurd ((n0e q1).mpr (by omega)) z⟩
