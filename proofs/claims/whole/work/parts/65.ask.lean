/-! ===== ask ===== -/
theorem isO_or (x y s : Int32) : ((x ||| y) >>> s) &&& (1 : Int32) = ((x >>> s) &&& 1) ||| ((y >>> s) &&& 1) := by
  apply Int32.toBitVec_inj.mp
  simp only [Int32.toBitVec_and, Int32.toBitVec_or, Int32.toBitVec_shiftRight, BitVec.sshiftRight', BitVec.sshiftRight_or_distrib]
  apply BitVec.eq_of_getLsbD_eq
  intro i hi
  simp only [BitVec.getLsbD_and, BitVec.getLsbD_or, Bool.and_or_distrib_right]
theorem or_z (a b : Int32) : a ||| b = 0 ↔ a = 0 ∧ b = 0 := by
  rw [← Int32.toBitVec_inj, ← Int32.toBitVec_inj, ← Int32.toBitVec_inj, Int32.toBitVec_or]
  exact BitVec.or_eq_zero_iff
theorem one_b : ∀ n, n < 10 → ∀ v, v < 10 → ((((1 : Int32) <<< (nI n &&& 31)) >>> (nI v &&& 31)) &&& (1 : Int32) = 0 ↔ ¬ v = n) := by decide +kernel
theorem zero_b : ∀ v, v < 10 → ((0 : Int32) >>> (nI v &&& 31)) &&& (1 : Int32) = 0 := by decide +kernel
theorem nvA_b {p : Nat → Bool} {v : Nat} (hv : v < 10) : ∀ n, n ≤ 10 → (isO (nvA p n) v ↔ v < n ∧ p v = true)
  | 0, _ => ⟨fun z => absurd (zero_b v hv) z, fun z => absurd z.1 (Nat.not_lt_zero _)⟩
  | n + 1, hn => by
    have ih := nvA_b (p := p) hv n (by omega)
    rw [nvA]
    by_cases hp : p n = true
    · rw [if_pos hp]
      show (¬ _ = _) ↔ _
      rw [isO_or, or_z, one_b n (by omega) v hv]
      by_cases hvn : v = n
      · exact ⟨fun _ => ⟨by omega, by rw [hvn]; exact hp⟩, fun _ z => z.2 hvn⟩
      · refine ⟨fun z => ?_, fun z y => ih.mpr ⟨by omega, z.2⟩ y.1⟩
        have : isO (nvA p n) v := fun y => z ⟨y, hvn⟩
        exact ⟨by have := (ih.mp this).1; omega, (ih.mp this).2⟩
    · rw [if_neg hp, ih]
      refine ⟨fun z => ⟨by omega, z.2⟩, fun z => ⟨?_, z.2⟩⟩
      have : v ≠ n := fun e => hp (e ▸ z.2)
      omega
def cntA (p : Nat → Bool) (d : Nat → Nat) (x : Nat) : Nat → Nat
  | 0 => 0
  | n + 1 => cntA p d x n + (if p n = true ∧ d n = x then 1 else 0)
def mxN (f : Nat → Nat) : Nat → Nat
  | 0 => 0
  | n + 1 => max (mxN f n) (f n)
theorem cntA_le {p : Nat → Bool} {d : Nat → Nat} {x : Nat} : ∀ n, cntA p d x n ≤ n
  | 0 => Nat.le_refl _
  | n + 1 => by
    rw [cntA]
    have := cntA_le (p := p) (d := d) (x := x) n
    split <;> omega
theorem cntA_pos {p : Nat → Bool} {d : Nat → Nat} {x : Nat} : ∀ n, 0 < cntA p d x n → ∃ v, v < n ∧ p v = true ∧ d v = x
  | 0, h => absurd h (Nat.lt_irrefl 0)
  | n + 1, h => by
    rw [cntA] at h
    by_cases hc : p n = true ∧ d n = x
    · exact ⟨n, by omega, hc.1, hc.2⟩
    · rw [if_neg hc] at h
      obtain ⟨v, h1, h2⟩ := cntA_pos n (by omega)
      exact ⟨v, by omega, h2⟩
theorem mxN_le {f : Nat → Nat} {b : Nat} : ∀ n, (∀ i, i < n → f i ≤ b) → mxN f n ≤ b
  | 0, _ => Nat.zero_le _
  | n + 1, h => by
    rw [mxN]
    exact Nat.max_le.mpr ⟨mxN_le n (fun i hi => h i (by omega)), h n (by omega)⟩
theorem le_mxN {f : Nat → Nat} : ∀ n i, i < n → f i ≤ mxN f n
  | 0, i, h => absurd h (Nat.not_lt_zero _)
  | n + 1, i, h => by
    rw [mxN]
    by_cases e : i = n
    · rw [e]; exact Nat.le_max_right _ _
    · exact Nat.le_trans (le_mxN n i (by omega)) (Nat.le_max_left _ _)
theorem mxN_eq {p : Nat → Bool} {d : Nat → Nat} (hd : ∀ v, v < 10 → d v ≤ 4) : mxN (fun v => if p v = true then cntA p d (d v) 10 else 0) 10 = mxN (fun x => cntA p d x 10) 5 := by
  apply Nat.le_antisymm
  · refine mxN_le 10 (fun v hv => ?_)
    split
    · exact le_mxN (f := fun x => cntA p d x 10) 5 (d v) (by have := hd v hv; omega)
    · exact Nat.zero_le _
  · refine mxN_le 5 (fun x hx => ?_)
    by_cases h0 : 0 < cntA p d x 10
    · obtain ⟨v, h1, h2, h3⟩ := cntA_pos 10 h0
      have := le_mxN (f := fun v => if p v = true then cntA p d (d v) 10 else 0) 10 v h1
      rw [if_pos h2, h3] at this
      exact this
    · omega
def dA (S : St) (j k v : Nat) : Nat := (stW (setC (told S) 2 j v) (k + 1)).1 8 0
def mAl (S : St) (j k : Nat) : Nat := mxN (fun x => cntA (wsB S 2 j) (dA S j k) x 10) 5
theorem mAl_le (S : St) (j k : Nat) : mAl S j k ≤ 10 := mxN_le 5 (fun _ _ => cntA_le 10)
def akA (S : St) (j : Nat) : Nat → Int32 × Nat
  | 0 => (-1, 11)
  | n + 1 => if (akA S j n).2 ≤ mAl S j n then akA S j n else (nI n, mAl S j n)
theorem akA_le (S : St) (j : Nat) : ∀ n, (akA S j n).2 ≤ 11
  | 0 => Nat.le_refl _
  | n + 1 => by
    rw [akA]
    have := akA_le S j n
    have := mAl_le S j n
    split
    · assumption
    · dsimp only
      omega
theorem akA_pos (S : St) (j : Nat) : ∀ n, n < 30 → 0 < n → ¬ (akA S j n).1 = -1
  | 0, _, h => absurd h (Nat.lt_irrefl 0)
  | n + 1, hn, _ => by
    rw [akA]
    split
    · rename_i h
      by_cases h0 : n = 0
      · have := mAl_le S j n
        rw [h0] at h
        have e : (akA S j 0).2 = 11 := rfl
        rw [h0] at this
        omega
      · exact akA_pos S j n (by omega) (by omega)
    · exact nI_ne_m1 (by omega)
theorem cl_tally {M : Mem} {n : Nat} {d : Nat → Nat} {c : Nat → Nat → Nat} (hn : n ≤ 20) (e3 : M 3 6 0 = nI n) (ed : ∀ k, k < n → M 6 2 k = nI (d k)) (hd : ∀ k, k < n → d k ≤ 4) (ec : ∀ k, k < n → ∀ x, x < 5 → M 0 9 (5 * k + x) = nI (c k x)) : Sp (fX9_tallyTrial M) (fun M' => (∀ o f, ¬ (o = 0 ∧ f = 9) → M' o f = M o f) ∧ ∀ k, k < n → ∀ x, x < 5 → M' 0 9 (5 * k + x) = nI (c k x + if d k = x then 1 else 0)) := by
  unfold fX9_tallyTrial
  simp only [sp_gd, sp_nm, sp_bind, sp_ite, sp_some, sp_inr]
  refine lp_for (fun i st => st.1 = nI i ∧ (∀ o f, ¬ (o = 0 ∧ f = 9) → st.2 o f = M o f) ∧ ∀ k, k < n → ∀ x, x < 5 → st.2 0 9 (5 * k + x) = nI (c k x + if k < i ∧ d k = x then 1 else 0)) n (by omega) ?_ ?_ (Nat.zero_le _) ⟨rfl, fun _ _ _ => rfl, fun k hk x hx => by dsimp only; rw [if_neg (by omega)]; exact ec k hk x hx⟩
  · rintro i ⟨x, Mc⟩ hi ⟨a1, a2, a3⟩
    dsimp only at a1 a2 a3 ⊢
    subst a1
    have hdi := hd i hi
    unfold fX9_tallyTrial_2
    simp only [sp_gd, sp_nm, sp_bind, sp_ite, sp_some, sp_inr]
    rw [a2 3 6 (by omega), e3, a2 6 2 (by omega), nI_leI (by omega) (by omega), inB_nI (by omega), nI_clamp (by omega), ed i hi, show nI i * (5 : Int32) + nI (d i) = nI (5 * i + d i) by rw [il5, pk_mul, nI_add, Nat.mul_comm], inB_nI (by omega), nI_clamp (by omega), a3 i hi (d i) (by omega), nI_1, nI_1]
    refine ⟨fun hc => absurd hc (by omega), fun _ => ⟨by omega, by omega, by omega, rfl, fun o f h => ?_, fun k hk x hx => ?_⟩⟩
    · dsimp only
      rw [wr_row _ _ _ _ _ h]; exact a2 o f h
    · dsimp only
      rw [wr_ap]
      by_cases hc : 5 * k + x = 5 * i + d i
      · have hk2 : k = i := by omega
        have hx2 : x = d i := by omega
        subst hk2 hx2
        rw [if_pos ⟨rfl, rfl, rfl⟩, if_neg (by omega), if_pos (by omega)]
      · rw [if_neg (fun z => hc z.2.2), a3 k hk x hx]
        by_cases h1 : k < i ∧ d k = x
        · rw [if_pos h1, if_pos (by omega)]
        · rw [if_neg h1, if_neg (fun z => h1 ⟨?_, z.2⟩)]
          have : k ≠ i := fun e => hc (by rw [← z.2, e])
          omega
  · rintro ⟨x, Mc⟩ ⟨a1, a2, a3⟩
    dsimp only at a1 a2 a3 ⊢
    subst a1
    unfold fX9_tallyTrial_2
    simp only [sp_gd, sp_nm, sp_bind, sp_ite, sp_some, sp_inr]
    rw [a2 3 6 (by omega), e3, nI_leI (by omega) (by omega)]
    refine ⟨fun _ => ⟨a2, fun k hk x hx => ?_⟩, fun hc => absurd (Nat.le_refl _) hc⟩
    rw [a3 k hk x hx]
    by_cases h1 : d k = x
    · rw [if_pos h1, if_pos ⟨hk, h1⟩]
    · rw [if_neg h1, if_neg (fun z => h1 z.2)]
theorem cl_mostAlike {M : Mem} {k : Nat} {c : Nat → Nat} (hk : k < 20) (hc : ∀ x, x < 5 → c x ≤ 10) (e : ∀ x, x < 5 → M 0 9 (5 * k + x) = nI (c x)) : fX9_mostAlike M (nI k) = some (nI (mxN c 5)) := by
  apply Sp.eq
  unfold fX9_mostAlike
  simp only [sp_gd, sp_nm, sp_bind, sp_ite, sp_some, sp_inr]
  refine lp_for (fun i st => st = (nI (mxN c i), nI i)) 5 (by omega) ?_ ?_ (Nat.zero_le _) rfl
  · rintro i st hi rfl
    have h1 := mxN_le (f := c) (b := 10) i (fun q hq => hc q (by omega))
    have h2 := hc i hi
    unfold fX9_mostAlike_4
    simp only [sp_gd, sp_nm, sp_bind, sp_ite, sp_some, sp_inr]
    rw [il5, nI_leI (by omega) (by omega), show nI k * nI 5 + nI i = nI (5 * k + i) by rw [pk_mul, nI_add, Nat.mul_comm], inB_nI (by omega), nI_clamp (by omega), e i hi, nI_1, imax_nI (by omega) (by omega)]
    exact ⟨fun hc => absurd hc (by omega), fun _ => ⟨by omega, rfl⟩⟩
  · rintro st rfl
    unfold fX9_mostAlike_4
    simp only [sp_gd, sp_nm, sp_bind, sp_ite, sp_some, sp_inr]
    rw [il5, nI_leI (by omega) (by omega)]
    exact ⟨fun _ => rfl, fun hc => absurd (Nat.le_refl _) hc⟩
theorem cl_ask {C : Mem} {S : St} (hS : okS S) (hC : RC C S) {j : Nat} (hj : j < (told S).1 5 0) : Sp (fX9_ask C (nI j)) (fun z => z.1 = (akA S j ((told S).1 6 0)).1 ∧ frS [0, 6, 7, 8] C z.2 ∧ ∀ f, f ≠ 9 → z.2 0 f = C 0 f) := by
  have hγ := okC_told hS
  have h8 := hγ.1
  have hn := hγ.2.1
  have hg := hC.2.1.1
  unfold fX9_ask
  simp only [sp_gd, sp_nm, sp_bind, sp_ite, sp_some, sp_inr]
  refine Sp.of (h_1 hg.2.2.2.1 hj (by omega)) ⟨fun z => absurd z (by decide), fun _ => ?_⟩
  refine (cl_fill (n := 100) (by omega)).mono (fun M0 ⟨f0, z0⟩ => ?_)
  refine (cl_prepare (γ := told S) hγ (by rw [show M0 3 = C 3 from funext (fun f => f0 3 f (by omega))]; exact hg) (by decide)).mono (fun M1 ⟨f1, f2⟩ => ?_)
  refine lp_for (fun i st => st.1 = nI i ∧ (∃ v, RG (st.2 7) (setC (told S) 2 j v)) ∧ frS [0, 6, 7, 8] C st.2 ∧ (∀ f, f ≠ 9 → st.2 0 f = C 0 f) ∧ ∀ k, k < (told S).1 6 0 → ∀ x, x < 5 → st.2 0 9 (5 * k + x) = nI (cntA (wsB S 2 j) (dA S j k) x i)) 10 (by omega) ?_ ?_ (Nat.zero_le _) ⟨rfl, ⟨(told S).1 2 j, by rw [setC_self]; exact f1⟩, fun o ho => ?_, fun f hf => ?_, fun k hk x hx => ?_⟩
  · rintro i ⟨x, Mc⟩ hi ⟨a1, ⟨v, a2⟩, a3, a4, a5⟩
    dsimp only at a1 a2 a3 a4 a5 ⊢
    subst a1
    unfold fX9_ask_32 fX9_ask_76
    simp only [sp_gd, sp_nm, sp_bind, sp_ite, sp_some, sp_inr]
    rw [inB_nI (by omega), nI_clamp (by omega), nI_1, il10, nI_leI (by omega) (by omega)]
    refine ⟨fun hc => absurd hc (by omega), fun _ => ⟨by omega, ?_⟩⟩
    have g2 := RG.set (j := j) (v := i) a2 (f := 2) (by omega)
    rw [setC_2] at g2
    have ok2 := okC_set (j := j) (v := i) hγ (f := 2) (by omega) (by omega)
    refine (cl_run ok2 g2).mono (fun M2 ⟨t1, t2, t3⟩ => ?_)
    have e6 : (setC (told S) 2 j i).1 6 0 = (told S).1 6 0 := setC_o (by omega)
    have g3 : RG (M2 7) (setC (told S) 2 j i) := by rw [t3 7 (by decide)]; exact g2
    have fr : frS [0, 6, 7, 8] C M2 := a3.tr (frS.tr (fun o ho => wr_ob _ _ _ _ _ (fun z => ho (by rw [z]; decide))) (t3.sub (by decide)))
    have fr0 : M2 0 = Mc 0 := by rw [t3 0 (by decide), wr_ob _ _ _ _ _ (by decide)]
    refine Sp.of (cl_agrees hS ok2 (by rw [fr 10 (by decide)]; exact hC.1.2.2.2.1) g3.2.2.2.2.1 t2) ?_
    by_cases hp : wsB S 2 j i = true
    · rw [b01_1 (p := seenB S (setC (told S) 2 j i)) hp]
      refine ⟨fun z => absurd z (by decide), fun _ => ?_⟩
      refine (cl_tally (n := (told S).1 6 0) (d := fun k => dA S j k i) (c := fun k x => cntA (wsB S 2 j) (dA S j k) x i) hn (by rw [fr 3 (by decide)]; exact hg.2.2.2.2.1) (fun k hk => t2 k (by rw [e6]; exact hk)) (fun k hk => did4 ok2 _) (fun k hk x hx => by rw [fr0]; exact a5 k hk x hx)).mono (fun M3 ⟨b1, b2⟩ => ⟨rfl, ⟨i, ?_⟩, fun o ho => ?_, fun f hf => ?_, fun k hk x hx => ?_⟩)
      · dsimp only
        rw [show M3 7 = M2 7 from funext (fun f => b1 7 f (by omega))]; exact g3
      · dsimp only
        rw [show M3 o = M2 o from funext (fun f => b1 o f (fun z => ho (by rw [z.1]; decide)))]; exact fr o ho
      · dsimp only
        rw [b1 0 f (fun z => hf z.2), fr0]; exact a4 f hf
      · dsimp only
        rw [b2 k hk x hx, cntA]
        by_cases hd : dA S j k i = x
        · rw [if_pos hd, if_pos ⟨hp, hd⟩]
        · rw [if_neg hd, if_neg (fun z => hd z.2)]
    · rw [b01_0 (p := seenB S (setC (told S) 2 j i)) hp]
      refine ⟨fun _ => ⟨rfl, ⟨i, g3⟩, fr, fun f hf => ?_, fun k hk x hx => ?_⟩, fun z => absurd rfl z⟩
      · dsimp only
        rw [fr0]; exact a4 f hf
      · dsimp only
        rw [fr0, cntA, if_neg (fun z => hp z.1)]; exact a5 k hk x hx
  · rintro ⟨x, Mc⟩ ⟨a1, a2, a3, a4, a5⟩
    dsimp only at a1 a2 a3 a4 a5 ⊢
    subst a1
    have e36 : Mc 3 6 0 = nI ((told S).1 6 0) := by rw [a3 3 (by decide)]; exact hg.2.2.2.2.1
    unfold fX9_ask_32 fX9_ask_82
    simp only [sp_gd, sp_nm, sp_bind, sp_ite, sp_some, sp_inr]
    rw [il10, nI_leI (by omega) (by omega)]
    refine ⟨fun _ => ?_, fun hc => absurd (Nat.le_refl _) hc⟩
    refine lp_for (fun i st => st.1 = (akA S j i).1 ∧ st.2.1 = nI (akA S j i).2 ∧ st.2.2.1 = nI i ∧ st.2.2.2 = Mc) ((told S).1 6 0) (by omega) ?_ ?_ (Nat.zero_le _) ⟨rfl, rfl, rfl, rfl⟩
    · rintro i ⟨x2, x3, x4, N⟩ hi ⟨c1, c2, c3, c4⟩
      dsimp only at c1 c2 c3 c4 ⊢
      subst c2 c3 c4
      have hl := akA_le S j i
      have hm := mAl_le S j i
      unfold fX9_ask_90 fX9_ask_122
      simp only [sp_gd, sp_nm, sp_bind, sp_ite, sp_some, sp_inr]
      rw [e36, nI_leI (by omega) (by omega), nI_1]
      refine ⟨fun hc => absurd hc (by omega), fun _ => Sp.of (cl_mostAlike (c := fun x => cntA (wsB S 2 j) (dA S j i) x 10) (by omega) (fun x _ => cntA_le 10) (a5 i hi)) ?_⟩
      rw [show mxN (fun x => cntA (wsB S 2 j) (dA S j i) x 10) 5 = mAl S j i from rfl, nI_leI (by omega) (by omega)]
      refine ⟨fun hle => ⟨?_, ?_, rfl, rfl⟩, fun hle => ⟨?_, ?_, rfl, rfl⟩⟩
      · dsimp only
        rw [akA, if_pos hle]; exact c1
      · dsimp only
        rw [akA, if_pos hle]
      · dsimp only
        rw [akA, if_neg hle]
      · dsimp only
        rw [akA, if_neg hle]
    · rintro ⟨x2, x3, x4, N⟩ ⟨c1, c2, c3, c4⟩
      dsimp only at c1 c2 c3 c4 ⊢
      subst c2 c3 c4
      unfold fX9_ask_90
      simp only [sp_gd, sp_nm, sp_bind, sp_ite, sp_some, sp_inr]
      rw [e36, nI_leI (by omega) (by omega)]
      exact ⟨fun _ => ⟨c1, a3, a4⟩, fun hc => absurd (Nat.le_refl _) hc⟩
  · dsimp only
    have o7 : o ≠ 7 := fun z => ho (by rw [z]; decide)
    have o0 : o ≠ 0 := fun z => ho (by rw [z]; decide)
    rw [f2 o o7]
    exact funext (fun f => f0 o f (fun z => o0 z.1))
  · dsimp only
    rw [f2 0 (by decide)]
    exact f0 0 f (fun z => hf z.2)
  · dsimp only
    rw [f2 0 (by decide), z0 _ (by omega)]
    rfl
theorem md_askOf {R : Mem} {S : St} (hS : okS S) (hR : RR R S) {j : Nat} (hj : j < (told S).1 5 0) : Sp (fX10_askOf R (nI j)) (fun z => z.1 = (akA S j ((told S).1 6 0)).1 ∧ frM SL R z.2) := by
  have hγ := okC_told hS
  have hn := hγ.2.1
  unfold fX10_askOf
  simp only [sp_gd, sp_nm, sp_bind, sp_ite, sp_some, sp_inr]
  have key := md_wasBy hS hR hj (b := 0) (by omega)
  rw [← il0, show fW 0 = 2 from rfl] at key
  refine key.mono (fun z ⟨z1, z2, z3, z4⟩ => ?_)
  obtain ⟨r0, M⟩ := z
  dsimp only at z1 z2 z3 z4 ⊢
  have d4 : ∀ k v, v < 10 → dA S j k v ≤ 4 := fun k v hv => did4 (okC_set hγ (by omega) (by omega)) _
  have bit : ∀ v, v < 10 → (isO r0 v ↔ wsB S 2 j v = true) := fun v hv => by
    rw [z1, nvA_b hv 10 (Nat.le_refl _)]
    exact ⟨fun z => z.2, fun z => ⟨hv, z⟩⟩
  refine lp_for (fun i st => st.1 = r0 ∧ st.2.1 = (akA S j i).1 ∧ (i = 0 ∨ st.2.2.1 = nI (akA S j i).2) ∧ st.2.2.2.1 = nI i ∧ st.2.2.2.2 = M) ((told S).1 6 0) (by omega) ?_ ?_ (Nat.zero_le _) ⟨rfl, rfl, Or.inl rfl, rfl, rfl⟩
  · rintro i ⟨x2, x3, x4, x5, N⟩ hi ⟨a1, a2, a3, a4, a5⟩
    dsimp only at a1 a2 a3 a4 a5 ⊢
    subst a1 a4 a5
    unfold fX10_askOf_15
    simp only [sp_gd, sp_nm, sp_bind, sp_ite, sp_some, sp_inr]
    rw [z4, nI_leI (by omega) (by omega)]
    refine ⟨fun hc => absurd hc (by omega), fun _ => ?_⟩
    refine lp_for (fun v st => st.1 = x2 ∧ st.2.1 = x3 ∧ st.2.2.1 = x4 ∧ st.2.2.2.1 = nI i ∧ st.2.2.2.2.1 = nI (mxN (fun v => if wsB S 2 j v = true then cntA (wsB S 2 j) (dA S j i) (dA S j i v) 10 else 0) v) ∧ st.2.2.2.2.2.1 = nI v ∧ st.2.2.2.2.2.2 = N) 10 (by omega) ?_ ?_ (Nat.zero_le _) ⟨rfl, rfl, rfl, rfl, rfl, rfl, rfl⟩
    · rintro v ⟨y2, y3, y4, y5, y6, y7, N1⟩ hv ⟨b1, b2, b3, b4, b5, b6, b7⟩
      dsimp only at b1 b2 b3 b4 b5 b6 b7 ⊢
      subst b1 b2 b3 b4 b5 b6 b7
      have hm := mxN_le (f := fun v => if wsB S 2 j v = true then cntA (wsB S 2 j) (dA S j i) (dA S j i v) 10 else 0) (b := 10) v (fun q _ => by
        split
        · exact cntA_le 10
        · omega)
      unfold fX10_askOf_30
      simp only [sp_gd, sp_nm, sp_bind, sp_ite, sp_some, sp_inr]
      rw [il10, nI_leI (by omega) (by omega)]
      refine ⟨fun hc => absurd hc (by omega), fun _ => ?_⟩
      refine lp_for (fun q st => st.1 = y2 ∧ st.2.1 = y3 ∧ st.2.2.1 = y4 ∧ st.2.2.2.1 = nI i ∧ st.2.2.2.2.1 = nI (mxN (fun v => if wsB S 2 j v = true then cntA (wsB S 2 j) (dA S j i) (dA S j i v) 10 else 0) v) ∧ st.2.2.2.2.2.1 = nI v ∧ st.2.2.2.2.2.2.1 = nI (if wsB S 2 j v = true then cntA (wsB S 2 j) (dA S j i) (dA S j i v) q else 0) ∧ st.2.2.2.2.2.2.2.1 = nI q ∧ st.2.2.2.2.2.2.2.2 = N1) 10 (by omega) ?_ ?_ (Nat.zero_le _) ⟨rfl, rfl, rfl, rfl, rfl, rfl, (by dsimp only; rw [cntA, ite_self]; rfl), rfl, rfl⟩
      · rintro q ⟨w2, w3, w4, w5, w6, w7, w8, w9, N2⟩ hq ⟨c1, c2, c3, c4, c5, c6, c7, c8, c9⟩
        dsimp only at c1 c2 c3 c4 c5 c6 c7 c8 c9 ⊢
        subst c1 c2 c3 c4 c5 c6 c7 c8 c9
        unfold fX10_askOf_43 fX10_askOf_103 fX10_askOf_104
        simp only [sp_gd, sp_nm, sp_bind, sp_ite, sp_some, sp_inr]
        rw [il10, nI_leI (by omega) (by omega)]
        refine ⟨fun hc => absurd hc (by omega), fun _ => Sp.of md_isIn ?_⟩
        by_cases hp : wsB S 2 j v = true
        · rw [if_pos ((bit v hv).mpr hp), if_pos hp]
          refine ⟨fun z => absurd z (by decide), fun _ => Sp.of md_isIn ?_⟩
          by_cases hpq : wsB S 2 j q = true
          · rw [if_pos ((bit q hq).mpr hpq), il20, pk_mul, pk_mul, nI_add, nI_add, inB_nI (by omega), inB_nI (by omega), nI_clamp (by omega), nI_clamp (by omega), z3 v hv i hi, z3 q hq i hi]
            have dv := d4 i v hv
            have dq := d4 i q hq
            rw [show (stW (setC (told S) 2 j v) (i + 1)).1 8 0 = dA S j i v from rfl, show (stW (setC (told S) 2 j q) (i + 1)).1 8 0 = dA S j i q from rfl, nI_eq (by omega) (by omega), nI_1, nI_1]
            refine ⟨fun z => absurd z (by decide), fun _ => ⟨by omega, by omega, fun he => ⟨rfl, rfl, rfl, rfl, rfl, rfl, ?_, rfl, rfl⟩, fun he => ⟨rfl, rfl, rfl, rfl, rfl, rfl, ?_, rfl, rfl⟩⟩⟩
            · dsimp only
              rw [if_pos hp, cntA, if_pos ⟨hpq, he.symm⟩]
            · dsimp only
              rw [if_pos hp, cntA, if_neg (fun z => he z.2.symm), il0, nI_add]
          · rw [if_neg (fun z => hpq ((bit q hq).mp z)), nI_1]
            refine ⟨fun _ => ⟨rfl, rfl, rfl, rfl, rfl, rfl, ?_, rfl, rfl⟩, fun z => absurd rfl z⟩
            dsimp only
            rw [if_pos hp, cntA, if_neg (fun z => hpq z.1), il0, nI_add]
        · rw [if_neg (fun z => hp ((bit v hv).mp z)), nI_1]
          refine ⟨fun _ => ⟨rfl, rfl, rfl, rfl, rfl, rfl, ?_, rfl, rfl⟩, fun z => absurd rfl z⟩
          dsimp only
          rw [if_neg hp, if_neg hp, il0, nI_add]
      · rintro ⟨w2, w3, w4, w5, w6, w7, w8, w9, N2⟩ ⟨c1, c2, c3, c4, c5, c6, c7, c8, c9⟩
        dsimp only at c1 c2 c3 c4 c5 c6 c7 c8 c9 ⊢
        subst c1 c2 c3 c4 c5 c6 c7 c8 c9
        have hx : (if wsB S 2 j v = true then cntA (wsB S 2 j) (dA S j i) (dA S j i v) 10 else 0) ≤ 10 := by
          split
          · exact cntA_le 10
          · omega
        unfold fX10_askOf_43 fX10_askOf_113 fX10_askOf_127
        simp only [sp_gd, sp_nm, sp_bind, sp_ite, sp_some, sp_inr]
        rw [il10, nI_leI (by omega) (by omega), nI_leI (by omega) (by omega), nI_1]
        refine ⟨fun _ => ⟨fun hle => ⟨rfl, rfl, rfl, rfl, ?_, rfl, rfl⟩, fun hle => ⟨rfl, rfl, rfl, rfl, ?_, rfl, rfl⟩⟩, fun hc => absurd (Nat.le_refl _) hc⟩
        · dsimp only
          rw [mxN, Nat.max_eq_left hle]
        · dsimp only
          rw [mxN, Nat.max_eq_right (by omega)]
    · rintro ⟨y2, y3, y4, y5, y6, y7, N1⟩ ⟨b1, b2, b3, b4, b5, b6, b7⟩
      dsimp only at b1 b2 b3 b4 b5 b6 b7 ⊢
      rw [mxN_eq (d4 i)] at b5
      have b5' : y6 = nI (mAl S j i) := b5
      clear b5
      subst b1 b2 b3 b4 b5' b6 b7
      have hl := akA_le S j i
      have hm := mAl_le S j i
      unfold fX10_askOf_30 fX10_askOf_135 fX10_askOf_147 fX10_askOf_152 fX10_askOf_165 fX10_askOf_178
      simp only [sp_gd, sp_nm, sp_bind, sp_ite, sp_some, sp_inr]
      rw [il10, nI_leI (by omega) (by omega), nI_1]
      refine ⟨fun _ => ⟨fun h1 => ?_, fun h1 => ⟨fun hle => ?_, fun hle => ?_⟩⟩, fun hc => absurd (Nat.le_refl _) hc⟩
      · have hi0 : i = 0 := by
          apply Decidable.byContradiction
          intro h
          exact akA_pos S j i (by omega) (by omega) (a2.symm.trans h1)
        have ht : ¬ (akA S j i).2 ≤ mAl S j i := by
          rw [hi0] at hm ⊢
          show ¬ 11 ≤ _
          omega
        refine ⟨fun z => absurd z (by decide), fun _ => ⟨fun z => absurd z (by decide), fun _ => ⟨rfl, ?_, Or.inr ?_, rfl, rfl⟩⟩⟩
        · dsimp only
          rw [akA, if_neg ht]
        · dsimp only
          rw [akA, if_neg ht]
      · have hi0 : i ≠ 0 := fun h => h1 (by rw [a2, h]; rfl)
        have e4 : y4 = nI (akA S j i).2 := a3.resolve_left hi0
        rw [e4, nI_leI (by omega) (by omega)] at hle
        refine ⟨fun _ => ⟨fun _ => ⟨rfl, ?_, Or.inr ?_, rfl, rfl⟩, fun z => absurd trivial z⟩, fun z => absurd trivial z⟩
        · dsimp only
          rw [akA, if_pos hle]; exact a2
        · dsimp only
          rw [akA, if_pos hle]; exact e4
      · have hi0 : i ≠ 0 := fun h => h1 (by rw [a2, h]; rfl)
        have e4 : y4 = nI (akA S j i).2 := a3.resolve_left hi0
        rw [e4, nI_leI (by omega) (by omega)] at hle
        refine ⟨fun z => absurd z (by decide), fun _ => ⟨fun z => absurd z (by decide), fun _ => ⟨rfl, ?_, Or.inr ?_, rfl, rfl⟩⟩⟩
        · dsimp only
          rw [akA, if_neg hle]
        · dsimp only
          rw [akA, if_neg hle]
  · rintro ⟨x2, x3, x4, x5, N⟩ ⟨a1, a2, a3, a4, a5⟩
    dsimp only at a1 a2 a3 a4 a5 ⊢
    subst a1 a4 a5
    unfold fX10_askOf_15
    simp only [sp_gd, sp_nm, sp_bind, sp_ite, sp_some, sp_inr]
    rw [z4, nI_leI (by omega) (by omega)]
    exact ⟨fun _ => ⟨a2, z2⟩, fun hc => absurd (Nat.le_refl _) hc⟩
theorem op_ask {C R : Mem} (h : Rel C R) (a : Int32) : ∃ (r : Int32) (C' R' : Mem), fX9_ask C a = some (r, C') ∧ fX10_ask R a = some (r, R') ∧ Rel C' R' := by
  obtain ⟨S, hS, hC, hR⟩ := h
  have h8 := (okC_told hS).1
  have hg := hC.2.1.1
  rcases ixI a (n := (told S).1 5 0) (by omega) with ha | ⟨j, hj, rfl⟩
  · refine op_rw (S' := S) (r := -2) hS ?_ ?_
    · unfold fX9_ask
      simp only [sp_gd, sp_nm, sp_bind, sp_ite, sp_some, sp_inr]
      exact Sp.of (h_0 hg.2.2.2.1 ha) ⟨fun _ => ⟨(by trivial), hC⟩, fun z => absurd rfl z⟩
    · unfold fX10_ask
      simp only [sp_gd, sp_nm, sp_bind, sp_ite, sp_some, sp_inr]
      exact (md_isHeir0 hS hR ha).mono (fun z ⟨z1, z2, z3⟩ => ⟨fun _ => ⟨(by trivial), hR.fr z3⟩, fun q => absurd z1 q⟩)
  · refine op_rw (S' := S) hS ((cl_ask hS hC hj).mono (fun z ⟨z1, z2, z3⟩ => ⟨z1, hC.fr z2 (fun f hf => z3 f (by omega))⟩)) ?_
    unfold fX10_ask
    simp only [sp_gd, sp_nm, sp_bind, sp_ite, sp_some, sp_inr]
    refine (md_isHeir1 hS hR hj).mono (fun z ⟨z1, z2, z3⟩ => ⟨fun q => absurd (z1.symm.trans q) (by decide), fun _ => ?_⟩)
    exact (md_askOf hS (hR.fr z3) hj).mono (fun y ⟨y1, y2⟩ => ⟨y1, hR.fr (z3.tr y2)⟩)
