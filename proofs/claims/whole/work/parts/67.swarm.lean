/-! ===== swarm ===== -/
def wN (a : Nat) (kp : Nat → Bool) : Nat → Nat
  | 0 => 1
  | n + 1 => wN a kp n * (if kp n = true then a else 16 - a)
theorem wN_le {a : Nat} (ha : a ≤ 16) {kp : Nat → Bool} : ∀ n, wN a kp n ≤ 16 ^ n
  | 0 => Nat.le_refl _
  | n + 1 => by
    rw [wN, Nat.pow_succ]
    refine Nat.mul_le_mul (wN_le ha n) ?_
    split <;> omega
theorem p16 {f : Nat} (h : f ≤ 6) : 16 ^ f ≤ 16777216 := Nat.pow_le_pow_right (n := 16) (by omega) h
theorem p2 {f : Nat} (h : f ≤ 6) : 2 ^ f ≤ 64 := Nat.pow_le_pow_right (n := 2) (by omega) h
theorem wN_cg {a : Nat} {kp kq : Nat → Bool} : ∀ n, (∀ i, i < n → kp i = kq i) → wN a kp n = wN a kq n
  | 0, _ => rfl
  | n + 1, h => by rw [wN, wN, wN_cg n (fun i hi => h i (by omega)), h n (by omega)]
theorem flB_cg {g : Nat → Nat} {kp kq : Nat → Bool} : ∀ n, (∀ i, i < n → kp i = kq i) → flB g kp n = flB g kq n
  | 0, _ => rfl
  | n + 1, h => by rw [flB, flB, flB_cg n (fun i hi => h i (by omega)), h n (by omega)]
def sM (g : Nat → Nat) : Nat → Nat
  | 0 => 0
  | n + 1 => sM g n + g n
theorem sM_le {g : Nat → Nat} {b : Nat} : ∀ n, (∀ i, i < n → g i ≤ b) → sM g n ≤ n * b
  | 0, _ => Nat.zero_le _
  | n + 1, h => by
    have h1 := sM_le (b := b) n (fun i hi => h i (by omega))
    have h2 := h n (by omega)
    rw [sM, Nat.add_mul, Nat.one_mul]
    omega
theorem sM_cg {g h : Nat → Nat} : ∀ n, (∀ i, i < n → g i = h i) → sM g n = sM h n
  | 0, _ => rfl
  | n + 1, e => by rw [sM, sM, sM_cg n (fun i hi => e i (by omega)), e n (by omega)]
theorem sM_fr (g : Nat → Nat) : ∀ n, sM g (n + 1) = g 0 + sM (fun i => g (i + 1)) n
  | 0 => by rw [sM, sM, sM]; omega
  | n + 1 => by
    rw [sM, sM_fr g n, sM]
    omega
theorem sM_rev (g : Nat → Nat) : ∀ n, sM (fun i => g (n - (i + 1))) n = sM g n
  | 0 => rfl
  | n + 1 => by
    rw [sM_fr, sM]
    have := sM_rev g n
    rw [show (fun i => g (n + 1 - (i + 1 + 1))) = (fun i => g (n - (i + 1))) from funext (fun i => by rw [show n + 1 - (i + 1 + 1) = n - (i + 1) by omega]), this, show n + 1 - (0 + 1) = n by omega]
    omega
def gSw (S : St) (a j m : Nat) : Nat := if richM S m = nI j then wN a (bitB m) (S.1 5 0) else 0
def swT (S : St) (a j : Nat) : Nat := sM (gSw S a j) (2 ^ S.1 5 0)
theorem gSw_le {S : St} (hS : okS S) {a j m : Nat} (ha : a ≤ 16) : gSw S a j m ≤ 16777216 := by
  have s5 := hS.2.2.2.1.1
  unfold gSw
  split
  · exact Nat.le_trans (wN_le ha _) (p16 s5)
  · omega
theorem sw_lt {S : St} (hS : okS S) {a j m : Nat} (ha : a ≤ 16) (hm : m ≤ 2 ^ S.1 5 0) : sM (gSw S a j) m ≤ 1073741824 := by
  have s5 := p2 hS.2.2.2.1.1
  have := sM_le (g := gSw S a j) (b := 16777216) m (fun i _ => gSw_le hS ha)
  omega
def swR (T f : Nat) (b : Int32) : Int64 := if b = 0 then lN (T / Nat.gcd T (16 ^ f)) else lN (16 ^ f / Nat.gcd T (16 ^ f))
theorem sh1 : ∀ f, f < 7 → (1 : Int32) <<< (nI f &&& 31) = nI (2 ^ f) := by decide +kernel
theorem sh4 : ∀ f, f < 7 → (1 : Int64) <<< (Int32.toInt64 ((4 : Int32) * nI f) &&& 63) = lN (16 ^ f) := by decide +kernel
theorem sh2 : ∀ e, e < 25 → (1 : Int64) <<< (Int32.toInt64 (nI e) &&& 63) = lN (2 ^ e) := by decide +kernel
theorem bit6 : ∀ m, m < 64 → ∀ i, i < 6 → (m.testBit i = true ↔ ¬ ((nI m >>> (nI i &&& 31)) &&& (1 : Int32)) = 0) := by decide +kernel
theorem RC.rich {C C' : Mem} {S : St} (h : RC C S) (e : frS [0, 6, 7, 8] C C') (e0 : ∀ f, f = 11 ∨ f = 13 → C' 0 f = C 0 f) (k : C' 0 12 0 = 0 ∨ (C' 0 12 0 = 1 ∧ RichOK (C' 0 8) S)) : RC C' S := by
  obtain ⟨h1, ⟨d1, d2, d3⟩, k1, k2⟩ := h
  refine ⟨h1.fr (fun o ho => e o ?_) (by rw [e0 13 (by decide)]), ⟨?_, ?_, ?_⟩, ?_, k⟩
  · simp at ho ⊢
    omega
  · rw [e 3 (by decide)]; exact d1
  · rw [e 5 (by decide)]; exact d2
  · rw [e 4 (by decide)]; exact d3
  · rw [e0 11 (by decide), e 11 (by decide)]; exact k1
theorem cl_tellRich {C : Mem} {S : St} (hS : okS S) (hC : RC C S) : Sp (fX9_tellRichestBySet C) (fun M' => RC M' S ∧ RichOK (M' 0 8) S) := by
  have hγ := okC_told hS
  have h8 := hγ.1
  have hn := hγ.2.1
  have s5 := hS.2.2.2.1.1
  have hp2 := p2 s5
  have hg := hC.2.1.1
  unfold fX9_tellRichestBySet
  simp only [sp_gd, sp_nm, sp_bind, sp_ite, sp_some, sp_inr]
  refine ⟨fun h0 => ?_, fun h0 => ⟨hC, ?_⟩⟩
  · refine (cl_prepare hγ hg (by decide)).mono (fun M1 ⟨f1, f2⟩ => ?_)
    refine lp_for (fun i st => st.1 = nI i ∧ (∃ v, RG (st.2 7) (wFly (told S) v)) ∧ frS [0, 6, 7, 8] C st.2 ∧ (∀ f, f ≠ 8 → st.2 0 f = C 0 f) ∧ ∀ q, q < i → st.2 0 8 q = richM S q) (2 ^ S.1 5 0) (by omega) ?_ ?_ (Nat.zero_le _) ⟨rfl, ⟨(told S).2.1, f1⟩, f2.S (by decide), fun f _ => by dsimp only; rw [f2 0 (by decide)], fun q hq => absurd hq (Nat.not_lt_zero _)⟩
    · rintro i ⟨x, Mc⟩ hi ⟨a1, ⟨v, a2⟩, a3, a4, a5⟩
      dsimp only at a1 a2 a3 a4 a5 ⊢
      subst a1
      have e9 : Mc 9 = C 9 := a3 9 (by decide)
      unfold fX9_tellRichestBySet_21
      simp only [sp_gd, sp_nm, sp_bind, sp_ite, sp_some, sp_inr]
      rw [e9, hC.1.2.2.1.1, sh1 _ (by omega), nI_leI (by omega) (by omega), inB_nI (by omega), nI_clamp (by omega), nI_1]
      refine ⟨fun hc => absurd hc (by omega), fun _ => Sp.of (cl_stopsOf (kp := bitB i) s5 (by rw [e9]; exact hC.1.2.2.1.1) (fun q hq => by rw [e9]; exact hC.1.2.2.1.2 q hq) (fun q hq => bit6 i (by omega) q (by omega))) ?_⟩
      have g2 : RG (wr Mc 7 7 0 (flB (S.1 4) (bitB i) (S.1 5 0)) 7) (wFly (told S) (flB (S.1 4) (bitB i) (S.1 5 0))) := a2.fly
      have ok2 : okC (wFly (told S) (flB (S.1 4) (bitB i) (S.1 5 0))) := okC_fly hγ _
      refine (cl_run ok2 g2).mono (fun M2 ⟨t1, t2, t3⟩ => ?_)
      have g3 : RG (M2 7) (wFly (told S) (flB (S.1 4) (bitB i) (S.1 5 0))) := by rw [t3 7 (by decide)]; exact g2
      have fr : frS [0, 6, 7, 8] C M2 := a3.tr (frS.tr (fun o ho => wr_ob _ _ _ _ _ (fun z => ho (by rw [z]; decide))) (t3.sub (by decide)))
      have fr0 : M2 0 = Mc 0 := by rw [t3 0 (by decide), wr_ob _ _ _ _ _ (by decide)]
      refine Sp.of (cl_richest h8 t1.2.1 (fun q hq => (t1.1 q hq).1) (st360 ok2 hn)) ⟨by omega, rfl, ⟨flB (S.1 4) (bitB i) (S.1 5 0), ?_⟩, fun o ho => ?_, fun f hf => ?_, fun q hq => ?_⟩
      · dsimp only
        rw [wr_ob _ _ _ _ _ (by decide)]; exact g3
      · dsimp only
        rw [wr_ob _ _ _ _ _ (fun z => ho (by rw [z]; decide))]; exact fr o ho
      · dsimp only
        rw [wr_row _ _ _ _ _ (fun z => hf z.2), fr0]; exact a4 f hf
      · dsimp only
        rw [wr_ap]
        by_cases hqi : q = i
        · rw [if_pos ⟨rfl, rfl, hqi⟩, hqi]; rfl
        · rw [if_neg (fun z => hqi z.2.2), fr0]; exact a5 q (by omega)
    · rintro ⟨x, Mc⟩ ⟨a1, a2, a3, a4, a5⟩
      dsimp only at a1 a2 a3 a4 a5 ⊢
      subst a1
      have e9 : Mc 9 = C 9 := a3 9 (by decide)
      unfold fX9_tellRichestBySet_21
      simp only [sp_gd, sp_nm, sp_bind, sp_ite, sp_some, sp_inr]
      rw [e9, hC.1.2.2.1.1, sh1 _ (by omega), nI_leI (by omega) (by omega)]
      have hr : RichOK (wr Mc 0 12 0 1 0 8) S := fun m hm => by
        rw [wr_row _ _ _ _ _ (by decide)]; exact a5 m hm
      refine ⟨fun _ => ⟨hC.rich (fun o ho => ?_) (fun f hf => ?_) (Or.inr ⟨?_, hr⟩), hr⟩, fun hc => absurd (Nat.le_refl _) hc⟩
      · rw [wr_ob _ _ _ _ _ (fun z => ho (by rw [z]; decide))]; exact a3 o ho
      · rw [wr_row _ _ _ _ _ (by omega)]; exact a4 f (by omega)
      · rw [wr_ap, if_pos ⟨rfl, rfl, rfl⟩]
  · rcases hC.2.2.2 with k | k
    · exact absurd k h0
    · exact k.2
theorem cl_weight {M : Mem} {f a m : Nat} (hf : f ≤ 6) (ha : a ≤ 16) (hm : m < 64) (e9 : M 9 1 0 = nI f) : fX9_weightOf M (nI m) (nI a) = some (lN (wN a (bitB m) f)) := by
  apply Sp.eq
  unfold fX9_weightOf
  simp only [sp_gd, sp_nm, sp_bind, sp_ite, sp_some, sp_inr]
  refine lp_for (fun i st => st = (lN (wN a (bitB m) i), nI i)) f (by omega) ?_ ?_ (Nat.zero_le _) rfl
  · rintro i st hi rfl
    have hb := bit6 m hm i (by omega)
    unfold fX9_weightOf_5 fX9_weightOf_37
    simp only [sp_gd, sp_nm, sp_bind, sp_ite, sp_some, sp_inr]
    rw [e9, nI_leI (by omega) (by omega), nI_1, il16, pk_sub ha, nI_l (by omega), nI_l (by omega), lN_mul, lN_mul]
    refine ⟨fun hc => absurd hc (by omega), fun _ => ⟨fun h0 => ?_, fun h0 => ?_⟩⟩
    · show _ = _
      rw [wN, if_neg (show ¬ bitB m i = true from fun z => (hb.mp z) h0)]
    · show _ = _
      rw [wN, if_pos (show bitB m i = true from hb.mpr h0)]
  · rintro st rfl
    unfold fX9_weightOf_5
    simp only [sp_gd, sp_nm, sp_bind, sp_ite, sp_some, sp_inr]
    rw [e9, nI_leI (by omega) (by omega)]
    exact ⟨fun _ => rfl, fun hc => absurd (Nat.le_refl _) hc⟩
theorem lN_div {a d : Nat} (ha : a < 2147483648) (h0 : 0 < d) (hd : d < 2147483648) : lN a / lN d = lN (a / d) := by
  apply Int64.toInt_inj.mp
  rw [lg_ldiv_nonneg (by rw [lN_toInt ha]; omega) (by rw [lN_toInt hd]; omega), lN_toInt ha, lN_toInt hd, lN_toInt (Nat.lt_of_le_of_lt (Nat.div_le_self a d) ha)]
  rfl
theorem lN_rem {a d : Nat} (ha : a < 2147483648) (h0 : 0 < d) (hd : d < 2147483648) : lN a - lN a / lN d * lN d = lN (a % d) := by
  rw [lN_div ha h0 hd, lN_mul, lN_sub (Nat.div_mul_le_self a d), show a - a / d * d = a % d by have := Nat.div_add_mod' a d; omega]
theorem lgc_e {a b : Nat} (ha : a < 2147483648) (hb : b < 2147483648) : lg_cmp (lN a) (lN b) = 0 ↔ a = b := by
  unfold lg_cmp
  by_cases h : lN a > lN b
  · rw [if_pos h]
    have := (lN_lt hb ha).mp h
    exact ⟨fun z => absurd z (by decide), fun z => by omega⟩
  · rw [if_neg h]
    by_cases he : lN a = lN b
    · rw [if_pos he]; exact ⟨fun _ => (lN_eq ha hb).mp he, fun _ => rfl⟩
    · rw [if_neg he]; exact ⟨fun z => absurd z (by decide), fun z => absurd (by rw [z]) he⟩
theorem odd_gcd {t : Nat} (h : ¬ t % 2 = 0) (e : Nat) : Nat.gcd t (2 ^ e) = 1 := by
  have h2 : Nat.Coprime t 2 := by
    have hd : Nat.gcd t 2 ∣ t := Nat.gcd_dvd_left t 2
    have hle : Nat.gcd t 2 ≤ 2 := Nat.le_of_dvd (by omega) (Nat.gcd_dvd_right t 2)
    have hp : 0 < Nat.gcd t 2 := Nat.gcd_pos_of_pos_right t (by omega)
    show Nat.gcd t 2 = 1
    rcases (show Nat.gcd t 2 = 1 ∨ Nat.gcd t 2 = 2 by omega) with q | q
    · exact q
    · rw [q] at hd
      obtain ⟨c, hc⟩ := hd
      omega
  exact Nat.Coprime.pow_right e h2
theorem half_fin {T t f i : Nat} (h : T = t * 2 ^ i) (hi : i ≤ 4 * f) (ho : i = 4 * f ∨ ¬ t % 2 = 0) : T / Nat.gcd T (16 ^ f) = t ∧ 16 ^ f / Nat.gcd T (16 ^ f) = 2 ^ (4 * f - i) := by
  have e16 : 16 ^ f = 2 ^ (4 * f - i) * 2 ^ i := by
    rw [← Nat.pow_add, show 4 * f - i + i = 4 * f by omega, Nat.pow_mul]
  have hg : Nat.gcd T (16 ^ f) = 2 ^ i := by
    rw [h, e16, Nat.gcd_mul_right]
    rcases ho with q | q
    · rw [q, show 4 * f - 4 * f = 0 by omega, Nat.pow_zero, Nat.gcd_one_right, Nat.one_mul]
    · rw [odd_gcd q, Nat.one_mul]
  have hp : 0 < 2 ^ i := Nat.two_pow_pos i
  rw [hg]
  exact ⟨by rw [h, Nat.mul_div_cancel _ hp], by rw [e16, Nat.mul_div_cancel _ hp]⟩
theorem cl_halves {M : Mem} {T f : Nat} {a1 a2 b : Int32} (hf : f ≤ 6) (hT : T ≤ 1073741824) (e9 : M 9 1 0 = nI f) : Sp (fX9_swarm_82 a1 a2 b (lN T) M) (fun z => z.1 = swR T f b ∧ z.2 = M) := by
  have fin : ∀ t i, T = t * 2 ^ i → i ≤ 4 * f → (i = 4 * f ∨ ¬ t % 2 = 0) → Sp (fX9_swarm_123 a1 a2 b (lN t) (nI (4 * f - i)) M) (fun z => z.1 = swR T f b ∧ z.2 = M) := by
    intro t i h1 h2 h3
    obtain ⟨q1, q2⟩ := half_fin h1 h2 h3
    unfold fX9_swarm_123
    simp only [sp_gd, sp_nm, sp_bind, sp_ite, sp_some, sp_inr]
    rw [sh2 _ (by omega)]
    unfold swR
    rw [q1, q2]
    exact ⟨fun h0 => ⟨by rw [if_pos h0], (by trivial)⟩, fun h0 => ⟨by rw [if_neg h0], (by trivial)⟩⟩
  unfold fX9_swarm_82
  simp only [sp_gd, sp_nm, sp_bind, sp_ite, sp_some, sp_inr]
  rw [e9, il4, pk_mul]
  refine lp_for (fun i st => ∃ t, st.1 = lN t ∧ T = t * 2 ^ i ∧ st.2.1 = nI (4 * f - i) ∧ st.2.2 = M) (4 * f) (by omega) ?_ ?_ (Nat.zero_le _) ⟨T, rfl, by rw [Nat.pow_zero, Nat.mul_one], rfl, rfl⟩
  · rintro i ⟨x, y, N⟩ hi ⟨t, c1, c2, c3, c4⟩
    dsimp only at c1 c2 c3 c4 ⊢
    subst c1 c3 c4
    have ht : t ≤ 1073741824 := by
      have : t * 1 ≤ t * 2 ^ i := Nat.mul_le_mul_left t (Nat.two_pow_pos i)
      omega
    unfold fX9_swarm_93
    simp only [sp_gd, sp_nm, sp_bind, sp_ite, sp_some, sp_inr]
    rw [show (2 : Int64) = lN 2 from rfl, show (0 : Int64) = lN 0 from rfl, lN_rem (by omega) (by omega) (by omega), lgc_e (by omega) (by omega), lN_div (by omega) (by omega) (by omega)]
    refine ⟨fun hc => absurd hc (nI_nle (by omega) (by omega)), fun _ => ⟨fun h0 => ⟨t / 2, rfl, ?_, ?_, rfl⟩, fun h0 => (fin t i c2 (by omega) (Or.inr h0)).mono (fun z hz => hz)⟩⟩
    · rw [Nat.pow_succ, Nat.mul_comm (2 ^ i) 2, ← Nat.mul_assoc, show t / 2 * 2 = t by omega]; exact c2
    · dsimp only
      rw [show 4 * f - i = (4 * f - (i + 1)) + 1 by omega, pk_m1]
  · rintro ⟨x, y, N⟩ ⟨t, c1, c2, c3, c4⟩
    dsimp only at c1 c2 c3 c4 ⊢
    subst c1 c3 c4
    unfold fX9_swarm_93
    simp only [sp_gd, sp_nm, sp_bind, sp_ite, sp_some, sp_inr]
    refine ⟨fun _ => (fin t (4 * f) c2 (Nat.le_refl _) (Or.inl rfl)).mono (fun z hz => hz), fun hc => absurd ?_ hc⟩
    rw [show 4 * f - 4 * f = 0 by omega]
    decide
theorem cl_swarm {C : Mem} {S : St} (hS : okS S) (hC : RC C S) {a j b : Nat} (ha : a ≤ 16) (hj : j < (told S).1 5 0) (hb : b ≤ 1) : Sp (fX9_swarm C (nI a) (nI j) (nI b)) (fun z => z.1 = swR (swT S a j) (S.1 5 0) (nI b) ∧ RC z.2 S) := by
  have hγ := okC_told hS
  have h8 := hγ.1
  have s5 := hS.2.2.2.1.1
  have hp2 := p2 s5
  have hg := hC.2.1.1
  unfold fX9_swarm
  simp only [sp_gd, sp_nm, sp_bind, sp_ite, sp_some, sp_inr]
  refine Sp.of (w_1 (n := 16) ha (by omega)) ⟨fun z => absurd z (by decide), fun _ => Sp.of (h_1 hg.2.2.2.1 hj (by omega)) ⟨fun z => absurd z (by decide), fun _ => Sp.of (w_1 (n := 1) hb (by omega)) ⟨fun z => absurd z (by decide), fun _ => ?_⟩⟩⟩
  refine (cl_tellRich hS hC).mono (fun M ⟨hM, hr⟩ => ?_)
  have e9 : M 9 1 0 = nI (S.1 5 0) := hM.1.2.2.1.1
  refine lp_for (fun i st => st.1 = lN (sM (gSw S a j) i) ∧ st.2.1 = nI i ∧ st.2.2 = M) (2 ^ S.1 5 0) (by omega) ?_ ?_ (Nat.zero_le _) ⟨rfl, rfl, rfl⟩
  · rintro i ⟨x, y, N⟩ hi ⟨c1, c2, c3⟩
    dsimp only at c1 c2 c3 ⊢
    subst c1 c2 c3
    unfold fX9_swarm_39 fX9_swarm_76
    simp only [sp_gd, sp_nm, sp_bind, sp_ite, sp_some, sp_inr]
    rw [e9, sh1 _ (by omega), nI_leI (by omega) (by omega), inB_nI (by omega), nI_clamp (by omega), nI_1, hr i hi]
    refine ⟨fun hc => absurd hc (by omega), fun _ => ⟨by omega, fun he => Sp.of (cl_weight s5 ha (by omega) e9) ⟨?_, rfl, rfl⟩, fun he => ⟨?_, rfl, rfl⟩⟩⟩
    · dsimp only
      rw [lN_add, sM, show gSw S a j i = wN a (bitB i) (S.1 5 0) from if_pos he]
    · dsimp only
      rw [sM, show gSw S a j i = 0 from if_neg he, Nat.add_zero]
  · rintro ⟨x, y, N⟩ ⟨c1, c2, c3⟩
    dsimp only at c1 c2 c3 ⊢
    subst c1 c2 c3
    unfold fX9_swarm_39
    simp only [sp_gd, sp_nm, sp_bind, sp_ite, sp_some, sp_inr]
    rw [e9, sh1 _ (by omega), nI_leI (by omega) (by omega)]
    refine ⟨fun _ => (cl_halves s5 (sw_lt hS ha (Nat.le_refl _)) e9).mono (fun z ⟨z1, z2⟩ => ⟨z1, by rw [z2]; exact hM⟩), fun hc => absurd (Nat.le_refl _) hc⟩
def muE (u v : Nat) : Nat := (if u < v then 1 else 0) + (if v = 0 then 0 else Nat.log2 (u * v) + 1)
theorem muE_lt {u v : Nat} (h : 0 < v) : muE v (u % v) < muE u v := by
  unfold muE
  have hm := Nat.mod_lt u h
  rw [if_neg (show ¬ v < u % v by omega), if_neg (show ¬ v = 0 by omega)]
  by_cases huv : u < v
  · rw [Nat.mod_eq_of_lt huv, if_pos huv]
    by_cases h0 : u = 0
    · rw [if_pos h0]; omega
    · rw [if_neg h0, Nat.mul_comm v u]; omega
  · rw [if_neg huv]
    by_cases h0 : u % v = 0
    · rw [if_pos h0]; omega
    · rw [if_neg h0]
      have hx : 0 < v * (u % v) := Nat.mul_pos h (by omega)
      have hy : 0 < u * v := Nat.mul_pos (by omega) h
      have hq : 1 ≤ u / v := Nat.div_pos (by omega) h
      have hd := Nat.div_add_mod u v
      have hq2 : v * 1 ≤ v * (u / v) := Nat.mul_le_mul_left v hq
      have h2 : 2 * (v * (u % v)) ≤ u * v := by
        rw [Nat.mul_comm u v, Nat.mul_left_comm]
        exact Nat.mul_le_mul_left v (by omega)
      have h3 : 2 ^ (v * (u % v)).log2 ≤ v * (u % v) := Nat.log2_self_le (by omega)
      have h4 : (v * (u % v)).log2 + 1 ≤ (u * v).log2 := (Nat.le_log2 (by omega)).mpr (by rw [Nat.pow_succ]; omega)
      omega
theorem md_lowest {T D : Nat} {b : Int32} (hT : T < 2147483648) (hD0 : 0 < D) (hD : D < 2147483648) : fX10_lowest (lN T) (lN D) b = some (if b = 0 then lN (T / Nat.gcd T D) else lN (D / Nat.gcd T D)) := by
  apply Sp.eq
  unfold fX10_lowest
  simp only [sp_gd, sp_nm, sp_bind, sp_ite, sp_some, sp_inr]
  refine lp_while (fun st => ∃ u v, st = (lN u, lN v) ∧ Nat.gcd u v = Nat.gcd T D ∧ u < 2147483648 ∧ v < 2147483648) (fun st => muE st.1.toInt.toNat st.2.toInt.toNat) ?_ ⟨T, D, rfl, rfl, hT, hD⟩ ?_
  · rintro st ⟨u, v, rfl, hg, hu, hv⟩
    unfold fX10_lowest_6
    simp only [sp_gd, sp_nm, sp_bind, sp_ite, sp_some, sp_inr]
    rw [show (0 : Int64) = lN 0 from rfl, lgc_e hv (by omega), lN_eq hv (by omega)]
    refine ⟨fun h0 => ?_, fun h0 => ⟨h0, ?_⟩⟩
    · have hgu : u = Nat.gcd T D := by rw [← hg, h0, Nat.gcd_zero_right]
      have hp : 0 < Nat.gcd T D := Nat.gcd_pos_of_pos_right T hD0
      unfold fX10_lowest_31
      simp only [sp_gd, sp_nm, sp_bind, sp_ite, sp_some, sp_inr]
      rw [show (0 : Int64) = lN 0 from rfl, lN_eq hu (by omega), hgu, lN_div hT hp (by omega), lN_div hD hp (by omega)]
      refine ⟨fun hb => ⟨by omega, ?_⟩, fun hb => ⟨by omega, ?_⟩⟩
      · show _ = _
        rw [if_pos hb]
      · show _ = _
        rw [if_neg hb]
    · rw [lN_rem hu (by omega) hv]
      have hm := Nat.mod_lt u (show 0 < v by omega)
      refine ⟨⟨v, u % v, rfl, ?_, hv, by omega⟩, ?_⟩
      · rw [← hg, Nat.gcd_comm u v, Nat.gcd_rec v u, Nat.gcd_comm]
      · dsimp only
        rw [lN_toInt hu, lN_toInt hv, lN_toInt (show u % v < 2 ^ 31 by omega)]
        exact muE_lt (by omega)
  · dsimp only
    rw [lN_toInt hT, lN_toInt hD]
    show muE T D < 100000
    unfold muE
    have hl : (T * D).log2 < 62 := by
      by_cases h0 : T * D = 0
      · rw [h0]; decide
      · refine (Nat.log2_lt h0).mpr ?_
        have : T * D ≤ 2147483648 * 2147483648 := Nat.mul_le_mul (by omega) (by omega)
        have h1 : T * D ≤ 2147483647 * 2147483648 := Nat.mul_le_mul (by omega) (by omega)
        omega
    split <;> split <;> omega
def gMd (S : St) (a j m : Nat) : Nat := if (richA ((stW (wFly (told S) (flB (S.1 4) (fun i => !bitB m i) (S.1 5 0))) ((told S).1 6 0)).1 0) ((told S).1 5 0)).1 = nI j then wN a (fun i => !bitB m i) (S.1 5 0) else 0
theorem gMd_e {S : St} {a j m : Nat} (hm : m < 2 ^ S.1 5 0) : gMd S a j m = gSw S a j (2 ^ S.1 5 0 - (m + 1)) := by
  have hb : ∀ i, i < S.1 5 0 → (!bitB m i) = bitB (2 ^ S.1 5 0 - (m + 1)) i := fun i hi => by
    unfold bitB
    rw [Nat.testBit_two_pow_sub_succ hm i, decide_eq_true hi, Bool.true_and]
  unfold gMd gSw richM
  rw [flB_cg _ hb, wN_cg _ hb]
theorem gMd_T {S : St} {a j : Nat} : sM (gMd S a j) (2 ^ S.1 5 0) = swT S a j := by
  unfold swT
  rw [← sM_rev (gSw S a j)]
  exact sM_cg _ (fun i hi => gMd_e hi)
theorem md_swarmOf {R : Mem} {S : St} (hS : okS S) (hR : RR R S) {a j : Nat} (b : Int32) (ha : a ≤ 16) (hj : j < (told S).1 5 0) : Sp (fX10_swarmOf R (nI a) (nI j) b) (fun z => z.1 = swR (swT S a j) (S.1 5 0) b ∧ frM SL R z.2 ∧ MT z.2 S) := by
  have hγ := okC_told hS
  have h8 := hγ.1
  have hn := hγ.2.1
  have s5 := hS.2.2.2.1.1
  have hp2 := p2 s5
  unfold fX10_swarmOf
  simp only [sp_gd, sp_nm, sp_bind, sp_ite, sp_some, sp_inr]
  refine (md_asTold hS hR).mono (fun R1 ⟨m1, m2, f1⟩ => ?_)
  refine lp_for (fun i st => st.1 = lN (sM (gMd S a j) i) ∧ st.2.1 = nI i ∧ (∃ v, MG st.2.2 (wFly (told S) v)) ∧ frM SL R st.2.2 ∧ MT st.2.2 S) (2 ^ S.1 5 0) (by omega) ?_ ?_ (Nat.zero_le _) ⟨rfl, rfl, ⟨(told S).2.1, m1⟩, f1, m2⟩
  · rintro i ⟨x, y, Mc⟩ hi ⟨a1, a2, ⟨v, a3⟩, a4, a5⟩
    dsimp only at a1 a2 a3 a4 a5 ⊢
    subst a1 a2
    have hRc := hR.fr a4
    have e9 : Mc 0 9 0 = nI (S.1 5 0) := hRc.2.2.2.1.1
    unfold fX10_swarmOf_10
    simp only [sp_gd, sp_nm, sp_bind, sp_ite, sp_some, sp_inr]
    rw [e9, sh1 _ (by omega), nI_leI (by omega) (by omega)]
    refine ⟨fun hc => absurd hc (by omega), fun _ => ?_⟩
    refine lp_for (fun q st => st = (lN (sM (gMd S a j) i), nI i, lN (wN a (fun i' => !bitB i i') q), nI q, Mc)) (S.1 5 0) (by omega) ?_ ?_ (Nat.zero_le _) rfl
    · rintro q st hq rfl
      have hb := bit6 i (by omega) q (by omega)
      unfold fX10_swarmOf_27 fX10_swarmOf_58
      simp only [sp_gd, sp_nm, sp_bind, sp_ite, sp_some, sp_inr]
      rw [e9, nI_leI (by omega) (by omega), nI_1, il16, pk_sub ha, nI_l (by omega), nI_l (by omega), lN_mul, lN_mul]
      refine ⟨fun hc => absurd hc (by omega), fun _ => Sp.of md_isIn ?_⟩
      by_cases ho : bitB i q = true
      · rw [if_pos (hb.mp ho)]
        refine ⟨fun z => absurd z (by decide), fun _ => ?_⟩
        show _ = _
        rw [wN, if_neg (by rw [ho]; decide)]
      · rw [if_neg (fun z => ho (hb.mpr z))]
        refine ⟨fun _ => ?_, fun z => absurd rfl z⟩
        show _ = _
        rw [wN, if_pos (by rw [Bool.not_eq_true] at ho; rw [ho]; rfl)]
    · rintro st rfl
      unfold fX10_swarmOf_27 fX10_swarmOf_67 fX10_swarmOf_97
      simp only [sp_gd, sp_nm, sp_bind, sp_ite, sp_some, sp_inr]
      rw [e9, nI_leI (by omega) (by omega), nI_1]
      refine ⟨fun _ => ?_, fun hc => absurd (Nat.le_refl _) hc⟩
      refine Sp.of (md_fliesBut hS hRc.2.2.2.1 (kp := fun q => !bitB i q) (fun q hq => ?_)) ?_
      · have hb := bit6 i (by omega) q (by omega)
        rw [show isO (nI i) q ↔ bitB i q = true from hb.symm]
        cases bitB i q <;> decide
      · have g2 : MG (wr Mc 0 13 0 (flB (S.1 4) (fun q => !bitB i q) (S.1 5 0))) (wFly (told S) (flB (S.1 4) (fun q => !bitB i q) (S.1 5 0))) := a3.fly
        have ok2 : okC (wFly (told S) (flB (S.1 4) (fun q => !bitB i q) (S.1 5 0))) := okC_fly hγ _
        refine (md_runs ok2 g2).mono (fun M2 ⟨⟨t1, t2, _⟩, t3⟩ => ?_)
        have fr : frM SL R M2 := (a4.w 13 0 _ (by decide)).tr (t3.sub RuL_SL)
        have mt : MT M2 S := (a5.fr (fun f hf => wr_row _ _ _ _ _ (by omega))).fr (fun f hf => t3 f (by rcases hf with rfl | rfl | rfl | rfl | rfl | rfl <;> decide))
        refine Sp.of (md_richestNow h8 t1.1 (fun q hq => (t2.1 q hq).1) (st360 ok2 hn)) ⟨fun he => ⟨?_, rfl, ⟨_, t1⟩, fr, mt⟩, fun he => ⟨?_, rfl, ⟨_, t1⟩, fr, mt⟩⟩
        · dsimp only
          rw [lN_add, sM, show gMd S a j i = wN a (fun i' => !bitB i i') (S.1 5 0) from if_pos he]
        · dsimp only
          rw [sM, show gMd S a j i = 0 from if_neg he, show (0 : Int64) = lN 0 from rfl, lN_add]
  · rintro ⟨x, y, Mc⟩ ⟨a1, a2, a3, a4, a5⟩
    dsimp only at a1 a2 a3 a4 a5 ⊢
    subst a1 a2
    have e9 : Mc 0 9 0 = nI (S.1 5 0) := (hR.fr a4).2.2.2.1.1
    have hT := sw_lt hS (j := j) ha (Nat.le_refl (2 ^ S.1 5 0))
    have hT' : swT S a j ≤ 1073741824 := hT
    have h16 := p16 s5
    unfold fX10_swarmOf_10 fX10_swarmOf_106
    simp only [sp_gd, sp_nm, sp_bind, sp_ite, sp_some, sp_inr]
    rw [e9, sh1 _ (by omega), nI_leI (by omega) (by omega), sh4 _ (by omega), gMd_T]
    exact ⟨fun _ => Sp.of (md_lowest (by omega) (Nat.pow_pos (by omega)) (by omega)) ⟨rfl, a4, a5⟩, fun hc => absurd (Nat.le_refl _) hc⟩
theorem md_no : fX10_no (-2) = some (-9223372036854775806) := by
  unfold fX10_no
  exact congrArg some (by decide)
theorem op_swarm {C R : Mem} (h : Rel C R) (a b c : Int32) : ∃ (r : Int64) (C' R' : Mem), fX9_swarm C a b c = some (r, C') ∧ fX10_swarm R a b c = some (r, R') ∧ Rel C' R' := by
  obtain ⟨S, hS, hC, hR⟩ := h
  have h8 := (okC_told hS).1
  have hg := hC.2.1.1
  rcases ixI a (n := 17) (by omega) with ha | ⟨x, hx, rfl⟩
  · refine op_rw (S' := S) (r := -9223372036854775806) hS ?_ ?_
    · unfold fX9_swarm
      simp only [sp_gd, sp_nm, sp_bind, sp_ite, sp_some, sp_inr]
      exact Sp.of (w_0 (n := 16) ha (by omega)) ⟨fun _ => ⟨(by trivial), hC⟩, fun z => absurd rfl z⟩
    · unfold fX10_swarm
      simp only [sp_gd, sp_nm, sp_bind, sp_ite, sp_some, sp_inr]
      exact Sp.of (in_0 (n := 16) ha (by omega)) ⟨fun _ => Sp.of md_no ⟨rfl, hR⟩, fun q => absurd rfl q⟩
  · rcases ixI b (n := (told S).1 5 0) (by omega) with hb | ⟨j, hj, rfl⟩
    · refine op_rw (S' := S) (r := -9223372036854775806) hS ?_ ?_
      · unfold fX9_swarm
        simp only [sp_gd, sp_nm, sp_bind, sp_ite, sp_some, sp_inr]
        exact Sp.of (w_1 (j := x) (n := 16) (by omega) (by omega)) ⟨fun z => absurd z (by decide), fun _ => Sp.of (h_0 hg.2.2.2.1 hb) ⟨fun _ => ⟨(by trivial), hC⟩, fun z => absurd rfl z⟩⟩
      · unfold fX10_swarm
        simp only [sp_gd, sp_nm, sp_bind, sp_ite, sp_some, sp_inr]
        refine Sp.of (in_1 (j := x) (n := 16) (by omega) (by omega)) ⟨fun q => absurd q (by decide), fun _ => ?_⟩
        exact (md_isHeir0 hS hR hb).mono (fun z ⟨z1, z2, z3⟩ => ⟨fun _ => Sp.of md_no ⟨rfl, hR.fr z3⟩, fun q => absurd z1 q⟩)
    · rcases ixI c (n := 2) (by omega) with hc | ⟨w, hw, rfl⟩
      · refine op_rw (S' := S) (r := -9223372036854775806) hS ?_ ?_
        · unfold fX9_swarm
          simp only [sp_gd, sp_nm, sp_bind, sp_ite, sp_some, sp_inr]
          exact Sp.of (w_1 (j := x) (n := 16) (by omega) (by omega)) ⟨fun z => absurd z (by decide), fun _ => Sp.of (h_1 hg.2.2.2.1 hj (by omega)) ⟨fun z => absurd z (by decide), fun _ => Sp.of (w_0 (n := 1) hc (by omega)) ⟨fun _ => ⟨(by trivial), hC⟩, fun z => absurd rfl z⟩⟩⟩
        · unfold fX10_swarm
          simp only [sp_gd, sp_nm, sp_bind, sp_ite, sp_some, sp_inr]
          refine Sp.of (in_1 (j := x) (n := 16) (by omega) (by omega)) ⟨fun q => absurd q (by decide), fun _ => ?_⟩
          refine (md_isHeir1 hS hR hj).mono (fun z ⟨z1, z2, z3⟩ => ⟨fun q => absurd (z1.symm.trans q) (by decide), fun _ => ?_⟩)
          exact Sp.of (in_0 (n := 1) hc (by omega)) ⟨fun _ => Sp.of md_no ⟨rfl, hR.fr z3⟩, fun q => absurd rfl q⟩
      · refine op_rw (S' := S) hS (cl_swarm hS hC (a := x) (b := w) (by omega) hj (by omega)) ?_
        unfold fX10_swarm
        simp only [sp_gd, sp_nm, sp_bind, sp_ite, sp_some, sp_inr]
        refine Sp.of (in_1 (j := x) (n := 16) (by omega) (by omega)) ⟨fun q => absurd q (by decide), fun _ => ?_⟩
        refine (md_isHeir1 hS hR hj).mono (fun z ⟨z1, z2, z3⟩ => ⟨fun q => absurd (z1.symm.trans q) (by decide), fun _ => ?_⟩)
        refine Sp.of (in_1 (j := w) (n := 1) (by omega) (by omega)) ⟨fun q => absurd q (by decide), fun _ => ?_⟩
        exact (md_swarmOf hS (hR.fr z3) (nI w) (by omega) hj).mono (fun y ⟨y1, y2, _⟩ => ⟨y1, hR.fr (z3.tr y2)⟩)
