/-! ===== rows in their order ===== -/
def pm : Nat → List Nat → List Nat → List (List Nat)
  | 0, _, p => [p]
  | n + 1, l, p => l.flatMap (fun x => pm n (l.erase x) (p ++ [x]))
theorem foldl_fm {α β ρ : Type} {f : ρ → β → ρ} {g : α → List β} : ∀ (s : List α) (u : ρ), (s.flatMap g).foldl f u = s.foldl (fun u x => (g x).foldl f u) u
  | [], _ => rfl
  | a :: s, u => by rw [List.flatMap_cons, List.foldl_append, List.foldl_cons, foldl_fm s]
theorem fair_pm {γ : Cfg} : ∀ (n : Nat) (l p : List Nat) (u : Nat × List Nat), fairF γ n l p u = (pm n l p).foldl (fstp γ) u
  | 0, _, _, _ => rfl
  | n + 1, l, p, u => by
    unfold fairF pm
    rw [foldl_fm, show (fun u x => fairF γ n (l.erase x) (p ++ [x]) u) = (fun u x => (pm n (l.erase x) (p ++ [x])).foldl (fstp γ) u) from funext (fun u => funext (fun x => fair_pm n _ _ u))]
def fcN : Nat → Nat
  | 0 => 1
  | n + 1 => (n + 1) * fcN n
theorem len_fm {α β : Type} {g : α → List β} {c : Nat} : ∀ s : List α, (∀ x, x ∈ s → (g x).length = c) → (s.flatMap g).length = s.length * c
  | [], _ => by simp
  | a :: s, h => by
    rw [List.flatMap_cons, List.length_append, h a List.mem_cons_self, len_fm s (fun x hx => h x (List.mem_cons_of_mem a hx)), List.length_cons, Nat.add_mul, Nat.one_mul, Nat.add_comm]
theorem len_pm : ∀ (n : Nat) (l p : List Nat), l.length = n → (pm n l p).length = fcN n
  | 0, _, _, _ => rfl
  | n + 1, l, p, h => by
    unfold pm
    rw [len_fm (c := fcN n) l (fun x hx => len_pm n _ _ (by rw [List.length_erase_of_mem hx, h]; rfl)), h]
    rfl
theorem mem_pm : ∀ (n : Nat) (l p : List Nat), l.length = n → ∀ P, P ∈ pm n l p → P.length = p.length + n ∧ ∀ x, x ∈ P → x ∈ p ∨ x ∈ l
  | 0, _, p, _, P, h => by
    unfold pm at h
    rw [List.mem_singleton.mp h]
    exact ⟨rfl, fun x hx => Or.inl hx⟩
  | n + 1, l, p, hl, P, h => by
    unfold pm at h
    obtain ⟨x, hx, hP⟩ := List.mem_flatMap.mp h
    obtain ⟨a, b⟩ := mem_pm n (l.erase x) (p ++ [x]) (by rw [List.length_erase_of_mem hx, hl]; rfl) P hP
    refine ⟨by rw [a, List.length_append, List.length_singleton]; omega, fun y hy => ?_⟩
    rcases b y hy with z | z
    · rcases List.mem_append.mp z with z | z
      · exact Or.inl z
      · rw [List.mem_singleton.mp z]; exact Or.inr hx
    · exact Or.inr (List.mem_of_mem_erase z)
/-- the row behind a row -/
def Nx (P Q : List Nat) : Prop := ∃ (A : List Nat) (x y : Nat) (D1 D2 : List Nat), P = A ++ x :: (D1 ++ y :: D2) ∧ Q = A ++ y :: (D1 ++ x :: D2).reverse ∧ (D1 ++ y :: D2).Pairwise (fun a b => b < a) ∧ x < y ∧ ∀ z, z ∈ D2 → z < x
def Sq : List (List Nat) → List Nat → List Nat → Prop
  | [], _, _ => False
  | [P], a, b => P = a ∧ P = b
  | P :: Q :: r, a, b => P = a ∧ Nx P Q ∧ Sq (Q :: r) Q b
theorem Sq_hd : ∀ {L : List (List Nat)} {a b : List Nat}, Sq L a b → ∃ r, L = a :: r
  | [], _, _, h => h.elim
  | [P], a, b, h => ⟨[], by rw [h.1]⟩
  | P :: Q :: r, a, b, h => ⟨Q :: r, by rw [h.1]⟩
theorem Sq_app : ∀ {L1 L2 : List (List Nat)} {a b c d : List Nat}, Sq L1 a b → Sq L2 c d → Nx b c → Sq (L1 ++ L2) a d
  | [], _, _, _, _, _, h, _, _ => h.elim
  | [P], L2, a, b, c, d, h, h2, hn => by
    obtain ⟨r, rfl⟩ := Sq_hd h2
    exact ⟨h.1, h.2 ▸ hn, h2⟩
  | P :: Q :: r, L2, a, b, c, d, h, h2, hn => ⟨h.1, h.2.1, Sq_app h.2.2 h2 hn⟩
theorem er_at {L1 L2 : List Nat} {x : Nat} (h : x ∉ L1) : (L1 ++ x :: L2).erase x = L1 ++ L2 := by
  rw [List.erase_append_right _ h, List.erase_cons_head]
theorem pm_Sq : ∀ (n : Nat) (l p : List Nat), l.length = n → l.Pairwise (fun a b => a < b) → Sq (pm n l p) (p ++ l) (p ++ l.reverse)
  | 0, l, p, h, _ => by
    rw [List.eq_nil_of_length_eq_zero h, List.reverse_nil, List.append_nil]
    exact ⟨rfl, rfl⟩
  | n + 1, l, p, h, hp => by
    unfold pm
    have blk : ∀ x, x ∈ l → Sq (pm n (l.erase x) (p ++ [x])) (p ++ [x] ++ l.erase x) (p ++ [x] ++ (l.erase x).reverse) := fun x hx => pm_Sq n _ _ (by rw [List.length_erase_of_mem hx, h]; rfl) (List.Pairwise.sublist List.erase_sublist hp)
    have key : ∀ (L2 L1 : List Nat) (x : Nat), l = L1 ++ x :: L2 → Sq ((x :: L2).flatMap (fun x => pm n (l.erase x) (p ++ [x]))) (p ++ [x] ++ l.erase x) (p ++ l.reverse) := by
      intro L2
      induction L2 with
      | nil =>
        intro L1 x e
        have hx : x ∈ l := by rw [e]; simp
        have hn : x ∉ L1 := fun z => by
          rw [e] at hp
          have := (List.pairwise_append.mp hp).2.2 x z x List.mem_cons_self
          omega
        rw [List.flatMap_cons, List.flatMap_nil, List.append_nil]
        have := blk x hx
        have e2 : p ++ [x] ++ (l.erase x).reverse = p ++ l.reverse := by
          rw [e, er_at hn]
          simp
        rw [e2] at this
        exact this
      | cons x' r ih =>
        intro L1 x e
        have hx : x ∈ l := by rw [e]; simp
        rw [e] at hp
        obtain ⟨p1, p2, p3⟩ := List.pairwise_append.mp hp
        have hn : x ∉ L1 := fun z => by
          have := p3 x z x List.mem_cons_self
          omega
        have hn' : x' ∉ L1 ++ [x] := fun z => by
          rcases List.mem_append.mp z with z | z
          · have := p3 x' z x' (List.mem_cons_of_mem _ List.mem_cons_self)
            omega
          · have := (List.pairwise_cons.mp p2).1 x' List.mem_cons_self
            have := List.mem_singleton.mp z
            omega
        have i := ih (L1 ++ [x]) x' (by rw [e]; simp)
        rw [List.flatMap_cons]
        refine Sq_app (blk x hx) i ?_
        have e1 : l.erase x = L1 ++ x' :: r := by rw [e, er_at hn]
        have e2 : l.erase x' = L1 ++ x :: r := by
          rw [e, show L1 ++ x :: x' :: r = (L1 ++ [x]) ++ x' :: r by simp, er_at hn']
          simp
        refine ⟨p, x, x', r.reverse, L1.reverse, ?_, ?_, ?_, (List.pairwise_cons.mp p2).1 x' List.mem_cons_self, fun z hz => p3 z (List.mem_reverse.mp hz) x List.mem_cons_self⟩
        · rw [e1]
          simp
        · rw [e2]
          simp
        · have : r.reverse ++ x' :: L1.reverse = (L1 ++ x' :: r).reverse := by simp
          rw [this, List.pairwise_reverse]
          refine List.pairwise_append.mpr ⟨p1, (List.pairwise_cons.mp p2).2, fun a ha b hb => p3 a ha b (List.mem_cons_of_mem _ hb)⟩
    match l, h, key with
    | x :: L2, h, key =>
      have := key L2 [] x rfl
      rw [List.erase_cons_head] at this
      have e : p ++ [x] ++ L2 = p ++ x :: L2 := by simp
      rw [e] at this
      exact this
/-! ===== the reference's next row ===== -/
def nxF (r : Nat → Nat) (h a j i : Nat) : Nat := if i < a then r i else if i = a then r j else if a + h - i = j then r a else r (a + h - i)
theorem nx_rev {M : Mem} {S : Nat → Nat} {a h : Nat} (h8 : h ≤ 8) (ha : a + 1 < h) (e : ∀ i, i < h → M 0 12 i = nI (S i)) {P : Int32 × Mem → Prop} (hP : ∀ M', frM [12] M M' → (∀ i, i < h → M' 0 12 i = nI (if i ≤ a then S i else S (a + h - i))) → P (1, M')) : Sp (lpO (fun st => fX10_nextRow_107 st.1 st.2.1 st.2.2) FU (nI (a + 1), nI (h - 1), M)) P := by
  refine lp_for (fun t st => st.1 = nI (a + 1 + t) ∧ st.2.1 = nI (h - 1 - t) ∧ frM [12] M st.2.2 ∧ ∀ i, i < h → st.2.2 0 12 i = nI (if a < i ∧ (i < a + 1 + t ∨ h - 1 - t < i) then S (a + h - i) else S i)) ((h - a - 1) / 2) (by omega) ?_ ?_ (Nat.zero_le _) ⟨rfl, rfl, frM.rf, fun i hi => by dsimp only; rw [if_neg (by omega)]; exact e i hi⟩
  · rintro t ⟨x4, x5, N⟩ ht ⟨a1, a2, a3, a4⟩
    dsimp only at a1 a2 a3 a4 ⊢
    subst a1 a2
    unfold fX10_nextRow_107
    simp only [sp_gd, sp_nm, sp_bind, sp_ite, sp_some, sp_inr]
    rw [nI_leI (by omega) (by omega), inB_nI (by omega), inB_nI (by omega), nI_clamp (by omega), nI_clamp (by omega), nI_1]
    refine ⟨fun hc => absurd hc (by omega), fun _ => ⟨by omega, by omega, by omega, by omega, rfl, ?_, (a3.w _ _ _ (by decide)).w _ _ _ (by decide), fun i hi => ?_⟩⟩
    · dsimp only
      rw [show h - 1 - t = (h - 1 - (t + 1)) + 1 by omega, pk_m1]
    · dsimp only
      simp only [wr_ap]
      by_cases h1 : i = h - 1 - t
      · rw [if_pos ⟨by trivial, by trivial, h1⟩, a4 _ (by omega), if_neg (by omega), if_pos (by omega), show a + h - i = a + 1 + t by omega]
      · rw [if_neg (fun z => h1 z.2.2)]
        by_cases h2 : i = a + 1 + t
        · rw [if_pos ⟨by trivial, by trivial, h2⟩, a4 _ (by omega), if_neg (by omega), if_pos (by omega), show a + h - i = h - 1 - t by omega]
        · rw [if_neg (fun z => h2 z.2.2), a4 i hi]
          by_cases h3 : a < i ∧ (i < a + 1 + t ∨ h - 1 - t < i)
          · rw [if_pos h3, if_pos (by omega)]
          · rw [if_neg h3, if_neg (by omega)]
  · rintro ⟨x4, x5, N⟩ ⟨a1, a2, a3, a4⟩
    dsimp only at a1 a2 a3 a4 ⊢
    subst a1 a2
    unfold fX10_nextRow_107
    simp only [sp_gd, sp_nm, sp_bind, sp_ite, sp_some, sp_inr]
    rw [nI_leI (by omega) (by omega)]
    refine ⟨fun _ => hP N a3 (fun i hi => ?_), fun hc => absurd (by omega) hc⟩
    rw [a4 i hi]
    by_cases h1 : i ≤ a
    · rw [if_pos h1, if_neg (by omega)]
    · rw [if_neg h1]
      by_cases h2 : a < i ∧ (i < a + 1 + (h - a - 1) / 2 ∨ h - 1 - (h - a - 1) / 2 < i)
      · rw [if_pos h2]
      · rw [if_neg h2, show a + h - i = i by omega]
theorem md_next {M : Mem} {r : Nat → Nat} {h a j : Nat} (h8 : h ≤ 8) (e2 : M 0 2 0 = nI h) (e : ∀ i, i < h → M 0 12 i = nI (r i)) (hr : ∀ i, i < h → r i < 100) (haj : a < j) (hj : j < h) (f1 : ∀ i, a < i → i + 1 < h → r (i + 1) < r i) (f2 : r a < r (a + 1)) (f3 : r a < r j) (f4 : ∀ i, j < i → i < h → r i < r a) : Sp (fX10_nextRow M) (fun z => z.1 = 1 ∧ frM [12] M z.2 ∧ ∀ i, i < h → z.2 0 12 i = nI (nxF r h a j i)) := by
  have ra := hr a (by omega)
  have rj := hr j hj
  unfold fX10_nextRow
  simp only [sp_gd, sp_nm, sp_bind, sp_ite, sp_some, sp_inr]
  rw [e2, il2, pk_sub (by omega)]
  refine lp_for (fun t st => st = (nI (h - 2 - t), M)) (h - 2 - a) (by omega) ?_ ?_ (Nat.zero_le _) rfl
  · rintro t st ht rfl
    have q1 := hr (h - 2 - t) (by omega)
    have q2 := hr (h - 2 - t + 1) (by omega)
    have q3 := f1 (h - 2 - t) (by omega) (by omega)
    unfold fX10_nextRow_7
    simp only [sp_gd, sp_nm, sp_bind, sp_ite, sp_some, sp_inr]
    rw [nI_1, inB_nI (by omega), inB_nI (by omega), nI_clamp (by omega), nI_clamp (by omega), e _ (by omega), e _ (by omega), nI_leI (by omega) (by omega)]
    refine ⟨fun z => absurd z (nI_pos (by omega)), fun _ => ⟨by omega, by omega, fun z => absurd z (by omega), fun _ => ?_⟩⟩
    show _ = _
    rw [show h - 2 - t = (h - 2 - (t + 1)) + 1 by omega, pk_m1]
  · rintro st rfl
    rw [show h - 2 - (h - 2 - a) = a by omega]
    have q2 := hr (a + 1) (by omega)
    have tail : Sp (fX10_nextRow_34 (nI a) M) (fun z => z.1 = 1 ∧ frM [12] M z.2 ∧ ∀ i, i < h → z.2 0 12 i = nI (nxF r h a j i)) := by
      unfold fX10_nextRow_34
      simp only [sp_gd, sp_nm, sp_bind, sp_ite, sp_some, sp_inr]
      refine ⟨fun _ => ?_, fun z => absurd (nI_pos' (by omega)) z⟩
      rw [e2, il1, pk_sub (by omega)]
      refine lp_for (fun t st => st = (nI a, nI (h - 1 - t), M)) (h - 1 - j) (by omega) ?_ ?_ (Nat.zero_le _) rfl
      · rintro t st ht rfl
        have p1 := hr (h - 1 - t) (by omega)
        have p2 := f4 (h - 1 - t) (by omega) (by omega)
        unfold fX10_nextRow_47
        simp only [sp_gd, sp_nm, sp_bind, sp_ite, sp_some, sp_inr]
        rw [inB_nI (by omega), inB_nI (by omega), nI_clamp (by omega), nI_clamp (by omega), e _ (by omega), e _ (by omega), nI_leI (by omega) (by omega)]
        refine ⟨by omega, by omega, fun z => absurd z (by omega), fun _ => ?_⟩
        show _ = _
        rw [show h - 1 - t = (h - 1 - (t + 1)) + 1 by omega, pk_m1]
      · rintro st rfl
        rw [show h - 1 - (h - 1 - j) = j by omega]
        unfold fX10_nextRow_47 fX10_nextRow_68
        simp only [sp_gd, sp_nm, sp_bind, sp_ite, sp_some, sp_inr]
        rw [inB_nI (by omega), inB_nI (by omega), nI_clamp (by omega), nI_clamp (by omega), e a (by omega), e j hj, nI_leI (by omega) (by omega), nI_1]
        refine ⟨by omega, by omega, fun _ => ⟨by omega, by omega, by omega, by omega, ?_⟩, fun z => absurd (by omega) z⟩
        rw [wr_row _ _ _ _ _ (by decide), wr_row _ _ _ _ _ (by decide), e2, il1, pk_sub (by omega)]
        refine (nx_rev (a := a) (h := h) (S := fun i => if i = j then r a else if i = a then r j else r i) (P := fun z => z.1 = 1 ∧ frM [12] M z.2 ∧ ∀ i, i < h → z.2 0 12 i = nI (nxF r h a j i)) h8 (by omega) (fun i hi => ?_) (fun M' m1 m2 => ⟨rfl, ?_, fun i hi => ?_⟩)).mono (fun z hz => hz)
        · simp only [wr_ap]
          by_cases i1 : i = j
          · rw [if_pos ⟨by trivial, by trivial, i1⟩, if_pos i1]
          · rw [if_neg (fun z => i1 z.2.2), if_neg i1]
            by_cases i2 : i = a
            · rw [if_pos ⟨by trivial, by trivial, i2⟩, if_pos i2]
            · rw [if_neg (fun z => i2 z.2.2), if_neg i2]; exact e i hi
        · exact ((frM.rf.w _ _ _ (by decide)).w _ _ _ (by decide)).tr m1
        · dsimp only
          rw [m2 i hi]
          unfold nxF
          by_cases i1 : i < a
          · rw [if_pos (by omega), if_neg (by omega), if_neg (by omega), if_pos i1]
          · by_cases i2 : i = a
            · rw [if_pos (by omega), if_neg (by omega), if_pos i2, if_neg i1, if_pos i2]
            · rw [if_neg (by omega), if_neg (show ¬ a + h - i = a by omega), if_neg i1, if_neg i2]
    unfold fX10_nextRow_7
    simp only [sp_gd, sp_nm, sp_bind, sp_ite, sp_some, sp_inr]
    rw [nI_1, inB_nI (by omega), inB_nI (by omega), nI_clamp (by omega), nI_clamp (by omega), e _ (by omega), e _ (by omega), nI_leI (by omega) (by omega)]
    exact ⟨fun z => absurd z (nI_pos (by omega)), fun _ => ⟨by omega, by omega, fun _ => tail.mono (fun z hz => hz), fun z => absurd (by omega) z⟩⟩
theorem bI_m1 {n : Nat} : bI (n + 1) + (-1) = bI n := by
  unfold bI
  rw [if_neg (by omega), Nat.add_sub_cancel]
  by_cases h0 : n = 0
  · rw [if_pos h0, h0]; decide
  · rw [if_neg h0]
    obtain ⟨m, rfl⟩ : ∃ m, n = m + 1 := ⟨n - 1, by omega⟩
    rw [pk_m1, Nat.add_sub_cancel]
theorem md_nextLast {M : Mem} {r : Nat → Nat} {h : Nat} (h8 : h ≤ 8) (h1 : 0 < h) (e2 : M 0 2 0 = nI h) (e : ∀ i, i < h → M 0 12 i = nI (r i)) (hr : ∀ i, i < h → r i < 100) (f1 : ∀ i, i + 1 < h → r (i + 1) < r i) : Sp (fX10_nextRow M) (fun z => z.1 = 0 ∧ z.2 = M) := by
  unfold fX10_nextRow
  simp only [sp_gd, sp_nm, sp_bind, sp_ite, sp_some, sp_inr]
  rw [e2, show nI h - 2 = bI (h - 1) by
    unfold bI
    by_cases h0 : h = 1
    · rw [h0, if_pos rfl]; decide
    · rw [if_neg (by omega), il2, pk_sub (by omega), show h - 1 - 1 = h - 2 by omega]]
  refine lp_for (fun t st => st = (bI (h - 1 - t), M)) (h - 1) (by omega) ?_ ?_ (Nat.zero_le _) rfl
  · rintro t st ht rfl
    have q1 := hr (h - 2 - t) (by omega)
    have q2 := hr (h - 2 - t + 1) (by omega)
    have q3 := f1 (h - 2 - t) (by omega)
    have eb : bI (h - 1 - t) = nI (h - 2 - t) := by
      unfold bI
      rw [if_neg (by omega), show h - 1 - t - 1 = h - 2 - t by omega]
    unfold fX10_nextRow_7
    simp only [sp_gd, sp_nm, sp_bind, sp_ite, sp_some, sp_inr]
    rw [eb, nI_1, inB_nI (by omega), inB_nI (by omega), nI_clamp (by omega), nI_clamp (by omega), e _ (by omega), e _ (by omega), nI_leI (by omega) (by omega)]
    refine ⟨fun z => absurd z (nI_pos (by omega)), fun _ => ⟨by omega, by omega, fun z => absurd z (by omega), fun _ => ?_⟩⟩
    show _ = _
    rw [← eb, show h - 1 - t = (h - 1 - (t + 1)) + 1 by omega, bI_m1]
  · rintro st rfl
    rw [show h - 1 - (h - 1) = 0 by omega]
    unfold fX10_nextRow_7 fX10_nextRow_34
    simp only [sp_gd, sp_nm, sp_bind, sp_ite, sp_some, sp_inr]
    refine ⟨fun _ => ⟨fun z => absurd z (by decide), fun _ => ⟨(by trivial), (by trivial)⟩⟩, fun z => absurd (by decide) z⟩
