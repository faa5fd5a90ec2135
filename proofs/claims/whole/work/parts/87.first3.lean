/-! ===== the worlds at first, and the law's entry (written by gen_first3.py) ===== -/
theorem piN_inj : ∀ i, i < 91 → ∀ j, j < 91 → piN.getD i 0 = piN.getD j 0 → i = j := by decide +kernel
theorem fall {P : Nat → Prop} {n : Nat} (h : ∀ k, k < n → P k) (hn : P n) : ∀ k, k < n + 1 → P k := fun k hk => by
  rcases Nat.lt_succ_iff_lt_or_eq.mp hk with q | q
  · exact h k q
  · rw [q]; exact hn
theorem ref_same {c : ClassId} {n : Nat} {f g : Nat → Option Nat} (h : ∀ i, i < n → f i = g i) : vp_cell c (n, .inr (.inr (.inr (.inr f)))) = vp_cell c (n, .inr (.inr (.inr (.inr g)))) := by
  rw [vp_cell_q, vp_cell_q]
  unfold arrV
  congr 1
  apply congrArg
  funext j
  show va_rf (f j.val) = va_rf (g j.val)
  rw [h j.val j.isLt]
theorem wd_some {ad : Nat → Nat} {cs : Nat → ClassId} {G : List Ge} {M : Mem} {k : Nat} {q : Nat × va_E} (h : (wd ad cs G M)[k]? = some q) : ∃ hk : k < G.length, q = (ad k, ent ad cs G M k G[k]) := by
  unfold wd at h
  rw [List.getElem?_mapIdx] at h
  cases hq : G[k]? with
  | none => rw [hq] at h; cases h
  | some g =>
    rw [hq] at h
    obtain ⟨h1, h2⟩ := List.getElem?_eq_some_iff.mp hq
    refine ⟨h1, ?_⟩
    rw [h2]
    exact (Option.some.inj h).symm
def atC (D : va_G) (cs : Nat → ClassId) (h0 : Nat) (u : Nat → Nat) (H : Heap) (k : Nat) : Prop := va_at D vwCl ((adN h0 u) k, ent (adN h0 u) cs GC M0C k (GC.getD k (0, 0, 0, 0))) H
theorem ri3 (cs : Nat → ClassId) (h0 : Nat) (u : Nat → Nat) (i : Nat) (hi : i < 4) : (va_up (va_up (va_up (va_up (fun _ => none) 0 (some (u 14))) 1 (some (u 12))) 2 (some (u 10))) 3 (some (u 8))) i = some (adN h0 u (cO GC (21 + i))) := by
  match i, hi with
  | 0, _ => rfl
  | 1, _ => rfl
  | 2, _ => rfl
  | 3, _ => rfl
theorem ri44 (cs : Nat → ClassId) (h0 : Nat) (u : Nat → Nat) (i : Nat) (hi : i < 9) : (va_up (va_up (va_up (va_up (va_up (va_up (va_up (va_up (va_up (fun _ => none) 0 (some (u 83))) 1 (some (u 79))) 2 (some (u 75))) 3 (some (u 71))) 4 (some (u 67))) 5 (some (u 63))) 6 (some (u 59))) 7 (some (u 55))) 8 (some (u 51))) i = some (adN h0 u (cO GC (12 + i))) := by
  match i, hi with
  | 0, _ => rfl
  | 1, _ => rfl
  | 2, _ => rfl
  | 3, _ => rfl
  | 4, _ => rfl
  | 5, _ => rfl
  | 6, _ => rfl
  | 7, _ => rfl
  | 8, _ => rfl
set_option maxHeartbeats 4000000 in
theorem P_newC {D : va_G} {cs : Nat → ClassId} {h0 : Nat} {u : Nat → Nat} {H : Heap} (hP : va_P D vwCl (wNew cs h0 u) H) : va_P D vwCl (wd (adN h0 u) cs GC M0C) H := by
  have F0 : ∀ k, k < 0 → atC D cs h0 u H k := fun k h => absurd h (Nat.not_lt_zero k)
  have F1 : ∀ k, k < 1 → atC D cs h0 u H k := fall F0 (hP 0 _ (nwc_0 cs h0 u))
  have F2 : ∀ k, k < 2 → atC D cs h0 u H k := fall F1 (hP 89 _ (nwc_1 cs h0 u))
  have F3 : ∀ k, k < 3 → atC D cs h0 u H k := fall F2 (hP 90 _ (nwc_2 cs h0 u))
  have F4 : ∀ k, k < 4 → atC D cs h0 u H k := fall F3 (show H[(adN h0 u) 3]? = some (vp_cell (cs 4) (4, .inr (.inr (.inr (.inr fun i => some ((adN h0 u) (cO GC (21 + i)))))))) from (hP 7 _ (nwc_3 cs h0 u)).trans (congrArg some (ref_same (fun i hi => by exact ri3 cs h0 u i hi))))
  have F5 : ∀ k, k < 5 → atC D cs h0 u H k := fall F4 (hP 16 _ (nwc_4 cs h0 u))
  have F6 : ∀ k, k < 6 → atC D cs h0 u H k := fall F5 (hP 17 _ (nwc_5 cs h0 u))
  have F7 : ∀ k, k < 7 → atC D cs h0 u H k := fall F6 (hP 18 _ (nwc_6 cs h0 u))
  have F8 : ∀ k, k < 8 → atC D cs h0 u H k := fall F7 (hP 19 _ (nwc_7 cs h0 u))
  have F9 : ∀ k, k < 9 → atC D cs h0 u H k := fall F8 (hP 1 _ (nwc_8 cs h0 u))
  have F10 : ∀ k, k < 10 → atC D cs h0 u H k := fall F9 (hP 2 _ (nwc_9 cs h0 u))
  have F11 : ∀ k, k < 11 → atC D cs h0 u H k := fall F10 (hP 3 _ (nwc_10 cs h0 u))
  have F12 : ∀ k, k < 12 → atC D cs h0 u H k := fall F11 (hP 4 _ (nwc_11 cs h0 u))
  have F13 : ∀ k, k < 13 → atC D cs h0 u H k := fall F12 (hP 5 _ (nwc_12 cs h0 u))
  have F14 : ∀ k, k < 14 → atC D cs h0 u H k := fall F13 (hP 6 _ (nwc_13 cs h0 u))
  have F15 : ∀ k, k < 15 → atC D cs h0 u H k := fall F14 (hP 20 _ (nwc_14 cs h0 u))
  have F16 : ∀ k, k < 16 → atC D cs h0 u H k := fall F15 (hP 25 _ (nwc_15 cs h0 u))
  have F17 : ∀ k, k < 17 → atC D cs h0 u H k := fall F16 (hP 26 _ (nwc_16 cs h0 u))
  have F18 : ∀ k, k < 18 → atC D cs h0 u H k := fall F17 (hP 27 _ (nwc_17 cs h0 u))
  have F19 : ∀ k, k < 19 → atC D cs h0 u H k := fall F18 (hP 28 _ (nwc_18 cs h0 u))
  have F20 : ∀ k, k < 20 → atC D cs h0 u H k := fall F19 (hP 29 _ (nwc_19 cs h0 u))
  have F21 : ∀ k, k < 21 → atC D cs h0 u H k := fall F20 (hP 30 _ (nwc_20 cs h0 u))
  have F22 : ∀ k, k < 22 → atC D cs h0 u H k := fall F21 (hP 31 _ (nwc_21 cs h0 u))
  have F23 : ∀ k, k < 23 → atC D cs h0 u H k := fall F22 (hP 21 _ (nwc_22 cs h0 u))
  have F24 : ∀ k, k < 24 → atC D cs h0 u H k := fall F23 (hP 22 _ (nwc_23 cs h0 u))
  have F25 : ∀ k, k < 25 → atC D cs h0 u H k := fall F24 (hP 23 _ (nwc_24 cs h0 u))
  have F26 : ∀ k, k < 26 → atC D cs h0 u H k := fall F25 (hP 24 _ (nwc_25 cs h0 u))
  have F27 : ∀ k, k < 27 → atC D cs h0 u H k := fall F26 (hP 32 _ (nwc_26 cs h0 u))
  have F28 : ∀ k, k < 28 → atC D cs h0 u H k := fall F27 (hP 43 _ (nwc_27 cs h0 u))
  have F29 : ∀ k, k < 29 → atC D cs h0 u H k := fall F28 (hP 33 _ (nwc_28 cs h0 u))
  have F30 : ∀ k, k < 30 → atC D cs h0 u H k := fall F29 (hP 34 _ (nwc_29 cs h0 u))
  have F31 : ∀ k, k < 31 → atC D cs h0 u H k := fall F30 (hP 35 _ (nwc_30 cs h0 u))
  have F32 : ∀ k, k < 32 → atC D cs h0 u H k := fall F31 (hP 36 _ (nwc_31 cs h0 u))
  have F33 : ∀ k, k < 33 → atC D cs h0 u H k := fall F32 (hP 37 _ (nwc_32 cs h0 u))
  have F34 : ∀ k, k < 34 → atC D cs h0 u H k := fall F33 (hP 38 _ (nwc_33 cs h0 u))
  have F35 : ∀ k, k < 35 → atC D cs h0 u H k := fall F34 (hP 39 _ (nwc_34 cs h0 u))
  have F36 : ∀ k, k < 36 → atC D cs h0 u H k := fall F35 (hP 40 _ (nwc_35 cs h0 u))
  have F37 : ∀ k, k < 37 → atC D cs h0 u H k := fall F36 (hP 41 _ (nwc_36 cs h0 u))
  have F38 : ∀ k, k < 38 → atC D cs h0 u H k := fall F37 (hP 42 _ (nwc_37 cs h0 u))
  have F39 : ∀ k, k < 39 → atC D cs h0 u H k := fall F38 (hP 44 _ (nwc_38 cs h0 u))
  have F40 : ∀ k, k < 40 → atC D cs h0 u H k := fall F39 (hP 45 _ (nwc_39 cs h0 u))
  have F41 : ∀ k, k < 41 → atC D cs h0 u H k := fall F40 (hP 46 _ (nwc_40 cs h0 u))
  have F42 : ∀ k, k < 42 → atC D cs h0 u H k := fall F41 (hP 47 _ (nwc_41 cs h0 u))
  have F43 : ∀ k, k < 43 → atC D cs h0 u H k := fall F42 (hP 48 _ (nwc_42 cs h0 u))
  have F44 : ∀ k, k < 44 → atC D cs h0 u H k := fall F43 (hP 49 _ (nwc_43 cs h0 u))
  have F45 : ∀ k, k < 45 → atC D cs h0 u H k := fall F44 (show H[(adN h0 u) 44]? = some (vp_cell (cs 3) (9, .inr (.inr (.inr (.inr fun i => some ((adN h0 u) (cO GC (12 + i)))))))) from (hP 50 _ (nwc_44 cs h0 u)).trans (congrArg some (ref_same (fun i hi => by exact ri44 cs h0 u i hi))))
  have F46 : ∀ k, k < 46 → atC D cs h0 u H k := fall F45 (hP 87 _ (nwc_45 cs h0 u))
  have F47 : ∀ k, k < 47 → atC D cs h0 u H k := fall F46 (hP 88 _ (nwc_46 cs h0 u))
  have F48 : ∀ k, k < 48 → atC D cs h0 u H k := fall F47 (hP 83 _ (nwc_47 cs h0 u))
  have F49 : ∀ k, k < 49 → atC D cs h0 u H k := fall F48 (hP 84 _ (nwc_48 cs h0 u))
  have F50 : ∀ k, k < 50 → atC D cs h0 u H k := fall F49 (hP 85 _ (nwc_49 cs h0 u))
  have F51 : ∀ k, k < 51 → atC D cs h0 u H k := fall F50 (hP 86 _ (nwc_50 cs h0 u))
  have F52 : ∀ k, k < 52 → atC D cs h0 u H k := fall F51 (hP 79 _ (nwc_51 cs h0 u))
  have F53 : ∀ k, k < 53 → atC D cs h0 u H k := fall F52 (hP 80 _ (nwc_52 cs h0 u))
  have F54 : ∀ k, k < 54 → atC D cs h0 u H k := fall F53 (hP 81 _ (nwc_53 cs h0 u))
  have F55 : ∀ k, k < 55 → atC D cs h0 u H k := fall F54 (hP 82 _ (nwc_54 cs h0 u))
  have F56 : ∀ k, k < 56 → atC D cs h0 u H k := fall F55 (hP 75 _ (nwc_55 cs h0 u))
  have F57 : ∀ k, k < 57 → atC D cs h0 u H k := fall F56 (hP 76 _ (nwc_56 cs h0 u))
  have F58 : ∀ k, k < 58 → atC D cs h0 u H k := fall F57 (hP 77 _ (nwc_57 cs h0 u))
  have F59 : ∀ k, k < 59 → atC D cs h0 u H k := fall F58 (hP 78 _ (nwc_58 cs h0 u))
  have F60 : ∀ k, k < 60 → atC D cs h0 u H k := fall F59 (hP 71 _ (nwc_59 cs h0 u))
  have F61 : ∀ k, k < 61 → atC D cs h0 u H k := fall F60 (hP 72 _ (nwc_60 cs h0 u))
  have F62 : ∀ k, k < 62 → atC D cs h0 u H k := fall F61 (hP 73 _ (nwc_61 cs h0 u))
  have F63 : ∀ k, k < 63 → atC D cs h0 u H k := fall F62 (hP 74 _ (nwc_62 cs h0 u))
  have F64 : ∀ k, k < 64 → atC D cs h0 u H k := fall F63 (hP 67 _ (nwc_63 cs h0 u))
  have F65 : ∀ k, k < 65 → atC D cs h0 u H k := fall F64 (hP 68 _ (nwc_64 cs h0 u))
  have F66 : ∀ k, k < 66 → atC D cs h0 u H k := fall F65 (hP 69 _ (nwc_65 cs h0 u))
  have F67 : ∀ k, k < 67 → atC D cs h0 u H k := fall F66 (hP 70 _ (nwc_66 cs h0 u))
  have F68 : ∀ k, k < 68 → atC D cs h0 u H k := fall F67 (hP 63 _ (nwc_67 cs h0 u))
  have F69 : ∀ k, k < 69 → atC D cs h0 u H k := fall F68 (hP 64 _ (nwc_68 cs h0 u))
  have F70 : ∀ k, k < 70 → atC D cs h0 u H k := fall F69 (hP 65 _ (nwc_69 cs h0 u))
  have F71 : ∀ k, k < 71 → atC D cs h0 u H k := fall F70 (hP 66 _ (nwc_70 cs h0 u))
  have F72 : ∀ k, k < 72 → atC D cs h0 u H k := fall F71 (hP 59 _ (nwc_71 cs h0 u))
  have F73 : ∀ k, k < 73 → atC D cs h0 u H k := fall F72 (hP 60 _ (nwc_72 cs h0 u))
  have F74 : ∀ k, k < 74 → atC D cs h0 u H k := fall F73 (hP 61 _ (nwc_73 cs h0 u))
  have F75 : ∀ k, k < 75 → atC D cs h0 u H k := fall F74 (hP 62 _ (nwc_74 cs h0 u))
  have F76 : ∀ k, k < 76 → atC D cs h0 u H k := fall F75 (hP 55 _ (nwc_75 cs h0 u))
  have F77 : ∀ k, k < 77 → atC D cs h0 u H k := fall F76 (hP 56 _ (nwc_76 cs h0 u))
  have F78 : ∀ k, k < 78 → atC D cs h0 u H k := fall F77 (hP 57 _ (nwc_77 cs h0 u))
  have F79 : ∀ k, k < 79 → atC D cs h0 u H k := fall F78 (hP 58 _ (nwc_78 cs h0 u))
  have F80 : ∀ k, k < 80 → atC D cs h0 u H k := fall F79 (hP 51 _ (nwc_79 cs h0 u))
  have F81 : ∀ k, k < 81 → atC D cs h0 u H k := fall F80 (hP 52 _ (nwc_80 cs h0 u))
  have F82 : ∀ k, k < 82 → atC D cs h0 u H k := fall F81 (hP 53 _ (nwc_81 cs h0 u))
  have F83 : ∀ k, k < 83 → atC D cs h0 u H k := fall F82 (hP 54 _ (nwc_82 cs h0 u))
  have F84 : ∀ k, k < 84 → atC D cs h0 u H k := fall F83 (hP 14 _ (nwc_83 cs h0 u))
  have F85 : ∀ k, k < 85 → atC D cs h0 u H k := fall F84 (hP 15 _ (nwc_84 cs h0 u))
  have F86 : ∀ k, k < 86 → atC D cs h0 u H k := fall F85 (hP 12 _ (nwc_85 cs h0 u))
  have F87 : ∀ k, k < 87 → atC D cs h0 u H k := fall F86 (hP 13 _ (nwc_86 cs h0 u))
  have F88 : ∀ k, k < 88 → atC D cs h0 u H k := fall F87 (hP 10 _ (nwc_87 cs h0 u))
  have F89 : ∀ k, k < 89 → atC D cs h0 u H k := fall F88 (hP 11 _ (nwc_88 cs h0 u))
  have F90 : ∀ k, k < 90 → atC D cs h0 u H k := fall F89 (hP 8 _ (nwc_89 cs h0 u))
  have F91 : ∀ k, k < 91 → atC D cs h0 u H k := fall F90 (hP 9 _ (nwc_90 cs h0 u))
  intro k q hk
  obtain ⟨h1, rfl⟩ := wd_some hk
  have := F91 k h1
  unfold atC at this
  rw [List.getD_eq_getElem?_getD, List.getElem?_eq_getElem h1] at this
  exact this
theorem D_newC {A : Nat → Prop} {cs : Nat → ClassId} {h0 : Nat} {u : Nat → Nat} (hD : va_D A (wNew cs h0 u)) : va_D A (wd (adN h0 u) cs GC M0C) := by
  have key : ∀ k, k < 91 → ∃ e, (wNew cs h0 u)[piN.getD k 0]? = some ((adN h0 u) k, e) := by
    have F0 : ∀ k, k < 0 → (fun k => ∃ e, (wNew cs h0 u)[piN.getD k 0]? = some ((adN h0 u) k, e)) k := fun k h => absurd h (Nat.not_lt_zero k)
    have F1 : ∀ k, k < 1 → (fun k => ∃ e, (wNew cs h0 u)[piN.getD k 0]? = some ((adN h0 u) k, e)) k := fall F0 (⟨_, nwc_0 cs h0 u⟩)
    have F2 : ∀ k, k < 2 → (fun k => ∃ e, (wNew cs h0 u)[piN.getD k 0]? = some ((adN h0 u) k, e)) k := fall F1 (⟨_, nwc_1 cs h0 u⟩)
    have F3 : ∀ k, k < 3 → (fun k => ∃ e, (wNew cs h0 u)[piN.getD k 0]? = some ((adN h0 u) k, e)) k := fall F2 (⟨_, nwc_2 cs h0 u⟩)
    have F4 : ∀ k, k < 4 → (fun k => ∃ e, (wNew cs h0 u)[piN.getD k 0]? = some ((adN h0 u) k, e)) k := fall F3 (⟨_, nwc_3 cs h0 u⟩)
    have F5 : ∀ k, k < 5 → (fun k => ∃ e, (wNew cs h0 u)[piN.getD k 0]? = some ((adN h0 u) k, e)) k := fall F4 (⟨_, nwc_4 cs h0 u⟩)
    have F6 : ∀ k, k < 6 → (fun k => ∃ e, (wNew cs h0 u)[piN.getD k 0]? = some ((adN h0 u) k, e)) k := fall F5 (⟨_, nwc_5 cs h0 u⟩)
    have F7 : ∀ k, k < 7 → (fun k => ∃ e, (wNew cs h0 u)[piN.getD k 0]? = some ((adN h0 u) k, e)) k := fall F6 (⟨_, nwc_6 cs h0 u⟩)
    have F8 : ∀ k, k < 8 → (fun k => ∃ e, (wNew cs h0 u)[piN.getD k 0]? = some ((adN h0 u) k, e)) k := fall F7 (⟨_, nwc_7 cs h0 u⟩)
    have F9 : ∀ k, k < 9 → (fun k => ∃ e, (wNew cs h0 u)[piN.getD k 0]? = some ((adN h0 u) k, e)) k := fall F8 (⟨_, nwc_8 cs h0 u⟩)
    have F10 : ∀ k, k < 10 → (fun k => ∃ e, (wNew cs h0 u)[piN.getD k 0]? = some ((adN h0 u) k, e)) k := fall F9 (⟨_, nwc_9 cs h0 u⟩)
    have F11 : ∀ k, k < 11 → (fun k => ∃ e, (wNew cs h0 u)[piN.getD k 0]? = some ((adN h0 u) k, e)) k := fall F10 (⟨_, nwc_10 cs h0 u⟩)
    have F12 : ∀ k, k < 12 → (fun k => ∃ e, (wNew cs h0 u)[piN.getD k 0]? = some ((adN h0 u) k, e)) k := fall F11 (⟨_, nwc_11 cs h0 u⟩)
    have F13 : ∀ k, k < 13 → (fun k => ∃ e, (wNew cs h0 u)[piN.getD k 0]? = some ((adN h0 u) k, e)) k := fall F12 (⟨_, nwc_12 cs h0 u⟩)
    have F14 : ∀ k, k < 14 → (fun k => ∃ e, (wNew cs h0 u)[piN.getD k 0]? = some ((adN h0 u) k, e)) k := fall F13 (⟨_, nwc_13 cs h0 u⟩)
    have F15 : ∀ k, k < 15 → (fun k => ∃ e, (wNew cs h0 u)[piN.getD k 0]? = some ((adN h0 u) k, e)) k := fall F14 (⟨_, nwc_14 cs h0 u⟩)
    have F16 : ∀ k, k < 16 → (fun k => ∃ e, (wNew cs h0 u)[piN.getD k 0]? = some ((adN h0 u) k, e)) k := fall F15 (⟨_, nwc_15 cs h0 u⟩)
    have F17 : ∀ k, k < 17 → (fun k => ∃ e, (wNew cs h0 u)[piN.getD k 0]? = some ((adN h0 u) k, e)) k := fall F16 (⟨_, nwc_16 cs h0 u⟩)
    have F18 : ∀ k, k < 18 → (fun k => ∃ e, (wNew cs h0 u)[piN.getD k 0]? = some ((adN h0 u) k, e)) k := fall F17 (⟨_, nwc_17 cs h0 u⟩)
    have F19 : ∀ k, k < 19 → (fun k => ∃ e, (wNew cs h0 u)[piN.getD k 0]? = some ((adN h0 u) k, e)) k := fall F18 (⟨_, nwc_18 cs h0 u⟩)
    have F20 : ∀ k, k < 20 → (fun k => ∃ e, (wNew cs h0 u)[piN.getD k 0]? = some ((adN h0 u) k, e)) k := fall F19 (⟨_, nwc_19 cs h0 u⟩)
    have F21 : ∀ k, k < 21 → (fun k => ∃ e, (wNew cs h0 u)[piN.getD k 0]? = some ((adN h0 u) k, e)) k := fall F20 (⟨_, nwc_20 cs h0 u⟩)
    have F22 : ∀ k, k < 22 → (fun k => ∃ e, (wNew cs h0 u)[piN.getD k 0]? = some ((adN h0 u) k, e)) k := fall F21 (⟨_, nwc_21 cs h0 u⟩)
    have F23 : ∀ k, k < 23 → (fun k => ∃ e, (wNew cs h0 u)[piN.getD k 0]? = some ((adN h0 u) k, e)) k := fall F22 (⟨_, nwc_22 cs h0 u⟩)
    have F24 : ∀ k, k < 24 → (fun k => ∃ e, (wNew cs h0 u)[piN.getD k 0]? = some ((adN h0 u) k, e)) k := fall F23 (⟨_, nwc_23 cs h0 u⟩)
    have F25 : ∀ k, k < 25 → (fun k => ∃ e, (wNew cs h0 u)[piN.getD k 0]? = some ((adN h0 u) k, e)) k := fall F24 (⟨_, nwc_24 cs h0 u⟩)
    have F26 : ∀ k, k < 26 → (fun k => ∃ e, (wNew cs h0 u)[piN.getD k 0]? = some ((adN h0 u) k, e)) k := fall F25 (⟨_, nwc_25 cs h0 u⟩)
    have F27 : ∀ k, k < 27 → (fun k => ∃ e, (wNew cs h0 u)[piN.getD k 0]? = some ((adN h0 u) k, e)) k := fall F26 (⟨_, nwc_26 cs h0 u⟩)
    have F28 : ∀ k, k < 28 → (fun k => ∃ e, (wNew cs h0 u)[piN.getD k 0]? = some ((adN h0 u) k, e)) k := fall F27 (⟨_, nwc_27 cs h0 u⟩)
    have F29 : ∀ k, k < 29 → (fun k => ∃ e, (wNew cs h0 u)[piN.getD k 0]? = some ((adN h0 u) k, e)) k := fall F28 (⟨_, nwc_28 cs h0 u⟩)
    have F30 : ∀ k, k < 30 → (fun k => ∃ e, (wNew cs h0 u)[piN.getD k 0]? = some ((adN h0 u) k, e)) k := fall F29 (⟨_, nwc_29 cs h0 u⟩)
    have F31 : ∀ k, k < 31 → (fun k => ∃ e, (wNew cs h0 u)[piN.getD k 0]? = some ((adN h0 u) k, e)) k := fall F30 (⟨_, nwc_30 cs h0 u⟩)
    have F32 : ∀ k, k < 32 → (fun k => ∃ e, (wNew cs h0 u)[piN.getD k 0]? = some ((adN h0 u) k, e)) k := fall F31 (⟨_, nwc_31 cs h0 u⟩)
    have F33 : ∀ k, k < 33 → (fun k => ∃ e, (wNew cs h0 u)[piN.getD k 0]? = some ((adN h0 u) k, e)) k := fall F32 (⟨_, nwc_32 cs h0 u⟩)
    have F34 : ∀ k, k < 34 → (fun k => ∃ e, (wNew cs h0 u)[piN.getD k 0]? = some ((adN h0 u) k, e)) k := fall F33 (⟨_, nwc_33 cs h0 u⟩)
    have F35 : ∀ k, k < 35 → (fun k => ∃ e, (wNew cs h0 u)[piN.getD k 0]? = some ((adN h0 u) k, e)) k := fall F34 (⟨_, nwc_34 cs h0 u⟩)
    have F36 : ∀ k, k < 36 → (fun k => ∃ e, (wNew cs h0 u)[piN.getD k 0]? = some ((adN h0 u) k, e)) k := fall F35 (⟨_, nwc_35 cs h0 u⟩)
    have F37 : ∀ k, k < 37 → (fun k => ∃ e, (wNew cs h0 u)[piN.getD k 0]? = some ((adN h0 u) k, e)) k := fall F36 (⟨_, nwc_36 cs h0 u⟩)
    have F38 : ∀ k, k < 38 → (fun k => ∃ e, (wNew cs h0 u)[piN.getD k 0]? = some ((adN h0 u) k, e)) k := fall F37 (⟨_, nwc_37 cs h0 u⟩)
    have F39 : ∀ k, k < 39 → (fun k => ∃ e, (wNew cs h0 u)[piN.getD k 0]? = some ((adN h0 u) k, e)) k := fall F38 (⟨_, nwc_38 cs h0 u⟩)
    have F40 : ∀ k, k < 40 → (fun k => ∃ e, (wNew cs h0 u)[piN.getD k 0]? = some ((adN h0 u) k, e)) k := fall F39 (⟨_, nwc_39 cs h0 u⟩)
    have F41 : ∀ k, k < 41 → (fun k => ∃ e, (wNew cs h0 u)[piN.getD k 0]? = some ((adN h0 u) k, e)) k := fall F40 (⟨_, nwc_40 cs h0 u⟩)
    have F42 : ∀ k, k < 42 → (fun k => ∃ e, (wNew cs h0 u)[piN.getD k 0]? = some ((adN h0 u) k, e)) k := fall F41 (⟨_, nwc_41 cs h0 u⟩)
    have F43 : ∀ k, k < 43 → (fun k => ∃ e, (wNew cs h0 u)[piN.getD k 0]? = some ((adN h0 u) k, e)) k := fall F42 (⟨_, nwc_42 cs h0 u⟩)
    have F44 : ∀ k, k < 44 → (fun k => ∃ e, (wNew cs h0 u)[piN.getD k 0]? = some ((adN h0 u) k, e)) k := fall F43 (⟨_, nwc_43 cs h0 u⟩)
    have F45 : ∀ k, k < 45 → (fun k => ∃ e, (wNew cs h0 u)[piN.getD k 0]? = some ((adN h0 u) k, e)) k := fall F44 (⟨_, nwc_44 cs h0 u⟩)
    have F46 : ∀ k, k < 46 → (fun k => ∃ e, (wNew cs h0 u)[piN.getD k 0]? = some ((adN h0 u) k, e)) k := fall F45 (⟨_, nwc_45 cs h0 u⟩)
    have F47 : ∀ k, k < 47 → (fun k => ∃ e, (wNew cs h0 u)[piN.getD k 0]? = some ((adN h0 u) k, e)) k := fall F46 (⟨_, nwc_46 cs h0 u⟩)
    have F48 : ∀ k, k < 48 → (fun k => ∃ e, (wNew cs h0 u)[piN.getD k 0]? = some ((adN h0 u) k, e)) k := fall F47 (⟨_, nwc_47 cs h0 u⟩)
    have F49 : ∀ k, k < 49 → (fun k => ∃ e, (wNew cs h0 u)[piN.getD k 0]? = some ((adN h0 u) k, e)) k := fall F48 (⟨_, nwc_48 cs h0 u⟩)
    have F50 : ∀ k, k < 50 → (fun k => ∃ e, (wNew cs h0 u)[piN.getD k 0]? = some ((adN h0 u) k, e)) k := fall F49 (⟨_, nwc_49 cs h0 u⟩)
    have F51 : ∀ k, k < 51 → (fun k => ∃ e, (wNew cs h0 u)[piN.getD k 0]? = some ((adN h0 u) k, e)) k := fall F50 (⟨_, nwc_50 cs h0 u⟩)
    have F52 : ∀ k, k < 52 → (fun k => ∃ e, (wNew cs h0 u)[piN.getD k 0]? = some ((adN h0 u) k, e)) k := fall F51 (⟨_, nwc_51 cs h0 u⟩)
    have F53 : ∀ k, k < 53 → (fun k => ∃ e, (wNew cs h0 u)[piN.getD k 0]? = some ((adN h0 u) k, e)) k := fall F52 (⟨_, nwc_52 cs h0 u⟩)
    have F54 : ∀ k, k < 54 → (fun k => ∃ e, (wNew cs h0 u)[piN.getD k 0]? = some ((adN h0 u) k, e)) k := fall F53 (⟨_, nwc_53 cs h0 u⟩)
    have F55 : ∀ k, k < 55 → (fun k => ∃ e, (wNew cs h0 u)[piN.getD k 0]? = some ((adN h0 u) k, e)) k := fall F54 (⟨_, nwc_54 cs h0 u⟩)
    have F56 : ∀ k, k < 56 → (fun k => ∃ e, (wNew cs h0 u)[piN.getD k 0]? = some ((adN h0 u) k, e)) k := fall F55 (⟨_, nwc_55 cs h0 u⟩)
    have F57 : ∀ k, k < 57 → (fun k => ∃ e, (wNew cs h0 u)[piN.getD k 0]? = some ((adN h0 u) k, e)) k := fall F56 (⟨_, nwc_56 cs h0 u⟩)
    have F58 : ∀ k, k < 58 → (fun k => ∃ e, (wNew cs h0 u)[piN.getD k 0]? = some ((adN h0 u) k, e)) k := fall F57 (⟨_, nwc_57 cs h0 u⟩)
    have F59 : ∀ k, k < 59 → (fun k => ∃ e, (wNew cs h0 u)[piN.getD k 0]? = some ((adN h0 u) k, e)) k := fall F58 (⟨_, nwc_58 cs h0 u⟩)
    have F60 : ∀ k, k < 60 → (fun k => ∃ e, (wNew cs h0 u)[piN.getD k 0]? = some ((adN h0 u) k, e)) k := fall F59 (⟨_, nwc_59 cs h0 u⟩)
    have F61 : ∀ k, k < 61 → (fun k => ∃ e, (wNew cs h0 u)[piN.getD k 0]? = some ((adN h0 u) k, e)) k := fall F60 (⟨_, nwc_60 cs h0 u⟩)
    have F62 : ∀ k, k < 62 → (fun k => ∃ e, (wNew cs h0 u)[piN.getD k 0]? = some ((adN h0 u) k, e)) k := fall F61 (⟨_, nwc_61 cs h0 u⟩)
    have F63 : ∀ k, k < 63 → (fun k => ∃ e, (wNew cs h0 u)[piN.getD k 0]? = some ((adN h0 u) k, e)) k := fall F62 (⟨_, nwc_62 cs h0 u⟩)
    have F64 : ∀ k, k < 64 → (fun k => ∃ e, (wNew cs h0 u)[piN.getD k 0]? = some ((adN h0 u) k, e)) k := fall F63 (⟨_, nwc_63 cs h0 u⟩)
    have F65 : ∀ k, k < 65 → (fun k => ∃ e, (wNew cs h0 u)[piN.getD k 0]? = some ((adN h0 u) k, e)) k := fall F64 (⟨_, nwc_64 cs h0 u⟩)
    have F66 : ∀ k, k < 66 → (fun k => ∃ e, (wNew cs h0 u)[piN.getD k 0]? = some ((adN h0 u) k, e)) k := fall F65 (⟨_, nwc_65 cs h0 u⟩)
    have F67 : ∀ k, k < 67 → (fun k => ∃ e, (wNew cs h0 u)[piN.getD k 0]? = some ((adN h0 u) k, e)) k := fall F66 (⟨_, nwc_66 cs h0 u⟩)
    have F68 : ∀ k, k < 68 → (fun k => ∃ e, (wNew cs h0 u)[piN.getD k 0]? = some ((adN h0 u) k, e)) k := fall F67 (⟨_, nwc_67 cs h0 u⟩)
    have F69 : ∀ k, k < 69 → (fun k => ∃ e, (wNew cs h0 u)[piN.getD k 0]? = some ((adN h0 u) k, e)) k := fall F68 (⟨_, nwc_68 cs h0 u⟩)
    have F70 : ∀ k, k < 70 → (fun k => ∃ e, (wNew cs h0 u)[piN.getD k 0]? = some ((adN h0 u) k, e)) k := fall F69 (⟨_, nwc_69 cs h0 u⟩)
    have F71 : ∀ k, k < 71 → (fun k => ∃ e, (wNew cs h0 u)[piN.getD k 0]? = some ((adN h0 u) k, e)) k := fall F70 (⟨_, nwc_70 cs h0 u⟩)
    have F72 : ∀ k, k < 72 → (fun k => ∃ e, (wNew cs h0 u)[piN.getD k 0]? = some ((adN h0 u) k, e)) k := fall F71 (⟨_, nwc_71 cs h0 u⟩)
    have F73 : ∀ k, k < 73 → (fun k => ∃ e, (wNew cs h0 u)[piN.getD k 0]? = some ((adN h0 u) k, e)) k := fall F72 (⟨_, nwc_72 cs h0 u⟩)
    have F74 : ∀ k, k < 74 → (fun k => ∃ e, (wNew cs h0 u)[piN.getD k 0]? = some ((adN h0 u) k, e)) k := fall F73 (⟨_, nwc_73 cs h0 u⟩)
    have F75 : ∀ k, k < 75 → (fun k => ∃ e, (wNew cs h0 u)[piN.getD k 0]? = some ((adN h0 u) k, e)) k := fall F74 (⟨_, nwc_74 cs h0 u⟩)
    have F76 : ∀ k, k < 76 → (fun k => ∃ e, (wNew cs h0 u)[piN.getD k 0]? = some ((adN h0 u) k, e)) k := fall F75 (⟨_, nwc_75 cs h0 u⟩)
    have F77 : ∀ k, k < 77 → (fun k => ∃ e, (wNew cs h0 u)[piN.getD k 0]? = some ((adN h0 u) k, e)) k := fall F76 (⟨_, nwc_76 cs h0 u⟩)
    have F78 : ∀ k, k < 78 → (fun k => ∃ e, (wNew cs h0 u)[piN.getD k 0]? = some ((adN h0 u) k, e)) k := fall F77 (⟨_, nwc_77 cs h0 u⟩)
    have F79 : ∀ k, k < 79 → (fun k => ∃ e, (wNew cs h0 u)[piN.getD k 0]? = some ((adN h0 u) k, e)) k := fall F78 (⟨_, nwc_78 cs h0 u⟩)
    have F80 : ∀ k, k < 80 → (fun k => ∃ e, (wNew cs h0 u)[piN.getD k 0]? = some ((adN h0 u) k, e)) k := fall F79 (⟨_, nwc_79 cs h0 u⟩)
    have F81 : ∀ k, k < 81 → (fun k => ∃ e, (wNew cs h0 u)[piN.getD k 0]? = some ((adN h0 u) k, e)) k := fall F80 (⟨_, nwc_80 cs h0 u⟩)
    have F82 : ∀ k, k < 82 → (fun k => ∃ e, (wNew cs h0 u)[piN.getD k 0]? = some ((adN h0 u) k, e)) k := fall F81 (⟨_, nwc_81 cs h0 u⟩)
    have F83 : ∀ k, k < 83 → (fun k => ∃ e, (wNew cs h0 u)[piN.getD k 0]? = some ((adN h0 u) k, e)) k := fall F82 (⟨_, nwc_82 cs h0 u⟩)
    have F84 : ∀ k, k < 84 → (fun k => ∃ e, (wNew cs h0 u)[piN.getD k 0]? = some ((adN h0 u) k, e)) k := fall F83 (⟨_, nwc_83 cs h0 u⟩)
    have F85 : ∀ k, k < 85 → (fun k => ∃ e, (wNew cs h0 u)[piN.getD k 0]? = some ((adN h0 u) k, e)) k := fall F84 (⟨_, nwc_84 cs h0 u⟩)
    have F86 : ∀ k, k < 86 → (fun k => ∃ e, (wNew cs h0 u)[piN.getD k 0]? = some ((adN h0 u) k, e)) k := fall F85 (⟨_, nwc_85 cs h0 u⟩)
    have F87 : ∀ k, k < 87 → (fun k => ∃ e, (wNew cs h0 u)[piN.getD k 0]? = some ((adN h0 u) k, e)) k := fall F86 (⟨_, nwc_86 cs h0 u⟩)
    have F88 : ∀ k, k < 88 → (fun k => ∃ e, (wNew cs h0 u)[piN.getD k 0]? = some ((adN h0 u) k, e)) k := fall F87 (⟨_, nwc_87 cs h0 u⟩)
    have F89 : ∀ k, k < 89 → (fun k => ∃ e, (wNew cs h0 u)[piN.getD k 0]? = some ((adN h0 u) k, e)) k := fall F88 (⟨_, nwc_88 cs h0 u⟩)
    have F90 : ∀ k, k < 90 → (fun k => ∃ e, (wNew cs h0 u)[piN.getD k 0]? = some ((adN h0 u) k, e)) k := fall F89 (⟨_, nwc_89 cs h0 u⟩)
    have F91 : ∀ k, k < 91 → (fun k => ∃ e, (wNew cs h0 u)[piN.getD k 0]? = some ((adN h0 u) k, e)) k := fall F90 (⟨_, nwc_90 cs h0 u⟩)
    exact F91
  refine ⟨fun i j x y hx hy hxy => ?_, fun k q hk => ?_⟩
  · obtain ⟨h1, rfl⟩ := wd_some hx
    obtain ⟨h2, rfl⟩ := wd_some hy
    obtain ⟨e1, g1⟩ := key i h1
    obtain ⟨e2, g2⟩ := key j h2
    exact piN_inj i h1 j h2 (hD.1 _ _ _ _ g1 g2 hxy)
  · obtain ⟨h1, rfl⟩ := wd_some hk
    obtain ⟨e1, g1⟩ := key k h1
    exact hD.2 _ (_, e1) g1
def wMod (cs : Nat → ClassId) (h0 : Nat) (u : Nat → Nat) : va_W := [(h0, .inr (10, [.ref (u 1), .ref (u 2), .int 0, .ref (u 3), .ref (u 4), .ref (u 5), .int 0, .ref (u 6), .ref (u 7), .int 0, .ref (u 8), .int 0, .ref (u 9), .int 0, .int 0, .int 0, .int 0, .int 0, .int 0, .int 0, .ref (u 10), .ref (u 11), .ref (u 12), .int 0, .ref (u 13), .ref (u 14), .ref (u 15), .ref (u 16), .ref (u 17), .ref (u 18), .ref (u 19), .ref (u 20), .int 0, .ref (u 21), .ref (u 22), .ref (u 23), .ref (u 24), .ref (u 25), .ref (u 26), .ref (u 27), .ref (u 28), .int 0])), (u 1, .inl (cs 1, 2, .inl (fun _ => 0))), (u 2, .inl (cs 1, 62, .inl (fun _ => 0))), (u 3, .inl (cs 1, 9, .inl (fun _ => 0))), (u 4, .inl (cs 1, 9, .inl (fun _ => 0))), (u 5, .inl (cs 1, 9, .inl (fun _ => 0))), (u 6, .inl (cs 1, 20, .inl (fun _ => 0))), (u 7, .inl (cs 1, 4, .inl (upd (upd (upd (upd (fun _ => 0) 0 5) 1 3) 2 4) 3 9))), (u 8, .inl (cs 1, 6, .inl (fun _ => 0))), (u 9, .inl (cs 1, 20, .inl (fun _ => 0))), (u 10, .inl (cs 1, 8, .inl (fun _ => 0))), (u 11, .inl (cs 1, 8, .inl (fun _ => 0))), (u 12, .inl (cs 1, 8, .inl (fun _ => 0))), (u 13, .inl (cs 1, 20, .inl (fun _ => 0))), (u 14, .inl (cs 1, 20, .inl (fun _ => 0))), (u 15, .inl (cs 1, 20, .inl (fun _ => 0))), (u 16, .inl (cs 1, 20, .inl (fun _ => 0))), (u 17, .inl (cs 1, 168, .inl (fun _ => 0))), (u 18, .inl (cs 1, 168, .inl (fun _ => 0))), (u 19, .inl (cs 1, 168, .inl (fun _ => 0))), (u 20, .inl (cs 1, 8, .inl (fun _ => 0))), (u 21, .inl (cs 1, 8, .inl (fun _ => 0))), (u 22, .inl (cs 1, 8, .inl (fun _ => 0))), (u 23, .inl (cs 1, 200, .inl (fun _ => 0))), (u 24, .inl (cs 2, 4, .inl (fun _ => 0))), (u 25, .inl (cs 1, 4, .inl (fun _ => 0))), (u 26, .inl (cs 1, 4, .inl (fun _ => 0))), (u 27, .inl (cs 1, 240, .inl (fun _ => 0))), (u 28, .inl (cs 1, 60, .inl (fun _ => 0)))]
def adM (h0 : Nat) (u : Nat → Nat) (k : Nat) : Nat := match k with
  | 0 => h0
  | j + 1 => u (j + 1)
def M0R : Mem := fun _ f => match f with
  | 8 => upd (upd (upd (upd (fun _ => 0) 0 5) 1 3) 2 4) 3 9
  | _ => fun _ => 0
theorem nwm_0 (cs : Nat → ClassId) (h0 : Nat) (u : Nat → Nat) : (wMod cs h0 u)[0]? = some (adM h0 u 0, ent (adM h0 u) cs GM M0R 0 (0, 0, 10, 0)) := rfl
theorem nwm_1 (cs : Nat → ClassId) (h0 : Nat) (u : Nat → Nat) : (wMod cs h0 u)[1]? = some (adM h0 u 1, ent (adM h0 u) cs GM M0R 1 (0, 1, 0, 2)) := rfl
theorem nwm_2 (cs : Nat → ClassId) (h0 : Nat) (u : Nat → Nat) : (wMod cs h0 u)[2]? = some (adM h0 u 2, ent (adM h0 u) cs GM M0R 2 (0, 1, 1, 62)) := rfl
theorem nwm_3 (cs : Nat → ClassId) (h0 : Nat) (u : Nat → Nat) : (wMod cs h0 u)[3]? = some (adM h0 u 3, ent (adM h0 u) cs GM M0R 3 (0, 1, 3, 9)) := rfl
theorem nwm_4 (cs : Nat → ClassId) (h0 : Nat) (u : Nat → Nat) : (wMod cs h0 u)[4]? = some (adM h0 u 4, ent (adM h0 u) cs GM M0R 4 (0, 1, 4, 9)) := rfl
theorem nwm_5 (cs : Nat → ClassId) (h0 : Nat) (u : Nat → Nat) : (wMod cs h0 u)[5]? = some (adM h0 u 5, ent (adM h0 u) cs GM M0R 5 (0, 1, 5, 9)) := rfl
theorem nwm_6 (cs : Nat → ClassId) (h0 : Nat) (u : Nat → Nat) : (wMod cs h0 u)[6]? = some (adM h0 u 6, ent (adM h0 u) cs GM M0R 6 (0, 1, 7, 20)) := rfl
theorem nwm_7 (cs : Nat → ClassId) (h0 : Nat) (u : Nat → Nat) : (wMod cs h0 u)[7]? = some (adM h0 u 7, ent (adM h0 u) cs GM M0R 7 (0, 1, 8, 4)) := rfl
theorem nwm_8 (cs : Nat → ClassId) (h0 : Nat) (u : Nat → Nat) : (wMod cs h0 u)[8]? = some (adM h0 u 8, ent (adM h0 u) cs GM M0R 8 (0, 1, 10, 6)) := rfl
theorem nwm_9 (cs : Nat → ClassId) (h0 : Nat) (u : Nat → Nat) : (wMod cs h0 u)[9]? = some (adM h0 u 9, ent (adM h0 u) cs GM M0R 9 (0, 1, 12, 20)) := rfl
theorem nwm_10 (cs : Nat → ClassId) (h0 : Nat) (u : Nat → Nat) : (wMod cs h0 u)[10]? = some (adM h0 u 10, ent (adM h0 u) cs GM M0R 10 (0, 1, 20, 8)) := rfl
theorem nwm_11 (cs : Nat → ClassId) (h0 : Nat) (u : Nat → Nat) : (wMod cs h0 u)[11]? = some (adM h0 u 11, ent (adM h0 u) cs GM M0R 11 (0, 1, 21, 8)) := rfl
theorem nwm_12 (cs : Nat → ClassId) (h0 : Nat) (u : Nat → Nat) : (wMod cs h0 u)[12]? = some (adM h0 u 12, ent (adM h0 u) cs GM M0R 12 (0, 1, 22, 8)) := rfl
theorem nwm_13 (cs : Nat → ClassId) (h0 : Nat) (u : Nat → Nat) : (wMod cs h0 u)[13]? = some (adM h0 u 13, ent (adM h0 u) cs GM M0R 13 (0, 1, 24, 20)) := rfl
theorem nwm_14 (cs : Nat → ClassId) (h0 : Nat) (u : Nat → Nat) : (wMod cs h0 u)[14]? = some (adM h0 u 14, ent (adM h0 u) cs GM M0R 14 (0, 1, 25, 20)) := rfl
theorem nwm_15 (cs : Nat → ClassId) (h0 : Nat) (u : Nat → Nat) : (wMod cs h0 u)[15]? = some (adM h0 u 15, ent (adM h0 u) cs GM M0R 15 (0, 1, 26, 20)) := rfl
theorem nwm_16 (cs : Nat → ClassId) (h0 : Nat) (u : Nat → Nat) : (wMod cs h0 u)[16]? = some (adM h0 u 16, ent (adM h0 u) cs GM M0R 16 (0, 1, 27, 20)) := rfl
theorem nwm_17 (cs : Nat → ClassId) (h0 : Nat) (u : Nat → Nat) : (wMod cs h0 u)[17]? = some (adM h0 u 17, ent (adM h0 u) cs GM M0R 17 (0, 1, 28, 168)) := rfl
theorem nwm_18 (cs : Nat → ClassId) (h0 : Nat) (u : Nat → Nat) : (wMod cs h0 u)[18]? = some (adM h0 u 18, ent (adM h0 u) cs GM M0R 18 (0, 1, 29, 168)) := rfl
theorem nwm_19 (cs : Nat → ClassId) (h0 : Nat) (u : Nat → Nat) : (wMod cs h0 u)[19]? = some (adM h0 u 19, ent (adM h0 u) cs GM M0R 19 (0, 1, 30, 168)) := rfl
theorem nwm_20 (cs : Nat → ClassId) (h0 : Nat) (u : Nat → Nat) : (wMod cs h0 u)[20]? = some (adM h0 u 20, ent (adM h0 u) cs GM M0R 20 (0, 1, 31, 8)) := rfl
theorem nwm_21 (cs : Nat → ClassId) (h0 : Nat) (u : Nat → Nat) : (wMod cs h0 u)[21]? = some (adM h0 u 21, ent (adM h0 u) cs GM M0R 21 (0, 1, 33, 8)) := rfl
theorem nwm_22 (cs : Nat → ClassId) (h0 : Nat) (u : Nat → Nat) : (wMod cs h0 u)[22]? = some (adM h0 u 22, ent (adM h0 u) cs GM M0R 22 (0, 1, 34, 8)) := rfl
theorem nwm_23 (cs : Nat → ClassId) (h0 : Nat) (u : Nat → Nat) : (wMod cs h0 u)[23]? = some (adM h0 u 23, ent (adM h0 u) cs GM M0R 23 (0, 1, 35, 200)) := rfl
theorem nwm_24 (cs : Nat → ClassId) (h0 : Nat) (u : Nat → Nat) : (wMod cs h0 u)[24]? = some (adM h0 u 24, ent (adM h0 u) cs GM M0R 24 (0, 2, 36, 4)) := rfl
theorem nwm_25 (cs : Nat → ClassId) (h0 : Nat) (u : Nat → Nat) : (wMod cs h0 u)[25]? = some (adM h0 u 25, ent (adM h0 u) cs GM M0R 25 (0, 1, 37, 4)) := rfl
theorem nwm_26 (cs : Nat → ClassId) (h0 : Nat) (u : Nat → Nat) : (wMod cs h0 u)[26]? = some (adM h0 u 26, ent (adM h0 u) cs GM M0R 26 (0, 1, 38, 4)) := rfl
theorem nwm_27 (cs : Nat → ClassId) (h0 : Nat) (u : Nat → Nat) : (wMod cs h0 u)[27]? = some (adM h0 u 27, ent (adM h0 u) cs GM M0R 27 (0, 1, 39, 240)) := rfl
theorem nwm_28 (cs : Nat → ClassId) (h0 : Nat) (u : Nat → Nat) : (wMod cs h0 u)[28]? = some (adM h0 u 28, ent (adM h0 u) cs GM M0R 28 (0, 1, 40, 60)) := rfl
def atM (D : va_G) (cs : Nat → ClassId) (h0 : Nat) (u : Nat → Nat) (H : Heap) (k : Nat) : Prop := va_at D vwCl ((adM h0 u) k, ent (adM h0 u) cs GM M0R k (GM.getD k (0, 0, 0, 0))) H
set_option maxHeartbeats 4000000 in
theorem P_newM {D : va_G} {cs : Nat → ClassId} {h0 : Nat} {u : Nat → Nat} {H : Heap} (hP : va_P D vwCl (wMod cs h0 u) H) : va_P D vwCl (wd (adM h0 u) cs GM M0R) H := by
  have F0 : ∀ k, k < 0 → atM D cs h0 u H k := fun k h => absurd h (Nat.not_lt_zero k)
  have F1 : ∀ k, k < 1 → atM D cs h0 u H k := fall F0 (hP 0 _ (nwm_0 cs h0 u))
  have F2 : ∀ k, k < 2 → atM D cs h0 u H k := fall F1 (hP 1 _ (nwm_1 cs h0 u))
  have F3 : ∀ k, k < 3 → atM D cs h0 u H k := fall F2 (hP 2 _ (nwm_2 cs h0 u))
  have F4 : ∀ k, k < 4 → atM D cs h0 u H k := fall F3 (hP 3 _ (nwm_3 cs h0 u))
  have F5 : ∀ k, k < 5 → atM D cs h0 u H k := fall F4 (hP 4 _ (nwm_4 cs h0 u))
  have F6 : ∀ k, k < 6 → atM D cs h0 u H k := fall F5 (hP 5 _ (nwm_5 cs h0 u))
  have F7 : ∀ k, k < 7 → atM D cs h0 u H k := fall F6 (hP 6 _ (nwm_6 cs h0 u))
  have F8 : ∀ k, k < 8 → atM D cs h0 u H k := fall F7 (hP 7 _ (nwm_7 cs h0 u))
  have F9 : ∀ k, k < 9 → atM D cs h0 u H k := fall F8 (hP 8 _ (nwm_8 cs h0 u))
  have F10 : ∀ k, k < 10 → atM D cs h0 u H k := fall F9 (hP 9 _ (nwm_9 cs h0 u))
  have F11 : ∀ k, k < 11 → atM D cs h0 u H k := fall F10 (hP 10 _ (nwm_10 cs h0 u))
  have F12 : ∀ k, k < 12 → atM D cs h0 u H k := fall F11 (hP 11 _ (nwm_11 cs h0 u))
  have F13 : ∀ k, k < 13 → atM D cs h0 u H k := fall F12 (hP 12 _ (nwm_12 cs h0 u))
  have F14 : ∀ k, k < 14 → atM D cs h0 u H k := fall F13 (hP 13 _ (nwm_13 cs h0 u))
  have F15 : ∀ k, k < 15 → atM D cs h0 u H k := fall F14 (hP 14 _ (nwm_14 cs h0 u))
  have F16 : ∀ k, k < 16 → atM D cs h0 u H k := fall F15 (hP 15 _ (nwm_15 cs h0 u))
  have F17 : ∀ k, k < 17 → atM D cs h0 u H k := fall F16 (hP 16 _ (nwm_16 cs h0 u))
  have F18 : ∀ k, k < 18 → atM D cs h0 u H k := fall F17 (hP 17 _ (nwm_17 cs h0 u))
  have F19 : ∀ k, k < 19 → atM D cs h0 u H k := fall F18 (hP 18 _ (nwm_18 cs h0 u))
  have F20 : ∀ k, k < 20 → atM D cs h0 u H k := fall F19 (hP 19 _ (nwm_19 cs h0 u))
  have F21 : ∀ k, k < 21 → atM D cs h0 u H k := fall F20 (hP 20 _ (nwm_20 cs h0 u))
  have F22 : ∀ k, k < 22 → atM D cs h0 u H k := fall F21 (hP 21 _ (nwm_21 cs h0 u))
  have F23 : ∀ k, k < 23 → atM D cs h0 u H k := fall F22 (hP 22 _ (nwm_22 cs h0 u))
  have F24 : ∀ k, k < 24 → atM D cs h0 u H k := fall F23 (hP 23 _ (nwm_23 cs h0 u))
  have F25 : ∀ k, k < 25 → atM D cs h0 u H k := fall F24 (hP 24 _ (nwm_24 cs h0 u))
  have F26 : ∀ k, k < 26 → atM D cs h0 u H k := fall F25 (hP 25 _ (nwm_25 cs h0 u))
  have F27 : ∀ k, k < 27 → atM D cs h0 u H k := fall F26 (hP 26 _ (nwm_26 cs h0 u))
  have F28 : ∀ k, k < 28 → atM D cs h0 u H k := fall F27 (hP 27 _ (nwm_27 cs h0 u))
  have F29 : ∀ k, k < 29 → atM D cs h0 u H k := fall F28 (hP 28 _ (nwm_28 cs h0 u))
  intro k q hk
  obtain ⟨h1, rfl⟩ := wd_some hk
  have := F29 k h1
  unfold atM at this
  rw [List.getD_eq_getElem?_getD, List.getElem?_eq_getElem h1] at this
  exact this
theorem D_newM {A : Nat → Prop} {cs : Nat → ClassId} {h0 : Nat} {u : Nat → Nat} (hD : va_D A (wMod cs h0 u)) : va_D A (wd (adM h0 u) cs GM M0R) := by
  have key : ∀ k, k < 29 → ∃ e, (wMod cs h0 u)[k]? = some ((adM h0 u) k, e) := by
    have F0 : ∀ k, k < 0 → (fun k => ∃ e, (wMod cs h0 u)[k]? = some ((adM h0 u) k, e)) k := fun k h => absurd h (Nat.not_lt_zero k)
    have F1 : ∀ k, k < 1 → (fun k => ∃ e, (wMod cs h0 u)[k]? = some ((adM h0 u) k, e)) k := fall F0 (⟨_, nwm_0 cs h0 u⟩)
    have F2 : ∀ k, k < 2 → (fun k => ∃ e, (wMod cs h0 u)[k]? = some ((adM h0 u) k, e)) k := fall F1 (⟨_, nwm_1 cs h0 u⟩)
    have F3 : ∀ k, k < 3 → (fun k => ∃ e, (wMod cs h0 u)[k]? = some ((adM h0 u) k, e)) k := fall F2 (⟨_, nwm_2 cs h0 u⟩)
    have F4 : ∀ k, k < 4 → (fun k => ∃ e, (wMod cs h0 u)[k]? = some ((adM h0 u) k, e)) k := fall F3 (⟨_, nwm_3 cs h0 u⟩)
    have F5 : ∀ k, k < 5 → (fun k => ∃ e, (wMod cs h0 u)[k]? = some ((adM h0 u) k, e)) k := fall F4 (⟨_, nwm_4 cs h0 u⟩)
    have F6 : ∀ k, k < 6 → (fun k => ∃ e, (wMod cs h0 u)[k]? = some ((adM h0 u) k, e)) k := fall F5 (⟨_, nwm_5 cs h0 u⟩)
    have F7 : ∀ k, k < 7 → (fun k => ∃ e, (wMod cs h0 u)[k]? = some ((adM h0 u) k, e)) k := fall F6 (⟨_, nwm_6 cs h0 u⟩)
    have F8 : ∀ k, k < 8 → (fun k => ∃ e, (wMod cs h0 u)[k]? = some ((adM h0 u) k, e)) k := fall F7 (⟨_, nwm_7 cs h0 u⟩)
    have F9 : ∀ k, k < 9 → (fun k => ∃ e, (wMod cs h0 u)[k]? = some ((adM h0 u) k, e)) k := fall F8 (⟨_, nwm_8 cs h0 u⟩)
    have F10 : ∀ k, k < 10 → (fun k => ∃ e, (wMod cs h0 u)[k]? = some ((adM h0 u) k, e)) k := fall F9 (⟨_, nwm_9 cs h0 u⟩)
    have F11 : ∀ k, k < 11 → (fun k => ∃ e, (wMod cs h0 u)[k]? = some ((adM h0 u) k, e)) k := fall F10 (⟨_, nwm_10 cs h0 u⟩)
    have F12 : ∀ k, k < 12 → (fun k => ∃ e, (wMod cs h0 u)[k]? = some ((adM h0 u) k, e)) k := fall F11 (⟨_, nwm_11 cs h0 u⟩)
    have F13 : ∀ k, k < 13 → (fun k => ∃ e, (wMod cs h0 u)[k]? = some ((adM h0 u) k, e)) k := fall F12 (⟨_, nwm_12 cs h0 u⟩)
    have F14 : ∀ k, k < 14 → (fun k => ∃ e, (wMod cs h0 u)[k]? = some ((adM h0 u) k, e)) k := fall F13 (⟨_, nwm_13 cs h0 u⟩)
    have F15 : ∀ k, k < 15 → (fun k => ∃ e, (wMod cs h0 u)[k]? = some ((adM h0 u) k, e)) k := fall F14 (⟨_, nwm_14 cs h0 u⟩)
    have F16 : ∀ k, k < 16 → (fun k => ∃ e, (wMod cs h0 u)[k]? = some ((adM h0 u) k, e)) k := fall F15 (⟨_, nwm_15 cs h0 u⟩)
    have F17 : ∀ k, k < 17 → (fun k => ∃ e, (wMod cs h0 u)[k]? = some ((adM h0 u) k, e)) k := fall F16 (⟨_, nwm_16 cs h0 u⟩)
    have F18 : ∀ k, k < 18 → (fun k => ∃ e, (wMod cs h0 u)[k]? = some ((adM h0 u) k, e)) k := fall F17 (⟨_, nwm_17 cs h0 u⟩)
    have F19 : ∀ k, k < 19 → (fun k => ∃ e, (wMod cs h0 u)[k]? = some ((adM h0 u) k, e)) k := fall F18 (⟨_, nwm_18 cs h0 u⟩)
    have F20 : ∀ k, k < 20 → (fun k => ∃ e, (wMod cs h0 u)[k]? = some ((adM h0 u) k, e)) k := fall F19 (⟨_, nwm_19 cs h0 u⟩)
    have F21 : ∀ k, k < 21 → (fun k => ∃ e, (wMod cs h0 u)[k]? = some ((adM h0 u) k, e)) k := fall F20 (⟨_, nwm_20 cs h0 u⟩)
    have F22 : ∀ k, k < 22 → (fun k => ∃ e, (wMod cs h0 u)[k]? = some ((adM h0 u) k, e)) k := fall F21 (⟨_, nwm_21 cs h0 u⟩)
    have F23 : ∀ k, k < 23 → (fun k => ∃ e, (wMod cs h0 u)[k]? = some ((adM h0 u) k, e)) k := fall F22 (⟨_, nwm_22 cs h0 u⟩)
    have F24 : ∀ k, k < 24 → (fun k => ∃ e, (wMod cs h0 u)[k]? = some ((adM h0 u) k, e)) k := fall F23 (⟨_, nwm_23 cs h0 u⟩)
    have F25 : ∀ k, k < 25 → (fun k => ∃ e, (wMod cs h0 u)[k]? = some ((adM h0 u) k, e)) k := fall F24 (⟨_, nwm_24 cs h0 u⟩)
    have F26 : ∀ k, k < 26 → (fun k => ∃ e, (wMod cs h0 u)[k]? = some ((adM h0 u) k, e)) k := fall F25 (⟨_, nwm_25 cs h0 u⟩)
    have F27 : ∀ k, k < 27 → (fun k => ∃ e, (wMod cs h0 u)[k]? = some ((adM h0 u) k, e)) k := fall F26 (⟨_, nwm_26 cs h0 u⟩)
    have F28 : ∀ k, k < 28 → (fun k => ∃ e, (wMod cs h0 u)[k]? = some ((adM h0 u) k, e)) k := fall F27 (⟨_, nwm_27 cs h0 u⟩)
    have F29 : ∀ k, k < 29 → (fun k => ∃ e, (wMod cs h0 u)[k]? = some ((adM h0 u) k, e)) k := fall F28 (⟨_, nwm_28 cs h0 u⟩)
    exact F29
  refine ⟨fun i j x y hx hy hxy => ?_, fun k q hk => ?_⟩
  · obtain ⟨h1, rfl⟩ := wd_some hx
    obtain ⟨h2, rfl⟩ := wd_some hy
    obtain ⟨e1, g1⟩ := key i h1
    obtain ⟨e2, g2⟩ := key j h2
    exact hD.1 _ _ _ _ g1 g2 hxy
  · obtain ⟨h1, rfl⟩ := wd_some hk
    obtain ⟨e1, g1⟩ := key k h1
    exact hD.2 _ (_, e1) g1
theorem C0ok_M : C0ok M0C := by
  refine ⟨rfl, rfl, rfl, rfl, fun s hs => ?_, rfl, fun i hi => ?_, rfl, rfl, rfl, rfl, rfl, rfl, rfl, rfl, rfl, rfl, rfl⟩
  · match s, hs with
    | 0, _ => exact ⟨rfl, rfl, rfl, fun i _ => rfl⟩
    | 1, _ => exact ⟨rfl, rfl, rfl, fun i _ => rfl⟩
    | 2, _ => exact ⟨rfl, rfl, rfl, fun i _ => rfl⟩
    | 3, _ => exact ⟨rfl, rfl, rfl, fun i _ => rfl⟩
  · match i, hi with
    | 0, _ => rfl
    | 1, _ => rfl
    | 2, _ => rfl
    | 3, _ => rfl
theorem R0ok_M : R0ok M0R := by
  refine ⟨rfl, rfl, fun i hi => ?_, rfl, rfl, fun s hs => ⟨rfl, rfl, rfl, fun i _ => rfl⟩, rfl⟩
  match i, hi with
  | 0, _ => rfl
  | 1, _ => rfl
  | 2, _ => rfl
  | 3, _ => rfl
theorem Rel_new : Rel M0C M0R := Rel_0 C0ok_M R0ok_M
