/-! ===== the law's calls: one world of the class, one of the reference ===== -/
theorem Zs.narrow {A B : Nat → Prop} {U : State} {H : Heap} (h : Zs A U H) (hAB : ∀ q, B q → A q) : Zs B U H := by
  obtain ⟨t, h1, h2⟩ := h
  exact ⟨t, h1.narrow hAB, h2.narrow hAB⟩
def Lf (D : va_G) (cs : Nat → ClassId) (A1 A2 : Nat → Prop) (s : State) : Prop := va_K D vwCl (tyU cs) s ∧ Zs (fun q : Nat => s.heap.size ≤ q) s s.heap ∧ (∀ q, A1 q → s.heap.size ≤ q) ∧ (∀ q, A2 q → s.heap.size ≤ q) ∧ ∀ q, A1 q → ¬ A2 q
def Lw (D : va_G) (cs : Nat → ClassId) (ad ad' : Nat → Nat) (A1 A2 : Nat → Prop) (s : State) (H : Heap) (C R : Mem) : Prop := va_P D vwCl (wd ad cs GC C) H ∧ va_D A1 (wd ad cs GC C) ∧ va_P D vwCl (wd ad' cs GM R) H ∧ va_D A2 (wd ad' cs GM R) ∧ va_S (fun q : Nat => s.heap.size ≤ q) s.heap H []
theorem lg_cmp_self (r : Int64) : lg_cmp r r = 0 := by
  unfold lg_cmp
  rw [if_neg (fun h => absurd h (fun h => Int64.lt_irrefl h)), if_pos rfl]
section LawCalls
variable {p : Program} {l : Launch} {e : Env} {R : Room} {s : State} {m : MethodId} {args : Array Value} {below : List Frame} {meth : Method} {c : Code} {H : Heap} {cells slots : Nat} {Q : State → Prop}
variable {cc : ByteArray} {nL pc : Nat} {ls : Array Slot} {rest st : List Value} {D : va_G} {ad ad' : Nat → Nat} {cs : Nat → ClassId} {G : List Ge} {A1 A2 : Nat → Prop} {M : Mem} {own : String}
theorem lx_run (F : CallFix p m c cc nL s args TS own) (hK : va_K D vwCl (tyU cs) s) (hZ : Zs (fun q : Nat => s.heap.size ≤ q) s s.heap) (hA1 : ∀ q, A1 q → s.heap.size ≤ q) (hP : va_P D vwCl (wd ad cs G M) H) (hD : va_D A1 (wd ad cs G M)) (hS : va_S (fun q : Nat => s.heap.size ≤ q) s.heap H []) (hcs : cells ≤ R.cells ∧ slots ≤ R.slots)
    {y : MethodName} {b : ByteArray} {maxL n idx : Nat} {ret : Option FieldType} {fr lo k o ci : Nat} {As : List Value} {Qc : Array Value → State → Outcome → State → Prop} {C : String} {T : u_T} {N : Nat}
    (hM : Met l y (wsU y b maxL ret) (rmo fr lo) (va_Pc (.ref (ad k) :: As) (Wd0 D ad cs G A1 M)) Qc 0 0 A1) (hG : GoodIn TS (wsV own idx C y (wsU y b maxL ret))) (hd : y.cls = C ∧ y.cls ≠ "java/lang/invoke/MethodHandle" ∧ y.cls ≠ "java/lang/invoke/VarHandle" ∧ (parseMethodDescriptor y.desc).map (fun d => d.parameters.length) = some n) (hR : fr + 1 ≤ R.frames ∧ 8 + (maxL + 11) + lo ≤ R.locals)
    (hk : G[k]? = some (o, 0, ci, 0)) (hc : vwCl[ci]? = some (C, T, N)) (hn : As.length = n) (hls : ls.size = nL) (hst : st = As.reverse ++ .ref (ad k) :: rest) (hw : (rest.map fun v => v.category).sum ≤ 8) (hdg : decode cc pc = .ok (.invokevirtual idx, 3)) :
    va_Run p l e R s m args below meth c H [] cells slots 0 0 (F0 m pc ls st) rest (Qc (Value.ref (ad k) :: As).toArray) A1 := by
  have F' := F
  obtain ⟨hx, hb, hml, hown, hts⟩ := F
  refine va_runV F' hM (cwV n hts hG rfl rfl rfl hd hR) ⟨Wd0.blind, va_recv hK hP hc (by rw [wd_at hk, ent_o]), fun U hU hW => ⟨rfl, by rw [hU]; exact hP, va_K.moved hW.alike hK, hD, ?_⟩⟩ rfl hn hls hst (lv_room hw) hdg hcs
  rw [hU]
  exact ((hZ.kept hS.2.1).narrow hA1).moved hW.alike
theorem lx_keep {H1 : Heap} (hk : ∀ q : Nat, q < H.size → ¬ A1 q → H1[q]? = H[q]?) {w : va_W} (hw : ∀ (k : Nat) (q : Nat × va_E), w[k]? = some q → ¬ A1 q.1) (hP : va_P D vwCl w H) : va_P D vwCl w H1 := fun k q hq => (hP k q hq).kept (hk q.1 (hP k q hq).lt (hw k q hq))
theorem lx_i {z : Int32 × Mem} {a : Array Value} (hA1 : ∀ q, A1 q → s.heap.size ≤ q) (hS : va_S (fun q : Nat => s.heap.size ≤ q) s.heap H []) (hr : va_Run p l e R s m args below meth c H [] cells slots 0 0 (F0 m pc ls st) rest (va_Qi (fun r u => (r, u) = z) (Wd0 D ad cs G A1) A1 a) A1)
    (kk : ∀ H1 : Heap, va_P D vwCl (wd ad cs G z.2) H1 → va_D A1 (wd ad cs G z.2) → (∀ q : Nat, q < H.size → ¬ A1 q → H1[q]? = H[q]?) → va_S (fun q : Nat => s.heap.size ≤ q) s.heap H1 [] → W p l e R s m args below meth c H1 [] cells slots Q (F0 m (pc + 3) ls (.int z.1 :: rest))) : W p l e R s m args below meth c H [] cells slots Q (F0 m pc ls st) := by
  refine va_calli hr hS (fun q _ h => hA1 q h) (fun q h => hA1 q h) (fun r u t H1 locs1 ht hvm hw hB _ hk hS1 => ?_)
  subst hw
  obtain ⟨hP1, hK1, hD1, -⟩ := hB
  rw [ht] at hP1
  refine va_forget (fun q hq => hS1.2.2 q hq) ?_
  exact kk H1 hP1 hD1 hk ⟨hS1.1, hS1.2.1, fun _ h => by cases h⟩
theorem lx_l {z : Int64 × Mem} {a : Array Value} (hA1 : ∀ q, A1 q → s.heap.size ≤ q) (hS : va_S (fun q : Nat => s.heap.size ≤ q) s.heap H []) (hr : va_Run p l e R s m args below meth c H [] cells slots 0 0 (F0 m pc ls st) rest (va_Ql (fun r u => (r, u) = z) (Wd0 D ad cs G A1) A1 a) A1)
    (kk : ∀ H1 : Heap, va_P D vwCl (wd ad cs G z.2) H1 → va_D A1 (wd ad cs G z.2) → (∀ q : Nat, q < H.size → ¬ A1 q → H1[q]? = H[q]?) → va_S (fun q : Nat => s.heap.size ≤ q) s.heap H1 [] → W p l e R s m args below meth c H1 [] cells slots Q (F0 m (pc + 3) ls (.long z.1 :: rest))) : W p l e R s m args below meth c H [] cells slots Q (F0 m pc ls st) := by
  refine va_calll hr hS (fun q _ h => hA1 q h) (fun q h => hA1 q h) (fun r u t H1 locs1 ht hvm hw hB _ hk hS1 => ?_)
  subst hw
  obtain ⟨hP1, hK1, hD1, -⟩ := hB
  rw [ht] at hP1
  refine va_forget (fun q hq => hS1.2.2 q hq) ?_
  exact kk H1 hP1 hD1 hk ⟨hS1.1, hS1.2.1, fun _ h => by cases h⟩
end LawCalls
theorem kGC : GC[cO GC 0]? = some (0, 0, 9, 0) := by decide +kernel
theorem kGM : GM[cO GM 0]? = some (0, 0, 10, 0) := by decide +kernel
