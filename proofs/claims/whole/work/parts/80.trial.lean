/-! ===== a new Trial ===== -/
def w0X2 (h : Nat) : Nat × va_E := (h, .inr (2, [.null, .null, .null, .null, .null, .int 0, .int 0, .int 0, .int 0]))
def nwT (U : State) : Prop := va_Nw (.methodLinkNest "DonkeyExecutor$Trial" 11 ⟨"DonkeyExecutor$Given", "<init>", "()V"⟩ "DonkeyExecutor") U ∧ va_Nw (.methodLinkNest "DonkeyExecutor$Trial" 20 ⟨"DonkeyExecutor$Walk", "<init>", "()V"⟩ "DonkeyExecutor") U
theorem nwT.warm {s U : State} (hW : s.WarmedH U.vm) (h : nwT s) : nwT U := ⟨va_Nw.warmM hW h.1, va_Nw.warmM hW h.2⟩
