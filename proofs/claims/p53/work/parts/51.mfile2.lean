/-! the model removes and renames; its results -/
section MG
variable {kad : Nat → Nat} {N : Nat} {Z : AZ} {m : Nat} {I J J0 : AI} {D W : Nat → Int32}
theorem mS.zero : mS 0 sN := fun b hb => by
  have e : ∀ k : Fin 32, dB 0 k.1 = false := by decide +kernel
  exact e ⟨b, hb⟩
end MG
