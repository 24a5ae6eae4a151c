/-! the model's instructions, but for the file calls -/
theorem sSet_of {X : AI} {d : Nat} {w : Int32} (hd : d < 4) : sSet (Int32.ofNat d) w X = up2 X 2 d w := by
  unfold sSet
  rw [if_neg (of_nn (by omega)), if_neg (show ¬ (4 : Int32) ≤ Int32.ofNat d from fun hh => absurd ((of_le (m := 4) (by decide) (by omega)).mp hh) (by omega)), nT_of (by omega)]
theorem sReg_of {X : AI} {d : Nat} (hd : d < 4) : sReg X (Int32.ofNat d) = X 2 d := by
  unfold sReg
  rw [if_neg (of_nn (by omega)), if_neg (show ¬ (4 : Int32) ≤ Int32.ofNat d from fun hh => absurd ((of_le (m := 4) (by decide) (by omega)).mp hh) (by omega)), nT_of (by omega)]
theorem sNote_up {i v z : Int32} {X : AI} {c k : Nat} (hc : c < 20) : sNote i v (up2 X c k z) = up2 (sNote i v X) c k z := by
  unfold sNote
  rw [show up2 X c k z 20 = X 20 from up2_b (by omega)]
  split
  · rfl
  · split
    · rfl
    · rw [up2_comm (c := c) (k := k) (fun h => absurd h.1 (by omega)), up2_comm (c := c) (k := k) (fun h => absurd h.1 (by omega)), up2_comm (c := c) (k := k) (fun h => absurd h.1 (by omega))]
theorem sWr_up {i v z : Int32} {X : AI} {c k : Nat} (hc : c < 20) (h6 : ¬ c = 6) : sWr i v (up2 X c k z) = up2 (sWr i v X) c k z := by
  unfold sWr
  rw [show up2 X c k z 6 = X 6 from up2_b (by omega)]
  split
  · rfl
  · split
    · rfl
    · rw [sNote_up hc, up2_comm (fun h => h6 h.1)]
section M2
variable {kad : Nat → Nat} {N : Nat} {Z : AZ} {e m s : Nat} {I0 I X : AI}
end M2
