/-! whether a disk is whole: the model -/
section IM
variable {kad : Nat → Nat} {N : Nat} {Z : AZ} {m g : Nat} {I : AI} {X : AI} {D : Nat → Int32} {S : Nat → Bool} {v : Int32}
theorem s255_b : ∀ b : Fin 32, dB 255 b.1 = decide (b.1 < 8) := by decide +kernel
theorem mS_255 : mS 255 S255 := fun b hb => s255_b ⟨b, hb⟩
theorem mS.orb {b : Nat} (h : mS v S) (hb : b < 32) : mS (v ||| ((1 : Int32) <<< (Int32.ofNat b &&& 31))) (sA S b) := by
  intro k hk
  have e := one_b ⟨b, hb⟩ ⟨k, hk⟩
  dsimp only at e
  rw [dB_or, h k hk, e]
  rfl
theorem m65535 : ∀ k : Fin 32, dB 65535 k.1 = decide (k.1 < 16) := by decide +kernel
theorem ushr_b (v : Int32) (k : Nat) : dB ((v.toUInt32 >>> ((16 : Int32).toUInt32 &&& Int32.toUInt32 31)).toInt32) k = dB v (16 + k) := by
  have e : ((v.toUInt32 >>> ((16 : Int32).toUInt32 &&& Int32.toUInt32 31)).toInt32).toBitVec = v.toBitVec >>> (16 : Nat) := by
    show (v.toUInt32 >>> ((16 : Int32).toUInt32 &&& Int32.toUInt32 31)).toBitVec = _
    rw [UInt32.toBitVec_shiftRight, show ((16 : Int32).toUInt32 &&& Int32.toUInt32 31).toBitVec % 32 = 16#32 by decide, BitVec.ushiftRight_eq']
    rfl
  unfold dB
  rw [e, BitVec.getLsbD_ushiftRight]
theorem map_m (h0 : wd (D 32)) (h1 : wd (D 33)) (hv : mS v S) : wAll D S ↔ (D 32 = (v &&& 65535) ∧ D 33 = ((v.toUInt32 >>> ((16 : Int32).toUInt32 &&& Int32.toUInt32 31)).toInt32)) := by
  constructor
  · intro h
    constructor
    · apply dB_ext
      intro k hk
      have e := m65535 ⟨k, hk⟩
      dsimp only at e
      rw [dB_and, e]
      by_cases hk2 : k < 16
      · rw [decide_eq_true hk2, Bool.and_true, hv k hk, h k hk, uB_16 k hk, if_pos hk2]
      · rw [decide_eq_false hk2, Bool.and_false, wd_hi h0 (by omega)]
    · apply dB_ext
      intro k hk
      rw [ushr_b]
      by_cases hk2 : k < 16
      · rw [hv (16 + k) (by omega), h (16 + k) (by omega), uB_16 (16 + k) (by omega), if_neg (by omega), show 16 + k - 16 = k by omega]
      · rw [wd_hi h1 (by omega)]
        unfold dB
        rw [BitVec.getLsbD_of_ge _ _ (by omega)]
  · rintro ⟨e0, e1⟩ b hb
    rw [uB_16 b hb]
    by_cases hb2 : b < 16
    · have e := m65535 ⟨b, hb⟩
      dsimp only at e
      rw [if_pos hb2, e0, dB_and, e, decide_eq_true hb2, Bool.and_true, hv b hb]
    · rw [if_neg hb2, e1, ushr_b, show 16 + (b - 16) = b by omega, hv b hb]
/-- the disk's words, where nothing is committed -/
theorem FF.lw (h : FF X) : X 9 0 = 0 → LW (X 9) := by
  intro h0
  rcases h with h | ⟨n, dd, h⟩
  · exact h.2.2.1
  · obtain ⟨⟨⟨⟨w1, w2, w3⟩, -⟩, -⟩, -, -, -, h5, h6⟩ := h
    by_cases hd : dd ≤ n
    · exact (h5 hd).2.1
    · exact (h6 (by omega)).1
theorem K174 (hN : 2000 ≤ N) (H : RM (g + 114) I X) (hw : X 9 0 = 0 → LW (X 9)) : ∃ r : Int32, f174 kad N Z g I = some (r, I) ∧ (isWh (X 9) → r = 1) ∧ (¬ isWh (X 9) → r = 0) := by
  obtain ⟨r, r1, r2, r3⟩ := K58 (kad := kad) (Z := Z) (d := g + 122) (I := I) (D := X 9) hN (fun k hk => H 9 k (by decide) hk) hw
  have hr : r = 0 ∨ r = 1 := by
    by_cases h : isWh (X 9)
    · exact Or.inr (r2 h)
    · exact Or.inl (r3 h)
  refine ⟨r, ?_, r2, r3⟩
  unfold f174
  rw [r1, Option.bind_some, if_pos hr]
end IM
