/-! single bits -/
def dB (x : Int32) (k : Nat) : Bool := x.toBitVec.getLsbD k
theorem sh64 : ∀ b : Fin 32, ((((Int32.ofNat b.1).toInt64 &&& 63).toBitVec.smod 64).toNat = b.1) := by decide
theorem sh32 : ∀ b : Fin 32, ((Int32.ofNat b.1).toBitVec.smod 32).toNat = b.1 := by decide
theorem sh32a : ∀ b : Fin 32, ((Int32.ofNat b.1 &&& 31).toBitVec.smod 32).toNat = b.1 := by decide
theorem bv1 {w : Nat} (hw : 1 < w) (v : BitVec w) : (v &&& 1#w) = if v.getLsbD 0 = true then 1#w else 0#w := by
  apply BitVec.eq_of_getLsbD_eq
  intro i hi
  rw [BitVec.getLsbD_and]
  by_cases h : i = 0
  · subst h
    split
    · rename_i h1
      rw [h1]
      simp
    · rename_i h1
      simp only [Bool.not_eq_true] at h1
      rw [h1]
      simp
  · have e : (1#w).getLsbD i = false := by
      rw [BitVec.getLsbD_one]
      simp only [Bool.and_eq_false_iff, decide_eq_false_iff_not]
      exact Or.inr h
    rw [e, Bool.and_false]
    split
    · exact e.symm
    · simp
theorem bit64 (z : Int64) {b : Nat} (hb : b < 32) : ((z >>> ((Int32.ofNat b).toInt64 &&& 63)) &&& 1) = if z.toBitVec.getLsbD b = true then 1 else 0 := by
  apply Int64.toBitVec_inj.mp
  rw [Int64.toBitVec_and, Int64.toBitVec_shiftRight, BitVec.sshiftRight_eq', sh64 ⟨b, hb⟩]
  show _ &&& 1#64 = _
  rw [bv1 (by decide), BitVec.getLsbD_sshiftRight]
  simp only [Nat.add_zero]
  rw [if_pos (show b < 64 by omega)]
  simp only [show ¬ (64 : Nat) ≤ 0 from by decide, decide_false, Bool.not_false, Bool.true_and]
  split <;> rfl
theorem bit32 (z : Int32) {b : Nat} (hb : b < 32) : ((z >>> (Int32.ofNat b &&& 31)) &&& 1) = if dB z b = true then 1 else 0 := by
  apply Int32.toBitVec_inj.mp
  rw [Int32.toBitVec_and, Int32.toBitVec_shiftRight, BitVec.sshiftRight_eq', sh32a ⟨b, hb⟩]
  show _ &&& 1#32 = _
  rw [bv1 (by decide), BitVec.getLsbD_sshiftRight]
  simp only [Nat.add_zero]
  rw [if_pos (show b < 32 by omega)]
  simp only [show ¬ (32 : Nat) ≤ 0 from by decide, decide_false, Bool.not_false, Bool.true_and]
  unfold dB
  split <;> rfl
/-- the words 0 to 65535 -/
def wd (x : Int32) : Prop := 0 ≤ x ∧ x ≤ 65535
theorem wd_n {x : Int32} (h : wd x) : x.toBitVec.toNat = nT x ∧ nT x ≤ 65535 ∧ ((nT x : Nat) : Int) = x.toInt := by
  obtain ⟨h1, h2⟩ := h
  have h3 : (0 : Int32).toInt ≤ x.toInt := Int32.le_iff_toInt_le.mp h1
  have h4 : x.toInt ≤ (65535 : Int32).toInt := Int32.le_iff_toInt_le.mp h2
  have e0 : (0 : Int32).toInt = 0 := by decide
  have e1 : (65535 : Int32).toInt = 65535 := by decide
  have h5 : x.toBitVec.toInt = x.toInt := Int32.toInt_toBitVec x
  have h6 := BitVec.toInt_eq_toNat_cond x.toBitVec
  have h7 : x.toBitVec.toNat < 2 ^ 32 := x.toBitVec.isLt
  rw [h5] at h6
  have h8 : nT x = x.toInt.toNat := rfl
  split at h6 <;> omega
theorem dB_t {x : Int32} (h : wd x) (k : Nat) : dB x k = (nT x).testBit k := by
  unfold dB
  rw [← BitVec.testBit_toNat, (wd_n h).1]
theorem wd_hi {x : Int32} (h : wd x) {k : Nat} (hk : 16 ≤ k) : dB x k = false := by
  rw [dB_t h]
  apply Nat.testBit_lt_two_pow
  have h1 : 2 ^ 16 ≤ 2 ^ k := Nat.pow_le_pow_right (by decide) hk
  have h2 := (wd_n h).2.1
  omega
theorem used64 {x y : Int32} (hx : wd x) (hy : wd y) {b : Nat} (hb : b < 32) : (((x.toInt64) ||| ((y.toInt64) <<< ((16 : Int32).toInt64 &&& 63))).toBitVec).getLsbD b = if b < 16 then dB x b else dB y (b - 16) := by
  rw [Int64.toBitVec_or, Int64.toBitVec_shiftLeft, BitVec.getLsbD_or, Int32.toBitVec_toInt64, Int32.toBitVec_toInt64]
  rw [show (BitVec.smod (((16 : Int32).toInt64 &&& 63).toBitVec) 64) = 16#64 from by decide, BitVec.shiftLeft_eq', show (16#64).toNat = 16 from by decide]
  rw [BitVec.getLsbD_shiftLeft, BitVec.getLsbD_signExtend, BitVec.getLsbD_signExtend]
  have e64 : decide (b < 64) = true := by simp only [decide_eq_true_eq]; omega
  have e64' : decide (b - 16 < 64) = true := by simp only [decide_eq_true_eq]; omega
  rw [e64, e64', if_pos hb, if_pos (show b - 16 < 32 by omega)]
  simp only [Bool.true_and]
  by_cases h : b < 16
  · rw [if_pos h]
    simp only [h, decide_true, Bool.not_true, Bool.false_and, Bool.or_false]
    rfl
  · rw [if_neg h]
    have := wd_hi hx (k := b) (by omega)
    unfold dB at this
    rw [this]
    simp only [h, decide_false, Bool.not_false, Bool.true_and, Bool.false_or]
    rfl
/-- a block's mark in the map of a disk -/
def uB (D : Nat → Int32) (b : Nat) : Bool := dB (D (32 + b / 16)) (b % 16)
theorem uB_l {D : Nat → Int32} (h0 : wd (D 32)) (h1 : wd (D 33)) {b : Nat} (hb : b < 32) : lg_cmp (((((D 32).toInt64) ||| (((D 33).toInt64) <<< ((16 : Int32).toInt64 &&& 63))) >>> ((Int32.ofNat b).toInt64 &&& 63)) &&& (1 : Int64)) (0 : Int64) = if uB D b = true then 1 else 0 := by
  rw [bit64 _ hb, used64 h0 h1 hb]
  have e : (if b < 16 then dB (D 32) b else dB (D 33) (b - 16)) = uB D b := by
    unfold uB
    by_cases h : b < 16
    · rw [if_pos h, show b / 16 = 0 by omega, show b % 16 = b by omega]
    · rw [if_neg h, show b / 16 = 1 by omega, show b % 16 = b - 16 by omega]
  rw [e]
  split <;> rfl
