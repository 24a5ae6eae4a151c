/-! the two machines' reckoning -/
theorem and16 (r : Int64) : (r &&& 65535).toInt = r.toInt % 65536 := by
  have h1 : (r &&& 65535).toBitVec = r.toBitVec &&& 65535#64 := Int64.toBitVec_and r 65535
  have h2 : (r &&& 65535).toBitVec.toNat = r.toBitVec.toNat % 65536 := by
    rw [h1, BitVec.toNat_and]
    exact Nat.and_two_pow_sub_one_eq_mod _ 16
  have h5 : (r &&& 65535).toBitVec.toInt = (r &&& 65535).toInt := Int64.toInt_toBitVec _
  have h6 := BitVec.toInt_eq_toNat_cond (r &&& 65535).toBitVec
  have h7 : r.toBitVec.toInt = r.toInt := Int64.toInt_toBitVec _
  have h8 := BitVec.toInt_eq_toNat_cond r.toBitVec
  have h9 := r.toBitVec.isLt
  rw [h5, h2] at h6
  rw [h7] at h8
  split at h6 <;> split at h8 <;> omega
theorem lgc_lt (x y : Int64) : lg_cmp x y < 0 ↔ x.toInt < y.toInt := by
  unfold lg_cmp
  split
  · rename_i h
    have h1 : y.toInt < x.toInt := Int64.lt_iff_toInt_lt.mp h
    constructor
    · intro h2; exact absurd h2 (by decide)
    · intro h2; omega
  · rename_i h
    have h1 : ¬ y.toInt < x.toInt := fun hh => h (Int64.lt_iff_toInt_lt.mpr hh)
    split
    · rename_i h2
      constructor
      · intro h3; exact absurd h3 (by decide)
      · intro h3; rw [h2] at h3; omega
    · rename_i h2
      have h3 : ¬ x.toInt = y.toInt := fun hh => h2 (Int64.toInt_inj.mp hh)
      constructor
      · intro _; omega
      · intro _; decide
theorem lgc_le (x y : Int64) : lg_cmp x y ≤ 0 ↔ x.toInt ≤ y.toInt := by
  unfold lg_cmp
  split
  · rename_i h
    have h1 : y.toInt < x.toInt := Int64.lt_iff_toInt_lt.mp h
    constructor
    · intro h2; exact absurd h2 (by decide)
    · intro h2; omega
  · rename_i h
    have h1 : ¬ y.toInt < x.toInt := fun hh => h (Int64.lt_iff_toInt_lt.mpr hh)
    split
    · rename_i h2
      constructor
      · intro _; rw [h2]; omega
      · intro _; decide
    · constructor
      · intro _; omega
      · intro _; decide
/-- the word that comes of a number, as the model makes it -/
def mW16 (r : Int64) : Int32 := ((r + 65536) - (r + 65536) / 65536 * 65536).toInt32
theorem w16_eq {r r' : Int64} (h : r.toInt % 65536 = r'.toInt % 65536) (h1 : -65536 ≤ r'.toInt) (h2 : r'.toInt < 4611686018427387904) : sW16 r = mW16 r' := by
  have c : (65536 : Int64).toInt = 65536 := by decide
  have e1 : (r' + 65536).toInt = r'.toInt + 65536 := by
    rw [Int64.toInt_add, c, Int.bmod_eq_of_le (by omega) (by omega)]
  have e2 : ((r' + 65536) / 65536).toInt = (r'.toInt + 65536) / 65536 := by
    rw [Int64.toInt_div, e1, c, Int.tdiv_eq_ediv_of_nonneg (by omega), Int.bmod_eq_of_le (by omega) (by omega)]
  have e3 : ((r' + 65536) / 65536 * 65536).toInt = (r'.toInt + 65536) / 65536 * 65536 := by
    rw [Int64.toInt_mul, e2, c, Int.bmod_eq_of_le (by omega) (by omega)]
  have e4 : ((r' + 65536) - (r' + 65536) / 65536 * 65536).toInt = r'.toInt % 65536 := by
    rw [Int64.toInt_sub, e1, e3, Int.bmod_eq_of_le (by omega) (by omega)]
    omega
  unfold sW16 mW16
  apply Int32.toInt_inj.mp
  rw [Int64.toInt_toInt32, Int64.toInt_toInt32, e4, and16, h]
theorem wd_i {x : Int32} (h : wd x) : 0 ≤ x.toInt ∧ x.toInt ≤ 65535 := by
  have h1 := Int32.le_iff_toInt_le.mp h.1
  have h2 := Int32.le_iff_toInt_le.mp h.2
  rw [show (0 : Int32).toInt = 0 by decide] at h1
  rw [show (65535 : Int32).toInt = 65535 by decide] at h2
  exact ⟨h1, h2⟩
theorem wd_of {x : Int32} (h1 : 0 ≤ x.toInt) (h2 : x.toInt ≤ 65535) : wd x := by
  refine ⟨Int32.le_iff_toInt_le.mpr ?_, Int32.le_iff_toInt_le.mpr ?_⟩
  · rw [show (0 : Int32).toInt = 0 by decide]; exact h1
  · rw [show (65535 : Int32).toInt = 65535 by decide]; exact h2
theorem div_i {p : Int32} {n : Nat} (h0 : ¬ p < 0) (hn : 0 < n) (hn2 : n < 2147483648) : (p / Int32.ofNat n).toInt = p.toInt / n := by
  have e1 := nT_eq h0
  have h2 : p.toInt < 2147483648 := Int32.toInt_lt p
  have h4 : p.toInt / (n : Int) ≤ p.toInt := Int.ediv_le_self _ (by omega)
  have h5 : 0 ≤ p.toInt / (n : Int) := Int.ediv_nonneg (by omega) (by omega)
  rw [Int32.toInt_div, Int32.toInt_ofNat_of_lt hn2, Int.tdiv_eq_ediv_of_nonneg (by omega), Int.bmod_eq_of_le (by omega) (by omega)]
theorem mod_n {p : Int32} {n : Nat} (h0 : ¬ p < 0) (hn : 0 < n) (hn2 : n < 2147483648) : p - p / Int32.ofNat n * Int32.ofNat n = Int32.ofNat (nT p % n) := by
  have e1 := nT_eq h0
  have h2 : p.toInt < 2147483648 := Int32.toInt_lt p
  have hd := div_i h0 hn hn2
  have hm := Int.mul_ediv_add_emod p.toInt n
  have h6 := Int.emod_nonneg p.toInt (show (n : Int) ≠ 0 by omega)
  have h7 := Int.emod_lt_of_pos p.toInt (show (0 : Int) < n by omega)
  have hc : (n : Int) * (p.toInt / n) = p.toInt / n * n := Int.mul_comm _ _
  have h8 : 0 ≤ p.toInt / (n : Int) * n := Int.mul_nonneg (Int.ediv_nonneg (by omega) (by omega)) (by omega)
  have h9 : ((nT p % n : Nat) : Int) = p.toInt % n := by rw [Int.natCast_emod, e1]
  have hlt : nT p % n < n := Nat.mod_lt _ hn
  rw [← Int32.toInt_inj, Int32.toInt_ofNat_of_lt (by omega), Int32.toInt_sub, Int32.toInt_mul, hd, Int32.toInt_ofNat_of_lt hn2]
  rw [Int.bmod_eq_of_le (n := p.toInt / n * n) (by omega) (by omega), Int.bmod_eq_of_le (by omega) (by omega)]
  omega
def mMade (op w y : Int32) : Int64 := if op = 4 then w.toInt64 + y.toInt64 else if op = 5 ∨ op = 11 then w.toInt64 - y.toInt64 else if op = 6 then w.toInt64 * y.toInt64 else if op = 7 then (w &&& y).toInt64 else if op = 8 then (w ^^^ y).toInt64 else if op = 9 then ((w <<< ((y - y / 16 * 16) &&& 31)) - (w <<< ((y - y / 16 * 16) &&& 31)) / 65536 * 65536).toInt64 else (w >>> ((y - y / 16 * 16) &&& 31)).toInt64
theorem bv_i (x : Int32) : x.toInt = if 2 * x.toBitVec.toNat < 4294967296 then (x.toBitVec.toNat : Int) else (x.toBitVec.toNat : Int) - 4294967296 := by
  have h5 : x.toBitVec.toInt = x.toInt := Int32.toInt_toBitVec _
  have h6 := BitVec.toInt_eq_toNat_cond x.toBitVec
  rw [h5] at h6
  exact h6
theorem and_w {w y : Int32} (hw : wd w) (hy : wd y) : 0 ≤ (w &&& y).toInt ∧ (w &&& y).toInt ≤ 65535 := by
  have h1 := (wd_n hw)
  have h2 : (w &&& y).toBitVec.toNat ≤ w.toBitVec.toNat := by
    rw [Int32.toBitVec_and, BitVec.toNat_and]
    exact Nat.and_le_left
  have h3 := bv_i (w &&& y)
  rw [if_pos (by omega)] at h3
  omega
theorem xor_w {w y : Int32} (hw : wd w) (hy : wd y) : 0 ≤ (w ^^^ y).toInt ∧ (w ^^^ y).toInt ≤ 65535 := by
  have h1 := (wd_n hw)
  have h1' := (wd_n hy)
  have h2 : (w ^^^ y).toBitVec.toNat < 2 ^ 16 := by
    rw [Int32.toBitVec_xor, BitVec.toNat_xor]
    exact Nat.xor_lt_two_pow (by omega) (by omega)
  have h3 := bv_i (w ^^^ y)
  rw [if_pos (by omega)] at h3
  omega
theorem sh_y {y : Int32} (hy : wd y) : (((y - y / 16 * 16) &&& 31).toBitVec.smod 32).toNat = nT y % 16 := by
  rw [show y - y / 16 * 16 = Int32.ofNat (nT y % 16) from mod_n (wd_nn hy) (n := 16) (by decide) (by decide)]
  exact sh32a ⟨nT y % 16, by omega⟩
theorem shl_w {w y : Int32} (hw : wd w) (hy : wd y) : (w <<< ((y - y / 16 * 16) &&& 31)).toInt = w.toInt * 2 ^ (nT y % 16) ∧ (2 : Int) ^ (nT y % 16) ≤ 32768 := by
  have h1 := (wd_n hw)
  have hp : 2 ^ (nT y % 16) ≤ 2 ^ 15 := Nat.pow_le_pow_right (by decide) (by omega)
  have hq : nT w * 2 ^ (nT y % 16) ≤ 65535 * 2 ^ 15 := Nat.mul_le_mul h1.2.1 hp
  have h2 : (w <<< ((y - y / 16 * 16) &&& 31)).toBitVec.toNat = nT w * 2 ^ (nT y % 16) := by
    rw [Int32.toBitVec_shiftLeft, BitVec.shiftLeft_eq', sh_y hy, BitVec.toNat_shiftLeft, h1.1, Nat.shiftLeft_eq, Nat.mod_eq_of_lt (by omega)]
  have h3 := bv_i (w <<< ((y - y / 16 * 16) &&& 31))
  rw [h2, if_pos (by omega)] at h3
  refine ⟨?_, ?_⟩
  · rw [h3, ← h1.2.2, Int.natCast_mul, Int.natCast_pow]
    rfl
  · have h9 : ((2 ^ (nT y % 16) : Nat) : Int) ≤ ((2 ^ 15 : Nat) : Int) := Int.ofNat_le.mpr hp
    rw [Int.natCast_pow] at h9
    exact h9
theorem shr_w {w y : Int32} (hw : wd w) (hy : wd y) : 0 ≤ (w >>> ((y - y / 16 * 16) &&& 31)).toInt ∧ (w >>> ((y - y / 16 * 16) &&& 31)).toInt ≤ 65535 := by
  have h1 := wd_i hw
  have h2 : (w >>> ((y - y / 16 * 16) &&& 31)).toInt = w.toInt >>> (nT y % 16) := by
    rw [← Int32.toInt_toBitVec, Int32.toBitVec_shiftRight, BitVec.sshiftRight_eq', sh_y hy, BitVec.toInt_sshiftRight, Int32.toInt_toBitVec]
  rw [h2, Int.shiftRight_eq_div_pow]
  have h3 : (0 : Int) < ((2 ^ (nT y % 16) : Nat) : Int) := by
    have := Nat.pow_pos (a := 2) (n := nT y % 16) (by decide)
    omega
  refine ⟨Int.ediv_nonneg h1.1 (by omega), ?_⟩
  have h4 : w.toInt / ((2 ^ (nT y % 16) : Nat) : Int) ≤ w.toInt := Int.ediv_le_self _ h1.1
  omega

theorem made_i {op w y : Int32} (hw : wd w) (hy : wd y) (ho : op = 4 ∨ op = 5 ∨ op = 6 ∨ op = 7 ∨ op = 8 ∨ op = 9 ∨ op = 10 ∨ op = 11) : (sMade op w y).toInt % 65536 = (mMade op w y).toInt % 65536 ∧ -65535 ≤ (mMade op w y).toInt ∧ (mMade op w y).toInt < 4611686018427387904 ∧ ((op = 7 ∨ op = 8 ∨ op = 9 ∨ ¬ (op = 4 ∨ op = 5 ∨ op = 6 ∨ op = 11)) → 0 ≤ (mMade op w y).toInt ∧ (mMade op w y).toInt ≤ 65535) ∧ ((op = 4 ∨ op = 5 ∨ op = 6 ∨ op = 11) → (mMade op w y).toInt = (sMade op w y).toInt) := by
  have a := wd_i hw
  have b := wd_i hy
  have x1 : (w.toInt64).toInt = w.toInt := Int32.toInt_toInt64 w
  have x2 : (y.toInt64).toInt = y.toInt := Int32.toInt_toInt64 y
  have sub1 : (w.toInt64 - y.toInt64).toInt = w.toInt - y.toInt := by rw [Int64.toInt_sub, x1, x2, Int.bmod_eq_of_le (by omega) (by omega)]
  have sub2 : (w - y).toInt64.toInt = w.toInt - y.toInt := by rw [Int32.toInt_toInt64, Int32.toInt_sub, Int.bmod_eq_of_le (by omega) (by omega)]
  unfold sMade mMade
  by_cases h4 : op = 4
  · subst h4
    rw [if_pos rfl, if_pos rfl]
    have e1 : (w.toInt64 + y.toInt64).toInt = w.toInt + y.toInt := by rw [Int64.toInt_add, x1, x2, Int.bmod_eq_of_le (by omega) (by omega)]
    have e2 : (w + y).toInt64.toInt = w.toInt + y.toInt := by rw [Int32.toInt_toInt64, Int32.toInt_add, Int.bmod_eq_of_le (by omega) (by omega)]
    rw [e1, e2]
    refine ⟨rfl, by omega, by omega, fun h => ?_, fun _ => rfl⟩
    rcases h with h | h | h | h
    · exact absurd h (by decide)
    · exact absurd h (by decide)
    · exact absurd h (by decide)
    · exact absurd (Or.inl rfl) h
  rw [if_neg h4, if_neg h4]
  by_cases h5 : op = 5
  · subst h5
    rw [if_pos rfl, if_pos (Or.inl rfl), sub1, sub2]
    refine ⟨rfl, by omega, by omega, fun h => ?_, fun _ => rfl⟩
    rcases h with h | h | h | h
    · exact absurd h (by decide)
    · exact absurd h (by decide)
    · exact absurd h (by decide)
    · exact absurd (Or.inr (Or.inl rfl)) h
  rw [if_neg h5]
  by_cases h6 : op = 6
  · subst h6
    rw [if_pos rfl, if_neg (by decide), if_pos rfl]
    have hm : w.toInt * y.toInt ≤ 65535 * 65535 := Int.mul_le_mul a.2 b.2 b.1 (by decide)
    have hm0 : 0 ≤ w.toInt * y.toInt := Int.mul_nonneg a.1 b.1
    have e1 : (w.toInt64 * y.toInt64).toInt = w.toInt * y.toInt := by rw [Int64.toInt_mul, x1, x2, Int.bmod_eq_of_le (by omega) (by omega)]
    rw [e1]
    refine ⟨rfl, by omega, by omega, fun h => ?_, fun _ => rfl⟩
    rcases h with h | h | h | h
    · exact absurd h (by decide)
    · exact absurd h (by decide)
    · exact absurd h (by decide)
    · exact absurd (Or.inr (Or.inr (Or.inl rfl))) h
  rw [if_neg h6]
  by_cases h11 : op = 11
  · subst h11
    rw [if_neg (by decide), if_neg (by decide), if_neg (by decide), if_neg (by decide), if_pos (Or.inr rfl), sub1, sub2]
    refine ⟨rfl, by omega, by omega, fun h => ?_, fun _ => rfl⟩
    rcases h with h | h | h | h
    · exact absurd h (by decide)
    · exact absurd h (by decide)
    · exact absurd h (by decide)
    · exact absurd (Or.inr (Or.inr (Or.inr rfl))) h
  rw [if_neg (show ¬ (op = 5 ∨ op = 11) from fun h => h.elim h5 h11), if_neg h6]
  have hx : (op = 4 ∨ op = 5 ∨ op = 6 ∨ op = 11) → False := fun h => by
    rcases h with h | h | h | h
    · exact h4 h
    · exact h5 h
    · exact h6 h
    · exact h11 h
  by_cases h7 : op = 7
  · rw [if_pos h7, if_pos h7]
    have e := and_w hw hy
    rw [Int32.toInt_toInt64]
    exact ⟨rfl, by omega, by omega, fun _ => e, fun h => (hx h).elim⟩
  rw [if_neg h7, if_neg h7]
  by_cases h8 : op = 8
  · rw [if_pos h8, if_pos h8]
    have e := xor_w hw hy
    rw [Int32.toInt_toInt64]
    exact ⟨rfl, by omega, by omega, fun _ => e, fun h => (hx h).elim⟩
  rw [if_neg h8, if_neg h8]
  by_cases h9 : op = 9
  · rw [if_pos h9, if_pos h9]
    obtain ⟨e1, e2⟩ := shl_w hw hy
    generalize w <<< ((y - y / 16 * 16) &&& 31) = z at e1
    have ez : 0 ≤ z.toInt := by rw [e1]; exact Int.mul_nonneg a.1 (Int.pow_nonneg (by decide))
    have hz0 : ¬ z < 0 := fun h => by
      rw [Int32.lt_iff_toInt_lt, show (0 : Int32).toInt = 0 by decide] at h
      omega
    have em : (z - z / 65536 * 65536) = Int32.ofNat (nT z % 65536) := mod_n hz0 (n := 65536) (by decide) (by decide)
    have en := nT_eq hz0
    rw [Int32.toInt_toInt64, Int32.toInt_toInt64, em, Int32.toInt_ofNat_of_lt (by omega)]
    refine ⟨by omega, by omega, by omega, fun _ => by omega, fun h => (hx h).elim⟩
  rw [if_neg h9, if_neg h9]
  have e := shr_w hw hy
  have h10 : op = 10 := by
    rcases ho with h | h | h | h | h | h | h | h
    · exact absurd h h4
    · exact absurd h h5
    · exact absurd h h6
    · exact absurd h h7
    · exact absurd h h8
    · exact absurd h h9
    · exact h
    · exact absurd h h11
  rw [if_pos h10, Int32.toInt_toInt64]
  exact ⟨rfl, by omega, by omega, fun _ => e, fun h => (hx h).elim⟩
/-- the word and the flag, by the model's number -/
theorem made_w {op w y : Int32} (hw : wd w) (hy : wd y) (ho : op = 4 ∨ op = 5 ∨ op = 6 ∨ op = 7 ∨ op = 8 ∨ op = 9 ∨ op = 10 ∨ op = 11) : sW16 (sMade op w y) = mW16 (mMade op w y) ∧ sLess op (sMade op w y) = (if (mMade op w y).toInt < 0 then 1 else if (mMade op w y).toInt < 65536 then 0 else 1) := by
  obtain ⟨h1, h2, h3, h4, h5⟩ := made_i hw hy ho
  refine ⟨w16_eq h1 (by omega) h3, ?_⟩
  unfold sLess
  have c0 : (0 : Int64).toInt = 0 := by decide
  have c5 : (65535 : Int64).toInt = 65535 := by decide
  by_cases hb : op = 4 ∨ op = 5 ∨ op = 6 ∨ op = 11
  · rw [if_neg (show ¬ (¬ op < 7 ∧ ¬ (10 : Int32) < op) from by rcases hb with rfl | rfl | rfl | rfl <;> decide)]
    have e := h5 hb
    by_cases hn : (mMade op w y).toInt < 0
    · rw [if_pos hn, if_pos ((lgc_lt _ _).mpr (by rw [c0]; omega))]
    · rw [if_neg hn, if_neg (fun h => hn (by have := (lgc_lt _ _).mp h; rw [c0] at this; omega))]
      by_cases hs : (mMade op w y).toInt < 65536
      · rw [if_pos hs, if_pos ((lgc_le _ _).mpr (by rw [c5]; omega))]
      · rw [if_neg hs, if_neg (fun h => hs (by have := (lgc_le _ _).mp h; rw [c5] at this; omega))]
  · have hr := h4 (Or.inr (Or.inr (Or.inr hb)))
    rw [if_pos (show ¬ op < 7 ∧ ¬ (10 : Int32) < op from by
      rcases ho with h | h | h | h | h | h | h | h
      · exact absurd (Or.inl h) hb
      · exact absurd (Or.inr (Or.inl h)) hb
      · exact absurd (Or.inr (Or.inr (Or.inl h))) hb
      · subst h; decide
      · subst h; decide
      · subst h; decide
      · subst h; decide
      · exact absurd (Or.inr (Or.inr (Or.inr h))) hb), if_neg (by omega), if_pos (by omega)]
theorem sW16_wd (r : Int64) : wd (sW16 r) := by
  have h := and16 r
  have e : (sW16 r).toInt = r.toInt % 65536 := by
    unfold sW16
    rw [Int64.toInt_toInt32, h, Int.bmod_eq_of_le (by omega) (by omega)]
  exact wd_of (by omega) (by omega)
