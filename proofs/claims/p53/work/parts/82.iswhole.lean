/-! whether a disk is whole, in both -/
def isE (D : Nat → Int32) (t : Nat) : Prop := D (40 + 4 * t) = 0 ∨ sFind D (D (40 + 4 * t)) 7 0 = t
def wS (D : Nat → Int32) (t i : Nat) (S : Nat → Bool) : Nat → Bool := if D (40 + 4 * t + i) = 0 then S else sA S (nT (D (40 + 4 * t + i)))
def wCl (D : Nat → Int32) (t i : Nat) (S : Nat → Bool) : Prop := ¬ D (40 + 4 * t + i) = 0 ∧ S (nT (D (40 + 4 * t + i))) = true
def wAll (D : Nat → Int32) (S : Nat → Bool) : Prop := ∀ b, b < 32 → S b = uB D b
/-- the files from one on take blocks that no other has, and the map says so -/
def wGo (D : Nat → Int32) : Nat → Nat → (Nat → Bool) → Prop
  | 0, _, S => wAll D S
  | n + 1, t, S => isE D t ∧ (¬ wCl D t 2 S ∧ ¬ wCl D t 3 (wS D t 2 S)) ∧ wGo D n (t + 1) (wS D t 3 (wS D t 2 S))
def S255 : Nat → Bool := fun b => decide (b < 8)
def isWh (D : Nat → Int32) : Prop := D 0 = 0 ∧ wGo D 6 0 S255
/-- a mask of 64 bits -/
def L64 (l : Int64) (S : Nat → Bool) : Prop := ∀ b, b < 64 → l.toBitVec.getLsbD b = (decide (b < 32) && S b)
section IW
variable {kad : Nat → Nat} {N : Nat} {Z : AZ} {d m g : Nat} {I : AI} {X : AI} {D : Nat → Int32}
theorem l255 : ∀ b : Fin 64, (255 : Int64).toBitVec.getLsbD b.1 = (decide (b.1 < 32) && decide (b.1 < 8)) := by decide +kernel
theorem L64_255 : L64 255 S255 := fun b hb => l255 ⟨b, hb⟩
theorem one64 : ∀ b : Fin 32, ∀ k : Fin 64, ((1 : Int64) <<< ((Int32.ofNat b.1).toInt64 &&& 63)).toBitVec.getLsbD k.1 = decide (k.1 = b.1) := by decide +kernel
theorem L64.or {l : Int64} {S : Nat → Bool} {b : Nat} (h : L64 l S) (hb : b < 32) : L64 (l ||| ((1 : Int64) <<< ((Int32.ofNat b).toInt64 &&& 63))) (sA S b) := by
  intro k hk
  rw [Int64.toBitVec_or, BitVec.getLsbD_or, h k hk, one64 ⟨b, hb⟩ ⟨k, hk⟩]
  unfold sA
  dsimp only
  by_cases h1 : k < 32
  · rw [decide_eq_true h1, Bool.true_and, Bool.true_and]
  · rw [decide_eq_false h1, decide_eq_false (show ¬ k = b by omega), Bool.false_and, Bool.false_and, Bool.or_false]
theorem L64.bit {l : Int64} {S : Nat → Bool} {b : Nat} (h : L64 l S) (hb : b < 32) : lg_cmp ((l >>> ((Int32.ofNat b).toInt64 &&& 63)) &&& (1 : Int64)) (0 : Int64) = if S b = true then 1 else 0 := by
  rw [bit64 _ hb, h b (by omega), decide_eq_true hb, Bool.true_and]
  split <;> rfl
theorem used64_hi {x y : Int32} (hx : wd x) (hy : wd y) {b : Nat} (hb : 32 ≤ b) (hb2 : b < 64) : (((x.toInt64) ||| ((y.toInt64) <<< ((16 : Int32).toInt64 &&& 63))).toBitVec).getLsbD b = false := by
  rw [Int64.toBitVec_or, Int64.toBitVec_shiftLeft, BitVec.getLsbD_or, Int32.toBitVec_toInt64, Int32.toBitVec_toInt64]
  rw [show (BitVec.smod (((16 : Int32).toInt64 &&& 63).toBitVec) 64) = 16#64 from by decide, BitVec.shiftLeft_eq', show (16#64).toNat = 16 from by decide]
  rw [BitVec.getLsbD_shiftLeft, BitVec.getLsbD_signExtend, BitVec.getLsbD_signExtend]
  have mx' : ∀ z : Int32, wd z → z.toBitVec.msb = false := fun z hz => by
    have := wd_hi hz (k := 31) (by decide)
    rw [BitVec.msb_eq_getLsbD_last]
    exact this
  rw [if_neg (show ¬ b < 32 by omega), mx' x hx, Bool.and_false, Bool.false_or]
  have e2 : (if b - 16 < 32 then y.toBitVec.getLsbD (b - 16) else y.toBitVec.msb) = false := by
    by_cases h : b - 16 < 32
    · rw [if_pos h]
      exact wd_hi hy (k := b - 16) (by omega)
    · rw [if_neg h]
      exact mx' y hy
  rw [e2, Bool.and_false, Bool.and_false]
theorem uB_16 (b : Nat) (hb : b < 32) : uB D b = if b < 16 then dB (D 32) b else dB (D 33) (b - 16) := by
  unfold uB
  by_cases h : b < 16
  · rw [if_pos h, show b / 16 = 0 by omega, show b % 16 = b by omega]
  · rw [if_neg h, show b / 16 = 1 by omega, show b % 16 = b - 16 by omega]
theorem L64_map (h0 : wd (D 32)) (h1 : wd (D 33)) : L64 ((D 32).toInt64 ||| ((D 33).toInt64 <<< ((16 : Int32).toInt64 &&& 63))) (uB D) := by
  intro b hb
  by_cases h : b < 32
  · rw [used64 h0 h1 h, decide_eq_true h, Bool.true_and, uB_16 b h]
  · rw [used64_hi h0 h1 (by omega) hb, decide_eq_false h, Bool.false_and]
theorem L64.eq {l r : Int64} {S : Nat → Bool} (h : L64 l S) (h' : L64 r (uB D)) : l = r ↔ wAll D S := by
  constructor
  · intro e b hb
    have := h b (by omega)
    rw [e, h' b (by omega), decide_eq_true hb, Bool.true_and, Bool.true_and] at this
    exact this.symm
  · intro e
    apply Int64.toBitVec_inj.mp
    apply BitVec.eq_of_getLsbD_eq
    intro i hi
    rw [h i hi, h' i hi]
    by_cases h1 : i < 32
    · rw [e i h1]
    · rw [decide_eq_false h1, Bool.false_and, Bool.false_and]
theorem lgc_0 {x y : Int64} : lg_cmp x y = 0 ↔ x = y := by
  constructor
  · intro h
    have h1 := (lgc_le x y).mp (by rw [h]; exact Int32.le_refl _)
    have h2 : ¬ x.toInt < y.toInt := fun hh => by
      have := (lgc_lt x y).mpr hh
      rw [h] at this
      exact absurd this (by decide)
    exact Int64.toInt_inj.mp (by omega)
  · intro h
    subst h
    have h1 : lg_cmp x x ≤ 0 := (lgc_le x x).mpr (Int.le_refl _)
    have h2 : ¬ lg_cmp x x < 0 := fun hh => absurd ((lgc_lt x x).mp hh) (by omega)
    grind
theorem K50_0 {t : Nat} (ht : t < 6) : f50 kad N Z d (Int32.ofNat t) 0 I = some (I (d + 1) (40 + 4 * t), I) := K50 (w := 0) ht (by decide)
theorem K51_l (name : Int32) : ∀ (n t F : Nat), t + n = 6 → n < F → f51_b2 kad N Z F d name (Int32.ofNat t) I = some (if sFind (I (d + 1)) name (n + 1) t < 6 then Int32.ofNat (sFind (I (d + 1)) name (n + 1) t) else Int32.ofInt (-1), I) := by
  intro n
  induction n with
  | zero =>
    intro t F ht hF
    obtain ⟨F, rfl⟩ : ∃ G, F = G + 1 := ⟨F - 1, by omega⟩
    unfold f51_b2 sFind
    rw [if_pos (show (6 : Int32) ≤ Int32.ofNat t from (of_le (m := 6) (by decide) (by omega)).mpr (by omega)), if_pos (show 6 ≤ t by omega), if_neg (show ¬ t < 6 by omega)]
  | succ n ih =>
    intro t F ht hF
    obtain ⟨F, rfl⟩ : ∃ G, F = G + 1 := ⟨F - 1, by omega⟩
    unfold f51_b2 sFind
    have h := K50_0 (kad := kad) (N := N) (Z := Z) (d := d) (I := I) (t := t) (by omega)
    rw [if_neg (show ¬ (6 : Int32) ≤ Int32.ofNat t from fun h => absurd ((of_le (m := 6) (by decide) (by omega)).mp h) (by omega)), if_neg (show ¬ 6 ≤ t by omega), h, Option.bind_some]
    dsimp only
    rw [of_s]
    by_cases hx : I (d + 1) (40 + 4 * t) = name
    · rw [if_neg (fun h => h hx), if_pos hx, if_pos (show t < 6 by omega)]
    · rw [if_pos hx, if_neg hx]
      exact ih (t + 1) F (by omega) (by omega)
theorem K51 (hN : 2000 ≤ N) (hD : ∀ k, k < 256 → I (d + 1) k = D k) (name : Int32) : f51 kad N Z d name I = some (if sFind D name 7 0 < 6 then Int32.ofNat (sFind D name 7 0) else Int32.ofInt (-1), I) := by
  have h := K51_l (kad := kad) (N := N) (Z := Z) (d := d) (I := I) name 6 0 N rfl (by omega)
  rw [sFind_cong (D := D) (E := I (d + 1)) (fun k h1 h2 => hD k (by omega))] at h
  exact h
theorem find_t {name : Int32} {t : Nat} (ht : t < 6) : ((if sFind D name 7 0 < 6 then Int32.ofNat (sFind D name 7 0) else Int32.ofInt (-1)) = Int32.ofNat t) ↔ sFind D name 7 0 = t := by
  by_cases h : sFind D name 7 0 < 6
  · rw [if_pos h]
    exact of_inj (by omega) (by omega)
  · rw [if_neg h]
    constructor
    · intro hh
      exact absurd hh (by
        rcases (show t = 0 ∨ t = 1 ∨ t = 2 ∨ t = 3 ∨ t = 4 ∨ t = 5 by omega) with rfl | rfl | rfl | rfl | rfl | rfl <;> decide)
    · intro hh; omega
theorem wd_le {x : Int32} (hx : wd x) {n : Nat} (hn : n < 2147483648) : x ≤ Int32.ofNat n ↔ nT x ≤ n := by
  have e := of_nT (wd_nn hx)
  have h := (wd_n hx).2.1
  rw [← e, of_le (by omega) hn, nT_of (by omega)]
theorem wd_z {x : Int32} (hx : wd x) : x = 0 ↔ nT x = 0 := by
  have e := of_nT (wd_nn hx)
  constructor
  · intro h; rw [h]; decide
  · intro h; rw [← e, h]; rfl
/-- an entry of the table -/
theorem K59 (hN : 2000 ≤ N) (hD : ∀ k, k < 256 → I (d + 1) k = D k) (hw : LW D) {t : Nat} (ht : t < 6) : ∃ v : Int32, f59 kad N Z d (Int32.ofNat t) I = some (v, I) ∧ (isE D t → v = 1) ∧ (¬ isE D t → v = 0) := by
  obtain ⟨l0, l1, l2, l3, -⟩ := hw.2 t ht
  have w1 := hw.1 (40 + 4 * t + 1) (by omega)
  have q0 : f50 kad N Z d (Int32.ofNat t) 0 I = some (D (40 + 4 * t), I) := by rw [K50_0 ht, hD _ (by omega)]
  have q1 : f50 kad N Z d (Int32.ofNat t) 1 I = some (D (40 + 4 * t + 1), I) := by rw [show (1 : Int32) = Int32.ofNat 1 from rfl, K50 ht (by decide), hD _ (by omega)]
  have q2 : f50 kad N Z d (Int32.ofNat t) 2 I = some (D (40 + 4 * t + 2), I) := by rw [show (2 : Int32) = Int32.ofNat 2 from rfl, K50 ht (by decide), hD _ (by omega)]
  have q3 : f50 kad N Z d (Int32.ofNat t) 3 I = some (D (40 + 4 * t + 3), I) := by rw [show (3 : Int32) = Int32.ofNat 3 from rfl, K50 ht (by decide), hD _ (by omega)]
  unfold f59
  rw [q1, Option.bind_some]
  dsimp only
  rw [q2, Option.bind_some]
  dsimp only
  rw [q3, Option.bind_some]
  dsimp only
  rw [q0, Option.bind_some]
  dsimp only
  by_cases hz : D (40 + 4 * t) = 0
  · obtain ⟨z1, z2, z3⟩ := l0 hz
    rw [hz, z1, z2, z3, if_neg z00, if_neg z00, if_neg z00, if_neg z00]
    unfold f59_b53
    rw [if_pos (Or.inr rfl)]
    exact ⟨1, rfl, fun _ => rfl, fun h => absurd (Or.inl hz) h⟩
  · rw [if_pos hz, K51 hN hD, Option.bind_some]
    dsimp only
    by_cases hf : sFind D (D (40 + 4 * t)) 7 0 = t
    · rw [if_neg (fun h => h ((find_t ht).mpr hf)), if_neg (show ¬ (16 : Int32) < D (40 + 4 * t + 1) from fun h => absurd ((wd_le (n := 16) w1 (by decide)).mpr l1) (Int32.not_le.mpr h))]
      refine ⟨1, ?_, fun _ => rfl, fun h => absurd (Or.inr hf) h⟩
      unfold f59_b79 f59_b88 f59_b101 f59_b112 f59_b120
      have c1 : (D (40 + 4 * t + 1) ≤ 0) ↔ D (40 + 4 * t + 2) = 0 := by
        rw [l2, show (0 : Int32) = Int32.ofNat 0 from rfl, wd_le w1 (by decide)]
        omega
      have c2 : (D (40 + 4 * t + 1) ≤ 8) ↔ D (40 + 4 * t + 3) = 0 := by
        rw [l3, show (8 : Int32) = Int32.ofNat 8 from rfl, wd_le w1 (by decide)]
      by_cases h2 : D (40 + 4 * t + 2) = 0
      · rw [if_pos h2, if_pos (c1.mpr h2), if_neg z00]
        by_cases h3 : D (40 + 4 * t + 3) = 0
        · rw [if_pos h3, if_pos (c2.mpr h3), if_neg z00, if_pos (Or.inr rfl)]
        · rw [if_neg h3, if_neg (fun h => h3 (c2.mp h)), if_neg (by decide), if_pos (Or.inr rfl)]
      · rw [if_neg h2, if_neg (fun h => h2 (c1.mp h)), if_neg (by decide)]
        by_cases h3 : D (40 + 4 * t + 3) = 0
        · rw [if_pos h3, if_pos (c2.mpr h3), if_neg z00, if_pos (Or.inr rfl)]
        · rw [if_neg h3, if_neg (fun h => h3 (c2.mp h)), if_neg (by decide), if_pos (Or.inr rfl)]
    · rw [if_pos (fun h => hf ((find_t ht).mp h))]
      unfold f59_b119 f59_b120
      rw [if_pos (Or.inl rfl)]
      exact ⟨0, rfl, fun h => h.elim (fun h => absurd h hz) (fun h => absurd h hf), fun _ => rfl⟩
theorem wS_z {t i : Nat} {S : Nat → Bool} (h : D (40 + 4 * t + i) = 0) : wS D t i S = S := by
  unfold wS
  rw [if_pos h]
theorem wS_n {t i : Nat} {S : Nat → Bool} (h : ¬ D (40 + 4 * t + i) = 0) : wS D t i S = sA S (nT (D (40 + 4 * t + i))) := by
  unfold wS
  rw [if_neg h]
/-- one word of an entry: a block's number -/
theorem K58_w (hD : ∀ k, k < 256 → I (d + 1) k = D k) (hw : LW D) {t i F : Nat} (ht : t < 6) (hi : i = 2 ∨ i = 3) {k17 : Nat → Int64 → Int32 → AI → Option (Int32 × AI)} {l : Int64} {S : Nat → Bool} (hl : L64 l S) : (wCl D t i S → f58_b36 kad N Z k17 (F + 1) d l (Int32.ofNat t) (Int32.ofNat i) I = some (0, I)) ∧ (¬ wCl D t i S → ∃ l', L64 l' (wS D t i S) ∧ f58_b36 kad N Z k17 (F + 1) d l (Int32.ofNat t) (Int32.ofNat i) I = f58_b36 kad N Z k17 F d l' (Int32.ofNat t) (Int32.ofNat (i + 1)) I) := by
  obtain ⟨-, -, -, -, l4⟩ := hw.2 t ht
  have wi := hw.1 (40 + 4 * t + i) (by omega)
  have e := of_nT (wd_nn wi)
  have q := K50 (kad := kad) (N := N) (Z := Z) (d := d) (I := I) (t := t) (w := i) ht (by omega)
  rw [hD _ (by omega)] at q
  have h3 : ¬ (3 : Int32) < Int32.ofNat i := fun h => absurd ((of_lt (m := 3) (by decide) (by omega)).mp h) (by omega)
  rw [f58_b36, if_neg h3, q, Option.bind_some]
  dsimp only
  unfold f58_b83 f58_b97
  by_cases hz : D (40 + 4 * t + i) = 0
  · refine ⟨fun h => absurd hz h.1, fun _ => ⟨l ||| 0, ?_, ?_⟩⟩
    · rw [wS_z hz]
      have : l ||| (0 : Int64) = l := by
        apply Int64.toBitVec_inj.mp
        rw [Int64.toBitVec_or]
        show l.toBitVec ||| 0#64 = _
        simp
      rw [this]; exact hl
    · rw [if_pos hz, if_neg (fun h => h hz), of_s]
  · obtain ⟨b1, b2⟩ := l4 i hi hz
    have hb := hl.bit b2
    rw [e] at hb
    rw [if_neg hz, if_neg (show ¬ D (40 + 4 * t + i) < 8 from fun h => absurd h (Int32.not_lt.mpr (by rw [← e]; exact (of_le (m := 8) (by decide) (by omega)).mpr b1))), if_neg (show ¬ (32 : Int32) ≤ D (40 + 4 * t + i) from fun h => by
      rw [← e] at h
      exact absurd ((of_le (m := 32) (by decide) (by omega)).mp h) (by omega)), hb]
    by_cases hs : S (nT (D (40 + 4 * t + i))) = true
    · refine ⟨fun _ => ?_, fun h => absurd ⟨hz, hs⟩ h⟩
      rw [if_pos hs, if_neg (show ¬ (1 : Int32) = 0 by decide)]
      rfl
    · refine ⟨fun h => absurd h.2 hs, fun _ => ⟨l ||| ((1 : Int64) <<< ((Int32.ofNat (nT (D (40 + 4 * t + i)))).toInt64 &&& 63)), ?_, ?_⟩⟩
      · rw [wS_n hz]
        exact hl.or b2
      · rw [if_neg hs, if_pos rfl, if_pos hz, of_s, e]
theorem K58_l (hN : 2000 ≤ N) (hD : ∀ k, k < 256 → I (d + 1) k = D k) (hw : LW D) : ∀ (n t F : Nat) (l : Int64) (S : Nat → Bool), t + n = 6 → n < F → L64 l S → ∃ v : Int32, f58_b17 kad N Z F d l (Int32.ofNat t) I = some (v, I) ∧ (wGo D n t S → v = 1) ∧ (¬ wGo D n t S → v = 0) := by
  intro n
  induction n with
  | zero =>
    intro t F l S ht hF hl
    obtain ⟨F, rfl⟩ : ∃ G, F = G + 1 := ⟨F - 1, by omega⟩
    unfold f58_b17 wGo
    rw [if_pos (show (6 : Int32) ≤ Int32.ofNat t from (of_le (m := 6) (by decide) (by omega)).mpr (by omega)), K55, hD 32 (by decide), hD 33 (by decide), Option.bind_some]
    dsimp only
    have he := hl.eq (L64_map (hw.1 32 (by decide)) (hw.1 33 (by decide)))
    unfold f58_b125
    by_cases h : wAll D S
    · rw [if_neg (fun hh => hh (lgc_0.mpr (he.mpr h))), if_pos (Or.inr rfl)]
      exact ⟨1, rfl, fun _ => rfl, fun hh => absurd h hh⟩
    · rw [if_pos (fun hh => h (he.mp (lgc_0.mp hh))), if_pos (Or.inl rfl)]
      exact ⟨0, rfl, fun hh => absurd hh h, fun _ => rfl⟩
  | succ n ih =>
    intro t F l S ht hF hl
    obtain ⟨F, rfl⟩ : ∃ G, F = G + 1 := ⟨F - 1, by omega⟩
    obtain ⟨M, rfl⟩ : ∃ G, N = G + 3 := ⟨N - 3, by omega⟩
    obtain ⟨v, v1, v2, v3⟩ := K59 (kad := kad) (Z := Z) hN hD hw (t := t) (by omega)
    unfold f58_b17 wGo
    rw [if_neg (show ¬ (6 : Int32) ≤ Int32.ofNat t from fun h => absurd ((of_le (m := 6) (by decide) (by omega)).mp h) (by omega)), v1, Option.bind_some]
    dsimp only
    by_cases hE : isE D t
    · rw [v2 hE, if_pos z10]
      obtain ⟨w1, w2⟩ := K58_w (kad := kad) (N := M + 3) (Z := Z) (F := M + 2) (k17 := fun p0 p1 p2 I => f58_b17 kad (M + 3) Z F p0 p1 p2 I) hD hw (t := t) (i := 2) (by omega) (Or.inl rfl) hl
      by_cases hB : wCl D t 2 S
      · exact ⟨0, w1 hB, fun h => absurd hB h.2.1.1, fun _ => rfl⟩
      · obtain ⟨l', hl', e'⟩ := w2 hB
        obtain ⟨x1, x2⟩ := K58_w (kad := kad) (N := M + 3) (Z := Z) (F := M + 1) (k17 := fun p0 p1 p2 I => f58_b17 kad (M + 3) Z F p0 p1 p2 I) hD hw (t := t) (i := 3) (by omega) (Or.inr rfl) hl'
        rw [show (2 : Int32) = Int32.ofNat 2 from rfl, e']
        by_cases hB2 : wCl D t 3 (wS D t 2 S)
        · exact ⟨0, x1 hB2, fun h => absurd hB2 h.2.1.2, fun _ => rfl⟩
        · obtain ⟨l2, hl2, e2⟩ := x2 hB2
          rw [show 2 + 1 = 3 from rfl, e2, f58_b36, if_pos (by decide), of_s]
          obtain ⟨u, u1, u2, u3⟩ := ih (t + 1) F l2 _ (by omega) (by omega) hl2
          exact ⟨u, u1, fun h => u2 h.2.2, fun h => u3 (fun hh => h ⟨hE, ⟨hB, hB2⟩, hh⟩)⟩
    · rw [v3 hE, if_neg z00]
      exact ⟨0, rfl, fun h => absurd h.1 hE, fun _ => rfl⟩
theorem K58 (hN : 2000 ≤ N) (hD : ∀ k, k < 256 → I (d + 1) k = D k) (hw : D 0 = 0 → LW D) : ∃ v : Int32, f58 kad N Z d I = some (v, I) ∧ (isWh D → v = 1) ∧ (¬ isWh D → v = 0) := by
  have h0 := f43_ok (kad := kad) (N := N) (Z := Z) (d := d) (J := I) (b := 0) (p := 0) (by decide) (by decide)
  unfold f58
  rw [show f43 kad N Z d (0 : Int32) (0 : Int32) I = some (I (d + 1) 0, I) from h0, Option.bind_some, hD 0 (by decide)]
  dsimp only
  by_cases hz : D 0 = 0
  · rw [if_pos hz]
    obtain ⟨v, v1, v2, v3⟩ := K58_l (kad := kad) (Z := Z) hN hD (hw hz) 6 0 N 255 S255 rfl (by omega) L64_255
    exact ⟨v, v1, fun h => v2 h.2, fun h => v3 (fun hh => h ⟨hz, hh⟩)⟩
  · rw [if_neg hz]
    exact ⟨0, rfl, fun h => absurd h.1 hz, fun _ => rfl⟩
end IW
