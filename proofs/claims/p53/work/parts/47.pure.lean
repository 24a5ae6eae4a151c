/-! the file calls as numbers alone: what the disk will be, and which blocks are changed -/
def wP (W : Nat → Int32) (i : Nat) (v : Int32) : Nat → Int32 := fun k => if k = i then v else W k
def sA (S : Nat → Bool) (b : Nat) : Nat → Bool := fun c => S c || decide (c = b)
def sN : Nat → Bool := fun _ => false
def wZ (W : Nat → Int32) (b n : Nat) : Nat → Int32 := fun k => if 8 * b ≤ k ∧ k < 8 * b + n then 0 else W k
def wOn (W : Nat → Int32) (b : Nat) : Nat → Int32 := wP W (32 + b / 16) (W (32 + b / 16) ||| sMask (Int32.ofNat b))
def wOff (W : Nat → Int32) (b : Nat) : Nat → Int32 := wP W (32 + b / 16) (W (32 + b / 16) &&& (sMask (Int32.ofNat b) ^^^ Int32.ofInt (-1)))
theorem wP_eq {W : Nat → Int32} {i : Nat} {v : Int32} : wP W i v i = v := by
  unfold wP
  rw [if_pos rfl]
theorem wP_ne {W : Nat → Int32} {i k : Nat} {v : Int32} (h : ¬ k = i) : wP W i v k = W k := by
  unfold wP
  rw [if_neg h]
theorem wZ_s {W : Nat → Int32} {b n : Nat} : wP (wZ W b n) (8 * b + n) 0 = wZ W b (n + 1) := by
  funext k
  unfold wP wZ
  by_cases h : k = 8 * b + n
  · rw [if_pos h, if_pos (by omega)]
  · rw [if_neg h]
    by_cases h2 : 8 * b ≤ k ∧ k < 8 * b + n
    · rw [if_pos h2, if_pos (by omega)]
    · rw [if_neg h2, if_neg (by omega)]
theorem wZ_0 {W : Nat → Int32} {b : Nat} : wZ W b 0 = W := by
  funext k
  unfold wZ
  rw [if_neg (by omega)]
theorem sA_2 {S : Nat → Bool} {b : Nat} : sA (sA S b) b = sA S b := by
  funext c
  unfold sA
  rw [Bool.or_assoc, Bool.or_self]
/-! bits of masks -/
theorem dB_ext {x y : Int32} (h : ∀ k, k < 32 → dB x k = dB y k) : x = y := by
  apply Int32.toBitVec_inj.mp
  apply BitVec.eq_of_getLsbD_eq
  intro i hi
  exact h i hi
theorem dB_or {x y : Int32} {k : Nat} : dB (x ||| y) k = (dB x k || dB y k) := by
  unfold dB
  rw [Int32.toBitVec_or, BitVec.getLsbD_or]
theorem dB_and {x y : Int32} {k : Nat} : dB (x &&& y) k = (dB x k && dB y k) := by
  unfold dB
  rw [Int32.toBitVec_and, BitVec.getLsbD_and]
theorem dB_xor {x y : Int32} {k : Nat} : dB (x ^^^ y) k = (dB x k ^^ dB y k) := by
  unfold dB
  rw [Int32.toBitVec_xor, BitVec.getLsbD_xor]
theorem mask_b : ∀ b k : Fin 32, dB (sMask (Int32.ofNat b.1)) k.1 = decide (k.1 = b.1 % 16) := by decide +kernel
theorem one_b : ∀ b k : Fin 32, dB ((1 : Int32) <<< (Int32.ofNat b.1 &&& 31)) k.1 = decide (k.1 = b.1) := by decide +kernel
theorem b16_b : ∀ k : Fin 32, dB 16 k.1 = decide (k.1 = 4) := by decide +kernel
theorem m1_b : ∀ k : Fin 32, dB (Int32.ofInt (-1)) k.1 = true := by decide +kernel
theorem or_xor {x : Int32} {b : Nat} (hb : b < 32) (h : dB x (b % 16) = false) : x ||| sMask (Int32.ofNat b) = x ^^^ sMask (Int32.ofNat b) := by
  apply dB_ext
  intro k hk
  have e := mask_b ⟨b, hb⟩ ⟨k, hk⟩
  dsimp only at e
  rw [dB_or, dB_xor, e]
  by_cases h2 : k = b % 16
  · rw [show dB x k = false from by rw [h2]; exact h]
    simp
  · simp [h2]
theorem an_xor {x : Int32} {b : Nat} (hb : b < 32) (h : dB x (b % 16) = true) : x &&& (sMask (Int32.ofNat b) ^^^ Int32.ofInt (-1)) = x ^^^ sMask (Int32.ofNat b) := by
  apply dB_ext
  intro k hk
  have e := mask_b ⟨b, hb⟩ ⟨k, hk⟩
  have e1 := m1_b ⟨k, hk⟩
  dsimp only at e e1
  rw [dB_and, dB_xor, dB_xor, e, e1]
  by_cases h2 : k = b % 16
  · rw [show dB x k = true from by rw [h2]; exact h]
    simp
  · simp [h2]
theorem wd_bits {x : Int32} (h : ∀ k, 16 ≤ k → k < 32 → dB x k = false) : wd x := by
  have h1 : x.toBitVec.toNat < 2 ^ 16 := by
    apply Nat.lt_pow_two_of_testBit
    intro i hi
    rw [BitVec.testBit_toNat]
    by_cases h2 : i < 32
    · exact h i hi h2
    · exact BitVec.getLsbD_of_ge _ _ (by omega)
  have h3 := bv_i x
  rw [if_pos (by omega)] at h3
  exact wd_of (by omega) (by omega)
theorem wd_or {x : Int32} (h : wd x) {b : Nat} (hb : b < 32) : wd (x ||| sMask (Int32.ofNat b)) := by
  apply wd_bits
  intro k h1 h2
  have e := mask_b ⟨b, hb⟩ ⟨k, h2⟩
  dsimp only at e
  rw [dB_or, wd_hi h h1, e]
  simp only [Bool.false_or, decide_eq_false_iff_not]
  omega
theorem wd_an {x y : Int32} (h : wd x) : wd (x &&& y) := by
  apply wd_bits
  intro k h1 _
  rw [dB_and, wd_hi h h1, Bool.false_and]
theorem uB_on {W : Nat → Int32} {b c : Nat} (hb : b < 32) (hc : c < 32) : uB (wOn W b) c = (uB W c || decide (c = b)) := by
  unfold uB wOn
  by_cases h : c / 16 = b / 16
  · rw [h, wP_eq, dB_or]
    have e := mask_b ⟨b, hb⟩ ⟨c % 16, by omega⟩
    dsimp only at e
    rw [e]
    congr 1
    exact decide_eq_decide.mpr (by omega)
  · rw [wP_ne (by omega), show decide (c = b) = false from decide_eq_false (fun hh => h (by rw [hh])), Bool.or_false]
theorem uB_off {W : Nat → Int32} {b c : Nat} (hb : b < 32) (hc : c < 32) : uB (wOff W b) c = (uB W c && !decide (c = b)) := by
  unfold uB wOff
  by_cases h : c / 16 = b / 16
  · rw [h, wP_eq, dB_and, dB_xor]
    have e := mask_b ⟨b, hb⟩ ⟨c % 16, by omega⟩
    have e1 := m1_b ⟨c % 16, by omega⟩
    dsimp only at e e1
    rw [e, e1, Bool.xor_true]
    congr 2
    exact decide_eq_decide.mpr (by omega)
  · rw [wP_ne (by omega), show decide (c = b) = false from decide_eq_false (fun hh => h (by rw [hh])), Bool.not_false, Bool.and_true]
theorem uB_P {W : Nat → Int32} {i c : Nat} {v : Int32} (h : ¬ i = 32 + c / 16) : uB (wP W i v) c = uB W c := by
  unfold uB
  rw [wP_ne (fun hh => h hh.symm)]
theorem uB_Z {W : Nat → Int32} {b n c : Nat} (hb : 8 ≤ b) (hc : c < 32) : uB (wZ W b n) c = uB W c := by
  unfold uB wZ
  rw [if_neg (by omega)]
/-! the class's two rows: what will be, and what is marked -/
def CW (X : AI) (W : Nat → Int32) (S : Nat → Bool) : Prop := (∀ k, k < 256 → X 14 k = W k) ∧ (∀ b, b < 32 → (X 15 b = 0 ↔ S b = false))
theorem CW.put {X : AI} {W : Nat → Int32} {S : Nat → Bool} (h : CW X W S) {b p : Nat} (hb : b < 32) (v : Int32) : CW (sPut (Int32.ofNat b) p v X) (wP W (8 * b + p) v) (sA S b) := by
  obtain ⟨h1, h2⟩ := h
  unfold sPut
  rw [if_neg (of_nn (by omega)), if_neg (show ¬ (32 : Int32) ≤ Int32.ofNat b from fun hh => absurd ((of_le (m := 32) (by decide) (by omega)).mp hh) (by omega)), show nT (Int32.ofNat b) = b from nT_of (by omega)]
  refine ⟨fun k hk => ?_, fun c hc => ?_⟩
  · rw [up2_b (by decide)]
    by_cases h : k = 8 * b + p
    · subst h
      rw [up2_eq, wP_eq]
    · rw [up2_ne (fun hh => h hh.2), wP_ne h]
      exact h1 k hk
  · unfold sA
    by_cases h : c = b
    · subst h
      rw [up2_eq, show decide (c = c) = true from decide_eq_true rfl, Bool.or_true]
      constructor
      · intro h; exact absurd h (by decide)
      · intro h; cases h
    · rw [up2_ne (fun hh => h hh.2), up2_b (by decide), show decide (c = b) = false from decide_eq_false h, Bool.or_false]
      exact h2 c hc
theorem CW.putw {X : AI} {W : Nat → Int32} {S : Nat → Bool} (h : CW X W S) {x : Int32} {p : Nat} (hb : nT x < 32) (hx : ¬ x < 0) (v : Int32) : CW (sPut x p v X) (wP W (8 * nT x + p) v) (sA S (nT x)) := by
  have := h.put (b := nT x) (p := p) hb v
  rwa [of_nT hx] at this
theorem CW.pe {X : AI} {W : Nat → Int32} {S : Nat → Bool} (h : CW X W S) {t w : Nat} (ht : t < 6) (v : Int32) : CW (sPE t w v X) (wP W (40 + 4 * t + w) v) (sA S (5 + t / 2)) := by
  have := h.put (b := 5 + t / 2) (p := 4 * (t % 2) + w) (by omega) v
  rwa [show 8 * (5 + t / 2) + (4 * (t % 2) + w) = 40 + 4 * t + w from by omega] at this
theorem p16 {b : Nat} (hb : b < 32) : (if (16 : Int32) ≤ Int32.ofNat b then 1 else 0) = b / 16 := by
  by_cases h : 16 ≤ b
  · rw [if_pos (show (16 : Int32) ≤ Int32.ofNat b from (of_le (m := 16) (by decide) (by omega)).mpr h)]
    omega
  · rw [if_neg (show ¬ (16 : Int32) ≤ Int32.ofNat b from fun hh => h ((of_le (m := 16) (by decide) (by omega)).mp hh))]
    omega
theorem CW.on {X : AI} {W : Nat → Int32} {S : Nat → Bool} (h : CW X W S) {b : Nat} (hb : b < 32) : CW (sUse (Int32.ofNat b) true X) (wOn W b) (sA S 4) := by
  unfold sUse wOn
  rw [if_neg (of_nn (by omega)), if_neg (show ¬ (32 : Int32) ≤ Int32.ofNat b from fun hh => absurd ((of_le (m := 32) (by decide) (by omega)).mp hh) (by omega))]
  dsimp only
  rw [p16 hb, if_pos rfl, h.1 (32 + b / 16) (by omega)]
  have := h.put (b := 4) (p := b / 16) (by decide) (W (32 + b / 16) ||| sMask (Int32.ofNat b))
  exact this
theorem CW.off {X : AI} {W : Nat → Int32} {S : Nat → Bool} (h : CW X W S) {b : Nat} (hb : b < 32) : CW (sUse (Int32.ofNat b) false X) (wOff W b) (sA S 4) := by
  unfold sUse wOff
  rw [if_neg (of_nn (by omega)), if_neg (show ¬ (32 : Int32) ≤ Int32.ofNat b from fun hh => absurd ((of_le (m := 32) (by decide) (by omega)).mp hh) (by omega))]
  dsimp only
  rw [p16 hb, if_neg (by decide), h.1 (32 + b / 16) (by omega)]
  have := h.put (b := 4) (p := b / 16) (by decide) (W (32 + b / 16) &&& (sMask (Int32.ofNat b) ^^^ Int32.ofInt (-1)))
  exact this
theorem CW.zero {X : AI} {W : Nat → Int32} {S : Nat → Bool} (h : CW X W S) {b : Nat} (hb : b < 32) : ∀ n, CW (sZero (Int32.ofNat b) (n + 1) X) (wZ W b (n + 1)) (sA S b) := by
  intro n
  induction n with
  | zero =>
    have := h.put (p := 0) hb 0
    have e := wZ_s (W := W) (b := b) (n := 0)
    rw [wZ_0] at e
    rw [e] at this
    exact this
  | succ n ih =>
    have := ih.put (p := n + 1) hb 0
    rw [wZ_s, sA_2] at this
    exact this
/-! what is whole of a disk, as far as file calls need it -/
def LWe (D : Nat → Int32) (t : Nat) : Prop := (D (40 + 4 * t) = 0 → D (40 + 4 * t + 1) = 0 ∧ D (40 + 4 * t + 2) = 0 ∧ D (40 + 4 * t + 3) = 0) ∧ nT (D (40 + 4 * t + 1)) ≤ 16 ∧ (D (40 + 4 * t + 2) = 0 ↔ nT (D (40 + 4 * t + 1)) = 0) ∧ (D (40 + 4 * t + 3) = 0 ↔ nT (D (40 + 4 * t + 1)) ≤ 8) ∧ (∀ i, (i = 2 ∨ i = 3) → ¬ D (40 + 4 * t + i) = 0 → 8 ≤ nT (D (40 + 4 * t + i)) ∧ nT (D (40 + 4 * t + i)) < 32)
def LW (D : Nat → Int32) : Prop := (∀ k, k < 256 → wd (D k)) ∧ (∀ t, t < 6 → LWe D t)
/-- no name is there twice; the map tells the blocks 0 to 7 and those of files -/
def WN (D : Nat → Int32) : Prop := ∀ t t', t < 6 → t' < 6 → ¬ D (40 + 4 * t) = 0 → D (40 + 4 * t) = D (40 + 4 * t') → t = t'
def WM (D : Nat → Int32) : Prop := ∀ c, c < 32 → (uB D c = true ↔ (c < 8 ∨ ∃ t i, t < 6 ∧ (i = 2 ∨ i = 3) ∧ ¬ D (40 + 4 * t + i) = 0 ∧ nT (D (40 + 4 * t + i)) = c))
def WX (D : Nat → Int32) : Prop := WN D ∧ WM D
theorem WN.same {D E : Nat → Int32} (h : WN D) (e : ∀ t, t < 6 → E (40 + 4 * t) = D (40 + 4 * t)) : WN E := fun t t' h1 h2 h3 h4 => by
  rw [e t h1] at h3 h4
  rw [e t' h2] at h4
  exact h t t' h1 h2 h3 h4
theorem WN.put {D E : Nat → Int32} {t : Nat} (h : WN D) (o : ∀ t', t' < 6 → ¬ t' = t → E (40 + 4 * t') = D (40 + 4 * t')) (n : ¬ E (40 + 4 * t) = 0 → ∀ t', t' < 6 → ¬ t' = t → ¬ E (40 + 4 * t) = D (40 + 4 * t')) : WN E := fun t1 t2 h1 h2 h3 h4 => by
  by_cases e1 : t1 = t
  · by_cases e2 : t2 = t
    · rw [e1, e2]
    · rw [o t2 h2 e2, e1] at h4
      rw [e1] at h3
      exact absurd h4 (n h3 t2 h2 e2)
  · by_cases e2 : t2 = t
    · rw [o t1 h1 e1, e2] at h4
      rw [o t1 h1 e1] at h3
      exact absurd h4.symm (n (by rw [← h4]; exact h3) t1 h1 e1)
    · rw [o t1 h1 e1, o t2 h2 e2] at h4
      rw [o t1 h1 e1] at h3
      exact h t1 t2 h1 h2 h3 h4
theorem WM.same {D E : Nat → Int32} (h : WM D) (u : ∀ c, c < 32 → uB E c = uB D c) (e : ∀ t i, t < 6 → (i = 2 ∨ i = 3) → E (40 + 4 * t + i) = D (40 + 4 * t + i)) : WM E := fun c hc => by
  rw [u c hc, h c hc]
  constructor
  · rintro (h1 | ⟨t, i, h1, h2, h3, h4⟩)
    · exact Or.inl h1
    · exact Or.inr ⟨t, i, h1, h2, by rw [e t i h1 h2]; exact h3, by rw [e t i h1 h2]; exact h4⟩
  · rintro (h1 | ⟨t, i, h1, h2, h3, h4⟩)
    · exact Or.inl h1
    · rw [e t i h1 h2] at h3 h4
      exact Or.inr ⟨t, i, h1, h2, h3, h4⟩
def WF (D : Nat → Int32) : Prop := LW D ∧ (∀ t i, t < 6 → (i = 2 ∨ i = 3) → ¬ D (40 + 4 * t + i) = 0 → uB D (nT (D (40 + 4 * t + i))) = true) ∧ (∀ t i t' i', t < 6 → t' < 6 → (i = 2 ∨ i = 3) → (i' = 2 ∨ i' = 3) → ¬ D (40 + 4 * t + i) = 0 → D (40 + 4 * t + i) = D (40 + 4 * t' + i') → t = t' ∧ i = i') ∧ WX D
theorem LWe.cong {D E : Nat → Int32} {t : Nat} (h : ∀ i, i < 4 → E (40 + 4 * t + i) = D (40 + 4 * t + i)) (hl : LWe D t) : LWe E t := by
  have h0 : E (40 + 4 * t) = D (40 + 4 * t) := h 0 (by decide)
  obtain ⟨a1, a2, a3, a4, a5⟩ := hl
  unfold LWe
  rw [h0, h 1 (by decide), h 2 (by decide), h 3 (by decide)]
  refine ⟨a1, a2, a3, a4, fun i hi => ?_⟩
  rw [h i (by omega)]
  exact a5 i hi
/-- the place of a word of a file: its block's number -/
theorem LWe.blk {D : Nat → Int32} {t p : Nat} (h : LWe D t) (hp : p < nT (D (40 + 4 * t + 1))) : ¬ D (40 + 4 * t + (2 + p / 8)) = 0 ∧ 8 ≤ nT (D (40 + 4 * t + (2 + p / 8))) ∧ nT (D (40 + 4 * t + (2 + p / 8))) < 32 := by
  obtain ⟨a1, a2, a3, a4, a5⟩ := h
  by_cases h8 : p < 8
  · have e : 2 + p / 8 = 2 := by omega
    rw [e]
    have hn : ¬ D (40 + 4 * t + 2) = 0 := fun hh => by have := a3.mp hh; omega
    exact ⟨hn, a5 2 (Or.inl rfl) hn⟩
  · have e : 2 + p / 8 = 3 := by omega
    rw [e]
    have hn : ¬ D (40 + 4 * t + 3) = 0 := fun hh => by have := a4.mp hh; omega
    exact ⟨hn, a5 3 (Or.inr rfl) hn⟩
/-- likewise where the last block isn't full -/
theorem LWe.blk2 {D : Nat → Int32} {t p : Nat} (h : LWe D t) (hp : p = nT (D (40 + 4 * t + 1))) (h16 : p < 16) (h8 : ¬ p % 8 = 0) : ¬ D (40 + 4 * t + (2 + p / 8)) = 0 ∧ 8 ≤ nT (D (40 + 4 * t + (2 + p / 8))) ∧ nT (D (40 + 4 * t + (2 + p / 8))) < 32 := by
  obtain ⟨a1, a2, a3, a4, a5⟩ := h
  by_cases h9 : p < 8
  · have e : 2 + p / 8 = 2 := by omega
    rw [e]
    have hn : ¬ D (40 + 4 * t + 2) = 0 := fun hh => by have := a3.mp hh; omega
    exact ⟨hn, a5 2 (Or.inl rfl) hn⟩
  · have e : 2 + p / 8 = 3 := by omega
    rw [e]
    have hn : ¬ D (40 + 4 * t + 3) = 0 := fun hh => by have := a4.mp hh; omega
    exact ⟨hn, a5 3 (Or.inr rfl) hn⟩
