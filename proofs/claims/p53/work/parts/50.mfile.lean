/-! the model's file calls -/
theorem lI_at {Z : AZ} {I : AI} {b n k : Nat} (hZ : Z.1 b = some (100, n)) (hk : k < n) (hn : n < 2147483648 := by decide) : lI Z I 100 b (Int32.ofNat k) = some (I b k) := by
  have h1 : nT (Int32.ofNat k) = k := nT_of (by omega)
  simp only [lI, hZ]
  rw [if_pos ⟨trivial, by rintro (h | h); exact of_nn (by omega) h; have h9 : n ≤ nT (Int32.ofNat k) := h; rw [h1] at h9; omega⟩]
  rw [show (Int32.ofNat k).toNatClampNeg = k from h1]
theorem eA (a b : Nat) : Int32.ofNat a + Int32.ofNat b = Int32.ofNat (a + b) := (Int32.ofNat_add a b).symm
theorem eM (a b : Nat) : Int32.ofNat a * Int32.ofNat b = Int32.ofNat (a * b) := (Int32.ofNat_mul a b).symm
theorem eD {c n : Nat} (hc : c < 2147483648) (hn : 0 < n) (hn2 : n < 2147483648) : Int32.ofNat c / Int32.ofNat n = Int32.ofNat (c / n) := by
  apply Int32.toInt_inj.mp
  have h1 : c / n ≤ c := Nat.div_le_self _ _
  rw [div_i (of_nn hc) hn hn2, Int32.toInt_ofNat_of_lt hc, Int32.toInt_ofNat_of_lt (by omega), Int.natCast_ediv]
theorem eR {c n : Nat} (hc : c < 2147483648) (hn : 0 < n) (hn2 : n < 2147483648) : Int32.ofNat c - Int32.ofNat c / Int32.ofNat n * Int32.ofNat n = Int32.ofNat (c % n) := by
  rw [mod_n (of_nn hc) hn hn2, nT_of hc]
def oneB (b : Nat) : Int32 := (1 : Int32) <<< (Int32.ofNat b &&& 31)
/-- the set that a number tells -/
def mS (v : Int32) (S : Nat → Bool) : Prop := ∀ b, b < 32 → dB v b = S b
theorem mS.one {b : Nat} (hb : b < 32) : mS (oneB b) (sA sN b) := fun c hc => by
  have e := one_b ⟨b, hb⟩ ⟨c, hc⟩
  dsimp only at e
  unfold oneB
  rw [e]
  unfold sA sN
  rw [Bool.false_or]
theorem mS.or1 {v : Int32} {S : Nat → Bool} (h : mS v S) {b : Nat} (hb : b < 32) : mS (v ||| oneB b) (sA S b) := fun c hc => by
  have e := one_b ⟨b, hb⟩ ⟨c, hc⟩
  dsimp only at e
  unfold oneB
  rw [dB_or, e, h c hc]
  rfl
theorem mS.or16 {v : Int32} {S : Nat → Bool} (h : mS v S) : mS (v ||| 16) (sA S 4) := fun c hc => by
  have e := b16_b ⟨c, hc⟩
  dsimp only at e
  rw [dB_or, e, h c hc]
  rfl
theorem mS.cong {v : Int32} {S T : Nat → Bool} (h : mS v S) (he : ∀ c, c < 32 → (S c = true ↔ T c = true)) : mS v T := fun c hc => by
  rw [h c hc]
  exact Bool.eq_iff_iff.mpr (he c hc)
/-- the model's row of what will be -/
def MW (m : Nat) (J0 J : AI) (W : Nat → Int32) : Prop := (∀ k, k < 256 → J (m + 25) k = W k) ∧ (∀ b, ¬ b = m + 25 → J b = J0 b)
theorem MW.up {m : Nat} {J0 J : AI} {W : Nat → Int32} {k : Nat} {v : Int32} (h : MW m J0 J W) : MW m J0 (up2 J (m + 25) k v) (wP W k v) := by
  refine ⟨fun j hj => ?_, fun b hb => ?_⟩
  · by_cases e : j = k
    · subst e
      rw [up2_eq, wP_eq]
    · rw [up2_ne (fun hh => e hh.2), wP_ne e]
      exact h.1 j hj
  · rw [up2_b hb]
    exact h.2 b hb
theorem wP_id {W : Nat → Int32} {k : Nat} {v : Int32} (h : W k = v) : wP W k v = W := by
  funext j
  unfold wP
  split
  · rename_i e
    rw [e, h]
  · rfl
section MF
variable {kad : Nat → Nat} {N : Nat} {Z : AZ} {m : Nat} {I J J0 : AI} {D W : Nat → Int32}
end MF
