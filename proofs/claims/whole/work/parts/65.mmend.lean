/-! the model mends a disk -/
def wpN (D : Nat → Int32) (bs : Nat → Nat) (f : Nat → Int32) : Nat → (Nat → Int32)
  | 0 => D
  | k + 1 => wP (wpN D bs f k) (8 * bs (k / 8) + k % 8) (f k)
theorem wpN_lo {D : Nat → Int32} {bs : Nat → Nat} {f : Nat → Int32} {n k : Nat} (hb : ∀ k, k < n → 4 ≤ bs k ∧ bs k < 32) (hk : k < 32) : ∀ i, i ≤ 8 * n → wpN D bs f i k = D k := by
  intro i
  induction i with
  | zero => intro _; rfl
  | succ i ih =>
    intro hi
    unfold wpN
    have := (hb (i / 8) (by omega)).1
    rw [wP_ne (by omega)]
    exact ih (by omega)
theorem wpN_in {D : Nat → Int32} {bs : Nat → Nat} {f : Nat → Int32} {i : Nat} : ∀ r, r ≤ 8 → ∀ j, wpN D bs f (8 * i + r) j = if 8 * bs i ≤ j ∧ j < 8 * bs i + r then f (8 * i + (j - 8 * bs i)) else wpN D bs f (8 * i) j := by
  intro r
  induction r with
  | zero =>
    intro _ j
    rw [if_neg (by omega)]
    rfl
  | succ r ih =>
    intro hr j
    show wP (wpN D bs f (8 * i + r)) (8 * bs ((8 * i + r) / 8) + (8 * i + r) % 8) (f (8 * i + r)) j = _
    rw [show (8 * i + r) / 8 = i from by omega, show (8 * i + r) % 8 = r from by omega]
    by_cases hj : j = 8 * bs i + r
    · rw [hj, wP_eq, if_pos (by omega)]
      congr 1
      omega
    · rw [wP_ne hj, ih (by omega)]
      by_cases h2 : 8 * bs i ≤ j ∧ j < 8 * bs i + r
      · rw [if_pos h2, if_pos (by omega)]
      · rw [if_neg h2, if_neg (by omega)]
theorem wpN_eq {D : Nat → Int32} {bs : Nat → Nat} {f : Nat → Int32} : ∀ i, wpN D bs f (8 * i) = apD D bs f i := by
  intro i
  induction i with
  | zero => rfl
  | succ i ih =>
    funext j
    rw [show 8 * (i + 1) = 8 * i + 8 from by omega, wpN_in 8 (by omega) j, ih]
    rfl
theorem hd_memf {b : Nat} {m : Nat → Int32} {J : AI} : hd (memf J b m) b 8 (fun _ => 0) = memf J b (kB m 0 (fun _ => 0)) := by
  funext c k
  unfold hd
  by_cases hc : c = b
  · subst hc
    rw [memf_at, memf_at]
    unfold kB
    by_cases hk : k < 8
    · rw [if_pos ⟨rfl, hk⟩, if_pos (by omega)]
    · rw [if_neg (fun hh => hk hh.2), if_neg (by omega)]
  · rw [if_neg (fun hh => hc hh.1), memf_b hc, memf_b hc]
section MM
variable {kad : Nat → Nat} {N : Nat} {Z : AZ} {m : Nat} {I : AI}
theorem M252_l {n : Nat} (hn : n ≤ 3) (h0 : I (m + 24) 0 = Int32.ofNat n) : ∀ (q i F : Nat) (acc : Int32), i + q = 8 * n → q < F → f252_b30 kad N Z F m acc (Int32.ofNat i) I = some (sSum (fun i => I (m + 24) (8 + i)) q i acc - sSum (fun i => I (m + 24) (8 + i)) q i acc / (65536 : Int32) * (65536 : Int32), I) := by
  intro q
  induction q with
  | zero =>
    intro i F acc hi hF
    obtain ⟨F, rfl⟩ : ∃ G, F = G + 1 := ⟨F - 1, by omega⟩
    unfold f252_b30
    rw [show ixA 256 (0 : Int32) = some 0 from by decide, Option.bind_some, h0, show (8 : Int32) * Int32.ofNat n = Int32.ofNat (8 * n) from eM 8 n, if_pos ((of_le (by omega) (by omega)).mpr (by omega)), sS_0]
  | succ q ih =>
    intro i F acc hi hF
    obtain ⟨F, rfl⟩ : ∃ G, F = G + 1 := ⟨F - 1, by omega⟩
    unfold f252_b30
    rw [show ixA 256 (0 : Int32) = some 0 from by decide, Option.bind_some, h0, show (8 : Int32) * Int32.ofNat n = Int32.ofNat (8 * n) from eM 8 n, if_neg (fun h => absurd ((of_le (by omega) (by omega)).mp h) (by omega)), show (8 : Int32) + Int32.ofNat i = Int32.ofNat (8 + i) from eA 8 i, ixA_of (by omega), Option.bind_some, of_s, sS_1]
    exact ih (i + 1) F _ (by omega) (by omega)
theorem M253_e (hN : 2000 ≤ N) {W : Nat → Int32} {r : Int32} {J : AI} : f253_b99 kad N Z m r (memf J (m + 24) W) = some (r, up2 (memf J (m + 24) (kB W 0 (fun _ => 0))) m 52 (J m 52 + r)) := by
  unfold f253_b99
  rw [M251_0 hN, Option.bind_some]
  dsimp only
  rw [hd_memf]
  unfold wI
  rw [Option.bind_some, memf_b (show ¬ m = m + 24 by omega)]
theorem M253_w (hN : 2000 ≤ N) {n : Nat} {bs : Nat → Nat} {f : Nat → Int32} (h : DLg n bs f (I (m + 24))) {r : Int32} : ∀ (q i F : Nat), i + q = 8 * n → q < F → f253_b47 kad N Z F m r (Int32.ofNat i) (memf I (m + 24) (wpN (I (m + 24)) bs f i)) = some (r, up2 (memf I (m + 24) (mD (I (m + 24)) bs f n)) m 52 (I m 52 + r)) := by
  obtain ⟨⟨⟨n1, n3⟩, r1, r2⟩, fw, lg, hh, -, -⟩ := id h
  have e0 : I (m + 24) 0 = Int32.ofNat n := by
    rw [hh 0 (by decide)]
    unfold sHd
    rw [if_neg (by decide), if_pos rfl]
  intro q
  induction q with
  | zero =>
    intro i F hi hF
    obtain ⟨F, rfl⟩ : ∃ G, F = G + 1 := ⟨F - 1, by omega⟩
    unfold f253_b47
    rw [show ixA 256 (0 : Int32) = some 0 from by decide, Option.bind_some, memf_at, wpN_lo r2 (by decide) i (by omega), e0, show (8 : Int32) * Int32.ofNat n = Int32.ofNat (8 * n) from eM 8 n, if_pos ((of_le (by omega) (by omega)).mpr (by omega)), M253_e hN, show i = 8 * n from by omega, wpN_eq]
    rfl
  | succ q ih =>
    intro i F hi hF
    obtain ⟨F, rfl⟩ : ∃ G, F = G + 1 := ⟨F - 1, by omega⟩
    have hb := r2 (i / 8) (by omega)
    have e1 : I (m + 24) (1 + i / 8) = Int32.ofNat (bs (i / 8)) := by
      rw [hh (1 + i / 8) (by omega)]
      unfold sHd
      rw [if_neg (by omega), if_neg (by omega), if_pos (by omega), show 1 + i / 8 - 1 = i / 8 from by omega]
    unfold f253_b47
    rw [show ixA 256 (0 : Int32) = some 0 from by decide, Option.bind_some, memf_at, wpN_lo r2 (by decide) i (by omega), e0, show (8 : Int32) * Int32.ofNat n = Int32.ofNat (8 * n) from eM 8 n, if_neg (fun h => absurd ((of_le (by omega) (by omega)).mp h) (by omega)), show Int32.ofNat i - Int32.ofNat i / (8 : Int32) * (8 : Int32) = Int32.ofNat (i % 8) from eR (n := 8) (by omega) (by decide) (by decide), show Int32.ofNat i / (8 : Int32) = Int32.ofNat (i / 8) from eD (n := 8) (by omega) (by decide) (by decide), show (1 : Int32) + Int32.ofNat (i / 8) = Int32.ofNat (1 + i / 8) from eA 1 _, ixA_of (by omega), Option.bind_some, show (8 : Int32) + Int32.ofNat i = Int32.ofNat (8 + i) from eA 8 i, ixA_of (by omega), Option.bind_some, wpN_lo r2 (show 1 + i / 8 < 32 by omega) i (by omega), e1, show (8 : Int32) * Int32.ofNat (bs (i / 8)) = Int32.ofNat (8 * bs (i / 8)) from eM 8 _, eA, ixA_of (by omega), Option.bind_some, wpN_lo r2 (show 8 + i < 32 by omega) i (by omega), h.log (by omega)]
    unfold wI
    rw [Option.bind_some, memf_up, of_s]
    exact ih (i + 1) F (by omega) (by omega)
theorem M253_0 (h0 : I (m + 24) 0 = 0) : f253 kad N Z m I = some (0, I) := by
  unfold f253
  rw [show ixA 256 (0 : Int32) = some 0 from by decide, Option.bind_some, h0, if_neg z00]
theorem M253_1 (hN : 2000 ≤ N) {n : Nat} {bs : Nat → Nat} {f : Nat → Int32} (h : DLg n bs f (I (m + 24))) : f253 kad N Z m I = some (Int32.ofNat (n + 1), up2 (memf I (m + 24) (mD (I (m + 24)) bs f n)) m 52 (I m 52 + Int32.ofNat (n + 1))) := by
  obtain ⟨⟨⟨n1, n3⟩, r1, r2⟩, fw, lg, hh, -, -⟩ := id h
  have e0 : I (m + 24) 0 = Int32.ofNat n := by
    rw [hh 0 (by decide)]
    unfold sHd
    rw [if_neg (by decide), if_pos rfl]
  have e4 : I (m + 24) 4 = (sSum f (8 * n) 0 (sSum (fun i => Int32.ofNat (bs i)) n 0 (Int32.ofNat n))) &&& 65535 := by
    rw [hh 4 (by decide)]
    unfold sHd
    rw [if_pos rfl]
  unfold f253
  rw [show ixA 256 (0 : Int32) = some 0 from by decide, Option.bind_some, Option.bind_some, e0, if_pos (of_nz (by omega) (by omega)), if_neg (show ¬ (3 : Int32) < Int32.ofNat n from fun hh => absurd ((of_lt (m := 3) (by decide) (by omega)).mp hh) (by omega))]
  have hl : f252 kad N Z m I = some (I (m + 24) 4, I) := by
    unfold f252
    rw [show ixA 256 (0 : Int32) = some 0 from by decide, show ixA 256 (1 : Int32) = some 1 from by decide, show ixA 256 (2 : Int32) = some 2 from by decide, show ixA 256 (3 : Int32) = some 3 from by decide, Option.bind_some, Option.bind_some, Option.bind_some, Option.bind_some]
    have es : I (m + 24) 0 + I (m + 24) 1 + I (m + 24) 2 + I (m + 24) 3 = sSum (I (m + 24)) 4 0 0 := by
      rw [sS_1, sS_1, sS_1, sS_1, sS_0]
      grind
    rw [es, h.sum, show (0 : Int32) = Int32.ofNat 0 from rfl, M252_l n3 e0 (8 * n) 0 N _ (by omega) (by omega), sSum_cong (B := 8 * n) (fun k hk => h.log hk) (8 * n) 0 _ (by omega), e4]
    obtain ⟨a1, e1, l1⟩ := sSum_n (f := fun i => Int32.ofNat (bs i)) (B := n) (fun k hk => wd_nat (by have := (r2 k hk).2; omega)) n 0 n (by omega)
    rw [e1]
    obtain ⟨a2, e2, l2⟩ := sSum_n fw (8 * n) 0 a1 (by omega)
    rw [e2, show Int32.ofNat a2 - Int32.ofNat a2 / (65536 : Int32) * (65536 : Int32) = Int32.ofNat (a2 % 65536) from eR (n := 65536) (by omega) (by decide) (by decide)]
    have := and_m (x := Int32.ofNat a2) (mm := 65535) (k := 16) (of_nn (by omega)) (by decide) (by decide)
    rw [nT_of (by omega)] at this
    rw [this]
  rw [hl, Option.bind_some]
  dsimp only
  rw [show ixA 256 (4 : Int32) = some 4 from by decide, Option.bind_some, if_neg (fun hh => hh rfl), Option.bind_some, e0, show (1 : Int32) + Int32.ofNat n = Int32.ofNat (n + 1) from by rw [show (1 : Int32) + Int32.ofNat n = Int32.ofNat (1 + n) from eA 1 n]; congr 1; omega]
  have := M253_w (kad := kad) (N := N) (Z := Z) hN h (r := Int32.ofNat (n + 1)) (8 * n) 0 N (by omega) (by omega)
  rw [show wpN (I (m + 24)) bs f 0 = I (m + 24) from rfl, memf_id] at this
  exact this
end MM
