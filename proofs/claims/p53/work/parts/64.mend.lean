/-! a disk is mended, by both -/
theorem kB_up {D : Nat → Int32} {b : Nat} {g : Nat → Int32} {k : Nat} : kB D b g k = if 8 * b ≤ k ∧ k < 8 * b + 8 then g (k - 8 * b) else D k := rfl
theorem WF.c256 {D E : Nat → Int32} (h : WF D) (he : ∀ k, k < 256 → E k = D k) : WF E := h.cong256 he
/-- a disk with a full log -/
def DLg (n : Nat) (bs : Nat → Nat) (f D : Nat → Int32) : Prop := ((1 ≤ n ∧ n ≤ 3) ∧ (∀ j k, j < k → k < n → bs j < bs k) ∧ (∀ k, k < n → 4 ≤ bs k ∧ bs k < 32)) ∧ (∀ k, k < 8 * n → wd (f k)) ∧ (∀ i p, i < n → p < 8 → D (8 * (1 + i) + p) = f (8 * i + p)) ∧ (∀ k, k < 8 → D k = sHd n (fun i => Int32.ofNat (bs i)) f k) ∧ LW D ∧ WF (apD D bs f n)
/-- a disk between calls, or when the machine went off -/
def DK (D : Nat → Int32) : Prop := (D 0 = 0 ∧ WF D) ∨ ∃ n bs f, DLg n bs f D
theorem FF.dk {X : AI} (h : FF X) : DK (X 9) := by
  rcases h with ⟨-, h⟩ | ⟨n, d, ⟨⟨⟨w1, w2, w3⟩, ⟨w4, w5⟩, w6, w7⟩, w8⟩, ⟨r1, r2⟩, a1, a2, a3, a4⟩
  · exact Or.inl h
  · by_cases hd : d ≤ n
    · exact Or.inl (a3 hd)
    · obtain ⟨l1, l2, l3⟩ := a4 (by omega)
      refine Or.inr ⟨n, bsX X, X 5, ⟨⟨w1, w2⟩, r1, fun k hk => ⟨r2 k hk, (w6 k hk).2⟩⟩, w7, fun i p hi hp => a2 i p hi (by omega) hp, fun k hk => ?_, l1, a1⟩
      rw [l2 k hk]
      exact congrFun (sHd_cong (fun i hi => (w6 i hi).1) (fun _ _ => rfl)) k
theorem DK.lw {D : Nat → Int32} (h : DK D) : LW D := by
  rcases h with ⟨-, h⟩ | ⟨n, bs, f, h⟩
  · exact h.1
  · exact h.2.2.2.2.1
theorem LW.cong {D E : Nat → Int32} (h : LW D) (he : ∀ k, k < 256 → E k = D k) : LW E := ⟨fun k hk => by rw [he k hk]; exact h.1 k hk, fun t ht => LWe.cong (fun i hi => he _ (by omega)) (h.2 t ht)⟩
def mD (D : Nat → Int32) (bs : Nat → Nat) (f : Nat → Int32) (n : Nat) : Nat → Int32 := kB (apD D bs f n) 0 (fun _ => 0)
theorem DLg.end {n : Nat} {bs : Nat → Nat} {f D : Nat → Int32} (h : DLg n bs f D) : mD D bs f n 0 = 0 ∧ WF (mD D bs f n) := by
  refine ⟨kB_in (b := 0) (p := 0) (by decide), h.2.2.2.2.2.log (fun k k1 k2 => kB_out (by omega)) (fun k hk => ?_)⟩
  unfold mD kB
  split
  · exact wd_0
  · exact h.2.2.2.2.2.1.1 k (by omega)
theorem sS_1 {f : Nat → Int32} {m i : Nat} {acc : Int32} : sSum f (m + 1) i acc = sSum f m (i + 1) (acc + f i) := rfl
theorem sS_0 {f : Nat → Int32} {i : Nat} {acc : Int32} : sSum f 0 i acc = acc := rfl
/-- the sum of the head's first words -/
theorem DLg.sum {n : Nat} {bs : Nat → Nat} {f D : Nat → Int32} (h : DLg n bs f D) : sSum D 4 0 0 = sSum (fun i => Int32.ofNat (bs i)) n 0 (Int32.ofNat n) := by
  obtain ⟨⟨⟨n1, n3⟩, -⟩, -, -, hh, -⟩ := h
  have h0 := hh 0 (by decide)
  have h1 := hh 1 (by decide)
  have h2 := hh 2 (by decide)
  have h3 := hh 3 (by decide)
  unfold sHd at h0 h1 h2 h3
  rw [if_neg (by decide), if_pos rfl] at h0
  rw [if_neg (by decide), if_neg (by decide)] at h1 h2 h3
  rw [sS_1, sS_1, sS_1, sS_1, sS_0, h0, h1, h2, h3]
  rcases (show n = 1 ∨ n = 2 ∨ n = 3 by omega) with rfl | rfl | rfl
  · rw [if_pos (by decide), if_neg (by decide), if_neg (by decide), sS_1, sS_0]
    grind
  · rw [if_pos (by decide), if_pos (by decide), if_neg (by decide), sS_1, sS_1, sS_0]
    grind
  · rw [if_pos (by decide), if_pos (by decide), if_pos (by decide), sS_1, sS_1, sS_1, sS_0]
    grind
theorem DLg.log {n : Nat} {bs : Nat → Nat} {f D : Nat → Int32} (h : DLg n bs f D) {i : Nat} (hi : i < 8 * n) : D (8 + i) = f i := by
  have := h.2.2.1 (i / 8) (i % 8) (by omega) (by omega)
  rw [show 8 * (1 + i / 8) + i % 8 = 8 + i from by omega, show 8 * (i / 8) + i % 8 = i from by omega] at this
  exact this
section MD
variable {kad : Nat → Nat} {N : Nat} {Z : AZ} {d : Nat} {I : AI}
theorem f43_n {b p : Nat} (hb : b < 32) (hp : p < 8) {J : AI} : f43 kad N Z d (Int32.ofNat b) (Int32.ofNat p) J = some (J (d + 1) (8 * b + p), J) := f43_ok hb hp
theorem C47_c {n : Nat} (hn : n ≤ 3) : ∀ (q i F : Nat) (acc : Int32), i + q = 8 * n → q < F → f47_b26 kad N Z F d (Int32.ofNat n) acc (Int32.ofNat i) I = some ((sSum (fun i => I (d + 1) (8 + i)) q i acc) &&& 65535, I) := by
  intro q
  induction q with
  | zero =>
    intro i F acc hi hF
    obtain ⟨F, rfl⟩ : ∃ G, F = G + 1 := ⟨F - 1, by omega⟩
    unfold f47_b26
    rw [show Int32.ofNat n * (8 : Int32) = Int32.ofNat (n * 8) from eM n 8, if_pos ((of_le (by omega) (by omega)).mpr (by omega)), sS_0]
  | succ q ih =>
    intro i F acc hi hF
    obtain ⟨F, rfl⟩ : ∃ G, F = G + 1 := ⟨F - 1, by omega⟩
    unfold f47_b26
    rw [show Int32.ofNat n * (8 : Int32) = Int32.ofNat (n * 8) from eM n 8, if_neg (fun h => absurd ((of_le (by omega) (by omega)).mp h) (by omega)), show Int32.ofNat i - Int32.ofNat i / (8 : Int32) * (8 : Int32) = Int32.ofNat (i % 8) from eR (n := 8) (by omega) (by decide) (by decide), show Int32.ofNat i / (8 : Int32) = Int32.ofNat (i / 8) from eD (n := 8) (by omega) (by decide) (by decide), show (1 : Int32) + Int32.ofNat (i / 8) = Int32.ofNat (1 + i / 8) from eA 1 _, f43_n (by omega) (by omega), Option.bind_some, show 8 * (1 + i / 8) + i % 8 = 8 + i from by omega, of_s, sS_1]
    exact ih (i + 1) F _ (by omega) (by omega)
theorem C47_h (hN : 2000 ≤ N) {n : Nat} (hn : n ≤ 3) : ∀ (q i F : Nat) (acc : Int32), i + q = 4 → q < F → f47_b4 kad N Z F d (Int32.ofNat n) acc (Int32.ofNat i) I = some ((sSum (fun i => I (d + 1) (8 + i)) (8 * n) 0 (sSum (I (d + 1)) q i acc)) &&& 65535, I) := by
  intro q
  induction q with
  | zero =>
    intro i F acc hi hF
    obtain ⟨F, rfl⟩ : ∃ G, F = G + 1 := ⟨F - 1, by omega⟩
    unfold f47_b4
    rw [if_pos (show (4 : Int32) ≤ Int32.ofNat i from (of_le (m := 4) (by decide) (by omega)).mpr (by omega)), sS_0]
    exact C47_c hn (8 * n) 0 N acc (by omega) (by omega)
  | succ q ih =>
    intro i F acc hi hF
    obtain ⟨F, rfl⟩ : ∃ G, F = G + 1 := ⟨F - 1, by omega⟩
    unfold f47_b4
    rw [if_neg (show ¬ (4 : Int32) ≤ Int32.ofNat i from fun h => absurd ((of_le (m := 4) (by decide) (by omega)).mp h) (by omega))]
    have := f43_n (kad := kad) (N := N) (Z := Z) (d := d) (J := I) (b := 0) (p := i) (by decide) (by omega)
    rw [show Int32.ofNat 0 = 0 from rfl, show 8 * 0 + i = i from by omega] at this
    rw [this, Option.bind_some, of_s, sS_1]
    exact ih (i + 1) F _ (by omega) (by omega)
theorem C46_z : ∀ (q i F : Nat) (r : Int32) (J : AI), i + q = 8 → q < F → f46_b75 kad N Z F d r (Int32.ofNat i) (fl J (d + 1) i 0) = some (r, up2 (fl J (d + 1) 8 0) d 1 (J d 1 + 1)) := by
  intro q
  induction q with
  | zero =>
    intro i F r J hi hF
    obtain ⟨F, rfl⟩ : ∃ G, F = G + 1 := ⟨F - 1, by omega⟩
    unfold f46_b75
    rw [if_pos (show (8 : Int32) ≤ Int32.ofNat i from (of_le (m := 8) (by decide) (by omega)).mpr (by omega)), show i = 8 from by omega]
    unfold wI
    rw [Option.bind_some, congrFun (fl_b (show ¬ d = d + 1 by omega)) 1]
  | succ q ih =>
    intro i F r J hi hF
    obtain ⟨F, rfl⟩ : ∃ G, F = G + 1 := ⟨F - 1, by omega⟩
    unfold f46_b75
    rw [if_neg (show ¬ (8 : Int32) ≤ Int32.ofNat i from fun h => absurd ((of_le (m := 8) (by decide) (by omega)).mp h) (by omega)), show (0 : Int32) + Int32.ofNat i = Int32.ofNat i from by grind, ixA_of (by omega), Option.bind_some]
    unfold wI
    rw [Option.bind_some, fl_s, of_s]
    exact ih (i + 1) F r J (by omega) (by omega)
theorem fl_memf {b : Nat} {m : Nat → Int32} {J : AI} : fl (memf J b m) b 8 0 = memf J b (kB m 0 (fun _ => 0)) := by
  funext c k
  unfold fl
  by_cases hc : c = b
  · subst hc
    rw [memf_at, memf_at]
    unfold kB
    by_cases hk : k < 8
    · rw [if_pos ⟨rfl, hk⟩, if_pos (by omega)]
    · rw [if_neg (fun hh => hk hh.2), if_neg (by omega)]
  · rw [if_neg (fun hh => hc hh.1), memf_b hc, memf_b hc]
theorem C46_0 (h0 : I (d + 1) 0 = 0) : f46 kad N Z d I = some (0, I) := by
  unfold f46
  have := f43_n (kad := kad) (N := N) (Z := Z) (d := d) (J := I) (b := 0) (p := 0) (by decide) (by decide)
  rw [show Int32.ofNat 0 = 0 from rfl, show 8 * 0 + 0 = 0 from rfl, h0] at this
  rw [this, Option.bind_some, if_neg z00]
/-- the blocks of the log are written where they belong -/
theorem C46_w (hN : 2000 ≤ N) {n : Nat} {bs : Nat → Nat} {f : Nat → Int32} (h : DLg n bs f (I (d + 1))) (hz : Z.1 (d + 1) = some (100, 256)) : ∀ (q i F : Nat), i + q = n → q < F → f46_b36 kad N Z F d (Int32.ofNat n) 1 (Int32.ofNat i) (memf (up2 I d 1 (I d 1 + Int32.ofNat i)) (d + 1) (apD (I (d + 1)) bs f i)) = some (Int32.ofNat (n + 1), memf (up2 I d 1 (I d 1 + Int32.ofNat (n + 1))) (d + 1) (mD (I (d + 1)) bs f n)) := by
  obtain ⟨⟨⟨n1, n3⟩, r1, r2⟩, fw, lg, hh, -, -⟩ := id h
  intro q
  induction q with
  | zero =>
    intro i F hi hF
    obtain ⟨F, rfl⟩ : ∃ G, F = G + 1 := ⟨F - 1, by omega⟩
    have e : i = n := by omega
    subst e
    unfold f46_b36 f46_b73
    rw [if_pos (Int32.le_refl _), show (1 : Int32) + Int32.ofNat i = Int32.ofNat (1 + i) from eA 1 i]
    have hz := C46_z (kad := kad) (N := N) (Z := Z) (d := d) 8 0 N (Int32.ofNat (1 + i)) (memf (up2 I d 1 (I d 1 + Int32.ofNat i)) (d + 1) (apD (I (d + 1)) bs f i)) rfl (by omega)
    rw [fl_0] at hz
    rw [show (0 : Int32) = Int32.ofNat 0 from rfl, hz, fl_memf]
    congr 2
    · congr 1; omega
    · funext c k
      rw [memf_b (show ¬ d = d + 1 by omega), up2_eq]
      by_cases hc : c = d + 1
      · subst hc
        rw [up2_b (by omega), memf_at, memf_at]
        rfl
      · rw [memf_b hc]
        by_cases hk : c = d ∧ k = 1
        · obtain ⟨rfl, rfl⟩ := hk
          rw [up2_eq, up2_eq, ← of_s]
          grind
        · rw [up2_ne hk, memf_b hc, up2_ne hk, up2_ne hk]
  | succ q ih =>
    intro i F hi hF
    obtain ⟨F, rfl⟩ : ∃ G, F = G + 1 := ⟨F - 1, by omega⟩
    unfold f46_b36
    rw [if_neg (fun h => absurd ((of_le (by omega) (by omega)).mp h) (by omega)), show (1 : Int32) + Int32.ofNat i = Int32.ofNat (1 + i) from eA 1 i]
    have h43 := f43_n (kad := kad) (N := N) (Z := Z) (d := d) (J := memf (up2 I d 1 (I d 1 + Int32.ofNat i)) (d + 1) (apD (I (d + 1)) bs f i)) (b := 0) (p := 1 + i) (by decide) (by omega)
    have eb : apD (I (d + 1)) bs f i (8 * 0 + (1 + i)) = Int32.ofNat (bs i) := by
      rw [apD_o i (fun j hj => by have := (r2 j (by omega)).1; omega), show 8 * 0 + (1 + i) = 1 + i from by omega, hh (1 + i) (by omega)]
      unfold sHd
      rw [if_neg (by omega), if_neg (by omega), if_pos (by omega), show 1 + i - 1 = i from by omega]
    rw [memf_at, eb] at h43
    rw [show (0 : Int32) = Int32.ofNat 0 from rfl, h43, Option.bind_some, show Int32.ofNat (1 + i) * (8 : Int32) = Int32.ofNat ((1 + i) * 8) from eM _ 8, C44 (r2 i (by omega)).2 hz hz (L := 256) (by omega) (by decide), Option.bind_some]
    have est : up2 (cpI (memf (up2 I d 1 (I d 1 + Int32.ofNat i)) (d + 1) (apD (I (d + 1)) bs f i)) (d + 1) (d + 1) ((1 + i) * 8) (8 * bs i) 8) d 1 (memf (up2 I d 1 (I d 1 + Int32.ofNat i)) (d + 1) (apD (I (d + 1)) bs f i) d 1 + 1) = memf (up2 I d 1 (I d 1 + Int32.ofNat (i + 1))) (d + 1) (apD (I (d + 1)) bs f (i + 1)) := by
      funext c k
      rw [memf_b (show ¬ d = d + 1 by omega), up2_eq]
      by_cases hc : c = d + 1
      · subst hc
        rw [up2_b (by omega), memf_at]
        show _ = kB (apD (I (d + 1)) bs f i) (bs i) (fun p => f (8 * i + p)) k
        unfold kB
        by_cases hk : 8 * bs i ≤ k ∧ k < 8 * bs i + 8
        · rw [if_pos hk, cpI_at hk, memf_at, apD_o i (fun j hj => by have := (r2 j (by omega)).1; omega)]
          have := h.log (i := 8 * i + (k - 8 * bs i)) (by omega)
          rw [show (1 + i) * 8 + (k - 8 * bs i) = 8 + (8 * i + (k - 8 * bs i)) from by omega]
          exact this
        · rw [if_neg hk, cpI_out hk, memf_at]
      · rw [memf_b hc]
        by_cases hk : c = d ∧ k = 1
        · obtain ⟨rfl, rfl⟩ := hk
          rw [up2_eq, up2_eq, ← of_s]
          grind
        · rw [up2_ne hk, cpI_b hc, memf_b hc, up2_ne hk, up2_ne hk]
    rw [est, of_s]
    exact ih (i + 1) F (by omega) (by omega)
theorem C46_1 (hN : 2000 ≤ N) {n : Nat} {bs : Nat → Nat} {f : Nat → Int32} (h : DLg n bs f (I (d + 1))) (hz : Z.1 (d + 1) = some (100, 256)) : f46 kad N Z d I = some (Int32.ofNat (n + 1), memf (up2 I d 1 (I d 1 + Int32.ofNat (n + 1))) (d + 1) (mD (I (d + 1)) bs f n)) := by
  obtain ⟨⟨⟨n1, n3⟩, r1, r2⟩, fw, lg, hh, -, -⟩ := id h
  have f0 := f43_n (kad := kad) (N := N) (Z := Z) (d := d) (J := I) (b := 0) (p := 0) (by decide) (by decide)
  have f4 := f43_n (kad := kad) (N := N) (Z := Z) (d := d) (J := I) (b := 0) (p := 4) (by decide) (by decide)
  have e0 : I (d + 1) 0 = Int32.ofNat n := by
    rw [hh 0 (by decide)]
    unfold sHd
    rw [if_neg (by decide), if_pos rfl]
  have e4 : I (d + 1) 4 = (sSum f (8 * n) 0 (sSum (fun i => Int32.ofNat (bs i)) n 0 (Int32.ofNat n))) &&& 65535 := by
    rw [hh 4 (by decide)]
    unfold sHd
    rw [if_pos rfl]
  rw [show Int32.ofNat 0 = 0 from rfl, show 8 * 0 + 0 = 0 from rfl, e0] at f0
  rw [show Int32.ofNat 0 = 0 from rfl, show Int32.ofNat 4 = 4 from rfl, show 8 * 0 + 4 = 4 from rfl, e4] at f4
  unfold f46
  rw [f0, Option.bind_some]
  dsimp only
  rw [if_pos (of_nz (by omega) (by omega)), if_neg (show ¬ (3 : Int32) < Int32.ofNat n from fun hh => absurd ((of_lt (m := 3) (by decide) (by omega)).mp hh) (by omega)), f4, Option.bind_some]
  dsimp only
  unfold f47
  have hs := C47_h (kad := kad) (N := N) (Z := Z) (d := d) (I := I) hN n3 4 0 N 0 rfl (by omega)
  rw [show Int32.ofNat 0 = 0 from rfl, h.sum, sSum_cong (B := 8 * n) (fun k hk => h.log hk) (8 * n) 0 _ (by omega)] at hs
  rw [hs, Option.bind_some]
  dsimp only
  rw [if_neg (fun hh => hh rfl)]
  have hw := C46_w (kad := kad) (N := N) hN h hz n 0 N (by omega) (by omega)
  have e : memf (up2 I d 1 (I d 1 + Int32.ofNat 0)) (d + 1) (apD (I (d + 1)) bs f 0) = I := by
    rw [show I d 1 + Int32.ofNat 0 = I d 1 from by show I d 1 + 0 = I d 1; grind, up2_self rfl]
    exact memf_id
  rw [e] at hw
  exact hw
end MD
