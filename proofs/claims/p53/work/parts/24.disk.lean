/-! the disk's words; entries, free blocks -/
def sBlk (D : Nat → Int32) (b : Int32) (p : Nat) : Int32 := if b < 0 then 0 else if (32 : Int32) ≤ b then 0 else D (8 * nT b + p)
def sFind (D : Nat → Int32) (name : Int32) : Nat → Nat → Nat
  | 0, e => e
  | n + 1, e => if 6 ≤ e then e else if D (40 + 4 * e) = name then e else sFind D name n (e + 1)
def sFree (D : Nat → Int32) : Nat → Nat → Nat
  | 0, b => b
  | n + 1, b => if 32 ≤ b then b else if uB D b = true then sFree D n (b + 1) else b
theorem sFind_le {D : Nat → Int32} {name : Int32} : ∀ (n e : Nat), e + n = 7 → 0 < n → sFind D name n e ≤ 6 := by
  intro n
  induction n with
  | zero => intro e _ h; exact absurd h (by decide)
  | succ n ih =>
    intro e h _
    unfold sFind
    split
    · omega
    · split
      · omega
      · exact ih (e + 1) (by omega) (by omega)
theorem sFree_le {D : Nat → Int32} : ∀ (n b : Nat), b + n = 33 → 0 < n → sFree D n b ≤ 32 ∧ b ≤ sFree D n b := by
  intro n
  induction n with
  | zero => intro e _ h; exact absurd h (by decide)
  | succ n ih =>
    intro b h _
    unfold sFree
    split
    · omega
    · split
      · have := ih (b + 1) (by omega) (by omega)
        omega
      · omega
theorem sFree_un {D : Nat → Int32} : ∀ (n b : Nat), b + n = 33 → sFree D n b < 32 → uB D (sFree D n b) = false := by
  intro n
  induction n with
  | zero => intro b h h2; unfold sFree at h2; omega
  | succ n ih =>
    intro b h h2
    unfold sFree at h2 ⊢
    split
    · rename_i h3; rw [if_pos h3] at h2; omega
    · rename_i h3
      rw [if_neg h3] at h2
      split
      · rename_i h4
        rw [if_pos h4] at h2
        exact ih (b + 1) (by omega) h2
      · rename_i h4
        simpa using h4
theorem mul8 {b : Int32} {p : Nat} (h0 : ¬ b < 0) (h1 : nT b < 100000) (hp : p < 100000) : b * 8 + Int32.ofNat p = Int32.ofNat (8 * nT b + p) := by
  rw [← Int32.toInt_inj, Int32.toInt_ofNat_of_lt (by omega)]
  have e1 := nT_eq h0
  have e2 : (Int32.ofNat p).toInt = p := Int32.toInt_ofNat_of_lt (by omega)
  have e3 : (8 : Int32).toInt = 8 := by decide
  rw [Int32.toInt_add, Int32.toInt_mul, e2, e3]
  rw [Int.bmod_eq_of_le (n := b.toInt * 8) (by omega) (by omega), Int.bmod_eq_of_le (by omega) (by omega)]
  omega
theorem ixA_k {n k : Nat} (hk : k < n) (hn : n < 2147483648 := by decide) : ixA n (Int32.ofNat k) = some k := by
  have e2 : nT (Int32.ofNat k) = k := nT_of (by omega)
  unfold ixA
  rw [if_pos (by rintro (h | h); exact of_nn (by omega) h; have h9 : n ≤ nT (Int32.ofNat k) := h; rw [e2] at h9; omega), show (Int32.ofNat k).toNatClampNeg = k from e2]
theorem lI_a {Z : AZ} {I : AI} {b n k : Nat} (hZ : Z.1 b = some (100, n)) (hk : k < n) (hn : n < 2147483648 := by decide) : lI Z I 100 b (Int32.ofNat k) = some (I b k) := by
  have h1 : nT (Int32.ofNat k) = k := nT_of (by omega)
  simp only [lI, hZ]
  rw [if_pos ⟨trivial, by rintro (h | h); exact of_nn (by omega) h; have h9 : n ≤ nT (Int32.ofNat k) := h; rw [h1] at h9; omega⟩]
  rw [show (Int32.ofNat k).toNatClampNeg = k from h1]
theorem e50 (t w : Nat) : (40 : Int32) + Int32.ofNat t * 4 + Int32.ofNat w = Int32.ofNat (40 + 4 * t + w) := by
  rw [Int32.ofNat_add, Int32.ofNat_add, Nat.mul_comm, Int32.ofNat_mul]
  rfl
theorem f50_ok {kad : Nat → Nat} {N : Nat} {Z : AZ} {d : Nat} {I : AI} {t w : Nat} (ht : t < 6) (hw : w < 4) : f50 kad N Z d (Int32.ofNat t) (Int32.ofNat w) I = some (I (d + 1) (40 + 4 * t + w), I) := by
  unfold f50 f50_b24 f50_b46
  rw [if_neg (of_nn (by omega)), if_neg (show ¬ (6 : Int32) ≤ Int32.ofNat t from fun h => absurd ((of_le (m := 6) (by decide) (by omega)).mp h) (by omega)), if_neg (of_nn (by omega)), if_neg (show ¬ (4 : Int32) ≤ Int32.ofNat w from fun h => absurd ((of_le (m := 4) (by decide) (by omega)).mp h) (by omega)), if_neg z10, e50, ixA_k (by omega), Option.bind_some]
theorem f48_ok {kad : Nat → Nat} {N : Nat} {Z : AZ} {p : Int32} {I : AI} : f48 kad N Z p I = some ((if (8 : Int32) ≤ p then 3 else 2), I) := by
  unfold f48 f48_b11
  by_cases h : (8 : Int32) ≤ p
  · simp only [if_pos h]
  · simp only [if_neg h]
section DK
variable {kad : Nat → Nat} {N : Nat} {e : Nat} {Z : AZ} {a κ : Nat} {I0 I X : AI}
theorem C43 (H : RC e Z a κ I0 I X) (b : Int32) {p : Nat} (hp : p < 8) : Ok (f43 kad N Z (a + 8) b (Int32.ofNat p) I) (fun v J => v = sBlk (X 9) b p ∧ J = I) := by
  unfold f43 f43_b24 f43_b25 f43_b45 sBlk
  split
  · rw [if_pos rfl]
    exact Ok.ret ⟨rfl, rfl⟩
  · rename_i h0
    split
    · rw [if_pos rfl]
      exact Ok.ret ⟨rfl, rfl⟩
    · rename_i h1
      have hb := nT_b (n := 32) h0 h1
      rw [if_neg (of_nn (by omega)), if_neg (show ¬ (8 : Int32) ≤ Int32.ofNat p from fun h => absurd ((of_le (m := 8) (by decide) (by omega)).mp h) (by omega)), if_neg z10, mul8 h0 (by omega) (by omega)]
      have e1 : nT (Int32.ofNat (8 * nT b + p)) = 8 * nT b + p := nT_of (by omega)
      refine Ok.ix (of_nn (by omega)) (by rw [e1]; omega) ?_
      rw [e1]
      exact Ok.ret ⟨H.rd (c := 9) (by decide) (show 8 * nT b + p < 256 by omega), rfl⟩
theorem sBlk_of {D : Nat → Int32} {b p : Nat} (hb : b < 32) : sBlk D (Int32.ofNat b) p = D (8 * b + p) := by
  unfold sBlk
  rw [if_neg (of_nn (by omega)), if_neg (show ¬ (32 : Int32) ≤ Int32.ofNat b from fun h => absurd ((of_le (m := 32) (by decide) (by omega)).mp h) (by omega)), show nT (Int32.ofNat b) = b from nT_of (by omega)]
theorem C50 (H : RC e Z a κ I0 I X) {t w : Nat} (ht : t < 6) (hw : w < 4) : Ok (f50 kad N Z (a + 8) (Int32.ofNat t) (Int32.ofNat w) I) (fun v J => v = X 9 (40 + 4 * t + w) ∧ J = I) := by
  rw [f50_ok ht hw]
  exact Ok.ret ⟨H.rd (c := 9) (by decide) (show 40 + 4 * t + w < 256 by omega), rfl⟩
theorem C51_l (H : RC e Z a κ I0 I X) (name : Int32) : ∀ (n t F : Nat), t + n = 6 → n < F → Ok (f51_b2 kad N Z F (a + 8) name (Int32.ofNat t) I) (fun v J => v = (if sFind (X 9) name (n + 1) t < 6 then Int32.ofNat (sFind (X 9) name (n + 1) t) else Int32.ofInt (-1)) ∧ J = I) := by
  intro n
  induction n with
  | zero =>
    intro t F ht hF
    obtain ⟨F, rfl⟩ : ∃ G, F = G + 1 := ⟨F - 1, by omega⟩
    unfold f51_b2 sFind
    rw [if_pos (show (6 : Int32) ≤ Int32.ofNat t from (of_le (m := 6) (by decide) (by omega)).mpr (by omega)), if_pos (show 6 ≤ t by omega), if_neg (show ¬ t < 6 by omega)]
    exact Ok.ret ⟨rfl, rfl⟩
  | succ n ih =>
    intro t F ht hF
    obtain ⟨F, rfl⟩ : ∃ G, F = G + 1 := ⟨F - 1, by omega⟩
    unfold f51_b2 sFind
    rw [if_neg (show ¬ (6 : Int32) ≤ Int32.ofNat t from fun h => absurd ((of_le (m := 6) (by decide) (by omega)).mp h) (by omega)), if_neg (show ¬ 6 ≤ t by omega)]
    refine (C50 H (t := t) (w := 0) (by omega) (by decide)).bind fun v J ⟨hv, hJ⟩ => ?_
    subst hv hJ
    dsimp only
    rw [Nat.add_zero, of_s]
    by_cases hx : X 9 (40 + 4 * t) = name
    · rw [if_neg (fun h => h hx), if_pos hx, if_pos (show t < 6 by omega)]
      exact Ok.ret ⟨rfl, rfl⟩
    · rw [if_pos hx, if_neg hx]
      exact ih (t + 1) F (by omega) (by omega)
theorem C51 (hN : 2000 ≤ N) (H : RC e Z a κ I0 I X) (name : Int32) : Ok (f51 kad N Z (a + 8) name I) (fun v J => v = (if sFind (X 9) name 7 0 < 6 then Int32.ofNat (sFind (X 9) name 7 0) else Int32.ofInt (-1)) ∧ J = I) := C51_l H name 6 0 N rfl (by omega)
theorem C50p (H : RC e Z a κ I0 I X) {t : Nat} (ht : t < 6) (p : Int32) : Ok (f50 kad N Z (a + 8) (Int32.ofNat t) (if (8 : Int32) ≤ p then 3 else 2) I) (fun v J => v = X 9 (40 + 4 * t + (if (8 : Int32) ≤ p then 3 else 2)) ∧ J = I) := by
  by_cases h : (8 : Int32) ≤ p
  · rw [if_pos h, if_pos h]
    exact C50 H (t := t) (w := 3) ht (by decide)
  · rw [if_neg h, if_neg h]
    exact C50 H (t := t) (w := 2) ht (by decide)
theorem mod8 {p : Int32} (h0 : ¬ p < 0) : p - p / 8 * 8 = Int32.ofNat (nT p % 8) := by
  have e1 := nT_eq h0
  have h2 : p.toInt < 2147483648 := Int32.toInt_lt p
  have hd : (p / 8).toInt = p.toInt / 8 := by
    rw [Int32.toInt_div]
    rw [show (8 : Int32).toInt = 8 by decide, Int.tdiv_eq_ediv_of_nonneg (by omega), Int.bmod_eq_of_le (by omega) (by omega)]
  rw [← Int32.toInt_inj, Int32.toInt_ofNat_of_lt (by omega), Int32.toInt_sub, Int32.toInt_mul, hd, show (8 : Int32).toInt = 8 by decide]
  rw [Int.bmod_eq_of_le (n := p.toInt / 8 * 8) (by omega) (by omega), Int.bmod_eq_of_le (by omega) (by omega)]
  omega
def sFileW (D : Nat → Int32) (t : Nat) (p : Int32) : Int32 := sBlk D (D (40 + 4 * t + (if (8 : Int32) ≤ p then 3 else 2))) (nT p % 8)
theorem C54 (H : RC e Z a κ I0 I X) {t : Nat} (ht : t < 6) {p : Int32} (hp : ¬ p < 0) : Ok (f54 kad N Z (a + 8) (Int32.ofNat t) p I) (fun v J => v = sFileW (X 9) t p ∧ J = I) := by
  unfold f54
  rw [f48_ok, Option.bind_some]
  dsimp only
  refine (C50p H ht p).bind fun v J ⟨hv, hJ⟩ => ?_
  subst hv hJ
  dsimp only
  rw [mod8 hp]
  refine (C43 H _ (p := nT p % 8) (by omega)).bind fun v J ⟨hv, hJ⟩ => ?_
  subst hv hJ
  exact Ok.ret ⟨rfl, rfl⟩
theorem C56_l {x y : Int32} (hx : wd x) (hy : wd y) {D : Nat → Int32} (h0 : D 32 = x) (h1 : D 33 = y) : ∀ (n b F : Nat), b + n = 32 → n < F → Ok (f56_b8 kad N Z F (a + 8) ((x.toInt64) ||| ((y.toInt64) <<< ((16 : Int32).toInt64 &&& 63))) (Int32.ofNat b) I) (fun v J => v = (if sFree D (n + 1) b < 32 then Int32.ofNat (sFree D (n + 1) b) else Int32.ofInt (-1)) ∧ J = I) := by
  subst h0 h1
  intro n
  induction n with
  | zero =>
    intro t F ht hF
    obtain ⟨F, rfl⟩ : ∃ G, F = G + 1 := ⟨F - 1, by omega⟩
    unfold f56_b8 sFree
    rw [if_pos (show (32 : Int32) ≤ Int32.ofNat t from (of_le (m := 32) (by decide) (by omega)).mpr (by omega)), if_pos (show 32 ≤ t by omega), if_neg (show ¬ t < 32 by omega)]
    exact Ok.ret ⟨rfl, rfl⟩
  | succ n ih =>
    intro t F ht hF
    obtain ⟨F, rfl⟩ : ∃ G, F = G + 1 := ⟨F - 1, by omega⟩
    unfold f56_b8 sFree
    rw [if_neg (show ¬ (32 : Int32) ≤ Int32.ofNat t from fun h => absurd ((of_le (m := 32) (by decide) (by omega)).mp h) (by omega)), if_neg (show ¬ 32 ≤ t by omega), uB_l hx hy (by omega), of_s]
    by_cases hu : uB D t = true
    · rw [if_pos hu, if_pos z10, if_pos hu]
      exact ih (t + 1) F (by omega) (by omega)
    · rw [if_neg hu, if_neg z00, if_neg hu, if_pos (show t < 32 by omega)]
      exact Ok.ret ⟨rfl, rfl⟩
theorem C55 (H : RC e Z a κ I0 I X) : Ok (f55 kad N Z (a + 8) I) (fun v J => v = (((X 9 32).toInt64) ||| (((X 9 33).toInt64) <<< ((16 : Int32).toInt64 &&& 63))) ∧ J = I) := by
  unfold f55
  rw [show ixA 256 (32 : Int32) = some 32 by decide, Option.bind_some, show ixA 256 (33 : Int32) = some 33 by decide, Option.bind_some]
  refine Ok.ret ⟨?_, rfl⟩
  rw [show I (a + 8 + 1) 32 = X 9 32 from H.rd (c := 9) (by decide) (show 32 < 256 by decide), show I (a + 8 + 1) 33 = X 9 33 from H.rd (c := 9) (by decide) (show 33 < 256 by decide)]
theorem C56 (hN : 2000 ≤ N) (H : RC e Z a κ I0 I X) (hx : wd (X 9 32)) (hy : wd (X 9 33)) : Ok (f56 kad N Z (a + 8) I) (fun v J => v = (if sFree (X 9) 25 8 < 32 then Int32.ofNat (sFree (X 9) 25 8) else Int32.ofInt (-1)) ∧ J = I) := by
  unfold f56
  refine (C55 H).bind fun v J ⟨hv, hJ⟩ => ?_
  subst hv hJ
  exact C56_l hx hy rfl rfl 24 8 N rfl (by omega)
theorem C28 {p : Int32} (hp : ¬ p < 0) : f28 kad N Z p I = some ((if nT p % 8 = 0 then 1 else 0), I) := by
  unfold f28 f28_b12
  rw [mod8 hp]
  by_cases h : nT p % 8 = 0
  · rw [if_neg (fun hh => hh (by rw [h]; rfl)), if_pos h, if_pos (Or.inr rfl)]
  · rw [if_pos (show ¬ Int32.ofNat (nT p % 8) = 0 from fun hh => h ((of_inj (by omega) (by decide)).mp (show Int32.ofNat (nT p % 8) = Int32.ofNat 0 from hh))), if_neg h, if_pos (Or.inl rfl)]
end DK
