/-! the model's file calls -/
theorem lI_at {Z : AZ} {I : AI} {b n k : Nat} (hZ : Z.1 b = some (100, n)) (hk : k < n) (hn : n < 2147483648 := by decide) : lI Z I 100 b (Int32.ofNat k) = some (I b k) := by
  have h1 : nT (Int32.ofNat k) = k := nT_of (by omega)
  simp only [lI, hZ]
  rw [if_pos ⟨trivial, by rintro (h | h); exact of_nn (by omega) h; have h9 : n ≤ nT (Int32.ofNat k) := h; rw [h1] at h9; omega⟩]
  rw [show (Int32.ofNat k).toNatClampNeg = k from h1]
theorem eA (a b : Nat) : Int32.ofNat a + Int32.ofNat b = Int32.ofNat (a + b) := (Int32.ofNat_add a b).symm
theorem eM (a b : Nat) : Int32.ofNat a * Int32.ofNat b = Int32.ofNat (a * b) := (Int32.ofNat_mul a b).symm
theorem eD {c n : Nat} (hc : c < 2147483648) (hn : 0 < n) (hn2 : n < 2147483648) : Int32.ofNat c / Int32.ofNat n = Int32.ofNat (c / n) := by
  apply Int32.toInt_inj.mp
  have h1 : c / n ≤ c := Nat.div_le_self _ _
  rw [div_i (of_nn hc) hn hn2, Int32.toInt_ofNat_of_lt hc, Int32.toInt_ofNat_of_lt (by omega), Int.natCast_ediv]
theorem eR {c n : Nat} (hc : c < 2147483648) (hn : 0 < n) (hn2 : n < 2147483648) : Int32.ofNat c - Int32.ofNat c / Int32.ofNat n * Int32.ofNat n = Int32.ofNat (c % n) := by
  rw [mod_n (of_nn hc) hn hn2, nT_of hc]
def oneB (b : Nat) : Int32 := (1 : Int32) <<< (Int32.ofNat b &&& 31)
/-- the set that a number tells -/
def mS (v : Int32) (S : Nat → Bool) : Prop := ∀ b, b < 32 → dB v b = S b
theorem mS.one {b : Nat} (hb : b < 32) : mS (oneB b) (sA sN b) := fun c hc => by
  have e := one_b ⟨b, hb⟩ ⟨c, hc⟩
  dsimp only at e
  unfold oneB
  rw [e]
  unfold sA sN
  rw [Bool.false_or]
theorem mS.or1 {v : Int32} {S : Nat → Bool} (h : mS v S) {b : Nat} (hb : b < 32) : mS (v ||| oneB b) (sA S b) := fun c hc => by
  have e := one_b ⟨b, hb⟩ ⟨c, hc⟩
  dsimp only at e
  unfold oneB
  rw [dB_or, e, h c hc]
  rfl
theorem mS.or16 {v : Int32} {S : Nat → Bool} (h : mS v S) : mS (v ||| 16) (sA S 4) := fun c hc => by
  have e := b16_b ⟨c, hc⟩
  dsimp only at e
  rw [dB_or, e, h c hc]
  rfl
theorem mS.cong {v : Int32} {S T : Nat → Bool} (h : mS v S) (he : ∀ c, c < 32 → (S c = true ↔ T c = true)) : mS v T := fun c hc => by
  rw [h c hc]
  exact Bool.eq_iff_iff.mpr (he c hc)
/-- the model's row of what will be -/
def MW (m : Nat) (J0 J : AI) (W : Nat → Int32) : Prop := (∀ k, k < 256 → J (m + 25) k = W k) ∧ (∀ b, ¬ b = m + 25 → J b = J0 b)
theorem MW.up {m : Nat} {J0 J : AI} {W : Nat → Int32} {k : Nat} {v : Int32} (h : MW m J0 J W) : MW m J0 (up2 J (m + 25) k v) (wP W k v) := by
  refine ⟨fun j hj => ?_, fun b hb => ?_⟩
  · by_cases e : j = k
    · subst e
      rw [up2_eq, wP_eq]
    · rw [up2_ne (fun hh => e hh.2), wP_ne e]
      exact h.1 j hj
  · rw [up2_b hb]
    exact h.2 b hb
theorem wP_id {W : Nat → Int32} {k : Nat} {v : Int32} (h : W k = v) : wP W k v = W := by
  funext j
  unfold wP
  split
  · rename_i e
    rw [e, h]
  · rfl
section MF
variable {kad : Nat → Nat} {N : Nat} {Z : AZ} {m : Nat} {I J J0 : AI} {D W : Nat → Int32}
theorem M235 (t : Nat) : f235 kad N Z (Int32.ofNat t) I = some (Int32.ofNat (40 + 4 * t), I) := by
  unfold f235
  rw [show (4 : Int32) * Int32.ofNat t = Int32.ofNat (4 * t) from eM 4 t, show (40 : Int32) + Int32.ofNat (4 * t) = Int32.ofNat (40 + 4 * t) from eA 40 (4 * t)]
theorem M243 {t : Nat} (ht : t < 6) : f243 kad N Z (Int32.ofNat t) I = some (oneB (5 + t / 2), I) := by
  unfold f243 oneB
  rw [show Int32.ofNat t / (2 : Int32) = Int32.ofNat (t / 2) from eD (n := 2) (by omega) (by decide) (by decide), show (5 : Int32) + Int32.ofNat (t / 2) = Int32.ofNat (5 + t / 2) from eA 5 (t / 2)]
theorem M236_l {b : Nat} (hZ : Z.1 b = some (100, 256)) (name : Int32) : ∀ (n t F : Nat), t + n = 6 → n < F → f236_b2 kad N Z F b name (Int32.ofNat t) I = some (if sFind (I b) name (n + 1) t < 6 then Int32.ofNat (sFind (I b) name (n + 1) t) else Int32.ofInt (-1), I) := by
  intro n
  induction n with
  | zero =>
    intro t F ht hF
    obtain ⟨F, rfl⟩ : ∃ G, F = G + 1 := ⟨F - 1, by omega⟩
    unfold f236_b2 sFind
    rw [if_pos (show (6 : Int32) ≤ Int32.ofNat t from (of_le (m := 6) (by decide) (by omega)).mpr (by omega)), if_pos (show 6 ≤ t by omega), if_neg (show ¬ t < 6 by omega)]
  | succ n ih =>
    intro t F ht hF
    obtain ⟨F, rfl⟩ : ∃ G, F = G + 1 := ⟨F - 1, by omega⟩
    unfold f236_b2 sFind
    rw [if_neg (show ¬ (6 : Int32) ≤ Int32.ofNat t from fun h => absurd ((of_le (m := 6) (by decide) (by omega)).mp h) (by omega)), if_neg (show ¬ 6 ≤ t by omega), M235, Option.bind_some]
    dsimp only
    rw [lI_at hZ (by omega), Option.bind_some, of_s]
    by_cases hx : I b (40 + 4 * t) = name
    · rw [if_neg (fun h => h hx), if_pos hx, if_pos (show t < 6 by omega)]
    · rw [if_pos hx, if_neg hx]
      exact ih (t + 1) F (by omega) (by omega)
theorem M236 (hN : 2000 ≤ N) {b : Nat} (hZ : Z.1 b = some (100, 256)) (hD : ∀ k, k < 256 → I b k = D k) (name : Int32) : f236 kad N Z b name I = some (if sFind D name 7 0 < 6 then Int32.ofNat (sFind D name 7 0) else Int32.ofInt (-1), I) := by
  have h := M236_l (kad := kad) (N := N) (I := I) hZ name 6 0 N rfl (by omega)
  rw [sFind_cong (D := D) (E := I b) (fun k h1 h2 => hD k (by omega))] at h
  exact h
theorem M237 {b c : Nat} (hZ : Z.1 b = some (100, 256)) (hc : c < 32) : f237 kad N Z b (Int32.ofNat c) I = some (if uB (I b) c = true then 1 else 0, I) := by
  unfold f237 f237_b25
  rw [show Int32.ofNat c / (16 : Int32) = Int32.ofNat (c / 16) from eD (n := 16) (by omega) (by decide) (by decide), show (32 : Int32) + Int32.ofNat (c / 16) = Int32.ofNat (32 + c / 16) from eA 32 _, lI_at hZ (by omega), Option.bind_some, ← show Int32.ofNat c / (16 : Int32) = Int32.ofNat (c / 16) from eD (n := 16) (by omega) (by decide) (by decide), show Int32.ofNat c - Int32.ofNat c / (16 : Int32) * (16 : Int32) = Int32.ofNat (c % 16) from eR (n := 16) (by omega) (by decide) (by decide), bit32 _ (by omega)]
  unfold uB
  by_cases h : dB (I b (32 + c / 16)) (c % 16) = true
  · rw [if_pos h, if_neg (fun hh => hh rfl), if_pos (Or.inr rfl)]
  · rw [if_neg h, if_pos (show ¬ (0 : Int32) = 1 from by decide), if_pos (Or.inl rfl)]
theorem M239_l (hZ : Z.1 (m + 24) = some (100, 256)) : ∀ (n b F : Nat), b + n = 32 → n < F → f239_b3 kad N Z F m (Int32.ofNat b) I = some (if sFree (I (m + 24)) (n + 1) b < 32 then Int32.ofNat (sFree (I (m + 24)) (n + 1) b) else Int32.ofInt (-1), I) := by
  intro n
  induction n with
  | zero =>
    intro t F ht hF
    obtain ⟨F, rfl⟩ : ∃ G, F = G + 1 := ⟨F - 1, by omega⟩
    unfold f239_b3 sFree
    rw [if_pos (show (32 : Int32) ≤ Int32.ofNat t from (of_le (m := 32) (by decide) (by omega)).mpr (by omega)), if_pos (show 32 ≤ t by omega), if_neg (show ¬ t < 32 by omega)]
  | succ n ih =>
    intro t F ht hF
    obtain ⟨F, rfl⟩ : ∃ G, F = G + 1 := ⟨F - 1, by omega⟩
    unfold f239_b3 sFree
    rw [if_neg (show ¬ (32 : Int32) ≤ Int32.ofNat t from fun h => absurd ((of_le (m := 32) (by decide) (by omega)).mp h) (by omega)), if_neg (show ¬ 32 ≤ t by omega), M237 hZ (by omega), Option.bind_some, of_s]
    by_cases hu : uB (I (m + 24)) t = true
    · rw [if_pos hu, if_pos z10, if_pos hu]
      exact ih (t + 1) F (by omega) (by omega)
    · rw [if_neg hu, if_neg z00, if_neg hu, if_pos (show t < 32 by omega)]
theorem M239 (hN : 2000 ≤ N) (hZ : Z.1 (m + 24) = some (100, 256)) (hD : ∀ k, k < 256 → I (m + 24) k = D k) : f239 kad N Z m I = some (if sFree D 25 8 < 32 then Int32.ofNat (sFree D 25 8) else Int32.ofInt (-1), I) := by
  have h := M239_l (kad := kad) (N := N) (I := I) hZ 24 8 N rfl (by omega)
  rw [sFree_cong (D := D) (E := I (m + 24)) (fun k h1 h2 => hD k (by omega))] at h
  exact h
theorem M241 {a b t p : Nat} (hZ : Z.1 b = some (100, 256)) (ht : t < 6) (hp : p < 16) : f241 kad N Z a b (Int32.ofNat t) (Int32.ofNat p) I = some (I b (40 + 4 * t + (2 + p / 8)), I) := by
  unfold f241
  rw [M235, Option.bind_some]
  dsimp only
  rw [show Int32.ofNat (40 + 4 * t) + (2 : Int32) = Int32.ofNat (40 + 4 * t + 2) from eA _ 2, show Int32.ofNat p / (8 : Int32) = Int32.ofNat (p / 8) from eD (n := 8) (by omega) (by decide) (by decide), eA, lI_at hZ (by omega), Option.bind_some]
  rw [show 40 + 4 * t + 2 + p / 8 = 40 + 4 * t + (2 + p / 8) from by omega]
theorem M238 {b c : Nat} (hZ : Z.1 b = some (100, 256)) (hc : c < 32) : f238 kad N Z b (Int32.ofNat c) I = some ((), up2 I b (32 + c / 16) (I b (32 + c / 16) ^^^ sMask (Int32.ofNat c))) := by
  unfold f238
  rw [show (1 : Int32) <<< ((Int32.ofNat c - Int32.ofNat c / (16 : Int32) * (16 : Int32)) &&& 31) = sMask (Int32.ofNat c) from rfl, show Int32.ofNat c / (16 : Int32) = Int32.ofNat (c / 16) from eD (n := 16) (by omega) (by decide) (by decide), show (32 : Int32) + Int32.ofNat (c / 16) = Int32.ofNat (32 + c / 16) from eA 32 _, lI_at hZ (by omega), Option.bind_some, sI_at hZ (by omega) (by decide), Option.bind_some]
theorem M244 (hN : 2000 ≤ N) (zD : Z.1 (m + 24) = some (100, 256)) (hD : ∀ k, k < 256 → J0 (m + 24) k = D k) (hJ : MW m J0 J D) (hW : WF D) (ho : sFind D 0 7 0 < 6) : Ok (f244 kad N Z m J) (fun v J' => mS v (sA sN (5 + sFind D 0 7 0 / 2)) ∧ MW m J0 J' (wP D (40 + 4 * sFind D 0 7 0) (J0 (m + 16) 0))) := by
  have hat := sFind_at (D := D) (name := 0) 7 0 rfl ho
  obtain ⟨q1, q2, q3⟩ := (hW.1.2 _ ho).1 hat
  have ix0 : ixA 4 (0 : Int32) = some 0 := by decide
  unfold f244
  rw [M236 (D := D) hN zD (fun k hk => by rw [hJ.2 _ (by omega)]; exact hD k hk), Option.bind_some, if_pos ho]
  generalize sFind D 0 7 0 = o at ho hat q1 q2 q3
  dsimp only
  rw [M235, Option.bind_some, ix0, Option.bind_some]
  dsimp only
  rw [ixA_of (by omega), Option.bind_some]
  refine Ok.w ?_
  rw [M235, Option.bind_some]
  dsimp only
  rw [of_s, ixA_of (by omega), Option.bind_some]
  refine Ok.w ?_
  rw [M235, Option.bind_some]
  dsimp only
  rw [show Int32.ofNat (40 + 4 * o) + (2 : Int32) = Int32.ofNat (40 + 4 * o + 2) from eA _ 2, ixA_of (by omega), Option.bind_some]
  refine Ok.w ?_
  rw [M235, Option.bind_some]
  dsimp only
  rw [show Int32.ofNat (40 + 4 * o) + (3 : Int32) = Int32.ofNat (40 + 4 * o + 3) from eA _ 3, ixA_of (by omega), Option.bind_some]
  refine Ok.w ?_
  rw [M243 ho, Option.bind_some]
  refine Ok.ret ⟨mS.one (by omega), ?_⟩
  have h := (((hJ.up (k := 40 + 4 * o) (v := J (m + 16) 0)).up (k := 40 + 4 * o + 1) (v := 0)).up (k := 40 + 4 * o + 2) (v := 0)).up (k := 40 + 4 * o + 3) (v := 0)
  rw [wP_id (W := wP D (40 + 4 * o) (J (m + 16) 0)) (k := 40 + 4 * o + 1) (by rw [wP_ne (by omega)]; exact q1), wP_id (W := wP D (40 + 4 * o) (J (m + 16) 0)) (k := 40 + 4 * o + 2) (by rw [wP_ne (by omega)]; exact q2), wP_id (W := wP D (40 + 4 * o) (J (m + 16) 0)) (k := 40 + 4 * o + 3) (by rw [wP_ne (by omega)]; exact q3), hJ.2 (m + 16) (by omega)] at h
  rw [hJ.2 (m + 16) (by omega)]
  exact h
theorem M245_e (zW : Z.1 (m + 25) = some (100, 256)) (hJ : MW m J0 J W) {t n b : Nat} (ht : t < 6) (hn : n < 16) (hb : b < 32) (hW : W (40 + 4 * t + (2 + n / 8)) = Int32.ofNat b) (i3 : Int32) : Ok (f245_b92 kad N Z m (Int32.ofNat t) (Int32.ofNat n) i3 J) (fun v J' => v = i3 ||| oneB b ∧ MW m J0 J' (wP (wP W (8 * b + n % 8) (J0 (m + 16) 1)) (40 + 4 * t + 1) (Int32.ofNat n + 1))) := by
  have ix1 : ixA 4 (1 : Int32) = some 1 := by decide
  unfold f245_b92
  rw [M241 zW ht hn, Option.bind_some, hJ.1 _ (by omega), hW, ix1, Option.bind_some]
  dsimp only
  rw [show Int32.ofNat n - Int32.ofNat n / (8 : Int32) * (8 : Int32) = Int32.ofNat (n % 8) from eR (n := 8) (by omega) (by decide) (by decide), show (8 : Int32) * Int32.ofNat b = Int32.ofNat (8 * b) from eM 8 b, eA, ixA_of (by omega), Option.bind_some]
  refine Ok.w ?_
  rw [M235, Option.bind_some]
  dsimp only
  rw [of_s, ixA_of (by omega), Option.bind_some]
  refine Ok.w (Ok.ret ⟨rfl, ?_⟩)
  have h := (hJ.up (k := 8 * b + n % 8) (v := J (m + 16) 1)).up (k := 40 + 4 * t + 1) (v := Int32.ofNat n + 1)
  rw [hJ.2 (m + 16) (by omega)] at h
  rw [hJ.2 (m + 16) (by omega)]
  exact h
theorem M245_z {t n b : Nat} (hb : b < 32) (i3 : Int32) : ∀ (q p F : Nat) (J : AI), p + q = 8 → q < F → MW m J0 J (wZ W b p) → ∃ J', MW m J0 J' (wZ W b 8) ∧ f245_b60 kad N Z F m (Int32.ofNat t) (Int32.ofNat n) i3 (Int32.ofNat b) (Int32.ofNat p) J = f245_b92 kad N Z m (Int32.ofNat t) (Int32.ofNat n) (i3 ||| 16) J' := by
  intro q
  induction q with
  | zero =>
    intro p F J hp hF hJ
    obtain ⟨F, rfl⟩ : ∃ G, F = G + 1 := ⟨F - 1, by omega⟩
    obtain rfl : p = 8 := by omega
    refine ⟨J, hJ, ?_⟩
    unfold f245_b60
    rw [if_pos (show (8 : Int32) ≤ Int32.ofNat 8 from by decide)]
  | succ q ih =>
    intro p F J hp hF hJ
    obtain ⟨F, rfl⟩ : ∃ G, F = G + 1 := ⟨F - 1, by omega⟩
    have h1 := hJ.up (k := 8 * b + p) (v := 0)
    rw [wZ_s] at h1
    obtain ⟨J', g1, g2⟩ := ih (p + 1) F _ (by omega) (by omega) h1
    refine ⟨J', g1, ?_⟩
    unfold f245_b60
    rw [if_neg (show ¬ (8 : Int32) ≤ Int32.ofNat p from fun h => absurd ((of_le (m := 8) (by decide) (by omega)).mp h) (by omega)), show (8 : Int32) * Int32.ofNat b = Int32.ofNat (8 * b) from eM 8 b, eA, ixA_of (by omega), Option.bind_some, of_s]
    exact g2
theorem M245 (hN : 2000 ≤ N) (zD : Z.1 (m + 24) = some (100, 256)) (zW : Z.1 (m + 25) = some (100, 256)) (hD : ∀ k, k < 256 → J0 (m + 24) k = D k) (hJ : MW m J0 J D) (hW : WF D) {t : Nat} (ht : t < 6) (h16 : nT (D (40 + 4 * t + 1)) < 16) (hf : nT (D (40 + 4 * t + 1)) % 8 = 0 → sFree D 25 8 < 32) : Ok (f245 kad N Z m (Int32.ofNat t) J) (fun v J' => mS v (pApS t D) ∧ MW m J0 J' (pApW t (J0 (m + 16) 1) D)) := by
  have hs := wd_nn (hW.1.1 (40 + 4 * t + 1) (by omega))
  have hon := of_nT hs
  unfold f245 pApS pApW
  rw [M235, Option.bind_some]
  dsimp only
  rw [of_s, ixA_of (by omega), Option.bind_some, M243 ht, Option.bind_some]
  dsimp only
  have ex := hJ.1 (40 + 4 * t + 1) (by omega)
  have em : J (m + 25) (40 + 4 * t + 1) - J (m + 25) (40 + 4 * t + 1) / (8 : Int32) * (8 : Int32) = Int32.ofNat (nT (D (40 + 4 * t + 1)) % 8) := by
    rw [ex]
    exact mod8 hs
  by_cases h8 : nT (D (40 + 4 * t + 1)) % 8 = 0
  · have hb := hf h8
    have hun := sFree_un (D := D) 25 8 rfl hb
    rw [if_neg (show ¬ ¬ J (m + 25) (40 + 4 * t + 1) - J (m + 25) (40 + 4 * t + 1) / (8 : Int32) * (8 : Int32) = 0 from fun hh => hh (by rw [em, h8]; rfl)), ex, if_pos h8, if_pos h8, M239 (D := D) hN zD (fun k hk => by rw [hJ.2 _ (by omega)]; exact hD k hk), Option.bind_some, if_pos hb]
    unfold pApp1
    have hfr := (sFree_le (D := D) 25 8 rfl (by decide)).2
    generalize sFree D 25 8 = b at hb hun hfr
    dsimp only
    rw [M238 zW hb, Option.bind_some]
    dsimp only
    rw [M235, Option.bind_some]
    dsimp only
    rw [← hon, show Int32.ofNat (nT (D (40 + 4 * t + 1))) / (8 : Int32) = Int32.ofNat (nT (D (40 + 4 * t + 1)) / 8) from eD (n := 8) (by omega) (by decide) (by decide), show Int32.ofNat (40 + 4 * t) + (2 : Int32) = Int32.ofNat (40 + 4 * t + 2) from eA _ 2, eA, ixA_of (by omega), Option.bind_some, nT_of (by omega)]
    refine Ok.w ?_
    generalize nT (D (40 + 4 * t + 1)) = n at h8 h16
    have h1 := hJ.up (k := 32 + b / 16) (v := J (m + 25) (32 + b / 16) ^^^ sMask (Int32.ofNat b))
    rw [hJ.1 _ (by omega), ← or_xor hb (show dB (D (32 + b / 16)) (b % 16) = false from hun), show wP D (32 + b / 16) (D (32 + b / 16) ||| sMask (Int32.ofNat b)) = wOn D b from rfl] at h1
    rw [hJ.1 _ (by omega), ← or_xor hb (show dB (D (32 + b / 16)) (b % 16) = false from hun)]
    have h2 := h1.up (k := 40 + 4 * t + (2 + n / 8)) (v := Int32.ofNat b)
    rw [show 40 + 4 * t + 2 + n / 8 = 40 + 4 * t + (2 + n / 8) from by omega]
    have h3 := h2
    rw [← wZ_0 (W := wP (wOn D b) (40 + 4 * t + (2 + n / 8)) (Int32.ofNat b)) (b := b)] at h3
    obtain ⟨J', g1, g2⟩ := M245_z (kad := kad) (N := N) (Z := Z) (t := t) (n := n) hb (oneB (5 + t / 2)) 8 0 N _ rfl (by omega) h3
    rw [show (0 : Int32) = Int32.ofNat 0 from rfl, g2]
    refine (M245_e (kad := kad) (N := N) zW g1 ht h16 hb (by unfold wZ; rw [if_neg (by omega), wP_eq]) _).mono fun v J2 ⟨hv, hJ2⟩ => ⟨?_, hJ2⟩
    rw [hv]
    refine (((mS.one (b := 5 + t / 2) (by omega)).or16).or1 hb).cong fun c hc => ?_
    rw [sA_t, sA_t, sA_t, sA_t, sA_t, sA_t, sA_t, sA_t]
    constructor
    · rintro (((h | h) | h) | h)
      · exact absurd h sN_t
      · exact Or.inr h
      · exact Or.inl (Or.inl (Or.inl (Or.inl (Or.inr h))))
      · exact Or.inl (Or.inr h)
    · rintro (((((h | h) | h) | h) | h) | h)
      · exact absurd h sN_t
      · exact Or.inl (Or.inr h)
      · exact Or.inl (Or.inl (Or.inr h))
      · exact Or.inr h
      · exact Or.inr h
      · exact Or.inl (Or.inl (Or.inr h))
  · obtain ⟨b1, b2, b3⟩ := (hW.1.2 t ht).blk2 rfl h16 h8
    have hbn := of_nT (wd_nn (hW.1.1 (40 + 4 * t + (2 + nT (D (40 + 4 * t + 1)) / 8)) (by omega)))
    rw [if_pos (show ¬ J (m + 25) (40 + 4 * t + 1) - J (m + 25) (40 + 4 * t + 1) / (8 : Int32) * (8 : Int32) = 0 from fun hh => h8 ((of_inj (n := 0) (by omega) (by decide)).mp (em.symm.trans hh))), ex, if_neg h8, if_neg h8]
    unfold pApp2
    have h := M245_e (kad := kad) (N := N) (t := t) zW hJ ht h16 b3 hbn.symm (oneB (5 + t / 2))
    rw [hon] at h
    refine h.mono fun v J2 ⟨hv, hJ2⟩ => ⟨?_, hJ2⟩
    rw [hv]
    refine ((mS.one (b := 5 + t / 2) (by omega)).or1 b3).cong fun c hc => ?_
    rw [sA_t, sA_t, sA_t, sA_t]
    constructor
    · rintro ((h | h) | h)
      · exact absurd h sN_t
      · exact Or.inr h
      · exact Or.inl (Or.inr h)
    · rintro ((h | h) | h)
      · exact absurd h sN_t
      · exact Or.inr h
      · exact Or.inl (Or.inr h)
theorem M246 (zW : Z.1 (m + 25) = some (100, 256)) (hJ : MW m J0 J D) (hW : WF D) {t : Nat} (ht : t < 6) {p : Nat} (hp : J0 (m + 16) 1 = Int32.ofNat p) (hlt : p < nT (D (40 + 4 * t + 1))) : Ok (f246 kad N Z m (Int32.ofNat t) J) (fun v J' => mS v (sA sN (nT (D (40 + 4 * t + (2 + p / 8))))) ∧ MW m J0 J' (wP D (8 * nT (D (40 + 4 * t + (2 + p / 8))) + p % 8) (J0 (m + 16) 2))) := by
  have ix1 : ixA 4 (1 : Int32) = some 1 := by decide
  have ix2 : ixA 4 (2 : Int32) = some 2 := by decide
  have h16 := (hW.1.2 t ht).2.1
  obtain ⟨b1, b2, b3⟩ := (hW.1.2 t ht).blk hlt
  have hbn := of_nT (wd_nn (hW.1.1 (40 + 4 * t + (2 + p / 8)) (by omega)))
  unfold f246
  rw [ix1, Option.bind_some, hJ.2 (m + 16) (by omega), hp, M241 zW ht (by omega), Option.bind_some, Option.bind_some, ix2, Option.bind_some]
  dsimp only
  rw [hJ.1 _ (by omega), hJ.2 (m + 16) (by omega), hp]
  generalize nT (D (40 + 4 * t + (2 + p / 8))) = b at b2 b3 hbn
  rw [← hbn, show Int32.ofNat p - Int32.ofNat p / (8 : Int32) * (8 : Int32) = Int32.ofNat (p % 8) from eR (n := 8) (by omega) (by decide) (by decide), show (8 : Int32) * Int32.ofNat b = Int32.ofNat (8 * b) from eM 8 b, eA, ixA_of (by omega), Option.bind_some]
  exact Ok.w (Ok.ret ⟨mS.one b3, hJ.up⟩)
end MF
