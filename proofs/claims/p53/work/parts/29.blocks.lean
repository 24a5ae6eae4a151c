/-! a block is written, and what was there is kept -/
def hd (I : AI) (b n : Nat) (f : Nat → Int32) : AI := fun c k => if c = b ∧ k < n then f k else I c k
theorem hd_0 {I : AI} {b : Nat} {f : Nat → Int32} : hd I b 0 f = I := by
  funext c k
  unfold hd
  rw [if_neg (by omega)]
theorem hd_s {I : AI} {b n : Nat} {f : Nat → Int32} : up2 (hd I b n f) b n (f n) = hd I b (n + 1) f := by
  funext c k
  unfold up2 hd
  by_cases h : c = b ∧ k = n
  · rw [if_pos h, if_pos (by omega), h.2]
  · rw [if_neg h]
    by_cases h2 : c = b ∧ k < n
    · rw [if_pos h2, if_pos (by omega)]
    · rw [if_neg h2, if_neg (by omega)]
theorem hd_b {I : AI} {b n c : Nat} {f : Nat → Int32} (h : ¬ c = b) : hd I b n f c = I c := by
  funext k
  unfold hd
  rw [if_neg (by omega)]
theorem hd_at {I : AI} {b n k : Nat} {f : Nat → Int32} (h : k < n) : hd I b n f b k = f k := by
  unfold hd
  rw [if_pos ⟨rfl, h⟩]
theorem hd_out {I : AI} {b n k : Nat} {f : Nat → Int32} (h : ¬ k < n) : hd I b n f b k = I b k := by
  unfold hd
  rw [if_neg (by omega)]
theorem ixA_of {n i : Nat} (h : i < n) (hn : n < 2147483648 := by decide) : ixA n (Int32.ofNat i) = some i := by
  have e2 : nT (Int32.ofNat i) = i := nT_of (by omega)
  unfold ixA
  rw [if_pos (by rintro (h | h); exact of_nn (by omega) h; have h9 : n ≤ nT (Int32.ofNat i) := h; rw [e2] at h9; omega), show (Int32.ofNat i).toNatClampNeg = i from e2]
theorem f43_ok {kad : Nat → Nat} {N : Nat} {Z : AZ} {d b p : Nat} {J : AI} (hb : b < 32) (hp : p < 8) : f43 kad N Z d (Int32.ofNat b) (Int32.ofNat p) J = some (J (d + 1) (8 * b + p), J) := by
  unfold f43 f43_b25 f43_b45
  rw [if_neg (of_nn (by omega)), if_neg (show ¬ (32 : Int32) ≤ Int32.ofNat b from fun h => absurd ((of_le (m := 32) (by decide) (by omega)).mp h) (by omega)), if_neg (of_nn (by omega)), if_neg (show ¬ (8 : Int32) ≤ Int32.ofNat p from fun h => absurd ((of_le (m := 8) (by decide) (by omega)).mp h) (by omega)), if_neg z10]
  rw [mul8 (of_nn (by omega)) (by rw [nT_of (by omega)]; omega) (by omega), show nT (Int32.ofNat b) = b from nT_of (by omega), ixA_of (by omega), Option.bind_some]
theorem m8 (b : Nat) : Int32.ofNat b * 8 = Int32.ofNat (8 * b) := by
  rw [show Int32.ofNat (8 * b) = Int32.ofNat b * Int32.ofNat 8 from by rw [← Int32.ofNat_mul]; congr 1; omega]
  rfl
theorem C69_l {kad : Nat → Nat} {N : Nat} {Z : AZ} {κ d b : Nat} (hb : b < 32) (hn : ¬ d + 1 = κ + 8) : ∀ (n p F : Nat) (I : AI), p + n = 8 → n < F → f69_b7 kad N Z F κ d (Int32.ofNat b) (Int32.ofNat p) (hd I (κ + 8) p (fun k => I (d + 1) (8 * b + k))) = some ((), hd I (κ + 8) 8 (fun k => I (d + 1) (8 * b + k))) := by
  intro n
  induction n with
  | zero =>
    intro p F I hp hF
    obtain ⟨F, rfl⟩ : ∃ G, F = G + 1 := ⟨F - 1, by omega⟩
    unfold f69_b7
    rw [if_pos (show (8 : Int32) ≤ Int32.ofNat p from (of_le (m := 8) (by decide) (by omega)).mpr (by omega))]
    obtain rfl : p = 8 := by omega
    rfl
  | succ n ih =>
    intro p F I hp hF
    obtain ⟨F, rfl⟩ : ∃ G, F = G + 1 := ⟨F - 1, by omega⟩
    unfold f69_b7
    rw [if_neg (show ¬ (8 : Int32) ≤ Int32.ofNat p from fun h => absurd ((of_le (m := 8) (by decide) (by omega)).mp h) (by omega)), of_s, f43_ok hb (by omega), Option.bind_some, ixA_of (by omega), Option.bind_some]
    dsimp only
    rw [hd_b hn]
    show Option.bind (some (up2 _ _ _ ((fun k => I (d + 1) (8 * b + k)) p))) _ = _
    rw [hd_s, Option.bind_some]
    exact ih (p + 1) F I (by omega) (by omega)
theorem C69 {kad : Nat → Nat} {N : Nat} {Z : AZ} {κ d b : Nat} {I : AI} (hN : 2000 ≤ N) (hb : b < 32) (hn : ¬ d + 1 = κ + 8) : f69 kad N Z κ (Int32.ofNat b) d I = some ((), hd (up2 I κ 4 (Int32.ofNat b)) (κ + 8) 8 (fun k => up2 I κ 4 (Int32.ofNat b) (d + 1) (8 * b + k))) := by
  unfold f69 wI
  rw [Option.bind_some]
  have h := C69_l (kad := kad) (N := N) (Z := Z) hb hn 8 0 N (up2 I κ 4 (Int32.ofNat b)) rfl (by omega)
  rwa [hd_0] at h
theorem C44 {kad : Nat → Nat} {N : Nat} {Z : AZ} {d b src i L : Nat} {I : AI} (hb : b < 32) (hd : Z.1 (d + 1) = some (100, 256)) (hs : Z.1 src = some (100, L)) (hi : i + 8 ≤ L) (hL : L < 2147483600) : f44 kad N Z d (Int32.ofNat b) src (Int32.ofNat i) I = some ((), up2 (cpI I src (d + 1) i (8 * b) 8) d 1 (I d 1 + 1)) := by
  unfold f44 f44_b48
  rw [if_neg (of_nn (by omega)), if_neg (show ¬ (32 : Int32) ≤ Int32.ofNat b from fun h => absurd ((of_le (m := 32) (by decide) (by omega)).mp h) (by omega)), if_neg (of_nn (by omega)), nL_of hs (by decide), Option.bind_some, if_neg (show ¬ Int32.ofNat L < Int32.ofNat i + 8 from fun h => by
    rw [show Int32.ofNat i + 8 = Int32.ofNat (i + 8) from (Int32.ofNat_add _ 8).symm, of_lt (by omega) (by omega)] at h; omega), m8]
  rw [show cI Z I src (Int32.ofNat i) (d + 1) (Int32.ofNat (8 * b)) (8 : Int32) = some (cpI I src (d + 1) i (8 * b) 8) from cI_ok (n := 8) hs hd hi (by omega) (by omega), Option.bind_some]
  unfold wI
  rw [Option.bind_some, congrFun (cpI_b (show ¬ d = d + 1 by omega)) 1]
def sWBl (b : Nat) (f : Nat → Int32) (X : AI) : AI := fun c k => if c = 20 ∧ k = 4 then Int32.ofNat b else if c = 28 ∧ k < 8 then X 9 (8 * b + k) else if c = 9 ∧ 8 * b ≤ k ∧ k < 8 * b + 8 then f (k - 8 * b) else if c = 8 ∧ k = 1 then X 8 1 + 1 else X c k
theorem sWBl_o {b : Nat} {f : Nat → Int32} {X : AI} {c : Nat} (h : ¬ c = 20 ∧ ¬ c = 28 ∧ ¬ c = 9 ∧ ¬ c = 8) : sWBl b f X c = X c := by
  funext k
  unfold sWBl
  rw [if_neg (fun hh => h.1 hh.1), if_neg (fun hh => h.2.1 hh.1), if_neg (fun hh => h.2.2.1 hh.1), if_neg (fun hh => h.2.2.2 hh.1)]
section WB
variable {kad : Nat → Nat} {N : Nat} {e : Nat} {Z : AZ} {a κ : Nat} {I0 I X : AI}
theorem C110 (hN : 2000 ≤ N) (ha : sh8 kad Z a) (H : RC e Z a κ I0 I X) {b src i L : Nat} {f : Nat → Int32} (hb : b < 32) (hs : Z.1 src = some (100, L)) (hi : i + 8 ≤ L) (hL : L < 2147483600) (hsr : a < src ∧ src < a + 17 ∧ ¬ src = a + 9 ∧ ¬ src = a + 8) (hf : ∀ k, k < 8 → f k = I src (i + k)) : Ok (f110 kad N Z a (Int32.ofNat b) src (Int32.ofNat i) I) (fun _ J => RC e Z a κ I0 J (sWBl b f X)) := by
  have hdj := H.2.1
  unfold f110
  rw [H.kp, C69 hN hb (by omega), Option.bind_some]
  have z9 : Z.1 (a + 8 + 1) = some (100, 256) := sh3_a0 (sh8_s3 ha)
  dsimp only
  rw [C44 hb z9 hs hi hL, Option.bind_some]
  dsimp only
  refine Ok.ret ?_
  have ek : ∀ q k, ¬ q = κ → up2 I κ 4 (Int32.ofNat b) q k = I q k := fun q k hq => congrFun (up2_b hq) k
  have o1 : ∀ q, ¬ q = κ → ¬ q = κ + 8 → ∀ k, hd (up2 I κ 4 (Int32.ofNat b)) (κ + 8) 8 (fun k => up2 I κ 4 (Int32.ofNat b) (a + 8 + 1) (8 * b + k)) q k = I q k := fun q h1 h2 k => by rw [hd_b h2, ek _ _ h1]
  have o2 : ∀ q, ¬ q = a + 8 → ¬ q = a + 9 → ∀ k, up2 (cpI (hd (up2 I κ 4 (Int32.ofNat b)) (κ + 8) 8 (fun k => up2 I κ 4 (Int32.ofNat b) (a + 8 + 1) (8 * b + k))) src (a + 8 + 1) i (8 * b) 8) (a + 8) 1 (hd (up2 I κ 4 (Int32.ofNat b)) (κ + 8) 8 (fun k => up2 I κ 4 (Int32.ofNat b) (a + 8 + 1) (8 * b + k)) (a + 8) 1 + 1) q k = hd (up2 I κ 4 (Int32.ofNat b)) (κ + 8) 8 (fun k => up2 I κ 4 (Int32.ofNat b) (a + 8 + 1) (8 * b + k)) q k := fun q h1 h2 k => by rw [up2_b h1, cpI_b (by omega)]
  refine ⟨?_, hdj, fun q h1 h2 => ?_, fun c k hr => ?_⟩
  · rw [o2 a (by omega) (by omega), o1 a (by omega) (by omega)]
    exact H.kp
  · funext k
    rw [o2 q (by omega) (by omega), o1 q (by omega) (by omega)]
    exact congrFun (H.2.2.1 q h1 h2) k
  · have hv := rel_vc hr
    by_cases h20 : c = 20
    · subst h20
      rw [show loc a κ 20 = κ from by unfold loc; rw [if_neg (by decide)]; omega, o2 κ (by omega) (by omega), hd_b (by omega)]
      rcases hr with rfl | rfl
      · rw [up2_ne (show ¬ (κ = κ ∧ 1 = 4) from by omega)]
        exact H.rd0 (Or.inl rfl)
      · rw [up2_eq]
        rfl
    by_cases h28 : c = 28
    · subst h28
      have hk : k < 8 := hr.1
      rw [show loc a κ 28 = κ + 8 from by unfold loc; rw [if_neg (by decide)], o2 (κ + 8) (by omega) (by omega), hd_at hk, ek _ _ (by omega)]
      rw [show sWBl b f X 28 k = X 9 (8 * b + k) from by unfold sWBl; rw [if_neg (by omega), if_pos ⟨rfl, hk⟩]]
      exact H.rd (c := 9) (by decide) (show 8 * b + k < 256 by omega)
    by_cases h9 : c = 9
    · subst h9
      have hk : k < 256 := hr
      rw [show loc a κ 9 = a + 9 from by unfold loc; rw [if_pos (by decide)], up2_b (by omega)]
      by_cases hin : 8 * b ≤ k ∧ k < 8 * b + 8
      · rw [show a + 9 = a + 8 + 1 from rfl, cpI_at hin, o1 src (by omega) (by omega), ← hf (k - 8 * b) (by omega)]
        unfold sWBl
        rw [if_neg (by omega), if_neg (by omega), if_pos ⟨rfl, hin⟩]
      · rw [show a + 9 = a + 8 + 1 from rfl, cpI_out hin, o1 (a + 8 + 1) (by omega) (by omega)]
        rw [show sWBl b f X 9 k = X 9 k from by unfold sWBl; rw [if_neg (by omega), if_neg (by omega), if_neg (by omega), if_neg (by omega)]]
        exact H.rd (c := 9) (by decide) hk
    by_cases h8 : c = 8
    · subst h8
      obtain rfl : k = 1 := hr
      rw [show loc a κ 8 = a + 8 from by unfold loc; rw [if_pos (by decide)], up2_eq, o1 (a + 8) (by omega) (by omega), show I (a + 8) 1 = X 8 1 from H.rd (c := 8) (by decide) rfl]
      rfl
    · have hx : ∀ k, sWBl b f X c k = X c k := fun k => congrFun (sWBl_o ⟨h20, h28, h9, h8⟩) k
      have hl : ¬ loc a κ c = a + 8 ∧ ¬ loc a κ c = a + 9 ∧ ¬ loc a κ c = κ ∧ ¬ loc a κ c = κ + 8 := by
        unfold loc
        split <;> omega
      rw [o2 _ hl.1 hl.2.1, o1 _ hl.2.2.1 hl.2.2.2, hx]
      refine H.2.2.2 c k ?_
      unfold rel at hr ⊢
      rw [show sWBl b f X 3 = X 3 from sWBl_o (by decide), show sWBl b f X 1 = X 1 from sWBl_o (by decide), show sWBl b f X 10 = X 10 from sWBl_o (by decide), show sWBl b f X 23 = X 23 from sWBl_o (by decide), show sWBl b f X 20 1 = X 20 1 from rfl] at hr
      split at hr <;> first
        | exact hr
        | exact absurd rfl h28
end WB
