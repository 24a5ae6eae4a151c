/-! the sum of a machine, in both -/
def mx (a : Nat) (b : Int32) : Nat := (31 * a + nT b) % 1000003
def mxs (f : Nat → Int32) : Nat → Nat → Nat → Nat
  | 0, _, a => a
  | n + 1, i, a => mxs f n (i + 1) (mx a (f i))
theorem mx_lt (a : Nat) (b : Int32) : mx a b < 1000003 := Nat.mod_lt _ (by decide)
theorem mxs_lt {f : Nat → Int32} : ∀ (n i a : Nat), a < 1000003 → mxs f n i a < 1000003 := by
  intro n
  induction n with
  | zero => intro i a h; exact h
  | succ n ih => intro i a _; exact ih (i + 1) _ (mx_lt _ _)
theorem mxs_cong {f e : Nat → Int32} : ∀ (n i a : Nat), (∀ k, i ≤ k → k < i + n → f k = e k) → mxs f n i a = mxs e n i a := by
  intro n
  induction n with
  | zero => intro i a _; rfl
  | succ n ih =>
    intro i a h
    unfold mxs
    rw [h i (by omega) (by omega)]
    exact ih (i + 1) _ (fun k k1 k2 => h k (by omega) (by omega))
def sS1 (X : AI) : Nat := mx (mx (mx (mx (mx 7 (X 1 0)) (X 1 1)) (X 1 2)) (X 1 3)) (X 1 4)
def sS2 (X : AI) : Nat := mx (mx (mx (sS1 X) (sFl X)) (X 1 10)) (X 1 11)
def sS3 (X : AI) : Nat := mx (mxs (X 2) 4 0 (sS2 X)) (sLeft X)
def sS4 (X : AI) : Nat := mx (mxs (X 9) 256 0 (mxs (X 6) 256 0 (sS3 X))) (X 1 12)
def sumX (X : AI) : Nat := mxs (X 7) (nT (X 1 12)) 0 (sS4 X)
/-- what is summed are words -/
def SW (X : AI) : Prop := VV X ∧ (∀ k, k < 256 → wd (X 9 k)) ∧ wd (X 1 2) ∧ wd (sLeft X)
section SU
variable {kad : Nat → Nat} {N : Nat} {Z : AZ} {g m q s kc : Nat} {I : AI} {X K B : AI} {M D : Nat → Int32} {W : Int32}
theorem K113 {a : Nat} {b : Int32} (ha : a < 1000003) (hb : wd b) : f113 kad N Z (Int32.ofNat a) b I = some (Int32.ofNat (mx a b), I) := by
  have e := of_nT (wd_nn hb)
  have n := (wd_n hb).2.1
  have e2 : (31 : Int32) * Int32.ofNat a + b = Int32.ofNat (31 * a + nT b) := by
    rw [← eA, ← eM, e]; rfl
  unfold f113
  rw [e2]
  rw [show Int32.ofNat (31 * a + nT b) - Int32.ofNat (31 * a + nT b) / (1000003 : Int32) * (1000003 : Int32) = Int32.ofNat (mx a b) from eR (n := 1000003) (by omega) (by decide) (by decide)]
theorem K114_l {b n L : Nat} {f : Nat → Int32} (hz : Z.1 b = some (100, L)) (hnL : n ≤ L) (hL : L < 2147483648) (hf : ∀ k, k < n → I b k = f k) (hw : ∀ k, k < n → wd (f k)) : ∀ (r i a F : Nat), i + r = n → r < F → a < 1000003 → f114_b5 kad N Z F b (Int32.ofNat n) (Int32.ofNat a) (Int32.ofNat i) I = some (Int32.ofNat (mxs f r i a), I) := by
  intro r
  induction r with
  | zero =>
    intro i a F hi hF ha
    obtain ⟨F, rfl⟩ : ∃ G, F = G + 1 := ⟨F - 1, by omega⟩
    unfold f114_b5 f114_b33 mxs
    rw [if_pos ((of_le (by omega) (by omega)).mpr (by omega))]
  | succ r ih =>
    intro i a F hi hF ha
    obtain ⟨F, rfl⟩ : ∃ G, F = G + 1 := ⟨F - 1, by omega⟩
    unfold f114_b5
    rw [if_neg (fun h => absurd ((of_le (by omega) (by omega)).mp h) (by omega)), nL_of hz (by decide), Option.bind_some, if_neg (fun h => absurd ((of_le (by omega) (by omega)).mp h) (by omega)), lI_at hz (by omega) hL, Option.bind_some, hf i (by omega), K113 ha (hw i (by omega)), Option.bind_some]
    dsimp only
    rw [of_s]
    exact ih (i + 1) _ F (by omega) (by omega) (mx_lt _ _)
theorem K114 (hN : 2000 ≤ N) {b n L a : Nat} {f : Nat → Int32} (hz : Z.1 b = some (100, L)) (hnL : n ≤ L) (hL : L ≤ 256) (hf : ∀ k, k < n → I b k = f k) (hw : ∀ k, k < n → wd (f k)) (ha : a < 1000003) : f114 kad N Z (Int32.ofNat a) b (Int32.ofNat n) I = some (Int32.ofNat (mxs f n 0 a), I) :=
  K114_l hz hnL (by omega) hf hw n 0 a N (by omega) (by omega) ha
theorem wd_fl (X : AI) : wd (sFl X) := by
  unfold sFl sZL wd
  by_cases h5 : X 1 5 = 0
  all_goals by_cases h6 : X 1 6 = 0
  all_goals by_cases h7 : X 1 7 = 0
  all_goals by_cases h8 : X 1 8 = 0
  all_goals by_cases h9 : X 1 9 = 0
  all_goals simp only [h5, h6, h7, h8, h9, if_true, if_false]
  all_goals decide
theorem SW.t (h : SW X) : ∃ t, X 1 12 = Int32.ofNat t ∧ t ≤ 60 ∧ ∀ k, k < t → wd (X 7 k) := h.1.2.1.2.1
theorem wd_p {x : Int32} (h : ∃ p, x = Int32.ofNat p ∧ p ≤ 256) : wd x := by
  obtain ⟨p, e, h⟩ := h
  rw [e]
  exact wd_nat (by omega)
theorem sS1_lt : sS1 X < 1000003 := mx_lt _ _
theorem sS2_lt : sS2 X < 1000003 := mx_lt _ _
theorem sS3_lt : sS3 X < 1000003 := mx_lt _ _
theorem sS4_lt : sS4 X < 1000003 := mx_lt _ _
theorem K112 (hN : 2000 ≤ N) {a : Nat} (hz : sh8 kad Z a) (H : RM a I X) (hw : SW X) : f112 kad N Z a I = some (Int32.ofNat (sumX X), I) := by
  obtain ⟨t, t1, t2, t3⟩ := hw.t
  obtain ⟨⟨⟨-, v1⟩, ⟨v4, -⟩, ⟨v2, v6⟩, -⟩, v9, vs, vl⟩ := hw
  have ht : nT (X 1 12) = t := by rw [t1]; exact nT_of (by omega)
  unfold f112
  rw [H.f1 (k := 0), show (7 : Int32) = Int32.ofNat 7 from rfl, K113 (by decide) (v1 0 (by omega)), Option.bind_some]
  dsimp only
  rw [H.f1 (k := 1), K113 (mx_lt _ _) (v1 1 (by omega)), Option.bind_some]
  dsimp only
  rw [H.f1 (k := 2), K113 (mx_lt _ _) vs, Option.bind_some]
  dsimp only
  rw [H.f1 (k := 3), K113 (mx_lt _ _) (v1 3 (by omega)), Option.bind_some]
  dsimp only
  rw [H.f1 (k := 4), K113 (mx_lt _ _) (wd_p v4), Option.bind_some]
  dsimp only
  rw [K40 H, Option.bind_some]
  dsimp only
  rw [K113 (mx_lt _ _) (wd_fl X), Option.bind_some]
  dsimp only
  rw [H.f1 (k := 10), K113 (mx_lt _ _) (v1 10 (by omega)), Option.bind_some]
  dsimp only
  rw [H.f1 (k := 11), K113 (mx_lt _ _) (v1 11 (by omega)), Option.bind_some]
  dsimp only
  rw [show (4 : Int32) = Int32.ofNat 4 from rfl, K114 hN (f := X 2) (sh2_a14 (sh8_s0 hz)) (by decide) (by decide) (fun k hk => H 2 k (by decide) hk) v2 (mx_lt _ _), Option.bind_some]
  dsimp only
  rw [K63 H, Option.bind_some]
  dsimp only
  rw [K113 (mxs_lt _ _ _ (mx_lt _ _)) vl, Option.bind_some]
  dsimp only
  rw [show (256 : Int32) = Int32.ofNat 256 from rfl, K114 hN (f := X 6) (sh8_a1 hz) (by decide) (by decide) (fun k hk => H 6 k (by decide) hk) v6 (mx_lt _ _), Option.bind_some]
  dsimp only
  rw [K114 hN (f := X 9) (sh3_a0 (sh8_s3 hz)) (by decide) (by decide) (fun k hk => H 9 k (by decide) hk) v9 (mxs_lt _ _ _ (mx_lt _ _)), Option.bind_some]
  dsimp only
  rw [H.f1 (k := 12), K113 (mxs_lt _ _ _ (mxs_lt _ _ _ (mx_lt _ _))) (by rw [t1]; exact wd_nat (by omega)), Option.bind_some]
  dsimp only
  rw [show I (a + 1) 12 = Int32.ofNat t from (H.f1 (k := 12)).trans t1, K114 hN (f := X 7) (sh8_a2 hz) (by omega) (by decide) (fun k hk => H 7 k (by decide) (show k < nT (X 1 12) ∧ k < 60 by omega)) t3 (mx_lt _ _), Option.bind_some, ← ht]
  rfl
theorem K163 (hN : 2000 ≤ N) (hg : sh10 kad Z g) (H : RM (g + 114) I X) (hw : SW X) : f163 kad N Z g I = some (Int32.ofNat (sumX X), I) := by
  unfold f163
  rw [K112 hN (sh10_s3 hg) H hw, Option.bind_some]
/-- a machine that is on, between its steps -/
theorem Inv.sw {s : Nat} (h : Inv q s X) (hs : s ≤ 2000) : SW X := by
  refine ⟨h.1.1, fun k hk => h.okm.2.1.1 k hk, by rw [h.2.2]; exact wd_nat (by omega), ?_⟩
  rcases h.1.2 with hF | ⟨n, dd, hF⟩
  · unfold sLeft
    rw [if_pos hF.1.1]
    exact wd_nat (n := 0) (by decide)
  · obtain ⟨⟨⟨⟨w1, w2, w3⟩, ⟨w4, w5⟩, -⟩, -⟩, -⟩ := id hF
    have hl : sLeft X = Int32.ofNat (2 * n + 2 - dd) := by
      unfold sLeft
      rw [w4, w5, if_neg (of_nz (by omega) (by omega)), show (2 : Int32) * Int32.ofNat n = Int32.ofNat (2 * n) from eM 2 n, show Int32.ofNat (2 * n) + (2 : Int32) = Int32.ofNat (2 * n + 2) from eA _ 2]
      have : Int32.ofNat (2 * n + 2) = Int32.ofNat (2 * n + 2 - dd) + Int32.ofNat dd := by
        rw [eA]; congr 1; omega
      rw [this]
      grind
    rw [hl]
    exact wd_nat (by omega)
/-- a machine that is off -/
theorem off_sw (hD : ∀ k, k < 256 → wd (D k)) : SW (ov K (offm D W)) := by
  have z : wd 0 := wd_nat (n := 0) (by decide)
  have e1 : ∀ k, ov K (offm D W) 1 k = 0 := fun k => by rw [ov_r1, off_1]
  have eo : ∀ c k, (c = 2 ∨ c = 3 ∨ c = 6 ∨ c = 7) → ov K (offm D W) c k = 0 := fun c k hc => by rw [ov_r (by omega), off_o (by omega)]
  refine ⟨⟨⟨fun k _ _ => Or.inl (e1 k), fun k _ => by rw [e1]; exact z⟩, ⟨⟨0, e1 4, by decide⟩, ⟨0, e1 12, by decide, fun k hk => absurd hk (by omega)⟩, 0, e1 13, by decide⟩, ⟨fun k _ => by rw [eo 2 k (by decide)]; exact z, fun k _ => by rw [eo 6 k (by decide)]; exact z⟩, Or.inl (by rw [e1]; rfl)⟩, fun k hk => ?_, by rw [e1]; exact z, ?_⟩
  · rw [ov_r9, off_9]; exact hD k hk
  · unfold sLeft
    rw [eo 3 0 (by decide), if_pos rfl]
    exact z
end SU
