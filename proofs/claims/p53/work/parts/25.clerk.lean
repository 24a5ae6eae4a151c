/-! the file calls: their result, and what the blocks will be -/
def sPut (b : Int32) (p : Nat) (w : Int32) (X : AI) : AI := if b < 0 then X else if (32 : Int32) ≤ b then X else up2 (up2 X 14 (8 * nT b + p) w) 15 (nT b) 1
def sPE (t w : Nat) (v : Int32) (X : AI) : AI := sPut (Int32.ofNat (5 + t / 2)) (4 * (t % 2) + w) v X
def sMask (b : Int32) : Int32 := (1 : Int32) <<< ((b - b / 16 * 16) &&& 31)
def sUse (b : Int32) (u : Bool) (X : AI) : AI :=
  if b < 0 then X else if (32 : Int32) ≤ b then X else
  let p : Nat := if (16 : Int32) ≤ b then 1 else 0
  sPut 4 p (if u then X 14 (32 + p) ||| sMask b else X 14 (32 + p) &&& (sMask b ^^^ Int32.ofInt (-1))) X
def sZero (b : Int32) : Nat → AI → AI
  | 0, X => X
  | n + 1, X => sPut b n 0 (sZero b n X)
def sApp2 (t : Nat) (w size b : Int32) (X : AI) : AI := sPE t 1 (size + 1) (sPut b (nT size % 8) w X)
def sApp (t : Nat) (w : Int32) (X : AI) : AI :=
  let size := X 9 (40 + 4 * t + 1)
  if nT size % 8 = 0 then
    let b := if sFree (X 9) 25 8 < 32 then Int32.ofNat (sFree (X 9) 25 8) else Int32.ofInt (-1)
    sApp2 t w size b (sZero b 8 (sPE t (if (8 : Int32) ≤ size then 3 else 2) b (sUse b true X)))
  else sApp2 t w size (X 9 (40 + 4 * t + (if (8 : Int32) ≤ size then 3 else 2))) X
def sRm1 (b : Int32) (X : AI) : AI := if b = 0 then X else sUse b false X
def sRm (t : Nat) (X : AI) : AI := sPE t 3 0 (sPE t 2 0 (sPE t 1 0 (sPE t 0 0 (sRm1 (X 9 (40 + 4 * t + 3)) (sRm1 (X 9 (40 + 4 * t + 2)) X)))))
def sRen (t : Nat) (name : Int32) (X : AI) : AI :=
  let o := sFind (X 9) name 7 0
  if o = t then X else sPE t 0 name (if o < 6 then sRm o X else X)
def sE (X : AI) : Nat := if X 2 0 = 0 then 6 else sFind (X 9) (X 2 0) 7 0
def sRefuse (call : Int32) (X : AI) : Int32 :=
  if call = 0 then (if sE X < 6 ∨ X 2 0 = 0 then 1 else if sFind (X 9) 0 7 0 < 6 then 0 else 2)
  else if ¬ sE X < 6 ∨ (call = 6 ∧ X 2 1 = 0) then 1
  else if call = 1 then (if (16 : Int32) ≤ X 9 (40 + 4 * sE X + 1) then 2 else if nT (X 9 (40 + 4 * sE X + 1)) % 8 = 0 ∧ ¬ sFree (X 9) 25 8 < 32 then 3 else 0)
  else if (call = 2 ∨ call = 3) ∧ X 9 (40 + 4 * sE X + 1) ≤ X 2 1 then 2 else 0
def sCarry (call : Int32) (X : AI) : AI :=
  let t := sE X
  if call = 0 then sPE (sFind (X 9) 0 7 0) 0 (X 2 0) X
  else if call = 1 then sApp t (X 2 1) X
  else if call = 2 then sPut (X 9 (40 + 4 * t + (if (8 : Int32) ≤ X 2 1 then 3 else 2))) (nT (X 2 1) % 8) (X 2 2) X
  else if call = 3 then up2 X 2 2 (sFileW (X 9) t (X 2 1))
  else if call = 4 then up2 X 2 1 (X 9 (40 + 4 * t + 1))
  else if call = 5 then sRm t X
  else sRen t (X 2 1) X
/-- the words of a disk that the machine has are words -/
def wdk (X : AI) : Prop := (∀ k, k < 256 → wd (X 9 k)) ∧ (∀ k, k < 4 → wd (X 2 k))
theorem wd_nn {x : Int32} (h : wd x) : ¬ x < 0 := by
  intro h2
  have h1 := h.1
  rw [Int32.le_iff_toInt_le] at h1
  rw [Int32.lt_iff_toInt_lt] at h2
  omega
theorem e33 : ∀ k : Fin 32, (32 : Int32) + Int32.ofNat k.1 / 16 = Int32.ofNat (32 + (if (16 : Int32) ≤ Int32.ofNat k.1 then 1 else 0)) := by decide
theorem e34 : ∀ (t : Fin 6) (w : Fin 4), Int32.ofNat (40 + 4 * t.1 + w.1) / 8 = Int32.ofNat (5 + t.1 / 2) := by decide
section CK
variable {kad : Nat → Nat} {N : Nat} {Z : AZ} {a κ : Nat} {I0 I X : AI}
theorem C35 (H : RC 1 Z a κ I0 I X) (b : Int32) {p : Nat} (hp : p < 8) (w : Int32) : Ok (f35 kad N Z (a + 13) b (Int32.ofNat p) w I) (fun _ J => RC 1 Z a κ I0 J (sPut b p w X)) := by
  unfold f35 f35_b39 sPut
  split
  · exact Ok.ret H
  · rename_i h0
    split
    · exact Ok.ret H
    · rename_i h1
      have hb := nT_b (n := 32) h0 h1
      rw [if_neg (of_nn (by omega)), if_neg (show ¬ (8 : Int32) ≤ Int32.ofNat p from fun h => absurd ((of_le (m := 8) (by decide) (by omega)).mp h) (by omega)), mul8 h0 (by omega) (by omega)]
      have e1 : nT (Int32.ofNat (8 * nT b + p)) = 8 * nT b + p := nT_of (by omega)
      refine Ok.ix (of_nn (by omega)) (by rw [e1]; omega) (Ok.w ?_)
      rw [e1]
      refine Ok.ix h0 hb (Ok.wb (Or.inr rfl) (Ok.ret ?_))
      exact (H.up (c := 14) (k := 8 * nT b + p) (v := w) (by decide) (nc2 (by decide))).up (c := 15) (k := nT b) (v := 1) (by decide) (nc2 (by decide))
theorem C34 (H : RC 1 Z a κ I0 I X) {t w : Nat} (ht : t < 6) (hw : w < 4) (v : Int32) : Ok (f34 kad N Z (a + 13) (Int32.ofNat t) (Int32.ofNat w) v I) (fun _ J => RC 1 Z a κ I0 J (sPE t w v X)) := by
  unfold f34 f34_b48 sPE sPut
  have e1 : nT (Int32.ofNat (5 + t / 2)) = 5 + t / 2 := nT_of (by omega)
  rw [if_neg (of_nn (by omega)), if_neg (show ¬ (6 : Int32) ≤ Int32.ofNat t from fun h => absurd ((of_le (m := 6) (by decide) (by omega)).mp h) (by omega)), if_neg (of_nn (by omega)), if_neg (show ¬ (4 : Int32) ≤ Int32.ofNat w from fun h => absurd ((of_le (m := 4) (by decide) (by omega)).mp h) (by omega)), e50, ixA_k (by omega), Option.bind_some]
  refine Ok.w ?_
  rw [e34 ⟨t, ht⟩ ⟨w, hw⟩, ixA_k (by omega), Option.bind_some, if_neg (of_nn (by omega)), if_neg (show ¬ (32 : Int32) ≤ Int32.ofNat (5 + t / 2) from fun h => absurd ((of_le (m := 32) (by decide) (by omega)).mp h) (by omega)), e1, show 8 * (5 + t / 2) + (4 * (t % 2) + w) = 40 + 4 * t + w by omega]
  refine Ok.wb (Or.inr rfl) (Ok.ret ?_)
  exact (H.up (c := 14) (k := 40 + 4 * t + w) (v := v) (by decide) (nc2 (by decide))).up (c := 15) (k := 5 + t / 2) (v := 1) (by decide) (nc2 (by decide))
theorem C33_m (H : RC 1 Z a κ I0 I X) {p : Nat} (hp : p < 2) (w : Int32) : Ok (f33_b58 kad N Z (a + 13) w (Int32.ofNat (32 + p)) I) (fun _ J => RC 1 Z a κ I0 J (sPut 4 p w X)) := by
  unfold f33_b58 f33_b66 sPut
  rw [ixA_k (by omega), Option.bind_some]
  refine Ok.w ?_
  rw [show ixA 32 (4 : Int32) = some 4 by decide, Option.bind_some, if_neg (show ¬ (4 : Int32) < 0 by decide), if_neg (show ¬ (32 : Int32) ≤ 4 by decide), show nT (4 : Int32) = 4 by decide, show 8 * 4 + p = 32 + p by omega]
  refine Ok.wb (Or.inr rfl) (Ok.ret ?_)
  exact (H.up (c := 14) (k := 32 + p) (v := w) (by decide) (nc2 (by decide))).up (c := 15) (k := 4) (v := 1) (by decide) (nc2 (by decide))
theorem C33 (H : RC 1 Z a κ I0 I X) (b : Int32) (u : Bool) : Ok (f33 kad N Z (a + 13) b (if u then 1 else 0) I) (fun _ J => RC 1 Z a κ I0 J (sUse b u X)) := by
  unfold f33 f33_b66 sUse
  split
  · exact Ok.ret H
  rename_i h0
  split
  · exact Ok.ret H
  rename_i h1
  have hb := nT_b (n := 32) h0 h1
  have e16 : (32 : Int32) + b / 16 = Int32.ofNat (32 + (if (16 : Int32) ≤ b then 1 else 0)) := by
    have := e33 ⟨nT b, hb⟩
    dsimp only at this
    rwa [of_nT h0] at this
  have hp : (if (16 : Int32) ≤ b then 1 else 0) < 2 := by split <;> decide
  rw [e16]
  dsimp only
  generalize (if (16 : Int32) ≤ b then 1 else 0) = p at hp
  have rd : I (a + 13 + 1) (32 + p) = X 14 (32 + p) := H.rd (c := 14) (by decide) ⟨rfl, by omega⟩
  rw [ixA_k (by omega), Option.bind_some, Option.bind_some, rd]
  cases u
  · rw [if_pos (by decide)]
    exact C33_m H hp _
  · rw [if_neg (by decide)]
    exact C33_m H hp _
theorem C30_z (b : Int32) (t : Nat) (size w : Int32) (ht : t < 6) (hs : ¬ size < 0) : ∀ (n p F : Nat) (I X : AI), p + n = 8 → n < F → RC 1 Z a κ I0 I (sZero b p X) → Ok (f30_b65 kad N Z F (a + 13) (a + 8) (Int32.ofNat t) w size b (Int32.ofNat p) I) (fun _ J => RC 1 Z a κ I0 J (sApp2 t w size b (sZero b 8 X))) := by
  intro n
  induction n with
  | zero =>
    intro p F I X hp hF H
    obtain ⟨F, rfl⟩ : ∃ G, F = G + 1 := ⟨F - 1, by omega⟩
    unfold f30_b65 f30_b87 sApp2
    rw [if_pos (show (8 : Int32) ≤ Int32.ofNat p from (of_le (m := 8) (by decide) (by omega)).mpr (by omega)), mod8 hs]
    obtain rfl : p = 8 := by omega
    refine (C35 H b (p := nT size % 8) (by omega) w).bind fun v J HJ => ?_
    exact (C34 HJ (t := t) (w := 1) ht (by decide) _).bind fun v J HJ => Ok.ret HJ
  | succ n ih =>
    intro p F I X hp hF H
    obtain ⟨F, rfl⟩ : ∃ G, F = G + 1 := ⟨F - 1, by omega⟩
    unfold f30_b65
    rw [if_neg (show ¬ (8 : Int32) ≤ Int32.ofNat p from fun h => absurd ((of_le (m := 8) (by decide) (by omega)).mp h) (by omega)), of_s]
    exact (C35 H b (p := p) (by omega) 0).bind fun v J HJ => ih (p + 1) F J X (by omega) (by omega) HJ
theorem C30 (hN : 2000 ≤ N) (H : RC 1 Z a κ I0 I X) (hw : wdk X) {t : Nat} (ht : t < 6) (w fb : Int32) (hfb : fb = if sFree (X 9) 25 8 < 32 then Int32.ofNat (sFree (X 9) 25 8) else Int32.ofInt (-1)) : Ok (f30 kad N Z (a + 13) (Int32.ofNat t) w fb (a + 8) I) (fun _ J => RC 1 Z a κ I0 J (sApp t w X)) := by
  unfold f30 sApp
  have hs := wd_nn (hw.1 (40 + 4 * t + 1) (by omega))
  refine (C50 H (t := t) (w := 1) ht (by decide)).bind fun v J ⟨hv, hJ⟩ => ?_
  subst hv hJ
  dsimp only
  rw [f48_ok, Option.bind_some]
  dsimp only
  rw [C28 hs, Option.bind_some]
  dsimp only
  by_cases h8 : nT (X 9 (40 + 4 * t + 1)) % 8 = 0
  · simp only [if_pos h8]
    rw [if_neg z10, ← hfb]
    unfold f30_b36
    rw [C28 hs, Option.bind_some]
    dsimp only
    simp only [if_pos h8]
    rw [if_neg z10]
    refine (C33 H fb true).bind fun v J HJ => ?_
    dsimp only
    have fin : ∀ (q : Nat) (hq : q < 4), Ok ((f34 kad N Z (a + 13) (Int32.ofNat t) (Int32.ofNat q) fb J).bind fun r59_3 => f30_b65 kad N Z N (a + 13) (a + 8) (Int32.ofNat t) w (X 9 (40 + 4 * t + 1)) fb (0 : Int32) r59_3.2) (fun _ J => RC 1 Z a κ I0 J (sApp2 t w (X 9 (40 + 4 * t + 1)) fb (sZero fb 8 (sPE t q fb (sUse fb true X))))) := fun q hq => by
      refine (C34 HJ (t := t) (w := q) ht hq _).bind fun v J HJ => ?_
      exact C30_z _ t _ w ht hs 8 0 N J _ rfl (by omega) HJ
    by_cases h : (8 : Int32) ≤ X 9 (40 + 4 * t + 1)
    · rw [if_pos h, if_pos h]
      exact fin 3 (by decide)
    · rw [if_neg h, if_neg h]
      exact fin 2 (by decide)
  · simp only [if_neg h8]
    rw [if_pos trivial]
    refine (C50p H ht _).bind fun v J ⟨hv, hJ⟩ => ?_
    subst hv hJ
    dsimp only
    unfold f30_b36
    rw [C28 hs, Option.bind_some]
    dsimp only
    simp only [if_neg h8]
    rw [if_pos trivial]
    unfold f30_b87 sApp2
    rw [mod8 hs]
    refine (C35 H _ (p := nT _ % 8) (by omega) w).bind fun v J HJ => ?_
    exact (C34 HJ (t := t) (w := 1) ht (by decide) _).bind fun v J HJ => Ok.ret HJ
theorem sPut_o {b : Int32} {p : Nat} {w : Int32} {X : AI} {c : Nat} (h : ¬ c = 14 ∧ ¬ c = 15) : sPut b p w X c = X c := by
  unfold sPut
  split
  · rfl
  · split
    · rfl
    · rw [up2_b h.2, up2_b h.1]
theorem sUse_o {b : Int32} {u : Bool} {X : AI} {c : Nat} (h : ¬ c = 14 ∧ ¬ c = 15) : sUse b u X c = X c := by
  unfold sUse
  split
  · rfl
  split
  · rfl
  exact sPut_o h
theorem sRm1_o {b : Int32} {X : AI} {c : Nat} (h : ¬ c = 14 ∧ ¬ c = 15) : sRm1 b X c = X c := by
  unfold sRm1
  split
  · rfl
  · exact sUse_o h
theorem sRm_o {t : Nat} {X : AI} {c : Nat} (h : ¬ c = 14 ∧ ¬ c = 15) : sRm t X c = X c := by
  unfold sRm sPE
  rw [sPut_o h, sPut_o h, sPut_o h, sPut_o h, sRm1_o h, sRm1_o h]
theorem C31 (hN : 2000 ≤ N) (H : RC 1 Z a κ I0 I X) {t : Nat} (ht : t < 6) : Ok (f31 kad N Z (a + 13) (Int32.ofNat t) (a + 8) I) (fun _ J => RC 1 Z a κ I0 J (sRm t X)) := by
  have tail : ∀ (F : Nat) (_ : 5 ≤ F) (I : AI) (Y : AI), RC 1 Z a κ I0 I Y → Ok (f31_b35 kad N Z F (a + 13) (a + 8) (Int32.ofNat t) 0 I) (fun _ J => RC 1 Z a κ I0 J (sPE t 3 0 (sPE t 2 0 (sPE t 1 0 (sPE t 0 0 Y))))) := fun F hF I Y H => by
    obtain ⟨F, rfl⟩ : ∃ G, F = G + 5 := ⟨F - 5, by omega⟩
    unfold f31_b35
    rw [if_neg (by decide)]
    refine (C34 H (t := t) (w := 0) ht (by decide) 0).bind fun v J HJ => ?_
    unfold f31_b35
    rw [if_neg (by decide)]
    refine (C34 HJ (t := t) (w := 1) ht (by decide) 0).bind fun v J HJ => ?_
    unfold f31_b35
    rw [if_neg (by decide)]
    refine (C34 HJ (t := t) (w := 2) ht (by decide) 0).bind fun v J HJ => ?_
    unfold f31_b35
    rw [if_neg (by decide)]
    refine (C34 HJ (t := t) (w := 3) ht (by decide) 0).bind fun v J HJ => ?_
    unfold f31_b35
    rw [if_pos (by decide)]
    exact Ok.ret HJ
  unfold f31 sRm
  obtain ⟨M, rfl⟩ : ∃ G, N = G + 3 := ⟨N - 3, by omega⟩
  unfold f31_b2 f31_b27
  rw [if_neg (by decide)]
  refine (C50 H (t := t) (w := 2) ht (by decide)).bind fun v J ⟨hv, hJ⟩ => ?_
  subst hv hJ
  dsimp only
  have step2 : ∀ (J Y : AI), RC 1 Z a κ I0 J Y → Y 9 = X 9 → Ok (f31_b2 kad (M + 3) Z (M + 2) (a + 13) (a + 8) (Int32.ofNat t) (2 + 1) J) (fun _ J => RC 1 Z a κ I0 J (sPE t 3 0 (sPE t 2 0 (sPE t 1 0 (sPE t 0 0 (sRm1 (X 9 (40 + 4 * t + 3)) Y)))))) := fun J Y HY e9 => by
    unfold f31_b2 f31_b27
    rw [if_neg (by decide)]
    refine (C50 HY (t := t) (w := 3) ht (by decide)).bind fun v J2 ⟨hv, hJ⟩ => ?_
    subst hv hJ
    dsimp only
    rw [e9]
    unfold f31_b2 sRm1
    split
    · rw [if_pos (by decide)]
      exact tail _ (by omega) _ _ HY
    · refine (C33 HY _ false).bind fun v J HJ => ?_
      dsimp only
      rw [if_pos (by decide)]
      exact tail _ (by omega) _ _ HJ
  rw [show sRm1 (X 9 (40 + 4 * t + 2)) X = if X 9 (40 + 4 * t + 2) = 0 then X else sUse (X 9 (40 + 4 * t + 2)) false X from rfl]
  split
  · exact step2 _ _ H rfl
  · refine (C33 H _ false).bind fun v J HJ => ?_
    exact step2 _ _ HJ (sUse_o (by decide))
end CK
