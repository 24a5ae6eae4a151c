/-! what is asked of a disk: files, free blocks -/
def cFi (D : Nat → Int32) : Nat → Nat → Int32 → Int32
  | 0, _, acc => acc
  | n + 1, t, acc => cFi D n (t + 1) (if D (40 + 4 * t) = 0 then acc else acc + 1)
theorem cFi_cong {D E : Nat → Int32} (h : ∀ k, k < 256 → E k = D k) : ∀ (n t : Nat) (acc : Int32), t + n ≤ 6 → cFi E n t acc = cFi D n t acc := by
  intro n
  induction n with
  | zero => intro t acc _; rfl
  | succ n ih =>
    intro t acc ht
    unfold cFi
    rw [h _ (by omega)]
    exact ih (t + 1) _ (by omega)
def cFr (D : Nat → Int32) : Nat → Nat → Int32 → Int32
  | 0, _, acc => acc
  | n + 1, b, acc => cFr D n (b + 1) (if uB D b = true then acc else acc + 1)
theorem cFr_cong {D E : Nat → Int32} (h : ∀ k, k < 256 → E k = D k) : ∀ (n b : Nat) (acc : Int32), b + n ≤ 32 → cFr E n b acc = cFr D n b acc := by
  intro n
  induction n with
  | zero => intro t acc _; rfl
  | succ n ih =>
    intro t acc ht
    unfold cFr
    rw [uB_cong (D := D) (E := E) (by omega) (fun k h1 h2 => h k (by omega))]
    exact ih (t + 1) _ (by omega)
section DQ
variable {kad : Nat → Nat} {N : Nat} {Z : AZ} {d m : Nat} {I : AI}
theorem K50 {t w : Nat} (ht : t < 6) (hw : w < 4) : f50 kad N Z d (Int32.ofNat t) (Int32.ofNat w) I = some (I (d + 1) (40 + 4 * t + w), I) := f50_ok ht hw
theorem K52_l : ∀ (n t F : Nat) (acc : Int32), t + n = 6 → n < F → f52_b4 kad N Z F d acc (Int32.ofNat t) I = some (cFi (I (d + 1)) n t acc, I) := by
  intro n
  induction n with
  | zero =>
    intro t F acc ht hF
    obtain ⟨F, rfl⟩ : ∃ G, F = G + 1 := ⟨F - 1, by omega⟩
    unfold f52_b4 cFi
    rw [if_pos (show (6 : Int32) ≤ Int32.ofNat t from (of_le (m := 6) (by decide) (by omega)).mpr (by omega))]
  | succ n ih =>
    intro t F acc ht hF
    obtain ⟨F, rfl⟩ : ∃ G, F = G + 1 := ⟨F - 1, by omega⟩
    unfold f52_b4 f52_b22 cFi
    have h := K50 (kad := kad) (N := N) (Z := Z) (d := d) (I := I) (t := t) (w := 0) (by omega) (by decide)
    rw [show Int32.ofNat 0 = 0 from rfl, show 40 + 4 * t + 0 = 40 + 4 * t from rfl] at h
    rw [if_neg (show ¬ (6 : Int32) ≤ Int32.ofNat t from fun h => absurd ((of_le (m := 6) (by decide) (by omega)).mp h) (by omega)), h, Option.bind_some]
    dsimp only
    by_cases hz : I (d + 1) (40 + 4 * t) = 0
    · rw [if_pos hz, if_pos hz, of_s]
      exact ih (t + 1) F acc (by omega) (by omega)
    · rw [if_neg hz, if_neg hz, of_s]
      exact ih (t + 1) F _ (by omega) (by omega)
theorem K52 (hN : 2000 ≤ N) : f52 kad N Z d I = some (cFi (I (d + 1)) 6 0 0, I) := K52_l 6 0 N 0 rfl (by omega)
theorem K55 : f55 kad N Z d I = some ((I (d + 1) 32).toInt64 ||| ((I (d + 1) 33).toInt64 <<< ((16 : Int32).toInt64 &&& 63)), I) := by
  unfold f55
  rw [show ixA 256 (32 : Int32) = some 32 by decide, Option.bind_some, show ixA 256 (33 : Int32) = some 33 by decide, Option.bind_some]
theorem K57_l (h0 : wd (I (d + 1) 32)) (h1 : wd (I (d + 1) 33)) : ∀ (n b F : Nat) (acc : Int32), b + n = 32 → n < F → f57_b11 kad N Z F d ((I (d + 1) 32).toInt64 ||| ((I (d + 1) 33).toInt64 <<< ((16 : Int32).toInt64 &&& 63))) acc (Int32.ofNat b) I = some (cFr (I (d + 1)) n b acc, I) := by
  intro n
  induction n with
  | zero =>
    intro t F acc ht hF
    obtain ⟨F, rfl⟩ : ∃ G, F = G + 1 := ⟨F - 1, by omega⟩
    unfold f57_b11 cFr
    rw [if_pos (show (32 : Int32) ≤ Int32.ofNat t from (of_le (m := 32) (by decide) (by omega)).mpr (by omega))]
  | succ n ih =>
    intro t F acc ht hF
    obtain ⟨F, rfl⟩ : ∃ G, F = G + 1 := ⟨F - 1, by omega⟩
    unfold f57_b11 f57_b32 cFr
    rw [if_neg (show ¬ (32 : Int32) ≤ Int32.ofNat t from fun h => absurd ((of_le (m := 32) (by decide) (by omega)).mp h) (by omega)), uB_l h0 h1 (by omega)]
    by_cases hz : uB (I (d + 1)) t = true
    · rw [if_pos hz, if_pos (show ¬ (1 : Int32) = 0 by decide), if_pos hz, of_s]
      exact ih (t + 1) F acc (by omega) (by omega)
    · rw [if_neg hz, if_neg (fun h => h rfl), if_neg hz, of_s]
      exact ih (t + 1) F _ (by omega) (by omega)
theorem K57 (hN : 2000 ≤ N) (h0 : wd (I (d + 1) 32)) (h1 : wd (I (d + 1) 33)) : f57 kad N Z d I = some (cFr (I (d + 1)) 24 8 0, I) := by
  unfold f57
  rw [K55, Option.bind_some]
  exact K57_l h0 h1 24 8 N 0 rfl (by omega)
/-- a disk that is formatted -/
def fD : Nat → Int32 := fun k => if k = 32 then 255 else 0
theorem fD_map : ∀ c : Fin 32, uB fD c.1 = decide (c.1 < 8) := by decide +kernel
theorem fD_ok : fD 0 = 0 ∧ WF fD := by
  have z : nT 0 = 0 := by decide
  have e : ∀ k, ¬ k = 32 → fD k = 0 := fun k hk => if_neg hk
  refine ⟨e 0 (by decide), ⟨fun k _ => ?_, fun t ht => ?_⟩, fun t i ht hi hn => ?_, fun t i t' i' h1 h2 h3 h4 hn => ?_, fun t t' h1 h2 h3 _ => absurd (e _ (by omega)) h3, fun c hc => ?_⟩
  · unfold fD
    split
    · exact wd_nat (n := 255) (by decide)
    · exact wd_0
  · refine ⟨fun _ => ⟨e _ (by omega), e _ (by omega), e _ (by omega)⟩, ?_, ?_, ?_, fun i hi hn => absurd (e _ (by omega)) hn⟩
    · rw [e _ (by omega), z]; decide
    · rw [e _ (by omega), e _ (by omega), z]
      exact ⟨fun _ => rfl, fun _ => rfl⟩
    · rw [e _ (by omega), e _ (by omega), z]; decide
  · exact absurd (e _ (by omega)) hn
  · exact absurd (e _ (by omega)) hn
  · rw [fD_map ⟨c, hc⟩, decide_eq_true_eq]
    constructor
    · exact Or.inl
    · rintro (h1 | ⟨t, i, h1, h2, h3, -⟩)
      · exact h1
      · exact absurd (e _ (by omega)) h3
theorem K42 (hN : 2000 ≤ N) (hz : Z.1 (d + 1) = some (100, 256)) : Ok (f42 kad N Z d I) (fun _ J => (∀ k, k < 256 → J (d + 1) k = fD k) ∧ J d 1 = 0 ∧ (∀ b, ¬ b = d → ¬ b = d + 1 → J b = I b)) := by
  unfold f42
  rw [fill_ok hz (by decide) (by omega), Option.bind_some]
  dsimp only
  rw [show ixA 256 (32 : Int32) = some 32 from by decide, Option.bind_some]
  refine Ok.w (Ok.w (Ok.ret ⟨fun k hk => ?_, up2_eq, fun b h1 h2 => ?_⟩))
  · rw [up2_b (by omega)]
    unfold fD
    by_cases h : k = 32
    · rw [if_pos h, h, up2_eq]
    · rw [if_neg h, up2_ne (fun hh => h hh.2), fl_at hk]
  · rw [up2_b h1, up2_b h2, fl_b h2]
end DQ
