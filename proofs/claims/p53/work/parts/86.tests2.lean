/-! a test is added; the mark -/
def tAdd (T : AI) (n : Nat) (a b c d : Int32) : AI := fun q k =>
  if q = 9 then (if k = 0 then Int32.ofNat (n + 1) else 0) else if q = 1 ∧ k = n then T 9 1 else if q = 2 ∧ k = n then T 9 2 else if q = 3 ∧ k = n then a else if q = 4 ∧ k = n then b else if q = 5 ∧ k = n then c else if q = 6 ∧ k = n then d else if q = 10 + n then T 30 k else if q = 20 + n then T 31 k else T q k
def shr (T : AI) (t : Nat) : Int32 := if T 7 t = 0 then T 5 t else if T 8 t = 0 then 0 else -((T 5 t + 1) / 2)
def mkT (T : AI) : Nat → Nat → Int32 → Int32
  | 0, _, acc => acc
  | r + 1, t, acc => mkT T r (t + 1) (acc + shr T t)
def mark (T : AI) (n : Nat) : Int32 := if mkT T n 0 0 < 0 then 0 else mkT T n 0 0
section TA
variable {kad : Nat → Nat} {N : Nat} {Z : AZ} {g m n : Nat} {I J T : AI} {v a b c d : Int32}
theorem add_9 {k : Nat} : tAdd T n a b c d 9 k = if k = 0 then Int32.ofNat (n + 1) else 0 := by unfold tAdd; rw [if_pos rfl]
theorem add_1 {k : Nat} : tAdd T n a b c d 1 k = if k = n then T 9 1 else T 1 k := by
  unfold tAdd
  by_cases h : k = n
  · rw [if_neg (by decide), if_pos ⟨rfl, h⟩, if_pos h]
  · rw [if_neg (by decide), if_neg (fun hh => h hh.2), if_neg (fun hh => h hh.2), if_neg (fun hh => h hh.2), if_neg (fun hh => h hh.2), if_neg (fun hh => h hh.2), if_neg (fun hh => h hh.2), if_neg (by omega), if_neg (by omega), if_neg h]
theorem add_2 {k : Nat} : tAdd T n a b c d 2 k = if k = n then T 9 2 else T 2 k := by
  unfold tAdd
  by_cases h : k = n
  · rw [if_neg (by decide), if_neg (by omega), if_pos ⟨rfl, h⟩, if_pos h]
  · rw [if_neg (by decide), if_neg (fun hh => h hh.2), if_neg (fun hh => h hh.2), if_neg (fun hh => h hh.2), if_neg (fun hh => h hh.2), if_neg (fun hh => h hh.2), if_neg (fun hh => h hh.2), if_neg (by omega), if_neg (by omega), if_neg h]
theorem add_3 {k : Nat} : tAdd T n a b c d 3 k = if k = n then a else T 3 k := by
  unfold tAdd
  by_cases h : k = n
  · rw [if_neg (by decide), if_neg (by omega), if_neg (by omega), if_pos ⟨rfl, h⟩, if_pos h]
  · rw [if_neg (by decide), if_neg (fun hh => h hh.2), if_neg (fun hh => h hh.2), if_neg (fun hh => h hh.2), if_neg (fun hh => h hh.2), if_neg (fun hh => h hh.2), if_neg (fun hh => h hh.2), if_neg (by omega), if_neg (by omega), if_neg h]
theorem add_4 {k : Nat} : tAdd T n a b c d 4 k = if k = n then b else T 4 k := by
  unfold tAdd
  by_cases h : k = n
  · rw [if_neg (by decide), if_neg (by omega), if_neg (by omega), if_neg (by omega), if_pos ⟨rfl, h⟩, if_pos h]
  · rw [if_neg (by decide), if_neg (fun hh => h hh.2), if_neg (fun hh => h hh.2), if_neg (fun hh => h hh.2), if_neg (fun hh => h hh.2), if_neg (fun hh => h hh.2), if_neg (fun hh => h hh.2), if_neg (by omega), if_neg (by omega), if_neg h]
theorem add_5 {k : Nat} : tAdd T n a b c d 5 k = if k = n then c else T 5 k := by
  unfold tAdd
  by_cases h : k = n
  · rw [if_neg (by decide), if_neg (by omega), if_neg (by omega), if_neg (by omega), if_neg (by omega), if_pos ⟨rfl, h⟩, if_pos h]
  · rw [if_neg (by decide), if_neg (fun hh => h hh.2), if_neg (fun hh => h hh.2), if_neg (fun hh => h hh.2), if_neg (fun hh => h hh.2), if_neg (fun hh => h hh.2), if_neg (fun hh => h hh.2), if_neg (by omega), if_neg (by omega), if_neg h]
theorem add_6 {k : Nat} : tAdd T n a b c d 6 k = if k = n then d else T 6 k := by
  unfold tAdd
  by_cases h : k = n
  · rw [if_neg (by decide), if_neg (by omega), if_neg (by omega), if_neg (by omega), if_neg (by omega), if_neg (by omega), if_pos ⟨rfl, h⟩, if_pos h]
  · rw [if_neg (by decide), if_neg (fun hh => h hh.2), if_neg (fun hh => h hh.2), if_neg (fun hh => h hh.2), if_neg (fun hh => h hh.2), if_neg (fun hh => h hh.2), if_neg (fun hh => h hh.2), if_neg (by omega), if_neg (by omega), if_neg h]
theorem add_o {q : Nat} (h : ¬ q = 9 ∧ ¬ (1 ≤ q ∧ q ≤ 6) ∧ ¬ q = 10 + n ∧ ¬ q = 20 + n) : tAdd T n a b c d q = T q := by
  funext k
  unfold tAdd
  rw [if_neg h.1, if_neg (by omega), if_neg (by omega), if_neg (by omega), if_neg (by omega), if_neg (by omega), if_neg (by omega), if_neg h.2.2.1, if_neg h.2.2.2]
theorem add_10 (hn : n < 10) {t : Nat} (ht : t < 10) : tAdd T n a b c d (10 + t) = if t = n then T 30 else T (10 + t) := by
  by_cases h : t = n
  · rw [if_pos h]
    funext k
    unfold tAdd
    rw [if_neg (by omega), if_neg (by omega), if_neg (by omega), if_neg (by omega), if_neg (by omega), if_neg (by omega), if_neg (by omega), if_pos (by omega)]
  · rw [if_neg h]
    exact add_o (by omega)
theorem add_20 (hn : n < 10) {t : Nat} (ht : t < 10) : tAdd T n a b c d (20 + t) = if t = n then T 31 else T (20 + t) := by
  by_cases h : t = n
  · rw [if_pos h]
    funext k
    unfold tAdd
    rw [if_neg (by omega), if_neg (by omega), if_neg (by omega), if_neg (by omega), if_neg (by omega), if_neg (by omega), if_neg (by omega), if_neg (by omega), if_pos (by omega)]
  · rw [if_neg h]
    exact add_o (by omega)
theorem TI.add (hT : TI n T) (h5 : n < 5) (ha : upto 500 a) (hb : upto 100 b) (hc : upto 20 c) (hd : upto 500 d) : TI (n + 1) (tAdd T n a b c d) := by
  obtain ⟨⟨a1, a2⟩, ⟨b1, b2⟩, cc, dd⟩ := hT
  refine ⟨⟨by rw [add_9, if_pos rfl], by omega⟩, ⟨⟨0, by rw [add_9, if_neg (by decide)]; rfl, by decide⟩, ⟨0, by rw [add_9, if_neg (by decide)]; rfl, by decide⟩⟩, fun k hk => by rw [add_o (by omega), add_o (by omega)]; exact cc k hk, fun t ht => ?_⟩
  obtain ⟨⟨e1, e2⟩, ⟨e3, e4, e5, e6⟩, ⟨e7, e8, e9, e10⟩, e11⟩ := dd t ht
  unfold TIt
  rw [add_1, add_2, add_3, add_4, add_5, add_6, add_o (q := 7) (by omega), add_o (q := 8) (by omega), add_10 (by omega) (by omega), add_20 (by omega) (by omega)]
  by_cases h : t = n
  · rw [if_pos h, if_pos h, if_pos h, if_pos h, if_pos h, if_pos h, if_pos h, if_pos h]
    exact ⟨⟨b1, b2⟩, ⟨ha, hb, hc, hd⟩, ⟨e7, e8, e9, fun hh => by omega⟩, cc⟩
  · rw [if_neg h, if_neg h, if_neg h, if_neg h, if_neg h, if_neg h, if_neg h, if_neg h]
    exact ⟨⟨e1, e2⟩, ⟨e3, e4, e5, e6⟩, ⟨e7, e8, e9, fun hh => e10 (by omega)⟩, e11⟩
theorem five_lt {p : Nat} (hp : p ≤ 5) : (Int32.ofNat p < 5 ↔ p < 5) ∧ (Int32.ofNat p = 5 ↔ ¬ p < 5) := by
  rcases (show p = 0 ∨ p = 1 ∨ p = 2 ∨ p = 3 ∨ p = 4 ∨ p = 5 by omega) with rfl | rfl | rfl | rfl | rfl | rfl <;> decide
def bad4 (a b c d : Int32) : Prop := bad a 1 500 ∨ bad b 0 100 ∨ bad c 1 20 ∨ bad d 0 500
theorem K178 (hT : TI n T) (H : CT g T I) (a b c d : Int32) : Ok (f178 kad N Z g a b c d I) (fun r J => (bad4 a b c d → r = rx [0, 1] 1 0 ∧ J = I) ∧ (¬ bad4 a b c d → (n = 5 → r = rx [0, 1] 2 0 ∧ J = I) ∧ (n < 5 → r = rx [0, 1] 0 (Int32.ofNat n) ∧ CT g (tAdd T n a b c d) J ∧ frCT g I J))) := by
  obtain ⟨⟨hn, hn5⟩, -⟩ := hT
  unfold f178
  rw [K138, Option.bind_some]
  by_cases ha : bad a 1 500
  · rw [if_pos (show a < 1 ∨ 500 < a from ha)]
    exact Ok.ret ⟨fun _ => ⟨rfl, rfl⟩, fun h => absurd (Or.inl ha) h⟩
  rw [if_neg (show ¬ (a < 1 ∨ 500 < a) from ha)]
  unfold xB
  dsimp only
  rw [K138, Option.bind_some]
  by_cases hb : bad b 0 100
  · rw [if_pos (show b < 0 ∨ 100 < b from hb)]
    exact Ok.ret ⟨fun _ => ⟨rfl, rfl⟩, fun h => absurd (Or.inr (Or.inl hb)) h⟩
  rw [if_neg (show ¬ (b < 0 ∨ 100 < b) from hb)]
  dsimp only
  rw [K138, Option.bind_some]
  by_cases hc : bad c 1 20
  · rw [if_pos (show c < 1 ∨ 20 < c from hc)]
    exact Ok.ret ⟨fun _ => ⟨rfl, rfl⟩, fun h => absurd (Or.inr (Or.inr (Or.inl hc))) h⟩
  rw [if_neg (show ¬ (c < 1 ∨ 20 < c) from hc)]
  dsimp only
  rw [K138, Option.bind_some]
  by_cases hd : bad d 0 500
  · rw [if_pos (show d < 0 ∨ 500 < d from hd)]
    exact Ok.ret ⟨fun _ => ⟨rfl, rfl⟩, fun h => absurd (Or.inr (Or.inr (Or.inr hd))) h⟩
  rw [if_neg (show ¬ (d < 0 ∨ 500 < d) from hd)]
  dsimp only
  have nb : ¬ bad4 a b c d := fun h => h.elim ha (fun h => h.elim hb (fun h => h.elim hc hd))
  have e0 : I g 12 = Int32.ofNat n := H.1.1.trans hn
  obtain ⟨s1, s2⟩ := five_lt hn5
  by_cases h5 : n < 5
  · rw [if_pos (by rw [e0]; exact s1.mpr h5), show ixA 5 (I g 12) = some n from by rw [e0]; exact ixA_of h5, Option.bind_some]
    unfold f118 f119
    obtain ⟨τ, hτ⟩ : ∃ τ, τ = g + (1982 + 3 * n) := ⟨_, rfl⟩
    rw [← hτ]
    have w1 : (wI I τ 0 (I (g + 178) 0)) = some (up2 I τ 0 (T 9 1)) := by rw [wI_ok, H.1.2.1]
    rw [w1, Option.bind_some, show wI (up2 I τ 0 (T 9 1)) τ 1 (up2 I τ 0 (T 9 1) (g + 178) 1) = some (up2 (up2 I τ 0 (T 9 1)) τ 1 (T 9 2)) from by rw [wI_ok, up2_b (by omega), H.1.2.2], Option.bind_some]
    have k1 : ∀ Y : AI, cA Y (g + 178 + 1) 6 (0 : Int32) (τ + 1) 6 (0 : Int32) (6 : Int32) = some (cpI Y (g + 178 + 1) (τ + 1) 0 0 6) := fun Y => cA_ok (s := 0) (d := 0) (n := 6) (by decide) (by decide)
    have k2 : ∀ Y : AI, cA Y (g + 178 + 2) 6 (0 : Int32) (τ + 2) 6 (0 : Int32) (6 : Int32) = some (cpI Y (g + 178 + 2) (τ + 2) 0 0 6) := fun Y => cA_ok (s := 0) (d := 0) (n := 6) (by decide) (by decide)
    rw [k1, Option.bind_some, k2, Option.bind_some]
    have o1 : ∀ b, ¬ b = τ → ¬ b = τ + 1 → ¬ b = τ + 2 → cpI (cpI (up2 (up2 I τ 0 (T 9 1)) τ 1 (T 9 2)) (g + 178 + 1) (τ + 1) 0 0 6) (g + 178 + 2) (τ + 2) 0 0 6 b = I b := fun b h0 h1 h2 => by rw [cpI_b h2, cpI_b h1, up2_b h0, up2_b h0]
    have oτ : ∀ j, ¬ j = 0 → ¬ j = 1 → cpI (cpI (up2 (up2 I τ 0 (T 9 1)) τ 1 (T 9 2)) (g + 178 + 1) (τ + 1) 0 0 6) (g + 178 + 2) (τ + 2) 0 0 6 τ j = I τ j := fun j h0 h1 => by rw [cpI_b (by omega), cpI_b (by omega), up2_ne (fun hh => h1 hh.2), up2_ne (fun hh => h0 hh.2)]
    have oτ0 : cpI (cpI (up2 (up2 I τ 0 (T 9 1)) τ 1 (T 9 2)) (g + 178 + 1) (τ + 1) 0 0 6) (g + 178 + 2) (τ + 2) 0 0 6 τ 0 = T 9 1 := by rw [cpI_b (by omega), cpI_b (by omega), up2_ne (by omega), up2_eq]
    have oτ1 : cpI (cpI (up2 (up2 I τ 0 (T 9 1)) τ 1 (T 9 2)) (g + 178 + 1) (τ + 1) 0 0 6) (g + 178 + 2) (τ + 2) 0 0 6 τ 1 = T 9 2 := by rw [cpI_b (by omega), cpI_b (by omega), up2_eq]
    have or1 : ∀ k, k < 6 → cpI (cpI (up2 (up2 I τ 0 (T 9 1)) τ 1 (T 9 2)) (g + 178 + 1) (τ + 1) 0 0 6) (g + 178 + 2) (τ + 2) 0 0 6 (τ + 1) k = T 30 k := fun k hk => by
      rw [cpI_b (by omega), cpI_at (by omega), up2_b (by omega), up2_b (by omega), show 0 + (k - 0) = k from by omega]; exact (H.2.1 k hk).1
    have or2 : ∀ k, k < 6 → cpI (cpI (up2 (up2 I τ 0 (T 9 1)) τ 1 (T 9 2)) (g + 178 + 1) (τ + 1) 0 0 6) (g + 178 + 2) (τ + 2) 0 0 6 (τ + 2) k = T 31 k := fun k hk => by
      rw [cpI_at (by omega), cpI_b (by omega), up2_b (by omega), up2_b (by omega), show 0 + (k - 0) = k from by omega]; exact (H.2.1 k hk).2
    generalize cpI (cpI (up2 (up2 I τ 0 (T 9 1)) τ 1 (T 9 2)) (g + 178 + 1) (τ + 1) 0 0 6) (g + 178 + 2) (τ + 2) 0 0 6 = Y at o1 oτ oτ0 oτ1 or1 or2
    simp only [wI_ok, Option.bind_some]
    have eg : up2 (up2 (up2 (up2 (up2 (up2 Y (g + 178) 0 0) (g + 178) 1 0) τ 5 a) τ 6 b) τ 7 c) τ 8 d g 12 = Int32.ofNat n := by
      rw [up2_b (by omega), up2_b (by omega), up2_b (by omega), up2_b (by omega), up2_b (by omega), up2_b (by omega), o1 g (by omega) (by omega) (by omega), e0]
    rw [eg]
    have p1 : ∀ β, ¬ β = g → ¬ β = g + 178 → ¬ β = τ → up2 (up2 (up2 (up2 (up2 (up2 (up2 Y (g + 178) 0 0) (g + 178) 1 0) τ 5 a) τ 6 b) τ 7 c) τ 8 d) g 12 (Int32.ofNat n + 1) β = Y β := fun β h0 h1 h2 => by rw [up2_b h0, up2_b h2, up2_b h2, up2_b h2, up2_b h2, up2_b h1, up2_b h1]
    have pg : ∀ j, ¬ j = 12 → up2 (up2 (up2 (up2 (up2 (up2 (up2 Y (g + 178) 0 0) (g + 178) 1 0) τ 5 a) τ 6 b) τ 7 c) τ 8 d) g 12 (Int32.ofNat n + 1) g j = Y g j := fun j hj => by rw [up2_ne (fun hh => hj hh.2), up2_b (by omega), up2_b (by omega), up2_b (by omega), up2_b (by omega), up2_b (by omega), up2_b (by omega)]
    have pg12 : up2 (up2 (up2 (up2 (up2 (up2 (up2 Y (g + 178) 0 0) (g + 178) 1 0) τ 5 a) τ 6 b) τ 7 c) τ 8 d) g 12 (Int32.ofNat n + 1) g 12 = Int32.ofNat (n + 1) := by rw [up2_eq, of_s]
    have pd0 : up2 (up2 (up2 (up2 (up2 (up2 (up2 Y (g + 178) 0 0) (g + 178) 1 0) τ 5 a) τ 6 b) τ 7 c) τ 8 d) g 12 (Int32.ofNat n + 1) (g + 178) 0 = 0 := by rw [up2_b (by omega), up2_b (by omega), up2_b (by omega), up2_b (by omega), up2_b (by omega), up2_ne (by omega), up2_eq]
    have pd1 : up2 (up2 (up2 (up2 (up2 (up2 (up2 Y (g + 178) 0 0) (g + 178) 1 0) τ 5 a) τ 6 b) τ 7 c) τ 8 d) g 12 (Int32.ofNat n + 1) (g + 178) 1 = 0 := by rw [up2_b (by omega), up2_b (by omega), up2_b (by omega), up2_b (by omega), up2_b (by omega), up2_eq]
    have q5 : up2 (up2 (up2 (up2 (up2 (up2 (up2 Y (g + 178) 0 0) (g + 178) 1 0) τ 5 a) τ 6 b) τ 7 c) τ 8 d) g 12 (Int32.ofNat n + 1) τ 5 = a := by rw [up2_b (by omega), up2_ne (by omega), up2_ne (by omega), up2_ne (by omega), up2_eq]
    have q6 : up2 (up2 (up2 (up2 (up2 (up2 (up2 Y (g + 178) 0 0) (g + 178) 1 0) τ 5 a) τ 6 b) τ 7 c) τ 8 d) g 12 (Int32.ofNat n + 1) τ 6 = b := by rw [up2_b (by omega), up2_ne (by omega), up2_ne (by omega), up2_eq]
    have q7 : up2 (up2 (up2 (up2 (up2 (up2 (up2 Y (g + 178) 0 0) (g + 178) 1 0) τ 5 a) τ 6 b) τ 7 c) τ 8 d) g 12 (Int32.ofNat n + 1) τ 7 = c := by rw [up2_b (by omega), up2_ne (by omega), up2_eq]
    have q8 : up2 (up2 (up2 (up2 (up2 (up2 (up2 Y (g + 178) 0 0) (g + 178) 1 0) τ 5 a) τ 6 b) τ 7 c) τ 8 d) g 12 (Int32.ofNat n + 1) τ 8 = d := by rw [up2_b (by omega), up2_eq]
    have qo : ∀ j, ¬ j = 5 → ¬ j = 6 → ¬ j = 7 → ¬ j = 8 → up2 (up2 (up2 (up2 (up2 (up2 (up2 Y (g + 178) 0 0) (g + 178) 1 0) τ 5 a) τ 6 b) τ 7 c) τ 8 d) g 12 (Int32.ofNat n + 1) τ j = Y τ j := fun j h5 h6 h7 h8 => by rw [up2_b (by omega), up2_ne (fun hh => h8 hh.2), up2_ne (fun hh => h7 hh.2), up2_ne (fun hh => h6 hh.2), up2_ne (fun hh => h5 hh.2), up2_b (by omega), up2_b (by omega)]
    generalize up2 (up2 (up2 (up2 (up2 (up2 (up2 Y (g + 178) 0 0) (g + 178) 1 0) τ 5 a) τ 6 b) τ 7 c) τ 8 d) g 12 (Int32.ofNat n + 1) = Q at p1 pg pg12 pd0 pd1 q5 q6 q7 q8 qo
    refine Ok.ret ⟨fun h => absurd h nb, fun _ => ⟨fun h => by omega, fun _ => ⟨?_, ⟨⟨?_, ?_, ?_⟩, fun k hk => ⟨?_, ?_⟩, fun t ht => ?_⟩, fun β b1 b2 b3 => ?_, fun j hj => ?_⟩⟩⟩
    · rw [pg12, pr_of]; rfl
    · rw [pg12, add_9, if_pos rfl]
    · rw [pd0, add_9, if_neg (by decide)]
    · rw [pd1, add_9, if_neg (by decide)]
    · rw [add_o (by omega)]
      show Q (g + 179) k = _
      rw [p1 _ (by omega) (by omega) (by omega), o1 _ (by omega) (by omega) (by omega)]; exact (H.2.1 k hk).1
    · rw [add_o (by omega)]
      show Q (g + 180) k = _
      rw [p1 _ (by omega) (by omega) (by omega), o1 _ (by omega) (by omega) (by omega)]; exact (H.2.1 k hk).2
    · obtain ⟨⟨a1, a2, a3, a4⟩, ⟨b1, b2, b3, b4⟩, c1⟩ := H.2.2 t ht
      show CTt (g + (1982 + 3 * t)) t (tAdd T n a b c d) Q
      unfold CTt
      rw [add_1, add_2, add_3, add_4, add_5, add_6, add_o (q := 7) (by omega), add_o (q := 8) (by omega), add_10 (by omega) (by omega), add_20 (by omega) (by omega)]
      by_cases h : t = n
      · rw [if_pos h, if_pos h, if_pos h, if_pos h, if_pos h, if_pos h, if_pos h, if_pos h]
        rw [h, ← hτ] at a3 a4 ⊢
        refine ⟨⟨?_, ?_, ?_, ?_⟩, ⟨q5, q6, q7, q8⟩, fun k hk => ⟨?_, ?_⟩⟩
        · rw [qo 0 (by decide) (by decide) (by decide) (by decide), oτ0]
        · rw [qo 1 (by decide) (by decide) (by decide) (by decide), oτ1]
        · rw [qo 2 (by decide) (by decide) (by decide) (by decide), oτ 2 (by decide) (by decide)]; exact a3
        · rw [qo 9 (by decide) (by decide) (by decide) (by decide), oτ 9 (by decide) (by decide)]; exact a4
        · rw [p1 _ (by omega) (by omega) (by omega)]; exact or1 k hk
        · rw [p1 _ (by omega) (by omega) (by omega)]; exact or2 k hk
      · rw [if_neg h, if_neg h, if_neg h, if_neg h, if_neg h, if_neg h, if_neg h, if_neg h]
        have po : ∀ i, i < 3 → Q (g + (1982 + 3 * t) + i) = I (g + (1982 + 3 * t) + i) := fun i hi => by rw [p1 _ (by omega) (by omega) (by omega), o1 _ (by omega) (by omega) (by omega)]
        have po0 : Q (g + (1982 + 3 * t)) = I (g + (1982 + 3 * t)) := po 0 (by decide)
        refine ⟨⟨?_, ?_, ?_, ?_⟩, ⟨?_, ?_, ?_, ?_⟩, fun k hk => ⟨?_, ?_⟩⟩
        · rw [po0]; exact a1
        · rw [po0]; exact a2
        · rw [po0]; exact a3
        · rw [po0]; exact a4
        · rw [po0]; exact b1
        · rw [po0]; exact b2
        · rw [po0]; exact b3
        · rw [po0]; exact b4
        · rw [po 1 (by decide)]; exact (c1 k hk).1
        · rw [po 2 (by decide)]; exact (c1 k hk).2
    · show Q β = I β
      rw [p1 β b1 (by omega) (by omega), o1 β (by omega) (by omega) (by omega)]
    · show Q g j = I g j
      rw [pg j hj, o1 g (by omega) (by omega) (by omega)]
  · rw [if_neg (by rw [e0]; exact fun h => h5 (s1.mp h))]
    exact Ok.ret ⟨fun h => absurd h nb, fun _ => ⟨fun _ => ⟨rfl, rfl⟩, fun h => absurd h h5⟩⟩
theorem K182_l (hT : TI n T) (H : CT g T I) : ∀ (r t F : Nat) (acc : Int32), t + r = n → r < F → f182_b4 kad N Z F g acc (Int32.ofNat t) I = some (if mkT T r t acc < 0 then 0 else mkT T r t acc, I) := by
  obtain ⟨⟨hn, hn5⟩, -⟩ := hT
  intro r
  induction r with
  | zero =>
    intro t F acc ht hF
    obtain ⟨F, rfl⟩ : ∃ G, F = G + 1 := ⟨F - 1, by omega⟩
    unfold f182_b4 f182_b35 mkT
    rw [H.1.1, hn, if_pos ((of_le (by omega) (by omega)).mpr (by omega))]
  | succ r ih =>
    intro t F acc ht hF
    obtain ⟨F, rfl⟩ : ∃ G, F = G + 1 := ⟨F - 1, by omega⟩
    obtain ⟨⟨-, -, a3, a4⟩, ⟨-, -, b3, -⟩, -⟩ := H.2.2 t (by omega)
    have e122 : f122 kad N Z (g + (1982 + 3 * t)) I = some (shr T t, I) := by
      unfold f122 f122_b32 shr
      rw [b3]
      by_cases h7 : T 7 t = 0
      · rw [if_neg (show ¬ ¬ I (g + (1982 + 3 * t)) 2 = 0 from fun h => h (a3.trans h7)), if_pos h7]
      · rw [if_pos (show ¬ I (g + (1982 + 3 * t)) 2 = 0 from fun h => h7 (a3.symm.trans h)), if_neg h7]
        by_cases h8 : T 8 t = 0
        · rw [if_pos (a4.trans h8), if_pos h8]
        · rw [if_neg (fun h => h8 (a4.symm.trans h)), if_neg h8]
    unfold f182_b4 mkT
    rw [H.1.1, hn, if_neg (fun h => absurd ((of_le (by omega) (by omega)).mp h) (by omega)), if_neg (show ¬ (5 : Int32) ≤ Int32.ofNat t from fun h => absurd ((of_le (m := 5) (by decide) (by omega)).mp h) (by omega)), ixA_of (by omega), Option.bind_some, e122, Option.bind_some]
    dsimp only
    rw [of_s]
    exact ih (t + 1) F _ (by omega) (by omega)
theorem K182 (hN : 2000 ≤ N) (hT : TI n T) (H : CT g T I) : f182 kad N Z g I = some (mark T n, I) := K182_l hT H n 0 N 0 (by omega) (by have := hT.1.2; omega)
end TA
