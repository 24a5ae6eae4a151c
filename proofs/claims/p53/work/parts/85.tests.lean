/-! the tests of the class and of the model against plain rows T: 1 to 8 of a test its keys, words, budgets, result and mark, 10.. and 20.. their rows, 9 the counts, 30 and 31 the draft -/
def CTt (τ t : Nat) (T I : AI) : Prop := (I τ 0 = T 1 t ∧ I τ 1 = T 2 t ∧ I τ 2 = T 7 t ∧ I τ 9 = T 8 t) ∧ (I τ 5 = T 3 t ∧ I τ 6 = T 4 t ∧ I τ 7 = T 5 t ∧ I τ 8 = T 6 t) ∧ ∀ k, k < 6 → I (τ + 1) k = T (10 + t) k ∧ I (τ + 2) k = T (20 + t) k
def CT (g : Nat) (T I : AI) : Prop := (I g 12 = T 9 0 ∧ I (g + 178) 0 = T 9 1 ∧ I (g + 178) 1 = T 9 2) ∧ (∀ k, k < 6 → I (g + 179) k = T 30 k ∧ I (g + 180) k = T 31 k) ∧ ∀ t, t < 5 → CTt (g + (1982 + 3 * t)) t T I
def MTt (m t : Nat) (T J : AI) : Prop := (J (m + 31) t = T 1 t ∧ J (m + 33) t = T 2 t ∧ (t < nT (T 9 0) → J (m + 38) t = T 7 t) ∧ J (m + 39) t = T 8 t) ∧ (J (m + 34) t = T 3 t ∧ J (m + 35) t = T 4 t ∧ J (m + 36) t = T 5 t ∧ J (m + 37) t = T 6 t) ∧ ∀ k, k < 6 → J (m + 30) (6 * t + k) = T (10 + t) k ∧ J (m + 32) (6 * t + k) = T (20 + t) k
def MT (m : Nat) (T J : AI) : Prop := (J m 60 = T 9 0 ∧ J m 58 = T 9 1 ∧ J m 59 = T 9 2) ∧ (∀ k, k < 6 → J (m + 28) k = T 30 k ∧ J (m + 29) k = T 31 k) ∧ ∀ t, t < 5 → MTt m t T J
def upto (n : Nat) (x : Int32) : Prop := ∃ p, x = Int32.ofNat p ∧ p ≤ n
def TIt (n t : Nat) (T : AI) : Prop := (upto 6 (T 1 t) ∧ upto 6 (T 2 t)) ∧ (upto 500 (T 3 t) ∧ upto 100 (T 4 t) ∧ upto 20 (T 5 t) ∧ upto 500 (T 6 t)) ∧ ((T 7 t = Int32.ofInt (-1) ∨ upto 5 (T 7 t)) ∧ (T 8 t = 0 ∨ T 8 t = 1) ∧ (T 7 t = Int32.ofInt (-1) → T 8 t = 0) ∧ (n ≤ t → T 7 t = Int32.ofInt (-1))) ∧ ∀ k, k < 6 → wd (T (10 + t) k) ∧ wd (T (20 + t) k)
def TI (n : Nat) (T : AI) : Prop := (T 9 0 = Int32.ofNat n ∧ n ≤ 5) ∧ (upto 6 (T 9 1) ∧ upto 6 (T 9 2)) ∧ (∀ k, k < 6 → wd (T 30 k) ∧ wd (T 31 k)) ∧ ∀ t, t < 5 → TIt n t T
def frCT (g : Nat) (I J : AI) : Prop := (∀ b, ¬ b = g → ¬ (g + 178 ≤ b ∧ b < g + 181) → ¬ (g + 1982 ≤ b ∧ b < g + 1997) → J b = I b) ∧ (∀ j, ¬ j = 12 → J g j = I g j)
def frMT (m : Nat) (I J : AI) : Prop := ∀ b j, ¬ (b = m ∧ (j = 58 ∨ j = 59 ∨ j = 60)) → ¬ (m + 28 ≤ b ∧ b ≤ m + 39) → J b j = I b j
def tKey (T : AI) (v : Int32) : AI := up2 (up2 T 30 (nT (T 9 1)) v) 9 1 (T 9 1 + 1)
def tWord (T : AI) (v : Int32) : AI := up2 (up2 T 31 (nT (T 9 2)) v) 9 2 (T 9 2 + 1)
section TS
variable {kad : Nat → Nat} {N : Nat} {Z : AZ} {g m n : Nat} {I J T : AI} {v : Int32}
theorem tKey_r {p k : Nat} (ep : nT (T 9 1) = p) : tKey T v 30 k = if k = p then v else T 30 k := by
  unfold tKey
  rw [up2_b (by omega), ep]
  by_cases h : k = p
  · rw [if_pos h, h, up2_eq]
  · rw [if_neg h, up2_ne (fun hh => h hh.2)]
theorem tWord_r {p k : Nat} (ep : nT (T 9 2) = p) : tWord T v 31 k = if k = p then v else T 31 k := by
  unfold tWord
  rw [up2_b (by omega), ep]
  by_cases h : k = p
  · rw [if_pos h, h, up2_eq]
  · rw [if_neg h, up2_ne (fun hh => h hh.2)]
theorem six_lt {p : Nat} (hp : p ≤ 6) : (Int32.ofNat p < 6 ↔ ¬ Int32.ofNat p = 6) ∧ (¬ Int32.ofNat p = 6 → p < 6) := by
  rcases (show p = 0 ∨ p = 1 ∨ p = 2 ∨ p = 3 ∨ p = 4 ∨ p = 5 ∨ p = 6 by omega) with rfl | rfl | rfl | rfl | rfl | rfl | rfl <;> decide
theorem K176 (hT : TI n T) (H : CT g T I) (v : Int32) : Ok (f176 kad N Z g v I) (fun r J => (bad v 0 65535 → r = rx [0, 1] 1 0 ∧ J = I) ∧ (¬ bad v 0 65535 → (T 9 1 = 6 → r = rx [0, 1] 2 0 ∧ J = I) ∧ (¬ T 9 1 = 6 → r = rx [0, 1] 0 (T 9 1 + 1) ∧ CT g (tKey T v) J ∧ frCT g I J))) := by
  obtain ⟨-, ⟨⟨p, hp, hp6⟩, -⟩, -, -⟩ := hT
  unfold f176
  rw [K138, Option.bind_some]
  by_cases hb : bad v 0 65535
  · rw [if_pos (show v < 0 ∨ 65535 < v from hb)]
    exact Ok.ret ⟨fun _ => ⟨rfl, rfl⟩, fun h => absurd hb h⟩
  · rw [if_neg (show ¬ (v < 0 ∨ 65535 < v) from hb)]
    unfold xB
    dsimp only
    have e0 : I (g + 178) 0 = Int32.ofNat p := H.1.2.1.trans hp
    obtain ⟨s1, s2⟩ := six_lt hp6
    by_cases h6 : Int32.ofNat p = 6
    · rw [if_neg (fun h => s1.mp (by rw [e0] at h; exact h) h6)]
      exact Ok.ret ⟨fun h => absurd h hb, fun _ => ⟨fun _ => ⟨rfl, rfl⟩, fun h => absurd (hp.trans h6) h⟩⟩
    · have hlt := s2 h6
      rw [if_pos (by rw [e0]; exact s1.mpr h6)]
      unfold f116 f116_b36
      rw [if_neg (by rw [e0]; exact of_nn (by omega)), if_neg (by rw [e0]; exact fun h => absurd ((of_le (m := 6) (by decide) (by omega)).mp h) (by omega)), show ixA 6 (I (g + 178) 0) = some p from by rw [e0]; exact ixA_of hlt, Option.bind_some]
      simp only [wI_ok, Option.bind_some]
      refine Ok.ret ⟨fun h => absurd h hb, fun _ => ⟨fun h => absurd (hp.symm.trans h) h6, fun _ => ?_⟩⟩
      have ep : nT (T 9 1) = p := by rw [hp]; exact nT_of (by omega)
      have e1 : up2 I (g + 178 + 1) p v (g + 178) 0 = T 9 1 := by rw [up2_b (by omega)]; exact H.1.2.1
      refine ⟨by rw [up2_eq, e1]; rfl, ⟨⟨?_, ?_, ?_⟩, fun k hk => ⟨?_, ?_⟩, fun t ht => ?_⟩, fun b b1 b2 b3 => ?_, fun j hj => ?_⟩
      · rw [up2_b (by omega), up2_b (by omega)]; unfold tKey; rw [up2_ne (by omega), up2_b (by omega)]; exact H.1.1
      · rw [up2_eq, e1]; unfold tKey; rw [up2_eq]
      · rw [up2_ne (by omega), up2_b (by omega)]; unfold tKey; rw [up2_ne (by omega), up2_b (by omega)]; exact H.1.2.2
      · rw [up2_b (by omega), tKey_r ep]
        by_cases h : k = p
        · rw [if_pos h, h, up2_eq]
        · rw [if_neg h, up2_ne (fun hh => h hh.2)]; exact (H.2.1 k hk).1
      · rw [up2_b (by omega), up2_b (by omega)]; unfold tKey; rw [up2_b (by omega), up2_b (by omega)]; exact (H.2.1 k hk).2
      · obtain ⟨⟨a1, a2, a3, a4⟩, ⟨b1, b2, b3, b4⟩, c⟩ := H.2.2 t ht
        have o : ∀ b, ¬ b = g + 178 → ¬ b = g + 179 → up2 (up2 I (g + 178 + 1) p v) (g + 178) 0 (up2 I (g + 178 + 1) p v (g + 178) 0 + 1) b = I b := fun b h1 h2 => by rw [up2_b h1, up2_b h2]
        have q : ∀ b, ¬ b = 9 → ¬ b = 30 → tKey T v b = T b := fun b h1 h2 => by unfold tKey; rw [up2_b h1, up2_b h2]
        refine ⟨⟨?_, ?_, ?_, ?_⟩, ⟨?_, ?_, ?_, ?_⟩, fun k hk => ⟨?_, ?_⟩⟩
        · rw [o _ (by omega) (by omega), q _ (by decide) (by decide)]; exact a1
        · rw [o _ (by omega) (by omega), q _ (by decide) (by decide)]; exact a2
        · rw [o _ (by omega) (by omega), q _ (by decide) (by decide)]; exact a3
        · rw [o _ (by omega) (by omega), q _ (by decide) (by decide)]; exact a4
        · rw [o _ (by omega) (by omega), q _ (by decide) (by decide)]; exact b1
        · rw [o _ (by omega) (by omega), q _ (by decide) (by decide)]; exact b2
        · rw [o _ (by omega) (by omega), q _ (by decide) (by decide)]; exact b3
        · rw [o _ (by omega) (by omega), q _ (by decide) (by decide)]; exact b4
        · rw [o _ (by omega) (by omega), q _ (by omega) (by omega)]; exact (c k hk).1
        · rw [o _ (by omega) (by omega), q _ (by omega) (by omega)]; exact (c k hk).2
      · show up2 (up2 I (g + 178 + 1) p v) (g + 178) 0 _ b = I b
        rw [up2_b (by omega), up2_b (by omega)]
      · show up2 (up2 I (g + 178 + 1) p v) (g + 178) 0 _ g j = I g j
        rw [up2_b (by omega), up2_b (by omega)]
theorem K177 (hT : TI n T) (H : CT g T I) (v : Int32) : Ok (f177 kad N Z g v I) (fun r J => (bad v 0 65535 → r = rx [0, 1] 1 0 ∧ J = I) ∧ (¬ bad v 0 65535 → (T 9 2 = 6 → r = rx [0, 1] 2 0 ∧ J = I) ∧ (¬ T 9 2 = 6 → r = rx [0, 1] 0 (T 9 2 + 1) ∧ CT g (tWord T v) J ∧ frCT g I J))) := by
  obtain ⟨-, ⟨-, ⟨p, hp, hp6⟩⟩, -, -⟩ := hT
  unfold f177
  rw [K138, Option.bind_some]
  by_cases hb : bad v 0 65535
  · rw [if_pos (show v < 0 ∨ 65535 < v from hb)]
    exact Ok.ret ⟨fun _ => ⟨rfl, rfl⟩, fun h => absurd hb h⟩
  · rw [if_neg (show ¬ (v < 0 ∨ 65535 < v) from hb)]
    unfold xB
    dsimp only
    have e0 : I (g + 178) 1 = Int32.ofNat p := H.1.2.2.trans hp
    obtain ⟨s1, s2⟩ := six_lt hp6
    by_cases h6 : Int32.ofNat p = 6
    · rw [if_neg (fun h => s1.mp (by rw [e0] at h; exact h) h6)]
      exact Ok.ret ⟨fun h => absurd h hb, fun _ => ⟨fun _ => ⟨rfl, rfl⟩, fun h => absurd (hp.trans h6) h⟩⟩
    · have hlt := s2 h6
      rw [if_pos (by rw [e0]; exact s1.mpr h6)]
      unfold f117 f117_b36
      rw [if_neg (by rw [e0]; exact of_nn (by omega)), if_neg (by rw [e0]; exact fun h => absurd ((of_le (m := 6) (by decide) (by omega)).mp h) (by omega)), show ixA 6 (I (g + 178) 1) = some p from by rw [e0]; exact ixA_of hlt, Option.bind_some]
      simp only [wI_ok, Option.bind_some]
      refine Ok.ret ⟨fun h => absurd h hb, fun _ => ⟨fun h => absurd (hp.symm.trans h) h6, fun _ => ?_⟩⟩
      have ep : nT (T 9 2) = p := by rw [hp]; exact nT_of (by omega)
      have e1 : up2 I (g + 178 + 2) p v (g + 178) 1 = T 9 2 := by rw [up2_b (by omega)]; exact H.1.2.2
      refine ⟨by rw [up2_eq, e1]; rfl, ⟨⟨?_, ?_, ?_⟩, fun k hk => ⟨?_, ?_⟩, fun t ht => ?_⟩, fun b b1 b2 b3 => ?_, fun j hj => ?_⟩
      · rw [up2_b (by omega), up2_b (by omega)]; unfold tWord; rw [up2_ne (by omega), up2_b (by omega)]; exact H.1.1
      · rw [up2_ne (by omega), up2_b (by omega)]; unfold tWord; rw [up2_ne (by omega), up2_b (by omega)]; exact H.1.2.1
      · rw [up2_eq, e1]; unfold tWord; rw [up2_eq]
      · rw [up2_b (by omega), up2_b (by omega)]; unfold tWord; rw [up2_b (by omega), up2_b (by omega)]; exact (H.2.1 k hk).1
      · rw [up2_b (by omega), tWord_r ep]
        by_cases h : k = p
        · rw [if_pos h, h, up2_eq]
        · rw [if_neg h, up2_ne (fun hh => h hh.2)]; exact (H.2.1 k hk).2
      · obtain ⟨⟨a1, a2, a3, a4⟩, ⟨b1, b2, b3, b4⟩, c⟩ := H.2.2 t ht
        have o : ∀ b, ¬ b = g + 178 → ¬ b = g + 180 → up2 (up2 I (g + 178 + 2) p v) (g + 178) 1 (up2 I (g + 178 + 2) p v (g + 178) 1 + 1) b = I b := fun b h1 h2 => by rw [up2_b h1, up2_b h2]
        have q : ∀ b, ¬ b = 9 → ¬ b = 31 → tWord T v b = T b := fun b h1 h2 => by unfold tWord; rw [up2_b h1, up2_b h2]
        refine ⟨⟨?_, ?_, ?_, ?_⟩, ⟨?_, ?_, ?_, ?_⟩, fun k hk => ⟨?_, ?_⟩⟩
        · rw [o _ (by omega) (by omega), q _ (by decide) (by decide)]; exact a1
        · rw [o _ (by omega) (by omega), q _ (by decide) (by decide)]; exact a2
        · rw [o _ (by omega) (by omega), q _ (by decide) (by decide)]; exact a3
        · rw [o _ (by omega) (by omega), q _ (by decide) (by decide)]; exact a4
        · rw [o _ (by omega) (by omega), q _ (by decide) (by decide)]; exact b1
        · rw [o _ (by omega) (by omega), q _ (by decide) (by decide)]; exact b2
        · rw [o _ (by omega) (by omega), q _ (by decide) (by decide)]; exact b3
        · rw [o _ (by omega) (by omega), q _ (by decide) (by decide)]; exact b4
        · rw [o _ (by omega) (by omega), q _ (by omega) (by omega)]; exact (c k hk).1
        · rw [o _ (by omega) (by omega), q _ (by omega) (by omega)]; exact (c k hk).2
      · show up2 (up2 I (g + 178 + 2) p v) (g + 178) 1 _ b = I b
        rw [up2_b (by omega), up2_b (by omega)]
      · show up2 (up2 I (g + 178 + 2) p v) (g + 178) 1 _ g j = I g j
        rw [up2_b (by omega), up2_b (by omega)]
/-- what is thrown is no test's -/
theorem MT.th (H : MT m T I) : MT m T (up2 I m 0 v) := by
  have o : ∀ b j, ¬ (b = m ∧ j = 0) → up2 I m 0 v b j = I b j := fun b j h => up2_ne h
  refine ⟨⟨?_, ?_, ?_⟩, fun k hk => ⟨?_, ?_⟩, fun t ht => ?_⟩
  · rw [o _ _ (by omega)]; exact H.1.1
  · rw [o _ _ (by omega)]; exact H.1.2.1
  · rw [o _ _ (by omega)]; exact H.1.2.2
  · rw [o _ _ (by omega)]; exact (H.2.1 k hk).1
  · rw [o _ _ (by omega)]; exact (H.2.1 k hk).2
  · obtain ⟨⟨a1, a2, a3, a4⟩, ⟨b1, b2, b3, b4⟩, c⟩ := H.2.2 t ht
    refine ⟨⟨?_, ?_, fun h => ?_, ?_⟩, ⟨?_, ?_, ?_, ?_⟩, fun k hk => ⟨?_, ?_⟩⟩
    · rw [o _ _ (by omega)]; exact a1
    · rw [o _ _ (by omega)]; exact a2
    · rw [o _ _ (by omega)]; exact a3 h
    · rw [o _ _ (by omega)]; exact a4
    · rw [o _ _ (by omega)]; exact b1
    · rw [o _ _ (by omega)]; exact b2
    · rw [o _ _ (by omega)]; exact b3
    · rw [o _ _ (by omega)]; exact b4
    · rw [o _ _ (by omega)]; exact (c k hk).1
    · rw [o _ _ (by omega)]; exact (c k hk).2
/-- a key more, a word more -/
theorem TI.key (hT : TI n T) (h6 : ¬ T 9 1 = 6) (hv : wd v) : TI n (tKey T v) := by
  obtain ⟨a, ⟨⟨p, hp, hp6⟩, b2⟩, c, d⟩ := hT
  have hlt := (six_lt hp6).2 (fun h => h6 (hp.trans h))
  have ep : nT (T 9 1) = p := by rw [hp]; exact nT_of (by omega)
  have q : ∀ b, ¬ b = 9 → ¬ b = 30 → tKey T v b = T b := fun b h1 h2 => by unfold tKey; rw [up2_b h1, up2_b h2]
  refine ⟨⟨?_, a.2⟩, ⟨⟨p + 1, ?_, by omega⟩, ?_⟩, fun k hk => ⟨?_, ?_⟩, fun t ht => ?_⟩
  · unfold tKey; rw [up2_ne (by omega), up2_b (by omega)]; exact a.1
  · unfold tKey; rw [up2_eq, hp, of_s]
  · unfold tKey; rw [up2_ne (by omega), up2_b (by omega)]; exact b2
  · unfold tKey
    rw [up2_b (by omega), ep]
    by_cases h : k = p
    · rw [h, up2_eq]; exact hv
    · rw [up2_ne (fun hh => h hh.2)]; exact (c k hk).1
  · rw [q _ (by decide) (by decide)]; exact (c k hk).2
  · have h := d t ht
    unfold TIt at h ⊢
    rw [q 1 (by decide) (by decide), q 2 (by decide) (by decide), q 3 (by decide) (by decide), q 4 (by decide) (by decide), q 5 (by decide) (by decide), q 6 (by decide) (by decide), q 7 (by decide) (by decide), q 8 (by decide) (by decide), q (10 + t) (by omega) (by omega), q (20 + t) (by omega) (by omega)]
    exact h
theorem TI.word (hT : TI n T) (h6 : ¬ T 9 2 = 6) (hv : wd v) : TI n (tWord T v) := by
  obtain ⟨a, ⟨b1, ⟨p, hp, hp6⟩⟩, c, d⟩ := hT
  have hlt := (six_lt hp6).2 (fun h => h6 (hp.trans h))
  have ep : nT (T 9 2) = p := by rw [hp]; exact nT_of (by omega)
  have q : ∀ b, ¬ b = 9 → ¬ b = 31 → tWord T v b = T b := fun b h1 h2 => by unfold tWord; rw [up2_b h1, up2_b h2]
  refine ⟨⟨?_, a.2⟩, ⟨?_, ⟨p + 1, ?_, by omega⟩⟩, fun k hk => ⟨?_, ?_⟩, fun t ht => ?_⟩
  · unfold tWord; rw [up2_ne (by omega), up2_b (by omega)]; exact a.1
  · unfold tWord; rw [up2_ne (by omega), up2_b (by omega)]; exact b1
  · unfold tWord; rw [up2_eq, hp, of_s]
  · rw [q _ (by decide) (by decide)]; exact (c k hk).1
  · unfold tWord
    rw [up2_b (by omega), ep]
    by_cases h : k = p
    · rw [h, up2_eq]; exact hv
    · rw [up2_ne (fun hh => h hh.2)]; exact (c k hk).2
  · have h := d t ht
    unfold TIt at h ⊢
    rw [q 1 (by decide) (by decide), q 2 (by decide) (by decide), q 3 (by decide) (by decide), q 4 (by decide) (by decide), q 5 (by decide) (by decide), q 6 (by decide) (by decide), q 7 (by decide) (by decide), q 8 (by decide) (by decide), q (10 + t) (by omega) (by omega), q (20 + t) (by omega) (by omega)]
    exact h
theorem K179 (H : CT g T I) : f179 kad N Z g I = some (T 9 0, I) := by unfold f179; rw [H.1.1]
theorem K181 (hT : TI n T) (H : CT g T I) (i : Int32) : f181 kad N Z g i I = some (rx [2] (if i < 0 ∨ T 9 0 ≤ i then 1 else 0) (T 7 (nT i)), I) := by
  obtain ⟨⟨hn, hn5⟩, -⟩ := hT
  unfold f181 f181_b17
  rw [H.1.1]
  by_cases h0 : i < 0
  · rw [if_pos h0, if_pos (Or.inl h0)]; rfl
  · rw [if_neg h0]
    by_cases h1 : T 9 0 ≤ i
    · rw [if_pos h1, if_pos (Or.inr h1)]; rfl
    · rw [if_neg h1, if_neg (show ¬ (i < 0 ∨ T 9 0 ≤ i) from fun h => h.elim h0 h1)]
      have e := of_nT h0
      have hl := Int32.toInt_lt i
      have hnn : nT i = i.toInt.toNat := rfl
      have h2 : nT i < n := by
        rw [hn, ← e] at h1
        rcases Nat.lt_or_ge (nT i) n with hh | hh
        · exact hh
        · exact absurd ((of_le (by omega) (by omega)).mpr hh) h1
      have e5 : i < 5 := by
        have : Int32.ofNat (nT i) < Int32.ofNat 5 := (of_lt (by omega) (by decide)).mpr (by omega)
        rwa [e] at this
      rw [if_pos e5, (congrArg (ixA 5) e.symm).trans (ixA_of (show nT i < 5 by omega)), Option.bind_some, rx_0, (H.2.2 (nT i) (by omega)).1.2.2.1]
end TS
