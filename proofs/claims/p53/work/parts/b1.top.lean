/-! the source's error, in both -/
section BT
variable {kad : Nat → Nat} {N : Nat} {Z : AZ} {S m n : Nat} {L I J : AI} {FF : PN}
theorem fl5 {b c k : Nat} {v : Int32} (h : ¬ c = b) : fl I b k v c = I c := fl_b h
/-- the class begins a time -/
theorem K6 (hN : 2000 ≤ N) (hs : sh0 kad Z S) {p : Nat} (hp : p = 0 ∨ p = 1) : f6 kad N Z S (Int32.ofNat p) I = some ((), fl (fl (up2 (up2 (up2 (up2 I S 12 (Int32.ofNat p)) S 13 0) S 14 0) S 15 0) (S + 10) 2 0) (S + 1) 256 0) := by
  unfold f6 wB
  rw [if_pos (show Int32.ofNat p = 0 ∨ Int32.ofNat p = 1 by rcases hp with h | h <;> (subst h; decide)), Option.bind_some, wI_ok, Option.bind_some, wI_ok, Option.bind_some, wI_ok, Option.bind_some, fill_ok (sh0_a10 hs) (by decide) (by omega), Option.bind_some, fill_ok (sh0_a1 hs) (by decide) (by omega), Option.bind_some]
/-- what the class leaves, when it looks for an error -/
def asH (S : Nat) (I J : AI) : Prop := (∀ b, ¬ (b = S ∨ b = S + 1 ∨ (S + 3 ≤ b ∧ b < S + 12)) → J b = I b) ∧ (∀ j, j < 12 → J S j = I S j) ∧ (∀ q, q < 5 → J (S + 5) q = I (S + 5) q)
theorem asH.refl : asH S I I := ⟨fun _ _ => rfl, fun _ _ => rfl, fun _ _ => rfl⟩
theorem asH.trans {Q : AI} (h : asH S I J) (h2 : asH S J Q) : asH S I Q := ⟨fun b hb => (h2.1 b hb).trans (h.1 b hb), fun j hj => (h2.2.1 j hj).trans (h.2.1 j hj), fun q hq => (h2.2.2 q hq).trans (h.2.2 q hq)⟩
theorem asH.of (h : asF S I J) (hb : ∀ q, q < 5 → J (S + 5) q = I (S + 5) q) : asH S I J := ⟨h.1, fun j hj => h.2 j (by omega), hb⟩
theorem asH.fill {b k : Nat} {v : Int32} (h : b = S + 1 ∨ (S + 3 ≤ b ∧ b < S + 12)) (h5 : ¬ b = S + 5) : asH S I (fl I b k v) := ⟨fun c hc => fl_b (by omega), fun j _ => congrFun (fl_b (by omega)) j, fun q _ => congrFun (fl_b (by omega)) q⟩
theorem asH.cell {b k : Nat} {v : Int32} (h : b = S + 1 ∨ (S + 3 ≤ b ∧ b < S + 12)) (h5 : ¬ b = S + 5) : asH S I (up2 I b k v) := ⟨fun c hc => up2_b (by omega), fun j _ => up2_ne (by omega), fun q _ => up2_ne (by omega)⟩
theorem asH.fld {k : Nat} {v : Int32} (h : 12 ≤ k) : asH S I (up2 I S k v) := ⟨fun c hc => up2_b (by omega), fun j _ => up2_ne (by omega), fun q _ => up2_ne (by omega)⟩
theorem asH.beg {p : Nat} : asH S I (fl (fl (up2 (up2 (up2 (up2 I S 12 (Int32.ofNat p)) S 13 0) S 14 0) S 15 0) (S + 10) 2 0) (S + 1) 256 0) :=
  ((((((asH.fld (by decide)).trans (asH.fld (by decide))).trans (asH.fld (by decide))).trans (asH.fld (by decide))).trans (asH.fill (by omega) (by omega))).trans (asH.fill (by omega) (by omega)))
theorem CSr.h (H : CSr n S L I) (h : asH S I J) : CSr n S L J := by
  refine ⟨by rw [h.2.1 0 (by decide)]; exact H.1, fun j hj => ?_⟩
  unfold CL
  rw [h.1 _ (by omega)]
  exact H.2 j hj
/-- the first time's beginning, in the class -/
theorem K5_1 (hb : ∀ q, q < 5 → I (S + 5) q = 0) : asK S 0 [] as0 (fl (fl (up2 (up2 (up2 (up2 (fl (fl I (S + 3) 5 (Int32.ofInt (-1))) (S + 7) 1220 (Int32.ofInt (-1))) S 12 (Int32.ofNat 0)) S 13 0) S 14 0) S 15 0) (S + 10) 2 0) (S + 1) 256 0) := by
  refine ⟨⟨?_, ?_, ?_, fun _ => ?_⟩, fun q hq => ?_, fun q hq => ?_, fun q hq => ⟨fun _ => ?_, fun h => absurd rfl h⟩, fun s hs => ⟨fun _ => ?_, fun h => absurd rfl h⟩, fun h => absurd h (by decide)⟩
  · rw [fl_b (by omega), fl_b (by omega), up2_ne (by omega), up2_ne (by omega), up2_ne (by omega), up2_eq]
  · rw [fl_b (by omega), fl_b (by omega), up2_ne (by omega), up2_eq]; rfl
  · rw [fl_b (by omega), fl_b (by omega), up2_eq]; rfl
  · rw [fl_b (by omega), fl_b (by omega), up2_ne (by omega), up2_ne (by omega), up2_eq]; rfl
  · rw [fl_b (by omega), fl_at hq]; rfl
  · rw [fl_b (by omega), fl_b (by omega), up2_b (by omega), up2_b (by omega), up2_b (by omega), up2_b (by omega), fl_b (by omega), fl_b (by omega), hb q hq, if_neg List.not_mem_nil]
  · rw [fl_b (by omega), fl_b (by omega), up2_b (by omega), up2_b (by omega), up2_b (by omega), up2_b (by omega), fl_b (by omega), fl_at hq]
  · rw [fl_b (by omega), fl_b (by omega), up2_b (by omega), up2_b (by omega), up2_b (by omega), up2_b (by omega), fl_at hs]
/-- the second time's beginning, in the class -/
theorem K5_2 (K : asK S 0 [] FF I) (W : asW n L 0 FF) : asK S 1 [] (as2 FF) (fl (fl (up2 (up2 (up2 (up2 (up2 (up2 I (S + 11) 0 8) (S + 11) 1 (Int32.ofNat (8 + FF 1 0))) S 12 (Int32.ofNat 1)) S 13 0) S 14 0) S 15 0) (S + 10) 2 0) (S + 1) 256 0) := by
  have o : ∀ c, ¬ c = S → ¬ c = S + 1 → ¬ c = S + 10 → ¬ c = S + 11 → fl (fl (up2 (up2 (up2 (up2 (up2 (up2 I (S + 11) 0 8) (S + 11) 1 (Int32.ofNat (8 + FF 1 0))) S 12 (Int32.ofNat 1)) S 13 0) S 14 0) S 15 0) (S + 10) 2 0) (S + 1) 256 0 c = I c := fun c h1 h2 h3 h4 => by
    rw [fl_b h2, fl_b h3, up2_b h1, up2_b h1, up2_b h1, up2_b h1, up2_b h4, up2_b h4]
  refine ⟨⟨?_, ?_, ?_, fun h => absurd h (by decide)⟩, fun q hq => ?_, fun q hq => ?_, fun q hq => ?_, fun s hs => ?_, fun _ => ⟨fun u _ => ⟨fun h => absurd rfl h, fun h => absurd rfl h⟩, fun q hq => ?_, ?_, ?_⟩⟩
  · rw [fl_b (by omega), fl_b (by omega), up2_ne (by omega), up2_ne (by omega), up2_ne (by omega), up2_eq]
  · rw [fl_b (by omega), fl_b (by omega), up2_ne (by omega), up2_eq]; rfl
  · rw [fl_b (by omega), fl_b (by omega), up2_eq]; rfl
  · rw [fl_b (by omega), fl_at hq]; rfl
  · rw [o _ (by omega) (by omega) (by omega) (by omega)]; exact K.2.2.1 q hq
  · rw [o (S + 3) (by omega) (by omega) (by omega) (by omega), o (S + 4) (by omega) (by omega) (by omega) (by omega)]
    show (FF 2 q = 0 → I (S + 3) q = Int32.ofInt (-1)) ∧ (¬ FF 2 q = 0 → I (S + 3) q = Int32.ofNat (FF 2 q - 1) ∧ I (S + 4) q = Int32.ofNat (FF 3 q))
    obtain ⟨m1, m2⟩ := W.2.1 q hq
    obtain ⟨k1, k2⟩ := K.2.2.2.1 q hq
    refine ⟨fun h => k1 (m2 rfl h), fun h => ?_⟩
    obtain ⟨-, -, x1, x2, -⟩ := m1 h
    rw [x1, x2] at k2
    exact k2 h
  · rw [o (S + 7) (by omega) (by omega) (by omega) (by omega), o (S + 6) (by omega) (by omega) (by omega) (by omega)]
    exact K.2.2.2.2.1 s hs
  · rw [fl_at hq]; rfl
  · rw [fl_b (by omega), fl_b (by omega), up2_b (by omega), up2_b (by omega), up2_b (by omega), up2_b (by omega), up2_ne (by omega), up2_eq]
  · rw [fl_b (by omega), fl_b (by omega), up2_b (by omega), up2_b (by omega), up2_b (by omega), up2_b (by omega), up2_eq]; rfl
/-- the class's error -/
theorem K5 (hN : 2000 ≤ N) (hs : sh0 kad Z S) (hz : Z.1 (kad 9) = none) (hI : LI n L) (HC : CSr n S L I) (hb : ∀ q, q < 5 → I (S + 5) q = 0) {r : Nat × PN} (hr : gT L (l1 n L) 6 0 n 0 [] as0 = some r) (hr1 : r.1 ≤ 1000)
    {q : Nat × PN} (hq : r.1 = 0 → asW n L 0 r.2 ∧ gT L (l2 n L) 6 0 n 0 [] (as2 r.2) = some q) :
    ∃ I', f5 kad N Z S I = some (Int32.ofNat (if r.1 = 0 then q.1 else r.1), I') ∧ asH S I I' ∧ (r.1 = 0 → q.1 = 0 → asK S 1 [] q.2 I') := by
  obtain ⟨hn, hv⟩ := hI
  have e1 := K6 (I := fl (fl I (S + 3) 5 (Int32.ofInt (-1))) (S + 7) 1220 (Int32.ofInt (-1))) hN hs (Or.inl rfl)
  have k1 := K5_1 hb
  have h1 : asH S I (fl (fl (up2 (up2 (up2 (up2 (fl (fl I (S + 3) 5 (Int32.ofInt (-1))) (S + 7) 1220 (Int32.ofInt (-1))) S 12 (Int32.ofNat 0)) S 13 0) S 14 0) S 15 0) (S + 10) 2 0) (S + 1) 256 0) := ((asH.fill (by omega) (by omega)).trans (asH.fill (by omega) (by omega))).trans asH.beg
  obtain ⟨I1, hI1⟩ : ∃ I1, I1 = fl (fl (up2 (up2 (up2 (up2 (fl (fl I (S + 3) 5 (Int32.ofInt (-1))) (S + 7) 1220 (Int32.ofInt (-1))) S 12 (Int32.ofNat 0)) S 13 0) S 14 0) S 15 0) (S + 10) 2 0) (S + 1) 256 0 := ⟨_, rfl⟩
  rw [← hI1] at e1 k1 h1
  have C1 := HC.h h1
  obtain ⟨I2, e2, f2, b2, k2⟩ := gT_K hN hs hn hv (Or.inl rfl) (l1_S hv hn) (asK1_L hN hs hz hn hv) 6 0 n 0 [] as0 I1 r as0_C C1 k1 hr
  have H2 := h1.trans (asH.of f2 b2)
  have C2 := HC.h H2
  unfold f5 f8
  rw [fill_ok (sh0_a3 hs) (by decide) (by omega), Option.bind_some]
  dsimp only
  rw [fill_ok (sh0_a7 hs) (by decide) (by omega), Option.bind_some]
  dsimp only
  rw [show (0 : Int32) = Int32.ofNat 0 from rfl, e1, Option.bind_some]
  dsimp only
  rw [C1.1, show f8_r kad N Z 7 S (Int32.ofNat 0) (Int32.ofNat n) (Int32.ofNat 0) (Int32.ofNat 0) I1 = some (Int32.ofNat r.1, I2) from e2, Option.bind_some]
  by_cases h0 : r.1 = 0
  · obtain ⟨W, hq⟩ := hq h0
    have K2 := k2 h0
    have e3 := K6 (I := up2 (up2 I2 (S + 11) 0 8) (S + 11) 1 (Int32.ofNat (8 + r.2 1 0))) hN hs (Or.inr rfl)
    have k3 := K5_2 K2 W
    have h3 : asH S I2 (fl (fl (up2 (up2 (up2 (up2 (up2 (up2 I2 (S + 11) 0 8) (S + 11) 1 (Int32.ofNat (8 + r.2 1 0))) S 12 (Int32.ofNat 1)) S 13 0) S 14 0) S 15 0) (S + 10) 2 0) (S + 1) 256 0) := ((asH.cell (by omega) (by omega)).trans (asH.cell (by omega) (by omega))).trans asH.beg
    obtain ⟨I3, hI3⟩ : ∃ I3, I3 = fl (fl (up2 (up2 (up2 (up2 (up2 (up2 I2 (S + 11) 0 8) (S + 11) 1 (Int32.ofNat (8 + r.2 1 0))) S 12 (Int32.ofNat 1)) S 13 0) S 14 0) S 15 0) (S + 10) 2 0) (S + 1) 256 0 := ⟨_, rfl⟩
    rw [← hI3] at e3 k3 h3
    have C3 := C2.h h3
    obtain ⟨I4, e4, f4, b4, k4⟩ := gT_K hN hs hn hv (Or.inr rfl) (l2_S hv hn) (asK2_L hs hz hn hv) 6 0 n 0 [] (as2 r.2) I3 q (as2_C W) C3 k3 hq
    rw [if_pos (show Int32.ofNat r.1 = Int32.ofNat 0 by rw [h0]), if_pos h0, ixA_of (show (0 : Nat) < 2 by decide), Option.bind_some, wI_ok, Option.bind_some, Option.bind_some, show ixA 2 (1 : Int32) = some 1 from ixA_of (i := 1) (by decide), Option.bind_some, up2_b (by omega)]
    dsimp only
    rw [K2.2.1 0 (by decide), show (8 : Int32) + Int32.ofNat (r.2 1 0) = Int32.ofNat (8 + r.2 1 0) from eA 8 _, wI_ok, Option.bind_some, show f6 kad N Z S 1 (up2 (up2 I2 (S + 11) 0 8) (S + 11) 1 (Int32.ofNat (8 + r.2 1 0))) = some ((), I3) from e3, Option.bind_some]
    dsimp only
    rw [C3.1, show f8_r kad N Z 7 S (Int32.ofNat 0) (Int32.ofNat n) (Int32.ofNat 0) (Int32.ofNat 0) I3 = some (Int32.ofNat q.1, I4) from e4, Option.bind_some]
    exact ⟨I4, rfl, H2.trans (h3.trans (asH.of f4 b4)), fun _ h => k4 h⟩
  · rw [if_neg (show ¬ Int32.ofNat r.1 = Int32.ofNat 0 from fun hh => h0 ((nz_of hr1).mp hh)), if_neg h0]
    exact ⟨I2, rfl, H2, fun h => absurd h h0⟩
end BT
