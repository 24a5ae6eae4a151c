/-! the model goes through a line the first time, and the second -/
section AR
variable {kad : Nat → Nat} {N : Nat} {Z : AZ} {m n p i e use : Nat} {st : List Nat} {C : PN} {L J : AI} {r : Nat × PN}
theorem MSr.k (HM : MSr n m L J) (hi : i < n) : J (m + 1) i = L 1 i := (HM.2 i hi).1
theorem e100 (a : Nat) : (100 : Int32) + Int32.ofNat a = Int32.ofNat (100 + a) := eA 100 a
theorem e400 (a : Nat) : (400 : Int32) + Int32.ofNat a = Int32.ofNat (400 + a) := eA 400 a
theorem e500 (a : Nat) : (500 : Int32) + Int32.ofNat a = Int32.ofNat (500 + a) := eA 500 a
theorem len5 (H : asC n L p i e use st C) : st.length ≤ 5 := pig 5 st H.2.2.2.1 H.2.2.2.2
theorem use3 (H : asC n L p i e use st C) : use ≤ 300 := by
  have := H.2.2.1.1
  have := H.2.1.1.2.1
  have := H.2.1.1.2.2.1
  omega
theorem un5 {b v : Nat} : un C 0 b v 5 = C 5 ∧ un C 0 b v 6 = C 6 := ⟨un_b (by decide), un_b (by decide)⟩
/-- behind the count of the lines gone through -/
theorem M210_g (HM : MSr n m L J) (hn : n ≤ 100) (hi : i < n) (hv : LV L i) (T : asT m p (i + 1) e use st C J) (hp : p = 0 ∨ p = 1) (hg : C 0 1 ≤ 300) (hs : C 1 0 + C 1 1 ≤ 248) : ∃ J1, asT m p (i + 1) e use st (un C 0 1 (C 0 1 + 1)) J1 ∧ (∀ d, asG m d J J1) ∧ f210 kad N Z m (Int32.ofNat i) (Int32.ofNat p) J = (if p = 0 ∧ 300 < C 0 1 + 1 then some (Int32.ofNat (100 + i), J1) else if p = 0 ∧ (L 1 i = 2 ∨ L 1 i = 3 ∨ L 1 i = 4) ∧ ¬ C 1 0 + C 1 1 + wl L i ≤ 248 then some (Int32.ofNat (100 + i), J1) else f210_b68 kad N Z m (Int32.ofNat i) (Int32.ofNat p) (Int32.ofNat (if L 1 i = 2 ∨ L 1 i = 3 ∨ L 1 i = 4 then wl L i else 0)) (L 1 i) J1) := by
  obtain ⟨J1, hJ1⟩ : ∃ J1, J1 = up2 J m 16 (Int32.ofNat (C 0 1 + 1)) := ⟨_, rfl⟩
  have G1 : ∀ d, asG m d J J1 := fun d => by rw [hJ1]; exact asG.up0 (by omega)
  have M1 : asM m p (un C 0 1 (C 0 1 + 1)) J1 := by rw [hJ1]; exact T.1.g
  have T1 : asT m p (i + 1) e use st (un C 0 1 (C 0 1 + 1)) J1 := T.up M1 (by rw [hJ1, up2_ne (by omega)]) (fun b h1 h2 => by rw [hJ1, up2_b (by omega)]) ⟨rfl, rfl⟩
  refine ⟨J1, T1, G1, ?_⟩
  have HM1 := HM.g (G1 0)
  unfold f210 f210_b63
  rw [T.1.1.2.1, of_s, wI_ok, Option.bind_some, ← hJ1, M201 HM1 hn hi hv, Option.bind_some, ixA_of (show i < 100 by omega), Option.bind_some]
  dsimp only
  rw [HM1.k hi]
  rcases hp with hp | hp
  · subst hp
    have g16 : J1 m 16 = Int32.ofNat (C 0 1 + 1) := M1.1.2.1
    rw [if_neg (show ¬ ¬ Int32.ofNat 0 = 0 from fun hh => hh rfl)]
    by_cases h : 300 < C 0 1 + 1
    · rw [if_pos (show (300 : Int32) < J1 m 16 from by rw [g16]; exact (of_lt (m := 300) (by decide) (by omega)).mpr h), if_pos ⟨rfl, h⟩, e100]
    · rw [if_neg (show ¬ (300 : Int32) < J1 m 16 from fun hh => by rw [g16] at hh; exact h ((of_lt (m := 300) (by decide) (by omega)).mp hh)), if_neg (show ¬ (0 = 0 ∧ 300 < C 0 1 + 1) from fun hh => h hh.2)]
      by_cases hw : L 1 i = 2 ∨ L 1 i = 3 ∨ L 1 i = 4
      · obtain ⟨w1, w2⟩ := wl_le hv hw
        have s0 : J1 (m + 4) 0 = Int32.ofNat (C 1 0) := M1.2.1 0 (by decide)
        have s1 : J1 (m + 4) 1 = Int32.ofNat (C 1 1) := M1.2.1 1 (by decide)
        rw [if_pos hw, if_neg (show ¬ Int32.ofNat (wl L i) ≤ 0 from fun hh => by have := (of_le (n := 0) (by omega) (by decide)).mp hh; omega), show ixA 2 (0 : Int32) = some 0 from ixA_of (i := 0) (by decide), Option.bind_some, show ixA 2 (1 : Int32) = some 1 from ixA_of (i := 1) (by decide), Option.bind_some]
        have es : J1 (m + 4) 0 + J1 (m + 4) 1 + Int32.ofNat (wl L i) = Int32.ofNat (C 1 0 + C 1 1 + wl L i) := by rw [s0, s1, eA, eA]
        by_cases hb : C 1 0 + C 1 1 + wl L i ≤ 248
        · rw [if_pos (show J1 (m + 4) 0 + J1 (m + 4) 1 + Int32.ofNat (wl L i) ≤ 248 from by rw [es]; exact (of_le (n := 248) (by omega) (by decide)).mpr hb), if_neg (show ¬ (0 = 0 ∧ (L 1 i = 2 ∨ L 1 i = 3 ∨ L 1 i = 4) ∧ ¬ C 1 0 + C 1 1 + wl L i ≤ 248) from fun hh => hh.2.2 hb)]
        · rw [if_neg (show ¬ J1 (m + 4) 0 + J1 (m + 4) 1 + Int32.ofNat (wl L i) ≤ 248 from fun hh => by rw [es] at hh; exact hb ((of_le (n := 248) (by omega) (by decide)).mp hh)), if_pos (show (0 = 0 ∧ (L 1 i = 2 ∨ L 1 i = 3 ∨ L 1 i = 4) ∧ ¬ C 1 0 + C 1 1 + wl L i ≤ 248) from ⟨rfl, hw, hb⟩), e100]
      · rw [if_neg hw, if_pos (show Int32.ofNat 0 ≤ 0 from by decide), if_neg (show ¬ (0 = 0 ∧ (L 1 i = 2 ∨ L 1 i = 3 ∨ L 1 i = 4) ∧ ¬ C 1 0 + C 1 1 + wl L i ≤ 248) from fun hh => hw hh.2.1)]
  · subst hp
    rw [if_pos (show ¬ Int32.ofNat 1 = 0 from by decide), if_neg (show ¬ (1 = 0 ∧ 300 < C 0 1 + 1) from fun hh => absurd hh.1 (by decide)), if_neg (show ¬ (1 = 0 ∧ (L 1 i = 2 ∨ L 1 i = 3 ∨ L 1 i = 4) ∧ ¬ C 1 0 + C 1 1 + wl L i ≤ 248) from fun hh => absurd hh.1 (by decide))]
/-- a line that begins a macro -/
theorem M210_6 (hN : 2000 ≤ N) (T : asT m p (i + 1) e use st C J) (h5 : st.length ≤ 5) (HM : MSr n m L J) (hn : n ≤ 100) (hi : i < n) (hv : LV L i) (h6 : L 1 i = 6) (hb : C 2 (nT (L 2 i)) ≤ 100) (w : Int32) :
    f210_b68 kad N Z m (Int32.ofNat i) (Int32.ofNat p) w (L 1 i) J = some (if C 2 (nT (L 2 i)) = 0 then (if nx n L i = n then (Int32.ofNat (400 + i), J) else if L 1 (nx n L i) = 6 then (Int32.ofNat (400 + nx n L i), J) else (0, up2 (up2 (up2 J (m + 5) (nT (L 2 i)) (Int32.ofNat (i + 1))) (m + 6) (nT (L 2 i)) (Int32.ofNat (nx n L i))) (m + 7) st.length (Int32.ofNat (nx n L i + 1)))) else (Int32.ofNat (300 + i), J)) := by
  unfold f210_b68
  rw [if_pos (by rw [h6]; decide), if_neg (fun hh => hh h6), M203 hN T h5 HM hn hi hv h6 hb, Option.bind_some]
theorem asT.mac (T : asT m p (i + 1) e use st C J) (hi : ¬ i + 1 = 0) {a x : Nat} : asT m p (x + 1) e use st (un (un C 2 a (i + 1)) 3 a x) (up2 (up2 (up2 J (m + 5) a (Int32.ofNat (i + 1))) (m + 6) a (Int32.ofNat x)) (m + 7) st.length (Int32.ofNat (x + 1))) ∧ asG m st.length J (up2 (up2 (up2 J (m + 5) a (Int32.ofNat (i + 1))) (m + 6) a (Int32.ofNat x)) (m + 7) st.length (Int32.ofNat (x + 1))) := by
  have M1 := T.1.mc (w := a) (x := x) hi
  obtain ⟨J1, hJ1⟩ : ∃ J1, J1 = up2 (up2 J (m + 5) a (Int32.ofNat (i + 1))) (m + 6) a (Int32.ofNat x) := ⟨_, rfl⟩
  rw [← hJ1] at M1 ⊢
  have r1 : ∀ c, ¬ c = m + 5 → ¬ c = m + 6 → J1 c = J c := fun c h h2 => by rw [hJ1, up2_b h2, up2_b h]
  obtain ⟨-, ⟨b1, b2, b3⟩, c1, d1⟩ := T
  constructor
  · refine ⟨M1.ob (by omega), ⟨?_, ?_, ?_⟩, ?_, ?_⟩
    · rw [up2_b (by omega), r1 m (by omega) (by omega)]; exact b1
    · exact up2_eq
    · rw [up2_b (by omega), r1 _ (by omega) (by omega)]; exact b3
    · rw [up2_b (by omega), up2_b (by omega), up2_b (by omega), r1 _ (by omega) (by omega), r1 _ (by omega) (by omega), r1 _ (by omega) (by omega)]
      exact c1
    · unfold asSK
      rw [up2_b (by omega), r1 _ (by omega) (by omega)]
      exact d1
  · rw [hJ1]
    exact ((asG.up (by omega)).trans (asG.up (by omega)) (Nat.le_refl _)).trans (asG.ups (by omega) (Nat.le_refl _)) (Nat.le_refl _)
theorem ml8 (HM : MSr n m L J) (hi : i < n) (h8 : L 1 i = 8) : J (m + 2) (5 * i) = L 3 i ∧ J (m + 2) (5 * i + 1) = L 4 i ∧ J (m + 2) (5 * i + 2) = L 5 i ∧ J (m + 2) (5 * i + 3) = L 6 i ∧ J (m + 2) (5 * i + 4) = L 2 i := by
  obtain ⟨-, -, l3, -, l5⟩ := HM.2 i hi
  obtain ⟨a1, a2⟩ := l3 (Or.inr (Or.inr (Or.inr h8)))
  exact ⟨a1, a2, l5 h8⟩
theorem m5k (hn : n ≤ 100) (hi : i < n) {w : Nat} (hw : w < 5) : ixA 500 ((5 : Int32) * Int32.ofNat i + Int32.ofNat w) = some (5 * i + w) := by
  rw [show (5 : Int32) = Int32.ofNat 5 from rfl, eM, eA]
  exact ixA_of (by omega)
theorem asM1_L (hN : 2000 ≤ N) (hn : n ≤ 100) (hv : ∀ j, j < n → LV L j) : asML kad N Z m n 0 L (l1 n L) := by
  intro i e use st C J r H hie HM T hl
  have hin : i < n := by have := H.1.2.1; omega
  have hvi := hv i hin
  have h5 := len5 H
  have hu := use3 H
  have W := H.2.1
  obtain ⟨J1, T1, G0, e1⟩ := M210_g (kad := kad) (N := N) (Z := Z) HM hn hin hvi T (Or.inl rfl) W.1.2.2.1 W.1.2.2.2.1
  have G1 := G0 st.length
  have HM1 := HM.g G1
  rw [e1]
  unfold l1 at hl
  obtain ⟨G, hG⟩ : ∃ G, G = un C 0 1 (C 0 1 + 1) := ⟨_, rfl⟩
  rw [← hG] at hl T1
  have w0 := W.1.1
  have g0 : G 0 0 = C 0 0 := by rw [hG]; rfl
  have g1 : G 1 = C 1 := by rw [hG]; exact un_b (by decide)
  have g2 : G 2 = C 2 := by rw [hG]; exact un_b (by decide)
  have g4 : G 4 = C 4 := by rw [hG]; exact un_b (by decide)
  by_cases hg : 300 < C 0 1 + 1
  · rw [if_pos hg] at hl
    cases hl
    rw [if_pos ⟨rfl, hg⟩]
    exact ⟨J1, rfl, G1, fun hh => absurd hh (by first | omega | (dsimp only; omega)), fun hh => absurd hh (by first | omega | (dsimp only; omega))⟩
  have WG : asW n L 0 G := by rw [hG]; exact W.gone (by omega)
  rw [if_neg hg] at hl
  rw [if_neg (show ¬ (0 = 0 ∧ 300 < C 0 1 + 1) from fun hh => hg hh.2)]
  by_cases h0 : L 1 i = 0
  · rw [if_pos h0] at hl
    cases hl
    have h234 : ¬ (L 1 i = 2 ∨ L 1 i = 3 ∨ L 1 i = 4) := by rw [h0]; decide
    rw [if_neg (show ¬ (0 = 0 ∧ (L 1 i = 2 ∨ L 1 i = 3 ∨ L 1 i = 4) ∧ ¬ C 1 0 + C 1 1 + wl L i ≤ 248) from fun hh => h234 hh.2.1)]
    unfold f210_b68
    obtain ⟨n1, -⟩ := hvi.nn (by rw [h0]; decide) (by rw [h0]; decide)
    have e0 : up2 J1 m 15 (L 2 i) = up2 J1 m 15 (Int32.ofNat (nT (L 2 i))) := by rw [← n1]
    rw [if_neg (fun hh => hh h0), ml2 HM1 hin hn, Option.bind_some, (HM1.2 i hin).2.1 (Or.inl h0), wI_ok, Option.bind_some, e0]
    refine ⟨_, rfl, G1.trans (asG.up0 (by omega)) (Nat.le_refl _), fun _ h8 => absurd h8 (by rw [h0]; decide), fun _ _ => ?_⟩
    rw [if_neg (by rw [h0]; decide)]
    exact T1.up T1.1.pr (up2_ne (by omega)) (fun b h1 h2 => up2_b (by omega)) ⟨rfl, rfl⟩
  rw [if_neg h0] at hl
  by_cases h1 : L 1 i = 1
  · rw [if_pos h1] at hl
    have h234 : ¬ (L 1 i = 2 ∨ L 1 i = 3 ∨ L 1 i = 4) := by rw [h1]; decide
    rw [if_neg (show ¬ (0 = 0 ∧ (L 1 i = 2 ∨ L 1 i = 3 ∨ L 1 i = 4) ∧ ¬ C 1 0 + C 1 1 + wl L i ≤ 248) from fun hh => h234 hh.2.1)]
    unfold f210_b68 f210_b165
    obtain ⟨n1, -, -, n3, -⟩ := hvi.nn (by rw [h1]; decide) (by rw [h1]; decide)
    have n3 := n3 h1
    have ez : J1 (m + 4) (C 0 0) = Int32.ofNat (C 1 (C 0 0)) := by rw [T1.1.2.1 _ (by omega), g1]
    have eM15 : ixA 2 (J1 m 15) = some (C 0 0) := by have := M15 T1.1 (by rw [g0]; exact w0); rw [g0] at this; exact this
    have eS : up2 J1 (m + 4) (C 0 0) (Int32.ofNat (C 1 (C 0 0)) + Int32.ofNat 0) = J1 := by
      rw [eA, Nat.add_zero]
      exact up2_self ez
    rw [if_pos (by rw [h1]; decide), if_pos (by rw [h1]; decide), if_pos (by rw [h1]; decide), if_pos (by rw [h1]; decide), if_pos (show Int32.ofNat 0 = 0 from rfl), eM15, Option.bind_some, Option.bind_some, ez, if_neg h234, wI_ok, Option.bind_some, eS, if_neg (fun hh => hh h1), M207 T1 WG h5 hu HM1 hn hin hvi h1, Option.bind_some, g4, g0, g1]
    by_cases h : C 4 (slN (nT (L 2 i)) use) = 0
    · rw [if_pos h] at hl
      cases hl
      rw [if_pos h]
      refine ⟨_, rfl, G1.trans (asG.up (by omega)) (Nat.le_refl _), fun _ h8 => absurd h8 (by rw [h1]; decide), fun _ _ => ?_⟩
      rw [if_neg (by rw [h1]; decide)]
      exact T1.up T1.1.lb (congrFun (up2_b (by omega)) _) (fun b h1 h2 => up2_b (by omega)) ⟨rfl, rfl⟩
    · rw [if_neg h] at hl
      cases hl
      rw [if_neg h]
      exact ⟨_, rfl, G1, fun hh => absurd hh (by first | omega | (dsimp only; omega)), fun hh => absurd hh (by first | omega | (dsimp only; omega))⟩
  rw [if_neg h1] at hl
  by_cases h2 : L 1 i = 2 ∨ L 1 i = 3 ∨ L 1 i = 4
  · rw [if_pos h2] at hl
    by_cases h : C 1 0 + C 1 1 + wl L i ≤ 248
    · rw [if_pos h] at hl
      cases hl
      rw [if_neg (show ¬ (0 = 0 ∧ (L 1 i = 2 ∨ L 1 i = 3 ∨ L 1 i = 4) ∧ ¬ C 1 0 + C 1 1 + wl L i ≤ 248) from fun hh => hh.2.2 h)]
      unfold f210_b68 f210_b165
      have ez : J1 (m + 4) (C 0 0) = Int32.ofNat (C 1 (C 0 0)) := by rw [T1.1.2.1 _ (by omega), g1]
      have eM15 : ixA 2 (J1 m 15) = some (C 0 0) := by have := M15 T1.1 (by rw [g0]; exact w0); rw [g0] at this; exact this
      have k6 : ¬ L 1 i = 6 := by rcases h2 with h | h | h <;> (rw [h]; decide)
      have k7 : ¬ L 1 i = 7 := by rcases h2 with h | h | h <;> (rw [h]; decide)
      have k8 : ¬ L 1 i = 8 := by rcases h2 with h | h | h <;> (rw [h]; decide)
      rw [if_pos h0, if_pos k6, if_pos k7, if_pos k8, if_pos (show Int32.ofNat 0 = 0 from rfl), eM15, Option.bind_some, Option.bind_some, ez, if_pos h2, wI_ok, Option.bind_some, eA, if_pos h1]
      refine ⟨_, rfl, G1.trans (asG.up (by omega)) (Nat.le_refl _), fun _ h8 => absurd h8 k8, fun _ _ => ?_⟩
      rw [if_neg k6]
      exact T1.up T1.1.sz (congrFun (up2_b (by omega)) _) (fun b h1 h2 => up2_b (by omega)) ⟨rfl, rfl⟩
    · rw [if_neg h] at hl
      cases hl
      rw [if_pos (show (0 = 0 ∧ (L 1 i = 2 ∨ L 1 i = 3 ∨ L 1 i = 4) ∧ ¬ C 1 0 + C 1 1 + wl L i ≤ 248) from ⟨rfl, h2, h⟩)]
      exact ⟨_, rfl, G1, fun hh => absurd hh (by first | omega | (dsimp only; omega)), fun hh => absurd hh (by first | omega | (dsimp only; omega))⟩
  rw [if_neg h2] at hl
  rw [if_neg (show ¬ (0 = 0 ∧ (L 1 i = 2 ∨ L 1 i = 3 ∨ L 1 i = 4) ∧ ¬ C 1 0 + C 1 1 + wl L i ≤ 248) from fun hh => h2 hh.2.1), if_neg h2]
  by_cases h5' : L 1 i = 5
  · rw [if_pos h5'] at hl
    cases hl
    unfold f210_b68 f210_b165
    have ez : J1 (m + 4) (C 0 0) = Int32.ofNat (C 1 (C 0 0)) := by rw [T1.1.2.1 _ (by omega), g1]
    have eM15 : ixA 2 (J1 m 15) = some (C 0 0) := by have := M15 T1.1 (by rw [g0]; exact w0); rw [g0] at this; exact this
    have eS : up2 J1 (m + 4) (C 0 0) (Int32.ofNat (C 1 (C 0 0)) + Int32.ofNat 0) = J1 := by
      rw [eA, Nat.add_zero]
      exact up2_self ez
    rw [if_pos h0, if_pos (by rw [h5']; decide), if_pos (by rw [h5']; decide), if_pos (by rw [h5']; decide), if_pos (show Int32.ofNat 0 = 0 from rfl), eM15, Option.bind_some, Option.bind_some, ez, wI_ok, Option.bind_some, eS, if_pos h1]
    refine ⟨_, rfl, G1, fun _ h8 => absurd h8 (by rw [h5']; decide), fun _ _ => ?_⟩
    rw [if_neg (by rw [h5']; decide)]
    exact T1
  rw [if_neg h5'] at hl
  by_cases h6 : L 1 i = 6
  · rw [if_pos h6] at hl
    have hb : G 2 (nT (L 2 i)) ≤ 100 := by
      obtain ⟨n1, -, -, -, -, -, n6, -⟩ := hvi.nn (by rw [h6]; decide) (by rw [h6]; decide)
      have n6 := n6 h6
      by_cases hz : G 2 (nT (L 2 i)) = 0
      · omega
      · obtain ⟨x1, x2, -⟩ := (WG.2.1 _ (by omega)).1 hz
        omega
    rw [M210_6 hN T1 h5 HM1 hn hin hvi h6 hb, g2]
    by_cases hm : C 2 (nT (L 2 i)) = 0
    · rw [if_pos hm] at hl
      rw [if_pos hm]
      by_cases hx : nx n L i = n
      · rw [if_pos hx] at hl
        cases hl
        rw [if_pos hx]
        exact ⟨_, rfl, G1, fun hh => absurd hh (by first | omega | (dsimp only; omega)), fun hh => absurd hh (by first | omega | (dsimp only; omega))⟩
      · rw [if_neg hx] at hl
        rw [if_neg hx]
        by_cases hy : L 1 (nx n L i) = 6
        · rw [if_pos hy] at hl
          cases hl
          rw [if_pos hy]
          exact ⟨_, rfl, G1, fun hh => absurd hh (by first | omega | (dsimp only; omega)), fun hh => absurd hh (by first | omega | (dsimp only; omega))⟩
        · rw [if_neg hy] at hl
          cases hl
          rw [if_neg hy]
          obtain ⟨t1, t2⟩ := T1.mac (Nat.succ_ne_zero i) (a := nT (L 2 i)) (x := nx n L i)
          refine ⟨_, rfl, G1.trans t2 (Nat.le_refl _), fun _ h8 => absurd h8 (by rw [h6]; decide), fun _ _ => ?_⟩
          rw [if_pos h6]
          have e3 : un (un (un (un G 2 (nT (L 2 i)) (i + 1)) 3 (nT (L 2 i)) (nx n L i)) 9 (nT (L 2 i)) (i + 1)) 10 (nT (L 2 i)) (nx n L i) 3 (nT (L 2 i)) = nx n L i := by
            rw [un_b (by decide), un_b (by decide), un_eq]
          dsimp only
          rw [e3]
          exact t1.up t1.1.m9 rfl (fun _ _ _ => rfl) ⟨rfl, rfl⟩
    · rw [if_neg hm] at hl
      cases hl
      rw [if_neg hm]
      exact ⟨_, rfl, G1, fun hh => absurd hh (by first | omega | (dsimp only; omega)), fun hh => absurd hh (by first | omega | (dsimp only; omega))⟩
  rw [if_neg h6] at hl
  by_cases h7 : L 1 i = 7
  · rw [if_pos h7] at hl
    cases hl
    unfold f210_b68
    rw [if_pos h0, if_pos h6, if_neg (fun hh => hh h7), e400]
    exact ⟨_, rfl, G1, fun hh => absurd hh (by first | omega | (dsimp only; omega)), fun hh => absurd hh (by first | omega | (dsimp only; omega))⟩
  rw [if_neg h7] at hl
  have h8 : L 1 i = 8 := by
    rcases hvi with h | h | h | h | h | h | h | h | h
    · exact absurd h.1 h0
    · exact absurd h.1 h1
    · exact absurd (Or.inl h.1) h2
    · exact absurd (Or.inr (Or.inl h.1)) h2
    · exact absurd (Or.inr (Or.inr h.1)) h2
    · exact absurd h.1 h5'
    · exact absurd h.1 h6
    · exact absurd h h7
    · exact h.1
  obtain ⟨n1, -, -, -, -, -, -, n8⟩ := hvi.nn (by rw [h8]; decide) (by rw [h8]; decide)
  have n8 := n8 h8
  obtain ⟨-, -, -, -, a5⟩ := ml8 HM1 hin h8
  have hb : G 2 (nT (L 2 i)) ≤ 100 := by
    by_cases hz : G 2 (nT (L 2 i)) = 0
    · omega
    · obtain ⟨x1, x2, -⟩ := (WG.2.1 _ (by omega)).1 hz
      omega
  have ea : ixA 5 (L 2 i) = some (nT (L 2 i)) := (congrArg (ixA 5) n1).trans (ixA_of (show nT (L 2 i) < 5 by omega))
  have e204 := M204 (kad := kad) (Z := Z) hN T1 h5 H.2.2.2.2 (a := nT (L 2 i)) (by omega)
  rw [← n1] at e204
  unfold f210_b68
  rw [if_pos h0, if_pos h6, if_pos h7, if_neg (fun hh => hh h8)]
  unfold f206
  rw [show ixA 500 ((5 : Int32) * Int32.ofNat i + 4) = some (5 * i + 4) from m5k hn hin (by decide), Option.bind_some, a5, if_neg (show ¬ ¬ Int32.ofNat 0 = 0 from fun hh => hh rfl), ea, Option.bind_some]
  unfold f206_b38
  by_cases hz : C 2 (nT (L 2 i)) = 0
  · rw [if_pos (Or.inl hz)] at hl
    cases hl
    rw [if_pos ((mm1 T1.1 (by omega) hb).mpr (by rw [g2]; exact hz)), Option.bind_some, e500]
    exact ⟨_, rfl, G1, fun hh => absurd hh (by first | omega | (dsimp only; omega)), fun hh => absurd hh (by first | omega | (dsimp only; omega))⟩
  rw [if_neg (fun hh => hz (by rw [← g2]; exact (mm1 T1.1 (by omega) hb).mp hh)), e204, Option.bind_some]
  by_cases hs : nT (L 2 i) ∈ st
  · rw [if_pos (Or.inr hs)] at hl
    cases hl
    rw [if_pos hs]
    dsimp only
    rw [if_neg z10, Option.bind_some, e500]
    exact ⟨_, rfl, G1, fun hh => absurd hh (by first | omega | (dsimp only; omega)), fun hh => absurd hh (by first | omega | (dsimp only; omega))⟩
  · rw [if_neg (show ¬ (C 2 (nT (L 2 i)) = 0 ∨ nT (L 2 i) ∈ st) from fun hh => hh.elim hz hs)] at hl
    cases hl
    rw [if_neg hs]
    dsimp only
    rw [if_pos rfl]
    unfold f206_b44 f206_b70 f206_b84 f206_b114 f206_b132
    have hlen : st.length ≤ 4 := by
      have h := nd5 (a := nT (L 2 i)) (List.nodup_cons.mpr ⟨hs, H.2.2.2.1⟩) (fun b hb => by
        rcases List.mem_cons.mp hb with h | h
        · omega
        · exact H.2.2.2.2 b h)
      omega
    obtain ⟨J2, e2, f2, t2⟩ := M134 (kad := kad) (N := N) (Z := Z) (x := i) T1 hlen (a := nT (L 2 i)) (by omega) (by rw [g2]; exact hz) 0 0 0
    rw [← n1] at e2
    rw [if_pos (show Int32.ofNat 0 = 0 from rfl), if_pos (show Int32.ofNat 0 = 0 from rfl), if_pos (show Int32.ofNat 0 = 0 from rfl), if_pos (show Int32.ofNat 0 = 0 from rfl), e2, Option.bind_some, if_pos rfl]
    exact ⟨J2, rfl, G1.trans (f2 _ (Nat.le_succ _)) (Nat.le_refl _), fun _ _ => ⟨(G0 _).trans (f2 _ (Nat.le_refl _)) (Nat.le_refl _), t2 (fun hh => absurd hh (by decide))⟩, fun _ hh => absurd h8 hh⟩
end AR
