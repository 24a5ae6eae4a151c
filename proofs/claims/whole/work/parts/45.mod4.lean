/-! the model's keys, time, tape -/
/-- the keys: so many, told for steps that don't fall -/
def okK (q : Nat) (X : AI) : Prop := X 10 0 = Int32.ofNat q ∧ q ≤ 20 ∧ (∀ i j, i < j → j < q → X 12 i ≤ X 12 j)
def restK (X : AI) (s : Int32) : Nat → Nat → Nat
  | 0, _ => 0
  | n + 1, i => (if X 12 i ≤ s then 1 else 0) + restK X s n (i + 1)
theorem restK_0 {X : AI} {s : Int32} {q : Nat} (h : okK q X) : ∀ (n i : Nat), i + n = q → (0 < n → s < X 12 i) → restK X s n i = 0 := by
  intro n
  induction n with
  | zero => intro i _ _; rfl
  | succ n ih =>
    intro i hi hs
    have h0 := hs (by omega)
    unfold restK
    rw [if_neg (show ¬ X 12 i ≤ s by grind), ih (i + 1) (by omega) (fun hn => by
      have := h.2.2 i (i + 1) (by omega) (by omega)
      grind)]
theorem sCome_rest {X : AI} {s : Int32} {q : Nat} (h : okK q X) : ∀ (n i : Nat), i + n = q → sCome X s (n + 1) i = i + restK X s n i := by
  intro n
  induction n with
  | zero =>
    intro i hi
    unfold sCome restK
    rw [if_pos (by rw [h.1]; exact (of_le (by have := h.2.1; omega) (by have := h.2.1; omega)).mpr (by omega))]
    rfl
  | succ n ih =>
    intro i hi
    have hq := h.2.1
    rw [sCome, if_neg (by rw [h.1]; exact fun hh => absurd ((of_le (by omega) (by omega)).mp hh) (by omega)), if_neg (by omega)]
    by_cases hs : s < X 12 i
    · rw [if_pos hs, restK_0 h (n + 1) i hi (fun _ => hs)]
      rfl
    · rw [if_neg hs, ih (i + 1) (by omega), restK, if_pos (show X 12 i ≤ s by grind)]
      omega
theorem sCome_more {X : AI} {s : Int32} {q : Nat} (h : okK q X) : ∀ (n i k : Nat), i + n = q → sCome X s (n + 1 + k) i = sCome X s (n + 1) i := by
  intro n
  induction n with
  | zero =>
    intro i k hi
    have hq := h.2.1
    rw [show 0 + 1 + k = k + 1 from by omega, sCome, sCome, if_pos (by rw [h.1]; exact (of_le (by omega) (by omega)).mpr (by omega)), if_pos (by rw [h.1]; exact (of_le (by omega) (by omega)).mpr (by omega))]
  | succ n ih =>
    intro i k hi
    have hq := h.2.1
    rw [show n + 1 + 1 + k = (n + 1 + k) + 1 from by omega, sCome]
    rw [show sCome X s (n + 1 + 1) i = (if X 10 0 ≤ Int32.ofNat i then i else if 20 ≤ i then i else if s < X 12 i then i else sCome X s (n + 1) (i + 1)) from rfl, ih (i + 1) k (by omega)]
theorem come_eq {X : AI} {s : Int32} {q : Nat} (h : okK q X) : sCome X s 21 0 = restK X s q 0 := by
  have hq := h.2.1
  have h1 := sCome_more (s := s) h q 0 (20 - q) (by omega)
  rw [show q + 1 + (20 - q) = 21 from by omega] at h1
  rw [h1, sCome_rest h q 0 (by omega)]
  omega
theorem restK_le {X : AI} {s : Int32} : ∀ (n i : Nat), restK X s n i ≤ n := by
  intro n
  induction n with
  | zero => intro i; exact Nat.le_refl _
  | succ n ih =>
    intro i
    have := ih (i + 1)
    unfold restK
    split <;> omega
section M4
variable {kad : Nat → Nat} {N : Nat} {Z : AZ} {e m s : Nat} {I0 I X : AI}
theorem MR.k0 (H : MR e m s I0 I X) : I m 43 = X 10 0 := H.1 10 0 (by unfold mC; omega) rfl
theorem MR.k12 (H : MR e m s I0 I X) {q k : Nat} (h : okK q X) (hk : k < q) : I (m + 18) k = X 12 k := H.1 12 k (by unfold mC; omega) (by
  have hq := h.2.1
  show k < nT (X 10 0) ∧ k < 20
  rw [h.1, nT_of (by omega)]
  omega)
theorem MR.k11 (H : MR e m s I0 I X) {q k : Nat} (h : okK q X) (hk : k < q) : I (m + 19) k = X 11 k := H.1 11 k (by unfold mC; omega) (by
  have hq := h.2.1
  show k < nT (X 10 0) ∧ k < 20
  rw [h.1, nT_of (by omega)]
  omega)
theorem M225_l (H : MR e m s I0 I X) {q : Nat} (hK : okK q X) : ∀ (n i F acc : Nat), i + n = q → n < F → acc ≤ i → f225_b4 kad N Z F m (Int32.ofNat acc) (Int32.ofNat i) I = some (Int32.ofNat (acc + restK X (X 1 2) n i), I) := by
  have hq := hK.2.1
  intro n
  induction n with
  | zero =>
    intro i F acc hi hF ha
    obtain ⟨F, rfl⟩ : ∃ G, F = G + 1 := ⟨F - 1, by omega⟩
    unfold f225_b4 restK
    rw [H.k0, hK.1, if_pos ((of_le (by omega) (by omega)).mpr (by omega))]
    rfl
  | succ n ih =>
    intro i F acc hi hF ha
    obtain ⟨F, rfl⟩ : ∃ G, F = G + 1 := ⟨F - 1, by omega⟩
    unfold f225_b4 restK f225_b31
    rw [H.k0, hK.1, if_neg (fun hh => absurd ((of_le (by omega) (by omega)).mp hh) (by omega)), ixA_of (by omega), Option.bind_some, H.k12 hK (by omega), show I m 38 = X 1 2 from H.r1 (k := 2) (by decide)]
    by_cases h : X 1 2 < X 12 i
    · rw [if_pos h, if_neg (show ¬ X 12 i ≤ X 1 2 by grind), of_s, show Int32.ofNat acc + 0 = Int32.ofNat acc from by grind]
      refine (ih (i + 1) F acc (by omega) (by omega) (by omega)).trans ?_
      congr 3
      omega
    · rw [if_neg h, if_pos (show X 12 i ≤ X 1 2 by grind), of_s, of_s]
      refine (ih (i + 1) F (acc + 1) (by omega) (by omega) (by omega)).trans ?_
      congr 3
      omega
theorem M225 (hN : 2000 ≤ N) (H : MR e m s I0 I X) {q : Nat} (hK : okK q X) : f225 kad N Z m I = some (Int32.ofNat (sCome X (X 1 2) 21 0), I) := by
  unfold f225
  have hq := hK.2.1
  rw [show (0 : Int32) = Int32.ofNat 0 from rfl, M225_l H hK q 0 N 0 (by omega) (by omega) (by omega), come_eq hK]
  congr 3
  omega
theorem M224_l {q : Nat} (hK : okK q X) : ∀ (n i F : Nat) (J : AI) (b : Int32), i + n = q → n < F → (b = 0 ∨ b = 1) → MR e m s I0 J (up2 X 1 9 b) → Ok (f224_b2 kad N Z F m (Int32.ofNat i) J) (fun _ J => MR e m s I0 J (up2 X 1 9 (if sTold X (X 1 2) (n + 1) i = true then 1 else b))) := by
  have hq := hK.2.1
  have hK' : ∀ b, okK q (up2 X 1 9 b) := fun b => by
    unfold okK
    rw [show up2 X 1 9 b 10 = X 10 from up2_b (by decide), show up2 X 1 9 b 12 = X 12 from up2_b (by decide)]
    exact hK
  intro n
  induction n with
  | zero =>
    intro i F J b hi hF hb H
    obtain ⟨F, rfl⟩ : ∃ G, F = G + 1 := ⟨F - 1, by omega⟩
    unfold f224_b2 sTold
    rw [H.k0, show up2 X 1 9 b 10 0 = Int32.ofNat q from hK.1, hK.1, if_pos ((of_le (by omega) (by omega)).mpr (by omega)), if_pos (show Int32.ofNat q ≤ Int32.ofNat i from (of_le (by omega) (by omega)).mpr (by omega)), if_neg (by decide)]
    exact Ok.ret H
  | succ n ih =>
    intro i F J b hi hF hb H
    obtain ⟨F, rfl⟩ : ∃ G, F = G + 1 := ⟨F - 1, by omega⟩
    unfold f224_b2 f224_b31 f224_b36
    rw [sTold, H.k0, show up2 X 1 9 b 10 0 = Int32.ofNat q from hK.1, hK.1, if_neg (show ¬ Int32.ofNat q ≤ Int32.ofNat i from fun hh => absurd ((of_le (by omega) (by omega)).mp hh) (by omega)), if_neg (show ¬ Int32.ofNat q ≤ Int32.ofNat i from fun hh => absurd ((of_le (by omega) (by omega)).mp hh) (by omega)), if_neg (show ¬ 20 ≤ i by omega), ixA_of (by omega), Option.bind_some, H.k12 (hK' b) (by omega), show J m 38 = X 1 2 from (H.r1 (k := 2) (by decide)).trans (up2_ne (by decide)), show J m 33 = b from (H.r1 (k := 9) (by decide)).trans up2_eq, show up2 X 1 9 b 12 i = X 12 i from congrFun (up2_b (by decide)) i, of_s]
    have nx : ∀ (b2 : Int32), (b2 = 0 ∨ b2 = 1) → Ok (((wB J m 33 b2).bind fun I36_1 => f224_b2 kad N Z F m (Int32.ofNat (i + 1)) I36_1)) (fun _ J => MR e m s I0 J (up2 X 1 9 (if sTold X (X 1 2) (n + 1) (i + 1) = true then 1 else b2))) := fun b2 hb2 => by
      refine Ok.wb hb2 ?_
      have H2 := H.u1 (k := 9) (v := b2) (by decide)
      rw [show up2 (up2 X 1 9 b) 1 9 b2 = up2 X 1 9 b2 from by funext c k; unfold up2; split <;> rfl] at H2
      exact ih (i + 1) F _ b2 (by omega) (by omega) hb2 H2
    by_cases hb0 : b = 0
    · rw [if_neg (fun h => h hb0)]
      by_cases ht : X 12 i = X 1 2
      · rw [if_neg (fun h => h ht), if_pos ht, if_pos rfl]
        have := nx 1 (Or.inr rfl)
        rwa [show (if sTold X (X 1 2) (n + 1) (i + 1) = true then (1 : Int32) else 1) = 1 from by split <;> rfl] at this
      · rw [if_pos ht, if_neg ht, hb0]
        exact nx 0 (Or.inl rfl)
    · have hb1 := hb.resolve_left hb0
      rw [if_pos hb0, hb1]
      have := nx 1 (Or.inr rfl)
      rw [show (if sTold X (X 1 2) (n + 1) (i + 1) = true then (1 : Int32) else 1) = 1 from by split <;> rfl] at this
      refine this.mono fun v J h => ?_
      rwa [show (if (if X 12 i = X 1 2 then true else sTold X (X 1 2) (n + 1) (i + 1)) = true then (1 : Int32) else 1) = 1 from ite_self _]
theorem sTold_more {X : AI} {s : Int32} {q : Nat} (h : okK q X) : ∀ (n i k : Nat), i + n = q → sTold X s (n + 1 + k) i = sTold X s (n + 1) i := by
  have hq := h.2.1
  intro n
  induction n with
  | zero =>
    intro i k hi
    rw [show 0 + 1 + k = k + 1 from by omega, sTold, sTold, if_pos (by rw [h.1]; exact (of_le (by omega) (by omega)).mpr (by omega)), if_pos (by rw [h.1]; exact (of_le (by omega) (by omega)).mpr (by omega))]
  | succ n ih =>
    intro i k hi
    rw [show n + 1 + 1 + k = (n + 1 + k) + 1 from by omega, sTold]
    rw [show sTold X s (n + 1 + 1) i = (if X 10 0 ≤ Int32.ofNat i then false else if 20 ≤ i then false else if X 12 i = s then true else sTold X s (n + 1) (i + 1)) from rfl, ih (i + 1) k (by omega)]
theorem M224 (hN : 2000 ≤ N) (H : MR e m s I0 I X) {q : Nat} (hK : okK q X) (hb : bl X) : Ok (f224 kad N Z m I) (fun _ J => MR e m s I0 J (sKeys X)) := by
  have hq := hK.2.1
  unfold f224 sKeys
  have h1 := sTold_more (s := X 1 2) hK q 0 (20 - q) (by omega)
  rw [show q + 1 + (20 - q) = 21 from by omega] at h1
  rw [h1]
  have h := M224_l (kad := kad) (N := N) (Z := Z) (e := e) (m := m) (s := s) (I0 := I0) hK q 0 N I (X 1 9) (by omega) (by omega) (hb 9 (by decide) (by decide)) (by rw [up2_self rfl]; exact H)
  refine h.mono fun v J hJ => ?_
  split
  · rename_i ht
    rwa [if_pos ht] at hJ
  · rename_i ht
    rwa [if_neg ht, up2_self rfl] at hJ
/-- a step's end: time passes, keys come -/
theorem M234_t (hN : 2000 ≤ N) (H : MR e m s I0 I X) {q : Nat} (hK : okK q X) (hb : bl X) : Ok (f234_b76 kad N Z m I) (fun _ J => MR e m s I0 J (sKeys (sTime (up2 X 1 2 (X 1 2 + 1))))) := by
  unfold f234_b76
  rw [show I m 38 = X 1 2 from H.r1 (k := 2) (by decide)]
  refine Ok.w ?_
  have H1 := H.u1 (k := 2) (v := X 1 2 + 1) (by decide)
  have kk : ∀ (Y : AI), Y 10 = X 10 → Y 12 = X 12 → okK q Y := fun Y h1 h2 => by
    unfold okK
    rw [h1, h2]
    exact hK
  have fin : ∀ (Y J : AI), MR e m s I0 J Y → Y 10 = X 10 → Y 12 = X 12 → bl Y → Ok (f234_b153 kad N Z m J) (fun _ J => MR e m s I0 J (sKeys Y)) := fun Y J h h1 h2 hbY => by
    unfold f234_b153
    exact (M224 hN h (kk Y h1 h2) hbY).bind fun v J HJ => Ok.ret HJ
  generalize hX1 : up2 X 1 2 (X 1 2 + 1) = X1 at H1
  have x10 : X1 10 = X 10 := by rw [← hX1, up2_b (by decide)]
  have x12 : X1 12 = X 12 := by rw [← hX1, up2_b (by decide)]
  have xb : bl X1 := fun k h5 h9 => by rw [← hX1, up2_ne (by omega)]; exact hb k h5 h9
  unfold sTime
  have g10 : up2 I m 38 (X 1 2 + 1) m 34 = X1 1 10 := H1.r1 (k := 10) (by decide)
  have g11 : up2 I m 38 (X 1 2 + 1) m 35 = X1 1 11 := H1.r1 (k := 11) (by decide)
  by_cases h : X1 1 10 ≤ 0
  · rw [if_pos (by rw [g10]; exact h), if_pos h]
    exact fin _ _ H1 x10 x12 xb
  · rw [if_neg (by rw [g10]; exact h), if_neg h, g11]
    refine Ok.w ?_
    have H2 := H1.u1 (k := 11) (v := X1 1 11 + 1) (by decide)
    have q11 : up2 (up2 I m 38 (X 1 2 + 1)) m 35 (X1 1 11 + 1) m 35 = X1 1 11 + 1 := up2_eq
    have q10 : up2 (up2 I m 38 (X 1 2 + 1)) m 35 (X1 1 11 + 1) m 34 = X1 1 10 := (H2.r1 (k := 10) (by decide)).trans (up2_ne (by decide))
    have q8 : up2 (up2 I m 38 (X 1 2 + 1)) m 35 (X1 1 11 + 1) m 32 = X1 1 8 := (H2.r1 (k := 8) (by decide)).trans (up2_ne (by decide))
    dsimp only
    have es : (if up2 X1 1 11 (X1 1 11 + 1) 1 11 = up2 X1 1 11 (X1 1 11 + 1) 1 10 then up2 (up2 (up2 X1 1 11 (X1 1 11 + 1)) 1 11 0) 1 8 1 else up2 X1 1 11 (X1 1 11 + 1)) = (if X1 1 11 + 1 = X1 1 10 then up2 (up2 (up2 X1 1 11 (X1 1 11 + 1)) 1 11 0) 1 8 1 else up2 X1 1 11 (X1 1 11 + 1)) := by
      rw [up2_eq, up2_ne (show ¬ (1 = 1 ∧ 10 = 11) from by decide)]
    rw [es]
    unfold f234_b122 f234_b127 f234_b150
    have b8 := xb 8 (by decide) (by decide)
    have blu : ∀ (v w z : Int32), (z = 0 ∨ z = 1) → bl (up2 (up2 (up2 X1 1 11 v) 1 8 z) 1 11 w) := fun v w z hz k h5 h9 => by
      rw [up2_ne (by omega)]
      by_cases hk : k = 8
      · subst hk; rw [up2_eq]; exact hz
      · rw [up2_ne (by omega), up2_ne (by omega)]; exact xb k h5 h9
    have o10 : ∀ (v w z : Int32), up2 (up2 (up2 X1 1 11 v) 1 8 z) 1 11 w 10 = X 10 := fun v w z => by rw [up2_b (by decide), up2_b (by decide), up2_b (by decide), x10]
    have o12 : ∀ (v w z : Int32), up2 (up2 (up2 X1 1 11 v) 1 8 z) 1 11 w 12 = X 12 := fun v w z => by rw [up2_b (by decide), up2_b (by decide), up2_b (by decide), x12]
    have r11 : ∀ z, up2 (up2 (up2 I m 38 (X 1 2 + 1)) m 35 (X1 1 11 + 1)) m 32 z m 35 = X1 1 11 + 1 := fun z => by rw [up2_ne (by omega)]; exact q11
    have r10 : ∀ z, up2 (up2 (up2 I m 38 (X 1 2 + 1)) m 35 (X1 1 11 + 1)) m 32 z m 34 = X1 1 10 := fun z => by rw [up2_ne (by omega)]; exact q10
    have tail : ∀ (z : Int32), (z = 0 ∨ z = 1) → Ok ((wB (up2 (up2 I m 38 (X 1 2 + 1)) m 35 (X1 1 11 + 1)) m 32 z).bind fun I127 => if ¬ I127 m 35 = I127 m 34 then (wI I127 m 35 (I127 m 35)).bind fun I150 => f234_b153 kad N Z m I150 else (wI I127 m 35 0).bind fun I150 => f234_b153 kad N Z m I150) (fun _ J => MR e m s I0 J (sKeys (up2 (up2 (up2 X1 1 11 (X1 1 11 + 1)) 1 8 z) 1 11 (if X1 1 11 + 1 = X1 1 10 then 0 else X1 1 11 + 1)))) := fun z hz => by
      refine Ok.wb hz ?_
      have H3 := H2.u1 (k := 8) (v := z) (by decide)
      by_cases he : X1 1 11 + 1 = X1 1 10
      · rw [if_neg (by rw [r11, r10]; exact fun hh => hh he), if_pos he]
        exact Ok.w (fin _ _ (H3.u1 (k := 11) (by decide)) (o10 _ _ _) (o12 _ _ _) (blu _ _ _ hz))
      · rw [if_pos (by rw [r11, r10]; exact he), if_neg he, r11]
        exact Ok.w (fin _ _ (H3.u1 (k := 11) (by decide)) (o10 _ _ _) (o12 _ _ _) (blu _ _ _ hz))
    have e0 : ∀ (v w z : Int32), X1 1 8 = z → up2 (up2 (up2 X1 1 11 v) 1 8 z) 1 11 w = up2 (up2 X1 1 11 v) 1 11 w := fun v w z hz => by
      rw [up2_self (X := up2 X1 1 11 v) (by rw [up2_ne (by decide)]; exact hz)]
    have e1 : ∀ v, up2 (up2 X1 1 11 v) 1 11 v = up2 X1 1 11 v := fun v => up2_self up2_eq
    by_cases he : X1 1 11 + 1 = X1 1 10
    · rw [if_pos he]
      have t1 := tail 1 (Or.inr rfl)
      rw [if_pos he, up2_comm (X := up2 X1 1 11 (X1 1 11 + 1)) (c := 1) (k := 8) (by decide)] at t1
      by_cases h8 : X1 1 8 = 0
      · rw [if_neg (by rw [q8]; exact fun hh => hh h8), if_neg (by rw [q11, q10]; exact fun hh => hh he)]
        exact t1
      · rw [if_pos (by rw [q8]; exact h8)]
        exact t1
    · rw [if_neg he]
      by_cases h8 : X1 1 8 = 0
      · rw [if_neg (by rw [q8]; exact fun hh => hh h8), if_pos (by rw [q11, q10]; exact he)]
        have t1 := tail 0 (Or.inl rfl)
        rwa [if_neg he, e0 _ _ _ h8, e1] at t1
      · rw [if_pos (by rw [q8]; exact h8)]
        have t1 := tail 1 (Or.inr rfl)
        rwa [if_neg he, e0 _ _ _ (b8.resolve_left h8), e1] at t1
end M4
