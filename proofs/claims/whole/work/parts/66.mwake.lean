/-! a machine that is off, and one that is started; the model's rows for them -/
def wake (M D : Nat → Int32) (W : Int32) : AI := fun c k => if c = 1 then (if k = 0 then 1 else if k = 3 then 8 else if k = 4 then 256 else 0) else if c = 6 then M k else if c = 8 then W else if c = 9 then D k else 0
def offm (D : Nat → Int32) (W : Int32) : AI := fun c k => if c = 8 then W else if c = 9 then D k else 0
/-- the words of a machine that sleeps -/
def SL (m : Nat) (I J : AI) : Prop := ((∀ b, ¬ b = m → ¬ b = m + 15 → ¬ b = m + 16 → J b = I b) ∧ (∀ j, ¬ j = 23 → ¬ j = 24 → ¬ (27 ≤ j ∧ j ≤ 35) → ¬ (37 ≤ j ∧ j ≤ 39) → ¬ j = 46 → J m j = I m j)) ∧ ((∀ k, k < 256 → J (m + 15) k = 0) ∧ (∀ k, k < 4 → J (m + 16) k = 0)) ∧ ((∀ j, (j = 23 ∨ j = 24 ∨ (27 ≤ j ∧ j ≤ 35) ∨ (37 ≤ j ∧ j ≤ 39) ∨ j = 46) → J m j = 0))
section MWs
variable {kad : Nat → Nat} {N : Nat} {Z : AZ} {m : Nat} {I : AI}
theorem M223_b : ∀ (q i F : Nat) (J : AI), i + q = 4 → q < F → f223_b34 kad N Z F m (Int32.ofNat i) (fl J (m + 16) i 0) = f223_b34 kad N Z 1 m 4 (fl J (m + 16) 4 0) := by
  intro q
  induction q with
  | zero =>
    intro i F J hi hF
    obtain ⟨F, rfl⟩ : ∃ G, F = G + 1 := ⟨F - 1, by omega⟩
    rw [show i = 4 from by omega]
    unfold f223_b34
    rw [if_pos (show (4 : Int32) ≤ Int32.ofNat 4 from by decide), if_pos (show (4 : Int32) ≤ 4 from by decide)]
  | succ q ih =>
    intro i F J hi hF
    obtain ⟨F, rfl⟩ : ∃ G, F = G + 1 := ⟨F - 1, by omega⟩
    rw [f223_b34]
    rw [if_neg (show ¬ (4 : Int32) ≤ Int32.ofNat i from fun h => absurd ((of_le (m := 4) (by decide) (by omega)).mp h) (by omega)), ixA_of (by omega), Option.bind_some]
    unfold wI
    rw [Option.bind_some, fl_s, of_s]
    exact ih (i + 1) F J (by omega) (by omega)
theorem M223_a (hN : 2000 ≤ N) : ∀ (q i F : Nat) (J : AI), i + q = 256 → q < F → f223_b12 kad N Z F m (Int32.ofNat i) (fl J (m + 15) i 0) = f223_b34 kad N Z N m 0 (fl J (m + 15) 256 0) := by
  intro q
  induction q with
  | zero =>
    intro i F J hi hF
    obtain ⟨F, rfl⟩ : ∃ G, F = G + 1 := ⟨F - 1, by omega⟩
    rw [show i = 256 from by omega]
    unfold f223_b12
    rw [if_pos (show (256 : Int32) ≤ Int32.ofNat 256 from by decide)]
  | succ q ih =>
    intro i F J hi hF
    obtain ⟨F, rfl⟩ : ∃ G, F = G + 1 := ⟨F - 1, by omega⟩
    unfold f223_b12
    rw [if_neg (show ¬ (256 : Int32) ≤ Int32.ofNat i from fun h => absurd ((of_le (m := 256) (by decide) (by omega)).mp h) (by omega)), ixA_of (by omega), Option.bind_some]
    unfold wI
    rw [Option.bind_some, fl_s, of_s]
    exact ih (i + 1) F J (by omega) (by omega)
theorem M223 (hN : 2000 ≤ N) : Ok (f223 kad N Z m I) (fun _ J => SL m I J) := by
  unfold f223
  refine Ok.w (Ok.w ?_)
  have ha := M223_a (kad := kad) (N := N) (Z := Z) (m := m) hN 256 0 N (up2 (up2 I m 23 0) m 24 0) rfl (by omega)
  rw [fl_0] at ha
  rw [show (0 : Int32) = Int32.ofNat 0 from rfl] at ha ⊢
  rw [ha]
  have hb := M223_b (kad := kad) (N := N) (Z := Z) (m := m) 4 0 N (fl (up2 (up2 I m 23 (Int32.ofNat 0)) m 24 (Int32.ofNat 0)) (m + 15) 256 (Int32.ofNat 0)) rfl (by omega)
  rw [show (0 : Int32) = Int32.ofNat 0 from rfl, fl_0] at hb
  rw [hb]
  unfold f223_b34
  rw [if_pos (show (4 : Int32) ≤ 4 from by decide), show Int32.ofNat 0 = 0 from rfl]
  have e0 : ∀ b, ¬ b = m → fl (fl (up2 (up2 I m 23 0) m 24 0) (m + 15) 256 0) (m + 16) 4 0 b = fl (fl I (m + 15) 256 0) (m + 16) 4 0 b := fun b hb => by
    funext k
    unfold fl
    rw [up2_b hb, up2_b hb]
  have em : ∀ j, fl (fl (up2 (up2 I m 23 0) m 24 0) (m + 15) 256 0) (m + 16) 4 0 m j = up2 (up2 I m 23 0) m 24 0 m j := fun j => by
    rw [fl_b (by omega), fl_b (by omega)]
  generalize fl (fl (up2 (up2 I m 23 0) m 24 0) (m + 15) 256 0) (m + 16) 4 0 = J at e0 em
  refine Ok.w (Ok.w (Ok.w (Ok.w (Ok.w (Ok.w (Ok.w (Ok.w (Ok.w (Ok.w (Ok.w (Ok.w (Ok.w (Ok.ret ⟨⟨fun b h1 h2 h3 => ?_, fun j j1 j2 j3 j4 j5 => ?_⟩, ⟨fun k hk => ?_, fun k hk => ?_⟩, fun j hj => ?_⟩)))))))))))))
  · rw [up2_b h1, up2_b h1, up2_b h1, up2_b h1, up2_b h1, up2_b h1, up2_b h1, up2_b h1, up2_b h1, up2_b h1, up2_b h1, up2_b h1, up2_b h1, e0 b h1, fl_b h3, fl_b h2]
  · rw [up2_ne (by omega), up2_ne (by omega), up2_ne (by omega), up2_ne (by omega), up2_ne (by omega), up2_ne (by omega), up2_ne (by omega), up2_ne (by omega), up2_ne (by omega), up2_ne (by omega), up2_ne (by omega), up2_ne (by omega), up2_ne (by omega), em, up2_ne (by omega), up2_ne (by omega)]
  · have h1 : ¬ m + 15 = m := by omega
    rw [up2_b h1, up2_b h1, up2_b h1, up2_b h1, up2_b h1, up2_b h1, up2_b h1, up2_b h1, up2_b h1, up2_b h1, up2_b h1, up2_b h1, up2_b h1, e0 _ h1, fl_b (by omega), fl_at hk]
  · have h1 : ¬ m + 16 = m := by omega
    rw [up2_b h1, up2_b h1, up2_b h1, up2_b h1, up2_b h1, up2_b h1, up2_b h1, up2_b h1, up2_b h1, up2_b h1, up2_b h1, up2_b h1, up2_b h1, e0 _ h1, fl_at hk]
  · have u : ∀ (Y : AI) (k : Nat), (¬ j = k → Y m j = 0) → up2 Y m k 0 m j = 0 := fun Y k h => by
      by_cases e : j = k
      · rw [e, up2_eq]
      · rw [up2_ne (fun hh => e hh.2)]
        exact h e
    refine u _ 46 fun h46 => u _ 39 fun h39 => u _ 38 fun h38 => u _ 37 fun h37 => u _ 35 fun h35 => u _ 34 fun h34 => u _ 33 fun h33 => u _ 32 fun h32 => u _ 31 fun h31 => u _ 30 fun h30 => u _ 29 fun h29 => u _ 28 fun h28 => u _ 27 fun h27 => ?_
    rw [em]
    refine u _ 24 fun h24 => u _ 23 fun h23 => ?_
    omega
/-- the words of a machine that is woken, with a memory's words -/
def WK (m : Nat) (M : Nat → Int32) (I J : AI) : Prop := ((∀ b, ¬ b = m → ¬ b = m + 15 → ¬ b = m + 16 → J b = I b) ∧ (∀ j, ¬ j = 23 → ¬ j = 24 → ¬ (27 ≤ j ∧ j ≤ 35) → ¬ (37 ≤ j ∧ j ≤ 39) → ¬ j = 46 → J m j = I m j)) ∧ ((∀ k, k < 256 → J (m + 15) k = M k) ∧ (∀ k, k < 4 → J (m + 16) k = 0)) ∧ ((∀ j, (j = 23 ∨ j = 24 ∨ (27 ≤ j ∧ j ≤ 35) ∨ (37 ≤ j ∧ j ≤ 39) ∨ j = 46) → J m j = if j = 23 then 1 else if j = 27 then 8 else if j = 28 then 256 else 0))
theorem M222_l {b : Nat} (hz : Z.1 b = some (100, 256)) (hb : ¬ b = m + 15) : ∀ (q i F : Nat) (J : AI), i + q = 256 → q < F → f222_b6 kad N Z F m b (Int32.ofNat i) (cpI J b (m + 15) 0 0 i) = f222_b6 kad N Z 1 m b 256 (cpI J b (m + 15) 0 0 256) := by
  intro q
  induction q with
  | zero =>
    intro i F J hi hF
    obtain ⟨F, rfl⟩ : ∃ G, F = G + 1 := ⟨F - 1, by omega⟩
    rw [show i = 256 from by omega]
    unfold f222_b6
    rw [if_pos (show (256 : Int32) ≤ Int32.ofNat 256 from by decide), if_pos (show (256 : Int32) ≤ 256 from by decide)]
  | succ q ih =>
    intro i F J hi hF
    obtain ⟨F, rfl⟩ : ∃ G, F = G + 1 := ⟨F - 1, by omega⟩
    rw [f222_b6]
    rw [if_neg (show ¬ (256 : Int32) ≤ Int32.ofNat i from fun h => absurd ((of_le (m := 256) (by decide) (by omega)).mp h) (by omega)), lI_at hz (by omega), Option.bind_some, ixA_of (by omega), Option.bind_some]
    unfold wI
    rw [Option.bind_some, show cpI J b (m + 15) 0 0 i b i = J b i from congrFun (cpI_b (fun h => hb h)) i, cpI_s (fun h => hb h), of_s]
    exact ih (i + 1) F J (by omega) (by omega)
theorem M222 (hN : 2000 ≤ N) {b : Nat} (hz : Z.1 b = some (100, 256)) (hb : ¬ b = m ∧ ¬ b = m + 15 ∧ ¬ b = m + 16) : Ok (f222 kad N Z m b I) (fun _ J => WK m (I b) I J) := by
  unfold f222
  refine (M223 hN).bind fun v J ⟨⟨s1, s2⟩, ⟨s3, s4⟩, s5⟩ => ?_
  have hl := M222_l (kad := kad) (N := N) (m := m) hz hb.2.1 256 0 N J rfl (by omega)
  rw [cpI_0] at hl
  dsimp only
  rw [show (0 : Int32) = Int32.ofNat 0 from rfl, hl]
  unfold f222_b6
  rw [if_pos (show (256 : Int32) ≤ 256 from by decide)]
  have eb : ∀ c, ¬ c = m + 15 → cpI J b (m + 15) 0 0 256 c = J c := fun c hc => cpI_b hc
  have e15 : ∀ k, k < 256 → cpI J b (m + 15) 0 0 256 (m + 15) k = I b k := fun k hk => by
    rw [cpI_at (by omega), s1 b hb.1 hb.2.1 hb.2.2]
    congr 1
    omega
  generalize cpI J b (m + 15) 0 0 256 = Y at eb e15
  refine Ok.w (Ok.w (Ok.w (Ok.ret ⟨⟨fun c h1 h2 h3 => ?_, fun j j1 j2 j3 j4 j5 => ?_⟩, ⟨fun k hk => ?_, fun k hk => ?_⟩, fun j hj => ?_⟩)))
  · rw [up2_b h1, up2_b h1, up2_b h1, eb c h2, s1 c h1 h2 h3]
  · rw [up2_ne (by omega), up2_ne (by omega), up2_ne (by omega), eb m (by omega)]
    exact s2 j j1 j2 j3 j4 j5
  · rw [up2_b (by omega), up2_b (by omega), up2_b (by omega)]
    exact e15 k hk
  · rw [up2_b (by omega), up2_b (by omega), up2_b (by omega), eb _ (by omega)]
    exact s4 k hk
  · by_cases h28 : j = 28
    · rw [h28, up2_eq, if_neg (by decide), if_neg (by decide), if_pos rfl]
    · rw [up2_ne (fun hh => h28 hh.2)]
      by_cases h27 : j = 27
      · rw [h27, up2_eq, if_neg (by decide), if_pos rfl]
      · rw [up2_ne (fun hh => h27 hh.2)]
        by_cases h23 : j = 23
        · rw [h23, up2_eq, if_pos rfl]
        · rw [up2_ne (fun hh => h23 hh.2), eb m (by omega), if_neg h23, if_neg h27, if_neg h28]
          exact s5 j hj
/-- the keys, in the model -/
def KR (q m : Nat) (K I : AI) : Prop := I m 43 = K 10 0 ∧ ∀ k, k < q → I (m + 19) k = K 11 k ∧ I (m + 18) k = K 12 k
theorem mF_set {k : Nat} (h : k < 14) : mF k = 23 ∨ mF k = 24 ∨ (27 ≤ mF k ∧ mF k ≤ 35) ∨ (37 ≤ mF k ∧ mF k ≤ 39) := (mF_rng ⟨k, h⟩).2.2.2.2.2
theorem ML.of {q : Nat} {K X I : AI} (hK : okK q K) (hk : KR q m K I) (hX : ∀ c, 10 ≤ c ∧ c ≤ 12 → X c = K c) (h1 : ∀ k, k < 14 → I m (mF k) = X 1 k) (h2 : ∀ k, k < 4 → I (m + 16) k = X 2 k) (h3 : X 3 0 = 0) (h6 : ∀ k, k < 256 → I (m + 15) k = X 6 k) (h7 : X 1 12 = 0) (h8 : I m 52 = X 8 1) (h9 : ∀ k, k < 256 → I (m + 24) k = X 9 k) (h46 : I m 46 = 0) : ML m I X := by
  have z : nT 0 = 0 := by decide
  refine ⟨fun c k hc hr => ?_, ?_, fun hh => absurd h3 hh⟩
  · unfold mC at hc
    rcases hc with rfl | rfl | rfl | rfl | rfl | rfl | rfl | rfl | rfl | rfl | rfl | rfl
    · exact h1 k hr
    · exact h2 k hr
    · have : k < nT (X 3 0) ∧ k < 3 := hr
      rw [h3, z] at this; omega
    · have : k < 8 * nT (X 3 0) ∧ k < 24 := hr
      rw [h3, z] at this; omega
    · exact h6 k hr
    · have : k < nT (X 1 12) ∧ k < 60 := hr
      rw [h7, z] at this; omega
    · have : k = 1 := hr
      subst this
      exact h8
    · exact h9 k hr
    · have : k = 0 := hr
      subst this
      rw [hX 10 (by decide)]
      exact hk.1
    · have hr : k < nT (X 10 0) ∧ k < 20 := hr
      rw [hX 10 (by decide), hK.1, nT_of (by have := hK.2.1; omega)] at hr
      rw [hX 11 (by decide)]
      exact (hk.2 k hr.1).1
    · have hr : k < nT (X 10 0) ∧ k < 20 := hr
      rw [hX 10 (by decide), hK.1, nT_of (by have := hK.2.1; omega)] at hr
      rw [hX 12 (by decide)]
      exact (hk.2 k hr.1).2
    · have : (0 : Nat) = 1 ∧ k < 256 := hr
      exact absurd this.1 (by decide)
  · unfold sLeft
    rw [if_pos h3]
    exact h46
theorem WK.ml {q : Nat} {K J : AI} {M D : Nat → Int32} {W : Int32} (h : WK m M I J) (hK : okK q K) (hk : KR q m K I) (hD : ∀ k, k < 256 → I (m + 24) k = D k) (hW : I m 52 = W) : ML m J (ov K (wake M D W)) := by
  obtain ⟨⟨s1, s2⟩, ⟨s3, s4⟩, s5⟩ := h
  refine ML.of hK ⟨?_, fun k hk' => ?_⟩ (fun c hc => ov_k hc) (fun k hk' => ?_) (fun k hk' => ?_) ?_ (fun k hk' => ?_) ?_ ?_ (fun k hk' => ?_) ?_
  · rw [s2 43 (by decide) (by decide) (by decide) (by decide) (by decide)]; exact hk.1
  · rw [s1 (m + 19) (by omega) (by omega) (by omega), s1 (m + 18) (by omega) (by omega) (by omega)]
    exact hk.2 k hk'
  · have := mF_set hk'
    rw [s5 (mF k) (by omega), ov_r1]
    have e : ∀ k : Fin 14, (if mF k.1 = 23 then (1 : Int32) else if mF k.1 = 27 then 8 else if mF k.1 = 28 then 256 else 0) = if k.1 = 0 then 1 else if k.1 = 3 then 8 else if k.1 = 4 then 256 else 0 := by decide
    exact e ⟨k, hk'⟩
  · rw [s4 k hk', ov_r2]; rfl
  · rw [ov_r3]; rfl
  · rw [s3 k hk', ov_r6]; rfl
  · rw [ov_r1]; rfl
  · rw [s2 52 (by decide) (by decide) (by decide) (by decide) (by decide), ov_r8]; exact hW
  · rw [s1 (m + 24) (by omega) (by omega) (by omega), ov_r9]; exact hD k hk'
  · rw [s5 46 (by omega)]; rfl
theorem SL.ml {q : Nat} {K J : AI} {D : Nat → Int32} {W : Int32} (h : SL m I J) (hK : okK q K) (hk : KR q m K I) (hD : ∀ k, k < 256 → I (m + 24) k = D k) (hW : I m 52 = W) : ML m J (ov K (offm D W)) := by
  obtain ⟨⟨s1, s2⟩, ⟨s3, s4⟩, s5⟩ := h
  refine ML.of hK ⟨?_, fun k hk' => ?_⟩ (fun c hc => ov_k hc) (fun k hk' => ?_) (fun k hk' => ?_) ?_ (fun k hk' => ?_) ?_ ?_ (fun k hk' => ?_) ?_
  · rw [s2 43 (by decide) (by decide) (by decide) (by decide) (by decide)]; exact hk.1
  · rw [s1 (m + 19) (by omega) (by omega) (by omega), s1 (m + 18) (by omega) (by omega) (by omega)]
    exact hk.2 k hk'
  · have := mF_set hk'
    rw [s5 (mF k) (by omega), ov_r1]
    rfl
  · rw [s4 k hk', ov_r2]; rfl
  · rw [ov_r3]; rfl
  · rw [s3 k hk', ov_r6]; rfl
  · rw [ov_r1]; rfl
  · rw [s2 52 (by decide) (by decide) (by decide) (by decide) (by decide), ov_r8]; exact hW
  · rw [s1 (m + 24) (by omega) (by omega) (by omega), ov_r9]; exact hD k hk'
  · rw [s5 46 (by omega)]
end MWs
