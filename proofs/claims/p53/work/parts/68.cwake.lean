/-! the class's machine goes off and is started -/
def EM (a : Nat) (I J : AI) : Prop := (∀ b, ¬ b = a + 1 → ¬ b = a + 2 → ¬ b = a + 3 → J b = I b) ∧ (∀ k, k < 14 → J (a + 1) k = 0) ∧ (∀ k, k < 4 → J (a + 2) k = 0) ∧ (J (a + 3) 0 = 0 ∧ J (a + 3) 1 = 0)
/-- what mending does -/
def MD (D : Nat → Int32) (r : Nat) (D' : Nat → Int32) : Prop := (D 0 = 0 ∧ WF D ∧ r = 0 ∧ D' = D) ∨ ∃ n bs f, DLg n bs f D ∧ r = n + 1 ∧ D' = mD D bs f n
theorem DLg.cong {n : Nat} {bs : Nat → Nat} {f D E : Nat → Int32} (h : DLg n bs f D) (he : ∀ k, k < 256 → E k = D k) : DLg n bs f E ∧ ∀ k, k < 256 → mD E bs f n k = mD D bs f n k := by
  obtain ⟨⟨⟨n1, n3⟩, r1, r2⟩, fw, lg, hh, hw, wf⟩ := h
  have ea : ∀ k, k < 256 → apD E bs f n k = apD D bs f n k := fun k hk => apD_cong r1 (fun _ => he k hk)
  refine ⟨⟨⟨⟨n1, n3⟩, r1, r2⟩, fw, fun i p hi hp => ?_, fun k hk => ?_, hw.cong he, wf.cong256 ea⟩, fun k hk => ?_⟩
  · rw [he _ (by omega)]; exact lg i p hi hp
  · rw [he k (by omega)]; exact hh k hk
  · unfold mD kB
    split
    · rfl
    · exact ea k hk
theorem DK.md {D : Nat → Int32} (h : DK D) : ∃ r D', MD D r D' ∧ r ≤ 4 ∧ D' 0 = 0 ∧ WF D' := by
  rcases h with ⟨h0, h1⟩ | ⟨n, bs, f, h⟩
  · exact ⟨0, D, Or.inl ⟨h0, h1, rfl, rfl⟩, by decide, h0, h1⟩
  · have := h.1.1.2
    exact ⟨n + 1, mD D bs f n, Or.inr ⟨n, bs, f, h, rfl, rfl⟩, by omega, h.end.1, h.end.2⟩
section CW2
variable {kad : Nat → Nat} {N : Nat} {Z : AZ} {a q : Nat} {I : AI} {K : AI} {M D D' : Nat → Int32} {W : Int32} {r : Nat}
theorem C46 (hN : 2000 ≤ N) {d : Nat} (h : MD D r D') (hd : ∀ k, k < 256 → I (d + 1) k = D k) (hz : Z.1 (d + 1) = some (100, 256)) : ∃ E, f46 kad N Z d I = some (Int32.ofNat r, memf (up2 I d 1 (I d 1 + Int32.ofNat r)) (d + 1) E) ∧ ∀ k, k < 256 → E k = D' k := by
  rcases h with ⟨h0, h1, rfl, rfl⟩ | ⟨n, bs, f, h, rfl, rfl⟩
  · refine ⟨I (d + 1), ?_, hd⟩
    rw [C46_0 (by rw [hd 0 (by decide)]; exact h0)]
    congr 2
    rw [show I d 1 + Int32.ofNat 0 = I d 1 from by show I d 1 + 0 = I d 1; grind, up2_self rfl]
    exact memf_id.symm
  · obtain ⟨h2, h3⟩ := h.cong hd
    exact ⟨_, C46_1 hN h2 hz, h3⟩
theorem C37 (hN : 2000 ≤ N) (hz : Z.1 (a + 2) = some (100, 4)) : Ok (f37 kad N Z (a + 1) I) (fun _ J => EM a I J) := by
  unfold f37
  refine Ok.w (Ok.w (Ok.w (Ok.w (Ok.w (Ok.w (Ok.w (Ok.w (Ok.w (Ok.w (Ok.w (Ok.w (Ok.w (Ok.w ?_)))))))))))))
  have u : ∀ (Y : AI) (j k : Nat), (¬ j = k → Y (a + 1) j = 0) → up2 Y (a + 1) k 0 (a + 1) j = 0 := fun Y j k h => by
    by_cases e : j = k
    · rw [e, up2_eq]
    · rw [up2_ne (fun hh => e hh.2)]
      exact h e
  have e1 : ∀ j, j < 14 → up2 (up2 (up2 (up2 (up2 (up2 (up2 (up2 (up2 (up2 (up2 (up2 (up2 (up2 I (a + 1) 0 0) (a + 1) 1 0) (a + 1) 2 0) (a + 1) 3 0) (a + 1) 4 0) (a + 1) 5 0) (a + 1) 6 0) (a + 1) 7 0) (a + 1) 8 0) (a + 1) 9 0) (a + 1) 10 0) (a + 1) 11 0) (a + 1) 12 0) (a + 1) 13 0 (a + 1) j = 0 := fun j hj => by
    refine u _ j 13 fun _ => u _ j 12 fun _ => u _ j 11 fun _ => u _ j 10 fun _ => u _ j 9 fun _ => u _ j 8 fun _ => u _ j 7 fun _ => u _ j 6 fun _ => u _ j 5 fun _ => u _ j 4 fun _ => u _ j 3 fun _ => u _ j 2 fun _ => u _ j 1 fun _ => u _ j 0 fun _ => ?_
    omega
  have eb : ∀ b, ¬ b = a + 1 → up2 (up2 (up2 (up2 (up2 (up2 (up2 (up2 (up2 (up2 (up2 (up2 (up2 (up2 I (a + 1) 0 0) (a + 1) 1 0) (a + 1) 2 0) (a + 1) 3 0) (a + 1) 4 0) (a + 1) 5 0) (a + 1) 6 0) (a + 1) 7 0) (a + 1) 8 0) (a + 1) 9 0) (a + 1) 10 0) (a + 1) 11 0) (a + 1) 12 0) (a + 1) 13 0 b = I b := fun b hb => by
    rw [up2_b hb, up2_b hb, up2_b hb, up2_b hb, up2_b hb, up2_b hb, up2_b hb, up2_b hb, up2_b hb, up2_b hb, up2_b hb, up2_b hb, up2_b hb, up2_b hb]
  generalize up2 (up2 (up2 (up2 (up2 (up2 (up2 (up2 (up2 (up2 (up2 (up2 (up2 (up2 I (a + 1) 0 0) (a + 1) 1 0) (a + 1) 2 0) (a + 1) 3 0) (a + 1) 4 0) (a + 1) 5 0) (a + 1) 6 0) (a + 1) 7 0) (a + 1) 8 0) (a + 1) 9 0) (a + 1) 10 0) (a + 1) 11 0) (a + 1) 12 0) (a + 1) 13 0 = Y at e1 eb
  rw [show a + 1 + 1 = a + 2 from rfl, fill_ok hz (by decide) (by omega), Option.bind_some]
  dsimp only
  unfold f61
  rw [show a + 1 + 2 = a + 3 from rfl]
  refine Ok.bind (P := fun _ J => J = up2 (up2 (fl Y (a + 2) 4 0) (a + 3) 0 0) (a + 3) 1 0) (Ok.w (Ok.w (Ok.ret rfl))) fun v J hJ => ?_
  subst hJ
  refine Ok.ret ⟨fun b h1 h2 h3 => ?_, fun k hk => ?_, fun k hk => ?_, ?_, ?_⟩
  · dsimp only
    rw [up2_b h3, up2_b h3, fl_b h2, eb b h1]
  · dsimp only
    rw [up2_b (by omega), up2_b (by omega), fl_b (by omega)]
    exact e1 k hk
  · dsimp only
    rw [up2_b (by omega), up2_b (by omega), fl_at hk]
  · dsimp only
    rw [up2_ne (by omega), up2_eq]
  · dsimp only
    rw [up2_eq]
/-- whether one is told for a step -/
theorem K76_l {k : Nat} {s : Int32} (hK : okK q K) (h0 : I k 0 = K 10 0) (h2 : ∀ j, j < q → I (k + 2) j = K 12 j) : ∀ (n i F : Nat), i + n = 21 → n < F → f76_b2 kad N Z F k s (Int32.ofNat i) I = some ((if sTold K s n i = true then 1 else 0), I) := by
  have hq := hK.2.1
  intro n
  induction n with
  | zero =>
    intro i F hi hF
    obtain ⟨F, rfl⟩ : ∃ G, F = G + 1 := ⟨F - 1, by omega⟩
    unfold f76_b2 f76_b34 sTold
    rw [h0, hK.1, if_pos ((of_le (by omega) (by omega)).mpr (by omega)), if_neg (by decide)]
  | succ n ih =>
    intro i F hi hF
    obtain ⟨F, rfl⟩ : ∃ G, F = G + 1 := ⟨F - 1, by omega⟩
    unfold f76_b2 f76_b34 sTold
    rw [h0, hK.1]
    by_cases hqi : q ≤ i
    · have e := (of_le (m := q) (n := i) (by omega) (by omega)).mpr hqi
      rw [if_pos e, if_pos e, if_neg (by decide)]
    · have e : ¬ Int32.ofNat q ≤ Int32.ofNat i := fun h => hqi ((of_le (by omega) (by omega)).mp h)
      rw [if_neg e, if_neg e, if_neg (show ¬ (20 : Int32) ≤ Int32.ofNat i from fun h => absurd ((of_le (m := 20) (by decide) (by omega)).mp h) (by omega)), if_neg (show ¬ 20 ≤ i by omega), ixA_of (by omega), Option.bind_some, h2 i (by omega)]
      by_cases ht : K 12 i = s
      · rw [if_neg (fun h => h ht), if_pos ht, if_pos rfl]
      · rw [if_pos ht, if_neg ht, of_s]
        exact ih (i + 1) F (by omega) (by omega)
theorem K76 (hN : 2000 ≤ N) {k : Nat} {s : Int32} (hK : okK q K) (h0 : I k 0 = K 10 0) (h2 : ∀ j, j < q → I (k + 2) j = K 12 j) : f76 kad N Z k s I = some ((if sTold K s 21 0 = true then 1 else 0), I) := K76_l hK h0 h2 21 0 N rfl (by omega)
/-- the keys, in the class -/
def CK (q a : Nat) (K I : AI) : Prop := I (a + 10) 0 = K 10 0 ∧ ∀ k, k < q → I (a + 11) k = K 11 k ∧ I (a + 12) k = K 12 k
theorem RM.of {X : AI} (hK : okK q K) (hk : CK q a K I) (hX : ∀ c, 10 ≤ c ∧ c ≤ 12 → X c = K c) (h1 : ∀ k, k < 14 → I (a + 1) k = X 1 k) (h2 : ∀ k, k < 4 → I (a + 2) k = X 2 k) (h3 : X 3 0 = 0 ∧ X 3 1 = 0) (h3' : I (a + 3) 0 = 0 ∧ I (a + 3) 1 = 0) (h6 : ∀ k, k < 256 → I (a + 6) k = X 6 k) (h7 : X 1 12 = 0) (h8 : I (a + 8) 1 = X 8 1) (h9 : ∀ k, k < 256 → I (a + 9) k = X 9 k) : RM a I X := by
  have z : nT 0 = 0 := by decide
  intro c k hc hr
  have hv := rel_vc hr
  rcases (show c = 1 ∨ c = 2 ∨ c = 3 ∨ c = 4 ∨ c = 5 ∨ c = 6 ∨ c = 7 ∨ c = 8 ∨ c = 9 ∨ c = 10 ∨ c = 11 ∨ c = 12 ∨ c = 13 ∨ c = 14 ∨ c = 15 ∨ c = 16 by omega) with rfl | rfl | rfl | rfl | rfl | rfl | rfl | rfl | rfl | rfl | rfl | rfl | rfl | rfl | rfl | rfl
  · exact h1 k hr
  · exact h2 k hr
  · have hr : k < 2 := hr
    by_cases hk0 : k = 0
    · rw [hk0, h3'.1, h3.1]
    · rw [show k = 1 from by omega, h3'.2, h3.2]
  · have : k < nT (X 3 0) ∧ k < 3 := hr
    rw [h3.1, z] at this; omega
  · have : k < 8 * nT (X 3 0) ∧ k < 24 := hr
    rw [h3.1, z] at this; omega
  · exact h6 k hr
  · have : k < nT (X 1 12) ∧ k < 60 := hr
    rw [h7, z] at this; omega
  · have : k = 1 := hr
    subst this
    exact h8
  · exact h9 k hr
  · have : k = 0 := hr
    subst this
    rw [hX 10 (by decide)]
    exact hk.1
  · have hr : k < nT (X 10 0) ∧ k < 20 := hr
    rw [hX 10 (by decide), hK.1, nT_of (by have := hK.2.1; omega)] at hr
    rw [hX 11 (by decide)]
    exact (hk.2 k hr.1).1
  · have hr : k < nT (X 10 0) ∧ k < 20 := hr
    rw [hX 10 (by decide), hK.1, nT_of (by have := hK.2.1; omega)] at hr
    rw [hX 12 (by decide)]
    exact (hk.2 k hr.1).2
  · exact absurd hr (by simp [rel])
  · have : (0 : Nat) = 1 ∧ k < 256 := hr
    omega
  · have : (0 : Nat) = 1 ∧ k < 32 := hr
    omega
  · have : (0 : Nat) = 2 ∧ k < 8 := hr
    omega
/-- the class's keys and disk, read off its machine -/
theorem RM.ck {X : AI} (H : RM a I X) (hK : okK q X) : CK q a X I := by
  have hq := hK.2.1
  have e : nT (X 10 0) = q := by rw [hK.1]; exact nT_of (by omega)
  refine ⟨H 10 0 (by decide) rfl, fun k hk => ⟨H 11 k (by decide) ?_, H 12 k (by decide) ?_⟩⟩
  · show k < nT (X 10 0) ∧ k < 20
    omega
  · show k < nT (X 10 0) ∧ k < 20
    omega
theorem CK.cong {L : AI} (h : CK q a K I) (h0 : L 10 = K 10) (h1 : L 11 = K 11) (h2 : L 12 = K 12) : CK q a L I := by
  unfold CK at h ⊢
  rw [h0, h1, h2]
  exact h
theorem RM.up9 {X : AI} (H : RM a I X) : RM a (up2 I (a + 1) 9 1) (up2 X 1 9 1) := by
  intro c k hc hr
  have hr' : rel 0 X c k := (rel_up (by decide)).mp hr
  by_cases h : c = 1 ∧ k = 9
  · obtain ⟨rfl, rfl⟩ := h
    rw [up2_eq, up2_eq]
  · rw [up2_ne (fun hh => h ⟨by omega, hh.2⟩), up2_ne h]
    exact H c k hc hr'
/-- keys come -/
theorem K85 (hN : 2000 ≤ N) {X : AI} (H : RM a I X) (hK : okK q X) : Ok (f85 kad N Z a I) (fun _ J => RM a J (sKeys X) ∧ (∀ b, ¬ b = a + 1 → J b = I b)) := by
  have hk := H.ck hK
  unfold f85 f85_b25
  rw [H 1 2 (by decide) (show 2 < 14 by decide), K76 hN hK hk.1 (fun j hj => (hk.2 j hj).2), Option.bind_some]
  dsimp only
  unfold sKeys
  by_cases ht : sTold X (X 1 2) 21 0 = true
  · rw [if_pos ht, if_pos ht, if_neg (by decide)]
    exact Ok.w (Ok.ret ⟨H.up9, fun b hb => up2_b hb⟩)
  · rw [if_neg ht, if_neg ht, if_pos rfl]
    exact Ok.ret ⟨H, fun _ _ => rfl⟩
theorem C81 (hN : 2000 ≤ N) (ha : sh8 kad Z a) (hK : okK q K) (hk : CK q a K I) (hD : ∀ k, k < 256 → I (a + 9) k = D k) (hW : I (a + 8) 1 = W) : Ok (f81 kad N Z a I) (fun _ J => RM a J (ov K (offm D W)) ∧ (∀ b, ¬ (b = a + 1 ∨ b = a + 2 ∨ b = a + 3 ∨ b = a + 6) → J b = I b)) := by
  unfold f81
  refine (C37 hN (sh2_a14 (sh8_s0 ha))).bind fun v J ⟨s1, s2, s3, s4, s5⟩ => ?_
  dsimp only
  rw [fill_ok (sh8_a1 ha) (by decide) (by omega), Option.bind_some]
  have f : ∀ b, ¬ b = a + 6 → fl J (a + 6) 256 0 b = J b := fun b hb => fl_b hb
  refine Ok.ret ⟨RM.of hK ⟨?_, fun k hk' => ?_⟩ (fun c hc => ov_k hc) (fun k hk' => ?_) (fun k hk' => ?_) ⟨?_, ?_⟩ ⟨?_, ?_⟩ (fun k hk' => ?_) ?_ ?_ (fun k hk' => ?_), fun b hb => ?_⟩
  · dsimp only
    rw [f _ (by omega), s1 _ (by omega) (by omega) (by omega)]; exact hk.1
  · dsimp only
    rw [f _ (by omega), s1 _ (by omega) (by omega) (by omega), f _ (by omega), s1 _ (by omega) (by omega) (by omega)]; exact hk.2 k hk'
  · dsimp only
    rw [f _ (by omega), s2 k hk', ov_r1]; rfl
  · dsimp only
    rw [f _ (by omega), s3 k hk', ov_r2]; rfl
  · rw [ov_r3]; rfl
  · rw [ov_r3]; rfl
  · dsimp only
    rw [f _ (by omega)]; exact s4
  · dsimp only
    rw [f _ (by omega)]; exact s5
  · dsimp only
    rw [fl_at hk', ov_r6]; rfl
  · rw [ov_r1]; rfl
  · dsimp only
    rw [f _ (by omega), s1 _ (by omega) (by omega) (by omega), ov_r8]; exact hW
  · dsimp only
    rw [f _ (by omega), s1 _ (by omega) (by omega) (by omega), ov_r9]; exact hD k hk'
  · dsimp only
    rw [f _ (by omega), s1 _ (by omega) (by omega) (by omega)]
theorem C80 (hN : 2000 ≤ N) (ha : sh8 kad Z a) (hK : okK q K) (hk : CK q a K I) (hm : MD D r D') (hD : ∀ k, k < 256 → I (a + 9) k = D k) (hW : I (a + 8) 1 = W) {b : Nat} (hz : Z.1 b = some (100, 256)) (hb : b ≤ a ∨ a + 17 ≤ b) (hM : ∀ k, k < 256 → I b k = M k) : Ok (f80 kad N Z a b I) (fun v J => v = Int32.ofNat r ∧ RM a J (sKeys (ov K (wake M D' (W + Int32.ofNat r)))) ∧ (∀ c, ¬ (c = a + 1 ∨ c = a + 2 ∨ c = a + 3 ∨ c = a + 6 ∨ c = a + 8 ∨ c = a + 9) → J c = I c)) := by
  obtain ⟨E, e1, e2⟩ := C46 (kad := kad) (N := N) (Z := Z) (I := I) (d := a + 8) hN hm hD (sh3_a0 (sh8_s3 ha))
  unfold f80
  rw [e1, Option.bind_some]
  dsimp only
  have m1 : ∀ c, ¬ c = a + 8 → ¬ c = a + 9 → memf (up2 I (a + 8) 1 (I (a + 8) 1 + Int32.ofNat r)) (a + 8 + 1) E c = I c := fun c h1 h2 => by
    rw [memf_b h2, up2_b h1]
  have m2 : memf (up2 I (a + 8) 1 (I (a + 8) 1 + Int32.ofNat r)) (a + 8 + 1) E (a + 9) = E := memf_at
  have m3 : memf (up2 I (a + 8) 1 (I (a + 8) 1 + Int32.ofNat r)) (a + 8 + 1) E (a + 8) 1 = W + Int32.ofNat r := by
    rw [memf_b (by omega), up2_eq, hW]
  generalize memf (up2 I (a + 8) 1 (I (a + 8) 1 + Int32.ofNat r)) (a + 8 + 1) E = Y at m1 m2 m3
  refine (C37 hN (sh2_a14 (sh8_s0 ha))).bind fun v J ⟨s1, s2, s3, s4, s5⟩ => ?_
  dsimp only
  refine Ok.w (Ok.w (Ok.w ?_))
  rw [nL_of hz (by decide), Option.bind_some, if_neg (fun h => h rfl)]
  rw [show cI Z (up2 (up2 (up2 J (a + 1) 0 1) (a + 1) 3 8) (a + 1) 4 256) b (0 : Int32) (a + 6) (0 : Int32) (256 : Int32) = some (cpI (up2 (up2 (up2 J (a + 1) 0 1) (a + 1) 3 8) (a + 1) 4 256) b (a + 6) 0 0 256) from cI_ok (s := 0) (d := 0) (n := 256) hz (sh8_a1 ha) (by decide) (by decide), Option.bind_some]
  unfold f80_b63
  have f6 : ∀ k, k < 256 → cpI (up2 (up2 (up2 J (a + 1) 0 1) (a + 1) 3 8) (a + 1) 4 256) b (a + 6) 0 0 256 (a + 6) k = M k := fun k hk' => by
    rw [cpI_at (by omega), up2_b (by omega), up2_b (by omega), up2_b (by omega), s1 _ (by omega) (by omega) (by omega), m1 _ (by omega) (by omega), show 0 + (k - 0) = k from by omega]
    exact hM k hk'
  have f1 : ∀ k, k < 14 → cpI (up2 (up2 (up2 J (a + 1) 0 1) (a + 1) 3 8) (a + 1) 4 256) b (a + 6) 0 0 256 (a + 1) k = wake M D' (W + Int32.ofNat r) 1 k := fun k hk' => by
    rw [cpI_b (by omega), wake_1]
    by_cases k4 : k = 4
    · rw [k4, up2_eq, if_neg (by decide), if_neg (by decide), if_pos rfl]
    · rw [up2_ne (fun hh => k4 hh.2)]
      by_cases k3 : k = 3
      · rw [k3, up2_eq, if_neg (by decide), if_pos rfl]
      · rw [up2_ne (fun hh => k3 hh.2)]
        by_cases k0 : k = 0
        · rw [k0, up2_eq, if_pos rfl]
        · rw [up2_ne (fun hh => k0 hh.2), if_neg k0, if_neg k3, if_neg k4]
          exact s2 k hk'
  have fo : ∀ c, ¬ c = a + 1 → ¬ c = a + 6 → cpI (up2 (up2 (up2 J (a + 1) 0 1) (a + 1) 3 8) (a + 1) 4 256) b (a + 6) 0 0 256 c = J c := fun c h1 h6 => by
    rw [cpI_b h6, up2_b h1, up2_b h1, up2_b h1]
  generalize cpI (up2 (up2 (up2 J (a + 1) 0 1) (a + 1) 3 8) (a + 1) 4 256) b (a + 6) 0 0 256 = Q at f6 f1 fo
  have HQ : RM a Q (ov K (wake M D' (W + Int32.ofNat r))) := by
    refine RM.of hK ⟨?_, fun k hk' => ?_⟩ (fun c hc => ov_k hc) (fun k hk' => ?_) (fun k hk' => ?_) ⟨?_, ?_⟩ ⟨?_, ?_⟩ (fun k hk' => ?_) ?_ ?_ (fun k hk' => ?_)
    · rw [fo _ (by omega) (by omega), s1 _ (by omega) (by omega) (by omega), m1 _ (by omega) (by omega)]; exact hk.1
    · rw [fo _ (by omega) (by omega), s1 _ (by omega) (by omega) (by omega), m1 _ (by omega) (by omega), fo _ (by omega) (by omega), s1 _ (by omega) (by omega) (by omega), m1 _ (by omega) (by omega)]; exact hk.2 k hk'
    · rw [f1 k hk', ov_r1]
    · rw [fo _ (by omega) (by omega), s3 k hk', ov_r2, wake_2]
    · rw [ov_r3, wake_3]
    · rw [ov_r3, wake_3]
    · rw [fo _ (by omega) (by omega)]; exact s4
    · rw [fo _ (by omega) (by omega)]; exact s5
    · rw [f6 k hk', ov_r6, wake_6]
    · rw [ov_r1, wake_1, if_neg (by decide), if_neg (by decide), if_neg (by decide)]
    · rw [fo _ (by omega) (by omega), s1 _ (by omega) (by omega) (by omega), m3, ov_r8]; rfl
    · rw [fo _ (by omega) (by omega), s1 _ (by omega) (by omega) (by omega), m2, ov_r9, wake_9]; exact e2 k hk'
  have hKo : okK q (ov K (wake M D' (W + Int32.ofNat r))) := by
    unfold okK at hK ⊢
    rw [ov_k (by decide), ov_k (by decide)]
    exact hK
  refine (K85 hN HQ hKo).bind fun v J1 ⟨H1, H2⟩ => ?_
  refine Ok.ret ⟨rfl, H1, fun c hc => ?_⟩
  dsimp only
  rw [H2 c (by omega), fo c (by omega) (by omega), s1 c (by omega) (by omega) (by omega), m1 c (by omega) (by omega)]
end CW2
