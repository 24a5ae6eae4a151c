/-! the model removes and renames; its results -/
section MG
variable {kad : Nat → Nat} {N : Nat} {Z : AZ} {m : Nat} {I J J0 : AI} {D W : Nat → Int32}
theorem M247_1 (zW : Z.1 (m + 25) = some (100, 256)) (hJ : MW m J0 J W) {S : Nat → Bool} {v x : Int32} (hv : mS v S) {t i F : Nat} (ht : t < 6) (hi : i < 4) (hx : W (40 + 4 * t + i) = x) (hw : wd x) (h32 : nT x < 32) (hb : ¬ x = 0 → uB W (nT x) = true) : ∃ J' v', MW m J0 J' (pOff x W) ∧ mS v' (if x = 0 then S else sA S 4) ∧ f247_b7 kad N Z (F + 1) m (Int32.ofNat t) v (Int32.ofNat i) J = f247_b7 kad N Z F m (Int32.ofNat t) v' (Int32.ofNat (i + 1)) J' := by
  have ex : J (m + 25) (40 + 4 * t + i) = x := (hJ.1 _ (by omega)).trans hx
  have hon := of_nT (wd_nn hw)
  rw [f247_b7, if_neg (show ¬ (4 : Int32) ≤ Int32.ofNat i from fun h => absurd ((of_le (m := 4) (by decide) (by omega)).mp h) (by omega)), M235, Option.bind_some]
  dsimp only
  rw [eA, ixA_of (by omega), Option.bind_some]
  unfold pOff f247_b44
  by_cases h0 : x = 0
  · refine ⟨J, v, ?_, ?_, ?_⟩
    · rw [if_pos h0]; exact hJ
    · rw [if_pos h0]; exact hv
    · rw [if_pos (ex.trans h0), of_s]
  · have hu := hb h0
    have h1 := hJ.up (k := 32 + nT x / 16) (v := J (m + 25) (32 + nT x / 16) ^^^ sMask (Int32.ofNat (nT x)))
    rw [hJ.1 _ (by omega), ← an_xor h32 (show dB (W (32 + nT x / 16)) (nT x % 16) = true from hu), show wP W (32 + nT x / 16) (W (32 + nT x / 16) &&& (sMask (Int32.ofNat (nT x)) ^^^ Int32.ofInt (-1))) = wOff W (nT x) from rfl] at h1
    refine ⟨up2 J (m + 25) (32 + nT x / 16) (J (m + 25) (32 + nT x / 16) ^^^ sMask (Int32.ofNat (nT x))), v ||| 16, ?_, ?_, ?_⟩
    · rw [if_neg h0, hJ.1 _ (by omega), ← an_xor h32 (show dB (W (32 + nT x / 16)) (nT x % 16) = true from hu)]
      exact h1
    · rw [if_neg h0]
      exact hv.or16
    · rw [if_neg (fun hh => h0 (ex.symm.trans hh)), ex]
      have e := M238 (kad := kad) (N := N) (I := J) zW h32
      rw [hon] at e
      rw [e, Option.bind_some, of_s, hon]
theorem M247 (hN : 2000 ≤ N) (zW : Z.1 (m + 25) = some (100, 256)) (hJ : MW m J0 J D) (hW : WF D) {t : Nat} (ht : t < 6) : Ok (f247 kad N Z m (Int32.ofNat t) J) (fun v J' => mS v (pRmS t D) ∧ MW m J0 J' (pRm t D)) := by
  obtain ⟨M, rfl⟩ : ∃ G, N = G + 5 := ⟨N - 5, by omega⟩
  obtain ⟨⟨hwd, hl⟩, hm, hi⟩ := hW
  have h2 := (hl t ht).b32 (i := 2) (Or.inl rfl)
  have h3 := (hl t ht).b32 (i := 3) (Or.inr rfl)
  unfold f247
  rw [M243 ht, Option.bind_some]
  dsimp only
  obtain ⟨J1, v1, g1, g2, g3⟩ := M247_1 (kad := kad) (N := M + 5) (F := M + 4) zW hJ (mS.one (b := 5 + t / 2) (by omega)) (i := 2) ht (by decide) rfl (hwd _ (by omega)) h2 (fun h0 => hm t 2 ht (Or.inl rfl) h0)
  obtain ⟨J2, v2, k1, k2, k3⟩ := M247_1 (kad := kad) (N := M + 5) (F := M + 3) (x := D (40 + 4 * t + 3)) zW g1 g2 (i := 3) ht (by decide) (pOff_hi (by omega) h2) (hwd _ (by omega)) h3 (fun h0 => by
    rw [uB_pOff h2 h3 (fun h0' hh => absurd (hi t 3 t 2 ht ht (Or.inr rfl) (Or.inl rfl) h0 (wd_inj (hwd _ (by omega)) (hwd _ (by omega)) hh)).2 (by decide))]
    exact hm t 3 ht (Or.inr rfl) h0)
  rw [show (2 : Int32) = Int32.ofNat 2 from rfl, g3, k3, f247_b7, if_pos (show (4 : Int32) ≤ Int32.ofNat (3 + 1) from by decide)]
  have fin : Ok (f247_b52 kad (M + 5) Z (M + 5) m (Int32.ofNat t) v2 0 J2) (fun v J' => v = v2 ∧ MW m J0 J' (pRm t D)) := by
    rw [f247_b52, if_neg (by decide), M235, Option.bind_some]
    dsimp only
    rw [show Int32.ofNat (40 + 4 * t) + (0 : Int32) = Int32.ofNat (40 + 4 * t + 0) from eA _ 0, ixA_of (by omega), Option.bind_some]
    refine Ok.w ?_
    rw [f247_b52, if_neg (by decide), M235, Option.bind_some]
    dsimp only
    rw [show Int32.ofNat (40 + 4 * t) + ((0 : Int32) + 1) = Int32.ofNat (40 + 4 * t + 1) from eA _ 1, ixA_of (by omega), Option.bind_some]
    refine Ok.w ?_
    rw [f247_b52, if_neg (by decide), M235, Option.bind_some]
    dsimp only
    rw [show Int32.ofNat (40 + 4 * t) + ((0 : Int32) + 1 + 1) = Int32.ofNat (40 + 4 * t + 2) from eA _ 2, ixA_of (by omega), Option.bind_some]
    refine Ok.w ?_
    rw [f247_b52, if_neg (by decide), M235, Option.bind_some]
    dsimp only
    rw [show Int32.ofNat (40 + 4 * t) + ((0 : Int32) + 1 + 1 + 1) = Int32.ofNat (40 + 4 * t + 3) from eA _ 3, ixA_of (by omega), Option.bind_some]
    refine Ok.w ?_
    rw [f247_b52, if_pos (by decide)]
    exact Ok.ret ⟨rfl, (((k1.up (k := 40 + 4 * t) (v := 0)).up (k := 40 + 4 * t + 1) (v := 0)).up (k := 40 + 4 * t + 2) (v := 0)).up (k := 40 + 4 * t + 3) (v := 0)⟩
  refine fin.mono fun v J' ⟨hv, hJ'⟩ => ⟨?_, hJ'⟩
  rw [hv]
  refine k2.cong fun c hc => ?_
  unfold pRmS
  by_cases a2 : D (40 + 4 * t + 2) = 0
  · rw [if_pos a2, if_pos a2]
    by_cases a3 : D (40 + 4 * t + 3) = 0
    · rw [if_pos a3, if_pos a3]
    · rw [if_neg a3, if_neg a3]
      simp only [sA_t]
      constructor
      · rintro ((h | h) | h)
        · exact Or.inl (Or.inl h)
        · exact Or.inr h
        · exact Or.inl (Or.inr h)
      · rintro ((h | h) | h)
        · exact Or.inl (Or.inl h)
        · exact Or.inr h
        · exact Or.inl (Or.inr h)
  · rw [if_neg a2, if_neg a2]
    by_cases a3 : D (40 + 4 * t + 3) = 0
    · rw [if_pos a3, if_pos a3]
      simp only [sA_t]
      constructor
      · rintro ((h | h) | h)
        · exact Or.inl (Or.inl h)
        · exact Or.inr h
        · exact Or.inl (Or.inr h)
      · rintro ((h | h) | h)
        · exact Or.inl (Or.inl h)
        · exact Or.inr h
        · exact Or.inl (Or.inr h)
    · rw [if_neg a3, if_neg a3]
      simp only [sA_t]
      constructor
      · rintro (((h | h) | h) | h)
        · exact Or.inl (Or.inl (Or.inl h))
        · exact Or.inr h
        · exact Or.inl (Or.inr h)
        · exact Or.inl (Or.inr h)
      · rintro (((h | h) | h) | h)
        · exact Or.inl (Or.inl (Or.inl h))
        · exact Or.inr h
        · exact Or.inr h
        · exact Or.inl (Or.inl (Or.inr h))
theorem mS.zero : mS 0 sN := fun b hb => by
  have e : ∀ k : Fin 32, dB 0 k.1 = false := by decide +kernel
  exact e ⟨b, hb⟩
theorem M248 (hN : 2000 ≤ N) (zD : Z.1 (m + 24) = some (100, 256)) (zW : Z.1 (m + 25) = some (100, 256)) (hD : ∀ k, k < 256 → J0 (m + 24) k = D k) (hJ : MW m J0 J D) (hW : WF D) {t : Nat} (ht : t < 6) {R : Int32} (hR : J0 (m + 16) 1 = R) : Ok (f248 kad N Z m (Int32.ofNat t) J) (fun v J' => mS v (sA (if sFind D R 7 0 < 6 then pRmS (sFind D R 7 0) D else sN) (5 + t / 2)) ∧ MW m J0 J' (wP (if sFind D R 7 0 < 6 then pRm (sFind D R 7 0) D else D) (40 + 4 * t) R)) := by
  have ix1 : ixA 4 (1 : Int32) = some 1 := by decide
  have tail : ∀ (J1 : AI) (W : Nat → Int32) (S : Nat → Bool) (v : Int32), mS v S → MW m J0 J1 W → Ok (f248_b28 kad N Z m (Int32.ofNat t) v J1) (fun v J' => mS v (sA S (5 + t / 2)) ∧ MW m J0 J' (wP W (40 + 4 * t) R)) := fun J1 W S v hv hJ1 => by
    unfold f248_b28
    rw [M235, Option.bind_some, ix1, Option.bind_some]
    dsimp only
    rw [ixA_of (by omega), Option.bind_some]
    refine Ok.w ?_
    rw [M243 ht, Option.bind_some]
    refine Ok.ret ⟨hv.or1 (by omega), ?_⟩
    have h := hJ1.up (k := 40 + 4 * t) (v := J1 (m + 16) 1)
    rw [hJ1.2 (m + 16) (by omega), hR] at h
    rw [hJ1.2 (m + 16) (by omega), hR]
    exact h
  unfold f248
  rw [ix1, Option.bind_some, hJ.2 (m + 16) (by omega), hR, M236 (D := D) hN zD (fun k hk => by rw [hJ.2 _ (by omega)]; exact hD k hk), Option.bind_some]
  dsimp only
  by_cases ho : sFind D R 7 0 < 6
  · rw [if_pos ho, if_pos ho, if_pos ho]
    generalize sFind D R 7 0 = o at ho
    rw [if_pos (show ¬ Int32.ofNat o = Int32.ofInt (-1) from fun h => of_nn (n := o) (by omega) (by rw [h]; decide))]
    exact (M247 hN zW hJ hW ho).bind fun v J1 ⟨hv, hJ1⟩ => tail _ _ _ _ hv hJ1
  · rw [if_neg ho, if_neg ho, if_neg ho, if_neg (fun h => h rfl)]
    exact tail _ _ _ _ mS.zero hJ
/-- the result of a call -/
theorem M240 (hN : 2000 ≤ N) (zD : Z.1 (m + 24) = some (100, 256)) {X : AI} (hR : ∀ k, k < 4 → I (m + 16) k = X 2 k) (hD : ∀ k, k < 256 → I (m + 24) k = X 9 k) (hw : wdk X) (hW : LW (X 9)) {call : Int32} (hc : ¬ call < 0) : f240 kad N Z m call (if sFind (X 9) (X 2 0) 7 0 < 6 then Int32.ofNat (sFind (X 9) (X 2 0) 7 0) else Int32.ofInt (-1)) I = some (sFileR call X, I) := by
  have ix0 : ixA 4 (0 : Int32) = some 0 := by decide
  have ix1 : ixA 4 (1 : Int32) = some 1 := by decide
  have r0 := hR 0 (by decide)
  have r1 := hR 1 (by decide)
  have hfi : ∀ o, o < 6 → ¬ Int32.ofNat o = Int32.ofInt (-1) := fun o ho h => of_nn (n := o) (by omega) (by rw [h]; decide)
  -- how the flag tells whether there is none
  have main : ∀ s0 : Int32, (s0 = 0 ∨ s0 = 1) → (s0 = 0 ↔ sE X < 6) → f240_b19 kad N Z m call (if sFind (X 9) (X 2 0) 7 0 < 6 then Int32.ofNat (sFind (X 9) (X 2 0) 7 0) else Int32.ofInt (-1)) s0 I = some (sFileR call X, I) := fun s0 hs01 hs => by
    unfold f240_b19 sFileR sRefuse
    rw [if_neg hc]
    by_cases c0 : call = 0
    · rw [if_neg (show ¬ ¬ call = 0 from fun h => h c0), if_pos (show call ≤ 6 from by rw [c0]; decide), if_pos c0, ix0, Option.bind_some]
      unfold f240_b38 f240_b59
      by_cases h0 : X 2 0 = 0
      · rw [if_pos (r0.trans h0), if_pos (Or.inr h0)]
      · rw [if_neg (fun hh => h0 (r0.symm.trans hh))]
        have eE : sE X = sFind (X 9) (X 2 0) 7 0 := by unfold sE; rw [if_neg h0]
        rw [eE]
        by_cases ho : sFind (X 9) (X 2 0) 7 0 < 6
        · rw [if_pos ho, if_neg (hfi _ ho), if_pos (Or.inl ho)]
        · rw [if_neg ho, if_pos rfl, if_neg (show ¬ (sFind (X 9) (X 2 0) 7 0 < 6 ∨ X 2 0 = 0) from fun h => h.elim ho h0), M236 (D := X 9) hN zD hD, Option.bind_some]
          by_cases h6 : sFind (X 9) 0 7 0 < 6
          · rw [if_pos h6, if_pos h6, if_pos (hfi _ h6)]
          · rw [if_neg h6, if_neg h6, if_neg (fun h => h rfl)]
    rw [if_pos c0, if_neg c0]
    by_cases c6 : call ≤ 6
    · rw [if_pos c6, if_pos c6]
      by_cases ht : sE X < 6
      · have hs0 := hs.mpr ht
        rw [if_neg (fun h => h hs0)]
        have eE : sE X = sFind (X 9) (X 2 0) 7 0 := by
          unfold sE at ht ⊢
          split
          · rename_i h; rw [if_pos h] at ht; omega
          · rfl
        rw [← eE, if_pos ht]
        generalize sE X = t at ht
        have hsz := wd_nn (hw.1 (40 + 4 * t + 1) (by omega))
        have hl16 := (hW.2 t ht).2.1
        have body : f240_b90 kad N Z m call (Int32.ofNat t) I = some (if call = 1 then (if (16 : Int32) ≤ X 9 (40 + 4 * t + 1) then 2 else if nT (X 9 (40 + 4 * t + 1)) % 8 = 0 ∧ ¬ sFree (X 9) 25 8 < 32 then 3 else 0) else if (call = 2 ∨ call = 3) ∧ X 9 (40 + 4 * t + 1) ≤ X 2 1 then 2 else 0, I) := by
          unfold f240_b90
          rw [M235, Option.bind_some]
          dsimp only
          rw [of_s, ixA_of (by omega), Option.bind_some]
          have ex : I (m + 24) (40 + 4 * t + 1) = X 9 (40 + 4 * t + 1) := hD _ (by omega)
          unfold f240_b139 f240_b140 f240_b151 f240_b166 f240_b167
          by_cases c1 : call = 1
          · rw [if_neg (show ¬ ¬ call = 1 from fun h => h c1), if_pos c1]
            by_cases h16 : (16 : Int32) ≤ X 9 (40 + 4 * t + 1)
            · have e16 : X 9 (40 + 4 * t + 1) = 16 := by
                rw [← of_nT hsz] at h16 ⊢
                have := (of_le (m := 16) (by decide) (by omega)).mp h16
                rw [show nT (X 9 (40 + 4 * t + 1)) = 16 by omega]
                rfl
              rw [if_pos h16, if_neg (show ¬ ¬ I (m + 24) (40 + 4 * t + 1) = 16 from fun h => h (ex.trans e16))]
            · rw [if_neg h16, if_pos (show ¬ I (m + 24) (40 + 4 * t + 1) = 16 from fun h => h16 (by rw [← ex, h]; decide))]
              have em : I (m + 24) (40 + 4 * t + 1) - I (m + 24) (40 + 4 * t + 1) / (8 : Int32) * (8 : Int32) = Int32.ofNat (nT (X 9 (40 + 4 * t + 1)) % 8) := by
                rw [ex]
                exact mod8 hsz
              by_cases h8 : nT (X 9 (40 + 4 * t + 1)) % 8 = 0
              · rw [if_neg (show ¬ ¬ I (m + 24) (40 + 4 * t + 1) - I (m + 24) (40 + 4 * t + 1) / (8 : Int32) * (8 : Int32) = 0 from fun hh => hh (by rw [em, h8]; rfl)), M239 (D := X 9) hN zD hD, Option.bind_some]
                by_cases hf : sFree (X 9) 25 8 < 32
                · rw [if_pos hf, if_pos (show ¬ Int32.ofNat (sFree (X 9) 25 8) = Int32.ofInt (-1) from fun h => of_nn (n := sFree (X 9) 25 8) (by omega) (by rw [h]; decide)), if_neg (fun h => h.2 hf)]
                · rw [if_neg hf, if_neg (fun h => h rfl), if_pos ⟨h8, hf⟩]
              · rw [if_pos (show ¬ I (m + 24) (40 + 4 * t + 1) - I (m + 24) (40 + 4 * t + 1) / (8 : Int32) * (8 : Int32) = 0 from fun hh => h8 ((of_inj (n := 0) (by omega) (by decide)).mp (em.symm.trans hh))), if_neg (fun h => h8 h.1)]
          · rw [if_pos c1, if_neg c1]
            have cmp : (call = 2 ∨ call = 3) → ((ixA 4 (1 : Int32)).bind fun j156_1 => if I (m + 16) j156_1 < I (m + 24) (40 + 4 * t + 1) then some ((0 : Int32), I) else some ((2 : Int32), I)) = some (if (call = 2 ∨ call = 3) ∧ X 9 (40 + 4 * t + 1) ≤ X 2 1 then 2 else 0, I) := fun h23 => by
              rw [ix1, Option.bind_some]
              by_cases hlt : X 2 1 < X 9 (40 + 4 * t + 1)
              · rw [if_pos (show I (m + 16) 1 < I (m + 24) (40 + 4 * t + 1) from by rw [r1, ex]; exact hlt), if_neg (show ¬ ((call = 2 ∨ call = 3) ∧ X 9 (40 + 4 * t + 1) ≤ X 2 1) from fun h => by have := h.2; grind)]
              · rw [if_neg (show ¬ I (m + 16) 1 < I (m + 24) (40 + 4 * t + 1) from by rw [r1, ex]; exact hlt), if_pos (show (call = 2 ∨ call = 3) ∧ X 9 (40 + 4 * t + 1) ≤ X 2 1 from ⟨h23, by grind⟩)]
            by_cases c2 : call = 2
            · rw [if_pos c2]
              exact cmp (Or.inl c2)
            · rw [if_neg c2]
              by_cases c3 : call = 3
              · rw [if_neg (show ¬ ¬ call = 3 from fun h => h c3)]
                exact cmp (Or.inr c3)
              · rw [if_pos c3, if_neg (show ¬ ((call = 2 ∨ call = 3) ∧ X 9 (40 + 4 * t + 1) ≤ X 2 1) from fun h => h.1.elim c2 c3)]
        unfold f240_b88
        by_cases cc : call = 6
        · rw [if_neg (show ¬ ¬ call = 6 from fun h => h cc), ix1, Option.bind_some]
          by_cases hz : X 2 1 = 0
          · rw [if_neg (show ¬ ¬ I (m + 16) 1 = 0 from fun h => h (r1.trans hz)), if_pos (Or.inr ⟨cc, hz⟩)]
          · rw [if_pos (show ¬ I (m + 16) 1 = 0 from fun h => hz (r1.symm.trans h)), if_neg (show ¬ (¬ t < 6 ∨ (call = 6 ∧ X 2 1 = 0)) from fun h => h.elim (fun h => h ht) (fun h => hz h.2))]
            exact body
        · rw [if_pos cc, if_neg (show ¬ (¬ t < 6 ∨ (call = 6 ∧ X 2 1 = 0)) from fun h => h.elim (fun h => h ht) (fun h => cc h.1))]
          exact body
      · rw [if_pos (show ¬ s0 = 0 from fun h => ht (hs.mp h)), if_pos (Or.inl ht)]
        rfl
    · rw [if_neg c6, if_neg c6]
  unfold f240 f240_b14
  rw [ix0, Option.bind_some]
  by_cases h0 : X 2 0 = 0
  · rw [if_pos (r0.trans h0)]
    refine main 1 (Or.inr rfl) ⟨fun h => absurd h (by decide), fun h => ?_⟩
    unfold sE at h
    rw [if_pos h0] at h
    omega
  · rw [if_neg (fun hh => h0 (r0.symm.trans hh))]
    have eE : sE X = sFind (X 9) (X 2 0) 7 0 := by unfold sE; rw [if_neg h0]
    by_cases ho : sFind (X 9) (X 2 0) 7 0 < 6
    · have := main 0 (Or.inl rfl) ⟨fun _ => by rw [eE]; exact ho, fun _ => rfl⟩
      rw [if_pos ho] at this ⊢
      rw [if_pos (hfi _ ho)]
      exact this
    · have := main 1 (Or.inr rfl) ⟨fun h => absurd h (by decide), fun h => absurd (by rw [← eE]; exact h) ho⟩
      rw [if_neg ho] at this ⊢
      rw [if_neg (fun h => h rfl)]
      exact this
end MG
