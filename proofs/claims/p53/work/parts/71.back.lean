/-! steps are taken back, by both -/
/-- the rows of a start -/
def CS (g : Nat) (M D : Nat → Int32) (I : AI) : Prop := ∀ k, k < 256 → I (g + 141) k = M k ∧ I (g + 142) k = D k
def MS (m : Nat) (M D : Nat → Int32) (W : Int32) (I : AI) : Prop := (∀ k, k < 256 → I (m + 26) k = M k ∧ I (m + 27) k = D k) ∧ I m 55 = W
section BK
variable {kad : Nat → Nat} {N : Nat} {Z : AZ} {g m q s kc : Nat} {I : AI} {K B : AI} {M D : Nat → Int32} {W : Int32}
theorem K138 {i a b : Int32} : f138 kad N Z i a b I = some (if i < a ∨ b < i then .inr (aEC 0) else .inl (), I) := by
  unfold f138 f138_b10
  by_cases h1 : i < a
  · rw [if_pos h1, if_pos (Or.inl h1)]
  · rw [if_neg h1]
    by_cases h2 : i ≤ b
    · rw [if_pos h2, if_neg (fun hh => hh.elim h1 (fun h => absurd h2 (Int32.not_le.mpr h)))]
    · rw [if_neg h2, if_pos (Or.inr (Int32.not_le.mp h2))]
theorem K165 {X : AI} (H : RM (g + 114) I X) : f165 kad N Z g I = some (if X 1 0 = 0 then .inr (aEC 1) else .inl (), I) := by
  unfold f165
  rw [show I (g + 115) 0 = X 1 0 from H 1 0 (by decide) (show 0 < 14 by decide)]
  by_cases h : X 1 0 = 0
  · rw [if_neg (fun hh => hh h), if_pos h]
  · rw [if_pos h, if_neg h]
/-- one step is taken back -/
theorem CG.back (hN : 2000 ≤ N) (hg : sh10 kad Z g) (hI : ∀ j, Inv q j (tr K B j)) (H : CG g K B (s + 1) (kc + 1) I) (hs : s < 1000) (hk : kc < 200) : Ok (f84 kad N Z (g + 114) (g + (182 + 9 * (s % 200))) I) (fun _ J => CG g K B s kc (up2 J g 5 (Int32.ofNat kc)) ∧ J g = I g ∧ frC g I (up2 J g 5 (Int32.ofNat kc))) := by
  have hu := (hI s).ud
  rw [← tr_s] at hu
  obtain ⟨u1, u2, u3⟩ := hu.fin (hI s).1.1.1.1
  have hκ : sh5 kad Z (g + (182 + 9 * (s % 200))) := sh10_f4 hg _ (by omega)
  refine (C84 hN (sh10_s3 hg) hκ (by omega) H.1 (H.2.2 s (by omega) (by omega)) u1 u3).mono fun v J ⟨h1, h2⟩ => ?_
  have eg : J g = I g := h2 g (by omega)
  refine ⟨⟨(u2 J _ h1).cong (fun b b1 b2 => up2_b (by omega)), up2_eq, fun j j1 j2 => ?_⟩, eg, fun b b1 b2 b3 => ?_, fun j hj => ?_⟩
  · refine (H.2.2 j (by omega) (by omega)).cong (fun b b1 b2 => ?_)
    rw [up2_b (by omega)]
    exact h2 b (by omega)
  · rw [up2_b b1]
    exact h2 b (by omega)
  · rw [up2_ne (fun hh => hj hh.2), eg]
theorem C148_l (hN : 2000 ≤ N) (hg : sh10 kad Z g) (hI : ∀ j, Inv q j (tr K B j)) (hB : B 1 2 = 0) {n : Nat} (hn : n ≤ 200) : ∀ (r i s kc F : Nat) (I : AI), CG g K B s kc I → i + r = n → r < F → s ≤ 1000 → kc ≤ 200 → kc ≤ s → Ok (f148_b14 kad N Z F g (Int32.ofNat n) (Int32.ofNat i) I) (fun v J => v = .inl (Int32.ofNat (i + min r kc)) ∧ CG g K B (s - min r kc) (kc - min r kc) J ∧ frC g I J) := by
  intro r
  induction r with
  | zero =>
    intro i s kc F I H hi hF hs hk hks
    obtain ⟨F, rfl⟩ : ∃ G, F = G + 1 := ⟨F - 1, by omega⟩
    unfold f148_b14 f148_b65
    rw [if_pos ((of_le (by omega) (by omega)).mpr (by omega)), Nat.zero_min]
    exact Ok.ret ⟨rfl, H, frC.rfl'⟩
  | succ r ih =>
    intro i s kc F I H hi hF hs hk hks
    obtain ⟨F, rfl⟩ : ∃ G, F = G + 1 := ⟨F - 1, by omega⟩
    unfold f148_b14 f148_b65
    rw [if_neg (fun h => absurd ((of_le (by omega) (by omega)).mp h) (by omega))]
    have e5 : I g 5 = Int32.ofNat kc := H.2.1
    by_cases hz : kc = 0
    · rw [if_pos (show I g 5 ≤ 0 from by rw [e5, hz]; decide), show min (r + 1) kc = 0 from by omega]
      exact Ok.ret ⟨rfl, H, frC.rfl'⟩
    · obtain ⟨kc, rfl⟩ : ∃ c, kc = c + 1 := ⟨kc - 1, by omega⟩
      obtain ⟨s, rfl⟩ : ∃ c, s = c + 1 := ⟨s - 1, by omega⟩
      have e2 : I (g + 115) 2 - 1 = Int32.ofNat s := by
        rw [show I (g + 115) 2 = tr K B (s + 1) 1 2 from H.1 1 2 (by decide) (show 2 < 14 by decide), tr_2 hB, ← of_s]
        grind
      rw [if_neg (show ¬ I g 5 ≤ 0 from by rw [e5]; exact fun h => absurd ((of_le (n := 0) (by omega) (by decide)).mp h) (by omega)), e2, K167 (by omega), Option.bind_some]
      dsimp only
      refine (H.back hN hg hI (by omega) (by omega)).bind fun v J ⟨h1, eg, h3⟩ => ?_
      dsimp only
      have e5' : J g 5 - 1 = Int32.ofNat kc := by
        rw [eg, e5, ← of_s]
        grind
      rw [e5', of_s]
      refine Ok.w ((ih (i + 1) s kc F _ h1 (by omega) (by omega) (by omega) (by omega) (by omega)).mono fun v Q ⟨a1, a2, a3⟩ => ⟨?_, ?_, h3.trans a3⟩)
      · rw [a1]; congr 2; omega
      · rw [show s + 1 - min (r + 1) (kc + 1) = s - min r kc from by omega, show kc + 1 - min (r + 1) (kc + 1) = kc - min r kc from by omega]
        exact a2
theorem C148 (hN : 2000 ≤ N) (hg : sh10 kad Z g) (hG : Gd q K B s kc) (H : CG g K B s kc I) {n : Nat} (hn : n ≤ 200) : Ok (f148_b14 kad N Z N g (Int32.ofNat n) 0 I) (fun v J => v = .inl (Int32.ofNat (min n kc)) ∧ CG g K B (s - min n kc) (kc - min n kc) J ∧ frC g I J) := by
  have := C148_l hN hg hG.1.1.trj hG.1.2 hn n 0 s kc N I H (by omega) (by omega) hG.2.1.2.2 hG.2.1.1 hG.2.1.2.1
  simp only [Nat.zero_add] at this
  exact this
theorem Gd.back (h : Gd q K B s kc) (n : Nat) : Gd q K B (s - min n kc) (kc - min n kc) := by
  obtain ⟨a, ⟨b1, b2, b3⟩, c⟩ := h
  exact ⟨a, ⟨by omega, by omega, by omega⟩, fun j hj => c j (by omega)⟩
theorem ML.kr {X : AI} (H : ML m I X) (hK : okK q X) : KR q m X I := by
  have hq := hK.2.1
  have e : nT (X 10 0) = q := by rw [hK.1]; exact nT_of (by omega)
  refine ⟨H.1 10 0 (by unfold mC; omega) rfl, fun k hk => ⟨H.1 11 k (by unfold mC; omega) ?_, H.1 12 k (by unfold mC; omega) ?_⟩⟩
  · show k < nT (X 10 0) ∧ k < 20
    omega
  · show k < nT (X 10 0) ∧ k < 20
    omega
theorem KR.cong {L : AI} (h : KR q m K I) (h0 : L 10 = K 10) (h1 : L 11 = K 11) (h2 : L 12 = K 12) : KR q m L I := by
  unfold KR at h ⊢
  rw [h0, h1, h2]
  exact h
theorem MG.kr (H : MG m K B s kc I) (hG : Gd q K B s kc) : KR q m K I := (H.1.kr (hG.1.1.trj s).2.1.1).cong (tr_key (by decide)).symm (tr_key (by decide)).symm (tr_key (by decide)).symm
theorem MS.o {j : Nat} {v : Int32} (h : MS m M D W I) (hj : ¬ j = 55) : MS m M D W (up2 I m j v) := ⟨fun k hk => by rw [up2_b (by omega), up2_b (by omega)]; exact h.1 k hk, by rw [up2_ne (fun hh => hj hh.2.symm)]; exact h.2⟩
end BK
