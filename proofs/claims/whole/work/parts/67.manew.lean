/-! the model makes all anew from the start -/
section MN
variable {kad : Nat → Nat} {N : Nat} {Z : AZ} {m q : Nat} {I : AI} {K : AI} {M D : Nat → Int32} {W : Int32}
theorem M255_l {a b : Nat} (za : Z.1 a = some (100, 256)) (zb : Z.1 b = some (100, 256)) (hab : ¬ a = b) : ∀ (q i F : Nat) (J : AI), i + q = 256 → q < F → f255_b2 kad N Z F a b (Int32.ofNat i) (cpI J a b 0 0 i) = some ((), cpI J a b 0 0 256) := by
  intro q
  induction q with
  | zero =>
    intro i F J hi hF
    obtain ⟨F, rfl⟩ : ∃ G, F = G + 1 := ⟨F - 1, by omega⟩
    rw [show i = 256 from by omega]
    unfold f255_b2
    rw [if_pos (show (256 : Int32) ≤ Int32.ofNat 256 from by decide)]
  | succ q ih =>
    intro i F J hi hF
    obtain ⟨F, rfl⟩ : ∃ G, F = G + 1 := ⟨F - 1, by omega⟩
    unfold f255_b2
    rw [if_neg (show ¬ (256 : Int32) ≤ Int32.ofNat i from fun h => absurd ((of_le (m := 256) (by decide) (by omega)).mp h) (by omega)), lI_at za (by omega), Option.bind_some, sI_at zb (by omega) (by decide), Option.bind_some, show cpI J a b 0 0 i a i = J a i from congrFun (cpI_b hab) i, cpI_s hab, of_s]
    exact ih (i + 1) F J (by omega) (by omega)
theorem M255 (hN : 2000 ≤ N) {a b : Nat} (za : Z.1 a = some (100, 256)) (zb : Z.1 b = some (100, 256)) (hab : ¬ a = b) : f255 kad N Z a b I = some ((), cpI I a b 0 0 256) := by
  unfold f255
  have h := M255_l (kad := kad) (N := N) za zb hab 256 0 N I rfl (by omega)
  rwa [cpI_0] at h
/-- what steps may change -/
def TW (m b j : Nat) : Prop := (b = m ∧ (j = 23 ∨ j = 24 ∨ (27 ≤ j ∧ j ≤ 35) ∨ (37 ≤ j ∧ j ≤ 39) ∨ j = 46 ∨ j = 47 ∨ j = 52)) ∨ (b = m + 15 ∨ b = m + 16 ∨ b = m + 17 ∨ b = m + 20 ∨ b = m + 21 ∨ b = m + 22 ∨ b = m + 23 ∨ b = m + 24 ∨ b = m + 25)
theorem Tm.tw {s b j : Nat} (h : Tm m s b j) : TW m b j := by
  rcases h with h | h | ⟨h, -⟩
  · exact Or.inl h
  · rcases h with h | h | h | h | h | h | h
    · exact Or.inr (Or.inl h)
    · exact Or.inr (Or.inr (Or.inl h))
    · exact Or.inr (Or.inr (Or.inr (Or.inl h)))
    · exact Or.inr (Or.inr (Or.inr (Or.inr (Or.inr (Or.inr (Or.inl h))))))
    · exact Or.inr (Or.inr (Or.inr (Or.inr (Or.inr (Or.inr (Or.inr (Or.inl h)))))))
    · exact Or.inr (Or.inr (Or.inr (Or.inr (Or.inr (Or.inr (Or.inr (Or.inr (Or.inl h))))))))
    · exact Or.inr (Or.inr (Or.inr (Or.inr (Or.inr (Or.inr (Or.inr (Or.inr (Or.inr h))))))))
  · rcases h with h | h
    · exact Or.inr (Or.inr (Or.inr (Or.inr (Or.inl h))))
    · exact Or.inr (Or.inr (Or.inr (Or.inr (Or.inr (Or.inl h)))))
theorem nTm {s b j : Nat} (hb : b = m + 20 ∨ b = m + 21) (hj : ¬ j = s) : ¬ Tm m s b j := by
  intro h
  rcases h with h | h | h
  · have := h.1
    omega
  · rcases h with h | h | h | h | h | h | h <;> omega
  · exact hj h.2
theorem nTW {b j : Nat} (h : ¬ TW m b j) : (b = m → ¬ j = 23 ∧ ¬ j = 24 ∧ ¬ (27 ≤ j ∧ j ≤ 35) ∧ ¬ (37 ≤ j ∧ j ≤ 39) ∧ ¬ j = 46 ∧ ¬ j = 47 ∧ ¬ j = 52) ∧ ¬ b = m + 15 ∧ ¬ b = m + 16 ∧ ¬ b = m + 24 := by
  refine ⟨fun hb => ?_, fun hh => h (Or.inr (Or.inl hh)), fun hh => h (Or.inr (Or.inr (Or.inl hh))), fun hh => h (Or.inr (Or.inr (Or.inr (Or.inr (Or.inr (Or.inr (Or.inr (Or.inr (Or.inl hh)))))))))⟩
  have hj : ¬ (j = 23 ∨ j = 24 ∨ (27 ≤ j ∧ j ≤ 35) ∨ (37 ≤ j ∧ j ≤ 39) ∨ j = 46 ∨ j = 47 ∨ j = 52) := fun hh => h (Or.inl ⟨hb, hh⟩)
  exact ⟨fun x => hj (Or.inl x), fun x => hj (Or.inr (Or.inl x)), fun x => hj (Or.inr (Or.inr (Or.inl x))), fun x => hj (Or.inr (Or.inr (Or.inr (Or.inl x)))), fun x => hj (Or.inr (Or.inr (Or.inr (Or.inr (Or.inl x))))), fun x => hj (Or.inr (Or.inr (Or.inr (Or.inr (Or.inr (Or.inl x)))))), fun x => hj (Or.inr (Or.inr (Or.inr (Or.inr (Or.inr (Or.inr x))))))⟩
theorem ML.mr {X : AI} (h : ML m I X) : MR 0 m 2000 I I X := ⟨h.1, h.2, fun h => absurd h (by decide), fun _ _ _ => rfl⟩
/-- the notes of the steps so far -/
def MNo (m : Nat) (K B : AI) (s : Nat) (I : AI) : Prop := ∀ j, j < s → I (m + 20) j = n1 (tr K B (j + 1)) ∧ I (m + 21) j = n2 (tr K B (j + 1))
theorem tr_0 {B : AI} : tr K B 0 = sKeys (ov K B) := rfl
theorem wake_9 : wake M D W 9 = D := by
  funext k
  unfold wake
  rw [if_neg (by decide), if_neg (by decide), if_neg (by decide), if_pos rfl]
theorem wake_6 : wake M D W 6 = M := by
  funext k
  unfold wake
  rw [if_neg (by decide), if_pos rfl]
theorem wake_3 {k : Nat} : wake M D W 3 k = 0 := by
  unfold wake
  rw [if_neg (by decide), if_neg (by decide), if_neg (by decide), if_neg (by decide)]
theorem wake_1 {k : Nat} : wake M D W 1 k = if k = 0 then (1 : Int32) else if k = 3 then 8 else if k = 4 then 256 else 0 := by
  unfold wake
  rw [if_pos rfl]
theorem wake_2 {k : Nat} : wake M D W 2 k = 0 := by
  unfold wake
  rw [if_neg (by decide), if_neg (by decide), if_neg (by decide), if_neg (by decide)]
theorem wake_inv (hM : ∀ k, k < 256 → wd (M k)) (hD : D 0 = 0 ∧ WF D) (hK : okK q K) (hk : ∀ k, k < q → wd (K 11 k)) : Inv q 0 (sKeys (ov K (wake M D W))) := by
  have z : nT 0 = 0 := by decide
  have V : VV (ov K (wake M D W)) := by
    unfold VV bl
    rw [ov_r1, ov_r2, ov_r6, ov_r7, wake_6]
    refine ⟨⟨fun k h5 h9 => ?_, fun k hk => ?_⟩, ⟨⟨256, ?_, by decide⟩, ⟨0, ?_, by decide, fun k hk => absurd hk (by omega)⟩, ⟨0, ?_, by decide⟩⟩, ⟨fun k _ => ?_, fun k hk' => hM k hk'⟩, ?_⟩
    · left
      rw [wake_1, if_neg (by omega), if_neg (by omega), if_neg (by omega)]
    · rw [wake_1]
      rcases hk with rfl | rfl | rfl | rfl | rfl
      · exact wd_1
      · exact wd_0
      · exact wd_nat (n := 8) (by decide)
      · exact wd_0
      · exact wd_0
    · rw [wake_1, if_neg (by decide), if_neg (by decide), if_pos rfl]
      rfl
    · rw [wake_1, if_neg (by decide), if_neg (by decide), if_neg (by decide)]
      rfl
    · rw [wake_1, if_neg (by decide), if_neg (by decide), if_neg (by decide)]
      rfl
    · rw [wake_2]; exact wd_0
    · left
      rw [wake_1, if_neg (by decide), if_neg (by decide), if_neg (by decide)]
      exact z
  have F : FF (ov K (wake M D W)) := by
    left
    unfold FI
    rw [ov_r3, ov_r9, wake_9, wake_3, wake_3]
    exact ⟨⟨rfl, rfl⟩, hD⟩
  have bo : ∀ c, ¬ c = 1 → sKeys (ov K (wake M D W)) c = ov K (wake M D W) c := fun c hc => sKeys_o hc
  refine ⟨⟨?_, F.cong (bo 3 (by decide)) (bo 4 (by decide)) (bo 5 (by decide)) (bo 9 (by decide)) sKeys_13.1⟩, ⟨?_, ?_⟩, ?_⟩
  · unfold sKeys
    split
    · exact V.b (by omega) (Or.inr rfl)
    · exact V
  · unfold okK at hK ⊢
    rw [bo 10 (by decide), bo 12 (by decide), ov_k (by decide), ov_k (by decide)]
    exact hK
  · rw [bo 11 (by decide), ov_k (by decide)]
    exact hk
  · rw [sKeys_13.2, ov_r1, wake_1, if_neg (by decide), if_neg (by decide), if_neg (by decide)]
    rfl
theorem Inv.trj {B : AI} (h : Inv q 0 (sKeys (ov K B))) : ∀ j, Inv q j (tr K B j) := by
  intro j
  induction j with
  | zero =>
    rw [tr_0]
    exact h
  | succ j ih =>
    rw [tr_s]
    exact ih.step
theorem M256_l (hN : 2000 ≤ N) (hm : sh11 kad Z m) {B : AI} (hI : ∀ j, Inv q j (tr K B j)) {n : Nat} (hn : n ≤ 1000) : ∀ (r i F : Nat) (J : AI), i + r = n → r < F → ML m J (tr K B i) → MNo m K B i J → Ok (f256_b33 kad N Z F m (Int32.ofNat n) (Int32.ofNat i) J) (fun _ J' => ML m J' (tr K B n) ∧ MNo m K B n J' ∧ ∀ b j, ¬ TW m b j → J' b j = J b j) := by
  intro r
  induction r with
  | zero =>
    intro i F J hi hF L No
    obtain ⟨F, rfl⟩ : ∃ G, F = G + 1 := ⟨F - 1, by omega⟩
    have e : i = n := by omega
    subst e
    unfold f256_b33
    rw [if_pos (Int32.le_refl _)]
    exact Ok.ret ⟨L, No, fun _ _ _ => rfl⟩
  | succ r ih =>
    intro i F J hi hF L No
    obtain ⟨F, rfl⟩ : ∃ G, F = G + 1 := ⟨F - 1, by omega⟩
    unfold f256_b33
    rw [if_neg (fun h => absurd ((of_le (by omega) (by omega)).mp h) (by omega))]
    refine ((hI i).m hN hm L (by omega)).bind fun v J1 H => ?_
    rw [← tr_s] at H
    dsimp only
    rw [of_s]
    refine (ih (i + 1) F J1 (by omega) (by omega) (MR.ml (e := 0) H) (fun j hj => ?_)).mono fun v J2 ⟨a, b, c⟩ => ⟨a, b, fun b j hb => ?_⟩
    · by_cases e : j = i
      · rw [e]
        exact H.2.2.1 (by omega)
      · have h20 := H.2.2.2 (m + 20) j (nTm (Or.inl rfl) e)
        have h21 := H.2.2.2 (m + 21) j (nTm (Or.inr rfl) e)
        rw [h20, h21]
        exact No j (by omega)
    · rw [c b j hb]
      exact H.2.2.2 b j (fun h => hb h.tw)
theorem M256 (hN : 2000 ≤ N) (hm : sh11 kad Z m) (hI : Inv q 0 (sKeys (ov K (wake M D W)))) (hM : ∀ k, k < 256 → I (m + 26) k = M k) (hD : ∀ k, k < 256 → I (m + 27) k = D k) (hW : I m 55 = W) (hk : KR q m K I) {n : Nat} (hn : n ≤ 1000) : Ok (f256 kad N Z m (Int32.ofNat n) I) (fun _ J => ML m J (tr K (wake M D W) n) ∧ MNo m K (wake M D W) n J ∧ ∀ b j, ¬ TW m b j → J b j = I b j) := by
  have hK : okK q K := by
    have := hI.2.1.1
    unfold okK at this ⊢
    rw [sKeys_o (by decide), sKeys_o (by decide), ov_k (by decide), ov_k (by decide)] at this
    exact this
  unfold f256
  rw [M255 hN (sh11_a54 hm) (sh11_a50 hm) (by omega), Option.bind_some]
  dsimp only
  refine Ok.w ?_
  rw [cpI_b (show ¬ m = m + 24 by omega), hW]
  have e26 : ∀ b, ¬ b = m → ¬ b = m + 24 → up2 (cpI I (m + 27) (m + 24) 0 0 256) m 52 W b = I b := fun b h1 h2 => by rw [up2_b h1, cpI_b h2]
  have e24 : ∀ k, k < 256 → up2 (cpI I (m + 27) (m + 24) 0 0 256) m 52 W (m + 24) k = D k := fun k hk => by
    rw [up2_b (by omega), cpI_at (by omega), show 0 + (k - 0) = k from by omega]
    exact hD k hk
  have em : ∀ j, ¬ j = 52 → up2 (cpI I (m + 27) (m + 24) 0 0 256) m 52 W m j = I m j := fun j hj => by
    rw [up2_ne (fun hh => hj hh.2), cpI_b (by omega)]
  have e52 : up2 (cpI I (m + 27) (m + 24) 0 0 256) m 52 W m 52 = W := up2_eq
  generalize up2 (cpI I (m + 27) (m + 24) 0 0 256) m 52 W = Y at e26 e24 em e52
  refine (M222 hN (sh11_a53 hm) ⟨by omega, by omega, by omega⟩).bind fun v J H => ?_
  dsimp only
  have hkY : KR q m K Y := ⟨by rw [em 43 (by decide)]; exact hk.1, fun k hk' => by rw [e26 _ (by omega) (by omega), e26 _ (by omega) (by omega)]; exact hk.2 k hk'⟩
  have H' : WK m M Y J := by
    obtain ⟨s1, ⟨s2, s3⟩, s4⟩ := H
    exact ⟨s1, ⟨fun k hk' => by rw [s2 k hk', e26 _ (by omega) (by omega)]; exact hM k hk', s3⟩, s4⟩
  have L := H'.ml hK hkY e24 e52
  have hbl : bl (ov K (wake M D W)) := by
    intro k h5 h9
    rw [ov_r1, wake_1]
    left
    rw [if_neg (by omega), if_neg (by omega), if_neg (by omega)]
  have hKo : okK q (ov K (wake M D W)) := by
    unfold okK at hK ⊢
    rw [ov_k (by decide), ov_k (by decide)]
    exact hK
  refine (M224 hN L.mr hKo hbl).bind fun v J1 H1 => ?_
  dsimp only
  rw [show (0 : Int32) = Int32.ofNat 0 from rfl]
  refine (M256_l hN hm hI.trj hn n 0 N J1 (by omega) (by omega) (MR.ml (e := 0) H1) (fun j hj => absurd hj (by omega))).mono fun v J2 ⟨a, b, c⟩ => ⟨a, b, fun b j hb => ?_⟩
  rw [c b j hb, H1.2.2.2 b j (fun h => hb h.tw)]
  obtain ⟨t0, t15, t16, t24⟩ := nTW hb
  by_cases hbm : b = m
  · subst hbm
    obtain ⟨j1, j2, j3, j4, j5, j6, j7⟩ := t0 rfl
    rw [H.1.2 j j1 j2 j3 j4 j5, em j j7]
  · rw [H.1.1 b hbm t15 t16, e26 b hbm t24]
end MN
