/-! submit: what was there before is there again -/
def frS (m : Nat) (I J : AI) : Prop := ∀ b j, ¬ TX m b j → ¬ (m + 38 ≤ b ∧ b ≤ m + 42) → J b j = I b j
section S2
variable {kad : Nat → Nat} {N : Nat} {Z : AZ} {g m n t q s kc : Nat} {I J T X K B : AI} {v w : Int32} {M D M0 D0 : Nat → Int32} {W W0 : Int32}
theorem nTX28 {b j : Nat} (hb : (m + 28 ≤ b) ∨ b = m + 14 ∨ b = m + 13 ∨ (b = m ∧ (j = 58 ∨ j = 59 ∨ j = 60 ∨ j = 22))) : ¬ TX m b j := fun h => by
  rcases h with h | h | h
  · rcases h with h | h
    · have := h.1; have := h.2; omega
    · rcases h with h | h | h | h | h | h | h | h | h <;> omega
  · have := h.1; have := h.2; omega
  · rcases h with h | h | h | h <;> omega
theorem MT.fr {J' : AI} (H : MT m T J) (h : ∀ b j, (m + 28 ≤ b ∧ b ≤ m + 39) ∨ (b = m ∧ (j = 58 ∨ j = 59 ∨ j = 60)) → J' b j = J b j) : MT m T J' := by
  refine ⟨⟨?_, ?_, ?_⟩, fun k hk => ⟨?_, ?_⟩, fun t ht => (H.2.2 t ht).cong (fun b j b1 b2 => h b j (Or.inl ⟨b1, b2⟩))⟩
  · rw [h m 60 (by omega)]; exact H.1.1
  · rw [h m 58 (by omega)]; exact H.1.2.1
  · rw [h m 59 (by omega)]; exact H.1.2.2
  · rw [h _ k (by omega)]; exact (H.2.1 k hk).1
  · rw [h _ k (by omega)]; exact (H.2.1 k hk).2
theorem M302_k {i1 i2 i3 i4 : Int32} {Y : AI} : ∀ (r i F : Nat), i + r = 20 → r < F → f302_b56 kad N Z F m i1 i2 i3 i4 (Int32.ofNat i) (st2 Y (m + 41) (m + 42) 0 i (Y (m + 18)) (Y (m + 19))) = f302_b103 kad N Z N m i1 i2 i3 i4 0 0 (st2 Y (m + 41) (m + 42) 0 20 (Y (m + 18)) (Y (m + 19))) := by
  intro r
  induction r with
  | zero =>
    intro i F hi hF
    obtain ⟨F, rfl⟩ : ∃ G, F = G + 1 := ⟨F - 1, by omega⟩
    have e : i = 20 := by omega
    subst e
    unfold f302_b56
    rw [if_pos (show (20 : Int32) ≤ Int32.ofNat 20 by decide)]
  | succ r ih =>
    intro i F hi hF
    obtain ⟨F, rfl⟩ : ∃ G, F = G + 1 := ⟨F - 1, by omega⟩
    unfold f302_b56
    rw [if_neg (show ¬ (20 : Int32) ≤ Int32.ofNat i from fun h => absurd ((of_le (m := 20) (by decide) (by omega)).mp h) (by omega)), ixA_of (by omega), Option.bind_some, Option.bind_some, wI_ok, Option.bind_some, Option.bind_some, Option.bind_some, wI_ok, Option.bind_some]
    have e18 : st2 Y (m + 41) (m + 42) 0 i (Y (m + 18)) (Y (m + 19)) (m + 18) i = Y (m + 18) i := st2_o' (by omega) (by omega)
    have e19 : up2 (st2 Y (m + 41) (m + 42) 0 i (Y (m + 18)) (Y (m + 19))) (m + 41) i (Y (m + 18) i) (m + 19) i = Y (m + 19) i := by rw [up2_b (by omega)]; exact st2_o' (by omega) (by omega)
    have hs := st2_s (I := Y) (b := m + 41) (e := m + 42) (d := 0) (n := i) (f := Y (m + 18)) (h := Y (m + 19)) (by omega)
    rw [Nat.zero_add] at hs
    rw [e18, e19, hs, of_s]
    exact ih (i + 1) F (by omega) (by omega)
/-- what comes behind the tests: keys, disk and count back; a machine that was on makes its steps anew -/
def bkA (m : Nat) (Y : AI) : AI := st2 Y (m + 18) (m + 19) 0 20 (Y (m + 41)) (Y (m + 42))
theorem M302_r {i1 i2 i3 i5 : Int32} {Y : AI} : ∀ (r i F : Nat), i + r = 20 → r < F → f302_b192 kad N Z F m i1 i2 i3 i5 (Int32.ofNat i) (st2 Y (m + 18) (m + 19) 0 i (Y (m + 41)) (Y (m + 42))) = f302_b192 kad N Z 1 m i1 i2 i3 i5 20 (bkA m Y) := by
  intro r
  induction r with
  | zero =>
    intro i F hi hF
    obtain ⟨F, rfl⟩ : ∃ G, F = G + 1 := ⟨F - 1, by omega⟩
    have e : i = 20 := by omega
    subst e
    unfold f302_b192
    rw [if_pos (show (20 : Int32) ≤ Int32.ofNat 20 by decide), if_pos (show (20 : Int32) ≤ 20 by decide)]
    rfl
  | succ r ih =>
    intro i F hi hF
    obtain ⟨F, rfl⟩ : ∃ G, F = G + 1 := ⟨F - 1, by omega⟩
    rw [← ih (i + 1) F (by omega) (by omega), f302_b192]
    rw [if_neg (show ¬ (20 : Int32) ≤ Int32.ofNat i from fun h => absurd ((of_le (m := 20) (by decide) (by omega)).mp h) (by omega)), ixA_of (by omega), Option.bind_some, Option.bind_some, wI_ok, Option.bind_some, Option.bind_some, Option.bind_some, wI_ok, Option.bind_some]
    have e18 : st2 Y (m + 18) (m + 19) 0 i (Y (m + 41)) (Y (m + 42)) (m + 41) i = Y (m + 41) i := st2_o' (by omega) (by omega)
    have e19 : up2 (st2 Y (m + 18) (m + 19) 0 i (Y (m + 41)) (Y (m + 42))) (m + 18) i (Y (m + 41) i) (m + 42) i = Y (m + 42) i := by rw [up2_b (by omega)]; exact st2_o' (by omega) (by omega)
    have hs := st2_s (I := Y) (b := m + 18) (e := m + 19) (d := 0) (n := i) (f := Y (m + 41)) (h := Y (m + 42)) (by omega)
    rw [Nat.zero_add] at hs
    rw [e18, e19, hs, of_s]
/-- the cells where all is put back -/
def bkI (m : Nat) (I R : AI) : Prop := (∀ k, k < 20 → R (m + 18) k = I (m + 18) k ∧ R (m + 19) k = I (m + 19) k) ∧ (∀ k, k < 256 → R (m + 24) k = I (m + 24) k) ∧ (R m 43 = I m 43 ∧ R m 52 = I m 52) ∧ (∀ b j, ¬ TW m b j → ¬ (b = m ∧ j = 43) → ¬ b = m + 18 → ¬ b = m + 19 → ¬ (m + 38 ≤ b ∧ b ≤ m + 42) → R b j = I b j)
theorem M302_all (hN : 2000 ≤ N) (hg : sh10 kad Z g) (hm : sh11 kad Z m) (zs : Z.2.1 (g + 143) 7 (Z.2.2 (g + 143) 7 (g + 169)) = g + 169) (hM : ∀ k, k < 256 → wd (M k)) (hT : TI n T) (HC : CT g T I) (HM : MT m T J) (hrow : ∀ k, k < 256 → I (g + 113) k = M k) (hrow' : ∀ k, k < 256 → J (m + 14) k = M k) (L : ML m J X) (h2 : ¬ I g 2 = 0) (h22 : ¬ J m 22 = 0) :
    ∃ T' acc, TI n T' ∧ Ok (f180 kad N Z g I) (fun x I' => x = .inl acc ∧ CT g T' I' ∧ frCS g I I') ∧ ∃ S Q, f302 kad N Z m J = ((wI (cpI Q (m + 40) (m + 24) 0 0 256) m 52 (J m 52)).bind fun I250_3 => if (if X 1 0 = 0 then (0 : Int32) else 1) = 0 then f302_b262 kad N Z m acc I250_3 else (f256 kad N Z m (J m 38) I250_3).bind fun r259_4 => f302_b262 kad N Z m acc r259_4.2) ∧ SL m S Q ∧ MT m T' (up2 (cpI Q (m + 40) (m + 24) 0 0 256) m 52 (J m 52)) ∧ bkI m (up2 J m 0 0) (up2 (cpI Q (m + 40) (m + 24) 0 0 256) m 52 (J m 52)) ∧ ((∀ k, k < 20 → S (m + 18) k = J (m + 18) k ∧ S (m + 19) k = J (m + 19) k) ∧ S m 43 = J m 43) := by
  have c255 : f255 kad N Z (m + 24) (m + 40) (up2 J m 0 0) = some ((), cpI (up2 J m 0 0) (m + 24) (m + 40) 0 0 256) := M255 hN (sh11_a50 hm) (sh11_a71 hm) (by omega)
  have e216 : f216 kad N Z m (up2 J m 0 0) = some (if X 1 0 = 0 then 0 else 1, up2 J m 0 0) := M216 (L.o (Or.inl rfl))
  obtain ⟨Y, hY⟩ : ∃ Y, Y = cpI (up2 J m 0 0) (m + 24) (m + 40) 0 0 256 := ⟨_, rfl⟩
  have yo : ∀ b, ¬ b = m → ¬ b = m + 40 → Y b = J b := fun b b1 b2 => by rw [hY, cpI_b b2, up2_b b1]
  have ym : ∀ j, ¬ j = 0 → Y m j = J m j := fun j hj => by rw [hY, cpI_b (by omega), up2_ne (fun hh => hj hh.2)]
  have ym0 : ∀ j, Y m j = up2 J m 0 0 m j := fun j => by rw [hY, cpI_b (by omega)]
  have y40 : ∀ k, k < 256 → Y (m + 40) k = J (m + 24) k := fun k hk => by rw [hY, cpI_at (by omega), up2_b (by omega), show 0 + (k - 0) = k by omega]
  have hk := M302_k (kad := kad) (N := N) (Z := Z) (m := m) (i1 := if X 1 0 = 0 then 0 else 1) (i2 := J m 38) (i3 := J m 52) (i4 := J m 43) (Y := Y) 20 0 N (by omega) (by omega)
  rw [st2_0, show Int32.ofNat 0 = 0 from rfl] at hk
  obtain ⟨Y2, hY2⟩ : ∃ Y2, Y2 = st2 Y (m + 41) (m + 42) 0 20 (Y (m + 18)) (Y (m + 19)) := ⟨_, rfl⟩
  rw [← hY2] at hk
  have y2o : ∀ b, ¬ b = m + 41 → ¬ b = m + 42 → Y2 b = Y b := fun b b1 b2 => by rw [hY2, st2_o b1 b2]
  have y41 : ∀ k, k < 20 → Y2 (m + 41) k = J (m + 18) k ∧ Y2 (m + 42) k = J (m + 19) k := fun k hk => by
    rw [hY2, st2_b ⟨by omega, by omega⟩, st2_e (by omega) ⟨by omega, by omega⟩, Nat.sub_zero, yo _ (by omega) (by omega), yo _ (by omega) (by omega)]
    exact ⟨rfl, rfl⟩
  have HM2 : MT m T Y2 := HM.fr (fun b j hb => by
    rw [y2o b (by omega) (by omega)]
    by_cases hbm : b = m
    · rw [hbm]; exact ym j (by omega)
    · rw [yo b hbm (by omega)])
  obtain ⟨T', acc, k1, k2, J', k3, k4, k5⟩ := T_all (kad := kad) (n := n) (i1 := if X 1 0 = 0 then 0 else 1) (i2 := J m 38) (i3 := J m 52) (i4 := J m 43) hN hg hm zs hM n 0 N N T I Y2 0 (by omega) (by have := hT.1.2; omega) (by have := hT.1.2; omega) hT HC HM2 hrow (fun k hk => by rw [y2o _ (by omega) (by omega), yo _ (by omega) (by omega)]; exact hrow' k hk)
  rw [show Int32.ofNat 0 = 0 from rfl] at k3
  have hr := M302_r (kad := kad) (N := N) (Z := Z) (m := m) (i1 := if X 1 0 = 0 then 0 else 1) (i2 := J m 38) (i3 := J m 52) (i5 := acc) (Y := up2 J' m 43 (J m 43)) 20 0 N (by omega) (by omega)
  rw [st2_0, show Int32.ofNat 0 = 0 from rfl] at hr
  obtain ⟨S, hS⟩ : ∃ S, S = bkA m (up2 J' m 43 (J m 43)) := ⟨_, rfl⟩
  rw [← hS] at hr
  obtain ⟨x, Q, e223, HQ⟩ := M223 (kad := kad) (N := N) (Z := Z) (m := m) (I := S) hN
  have c255' : f255 kad N Z (m + 40) (m + 24) Q = some ((), cpI Q (m + 40) (m + 24) 0 0 256) := M255 hN (sh11_a71 hm) (sh11_a50 hm) (by omega)
  have so : ∀ b, ¬ b = m + 18 → ¬ b = m + 19 → S b = up2 J' m 43 (J m 43) b := fun b b1 b2 => by rw [hS]; unfold bkA; rw [st2_o b1 b2]
  have j41 : ∀ k, k < 20 → J' (m + 41) k = J (m + 18) k ∧ J' (m + 42) k = J (m + 19) k := fun k hk => by
    rw [k5 _ _ (nTW28 (Or.inl (by omega))) (by omega) (by omega) (by omega) (by omega) (by omega), k5 _ _ (nTW28 (Or.inl (by omega))) (by omega) (by omega) (by omega) (by omega) (by omega)]
    exact y41 k hk
  have s18 : ∀ k, k < 20 → S (m + 18) k = J (m + 18) k ∧ S (m + 19) k = J (m + 19) k := fun k hk => by
    rw [hS]
    unfold bkA
    rw [st2_b ⟨by omega, by omega⟩, st2_e (by omega) ⟨by omega, by omega⟩, Nat.sub_zero, up2_b (by omega), up2_b (by omega)]
    exact j41 k hk
  have s43 : S m 43 = J m 43 := by rw [so m (by omega) (by omega), up2_eq]
  have r43 : ∀ j, ¬ j = 52 → up2 (cpI Q (m + 40) (m + 24) 0 0 256) m 52 (J m 52) m j = Q m j := fun j hj => by rw [up2_ne (fun hh => hj hh.2), cpI_b (by omega)]
  have ro : ∀ b, ¬ b = m → ¬ b = m + 24 → up2 (cpI Q (m + 40) (m + 24) 0 0 256) m 52 (J m 52) b = Q b := fun b b1 b2 => by rw [up2_b b1, cpI_b b2]
  have j40 : ∀ k, k < 256 → Q (m + 40) k = J (m + 24) k := fun k hk => by
    rw [HQ.1.1 _ (by omega) (by omega) (by omega), so _ (by omega) (by omega), up2_b (by omega), k5 _ _ (nTW28 (Or.inl (by omega))) (by omega) (by omega) (by omega) (by omega) (by omega), y2o _ (by omega) (by omega)]
    exact y40 k hk
  have gen : ∀ b j, ¬ TW m b j → ¬ (b = m ∧ j = 43) → ¬ b = m + 18 → ¬ b = m + 19 → up2 (cpI Q (m + 40) (m + 24) 0 0 256) m 52 (J m 52) b j = J' b j := fun b j c1 c2 c3 c4 => by
    obtain ⟨t0, t15, t16, t24⟩ := nTW c1
    by_cases hbm : b = m
    · subst hbm
      obtain ⟨j1, j2, j3, j4, j5, j6, j7⟩ := t0 rfl
      rw [r43 j j7, HQ.1.2 j j1 j2 j3 j4 j5, so b (by omega) (by omega), up2_ne (fun hh => c2 ⟨rfl, hh.2⟩)]
    · rw [ro b hbm t24, HQ.1.1 b hbm t15 t16, so b c3 c4, up2_b hbm]
  refine ⟨T', acc, k1, ?_, S, Q, ?_, HQ, ?_, ⟨fun k hk => ⟨?_, ?_⟩, fun k hk => ?_, ⟨?_, ?_⟩, fun b j c1 c2 c3 c4 c5 => ?_⟩, s18, s43⟩
  · unfold f180 f140
    rw [if_pos h2, Option.bind_some]
    exact k2
  · unfold f302 f302_b13
    rw [if_neg h22, M185_0, Option.bind_some, if_pos z10]
    dsimp only
    rw [e216, Option.bind_some]
    dsimp only
    rw [c255, Option.bind_some]
    dsimp only
    rw [← hY, up0 (by decide), up0 (by decide), up0 (by decide), hk, k3, wI_ok, Option.bind_some, hr, f302_b192, if_pos (show (20 : Int32) ≤ 20 by decide), e223, Option.bind_some]
    dsimp only
    rw [c255', Option.bind_some]
  · refine k4.fr (fun b j hb => ?_)
    refine gen b j (fun h => ?_) (by omega) (by omega) (by omega)
    rcases h with h | h
    · have := h.1; have := h.2; omega
    · rcases h with h | h | h | h | h | h | h | h | h <;> omega
  · rw [ro _ (by omega) (by omega), HQ.1.1 _ (by omega) (by omega) (by omega), up2_b (by omega)]; exact (s18 k hk).1
  · rw [ro _ (by omega) (by omega), HQ.1.1 _ (by omega) (by omega) (by omega), up2_b (by omega)]; exact (s18 k hk).2
  · rw [up2_b (by omega), cpI_at (by omega), show 0 + (k - 0) = k by omega, up2_b (by omega)]; exact j40 k hk
  · rw [r43 43 (by decide), HQ.1.2 43 (by decide) (by decide) (by decide) (by decide) (by decide), s43, up0 (by decide)]
  · rw [up2_eq, up0 (by decide)]
  · rw [gen b j c1 c2 c3 c4, k5 b j c1 c2 c3 c4 (by omega) (by omega), y2o b (by omega) (by omega)]
    by_cases hbm : b = m
    · rw [hbm]; exact ym0 j
    · rw [yo b hbm (by omega), up2_b hbm]
theorem K180_0 (h2 : I g 2 = 0) : f180 kad N Z g I = some (rx [1] 1 0, I) := by
  unfold f180 f140
  rw [if_neg (fun h => h h2), Option.bind_some]
  rfl
theorem M302_0 (h22 : J m 22 = 0) : f302 kad N Z m J = some (0, up2 J m 0 1) := by
  unfold f302 f302_b13
  rw [if_pos h22, M185_1, Option.bind_some, if_neg z00]
theorem bkI.kr {R : AI} (h : bkI m I R) (hK : okK q K) (hk : KR q m K I) : KR q m K R := by
  have hq := hK.2.1
  exact ⟨by rw [h.2.2.1.1]; exact hk.1, fun k hk' => by rw [(h.1 k (by omega)).1, (h.1 k (by omega)).2]; exact hk.2 k hk'⟩
/-- on -/
theorem M302_on (hN : 2000 ≤ N) (hg : sh10 kad Z g) (hm : sh11 kad Z m) (zs : Z.2.1 (g + 143) 7 (Z.2.2 (g + 143) 7 (g + 169)) = g + 169) (hM : ∀ k, k < 256 → wd (M k)) (hT : TI n T) (HC : CT g T I) (HM : MT m T J) (hrow : ∀ k, k < 256 → I (g + 113) k = M k) (hrow' : ∀ k, k < 256 → J (m + 14) k = M k) (h2 : ¬ I g 2 = 0) (h22 : ¬ J m 22 = 0) (hK : okK q K) (hG : Gd q K (wake M0 D0 W0) s kc) (h0 : ¬ tr K (wake M0 D0 W0) s 1 0 = 0) (H : MG m K (wake M0 D0 W0) s kc J) (hS : MS m M0 D0 W0 J) :
    ∃ T' acc, TI n T' ∧ Ok (f180 kad N Z g I) (fun x I' => x = .inl acc ∧ CT g T' I' ∧ frCS g I I') ∧ Ok (f302 kad N Z m J) (fun x J' => x = acc ∧ MT m T' J' ∧ MG m K (wake M0 D0 W0) s kc J' ∧ MS m M0 D0 W0 J' ∧ frS m (up2 J m 0 0) J') := by
  obtain ⟨T', acc, k1, k2, S, Q, e1, e2, e3, e4, -⟩ := M302_all (kad := kad) hN hg hm zs hM hT HC HM hrow hrow' H.1 h2 h22
  refine ⟨T', acc, k1, k2, ?_⟩
  rw [e1, wI_ok, Option.bind_some, if_neg (show ¬ (if tr K (wake M0 D0 W0) s 1 0 = 0 then (0 : Int32) else 1) = 0 from by rw [if_neg h0]; decide)]
  generalize up2 (cpI Q (m + 40) (m + 24) 0 0 256) m 52 (J m 52) = R at e3 e4
  have e38 : J m 38 = Int32.ofNat s := (H.1.q1 (k := 2)).trans (tr_2 hG.1.2 s)
  have n26 : ∀ b j, (b = m + 26 ∨ b = m + 27 ∨ (b = m ∧ (j = 55 ∨ j = 40))) → R b j = up2 J m 0 0 b j := fun b j hb => e4.2.2.2 b j (fun h => by
    rcases h with h | h
    · have := h.1; have := h.2; omega
    · rcases h with h | h | h | h | h | h | h | h | h <;> omega) (by omega) (by omega) (by omega) (by omega)
  have hS' : MS m M0 D0 W0 R := ⟨fun k hk => by rw [n26 _ _ (by omega), n26 _ _ (by omega), up2_b (by omega), up2_b (by omega)]; exact hS.1 k hk, by rw [n26 _ _ (by omega), up0 (by decide)]; exact hS.2⟩
  rw [e38]
  refine (MG.anew (N := N) hN hm hG (e4.kr hK (H.o0.kr hG)) hS' (n := s) (kn := kc) hG.2.1.2.2 (by rw [n26 _ _ (by omega), up0 (by decide)]; exact H.2.2)).bind fun _ J' ⟨a1, a2, a3⟩ => ?_
  refine Ok.ret ⟨rfl, e3.fr (fun b j hb => a3 b j (TXs.x (nTX28 (by omega)))), a1, a2, fun b j c1 c2 => ?_⟩
  show J' b j = _
  rw [a3 b j (TXs.x c1), e4.2.2.2 b j (TX.tw c1) (fun h => c1 (Or.inr (Or.inl ⟨h.1, Or.inr (Or.inl h.2)⟩))) (fun h => c1 (Or.inr (Or.inr (Or.inl h)))) (fun h => c1 (Or.inr (Or.inr (Or.inr (Or.inl h))))) c2]
/-- off -/
theorem M302_off (hN : 2000 ≤ N) (hg : sh10 kad Z g) (hm : sh11 kad Z m) (zs : Z.2.1 (g + 143) 7 (Z.2.2 (g + 143) 7 (g + 169)) = g + 169) (hM : ∀ k, k < 256 → wd (M k)) (hT : TI n T) (HC : CT g T I) (HM : MT m T J) (hrow : ∀ k, k < 256 → I (g + 113) k = M k) (hrow' : ∀ k, k < 256 → J (m + 14) k = M k) (h2 : ¬ I g 2 = 0) (h22 : ¬ J m 22 = 0) (hK : okK q K) (H : MF m K D W J) :
    ∃ T' acc, TI n T' ∧ Ok (f180 kad N Z g I) (fun x I' => x = .inl acc ∧ CT g T' I' ∧ frCS g I I') ∧ Ok (f302 kad N Z m J) (fun x J' => x = acc ∧ MT m T' J' ∧ MF m K D W J' ∧ frS m (up2 J m 0 0) J') := by
  obtain ⟨T', acc, k1, k2, S, Q, e1, e2, e3, e4, e5, e6⟩ := M302_all (kad := kad) hN hg hm zs hM hT HC HM hrow hrow' H.1 h2 h22
  refine ⟨T', acc, k1, k2, ?_⟩
  rw [e1, wI_ok, Option.bind_some, if_pos (show (if ov K (offm D W) 1 0 = 0 then (0 : Int32) else 1) = 0 from by rw [if_pos (by rw [ov_r1, off_1])])]
  have hKov : okK q (ov K (offm D W)) := by
    unfold okK at hK ⊢
    rw [ov_k (by decide), ov_k (by decide)]
    exact hK
  have hkr : KR q m K J := (H.1.kr hKov).cong (ov_k (by decide)).symm (ov_k (by decide)).symm (ov_k (by decide)).symm
  have hkS : KR q m K S := ⟨by rw [e6]; exact hkr.1, fun k hk => by
    have := hK.2.1
    rw [(e5 k (by omega)).1, (e5 k (by omega)).2]; exact hkr.2 k hk⟩
  have L := e2.ml hK hkS (D := S (m + 24)) (W := S m 52) (fun _ _ => rfl) rfl
  refine Ok.ret ⟨rfl, e3, ⟨L.disk (D' := D) (W' := W) ?_ (fun k hk => ?_) (fun b j c1 c2 c3 c4 => ?_), ?_⟩, fun b j c1 c2 => ?_⟩
  · rw [up2_eq, show J m 52 = ov K (offm D W) 8 1 from H.1.1 8 1 (by unfold mC; omega) rfl, ov_r8, off_8]
  · rw [e4.2.1 k hk, up2_b (by omega), show J (m + 24) k = ov K (offm D W) 9 k from H.1.1 9 k (by unfold mC; omega) hk, ov_r9, off_9]
  · by_cases hbm : b = m
    · rw [up2_ne (fun hh => c4 ⟨hbm, hh.2⟩), cpI_b (by omega)]
    · rw [up2_b hbm, cpI_b c3]
  · rw [e4.2.2.2 m 40 (fun h => by
      rcases h with h | h
      · have := h.2; omega
      · rcases h with h | h | h | h | h | h | h | h | h <;> omega) (by omega) (by omega) (by omega) (by omega), up0 (by decide)]
    exact H.2
  · exact e4.2.2.2 b j (TX.tw c1) (fun h => c1 (Or.inr (Or.inl ⟨h.1, Or.inr (Or.inl h.2)⟩))) (fun h => c1 (Or.inr (Or.inr (Or.inl h)))) (fun h => c1 (Or.inr (Or.inr (Or.inr (Or.inl h))))) c2
end S2
