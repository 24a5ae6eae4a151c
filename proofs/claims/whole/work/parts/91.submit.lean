/-! all tests, one after another, in both -/
def tRes (T : AI) (t : Nat) (v : Int32) : AI := up2 (up2 T 7 t v) 8 t (if T 8 t = 0 then (if v = 0 then 1 else 0) else 1)
def frCS (g : Nat) (I J : AI) : Prop := ∀ b, ¬ (g + 143 ≤ b ∧ b < g + 178) → ¬ (g + 1982 ≤ b ∧ b < g + 1997) → J b = I b
def frU2 (m : Nat) (I J : AI) : Prop := ∀ b j, ¬ TW m b j → ¬ (b = m ∧ j = 43) → ¬ b = m + 18 → ¬ b = m + 19 → ¬ b = m + 38 → ¬ b = m + 39 → J b j = I b j
section SB
variable {kad : Nat → Nat} {N : Nat} {Z : AZ} {g m n t : Nat} {I J T X : AI} {v w : Int32} {M : Nat → Int32}
theorem res_o {q : Nat} (h7 : ¬ q = 7) (h8 : ¬ q = 8) : tRes T t v q = T q := by unfold tRes; rw [up2_b h8, up2_b h7]
theorem res_7 {k : Nat} : tRes T t v 7 k = if k = t then v else T 7 k := by
  unfold tRes
  rw [up2_b (by decide)]
  by_cases h : k = t
  · rw [if_pos h, h, up2_eq]
  · rw [if_neg h, up2_ne (fun hh => h hh.2)]
theorem res_8 {k : Nat} : tRes T t v 8 k = if k = t then (if T 8 t = 0 then (if v = 0 then 1 else 0) else 1) else T 8 k := by
  unfold tRes
  by_cases h : k = t
  · rw [if_pos h, h, up2_eq]
  · rw [if_neg h, up2_ne (fun hh => h hh.2), up2_b (by decide)]
theorem upto_m1 {k : Nat} (h : upto k v) (hk : k < 2147483648) : ¬ v = Int32.ofInt (-1) := by
  obtain ⟨p, e, hp⟩ := h
  rw [e]
  intro hh
  have : ¬ Int32.ofNat p < 0 := of_nn (by omega)
  rw [hh] at this
  exact this (by decide)
theorem TI.res (hT : TI n T) (ht : t < n) (hv : upto 5 v) : TI n (tRes T t v) := by
  obtain ⟨a, b, c, d⟩ := hT
  refine ⟨by rw [res_o (by decide) (by decide)]; exact a, by rw [res_o (by decide) (by decide)]; exact b, fun k hk => by rw [res_o (by decide) (by decide), res_o (by decide) (by decide)]; exact c k hk, fun u hu => ?_⟩
  obtain ⟨d1, d2, ⟨d3, d4, d5, d6⟩, d7⟩ := d u hu
  unfold TIt
  rw [res_o (q := 1) (by decide) (by decide), res_o (q := 2) (by decide) (by decide), res_o (q := 3) (by decide) (by decide), res_o (q := 4) (by decide) (by decide), res_o (q := 5) (by decide) (by decide), res_o (q := 6) (by decide) (by decide), res_o (q := 10 + u) (by omega) (by omega), res_o (q := 20 + u) (by omega) (by omega), res_7, res_8]
  by_cases h : u = t
  · rw [if_pos h, if_pos h]
    refine ⟨d1, d2, ⟨Or.inr hv, ?_, fun hh => absurd hh (upto_m1 hv (by decide)), fun hh => by omega⟩, d7⟩
    split
    · split
      · exact Or.inr rfl
      · exact Or.inl rfl
    · exact Or.inr rfl
  · rw [if_neg h, if_neg h]
    exact ⟨d1, d2, ⟨d3, d4, d5, d6⟩, d7⟩
theorem CT.res {I' : AI} (H : CT g T I) (ht : t < 5) (h : tDone (g + 143) (g + 169) (g + (1982 + 3 * t)) t T I v I') : CT g (tRes T t v) I' := by
  obtain ⟨⟨d1, d2⟩, d3, d4⟩ := h
  refine ⟨?_, fun k hk => ?_, fun u hu => ?_⟩
  · rw [d4 g (by omega) (by omega) (by omega), d4 (g + 178) (by omega) (by omega) (by omega), res_o (by decide) (by decide)]
    exact H.1
  · rw [d4 _ (by omega) (by omega) (by omega), d4 _ (by omega) (by omega) (by omega), res_o (by decide) (by decide), res_o (by decide) (by decide)]
    exact H.2.1 k hk
  · obtain ⟨⟨a1, a2, a3, a4⟩, ⟨b1, b2, b3, b4⟩, c⟩ := H.2.2 u hu
    unfold CTt
    rw [res_o (q := 1) (by decide) (by decide), res_o (q := 2) (by decide) (by decide), res_o (q := 3) (by decide) (by decide), res_o (q := 4) (by decide) (by decide), res_o (q := 5) (by decide) (by decide), res_o (q := 6) (by decide) (by decide), res_o (q := 10 + u) (by omega) (by omega), res_o (q := 20 + u) (by omega) (by omega), res_7, res_8]
    by_cases hu2 : u = t
    · rw [if_pos hu2, if_pos hu2]
      subst hu2
      rw [d4 (g + (1982 + 3 * u) + 1) (by omega) (by omega) (by omega), d4 (g + (1982 + 3 * u) + 2) (by omega) (by omega) (by omega), d3 0 (by decide) (by decide), d3 1 (by decide) (by decide), d3 5 (by decide) (by decide), d3 6 (by decide) (by decide), d3 7 (by decide) (by decide), d3 8 (by decide) (by decide)]
      exact ⟨⟨a1, a2, d1, d2⟩, ⟨b1, b2, b3, b4⟩, c⟩
    · rw [if_neg hu2, if_neg hu2, d4 (g + (1982 + 3 * u)) (by omega) (by omega) (by omega), d4 (g + (1982 + 3 * u) + 1) (by omega) (by omega) (by omega), d4 (g + (1982 + 3 * u) + 2) (by omega) (by omega) (by omega)]
      exact ⟨⟨a1, a2, a3, a4⟩, ⟨b1, b2, b3, b4⟩, c⟩
theorem frU2.rfl' : frU2 m I I := fun _ _ _ _ _ _ _ _ => rfl
theorem frU2.trans {Q : AI} (h : frU2 m I J) (h2 : frU2 m J Q) : frU2 m I Q := fun b j b1 b2 b3 b4 b5 b6 => (h2 b j b1 b2 b3 b4 b5 b6).trans (h b j b1 b2 b3 b4 b5 b6)
theorem frU2.row (h : frU2 m I J) {k : Nat} : J (m + 14) k = I (m + 14) k := h _ _ (nTW28 (Or.inr rfl)) (by omega) (by omega) (by omega) (by omega) (by omega)
theorem frCS.trans {Q : AI} (h : frCS g I J) (h2 : frCS g J Q) : frCS g I Q := fun b b1 b2 => (h2 b b1 b2).trans (h b b1 b2)
/-- the model writes a result down -/
theorem MT.res {J' : AI} (hn : T 9 0 = Int32.ofNat n) (htn : t < n) (hn5 : n ≤ 5) (H : MT m T J) (h : frU m J J') : MT m (tRes T t v) (up2 (up2 J' (m + 38) t v) (m + 39) t (if T 8 t = 0 then (if v = 0 then 1 else 0) else 1)) ∧ frU2 m J (up2 (up2 J' (m + 38) t v) (m + 39) t (if T 8 t = 0 then (if v = 0 then 1 else 0) else 1)) := by
  have hm : ∀ j, j = 58 ∨ j = 59 ∨ j = 60 → J' m j = J m j := fun j hj => h m j (fun hh => by
    rcases hh with hh | hh
    · have := hh.2; omega
    · rcases hh with h | h | h | h | h | h | h | h | h <;> omega) (by omega) (by omega) (by omega)
  have hr : ∀ b k, m + 28 ≤ b → b ≤ m + 39 → J' b k = J b k := fun b k b1 b2 => h b k (nTW28 (Or.inl (by omega))) (by omega) (by omega) (by omega)
  generalize hX : (if T 8 t = 0 then (if v = 0 then (1 : Int32) else 0) else 1) = x
  have o : ∀ b, ¬ b = m + 38 → ¬ b = m + 39 → up2 (up2 J' (m + 38) t v) (m + 39) t x b = J' b := fun b b1 b2 => by rw [up2_b b2, up2_b b1]
  refine ⟨⟨⟨?_, ?_, ?_⟩, fun k hk => ⟨?_, ?_⟩, fun u hu => ?_⟩, fun b j b1 b2 b3 b4 b5 b6 => ?_⟩
  · rw [o m (by omega) (by omega), hm 60 (by omega), res_o (by decide) (by decide)]; exact H.1.1
  · rw [o m (by omega) (by omega), hm 58 (by omega), res_o (by decide) (by decide)]; exact H.1.2.1
  · rw [o m (by omega) (by omega), hm 59 (by omega), res_o (by decide) (by decide)]; exact H.1.2.2
  · rw [o _ (by omega) (by omega), hr _ _ (by omega) (by omega), res_o (by decide) (by decide)]; exact (H.2.1 k hk).1
  · rw [o _ (by omega) (by omega), hr _ _ (by omega) (by omega), res_o (by decide) (by decide)]; exact (H.2.1 k hk).2
  · obtain ⟨⟨a1, a2, a3, a4⟩, ⟨b1, b2, b3, b4⟩, c⟩ := H.2.2 u hu
    unfold MTt
    rw [res_o (q := 1) (by decide) (by decide), res_o (q := 2) (by decide) (by decide), res_o (q := 3) (by decide) (by decide), res_o (q := 4) (by decide) (by decide), res_o (q := 5) (by decide) (by decide), res_o (q := 6) (by decide) (by decide), res_o (q := 9) (by decide) (by decide), res_o (q := 10 + u) (by omega) (by omega), res_o (q := 20 + u) (by omega) (by omega), res_7, res_8]
    rw [o (m + 31) (by omega) (by omega), o (m + 33) (by omega) (by omega), o (m + 34) (by omega) (by omega), o (m + 35) (by omega) (by omega), o (m + 36) (by omega) (by omega), o (m + 37) (by omega) (by omega), o (m + 30) (by omega) (by omega), o (m + 32) (by omega) (by omega)]
    refine ⟨⟨(hr _ _ (by omega) (by omega)).trans a1, (hr _ _ (by omega) (by omega)).trans a2, fun hh => ?_, ?_⟩, ⟨(hr _ _ (by omega) (by omega)).trans b1, (hr _ _ (by omega) (by omega)).trans b2, (hr _ _ (by omega) (by omega)).trans b3, (hr _ _ (by omega) (by omega)).trans b4⟩, fun k hk => ⟨(hr _ _ (by omega) (by omega)).trans (c k hk).1, (hr _ _ (by omega) (by omega)).trans (c k hk).2⟩⟩
    · rw [up2_b (by omega)]
      by_cases hu2 : u = t
      · rw [if_pos hu2, hu2, up2_eq]
      · rw [if_neg hu2, up2_ne (fun q => hu2 q.2), hr _ _ (by omega) (by omega)]; exact a3 hh
    · by_cases hu2 : u = t
      · rw [if_pos hu2, hu2, up2_eq, hX]
      · rw [if_neg hu2, up2_ne (fun q => hu2 q.2), up2_b (by omega), hr _ _ (by omega) (by omega)]; exact a4
  · rw [o b b5 b6, h b j b1 b2 b3 b4]
theorem T_all (hN : 2000 ≤ N) (hg : sh10 kad Z g) (hm : sh11 kad Z m) (zs : Z.2.1 (g + 143) 7 (Z.2.2 (g + 143) 7 (g + 169)) = g + 169) (hM : ∀ k, k < 256 → wd (M k)) {i1 i2 i3 i4 : Int32} :
    ∀ (r t F F' : Nat) (T I J : AI) (acc : Int32), t + r = n → r < F → r < F' → TI n T → CT g T I → MT m T J → (∀ k, k < 256 → I (g + 113) k = M k) → (∀ k, k < 256 → J (m + 14) k = M k) →
    ∃ T' acc', TI n T' ∧ Ok (f180_b8 kad N Z F g acc (Int32.ofNat t) I) (fun x I' => x = .inl acc' ∧ CT g T' I' ∧ frCS g I I') ∧ ∃ J', f302_b103 kad N Z F' m i1 i2 i3 i4 acc (Int32.ofNat t) J = ((wI J' m 43 i4).bind fun Q => f302_b192 kad N Z N m i1 i2 i3 acc' 0 Q) ∧ MT m T' J' ∧ frU2 m J J' := by
  intro r
  induction r with
  | zero =>
    intro t F F' T I J acc ht hF hF' hT HC HM hrow hrow'
    obtain ⟨F, rfl⟩ : ∃ G, F = G + 1 := ⟨F - 1, by omega⟩
    obtain ⟨F', rfl⟩ : ∃ G, F' = G + 1 := ⟨F' - 1, by omega⟩
    have hn := hT.1
    refine ⟨T, acc, hT, ?_, J, ?_, HM, frU2.rfl'⟩
    · unfold f180_b8 f180_b60
      rw [HC.1.1, hn.1, if_pos ((of_le (by omega) (by omega)).mpr (by omega))]
      exact Ok.ret ⟨rfl, HC, fun _ _ _ => rfl⟩
    · unfold f302_b103
      rw [HM.1.1, hn.1, if_pos ((of_le (by omega) (by omega)).mpr (by omega))]
  | succ r ih =>
    intro t F F' T I J acc ht hF hF' hT HC HM hrow hrow'
    obtain ⟨F, rfl⟩ : ∃ G, F = G + 1 := ⟨F - 1, by omega⟩
    obtain ⟨F', rfl⟩ : ∃ G, F' = G + 1 := ⟨F' - 1, by omega⟩
    have hn := hT.1
    have zz := sh9_a4 (sh10_f11 hg t (by omega))
    obtain ⟨v, hv, ⟨x1, I1, e1, hd⟩, ⟨x2, J1, e2, rfl, hu⟩⟩ := T_one (kad := kad) (n := n) (a := g + 143) (κ := g + 169) (b := g + 113) (τ := g + (1982 + 3 * t)) hN (sh10_s8 hg) hm (by omega) zs (sh10_a1 hg) (by omega) (by omega) (by omega) (by omega) zz (by omega) hM (hT.2.2.2 t (by omega)) (HC.2.2 t (by omega)) hrow (HM.2.2 t (by omega)) hrow'
    have HC1 := HC.res (by omega) hd
    obtain ⟨HM1, fM⟩ := HM.res (v := x2) (t := t) hn.1 (by omega) hn.2 hu
    have fC : frCS g I I1 := fun b b1 b2 => hd.2.2 b (by omega) (by omega) (by omega)
    have hw39 : J1 (m + 39) t = T 8 t := (hu.mt (HM.2.2 t (by omega))).1.2.2.2
    have stp : ∀ acc2, (acc2 = if x2 = 0 then acc + 1 else acc) → ∃ T' acc', TI n T' ∧ Ok (f180_b8 kad N Z F g acc2 (Int32.ofNat t + 1) I1) (fun x I' => x = .inl acc' ∧ CT g T' I' ∧ frCS g I I') ∧ ∃ J', f302_b103 kad N Z F' m i1 i2 i3 i4 acc2 (Int32.ofNat t + 1) (up2 (up2 J1 (m + 38) t x2) (m + 39) t (if T 8 t = 0 then (if x2 = 0 then 1 else 0) else 1)) = ((wI J' m 43 i4).bind fun Q => f302_b192 kad N Z N m i1 i2 i3 acc' 0 Q) ∧ MT m T' J' ∧ frU2 m J J' := fun acc2 _ => by
      obtain ⟨T', acc', k1, k2, J', k3, k4, k5⟩ := ih (t + 1) F F' (tRes T t x2) I1 _ acc2 (by omega) (by omega) (by omega) (hT.res (by omega) hv) HC1 HM1 (fun k hk => by rw [fC _ (by omega) (by omega)]; exact hrow k hk) (fun k hk => by rw [fM.row]; exact hrow' k hk)
      rw [of_s]
      exact ⟨T', acc', k1, k2.mono fun x I' ⟨z1, z2, z3⟩ => ⟨z1, z2, fC.trans z3⟩, J', k3, k4, fM.trans k5⟩
    obtain ⟨T', acc', k1, k2, J', k3, k4, k5⟩ := stp _ rfl
    refine ⟨T', acc', k1, ?_, J', ?_, k4, k5⟩
    · unfold f180_b8
      rw [HC.1.1, hn.1, if_neg (fun h => absurd ((of_le (by omega) (by omega)).mp h) (by omega)), if_neg (show ¬ (5 : Int32) ≤ Int32.ofNat t from fun h => absurd ((of_le (m := 5) (by decide) (by omega)).mp h) (by omega)), ixA_of (by omega), Option.bind_some, e1, Option.bind_some]
      dsimp only
      unfold f180_b54
      have e2' : I1 (g + (1982 + 3 * t)) 2 = x2 := hd.1.1
      by_cases hx : x2 = 0
      · rw [if_neg (show ¬ ¬ I1 (g + (1982 + 3 * t)) 2 = 0 from fun hh => hh (e2'.trans hx))]
        rw [if_pos hx] at k2
        exact k2
      · rw [if_pos (show ¬ I1 (g + (1982 + 3 * t)) 2 = 0 from fun hh => hx (e2'.symm.trans hh))]
        rw [if_neg hx] at k2
        exact k2
    · unfold f302_b103
      rw [HM.1.1, hn.1, if_neg (fun h => absurd ((of_le (by omega) (by omega)).mp h) (by omega)), e2, Option.bind_some, ixA_of (by omega), Option.bind_some]
      dsimp only
      rw [wI_ok, Option.bind_some, Option.bind_some]
      have q39 : up2 J1 (m + 38) t x2 (m + 39) t = T 8 t := by rw [up2_b (by omega)]; exact hw39
      have fin : ∀ x : Int32, (x = 0 ∨ x = 1) → x = (if T 8 t = 0 then (if x2 = 0 then 1 else 0) else 1) → f302_b156 kad N Z (fun p0 p1 p2 p3 p4 p5 p6 I => f302_b103 kad N Z F' p0 p1 p2 p3 p4 p5 p6 I) m i1 i2 i3 i4 acc (Int32.ofNat t) x (Int32.ofNat t) (up2 J1 (m + 38) t x2) = ((wI J' m 43 i4).bind fun Q => f302_b192 kad N Z N m i1 i2 i3 acc' 0 Q) := fun x hx he => by
        unfold f302_b156 f302_b174 wB
        rw [ixA_of (by omega), Option.bind_some, if_pos hx, Option.bind_some, Option.bind_some]
        have q38 : up2 (up2 J1 (m + 38) t x2) (m + 39) t x (m + 38) t = x2 := by rw [up2_b (by omega), up2_eq]
        rw [← he] at k3
        by_cases hz : x2 = 0
        · rw [if_neg (show ¬ ¬ up2 (up2 J1 (m + 38) t x2) (m + 39) t x (m + 38) t = 0 from fun hh => hh (q38.trans hz))]
          rw [if_pos hz] at k3
          exact k3
        · rw [if_pos (show ¬ up2 (up2 J1 (m + 38) t x2) (m + 39) t x (m + 38) t = 0 from fun hh => hz (q38.symm.trans hh))]
          rw [if_neg hz] at k3
          rw [show acc + 0 = acc from by grind]
          exact k3
      unfold f302_b151
      by_cases h8 : T 8 t = 0
      · rw [if_neg (show ¬ ¬ up2 J1 (m + 38) t x2 (m + 39) t = 0 from fun hh => hh (q39.trans h8)), Option.bind_some]
        by_cases hz : x2 = 0
        · rw [if_neg (show ¬ ¬ up2 J1 (m + 38) t x2 (m + 38) t = 0 from fun hh => hh (up2_eq.trans hz))]
          exact fin 1 (Or.inr rfl) (by rw [if_pos h8, if_pos hz])
        · rw [if_pos (show ¬ up2 J1 (m + 38) t x2 (m + 38) t = 0 from fun hh => hz (up2_eq.symm.trans hh))]
          exact fin 0 (Or.inl rfl) (by rw [if_pos h8, if_neg hz])
      · rw [if_pos (show ¬ up2 J1 (m + 38) t x2 (m + 39) t = 0 from fun hh => h8 (q39.symm.trans hh))]
        exact fin 1 (Or.inr rfl) (by rw [if_neg h8])
end SB
