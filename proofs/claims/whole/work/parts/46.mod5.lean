/-! the model's other instructions -/
section M5
variable {kad : Nat → Nat} {N : Nat} {Z : AZ} {e m s : Nat} {I0 I X : AI}
theorem MR.tp (H : MR e m s I0 I X) {t : Nat} (ht : X 1 12 = Int32.ofNat t) (ht2 : t < 60) {y : Int32} : MR e m s I0 (up2 (up2 I (m + 17) t y) m 37 (Int32.ofNat (t + 1))) (up2 (up2 X 7 t y) 1 12 (Int32.ofNat (t + 1))) := by
  obtain ⟨b1, ⟨b2, b3⟩, b4, b5⟩ := H
  have x3 : up2 (up2 X 7 t y) 1 12 (Int32.ofNat (t + 1)) 3 = X 3 := by rw [up2_b (by decide), up2_b (by decide)]
  have x20 : up2 (up2 X 7 t y) 1 12 (Int32.ofNat (t + 1)) 20 = X 20 := by rw [up2_b (by decide), up2_b (by decide)]
  have x26 : up2 (up2 X 7 t y) 1 12 (Int32.ofNat (t + 1)) 26 = X 26 := by rw [up2_b (by decide), up2_b (by decide)]
  have x10 : up2 (up2 X 7 t y) 1 12 (Int32.ofNat (t + 1)) 10 = X 10 := by rw [up2_b (by decide), up2_b (by decide)]
  refine ⟨fun d j hd hj => ?_, ⟨?_, fun h3 => ?_⟩, fun hs => ?_, fun b j hb => ?_⟩
  · by_cases h7 : d = 7
    · subst h7
      have hj : j < nT (up2 (up2 X 7 t y) 1 12 (Int32.ofNat (t + 1)) 1 12) ∧ j < 60 := hj
      rw [up2_eq, nT_of (by omega)] at hj
      show up2 (up2 I (m + 17) t y) m 37 (Int32.ofNat (t + 1)) (m + 17) j = _
      rw [up2_b (by omega), congrFun (up2_b (show ¬ 7 = 1 by decide)) j]
      by_cases hjt : j = t
      · subst hjt
        rw [up2_eq, up2_eq]
      · rw [up2_ne (fun h => hjt h.2), up2_ne (fun h => hjt h.2)]
        exact b1 7 j hd (by show j < nT (X 1 12) ∧ j < 60; rw [ht, nT_of (by omega)]; omega)
    by_cases h112 : d = 1 ∧ j = 12
    · obtain ⟨rfl, rfl⟩ := h112
      show up2 (up2 I (m + 17) t y) m 37 (Int32.ofNat (t + 1)) m 37 = _
      rw [up2_eq, up2_eq]
    · have hjx : rel e X d j := by
        unfold mC at hd
        rcases hd with rfl | rfl | rfl | rfl | rfl | rfl | rfl | rfl | rfl | rfl | rfl | rfl
        · exact (show j < 14 from hj)
        · exact (show j < 4 from hj)
        · exact (show j < nT (X 3 0) ∧ j < 3 from x3 ▸ hj)
        · exact (show j < 8 * nT (X 3 0) ∧ j < 24 from x3 ▸ hj)
        · exact (show j < 256 from hj)
        · exact absurd rfl h7
        · exact (show j = 1 from hj)
        · exact (show j < 256 from hj)
        · exact (show j = 0 from hj)
        · exact (show j < nT (X 10 0) ∧ j < 20 from x10 ▸ hj)
        · exact (show j < nT (X 10 0) ∧ j < 20 from x10 ▸ hj)
        · exact (show e = 1 ∧ j < 256 from hj)
      have n37 : ¬ (mA m d = m ∧ mK d j = 37) := fun h => by
        have := mAK (e := e) (X := X) (m := m) (c := d) (k := j) (d := 1) (j := 12) hd (Or.inl rfl) hjx (show 12 < 14 by decide) ⟨h.1, h.2⟩
        exact h112 this
      have n17 : ¬ mA m d = m + 17 := fun h => by
        unfold mC at hd
        rcases hd with rfl | rfl | rfl | rfl | rfl | rfl | rfl | rfl | rfl | rfl | rfl | rfl <;> first
          | exact absurd rfl h7
          | (simp only [mA] at h; omega)
      rw [up2_ne n37, up2_b n17, up2_ne h112, up2_b h7]
      exact b1 d j hd hjx
  · rw [up2_ne (by omega), up2_b (by omega), b2]
    unfold sLeft
    rw [x3]
  · rw [x3] at h3 ⊢
    rw [up2_ne (by omega), up2_b (by omega)]
    exact b3 h3
  · have q1 : n1 (up2 (up2 X 7 t y) 1 12 (Int32.ofNat (t + 1))) = n1 X := by unfold n1; rw [x20, x26]
    have q2 : n2 (up2 (up2 X 7 t y) 1 12 (Int32.ofNat (t + 1))) = n2 X := by unfold n2; rw [x20, x26]
    rw [q1, q2, up2_b (by omega), up2_b (by omega), up2_b (by omega), up2_b (by omega)]
    exact b4 hs
  · have hb1 : ¬ (b = m ∧ j = 37) := fun h => hb (Or.inl ⟨h.1, by omega⟩)
    have hb2 : ¬ b = m + 17 := fun h => hb (Or.inr (Or.inl (by omega)))
    rw [up2_ne hb1, up2_b hb2]
    exact b5 b j hb
theorem M233 (hN : 2000 ≤ N) (H : MR e m s I0 I X) {q t r : Nat} (hK : okK q X) (hb : bl X) (ht : X 1 12 = Int32.ofNat t) (ht2 : t ≤ 60) (hr : X 1 13 = Int32.ofNat r) (hr2 : r ≤ 20) {op y : Int32} {d : Nat} (hd : d < 4) (ho : op = 19 ∨ op = 20 ∨ op = 22 ∨ op = 23 ∨ op = 24 ∨ op = 25) (h25 : op = 25 → t < 60) : Ok (f233 kad N Z m op (Int32.ofNat d) y I) (fun _ J => MR e m s I0 J (sCtl op (Int32.ofNat d) y X)) := by
  have e3 : I m 27 = X 1 3 := H.r1 (k := 3) (by decide)
  have e8 : I m 32 = X 1 8 := H.r1 (k := 8) (by decide)
  have e9 : I m 33 = X 1 9 := H.r1 (k := 9) (by decide)
  have n21 : ¬ op = 21 ∧ ¬ op = 26 := by rcases ho with rfl | rfl | rfl | rfl | rfl | rfl <;> decide
  -- the on-flag, then what each does
  have on : ∀ (c : Int32) (Q : Unit → AI → Prop), (∀ (v : Int32), (op = 19 → v = 1) → (op = 20 → v = 0) → (¬ op = 19 → ¬ op = 20 → v = X 1 7) → Ok (if ¬ op = 23 then f233_b152 kad N Z m op (Int32.ofNat d) y (up2 (up2 I m 27 c) m 31 v) else (wI (up2 (up2 I m 27 c) m 31 v) m 34 y).bind fun I144 => (wI I144 m 35 0).bind fun I149 => f233_b152 kad N Z m op (Int32.ofNat d) y I149) Q) → ∀ (s0 s1 : Int32), s1 + s0 = c → Ok (f233_b104 kad N Z m op (Int32.ofNat d) y s0 s1 I) Q := fun c Q h s0 s1 hc => by
    unfold f233_b104
    rw [hc]
    refine Ok.w ?_
    unfold f233_b128 f233_b132 f233_b133
    have e7 : up2 I m 27 c m 31 = X 1 7 := (up2_ne (by omega)).trans (H.r1 (k := 7) (by decide))
    by_cases h19 : op = 19
    · rw [if_pos h19]
      exact Ok.wb (Or.inr rfl) (h 1 (fun _ => rfl) (fun h => absurd (h19.symm.trans h) (by decide)) (fun h => absurd h19 h))
    · rw [if_neg h19]
      by_cases h20 : op = 20
      · rw [if_pos h20]
        exact Ok.wb (Or.inl rfl) (h 0 (fun h => absurd h h19) (fun _ => rfl) (fun _ h => absurd h20 h))
      · rw [if_neg h20, e7]
        by_cases h7 : X 1 7 = 0
        · rw [if_pos h7]
          exact Ok.wb (Or.inl rfl) (h 0 (fun h => absurd h h19) (fun h => absurd h h20) (fun _ _ => h7.symm))
        · rw [if_neg h7]
          exact Ok.wb (Or.inr rfl) (h 1 (fun h => absurd h h19) (fun h => absurd h h20) (fun _ _ => ((hb 7 (by decide) (by decide)).resolve_left h7).symm))
  have HG : ∀ c v, MR e m s I0 (up2 (up2 I m 27 c) m 31 v) (up2 (up2 X 1 3 c) 1 7 v) := fun c v => (H.u1 (k := 3) (v := c) (by decide)).u1 (k := 7) (v := v) (by decide)
  have triv : ¬ op = 24 → ¬ op = 25 → ∀ (J Y : AI), MR e m s I0 J Y → Ok (f233_b152 kad N Z m op (Int32.ofNat d) y J) (fun _ J => MR e m s I0 J Y) := fun h4 h5 J Y h => by
    unfold f233_b152 f233_b220 f233_b246
    rw [if_pos h4, if_pos h5]
    exact Ok.ret h
  unfold f233 f233_b103
  rw [if_pos n21.1, if_pos n21.2, e3]
  unfold sCtl
  by_cases h19 : op = 19
  · rw [if_pos h19, if_pos (show ¬ op = 22 from by rw [h19]; decide)]
    refine on (X 1 3 + 2) _ (fun v hv _ _ => ?_) _ _ rfl
    rw [if_pos (show ¬ op = 23 from by rw [h19]; decide), hv h19]
    have h := HG (X 1 3 + 2) 1
    rw [up2_comm (c := 1) (k := 3) (by decide)] at h
    exact triv (by rw [h19]; decide) (by rw [h19]; decide) _ _ h
  rw [if_neg h19]
  by_cases h20 : op = 20
  · rw [if_pos h20, if_pos (show ¬ op = 22 from by rw [h20]; decide)]
    refine on (X 1 3 + 2) _ (fun v _ hv _ => ?_) _ _ rfl
    rw [if_pos (show ¬ op = 23 from by rw [h20]; decide), hv h20]
    have h := HG (X 1 3 + 2) 0
    rw [up2_comm (c := 1) (k := 3) (by decide)] at h
    exact triv (by rw [h20]; decide) (by rw [h20]; decide) _ _ h
  rw [if_neg h20, if_neg n21.1]
  have s7 : ∀ c, up2 (up2 X 1 3 c) 1 7 (X 1 7) = up2 X 1 3 c := fun c => up2_self (up2_ne (by decide))
  by_cases h22 : op = 22
  · rw [if_pos h22, if_neg (fun h => h h22)]
    have n23 : ¬ op = 23 := by rw [h22]; decide
    have go : Ok (f233_b104 kad N Z m op (Int32.ofNat d) y (2 : Int32) (X 1 3) I) (fun _ J => MR e m s I0 J (sGo X)) := by
      refine on (X 1 3 + 2) _ (fun v _ _ hv => ?_) _ _ rfl
      rw [if_pos n23, hv h19 h20]
      have h := HG (X 1 3 + 2) (X 1 7)
      rw [s7] at h
      exact triv (by rw [h22]; decide) (by rw [h22]; decide) _ _ h
    by_cases h8 : X 1 8 = 0
    · rw [if_neg (fun h => h (e8.trans h8))]
      by_cases h9 : X 1 9 = 0
      · rw [if_neg (fun h => h (e9.trans h9)), if_pos ⟨h8, h9⟩]
        refine on (X 1 3) _ (fun v _ _ hv => ?_) _ _ (by grind)
        rw [if_pos n23, hv h19 h20]
        have h := HG (X 1 3) (X 1 7)
        rw [s7, up2_self rfl] at h
        exact triv (by rw [h22]; decide) (by rw [h22]; decide) _ _ h
      · rw [if_pos (fun h => h9 (e9.symm.trans h)), if_neg (show ¬ (X 1 8 = 0 ∧ X 1 9 = 0) from fun h => h9 h.2)]
        exact go
    · rw [if_pos (fun h => h8 (e8.symm.trans h)), if_neg (show ¬ (X 1 8 = 0 ∧ X 1 9 = 0) from fun h => h8 h.1)]
      exact go
  rw [if_neg h22, if_pos h22]
  refine on (X 1 3 + 2) _ (fun v _ _ hv => ?_) _ _ rfl
  rw [hv h19 h20]
  have hG := HG (X 1 3 + 2) (X 1 7)
  rw [s7] at hG
  generalize up2 (up2 I m 27 (X 1 3 + 2)) m 31 (X 1 7) = J at hG
  by_cases h23 : op = 23
  · rw [if_neg (fun h => h h23), if_pos h23]
    refine Ok.w (Ok.w ?_)
    have h := (hG.u1 (k := 10) (v := y) (by decide)).u1 (k := 11) (v := 0) (by decide)
    rw [up2_comm (c := 1) (k := 3) (by decide), up2_comm (c := 1) (k := 3) (by decide)] at h
    exact triv (by rw [h23]; decide) (by rw [h23]; decide) _ _ h
  rw [if_pos h23, if_neg h23]
  generalize hGG : up2 X 1 3 (X 1 3 + 2) = G at hG
  have gX : ∀ c, ¬ c = 1 → G c = X c := fun c hc => by rw [← hGG, up2_b hc]
  have gk : okK q G := by unfold okK; rw [gX 10 (by decide), gX 12 (by decide)]; exact hK
  have g1 : ∀ k, ¬ k = 3 → G 1 k = X 1 k := fun k hk => by rw [← hGG, up2_ne (by omega)]
  by_cases h24 : op = 24
  · rw [if_pos h24]
    unfold f233_b152
    rw [if_neg (fun h => h h24), M225 hN hG gk, Option.bind_some, show J m 39 = X 1 13 from (hG.r1 (k := 13) (by decide)).trans (g1 13 (by decide))]
    have hce : sCome G (G 1 2) 21 0 = sCome X (X 1 2) 21 0 := by
      rw [g1 2 (by decide), come_eq gk, come_eq hK]
      have : ∀ (n i : Nat), restK G (X 1 2) n i = restK X (X 1 2) n i := fun n => by
        induction n with
        | zero => intro i; rfl
        | succ n ih => intro i; unfold restK; rw [gX 12 (by decide), ih]
      exact this q 0
    unfold sKey
    dsimp only
    rw [hce]
    have hcl : sCome X (X 1 2) 21 0 ≤ q := by rw [come_eq hK]; exact restK_le q 0
    have hq := hK.2.1
    generalize sCome X (X 1 2) 21 0 = cm at hcl
    have e13 : J m 39 = X 1 13 := (hG.r1 (k := 13) (by decide)).trans (g1 13 (by decide))
    unfold f233_b174 f233_b200 f233_b216 f233_b220 f233_b246
    have n25 : ¬ op = 25 := by rw [h24]; decide
    have x3 : G 1 3 = X 1 3 + 2 := by rw [← hGG, up2_eq]
    by_cases hc : cm ≤ r
    · rw [if_pos (show Int32.ofNat cm ≤ X 1 13 from by rw [hr]; exact (of_le (by omega) (by omega)).mpr hc), if_pos rfl, ixA_of hd, Option.bind_some, if_neg (show ¬ X 1 13 < Int32.ofNat cm from by rw [hr]; exact fun hh => absurd ((of_lt (by omega) (by omega)).mp hh) (by omega)), sSet_of hd]
      refine Ok.w ?_
      rw [if_pos rfl, show up2 J (m + 16) d 65535 m 39 = X 1 13 from (up2_ne (by omega)).trans e13]
      refine Ok.w ?_
      rw [if_pos n25]
      refine Ok.ret ?_
      have h := (hG.u2 (v := 65535) hd).u1 (k := 13) (v := X 1 13 + 0) (by decide)
      rw [up2_self (X := up2 G 2 d 65535) (c := 1) (k := 13) (by rw [up2_ne (by omega), g1 13 (by decide)]; grind), ← hGG, up2_comm (c := 1) (k := 3) (by omega)] at h
      unfold sGo
      rw [up2_ne (by omega)]
      exact h
    · have hrq : r < q := by omega
      rw [if_neg (show ¬ Int32.ofNat cm ≤ X 1 13 from by rw [hr]; exact fun hh => absurd ((of_le (by omega) (by omega)).mp hh) hc), if_neg z10, if_pos (show X 1 13 < Int32.ofNat cm from by rw [hr]; exact (of_lt (by omega) (by omega)).mpr (by omega)), e13]
      rw [hr, ixA_of (show r < 20 by omega), Option.bind_some, ixA_of hd, Option.bind_some, hG.k11 gk hrq, gX 11 (by decide), of_s, sub1 (n := r) rfl]
      refine Ok.w ?_
      rw [if_neg z10, show up2 J (m + 16) d (X 11 r) m 39 = Int32.ofNat r from (up2_ne (by omega)).trans (e13.trans hr), of_s]
      refine Ok.w ?_
      rw [if_pos n25]
      refine Ok.ret ?_
      have hv : sKeyV X (Int32.ofNat r) = X 11 r := by
        unfold sKeyV
        rw [if_neg (of_nn (by omega)), if_neg (show ¬ (20 : Int32) ≤ Int32.ofNat r from fun hh => absurd ((of_le (m := 20) (by decide) (by omega)).mp hh) (by omega)), nT_of (by omega)]
      rw [hv, sSet_of hd]
      have h := (hG.u2 (v := X 11 r) hd).u1 (k := 13) (v := Int32.ofNat (r + 1)) (by decide)
      rw [← hGG, up2_comm (c := 1) (k := 3) (by omega), up2_comm (c := 1) (k := 3) (by decide), up2_comm (c := 2) (k := d) (by omega)] at h
      unfold sGo
      rw [up2_ne (by omega), up2_ne (by decide)]
      exact h
  rw [if_neg h24]
  have h25' : op = 25 := by
    rcases ho with h | h | h | h | h | h
    · exact absurd h h19
    · exact absurd h h20
    · exact absurd h h22
    · exact absurd h h23
    · exact absurd h h24
    · exact h
  have ht3 := h25 h25'
  unfold f233_b152 f233_b220 f233_b246
  rw [if_pos h24, if_neg (show ¬ ¬ op = 25 from fun h => h h25'), show J m 37 = Int32.ofNat t from ((hG.r1 (k := 12) (by decide)).trans (g1 12 (by decide))).trans ht, ixA_of ht3, Option.bind_some, if_pos h25']
  refine Ok.w ?_
  rw [show up2 J (m + 17) t y m 37 = Int32.ofNat t from (up2_ne (by omega)).trans (((hG.r1 (k := 12) (by decide)).trans (g1 12 (by decide))).trans ht), of_s]
  refine Ok.w (Ok.ret ?_)
  unfold sTape
  rw [ht, if_neg (of_nn (by omega)), if_pos (show Int32.ofNat t < 60 from (of_lt (n := 60) (by omega) (by decide)).mpr ht3), nT_of (by omega), of_s]
  have h := hG.tp (t := t) (y := y) ((g1 12 (by decide)).trans ht) ht3
  rw [← hGG, up2_comm (c := 1) (k := 3) (by omega), up2_comm (c := 1) (k := 3) (by decide)] at h
  unfold sGo
  rw [up2_ne (by decide), up2_ne (by omega)]
  exact h
end M5
