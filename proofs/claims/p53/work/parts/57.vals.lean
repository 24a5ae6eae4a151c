/-! what the words of a machine are, and that steps keep it -/
def VV (X : AI) : Prop := (bl X ∧ (∀ k, (k = 0 ∨ k = 1 ∨ k = 3 ∨ k = 10 ∨ k = 11) → wd (X 1 k))) ∧ ((∃ p, X 1 4 = Int32.ofNat p ∧ p ≤ 256) ∧ (∃ t, X 1 12 = Int32.ofNat t ∧ t ≤ 60 ∧ ∀ k, k < t → wd (X 7 k)) ∧ (∃ r, X 1 13 = Int32.ofNat r ∧ r ≤ 20)) ∧ ((∀ k, k < 4 → wd (X 2 k)) ∧ (∀ k, k < 256 → wd (X 6 k))) ∧ (nT (X 1 10) = 0 ∨ nT (X 1 11) < nT (X 1 10))
theorem VV.cong {X Y : AI} (h : VV X) (h1 : Y 1 = X 1) (h2 : Y 2 = X 2) (h6 : Y 6 = X 6) (h7 : Y 7 = X 7) : VV Y := by
  unfold VV bl at h ⊢
  rw [h1, h2, h6, h7]
  exact h
theorem VV.o {X : AI} {c k : Nat} {v : Int32} (h : VV X) (hc : ¬ c = 1 ∧ ¬ c = 2 ∧ ¬ c = 6 ∧ ¬ c = 7) : VV (up2 X c k v) :=
  h.cong (up2_b (fun e => hc.1 e.symm)) (up2_b (fun e => hc.2.1 e.symm)) (up2_b (fun e => hc.2.2.1 e.symm)) (up2_b (fun e => hc.2.2.2 e.symm))
/-- a plain word of the core -/
theorem VV.w {X : AI} {k : Nat} {v : Int32} (h : VV X) (hk : k = 0 ∨ k = 1 ∨ k = 3) (hv : wd v) : VV (up2 X 1 k v) := by
  obtain ⟨⟨a1, a2⟩, ⟨⟨p, p1, p2⟩, ⟨t, t1, t2, t3⟩, r, r1, r2⟩, a6, a7⟩ := h
  have e : ∀ j, ¬ j = k → up2 X 1 k v 1 j = X 1 j := fun j hj => up2_ne (fun hh => hj hh.2)
  have o : ∀ c, ¬ c = 1 → up2 X 1 k v c = X c := fun c hc => up2_b hc
  refine ⟨⟨fun j h5 h9 => ?_, fun j hj => ?_⟩, ⟨⟨p, ?_, p2⟩, ⟨t, ?_, t2, ?_⟩, r, ?_, r2⟩, ?_, ?_⟩
  · rw [e j (by omega)]; exact a1 j h5 h9
  · by_cases hjk : j = k
    · subst hjk; rw [up2_eq]; exact hv
    · rw [e j hjk]; exact a2 j hj
  · rw [e 4 (by omega)]; exact p1
  · rw [e 12 (by omega)]; exact t1
  · rw [o 7 (by decide)]; exact t3
  · rw [e 13 (by omega)]; exact r1
  · rw [o 2 (by decide), o 6 (by decide)]; exact a6
  · rw [e 10 (by omega), e 11 (by omega)]; exact a7
theorem VV.b {X : AI} {k : Nat} {v : Int32} (h : VV X) (hk : 5 ≤ k ∧ k ≤ 9) (hv : v = 0 ∨ v = 1) : VV (up2 X 1 k v) := by
  obtain ⟨⟨a1, a2⟩, ⟨⟨p, p1, p2⟩, ⟨t, t1, t2, t3⟩, r, r1, r2⟩, a6, a7⟩ := h
  have e : ∀ j, ¬ j = k → up2 X 1 k v 1 j = X 1 j := fun j hj => up2_ne (fun hh => hj hh.2)
  have o : ∀ c, ¬ c = 1 → up2 X 1 k v c = X c := fun c hc => up2_b hc
  refine ⟨⟨fun j h5 h9 => ?_, fun j hj => ?_⟩, ⟨⟨p, ?_, p2⟩, ⟨t, ?_, t2, ?_⟩, r, ?_, r2⟩, ?_, ?_⟩
  · by_cases hjk : j = k
    · subst hjk; rw [up2_eq]; exact hv
    · rw [e j hjk]; exact a1 j h5 h9
  · rw [e j (by omega)]; exact a2 j hj
  · rw [e 4 (by omega)]; exact p1
  · rw [e 12 (by omega)]; exact t1
  · rw [o 7 (by decide)]; exact t3
  · rw [e 13 (by omega)]; exact r1
  · rw [o 2 (by decide), o 6 (by decide)]; exact a6
  · rw [e 10 (by omega), e 11 (by omega)]; exact a7
theorem VV.s {X : AI} {p : Nat} (h : VV X) (hp : p ≤ 256) : VV (up2 X 1 4 (Int32.ofNat p)) := by
  obtain ⟨⟨a1, a2⟩, ⟨-, ⟨t, t1, t2, t3⟩, r, r1, r2⟩, a6, a7⟩ := h
  have e : ∀ j, ¬ j = 4 → up2 X 1 4 (Int32.ofNat p) 1 j = X 1 j := fun j hj => up2_ne (fun hh => hj hh.2)
  have o : ∀ c, ¬ c = 1 → up2 X 1 4 (Int32.ofNat p) c = X c := fun c hc => up2_b hc
  refine ⟨⟨fun j h5 h9 => ?_, fun j hj => ?_⟩, ⟨⟨p, up2_eq, hp⟩, ⟨t, ?_, t2, ?_⟩, r, ?_, r2⟩, ?_, ?_⟩
  · rw [e j (by omega)]; exact a1 j h5 h9
  · rw [e j (by omega)]; exact a2 j hj
  · rw [e 12 (by omega)]; exact t1
  · rw [o 7 (by decide)]; exact t3
  · rw [e 13 (by omega)]; exact r1
  · rw [o 2 (by decide), o 6 (by decide)]; exact a6
  · rw [e 10 (by omega), e 11 (by omega)]; exact a7
theorem VV.r {X : AI} {r : Nat} (h : VV X) (hr : r ≤ 20) : VV (up2 X 1 13 (Int32.ofNat r)) := by
  obtain ⟨⟨a1, a2⟩, ⟨⟨p, p1, p2⟩, ⟨t, t1, t2, t3⟩, -⟩, a6, a7⟩ := h
  have e : ∀ j, ¬ j = 13 → up2 X 1 13 (Int32.ofNat r) 1 j = X 1 j := fun j hj => up2_ne (fun hh => hj hh.2)
  have o : ∀ c, ¬ c = 1 → up2 X 1 13 (Int32.ofNat r) c = X c := fun c hc => up2_b hc
  refine ⟨⟨fun j h5 h9 => ?_, fun j hj => ?_⟩, ⟨⟨p, ?_, p2⟩, ⟨t, ?_, t2, ?_⟩, r, up2_eq, hr⟩, ?_, ?_⟩
  · rw [e j (by omega)]; exact a1 j h5 h9
  · rw [e j (by omega)]; exact a2 j hj
  · rw [e 4 (by omega)]; exact p1
  · rw [e 12 (by omega)]; exact t1
  · rw [o 7 (by decide)]; exact t3
  · rw [o 2 (by decide), o 6 (by decide)]; exact a6
  · rw [e 10 (by omega), e 11 (by omega)]; exact a7
theorem VV.ti {X : AI} {y z : Int32} (h : VV X) (hy : wd y) (hz : wd z) (hyz : nT y = 0 ∨ nT z < nT y) : VV (up2 (up2 X 1 10 y) 1 11 z) := by
  obtain ⟨⟨a1, a2⟩, ⟨⟨p, p1, p2⟩, ⟨t, t1, t2, t3⟩, r, r1, r2⟩, a6, a7⟩ := h
  have e : ∀ j, ¬ j = 10 → ¬ j = 11 → up2 (up2 X 1 10 y) 1 11 z 1 j = X 1 j := fun j h1 h2 => by rw [up2_ne (fun hh => h2 hh.2), up2_ne (fun hh => h1 hh.2)]
  have o : ∀ c, ¬ c = 1 → up2 (up2 X 1 10 y) 1 11 z c = X c := fun c hc => by rw [up2_b hc, up2_b hc]
  have e10 : up2 (up2 X 1 10 y) 1 11 z 1 10 = y := by rw [up2_ne (by decide), up2_eq]
  have e11 : up2 (up2 X 1 10 y) 1 11 z 1 11 = z := up2_eq
  refine ⟨⟨fun j h5 h9 => ?_, fun j hj => ?_⟩, ⟨⟨p, ?_, p2⟩, ⟨t, ?_, t2, ?_⟩, r, ?_, r2⟩, ?_, ?_⟩
  · rw [e j (by omega) (by omega)]; exact a1 j h5 h9
  · by_cases h1 : j = 10
    · rw [h1, e10]; exact hy
    · by_cases h2 : j = 11
      · rw [h2, e11]; exact hz
      · rw [e j h1 h2]; exact a2 j hj
  · rw [e 4 (by omega) (by omega)]; exact p1
  · rw [e 12 (by omega) (by omega)]; exact t1
  · rw [o 7 (by decide)]; exact t3
  · rw [e 13 (by omega) (by omega)]; exact r1
  · rw [o 2 (by decide), o 6 (by decide)]; exact a6
  · rw [e10, e11]; exact hyz
theorem VV.tp {X : AI} {t : Nat} {w : Int32} (h : VV X) (ht : X 1 12 = Int32.ofNat t) (ht2 : t < 60) (hw : wd w) : VV (up2 (up2 X 7 t w) 1 12 (Int32.ofNat (t + 1))) := by
  obtain ⟨⟨a1, a2⟩, ⟨⟨p, p1, p2⟩, ⟨t', t1, t2, t3⟩, r, r1, r2⟩, a6, a7⟩ := h
  have ett : t' = t := (of_inj (by omega) (by omega)).mp (t1.symm.trans ht)
  subst ett
  have e : ∀ j, ¬ j = 12 → up2 (up2 X 7 t' w) 1 12 (Int32.ofNat (t' + 1)) 1 j = X 1 j := fun j hj => by rw [up2_ne (fun hh => hj hh.2), up2_b (by decide)]
  have o : ∀ c, ¬ c = 1 → ¬ c = 7 → up2 (up2 X 7 t' w) 1 12 (Int32.ofNat (t' + 1)) c = X c := fun c hc h7 => by rw [up2_b hc, up2_b h7]
  refine ⟨⟨fun j h5 h9 => ?_, fun j hj => ?_⟩, ⟨⟨p, ?_, p2⟩, ⟨t' + 1, up2_eq, by omega, fun k hk => ?_⟩, r, ?_, r2⟩, ?_, ?_⟩
  · rw [e j (by omega)]; exact a1 j h5 h9
  · rw [e j (by omega)]; exact a2 j hj
  · rw [e 4 (by omega)]; exact p1
  · rw [up2_b (by decide)]
    by_cases hkt : k = t'
    · subst hkt; rw [up2_eq]; exact hw
    · rw [up2_ne (fun hh => hkt hh.2)]; exact t3 k (by omega)
  · rw [e 13 (by omega)]; exact r1
  · rw [o 2 (by decide) (by decide), o 6 (by decide) (by decide)]; exact a6
  · rw [e 10 (by omega), e 11 (by omega)]; exact a7
theorem VV.r2 {X : AI} {k : Nat} {v : Int32} (h : VV X) (hv : wd v) : VV (up2 X 2 k v) := by
  obtain ⟨⟨a1, a2⟩, ⟨a3, ⟨t, t1, t2, t3⟩, a5⟩, ⟨a6, a8⟩, a7⟩ := h
  have o : ∀ c, ¬ c = 2 → up2 X 2 k v c = X c := fun c hc => up2_b hc
  unfold VV bl
  rw [o 1 (by decide), o 6 (by decide), o 7 (by decide)]
  refine ⟨⟨a1, a2⟩, ⟨a3, ⟨t, t1, t2, t3⟩, a5⟩, ⟨fun j hj => ?_, a8⟩, a7⟩
  by_cases hjk : j = k
  · subst hjk; rw [up2_eq]; exact hv
  · rw [up2_ne (fun hh => hjk hh.2)]; exact a6 j hj
theorem VV.m {X : AI} {k : Nat} {v : Int32} (h : VV X) (hv : wd v) : VV (up2 X 6 k v) := by
  obtain ⟨⟨a1, a2⟩, ⟨a3, ⟨t, t1, t2, t3⟩, a5⟩, ⟨a6, a8⟩, a7⟩ := h
  have o : ∀ c, ¬ c = 6 → up2 X 6 k v c = X c := fun c hc => up2_b hc
  unfold VV bl
  rw [o 1 (by decide), o 2 (by decide), o 7 (by decide)]
  refine ⟨⟨a1, a2⟩, ⟨a3, ⟨t, t1, t2, t3⟩, a5⟩, ⟨a6, fun j hj => ?_⟩, a7⟩
  by_cases hjk : j = k
  · subst hjk; rw [up2_eq]; exact hv
  · rw [up2_ne (fun hh => hjk hh.2)]; exact a8 j hj
theorem VV.sset {X : AI} {i w : Int32} (h : VV X) (hw : wd w) : VV (sSet i w X) := by
  unfold sSet
  split
  · exact h
  · split
    · exact h
    · exact h.r2 hw
theorem VV.srd {X : AI} {i : Int32} (h : VV X) : wd (sRd X i) := by
  unfold sRd
  split
  · exact wd_0
  · rename_i h0
    split
    · exact wd_0
    · rename_i h1
      exact h.2.2.1.2 _ (nT_b (n := 256) h0 h1)
theorem VV.sreg {X : AI} {i : Int32} (h : VV X) : wd (sReg X i) := by
  unfold sReg
  split
  · exact wd_0
  · rename_i h0
    split
    · exact wd_0
    · rename_i h1
      exact h.2.2.1.1 _ (nT_b (n := 4) h0 h1)
theorem VV.go {X : AI} (h : VV X) (hc : nT (X 1 3) ≤ 60000) : VV (sGo X) := by
  unfold sGo
  have e := of_nT (wd_nn (h.1.2 3 (by omega)))
  refine h.w (by omega) ?_
  rw [← e, show Int32.ofNat (nT (X 1 3)) + (2 : Int32) = Int32.ofNat (nT (X 1 3) + 2) from eA _ 2]
  exact wd_nat (by omega)
theorem VV.fail {X : AI} {x : Int32} (h : VV X) (hx : wd x) : VV (sFail x X) := (h.w (k := 0) (by omega) (wd_nat (n := 3) (by decide))).w (k := 1) (by omega) hx
theorem VV.wr {X : AI} {i w : Int32} (h : VV X) (hw : wd w) : VV (sWr i w X) := by
  have hn : ∀ v, VV (sNote i v X) := fun v => h.cong (sNote_o (by decide)) (sNote_o (by decide)) (sNote_o (by decide)) (sNote_o (by decide))
  unfold sWr
  split
  · exact h
  · split
    · exact h
    · exact (hn _).m hw
theorem VV.push {X : AI} {w : Int32} (h : VV X) (hw : wd w) (hp : (1 : Int32) ≤ X 1 4) : VV (sPush w X) ∧ ∃ p, X 1 4 = Int32.ofNat (p + 1) ∧ p < 256 ∧ sPush w X 1 4 = Int32.ofNat p := by
  obtain ⟨p, p1, p2⟩ := h.2.1.1
  have hp1 : 1 ≤ p := by
    rw [p1] at hp
    exact (of_le (m := 1) (by decide) (by omega)).mp hp
  obtain ⟨p, rfl⟩ : ∃ q, p = q + 1 := ⟨p - 1, by omega⟩
  have e : X 1 4 - 1 = Int32.ofNat p := sub1 p1
  unfold sPush
  rw [e]
  refine ⟨(h.s (by omega)).wr hw, p, p1, by omega, ?_⟩
  rw [sWr_o (by decide), up2_eq]
theorem VV.pull {X : AI} (h : VV X) (hp : X 1 4 + 1 ≤ 256) : VV (sPullX X) ∧ wd (sPullV X) := by
  obtain ⟨p, p1, p2⟩ := h.2.1.1
  have e : X 1 4 + 1 = Int32.ofNat (p + 1) := by rw [p1, of_s]
  have hp1 : p + 1 ≤ 256 := by
    rw [e] at hp
    exact (of_le (n := 256) (by omega) (by decide)).mp hp
  unfold sPullX sPullV
  rw [e]
  exact ⟨h.s hp1, h.srd⟩
theorem wd_lit {n : Nat} (h : n ≤ 65535 := by decide) : wd (Int32.ofNat n) := wd_nat h
theorem wd_1 : wd 1 := wd_nat (n := 1) (by decide)
theorem wd_zl {X : AI} : wd (sZL X) := by
  unfold sZL
  split <;> split
  · exact wd_nat (n := 0) (by decide)
  · exact wd_nat (n := 2) (by decide)
  · exact wd_nat (n := 1) (by decide)
  · exact wd_nat (n := 3) (by decide)
theorem sLess_b {op : Int32} {r : Int64} : sLess op r = 0 ∨ sLess op r = 1 := by
  unfold sLess
  split
  · exact Or.inl rfl
  · split
    · exact Or.inr rfl
    · split
      · exact Or.inl rfl
      · exact Or.inr rfl
theorem ite_b {c : Prop} [Decidable c] : (if c then (0 : Int32) else 1) = 0 ∨ (if c then (0 : Int32) else 1) = 1 := by
  split
  · exact Or.inl rfl
  · exact Or.inr rfl
theorem ite_b2 {c : Prop} [Decidable c] : (if c then (1 : Int32) else 0) = 0 ∨ (if c then (1 : Int32) else 0) = 1 := by
  split
  · exact Or.inr rfl
  · exact Or.inl rfl
section VI
variable {X : AI}
theorem VV.move {op d y : Int32} (h : VV X) (hc : nT (X 1 3) ≤ 254) (hy : wd y) : VV (sMove op d y X) := by
  have s1 : ∀ w, sSet d w X 1 = X 1 := fun w => sSet_o (by decide)
  unfold sMove
  split
  · exact h.w (by omega) (wd_nat (n := 2) (by decide))
  split
  · exact (h.sset hy).go (by rw [s1]; omega)
  split
  · split
    · exact (h.sset h.srd).go (by rw [s1]; omega)
    · exact (h.wr h.sreg).go (by rw [sWr_o (by decide)]; omega)
  · exact h.fail wd_1
theorem VV.calc {op d y : Int32} (h : VV X) (hc : nT (X 1 3) ≤ 254) : VV (sCalc op d y X) := by
  unfold sCalc
  dsimp only
  have hY := (h.b (k := 6) (by omega) (sLess_b (op := op) (r := sMade op (sReg X d) y))).b (k := 5) (by omega) (ite_b2 (c := sW16 (sMade op (sReg X d) y) = 0))
  split
  · exact hY.go (by rw [up2_ne (by decide), up2_ne (by decide)]; omega)
  · exact (hY.sset (sW16_wd _)).go (by rw [sSet_o (by decide), up2_ne (by decide), up2_ne (by decide)]; omega)
theorem VV.jump {op y : Int32} (h : VV X) (hc : nT (X 1 3) ≤ 254) (hy : wd y) : VV (sJump op y X) := by
  unfold sJump
  split
  · exact h.go (by omega)
  · exact h.w (by omega) hy
theorem sPush_13 {w : Int32} : sPush w X 1 3 = X 1 3 := sPush_lo (by decide) (by decide) (by decide)
theorem VV.stack {op d y : Int32} (h : VV X) (hc : nT (X 1 3) ≤ 254) (hy : wd y) : VV (sStack op d y X) := by
  have w3 : wd 3 := wd_nat (n := 3) (by decide)
  have c2 : wd (X 1 3 + 2) := by
    rw [← of_nT (wd_nn (h.1.2 3 (by omega))), show Int32.ofNat (nT (X 1 3)) + (2 : Int32) = Int32.ofNat (nT (X 1 3) + 2) from eA _ 2]
    exact wd_nat (by omega)
  unfold sStack
  split
  · split
    · rename_i hp
      exact (h.push c2 hp).1.w (by omega) hy
    · exact h.fail w3
  split
  · split
    · rename_i hp
      exact (h.push hy hp).1.go (by rw [sPush_13]; omega)
    · exact h.fail w3
  split
  · rename_i hp
    obtain ⟨a, b⟩ := h.pull hp
    split
    · exact a.w (by omega) b
    · refine (a.sset b).go ?_
      rw [sSet_o (by decide)]
      unfold sPullX
      rw [up2_ne (by decide)]
      omega
  · exact h.fail w3
theorem VV.rti (h : VV X) : VV (sRti X) := by
  unfold sRti
  split
  · rename_i hp
    obtain ⟨p, p1, p2⟩ := h.2.1.1
    have e2 : X 1 4 + 2 = Int32.ofNat (p + 2) := by rw [p1, show Int32.ofNat p + (2 : Int32) = Int32.ofNat (p + 2) from eA _ 2]
    have hp2 : p + 2 ≤ 256 := by
      rw [e2] at hp
      exact (of_le (n := 256) (by omega) (by decide)).mp hp
    have e1 : X 1 4 + 1 = Int32.ofNat (p + 1) := by rw [p1, of_s]
    obtain ⟨a, b⟩ := h.pull (by rw [e1]; exact (of_le (n := 256) (by omega) (by decide)).mpr (by omega))
    dsimp only
    have hY := (a.b (k := 5) (by omega) (ite_b (c := sPullV X &&& 1 = 0))).b (k := 6) (by omega) (ite_b (c := sPullV X &&& 2 = 0))
    have g4 : up2 (up2 (sPullX X) 1 5 (if sPullV X &&& 1 = 0 then 0 else 1)) 1 6 (if sPullV X &&& 2 = 0 then 0 else 1) 1 4 = Int32.ofNat (p + 1) := by
      rw [up2_ne (by decide), up2_ne (by decide)]
      unfold sPullX
      rw [up2_eq, e1]
    obtain ⟨a2, b2⟩ := hY.pull (by rw [g4, of_s]; exact (of_le (n := 256) (by omega) (by decide)).mpr (by omega))
    exact (a2.w (k := 3) (by omega) b2).b (k := 7) (by omega) (Or.inr rfl)
  · exact h.fail (wd_nat (n := 3) (by decide))
theorem VV.int (h : VV X) : VV (sInt X) := by
  unfold sInt
  split
  · rename_i hp
    dsimp only
    have hp1 : (1 : Int32) ≤ X 1 4 := by grind
    have hY : VV (if X 1 8 = 0 then up2 X 1 9 0 else up2 X 1 8 0) := by
      split
      · exact h.b (by omega) (Or.inl rfl)
      · exact h.b (by omega) (Or.inl rfl)
    have g4 : (if X 1 8 = 0 then up2 X 1 9 0 else up2 X 1 8 0) 1 4 = X 1 4 := by
      split <;> exact up2_ne (by decide)
    generalize (if X 1 8 = 0 then up2 X 1 9 0 else up2 X 1 8 0) = Y at hY g4
    obtain ⟨a1, p, q1, q2, q3⟩ := hY.push (hY.1.2 3 (by omega)) (by rw [g4]; exact hp1)
    have hp2 : 1 ≤ p := by
      rw [← g4, q1] at hp
      have := (of_le (m := 2) (by decide) (by omega)).mp hp
      omega
    obtain ⟨a2, -⟩ := a1.push (wd_zl (X := sPush (Y 1 3) Y)) (by rw [q3]; exact (of_le (m := 1) (by decide) (by omega)).mpr hp2)
    have a3 := a2.b (k := 7) (by omega) (Or.inl rfl)
    exact a3.w (by omega) a3.srd
  · exact h.fail (wd_nat (n := 3) (by decide))
theorem VV.key {d : Int32} {q : Nat} (h : VV X) (hc : nT (X 1 3) ≤ 254) (hK : okK q X) (hk : ∀ k, k < q → wd (X 11 k)) : VV (sKey d X) := by
  obtain ⟨r, r1, r2⟩ := h.2.1.2.2
  unfold sKey
  split
  · rename_i hlt
    have hcl : sCome X (X 1 2) 21 0 ≤ q := by rw [come_eq hK]; exact restK_le q 0
    have hq := hK.2.1
    rw [r1] at hlt
    have hr := (of_lt (by omega) (by omega)).mp hlt
    have e : X 1 13 + 1 - 1 = Int32.ofNat r := by rw [r1]; grind
    have hv : wd (sKeyV X (X 1 13 + 1 - 1)) := by
      rw [e]
      unfold sKeyV
      rw [if_neg (of_nn (by omega)), if_neg (show ¬ (20 : Int32) ≤ Int32.ofNat r from fun hh => absurd ((of_le (m := 20) (by decide) (by omega)).mp hh) (by omega)), nT_of (by omega)]
      exact hk r (by omega)
    have h1 : VV (up2 X 1 13 (X 1 13 + 1)) := by
      rw [r1, of_s]
      exact h.r (by omega)
    exact (h1.sset hv).go (by rw [sSet_o (by decide), up2_ne (by decide)]; omega)
  · exact (h.sset (wd_nat (n := 65535) (by decide))).go (by rw [sSet_o (by decide)]; omega)
theorem VV.tape {w : Int32} (h : VV X) (hc : nT (X 1 3) ≤ 254) (hw : wd w) : VV (sTape w X) := by
  obtain ⟨t, t1, t2, t3⟩ := h.2.1.2.1
  unfold sTape
  split
  · exact h.fail (wd_nat (n := 4) (by decide))
  · split
    · rename_i h0 hlt
      rw [t1] at hlt ⊢
      have ht := (of_lt (n := 60) (by omega) (by decide)).mp hlt
      rw [nT_of (by omega), of_s]
      exact (h.tp t1 ht hw).go (by rw [up2_ne (by decide), up2_b (by decide)]; omega)
    · exact h.fail (wd_nat (n := 4) (by decide))
end VI
