/-! the kept step is begun -/
theorem cpI_s {I : AI} {a0 a1 n : Nat} (h : ¬ a1 = a0) : up2 (cpI I a1 a0 0 0 n) a0 n (I a1 n) = cpI I a1 a0 0 0 (n + 1) := by
  funext c k
  unfold up2 cpI
  by_cases hc : c = a0 ∧ k = n
  · rw [if_pos hc, if_pos (by omega), hc.2]
    congr 1
    omega
  · rw [if_neg hc]
    by_cases h2 : c = a0 ∧ 0 ≤ k ∧ k < 0 + n
    · rw [if_pos h2, if_pos (by omega)]
    · rw [if_neg h2, if_neg (by omega)]
theorem cpI_0 {I : AI} {a0 a1 : Nat} : cpI I a1 a0 0 0 0 = I := by
  funext c k
  unfold cpI
  rw [if_neg (by omega)]
theorem cpI_w {I : AI} {a0 a1 n : Nat} (h : ¬ a1 = a0) : wI (cpI I a1 a0 0 0 n) a0 n (cpI I a1 a0 0 0 n a1 n) = some (cpI I a1 a0 0 0 (n + 1)) := by
  unfold wI
  rw [congrFun (cpI_b h) n, cpI_s h]
theorem cpI_wb {I : AI} {a0 a1 n : Nat} (h : ¬ a1 = a0) (hb : I a1 n = 0 ∨ I a1 n = 1) : wB (cpI I a1 a0 0 0 n) a0 n (cpI I a1 a0 0 0 n a1 n) = some (cpI I a1 a0 0 0 (n + 1)) := by
  unfold wB
  rw [congrFun (cpI_b h) n, if_pos hb, cpI_s h]
def cCore0 (I : AI) (a1 a0 : Nat) : AI := cpI (cpI (cpI I a1 a0 0 0 14) (a1 + 1) (a0 + 1) 0 0 4) (a1 + 2) (a0 + 2) 0 0 2
def cCore (I : AI) (a1 a0 : Nat) : AI := if cCore0 I a1 a0 (a0 + 2) 0 ≤ 0 then cCore0 I a1 a0 else cpI (cpI (cCore0 I a1 a0) (a1 + 3) (a0 + 3) 0 0 3) (a1 + 4) (a0 + 4) 0 0 24
theorem C62 {kad : Nat → Nat} {N : Nat} {Z : AZ} {a0 a1 : Nat} {I : AI} (h : a0 + 5 ≤ a1 ∨ a1 + 5 ≤ a0) : f62 kad N Z (a0 + 2) (a1 + 2) I = some ((), if cpI I (a1 + 2) (a0 + 2) 0 0 2 (a0 + 2) 0 ≤ 0 then cpI I (a1 + 2) (a0 + 2) 0 0 2 else cpI (cpI (cpI I (a1 + 2) (a0 + 2) 0 0 2) (a1 + 3) (a0 + 3) 0 0 3) (a1 + 4) (a0 + 4) 0 0 24) := by
  have e0 := cpI_w (I := I) (a0 := a0 + 2) (a1 := a1 + 2) (n := 0) (by omega)
  have e1 := cpI_w (I := I) (a0 := a0 + 2) (a1 := a1 + 2) (n := 1) (by omega)
  rw [cpI_0] at e0
  unfold f62 f62_b59
  rw [e0, Option.bind_some, e1, Option.bind_some]
  show (if cpI I (a1 + 2) (a0 + 2) 0 0 2 (a0 + 2) 0 ≤ 0 then _ else _) = _
  split
  · rfl
  · rw [show cA (cpI I (a1 + 2) (a0 + 2) 0 0 2) (a1 + 2 + 1) 3 (0 : Int32) (a0 + 2 + 1) 3 (0 : Int32) (3 : Int32) = some (cpI (cpI I (a1 + 2) (a0 + 2) 0 0 2) (a1 + 3) (a0 + 3) 0 0 3) from cA_ok (s := 0) (d := 0) (n := 3) (by decide) (by decide), Option.bind_some]
    rw [show ∀ J : AI, cA J (a1 + 2 + 2) 24 (0 : Int32) (a0 + 2 + 2) 24 (0 : Int32) (24 : Int32) = some (cpI J (a1 + 4) (a0 + 4) 0 0 24) from fun J => cA_ok (s := 0) (d := 0) (n := 24) (by decide) (by decide), Option.bind_some]
theorem C38 {kad : Nat → Nat} {N : Nat} {Z : AZ} {a0 a1 : Nat} {I : AI} (h : a0 + 5 ≤ a1 ∨ a1 + 5 ≤ a0) (hb : ∀ k, 5 ≤ k → k ≤ 9 → I a1 k = 0 ∨ I a1 k = 1) : f38 kad N Z a0 a1 I = some ((), cCore I a1 a0) := by
  have hn : ¬ a1 = a0 := by omega
  have e0 := cpI_w (I := I) (n := 0) hn
  rw [cpI_0] at e0
  unfold f38
  rw [e0, Option.bind_some, cpI_w hn, Option.bind_some, cpI_w hn, Option.bind_some, cpI_w hn, Option.bind_some, cpI_w hn, Option.bind_some]
  rw [cpI_wb hn (hb 5 (by decide) (by decide)), Option.bind_some, cpI_wb hn (hb 6 (by decide) (by decide)), Option.bind_some, cpI_wb hn (hb 7 (by decide) (by decide)), Option.bind_some, cpI_wb hn (hb 8 (by decide) (by decide)), Option.bind_some, cpI_wb hn (hb 9 (by decide) (by decide)), Option.bind_some]
  rw [cpI_w hn, Option.bind_some, cpI_w hn, Option.bind_some, cpI_w hn, Option.bind_some, cpI_w hn, Option.bind_some]
  rw [show ∀ J : AI, cA J (a1 + 1) 4 (0 : Int32) (a0 + 1) 4 (0 : Int32) (4 : Int32) = some (cpI J (a1 + 1) (a0 + 1) 0 0 4) from fun J => cA_ok (s := 0) (d := 0) (n := 4) (by decide) (by decide), Option.bind_some]
  rw [C62 h, Option.bind_some]
  rfl
/-- what a core's copy is like -/
theorem cCore_spec {I : AI} {a0 a1 : Nat} (h : a0 + 5 ≤ a1 ∨ a1 + 5 ≤ a0) : (∀ b, ¬ (a0 ≤ b ∧ b < a0 + 5) → cCore I a1 a0 b = I b) ∧ (∀ k, k < 14 → cCore I a1 a0 a0 k = I a1 k) ∧ (∀ k, k < 4 → cCore I a1 a0 (a0 + 1) k = I (a1 + 1) k) ∧ (∀ k, k < 2 → cCore I a1 a0 (a0 + 2) k = I (a1 + 2) k) ∧ (∀ k, 0 < nT (I (a1 + 2) 0) → k < 3 → cCore I a1 a0 (a0 + 3) k = I (a1 + 3) k) ∧ (∀ k, 0 < nT (I (a1 + 2) 0) → k < 24 → cCore I a1 a0 (a0 + 4) k = I (a1 + 4) k) ∧ (∀ k, 14 ≤ k → cCore I a1 a0 a0 k = I a0 k) := by
  have c0 : ∀ b, ¬ b = a0 → ¬ b = a0 + 1 → ¬ b = a0 + 2 → cCore0 I a1 a0 b = I b := fun b h1 h2 h3 => by
    unfold cCore0
    rw [cpI_b h3, cpI_b h2, cpI_b h1]
  have c1 : ∀ k, k < 14 → cCore0 I a1 a0 a0 k = I a1 k := fun k hk => by
    unfold cCore0
    rw [cpI_b (by omega), cpI_b (by omega), cpI_at (by omega)]
    congr 1
    omega
  have c1' : ∀ k, 14 ≤ k → cCore0 I a1 a0 a0 k = I a0 k := fun k hk => by
    unfold cCore0
    rw [cpI_b (by omega), cpI_b (by omega), cpI_out (by omega)]
  have c2 : ∀ k, k < 4 → cCore0 I a1 a0 (a0 + 1) k = I (a1 + 1) k := fun k hk => by
    unfold cCore0
    rw [cpI_b (by omega), cpI_at (by omega), cpI_b (by omega)]
    congr 1
    omega
  have c3 : ∀ k, k < 2 → cCore0 I a1 a0 (a0 + 2) k = I (a1 + 2) k := fun k hk => by
    unfold cCore0
    rw [cpI_at (by omega), cpI_b (by omega), cpI_b (by omega)]
    congr 1
    omega
  have cc : ∀ b, ¬ b = a0 + 3 → ¬ b = a0 + 4 → cCore I a1 a0 b = cCore0 I a1 a0 b := fun b h1 h2 => by
    unfold cCore
    split
    · rfl
    · rw [cpI_b h2, cpI_b h1]
  have hpos : ∀ (_ : 0 < nT (I (a1 + 2) 0)), ¬ cCore0 I a1 a0 (a0 + 2) 0 ≤ 0 := fun hp hle => by
    rw [c3 0 (by decide)] at hle
    have := nT_le (i := 0) (by decide) hle
    omega
  refine ⟨fun b hb => ?_, fun k hk => ?_, fun k hk => ?_, fun k hk => ?_, fun k hp hk => ?_, fun k hp hk => ?_, fun k hk => ?_⟩
  · rw [cc b (by omega) (by omega), c0 b (by omega) (by omega) (by omega)]
  · rw [cc _ (by omega) (by omega), c1 k hk]
  · rw [cc _ (by omega) (by omega), c2 k hk]
  · rw [cc _ (by omega) (by omega), c3 k hk]
  · unfold cCore
    rw [if_neg (hpos hp), cpI_b (by omega), cpI_at (by omega), c0 _ (by omega) (by omega) (by omega)]
    congr 1
    omega
  · unfold cCore
    rw [if_neg (hpos hp), cpI_at (by omega), cpI_b (by omega), c0 _ (by omega) (by omega) (by omega)]
    congr 1
    omega
  · rw [cc _ (by omega) (by omega), c1' k hk]
/-- the machine without its kept step -/
def RM (a : Nat) (I X : AI) : Prop := ∀ c k, c < 20 → rel 0 X c k → I (a + c) k = X c k
def RK (κ : Nat) (I X : AI) : Prop := ∀ c k, 20 ≤ c → rel 0 X c k → I (κ + (c - 20)) k = X c k
def bl (X : AI) : Prop := ∀ k, 5 ≤ k → k ≤ 9 → X 1 k = 0 ∨ X 1 k = 1
def sBegin (X : AI) : AI := fun c k => if c = 21 then X 1 k else if c = 22 then X 2 k else if c = 23 then X 3 k else if c = 24 then X 4 k else if c = 25 then X 5 k else if c = 20 ∧ k = 4 then Int32.ofInt (-1) else if c = 20 ∧ k = 1 then 0 else X c k
theorem sBegin_lo {X : AI} {c : Nat} (h : c < 20) : sBegin X c = X c := by
  funext k
  unfold sBegin
  rw [if_neg (by omega), if_neg (by omega), if_neg (by omega), if_neg (by omega), if_neg (by omega), if_neg (by omega), if_neg (by omega)]
section BG
variable {kad : Nat → Nat} {N : Nat} {Z : AZ} {a κ : Nat} {I0 I X : AI}
theorem C83_b (hd : κ + 9 ≤ a ∨ a + 17 ≤ κ) (hk : Z.2.1 a 7 (I a 7) = κ) (hb : bl X) (H : RM a I X) : Ok (f67 kad N Z κ (a + 1) I) (fun _ J => RC 0 Z a κ I J (sBegin X)) := by
  have hdis : κ + 1 + 5 ≤ a + 1 ∨ a + 1 + 5 ≤ κ + 1 := by omega
  unfold f67
  rw [C38 (a0 := κ + 1) (a1 := a + 1) hdis (fun k h1 h2 => by rw [H 1 k (by decide) (show k < 14 by omega)]; exact hb k h1 h2), Option.bind_some]
  refine Ok.w (Ok.w (Ok.ret ?_))
  obtain ⟨s1, s2, s3, s4, s5, s6, s7⟩ := cCore_spec (I := I) hdis
  generalize cCore I (a + 1) (κ + 1) = J at s1 s2 s3 s4 s5 s6 s7
  have lo : ∀ c, c < 17 → up2 (up2 J κ 1 0) κ 4 (Int32.ofInt (-1)) (a + c) = I (a + c) := fun c hc => by
    rw [up2_b (by omega), up2_b (by omega)]
    exact s1 _ (by omega)
  have e30 : I (a + 3) 0 = X 3 0 := H 3 0 (by decide) (show 0 < 2 by decide)
  refine ⟨?_, hd, fun b h1 h2 => ?_, fun c k hr => ?_⟩
  · rw [show up2 (up2 J κ 1 0) κ 4 (Int32.ofInt (-1)) a = I a from lo 0 (by decide)]
    exact hk
  · rw [up2_b (by omega), up2_b (by omega)]
    exact s1 _ (by omega)
  · have w : ∀ b, ¬ b = κ → up2 (up2 J κ 1 0) κ 4 (Int32.ofInt (-1)) b = J b := fun b hb => by rw [up2_b hb, up2_b hb]
    by_cases hc : c < 20
    · have hr2 : rel 0 X c k := by
        have e3 : sBegin X 3 = X 3 := sBegin_lo (by decide)
        have e1 : sBegin X 1 = X 1 := sBegin_lo (by decide)
        have e10 : sBegin X 10 = X 10 := sBegin_lo (by decide)
        unfold rel at hr ⊢
        rw [e3, e1, e10] at hr
        split at hr <;> first
          | exact hr
          | exact absurd hc (by decide)
      have hv := rel_vc hr2
      rw [show loc a κ c = a + c from by unfold loc; rw [if_pos hc], lo c (by omega), sBegin_lo hc]
      exact H c k hc hr2
    · rw [show loc a κ c = κ + (c - 20) from by unfold loc; rw [if_neg hc]]
      have g0 : sBegin X 23 0 = X 3 0 := rfl
      have g1 : sBegin X 20 1 = 0 := rfl
      have g4 : sBegin X 20 4 = Int32.ofInt (-1) := rfl
      unfold rel at hr
      rw [g0, g1, g4] at hr
      split at hr <;> first
        | exact absurd (by decide) hc
        | exact hr.elim
        | skip
      · rcases hr with rfl | rfl
        · show up2 (up2 J κ 1 0) κ 4 (Int32.ofInt (-1)) κ 1 = 0
          rw [up2_ne (show ¬ (κ = κ ∧ 1 = 4) from by omega), up2_eq]
        · show up2 (up2 J κ 1 0) κ 4 (Int32.ofInt (-1)) κ 4 = Int32.ofInt (-1)
          rw [up2_eq]
      · show up2 (up2 J κ 1 0) κ 4 (Int32.ofInt (-1)) (κ + 1) k = X 1 k
        rw [w _ (by omega), s2 k hr]
        exact H 1 k (by decide) hr
      · show up2 (up2 J κ 1 0) κ 4 (Int32.ofInt (-1)) (κ + 2) k = X 2 k
        rw [w _ (by omega), show κ + 2 = κ + 1 + 1 from rfl, s3 k hr]
        exact H 2 k (by decide) hr
      · show up2 (up2 J κ 1 0) κ 4 (Int32.ofInt (-1)) (κ + 3) k = X 3 k
        rw [w _ (by omega), show κ + 3 = κ + 1 + 2 from rfl, s4 k hr]
        exact H 3 k (by decide) hr
      · show up2 (up2 J κ 1 0) κ 4 (Int32.ofInt (-1)) (κ + 4) k = X 4 k
        rw [w _ (by omega), show κ + 4 = κ + 1 + 3 from rfl, s5 k (by rw [show I (a + 1 + 2) 0 = X 3 0 from e30]; omega) hr.2]
        exact H 4 k (by decide) hr
      · show up2 (up2 J κ 1 0) κ 4 (Int32.ofInt (-1)) (κ + 5) k = X 5 k
        rw [w _ (by omega), show κ + 5 = κ + 1 + 4 from rfl, s6 k (by rw [show I (a + 1 + 2) 0 = X 3 0 from e30]; omega) hr.2]
        exact H 5 k (by decide) hr
      · exact absurd hr.1 (by rw [show nT (0 : Int32) = 0 from by decide]; omega)
      · exact absurd hr.1 (by rw [show nT (0 : Int32) = 0 from by decide]; omega)
      · exact absurd rfl hr.2
end BG
