/-! the class takes a step back -/
def sUndoW (i w : Int32) (m : Nat → Int32) : Nat → Int32 := fun k => if 0 ≤ i ∧ i < 256 ∧ k = nT i then w else m k
def sUM (w : Nat) (p q m : Nat → Int32) : Nat → Int32 := if w = 0 then m else if w = 1 then sUndoW (p 0) (q 0) m else sUndoW (p 0) (q 0) (sUndoW (p 1) (q 1) m)
theorem sUM_cong {w : Nat} {p q p' q' m : Nat → Int32} (hp : ∀ k, k < w → p k = p' k) (hq : ∀ k, k < w → q k = q' k) : sUM w p q m = sUM w p' q' m := by
  unfold sUM
  by_cases h0 : w = 0
  · rw [if_pos h0, if_pos h0]
  · rw [if_neg h0, if_neg h0, hp 0 (by omega), hq 0 (by omega)]
    by_cases h1 : w = 1
    · rw [if_pos h1, if_pos h1]
    · rw [if_neg h1, if_neg h1, hp 1 (by omega), hq 1 (by omega)]
def sUndoM (Y : AI) (m : Nat → Int32) : Nat → Int32 := sUM (nT (Y 20 1)) (Y 26) (Y 27) m
def sUndo (P Y : AI) : AI := fun c k => if c = 1 then Y 21 k else if c = 2 then Y 22 k else if c = 3 then Y 23 k else if c = 4 then Y 24 k else if c = 5 then Y 25 k else if c = 6 then sUndoM Y (P 6) k else if c = 8 ∧ k = 1 then (if Y 20 4 = Int32.ofInt (-1) then P 8 1 else P 8 1 - 1) else if c = 9 then (if ¬ Y 20 4 = Int32.ofInt (-1) ∧ 8 * nT (Y 20 4) ≤ k ∧ k < 8 * nT (Y 20 4) + 8 then Y 28 (k - 8 * nT (Y 20 4)) else P 9 k) else P c k
/-- what is noted of a step -/
def okN (Y : AI) : Prop := (Y 20 1 = Int32.ofNat (nT (Y 20 1)) ∧ nT (Y 20 1) ≤ 2) ∧ (Y 20 4 = Int32.ofInt (-1) ∨ (Y 20 4 = Int32.ofNat (nT (Y 20 4)) ∧ nT (Y 20 4) < 32)) ∧ (∀ k, 5 ≤ k → k ≤ 9 → Y 21 k = 0 ∨ Y 21 k = 1)
def memf (I : AI) (b : Nat) (m : Nat → Int32) : AI := fun c k => if c = b then m k else I c k
theorem memf_id {I : AI} {b : Nat} : memf I b (I b) = I := by
  funext c k
  unfold memf
  split
  · rename_i h; rw [h]
  · rfl
theorem memf_up {I : AI} {b j : Nat} {m : Nat → Int32} {v : Int32} : up2 (memf I b m) b j v = memf I b (fun k => if k = j then v else m k) := by
  funext c k
  unfold up2 memf
  by_cases h : c = b ∧ k = j
  · rw [if_pos h, if_pos h.1]
    dsimp only
    rw [if_pos h.2]
  · rw [if_neg h]
    by_cases h2 : c = b
    · rw [if_pos h2, if_pos h2]
      dsimp only
      rw [if_neg (fun hh => h ⟨h2, hh⟩)]
    · rw [if_neg h2, if_neg h2]
theorem memf_b {I : AI} {b c : Nat} {m : Nat → Int32} (h : ¬ c = b) : memf I b m c = I c := by
  funext k
  unfold memf
  rw [if_neg h]
theorem memf_at {I : AI} {b : Nat} {m : Nat → Int32} : memf I b m b = m := by
  funext k
  unfold memf
  rw [if_pos rfl]
section UN
variable {kad : Nat → Nat} {N : Nat} {Z : AZ} {a κ : Nat} {I : AI}
/-- one noted word is put back -/
theorem C84_1 (hκ : ¬ κ + 6 = a + 6 ∧ ¬ κ + 7 = a + 6) {i F : Nat} (hi : i < 2) (m : Nat → Int32) : f84_b7 kad N Z (F + 1) a κ (Int32.ofNat i) (memf I (a + 6) m) = f84_b46 kad N Z (fun p0 p1 p2 J => f84_b7 kad N Z F p0 p1 p2 J) a κ (Int32.ofNat i) (memf I (a + 6) (sUndoW (I (κ + 6) i) (I (κ + 7) i) m)) := by
  rw [f84_b7]
  rw [if_neg (of_nn (by omega)), if_neg (show ¬ (2 : Int32) ≤ Int32.ofNat i from fun h => absurd ((of_le (m := 2) (by decide) (by omega)).mp h) (by omega)), ixA_of hi, Option.bind_some, memf_b hκ.1]
  have same : ¬ (0 ≤ I (κ + 6) i ∧ I (κ + 6) i < 256) → sUndoW (I (κ + 6) i) (I (κ + 7) i) m = m := fun h => by
    funext k
    unfold sUndoW
    rw [if_neg (fun hh => h ⟨hh.1, hh.2.1⟩)]
  by_cases h0 : I (κ + 6) i < 0
  · rw [if_pos h0, same (fun h => by grind)]
  rw [if_neg h0]
  by_cases h1 : (256 : Int32) ≤ I (κ + 6) i
  · rw [if_pos h1, same (fun h => by grind)]
  have hb := nT_b (n := 256) h0 h1
  rw [if_neg h1, Option.bind_some]
  have e : ixA 256 (I (κ + 6) i) = some (nT (I (κ + 6) i)) := by
    have := ixA_of (n := 256) hb
    rwa [of_nT h0] at this
  rw [e, Option.bind_some, memf_b hκ.2]
  unfold wI
  rw [Option.bind_some, memf_up]
  congr 2
  funext k
  unfold sUndoW
  by_cases hk : k = nT (I (κ + 6) i)
  · rw [if_pos hk, if_pos ⟨by grind, by grind, hk⟩]
  · rw [if_neg hk, if_neg (fun h => hk h.2.2)]
theorem C84_m (hN : 2000 ≤ N) (hκ : ¬ κ + 6 = a + 6 ∧ ¬ κ + 7 = a + 6) {w : Nat} (hw : w ≤ 2) : f84_b7 kad N Z N a κ (Int32.ofNat w - 1) I = f84_b52 kad N Z a κ (memf I (a + 6) (sUM w (I (κ + 6)) (I (κ + 7)) (I (a + 6)))) := by
  obtain ⟨M, rfl⟩ : ∃ G, N = G + 3 := ⟨N - 3, by omega⟩
  have e : I = memf I (a + 6) (I (a + 6)) := memf_id.symm
  have fin : ∀ F J, f84_b7 kad (M + 3) Z (F + 1) a κ (Int32.ofNat 0 + Int32.ofInt (-1)) J = f84_b52 kad (M + 3) Z a κ J := fun F J => by
    rw [f84_b7, if_pos (by decide)]
  match w, hw with
  | 0, _ =>
    show _ = f84_b52 kad (M + 3) Z a κ (memf I (a + 6) (I (a + 6)))
    rw [← e]
    exact fin _ I
  | 1, _ =>
    rw [show Int32.ofNat 1 - 1 = Int32.ofNat 0 from by decide]
    conv => lhs; rw [e]
    rw [C84_1 hκ (by decide)]
    unfold f84_b46
    exact fin _ _
  | 2, _ =>
    rw [show Int32.ofNat 2 - 1 = Int32.ofNat 1 from by decide]
    conv => lhs; rw [e]
    rw [C84_1 hκ (by decide)]
    unfold f84_b46
    rw [show Int32.ofNat 1 + Int32.ofInt (-1) = Int32.ofNat 0 from by decide]
    dsimp only
    rw [C84_1 hκ (by decide)]
    unfold f84_b46
    exact fin _ _
theorem C45_n {d s : Nat} {J : AI} : f45 kad N Z d (Int32.ofInt (-1)) s J = some ((), J) := by
  unfold f45 f45_b42
  rw [if_pos (by decide)]
theorem C45_b {d s b : Nat} {J : AI} (hb : b < 32) (hs : Z.1 s = some (100, 8)) (hd : Z.1 (d + 1) = some (100, 256)) : f45 kad N Z d (Int32.ofNat b) s J = some ((), up2 (cpI J s (d + 1) 0 (8 * b) 8) d 1 (J d 1 - 1)) := by
  unfold f45 f45_b42
  rw [if_neg (of_nn (by omega)), if_neg (show ¬ (32 : Int32) ≤ Int32.ofNat b from fun h => absurd ((of_le (m := 32) (by decide) (by omega)).mp h) (by omega)), nL_of hs (by decide), Option.bind_some, if_neg (show ¬ Int32.ofNat 8 < (8 : Int32) from by decide), m8]
  rw [show cI Z J s (0 : Int32) (d + 1) (Int32.ofNat (8 * b)) (8 : Int32) = some (cpI J s (d + 1) 0 (8 * b) 8) from cI_ok (s := 0) (n := 8) hs hd (by decide) (by omega), Option.bind_some]
  unfold wI
  rw [Option.bind_some, congrFun (cpI_b (show ¬ d = d + 1 by omega)) 1]
theorem C84 (hN : 2000 ≤ N) (ha : sh8 kad Z a) (hκ : sh5 kad Z κ) (hdj : κ + 9 ≤ a ∨ a + 17 ≤ κ) {P Y : AI} (H : RM a I P) (K : RK κ I Y) (hY : okN Y) (hta : nT (Y 21 12) ≤ nT (P 1 12)) : Ok (f84 kad N Z a κ I) (fun _ J => RM a J (sUndo P Y) ∧ (∀ b, ¬ (a < b ∧ b < a + 17) → J b = I b)) := by
  obtain ⟨⟨w1, w2⟩, hbk, hbl⟩ := hY
  have k1 : I κ 1 = Y 20 1 := K 20 1 (by decide) (Or.inl rfl)
  have k4 : I κ 4 = Y 20 4 := K 20 4 (by decide) (Or.inr rfl)
  have hne : ¬ κ + 6 = a + 6 ∧ ¬ κ + 7 = a + 6 := by omega
  unfold f84
  rw [k1]
  generalize hw : nT (Y 20 1) = w at w1 w2
  rw [w1, C84_m hN hne w2]
  have a6 : ∀ k, k < w → I (κ + 6) k = Y 26 k := fun k hk => K 26 k (by decide) (by show k < nT (Y 20 1) ∧ k < 2; omega)
  have a7 : ∀ k, k < w → I (κ + 7) k = Y 27 k := fun k hk => K 27 k (by decide) (by show k < nT (Y 20 1) ∧ k < 2; omega)
  have e6 : (sUM w (I (κ + 6)) (I (κ + 7)) (I (a + 6))) = sUndoM Y (I (a + 6)) := by
    unfold sUndoM
    rw [hw]
    exact sUM_cong a6 a7
  rw [e6]
  unfold f84_b52
  have z9 : Z.1 (a + 8 + 1) = some (100, 256) := sh3_a0 (sh8_s3 ha)
  have zk : Z.1 (κ + 8) = some (100, 8) := sh5_a5 hκ
  have core : ∀ J : AI, (∀ b, ¬ (a + 6 ≤ b ∧ b ≤ a + 9) → J b = I b) → (∀ c k, 6 ≤ c → c < 20 → rel 0 (sUndo P Y) c k → J (a + c) k = sUndo P Y c k) → Ok ((f38 kad N Z (a + 1) (κ + 1) J).bind fun r => some ((), r.2)) (fun _ J => RM a J (sUndo P Y) ∧ (∀ b, ¬ (a < b ∧ b < a + 17) → J b = I b)) := fun J h1 h2 => by
    have g : ∀ c, c < 6 → J (κ + c) = I (κ + c) := fun c hc => h1 _ (by omega)
    rw [C38 (a0 := a + 1) (a1 := κ + 1) (by omega) (fun k h5 h9 => by rw [g 1 (by decide), K 21 k (by decide) (show k < 14 by omega)]; exact hbl k h5 h9), Option.bind_some]
    obtain ⟨s1, s2, s3, s4, s5, s6, s7⟩ := cCore_spec (I := J) (a0 := a + 1) (a1 := κ + 1) (by omega)
    refine Ok.ret ⟨fun c k hc hr => ?_, fun b hb => ?_⟩
    · dsimp only
      have hv := rel_vc hr
      have e23 : J (κ + 1 + 2) 0 = Y 23 0 := by
        rw [show κ + 1 + 2 = κ + 3 from rfl, g 3 (by decide)]
        exact K 23 0 (by decide) (show 0 < 2 by decide)
      by_cases c6 : 6 ≤ c
      · rw [s1 (a + c) (by omega)]
        exact h2 c k c6 hc hr
      · rcases (show c = 1 ∨ c = 2 ∨ c = 3 ∨ c = 4 ∨ c = 5 by omega) with rfl | rfl | rfl | rfl | rfl
        · have hr : k < 14 := hr
          rw [s2 k hr, g 1 (by decide)]
          exact K 21 k (by decide) hr
        · have hr : k < 4 := hr
          rw [show a + 2 = a + 1 + 1 from rfl, s3 k hr, show κ + 1 + 1 = κ + 2 from rfl, g 2 (by decide)]
          exact K 22 k (by decide) hr
        · have hr : k < 2 := hr
          rw [show a + 3 = a + 1 + 2 from rfl, s4 k hr, show κ + 1 + 2 = κ + 3 from rfl, g 3 (by decide)]
          exact K 23 k (by decide) hr
        · have hr : k < nT (Y 23 0) ∧ k < 3 := hr
          rw [show a + 4 = a + 1 + 3 from rfl, s5 k (by rw [e23]; omega) hr.2, show κ + 1 + 3 = κ + 4 from rfl, g 4 (by decide)]
          exact K 24 k (by decide) hr
        · have hr : k < 8 * nT (Y 23 0) ∧ k < 24 := hr
          rw [show a + 5 = a + 1 + 4 from rfl, s6 k (by rw [e23]; omega) hr.2, show κ + 1 + 4 = κ + 5 from rfl, g 5 (by decide)]
          exact K 25 k (by decide) hr
    · dsimp only
      rw [s1 b (by omega), h1 b (by omega)]
  have lo : ∀ c k, 6 ≤ c → c < 20 → ¬ c = 6 → ¬ c = 8 → ¬ c = 9 → rel 0 (sUndo P Y) c k → I (a + c) k = sUndo P Y c k := fun c k h6 h20 n6 n8 n9 hr => by
    have e : sUndo P Y c k = P c k := by
      unfold sUndo
      rw [if_neg (by omega), if_neg (by omega), if_neg (by omega), if_neg (by omega), if_neg (by omega), if_neg (by omega), if_neg (by omega), if_neg (by omega)]
    rw [e]
    refine H c k h20 ?_
    have e10 : sUndo P Y 10 0 = P 10 0 := rfl
    have e112 : sUndo P Y 1 12 = Y 21 12 := rfl
    unfold rel at hr ⊢
    rw [e10, e112] at hr
    split at hr <;> first
      | exact hr
      | exact absurd h6 (by decide)
      | exact absurd h20 (by decide)
      | exact ⟨by have := hr.1; omega, hr.2⟩
  have e6k : ∀ k, sUndo P Y 6 k = sUndoM Y (P 6) k := fun k => rfl
  have m6 : ∀ k, k < 256 → sUndoM Y (I (a + 6)) k = sUndoM Y (P 6) k := fun k hk => by
    have base : ∀ k, k < 256 → I (a + 6) k = P 6 k := fun k hk => H 6 k (by decide) hk
    have st : ∀ (i v : Int32) (m m' : Nat → Int32), (∀ k, k < 256 → m k = m' k) → ∀ k, k < 256 → sUndoW i v m k = sUndoW i v m' k := fun i v m m' h k hk => by
      unfold sUndoW
      split
      · rfl
      · exact h k hk
    unfold sUndoM sUM
    split
    · exact base k hk
    · split
      · exact st _ _ _ _ base k hk
      · exact st _ _ _ _ (fun k hk => st _ _ _ _ base k hk) k hk
  rw [memf_b (show ¬ κ = a + 6 by omega), k4]
  rcases hbk with hb | ⟨hb1, hb2⟩
  · rw [hb, C45_n, Option.bind_some]
    dsimp only
    refine core _ (fun b hb => memf_b (by omega)) (fun c k h6 h20 hr => ?_)
    by_cases n6 : c = 6
    · subst n6
      rw [memf_at, e6k]
      exact m6 k (show k < 256 from hr)
    · rw [memf_b (by omega)]
      by_cases n8 : c = 8
      · subst n8
        obtain rfl : k = 1 := hr
        rw [show sUndo P Y 8 1 = if Y 20 4 = Int32.ofInt (-1) then P 8 1 else P 8 1 - 1 from rfl, if_pos hb]
        exact H 8 1 (by decide) rfl
      · by_cases n9 : c = 9
        · subst n9
          rw [show sUndo P Y 9 k = if ¬ Y 20 4 = Int32.ofInt (-1) ∧ 8 * nT (Y 20 4) ≤ k ∧ k < 8 * nT (Y 20 4) + 8 then Y 28 (k - 8 * nT (Y 20 4)) else P 9 k from rfl, if_neg (fun h => h.1 hb)]
          exact H 9 k (by decide) (show k < 256 from hr)
        · exact lo c k h6 h20 n6 n8 n9 hr
  · have hne4 : ¬ Y 20 4 = Int32.ofInt (-1) := fun h => by
      rw [hb1] at h
      exact of_nn (n := nT (Y 20 4)) (by omega) (by rw [h]; decide)
    generalize hbb : nT (Y 20 4) = b at hb1 hb2
    rw [hb1, C45_b hb2 zk z9, Option.bind_some]
    dsimp only
    refine core _ (fun q hq => by rw [up2_b (by omega), cpI_b (by omega), memf_b (by omega)]) (fun c k h6 h20 hr => ?_)
    by_cases n8 : c = 8
    · subst n8
      obtain rfl : k = 1 := hr
      rw [up2_eq, memf_b (by omega), show sUndo P Y 8 1 = if Y 20 4 = Int32.ofInt (-1) then P 8 1 else P 8 1 - 1 from rfl, if_neg hne4, show I (a + 8) 1 = P 8 1 from H 8 1 (by decide) rfl]
    rw [up2_b (by omega)]
    by_cases n9 : c = 9
    · subst n9
      have hk : k < 256 := hr
      rw [show sUndo P Y 9 k = if ¬ Y 20 4 = Int32.ofInt (-1) ∧ 8 * nT (Y 20 4) ≤ k ∧ k < 8 * nT (Y 20 4) + 8 then Y 28 (k - 8 * nT (Y 20 4)) else P 9 k from rfl, hbb]
      by_cases hin : 8 * b ≤ k ∧ k < 8 * b + 8
      · rw [if_pos ⟨hne4, hin⟩, show a + 9 = a + 8 + 1 from rfl, cpI_at hin, memf_b (by omega), Nat.zero_add]
        exact K 28 (k - 8 * b) (by decide) ⟨by omega, hne4⟩
      · rw [if_neg (fun h => hin h.2), show a + 9 = a + 8 + 1 from rfl, cpI_out hin, memf_b (by omega)]
        exact H 9 k (by decide) hk
    rw [cpI_b (by omega)]
    by_cases n6 : c = 6
    · subst n6
      rw [memf_at, e6k]
      exact m6 k (show k < 256 from hr)
    · rw [memf_b (by omega)]
      exact lo c k h6 h20 n6 n8 n9 hr
end UN
