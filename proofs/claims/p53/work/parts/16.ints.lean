/-! the cells as numbers: a fixed shape, and a number for each place -/
abbrev AI : Type := Nat → Nat → Int32
/-- kind and length at an address; what a reference's number means; the number of a reference -/
abbrev AZ : Type := (Nat → Option (Nat × Nat)) × ((Nat → Nat → Int32 → Nat) × (Nat → Nat → Nat → Int32))
def aRfT : FieldType → Bool
  | .object _ => true
  | .array _ => true
  | _ => false
def aRf (ci k : Nat) : Bool := if ci < 100 then aRfT (aTyF ci k) else decide (103 ≤ ci)
def aEnt (Z : AZ) (I : AI) (a : Nat) (kl : Nat × Nat) : AEnt := (kl.1, (kl.2, fun k => if aRf kl.1 k = true then .ref (Z.2.1 a k (I a k)) else .int (I a k)))
def aMem (Z : AZ) (I : AI) : AMem := fun a => match Z.1 a with
  | none => none
  | some kl => some (aEnt Z I a kl)
def up2 (I : AI) (a k : Nat) (x : Int32) : AI := fun b j => if b = a ∧ j = k then x else I b j
def gI (Z : AZ) (I : AI) (ci k a : Nat) : Option Int32 := match Z.1 a with
  | some kl => if kl.1 = ci then some (I a k) else none
  | none => none
def gR (Z : AZ) (I : AI) (ci k a : Nat) : Option Nat := match Z.1 a with
  | some kl => if kl.1 = ci then some (Z.2.1 a k (I a k)) else none
  | none => none
def pI (Z : AZ) (I : AI) (ci k a : Nat) (x : Int32) : Option AI := match Z.1 a with
  | some kl => if kl.1 = ci then some (up2 I a k x) else none
  | none => none
def pB (Z : AZ) (I : AI) (ci k a : Nat) (x : Int32) : Option AI := match Z.1 a with
  | some kl => if kl.1 = ci ∧ (x = 0 ∨ x = 1) then some (up2 I a k x) else none
  | none => none
def pR (Z : AZ) (I : AI) (ci k a b : Nat) : Option AI := match Z.1 a with
  | some kl => if kl.1 = ci ∧ Z.2.1 a k (Z.2.2 a k b) = b then some (up2 I a k (Z.2.2 a k b)) else none
  | none => none
def lI (Z : AZ) (I : AI) (kd a : Nat) (i : Int32) : Option Int32 := match Z.1 a with
  | some kl => if kl.1 = kd ∧ ¬ (i < 0 ∨ kl.2 ≤ i.toNatClampNeg) then some (I a i.toNatClampNeg) else none
  | none => none
def lR (Z : AZ) (I : AI) (a : Nat) (i : Int32) : Option Nat := match Z.1 a with
  | some kl => if (103 ≤ kl.1 ∧ kl.1 ≤ 105) ∧ ¬ (i < 0 ∨ kl.2 ≤ i.toNatClampNeg) then some (Z.2.1 a i.toNatClampNeg (I a i.toNatClampNeg)) else none
  | none => none
def sI (Z : AZ) (I : AI) (kd a : Nat) (i x : Int32) : Option AI := match Z.1 a with
  | some kl => if kl.1 = kd ∧ ¬ (i < 0 ∨ kl.2 ≤ i.toNatClampNeg) ∧ (kd = 101 → x = 0 ∨ x = 1) then some (up2 I a i.toNatClampNeg x) else none
  | none => none
def nL (Z : AZ) (a : Nat) : Option Int32 := match Z.1 a with
  | some kl => if 100 ≤ kl.1 ∧ kl.1 ≤ 105 then some (Int32.ofNat kl.2) else none
  | none => none
def cpI (I : AI) (a0 a1 sp dp n : Nat) : AI := fun b j => if b = a1 ∧ dp ≤ j ∧ j < dp + n then I a0 (sp + (j - dp)) else I b j
def cI (Z : AZ) (I : AI) (a0 : Nat) (sp : Int32) (a1 : Nat) (dp n : Int32) : Option AI := match Z.1 a0 with
  | some k0 => match Z.1 a1 with
    | some k1 => if (k0.1 = 100 ∧ k1.1 = 100) ∧ (¬ sp < 0 ∧ ¬ dp < 0 ∧ ¬ n < 0) ∧ (sp.toNatClampNeg + n.toNatClampNeg ≤ k0.2 ∧ dp.toNatClampNeg + n.toNatClampNeg ≤ k1.2) then some (cpI I a0 a1 sp.toNatClampNeg dp.toNatClampNeg n.toNatClampNeg) else none
    | none => none
  | none => none
/-- the receiver is of the class -/
def isK (Z : AZ) (a ci : Nat) : Option Unit := match Z.1 a with
  | some kl => if kl.1 = ci then some () else none
  | none => none
theorem aMem_eq {Z : AZ} {I : AI} {a : Nat} {kl : Nat × Nat} (h : Z.1 a = some kl) : aMem Z I a = some (aEnt Z I a kl) := by
  unfold aMem
  rw [h]
theorem aMem_put {Z : AZ} {I : AI} {a k : Nat} {kl : Nat × Nat} {x : Int32} {v : Value} (h : Z.1 a = some kl) (hv : v = if aRf kl.1 k = true then .ref (Z.2.1 a k x) else .int x) : aMw (aMem Z I) a (kl.1, (kl.2, updV (aEnt Z I a kl).2.2 k v)) = aMem Z (up2 I a k x) := by
  funext b
  by_cases hb : b = a
  · subst hb
    rw [aMem_eq h]
    simp only [aMw, if_true]
    refine congrArg some ?_
    unfold aEnt
    refine congrArg (fun z => (kl.1, (kl.2, z))) ?_
    funext j
    by_cases hj : j = k
    · subst hj
      simp only [updV, if_true, up2, and_self]
      exact hv
    · simp only [updV, if_neg hj, up2, hj, and_false, if_false]
  · have e : ∀ j, up2 I a k x b j = I b j := fun j => by simp only [up2, hb, false_and, if_false]
    simp only [aMw, if_neg hb, aMem, aEnt, e]
theorem aMem_cp {Z : AZ} {I : AI} {a0 a1 sp dp n : Nat} {k0 k1 : Nat × Nat} (h0 : Z.1 a0 = some k0) (h1 : Z.1 a1 = some k1) (r0 : k0.1 = 100) (r1 : k1.1 = 100) : aMw (aMem Z I) a1 (100, (k1.2, va_cpy (aEnt Z I a0 k0).2.2 (aEnt Z I a1 k1).2.2 sp dp n)) = aMem Z (cpI I a0 a1 sp dp n) := by
  have f0 : ∀ j, aRf k0.1 j = false := fun j => by rw [r0]; rfl
  have f1 : ∀ j, aRf k1.1 j = false := fun j => by rw [r1]; rfl
  funext b
  by_cases hb : b = a1
  · subst hb
    rw [aMem_eq h1]
    simp only [aMw, if_true]
    refine congrArg some ?_
    unfold aEnt
    rw [← r1]
    refine congrArg (fun z => (k1.1, (k1.2, z))) ?_
    funext j
    simp only [f0, f1, va_cpy, cpI, true_and]
    split <;> simp_all
  · have e : ∀ j, cpI I a0 a1 sp dp n b j = I b j := fun j => by simp only [cpI, hb, false_and, if_false]
    simp only [aMw, if_neg hb, aMem, aEnt, e]
section GG
variable {kad : Nat → Nat} {d mi : Nat} {Q : ARes → ASt → Prop} {y : AMeth} {Z : AZ} {I I1 : AI} {t : Option Nat × (Nat × Nat)} {pc : Nat} {lv : ALv} {r : List Value} {a idx ci k i : Nat} {x : Int32}
theorem gg_gI (hy : aMS[mi]? = some y) (hq : aFind (aPs y) pc = some (.getfield idx, 3)) (hF : aFind (aFT (aOc y)) idx = some (ci, (k, i))) (hrf : aRf ci k = false) (hx : gI Z I ci k a = some x) (kk : aGo kad d mi (pc + 3, (lv, .int x :: r)) (aMem Z I, t) Q) : aGo kad d mi (pc, (lv, .ref a :: r)) (aMem Z I, t) Q := by
  unfold gI at hx
  split at hx
  · rename_i kl hkl
    split at hx
    · rename_i hc
      cases hx
      refine go_mo (z := ((pc + 3, (lv, .int (I a k) :: r)), (aMem Z I, t))) hy hq rfl rfl ?_ kk
      simp only [aMo, aGf, aMem_eq hkl, hF]
      rw [if_pos (show (aEnt Z I a kl).1 = ci from hc)]
      subst hc
      simp only [aEnt, hrf]
      rfl
    · cases hx
  · cases hx
theorem gg_gR {b : Nat} (hy : aMS[mi]? = some y) (hq : aFind (aPs y) pc = some (.getfield idx, 3)) (hF : aFind (aFT (aOc y)) idx = some (ci, (k, i))) (hrf : aRf ci k = true) (hx : gR Z I ci k a = some b) (kk : aGo kad d mi (pc + 3, (lv, .ref b :: r)) (aMem Z I, t) Q) : aGo kad d mi (pc, (lv, .ref a :: r)) (aMem Z I, t) Q := by
  unfold gR at hx
  split at hx
  · rename_i kl hkl
    split at hx
    · rename_i hc
      cases hx
      refine go_mo (z := ((pc + 3, (lv, .ref (Z.2.1 a k (I a k)) :: r)), (aMem Z I, t))) hy hq rfl rfl ?_ kk
      simp only [aMo, aGf, aMem_eq hkl, hF]
      rw [if_pos (show (aEnt Z I a kl).1 = ci from hc)]
      subst hc
      simp only [aEnt, hrf]
      rfl
    · cases hx
  · cases hx
theorem gg_put {v : Value} {kl : Nat × Nat} (hy : aMS[mi]? = some y) (hq : aFind (aPs y) pc = some (.putfield idx, 3)) (hF : aFind (aFT (aOc y)) idx = some (ci, (k, i))) (hfin : aFin ci k = false) (hfit : aFitB (aTyF ci k) v = true) (hkl : Z.1 a = some kl) (hc : kl.1 = ci) (hv : v = if aRf ci k = true then .ref (Z.2.1 a k x) else .int x) (kk : aGo kad d mi (pc + 3, (lv, r)) (aMem Z (up2 I a k x), t) Q) : aGo kad d mi (pc, (lv, v :: .ref a :: r)) (aMem Z I, t) Q := by
  refine go_mo (z := ((pc + 3, (lv, r)), (aMem Z (up2 I a k x), t))) hy hq rfl rfl ?_ kk
  simp only [aMo, aPf, aMem_eq hkl, hF]
  rw [if_pos ⟨show (aEnt Z I a kl).1 = ci from hc, hfit, Or.inl hfin⟩]
  subst hc
  rw [show (aEnt Z I a kl).2.1 = kl.2 from rfl, aMem_put hkl hv]
theorem gg_pI (hy : aMS[mi]? = some y) (hq : aFind (aPs y) pc = some (.putfield idx, 3)) (hF : aFind (aFT (aOc y)) idx = some (ci, (k, i))) (hfin : aFin ci k = false) (hty : aTyF ci k = .int) (hci : ci < 100) (hx : pI Z I ci k a x = some I1) (kk : aGo kad d mi (pc + 3, (lv, r)) (aMem Z I1, t) Q) : aGo kad d mi (pc, (lv, .int x :: .ref a :: r)) (aMem Z I, t) Q := by
  unfold pI at hx
  split at hx
  · rename_i kl hkl
    split at hx
    · rename_i hc
      cases hx
      exact gg_put hy hq hF hfin (by rw [hty]; rfl) hkl hc (by rw [show aRf ci k = false by unfold aRf; rw [if_pos hci, hty]; rfl]; rfl) kk
    · cases hx
  · cases hx
theorem gg_pB (hy : aMS[mi]? = some y) (hq : aFind (aPs y) pc = some (.putfield idx, 3)) (hF : aFind (aFT (aOc y)) idx = some (ci, (k, i))) (hfin : aFin ci k = false) (hty : aTyF ci k = .boolean) (hci : ci < 100) (hx : pB Z I ci k a x = some I1) (kk : aGo kad d mi (pc + 3, (lv, r)) (aMem Z I1, t) Q) : aGo kad d mi (pc, (lv, .int x :: .ref a :: r)) (aMem Z I, t) Q := by
  unfold pB at hx
  split at hx
  · rename_i kl hkl
    split at hx
    · rename_i hc
      cases hx
      exact gg_put hy hq hF hfin (by rw [hty]; simp only [aFitB, Bool.or_eq_true, decide_eq_true_eq]; exact hc.2) hkl hc.1 (by rw [show aRf ci k = false by unfold aRf; rw [if_pos hci, hty]; rfl]; rfl) kk
    · cases hx
  · cases hx
theorem gg_pR {b : Nat} {C : String} (hy : aMS[mi]? = some y) (hq : aFind (aPs y) pc = some (.putfield idx, 3)) (hF : aFind (aFT (aOc y)) idx = some (ci, (k, i))) (hfin : aFin ci k = false) (hty : aTyF ci k = .object C) (hci : ci < 100) (hx : pR Z I ci k a b = some I1) (kk : aGo kad d mi (pc + 3, (lv, r)) (aMem Z I1, t) Q) : aGo kad d mi (pc, (lv, .ref b :: .ref a :: r)) (aMem Z I, t) Q := by
  unfold pR at hx
  split at hx
  · rename_i kl hkl
    split at hx
    · rename_i hc
      cases hx
      exact gg_put hy hq hF hfin (by rw [hty]; rfl) hkl hc.1 (by rw [show aRf ci k = true by unfold aRf; rw [if_pos hci, hty]; rfl, hc.2]; rfl) kk
    · cases hx
  · cases hx
theorem gg_lI {ix : Int32} {ins : Instr} {kd : Nat} (hi : (ins = .iaload ∧ kd = 100) ∨ (ins = .baload ∧ kd = 101)) (hy : aMS[mi]? = some y) (hq : aFind (aPs y) pc = some (ins, 1)) (hx : lI Z I kd a ix = some x) (kk : aGo kad d mi (pc + 1, (lv, .int x :: r)) (aMem Z I, t) Q) : aGo kad d mi (pc, (lv, .int ix :: .ref a :: r)) (aMem Z I, t) Q := by
  unfold lI at hx
  split at hx
  · rename_i kl hkl
    split at hx
    · rename_i hc
      cases hx
      obtain ⟨c1, c2⟩ := hc
      have hrf : aRf kl.1 ix.toNatClampNeg = false := by
        rw [c1]; rcases hi with ⟨-, h⟩ | ⟨-, h⟩ <;> (rw [h]; rfl)
      refine go_mo (z := ((pc + 1, (lv, .int (I a ix.toNatClampNeg) :: r)), (aMem Z I, t))) hy hq (by rcases hi with ⟨h, -⟩ | ⟨h, -⟩ <;> (rw [h]; rfl)) (by rcases hi with ⟨h, -⟩ | ⟨h, -⟩ <;> (rw [h]; rfl)) ?_ kk
      have e : aAl kd kd (pc, (lv, .int ix :: .ref a :: r)) (aMem Z I, t) = some ((pc + 1, (lv, .int (I a ix.toNatClampNeg) :: r)), (aMem Z I, t)) := by
        simp only [aAl, aMem_eq hkl]
        rw [if_pos ⟨show kd ≤ (aEnt Z I a kl).1 from Nat.le_of_eq c1.symm, show (aEnt Z I a kl).1 ≤ kd from Nat.le_of_eq c1, show ¬ (ix < 0 ∨ (aEnt Z I a kl).2.1 ≤ ix.toNatClampNeg) from c2⟩]
        simp only [aEnt, hrf]
        rfl
      rcases hi with ⟨h, h'⟩ | ⟨h, h'⟩
      · subst h; subst h'; exact e
      · subst h; subst h'; exact e
    · cases hx
  · cases hx
theorem gg_lR {ix : Int32} {b : Nat} (hy : aMS[mi]? = some y) (hq : aFind (aPs y) pc = some (.aaload, 1)) (hx : lR Z I a ix = some b) (kk : aGo kad d mi (pc + 1, (lv, .ref b :: r)) (aMem Z I, t) Q) : aGo kad d mi (pc, (lv, .int ix :: .ref a :: r)) (aMem Z I, t) Q := by
  unfold lR at hx
  split at hx
  · rename_i kl hkl
    split at hx
    · rename_i hc
      cases hx
      obtain ⟨⟨c0, c1⟩, c2⟩ := hc
      have hrf : aRf kl.1 ix.toNatClampNeg = true := by
        unfold aRf
        rw [if_neg (by omega)]
        exact decide_eq_true c0
      refine go_mo (z := ((pc + 1, (lv, .ref (Z.2.1 a ix.toNatClampNeg (I a ix.toNatClampNeg)) :: r)), (aMem Z I, t))) hy hq rfl rfl ?_ kk
      simp only [aMo, aAl, aMem_eq hkl]
      rw [if_pos ⟨show 103 ≤ (aEnt Z I a kl).1 from c0, show (aEnt Z I a kl).1 ≤ 105 from c1, show ¬ (ix < 0 ∨ (aEnt Z I a kl).2.1 ≤ ix.toNatClampNeg) from c2⟩]
      simp only [aEnt, hrf]
      rfl
    · cases hx
  · cases hx
theorem gg_sI {ix : Int32} {ins : Instr} {kd : Nat} (hi : (ins = .iastore ∧ kd = 100) ∨ (ins = .bastore ∧ kd = 101)) (hy : aMS[mi]? = some y) (hq : aFind (aPs y) pc = some (ins, 1)) (hx : sI Z I kd a ix x = some I1) (kk : aGo kad d mi (pc + 1, (lv, r)) (aMem Z I1, t) Q) : aGo kad d mi (pc, (lv, .int x :: .int ix :: .ref a :: r)) (aMem Z I, t) Q := by
  unfold sI at hx
  split at hx
  · rename_i kl hkl
    split at hx
    · rename_i hc
      cases hx
      obtain ⟨c1, c2, c3⟩ := hc
      have hrf : aRf kl.1 ix.toNatClampNeg = false := by
        rw [c1]; rcases hi with ⟨-, h⟩ | ⟨-, h⟩ <;> (rw [h]; rfl)
      refine go_mo (z := ((pc + 1, (lv, r)), (aMem Z (up2 I a ix.toNatClampNeg x), t))) hy hq (by rcases hi with ⟨h, -⟩ | ⟨h, -⟩ <;> (rw [h]; rfl)) (by rcases hi with ⟨h, -⟩ | ⟨h, -⟩ <;> (rw [h]; rfl)) ?_ kk
      have e : aAs kd (pc, (lv, .int x :: .int ix :: .ref a :: r)) (aMem Z I, t) = some ((pc + 1, (lv, r)), (aMem Z (up2 I a ix.toNatClampNeg x), t)) := by
        simp only [aAs, aMem_eq hkl]
        rw [if_pos ⟨show (aEnt Z I a kl).1 = kd from c1, show ¬ (ix < 0 ∨ (aEnt Z I a kl).2.1 ≤ ix.toNatClampNeg) from c2, fun h => by simp only [aFitB, Bool.or_eq_true, decide_eq_true_eq]; exact c3 h⟩]
        rw [show (aEnt Z I a kl).2.1 = kl.2 from rfl, show (aEnt Z I a kl).1 = kl.1 from rfl, aMem_put hkl (x := x) (by rw [hrf]; rfl)]
      rcases hi with ⟨h, h'⟩ | ⟨h, h'⟩
      · subst h; subst h'; exact e
      · subst h; subst h'; exact e
    · cases hx
  · cases hx
theorem gg_len (hy : aMS[mi]? = some y) (hq : aFind (aPs y) pc = some (.arraylength, 1)) (hx : nL Z a = some x) (kk : aGo kad d mi (pc + 1, (lv, .int x :: r)) (aMem Z I, t) Q) : aGo kad d mi (pc, (lv, .ref a :: r)) (aMem Z I, t) Q := by
  unfold nL at hx
  split at hx
  · rename_i kl hkl
    split at hx
    · rename_i hc
      cases hx
      refine go_mo (z := ((pc + 1, (lv, .int (Int32.ofNat kl.2) :: r)), (aMem Z I, t))) hy hq rfl rfl ?_ kk
      simp only [aMo, aLn, aMem_eq hkl]
      rw [if_pos (show 100 ≤ (aEnt Z I a kl).1 ∧ (aEnt Z I a kl).1 ≤ 105 from hc)]
      rfl
    · cases hx
  · cases hx
theorem gg_cp {a0 a1 : Nat} {sp dp n : Int32} (hy : aMS[mi]? = some y) (hq : aFind (aPs y) pc = some (.invokestatic idx, 3)) (hX : aFind (aXT (aOc y)) idx = some (2, i)) (hcat : aCat r) (hx : cI Z I a0 sp a1 dp n = some I1) (kk : aGo kad d mi (pc + 3, (lv, r)) (aMem Z I1, t) Q) : aGo kad d mi (pc, (lv, .int n :: .int dp :: .ref a1 :: .int sp :: .ref a0 :: r)) (aMem Z I, t) Q := by
  unfold cI at hx
  split at hx
  · rename_i k0 h0
    split at hx
    · rename_i k1 h1
      split at hx
      · rename_i hc
        cases hx
        obtain ⟨⟨c1, c2⟩, c3, c4⟩ := hc
        refine go_ex (z := ((pc + 3, (lv, r)), (aMem Z (cpI I a0 a1 sp.toNatClampNeg dp.toNatClampNeg n.toNatClampNeg), t))) hy hq rfl rfl rfl ?_ kk
        simp only [aEx, hX, aCp, aMem_eq h0, aMem_eq h1]
        rw [if_neg (by decide), if_pos (by decide), if_pos ⟨⟨show (aEnt Z I a0 k0).1 = 100 from c1, show (aEnt Z I a1 k1).1 = 100 from c2⟩, c3, show sp.toNatClampNeg + n.toNatClampNeg ≤ (aEnt Z I a0 k0).2.1 ∧ dp.toNatClampNeg + n.toNatClampNeg ≤ (aEnt Z I a1 k1).2.1 from c4, hcat⟩]
        rw [show (aEnt Z I a1 k1).2.1 = k1.2 from rfl, aMem_cp h0 h1 c1 c2]
      · cases hx
    · cases hx
  · cases hx
theorem gg_mx {x w : Int32} (hy : aMS[mi]? = some y) (hq : aFind (aPs y) pc = some (.invokestatic idx, 3)) (hX : aFind (aXT (aOc y)) idx = some (1, i)) (hcat : aCat r) (kk : aGo kad d mi (pc + 3, (lv, .int (if x < w then w else x) :: r)) (aMem Z I, t) Q) : aGo kad d mi (pc, (lv, .int w :: .int x :: r)) (aMem Z I, t) Q := by
  refine go_ex (z := ((pc + 3, (lv, .int (if x < w then w else x) :: r)), (aMem Z I, t))) hy hq rfl rfl rfl ?_ kk
  simp only [aEx, hX, aMx]
  rw [if_pos trivial, if_pos hcat]
theorem gg_mn {x w : Int32} (hy : aMS[mi]? = some y) (hq : aFind (aPs y) pc = some (.invokestatic idx, 3)) (hX : aFind (aXT (aOc y)) idx = some (4, i)) (hcat : aCat r) (kk : aGo kad d mi (pc + 3, (lv, .int (if w < x then w else x) :: r)) (aMem Z I, t) Q) : aGo kad d mi (pc, (lv, .int w :: .int x :: r)) (aMem Z I, t) Q := by
  refine go_ex (z := ((pc + 3, (lv, .int (if w < x then w else x) :: r)), (aMem Z I, t))) hy hq rfl rfl rfl ?_ kk
  simp only [aEx, hX, aMnn]
  rw [if_neg (by decide), if_neg (by decide), if_pos trivial, if_pos hcat]
theorem gg_kI {c : Int} {w : Nat} {ins : Instr} (hi : (ins = .ldc idx ∧ w = 2) ∨ (ins = .ldc_w idx ∧ w = 3)) (hy : aMS[mi]? = some y) (hq : aFind (aPs y) pc = some (ins, w)) (hF : aFind (aKT (aOc y)) idx = some (c, i)) (kk : aGo kad d mi (pc + w, (lv, .int (Int32.ofInt c) :: r)) (aMem Z I, t) Q) : aGo kad d mi (pc, (lv, r)) (aMem Z I, t) Q := by
  rcases hi with ⟨rfl, rfl⟩ | ⟨rfl, rfl⟩
  · exact go_mo (z := ((pc + 2, (lv, .int (Int32.ofInt c) :: r)), (aMem Z I, t))) hy hq rfl rfl (by simp only [aMo, aKo, hF]) kk
  · exact go_mo (z := ((pc + 3, (lv, .int (Int32.ofInt c) :: r)), (aMem Z I, t))) hy hq rfl rfl (by simp only [aMo, aKo, hF]) kk
theorem gg_kL {c : Int} (hy : aMS[mi]? = some y) (hq : aFind (aPs y) pc = some (.ldc2_w idx, 3)) (hF : aFind (aLT (aOc y)) idx = some (c, i)) (kk : aGo kad d mi (pc + 3, (lv, .long (Int64.ofInt c) :: r)) (aMem Z I, t) Q) : aGo kad d mi (pc, (lv, r)) (aMem Z I, t) Q :=
  go_mo (z := ((pc + 3, (lv, .long (Int64.ofInt c) :: r)), (aMem Z I, t))) hy hq rfl rfl (by simp only [aMo, aKl, hF]) kk
/-- a branch -/
theorem gg_br {S : ASt} {q : Instr × Nat} {st : List Value} {b : Bool} {off : Int} {tg : Nat} (hy : aMS[mi]? = some y) (hq : aFind (aPs y) pc = some q) (hr : aRet (aRt y) q.1 st = none) (ho : aOp (aNl y) q.1 pc lv st = aIf b pc off lv r) (ht : (pc : Int) + off = Int.ofNat tg) (kt : b = true → aGo kad d mi (tg, (lv, r)) S Q) (kf : b = false → aGo kad d mi (pc + 3, (lv, r)) S Q) : aGo kad d mi (pc, (lv, st)) S Q := by
  have e : aIf b pc off lv r = if b = true then some (tg, (lv, r)) else some (pc + 3, (lv, r)) := by
    unfold aIf
    rw [ht]
  by_cases hb : b = true
  · exact go_op hy hq hr (by rw [ho, e, if_pos hb]) (kt hb)
  · exact go_op hy hq hr (by rw [ho, e, if_neg hb]) (kf (by simpa using hb))
/-- calls: the callee's own theorem, and what comes behind -/
theorem gg_cv {z : AMeth} {mi2 np i1 i2 i3 : Nat} {as : List Value} {v : Option Value} {t1 : Option Nat × (Nat × Nat)} (hy : aMS[mi]? = some y) (hq : aFind (aPs y) pc = some (.invokevirtual idx, 3)) (hC : aFind (aCT (aOc y)) idx = some (0, (mi2, (np, (i1, (i2, i3)))))) (hX : aFind (aXT (aOc y)) idx = none) (hz : aMS[mi2]? = some z) (h12 : aOc z < 11) (hn : as.length = np) (hcat : aCat r) (hsl : (lg_sl (.ref a :: as)).length ≤ aNl z) (hd : 0 < d) (hk : isK Z a (aOc z) = some ())
    (hm : aEv kad (d - 1) mi2 (.ref a :: as) (aMem Z I, t) (fun r S1 => r = .inl v ∧ S1 = (aMem Z I1, t1))) (kk : aGo kad d mi (pc + 3, (lv, v.toList ++ r)) (aMem Z I1, t1) Q) : aGo kad d mi (pc, (lv, as.reverse ++ .ref a :: r)) (aMem Z I, t) Q := by
  unfold isK at hk
  split at hk
  · rename_i kl hkl
    split at hk
    · rename_i hc
      have hd1 : (as.reverse ++ .ref a :: r).drop np = .ref a :: r := by rw [← hn, ← List.length_reverse (as := as), List.drop_left]
      have ht1 : (as.reverse ++ .ref a :: r).take np = as.reverse := by rw [← hn, ← List.length_reverse (as := as), List.take_left]
      have hcall : aCall y (.invokevirtual idx) (as.reverse ++ .ref a :: r) (aMem Z I) = some (mi2, (0, (.ref a :: as, r))) := by
        simp only [aCall, hC, if_true, hd1, ht1, aMem_eq hkl, hz, List.reverse_reverse]
        rw [if_pos ⟨⟨show (aEnt Z I a kl).1 = aOc z from hc, show (aEnt Z I a kl).1 < 11 by rw [show (aEnt Z I a kl).1 = aOc z from hc]; exact h12⟩, by rw [List.length_reverse]; exact hn, hcat, hsl⟩]
      refine go_call hy hq rfl rfl rfl (by simp only [aEx, hX]) (by simp only [aThr]) hcall hd (show (0 : Nat) < 2 from by decide) (hm.mono fun r1 S1 h => ?_)
      obtain ⟨rfl, rfl⟩ := h
      exact kk
    · cases hk
  · cases hk
theorem gg_cs {z : AMeth} {mi2 np i1 i2 i3 : Nat} {as : List Value} {v : Option Value} {t1 : Option Nat × (Nat × Nat)} (hy : aMS[mi]? = some y) (hq : aFind (aPs y) pc = some (.invokestatic idx, 3)) (hC : aFind (aCT (aOc y)) idx = some (1, (mi2, (np, (i1, (i2, i3)))))) (hX : aFind (aXT (aOc y)) idx = none) (hz : aMS[mi2]? = some z) (hn : as.length = np) (hcat : aCat r) (hsl : (lg_sl as).length ≤ aNl z) (hd : 0 < d)
    (hm : aEv kad (d - 1) mi2 as (aMem Z I, t) (fun r S1 => r = .inl v ∧ S1 = (aMem Z I1, t1))) (kk : aGo kad d mi (pc + 3, (lv, v.toList ++ r)) (aMem Z I1, t1) Q) : aGo kad d mi (pc, (lv, as.reverse ++ r)) (aMem Z I, t) Q := by
  have hd1 : (as.reverse ++ r).drop np = r := by rw [← hn, ← List.length_reverse (as := as), List.drop_left]
  have ht1 : (as.reverse ++ r).take np = as.reverse := by rw [← hn, ← List.length_reverse (as := as), List.take_left]
  have hcall : aCall y (.invokestatic idx) (as.reverse ++ r) (aMem Z I) = some (mi2, (1, (as, r))) := by
    simp only [aCall, hC, if_true, hd1, ht1, hz, List.reverse_reverse]
    rw [if_pos ⟨by rw [List.length_reverse]; exact hn, hcat, hsl⟩]
  refine go_call hy hq rfl rfl rfl (by simp only [aEx, hX]) (by simp only [aThr]) hcall hd (show (1 : Nat) < 2 from by decide) (hm.mono fun r1 S1 h => ?_)
  obtain ⟨rfl, rfl⟩ := h
  exact kk
end GG
