/-! more rules over numbers; what a method's function says at its end -/
abbrev qI (Z : AZ) (t : Option Nat × (Nat × Nat)) (r : Int32 × AI) : ARes → ASt → Prop := fun x S1 => x = .inl (some (.int r.1)) ∧ S1 = (aMem Z r.2, t)
abbrev qJ (Z : AZ) (t : Option Nat × (Nat × Nat)) (r : Int64 × AI) : ARes → ASt → Prop := fun x S1 => x = .inl (some (.long r.1)) ∧ S1 = (aMem Z r.2, t)
abbrev qA (Z : AZ) (t : Option Nat × (Nat × Nat)) (r : Nat × AI) : ARes → ASt → Prop := fun x S1 => x = .inl (some (.ref r.1)) ∧ S1 = (aMem Z r.2, t)
abbrev qV (Z : AZ) (t : Option Nat × (Nat × Nat)) (r : Unit × AI) : ARes → ASt → Prop := fun x S1 => x = .inl none ∧ S1 = (aMem Z r.2, t)
def swI (kad : Nat → Nat) (Z : AZ) (i : Int32) : Option Int32 := if Z.1 (kad 9) = none ∧ ¬ (i < 0 ∨ 9 ≤ i.toNatClampNeg) then some (aSm i.toNatClampNeg) else none
def orI (kad : Nat → Nat) (a : Nat) : Option Int32 := match aKj kad a with
  | some j => some (nI j)
  | none => none
theorem aRetI {x : Int32} : aRet (some .int) .ireturn [.int x] = some (some (.int x)) := by
  simp [aRet, narrow]
theorem aRetZ {x : Int32} (h : x = 0 ∨ x = 1) : aRet (some .boolean) .ireturn [.int x] = some (some (.int x)) := by
  have h1 : narrow .boolean (.int x) = .int x := (aFitB_ok (ty := .boolean) (v := .int x) (by simp only [aFitB, Bool.or_eq_true, decide_eq_true_eq]; exact h)).1
  simp only [aRet, h1, if_true]
section GG2
variable {kad : Nat → Nat} {d mi : Nat} {Q : ARes → ASt → Prop} {y : AMeth} {Z : AZ} {I I1 : AI} {t : Option Nat × (Nat × Nat)} {pc : Nat} {lv : ALv} {r : List Value} {a idx i j : Nat} {x : Int32} {f1 : AFr} {S : ASt}
theorem gg_gs (hy : aMS[mi]? = some y) (hq : aFind (aPs y) pc = some (.getstatic idx, 3)) (hG : aFind (aGT (aOc y)) idx = some (j, i)) (kk : aGo kad d mi (pc + 3, (lv, .ref (kad j) :: r)) S Q) : aGo kad d mi (pc, (lv, r)) S Q :=
  go_ex (z := ((pc + 3, (lv, .ref (kad j) :: r)), S)) hy hq rfl rfl rfl (by simp only [aEx, hG]) kk
theorem gg_sw {ix : Int32} (hy : aMS[mi]? = some y) (hq : aFind (aPs y) pc = some (.iaload, 1)) (hx : swI kad Z ix = some x) (kk : aGo kad d mi (pc + 1, (lv, .int x :: r)) (aMem Z I, t) Q) : aGo kad d mi (pc, (lv, .int ix :: .ref (kad 9) :: r)) (aMem Z I, t) Q := by
  unfold swI at hx
  split at hx
  · rename_i hc
    cases hx
    have hm : aMem Z I (kad 9) = none := by
      unfold aMem
      rw [hc.1]
    refine go_ex (z := ((pc + 1, (lv, .int (aSm ix.toNatClampNeg) :: r)), (aMem Z I, t))) hy hq rfl rfl (by simp only [aMo, aAl, hm]) ?_ kk
    simp only [aEx]
    rw [if_pos ⟨trivial, hc.2⟩]
  · cases hx
theorem gg_or (hy : aMS[mi]? = some y) (hq : aFind (aPs y) pc = some (.invokevirtual idx, 3)) (hX : aFind (aXT (aOc y)) idx = some (0, i)) (hcat : aCat r) (hx : orI kad a = some x) (kk : aGo kad d mi (pc + 3, (lv, .int x :: r)) S Q) : aGo kad d mi (pc, (lv, .ref a :: r)) S Q := by
  unfold orI at hx
  split at hx
  · rename_i j hj
    cases hx
    refine go_ex (z := ((pc + 3, (lv, .int (nI j) :: r)), S)) hy hq rfl rfl rfl ?_ kk
    simp only [aEx, hX, hj, if_true]
    rw [if_pos hcat]
  · cases hx
theorem go_sw {dflt lo hi : Int} {offs : Array Int} {len : Nat} (hy : aMS[mi]? = some y) (hq : aFind (aPs y) pc = some (.tableswitch dflt lo hi offs, len)) (hx : aTab dflt lo hi offs pc lv x r = some f1) (kk : aGo kad d mi f1 S Q) : aGo kad d mi (pc, (lv, .int x :: r)) S Q :=
  go_op hy hq rfl hx kk
theorem aSwd {lo : Int} {m : Nat} (h : ∀ k : Nat, k < m → ¬ x = Int32.ofInt (lo + k)) : x.toInt < lo ∨ lo + m ≤ x.toInt := by
  by_cases h1 : x.toInt < lo
  · exact Or.inl h1
  · by_cases h2 : lo + m ≤ x.toInt
    · exact Or.inr h2
    · refine absurd ?_ (h (x.toInt - lo).toNat (by omega))
      have e : lo + ((x.toInt - lo).toNat : Int) = x.toInt := by omega
      rw [e]
      exact (Int32.ofInt_toInt x).symm
theorem go_swd {dflt lo hi : Int} {offs : Array Int} {len tg m : Nat} (hy : aMS[mi]? = some y) (hq : aFind (aPs y) pc = some (.tableswitch dflt lo hi offs, len)) (hj : aJump pc dflt lv r = some (tg, (lv, r))) (hm : hi = lo + m - 1) (h : ∀ k : Nat, k < m → ¬ x = Int32.ofInt (lo + k)) (kk : aGo kad d mi (tg, (lv, r)) S Q) : aGo kad d mi (pc, (lv, .int x :: r)) S Q := by
  refine go_op hy hq rfl (f1 := (tg, (lv, r))) ?_ kk
  show aTab dflt lo hi offs pc lv x r = some (tg, (lv, r))
  unfold aTab
  rcases aSwd h with h1 | h1
  · rw [if_pos h1]
    exact hj
  · rw [if_neg (by omega), if_pos (by omega)]
    exact hj
end GG2
