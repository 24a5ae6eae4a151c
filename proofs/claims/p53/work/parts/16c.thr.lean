/-! methods that may throw -/
abbrev tvI (v : Int32) : Option Value := some (.int v)
abbrev tvJ (v : Int64) : Option Value := some (.long v)
abbrev tvA (v : Nat) : Option Value := some (.ref v)
abbrev tvV (_ : Unit) : Option Value := none
def qX {α : Type} (tv : α → Option Value) (Z : AZ) (t : Option Nat × (Nat × Nat)) (r : (α ⊕ String) × AI) : ARes → ASt → Prop := match r.1 with
  | .inl v => fun x S1 => x = .inl (tv v) ∧ S1 = (aMem Z r.2, t)
  | .inr E => fun x S1 => x = .inr E ∧ S1 = (aMem Z r.2, (none, (t.2.1 + 1, t.2.2 + 6)))
theorem qX_ret {α : Type} {tv : α → Option Value} {Z : AZ} {t : Option Nat × (Nat × Nat)} {v : α} {I : AI} : qX tv Z t (.inl v, I) (.inl (tv v)) (aMem Z I, t) := ⟨rfl, rfl⟩
theorem qX_thr {α : Type} {tv : α → Option Value} {Z : AZ} {t : Option Nat × (Nat × Nat)} {E : String} {I : AI} : qX tv Z t (.inr E, I) (.inr E) (aMem Z I, (none, (t.2.1 + 1, t.2.2 + 6))) := ⟨rfl, rfl⟩
def xB {α β : Type} (r : (α ⊕ String) × AI) (k : α → AI → Option ((β ⊕ String) × AI)) : Option ((β ⊕ String) × AI) := match r.1 with
  | .inl v => k v r.2
  | .inr E => some (.inr E, r.2)
theorem xB_eq {α β : Type} {r : (α ⊕ String) × AI} {k : α → AI → Option ((β ⊕ String) × AI)} {z : (β ⊕ String) × AI} (h : xB r k = some z) : (∃ v I, r = (.inl v, I) ∧ k v I = some z) ∨ (∃ E I, r = (.inr E, I) ∧ z = (.inr E, I)) := by
  obtain ⟨r1, I⟩ := r
  cases r1 with
  | inl v => exact Or.inl ⟨v, I, rfl, h⟩
  | inr E => exact Or.inr ⟨E, I, rfl, (Option.some.inj h).symm⟩
section GG3
variable {kad : Nat → Nat} {d mi : Nat} {Q : ARes → ASt → Prop} {y : AMeth} {Z : AZ} {I : AI} {t : Option Nat × (Nat × Nat)} {pc : Nat} {lv : ALv} {r : List Value} {a idx : Nat} {E : String} {S2 : ASt}
theorem gg_cvt {z : AMeth} {mi2 np i1 i2 i3 : Nat} {as : List Value} (hy : aMS[mi]? = some y) (hq : aFind (aPs y) pc = some (.invokevirtual idx, 3)) (hC : aFind (aCT (aOc y)) idx = some (0, (mi2, (np, (i1, (i2, i3)))))) (hX : aFind (aXT (aOc y)) idx = none) (hz : aMS[mi2]? = some z) (h12 : aOc z < 11) (hn : as.length = np) (hcat : aCat r) (hsl : (lg_sl (.ref a :: as)).length ≤ aNl z) (hd : 0 < d) (hk : isK Z a (aOc z) = some ())
    (hm : aEv kad (d - 1) mi2 (.ref a :: as) (aMem Z I, t) (fun r S1 => r = .inr E ∧ S1 = S2)) (kk : Q (.inr E) S2) : aGo kad d mi (pc, (lv, as.reverse ++ .ref a :: r)) (aMem Z I, t) Q := by
  unfold isK at hk
  split at hk
  · rename_i kl hkl
    split at hk
    · rename_i hc
      have hd1 : (as.reverse ++ .ref a :: r).drop np = .ref a :: r := by rw [← hn, ← List.length_reverse (as := as), List.drop_left]
      have ht1 : (as.reverse ++ .ref a :: r).take np = as.reverse := by rw [← hn, ← List.length_reverse (as := as), List.take_left]
      have hcall : aCall y (.invokevirtual idx) (as.reverse ++ .ref a :: r) (aMem Z I) = some (mi2, (0, (.ref a :: as, r))) := by
        simp only [aCall, hC, if_true, hd1, ht1, aMem_eq hkl, hz, List.reverse_reverse]
        rw [if_pos ⟨⟨show (aEnt Z I a kl).1 = aOc z from hc, show (aEnt Z I a kl).1 < 11 by rw [show (aEnt Z I a kl).1 = aOc z from hc]; exact h12⟩, by rw [List.length_reverse]; exact hn, hcat, hsl⟩]
      refine go_call hy hq rfl rfl rfl (by simp only [aEx, hX]) (by simp only [aThr]) hcall hd (show (0 : Nat) < 2 from by decide) (hm.mono fun r1 S1 h => ?_)
      obtain ⟨rfl, rfl⟩ := h
      exact kk
    · cases hk
  · cases hk
theorem gg_cst {z : AMeth} {mi2 np i1 i2 i3 : Nat} {as : List Value} (hy : aMS[mi]? = some y) (hq : aFind (aPs y) pc = some (.invokestatic idx, 3)) (hC : aFind (aCT (aOc y)) idx = some (1, (mi2, (np, (i1, (i2, i3)))))) (hX : aFind (aXT (aOc y)) idx = none) (hz : aMS[mi2]? = some z) (hn : as.length = np) (hcat : aCat r) (hsl : (lg_sl as).length ≤ aNl z) (hd : 0 < d)
    (hm : aEv kad (d - 1) mi2 as (aMem Z I, t) (fun r S1 => r = .inr E ∧ S1 = S2)) (kk : Q (.inr E) S2) : aGo kad d mi (pc, (lv, as.reverse ++ r)) (aMem Z I, t) Q := by
  have hd1 : (as.reverse ++ r).drop np = r := by rw [← hn, ← List.length_reverse (as := as), List.drop_left]
  have ht1 : (as.reverse ++ r).take np = as.reverse := by rw [← hn, ← List.length_reverse (as := as), List.take_left]
  have hcall : aCall y (.invokestatic idx) (as.reverse ++ r) (aMem Z I) = some (mi2, (1, (as, r))) := by
    simp only [aCall, hC, if_true, hd1, ht1, hz, List.reverse_reverse]
    rw [if_pos ⟨by rw [List.length_reverse]; exact hn, hcat, hsl⟩]
  refine go_call hy hq rfl rfl rfl (by simp only [aEx, hX]) (by simp only [aThr]) hcall hd (show (1 : Nat) < 2 from by decide) (hm.mono fun r1 S1 h => ?_)
  obtain ⟨rfl, rfl⟩ := h
  exact kk
end GG3
