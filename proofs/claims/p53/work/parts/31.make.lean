/-! the class makes a step -/
def sCore (B : AI) : AI := if 0 < sLeft B then sWNB B else if ¬ B 1 7 = 0 ∧ (¬ B 1 8 = 0 ∨ ¬ B 1 9 = 0) then sInt B else sIns B
def sStep (X : AI) : AI := let C := sCore (sBegin X); sKeys (sTime (up2 C 1 2 (C 1 2 + 1)))
/-- what a machine must be like, so that its next step is the plain one -/
def okM (X : AI) : Prop := bl X ∧ wdk X ∧ cnt X ∧ (0 < sLeft X → dn X ∧ nb X)
section MK
variable {kad : Nat → Nat} {N : Nat} {Z : AZ} {a κ : Nat} {I0 I X : AI}
theorem C83 (hN : 2000 ≤ N) (ha : sh8 kad Z a) (hd : κ + 9 ≤ a ∨ a + 17 ≤ κ) (hk : Z.2.1 a 7 (Z.2.2 a 7 κ) = κ) (hX : okM X) (H : RM a I X) : Ok (f83 kad N Z a κ I) (fun _ J => RC 0 Z a κ (up2 I a 7 (Z.2.2 a 7 κ)) J (sStep X)) := by
  obtain ⟨hb, hw, hc, hdn⟩ := hX
  unfold f83
  rw [show pR Z I 8 7 a κ = some (up2 I a 7 (Z.2.2 a 7 κ)) from by simp only [pR, sh8_z ha]; rw [if_pos ⟨trivial, hk⟩], Option.bind_some, up2_eq, hk]
  have H1 : RM a (up2 I a 7 (Z.2.2 a 7 κ)) X := fun c k hc hr => by
    have := rel_vc hr
    rw [up2_b (by omega)]
    exact H c k hc hr
  have hk1 : Z.2.1 a 7 (up2 I a 7 (Z.2.2 a 7 κ) a 7) = κ := by rw [up2_eq]; exact hk
  generalize up2 I a 7 (Z.2.2 a 7 κ) = I1 at H1 hk1 ⊢
  refine (C83_b (kad := kad) (N := N) hd hk1 hb H1).bind fun v J HJ => ?_
  have b1 : sBegin X 1 = X 1 := sBegin_lo (by decide)
  have b2 : sBegin X 2 = X 2 := sBegin_lo (by decide)
  have b3 : sBegin X 3 = X 3 := sBegin_lo (by decide)
  have b4 : sBegin X 4 = X 4 := sBegin_lo (by decide)
  have b9 : sBegin X 9 = X 9 := sBegin_lo (by decide)
  have bL : sLeft (sBegin X) = sLeft X := by unfold sLeft; rw [b3]
  have hwB : wdk (sBegin X) := ⟨by rw [b9]; exact hw.1, by rw [b2]; exact hw.2⟩
  have hcB : cnt (sBegin X) := by unfold cnt; rw [b3]; exact hc
  have hdnB : 0 < sLeft (sBegin X) → dn (sBegin X) ∧ nb (sBegin X) := fun h => by
    unfold dn nb
    rw [b3, b4]
    exact hdn (bL ▸ h)
  unfold sStep
  dsimp only
  generalize sBegin X = B at HJ hwB hcB hdnB
  have tail : ∀ (C J : AI), RC 0 Z a κ I1 J C → Ok (f83_b77 kad N Z a κ J) (fun _ J => RC 0 Z a κ I1 J (sKeys (sTime (up2 C 1 2 (C 1 2 + 1))))) := fun C J h => by
    unfold f83_b77
    rw [h.rd (c := 1) (k := 2)]
    refine Ok.w ?_
    refine (C86 h.up).bind fun v J HJ => ?_
    exact (C85 hN HJ).bind fun v J HJ => Ok.ret HJ
  obtain ⟨v, J1, hJ1, hv, hJJ⟩ := C63 (kad := kad) (N := N) HJ
  subst hv hJJ
  rw [hJ1, Option.bind_some]
  dsimp only
  unfold sCore
  by_cases hl : sLeft B ≤ 0
  · rw [if_pos hl, if_neg (show ¬ 0 < sLeft B by grind)]
    have e7 : J1 (a + 1) 7 = B 1 7 := HJ.rd (c := 1) (k := 7)
    have e8 : J1 (a + 1) 8 = B 1 8 := HJ.rd (c := 1) (k := 8)
    have e9 : J1 (a + 1) 9 = B 1 9 := HJ.rd (c := 1) (k := 9)
    have ins : Ok (f83_b73 kad N Z a κ J1) (fun _ J => RC 0 Z a κ I1 J (sKeys (sTime (up2 (sIns B) 1 2 (sIns B 1 2 + 1))))) := by
      unfold f83_b73
      exact (C96 hN ha HJ hwB hcB).bind fun v J HJ => tail _ _ HJ
    have int : Ok (f83_b66 kad N Z a κ J1) (fun _ J => RC 0 Z a κ I1 J (sKeys (sTime (up2 (sInt B) 1 2 (sInt B 1 2 + 1))))) := by
      unfold f83_b66
      exact (C95 HJ).bind fun v J HJ => tail _ _ HJ
    by_cases h7 : B 1 7 = 0
    · rw [if_pos (e7.trans h7), if_neg (fun h => h.1 h7)]
      exact ins
    · rw [if_neg (fun h => h7 (e7.symm.trans h))]
      by_cases h8 : B 1 8 = 0
      · rw [if_neg (fun h => h (e8.trans h8))]
        by_cases h9 : B 1 9 = 0
        · rw [if_pos (e9.trans h9), if_neg (fun h => h.2.elim (fun h => h h8) (fun h => h h9))]
          exact ins
        · rw [if_neg (fun h => h9 (e9.symm.trans h)), if_pos ⟨h7, Or.inr h9⟩]
          exact int
      · rw [if_pos (fun h => h8 (e8.symm.trans h)), if_pos ⟨h7, Or.inl h8⟩]
        exact int
  · rw [if_neg hl, if_pos (show 0 < sLeft B by grind)]
    have hlt : 0 < sLeft B := by grind
    exact (C109 hN ha HJ hcB (hdnB hlt).1 (hdnB hlt).2).bind fun v J HJ => tail _ _ HJ
end MK
