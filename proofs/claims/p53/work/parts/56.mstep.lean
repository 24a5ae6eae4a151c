/-! what a step leaves as it is; the model makes a step -/
section FR
variable {X : AI} {c : Nat}
theorem sGo_o (h : ¬ c = 1) : sGo X c = X c := up2_b h
theorem sFail_o {x : Int32} (h : ¬ c = 1) : sFail x X c = X c := by
  unfold sFail
  rw [up2_b h, up2_b h]
theorem sNote_o {i w : Int32} (h : ¬ c = 20 ∧ ¬ c = 26 ∧ ¬ c = 27) : sNote i w X c = X c := by
  unfold sNote
  split
  · rfl
  · split
    · rfl
    · rw [up2_b h.1, up2_b h.2.2, up2_b h.2.1]
theorem sWr_o {i w : Int32} (h : ¬ c = 6 ∧ ¬ c = 20 ∧ ¬ c = 26 ∧ ¬ c = 27) : sWr i w X c = X c := by
  unfold sWr
  split
  · rfl
  · split
    · rfl
    · rw [up2_b h.1, sNote_o h.2]
theorem sPush_o {w : Int32} (h1 : ¬ c = 1) (h : ¬ c = 6 ∧ ¬ c = 20 ∧ ¬ c = 26 ∧ ¬ c = 27) : sPush w X c = X c := by
  unfold sPush
  rw [sWr_o h, up2_b h1]
theorem sPullX_o (h1 : ¬ c = 1) : sPullX X c = X c := up2_b h1
theorem sSet_o {i w : Int32} (h : ¬ c = 2) : sSet i w X c = X c := by
  unfold sSet
  split
  · rfl
  · split
    · rfl
    · exact up2_b h
theorem sJump_o {op y : Int32} (h1 : ¬ c = 1) : sJump op y X c = X c := by
  unfold sJump
  split
  · exact sGo_o h1
  · exact up2_b h1
theorem sCalc_o {op d y : Int32} (h1 : ¬ c = 1) (h2 : ¬ c = 2) : sCalc op d y X c = X c := by
  unfold sCalc
  rw [sGo_o h1]
  split
  · rw [up2_b h1, up2_b h1]
  · rw [sSet_o h2, up2_b h1, up2_b h1]
theorem sMove_o {op d y : Int32} (h1 : ¬ c = 1) (h2 : ¬ c = 2) (h : ¬ c = 6 ∧ ¬ c = 20 ∧ ¬ c = 26 ∧ ¬ c = 27) : sMove op d y X c = X c := by
  unfold sMove
  split
  · exact up2_b h1
  split
  · rw [sGo_o h1, sSet_o h2]
  split
  · split
    · rw [sGo_o h1, sSet_o h2]
    · rw [sGo_o h1, sWr_o h]
  · exact sFail_o h1
theorem sStack_o {op d y : Int32} (h1 : ¬ c = 1) (h2 : ¬ c = 2) (h : ¬ c = 6 ∧ ¬ c = 20 ∧ ¬ c = 26 ∧ ¬ c = 27) : sStack op d y X c = X c := by
  unfold sStack
  split
  · split
    · rw [up2_b h1, sPush_o h1 h]
    · exact sFail_o h1
  split
  · split
    · rw [sGo_o h1, sPush_o h1 h]
    · exact sFail_o h1
  split
  · split
    · rw [up2_b h1, sPullX_o h1]
    · rw [sGo_o h1, sSet_o h2, sPullX_o h1]
  · exact sFail_o h1
theorem sRti_o (h1 : ¬ c = 1) : sRti X c = X c := by
  unfold sRti
  split
  · dsimp only
    rw [up2_b h1, up2_b h1, sPullX_o h1, up2_b h1, up2_b h1, sPullX_o h1]
  · exact sFail_o h1
theorem sInt_o (h1 : ¬ c = 1) (h : ¬ c = 6 ∧ ¬ c = 20 ∧ ¬ c = 26 ∧ ¬ c = 27) : sInt X c = X c := by
  unfold sInt
  split
  · dsimp only
    rw [up2_b h1, up2_b h1, sPush_o h1 h, sPush_o h1 h]
    split
    · exact up2_b h1
    · exact up2_b h1
  · exact sFail_o h1
theorem sKey_o {d : Int32} (h1 : ¬ c = 1) (h2 : ¬ c = 2) : sKey d X c = X c := by
  unfold sKey
  split
  · rw [sGo_o h1, sSet_o h2, up2_b h1]
  · rw [sGo_o h1, sSet_o h2]
theorem sTape_o {w : Int32} (h1 : ¬ c = 1) (h7 : ¬ c = 7) : sTape w X c = X c := by
  unfold sTape
  split
  · exact sFail_o h1
  split
  · rw [sGo_o h1, up2_b h1, up2_b h7]
  · exact sFail_o h1
theorem sAdd_o {b : Nat} (h : ¬ c = 3 ∧ ¬ c = 4 ∧ ¬ c = 5) : sAdd b X c = X c := by
  unfold sAdd
  split
  · rfl
  · rw [up2_b h.1, cpI_b h.2.2, up2_b h.2.1]
theorem sAdds_o (h : ¬ c = 3 ∧ ¬ c = 4 ∧ ¬ c = 5) : ∀ (n b : Nat) (X : AI), sAdds n b X c = X c := by
  intro n
  induction n with
  | zero => intro b X; rfl
  | succ n ih =>
    intro b X
    unfold sAdds
    rw [ih]
    split
    · rfl
    · exact sAdd_o h
theorem sFileX_o {call : Int32} (h2 : ¬ c = 2) (h : ¬ c = 3 ∧ ¬ c = 4 ∧ ¬ c = 5) (hb : ¬ c = 14 ∧ ¬ c = 15) : sFileX call X c = X c := by
  unfold sFileX
  split
  · rw [sAdds_o h, sCarry_o hb h2, sOpen_o hb]
  · rfl
theorem sCallF_o {call : Int32} (h1 : ¬ c = 1) (h2 : ¬ c = 2) (h : ¬ c = 3 ∧ ¬ c = 4 ∧ ¬ c = 5) (hb : ¬ c = 14 ∧ ¬ c = 15) : sCallF call X c = X c := by
  unfold sCallF
  split
  · rw [sGo_o h1, up2_b h2, sFileX_o h2 h hb]
  · exact sFileX_o h2 h hb
theorem sDone_o (h1 : ¬ c = 1) (h2 : ¬ c = 2) (h3 : ¬ c = 3) : sDone X c = X c := by
  unfold sDone
  split
  · rw [sGo_o h1, up2_b h2, up2_b h3, up2_b h3, up2_b h3]
  · exact up2_b h3
theorem sWNB_o (h1 : ¬ c = 1) (h2 : ¬ c = 2) (h3 : ¬ c = 3) (h : ¬ c = 20 ∧ ¬ c = 28 ∧ ¬ c = 9 ∧ ¬ c = 8) : sWNB X c = X c := by
  unfold sWNB
  rw [sDone_o h1 h2 h3]
  split
  · exact sWBl_o h
  split
  · exact sWBl_o h
  split
  · exact sWBl_o h
  · exact sWBl_o h
theorem sCtl_o {op d y : Int32} (hc : 10 ≤ c ∧ (c ≤ 12 ∨ 21 ≤ c ∧ c ≤ 25)) : sCtl op d y X c = X c := by
  unfold sCtl
  split
  · rw [sGo_o (by omega), up2_b (by omega)]
  split
  · rw [sGo_o (by omega), up2_b (by omega)]
  split
  · exact sRti_o (by omega)
  split
  · split
    · rfl
    · exact sGo_o (by omega)
  split
  · rw [sGo_o (by omega), up2_b (by omega), up2_b (by omega)]
  split
  · exact sKey_o (by omega) (by omega)
  split
  · exact sTape_o (by omega) (by omega)
  · exact sCallF_o (by omega) (by omega) (by omega) (by omega)
theorem sCore_o (hc : 10 ≤ c ∧ (c ≤ 12 ∨ 21 ≤ c ∧ c ≤ 25)) : sCore X c = X c := by
  unfold sCore
  split
  · exact sWNB_o (by omega) (by omega) (by omega) (by omega)
  split
  · exact sInt_o (by omega) (by omega)
  · unfold sIns
    split
    · dsimp only
      unfold sDo
      split
      · split
        · split
          · split
            · split
              · exact sMove_o (by omega) (by omega) (by omega)
              · exact sCalc_o (by omega) (by omega)
            · exact sJump_o (by omega)
          · exact sStack_o (by omega) (by omega) (by omega)
        · exact sCtl_o hc
      · exact sFail_o (by omega)
    · exact sFail_o (by omega)
theorem sTime_o (h1 : ¬ c = 1) : sTime X c = X c := by
  unfold sTime
  split
  · rfl
  · dsimp only
    split
    · rw [up2_b h1, up2_b h1, up2_b h1]
    · exact up2_b h1
theorem sKeys_o (h1 : ¬ c = 1) : sKeys X c = X c := by
  unfold sKeys
  split
  · exact up2_b h1
  · rfl
end FR
theorem sWBl_9 {b : Nat} {f : Nat → Int32} {X : AI} {k : Nat} : sWBl b f X 9 k = if 8 * b ≤ k ∧ k < 8 * b + 8 then f (k - 8 * b) else X 9 k := by
  unfold sWBl
  rw [if_neg (by omega), if_neg (by omega)]
  by_cases h : 8 * b ≤ k ∧ k < 8 * b + 8
  · rw [if_pos ⟨rfl, h⟩, if_pos h]
  · rw [if_neg (fun hh => h hh.2), if_neg h, if_neg (by omega)]
theorem sHd_cong {n : Nat} {p q p' q' : Nat → Int32} (hp : ∀ k, k < n → p k = p' k) (hq : ∀ k, k < 8 * n → q k = q' k) : sHd n p q = sHd n p' q' := by
  funext k
  unfold sHd
  rw [sSum_cong hq (8 * n) 0 _ (by omega), sSum_cong hp n 0 _ (by omega)]
  split
  · rfl
  · split
    · rfl
    · split
      · rw [hp _ (by omega)]
      · rfl
/-- a call goes on -/
def isW (n d : Nat) (X : AI) : Prop := (1 ≤ n ∧ n ≤ 3 ∧ d ≤ 2 * n + 1) ∧ (X 3 0 = Int32.ofNat n ∧ X 3 1 = Int32.ofNat d) ∧ (∀ k, k < n → X 4 k = Int32.ofNat (nT (X 4 k)) ∧ nT (X 4 k) < 32) ∧ (∀ k, k < 8 * n → wd (X 5 k))
section MS
variable {kad : Nat → Nat} {N : Nat} {Z : AZ} {m s : Nat} {I0 I X : AI}
/-- the model holds a machine -/
def ML (m : Nat) (I X : AI) : Prop := (∀ c k, mC c → rel 0 X c k → I (mA m c) (mK c k) = X c k) ∧ (I m 46 = sLeft X ∧ (¬ X 3 0 = 0 → I m 47 = X 3 0))
theorem MR.ml {e : Nat} (H : MR 0 m s I0 I X) : ML m I X := ⟨H.1, H.2.1⟩
end MS
