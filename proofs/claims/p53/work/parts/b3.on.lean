/-! a machine that is on stays on -/
def oN (X : AI) : Prop := ¬ X 1 0 = 0
section ON
variable {X Y : AI} {c k : Nat} {v w x y op d call : Int32}
theorem oN.u (h : oN X) (hc : ¬ (c = 1 ∧ k = 0)) : oN (up2 X c k v) := by
  unfold oN
  rw [up2_ne (fun hh => hc ⟨hh.1.symm, hh.2.symm⟩)]
  exact h
theorem oN.b (h : oN X) (hY : Y 1 0 = X 1 0) : oN Y := by
  unfold oN
  rw [hY]
  exact h
theorem oN.go (h : oN X) : oN (sGo X) := h.u (by decide)
theorem oN.fail : oN (sFail x X) := by
  unfold oN sFail
  rw [up2_ne (by decide), up2_eq]
  decide
theorem oN.set (h : oN X) : oN (sSet v w X) := h.b (congrFun (sSet_o (by decide)) 0)
theorem oN.wr (h : oN X) : oN (sWr v w X) := h.b (congrFun (sWr_o (by decide)) 0)
theorem oN.push (h : oN X) : oN (sPush w X) := h.b (sPush_lo (by decide) (by decide) (by decide))
theorem oN.pull (h : oN X) : oN (sPullX X) := h.u (by decide)
theorem oN.move (h : oN X) : oN (sMove op d y X) := by
  unfold sMove
  split
  · unfold oN; rw [up2_eq]; decide
  · split
    · exact h.set.go
    · split
      · split
        · exact h.set.go
        · exact h.wr.go
      · exact oN.fail
theorem oN.calc (h : oN X) : oN (sCalc op d y X) := by
  unfold sCalc
  have h1 : oN (up2 (up2 X 1 6 (sLess op (sMade op (sReg X d) y))) 1 5 (if sW16 (sMade op (sReg X d) y) = 0 then 1 else 0)) := (h.u (by decide)).u (by decide)
  dsimp only
  split
  · exact h1.go
  · exact h1.set.go
theorem oN.jump (h : oN X) : oN (sJump op y X) := by
  unfold sJump
  split
  · exact h.go
  · exact h.u (by decide)
theorem oN.stack (h : oN X) : oN (sStack op d y X) := by
  unfold sStack
  split
  · split
    · exact h.push.u (by decide)
    · exact oN.fail
  · split
    · split
      · exact h.push.go
      · exact oN.fail
    · split
      · split
        · exact h.pull.u (by decide)
        · exact h.pull.set.go
      · exact oN.fail
theorem oN.rti (h : oN X) : oN (sRti X) := by
  unfold sRti
  split
  · exact ((((h.pull.u (by decide)).u (by decide)).pull.u (by decide)).u (by decide))
  · exact oN.fail
theorem oN.int (h : oN X) : oN (sInt X) := by
  unfold sInt
  split
  · have hY : oN (if X 1 8 = 0 then up2 X 1 9 0 else up2 X 1 8 0) := by
      split
      · exact h.u (by decide)
      · exact h.u (by decide)
    exact (hY.push.push.u (by decide)).u (by decide)
  · exact oN.fail
theorem oN.keys (h : oN X) : oN (sKeys X) := by
  unfold sKeys
  split
  · exact h.u (by decide)
  · exact h
theorem oN.time (h : oN X) : oN (sTime X) := by
  unfold sTime
  split
  · exact h
  · dsimp only
    split
    · exact ((h.u (by decide)).u (by decide)).u (by decide)
    · exact h.u (by decide)
theorem oN.key (h : oN X) : oN (sKey d X) := by
  unfold sKey
  split
  · exact ((h.u (by decide)).set).go
  · exact h.set.go
theorem oN.tape (h : oN X) : oN (sTape w X) := by
  unfold sTape
  split
  · exact oN.fail
  · split
    · exact ((h.u (fun hh => absurd hh.1 (by decide))).u (by decide)).go
    · exact oN.fail
theorem oN.filex (h : oN X) : oN (sFileX call X) := h.b (congrFun (sFileX_o (by decide) (by decide) (by decide)) 0)
theorem oN.callf (h : oN X) : oN (sCallF call X) := by
  unfold sCallF
  split
  · exact (h.filex.u (by decide)).go
  · exact h.filex
theorem oN.ctl (h : oN X) : oN (sCtl op d y X) := by
  unfold sCtl
  repeat' split
  · exact (h.u (by decide)).go
  · exact (h.u (by decide)).go
  · exact h.rti
  · exact h
  · exact h.go
  · exact ((h.u (by decide)).u (by decide)).go
  · exact h.key
  · exact h.tape
  · exact h.callf
theorem oN.do (h : oN X) : oN (sDo op d y X) := by
  unfold sDo
  repeat' split
  · exact h.move
  · exact h.calc
  · exact h.jump
  · exact h.stack
  · exact h.ctl
  · exact oN.fail
theorem oN.ins (h : oN X) : oN (sIns X) := by
  unfold sIns
  split
  · exact h.do
  · exact oN.fail
theorem oN.wbl {b : Nat} {f : Nat → Int32} (h : oN X) : oN (sWBl b f X) := h.b (congrFun (sWBl_o (by decide)) 0)
theorem oN.done (h : oN X) : oN (sDone X) := by
  unfold sDone
  dsimp only
  split
  · exact ((((h.u (by decide)).u (by decide)).u (by decide)).u (by decide)).go
  · exact h.u (by decide)
theorem oN.wnb (h : oN X) : oN (sWNB X) := by
  unfold sWNB
  dsimp only
  refine oN.done ?_
  repeat' split
  all_goals exact h.wbl
theorem oN.step (h : oN X) : oN (sStep X) := by
  have hB : oN (sBegin X) := h.b (congrFun (sBegin_lo (by decide)) 0)
  have hC : oN (sCore (sBegin X)) := by
    unfold sCore
    split
    · exact hB.wnb
    · split
      · exact hB.int
      · exact hB.ins
  unfold sStep
  exact ((hC.u (by decide)).time).keys
theorem oN.tr {K B : AI} (h : oN B) : ∀ j, oN (tr K B j) := by
  intro j
  induction j with
  | zero => exact (show oN (ov K B) from h).keys
  | succ j ih => exact ih.step
theorem oN.wake {M D : Nat → Int32} {W : Int32} : oN (wake M D W) := by
  unfold oN
  rw [wake_1, if_pos rfl]
  decide
end ON
