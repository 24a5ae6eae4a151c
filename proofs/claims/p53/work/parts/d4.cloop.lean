/-! a row filled with new objects, in a loop -/
def gJ (LC : Nat → List AEnt) (a q w : Nat) : Nat → List AEnt
  | 0 => []
  | j + 1 => gJ LC a q w j ++ LC (a + (q + w * j))
def aJ (a q w : Nat) : Nat → Nat → Value
  | 0 => fun _ => .null
  | j + 1 => updV (aJ a q w j) j (.ref (a + (q + w * j)))
theorem gJ_len {LC : Nat → List AEnt} {a q w : Nat} (hw : ∀ b, (LC b).length = w) : ∀ j, (gJ LC a q w j).length = w * j
  | 0 => rfl
  | j + 1 => by
    simp only [gJ, List.length_append, gJ_len hw j, hw]
    rw [Nat.mul_succ]
theorem gJ_at {LC : Nat → List AEnt} {a q w i t : Nat} (hw : ∀ b, (LC b).length = w) (ht : t < w) : ∀ {n}, i < n → (gJ LC a q w n)[w * i + t]? = (LC (a + (q + w * i)))[t]?
  | 0, h => absurd h (Nat.not_lt_zero _)
  | n + 1, h => by
    by_cases hi : i = n
    · subst hi
      show (gJ LC a q w i ++ LC (a + (q + w * i)))[w * i + t]? = _
      rw [List.getElem?_append_right (by rw [gJ_len hw]; omega), gJ_len hw, Nat.add_sub_cancel_left]
    · have hlt : i < n := by omega
      show (gJ LC a q w n ++ LC (a + (q + w * n)))[w * i + t]? = _
      have h1 : w * i + t < w * n := by
        have h2 : w * (i + 1) ≤ w * n := Nat.mul_le_mul_left w hlt
        rw [Nat.mul_succ] at h2
        omega
      rw [List.getElem?_append_left (by rw [gJ_len hw]; exact h1)]
      exact gJ_at hw ht hlt
theorem aJ_at {a q w i : Nat} : ∀ {n}, i < n → aJ a q w n i = .ref (a + (q + w * i))
  | 0, h => absurd h (Nat.not_lt_zero _)
  | n + 1, h => by
    by_cases hi : i = n
    · subst hi
      simp only [aJ, updV, if_true]
    · simp only [aJ, updV, if_neg hi]
      exact aJ_at (by omega)
section CLOOP
variable {l : Launch} {kad : Nat → Nat} {d mi mj : Nat} {y z : AMeth} {S9 : ASt} {r : ARes} {M : AMem} {R : List AEnt} {LC : Nat → List AEnt} {p0 pb pE idx i1 i2 i ci cj N Nj k k0 n a c s cc ss q w p' : Nat} {xn : Int32} {off : Int} {f : Nat → Value} {C : String} {T : u_T}
/-- the cells, j of the row made -/
def cJ (LC : Nat → List AEnt) (ci N : Nat) (f : Nat → Value) (R : List AEnt) (a q w p' k0 n j : Nat) : List AEnt := (ci, (N, f)) :: (R.set p' (100 + k0, (n, aJ a q w j)) ++ gJ LC a q w j)
theorem it_loop (hy : aMS[mi]? = some y) (hz : aMS[mj]? = some z) (hn31 : n < 2 ^ 31) (hxn : xn = nI n) (hH : ∀ x : Int32, aOpsN y 2 (p0, ([(1, .int x), (0, .ref a)], [])) = some (pb, ([(1, .int x), (0, .ref a)], [.int xn, .int x]))) (hI : aFind (aPs y) pb = some (.if_icmp .ge off, 3)) (hoff : (pb : Int) + off = .ofNat pE) (hB1 : ∀ x : Int32, aOpsN y 1 (pb + 3, ([(1, .int x), (0, .ref a)], [])) = some (pb + 4, ([(1, .int x), (0, .ref a)], [.ref a])))
    (hG : aFind (aPs y) (pb + 4) = some (.getfield idx, 3)) (hF : aFind (aFT (aOc y)) idx = some (ci, (k, i))) (hB2 : ∀ (x : Int32) (v : Nat), aOpsN y 1 (pb + 7, ([(1, .int x), (0, .ref a)], [.ref v])) = some (pb + 8, ([(1, .int x), (0, .ref a)], [.int x, .ref v])))
    (h2 : aFind (aPs y) (pb + 8) = some (.new i1, 3)) (h3 : aFind (aPs y) (pb + 11) = some (.dup, 1)) (h4 : aFind (aPs y) (pb + 12) = some (.invokespecial i2, 3)) (hA : aFind (aPs y) (pb + 15) = some (.aastore, 1)) (hB3 : ∀ x : Int32, aOpsN y 2 (pb + 16, ([(1, .int x), (0, .ref a)], [])) = some (p0, ([(1, .int (x + Int32.ofInt 1)), (0, .ref a)], [])))
    (ht : aTys[k0]? = some (.object C)) (hc : vwCl[cj]? = some (C, T, Nj)) (h100 : cj < 100) (hw' : ∀ w ∈ [Cond.classLink y.1.cls i1 C, Cond.instantiable C Nj, Cond.initialized C], w ∈ aTB) (hl : Cond.methodLink y.1.cls i2 z.1 ∈ aTB ∨ Cond.methodLinkNest y.1.cls i2 z.1 "KernelGym" ∈ aNG) (hi : Cond.instanceMethod z.1 ∈ aTB) (hnm : z.1.name = "<init>" ∧ aRt z = none ∧ (parseMethodDescriptor z.1.desc).map (fun d => d.parameters.length) = some 0 ∧ 1 ≤ aNl z)
    (hch : ∀ (M : AMem) (b c s : Nat), aStm l kad d z (0, ([(0, .ref b)], [])) (cSt M b [(cj, (Nj, dfl cj))] c s) (.inl none) (cSt M b (LC b) (c + cc) (s + ss))) (hLw : ∀ b, (LC b).length = w) (hL0 : ∀ b, ∃ fe, (LC b)[0]? = some (cj, (Nj, fe)))
    (hfk : f k = .ref (a + (p' + 1))) (hR : R.length + 1 = q) (hp : p' < R.length)
    (g : aStm l kad (d + 1) y (pE, ([(1, .int (nI n)), (0, .ref a)], [])) (cSt M a (cJ LC ci N f R a q w p' k0 n n) (c + n * (1 + cc)) (s + n * (Nj + ss))) r S9) :
    ∀ m j, j + m = n → aStm l kad (d + 1) y (p0, ([(1, .int (nI j)), (0, .ref a)], [])) (cSt M a (cJ LC ci N f R a q w p' k0 n j) (c + j * (1 + cc)) (s + j * (Nj + ss))) r S9 := by
  intro m
  induction m with
  | zero =>
    intro j hj
    have hj : j = n := hj
    subst hj
    refine cs_ops hy 2 _ (hH _) (cs_op hy hI ?_ g)
    show aIf (decide (xn ≤ nI j)) pb off _ _ = _
    rw [hxn, decide_eq_true (Int32.le_refl _)]
    unfold aIf
    rw [hoff]
    rfl
  | succ m ih =>
    intro j hj
    have hjn : j < n := by omega
    refine cs_ops hy 2 _ (hH _) (cs_op (f1 := (pb + 3, ([(1, .int (nI j)), (0, .ref a)], []))) hy hI ?_ ?_)
    · show aIf (decide (xn ≤ nI j)) pb off _ _ = _
      rw [hxn, decide_eq_false (nI_ge hjn hn31)]
      unfold aIf
      rw [hoff]
      rfl
    refine cs_ops hy 1 _ (hB1 _) ?_
    refine cs_getf hy hG hF ?_
    rw [hfk]
    refine cs_ops hy 1 _ (hB2 _ _) ?_
    refine cs_make (n := q + w * j) hy hz h2 h3 h4 hc hw' hl hi hnm (fun q => Nat.le_of_ble_eq_true rfl) hch ?_ ?_
    · show ((R.set p' _ ++ gJ LC a q w j).length) + 1 = _
      rw [List.length_append, List.length_set, gJ_len hLw]
      omega
    · obtain ⟨fe, hfe⟩ := hL0 (a + (q + w * j))
      refine cs_aast (k0 := k0) (e0 := (100 + k0, (n, aJ a q w j))) (e1 := (cj, (Nj, fe))) hy hA ?_ rfl ht ?_ hc h100 ⟨nI_pos (by omega), by rw [nI_clamp (by omega)]; exact hjn⟩ ?_
      · refine bM_at (j := p' + 1) ?_
        show ((R.set p' (100 + k0, (n, aJ a q w j)) ++ gJ LC a q w j) ++ LC (a + (q + w * j)))[p']? = _
        rw [List.getElem?_append_left (by rw [List.length_append, List.length_set]; omega), List.getElem?_append_left (by rw [List.length_set]; exact hp), List.getElem?_set_self hp]
      · refine bM_at (j := q + w * j) ?_
        have e : ((ci, (N, f)) :: (R.set p' (100 + k0, (n, aJ a q w j)) ++ gJ LC a q w j)).length = q + w * j := by
          show ((R.set p' _ ++ gJ LC a q w j).length) + 1 = _
          rw [List.length_append, List.length_set, gJ_len hLw]
          omega
        rw [List.getElem?_append_right (by rw [e]; omega), e, Nat.sub_self]
        exact hfe
      · refine cs_ops hy 2 _ (hB3 _) ?_
        have h := ih (j + 1) (by omega)
        rw [nI_succ] at h
        have e1 : aMw (bM M a (cJ LC ci N f R a q w p' k0 n j ++ LC (a + (q + w * j)))) (a + (p' + 1)) (100 + k0, (n, updV (aJ a q w j) (nI j).toNatClampNeg (.ref (a + (q + w * j))))) = bM M a (cJ LC ci N f R a q w p' k0 n (j + 1)) := by
          rw [nI_clamp (by omega), bM_set (by show p' + 1 < (((ci, (N, f)) :: (R.set p' _ ++ gJ LC a q w j)) ++ LC _).length; rw [List.length_append]; show p' + 1 < ((R.set p' _ ++ gJ LC a q w j).length + 1) + _; rw [List.length_append, List.length_set]; omega)]
          refine congrArg (bM M a) ?_
          show (ci, (N, f)) :: ((R.set p' _ ++ gJ LC a q w j) ++ LC (a + (q + w * j))).set p' _ = (ci, (N, f)) :: (R.set p' (100 + k0, (n, updV (aJ a q w j) j (.ref (a + (q + w * j))))) ++ (gJ LC a q w j ++ LC (a + (q + w * j))))
          rw [List.append_assoc, List.set_append_left _ _ (by rw [List.length_set]; exact hp), List.set_set]
        have e2 : a + (cJ LC ci N f R a q w p' k0 n j ++ LC (a + (q + w * j))).length = a + (cJ LC ci N f R a q w p' k0 n (j + 1)).length := by
          unfold cJ
          simp only [List.length_append, List.length_cons, List.length_set, gJ]
          omega
        have e3 : c + j * (1 + cc) + (1 + cc) = c + (j + 1) * (1 + cc) := by rw [Nat.succ_mul]; omega
        have e4 : s + j * (Nj + ss) + (Nj + ss) = s + (j + 1) * (Nj + ss) := by rw [Nat.succ_mul]; omega
        exact (cSt_eq e1 e2 e3 e4) ▸ h
end CLOOP
