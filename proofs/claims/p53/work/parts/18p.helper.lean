/-! a helper's call as a function; how many exceptions were made so far -/
def tk (t : Option Nat × (Nat × Nat)) (k : Nat) : Option Nat × (Nat × Nat) := ((if k = 0 then t.1 else none), (t.2.1 + k, t.2.2 + 6 * k))
def tB (c : Nat) (t t1 : Option Nat × (Nat × Nat)) : Prop := ∃ k, k ≤ c ∧ t1 = tk t k
section TB
variable {t t1 t2 : Option Nat × (Nat × Nat)} {c c1 b : Nat} {Z : AZ} {I J : AI} {α : Type} {tv : α → Option Value} {E : String} {v : α}
theorem tB.refl : tB 0 t t := ⟨0, Nat.le_refl _, by obtain ⟨a, b, c⟩ := t; rfl⟩
theorem tk_tk (k j : Nat) : tk (tk t k) j = tk t (k + j) := by
  unfold tk
  dsimp only
  by_cases hj : j = 0
  · subst hj
    rw [if_pos rfl, Nat.mul_zero, Nat.add_zero, Nat.add_zero, Nat.add_zero]
  · rw [if_neg hj, if_neg (show ¬ k + j = 0 by omega), Nat.mul_add, Nat.add_assoc, Nat.add_assoc]
theorem tB.tr (h : tB c t t1) (h2 : tB c1 t1 t2) : tB (c + c1) t t2 := by
  obtain ⟨k, hk, rfl⟩ := h
  obtain ⟨j, hj, rfl⟩ := h2
  exact ⟨k + j, by omega, tk_tk k j⟩
theorem tB.le (h : tB c t t1) (hc : c ≤ c1) : tB c1 t t1 := by
  obtain ⟨k, hk, e⟩ := h
  exact ⟨k, by omega, e⟩
theorem tB.one : tB 1 t (none, (t.2.1 + 1, t.2.2 + 6)) := ⟨1, Nat.le_refl _, rfl⟩
def oR (tv : α → Option Value) : α ⊕ String → ARes
  | .inl v => .inl (tv v)
  | .inr E => .inr E
def qLx (c : Nat) (tv : α → Option Value) (Z : AZ) (t : Option Nat × (Nat × Nat)) (r : (α ⊕ String) × AI) : ARes → ASt → Prop := fun x S1 => x = oR tv r.1 ∧ ∃ t1, tB c t t1 ∧ S1 = (aMem Z r.2, t1)
def qLn (c : Nat) (tv : α → Option Value) (Z : AZ) (t : Option Nat × (Nat × Nat)) (r : α × AI) : ARes → ASt → Prop := fun x S1 => x = .inl (tv r.1) ∧ ∃ t1, tB c t t1 ∧ S1 = (aMem Z r.2, t1)
theorem qLx_ret (h : tB c t t1) (hc : c ≤ c1 := by omega) : qLx c1 tv Z t (.inl v, I) (.inl (tv v)) (aMem Z I, t1) := ⟨rfl, t1, h.le hc, rfl⟩
theorem qLn_ret (h : tB c t t1) (hc : c ≤ c1 := by omega) : qLn c1 tv Z t (v, I) (.inl (tv v)) (aMem Z I, t1) := ⟨rfl, t1, h.le hc, rfl⟩
theorem qLx_thr (h : tB c t t1) (hc : c + 1 ≤ c1 := by omega) : qLx c1 tv Z t (.inr E, I) (.inr E) (aMem Z I, (none, (t1.2.1 + 1, t1.2.2 + 6))) := ⟨rfl, _, (h.tr tB.one).le hc, rfl⟩
theorem qLx_tr {r : (α ⊕ String) × AI} {x : ARes} {S1 : ASt} (h : tB c t t1) (hc : c + b ≤ c1) (hq : qLx b tv Z t1 r x S1) : qLx c1 tv Z t r x S1 := by
  obtain ⟨e, t2, h2, e2⟩ := hq
  exact ⟨e, t2, (h.tr h2).le hc, e2⟩
theorem qLn_tr {r : α × AI} {x : ARes} {S1 : ASt} (h : tB c t t1) (hc : c + b ≤ c1) (hq : qLn b tv Z t1 r x S1) : qLn c1 tv Z t r x S1 := by
  obtain ⟨e, t2, h2, e2⟩ := hq
  exact ⟨e, t2, (h.tr h2).le hc, e2⟩
end TB
/-- a helper's run -/
def hEv (kad : Nat → Nat) (d h : Nat) (argv : List Value) (S : ASt) (Z : AZ) (x : Int32 × AI) : Prop := ∃ w, aHca h argv S.1 = some w ∧ aEv kad d w.1 w.2.1 S (fun r S1 => aHre h argv w.2.2 r = some x.1 ∧ ∃ t1, tB 1 S.2 t1 ∧ S1 = (aMem Z x.2, t1))
def hRo (es : List Nat) (r : (Int32 ⊕ String) × AI) : Option (Int32 × AI) := match r.1 with
  | .inl v => some (v, r.2)
  | .inr E => if es.any (fun k => decide (E = aEC k)) = true then some (Int32.ofInt (-99999999), r.2) else none
section HE
variable {kad : Nat → Nat} {d mi h : Nat} {Q : ARes → ASt → Prop} {y : AMeth} {Z : AZ} {I J : AI} {t : Option Nat × (Nat × Nat)} {pc np idx : Nat} {lv : ALv} {r as : List Value} {x : Int32 × AI}
theorem gg_hl (hy : aMS[mi]? = some y) (hq : aFind (aPs y) pc = some (.invokestatic idx, 3)) (hC : aFind (aCT (aOc y)) idx = none) (hH : aFind (aHT (aOc y)) idx = some (h, np)) (hX : aFind (aXT (aOc y)) idx = none) (hn : as.length = np) (hcat : aCat r) (hsl : (lg_sl as).length ≤ aNl (aHM h)) (hd : 2 ≤ d)
    (hm : hEv kad (d - 2) h as (aMem Z I, t) Z x) (k : ∀ t1, tB 1 t t1 → aGo kad d mi (pc + 3, (lv, .int x.1 :: r)) (aMem Z x.2, t1) Q) : aGo kad d mi (pc, (lv, as.reverse ++ r)) (aMem Z I, t) Q := by
  have hd1 : (as.reverse ++ r).drop np = r := by rw [← hn, ← List.length_reverse (as := as), List.drop_left]
  have ht1 : (as.reverse ++ r).take np = as.reverse := by rw [← hn, ← List.length_reverse (as := as), List.take_left]
  have hcl : aHcl y (.invokestatic idx) (as.reverse ++ r) = some (h, (as, r)) := by
    simp only [aHcl, hH, hd1, ht1, List.reverse_reverse]
    rw [if_pos ⟨by rw [List.length_reverse]; exact hn, hcat, hsl⟩]
  obtain ⟨w, hw, hr⟩ := hm
  refine go_help hy hq rfl rfl rfl (by simp only [aEx, hX]) (by simp only [aThr]) (by simp only [aCall, hC]) hcl hw hd (hr.mono fun r1 S1 hq1 => ?_)
  obtain ⟨e1, t1, e2, e3⟩ := hq1
  subst e3
  exact ⟨_, e1, k t1 e2⟩
theorem aPl_int {y : AMeth} {n pc : Nat} {lv : ALv} {v : Int32} (hf : aFind (aPs y) pc = some (.ireturn, 1)) (hr : aRt y = some .int) : aPl y (n + 1) (pc, (lv, [.int v])) = (pc, (lv, [.int v])) := by
  have h2 : aRet (some .int) .ireturn [.int v] = some (some (.int v)) := if_pos rfl
  unfold aPl
  dsimp only
  rw [hf, hr]
  dsimp only
  rw [h2]
theorem aPl_goto {y : AMeth} {n pc pcE : Nat} {off : Int} {lv : ALv} {st : List Value} (hf : aFind (aPs y) pc = some (.goto off, 3)) (ho : (pc : Int) + off = (pcE : Nat)) : aPl y (n + 1) (pc, (lv, st)) = aPl y n (pcE, (lv, st)) := by
  have h2 : aRet (aRt y) (.goto off) st = none := by unfold aRet; rfl
  have h3 : aOp (aNl y) (.goto off) pc lv st = some (pcE, (lv, st)) := by
    show aJump pc off lv st = _
    unfold aJump
    rw [ho]
  show (match aFind (aPs y) pc with | none => _ | some q => _) = _
  rw [hf]
  dsimp only
  rw [h2]
  dsimp only
  rw [h3]
theorem hE_of {argv : List Value} {pcI pcE mi2 i1 i2 i3 a n : Nat} {z : AMeth} {es : List Nat} {u : (Int32 ⊕ String) × AI} (e1 : aHin h argv = (pcI, (lv, as.reverse ++ [.ref a]))) (hq : aFind (aPs (aHM h)) pcI = some (.invokevirtual idx, 3)) (hC : aFind (aCT (aOc (aHM h))) idx = some (0, (mi2, (np, (i1, (i2, i3)))))) (hz : aMS[mi2]? = some z) (h11 : aOc z < 11) (hn : as.length = np) (hsl : (lg_sl (.ref a :: as)).length ≤ aNl z) (hk : Z.1 a = some (aOc z, n))
    (ho : ∀ v, aPl (aHM h) 20 (pcI + 3, (lv, [.int v])) = (pcE, (lv, [.int v]))) (he : aFind (aPs (aHM h)) pcE = some (.ireturn, 1)) (hx : ∀ k ∈ es, aHex h (aEC k) pcI = true) (hr : hRo es u = some x) (hg : aEv kad d mi2 (.ref a :: as) (aMem Z I, t) (qX tvI Z t u)) : hEv kad d h argv (aMem Z I, t) Z x := by
  have hd1 : (as.reverse ++ [Value.ref a]).drop np = [Value.ref a] := by rw [← hn, ← List.length_reverse (as := as), List.drop_left]
  have ht1 : (as.reverse ++ [Value.ref a]).take np = as.reverse := by rw [← hn, ← List.length_reverse (as := as), List.take_left]
  have hcall : aCall (aHM h) (.invokevirtual idx) (as.reverse ++ [.ref a]) (aMem Z I) = some (mi2, (0, (.ref a :: as, []))) := by
    simp only [aCall, hC, if_true, hd1, ht1, aMem_eq hk, hz, List.reverse_reverse]
    rw [if_pos ⟨⟨rfl, h11⟩, by rw [List.length_reverse]; exact hn, by decide, hsl⟩]
  refine ⟨(mi2, (.ref a :: as, [])), ?_, hg.mono fun r1 S1 q => ?_⟩
  · unfold aHca
    rw [e1]
    simp only [hq, hcall]
  · obtain ⟨u0, J⟩ := u
    cases u0 with
    | inl v =>
      obtain ⟨rfl, rfl⟩ : r1 = .inl (tvI v) ∧ S1 = (aMem Z J, t) := q
      cases (show some (v, J) = some x from hr)
      refine ⟨?_, t, tB.refl.le (Nat.zero_le _), rfl⟩
      show aHou h ((aHin h argv).1 + 3, ((aHin h argv).2.1, [.int v])) = some v
      rw [e1]
      unfold aHou
      try dsimp only
      rw [ho v]
      try dsimp only
      rw [he]
      rfl
    | inr E =>
      obtain ⟨rfl, rfl⟩ : r1 = .inr E ∧ S1 = (aMem Z J, (none, (t.2.1 + 1, t.2.2 + 6))) := q
      have hr : (if es.any (fun k => decide (E = aEC k)) = true then some (Int32.ofInt (-99999999), J) else none) = some x := hr
      split at hr
      · rename_i hc
        cases hr
        refine ⟨?_, _, tB.one, rfl⟩
        obtain ⟨k, hk1, hk2⟩ := List.any_eq_true.mp hc
        have hk2 := of_decide_eq_true hk2
        subst hk2
        show (if aHex h (aEC k) (aHin h argv).1 = true then some (Int32.ofInt (-99999999)) else none) = some _
        rw [e1]
        try dsimp only
        rw [if_pos (hx k hk1)]
      · cases hr
end HE
set_option maxRecDepth 20000 in
theorem hE0_0 {kad : Nat → Nat} {N : Nat} {Z : AZ} {d : Nat} {t : Option Nat × (Nat × Nat)} (hd : 3 ≤ d) (g : Nat) (hg : sh10 kad Z g) (a b kind n : Int32) (I : AI) (x : Int32 × AI) (h : (f126 kad N Z g a I).bind (hRo [0, 1]) = some x) : hEv kad d 0 [.ref g, .int (0 : Int32), .int a, .int b, .int kind, .int n] (aMem Z I, t) Z x := by
  obtain ⟨u, h1, h2⟩ := Option.bind_eq_some_iff.mp h
  exact hE_of (as := [.int a]) (pcI := 6) (lv := lv_args 0 [.ref g, .int (0 : Int32), .int a, .int b, .int kind, .int n]) rfl rfl rfl aMi126 (Nat.le_of_ble_eq_true rfl) rfl (Nat.le_of_ble_eq_true rfl) (sh10_z hg) (pcE := 132) (fun v => (aPl_goto (n := 19) (pcE := 132) rfl rfl).trans (aPl_int rfl rfl)) rfl (by decide +kernel) h2 (Tf126 hd g hg a I u h1)
set_option maxRecDepth 20000 in
theorem hE0_1 {kad : Nat → Nat} {N : Nat} {Z : AZ} {d : Nat} {t : Option Nat × (Nat × Nat)} (hd : 3 ≤ d) (g : Nat) (hg : sh10 kad Z g) (a b kind n : Int32) (I : AI) (x : Int32 × AI) (h : (f127 kad N Z g a I).bind (hRo [0, 1]) = some x) : hEv kad d 0 [.ref g, .int (1 : Int32), .int a, .int b, .int kind, .int n] (aMem Z I, t) Z x := by
  obtain ⟨u, h1, h2⟩ := Option.bind_eq_some_iff.mp h
  exact hE_of (as := [.int a]) (pcI := 19) (lv := lv_args 0 [.ref g, .int (1 : Int32), .int a, .int b, .int kind, .int n]) rfl rfl rfl aMi127 (Nat.le_of_ble_eq_true rfl) rfl (Nat.le_of_ble_eq_true rfl) (sh10_z hg) (pcE := 132) (fun v => (aPl_goto (n := 19) (pcE := 132) rfl rfl).trans (aPl_int rfl rfl)) rfl (by decide +kernel) h2 (Tf127 hd g hg a I u h1)
set_option maxRecDepth 20000 in
theorem hE0_2 {kad : Nat → Nat} {N : Nat} {Z : AZ} {d : Nat} {t : Option Nat × (Nat × Nat)} (hd : 3 ≤ d) (g : Nat) (hg : sh10 kad Z g) (a b kind n : Int32) (I : AI) (x : Int32 × AI) (h : (f130 kad N Z g a I).bind (hRo [0, 1]) = some x) : hEv kad d 0 [.ref g, .int (2 : Int32), .int a, .int b, .int kind, .int n] (aMem Z I, t) Z x := by
  obtain ⟨u, h1, h2⟩ := Option.bind_eq_some_iff.mp h
  exact hE_of (as := [.int a]) (pcI := 32) (lv := lv_args 0 [.ref g, .int (2 : Int32), .int a, .int b, .int kind, .int n]) rfl rfl rfl aMi130 (Nat.le_of_ble_eq_true rfl) rfl (Nat.le_of_ble_eq_true rfl) (sh10_z hg) (pcE := 132) (fun v => (aPl_goto (n := 19) (pcE := 132) rfl rfl).trans (aPl_int rfl rfl)) rfl (by decide +kernel) h2 (Tf130 hd g hg a I u h1)
set_option maxRecDepth 20000 in
theorem hE0_3 {kad : Nat → Nat} {N : Nat} {Z : AZ} {d : Nat} {t : Option Nat × (Nat × Nat)} (hd : 3 ≤ d) (g : Nat) (hg : sh10 kad Z g) (a b kind n : Int32) (I : AI) (x : Int32 × AI) (h : (f132 kad N Z g a I).bind (hRo [0, 1]) = some x) : hEv kad d 0 [.ref g, .int (3 : Int32), .int a, .int b, .int kind, .int n] (aMem Z I, t) Z x := by
  obtain ⟨u, h1, h2⟩ := Option.bind_eq_some_iff.mp h
  exact hE_of (as := [.int a]) (pcI := 45) (lv := lv_args 0 [.ref g, .int (3 : Int32), .int a, .int b, .int kind, .int n]) rfl rfl rfl aMi132 (Nat.le_of_ble_eq_true rfl) rfl (Nat.le_of_ble_eq_true rfl) (sh10_z hg) (pcE := 132) (fun v => (aPl_goto (n := 19) (pcE := 132) rfl rfl).trans (aPl_int rfl rfl)) rfl (by decide +kernel) h2 (Tf132 hd g hg a I u h1)
set_option maxRecDepth 20000 in
theorem hE0_4 {kad : Nat → Nat} {N : Nat} {Z : AZ} {d : Nat} {t : Option Nat × (Nat × Nat)} (hd : 3 ≤ d) (g : Nat) (hg : sh10 kad Z g) (a b kind n : Int32) (I : AI) (x : Int32 × AI) (h : (f133 kad N Z g I).bind (hRo [0, 1]) = some x) : hEv kad d 0 [.ref g, .int (4 : Int32), .int a, .int b, .int kind, .int n] (aMem Z I, t) Z x := by
  obtain ⟨u, h1, h2⟩ := Option.bind_eq_some_iff.mp h
  exact hE_of (as := []) (pcI := 57) (lv := lv_args 0 [.ref g, .int (4 : Int32), .int a, .int b, .int kind, .int n]) rfl rfl rfl aMi133 (Nat.le_of_ble_eq_true rfl) rfl (Nat.le_of_ble_eq_true rfl) (sh10_z hg) (pcE := 132) (fun v => (aPl_goto (n := 19) (pcE := 132) rfl rfl).trans (aPl_int rfl rfl)) rfl (by decide +kernel) h2 (Tf133 hd g hg I u h1)
set_option maxRecDepth 20000 in
theorem hE0_5 {kad : Nat → Nat} {N : Nat} {Z : AZ} {d : Nat} {t : Option Nat × (Nat × Nat)} (hd : 2 ≤ d) (g : Nat) (hg : sh10 kad Z g) (a b kind n : Int32) (I : AI) (x : Int32 × AI) (h : (f129 kad N Z g kind n I).bind (hRo [0, 1]) = some x) : hEv kad d 0 [.ref g, .int (5 : Int32), .int a, .int b, .int kind, .int n] (aMem Z I, t) Z x := by
  obtain ⟨u, h1, h2⟩ := Option.bind_eq_some_iff.mp h
  exact hE_of (as := [.int kind, .int n]) (pcI := 73) (lv := lv_args 0 [.ref g, .int (5 : Int32), .int a, .int b, .int kind, .int n]) rfl rfl rfl aMi129 (Nat.le_of_ble_eq_true rfl) rfl (Nat.le_of_ble_eq_true rfl) (sh10_z hg) (pcE := 132) (fun v => (aPl_goto (n := 19) (pcE := 132) rfl rfl).trans (aPl_int rfl rfl)) rfl (by decide +kernel) h2 (Tf129 hd g hg kind n I u h1)
set_option maxRecDepth 20000 in
theorem hE0_6 {kad : Nat → Nat} {N : Nat} {Z : AZ} {d : Nat} {t : Option Nat × (Nat × Nat)} (hd : 2 ≤ d) (g : Nat) (hg : sh10 kad Z g) (a b kind n : Int32) (I : AI) (x : Int32 × AI) (h : (f131 kad N Z g a kind n I).bind (hRo [0, 1]) = some x) : hEv kad d 0 [.ref g, .int (6 : Int32), .int a, .int b, .int kind, .int n] (aMem Z I, t) Z x := by
  obtain ⟨u, h1, h2⟩ := Option.bind_eq_some_iff.mp h
  exact hE_of (as := [.int a, .int kind, .int n]) (pcI := 91) (lv := lv_args 0 [.ref g, .int (6 : Int32), .int a, .int b, .int kind, .int n]) rfl rfl rfl aMi131 (Nat.le_of_ble_eq_true rfl) rfl (Nat.le_of_ble_eq_true rfl) (sh10_z hg) (pcE := 132) (fun v => (aPl_goto (n := 19) (pcE := 132) rfl rfl).trans (aPl_int rfl rfl)) rfl (by decide +kernel) h2 (Tf131 hd g hg a kind n I u h1)
set_option maxRecDepth 20000 in
theorem hE0_7 {kad : Nat → Nat} {N : Nat} {Z : AZ} {d : Nat} {t : Option Nat × (Nat × Nat)} (hd : 2 ≤ d) (g : Nat) (hg : sh10 kad Z g) (a b kind n : Int32) (I : AI) (x : Int32 × AI) (h : (f134 kad N Z g a kind n (0 : Int32) b I).bind (hRo [0, 1]) = some x) : hEv kad d 0 [.ref g, .int (7 : Int32), .int a, .int b, .int kind, .int n] (aMem Z I, t) Z x := by
  obtain ⟨u, h1, h2⟩ := Option.bind_eq_some_iff.mp h
  exact hE_of (as := [.int a, .int kind, .int n, .int (0 : Int32), .int b]) (pcI := 111) (lv := lv_args 0 [.ref g, .int (7 : Int32), .int a, .int b, .int kind, .int n]) rfl rfl rfl aMi134 (Nat.le_of_ble_eq_true rfl) rfl (Nat.le_of_ble_eq_true rfl) (sh10_z hg) (pcE := 132) (fun v => (aPl_goto (n := 19) (pcE := 132) rfl rfl).trans (aPl_int rfl rfl)) rfl (by decide +kernel) h2 (Tf134 hd g hg a kind n (0 : Int32) b I u h1)
set_option maxRecDepth 20000 in
theorem hE0_8 {kad : Nat → Nat} {N : Nat} {Z : AZ} {d : Nat} {t : Option Nat × (Nat × Nat)} (hd : 2 ≤ d) (g : Nat) (hg : sh10 kad Z g) (a b kind n : Int32) (I : AI) (x : Int32 × AI) (h : (f128 kad N Z g a (b / (4 : Int32)) (b - b / (4 : Int32) * (4 : Int32)) kind n I).bind (hRo [0, 1]) = some x) : hEv kad d 0 [.ref g, .int (8 : Int32), .int a, .int b, .int kind, .int n] (aMem Z I, t) Z x := by
  obtain ⟨u, h1, h2⟩ := Option.bind_eq_some_iff.mp h
  exact hE_of (as := [.int a, .int (b / (4 : Int32)), .int (b - b / (4 : Int32) * (4 : Int32)), .int kind, .int n]) (pcI := 129) (lv := lv_args 0 [.ref g, .int (8 : Int32), .int a, .int b, .int kind, .int n]) rfl rfl rfl aMi128 (Nat.le_of_ble_eq_true rfl) rfl (Nat.le_of_ble_eq_true rfl) (sh10_z hg) (pcE := 132) (fun v => aPl_int rfl rfl) rfl (by decide +kernel) h2 (Tf128 hd g hg a (b / (4 : Int32)) (b - b / (4 : Int32) * (4 : Int32)) kind n I u h1)
def fH0 (kad : Nat → Nat) (N : Nat) (Z : AZ) (g : Nat) (how : Int32) (a : Int32) (b : Int32) (kind : Int32) (n : Int32) (I : AI) : Option (Int32 × AI) :=
  if how = 0 then (f126 kad N Z g a I).bind (hRo [0, 1]) else
  if how = 1 then (f127 kad N Z g a I).bind (hRo [0, 1]) else
  if how = 2 then (f130 kad N Z g a I).bind (hRo [0, 1]) else
  if how = 3 then (f132 kad N Z g a I).bind (hRo [0, 1]) else
  if how = 4 then (f133 kad N Z g I).bind (hRo [0, 1]) else
  if how = 5 then (f129 kad N Z g kind n I).bind (hRo [0, 1]) else
  if how = 6 then (f131 kad N Z g a kind n I).bind (hRo [0, 1]) else
  if how = 7 then (f134 kad N Z g a kind n (0 : Int32) b I).bind (hRo [0, 1]) else
  if how = 8 then (f128 kad N Z g a (b / (4 : Int32)) (b - b / (4 : Int32) * (4 : Int32)) kind n I).bind (hRo [0, 1]) else
  none
theorem TH0 {kad : Nat → Nat} {N : Nat} {Z : AZ} {d : Nat} {t : Option Nat × (Nat × Nat)} (hd : 3 ≤ d) (g : Nat) (hg : sh10 kad Z g) (how a b kind n : Int32) (I : AI) (x : Int32 × AI) (h : fH0 kad N Z g how a b kind n I = some x) : hEv kad d 0 [.ref g, .int how, .int a, .int b, .int kind, .int n] (aMem Z I, t) Z x := by
  unfold fH0 at h
  by_cases h0 : how = 0
  · subst h0
    rw [if_pos rfl] at h
    exact hE0_0 (by omega) g hg a b kind n I x h
  rw [if_neg h0] at h
  by_cases h1 : how = 1
  · subst h1
    rw [if_pos rfl] at h
    exact hE0_1 (by omega) g hg a b kind n I x h
  rw [if_neg h1] at h
  by_cases h2 : how = 2
  · subst h2
    rw [if_pos rfl] at h
    exact hE0_2 (by omega) g hg a b kind n I x h
  rw [if_neg h2] at h
  by_cases h3 : how = 3
  · subst h3
    rw [if_pos rfl] at h
    exact hE0_3 (by omega) g hg a b kind n I x h
  rw [if_neg h3] at h
  by_cases h4 : how = 4
  · subst h4
    rw [if_pos rfl] at h
    exact hE0_4 (by omega) g hg a b kind n I x h
  rw [if_neg h4] at h
  by_cases h5 : how = 5
  · subst h5
    rw [if_pos rfl] at h
    exact hE0_5 (by omega) g hg a b kind n I x h
  rw [if_neg h5] at h
  by_cases h6 : how = 6
  · subst h6
    rw [if_pos rfl] at h
    exact hE0_6 (by omega) g hg a b kind n I x h
  rw [if_neg h6] at h
  by_cases h7 : how = 7
  · subst h7
    rw [if_pos rfl] at h
    exact hE0_7 (by omega) g hg a b kind n I x h
  rw [if_neg h7] at h
  by_cases h8 : how = 8
  · subst h8
    rw [if_pos rfl] at h
    exact hE0_8 (by omega) g hg a b kind n I x h
  rw [if_neg h8] at h
  cases h
