/-! a helper's call as a function; how many exceptions were made so far -/
def tk (t : Option Nat × (Nat × Nat)) (k : Nat) : Option Nat × (Nat × Nat) := ((if k = 0 then t.1 else none), (t.2.1 + k, t.2.2 + 6 * k))
def tB (c : Nat) (t t1 : Option Nat × (Nat × Nat)) : Prop := ∃ k, k ≤ c ∧ t1 = tk t k
section TB
variable {t t1 t2 : Option Nat × (Nat × Nat)} {c c1 b : Nat} {Z : AZ} {I J : AI} {α : Type} {tv : α → Option Value} {E : String} {v : α}
theorem tB.refl : tB 0 t t := ⟨0, Nat.le_refl _, by obtain ⟨a, b, c⟩ := t; rfl⟩
theorem tk_tk (k j : Nat) : tk (tk t k) j = tk t (k + j) := by
  unfold tk
  dsimp only
  by_cases hj : j = 0
  · subst hj
    rw [if_pos rfl, Nat.mul_zero, Nat.add_zero, Nat.add_zero, Nat.add_zero]
  · rw [if_neg hj, if_neg (show ¬ k + j = 0 by omega), Nat.mul_add, Nat.add_assoc, Nat.add_assoc]
theorem tB.tr (h : tB c t t1) (h2 : tB c1 t1 t2) : tB (c + c1) t t2 := by
  obtain ⟨k, hk, rfl⟩ := h
  obtain ⟨j, hj, rfl⟩ := h2
  exact ⟨k + j, by omega, tk_tk k j⟩
theorem tB.le (h : tB c t t1) (hc : c ≤ c1) : tB c1 t t1 := by
  obtain ⟨k, hk, e⟩ := h
  exact ⟨k, by omega, e⟩
theorem tB.one : tB 1 t (none, (t.2.1 + 1, t.2.2 + 6)) := ⟨1, Nat.le_refl _, rfl⟩
def oR (tv : α → Option Value) : α ⊕ String → ARes
  | .inl v => .inl (tv v)
  | .inr E => .inr E
def qLx (c : Nat) (tv : α → Option Value) (Z : AZ) (t : Option Nat × (Nat × Nat)) (r : (α ⊕ String) × AI) : ARes → ASt → Prop := fun x S1 => x = oR tv r.1 ∧ ∃ t1, tB c t t1 ∧ S1 = (aMem Z r.2, t1)
def qLn (c : Nat) (tv : α → Option Value) (Z : AZ) (t : Option Nat × (Nat × Nat)) (r : α × AI) : ARes → ASt → Prop := fun x S1 => x = .inl (tv r.1) ∧ ∃ t1, tB c t t1 ∧ S1 = (aMem Z r.2, t1)
theorem qLx_ret (h : tB c t t1) (hc : c ≤ c1 := by omega) : qLx c1 tv Z t (.inl v, I) (.inl (tv v)) (aMem Z I, t1) := ⟨rfl, t1, h.le hc, rfl⟩
theorem qLn_ret (h : tB c t t1) (hc : c ≤ c1 := by omega) : qLn c1 tv Z t (v, I) (.inl (tv v)) (aMem Z I, t1) := ⟨rfl, t1, h.le hc, rfl⟩
theorem qLx_thr (h : tB c t t1) (hc : c + 1 ≤ c1 := by omega) : qLx c1 tv Z t (.inr E, I) (.inr E) (aMem Z I, (none, (t1.2.1 + 1, t1.2.2 + 6))) := ⟨rfl, _, (h.tr tB.one).le hc, rfl⟩
theorem qLx_tr {r : (α ⊕ String) × AI} {x : ARes} {S1 : ASt} (h : tB c t t1) (hc : c + b ≤ c1) (hq : qLx b tv Z t1 r x S1) : qLx c1 tv Z t r x S1 := by
  obtain ⟨e, t2, h2, e2⟩ := hq
  exact ⟨e, t2, (h.tr h2).le hc, e2⟩
theorem qLn_tr {r : α × AI} {x : ARes} {S1 : ASt} (h : tB c t t1) (hc : c + b ≤ c1) (hq : qLn b tv Z t1 r x S1) : qLn c1 tv Z t r x S1 := by
  obtain ⟨e, t2, h2, e2⟩ := hq
  exact ⟨e, t2, (h.tr h2).le hc, e2⟩
end TB
/-- a helper's run -/
def hEv (kad : Nat → Nat) (d h : Nat) (argv : List Value) (S : ASt) (Z : AZ) (x : Int32 × AI) : Prop := ∃ w, aHca h argv S.1 = some w ∧ aEv kad d w.1 w.2.1 S (fun r S1 => aHre h argv w.2.2 r = some x.1 ∧ ∃ t1, tB 1 S.2 t1 ∧ S1 = (aMem Z x.2, t1))
def hRo (es : List Nat) (r : (Int32 ⊕ String) × AI) : Option (Int32 × AI) := match r.1 with
  | .inl v => some (v, r.2)
  | .inr E => if es.any (fun k => decide (E = aEC k)) = true then some (Int32.ofInt (-99999999), r.2) else none
section HE
variable {kad : Nat → Nat} {d mi h : Nat} {Q : ARes → ASt → Prop} {y : AMeth} {Z : AZ} {I J : AI} {t : Option Nat × (Nat × Nat)} {pc np idx : Nat} {lv : ALv} {r as : List Value} {x : Int32 × AI}
theorem gg_hl (hy : aMS[mi]? = some y) (hq : aFind (aPs y) pc = some (.invokestatic idx, 3)) (hC : aFind (aCT (aOc y)) idx = none) (hH : aFind (aHT (aOc y)) idx = some (h, np)) (hX : aFind (aXT (aOc y)) idx = none) (hn : as.length = np) (hcat : aCat r) (hsl : (lg_sl as).length ≤ aNl (aHM h)) (hd : 2 ≤ d)
    (hm : hEv kad (d - 2) h as (aMem Z I, t) Z x) (k : ∀ t1, tB 1 t t1 → aGo kad d mi (pc + 3, (lv, .int x.1 :: r)) (aMem Z x.2, t1) Q) : aGo kad d mi (pc, (lv, as.reverse ++ r)) (aMem Z I, t) Q := by
  have hd1 : (as.reverse ++ r).drop np = r := by rw [← hn, ← List.length_reverse (as := as), List.drop_left]
  have ht1 : (as.reverse ++ r).take np = as.reverse := by rw [← hn, ← List.length_reverse (as := as), List.take_left]
  have hcl : aHcl y (.invokestatic idx) (as.reverse ++ r) = some (h, (as, r)) := by
    simp only [aHcl, hH, hd1, ht1, List.reverse_reverse]
    rw [if_pos ⟨by rw [List.length_reverse]; exact hn, hcat, hsl⟩]
  obtain ⟨w, hw, hr⟩ := hm
  refine go_help hy hq rfl rfl rfl (by simp only [aEx, hX]) (by simp only [aThr]) (by simp only [aCall, hC]) hcl hw hd (hr.mono fun r1 S1 hq1 => ?_)
  obtain ⟨e1, t1, e2, e3⟩ := hq1
  subst e3
  exact ⟨_, e1, k t1 e2⟩
theorem hE_of {argv : List Value} {pcI mi2 i1 i2 i3 a n : Nat} {z : AMeth} {es : List Nat} {u : (Int32 ⊕ String) × AI} (e1 : aHin h argv = (pcI, (lv, as.reverse ++ [.ref a]))) (hq : aFind (aPs (aHM h)) pcI = some (.invokevirtual idx, 3)) (hC : aFind (aCT (aOc (aHM h))) idx = some (0, (mi2, (np, (i1, (i2, i3)))))) (hz : aMS[mi2]? = some z) (h11 : aOc z < 11) (hn : as.length = np) (hsl : (lg_sl (.ref a :: as)).length ≤ aNl z) (hk : Z.1 a = some (aOc z, n))
    (ho : ∀ v, aHou h (pcI + 3, (lv, [.int v])) = some v) (hx : ∀ k ∈ es, aHex h (aEC k) pcI = true) (hr : hRo es u = some x) (hg : aEv kad d mi2 (.ref a :: as) (aMem Z I, t) (qX tvI Z t u)) : hEv kad d h argv (aMem Z I, t) Z x := by
  have hd1 : (as.reverse ++ [.ref a]).drop np = [Value.ref a] := by rw [← hn, ← List.length_reverse (as := as), List.drop_left]
  have ht1 : (as.reverse ++ [Value.ref a]).take np = as.reverse := by rw [← hn, ← List.length_reverse (as := as), List.take_left]
  have hcall : aCall (aHM h) (.invokevirtual idx) (as.reverse ++ [.ref a]) (aMem Z I) = some (mi2, (0, (.ref a :: as, []))) := by
    simp only [aCall, hC, if_true, hd1, ht1, aMem_eq hk, hz, List.reverse_reverse]
    rw [if_pos ⟨⟨rfl, h11⟩, by rw [List.length_reverse]; exact hn, by decide, hsl⟩]
  refine ⟨(mi2, (.ref a :: as, [])), ?_, hg.mono fun r1 S1 q => ?_⟩
  · unfold aHca
    rw [e1]
    dsimp only
    rw [hq]
    dsimp only
    rw [hcall]
  · obtain ⟨u0, J⟩ := u
    cases u0 with
    | inl v =>
      obtain ⟨rfl, rfl⟩ : r1 = .inl (tvI v) ∧ S1 = (aMem Z J, t) := q
      cases (show some (v, J) = some x from hr)
      refine ⟨?_, t, tB.refl.le (Nat.zero_le _), rfl⟩
      show aHou h ((aHin h argv).1 + 3, ((aHin h argv).2.1, [.int v])) = some v
      rw [e1]
      exact ho v
    | inr E =>
      obtain ⟨rfl, rfl⟩ : r1 = .inr E ∧ S1 = (aMem Z J, (none, (t.2.1 + 1, t.2.2 + 6))) := q
      have hr : (if es.any (fun k => decide (E = aEC k)) = true then some (Int32.ofInt (-99999999), J) else none) = some x := hr
      split at hr
      · rename_i hc
        cases hr
        refine ⟨?_, _, tB.one, rfl⟩
        obtain ⟨k, hk1, hk2⟩ := List.any_eq_true.mp hc
        have hk2 := of_decide_eq_true hk2
        subst hk2
        show (if aHex h (aEC k) (aHin h argv).1 = true then some (Int32.ofInt (-99999999)) else none) = some _
        rw [e1]
        dsimp only
        rw [if_pos (hx k hk1)]
      · cases hr
end HE
set_option maxRecDepth 20000 in
theorem hE0_0 {kad : Nat → Nat} {N : Nat} {Z : AZ} {d : Nat} {t : Option Nat × (Nat × Nat)} (hd : 3 ≤ d) (g : Nat) (hg : sh10 kad Z g) (a b kind n : Int32) (I : AI) (x : Int32 × AI) (h : (f126 kad N Z g a I).bind (hRo [0, 1]) = some x) : hEv kad d 0 [.ref g, .int (0 : Int32), .int a, .int b, .int kind, .int n] (aMem Z I, t) Z x := by
  obtain ⟨u, h1, h2⟩ := Option.bind_eq_some_iff.mp h
  exact hE_of (as := [.int a]) (pcI := 6) (lv := lv_args 0 [.ref g, .int (0 : Int32), .int a, .int b, .int kind, .int n]) rfl rfl rfl aMi126 (Nat.le_of_ble_eq_true rfl) rfl (Nat.le_of_ble_eq_true rfl) (sh10_z hg) (fun v => rfl) (by decide +kernel) h2 (Tf126 hd g hg a I u h1)
set_option maxRecDepth 20000 in
theorem hE0_1 {kad : Nat → Nat} {N : Nat} {Z : AZ} {d : Nat} {t : Option Nat × (Nat × Nat)} (hd : 3 ≤ d) (g : Nat) (hg : sh10 kad Z g) (a b kind n : Int32) (I : AI) (x : Int32 × AI) (h : (f127 kad N Z g a I).bind (hRo [0, 1]) = some x) : hEv kad d 0 [.ref g, .int (1 : Int32), .int a, .int b, .int kind, .int n] (aMem Z I, t) Z x := by
  obtain ⟨u, h1, h2⟩ := Option.bind_eq_some_iff.mp h
  exact hE_of (as := [.int a]) (pcI := 19) (lv := lv_args 0 [.ref g, .int (1 : Int32), .int a, .int b, .int kind, .int n]) rfl rfl rfl aMi127 (Nat.le_of_ble_eq_true rfl) rfl (Nat.le_of_ble_eq_true rfl) (sh10_z hg) (fun v => rfl) (by decide +kernel) h2 (Tf127 hd g hg a I u h1)
set_option maxRecDepth 20000 in
theorem hE0_2 {kad : Nat → Nat} {N : Nat} {Z : AZ} {d : Nat} {t : Option Nat × (Nat × Nat)} (hd : 3 ≤ d) (g : Nat) (hg : sh10 kad Z g) (a b kind n : Int32) (I : AI) (x : Int32 × AI) (h : (f130 kad N Z g a I).bind (hRo [0, 1]) = some x) : hEv kad d 0 [.ref g, .int (2 : Int32), .int a, .int b, .int kind, .int n] (aMem Z I, t) Z x := by
  obtain ⟨u, h1, h2⟩ := Option.bind_eq_some_iff.mp h
  exact hE_of (as := [.int a]) (pcI := 32) (lv := lv_args 0 [.ref g, .int (2 : Int32), .int a, .int b, .int kind, .int n]) rfl rfl rfl aMi130 (Nat.le_of_ble_eq_true rfl) rfl (Nat.le_of_ble_eq_true rfl) (sh10_z hg) (fun v => rfl) (by decide +kernel) h2 (Tf130 hd g hg a I u h1)
set_option maxRecDepth 20000 in
theorem hE0_3 {kad : Nat → Nat} {N : Nat} {Z : AZ} {d : Nat} {t : Option Nat × (Nat × Nat)} (hd : 3 ≤ d) (g : Nat) (hg : sh10 kad Z g) (a b kind n : Int32) (I : AI) (x : Int32 × AI) (h : (f132 kad N Z g a I).bind (hRo [0, 1]) = some x) : hEv kad d 0 [.ref g, .int (3 : Int32), .int a, .int b, .int kind, .int n] (aMem Z I, t) Z x := by
  obtain ⟨u, h1, h2⟩ := Option.bind_eq_some_iff.mp h
  exact hE_of (as := [.int a]) (pcI := 45) (lv := lv_args 0 [.ref g, .int (3 : Int32), .int a, .int b, .int kind, .int n]) rfl rfl rfl aMi132 (Nat.le_of_ble_eq_true rfl) rfl (Nat.le_of_ble_eq_true rfl) (sh10_z hg) (fun v => rfl) (by decide +kernel) h2 (Tf132 hd g hg a I u h1)
set_option maxRecDepth 20000 in
theorem hE0_4 {kad : Nat → Nat} {N : Nat} {Z : AZ} {d : Nat} {t : Option Nat × (Nat × Nat)} (hd : 3 ≤ d) (g : Nat) (hg : sh10 kad Z g) (a b kind n : Int32) (I : AI) (x : Int32 × AI) (h : (f133 kad N Z g I).bind (hRo [0, 1]) = some x) : hEv kad d 0 [.ref g, .int (4 : Int32), .int a, .int b, .int kind, .int n] (aMem Z I, t) Z x := by
  obtain ⟨u, h1, h2⟩ := Option.bind_eq_some_iff.mp h
  exact hE_of (as := []) (pcI := 57) (lv := lv_args 0 [.ref g, .int (4 : Int32), .int a, .int b, .int kind, .int n]) rfl rfl rfl aMi133 (Nat.le_of_ble_eq_true rfl) rfl (Nat.le_of_ble_eq_true rfl) (sh10_z hg) (fun v => rfl) (by decide +kernel) h2 (Tf133 hd g hg I u h1)
set_option maxRecDepth 20000 in
theorem hE0_5 {kad : Nat → Nat} {N : Nat} {Z : AZ} {d : Nat} {t : Option Nat × (Nat × Nat)} (hd : 2 ≤ d) (g : Nat) (hg : sh10 kad Z g) (a b kind n : Int32) (I : AI) (x : Int32 × AI) (h : (f129 kad N Z g kind n I).bind (hRo [0, 1]) = some x) : hEv kad d 0 [.ref g, .int (5 : Int32), .int a, .int b, .int kind, .int n] (aMem Z I, t) Z x := by
  obtain ⟨u, h1, h2⟩ := Option.bind_eq_some_iff.mp h
  exact hE_of (as := [.int kind, .int n]) (pcI := 73) (lv := lv_args 0 [.ref g, .int (5 : Int32), .int a, .int b, .int kind, .int n]) rfl rfl rfl aMi129 (Nat.le_of_ble_eq_true rfl) rfl (Nat.le_of_ble_eq_true rfl) (sh10_z hg) (fun v => rfl) (by decide +kernel) h2 (Tf129 hd g hg kind n I u h1)
set_option maxRecDepth 20000 in
theorem hE0_6 {kad : Nat → Nat} {N : Nat} {Z : AZ} {d : Nat} {t : Option Nat × (Nat × Nat)} (hd : 2 ≤ d) (g : Nat) (hg : sh10 kad Z g) (a b kind n : Int32) (I : AI) (x : Int32 × AI) (h : (f131 kad N Z g a kind n I).bind (hRo [0, 1]) = some x) : hEv kad d 0 [.ref g, .int (6 : Int32), .int a, .int b, .int kind, .int n] (aMem Z I, t) Z x := by
  obtain ⟨u, h1, h2⟩ := Option.bind_eq_some_iff.mp h
  exact hE_of (as := [.int a, .int kind, .int n]) (pcI := 91) (lv := lv_args 0 [.ref g, .int (6 : Int32), .int a, .int b, .int kind, .int n]) rfl rfl rfl aMi131 (Nat.le_of_ble_eq_true rfl) rfl (Nat.le_of_ble_eq_true rfl) (sh10_z hg) (fun v => rfl) (by decide +kernel) h2 (Tf131 hd g hg a kind n I u h1)
set_option maxRecDepth 20000 in
theorem hE0_7 {kad : Nat → Nat} {N : Nat} {Z : AZ} {d : Nat} {t : Option Nat × (Nat × Nat)} (hd : 2 ≤ d) (g : Nat) (hg : sh10 kad Z g) (a b kind n : Int32) (I : AI) (x : Int32 × AI) (h : (f134 kad N Z g a kind n (0 : Int32) b I).bind (hRo [0, 1]) = some x) : hEv kad d 0 [.ref g, .int (7 : Int32), .int a, .int b, .int kind, .int n] (aMem Z I, t) Z x := by
  obtain ⟨u, h1, h2⟩ := Option.bind_eq_some_iff.mp h
  exact hE_of (as := [.int a, .int kind, .int n, .int (0 : Int32), .int b]) (pcI := 111) (lv := lv_args 0 [.ref g, .int (7 : Int32), .int a, .int b, .int kind, .int n]) rfl rfl rfl aMi134 (Nat.le_of_ble_eq_true rfl) rfl (Nat.le_of_ble_eq_true rfl) (sh10_z hg) (fun v => rfl) (by decide +kernel) h2 (Tf134 hd g hg a kind n (0 : Int32) b I u h1)
set_option maxRecDepth 20000 in
theorem hE0_8 {kad : Nat → Nat} {N : Nat} {Z : AZ} {d : Nat} {t : Option Nat × (Nat × Nat)} (hd : 2 ≤ d) (g : Nat) (hg : sh10 kad Z g) (a b kind n : Int32) (I : AI) (x : Int32 × AI) (h : (f128 kad N Z g a (b / (4 : Int32)) (b - b / (4 : Int32) * (4 : Int32)) kind n I).bind (hRo [0, 1]) = some x) : hEv kad d 0 [.ref g, .int (8 : Int32), .int a, .int b, .int kind, .int n] (aMem Z I, t) Z x := by
  obtain ⟨u, h1, h2⟩ := Option.bind_eq_some_iff.mp h
  exact hE_of (as := [.int a, .int (b / (4 : Int32)), .int (b - b / (4 : Int32) * (4 : Int32)), .int kind, .int n]) (pcI := 129) (lv := lv_args 0 [.ref g, .int (8 : Int32), .int a, .int b, .int kind, .int n]) rfl rfl rfl aMi128 (Nat.le_of_ble_eq_true rfl) rfl (Nat.le_of_ble_eq_true rfl) (sh10_z hg) (fun v => rfl) (by decide +kernel) h2 (Tf128 hd g hg a (b / (4 : Int32)) (b - b / (4 : Int32) * (4 : Int32)) kind n I u h1)
def fH0 (kad : Nat → Nat) (N : Nat) (Z : AZ) (g : Nat) (how : Int32) (a : Int32) (b : Int32) (kind : Int32) (n : Int32) (I : AI) : Option (Int32 × AI) :=
  if how = 0 then (f126 kad N Z g a I).bind (hRo [0, 1]) else
  if how = 1 then (f127 kad N Z g a I).bind (hRo [0, 1]) else
  if how = 2 then (f130 kad N Z g a I).bind (hRo [0, 1]) else
  if how = 3 then (f132 kad N Z g a I).bind (hRo [0, 1]) else
  if how = 4 then (f133 kad N Z g I).bind (hRo [0, 1]) else
  if how = 5 then (f129 kad N Z g kind n I).bind (hRo [0, 1]) else
  if how = 6 then (f131 kad N Z g a kind n I).bind (hRo [0, 1]) else
  if how = 7 then (f134 kad N Z g a kind n (0 : Int32) b I).bind (hRo [0, 1]) else
  if how = 8 then (f128 kad N Z g a (b / (4 : Int32)) (b - b / (4 : Int32) * (4 : Int32)) kind n I).bind (hRo [0, 1]) else
  none
theorem TH0 {kad : Nat → Nat} {N : Nat} {Z : AZ} {d : Nat} {t : Option Nat × (Nat × Nat)} (hd : 3 ≤ d) (g : Nat) (hg : sh10 kad Z g) (how a b kind n : Int32) (I : AI) (x : Int32 × AI) (h : fH0 kad N Z g how a b kind n I = some x) : hEv kad d 0 [.ref g, .int how, .int a, .int b, .int kind, .int n] (aMem Z I, t) Z x := by
  unfold fH0 at h
  by_cases h0 : how = 0
  · subst h0
    rw [if_pos rfl] at h
    exact hE0_0 (by omega) g hg a b kind n I x h
  rw [if_neg h0] at h
  by_cases h1 : how = 1
  · subst h1
    rw [if_pos rfl] at h
    exact hE0_1 (by omega) g hg a b kind n I x h
  rw [if_neg h1] at h
  by_cases h2 : how = 2
  · subst h2
    rw [if_pos rfl] at h
    exact hE0_2 (by omega) g hg a b kind n I x h
  rw [if_neg h2] at h
  by_cases h3 : how = 3
  · subst h3
    rw [if_pos rfl] at h
    exact hE0_3 (by omega) g hg a b kind n I x h
  rw [if_neg h3] at h
  by_cases h4 : how = 4
  · subst h4
    rw [if_pos rfl] at h
    exact hE0_4 (by omega) g hg a b kind n I x h
  rw [if_neg h4] at h
  by_cases h5 : how = 5
  · subst h5
    rw [if_pos rfl] at h
    exact hE0_5 (by omega) g hg a b kind n I x h
  rw [if_neg h5] at h
  by_cases h6 : how = 6
  · subst h6
    rw [if_pos rfl] at h
    exact hE0_6 (by omega) g hg a b kind n I x h
  rw [if_neg h6] at h
  by_cases h7 : how = 7
  · subst h7
    rw [if_pos rfl] at h
    exact hE0_7 (by omega) g hg a b kind n I x h
  rw [if_neg h7] at h
  by_cases h8 : how = 8
  · subst h8
    rw [if_pos rfl] at h
    exact hE0_8 (by omega) g hg a b kind n I x h
  rw [if_neg h8] at h
  cases h
set_option maxRecDepth 20000 in
theorem hE1_0 {kad : Nat → Nat} {N : Nat} {Z : AZ} {d : Nat} {t : Option Nat × (Nat × Nat)} (hd : 20 ≤ d) (g : Nat) (hg : sh10 kad Z g) (a b c e : Int32) (I : AI) (x : Int32 × AI) (h : (f136 kad N Z g I).bind (hRo [0, 1]) = some x) : hEv kad d 1 [.ref g, .int (0 : Int32), .int a, .int b, .int c, .int e] (aMem Z I, t) Z x := by
  obtain ⟨u, h1, h2⟩ := Option.bind_eq_some_iff.mp h
  exact hE_of (as := []) (pcI := 5) (lv := lv_args 0 [.ref g, .int (0 : Int32), .int a, .int b, .int c, .int e]) rfl rfl rfl aMi136 (Nat.le_of_ble_eq_true rfl) rfl (Nat.le_of_ble_eq_true rfl) (sh10_z hg) (fun v => rfl) (by decide +kernel) h2 (Tf136 hd g hg I u h1)
set_option maxRecDepth 20000 in
theorem hE1_1 {kad : Nat → Nat} {N : Nat} {Z : AZ} {d : Nat} {t : Option Nat × (Nat × Nat)} (hd : 4 ≤ d) (g : Nat) (hg : sh10 kad Z g) (a b c e : Int32) (I : AI) (x : Int32 × AI) (h : (f143 kad N Z g I).bind (hRo [0, 1]) = some x) : hEv kad d 1 [.ref g, .int (1 : Int32), .int a, .int b, .int c, .int e] (aMem Z I, t) Z x := by
  obtain ⟨u, h1, h2⟩ := Option.bind_eq_some_iff.mp h
  exact hE_of (as := []) (pcI := 17) (lv := lv_args 0 [.ref g, .int (1 : Int32), .int a, .int b, .int c, .int e]) rfl rfl rfl aMi143 (Nat.le_of_ble_eq_true rfl) rfl (Nat.le_of_ble_eq_true rfl) (sh10_z hg) (fun v => rfl) (by decide +kernel) h2 (Tf143 hd g hg I u h1)
set_option maxRecDepth 20000 in
theorem hE1_2 {kad : Nat → Nat} {N : Nat} {Z : AZ} {d : Nat} {t : Option Nat × (Nat × Nat)} (hd : 3 ≤ d) (g : Nat) (hg : sh10 kad Z g) (a b c e : Int32) (I : AI) (x : Int32 × AI) (h : (f144 kad N Z g I).bind (hRo [0, 1]) = some x) : hEv kad d 1 [.ref g, .int (2 : Int32), .int a, .int b, .int c, .int e] (aMem Z I, t) Z x := by
  obtain ⟨u, h1, h2⟩ := Option.bind_eq_some_iff.mp h
  exact hE_of (as := []) (pcI := 29) (lv := lv_args 0 [.ref g, .int (2 : Int32), .int a, .int b, .int c, .int e]) rfl rfl rfl aMi144 (Nat.le_of_ble_eq_true rfl) rfl (Nat.le_of_ble_eq_true rfl) (sh10_z hg) (fun v => rfl) (by decide +kernel) h2 (Tf144 hd g hg I u h1)
set_option maxRecDepth 20000 in
theorem hE1_3 {kad : Nat → Nat} {N : Nat} {Z : AZ} {d : Nat} {t : Option Nat × (Nat × Nat)} (hd : 2 ≤ d) (g : Nat) (hg : sh10 kad Z g) (a b c e : Int32) (I : AI) (x : Int32 × AI) (h : (f145 kad N Z g I).bind (hRo [0, 1]) = some x) : hEv kad d 1 [.ref g, .int (3 : Int32), .int a, .int b, .int c, .int e] (aMem Z I, t) Z x := by
  obtain ⟨u, h1, h2⟩ := Option.bind_eq_some_iff.mp h
  exact hE_of (as := []) (pcI := 41) (lv := lv_args 0 [.ref g, .int (3 : Int32), .int a, .int b, .int c, .int e]) rfl rfl rfl aMi145 (Nat.le_of_ble_eq_true rfl) rfl (Nat.le_of_ble_eq_true rfl) (sh10_z hg) (fun v => rfl) (by decide +kernel) h2 (Tf145 hd g hg I u h1)
set_option maxRecDepth 20000 in
theorem hE1_4 {kad : Nat → Nat} {N : Nat} {Z : AZ} {d : Nat} {t : Option Nat × (Nat × Nat)} (hd : 7 ≤ d) (g : Nat) (hg : sh10 kad Z g) (a b c e : Int32) (I : AI) (x : Int32 × AI) (h : (f146 kad N Z g a I).bind (hRo [0, 1]) = some x) : hEv kad d 1 [.ref g, .int (4 : Int32), .int a, .int b, .int c, .int e] (aMem Z I, t) Z x := by
  obtain ⟨u, h1, h2⟩ := Option.bind_eq_some_iff.mp h
  exact hE_of (as := [.int a]) (pcI := 54) (lv := lv_args 0 [.ref g, .int (4 : Int32), .int a, .int b, .int c, .int e]) rfl rfl rfl aMi146 (Nat.le_of_ble_eq_true rfl) rfl (Nat.le_of_ble_eq_true rfl) (sh10_z hg) (fun v => rfl) (by decide +kernel) h2 (Tf146 hd g hg a I u h1)
set_option maxRecDepth 20000 in
theorem hE1_5 {kad : Nat → Nat} {N : Nat} {Z : AZ} {d : Nat} {t : Option Nat × (Nat × Nat)} (hd : 7 ≤ d) (g : Nat) (hg : sh10 kad Z g) (a b c e : Int32) (I : AI) (x : Int32 × AI) (h : (f147 kad N Z g a b I).bind (hRo [0, 1]) = some x) : hEv kad d 1 [.ref g, .int (5 : Int32), .int a, .int b, .int c, .int e] (aMem Z I, t) Z x := by
  obtain ⟨u, h1, h2⟩ := Option.bind_eq_some_iff.mp h
  exact hE_of (as := [.int a, .int b]) (pcI := 68) (lv := lv_args 0 [.ref g, .int (5 : Int32), .int a, .int b, .int c, .int e]) rfl rfl rfl aMi147 (Nat.le_of_ble_eq_true rfl) rfl (Nat.le_of_ble_eq_true rfl) (sh10_z hg) (fun v => rfl) (by decide +kernel) h2 (Tf147 hd g hg a b I u h1)
set_option maxRecDepth 20000 in
theorem hE1_6 {kad : Nat → Nat} {N : Nat} {Z : AZ} {d : Nat} {t : Option Nat × (Nat × Nat)} (hd : 3 ≤ d) (g : Nat) (hg : sh10 kad Z g) (a b c e : Int32) (I : AI) (x : Int32 × AI) (h : (f148 kad N Z g a I).bind (hRo [0, 1]) = some x) : hEv kad d 1 [.ref g, .int (6 : Int32), .int a, .int b, .int c, .int e] (aMem Z I, t) Z x := by
  obtain ⟨u, h1, h2⟩ := Option.bind_eq_some_iff.mp h
  exact hE_of (as := [.int a]) (pcI := 82) (lv := lv_args 0 [.ref g, .int (6 : Int32), .int a, .int b, .int c, .int e]) rfl rfl rfl aMi148 (Nat.le_of_ble_eq_true rfl) rfl (Nat.le_of_ble_eq_true rfl) (sh10_z hg) (fun v => rfl) (by decide +kernel) h2 (Tf148 hd g hg a I u h1)
set_option maxRecDepth 20000 in
theorem hE1_7 {kad : Nat → Nat} {N : Nat} {Z : AZ} {d : Nat} {t : Option Nat × (Nat × Nat)} (hd : 2 ≤ d) (g : Nat) (hg : sh10 kad Z g) (a b c e : Int32) (I : AI) (x : Int32 × AI) (h : (f149 kad N Z g a I).bind (hRo [0, 1]) = some x) : hEv kad d 1 [.ref g, .int (7 : Int32), .int a, .int b, .int c, .int e] (aMem Z I, t) Z x := by
  obtain ⟨u, h1, h2⟩ := Option.bind_eq_some_iff.mp h
  exact hE_of (as := [.int a]) (pcI := 96) (lv := lv_args 0 [.ref g, .int (7 : Int32), .int a, .int b, .int c, .int e]) rfl rfl rfl aMi149 (Nat.le_of_ble_eq_true rfl) rfl (Nat.le_of_ble_eq_true rfl) (sh10_z hg) (fun v => rfl) (by decide +kernel) h2 (Tf149 hd g hg a I u h1)
set_option maxRecDepth 20000 in
theorem hE1_8 {kad : Nat → Nat} {N : Nat} {Z : AZ} {d : Nat} {t : Option Nat × (Nat × Nat)} (hd : 6 ≤ d) (g : Nat) (hg : sh10 kad Z g) (a b c e : Int32) (I : AI) (x : Int32 × AI) (h : (f164 kad N Z g a I).bind (hRo [0, 1]) = some x) : hEv kad d 1 [.ref g, .int (8 : Int32), .int a, .int b, .int c, .int e] (aMem Z I, t) Z x := by
  obtain ⟨u, h1, h2⟩ := Option.bind_eq_some_iff.mp h
  exact hE_of (as := [.int a]) (pcI := 110) (lv := lv_args 0 [.ref g, .int (8 : Int32), .int a, .int b, .int c, .int e]) rfl rfl rfl aMi164 (Nat.le_of_ble_eq_true rfl) rfl (Nat.le_of_ble_eq_true rfl) (sh10_z hg) (fun v => rfl) (by decide +kernel) h2 (Tf164 hd g hg a I u h1)
set_option maxRecDepth 20000 in
theorem hE1_9 {kad : Nat → Nat} {N : Nat} {Z : AZ} {d : Nat} {t : Option Nat × (Nat × Nat)} (hd : 1 ≤ d) (g : Nat) (hg : sh10 kad Z g) (a b c e : Int32) (I : AI) (x : Int32 × AI) (h : (f176 kad N Z g a I).bind (hRo [0, 1]) = some x) : hEv kad d 1 [.ref g, .int (9 : Int32), .int a, .int b, .int c, .int e] (aMem Z I, t) Z x := by
  obtain ⟨u, h1, h2⟩ := Option.bind_eq_some_iff.mp h
  exact hE_of (as := [.int a]) (pcI := 124) (lv := lv_args 0 [.ref g, .int (9 : Int32), .int a, .int b, .int c, .int e]) rfl rfl rfl aMi176 (Nat.le_of_ble_eq_true rfl) rfl (Nat.le_of_ble_eq_true rfl) (sh10_z hg) (fun v => rfl) (by decide +kernel) h2 (Tf176 hd g hg a I u h1)
set_option maxRecDepth 20000 in
theorem hE1_10 {kad : Nat → Nat} {N : Nat} {Z : AZ} {d : Nat} {t : Option Nat × (Nat × Nat)} (hd : 1 ≤ d) (g : Nat) (hg : sh10 kad Z g) (a b c e : Int32) (I : AI) (x : Int32 × AI) (h : (f177 kad N Z g a I).bind (hRo [0, 1]) = some x) : hEv kad d 1 [.ref g, .int (10 : Int32), .int a, .int b, .int c, .int e] (aMem Z I, t) Z x := by
  obtain ⟨u, h1, h2⟩ := Option.bind_eq_some_iff.mp h
  exact hE_of (as := [.int a]) (pcI := 138) (lv := lv_args 0 [.ref g, .int (10 : Int32), .int a, .int b, .int c, .int e]) rfl rfl rfl aMi177 (Nat.le_of_ble_eq_true rfl) rfl (Nat.le_of_ble_eq_true rfl) (sh10_z hg) (fun v => rfl) (by decide +kernel) h2 (Tf177 hd g hg a I u h1)
set_option maxRecDepth 20000 in
theorem hE1_11 {kad : Nat → Nat} {N : Nat} {Z : AZ} {d : Nat} {t : Option Nat × (Nat × Nat)} (hd : 1 ≤ d) (g : Nat) (hg : sh10 kad Z g) (a b c e : Int32) (I : AI) (x : Int32 × AI) (h : (f178 kad N Z g a b c e I).bind (hRo [0, 1]) = some x) : hEv kad d 1 [.ref g, .int (11 : Int32), .int a, .int b, .int c, .int e] (aMem Z I, t) Z x := by
  obtain ⟨u, h1, h2⟩ := Option.bind_eq_some_iff.mp h
  exact hE_of (as := [.int a, .int b, .int c, .int e]) (pcI := 157) (lv := lv_args 0 [.ref g, .int (11 : Int32), .int a, .int b, .int c, .int e]) rfl rfl rfl aMi178 (Nat.le_of_ble_eq_true rfl) rfl (Nat.le_of_ble_eq_true rfl) (sh10_z hg) (fun v => rfl) (by decide +kernel) h2 (Tf178 hd g hg a b c e I u h1)
set_option maxRecDepth 20000 in
theorem hE1_12 {kad : Nat → Nat} {N : Nat} {Z : AZ} {d : Nat} {t : Option Nat × (Nat × Nat)} (hd : 7 ≤ d) (g : Nat) (hg : sh10 kad Z g) (a b c e : Int32) (I : AI) (x : Int32 × AI) (h : (f180 kad N Z g I).bind (hRo [0, 1]) = some x) : hEv kad d 1 [.ref g, .int (12 : Int32), .int a, .int b, .int c, .int e] (aMem Z I, t) Z x := by
  obtain ⟨u, h1, h2⟩ := Option.bind_eq_some_iff.mp h
  exact hE_of (as := []) (pcI := 164) (lv := lv_args 0 [.ref g, .int (12 : Int32), .int a, .int b, .int c, .int e]) rfl rfl rfl aMi180 (Nat.le_of_ble_eq_true rfl) rfl (Nat.le_of_ble_eq_true rfl) (sh10_z hg) (fun v => rfl) (by decide +kernel) h2 (Tf180 hd g hg I u h1)
def fH1 (kad : Nat → Nat) (N : Nat) (Z : AZ) (g : Nat) (how : Int32) (a : Int32) (b : Int32) (c : Int32) (e : Int32) (I : AI) : Option (Int32 × AI) :=
  if how = 0 then (f136 kad N Z g I).bind (hRo [0, 1]) else
  if how = 1 then (f143 kad N Z g I).bind (hRo [0, 1]) else
  if how = 2 then (f144 kad N Z g I).bind (hRo [0, 1]) else
  if how = 3 then (f145 kad N Z g I).bind (hRo [0, 1]) else
  if how = 4 then (f146 kad N Z g a I).bind (hRo [0, 1]) else
  if how = 5 then (f147 kad N Z g a b I).bind (hRo [0, 1]) else
  if how = 6 then (f148 kad N Z g a I).bind (hRo [0, 1]) else
  if how = 7 then (f149 kad N Z g a I).bind (hRo [0, 1]) else
  if how = 8 then (f164 kad N Z g a I).bind (hRo [0, 1]) else
  if how = 9 then (f176 kad N Z g a I).bind (hRo [0, 1]) else
  if how = 10 then (f177 kad N Z g a I).bind (hRo [0, 1]) else
  if how = 11 then (f178 kad N Z g a b c e I).bind (hRo [0, 1]) else
  if how = 12 then (f180 kad N Z g I).bind (hRo [0, 1]) else
  none
theorem TH1 {kad : Nat → Nat} {N : Nat} {Z : AZ} {d : Nat} {t : Option Nat × (Nat × Nat)} (hd : 20 ≤ d) (g : Nat) (hg : sh10 kad Z g) (how a b c e : Int32) (I : AI) (x : Int32 × AI) (h : fH1 kad N Z g how a b c e I = some x) : hEv kad d 1 [.ref g, .int how, .int a, .int b, .int c, .int e] (aMem Z I, t) Z x := by
  unfold fH1 at h
  by_cases h0 : how = 0
  · subst h0
    rw [if_pos rfl] at h
    exact hE1_0 (by omega) g hg a b c e I x h
  rw [if_neg h0] at h
  by_cases h1 : how = 1
  · subst h1
    rw [if_pos rfl] at h
    exact hE1_1 (by omega) g hg a b c e I x h
  rw [if_neg h1] at h
  by_cases h2 : how = 2
  · subst h2
    rw [if_pos rfl] at h
    exact hE1_2 (by omega) g hg a b c e I x h
  rw [if_neg h2] at h
  by_cases h3 : how = 3
  · subst h3
    rw [if_pos rfl] at h
    exact hE1_3 (by omega) g hg a b c e I x h
  rw [if_neg h3] at h
  by_cases h4 : how = 4
  · subst h4
    rw [if_pos rfl] at h
    exact hE1_4 (by omega) g hg a b c e I x h
  rw [if_neg h4] at h
  by_cases h5 : how = 5
  · subst h5
    rw [if_pos rfl] at h
    exact hE1_5 (by omega) g hg a b c e I x h
  rw [if_neg h5] at h
  by_cases h6 : how = 6
  · subst h6
    rw [if_pos rfl] at h
    exact hE1_6 (by omega) g hg a b c e I x h
  rw [if_neg h6] at h
  by_cases h7 : how = 7
  · subst h7
    rw [if_pos rfl] at h
    exact hE1_7 (by omega) g hg a b c e I x h
  rw [if_neg h7] at h
  by_cases h8 : how = 8
  · subst h8
    rw [if_pos rfl] at h
    exact hE1_8 (by omega) g hg a b c e I x h
  rw [if_neg h8] at h
  by_cases h9 : how = 9
  · subst h9
    rw [if_pos rfl] at h
    exact hE1_9 (by omega) g hg a b c e I x h
  rw [if_neg h9] at h
  by_cases h10 : how = 10
  · subst h10
    rw [if_pos rfl] at h
    exact hE1_10 (by omega) g hg a b c e I x h
  rw [if_neg h10] at h
  by_cases h11 : how = 11
  · subst h11
    rw [if_pos rfl] at h
    exact hE1_11 (by omega) g hg a b c e I x h
  rw [if_neg h11] at h
  by_cases h12 : how = 12
  · subst h12
    rw [if_pos rfl] at h
    exact hE1_12 (by omega) g hg a b c e I x h
  rw [if_neg h12] at h
  cases h
set_option maxRecDepth 20000 in
theorem hE2_0 {kad : Nat → Nat} {N : Nat} {Z : AZ} {d : Nat} {t : Option Nat × (Nat × Nat)} (hd : 0 ≤ d) (g : Nat) (hg : sh10 kad Z g) (k : Int32) (I : AI) (x : Int32 × AI) (h : (f181 kad N Z g k I).bind (hRo [2]) = some x) : hEv kad d 2 [.ref g, .int k] (aMem Z I, t) Z x := by
  obtain ⟨u, h1, h2⟩ := Option.bind_eq_some_iff.mp h
  exact hE_of (as := [.int k]) (pcI := 2) (lv := lv_args 0 [.ref g, .int k]) rfl rfl rfl aMi181 (Nat.le_of_ble_eq_true rfl) rfl (Nat.le_of_ble_eq_true rfl) (sh10_z hg) (fun v => rfl) (by decide +kernel) h2 (Tf181 hd g hg k I u h1)
def fH2 (kad : Nat → Nat) (N : Nat) (Z : AZ) (g : Nat) (k : Int32) (I : AI) : Option (Int32 × AI) :=
  (f181 kad N Z g k I).bind (hRo [2])
theorem TH2 {kad : Nat → Nat} {N : Nat} {Z : AZ} {d : Nat} {t : Option Nat × (Nat × Nat)} (hd : 0 ≤ d) (g : Nat) (hg : sh10 kad Z g) (k : Int32) (I : AI) (x : Int32 × AI) (h : fH2 kad N Z g k I = some x) : hEv kad d 2 [.ref g, .int k] (aMem Z I, t) Z x := by
  unfold fH2 at h
  exact hE2_0 hd g hg k I x h
set_option maxRecDepth 20000 in
theorem hE3_0 {kad : Nat → Nat} {N : Nat} {Z : AZ} {d : Nat} {t : Option Nat × (Nat × Nat)} (hd : 3 ≤ d) (g : Nat) (hg : sh10 kad Z g) (k : Int32) (I : AI) (x : Int32 × AI) (h : (f171 kad N Z g k I).bind (hRo [3]) = some x) : hEv kad d 3 [.ref g, .int k] (aMem Z I, t) Z x := by
  obtain ⟨u, h1, h2⟩ := Option.bind_eq_some_iff.mp h
  exact hE_of (as := [.int k]) (pcI := 2) (lv := lv_args 0 [.ref g, .int k]) rfl rfl rfl aMi171 (Nat.le_of_ble_eq_true rfl) rfl (Nat.le_of_ble_eq_true rfl) (sh10_z hg) (fun v => rfl) (by decide +kernel) h2 (Tf171 hd g hg k I u h1)
def fH3 (kad : Nat → Nat) (N : Nat) (Z : AZ) (g : Nat) (k : Int32) (I : AI) : Option (Int32 × AI) :=
  (f171 kad N Z g k I).bind (hRo [3])
theorem TH3 {kad : Nat → Nat} {N : Nat} {Z : AZ} {d : Nat} {t : Option Nat × (Nat × Nat)} (hd : 3 ≤ d) (g : Nat) (hg : sh10 kad Z g) (k : Int32) (I : AI) (x : Int32 × AI) (h : fH3 kad N Z g k I = some x) : hEv kad d 3 [.ref g, .int k] (aMem Z I, t) Z x := by
  unfold fH3 at h
  exact hE3_0 hd g hg k I x h
