/-! p53: what the law's act answers hangs on the state alone (by program: mk_act.py) -/
def lowF (a b : Int32) : Int32 := (a &&& (2147483647 : Int32)) - (a &&& (2147483647 : Int32)) / b * b
abbrev h0P (x : Int32) : Prop := x = 0 ∨ x = 1 ∨ x = 2 ∨ x = 3 ∨ x = 4 ∨ x = 5 ∨ x = 6 ∨ x = 7 ∨ x = 8
abbrev h1P (x : Int32) : Prop := x = 0 ∨ x = 1 ∨ x = 2 ∨ x = 3 ∨ x = 4 ∨ x = 5 ∨ x = 6 ∨ x = 7 ∨ x = 8 ∨ x = 9 ∨ x = 10 ∨ x = 11 ∨ x = 12
section PACT
variable {kad : Nat → Nat} {N : Nat} {Z : AZ} {A : XA}
theorem f184_e {a b : Int32} {I : AI} (h : ¬ b = 0) : f184 kad N Z a b I = some (lowF a b, I) := by
  unfold f184
  rw [if_neg h]
  rfl
theorem f184_b {a b : Int32} {I : AI} {f : Int32 × AI → Option (Int32 × AI)} (h : ¬ b = 0) : (f184 kad N Z a b I).bind f = f (lowF a b, I) := by
  rw [f184_e h]
  cases hx : (lowF a b, I) with
  | mk x J => exact Eq.trans (b := f (x, J)) rfl rfl
theorem bindP {x : Option (Int32 × AI)} : (x.bind fun r => some (r.1, r.2)) = x := by cases x <;> rfl
theorem and_nn (a : Int32) : ¬ (a &&& (2147483647 : Int32)) < 0 := by
  intro h
  have h1 : (a &&& (2147483647 : Int32)).toInt < (0 : Int32).toInt := Int32.lt_iff_toInt_lt.mp h
  have h2 : (a &&& (2147483647 : Int32)).toBitVec.msb = false := by
    rw [Int32.toBitVec_and, BitVec.msb_and, show (2147483647 : Int32).toBitVec.msb = false from by decide, Bool.and_false]
  have h3 : (a &&& (2147483647 : Int32)).toInt = ((a &&& (2147483647 : Int32)).toBitVec.toNat : Int) := by
    show (a &&& (2147483647 : Int32)).toBitVec.toInt = _
    rw [BitVec.toInt_eq_msb_cond, h2]
    rfl
  have h4 : (0 : Int32).toInt = 0 := by decide
  omega
theorem low_n (a : Int32) {n : Nat} (hn : 0 < n) (hn2 : n < 2147483648) : ∃ k, k < n ∧ lowF a (Int32.ofNat n) = Int32.ofNat k := ⟨_, Nat.mod_lt _ hn, mod_n (and_nn a) hn hn2⟩
theorem low_0 (a : Int32) : h0P (lowF a 2) := by
  obtain ⟨k, k1, k2⟩ := low_n a (n := 2) (by decide) (by decide)
  have k2 : lowF a 2 = Int32.ofNat k := k2
  rw [k2]
  match k, k1 with
  | 0, _ => decide
  | 1, _ => decide
theorem low_2 (a : Int32) : h0P ((2 : Int32) + lowF a 3) := by
  obtain ⟨k, k1, k2⟩ := low_n a (n := 3) (by decide) (by decide)
  have k2 : lowF a 3 = Int32.ofNat k := k2
  rw [k2]
  match k, k1 with
  | 0, _ => decide
  | 1, _ => decide
  | 2, _ => decide
theorem low_5 (a : Int32) : h0P ((5 : Int32) + lowF a 3) := by
  obtain ⟨k, k1, k2⟩ := low_n a (n := 3) (by decide) (by decide)
  have k2 : lowF a 3 = Int32.ofNat k := k2
  rw [k2]
  match k, k1 with
  | 0, _ => decide
  | 1, _ => decide
  | 2, _ => decide
theorem DETc.ite {c : Prop} [Decidable c] {fn1 fn2 : Nat → AI → Option (Int32 × AI)} (h1 : DETc kad N Z fn1 A) (h2 : DETc kad N Z fn2 A) : DETc kad N Z (fun g I => if c then fn1 g I else fn2 g I) A := by
  by_cases h : c
  · exact h1.of fun g I => if_pos h
  · exact h2.of fun g I => if_neg h
theorem Dq124 (h : okA A) : DETc kad N Z (fun g I => f124 kad N Z g I) A := by
  obtain ⟨⟨n, L⟩, R⟩ := A
  have := h.1.1
  exact (P124 h).det ⟨n, by have : n ≤ 100 := this; omega, rfl⟩
theorem Dq125 (h : okA A) : DETc kad N Z (fun g I => f125 kad N Z g I) A := by
  obtain ⟨⟨n, L⟩, R⟩ := A
  have := h.1.1
  exact (P125 h).det ⟨n, by have : n ≤ 100 := this; omega, rfl⟩
theorem A_f185_b148 (hN : 2000 ≤ N) (h : okA A) {s0 s1 s2 s3 s4 s5 : Int32} (h_s0 : ¬ s0 = 0) (h_s5 : h0P s5) : DETc kad N Z (fun g I => f185_b148 kad N Z g s0 s1 s2 s3 s4 s5 I) A := by
  refine DETc.of (fn := fun g I => (fH0 kad N Z g s5 s4 s3 s2 (lowF s1 s0) I)) (D0 h h_s5) (fun g I => ?_)
  unfold f185_b148
  simp only [f184_b (b := s0) h_s0, f185_b327, bindP]
theorem A_f185_b211 (hN : 2000 ≤ N) (h : okA A) {i4 s0 s1 s2 s3 : Int32} (h_s3 : h0P s3) : DETc kad N Z (fun g I => f185_b211 kad N Z g i4 s0 s1 s2 s3 I) A := by
  refine DETc.of (fn := fun g I => (fH0 kad N Z g s3 s2 s1 s0 i4 I)) (D0 h h_s3) (fun g I => ?_)
  unfold f185_b211
  simp only [f185_b327, bindP]
theorem A_f185_b182 (hN : 2000 ≤ N) (h : okA A) {i1 i2 i4 s0 s1 s2 : Int32} (h_s0 : ¬ s0 = 0) (h_s2 : h0P s2) : DETc kad N Z (fun g I => f185_b182 kad N Z g i1 i2 i4 s0 s1 s2 I) A := by
  refine DETc.of (fn := fun g I => (if i2 = 0 then (f185_b211 kad N Z g i4 (0 : Int32) ((i1 >>> ((9 : Int32) &&& 31)) &&& (15 : Int32)) (lowF s1 s0) s2 I) else (f185_b211 kad N Z g i4 ((lowF (i1 >>> ((6 : Int32) &&& 31)) (6 : Int32)) - (1 : Int32)) ((i1 >>> ((9 : Int32) &&& 31)) &&& (15 : Int32)) (lowF s1 s0) s2 I))) (DETc.ite (A_f185_b211 hN h h_s2) (A_f185_b211 hN h h_s2)) (fun g I => ?_)
  unfold f185_b182
  simp only [f184_b (b := s0) h_s0, f184_b (b := (6 : Int32)) (by decide), bindP]
theorem A_f185_b297 (hN : 2000 ≤ N) (h : okA A) {i1 s0 s1 s2 : Int32} (h_s2 : h0P s2) : DETc kad N Z (fun g I => f185_b297 kad N Z g i1 s0 s1 s2 I) A := by
  refine DETc.of (fn := fun g I => (fH0 kad N Z g s2 (s1 + s0) (lowF (i1 >>> ((7 : Int32) &&& 31)) (9 : Int32)) (lowF (i1 >>> ((10 : Int32) &&& 31)) (4 : Int32)) (lowF (i1 >>> ((8 : Int32) &&& 31)) (20 : Int32)) I)) (D0 h h_s2) (fun g I => ?_)
  unfold f185_b297
  simp only [f184_b (b := (9 : Int32)) (by decide), f184_b (b := (4 : Int32)) (by decide), f184_b (b := (20 : Int32)) (by decide), f185_b327, bindP]
theorem A_f185_b282 (hN : 2000 ≤ N) (h : okA A) {i1 i5 s0 s1 s2 : Int32} (h_s0 : ¬ s0 = 0) (h_s2 : h0P s2) : DETc kad N Z (fun g I => f185_b282 kad N Z g i1 i5 s0 s1 s2 I) A := by
  refine DETc.of (fn := fun g I => (if ¬ i5 = (13 : Int32) then (f185_b297 kad N Z g i1 (0 : Int32) (lowF s1 s0) s2 I) else (f185_b297 kad N Z g i1 (1 : Int32) (lowF s1 s0) s2 I))) (DETc.ite (A_f185_b297 hN h h_s2) (A_f185_b297 hN h h_s2)) (fun g I => ?_)
  unfold f185_b282
  simp only [f184_b (b := s0) h_s0, bindP]
theorem A_f185_b268 (hN : 2000 ≤ N) (h : okA A) {i1 i2 i5 s0 : Int32} (h_s0 : h0P s0) : DETc kad N Z (fun g I => f185_b268 kad N Z g i1 i2 i5 s0 I) A := by
  refine DETc.of (fn := fun g I => (if i2 = 0 then (f185_b282 kad N Z g i1 i5 (2 : Int32) (i1 >>> ((6 : Int32) &&& 31)) s0 I) else (f185_b282 kad N Z g i1 i5 (9 : Int32) (i1 >>> ((6 : Int32) &&& 31)) s0 I))) (DETc.ite (A_f185_b282 hN h (by decide) h_s0) (A_f185_b282 hN h (by decide) h_s0)) (fun g I => ?_)
  unfold f185_b268
  rfl
theorem A_f185_b74 (hN : 2000 ≤ N) (h : okA A) {i1 i2 s0 : Int32} : DETc kad N Z (fun g I => f185_b74 kad N Z g i1 i2 s0 I) A := by
  refine DETc.of (fn := fun g I => (if (6 : Int32) ≤ (lowF (i1 >>> ((5 : Int32) &&& 31)) (16 : Int32)) then (if (10 : Int32) ≤ (lowF (i1 >>> ((5 : Int32) &&& 31)) (16 : Int32)) then (if (12 : Int32) ≤ (lowF (i1 >>> ((5 : Int32) &&& 31)) (16 : Int32)) then (if (13 : Int32) ≤ (lowF (i1 >>> ((5 : Int32) &&& 31)) (16 : Int32)) then (if (14 : Int32) ≤ (lowF (i1 >>> ((5 : Int32) &&& 31)) (16 : Int32)) then (f185_b268 kad N Z g i1 i2 (lowF (i1 >>> ((5 : Int32) &&& 31)) (16 : Int32)) ((5 : Int32) + (lowF (i1 >>> ((9 : Int32) &&& 31)) (3 : Int32))) I) else (f185_b268 kad N Z g i1 i2 (lowF (i1 >>> ((5 : Int32) &&& 31)) (16 : Int32)) ((2 : Int32) + (lowF (i1 >>> ((9 : Int32) &&& 31)) (3 : Int32))) I)) else (f185_b268 kad N Z g i1 i2 (lowF (i1 >>> ((5 : Int32) &&& 31)) (16 : Int32)) (lowF (i1 >>> ((9 : Int32) &&& 31)) (2 : Int32)) I)) else (if i2 = 0 then (f185_b182 kad N Z g i1 i2 s0 (27 : Int32) (i1 >>> ((12 : Int32) &&& 31)) (8 : Int32) I) else (f185_b182 kad N Z g i1 i2 s0 (29 : Int32) (i1 >>> ((12 : Int32) &&& 31)) (8 : Int32) I))) else (if i2 = 0 then (f185_b148 kad N Z g (7 : Int32) (i1 >>> ((7 : Int32) &&& 31)) (0 : Int32) ((5 : Int32) * ((i1 >>> ((11 : Int32) &&& 31)) &&& (3 : Int32))) (26 : Int32) (8 : Int32) I) else (f185_b148 kad N Z g (12 : Int32) (i1 >>> ((7 : Int32) &&& 31)) (0 : Int32) ((5 : Int32) * ((i1 >>> ((11 : Int32) &&& 31)) &&& (3 : Int32))) (26 : Int32) (8 : Int32) I))) else (fH0 kad N Z g (8 : Int32) (1 : Int32) ((5 : Int32) * ((i1 >>> ((11 : Int32) &&& 31)) &&& (3 : Int32))) (0 : Int32) s0 I))) (DETc.ite (DETc.ite (DETc.ite (DETc.ite (DETc.ite (A_f185_b268 hN h (low_5 _)) (A_f185_b268 hN h (low_2 _))) (A_f185_b268 hN h (low_0 _))) (DETc.ite (A_f185_b182 hN h (by decide) (by decide)) (A_f185_b182 hN h (by decide) (by decide)))) (DETc.ite (A_f185_b148 hN h (by decide) (by decide)) (A_f185_b148 hN h (by decide) (by decide)))) (D0 h (by decide))) (fun g I => ?_)
  unfold f185_b74
  simp only [f184_b (b := (16 : Int32)) (by decide), f184_b (b := (3 : Int32)) (by decide), f184_b (b := (2 : Int32)) (by decide), f185_b327, bindP]
theorem A_f185_b71 (hN : 2000 ≤ N) (h : okA A) {i1 i2 s0 s1 : Int32} (h_s0 : ¬ s0 = 0) : DETc kad N Z (fun g I => f185_b71 kad N Z g i1 i2 s0 s1 I) A := by
  refine DETc.of (fn := fun g I => (f185_b74 kad N Z g i1 i2 (lowF s1 s0) I)) (A_f185_b74 hN h) (fun g I => ?_)
  unfold f185_b71
  simp only [f184_b (b := s0) h_s0, bindP]
theorem A_f185_b373 (hN : 2000 ≤ N) (h : okA A) {s0 s1 : Int32} (h_s1 : h1P s1) : DETc kad N Z (fun g I => f185_b373 kad N Z g s0 s1 I) A := by
  refine DETc.of (fn := fun g I => (fH1 kad N Z g s1 s0 (0 : Int32) (0 : Int32) (0 : Int32) I)) (D1 hN h h_s1) (fun g I => ?_)
  unfold f185_b373
  simp only [f185_b443, bindP]
theorem A_f185_b434 (hN : 2000 ≤ N) (h : okA A) {s0 s1 s2 s3 s4 : Int32} (h_s0 : ¬ s0 = 0) (h_s4 : h1P s4) : DETc kad N Z (fun g I => f185_b434 kad N Z g s0 s1 s2 s3 s4 I) A := by
  refine DETc.of (fn := fun g I => (fH1 kad N Z g s4 s3 (s2 + (lowF s1 s0)) (0 : Int32) (0 : Int32) I)) (D1 hN h h_s4) (fun g I => ?_)
  unfold f185_b434
  simp only [f184_b (b := s0) h_s0, f185_b443, bindP]
theorem A_f185_b418 (hN : 2000 ≤ N) (h : okA A) {i1 i2 s0 s1 : Int32} (h_s1 : h1P s1) : DETc kad N Z (fun g I => f185_b418 kad N Z g i1 i2 s0 s1 I) A := by
  refine DETc.of (fn := fun g I => (if i2 = 0 then (f185_b434 kad N Z g (40 : Int32) (i1 >>> ((9 : Int32) &&& 31)) (1 : Int32) s0 s1 I) else (f185_b434 kad N Z g (120 : Int32) (i1 >>> ((9 : Int32) &&& 31)) (1 : Int32) s0 s1 I))) (DETc.ite (A_f185_b434 hN h (by decide) h_s1) (A_f185_b434 hN h (by decide) h_s1)) (fun g I => ?_)
  unfold f185_b418
  rfl
theorem A_f185_b490 (hN : 2000 ≤ N) (h : okA A) {s0 s1 : Int32} (h_s1 : h1P s1) : DETc kad N Z (fun g I => f185_b490 kad N Z g s0 s1 I) A := by
  refine DETc.of (fn := fun g I => (fH1 kad N Z g s1 s0 (0 : Int32) (0 : Int32) (0 : Int32) I)) (D1 hN h h_s1) (fun g I => ?_)
  unfold f185_b490
  simp only [f185_b536, bindP]
theorem A_f185_b530 (hN : 2000 ≤ N) (h : okA A) {s0 s1 : Int32} (h_s1 : h1P s1) : DETc kad N Z (fun g I => f185_b530 kad N Z g s0 s1 I) A := by
  refine DETc.of (fn := fun g I => (fH1 kad N Z g s1 s0 (0 : Int32) (0 : Int32) (0 : Int32) I)) (D1 hN h h_s1) (fun g I => ?_)
  unfold f185_b530
  simp only [f185_b536, bindP]
theorem A_f185_b588 (hN : 2000 ≤ N) (h : okA A) {i4 : Int32} (h_i4 : h1P i4) : DETc kad N Z (fun g I => f185_b588 kad N Z g i4 I) A := by
  refine DETc.of (fn := fun g I => (fH1 kad N Z g i4 (0 : Int32) (0 : Int32) (0 : Int32) (0 : Int32) I)) (D1 hN h h_i4) (fun g I => ?_)
  unfold f185_b588
  simp only [f185_b598, bindP]
theorem A_f185_b564 (hN : 2000 ≤ N) (h : okA A) {i1 i3 s0 : Int32} (h_s0 : h1P s0) : DETc kad N Z (fun g I => f185_b564 kad N Z g i1 i3 s0 I) A := by
  refine DETc.of (fn := fun g I => (if ¬ i3 = (39 : Int32) then (f185_b588 kad N Z g s0 I) else (if ((i1 >>> ((7 : Int32) &&& 31)) &&& (3 : Int32)) ≤ 0 then (f185_b588 kad N Z g s0 I) else (f125 kad N Z g I)))) (DETc.ite (A_f185_b588 hN h h_s0) (DETc.ite (A_f185_b588 hN h h_s0) (Dq125 h))) (fun g I => ?_)
  unfold f185_b564
  simp only [f185_b598, bindP]
theorem A_f185_b713 (hN : 2000 ≤ N) (h : okA A) {s0 s1 : Int32} (h_s1 : h1P s1) : DETc kad N Z (fun g I => f185_b713 kad N Z g s0 s1 I) A := by
  refine DETc.of (fn := fun g I => (fH1 kad N Z g s1 s0 (0 : Int32) (0 : Int32) (0 : Int32) I)) (D1 hN h h_s1) (fun g I => ?_)
  unfold f185_b713
  exact bindP
theorem A_f185_b685 (hN : 2000 ≤ N) (h : okA A) {i1 i2 s0 : Int32} (h_s0 : h1P s0) : DETc kad N Z (fun g I => f185_b685 kad N Z g i1 i2 s0 I) A := by
  refine DETc.of (fn := fun g I => (if i2 = 0 then (f185_b713 kad N Z g (lowF (i1 >>> ((6 : Int32) &&& 31)) (50 : Int32)) s0 I) else (f185_b713 kad N Z g ((lowF (i1 >>> ((6 : Int32) &&& 31)) (70000 : Int32)) - (99 : Int32)) s0 I))) (DETc.ite (A_f185_b713 hN h h_s0) (A_f185_b713 hN h h_s0)) (fun g I => ?_)
  unfold f185_b685
  simp only [f184_b (b := (50 : Int32)) (by decide), f184_b (b := (70000 : Int32)) (by decide), bindP]
theorem A_f185_b835 (hN : 2000 ≤ N) (h : okA A) {s0 s1 s2 s3 s4 : Int32} (h_s4 : h1P s4) : DETc kad N Z (fun g I => f185_b835 kad N Z g s0 s1 s2 s3 s4 I) A := by
  refine DETc.of (fn := fun g I => (fH1 kad N Z g s4 s3 s2 s1 s0 I)) (D1 hN h h_s4) (fun g I => ?_)
  unfold f185_b835
  simp only [f185_b851, bindP]
theorem A_f185_b809 (hN : 2000 ≤ N) (h : okA A) {i1 i2 s0 s1 s2 s3 : Int32} (h_s3 : h1P s3) : DETc kad N Z (fun g I => f185_b809 kad N Z g i1 i2 s0 s1 s2 s3 I) A := by
  refine DETc.of (fn := fun g I => (if i2 = 0 then (f185_b835 kad N Z g (lowF (i1 >>> ((9 : Int32) &&& 31)) (30 : Int32)) s0 s1 s2 s3 I) else (f185_b835 kad N Z g (lowF (i1 >>> ((9 : Int32) &&& 31)) (600 : Int32)) s0 s1 s2 s3 I))) (DETc.ite (A_f185_b835 hN h h_s3) (A_f185_b835 hN h h_s3)) (fun g I => ?_)
  unfold f185_b809
  simp only [f184_b (b := (30 : Int32)) (by decide), f184_b (b := (600 : Int32)) (by decide), bindP]
theorem A_f185_b782 (hN : 2000 ≤ N) (h : okA A) {i1 i2 s0 s1 s2 : Int32} (h_s2 : h1P s2) : DETc kad N Z (fun g I => f185_b782 kad N Z g i1 i2 s0 s1 s2 I) A := by
  refine DETc.of (fn := fun g I => (if i2 = 0 then (f185_b809 kad N Z g i1 i2 ((1 : Int32) + (lowF (i1 >>> ((8 : Int32) &&& 31)) (20 : Int32))) s0 s1 s2 I) else (f185_b809 kad N Z g i1 i2 (lowF (i1 >>> ((8 : Int32) &&& 31)) (25 : Int32)) s0 s1 s2 I))) (DETc.ite (A_f185_b809 hN h h_s2) (A_f185_b809 hN h h_s2)) (fun g I => ?_)
  unfold f185_b782
  simp only [f184_b (b := (20 : Int32)) (by decide), f184_b (b := (25 : Int32)) (by decide), bindP]
theorem A_f185_b757 (hN : 2000 ≤ N) (h : okA A) {i1 i2 s0 s1 : Int32} (h_s1 : h1P s1) : DETc kad N Z (fun g I => f185_b757 kad N Z g i1 i2 s0 s1 I) A := by
  refine DETc.of (fn := fun g I => (if i2 = 0 then (f185_b782 kad N Z g i1 i2 (lowF (i1 >>> ((7 : Int32) &&& 31)) (30 : Int32)) s0 s1 I) else (f185_b782 kad N Z g i1 i2 (lowF (i1 >>> ((7 : Int32) &&& 31)) (120 : Int32)) s0 s1 I))) (DETc.ite (A_f185_b782 hN h h_s1) (A_f185_b782 hN h h_s1)) (fun g I => ?_)
  unfold f185_b757
  simp only [f184_b (b := (30 : Int32)) (by decide), f184_b (b := (120 : Int32)) (by decide), bindP]
theorem A_f185_b17 (hN : 2000 ≤ N) (h : okA A) {i1 s0 : Int32} : DETc kad N Z (fun g I => f185_b17 kad N Z g i1 s0 I) A := by
  refine DETc.of (fn := fun g I => (if (18 : Int32) ≤ (lowF i1 (46 : Int32)) then (if (28 : Int32) ≤ (lowF i1 (46 : Int32)) then (if (34 : Int32) ≤ (lowF i1 (46 : Int32)) then (if (40 : Int32) ≤ (lowF i1 (46 : Int32)) then (if (42 : Int32) ≤ (lowF i1 (46 : Int32)) then (if (44 : Int32) ≤ (lowF i1 (46 : Int32)) then (if ¬ (lowF i1 (46 : Int32)) = (44 : Int32) then (fH1 kad N Z g (12 : Int32) (0 : Int32) (0 : Int32) (0 : Int32) (0 : Int32) I) else (if s0 = 0 then (f185_b757 kad N Z g i1 s0 ((1 : Int32) + (lowF (i1 >>> ((6 : Int32) &&& 31)) (60 : Int32))) (11 : Int32) I) else (f185_b757 kad N Z g i1 s0 (lowF (i1 >>> ((6 : Int32) &&& 31)) (600 : Int32)) (11 : Int32) I))) else (if ¬ (lowF i1 (46 : Int32)) = (42 : Int32) then (f185_b685 kad N Z g i1 s0 (10 : Int32) I) else (f185_b685 kad N Z g i1 s0 (9 : Int32) I))) else (if ¬ ((i1 >>> ((7 : Int32) &&& 31)) &&& (1 : Int32)) = 0 then (if ¬ (lowF i1 (46 : Int32)) = (40 : Int32) then (if ¬ ((i1 >>> ((8 : Int32) &&& 31)) &&& (3 : Int32)) = 0 then (fH1 kad N Z g (2 : Int32) (0 : Int32) (0 : Int32) (0 : Int32) (0 : Int32) I) else (f124 kad N Z g I)) else (fH1 kad N Z g (2 : Int32) (0 : Int32) (0 : Int32) (0 : Int32) (0 : Int32) I)) else (f125 kad N Z g I))) else (if (36 : Int32) ≤ (lowF i1 (46 : Int32)) then (if (39 : Int32) ≤ (lowF i1 (46 : Int32)) then (f185_b564 kad N Z g i1 (lowF i1 (46 : Int32)) (3 : Int32) I) else (f185_b564 kad N Z g i1 (lowF i1 (46 : Int32)) (1 : Int32) I)) else (f185_b564 kad N Z g i1 (lowF i1 (46 : Int32)) (0 : Int32) I))) else (if (31 : Int32) ≤ (lowF i1 (46 : Int32)) then (if s0 = 0 then (f185_b530 kad N Z g (lowF (i1 >>> ((6 : Int32) &&& 31)) (65536 : Int32)) (7 : Int32) I) else (f185_b530 kad N Z g ((lowF (i1 >>> ((6 : Int32) &&& 31)) (70000 : Int32)) - (99 : Int32)) (7 : Int32) I)) else (if s0 = 0 then (f185_b490 kad N Z g ((1 : Int32) + (lowF (i1 >>> ((6 : Int32) &&& 31)) (15 : Int32))) (6 : Int32) I) else (f185_b490 kad N Z g ((lowF (i1 >>> ((6 : Int32) &&& 31)) (250 : Int32)) - (20 : Int32)) (6 : Int32) I)))) else (if (26 : Int32) ≤ (lowF i1 (46 : Int32)) then (if s0 = 0 then (f185_b418 kad N Z g i1 s0 ((8 : Int32) + ((2 : Int32) * (lowF (i1 >>> ((6 : Int32) &&& 31)) (10 : Int32)))) (5 : Int32) I) else (f185_b418 kad N Z g i1 s0 ((lowF (i1 >>> ((6 : Int32) &&& 31)) (300 : Int32)) - (20 : Int32)) (5 : Int32) I)) else (if s0 = 0 then (f185_b373 kad N Z g ((1 : Int32) + (lowF (i1 >>> ((6 : Int32) &&& 31)) (20 : Int32))) (4 : Int32) I) else (f185_b373 kad N Z g ((lowF (i1 >>> ((6 : Int32) &&& 31)) (130 : Int32)) - (10 : Int32)) (4 : Int32) I)))) else (if s0 = 0 then (if ¬ ((i1 >>> ((16 : Int32) &&& 31)) &&& (3 : Int32)) = 0 then (f185_b71 kad N Z g i1 s0 (9 : Int32) (i1 >>> ((8 : Int32) &&& 31)) I) else (f185_b71 kad N Z g i1 s0 (300 : Int32) (i1 >>> ((8 : Int32) &&& 31)) I)) else (f185_b74 kad N Z g i1 s0 ((lowF (i1 >>> ((8 : Int32) &&& 31)) (66000 : Int32)) - (100 : Int32)) I)))) (DETc.ite (DETc.ite (DETc.ite (DETc.ite (DETc.ite (DETc.ite (DETc.ite (D1 hN h (by decide)) (DETc.ite (A_f185_b757 hN h (by decide)) (A_f185_b757 hN h (by decide)))) (DETc.ite (A_f185_b685 hN h (by decide)) (A_f185_b685 hN h (by decide)))) (DETc.ite (DETc.ite (DETc.ite (D1 hN h (by decide)) (Dq124 h)) (D1 hN h (by decide))) (Dq125 h))) (DETc.ite (DETc.ite (A_f185_b564 hN h (by decide)) (A_f185_b564 hN h (by decide))) (A_f185_b564 hN h (by decide)))) (DETc.ite (DETc.ite (A_f185_b530 hN h (by decide)) (A_f185_b530 hN h (by decide))) (DETc.ite (A_f185_b490 hN h (by decide)) (A_f185_b490 hN h (by decide))))) (DETc.ite (DETc.ite (A_f185_b418 hN h (by decide)) (A_f185_b418 hN h (by decide))) (DETc.ite (A_f185_b373 hN h (by decide)) (A_f185_b373 hN h (by decide))))) (DETc.ite (DETc.ite (A_f185_b71 hN h (by decide)) (A_f185_b71 hN h (by decide))) (A_f185_b74 hN h))) (fun g I => ?_)
  unfold f185_b17
  simp only [f184_b (b := (46 : Int32)) (by decide), f185_b851, f184_b (b := (60 : Int32)) (by decide), f184_b (b := (600 : Int32)) (by decide), f185_b664, f184_b (b := (65536 : Int32)) (by decide), f184_b (b := (70000 : Int32)) (by decide), f184_b (b := (15 : Int32)) (by decide), f184_b (b := (250 : Int32)) (by decide), f184_b (b := (10 : Int32)) (by decide), f184_b (b := (300 : Int32)) (by decide), f184_b (b := (20 : Int32)) (by decide), f184_b (b := (130 : Int32)) (by decide), f184_b (b := (66000 : Int32)) (by decide), bindP]
theorem A_f185 (hN : 2000 ≤ N) (h : okA A) {i1 : Int32} : DETc kad N Z (fun g I => f185 kad N Z g i1 I) A := by
  refine DETc.of (fn := fun g I => (if ¬ ((i1 >>> ((18 : Int32) &&& 31)) &&& (7 : Int32)) = (7 : Int32) then (f185_b17 kad N Z g i1 (0 : Int32) I) else (f185_b17 kad N Z g i1 (1 : Int32) I))) (DETc.ite (A_f185_b17 hN h) (A_f185_b17 hN h)) (fun g I => ?_)
  unfold f185
  rfl
end PACT
