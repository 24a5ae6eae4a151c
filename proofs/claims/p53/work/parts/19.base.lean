/-! the mathematics: what comes of a method's function; the class's machine against a plain one -/
abbrev nT (x : Int32) : Nat := x.toNatClampNeg
def Ok {α : Type} (o : Option (α × AI)) (Q : α → AI → Prop) : Prop := ∃ v J, o = some (v, J) ∧ Q v J
theorem Ok.bind {α β : Type} {o : Option (α × AI)} {k : α × AI → Option (β × AI)} {P : α → AI → Prop} {Q : β → AI → Prop} (h : Ok o P) (hk : ∀ v J, P v J → Ok (k (v, J)) Q) : Ok (o.bind k) Q := by
  obtain ⟨v, J, rfl, hP⟩ := h
  exact hk v J hP
theorem Ok.mono {α : Type} {o : Option (α × AI)} {P Q : α → AI → Prop} (h : Ok o P) (hk : ∀ v J, P v J → Q v J) : Ok o Q := by
  obtain ⟨v, J, rfl, hP⟩ := h
  exact ⟨v, J, rfl, hk v J hP⟩
theorem Ok.ret {α : Type} {v : α} {J : AI} {Q : α → AI → Prop} (h : Q v J) : Ok (some (v, J)) Q := ⟨v, J, rfl, h⟩
theorem Ok.w {β : Type} {I : AI} {a k : Nat} {x : Int32} {f : AI → Option (β × AI)} {Q : β → AI → Prop} (h : Ok (f (up2 I a k x)) Q) : Ok ((wI I a k x).bind f) Q := h
theorem Ok.wb {β : Type} {I : AI} {a k : Nat} {x : Int32} {f : AI → Option (β × AI)} {Q : β → AI → Prop} (hx : x = 0 ∨ x = 1) (h : Ok (f (up2 I a k x)) Q) : Ok ((wB I a k x).bind f) Q := by
  unfold wB
  rw [if_pos hx]
  exact h
theorem Ok.ix {β : Type} {n : Nat} {i : Int32} {f : Nat → Option (β × AI)} {Q : β → AI → Prop} (h0 : ¬ i < 0) (h1 : nT i < n) (h : Ok (f (nT i)) Q) : Ok ((ixA n i).bind f) Q := by
  unfold ixA
  rw [if_pos (by intro hh; rcases hh with hh | hh; exact h0 hh; exact absurd hh (Nat.not_le.mpr h1))]
  exact h
/-! numbers of 32 bits -/
theorem nT_lt {i : Int32} {n : Nat} (h : i < Int32.ofNat n) (hn : n < 2147483648 := by decide) : nT i < n ∨ n = 0 := by
  have h1 : i.toInt < (Int32.ofNat n).toInt := Int32.lt_iff_toInt_lt.mp h
  rw [Int32.toInt_ofNat_of_lt hn] at h1
  show i.toInt.toNat < n ∨ n = 0
  omega
theorem nT_eq {i : Int32} (h : ¬ i < 0) : ((nT i : Nat) : Int) = i.toInt := by
  have h1 : ¬ i.toInt < (0 : Int32).toInt := fun hh => h (Int32.lt_iff_toInt_lt.mpr hh)
  have h2 : (0 : Int32).toInt = 0 := by decide
  show ((i.toInt.toNat : Nat) : Int) = i.toInt
  omega
theorem nT_of {n : Nat} (hn : n < 2147483648) : nT (Int32.ofNat n) = n := by
  show (Int32.ofNat n).toInt.toNat = n
  rw [Int32.toInt_ofNat_of_lt hn]
  omega
theorem nT_inj {i j : Int32} (hi : ¬ i < 0) (hj : ¬ j < 0) (h : nT i = nT j) : i = j := by
  apply Int32.toInt_inj.mp
  rw [← nT_eq hi, ← nT_eq hj, h]
theorem of_nT {i : Int32} (hi : ¬ i < 0) : Int32.ofNat (nT i) = i := by
  apply Int32.toInt_inj.mp
  have h1 := nT_eq hi
  have h2 : i.toInt < 2147483648 := Int32.toInt_lt i
  rw [Int32.toInt_ofNat_of_lt (by omega)]
  exact h1
/-! a plain machine X: blocks 1 to 12 as the class has them behind its machine, 14 to 16 its clerk's and head's rows, 20 to 28 the kept step -/
def rel (e : Nat) (X : AI) (c k : Nat) : Prop := match c with
  | 1 => k < 14
  | 2 => k < 4
  | 3 => k < 2
  | 4 => k < nT (X 3 0) ∧ k < 3
  | 5 => k < 8 * nT (X 3 0) ∧ k < 24
  | 6 => k < 256
  | 7 => k < nT (X 1 12) ∧ k < 60
  | 8 => k = 1
  | 9 => k < 256
  | 10 => k = 0
  | 11 => k < nT (X 10 0) ∧ k < 20
  | 12 => k < nT (X 10 0) ∧ k < 20
  | 14 => e = 1 ∧ k < 256
  | 15 => e = 1 ∧ k < 32
  | 16 => e = 2 ∧ k < 8
  | 20 => k = 1 ∨ k = 4
  | 21 => k < 14
  | 22 => k < 4
  | 23 => k < 2
  | 24 => k < nT (X 23 0) ∧ k < 3
  | 25 => k < 8 * nT (X 23 0) ∧ k < 24
  | 26 => k < nT (X 20 1) ∧ k < 2
  | 27 => k < nT (X 20 1) ∧ k < 2
  | 28 => k < 8 ∧ ¬ X 20 4 = Int32.ofInt (-1)
  | _ => False
def loc (a κ c : Nat) : Nat := if c < 20 then a + c else κ + (c - 20)
theorem rel_vc {e : Nat} {X : AI} {c k : Nat} (h : rel e X c k) : (0 < c ∧ c < 17) ∨ (20 ≤ c ∧ c < 29) := by
  unfold rel at h
  split at h <;> first | omega | exact h.elim
abbrev nc (c k : Nat) : Prop := ¬ (c = 3 ∧ k = 0) ∧ ¬ (c = 1 ∧ k = 12) ∧ ¬ (c = 10 ∧ k = 0) ∧ ¬ (c = 20 ∧ (k = 1 ∨ k = 4)) ∧ ¬ (c = 23 ∧ k = 0)
theorem rel_cong {e : Nat} {X Y : AI} {c k : Nat} (h1 : Y 3 0 = X 3 0) (h2 : Y 1 12 = X 1 12) (h3 : Y 10 0 = X 10 0) (h4 : Y 20 1 = X 20 1) (h5 : Y 20 4 = X 20 4) (h6 : Y 23 0 = X 23 0) : rel e Y c k ↔ rel e X c k := by
  unfold rel
  split <;> simp only [h1, h2, h3, h4, h5, h6]
theorem up2_ne {X : AI} {c k b j : Nat} {v : Int32} (h : ¬ (b = c ∧ j = k)) : up2 X c k v b j = X b j := by
  unfold up2
  rw [if_neg h]
theorem up2_eq {X : AI} {c k : Nat} {v : Int32} : up2 X c k v c k = v := by
  unfold up2
  rw [if_pos ⟨rfl, rfl⟩]
theorem up2_b {X : AI} {c k b : Nat} {v : Int32} (h : ¬ b = c) : up2 X c k v b = X b := by
  funext j
  exact up2_ne (fun hh => h hh.1)
theorem rel_up {e : Nat} {X : AI} {c k c1 k1 : Nat} {v : Int32} (h : nc c k) : rel e (up2 X c k v) c1 k1 ↔ rel e X c1 k1 := by
  obtain ⟨h1, h2, h3, h4, h5⟩ := h
  refine rel_cong (up2_ne ?_) (up2_ne ?_) (up2_ne ?_) (up2_ne ?_) (up2_ne ?_) (up2_ne ?_) <;> omega
/-- the class's machine at a, its kept step at κ, against a plain one; I0 is what all else is like -/
def RC (e : Nat) (Z : AZ) (a κ : Nat) (I0 I X : AI) : Prop := Z.2.1 a 7 (I a 7) = κ ∧ (κ + 9 ≤ a ∨ a + 17 ≤ κ) ∧ (∀ b, ¬ (a ≤ b ∧ b < a + 17) → ¬ (κ ≤ b ∧ b < κ + 9) → I b = I0 b) ∧ (∀ c k, rel e X c k → I (loc a κ c) k = X c k)
section RCs
variable {e : Nat} {Z : AZ} {a κ : Nat} {I0 I X : AI} {c k : Nat} {v : Int32}
theorem loc_ne (h : κ + 9 ≤ a ∨ a + 17 ≤ κ) {c d : Nat} (hc : (0 < c ∧ c < 17) ∨ (20 ≤ c ∧ c < 29)) (hd : (0 < d ∧ d < 17) ∨ (20 ≤ d ∧ d < 29)) (hn : ¬ c = d) : ¬ loc a κ c = loc a κ d := by
  unfold loc
  split <;> split <;> omega
theorem loc_a (h : κ + 9 ≤ a ∨ a + 17 ≤ κ) {c : Nat} (hc : (0 < c ∧ c < 17) ∨ (20 ≤ c ∧ c < 29)) : ¬ a = loc a κ c := by
  unfold loc
  split <;> omega
theorem loc_in (h : κ + 9 ≤ a ∨ a + 17 ≤ κ) {c : Nat} (hc : (0 < c ∧ c < 17) ∨ (20 ≤ c ∧ c < 29)) : (a ≤ loc a κ c ∧ loc a κ c < a + 17) ∨ (κ ≤ loc a κ c ∧ loc a κ c < κ + 9) := by
  unfold loc
  split <;> omega
/-- a block is changed -/
theorem RC.blk (H : RC e Z a κ I0 I X) {J Y : AI} {e2 : Nat} (hc : (0 < c ∧ c < 17) ∨ (20 ≤ c ∧ c < 29)) (hJ : ∀ b, ¬ b = loc a κ c → J b = I b) (hY : ∀ d, ¬ d = c → Y d = X d) (hr : ∀ d k, rel e2 Y d k → ¬ d = c → rel e X d k ∨ I (loc a κ d) k = X d k) (hq : ∀ k, rel e2 Y c k → J (loc a κ c) k = Y c k) : RC e2 Z a κ I0 J Y := by
  obtain ⟨h1, h2, h3, h4⟩ := H
  refine ⟨?_, h2, fun b hb1 hb2 => ?_, fun d k hd => ?_⟩
  · rw [hJ a (loc_a h2 hc)]
    exact h1
  · rw [hJ b (fun hh => by rcases loc_in h2 hc with h | h <;> (rw [← hh] at h; first | exact hb1 h | exact hb2 h))]
    exact h3 b hb1 hb2
  · by_cases hdc : d = c
    · subst hdc
      exact hq k hd
    · rw [hJ _ (loc_ne h2 (rel_vc hd) hc hdc), hY d hdc]
      rcases hr d k hd hdc with h | h
      · exact h4 d k h
      · exact h
theorem RC.up0 (H : RC e Z a κ I0 I X) (hc : (0 < c ∧ c < 17) ∨ (20 ≤ c ∧ c < 29)) (hn : nc c k) : RC e Z a κ I0 (up2 I (loc a κ c) k v) (up2 X c k v) := by
  refine H.blk hc (fun b hb => up2_b hb) (fun d hd => up2_b hd) (fun d k hd _ => Or.inl ((rel_up hn).mp hd)) (fun k1 hk => ?_)
  by_cases h : k1 = k
  · subst h
    rw [up2_eq, up2_eq]
  · rw [up2_ne (fun hh => h hh.2), up2_ne (fun hh => h hh.2)]
    exact H.2.2.2 c k1 ((rel_up hn).mp hk)
theorem RC.up (H : RC e Z a κ I0 I X) (hc : 0 < c ∧ c < 17 := by decide) (hn : nc c k := by decide) : RC e Z a κ I0 (up2 I (a + c) k v) (up2 X c k v) := by
  have h := H.up0 (c := c) (k := k) (v := v) (Or.inl hc) hn
  rwa [show loc a κ c = a + c from by unfold loc; rw [if_pos (by omega)]] at h
theorem RC.upk (H : RC e Z a κ I0 I X) (hc : c < 9 := by decide) (hn : nc (20 + c) k := by decide) : RC e Z a κ I0 (up2 I (κ + c) k v) (up2 X (20 + c) k v) := by
  have h := H.up0 (c := 20 + c) (k := k) (v := v) (Or.inr (by omega)) hn
  rwa [show loc a κ (20 + c) = κ + c from by unfold loc; rw [if_neg (by omega)]; omega] at h
theorem RC.rd (H : RC e Z a κ I0 I X) (hc : 0 < c ∧ c < 17 := by decide) (h : rel e X c k := by first | (show _ < _; decide) | rfl) : I (a + c) k = X c k := by
  have h1 := H.2.2.2 c k h
  rwa [show loc a κ c = a + c from by unfold loc; rw [if_pos (by omega)]] at h1
theorem RC.rdk (H : RC e Z a κ I0 I X) (hc : c < 9 := by decide) (h : rel e X (20 + c) k := by first | (show _ < _; decide) | rfl) : I (κ + c) k = X (20 + c) k := by
  have h1 := H.2.2.2 (20 + c) k h
  rwa [show loc a κ (20 + c) = κ + c from by unfold loc; rw [if_neg (by omega)]; omega] at h1
theorem RC.rd0 (H : RC e Z a κ I0 I X) (h : k = 1 ∨ k = 4) : I κ k = X 20 k := by
  exact H.rdk (c := 0) (by decide) h
theorem RC.kp (H : RC e Z a κ I0 I X) : Z.2.1 a 7 (I a 7) = κ := H.1
end RCs
/-! numbers that count -/
theorem of_le {m n : Nat} (hm : m < 2147483648) (hn : n < 2147483648) : Int32.ofNat m ≤ Int32.ofNat n ↔ m ≤ n := by
  rw [Int32.le_iff_toInt_le, Int32.toInt_ofNat_of_lt hm, Int32.toInt_ofNat_of_lt hn]
  omega
theorem of_lt {m n : Nat} (hm : m < 2147483648) (hn : n < 2147483648) : Int32.ofNat m < Int32.ofNat n ↔ m < n := by
  rw [Int32.lt_iff_toInt_lt, Int32.toInt_ofNat_of_lt hm, Int32.toInt_ofNat_of_lt hn]
  omega
theorem of_inj {m n : Nat} (hm : m < 2147483648) (hn : n < 2147483648) : Int32.ofNat m = Int32.ofNat n ↔ m = n := by
  rw [← Int32.toInt_inj, Int32.toInt_ofNat_of_lt hm, Int32.toInt_ofNat_of_lt hn]
  omega
theorem of_s (n : Nat) : Int32.ofNat n + 1 = Int32.ofNat (n + 1) := (Int32.ofNat_add n 1).symm
theorem of_nn {n : Nat} (hn : n < 2147483648) : ¬ Int32.ofNat n < 0 := by
  rw [show (0 : Int32) = Int32.ofNat 0 from rfl, of_lt hn (by decide)]
  omega
theorem lt_nT {x : Int32} {i : Nat} (hi : i < 2147483648) (h : ¬ x ≤ Int32.ofNat i) : i < nT x := by
  rw [Int32.le_iff_toInt_le, Int32.toInt_ofNat_of_lt hi] at h
  show i < x.toInt.toNat
  omega
theorem nT_le {x : Int32} {i : Nat} (hi : i < 2147483648) (h : x ≤ Int32.ofNat i) : nT x ≤ i := by
  rw [Int32.le_iff_toInt_le, Int32.toInt_ofNat_of_lt hi] at h
  show x.toInt.toNat ≤ i
  omega
/-! a row is filled; cells are copied -/
def fl (I : AI) (b n : Nat) (v : Int32) : AI := fun c k => if c = b ∧ k < n then v else I c k
theorem fl_0 {I : AI} {b : Nat} {v : Int32} : fl I b 0 v = I := by
  funext c k
  unfold fl
  rw [if_neg (by omega)]
theorem fl_s {I : AI} {b n : Nat} {v : Int32} : up2 (fl I b n v) b n v = fl I b (n + 1) v := by
  funext c k
  unfold up2 fl
  by_cases h : c = b ∧ k = n
  · rw [if_pos h, if_pos (by omega)]
  · rw [if_neg h]
    by_cases h2 : c = b ∧ k < n
    · rw [if_pos h2, if_pos (by omega)]
    · rw [if_neg h2, if_neg (by omega)]
theorem fl_b {I : AI} {b n c : Nat} {v : Int32} (h : ¬ c = b) : fl I b n v c = I c := by
  funext k
  unfold fl
  rw [if_neg (by omega)]
theorem fl_at {I : AI} {b n k : Nat} {v : Int32} (h : k < n) : fl I b n v b k = v := by
  unfold fl
  rw [if_pos ⟨rfl, h⟩]
theorem fl_out {I : AI} {b n k : Nat} {v : Int32} (h : ¬ k < n) : fl I b n v b k = I b k := by
  unfold fl
  rw [if_neg (by omega)]
theorem sI_at {Z : AZ} {I : AI} {b n k : Nat} {v : Int32} (hZ : Z.1 b = some (100, n)) (hk : k < n) (hn : n < 2147483648) : sI Z I 100 b (Int32.ofNat k) v = some (up2 I b k v) := by
  have h1 : nT (Int32.ofNat k) = k := nT_of (by omega)
  simp only [sI, hZ]
  rw [if_pos ⟨trivial, by rintro (h | h); exact of_nn (by omega) h; have h9 : n ≤ nT (Int32.ofNat k) := h; rw [h1] at h9; omega, fun h => absurd h (by decide)⟩]
  rw [show (Int32.ofNat k).toNatClampNeg = k from h1]
theorem fill_l {kad : Nat → Nat} {N : Nat} {Z : AZ} {b n : Nat} {v : Int32} (hZ : Z.1 b = some (100, n)) (hn : n < 2147483648) : ∀ (m i F : Nat) (I : AI), i + m = n → m < F → f53_b5 kad N Z F b v (Int32.ofNat i) (Int32.ofNat n) (fl I b i v) = some ((), fl I b n v) := by
  intro m
  induction m with
  | zero =>
    intro i F I hi hF
    obtain ⟨F, rfl⟩ : ∃ G, F = G + 1 := ⟨F - 1, by omega⟩
    unfold f53_b5
    rw [if_pos ((of_le hn (by omega)).mpr (by omega)), show i = n from by omega]
  | succ m ih =>
    intro i F I hi hF
    obtain ⟨F, rfl⟩ : ∃ G, F = G + 1 := ⟨F - 1, by omega⟩
    unfold f53_b5
    rw [if_neg (fun h => absurd ((of_le hn (by omega)).mp h) (by omega)), sI_at hZ (by omega) hn, Option.bind_some, fl_s, of_s]
    exact ih (i + 1) F I (by omega) (by omega)
theorem fill_ok {kad : Nat → Nat} {N : Nat} {Z : AZ} {b n : Nat} {v : Int32} {I : AI} (hZ : Z.1 b = some (100, n)) (hn : n < 2147483648) (hN : n < N) : f53 kad N Z b v I = some ((), fl I b n v) := by
  unfold f53
  rw [nL_of hZ (by decide), Option.bind_some]
  have h := fill_l (kad := kad) (N := N) (v := v) hZ hn n 0 N I (by omega) hN
  rwa [fl_0] at h
/-! the class's rows are copied -/
theorem cA_ok {I : AI} {a0 n0 a1 n1 s d n : Nat} (h0 : s + n ≤ n0) (h1 : d + n ≤ n1) (hb : n0 < 2147483648 := by decide) (hc : n1 < 2147483648 := by decide) : cA I a0 n0 (Int32.ofNat s) a1 n1 (Int32.ofNat d) (Int32.ofNat n) = some (cpI I a0 a1 s d n) := by
  have e1 : (Int32.ofNat s).toNatClampNeg = s := nT_of (by omega)
  have e2 : (Int32.ofNat d).toNatClampNeg = d := nT_of (by omega)
  have e3 : (Int32.ofNat n).toNatClampNeg = n := nT_of (by omega)
  unfold cA
  rw [e1, e2, e3, if_pos ⟨⟨of_nn (by omega), of_nn (by omega), of_nn (by omega)⟩, h0, h1⟩]
theorem cI_ok {Z : AZ} {I : AI} {a0 n0 a1 n1 s d n : Nat} (z0 : Z.1 a0 = some (100, n0)) (z1 : Z.1 a1 = some (100, n1)) (h0 : s + n ≤ n0) (h1 : d + n ≤ n1) (hb : n0 < 2147483648 := by decide) (hc : n1 < 2147483648 := by decide) : cI Z I a0 (Int32.ofNat s) a1 (Int32.ofNat d) (Int32.ofNat n) = some (cpI I a0 a1 s d n) := cI_of z0 z1 (cA_ok h0 h1 hb hc)
theorem cpI_b {I : AI} {a0 a1 s d n c : Nat} (h : ¬ c = a1) : cpI I a0 a1 s d n c = I c := by
  funext k
  unfold cpI
  rw [if_neg (by omega)]
theorem cpI_at {I : AI} {a0 a1 s d n k : Nat} (h : d ≤ k ∧ k < d + n) : cpI I a0 a1 s d n a1 k = I a0 (s + (k - d)) := by
  unfold cpI
  rw [if_pos ⟨rfl, h⟩]
theorem cpI_out {I : AI} {a0 a1 s d n k : Nat} (h : ¬ (d ≤ k ∧ k < d + n)) : cpI I a0 a1 s d n a1 k = I a1 k := by
  unfold cpI
  rw [if_neg (by omega)]
