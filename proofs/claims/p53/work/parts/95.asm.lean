/-! the assembler on plain numbers: 0 present section, lines gone through, uses; 1 sizes; 2, 3 macros' lines; 4, 11 labels; 5, 6 arguments; 7 image; 8 where section 1 begins; 9, 10 macros' lines for good -/
abbrev PN : Type := Nat → Nat → Nat
def un (C : PN) (b k v : Nat) : PN := fun c j => if c = b ∧ j = k then v else C c j
theorem un_eq {C : PN} {b k v : Nat} : un C b k v b k = v := by unfold un; rw [if_pos ⟨rfl, rfl⟩]
theorem un_ne {C : PN} {b k v c j : Nat} (h : ¬ (c = b ∧ j = k)) : un C b k v c j = C c j := by unfold un; rw [if_neg h]
theorem un_b {C : PN} {b k v c : Nat} (h : ¬ c = b) : un C b k v c = C c := by
  funext j
  exact un_ne (fun hh => h hh.1)
def slN (l u : Nat) : Nat := if l < 16 then l else l + 4 * u
def nxt (L : AI) : Nat → Nat → Nat
  | 0, j => j
  | f + 1, j => if L 1 j = 7 ∨ L 1 j = 6 then j else nxt L f (j + 1)
def nx (n : Nat) (L : AI) (i : Nat) : Nat := nxt L (n - (i + 1)) (i + 1)
def wl (L : AI) (i : Nat) : Nat := if L 1 i = 2 then 2 else if L 1 i = 3 then 1 else nT (L 2 i)
/-- a line is gone through the first time: its error, and what is known then -/
def l1 (n : Nat) (L : AI) (i use : Nat) (st : List Nat) (C : PN) : Option (Nat × PN) :=
  if 300 < C 0 1 + 1 then some (100 + i, un C 0 1 (C 0 1 + 1))
  else if L 1 i = 0 then some (0, un (un C 0 1 (C 0 1 + 1)) 0 0 (nT (L 2 i)))
  else if L 1 i = 1 then (if C 4 (slN (nT (L 2 i)) use) = 0 then some (0, un (un (un C 0 1 (C 0 1 + 1)) 4 (slN (nT (L 2 i)) use) (C 1 (C 0 0) + 1)) 11 (slN (nT (L 2 i)) use) (C 0 0)) else some (200 + i, un C 0 1 (C 0 1 + 1)))
  else if L 1 i = 2 ∨ L 1 i = 3 ∨ L 1 i = 4 then (if C 1 0 + C 1 1 + wl L i ≤ 248 then some (0, un (un C 0 1 (C 0 1 + 1)) 1 (C 0 0) (C 1 (C 0 0) + wl L i)) else some (100 + i, un C 0 1 (C 0 1 + 1)))
  else if L 1 i = 5 then some (0, un C 0 1 (C 0 1 + 1))
  else if L 1 i = 6 then (if C 2 (nT (L 2 i)) = 0 then (if nx n L i = n then some (400 + i, un C 0 1 (C 0 1 + 1)) else if L 1 (nx n L i) = 6 then some (400 + nx n L i, un C 0 1 (C 0 1 + 1)) else some (0, un (un (un (un (un C 0 1 (C 0 1 + 1)) 2 (nT (L 2 i)) (i + 1)) 3 (nT (L 2 i)) (nx n L i)) 9 (nT (L 2 i)) (i + 1)) 10 (nT (L 2 i)) (nx n L i))) else some (300 + i, un C 0 1 (C 0 1 + 1)))
  else if L 1 i = 7 then some (400 + i, un C 0 1 (C 0 1 + 1))
  else if C 2 (nT (L 2 i)) = 0 ∨ nT (L 2 i) ∈ st then some (500 + i, un C 0 1 (C 0 1 + 1)) else some (0, un C 0 1 (C 0 1 + 1))
/-- what an operand means there -/
def opV (k x : Int32) (use : Nat) (C : PN) : Option Nat :=
  if k = 0 then some (nT x)
  else if k = 1 then (if C 4 (slN (nT x) use) = 0 then none else some ((if C 11 (slN (nT x) use) = 0 then 8 else C 8 0) + (C 4 (slN (nT x) use) - 1)))
  else if use = 0 then none
  else some (((if k = 2 then C 5 use - 1 else C 6 use - 1) + nT x) % 65536)
def oe (k : Int32) : Nat := if k = 1 then 6 else 7
def putN (w : Nat) (C : PN) : PN := un (un C 7 ((if C 0 0 = 0 then 8 else C 8 0) + C 1 (C 0 0)) w) 1 (C 0 0) (C 1 (C 0 0) + 1)
/-- a line is gone through the second time; none, where the first time would have found an error -/
def l2 (n : Nat) (L : AI) (i use : Nat) (st : List Nat) (C : PN) : Option (Nat × PN) :=
  if 300 < C 0 1 + 1 then none
  else if L 1 i = 0 then some (0, un (un C 0 1 (C 0 1 + 1)) 0 0 (nT (L 2 i)))
  else if L 1 i = 1 then some (0, un C 0 1 (C 0 1 + 1))
  else if (L 1 i = 2 ∨ L 1 i = 3 ∨ L 1 i = 4) ∧ ¬ (C 1 0 + C 1 1 + wl L i ≤ 248 ∧ (C 0 0 = 1 → C 8 0 + C 1 1 + wl L i ≤ 256)) then none
  else if L 1 i = 4 then some (0, un (un C 0 1 (C 0 1 + 1)) 1 (C 0 0) (C 1 (C 0 0) + nT (L 2 i)))
  else if L 1 i = 6 then (if C 2 (nT (L 2 i)) = 0 ∧ C 9 (nT (L 2 i)) = i + 1 ∧ C 10 (nT (L 2 i)) = nx n L i ∧ nx n L i < n ∧ ¬ L 1 (nx n L i) = 6 then some (0, un (un (un C 0 1 (C 0 1 + 1)) 2 (nT (L 2 i)) (i + 1)) 3 (nT (L 2 i)) (nx n L i)) else none)
  else if L 1 i = 7 then none
  else if L 1 i = 8 ∧ (C 2 (nT (L 2 i)) = 0 ∨ nT (L 2 i) ∈ st) then none
  else match opV (L 3 i) (L 4 i) use C with
    | none => some (100 * oe (L 3 i) + i, un C 0 1 (C 0 1 + 1))
    | some v => if L 1 i = 5 then some (0, un (un C 0 1 (C 0 1 + 1)) 7 (nT (L 2 i)) v)
      else if L 1 i = 2 then some (0, putN v (putN (nT (L 2 i)) (un C 0 1 (C 0 1 + 1))))
      else if L 1 i = 3 then some (0, putN v (un C 0 1 (C 0 1 + 1)))
      else match opV (L 5 i) (L 6 i) use C with
        | none => some (100 * oe (L 5 i) + i, un C 0 1 (C 0 1 + 1))
        | some w => some (0, un (un (un C 0 1 (C 0 1 + 1)) 5 (C 0 2 + 1) (v + 1)) 6 (C 0 2 + 1) (w + 1))
/-- the lines of one use, or those outside -/
def gL (L : AI) (ln : Nat → Nat → List Nat → PN → Option (Nat × PN)) (rc : Nat → Nat → Nat → List Nat → PN → Option (Nat × PN)) : Nat → Nat → Nat → Nat → List Nat → PN → Option (Nat × PN)
  | 0, _, _, _, _, _ => none
  | F + 1, i, e, use, st, C => if e ≤ i then some (0, C) else match ln i use st C with
    | none => none
    | some r => if r.1 = 0 then (if L 1 i = 8 then (match rc (r.2 2 (nT (L 2 i))) (r.2 3 (nT (L 2 i))) (r.2 0 2 + 1) (nT (L 2 i) :: st) (un r.2 0 2 (r.2 0 2 + 1)) with
        | none => none
        | some q => if q.1 = 0 then gL L ln rc F (i + 1) e use st q.2 else some q)
      else gL L ln rc F (if L 1 i = 6 then r.2 3 (nT (L 2 i)) + 1 else i + 1) e use st r.2) else some r
def gT (L : AI) (ln : Nat → Nat → List Nat → PN → Option (Nat × PN)) : Nat → Nat → Nat → Nat → List Nat → PN → Option (Nat × PN)
  | 0 => fun _ _ _ _ _ => none
  | k + 1 => fun i e use st C => gL L ln (gT L ln k) 101 i e use st C
/-- what holds of all that is known on the way -/
def asW (n : Nat) (L : AI) (p : Nat) (C : PN) : Prop :=
  (C 0 0 ≤ 1 ∧ C 0 2 ≤ C 0 1 ∧ C 0 1 ≤ 300 ∧ C 1 0 + C 1 1 ≤ 248 ∧ C 8 0 ≤ 256) ∧
  (∀ q, q < 5 → (¬ C 2 q = 0 → C 2 q ≤ C 3 q ∧ C 3 q < n ∧ C 9 q = C 2 q ∧ C 10 q = C 3 q ∧ ∀ j, C 2 q ≤ j → j < C 3 q → ¬ L 1 j = 6 ∧ ¬ L 1 j = 7) ∧ (p = 0 → C 2 q = 0 → C 9 q = 0)) ∧
  (∀ s, (C 4 s ≤ 249 ∧ C 11 s ≤ 1) ∧ (C 5 s ≤ 65536 ∧ C 6 s ≤ 65536) ∧ C 7 s ≤ 65535)
/-- the class's rows -/
def asK (S p : Nat) (st : List Nat) (C : PN) (I : AI) : Prop :=
  (I S 12 = Int32.ofNat p ∧ I S 14 = Int32.ofNat (C 0 2) ∧ I S 15 = Int32.ofNat (C 0 0) ∧ (p = 0 → I S 13 = Int32.ofNat (C 0 1))) ∧
  (∀ q, q < 2 → I (S + 10) q = Int32.ofNat (C 1 q)) ∧
  (∀ q, q < 5 → I (S + 5) q = if q ∈ st then 1 else 0) ∧
  (∀ q, q < 5 → (C 9 q = 0 → I (S + 3) q = Int32.ofInt (-1)) ∧ (¬ C 9 q = 0 → I (S + 3) q = Int32.ofNat (C 9 q - 1) ∧ I (S + 4) q = Int32.ofNat (C 10 q))) ∧
  (∀ s, s < 1220 → (C 4 s = 0 → I (S + 7) s = Int32.ofInt (-1)) ∧ (¬ C 4 s = 0 → I (S + 7) s = Int32.ofNat (C 4 s - 1) ∧ I (S + 6) s = Int32.ofNat (C 11 s))) ∧
  (p = 1 → (∀ u, u < 301 → (¬ C 5 u = 0 → I (S + 8) u = Int32.ofNat (C 5 u - 1)) ∧ (¬ C 6 u = 0 → I (S + 9) u = Int32.ofNat (C 6 u - 1))) ∧ (∀ q, q < 256 → I (S + 1) q = Int32.ofNat (C 7 q)) ∧ I (S + 11) 0 = 8 ∧ I (S + 11) 1 = Int32.ofNat (C 8 0))
/-- what the class leaves -/
def asF (S : Nat) (I J : AI) : Prop := (∀ b, ¬ (b = S ∨ b = S + 1 ∨ (S + 3 ≤ b ∧ b < S + 12)) → J b = I b) ∧ (∀ j, j ≤ 12 → J S j = I S j)
theorem asF.refl {S : Nat} {I : AI} : asF S I I := ⟨fun _ _ => rfl, fun _ _ => rfl⟩
theorem asF.trans {S : Nat} {I J Q : AI} (h : asF S I J) (h2 : asF S J Q) : asF S I Q := ⟨fun b hb => (h2.1 b hb).trans (h.1 b hb), fun j hj => (h2.2 j hj).trans (h.2 j hj)⟩
theorem asF.upS {S j : Nat} {I : AI} {v : Int32} (h : 12 < j) : asF S I (up2 I S j v) := ⟨fun b hb => up2_b (by omega), fun k hk => up2_ne (by omega)⟩
theorem asF.up {S b j : Nat} {I : AI} {v : Int32} (h : b = S + 1 ∨ (S + 3 ≤ b ∧ b < S + 12)) : asF S I (up2 I b j v) := ⟨fun c hc => up2_b (by omega), fun k hk => up2_ne (by omega)⟩
