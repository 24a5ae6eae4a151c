/-! a line is added, in both -/
def ADD (es : List Nat) (g m : Nat) (I J : AI) (cls : Option ((Int32 ⊕ String) × AI)) (mdl : Option (Int32 × AI)) : Prop := ∃ th v n' L', th ≤ es.length ∧ LI n' L' ∧ Ok cls (fun x I' => x = rx es th v ∧ CSr n' (g + 1) L' I' ∧ frCL g I I') ∧ Ok mdl (fun x J' => (th = 0 → x = v) ∧ MSr n' m L' J' ∧ frML m (up2 J m 0 (Int32.ofNat th)) J')
section SD
variable {kad : Nat → Nat} {N : Nat} {Z : AZ} {g m n : Nat} {I J L : AI} {a b c d e f k : Int32}
theorem MSr.o (H : MSr n m L I) (h0 : J m 1 = I m 1) (h1 : J (m + 1) = I (m + 1)) (h2 : J (m + 2) = I (m + 2)) : MSr n m L J := by
  refine ⟨by rw [h0]; exact H.1, fun i hi => ?_⟩
  unfold MLn
  rw [h1, h2]
  exact H.2 i hi
theorem CSr.o (H : CSr n g L I) (h0 : J g 0 = I g 0) (h1 : ∀ i, i < n → J (g + (12 + i)) = I (g + (12 + i))) : CSr n g L J := by
  refine ⟨by rw [h0]; exact H.1, fun i hi => ?_⟩
  unfold CL
  rw [h1 i hi]
  exact H.2 i hi
theorem frCL.refl : frCL g I I := fun _ _ => rfl
theorem frML.refl : frML m I I := fun _ _ _ _ => rfl
theorem xB_id {o : Option ((Int32 ⊕ String) × AI)} : (o.bind fun r => xB r fun v I => some (.inl v, I)) = o := by
  cases o with
  | none => rfl
  | some z =>
    obtain ⟨z1, z2⟩ := z
    cases z1 <;> rfl
theorem K139 : f139 kad N Z k a I = some (if k < 0 ∨ 3 < k then .inr (aEC 0) else if a < 0 ∨ (if k = 1 then 19 else 65535) < a then .inr (aEC 0) else .inl (), I) := by
  unfold f139 f139_b20
  rw [K138, Option.bind_some]
  by_cases h : k < 0 ∨ 3 < k
  · rw [if_pos h, if_pos h]; rfl
  · rw [if_neg h, if_neg h]
    unfold xB
    dsimp only
    rw [K138, K138, Option.bind_some, Option.bind_some]
    by_cases h1 : k = 1
    · rw [if_neg (fun hh => hh h1), if_pos h1]
      by_cases h2 : a < 0 ∨ 19 < a
      · rw [if_pos h2]
      · rw [if_neg h2]
    · rw [if_pos h1, if_neg h1]
      by_cases h2 : a < 0 ∨ 65535 < a
      · rw [if_pos h2]
      · rw [if_neg h2]
theorem opOK_ne : ¬ opOK k a ↔ (k < 0 ∨ 3 < k) ∨ (a < 0 ∨ (if k = 1 then 19 else 65535) < a) := by
  unfold opOK
  constructor
  · intro h
    by_cases h1 : k < 0 ∨ 3 < k
    · exact Or.inl h1
    · refine Or.inr ?_
      by_cases h2 : a < 0 ∨ (if k = 1 then 19 else 65535) < a
      · exact h2
      · exact absurd ⟨h1, h2⟩ h
  · rintro (h | h) ⟨h1, h2⟩
    · exact h1 h
    · exact h2 h
theorem K139_n (h : ¬ opOK k a) : f139 kad N Z k a I = some (.inr (aEC 0), I) := by
  rw [K139]
  rcases opOK_ne.mp h with h1 | h1
  · rw [if_pos h1]
  · rw [if_pos h1, ite_self]
theorem K139_y (h : opOK k a) : f139 kad N Z k a I = some (.inl (), I) := by
  rw [K139, if_neg h.1, if_neg h.2]
theorem K141 {l : Nat} : f141 kad N Z g l a I = f142 kad N Z g l a 0 0 I := by
  unfold f141
  exact xB_id
theorem ADD_bad (hI : LI n L) (HC : CSr n (g + 1) L I) (HM : MSr n m L J) {es : List Nat} {th : Nat} (h0 : 0 < th) (h1 : th ≤ es.length) {x : Int32} : ADD es g m I J (some (.inr (aEC (es.getD (th - 1) 0)), I)) (some (x, up2 J m 0 (Int32.ofNat th))) := by
  refine ⟨th, 0, n, L, h1, hI, ⟨_, _, rfl, ?_, HC, frCL.refl⟩, ⟨_, _, rfl, fun hh => absurd hh (by omega), HM.o (up2_ne (by omega)) (up2_b (by omega)) (up2_b (by omega)), frML.refl⟩⟩
  unfold rx
  rw [if_neg (by omega)]
theorem LV_n {j : Int32} : LV (lAdd L n j a b d e f) n ↔ ((j = 0 ∧ ¬ bad a 0 1) ∨ (j = 1 ∧ ¬ bad a 0 19) ∨ (j = 2 ∧ ¬ bad a 0 65535 ∧ opOK b d) ∨ (j = 3 ∧ opOK b d) ∨ (j = 4 ∧ ¬ bad a 1 32) ∨ (j = 5 ∧ ¬ bad a 0 1 ∧ opOK b d) ∨ (j = 6 ∧ ¬ bad a 0 4) ∨ j = 7 ∨ (j = 8 ∧ ¬ bad a 0 4 ∧ opOK b d ∧ opOK e f)) := by
  unfold LV
  rw [lAdd_n, lAdd_n, lAdd_n, lAdd_n, lAdd_n, lAdd_n]
  exact Iff.rfl
theorem xB_r {α β : Type} {E : String} {k : α → AI → Option ((β ⊕ String) × AI)} : xB (.inr E, I) k = some (.inr E, I) := rfl
theorem xB_l {α β : Type} {v : α} {k : α → AI → Option ((β ⊕ String) × AI)} : xB (.inl v, I) k = k v I := rfl
theorem bindE {α : Type} {o : Option (α × AI)} : (o.bind fun r => some (r.1, r.2)) = o := by
  cases o <;> rfl
theorem t00 : (0 : Int32) = 0 := rfl
theorem t10 : ((1 : Int32) = 0) = False := eq_false (by decide)
theorem ADD_1 (hI : LI n L) (HC : CSr n (g + 1) L I) (HM : MSr n m L J) {x : Int32} : ADD [0, 1] g m I J (some (.inr (aEC 0), I)) (some (x, up2 J m 0 1)) := ADD_bad hI HC HM (es := [0, 1]) (th := 1) (by decide) (by decide)
theorem code_in {i d' s' : Int32} (h1 : ¬ (i < 0 ∨ 26 < i)) (h2 : ¬ (d' < 0 ∨ 3 < d')) (h3 : ¬ (s' < 0 ∨ 3 < s')) : ¬ bad (16 * i + 4 * d' + s') 0 65535 := by
  obtain ⟨i', hi, hi2⟩ : ∃ k : Nat, i = Int32.ofNat k ∧ k ≤ 26 := by
    obtain ⟨e, _, e2⟩ := in_nat (i := i) (a := 0) (b := 26) h1 (by decide) (by decide)
    exact ⟨_, e, e2⟩
  obtain ⟨dd, hd, hd2⟩ : ∃ k : Nat, d' = Int32.ofNat k ∧ k ≤ 3 := by
    obtain ⟨e, _, e2⟩ := in_nat (i := d') (a := 0) (b := 3) h2 (by decide) (by decide)
    exact ⟨_, e, e2⟩
  obtain ⟨ss, hs, hs2⟩ : ∃ k : Nat, s' = Int32.ofNat k ∧ k ≤ 3 := by
    obtain ⟨e, _, e2⟩ := in_nat (i := s') (a := 0) (b := 3) h3 (by decide) (by decide)
    exact ⟨_, e, e2⟩
  have e : 16 * i + 4 * d' + s' = Int32.ofNat (16 * i' + 4 * dd + ss) := by
    rw [hi, hd, hs, show (16 : Int32) = Int32.ofNat 16 from rfl, show (4 : Int32) = Int32.ofNat 4 from rfl, eM, eM, eA, eA]
  unfold bad
  rw [e]
  rintro (h | h)
  · exact of_nn (by omega) h
  · have := (of_lt (m := 65535) (by decide) (by omega)).mp h
    omega
theorem K3 (hn : n < 100) (H : CSr (n + 1) g (lAdd L n 8 a b c 0 0) I) : f3 kad N Z g e f I = some ((), up2 (up2 I (g + (12 + n)) 4 e) (g + (12 + n)) 5 f) ∧ CSr (n + 1) g (lAdd L n 8 a b c e f) (up2 (up2 I (g + (12 + n)) 4 e) (g + (12 + n)) 5 f) := by
  constructor
  · unfold f3 f3_b38
    rw [H.1, if_neg (show ¬ Int32.ofNat (n + 1) ≤ 0 from fun h => by
      have := (of_le (n := 0) (by omega) (by decide)).mp h
      omega), if_neg (show ¬ (100 : Int32) < Int32.ofNat (n + 1) from fun h => by
      have := (of_lt (m := 100) (by decide) (by omega)).mp h
      omega), sub1 rfl, ixA_of hn, Option.bind_some, wI_ok, Option.bind_some, wI_ok, Option.bind_some]
  · refine ⟨by rw [up2_b (by omega), up2_b (by omega)]; exact H.1, fun i hi => ?_⟩
    have := H.2 i hi
    unfold CL at this ⊢
    by_cases ei : i = n
    · rw [ei, lAdd_n, lAdd_n, lAdd_n, lAdd_n, lAdd_n, lAdd_n] at this ⊢
      obtain ⟨⟨t1, t2⟩, ⟨t3, t4⟩, t5, t6⟩ := this
      refine ⟨⟨?_, ?_⟩, ⟨?_, ?_⟩, ?_, ?_⟩
      · rw [up2_ne (by omega), up2_ne (by omega)]; exact t1
      · rw [up2_ne (by omega), up2_ne (by omega)]; exact t2
      · rw [up2_ne (by omega), up2_ne (by omega)]; exact t3
      · rw [up2_ne (by omega), up2_ne (by omega)]; exact t4
      · rw [up2_ne (by omega), up2_eq]; rfl
      · rw [up2_eq]; rfl
    · rw [lAdd_o ei, lAdd_o ei, lAdd_o ei, lAdd_o ei, lAdd_o ei, lAdd_o ei] at this ⊢
      rw [up2_b (by omega), up2_b (by omega)]
      exact this
end SD
