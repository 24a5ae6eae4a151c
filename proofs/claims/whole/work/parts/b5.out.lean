/-! what a call does, in class and model -/
def OUT (g m : Nat) (es : List Nat) (I J : AI) (cls : Option ((Int32 ⊕ String) × AI)) (mdl : Option (Int32 × AI)) : Prop := ∃ th v y I' J', th ≤ es.length ∧ cls = some (rx es th v, I') ∧ mdl = some (y, J') ∧ (th = 0 → y = v) ∧ J' m 0 = Int32.ofNat th ∧ frG g I I' ∧ frH m J J' ∧ MIr g m I' J'
def OUQ (g m : Nat) (I J : AI) (cls mdl : Option (Int32 × AI)) : Prop := ∃ v I' J', cls = some (v, I') ∧ mdl = some (v, J') ∧ frG g I I' ∧ frH m J J' ∧ MIr g m I' J'
/-- what a call may take as given -/
def miE (kad : Nat → Nat) (N : Nat) (Z : AZ) (g m : Nat) : Prop := 2000 ≤ N ∧ sh10 kad Z g ∧ sh11 kad Z m ∧ Z.1 (kad 9) = none ∧ (∀ j, j < 200 → Z.2.1 (g + 114) 7 (Z.2.2 (g + 114) 7 (g + (182 + 9 * j))) = g + (182 + 9 * j)) ∧ Z.2.1 (g + 143) 7 (Z.2.2 (g + 143) 7 (g + 169)) = g + 169
section OU
variable {kad : Nat → Nat} {N : Nat} {Z : AZ} {g m : Nat} {I J I' J' : AI} {es : List Nat} {cls : Option ((Int32 ⊕ String) × AI)} {mdl cq : Option (Int32 × AI)} {v y i j a b c d e : Int32}
theorem OUQ.q (H : MIr g m I J) (e1 : cq = some (v, I)) (e2 : mdl = some (v, up2 J m 0 0)) : OUQ g m I J cq mdl := ⟨v, I, _, e1, e2, frG.refl, frH.up (by omega), H.th⟩
theorem OUT.q (H : MIr g m I J) {th : Nat} (h : th ≤ es.length) (e1 : cls = some (rx es th v, I)) (e2 : mdl = some (y, up2 J m 0 (Int32.ofNat th))) (h0 : th = 0 → y = v) : OUT g m es I J cls mdl := ⟨th, v, y, I, _, h, e1, e2, h0, up2_eq, frG.refl, frH.up (by omega), H.th⟩
/-- a bound that is kept or not -/
theorem OUT.bd (H : MIr g m I J) {P : Prop} [Decidable P] (h : 1 ≤ es.length) (e1 : cls = some (rx es (if P then 1 else 0) v, I)) (e2 : mdl = some (if P then (0, up2 J m 0 1) else (v, up2 J m 0 0))) : OUT g m es I J cls mdl := by
  by_cases hP : P
  · rw [if_pos hP] at e1 e2
    exact OUT.q H (th := 1) h e1 e2 (fun hh => absurd hh (by decide))
  · rw [if_neg hP] at e1 e2
    exact OUT.q H (th := 0) (Nat.zero_le _) e1 e2 (fun _ => rfl)
/-- the machine, on or off -/
theorem MIr.mX (H : MIr g m I J) : ∃ X, RM (g + 114) I X ∧ ML m J X ∧ (∃ t, X 1 12 = Int32.ofNat t ∧ t ≤ 60) ∧ SW X ∧ LW (X 9) ∧ J m 40 = I g 5 := by
  rcases H.2.2.1 with ⟨q, K, D, W, a1, a2, a3, a4⟩ | ⟨q, K, M, D, W, s, kc, a1, a2, ⟨a3, a4⟩, a5, a6⟩
  · exact ⟨_, a3.1, a4.1, ⟨0, rfl, by decide⟩, off_sw a2.lw2.1, a2.lw2, a4.2.trans a3.2.symm⟩
  · have hi := a2.1.1.trj s
    obtain ⟨t, h1, h2, -⟩ := hi.1.1.2.1.2.1
    exact ⟨_, a3.1, a5.1, ⟨t, h1, h2⟩, hi.sw (by have := a2.2.1; omega), hi.1.2.lw2, a5.2.2.trans a3.2.1.symm⟩
theorem O150 (H : MIr g m I J) : OUQ g m I J (f150 kad N Z g I) (f266 kad N Z m J) := by
  obtain ⟨X, h1, h2, -⟩ := H.mX
  exact OUQ.q H (K150 h1) (M266 h2)
theorem O151 (H : MIr g m I J) : OUQ g m I J (f151 kad N Z g I) (f267 kad N Z m J) := by
  obtain ⟨X, h1, h2, -⟩ := H.mX
  exact OUQ.q H (K151 h1) (M267 h2)
theorem O152 (H : MIr g m I J) : OUQ g m I J (f152 kad N Z g I) (f268 kad N Z m J) := by
  obtain ⟨X, h1, h2, -⟩ := H.mX
  exact OUQ.q H (K152 h1) (M268 h2)
theorem O153 (H : MIr g m I J) : OUQ g m I J (f153 kad N Z g I) (f269 kad N Z m J) := by
  obtain ⟨X, h1, h2, -, -, -, h5⟩ := H.mX
  exact OUQ.q H K153 (by rw [M269, h5])
theorem O154 (H : MIr g m I J) : OUQ g m I J (f154 kad N Z g I) (f270 kad N Z m J) := by
  obtain ⟨X, h1, h2, -⟩ := H.mX
  exact OUQ.q H (K154 h1) (M270 h2)
theorem O155 (H : MIr g m I J) : OUQ g m I J (f155 kad N Z g I) (f271 kad N Z m J) := by
  obtain ⟨X, h1, h2, -⟩ := H.mX
  exact OUQ.q H (K155 h1) (M271 h2)
theorem O156 (H : MIr g m I J) : OUQ g m I J (f156 kad N Z g I) (f273 kad N Z m J) := by
  obtain ⟨X, h1, h2, -⟩ := H.mX
  exact OUQ.q H (K156 h1) (M273 h2)
theorem O157 (H : MIr g m I J) : OUQ g m I J (f157 kad N Z g I) (f274 kad N Z m J) := by
  obtain ⟨X, h1, h2, -⟩ := H.mX
  exact OUQ.q H (K157 h1) (M274 h2)
theorem O158 (H : MIr g m I J) : OUT g m [0] I J (f158 kad N Z g i I) (f275 kad N Z m i J) := by
  obtain ⟨X, h1, h2, -⟩ := H.mX
  exact OUT.bd H (by decide) (K158 h1 i) (M275 h2 i)
theorem O159 (H : MIr g m I J) : OUT g m [0] I J (f159 kad N Z g i I) (f277 kad N Z m i J) := by
  obtain ⟨X, h1, h2, -⟩ := H.mX
  exact OUT.bd H (by decide) (K159 h1 i) (M277 h2 i)
theorem O160 (hE : miE kad N Z g m) (H : MIr g m I J) : OUT g m [0] I J (f160 kad N Z g i I) (f278 kad N Z m i J) := by
  rcases H.2.2.1 with ⟨q, K, D, W, a1, a2, a3, a4⟩ | ⟨q, K, M, D, W, s, kc, a1, a2, ⟨a3, a4⟩, a5, a6⟩
  · exact OUT.bd H (by decide) (K160_off hE.1 a3.1 rfl a3.2 i) (M278_off hE.1 a4.1 rfl a4.2 i)
  · exact OUT.bd H (by decide) (K160_on hE.1 a2 a3 i) (M278_on hE.1 a2 a5 i)
theorem O161 (H : MIr g m I J) : OUQ g m I J (f161 kad N Z g I) (f279 kad N Z m J) := by
  obtain ⟨X, h1, h2, -⟩ := H.mX
  exact OUQ.q H (K161 h1) (M279 h2)
theorem O162 (H : MIr g m I J) : OUT g m [2] I J (f162 kad N Z g i I) (f280 kad N Z m i J) := by
  obtain ⟨X, h1, h2, ⟨t, h3, h4⟩, -⟩ := H.mX
  exact OUT.bd H (by decide) (K162 h1 h3 h4 i) (M280 h2 h3 h4 i)
theorem O163 (hE : miE kad N Z g m) (H : MIr g m I J) : OUQ g m I J (f163 kad N Z g I) (f283 kad N Z m J) := by
  obtain ⟨X, h1, h2, -, h3, -⟩ := H.mX
  exact OUQ.q H (K163 hE.1 hE.2.1 h1 h3) (M283 hE.1 h2 h3)
theorem O168 (H : MIr g m I J) : OUQ g m I J (f168 kad N Z g I) (f286 kad N Z m J) := by
  obtain ⟨X, h1, h2, -⟩ := H.mX
  exact OUQ.q H (K168 h1) (M286 h2)
theorem O169 (H : MIr g m I J) : OUT g m [0] I J (f169 kad N Z g i j I) (f287 kad N Z m i j J) := by
  obtain ⟨X, h1, h2, -⟩ := H.mX
  exact OUT.bd H (by decide) (K169 h1 i j) (M287 h2 i j)
theorem O170 (hE : miE kad N Z g m) (H : MIr g m I J) : OUQ g m I J (f170 kad N Z g I) (f288 kad N Z m J) := by
  obtain ⟨X, h1, h2, -⟩ := H.mX
  exact OUQ.q H (K170 hE.1 h1) (M288 hE.1 h2)
theorem O171 (hE : miE kad N Z g m) (H : MIr g m I J) : OUT g m [0, 3] I J (f171 kad N Z g i I) (f290 kad N Z m i J) := by
  obtain ⟨X, h1, h2, -⟩ := H.mX
  have e1 := K171 (kad := kad) (Z := Z) hE.1 h1 i
  have e2 := M290 (kad := kad) hE.1 (sh11_a50 hE.2.2.1) h2 i
  by_cases hb : i < 1 ∨ 65535 < i
  · rw [if_pos hb] at e1 e2
    exact OUT.q H (th := 1) (by decide) e1 e2 (fun hh => absurd hh (by decide))
  · rw [if_neg hb] at e1 e2
    by_cases hf : sFind (X 9) i 7 0 < 6
    · rw [if_pos hf] at e1 e2
      exact OUT.q H (th := 0) (by decide) e1 e2 (fun _ => rfl)
    · rw [if_neg hf] at e1 e2
      exact OUT.q H (th := 2) (by decide) e1 e2 (fun hh => absurd hh (by decide))
theorem O172 (hE : miE kad N Z g m) (H : MIr g m I J) : OUT g m [0, 3, 2] I J (f172 kad N Z g i j I) (f291 kad N Z m i j J) := by
  obtain ⟨X, h1, h2, -, -, hw, -⟩ := H.mX
  have e1 := K172 (kad := kad) (Z := Z) hE.1 h1 hw i j
  have e2 := M291 (kad := kad) hE.1 (sh11_a50 hE.2.2.1) h2 hw i j
  by_cases hb : i < 1 ∨ 65535 < i
  · rw [if_pos hb] at e1 e2
    exact OUT.q H (th := 1) (by decide) e1 e2 (fun hh => absurd hh (by decide))
  · rw [if_neg hb] at e1 e2
    by_cases hf : sFind (X 9) i 7 0 < 6
    · rw [if_pos hf] at e1 e2
      by_cases hp : j < 0 ∨ X 9 (40 + 4 * sFind (X 9) i 7 0 + 1) ≤ j
      · rw [if_pos hp] at e1 e2
        exact OUT.q H (th := 3) (by decide) e1 e2 (fun hh => absurd hh (by decide))
      · rw [if_neg hp] at e1 e2
        exact OUT.q H (th := 0) (by decide) e1 e2 (fun _ => rfl)
    · rw [if_neg hf] at e1 e2
      exact OUT.q H (th := 2) (by decide) e1 e2 (fun hh => absurd hh (by decide))
theorem O173 (hE : miE kad N Z g m) (H : MIr g m I J) : OUQ g m I J (f173 kad N Z g I) (f292 kad N Z m J) := by
  obtain ⟨X, h1, h2, -, -, hw, -⟩ := H.mX
  exact OUQ.q H (K173 hE.1 h1 hw.1) (M292' hE.1 (sh11_a50 hE.2.2.1) h2)
theorem O174 (hE : miE kad N Z g m) (H : MIr g m I J) : OUQ g m I J (f174 kad N Z g I) (f295 kad N Z m J) := by
  obtain ⟨X, h1, h2, -, -, hw, -⟩ := H.mX
  obtain ⟨r, e1, e2, e3⟩ := K174 (kad := kad) (Z := Z) hE.1 h1 (fun _ => hw)
  obtain ⟨r', f1, f2, f3⟩ := M295 (kad := kad) hE.1 (sh11_a50 hE.2.2.1) h2 (fun _ => hw)
  by_cases hh : isWh (X 9)
  · rw [e2 hh] at e1
    rw [f2 hh] at f1
    exact OUQ.q H e1 f1
  · rw [e3 hh] at e1
    rw [f3 hh] at f1
    exact OUQ.q H e1 f1
end OU
