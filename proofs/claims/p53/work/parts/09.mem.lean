/-! instructions that touch cells, one by one -/
section AMEM
variable {p : Program} {l : Launch} {e : Env} {R : Room} {s : State} {m : MethodId} {args : Array Value} {below : List Frame} {meth : Method} {c : Code} {D : AG} {A : Nat → Prop} {Q : State → Prop} {cc : ByteArray} {pc : Nat} {H H0 : Heap} {locs : List Loc} {ls : Array Slot} {cells slots : Nat} {own : String} {M : AMem} {z : Option Nat} {r : List Value} {a idx ci k N : Nat} {C : String} {T : u_T} {f : AEnt} {v : Value}
theorem am_getf (hx : p.tables.exec = Jvm.exec) (hb : c.code = cc) (hts : ∀ w ∈ aTB, w.before args s = true) (hown : s.vm.findClass own = some m.cls) (hK : aKn D s) (hc : vwCl[ci]? = some (C, T, N)) (hk : k < N) (hci : ci < 100) (hlink : Cond.fieldLink own idx C (T k).2.1 (T k).2.2.1 ∈ aTB) (hC : (T k).1 = C) (hin : ∀ w ∈ u_ws C T N, w ∈ aTB)
    (hat : aAt D a f H) (he : f.1 = ci) (hd : decode cc pc = .ok (.getfield idx, 3)) (kk : W p l e R s m args below meth c H locs cells slots Q (F0 m (pc + 3) ls (f.2.2 k :: r))) : W p l e R s m args below meth c H locs cells slots Q (F0 m pc ls (.ref a :: r)) := by
  subst he
  rcases hat with ⟨-, q, h1, cell, q1, q2, q3, q4⟩ | ⟨h100, -⟩
  · have hr : q = (C, T, N) := Option.some.inj (h1.symm.trans hc)
    subst hr
    obtain ⟨hS, hfc, kC, hkC, hkind⟩ := hK.1 f.1 _ hc
    obtain ⟨cf, kf, fi, g, hi, hsl⟩ := hS k hk
    refine W.getf hx hb hown (hts _ hlink) (by rw [← hC]; exact hi) (u_facts hfc hkC (u_lays hts hin hk) hi).1 q1 (by rw [q3]; exact fun h => by cases h) (v := f.2.2 k) ?_ rfl rfl hd kk
    rw [hsl, q4 k hk]
  · omega
theorem am_apart (own : String) (hts : ∀ w ∈ aTB, w.before args s = true) (hK : aKn D s) (hc : vwCl[ci]? = some (C, T, N)) (hin : ∀ w ∈ u_ws C T N, w ∈ aTB) (ty : Nat → FieldType) (hty : ∀ k, k < N → parseFieldDescriptor (T k).2.2.1 = some (ty k)) (hnm : ∀ a, a < N → ∀ b, b < N → a ≠ b → (T a).2.1 ≠ (T b).2.1) : ∀ x y, x < N → y < N → x ≠ y → (D.1.2 ci) x ≠ (D.1.2 ci) y :=
  va_apart (own := own) (cl := vwCl) (D := D.1) (tys := []) hts hin ty hty hnm ⟨hK.1, fun k q h => by simp at h⟩ hc
theorem aAt.obj (hat : aAt D a f H) (hc : vwCl[f.1]? = some (C, T, N)) (h100 : f.1 < 100) : t_OB a (D.1.1 f.1) N (D.1.2 f.1) H f.2.2 := by
  rcases hat with ⟨-, q, h1, h2⟩ | ⟨h, -⟩
  · have hr : q = (C, T, N) := Option.some.inj (h1.symm.trans hc)
    subst hr
    exact h2
  · omega
theorem am_putf (hx : p.tables.exec = Jvm.exec) (hb : c.code = cc) (hts : ∀ w ∈ aTB, w.before args s = true) (hown : s.vm.findClass own = some m.cls) (hK : aKn D s) (hc : vwCl[ci]? = some (C, T, N)) (hk : k < N) (hci : ci < 100) (hlink : Cond.fieldLink own idx C (T k).2.1 (T k).2.2.1 ∈ aTB) (hC : (T k).1 = C) (hin : ∀ w ∈ u_ws C T N, w ∈ aTB)
    (ty : Nat → FieldType) (hty : ∀ k, k < N → parseFieldDescriptor (T k).2.2.1 = some (ty k)) (hnm : ∀ a, a < N → ∀ b, b < N → a ≠ b → (T a).2.1 ≠ (T b).2.1)
    (hfin : (T k).2.2.2 = false ∨ (meth.name = "<init>" ∧ C = own)) (hn : narrow (ty k) v = v) (hfit : fits (ty k) v = true)
    (hR : aR D A H0 (M, (z, (cells, slots))) H locs) (hM : M a = some f) (he : f.1 = ci) (hd : decode cc pc = .ok (.putfield idx, 3))
    (kk : ∀ (H1 : Heap) (locs1 : List Loc), aR D A H0 (aMw M a (ci, (f.2.1, updV f.2.2 k v)), (z, (cells, slots))) H1 locs1 → W p l e R s m args below meth c H1 locs1 cells slots Q (F0 m (pc + 3) ls r)) : W p l e R s m args below meth c H locs cells slots Q (F0 m pc ls (v :: .ref a :: r)) := by
  subst he
  obtain ⟨hH, hI, hS0, hz⟩ := hR
  have hat := hH a f hM
  obtain ⟨cell, q1, q2, q3, q4⟩ := hat.obj hc hci
  have hap := am_apart own hts hK hc hin ty hty hnm
  obtain ⟨hS, hfc, kC, hkC, hkind⟩ := hK.1 f.1 _ hc
  obtain ⟨cf, kf, fi, g, hi, hsl⟩ := hS k hk
  have hst := (u_facts hfc hkC (u_lays hts hin hk) hi).1
  have fin : ∀ (H' : Heap), H'[a]? = some (cell.setSlot g.slot v) → H'.size = H.size → (∀ q : Nat, q ≠ a → H'[q]? = H[q]?) → W p l e R s m args below meth c H' (locs ++ [⟨a, g.slot⟩]) cells slots Q (F0 m (pc + 3) ls r) := by
    intro H' e1 e2 e3
    rw [hsl] at e1 ⊢
    refine kk H' _ ⟨hH.put ?_ e3, hI.put (hI a f hM), hS0.put e2 e3 (hI a f hM), fun n hn => by rw [e2]; exact hz n hn⟩
    exact Or.inl ⟨hci, _, hc, ⟨_, e1, q2, q3, t_set q4 hap hk v⟩⟩
  by_cases hf : (T k).2.2.2 = true
  · obtain ⟨hin2, hown2⟩ := hfin.resolve_left (by rw [hf]; decide)
    have hlay := hts _ (hin _ (u_in_lay hk))
    unfold u_lay at hlay
    rw [if_pos hf] at hlay
    have hcf : m.cls = cf := by
      obtain ⟨_, _, c', _, _, _, -, -, hf', -, -, -, hown3, -⟩ := Cond.laysFinal_spec hlay
      have e1 : c' = cf := by have := hi.symm.trans hf'; simp at this; exact this.1.symm
      rw [hC, hown2] at hown3
      rw [← e1]; exact Option.some.inj (hown.symm.trans hown3)
    have h6 := u_fits hfc hkC hkind (Or.inr hlay) hi (hty k hk) hn hfit
    exact W.putFinK hx hb hown (hts _ hlink) (by rw [← hC]; exact hi) hst hcf hin2 (by rw [q2]; exact h6) q1 q3 (by rw [hsl]; exact k2_hasslot (q4 k hk)) rfl rfl hd fin
  · have hlay := hts _ (hin _ (u_in_lay hk))
    unfold u_lay at hlay
    rw [if_neg hf] at hlay
    have h6 := u_store hfc hkC hkind hlay hi (hty k hk) hn hfit
    exact W.putK hx hb (f := g) ⟨hown, hts _ hlink, ⟨_, _, _, by rw [← hC]; exact hi⟩, hst⟩ (by rw [q2]; exact h6) q1 q3 (by rw [hsl]; exact k2_hasslot (q4 k hk)) rfl rfl hd fin
theorem aAt.arr (hat : aAt D a f H) (h100 : 100 ≤ f.1) : H[a]? = some (arrV (D.2.1 (f.1 - 100)) f.2.1 f.2.2) ∧ (f.1 = 100 → ∀ j, ∃ x : Int32, f.2.2 j = .int x) := by
  rcases hat with ⟨h, -⟩ | ⟨-, h⟩
  · omega
  · exact h
theorem am_ald (hx : p.tables.exec = Jvm.exec) (hb : c.code = cc) (hK : aKn D s) {i : Int32} {ins : Instr} (hat : aAt D a f H) (hin : ¬ (i < 0 ∨ f.2.1 ≤ i.toNatClampNeg)) (hi : (ins = .iaload ∧ f.1 = 100) ∨ (ins = .baload ∧ f.1 = 101) ∨ (ins = .aaload ∧ 103 ≤ f.1 ∧ f.1 ≤ 105)) (hd : decode cc pc = .ok (ins, 1))
    (kk : W p l e R s m args below meth c H locs cells slots Q (F0 m (pc + 1) ls (f.2.2 i.toNatClampNeg :: r))) : W p l e R s m args below meth c H locs cells slots Q (F0 m pc ls (.int i :: .ref a :: r)) := by
  have h100 : 100 ≤ f.1 := by omega
  obtain ⟨hc, -⟩ := hat.arr h100
  have hlt : i.toNatClampNeg < f.2.1 := Nat.not_le.mp fun q => hin (Or.inr q)
  have hkn : (arrV (D.2.1 (f.1 - 100)) f.2.1 f.2.2).vm ≠ .unknown := fun q => by cases q
  have hin' : ¬ (i < 0 ∨ (arrV (D.2.1 (f.1 - 100)) f.2.1 f.2.2).slots.size ≤ i.toNatClampNeg) := by rw [arrV_size]; exact hin
  have hv : (arrV (D.2.1 (f.1 - 100)) f.2.1 f.2.2).slots[i.toNatClampNeg]? = some (f.2.2 i.toNatClampNeg) := arrV_read _ _ hlt
  rcases hi with ⟨rfl, h1⟩ | ⟨rfl, h1⟩ | ⟨rfl, h1, h2⟩
  · exact W.iald hx hb hc ((hK.2 (f.1 - 100) .int (by rw [h1]; rfl)).1 _ _) hkn hin' hv rfl rfl hd kk
  · exact W.zald hx hb hc ((hK.2 (f.1 - 100) .boolean (by rw [h1]; rfl)).1 _ _) hkn hin' hv rfl rfl hd kk
  · have h3 : f.1 = 103 ∨ f.1 = 104 ∨ f.1 = 105 := by omega
    rcases h3 with h3 | h3 | h3
    · exact W.aald hx hb hc ((hK.2 (f.1 - 100) (.object "KernelGym$Kept") (by rw [h3]; rfl)).1 _ _) rfl hkn hin' hv rfl rfl hd kk
    · exact W.aald hx hb hc ((hK.2 (f.1 - 100) (.object "KernelGym$Line") (by rw [h3]; rfl)).1 _ _) rfl hkn hin' hv rfl rfl hd kk
    · exact W.aald hx hb hc ((hK.2 (f.1 - 100) (.object "KernelGym$Trial") (by rw [h3]; rfl)).1 _ _) rfl hkn hin' hv rfl rfl hd kk
theorem am_alen (hx : p.tables.exec = Jvm.exec) (hb : c.code = cc) (hK : aKn D s) (hat : aAt D a f H) (h1 : 100 ≤ f.1) (h2 : f.1 ≤ 105) (hd : decode cc pc = .ok (.arraylength, 1))
    (kk : W p l e R s m args below meth c H locs cells slots Q (F0 m (pc + 1) ls (.int (Int32.ofNat f.2.1) :: r))) : W p l e R s m args below meth c H locs cells slots Q (F0 m pc ls (.ref a :: r)) := by
  obtain ⟨hc, -⟩ := hat.arr h1
  obtain ⟨ty, hty⟩ : ∃ ty, aTys[f.1 - 100]? = some ty := by
    have h3 : f.1 = 100 ∨ f.1 = 101 ∨ f.1 = 102 ∨ f.1 = 103 ∨ f.1 = 104 ∨ f.1 = 105 := by omega
    rcases h3 with h3 | h3 | h3 | h3 | h3 | h3 <;> exact ⟨_, by rw [h3]; rfl⟩
  exact W.alen (n := Int32.ofNat f.2.1) hx hb hc ((hK.2 (f.1 - 100) ty hty).1 _ _) (by rw [arrV_size]) rfl rfl hd kk
theorem am_ast (hx : p.tables.exec = Jvm.exec) (hb : c.code = cc) (hK : aKn D s) {i x : Int32} {ins : Instr} (hR : aR D A H0 (M, (z, (cells, slots))) H locs) (hM : M a = some f) (hin : ¬ (i < 0 ∨ f.2.1 ≤ i.toNatClampNeg)) (hi : (ins = .iastore ∧ f.1 = 100) ∨ (ins = .bastore ∧ f.1 = 101 ∧ narrow .boolean (.int x) = .int x)) (hd : decode cc pc = .ok (ins, 1))
    (kk : ∀ (H1 : Heap) (locs1 : List Loc), aR D A H0 (aMw M a (f.1, (f.2.1, updV f.2.2 i.toNatClampNeg (.int x))), (z, (cells, slots))) H1 locs1 → W p l e R s m args below meth c H1 locs1 cells slots Q (F0 m (pc + 1) ls r)) : W p l e R s m args below meth c H locs cells slots Q (F0 m pc ls (.int x :: .int i :: .ref a :: r)) := by
  obtain ⟨hH, hI, hS0, hz⟩ := hR
  have h100 : 100 ≤ f.1 := by omega
  obtain ⟨hc, hint⟩ := (hH a f hM).arr h100
  have hkn : (arrV (D.2.1 (f.1 - 100)) f.2.1 f.2.2).vm ≠ .unknown := fun q => by cases q
  have hin' : ¬ (i < 0 ∨ (arrV (D.2.1 (f.1 - 100)) f.2.1 f.2.2).slots.size ≤ i.toNatClampNeg) := by rw [arrV_size]; exact hin
  have fin : ∀ (H' : Heap), H'[a]? = some ((arrV (D.2.1 (f.1 - 100)) f.2.1 f.2.2).setSlot i.toNatClampNeg (.int x)) → H'.size = H.size → (∀ q : Nat, q ≠ a → H'[q]? = H[q]?) → W p l e R s m args below meth c H' (locs ++ [⟨a, i.toNatClampNeg⟩]) cells slots Q (F0 m (pc + 1) ls r) := by
    intro H' e1 e2 e3
    refine kk H' _ ⟨hH.put ?_ e3, hI.put (hI a f hM), hS0.put e2 e3 (hI a f hM), fun n hn => by rw [e2]; exact hz n hn⟩
    refine Or.inr ⟨h100, by rw [e1, arrV_store], fun h j => ?_⟩
    by_cases hj : j = i.toNatClampNeg
    · exact ⟨x, by simp only [updV, if_pos hj]⟩
    · obtain ⟨y, hy⟩ := hint h j
      exact ⟨y, by simp only [updV, if_neg hj]; exact hy⟩
  rcases hi with ⟨rfl, h1⟩ | ⟨rfl, h1, hn⟩
  · exact W.iast hx hb hc ((hK.2 (f.1 - 100) .int (by rw [h1]; rfl)).1 _ _) hkn hin' rfl rfl hd fin
  · exact W.zast hx hb hc ((hK.2 (f.1 - 100) .boolean (by rw [h1]; rfl)).1 _ _) hkn hin' rfl rfl hd (by rw [hn]; exact fin)
end AMEM
