/-! the other instructions, as a function -/
def aKj (kad : Nat → Nat) (q : Nat) : Option Nat := (List.range 9).find? (fun j => decide (kad j = q))
theorem aKj_eq {kad : Nat → Nat} {q j : Nat} (h : aKj kad q = some j) : j < 9 ∧ kad j = q :=
  ⟨List.mem_range.mp (List.mem_of_find?_eq_some h), of_decide_eq_true (List.find?_some (p := fun j => decide (kad j = q)) h)⟩
abbrev aCat (r : List Value) : Prop := (r.map fun v => v.category).sum ≤ 8
def aMx (f : AFr) (S : ASt) : Option (AFr × ASt) := match f.2.2 with
  | .int w :: .int x :: r => if aCat r then some ((f.1 + 3, (f.2.1, .int (if x < w then w else x) :: r)), S) else none
  | _ => none
def aMnn (f : AFr) (S : ASt) : Option (AFr × ASt) := match f.2.2 with
  | .int w :: .int x :: r => if aCat r then some ((f.1 + 3, (f.2.1, .int (if w < x then w else x) :: r)), S) else none
  | _ => none
def aCp (f : AFr) (S : ASt) : Option (AFr × ASt) := match f.2.2 with
  | .int n :: .int dp :: .ref a1 :: .int sp :: .ref a0 :: r => match S.1 a0 with
    | some e0 => match S.1 a1 with
      | some e1 => if (e0.1 = 100 ∧ e1.1 = 100) ∧ (¬ sp < 0 ∧ ¬ dp < 0 ∧ ¬ n < 0) ∧ (sp.toNatClampNeg + n.toNatClampNeg ≤ e0.2.1 ∧ dp.toNatClampNeg + n.toNatClampNeg ≤ e1.2.1) ∧ aCat r then
          some ((f.1 + 3, (f.2.1, r)), (aMw S.1 a1 (100, (e1.2.1, va_cpy e0.2.2 e1.2.2 sp.toNatClampNeg dp.toNatClampNeg n.toNatClampNeg)), S.2)) else none
      | none => none
    | none => none
  | _ => none
def aNa1 (k N : Nat) (f : AFr) (S : ASt) (r : List Value) : Option (AFr × ASt) := match S.2.1 with
  | some z => some ((f.1 + 2, (f.2.1, .ref z :: r)), (aMw S.1 z (k, (N, fun _ => .int 0)), (some (z + 1), (S.2.2.1 + 1, S.2.2.2 + N))))
  | none => none
def aNa (t : ArrayType) (f : AFr) (S : ASt) : Option (AFr × ASt) := match f.2.2 with
  | .int n :: r => if ¬ n < 0 ∧ n.toNatClampNeg ≤ 4096 then (match t with
    | .int => aNa1 100 n.toNatClampNeg f S r
    | .boolean => aNa1 101 n.toNatClampNeg f S r
    | _ => none) else none
  | _ => none
def aEx (kad : Nat → Nat) (y : AMeth) (ins : Instr) (f : AFr) (S : ASt) : Option (AFr × ASt) := match ins with
  | .getstatic idx => match aFind (aGT (aOc y)) idx with
    | some q => some ((f.1 + 3, (f.2.1, .ref (kad q.1) :: f.2.2)), S)
    | none => none
  | .iaload => match f.2.2 with
    | .int i :: .ref a :: r => if a = kad 9 ∧ ¬ (i < 0 ∨ 9 ≤ i.toNatClampNeg) then some ((f.1 + 1, (f.2.1, .int (aSm i.toNatClampNeg) :: r)), S) else none
    | _ => none
  | .invokevirtual idx => match aFind (aXT (aOc y)) idx with
    | some q => if q.1 = 0 then (match f.2.2 with
      | .ref a :: r => match aKj kad a with
        | some j => if aCat r then some ((f.1 + 3, (f.2.1, .int (nI j) :: r)), S) else none
        | none => none
      | _ => none) else none
    | none => none
  | .invokestatic idx => match aFind (aXT (aOc y)) idx with
    | some q => if q.1 = 1 then aMx f S else if q.1 = 2 then aCp f S else if q.1 = 4 then aMnn f S else none
    | none => none
  | .invokespecial idx => match aFind (aXT (aOc y)) idx with
    | some q => if q.1 = 3 then (match f.2.2 with
      | .ref a :: r => if aCat r then some ((f.1 + 3, (f.2.1, r)), S) else none
      | _ => none) else none
    | none => none
  | .newarray t => aNa t f S
  | _ => none
section AEX2
variable {p : Program} {l : Launch} {e : Env} {R : Room} {s : State} {m : MethodId} {args : Array Value} {below : List Frame} {meth : Method} {c : Code} {D : AG} {A : Nat → Prop} {Q : State → Prop} {H : Heap} {locs : List Loc} {ls : Array Slot} {y : AMeth} {ins : Instr} {f : AFr} {S : ASt} {z : AFr × ASt} {len d : Nat} {kad : Nat → Nat} {b : Nat × Nat}
theorem aGT_spec {oc idx j i : Nat} {own : String} (h : aFind (aGT oc) idx = some (j, i)) (ho : aCn[oc]? = some own) : j ≤ 9 ∧ Cond.fieldLink own idx (aGN j).1 (aGN j).2.1 (aGN j).2.2 ∈ aTB := by
  have h1 := List.all_eq_true.mp (aGT_ok oc) _ (aFind_mem h)
  unfold aGchk at h1
  rw [ho] at h1
  simp only [Bool.and_eq_true, decide_eq_true_eq] at h1
  exact ⟨h1.1.1, aTB_in i h1.1.2 h1.2⟩
theorem aXT_spec {oc idx j i : Nat} {own : String} (h : aFind (aXT oc) idx = some (j, i)) (ho : aCn[oc]? = some own) : Cond.methodLink own idx (aXN j) ∈ aTB := by
  have h1 := List.all_eq_true.mp (aXT_ok oc) _ (aFind_mem h)
  unfold aXchk at h1
  rw [ho] at h1
  simp only [Bool.and_eq_true, decide_eq_true_eq] at h1
  exact aTB_in i h1.1.2 h1.2
theorem aKF.stat {j : Nat} {s : State} (h : aKF kad A s s.heap) (hj : j ≤ 9) : va_Z (aGN j).1 (aGN j).2.1 (aGN j).2.2 (.ref (kad j)) A s s.heap := by
  by_cases h9 : j = 9
  · subst h9
    exact h.2.2.2.1
  · have hlt : j < 9 := by omega
    have hg : aEn[j]? = some (aEn.getD j "") := by
      match j, hlt with
      | 0, _ => rfl
      | 1, _ => rfl
      | 2, _ => rfl
      | 3, _ => rfl
      | 4, _ => rfl
      | 5, _ => rfl
      | 6, _ => rfl
      | 7, _ => rfl
      | 8, _ => rfl
      | n + 9, h => omega
    have := (h.2.2.1 j _ hg).1
    unfold aGN
    rw [if_neg h9]
    exact this
theorem aNa1_ok {k N : Nat} {r : List Value} {n : Int32} {t : ArrayType} (X0 : aCtx p l R s m args meth c D A y.1.cls y.2.1) (hw : Cond.arrayClass (newarray.typeOf t) ∈ aTB) (ht : aTys[k]? = some (newarray.typeOf t)) (hcb : componentBytes (newarray.typeOf t) ≤ 4) (hdv : defaultValue (newarray.typeOf t) = .int 0) (hra : ∀ cA, va_RA s cA (newarray.typeOf t) → s.vm.findClass ("[" ++ (newarray.typeOf t).toString) = some cA)
    (hRc : z.2.2.2.1 - b.1 ≤ R.cells ∧ z.2.2.2.2 - b.2 ≤ R.slots) (hbS : b.1 ≤ S.2.2.1 ∧ b.2 ≤ S.2.2.2) (hR : aR D A s.heap S H locs) (hl : lv_has ls c.maxLocals f.2.1) (hd : decode y.2.1 f.1 = .ok (.newarray t, 2)) (hst : f.2.2 = .int n :: r) (h0 : ¬ n < 0) (hN : n.toNatClampNeg = N) (h4 : N ≤ 4096) (h : aNa1 (100 + k) N f S r = some z)
    (kk : aKM p l e R s m args below meth c D A Q (z.2.2.2.1 - b.1) (z.2.2.2.2 - b.2) z.1 z.2) : W p l e R s m args below meth c H locs (S.2.2.1 - b.1) (S.2.2.2 - b.2) Q (F0 m f.1 ls f.2.2) := by
  obtain ⟨pc, lv, st⟩ := f
  obtain ⟨hx, hb, hown, hts, hKn, hKF, hA, -⟩ := X0
  unfold aNa1 at h
  split at h
  · rename_i z0 hz0
    cases h
    obtain ⟨hH, hI, hS, hz⟩ := hR
    have hsz := hz z0 hz0
    dsimp only at hRc hst hd ⊢
    subst hst
    have w1 : S.2.2.1 + 1 - b.1 = S.2.2.1 - b.1 + 1 := by omega
    have w2 : S.2.2.2 + N - b.2 = S.2.2.2 - b.2 + N := by omega
    refine va_newaK hx hb (hts _ hw) rfl hd rfl h0 hN (by have := Nat.mul_le_mul h4 hcb; omega) (by omega) (by omega) hsz fun H1 cA e1 z1 o1 hAr hNm => ?_
    have hcA : cA = D.2.1 k := by
      have h1 := hra _ (hKn.2 k _ ht).2
      exact Option.some.inj (hNm.symm.trans h1)
    subst hcA
    rw [hdv] at e1
    refine W.cs2 w1.symm w2.symm (kk H1 locs ls ⟨?_, ?_, ⟨by rw [z1, ← hsz]; exact Nat.le_trans hS.1 (Nat.le_succ _), fun q h1 h2 => (o1 q (by rw [← hsz]; exact Nat.lt_of_lt_of_le h1 hS.1)).trans (hS.2.1 q h1 h2), hS.2.2⟩, fun n hn => by cases hn; exact z1⟩ hl)
    · intro a f' hf
      by_cases ha : a = z0
      · subst ha
        simp only [aMw, if_true] at hf
        cases hf
        refine Or.inr ⟨Nat.le_add_right _ _, ?_, fun _ j => ⟨0, rfl⟩⟩
        show H1[a]? = some (arrV (D.2.1 (100 + k - 100)) N fun _ => .int 0)
        rw [Nat.add_sub_cancel_left]
        exact e1
      · simp only [aMw, if_neg ha] at hf
        have hat := hH a f' hf
        exact hat.kept (o1 a (by rw [← hsz]; exact hat.lt))
    · exact hI.put (hA z0 (by rw [← hsz]; exact hS.1))
  · cases h
theorem aEx_cnt (h : aEx kad y ins f S = some z) : S.2.2.1 ≤ z.2.2.2.1 ∧ S.2.2.2 ≤ z.2.2.2.2 := by
  unfold aEx aMx aCp aMnn aNa aNa1 at h
  repeat' split at h
  all_goals first | (cases h; exact ⟨Nat.le_refl _, Nat.le_refl _⟩) | (cases h; exact ⟨Nat.le_add_right _ _, Nat.le_add_right _ _⟩) | cases h
theorem aEx_ok (X0 : aCtx p l R s m args meth c D A y.1.cls y.2.1) (hkad : D.2.2 = kad) (hy : aCn[aOc y]? = some y.1.cls) (hRm : R.frames = 8 + d ∧ R.locals = 200 + 40 * d) (hRc : z.2.2.2.1 - b.1 ≤ R.cells ∧ z.2.2.2.2 - b.2 ≤ R.slots) (hbS : b.1 ≤ S.2.2.1 ∧ b.2 ≤ S.2.2.2) (hR : aR D A s.heap S H locs) (hl : lv_has ls c.maxLocals f.2.1) (hd : decode y.2.1 f.1 = .ok (ins, len)) (hn : aLen ins = 0 ∨ len = aLen ins) (h : aEx kad y ins f S = some z)
    (k : aKM p l e R s m args below meth c D A Q (z.2.2.2.1 - b.1) (z.2.2.2.2 - b.2) z.1 z.2) : W p l e R s m args below meth c H locs (S.2.2.1 - b.1) (S.2.2.2 - b.2) Q (F0 m f.1 ls f.2.2) := by
  subst hkad
  unfold aEx at h
  split at h
  · rcases hn with hn | rfl
    · exact absurd hn (by simp [aLen])
    · split at h
      · rename_i q hq
        obtain ⟨j, i⟩ := q
        cases h
        obtain ⟨g1, g2⟩ := aGT_spec hq hy
        exact ax_gets X0 hR (X0.2.2.2.2.2.1.stat g1) g2 hd (k H locs ls hR hl)
      · cases h
  · rcases hn with hn | rfl
    · exact absurd hn (by simp [aLen])
    · split at h
      · rename_i i a r hst
        split at h
        · rename_i hc
          cases h
          obtain ⟨rfl, hc⟩ := hc
          obtain ⟨pc, lv, st⟩ := f
          dsimp only at hst ⊢
          subst hst
          exact ax_swm X0 hR hc hd (k H locs ls hR hl)
        · cases h
      · cases h
  · rcases hn with hn | rfl
    · exact absurd hn (by simp [aLen])
    · split at h
      · rename_i q hq
        obtain ⟨j0, i⟩ := q
        dsimp only at h
        split at h
        · rename_i hj0
          subst hj0
          split at h
          · rename_i a r hst
            split at h
            · rename_i j hj
              split at h
              · rename_i hc
                cases h
                obtain ⟨g1, g2⟩ := aKj_eq hj
                obtain ⟨pc, lv, st⟩ := f
                dsimp only at hst hRc ⊢
                subst hst
                subst g2
                refine ax_ord X0 hl.1 hR g1 (aTB_GoodIn (fun w hw => ?_)) hc hRm hRc hd (fun H1 locs1 hR1 => k H1 locs1 ls hR1 hl)
                have hlk := aXT_spec hq hy
                simp only [va_wsU, List.cons_append, List.nil_append, List.mem_cons, List.not_mem_nil, or_false] at hw
                rcases hw with rfl | rfl | rfl | rfl | rfl | rfl | rfl
                · exact hlk
                · exact aw_or_m
                · exact aw_or_s
                · exact aw_or_i
                · exact aw_or_z
                · exact aw_or_c
                · exact aw_or_f
              · cases h
            · cases h
          · cases h
        · cases h
      · cases h
  · rcases hn with hn | rfl
    · exact absurd hn (by simp [aLen])
    · split at h
      · rename_i q hq
        obtain ⟨j0, i⟩ := q
        dsimp only at h
        split at h
        · rename_i hj0
          subst hj0
          unfold aMx at h
          split at h
          · rename_i w x r hst
            split at h
            · rename_i hc
              cases h
              obtain ⟨pc, lv, st⟩ := f
              dsimp only at hst hRc ⊢
              subst hst
              exact ax_max X0 hl.1 (aXT_spec hq hy) aw_max_s aw_max_i aw_max_c hc hRm hRc hd (k H locs ls hR hl)
            · cases h
          · cases h
        · split at h
          · rename_i hj0
            subst hj0
            unfold aCp at h
            split at h
            · rename_i n dp a1 sp a0 r hst
              split at h
              · rename_i e0 h0
                split at h
                · rename_i e1 h1
                  split at h
                  · rename_i hc
                    cases h
                    obtain ⟨⟨c1, c2⟩, ⟨c3, c4, c5⟩, ⟨c6, c7⟩, c8⟩ := hc
                    obtain ⟨pc, lv, st⟩ := f
                    dsimp only at hst hRc ⊢
                    subst hst
                    exact ax_copy X0 hl.1 hR (aXT_spec hq hy) aw_cp_n aw_cp_s aw_cp_i h0 h1 c1 c2 c3 c4 c5 c6 c7 c8 hRm hd (fun H1 locs1 hR1 => k H1 locs1 ls hR1 hl)
                  · cases h
                · cases h
              · cases h
            · cases h
          · split at h
            · rename_i hj0
              subst hj0
              unfold aMnn at h
              split at h
              · rename_i w x r hst
                split at h
                · rename_i hc
                  cases h
                  obtain ⟨pc, lv, st⟩ := f
                  dsimp only at hst hRc ⊢
                  subst hst
                  exact ax_min X0 hl.1 (aXT_spec hq hy) aw_min_s aw_max_i aw_min_c hc hRm hRc hd (k H locs ls hR hl)
                · cases h
              · cases h
            · cases h
      · cases h
  · rcases hn with hn | rfl
    · exact absurd hn (by simp [aLen])
    · split at h
      · rename_i q hq
        obtain ⟨j0, i⟩ := q
        dsimp only at h
        split at h
        · rename_i hj0
          subst hj0
          split at h
          · rename_i a r hst
            split at h
            · rename_i hc
              cases h
              obtain ⟨pc, lv, st⟩ := f
              dsimp only at hst hRc ⊢
              subst hst
              have hc9 : (r.map fun v => v.category).sum ≤ 8 := hc
              exact W.objInit X0.1 X0.2.1 X0.2.2.1 (X0.2.2.2.1 _ (aXT_spec hq hy)) (X0.2.2.2.1 _ aw_ob_i) (X0.2.2.2.1 _ aw_ob_c) rfl hl.1 rfl hd (by omega) (by show 2 * 0 + _ + 12 ≤ _; omega) (k H locs ls hR hl)
            · cases h
          · cases h
        · cases h
      · cases h
  · rcases hn with hn | rfl
    · exact absurd hn (by simp [aLen])
    · unfold aNa at h
      split at h
      · rename_i n r hst
        split at h
        · rename_i hc
          split at h
          · exact aNa1_ok (k := 0) (t := .int) X0 aw_ai rfl (by decide) rfl (fun cA h => h) hRc hbS hR hl hd hst hc.1 rfl hc.2 h k
          · exact aNa1_ok (k := 1) (t := .boolean) X0 aw_az rfl (by decide) rfl (fun cA h => h) hRc hbS hR hl hd hst hc.1 rfl hc.2 h k
          · cases h
        · cases h
      · cases h
  · cases h
end AEX2
