/-! throws -/
theorem aTB_all {L : List Cond} (h : L.all (fun w => decide (w ∈ lw_tbl) && goodWord w) = true) : ∀ w ∈ L, w ∈ aTB := fun w hw => by
  have h1 := List.all_eq_true.mp h w hw
  simp only [Bool.and_eq_true, decide_eq_true_eq] at h1
  exact List.mem_filter.mpr ⟨h1.1, h1.2⟩
def aEC (k : Nat) : String := if k = 0 then "java/lang/IllegalArgumentException" else if k = 1 then "java/lang/IllegalStateException" else if k = 2 then "java/lang/IndexOutOfBoundsException" else "java/util/NoSuchElementException"
def aEik (k : Nat) : Nat := if k = 0 then 141 else if k = 1 then 117 else if k = 2 then 264 else 323
def aEic (k : Nat) : Nat := if k = 0 then 145 else if k = 1 then 121 else if k = 2 then 268 else 327
def aENm : List String := ["java/lang/RuntimeException", "java/lang/Exception"]
abbrev aEL (k : Nat) : List Cond := Cond.classLink RX12 (aEik k) (aEC k) :: Cond.initialized (aEC k) :: vx_atS RX12 (aEic k) (aEC k) aENm
theorem aE_all {L : List Cond} (h : L.all (fun w => (decide (w ∈ lw_tbl) && goodWord w) || decide (w ∈ aNG)) = true) : ∀ w ∈ L, w ∈ aTB ∨ w ∈ aNG := fun w hw => by
  have h1 := List.all_eq_true.mp h w hw
  simp only [Bool.or_eq_true, Bool.and_eq_true, decide_eq_true_eq] at h1
  rcases h1 with h1 | h1
  · exact Or.inl (List.mem_filter.mpr ⟨h1.1, h1.2⟩)
  · exact Or.inr h1
theorem aEw0 : ∀ w ∈ vx_atS RX12 (aEic 0) (aEC 0) aENm, w ∈ aTB ∨ w ∈ aNG := aE_all (by decide +kernel)
theorem aEk0 : ∀ w ∈ [Cond.classLink RX12 (aEik 0) (aEC 0), Cond.initialized (aEC 0)], w ∈ aTB := aTB_all (by decide +kernel)
theorem aEw1 : ∀ w ∈ vx_atS RX12 (aEic 1) (aEC 1) aENm, w ∈ aTB ∨ w ∈ aNG := aE_all (by decide +kernel)
theorem aEk1 : ∀ w ∈ [Cond.classLink RX12 (aEik 1) (aEC 1), Cond.initialized (aEC 1)], w ∈ aTB := aTB_all (by decide +kernel)
theorem aEw2 : ∀ w ∈ vx_atS RX12 (aEic 2) (aEC 2) aENm, w ∈ aTB ∨ w ∈ aNG := aE_all (by decide +kernel)
theorem aEk2 : ∀ w ∈ [Cond.classLink RX12 (aEik 2) (aEC 2), Cond.initialized (aEC 2)], w ∈ aTB := aTB_all (by decide +kernel)
theorem aEw3 : ∀ w ∈ ne_at RX12 (aEic 3), w ∈ aTB ∨ w ∈ aNG := aE_all (by decide +kernel)
theorem aEk3 : ∀ w ∈ [Cond.classLink RX12 (aEik 3) (aEC 3), Cond.initialized (aEC 3)], w ∈ aTB := aTB_all (by decide +kernel)
def aTT (mi : Nat) : List (Nat × (Nat × (Nat × (Nat × String)))) := match mi with
  | 136 => [(10, (1, (0, (119, "the source has an error"))))]
  | 138 => [(10, (0, (0, (143, "a parameter is out of range"))))]
  | 140 => [(7, (1, (0, (147, "nothing was assembled"))))]
  | 142 => [(12, (1, (0, (149, "the source has 100 lines"))))]
  | 143 => [(13, (1, (0, (163, "the machine is on"))))]
  | 145 => [(13, (1, (0, (163, "the machine is on"))))]
  | 149 => [(21, (1, (0, (217, "the machine does not run")))), (46, (1, (0, (222, "20 keys were told since the start"))))]
  | 165 => [(13, (1, (1, (286, "the machine is off"))))]
  | 175 => [(23, (3, (1, (325, "no entry has this name"))))]
  | 176 => [(19, (1, (1, (331, "the draft has 6 keys"))))]
  | 177 => [(19, (1, (1, (339, "the draft has 6 words"))))]
  | 178 => [(39, (1, (1, (347, "there are 5 tests"))))]
  | 181 => [(17, (2, (1, (364, "there is no such test"))))]
  | _ => []
def aTchk (mi : Nat) (q : Nat × (Nat × (Nat × (Nat × String)))) : Bool := match aMS[mi]? with
  | some y => decide (y.1.cls = RX12) && decide (q.2.1 ≤ 2 ∨ (q.2.1 = 3 ∧ q.2.2.1 = 1)) && decide ((RX12, (q.2.2.2.1, q.2.2.2.2)) ∈ aStr) && decide (decode y.2.1 q.1 = .ok (.new (aEik q.2.1), 3)) && decide (decode y.2.1 (q.1 + 3) = .ok (.dup, 1)) &&
    (match q.2.2.1 with
      | 0 => decide (decode y.2.1 (q.1 + 4) = .ok (.ldc q.2.2.2.1, 2)) && decide (decode y.2.1 (q.1 + 6) = .ok (.invokespecial (aEic q.2.1), 3)) && decide (decode y.2.1 (q.1 + 9) = .ok (.athrow, 1))
      | 1 => decide (decode y.2.1 (q.1 + 4) = .ok (.ldc_w q.2.2.2.1, 3)) && decide (decode y.2.1 (q.1 + 7) = .ok (.invokespecial (aEic q.2.1), 3)) && decide (decode y.2.1 (q.1 + 10) = .ok (.athrow, 1))
      | _ => false)
  | none => false
theorem aTT_ok136 : (aTT 136).all (aTchk 136) = true := by decide +kernel
theorem aTT_ok138 : (aTT 138).all (aTchk 138) = true := by decide +kernel
theorem aTT_ok140 : (aTT 140).all (aTchk 140) = true := by decide +kernel
theorem aTT_ok142 : (aTT 142).all (aTchk 142) = true := by decide +kernel
theorem aTT_ok143 : (aTT 143).all (aTchk 143) = true := by decide +kernel
theorem aTT_ok145 : (aTT 145).all (aTchk 145) = true := by decide +kernel
theorem aTT_ok149 : (aTT 149).all (aTchk 149) = true := by decide +kernel
theorem aTT_ok165 : (aTT 165).all (aTchk 165) = true := by decide +kernel
theorem aTT_ok175 : (aTT 175).all (aTchk 175) = true := by decide +kernel
theorem aTT_ok176 : (aTT 176).all (aTchk 176) = true := by decide +kernel
theorem aTT_ok177 : (aTT 177).all (aTchk 177) = true := by decide +kernel
theorem aTT_ok178 : (aTT 178).all (aTchk 178) = true := by decide +kernel
theorem aTT_ok181 : (aTT 181).all (aTchk 181) = true := by decide +kernel
theorem aTT_ok (mi : Nat) : (aTT mi).all (aTchk mi) = true := by
  unfold aTT
  split
  · exact aTT_ok136
  · exact aTT_ok138
  · exact aTT_ok140
  · exact aTT_ok142
  · exact aTT_ok143
  · exact aTT_ok145
  · exact aTT_ok149
  · exact aTT_ok165
  · exact aTT_ok175
  · exact aTT_ok176
  · exact aTT_ok177
  · exact aTT_ok178
  · exact aTT_ok181
  · rfl
def aThr1 (mi pc : Nat) (st : List Value) : Option String := match aFind (aTT mi) pc with
  | some q => if aCat st then some (aEC q.1) else none
  | none => none
def aThr (ins : Instr) (mi pc : Nat) (st : List Value) : Option String := match ins with
  | .new _ => aThr1 mi pc st
  | _ => none
section ATHR
variable {p : Program} {l : Launch} {e : Env} {R : Room} {s : State} {m : MethodId} {args : Array Value} {below : List Frame} {meth : Method} {c : Code} {D : AG} {H : Heap} {locs : List Loc} {ls : Array Slot} {y : AMeth} {f : AFr} {S S0 : ASt} {d mi : Nat} {b : Nat × Nat}
theorem aThr1_ok {E : String} (X0 : aCtx p l R s m args meth c D (aA S0.1 s.heap.size) y.1.cls y.2.1) (hmi : aMS[mi]? = some y) (hl0 : l.stackTraces = false) (hRm : R.frames = 8 + d ∧ R.locals = 200 + 40 * d) (hRc : S.2.2.1 + 1 - b.1 ≤ R.cells ∧ S.2.2.2 + 6 - b.2 ≤ R.slots) (hbS : b.1 ≤ S.2.2.1 ∧ b.2 ≤ S.2.2.2) (hR : aR D (aA S0.1 s.heap.size) s.heap S H locs) (hl : lv_has ls c.maxLocals f.2.1) (h : aThr1 mi f.1 f.2.2 = some E) :
    W p l e R s m args below meth c H locs (S.2.2.1 - b.1) (S.2.2.2 - b.2) (vx_MQ below (aQc D S0 (S.1, (none, (S.2.2.1 + 1, S.2.2.2 + 6))) s.heap.size (.inr E)) (aXC D S0 (S.1, (none, (S.2.2.1 + 1, S.2.2.2 + 6))) s.heap.size (.inr E)) args s (S.2.2.1 + 1 - b.1) (S.2.2.2 + 6 - b.2) (aA S0.1 s.heap.size)) (F0 m f.1 ls f.2.2) := by
  unfold aThr1 at h
  split at h
  · rename_i q hq
    split at h
    · rename_i hcat
      cases h
      have h1 := List.all_eq_true.mp (aTT_ok mi) _ (aFind_mem hq)
      unfold aTchk at h1
      rw [hmi] at h1
      dsimp only at h1
      simp only [Bool.and_eq_true, decide_eq_true_eq] at h1
      obtain ⟨⟨⟨⟨⟨t1, t2⟩, t3⟩, t4⟩, t5⟩, t6⟩ := h1
      obtain ⟨k, wide, is, text⟩ := q
      dsimp only at t1 t2 t3 t4 t5 t6 ⊢
      obtain ⟨hx, hb, hown, hts, hKn, hKF, hA, hlocks, hnone⟩ := X0
      rw [t1] at hown
      have hc9 : (f.2.2.map fun v => v.category).sum ≤ 8 := hcat
      obtain ⟨sa, hsa⟩ := hKF.2.1.1 _ t3
      rcases t2 with t2 | ⟨rfl, rfl⟩
      · have hEw : ∀ w ∈ vx_atS RX12 (aEic k) (aEC k) aENm, w ∈ aTB ∨ w ∈ aNG := by
          have h3 : k = 0 ∨ k = 1 ∨ k = 2 := by omega
          rcases h3 with rfl | rfl | rfl
          · exact aEw0
          · exact aEw1
          · exact aEw2
        have hEk : ∀ w ∈ [Cond.classLink RX12 (aEik k) (aEC k), Cond.initialized (aEC k)], w ∈ aTB := by
          have h3 : k = 0 ∨ k = 1 ∨ k = 2 := by omega
          rcases h3 with rfl | rfl | rfl
          · exact aEk0
          · exact aEk1
          · exact aEk2
        have hgw : ∀ w, w ∈ aTB → vx_ot w = true := fun w hw => by
          have := (List.mem_filter.mp hw).2
          unfold vx_ot
          rw [this, Bool.or_true]
        have hfit : Bundle.fit (aEC k) = true := by
          have h3 : k = 0 ∨ k = 1 ∨ k = 2 := by omega
          rcases h3 with rfl | rfl | rfl <;> decide +kernel
        have hk := hts _ (hEk _ List.mem_cons_self)
        have hini := hts _ (hEk _ (List.mem_cons_of_mem _ List.mem_cons_self))
        have hot : ∀ w ∈ aEL k, vx_ot w = true := fun w hw => by
          rcases List.mem_cons.mp hw with rfl | hw
          · exact hgw _ (hEk _ List.mem_cons_self)
          · rcases List.mem_cons.mp hw with rfl | hw
            · exact hgw _ (hEk _ (List.mem_cons_of_mem _ List.mem_cons_self))
            · rcases hEw w hw with h | h
              · exact hgw _ h
              · unfold vx_ot
                rw [aNG_on w h, Bool.true_or]
        have hat : ∀ w ∈ vx_atS RX12 (aEic k) (aEC k) aENm, w.before args s = true := fun w hw => by
          rcases hEw w hw with h | h
          · exact hts _ h
          · exact va_Nw.use (aNG_on w h) (hKF.2.1.2.1 w h)
        have hxc : ∀ t : State, s.vm.Alike t.vm → H.size ≤ t.heap.size → (∀ q : Nat, q < H.size → t.heap[q]? = H[q]?) → aXC D S0 (S.1, (none, (S.2.2.1 + 1, S.2.2.2 + 6))) s.heap.size (.inr (aEC k)) (aEC k) s t := fun t _ h2 h3 =>
          ⟨rfl, ⟨fun a f hf => (hR.1 a f hf).kept (h3 a (hR.1 a f hf).lt), fun n hn => (by cases hn), hR.2.1⟩, ⟨Nat.le_trans hR.2.2.1.1 h2, fun q g1 g2 => (h3 q (Nat.lt_of_lt_of_le g1 hR.2.2.1.1)).trans (hR.2.2.1.2.1 q g1 g2)⟩⟩
        have hcells : S.2.2.1 - b.1 + 1 ≤ R.cells ∧ S.2.2.2 - b.2 + 6 ≤ R.slots := by omega
        have hroom : (f.2.2.map fun v => v.category).sum + (13 * (aENm.length + 1) + 43) ≤ R.locals := by
          have : aENm.length = 2 := rfl
          omega
        have hfr : aENm.length + 3 < R.frames := by
          have : aENm.length = 2 := rfl
          omega
        match wide, t6 with
        | 0, t6 =>
          simp only [Bool.and_eq_true, decide_eq_true_eq] at t6
          obtain ⟨⟨t6, t7⟩, t8⟩ := t6
          exact vx_throwS hx hb hl0 (own := RX12) (names := aENm) hown hfit (by decide) hk hini hsa hat hot hKF.1.1 hKF.1.2 hR.2.2.1 hl.1 t4 t5 t6 t7 t8 (fun x hx => absurd hx (fun hx => hnone x hx)) hfr hroom hcells.1 hcells.2 hlocks hxc hR.2.2.1.2.2 (by omega) (by omega)
        | 1, t6 =>
          simp only [Bool.and_eq_true, decide_eq_true_eq] at t6
          obtain ⟨⟨t6, t7⟩, t8⟩ := t6
          exact vx_throwSW hx hb hl0 (own := RX12) (names := aENm) hown hfit (by decide) hk hini hsa hat hot hKF.1.1 hKF.1.2 hR.2.2.1 hl.1 t4 t5 t6 t7 t8 (fun x hx => absurd hx (fun hx => hnone x hx)) hfr hroom hcells.1 hcells.2 hlocks hxc hR.2.2.1.2.2 (by omega) (by omega)
        | n + 2, t6 => cases t6
      · have hgw : ∀ w, w ∈ aTB → vx_ot w = true := fun w hw => by
          have := (List.mem_filter.mp hw).2
          unfold vx_ot
          rw [this, Bool.or_true]
        have hk := hts _ (aEk3 _ List.mem_cons_self)
        have hini := hts _ (aEk3 _ (List.mem_cons_of_mem _ List.mem_cons_self))
        have hot : ∀ w ∈ Cond.classLink RX12 (aEik 3) ne_X :: Cond.initialized ne_X :: ne_at RX12 (aEic 3), vx_ot w = true := fun w hw => by
          rcases List.mem_cons.mp hw with rfl | hw
          · exact hgw _ (aEk3 _ List.mem_cons_self)
          · rcases List.mem_cons.mp hw with rfl | hw
            · exact hgw _ (aEk3 _ (List.mem_cons_of_mem _ List.mem_cons_self))
            · rcases aEw3 w hw with h | h
              · exact hgw _ h
              · unfold vx_ot
                rw [aNG_on w h, Bool.true_or]
        have hat : ∀ w ∈ ne_at RX12 (aEic 3), w.before args s = true := fun w hw => by
          rcases aEw3 w hw with h | h
          · exact hts _ h
          · exact va_Nw.use (aNG_on w h) (hKF.2.1.2.1 w h)
        have hxc : ∀ t : State, s.vm.Alike t.vm → H.size ≤ t.heap.size → (∀ q : Nat, q < H.size → t.heap[q]? = H[q]?) → aXC D S0 (S.1, (none, (S.2.2.1 + 1, S.2.2.2 + 6))) s.heap.size (.inr (aEC 3)) ne_X s t := fun t _ h2 h3 =>
          ⟨rfl, ⟨fun a f hf => (hR.1 a f hf).kept (h3 a (hR.1 a f hf).lt), fun n hn => (by cases hn), hR.2.1⟩, ⟨Nat.le_trans hR.2.2.1.1 h2, fun q g1 g2 => (h3 q (Nat.lt_of_lt_of_le g1 hR.2.2.1.1)).trans (hR.2.2.1.2.1 q g1 g2)⟩⟩
        have hcells : S.2.2.1 - b.1 + 1 ≤ R.cells ∧ S.2.2.2 - b.2 + 6 ≤ R.slots := by omega
        have hroom : (f.2.2.map fun v => v.category).sum + (13 * (2 + 1) + 43) ≤ R.locals := by omega
        have hfr : 2 + 3 < R.frames := by omega
        simp only [Bool.and_eq_true, decide_eq_true_eq] at t6
        obtain ⟨⟨t6, t7⟩, t8⟩ := t6
        exact ne_throwSW hx hb hl0 (own := RX12) hown hk hini hsa hat hot hKF.1.1 hKF.1.2 hR.2.2.1 hl.1 t4 t5 t6 t7 t8 (fun x hx => absurd hx (fun hx => hnone x hx)) hfr hroom hcells.1 hcells.2 hlocks hxc hR.2.2.1.2.2 (by omega) (by omega)
    · cases h
  · cases h
theorem aThr_eq {ins : Instr} {E : String} {pc : Nat} {st : List Value} (h : aThr ins mi pc st = some E) : aThr1 mi pc st = some E := by
  unfold aThr at h
  split at h
  · exact h
  · cases h
end ATHR
