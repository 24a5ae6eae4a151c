/-! p53: the law's loop -/
def lvK (k b g g' : Nat) : ALv := [(4, .int (Int32.ofNat k)), (3, .int 1), (2, .ref g'), (1, .ref g), (0, .ref b)]
def lv5 (k b g g' : Nat) (v : Int32) : ALv := [(5, .int v), (4, .int (Int32.ofNat k)), (3, .int 1), (2, .ref g'), (1, .ref g), (0, .ref b)]
def lwC (l : Launch) (p : Program) (R : Room) (s : State) (ml : MethodId) (args : Array Value) (c : Code) (D : AG) (A : Nat → Prop) (Z : AZ) (g g' b L : Nat) (xs : Nat → Int32) : Prop := l.stackTraces = false ∧ aCx p s ml args c D A RL code ∧ c.maxLocals = 7 ∧ (50 ≤ R.frames ∧ 1880 ≤ R.locals) ∧ (env2 D.2.2 2000 Z g g' ∧ (sh10 D.2.2 Z g ∧ sh10 D.2.2 Z g')) ∧ va_X b L xs s s.heap ∧ b < s.heap.size ∧ ¬ A b ∧ L ≤ 260
theorem wLow : ∀ w ∈ [Cond.methodLink RL 97 aM184.1, Cond.static aM184.1], w ∈ aTB := aTB_all (by decide +kernel)
theorem wAct : ∀ w ∈ [Cond.methodLink RL 192 aM185.1, Cond.static aM185.1], w ∈ aTB := aTB_all (by decide +kernel)
theorem wAli : ∀ w ∈ [Cond.methodLink RL 195 aM186.1, Cond.static aM186.1], w ∈ aTB := aTB_all (by decide +kernel)
theorem wMac : ∀ w ∈ [Cond.methodLink RL 199 aM187.1, Cond.static aM187.1], w ∈ aTB := aTB_all (by decide +kernel)
theorem wBac : ∀ w ∈ [Cond.methodLink RL 203 aM188.1, Cond.static aM188.1], w ∈ aTB := aTB_all (by decide +kernel)
theorem wCra : ∀ w ∈ [Cond.methodLink RL 210 aM189.1, Cond.static aM189.1], w ∈ aTB := aTB_all (by decide +kernel)
theorem wSou : ∀ w ∈ [Cond.methodLink RL 207 aM190.1, Cond.static aM190.1], w ∈ aTB := aTB_all (by decide +kernel)
theorem wK44 : ∀ w ∈ [Cond.constant RL 44 (Int32.ofInt (-99999999))], w ∈ aTB := aTB_all (by decide +kernel)
theorem wBd.mono {c c' : Nat} {A : XA} (h : wBd c A) (hc : c ≤ c') : wBd c' A := by
  obtain ⟨w, h1, h2⟩ := h
  exact ⟨w, by omega, h2⟩
section LOOP
variable {p : Program} {l : Launch} {e : Env} {R : Room} {s : State} {ml : MethodId} {args : Array Value} {below : List Frame} {meth : Method} {c : Code} {D : AG} {A : Nat → Prop} {Q : State → Prop} {Z : AZ} {g g' b L k cb nb : Nat} {xs : Nat → Int32} {X : XA} {J : AI} {t : Option Nat × (Nat × Nat)} {v : Int32} {lv : ALv} {st rest : List Value} {pc : Nat}
/-- a number's remainder -/
theorem aw_low (C : lwC l p R s ml args c D A Z g g' b L xs) {x y : Int32} (hy : ¬ y = 0) (hq : aFind (aPs yHd) pc = some (.invokestatic 97, 3)) (hcat : (rest.map fun v => v.category).sum ≤ 8) (hRc : t.2.1 ≤ R.cells ∧ t.2.2 ≤ R.slots) (kk : aW p l e R s ml args below meth c D A Q (pc + 3, (lv, .int (lowF x y) :: rest)) (aMem Z J, t)) : aW p l e R s ml args below meth c D A Q (pc, (lv, .int y :: .int x :: rest)) (aMem Z J, t) := by
  obtain ⟨hl0, X0, hml, hRm, hE, hX, hbl, hbA, hL⟩ := id C
  refine aw_stat (argv := [.int x, .int y]) (rest := rest) (n := 184) (z := aM184) (np := 2) (cx := 0) (v := lowF x y) (I' := J) hl0 okHd X0 hRm hq aMi184 wLow (by decide +kernel) rfl (Nat.le_of_ble_eq_true rfl) hcat hRc ?_ (fun t1 ht => ?_)
  · refine (Tf184 (kad := D.2.2) (N := 2000) (Z := Z) (d := 40) (t := t) (by omega) x y J (lowF x y, J) (f184_e hy)).mono fun r S1 hr => ?_
    obtain ⟨h1, h2⟩ := hr
    exact ⟨h1, t, tB.refl, h2⟩
  · obtain ⟨k0, hk0, rfl⟩ := ht
    obtain rfl : k0 = 0 := by omega
    have e1 : tk t 0 = t := by obtain ⟨a, b, c⟩ := t; rfl
    rw [e1]
    exact kk
/-- the turn's number -/
theorem seg_v (C : lwC l p R s ml args c D A Z g g' b L xs) (hk : k < 80) (hRc : t.2.1 ≤ R.cells ∧ t.2.2 ≤ R.slots) (kk : ∀ v, aW p l e R s ml args below meth c D A Q (83, (lv5 k b g g' v, [])) (aMem Z J, t)) : aW p l e R s ml args below meth c D A Q (28, (lvK k b g g', [])) (aMem Z J, t) := by
  obtain ⟨hl0, X0, hml, hRm, hE, hX, hbl, hbA, hL⟩ := id C
  refine aw_ops okHd X0 hml 1 _ (f1 := (29, (lvK k b g g', [.int 1]))) rfl ?_
  refine aw_br (st1 := []) (bb := decide ((1 : Int32) = 0)) (off := 223) (tg := 252) okHd X0 hml rfl rfl rfl (fun h => absurd h (by decide)) (fun _ => ?_)
  refine aw_ops okHd X0 hml 4 _ (f1 := (38, (lvK k b g g', [.int (Int32.ofNat k - Int32.ofNat k / 61 * 61), .ref b]))) rfl ?_
  rw [show Int32.ofNat k - Int32.ofNat k / (61 : Int32) * (61 : Int32) = Int32.ofNat (k % 61) from eR (n := 61) (by omega) (by decide) (by decide)]
  refine aw_cell (rest := []) okHd X0 hRm rfl hX hbl hbA (Nat.mod_lt _ (by decide)) hL (Nat.le_of_ble_eq_true rfl) hRc ?_
  generalize cellV xs L (k % 61) = w
  refine aw_ops okHd X0 hml 7 _ (f1 := (53, (lv5 k b g g' (w + 1373 * (Int32.ofNat k / 61)), []))) rfl ?_
  generalize w + 1373 * (Int32.ofNat k / 61) = w
  refine aw_ops okHd X0 hml 2 _ (f1 := (57, (lv5 k b g g' w, [.int 12, .int (Int32.ofNat k)]))) rfl ?_
  refine aw_br (st1 := []) (bb := decide ((12 : Int32) ≤ Int32.ofNat k)) (off := 22) (tg := 79) okHd X0 hml rfl rfl rfl (fun _ => ?_) (fun _ => ?_)
  · exact aw_ops okHd X0 hml 2 _ (f1 := (83, (lv5 k b g g' w, []))) rfl (kk w)
  · refine aw_ops okHd X0 hml 7 _ (f1 := (72, (lv5 k b g g' w, [.int 18, .int w, .int (w / 46 * 46)]))) rfl ?_
    refine aw_low C (by decide) rfl (Nat.le_of_ble_eq_true rfl) hRc ?_
    exact aw_ops okHd X0 hml 3 _ (f1 := (83, (lv5 k b g g' (w / 46 * 46 + lowF w 18), []))) rfl (kk _)
/-- the turn's call, on both -/
theorem seg_act (C : lwC l p R s ml args c D A Z g g' b L xs) (h : okA X) (hR : R2 D.2.2 2000 Z g g' X X J) (hc : t.2.1 ≤ cb) (hn : t.2.2 ≤ nb) (hRc : cb + 2 ≤ R.cells ∧ nb + 12 ≤ R.slots) (kk : ∀ X' J' t', okA X' → (∀ c, wBd c X → wBd (c + 1004) X') → R2 D.2.2 2000 Z g g' X' X' J' → t'.2.1 ≤ cb + 2 → t'.2.2 ≤ nb + 12 → aW p l e R s ml args below meth c D A Q (109, (lv5 k b g g' v, [])) (aMem Z J', t')) : aW p l e R s ml args below meth c D A Q (83, (lv5 k b g g' v, [])) (aMem Z J, t) := by
  obtain ⟨hl0, X0, hml, hRm, ⟨hE, hsg, hsg'⟩, hX, hbl, hbA, hL⟩ := id C
  obtain ⟨w, X', hC, hx, hb⟩ := A_f185 (kad := D.2.2) (Z := Z) (Nat.le_refl 2000) h (i1 := v)
  obtain ⟨J1, e1, R1⟩ := hC.o hR
  obtain ⟨J2, e2, R3⟩ := hC.p R1
  refine aw_ops okHd X0 hml 2 _ (f1 := (86, (lv5 k b g g' v, [.int v, .ref g]))) rfl ?_
  refine aw_stat (argv := [.ref g, .int v]) (rest := []) (n := 185) (z := aM185) (np := 2) (cx := 1) (v := w) (I' := J1) hl0 okHd X0 hRm rfl aMi185 wAct (by decide +kernel) rfl (Nat.le_of_ble_eq_true rfl) (Nat.le_of_ble_eq_true rfl) ⟨by omega, by omega⟩ (Tf185 (kad := D.2.2) (N := 2000) (Z := Z) (d := 40) (t := t) (by omega) g hsg v J (w, J1) e1) (fun t1 ht1 => ?_)
  obtain ⟨-, b1, b2⟩ := ht1.four
  refine aw_ops okHd X0 hml 2 _ (f1 := (93, ((6, .int w) :: lv5 k b g g' v, [.int w]))) rfl ?_
  refine aw_ldc (v := Int32.ofInt (-99999999)) okHd X0 rfl (wK44 _ List.mem_cons_self) ?_
  refine aw_br (st1 := []) (bb := decide (w = Int32.ofInt (-99999999))) (off := 14) (tg := 109) okHd X0 hml rfl rfl rfl (fun hw => ?_) (fun hw => ?_)
  · obtain rfl := hx (of_decide_eq_true hw)
    exact aw_le (fun q hq => List.mem_cons_of_mem _ hq) (kk _ J1 t1 h (fun c hh => wBd.mono hh (by omega)) R1 (by omega) (by omega))
  · refine aw_ops okHd X0 hml 2 _ (f1 := (101, ((6, .int w) :: lv5 k b g g' v, [.int v, .ref g']))) rfl ?_
    refine aw_stat (argv := [.ref g', .int v]) (rest := []) (n := 185) (z := aM185) (np := 2) (cx := 1) (v := w) (I' := J2) hl0 okHd X0 hRm rfl aMi185 wAct (by decide +kernel) rfl (Nat.le_of_ble_eq_true rfl) (Nat.le_of_ble_eq_true rfl) ⟨by omega, by omega⟩ (Tf185 (kad := D.2.2) (N := 2000) (Z := Z) (d := 40) (t := t1) (by omega) g' hsg' v J1 (w, J2) e2) (fun t2 ht2 => ?_)
    obtain ⟨-, b3, b4⟩ := ht2.four
    refine aw_ops okHd X0 hml 1 _ (f1 := (106, ((6, .int w) :: lv5 k b g g' v, [.int w, .int w]))) rfl ?_
    refine aw_br (st1 := []) (bb := decide (¬ w = w)) (off := 43) (tg := 149) okHd X0 hml rfl rfl rfl (fun hh => absurd rfl (of_decide_eq_true hh)) (fun _ => ?_)
    exact aw_le (fun q hq => List.mem_cons_of_mem _ hq) (kk X' J2 t2 hC.1 hb R3 (by omega) (by omega))
/-- a comparison of both -/
theorem aw_ali (C : lwC l p R s ml args c D A Z g g' b L xs) (h : okA X) (hR : R2 D.2.2 2000 Z g g' X X J) (hc : t.2.1 ≤ cb) (hn : t.2.2 ≤ nb) (hRc : cb + 8000 ≤ R.cells ∧ nb + 48000 ≤ R.slots) (hq : aFind (aPs yHd) pc = some (.invokestatic 195, 3)) (kk : ∀ J' t', R2 D.2.2 2000 Z g g' X X J' → t'.2.1 ≤ cb + 8000 → t'.2.2 ≤ nb + 48000 → aW p l e R s ml args below meth c D A Q (pc + 3, (lv, [.int 1])) (aMem Z J', t')) : aW p l e R s ml args below meth c D A Q (pc, (lv, [.ref g', .ref g])) (aMem Z J, t) := by
  obtain ⟨hl0, X0, hml, hRm, ⟨hE, hsg, hsg'⟩, hX, hbl, hbA, hL⟩ := id C
  obtain ⟨x, J1, e1, rfl, R1⟩ := alike (kad := D.2.2) (N := 2000) (Z := Z) (Nat.le_refl 2000) h hR
  refine aw_stat (argv := [.ref g, .ref g']) (rest := []) (n := 186) (z := aM186) (np := 2) (cx := 0 + 4 * 2000) (v := 1) (I' := J1) hl0 okHd X0 hRm hq aMi186 wAli (by decide +kernel) rfl (Nat.le_of_ble_eq_true rfl) (Nat.le_of_ble_eq_true rfl) ⟨by omega, by omega⟩ (Tf186 (kad := D.2.2) (N := 2000) (Z := Z) (d := 40) (t := t) (by omega) g hsg g' hsg' J (.inl 1, J1) e1) (fun t1 ht1 => ?_)
  obtain ⟨-, b1, b2⟩ := ht1.four
  exact kk J1 t1 R1 (by omega) (by omega)
theorem aw_mac (C : lwC l p R s ml args c D A Z g g' b L xs) (h : okA X) {wc : Nat} (hW : wBd wc X) (hwc : wc ≤ 900000) (hR : R2 D.2.2 2000 Z g g' X X J) (hc : t.2.1 ≤ cb) (hn : t.2.2 ≤ nb) (hRc : cb + 4001 ≤ R.cells ∧ nb + 24006 ≤ R.slots) (hq : aFind (aPs yHd) pc = some (.invokestatic 199, 3)) (kk : ∀ J' t', R2 D.2.2 2000 Z g g' X X J' → t'.2.1 ≤ cb + 4001 → t'.2.2 ≤ nb + 24006 → aW p l e R s ml args below meth c D A Q (pc + 3, (lv, [.int 1])) (aMem Z J', t')) : aW p l e R s ml args below meth c D A Q (pc, (lv, [.int v, .ref g])) (aMem Z J, t) := by
  obtain ⟨hl0, X0, hml, hRm, ⟨hE, hsg, hsg'⟩, hX, hbl, hbA, hL⟩ := id C
  obtain ⟨x, J1, e1, rfl, R1⟩ := isMachine (kad := D.2.2) (N := 2000) (Z := Z) (i1 := v) (Nat.le_refl 2000) h hW hwc hR
  refine aw_stat (argv := [.ref g, .int v]) (rest := []) (n := 187) (z := aM187) (np := 2) (cx := 1 + 2 * 2000) (v := 1) (I' := J1) hl0 okHd X0 hRm hq aMi187 wMac (by decide +kernel) rfl (Nat.le_of_ble_eq_true rfl) (Nat.le_of_ble_eq_true rfl) ⟨by omega, by omega⟩ (Tf187 (kad := D.2.2) (N := 2000) (Z := Z) (d := 40) (t := t) (by omega) g hsg v J (.inl 1, J1) e1) (fun t1 ht1 => ?_)
  obtain ⟨-, b1, b2⟩ := ht1.four
  exact kk J1 t1 R1 (by omega) (by omega)
theorem aw_bac (C : lwC l p R s ml args c D A Z g g' b L xs) (h : okA X) (hv : ¬ bad v 1 100) (hR : R2 D.2.2 2000 Z g g' X X J) (hc : t.2.1 ≤ cb) (hn : t.2.2 ≤ nb) (hRc : cb + 7 ≤ R.cells ∧ nb + 42 ≤ R.slots) (hq : aFind (aPs yHd) pc = some (.invokestatic 203, 3)) (kk : ∀ X' J' t', okA X' → (∀ c, wBd c X → wBd (c + 1004) X') → R2 D.2.2 2000 Z g g' X' X' J' → t'.2.1 ≤ cb + 7 → t'.2.2 ≤ nb + 42 → aW p l e R s ml args below meth c D A Q (pc + 3, (lv, [.int 1])) (aMem Z J', t')) : aW p l e R s ml args below meth c D A Q (pc, (lv, [.int v, .ref g', .ref g])) (aMem Z J, t) := by
  obtain ⟨hl0, X0, hml, hRm, ⟨hE, hsg, hsg'⟩, hX, hbl, hbA, hL⟩ := id C
  obtain ⟨X', ⟨hX1, hX2⟩, x, J1, e1, rfl, R1⟩ := isBack (kad := D.2.2) (N := 2000) (Z := Z) (a := v) h hv hR
  refine aw_stat (argv := [.ref g, .ref g', .int v]) (rest := []) (n := 188) (z := aM188) (np := 3) (cx := 7) (v := 1) (I' := J1) hl0 okHd X0 hRm hq aMi188 wBac (by decide +kernel) rfl (Nat.le_of_ble_eq_true rfl) (Nat.le_of_ble_eq_true rfl) ⟨by omega, by omega⟩ (Tf188 (kad := D.2.2) (N := 2000) (Z := Z) (d := 40) (t := t) (by omega) g hsg g' hsg' v J (1, J1) e1) (fun t1 ht1 => ?_)
  obtain ⟨-, b1, b2⟩ := ht1.four
  exact kk X' J1 t1 hX1 hX2 R1 (by omega) (by omega)
theorem aw_sou (C : lwC l p R s ml args c D A Z g g' b L xs) (h : okA X) (hR : R2 D.2.2 2000 Z g g' X X J) (hc : t.2.1 ≤ cb) (hn : t.2.2 ≤ nb) (hRc : cb + 3 ≤ R.cells ∧ nb + 18 ≤ R.slots) (hq : aFind (aPs yHd) pc = some (.invokestatic 207, 3)) (kk : ∀ X' J' t', okA X' → (∀ c, wBd c X → wBd (c + 1004) X') → R2 D.2.2 2000 Z g g' X' X' J' → t'.2.1 ≤ cb + 3 → t'.2.2 ≤ nb + 18 → aW p l e R s ml args below meth c D A Q (pc + 3, (lv, [.int 1])) (aMem Z J', t')) : aW p l e R s ml args below meth c D A Q (pc, (lv, [.ref g', .ref g])) (aMem Z J, t) := by
  obtain ⟨hl0, X0, hml, hRm, ⟨hE, hsg, hsg'⟩, hX, hbl, hbA, hL⟩ := id C
  obtain ⟨X', ⟨hX1, hX2⟩, x, J1, e1, rfl, R1⟩ := isSource (kad := D.2.2) (N := 2000) (Z := Z) h hR
  refine aw_stat (argv := [.ref g, .ref g']) (rest := []) (n := 190) (z := aM190) (np := 2) (cx := 3) (v := 1) (I' := J1) hl0 okHd X0 hRm hq aMi190 wSou (by decide +kernel) rfl (Nat.le_of_ble_eq_true rfl) (Nat.le_of_ble_eq_true rfl) ⟨by omega, by omega⟩ (Tf190 (kad := D.2.2) (N := 2000) (Z := Z) (d := 40) (t := t) (by omega) g hsg g' hsg' J (.inl 1, J1) e1) (fun t1 ht1 => ?_)
  obtain ⟨-, b1, b2⟩ := ht1.four
  exact kk X' J1 t1 hX1 hX2 R1 (by omega) (by omega)
theorem aw_cra (C : lwC l p R s ml args c D A Z g g' b L xs) (h : okA X) (hR : R2 D.2.2 2000 Z g g' X X J) (hc : t.2.1 ≤ cb) (hn : t.2.2 ≤ nb) (hRc : cb + 5 ≤ R.cells ∧ nb + 30 ≤ R.slots) (hq : aFind (aPs yHd) pc = some (.invokestatic 210, 3)) (kk : ∀ X' J' t', okA X' → (∀ c, wBd c X → wBd (c + 1004) X') → R2 D.2.2 2000 Z g g' X' X' J' → t'.2.1 ≤ cb + 5 → t'.2.2 ≤ nb + 30 → aW p l e R s ml args below meth c D A Q (pc + 3, (lv, [.int 1])) (aMem Z J', t')) : aW p l e R s ml args below meth c D A Q (pc, (lv, [.ref g', .ref g])) (aMem Z J, t) := by
  obtain ⟨hl0, X0, hml, hRm, ⟨hE, hsg, hsg'⟩, hX, hbl, hbA, hL⟩ := id C
  obtain ⟨X', ⟨hX1, hX2⟩, x, J1, e1, rfl, R1⟩ := isCrash (kad := D.2.2) (N := 2000) (Z := Z) h hR
  refine aw_stat (argv := [.ref g, .ref g']) (rest := []) (n := 189) (z := aM189) (np := 2) (cx := 5) (v := 1) (I' := J1) hl0 okHd X0 hRm hq aMi189 wCra (by decide +kernel) rfl (Nat.le_of_ble_eq_true rfl) (Nat.le_of_ble_eq_true rfl) ⟨by omega, by omega⟩ (Tf189 (kad := D.2.2) (N := 2000) (Z := Z) (d := 40) (t := t) (by omega) g hsg g' hsg' J (.inl 1, J1) e1) (fun t1 ht1 => ?_)
  obtain ⟨-, b1, b2⟩ := ht1.four
  exact kk X' J1 t1 hX1 hX2 R1 (by omega) (by omega)
/-- what the turns may make -/
def bud (k : Nat) : Nat := 20 * k + 8000 * ((k + 2) / 6) + 4001 * ((k + 1) / 3)
theorem seg_ali (C : lwC l p R s ml args c D A Z g g' b L xs) (hk : k < 80) {x : Nat} (hx : k % 6 = 3 → 8000 ≤ x) (h : okA X) (hR : R2 D.2.2 2000 Z g g' X X J) (hc : t.2.1 ≤ cb) (hn : t.2.2 ≤ nb) (hRc : cb + 8000 ≤ R.cells ∧ nb + 48000 ≤ R.slots) (kk : ∀ J' t', R2 D.2.2 2000 Z g g' X X J' → t'.2.1 ≤ cb + x → t'.2.2 ≤ nb + 6 * x → aW p l e R s ml args below meth c D A Q (126, (lv5 k b g g' v, [])) (aMem Z J', t')) : aW p l e R s ml args below meth c D A Q (109, (lv5 k b g g' v, [])) (aMem Z J, t) := by
  obtain ⟨hl0, X0, hml, hRm, ⟨hE, hsg, hsg'⟩, hX, hbl, hbA, hL⟩ := id C
  refine aw_ops okHd X0 hml 4 _ (f1 := (115, (lv5 k b g g' v, [.int 3, .int (Int32.ofNat k - Int32.ofNat k / 6 * 6)]))) rfl ?_
  rw [show Int32.ofNat k - Int32.ofNat k / (6 : Int32) * (6 : Int32) = Int32.ofNat (k % 6) from eR (n := 6) (by omega) (by decide) (by decide)]
  refine aw_br (st1 := []) (bb := decide (¬ Int32.ofNat (k % 6) = 3)) (off := 11) (tg := 126) okHd X0 hml rfl rfl rfl (fun hb => ?_) (fun hb => ?_)
  · exact kk J t hR (Nat.le_trans hc (Nat.le_add_right _ _)) (Nat.le_trans hn (Nat.le_add_right _ _))
  · have h3 : k % 6 = 3 := (of_inj (n := 3) (by omega) (by decide)).mp (Classical.not_not.mp (of_decide_eq_false hb))
    have hx := hx h3
    refine aw_ops okHd X0 hml 2 _ (f1 := (120, (lv5 k b g g' v, [.ref g', .ref g]))) rfl ?_
    refine aw_ali C h hR hc hn hRc rfl (fun J' t' R' c' n' => ?_)
    exact aw_br (st1 := []) (bb := decide ((1 : Int32) = 0)) (off := 26) (tg := 149) okHd X0 hml rfl rfl rfl (fun h => absurd h (by decide)) (fun _ => kk J' t' R' (by omega) (by omega))
theorem seg_mac (C : lwC l p R s ml args c D A Z g g' b L xs) (hk : k < 80) {x : Nat} (hx : k % 3 = 1 → 4001 ≤ x) (h : okA X) {wc : Nat} (hW : wBd wc X) (hwc : wc ≤ 900000) (hR : R2 D.2.2 2000 Z g g' X X J) (hc : t.2.1 ≤ cb) (hn : t.2.2 ≤ nb) (hRc : cb + 4001 ≤ R.cells ∧ nb + 24006 ≤ R.slots) (kk : ∀ J' t', R2 D.2.2 2000 Z g g' X X J' → t'.2.1 ≤ cb + x → t'.2.2 ≤ nb + 6 * x → aW p l e R s ml args below meth c D A Q (151, (lv5 k b g g' v, [])) (aMem Z J', t')) : aW p l e R s ml args below meth c D A Q (126, (lv5 k b g g' v, [])) (aMem Z J, t) := by
  obtain ⟨hl0, X0, hml, hRm, ⟨hE, hsg, hsg'⟩, hX, hbl, hbA, hL⟩ := id C
  have fin : ∀ J' t', aW p l e R s ml args below meth c D A Q (151, (lv5 k b g g' v, [])) (aMem Z J', t') → aW p l e R s ml args below meth c D A Q (145, (lv5 k b g g' v, [])) (aMem Z J', t') := fun J' t' hh => by
    refine aw_ops okHd X0 hml 3 _ (f1 := (151, ([(3, .int 1), (5, .int v), (4, .int (Int32.ofNat k)), (2, .ref g'), (1, .ref g), (0, .ref b)], []))) rfl ?_
    exact aw_le (fun q hq => by simp only [lv5, List.mem_cons, List.not_mem_nil, or_false] at hq ⊢; grind) hh
  refine aw_ops okHd X0 hml 4 _ (f1 := (131, (lv5 k b g g' v, [.int 1, .int (Int32.ofNat k - Int32.ofNat k / 3 * 3)]))) rfl ?_
  rw [show Int32.ofNat k - Int32.ofNat k / (3 : Int32) * (3 : Int32) = Int32.ofNat (k % 3) from eR (n := 3) (by omega) (by decide) (by decide)]
  refine aw_br (st1 := []) (bb := decide (¬ Int32.ofNat (k % 3) = 1)) (off := 14) (tg := 145) okHd X0 hml rfl rfl rfl (fun hb => ?_) (fun hb => ?_)
  · exact fin J t (kk J t hR (Nat.le_trans hc (Nat.le_add_right _ _)) (Nat.le_trans hn (Nat.le_add_right _ _)))
  · have h3 : k % 3 = 1 := (of_inj (n := 1) (by omega) (by decide)).mp (Classical.not_not.mp (of_decide_eq_false hb))
    have hx := hx h3
    refine aw_ops okHd X0 hml 4 _ (f1 := (139, (lv5 k b g g' v, [.int (v >>> ((5 : Int32) &&& 31)), .ref g]))) rfl ?_
    refine aw_mac C h hW hwc hR hc hn hRc rfl (fun J' t' R' c' n' => ?_)
    exact aw_br (st1 := []) (bb := decide ((1 : Int32) = 0)) (off := 7) (tg := 149) okHd X0 hml rfl rfl rfl (fun h => absurd h (by decide)) (fun _ => fin J' t' (kk J' t' R' (by omega) (by omega)))
theorem seg_bac (C : lwC l p R s ml args c D A Z g g' b L xs) (h : okA X) (hR : R2 D.2.2 2000 Z g g' X X J) (hc : t.2.1 ≤ cb) (hn : t.2.2 ≤ nb) (hRc : cb + 7 ≤ R.cells ∧ nb + 42 ≤ R.slots) (kk : ∀ X' J' t', okA X' → (∀ c, wBd c X → wBd (c + 1004) X') → R2 D.2.2 2000 Z g g' X' X' J' → t'.2.1 ≤ cb + 7 → t'.2.2 ≤ nb + 42 → aW p l e R s ml args below meth c D A Q (190, (lv5 k b g g' v, [])) (aMem Z J', t')) : aW p l e R s ml args below meth c D A Q (151, (lv5 k b g g' v, [])) (aMem Z J, t) := by
  obtain ⟨hl0, X0, hml, hRm, ⟨hE, hsg, hsg'⟩, hX, hbl, hbA, hL⟩ := id C
  refine aw_ops okHd X0 hml 4 _ (f1 := (157, (lv5 k b g g' v, [.int 5, .int (Int32.ofNat k - Int32.ofNat k / 8 * 8)]))) rfl ?_
  generalize Int32.ofNat k - Int32.ofNat k / 8 * 8 = w
  refine aw_br (st1 := []) (bb := decide (¬ w = 5)) (off := 33) (tg := 190) okHd X0 hml rfl rfl rfl (fun _ => kk X J t h (fun c hh => wBd.mono hh (by omega)) hR (by omega) (by omega)) (fun _ => ?_)
  refine aw_ops okHd X0 hml 1 _ (f1 := (161, (lv5 k b g g' v, [.int 1]))) rfl ?_
  refine aw_br (st1 := []) (bb := decide ((1 : Int32) = 0)) (off := 27) (tg := 188) okHd X0 hml rfl rfl rfl (fun h => absurd h (by decide)) (fun _ => ?_)
  refine aw_ops okHd X0 hml 7 _ (f1 := (174, (lv5 k b g g' v, [.int 20, .int (v >>> ((6 : Int32) &&& 31)), .int 1, .ref g', .ref g]))) rfl ?_
  refine aw_low C (by decide) rfl (Nat.le_of_ble_eq_true rfl) ⟨by omega, by omega⟩ ?_
  obtain ⟨j, j1, j2⟩ := low_n (v >>> ((6 : Int32) &&& 31)) (n := 20) (by decide) (by decide)
  have j2 : lowF (v >>> ((6 : Int32) &&& 31)) 20 = Int32.ofNat j := j2
  rw [j2]
  refine aw_ops okHd X0 hml 1 _ (f1 := (178, (lv5 k b g g' v, [.int (1 + Int32.ofNat j), .ref g', .ref g]))) rfl ?_
  rw [show (1 : Int32) + Int32.ofNat j = Int32.ofNat (1 + j) from eA 1 j]
  refine aw_bac C h (by
    rintro (x | x)
    · exact absurd ((of_lt (m := 1 + j) (n := 1) (by omega) (by decide)).mp x) (by omega)
    · exact absurd ((of_lt (m := 100) (n := 1 + j) (by decide) (by omega)).mp x) (by omega)) hR hc hn hRc rfl (fun X' J' t' a1 a2 R' c' n' => ?_)
  refine aw_br (st1 := []) (bb := decide ((1 : Int32) = 0)) (off := 7) (tg := 188) okHd X0 hml rfl rfl rfl (fun h => absurd h (by decide)) (fun _ => ?_)
  refine aw_ops okHd X0 hml 3 _ (f1 := (190, ([(3, .int 1), (5, .int v), (4, .int (Int32.ofNat k)), (2, .ref g'), (1, .ref g), (0, .ref b)], []))) rfl ?_
  exact aw_le (fun q hq => by simp only [lv5, List.mem_cons, List.not_mem_nil, or_false] at hq ⊢; grind) (kk X' J' t' a1 a2 R' c' n')
theorem seg_sou (C : lwC l p R s ml args c D A Z g g' b L xs) (h : okA X) (hR : R2 D.2.2 2000 Z g g' X X J) (hc : t.2.1 ≤ cb) (hn : t.2.2 ≤ nb) (hRc : cb + 3 ≤ R.cells ∧ nb + 18 ≤ R.slots) (kk : ∀ X' J' t', okA X' → (∀ c, wBd c X → wBd (c + 1004) X') → R2 D.2.2 2000 Z g g' X' X' J' → t'.2.1 ≤ cb + 3 → t'.2.2 ≤ nb + 18 → aW p l e R s ml args below meth c D A Q (218, (lv5 k b g g' v, [])) (aMem Z J', t')) : aW p l e R s ml args below meth c D A Q (190, (lv5 k b g g' v, [])) (aMem Z J, t) := by
  obtain ⟨hl0, X0, hml, hRm, ⟨hE, hsg, hsg'⟩, hX, hbl, hbA, hL⟩ := id C
  refine aw_ops okHd X0 hml 4 _ (f1 := (197, (lv5 k b g g' v, [.int 9, .int (Int32.ofNat k - Int32.ofNat k / 11 * 11)]))) rfl ?_
  generalize Int32.ofNat k - Int32.ofNat k / 11 * 11 = w
  refine aw_br (st1 := []) (bb := decide (¬ w = 9)) (off := 21) (tg := 218) okHd X0 hml rfl rfl rfl (fun _ => kk X J t h (fun c hh => wBd.mono hh (by omega)) hR (by omega) (by omega)) (fun _ => ?_)
  refine aw_ops okHd X0 hml 1 _ (f1 := (201, (lv5 k b g g' v, [.int 1]))) rfl ?_
  refine aw_br (st1 := []) (bb := decide ((1 : Int32) = 0)) (off := 15) (tg := 216) okHd X0 hml rfl rfl rfl (fun h => absurd h (by decide)) (fun _ => ?_)
  refine aw_ops okHd X0 hml 2 _ (f1 := (206, (lv5 k b g g' v, [.ref g', .ref g]))) rfl ?_
  refine aw_sou C h hR hc hn hRc rfl (fun X' J' t' a1 a2 R' c' n' => ?_)
  refine aw_br (st1 := []) (bb := decide ((1 : Int32) = 0)) (off := 7) (tg := 216) okHd X0 hml rfl rfl rfl (fun h => absurd h (by decide)) (fun _ => ?_)
  refine aw_ops okHd X0 hml 3 _ (f1 := (218, ([(3, .int 1), (5, .int v), (4, .int (Int32.ofNat k)), (2, .ref g'), (1, .ref g), (0, .ref b)], []))) rfl ?_
  exact aw_le (fun q hq => by simp only [lv5, List.mem_cons, List.not_mem_nil, or_false] at hq ⊢; grind) (kk X' J' t' a1 a2 R' c' n')
theorem seg_cra (C : lwC l p R s ml args c D A Z g g' b L xs) (h : okA X) (hR : R2 D.2.2 2000 Z g g' X X J) (hc : t.2.1 ≤ cb) (hn : t.2.2 ≤ nb) (hRc : cb + 5 ≤ R.cells ∧ nb + 30 ≤ R.slots) (kk : ∀ X' J' t', okA X' → (∀ c, wBd c X → wBd (c + 1004) X') → R2 D.2.2 2000 Z g g' X' X' J' → t'.2.1 ≤ cb + 5 → t'.2.2 ≤ nb + 30 → aW p l e R s ml args below meth c D A Q (246, (lv5 k b g g' v, [])) (aMem Z J', t')) : aW p l e R s ml args below meth c D A Q (218, (lv5 k b g g' v, [])) (aMem Z J, t) := by
  obtain ⟨hl0, X0, hml, hRm, ⟨hE, hsg, hsg'⟩, hX, hbl, hbA, hL⟩ := id C
  refine aw_ops okHd X0 hml 4 _ (f1 := (225, (lv5 k b g g' v, [.int 10, .int (Int32.ofNat k - Int32.ofNat k / 13 * 13)]))) rfl ?_
  generalize Int32.ofNat k - Int32.ofNat k / 13 * 13 = w
  refine aw_br (st1 := []) (bb := decide (¬ w = 10)) (off := 21) (tg := 246) okHd X0 hml rfl rfl rfl (fun _ => kk X J t h (fun c hh => wBd.mono hh (by omega)) hR (by omega) (by omega)) (fun _ => ?_)
  refine aw_ops okHd X0 hml 1 _ (f1 := (229, (lv5 k b g g' v, [.int 1]))) rfl ?_
  refine aw_br (st1 := []) (bb := decide ((1 : Int32) = 0)) (off := 15) (tg := 244) okHd X0 hml rfl rfl rfl (fun h => absurd h (by decide)) (fun _ => ?_)
  refine aw_ops okHd X0 hml 2 _ (f1 := (234, (lv5 k b g g' v, [.ref g', .ref g]))) rfl ?_
  refine aw_cra C h hR hc hn hRc rfl (fun X' J' t' a1 a2 R' c' n' => ?_)
  refine aw_br (st1 := []) (bb := decide ((1 : Int32) = 0)) (off := 7) (tg := 244) okHd X0 hml rfl rfl rfl (fun h => absurd h (by decide)) (fun _ => ?_)
  refine aw_ops okHd X0 hml 3 _ (f1 := (246, ([(3, .int 1), (5, .int v), (4, .int (Int32.ofNat k)), (2, .ref g'), (1, .ref g), (0, .ref b)], []))) rfl ?_
  exact aw_le (fun q hq => by simp only [lv5, List.mem_cons, List.not_mem_nil, or_false] at hq ⊢; grind) (kk X' J' t' a1 a2 R' c' n')
set_option maxRecDepth 20000 in
/-- the loop: from its head to its end -/
theorem law_loop (C : lwC l p R s ml args c D A Z g g' b L xs) (hRc : 300000 ≤ R.cells ∧ 2000000 ≤ R.slots) (hend : ∀ X J t, okA X → wBd 330000 X → R2 D.2.2 2000 Z g g' X X J → t.2.1 ≤ 220000 → t.2.2 ≤ 1400000 → aW p l e R s ml args below meth c D A Q (252, (lvK 80 b g g', [])) (aMem Z J, t)) : ∀ (n k : Nat) (X : XA) (J : AI) (t : Option Nat × (Nat × Nat)), k + n = 80 → okA X → wBd (4100 * k) X → R2 D.2.2 2000 Z g g' X X J → t.2.1 ≤ 4000 + bud k → t.2.2 ≤ 50000 + 6 * bud k → aW p l e R s ml args below meth c D A Q (21, (lvK k b g g', [])) (aMem Z J, t) := by
  intro n
  induction n with
  | zero =>
    intro k X J t hk h hW hR hc hn
    obtain rfl : k = 80 := by omega
    obtain ⟨hl0, X0, hml, hRm, ⟨hE, hsg, hsg'⟩, hX, hbl, hbA, hL⟩ := id C
    have eb : bud 80 = 213627 := rfl
    refine aw_ops okHd X0 hml 2 _ (f1 := (25, (lvK 80 b g g', [.int 80, .int (Int32.ofNat 80)]))) rfl ?_
    refine aw_br (st1 := []) (bb := decide ((80 : Int32) ≤ Int32.ofNat 80)) (off := 227) (tg := 252) okHd X0 hml rfl rfl rfl (fun _ => hend X J t h (hW.mono (by omega)) hR (by omega) (by omega)) (fun hh => absurd hh (by decide))
  | succ n ih =>
    intro k X J t hk h hW hR hc hn
    obtain ⟨hl0, X0, hml, hRm, ⟨hE, hsg, hsg'⟩, hX, hbl, hbA, hL⟩ := id C
    have hk80 : k < 80 := by omega
    obtain ⟨x, y, hx, hy, bk, hx8, hy4⟩ : ∃ x y, (k % 6 = 3 → 8000 ≤ x) ∧ (k % 3 = 1 → 4001 ≤ y) ∧ bud (k + 1) = bud k + (20 + (x + y)) ∧ x ≤ 8000 ∧ y ≤ 4001 := by
      by_cases h6 : k % 6 = 3
      · exact ⟨8000, 0, fun _ => Nat.le_refl _, fun h3 => by omega, by unfold bud; omega, Nat.le_refl _, Nat.zero_le _⟩
      · by_cases h3 : k % 3 = 1
        · exact ⟨0, 4001, fun hh => absurd hh h6, fun _ => Nat.le_refl _, by unfold bud; omega, Nat.zero_le _, Nat.le_refl _⟩
        · exact ⟨0, 0, fun hh => absurd hh h6, fun hh => absurd hh h3, by unfold bud; omega, Nat.zero_le _, Nat.zero_le _⟩
    have bk2 : bud k + 12100 ≤ 230000 := by
      unfold bud
      omega
    refine aw_ops okHd X0 hml 2 _ (f1 := (25, (lvK k b g g', [.int 80, .int (Int32.ofNat k)]))) rfl ?_
    refine aw_br (st1 := []) (bb := decide ((80 : Int32) ≤ Int32.ofNat k)) (off := 227) (tg := 252) okHd X0 hml rfl rfl rfl (fun hh => absurd ((of_le (m := 80) (n := k) (by decide) (by omega)).mp (of_decide_eq_true hh)) (by omega)) (fun _ => ?_)
    refine seg_v C hk80 ⟨by omega, by omega⟩ (fun v => ?_)
    refine seg_act C h hR hc hn ⟨by omega, by omega⟩ (fun X1 J1 t1 h1 W1 R1 c1 n1 => ?_)
    have hW1 := W1 _ hW
    refine seg_ali C hk80 hx h1 R1 c1 n1 ⟨by omega, by omega⟩ (fun J2 t2 R2' c2 n2 => ?_)
    refine seg_mac C hk80 hy h1 hW1 (by omega) R2' c2 n2 ⟨by omega, by omega⟩ (fun J3 t3 R3 c3 n3 => ?_)
    refine seg_bac C h1 R3 c3 n3 ⟨by omega, by omega⟩ (fun X4 J4 t4 h4 W4 R4 c4 n4 => ?_)
    have hW4 := W4 _ hW1
    refine seg_sou C h4 R4 c4 n4 ⟨by omega, by omega⟩ (fun X5 J5 t5 h5 W5 R5 c5 n5 => ?_)
    have hW5 := W5 _ hW4
    refine seg_cra C h5 R5 c5 n5 ⟨by omega, by omega⟩ (fun X6 J6 t6 h6 W6 R6 c6 n6 => ?_)
    have hW6 := W6 _ hW5
    refine aw_ops okHd X0 hml 2 _ (f1 := (21, ([(4, .int (Int32.ofNat k + Int32.ofInt 1)), (5, .int v), (3, .int 1), (2, .ref g'), (1, .ref g), (0, .ref b)], []))) rfl ?_
    rw [show Int32.ofNat k + Int32.ofInt 1 = Int32.ofNat (k + 1) from of_s k]
    refine aw_le (lv' := lvK (k + 1) b g g') (fun q hq => by simp only [lvK, List.mem_cons, List.not_mem_nil, or_false] at hq ⊢; grind) ?_
    exact ih (k + 1) X6 J6 t6 (by omega) h6 (hW6.mono (by omega)) R6 (by omega) (by omega)
end LOOP
