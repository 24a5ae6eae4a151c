/-! p53: what a caught call answers; that it hangs on the state alone; two objects at once -/
def hv (th : Nat) (v : Int32) : Int32 := if th = 0 then v else Int32.ofInt (-99999999)
theorem ofk_ne {k : Nat} (hk : k ≤ 2000000) : ¬ Int32.ofNat k = Int32.ofInt (-99999999) := fun h => of_nn (n := k) (by omega) (by rw [h]; decide)
/-- blocks written at the start, at most so many -/
def wBd (c : Nat) (A : XA) : Prop := ∃ w, w ≤ c ∧ A.2.2.1.2.2.2.2.1 = Int32.ofNat w
theorem wBd.same {A A' : XA} (h : A'.2.2.1.2.2.2.2.1 = A.2.2.1.2.2.2.2.1) : ∀ c, wBd c A → wBd (c + 1004) A' := fun c ⟨w, h1, h2⟩ => ⟨w, by omega, h.trans h2⟩
theorem wBd.add {A A' : XA} {r : Nat} (hr : r ≤ 1004) (h : A'.2.2.1.2.2.2.2.1 = A.2.2.1.2.2.2.2.1 + Int32.ofNat r) : ∀ c, wBd c A → wBd (c + 1004) A' := fun c ⟨w, h1, h2⟩ => ⟨w + r, by omega, by rw [h, h2, Int32.ofNat_add]⟩
/-- the answer, and what is there then, hang on the state alone; what throws changes nothing -/
def DETc (kad : Nat → Nat) (N : Nat) (Z : AZ) (fn : Nat → AI → Option (Int32 × AI)) (A : XA) : Prop := ∃ v A', CALQ kad N Z fn A v A' ∧ (v = Int32.ofInt (-99999999) → A' = A) ∧ (∀ c, wBd c A → wBd (c + 1004) A')
section PD
variable {kad : Nat → Nat} {N : Nat} {Z : AZ} {A A' B : XA} {th : Nat} {v : Int32} {es hs : List Nat}
theorem CALL.hr {fn : Nat → AI → Option ((Int32 ⊕ String) × AI)} (hC : CALL kad N Z es fn A th v A') (hes : ∀ k, k < es.length → es.getD k 0 ∈ hs) : CALQ kad N Z (fun g I => (fn g I).bind (hRo hs)) A (hv th v) A' := by
  refine ⟨hC.1.2, fun g I hE H => ?_⟩
  obtain ⟨J, e1, e2, e3⟩ := hC.2 g I hE H
  refine ⟨J, ?_, e2, e3⟩
  show (fn g I).bind (hRo hs) = _
  rw [e1, Option.bind_some]
  unfold hRo rx hv
  by_cases h0 : th = 0
  · rw [if_pos h0, if_pos h0]
  · rw [if_neg h0, if_neg h0]
    dsimp only
    rw [if_pos (List.any_eq_true.mpr ⟨_, hes (th - 1) (by have := hC.1.1; omega), decide_eq_true rfl⟩)]
theorem DETc.of {fn fn' : Nat → AI → Option (Int32 × AI)} (h : DETc kad N Z fn A) (e : ∀ g I, fn' g I = fn g I) : DETc kad N Z fn' A := by
  have : fn' = fn := funext fun g => funext fun I => e g I
  rw [this]
  exact h
theorem CALL.det {fn : Nat → AI → Option ((Int32 ⊕ String) × AI)} (hC : CALL kad N Z es fn A th v A') (hes : ∀ k, k < es.length → es.getD k 0 ∈ hs) (h1 : ¬ th = 0 → A' = A) (h2 : th = 0 → ∃ k, k ≤ 2000000 ∧ v = Int32.ofNat k) (h3 : ∀ c, wBd c A → wBd (c + 1004) A' := by exact wBd.same rfl) : DETc kad N Z (fun g I => (fn g I).bind (hRo hs)) A := by
  refine ⟨_, A', hC.hr hes, fun hh => ?_, h3⟩
  by_cases h0 : th = 0
  · obtain ⟨k, k1, k2⟩ := h2 h0
    unfold hv at hh
    rw [if_pos h0, k2] at hh
    exact absurd hh (ofk_ne k1)
  · exact h1 h0
theorem CALQ.det {fn : Nat → AI → Option (Int32 × AI)} (hC : CALQ kad N Z fn A v A') (h2 : ∃ k, k ≤ 2000000 ∧ v = Int32.ofNat k) (h3 : ∀ c, wBd c A → wBd (c + 1004) A' := by exact wBd.same rfl) : DETc kad N Z fn A := ⟨v, A', hC, fun hh => by
  obtain ⟨k, k1, k2⟩ := h2
  exact absurd (k2.symm.trans hh) (ofk_ne k1), h3⟩
theorem ADDp.det {fn : Nat → AI → Option ((Int32 ⊕ String) × AI)} {n : Nat} {L : AI} {R : (Int32 × (Nat → Int32)) × ((Bool × XM) × (Nat × AI))} (h : ADDp kad N Z es fn n L R) (hes : ∀ k, k < es.length → es.getD k 0 ∈ hs) : DETc kad N Z (fun g I => (fn g I).bind (hRo hs)) ((n, L), R) := by
  obtain ⟨th, v, n', L', hC, h1, h2⟩ := h
  refine hC.det hes (fun hh => ?_) (fun hh => ?_)
  · obtain ⟨rfl, rfl⟩ := h1 hh; rfl
  · obtain ⟨k, k1, k2⟩ := h2 hh
    exact ⟨k, by omega, k2⟩
theorem run_1000 {K B : AI} {ad : Int32} {n s : Nat} : run K B ad n s ≤ 1000 := by
  by_cases h : run K B ad n s = 0
  · omega
  · have := (run_ok (K := K) (B := B) ad n s (s + run K B ad n s - 1) (by omega) (by omega)).2
    omega
theorem cFi_n {D : Nat → Int32} : ∀ (n t a : Nat), ∃ k, k ≤ a + n ∧ cFi D n t (Int32.ofNat a) = Int32.ofNat k := by
  intro n
  induction n with
  | zero => intro t a; exact ⟨a, Nat.le_refl _, rfl⟩
  | succ n ih =>
    intro t a
    unfold cFi
    by_cases h : D (40 + 4 * t) = 0
    · rw [if_pos h]
      obtain ⟨k, k1, k2⟩ := ih (t + 1) a
      exact ⟨k, by omega, k2⟩
    · rw [if_neg h, of_s]
      obtain ⟨k, k1, k2⟩ := ih (t + 1) (a + 1)
      exact ⟨k, by omega, k2⟩
theorem sumX_lt {X : AI} : sumX X < 1000003 := mxs_lt _ _ _ (mx_lt _ _)
/-- the helper for lines -/
theorem D0 (h : okA A) {how a b kd n : Int32} (hh : how = 0 ∨ how = 1 ∨ how = 2 ∨ how = 3 ∨ how = 4 ∨ how = 5 ∨ how = 6 ∨ how = 7 ∨ how = 8) : DETc kad N Z (fun g I => fH0 kad N Z g how a b kd n I) A := by
  obtain ⟨⟨n0, L⟩, R⟩ := A
  have i01 : ∀ k, k < [0, 1].length → [0, 1].getD k 0 ∈ [0, 1] := by decide
  have i1 : ∀ k, k < [1].length → [1].getD k 0 ∈ [0, 1] := by decide
  rcases hh with rfl | rfl | rfl | rfl | rfl | rfl | rfl | rfl | rfl
  · exact ((P126 (kad := kad) (N := N) (Z := Z) (a := a) h).det i01).of fun g I => by unfold fH0; rw [if_pos rfl]
  · exact ((P127 (kad := kad) (N := N) (Z := Z) (a := a) h).det i01).of fun g I => by unfold fH0; rw [if_neg (by decide), if_pos rfl]
  · exact ((P130 (kad := kad) (N := N) (Z := Z) (a := a) h).det i01).of fun g I => by unfold fH0; rw [if_neg (by decide), if_neg (by decide), if_pos rfl]
  · exact ((P132 (kad := kad) (N := N) (Z := Z) (a := a) h).det i01).of fun g I => by unfold fH0; rw [if_neg (by decide), if_neg (by decide), if_neg (by decide), if_pos rfl]
  · exact ((P133 (kad := kad) (N := N) (Z := Z) h).det i1).of fun g I => by unfold fH0; rw [if_neg (by decide), if_neg (by decide), if_neg (by decide), if_neg (by decide), if_pos rfl]
  · exact ((P129 (kad := kad) (N := N) (Z := Z) (a := kd) (b := n) h).det i01).of fun g I => by unfold fH0; rw [if_neg (by decide), if_neg (by decide), if_neg (by decide), if_neg (by decide), if_neg (by decide), if_pos rfl]
  · exact ((P131 (kad := kad) (N := N) (Z := Z) (a := a) (b := kd) (c := n) h).det i01).of fun g I => by unfold fH0; rw [if_neg (by decide), if_neg (by decide), if_neg (by decide), if_neg (by decide), if_neg (by decide), if_neg (by decide), if_pos rfl]
  · exact ((P134 (kad := kad) (N := N) (Z := Z) (i1 := a) (i2 := kd) (i3 := n) (i4 := 0) (i5 := b) h).det i01).of fun g I => by unfold fH0; rw [if_neg (by decide), if_neg (by decide), if_neg (by decide), if_neg (by decide), if_neg (by decide), if_neg (by decide), if_neg (by decide), if_pos rfl]
  · exact ((P128 (kad := kad) (N := N) (Z := Z) (a := a) (b := b / 4) (c := b - b / 4 * 4) (d := kd) (e := n) h).det i01).of fun g I => by unfold fH0; rw [if_neg (by decide), if_neg (by decide), if_neg (by decide), if_neg (by decide), if_neg (by decide), if_neg (by decide), if_neg (by decide), if_neg (by decide), if_pos rfl]
/-- the helper for everything else -/
theorem D1 (hN : 2000 ≤ N) (h : okA A) {how a b c e : Int32} (hh : how = 0 ∨ how = 1 ∨ how = 2 ∨ how = 3 ∨ how = 4 ∨ how = 5 ∨ how = 6 ∨ how = 7 ∨ how = 8 ∨ how = 9 ∨ how = 10 ∨ how = 11 ∨ how = 12) : DETc kad N Z (fun g I => fH1 kad N Z g how a b c e I) A := by
  have i01 : ∀ k, k < [0, 1].length → [0, 1].getD k 0 ∈ [0, 1] := by decide
  have i10 : ∀ k, k < [1, 0].length → [1, 0].getD k 0 ∈ [0, 1] := by decide
  have i1 : ∀ k, k < [1].length → [1].getD k 0 ∈ [0, 1] := by decide
  have nx : ∀ {x : XA}, ¬ (0 : Nat) = 0 → x = A := fun hh => absurd rfl hh
  have no : ∀ {t : Nat} {w : Int32}, ¬ t = 0 → t = 0 → ∃ k, k ≤ 2000000 ∧ w = Int32.ofNat k := fun h1 h2 => absurd h2 h1
  rcases hh with rfl | rfl | rfl | rfl | rfl | rfl | rfl | rfl | rfl | rfl | rfl | rfl | rfl
  · have e1 : ∀ g I, fH1 kad N Z g 0 a b c e I = (f136 kad N Z g I).bind (hRo [0, 1]) := fun g I => by unfold fH1; rw [if_pos rfl]
    obtain ⟨⟨n, L⟩, R⟩ := A
    obtain ⟨x, q, ⟨⟨x1, x2⟩, -⟩, -, h1, h2⟩ := P135 (kad := kad) (N := N) (Z := Z) h
    by_cases h0 : x = 0
    · refine ((h1 h0).det i1 (fun hh => absurd rfl hh) (fun _ => ⟨q 1 0 + q 1 1, by have := (x2 h0).1.2.2.2.1; omega, (Int32.ofNat_add _ _).symm⟩)).of e1
    · exact ((h2 h0).det i1 (fun _ => rfl) (no (by decide))).of e1
  · have e1 : ∀ g I, fH1 kad N Z g 1 a b c e I = (f143 kad N Z g I).bind (hRo [0, 1]) := fun g I => by unfold fH1; rw [if_neg (by decide), if_pos rfl]
    obtain ⟨S, im, ⟨on, ⟨q, K⟩, M, D, W, s, kc⟩, t⟩ := A
    cases on with
    | false =>
      obtain ⟨h1, h2⟩ := P143_off (kad := kad) (N := N) (Z := Z) h
      by_cases h0 : im.1 = 0
      · exact ((h1 h0).det i1 (fun _ => rfl) (no (by decide))).of e1
      · obtain ⟨r, D', d1, hC⟩ := h2 h0
        have r4 : r ≤ 4 := by
          rcases d1 with ⟨-, -, rfl, -⟩ | ⟨n, bs, f, d2, rfl, -⟩
          · exact Nat.zero_le _
          · have := d2.1.1.2; omega
        exact (hC.det i1 (fun hh => absurd rfl hh) (fun _ => ⟨r, by omega, rfl⟩) (wBd.add (r := r) (by omega) rfl)).of e1
    | true => exact ((P143_on (kad := kad) (N := N) (Z := Z) h).det i1 (fun _ => rfl) (no (by decide))).of e1
  · have e1 : ∀ g I, fH1 kad N Z g 2 a b c e I = (f144 kad N Z g I).bind (hRo [0, 1]) := fun g I => by unfold fH1; rw [if_neg (by decide), if_neg (by decide), if_pos rfl]
    obtain ⟨S, im, ⟨on, ⟨q, K⟩, M, D, W, s, kc⟩, t⟩ := A
    cases on with
    | false => exact ((P144_off (kad := kad) (N := N) (Z := Z) h).det i1 (fun _ => rfl) (no (by decide))).of e1
    | true => exact ((P144_on (kad := kad) (N := N) (Z := Z) h).det i1 (fun hh => absurd rfl hh) (fun _ => ⟨s, by have := h.2.2.1.2.2.1.2.2; omega, rfl⟩) (by
      obtain ⟨w, w1, w2⟩ := tr_8 (K := K) (B := wake M D W) s
      exact wBd.add (r := w) (by have := h.2.2.1.2.2.1.2.2; omega) (w2.trans (by rw [wake_8])))).of e1
  · have e1 : ∀ g I, fH1 kad N Z g 3 a b c e I = (f145 kad N Z g I).bind (hRo [0, 1]) := fun g I => by unfold fH1; rw [if_neg (by decide), if_neg (by decide), if_neg (by decide), if_pos rfl]
    obtain ⟨S, im, ⟨on, ⟨q, K⟩, M, D, W, s, kc⟩, t⟩ := A
    cases on with
    | false =>
      obtain ⟨k, k1, k2⟩ := cFi_n (D := D) 6 0 0
      exact ((P145_off (kad := kad) (N := N) (Z := Z) h).det i1 (fun hh => absurd rfl hh) (fun _ => ⟨k, by omega, k2⟩) (fun c _ => ⟨0, Nat.zero_le _, rfl⟩)).of e1
    | true => exact ((P145_on (kad := kad) (N := N) (Z := Z) h).det i1 (fun _ => rfl) (no (by decide))).of e1
  · have e1 : ∀ g I, fH1 kad N Z g 4 a b c e I = (f146 kad N Z g a I).bind (hRo [0, 1]) := fun g I => by unfold fH1; rw [if_neg (by decide), if_neg (by decide), if_neg (by decide), if_neg (by decide), if_pos rfl]
    obtain ⟨S, im, ⟨on, ⟨q, K⟩, M, D, W, s, kc⟩, t⟩ := A
    cases on with
    | false => exact ((P146_off (kad := kad) (N := N) (Z := Z) (i := a) h).det i01 (fun _ => rfl) (no (by split <;> decide))).of e1
    | true =>
      by_cases hb : bad a 1 100
      · exact ((P146_bad (kad := kad) (N := N) (Z := Z) h hb).det i01 (fun _ => rfl) (no (by decide))).of e1
      · exact ((P146_on (kad := kad) (N := N) (Z := Z) h hb rfl).det i01 (fun hh => absurd rfl hh) (fun _ => ⟨_, by have := run_1000 (K := K) (B := wake M D W) (ad := Int32.ofInt (-1)) (n := nT a) (s := s); omega, rfl⟩)).of e1
  · have e1 : ∀ g I, fH1 kad N Z g 5 a b c e I = (f147 kad N Z g a b I).bind (hRo [0, 1]) := fun g I => by unfold fH1; rw [if_neg (by decide), if_neg (by decide), if_neg (by decide), if_neg (by decide), if_neg (by decide), if_pos rfl]
    obtain ⟨S, im, ⟨on, ⟨q, K⟩, M, D, W, s, kc⟩, t⟩ := A
    cases on with
    | false => exact ((P147_off (kad := kad) (N := N) (Z := Z) (i := a) (j := b) h).det i01 (fun _ => rfl) (no (by split <;> decide))).of e1
    | true =>
      by_cases hb : bad a 0 255 ∨ bad b 1 100
      · exact ((P147_bad (kad := kad) (N := N) (Z := Z) h hb).det i01 (fun _ => rfl) (no (by decide))).of e1
      · exact ((P147_on (kad := kad) (N := N) (Z := Z) h hb rfl).det i01 (fun hh => absurd rfl hh) (fun _ => ⟨_, by have := run_1000 (K := K) (B := wake M D W) (ad := a) (n := nT b) (s := s); omega, rfl⟩)).of e1
  · have e1 : ∀ g I, fH1 kad N Z g 6 a b c e I = (f148 kad N Z g a I).bind (hRo [0, 1]) := fun g I => by unfold fH1; rw [if_neg (by decide), if_neg (by decide), if_neg (by decide), if_neg (by decide), if_neg (by decide), if_neg (by decide), if_pos rfl]
    obtain ⟨S, im, ⟨on, ⟨q, K⟩, M, D, W, s, kc⟩, t⟩ := A
    cases on with
    | false => exact ((P148_off (kad := kad) (N := N) (Z := Z) (i := a) h).det i01 (fun _ => rfl) (no (by split <;> decide))).of e1
    | true =>
      by_cases hb : bad a 1 200
      · exact ((P148_bad (kad := kad) (N := N) (Z := Z) h hb).det i01 (fun _ => rfl) (no (by decide))).of e1
      · exact ((P148_on (kad := kad) (N := N) (Z := Z) h hb).det i01 (fun hh => absurd rfl hh) (fun _ => ⟨_, by have := h.2.2.1.2.2.1.1; omega, rfl⟩)).of e1
  · have e1 : ∀ g I, fH1 kad N Z g 7 a b c e I = (f149 kad N Z g a I).bind (hRo [0, 1]) := fun g I => by unfold fH1; rw [if_neg (by decide), if_neg (by decide), if_neg (by decide), if_neg (by decide), if_neg (by decide), if_neg (by decide), if_neg (by decide), if_pos rfl]
    obtain ⟨S, im, ⟨on, ⟨q, K⟩, M, D, W, s, kc⟩, t⟩ := A
    cases on with
    | false => exact ((P149_off (kad := kad) (N := N) (Z := Z) (i := a) h).det i01 (fun _ => rfl) (no (by split <;> decide))).of e1
    | true =>
      by_cases hb : bad a 0 65535
      · exact ((P149_bad (kad := kad) (N := N) (Z := Z) h hb).det i01 (fun _ => rfl) (no (by decide))).of e1
      · by_cases hr : tr K (wake M D W) s 1 0 = 1 ∧ q < 20
        · exact ((P149_on (kad := kad) (N := N) (Z := Z) h hb hr).det i01 (fun hh => absurd rfl hh) (fun _ => ⟨q + 1, by omega, rfl⟩)).of e1
        · exact ((P149_no (kad := kad) (N := N) (Z := Z) h hb hr).det i01 (fun _ => rfl) (no (by decide))).of e1
  · have e1 : ∀ g I, fH1 kad N Z g 8 a b c e I = (f164 kad N Z g a I).bind (hRo [0, 1]) := fun g I => by unfold fH1; rw [if_neg (by decide), if_neg (by decide), if_neg (by decide), if_neg (by decide), if_neg (by decide), if_neg (by decide), if_neg (by decide), if_neg (by decide), if_pos rfl]
    obtain ⟨S, im, ⟨on, ⟨q, K⟩, M, D, W, s, kc⟩, t⟩ := A
    cases on with
    | false => exact ((P164_off (kad := kad) (N := N) (Z := Z) (i := a) h).det i10 (fun _ => rfl) (no (by decide))).of e1
    | true =>
      by_cases hb : bad a 0 (Int32.ofNat s)
      · exact ((P164_bad (kad := kad) (N := N) (Z := Z) h hb).det i10 (fun _ => rfl) (no (by decide))).of e1
      · exact ((P164_on (kad := kad) (N := N) (Z := Z) h hb).det i10 (fun _ => rfl) (fun _ => ⟨_, by have := sumX_lt (X := tr K (wake M D W) (nT a)); omega, rfl⟩)).of e1
  · have e1 : ∀ g I, fH1 kad N Z g 9 a b c e I = (f176 kad N Z g a I).bind (hRo [0, 1]) := fun g I => by unfold fH1; rw [if_neg (by decide), if_neg (by decide), if_neg (by decide), if_neg (by decide), if_neg (by decide), if_neg (by decide), if_neg (by decide), if_neg (by decide), if_neg (by decide), if_pos rfl]
    obtain ⟨S, im, m, n, T⟩ := A
    obtain ⟨th, v, T', hC, h1, h2⟩ := P176 (kad := kad) (N := N) (Z := Z) (i := a) h
    exact (hC.det i01 (fun hh => by rw [h1 hh]) (fun hh => by obtain ⟨k, k1, k2⟩ := h2 hh; exact ⟨k, by omega, k2⟩)).of e1
  · have e1 : ∀ g I, fH1 kad N Z g 10 a b c e I = (f177 kad N Z g a I).bind (hRo [0, 1]) := fun g I => by unfold fH1; rw [if_neg (by decide), if_neg (by decide), if_neg (by decide), if_neg (by decide), if_neg (by decide), if_neg (by decide), if_neg (by decide), if_neg (by decide), if_neg (by decide), if_neg (by decide), if_pos rfl]
    obtain ⟨S, im, m, n, T⟩ := A
    obtain ⟨th, v, T', hC, h1, h2⟩ := P177 (kad := kad) (N := N) (Z := Z) (i := a) h
    exact (hC.det i01 (fun hh => by rw [h1 hh]) (fun hh => by obtain ⟨k, k1, k2⟩ := h2 hh; exact ⟨k, by omega, k2⟩)).of e1
  · have e1 : ∀ g I, fH1 kad N Z g 11 a b c e I = (f178 kad N Z g a b c e I).bind (hRo [0, 1]) := fun g I => by unfold fH1; rw [if_neg (by decide), if_neg (by decide), if_neg (by decide), if_neg (by decide), if_neg (by decide), if_neg (by decide), if_neg (by decide), if_neg (by decide), if_neg (by decide), if_neg (by decide), if_neg (by decide), if_pos rfl]
    obtain ⟨S, im, m, n, T⟩ := A
    obtain ⟨th, v, n', T', hC, h1, h2⟩ := P178 (kad := kad) (N := N) (Z := Z) (a := a) (b := b) (c := c) (d := e) h
    exact (hC.det i01 (fun hh => by obtain ⟨rfl, rfl⟩ := h1 hh; rfl) (fun hh => by obtain ⟨k, k1, k2⟩ := h2 hh; exact ⟨k, by omega, k2⟩)).of e1
  · have e1 : ∀ g I, fH1 kad N Z g 12 a b c e I = (f180 kad N Z g I).bind (hRo [0, 1]) := fun g I => by unfold fH1; rw [if_neg (by decide), if_neg (by decide), if_neg (by decide), if_neg (by decide), if_neg (by decide), if_neg (by decide), if_neg (by decide), if_neg (by decide), if_neg (by decide), if_neg (by decide), if_neg (by decide), if_neg (by decide), if_pos rfl]
    obtain ⟨th, v, T', hC, h1, h2⟩ := P180 (kad := kad) (Z := Z) hN h
    exact (hC.det i1 (fun hh => by rw [h1 hh]) (fun hh => by obtain ⟨k, k1, k2⟩ := h2 hh; exact ⟨k, by omega, k2⟩)).of e1
/-! two objects in one memory -/
def env2 (kad : Nat → Nat) (N : Nat) (Z : AZ) (g g' : Nat) : Prop := envG kad N Z g ∧ envG kad N Z g' ∧ (g + 1997 ≤ g' ∨ g' + 1997 ≤ g)
def R2 (kad : Nat → Nat) (N : Nat) (Z : AZ) (g g' : Nat) (A B : XA) (I : AI) : Prop := env2 kad N Z g g' ∧ CI g A I ∧ CI g' B I
theorem CALQ.o {fn : Nat → AI → Option (Int32 × AI)} {g g' : Nat} {I : AI} (h : CALQ kad N Z fn A v A') (R : R2 kad N Z g g' A B I) : ∃ J, fn g I = some (v, J) ∧ R2 kad N Z g g' A' B J := by
  obtain ⟨J, e1, e2, e3⟩ := h.2 g I R.1.1 R.2.1
  exact ⟨J, e1, R.1, e2, R.2.2.frG e3 R.1.2.2.symm⟩
theorem CALQ.p {fn : Nat → AI → Option (Int32 × AI)} {g g' : Nat} {I : AI} (h : CALQ kad N Z fn B v A') (R : R2 kad N Z g g' A B I) : ∃ J, fn g' I = some (v, J) ∧ R2 kad N Z g g' A A' J := by
  obtain ⟨J, e1, e2, e3⟩ := h.2 g' I R.1.2.1 R.2.2
  exact ⟨J, e1, R.1, R.2.1.frG e3 R.1.2.2, e2⟩
theorem CALL.o {fn : Nat → AI → Option ((Int32 ⊕ String) × AI)} {g g' : Nat} {I : AI} (h : CALL kad N Z es fn A th v A') (R : R2 kad N Z g g' A B I) : ∃ J, fn g I = some (rx es th v, J) ∧ R2 kad N Z g g' A' B J := by
  obtain ⟨J, e1, e2, e3⟩ := h.2 g I R.1.1 R.2.1
  exact ⟨J, e1, R.1, e2, R.2.2.frG e3 R.1.2.2.symm⟩
theorem CALL.p {fn : Nat → AI → Option ((Int32 ⊕ String) × AI)} {g g' : Nat} {I : AI} (h : CALL kad N Z es fn B th v A') (R : R2 kad N Z g g' A B I) : ∃ J, fn g' I = some (rx es th v, J) ∧ R2 kad N Z g g' A A' J := by
  obtain ⟨J, e1, e2, e3⟩ := h.2 g' I R.1.2.1 R.2.2
  exact ⟨J, e1, R.1, R.2.1.frG e3 R.1.2.2, e2⟩
end PD
