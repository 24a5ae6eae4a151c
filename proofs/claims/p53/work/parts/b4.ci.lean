/-! p53: one object of the class between two calls, as plain numbers; what a call answers hangs on these alone -/
/-- keys; image and disk at the start, blocks written then; steps made, steps kept -/
abbrev XM : Type := (Nat × AI) × ((Nat → Int32) × ((Nat → Int32) × (Int32 × (Nat × Nat))))
/-- lines; assembled or not, image; on or not, machine; tests -/
abbrev XA : Type := (Nat × AI) × ((Int32 × (Nat → Int32)) × ((Bool × XM) × (Nat × AI)))
def CMa (g : Nat) (m : Bool × XM) (I : AI) : Prop := match m with
  | (false, ((_, K), (_, (D, (W, _))))) => CF g K D W I
  | (true, ((_, K), (M, (D, (W, (s, kc)))))) => CG g K (wake M D W) s kc I ∧ CS g M D I
def okMa (m : Bool × XM) : Prop := match m with
  | (false, ((q, K), (_, (D, _)))) => okK q K ∧ DK D
  | (true, ((q, K), (M, (D, (W, (s, kc)))))) => (okK q K ∧ (∀ k, k < q → wd (K 11 k)) ∧ (∀ k, k < 256 → wd (M k)) ∧ (D 0 = 0 ∧ WF D)) ∧ Gd q K (wake M D W) s kc
/-- the plain machine of it -/
def mX (m : Bool × XM) : AI := match m with
  | (false, ((_, K), (_, (D, (W, _))))) => ov K (offm D W)
  | (true, ((_, K), (M, (D, (W, (s, _)))))) => tr K (wake M D W) s
def miB (g : Nat) (I : AI) : Prop := ∀ q, q < 5 → I (g + 1 + 5) q = 0
def frG (g : Nat) (I J : AI) : Prop := ∀ b, ¬ (g ≤ b ∧ b < g + 1997) → J b = I b
def CI (g : Nat) (A : XA) (I : AI) : Prop := ((CSr A.1.1 (g + 1) A.1.2 I ∧ A.1.1 ≤ 100) ∧ miB g I) ∧ (I g 2 = A.2.1.1 ∧ ∀ k, k < 256 → I (g + 113) k = A.2.1.2 k) ∧ CMa g A.2.2.1 I ∧ CT g A.2.2.2.2 I
def okA (A : XA) : Prop := LI A.1.1 A.1.2 ∧ ((A.2.1.1 = 0 ∨ A.2.1.1 = 1) ∧ ∀ k, k < 256 → wd (A.2.1.2 k)) ∧ okMa A.2.2.1 ∧ TI A.2.2.2.1 A.2.2.2.2
def envG (kad : Nat → Nat) (N : Nat) (Z : AZ) (g : Nat) : Prop := 2000 ≤ N ∧ sh10 kad Z g ∧ Z.1 (kad 9) = none ∧ (∀ j, j < 200 → Z.2.1 (g + 114) 7 (Z.2.2 (g + 114) 7 (g + (182 + 9 * j))) = g + (182 + 9 * j)) ∧ Z.2.1 (g + 143) 7 (Z.2.2 (g + 143) 7 (g + 169)) = g + 169
/-- a call that may throw, one that doesn't -/
def CALL (kad : Nat → Nat) (N : Nat) (Z : AZ) (es : List Nat) (fn : Nat → AI → Option ((Int32 ⊕ String) × AI)) (A : XA) (th : Nat) (v : Int32) (A' : XA) : Prop := (th ≤ es.length ∧ okA A') ∧ ∀ g I, envG kad N Z g → CI g A I → ∃ J, fn g I = some (rx es th v, J) ∧ CI g A' J ∧ frG g I J
def CALQ (kad : Nat → Nat) (N : Nat) (Z : AZ) (fn : Nat → AI → Option (Int32 × AI)) (A : XA) (v : Int32) (A' : XA) : Prop := okA A' ∧ ∀ g I, envG kad N Z g → CI g A I → ∃ J, fn g I = some (v, J) ∧ CI g A' J ∧ frG g I J
section CIS
variable {g q s kc n : Nat} {I I' J K B X T : AI} {M D : Nat → Int32} {W v : Int32} {A : XA} {m : Bool × XM}
theorem frG.refl : frG g I I := fun _ _ => rfl
theorem frG.trans {Q : AI} (h : frG g I J) (h2 : frG g J Q) : frG g I Q := fun b hb => (h2 b hb).trans (h b hb)
theorem frG.up {b j : Nat} (h : g ≤ b ∧ b < g + 1997) : frG g I (up2 I b j v) := fun c hc => up2_b (by omega)
theorem frX.h (h : frX g I J) : frG g I J := fun b hb => h.1 b (by omega) (by omega) (by omega)
theorem frCL.h (h : frCL g I J) : frG g I J := fun b hb => h b (by omega)
theorem frCT.h (h : frCT g I J) : frG g I J := fun b hb => h.1 b (by omega) (by omega) (by omega)
theorem CF.cong (H : CF g K D W I) (h5 : I' g 5 = I g 5) (h : ∀ b, g + 114 < b → b < g + 131 → I' b = I b) : CF g K D W I' := ⟨H.1.cong (fun b h1 h2 => h b h1 h2), by rw [h5]; exact H.2⟩
theorem CG.cong5 (H : CG g K B s kc I) (h5 : I' g 5 = I g 5) (h : ∀ b, g + 114 < b → b < g + 131 → I' b = I b) (hk : ∀ b, g + 182 ≤ b → b < g + 1982 → I' b = I b) : CG g K B s kc I' := ⟨H.1.cong (fun b h1 h2 => h b h1 h2), by rw [h5]; exact H.2.1, fun j h1 h2 => (H.2.2 j h1 h2).cong (fun b h3 h4 => hk b (by omega) (by have := Nat.mod_lt j (show 0 < 200 by decide); omega))⟩
theorem CS.cong (H : CS g M D I) (h1 : I' (g + 141) = I (g + 141)) (h2 : I' (g + 142) = I (g + 142)) : CS g M D I' := fun k hk => by
  rw [h1, h2]
  exact H k hk
theorem CMa.cong (H : CMa g m I) (h5 : I' g 5 = I g 5) (hc : ∀ b, g + 114 < b → b < g + 131 → I' b = I b) (hs : I' (g + 141) = I (g + 141) ∧ I' (g + 142) = I (g + 142)) (hk : ∀ b, g + 182 ≤ b → b < g + 1982 → I' b = I b) : CMa g m I' := by
  obtain ⟨b, ⟨q, K⟩, M, D, W, s, kc⟩ := m
  cases b with
  | false => exact CF.cong H h5 hc
  | true => exact ⟨CG.cong5 H.1 h5 hc hk, CS.cong H.2 hs.1 hs.2⟩
theorem CT.cong (H : CT g T I) (h0 : I' g 12 = I g 12) (h1 : ∀ b, g + 178 ≤ b → b < g + 181 → I' b = I b) (h2 : ∀ b, g + 1982 ≤ b → b < g + 1997 → I' b = I b) : CT g T I' := by
  obtain ⟨⟨a1, a2, a3⟩, b, c⟩ := H
  refine ⟨⟨by rw [h0]; exact a1, by rw [h1 _ (by omega) (by omega)]; exact a2, by rw [h1 _ (by omega) (by omega)]; exact a3⟩, fun k hk => ?_, fun t ht => (c t ht).cong (fun b h3 h4 => h2 b (by omega) (by omega))⟩
  rw [h1 _ (by omega) (by omega), h1 _ (by omega) (by omega)]
  exact b k hk
/-- elsewhere -/
theorem CI.cong (H : CI g A I) (hc : ∀ b, g ≤ b → b < g + 1997 → I' b = I b) : CI g A I' := by
  obtain ⟨⟨⟨a1, a0⟩, a2⟩, ⟨b1, b2⟩, c, d⟩ := H
  refine ⟨⟨⟨a1.o (congrFun (hc _ (by omega) (by omega)) 0) (fun i hi => hc _ (by omega) (by omega)), a0⟩, fun q hq => ?_⟩, ⟨?_, fun k hk => ?_⟩, c.cong (congrFun (hc _ (by omega) (by omega)) 5) (fun b h1 h2 => hc _ (by omega) (by omega)) ⟨hc _ (by omega) (by omega), hc _ (by omega) (by omega)⟩ (fun b h1 h2 => hc _ (by omega) (by omega)), d.cong (congrFun (hc _ (by omega) (by omega)) 12) (fun b h1 h2 => hc _ (by omega) (by omega)) (fun b h1 h2 => hc _ (by omega) (by omega))⟩
  · rw [hc _ (by omega) (by omega)]; exact a2 q hq
  · rw [hc _ (by omega) (by omega)]; exact b1
  · rw [hc _ (by omega) (by omega)]; exact b2 k hk
theorem CI.frG (H : CI g A I) {g2 : Nat} (h : frG g2 I I') (hd : g + 1997 ≤ g2 ∨ g2 + 1997 ≤ g) : CI g A I' := H.cong (fun b h1 h2 => h b (by omega))
/-- a machine's call -/
theorem CI.mach (H : CI g A I) (hc : frX g I I') (hM : CMa g m I') : CI g (A.1, (A.2.1, (m, A.2.2.2))) I' := by
  obtain ⟨⟨⟨a1, a0⟩, a2⟩, ⟨b1, b2⟩, c, d⟩ := H
  refine ⟨⟨⟨a1.o (congrFun (hc.1 _ (by omega) (by omega) (by omega)) 0) (fun i hi => hc.1 _ (by omega) (by omega) (by omega)), a0⟩, fun q hq => ?_⟩, ⟨?_, fun k hk => ?_⟩, hM, d.cong (hc.2 12 (by decide)) (fun b h1 h2 => hc.1 _ (by omega) (by omega) (by omega)) (fun b h1 h2 => hc.1 _ (by omega) (by omega) (by omega))⟩
  · rw [hc.1 _ (by omega) (by omega) (by omega)]; exact a2 q hq
  · rw [hc.2 2 (by decide)]; exact b1
  · rw [hc.1 _ (by omega) (by omega) (by omega)]; exact b2 k hk
/-- a test's call -/
theorem CI.test (H : CI g A I) (hc : frCT g I I') (hT : CT g T I') : CI g (A.1, (A.2.1, (A.2.2.1, (n, T)))) I' := by
  obtain ⟨⟨⟨a1, a0⟩, a2⟩, ⟨b1, b2⟩, c, d⟩ := H
  refine ⟨⟨⟨a1.o (congrFun (hc.1 _ (by omega) (by omega) (by omega)) 0) (fun i hi => hc.1 _ (by omega) (by omega) (by omega)), a0⟩, fun q hq => ?_⟩, ⟨?_, fun k hk => ?_⟩, c.cong (hc.2 5 (by decide)) (fun b h1 h2 => hc.1 _ (by omega) (by omega) (by omega)) ⟨hc.1 _ (by omega) (by omega) (by omega), hc.1 _ (by omega) (by omega) (by omega)⟩ (fun b h1 h2 => hc.1 _ (by omega) (by omega) (by omega)), hT⟩
  · rw [hc.1 _ (by omega) (by omega) (by omega)]; exact a2 q hq
  · rw [hc.2 2 (by decide)]; exact b1
  · rw [hc.1 _ (by omega) (by omega) (by omega)]; exact b2 k hk
/-- a source's call -/
theorem CI.src {L : AI} (H : CI g A I) (hc : frCL g I I') (hS : CSr n (g + 1) L I') (hn : n ≤ 100) : CI g ((n, L), A.2) I' := by
  obtain ⟨⟨⟨a1, a0⟩, a2⟩, ⟨b1, b2⟩, c, d⟩ := H
  refine ⟨⟨⟨hS, hn⟩, fun q hq => ?_⟩, ⟨?_, fun k hk => ?_⟩, c.cong (congrFun (hc _ (by omega)) 5) (fun b h1 h2 => hc _ (by omega)) ⟨hc _ (by omega), hc _ (by omega)⟩ (fun b h1 h2 => hc _ (by omega)), d.cong (congrFun (hc _ (by omega)) 12) (fun b h1 h2 => hc _ (by omega)) (fun b h1 h2 => hc _ (by omega))⟩
  · rw [hc _ (by omega)]; exact a2 q hq
  · rw [hc _ (by omega)]; exact b1
  · rw [hc _ (by omega)]; exact b2 k hk
/-- behind an assembling that changes the assembler's own rows alone -/
theorem CI.asm (H : CI g A I) (hc : asH (g + 1) I I') : CI g A I' := by
  obtain ⟨⟨⟨a1, a0⟩, a2⟩, ⟨b1, b2⟩, c, d⟩ := H
  obtain ⟨h1, h2, h3⟩ := hc
  refine ⟨⟨⟨a1.o (h2 0 (by decide)) (fun i hi => h1 _ (by omega)), a0⟩, fun q hq => ?_⟩, ⟨?_, fun k hk => ?_⟩, c.cong (congrFun (h1 _ (by omega)) 5) (fun b h4 h5 => h1 _ (by omega)) ⟨h1 _ (by omega), h1 _ (by omega)⟩ (fun b h4 h5 => h1 _ (by omega)), d.cong (congrFun (h1 _ (by omega)) 12) (fun b h4 h5 => h1 _ (by omega)) (fun b h4 h5 => h1 _ (by omega))⟩
  · rw [h3 q hq]; exact a2 q hq
  · rw [h1 _ (by omega)]; exact b1
  · rw [h1 _ (by omega)]; exact b2 k hk
/-- an image -/
theorem CI.img (H : CI g A I) (hc : ∀ b, ¬ b = g → ¬ b = g + 113 → I' b = I b) (hf : ∀ j, ¬ j = 2 → I' g j = I g j) {a : Int32} {im : Nat → Int32} (h2 : I' g 2 = a) (h3 : ∀ k, k < 256 → I' (g + 113) k = im k) : CI g (A.1, ((a, im), A.2.2)) I' := by
  obtain ⟨⟨⟨a1, a0⟩, a2⟩, ⟨b1, b2⟩, c, d⟩ := H
  refine ⟨⟨⟨a1.o (congrFun (hc _ (by omega) (by omega)) 0) (fun i hi => hc _ (by omega) (by omega)), a0⟩, fun q hq => ?_⟩, ⟨h2, h3⟩, c.cong (hf 5 (by decide)) (fun b h1 h2 => hc _ (by omega) (by omega)) ⟨hc _ (by omega) (by omega), hc _ (by omega) (by omega)⟩ (fun b h1 h2 => hc _ (by omega) (by omega)), d.cong (hf 12 (by decide)) (fun b h1 h2 => hc _ (by omega) (by omega)) (fun b h1 h2 => hc _ (by omega) (by omega))⟩
  rw [hc _ (by omega) (by omega)]; exact a2 q hq
end CIS
section CIM
variable {kad : Nat → Nat} {N : Nat} {Z : AZ} {A A' : XA} {m : Bool × XM} {th : Nat} {v i j : Int32} {es : List Nat}
/-- the machine, on or off -/
theorem CI.mX {g : Nat} {I : AI} (H : CI g A I) : RM (g + 114) I (mX A.2.2.1) := by
  obtain ⟨s, im, ⟨b, ⟨q, K⟩, M, D, W, s, kc⟩, t⟩ := A
  cases b with
  | false => exact H.2.2.1.1
  | true => exact H.2.2.1.1.1
theorem okMa.X (h : okMa m) : (∃ t, mX m 1 12 = Int32.ofNat t ∧ t ≤ 60) ∧ SW (mX m) ∧ LW (mX m 9) := by
  obtain ⟨b, ⟨q, K⟩, M, D, W, s, kc⟩ := m
  cases b with
  | false => exact ⟨⟨0, rfl, by decide⟩, off_sw h.2.lw2.1, h.2.lw2⟩
  | true =>
    have hi := h.2.1.1.trj s
    obtain ⟨t, h1, h2, -⟩ := hi.1.1.2.1.2.1
    exact ⟨⟨t, h1, h2⟩, hi.sw (by have := h.2.2.1; omega), hi.1.2.lw2⟩
theorem CALQ.q {fn : Nat → AI → Option (Int32 × AI)} (h : okA A) (e : ∀ g I, envG kad N Z g → CI g A I → fn g I = some (v, I)) : CALQ kad N Z fn A v A := ⟨h, fun g I hE H => ⟨I, e g I hE H, H, frG.refl⟩⟩
theorem CALL.q {fn : Nat → AI → Option ((Int32 ⊕ String) × AI)} (h : okA A) (ht : th ≤ es.length) (e : ∀ g I, envG kad N Z g → CI g A I → fn g I = some (rx es th v, I)) : CALL kad N Z es fn A th v A := ⟨⟨ht, h⟩, fun g I hE H => ⟨I, e g I hE H, H, frG.refl⟩⟩
/-- a machine's call that did what it had to -/
theorem CALL.go {fn : Nat → AI → Option ((Int32 ⊕ String) × AI)} (h : okA A) (hm : okMa m) (e : ∀ g I, envG kad N Z g → CI g A I → Ok (fn g I) (fun x J => x = rx es 0 v ∧ CMa g m J ∧ frX g I J)) : CALL kad N Z es fn A 0 v (A.1, (A.2.1, (m, A.2.2.2))) := by
  refine ⟨⟨Nat.zero_le _, h.1, h.2.1, hm, h.2.2.2⟩, fun g I hE H => ?_⟩
  obtain ⟨x, J, e1, rfl, e2, e3⟩ := e g I hE H
  exact ⟨J, e1, H.mach e3 e2, e3.h⟩
/-- a call that refuses -/
theorem CALL.no {fn : Nat → AI → Option ((Int32 ⊕ String) × AI)} (h : okA A) (ht : th ≤ es.length) (e : ∀ g I, envG kad N Z g → CI g A I → Ok (fn g I) (fun x J => x = rx es th v ∧ J = I)) : CALL kad N Z es fn A th v A := by
  refine CALL.q h ht fun g I hE H => ?_
  obtain ⟨x, J, e1, rfl, rfl⟩ := e g I hE H
  exact e1
/-! the queries -/
theorem P150 (h : okA A) : CALQ kad N Z (fun g I => f150 kad N Z g I) A (mX A.2.2.1 1 0) A := CALQ.q h fun _ _ _ H => K150 H.mX
theorem P151 (h : okA A) : CALQ kad N Z (fun g I => f151 kad N Z g I) A (mX A.2.2.1 1 1) A := CALQ.q h fun _ _ _ H => K151 H.mX
theorem P152 (h : okA A) : CALQ kad N Z (fun g I => f152 kad N Z g I) A (mX A.2.2.1 1 2) A := CALQ.q h fun _ _ _ H => K152 H.mX
theorem P154 (h : okA A) : CALQ kad N Z (fun g I => f154 kad N Z g I) A (mX A.2.2.1 1 3) A := CALQ.q h fun _ _ _ H => K154 H.mX
theorem P155 (h : okA A) : CALQ kad N Z (fun g I => f155 kad N Z g I) A (mX A.2.2.1 1 4) A := CALQ.q h fun _ _ _ H => K155 H.mX
theorem P156 (h : okA A) : CALQ kad N Z (fun g I => f156 kad N Z g I) A (sFl (mX A.2.2.1)) A := CALQ.q h fun _ _ _ H => K156 H.mX
theorem P157 (h : okA A) : CALQ kad N Z (fun g I => f157 kad N Z g I) A (sLeft (mX A.2.2.1)) A := CALQ.q h fun _ _ _ H => K157 H.mX
theorem P161 (h : okA A) : CALQ kad N Z (fun g I => f161 kad N Z g I) A (mX A.2.2.1 1 12) A := CALQ.q h fun _ _ _ H => K161 H.mX
theorem P163 (h : okA A) : CALQ kad N Z (fun g I => f163 kad N Z g I) A (Int32.ofNat (sumX (mX A.2.2.1))) A := CALQ.q h fun _ _ hE H => K163 hE.1 hE.2.1 H.mX h.2.2.1.X.2.1
theorem P168 (h : okA A) : CALQ kad N Z (fun g I => f168 kad N Z g I) A (mX A.2.2.1 8 1) A := CALQ.q h fun _ _ _ H => K168 H.mX
theorem P170 (h : okA A) : CALQ kad N Z (fun g I => f170 kad N Z g I) A (cFi (mX A.2.2.1 9) 6 0 0) A := CALQ.q h fun _ _ hE H => K170 hE.1 H.mX
theorem P173 (h : okA A) : CALQ kad N Z (fun g I => f173 kad N Z g I) A (cFr (mX A.2.2.1 9) 24 8 0) A := CALQ.q h fun _ _ hE H => K173 hE.1 H.mX h.2.2.1.X.2.2.1
/-- how many steps are kept -/
def xmK (m : Bool × XM) : Nat := if m.1 then m.2.2.2.2.2.2 else 0
theorem P153 (h : okA A) : CALQ kad N Z (fun g I => f153 kad N Z g I) A (Int32.ofNat (xmK A.2.2.1)) A := CALQ.q h fun g I _ H => by
  rw [K153]
  obtain ⟨s, im, ⟨b, ⟨q, K⟩, M, D, W, s, kc⟩, t⟩ := A
  cases b with
  | false => exact congrArg (fun x => some (x, I)) H.2.2.1.2
  | true => exact congrArg (fun x => some (x, I)) H.2.2.1.1.2.1
theorem P174 (h : okA A) : ∃ v, ((isWh (mX A.2.2.1 9) → v = 1) ∧ (¬ isWh (mX A.2.2.1 9) → v = 0)) ∧ CALQ kad N Z (fun g I => f174 kad N Z g I) A v A := by
  by_cases hw : isWh (mX A.2.2.1 9)
  · refine ⟨1, ⟨fun _ => rfl, fun hh => absurd hw hh⟩, CALQ.q h fun g I hE H => ?_⟩
    obtain ⟨r, e1, e2, -⟩ := K174 (kad := kad) (Z := Z) hE.1 H.mX (fun _ => h.2.2.1.X.2.2)
    rw [e1, e2 hw]
  · refine ⟨0, ⟨fun hh => absurd hh hw, fun _ => rfl⟩, CALQ.q h fun g I hE H => ?_⟩
    obtain ⟨r, e1, -, e2⟩ := K174 (kad := kad) (Z := Z) hE.1 H.mX (fun _ => h.2.2.1.X.2.2)
    rw [e1, e2 hw]
theorem P159 (h : okA A) : CALL kad N Z [0] (fun g I => f159 kad N Z g i I) A (if i < 0 ∨ 255 < i then 1 else 0) (mX A.2.2.1 6 (nT i)) A := CALL.q h (by split <;> decide) fun _ _ _ H => K159 H.mX i
theorem P169 (h : okA A) : CALL kad N Z [0] (fun g I => f169 kad N Z g i j I) A (if (i < 0 ∨ 31 < i) ∨ (j < 0 ∨ 7 < j) then 1 else 0) (mX A.2.2.1 9 (8 * nT i + nT j)) A := CALL.q h (by split <;> decide) fun _ _ _ H => K169 H.mX i j
theorem P171 (h : okA A) : CALL kad N Z [0, 3] (fun g I => f171 kad N Z g i I) A (if i < 1 ∨ 65535 < i then 1 else if sFind (mX A.2.2.1 9) i 7 0 < 6 then 0 else 2) (mX A.2.2.1 9 (40 + 4 * sFind (mX A.2.2.1 9) i 7 0 + 1)) A := CALL.q h (by split; decide; split <;> decide) fun _ _ hE H => K171 hE.1 H.mX i
def xmC (m : Bool × XM) (i : Int32) : Int32 := if m.1 then cAt m.2.1.2 (wake m.2.2.1 m.2.2.2.1 m.2.2.2.2.1) i m.2.2.2.2.2.2 m.2.2.2.2.2.1 else Int32.ofInt (-1)
theorem P160 (h : okA A) : CALL kad N Z [0] (fun g I => f160 kad N Z g i I) A (if i < 0 ∨ 255 < i then 1 else 0) (xmC A.2.2.1 i) A := CALL.q h (by split <;> decide) fun g I hE H => by
  obtain ⟨s, im, ⟨b, ⟨q, K⟩, M, D, W, s, kc⟩, t⟩ := A
  cases b with
  | false => exact K160_off hE.1 H.2.2.1.1 rfl H.2.2.1.2 i
  | true => exact K160_on hE.1 h.2.2.1.2 H.2.2.1.1 i
end CIM
