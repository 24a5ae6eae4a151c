/-! the model's rows, and its stack of uses -/
def asM (m p : Nat) (C : PN) (J : AI) : Prop :=
  (J m 15 = Int32.ofNat (C 0 0) ∧ J m 16 = Int32.ofNat (C 0 1) ∧ J m 17 = Int32.ofNat (C 0 2) ∧ (p = 1 → J m 18 = Int32.ofNat (C 8 0))) ∧
  (∀ q, q < 2 → J (m + 4) q = Int32.ofNat (C 1 q)) ∧
  (∀ q, q < 5 → (C 2 q = 0 → J (m + 5) q = Int32.ofInt (-1)) ∧ (¬ C 2 q = 0 → J (m + 5) q = Int32.ofNat (C 2 q) ∧ J (m + 6) q = Int32.ofNat (C 3 q))) ∧
  (∀ s, s < 1220 → (C 4 s = 0 → J (m + 3) s = Int32.ofInt (-1)) ∧ (¬ C 4 s = 0 → J (m + 3) s = Int32.ofNat (1000 * C 11 s + (C 4 s - 1)))) ∧
  (∀ q, q < 256 → J (m + 13) q = Int32.ofNat (C 7 q))
def asSK (m : Nat) (st : List Nat) (J : AI) : Prop := ∀ j, j < st.length → J (m + 10) (st.length - j) = Int32.ofNat (st.getD j 0)
def asT (m p i e use : Nat) (st : List Nat) (C : PN) (J : AI) : Prop := asM m p C J ∧ (J m 14 = Int32.ofNat st.length ∧ J (m + 7) st.length = Int32.ofNat i ∧ J (m + 8) st.length = Int32.ofNat e) ∧ ((st.length = 0 → use = 0) ∧ (0 < st.length → 0 < use ∧ J (m + 9) st.length = Int32.ofNat (use - 1) ∧ (p = 1 → J (m + 11) st.length = Int32.ofNat (C 5 use - 1) ∧ J (m + 12) st.length = Int32.ofNat (C 6 use - 1)))) ∧ asSK m st J
def asG (m d : Nat) (I J : AI) : Prop := ∀ b j, ¬ (b = m ∧ 14 ≤ j ∧ j ≤ 19) → ¬ ((m + 3 ≤ b ∧ b ≤ m + 6) ∨ b = m + 13) → ¬ (m + 7 ≤ b ∧ b ≤ m + 12 ∧ d ≤ j) → J b j = I b j
section AM3
variable {m p v w x y : Nat} {z : Int32} {C : PN} {I : AI}
theorem asM.g (H : asM m p C I) : asM m p (un C 0 1 v) (up2 I m 16 (Int32.ofNat v)) := by
  obtain ⟨⟨a1, a2, a3, a4⟩, b, d, e, f⟩ := H
  refine ⟨⟨?_, ?_, ?_, fun hp => ?_⟩, fun q hq => ?_, fun q hq => ?_, fun q hq => ?_, fun q hq => ?_⟩
  · rw [up2_ne (by omega)]; exact a1
  · rw [up2_eq]; rfl
  · rw [up2_ne (by omega)]; exact a3
  · rw [up2_ne (by omega)]; exact a4 hp
  · rw [up2_b (by omega)]; exact b q hq
  · exact ⟨fun h => (congrFun (by rw [up2_b (by omega)]) q).trans ((d q hq).1 h), fun h => ⟨(congrFun (by rw [up2_b (by omega)]) q).trans ((d q hq).2 h).1, (congrFun (by rw [up2_b (by omega)]) q).trans ((d q hq).2 h).2⟩⟩
  · exact ⟨fun h => (congrFun (by rw [up2_b (by omega)]) q).trans ((e q hq).1 h), fun h => (congrFun (by rw [up2_b (by omega)]) q).trans ((e q hq).2 h)⟩
  · rw [up2_b (by omega)]; exact f q hq
theorem asM.pr (H : asM m p C I) : asM m p (un C 0 0 v) (up2 I m 15 (Int32.ofNat v)) := by
  obtain ⟨⟨a1, a2, a3, a4⟩, b, d, e, f⟩ := H
  refine ⟨⟨?_, ?_, ?_, fun hp => ?_⟩, fun q hq => ?_, fun q hq => ?_, fun q hq => ?_, fun q hq => ?_⟩
  · rw [up2_eq]; rfl
  · rw [up2_ne (by omega)]; exact a2
  · rw [up2_ne (by omega)]; exact a3
  · rw [up2_ne (by omega)]; exact a4 hp
  · rw [up2_b (by omega)]; exact b q hq
  · exact ⟨fun h => (congrFun (by rw [up2_b (by omega)]) q).trans ((d q hq).1 h), fun h => ⟨(congrFun (by rw [up2_b (by omega)]) q).trans ((d q hq).2 h).1, (congrFun (by rw [up2_b (by omega)]) q).trans ((d q hq).2 h).2⟩⟩
  · exact ⟨fun h => (congrFun (by rw [up2_b (by omega)]) q).trans ((e q hq).1 h), fun h => (congrFun (by rw [up2_b (by omega)]) q).trans ((e q hq).2 h)⟩
  · rw [up2_b (by omega)]; exact f q hq
theorem asM.us (H : asM m p C I) : asM m p (un C 0 2 v) (up2 I m 17 (Int32.ofNat v)) := by
  obtain ⟨⟨a1, a2, a3, a4⟩, b, d, e, f⟩ := H
  refine ⟨⟨?_, ?_, ?_, fun hp => ?_⟩, fun q hq => ?_, fun q hq => ?_, fun q hq => ?_, fun q hq => ?_⟩
  · rw [up2_ne (by omega)]; exact a1
  · rw [up2_ne (by omega)]; exact a2
  · rw [up2_eq]; rfl
  · rw [up2_ne (by omega)]; exact a4 hp
  · rw [up2_b (by omega)]; exact b q hq
  · exact ⟨fun h => (congrFun (by rw [up2_b (by omega)]) q).trans ((d q hq).1 h), fun h => ⟨(congrFun (by rw [up2_b (by omega)]) q).trans ((d q hq).2 h).1, (congrFun (by rw [up2_b (by omega)]) q).trans ((d q hq).2 h).2⟩⟩
  · exact ⟨fun h => (congrFun (by rw [up2_b (by omega)]) q).trans ((e q hq).1 h), fun h => (congrFun (by rw [up2_b (by omega)]) q).trans ((e q hq).2 h)⟩
  · rw [up2_b (by omega)]; exact f q hq
theorem asM.sz (H : asM m p C I) : asM m p (un C 1 w v) (up2 I (m + 4) w (Int32.ofNat v)) := by
  obtain ⟨⟨a1, a2, a3, a4⟩, b, d, e, f⟩ := H
  refine ⟨⟨?_, ?_, ?_, fun hp => ?_⟩, fun q hq => ?_, fun q hq => ?_, fun q hq => ?_, fun q hq => ?_⟩
  · rw [up2_b (by omega)]; exact a1
  · rw [up2_b (by omega)]; exact a2
  · rw [up2_b (by omega)]; exact a3
  · rw [up2_b (by omega)]; exact a4 hp
  · by_cases h : q = w
    · rw [h, up2_eq, un_eq]
    · rw [up2_ne (fun hh => h hh.2), un_ne (fun hh => h hh.2)]; exact b q hq
  · exact ⟨fun h => (congrFun (by rw [up2_b (by omega)]) q).trans ((d q hq).1 h), fun h => ⟨(congrFun (by rw [up2_b (by omega)]) q).trans ((d q hq).2 h).1, (congrFun (by rw [up2_b (by omega)]) q).trans ((d q hq).2 h).2⟩⟩
  · exact ⟨fun h => (congrFun (by rw [up2_b (by omega)]) q).trans ((e q hq).1 h), fun h => (congrFun (by rw [up2_b (by omega)]) q).trans ((e q hq).2 h)⟩
  · rw [up2_b (by omega)]; exact f q hq
theorem asM.im (H : asM m p C I) : asM m p (un C 7 w v) (up2 I (m + 13) w (Int32.ofNat v)) := by
  obtain ⟨⟨a1, a2, a3, a4⟩, b, d, e, f⟩ := H
  refine ⟨⟨?_, ?_, ?_, fun hp => ?_⟩, fun q hq => ?_, fun q hq => ?_, fun q hq => ?_, fun q hq => ?_⟩
  · rw [up2_b (by omega)]; exact a1
  · rw [up2_b (by omega)]; exact a2
  · rw [up2_b (by omega)]; exact a3
  · rw [up2_b (by omega)]; exact a4 hp
  · rw [up2_b (by omega)]; exact b q hq
  · exact ⟨fun h => (congrFun (by rw [up2_b (by omega)]) q).trans ((d q hq).1 h), fun h => ⟨(congrFun (by rw [up2_b (by omega)]) q).trans ((d q hq).2 h).1, (congrFun (by rw [up2_b (by omega)]) q).trans ((d q hq).2 h).2⟩⟩
  · exact ⟨fun h => (congrFun (by rw [up2_b (by omega)]) q).trans ((e q hq).1 h), fun h => (congrFun (by rw [up2_b (by omega)]) q).trans ((e q hq).2 h)⟩
  · by_cases h : q = w
    · rw [h, up2_eq, un_eq]
    · rw [up2_ne (fun hh => h hh.2), un_ne (fun hh => h hh.2)]; exact f q hq
theorem asM.lb (H : asM m p C I) : asM m p (un (un C 4 w (v + 1)) 11 w x) (up2 I (m + 3) w (Int32.ofNat (1000 * x + v))) := by
  obtain ⟨⟨a1, a2, a3, a4⟩, b, d, e, f⟩ := H
  refine ⟨⟨?_, ?_, ?_, fun hp => ?_⟩, fun q hq => ?_, fun q hq => ?_, fun q hq => ?_, fun q hq => ?_⟩
  · rw [up2_b (by omega)]; exact a1
  · rw [up2_b (by omega)]; exact a2
  · rw [up2_b (by omega)]; exact a3
  · rw [up2_b (by omega)]; exact a4 hp
  · rw [up2_b (by omega)]; exact b q hq
  · exact ⟨fun h => (congrFun (by rw [up2_b (by omega)]) q).trans ((d q hq).1 h), fun h => ⟨(congrFun (by rw [up2_b (by omega)]) q).trans ((d q hq).2 h).1, (congrFun (by rw [up2_b (by omega)]) q).trans ((d q hq).2 h).2⟩⟩
  · by_cases h : q = w
    · rw [h, up2_eq, un_b (by decide), un_eq, un_eq]
      exact ⟨fun hh => absurd hh (by omega), fun _ => rfl⟩
    · rw [up2_ne (fun hh => h hh.2), un_b (by decide), un_ne (fun hh => h hh.2), un_ne (fun hh => h hh.2), un_b (by decide)]
      exact e q hq
  · rw [up2_b (by omega)]; exact f q hq
theorem asM.mc (hv : ¬ v = 0) (H : asM m p C I) : asM m p (un (un C 2 w v) 3 w x) (up2 (up2 I (m + 5) w (Int32.ofNat v)) (m + 6) w (Int32.ofNat x)) := by
  obtain ⟨⟨a1, a2, a3, a4⟩, b, d, e, f⟩ := H
  refine ⟨⟨?_, ?_, ?_, fun hp => ?_⟩, fun q hq => ?_, fun q hq => ?_, fun q hq => ?_, fun q hq => ?_⟩
  · rw [up2_b (by omega), up2_b (by omega)]; exact a1
  · rw [up2_b (by omega), up2_b (by omega)]; exact a2
  · rw [up2_b (by omega), up2_b (by omega)]; exact a3
  · rw [up2_b (by omega), up2_b (by omega)]; exact a4 hp
  · rw [up2_b (by omega), up2_b (by omega)]; exact b q hq
  · by_cases h : q = w
    · rw [h, up2_b (by omega), up2_eq, up2_eq, un_b (by decide), un_eq, un_eq]
      exact ⟨fun hh => absurd hh hv, fun _ => ⟨rfl, rfl⟩⟩
    · rw [up2_b (by omega), up2_ne (fun hh => h hh.2), up2_ne (fun hh => h hh.2), up2_b (by omega), un_b (by decide), un_ne (fun hh => h hh.2), un_ne (fun hh => h hh.2), un_b (by decide)]
      exact d q hq
  · exact ⟨fun h => (congrFun (by rw [up2_b (by omega), up2_b (by omega)]) q).trans ((e q hq).1 h), fun h => (congrFun (by rw [up2_b (by omega), up2_b (by omega)]) q).trans ((e q hq).2 h)⟩
  · rw [up2_b (by omega), up2_b (by omega)]; exact f q hq
theorem asM.m9 (H : asM m p C I) : asM m p (un (un C 9 w v) 10 w x) (I) := by
  obtain ⟨⟨a1, a2, a3, a4⟩, b, d, e, f⟩ := H
  refine ⟨⟨?_, ?_, ?_, fun hp => ?_⟩, fun q hq => ?_, fun q hq => ?_, fun q hq => ?_, fun q hq => ?_⟩
  · exact a1
  · exact a2
  · exact a3
  · exact a4 hp
  · exact b q hq
  · exact d q hq
  · exact e q hq
  · exact f q hq
theorem asM.ar (H : asM m p C I) : asM m p (un (un C 5 w v) 6 w x) (I) := by
  obtain ⟨⟨a1, a2, a3, a4⟩, b, d, e, f⟩ := H
  refine ⟨⟨?_, ?_, ?_, fun hp => ?_⟩, fun q hq => ?_, fun q hq => ?_, fun q hq => ?_, fun q hq => ?_⟩
  · exact a1
  · exact a2
  · exact a3
  · exact a4 hp
  · exact b q hq
  · exact d q hq
  · exact e q hq
  · exact f q hq
theorem asM.o0 (hj : y = 14 ∨ y = 19) (H : asM m p C I) : asM m p (C) (up2 I m y z) := by
  obtain ⟨⟨a1, a2, a3, a4⟩, b, d, e, f⟩ := H
  refine ⟨⟨?_, ?_, ?_, fun hp => ?_⟩, fun q hq => ?_, fun q hq => ?_, fun q hq => ?_, fun q hq => ?_⟩
  · rw [up2_ne (by omega)]; exact a1
  · rw [up2_ne (by omega)]; exact a2
  · rw [up2_ne (by omega)]; exact a3
  · rw [up2_ne (by omega)]; exact a4 hp
  · rw [up2_b (by omega)]; exact b q hq
  · exact ⟨fun h => (congrFun (by rw [up2_b (by omega)]) q).trans ((d q hq).1 h), fun h => ⟨(congrFun (by rw [up2_b (by omega)]) q).trans ((d q hq).2 h).1, (congrFun (by rw [up2_b (by omega)]) q).trans ((d q hq).2 h).2⟩⟩
  · exact ⟨fun h => (congrFun (by rw [up2_b (by omega)]) q).trans ((e q hq).1 h), fun h => (congrFun (by rw [up2_b (by omega)]) q).trans ((e q hq).2 h)⟩
  · rw [up2_b (by omega)]; exact f q hq
theorem asM.ob (hb : m + 7 ≤ y ∧ y ≤ m + 12) (H : asM m p C I) : asM m p (C) (up2 I y w z) := by
  obtain ⟨⟨a1, a2, a3, a4⟩, b, d, e, f⟩ := H
  refine ⟨⟨?_, ?_, ?_, fun hp => ?_⟩, fun q hq => ?_, fun q hq => ?_, fun q hq => ?_, fun q hq => ?_⟩
  · rw [up2_b (by omega)]; exact a1
  · rw [up2_b (by omega)]; exact a2
  · rw [up2_b (by omega)]; exact a3
  · rw [up2_b (by omega)]; exact a4 hp
  · rw [up2_b (by omega)]; exact b q hq
  · exact ⟨fun h => (congrFun (by rw [up2_b (by omega)]) q).trans ((d q hq).1 h), fun h => ⟨(congrFun (by rw [up2_b (by omega)]) q).trans ((d q hq).2 h).1, (congrFun (by rw [up2_b (by omega)]) q).trans ((d q hq).2 h).2⟩⟩
  · exact ⟨fun h => (congrFun (by rw [up2_b (by omega)]) q).trans ((e q hq).1 h), fun h => (congrFun (by rw [up2_b (by omega)]) q).trans ((e q hq).2 h)⟩
  · rw [up2_b (by omega)]; exact f q hq
theorem asG.refl {d : Nat} : asG m d I I := fun _ _ _ _ _ => rfl
theorem asG.trans {d d2 : Nat} {J Q : AI} (h : asG m d I J) (h2 : asG m d2 J Q) (hd : d ≤ d2) : asG m d I Q := fun b j h3 h4 h5 => (h2 b j h3 h4 (by omega)).trans (h b j h3 h4 h5)
theorem asG.up0 {d j : Nat} (h : 14 ≤ j ∧ j ≤ 19) : asG m d I (up2 I m j z) := fun b k h3 h4 h5 => up2_ne (by omega)
theorem asG.up {d b j : Nat} (h : (m + 3 ≤ b ∧ b ≤ m + 6) ∨ b = m + 13) : asG m d I (up2 I b j z) := fun c k h3 h4 h5 => up2_ne (by omega)
theorem asG.ups {d b j : Nat} (h : m + 7 ≤ b ∧ b ≤ m + 12) (hd : d ≤ j) : asG m d I (up2 I b j z) := fun c k h3 h4 h5 => up2_ne (by omega)
theorem asT.up {i e use : Nat} {st : List Nat} {D : PN} {J : AI} (H : asT m p i e use st C I) (hM : asM m p D J) (h14 : J m 14 = I m 14) (hb : ∀ b, m + 7 ≤ b → b ≤ m + 12 → J b = I b) (h5 : D 5 use = C 5 use ∧ D 6 use = C 6 use) : asT m p i e use st D J := by
  obtain ⟨-, b1, c1, d1⟩ := H
  unfold asT asSK
  rw [h14, hb (m + 7) (by omega) (by omega), hb (m + 8) (by omega) (by omega), hb (m + 9) (by omega) (by omega), hb (m + 10) (by omega) (by omega), hb (m + 11) (by omega) (by omega), hb (m + 12) (by omega) (by omega), h5.1, h5.2]
  exact ⟨hM, b1, c1, d1⟩
theorem MSr.g {n d : Nat} {L J : AI} (H : MSr n m L I) (h : asG m d I J) : MSr n m L J := by
  have e1 : J (m + 1) = I (m + 1) := funext fun j => h _ _ (by omega) (by omega) (by omega)
  have e2 : J (m + 2) = I (m + 2) := funext fun j => h _ _ (by omega) (by omega) (by omega)
  exact H.o (h _ _ (by omega) (by omega) (by omega)) e1 e2
end AM3
