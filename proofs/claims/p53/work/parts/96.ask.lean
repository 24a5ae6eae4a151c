/-! the class's rows, an update at a time -/
section AK
variable {S p v w x : Nat} {st : List Nat} {C : PN} {I : AI}
theorem asK.g (H : asK S p st C I) : asK S p st (un C 0 1 v) (up2 I S 13 (Int32.ofNat v)) := by
  obtain ⟨⟨a1, a2, a3, a4⟩, b, c, d, e, f⟩ := H
  refine ⟨⟨?_, ?_, ?_, fun hp => ?_⟩, fun q hq => ?_, fun q hq => ?_, fun q hq => ?_, fun q hq => ?_, fun hp => ⟨fun q hq => ?_, fun q hq => ?_, ?_, ?_⟩⟩
  · rw [up2_ne (by omega)]; exact a1
  · rw [up2_ne (by omega)]; exact a2
  · rw [up2_ne (by omega)]; exact a3
  · rw [up2_eq]; rfl
  · rw [up2_b (by omega)]; exact b q hq
  · rw [up2_b (by omega)]; exact c q hq
  · exact ⟨fun h => (congrFun (by rw [up2_b (by omega)]) q).trans ((d q hq).1 h), fun h => ⟨(congrFun (by rw [up2_b (by omega)]) q).trans ((d q hq).2 h).1, (congrFun (by rw [up2_b (by omega)]) q).trans ((d q hq).2 h).2⟩⟩
  · exact ⟨fun h => (congrFun (by rw [up2_b (by omega)]) q).trans ((e q hq).1 h), fun h => ⟨(congrFun (by rw [up2_b (by omega)]) q).trans ((e q hq).2 h).1, (congrFun (by rw [up2_b (by omega)]) q).trans ((e q hq).2 h).2⟩⟩
  · exact ⟨fun h => (congrFun (by rw [up2_b (by omega)]) q).trans (((f hp).1 q hq).1 h), fun h => (congrFun (by rw [up2_b (by omega)]) q).trans (((f hp).1 q hq).2 h)⟩
  · rw [up2_b (by omega)]; exact (f hp).2.1 q hq
  · rw [up2_b (by omega)]; exact (f hp).2.2.1
  · rw [up2_b (by omega)]; exact (f hp).2.2.2
theorem asK.g1 (hp1 : p = 1) (H : asK S p st C I) : asK S p st (un C 0 1 v) (I) := by
  obtain ⟨⟨a1, a2, a3, a4⟩, b, c, d, e, f⟩ := H
  refine ⟨⟨?_, ?_, ?_, fun hp => ?_⟩, fun q hq => ?_, fun q hq => ?_, fun q hq => ?_, fun q hq => ?_, fun hp => ⟨fun q hq => ?_, fun q hq => ?_, ?_, ?_⟩⟩
  · exact a1
  · exact a2
  · exact a3
  · omega
  · exact b q hq
  · exact c q hq
  · exact d q hq
  · exact e q hq
  · exact (f hp).1 q hq
  · exact (f hp).2.1 q hq
  · exact (f hp).2.2.1
  · exact (f hp).2.2.2
theorem asK.m2 (H : asK S p st C I) : asK S p st (un C 2 w v) (I) := by
  obtain ⟨⟨a1, a2, a3, a4⟩, b, c, d, e, f⟩ := H
  refine ⟨⟨?_, ?_, ?_, fun hp => ?_⟩, fun q hq => ?_, fun q hq => ?_, fun q hq => ?_, fun q hq => ?_, fun hp => ⟨fun q hq => ?_, fun q hq => ?_, ?_, ?_⟩⟩
  · exact a1
  · exact a2
  · exact a3
  · exact a4 hp
  · exact b q hq
  · exact c q hq
  · exact d q hq
  · exact e q hq
  · exact (f hp).1 q hq
  · exact (f hp).2.1 q hq
  · exact (f hp).2.2.1
  · exact (f hp).2.2.2
theorem asK.m3 (H : asK S p st C I) : asK S p st (un C 3 w v) (I) := by
  obtain ⟨⟨a1, a2, a3, a4⟩, b, c, d, e, f⟩ := H
  refine ⟨⟨?_, ?_, ?_, fun hp => ?_⟩, fun q hq => ?_, fun q hq => ?_, fun q hq => ?_, fun q hq => ?_, fun hp => ⟨fun q hq => ?_, fun q hq => ?_, ?_, ?_⟩⟩
  · exact a1
  · exact a2
  · exact a3
  · exact a4 hp
  · exact b q hq
  · exact c q hq
  · exact d q hq
  · exact e q hq
  · exact (f hp).1 q hq
  · exact (f hp).2.1 q hq
  · exact (f hp).2.2.1
  · exact (f hp).2.2.2
theorem asK.pr (H : asK S p st C I) : asK S p st (un C 0 0 v) (up2 I S 15 (Int32.ofNat v)) := by
  obtain ⟨⟨a1, a2, a3, a4⟩, b, c, d, e, f⟩ := H
  refine ⟨⟨?_, ?_, ?_, fun hp => ?_⟩, fun q hq => ?_, fun q hq => ?_, fun q hq => ?_, fun q hq => ?_, fun hp => ⟨fun q hq => ?_, fun q hq => ?_, ?_, ?_⟩⟩
  · rw [up2_ne (by omega)]; exact a1
  · rw [up2_ne (by omega)]; exact a2
  · rw [up2_eq]; rfl
  · rw [up2_ne (by omega)]; exact a4 hp
  · rw [up2_b (by omega)]; exact b q hq
  · rw [up2_b (by omega)]; exact c q hq
  · exact ⟨fun h => (congrFun (by rw [up2_b (by omega)]) q).trans ((d q hq).1 h), fun h => ⟨(congrFun (by rw [up2_b (by omega)]) q).trans ((d q hq).2 h).1, (congrFun (by rw [up2_b (by omega)]) q).trans ((d q hq).2 h).2⟩⟩
  · exact ⟨fun h => (congrFun (by rw [up2_b (by omega)]) q).trans ((e q hq).1 h), fun h => ⟨(congrFun (by rw [up2_b (by omega)]) q).trans ((e q hq).2 h).1, (congrFun (by rw [up2_b (by omega)]) q).trans ((e q hq).2 h).2⟩⟩
  · exact ⟨fun h => (congrFun (by rw [up2_b (by omega)]) q).trans (((f hp).1 q hq).1 h), fun h => (congrFun (by rw [up2_b (by omega)]) q).trans (((f hp).1 q hq).2 h)⟩
  · rw [up2_b (by omega)]; exact (f hp).2.1 q hq
  · rw [up2_b (by omega)]; exact (f hp).2.2.1
  · rw [up2_b (by omega)]; exact (f hp).2.2.2
theorem asK.us (H : asK S p st C I) : asK S p st (un C 0 2 v) (up2 I S 14 (Int32.ofNat v)) := by
  obtain ⟨⟨a1, a2, a3, a4⟩, b, c, d, e, f⟩ := H
  refine ⟨⟨?_, ?_, ?_, fun hp => ?_⟩, fun q hq => ?_, fun q hq => ?_, fun q hq => ?_, fun q hq => ?_, fun hp => ⟨fun q hq => ?_, fun q hq => ?_, ?_, ?_⟩⟩
  · rw [up2_ne (by omega)]; exact a1
  · rw [up2_eq]; rfl
  · rw [up2_ne (by omega)]; exact a3
  · rw [up2_ne (by omega)]; exact a4 hp
  · rw [up2_b (by omega)]; exact b q hq
  · rw [up2_b (by omega)]; exact c q hq
  · exact ⟨fun h => (congrFun (by rw [up2_b (by omega)]) q).trans ((d q hq).1 h), fun h => ⟨(congrFun (by rw [up2_b (by omega)]) q).trans ((d q hq).2 h).1, (congrFun (by rw [up2_b (by omega)]) q).trans ((d q hq).2 h).2⟩⟩
  · exact ⟨fun h => (congrFun (by rw [up2_b (by omega)]) q).trans ((e q hq).1 h), fun h => ⟨(congrFun (by rw [up2_b (by omega)]) q).trans ((e q hq).2 h).1, (congrFun (by rw [up2_b (by omega)]) q).trans ((e q hq).2 h).2⟩⟩
  · exact ⟨fun h => (congrFun (by rw [up2_b (by omega)]) q).trans (((f hp).1 q hq).1 h), fun h => (congrFun (by rw [up2_b (by omega)]) q).trans (((f hp).1 q hq).2 h)⟩
  · rw [up2_b (by omega)]; exact (f hp).2.1 q hq
  · rw [up2_b (by omega)]; exact (f hp).2.2.1
  · rw [up2_b (by omega)]; exact (f hp).2.2.2
theorem asK.sz (H : asK S p st C I) : asK S p st (un C 1 w v) (up2 I (S + 10) w (Int32.ofNat v)) := by
  obtain ⟨⟨a1, a2, a3, a4⟩, b, c, d, e, f⟩ := H
  refine ⟨⟨?_, ?_, ?_, fun hp => ?_⟩, fun q hq => ?_, fun q hq => ?_, fun q hq => ?_, fun q hq => ?_, fun hp => ⟨fun q hq => ?_, fun q hq => ?_, ?_, ?_⟩⟩
  · rw [up2_b (by omega)]; exact a1
  · rw [up2_b (by omega)]; exact a2
  · rw [up2_b (by omega)]; exact a3
  · rw [up2_b (by omega)]; exact a4 hp
  · by_cases h : q = w
    · rw [h, up2_eq, un_eq]
    · rw [up2_ne (fun hh => h hh.2), un_ne (fun hh => h hh.2)]; exact b q hq
  · rw [up2_b (by omega)]; exact c q hq
  · exact ⟨fun h => (congrFun (by rw [up2_b (by omega)]) q).trans ((d q hq).1 h), fun h => ⟨(congrFun (by rw [up2_b (by omega)]) q).trans ((d q hq).2 h).1, (congrFun (by rw [up2_b (by omega)]) q).trans ((d q hq).2 h).2⟩⟩
  · exact ⟨fun h => (congrFun (by rw [up2_b (by omega)]) q).trans ((e q hq).1 h), fun h => ⟨(congrFun (by rw [up2_b (by omega)]) q).trans ((e q hq).2 h).1, (congrFun (by rw [up2_b (by omega)]) q).trans ((e q hq).2 h).2⟩⟩
  · exact ⟨fun h => (congrFun (by rw [up2_b (by omega)]) q).trans (((f hp).1 q hq).1 h), fun h => (congrFun (by rw [up2_b (by omega)]) q).trans (((f hp).1 q hq).2 h)⟩
  · rw [up2_b (by omega)]; exact (f hp).2.1 q hq
  · rw [up2_b (by omega)]; exact (f hp).2.2.1
  · rw [up2_b (by omega)]; exact (f hp).2.2.2
theorem asK.im (H : asK S p st C I) : asK S p st (un C 7 w v) (up2 I (S + 1) w (Int32.ofNat v)) := by
  obtain ⟨⟨a1, a2, a3, a4⟩, b, c, d, e, f⟩ := H
  refine ⟨⟨?_, ?_, ?_, fun hp => ?_⟩, fun q hq => ?_, fun q hq => ?_, fun q hq => ?_, fun q hq => ?_, fun hp => ⟨fun q hq => ?_, fun q hq => ?_, ?_, ?_⟩⟩
  · rw [up2_b (by omega)]; exact a1
  · rw [up2_b (by omega)]; exact a2
  · rw [up2_b (by omega)]; exact a3
  · rw [up2_b (by omega)]; exact a4 hp
  · rw [up2_b (by omega)]; exact b q hq
  · rw [up2_b (by omega)]; exact c q hq
  · exact ⟨fun h => (congrFun (by rw [up2_b (by omega)]) q).trans ((d q hq).1 h), fun h => ⟨(congrFun (by rw [up2_b (by omega)]) q).trans ((d q hq).2 h).1, (congrFun (by rw [up2_b (by omega)]) q).trans ((d q hq).2 h).2⟩⟩
  · exact ⟨fun h => (congrFun (by rw [up2_b (by omega)]) q).trans ((e q hq).1 h), fun h => ⟨(congrFun (by rw [up2_b (by omega)]) q).trans ((e q hq).2 h).1, (congrFun (by rw [up2_b (by omega)]) q).trans ((e q hq).2 h).2⟩⟩
  · exact ⟨fun h => (congrFun (by rw [up2_b (by omega)]) q).trans (((f hp).1 q hq).1 h), fun h => (congrFun (by rw [up2_b (by omega)]) q).trans (((f hp).1 q hq).2 h)⟩
  · by_cases h : q = w
    · rw [h, up2_eq, un_eq]
    · rw [up2_ne (fun hh => h hh.2), un_ne (fun hh => h hh.2)]; exact (f hp).2.1 q hq
  · rw [up2_b (by omega)]; exact (f hp).2.2.1
  · rw [up2_b (by omega)]; exact (f hp).2.2.2
theorem asK.lb (H : asK S p st C I) : asK S p st (un (un C 4 w (v + 1)) 11 w x) (up2 (up2 I (S + 6) w (Int32.ofNat x)) (S + 7) w (Int32.ofNat v)) := by
  obtain ⟨⟨a1, a2, a3, a4⟩, b, c, d, e, f⟩ := H
  refine ⟨⟨?_, ?_, ?_, fun hp => ?_⟩, fun q hq => ?_, fun q hq => ?_, fun q hq => ?_, fun q hq => ?_, fun hp => ⟨fun q hq => ?_, fun q hq => ?_, ?_, ?_⟩⟩
  · rw [up2_b (by omega), up2_b (by omega)]; exact a1
  · rw [up2_b (by omega), up2_b (by omega)]; exact a2
  · rw [up2_b (by omega), up2_b (by omega)]; exact a3
  · rw [up2_b (by omega), up2_b (by omega)]; exact a4 hp
  · rw [up2_b (by omega), up2_b (by omega)]; exact b q hq
  · rw [up2_b (by omega), up2_b (by omega)]; exact c q hq
  · exact ⟨fun h => (congrFun (by rw [up2_b (by omega), up2_b (by omega)]) q).trans ((d q hq).1 h), fun h => ⟨(congrFun (by rw [up2_b (by omega), up2_b (by omega)]) q).trans ((d q hq).2 h).1, (congrFun (by rw [up2_b (by omega), up2_b (by omega)]) q).trans ((d q hq).2 h).2⟩⟩
  · by_cases h : q = w
    · rw [h, up2_eq, up2_b (by omega), up2_eq, un_b (by decide), un_eq, un_eq]
      exact ⟨fun hh => absurd hh (by omega), fun _ => ⟨rfl, rfl⟩⟩
    · rw [up2_ne (fun hh => h hh.2), up2_b (by omega), up2_b (by omega), up2_ne (fun hh => h hh.2), un_b (by decide), un_ne (fun hh => h hh.2), un_ne (fun hh => h hh.2), un_b (by decide)]
      exact e q hq
  · exact ⟨fun h => (congrFun (by rw [up2_b (by omega), up2_b (by omega)]) q).trans (((f hp).1 q hq).1 h), fun h => (congrFun (by rw [up2_b (by omega), up2_b (by omega)]) q).trans (((f hp).1 q hq).2 h)⟩
  · rw [up2_b (by omega), up2_b (by omega)]; exact (f hp).2.1 q hq
  · rw [up2_b (by omega), up2_b (by omega)]; exact (f hp).2.2.1
  · rw [up2_b (by omega), up2_b (by omega)]; exact (f hp).2.2.2
theorem asK.mc (H : asK S p st C I) : asK S p st (un (un C 9 w (v + 1)) 10 w x) (up2 (up2 I (S + 3) w (Int32.ofNat v)) (S + 4) w (Int32.ofNat x)) := by
  obtain ⟨⟨a1, a2, a3, a4⟩, b, c, d, e, f⟩ := H
  refine ⟨⟨?_, ?_, ?_, fun hp => ?_⟩, fun q hq => ?_, fun q hq => ?_, fun q hq => ?_, fun q hq => ?_, fun hp => ⟨fun q hq => ?_, fun q hq => ?_, ?_, ?_⟩⟩
  · rw [up2_b (by omega), up2_b (by omega)]; exact a1
  · rw [up2_b (by omega), up2_b (by omega)]; exact a2
  · rw [up2_b (by omega), up2_b (by omega)]; exact a3
  · rw [up2_b (by omega), up2_b (by omega)]; exact a4 hp
  · rw [up2_b (by omega), up2_b (by omega)]; exact b q hq
  · rw [up2_b (by omega), up2_b (by omega)]; exact c q hq
  · by_cases h : q = w
    · rw [h, up2_b (by omega), up2_eq, up2_eq, un_b (by decide), un_eq, un_eq]
      exact ⟨fun hh => absurd hh (by omega), fun _ => ⟨rfl, rfl⟩⟩
    · rw [up2_b (by omega), up2_ne (fun hh => h hh.2), up2_ne (fun hh => h hh.2), up2_b (by omega), un_b (by decide), un_ne (fun hh => h hh.2), un_ne (fun hh => h hh.2), un_b (by decide)]
      exact d q hq
  · exact ⟨fun h => (congrFun (by rw [up2_b (by omega), up2_b (by omega)]) q).trans ((e q hq).1 h), fun h => ⟨(congrFun (by rw [up2_b (by omega), up2_b (by omega)]) q).trans ((e q hq).2 h).1, (congrFun (by rw [up2_b (by omega), up2_b (by omega)]) q).trans ((e q hq).2 h).2⟩⟩
  · exact ⟨fun h => (congrFun (by rw [up2_b (by omega), up2_b (by omega)]) q).trans (((f hp).1 q hq).1 h), fun h => (congrFun (by rw [up2_b (by omega), up2_b (by omega)]) q).trans (((f hp).1 q hq).2 h)⟩
  · rw [up2_b (by omega), up2_b (by omega)]; exact (f hp).2.1 q hq
  · rw [up2_b (by omega), up2_b (by omega)]; exact (f hp).2.2.1
  · rw [up2_b (by omega), up2_b (by omega)]; exact (f hp).2.2.2
theorem asK.ar (H : asK S p st C I) : asK S p st (un (un C 5 w (v + 1)) 6 w (x + 1)) (up2 (up2 I (S + 8) w (Int32.ofNat v)) (S + 9) w (Int32.ofNat x)) := by
  obtain ⟨⟨a1, a2, a3, a4⟩, b, c, d, e, f⟩ := H
  refine ⟨⟨?_, ?_, ?_, fun hp => ?_⟩, fun q hq => ?_, fun q hq => ?_, fun q hq => ?_, fun q hq => ?_, fun hp => ⟨fun q hq => ?_, fun q hq => ?_, ?_, ?_⟩⟩
  · rw [up2_b (by omega), up2_b (by omega)]; exact a1
  · rw [up2_b (by omega), up2_b (by omega)]; exact a2
  · rw [up2_b (by omega), up2_b (by omega)]; exact a3
  · rw [up2_b (by omega), up2_b (by omega)]; exact a4 hp
  · rw [up2_b (by omega), up2_b (by omega)]; exact b q hq
  · rw [up2_b (by omega), up2_b (by omega)]; exact c q hq
  · exact ⟨fun h => (congrFun (by rw [up2_b (by omega), up2_b (by omega)]) q).trans ((d q hq).1 h), fun h => ⟨(congrFun (by rw [up2_b (by omega), up2_b (by omega)]) q).trans ((d q hq).2 h).1, (congrFun (by rw [up2_b (by omega), up2_b (by omega)]) q).trans ((d q hq).2 h).2⟩⟩
  · exact ⟨fun h => (congrFun (by rw [up2_b (by omega), up2_b (by omega)]) q).trans ((e q hq).1 h), fun h => ⟨(congrFun (by rw [up2_b (by omega), up2_b (by omega)]) q).trans ((e q hq).2 h).1, (congrFun (by rw [up2_b (by omega), up2_b (by omega)]) q).trans ((e q hq).2 h).2⟩⟩
  · by_cases h : q = w
    · rw [h, up2_b (by omega), up2_eq, up2_eq, un_b (by decide), un_eq, un_eq]
      exact ⟨fun _ => rfl, fun _ => rfl⟩
    · rw [up2_b (by omega), up2_ne (fun hh => h hh.2), up2_ne (fun hh => h hh.2), up2_b (by omega), un_b (by decide), un_ne (fun hh => h hh.2), un_ne (fun hh => h hh.2), un_b (by decide)]
      exact (f hp).1 q hq
  · rw [up2_b (by omega), up2_b (by omega)]; exact (f hp).2.1 q hq
  · rw [up2_b (by omega), up2_b (by omega)]; exact (f hp).2.2.1
  · rw [up2_b (by omega), up2_b (by omega)]; exact (f hp).2.2.2
theorem asK.bs (H : asK S p st C I) : asK S p (w :: st) (C) (up2 I (S + 5) w 1) := by
  obtain ⟨⟨a1, a2, a3, a4⟩, b, c, d, e, f⟩ := H
  refine ⟨⟨?_, ?_, ?_, fun hp => ?_⟩, fun q hq => ?_, fun q hq => ?_, fun q hq => ?_, fun q hq => ?_, fun hp => ⟨fun q hq => ?_, fun q hq => ?_, ?_, ?_⟩⟩
  · rw [up2_b (by omega)]; exact a1
  · rw [up2_b (by omega)]; exact a2
  · rw [up2_b (by omega)]; exact a3
  · rw [up2_b (by omega)]; exact a4 hp
  · rw [up2_b (by omega)]; exact b q hq
  · by_cases h : q = w
    · rw [h, up2_eq, if_pos List.mem_cons_self]
    · rw [up2_ne (fun hh => h hh.2), c q hq]
      by_cases h2 : q ∈ st
      · rw [if_pos h2, if_pos (List.mem_cons_of_mem _ h2)]
      · rw [if_neg h2, if_neg (fun hh => by rcases List.mem_cons.mp hh with h3 | h3; exact h h3; exact h2 h3)]
  · exact ⟨fun h => (congrFun (by rw [up2_b (by omega)]) q).trans ((d q hq).1 h), fun h => ⟨(congrFun (by rw [up2_b (by omega)]) q).trans ((d q hq).2 h).1, (congrFun (by rw [up2_b (by omega)]) q).trans ((d q hq).2 h).2⟩⟩
  · exact ⟨fun h => (congrFun (by rw [up2_b (by omega)]) q).trans ((e q hq).1 h), fun h => ⟨(congrFun (by rw [up2_b (by omega)]) q).trans ((e q hq).2 h).1, (congrFun (by rw [up2_b (by omega)]) q).trans ((e q hq).2 h).2⟩⟩
  · exact ⟨fun h => (congrFun (by rw [up2_b (by omega)]) q).trans (((f hp).1 q hq).1 h), fun h => (congrFun (by rw [up2_b (by omega)]) q).trans (((f hp).1 q hq).2 h)⟩
  · rw [up2_b (by omega)]; exact (f hp).2.1 q hq
  · rw [up2_b (by omega)]; exact (f hp).2.2.1
  · rw [up2_b (by omega)]; exact (f hp).2.2.2
theorem asK.bb (hw : ¬ w ∈ st) (H : asK S p (w :: st) C I) : asK S p st (C) (up2 I (S + 5) w 0) := by
  obtain ⟨⟨a1, a2, a3, a4⟩, b, c, d, e, f⟩ := H
  refine ⟨⟨?_, ?_, ?_, fun hp => ?_⟩, fun q hq => ?_, fun q hq => ?_, fun q hq => ?_, fun q hq => ?_, fun hp => ⟨fun q hq => ?_, fun q hq => ?_, ?_, ?_⟩⟩
  · rw [up2_b (by omega)]; exact a1
  · rw [up2_b (by omega)]; exact a2
  · rw [up2_b (by omega)]; exact a3
  · rw [up2_b (by omega)]; exact a4 hp
  · rw [up2_b (by omega)]; exact b q hq
  · by_cases h : q = w
    · rw [h, up2_eq, if_neg hw]
    · rw [up2_ne (fun hh => h hh.2), c q hq]
      by_cases h2 : q ∈ st
      · rw [if_pos h2, if_pos (List.mem_cons_of_mem _ h2)]
      · rw [if_neg h2, if_neg (fun hh => by rcases List.mem_cons.mp hh with h3 | h3; exact h h3; exact h2 h3)]
  · exact ⟨fun h => (congrFun (by rw [up2_b (by omega)]) q).trans ((d q hq).1 h), fun h => ⟨(congrFun (by rw [up2_b (by omega)]) q).trans ((d q hq).2 h).1, (congrFun (by rw [up2_b (by omega)]) q).trans ((d q hq).2 h).2⟩⟩
  · exact ⟨fun h => (congrFun (by rw [up2_b (by omega)]) q).trans ((e q hq).1 h), fun h => ⟨(congrFun (by rw [up2_b (by omega)]) q).trans ((e q hq).2 h).1, (congrFun (by rw [up2_b (by omega)]) q).trans ((e q hq).2 h).2⟩⟩
  · exact ⟨fun h => (congrFun (by rw [up2_b (by omega)]) q).trans (((f hp).1 q hq).1 h), fun h => (congrFun (by rw [up2_b (by omega)]) q).trans (((f hp).1 q hq).2 h)⟩
  · rw [up2_b (by omega)]; exact (f hp).2.1 q hq
  · rw [up2_b (by omega)]; exact (f hp).2.2.1
  · rw [up2_b (by omega)]; exact (f hp).2.2.2
end AK
