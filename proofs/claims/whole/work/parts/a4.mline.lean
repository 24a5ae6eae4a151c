/-! the model goes through a line: what its helpers do -/
section AP
variable {kad : Nat → Nat} {N : Nat} {Z : AZ} {m n p i e use : Nat} {st : List Nat} {C : PN} {L J : AI} {k x : Int32}
theorem eSb {a b : Nat} (h : b ≤ a) : Int32.ofNat a - Int32.ofNat b = Int32.ofNat (a - b) := by
  have e := eA (a - b) b
  rw [Nat.sub_add_cancel h] at e
  rw [← e]
  exact Int32.add_sub_cancel _ _
theorem M14 (H : asT m p i e use st C J) (h5 : st.length ≤ 5) : ixA 6 (J m 14) = some st.length := by
  rw [H.2.1.1]
  exact ixA_of (by omega)
theorem M14_0 (H : asT m p i e use st C J) (h5 : st.length ≤ 5) : J m 14 = 0 ↔ st.length = 0 := by
  rw [H.2.1.1]
  exact of_inj (n := 0) (by omega) (by decide)
theorem use0 (H : asT m p i e use st C J) : use = 0 ↔ st.length = 0 := by
  obtain ⟨-, -, ⟨c1, c2⟩, -⟩ := H
  constructor
  · intro h
    by_cases h2 : st.length = 0
    · exact h2
    · have := (c2 (by omega)).1
      omega
  · exact c1
theorem M200 (H : asT m p i e use st C J) (h5 : st.length ≤ 5) (hu : use ≤ 300) {a : Nat} (ha : a ≤ 19) : f200 kad N Z m (Int32.ofNat a) J = some (Int32.ofNat (slN a use), J) := by
  unfold f200 f200_b13 f200_b36 slN
  by_cases h : a < 16
  · rw [if_pos (show Int32.ofNat a < 16 from (of_lt (n := 16) (by omega) (by decide)).mpr h), if_pos h]
  · rw [if_neg (show ¬ Int32.ofNat a < 16 from fun hh => h ((of_lt (n := 16) (by omega) (by decide)).mp hh)), if_neg h]
    by_cases h0 : st.length = 0
    · rw [if_neg (fun hh => hh ((M14_0 H h5).mpr h0)), (use0 H).mpr h0, Nat.mul_zero, Nat.add_zero]
    · rw [if_pos (fun hh => h0 ((M14_0 H h5).mp hh)), M14 H h5, Option.bind_some]
      obtain ⟨c1, c2, -⟩ := H.2.2.1.2 (by omega)
      rw [c2, show (4 : Int32) = Int32.ofNat 4 from rfl, show (20 : Int32) = Int32.ofNat 20 from rfl, show (16 : Int32) = Int32.ofNat 16 from rfl, eM, eA, eA, eSb (by omega), show 20 + 4 * (use - 1) + a - 16 = a + 4 * use by omega]
theorem M201 (HM : MSr n m L J) (hn : n ≤ 100) (hi : i < n) (hv : LV L i) : f201 kad N Z m (Int32.ofNat i) J = some (Int32.ofNat (if L 1 i = 2 ∨ L 1 i = 3 ∨ L 1 i = 4 then wl L i else 0), J) := by
  obtain ⟨l1, l2, -⟩ := HM.2 i hi
  unfold f201 f201_b42 wl
  rw [ixA_of (show i < 100 by omega), Option.bind_some, l1]
  by_cases h2 : L 1 i = 2
  · rw [if_neg (fun hh => hh h2), if_pos (Or.inl h2), if_pos h2]; rfl
  · rw [if_pos h2]
    by_cases h3 : L 1 i = 3
    · rw [if_neg (fun hh => hh h3), if_pos (Or.inr (Or.inl h3)), if_neg h2, if_pos h3]; rfl
    · rw [if_pos h3]
      by_cases h4 : L 1 i = 4
      · rw [if_neg (fun hh => hh h4), if_pos (Or.inr (Or.inr h4)), if_neg h2, if_neg h3, show (5 : Int32) = Int32.ofNat 5 from rfl, eM, ixA_of (show 5 * i < 500 by omega), Option.bind_some, l2 (Or.inr (Or.inr (Or.inl h4))), ← (hv.nn h3 (by rw [h4]; decide)).1]
      · rw [if_pos h4, if_neg (show ¬ (L 1 i = 2 ∨ L 1 i = 3 ∨ L 1 i = 4) from fun hh => hh.elim h2 (fun hh => hh.elim h3 h4))]; rfl
theorem M202_l (HM : MSr n m L J) (hn : n ≤ 100) : ∀ (f j F : Nat), j + f = n → f < F → f202_b4 kad N Z F m (Int32.ofNat j) J = some (if nxt L f j = n then Int32.ofInt (-1) else Int32.ofNat (nxt L f j), J) := by
  intro f
  induction f with
  | zero =>
    intro j F hj hF
    obtain ⟨F, rfl⟩ : ∃ G, F = G + 1 := ⟨F - 1, by omega⟩
    unfold f202_b4 nxt
    rw [HM.1, if_pos ((of_le (by omega) (by omega)).mpr (by omega)), if_pos (by omega)]
  | succ f ih =>
    intro j F hj hF
    obtain ⟨F, rfl⟩ : ∃ G, F = G + 1 := ⟨F - 1, by omega⟩
    have hjn : j < n := by omega
    unfold f202_b4 f202_b34 nxt
    rw [HM.1, if_neg (fun hh => by have := (of_le (by omega) (by omega)).mp hh; omega), ixA_of (show j < 100 by omega), Option.bind_some, (HM.2 j hjn).1]
    by_cases h7 : L 1 j = 7
    · rw [if_pos h7, if_pos (Or.inl h7), if_neg (by omega)]
    · rw [if_neg h7, Option.bind_some, (HM.2 j hjn).1]
      by_cases h6 : L 1 j = 6
      · rw [if_neg (fun hh => hh h6), if_pos (Or.inr h6), if_neg (by omega)]
      · rw [if_pos h6, if_neg (show ¬ (L 1 j = 7 ∨ L 1 j = 6) from fun hh => hh.elim h7 h6), of_s]
        exact ih (j + 1) F (by omega) (by omega)
theorem M202 (hN : 2000 ≤ N) (HM : MSr n m L J) (hn : n ≤ 100) (hi : i < n) : f202 kad N Z m (Int32.ofNat i) J = some (if nx n L i = n then Int32.ofInt (-1) else Int32.ofNat (nx n L i), J) := by
  unfold f202
  rw [of_s]
  exact M202_l HM hn (n - (i + 1)) (i + 1) N (by omega) (by omega)
theorem ml2 (HM : MSr n m L J) (hi : i < n) (hn : n ≤ 100) : ixA 500 ((5 : Int32) * Int32.ofNat i) = some (5 * i) := by
  rw [show (5 : Int32) = Int32.ofNat 5 from rfl, eM]
  exact ixA_of (by omega)
theorem mm1 {q : Nat} (H : asM m p C J) (hq : q < 5) (hb : C 2 q ≤ 100) : J (m + 5) q = Int32.ofInt (-1) ↔ C 2 q = 0 := by
  obtain ⟨h1, h2⟩ := H.2.2.1 q hq
  constructor
  · intro h
    by_cases hz : C 2 q = 0
    · exact hz
    · rw [(h2 hz).1] at h
      exact absurd h (m1_ne (by omega))
  · exact h1
theorem M203 (hN : 2000 ≤ N) (H : asT m p (i + 1) e use st C J) (h5 : st.length ≤ 5) (HM : MSr n m L J) (hn : n ≤ 100) (hi : i < n) (hv : LV L i) (h6 : L 1 i = 6) (hb : C 2 (nT (L 2 i)) ≤ 100) : f203 kad N Z m (Int32.ofNat i) J = some (if C 2 (nT (L 2 i)) = 0 then (if nx n L i = n then (Int32.ofNat (400 + i), J) else if L 1 (nx n L i) = 6 then (Int32.ofNat (400 + nx n L i), J) else (0, up2 (up2 (up2 J (m + 5) (nT (L 2 i)) (Int32.ofNat (i + 1))) (m + 6) (nT (L 2 i)) (Int32.ofNat (nx n L i))) (m + 7) st.length (Int32.ofNat (nx n L i + 1)))) else (Int32.ofNat (300 + i), J)) := by
  obtain ⟨l1, l2, -⟩ := HM.2 i hi
  have l2 := l2 (Or.inr (Or.inr (Or.inr h6)))
  obtain ⟨n1, -, -, -, -, -, n6, -⟩ := hv.nn (by rw [h6]; decide) (by rw [h6]; decide)
  have n6 := n6 h6
  have ha : ixA 5 (L 2 i) = some (nT (L 2 i)) := (congrArg (ixA 5) n1).trans (ixA_of (show nT (L 2 i) < 5 by omega))
  obtain ⟨x1, x2, -⟩ := nx_le (L := L) hi
  unfold f203 f203_b47 f203_b60
  rw [ml2 HM hi hn, Option.bind_some, l2, ha, Option.bind_some]
  by_cases h2 : C 2 (nT (L 2 i)) = 0
  · rw [if_pos ((mm1 H.1 (by omega) hb).mpr h2), if_pos h2, M202 hN HM hn hi, Option.bind_some]
    dsimp only
    by_cases hx : nx n L i = n
    · rw [if_pos hx, if_pos hx, if_pos rfl, if_neg (fun hh => hh rfl), show (400 : Int32) = Int32.ofNat 400 from rfl, eA]
    · rw [if_neg hx, if_neg hx, if_neg (m1_ne (by omega)), ixA_of (show nx n L i < 100 by omega), Option.bind_some]
      have lk : J (m + 1) (nx n L i) = L 1 (nx n L i) := (HM.2 (nx n L i) (by omega)).1
      by_cases hy : L 1 (nx n L i) = 6
      · rw [if_neg (fun hh => hh (lk.trans hy)), if_pos hy, if_pos (m1_ne (by omega)), show (400 : Int32) = Int32.ofNat 400 from rfl, eA]
      · rw [if_pos (fun hh => hy (lk.symm.trans hh)), if_neg hy, Option.bind_some, wI_ok, Option.bind_some, Option.bind_some, wI_ok, Option.bind_some, up2_b (show ¬ m = m + 6 by omega), up2_b (show ¬ m = m + 5 by omega), M14 H h5, Option.bind_some, wI_ok, Option.bind_some, of_s, of_s]
  · rw [if_neg (fun hh => h2 ((mm1 H.1 (by omega) hb).mp hh)), if_neg h2, show (300 : Int32) = Int32.ofNat 300 from rfl, eA]
theorem M204_l (H : asT m p i e use st C J) (h5 : st.length ≤ 5) (hs : ∀ b, b ∈ st → b < 5) {a : Nat} (ha : a < 5) : ∀ (f q F : Nat), q + f = st.length + 1 → 1 ≤ q → f < F → f204_b2 kad N Z F m (Int32.ofNat a) (Int32.ofNat q) J = some (if a ∈ st.take f then 1 else 0, J) := by
  intro f
  induction f with
  | zero =>
    intro q F hq h1 hF
    obtain ⟨F, rfl⟩ : ∃ G, F = G + 1 := ⟨F - 1, by omega⟩
    unfold f204_b2
    rw [H.2.1.1, if_pos ((of_lt (by omega) (by omega)).mpr (by omega)), List.take_zero, if_neg List.not_mem_nil]
  | succ f ih =>
    intro q F hq h1 hF
    obtain ⟨F, rfl⟩ : ∃ G, F = G + 1 := ⟨F - 1, by omega⟩
    have hf : f < st.length := by omega
    have hd := H.2.2.2 f hf
    rw [show st.length - f = q by omega] at hd
    have hg : st.getD f 0 = st[f] := by rw [List.getD_eq_getElem?_getD, List.getElem?_eq_getElem hf]; rfl
    unfold f204_b2
    rw [H.2.1.1, if_neg (fun hh => by have := (of_lt (by omega) (by omega)).mp hh; omega), ixA_of (show q < 6 by omega), Option.bind_some, hd, hg, List.take_succ_eq_append_getElem hf]
    have hlt := hs _ (List.getElem_mem hf)
    by_cases he : st[f] = a
    · rw [if_neg (fun hh => hh (by rw [he])), if_pos (List.mem_append.mpr (Or.inr (by rw [he]; exact List.mem_singleton_self a)))]
    · rw [if_pos (fun hh => he ((of_inj (by omega) (by omega)).mp hh)), of_s, ih (q + 1) F (by omega) (by omega) (by omega)]
      by_cases hm : a ∈ st.take f
      · rw [if_pos hm, if_pos (List.mem_append.mpr (Or.inl hm))]
      · rw [if_neg hm, if_neg (fun hh => by
          rcases List.mem_append.mp hh with h | h
          · exact hm h
          · exact he (List.mem_singleton.mp h).symm)]
theorem M204 (hN : 2000 ≤ N) (H : asT m p i e use st C J) (h5 : st.length ≤ 5) (hs : ∀ b, b ∈ st → b < 5) {a : Nat} (ha : a < 5) : f204 kad N Z m (Int32.ofNat a) J = some (if a ∈ st then 1 else 0, J) := by
  unfold f204
  have h := M204_l (kad := kad) (N := N) (Z := Z) H h5 hs ha st.length 1 N (by omega) (by decide) (by omega)
  rw [List.take_length] at h
  exact h
/-- only what is wrong is noted -/
def as19 (m : Nat) (I J : AI) : Prop := ∀ b j, ¬ (b = m ∧ j = 19) → J b j = I b j
theorem as19.up {I : AI} {v : Int32} : as19 m I (up2 I m 19 v) := fun b j h => up2_ne h
theorem as19.trans {I Q : AI} (h : as19 m I J) (h2 : as19 m J Q) : as19 m I Q := fun b j h3 => (h2 b j h3).trans (h b j h3)
theorem as19.g {I : AI} {d : Nat} (h : as19 m I J) : asG m d I J := fun b j h1 h2 h3 => h b j (by omega)
theorem as19.b {I : AI} {b : Nat} (h : as19 m I J) (hb : ¬ b = m) : J b = I b := funext fun j => h b j (by omega)
theorem asM.n19 {I : AI} (H : asM m p C I) (h : as19 m I J) : asM m p C J := by
  unfold asM
  rw [h m 15 (by omega), h m 16 (by omega), h m 17 (by omega), h m 18 (by omega), h.b (b := m + 4) (by omega), h.b (b := m + 5) (by omega), h.b (b := m + 6) (by omega), h.b (b := m + 3) (by omega), h.b (b := m + 13) (by omega)]
  exact H
theorem asT.n19 {I : AI} (H : asT m p i e use st C I) (h : as19 m I J) : asT m p i e use st C J := H.up (H.1.n19 h) (h m 14 (by omega)) (fun b h1 h2 => h.b (by omega)) ⟨rfl, rfl⟩
theorem M205 (H : asT m 1 i e use st C J) (h5 : st.length ≤ 5) (W : asW n L 1 C) (ho : opOK k x) (hu : use ≤ 300) (hu2 : 0 < use → ¬ C 5 use = 0 ∧ ¬ C 6 use = 0) : ∃ J', f205 kad N Z m k x J = some (match opV k x use C with | none => 0 | some v => Int32.ofNat v, J') ∧ J' m 19 = (match opV k x use C with | none => Int32.ofNat (oe k) | some _ => 0) ∧ as19 m J J' := by
  obtain ⟨⟨-, -, -, -, w4⟩, -, ws⟩ := W
  obtain ⟨a, e0, e1, e2, e3⟩ := op_nat ho
  have F1 : as19 m J (up2 J m 19 0) := as19.up
  have H1 := H.n19 F1
  obtain ⟨J1, hJ1⟩ : ∃ J1, J1 = up2 J m 19 0 := ⟨_, rfl⟩
  have hz1 : J1 m 19 = 0 := by rw [hJ1, up2_eq]
  rw [← hJ1] at F1 H1
  unfold f205 f205_b89 f205_b129 f205_b134 f205_b33 f205_b66 f205_b67 opV oe
  rw [wI_ok, Option.bind_some, ← hJ1, e1]
  rcases op_kind ho with hk | hk | hk | hk
  · subst hk
    rw [if_pos (show ¬ (0 : Int32) = 1 by decide), if_neg (show ¬ (2 : Int32) ≤ 0 by decide), if_pos rfl, e0]
    exact ⟨J1, rfl, hz1, F1⟩
  · subst hk
    have hs := slN_lt (e3 rfl) hu
    rw [if_neg (show ¬ ¬ (1 : Int32) = 1 from fun hh => hh rfl), if_neg z10, if_pos rfl, if_pos rfl, e0, M200 H1 h5 hu (e3 rfl), Option.bind_some]
    dsimp only
    rw [ixA_of hs, Option.bind_some]
    obtain ⟨b1, b2⟩ := H1.1.2.2.2.1 (slN a use) hs
    obtain ⟨⟨v1, v2⟩, -⟩ := ws (slN a use)
    by_cases h4 : C 4 (slN a use) = 0
    · have e4 := b1 h4
      rw [if_neg (fun hh => hh e4), if_pos h4, wI_ok, Option.bind_some, if_neg (fun hh => hh e4)]
      exact ⟨_, rfl, up2_eq, F1.trans as19.up⟩
    · have eb := b2 h4
      have hne : ¬ Int32.ofNat (1000 * C 11 (slN a use) + (C 4 (slN a use) - 1)) = Int32.ofInt (-1) := m1_ne (by omega)
      have hne' : ¬ J1 (m + 3) (slN a use) = Int32.ofInt (-1) := fun hh => hne (eb.symm.trans hh)
      rw [if_pos hne', if_neg h4, wI_ok, Option.bind_some, if_pos hne']
      by_cases h11 : C 11 (slN a use) = 0
      · rw [if_neg (show ¬ (1000 : Int32) ≤ J1 (m + 3) (slN a use) from fun hh => by rw [eb] at hh; have := (of_le (m := 1000) (by decide) (by omega)).mp hh; omega), if_pos h11, eb, show (1000 : Int32) = Int32.ofNat 1000 from rfl, eR (by omega) (by decide) (by decide), h11, show (8 : Int32) = Int32.ofNat 8 from rfl, eA, show (1000 * 0 + (C 4 (slN a use) - 1)) % 1000 = C 4 (slN a use) - 1 by omega, Nat.add_comm (C 4 (slN a use) - 1)]
        exact ⟨_, rfl, up2_eq, F1.trans as19.up⟩
      · have h11' : C 11 (slN a use) = 1 := by omega
        rw [if_pos (show (1000 : Int32) ≤ J1 (m + 3) (slN a use) from by rw [eb]; exact (of_le (m := 1000) (by decide) (by omega)).mpr (by omega)), if_neg h11, eb, show (1000 : Int32) = Int32.ofNat 1000 from rfl, eR (by omega) (by decide) (by decide), h11', up2_ne (by omega), H1.1.1.2.2.2 rfl, eA, show (1000 * 1 + (C 4 (slN a use) - 1)) % 1000 = C 4 (slN a use) - 1 by omega, Nat.add_comm (C 4 (slN a use) - 1)]
        exact ⟨_, rfl, up2_eq, F1.trans as19.up⟩
  · subst hk
    rw [if_pos (show ¬ (2 : Int32) = 1 by decide), if_pos (show (2 : Int32) ≤ 2 by decide), if_neg (show ¬ (2 : Int32) = 0 by decide), if_neg (show ¬ (2 : Int32) = 1 by decide)]
    by_cases h0 : st.length = 0
    · have hd := (M14_0 H1 h5).mpr h0
      rw [if_neg (fun hh => hh hd), if_pos ((use0 H).mpr h0), wI_ok, Option.bind_some, up2_ne (by omega), if_neg (fun hh => hh hd)]
      exact ⟨_, rfl, by rw [up2_eq]; rfl, F1.trans as19.up⟩
    · have hd : ¬ J1 m 14 = 0 := fun hh => h0 ((M14_0 H1 h5).mp hh)
      have hu0 : ¬ use = 0 := fun hh => h0 ((use0 H).mp hh)
      obtain ⟨c1, c2, c3⟩ := H1.2.2.1.2 (by omega)
      rw [if_pos hd, if_neg hu0, wI_ok, Option.bind_some, up2_ne (by omega), if_pos hd, if_neg (fun hh => hh rfl), M14 H1 h5, Option.bind_some, up2_b (by omega), (c3 rfl).1, if_pos rfl, e0, eA, show (65536 : Int32) = Int32.ofNat 65536 from rfl, eR (by have := (ws use).2.1.1; omega) (by decide) (by decide)]
      exact ⟨_, rfl, up2_eq, F1.trans as19.up⟩
  · subst hk
    rw [if_pos (show ¬ (3 : Int32) = 1 by decide), if_pos (show (2 : Int32) ≤ 3 by decide), if_neg (show ¬ (3 : Int32) = 0 by decide), if_neg (show ¬ (3 : Int32) = 1 by decide)]
    by_cases h0 : st.length = 0
    · have hd := (M14_0 H1 h5).mpr h0
      rw [if_neg (fun hh => hh hd), if_pos ((use0 H).mpr h0), wI_ok, Option.bind_some, up2_ne (by omega), if_neg (fun hh => hh hd)]
      exact ⟨_, rfl, by rw [up2_eq]; rfl, F1.trans as19.up⟩
    · have hd : ¬ J1 m 14 = 0 := fun hh => h0 ((M14_0 H1 h5).mp hh)
      have hu0 : ¬ use = 0 := fun hh => h0 ((use0 H).mp hh)
      obtain ⟨c1, c2, c3⟩ := H1.2.2.1.2 (by omega)
      rw [if_pos hd, if_neg hu0, wI_ok, Option.bind_some, up2_ne (by omega), if_pos hd, if_pos (show ¬ (3 : Int32) = 2 by decide), M14 H1 h5, Option.bind_some, up2_b (by omega), (c3 rfl).2, if_neg (show ¬ (3 : Int32) = 2 by decide), e0, eA, show (65536 : Int32) = Int32.ofNat 65536 from rfl, eR (by have := (ws use).2.1.2; omega) (by decide) (by decide)]
      exact ⟨_, rfl, up2_eq, F1.trans as19.up⟩
end AP
