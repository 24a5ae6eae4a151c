-- KernelGymModel.goes (IZ)I
def f210_b63 (kad : Nat → Nat) (N : Nat) (Z : AZ) (a0 : Nat) (i1 : Int32) (I : AI) : Option (Int32 × AI) :=
  some (((100 : Int32) + i1), I)
set_option maxRecDepth 20000 in
theorem Tf210_b63 {kad : Nat → Nat} {N : Nat} {Z : AZ} {d : Nat} {t : Option Nat × (Nat × Nat)} (hd : 3 ≤ d) : ∀ (a0 : Nat) (ha0 : sh11 kad Z a0) (i1 : Int32) (I : AI) (r : Int32 × AI), f210_b63 kad N Z a0 i1 I = some r → aGo kad d 210 (63, ([(1, .int i1)], [])) (aMem Z I, t) (qI Z t r) := by
  intro a0 ha0 i1 I r h
  unfold f210_b63 at h
  refine go_ops aMi210 3 _ (f1 := (67, ([(1, .int i1)], [.int ((100 : Int32) + i1)]))) rfl ?_
  cases h
  exact go_ret aMi210 rfl aRetI ⟨rfl, rfl⟩
def f210_b165 (kad : Nat → Nat) (N : Nat) (Z : AZ) (a0 : Nat) (s0 : Int32) (I : AI) : Option (Int32 × AI) :=
  some (s0, I)
set_option maxRecDepth 20000 in
theorem Tf210_b165 {kad : Nat → Nat} {N : Nat} {Z : AZ} {d : Nat} {t : Option Nat × (Nat × Nat)} (hd : 3 ≤ d) : ∀ (a0 : Nat) (ha0 : sh11 kad Z a0) (s0 : Int32) (I : AI) (r : Int32 × AI), f210_b165 kad N Z a0 s0 I = some r → aGo kad d 210 (165, ([], [.int s0])) (aMem Z I, t) (qI Z t r) := by
  intro a0 ha0 s0 I r h
  unfold f210_b165 at h
  cases h
  exact go_ret aMi210 rfl aRetI ⟨rfl, rfl⟩
def f210_b68 (kad : Nat → Nat) (N : Nat) (Z : AZ) (a0 : Nat) (i1 : Int32) (i2 : Int32) (i3 : Int32) (i4 : Int32) (I : AI) : Option (Int32 × AI) :=
  if ¬ i4 = 0 then
    if ¬ i4 = (6 : Int32) then
      if ¬ i4 = (7 : Int32) then
        if ¬ i4 = (8 : Int32) then
          if i2 = 0 then
            (ixA 2 (I a0 15)).bind fun j146_1 =>
            (ixA 2 (I a0 15)).bind fun j149_3 =>
            (wI I (a0 + 4) j149_3 ((I (a0 + 4) j146_1) + i3)).bind fun I149_2 =>
            if ¬ i4 = (1 : Int32) then
              f210_b165 kad N Z a0 (0 : Int32) I149_2
            else
              (f207 kad N Z a0 i1 I149_2).bind fun r158_4 =>
              f210_b165 kad N Z a0 r158_4.1 r158_4.2
          else
            (f209 kad N Z a0 i1 I).bind fun r133_5 =>
            some (r133_5.1, r133_5.2)
        else
          (f206 kad N Z a0 i1 i2 I).bind fun r123_6 =>
          some (r123_6.1, r123_6.2)
      else
        some (((400 : Int32) + i1), I)
    else
      (f203 kad N Z a0 i1 I).bind fun r96_7 =>
      some (r96_7.1, r96_7.2)
  else
    (ixA 500 ((5 : Int32) * i1)).bind fun j81_8 =>
    (wI I a0 15 (I (a0 + 2) j81_8)).bind fun I82_9 =>
    some ((0 : Int32), I82_9)
set_option maxRecDepth 20000 in
theorem Tf210_b68 {kad : Nat → Nat} {N : Nat} {Z : AZ} {d : Nat} {t : Option Nat × (Nat × Nat)} (hd : 3 ≤ d) : ∀ (a0 : Nat) (ha0 : sh11 kad Z a0) (i1 : Int32) (i2 : Int32) (i3 : Int32) (i4 : Int32) (I : AI) (r : Int32 × AI), f210_b68 kad N Z a0 i1 i2 i3 i4 I = some r → aGo kad d 210 (68, ([(0, .ref a0), (1, .int i1), (2, .int i2), (3, .int i3), (4, .int i4)], [])) (aMem Z I, t) (qI Z t r) := by
  intro a0 ha0 i1 i2 i3 i4 I r h
  unfold f210_b68 at h
  refine go_ops aMi210 1 _ (f1 := (70, ([(0, .ref a0), (1, .int i1), (2, .int i2), (3, .int i3), (4, .int i4)], [.int i4]))) rfl ?_
  refine gg_br (b := decide (¬ i4 = 0)) (tg := 87) (off := 17) aMi210 rfl rfl rfl rfl (fun hb => ?_) (fun hb => ?_)
  · rw [if_pos (of_decide_eq_true hb)] at h
    refine go_ops aMi210 2 _ (f1 := (91, ([(0, .ref a0), (1, .int i1), (2, .int i2), (3, .int i3), (4, .int i4)], [.int (6 : Int32), .int i4]))) rfl ?_
    refine gg_br (b := decide (¬ i4 = (6 : Int32))) (tg := 100) (off := 9) aMi210 rfl rfl rfl rfl (fun hb => ?_) (fun hb => ?_)
    · rw [if_pos (of_decide_eq_true hb)] at h
      refine go_ops aMi210 2 _ (f1 := (104, ([(0, .ref a0), (1, .int i1), (2, .int i2), (3, .int i3), (4, .int i4)], [.int (7 : Int32), .int i4]))) rfl ?_
      refine gg_br (b := decide (¬ i4 = (7 : Int32))) (tg := 113) (off := 9) aMi210 rfl rfl rfl rfl (fun hb => ?_) (fun hb => ?_)
      · rw [if_pos (of_decide_eq_true hb)] at h
        refine go_ops aMi210 2 _ (f1 := (117, ([(0, .ref a0), (1, .int i1), (2, .int i2), (3, .int i3), (4, .int i4)], [.int (8 : Int32), .int i4]))) rfl ?_
        refine gg_br (b := decide (¬ i4 = (8 : Int32))) (tg := 127) (off := 10) aMi210 rfl rfl rfl rfl (fun hb => ?_) (fun hb => ?_)
        · rw [if_pos (of_decide_eq_true hb)] at h
          refine go_ops aMi210 1 _ (f1 := (128, ([(0, .ref a0), (1, .int i1), (2, .int i2), (3, .int i3), (4, .int i4)], [.int i2]))) rfl ?_
          refine gg_br (b := decide (i2 = 0)) (tg := 137) (off := 9) aMi210 rfl rfl rfl rfl (fun hb => ?_) (fun hb => ?_)
          · rw [if_pos (of_decide_eq_true hb)] at h
            refine go_ops aMi210 1 _ (f1 := (138, ([(0, .ref a0), (1, .int i1), (2, .int i2), (3, .int i3), (4, .int i4)], [.ref a0]))) rfl ?_
            refine gg_gR (b := (a0 + 4)) aMi210 rfl rfl rfl (gR_of (sh11_z ha0) (sh11_r5 ha0)) ?_
            refine go_ops aMi210 1 _ (f1 := (142, ([(0, .ref a0), (1, .int i1), (2, .int i2), (3, .int i3), (4, .int i4)], [.ref a0, .ref (a0 + 4)]))) rfl ?_
            refine gg_gI aMi210 rfl rfl rfl (gI_of (sh11_z ha0)) ?_
            refine go_ops aMi210 1 _ (f1 := (146, ([(0, .ref a0), (1, .int i1), (2, .int i2), (3, .int i3), (4, .int i4)], [.int (I a0 15), .ref (a0 + 4), .int (I a0 15), .ref (a0 + 4)]))) rfl ?_
            obtain ⟨j146_1, hxj146_1, h⟩ := Option.bind_eq_some_iff.mp h
            refine gg_lI (Or.inl ⟨rfl, rfl⟩) aMi210 rfl (lI_of (sh11_a5 ha0) hxj146_1) ?_
            refine go_ops aMi210 2 _ (f1 := (149, ([(0, .ref a0), (1, .int i1), (2, .int i2), (3, .int i3), (4, .int i4)], [.int ((I (a0 + 4) j146_1) + i3), .int (I a0 15), .ref (a0 + 4)]))) rfl ?_
            obtain ⟨j149_3, hxj149_3, h⟩ := Option.bind_eq_some_iff.mp h
            obtain ⟨I149_2, hxI149_2, h⟩ := Option.bind_eq_some_iff.mp h
            refine gg_sI (Or.inl ⟨rfl, rfl⟩) aMi210 rfl (sI_of (sh11_a5 ha0) hxj149_3 hxI149_2) ?_
            refine go_ops aMi210 2 _ (f1 := (153, ([(0, .ref a0), (1, .int i1), (2, .int i2), (3, .int i3), (4, .int i4)], [.int (1 : Int32), .int i4]))) rfl ?_
            refine gg_br (b := decide (¬ i4 = (1 : Int32))) (tg := 164) (off := 11) aMi210 rfl rfl rfl rfl (fun hb => ?_) (fun hb => ?_)
            · rw [if_pos (of_decide_eq_true hb)] at h
              refine go_ops aMi210 1 _ (f1 := (165, ([(0, .ref a0), (1, .int i1), (2, .int i2), (3, .int i3), (4, .int i4)], [.int (0 : Int32)]))) rfl ?_
              refine go_le (lv1 := []) (aLe_of (show (List.map (fun q => q.1) ([] : ALv)).Nodup from (by show ([] : List Nat).Nodup; decide)) aSubL_nil) ?_
              exact Tf210_b165 hd a0 ha0 (0 : Int32) I149_2 _ h
            · rw [if_neg (of_decide_eq_false hb)] at h
              refine go_ops aMi210 2 _ (f1 := (158, ([(0, .ref a0), (1, .int i1), (2, .int i2), (3, .int i3), (4, .int i4)], [.int i1, .ref a0]))) rfl ?_
              obtain ⟨r158_4, hxr158_4, h⟩ := Option.bind_eq_some_iff.mp h
              refine gg_cv (as := [.int i1]) (r := []) aMi210 rfl rfl rfl aMi207 (Nat.le_of_ble_eq_true rfl) rfl (Nat.le_of_ble_eq_true rfl) (Nat.le_of_ble_eq_true rfl) (by omega) (isK_of (sh11_z ha0)) (Tf207 (by omega) a0 ha0 i1 I149_2 _ hxr158_4) ?_
              show aGo kad d 210 (161, ([(0, .ref a0), (1, .int i1), (2, .int i2), (3, .int i3), (4, .int i4)], [.int r158_4.1])) (aMem Z r158_4.2, t) _
              refine go_ops aMi210 1 _ (f1 := (165, ([(0, .ref a0), (1, .int i1), (2, .int i2), (3, .int i3), (4, .int i4)], [.int r158_4.1]))) rfl ?_
              refine go_le (lv1 := []) (aLe_of (show (List.map (fun q => q.1) ([] : ALv)).Nodup from (by show ([] : List Nat).Nodup; decide)) aSubL_nil) ?_
              exact Tf210_b165 hd a0 ha0 r158_4.1 r158_4.2 _ h
          · rw [if_neg (of_decide_eq_false hb)] at h
            refine go_ops aMi210 2 _ (f1 := (133, ([(0, .ref a0), (1, .int i1), (2, .int i2), (3, .int i3), (4, .int i4)], [.int i1, .ref a0]))) rfl ?_
            obtain ⟨r133_5, hxr133_5, h⟩ := Option.bind_eq_some_iff.mp h
            refine gg_cv (as := [.int i1]) (r := []) aMi210 rfl rfl rfl aMi209 (Nat.le_of_ble_eq_true rfl) rfl (Nat.le_of_ble_eq_true rfl) (Nat.le_of_ble_eq_true rfl) (by omega) (isK_of (sh11_z ha0)) (Tf209 (by omega) a0 ha0 i1 I _ hxr133_5) ?_
            show aGo kad d 210 (136, ([(0, .ref a0), (1, .int i1), (2, .int i2), (3, .int i3), (4, .int i4)], [.int r133_5.1])) (aMem Z r133_5.2, t) _
            cases h
            exact go_ret aMi210 rfl aRetI ⟨rfl, rfl⟩
        · rw [if_neg (of_decide_eq_false hb)] at h
          refine go_ops aMi210 3 _ (f1 := (123, ([(0, .ref a0), (1, .int i1), (2, .int i2), (3, .int i3), (4, .int i4)], [.int i2, .int i1, .ref a0]))) rfl ?_
          obtain ⟨r123_6, hxr123_6, h⟩ := Option.bind_eq_some_iff.mp h
          refine gg_cv (as := [.int i1, .int i2]) (r := []) aMi210 rfl rfl rfl aMi206 (Nat.le_of_ble_eq_true rfl) rfl (Nat.le_of_ble_eq_true rfl) (Nat.le_of_ble_eq_true rfl) (by omega) (isK_of (sh11_z ha0)) (Tf206 (by omega) a0 ha0 i1 i2 I _ hxr123_6) ?_
          show aGo kad d 210 (126, ([(0, .ref a0), (1, .int i1), (2, .int i2), (3, .int i3), (4, .int i4)], [.int r123_6.1])) (aMem Z r123_6.2, t) _
          cases h
          exact go_ret aMi210 rfl aRetI ⟨rfl, rfl⟩
      · rw [if_neg (of_decide_eq_false hb)] at h
        refine go_ops aMi210 3 _ (f1 := (112, ([(0, .ref a0), (1, .int i1), (2, .int i2), (3, .int i3), (4, .int i4)], [.int ((400 : Int32) + i1)]))) rfl ?_
        cases h
        exact go_ret aMi210 rfl aRetI ⟨rfl, rfl⟩
    · rw [if_neg (of_decide_eq_false hb)] at h
      refine go_ops aMi210 2 _ (f1 := (96, ([(0, .ref a0), (1, .int i1), (2, .int i2), (3, .int i3), (4, .int i4)], [.int i1, .ref a0]))) rfl ?_
      obtain ⟨r96_7, hxr96_7, h⟩ := Option.bind_eq_some_iff.mp h
      refine gg_cv (as := [.int i1]) (r := []) aMi210 rfl rfl rfl aMi203 (Nat.le_of_ble_eq_true rfl) rfl (Nat.le_of_ble_eq_true rfl) (Nat.le_of_ble_eq_true rfl) (by omega) (isK_of (sh11_z ha0)) (Tf203 (by omega) a0 ha0 i1 I _ hxr96_7) ?_
      show aGo kad d 210 (99, ([(0, .ref a0), (1, .int i1), (2, .int i2), (3, .int i3), (4, .int i4)], [.int r96_7.1])) (aMem Z r96_7.2, t) _
      cases h
      exact go_ret aMi210 rfl aRetI ⟨rfl, rfl⟩
  · rw [if_neg (of_decide_eq_false hb)] at h
    refine go_ops aMi210 2 _ (f1 := (75, ([(0, .ref a0), (1, .int i1), (2, .int i2), (3, .int i3), (4, .int i4)], [.ref a0, .ref a0]))) rfl ?_
    refine gg_gR (b := (a0 + 2)) aMi210 rfl rfl rfl (gR_of (sh11_z ha0) (sh11_r3 ha0)) ?_
    refine go_ops aMi210 3 _ (f1 := (81, ([(0, .ref a0), (1, .int i1), (2, .int i2), (3, .int i3), (4, .int i4)], [.int ((5 : Int32) * i1), .ref (a0 + 2), .ref a0]))) rfl ?_
    obtain ⟨j81_8, hxj81_8, h⟩ := Option.bind_eq_some_iff.mp h
    refine gg_lI (Or.inl ⟨rfl, rfl⟩) aMi210 rfl (lI_of (sh11_a3 ha0) hxj81_8) ?_
    obtain ⟨I82_9, hxI82_9, h⟩ := Option.bind_eq_some_iff.mp h
    refine gg_pI aMi210 rfl rfl rfl rfl (by decide) (pI_of (sh11_z ha0) hxI82_9) ?_
    refine go_ops aMi210 1 _ (f1 := (86, ([(0, .ref a0), (1, .int i1), (2, .int i2), (3, .int i3), (4, .int i4)], [.int (0 : Int32)]))) rfl ?_
    cases h
    exact go_ret aMi210 rfl aRetI ⟨rfl, rfl⟩
def f210 (kad : Nat → Nat) (N : Nat) (Z : AZ) (a0 : Nat) (i1 : Int32) (i2 : Int32) (I : AI) : Option (Int32 × AI) :=
  (wI I a0 16 ((I a0 16) + (1 : Int32))).bind fun I7_1 =>
  (f201 kad N Z a0 i1 I7_1).bind fun r12_2 =>
  (ixA 100 i1).bind fun j21_3 =>
  if ¬ i2 = 0 then
    f210_b68 kad N Z a0 i1 i2 r12_2.1 (r12_2.2 (a0 + 1) j21_3) r12_2.2
  else
    if (300 : Int32) < ((r12_2.2) a0 16) then
      f210_b63 kad N Z a0 i1 r12_2.2
    else
      if r12_2.1 ≤ 0 then
        f210_b68 kad N Z a0 i1 i2 r12_2.1 (r12_2.2 (a0 + 1) j21_3) r12_2.2
      else
        (ixA 2 (0 : Int32)).bind fun j47_4 =>
        (ixA 2 (1 : Int32)).bind fun j53_5 =>
        if (((r12_2.2 (a0 + 4) j47_4) + (r12_2.2 (a0 + 4) j53_5)) + r12_2.1) ≤ (248 : Int32) then
          f210_b68 kad N Z a0 i1 i2 r12_2.1 (r12_2.2 (a0 + 1) j21_3) r12_2.2
        else
          f210_b63 kad N Z a0 i1 r12_2.2
set_option maxRecDepth 20000 in
theorem Tf210 {kad : Nat → Nat} {N : Nat} {Z : AZ} {d : Nat} {t : Option Nat × (Nat × Nat)} (hd : 3 ≤ d) : ∀ (a0 : Nat) (ha0 : sh11 kad Z a0) (i1 : Int32) (i2 : Int32) (I : AI) (r : Int32 × AI), f210 kad N Z a0 i1 i2 I = some r → aGo kad d 210 (0, ([(0, .ref a0), (1, .int i1), (2, .int i2)], [])) (aMem Z I, t) (qI Z t r) := by
  intro a0 ha0 i1 i2 I r h
  unfold f210 at h
  refine go_ops aMi210 2 _ (f1 := (2, ([(0, .ref a0), (1, .int i1), (2, .int i2)], [.ref a0, .ref a0]))) rfl ?_
  refine gg_gI aMi210 rfl rfl rfl (gI_of (sh11_z ha0)) ?_
  refine go_ops aMi210 2 _ (f1 := (7, ([(0, .ref a0), (1, .int i1), (2, .int i2)], [.int ((I a0 16) + (1 : Int32)), .ref a0]))) rfl ?_
  obtain ⟨I7_1, hxI7_1, h⟩ := Option.bind_eq_some_iff.mp h
  refine gg_pI aMi210 rfl rfl rfl rfl (by decide) (pI_of (sh11_z ha0) hxI7_1) ?_
  refine go_ops aMi210 2 _ (f1 := (12, ([(0, .ref a0), (1, .int i1), (2, .int i2)], [.int i1, .ref a0]))) rfl ?_
  obtain ⟨r12_2, hxr12_2, h⟩ := Option.bind_eq_some_iff.mp h
  refine gg_cv (as := [.int i1]) (r := []) aMi210 rfl rfl rfl aMi201 (Nat.le_of_ble_eq_true rfl) rfl (Nat.le_of_ble_eq_true rfl) (Nat.le_of_ble_eq_true rfl) (by omega) (isK_of (sh11_z ha0)) (Tf201 (by omega) a0 ha0 i1 I7_1 _ hxr12_2) ?_
  show aGo kad d 210 (15, ([(0, .ref a0), (1, .int i1), (2, .int i2)], [.int r12_2.1])) (aMem Z r12_2.2, t) _
  refine go_ops aMi210 2 _ (f1 := (17, ([(3, .int r12_2.1), (0, .ref a0), (1, .int i1), (2, .int i2)], [.ref a0]))) rfl ?_
  refine gg_gR (b := (a0 + 1)) aMi210 rfl rfl rfl (gR_of (sh11_z ha0) (sh11_r2 ha0)) ?_
  refine go_ops aMi210 1 _ (f1 := (21, ([(3, .int r12_2.1), (0, .ref a0), (1, .int i1), (2, .int i2)], [.int i1, .ref (a0 + 1)]))) rfl ?_
  obtain ⟨j21_3, hxj21_3, h⟩ := Option.bind_eq_some_iff.mp h
  refine gg_lI (Or.inl ⟨rfl, rfl⟩) aMi210 rfl (lI_of (sh11_a2 ha0) hxj21_3) ?_
  refine go_ops aMi210 2 _ (f1 := (25, ([(4, .int (r12_2.2 (a0 + 1) j21_3)), (3, .int r12_2.1), (0, .ref a0), (1, .int i1), (2, .int i2)], [.int i2]))) rfl ?_
  refine gg_br (b := decide (¬ i2 = 0)) (tg := 68) (off := 43) aMi210 rfl rfl rfl rfl (fun hb => ?_) (fun hb => ?_)
  · rw [if_pos (of_decide_eq_true hb)] at h
    refine go_le (lv1 := [(0, .ref a0), (1, .int i1), (2, .int i2), (3, .int r12_2.1), (4, .int (r12_2.2 (a0 + 1) j21_3))]) (aLe_of (show (List.map (fun q => q.1) ([(0, .ref a0), (1, .int i1), (2, .int i2), (3, .int r12_2.1), (4, .int (r12_2.2 (a0 + 1) j21_3))] : ALv)).Nodup from (by show ([0, 1, 2, 3, 4] : List Nat).Nodup; decide)) (aSubL_cons rfl (aSubL_cons rfl (aSubL_cons rfl (aSubL_cons rfl (aSubL_cons rfl aSubL_nil)))))) ?_
    exact Tf210_b68 hd a0 ha0 i1 i2 r12_2.1 (r12_2.2 (a0 + 1) j21_3) r12_2.2 _ h
  · rw [if_neg (of_decide_eq_false hb)] at h
    refine go_ops aMi210 1 _ (f1 := (29, ([(4, .int (r12_2.2 (a0 + 1) j21_3)), (3, .int r12_2.1), (0, .ref a0), (1, .int i1), (2, .int i2)], [.ref a0]))) rfl ?_
    refine gg_gI aMi210 rfl rfl rfl (gI_of (sh11_z ha0)) ?_
    refine go_ops aMi210 1 _ (f1 := (35, ([(4, .int (r12_2.2 (a0 + 1) j21_3)), (3, .int r12_2.1), (0, .ref a0), (1, .int i1), (2, .int i2)], [.int (300 : Int32), .int ((r12_2.2) a0 16)]))) rfl ?_
    refine gg_br (b := decide ((300 : Int32) < ((r12_2.2) a0 16))) (tg := 63) (off := 28) aMi210 rfl rfl rfl rfl (fun hb => ?_) (fun hb => ?_)
    · rw [if_pos (of_decide_eq_true hb)] at h
      refine go_le (lv1 := [(1, .int i1)]) (aLe_of (show (List.map (fun q => q.1) ([(1, .int i1)] : ALv)).Nodup from (by show ([1] : List Nat).Nodup; decide)) (aSubL_cons rfl aSubL_nil)) ?_
      exact Tf210_b63 hd a0 ha0 i1 r12_2.2 _ h
    · rw [if_neg (of_decide_eq_false hb)] at h
      refine go_ops aMi210 1 _ (f1 := (39, ([(4, .int (r12_2.2 (a0 + 1) j21_3)), (3, .int r12_2.1), (0, .ref a0), (1, .int i1), (2, .int i2)], [.int r12_2.1]))) rfl ?_
      refine gg_br (b := decide (r12_2.1 ≤ 0)) (tg := 68) (off := 29) aMi210 rfl rfl rfl rfl (fun hb => ?_) (fun hb => ?_)
      · rw [if_pos (of_decide_eq_true hb)] at h
        refine go_le (lv1 := [(0, .ref a0), (1, .int i1), (2, .int i2), (3, .int r12_2.1), (4, .int (r12_2.2 (a0 + 1) j21_3))]) (aLe_of (show (List.map (fun q => q.1) ([(0, .ref a0), (1, .int i1), (2, .int i2), (3, .int r12_2.1), (4, .int (r12_2.2 (a0 + 1) j21_3))] : ALv)).Nodup from (by show ([0, 1, 2, 3, 4] : List Nat).Nodup; decide)) (aSubL_cons rfl (aSubL_cons rfl (aSubL_cons rfl (aSubL_cons rfl (aSubL_cons rfl aSubL_nil)))))) ?_
        exact Tf210_b68 hd a0 ha0 i1 i2 r12_2.1 (r12_2.2 (a0 + 1) j21_3) r12_2.2 _ h
      · rw [if_neg (of_decide_eq_false hb)] at h
        refine go_ops aMi210 1 _ (f1 := (43, ([(4, .int (r12_2.2 (a0 + 1) j21_3)), (3, .int r12_2.1), (0, .ref a0), (1, .int i1), (2, .int i2)], [.ref a0]))) rfl ?_
        refine gg_gR (b := (a0 + 4)) aMi210 rfl rfl rfl (gR_of (sh11_z ha0) (sh11_r5 ha0)) ?_
        refine go_ops aMi210 1 _ (f1 := (47, ([(4, .int (r12_2.2 (a0 + 1) j21_3)), (3, .int r12_2.1), (0, .ref a0), (1, .int i1), (2, .int i2)], [.int (0 : Int32), .ref (a0 + 4)]))) rfl ?_
        obtain ⟨j47_4, hxj47_4, h⟩ := Option.bind_eq_some_iff.mp h
        refine gg_lI (Or.inl ⟨rfl, rfl⟩) aMi210 rfl (lI_of (sh11_a5 ha0) hxj47_4) ?_
        refine go_ops aMi210 1 _ (f1 := (49, ([(4, .int (r12_2.2 (a0 + 1) j21_3)), (3, .int r12_2.1), (0, .ref a0), (1, .int i1), (2, .int i2)], [.ref a0, .int (r12_2.2 (a0 + 4) j47_4)]))) rfl ?_
        refine gg_gR (b := (a0 + 4)) aMi210 rfl rfl rfl (gR_of (sh11_z ha0) (sh11_r5 ha0)) ?_
        refine go_ops aMi210 1 _ (f1 := (53, ([(4, .int (r12_2.2 (a0 + 1) j21_3)), (3, .int r12_2.1), (0, .ref a0), (1, .int i1), (2, .int i2)], [.int (1 : Int32), .ref (a0 + 4), .int (r12_2.2 (a0 + 4) j47_4)]))) rfl ?_
        obtain ⟨j53_5, hxj53_5, h⟩ := Option.bind_eq_some_iff.mp h
        refine gg_lI (Or.inl ⟨rfl, rfl⟩) aMi210 rfl (lI_of (sh11_a5 ha0) hxj53_5) ?_
        refine go_ops aMi210 4 _ (f1 := (60, ([(4, .int (r12_2.2 (a0 + 1) j21_3)), (3, .int r12_2.1), (0, .ref a0), (1, .int i1), (2, .int i2)], [.int (248 : Int32), .int (((r12_2.2 (a0 + 4) j47_4) + (r12_2.2 (a0 + 4) j53_5)) + r12_2.1)]))) rfl ?_
        refine gg_br (b := decide ((((r12_2.2 (a0 + 4) j47_4) + (r12_2.2 (a0 + 4) j53_5)) + r12_2.1) ≤ (248 : Int32))) (tg := 68) (off := 8) aMi210 rfl rfl rfl rfl (fun hb => ?_) (fun hb => ?_)
        · rw [if_pos (of_decide_eq_true hb)] at h
          refine go_le (lv1 := [(0, .ref a0), (1, .int i1), (2, .int i2), (3, .int r12_2.1), (4, .int (r12_2.2 (a0 + 1) j21_3))]) (aLe_of (show (List.map (fun q => q.1) ([(0, .ref a0), (1, .int i1), (2, .int i2), (3, .int r12_2.1), (4, .int (r12_2.2 (a0 + 1) j21_3))] : ALv)).Nodup from (by show ([0, 1, 2, 3, 4] : List Nat).Nodup; decide)) (aSubL_cons rfl (aSubL_cons rfl (aSubL_cons rfl (aSubL_cons rfl (aSubL_cons rfl aSubL_nil)))))) ?_
          exact Tf210_b68 hd a0 ha0 i1 i2 r12_2.1 (r12_2.2 (a0 + 1) j21_3) r12_2.2 _ h
        · rw [if_neg (of_decide_eq_false hb)] at h
          refine go_le (lv1 := [(1, .int i1)]) (aLe_of (show (List.map (fun q => q.1) ([(1, .int i1)] : ALv)).Nodup from (by show ([1] : List Nat).Nodup; decide)) (aSubL_cons rfl aSubL_nil)) ?_
          exact Tf210_b63 hd a0 ha0 i1 r12_2.2 _ h
-- KernelGymModel.goesThrough (Z)I
def f211_b84 (kad : Nat → Nat) (N : Nat) (Z : AZ) : Nat → Nat → Int32 → AI → Option (Int32 × AI)
  | 0, _, _, _ => none
  | F + 1, a0, i1, I =>
    if (I a0 14) < 0 then
      some ((0 : Int32), I)
    else
      (ixA 6 (I a0 14)).bind fun j99_1 =>
      (ixA 6 (I a0 14)).bind fun j108_2 =>
      if ¬ (I (a0 + 7) j99_1) = (I (a0 + 8) j108_2) then
        (ixA 6 (I a0 14)).bind fun j133_3 =>
        (ixA 6 (I a0 14)).bind fun j144_4 =>
        (ixA 6 (I a0 14)).bind fun j147_6 =>
        (wI I (a0 + 7) j147_6 ((I (a0 + 7) j144_4) + (1 : Int32))).bind fun I147_5 =>
        (f210 kad N Z a0 (I (a0 + 7) j133_3) i1 I147_5).bind fun r151_7 =>
        if r151_7.1 = 0 then
          f211_b84 kad N Z F a0 i1 r151_7.2
        else
          some (r151_7.1, r151_7.2)
      else
        (wI I a0 14 ((I a0 14) - (1 : Int32))).bind fun I119_8 =>
        f211_b84 kad N Z F a0 i1 I119_8
set_option maxRecDepth 20000 in
theorem Tf211_b84 {kad : Nat → Nat} {N : Nat} {Z : AZ} {d : Nat} {t : Option Nat × (Nat × Nat)} (hd : 4 ≤ d) : ∀ (F : Nat) (a0 : Nat) (ha0 : sh11 kad Z a0) (i1 : Int32) (I : AI) (r : Int32 × AI), f211_b84 kad N Z F a0 i1 I = some r → aGo kad d 211 (84, ([(0, .ref a0), (1, .int i1)], [])) (aMem Z I, t) (qI Z t r) := by
  intro F
  induction F with
  | zero => intro a0 ha0 i1 I r h; cases h
  | succ F ih =>
    intro a0 ha0 i1 I r h
    unfold f211_b84 at h
    refine go_ops aMi211 1 _ (f1 := (85, ([(0, .ref a0), (1, .int i1)], [.ref a0]))) rfl ?_
    refine gg_gI aMi211 rfl rfl rfl (gI_of (sh11_z ha0)) ?_
    refine gg_br (b := decide ((I a0 14) < 0)) (tg := 164) (off := 76) aMi211 rfl rfl rfl rfl (fun hb => ?_) (fun hb => ?_)
    · rw [if_pos (of_decide_eq_true hb)] at h
      refine go_ops aMi211 1 _ (f1 := (165, ([(0, .ref a0), (1, .int i1)], [.int (0 : Int32)]))) rfl ?_
      cases h
      exact go_ret aMi211 rfl aRetI ⟨rfl, rfl⟩
    · rw [if_neg (of_decide_eq_false hb)] at h
      refine go_ops aMi211 1 _ (f1 := (92, ([(0, .ref a0), (1, .int i1)], [.ref a0]))) rfl ?_
      refine gg_gR (b := (a0 + 7)) aMi211 rfl rfl rfl (gR_of (sh11_z ha0) (sh11_r8 ha0)) ?_
      refine go_ops aMi211 1 _ (f1 := (96, ([(0, .ref a0), (1, .int i1)], [.ref a0, .ref (a0 + 7)]))) rfl ?_
      refine gg_gI aMi211 rfl rfl rfl (gI_of (sh11_z ha0)) ?_
      obtain ⟨j99_1, hxj99_1, h⟩ := Option.bind_eq_some_iff.mp h
      refine gg_lI (Or.inl ⟨rfl, rfl⟩) aMi211 rfl (lI_of (sh11_a8 ha0) hxj99_1) ?_
      refine go_ops aMi211 1 _ (f1 := (101, ([(0, .ref a0), (1, .int i1)], [.ref a0, .int (I (a0 + 7) j99_1)]))) rfl ?_
      refine gg_gR (b := (a0 + 8)) aMi211 rfl rfl rfl (gR_of (sh11_z ha0) (sh11_r9 ha0)) ?_
      refine go_ops aMi211 1 _ (f1 := (105, ([(0, .ref a0), (1, .int i1)], [.ref a0, .ref (a0 + 8), .int (I (a0 + 7) j99_1)]))) rfl ?_
      refine gg_gI aMi211 rfl rfl rfl (gI_of (sh11_z ha0)) ?_
      obtain ⟨j108_2, hxj108_2, h⟩ := Option.bind_eq_some_iff.mp h
      refine gg_lI (Or.inl ⟨rfl, rfl⟩) aMi211 rfl (lI_of (sh11_a9 ha0) hxj108_2) ?_
      refine gg_br (b := decide (¬ (I (a0 + 7) j99_1) = (I (a0 + 8) j108_2))) (tg := 125) (off := 16) aMi211 rfl rfl rfl rfl (fun hb => ?_) (fun hb => ?_)
      · rw [if_pos (of_decide_eq_true hb)] at h
        refine go_ops aMi211 1 _ (f1 := (126, ([(0, .ref a0), (1, .int i1)], [.ref a0]))) rfl ?_
        refine gg_gR (b := (a0 + 7)) aMi211 rfl rfl rfl (gR_of (sh11_z ha0) (sh11_r8 ha0)) ?_
        refine go_ops aMi211 1 _ (f1 := (130, ([(0, .ref a0), (1, .int i1)], [.ref a0, .ref (a0 + 7)]))) rfl ?_
        refine gg_gI aMi211 rfl rfl rfl (gI_of (sh11_z ha0)) ?_
        obtain ⟨j133_3, hxj133_3, h⟩ := Option.bind_eq_some_iff.mp h
        refine gg_lI (Or.inl ⟨rfl, rfl⟩) aMi211 rfl (lI_of (sh11_a8 ha0) hxj133_3) ?_
        refine go_ops aMi211 2 _ (f1 := (136, ([(2, .int (I (a0 + 7) j133_3)), (0, .ref a0), (1, .int i1)], [.ref a0]))) rfl ?_
        refine gg_gR (b := (a0 + 7)) aMi211 rfl rfl rfl (gR_of (sh11_z ha0) (sh11_r8 ha0)) ?_
        refine go_ops aMi211 1 _ (f1 := (140, ([(2, .int (I (a0 + 7) j133_3)), (0, .ref a0), (1, .int i1)], [.ref a0, .ref (a0 + 7)]))) rfl ?_
        refine gg_gI aMi211 rfl rfl rfl (gI_of (sh11_z ha0)) ?_
        refine go_ops aMi211 1 _ (f1 := (144, ([(2, .int (I (a0 + 7) j133_3)), (0, .ref a0), (1, .int i1)], [.int (I a0 14), .ref (a0 + 7), .int (I a0 14), .ref (a0 + 7)]))) rfl ?_
        obtain ⟨j144_4, hxj144_4, h⟩ := Option.bind_eq_some_iff.mp h
        refine gg_lI (Or.inl ⟨rfl, rfl⟩) aMi211 rfl (lI_of (sh11_a8 ha0) hxj144_4) ?_
        refine go_ops aMi211 2 _ (f1 := (147, ([(2, .int (I (a0 + 7) j133_3)), (0, .ref a0), (1, .int i1)], [.int ((I (a0 + 7) j144_4) + (1 : Int32)), .int (I a0 14), .ref (a0 + 7)]))) rfl ?_
        obtain ⟨j147_6, hxj147_6, h⟩ := Option.bind_eq_some_iff.mp h
        obtain ⟨I147_5, hxI147_5, h⟩ := Option.bind_eq_some_iff.mp h
        refine gg_sI (Or.inl ⟨rfl, rfl⟩) aMi211 rfl (sI_of (sh11_a8 ha0) hxj147_6 hxI147_5) ?_
        refine go_ops aMi211 3 _ (f1 := (151, ([(2, .int (I (a0 + 7) j133_3)), (0, .ref a0), (1, .int i1)], [.int i1, .int (I (a0 + 7) j133_3), .ref a0]))) rfl ?_
        obtain ⟨r151_7, hxr151_7, h⟩ := Option.bind_eq_some_iff.mp h
        refine gg_cv (as := [.int (I (a0 + 7) j133_3), .int i1]) (r := []) aMi211 rfl rfl rfl aMi210 (Nat.le_of_ble_eq_true rfl) rfl (Nat.le_of_ble_eq_true rfl) (Nat.le_of_ble_eq_true rfl) (by omega) (isK_of (sh11_z ha0)) (Tf210 (by omega) a0 ha0 (I (a0 + 7) j133_3) i1 I147_5 _ hxr151_7) ?_
        show aGo kad d 211 (154, ([(2, .int (I (a0 + 7) j133_3)), (0, .ref a0), (1, .int i1)], [.int r151_7.1])) (aMem Z r151_7.2, t) _
        refine go_ops aMi211 2 _ (f1 := (156, ([(3, .int r151_7.1), (2, .int (I (a0 + 7) j133_3)), (0, .ref a0), (1, .int i1)], [.int r151_7.1]))) rfl ?_
        refine gg_br (b := decide (r151_7.1 = 0)) (tg := 161) (off := 5) aMi211 rfl rfl rfl rfl (fun hb => ?_) (fun hb => ?_)
        · rw [if_pos (of_decide_eq_true hb)] at h
          refine go_ops aMi211 1 _ (f1 := (84, ([(3, .int r151_7.1), (2, .int (I (a0 + 7) j133_3)), (0, .ref a0), (1, .int i1)], []))) rfl ?_
          refine go_le (lv1 := [(0, .ref a0), (1, .int i1)]) (aLe_of (show (List.map (fun q => q.1) ([(0, .ref a0), (1, .int i1)] : ALv)).Nodup from (by show ([0, 1] : List Nat).Nodup; decide)) (aSubL_cons rfl (aSubL_cons rfl aSubL_nil))) ?_
          exact ih a0 ha0 i1 r151_7.2 _ h
        · rw [if_neg (of_decide_eq_false hb)] at h
          refine go_ops aMi211 1 _ (f1 := (160, ([(3, .int r151_7.1), (2, .int (I (a0 + 7) j133_3)), (0, .ref a0), (1, .int i1)], [.int r151_7.1]))) rfl ?_
          cases h
          exact go_ret aMi211 rfl aRetI ⟨rfl, rfl⟩
      · rw [if_neg (of_decide_eq_false hb)] at h
        refine go_ops aMi211 2 _ (f1 := (114, ([(0, .ref a0), (1, .int i1)], [.ref a0, .ref a0]))) rfl ?_
        refine gg_gI aMi211 rfl rfl rfl (gI_of (sh11_z ha0)) ?_
        refine go_ops aMi211 2 _ (f1 := (119, ([(0, .ref a0), (1, .int i1)], [.int ((I a0 14) - (1 : Int32)), .ref a0]))) rfl ?_
        obtain ⟨I119_8, hxI119_8, h⟩ := Option.bind_eq_some_iff.mp h
        refine gg_pI aMi211 rfl rfl rfl rfl (by decide) (pI_of (sh11_z ha0) hxI119_8) ?_
        refine go_ops aMi211 1 _ (f1 := (84, ([(0, .ref a0), (1, .int i1)], []))) rfl ?_
        exact ih a0 ha0 i1 I119_8 _ h
def f211_b66 (kad : Nat → Nat) (N : Nat) (Z : AZ) : Nat → Nat → Int32 → Int32 → AI → Option (Int32 × AI)
  | 0, _, _, _, _ => none
  | F + 1, a0, i1, i2, I =>
    if (5 : Int32) ≤ i2 then
      f211_b84 kad N Z N a0 i1 I
    else
      (ixA 5 i2).bind fun j77_2 =>
      (wI I (a0 + 5) j77_2 (Int32.ofInt (-1))).bind fun I77_1 =>
      f211_b66 kad N Z F a0 i1 (i2 + (1 : Int32)) I77_1
set_option maxRecDepth 20000 in
theorem Tf211_b66 {kad : Nat → Nat} {N : Nat} {Z : AZ} {d : Nat} {t : Option Nat × (Nat × Nat)} (hd : 4 ≤ d) : ∀ (F : Nat) (a0 : Nat) (ha0 : sh11 kad Z a0) (i1 : Int32) (i2 : Int32) (I : AI) (r : Int32 × AI), f211_b66 kad N Z F a0 i1 i2 I = some r → aGo kad d 211 (66, ([(0, .ref a0), (1, .int i1), (2, .int i2)], [])) (aMem Z I, t) (qI Z t r) := by
  intro F
  induction F with
  | zero => intro a0 ha0 i1 i2 I r h; cases h
  | succ F ih =>
    intro a0 ha0 i1 i2 I r h
    unfold f211_b66 at h
    refine go_ops aMi211 2 _ (f1 := (68, ([(0, .ref a0), (1, .int i1), (2, .int i2)], [.int (5 : Int32), .int i2]))) rfl ?_
    refine gg_br (b := decide ((5 : Int32) ≤ i2)) (tg := 84) (off := 16) aMi211 rfl rfl rfl rfl (fun hb => ?_) (fun hb => ?_)
    · rw [if_pos (of_decide_eq_true hb)] at h
      refine go_le (lv1 := [(0, .ref a0), (1, .int i1)]) (aLe_of (show (List.map (fun q => q.1) ([(0, .ref a0), (1, .int i1)] : ALv)).Nodup from (by show ([0, 1] : List Nat).Nodup; decide)) (aSubL_cons rfl (aSubL_cons rfl aSubL_nil))) ?_
      exact Tf211_b84 hd N a0 ha0 i1 I _ h
    · rw [if_neg (of_decide_eq_false hb)] at h
      refine go_ops aMi211 1 _ (f1 := (72, ([(0, .ref a0), (1, .int i1), (2, .int i2)], [.ref a0]))) rfl ?_
      refine gg_gR (b := (a0 + 5)) aMi211 rfl rfl rfl (gR_of (sh11_z ha0) (sh11_r6 ha0)) ?_
      refine go_ops aMi211 2 _ (f1 := (77, ([(0, .ref a0), (1, .int i1), (2, .int i2)], [.int (Int32.ofInt (-1)), .int i2, .ref (a0 + 5)]))) rfl ?_
      obtain ⟨j77_2, hxj77_2, h⟩ := Option.bind_eq_some_iff.mp h
      obtain ⟨I77_1, hxI77_1, h⟩ := Option.bind_eq_some_iff.mp h
      refine gg_sI (Or.inl ⟨rfl, rfl⟩) aMi211 rfl (sI_of (sh11_a6 ha0) hxj77_2 hxI77_1) ?_
      refine go_ops aMi211 2 _ (f1 := (66, ([(2, .int (i2 + (1 : Int32))), (0, .ref a0), (1, .int i1)], []))) rfl ?_
      refine go_le (lv1 := [(0, .ref a0), (1, .int i1), (2, .int (i2 + (1 : Int32)))]) (aLe_of (show (List.map (fun q => q.1) ([(0, .ref a0), (1, .int i1), (2, .int (i2 + (1 : Int32)))] : ALv)).Nodup from (by show ([0, 1, 2] : List Nat).Nodup; decide)) (aSubL_cons rfl (aSubL_cons rfl (aSubL_cons rfl aSubL_nil)))) ?_
      exact ih a0 ha0 i1 (i2 + (1 : Int32)) I77_1 _ h
def f211 (kad : Nat → Nat) (N : Nat) (Z : AZ) (a0 : Nat) (i1 : Int32) (I : AI) : Option (Int32 × AI) :=
  (ixA 2 (0 : Int32)).bind fun j8_1 =>
  (wI I a0 18 ((8 : Int32) + (I (a0 + 4) j8_1))).bind fun I10_2 =>
  (ixA 2 (0 : Int32)).bind fun j19_4 =>
  (wI I10_2 (a0 + 4) j19_4 (0 : Int32)).bind fun I19_3 =>
  (ixA 2 (1 : Int32)).bind fun j26_6 =>
  (wI I19_3 (a0 + 4) j26_6 (0 : Int32)).bind fun I26_5 =>
  (wI I26_5 a0 15 (0 : Int32)).bind fun I29_7 =>
  (wI I29_7 a0 16 (0 : Int32)).bind fun I34_8 =>
  (wI I34_8 a0 17 (0 : Int32)).bind fun I39_9 =>
  (wI I39_9 a0 14 (0 : Int32)).bind fun I44_10 =>
  (ixA 6 (0 : Int32)).bind fun j53_12 =>
  (wI I44_10 (a0 + 7) j53_12 (0 : Int32)).bind fun I53_11 =>
  (ixA 6 (0 : Int32)).bind fun j63_14 =>
  (wI I53_11 (a0 + 8) j63_14 (I53_11 a0 1)).bind fun I63_13 =>
  f211_b66 kad N Z N a0 i1 (0 : Int32) I63_13
set_option maxRecDepth 20000 in
theorem Tf211 {kad : Nat → Nat} {N : Nat} {Z : AZ} {d : Nat} {t : Option Nat × (Nat × Nat)} (hd : 4 ≤ d) : ∀ (a0 : Nat) (ha0 : sh11 kad Z a0) (i1 : Int32) (I : AI) (r : Int32 × AI), f211 kad N Z a0 i1 I = some r → aGo kad d 211 (0, ([(0, .ref a0), (1, .int i1)], [])) (aMem Z I, t) (qI Z t r) := by
  intro a0 ha0 i1 I r h
  unfold f211 at h
  refine go_ops aMi211 3 _ (f1 := (4, ([(0, .ref a0), (1, .int i1)], [.ref a0, .int (8 : Int32), .ref a0]))) rfl ?_
  refine gg_gR (b := (a0 + 4)) aMi211 rfl rfl rfl (gR_of (sh11_z ha0) (sh11_r5 ha0)) ?_
  refine go_ops aMi211 1 _ (f1 := (8, ([(0, .ref a0), (1, .int i1)], [.int (0 : Int32), .ref (a0 + 4), .int (8 : Int32), .ref a0]))) rfl ?_
  obtain ⟨j8_1, hxj8_1, h⟩ := Option.bind_eq_some_iff.mp h
  refine gg_lI (Or.inl ⟨rfl, rfl⟩) aMi211 rfl (lI_of (sh11_a5 ha0) hxj8_1) ?_
  refine go_ops aMi211 1 _ (f1 := (10, ([(0, .ref a0), (1, .int i1)], [.int ((8 : Int32) + (I (a0 + 4) j8_1)), .ref a0]))) rfl ?_
  obtain ⟨I10_2, hxI10_2, h⟩ := Option.bind_eq_some_iff.mp h
  refine gg_pI aMi211 rfl rfl rfl rfl (by decide) (pI_of (sh11_z ha0) hxI10_2) ?_
  refine go_ops aMi211 1 _ (f1 := (14, ([(0, .ref a0), (1, .int i1)], [.ref a0]))) rfl ?_
  refine gg_gR (b := (a0 + 4)) aMi211 rfl rfl rfl (gR_of (sh11_z ha0) (sh11_r5 ha0)) ?_
  refine go_ops aMi211 2 _ (f1 := (19, ([(0, .ref a0), (1, .int i1)], [.int (0 : Int32), .int (0 : Int32), .ref (a0 + 4)]))) rfl ?_
  obtain ⟨j19_4, hxj19_4, h⟩ := Option.bind_eq_some_iff.mp h
  obtain ⟨I19_3, hxI19_3, h⟩ := Option.bind_eq_some_iff.mp h
  refine gg_sI (Or.inl ⟨rfl, rfl⟩) aMi211 rfl (sI_of (sh11_a5 ha0) hxj19_4 hxI19_3) ?_
  refine go_ops aMi211 1 _ (f1 := (21, ([(0, .ref a0), (1, .int i1)], [.ref a0]))) rfl ?_
  refine gg_gR (b := (a0 + 4)) aMi211 rfl rfl rfl (gR_of (sh11_z ha0) (sh11_r5 ha0)) ?_
  refine go_ops aMi211 2 _ (f1 := (26, ([(0, .ref a0), (1, .int i1)], [.int (0 : Int32), .int (1 : Int32), .ref (a0 + 4)]))) rfl ?_
  obtain ⟨j26_6, hxj26_6, h⟩ := Option.bind_eq_some_iff.mp h
  obtain ⟨I26_5, hxI26_5, h⟩ := Option.bind_eq_some_iff.mp h
  refine gg_sI (Or.inl ⟨rfl, rfl⟩) aMi211 rfl (sI_of (sh11_a5 ha0) hxj26_6 hxI26_5) ?_
  refine go_ops aMi211 2 _ (f1 := (29, ([(0, .ref a0), (1, .int i1)], [.int (0 : Int32), .ref a0]))) rfl ?_
  obtain ⟨I29_7, hxI29_7, h⟩ := Option.bind_eq_some_iff.mp h
  refine gg_pI aMi211 rfl rfl rfl rfl (by decide) (pI_of (sh11_z ha0) hxI29_7) ?_
  refine go_ops aMi211 2 _ (f1 := (34, ([(0, .ref a0), (1, .int i1)], [.int (0 : Int32), .ref a0]))) rfl ?_
  obtain ⟨I34_8, hxI34_8, h⟩ := Option.bind_eq_some_iff.mp h
  refine gg_pI aMi211 rfl rfl rfl rfl (by decide) (pI_of (sh11_z ha0) hxI34_8) ?_
  refine go_ops aMi211 2 _ (f1 := (39, ([(0, .ref a0), (1, .int i1)], [.int (0 : Int32), .ref a0]))) rfl ?_
  obtain ⟨I39_9, hxI39_9, h⟩ := Option.bind_eq_some_iff.mp h
  refine gg_pI aMi211 rfl rfl rfl rfl (by decide) (pI_of (sh11_z ha0) hxI39_9) ?_
  refine go_ops aMi211 2 _ (f1 := (44, ([(0, .ref a0), (1, .int i1)], [.int (0 : Int32), .ref a0]))) rfl ?_
  obtain ⟨I44_10, hxI44_10, h⟩ := Option.bind_eq_some_iff.mp h
  refine gg_pI aMi211 rfl rfl rfl rfl (by decide) (pI_of (sh11_z ha0) hxI44_10) ?_
  refine go_ops aMi211 1 _ (f1 := (48, ([(0, .ref a0), (1, .int i1)], [.ref a0]))) rfl ?_
  refine gg_gR (b := (a0 + 7)) aMi211 rfl rfl rfl (gR_of (sh11_z ha0) (sh11_r8 ha0)) ?_
  refine go_ops aMi211 2 _ (f1 := (53, ([(0, .ref a0), (1, .int i1)], [.int (0 : Int32), .int (0 : Int32), .ref (a0 + 7)]))) rfl ?_
  obtain ⟨j53_12, hxj53_12, h⟩ := Option.bind_eq_some_iff.mp h
  obtain ⟨I53_11, hxI53_11, h⟩ := Option.bind_eq_some_iff.mp h
  refine gg_sI (Or.inl ⟨rfl, rfl⟩) aMi211 rfl (sI_of (sh11_a8 ha0) hxj53_12 hxI53_11) ?_
  refine go_ops aMi211 1 _ (f1 := (55, ([(0, .ref a0), (1, .int i1)], [.ref a0]))) rfl ?_
  refine gg_gR (b := (a0 + 8)) aMi211 rfl rfl rfl (gR_of (sh11_z ha0) (sh11_r9 ha0)) ?_
  refine go_ops aMi211 2 _ (f1 := (60, ([(0, .ref a0), (1, .int i1)], [.ref a0, .int (0 : Int32), .ref (a0 + 8)]))) rfl ?_
  refine gg_gI aMi211 rfl rfl rfl (gI_of (sh11_z ha0)) ?_
  obtain ⟨j63_14, hxj63_14, h⟩ := Option.bind_eq_some_iff.mp h
  obtain ⟨I63_13, hxI63_13, h⟩ := Option.bind_eq_some_iff.mp h
  refine gg_sI (Or.inl ⟨rfl, rfl⟩) aMi211 rfl (sI_of (sh11_a9 ha0) hxj63_14 hxI63_13) ?_
  refine go_ops aMi211 2 _ (f1 := (66, ([(2, .int (0 : Int32)), (0, .ref a0), (1, .int i1)], []))) rfl ?_
  refine go_le (lv1 := [(0, .ref a0), (1, .int i1), (2, .int (0 : Int32))]) (aLe_of (show (List.map (fun q => q.1) ([(0, .ref a0), (1, .int i1), (2, .int (0 : Int32))] : ALv)).Nodup from (by show ([0, 1, 2] : List Nat).Nodup; decide)) (aSubL_cons rfl (aSubL_cons rfl (aSubL_cons rfl aSubL_nil)))) ?_
  exact Tf211_b66 hd N a0 ha0 i1 (0 : Int32) I63_13 _ h
-- KernelGymModel.errorOfSource ()I
def f212_b63 (kad : Nat → Nat) (N : Nat) (Z : AZ) (a0 : Nat) (s0 : Int32) (I : AI) : Option (Int32 × AI) :=
  some (s0, I)
set_option maxRecDepth 20000 in
theorem Tf212_b63 {kad : Nat → Nat} {N : Nat} {Z : AZ} {d : Nat} {t : Option Nat × (Nat × Nat)} (hd : 5 ≤ d) : ∀ (a0 : Nat) (ha0 : sh11 kad Z a0) (s0 : Int32) (I : AI) (r : Int32 × AI), f212_b63 kad N Z a0 s0 I = some r → aGo kad d 212 (63, ([], [.int s0])) (aMem Z I, t) (qI Z t r) := by
  intro a0 ha0 s0 I r h
  unfold f212_b63 at h
  cases h
  exact go_ret aMi212 rfl aRetI ⟨rfl, rfl⟩
def f212_b24 (kad : Nat → Nat) (N : Nat) (Z : AZ) : Nat → Nat → Int32 → AI → Option (Int32 × AI)
  | 0, _, _, _ => none
  | F + 1, a0, i1, I =>
    if (256 : Int32) ≤ i1 then
      (f211 kad N Z a0 (0 : Int32) I).bind fun r46_1 =>
      if ¬ r46_1.1 = 0 then
        f212_b63 kad N Z a0 r46_1.1 r46_1.2
      else
        (f211 kad N Z a0 (1 : Int32) r46_1.2).bind fun r56_2 =>
        f212_b63 kad N Z a0 r56_2.1 r56_2.2
    else
      (ixA 256 i1).bind fun j37_4 =>
      (wI I (a0 + 13) j37_4 (0 : Int32)).bind fun I37_3 =>
      f212_b24 kad N Z F a0 (i1 + (1 : Int32)) I37_3
set_option maxRecDepth 20000 in
theorem Tf212_b24 {kad : Nat → Nat} {N : Nat} {Z : AZ} {d : Nat} {t : Option Nat × (Nat × Nat)} (hd : 5 ≤ d) : ∀ (F : Nat) (a0 : Nat) (ha0 : sh11 kad Z a0) (i1 : Int32) (I : AI) (r : Int32 × AI), f212_b24 kad N Z F a0 i1 I = some r → aGo kad d 212 (24, ([(0, .ref a0), (1, .int i1)], [])) (aMem Z I, t) (qI Z t r) := by
  intro F
  induction F with
  | zero => intro a0 ha0 i1 I r h; cases h
  | succ F ih =>
    intro a0 ha0 i1 I r h
    unfold f212_b24 at h
    refine go_ops aMi212 2 _ (f1 := (28, ([(0, .ref a0), (1, .int i1)], [.int (256 : Int32), .int i1]))) rfl ?_
    refine gg_br (b := decide ((256 : Int32) ≤ i1)) (tg := 44) (off := 16) aMi212 rfl rfl rfl rfl (fun hb => ?_) (fun hb => ?_)
    · rw [if_pos (of_decide_eq_true hb)] at h
      refine go_ops aMi212 2 _ (f1 := (46, ([(0, .ref a0), (1, .int i1)], [.int (0 : Int32), .ref a0]))) rfl ?_
      obtain ⟨r46_1, hxr46_1, h⟩ := Option.bind_eq_some_iff.mp h
      refine gg_cv (as := [.int (0 : Int32)]) (r := []) aMi212 rfl rfl rfl aMi211 (Nat.le_of_ble_eq_true rfl) rfl (Nat.le_of_ble_eq_true rfl) (Nat.le_of_ble_eq_true rfl) (by omega) (isK_of (sh11_z ha0)) (Tf211 (by omega) a0 ha0 (0 : Int32) I _ hxr46_1) ?_
      show aGo kad d 212 (49, ([(0, .ref a0), (1, .int i1)], [.int r46_1.1])) (aMem Z r46_1.2, t) _
      refine go_ops aMi212 2 _ (f1 := (51, ([(1, .int r46_1.1), (0, .ref a0)], [.int r46_1.1]))) rfl ?_
      refine gg_br (b := decide (¬ r46_1.1 = 0)) (tg := 62) (off := 11) aMi212 rfl rfl rfl rfl (fun hb => ?_) (fun hb => ?_)
      · rw [if_pos (of_decide_eq_true hb)] at h
        refine go_ops aMi212 1 _ (f1 := (63, ([(1, .int r46_1.1), (0, .ref a0)], [.int r46_1.1]))) rfl ?_
        refine go_le (lv1 := []) (aLe_of (show (List.map (fun q => q.1) ([] : ALv)).Nodup from (by show ([] : List Nat).Nodup; decide)) aSubL_nil) ?_
        exact Tf212_b63 hd a0 ha0 r46_1.1 r46_1.2 _ h
      · rw [if_neg (of_decide_eq_false hb)] at h
        refine go_ops aMi212 2 _ (f1 := (56, ([(1, .int r46_1.1), (0, .ref a0)], [.int (1 : Int32), .ref a0]))) rfl ?_
        obtain ⟨r56_2, hxr56_2, h⟩ := Option.bind_eq_some_iff.mp h
        refine gg_cv (as := [.int (1 : Int32)]) (r := []) aMi212 rfl rfl rfl aMi211 (Nat.le_of_ble_eq_true rfl) rfl (Nat.le_of_ble_eq_true rfl) (Nat.le_of_ble_eq_true rfl) (by omega) (isK_of (sh11_z ha0)) (Tf211 (by omega) a0 ha0 (1 : Int32) r46_1.2 _ hxr56_2) ?_
        show aGo kad d 212 (59, ([(1, .int r46_1.1), (0, .ref a0)], [.int r56_2.1])) (aMem Z r56_2.2, t) _
        refine go_ops aMi212 1 _ (f1 := (63, ([(1, .int r46_1.1), (0, .ref a0)], [.int r56_2.1]))) rfl ?_
        refine go_le (lv1 := []) (aLe_of (show (List.map (fun q => q.1) ([] : ALv)).Nodup from (by show ([] : List Nat).Nodup; decide)) aSubL_nil) ?_
        exact Tf212_b63 hd a0 ha0 r56_2.1 r56_2.2 _ h
    · rw [if_neg (of_decide_eq_false hb)] at h
      refine go_ops aMi212 1 _ (f1 := (32, ([(0, .ref a0), (1, .int i1)], [.ref a0]))) rfl ?_
      refine gg_gR (b := (a0 + 13)) aMi212 rfl rfl rfl (gR_of (sh11_z ha0) (sh11_r20 ha0)) ?_
      refine go_ops aMi212 2 _ (f1 := (37, ([(0, .ref a0), (1, .int i1)], [.int (0 : Int32), .int i1, .ref (a0 + 13)]))) rfl ?_
      obtain ⟨j37_4, hxj37_4, h⟩ := Option.bind_eq_some_iff.mp h
      obtain ⟨I37_3, hxI37_3, h⟩ := Option.bind_eq_some_iff.mp h
      refine gg_sI (Or.inl ⟨rfl, rfl⟩) aMi212 rfl (sI_of (sh11_a20 ha0) hxj37_4 hxI37_3) ?_
      refine go_ops aMi212 2 _ (f1 := (24, ([(1, .int (i1 + (1 : Int32))), (0, .ref a0)], []))) rfl ?_
      refine go_le (lv1 := [(0, .ref a0), (1, .int (i1 + (1 : Int32)))]) (aLe_of (show (List.map (fun q => q.1) ([(0, .ref a0), (1, .int (i1 + (1 : Int32)))] : ALv)).Nodup from (by show ([0, 1] : List Nat).Nodup; decide)) (aSubL_cons rfl (aSubL_cons rfl aSubL_nil))) ?_
      exact ih a0 ha0 (i1 + (1 : Int32)) I37_3 _ h
def f212_b2 (kad : Nat → Nat) (N : Nat) (Z : AZ) : Nat → Nat → Int32 → AI → Option (Int32 × AI)
  | 0, _, _, _ => none
  | F + 1, a0, i1, I =>
    if (1220 : Int32) ≤ i1 then
      f212_b24 kad N Z N a0 (0 : Int32) I
    else
      (ixA 1220 i1).bind fun j15_2 =>
      (wI I (a0 + 3) j15_2 (Int32.ofInt (-1))).bind fun I15_1 =>
      f212_b2 kad N Z F a0 (i1 + (1 : Int32)) I15_1
set_option maxRecDepth 20000 in
theorem Tf212_b2 {kad : Nat → Nat} {N : Nat} {Z : AZ} {d : Nat} {t : Option Nat × (Nat × Nat)} (hd : 5 ≤ d) : ∀ (F : Nat) (a0 : Nat) (ha0 : sh11 kad Z a0) (i1 : Int32) (I : AI) (r : Int32 × AI), f212_b2 kad N Z F a0 i1 I = some r → aGo kad d 212 (2, ([(0, .ref a0), (1, .int i1)], [])) (aMem Z I, t) (qI Z t r) := by
  intro F
  induction F with
  | zero => intro a0 ha0 i1 I r h; cases h
  | succ F ih =>
    intro a0 ha0 i1 I r h
    unfold f212_b2 at h
    refine go_ops aMi212 2 _ (f1 := (6, ([(0, .ref a0), (1, .int i1)], [.int (1220 : Int32), .int i1]))) rfl ?_
    refine gg_br (b := decide ((1220 : Int32) ≤ i1)) (tg := 22) (off := 16) aMi212 rfl rfl rfl rfl (fun hb => ?_) (fun hb => ?_)
    · rw [if_pos (of_decide_eq_true hb)] at h
      refine go_ops aMi212 2 _ (f1 := (24, ([(1, .int (0 : Int32)), (0, .ref a0)], []))) rfl ?_
      refine go_le (lv1 := [(0, .ref a0), (1, .int (0 : Int32))]) (aLe_of (show (List.map (fun q => q.1) ([(0, .ref a0), (1, .int (0 : Int32))] : ALv)).Nodup from (by show ([0, 1] : List Nat).Nodup; decide)) (aSubL_cons rfl (aSubL_cons rfl aSubL_nil))) ?_
      exact Tf212_b24 hd N a0 ha0 (0 : Int32) I _ h
    · rw [if_neg (of_decide_eq_false hb)] at h
      refine go_ops aMi212 1 _ (f1 := (10, ([(0, .ref a0), (1, .int i1)], [.ref a0]))) rfl ?_
      refine gg_gR (b := (a0 + 3)) aMi212 rfl rfl rfl (gR_of (sh11_z ha0) (sh11_r4 ha0)) ?_
      refine go_ops aMi212 2 _ (f1 := (15, ([(0, .ref a0), (1, .int i1)], [.int (Int32.ofInt (-1)), .int i1, .ref (a0 + 3)]))) rfl ?_
      obtain ⟨j15_2, hxj15_2, h⟩ := Option.bind_eq_some_iff.mp h
      obtain ⟨I15_1, hxI15_1, h⟩ := Option.bind_eq_some_iff.mp h
      refine gg_sI (Or.inl ⟨rfl, rfl⟩) aMi212 rfl (sI_of (sh11_a4 ha0) hxj15_2 hxI15_1) ?_
      refine go_ops aMi212 2 _ (f1 := (2, ([(1, .int (i1 + (1 : Int32))), (0, .ref a0)], []))) rfl ?_
      refine go_le (lv1 := [(0, .ref a0), (1, .int (i1 + (1 : Int32)))]) (aLe_of (show (List.map (fun q => q.1) ([(0, .ref a0), (1, .int (i1 + (1 : Int32)))] : ALv)).Nodup from (by show ([0, 1] : List Nat).Nodup; decide)) (aSubL_cons rfl (aSubL_cons rfl aSubL_nil))) ?_
      exact ih a0 ha0 (i1 + (1 : Int32)) I15_1 _ h
def f212 (kad : Nat → Nat) (N : Nat) (Z : AZ) (a0 : Nat) (I : AI) : Option (Int32 × AI) :=
  f212_b2 kad N Z N a0 (0 : Int32) I
set_option maxRecDepth 20000 in
theorem Tf212 {kad : Nat → Nat} {N : Nat} {Z : AZ} {d : Nat} {t : Option Nat × (Nat × Nat)} (hd : 5 ≤ d) : ∀ (a0 : Nat) (ha0 : sh11 kad Z a0) (I : AI) (r : Int32 × AI), f212 kad N Z a0 I = some r → aGo kad d 212 (0, ([(0, .ref a0)], [])) (aMem Z I, t) (qI Z t r) := by
  intro a0 ha0 I r h
  unfold f212 at h
  refine go_ops aMi212 2 _ (f1 := (2, ([(1, .int (0 : Int32)), (0, .ref a0)], []))) rfl ?_
  refine go_le (lv1 := [(0, .ref a0), (1, .int (0 : Int32))]) (aLe_of (show (List.map (fun q => q.1) ([(0, .ref a0), (1, .int (0 : Int32))] : ALv)).Nodup from (by show ([0, 1] : List Nat).Nodup; decide)) (aSubL_cons rfl (aSubL_cons rfl aSubL_nil))) ?_
  exact Tf212_b2 hd N a0 ha0 (0 : Int32) I _ h
-- KernelGymModel.error ()I
def f213 (kad : Nat → Nat) (N : Nat) (Z : AZ) (a0 : Nat) (I : AI) : Option (Int32 × AI) :=
  (wI I a0 0 (0 : Int32)).bind fun I2_1 =>
  (f212 kad N Z a0 I2_1).bind fun r6_2 =>
  some (r6_2.1, r6_2.2)
set_option maxRecDepth 20000 in
theorem Tf213 {kad : Nat → Nat} {N : Nat} {Z : AZ} {d : Nat} {t : Option Nat × (Nat × Nat)} (hd : 6 ≤ d) : ∀ (a0 : Nat) (ha0 : sh11 kad Z a0) (I : AI) (r : Int32 × AI), f213 kad N Z a0 I = some r → aGo kad d 213 (0, ([(0, .ref a0)], [])) (aMem Z I, t) (qI Z t r) := by
  intro a0 ha0 I r h
  unfold f213 at h
  refine go_ops aMi213 2 _ (f1 := (2, ([(0, .ref a0)], [.int (0 : Int32), .ref a0]))) rfl ?_
  obtain ⟨I2_1, hxI2_1, h⟩ := Option.bind_eq_some_iff.mp h
  refine gg_pI aMi213 rfl rfl rfl rfl (by decide) (pI_of (sh11_z ha0) hxI2_1) ?_
  refine go_ops aMi213 1 _ (f1 := (6, ([(0, .ref a0)], [.ref a0]))) rfl ?_
  obtain ⟨r6_2, hxr6_2, h⟩ := Option.bind_eq_some_iff.mp h
  refine gg_cv (as := []) (r := []) aMi213 rfl rfl rfl aMi212 (Nat.le_of_ble_eq_true rfl) rfl (Nat.le_of_ble_eq_true rfl) (Nat.le_of_ble_eq_true rfl) (by omega) (isK_of (sh11_z ha0)) (Tf212 (by omega) a0 ha0 I2_1 _ hxr6_2) ?_
  show aGo kad d 213 (9, ([(0, .ref a0)], [.int r6_2.1])) (aMem Z r6_2.2, t) _
  cases h
  exact go_ret aMi213 rfl aRetI ⟨rfl, rfl⟩
-- KernelGymModel.assemble ()I
def f214_b23 (kad : Nat → Nat) (N : Nat) (Z : AZ) : Nat → Nat → Int32 → AI → Option (Int32 × AI)
  | 0, _, _, _ => none
  | F + 1, a0, i1, I =>
    if (256 : Int32) ≤ i1 then
      (wI I a0 22 (1 : Int32)).bind fun I50_1 =>
      (ixA 2 (0 : Int32)).bind fun j58_2 =>
      (ixA 2 (1 : Int32)).bind fun j64_3 =>
      some (((I50_1 (a0 + 4) j58_2) + (I50_1 (a0 + 4) j64_3)), I50_1)
    else
      (ixA 256 i1).bind fun j40_4 =>
      (ixA 256 i1).bind fun j41_6 =>
      (wI I (a0 + 14) j41_6 (I (a0 + 13) j40_4)).bind fun I41_5 =>
      f214_b23 kad N Z F a0 (i1 + (1 : Int32)) I41_5
set_option maxRecDepth 20000 in
theorem Tf214_b23 {kad : Nat → Nat} {N : Nat} {Z : AZ} {d : Nat} {t : Option Nat × (Nat × Nat)} (hd : 6 ≤ d) : ∀ (F : Nat) (a0 : Nat) (ha0 : sh11 kad Z a0) (i1 : Int32) (I : AI) (r : Int32 × AI), f214_b23 kad N Z F a0 i1 I = some r → aGo kad d 214 (23, ([(0, .ref a0), (1, .int i1)], [])) (aMem Z I, t) (qI Z t r) := by
  intro F
  induction F with
  | zero => intro a0 ha0 i1 I r h; cases h
  | succ F ih =>
    intro a0 ha0 i1 I r h
    unfold f214_b23 at h
    refine go_ops aMi214 2 _ (f1 := (27, ([(0, .ref a0), (1, .int i1)], [.int (256 : Int32), .int i1]))) rfl ?_
    refine gg_br (b := decide ((256 : Int32) ≤ i1)) (tg := 48) (off := 21) aMi214 rfl rfl rfl rfl (fun hb => ?_) (fun hb => ?_)
    · rw [if_pos (of_decide_eq_true hb)] at h
      refine go_ops aMi214 2 _ (f1 := (50, ([(0, .ref a0), (1, .int i1)], [.int (1 : Int32), .ref a0]))) rfl ?_
      obtain ⟨I50_1, hxI50_1, h⟩ := Option.bind_eq_some_iff.mp h
      refine gg_pB aMi214 rfl rfl rfl rfl (by decide) (pB_lit (sh11_z ha0) (Or.inr rfl) hxI50_1) ?_
      refine go_ops aMi214 1 _ (f1 := (54, ([(0, .ref a0), (1, .int i1)], [.ref a0]))) rfl ?_
      refine gg_gR (b := (a0 + 4)) aMi214 rfl rfl rfl (gR_of (sh11_z ha0) (sh11_r5 ha0)) ?_
      refine go_ops aMi214 1 _ (f1 := (58, ([(0, .ref a0), (1, .int i1)], [.int (0 : Int32), .ref (a0 + 4)]))) rfl ?_
      obtain ⟨j58_2, hxj58_2, h⟩ := Option.bind_eq_some_iff.mp h
      refine gg_lI (Or.inl ⟨rfl, rfl⟩) aMi214 rfl (lI_of (sh11_a5 ha0) hxj58_2) ?_
      refine go_ops aMi214 1 _ (f1 := (60, ([(0, .ref a0), (1, .int i1)], [.ref a0, .int (I50_1 (a0 + 4) j58_2)]))) rfl ?_
      refine gg_gR (b := (a0 + 4)) aMi214 rfl rfl rfl (gR_of (sh11_z ha0) (sh11_r5 ha0)) ?_
      refine go_ops aMi214 1 _ (f1 := (64, ([(0, .ref a0), (1, .int i1)], [.int (1 : Int32), .ref (a0 + 4), .int (I50_1 (a0 + 4) j58_2)]))) rfl ?_
      obtain ⟨j64_3, hxj64_3, h⟩ := Option.bind_eq_some_iff.mp h
      refine gg_lI (Or.inl ⟨rfl, rfl⟩) aMi214 rfl (lI_of (sh11_a5 ha0) hxj64_3) ?_
      refine go_ops aMi214 1 _ (f1 := (66, ([(0, .ref a0), (1, .int i1)], [.int ((I50_1 (a0 + 4) j58_2) + (I50_1 (a0 + 4) j64_3))]))) rfl ?_
      cases h
      exact go_ret aMi214 rfl aRetI ⟨rfl, rfl⟩
    · rw [if_neg (of_decide_eq_false hb)] at h
      refine go_ops aMi214 1 _ (f1 := (31, ([(0, .ref a0), (1, .int i1)], [.ref a0]))) rfl ?_
      refine gg_gR (b := (a0 + 14)) aMi214 rfl rfl rfl (gR_of (sh11_z ha0) (sh11_r21 ha0)) ?_
      refine go_ops aMi214 2 _ (f1 := (36, ([(0, .ref a0), (1, .int i1)], [.ref a0, .int i1, .ref (a0 + 14)]))) rfl ?_
      refine gg_gR (b := (a0 + 13)) aMi214 rfl rfl rfl (gR_of (sh11_z ha0) (sh11_r20 ha0)) ?_
      refine go_ops aMi214 1 _ (f1 := (40, ([(0, .ref a0), (1, .int i1)], [.int i1, .ref (a0 + 13), .int i1, .ref (a0 + 14)]))) rfl ?_
      obtain ⟨j40_4, hxj40_4, h⟩ := Option.bind_eq_some_iff.mp h
      refine gg_lI (Or.inl ⟨rfl, rfl⟩) aMi214 rfl (lI_of (sh11_a20 ha0) hxj40_4) ?_
      obtain ⟨j41_6, hxj41_6, h⟩ := Option.bind_eq_some_iff.mp h
      obtain ⟨I41_5, hxI41_5, h⟩ := Option.bind_eq_some_iff.mp h
      refine gg_sI (Or.inl ⟨rfl, rfl⟩) aMi214 rfl (sI_of (sh11_a21 ha0) hxj41_6 hxI41_5) ?_
      refine go_ops aMi214 2 _ (f1 := (23, ([(1, .int (i1 + (1 : Int32))), (0, .ref a0)], []))) rfl ?_
      refine go_le (lv1 := [(0, .ref a0), (1, .int (i1 + (1 : Int32)))]) (aLe_of (show (List.map (fun q => q.1) ([(0, .ref a0), (1, .int (i1 + (1 : Int32)))] : ALv)).Nodup from (by show ([0, 1] : List Nat).Nodup; decide)) (aSubL_cons rfl (aSubL_cons rfl aSubL_nil))) ?_
      exact ih a0 ha0 (i1 + (1 : Int32)) I41_5 _ h
def f214_b13 (kad : Nat → Nat) (N : Nat) (Z : AZ) (a0 : Nat) (s0 : Int32) (I : AI) : Option (Int32 × AI) :=
  (f185 kad N Z a0 s0 I).bind fun r13_1 =>
  if ¬ r13_1.1 = 0 then
    f214_b23 kad N Z N a0 (0 : Int32) r13_1.2
  else
    some ((0 : Int32), r13_1.2)
set_option maxRecDepth 20000 in
theorem Tf214_b13 {kad : Nat → Nat} {N : Nat} {Z : AZ} {d : Nat} {t : Option Nat × (Nat × Nat)} (hd : 6 ≤ d) : ∀ (a0 : Nat) (ha0 : sh11 kad Z a0) (s0 : Int32) (I : AI) (r : Int32 × AI), f214_b13 kad N Z a0 s0 I = some r → aGo kad d 214 (13, ([(0, .ref a0)], [.int s0, .ref a0])) (aMem Z I, t) (qI Z t r) := by
  intro a0 ha0 s0 I r h
  unfold f214_b13 at h
  obtain ⟨r13_1, hxr13_1, h⟩ := Option.bind_eq_some_iff.mp h
  refine gg_cv (as := [.int s0]) (r := []) aMi214 rfl rfl rfl aMi185 (Nat.le_of_ble_eq_true rfl) rfl (Nat.le_of_ble_eq_true rfl) (Nat.le_of_ble_eq_true rfl) (by omega) (isK_of (sh11_z ha0)) (Tf185 (by omega) a0 ha0 s0 I _ hxr13_1) ?_
  show aGo kad d 214 (16, ([(0, .ref a0)], [.int r13_1.1])) (aMem Z r13_1.2, t) _
  refine gg_br (b := decide (¬ r13_1.1 = 0)) (tg := 21) (off := 5) aMi214 rfl rfl rfl rfl (fun hb => ?_) (fun hb => ?_)
  · rw [if_pos (of_decide_eq_true hb)] at h
    refine go_ops aMi214 2 _ (f1 := (23, ([(1, .int (0 : Int32)), (0, .ref a0)], []))) rfl ?_
    refine go_le (lv1 := [(0, .ref a0), (1, .int (0 : Int32))]) (aLe_of (show (List.map (fun q => q.1) ([(0, .ref a0), (1, .int (0 : Int32))] : ALv)).Nodup from (by show ([0, 1] : List Nat).Nodup; decide)) (aSubL_cons rfl (aSubL_cons rfl aSubL_nil))) ?_
    exact Tf214_b23 hd N a0 ha0 (0 : Int32) r13_1.2 _ h
  · rw [if_neg (of_decide_eq_false hb)] at h
    refine go_ops aMi214 1 _ (f1 := (20, ([(0, .ref a0)], [.int (0 : Int32)]))) rfl ?_
    cases h
    exact go_ret aMi214 rfl aRetI ⟨rfl, rfl⟩
def f214 (kad : Nat → Nat) (N : Nat) (Z : AZ) (a0 : Nat) (I : AI) : Option (Int32 × AI) :=
  (f212 kad N Z a0 I).bind fun r2_1 =>
  if ¬ r2_1.1 = 0 then
    f214_b13 kad N Z a0 (1 : Int32) r2_1.2
  else
    f214_b13 kad N Z a0 (0 : Int32) r2_1.2
set_option maxRecDepth 20000 in
theorem Tf214 {kad : Nat → Nat} {N : Nat} {Z : AZ} {d : Nat} {t : Option Nat × (Nat × Nat)} (hd : 6 ≤ d) : ∀ (a0 : Nat) (ha0 : sh11 kad Z a0) (I : AI) (r : Int32 × AI), f214 kad N Z a0 I = some r → aGo kad d 214 (0, ([(0, .ref a0)], [])) (aMem Z I, t) (qI Z t r) := by
  intro a0 ha0 I r h
  unfold f214 at h
  refine go_ops aMi214 2 _ (f1 := (2, ([(0, .ref a0)], [.ref a0, .ref a0]))) rfl ?_
  obtain ⟨r2_1, hxr2_1, h⟩ := Option.bind_eq_some_iff.mp h
  refine gg_cv (as := []) (r := [.ref a0]) aMi214 rfl rfl rfl aMi212 (Nat.le_of_ble_eq_true rfl) rfl (Nat.le_of_ble_eq_true rfl) (Nat.le_of_ble_eq_true rfl) (by omega) (isK_of (sh11_z ha0)) (Tf212 (by omega) a0 ha0 I _ hxr2_1) ?_
  show aGo kad d 214 (5, ([(0, .ref a0)], [.int r2_1.1, .ref a0])) (aMem Z r2_1.2, t) _
  refine gg_br (b := decide (¬ r2_1.1 = 0)) (tg := 12) (off := 7) aMi214 rfl rfl rfl rfl (fun hb => ?_) (fun hb => ?_)
  · rw [if_pos (of_decide_eq_true hb)] at h
    refine go_ops aMi214 1 _ (f1 := (13, ([(0, .ref a0)], [.int (1 : Int32), .ref a0]))) rfl ?_
    exact Tf214_b13 hd a0 ha0 (1 : Int32) r2_1.2 _ h
  · rw [if_neg (of_decide_eq_false hb)] at h
    refine go_ops aMi214 2 _ (f1 := (13, ([(0, .ref a0)], [.int (0 : Int32), .ref a0]))) rfl ?_
    exact Tf214_b13 hd a0 ha0 (0 : Int32) r2_1.2 _ h
-- KernelGymModel.image (I)I
def f215_b44 (kad : Nat → Nat) (N : Nat) (Z : AZ) (a0 : Nat) (s0 : Int32) (I : AI) : Option (Int32 × AI) :=
  some (s0, I)
set_option maxRecDepth 20000 in
theorem Tf215_b44 {kad : Nat → Nat} {N : Nat} {Z : AZ} {d : Nat} {t : Option Nat × (Nat × Nat)} (hd : 1 ≤ d) : ∀ (a0 : Nat) (ha0 : sh11 kad Z a0) (s0 : Int32) (I : AI) (r : Int32 × AI), f215_b44 kad N Z a0 s0 I = some r → aGo kad d 215 (44, ([], [.int s0])) (aMem Z I, t) (qI Z t r) := by
  intro a0 ha0 s0 I r h
  unfold f215_b44 at h
  cases h
  exact go_ret aMi215 rfl aRetI ⟨rfl, rfl⟩
def f215_b28 (kad : Nat → Nat) (N : Nat) (Z : AZ) (a0 : Nat) (i1 : Int32) (s0 : Int32) (I : AI) : Option (Int32 × AI) :=
  (f185 kad N Z a0 s0 I).bind fun r28_1 =>
  if r28_1.1 = 0 then
    f215_b44 kad N Z a0 (0 : Int32) r28_1.2
  else
    (ixA 256 i1).bind fun j39_2 =>
    f215_b44 kad N Z a0 (r28_1.2 (a0 + 14) j39_2) r28_1.2
set_option maxRecDepth 20000 in
theorem Tf215_b28 {kad : Nat → Nat} {N : Nat} {Z : AZ} {d : Nat} {t : Option Nat × (Nat × Nat)} (hd : 1 ≤ d) : ∀ (a0 : Nat) (ha0 : sh11 kad Z a0) (i1 : Int32) (s0 : Int32) (I : AI) (r : Int32 × AI), f215_b28 kad N Z a0 i1 s0 I = some r → aGo kad d 215 (28, ([(0, .ref a0), (1, .int i1)], [.int s0, .ref a0])) (aMem Z I, t) (qI Z t r) := by
  intro a0 ha0 i1 s0 I r h
  unfold f215_b28 at h
  obtain ⟨r28_1, hxr28_1, h⟩ := Option.bind_eq_some_iff.mp h
  refine gg_cv (as := [.int s0]) (r := []) aMi215 rfl rfl rfl aMi185 (Nat.le_of_ble_eq_true rfl) rfl (Nat.le_of_ble_eq_true rfl) (Nat.le_of_ble_eq_true rfl) (by omega) (isK_of (sh11_z ha0)) (Tf185 (by omega) a0 ha0 s0 I _ hxr28_1) ?_
  show aGo kad d 215 (31, ([(0, .ref a0), (1, .int i1)], [.int r28_1.1])) (aMem Z r28_1.2, t) _
  refine gg_br (b := decide (r28_1.1 = 0)) (tg := 43) (off := 12) aMi215 rfl rfl rfl rfl (fun hb => ?_) (fun hb => ?_)
  · rw [if_pos (of_decide_eq_true hb)] at h
    refine go_ops aMi215 1 _ (f1 := (44, ([(0, .ref a0), (1, .int i1)], [.int (0 : Int32)]))) rfl ?_
    refine go_le (lv1 := []) (aLe_of (show (List.map (fun q => q.1) ([] : ALv)).Nodup from (by show ([] : List Nat).Nodup; decide)) aSubL_nil) ?_
    exact Tf215_b44 hd a0 ha0 (0 : Int32) r28_1.2 _ h
  · rw [if_neg (of_decide_eq_false hb)] at h
    refine go_ops aMi215 1 _ (f1 := (35, ([(0, .ref a0), (1, .int i1)], [.ref a0]))) rfl ?_
    refine gg_gR (b := (a0 + 14)) aMi215 rfl rfl rfl (gR_of (sh11_z ha0) (sh11_r21 ha0)) ?_
    refine go_ops aMi215 1 _ (f1 := (39, ([(0, .ref a0), (1, .int i1)], [.int i1, .ref (a0 + 14)]))) rfl ?_
    obtain ⟨j39_2, hxj39_2, h⟩ := Option.bind_eq_some_iff.mp h
    refine gg_lI (Or.inl ⟨rfl, rfl⟩) aMi215 rfl (lI_of (sh11_a21 ha0) hxj39_2) ?_
    refine go_ops aMi215 1 _ (f1 := (44, ([(0, .ref a0), (1, .int i1)], [.int (r28_1.2 (a0 + 14) j39_2)]))) rfl ?_
    refine go_le (lv1 := []) (aLe_of (show (List.map (fun q => q.1) ([] : ALv)).Nodup from (by show ([] : List Nat).Nodup; decide)) aSubL_nil) ?_
    exact Tf215_b44 hd a0 ha0 (r28_1.2 (a0 + 14) j39_2) r28_1.2 _ h
def f215 (kad : Nat → Nat) (N : Nat) (Z : AZ) (a0 : Nat) (i1 : Int32) (I : AI) : Option (Int32 × AI) :=
  (f186 kad N Z i1 (0 : Int32) (255 : Int32) I).bind fun r6_1 =>
  if ¬ r6_1.1 = 0 then
    if ((r6_1.2) a0 22) = 0 then
      f215_b28 kad N Z a0 i1 (2 : Int32) r6_1.2
    else
      f215_b28 kad N Z a0 i1 (0 : Int32) r6_1.2
  else
    f215_b28 kad N Z a0 i1 (1 : Int32) r6_1.2
set_option maxRecDepth 20000 in
theorem Tf215 {kad : Nat → Nat} {N : Nat} {Z : AZ} {d : Nat} {t : Option Nat × (Nat × Nat)} (hd : 1 ≤ d) : ∀ (a0 : Nat) (ha0 : sh11 kad Z a0) (i1 : Int32) (I : AI) (r : Int32 × AI), f215 kad N Z a0 i1 I = some r → aGo kad d 215 (0, ([(0, .ref a0), (1, .int i1)], [])) (aMem Z I, t) (qI Z t r) := by
  intro a0 ha0 i1 I r h
  unfold f215 at h
  refine go_ops aMi215 4 _ (f1 := (6, ([(0, .ref a0), (1, .int i1)], [.int (255 : Int32), .int (0 : Int32), .int i1, .ref a0]))) rfl ?_
  obtain ⟨r6_1, hxr6_1, h⟩ := Option.bind_eq_some_iff.mp h
  refine gg_cs (as := [.int i1, .int (0 : Int32), .int (255 : Int32)]) (r := [.ref a0]) aMi215 rfl rfl rfl aMi186 rfl (Nat.le_of_ble_eq_true rfl) (Nat.le_of_ble_eq_true rfl) (by omega) (Tf186 (by omega) i1 (0 : Int32) (255 : Int32) I _ hxr6_1) ?_
  show aGo kad d 215 (9, ([(0, .ref a0), (1, .int i1)], [.int r6_1.1, .ref a0])) (aMem Z r6_1.2, t) _
  refine gg_br (b := decide (¬ r6_1.1 = 0)) (tg := 16) (off := 7) aMi215 rfl rfl rfl rfl (fun hb => ?_) (fun hb => ?_)
  · rw [if_pos (of_decide_eq_true hb)] at h
    refine go_ops aMi215 1 _ (f1 := (17, ([(0, .ref a0), (1, .int i1)], [.ref a0, .ref a0]))) rfl ?_
    refine gg_gI aMi215 rfl rfl rfl (gI_of (sh11_z ha0)) ?_
    refine gg_br (b := decide (((r6_1.2) a0 22) = 0)) (tg := 27) (off := 7) aMi215 rfl rfl rfl rfl (fun hb => ?_) (fun hb => ?_)
    · rw [if_pos (of_decide_eq_true hb)] at h
      refine go_ops aMi215 1 _ (f1 := (28, ([(0, .ref a0), (1, .int i1)], [.int (2 : Int32), .ref a0]))) rfl ?_
      exact Tf215_b28 hd a0 ha0 i1 (2 : Int32) r6_1.2 _ h
    · rw [if_neg (of_decide_eq_false hb)] at h
      refine go_ops aMi215 2 _ (f1 := (28, ([(0, .ref a0), (1, .int i1)], [.int (0 : Int32), .ref a0]))) rfl ?_
      exact Tf215_b28 hd a0 ha0 i1 (0 : Int32) r6_1.2 _ h
  · rw [if_neg (of_decide_eq_false hb)] at h
    refine go_ops aMi215 2 _ (f1 := (28, ([(0, .ref a0), (1, .int i1)], [.int (1 : Int32), .ref a0]))) rfl ?_
    exact Tf215_b28 hd a0 ha0 i1 (1 : Int32) r6_1.2 _ h
-- KernelGymModel.isMachine ()Z
def f216_b12 (kad : Nat → Nat) (N : Nat) (Z : AZ) (a0 : Nat) (s0 : Int32) (I : AI) : Option (Int32 × AI) :=
  if s0 = 0 ∨ s0 = 1 then some (s0, I) else none
set_option maxRecDepth 20000 in
theorem Tf216_b12 {kad : Nat → Nat} {N : Nat} {Z : AZ} {d : Nat} {t : Option Nat × (Nat × Nat)} (hd : 0 ≤ d) : ∀ (a0 : Nat) (ha0 : sh11 kad Z a0) (s0 : Int32) (I : AI) (r : Int32 × AI), f216_b12 kad N Z a0 s0 I = some r → aGo kad d 216 (12, ([], [.int s0])) (aMem Z I, t) (qI Z t r) := by
  intro a0 ha0 s0 I r h
  unfold f216_b12 at h
  split at h
  · rename_i hz
    cases h
    exact go_ret aMi216 rfl (aRetZ hz) ⟨rfl, rfl⟩
  · cases h
def f216 (kad : Nat → Nat) (N : Nat) (Z : AZ) (a0 : Nat) (I : AI) : Option (Int32 × AI) :=
  if (I a0 23) = 0 then
    f216_b12 kad N Z a0 (0 : Int32) I
  else
    f216_b12 kad N Z a0 (1 : Int32) I
set_option maxRecDepth 20000 in
theorem Tf216 {kad : Nat → Nat} {N : Nat} {Z : AZ} {d : Nat} {t : Option Nat × (Nat × Nat)} (hd : 0 ≤ d) : ∀ (a0 : Nat) (ha0 : sh11 kad Z a0) (I : AI) (r : Int32 × AI), f216 kad N Z a0 I = some r → aGo kad d 216 (0, ([(0, .ref a0)], [])) (aMem Z I, t) (qI Z t r) := by
  intro a0 ha0 I r h
  unfold f216 at h
  refine go_ops aMi216 1 _ (f1 := (1, ([(0, .ref a0)], [.ref a0]))) rfl ?_
  refine gg_gI aMi216 rfl rfl rfl (gI_of (sh11_z ha0)) ?_
  refine gg_br (b := decide ((I a0 23) = 0)) (tg := 11) (off := 7) aMi216 rfl rfl rfl rfl (fun hb => ?_) (fun hb => ?_)
  · rw [if_pos (of_decide_eq_true hb)] at h
    refine go_ops aMi216 1 _ (f1 := (12, ([(0, .ref a0)], [.int (0 : Int32)]))) rfl ?_
    refine go_le (lv1 := []) (aLe_of (show (List.map (fun q => q.1) ([] : ALv)).Nodup from (by show ([] : List Nat).Nodup; decide)) aSubL_nil) ?_
    exact Tf216_b12 hd a0 ha0 (0 : Int32) I _ h
  · rw [if_neg (of_decide_eq_false hb)] at h
    refine go_ops aMi216 2 _ (f1 := (12, ([(0, .ref a0)], [.int (1 : Int32)]))) rfl ?_
    refine go_le (lv1 := []) (aLe_of (show (List.map (fun q => q.1) ([] : ALv)).Nodup from (by show ([] : List Nat).Nodup; decide)) aSubL_nil) ?_
    exact Tf216_b12 hd a0 ha0 (1 : Int32) I _ h
-- KernelGymModel.keepsWrite (I)V
def f217_b72 (kad : Nat → Nat) (N : Nat) (Z : AZ) (a0 : Nat) (I : AI) : Option (Unit × AI) :=
  some ((), I)
set_option maxRecDepth 20000 in
theorem Tf217_b72 {kad : Nat → Nat} {N : Nat} {Z : AZ} {d : Nat} {t : Option Nat × (Nat × Nat)} (hd : 0 ≤ d) : ∀ (a0 : Nat) (ha0 : sh11 kad Z a0) (I : AI) (r : Unit × AI), f217_b72 kad N Z a0 I = some r → aGo kad d 217 (72, ([], [])) (aMem Z I, t) (qV Z t r) := by
  intro a0 ha0 I r h
  unfold f217_b72 at h
  cases h
  exact go_ret aMi217 rfl rfl ⟨rfl, rfl⟩
def f217_b71 (kad : Nat → Nat) (N : Nat) (Z : AZ) (a0 : Nat) (s0 : Int32) (s1 : Int32) (I : AI) : Option (Unit × AI) :=
  (ixA 1000 s1).bind fun j71_2 =>
  (wI I (a0 + 20) j71_2 s0).bind fun I71_1 =>
  f217_b72 kad N Z a0 I71_1
set_option maxRecDepth 20000 in
theorem Tf217_b71 {kad : Nat → Nat} {N : Nat} {Z : AZ} {d : Nat} {t : Option Nat × (Nat × Nat)} (hd : 0 ≤ d) : ∀ (a0 : Nat) (ha0 : sh11 kad Z a0) (s0 : Int32) (s1 : Int32) (I : AI) (r : Unit × AI), f217_b71 kad N Z a0 s0 s1 I = some r → aGo kad d 217 (71, ([], [.int s0, .int s1, .ref (a0 + 20)])) (aMem Z I, t) (qV Z t r) := by
  intro a0 ha0 s0 s1 I r h
  unfold f217_b71 at h
  obtain ⟨j71_2, hxj71_2, h⟩ := Option.bind_eq_some_iff.mp h
  obtain ⟨I71_1, hxI71_1, h⟩ := Option.bind_eq_some_iff.mp h
  refine gg_sI (Or.inl ⟨rfl, rfl⟩) aMi217 rfl (sI_of (sh11_a44 ha0) hxj71_2 hxI71_1) ?_
  exact Tf217_b72 hd a0 ha0 I71_1 _ h
def f217_b36 (kad : Nat → Nat) (N : Nat) (Z : AZ) (a0 : Nat) (i1 : Int32) (s0 : Int32) (s1 : Int32) (I : AI) : Option (Unit × AI) :=
  (ixA 1000 s1).bind fun j36_2 =>
  (wI I (a0 + 21) j36_2 s0).bind fun I36_1 =>
  (ixA 1000 (I36_1 a0 38)).bind fun j53_3 =>
  if ¬ (I36_1 (a0 + 20) j53_3) = (Int32.ofInt (-1)) then
    (ixA 1000 (I36_1 a0 38)).bind fun j70_4 =>
    f217_b71 kad N Z a0 (I36_1 (a0 + 20) j70_4) (I36_1 a0 38) I36_1
  else
    f217_b71 kad N Z a0 i1 (I36_1 a0 38) I36_1
set_option maxRecDepth 20000 in
theorem Tf217_b36 {kad : Nat → Nat} {N : Nat} {Z : AZ} {d : Nat} {t : Option Nat × (Nat × Nat)} (hd : 0 ≤ d) : ∀ (a0 : Nat) (ha0 : sh11 kad Z a0) (i1 : Int32) (s0 : Int32) (s1 : Int32) (I : AI) (r : Unit × AI), f217_b36 kad N Z a0 i1 s0 s1 I = some r → aGo kad d 217 (36, ([(0, .ref a0), (1, .int i1)], [.int s0, .int s1, .ref (a0 + 21)])) (aMem Z I, t) (qV Z t r) := by
  intro a0 ha0 i1 s0 s1 I r h
  unfold f217_b36 at h
  obtain ⟨j36_2, hxj36_2, h⟩ := Option.bind_eq_some_iff.mp h
  obtain ⟨I36_1, hxI36_1, h⟩ := Option.bind_eq_some_iff.mp h
  refine gg_sI (Or.inl ⟨rfl, rfl⟩) aMi217 rfl (sI_of (sh11_a45 ha0) hxj36_2 hxI36_1) ?_
  refine go_ops aMi217 1 _ (f1 := (38, ([(0, .ref a0), (1, .int i1)], [.ref a0]))) rfl ?_
  refine gg_gR (b := (a0 + 20)) aMi217 rfl rfl rfl (gR_of (sh11_z ha0) (sh11_r44 ha0)) ?_
  refine go_ops aMi217 1 _ (f1 := (42, ([(0, .ref a0), (1, .int i1)], [.ref a0, .ref (a0 + 20)]))) rfl ?_
  refine gg_gI aMi217 rfl rfl rfl (gI_of (sh11_z ha0)) ?_
  refine go_ops aMi217 1 _ (f1 := (46, ([(0, .ref a0), (1, .int i1)], [.ref a0, .int (I36_1 a0 38), .ref (a0 + 20)]))) rfl ?_
  refine gg_gR (b := (a0 + 20)) aMi217 rfl rfl rfl (gR_of (sh11_z ha0) (sh11_r44 ha0)) ?_
  refine go_ops aMi217 1 _ (f1 := (50, ([(0, .ref a0), (1, .int i1)], [.ref a0, .ref (a0 + 20), .int (I36_1 a0 38), .ref (a0 + 20)]))) rfl ?_
  refine gg_gI aMi217 rfl rfl rfl (gI_of (sh11_z ha0)) ?_
  obtain ⟨j53_3, hxj53_3, h⟩ := Option.bind_eq_some_iff.mp h
  refine gg_lI (Or.inl ⟨rfl, rfl⟩) aMi217 rfl (lI_of (sh11_a44 ha0) hxj53_3) ?_
  refine go_ops aMi217 1 _ (f1 := (55, ([(0, .ref a0), (1, .int i1)], [.int (Int32.ofInt (-1)), .int (I36_1 (a0 + 20) j53_3), .int (I36_1 a0 38), .ref (a0 + 20)]))) rfl ?_
  refine gg_br (b := decide (¬ (I36_1 (a0 + 20) j53_3) = (Int32.ofInt (-1)))) (tg := 62) (off := 7) aMi217 rfl rfl rfl rfl (fun hb => ?_) (fun hb => ?_)
  · rw [if_pos (of_decide_eq_true hb)] at h
    refine go_ops aMi217 1 _ (f1 := (63, ([(0, .ref a0), (1, .int i1)], [.ref a0, .int (I36_1 a0 38), .ref (a0 + 20)]))) rfl ?_
    refine gg_gR (b := (a0 + 20)) aMi217 rfl rfl rfl (gR_of (sh11_z ha0) (sh11_r44 ha0)) ?_
    refine go_ops aMi217 1 _ (f1 := (67, ([(0, .ref a0), (1, .int i1)], [.ref a0, .ref (a0 + 20), .int (I36_1 a0 38), .ref (a0 + 20)]))) rfl ?_
    refine gg_gI aMi217 rfl rfl rfl (gI_of (sh11_z ha0)) ?_
    obtain ⟨j70_4, hxj70_4, h⟩ := Option.bind_eq_some_iff.mp h
    refine gg_lI (Or.inl ⟨rfl, rfl⟩) aMi217 rfl (lI_of (sh11_a44 ha0) hxj70_4) ?_
    refine go_le (lv1 := []) (aLe_of (show (List.map (fun q => q.1) ([] : ALv)).Nodup from (by show ([] : List Nat).Nodup; decide)) aSubL_nil) ?_
    exact Tf217_b71 hd a0 ha0 (I36_1 (a0 + 20) j70_4) (I36_1 a0 38) I36_1 _ h
  · rw [if_neg (of_decide_eq_false hb)] at h
    refine go_ops aMi217 2 _ (f1 := (71, ([(0, .ref a0), (1, .int i1)], [.int i1, .int (I36_1 a0 38), .ref (a0 + 20)]))) rfl ?_
    refine go_le (lv1 := []) (aLe_of (show (List.map (fun q => q.1) ([] : ALv)).Nodup from (by show ([] : List Nat).Nodup; decide)) aSubL_nil) ?_
    exact Tf217_b71 hd a0 ha0 i1 (I36_1 a0 38) I36_1 _ h
def f217 (kad : Nat → Nat) (N : Nat) (Z : AZ) (a0 : Nat) (i1 : Int32) (I : AI) : Option (Unit × AI) :=
  if (1000 : Int32) ≤ (I a0 38) then
    f217_b72 kad N Z a0 I
  else
    (ixA 1000 (I a0 38)).bind fun j26_1 =>
    if ¬ (I (a0 + 20) j26_1) = (Int32.ofInt (-1)) then
      f217_b36 kad N Z a0 i1 i1 (I a0 38) I
    else
      f217_b36 kad N Z a0 i1 (Int32.ofInt (-1)) (I a0 38) I
set_option maxRecDepth 20000 in
theorem Tf217 {kad : Nat → Nat} {N : Nat} {Z : AZ} {d : Nat} {t : Option Nat × (Nat × Nat)} (hd : 0 ≤ d) : ∀ (a0 : Nat) (ha0 : sh11 kad Z a0) (i1 : Int32) (I : AI) (r : Unit × AI), f217 kad N Z a0 i1 I = some r → aGo kad d 217 (0, ([(0, .ref a0), (1, .int i1)], [])) (aMem Z I, t) (qV Z t r) := by
  intro a0 ha0 i1 I r h
  unfold f217 at h
  refine go_ops aMi217 1 _ (f1 := (1, ([(0, .ref a0), (1, .int i1)], [.ref a0]))) rfl ?_
  refine gg_gI aMi217 rfl rfl rfl (gI_of (sh11_z ha0)) ?_
  refine go_ops aMi217 1 _ (f1 := (7, ([(0, .ref a0), (1, .int i1)], [.int (1000 : Int32), .int (I a0 38)]))) rfl ?_
  refine gg_br (b := decide ((1000 : Int32) ≤ (I a0 38))) (tg := 72) (off := 65) aMi217 rfl rfl rfl rfl (fun hb => ?_) (fun hb => ?_)
  · rw [if_pos (of_decide_eq_true hb)] at h
    refine go_le (lv1 := []) (aLe_of (show (List.map (fun q => q.1) ([] : ALv)).Nodup from (by show ([] : List Nat).Nodup; decide)) aSubL_nil) ?_
    exact Tf217_b72 hd a0 ha0 I _ h
  · rw [if_neg (of_decide_eq_false hb)] at h
    refine go_ops aMi217 1 _ (f1 := (11, ([(0, .ref a0), (1, .int i1)], [.ref a0]))) rfl ?_
    refine gg_gR (b := (a0 + 21)) aMi217 rfl rfl rfl (gR_of (sh11_z ha0) (sh11_r45 ha0)) ?_
    refine go_ops aMi217 1 _ (f1 := (15, ([(0, .ref a0), (1, .int i1)], [.ref a0, .ref (a0 + 21)]))) rfl ?_
    refine gg_gI aMi217 rfl rfl rfl (gI_of (sh11_z ha0)) ?_
    refine go_ops aMi217 1 _ (f1 := (19, ([(0, .ref a0), (1, .int i1)], [.ref a0, .int (I a0 38), .ref (a0 + 21)]))) rfl ?_
    refine gg_gR (b := (a0 + 20)) aMi217 rfl rfl rfl (gR_of (sh11_z ha0) (sh11_r44 ha0)) ?_
    refine go_ops aMi217 1 _ (f1 := (23, ([(0, .ref a0), (1, .int i1)], [.ref a0, .ref (a0 + 20), .int (I a0 38), .ref (a0 + 21)]))) rfl ?_
    refine gg_gI aMi217 rfl rfl rfl (gI_of (sh11_z ha0)) ?_
    obtain ⟨j26_1, hxj26_1, h⟩ := Option.bind_eq_some_iff.mp h
    refine gg_lI (Or.inl ⟨rfl, rfl⟩) aMi217 rfl (lI_of (sh11_a44 ha0) hxj26_1) ?_
    refine go_ops aMi217 1 _ (f1 := (28, ([(0, .ref a0), (1, .int i1)], [.int (Int32.ofInt (-1)), .int (I (a0 + 20) j26_1), .int (I a0 38), .ref (a0 + 21)]))) rfl ?_
    refine gg_br (b := decide (¬ (I (a0 + 20) j26_1) = (Int32.ofInt (-1)))) (tg := 35) (off := 7) aMi217 rfl rfl rfl rfl (fun hb => ?_) (fun hb => ?_)
    · rw [if_pos (of_decide_eq_true hb)] at h
      refine go_ops aMi217 1 _ (f1 := (36, ([(0, .ref a0), (1, .int i1)], [.int i1, .int (I a0 38), .ref (a0 + 21)]))) rfl ?_
      exact Tf217_b36 hd a0 ha0 i1 i1 (I a0 38) I _ h
    · rw [if_neg (of_decide_eq_false hb)] at h
      refine go_ops aMi217 2 _ (f1 := (36, ([(0, .ref a0), (1, .int i1)], [.int (Int32.ofInt (-1)), .int (I a0 38), .ref (a0 + 21)]))) rfl ?_
      exact Tf217_b36 hd a0 ha0 i1 (Int32.ofInt (-1)) (I a0 38) I _ h
-- KernelGymModel.writes (II)V
def f218 (kad : Nat → Nat) (N : Nat) (Z : AZ) (a0 : Nat) (i1 : Int32) (i2 : Int32) (I : AI) : Option (Unit × AI) :=
  (ixA 256 i1).bind fun j6_2 =>
  (wI I (a0 + 15) j6_2 i2).bind fun I6_1 =>
  (f217 kad N Z a0 i1 I6_1).bind fun r9_3 =>
  some ((), r9_3.2)
set_option maxRecDepth 20000 in
theorem Tf218 {kad : Nat → Nat} {N : Nat} {Z : AZ} {d : Nat} {t : Option Nat × (Nat × Nat)} (hd : 1 ≤ d) : ∀ (a0 : Nat) (ha0 : sh11 kad Z a0) (i1 : Int32) (i2 : Int32) (I : AI) (r : Unit × AI), f218 kad N Z a0 i1 i2 I = some r → aGo kad d 218 (0, ([(0, .ref a0), (1, .int i1), (2, .int i2)], [])) (aMem Z I, t) (qV Z t r) := by
  intro a0 ha0 i1 i2 I r h
  unfold f218 at h
  refine go_ops aMi218 1 _ (f1 := (1, ([(0, .ref a0), (1, .int i1), (2, .int i2)], [.ref a0]))) rfl ?_
  refine gg_gR (b := (a0 + 15)) aMi218 rfl rfl rfl (gR_of (sh11_z ha0) (sh11_r25 ha0)) ?_
  refine go_ops aMi218 2 _ (f1 := (6, ([(0, .ref a0), (1, .int i1), (2, .int i2)], [.int i2, .int i1, .ref (a0 + 15)]))) rfl ?_
  obtain ⟨j6_2, hxj6_2, h⟩ := Option.bind_eq_some_iff.mp h
  obtain ⟨I6_1, hxI6_1, h⟩ := Option.bind_eq_some_iff.mp h
  refine gg_sI (Or.inl ⟨rfl, rfl⟩) aMi218 rfl (sI_of (sh11_a25 ha0) hxj6_2 hxI6_1) ?_
  refine go_ops aMi218 2 _ (f1 := (9, ([(0, .ref a0), (1, .int i1), (2, .int i2)], [.int i1, .ref a0]))) rfl ?_
  obtain ⟨r9_3, hxr9_3, h⟩ := Option.bind_eq_some_iff.mp h
  refine gg_cv (as := [.int i1]) (r := []) aMi218 rfl rfl rfl aMi217 (Nat.le_of_ble_eq_true rfl) rfl (Nat.le_of_ble_eq_true rfl) (Nat.le_of_ble_eq_true rfl) (by omega) (isK_of (sh11_z ha0)) (Tf217 (by omega) a0 ha0 i1 I6_1 _ hxr9_3) ?_
  show aGo kad d 218 (12, ([(0, .ref a0), (1, .int i1), (2, .int i2)], [])) (aMem Z r9_3.2, t) _
  cases h
  exact go_ret aMi218 rfl rfl ⟨rfl, rfl⟩
-- KernelGymModel.pushes (I)V
def f219 (kad : Nat → Nat) (N : Nat) (Z : AZ) (a0 : Nat) (i1 : Int32) (I : AI) : Option (Unit × AI) :=
  (wI I a0 28 ((I a0 28) - (1 : Int32))).bind fun I7_1 =>
  (f218 kad N Z a0 (I7_1 a0 28) i1 I7_1).bind fun r16_2 =>
  some ((), r16_2.2)
set_option maxRecDepth 20000 in
theorem Tf219 {kad : Nat → Nat} {N : Nat} {Z : AZ} {d : Nat} {t : Option Nat × (Nat × Nat)} (hd : 2 ≤ d) : ∀ (a0 : Nat) (ha0 : sh11 kad Z a0) (i1 : Int32) (I : AI) (r : Unit × AI), f219 kad N Z a0 i1 I = some r → aGo kad d 219 (0, ([(0, .ref a0), (1, .int i1)], [])) (aMem Z I, t) (qV Z t r) := by
  intro a0 ha0 i1 I r h
  unfold f219 at h
  refine go_ops aMi219 2 _ (f1 := (2, ([(0, .ref a0), (1, .int i1)], [.ref a0, .ref a0]))) rfl ?_
  refine gg_gI aMi219 rfl rfl rfl (gI_of (sh11_z ha0)) ?_
  refine go_ops aMi219 2 _ (f1 := (7, ([(0, .ref a0), (1, .int i1)], [.int ((I a0 28) - (1 : Int32)), .ref a0]))) rfl ?_
  obtain ⟨I7_1, hxI7_1, h⟩ := Option.bind_eq_some_iff.mp h
  refine gg_pI aMi219 rfl rfl rfl rfl (by decide) (pI_of (sh11_z ha0) hxI7_1) ?_
  refine go_ops aMi219 2 _ (f1 := (12, ([(0, .ref a0), (1, .int i1)], [.ref a0, .ref a0]))) rfl ?_
  refine gg_gI aMi219 rfl rfl rfl (gI_of (sh11_z ha0)) ?_
  refine go_ops aMi219 1 _ (f1 := (16, ([(0, .ref a0), (1, .int i1)], [.int i1, .int (I7_1 a0 28), .ref a0]))) rfl ?_
  obtain ⟨r16_2, hxr16_2, h⟩ := Option.bind_eq_some_iff.mp h
  refine gg_cv (as := [.int (I7_1 a0 28), .int i1]) (r := []) aMi219 rfl rfl rfl aMi218 (Nat.le_of_ble_eq_true rfl) rfl (Nat.le_of_ble_eq_true rfl) (Nat.le_of_ble_eq_true rfl) (by omega) (isK_of (sh11_z ha0)) (Tf218 (by omega) a0 ha0 (I7_1 a0 28) i1 I7_1 _ hxr16_2) ?_
  show aGo kad d 219 (19, ([(0, .ref a0), (1, .int i1)], [])) (aMem Z r16_2.2, t) _
  cases h
  exact go_ret aMi219 rfl rfl ⟨rfl, rfl⟩
-- KernelGymModel.pulls ()I
def f220 (kad : Nat → Nat) (N : Nat) (Z : AZ) (a0 : Nat) (I : AI) : Option (Int32 × AI) :=
  (wI I a0 28 ((I a0 28) + (1 : Int32))).bind fun I7_1 =>
  (ixA 256 ((I7_1 a0 28) - (1 : Int32))).bind fun j20_2 =>
  some ((I7_1 (a0 + 15) j20_2), I7_1)
set_option maxRecDepth 20000 in
theorem Tf220 {kad : Nat → Nat} {N : Nat} {Z : AZ} {d : Nat} {t : Option Nat × (Nat × Nat)} (hd : 0 ≤ d) : ∀ (a0 : Nat) (ha0 : sh11 kad Z a0) (I : AI) (r : Int32 × AI), f220 kad N Z a0 I = some r → aGo kad d 220 (0, ([(0, .ref a0)], [])) (aMem Z I, t) (qI Z t r) := by
  intro a0 ha0 I r h
  unfold f220 at h
  refine go_ops aMi220 2 _ (f1 := (2, ([(0, .ref a0)], [.ref a0, .ref a0]))) rfl ?_
  refine gg_gI aMi220 rfl rfl rfl (gI_of (sh11_z ha0)) ?_
  refine go_ops aMi220 2 _ (f1 := (7, ([(0, .ref a0)], [.int ((I a0 28) + (1 : Int32)), .ref a0]))) rfl ?_
  obtain ⟨I7_1, hxI7_1, h⟩ := Option.bind_eq_some_iff.mp h
  refine gg_pI aMi220 rfl rfl rfl rfl (by decide) (pI_of (sh11_z ha0) hxI7_1) ?_
  refine go_ops aMi220 1 _ (f1 := (11, ([(0, .ref a0)], [.ref a0]))) rfl ?_
  refine gg_gR (b := (a0 + 15)) aMi220 rfl rfl rfl (gR_of (sh11_z ha0) (sh11_r25 ha0)) ?_
  refine go_ops aMi220 1 _ (f1 := (15, ([(0, .ref a0)], [.ref a0, .ref (a0 + 15)]))) rfl ?_
  refine gg_gI aMi220 rfl rfl rfl (gI_of (sh11_z ha0)) ?_
  refine go_ops aMi220 2 _ (f1 := (20, ([(0, .ref a0)], [.int ((I7_1 a0 28) - (1 : Int32)), .ref (a0 + 15)]))) rfl ?_
  obtain ⟨j20_2, hxj20_2, h⟩ := Option.bind_eq_some_iff.mp h
  refine gg_lI (Or.inl ⟨rfl, rfl⟩) aMi220 rfl (lI_of (sh11_a25 ha0) hxj20_2) ?_
  cases h
  exact go_ret aMi220 rfl aRetI ⟨rfl, rfl⟩
-- KernelGymModel.faults (I)V
def f221 (kad : Nat → Nat) (N : Nat) (Z : AZ) (a0 : Nat) (i1 : Int32) (I : AI) : Option (Unit × AI) :=
  (wI I a0 23 (3 : Int32)).bind fun I2_1 =>
  (wI I2_1 a0 24 i1).bind fun I7_2 =>
  some ((), I7_2)
set_option maxRecDepth 20000 in
theorem Tf221 {kad : Nat → Nat} {N : Nat} {Z : AZ} {d : Nat} {t : Option Nat × (Nat × Nat)} (hd : 0 ≤ d) : ∀ (a0 : Nat) (ha0 : sh11 kad Z a0) (i1 : Int32) (I : AI) (r : Unit × AI), f221 kad N Z a0 i1 I = some r → aGo kad d 221 (0, ([(0, .ref a0), (1, .int i1)], [])) (aMem Z I, t) (qV Z t r) := by
  intro a0 ha0 i1 I r h
  unfold f221 at h
  refine go_ops aMi221 2 _ (f1 := (2, ([(0, .ref a0), (1, .int i1)], [.int (3 : Int32), .ref a0]))) rfl ?_
  obtain ⟨I2_1, hxI2_1, h⟩ := Option.bind_eq_some_iff.mp h
  refine gg_pI aMi221 rfl rfl rfl rfl (by decide) (pI_of (sh11_z ha0) hxI2_1) ?_
  refine go_ops aMi221 2 _ (f1 := (7, ([(0, .ref a0), (1, .int i1)], [.int i1, .ref a0]))) rfl ?_
  obtain ⟨I7_2, hxI7_2, h⟩ := Option.bind_eq_some_iff.mp h
  refine gg_pI aMi221 rfl rfl rfl rfl (by decide) (pI_of (sh11_z ha0) hxI7_2) ?_
  cases h
  exact go_ret aMi221 rfl rfl ⟨rfl, rfl⟩
-- KernelGymModel.sleeps ()V
def f223_b34 (kad : Nat → Nat) (N : Nat) (Z : AZ) : Nat → Nat → Int32 → AI → Option (Unit × AI)
  | 0, _, _, _ => none
  | F + 1, a0, i1, I =>
    if (4 : Int32) ≤ i1 then
      (wI I a0 27 (0 : Int32)).bind fun I54_1 =>
      (wI I54_1 a0 28 (0 : Int32)).bind fun I59_2 =>
      (wI I59_2 a0 29 (0 : Int32)).bind fun I64_3 =>
      (wI I64_3 a0 30 (0 : Int32)).bind fun I69_4 =>
      (wI I69_4 a0 31 (0 : Int32)).bind fun I74_5 =>
      (wI I74_5 a0 32 (0 : Int32)).bind fun I79_6 =>
      (wI I79_6 a0 33 (0 : Int32)).bind fun I84_7 =>
      (wI I84_7 a0 34 (0 : Int32)).bind fun I89_8 =>
      (wI I89_8 a0 35 (0 : Int32)).bind fun I94_9 =>
      (wI I94_9 a0 37 (0 : Int32)).bind fun I99_10 =>
      (wI I99_10 a0 38 (0 : Int32)).bind fun I104_11 =>
      (wI I104_11 a0 39 (0 : Int32)).bind fun I109_12 =>
      (wI I109_12 a0 46 (0 : Int32)).bind fun I114_13 =>
      some ((), I114_13)
    else
      (ixA 4 i1).bind fun j45_15 =>
      (wI I (a0 + 16) j45_15 (0 : Int32)).bind fun I45_14 =>
      f223_b34 kad N Z F a0 (i1 + (1 : Int32)) I45_14
set_option maxRecDepth 20000 in
theorem Tf223_b34 {kad : Nat → Nat} {N : Nat} {Z : AZ} {d : Nat} {t : Option Nat × (Nat × Nat)} (hd : 0 ≤ d) : ∀ (F : Nat) (a0 : Nat) (ha0 : sh11 kad Z a0) (i1 : Int32) (I : AI) (r : Unit × AI), f223_b34 kad N Z F a0 i1 I = some r → aGo kad d 223 (34, ([(0, .ref a0), (1, .int i1)], [])) (aMem Z I, t) (qV Z t r) := by
  intro F
  induction F with
  | zero => intro a0 ha0 i1 I r h; cases h
  | succ F ih =>
    intro a0 ha0 i1 I r h
    unfold f223_b34 at h
    refine go_ops aMi223 2 _ (f1 := (36, ([(0, .ref a0), (1, .int i1)], [.int (4 : Int32), .int i1]))) rfl ?_
    refine gg_br (b := decide ((4 : Int32) ≤ i1)) (tg := 52) (off := 16) aMi223 rfl rfl rfl rfl (fun hb => ?_) (fun hb => ?_)
    · rw [if_pos (of_decide_eq_true hb)] at h
      refine go_ops aMi223 2 _ (f1 := (54, ([(0, .ref a0), (1, .int i1)], [.int (0 : Int32), .ref a0]))) rfl ?_
      obtain ⟨I54_1, hxI54_1, h⟩ := Option.bind_eq_some_iff.mp h
      refine gg_pI aMi223 rfl rfl rfl rfl (by decide) (pI_of (sh11_z ha0) hxI54_1) ?_
      refine go_ops aMi223 2 _ (f1 := (59, ([(0, .ref a0), (1, .int i1)], [.int (0 : Int32), .ref a0]))) rfl ?_
      obtain ⟨I59_2, hxI59_2, h⟩ := Option.bind_eq_some_iff.mp h
      refine gg_pI aMi223 rfl rfl rfl rfl (by decide) (pI_of (sh11_z ha0) hxI59_2) ?_
      refine go_ops aMi223 2 _ (f1 := (64, ([(0, .ref a0), (1, .int i1)], [.int (0 : Int32), .ref a0]))) rfl ?_
      obtain ⟨I64_3, hxI64_3, h⟩ := Option.bind_eq_some_iff.mp h
      refine gg_pB aMi223 rfl rfl rfl rfl (by decide) (pB_lit (sh11_z ha0) (Or.inl rfl) hxI64_3) ?_
      refine go_ops aMi223 2 _ (f1 := (69, ([(0, .ref a0), (1, .int i1)], [.int (0 : Int32), .ref a0]))) rfl ?_
      obtain ⟨I69_4, hxI69_4, h⟩ := Option.bind_eq_some_iff.mp h
      refine gg_pB aMi223 rfl rfl rfl rfl (by decide) (pB_lit (sh11_z ha0) (Or.inl rfl) hxI69_4) ?_
      refine go_ops aMi223 2 _ (f1 := (74, ([(0, .ref a0), (1, .int i1)], [.int (0 : Int32), .ref a0]))) rfl ?_
      obtain ⟨I74_5, hxI74_5, h⟩ := Option.bind_eq_some_iff.mp h
      refine gg_pB aMi223 rfl rfl rfl rfl (by decide) (pB_lit (sh11_z ha0) (Or.inl rfl) hxI74_5) ?_
      refine go_ops aMi223 2 _ (f1 := (79, ([(0, .ref a0), (1, .int i1)], [.int (0 : Int32), .ref a0]))) rfl ?_
      obtain ⟨I79_6, hxI79_6, h⟩ := Option.bind_eq_some_iff.mp h
      refine gg_pB aMi223 rfl rfl rfl rfl (by decide) (pB_lit (sh11_z ha0) (Or.inl rfl) hxI79_6) ?_
      refine go_ops aMi223 2 _ (f1 := (84, ([(0, .ref a0), (1, .int i1)], [.int (0 : Int32), .ref a0]))) rfl ?_
      obtain ⟨I84_7, hxI84_7, h⟩ := Option.bind_eq_some_iff.mp h
      refine gg_pB aMi223 rfl rfl rfl rfl (by decide) (pB_lit (sh11_z ha0) (Or.inl rfl) hxI84_7) ?_
      refine go_ops aMi223 2 _ (f1 := (89, ([(0, .ref a0), (1, .int i1)], [.int (0 : Int32), .ref a0]))) rfl ?_
      obtain ⟨I89_8, hxI89_8, h⟩ := Option.bind_eq_some_iff.mp h
      refine gg_pI aMi223 rfl rfl rfl rfl (by decide) (pI_of (sh11_z ha0) hxI89_8) ?_
      refine go_ops aMi223 2 _ (f1 := (94, ([(0, .ref a0), (1, .int i1)], [.int (0 : Int32), .ref a0]))) rfl ?_
      obtain ⟨I94_9, hxI94_9, h⟩ := Option.bind_eq_some_iff.mp h
      refine gg_pI aMi223 rfl rfl rfl rfl (by decide) (pI_of (sh11_z ha0) hxI94_9) ?_
      refine go_ops aMi223 2 _ (f1 := (99, ([(0, .ref a0), (1, .int i1)], [.int (0 : Int32), .ref a0]))) rfl ?_
      obtain ⟨I99_10, hxI99_10, h⟩ := Option.bind_eq_some_iff.mp h
      refine gg_pI aMi223 rfl rfl rfl rfl (by decide) (pI_of (sh11_z ha0) hxI99_10) ?_
      refine go_ops aMi223 2 _ (f1 := (104, ([(0, .ref a0), (1, .int i1)], [.int (0 : Int32), .ref a0]))) rfl ?_
      obtain ⟨I104_11, hxI104_11, h⟩ := Option.bind_eq_some_iff.mp h
      refine gg_pI aMi223 rfl rfl rfl rfl (by decide) (pI_of (sh11_z ha0) hxI104_11) ?_
      refine go_ops aMi223 2 _ (f1 := (109, ([(0, .ref a0), (1, .int i1)], [.int (0 : Int32), .ref a0]))) rfl ?_
      obtain ⟨I109_12, hxI109_12, h⟩ := Option.bind_eq_some_iff.mp h
      refine gg_pI aMi223 rfl rfl rfl rfl (by decide) (pI_of (sh11_z ha0) hxI109_12) ?_
      refine go_ops aMi223 2 _ (f1 := (114, ([(0, .ref a0), (1, .int i1)], [.int (0 : Int32), .ref a0]))) rfl ?_
      obtain ⟨I114_13, hxI114_13, h⟩ := Option.bind_eq_some_iff.mp h
      refine gg_pI aMi223 rfl rfl rfl rfl (by decide) (pI_of (sh11_z ha0) hxI114_13) ?_
      cases h
      exact go_ret aMi223 rfl rfl ⟨rfl, rfl⟩
    · rw [if_neg (of_decide_eq_false hb)] at h
      refine go_ops aMi223 1 _ (f1 := (40, ([(0, .ref a0), (1, .int i1)], [.ref a0]))) rfl ?_
      refine gg_gR (b := (a0 + 16)) aMi223 rfl rfl rfl (gR_of (sh11_z ha0) (sh11_r26 ha0)) ?_
      refine go_ops aMi223 2 _ (f1 := (45, ([(0, .ref a0), (1, .int i1)], [.int (0 : Int32), .int i1, .ref (a0 + 16)]))) rfl ?_
      obtain ⟨j45_15, hxj45_15, h⟩ := Option.bind_eq_some_iff.mp h
      obtain ⟨I45_14, hxI45_14, h⟩ := Option.bind_eq_some_iff.mp h
      refine gg_sI (Or.inl ⟨rfl, rfl⟩) aMi223 rfl (sI_of (sh11_a26 ha0) hxj45_15 hxI45_14) ?_
      refine go_ops aMi223 2 _ (f1 := (34, ([(1, .int (i1 + (1 : Int32))), (0, .ref a0)], []))) rfl ?_
      refine go_le (lv1 := [(0, .ref a0), (1, .int (i1 + (1 : Int32)))]) (aLe_of (show (List.map (fun q => q.1) ([(0, .ref a0), (1, .int (i1 + (1 : Int32)))] : ALv)).Nodup from (by show ([0, 1] : List Nat).Nodup; decide)) (aSubL_cons rfl (aSubL_cons rfl aSubL_nil))) ?_
      exact ih a0 ha0 (i1 + (1 : Int32)) I45_14 _ h
def f223_b12 (kad : Nat → Nat) (N : Nat) (Z : AZ) : Nat → Nat → Int32 → AI → Option (Unit × AI)
  | 0, _, _, _ => none
  | F + 1, a0, i1, I =>
    if (256 : Int32) ≤ i1 then
      f223_b34 kad N Z N a0 (0 : Int32) I
    else
      (ixA 256 i1).bind fun j25_2 =>
      (wI I (a0 + 15) j25_2 (0 : Int32)).bind fun I25_1 =>
      f223_b12 kad N Z F a0 (i1 + (1 : Int32)) I25_1
set_option maxRecDepth 20000 in
theorem Tf223_b12 {kad : Nat → Nat} {N : Nat} {Z : AZ} {d : Nat} {t : Option Nat × (Nat × Nat)} (hd : 0 ≤ d) : ∀ (F : Nat) (a0 : Nat) (ha0 : sh11 kad Z a0) (i1 : Int32) (I : AI) (r : Unit × AI), f223_b12 kad N Z F a0 i1 I = some r → aGo kad d 223 (12, ([(0, .ref a0), (1, .int i1)], [])) (aMem Z I, t) (qV Z t r) := by
  intro F
  induction F with
  | zero => intro a0 ha0 i1 I r h; cases h
  | succ F ih =>
    intro a0 ha0 i1 I r h
    unfold f223_b12 at h
    refine go_ops aMi223 2 _ (f1 := (16, ([(0, .ref a0), (1, .int i1)], [.int (256 : Int32), .int i1]))) rfl ?_
    refine gg_br (b := decide ((256 : Int32) ≤ i1)) (tg := 32) (off := 16) aMi223 rfl rfl rfl rfl (fun hb => ?_) (fun hb => ?_)
    · rw [if_pos (of_decide_eq_true hb)] at h
      refine go_ops aMi223 2 _ (f1 := (34, ([(1, .int (0 : Int32)), (0, .ref a0)], []))) rfl ?_
      refine go_le (lv1 := [(0, .ref a0), (1, .int (0 : Int32))]) (aLe_of (show (List.map (fun q => q.1) ([(0, .ref a0), (1, .int (0 : Int32))] : ALv)).Nodup from (by show ([0, 1] : List Nat).Nodup; decide)) (aSubL_cons rfl (aSubL_cons rfl aSubL_nil))) ?_
      exact Tf223_b34 hd N a0 ha0 (0 : Int32) I _ h
    · rw [if_neg (of_decide_eq_false hb)] at h
      refine go_ops aMi223 1 _ (f1 := (20, ([(0, .ref a0), (1, .int i1)], [.ref a0]))) rfl ?_
      refine gg_gR (b := (a0 + 15)) aMi223 rfl rfl rfl (gR_of (sh11_z ha0) (sh11_r25 ha0)) ?_
      refine go_ops aMi223 2 _ (f1 := (25, ([(0, .ref a0), (1, .int i1)], [.int (0 : Int32), .int i1, .ref (a0 + 15)]))) rfl ?_
      obtain ⟨j25_2, hxj25_2, h⟩ := Option.bind_eq_some_iff.mp h
      obtain ⟨I25_1, hxI25_1, h⟩ := Option.bind_eq_some_iff.mp h
      refine gg_sI (Or.inl ⟨rfl, rfl⟩) aMi223 rfl (sI_of (sh11_a25 ha0) hxj25_2 hxI25_1) ?_
      refine go_ops aMi223 2 _ (f1 := (12, ([(1, .int (i1 + (1 : Int32))), (0, .ref a0)], []))) rfl ?_
      refine go_le (lv1 := [(0, .ref a0), (1, .int (i1 + (1 : Int32)))]) (aLe_of (show (List.map (fun q => q.1) ([(0, .ref a0), (1, .int (i1 + (1 : Int32)))] : ALv)).Nodup from (by show ([0, 1] : List Nat).Nodup; decide)) (aSubL_cons rfl (aSubL_cons rfl aSubL_nil))) ?_
      exact ih a0 ha0 (i1 + (1 : Int32)) I25_1 _ h
def f223 (kad : Nat → Nat) (N : Nat) (Z : AZ) (a0 : Nat) (I : AI) : Option (Unit × AI) :=
  (wI I a0 23 (0 : Int32)).bind fun I2_1 =>
  (wI I2_1 a0 24 (0 : Int32)).bind fun I7_2 =>
  f223_b12 kad N Z N a0 (0 : Int32) I7_2
set_option maxRecDepth 20000 in
theorem Tf223 {kad : Nat → Nat} {N : Nat} {Z : AZ} {d : Nat} {t : Option Nat × (Nat × Nat)} (hd : 0 ≤ d) : ∀ (a0 : Nat) (ha0 : sh11 kad Z a0) (I : AI) (r : Unit × AI), f223 kad N Z a0 I = some r → aGo kad d 223 (0, ([(0, .ref a0)], [])) (aMem Z I, t) (qV Z t r) := by
  intro a0 ha0 I r h
  unfold f223 at h
  refine go_ops aMi223 2 _ (f1 := (2, ([(0, .ref a0)], [.int (0 : Int32), .ref a0]))) rfl ?_
  obtain ⟨I2_1, hxI2_1, h⟩ := Option.bind_eq_some_iff.mp h
  refine gg_pI aMi223 rfl rfl rfl rfl (by decide) (pI_of (sh11_z ha0) hxI2_1) ?_
  refine go_ops aMi223 2 _ (f1 := (7, ([(0, .ref a0)], [.int (0 : Int32), .ref a0]))) rfl ?_
  obtain ⟨I7_2, hxI7_2, h⟩ := Option.bind_eq_some_iff.mp h
  refine gg_pI aMi223 rfl rfl rfl rfl (by decide) (pI_of (sh11_z ha0) hxI7_2) ?_
  refine go_ops aMi223 2 _ (f1 := (12, ([(1, .int (0 : Int32)), (0, .ref a0)], []))) rfl ?_
  refine go_le (lv1 := [(0, .ref a0), (1, .int (0 : Int32))]) (aLe_of (show (List.map (fun q => q.1) ([(0, .ref a0), (1, .int (0 : Int32))] : ALv)).Nodup from (by show ([0, 1] : List Nat).Nodup; decide)) (aSubL_cons rfl (aSubL_cons rfl aSubL_nil))) ?_
  exact Tf223_b12 hd N a0 ha0 (0 : Int32) I7_2 _ h
-- KernelGymModel.wakes ([I)V
def f222_b6 (kad : Nat → Nat) (N : Nat) (Z : AZ) : Nat → Nat → Nat → Int32 → AI → Option (Unit × AI)
  | 0, _, _, _, _ => none
  | F + 1, a0, b1, i2, I =>
    if (256 : Int32) ≤ i2 then
      (wI I a0 23 (1 : Int32)).bind fun I30_1 =>
      (wI I30_1 a0 27 (8 : Int32)).bind fun I36_2 =>
      (wI I36_2 a0 28 (256 : Int32)).bind fun I43_3 =>
      some ((), I43_3)
    else
      (lI Z I 100 b1 i2).bind fun x20_4 =>
      (ixA 256 i2).bind fun j21_6 =>
      (wI I (a0 + 15) j21_6 x20_4).bind fun I21_5 =>
      f222_b6 kad N Z F a0 b1 (i2 + (1 : Int32)) I21_5
set_option maxRecDepth 20000 in
theorem Tf222_b6 {kad : Nat → Nat} {N : Nat} {Z : AZ} {d : Nat} {t : Option Nat × (Nat × Nat)} (hd : 1 ≤ d) : ∀ (F : Nat) (a0 : Nat) (ha0 : sh11 kad Z a0) (b1 : Nat) (i2 : Int32) (I : AI) (r : Unit × AI), f222_b6 kad N Z F a0 b1 i2 I = some r → aGo kad d 222 (6, ([(0, .ref a0), (1, .ref b1), (2, .int i2)], [])) (aMem Z I, t) (qV Z t r) := by
  intro F
  induction F with
  | zero => intro a0 ha0 b1 i2 I r h; cases h
  | succ F ih =>
    intro a0 ha0 b1 i2 I r h
    unfold f222_b6 at h
    refine go_ops aMi222 2 _ (f1 := (10, ([(0, .ref a0), (1, .ref b1), (2, .int i2)], [.int (256 : Int32), .int i2]))) rfl ?_
    refine gg_br (b := decide ((256 : Int32) ≤ i2)) (tg := 28) (off := 18) aMi222 rfl rfl rfl rfl (fun hb => ?_) (fun hb => ?_)
    · rw [if_pos (of_decide_eq_true hb)] at h
      refine go_ops aMi222 2 _ (f1 := (30, ([(0, .ref a0), (1, .ref b1), (2, .int i2)], [.int (1 : Int32), .ref a0]))) rfl ?_
      obtain ⟨I30_1, hxI30_1, h⟩ := Option.bind_eq_some_iff.mp h
      refine gg_pI aMi222 rfl rfl rfl rfl (by decide) (pI_of (sh11_z ha0) hxI30_1) ?_
      refine go_ops aMi222 2 _ (f1 := (36, ([(0, .ref a0), (1, .ref b1), (2, .int i2)], [.int (8 : Int32), .ref a0]))) rfl ?_
      obtain ⟨I36_2, hxI36_2, h⟩ := Option.bind_eq_some_iff.mp h
      refine gg_pI aMi222 rfl rfl rfl rfl (by decide) (pI_of (sh11_z ha0) hxI36_2) ?_
      refine go_ops aMi222 2 _ (f1 := (43, ([(0, .ref a0), (1, .ref b1), (2, .int i2)], [.int (256 : Int32), .ref a0]))) rfl ?_
      obtain ⟨I43_3, hxI43_3, h⟩ := Option.bind_eq_some_iff.mp h
      refine gg_pI aMi222 rfl rfl rfl rfl (by decide) (pI_of (sh11_z ha0) hxI43_3) ?_
      cases h
      exact go_ret aMi222 rfl rfl ⟨rfl, rfl⟩
    · rw [if_neg (of_decide_eq_false hb)] at h
      refine go_ops aMi222 1 _ (f1 := (14, ([(0, .ref a0), (1, .ref b1), (2, .int i2)], [.ref a0]))) rfl ?_
      refine gg_gR (b := (a0 + 15)) aMi222 rfl rfl rfl (gR_of (sh11_z ha0) (sh11_r25 ha0)) ?_
      refine go_ops aMi222 3 _ (f1 := (20, ([(0, .ref a0), (1, .ref b1), (2, .int i2)], [.int i2, .ref b1, .int i2, .ref (a0 + 15)]))) rfl ?_
      obtain ⟨x20_4, hxx20_4, h⟩ := Option.bind_eq_some_iff.mp h
      refine gg_lI (Or.inl ⟨rfl, rfl⟩) aMi222 rfl hxx20_4 ?_
      obtain ⟨j21_6, hxj21_6, h⟩ := Option.bind_eq_some_iff.mp h
      obtain ⟨I21_5, hxI21_5, h⟩ := Option.bind_eq_some_iff.mp h
      refine gg_sI (Or.inl ⟨rfl, rfl⟩) aMi222 rfl (sI_of (sh11_a25 ha0) hxj21_6 hxI21_5) ?_
      refine go_ops aMi222 2 _ (f1 := (6, ([(2, .int (i2 + (1 : Int32))), (0, .ref a0), (1, .ref b1)], []))) rfl ?_
      refine go_le (lv1 := [(0, .ref a0), (1, .ref b1), (2, .int (i2 + (1 : Int32)))]) (aLe_of (show (List.map (fun q => q.1) ([(0, .ref a0), (1, .ref b1), (2, .int (i2 + (1 : Int32)))] : ALv)).Nodup from (by show ([0, 1, 2] : List Nat).Nodup; decide)) (aSubL_cons rfl (aSubL_cons rfl (aSubL_cons rfl aSubL_nil)))) ?_
      exact ih a0 ha0 b1 (i2 + (1 : Int32)) I21_5 _ h
def f222 (kad : Nat → Nat) (N : Nat) (Z : AZ) (a0 : Nat) (b1 : Nat) (I : AI) : Option (Unit × AI) :=
  (f223 kad N Z a0 I).bind fun r1_1 =>
  f222_b6 kad N Z N a0 b1 (0 : Int32) r1_1.2
set_option maxRecDepth 20000 in
theorem Tf222 {kad : Nat → Nat} {N : Nat} {Z : AZ} {d : Nat} {t : Option Nat × (Nat × Nat)} (hd : 1 ≤ d) : ∀ (a0 : Nat) (ha0 : sh11 kad Z a0) (b1 : Nat) (I : AI) (r : Unit × AI), f222 kad N Z a0 b1 I = some r → aGo kad d 222 (0, ([(0, .ref a0), (1, .ref b1)], [])) (aMem Z I, t) (qV Z t r) := by
  intro a0 ha0 b1 I r h
  unfold f222 at h
  refine go_ops aMi222 1 _ (f1 := (1, ([(0, .ref a0), (1, .ref b1)], [.ref a0]))) rfl ?_
  obtain ⟨r1_1, hxr1_1, h⟩ := Option.bind_eq_some_iff.mp h
  refine gg_cv (as := []) (r := []) aMi222 rfl rfl rfl aMi223 (Nat.le_of_ble_eq_true rfl) rfl (Nat.le_of_ble_eq_true rfl) (Nat.le_of_ble_eq_true rfl) (by omega) (isK_of (sh11_z ha0)) (Tf223 (by omega) a0 ha0 I _ hxr1_1) ?_
  show aGo kad d 222 (4, ([(0, .ref a0), (1, .ref b1)], [])) (aMem Z r1_1.2, t) _
  refine go_ops aMi222 2 _ (f1 := (6, ([(2, .int (0 : Int32)), (0, .ref a0), (1, .ref b1)], []))) rfl ?_
  refine go_le (lv1 := [(0, .ref a0), (1, .ref b1), (2, .int (0 : Int32))]) (aLe_of (show (List.map (fun q => q.1) ([(0, .ref a0), (1, .ref b1), (2, .int (0 : Int32))] : ALv)).Nodup from (by show ([0, 1, 2] : List Nat).Nodup; decide)) (aSubL_cons rfl (aSubL_cons rfl (aSubL_cons rfl aSubL_nil)))) ?_
  exact Tf222_b6 hd N a0 ha0 b1 (0 : Int32) r1_1.2 _ h
-- KernelGymModel.keysCome ()V
def f224_b36 (kad : Nat → Nat) (N : Nat) (Z : AZ) (k2 : Nat → Int32 → AI → Option (Unit × AI)) (a0 : Nat) (i1 : Int32) (s0 : Int32) (I : AI) : Option (Unit × AI) :=
  (wB I a0 33 s0).bind fun I36_1 =>
  k2 a0 (i1 + (1 : Int32)) I36_1
set_option maxRecDepth 20000 in
theorem Tf224_b36 {kad : Nat → Nat} {N : Nat} {Z : AZ} {d : Nat} {t : Option Nat × (Nat × Nat)} (hd : 0 ≤ d) (k2 : Nat → Int32 → AI → Option (Unit × AI))  (hk2 : ∀ (a0 : Nat) (ha0 : sh11 kad Z a0) (i1 : Int32) (I : AI) (r : Unit × AI), k2 a0 i1 I = some r → aGo kad d 224 (2, ([(0, .ref a0), (1, .int i1)], [])) (aMem Z I, t) (qV Z t r)) : ∀ (a0 : Nat) (ha0 : sh11 kad Z a0) (i1 : Int32) (s0 : Int32) (I : AI) (r : Unit × AI), f224_b36 kad N Z k2 a0 i1 s0 I = some r → aGo kad d 224 (36, ([(0, .ref a0), (1, .int i1)], [.int s0, .ref a0])) (aMem Z I, t) (qV Z t r) := by
  intro a0 ha0 i1 s0 I r h
  unfold f224_b36 at h
  obtain ⟨I36_1, hxI36_1, h⟩ := Option.bind_eq_some_iff.mp h
  refine gg_pB aMi224 rfl rfl rfl rfl (by decide) (pB_of (sh11_z ha0) hxI36_1) ?_
  refine go_ops aMi224 2 _ (f1 := (2, ([(1, .int (i1 + (1 : Int32))), (0, .ref a0)], []))) rfl ?_
  refine go_le (lv1 := [(0, .ref a0), (1, .int (i1 + (1 : Int32)))]) (aLe_of (show (List.map (fun q => q.1) ([(0, .ref a0), (1, .int (i1 + (1 : Int32)))] : ALv)).Nodup from (by show ([0, 1] : List Nat).Nodup; decide)) (aSubL_cons rfl (aSubL_cons rfl aSubL_nil))) ?_
  exact hk2 a0 ha0 (i1 + (1 : Int32)) I36_1 _ h
def f224_b31 (kad : Nat → Nat) (N : Nat) (Z : AZ) (k2 : Nat → Int32 → AI → Option (Unit × AI)) (a0 : Nat) (i1 : Int32) (I : AI) : Option (Unit × AI) :=
  f224_b36 kad N Z k2 a0 i1 (1 : Int32) I
set_option maxRecDepth 20000 in
theorem Tf224_b31 {kad : Nat → Nat} {N : Nat} {Z : AZ} {d : Nat} {t : Option Nat × (Nat × Nat)} (hd : 0 ≤ d) (k2 : Nat → Int32 → AI → Option (Unit × AI))  (hk2 : ∀ (a0 : Nat) (ha0 : sh11 kad Z a0) (i1 : Int32) (I : AI) (r : Unit × AI), k2 a0 i1 I = some r → aGo kad d 224 (2, ([(0, .ref a0), (1, .int i1)], [])) (aMem Z I, t) (qV Z t r)) : ∀ (a0 : Nat) (ha0 : sh11 kad Z a0) (i1 : Int32) (I : AI) (r : Unit × AI), f224_b31 kad N Z k2 a0 i1 I = some r → aGo kad d 224 (31, ([(0, .ref a0), (1, .int i1)], [.ref a0])) (aMem Z I, t) (qV Z t r) := by
  intro a0 ha0 i1 I r h
  unfold f224_b31 at h
  refine go_ops aMi224 2 _ (f1 := (36, ([(0, .ref a0), (1, .int i1)], [.int (1 : Int32), .ref a0]))) rfl ?_
  exact Tf224_b36 hd k2 hk2 a0 ha0 i1 (1 : Int32) I _ h
def f224_b2 (kad : Nat → Nat) (N : Nat) (Z : AZ) : Nat → Nat → Int32 → AI → Option (Unit × AI)
  | 0, _, _, _ => none
  | F + 1, a0, i1, I =>
    if (I a0 43) ≤ i1 then
      some ((), I)
    else
      if ¬ (I a0 33) = 0 then
        f224_b31 kad N Z (fun p0 p1 I => f224_b2 kad N Z F p0 p1 I) a0 i1 I
      else
        (ixA 20 i1).bind fun j23_1 =>
        if ¬ (I (a0 + 18) j23_1) = (I a0 38) then
          f224_b36 kad N Z (fun p0 p1 I => f224_b2 kad N Z F p0 p1 I) a0 i1 (0 : Int32) I
        else
          f224_b31 kad N Z (fun p0 p1 I => f224_b2 kad N Z F p0 p1 I) a0 i1 I
set_option maxRecDepth 20000 in
theorem Tf224_b2 {kad : Nat → Nat} {N : Nat} {Z : AZ} {d : Nat} {t : Option Nat × (Nat × Nat)} (hd : 0 ≤ d) : ∀ (F : Nat) (a0 : Nat) (ha0 : sh11 kad Z a0) (i1 : Int32) (I : AI) (r : Unit × AI), f224_b2 kad N Z F a0 i1 I = some r → aGo kad d 224 (2, ([(0, .ref a0), (1, .int i1)], [])) (aMem Z I, t) (qV Z t r) := by
  intro F
  induction F with
  | zero => intro a0 ha0 i1 I r h; cases h
  | succ F ih =>
    intro a0 ha0 i1 I r h
    unfold f224_b2 at h
    refine go_ops aMi224 2 _ (f1 := (4, ([(0, .ref a0), (1, .int i1)], [.ref a0, .int i1]))) rfl ?_
    refine gg_gI aMi224 rfl rfl rfl (gI_of (sh11_z ha0)) ?_
    refine gg_br (b := decide ((I a0 43) ≤ i1)) (tg := 45) (off := 38) aMi224 rfl rfl rfl rfl (fun hb => ?_) (fun hb => ?_)
    · rw [if_pos (of_decide_eq_true hb)] at h
      cases h
      exact go_ret aMi224 rfl rfl ⟨rfl, rfl⟩
    · rw [if_neg (of_decide_eq_false hb)] at h
      refine go_ops aMi224 2 _ (f1 := (12, ([(0, .ref a0), (1, .int i1)], [.ref a0, .ref a0]))) rfl ?_
      refine gg_gI aMi224 rfl rfl rfl (gI_of (sh11_z ha0)) ?_
      refine gg_br (b := decide (¬ (I a0 33) = 0)) (tg := 31) (off := 16) aMi224 rfl rfl rfl rfl (fun hb => ?_) (fun hb => ?_)
      · rw [if_pos (of_decide_eq_true hb)] at h
        exact Tf224_b31 hd (fun p0 p1 I => f224_b2 kad N Z F p0 p1 I) (fun p0 q0 p1 I r hh => ih p0 q0 p1 I r hh) a0 ha0 i1 I _ h
      · rw [if_neg (of_decide_eq_false hb)] at h
        refine go_ops aMi224 1 _ (f1 := (19, ([(0, .ref a0), (1, .int i1)], [.ref a0, .ref a0]))) rfl ?_
        refine gg_gR (b := (a0 + 18)) aMi224 rfl rfl rfl (gR_of (sh11_z ha0) (sh11_r41 ha0)) ?_
        refine go_ops aMi224 1 _ (f1 := (23, ([(0, .ref a0), (1, .int i1)], [.int i1, .ref (a0 + 18), .ref a0]))) rfl ?_
        obtain ⟨j23_1, hxj23_1, h⟩ := Option.bind_eq_some_iff.mp h
        refine gg_lI (Or.inl ⟨rfl, rfl⟩) aMi224 rfl (lI_of (sh11_a41 ha0) hxj23_1) ?_
        refine go_ops aMi224 1 _ (f1 := (25, ([(0, .ref a0), (1, .int i1)], [.ref a0, .int (I (a0 + 18) j23_1), .ref a0]))) rfl ?_
        refine gg_gI aMi224 rfl rfl rfl (gI_of (sh11_z ha0)) ?_
        refine gg_br (b := decide (¬ (I (a0 + 18) j23_1) = (I a0 38))) (tg := 35) (off := 7) aMi224 rfl rfl rfl rfl (fun hb => ?_) (fun hb => ?_)
        · rw [if_pos (of_decide_eq_true hb)] at h
          refine go_ops aMi224 1 _ (f1 := (36, ([(0, .ref a0), (1, .int i1)], [.int (0 : Int32), .ref a0]))) rfl ?_
          exact Tf224_b36 hd (fun p0 p1 I => f224_b2 kad N Z F p0 p1 I) (fun p0 q0 p1 I r hh => ih p0 q0 p1 I r hh) a0 ha0 i1 (0 : Int32) I _ h
        · rw [if_neg (of_decide_eq_false hb)] at h
          exact Tf224_b31 hd (fun p0 p1 I => f224_b2 kad N Z F p0 p1 I) (fun p0 q0 p1 I r hh => ih p0 q0 p1 I r hh) a0 ha0 i1 I _ h
def f224 (kad : Nat → Nat) (N : Nat) (Z : AZ) (a0 : Nat) (I : AI) : Option (Unit × AI) :=
  f224_b2 kad N Z N a0 (0 : Int32) I
set_option maxRecDepth 20000 in
theorem Tf224 {kad : Nat → Nat} {N : Nat} {Z : AZ} {d : Nat} {t : Option Nat × (Nat × Nat)} (hd : 0 ≤ d) : ∀ (a0 : Nat) (ha0 : sh11 kad Z a0) (I : AI) (r : Unit × AI), f224 kad N Z a0 I = some r → aGo kad d 224 (0, ([(0, .ref a0)], [])) (aMem Z I, t) (qV Z t r) := by
  intro a0 ha0 I r h
  unfold f224 at h
  refine go_ops aMi224 2 _ (f1 := (2, ([(1, .int (0 : Int32)), (0, .ref a0)], []))) rfl ?_
  refine go_le (lv1 := [(0, .ref a0), (1, .int (0 : Int32))]) (aLe_of (show (List.map (fun q => q.1) ([(0, .ref a0), (1, .int (0 : Int32))] : ALv)).Nodup from (by show ([0, 1] : List Nat).Nodup; decide)) (aSubL_cons rfl (aSubL_cons rfl aSubL_nil))) ?_
  exact Tf224_b2 hd N a0 ha0 (0 : Int32) I _ h
-- KernelGymModel.come ()I
def f225_b31 (kad : Nat → Nat) (N : Nat) (Z : AZ) (k4 : Nat → Int32 → Int32 → AI → Option (Int32 × AI)) (a0 : Nat) (i2 : Int32) (s0 : Int32) (s1 : Int32) (I : AI) : Option (Int32 × AI) :=
  k4 a0 (s1 + s0) (i2 + (1 : Int32)) I
set_option maxRecDepth 20000 in
theorem Tf225_b31 {kad : Nat → Nat} {N : Nat} {Z : AZ} {d : Nat} {t : Option Nat × (Nat × Nat)} (hd : 0 ≤ d) (k4 : Nat → Int32 → Int32 → AI → Option (Int32 × AI))  (hk4 : ∀ (a0 : Nat) (ha0 : sh11 kad Z a0) (i1 : Int32) (i2 : Int32) (I : AI) (r : Int32 × AI), k4 a0 i1 i2 I = some r → aGo kad d 225 (4, ([(0, .ref a0), (1, .int i1), (2, .int i2)], [])) (aMem Z I, t) (qI Z t r)) : ∀ (a0 : Nat) (ha0 : sh11 kad Z a0) (i2 : Int32) (s0 : Int32) (s1 : Int32) (I : AI) (r : Int32 × AI), f225_b31 kad N Z k4 a0 i2 s0 s1 I = some r → aGo kad d 225 (31, ([(0, .ref a0), (2, .int i2)], [.int s0, .int s1])) (aMem Z I, t) (qI Z t r) := by
  intro a0 ha0 i2 s0 s1 I r h
  unfold f225_b31 at h
  refine go_ops aMi225 4 _ (f1 := (4, ([(2, .int (i2 + (1 : Int32))), (1, .int (s1 + s0)), (0, .ref a0)], []))) rfl ?_
  refine go_le (lv1 := [(0, .ref a0), (1, .int (s1 + s0)), (2, .int (i2 + (1 : Int32)))]) (aLe_of (show (List.map (fun q => q.1) ([(0, .ref a0), (1, .int (s1 + s0)), (2, .int (i2 + (1 : Int32)))] : ALv)).Nodup from (by show ([0, 1, 2] : List Nat).Nodup; decide)) (aSubL_cons rfl (aSubL_cons rfl (aSubL_cons rfl aSubL_nil)))) ?_
  exact hk4 a0 ha0 (s1 + s0) (i2 + (1 : Int32)) I _ h
def f225_b4 (kad : Nat → Nat) (N : Nat) (Z : AZ) : Nat → Nat → Int32 → Int32 → AI → Option (Int32 × AI)
  | 0, _, _, _, _ => none
  | F + 1, a0, i1, i2, I =>
    if (I a0 43) ≤ i2 then
      some (i1, I)
    else
      (ixA 20 i2).bind fun j18_1 =>
      if (I a0 38) < (I (a0 + 18) j18_1) then
        f225_b31 kad N Z (fun p0 p1 p2 I => f225_b4 kad N Z F p0 p1 p2 I) a0 i2 (0 : Int32) i1 I
      else
        f225_b31 kad N Z (fun p0 p1 p2 I => f225_b4 kad N Z F p0 p1 p2 I) a0 i2 (1 : Int32) i1 I
set_option maxRecDepth 20000 in
theorem Tf225_b4 {kad : Nat → Nat} {N : Nat} {Z : AZ} {d : Nat} {t : Option Nat × (Nat × Nat)} (hd : 0 ≤ d) : ∀ (F : Nat) (a0 : Nat) (ha0 : sh11 kad Z a0) (i1 : Int32) (i2 : Int32) (I : AI) (r : Int32 × AI), f225_b4 kad N Z F a0 i1 i2 I = some r → aGo kad d 225 (4, ([(0, .ref a0), (1, .int i1), (2, .int i2)], [])) (aMem Z I, t) (qI Z t r) := by
  intro F
  induction F with
  | zero => intro a0 ha0 i1 i2 I r h; cases h
  | succ F ih =>
    intro a0 ha0 i1 i2 I r h
    unfold f225_b4 at h
    refine go_ops aMi225 2 _ (f1 := (6, ([(0, .ref a0), (1, .int i1), (2, .int i2)], [.ref a0, .int i2]))) rfl ?_
    refine gg_gI aMi225 rfl rfl rfl (gI_of (sh11_z ha0)) ?_
    refine gg_br (b := decide ((I a0 43) ≤ i2)) (tg := 39) (off := 30) aMi225 rfl rfl rfl rfl (fun hb => ?_) (fun hb => ?_)
    · rw [if_pos (of_decide_eq_true hb)] at h
      refine go_ops aMi225 1 _ (f1 := (40, ([(0, .ref a0), (1, .int i1), (2, .int i2)], [.int i1]))) rfl ?_
      cases h
      exact go_ret aMi225 rfl aRetI ⟨rfl, rfl⟩
    · rw [if_neg (of_decide_eq_false hb)] at h
      refine go_ops aMi225 2 _ (f1 := (14, ([(0, .ref a0), (1, .int i1), (2, .int i2)], [.ref a0, .int i1]))) rfl ?_
      refine gg_gR (b := (a0 + 18)) aMi225 rfl rfl rfl (gR_of (sh11_z ha0) (sh11_r41 ha0)) ?_
      refine go_ops aMi225 1 _ (f1 := (18, ([(0, .ref a0), (1, .int i1), (2, .int i2)], [.int i2, .ref (a0 + 18), .int i1]))) rfl ?_
      obtain ⟨j18_1, hxj18_1, h⟩ := Option.bind_eq_some_iff.mp h
      refine gg_lI (Or.inl ⟨rfl, rfl⟩) aMi225 rfl (lI_of (sh11_a41 ha0) hxj18_1) ?_
      refine go_ops aMi225 1 _ (f1 := (20, ([(0, .ref a0), (1, .int i1), (2, .int i2)], [.ref a0, .int (I (a0 + 18) j18_1), .int i1]))) rfl ?_
      refine gg_gI aMi225 rfl rfl rfl (gI_of (sh11_z ha0)) ?_
      refine gg_br (b := decide ((I a0 38) < (I (a0 + 18) j18_1))) (tg := 30) (off := 7) aMi225 rfl rfl rfl rfl (fun hb => ?_) (fun hb => ?_)
      · rw [if_pos (of_decide_eq_true hb)] at h
        refine go_ops aMi225 1 _ (f1 := (31, ([(0, .ref a0), (1, .int i1), (2, .int i2)], [.int (0 : Int32), .int i1]))) rfl ?_
        refine go_le (lv1 := [(0, .ref a0), (2, .int i2)]) (aLe_of (show (List.map (fun q => q.1) ([(0, .ref a0), (2, .int i2)] : ALv)).Nodup from (by show ([0, 2] : List Nat).Nodup; decide)) (aSubL_cons rfl (aSubL_cons rfl aSubL_nil))) ?_
        exact Tf225_b31 hd (fun p0 p1 p2 I => f225_b4 kad N Z F p0 p1 p2 I) (fun p0 q0 p1 p2 I r hh => ih p0 q0 p1 p2 I r hh) a0 ha0 i2 (0 : Int32) i1 I _ h
      · rw [if_neg (of_decide_eq_false hb)] at h
        refine go_ops aMi225 2 _ (f1 := (31, ([(0, .ref a0), (1, .int i1), (2, .int i2)], [.int (1 : Int32), .int i1]))) rfl ?_
        refine go_le (lv1 := [(0, .ref a0), (2, .int i2)]) (aLe_of (show (List.map (fun q => q.1) ([(0, .ref a0), (2, .int i2)] : ALv)).Nodup from (by show ([0, 2] : List Nat).Nodup; decide)) (aSubL_cons rfl (aSubL_cons rfl aSubL_nil))) ?_
        exact Tf225_b31 hd (fun p0 p1 p2 I => f225_b4 kad N Z F p0 p1 p2 I) (fun p0 q0 p1 p2 I r hh => ih p0 q0 p1 p2 I r hh) a0 ha0 i2 (1 : Int32) i1 I _ h
def f225 (kad : Nat → Nat) (N : Nat) (Z : AZ) (a0 : Nat) (I : AI) : Option (Int32 × AI) :=
  f225_b4 kad N Z N a0 (0 : Int32) (0 : Int32) I
set_option maxRecDepth 20000 in
theorem Tf225 {kad : Nat → Nat} {N : Nat} {Z : AZ} {d : Nat} {t : Option Nat × (Nat × Nat)} (hd : 0 ≤ d) : ∀ (a0 : Nat) (ha0 : sh11 kad Z a0) (I : AI) (r : Int32 × AI), f225 kad N Z a0 I = some r → aGo kad d 225 (0, ([(0, .ref a0)], [])) (aMem Z I, t) (qI Z t r) := by
  intro a0 ha0 I r h
  unfold f225 at h
  refine go_ops aMi225 4 _ (f1 := (4, ([(2, .int (0 : Int32)), (1, .int (0 : Int32)), (0, .ref a0)], []))) rfl ?_
  refine go_le (lv1 := [(0, .ref a0), (1, .int (0 : Int32)), (2, .int (0 : Int32))]) (aLe_of (show (List.map (fun q => q.1) ([(0, .ref a0), (1, .int (0 : Int32)), (2, .int (0 : Int32))] : ALv)).Nodup from (by show ([0, 1, 2] : List Nat).Nodup; decide)) (aSubL_cons rfl (aSubL_cons rfl (aSubL_cons rfl aSubL_nil)))) ?_
  exact Tf225_b4 hd N a0 ha0 (0 : Int32) (0 : Int32) I _ h
-- KernelGymModel.interrupts ()V
def f226_b88 (kad : Nat → Nat) (N : Nat) (Z : AZ) (a0 : Nat) (i1 : Int32) (s0 : Int32) (s1 : Int32) (I : AI) : Option (Unit × AI) :=
  (f219 kad N Z a0 (s1 + s0) I).bind fun r89_1 =>
  (wI r89_1.2 a0 31 (0 : Int32)).bind fun I94_2 =>
  (ixA 256 i1).bind fun j103_3 =>
  (wI I94_2 a0 27 (I94_2 (a0 + 15) j103_3)).bind fun I104_4 =>
  some ((), I104_4)
set_option maxRecDepth 20000 in
theorem Tf226_b88 {kad : Nat → Nat} {N : Nat} {Z : AZ} {d : Nat} {t : Option Nat × (Nat × Nat)} (hd : 3 ≤ d) : ∀ (a0 : Nat) (ha0 : sh11 kad Z a0) (i1 : Int32) (s0 : Int32) (s1 : Int32) (I : AI) (r : Unit × AI), f226_b88 kad N Z a0 i1 s0 s1 I = some r → aGo kad d 226 (88, ([(0, .ref a0), (1, .int i1)], [.int s0, .int s1, .ref a0])) (aMem Z I, t) (qV Z t r) := by
  intro a0 ha0 i1 s0 s1 I r h
  unfold f226_b88 at h
  refine go_ops aMi226 1 _ (f1 := (89, ([(0, .ref a0), (1, .int i1)], [.int (s1 + s0), .ref a0]))) rfl ?_
  obtain ⟨r89_1, hxr89_1, h⟩ := Option.bind_eq_some_iff.mp h
  refine gg_cv (as := [.int (s1 + s0)]) (r := []) aMi226 rfl rfl rfl aMi219 (Nat.le_of_ble_eq_true rfl) rfl (Nat.le_of_ble_eq_true rfl) (Nat.le_of_ble_eq_true rfl) (by omega) (isK_of (sh11_z ha0)) (Tf219 (by omega) a0 ha0 (s1 + s0) I _ hxr89_1) ?_
  show aGo kad d 226 (92, ([(0, .ref a0), (1, .int i1)], [])) (aMem Z r89_1.2, t) _
  refine go_ops aMi226 2 _ (f1 := (94, ([(0, .ref a0), (1, .int i1)], [.int (0 : Int32), .ref a0]))) rfl ?_
  obtain ⟨I94_2, hxI94_2, h⟩ := Option.bind_eq_some_iff.mp h
  refine gg_pB aMi226 rfl rfl rfl rfl (by decide) (pB_lit (sh11_z ha0) (Or.inl rfl) hxI94_2) ?_
  refine go_ops aMi226 2 _ (f1 := (99, ([(0, .ref a0), (1, .int i1)], [.ref a0, .ref a0]))) rfl ?_
  refine gg_gR (b := (a0 + 15)) aMi226 rfl rfl rfl (gR_of (sh11_z ha0) (sh11_r25 ha0)) ?_
  refine go_ops aMi226 1 _ (f1 := (103, ([(0, .ref a0), (1, .int i1)], [.int i1, .ref (a0 + 15), .ref a0]))) rfl ?_
  obtain ⟨j103_3, hxj103_3, h⟩ := Option.bind_eq_some_iff.mp h
  refine gg_lI (Or.inl ⟨rfl, rfl⟩) aMi226 rfl (lI_of (sh11_a25 ha0) hxj103_3) ?_
  obtain ⟨I104_4, hxI104_4, h⟩ := Option.bind_eq_some_iff.mp h
  refine gg_pI aMi226 rfl rfl rfl rfl (by decide) (pI_of (sh11_z ha0) hxI104_4) ?_
  cases h
  exact go_ret aMi226 rfl rfl ⟨rfl, rfl⟩
def f226_b76 (kad : Nat → Nat) (N : Nat) (Z : AZ) (a0 : Nat) (i1 : Int32) (s0 : Int32) (I : AI) : Option (Unit × AI) :=
  if (I a0 30) = 0 then
    f226_b88 kad N Z a0 i1 (0 : Int32) s0 I
  else
    f226_b88 kad N Z a0 i1 (2 : Int32) s0 I
set_option maxRecDepth 20000 in
theorem Tf226_b76 {kad : Nat → Nat} {N : Nat} {Z : AZ} {d : Nat} {t : Option Nat × (Nat × Nat)} (hd : 3 ≤ d) : ∀ (a0 : Nat) (ha0 : sh11 kad Z a0) (i1 : Int32) (s0 : Int32) (I : AI) (r : Unit × AI), f226_b76 kad N Z a0 i1 s0 I = some r → aGo kad d 226 (76, ([(0, .ref a0), (1, .int i1)], [.int s0, .ref a0])) (aMem Z I, t) (qV Z t r) := by
  intro a0 ha0 i1 s0 I r h
  unfold f226_b76 at h
  refine go_ops aMi226 1 _ (f1 := (77, ([(0, .ref a0), (1, .int i1)], [.ref a0, .int s0, .ref a0]))) rfl ?_
  refine gg_gI aMi226 rfl rfl rfl (gI_of (sh11_z ha0)) ?_
  refine gg_br (b := decide ((I a0 30) = 0)) (tg := 87) (off := 7) aMi226 rfl rfl rfl rfl (fun hb => ?_) (fun hb => ?_)
  · rw [if_pos (of_decide_eq_true hb)] at h
    refine go_ops aMi226 1 _ (f1 := (88, ([(0, .ref a0), (1, .int i1)], [.int (0 : Int32), .int s0, .ref a0]))) rfl ?_
    exact Tf226_b88 hd a0 ha0 i1 (0 : Int32) s0 I _ h
  · rw [if_neg (of_decide_eq_false hb)] at h
    refine go_ops aMi226 2 _ (f1 := (88, ([(0, .ref a0), (1, .int i1)], [.int (2 : Int32), .int s0, .ref a0]))) rfl ?_
    exact Tf226_b88 hd a0 ha0 i1 (2 : Int32) s0 I _ h
def f226_b47 (kad : Nat → Nat) (N : Nat) (Z : AZ) (a0 : Nat) (i1 : Int32) (s0 : Int32) (I : AI) : Option (Unit × AI) :=
  (wB I a0 33 s0).bind fun I47_1 =>
  (wI I47_1 a0 32 (0 : Int32)).bind fun I52_2 =>
  (f219 kad N Z a0 (I52_2 a0 27) I52_2).bind fun r60_3 =>
  if ((r60_3.2) a0 29) = 0 then
    f226_b76 kad N Z a0 i1 (0 : Int32) r60_3.2
  else
    f226_b76 kad N Z a0 i1 (1 : Int32) r60_3.2
set_option maxRecDepth 20000 in
theorem Tf226_b47 {kad : Nat → Nat} {N : Nat} {Z : AZ} {d : Nat} {t : Option Nat × (Nat × Nat)} (hd : 3 ≤ d) : ∀ (a0 : Nat) (ha0 : sh11 kad Z a0) (i1 : Int32) (s0 : Int32) (I : AI) (r : Unit × AI), f226_b47 kad N Z a0 i1 s0 I = some r → aGo kad d 226 (47, ([(0, .ref a0), (1, .int i1)], [.int s0, .ref a0])) (aMem Z I, t) (qV Z t r) := by
  intro a0 ha0 i1 s0 I r h
  unfold f226_b47 at h
  obtain ⟨I47_1, hxI47_1, h⟩ := Option.bind_eq_some_iff.mp h
  refine gg_pB aMi226 rfl rfl rfl rfl (by decide) (pB_of (sh11_z ha0) hxI47_1) ?_
  refine go_ops aMi226 2 _ (f1 := (52, ([(0, .ref a0), (1, .int i1)], [.int (0 : Int32), .ref a0]))) rfl ?_
  obtain ⟨I52_2, hxI52_2, h⟩ := Option.bind_eq_some_iff.mp h
  refine gg_pB aMi226 rfl rfl rfl rfl (by decide) (pB_lit (sh11_z ha0) (Or.inl rfl) hxI52_2) ?_
  refine go_ops aMi226 2 _ (f1 := (57, ([(0, .ref a0), (1, .int i1)], [.ref a0, .ref a0]))) rfl ?_
  refine gg_gI aMi226 rfl rfl rfl (gI_of (sh11_z ha0)) ?_
  obtain ⟨r60_3, hxr60_3, h⟩ := Option.bind_eq_some_iff.mp h
  refine gg_cv (as := [.int (I52_2 a0 27)]) (r := []) aMi226 rfl rfl rfl aMi219 (Nat.le_of_ble_eq_true rfl) rfl (Nat.le_of_ble_eq_true rfl) (Nat.le_of_ble_eq_true rfl) (by omega) (isK_of (sh11_z ha0)) (Tf219 (by omega) a0 ha0 (I52_2 a0 27) I52_2 _ hxr60_3) ?_
  show aGo kad d 226 (63, ([(0, .ref a0), (1, .int i1)], [])) (aMem Z r60_3.2, t) _
  refine go_ops aMi226 2 _ (f1 := (65, ([(0, .ref a0), (1, .int i1)], [.ref a0, .ref a0]))) rfl ?_
  refine gg_gI aMi226 rfl rfl rfl (gI_of (sh11_z ha0)) ?_
  refine gg_br (b := decide (((r60_3.2) a0 29) = 0)) (tg := 75) (off := 7) aMi226 rfl rfl rfl rfl (fun hb => ?_) (fun hb => ?_)
  · rw [if_pos (of_decide_eq_true hb)] at h
    refine go_ops aMi226 1 _ (f1 := (76, ([(0, .ref a0), (1, .int i1)], [.int (0 : Int32), .ref a0]))) rfl ?_
    exact Tf226_b76 hd a0 ha0 i1 (0 : Int32) r60_3.2 _ h
  · rw [if_neg (of_decide_eq_false hb)] at h
    refine go_ops aMi226 2 _ (f1 := (76, ([(0, .ref a0), (1, .int i1)], [.int (1 : Int32), .ref a0]))) rfl ?_
    exact Tf226_b76 hd a0 ha0 i1 (1 : Int32) r60_3.2 _ h
def f226_b46 (kad : Nat → Nat) (N : Nat) (Z : AZ) (a0 : Nat) (i1 : Int32) (I : AI) : Option (Unit × AI) :=
  f226_b47 kad N Z a0 i1 (0 : Int32) I
set_option maxRecDepth 20000 in
theorem Tf226_b46 {kad : Nat → Nat} {N : Nat} {Z : AZ} {d : Nat} {t : Option Nat × (Nat × Nat)} (hd : 3 ≤ d) : ∀ (a0 : Nat) (ha0 : sh11 kad Z a0) (i1 : Int32) (I : AI) (r : Unit × AI), f226_b46 kad N Z a0 i1 I = some r → aGo kad d 226 (46, ([(0, .ref a0), (1, .int i1)], [.ref a0])) (aMem Z I, t) (qV Z t r) := by
  intro a0 ha0 i1 I r h
  unfold f226_b46 at h
  refine go_ops aMi226 1 _ (f1 := (47, ([(0, .ref a0), (1, .int i1)], [.int (0 : Int32), .ref a0]))) rfl ?_
  exact Tf226_b47 hd a0 ha0 i1 (0 : Int32) I _ h
def f226_b26 (kad : Nat → Nat) (N : Nat) (Z : AZ) (a0 : Nat) (s0 : Int32) (I : AI) : Option (Unit × AI) :=
  if (I a0 32) = 0 then
    f226_b46 kad N Z a0 s0 I
  else
    if (I a0 33) = 0 then
      f226_b46 kad N Z a0 s0 I
    else
      f226_b47 kad N Z a0 s0 (1 : Int32) I
set_option maxRecDepth 20000 in
theorem Tf226_b26 {kad : Nat → Nat} {N : Nat} {Z : AZ} {d : Nat} {t : Option Nat × (Nat × Nat)} (hd : 3 ≤ d) : ∀ (a0 : Nat) (ha0 : sh11 kad Z a0) (s0 : Int32) (I : AI) (r : Unit × AI), f226_b26 kad N Z a0 s0 I = some r → aGo kad d 226 (26, ([(0, .ref a0)], [.int s0])) (aMem Z I, t) (qV Z t r) := by
  intro a0 ha0 s0 I r h
  unfold f226_b26 at h
  refine go_ops aMi226 3 _ (f1 := (29, ([(1, .int s0), (0, .ref a0)], [.ref a0, .ref a0]))) rfl ?_
  refine gg_gI aMi226 rfl rfl rfl (gI_of (sh11_z ha0)) ?_
  refine gg_br (b := decide ((I a0 32) = 0)) (tg := 46) (off := 14) aMi226 rfl rfl rfl rfl (fun hb => ?_) (fun hb => ?_)
  · rw [if_pos (of_decide_eq_true hb)] at h
    refine go_le (lv1 := [(0, .ref a0), (1, .int s0)]) (aLe_of (show (List.map (fun q => q.1) ([(0, .ref a0), (1, .int s0)] : ALv)).Nodup from (by show ([0, 1] : List Nat).Nodup; decide)) (aSubL_cons rfl (aSubL_cons rfl aSubL_nil))) ?_
    exact Tf226_b46 hd a0 ha0 s0 I _ h
  · rw [if_neg (of_decide_eq_false hb)] at h
    refine go_ops aMi226 1 _ (f1 := (36, ([(1, .int s0), (0, .ref a0)], [.ref a0, .ref a0]))) rfl ?_
    refine gg_gI aMi226 rfl rfl rfl (gI_of (sh11_z ha0)) ?_
    refine gg_br (b := decide ((I a0 33) = 0)) (tg := 46) (off := 7) aMi226 rfl rfl rfl rfl (fun hb => ?_) (fun hb => ?_)
    · rw [if_pos (of_decide_eq_true hb)] at h
      refine go_le (lv1 := [(0, .ref a0), (1, .int s0)]) (aLe_of (show (List.map (fun q => q.1) ([(0, .ref a0), (1, .int s0)] : ALv)).Nodup from (by show ([0, 1] : List Nat).Nodup; decide)) (aSubL_cons rfl (aSubL_cons rfl aSubL_nil))) ?_
      exact Tf226_b46 hd a0 ha0 s0 I _ h
    · rw [if_neg (of_decide_eq_false hb)] at h
      refine go_ops aMi226 2 _ (f1 := (47, ([(1, .int s0), (0, .ref a0)], [.int (1 : Int32), .ref a0]))) rfl ?_
      refine go_le (lv1 := [(0, .ref a0), (1, .int s0)]) (aLe_of (show (List.map (fun q => q.1) ([(0, .ref a0), (1, .int s0)] : ALv)).Nodup from (by show ([0, 1] : List Nat).Nodup; decide)) (aSubL_cons rfl (aSubL_cons rfl aSubL_nil))) ?_
      exact Tf226_b47 hd a0 ha0 s0 (1 : Int32) I _ h
def f226 (kad : Nat → Nat) (N : Nat) (Z : AZ) (a0 : Nat) (I : AI) : Option (Unit × AI) :=
  if (2 : Int32) ≤ (I a0 28) then
    if (I a0 32) = 0 then
      f226_b26 kad N Z a0 (1 : Int32) I
    else
      f226_b26 kad N Z a0 (0 : Int32) I
  else
    (f221 kad N Z a0 (3 : Int32) I).bind fun r10_1 =>
    some ((), r10_1.2)
set_option maxRecDepth 20000 in
theorem Tf226 {kad : Nat → Nat} {N : Nat} {Z : AZ} {d : Nat} {t : Option Nat × (Nat × Nat)} (hd : 3 ≤ d) : ∀ (a0 : Nat) (ha0 : sh11 kad Z a0) (I : AI) (r : Unit × AI), f226 kad N Z a0 I = some r → aGo kad d 226 (0, ([(0, .ref a0)], [])) (aMem Z I, t) (qV Z t r) := by
  intro a0 ha0 I r h
  unfold f226 at h
  refine go_ops aMi226 1 _ (f1 := (1, ([(0, .ref a0)], [.ref a0]))) rfl ?_
  refine gg_gI aMi226 rfl rfl rfl (gI_of (sh11_z ha0)) ?_
  refine go_ops aMi226 1 _ (f1 := (5, ([(0, .ref a0)], [.int (2 : Int32), .int (I a0 28)]))) rfl ?_
  refine gg_br (b := decide ((2 : Int32) ≤ (I a0 28))) (tg := 14) (off := 9) aMi226 rfl rfl rfl rfl (fun hb => ?_) (fun hb => ?_)
  · rw [if_pos (of_decide_eq_true hb)] at h
    refine go_ops aMi226 1 _ (f1 := (15, ([(0, .ref a0)], [.ref a0]))) rfl ?_
    refine gg_gI aMi226 rfl rfl rfl (gI_of (sh11_z ha0)) ?_
    refine gg_br (b := decide ((I a0 32) = 0)) (tg := 25) (off := 7) aMi226 rfl rfl rfl rfl (fun hb => ?_) (fun hb => ?_)
    · rw [if_pos (of_decide_eq_true hb)] at h
      refine go_ops aMi226 1 _ (f1 := (26, ([(0, .ref a0)], [.int (1 : Int32)]))) rfl ?_
      exact Tf226_b26 hd a0 ha0 (1 : Int32) I _ h
    · rw [if_neg (of_decide_eq_false hb)] at h
      refine go_ops aMi226 2 _ (f1 := (26, ([(0, .ref a0)], [.int (0 : Int32)]))) rfl ?_
      exact Tf226_b26 hd a0 ha0 (0 : Int32) I _ h
  · rw [if_neg (of_decide_eq_false hb)] at h
    refine go_ops aMi226 2 _ (f1 := (10, ([(0, .ref a0)], [.int (3 : Int32), .ref a0]))) rfl ?_
    obtain ⟨r10_1, hxr10_1, h⟩ := Option.bind_eq_some_iff.mp h
    refine gg_cv (as := [.int (3 : Int32)]) (r := []) aMi226 rfl rfl rfl aMi221 (Nat.le_of_ble_eq_true rfl) rfl (Nat.le_of_ble_eq_true rfl) (Nat.le_of_ble_eq_true rfl) (by omega) (isK_of (sh11_z ha0)) (Tf221 (by omega) a0 ha0 (3 : Int32) I _ hxr10_1) ?_
    show aGo kad d 226 (13, ([(0, .ref a0)], [])) (aMem Z r10_1.2, t) _
    cases h
    exact go_ret aMi226 rfl rfl ⟨rfl, rfl⟩
-- KernelGymModel.faultOf (II)I
def f227_b99 (kad : Nat → Nat) (N : Nat) (Z : AZ) (a0 : Nat) (I : AI) : Option (Int32 × AI) :=
  some ((3 : Int32), I)
set_option maxRecDepth 20000 in
theorem Tf227_b99 {kad : Nat → Nat} {N : Nat} {Z : AZ} {d : Nat} {t : Option Nat × (Nat × Nat)} (hd : 0 ≤ d) : ∀ (a0 : Nat) (ha0 : sh11 kad Z a0) (I : AI) (r : Int32 × AI), f227_b99 kad N Z a0 I = some r → aGo kad d 227 (99, ([], [])) (aMem Z I, t) (qI Z t r) := by
  intro a0 ha0 I r h
  unfold f227_b99 at h
  refine go_ops aMi227 1 _ (f1 := (100, ([], [.int (3 : Int32)]))) rfl ?_
  cases h
  exact go_ret aMi227 rfl aRetI ⟨rfl, rfl⟩
def f227_b121 (kad : Nat → Nat) (N : Nat) (Z : AZ) (a0 : Nat) (s0 : Int32) (I : AI) : Option (Int32 × AI) :=
  some (s0, I)
set_option maxRecDepth 20000 in
theorem Tf227_b121 {kad : Nat → Nat} {N : Nat} {Z : AZ} {d : Nat} {t : Option Nat × (Nat × Nat)} (hd : 0 ≤ d) : ∀ (a0 : Nat) (ha0 : sh11 kad Z a0) (s0 : Int32) (I : AI) (r : Int32 × AI), f227_b121 kad N Z a0 s0 I = some r → aGo kad d 227 (121, ([], [.int s0])) (aMem Z I, t) (qI Z t r) := by
  intro a0 ha0 s0 I r h
  unfold f227_b121 at h
  cases h
  exact go_ret aMi227 rfl aRetI ⟨rfl, rfl⟩
def f227_b120 (kad : Nat → Nat) (N : Nat) (Z : AZ) (a0 : Nat) (I : AI) : Option (Int32 × AI) :=
  f227_b121 kad N Z a0 (0 : Int32) I
set_option maxRecDepth 20000 in
theorem Tf227_b120 {kad : Nat → Nat} {N : Nat} {Z : AZ} {d : Nat} {t : Option Nat × (Nat × Nat)} (hd : 0 ≤ d) : ∀ (a0 : Nat) (ha0 : sh11 kad Z a0) (I : AI) (r : Int32 × AI), f227_b120 kad N Z a0 I = some r → aGo kad d 227 (120, ([], [])) (aMem Z I, t) (qI Z t r) := by
  intro a0 ha0 I r h
  unfold f227_b120 at h
  refine go_ops aMi227 1 _ (f1 := (121, ([], [.int (0 : Int32)]))) rfl ?_
  exact Tf227_b121 hd a0 ha0 (0 : Int32) I _ h
def f227_b86 (kad : Nat → Nat) (N : Nat) (Z : AZ) (a0 : Nat) (i1 : Int32) (i4 : Int32) (I : AI) : Option (Int32 × AI) :=
  if ((I a0 28) + i4) ≤ (256 : Int32) then
    if ¬ i1 = (25 : Int32) then
      f227_b120 kad N Z a0 I
    else
      if ¬ (I a0 37) = (60 : Int32) then
        f227_b120 kad N Z a0 I
      else
        f227_b121 kad N Z a0 (4 : Int32) I
  else
    f227_b99 kad N Z a0 I
set_option maxRecDepth 20000 in
theorem Tf227_b86 {kad : Nat → Nat} {N : Nat} {Z : AZ} {d : Nat} {t : Option Nat × (Nat × Nat)} (hd : 0 ≤ d) : ∀ (a0 : Nat) (ha0 : sh11 kad Z a0) (i1 : Int32) (i4 : Int32) (I : AI) (r : Int32 × AI), f227_b86 kad N Z a0 i1 i4 I = some r → aGo kad d 227 (86, ([(0, .ref a0), (1, .int i1), (4, .int i4)], [])) (aMem Z I, t) (qI Z t r) := by
  intro a0 ha0 i1 i4 I r h
  unfold f227_b86 at h
  refine go_ops aMi227 1 _ (f1 := (87, ([(0, .ref a0), (1, .int i1), (4, .int i4)], [.ref a0]))) rfl ?_
  refine gg_gI aMi227 rfl rfl rfl (gI_of (sh11_z ha0)) ?_
  refine go_ops aMi227 3 _ (f1 := (96, ([(0, .ref a0), (1, .int i1), (4, .int i4)], [.int (256 : Int32), .int ((I a0 28) + i4)]))) rfl ?_
  refine gg_br (b := decide (((I a0 28) + i4) ≤ (256 : Int32))) (tg := 101) (off := 5) aMi227 rfl rfl rfl rfl (fun hb => ?_) (fun hb => ?_)
  · rw [if_pos (of_decide_eq_true hb)] at h
    refine go_ops aMi227 2 _ (f1 := (104, ([(0, .ref a0), (1, .int i1), (4, .int i4)], [.int (25 : Int32), .int i1]))) rfl ?_
    refine gg_br (b := decide (¬ i1 = (25 : Int32))) (tg := 120) (off := 16) aMi227 rfl rfl rfl rfl (fun hb => ?_) (fun hb => ?_)
    · rw [if_pos (of_decide_eq_true hb)] at h
      refine go_le (lv1 := []) (aLe_of (show (List.map (fun q => q.1) ([] : ALv)).Nodup from (by show ([] : List Nat).Nodup; decide)) aSubL_nil) ?_
      exact Tf227_b120 hd a0 ha0 I _ h
    · rw [if_neg (of_decide_eq_false hb)] at h
      refine go_ops aMi227 1 _ (f1 := (108, ([(0, .ref a0), (1, .int i1), (4, .int i4)], [.ref a0]))) rfl ?_
      refine gg_gI aMi227 rfl rfl rfl (gI_of (sh11_z ha0)) ?_
      refine go_ops aMi227 1 _ (f1 := (113, ([(0, .ref a0), (1, .int i1), (4, .int i4)], [.int (60 : Int32), .int (I a0 37)]))) rfl ?_
      refine gg_br (b := decide (¬ (I a0 37) = (60 : Int32))) (tg := 120) (off := 7) aMi227 rfl rfl rfl rfl (fun hb => ?_) (fun hb => ?_)
      · rw [if_pos (of_decide_eq_true hb)] at h
        refine go_le (lv1 := []) (aLe_of (show (List.map (fun q => q.1) ([] : ALv)).Nodup from (by show ([] : List Nat).Nodup; decide)) aSubL_nil) ?_
        exact Tf227_b120 hd a0 ha0 I _ h
      · rw [if_neg (of_decide_eq_false hb)] at h
        refine go_ops aMi227 2 _ (f1 := (121, ([(0, .ref a0), (1, .int i1), (4, .int i4)], [.int (4 : Int32)]))) rfl ?_
        refine go_le (lv1 := []) (aLe_of (show (List.map (fun q => q.1) ([] : ALv)).Nodup from (by show ([] : List Nat).Nodup; decide)) aSubL_nil) ?_
        exact Tf227_b121 hd a0 ha0 (4 : Int32) I _ h
  · rw [if_neg (of_decide_eq_false hb)] at h
    refine go_le (lv1 := []) (aLe_of (show (List.map (fun q => q.1) ([] : ALv)).Nodup from (by show ([] : List Nat).Nodup; decide)) aSubL_nil) ?_
    exact Tf227_b99 hd a0 ha0 I _ h
def f227_b72 (kad : Nat → Nat) (N : Nat) (Z : AZ) (a0 : Nat) (i1 : Int32) (i3 : Int32) (s0 : Int32) (I : AI) : Option (Int32 × AI) :=
  if i3 = 0 then
    f227_b86 kad N Z a0 i1 s0 I
  else
    if (I a0 28) < (1 : Int32) then
      f227_b99 kad N Z a0 I
    else
      f227_b86 kad N Z a0 i1 s0 I
set_option maxRecDepth 20000 in
theorem Tf227_b72 {kad : Nat → Nat} {N : Nat} {Z : AZ} {d : Nat} {t : Option Nat × (Nat × Nat)} (hd : 0 ≤ d) : ∀ (a0 : Nat) (ha0 : sh11 kad Z a0) (i1 : Int32) (i3 : Int32) (s0 : Int32) (I : AI) (r : Int32 × AI), f227_b72 kad N Z a0 i1 i3 s0 I = some r → aGo kad d 227 (72, ([(0, .ref a0), (1, .int i1), (3, .int i3)], [.int s0])) (aMem Z I, t) (qI Z t r) := by
  intro a0 ha0 i1 i3 s0 I r h
  unfold f227_b72 at h
  refine go_ops aMi227 2 _ (f1 := (75, ([(4, .int s0), (0, .ref a0), (1, .int i1), (3, .int i3)], [.int i3]))) rfl ?_
  refine gg_br (b := decide (i3 = 0)) (tg := 86) (off := 11) aMi227 rfl rfl rfl rfl (fun hb => ?_) (fun hb => ?_)
  · rw [if_pos (of_decide_eq_true hb)] at h
    refine go_le (lv1 := [(0, .ref a0), (1, .int i1), (4, .int s0)]) (aLe_of (show (List.map (fun q => q.1) ([(0, .ref a0), (1, .int i1), (4, .int s0)] : ALv)).Nodup from (by show ([0, 1, 4] : List Nat).Nodup; decide)) (aSubL_cons rfl (aSubL_cons rfl (aSubL_cons rfl aSubL_nil)))) ?_
    exact Tf227_b86 hd a0 ha0 i1 s0 I _ h
  · rw [if_neg (of_decide_eq_false hb)] at h
    refine go_ops aMi227 1 _ (f1 := (79, ([(4, .int s0), (0, .ref a0), (1, .int i1), (3, .int i3)], [.ref a0]))) rfl ?_
    refine gg_gI aMi227 rfl rfl rfl (gI_of (sh11_z ha0)) ?_
    refine go_ops aMi227 1 _ (f1 := (83, ([(4, .int s0), (0, .ref a0), (1, .int i1), (3, .int i3)], [.int (1 : Int32), .int (I a0 28)]))) rfl ?_
    refine gg_br (b := decide ((I a0 28) < (1 : Int32))) (tg := 99) (off := 16) aMi227 rfl rfl rfl rfl (fun hb => ?_) (fun hb => ?_)
    · rw [if_pos (of_decide_eq_true hb)] at h
      refine go_le (lv1 := []) (aLe_of (show (List.map (fun q => q.1) ([] : ALv)).Nodup from (by show ([] : List Nat).Nodup; decide)) aSubL_nil) ?_
      exact Tf227_b99 hd a0 ha0 I _ h
    · rw [if_neg (of_decide_eq_false hb)] at h
      refine go_le (lv1 := [(0, .ref a0), (1, .int i1), (4, .int s0)]) (aLe_of (show (List.map (fun q => q.1) ([(0, .ref a0), (1, .int i1), (4, .int s0)] : ALv)).Nodup from (by show ([0, 1, 4] : List Nat).Nodup; decide)) (aSubL_cons rfl (aSubL_cons rfl (aSubL_cons rfl aSubL_nil)))) ?_
      exact Tf227_b86 hd a0 ha0 i1 s0 I _ h
def f227_b57 (kad : Nat → Nat) (N : Nat) (Z : AZ) (a0 : Nat) (i1 : Int32) (i3 : Int32) (I : AI) : Option (Int32 × AI) :=
  f227_b72 kad N Z a0 i1 i3 (1 : Int32) I
set_option maxRecDepth 20000 in
theorem Tf227_b57 {kad : Nat → Nat} {N : Nat} {Z : AZ} {d : Nat} {t : Option Nat × (Nat × Nat)} (hd : 0 ≤ d) : ∀ (a0 : Nat) (ha0 : sh11 kad Z a0) (i1 : Int32) (i3 : Int32) (I : AI) (r : Int32 × AI), f227_b57 kad N Z a0 i1 i3 I = some r → aGo kad d 227 (57, ([(0, .ref a0), (1, .int i1), (3, .int i3)], [])) (aMem Z I, t) (qI Z t r) := by
  intro a0 ha0 i1 i3 I r h
  unfold f227_b57 at h
  refine go_ops aMi227 2 _ (f1 := (72, ([(0, .ref a0), (1, .int i1), (3, .int i3)], [.int (1 : Int32)]))) rfl ?_
  exact Tf227_b72 hd a0 ha0 i1 i3 (1 : Int32) I _ h
def f227_b44 (kad : Nat → Nat) (N : Nat) (Z : AZ) (a0 : Nat) (i1 : Int32) (s0 : Int32) (I : AI) : Option (Int32 × AI) :=
  if i1 = (16 : Int32) then
    f227_b57 kad N Z a0 i1 s0 I
  else
    if ¬ i1 = (18 : Int32) then
      if ¬ i1 = (21 : Int32) then
        f227_b72 kad N Z a0 i1 s0 (0 : Int32) I
      else
        f227_b72 kad N Z a0 i1 s0 (2 : Int32) I
    else
      f227_b57 kad N Z a0 i1 s0 I
set_option maxRecDepth 20000 in
theorem Tf227_b44 {kad : Nat → Nat} {N : Nat} {Z : AZ} {d : Nat} {t : Option Nat × (Nat × Nat)} (hd : 0 ≤ d) : ∀ (a0 : Nat) (ha0 : sh11 kad Z a0) (i1 : Int32) (s0 : Int32) (I : AI) (r : Int32 × AI), f227_b44 kad N Z a0 i1 s0 I = some r → aGo kad d 227 (44, ([(0, .ref a0), (1, .int i1)], [.int s0])) (aMem Z I, t) (qI Z t r) := by
  intro a0 ha0 i1 s0 I r h
  unfold f227_b44 at h
  refine go_ops aMi227 3 _ (f1 := (48, ([(3, .int s0), (0, .ref a0), (1, .int i1)], [.int (16 : Int32), .int i1]))) rfl ?_
  refine gg_br (b := decide (i1 = (16 : Int32))) (tg := 57) (off := 9) aMi227 rfl rfl rfl rfl (fun hb => ?_) (fun hb => ?_)
  · rw [if_pos (of_decide_eq_true hb)] at h
    refine go_le (lv1 := [(0, .ref a0), (1, .int i1), (3, .int s0)]) (aLe_of (show (List.map (fun q => q.1) ([(0, .ref a0), (1, .int i1), (3, .int s0)] : ALv)).Nodup from (by show ([0, 1, 3] : List Nat).Nodup; decide)) (aSubL_cons rfl (aSubL_cons rfl (aSubL_cons rfl aSubL_nil)))) ?_
    exact Tf227_b57 hd a0 ha0 i1 s0 I _ h
  · rw [if_neg (of_decide_eq_false hb)] at h
    refine go_ops aMi227 2 _ (f1 := (54, ([(3, .int s0), (0, .ref a0), (1, .int i1)], [.int (18 : Int32), .int i1]))) rfl ?_
    refine gg_br (b := decide (¬ i1 = (18 : Int32))) (tg := 61) (off := 7) aMi227 rfl rfl rfl rfl (fun hb => ?_) (fun hb => ?_)
    · rw [if_pos (of_decide_eq_true hb)] at h
      refine go_ops aMi227 2 _ (f1 := (64, ([(3, .int s0), (0, .ref a0), (1, .int i1)], [.int (21 : Int32), .int i1]))) rfl ?_
      refine gg_br (b := decide (¬ i1 = (21 : Int32))) (tg := 71) (off := 7) aMi227 rfl rfl rfl rfl (fun hb => ?_) (fun hb => ?_)
      · rw [if_pos (of_decide_eq_true hb)] at h
        refine go_ops aMi227 1 _ (f1 := (72, ([(3, .int s0), (0, .ref a0), (1, .int i1)], [.int (0 : Int32)]))) rfl ?_
        refine go_le (lv1 := [(0, .ref a0), (1, .int i1), (3, .int s0)]) (aLe_of (show (List.map (fun q => q.1) ([(0, .ref a0), (1, .int i1), (3, .int s0)] : ALv)).Nodup from (by show ([0, 1, 3] : List Nat).Nodup; decide)) (aSubL_cons rfl (aSubL_cons rfl (aSubL_cons rfl aSubL_nil)))) ?_
        exact Tf227_b72 hd a0 ha0 i1 s0 (0 : Int32) I _ h
      · rw [if_neg (of_decide_eq_false hb)] at h
        refine go_ops aMi227 2 _ (f1 := (72, ([(3, .int s0), (0, .ref a0), (1, .int i1)], [.int (2 : Int32)]))) rfl ?_
        refine go_le (lv1 := [(0, .ref a0), (1, .int i1), (3, .int s0)]) (aLe_of (show (List.map (fun q => q.1) ([(0, .ref a0), (1, .int i1), (3, .int s0)] : ALv)).Nodup from (by show ([0, 1, 3] : List Nat).Nodup; decide)) (aSubL_cons rfl (aSubL_cons rfl (aSubL_cons rfl aSubL_nil)))) ?_
        exact Tf227_b72 hd a0 ha0 i1 s0 (2 : Int32) I _ h
    · rw [if_neg (of_decide_eq_false hb)] at h
      refine go_le (lv1 := [(0, .ref a0), (1, .int i1), (3, .int s0)]) (aLe_of (show (List.map (fun q => q.1) ([(0, .ref a0), (1, .int i1), (3, .int s0)] : ALv)).Nodup from (by show ([0, 1, 3] : List Nat).Nodup; decide)) (aSubL_cons rfl (aSubL_cons rfl (aSubL_cons rfl aSubL_nil)))) ?_
      exact Tf227_b57 hd a0 ha0 i1 s0 I _ h
def f227_b39 (kad : Nat → Nat) (N : Nat) (Z : AZ) (a0 : Nat) (i1 : Int32) (I : AI) : Option (Int32 × AI) :=
  f227_b44 kad N Z a0 i1 (1 : Int32) I
set_option maxRecDepth 20000 in
theorem Tf227_b39 {kad : Nat → Nat} {N : Nat} {Z : AZ} {d : Nat} {t : Option Nat × (Nat × Nat)} (hd : 0 ≤ d) : ∀ (a0 : Nat) (ha0 : sh11 kad Z a0) (i1 : Int32) (I : AI) (r : Int32 × AI), f227_b39 kad N Z a0 i1 I = some r → aGo kad d 227 (39, ([(0, .ref a0), (1, .int i1)], [])) (aMem Z I, t) (qI Z t r) := by
  intro a0 ha0 i1 I r h
  unfold f227_b39 at h
  refine go_ops aMi227 2 _ (f1 := (44, ([(0, .ref a0), (1, .int i1)], [.int (1 : Int32)]))) rfl ?_
  exact Tf227_b44 hd a0 ha0 i1 (1 : Int32) I _ h
def f227_b27 (kad : Nat → Nat) (N : Nat) (Z : AZ) (a0 : Nat) (i1 : Int32) (I : AI) : Option (Int32 × AI) :=
  if i1 = (15 : Int32) then
    f227_b39 kad N Z a0 i1 I
  else
    if ¬ i1 = (17 : Int32) then
      f227_b44 kad N Z a0 i1 (0 : Int32) I
    else
      f227_b39 kad N Z a0 i1 I
set_option maxRecDepth 20000 in
theorem Tf227_b27 {kad : Nat → Nat} {N : Nat} {Z : AZ} {d : Nat} {t : Option Nat × (Nat × Nat)} (hd : 0 ≤ d) : ∀ (a0 : Nat) (ha0 : sh11 kad Z a0) (i1 : Int32) (I : AI) (r : Int32 × AI), f227_b27 kad N Z a0 i1 I = some r → aGo kad d 227 (27, ([(0, .ref a0), (1, .int i1)], [])) (aMem Z I, t) (qI Z t r) := by
  intro a0 ha0 i1 I r h
  unfold f227_b27 at h
  refine go_ops aMi227 2 _ (f1 := (30, ([(0, .ref a0), (1, .int i1)], [.int (15 : Int32), .int i1]))) rfl ?_
  refine gg_br (b := decide (i1 = (15 : Int32))) (tg := 39) (off := 9) aMi227 rfl rfl rfl rfl (fun hb => ?_) (fun hb => ?_)
  · rw [if_pos (of_decide_eq_true hb)] at h
    exact Tf227_b39 hd a0 ha0 i1 I _ h
  · rw [if_neg (of_decide_eq_false hb)] at h
    refine go_ops aMi227 2 _ (f1 := (36, ([(0, .ref a0), (1, .int i1)], [.int (17 : Int32), .int i1]))) rfl ?_
    refine gg_br (b := decide (¬ i1 = (17 : Int32))) (tg := 43) (off := 7) aMi227 rfl rfl rfl rfl (fun hb => ?_) (fun hb => ?_)
    · rw [if_pos (of_decide_eq_true hb)] at h
      refine go_ops aMi227 1 _ (f1 := (44, ([(0, .ref a0), (1, .int i1)], [.int (0 : Int32)]))) rfl ?_
      exact Tf227_b44 hd a0 ha0 i1 (0 : Int32) I _ h
    · rw [if_neg (of_decide_eq_false hb)] at h
      exact Tf227_b39 hd a0 ha0 i1 I _ h
def f227_b18 (kad : Nat → Nat) (N : Nat) (Z : AZ) (a0 : Nat) (i1 : Int32) (i2 : Int32) (I : AI) : Option (Int32 × AI) :=
  if i2 < (256 : Int32) then
    f227_b27 kad N Z a0 i1 I
  else
    some ((1 : Int32), I)
set_option maxRecDepth 20000 in
theorem Tf227_b18 {kad : Nat → Nat} {N : Nat} {Z : AZ} {d : Nat} {t : Option Nat × (Nat × Nat)} (hd : 0 ≤ d) : ∀ (a0 : Nat) (ha0 : sh11 kad Z a0) (i1 : Int32) (i2 : Int32) (I : AI) (r : Int32 × AI), f227_b18 kad N Z a0 i1 i2 I = some r → aGo kad d 227 (18, ([(0, .ref a0), (1, .int i1), (2, .int i2)], [])) (aMem Z I, t) (qI Z t r) := by
  intro a0 ha0 i1 i2 I r h
  unfold f227_b18 at h
  refine go_ops aMi227 2 _ (f1 := (22, ([(0, .ref a0), (1, .int i1), (2, .int i2)], [.int (256 : Int32), .int i2]))) rfl ?_
  refine gg_br (b := decide (i2 < (256 : Int32))) (tg := 27) (off := 5) aMi227 rfl rfl rfl rfl (fun hb => ?_) (fun hb => ?_)
  · rw [if_pos (of_decide_eq_true hb)] at h
    refine go_le (lv1 := [(0, .ref a0), (1, .int i1)]) (aLe_of (show (List.map (fun q => q.1) ([(0, .ref a0), (1, .int i1)] : ALv)).Nodup from (by show ([0, 1] : List Nat).Nodup; decide)) (aSubL_cons rfl (aSubL_cons rfl aSubL_nil))) ?_
    exact Tf227_b27 hd a0 ha0 i1 I _ h
  · rw [if_neg (of_decide_eq_false hb)] at h
    refine go_ops aMi227 1 _ (f1 := (26, ([(0, .ref a0), (1, .int i1), (2, .int i2)], [.int (1 : Int32)]))) rfl ?_
    cases h
    exact go_ret aMi227 rfl aRetI ⟨rfl, rfl⟩
def f227 (kad : Nat → Nat) (N : Nat) (Z : AZ) (a0 : Nat) (i1 : Int32) (i2 : Int32) (I : AI) : Option (Int32 × AI) :=
  if i1 ≤ (26 : Int32) then
    if i1 = (2 : Int32) then
      f227_b18 kad N Z a0 i1 i2 I
    else
      if ¬ i1 = (3 : Int32) then
        f227_b27 kad N Z a0 i1 I
      else
        f227_b18 kad N Z a0 i1 i2 I
  else
    some ((2 : Int32), I)
set_option maxRecDepth 20000 in
theorem Tf227 {kad : Nat → Nat} {N : Nat} {Z : AZ} {d : Nat} {t : Option Nat × (Nat × Nat)} (hd : 0 ≤ d) : ∀ (a0 : Nat) (ha0 : sh11 kad Z a0) (i1 : Int32) (i2 : Int32) (I : AI) (r : Int32 × AI), f227 kad N Z a0 i1 i2 I = some r → aGo kad d 227 (0, ([(0, .ref a0), (1, .int i1), (2, .int i2)], [])) (aMem Z I, t) (qI Z t r) := by
  intro a0 ha0 i1 i2 I r h
  unfold f227 at h
  refine go_ops aMi227 2 _ (f1 := (3, ([(0, .ref a0), (1, .int i1), (2, .int i2)], [.int (26 : Int32), .int i1]))) rfl ?_
  refine gg_br (b := decide (i1 ≤ (26 : Int32))) (tg := 8) (off := 5) aMi227 rfl rfl rfl rfl (fun hb => ?_) (fun hb => ?_)
  · rw [if_pos (of_decide_eq_true hb)] at h
    refine go_ops aMi227 2 _ (f1 := (10, ([(0, .ref a0), (1, .int i1), (2, .int i2)], [.int (2 : Int32), .int i1]))) rfl ?_
    refine gg_br (b := decide (i1 = (2 : Int32))) (tg := 18) (off := 8) aMi227 rfl rfl rfl rfl (fun hb => ?_) (fun hb => ?_)
    · rw [if_pos (of_decide_eq_true hb)] at h
      exact Tf227_b18 hd a0 ha0 i1 i2 I _ h
    · rw [if_neg (of_decide_eq_false hb)] at h
      refine go_ops aMi227 2 _ (f1 := (15, ([(0, .ref a0), (1, .int i1), (2, .int i2)], [.int (3 : Int32), .int i1]))) rfl ?_
      refine gg_br (b := decide (¬ i1 = (3 : Int32))) (tg := 27) (off := 12) aMi227 rfl rfl rfl rfl (fun hb => ?_) (fun hb => ?_)
      · rw [if_pos (of_decide_eq_true hb)] at h
        refine go_le (lv1 := [(0, .ref a0), (1, .int i1)]) (aLe_of (show (List.map (fun q => q.1) ([(0, .ref a0), (1, .int i1)] : ALv)).Nodup from (by show ([0, 1] : List Nat).Nodup; decide)) (aSubL_cons rfl (aSubL_cons rfl aSubL_nil))) ?_
        exact Tf227_b27 hd a0 ha0 i1 I _ h
      · rw [if_neg (of_decide_eq_false hb)] at h
        exact Tf227_b18 hd a0 ha0 i1 i2 I _ h
  · rw [if_neg (of_decide_eq_false hb)] at h
    refine go_ops aMi227 1 _ (f1 := (7, ([(0, .ref a0), (1, .int i1), (2, .int i2)], [.int (2 : Int32)]))) rfl ?_
    cases h
    exact go_ret aMi227 rfl aRetI ⟨rfl, rfl⟩
