-- KernelGymModel.goes (IZ)I
def f210_b63 (kad : Nat → Nat) (N : Nat) (Z : AZ) (i1 : Int32) (I : AI) : Option (Int32 × AI) :=
  some (((100 : Int32) + i1), I)
set_option maxRecDepth 20000 in
theorem Tf210_b63 {kad : Nat → Nat} {N : Nat} {Z : AZ} {d : Nat} {t : Option Nat × (Nat × Nat)} (hd : 3 ≤ d) : ∀ (i1 : Int32) (I : AI) (r : Int32 × AI), f210_b63 kad N Z i1 I = some r → aGo kad d 210 (63, ([(1, .int i1)], [])) (aMem Z I, t) (qI Z t r) := by
  intro i1 I r h
  unfold f210_b63 at h
  refine go_ops aMi210 3 _ (f1 := (67, ([(1, .int i1)], [.int ((100 : Int32) + i1)]))) rfl ?_
  cases h
  exact go_ret aMi210 rfl aRetI ⟨rfl, rfl⟩
def f210_b165 (kad : Nat → Nat) (N : Nat) (Z : AZ) (s0 : Int32) (I : AI) : Option (Int32 × AI) :=
  some (s0, I)
set_option maxRecDepth 20000 in
theorem Tf210_b165 {kad : Nat → Nat} {N : Nat} {Z : AZ} {d : Nat} {t : Option Nat × (Nat × Nat)} (hd : 3 ≤ d) : ∀ (s0 : Int32) (I : AI) (r : Int32 × AI), f210_b165 kad N Z s0 I = some r → aGo kad d 210 (165, ([], [.int s0])) (aMem Z I, t) (qI Z t r) := by
  intro s0 I r h
  unfold f210_b165 at h
  cases h
  exact go_ret aMi210 rfl aRetI ⟨rfl, rfl⟩
def f210_b68 (kad : Nat → Nat) (N : Nat) (Z : AZ) (a0 : Nat) (i1 : Int32) (i2 : Int32) (i3 : Int32) (i4 : Int32) (I : AI) : Option (Int32 × AI) :=
  if ¬ i4 = 0 then
    if ¬ i4 = (6 : Int32) then
      if ¬ i4 = (7 : Int32) then
        if ¬ i4 = (8 : Int32) then
          if i2 = 0 then
            (gR Z I 11 5 a0).bind fun b138_1 =>
            (gI Z I 11 15 a0).bind fun x142_2 =>
            (lI Z I 100 b138_1 x142_2).bind fun x146_3 =>
            (sI Z I 100 b138_1 x142_2 (x146_3 + i3)).bind fun I149_4 =>
            if ¬ i4 = (1 : Int32) then
              f210_b165 kad N Z (0 : Int32) I149_4
            else
              (isK Z a0 11).bind fun u158_5 =>
              (f207 kad N Z a0 i1 I149_4).bind fun r158_6 =>
              f210_b165 kad N Z r158_6.1 r158_6.2
          else
            (isK Z a0 11).bind fun u133_7 =>
            (f209 kad N Z a0 i1 I).bind fun r133_8 =>
            some (r133_8.1, r133_8.2)
        else
          (isK Z a0 11).bind fun u123_9 =>
          (f206 kad N Z a0 i1 i2 I).bind fun r123_10 =>
          some (r123_10.1, r123_10.2)
      else
        some (((400 : Int32) + i1), I)
    else
      (isK Z a0 11).bind fun u96_11 =>
      (f203 kad N Z a0 i1 I).bind fun r96_12 =>
      some (r96_12.1, r96_12.2)
  else
    (gR Z I 11 3 a0).bind fun b75_13 =>
    (lI Z I 100 b75_13 ((5 : Int32) * i1)).bind fun x81_14 =>
    (pI Z I 11 15 a0 x81_14).bind fun I82_15 =>
    some ((0 : Int32), I82_15)
set_option maxRecDepth 20000 in
theorem Tf210_b68 {kad : Nat → Nat} {N : Nat} {Z : AZ} {d : Nat} {t : Option Nat × (Nat × Nat)} (hd : 3 ≤ d) : ∀ (a0 : Nat) (i1 : Int32) (i2 : Int32) (i3 : Int32) (i4 : Int32) (I : AI) (r : Int32 × AI), f210_b68 kad N Z a0 i1 i2 i3 i4 I = some r → aGo kad d 210 (68, ([(0, .ref a0), (1, .int i1), (2, .int i2), (3, .int i3), (4, .int i4)], [])) (aMem Z I, t) (qI Z t r) := by
  intro a0 i1 i2 i3 i4 I r h
  unfold f210_b68 at h
  refine go_ops aMi210 1 _ (f1 := (70, ([(0, .ref a0), (1, .int i1), (2, .int i2), (3, .int i3), (4, .int i4)], [.int i4]))) rfl ?_
  refine gg_br (b := decide (¬ i4 = 0)) (tg := 87) (off := 17) aMi210 rfl rfl rfl rfl (fun hb => ?_) (fun hb => ?_)
  · rw [if_pos (of_decide_eq_true hb)] at h
    refine go_ops aMi210 2 _ (f1 := (91, ([(0, .ref a0), (1, .int i1), (2, .int i2), (3, .int i3), (4, .int i4)], [.int (6 : Int32), .int i4]))) rfl ?_
    refine gg_br (b := decide (¬ i4 = (6 : Int32))) (tg := 100) (off := 9) aMi210 rfl rfl rfl rfl (fun hb => ?_) (fun hb => ?_)
    · rw [if_pos (of_decide_eq_true hb)] at h
      refine go_ops aMi210 2 _ (f1 := (104, ([(0, .ref a0), (1, .int i1), (2, .int i2), (3, .int i3), (4, .int i4)], [.int (7 : Int32), .int i4]))) rfl ?_
      refine gg_br (b := decide (¬ i4 = (7 : Int32))) (tg := 113) (off := 9) aMi210 rfl rfl rfl rfl (fun hb => ?_) (fun hb => ?_)
      · rw [if_pos (of_decide_eq_true hb)] at h
        refine go_ops aMi210 2 _ (f1 := (117, ([(0, .ref a0), (1, .int i1), (2, .int i2), (3, .int i3), (4, .int i4)], [.int (8 : Int32), .int i4]))) rfl ?_
        refine gg_br (b := decide (¬ i4 = (8 : Int32))) (tg := 127) (off := 10) aMi210 rfl rfl rfl rfl (fun hb => ?_) (fun hb => ?_)
        · rw [if_pos (of_decide_eq_true hb)] at h
          refine go_ops aMi210 1 _ (f1 := (128, ([(0, .ref a0), (1, .int i1), (2, .int i2), (3, .int i3), (4, .int i4)], [.int i2]))) rfl ?_
          refine gg_br (b := decide (i2 = 0)) (tg := 137) (off := 9) aMi210 rfl rfl rfl rfl (fun hb => ?_) (fun hb => ?_)
          · rw [if_pos (of_decide_eq_true hb)] at h
            refine go_ops aMi210 1 _ (f1 := (138, ([(0, .ref a0), (1, .int i1), (2, .int i2), (3, .int i3), (4, .int i4)], [.ref a0]))) rfl ?_
            obtain ⟨b138_1, hxb138_1, h⟩ := Option.bind_eq_some_iff.mp h
            refine gg_gR aMi210 rfl rfl rfl hxb138_1 ?_
            refine go_ops aMi210 1 _ (f1 := (142, ([(0, .ref a0), (1, .int i1), (2, .int i2), (3, .int i3), (4, .int i4)], [.ref a0, .ref b138_1]))) rfl ?_
            obtain ⟨x142_2, hxx142_2, h⟩ := Option.bind_eq_some_iff.mp h
            refine gg_gI aMi210 rfl rfl rfl hxx142_2 ?_
            refine go_ops aMi210 1 _ (f1 := (146, ([(0, .ref a0), (1, .int i1), (2, .int i2), (3, .int i3), (4, .int i4)], [.int x142_2, .ref b138_1, .int x142_2, .ref b138_1]))) rfl ?_
            obtain ⟨x146_3, hxx146_3, h⟩ := Option.bind_eq_some_iff.mp h
            refine gg_lI (Or.inl ⟨rfl, rfl⟩) aMi210 rfl hxx146_3 ?_
            refine go_ops aMi210 2 _ (f1 := (149, ([(0, .ref a0), (1, .int i1), (2, .int i2), (3, .int i3), (4, .int i4)], [.int (x146_3 + i3), .int x142_2, .ref b138_1]))) rfl ?_
            obtain ⟨I149_4, hxI149_4, h⟩ := Option.bind_eq_some_iff.mp h
            refine gg_sI (Or.inl ⟨rfl, rfl⟩) aMi210 rfl hxI149_4 ?_
            refine go_ops aMi210 2 _ (f1 := (153, ([(0, .ref a0), (1, .int i1), (2, .int i2), (3, .int i3), (4, .int i4)], [.int (1 : Int32), .int i4]))) rfl ?_
            refine gg_br (b := decide (¬ i4 = (1 : Int32))) (tg := 164) (off := 11) aMi210 rfl rfl rfl rfl (fun hb => ?_) (fun hb => ?_)
            · rw [if_pos (of_decide_eq_true hb)] at h
              refine go_ops aMi210 1 _ (f1 := (165, ([(0, .ref a0), (1, .int i1), (2, .int i2), (3, .int i3), (4, .int i4)], [.int (0 : Int32)]))) rfl ?_
              refine go_le (lv1 := []) (aLe_of (show (List.map (fun q => q.1) ([] : ALv)).Nodup from (by show ([] : List Nat).Nodup; decide)) aSubL_nil) ?_
              exact Tf210_b165 hd (0 : Int32) I149_4 _ h
            · rw [if_neg (of_decide_eq_false hb)] at h
              refine go_ops aMi210 2 _ (f1 := (158, ([(0, .ref a0), (1, .int i1), (2, .int i2), (3, .int i3), (4, .int i4)], [.int i1, .ref a0]))) rfl ?_
              obtain ⟨u158_5, hxu158_5, h⟩ := Option.bind_eq_some_iff.mp h
              obtain ⟨r158_6, hxr158_6, h⟩ := Option.bind_eq_some_iff.mp h
              refine gg_cv (as := [.int i1]) (r := []) aMi210 rfl rfl rfl aMi207 (Nat.le_of_ble_eq_true rfl) rfl (Nat.le_of_ble_eq_true rfl) (Nat.le_of_ble_eq_true rfl) (by omega) hxu158_5 (Tf207 (by omega) a0 i1 I149_4 _ hxr158_6) ?_
              show aGo kad d 210 (161, ([(0, .ref a0), (1, .int i1), (2, .int i2), (3, .int i3), (4, .int i4)], [.int r158_6.1])) (aMem Z r158_6.2, t) _
              refine go_ops aMi210 1 _ (f1 := (165, ([(0, .ref a0), (1, .int i1), (2, .int i2), (3, .int i3), (4, .int i4)], [.int r158_6.1]))) rfl ?_
              refine go_le (lv1 := []) (aLe_of (show (List.map (fun q => q.1) ([] : ALv)).Nodup from (by show ([] : List Nat).Nodup; decide)) aSubL_nil) ?_
              exact Tf210_b165 hd r158_6.1 r158_6.2 _ h
          · rw [if_neg (of_decide_eq_false hb)] at h
            refine go_ops aMi210 2 _ (f1 := (133, ([(0, .ref a0), (1, .int i1), (2, .int i2), (3, .int i3), (4, .int i4)], [.int i1, .ref a0]))) rfl ?_
            obtain ⟨u133_7, hxu133_7, h⟩ := Option.bind_eq_some_iff.mp h
            obtain ⟨r133_8, hxr133_8, h⟩ := Option.bind_eq_some_iff.mp h
            refine gg_cv (as := [.int i1]) (r := []) aMi210 rfl rfl rfl aMi209 (Nat.le_of_ble_eq_true rfl) rfl (Nat.le_of_ble_eq_true rfl) (Nat.le_of_ble_eq_true rfl) (by omega) hxu133_7 (Tf209 (by omega) a0 i1 I _ hxr133_8) ?_
            show aGo kad d 210 (136, ([(0, .ref a0), (1, .int i1), (2, .int i2), (3, .int i3), (4, .int i4)], [.int r133_8.1])) (aMem Z r133_8.2, t) _
            cases h
            exact go_ret aMi210 rfl aRetI ⟨rfl, rfl⟩
        · rw [if_neg (of_decide_eq_false hb)] at h
          refine go_ops aMi210 3 _ (f1 := (123, ([(0, .ref a0), (1, .int i1), (2, .int i2), (3, .int i3), (4, .int i4)], [.int i2, .int i1, .ref a0]))) rfl ?_
          obtain ⟨u123_9, hxu123_9, h⟩ := Option.bind_eq_some_iff.mp h
          obtain ⟨r123_10, hxr123_10, h⟩ := Option.bind_eq_some_iff.mp h
          refine gg_cv (as := [.int i1, .int i2]) (r := []) aMi210 rfl rfl rfl aMi206 (Nat.le_of_ble_eq_true rfl) rfl (Nat.le_of_ble_eq_true rfl) (Nat.le_of_ble_eq_true rfl) (by omega) hxu123_9 (Tf206 (by omega) a0 i1 i2 I _ hxr123_10) ?_
          show aGo kad d 210 (126, ([(0, .ref a0), (1, .int i1), (2, .int i2), (3, .int i3), (4, .int i4)], [.int r123_10.1])) (aMem Z r123_10.2, t) _
          cases h
          exact go_ret aMi210 rfl aRetI ⟨rfl, rfl⟩
      · rw [if_neg (of_decide_eq_false hb)] at h
        refine go_ops aMi210 3 _ (f1 := (112, ([(0, .ref a0), (1, .int i1), (2, .int i2), (3, .int i3), (4, .int i4)], [.int ((400 : Int32) + i1)]))) rfl ?_
        cases h
        exact go_ret aMi210 rfl aRetI ⟨rfl, rfl⟩
    · rw [if_neg (of_decide_eq_false hb)] at h
      refine go_ops aMi210 2 _ (f1 := (96, ([(0, .ref a0), (1, .int i1), (2, .int i2), (3, .int i3), (4, .int i4)], [.int i1, .ref a0]))) rfl ?_
      obtain ⟨u96_11, hxu96_11, h⟩ := Option.bind_eq_some_iff.mp h
      obtain ⟨r96_12, hxr96_12, h⟩ := Option.bind_eq_some_iff.mp h
      refine gg_cv (as := [.int i1]) (r := []) aMi210 rfl rfl rfl aMi203 (Nat.le_of_ble_eq_true rfl) rfl (Nat.le_of_ble_eq_true rfl) (Nat.le_of_ble_eq_true rfl) (by omega) hxu96_11 (Tf203 (by omega) a0 i1 I _ hxr96_12) ?_
      show aGo kad d 210 (99, ([(0, .ref a0), (1, .int i1), (2, .int i2), (3, .int i3), (4, .int i4)], [.int r96_12.1])) (aMem Z r96_12.2, t) _
      cases h
      exact go_ret aMi210 rfl aRetI ⟨rfl, rfl⟩
  · rw [if_neg (of_decide_eq_false hb)] at h
    refine go_ops aMi210 2 _ (f1 := (75, ([(0, .ref a0), (1, .int i1), (2, .int i2), (3, .int i3), (4, .int i4)], [.ref a0, .ref a0]))) rfl ?_
    obtain ⟨b75_13, hxb75_13, h⟩ := Option.bind_eq_some_iff.mp h
    refine gg_gR aMi210 rfl rfl rfl hxb75_13 ?_
    refine go_ops aMi210 3 _ (f1 := (81, ([(0, .ref a0), (1, .int i1), (2, .int i2), (3, .int i3), (4, .int i4)], [.int ((5 : Int32) * i1), .ref b75_13, .ref a0]))) rfl ?_
    obtain ⟨x81_14, hxx81_14, h⟩ := Option.bind_eq_some_iff.mp h
    refine gg_lI (Or.inl ⟨rfl, rfl⟩) aMi210 rfl hxx81_14 ?_
    obtain ⟨I82_15, hxI82_15, h⟩ := Option.bind_eq_some_iff.mp h
    refine gg_pI aMi210 rfl rfl rfl rfl (by decide) hxI82_15 ?_
    refine go_ops aMi210 1 _ (f1 := (86, ([(0, .ref a0), (1, .int i1), (2, .int i2), (3, .int i3), (4, .int i4)], [.int (0 : Int32)]))) rfl ?_
    cases h
    exact go_ret aMi210 rfl aRetI ⟨rfl, rfl⟩
def f210 (kad : Nat → Nat) (N : Nat) (Z : AZ) (a0 : Nat) (i1 : Int32) (i2 : Int32) (I : AI) : Option (Int32 × AI) :=
  (gI Z I 11 16 a0).bind fun x2_1 =>
  (pI Z I 11 16 a0 (x2_1 + (1 : Int32))).bind fun I7_2 =>
  (isK Z a0 11).bind fun u12_3 =>
  (f201 kad N Z a0 i1 I7_2).bind fun r12_4 =>
  (gR Z r12_4.2 11 2 a0).bind fun b17_5 =>
  (lI Z r12_4.2 100 b17_5 i1).bind fun x21_6 =>
  if ¬ i2 = 0 then
    f210_b68 kad N Z a0 i1 i2 r12_4.1 x21_6 r12_4.2
  else
    (gI Z r12_4.2 11 16 a0).bind fun x29_7 =>
    if (300 : Int32) < x29_7 then
      f210_b63 kad N Z i1 r12_4.2
    else
      if r12_4.1 ≤ 0 then
        f210_b68 kad N Z a0 i1 i2 r12_4.1 x21_6 r12_4.2
      else
        (gR Z r12_4.2 11 5 a0).bind fun b43_8 =>
        (lI Z r12_4.2 100 b43_8 (0 : Int32)).bind fun x47_9 =>
        (gR Z r12_4.2 11 5 a0).bind fun b49_10 =>
        (lI Z r12_4.2 100 b49_10 (1 : Int32)).bind fun x53_11 =>
        if ((x47_9 + x53_11) + r12_4.1) ≤ (248 : Int32) then
          f210_b68 kad N Z a0 i1 i2 r12_4.1 x21_6 r12_4.2
        else
          f210_b63 kad N Z i1 r12_4.2
set_option maxRecDepth 20000 in
theorem Tf210 {kad : Nat → Nat} {N : Nat} {Z : AZ} {d : Nat} {t : Option Nat × (Nat × Nat)} (hd : 3 ≤ d) : ∀ (a0 : Nat) (i1 : Int32) (i2 : Int32) (I : AI) (r : Int32 × AI), f210 kad N Z a0 i1 i2 I = some r → aGo kad d 210 (0, ([(0, .ref a0), (1, .int i1), (2, .int i2)], [])) (aMem Z I, t) (qI Z t r) := by
  intro a0 i1 i2 I r h
  unfold f210 at h
  refine go_ops aMi210 2 _ (f1 := (2, ([(0, .ref a0), (1, .int i1), (2, .int i2)], [.ref a0, .ref a0]))) rfl ?_
  obtain ⟨x2_1, hxx2_1, h⟩ := Option.bind_eq_some_iff.mp h
  refine gg_gI aMi210 rfl rfl rfl hxx2_1 ?_
  refine go_ops aMi210 2 _ (f1 := (7, ([(0, .ref a0), (1, .int i1), (2, .int i2)], [.int (x2_1 + (1 : Int32)), .ref a0]))) rfl ?_
  obtain ⟨I7_2, hxI7_2, h⟩ := Option.bind_eq_some_iff.mp h
  refine gg_pI aMi210 rfl rfl rfl rfl (by decide) hxI7_2 ?_
  refine go_ops aMi210 2 _ (f1 := (12, ([(0, .ref a0), (1, .int i1), (2, .int i2)], [.int i1, .ref a0]))) rfl ?_
  obtain ⟨u12_3, hxu12_3, h⟩ := Option.bind_eq_some_iff.mp h
  obtain ⟨r12_4, hxr12_4, h⟩ := Option.bind_eq_some_iff.mp h
  refine gg_cv (as := [.int i1]) (r := []) aMi210 rfl rfl rfl aMi201 (Nat.le_of_ble_eq_true rfl) rfl (Nat.le_of_ble_eq_true rfl) (Nat.le_of_ble_eq_true rfl) (by omega) hxu12_3 (Tf201 (by omega) a0 i1 I7_2 _ hxr12_4) ?_
  show aGo kad d 210 (15, ([(0, .ref a0), (1, .int i1), (2, .int i2)], [.int r12_4.1])) (aMem Z r12_4.2, t) _
  refine go_ops aMi210 2 _ (f1 := (17, ([(3, .int r12_4.1), (0, .ref a0), (1, .int i1), (2, .int i2)], [.ref a0]))) rfl ?_
  obtain ⟨b17_5, hxb17_5, h⟩ := Option.bind_eq_some_iff.mp h
  refine gg_gR aMi210 rfl rfl rfl hxb17_5 ?_
  refine go_ops aMi210 1 _ (f1 := (21, ([(3, .int r12_4.1), (0, .ref a0), (1, .int i1), (2, .int i2)], [.int i1, .ref b17_5]))) rfl ?_
  obtain ⟨x21_6, hxx21_6, h⟩ := Option.bind_eq_some_iff.mp h
  refine gg_lI (Or.inl ⟨rfl, rfl⟩) aMi210 rfl hxx21_6 ?_
  refine go_ops aMi210 2 _ (f1 := (25, ([(4, .int x21_6), (3, .int r12_4.1), (0, .ref a0), (1, .int i1), (2, .int i2)], [.int i2]))) rfl ?_
  refine gg_br (b := decide (¬ i2 = 0)) (tg := 68) (off := 43) aMi210 rfl rfl rfl rfl (fun hb => ?_) (fun hb => ?_)
  · rw [if_pos (of_decide_eq_true hb)] at h
    refine go_le (lv1 := [(0, .ref a0), (1, .int i1), (2, .int i2), (3, .int r12_4.1), (4, .int x21_6)]) (aLe_of (show (List.map (fun q => q.1) ([(0, .ref a0), (1, .int i1), (2, .int i2), (3, .int r12_4.1), (4, .int x21_6)] : ALv)).Nodup from (by show ([0, 1, 2, 3, 4] : List Nat).Nodup; decide)) (aSubL_cons rfl (aSubL_cons rfl (aSubL_cons rfl (aSubL_cons rfl (aSubL_cons rfl aSubL_nil)))))) ?_
    exact Tf210_b68 hd a0 i1 i2 r12_4.1 x21_6 r12_4.2 _ h
  · rw [if_neg (of_decide_eq_false hb)] at h
    refine go_ops aMi210 1 _ (f1 := (29, ([(4, .int x21_6), (3, .int r12_4.1), (0, .ref a0), (1, .int i1), (2, .int i2)], [.ref a0]))) rfl ?_
    obtain ⟨x29_7, hxx29_7, h⟩ := Option.bind_eq_some_iff.mp h
    refine gg_gI aMi210 rfl rfl rfl hxx29_7 ?_
    refine go_ops aMi210 1 _ (f1 := (35, ([(4, .int x21_6), (3, .int r12_4.1), (0, .ref a0), (1, .int i1), (2, .int i2)], [.int (300 : Int32), .int x29_7]))) rfl ?_
    refine gg_br (b := decide ((300 : Int32) < x29_7)) (tg := 63) (off := 28) aMi210 rfl rfl rfl rfl (fun hb => ?_) (fun hb => ?_)
    · rw [if_pos (of_decide_eq_true hb)] at h
      refine go_le (lv1 := [(1, .int i1)]) (aLe_of (show (List.map (fun q => q.1) ([(1, .int i1)] : ALv)).Nodup from (by show ([1] : List Nat).Nodup; decide)) (aSubL_cons rfl aSubL_nil)) ?_
      exact Tf210_b63 hd i1 r12_4.2 _ h
    · rw [if_neg (of_decide_eq_false hb)] at h
      refine go_ops aMi210 1 _ (f1 := (39, ([(4, .int x21_6), (3, .int r12_4.1), (0, .ref a0), (1, .int i1), (2, .int i2)], [.int r12_4.1]))) rfl ?_
      refine gg_br (b := decide (r12_4.1 ≤ 0)) (tg := 68) (off := 29) aMi210 rfl rfl rfl rfl (fun hb => ?_) (fun hb => ?_)
      · rw [if_pos (of_decide_eq_true hb)] at h
        refine go_le (lv1 := [(0, .ref a0), (1, .int i1), (2, .int i2), (3, .int r12_4.1), (4, .int x21_6)]) (aLe_of (show (List.map (fun q => q.1) ([(0, .ref a0), (1, .int i1), (2, .int i2), (3, .int r12_4.1), (4, .int x21_6)] : ALv)).Nodup from (by show ([0, 1, 2, 3, 4] : List Nat).Nodup; decide)) (aSubL_cons rfl (aSubL_cons rfl (aSubL_cons rfl (aSubL_cons rfl (aSubL_cons rfl aSubL_nil)))))) ?_
        exact Tf210_b68 hd a0 i1 i2 r12_4.1 x21_6 r12_4.2 _ h
      · rw [if_neg (of_decide_eq_false hb)] at h
        refine go_ops aMi210 1 _ (f1 := (43, ([(4, .int x21_6), (3, .int r12_4.1), (0, .ref a0), (1, .int i1), (2, .int i2)], [.ref a0]))) rfl ?_
        obtain ⟨b43_8, hxb43_8, h⟩ := Option.bind_eq_some_iff.mp h
        refine gg_gR aMi210 rfl rfl rfl hxb43_8 ?_
        refine go_ops aMi210 1 _ (f1 := (47, ([(4, .int x21_6), (3, .int r12_4.1), (0, .ref a0), (1, .int i1), (2, .int i2)], [.int (0 : Int32), .ref b43_8]))) rfl ?_
        obtain ⟨x47_9, hxx47_9, h⟩ := Option.bind_eq_some_iff.mp h
        refine gg_lI (Or.inl ⟨rfl, rfl⟩) aMi210 rfl hxx47_9 ?_
        refine go_ops aMi210 1 _ (f1 := (49, ([(4, .int x21_6), (3, .int r12_4.1), (0, .ref a0), (1, .int i1), (2, .int i2)], [.ref a0, .int x47_9]))) rfl ?_
        obtain ⟨b49_10, hxb49_10, h⟩ := Option.bind_eq_some_iff.mp h
        refine gg_gR aMi210 rfl rfl rfl hxb49_10 ?_
        refine go_ops aMi210 1 _ (f1 := (53, ([(4, .int x21_6), (3, .int r12_4.1), (0, .ref a0), (1, .int i1), (2, .int i2)], [.int (1 : Int32), .ref b49_10, .int x47_9]))) rfl ?_
        obtain ⟨x53_11, hxx53_11, h⟩ := Option.bind_eq_some_iff.mp h
        refine gg_lI (Or.inl ⟨rfl, rfl⟩) aMi210 rfl hxx53_11 ?_
        refine go_ops aMi210 4 _ (f1 := (60, ([(4, .int x21_6), (3, .int r12_4.1), (0, .ref a0), (1, .int i1), (2, .int i2)], [.int (248 : Int32), .int ((x47_9 + x53_11) + r12_4.1)]))) rfl ?_
        refine gg_br (b := decide (((x47_9 + x53_11) + r12_4.1) ≤ (248 : Int32))) (tg := 68) (off := 8) aMi210 rfl rfl rfl rfl (fun hb => ?_) (fun hb => ?_)
        · rw [if_pos (of_decide_eq_true hb)] at h
          refine go_le (lv1 := [(0, .ref a0), (1, .int i1), (2, .int i2), (3, .int r12_4.1), (4, .int x21_6)]) (aLe_of (show (List.map (fun q => q.1) ([(0, .ref a0), (1, .int i1), (2, .int i2), (3, .int r12_4.1), (4, .int x21_6)] : ALv)).Nodup from (by show ([0, 1, 2, 3, 4] : List Nat).Nodup; decide)) (aSubL_cons rfl (aSubL_cons rfl (aSubL_cons rfl (aSubL_cons rfl (aSubL_cons rfl aSubL_nil)))))) ?_
          exact Tf210_b68 hd a0 i1 i2 r12_4.1 x21_6 r12_4.2 _ h
        · rw [if_neg (of_decide_eq_false hb)] at h
          refine go_le (lv1 := [(1, .int i1)]) (aLe_of (show (List.map (fun q => q.1) ([(1, .int i1)] : ALv)).Nodup from (by show ([1] : List Nat).Nodup; decide)) (aSubL_cons rfl aSubL_nil)) ?_
          exact Tf210_b63 hd i1 r12_4.2 _ h
-- KernelGymModel.goesThrough (Z)I
def f211_b84 (kad : Nat → Nat) (N : Nat) (Z : AZ) : Nat → Nat → Int32 → AI → Option (Int32 × AI)
  | 0, _, _, _ => none
  | F + 1, a0, i1, I =>
    (gI Z I 11 14 a0).bind fun x85_1 =>
    if x85_1 < 0 then
      some ((0 : Int32), I)
    else
      (gR Z I 11 8 a0).bind fun b92_2 =>
      (gI Z I 11 14 a0).bind fun x96_3 =>
      (lI Z I 100 b92_2 x96_3).bind fun x99_4 =>
      (gR Z I 11 9 a0).bind fun b101_5 =>
      (gI Z I 11 14 a0).bind fun x105_6 =>
      (lI Z I 100 b101_5 x105_6).bind fun x108_7 =>
      if ¬ x99_4 = x108_7 then
        (gR Z I 11 8 a0).bind fun b126_8 =>
        (gI Z I 11 14 a0).bind fun x130_9 =>
        (lI Z I 100 b126_8 x130_9).bind fun x133_10 =>
        (gR Z I 11 8 a0).bind fun b136_11 =>
        (gI Z I 11 14 a0).bind fun x140_12 =>
        (lI Z I 100 b136_11 x140_12).bind fun x144_13 =>
        (sI Z I 100 b136_11 x140_12 (x144_13 + (1 : Int32))).bind fun I147_14 =>
        (isK Z a0 11).bind fun u151_15 =>
        (f210 kad N Z a0 x133_10 i1 I147_14).bind fun r151_16 =>
        if r151_16.1 = 0 then
          f211_b84 kad N Z F a0 i1 r151_16.2
        else
          some (r151_16.1, r151_16.2)
      else
        (gI Z I 11 14 a0).bind fun x114_17 =>
        (pI Z I 11 14 a0 (x114_17 - (1 : Int32))).bind fun I119_18 =>
        f211_b84 kad N Z F a0 i1 I119_18
set_option maxRecDepth 20000 in
theorem Tf211_b84 {kad : Nat → Nat} {N : Nat} {Z : AZ} {d : Nat} {t : Option Nat × (Nat × Nat)} (hd : 4 ≤ d) : ∀ (F : Nat) (a0 : Nat) (i1 : Int32) (I : AI) (r : Int32 × AI), f211_b84 kad N Z F a0 i1 I = some r → aGo kad d 211 (84, ([(0, .ref a0), (1, .int i1)], [])) (aMem Z I, t) (qI Z t r) := by
  intro F
  induction F with
  | zero => intro a0 i1 I r h; cases h
  | succ F ih =>
    intro a0 i1 I r h
    unfold f211_b84 at h
    refine go_ops aMi211 1 _ (f1 := (85, ([(0, .ref a0), (1, .int i1)], [.ref a0]))) rfl ?_
    obtain ⟨x85_1, hxx85_1, h⟩ := Option.bind_eq_some_iff.mp h
    refine gg_gI aMi211 rfl rfl rfl hxx85_1 ?_
    refine gg_br (b := decide (x85_1 < 0)) (tg := 164) (off := 76) aMi211 rfl rfl rfl rfl (fun hb => ?_) (fun hb => ?_)
    · rw [if_pos (of_decide_eq_true hb)] at h
      refine go_ops aMi211 1 _ (f1 := (165, ([(0, .ref a0), (1, .int i1)], [.int (0 : Int32)]))) rfl ?_
      cases h
      exact go_ret aMi211 rfl aRetI ⟨rfl, rfl⟩
    · rw [if_neg (of_decide_eq_false hb)] at h
      refine go_ops aMi211 1 _ (f1 := (92, ([(0, .ref a0), (1, .int i1)], [.ref a0]))) rfl ?_
      obtain ⟨b92_2, hxb92_2, h⟩ := Option.bind_eq_some_iff.mp h
      refine gg_gR aMi211 rfl rfl rfl hxb92_2 ?_
      refine go_ops aMi211 1 _ (f1 := (96, ([(0, .ref a0), (1, .int i1)], [.ref a0, .ref b92_2]))) rfl ?_
      obtain ⟨x96_3, hxx96_3, h⟩ := Option.bind_eq_some_iff.mp h
      refine gg_gI aMi211 rfl rfl rfl hxx96_3 ?_
      obtain ⟨x99_4, hxx99_4, h⟩ := Option.bind_eq_some_iff.mp h
      refine gg_lI (Or.inl ⟨rfl, rfl⟩) aMi211 rfl hxx99_4 ?_
      refine go_ops aMi211 1 _ (f1 := (101, ([(0, .ref a0), (1, .int i1)], [.ref a0, .int x99_4]))) rfl ?_
      obtain ⟨b101_5, hxb101_5, h⟩ := Option.bind_eq_some_iff.mp h
      refine gg_gR aMi211 rfl rfl rfl hxb101_5 ?_
      refine go_ops aMi211 1 _ (f1 := (105, ([(0, .ref a0), (1, .int i1)], [.ref a0, .ref b101_5, .int x99_4]))) rfl ?_
      obtain ⟨x105_6, hxx105_6, h⟩ := Option.bind_eq_some_iff.mp h
      refine gg_gI aMi211 rfl rfl rfl hxx105_6 ?_
      obtain ⟨x108_7, hxx108_7, h⟩ := Option.bind_eq_some_iff.mp h
      refine gg_lI (Or.inl ⟨rfl, rfl⟩) aMi211 rfl hxx108_7 ?_
      refine gg_br (b := decide (¬ x99_4 = x108_7)) (tg := 125) (off := 16) aMi211 rfl rfl rfl rfl (fun hb => ?_) (fun hb => ?_)
      · rw [if_pos (of_decide_eq_true hb)] at h
        refine go_ops aMi211 1 _ (f1 := (126, ([(0, .ref a0), (1, .int i1)], [.ref a0]))) rfl ?_
        obtain ⟨b126_8, hxb126_8, h⟩ := Option.bind_eq_some_iff.mp h
        refine gg_gR aMi211 rfl rfl rfl hxb126_8 ?_
        refine go_ops aMi211 1 _ (f1 := (130, ([(0, .ref a0), (1, .int i1)], [.ref a0, .ref b126_8]))) rfl ?_
        obtain ⟨x130_9, hxx130_9, h⟩ := Option.bind_eq_some_iff.mp h
        refine gg_gI aMi211 rfl rfl rfl hxx130_9 ?_
        obtain ⟨x133_10, hxx133_10, h⟩ := Option.bind_eq_some_iff.mp h
        refine gg_lI (Or.inl ⟨rfl, rfl⟩) aMi211 rfl hxx133_10 ?_
        refine go_ops aMi211 2 _ (f1 := (136, ([(2, .int x133_10), (0, .ref a0), (1, .int i1)], [.ref a0]))) rfl ?_
        obtain ⟨b136_11, hxb136_11, h⟩ := Option.bind_eq_some_iff.mp h
        refine gg_gR aMi211 rfl rfl rfl hxb136_11 ?_
        refine go_ops aMi211 1 _ (f1 := (140, ([(2, .int x133_10), (0, .ref a0), (1, .int i1)], [.ref a0, .ref b136_11]))) rfl ?_
        obtain ⟨x140_12, hxx140_12, h⟩ := Option.bind_eq_some_iff.mp h
        refine gg_gI aMi211 rfl rfl rfl hxx140_12 ?_
        refine go_ops aMi211 1 _ (f1 := (144, ([(2, .int x133_10), (0, .ref a0), (1, .int i1)], [.int x140_12, .ref b136_11, .int x140_12, .ref b136_11]))) rfl ?_
        obtain ⟨x144_13, hxx144_13, h⟩ := Option.bind_eq_some_iff.mp h
        refine gg_lI (Or.inl ⟨rfl, rfl⟩) aMi211 rfl hxx144_13 ?_
        refine go_ops aMi211 2 _ (f1 := (147, ([(2, .int x133_10), (0, .ref a0), (1, .int i1)], [.int (x144_13 + (1 : Int32)), .int x140_12, .ref b136_11]))) rfl ?_
        obtain ⟨I147_14, hxI147_14, h⟩ := Option.bind_eq_some_iff.mp h
        refine gg_sI (Or.inl ⟨rfl, rfl⟩) aMi211 rfl hxI147_14 ?_
        refine go_ops aMi211 3 _ (f1 := (151, ([(2, .int x133_10), (0, .ref a0), (1, .int i1)], [.int i1, .int x133_10, .ref a0]))) rfl ?_
        obtain ⟨u151_15, hxu151_15, h⟩ := Option.bind_eq_some_iff.mp h
        obtain ⟨r151_16, hxr151_16, h⟩ := Option.bind_eq_some_iff.mp h
        refine gg_cv (as := [.int x133_10, .int i1]) (r := []) aMi211 rfl rfl rfl aMi210 (Nat.le_of_ble_eq_true rfl) rfl (Nat.le_of_ble_eq_true rfl) (Nat.le_of_ble_eq_true rfl) (by omega) hxu151_15 (Tf210 (by omega) a0 x133_10 i1 I147_14 _ hxr151_16) ?_
        show aGo kad d 211 (154, ([(2, .int x133_10), (0, .ref a0), (1, .int i1)], [.int r151_16.1])) (aMem Z r151_16.2, t) _
        refine go_ops aMi211 2 _ (f1 := (156, ([(3, .int r151_16.1), (2, .int x133_10), (0, .ref a0), (1, .int i1)], [.int r151_16.1]))) rfl ?_
        refine gg_br (b := decide (r151_16.1 = 0)) (tg := 161) (off := 5) aMi211 rfl rfl rfl rfl (fun hb => ?_) (fun hb => ?_)
        · rw [if_pos (of_decide_eq_true hb)] at h
          refine go_ops aMi211 1 _ (f1 := (84, ([(3, .int r151_16.1), (2, .int x133_10), (0, .ref a0), (1, .int i1)], []))) rfl ?_
          refine go_le (lv1 := [(0, .ref a0), (1, .int i1)]) (aLe_of (show (List.map (fun q => q.1) ([(0, .ref a0), (1, .int i1)] : ALv)).Nodup from (by show ([0, 1] : List Nat).Nodup; decide)) (aSubL_cons rfl (aSubL_cons rfl aSubL_nil))) ?_
          exact ih a0 i1 r151_16.2 _ h
        · rw [if_neg (of_decide_eq_false hb)] at h
          refine go_ops aMi211 1 _ (f1 := (160, ([(3, .int r151_16.1), (2, .int x133_10), (0, .ref a0), (1, .int i1)], [.int r151_16.1]))) rfl ?_
          cases h
          exact go_ret aMi211 rfl aRetI ⟨rfl, rfl⟩
      · rw [if_neg (of_decide_eq_false hb)] at h
        refine go_ops aMi211 2 _ (f1 := (114, ([(0, .ref a0), (1, .int i1)], [.ref a0, .ref a0]))) rfl ?_
        obtain ⟨x114_17, hxx114_17, h⟩ := Option.bind_eq_some_iff.mp h
        refine gg_gI aMi211 rfl rfl rfl hxx114_17 ?_
        refine go_ops aMi211 2 _ (f1 := (119, ([(0, .ref a0), (1, .int i1)], [.int (x114_17 - (1 : Int32)), .ref a0]))) rfl ?_
        obtain ⟨I119_18, hxI119_18, h⟩ := Option.bind_eq_some_iff.mp h
        refine gg_pI aMi211 rfl rfl rfl rfl (by decide) hxI119_18 ?_
        refine go_ops aMi211 1 _ (f1 := (84, ([(0, .ref a0), (1, .int i1)], []))) rfl ?_
        exact ih a0 i1 I119_18 _ h
def f211_b66 (kad : Nat → Nat) (N : Nat) (Z : AZ) : Nat → Nat → Int32 → Int32 → AI → Option (Int32 × AI)
  | 0, _, _, _, _ => none
  | F + 1, a0, i1, i2, I =>
    if (5 : Int32) ≤ i2 then
      f211_b84 kad N Z N a0 i1 I
    else
      (gR Z I 11 6 a0).bind fun b72_1 =>
      (sI Z I 100 b72_1 i2 (Int32.ofInt (-1))).bind fun I77_2 =>
      f211_b66 kad N Z F a0 i1 (i2 + (1 : Int32)) I77_2
set_option maxRecDepth 20000 in
theorem Tf211_b66 {kad : Nat → Nat} {N : Nat} {Z : AZ} {d : Nat} {t : Option Nat × (Nat × Nat)} (hd : 4 ≤ d) : ∀ (F : Nat) (a0 : Nat) (i1 : Int32) (i2 : Int32) (I : AI) (r : Int32 × AI), f211_b66 kad N Z F a0 i1 i2 I = some r → aGo kad d 211 (66, ([(0, .ref a0), (1, .int i1), (2, .int i2)], [])) (aMem Z I, t) (qI Z t r) := by
  intro F
  induction F with
  | zero => intro a0 i1 i2 I r h; cases h
  | succ F ih =>
    intro a0 i1 i2 I r h
    unfold f211_b66 at h
    refine go_ops aMi211 2 _ (f1 := (68, ([(0, .ref a0), (1, .int i1), (2, .int i2)], [.int (5 : Int32), .int i2]))) rfl ?_
    refine gg_br (b := decide ((5 : Int32) ≤ i2)) (tg := 84) (off := 16) aMi211 rfl rfl rfl rfl (fun hb => ?_) (fun hb => ?_)
    · rw [if_pos (of_decide_eq_true hb)] at h
      refine go_le (lv1 := [(0, .ref a0), (1, .int i1)]) (aLe_of (show (List.map (fun q => q.1) ([(0, .ref a0), (1, .int i1)] : ALv)).Nodup from (by show ([0, 1] : List Nat).Nodup; decide)) (aSubL_cons rfl (aSubL_cons rfl aSubL_nil))) ?_
      exact Tf211_b84 hd N a0 i1 I _ h
    · rw [if_neg (of_decide_eq_false hb)] at h
      refine go_ops aMi211 1 _ (f1 := (72, ([(0, .ref a0), (1, .int i1), (2, .int i2)], [.ref a0]))) rfl ?_
      obtain ⟨b72_1, hxb72_1, h⟩ := Option.bind_eq_some_iff.mp h
      refine gg_gR aMi211 rfl rfl rfl hxb72_1 ?_
      refine go_ops aMi211 2 _ (f1 := (77, ([(0, .ref a0), (1, .int i1), (2, .int i2)], [.int (Int32.ofInt (-1)), .int i2, .ref b72_1]))) rfl ?_
      obtain ⟨I77_2, hxI77_2, h⟩ := Option.bind_eq_some_iff.mp h
      refine gg_sI (Or.inl ⟨rfl, rfl⟩) aMi211 rfl hxI77_2 ?_
      refine go_ops aMi211 2 _ (f1 := (66, ([(2, .int (i2 + (1 : Int32))), (0, .ref a0), (1, .int i1)], []))) rfl ?_
      refine go_le (lv1 := [(0, .ref a0), (1, .int i1), (2, .int (i2 + (1 : Int32)))]) (aLe_of (show (List.map (fun q => q.1) ([(0, .ref a0), (1, .int i1), (2, .int (i2 + (1 : Int32)))] : ALv)).Nodup from (by show ([0, 1, 2] : List Nat).Nodup; decide)) (aSubL_cons rfl (aSubL_cons rfl (aSubL_cons rfl aSubL_nil)))) ?_
      exact ih a0 i1 (i2 + (1 : Int32)) I77_2 _ h
def f211 (kad : Nat → Nat) (N : Nat) (Z : AZ) (a0 : Nat) (i1 : Int32) (I : AI) : Option (Int32 × AI) :=
  (gR Z I 11 5 a0).bind fun b4_1 =>
  (lI Z I 100 b4_1 (0 : Int32)).bind fun x8_2 =>
  (pI Z I 11 18 a0 ((8 : Int32) + x8_2)).bind fun I10_3 =>
  (gR Z I10_3 11 5 a0).bind fun b14_4 =>
  (sI Z I10_3 100 b14_4 (0 : Int32) (0 : Int32)).bind fun I19_5 =>
  (gR Z I19_5 11 5 a0).bind fun b21_6 =>
  (sI Z I19_5 100 b21_6 (1 : Int32) (0 : Int32)).bind fun I26_7 =>
  (pI Z I26_7 11 15 a0 (0 : Int32)).bind fun I29_8 =>
  (pI Z I29_8 11 16 a0 (0 : Int32)).bind fun I34_9 =>
  (pI Z I34_9 11 17 a0 (0 : Int32)).bind fun I39_10 =>
  (pI Z I39_10 11 14 a0 (0 : Int32)).bind fun I44_11 =>
  (gR Z I44_11 11 8 a0).bind fun b48_12 =>
  (sI Z I44_11 100 b48_12 (0 : Int32) (0 : Int32)).bind fun I53_13 =>
  (gR Z I53_13 11 9 a0).bind fun b55_14 =>
  (gI Z I53_13 11 1 a0).bind fun x60_15 =>
  (sI Z I53_13 100 b55_14 (0 : Int32) x60_15).bind fun I63_16 =>
  f211_b66 kad N Z N a0 i1 (0 : Int32) I63_16
set_option maxRecDepth 20000 in
theorem Tf211 {kad : Nat → Nat} {N : Nat} {Z : AZ} {d : Nat} {t : Option Nat × (Nat × Nat)} (hd : 4 ≤ d) : ∀ (a0 : Nat) (i1 : Int32) (I : AI) (r : Int32 × AI), f211 kad N Z a0 i1 I = some r → aGo kad d 211 (0, ([(0, .ref a0), (1, .int i1)], [])) (aMem Z I, t) (qI Z t r) := by
  intro a0 i1 I r h
  unfold f211 at h
  refine go_ops aMi211 3 _ (f1 := (4, ([(0, .ref a0), (1, .int i1)], [.ref a0, .int (8 : Int32), .ref a0]))) rfl ?_
  obtain ⟨b4_1, hxb4_1, h⟩ := Option.bind_eq_some_iff.mp h
  refine gg_gR aMi211 rfl rfl rfl hxb4_1 ?_
  refine go_ops aMi211 1 _ (f1 := (8, ([(0, .ref a0), (1, .int i1)], [.int (0 : Int32), .ref b4_1, .int (8 : Int32), .ref a0]))) rfl ?_
  obtain ⟨x8_2, hxx8_2, h⟩ := Option.bind_eq_some_iff.mp h
  refine gg_lI (Or.inl ⟨rfl, rfl⟩) aMi211 rfl hxx8_2 ?_
  refine go_ops aMi211 1 _ (f1 := (10, ([(0, .ref a0), (1, .int i1)], [.int ((8 : Int32) + x8_2), .ref a0]))) rfl ?_
  obtain ⟨I10_3, hxI10_3, h⟩ := Option.bind_eq_some_iff.mp h
  refine gg_pI aMi211 rfl rfl rfl rfl (by decide) hxI10_3 ?_
  refine go_ops aMi211 1 _ (f1 := (14, ([(0, .ref a0), (1, .int i1)], [.ref a0]))) rfl ?_
  obtain ⟨b14_4, hxb14_4, h⟩ := Option.bind_eq_some_iff.mp h
  refine gg_gR aMi211 rfl rfl rfl hxb14_4 ?_
  refine go_ops aMi211 2 _ (f1 := (19, ([(0, .ref a0), (1, .int i1)], [.int (0 : Int32), .int (0 : Int32), .ref b14_4]))) rfl ?_
  obtain ⟨I19_5, hxI19_5, h⟩ := Option.bind_eq_some_iff.mp h
  refine gg_sI (Or.inl ⟨rfl, rfl⟩) aMi211 rfl hxI19_5 ?_
  refine go_ops aMi211 1 _ (f1 := (21, ([(0, .ref a0), (1, .int i1)], [.ref a0]))) rfl ?_
  obtain ⟨b21_6, hxb21_6, h⟩ := Option.bind_eq_some_iff.mp h
  refine gg_gR aMi211 rfl rfl rfl hxb21_6 ?_
  refine go_ops aMi211 2 _ (f1 := (26, ([(0, .ref a0), (1, .int i1)], [.int (0 : Int32), .int (1 : Int32), .ref b21_6]))) rfl ?_
  obtain ⟨I26_7, hxI26_7, h⟩ := Option.bind_eq_some_iff.mp h
  refine gg_sI (Or.inl ⟨rfl, rfl⟩) aMi211 rfl hxI26_7 ?_
  refine go_ops aMi211 2 _ (f1 := (29, ([(0, .ref a0), (1, .int i1)], [.int (0 : Int32), .ref a0]))) rfl ?_
  obtain ⟨I29_8, hxI29_8, h⟩ := Option.bind_eq_some_iff.mp h
  refine gg_pI aMi211 rfl rfl rfl rfl (by decide) hxI29_8 ?_
  refine go_ops aMi211 2 _ (f1 := (34, ([(0, .ref a0), (1, .int i1)], [.int (0 : Int32), .ref a0]))) rfl ?_
  obtain ⟨I34_9, hxI34_9, h⟩ := Option.bind_eq_some_iff.mp h
  refine gg_pI aMi211 rfl rfl rfl rfl (by decide) hxI34_9 ?_
  refine go_ops aMi211 2 _ (f1 := (39, ([(0, .ref a0), (1, .int i1)], [.int (0 : Int32), .ref a0]))) rfl ?_
  obtain ⟨I39_10, hxI39_10, h⟩ := Option.bind_eq_some_iff.mp h
  refine gg_pI aMi211 rfl rfl rfl rfl (by decide) hxI39_10 ?_
  refine go_ops aMi211 2 _ (f1 := (44, ([(0, .ref a0), (1, .int i1)], [.int (0 : Int32), .ref a0]))) rfl ?_
  obtain ⟨I44_11, hxI44_11, h⟩ := Option.bind_eq_some_iff.mp h
  refine gg_pI aMi211 rfl rfl rfl rfl (by decide) hxI44_11 ?_
  refine go_ops aMi211 1 _ (f1 := (48, ([(0, .ref a0), (1, .int i1)], [.ref a0]))) rfl ?_
  obtain ⟨b48_12, hxb48_12, h⟩ := Option.bind_eq_some_iff.mp h
  refine gg_gR aMi211 rfl rfl rfl hxb48_12 ?_
  refine go_ops aMi211 2 _ (f1 := (53, ([(0, .ref a0), (1, .int i1)], [.int (0 : Int32), .int (0 : Int32), .ref b48_12]))) rfl ?_
  obtain ⟨I53_13, hxI53_13, h⟩ := Option.bind_eq_some_iff.mp h
  refine gg_sI (Or.inl ⟨rfl, rfl⟩) aMi211 rfl hxI53_13 ?_
  refine go_ops aMi211 1 _ (f1 := (55, ([(0, .ref a0), (1, .int i1)], [.ref a0]))) rfl ?_
  obtain ⟨b55_14, hxb55_14, h⟩ := Option.bind_eq_some_iff.mp h
  refine gg_gR aMi211 rfl rfl rfl hxb55_14 ?_
  refine go_ops aMi211 2 _ (f1 := (60, ([(0, .ref a0), (1, .int i1)], [.ref a0, .int (0 : Int32), .ref b55_14]))) rfl ?_
  obtain ⟨x60_15, hxx60_15, h⟩ := Option.bind_eq_some_iff.mp h
  refine gg_gI aMi211 rfl rfl rfl hxx60_15 ?_
  obtain ⟨I63_16, hxI63_16, h⟩ := Option.bind_eq_some_iff.mp h
  refine gg_sI (Or.inl ⟨rfl, rfl⟩) aMi211 rfl hxI63_16 ?_
  refine go_ops aMi211 2 _ (f1 := (66, ([(2, .int (0 : Int32)), (0, .ref a0), (1, .int i1)], []))) rfl ?_
  refine go_le (lv1 := [(0, .ref a0), (1, .int i1), (2, .int (0 : Int32))]) (aLe_of (show (List.map (fun q => q.1) ([(0, .ref a0), (1, .int i1), (2, .int (0 : Int32))] : ALv)).Nodup from (by show ([0, 1, 2] : List Nat).Nodup; decide)) (aSubL_cons rfl (aSubL_cons rfl (aSubL_cons rfl aSubL_nil)))) ?_
  exact Tf211_b66 hd N a0 i1 (0 : Int32) I63_16 _ h
-- KernelGymModel.errorOfSource ()I
def f212_b63 (kad : Nat → Nat) (N : Nat) (Z : AZ) (s0 : Int32) (I : AI) : Option (Int32 × AI) :=
  some (s0, I)
set_option maxRecDepth 20000 in
theorem Tf212_b63 {kad : Nat → Nat} {N : Nat} {Z : AZ} {d : Nat} {t : Option Nat × (Nat × Nat)} (hd : 5 ≤ d) : ∀ (s0 : Int32) (I : AI) (r : Int32 × AI), f212_b63 kad N Z s0 I = some r → aGo kad d 212 (63, ([], [.int s0])) (aMem Z I, t) (qI Z t r) := by
  intro s0 I r h
  unfold f212_b63 at h
  cases h
  exact go_ret aMi212 rfl aRetI ⟨rfl, rfl⟩
def f212_b24 (kad : Nat → Nat) (N : Nat) (Z : AZ) : Nat → Nat → Int32 → AI → Option (Int32 × AI)
  | 0, _, _, _ => none
  | F + 1, a0, i1, I =>
    if (256 : Int32) ≤ i1 then
      (isK Z a0 11).bind fun u46_1 =>
      (f211 kad N Z a0 (0 : Int32) I).bind fun r46_2 =>
      if ¬ r46_2.1 = 0 then
        f212_b63 kad N Z r46_2.1 r46_2.2
      else
        (isK Z a0 11).bind fun u56_3 =>
        (f211 kad N Z a0 (1 : Int32) r46_2.2).bind fun r56_4 =>
        f212_b63 kad N Z r56_4.1 r56_4.2
    else
      (gR Z I 11 20 a0).bind fun b32_5 =>
      (sI Z I 100 b32_5 i1 (0 : Int32)).bind fun I37_6 =>
      f212_b24 kad N Z F a0 (i1 + (1 : Int32)) I37_6
set_option maxRecDepth 20000 in
theorem Tf212_b24 {kad : Nat → Nat} {N : Nat} {Z : AZ} {d : Nat} {t : Option Nat × (Nat × Nat)} (hd : 5 ≤ d) : ∀ (F : Nat) (a0 : Nat) (i1 : Int32) (I : AI) (r : Int32 × AI), f212_b24 kad N Z F a0 i1 I = some r → aGo kad d 212 (24, ([(0, .ref a0), (1, .int i1)], [])) (aMem Z I, t) (qI Z t r) := by
  intro F
  induction F with
  | zero => intro a0 i1 I r h; cases h
  | succ F ih =>
    intro a0 i1 I r h
    unfold f212_b24 at h
    refine go_ops aMi212 2 _ (f1 := (28, ([(0, .ref a0), (1, .int i1)], [.int (256 : Int32), .int i1]))) rfl ?_
    refine gg_br (b := decide ((256 : Int32) ≤ i1)) (tg := 44) (off := 16) aMi212 rfl rfl rfl rfl (fun hb => ?_) (fun hb => ?_)
    · rw [if_pos (of_decide_eq_true hb)] at h
      refine go_ops aMi212 2 _ (f1 := (46, ([(0, .ref a0), (1, .int i1)], [.int (0 : Int32), .ref a0]))) rfl ?_
      obtain ⟨u46_1, hxu46_1, h⟩ := Option.bind_eq_some_iff.mp h
      obtain ⟨r46_2, hxr46_2, h⟩ := Option.bind_eq_some_iff.mp h
      refine gg_cv (as := [.int (0 : Int32)]) (r := []) aMi212 rfl rfl rfl aMi211 (Nat.le_of_ble_eq_true rfl) rfl (Nat.le_of_ble_eq_true rfl) (Nat.le_of_ble_eq_true rfl) (by omega) hxu46_1 (Tf211 (by omega) a0 (0 : Int32) I _ hxr46_2) ?_
      show aGo kad d 212 (49, ([(0, .ref a0), (1, .int i1)], [.int r46_2.1])) (aMem Z r46_2.2, t) _
      refine go_ops aMi212 2 _ (f1 := (51, ([(1, .int r46_2.1), (0, .ref a0)], [.int r46_2.1]))) rfl ?_
      refine gg_br (b := decide (¬ r46_2.1 = 0)) (tg := 62) (off := 11) aMi212 rfl rfl rfl rfl (fun hb => ?_) (fun hb => ?_)
      · rw [if_pos (of_decide_eq_true hb)] at h
        refine go_ops aMi212 1 _ (f1 := (63, ([(1, .int r46_2.1), (0, .ref a0)], [.int r46_2.1]))) rfl ?_
        refine go_le (lv1 := []) (aLe_of (show (List.map (fun q => q.1) ([] : ALv)).Nodup from (by show ([] : List Nat).Nodup; decide)) aSubL_nil) ?_
        exact Tf212_b63 hd r46_2.1 r46_2.2 _ h
      · rw [if_neg (of_decide_eq_false hb)] at h
        refine go_ops aMi212 2 _ (f1 := (56, ([(1, .int r46_2.1), (0, .ref a0)], [.int (1 : Int32), .ref a0]))) rfl ?_
        obtain ⟨u56_3, hxu56_3, h⟩ := Option.bind_eq_some_iff.mp h
        obtain ⟨r56_4, hxr56_4, h⟩ := Option.bind_eq_some_iff.mp h
        refine gg_cv (as := [.int (1 : Int32)]) (r := []) aMi212 rfl rfl rfl aMi211 (Nat.le_of_ble_eq_true rfl) rfl (Nat.le_of_ble_eq_true rfl) (Nat.le_of_ble_eq_true rfl) (by omega) hxu56_3 (Tf211 (by omega) a0 (1 : Int32) r46_2.2 _ hxr56_4) ?_
        show aGo kad d 212 (59, ([(1, .int r46_2.1), (0, .ref a0)], [.int r56_4.1])) (aMem Z r56_4.2, t) _
        refine go_ops aMi212 1 _ (f1 := (63, ([(1, .int r46_2.1), (0, .ref a0)], [.int r56_4.1]))) rfl ?_
        refine go_le (lv1 := []) (aLe_of (show (List.map (fun q => q.1) ([] : ALv)).Nodup from (by show ([] : List Nat).Nodup; decide)) aSubL_nil) ?_
        exact Tf212_b63 hd r56_4.1 r56_4.2 _ h
    · rw [if_neg (of_decide_eq_false hb)] at h
      refine go_ops aMi212 1 _ (f1 := (32, ([(0, .ref a0), (1, .int i1)], [.ref a0]))) rfl ?_
      obtain ⟨b32_5, hxb32_5, h⟩ := Option.bind_eq_some_iff.mp h
      refine gg_gR aMi212 rfl rfl rfl hxb32_5 ?_
      refine go_ops aMi212 2 _ (f1 := (37, ([(0, .ref a0), (1, .int i1)], [.int (0 : Int32), .int i1, .ref b32_5]))) rfl ?_
      obtain ⟨I37_6, hxI37_6, h⟩ := Option.bind_eq_some_iff.mp h
      refine gg_sI (Or.inl ⟨rfl, rfl⟩) aMi212 rfl hxI37_6 ?_
      refine go_ops aMi212 2 _ (f1 := (24, ([(1, .int (i1 + (1 : Int32))), (0, .ref a0)], []))) rfl ?_
      refine go_le (lv1 := [(0, .ref a0), (1, .int (i1 + (1 : Int32)))]) (aLe_of (show (List.map (fun q => q.1) ([(0, .ref a0), (1, .int (i1 + (1 : Int32)))] : ALv)).Nodup from (by show ([0, 1] : List Nat).Nodup; decide)) (aSubL_cons rfl (aSubL_cons rfl aSubL_nil))) ?_
      exact ih a0 (i1 + (1 : Int32)) I37_6 _ h
def f212_b2 (kad : Nat → Nat) (N : Nat) (Z : AZ) : Nat → Nat → Int32 → AI → Option (Int32 × AI)
  | 0, _, _, _ => none
  | F + 1, a0, i1, I =>
    if (1220 : Int32) ≤ i1 then
      f212_b24 kad N Z N a0 (0 : Int32) I
    else
      (gR Z I 11 4 a0).bind fun b10_1 =>
      (sI Z I 100 b10_1 i1 (Int32.ofInt (-1))).bind fun I15_2 =>
      f212_b2 kad N Z F a0 (i1 + (1 : Int32)) I15_2
set_option maxRecDepth 20000 in
theorem Tf212_b2 {kad : Nat → Nat} {N : Nat} {Z : AZ} {d : Nat} {t : Option Nat × (Nat × Nat)} (hd : 5 ≤ d) : ∀ (F : Nat) (a0 : Nat) (i1 : Int32) (I : AI) (r : Int32 × AI), f212_b2 kad N Z F a0 i1 I = some r → aGo kad d 212 (2, ([(0, .ref a0), (1, .int i1)], [])) (aMem Z I, t) (qI Z t r) := by
  intro F
  induction F with
  | zero => intro a0 i1 I r h; cases h
  | succ F ih =>
    intro a0 i1 I r h
    unfold f212_b2 at h
    refine go_ops aMi212 2 _ (f1 := (6, ([(0, .ref a0), (1, .int i1)], [.int (1220 : Int32), .int i1]))) rfl ?_
    refine gg_br (b := decide ((1220 : Int32) ≤ i1)) (tg := 22) (off := 16) aMi212 rfl rfl rfl rfl (fun hb => ?_) (fun hb => ?_)
    · rw [if_pos (of_decide_eq_true hb)] at h
      refine go_ops aMi212 2 _ (f1 := (24, ([(1, .int (0 : Int32)), (0, .ref a0)], []))) rfl ?_
      refine go_le (lv1 := [(0, .ref a0), (1, .int (0 : Int32))]) (aLe_of (show (List.map (fun q => q.1) ([(0, .ref a0), (1, .int (0 : Int32))] : ALv)).Nodup from (by show ([0, 1] : List Nat).Nodup; decide)) (aSubL_cons rfl (aSubL_cons rfl aSubL_nil))) ?_
      exact Tf212_b24 hd N a0 (0 : Int32) I _ h
    · rw [if_neg (of_decide_eq_false hb)] at h
      refine go_ops aMi212 1 _ (f1 := (10, ([(0, .ref a0), (1, .int i1)], [.ref a0]))) rfl ?_
      obtain ⟨b10_1, hxb10_1, h⟩ := Option.bind_eq_some_iff.mp h
      refine gg_gR aMi212 rfl rfl rfl hxb10_1 ?_
      refine go_ops aMi212 2 _ (f1 := (15, ([(0, .ref a0), (1, .int i1)], [.int (Int32.ofInt (-1)), .int i1, .ref b10_1]))) rfl ?_
      obtain ⟨I15_2, hxI15_2, h⟩ := Option.bind_eq_some_iff.mp h
      refine gg_sI (Or.inl ⟨rfl, rfl⟩) aMi212 rfl hxI15_2 ?_
      refine go_ops aMi212 2 _ (f1 := (2, ([(1, .int (i1 + (1 : Int32))), (0, .ref a0)], []))) rfl ?_
      refine go_le (lv1 := [(0, .ref a0), (1, .int (i1 + (1 : Int32)))]) (aLe_of (show (List.map (fun q => q.1) ([(0, .ref a0), (1, .int (i1 + (1 : Int32)))] : ALv)).Nodup from (by show ([0, 1] : List Nat).Nodup; decide)) (aSubL_cons rfl (aSubL_cons rfl aSubL_nil))) ?_
      exact ih a0 (i1 + (1 : Int32)) I15_2 _ h
def f212 (kad : Nat → Nat) (N : Nat) (Z : AZ) (a0 : Nat) (I : AI) : Option (Int32 × AI) :=
  f212_b2 kad N Z N a0 (0 : Int32) I
set_option maxRecDepth 20000 in
theorem Tf212 {kad : Nat → Nat} {N : Nat} {Z : AZ} {d : Nat} {t : Option Nat × (Nat × Nat)} (hd : 5 ≤ d) : ∀ (a0 : Nat) (I : AI) (r : Int32 × AI), f212 kad N Z a0 I = some r → aGo kad d 212 (0, ([(0, .ref a0)], [])) (aMem Z I, t) (qI Z t r) := by
  intro a0 I r h
  unfold f212 at h
  refine go_ops aMi212 2 _ (f1 := (2, ([(1, .int (0 : Int32)), (0, .ref a0)], []))) rfl ?_
  refine go_le (lv1 := [(0, .ref a0), (1, .int (0 : Int32))]) (aLe_of (show (List.map (fun q => q.1) ([(0, .ref a0), (1, .int (0 : Int32))] : ALv)).Nodup from (by show ([0, 1] : List Nat).Nodup; decide)) (aSubL_cons rfl (aSubL_cons rfl aSubL_nil))) ?_
  exact Tf212_b2 hd N a0 (0 : Int32) I _ h
-- KernelGymModel.error ()I
def f213 (kad : Nat → Nat) (N : Nat) (Z : AZ) (a0 : Nat) (I : AI) : Option (Int32 × AI) :=
  (pI Z I 11 0 a0 (0 : Int32)).bind fun I2_1 =>
  (isK Z a0 11).bind fun u6_2 =>
  (f212 kad N Z a0 I2_1).bind fun r6_3 =>
  some (r6_3.1, r6_3.2)
set_option maxRecDepth 20000 in
theorem Tf213 {kad : Nat → Nat} {N : Nat} {Z : AZ} {d : Nat} {t : Option Nat × (Nat × Nat)} (hd : 6 ≤ d) : ∀ (a0 : Nat) (I : AI) (r : Int32 × AI), f213 kad N Z a0 I = some r → aGo kad d 213 (0, ([(0, .ref a0)], [])) (aMem Z I, t) (qI Z t r) := by
  intro a0 I r h
  unfold f213 at h
  refine go_ops aMi213 2 _ (f1 := (2, ([(0, .ref a0)], [.int (0 : Int32), .ref a0]))) rfl ?_
  obtain ⟨I2_1, hxI2_1, h⟩ := Option.bind_eq_some_iff.mp h
  refine gg_pI aMi213 rfl rfl rfl rfl (by decide) hxI2_1 ?_
  refine go_ops aMi213 1 _ (f1 := (6, ([(0, .ref a0)], [.ref a0]))) rfl ?_
  obtain ⟨u6_2, hxu6_2, h⟩ := Option.bind_eq_some_iff.mp h
  obtain ⟨r6_3, hxr6_3, h⟩ := Option.bind_eq_some_iff.mp h
  refine gg_cv (as := []) (r := []) aMi213 rfl rfl rfl aMi212 (Nat.le_of_ble_eq_true rfl) rfl (Nat.le_of_ble_eq_true rfl) (Nat.le_of_ble_eq_true rfl) (by omega) hxu6_2 (Tf212 (by omega) a0 I2_1 _ hxr6_3) ?_
  show aGo kad d 213 (9, ([(0, .ref a0)], [.int r6_3.1])) (aMem Z r6_3.2, t) _
  cases h
  exact go_ret aMi213 rfl aRetI ⟨rfl, rfl⟩
-- KernelGymModel.assemble ()I
def f214_b23 (kad : Nat → Nat) (N : Nat) (Z : AZ) : Nat → Nat → Int32 → AI → Option (Int32 × AI)
  | 0, _, _, _ => none
  | F + 1, a0, i1, I =>
    if (256 : Int32) ≤ i1 then
      (pB Z I 11 22 a0 (1 : Int32)).bind fun I50_1 =>
      (gR Z I50_1 11 5 a0).bind fun b54_2 =>
      (lI Z I50_1 100 b54_2 (0 : Int32)).bind fun x58_3 =>
      (gR Z I50_1 11 5 a0).bind fun b60_4 =>
      (lI Z I50_1 100 b60_4 (1 : Int32)).bind fun x64_5 =>
      some ((x58_3 + x64_5), I50_1)
    else
      (gR Z I 11 21 a0).bind fun b31_6 =>
      (gR Z I 11 20 a0).bind fun b36_7 =>
      (lI Z I 100 b36_7 i1).bind fun x40_8 =>
      (sI Z I 100 b31_6 i1 x40_8).bind fun I41_9 =>
      f214_b23 kad N Z F a0 (i1 + (1 : Int32)) I41_9
set_option maxRecDepth 20000 in
theorem Tf214_b23 {kad : Nat → Nat} {N : Nat} {Z : AZ} {d : Nat} {t : Option Nat × (Nat × Nat)} (hd : 6 ≤ d) : ∀ (F : Nat) (a0 : Nat) (i1 : Int32) (I : AI) (r : Int32 × AI), f214_b23 kad N Z F a0 i1 I = some r → aGo kad d 214 (23, ([(0, .ref a0), (1, .int i1)], [])) (aMem Z I, t) (qI Z t r) := by
  intro F
  induction F with
  | zero => intro a0 i1 I r h; cases h
  | succ F ih =>
    intro a0 i1 I r h
    unfold f214_b23 at h
    refine go_ops aMi214 2 _ (f1 := (27, ([(0, .ref a0), (1, .int i1)], [.int (256 : Int32), .int i1]))) rfl ?_
    refine gg_br (b := decide ((256 : Int32) ≤ i1)) (tg := 48) (off := 21) aMi214 rfl rfl rfl rfl (fun hb => ?_) (fun hb => ?_)
    · rw [if_pos (of_decide_eq_true hb)] at h
      refine go_ops aMi214 2 _ (f1 := (50, ([(0, .ref a0), (1, .int i1)], [.int (1 : Int32), .ref a0]))) rfl ?_
      obtain ⟨I50_1, hxI50_1, h⟩ := Option.bind_eq_some_iff.mp h
      refine gg_pB aMi214 rfl rfl rfl rfl (by decide) hxI50_1 ?_
      refine go_ops aMi214 1 _ (f1 := (54, ([(0, .ref a0), (1, .int i1)], [.ref a0]))) rfl ?_
      obtain ⟨b54_2, hxb54_2, h⟩ := Option.bind_eq_some_iff.mp h
      refine gg_gR aMi214 rfl rfl rfl hxb54_2 ?_
      refine go_ops aMi214 1 _ (f1 := (58, ([(0, .ref a0), (1, .int i1)], [.int (0 : Int32), .ref b54_2]))) rfl ?_
      obtain ⟨x58_3, hxx58_3, h⟩ := Option.bind_eq_some_iff.mp h
      refine gg_lI (Or.inl ⟨rfl, rfl⟩) aMi214 rfl hxx58_3 ?_
      refine go_ops aMi214 1 _ (f1 := (60, ([(0, .ref a0), (1, .int i1)], [.ref a0, .int x58_3]))) rfl ?_
      obtain ⟨b60_4, hxb60_4, h⟩ := Option.bind_eq_some_iff.mp h
      refine gg_gR aMi214 rfl rfl rfl hxb60_4 ?_
      refine go_ops aMi214 1 _ (f1 := (64, ([(0, .ref a0), (1, .int i1)], [.int (1 : Int32), .ref b60_4, .int x58_3]))) rfl ?_
      obtain ⟨x64_5, hxx64_5, h⟩ := Option.bind_eq_some_iff.mp h
      refine gg_lI (Or.inl ⟨rfl, rfl⟩) aMi214 rfl hxx64_5 ?_
      refine go_ops aMi214 1 _ (f1 := (66, ([(0, .ref a0), (1, .int i1)], [.int (x58_3 + x64_5)]))) rfl ?_
      cases h
      exact go_ret aMi214 rfl aRetI ⟨rfl, rfl⟩
    · rw [if_neg (of_decide_eq_false hb)] at h
      refine go_ops aMi214 1 _ (f1 := (31, ([(0, .ref a0), (1, .int i1)], [.ref a0]))) rfl ?_
      obtain ⟨b31_6, hxb31_6, h⟩ := Option.bind_eq_some_iff.mp h
      refine gg_gR aMi214 rfl rfl rfl hxb31_6 ?_
      refine go_ops aMi214 2 _ (f1 := (36, ([(0, .ref a0), (1, .int i1)], [.ref a0, .int i1, .ref b31_6]))) rfl ?_
      obtain ⟨b36_7, hxb36_7, h⟩ := Option.bind_eq_some_iff.mp h
      refine gg_gR aMi214 rfl rfl rfl hxb36_7 ?_
      refine go_ops aMi214 1 _ (f1 := (40, ([(0, .ref a0), (1, .int i1)], [.int i1, .ref b36_7, .int i1, .ref b31_6]))) rfl ?_
      obtain ⟨x40_8, hxx40_8, h⟩ := Option.bind_eq_some_iff.mp h
      refine gg_lI (Or.inl ⟨rfl, rfl⟩) aMi214 rfl hxx40_8 ?_
      obtain ⟨I41_9, hxI41_9, h⟩ := Option.bind_eq_some_iff.mp h
      refine gg_sI (Or.inl ⟨rfl, rfl⟩) aMi214 rfl hxI41_9 ?_
      refine go_ops aMi214 2 _ (f1 := (23, ([(1, .int (i1 + (1 : Int32))), (0, .ref a0)], []))) rfl ?_
      refine go_le (lv1 := [(0, .ref a0), (1, .int (i1 + (1 : Int32)))]) (aLe_of (show (List.map (fun q => q.1) ([(0, .ref a0), (1, .int (i1 + (1 : Int32)))] : ALv)).Nodup from (by show ([0, 1] : List Nat).Nodup; decide)) (aSubL_cons rfl (aSubL_cons rfl aSubL_nil))) ?_
      exact ih a0 (i1 + (1 : Int32)) I41_9 _ h
def f214_b13 (kad : Nat → Nat) (N : Nat) (Z : AZ) (a0 : Nat) (s0 : Int32) (s1 : Nat) (I : AI) : Option (Int32 × AI) :=
  (isK Z s1 11).bind fun u13_1 =>
  (f185 kad N Z s1 s0 I).bind fun r13_2 =>
  if ¬ r13_2.1 = 0 then
    f214_b23 kad N Z N a0 (0 : Int32) r13_2.2
  else
    some ((0 : Int32), r13_2.2)
set_option maxRecDepth 20000 in
theorem Tf214_b13 {kad : Nat → Nat} {N : Nat} {Z : AZ} {d : Nat} {t : Option Nat × (Nat × Nat)} (hd : 6 ≤ d) : ∀ (a0 : Nat) (s0 : Int32) (s1 : Nat) (I : AI) (r : Int32 × AI), f214_b13 kad N Z a0 s0 s1 I = some r → aGo kad d 214 (13, ([(0, .ref a0)], [.int s0, .ref s1])) (aMem Z I, t) (qI Z t r) := by
  intro a0 s0 s1 I r h
  unfold f214_b13 at h
  obtain ⟨u13_1, hxu13_1, h⟩ := Option.bind_eq_some_iff.mp h
  obtain ⟨r13_2, hxr13_2, h⟩ := Option.bind_eq_some_iff.mp h
  refine gg_cv (as := [.int s0]) (r := []) aMi214 rfl rfl rfl aMi185 (Nat.le_of_ble_eq_true rfl) rfl (Nat.le_of_ble_eq_true rfl) (Nat.le_of_ble_eq_true rfl) (by omega) hxu13_1 (Tf185 (by omega) s1 s0 I _ hxr13_2) ?_
  show aGo kad d 214 (16, ([(0, .ref a0)], [.int r13_2.1])) (aMem Z r13_2.2, t) _
  refine gg_br (b := decide (¬ r13_2.1 = 0)) (tg := 21) (off := 5) aMi214 rfl rfl rfl rfl (fun hb => ?_) (fun hb => ?_)
  · rw [if_pos (of_decide_eq_true hb)] at h
    refine go_ops aMi214 2 _ (f1 := (23, ([(1, .int (0 : Int32)), (0, .ref a0)], []))) rfl ?_
    refine go_le (lv1 := [(0, .ref a0), (1, .int (0 : Int32))]) (aLe_of (show (List.map (fun q => q.1) ([(0, .ref a0), (1, .int (0 : Int32))] : ALv)).Nodup from (by show ([0, 1] : List Nat).Nodup; decide)) (aSubL_cons rfl (aSubL_cons rfl aSubL_nil))) ?_
    exact Tf214_b23 hd N a0 (0 : Int32) r13_2.2 _ h
  · rw [if_neg (of_decide_eq_false hb)] at h
    refine go_ops aMi214 1 _ (f1 := (20, ([(0, .ref a0)], [.int (0 : Int32)]))) rfl ?_
    cases h
    exact go_ret aMi214 rfl aRetI ⟨rfl, rfl⟩
def f214 (kad : Nat → Nat) (N : Nat) (Z : AZ) (a0 : Nat) (I : AI) : Option (Int32 × AI) :=
  (isK Z a0 11).bind fun u2_1 =>
  (f212 kad N Z a0 I).bind fun r2_2 =>
  if ¬ r2_2.1 = 0 then
    f214_b13 kad N Z a0 (1 : Int32) a0 r2_2.2
  else
    f214_b13 kad N Z a0 (0 : Int32) a0 r2_2.2
set_option maxRecDepth 20000 in
theorem Tf214 {kad : Nat → Nat} {N : Nat} {Z : AZ} {d : Nat} {t : Option Nat × (Nat × Nat)} (hd : 6 ≤ d) : ∀ (a0 : Nat) (I : AI) (r : Int32 × AI), f214 kad N Z a0 I = some r → aGo kad d 214 (0, ([(0, .ref a0)], [])) (aMem Z I, t) (qI Z t r) := by
  intro a0 I r h
  unfold f214 at h
  refine go_ops aMi214 2 _ (f1 := (2, ([(0, .ref a0)], [.ref a0, .ref a0]))) rfl ?_
  obtain ⟨u2_1, hxu2_1, h⟩ := Option.bind_eq_some_iff.mp h
  obtain ⟨r2_2, hxr2_2, h⟩ := Option.bind_eq_some_iff.mp h
  refine gg_cv (as := []) (r := [.ref a0]) aMi214 rfl rfl rfl aMi212 (Nat.le_of_ble_eq_true rfl) rfl (Nat.le_of_ble_eq_true rfl) (Nat.le_of_ble_eq_true rfl) (by omega) hxu2_1 (Tf212 (by omega) a0 I _ hxr2_2) ?_
  show aGo kad d 214 (5, ([(0, .ref a0)], [.int r2_2.1, .ref a0])) (aMem Z r2_2.2, t) _
  refine gg_br (b := decide (¬ r2_2.1 = 0)) (tg := 12) (off := 7) aMi214 rfl rfl rfl rfl (fun hb => ?_) (fun hb => ?_)
  · rw [if_pos (of_decide_eq_true hb)] at h
    refine go_ops aMi214 1 _ (f1 := (13, ([(0, .ref a0)], [.int (1 : Int32), .ref a0]))) rfl ?_
    exact Tf214_b13 hd a0 (1 : Int32) a0 r2_2.2 _ h
  · rw [if_neg (of_decide_eq_false hb)] at h
    refine go_ops aMi214 2 _ (f1 := (13, ([(0, .ref a0)], [.int (0 : Int32), .ref a0]))) rfl ?_
    exact Tf214_b13 hd a0 (0 : Int32) a0 r2_2.2 _ h
-- KernelGymModel.image (I)I
def f215_b44 (kad : Nat → Nat) (N : Nat) (Z : AZ) (s0 : Int32) (I : AI) : Option (Int32 × AI) :=
  some (s0, I)
set_option maxRecDepth 20000 in
theorem Tf215_b44 {kad : Nat → Nat} {N : Nat} {Z : AZ} {d : Nat} {t : Option Nat × (Nat × Nat)} (hd : 1 ≤ d) : ∀ (s0 : Int32) (I : AI) (r : Int32 × AI), f215_b44 kad N Z s0 I = some r → aGo kad d 215 (44, ([], [.int s0])) (aMem Z I, t) (qI Z t r) := by
  intro s0 I r h
  unfold f215_b44 at h
  cases h
  exact go_ret aMi215 rfl aRetI ⟨rfl, rfl⟩
def f215_b28 (kad : Nat → Nat) (N : Nat) (Z : AZ) (a0 : Nat) (i1 : Int32) (s0 : Int32) (s1 : Nat) (I : AI) : Option (Int32 × AI) :=
  (isK Z s1 11).bind fun u28_1 =>
  (f185 kad N Z s1 s0 I).bind fun r28_2 =>
  if r28_2.1 = 0 then
    f215_b44 kad N Z (0 : Int32) r28_2.2
  else
    (gR Z r28_2.2 11 21 a0).bind fun b35_3 =>
    (lI Z r28_2.2 100 b35_3 i1).bind fun x39_4 =>
    f215_b44 kad N Z x39_4 r28_2.2
set_option maxRecDepth 20000 in
theorem Tf215_b28 {kad : Nat → Nat} {N : Nat} {Z : AZ} {d : Nat} {t : Option Nat × (Nat × Nat)} (hd : 1 ≤ d) : ∀ (a0 : Nat) (i1 : Int32) (s0 : Int32) (s1 : Nat) (I : AI) (r : Int32 × AI), f215_b28 kad N Z a0 i1 s0 s1 I = some r → aGo kad d 215 (28, ([(0, .ref a0), (1, .int i1)], [.int s0, .ref s1])) (aMem Z I, t) (qI Z t r) := by
  intro a0 i1 s0 s1 I r h
  unfold f215_b28 at h
  obtain ⟨u28_1, hxu28_1, h⟩ := Option.bind_eq_some_iff.mp h
  obtain ⟨r28_2, hxr28_2, h⟩ := Option.bind_eq_some_iff.mp h
  refine gg_cv (as := [.int s0]) (r := []) aMi215 rfl rfl rfl aMi185 (Nat.le_of_ble_eq_true rfl) rfl (Nat.le_of_ble_eq_true rfl) (Nat.le_of_ble_eq_true rfl) (by omega) hxu28_1 (Tf185 (by omega) s1 s0 I _ hxr28_2) ?_
  show aGo kad d 215 (31, ([(0, .ref a0), (1, .int i1)], [.int r28_2.1])) (aMem Z r28_2.2, t) _
  refine gg_br (b := decide (r28_2.1 = 0)) (tg := 43) (off := 12) aMi215 rfl rfl rfl rfl (fun hb => ?_) (fun hb => ?_)
  · rw [if_pos (of_decide_eq_true hb)] at h
    refine go_ops aMi215 1 _ (f1 := (44, ([(0, .ref a0), (1, .int i1)], [.int (0 : Int32)]))) rfl ?_
    refine go_le (lv1 := []) (aLe_of (show (List.map (fun q => q.1) ([] : ALv)).Nodup from (by show ([] : List Nat).Nodup; decide)) aSubL_nil) ?_
    exact Tf215_b44 hd (0 : Int32) r28_2.2 _ h
  · rw [if_neg (of_decide_eq_false hb)] at h
    refine go_ops aMi215 1 _ (f1 := (35, ([(0, .ref a0), (1, .int i1)], [.ref a0]))) rfl ?_
    obtain ⟨b35_3, hxb35_3, h⟩ := Option.bind_eq_some_iff.mp h
    refine gg_gR aMi215 rfl rfl rfl hxb35_3 ?_
    refine go_ops aMi215 1 _ (f1 := (39, ([(0, .ref a0), (1, .int i1)], [.int i1, .ref b35_3]))) rfl ?_
    obtain ⟨x39_4, hxx39_4, h⟩ := Option.bind_eq_some_iff.mp h
    refine gg_lI (Or.inl ⟨rfl, rfl⟩) aMi215 rfl hxx39_4 ?_
    refine go_ops aMi215 1 _ (f1 := (44, ([(0, .ref a0), (1, .int i1)], [.int x39_4]))) rfl ?_
    refine go_le (lv1 := []) (aLe_of (show (List.map (fun q => q.1) ([] : ALv)).Nodup from (by show ([] : List Nat).Nodup; decide)) aSubL_nil) ?_
    exact Tf215_b44 hd x39_4 r28_2.2 _ h
def f215 (kad : Nat → Nat) (N : Nat) (Z : AZ) (a0 : Nat) (i1 : Int32) (I : AI) : Option (Int32 × AI) :=
  (f186 kad N Z i1 (0 : Int32) (255 : Int32) I).bind fun r6_1 =>
  if ¬ r6_1.1 = 0 then
    (gI Z r6_1.2 11 22 a0).bind fun x17_2 =>
    if x17_2 = 0 then
      f215_b28 kad N Z a0 i1 (2 : Int32) a0 r6_1.2
    else
      f215_b28 kad N Z a0 i1 (0 : Int32) a0 r6_1.2
  else
    f215_b28 kad N Z a0 i1 (1 : Int32) a0 r6_1.2
set_option maxRecDepth 20000 in
theorem Tf215 {kad : Nat → Nat} {N : Nat} {Z : AZ} {d : Nat} {t : Option Nat × (Nat × Nat)} (hd : 1 ≤ d) : ∀ (a0 : Nat) (i1 : Int32) (I : AI) (r : Int32 × AI), f215 kad N Z a0 i1 I = some r → aGo kad d 215 (0, ([(0, .ref a0), (1, .int i1)], [])) (aMem Z I, t) (qI Z t r) := by
  intro a0 i1 I r h
  unfold f215 at h
  refine go_ops aMi215 4 _ (f1 := (6, ([(0, .ref a0), (1, .int i1)], [.int (255 : Int32), .int (0 : Int32), .int i1, .ref a0]))) rfl ?_
  obtain ⟨r6_1, hxr6_1, h⟩ := Option.bind_eq_some_iff.mp h
  refine gg_cs (as := [.int i1, .int (0 : Int32), .int (255 : Int32)]) (r := [.ref a0]) aMi215 rfl rfl rfl aMi186 rfl (Nat.le_of_ble_eq_true rfl) (Nat.le_of_ble_eq_true rfl) (by omega) (Tf186 (by omega) i1 (0 : Int32) (255 : Int32) I _ hxr6_1) ?_
  show aGo kad d 215 (9, ([(0, .ref a0), (1, .int i1)], [.int r6_1.1, .ref a0])) (aMem Z r6_1.2, t) _
  refine gg_br (b := decide (¬ r6_1.1 = 0)) (tg := 16) (off := 7) aMi215 rfl rfl rfl rfl (fun hb => ?_) (fun hb => ?_)
  · rw [if_pos (of_decide_eq_true hb)] at h
    refine go_ops aMi215 1 _ (f1 := (17, ([(0, .ref a0), (1, .int i1)], [.ref a0, .ref a0]))) rfl ?_
    obtain ⟨x17_2, hxx17_2, h⟩ := Option.bind_eq_some_iff.mp h
    refine gg_gI aMi215 rfl rfl rfl hxx17_2 ?_
    refine gg_br (b := decide (x17_2 = 0)) (tg := 27) (off := 7) aMi215 rfl rfl rfl rfl (fun hb => ?_) (fun hb => ?_)
    · rw [if_pos (of_decide_eq_true hb)] at h
      refine go_ops aMi215 1 _ (f1 := (28, ([(0, .ref a0), (1, .int i1)], [.int (2 : Int32), .ref a0]))) rfl ?_
      exact Tf215_b28 hd a0 i1 (2 : Int32) a0 r6_1.2 _ h
    · rw [if_neg (of_decide_eq_false hb)] at h
      refine go_ops aMi215 2 _ (f1 := (28, ([(0, .ref a0), (1, .int i1)], [.int (0 : Int32), .ref a0]))) rfl ?_
      exact Tf215_b28 hd a0 i1 (0 : Int32) a0 r6_1.2 _ h
  · rw [if_neg (of_decide_eq_false hb)] at h
    refine go_ops aMi215 2 _ (f1 := (28, ([(0, .ref a0), (1, .int i1)], [.int (1 : Int32), .ref a0]))) rfl ?_
    exact Tf215_b28 hd a0 i1 (1 : Int32) a0 r6_1.2 _ h
-- KernelGymModel.isMachine ()Z
def f216_b12 (kad : Nat → Nat) (N : Nat) (Z : AZ) (s0 : Int32) (I : AI) : Option (Int32 × AI) :=
  if s0 = 0 ∨ s0 = 1 then some (s0, I) else none
set_option maxRecDepth 20000 in
theorem Tf216_b12 {kad : Nat → Nat} {N : Nat} {Z : AZ} {d : Nat} {t : Option Nat × (Nat × Nat)} (hd : 0 ≤ d) : ∀ (s0 : Int32) (I : AI) (r : Int32 × AI), f216_b12 kad N Z s0 I = some r → aGo kad d 216 (12, ([], [.int s0])) (aMem Z I, t) (qI Z t r) := by
  intro s0 I r h
  unfold f216_b12 at h
  split at h
  · rename_i hz
    cases h
    exact go_ret aMi216 rfl (aRetZ hz) ⟨rfl, rfl⟩
  · cases h
def f216 (kad : Nat → Nat) (N : Nat) (Z : AZ) (a0 : Nat) (I : AI) : Option (Int32 × AI) :=
  (gI Z I 11 23 a0).bind fun x1_1 =>
  if x1_1 = 0 then
    f216_b12 kad N Z (0 : Int32) I
  else
    f216_b12 kad N Z (1 : Int32) I
set_option maxRecDepth 20000 in
theorem Tf216 {kad : Nat → Nat} {N : Nat} {Z : AZ} {d : Nat} {t : Option Nat × (Nat × Nat)} (hd : 0 ≤ d) : ∀ (a0 : Nat) (I : AI) (r : Int32 × AI), f216 kad N Z a0 I = some r → aGo kad d 216 (0, ([(0, .ref a0)], [])) (aMem Z I, t) (qI Z t r) := by
  intro a0 I r h
  unfold f216 at h
  refine go_ops aMi216 1 _ (f1 := (1, ([(0, .ref a0)], [.ref a0]))) rfl ?_
  obtain ⟨x1_1, hxx1_1, h⟩ := Option.bind_eq_some_iff.mp h
  refine gg_gI aMi216 rfl rfl rfl hxx1_1 ?_
  refine gg_br (b := decide (x1_1 = 0)) (tg := 11) (off := 7) aMi216 rfl rfl rfl rfl (fun hb => ?_) (fun hb => ?_)
  · rw [if_pos (of_decide_eq_true hb)] at h
    refine go_ops aMi216 1 _ (f1 := (12, ([(0, .ref a0)], [.int (0 : Int32)]))) rfl ?_
    refine go_le (lv1 := []) (aLe_of (show (List.map (fun q => q.1) ([] : ALv)).Nodup from (by show ([] : List Nat).Nodup; decide)) aSubL_nil) ?_
    exact Tf216_b12 hd (0 : Int32) I _ h
  · rw [if_neg (of_decide_eq_false hb)] at h
    refine go_ops aMi216 2 _ (f1 := (12, ([(0, .ref a0)], [.int (1 : Int32)]))) rfl ?_
    refine go_le (lv1 := []) (aLe_of (show (List.map (fun q => q.1) ([] : ALv)).Nodup from (by show ([] : List Nat).Nodup; decide)) aSubL_nil) ?_
    exact Tf216_b12 hd (1 : Int32) I _ h
-- KernelGymModel.keepsWrite (I)V
def f217_b72 (kad : Nat → Nat) (N : Nat) (Z : AZ)  (I : AI) : Option (Unit × AI) :=
  some ((), I)
set_option maxRecDepth 20000 in
theorem Tf217_b72 {kad : Nat → Nat} {N : Nat} {Z : AZ} {d : Nat} {t : Option Nat × (Nat × Nat)} (hd : 0 ≤ d) : ∀  (I : AI) (r : Unit × AI), f217_b72 kad N Z  I = some r → aGo kad d 217 (72, ([], [])) (aMem Z I, t) (qV Z t r) := by
  intro  I r h
  unfold f217_b72 at h
  cases h
  exact go_ret aMi217 rfl rfl ⟨rfl, rfl⟩
def f217_b71 (kad : Nat → Nat) (N : Nat) (Z : AZ) (s0 : Int32) (s1 : Int32) (s2 : Nat) (I : AI) : Option (Unit × AI) :=
  (sI Z I 100 s2 s1 s0).bind fun I71_1 =>
  f217_b72 kad N Z  I71_1
set_option maxRecDepth 20000 in
theorem Tf217_b71 {kad : Nat → Nat} {N : Nat} {Z : AZ} {d : Nat} {t : Option Nat × (Nat × Nat)} (hd : 0 ≤ d) : ∀ (s0 : Int32) (s1 : Int32) (s2 : Nat) (I : AI) (r : Unit × AI), f217_b71 kad N Z s0 s1 s2 I = some r → aGo kad d 217 (71, ([], [.int s0, .int s1, .ref s2])) (aMem Z I, t) (qV Z t r) := by
  intro s0 s1 s2 I r h
  unfold f217_b71 at h
  obtain ⟨I71_1, hxI71_1, h⟩ := Option.bind_eq_some_iff.mp h
  refine gg_sI (Or.inl ⟨rfl, rfl⟩) aMi217 rfl hxI71_1 ?_
  exact Tf217_b72 hd  I71_1 _ h
def f217_b36 (kad : Nat → Nat) (N : Nat) (Z : AZ) (a0 : Nat) (i1 : Int32) (s0 : Int32) (s1 : Int32) (s2 : Nat) (I : AI) : Option (Unit × AI) :=
  (sI Z I 100 s2 s1 s0).bind fun I36_1 =>
  (gR Z I36_1 11 44 a0).bind fun b38_2 =>
  (gI Z I36_1 11 38 a0).bind fun x42_3 =>
  (gR Z I36_1 11 44 a0).bind fun b46_4 =>
  (gI Z I36_1 11 38 a0).bind fun x50_5 =>
  (lI Z I36_1 100 b46_4 x50_5).bind fun x53_6 =>
  if ¬ x53_6 = (Int32.ofInt (-1)) then
    (gR Z I36_1 11 44 a0).bind fun b63_7 =>
    (gI Z I36_1 11 38 a0).bind fun x67_8 =>
    (lI Z I36_1 100 b63_7 x67_8).bind fun x70_9 =>
    f217_b71 kad N Z x70_9 x42_3 b38_2 I36_1
  else
    f217_b71 kad N Z i1 x42_3 b38_2 I36_1
set_option maxRecDepth 20000 in
theorem Tf217_b36 {kad : Nat → Nat} {N : Nat} {Z : AZ} {d : Nat} {t : Option Nat × (Nat × Nat)} (hd : 0 ≤ d) : ∀ (a0 : Nat) (i1 : Int32) (s0 : Int32) (s1 : Int32) (s2 : Nat) (I : AI) (r : Unit × AI), f217_b36 kad N Z a0 i1 s0 s1 s2 I = some r → aGo kad d 217 (36, ([(0, .ref a0), (1, .int i1)], [.int s0, .int s1, .ref s2])) (aMem Z I, t) (qV Z t r) := by
  intro a0 i1 s0 s1 s2 I r h
  unfold f217_b36 at h
  obtain ⟨I36_1, hxI36_1, h⟩ := Option.bind_eq_some_iff.mp h
  refine gg_sI (Or.inl ⟨rfl, rfl⟩) aMi217 rfl hxI36_1 ?_
  refine go_ops aMi217 1 _ (f1 := (38, ([(0, .ref a0), (1, .int i1)], [.ref a0]))) rfl ?_
  obtain ⟨b38_2, hxb38_2, h⟩ := Option.bind_eq_some_iff.mp h
  refine gg_gR aMi217 rfl rfl rfl hxb38_2 ?_
  refine go_ops aMi217 1 _ (f1 := (42, ([(0, .ref a0), (1, .int i1)], [.ref a0, .ref b38_2]))) rfl ?_
  obtain ⟨x42_3, hxx42_3, h⟩ := Option.bind_eq_some_iff.mp h
  refine gg_gI aMi217 rfl rfl rfl hxx42_3 ?_
  refine go_ops aMi217 1 _ (f1 := (46, ([(0, .ref a0), (1, .int i1)], [.ref a0, .int x42_3, .ref b38_2]))) rfl ?_
  obtain ⟨b46_4, hxb46_4, h⟩ := Option.bind_eq_some_iff.mp h
  refine gg_gR aMi217 rfl rfl rfl hxb46_4 ?_
  refine go_ops aMi217 1 _ (f1 := (50, ([(0, .ref a0), (1, .int i1)], [.ref a0, .ref b46_4, .int x42_3, .ref b38_2]))) rfl ?_
  obtain ⟨x50_5, hxx50_5, h⟩ := Option.bind_eq_some_iff.mp h
  refine gg_gI aMi217 rfl rfl rfl hxx50_5 ?_
  obtain ⟨x53_6, hxx53_6, h⟩ := Option.bind_eq_some_iff.mp h
  refine gg_lI (Or.inl ⟨rfl, rfl⟩) aMi217 rfl hxx53_6 ?_
  refine go_ops aMi217 1 _ (f1 := (55, ([(0, .ref a0), (1, .int i1)], [.int (Int32.ofInt (-1)), .int x53_6, .int x42_3, .ref b38_2]))) rfl ?_
  refine gg_br (b := decide (¬ x53_6 = (Int32.ofInt (-1)))) (tg := 62) (off := 7) aMi217 rfl rfl rfl rfl (fun hb => ?_) (fun hb => ?_)
  · rw [if_pos (of_decide_eq_true hb)] at h
    refine go_ops aMi217 1 _ (f1 := (63, ([(0, .ref a0), (1, .int i1)], [.ref a0, .int x42_3, .ref b38_2]))) rfl ?_
    obtain ⟨b63_7, hxb63_7, h⟩ := Option.bind_eq_some_iff.mp h
    refine gg_gR aMi217 rfl rfl rfl hxb63_7 ?_
    refine go_ops aMi217 1 _ (f1 := (67, ([(0, .ref a0), (1, .int i1)], [.ref a0, .ref b63_7, .int x42_3, .ref b38_2]))) rfl ?_
    obtain ⟨x67_8, hxx67_8, h⟩ := Option.bind_eq_some_iff.mp h
    refine gg_gI aMi217 rfl rfl rfl hxx67_8 ?_
    obtain ⟨x70_9, hxx70_9, h⟩ := Option.bind_eq_some_iff.mp h
    refine gg_lI (Or.inl ⟨rfl, rfl⟩) aMi217 rfl hxx70_9 ?_
    refine go_le (lv1 := []) (aLe_of (show (List.map (fun q => q.1) ([] : ALv)).Nodup from (by show ([] : List Nat).Nodup; decide)) aSubL_nil) ?_
    exact Tf217_b71 hd x70_9 x42_3 b38_2 I36_1 _ h
  · rw [if_neg (of_decide_eq_false hb)] at h
    refine go_ops aMi217 2 _ (f1 := (71, ([(0, .ref a0), (1, .int i1)], [.int i1, .int x42_3, .ref b38_2]))) rfl ?_
    refine go_le (lv1 := []) (aLe_of (show (List.map (fun q => q.1) ([] : ALv)).Nodup from (by show ([] : List Nat).Nodup; decide)) aSubL_nil) ?_
    exact Tf217_b71 hd i1 x42_3 b38_2 I36_1 _ h
def f217 (kad : Nat → Nat) (N : Nat) (Z : AZ) (a0 : Nat) (i1 : Int32) (I : AI) : Option (Unit × AI) :=
  (gI Z I 11 38 a0).bind fun x1_1 =>
  if (1000 : Int32) ≤ x1_1 then
    f217_b72 kad N Z  I
  else
    (gR Z I 11 45 a0).bind fun b11_2 =>
    (gI Z I 11 38 a0).bind fun x15_3 =>
    (gR Z I 11 44 a0).bind fun b19_4 =>
    (gI Z I 11 38 a0).bind fun x23_5 =>
    (lI Z I 100 b19_4 x23_5).bind fun x26_6 =>
    if ¬ x26_6 = (Int32.ofInt (-1)) then
      f217_b36 kad N Z a0 i1 i1 x15_3 b11_2 I
    else
      f217_b36 kad N Z a0 i1 (Int32.ofInt (-1)) x15_3 b11_2 I
set_option maxRecDepth 20000 in
theorem Tf217 {kad : Nat → Nat} {N : Nat} {Z : AZ} {d : Nat} {t : Option Nat × (Nat × Nat)} (hd : 0 ≤ d) : ∀ (a0 : Nat) (i1 : Int32) (I : AI) (r : Unit × AI), f217 kad N Z a0 i1 I = some r → aGo kad d 217 (0, ([(0, .ref a0), (1, .int i1)], [])) (aMem Z I, t) (qV Z t r) := by
  intro a0 i1 I r h
  unfold f217 at h
  refine go_ops aMi217 1 _ (f1 := (1, ([(0, .ref a0), (1, .int i1)], [.ref a0]))) rfl ?_
  obtain ⟨x1_1, hxx1_1, h⟩ := Option.bind_eq_some_iff.mp h
  refine gg_gI aMi217 rfl rfl rfl hxx1_1 ?_
  refine go_ops aMi217 1 _ (f1 := (7, ([(0, .ref a0), (1, .int i1)], [.int (1000 : Int32), .int x1_1]))) rfl ?_
  refine gg_br (b := decide ((1000 : Int32) ≤ x1_1)) (tg := 72) (off := 65) aMi217 rfl rfl rfl rfl (fun hb => ?_) (fun hb => ?_)
  · rw [if_pos (of_decide_eq_true hb)] at h
    refine go_le (lv1 := []) (aLe_of (show (List.map (fun q => q.1) ([] : ALv)).Nodup from (by show ([] : List Nat).Nodup; decide)) aSubL_nil) ?_
    exact Tf217_b72 hd  I _ h
  · rw [if_neg (of_decide_eq_false hb)] at h
    refine go_ops aMi217 1 _ (f1 := (11, ([(0, .ref a0), (1, .int i1)], [.ref a0]))) rfl ?_
    obtain ⟨b11_2, hxb11_2, h⟩ := Option.bind_eq_some_iff.mp h
    refine gg_gR aMi217 rfl rfl rfl hxb11_2 ?_
    refine go_ops aMi217 1 _ (f1 := (15, ([(0, .ref a0), (1, .int i1)], [.ref a0, .ref b11_2]))) rfl ?_
    obtain ⟨x15_3, hxx15_3, h⟩ := Option.bind_eq_some_iff.mp h
    refine gg_gI aMi217 rfl rfl rfl hxx15_3 ?_
    refine go_ops aMi217 1 _ (f1 := (19, ([(0, .ref a0), (1, .int i1)], [.ref a0, .int x15_3, .ref b11_2]))) rfl ?_
    obtain ⟨b19_4, hxb19_4, h⟩ := Option.bind_eq_some_iff.mp h
    refine gg_gR aMi217 rfl rfl rfl hxb19_4 ?_
    refine go_ops aMi217 1 _ (f1 := (23, ([(0, .ref a0), (1, .int i1)], [.ref a0, .ref b19_4, .int x15_3, .ref b11_2]))) rfl ?_
    obtain ⟨x23_5, hxx23_5, h⟩ := Option.bind_eq_some_iff.mp h
    refine gg_gI aMi217 rfl rfl rfl hxx23_5 ?_
    obtain ⟨x26_6, hxx26_6, h⟩ := Option.bind_eq_some_iff.mp h
    refine gg_lI (Or.inl ⟨rfl, rfl⟩) aMi217 rfl hxx26_6 ?_
    refine go_ops aMi217 1 _ (f1 := (28, ([(0, .ref a0), (1, .int i1)], [.int (Int32.ofInt (-1)), .int x26_6, .int x15_3, .ref b11_2]))) rfl ?_
    refine gg_br (b := decide (¬ x26_6 = (Int32.ofInt (-1)))) (tg := 35) (off := 7) aMi217 rfl rfl rfl rfl (fun hb => ?_) (fun hb => ?_)
    · rw [if_pos (of_decide_eq_true hb)] at h
      refine go_ops aMi217 1 _ (f1 := (36, ([(0, .ref a0), (1, .int i1)], [.int i1, .int x15_3, .ref b11_2]))) rfl ?_
      exact Tf217_b36 hd a0 i1 i1 x15_3 b11_2 I _ h
    · rw [if_neg (of_decide_eq_false hb)] at h
      refine go_ops aMi217 2 _ (f1 := (36, ([(0, .ref a0), (1, .int i1)], [.int (Int32.ofInt (-1)), .int x15_3, .ref b11_2]))) rfl ?_
      exact Tf217_b36 hd a0 i1 (Int32.ofInt (-1)) x15_3 b11_2 I _ h
-- KernelGymModel.writes (II)V
def f218 (kad : Nat → Nat) (N : Nat) (Z : AZ) (a0 : Nat) (i1 : Int32) (i2 : Int32) (I : AI) : Option (Unit × AI) :=
  (gR Z I 11 25 a0).bind fun b1_1 =>
  (sI Z I 100 b1_1 i1 i2).bind fun I6_2 =>
  (isK Z a0 11).bind fun u9_3 =>
  (f217 kad N Z a0 i1 I6_2).bind fun r9_4 =>
  some ((), r9_4.2)
set_option maxRecDepth 20000 in
theorem Tf218 {kad : Nat → Nat} {N : Nat} {Z : AZ} {d : Nat} {t : Option Nat × (Nat × Nat)} (hd : 1 ≤ d) : ∀ (a0 : Nat) (i1 : Int32) (i2 : Int32) (I : AI) (r : Unit × AI), f218 kad N Z a0 i1 i2 I = some r → aGo kad d 218 (0, ([(0, .ref a0), (1, .int i1), (2, .int i2)], [])) (aMem Z I, t) (qV Z t r) := by
  intro a0 i1 i2 I r h
  unfold f218 at h
  refine go_ops aMi218 1 _ (f1 := (1, ([(0, .ref a0), (1, .int i1), (2, .int i2)], [.ref a0]))) rfl ?_
  obtain ⟨b1_1, hxb1_1, h⟩ := Option.bind_eq_some_iff.mp h
  refine gg_gR aMi218 rfl rfl rfl hxb1_1 ?_
  refine go_ops aMi218 2 _ (f1 := (6, ([(0, .ref a0), (1, .int i1), (2, .int i2)], [.int i2, .int i1, .ref b1_1]))) rfl ?_
  obtain ⟨I6_2, hxI6_2, h⟩ := Option.bind_eq_some_iff.mp h
  refine gg_sI (Or.inl ⟨rfl, rfl⟩) aMi218 rfl hxI6_2 ?_
  refine go_ops aMi218 2 _ (f1 := (9, ([(0, .ref a0), (1, .int i1), (2, .int i2)], [.int i1, .ref a0]))) rfl ?_
  obtain ⟨u9_3, hxu9_3, h⟩ := Option.bind_eq_some_iff.mp h
  obtain ⟨r9_4, hxr9_4, h⟩ := Option.bind_eq_some_iff.mp h
  refine gg_cv (as := [.int i1]) (r := []) aMi218 rfl rfl rfl aMi217 (Nat.le_of_ble_eq_true rfl) rfl (Nat.le_of_ble_eq_true rfl) (Nat.le_of_ble_eq_true rfl) (by omega) hxu9_3 (Tf217 (by omega) a0 i1 I6_2 _ hxr9_4) ?_
  show aGo kad d 218 (12, ([(0, .ref a0), (1, .int i1), (2, .int i2)], [])) (aMem Z r9_4.2, t) _
  cases h
  exact go_ret aMi218 rfl rfl ⟨rfl, rfl⟩
-- KernelGymModel.pushes (I)V
def f219 (kad : Nat → Nat) (N : Nat) (Z : AZ) (a0 : Nat) (i1 : Int32) (I : AI) : Option (Unit × AI) :=
  (gI Z I 11 28 a0).bind fun x2_1 =>
  (pI Z I 11 28 a0 (x2_1 - (1 : Int32))).bind fun I7_2 =>
  (gI Z I7_2 11 28 a0).bind fun x12_3 =>
  (isK Z a0 11).bind fun u16_4 =>
  (f218 kad N Z a0 x12_3 i1 I7_2).bind fun r16_5 =>
  some ((), r16_5.2)
set_option maxRecDepth 20000 in
theorem Tf219 {kad : Nat → Nat} {N : Nat} {Z : AZ} {d : Nat} {t : Option Nat × (Nat × Nat)} (hd : 2 ≤ d) : ∀ (a0 : Nat) (i1 : Int32) (I : AI) (r : Unit × AI), f219 kad N Z a0 i1 I = some r → aGo kad d 219 (0, ([(0, .ref a0), (1, .int i1)], [])) (aMem Z I, t) (qV Z t r) := by
  intro a0 i1 I r h
  unfold f219 at h
  refine go_ops aMi219 2 _ (f1 := (2, ([(0, .ref a0), (1, .int i1)], [.ref a0, .ref a0]))) rfl ?_
  obtain ⟨x2_1, hxx2_1, h⟩ := Option.bind_eq_some_iff.mp h
  refine gg_gI aMi219 rfl rfl rfl hxx2_1 ?_
  refine go_ops aMi219 2 _ (f1 := (7, ([(0, .ref a0), (1, .int i1)], [.int (x2_1 - (1 : Int32)), .ref a0]))) rfl ?_
  obtain ⟨I7_2, hxI7_2, h⟩ := Option.bind_eq_some_iff.mp h
  refine gg_pI aMi219 rfl rfl rfl rfl (by decide) hxI7_2 ?_
  refine go_ops aMi219 2 _ (f1 := (12, ([(0, .ref a0), (1, .int i1)], [.ref a0, .ref a0]))) rfl ?_
  obtain ⟨x12_3, hxx12_3, h⟩ := Option.bind_eq_some_iff.mp h
  refine gg_gI aMi219 rfl rfl rfl hxx12_3 ?_
  refine go_ops aMi219 1 _ (f1 := (16, ([(0, .ref a0), (1, .int i1)], [.int i1, .int x12_3, .ref a0]))) rfl ?_
  obtain ⟨u16_4, hxu16_4, h⟩ := Option.bind_eq_some_iff.mp h
  obtain ⟨r16_5, hxr16_5, h⟩ := Option.bind_eq_some_iff.mp h
  refine gg_cv (as := [.int x12_3, .int i1]) (r := []) aMi219 rfl rfl rfl aMi218 (Nat.le_of_ble_eq_true rfl) rfl (Nat.le_of_ble_eq_true rfl) (Nat.le_of_ble_eq_true rfl) (by omega) hxu16_4 (Tf218 (by omega) a0 x12_3 i1 I7_2 _ hxr16_5) ?_
  show aGo kad d 219 (19, ([(0, .ref a0), (1, .int i1)], [])) (aMem Z r16_5.2, t) _
  cases h
  exact go_ret aMi219 rfl rfl ⟨rfl, rfl⟩
-- KernelGymModel.pulls ()I
def f220 (kad : Nat → Nat) (N : Nat) (Z : AZ) (a0 : Nat) (I : AI) : Option (Int32 × AI) :=
  (gI Z I 11 28 a0).bind fun x2_1 =>
  (pI Z I 11 28 a0 (x2_1 + (1 : Int32))).bind fun I7_2 =>
  (gR Z I7_2 11 25 a0).bind fun b11_3 =>
  (gI Z I7_2 11 28 a0).bind fun x15_4 =>
  (lI Z I7_2 100 b11_3 (x15_4 - (1 : Int32))).bind fun x20_5 =>
  some (x20_5, I7_2)
set_option maxRecDepth 20000 in
theorem Tf220 {kad : Nat → Nat} {N : Nat} {Z : AZ} {d : Nat} {t : Option Nat × (Nat × Nat)} (hd : 0 ≤ d) : ∀ (a0 : Nat) (I : AI) (r : Int32 × AI), f220 kad N Z a0 I = some r → aGo kad d 220 (0, ([(0, .ref a0)], [])) (aMem Z I, t) (qI Z t r) := by
  intro a0 I r h
  unfold f220 at h
  refine go_ops aMi220 2 _ (f1 := (2, ([(0, .ref a0)], [.ref a0, .ref a0]))) rfl ?_
  obtain ⟨x2_1, hxx2_1, h⟩ := Option.bind_eq_some_iff.mp h
  refine gg_gI aMi220 rfl rfl rfl hxx2_1 ?_
  refine go_ops aMi220 2 _ (f1 := (7, ([(0, .ref a0)], [.int (x2_1 + (1 : Int32)), .ref a0]))) rfl ?_
  obtain ⟨I7_2, hxI7_2, h⟩ := Option.bind_eq_some_iff.mp h
  refine gg_pI aMi220 rfl rfl rfl rfl (by decide) hxI7_2 ?_
  refine go_ops aMi220 1 _ (f1 := (11, ([(0, .ref a0)], [.ref a0]))) rfl ?_
  obtain ⟨b11_3, hxb11_3, h⟩ := Option.bind_eq_some_iff.mp h
  refine gg_gR aMi220 rfl rfl rfl hxb11_3 ?_
  refine go_ops aMi220 1 _ (f1 := (15, ([(0, .ref a0)], [.ref a0, .ref b11_3]))) rfl ?_
  obtain ⟨x15_4, hxx15_4, h⟩ := Option.bind_eq_some_iff.mp h
  refine gg_gI aMi220 rfl rfl rfl hxx15_4 ?_
  refine go_ops aMi220 2 _ (f1 := (20, ([(0, .ref a0)], [.int (x15_4 - (1 : Int32)), .ref b11_3]))) rfl ?_
  obtain ⟨x20_5, hxx20_5, h⟩ := Option.bind_eq_some_iff.mp h
  refine gg_lI (Or.inl ⟨rfl, rfl⟩) aMi220 rfl hxx20_5 ?_
  cases h
  exact go_ret aMi220 rfl aRetI ⟨rfl, rfl⟩
-- KernelGymModel.faults (I)V
def f221 (kad : Nat → Nat) (N : Nat) (Z : AZ) (a0 : Nat) (i1 : Int32) (I : AI) : Option (Unit × AI) :=
  (pI Z I 11 23 a0 (3 : Int32)).bind fun I2_1 =>
  (pI Z I2_1 11 24 a0 i1).bind fun I7_2 =>
  some ((), I7_2)
set_option maxRecDepth 20000 in
theorem Tf221 {kad : Nat → Nat} {N : Nat} {Z : AZ} {d : Nat} {t : Option Nat × (Nat × Nat)} (hd : 0 ≤ d) : ∀ (a0 : Nat) (i1 : Int32) (I : AI) (r : Unit × AI), f221 kad N Z a0 i1 I = some r → aGo kad d 221 (0, ([(0, .ref a0), (1, .int i1)], [])) (aMem Z I, t) (qV Z t r) := by
  intro a0 i1 I r h
  unfold f221 at h
  refine go_ops aMi221 2 _ (f1 := (2, ([(0, .ref a0), (1, .int i1)], [.int (3 : Int32), .ref a0]))) rfl ?_
  obtain ⟨I2_1, hxI2_1, h⟩ := Option.bind_eq_some_iff.mp h
  refine gg_pI aMi221 rfl rfl rfl rfl (by decide) hxI2_1 ?_
  refine go_ops aMi221 2 _ (f1 := (7, ([(0, .ref a0), (1, .int i1)], [.int i1, .ref a0]))) rfl ?_
  obtain ⟨I7_2, hxI7_2, h⟩ := Option.bind_eq_some_iff.mp h
  refine gg_pI aMi221 rfl rfl rfl rfl (by decide) hxI7_2 ?_
  cases h
  exact go_ret aMi221 rfl rfl ⟨rfl, rfl⟩
-- KernelGymModel.sleeps ()V
def f223_b34 (kad : Nat → Nat) (N : Nat) (Z : AZ) : Nat → Nat → Int32 → AI → Option (Unit × AI)
  | 0, _, _, _ => none
  | F + 1, a0, i1, I =>
    if (4 : Int32) ≤ i1 then
      (pI Z I 11 27 a0 (0 : Int32)).bind fun I54_1 =>
      (pI Z I54_1 11 28 a0 (0 : Int32)).bind fun I59_2 =>
      (pB Z I59_2 11 29 a0 (0 : Int32)).bind fun I64_3 =>
      (pB Z I64_3 11 30 a0 (0 : Int32)).bind fun I69_4 =>
      (pB Z I69_4 11 31 a0 (0 : Int32)).bind fun I74_5 =>
      (pB Z I74_5 11 32 a0 (0 : Int32)).bind fun I79_6 =>
      (pB Z I79_6 11 33 a0 (0 : Int32)).bind fun I84_7 =>
      (pI Z I84_7 11 34 a0 (0 : Int32)).bind fun I89_8 =>
      (pI Z I89_8 11 35 a0 (0 : Int32)).bind fun I94_9 =>
      (pI Z I94_9 11 37 a0 (0 : Int32)).bind fun I99_10 =>
      (pI Z I99_10 11 38 a0 (0 : Int32)).bind fun I104_11 =>
      (pI Z I104_11 11 39 a0 (0 : Int32)).bind fun I109_12 =>
      (pI Z I109_12 11 46 a0 (0 : Int32)).bind fun I114_13 =>
      some ((), I114_13)
    else
      (gR Z I 11 26 a0).bind fun b40_14 =>
      (sI Z I 100 b40_14 i1 (0 : Int32)).bind fun I45_15 =>
      f223_b34 kad N Z F a0 (i1 + (1 : Int32)) I45_15
set_option maxRecDepth 20000 in
theorem Tf223_b34 {kad : Nat → Nat} {N : Nat} {Z : AZ} {d : Nat} {t : Option Nat × (Nat × Nat)} (hd : 0 ≤ d) : ∀ (F : Nat) (a0 : Nat) (i1 : Int32) (I : AI) (r : Unit × AI), f223_b34 kad N Z F a0 i1 I = some r → aGo kad d 223 (34, ([(0, .ref a0), (1, .int i1)], [])) (aMem Z I, t) (qV Z t r) := by
  intro F
  induction F with
  | zero => intro a0 i1 I r h; cases h
  | succ F ih =>
    intro a0 i1 I r h
    unfold f223_b34 at h
    refine go_ops aMi223 2 _ (f1 := (36, ([(0, .ref a0), (1, .int i1)], [.int (4 : Int32), .int i1]))) rfl ?_
    refine gg_br (b := decide ((4 : Int32) ≤ i1)) (tg := 52) (off := 16) aMi223 rfl rfl rfl rfl (fun hb => ?_) (fun hb => ?_)
    · rw [if_pos (of_decide_eq_true hb)] at h
      refine go_ops aMi223 2 _ (f1 := (54, ([(0, .ref a0), (1, .int i1)], [.int (0 : Int32), .ref a0]))) rfl ?_
      obtain ⟨I54_1, hxI54_1, h⟩ := Option.bind_eq_some_iff.mp h
      refine gg_pI aMi223 rfl rfl rfl rfl (by decide) hxI54_1 ?_
      refine go_ops aMi223 2 _ (f1 := (59, ([(0, .ref a0), (1, .int i1)], [.int (0 : Int32), .ref a0]))) rfl ?_
      obtain ⟨I59_2, hxI59_2, h⟩ := Option.bind_eq_some_iff.mp h
      refine gg_pI aMi223 rfl rfl rfl rfl (by decide) hxI59_2 ?_
      refine go_ops aMi223 2 _ (f1 := (64, ([(0, .ref a0), (1, .int i1)], [.int (0 : Int32), .ref a0]))) rfl ?_
      obtain ⟨I64_3, hxI64_3, h⟩ := Option.bind_eq_some_iff.mp h
      refine gg_pB aMi223 rfl rfl rfl rfl (by decide) hxI64_3 ?_
      refine go_ops aMi223 2 _ (f1 := (69, ([(0, .ref a0), (1, .int i1)], [.int (0 : Int32), .ref a0]))) rfl ?_
      obtain ⟨I69_4, hxI69_4, h⟩ := Option.bind_eq_some_iff.mp h
      refine gg_pB aMi223 rfl rfl rfl rfl (by decide) hxI69_4 ?_
      refine go_ops aMi223 2 _ (f1 := (74, ([(0, .ref a0), (1, .int i1)], [.int (0 : Int32), .ref a0]))) rfl ?_
      obtain ⟨I74_5, hxI74_5, h⟩ := Option.bind_eq_some_iff.mp h
      refine gg_pB aMi223 rfl rfl rfl rfl (by decide) hxI74_5 ?_
      refine go_ops aMi223 2 _ (f1 := (79, ([(0, .ref a0), (1, .int i1)], [.int (0 : Int32), .ref a0]))) rfl ?_
      obtain ⟨I79_6, hxI79_6, h⟩ := Option.bind_eq_some_iff.mp h
      refine gg_pB aMi223 rfl rfl rfl rfl (by decide) hxI79_6 ?_
      refine go_ops aMi223 2 _ (f1 := (84, ([(0, .ref a0), (1, .int i1)], [.int (0 : Int32), .ref a0]))) rfl ?_
      obtain ⟨I84_7, hxI84_7, h⟩ := Option.bind_eq_some_iff.mp h
      refine gg_pB aMi223 rfl rfl rfl rfl (by decide) hxI84_7 ?_
      refine go_ops aMi223 2 _ (f1 := (89, ([(0, .ref a0), (1, .int i1)], [.int (0 : Int32), .ref a0]))) rfl ?_
      obtain ⟨I89_8, hxI89_8, h⟩ := Option.bind_eq_some_iff.mp h
      refine gg_pI aMi223 rfl rfl rfl rfl (by decide) hxI89_8 ?_
      refine go_ops aMi223 2 _ (f1 := (94, ([(0, .ref a0), (1, .int i1)], [.int (0 : Int32), .ref a0]))) rfl ?_
      obtain ⟨I94_9, hxI94_9, h⟩ := Option.bind_eq_some_iff.mp h
      refine gg_pI aMi223 rfl rfl rfl rfl (by decide) hxI94_9 ?_
      refine go_ops aMi223 2 _ (f1 := (99, ([(0, .ref a0), (1, .int i1)], [.int (0 : Int32), .ref a0]))) rfl ?_
      obtain ⟨I99_10, hxI99_10, h⟩ := Option.bind_eq_some_iff.mp h
      refine gg_pI aMi223 rfl rfl rfl rfl (by decide) hxI99_10 ?_
      refine go_ops aMi223 2 _ (f1 := (104, ([(0, .ref a0), (1, .int i1)], [.int (0 : Int32), .ref a0]))) rfl ?_
      obtain ⟨I104_11, hxI104_11, h⟩ := Option.bind_eq_some_iff.mp h
      refine gg_pI aMi223 rfl rfl rfl rfl (by decide) hxI104_11 ?_
      refine go_ops aMi223 2 _ (f1 := (109, ([(0, .ref a0), (1, .int i1)], [.int (0 : Int32), .ref a0]))) rfl ?_
      obtain ⟨I109_12, hxI109_12, h⟩ := Option.bind_eq_some_iff.mp h
      refine gg_pI aMi223 rfl rfl rfl rfl (by decide) hxI109_12 ?_
      refine go_ops aMi223 2 _ (f1 := (114, ([(0, .ref a0), (1, .int i1)], [.int (0 : Int32), .ref a0]))) rfl ?_
      obtain ⟨I114_13, hxI114_13, h⟩ := Option.bind_eq_some_iff.mp h
      refine gg_pI aMi223 rfl rfl rfl rfl (by decide) hxI114_13 ?_
      cases h
      exact go_ret aMi223 rfl rfl ⟨rfl, rfl⟩
    · rw [if_neg (of_decide_eq_false hb)] at h
      refine go_ops aMi223 1 _ (f1 := (40, ([(0, .ref a0), (1, .int i1)], [.ref a0]))) rfl ?_
      obtain ⟨b40_14, hxb40_14, h⟩ := Option.bind_eq_some_iff.mp h
      refine gg_gR aMi223 rfl rfl rfl hxb40_14 ?_
      refine go_ops aMi223 2 _ (f1 := (45, ([(0, .ref a0), (1, .int i1)], [.int (0 : Int32), .int i1, .ref b40_14]))) rfl ?_
      obtain ⟨I45_15, hxI45_15, h⟩ := Option.bind_eq_some_iff.mp h
      refine gg_sI (Or.inl ⟨rfl, rfl⟩) aMi223 rfl hxI45_15 ?_
      refine go_ops aMi223 2 _ (f1 := (34, ([(1, .int (i1 + (1 : Int32))), (0, .ref a0)], []))) rfl ?_
      refine go_le (lv1 := [(0, .ref a0), (1, .int (i1 + (1 : Int32)))]) (aLe_of (show (List.map (fun q => q.1) ([(0, .ref a0), (1, .int (i1 + (1 : Int32)))] : ALv)).Nodup from (by show ([0, 1] : List Nat).Nodup; decide)) (aSubL_cons rfl (aSubL_cons rfl aSubL_nil))) ?_
      exact ih a0 (i1 + (1 : Int32)) I45_15 _ h
def f223_b12 (kad : Nat → Nat) (N : Nat) (Z : AZ) : Nat → Nat → Int32 → AI → Option (Unit × AI)
  | 0, _, _, _ => none
  | F + 1, a0, i1, I =>
    if (256 : Int32) ≤ i1 then
      f223_b34 kad N Z N a0 (0 : Int32) I
    else
      (gR Z I 11 25 a0).bind fun b20_1 =>
      (sI Z I 100 b20_1 i1 (0 : Int32)).bind fun I25_2 =>
      f223_b12 kad N Z F a0 (i1 + (1 : Int32)) I25_2
set_option maxRecDepth 20000 in
theorem Tf223_b12 {kad : Nat → Nat} {N : Nat} {Z : AZ} {d : Nat} {t : Option Nat × (Nat × Nat)} (hd : 0 ≤ d) : ∀ (F : Nat) (a0 : Nat) (i1 : Int32) (I : AI) (r : Unit × AI), f223_b12 kad N Z F a0 i1 I = some r → aGo kad d 223 (12, ([(0, .ref a0), (1, .int i1)], [])) (aMem Z I, t) (qV Z t r) := by
  intro F
  induction F with
  | zero => intro a0 i1 I r h; cases h
  | succ F ih =>
    intro a0 i1 I r h
    unfold f223_b12 at h
    refine go_ops aMi223 2 _ (f1 := (16, ([(0, .ref a0), (1, .int i1)], [.int (256 : Int32), .int i1]))) rfl ?_
    refine gg_br (b := decide ((256 : Int32) ≤ i1)) (tg := 32) (off := 16) aMi223 rfl rfl rfl rfl (fun hb => ?_) (fun hb => ?_)
    · rw [if_pos (of_decide_eq_true hb)] at h
      refine go_ops aMi223 2 _ (f1 := (34, ([(1, .int (0 : Int32)), (0, .ref a0)], []))) rfl ?_
      refine go_le (lv1 := [(0, .ref a0), (1, .int (0 : Int32))]) (aLe_of (show (List.map (fun q => q.1) ([(0, .ref a0), (1, .int (0 : Int32))] : ALv)).Nodup from (by show ([0, 1] : List Nat).Nodup; decide)) (aSubL_cons rfl (aSubL_cons rfl aSubL_nil))) ?_
      exact Tf223_b34 hd N a0 (0 : Int32) I _ h
    · rw [if_neg (of_decide_eq_false hb)] at h
      refine go_ops aMi223 1 _ (f1 := (20, ([(0, .ref a0), (1, .int i1)], [.ref a0]))) rfl ?_
      obtain ⟨b20_1, hxb20_1, h⟩ := Option.bind_eq_some_iff.mp h
      refine gg_gR aMi223 rfl rfl rfl hxb20_1 ?_
      refine go_ops aMi223 2 _ (f1 := (25, ([(0, .ref a0), (1, .int i1)], [.int (0 : Int32), .int i1, .ref b20_1]))) rfl ?_
      obtain ⟨I25_2, hxI25_2, h⟩ := Option.bind_eq_some_iff.mp h
      refine gg_sI (Or.inl ⟨rfl, rfl⟩) aMi223 rfl hxI25_2 ?_
      refine go_ops aMi223 2 _ (f1 := (12, ([(1, .int (i1 + (1 : Int32))), (0, .ref a0)], []))) rfl ?_
      refine go_le (lv1 := [(0, .ref a0), (1, .int (i1 + (1 : Int32)))]) (aLe_of (show (List.map (fun q => q.1) ([(0, .ref a0), (1, .int (i1 + (1 : Int32)))] : ALv)).Nodup from (by show ([0, 1] : List Nat).Nodup; decide)) (aSubL_cons rfl (aSubL_cons rfl aSubL_nil))) ?_
      exact ih a0 (i1 + (1 : Int32)) I25_2 _ h
def f223 (kad : Nat → Nat) (N : Nat) (Z : AZ) (a0 : Nat) (I : AI) : Option (Unit × AI) :=
  (pI Z I 11 23 a0 (0 : Int32)).bind fun I2_1 =>
  (pI Z I2_1 11 24 a0 (0 : Int32)).bind fun I7_2 =>
  f223_b12 kad N Z N a0 (0 : Int32) I7_2
set_option maxRecDepth 20000 in
theorem Tf223 {kad : Nat → Nat} {N : Nat} {Z : AZ} {d : Nat} {t : Option Nat × (Nat × Nat)} (hd : 0 ≤ d) : ∀ (a0 : Nat) (I : AI) (r : Unit × AI), f223 kad N Z a0 I = some r → aGo kad d 223 (0, ([(0, .ref a0)], [])) (aMem Z I, t) (qV Z t r) := by
  intro a0 I r h
  unfold f223 at h
  refine go_ops aMi223 2 _ (f1 := (2, ([(0, .ref a0)], [.int (0 : Int32), .ref a0]))) rfl ?_
  obtain ⟨I2_1, hxI2_1, h⟩ := Option.bind_eq_some_iff.mp h
  refine gg_pI aMi223 rfl rfl rfl rfl (by decide) hxI2_1 ?_
  refine go_ops aMi223 2 _ (f1 := (7, ([(0, .ref a0)], [.int (0 : Int32), .ref a0]))) rfl ?_
  obtain ⟨I7_2, hxI7_2, h⟩ := Option.bind_eq_some_iff.mp h
  refine gg_pI aMi223 rfl rfl rfl rfl (by decide) hxI7_2 ?_
  refine go_ops aMi223 2 _ (f1 := (12, ([(1, .int (0 : Int32)), (0, .ref a0)], []))) rfl ?_
  refine go_le (lv1 := [(0, .ref a0), (1, .int (0 : Int32))]) (aLe_of (show (List.map (fun q => q.1) ([(0, .ref a0), (1, .int (0 : Int32))] : ALv)).Nodup from (by show ([0, 1] : List Nat).Nodup; decide)) (aSubL_cons rfl (aSubL_cons rfl aSubL_nil))) ?_
  exact Tf223_b12 hd N a0 (0 : Int32) I7_2 _ h
-- KernelGymModel.wakes ([I)V
def f222_b6 (kad : Nat → Nat) (N : Nat) (Z : AZ) : Nat → Nat → Nat → Int32 → AI → Option (Unit × AI)
  | 0, _, _, _, _ => none
  | F + 1, a0, a1, i2, I =>
    if (256 : Int32) ≤ i2 then
      (pI Z I 11 23 a0 (1 : Int32)).bind fun I30_1 =>
      (pI Z I30_1 11 27 a0 (8 : Int32)).bind fun I36_2 =>
      (pI Z I36_2 11 28 a0 (256 : Int32)).bind fun I43_3 =>
      some ((), I43_3)
    else
      (gR Z I 11 25 a0).bind fun b14_4 =>
      (lI Z I 100 a1 i2).bind fun x20_5 =>
      (sI Z I 100 b14_4 i2 x20_5).bind fun I21_6 =>
      f222_b6 kad N Z F a0 a1 (i2 + (1 : Int32)) I21_6
set_option maxRecDepth 20000 in
theorem Tf222_b6 {kad : Nat → Nat} {N : Nat} {Z : AZ} {d : Nat} {t : Option Nat × (Nat × Nat)} (hd : 1 ≤ d) : ∀ (F : Nat) (a0 : Nat) (a1 : Nat) (i2 : Int32) (I : AI) (r : Unit × AI), f222_b6 kad N Z F a0 a1 i2 I = some r → aGo kad d 222 (6, ([(0, .ref a0), (1, .ref a1), (2, .int i2)], [])) (aMem Z I, t) (qV Z t r) := by
  intro F
  induction F with
  | zero => intro a0 a1 i2 I r h; cases h
  | succ F ih =>
    intro a0 a1 i2 I r h
    unfold f222_b6 at h
    refine go_ops aMi222 2 _ (f1 := (10, ([(0, .ref a0), (1, .ref a1), (2, .int i2)], [.int (256 : Int32), .int i2]))) rfl ?_
    refine gg_br (b := decide ((256 : Int32) ≤ i2)) (tg := 28) (off := 18) aMi222 rfl rfl rfl rfl (fun hb => ?_) (fun hb => ?_)
    · rw [if_pos (of_decide_eq_true hb)] at h
      refine go_ops aMi222 2 _ (f1 := (30, ([(0, .ref a0), (1, .ref a1), (2, .int i2)], [.int (1 : Int32), .ref a0]))) rfl ?_
      obtain ⟨I30_1, hxI30_1, h⟩ := Option.bind_eq_some_iff.mp h
      refine gg_pI aMi222 rfl rfl rfl rfl (by decide) hxI30_1 ?_
      refine go_ops aMi222 2 _ (f1 := (36, ([(0, .ref a0), (1, .ref a1), (2, .int i2)], [.int (8 : Int32), .ref a0]))) rfl ?_
      obtain ⟨I36_2, hxI36_2, h⟩ := Option.bind_eq_some_iff.mp h
      refine gg_pI aMi222 rfl rfl rfl rfl (by decide) hxI36_2 ?_
      refine go_ops aMi222 2 _ (f1 := (43, ([(0, .ref a0), (1, .ref a1), (2, .int i2)], [.int (256 : Int32), .ref a0]))) rfl ?_
      obtain ⟨I43_3, hxI43_3, h⟩ := Option.bind_eq_some_iff.mp h
      refine gg_pI aMi222 rfl rfl rfl rfl (by decide) hxI43_3 ?_
      cases h
      exact go_ret aMi222 rfl rfl ⟨rfl, rfl⟩
    · rw [if_neg (of_decide_eq_false hb)] at h
      refine go_ops aMi222 1 _ (f1 := (14, ([(0, .ref a0), (1, .ref a1), (2, .int i2)], [.ref a0]))) rfl ?_
      obtain ⟨b14_4, hxb14_4, h⟩ := Option.bind_eq_some_iff.mp h
      refine gg_gR aMi222 rfl rfl rfl hxb14_4 ?_
      refine go_ops aMi222 3 _ (f1 := (20, ([(0, .ref a0), (1, .ref a1), (2, .int i2)], [.int i2, .ref a1, .int i2, .ref b14_4]))) rfl ?_
      obtain ⟨x20_5, hxx20_5, h⟩ := Option.bind_eq_some_iff.mp h
      refine gg_lI (Or.inl ⟨rfl, rfl⟩) aMi222 rfl hxx20_5 ?_
      obtain ⟨I21_6, hxI21_6, h⟩ := Option.bind_eq_some_iff.mp h
      refine gg_sI (Or.inl ⟨rfl, rfl⟩) aMi222 rfl hxI21_6 ?_
      refine go_ops aMi222 2 _ (f1 := (6, ([(2, .int (i2 + (1 : Int32))), (0, .ref a0), (1, .ref a1)], []))) rfl ?_
      refine go_le (lv1 := [(0, .ref a0), (1, .ref a1), (2, .int (i2 + (1 : Int32)))]) (aLe_of (show (List.map (fun q => q.1) ([(0, .ref a0), (1, .ref a1), (2, .int (i2 + (1 : Int32)))] : ALv)).Nodup from (by show ([0, 1, 2] : List Nat).Nodup; decide)) (aSubL_cons rfl (aSubL_cons rfl (aSubL_cons rfl aSubL_nil)))) ?_
      exact ih a0 a1 (i2 + (1 : Int32)) I21_6 _ h
def f222 (kad : Nat → Nat) (N : Nat) (Z : AZ) (a0 : Nat) (a1 : Nat) (I : AI) : Option (Unit × AI) :=
  (isK Z a0 11).bind fun u1_1 =>
  (f223 kad N Z a0 I).bind fun r1_2 =>
  f222_b6 kad N Z N a0 a1 (0 : Int32) r1_2.2
set_option maxRecDepth 20000 in
theorem Tf222 {kad : Nat → Nat} {N : Nat} {Z : AZ} {d : Nat} {t : Option Nat × (Nat × Nat)} (hd : 1 ≤ d) : ∀ (a0 : Nat) (a1 : Nat) (I : AI) (r : Unit × AI), f222 kad N Z a0 a1 I = some r → aGo kad d 222 (0, ([(0, .ref a0), (1, .ref a1)], [])) (aMem Z I, t) (qV Z t r) := by
  intro a0 a1 I r h
  unfold f222 at h
  refine go_ops aMi222 1 _ (f1 := (1, ([(0, .ref a0), (1, .ref a1)], [.ref a0]))) rfl ?_
  obtain ⟨u1_1, hxu1_1, h⟩ := Option.bind_eq_some_iff.mp h
  obtain ⟨r1_2, hxr1_2, h⟩ := Option.bind_eq_some_iff.mp h
  refine gg_cv (as := []) (r := []) aMi222 rfl rfl rfl aMi223 (Nat.le_of_ble_eq_true rfl) rfl (Nat.le_of_ble_eq_true rfl) (Nat.le_of_ble_eq_true rfl) (by omega) hxu1_1 (Tf223 (by omega) a0 I _ hxr1_2) ?_
  show aGo kad d 222 (4, ([(0, .ref a0), (1, .ref a1)], [])) (aMem Z r1_2.2, t) _
  refine go_ops aMi222 2 _ (f1 := (6, ([(2, .int (0 : Int32)), (0, .ref a0), (1, .ref a1)], []))) rfl ?_
  refine go_le (lv1 := [(0, .ref a0), (1, .ref a1), (2, .int (0 : Int32))]) (aLe_of (show (List.map (fun q => q.1) ([(0, .ref a0), (1, .ref a1), (2, .int (0 : Int32))] : ALv)).Nodup from (by show ([0, 1, 2] : List Nat).Nodup; decide)) (aSubL_cons rfl (aSubL_cons rfl (aSubL_cons rfl aSubL_nil)))) ?_
  exact Tf222_b6 hd N a0 a1 (0 : Int32) r1_2.2 _ h
-- KernelGymModel.keysCome ()V
def f224_b36 (kad : Nat → Nat) (N : Nat) (Z : AZ) (k2 : Nat → Int32 → AI → Option (Unit × AI)) (a0 : Nat) (i1 : Int32) (s0 : Int32) (s1 : Nat) (I : AI) : Option (Unit × AI) :=
  (pB Z I 11 33 s1 s0).bind fun I36_1 =>
  k2 a0 (i1 + (1 : Int32)) I36_1
set_option maxRecDepth 20000 in
theorem Tf224_b36 {kad : Nat → Nat} {N : Nat} {Z : AZ} {d : Nat} {t : Option Nat × (Nat × Nat)} (hd : 0 ≤ d) (k2 : Nat → Int32 → AI → Option (Unit × AI))  (hk2 : ∀ (a0 : Nat) (i1 : Int32)  (I : AI) (r : Unit × AI), k2 a0 i1 I = some r → aGo kad d 224 (2, ([(0, .ref a0), (1, .int i1)], [])) (aMem Z I, t) (qV Z t r)) : ∀ (a0 : Nat) (i1 : Int32) (s0 : Int32) (s1 : Nat) (I : AI) (r : Unit × AI), f224_b36 kad N Z k2 a0 i1 s0 s1 I = some r → aGo kad d 224 (36, ([(0, .ref a0), (1, .int i1)], [.int s0, .ref s1])) (aMem Z I, t) (qV Z t r) := by
  intro a0 i1 s0 s1 I r h
  unfold f224_b36 at h
  obtain ⟨I36_1, hxI36_1, h⟩ := Option.bind_eq_some_iff.mp h
  refine gg_pB aMi224 rfl rfl rfl rfl (by decide) hxI36_1 ?_
  refine go_ops aMi224 2 _ (f1 := (2, ([(1, .int (i1 + (1 : Int32))), (0, .ref a0)], []))) rfl ?_
  refine go_le (lv1 := [(0, .ref a0), (1, .int (i1 + (1 : Int32)))]) (aLe_of (show (List.map (fun q => q.1) ([(0, .ref a0), (1, .int (i1 + (1 : Int32)))] : ALv)).Nodup from (by show ([0, 1] : List Nat).Nodup; decide)) (aSubL_cons rfl (aSubL_cons rfl aSubL_nil))) ?_
  exact hk2 a0 (i1 + (1 : Int32)) I36_1 _ h
def f224_b31 (kad : Nat → Nat) (N : Nat) (Z : AZ) (k2 : Nat → Int32 → AI → Option (Unit × AI)) (a0 : Nat) (i1 : Int32) (s0 : Nat) (I : AI) : Option (Unit × AI) :=
  f224_b36 kad N Z k2 a0 i1 (1 : Int32) s0 I
set_option maxRecDepth 20000 in
theorem Tf224_b31 {kad : Nat → Nat} {N : Nat} {Z : AZ} {d : Nat} {t : Option Nat × (Nat × Nat)} (hd : 0 ≤ d) (k2 : Nat → Int32 → AI → Option (Unit × AI))  (hk2 : ∀ (a0 : Nat) (i1 : Int32)  (I : AI) (r : Unit × AI), k2 a0 i1 I = some r → aGo kad d 224 (2, ([(0, .ref a0), (1, .int i1)], [])) (aMem Z I, t) (qV Z t r)) : ∀ (a0 : Nat) (i1 : Int32) (s0 : Nat) (I : AI) (r : Unit × AI), f224_b31 kad N Z k2 a0 i1 s0 I = some r → aGo kad d 224 (31, ([(0, .ref a0), (1, .int i1)], [.ref s0])) (aMem Z I, t) (qV Z t r) := by
  intro a0 i1 s0 I r h
  unfold f224_b31 at h
  refine go_ops aMi224 2 _ (f1 := (36, ([(0, .ref a0), (1, .int i1)], [.int (1 : Int32), .ref s0]))) rfl ?_
  exact Tf224_b36 hd k2 hk2 a0 i1 (1 : Int32) s0 I _ h
def f224_b2 (kad : Nat → Nat) (N : Nat) (Z : AZ) : Nat → Nat → Int32 → AI → Option (Unit × AI)
  | 0, _, _, _ => none
  | F + 1, a0, i1, I =>
    (gI Z I 11 43 a0).bind fun x4_1 =>
    if x4_1 ≤ i1 then
      some ((), I)
    else
      (gI Z I 11 33 a0).bind fun x12_2 =>
      if ¬ x12_2 = 0 then
        f224_b31 kad N Z (fun p0 p1 I => f224_b2 kad N Z F p0 p1 I) a0 i1 a0 I
      else
        (gR Z I 11 41 a0).bind fun b19_3 =>
        (lI Z I 100 b19_3 i1).bind fun x23_4 =>
        (gI Z I 11 38 a0).bind fun x25_5 =>
        if ¬ x23_4 = x25_5 then
          f224_b36 kad N Z (fun p0 p1 I => f224_b2 kad N Z F p0 p1 I) a0 i1 (0 : Int32) a0 I
        else
          f224_b31 kad N Z (fun p0 p1 I => f224_b2 kad N Z F p0 p1 I) a0 i1 a0 I
set_option maxRecDepth 20000 in
theorem Tf224_b2 {kad : Nat → Nat} {N : Nat} {Z : AZ} {d : Nat} {t : Option Nat × (Nat × Nat)} (hd : 0 ≤ d) : ∀ (F : Nat) (a0 : Nat) (i1 : Int32) (I : AI) (r : Unit × AI), f224_b2 kad N Z F a0 i1 I = some r → aGo kad d 224 (2, ([(0, .ref a0), (1, .int i1)], [])) (aMem Z I, t) (qV Z t r) := by
  intro F
  induction F with
  | zero => intro a0 i1 I r h; cases h
  | succ F ih =>
    intro a0 i1 I r h
    unfold f224_b2 at h
    refine go_ops aMi224 2 _ (f1 := (4, ([(0, .ref a0), (1, .int i1)], [.ref a0, .int i1]))) rfl ?_
    obtain ⟨x4_1, hxx4_1, h⟩ := Option.bind_eq_some_iff.mp h
    refine gg_gI aMi224 rfl rfl rfl hxx4_1 ?_
    refine gg_br (b := decide (x4_1 ≤ i1)) (tg := 45) (off := 38) aMi224 rfl rfl rfl rfl (fun hb => ?_) (fun hb => ?_)
    · rw [if_pos (of_decide_eq_true hb)] at h
      cases h
      exact go_ret aMi224 rfl rfl ⟨rfl, rfl⟩
    · rw [if_neg (of_decide_eq_false hb)] at h
      refine go_ops aMi224 2 _ (f1 := (12, ([(0, .ref a0), (1, .int i1)], [.ref a0, .ref a0]))) rfl ?_
      obtain ⟨x12_2, hxx12_2, h⟩ := Option.bind_eq_some_iff.mp h
      refine gg_gI aMi224 rfl rfl rfl hxx12_2 ?_
      refine gg_br (b := decide (¬ x12_2 = 0)) (tg := 31) (off := 16) aMi224 rfl rfl rfl rfl (fun hb => ?_) (fun hb => ?_)
      · rw [if_pos (of_decide_eq_true hb)] at h
        exact Tf224_b31 hd (fun p0 p1 I => f224_b2 kad N Z F p0 p1 I) (fun p0 p1 I r hh => ih p0 p1 I r hh) a0 i1 a0 I _ h
      · rw [if_neg (of_decide_eq_false hb)] at h
        refine go_ops aMi224 1 _ (f1 := (19, ([(0, .ref a0), (1, .int i1)], [.ref a0, .ref a0]))) rfl ?_
        obtain ⟨b19_3, hxb19_3, h⟩ := Option.bind_eq_some_iff.mp h
        refine gg_gR aMi224 rfl rfl rfl hxb19_3 ?_
        refine go_ops aMi224 1 _ (f1 := (23, ([(0, .ref a0), (1, .int i1)], [.int i1, .ref b19_3, .ref a0]))) rfl ?_
        obtain ⟨x23_4, hxx23_4, h⟩ := Option.bind_eq_some_iff.mp h
        refine gg_lI (Or.inl ⟨rfl, rfl⟩) aMi224 rfl hxx23_4 ?_
        refine go_ops aMi224 1 _ (f1 := (25, ([(0, .ref a0), (1, .int i1)], [.ref a0, .int x23_4, .ref a0]))) rfl ?_
        obtain ⟨x25_5, hxx25_5, h⟩ := Option.bind_eq_some_iff.mp h
        refine gg_gI aMi224 rfl rfl rfl hxx25_5 ?_
        refine gg_br (b := decide (¬ x23_4 = x25_5)) (tg := 35) (off := 7) aMi224 rfl rfl rfl rfl (fun hb => ?_) (fun hb => ?_)
        · rw [if_pos (of_decide_eq_true hb)] at h
          refine go_ops aMi224 1 _ (f1 := (36, ([(0, .ref a0), (1, .int i1)], [.int (0 : Int32), .ref a0]))) rfl ?_
          exact Tf224_b36 hd (fun p0 p1 I => f224_b2 kad N Z F p0 p1 I) (fun p0 p1 I r hh => ih p0 p1 I r hh) a0 i1 (0 : Int32) a0 I _ h
        · rw [if_neg (of_decide_eq_false hb)] at h
          exact Tf224_b31 hd (fun p0 p1 I => f224_b2 kad N Z F p0 p1 I) (fun p0 p1 I r hh => ih p0 p1 I r hh) a0 i1 a0 I _ h
def f224 (kad : Nat → Nat) (N : Nat) (Z : AZ) (a0 : Nat) (I : AI) : Option (Unit × AI) :=
  f224_b2 kad N Z N a0 (0 : Int32) I
set_option maxRecDepth 20000 in
theorem Tf224 {kad : Nat → Nat} {N : Nat} {Z : AZ} {d : Nat} {t : Option Nat × (Nat × Nat)} (hd : 0 ≤ d) : ∀ (a0 : Nat) (I : AI) (r : Unit × AI), f224 kad N Z a0 I = some r → aGo kad d 224 (0, ([(0, .ref a0)], [])) (aMem Z I, t) (qV Z t r) := by
  intro a0 I r h
  unfold f224 at h
  refine go_ops aMi224 2 _ (f1 := (2, ([(1, .int (0 : Int32)), (0, .ref a0)], []))) rfl ?_
  refine go_le (lv1 := [(0, .ref a0), (1, .int (0 : Int32))]) (aLe_of (show (List.map (fun q => q.1) ([(0, .ref a0), (1, .int (0 : Int32))] : ALv)).Nodup from (by show ([0, 1] : List Nat).Nodup; decide)) (aSubL_cons rfl (aSubL_cons rfl aSubL_nil))) ?_
  exact Tf224_b2 hd N a0 (0 : Int32) I _ h
-- KernelGymModel.come ()I
def f225_b31 (kad : Nat → Nat) (N : Nat) (Z : AZ) (k4 : Nat → Int32 → Int32 → AI → Option (Int32 × AI)) (a0 : Nat) (i2 : Int32) (s0 : Int32) (s1 : Int32) (I : AI) : Option (Int32 × AI) :=
  k4 a0 (s1 + s0) (i2 + (1 : Int32)) I
set_option maxRecDepth 20000 in
theorem Tf225_b31 {kad : Nat → Nat} {N : Nat} {Z : AZ} {d : Nat} {t : Option Nat × (Nat × Nat)} (hd : 0 ≤ d) (k4 : Nat → Int32 → Int32 → AI → Option (Int32 × AI))  (hk4 : ∀ (a0 : Nat) (i1 : Int32) (i2 : Int32)  (I : AI) (r : Int32 × AI), k4 a0 i1 i2 I = some r → aGo kad d 225 (4, ([(0, .ref a0), (1, .int i1), (2, .int i2)], [])) (aMem Z I, t) (qI Z t r)) : ∀ (a0 : Nat) (i2 : Int32) (s0 : Int32) (s1 : Int32) (I : AI) (r : Int32 × AI), f225_b31 kad N Z k4 a0 i2 s0 s1 I = some r → aGo kad d 225 (31, ([(0, .ref a0), (2, .int i2)], [.int s0, .int s1])) (aMem Z I, t) (qI Z t r) := by
  intro a0 i2 s0 s1 I r h
  unfold f225_b31 at h
  refine go_ops aMi225 4 _ (f1 := (4, ([(2, .int (i2 + (1 : Int32))), (1, .int (s1 + s0)), (0, .ref a0)], []))) rfl ?_
  refine go_le (lv1 := [(0, .ref a0), (1, .int (s1 + s0)), (2, .int (i2 + (1 : Int32)))]) (aLe_of (show (List.map (fun q => q.1) ([(0, .ref a0), (1, .int (s1 + s0)), (2, .int (i2 + (1 : Int32)))] : ALv)).Nodup from (by show ([0, 1, 2] : List Nat).Nodup; decide)) (aSubL_cons rfl (aSubL_cons rfl (aSubL_cons rfl aSubL_nil)))) ?_
  exact hk4 a0 (s1 + s0) (i2 + (1 : Int32)) I _ h
def f225_b4 (kad : Nat → Nat) (N : Nat) (Z : AZ) : Nat → Nat → Int32 → Int32 → AI → Option (Int32 × AI)
  | 0, _, _, _, _ => none
  | F + 1, a0, i1, i2, I =>
    (gI Z I 11 43 a0).bind fun x6_1 =>
    if x6_1 ≤ i2 then
      some (i1, I)
    else
      (gR Z I 11 41 a0).bind fun b14_2 =>
      (lI Z I 100 b14_2 i2).bind fun x18_3 =>
      (gI Z I 11 38 a0).bind fun x20_4 =>
      if x20_4 < x18_3 then
        f225_b31 kad N Z (fun p0 p1 p2 I => f225_b4 kad N Z F p0 p1 p2 I) a0 i2 (0 : Int32) i1 I
      else
        f225_b31 kad N Z (fun p0 p1 p2 I => f225_b4 kad N Z F p0 p1 p2 I) a0 i2 (1 : Int32) i1 I
set_option maxRecDepth 20000 in
theorem Tf225_b4 {kad : Nat → Nat} {N : Nat} {Z : AZ} {d : Nat} {t : Option Nat × (Nat × Nat)} (hd : 0 ≤ d) : ∀ (F : Nat) (a0 : Nat) (i1 : Int32) (i2 : Int32) (I : AI) (r : Int32 × AI), f225_b4 kad N Z F a0 i1 i2 I = some r → aGo kad d 225 (4, ([(0, .ref a0), (1, .int i1), (2, .int i2)], [])) (aMem Z I, t) (qI Z t r) := by
  intro F
  induction F with
  | zero => intro a0 i1 i2 I r h; cases h
  | succ F ih =>
    intro a0 i1 i2 I r h
    unfold f225_b4 at h
    refine go_ops aMi225 2 _ (f1 := (6, ([(0, .ref a0), (1, .int i1), (2, .int i2)], [.ref a0, .int i2]))) rfl ?_
    obtain ⟨x6_1, hxx6_1, h⟩ := Option.bind_eq_some_iff.mp h
    refine gg_gI aMi225 rfl rfl rfl hxx6_1 ?_
    refine gg_br (b := decide (x6_1 ≤ i2)) (tg := 39) (off := 30) aMi225 rfl rfl rfl rfl (fun hb => ?_) (fun hb => ?_)
    · rw [if_pos (of_decide_eq_true hb)] at h
      refine go_ops aMi225 1 _ (f1 := (40, ([(0, .ref a0), (1, .int i1), (2, .int i2)], [.int i1]))) rfl ?_
      cases h
      exact go_ret aMi225 rfl aRetI ⟨rfl, rfl⟩
    · rw [if_neg (of_decide_eq_false hb)] at h
      refine go_ops aMi225 2 _ (f1 := (14, ([(0, .ref a0), (1, .int i1), (2, .int i2)], [.ref a0, .int i1]))) rfl ?_
      obtain ⟨b14_2, hxb14_2, h⟩ := Option.bind_eq_some_iff.mp h
      refine gg_gR aMi225 rfl rfl rfl hxb14_2 ?_
      refine go_ops aMi225 1 _ (f1 := (18, ([(0, .ref a0), (1, .int i1), (2, .int i2)], [.int i2, .ref b14_2, .int i1]))) rfl ?_
      obtain ⟨x18_3, hxx18_3, h⟩ := Option.bind_eq_some_iff.mp h
      refine gg_lI (Or.inl ⟨rfl, rfl⟩) aMi225 rfl hxx18_3 ?_
      refine go_ops aMi225 1 _ (f1 := (20, ([(0, .ref a0), (1, .int i1), (2, .int i2)], [.ref a0, .int x18_3, .int i1]))) rfl ?_
      obtain ⟨x20_4, hxx20_4, h⟩ := Option.bind_eq_some_iff.mp h
      refine gg_gI aMi225 rfl rfl rfl hxx20_4 ?_
      refine gg_br (b := decide (x20_4 < x18_3)) (tg := 30) (off := 7) aMi225 rfl rfl rfl rfl (fun hb => ?_) (fun hb => ?_)
      · rw [if_pos (of_decide_eq_true hb)] at h
        refine go_ops aMi225 1 _ (f1 := (31, ([(0, .ref a0), (1, .int i1), (2, .int i2)], [.int (0 : Int32), .int i1]))) rfl ?_
        refine go_le (lv1 := [(0, .ref a0), (2, .int i2)]) (aLe_of (show (List.map (fun q => q.1) ([(0, .ref a0), (2, .int i2)] : ALv)).Nodup from (by show ([0, 2] : List Nat).Nodup; decide)) (aSubL_cons rfl (aSubL_cons rfl aSubL_nil))) ?_
        exact Tf225_b31 hd (fun p0 p1 p2 I => f225_b4 kad N Z F p0 p1 p2 I) (fun p0 p1 p2 I r hh => ih p0 p1 p2 I r hh) a0 i2 (0 : Int32) i1 I _ h
      · rw [if_neg (of_decide_eq_false hb)] at h
        refine go_ops aMi225 2 _ (f1 := (31, ([(0, .ref a0), (1, .int i1), (2, .int i2)], [.int (1 : Int32), .int i1]))) rfl ?_
        refine go_le (lv1 := [(0, .ref a0), (2, .int i2)]) (aLe_of (show (List.map (fun q => q.1) ([(0, .ref a0), (2, .int i2)] : ALv)).Nodup from (by show ([0, 2] : List Nat).Nodup; decide)) (aSubL_cons rfl (aSubL_cons rfl aSubL_nil))) ?_
        exact Tf225_b31 hd (fun p0 p1 p2 I => f225_b4 kad N Z F p0 p1 p2 I) (fun p0 p1 p2 I r hh => ih p0 p1 p2 I r hh) a0 i2 (1 : Int32) i1 I _ h
def f225 (kad : Nat → Nat) (N : Nat) (Z : AZ) (a0 : Nat) (I : AI) : Option (Int32 × AI) :=
  f225_b4 kad N Z N a0 (0 : Int32) (0 : Int32) I
set_option maxRecDepth 20000 in
theorem Tf225 {kad : Nat → Nat} {N : Nat} {Z : AZ} {d : Nat} {t : Option Nat × (Nat × Nat)} (hd : 0 ≤ d) : ∀ (a0 : Nat) (I : AI) (r : Int32 × AI), f225 kad N Z a0 I = some r → aGo kad d 225 (0, ([(0, .ref a0)], [])) (aMem Z I, t) (qI Z t r) := by
  intro a0 I r h
  unfold f225 at h
  refine go_ops aMi225 4 _ (f1 := (4, ([(2, .int (0 : Int32)), (1, .int (0 : Int32)), (0, .ref a0)], []))) rfl ?_
  refine go_le (lv1 := [(0, .ref a0), (1, .int (0 : Int32)), (2, .int (0 : Int32))]) (aLe_of (show (List.map (fun q => q.1) ([(0, .ref a0), (1, .int (0 : Int32)), (2, .int (0 : Int32))] : ALv)).Nodup from (by show ([0, 1, 2] : List Nat).Nodup; decide)) (aSubL_cons rfl (aSubL_cons rfl (aSubL_cons rfl aSubL_nil)))) ?_
  exact Tf225_b4 hd N a0 (0 : Int32) (0 : Int32) I _ h
-- KernelGymModel.interrupts ()V
def f226_b88 (kad : Nat → Nat) (N : Nat) (Z : AZ) (a0 : Nat) (i1 : Int32) (s0 : Int32) (s1 : Int32) (s2 : Nat) (I : AI) : Option (Unit × AI) :=
  (isK Z s2 11).bind fun u89_1 =>
  (f219 kad N Z s2 (s1 + s0) I).bind fun r89_2 =>
  (pB Z r89_2.2 11 31 a0 (0 : Int32)).bind fun I94_3 =>
  (gR Z I94_3 11 25 a0).bind fun b99_4 =>
  (lI Z I94_3 100 b99_4 i1).bind fun x103_5 =>
  (pI Z I94_3 11 27 a0 x103_5).bind fun I104_6 =>
  some ((), I104_6)
set_option maxRecDepth 20000 in
theorem Tf226_b88 {kad : Nat → Nat} {N : Nat} {Z : AZ} {d : Nat} {t : Option Nat × (Nat × Nat)} (hd : 3 ≤ d) : ∀ (a0 : Nat) (i1 : Int32) (s0 : Int32) (s1 : Int32) (s2 : Nat) (I : AI) (r : Unit × AI), f226_b88 kad N Z a0 i1 s0 s1 s2 I = some r → aGo kad d 226 (88, ([(0, .ref a0), (1, .int i1)], [.int s0, .int s1, .ref s2])) (aMem Z I, t) (qV Z t r) := by
  intro a0 i1 s0 s1 s2 I r h
  unfold f226_b88 at h
  refine go_ops aMi226 1 _ (f1 := (89, ([(0, .ref a0), (1, .int i1)], [.int (s1 + s0), .ref s2]))) rfl ?_
  obtain ⟨u89_1, hxu89_1, h⟩ := Option.bind_eq_some_iff.mp h
  obtain ⟨r89_2, hxr89_2, h⟩ := Option.bind_eq_some_iff.mp h
  refine gg_cv (as := [.int (s1 + s0)]) (r := []) aMi226 rfl rfl rfl aMi219 (Nat.le_of_ble_eq_true rfl) rfl (Nat.le_of_ble_eq_true rfl) (Nat.le_of_ble_eq_true rfl) (by omega) hxu89_1 (Tf219 (by omega) s2 (s1 + s0) I _ hxr89_2) ?_
  show aGo kad d 226 (92, ([(0, .ref a0), (1, .int i1)], [])) (aMem Z r89_2.2, t) _
  refine go_ops aMi226 2 _ (f1 := (94, ([(0, .ref a0), (1, .int i1)], [.int (0 : Int32), .ref a0]))) rfl ?_
  obtain ⟨I94_3, hxI94_3, h⟩ := Option.bind_eq_some_iff.mp h
  refine gg_pB aMi226 rfl rfl rfl rfl (by decide) hxI94_3 ?_
  refine go_ops aMi226 2 _ (f1 := (99, ([(0, .ref a0), (1, .int i1)], [.ref a0, .ref a0]))) rfl ?_
  obtain ⟨b99_4, hxb99_4, h⟩ := Option.bind_eq_some_iff.mp h
  refine gg_gR aMi226 rfl rfl rfl hxb99_4 ?_
  refine go_ops aMi226 1 _ (f1 := (103, ([(0, .ref a0), (1, .int i1)], [.int i1, .ref b99_4, .ref a0]))) rfl ?_
  obtain ⟨x103_5, hxx103_5, h⟩ := Option.bind_eq_some_iff.mp h
  refine gg_lI (Or.inl ⟨rfl, rfl⟩) aMi226 rfl hxx103_5 ?_
  obtain ⟨I104_6, hxI104_6, h⟩ := Option.bind_eq_some_iff.mp h
  refine gg_pI aMi226 rfl rfl rfl rfl (by decide) hxI104_6 ?_
  cases h
  exact go_ret aMi226 rfl rfl ⟨rfl, rfl⟩
def f226_b76 (kad : Nat → Nat) (N : Nat) (Z : AZ) (a0 : Nat) (i1 : Int32) (s0 : Int32) (s1 : Nat) (I : AI) : Option (Unit × AI) :=
  (gI Z I 11 30 a0).bind fun x77_1 =>
  if x77_1 = 0 then
    f226_b88 kad N Z a0 i1 (0 : Int32) s0 s1 I
  else
    f226_b88 kad N Z a0 i1 (2 : Int32) s0 s1 I
set_option maxRecDepth 20000 in
theorem Tf226_b76 {kad : Nat → Nat} {N : Nat} {Z : AZ} {d : Nat} {t : Option Nat × (Nat × Nat)} (hd : 3 ≤ d) : ∀ (a0 : Nat) (i1 : Int32) (s0 : Int32) (s1 : Nat) (I : AI) (r : Unit × AI), f226_b76 kad N Z a0 i1 s0 s1 I = some r → aGo kad d 226 (76, ([(0, .ref a0), (1, .int i1)], [.int s0, .ref s1])) (aMem Z I, t) (qV Z t r) := by
  intro a0 i1 s0 s1 I r h
  unfold f226_b76 at h
  refine go_ops aMi226 1 _ (f1 := (77, ([(0, .ref a0), (1, .int i1)], [.ref a0, .int s0, .ref s1]))) rfl ?_
  obtain ⟨x77_1, hxx77_1, h⟩ := Option.bind_eq_some_iff.mp h
  refine gg_gI aMi226 rfl rfl rfl hxx77_1 ?_
  refine gg_br (b := decide (x77_1 = 0)) (tg := 87) (off := 7) aMi226 rfl rfl rfl rfl (fun hb => ?_) (fun hb => ?_)
  · rw [if_pos (of_decide_eq_true hb)] at h
    refine go_ops aMi226 1 _ (f1 := (88, ([(0, .ref a0), (1, .int i1)], [.int (0 : Int32), .int s0, .ref s1]))) rfl ?_
    exact Tf226_b88 hd a0 i1 (0 : Int32) s0 s1 I _ h
  · rw [if_neg (of_decide_eq_false hb)] at h
    refine go_ops aMi226 2 _ (f1 := (88, ([(0, .ref a0), (1, .int i1)], [.int (2 : Int32), .int s0, .ref s1]))) rfl ?_
    exact Tf226_b88 hd a0 i1 (2 : Int32) s0 s1 I _ h
def f226_b47 (kad : Nat → Nat) (N : Nat) (Z : AZ) (a0 : Nat) (i1 : Int32) (s0 : Int32) (s1 : Nat) (I : AI) : Option (Unit × AI) :=
  (pB Z I 11 33 s1 s0).bind fun I47_1 =>
  (pB Z I47_1 11 32 a0 (0 : Int32)).bind fun I52_2 =>
  (gI Z I52_2 11 27 a0).bind fun x57_3 =>
  (isK Z a0 11).bind fun u60_4 =>
  (f219 kad N Z a0 x57_3 I52_2).bind fun r60_5 =>
  (gI Z r60_5.2 11 29 a0).bind fun x65_6 =>
  if x65_6 = 0 then
    f226_b76 kad N Z a0 i1 (0 : Int32) a0 r60_5.2
  else
    f226_b76 kad N Z a0 i1 (1 : Int32) a0 r60_5.2
set_option maxRecDepth 20000 in
theorem Tf226_b47 {kad : Nat → Nat} {N : Nat} {Z : AZ} {d : Nat} {t : Option Nat × (Nat × Nat)} (hd : 3 ≤ d) : ∀ (a0 : Nat) (i1 : Int32) (s0 : Int32) (s1 : Nat) (I : AI) (r : Unit × AI), f226_b47 kad N Z a0 i1 s0 s1 I = some r → aGo kad d 226 (47, ([(0, .ref a0), (1, .int i1)], [.int s0, .ref s1])) (aMem Z I, t) (qV Z t r) := by
  intro a0 i1 s0 s1 I r h
  unfold f226_b47 at h
  obtain ⟨I47_1, hxI47_1, h⟩ := Option.bind_eq_some_iff.mp h
  refine gg_pB aMi226 rfl rfl rfl rfl (by decide) hxI47_1 ?_
  refine go_ops aMi226 2 _ (f1 := (52, ([(0, .ref a0), (1, .int i1)], [.int (0 : Int32), .ref a0]))) rfl ?_
  obtain ⟨I52_2, hxI52_2, h⟩ := Option.bind_eq_some_iff.mp h
  refine gg_pB aMi226 rfl rfl rfl rfl (by decide) hxI52_2 ?_
  refine go_ops aMi226 2 _ (f1 := (57, ([(0, .ref a0), (1, .int i1)], [.ref a0, .ref a0]))) rfl ?_
  obtain ⟨x57_3, hxx57_3, h⟩ := Option.bind_eq_some_iff.mp h
  refine gg_gI aMi226 rfl rfl rfl hxx57_3 ?_
  obtain ⟨u60_4, hxu60_4, h⟩ := Option.bind_eq_some_iff.mp h
  obtain ⟨r60_5, hxr60_5, h⟩ := Option.bind_eq_some_iff.mp h
  refine gg_cv (as := [.int x57_3]) (r := []) aMi226 rfl rfl rfl aMi219 (Nat.le_of_ble_eq_true rfl) rfl (Nat.le_of_ble_eq_true rfl) (Nat.le_of_ble_eq_true rfl) (by omega) hxu60_4 (Tf219 (by omega) a0 x57_3 I52_2 _ hxr60_5) ?_
  show aGo kad d 226 (63, ([(0, .ref a0), (1, .int i1)], [])) (aMem Z r60_5.2, t) _
  refine go_ops aMi226 2 _ (f1 := (65, ([(0, .ref a0), (1, .int i1)], [.ref a0, .ref a0]))) rfl ?_
  obtain ⟨x65_6, hxx65_6, h⟩ := Option.bind_eq_some_iff.mp h
  refine gg_gI aMi226 rfl rfl rfl hxx65_6 ?_
  refine gg_br (b := decide (x65_6 = 0)) (tg := 75) (off := 7) aMi226 rfl rfl rfl rfl (fun hb => ?_) (fun hb => ?_)
  · rw [if_pos (of_decide_eq_true hb)] at h
    refine go_ops aMi226 1 _ (f1 := (76, ([(0, .ref a0), (1, .int i1)], [.int (0 : Int32), .ref a0]))) rfl ?_
    exact Tf226_b76 hd a0 i1 (0 : Int32) a0 r60_5.2 _ h
  · rw [if_neg (of_decide_eq_false hb)] at h
    refine go_ops aMi226 2 _ (f1 := (76, ([(0, .ref a0), (1, .int i1)], [.int (1 : Int32), .ref a0]))) rfl ?_
    exact Tf226_b76 hd a0 i1 (1 : Int32) a0 r60_5.2 _ h
def f226_b46 (kad : Nat → Nat) (N : Nat) (Z : AZ) (a0 : Nat) (i1 : Int32) (s0 : Nat) (I : AI) : Option (Unit × AI) :=
  f226_b47 kad N Z a0 i1 (0 : Int32) s0 I
set_option maxRecDepth 20000 in
theorem Tf226_b46 {kad : Nat → Nat} {N : Nat} {Z : AZ} {d : Nat} {t : Option Nat × (Nat × Nat)} (hd : 3 ≤ d) : ∀ (a0 : Nat) (i1 : Int32) (s0 : Nat) (I : AI) (r : Unit × AI), f226_b46 kad N Z a0 i1 s0 I = some r → aGo kad d 226 (46, ([(0, .ref a0), (1, .int i1)], [.ref s0])) (aMem Z I, t) (qV Z t r) := by
  intro a0 i1 s0 I r h
  unfold f226_b46 at h
  refine go_ops aMi226 1 _ (f1 := (47, ([(0, .ref a0), (1, .int i1)], [.int (0 : Int32), .ref s0]))) rfl ?_
  exact Tf226_b47 hd a0 i1 (0 : Int32) s0 I _ h
def f226_b26 (kad : Nat → Nat) (N : Nat) (Z : AZ) (a0 : Nat) (s0 : Int32) (I : AI) : Option (Unit × AI) :=
  (gI Z I 11 32 a0).bind fun x29_1 =>
  if x29_1 = 0 then
    f226_b46 kad N Z a0 s0 a0 I
  else
    (gI Z I 11 33 a0).bind fun x36_2 =>
    if x36_2 = 0 then
      f226_b46 kad N Z a0 s0 a0 I
    else
      f226_b47 kad N Z a0 s0 (1 : Int32) a0 I
set_option maxRecDepth 20000 in
theorem Tf226_b26 {kad : Nat → Nat} {N : Nat} {Z : AZ} {d : Nat} {t : Option Nat × (Nat × Nat)} (hd : 3 ≤ d) : ∀ (a0 : Nat) (s0 : Int32) (I : AI) (r : Unit × AI), f226_b26 kad N Z a0 s0 I = some r → aGo kad d 226 (26, ([(0, .ref a0)], [.int s0])) (aMem Z I, t) (qV Z t r) := by
  intro a0 s0 I r h
  unfold f226_b26 at h
  refine go_ops aMi226 3 _ (f1 := (29, ([(1, .int s0), (0, .ref a0)], [.ref a0, .ref a0]))) rfl ?_
  obtain ⟨x29_1, hxx29_1, h⟩ := Option.bind_eq_some_iff.mp h
  refine gg_gI aMi226 rfl rfl rfl hxx29_1 ?_
  refine gg_br (b := decide (x29_1 = 0)) (tg := 46) (off := 14) aMi226 rfl rfl rfl rfl (fun hb => ?_) (fun hb => ?_)
  · rw [if_pos (of_decide_eq_true hb)] at h
    refine go_le (lv1 := [(0, .ref a0), (1, .int s0)]) (aLe_of (show (List.map (fun q => q.1) ([(0, .ref a0), (1, .int s0)] : ALv)).Nodup from (by show ([0, 1] : List Nat).Nodup; decide)) (aSubL_cons rfl (aSubL_cons rfl aSubL_nil))) ?_
    exact Tf226_b46 hd a0 s0 a0 I _ h
  · rw [if_neg (of_decide_eq_false hb)] at h
    refine go_ops aMi226 1 _ (f1 := (36, ([(1, .int s0), (0, .ref a0)], [.ref a0, .ref a0]))) rfl ?_
    obtain ⟨x36_2, hxx36_2, h⟩ := Option.bind_eq_some_iff.mp h
    refine gg_gI aMi226 rfl rfl rfl hxx36_2 ?_
    refine gg_br (b := decide (x36_2 = 0)) (tg := 46) (off := 7) aMi226 rfl rfl rfl rfl (fun hb => ?_) (fun hb => ?_)
    · rw [if_pos (of_decide_eq_true hb)] at h
      refine go_le (lv1 := [(0, .ref a0), (1, .int s0)]) (aLe_of (show (List.map (fun q => q.1) ([(0, .ref a0), (1, .int s0)] : ALv)).Nodup from (by show ([0, 1] : List Nat).Nodup; decide)) (aSubL_cons rfl (aSubL_cons rfl aSubL_nil))) ?_
      exact Tf226_b46 hd a0 s0 a0 I _ h
    · rw [if_neg (of_decide_eq_false hb)] at h
      refine go_ops aMi226 2 _ (f1 := (47, ([(1, .int s0), (0, .ref a0)], [.int (1 : Int32), .ref a0]))) rfl ?_
      refine go_le (lv1 := [(0, .ref a0), (1, .int s0)]) (aLe_of (show (List.map (fun q => q.1) ([(0, .ref a0), (1, .int s0)] : ALv)).Nodup from (by show ([0, 1] : List Nat).Nodup; decide)) (aSubL_cons rfl (aSubL_cons rfl aSubL_nil))) ?_
      exact Tf226_b47 hd a0 s0 (1 : Int32) a0 I _ h
def f226 (kad : Nat → Nat) (N : Nat) (Z : AZ) (a0 : Nat) (I : AI) : Option (Unit × AI) :=
  (gI Z I 11 28 a0).bind fun x1_1 =>
  if (2 : Int32) ≤ x1_1 then
    (gI Z I 11 32 a0).bind fun x15_2 =>
    if x15_2 = 0 then
      f226_b26 kad N Z a0 (1 : Int32) I
    else
      f226_b26 kad N Z a0 (0 : Int32) I
  else
    (isK Z a0 11).bind fun u10_3 =>
    (f221 kad N Z a0 (3 : Int32) I).bind fun r10_4 =>
    some ((), r10_4.2)
set_option maxRecDepth 20000 in
theorem Tf226 {kad : Nat → Nat} {N : Nat} {Z : AZ} {d : Nat} {t : Option Nat × (Nat × Nat)} (hd : 3 ≤ d) : ∀ (a0 : Nat) (I : AI) (r : Unit × AI), f226 kad N Z a0 I = some r → aGo kad d 226 (0, ([(0, .ref a0)], [])) (aMem Z I, t) (qV Z t r) := by
  intro a0 I r h
  unfold f226 at h
  refine go_ops aMi226 1 _ (f1 := (1, ([(0, .ref a0)], [.ref a0]))) rfl ?_
  obtain ⟨x1_1, hxx1_1, h⟩ := Option.bind_eq_some_iff.mp h
  refine gg_gI aMi226 rfl rfl rfl hxx1_1 ?_
  refine go_ops aMi226 1 _ (f1 := (5, ([(0, .ref a0)], [.int (2 : Int32), .int x1_1]))) rfl ?_
  refine gg_br (b := decide ((2 : Int32) ≤ x1_1)) (tg := 14) (off := 9) aMi226 rfl rfl rfl rfl (fun hb => ?_) (fun hb => ?_)
  · rw [if_pos (of_decide_eq_true hb)] at h
    refine go_ops aMi226 1 _ (f1 := (15, ([(0, .ref a0)], [.ref a0]))) rfl ?_
    obtain ⟨x15_2, hxx15_2, h⟩ := Option.bind_eq_some_iff.mp h
    refine gg_gI aMi226 rfl rfl rfl hxx15_2 ?_
    refine gg_br (b := decide (x15_2 = 0)) (tg := 25) (off := 7) aMi226 rfl rfl rfl rfl (fun hb => ?_) (fun hb => ?_)
    · rw [if_pos (of_decide_eq_true hb)] at h
      refine go_ops aMi226 1 _ (f1 := (26, ([(0, .ref a0)], [.int (1 : Int32)]))) rfl ?_
      exact Tf226_b26 hd a0 (1 : Int32) I _ h
    · rw [if_neg (of_decide_eq_false hb)] at h
      refine go_ops aMi226 2 _ (f1 := (26, ([(0, .ref a0)], [.int (0 : Int32)]))) rfl ?_
      exact Tf226_b26 hd a0 (0 : Int32) I _ h
  · rw [if_neg (of_decide_eq_false hb)] at h
    refine go_ops aMi226 2 _ (f1 := (10, ([(0, .ref a0)], [.int (3 : Int32), .ref a0]))) rfl ?_
    obtain ⟨u10_3, hxu10_3, h⟩ := Option.bind_eq_some_iff.mp h
    obtain ⟨r10_4, hxr10_4, h⟩ := Option.bind_eq_some_iff.mp h
    refine gg_cv (as := [.int (3 : Int32)]) (r := []) aMi226 rfl rfl rfl aMi221 (Nat.le_of_ble_eq_true rfl) rfl (Nat.le_of_ble_eq_true rfl) (Nat.le_of_ble_eq_true rfl) (by omega) hxu10_3 (Tf221 (by omega) a0 (3 : Int32) I _ hxr10_4) ?_
    show aGo kad d 226 (13, ([(0, .ref a0)], [])) (aMem Z r10_4.2, t) _
    cases h
    exact go_ret aMi226 rfl rfl ⟨rfl, rfl⟩
-- KernelGymModel.faultOf (II)I
def f227_b99 (kad : Nat → Nat) (N : Nat) (Z : AZ)  (I : AI) : Option (Int32 × AI) :=
  some ((3 : Int32), I)
set_option maxRecDepth 20000 in
theorem Tf227_b99 {kad : Nat → Nat} {N : Nat} {Z : AZ} {d : Nat} {t : Option Nat × (Nat × Nat)} (hd : 0 ≤ d) : ∀  (I : AI) (r : Int32 × AI), f227_b99 kad N Z  I = some r → aGo kad d 227 (99, ([], [])) (aMem Z I, t) (qI Z t r) := by
  intro  I r h
  unfold f227_b99 at h
  refine go_ops aMi227 1 _ (f1 := (100, ([], [.int (3 : Int32)]))) rfl ?_
  cases h
  exact go_ret aMi227 rfl aRetI ⟨rfl, rfl⟩
def f227_b121 (kad : Nat → Nat) (N : Nat) (Z : AZ) (s0 : Int32) (I : AI) : Option (Int32 × AI) :=
  some (s0, I)
set_option maxRecDepth 20000 in
theorem Tf227_b121 {kad : Nat → Nat} {N : Nat} {Z : AZ} {d : Nat} {t : Option Nat × (Nat × Nat)} (hd : 0 ≤ d) : ∀ (s0 : Int32) (I : AI) (r : Int32 × AI), f227_b121 kad N Z s0 I = some r → aGo kad d 227 (121, ([], [.int s0])) (aMem Z I, t) (qI Z t r) := by
  intro s0 I r h
  unfold f227_b121 at h
  cases h
  exact go_ret aMi227 rfl aRetI ⟨rfl, rfl⟩
def f227_b120 (kad : Nat → Nat) (N : Nat) (Z : AZ)  (I : AI) : Option (Int32 × AI) :=
  f227_b121 kad N Z (0 : Int32) I
set_option maxRecDepth 20000 in
theorem Tf227_b120 {kad : Nat → Nat} {N : Nat} {Z : AZ} {d : Nat} {t : Option Nat × (Nat × Nat)} (hd : 0 ≤ d) : ∀  (I : AI) (r : Int32 × AI), f227_b120 kad N Z  I = some r → aGo kad d 227 (120, ([], [])) (aMem Z I, t) (qI Z t r) := by
  intro  I r h
  unfold f227_b120 at h
  refine go_ops aMi227 1 _ (f1 := (121, ([], [.int (0 : Int32)]))) rfl ?_
  exact Tf227_b121 hd (0 : Int32) I _ h
def f227_b86 (kad : Nat → Nat) (N : Nat) (Z : AZ) (a0 : Nat) (i1 : Int32) (i4 : Int32) (I : AI) : Option (Int32 × AI) :=
  (gI Z I 11 28 a0).bind fun x87_1 =>
  if (x87_1 + i4) ≤ (256 : Int32) then
    if ¬ i1 = (25 : Int32) then
      f227_b120 kad N Z  I
    else
      (gI Z I 11 37 a0).bind fun x108_2 =>
      if ¬ x108_2 = (60 : Int32) then
        f227_b120 kad N Z  I
      else
        f227_b121 kad N Z (4 : Int32) I
  else
    f227_b99 kad N Z  I
set_option maxRecDepth 20000 in
theorem Tf227_b86 {kad : Nat → Nat} {N : Nat} {Z : AZ} {d : Nat} {t : Option Nat × (Nat × Nat)} (hd : 0 ≤ d) : ∀ (a0 : Nat) (i1 : Int32) (i4 : Int32) (I : AI) (r : Int32 × AI), f227_b86 kad N Z a0 i1 i4 I = some r → aGo kad d 227 (86, ([(0, .ref a0), (1, .int i1), (4, .int i4)], [])) (aMem Z I, t) (qI Z t r) := by
  intro a0 i1 i4 I r h
  unfold f227_b86 at h
  refine go_ops aMi227 1 _ (f1 := (87, ([(0, .ref a0), (1, .int i1), (4, .int i4)], [.ref a0]))) rfl ?_
  obtain ⟨x87_1, hxx87_1, h⟩ := Option.bind_eq_some_iff.mp h
  refine gg_gI aMi227 rfl rfl rfl hxx87_1 ?_
  refine go_ops aMi227 3 _ (f1 := (96, ([(0, .ref a0), (1, .int i1), (4, .int i4)], [.int (256 : Int32), .int (x87_1 + i4)]))) rfl ?_
  refine gg_br (b := decide ((x87_1 + i4) ≤ (256 : Int32))) (tg := 101) (off := 5) aMi227 rfl rfl rfl rfl (fun hb => ?_) (fun hb => ?_)
  · rw [if_pos (of_decide_eq_true hb)] at h
    refine go_ops aMi227 2 _ (f1 := (104, ([(0, .ref a0), (1, .int i1), (4, .int i4)], [.int (25 : Int32), .int i1]))) rfl ?_
    refine gg_br (b := decide (¬ i1 = (25 : Int32))) (tg := 120) (off := 16) aMi227 rfl rfl rfl rfl (fun hb => ?_) (fun hb => ?_)
    · rw [if_pos (of_decide_eq_true hb)] at h
      refine go_le (lv1 := []) (aLe_of (show (List.map (fun q => q.1) ([] : ALv)).Nodup from (by show ([] : List Nat).Nodup; decide)) aSubL_nil) ?_
      exact Tf227_b120 hd  I _ h
    · rw [if_neg (of_decide_eq_false hb)] at h
      refine go_ops aMi227 1 _ (f1 := (108, ([(0, .ref a0), (1, .int i1), (4, .int i4)], [.ref a0]))) rfl ?_
      obtain ⟨x108_2, hxx108_2, h⟩ := Option.bind_eq_some_iff.mp h
      refine gg_gI aMi227 rfl rfl rfl hxx108_2 ?_
      refine go_ops aMi227 1 _ (f1 := (113, ([(0, .ref a0), (1, .int i1), (4, .int i4)], [.int (60 : Int32), .int x108_2]))) rfl ?_
      refine gg_br (b := decide (¬ x108_2 = (60 : Int32))) (tg := 120) (off := 7) aMi227 rfl rfl rfl rfl (fun hb => ?_) (fun hb => ?_)
      · rw [if_pos (of_decide_eq_true hb)] at h
        refine go_le (lv1 := []) (aLe_of (show (List.map (fun q => q.1) ([] : ALv)).Nodup from (by show ([] : List Nat).Nodup; decide)) aSubL_nil) ?_
        exact Tf227_b120 hd  I _ h
      · rw [if_neg (of_decide_eq_false hb)] at h
        refine go_ops aMi227 2 _ (f1 := (121, ([(0, .ref a0), (1, .int i1), (4, .int i4)], [.int (4 : Int32)]))) rfl ?_
        refine go_le (lv1 := []) (aLe_of (show (List.map (fun q => q.1) ([] : ALv)).Nodup from (by show ([] : List Nat).Nodup; decide)) aSubL_nil) ?_
        exact Tf227_b121 hd (4 : Int32) I _ h
  · rw [if_neg (of_decide_eq_false hb)] at h
    refine go_le (lv1 := []) (aLe_of (show (List.map (fun q => q.1) ([] : ALv)).Nodup from (by show ([] : List Nat).Nodup; decide)) aSubL_nil) ?_
    exact Tf227_b99 hd  I _ h
def f227_b72 (kad : Nat → Nat) (N : Nat) (Z : AZ) (a0 : Nat) (i1 : Int32) (i3 : Int32) (s0 : Int32) (I : AI) : Option (Int32 × AI) :=
  if i3 = 0 then
    f227_b86 kad N Z a0 i1 s0 I
  else
    (gI Z I 11 28 a0).bind fun x79_1 =>
    if x79_1 < (1 : Int32) then
      f227_b99 kad N Z  I
    else
      f227_b86 kad N Z a0 i1 s0 I
set_option maxRecDepth 20000 in
theorem Tf227_b72 {kad : Nat → Nat} {N : Nat} {Z : AZ} {d : Nat} {t : Option Nat × (Nat × Nat)} (hd : 0 ≤ d) : ∀ (a0 : Nat) (i1 : Int32) (i3 : Int32) (s0 : Int32) (I : AI) (r : Int32 × AI), f227_b72 kad N Z a0 i1 i3 s0 I = some r → aGo kad d 227 (72, ([(0, .ref a0), (1, .int i1), (3, .int i3)], [.int s0])) (aMem Z I, t) (qI Z t r) := by
  intro a0 i1 i3 s0 I r h
  unfold f227_b72 at h
  refine go_ops aMi227 2 _ (f1 := (75, ([(4, .int s0), (0, .ref a0), (1, .int i1), (3, .int i3)], [.int i3]))) rfl ?_
  refine gg_br (b := decide (i3 = 0)) (tg := 86) (off := 11) aMi227 rfl rfl rfl rfl (fun hb => ?_) (fun hb => ?_)
  · rw [if_pos (of_decide_eq_true hb)] at h
    refine go_le (lv1 := [(0, .ref a0), (1, .int i1), (4, .int s0)]) (aLe_of (show (List.map (fun q => q.1) ([(0, .ref a0), (1, .int i1), (4, .int s0)] : ALv)).Nodup from (by show ([0, 1, 4] : List Nat).Nodup; decide)) (aSubL_cons rfl (aSubL_cons rfl (aSubL_cons rfl aSubL_nil)))) ?_
    exact Tf227_b86 hd a0 i1 s0 I _ h
  · rw [if_neg (of_decide_eq_false hb)] at h
    refine go_ops aMi227 1 _ (f1 := (79, ([(4, .int s0), (0, .ref a0), (1, .int i1), (3, .int i3)], [.ref a0]))) rfl ?_
    obtain ⟨x79_1, hxx79_1, h⟩ := Option.bind_eq_some_iff.mp h
    refine gg_gI aMi227 rfl rfl rfl hxx79_1 ?_
    refine go_ops aMi227 1 _ (f1 := (83, ([(4, .int s0), (0, .ref a0), (1, .int i1), (3, .int i3)], [.int (1 : Int32), .int x79_1]))) rfl ?_
    refine gg_br (b := decide (x79_1 < (1 : Int32))) (tg := 99) (off := 16) aMi227 rfl rfl rfl rfl (fun hb => ?_) (fun hb => ?_)
    · rw [if_pos (of_decide_eq_true hb)] at h
      refine go_le (lv1 := []) (aLe_of (show (List.map (fun q => q.1) ([] : ALv)).Nodup from (by show ([] : List Nat).Nodup; decide)) aSubL_nil) ?_
      exact Tf227_b99 hd  I _ h
    · rw [if_neg (of_decide_eq_false hb)] at h
      refine go_le (lv1 := [(0, .ref a0), (1, .int i1), (4, .int s0)]) (aLe_of (show (List.map (fun q => q.1) ([(0, .ref a0), (1, .int i1), (4, .int s0)] : ALv)).Nodup from (by show ([0, 1, 4] : List Nat).Nodup; decide)) (aSubL_cons rfl (aSubL_cons rfl (aSubL_cons rfl aSubL_nil)))) ?_
      exact Tf227_b86 hd a0 i1 s0 I _ h
def f227_b57 (kad : Nat → Nat) (N : Nat) (Z : AZ) (a0 : Nat) (i1 : Int32) (i3 : Int32) (I : AI) : Option (Int32 × AI) :=
  f227_b72 kad N Z a0 i1 i3 (1 : Int32) I
set_option maxRecDepth 20000 in
theorem Tf227_b57 {kad : Nat → Nat} {N : Nat} {Z : AZ} {d : Nat} {t : Option Nat × (Nat × Nat)} (hd : 0 ≤ d) : ∀ (a0 : Nat) (i1 : Int32) (i3 : Int32) (I : AI) (r : Int32 × AI), f227_b57 kad N Z a0 i1 i3 I = some r → aGo kad d 227 (57, ([(0, .ref a0), (1, .int i1), (3, .int i3)], [])) (aMem Z I, t) (qI Z t r) := by
  intro a0 i1 i3 I r h
  unfold f227_b57 at h
  refine go_ops aMi227 2 _ (f1 := (72, ([(0, .ref a0), (1, .int i1), (3, .int i3)], [.int (1 : Int32)]))) rfl ?_
  exact Tf227_b72 hd a0 i1 i3 (1 : Int32) I _ h
def f227_b44 (kad : Nat → Nat) (N : Nat) (Z : AZ) (a0 : Nat) (i1 : Int32) (s0 : Int32) (I : AI) : Option (Int32 × AI) :=
  if i1 = (16 : Int32) then
    f227_b57 kad N Z a0 i1 s0 I
  else
    if ¬ i1 = (18 : Int32) then
      if ¬ i1 = (21 : Int32) then
        f227_b72 kad N Z a0 i1 s0 (0 : Int32) I
      else
        f227_b72 kad N Z a0 i1 s0 (2 : Int32) I
    else
      f227_b57 kad N Z a0 i1 s0 I
set_option maxRecDepth 20000 in
theorem Tf227_b44 {kad : Nat → Nat} {N : Nat} {Z : AZ} {d : Nat} {t : Option Nat × (Nat × Nat)} (hd : 0 ≤ d) : ∀ (a0 : Nat) (i1 : Int32) (s0 : Int32) (I : AI) (r : Int32 × AI), f227_b44 kad N Z a0 i1 s0 I = some r → aGo kad d 227 (44, ([(0, .ref a0), (1, .int i1)], [.int s0])) (aMem Z I, t) (qI Z t r) := by
  intro a0 i1 s0 I r h
  unfold f227_b44 at h
  refine go_ops aMi227 3 _ (f1 := (48, ([(3, .int s0), (0, .ref a0), (1, .int i1)], [.int (16 : Int32), .int i1]))) rfl ?_
  refine gg_br (b := decide (i1 = (16 : Int32))) (tg := 57) (off := 9) aMi227 rfl rfl rfl rfl (fun hb => ?_) (fun hb => ?_)
  · rw [if_pos (of_decide_eq_true hb)] at h
    refine go_le (lv1 := [(0, .ref a0), (1, .int i1), (3, .int s0)]) (aLe_of (show (List.map (fun q => q.1) ([(0, .ref a0), (1, .int i1), (3, .int s0)] : ALv)).Nodup from (by show ([0, 1, 3] : List Nat).Nodup; decide)) (aSubL_cons rfl (aSubL_cons rfl (aSubL_cons rfl aSubL_nil)))) ?_
    exact Tf227_b57 hd a0 i1 s0 I _ h
  · rw [if_neg (of_decide_eq_false hb)] at h
    refine go_ops aMi227 2 _ (f1 := (54, ([(3, .int s0), (0, .ref a0), (1, .int i1)], [.int (18 : Int32), .int i1]))) rfl ?_
    refine gg_br (b := decide (¬ i1 = (18 : Int32))) (tg := 61) (off := 7) aMi227 rfl rfl rfl rfl (fun hb => ?_) (fun hb => ?_)
    · rw [if_pos (of_decide_eq_true hb)] at h
      refine go_ops aMi227 2 _ (f1 := (64, ([(3, .int s0), (0, .ref a0), (1, .int i1)], [.int (21 : Int32), .int i1]))) rfl ?_
      refine gg_br (b := decide (¬ i1 = (21 : Int32))) (tg := 71) (off := 7) aMi227 rfl rfl rfl rfl (fun hb => ?_) (fun hb => ?_)
      · rw [if_pos (of_decide_eq_true hb)] at h
        refine go_ops aMi227 1 _ (f1 := (72, ([(3, .int s0), (0, .ref a0), (1, .int i1)], [.int (0 : Int32)]))) rfl ?_
        refine go_le (lv1 := [(0, .ref a0), (1, .int i1), (3, .int s0)]) (aLe_of (show (List.map (fun q => q.1) ([(0, .ref a0), (1, .int i1), (3, .int s0)] : ALv)).Nodup from (by show ([0, 1, 3] : List Nat).Nodup; decide)) (aSubL_cons rfl (aSubL_cons rfl (aSubL_cons rfl aSubL_nil)))) ?_
        exact Tf227_b72 hd a0 i1 s0 (0 : Int32) I _ h
      · rw [if_neg (of_decide_eq_false hb)] at h
        refine go_ops aMi227 2 _ (f1 := (72, ([(3, .int s0), (0, .ref a0), (1, .int i1)], [.int (2 : Int32)]))) rfl ?_
        refine go_le (lv1 := [(0, .ref a0), (1, .int i1), (3, .int s0)]) (aLe_of (show (List.map (fun q => q.1) ([(0, .ref a0), (1, .int i1), (3, .int s0)] : ALv)).Nodup from (by show ([0, 1, 3] : List Nat).Nodup; decide)) (aSubL_cons rfl (aSubL_cons rfl (aSubL_cons rfl aSubL_nil)))) ?_
        exact Tf227_b72 hd a0 i1 s0 (2 : Int32) I _ h
    · rw [if_neg (of_decide_eq_false hb)] at h
      refine go_le (lv1 := [(0, .ref a0), (1, .int i1), (3, .int s0)]) (aLe_of (show (List.map (fun q => q.1) ([(0, .ref a0), (1, .int i1), (3, .int s0)] : ALv)).Nodup from (by show ([0, 1, 3] : List Nat).Nodup; decide)) (aSubL_cons rfl (aSubL_cons rfl (aSubL_cons rfl aSubL_nil)))) ?_
      exact Tf227_b57 hd a0 i1 s0 I _ h
def f227_b39 (kad : Nat → Nat) (N : Nat) (Z : AZ) (a0 : Nat) (i1 : Int32) (I : AI) : Option (Int32 × AI) :=
  f227_b44 kad N Z a0 i1 (1 : Int32) I
set_option maxRecDepth 20000 in
theorem Tf227_b39 {kad : Nat → Nat} {N : Nat} {Z : AZ} {d : Nat} {t : Option Nat × (Nat × Nat)} (hd : 0 ≤ d) : ∀ (a0 : Nat) (i1 : Int32) (I : AI) (r : Int32 × AI), f227_b39 kad N Z a0 i1 I = some r → aGo kad d 227 (39, ([(0, .ref a0), (1, .int i1)], [])) (aMem Z I, t) (qI Z t r) := by
  intro a0 i1 I r h
  unfold f227_b39 at h
  refine go_ops aMi227 2 _ (f1 := (44, ([(0, .ref a0), (1, .int i1)], [.int (1 : Int32)]))) rfl ?_
  exact Tf227_b44 hd a0 i1 (1 : Int32) I _ h
def f227_b27 (kad : Nat → Nat) (N : Nat) (Z : AZ) (a0 : Nat) (i1 : Int32) (I : AI) : Option (Int32 × AI) :=
  if i1 = (15 : Int32) then
    f227_b39 kad N Z a0 i1 I
  else
    if ¬ i1 = (17 : Int32) then
      f227_b44 kad N Z a0 i1 (0 : Int32) I
    else
      f227_b39 kad N Z a0 i1 I
set_option maxRecDepth 20000 in
theorem Tf227_b27 {kad : Nat → Nat} {N : Nat} {Z : AZ} {d : Nat} {t : Option Nat × (Nat × Nat)} (hd : 0 ≤ d) : ∀ (a0 : Nat) (i1 : Int32) (I : AI) (r : Int32 × AI), f227_b27 kad N Z a0 i1 I = some r → aGo kad d 227 (27, ([(0, .ref a0), (1, .int i1)], [])) (aMem Z I, t) (qI Z t r) := by
  intro a0 i1 I r h
  unfold f227_b27 at h
  refine go_ops aMi227 2 _ (f1 := (30, ([(0, .ref a0), (1, .int i1)], [.int (15 : Int32), .int i1]))) rfl ?_
  refine gg_br (b := decide (i1 = (15 : Int32))) (tg := 39) (off := 9) aMi227 rfl rfl rfl rfl (fun hb => ?_) (fun hb => ?_)
  · rw [if_pos (of_decide_eq_true hb)] at h
    exact Tf227_b39 hd a0 i1 I _ h
  · rw [if_neg (of_decide_eq_false hb)] at h
    refine go_ops aMi227 2 _ (f1 := (36, ([(0, .ref a0), (1, .int i1)], [.int (17 : Int32), .int i1]))) rfl ?_
    refine gg_br (b := decide (¬ i1 = (17 : Int32))) (tg := 43) (off := 7) aMi227 rfl rfl rfl rfl (fun hb => ?_) (fun hb => ?_)
    · rw [if_pos (of_decide_eq_true hb)] at h
      refine go_ops aMi227 1 _ (f1 := (44, ([(0, .ref a0), (1, .int i1)], [.int (0 : Int32)]))) rfl ?_
      exact Tf227_b44 hd a0 i1 (0 : Int32) I _ h
    · rw [if_neg (of_decide_eq_false hb)] at h
      exact Tf227_b39 hd a0 i1 I _ h
def f227_b18 (kad : Nat → Nat) (N : Nat) (Z : AZ) (a0 : Nat) (i1 : Int32) (i2 : Int32) (I : AI) : Option (Int32 × AI) :=
  if i2 < (256 : Int32) then
    f227_b27 kad N Z a0 i1 I
  else
    some ((1 : Int32), I)
set_option maxRecDepth 20000 in
theorem Tf227_b18 {kad : Nat → Nat} {N : Nat} {Z : AZ} {d : Nat} {t : Option Nat × (Nat × Nat)} (hd : 0 ≤ d) : ∀ (a0 : Nat) (i1 : Int32) (i2 : Int32) (I : AI) (r : Int32 × AI), f227_b18 kad N Z a0 i1 i2 I = some r → aGo kad d 227 (18, ([(0, .ref a0), (1, .int i1), (2, .int i2)], [])) (aMem Z I, t) (qI Z t r) := by
  intro a0 i1 i2 I r h
  unfold f227_b18 at h
  refine go_ops aMi227 2 _ (f1 := (22, ([(0, .ref a0), (1, .int i1), (2, .int i2)], [.int (256 : Int32), .int i2]))) rfl ?_
  refine gg_br (b := decide (i2 < (256 : Int32))) (tg := 27) (off := 5) aMi227 rfl rfl rfl rfl (fun hb => ?_) (fun hb => ?_)
  · rw [if_pos (of_decide_eq_true hb)] at h
    refine go_le (lv1 := [(0, .ref a0), (1, .int i1)]) (aLe_of (show (List.map (fun q => q.1) ([(0, .ref a0), (1, .int i1)] : ALv)).Nodup from (by show ([0, 1] : List Nat).Nodup; decide)) (aSubL_cons rfl (aSubL_cons rfl aSubL_nil))) ?_
    exact Tf227_b27 hd a0 i1 I _ h
  · rw [if_neg (of_decide_eq_false hb)] at h
    refine go_ops aMi227 1 _ (f1 := (26, ([(0, .ref a0), (1, .int i1), (2, .int i2)], [.int (1 : Int32)]))) rfl ?_
    cases h
    exact go_ret aMi227 rfl aRetI ⟨rfl, rfl⟩
def f227 (kad : Nat → Nat) (N : Nat) (Z : AZ) (a0 : Nat) (i1 : Int32) (i2 : Int32) (I : AI) : Option (Int32 × AI) :=
  if i1 ≤ (26 : Int32) then
    if i1 = (2 : Int32) then
      f227_b18 kad N Z a0 i1 i2 I
    else
      if ¬ i1 = (3 : Int32) then
        f227_b27 kad N Z a0 i1 I
      else
        f227_b18 kad N Z a0 i1 i2 I
  else
    some ((2 : Int32), I)
set_option maxRecDepth 20000 in
theorem Tf227 {kad : Nat → Nat} {N : Nat} {Z : AZ} {d : Nat} {t : Option Nat × (Nat × Nat)} (hd : 0 ≤ d) : ∀ (a0 : Nat) (i1 : Int32) (i2 : Int32) (I : AI) (r : Int32 × AI), f227 kad N Z a0 i1 i2 I = some r → aGo kad d 227 (0, ([(0, .ref a0), (1, .int i1), (2, .int i2)], [])) (aMem Z I, t) (qI Z t r) := by
  intro a0 i1 i2 I r h
  unfold f227 at h
  refine go_ops aMi227 2 _ (f1 := (3, ([(0, .ref a0), (1, .int i1), (2, .int i2)], [.int (26 : Int32), .int i1]))) rfl ?_
  refine gg_br (b := decide (i1 ≤ (26 : Int32))) (tg := 8) (off := 5) aMi227 rfl rfl rfl rfl (fun hb => ?_) (fun hb => ?_)
  · rw [if_pos (of_decide_eq_true hb)] at h
    refine go_ops aMi227 2 _ (f1 := (10, ([(0, .ref a0), (1, .int i1), (2, .int i2)], [.int (2 : Int32), .int i1]))) rfl ?_
    refine gg_br (b := decide (i1 = (2 : Int32))) (tg := 18) (off := 8) aMi227 rfl rfl rfl rfl (fun hb => ?_) (fun hb => ?_)
    · rw [if_pos (of_decide_eq_true hb)] at h
      exact Tf227_b18 hd a0 i1 i2 I _ h
    · rw [if_neg (of_decide_eq_false hb)] at h
      refine go_ops aMi227 2 _ (f1 := (15, ([(0, .ref a0), (1, .int i1), (2, .int i2)], [.int (3 : Int32), .int i1]))) rfl ?_
      refine gg_br (b := decide (¬ i1 = (3 : Int32))) (tg := 27) (off := 12) aMi227 rfl rfl rfl rfl (fun hb => ?_) (fun hb => ?_)
      · rw [if_pos (of_decide_eq_true hb)] at h
        refine go_le (lv1 := [(0, .ref a0), (1, .int i1)]) (aLe_of (show (List.map (fun q => q.1) ([(0, .ref a0), (1, .int i1)] : ALv)).Nodup from (by show ([0, 1] : List Nat).Nodup; decide)) (aSubL_cons rfl (aSubL_cons rfl aSubL_nil))) ?_
        exact Tf227_b27 hd a0 i1 I _ h
      · rw [if_neg (of_decide_eq_false hb)] at h
        exact Tf227_b18 hd a0 i1 i2 I _ h
  · rw [if_neg (of_decide_eq_false hb)] at h
    refine go_ops aMi227 1 _ (f1 := (7, ([(0, .ref a0), (1, .int i1), (2, .int i2)], [.int (2 : Int32)]))) rfl ?_
    cases h
    exact go_ret aMi227 rfl aRetI ⟨rfl, rfl⟩
