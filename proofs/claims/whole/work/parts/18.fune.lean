-- KernelGym$Machine.hasRoomFor (I)Z
def f93 (kad : Nat → Nat) (N : Nat) (Z : AZ) (a0 : Nat) (i1 : Int32) (I : AI) : Option (Int32 × AI) :=
  (gR Z I 8 0 a0).bind fun b1_1 =>
  (gI Z I 2 4 b1_1).bind fun x4_2 =>
  if i1 ≤ x4_2 then
    if (1 : Int32) = 0 ∨ (1 : Int32) = 1 then some ((1 : Int32), I) else none
  else
    (isK Z a0 8).bind fun u13_3 =>
    (f87 kad N Z a0 (3 : Int32) I).bind fun r13_4 =>
    if (0 : Int32) = 0 ∨ (0 : Int32) = 1 then some ((0 : Int32), r13_4.2) else none
set_option maxRecDepth 20000 in
theorem Tf93 {kad : Nat → Nat} {N : Nat} {Z : AZ} {d : Nat} {t : Option Nat × (Nat × Nat)} (hd : 1 ≤ d) : ∀ (a0 : Nat) (i1 : Int32) (I : AI) (r : Int32 × AI), f93 kad N Z a0 i1 I = some r → aGo kad d 93 (0, ([(0, .ref a0), (1, .int i1)], [])) (aMem Z I, t) (qI Z t r) := by
  intro a0 i1 I r h
  unfold f93 at h
  refine go_ops aMi93 1 _ (f1 := (1, ([(0, .ref a0), (1, .int i1)], [.ref a0]))) rfl ?_
  obtain ⟨b1_1, hxb1_1, h⟩ := Option.bind_eq_some_iff.mp h
  refine gg_gR aMi93 rfl rfl rfl hxb1_1 ?_
  obtain ⟨x4_2, hxx4_2, h⟩ := Option.bind_eq_some_iff.mp h
  refine gg_gI aMi93 rfl rfl rfl hxx4_2 ?_
  refine go_ops aMi93 1 _ (f1 := (8, ([(0, .ref a0), (1, .int i1)], [.int i1, .int x4_2]))) rfl ?_
  refine gg_br (b := decide (i1 ≤ x4_2)) (tg := 18) (off := 10) aMi93 rfl rfl rfl rfl (fun hb => ?_) (fun hb => ?_)
  · rw [if_pos (of_decide_eq_true hb)] at h
    refine go_ops aMi93 1 _ (f1 := (19, ([(0, .ref a0), (1, .int i1)], [.int (1 : Int32)]))) rfl ?_
    split at h
    · rename_i hz
      cases h
      exact go_ret aMi93 rfl (aRetZ hz) ⟨rfl, rfl⟩
    · cases h
  · rw [if_neg (of_decide_eq_false hb)] at h
    refine go_ops aMi93 2 _ (f1 := (13, ([(0, .ref a0), (1, .int i1)], [.int (3 : Int32), .ref a0]))) rfl ?_
    obtain ⟨u13_3, hxu13_3, h⟩ := Option.bind_eq_some_iff.mp h
    obtain ⟨r13_4, hxr13_4, h⟩ := Option.bind_eq_some_iff.mp h
    refine gg_cv (as := [.int (3 : Int32)]) (r := []) aMi93 rfl rfl rfl aMi87 (Nat.le_of_ble_eq_true rfl) rfl (Nat.le_of_ble_eq_true rfl) (Nat.le_of_ble_eq_true rfl) (by omega) hxu13_3 (Tf87 (by omega) a0 (3 : Int32) I _ hxr13_4) ?_
    show aGo kad d 93 (16, ([(0, .ref a0), (1, .int i1)], [])) (aMem Z r13_4.2, t) _
    refine go_ops aMi93 1 _ (f1 := (17, ([(0, .ref a0), (1, .int i1)], [.int (0 : Int32)]))) rfl ?_
    split at h
    · rename_i hz
      cases h
      exact go_ret aMi93 rfl (aRetZ hz) ⟨rfl, rfl⟩
    · cases h
-- KernelGym$Machine.writeWord (II)V
def f90_b32 (kad : Nat → Nat) (N : Nat) (Z : AZ)  (I : AI) : Option (Unit × AI) :=
  some ((), I)
set_option maxRecDepth 20000 in
theorem Tf90_b32 {kad : Nat → Nat} {N : Nat} {Z : AZ} {d : Nat} {t : Option Nat × (Nat × Nat)} (hd : 1 ≤ d) : ∀  (I : AI) (r : Unit × AI), f90_b32 kad N Z  I = some r → aGo kad d 90 (32, ([], [])) (aMem Z I, t) (qV Z t r) := by
  intro  I r h
  unfold f90_b32 at h
  cases h
  exact go_ret aMi90 rfl rfl ⟨rfl, rfl⟩
def f90 (kad : Nat → Nat) (N : Nat) (Z : AZ) (a0 : Nat) (i1 : Int32) (i2 : Int32) (I : AI) : Option (Unit × AI) :=
  if i1 < 0 then
    f90_b32 kad N Z  I
  else
    if (256 : Int32) ≤ i1 then
      f90_b32 kad N Z  I
    else
      (gR Z I 8 7 a0).bind fun b12_1 =>
      (gR Z I 8 1 a0).bind fun b17_2 =>
      (lI Z I 100 b17_2 i1).bind fun x21_3 =>
      (isK Z b12_1 5).bind fun u22_4 =>
      (f68 kad N Z b12_1 i1 x21_3 I).bind fun r22_5 =>
      (gR Z r22_5.2 8 1 a0).bind fun b26_6 =>
      (sI Z r22_5.2 100 b26_6 i1 i2).bind fun I31_7 =>
      f90_b32 kad N Z  I31_7
set_option maxRecDepth 20000 in
theorem Tf90 {kad : Nat → Nat} {N : Nat} {Z : AZ} {d : Nat} {t : Option Nat × (Nat × Nat)} (hd : 1 ≤ d) : ∀ (a0 : Nat) (i1 : Int32) (i2 : Int32) (I : AI) (r : Unit × AI), f90 kad N Z a0 i1 i2 I = some r → aGo kad d 90 (0, ([(0, .ref a0), (1, .int i1), (2, .int i2)], [])) (aMem Z I, t) (qV Z t r) := by
  intro a0 i1 i2 I r h
  unfold f90 at h
  refine go_ops aMi90 1 _ (f1 := (1, ([(0, .ref a0), (1, .int i1), (2, .int i2)], [.int i1]))) rfl ?_
  refine gg_br (b := decide (i1 < 0)) (tg := 32) (off := 31) aMi90 rfl rfl rfl rfl (fun hb => ?_) (fun hb => ?_)
  · rw [if_pos (of_decide_eq_true hb)] at h
    refine go_le (lv1 := []) (aLe_of (show (List.map (fun q => q.1) ([] : ALv)).Nodup from (by show ([] : List Nat).Nodup; decide)) aSubL_nil) ?_
    exact Tf90_b32 hd  I _ h
  · rw [if_neg (of_decide_eq_false hb)] at h
    refine go_ops aMi90 2 _ (f1 := (8, ([(0, .ref a0), (1, .int i1), (2, .int i2)], [.int (256 : Int32), .int i1]))) rfl ?_
    refine gg_br (b := decide ((256 : Int32) ≤ i1)) (tg := 32) (off := 24) aMi90 rfl rfl rfl rfl (fun hb => ?_) (fun hb => ?_)
    · rw [if_pos (of_decide_eq_true hb)] at h
      refine go_le (lv1 := []) (aLe_of (show (List.map (fun q => q.1) ([] : ALv)).Nodup from (by show ([] : List Nat).Nodup; decide)) aSubL_nil) ?_
      exact Tf90_b32 hd  I _ h
    · rw [if_neg (of_decide_eq_false hb)] at h
      refine go_ops aMi90 1 _ (f1 := (12, ([(0, .ref a0), (1, .int i1), (2, .int i2)], [.ref a0]))) rfl ?_
      obtain ⟨b12_1, hxb12_1, h⟩ := Option.bind_eq_some_iff.mp h
      refine gg_gR aMi90 rfl rfl rfl hxb12_1 ?_
      refine go_ops aMi90 2 _ (f1 := (17, ([(0, .ref a0), (1, .int i1), (2, .int i2)], [.ref a0, .int i1, .ref b12_1]))) rfl ?_
      obtain ⟨b17_2, hxb17_2, h⟩ := Option.bind_eq_some_iff.mp h
      refine gg_gR aMi90 rfl rfl rfl hxb17_2 ?_
      refine go_ops aMi90 1 _ (f1 := (21, ([(0, .ref a0), (1, .int i1), (2, .int i2)], [.int i1, .ref b17_2, .int i1, .ref b12_1]))) rfl ?_
      obtain ⟨x21_3, hxx21_3, h⟩ := Option.bind_eq_some_iff.mp h
      refine gg_lI (Or.inl ⟨rfl, rfl⟩) aMi90 rfl hxx21_3 ?_
      obtain ⟨u22_4, hxu22_4, h⟩ := Option.bind_eq_some_iff.mp h
      obtain ⟨r22_5, hxr22_5, h⟩ := Option.bind_eq_some_iff.mp h
      refine gg_cv (as := [.int i1, .int x21_3]) (r := []) aMi90 rfl rfl rfl aMi68 (Nat.le_of_ble_eq_true rfl) rfl (Nat.le_of_ble_eq_true rfl) (Nat.le_of_ble_eq_true rfl) (by omega) hxu22_4 (Tf68 (by omega) b12_1 i1 x21_3 I _ hxr22_5) ?_
      show aGo kad d 90 (25, ([(0, .ref a0), (1, .int i1), (2, .int i2)], [])) (aMem Z r22_5.2, t) _
      refine go_ops aMi90 1 _ (f1 := (26, ([(0, .ref a0), (1, .int i1), (2, .int i2)], [.ref a0]))) rfl ?_
      obtain ⟨b26_6, hxb26_6, h⟩ := Option.bind_eq_some_iff.mp h
      refine gg_gR aMi90 rfl rfl rfl hxb26_6 ?_
      refine go_ops aMi90 2 _ (f1 := (31, ([(0, .ref a0), (1, .int i1), (2, .int i2)], [.int i2, .int i1, .ref b26_6]))) rfl ?_
      obtain ⟨I31_7, hxI31_7, h⟩ := Option.bind_eq_some_iff.mp h
      refine gg_sI (Or.inl ⟨rfl, rfl⟩) aMi90 rfl hxI31_7 ?_
      refine go_le (lv1 := []) (aLe_of (show (List.map (fun q => q.1) ([] : ALv)).Nodup from (by show ([] : List Nat).Nodup; decide)) aSubL_nil) ?_
      exact Tf90_b32 hd  I31_7 _ h
-- KernelGym$Machine.push (I)V
def f91 (kad : Nat → Nat) (N : Nat) (Z : AZ) (a0 : Nat) (i1 : Int32) (I : AI) : Option (Unit × AI) :=
  (gR Z I 8 0 a0).bind fun b1_1 =>
  (gI Z I 2 4 b1_1).bind fun x5_2 =>
  (pI Z I 2 4 b1_1 (x5_2 - (1 : Int32))).bind fun I10_3 =>
  (gR Z I10_3 8 0 a0).bind fun b15_4 =>
  (gI Z I10_3 2 4 b15_4).bind fun x18_5 =>
  (isK Z a0 8).bind fun u22_6 =>
  (f90 kad N Z a0 x18_5 i1 I10_3).bind fun r22_7 =>
  some ((), r22_7.2)
set_option maxRecDepth 20000 in
theorem Tf91 {kad : Nat → Nat} {N : Nat} {Z : AZ} {d : Nat} {t : Option Nat × (Nat × Nat)} (hd : 2 ≤ d) : ∀ (a0 : Nat) (i1 : Int32) (I : AI) (r : Unit × AI), f91 kad N Z a0 i1 I = some r → aGo kad d 91 (0, ([(0, .ref a0), (1, .int i1)], [])) (aMem Z I, t) (qV Z t r) := by
  intro a0 i1 I r h
  unfold f91 at h
  refine go_ops aMi91 1 _ (f1 := (1, ([(0, .ref a0), (1, .int i1)], [.ref a0]))) rfl ?_
  obtain ⟨b1_1, hxb1_1, h⟩ := Option.bind_eq_some_iff.mp h
  refine gg_gR aMi91 rfl rfl rfl hxb1_1 ?_
  refine go_ops aMi91 1 _ (f1 := (5, ([(0, .ref a0), (1, .int i1)], [.ref b1_1, .ref b1_1]))) rfl ?_
  obtain ⟨x5_2, hxx5_2, h⟩ := Option.bind_eq_some_iff.mp h
  refine gg_gI aMi91 rfl rfl rfl hxx5_2 ?_
  refine go_ops aMi91 2 _ (f1 := (10, ([(0, .ref a0), (1, .int i1)], [.int (x5_2 - (1 : Int32)), .ref b1_1]))) rfl ?_
  obtain ⟨I10_3, hxI10_3, h⟩ := Option.bind_eq_some_iff.mp h
  refine gg_pI aMi91 rfl rfl rfl rfl (by decide) hxI10_3 ?_
  refine go_ops aMi91 2 _ (f1 := (15, ([(0, .ref a0), (1, .int i1)], [.ref a0, .ref a0]))) rfl ?_
  obtain ⟨b15_4, hxb15_4, h⟩ := Option.bind_eq_some_iff.mp h
  refine gg_gR aMi91 rfl rfl rfl hxb15_4 ?_
  obtain ⟨x18_5, hxx18_5, h⟩ := Option.bind_eq_some_iff.mp h
  refine gg_gI aMi91 rfl rfl rfl hxx18_5 ?_
  refine go_ops aMi91 1 _ (f1 := (22, ([(0, .ref a0), (1, .int i1)], [.int i1, .int x18_5, .ref a0]))) rfl ?_
  obtain ⟨u22_6, hxu22_6, h⟩ := Option.bind_eq_some_iff.mp h
  obtain ⟨r22_7, hxr22_7, h⟩ := Option.bind_eq_some_iff.mp h
  refine gg_cv (as := [.int x18_5, .int i1]) (r := []) aMi91 rfl rfl rfl aMi90 (Nat.le_of_ble_eq_true rfl) rfl (Nat.le_of_ble_eq_true rfl) (Nat.le_of_ble_eq_true rfl) (by omega) hxu22_6 (Tf90 (by omega) a0 x18_5 i1 I10_3 _ hxr22_7) ?_
  show aGo kad d 91 (25, ([(0, .ref a0), (1, .int i1)], [])) (aMem Z r22_7.2, t) _
  cases h
  exact go_ret aMi91 rfl rfl ⟨rfl, rfl⟩
-- KernelGym$Machine.wordAt (I)I
def f89_b21 (kad : Nat → Nat) (N : Nat) (Z : AZ) (s0 : Int32) (I : AI) : Option (Int32 × AI) :=
  some (s0, I)
set_option maxRecDepth 20000 in
theorem Tf89_b21 {kad : Nat → Nat} {N : Nat} {Z : AZ} {d : Nat} {t : Option Nat × (Nat × Nat)} (hd : 0 ≤ d) : ∀ (s0 : Int32) (I : AI) (r : Int32 × AI), f89_b21 kad N Z s0 I = some r → aGo kad d 89 (21, ([], [.int s0])) (aMem Z I, t) (qI Z t r) := by
  intro s0 I r h
  unfold f89_b21 at h
  cases h
  exact go_ret aMi89 rfl aRetI ⟨rfl, rfl⟩
def f89_b20 (kad : Nat → Nat) (N : Nat) (Z : AZ)  (I : AI) : Option (Int32 × AI) :=
  f89_b21 kad N Z (0 : Int32) I
set_option maxRecDepth 20000 in
theorem Tf89_b20 {kad : Nat → Nat} {N : Nat} {Z : AZ} {d : Nat} {t : Option Nat × (Nat × Nat)} (hd : 0 ≤ d) : ∀  (I : AI) (r : Int32 × AI), f89_b20 kad N Z  I = some r → aGo kad d 89 (20, ([], [])) (aMem Z I, t) (qI Z t r) := by
  intro  I r h
  unfold f89_b20 at h
  refine go_ops aMi89 1 _ (f1 := (21, ([], [.int (0 : Int32)]))) rfl ?_
  exact Tf89_b21 hd (0 : Int32) I _ h
def f89 (kad : Nat → Nat) (N : Nat) (Z : AZ) (a0 : Nat) (i1 : Int32) (I : AI) : Option (Int32 × AI) :=
  if i1 < 0 then
    f89_b20 kad N Z  I
  else
    if (256 : Int32) ≤ i1 then
      f89_b20 kad N Z  I
    else
      (gR Z I 8 1 a0).bind fun b12_1 =>
      (lI Z I 100 b12_1 i1).bind fun x16_2 =>
      f89_b21 kad N Z x16_2 I
set_option maxRecDepth 20000 in
theorem Tf89 {kad : Nat → Nat} {N : Nat} {Z : AZ} {d : Nat} {t : Option Nat × (Nat × Nat)} (hd : 0 ≤ d) : ∀ (a0 : Nat) (i1 : Int32) (I : AI) (r : Int32 × AI), f89 kad N Z a0 i1 I = some r → aGo kad d 89 (0, ([(0, .ref a0), (1, .int i1)], [])) (aMem Z I, t) (qI Z t r) := by
  intro a0 i1 I r h
  unfold f89 at h
  refine go_ops aMi89 1 _ (f1 := (1, ([(0, .ref a0), (1, .int i1)], [.int i1]))) rfl ?_
  refine gg_br (b := decide (i1 < 0)) (tg := 20) (off := 19) aMi89 rfl rfl rfl rfl (fun hb => ?_) (fun hb => ?_)
  · rw [if_pos (of_decide_eq_true hb)] at h
    refine go_le (lv1 := []) (aLe_of (show (List.map (fun q => q.1) ([] : ALv)).Nodup from (by show ([] : List Nat).Nodup; decide)) aSubL_nil) ?_
    exact Tf89_b20 hd  I _ h
  · rw [if_neg (of_decide_eq_false hb)] at h
    refine go_ops aMi89 2 _ (f1 := (8, ([(0, .ref a0), (1, .int i1)], [.int (256 : Int32), .int i1]))) rfl ?_
    refine gg_br (b := decide ((256 : Int32) ≤ i1)) (tg := 20) (off := 12) aMi89 rfl rfl rfl rfl (fun hb => ?_) (fun hb => ?_)
    · rw [if_pos (of_decide_eq_true hb)] at h
      refine go_le (lv1 := []) (aLe_of (show (List.map (fun q => q.1) ([] : ALv)).Nodup from (by show ([] : List Nat).Nodup; decide)) aSubL_nil) ?_
      exact Tf89_b20 hd  I _ h
    · rw [if_neg (of_decide_eq_false hb)] at h
      refine go_ops aMi89 1 _ (f1 := (12, ([(0, .ref a0), (1, .int i1)], [.ref a0]))) rfl ?_
      obtain ⟨b12_1, hxb12_1, h⟩ := Option.bind_eq_some_iff.mp h
      refine gg_gR aMi89 rfl rfl rfl hxb12_1 ?_
      refine go_ops aMi89 1 _ (f1 := (16, ([(0, .ref a0), (1, .int i1)], [.int i1, .ref b12_1]))) rfl ?_
      obtain ⟨x16_2, hxx16_2, h⟩ := Option.bind_eq_some_iff.mp h
      refine gg_lI (Or.inl ⟨rfl, rfl⟩) aMi89 rfl hxx16_2 ?_
      refine go_ops aMi89 1 _ (f1 := (21, ([(0, .ref a0), (1, .int i1)], [.int x16_2]))) rfl ?_
      refine go_le (lv1 := []) (aLe_of (show (List.map (fun q => q.1) ([] : ALv)).Nodup from (by show ([] : List Nat).Nodup; decide)) aSubL_nil) ?_
      exact Tf89_b21 hd x16_2 I _ h
-- KernelGym$Machine.takeInterrupt ()V
def f95_b54 (kad : Nat → Nat) (N : Nat) (Z : AZ) (a0 : Nat) (i1 : Int32) (I : AI) : Option (Unit × AI) :=
  (gR Z I 8 0 a0).bind fun b56_1 =>
  (gI Z I 2 3 b56_1).bind fun x59_2 =>
  (isK Z a0 8).bind fun u62_3 =>
  (f91 kad N Z a0 x59_2 I).bind fun r62_4 =>
  (gR Z r62_4.2 8 0 a0).bind fun b67_5 =>
  (isK Z b67_5 2).bind fun u70_6 =>
  (f39 kad N Z b67_5 r62_4.2).bind fun r70_7 =>
  (isK Z a0 8).bind fun u73_8 =>
  (f91 kad N Z a0 r70_7.1 r70_7.2).bind fun r73_9 =>
  (gR Z r73_9.2 8 0 a0).bind fun b77_10 =>
  (pB Z r73_9.2 2 7 b77_10 (0 : Int32)).bind fun I81_11 =>
  (gR Z I81_11 8 0 a0).bind fun b85_12 =>
  (isK Z a0 8).bind fun u90_13 =>
  (f89 kad N Z a0 i1 I81_11).bind fun r90_14 =>
  (pI Z r90_14.2 2 3 b85_12 r90_14.1).bind fun I93_15 =>
  some ((), I93_15)
set_option maxRecDepth 20000 in
theorem Tf95_b54 {kad : Nat → Nat} {N : Nat} {Z : AZ} {d : Nat} {t : Option Nat × (Nat × Nat)} (hd : 3 ≤ d) : ∀ (a0 : Nat) (i1 : Int32) (I : AI) (r : Unit × AI), f95_b54 kad N Z a0 i1 I = some r → aGo kad d 95 (54, ([(0, .ref a0), (1, .int i1)], [])) (aMem Z I, t) (qV Z t r) := by
  intro a0 i1 I r h
  unfold f95_b54 at h
  refine go_ops aMi95 2 _ (f1 := (56, ([(0, .ref a0), (1, .int i1)], [.ref a0, .ref a0]))) rfl ?_
  obtain ⟨b56_1, hxb56_1, h⟩ := Option.bind_eq_some_iff.mp h
  refine gg_gR aMi95 rfl rfl rfl hxb56_1 ?_
  obtain ⟨x59_2, hxx59_2, h⟩ := Option.bind_eq_some_iff.mp h
  refine gg_gI aMi95 rfl rfl rfl hxx59_2 ?_
  obtain ⟨u62_3, hxu62_3, h⟩ := Option.bind_eq_some_iff.mp h
  obtain ⟨r62_4, hxr62_4, h⟩ := Option.bind_eq_some_iff.mp h
  refine gg_cv (as := [.int x59_2]) (r := []) aMi95 rfl rfl rfl aMi91 (Nat.le_of_ble_eq_true rfl) rfl (Nat.le_of_ble_eq_true rfl) (Nat.le_of_ble_eq_true rfl) (by omega) hxu62_3 (Tf91 (by omega) a0 x59_2 I _ hxr62_4) ?_
  show aGo kad d 95 (65, ([(0, .ref a0), (1, .int i1)], [])) (aMem Z r62_4.2, t) _
  refine go_ops aMi95 2 _ (f1 := (67, ([(0, .ref a0), (1, .int i1)], [.ref a0, .ref a0]))) rfl ?_
  obtain ⟨b67_5, hxb67_5, h⟩ := Option.bind_eq_some_iff.mp h
  refine gg_gR aMi95 rfl rfl rfl hxb67_5 ?_
  obtain ⟨u70_6, hxu70_6, h⟩ := Option.bind_eq_some_iff.mp h
  obtain ⟨r70_7, hxr70_7, h⟩ := Option.bind_eq_some_iff.mp h
  refine gg_cv (as := []) (r := [.ref a0]) aMi95 rfl rfl rfl aMi39 (Nat.le_of_ble_eq_true rfl) rfl (Nat.le_of_ble_eq_true rfl) (Nat.le_of_ble_eq_true rfl) (by omega) hxu70_6 (Tf39 (by omega) b67_5 r62_4.2 _ hxr70_7) ?_
  show aGo kad d 95 (73, ([(0, .ref a0), (1, .int i1)], [.int r70_7.1, .ref a0])) (aMem Z r70_7.2, t) _
  obtain ⟨u73_8, hxu73_8, h⟩ := Option.bind_eq_some_iff.mp h
  obtain ⟨r73_9, hxr73_9, h⟩ := Option.bind_eq_some_iff.mp h
  refine gg_cv (as := [.int r70_7.1]) (r := []) aMi95 rfl rfl rfl aMi91 (Nat.le_of_ble_eq_true rfl) rfl (Nat.le_of_ble_eq_true rfl) (Nat.le_of_ble_eq_true rfl) (by omega) hxu73_8 (Tf91 (by omega) a0 r70_7.1 r70_7.2 _ hxr73_9) ?_
  show aGo kad d 95 (76, ([(0, .ref a0), (1, .int i1)], [])) (aMem Z r73_9.2, t) _
  refine go_ops aMi95 1 _ (f1 := (77, ([(0, .ref a0), (1, .int i1)], [.ref a0]))) rfl ?_
  obtain ⟨b77_10, hxb77_10, h⟩ := Option.bind_eq_some_iff.mp h
  refine gg_gR aMi95 rfl rfl rfl hxb77_10 ?_
  refine go_ops aMi95 1 _ (f1 := (81, ([(0, .ref a0), (1, .int i1)], [.int (0 : Int32), .ref b77_10]))) rfl ?_
  obtain ⟨I81_11, hxI81_11, h⟩ := Option.bind_eq_some_iff.mp h
  refine gg_pB aMi95 rfl rfl rfl rfl (by decide) hxI81_11 ?_
  refine go_ops aMi95 1 _ (f1 := (85, ([(0, .ref a0), (1, .int i1)], [.ref a0]))) rfl ?_
  obtain ⟨b85_12, hxb85_12, h⟩ := Option.bind_eq_some_iff.mp h
  refine gg_gR aMi95 rfl rfl rfl hxb85_12 ?_
  refine go_ops aMi95 2 _ (f1 := (90, ([(0, .ref a0), (1, .int i1)], [.int i1, .ref a0, .ref b85_12]))) rfl ?_
  obtain ⟨u90_13, hxu90_13, h⟩ := Option.bind_eq_some_iff.mp h
  obtain ⟨r90_14, hxr90_14, h⟩ := Option.bind_eq_some_iff.mp h
  refine gg_cv (as := [.int i1]) (r := [.ref b85_12]) aMi95 rfl rfl rfl aMi89 (Nat.le_of_ble_eq_true rfl) rfl (Nat.le_of_ble_eq_true rfl) (Nat.le_of_ble_eq_true rfl) (by omega) hxu90_13 (Tf89 (by omega) a0 i1 I81_11 _ hxr90_14) ?_
  show aGo kad d 95 (93, ([(0, .ref a0), (1, .int i1)], [.int r90_14.1, .ref b85_12])) (aMem Z r90_14.2, t) _
  obtain ⟨I93_15, hxI93_15, h⟩ := Option.bind_eq_some_iff.mp h
  refine gg_pI aMi95 rfl rfl rfl rfl (by decide) hxI93_15 ?_
  cases h
  exact go_ret aMi95 rfl rfl ⟨rfl, rfl⟩
def f95_b24 (kad : Nat → Nat) (N : Nat) (Z : AZ) (a0 : Nat) (s0 : Int32) (I : AI) : Option (Unit × AI) :=
  (gR Z I 8 0 a0).bind fun b26_1 =>
  (gI Z I 2 8 b26_1).bind fun x29_2 =>
  if x29_2 = 0 then
    (gR Z I 8 0 a0).bind fun b47_3 =>
    (pB Z I 2 9 b47_3 (0 : Int32)).bind fun I51_4 =>
    f95_b54 kad N Z a0 s0 I51_4
  else
    (gR Z I 8 0 a0).bind fun b36_5 =>
    (pB Z I 2 8 b36_5 (0 : Int32)).bind fun I40_6 =>
    f95_b54 kad N Z a0 s0 I40_6
set_option maxRecDepth 20000 in
theorem Tf95_b24 {kad : Nat → Nat} {N : Nat} {Z : AZ} {d : Nat} {t : Option Nat × (Nat × Nat)} (hd : 3 ≤ d) : ∀ (a0 : Nat) (s0 : Int32) (I : AI) (r : Unit × AI), f95_b24 kad N Z a0 s0 I = some r → aGo kad d 95 (24, ([(0, .ref a0)], [.int s0])) (aMem Z I, t) (qV Z t r) := by
  intro a0 s0 I r h
  unfold f95_b24 at h
  refine go_ops aMi95 2 _ (f1 := (26, ([(1, .int s0), (0, .ref a0)], [.ref a0]))) rfl ?_
  obtain ⟨b26_1, hxb26_1, h⟩ := Option.bind_eq_some_iff.mp h
  refine gg_gR aMi95 rfl rfl rfl hxb26_1 ?_
  obtain ⟨x29_2, hxx29_2, h⟩ := Option.bind_eq_some_iff.mp h
  refine gg_gI aMi95 rfl rfl rfl hxx29_2 ?_
  refine gg_br (b := decide (x29_2 = 0)) (tg := 46) (off := 14) aMi95 rfl rfl rfl rfl (fun hb => ?_) (fun hb => ?_)
  · rw [if_pos (of_decide_eq_true hb)] at h
    refine go_ops aMi95 1 _ (f1 := (47, ([(1, .int s0), (0, .ref a0)], [.ref a0]))) rfl ?_
    obtain ⟨b47_3, hxb47_3, h⟩ := Option.bind_eq_some_iff.mp h
    refine gg_gR aMi95 rfl rfl rfl hxb47_3 ?_
    refine go_ops aMi95 1 _ (f1 := (51, ([(1, .int s0), (0, .ref a0)], [.int (0 : Int32), .ref b47_3]))) rfl ?_
    obtain ⟨I51_4, hxI51_4, h⟩ := Option.bind_eq_some_iff.mp h
    refine gg_pB aMi95 rfl rfl rfl rfl (by decide) hxI51_4 ?_
    refine go_le (lv1 := [(0, .ref a0), (1, .int s0)]) (aLe_of (show (List.map (fun q => q.1) ([(0, .ref a0), (1, .int s0)] : ALv)).Nodup from (by show ([0, 1] : List Nat).Nodup; decide)) (aSubL_cons rfl (aSubL_cons rfl aSubL_nil))) ?_
    exact Tf95_b54 hd a0 s0 I51_4 _ h
  · rw [if_neg (of_decide_eq_false hb)] at h
    refine go_ops aMi95 1 _ (f1 := (36, ([(1, .int s0), (0, .ref a0)], [.ref a0]))) rfl ?_
    obtain ⟨b36_5, hxb36_5, h⟩ := Option.bind_eq_some_iff.mp h
    refine gg_gR aMi95 rfl rfl rfl hxb36_5 ?_
    refine go_ops aMi95 1 _ (f1 := (40, ([(1, .int s0), (0, .ref a0)], [.int (0 : Int32), .ref b36_5]))) rfl ?_
    obtain ⟨I40_6, hxI40_6, h⟩ := Option.bind_eq_some_iff.mp h
    refine gg_pB aMi95 rfl rfl rfl rfl (by decide) hxI40_6 ?_
    refine go_ops aMi95 1 _ (f1 := (54, ([(1, .int s0), (0, .ref a0)], []))) rfl ?_
    refine go_le (lv1 := [(0, .ref a0), (1, .int s0)]) (aLe_of (show (List.map (fun q => q.1) ([(0, .ref a0), (1, .int s0)] : ALv)).Nodup from (by show ([0, 1] : List Nat).Nodup; decide)) (aSubL_cons rfl (aSubL_cons rfl aSubL_nil))) ?_
    exact Tf95_b54 hd a0 s0 I40_6 _ h
def f95 (kad : Nat → Nat) (N : Nat) (Z : AZ) (a0 : Nat) (I : AI) : Option (Unit × AI) :=
  (isK Z a0 8).bind fun u2_1 =>
  (f93 kad N Z a0 (2 : Int32) I).bind fun r2_2 =>
  if ¬ r2_2.1 = 0 then
    (gR Z r2_2.2 8 0 a0).bind fun b10_3 =>
    (gI Z r2_2.2 2 8 b10_3).bind fun x13_4 =>
    if x13_4 = 0 then
      f95_b24 kad N Z a0 (1 : Int32) r2_2.2
    else
      f95_b24 kad N Z a0 (0 : Int32) r2_2.2
  else
    some ((), r2_2.2)
set_option maxRecDepth 20000 in
theorem Tf95 {kad : Nat → Nat} {N : Nat} {Z : AZ} {d : Nat} {t : Option Nat × (Nat × Nat)} (hd : 3 ≤ d) : ∀ (a0 : Nat) (I : AI) (r : Unit × AI), f95 kad N Z a0 I = some r → aGo kad d 95 (0, ([(0, .ref a0)], [])) (aMem Z I, t) (qV Z t r) := by
  intro a0 I r h
  unfold f95 at h
  refine go_ops aMi95 2 _ (f1 := (2, ([(0, .ref a0)], [.int (2 : Int32), .ref a0]))) rfl ?_
  obtain ⟨u2_1, hxu2_1, h⟩ := Option.bind_eq_some_iff.mp h
  obtain ⟨r2_2, hxr2_2, h⟩ := Option.bind_eq_some_iff.mp h
  refine gg_cv (as := [.int (2 : Int32)]) (r := []) aMi95 rfl rfl rfl aMi93 (Nat.le_of_ble_eq_true rfl) rfl (Nat.le_of_ble_eq_true rfl) (Nat.le_of_ble_eq_true rfl) (by omega) hxu2_1 (Tf93 (by omega) a0 (2 : Int32) I _ hxr2_2) ?_
  show aGo kad d 95 (5, ([(0, .ref a0)], [.int r2_2.1])) (aMem Z r2_2.2, t) _
  refine gg_br (b := decide (¬ r2_2.1 = 0)) (tg := 9) (off := 4) aMi95 rfl rfl rfl rfl (fun hb => ?_) (fun hb => ?_)
  · rw [if_pos (of_decide_eq_true hb)] at h
    refine go_ops aMi95 1 _ (f1 := (10, ([(0, .ref a0)], [.ref a0]))) rfl ?_
    obtain ⟨b10_3, hxb10_3, h⟩ := Option.bind_eq_some_iff.mp h
    refine gg_gR aMi95 rfl rfl rfl hxb10_3 ?_
    obtain ⟨x13_4, hxx13_4, h⟩ := Option.bind_eq_some_iff.mp h
    refine gg_gI aMi95 rfl rfl rfl hxx13_4 ?_
    refine gg_br (b := decide (x13_4 = 0)) (tg := 23) (off := 7) aMi95 rfl rfl rfl rfl (fun hb => ?_) (fun hb => ?_)
    · rw [if_pos (of_decide_eq_true hb)] at h
      refine go_ops aMi95 1 _ (f1 := (24, ([(0, .ref a0)], [.int (1 : Int32)]))) rfl ?_
      exact Tf95_b24 hd a0 (1 : Int32) r2_2.2 _ h
    · rw [if_neg (of_decide_eq_false hb)] at h
      refine go_ops aMi95 2 _ (f1 := (24, ([(0, .ref a0)], [.int (0 : Int32)]))) rfl ?_
      exact Tf95_b24 hd a0 (0 : Int32) r2_2.2 _ h
  · rw [if_neg (of_decide_eq_false hb)] at h
    cases h
    exact go_ret aMi95 rfl rfl ⟨rfl, rfl⟩
-- KernelGym$Machine.hasPushed (I)Z
def f94 (kad : Nat → Nat) (N : Nat) (Z : AZ) (a0 : Nat) (i1 : Int32) (I : AI) : Option (Int32 × AI) :=
  (gR Z I 8 0 a0).bind fun b1_1 =>
  (gI Z I 2 4 b1_1).bind fun x4_2 =>
  if (x4_2 + i1) ≤ (256 : Int32) then
    if (1 : Int32) = 0 ∨ (1 : Int32) = 1 then some ((1 : Int32), I) else none
  else
    (isK Z a0 8).bind fun u17_3 =>
    (f87 kad N Z a0 (3 : Int32) I).bind fun r17_4 =>
    if (0 : Int32) = 0 ∨ (0 : Int32) = 1 then some ((0 : Int32), r17_4.2) else none
set_option maxRecDepth 20000 in
theorem Tf94 {kad : Nat → Nat} {N : Nat} {Z : AZ} {d : Nat} {t : Option Nat × (Nat × Nat)} (hd : 1 ≤ d) : ∀ (a0 : Nat) (i1 : Int32) (I : AI) (r : Int32 × AI), f94 kad N Z a0 i1 I = some r → aGo kad d 94 (0, ([(0, .ref a0), (1, .int i1)], [])) (aMem Z I, t) (qI Z t r) := by
  intro a0 i1 I r h
  unfold f94 at h
  refine go_ops aMi94 1 _ (f1 := (1, ([(0, .ref a0), (1, .int i1)], [.ref a0]))) rfl ?_
  obtain ⟨b1_1, hxb1_1, h⟩ := Option.bind_eq_some_iff.mp h
  refine gg_gR aMi94 rfl rfl rfl hxb1_1 ?_
  obtain ⟨x4_2, hxx4_2, h⟩ := Option.bind_eq_some_iff.mp h
  refine gg_gI aMi94 rfl rfl rfl hxx4_2 ?_
  refine go_ops aMi94 3 _ (f1 := (12, ([(0, .ref a0), (1, .int i1)], [.int (256 : Int32), .int (x4_2 + i1)]))) rfl ?_
  refine gg_br (b := decide ((x4_2 + i1) ≤ (256 : Int32))) (tg := 22) (off := 10) aMi94 rfl rfl rfl rfl (fun hb => ?_) (fun hb => ?_)
  · rw [if_pos (of_decide_eq_true hb)] at h
    refine go_ops aMi94 1 _ (f1 := (23, ([(0, .ref a0), (1, .int i1)], [.int (1 : Int32)]))) rfl ?_
    split at h
    · rename_i hz
      cases h
      exact go_ret aMi94 rfl (aRetZ hz) ⟨rfl, rfl⟩
    · cases h
  · rw [if_neg (of_decide_eq_false hb)] at h
    refine go_ops aMi94 2 _ (f1 := (17, ([(0, .ref a0), (1, .int i1)], [.int (3 : Int32), .ref a0]))) rfl ?_
    obtain ⟨u17_3, hxu17_3, h⟩ := Option.bind_eq_some_iff.mp h
    obtain ⟨r17_4, hxr17_4, h⟩ := Option.bind_eq_some_iff.mp h
    refine gg_cv (as := [.int (3 : Int32)]) (r := []) aMi94 rfl rfl rfl aMi87 (Nat.le_of_ble_eq_true rfl) rfl (Nat.le_of_ble_eq_true rfl) (Nat.le_of_ble_eq_true rfl) (by omega) hxu17_3 (Tf87 (by omega) a0 (3 : Int32) I _ hxr17_4) ?_
    show aGo kad d 94 (20, ([(0, .ref a0), (1, .int i1)], [])) (aMem Z r17_4.2, t) _
    refine go_ops aMi94 1 _ (f1 := (21, ([(0, .ref a0), (1, .int i1)], [.int (0 : Int32)]))) rfl ?_
    split at h
    · rename_i hz
      cases h
      exact go_ret aMi94 rfl (aRetZ hz) ⟨rfl, rfl⟩
    · cases h
-- KernelGym$Machine.pull ()I
def f92 (kad : Nat → Nat) (N : Nat) (Z : AZ) (a0 : Nat) (I : AI) : Option (Int32 × AI) :=
  (gR Z I 8 0 a0).bind fun b1_1 =>
  (gI Z I 2 4 b1_1).bind fun x5_2 =>
  (pI Z I 2 4 b1_1 (x5_2 + (1 : Int32))).bind fun I10_3 =>
  (gR Z I10_3 8 0 a0).bind fun b15_4 =>
  (gI Z I10_3 2 4 b15_4).bind fun x18_5 =>
  (isK Z a0 8).bind fun u23_6 =>
  (f89 kad N Z a0 (x18_5 - (1 : Int32)) I10_3).bind fun r23_7 =>
  some (r23_7.1, r23_7.2)
set_option maxRecDepth 20000 in
theorem Tf92 {kad : Nat → Nat} {N : Nat} {Z : AZ} {d : Nat} {t : Option Nat × (Nat × Nat)} (hd : 1 ≤ d) : ∀ (a0 : Nat) (I : AI) (r : Int32 × AI), f92 kad N Z a0 I = some r → aGo kad d 92 (0, ([(0, .ref a0)], [])) (aMem Z I, t) (qI Z t r) := by
  intro a0 I r h
  unfold f92 at h
  refine go_ops aMi92 1 _ (f1 := (1, ([(0, .ref a0)], [.ref a0]))) rfl ?_
  obtain ⟨b1_1, hxb1_1, h⟩ := Option.bind_eq_some_iff.mp h
  refine gg_gR aMi92 rfl rfl rfl hxb1_1 ?_
  refine go_ops aMi92 1 _ (f1 := (5, ([(0, .ref a0)], [.ref b1_1, .ref b1_1]))) rfl ?_
  obtain ⟨x5_2, hxx5_2, h⟩ := Option.bind_eq_some_iff.mp h
  refine gg_gI aMi92 rfl rfl rfl hxx5_2 ?_
  refine go_ops aMi92 2 _ (f1 := (10, ([(0, .ref a0)], [.int (x5_2 + (1 : Int32)), .ref b1_1]))) rfl ?_
  obtain ⟨I10_3, hxI10_3, h⟩ := Option.bind_eq_some_iff.mp h
  refine gg_pI aMi92 rfl rfl rfl rfl (by decide) hxI10_3 ?_
  refine go_ops aMi92 2 _ (f1 := (15, ([(0, .ref a0)], [.ref a0, .ref a0]))) rfl ?_
  obtain ⟨b15_4, hxb15_4, h⟩ := Option.bind_eq_some_iff.mp h
  refine gg_gR aMi92 rfl rfl rfl hxb15_4 ?_
  obtain ⟨x18_5, hxx18_5, h⟩ := Option.bind_eq_some_iff.mp h
  refine gg_gI aMi92 rfl rfl rfl hxx18_5 ?_
  refine go_ops aMi92 2 _ (f1 := (23, ([(0, .ref a0)], [.int (x18_5 - (1 : Int32)), .ref a0]))) rfl ?_
  obtain ⟨u23_6, hxu23_6, h⟩ := Option.bind_eq_some_iff.mp h
  obtain ⟨r23_7, hxr23_7, h⟩ := Option.bind_eq_some_iff.mp h
  refine gg_cv (as := [.int (x18_5 - (1 : Int32))]) (r := []) aMi92 rfl rfl rfl aMi89 (Nat.le_of_ble_eq_true rfl) rfl (Nat.le_of_ble_eq_true rfl) (Nat.le_of_ble_eq_true rfl) (by omega) hxu23_6 (Tf89 (by omega) a0 (x18_5 - (1 : Int32)) I10_3 _ hxr23_7) ?_
  show aGo kad d 92 (26, ([(0, .ref a0)], [.int r23_7.1])) (aMem Z r23_7.2, t) _
  cases h
  exact go_ret aMi92 rfl aRetI ⟨rfl, rfl⟩
-- KernelGym$Machine.returnFromInterrupt ()V
def f105_b68 (kad : Nat → Nat) (N : Nat) (Z : AZ)  (I : AI) : Option (Unit × AI) :=
  some ((), I)
set_option maxRecDepth 20000 in
theorem Tf105_b68 {kad : Nat → Nat} {N : Nat} {Z : AZ} {d : Nat} {t : Option Nat × (Nat × Nat)} (hd : 2 ≤ d) : ∀  (I : AI) (r : Unit × AI), f105_b68 kad N Z  I = some r → aGo kad d 105 (68, ([], [])) (aMem Z I, t) (qV Z t r) := by
  intro  I r h
  unfold f105_b68 at h
  cases h
  exact go_ret aMi105 rfl rfl ⟨rfl, rfl⟩
def f105_b46 (kad : Nat → Nat) (N : Nat) (Z : AZ) (a0 : Nat) (s0 : Int32) (s1 : Nat) (I : AI) : Option (Unit × AI) :=
  (pB Z I 2 6 s1 s0).bind fun I46_1 =>
  (gR Z I46_1 8 0 a0).bind fun b50_2 =>
  (isK Z a0 8).bind fun u54_3 =>
  (f92 kad N Z a0 I46_1).bind fun r54_4 =>
  (pI Z r54_4.2 2 3 b50_2 r54_4.1).bind fun I57_5 =>
  (gR Z I57_5 8 0 a0).bind fun b61_6 =>
  (pB Z I57_5 2 7 b61_6 (1 : Int32)).bind fun I65_7 =>
  f105_b68 kad N Z  I65_7
set_option maxRecDepth 20000 in
theorem Tf105_b46 {kad : Nat → Nat} {N : Nat} {Z : AZ} {d : Nat} {t : Option Nat × (Nat × Nat)} (hd : 2 ≤ d) : ∀ (a0 : Nat) (s0 : Int32) (s1 : Nat) (I : AI) (r : Unit × AI), f105_b46 kad N Z a0 s0 s1 I = some r → aGo kad d 105 (46, ([(0, .ref a0)], [.int s0, .ref s1])) (aMem Z I, t) (qV Z t r) := by
  intro a0 s0 s1 I r h
  unfold f105_b46 at h
  obtain ⟨I46_1, hxI46_1, h⟩ := Option.bind_eq_some_iff.mp h
  refine gg_pB aMi105 rfl rfl rfl rfl (by decide) hxI46_1 ?_
  refine go_ops aMi105 1 _ (f1 := (50, ([(0, .ref a0)], [.ref a0]))) rfl ?_
  obtain ⟨b50_2, hxb50_2, h⟩ := Option.bind_eq_some_iff.mp h
  refine gg_gR aMi105 rfl rfl rfl hxb50_2 ?_
  refine go_ops aMi105 1 _ (f1 := (54, ([(0, .ref a0)], [.ref a0, .ref b50_2]))) rfl ?_
  obtain ⟨u54_3, hxu54_3, h⟩ := Option.bind_eq_some_iff.mp h
  obtain ⟨r54_4, hxr54_4, h⟩ := Option.bind_eq_some_iff.mp h
  refine gg_cv (as := []) (r := [.ref b50_2]) aMi105 rfl rfl rfl aMi92 (Nat.le_of_ble_eq_true rfl) rfl (Nat.le_of_ble_eq_true rfl) (Nat.le_of_ble_eq_true rfl) (by omega) hxu54_3 (Tf92 (by omega) a0 I46_1 _ hxr54_4) ?_
  show aGo kad d 105 (57, ([(0, .ref a0)], [.int r54_4.1, .ref b50_2])) (aMem Z r54_4.2, t) _
  obtain ⟨I57_5, hxI57_5, h⟩ := Option.bind_eq_some_iff.mp h
  refine gg_pI aMi105 rfl rfl rfl rfl (by decide) hxI57_5 ?_
  refine go_ops aMi105 1 _ (f1 := (61, ([(0, .ref a0)], [.ref a0]))) rfl ?_
  obtain ⟨b61_6, hxb61_6, h⟩ := Option.bind_eq_some_iff.mp h
  refine gg_gR aMi105 rfl rfl rfl hxb61_6 ?_
  refine go_ops aMi105 1 _ (f1 := (65, ([(0, .ref a0)], [.int (1 : Int32), .ref b61_6]))) rfl ?_
  obtain ⟨I65_7, hxI65_7, h⟩ := Option.bind_eq_some_iff.mp h
  refine gg_pB aMi105 rfl rfl rfl rfl (by decide) hxI65_7 ?_
  refine go_le (lv1 := []) (aLe_of (show (List.map (fun q => q.1) ([] : ALv)).Nodup from (by show ([] : List Nat).Nodup; decide)) aSubL_nil) ?_
  exact Tf105_b68 hd  I65_7 _ h
def f105_b28 (kad : Nat → Nat) (N : Nat) (Z : AZ) (a0 : Nat) (i1 : Int32) (s0 : Int32) (s1 : Nat) (I : AI) : Option (Unit × AI) :=
  (pB Z I 2 5 s1 s0).bind fun I28_1 =>
  (gR Z I28_1 8 0 a0).bind fun b32_2 =>
  if (i1 &&& (2 : Int32)) = 0 then
    f105_b46 kad N Z a0 (0 : Int32) b32_2 I28_1
  else
    f105_b46 kad N Z a0 (1 : Int32) b32_2 I28_1
set_option maxRecDepth 20000 in
theorem Tf105_b28 {kad : Nat → Nat} {N : Nat} {Z : AZ} {d : Nat} {t : Option Nat × (Nat × Nat)} (hd : 2 ≤ d) : ∀ (a0 : Nat) (i1 : Int32) (s0 : Int32) (s1 : Nat) (I : AI) (r : Unit × AI), f105_b28 kad N Z a0 i1 s0 s1 I = some r → aGo kad d 105 (28, ([(0, .ref a0), (1, .int i1)], [.int s0, .ref s1])) (aMem Z I, t) (qV Z t r) := by
  intro a0 i1 s0 s1 I r h
  unfold f105_b28 at h
  obtain ⟨I28_1, hxI28_1, h⟩ := Option.bind_eq_some_iff.mp h
  refine gg_pB aMi105 rfl rfl rfl rfl (by decide) hxI28_1 ?_
  refine go_ops aMi105 1 _ (f1 := (32, ([(0, .ref a0), (1, .int i1)], [.ref a0]))) rfl ?_
  obtain ⟨b32_2, hxb32_2, h⟩ := Option.bind_eq_some_iff.mp h
  refine gg_gR aMi105 rfl rfl rfl hxb32_2 ?_
  refine go_ops aMi105 3 _ (f1 := (38, ([(0, .ref a0), (1, .int i1)], [.int (i1 &&& (2 : Int32)), .ref b32_2]))) rfl ?_
  refine gg_br (b := decide ((i1 &&& (2 : Int32)) = 0)) (tg := 45) (off := 7) aMi105 rfl rfl rfl rfl (fun hb => ?_) (fun hb => ?_)
  · rw [if_pos (of_decide_eq_true hb)] at h
    refine go_ops aMi105 1 _ (f1 := (46, ([(0, .ref a0), (1, .int i1)], [.int (0 : Int32), .ref b32_2]))) rfl ?_
    refine go_le (lv1 := [(0, .ref a0)]) (aLe_of (show (List.map (fun q => q.1) ([(0, .ref a0)] : ALv)).Nodup from (by show ([0] : List Nat).Nodup; decide)) (aSubL_cons rfl aSubL_nil)) ?_
    exact Tf105_b46 hd a0 (0 : Int32) b32_2 I28_1 _ h
  · rw [if_neg (of_decide_eq_false hb)] at h
    refine go_ops aMi105 2 _ (f1 := (46, ([(0, .ref a0), (1, .int i1)], [.int (1 : Int32), .ref b32_2]))) rfl ?_
    refine go_le (lv1 := [(0, .ref a0)]) (aLe_of (show (List.map (fun q => q.1) ([(0, .ref a0)] : ALv)).Nodup from (by show ([0] : List Nat).Nodup; decide)) (aSubL_cons rfl aSubL_nil)) ?_
    exact Tf105_b46 hd a0 (1 : Int32) b32_2 I28_1 _ h
def f105 (kad : Nat → Nat) (N : Nat) (Z : AZ) (a0 : Nat) (I : AI) : Option (Unit × AI) :=
  (isK Z a0 8).bind fun u2_1 =>
  (f94 kad N Z a0 (2 : Int32) I).bind fun r2_2 =>
  if r2_2.1 = 0 then
    f105_b68 kad N Z  r2_2.2
  else
    (isK Z a0 8).bind fun u9_3 =>
    (f92 kad N Z a0 r2_2.2).bind fun r9_4 =>
    (gR Z r9_4.2 8 0 a0).bind fun b14_5 =>
    if (r9_4.1 &&& (1 : Int32)) = 0 then
      f105_b28 kad N Z a0 r9_4.1 (0 : Int32) b14_5 r9_4.2
    else
      f105_b28 kad N Z a0 r9_4.1 (1 : Int32) b14_5 r9_4.2
set_option maxRecDepth 20000 in
theorem Tf105 {kad : Nat → Nat} {N : Nat} {Z : AZ} {d : Nat} {t : Option Nat × (Nat × Nat)} (hd : 2 ≤ d) : ∀ (a0 : Nat) (I : AI) (r : Unit × AI), f105 kad N Z a0 I = some r → aGo kad d 105 (0, ([(0, .ref a0)], [])) (aMem Z I, t) (qV Z t r) := by
  intro a0 I r h
  unfold f105 at h
  refine go_ops aMi105 2 _ (f1 := (2, ([(0, .ref a0)], [.int (2 : Int32), .ref a0]))) rfl ?_
  obtain ⟨u2_1, hxu2_1, h⟩ := Option.bind_eq_some_iff.mp h
  obtain ⟨r2_2, hxr2_2, h⟩ := Option.bind_eq_some_iff.mp h
  refine gg_cv (as := [.int (2 : Int32)]) (r := []) aMi105 rfl rfl rfl aMi94 (Nat.le_of_ble_eq_true rfl) rfl (Nat.le_of_ble_eq_true rfl) (Nat.le_of_ble_eq_true rfl) (by omega) hxu2_1 (Tf94 (by omega) a0 (2 : Int32) I _ hxr2_2) ?_
  show aGo kad d 105 (5, ([(0, .ref a0)], [.int r2_2.1])) (aMem Z r2_2.2, t) _
  refine gg_br (b := decide (r2_2.1 = 0)) (tg := 68) (off := 63) aMi105 rfl rfl rfl rfl (fun hb => ?_) (fun hb => ?_)
  · rw [if_pos (of_decide_eq_true hb)] at h
    refine go_le (lv1 := []) (aLe_of (show (List.map (fun q => q.1) ([] : ALv)).Nodup from (by show ([] : List Nat).Nodup; decide)) aSubL_nil) ?_
    exact Tf105_b68 hd  r2_2.2 _ h
  · rw [if_neg (of_decide_eq_false hb)] at h
    refine go_ops aMi105 1 _ (f1 := (9, ([(0, .ref a0)], [.ref a0]))) rfl ?_
    obtain ⟨u9_3, hxu9_3, h⟩ := Option.bind_eq_some_iff.mp h
    obtain ⟨r9_4, hxr9_4, h⟩ := Option.bind_eq_some_iff.mp h
    refine gg_cv (as := []) (r := []) aMi105 rfl rfl rfl aMi92 (Nat.le_of_ble_eq_true rfl) rfl (Nat.le_of_ble_eq_true rfl) (Nat.le_of_ble_eq_true rfl) (by omega) hxu9_3 (Tf92 (by omega) a0 r2_2.2 _ hxr9_4) ?_
    show aGo kad d 105 (12, ([(0, .ref a0)], [.int r9_4.1])) (aMem Z r9_4.2, t) _
    refine go_ops aMi105 2 _ (f1 := (14, ([(1, .int r9_4.1), (0, .ref a0)], [.ref a0]))) rfl ?_
    obtain ⟨b14_5, hxb14_5, h⟩ := Option.bind_eq_some_iff.mp h
    refine gg_gR aMi105 rfl rfl rfl hxb14_5 ?_
    refine go_ops aMi105 3 _ (f1 := (20, ([(1, .int r9_4.1), (0, .ref a0)], [.int (r9_4.1 &&& (1 : Int32)), .ref b14_5]))) rfl ?_
    refine gg_br (b := decide ((r9_4.1 &&& (1 : Int32)) = 0)) (tg := 27) (off := 7) aMi105 rfl rfl rfl rfl (fun hb => ?_) (fun hb => ?_)
    · rw [if_pos (of_decide_eq_true hb)] at h
      refine go_ops aMi105 1 _ (f1 := (28, ([(1, .int r9_4.1), (0, .ref a0)], [.int (0 : Int32), .ref b14_5]))) rfl ?_
      refine go_le (lv1 := [(0, .ref a0), (1, .int r9_4.1)]) (aLe_of (show (List.map (fun q => q.1) ([(0, .ref a0), (1, .int r9_4.1)] : ALv)).Nodup from (by show ([0, 1] : List Nat).Nodup; decide)) (aSubL_cons rfl (aSubL_cons rfl aSubL_nil))) ?_
      exact Tf105_b28 hd a0 r9_4.1 (0 : Int32) b14_5 r9_4.2 _ h
    · rw [if_neg (of_decide_eq_false hb)] at h
      refine go_ops aMi105 2 _ (f1 := (28, ([(1, .int r9_4.1), (0, .ref a0)], [.int (1 : Int32), .ref b14_5]))) rfl ?_
      refine go_le (lv1 := [(0, .ref a0), (1, .int r9_4.1)]) (aLe_of (show (List.map (fun q => q.1) ([(0, .ref a0), (1, .int r9_4.1)] : ALv)).Nodup from (by show ([0, 1] : List Nat).Nodup; decide)) (aSubL_cons rfl (aSubL_cons rfl aSubL_nil))) ?_
      exact Tf105_b28 hd a0 r9_4.1 (1 : Int32) b14_5 r9_4.2 _ h
-- KernelGym$Machine.nextKey ()I
def f106 (kad : Nat → Nat) (N : Nat) (Z : AZ) (a0 : Nat) (I : AI) : Option (Int32 × AI) :=
  (gR Z I 8 0 a0).bind fun b1_1 =>
  (gI Z I 2 13 b1_1).bind fun x4_2 =>
  (gR Z I 8 4 a0).bind fun b8_3 =>
  (gR Z I 8 0 a0).bind fun b12_4 =>
  (gI Z I 2 2 b12_4).bind fun x15_5 =>
  (isK Z b8_3 6).bind fun u18_6 =>
  (f75 kad N Z b8_3 x15_5 I).bind fun r18_7 =>
  if x4_2 < r18_7.1 then
    (gR Z r18_7.2 8 0 a0).bind fun b28_8 =>
    (gI Z r18_7.2 2 13 b28_8).bind fun x32_9 =>
    (pI Z r18_7.2 2 13 b28_8 (x32_9 + (1 : Int32))).bind fun I37_10 =>
    (gR Z I37_10 8 4 a0).bind fun b41_11 =>
    (gR Z I37_10 8 0 a0).bind fun b45_12 =>
    (gI Z I37_10 2 13 b45_12).bind fun x48_13 =>
    (isK Z b41_11 6).bind fun u53_14 =>
    (f77 kad N Z b41_11 (x48_13 - (1 : Int32)) I37_10).bind fun r53_15 =>
    some (r53_15.1, r53_15.2)
  else
    some ((65535 : Int32), r18_7.2)
set_option maxRecDepth 20000 in
theorem Tf106 {kad : Nat → Nat} {N : Nat} {Z : AZ} {d : Nat} {t : Option Nat × (Nat × Nat)} (hd : 1 ≤ d) : ∀ (a0 : Nat) (I : AI) (r : Int32 × AI), f106 kad N Z a0 I = some r → aGo kad d 106 (0, ([(0, .ref a0)], [])) (aMem Z I, t) (qI Z t r) := by
  intro a0 I r h
  unfold f106 at h
  refine go_ops aMi106 1 _ (f1 := (1, ([(0, .ref a0)], [.ref a0]))) rfl ?_
  obtain ⟨b1_1, hxb1_1, h⟩ := Option.bind_eq_some_iff.mp h
  refine gg_gR aMi106 rfl rfl rfl hxb1_1 ?_
  obtain ⟨x4_2, hxx4_2, h⟩ := Option.bind_eq_some_iff.mp h
  refine gg_gI aMi106 rfl rfl rfl hxx4_2 ?_
  refine go_ops aMi106 1 _ (f1 := (8, ([(0, .ref a0)], [.ref a0, .int x4_2]))) rfl ?_
  obtain ⟨b8_3, hxb8_3, h⟩ := Option.bind_eq_some_iff.mp h
  refine gg_gR aMi106 rfl rfl rfl hxb8_3 ?_
  refine go_ops aMi106 1 _ (f1 := (12, ([(0, .ref a0)], [.ref a0, .ref b8_3, .int x4_2]))) rfl ?_
  obtain ⟨b12_4, hxb12_4, h⟩ := Option.bind_eq_some_iff.mp h
  refine gg_gR aMi106 rfl rfl rfl hxb12_4 ?_
  obtain ⟨x15_5, hxx15_5, h⟩ := Option.bind_eq_some_iff.mp h
  refine gg_gI aMi106 rfl rfl rfl hxx15_5 ?_
  obtain ⟨u18_6, hxu18_6, h⟩ := Option.bind_eq_some_iff.mp h
  obtain ⟨r18_7, hxr18_7, h⟩ := Option.bind_eq_some_iff.mp h
  refine gg_cv (as := [.int x15_5]) (r := [.int x4_2]) aMi106 rfl rfl rfl aMi75 (Nat.le_of_ble_eq_true rfl) rfl (Nat.le_of_ble_eq_true rfl) (Nat.le_of_ble_eq_true rfl) (by omega) hxu18_6 (Tf75 (by omega) b8_3 x15_5 I _ hxr18_7) ?_
  show aGo kad d 106 (21, ([(0, .ref a0)], [.int r18_7.1, .int x4_2])) (aMem Z r18_7.2, t) _
  refine gg_br (b := decide (x4_2 < r18_7.1)) (tg := 27) (off := 6) aMi106 rfl rfl rfl rfl (fun hb => ?_) (fun hb => ?_)
  · rw [if_pos (of_decide_eq_true hb)] at h
    refine go_ops aMi106 1 _ (f1 := (28, ([(0, .ref a0)], [.ref a0]))) rfl ?_
    obtain ⟨b28_8, hxb28_8, h⟩ := Option.bind_eq_some_iff.mp h
    refine gg_gR aMi106 rfl rfl rfl hxb28_8 ?_
    refine go_ops aMi106 1 _ (f1 := (32, ([(0, .ref a0)], [.ref b28_8, .ref b28_8]))) rfl ?_
    obtain ⟨x32_9, hxx32_9, h⟩ := Option.bind_eq_some_iff.mp h
    refine gg_gI aMi106 rfl rfl rfl hxx32_9 ?_
    refine go_ops aMi106 2 _ (f1 := (37, ([(0, .ref a0)], [.int (x32_9 + (1 : Int32)), .ref b28_8]))) rfl ?_
    obtain ⟨I37_10, hxI37_10, h⟩ := Option.bind_eq_some_iff.mp h
    refine gg_pI aMi106 rfl rfl rfl rfl (by decide) hxI37_10 ?_
    refine go_ops aMi106 1 _ (f1 := (41, ([(0, .ref a0)], [.ref a0]))) rfl ?_
    obtain ⟨b41_11, hxb41_11, h⟩ := Option.bind_eq_some_iff.mp h
    refine gg_gR aMi106 rfl rfl rfl hxb41_11 ?_
    refine go_ops aMi106 1 _ (f1 := (45, ([(0, .ref a0)], [.ref a0, .ref b41_11]))) rfl ?_
    obtain ⟨b45_12, hxb45_12, h⟩ := Option.bind_eq_some_iff.mp h
    refine gg_gR aMi106 rfl rfl rfl hxb45_12 ?_
    obtain ⟨x48_13, hxx48_13, h⟩ := Option.bind_eq_some_iff.mp h
    refine gg_gI aMi106 rfl rfl rfl hxx48_13 ?_
    refine go_ops aMi106 2 _ (f1 := (53, ([(0, .ref a0)], [.int (x48_13 - (1 : Int32)), .ref b41_11]))) rfl ?_
    obtain ⟨u53_14, hxu53_14, h⟩ := Option.bind_eq_some_iff.mp h
    obtain ⟨r53_15, hxr53_15, h⟩ := Option.bind_eq_some_iff.mp h
    refine gg_cv (as := [.int (x48_13 - (1 : Int32))]) (r := []) aMi106 rfl rfl rfl aMi77 (Nat.le_of_ble_eq_true rfl) rfl (Nat.le_of_ble_eq_true rfl) (Nat.le_of_ble_eq_true rfl) (by omega) hxu53_14 (Tf77 (by omega) b41_11 (x48_13 - (1 : Int32)) I37_10 _ hxr53_15) ?_
    show aGo kad d 106 (56, ([(0, .ref a0)], [.int r53_15.1])) (aMem Z r53_15.2, t) _
    cases h
    exact go_ret aMi106 rfl aRetI ⟨rfl, rfl⟩
  · rw [if_neg (of_decide_eq_false hb)] at h
    refine gg_kI (Or.inl ⟨rfl, rfl⟩) aMi106 rfl rfl ?_
    cases h
    exact go_ret aMi106 rfl aRetI ⟨rfl, rfl⟩
-- KernelGym$Machine.setRegister (II)V
def f99_b19 (kad : Nat → Nat) (N : Nat) (Z : AZ)  (I : AI) : Option (Unit × AI) :=
  some ((), I)
set_option maxRecDepth 20000 in
theorem Tf99_b19 {kad : Nat → Nat} {N : Nat} {Z : AZ} {d : Nat} {t : Option Nat × (Nat × Nat)} (hd : 0 ≤ d) : ∀  (I : AI) (r : Unit × AI), f99_b19 kad N Z  I = some r → aGo kad d 99 (19, ([], [])) (aMem Z I, t) (qV Z t r) := by
  intro  I r h
  unfold f99_b19 at h
  cases h
  exact go_ret aMi99 rfl rfl ⟨rfl, rfl⟩
def f99 (kad : Nat → Nat) (N : Nat) (Z : AZ) (a0 : Nat) (i1 : Int32) (i2 : Int32) (I : AI) : Option (Unit × AI) :=
  if i1 < 0 then
    f99_b19 kad N Z  I
  else
    if (4 : Int32) ≤ i1 then
      f99_b19 kad N Z  I
    else
      (gR Z I 8 0 a0).bind fun b10_1 =>
      (gR Z I 2 14 b10_1).bind fun b13_2 =>
      (sI Z I 100 b13_2 i1 i2).bind fun I18_3 =>
      f99_b19 kad N Z  I18_3
set_option maxRecDepth 20000 in
theorem Tf99 {kad : Nat → Nat} {N : Nat} {Z : AZ} {d : Nat} {t : Option Nat × (Nat × Nat)} (hd : 0 ≤ d) : ∀ (a0 : Nat) (i1 : Int32) (i2 : Int32) (I : AI) (r : Unit × AI), f99 kad N Z a0 i1 i2 I = some r → aGo kad d 99 (0, ([(0, .ref a0), (1, .int i1), (2, .int i2)], [])) (aMem Z I, t) (qV Z t r) := by
  intro a0 i1 i2 I r h
  unfold f99 at h
  refine go_ops aMi99 1 _ (f1 := (1, ([(0, .ref a0), (1, .int i1), (2, .int i2)], [.int i1]))) rfl ?_
  refine gg_br (b := decide (i1 < 0)) (tg := 19) (off := 18) aMi99 rfl rfl rfl rfl (fun hb => ?_) (fun hb => ?_)
  · rw [if_pos (of_decide_eq_true hb)] at h
    refine go_le (lv1 := []) (aLe_of (show (List.map (fun q => q.1) ([] : ALv)).Nodup from (by show ([] : List Nat).Nodup; decide)) aSubL_nil) ?_
    exact Tf99_b19 hd  I _ h
  · rw [if_neg (of_decide_eq_false hb)] at h
    refine go_ops aMi99 2 _ (f1 := (6, ([(0, .ref a0), (1, .int i1), (2, .int i2)], [.int (4 : Int32), .int i1]))) rfl ?_
    refine gg_br (b := decide ((4 : Int32) ≤ i1)) (tg := 19) (off := 13) aMi99 rfl rfl rfl rfl (fun hb => ?_) (fun hb => ?_)
    · rw [if_pos (of_decide_eq_true hb)] at h
      refine go_le (lv1 := []) (aLe_of (show (List.map (fun q => q.1) ([] : ALv)).Nodup from (by show ([] : List Nat).Nodup; decide)) aSubL_nil) ?_
      exact Tf99_b19 hd  I _ h
    · rw [if_neg (of_decide_eq_false hb)] at h
      refine go_ops aMi99 1 _ (f1 := (10, ([(0, .ref a0), (1, .int i1), (2, .int i2)], [.ref a0]))) rfl ?_
      obtain ⟨b10_1, hxb10_1, h⟩ := Option.bind_eq_some_iff.mp h
      refine gg_gR aMi99 rfl rfl rfl hxb10_1 ?_
      obtain ⟨b13_2, hxb13_2, h⟩ := Option.bind_eq_some_iff.mp h
      refine gg_gR aMi99 rfl rfl rfl hxb13_2 ?_
      refine go_ops aMi99 2 _ (f1 := (18, ([(0, .ref a0), (1, .int i1), (2, .int i2)], [.int i2, .int i1, .ref b13_2]))) rfl ?_
      obtain ⟨I18_3, hxI18_3, h⟩ := Option.bind_eq_some_iff.mp h
      refine gg_sI (Or.inl ⟨rfl, rfl⟩) aMi99 rfl hxI18_3 ?_
      refine go_le (lv1 := []) (aLe_of (show (List.map (fun q => q.1) ([] : ALv)).Nodup from (by show ([] : List Nat).Nodup; decide)) aSubL_nil) ?_
      exact Tf99_b19 hd  I18_3 _ h
-- KernelGym$Machine.writeTape (I)V
def f107_b22 (kad : Nat → Nat) (N : Nat) (Z : AZ) (a0 : Nat) (I : AI) : Option (Unit × AI) :=
  (isK Z a0 8).bind fun u24_1 =>
  (f87 kad N Z a0 (4 : Int32) I).bind fun r24_2 =>
  some ((), r24_2.2)
set_option maxRecDepth 20000 in
theorem Tf107_b22 {kad : Nat → Nat} {N : Nat} {Z : AZ} {d : Nat} {t : Option Nat × (Nat × Nat)} (hd : 1 ≤ d) : ∀ (a0 : Nat) (I : AI) (r : Unit × AI), f107_b22 kad N Z a0 I = some r → aGo kad d 107 (22, ([(0, .ref a0)], [])) (aMem Z I, t) (qV Z t r) := by
  intro a0 I r h
  unfold f107_b22 at h
  refine go_ops aMi107 2 _ (f1 := (24, ([(0, .ref a0)], [.int (4 : Int32), .ref a0]))) rfl ?_
  obtain ⟨u24_1, hxu24_1, h⟩ := Option.bind_eq_some_iff.mp h
  obtain ⟨r24_2, hxr24_2, h⟩ := Option.bind_eq_some_iff.mp h
  refine gg_cv (as := [.int (4 : Int32)]) (r := []) aMi107 rfl rfl rfl aMi87 (Nat.le_of_ble_eq_true rfl) rfl (Nat.le_of_ble_eq_true rfl) (Nat.le_of_ble_eq_true rfl) (by omega) hxu24_1 (Tf87 (by omega) a0 (4 : Int32) I _ hxr24_2) ?_
  show aGo kad d 107 (27, ([(0, .ref a0)], [])) (aMem Z r24_2.2, t) _
  cases h
  exact go_ret aMi107 rfl rfl ⟨rfl, rfl⟩
def f107 (kad : Nat → Nat) (N : Nat) (Z : AZ) (a0 : Nat) (i1 : Int32) (I : AI) : Option (Unit × AI) :=
  (gR Z I 8 0 a0).bind fun b1_1 =>
  (gI Z I 2 12 b1_1).bind fun x4_2 =>
  if x4_2 < 0 then
    f107_b22 kad N Z a0 I
  else
    (gR Z I 8 0 a0).bind fun b11_3 =>
    (gI Z I 2 12 b11_3).bind fun x14_4 =>
    if x14_4 < (60 : Int32) then
      (gR Z I 8 2 a0).bind fun b29_5 =>
      (gR Z I 8 0 a0).bind fun b33_6 =>
      (gI Z I 2 12 b33_6).bind fun x36_7 =>
      (sI Z I 100 b29_5 x36_7 i1).bind fun I40_8 =>
      (gR Z I40_8 8 0 a0).bind fun b42_9 =>
      (gI Z I40_8 2 12 b42_9).bind fun x46_10 =>
      (pI Z I40_8 2 12 b42_9 (x46_10 + (1 : Int32))).bind fun I51_11 =>
      (isK Z a0 8).bind fun u55_12 =>
      (f88 kad N Z a0 I51_11).bind fun r55_13 =>
      some ((), r55_13.2)
    else
      f107_b22 kad N Z a0 I
set_option maxRecDepth 20000 in
theorem Tf107 {kad : Nat → Nat} {N : Nat} {Z : AZ} {d : Nat} {t : Option Nat × (Nat × Nat)} (hd : 1 ≤ d) : ∀ (a0 : Nat) (i1 : Int32) (I : AI) (r : Unit × AI), f107 kad N Z a0 i1 I = some r → aGo kad d 107 (0, ([(0, .ref a0), (1, .int i1)], [])) (aMem Z I, t) (qV Z t r) := by
  intro a0 i1 I r h
  unfold f107 at h
  refine go_ops aMi107 1 _ (f1 := (1, ([(0, .ref a0), (1, .int i1)], [.ref a0]))) rfl ?_
  obtain ⟨b1_1, hxb1_1, h⟩ := Option.bind_eq_some_iff.mp h
  refine gg_gR aMi107 rfl rfl rfl hxb1_1 ?_
  obtain ⟨x4_2, hxx4_2, h⟩ := Option.bind_eq_some_iff.mp h
  refine gg_gI aMi107 rfl rfl rfl hxx4_2 ?_
  refine gg_br (b := decide (x4_2 < 0)) (tg := 22) (off := 15) aMi107 rfl rfl rfl rfl (fun hb => ?_) (fun hb => ?_)
  · rw [if_pos (of_decide_eq_true hb)] at h
    refine go_le (lv1 := [(0, .ref a0)]) (aLe_of (show (List.map (fun q => q.1) ([(0, .ref a0)] : ALv)).Nodup from (by show ([0] : List Nat).Nodup; decide)) (aSubL_cons rfl aSubL_nil)) ?_
    exact Tf107_b22 hd a0 I _ h
  · rw [if_neg (of_decide_eq_false hb)] at h
    refine go_ops aMi107 1 _ (f1 := (11, ([(0, .ref a0), (1, .int i1)], [.ref a0]))) rfl ?_
    obtain ⟨b11_3, hxb11_3, h⟩ := Option.bind_eq_some_iff.mp h
    refine gg_gR aMi107 rfl rfl rfl hxb11_3 ?_
    obtain ⟨x14_4, hxx14_4, h⟩ := Option.bind_eq_some_iff.mp h
    refine gg_gI aMi107 rfl rfl rfl hxx14_4 ?_
    refine go_ops aMi107 1 _ (f1 := (19, ([(0, .ref a0), (1, .int i1)], [.int (60 : Int32), .int x14_4]))) rfl ?_
    refine gg_br (b := decide (x14_4 < (60 : Int32))) (tg := 28) (off := 9) aMi107 rfl rfl rfl rfl (fun hb => ?_) (fun hb => ?_)
    · rw [if_pos (of_decide_eq_true hb)] at h
      refine go_ops aMi107 1 _ (f1 := (29, ([(0, .ref a0), (1, .int i1)], [.ref a0]))) rfl ?_
      obtain ⟨b29_5, hxb29_5, h⟩ := Option.bind_eq_some_iff.mp h
      refine gg_gR aMi107 rfl rfl rfl hxb29_5 ?_
      refine go_ops aMi107 1 _ (f1 := (33, ([(0, .ref a0), (1, .int i1)], [.ref a0, .ref b29_5]))) rfl ?_
      obtain ⟨b33_6, hxb33_6, h⟩ := Option.bind_eq_some_iff.mp h
      refine gg_gR aMi107 rfl rfl rfl hxb33_6 ?_
      obtain ⟨x36_7, hxx36_7, h⟩ := Option.bind_eq_some_iff.mp h
      refine gg_gI aMi107 rfl rfl rfl hxx36_7 ?_
      refine go_ops aMi107 1 _ (f1 := (40, ([(0, .ref a0), (1, .int i1)], [.int i1, .int x36_7, .ref b29_5]))) rfl ?_
      obtain ⟨I40_8, hxI40_8, h⟩ := Option.bind_eq_some_iff.mp h
      refine gg_sI (Or.inl ⟨rfl, rfl⟩) aMi107 rfl hxI40_8 ?_
      refine go_ops aMi107 1 _ (f1 := (42, ([(0, .ref a0), (1, .int i1)], [.ref a0]))) rfl ?_
      obtain ⟨b42_9, hxb42_9, h⟩ := Option.bind_eq_some_iff.mp h
      refine gg_gR aMi107 rfl rfl rfl hxb42_9 ?_
      refine go_ops aMi107 1 _ (f1 := (46, ([(0, .ref a0), (1, .int i1)], [.ref b42_9, .ref b42_9]))) rfl ?_
      obtain ⟨x46_10, hxx46_10, h⟩ := Option.bind_eq_some_iff.mp h
      refine gg_gI aMi107 rfl rfl rfl hxx46_10 ?_
      refine go_ops aMi107 2 _ (f1 := (51, ([(0, .ref a0), (1, .int i1)], [.int (x46_10 + (1 : Int32)), .ref b42_9]))) rfl ?_
      obtain ⟨I51_11, hxI51_11, h⟩ := Option.bind_eq_some_iff.mp h
      refine gg_pI aMi107 rfl rfl rfl rfl (by decide) hxI51_11 ?_
      refine go_ops aMi107 1 _ (f1 := (55, ([(0, .ref a0), (1, .int i1)], [.ref a0]))) rfl ?_
      obtain ⟨u55_12, hxu55_12, h⟩ := Option.bind_eq_some_iff.mp h
      obtain ⟨r55_13, hxr55_13, h⟩ := Option.bind_eq_some_iff.mp h
      refine gg_cv (as := []) (r := []) aMi107 rfl rfl rfl aMi88 (Nat.le_of_ble_eq_true rfl) rfl (Nat.le_of_ble_eq_true rfl) (Nat.le_of_ble_eq_true rfl) (by omega) hxu55_12 (Tf88 (by omega) a0 I51_11 _ hxr55_13) ?_
      show aGo kad d 107 (58, ([(0, .ref a0), (1, .int i1)], [])) (aMem Z r55_13.2, t) _
      cases h
      exact go_ret aMi107 rfl rfl ⟨rfl, rfl⟩
    · rw [if_neg (of_decide_eq_false hb)] at h
      refine go_le (lv1 := [(0, .ref a0)]) (aLe_of (show (List.map (fun q => q.1) ([(0, .ref a0)] : ALv)).Nodup from (by show ([0] : List Nat).Nodup; decide)) (aSubL_cons rfl aSubL_nil)) ?_
      exact Tf107_b22 hd a0 I _ h
-- KernelGym$Machine.callFile (I)V
def f108_b44 (kad : Nat → Nat) (N : Nat) (Z : AZ)  (I : AI) : Option (Unit × AI) :=
  some ((), I)
set_option maxRecDepth 20000 in
theorem Tf108_b44 {kad : Nat → Nat} {N : Nat} {Z : AZ} {d : Nat} {t : Option Nat × (Nat × Nat)} (hd : 6 ≤ d) : ∀  (I : AI) (r : Unit × AI), f108_b44 kad N Z  I = some r → aGo kad d 108 (44, ([], [])) (aMem Z I, t) (qV Z t r) := by
  intro  I r h
  unfold f108_b44 at h
  cases h
  exact go_ret aMi108 rfl rfl ⟨rfl, rfl⟩
def f108 (kad : Nat → Nat) (N : Nat) (Z : AZ) (a0 : Nat) (i1 : Int32) (I : AI) : Option (Unit × AI) :=
  (gR Z I 8 5 a0).bind fun b1_1 =>
  (gR Z I 8 0 a0).bind fun b6_2 =>
  (gR Z I 8 3 a0).bind fun b10_3 =>
  (isK Z b1_1 1).bind fun u13_4 =>
  (f26 kad N Z b1_1 i1 b6_2 b10_3 I).bind fun r13_5 =>
  (gR Z r13_5.2 8 0 a0).bind fun b18_6 =>
  (gR Z r13_5.2 2 15 b18_6).bind fun b21_7 =>
  (isK Z b21_7 4).bind fun u24_8 =>
  (f63 kad N Z b21_7 r13_5.2).bind fun r24_9 =>
  if ¬ r24_9.1 = 0 then
    f108_b44 kad N Z  r24_9.2
  else
    (gR Z r24_9.2 8 0 a0).bind fun b31_10 =>
    (gR Z r24_9.2 2 14 b31_10).bind fun b34_11 =>
    (sI Z r24_9.2 100 b34_11 (3 : Int32) r13_5.1).bind fun I39_12 =>
    (isK Z a0 8).bind fun u41_13 =>
    (f88 kad N Z a0 I39_12).bind fun r41_14 =>
    f108_b44 kad N Z  r41_14.2
set_option maxRecDepth 20000 in
theorem Tf108 {kad : Nat → Nat} {N : Nat} {Z : AZ} {d : Nat} {t : Option Nat × (Nat × Nat)} (hd : 6 ≤ d) : ∀ (a0 : Nat) (i1 : Int32) (I : AI) (r : Unit × AI), f108 kad N Z a0 i1 I = some r → aGo kad d 108 (0, ([(0, .ref a0), (1, .int i1)], [])) (aMem Z I, t) (qV Z t r) := by
  intro a0 i1 I r h
  unfold f108 at h
  refine go_ops aMi108 1 _ (f1 := (1, ([(0, .ref a0), (1, .int i1)], [.ref a0]))) rfl ?_
  obtain ⟨b1_1, hxb1_1, h⟩ := Option.bind_eq_some_iff.mp h
  refine gg_gR aMi108 rfl rfl rfl hxb1_1 ?_
  refine go_ops aMi108 2 _ (f1 := (6, ([(0, .ref a0), (1, .int i1)], [.ref a0, .int i1, .ref b1_1]))) rfl ?_
  obtain ⟨b6_2, hxb6_2, h⟩ := Option.bind_eq_some_iff.mp h
  refine gg_gR aMi108 rfl rfl rfl hxb6_2 ?_
  refine go_ops aMi108 1 _ (f1 := (10, ([(0, .ref a0), (1, .int i1)], [.ref a0, .ref b6_2, .int i1, .ref b1_1]))) rfl ?_
  obtain ⟨b10_3, hxb10_3, h⟩ := Option.bind_eq_some_iff.mp h
  refine gg_gR aMi108 rfl rfl rfl hxb10_3 ?_
  obtain ⟨u13_4, hxu13_4, h⟩ := Option.bind_eq_some_iff.mp h
  obtain ⟨r13_5, hxr13_5, h⟩ := Option.bind_eq_some_iff.mp h
  refine gg_cv (as := [.int i1, .ref b6_2, .ref b10_3]) (r := []) aMi108 rfl rfl rfl aMi26 (Nat.le_of_ble_eq_true rfl) rfl (Nat.le_of_ble_eq_true rfl) (Nat.le_of_ble_eq_true rfl) (by omega) hxu13_4 (Tf26 (by omega) b1_1 i1 b6_2 b10_3 I _ hxr13_5) ?_
  show aGo kad d 108 (16, ([(0, .ref a0), (1, .int i1)], [.int r13_5.1])) (aMem Z r13_5.2, t) _
  refine go_ops aMi108 2 _ (f1 := (18, ([(2, .int r13_5.1), (0, .ref a0), (1, .int i1)], [.ref a0]))) rfl ?_
  obtain ⟨b18_6, hxb18_6, h⟩ := Option.bind_eq_some_iff.mp h
  refine gg_gR aMi108 rfl rfl rfl hxb18_6 ?_
  obtain ⟨b21_7, hxb21_7, h⟩ := Option.bind_eq_some_iff.mp h
  refine gg_gR aMi108 rfl rfl rfl hxb21_7 ?_
  obtain ⟨u24_8, hxu24_8, h⟩ := Option.bind_eq_some_iff.mp h
  obtain ⟨r24_9, hxr24_9, h⟩ := Option.bind_eq_some_iff.mp h
  refine gg_cv (as := []) (r := []) aMi108 rfl rfl rfl aMi63 (Nat.le_of_ble_eq_true rfl) rfl (Nat.le_of_ble_eq_true rfl) (Nat.le_of_ble_eq_true rfl) (by omega) hxu24_8 (Tf63 (by omega) b21_7 r13_5.2 _ hxr24_9) ?_
  show aGo kad d 108 (27, ([(2, .int r13_5.1), (0, .ref a0), (1, .int i1)], [.int r24_9.1])) (aMem Z r24_9.2, t) _
  refine gg_br (b := decide (¬ r24_9.1 = 0)) (tg := 44) (off := 17) aMi108 rfl rfl rfl rfl (fun hb => ?_) (fun hb => ?_)
  · rw [if_pos (of_decide_eq_true hb)] at h
    refine go_le (lv1 := []) (aLe_of (show (List.map (fun q => q.1) ([] : ALv)).Nodup from (by show ([] : List Nat).Nodup; decide)) aSubL_nil) ?_
    exact Tf108_b44 hd  r24_9.2 _ h
  · rw [if_neg (of_decide_eq_false hb)] at h
    refine go_ops aMi108 1 _ (f1 := (31, ([(2, .int r13_5.1), (0, .ref a0), (1, .int i1)], [.ref a0]))) rfl ?_
    obtain ⟨b31_10, hxb31_10, h⟩ := Option.bind_eq_some_iff.mp h
    refine gg_gR aMi108 rfl rfl rfl hxb31_10 ?_
    obtain ⟨b34_11, hxb34_11, h⟩ := Option.bind_eq_some_iff.mp h
    refine gg_gR aMi108 rfl rfl rfl hxb34_11 ?_
    refine go_ops aMi108 2 _ (f1 := (39, ([(2, .int r13_5.1), (0, .ref a0), (1, .int i1)], [.int r13_5.1, .int (3 : Int32), .ref b34_11]))) rfl ?_
    obtain ⟨I39_12, hxI39_12, h⟩ := Option.bind_eq_some_iff.mp h
    refine gg_sI (Or.inl ⟨rfl, rfl⟩) aMi108 rfl hxI39_12 ?_
    refine go_ops aMi108 1 _ (f1 := (41, ([(2, .int r13_5.1), (0, .ref a0), (1, .int i1)], [.ref a0]))) rfl ?_
    obtain ⟨u41_13, hxu41_13, h⟩ := Option.bind_eq_some_iff.mp h
    obtain ⟨r41_14, hxr41_14, h⟩ := Option.bind_eq_some_iff.mp h
    refine gg_cv (as := []) (r := []) aMi108 rfl rfl rfl aMi88 (Nat.le_of_ble_eq_true rfl) rfl (Nat.le_of_ble_eq_true rfl) (Nat.le_of_ble_eq_true rfl) (by omega) hxu41_13 (Tf88 (by omega) a0 I39_12 _ hxr41_14) ?_
    show aGo kad d 108 (44, ([(2, .int r13_5.1), (0, .ref a0), (1, .int i1)], [])) (aMem Z r41_14.2, t) _
    refine go_le (lv1 := []) (aLe_of (show (List.map (fun q => q.1) ([] : ALv)).Nodup from (by show ([] : List Nat).Nodup; decide)) aSubL_nil) ?_
    exact Tf108_b44 hd  r41_14.2 _ h
-- KernelGym$Machine.control (III)V
def f104_b155 (kad : Nat → Nat) (N : Nat) (Z : AZ)  (I : AI) : Option (Unit × AI) :=
  some ((), I)
set_option maxRecDepth 20000 in
theorem Tf104_b155 {kad : Nat → Nat} {N : Nat} {Z : AZ} {d : Nat} {t : Option Nat × (Nat × Nat)} (hd : 7 ≤ d) : ∀  (I : AI) (r : Unit × AI), f104_b155 kad N Z  I = some r → aGo kad d 104 (155, ([], [])) (aMem Z I, t) (qV Z t r) := by
  intro  I r h
  unfold f104_b155 at h
  cases h
  exact go_ret aMi104 rfl rfl ⟨rfl, rfl⟩
def f104_b59 (kad : Nat → Nat) (N : Nat) (Z : AZ) (a0 : Nat) (s0 : Int32) (s1 : Nat) (I : AI) : Option (Unit × AI) :=
  (pB Z I 2 7 s1 s0).bind fun I59_1 =>
  (isK Z a0 8).bind fun u63_2 =>
  (f88 kad N Z a0 I59_1).bind fun r63_3 =>
  f104_b155 kad N Z  r63_3.2
set_option maxRecDepth 20000 in
theorem Tf104_b59 {kad : Nat → Nat} {N : Nat} {Z : AZ} {d : Nat} {t : Option Nat × (Nat × Nat)} (hd : 7 ≤ d) : ∀ (a0 : Nat) (s0 : Int32) (s1 : Nat) (I : AI) (r : Unit × AI), f104_b59 kad N Z a0 s0 s1 I = some r → aGo kad d 104 (59, ([(0, .ref a0)], [.int s0, .ref s1])) (aMem Z I, t) (qV Z t r) := by
  intro a0 s0 s1 I r h
  unfold f104_b59 at h
  obtain ⟨I59_1, hxI59_1, h⟩ := Option.bind_eq_some_iff.mp h
  refine gg_pB aMi104 rfl rfl rfl rfl (by decide) hxI59_1 ?_
  refine go_ops aMi104 1 _ (f1 := (63, ([(0, .ref a0)], [.ref a0]))) rfl ?_
  obtain ⟨u63_2, hxu63_2, h⟩ := Option.bind_eq_some_iff.mp h
  obtain ⟨r63_3, hxr63_3, h⟩ := Option.bind_eq_some_iff.mp h
  refine gg_cv (as := []) (r := []) aMi104 rfl rfl rfl aMi88 (Nat.le_of_ble_eq_true rfl) rfl (Nat.le_of_ble_eq_true rfl) (Nat.le_of_ble_eq_true rfl) (by omega) hxu63_2 (Tf88 (by omega) a0 I59_1 _ hxr63_3) ?_
  show aGo kad d 104 (66, ([(0, .ref a0)], [])) (aMem Z r63_3.2, t) _
  refine go_ops aMi104 1 _ (f1 := (155, ([(0, .ref a0)], []))) rfl ?_
  refine go_le (lv1 := []) (aLe_of (show (List.map (fun q => q.1) ([] : ALv)).Nodup from (by show ([] : List Nat).Nodup; decide)) aSubL_nil) ?_
  exact Tf104_b155 hd  r63_3.2 _ h
def f104_b44 (kad : Nat → Nat) (N : Nat) (Z : AZ) (a0 : Nat) (i1 : Int32) (I : AI) : Option (Unit × AI) :=
  (gR Z I 8 0 a0).bind fun b45_1 =>
  if ¬ i1 = (19 : Int32) then
    f104_b59 kad N Z a0 (0 : Int32) b45_1 I
  else
    f104_b59 kad N Z a0 (1 : Int32) b45_1 I
set_option maxRecDepth 20000 in
theorem Tf104_b44 {kad : Nat → Nat} {N : Nat} {Z : AZ} {d : Nat} {t : Option Nat × (Nat × Nat)} (hd : 7 ≤ d) : ∀ (a0 : Nat) (i1 : Int32) (I : AI) (r : Unit × AI), f104_b44 kad N Z a0 i1 I = some r → aGo kad d 104 (44, ([(0, .ref a0), (1, .int i1)], [])) (aMem Z I, t) (qV Z t r) := by
  intro a0 i1 I r h
  unfold f104_b44 at h
  refine go_ops aMi104 1 _ (f1 := (45, ([(0, .ref a0), (1, .int i1)], [.ref a0]))) rfl ?_
  obtain ⟨b45_1, hxb45_1, h⟩ := Option.bind_eq_some_iff.mp h
  refine gg_gR aMi104 rfl rfl rfl hxb45_1 ?_
  refine go_ops aMi104 2 _ (f1 := (51, ([(0, .ref a0), (1, .int i1)], [.int (19 : Int32), .int i1, .ref b45_1]))) rfl ?_
  refine gg_br (b := decide (¬ i1 = (19 : Int32))) (tg := 58) (off := 7) aMi104 rfl rfl rfl rfl (fun hb => ?_) (fun hb => ?_)
  · rw [if_pos (of_decide_eq_true hb)] at h
    refine go_ops aMi104 1 _ (f1 := (59, ([(0, .ref a0), (1, .int i1)], [.int (0 : Int32), .ref b45_1]))) rfl ?_
    refine go_le (lv1 := [(0, .ref a0)]) (aLe_of (show (List.map (fun q => q.1) ([(0, .ref a0)] : ALv)).Nodup from (by show ([0] : List Nat).Nodup; decide)) (aSubL_cons rfl aSubL_nil)) ?_
    exact Tf104_b59 hd a0 (0 : Int32) b45_1 I _ h
  · rw [if_neg (of_decide_eq_false hb)] at h
    refine go_ops aMi104 2 _ (f1 := (59, ([(0, .ref a0), (1, .int i1)], [.int (1 : Int32), .ref b45_1]))) rfl ?_
    refine go_le (lv1 := [(0, .ref a0)]) (aLe_of (show (List.map (fun q => q.1) ([(0, .ref a0)] : ALv)).Nodup from (by show ([0] : List Nat).Nodup; decide)) (aSubL_cons rfl aSubL_nil)) ?_
    exact Tf104_b59 hd a0 (1 : Int32) b45_1 I _ h
def f104_b96 (kad : Nat → Nat) (N : Nat) (Z : AZ) (a0 : Nat) (I : AI) : Option (Unit × AI) :=
  (isK Z a0 8).bind fun u97_1 =>
  (f88 kad N Z a0 I).bind fun r97_2 =>
  f104_b155 kad N Z  r97_2.2
set_option maxRecDepth 20000 in
theorem Tf104_b96 {kad : Nat → Nat} {N : Nat} {Z : AZ} {d : Nat} {t : Option Nat × (Nat × Nat)} (hd : 7 ≤ d) : ∀ (a0 : Nat) (I : AI) (r : Unit × AI), f104_b96 kad N Z a0 I = some r → aGo kad d 104 (96, ([(0, .ref a0)], [])) (aMem Z I, t) (qV Z t r) := by
  intro a0 I r h
  unfold f104_b96 at h
  refine go_ops aMi104 1 _ (f1 := (97, ([(0, .ref a0)], [.ref a0]))) rfl ?_
  obtain ⟨u97_1, hxu97_1, h⟩ := Option.bind_eq_some_iff.mp h
  obtain ⟨r97_2, hxr97_2, h⟩ := Option.bind_eq_some_iff.mp h
  refine gg_cv (as := []) (r := []) aMi104 rfl rfl rfl aMi88 (Nat.le_of_ble_eq_true rfl) rfl (Nat.le_of_ble_eq_true rfl) (Nat.le_of_ble_eq_true rfl) (by omega) hxu97_1 (Tf88 (by omega) a0 I _ hxr97_2) ?_
  show aGo kad d 104 (100, ([(0, .ref a0)], [])) (aMem Z r97_2.2, t) _
  refine go_ops aMi104 1 _ (f1 := (155, ([(0, .ref a0)], []))) rfl ?_
  refine go_le (lv1 := []) (aLe_of (show (List.map (fun q => q.1) ([] : ALv)).Nodup from (by show ([] : List Nat).Nodup; decide)) aSubL_nil) ?_
  exact Tf104_b155 hd  r97_2.2 _ h
def f104 (kad : Nat → Nat) (N : Nat) (Z : AZ) (a0 : Nat) (i1 : Int32) (i2 : Int32) (i3 : Int32) (I : AI) : Option (Unit × AI) :=
  if i1 = (19 : Int32) then
    f104_b44 kad N Z a0 i1 I
  else
  if i1 = (20 : Int32) then
    f104_b44 kad N Z a0 i1 I
  else
  if i1 = (21 : Int32) then
    (isK Z a0 8).bind fun u70_1 =>
    (f105 kad N Z a0 I).bind fun r70_2 =>
    f104_b155 kad N Z  r70_2.2
  else
  if i1 = (22 : Int32) then
    (gR Z I 8 0 a0).bind fun b77_3 =>
    (gI Z I 2 8 b77_3).bind fun x80_4 =>
    if ¬ x80_4 = 0 then
      f104_b96 kad N Z a0 I
    else
      (gR Z I 8 0 a0).bind fun b87_5 =>
      (gI Z I 2 9 b87_5).bind fun x90_6 =>
      if x90_6 = 0 then
        f104_b155 kad N Z  I
      else
        f104_b96 kad N Z a0 I
  else
  if i1 = (23 : Int32) then
    (gR Z I 8 0 a0).bind fun b104_7 =>
    (pI Z I 2 10 b104_7 i3).bind fun I108_8 =>
    (gR Z I108_8 8 0 a0).bind fun b112_9 =>
    (pI Z I108_8 2 11 b112_9 (0 : Int32)).bind fun I116_10 =>
    (isK Z a0 8).bind fun u120_11 =>
    (f88 kad N Z a0 I116_10).bind fun r120_12 =>
    f104_b155 kad N Z  r120_12.2
  else
  if i1 = (24 : Int32) then
    (isK Z a0 8).bind fun u129_13 =>
    (f106 kad N Z a0 I).bind fun r129_14 =>
    (isK Z a0 8).bind fun u132_15 =>
    (f99 kad N Z a0 i2 r129_14.1 r129_14.2).bind fun r132_16 =>
    (isK Z a0 8).bind fun u136_17 =>
    (f88 kad N Z a0 r132_16.2).bind fun r136_18 =>
    f104_b155 kad N Z  r136_18.2
  else
  if i1 = (25 : Int32) then
    (isK Z a0 8).bind fun u144_19 =>
    (f107 kad N Z a0 i3 I).bind fun r144_20 =>
    f104_b155 kad N Z  r144_20.2
  else
    (isK Z a0 8).bind fun u152_21 =>
    (f108 kad N Z a0 i3 I).bind fun r152_22 =>
    f104_b155 kad N Z  r152_22.2
set_option maxRecDepth 20000 in
theorem Tf104 {kad : Nat → Nat} {N : Nat} {Z : AZ} {d : Nat} {t : Option Nat × (Nat × Nat)} (hd : 7 ≤ d) : ∀ (a0 : Nat) (i1 : Int32) (i2 : Int32) (i3 : Int32) (I : AI) (r : Unit × AI), f104 kad N Z a0 i1 i2 i3 I = some r → aGo kad d 104 (0, ([(0, .ref a0), (1, .int i1), (2, .int i2), (3, .int i3)], [])) (aMem Z I, t) (qV Z t r) := by
  intro a0 i1 i2 i3 I r h
  unfold f104 at h
  refine go_ops aMi104 1 _ (f1 := (1, ([(0, .ref a0), (1, .int i1), (2, .int i2), (3, .int i3)], [.int i1]))) rfl ?_
  by_cases hs0 : i1 = (19 : Int32)
  · rw [if_pos hs0] at h
    refine go_sw (f1 := (44, ([(0, .ref a0), (1, .int i1), (2, .int i2), (3, .int i3)], []))) aMi104 rfl (by rw [hs0]; rfl) ?_
    refine go_le (lv1 := [(0, .ref a0), (1, .int i1)]) (aLe_of (show (List.map (fun q => q.1) ([(0, .ref a0), (1, .int i1)] : ALv)).Nodup from (by show ([0, 1] : List Nat).Nodup; decide)) (aSubL_cons rfl (aSubL_cons rfl aSubL_nil))) ?_
    exact Tf104_b44 hd a0 i1 I _ h
  rw [if_neg hs0] at h
  by_cases hs1 : i1 = (20 : Int32)
  · rw [if_pos hs1] at h
    refine go_sw (f1 := (44, ([(0, .ref a0), (1, .int i1), (2, .int i2), (3, .int i3)], []))) aMi104 rfl (by rw [hs1]; rfl) ?_
    refine go_le (lv1 := [(0, .ref a0), (1, .int i1)]) (aLe_of (show (List.map (fun q => q.1) ([(0, .ref a0), (1, .int i1)] : ALv)).Nodup from (by show ([0, 1] : List Nat).Nodup; decide)) (aSubL_cons rfl (aSubL_cons rfl aSubL_nil))) ?_
    exact Tf104_b44 hd a0 i1 I _ h
  rw [if_neg hs1] at h
  by_cases hs2 : i1 = (21 : Int32)
  · rw [if_pos hs2] at h
    refine go_sw (f1 := (69, ([(0, .ref a0), (1, .int i1), (2, .int i2), (3, .int i3)], []))) aMi104 rfl (by rw [hs2]; rfl) ?_
    refine go_ops aMi104 1 _ (f1 := (70, ([(0, .ref a0), (1, .int i1), (2, .int i2), (3, .int i3)], [.ref a0]))) rfl ?_
    obtain ⟨u70_1, hxu70_1, h⟩ := Option.bind_eq_some_iff.mp h
    obtain ⟨r70_2, hxr70_2, h⟩ := Option.bind_eq_some_iff.mp h
    refine gg_cv (as := []) (r := []) aMi104 rfl rfl rfl aMi105 (Nat.le_of_ble_eq_true rfl) rfl (Nat.le_of_ble_eq_true rfl) (Nat.le_of_ble_eq_true rfl) (by omega) hxu70_1 (Tf105 (by omega) a0 I _ hxr70_2) ?_
    show aGo kad d 104 (73, ([(0, .ref a0), (1, .int i1), (2, .int i2), (3, .int i3)], [])) (aMem Z r70_2.2, t) _
    refine go_ops aMi104 1 _ (f1 := (155, ([(0, .ref a0), (1, .int i1), (2, .int i2), (3, .int i3)], []))) rfl ?_
    refine go_le (lv1 := []) (aLe_of (show (List.map (fun q => q.1) ([] : ALv)).Nodup from (by show ([] : List Nat).Nodup; decide)) aSubL_nil) ?_
    exact Tf104_b155 hd  r70_2.2 _ h
  rw [if_neg hs2] at h
  by_cases hs3 : i1 = (22 : Int32)
  · rw [if_pos hs3] at h
    refine go_sw (f1 := (76, ([(0, .ref a0), (1, .int i1), (2, .int i2), (3, .int i3)], []))) aMi104 rfl (by rw [hs3]; rfl) ?_
    refine go_ops aMi104 1 _ (f1 := (77, ([(0, .ref a0), (1, .int i1), (2, .int i2), (3, .int i3)], [.ref a0]))) rfl ?_
    obtain ⟨b77_3, hxb77_3, h⟩ := Option.bind_eq_some_iff.mp h
    refine gg_gR aMi104 rfl rfl rfl hxb77_3 ?_
    obtain ⟨x80_4, hxx80_4, h⟩ := Option.bind_eq_some_iff.mp h
    refine gg_gI aMi104 rfl rfl rfl hxx80_4 ?_
    refine gg_br (b := decide (¬ x80_4 = 0)) (tg := 96) (off := 13) aMi104 rfl rfl rfl rfl (fun hb => ?_) (fun hb => ?_)
    · rw [if_pos (of_decide_eq_true hb)] at h
      refine go_le (lv1 := [(0, .ref a0)]) (aLe_of (show (List.map (fun q => q.1) ([(0, .ref a0)] : ALv)).Nodup from (by show ([0] : List Nat).Nodup; decide)) (aSubL_cons rfl aSubL_nil)) ?_
      exact Tf104_b96 hd a0 I _ h
    · rw [if_neg (of_decide_eq_false hb)] at h
      refine go_ops aMi104 1 _ (f1 := (87, ([(0, .ref a0), (1, .int i1), (2, .int i2), (3, .int i3)], [.ref a0]))) rfl ?_
      obtain ⟨b87_5, hxb87_5, h⟩ := Option.bind_eq_some_iff.mp h
      refine gg_gR aMi104 rfl rfl rfl hxb87_5 ?_
      obtain ⟨x90_6, hxx90_6, h⟩ := Option.bind_eq_some_iff.mp h
      refine gg_gI aMi104 rfl rfl rfl hxx90_6 ?_
      refine gg_br (b := decide (x90_6 = 0)) (tg := 155) (off := 62) aMi104 rfl rfl rfl rfl (fun hb => ?_) (fun hb => ?_)
      · rw [if_pos (of_decide_eq_true hb)] at h
        refine go_le (lv1 := []) (aLe_of (show (List.map (fun q => q.1) ([] : ALv)).Nodup from (by show ([] : List Nat).Nodup; decide)) aSubL_nil) ?_
        exact Tf104_b155 hd  I _ h
      · rw [if_neg (of_decide_eq_false hb)] at h
        refine go_le (lv1 := [(0, .ref a0)]) (aLe_of (show (List.map (fun q => q.1) ([(0, .ref a0)] : ALv)).Nodup from (by show ([0] : List Nat).Nodup; decide)) (aSubL_cons rfl aSubL_nil)) ?_
        exact Tf104_b96 hd a0 I _ h
  rw [if_neg hs3] at h
  by_cases hs4 : i1 = (23 : Int32)
  · rw [if_pos hs4] at h
    refine go_sw (f1 := (103, ([(0, .ref a0), (1, .int i1), (2, .int i2), (3, .int i3)], []))) aMi104 rfl (by rw [hs4]; rfl) ?_
    refine go_ops aMi104 1 _ (f1 := (104, ([(0, .ref a0), (1, .int i1), (2, .int i2), (3, .int i3)], [.ref a0]))) rfl ?_
    obtain ⟨b104_7, hxb104_7, h⟩ := Option.bind_eq_some_iff.mp h
    refine gg_gR aMi104 rfl rfl rfl hxb104_7 ?_
    refine go_ops aMi104 1 _ (f1 := (108, ([(0, .ref a0), (1, .int i1), (2, .int i2), (3, .int i3)], [.int i3, .ref b104_7]))) rfl ?_
    obtain ⟨I108_8, hxI108_8, h⟩ := Option.bind_eq_some_iff.mp h
    refine gg_pI aMi104 rfl rfl rfl rfl (by decide) hxI108_8 ?_
    refine go_ops aMi104 1 _ (f1 := (112, ([(0, .ref a0), (1, .int i1), (2, .int i2), (3, .int i3)], [.ref a0]))) rfl ?_
    obtain ⟨b112_9, hxb112_9, h⟩ := Option.bind_eq_some_iff.mp h
    refine gg_gR aMi104 rfl rfl rfl hxb112_9 ?_
    refine go_ops aMi104 1 _ (f1 := (116, ([(0, .ref a0), (1, .int i1), (2, .int i2), (3, .int i3)], [.int (0 : Int32), .ref b112_9]))) rfl ?_
    obtain ⟨I116_10, hxI116_10, h⟩ := Option.bind_eq_some_iff.mp h
    refine gg_pI aMi104 rfl rfl rfl rfl (by decide) hxI116_10 ?_
    refine go_ops aMi104 1 _ (f1 := (120, ([(0, .ref a0), (1, .int i1), (2, .int i2), (3, .int i3)], [.ref a0]))) rfl ?_
    obtain ⟨u120_11, hxu120_11, h⟩ := Option.bind_eq_some_iff.mp h
    obtain ⟨r120_12, hxr120_12, h⟩ := Option.bind_eq_some_iff.mp h
    refine gg_cv (as := []) (r := []) aMi104 rfl rfl rfl aMi88 (Nat.le_of_ble_eq_true rfl) rfl (Nat.le_of_ble_eq_true rfl) (Nat.le_of_ble_eq_true rfl) (by omega) hxu120_11 (Tf88 (by omega) a0 I116_10 _ hxr120_12) ?_
    show aGo kad d 104 (123, ([(0, .ref a0), (1, .int i1), (2, .int i2), (3, .int i3)], [])) (aMem Z r120_12.2, t) _
    refine go_ops aMi104 1 _ (f1 := (155, ([(0, .ref a0), (1, .int i1), (2, .int i2), (3, .int i3)], []))) rfl ?_
    refine go_le (lv1 := []) (aLe_of (show (List.map (fun q => q.1) ([] : ALv)).Nodup from (by show ([] : List Nat).Nodup; decide)) aSubL_nil) ?_
    exact Tf104_b155 hd  r120_12.2 _ h
  rw [if_neg hs4] at h
  by_cases hs5 : i1 = (24 : Int32)
  · rw [if_pos hs5] at h
    refine go_sw (f1 := (126, ([(0, .ref a0), (1, .int i1), (2, .int i2), (3, .int i3)], []))) aMi104 rfl (by rw [hs5]; rfl) ?_
    refine go_ops aMi104 3 _ (f1 := (129, ([(0, .ref a0), (1, .int i1), (2, .int i2), (3, .int i3)], [.ref a0, .int i2, .ref a0]))) rfl ?_
    obtain ⟨u129_13, hxu129_13, h⟩ := Option.bind_eq_some_iff.mp h
    obtain ⟨r129_14, hxr129_14, h⟩ := Option.bind_eq_some_iff.mp h
    refine gg_cv (as := []) (r := [.int i2, .ref a0]) aMi104 rfl rfl rfl aMi106 (Nat.le_of_ble_eq_true rfl) rfl (Nat.le_of_ble_eq_true rfl) (Nat.le_of_ble_eq_true rfl) (by omega) hxu129_13 (Tf106 (by omega) a0 I _ hxr129_14) ?_
    show aGo kad d 104 (132, ([(0, .ref a0), (1, .int i1), (2, .int i2), (3, .int i3)], [.int r129_14.1, .int i2, .ref a0])) (aMem Z r129_14.2, t) _
    obtain ⟨u132_15, hxu132_15, h⟩ := Option.bind_eq_some_iff.mp h
    obtain ⟨r132_16, hxr132_16, h⟩ := Option.bind_eq_some_iff.mp h
    refine gg_cv (as := [.int i2, .int r129_14.1]) (r := []) aMi104 rfl rfl rfl aMi99 (Nat.le_of_ble_eq_true rfl) rfl (Nat.le_of_ble_eq_true rfl) (Nat.le_of_ble_eq_true rfl) (by omega) hxu132_15 (Tf99 (by omega) a0 i2 r129_14.1 r129_14.2 _ hxr132_16) ?_
    show aGo kad d 104 (135, ([(0, .ref a0), (1, .int i1), (2, .int i2), (3, .int i3)], [])) (aMem Z r132_16.2, t) _
    refine go_ops aMi104 1 _ (f1 := (136, ([(0, .ref a0), (1, .int i1), (2, .int i2), (3, .int i3)], [.ref a0]))) rfl ?_
    obtain ⟨u136_17, hxu136_17, h⟩ := Option.bind_eq_some_iff.mp h
    obtain ⟨r136_18, hxr136_18, h⟩ := Option.bind_eq_some_iff.mp h
    refine gg_cv (as := []) (r := []) aMi104 rfl rfl rfl aMi88 (Nat.le_of_ble_eq_true rfl) rfl (Nat.le_of_ble_eq_true rfl) (Nat.le_of_ble_eq_true rfl) (by omega) hxu136_17 (Tf88 (by omega) a0 r132_16.2 _ hxr136_18) ?_
    show aGo kad d 104 (139, ([(0, .ref a0), (1, .int i1), (2, .int i2), (3, .int i3)], [])) (aMem Z r136_18.2, t) _
    refine go_ops aMi104 1 _ (f1 := (155, ([(0, .ref a0), (1, .int i1), (2, .int i2), (3, .int i3)], []))) rfl ?_
    refine go_le (lv1 := []) (aLe_of (show (List.map (fun q => q.1) ([] : ALv)).Nodup from (by show ([] : List Nat).Nodup; decide)) aSubL_nil) ?_
    exact Tf104_b155 hd  r136_18.2 _ h
  rw [if_neg hs5] at h
  by_cases hs6 : i1 = (25 : Int32)
  · rw [if_pos hs6] at h
    refine go_sw (f1 := (142, ([(0, .ref a0), (1, .int i1), (2, .int i2), (3, .int i3)], []))) aMi104 rfl (by rw [hs6]; rfl) ?_
    refine go_ops aMi104 2 _ (f1 := (144, ([(0, .ref a0), (1, .int i1), (2, .int i2), (3, .int i3)], [.int i3, .ref a0]))) rfl ?_
    obtain ⟨u144_19, hxu144_19, h⟩ := Option.bind_eq_some_iff.mp h
    obtain ⟨r144_20, hxr144_20, h⟩ := Option.bind_eq_some_iff.mp h
    refine gg_cv (as := [.int i3]) (r := []) aMi104 rfl rfl rfl aMi107 (Nat.le_of_ble_eq_true rfl) rfl (Nat.le_of_ble_eq_true rfl) (Nat.le_of_ble_eq_true rfl) (by omega) hxu144_19 (Tf107 (by omega) a0 i3 I _ hxr144_20) ?_
    show aGo kad d 104 (147, ([(0, .ref a0), (1, .int i1), (2, .int i2), (3, .int i3)], [])) (aMem Z r144_20.2, t) _
    refine go_ops aMi104 1 _ (f1 := (155, ([(0, .ref a0), (1, .int i1), (2, .int i2), (3, .int i3)], []))) rfl ?_
    refine go_le (lv1 := []) (aLe_of (show (List.map (fun q => q.1) ([] : ALv)).Nodup from (by show ([] : List Nat).Nodup; decide)) aSubL_nil) ?_
    exact Tf104_b155 hd  r144_20.2 _ h
  rw [if_neg hs6] at h
  refine go_swd (tg := 150) (m := 7) aMi104 rfl rfl (by decide) (fun k hk => ?_) ?_
  · match k, hk with
    | 0, _ => exact hs0
    | 1, _ => exact hs1
    | 2, _ => exact hs2
    | 3, _ => exact hs3
    | 4, _ => exact hs4
    | 5, _ => exact hs5
    | 6, _ => exact hs6
    | k + 7, hk => exact absurd hk (by omega)
  refine go_ops aMi104 2 _ (f1 := (152, ([(0, .ref a0), (1, .int i1), (2, .int i2), (3, .int i3)], [.int i3, .ref a0]))) rfl ?_
  obtain ⟨u152_21, hxu152_21, h⟩ := Option.bind_eq_some_iff.mp h
  obtain ⟨r152_22, hxr152_22, h⟩ := Option.bind_eq_some_iff.mp h
  refine gg_cv (as := [.int i3]) (r := []) aMi104 rfl rfl rfl aMi108 (Nat.le_of_ble_eq_true rfl) rfl (Nat.le_of_ble_eq_true rfl) (Nat.le_of_ble_eq_true rfl) (by omega) hxu152_21 (Tf108 (by omega) a0 i3 I _ hxr152_22) ?_
  show aGo kad d 104 (155, ([(0, .ref a0), (1, .int i1), (2, .int i2), (3, .int i3)], [])) (aMem Z r152_22.2, t) _
  refine go_le (lv1 := []) (aLe_of (show (List.map (fun q => q.1) ([] : ALv)).Nodup from (by show ([] : List Nat).Nodup; decide)) aSubL_nil) ?_
  exact Tf104_b155 hd  r152_22.2 _ h
-- KernelGym$Machine.useStack (III)V
def f103_b43 (kad : Nat → Nat) (N : Nat) (Z : AZ)  (I : AI) : Option (Unit × AI) :=
  some ((), I)
set_option maxRecDepth 20000 in
theorem Tf103_b43 {kad : Nat → Nat} {N : Nat} {Z : AZ} {d : Nat} {t : Option Nat × (Nat × Nat)} (hd : 3 ≤ d) : ∀  (I : AI) (r : Unit × AI), f103_b43 kad N Z  I = some r → aGo kad d 103 (43, ([], [])) (aMem Z I, t) (qV Z t r) := by
  intro  I r h
  unfold f103_b43 at h
  cases h
  exact go_ret aMi103 rfl rfl ⟨rfl, rfl⟩
def f103_b135 (kad : Nat → Nat) (N : Nat) (Z : AZ)  (I : AI) : Option (Unit × AI) :=
  some ((), I)
set_option maxRecDepth 20000 in
theorem Tf103_b135 {kad : Nat → Nat} {N : Nat} {Z : AZ} {d : Nat} {t : Option Nat × (Nat × Nat)} (hd : 3 ≤ d) : ∀  (I : AI) (r : Unit × AI), f103_b135 kad N Z  I = some r → aGo kad d 103 (135, ([], [])) (aMem Z I, t) (qV Z t r) := by
  intro  I r h
  unfold f103_b135 at h
  cases h
  exact go_ret aMi103 rfl rfl ⟨rfl, rfl⟩
def f103_b44 (kad : Nat → Nat) (N : Nat) (Z : AZ) (a0 : Nat) (i1 : Int32) (i2 : Int32) (i3 : Int32) (I : AI) : Option (Unit × AI) :=
  if i1 = (15 : Int32) then
    (gR Z I 8 0 a0).bind fun b74_1 =>
    (gI Z I 2 3 b74_1).bind fun x77_2 =>
    (isK Z a0 8).bind fun u82_3 =>
    (f91 kad N Z a0 (x77_2 + (2 : Int32)) I).bind fun r82_4 =>
    (gR Z r82_4.2 8 0 a0).bind fun b86_5 =>
    (pI Z r82_4.2 2 3 b86_5 i3).bind fun I90_6 =>
    f103_b135 kad N Z  I90_6
  else
  if i1 = (16 : Int32) then
    (gR Z I 8 0 a0).bind fun b97_7 =>
    (isK Z a0 8).bind fun u101_8 =>
    (f92 kad N Z a0 I).bind fun r101_9 =>
    (pI Z r101_9.2 2 3 b97_7 r101_9.1).bind fun I104_10 =>
    f103_b135 kad N Z  I104_10
  else
  if i1 = (17 : Int32) then
    (isK Z a0 8).bind fun u112_11 =>
    (f91 kad N Z a0 i3 I).bind fun r112_12 =>
    (isK Z a0 8).bind fun u116_13 =>
    (f88 kad N Z a0 r112_12.2).bind fun r116_14 =>
    f103_b135 kad N Z  r116_14.2
  else
    (isK Z a0 8).bind fun u125_15 =>
    (f92 kad N Z a0 I).bind fun r125_16 =>
    (isK Z a0 8).bind fun u128_17 =>
    (f99 kad N Z a0 i2 r125_16.1 r125_16.2).bind fun r128_18 =>
    (isK Z a0 8).bind fun u132_19 =>
    (f88 kad N Z a0 r128_18.2).bind fun r132_20 =>
    f103_b135 kad N Z  r132_20.2
set_option maxRecDepth 20000 in
theorem Tf103_b44 {kad : Nat → Nat} {N : Nat} {Z : AZ} {d : Nat} {t : Option Nat × (Nat × Nat)} (hd : 3 ≤ d) : ∀ (a0 : Nat) (i1 : Int32) (i2 : Int32) (i3 : Int32) (I : AI) (r : Unit × AI), f103_b44 kad N Z a0 i1 i2 i3 I = some r → aGo kad d 103 (44, ([(0, .ref a0), (1, .int i1), (2, .int i2), (3, .int i3)], [])) (aMem Z I, t) (qV Z t r) := by
  intro a0 i1 i2 i3 I r h
  unfold f103_b44 at h
  refine go_ops aMi103 1 _ (f1 := (45, ([(0, .ref a0), (1, .int i1), (2, .int i2), (3, .int i3)], [.int i1]))) rfl ?_
  by_cases hs0 : i1 = (15 : Int32)
  · rw [if_pos hs0] at h
    refine go_sw (f1 := (72, ([(0, .ref a0), (1, .int i1), (2, .int i2), (3, .int i3)], []))) aMi103 rfl (by rw [hs0]; rfl) ?_
    refine go_ops aMi103 2 _ (f1 := (74, ([(0, .ref a0), (1, .int i1), (2, .int i2), (3, .int i3)], [.ref a0, .ref a0]))) rfl ?_
    obtain ⟨b74_1, hxb74_1, h⟩ := Option.bind_eq_some_iff.mp h
    refine gg_gR aMi103 rfl rfl rfl hxb74_1 ?_
    obtain ⟨x77_2, hxx77_2, h⟩ := Option.bind_eq_some_iff.mp h
    refine gg_gI aMi103 rfl rfl rfl hxx77_2 ?_
    refine go_ops aMi103 2 _ (f1 := (82, ([(0, .ref a0), (1, .int i1), (2, .int i2), (3, .int i3)], [.int (x77_2 + (2 : Int32)), .ref a0]))) rfl ?_
    obtain ⟨u82_3, hxu82_3, h⟩ := Option.bind_eq_some_iff.mp h
    obtain ⟨r82_4, hxr82_4, h⟩ := Option.bind_eq_some_iff.mp h
    refine gg_cv (as := [.int (x77_2 + (2 : Int32))]) (r := []) aMi103 rfl rfl rfl aMi91 (Nat.le_of_ble_eq_true rfl) rfl (Nat.le_of_ble_eq_true rfl) (Nat.le_of_ble_eq_true rfl) (by omega) hxu82_3 (Tf91 (by omega) a0 (x77_2 + (2 : Int32)) I _ hxr82_4) ?_
    show aGo kad d 103 (85, ([(0, .ref a0), (1, .int i1), (2, .int i2), (3, .int i3)], [])) (aMem Z r82_4.2, t) _
    refine go_ops aMi103 1 _ (f1 := (86, ([(0, .ref a0), (1, .int i1), (2, .int i2), (3, .int i3)], [.ref a0]))) rfl ?_
    obtain ⟨b86_5, hxb86_5, h⟩ := Option.bind_eq_some_iff.mp h
    refine gg_gR aMi103 rfl rfl rfl hxb86_5 ?_
    refine go_ops aMi103 1 _ (f1 := (90, ([(0, .ref a0), (1, .int i1), (2, .int i2), (3, .int i3)], [.int i3, .ref b86_5]))) rfl ?_
    obtain ⟨I90_6, hxI90_6, h⟩ := Option.bind_eq_some_iff.mp h
    refine gg_pI aMi103 rfl rfl rfl rfl (by decide) hxI90_6 ?_
    refine go_ops aMi103 1 _ (f1 := (135, ([(0, .ref a0), (1, .int i1), (2, .int i2), (3, .int i3)], []))) rfl ?_
    refine go_le (lv1 := []) (aLe_of (show (List.map (fun q => q.1) ([] : ALv)).Nodup from (by show ([] : List Nat).Nodup; decide)) aSubL_nil) ?_
    exact Tf103_b135 hd  I90_6 _ h
  rw [if_neg hs0] at h
  by_cases hs1 : i1 = (16 : Int32)
  · rw [if_pos hs1] at h
    refine go_sw (f1 := (96, ([(0, .ref a0), (1, .int i1), (2, .int i2), (3, .int i3)], []))) aMi103 rfl (by rw [hs1]; rfl) ?_
    refine go_ops aMi103 1 _ (f1 := (97, ([(0, .ref a0), (1, .int i1), (2, .int i2), (3, .int i3)], [.ref a0]))) rfl ?_
    obtain ⟨b97_7, hxb97_7, h⟩ := Option.bind_eq_some_iff.mp h
    refine gg_gR aMi103 rfl rfl rfl hxb97_7 ?_
    refine go_ops aMi103 1 _ (f1 := (101, ([(0, .ref a0), (1, .int i1), (2, .int i2), (3, .int i3)], [.ref a0, .ref b97_7]))) rfl ?_
    obtain ⟨u101_8, hxu101_8, h⟩ := Option.bind_eq_some_iff.mp h
    obtain ⟨r101_9, hxr101_9, h⟩ := Option.bind_eq_some_iff.mp h
    refine gg_cv (as := []) (r := [.ref b97_7]) aMi103 rfl rfl rfl aMi92 (Nat.le_of_ble_eq_true rfl) rfl (Nat.le_of_ble_eq_true rfl) (Nat.le_of_ble_eq_true rfl) (by omega) hxu101_8 (Tf92 (by omega) a0 I _ hxr101_9) ?_
    show aGo kad d 103 (104, ([(0, .ref a0), (1, .int i1), (2, .int i2), (3, .int i3)], [.int r101_9.1, .ref b97_7])) (aMem Z r101_9.2, t) _
    obtain ⟨I104_10, hxI104_10, h⟩ := Option.bind_eq_some_iff.mp h
    refine gg_pI aMi103 rfl rfl rfl rfl (by decide) hxI104_10 ?_
    refine go_ops aMi103 1 _ (f1 := (135, ([(0, .ref a0), (1, .int i1), (2, .int i2), (3, .int i3)], []))) rfl ?_
    refine go_le (lv1 := []) (aLe_of (show (List.map (fun q => q.1) ([] : ALv)).Nodup from (by show ([] : List Nat).Nodup; decide)) aSubL_nil) ?_
    exact Tf103_b135 hd  I104_10 _ h
  rw [if_neg hs1] at h
  by_cases hs2 : i1 = (17 : Int32)
  · rw [if_pos hs2] at h
    refine go_sw (f1 := (110, ([(0, .ref a0), (1, .int i1), (2, .int i2), (3, .int i3)], []))) aMi103 rfl (by rw [hs2]; rfl) ?_
    refine go_ops aMi103 2 _ (f1 := (112, ([(0, .ref a0), (1, .int i1), (2, .int i2), (3, .int i3)], [.int i3, .ref a0]))) rfl ?_
    obtain ⟨u112_11, hxu112_11, h⟩ := Option.bind_eq_some_iff.mp h
    obtain ⟨r112_12, hxr112_12, h⟩ := Option.bind_eq_some_iff.mp h
    refine gg_cv (as := [.int i3]) (r := []) aMi103 rfl rfl rfl aMi91 (Nat.le_of_ble_eq_true rfl) rfl (Nat.le_of_ble_eq_true rfl) (Nat.le_of_ble_eq_true rfl) (by omega) hxu112_11 (Tf91 (by omega) a0 i3 I _ hxr112_12) ?_
    show aGo kad d 103 (115, ([(0, .ref a0), (1, .int i1), (2, .int i2), (3, .int i3)], [])) (aMem Z r112_12.2, t) _
    refine go_ops aMi103 1 _ (f1 := (116, ([(0, .ref a0), (1, .int i1), (2, .int i2), (3, .int i3)], [.ref a0]))) rfl ?_
    obtain ⟨u116_13, hxu116_13, h⟩ := Option.bind_eq_some_iff.mp h
    obtain ⟨r116_14, hxr116_14, h⟩ := Option.bind_eq_some_iff.mp h
    refine gg_cv (as := []) (r := []) aMi103 rfl rfl rfl aMi88 (Nat.le_of_ble_eq_true rfl) rfl (Nat.le_of_ble_eq_true rfl) (Nat.le_of_ble_eq_true rfl) (by omega) hxu116_13 (Tf88 (by omega) a0 r112_12.2 _ hxr116_14) ?_
    show aGo kad d 103 (119, ([(0, .ref a0), (1, .int i1), (2, .int i2), (3, .int i3)], [])) (aMem Z r116_14.2, t) _
    refine go_ops aMi103 1 _ (f1 := (135, ([(0, .ref a0), (1, .int i1), (2, .int i2), (3, .int i3)], []))) rfl ?_
    refine go_le (lv1 := []) (aLe_of (show (List.map (fun q => q.1) ([] : ALv)).Nodup from (by show ([] : List Nat).Nodup; decide)) aSubL_nil) ?_
    exact Tf103_b135 hd  r116_14.2 _ h
  rw [if_neg hs2] at h
  refine go_swd (tg := 122) (m := 3) aMi103 rfl rfl (by decide) (fun k hk => ?_) ?_
  · match k, hk with
    | 0, _ => exact hs0
    | 1, _ => exact hs1
    | 2, _ => exact hs2
    | k + 3, hk => exact absurd hk (by omega)
  refine go_ops aMi103 3 _ (f1 := (125, ([(0, .ref a0), (1, .int i1), (2, .int i2), (3, .int i3)], [.ref a0, .int i2, .ref a0]))) rfl ?_
  obtain ⟨u125_15, hxu125_15, h⟩ := Option.bind_eq_some_iff.mp h
  obtain ⟨r125_16, hxr125_16, h⟩ := Option.bind_eq_some_iff.mp h
  refine gg_cv (as := []) (r := [.int i2, .ref a0]) aMi103 rfl rfl rfl aMi92 (Nat.le_of_ble_eq_true rfl) rfl (Nat.le_of_ble_eq_true rfl) (Nat.le_of_ble_eq_true rfl) (by omega) hxu125_15 (Tf92 (by omega) a0 I _ hxr125_16) ?_
  show aGo kad d 103 (128, ([(0, .ref a0), (1, .int i1), (2, .int i2), (3, .int i3)], [.int r125_16.1, .int i2, .ref a0])) (aMem Z r125_16.2, t) _
  obtain ⟨u128_17, hxu128_17, h⟩ := Option.bind_eq_some_iff.mp h
  obtain ⟨r128_18, hxr128_18, h⟩ := Option.bind_eq_some_iff.mp h
  refine gg_cv (as := [.int i2, .int r125_16.1]) (r := []) aMi103 rfl rfl rfl aMi99 (Nat.le_of_ble_eq_true rfl) rfl (Nat.le_of_ble_eq_true rfl) (Nat.le_of_ble_eq_true rfl) (by omega) hxu128_17 (Tf99 (by omega) a0 i2 r125_16.1 r125_16.2 _ hxr128_18) ?_
  show aGo kad d 103 (131, ([(0, .ref a0), (1, .int i1), (2, .int i2), (3, .int i3)], [])) (aMem Z r128_18.2, t) _
  refine go_ops aMi103 1 _ (f1 := (132, ([(0, .ref a0), (1, .int i1), (2, .int i2), (3, .int i3)], [.ref a0]))) rfl ?_
  obtain ⟨u132_19, hxu132_19, h⟩ := Option.bind_eq_some_iff.mp h
  obtain ⟨r132_20, hxr132_20, h⟩ := Option.bind_eq_some_iff.mp h
  refine gg_cv (as := []) (r := []) aMi103 rfl rfl rfl aMi88 (Nat.le_of_ble_eq_true rfl) rfl (Nat.le_of_ble_eq_true rfl) (Nat.le_of_ble_eq_true rfl) (by omega) hxu132_19 (Tf88 (by omega) a0 r128_18.2 _ hxr132_20) ?_
  show aGo kad d 103 (135, ([(0, .ref a0), (1, .int i1), (2, .int i2), (3, .int i3)], [])) (aMem Z r132_20.2, t) _
  refine go_le (lv1 := []) (aLe_of (show (List.map (fun q => q.1) ([] : ALv)).Nodup from (by show ([] : List Nat).Nodup; decide)) aSubL_nil) ?_
  exact Tf103_b135 hd  r132_20.2 _ h
def f103_b17 (kad : Nat → Nat) (N : Nat) (Z : AZ) (a0 : Nat) (i1 : Int32) (i2 : Int32) (i3 : Int32) (s0 : Int32) (I : AI) : Option (Unit × AI) :=
  if s0 = 0 then
    (isK Z a0 8).bind fun u37_1 =>
    (f94 kad N Z a0 (1 : Int32) I).bind fun r37_2 =>
    if ¬ r37_2.1 = 0 then
      f103_b44 kad N Z a0 i1 i2 i3 r37_2.2
    else
      f103_b43 kad N Z  r37_2.2
  else
    (isK Z a0 8).bind fun u26_3 =>
    (f93 kad N Z a0 (1 : Int32) I).bind fun r26_4 =>
    if ¬ r26_4.1 = 0 then
      f103_b44 kad N Z a0 i1 i2 i3 r26_4.2
    else
      f103_b43 kad N Z  r26_4.2
set_option maxRecDepth 20000 in
theorem Tf103_b17 {kad : Nat → Nat} {N : Nat} {Z : AZ} {d : Nat} {t : Option Nat × (Nat × Nat)} (hd : 3 ≤ d) : ∀ (a0 : Nat) (i1 : Int32) (i2 : Int32) (i3 : Int32) (s0 : Int32) (I : AI) (r : Unit × AI), f103_b17 kad N Z a0 i1 i2 i3 s0 I = some r → aGo kad d 103 (17, ([(0, .ref a0), (1, .int i1), (2, .int i2), (3, .int i3)], [.int s0])) (aMem Z I, t) (qV Z t r) := by
  intro a0 i1 i2 i3 s0 I r h
  unfold f103_b17 at h
  refine go_ops aMi103 2 _ (f1 := (21, ([(4, .int s0), (0, .ref a0), (1, .int i1), (2, .int i2), (3, .int i3)], [.int s0]))) rfl ?_
  refine gg_br (b := decide (s0 = 0)) (tg := 35) (off := 14) aMi103 rfl rfl rfl rfl (fun hb => ?_) (fun hb => ?_)
  · rw [if_pos (of_decide_eq_true hb)] at h
    refine go_ops aMi103 2 _ (f1 := (37, ([(4, .int s0), (0, .ref a0), (1, .int i1), (2, .int i2), (3, .int i3)], [.int (1 : Int32), .ref a0]))) rfl ?_
    obtain ⟨u37_1, hxu37_1, h⟩ := Option.bind_eq_some_iff.mp h
    obtain ⟨r37_2, hxr37_2, h⟩ := Option.bind_eq_some_iff.mp h
    refine gg_cv (as := [.int (1 : Int32)]) (r := []) aMi103 rfl rfl rfl aMi94 (Nat.le_of_ble_eq_true rfl) rfl (Nat.le_of_ble_eq_true rfl) (Nat.le_of_ble_eq_true rfl) (by omega) hxu37_1 (Tf94 (by omega) a0 (1 : Int32) I _ hxr37_2) ?_
    show aGo kad d 103 (40, ([(4, .int s0), (0, .ref a0), (1, .int i1), (2, .int i2), (3, .int i3)], [.int r37_2.1])) (aMem Z r37_2.2, t) _
    refine gg_br (b := decide (¬ r37_2.1 = 0)) (tg := 44) (off := 4) aMi103 rfl rfl rfl rfl (fun hb => ?_) (fun hb => ?_)
    · rw [if_pos (of_decide_eq_true hb)] at h
      refine go_le (lv1 := [(0, .ref a0), (1, .int i1), (2, .int i2), (3, .int i3)]) (aLe_of (show (List.map (fun q => q.1) ([(0, .ref a0), (1, .int i1), (2, .int i2), (3, .int i3)] : ALv)).Nodup from (by show ([0, 1, 2, 3] : List Nat).Nodup; decide)) (aSubL_cons rfl (aSubL_cons rfl (aSubL_cons rfl (aSubL_cons rfl aSubL_nil))))) ?_
      exact Tf103_b44 hd a0 i1 i2 i3 r37_2.2 _ h
    · rw [if_neg (of_decide_eq_false hb)] at h
      refine go_le (lv1 := []) (aLe_of (show (List.map (fun q => q.1) ([] : ALv)).Nodup from (by show ([] : List Nat).Nodup; decide)) aSubL_nil) ?_
      exact Tf103_b43 hd  r37_2.2 _ h
  · rw [if_neg (of_decide_eq_false hb)] at h
    refine go_ops aMi103 2 _ (f1 := (26, ([(4, .int s0), (0, .ref a0), (1, .int i1), (2, .int i2), (3, .int i3)], [.int (1 : Int32), .ref a0]))) rfl ?_
    obtain ⟨u26_3, hxu26_3, h⟩ := Option.bind_eq_some_iff.mp h
    obtain ⟨r26_4, hxr26_4, h⟩ := Option.bind_eq_some_iff.mp h
    refine gg_cv (as := [.int (1 : Int32)]) (r := []) aMi103 rfl rfl rfl aMi93 (Nat.le_of_ble_eq_true rfl) rfl (Nat.le_of_ble_eq_true rfl) (Nat.le_of_ble_eq_true rfl) (by omega) hxu26_3 (Tf93 (by omega) a0 (1 : Int32) I _ hxr26_4) ?_
    show aGo kad d 103 (29, ([(4, .int s0), (0, .ref a0), (1, .int i1), (2, .int i2), (3, .int i3)], [.int r26_4.1])) (aMem Z r26_4.2, t) _
    refine gg_br (b := decide (¬ r26_4.1 = 0)) (tg := 44) (off := 15) aMi103 rfl rfl rfl rfl (fun hb => ?_) (fun hb => ?_)
    · rw [if_pos (of_decide_eq_true hb)] at h
      refine go_le (lv1 := [(0, .ref a0), (1, .int i1), (2, .int i2), (3, .int i3)]) (aLe_of (show (List.map (fun q => q.1) ([(0, .ref a0), (1, .int i1), (2, .int i2), (3, .int i3)] : ALv)).Nodup from (by show ([0, 1, 2, 3] : List Nat).Nodup; decide)) (aSubL_cons rfl (aSubL_cons rfl (aSubL_cons rfl (aSubL_cons rfl aSubL_nil))))) ?_
      exact Tf103_b44 hd a0 i1 i2 i3 r26_4.2 _ h
    · rw [if_neg (of_decide_eq_false hb)] at h
      refine go_ops aMi103 1 _ (f1 := (43, ([(4, .int s0), (0, .ref a0), (1, .int i1), (2, .int i2), (3, .int i3)], []))) rfl ?_
      refine go_le (lv1 := []) (aLe_of (show (List.map (fun q => q.1) ([] : ALv)).Nodup from (by show ([] : List Nat).Nodup; decide)) aSubL_nil) ?_
      exact Tf103_b43 hd  r26_4.2 _ h
def f103_b12 (kad : Nat → Nat) (N : Nat) (Z : AZ) (a0 : Nat) (i1 : Int32) (i2 : Int32) (i3 : Int32) (I : AI) : Option (Unit × AI) :=
  f103_b17 kad N Z a0 i1 i2 i3 (1 : Int32) I
set_option maxRecDepth 20000 in
theorem Tf103_b12 {kad : Nat → Nat} {N : Nat} {Z : AZ} {d : Nat} {t : Option Nat × (Nat × Nat)} (hd : 3 ≤ d) : ∀ (a0 : Nat) (i1 : Int32) (i2 : Int32) (i3 : Int32) (I : AI) (r : Unit × AI), f103_b12 kad N Z a0 i1 i2 i3 I = some r → aGo kad d 103 (12, ([(0, .ref a0), (1, .int i1), (2, .int i2), (3, .int i3)], [])) (aMem Z I, t) (qV Z t r) := by
  intro a0 i1 i2 i3 I r h
  unfold f103_b12 at h
  refine go_ops aMi103 2 _ (f1 := (17, ([(0, .ref a0), (1, .int i1), (2, .int i2), (3, .int i3)], [.int (1 : Int32)]))) rfl ?_
  exact Tf103_b17 hd a0 i1 i2 i3 (1 : Int32) I _ h
def f103 (kad : Nat → Nat) (N : Nat) (Z : AZ) (a0 : Nat) (i1 : Int32) (i2 : Int32) (i3 : Int32) (I : AI) : Option (Unit × AI) :=
  if i1 = (15 : Int32) then
    f103_b12 kad N Z a0 i1 i2 i3 I
  else
    if ¬ i1 = (17 : Int32) then
      f103_b17 kad N Z a0 i1 i2 i3 (0 : Int32) I
    else
      f103_b12 kad N Z a0 i1 i2 i3 I
set_option maxRecDepth 20000 in
theorem Tf103 {kad : Nat → Nat} {N : Nat} {Z : AZ} {d : Nat} {t : Option Nat × (Nat × Nat)} (hd : 3 ≤ d) : ∀ (a0 : Nat) (i1 : Int32) (i2 : Int32) (i3 : Int32) (I : AI) (r : Unit × AI), f103 kad N Z a0 i1 i2 i3 I = some r → aGo kad d 103 (0, ([(0, .ref a0), (1, .int i1), (2, .int i2), (3, .int i3)], [])) (aMem Z I, t) (qV Z t r) := by
  intro a0 i1 i2 i3 I r h
  unfold f103 at h
  refine go_ops aMi103 2 _ (f1 := (3, ([(0, .ref a0), (1, .int i1), (2, .int i2), (3, .int i3)], [.int (15 : Int32), .int i1]))) rfl ?_
  refine gg_br (b := decide (i1 = (15 : Int32))) (tg := 12) (off := 9) aMi103 rfl rfl rfl rfl (fun hb => ?_) (fun hb => ?_)
  · rw [if_pos (of_decide_eq_true hb)] at h
    exact Tf103_b12 hd a0 i1 i2 i3 I _ h
  · rw [if_neg (of_decide_eq_false hb)] at h
    refine go_ops aMi103 2 _ (f1 := (9, ([(0, .ref a0), (1, .int i1), (2, .int i2), (3, .int i3)], [.int (17 : Int32), .int i1]))) rfl ?_
    refine gg_br (b := decide (¬ i1 = (17 : Int32))) (tg := 16) (off := 7) aMi103 rfl rfl rfl rfl (fun hb => ?_) (fun hb => ?_)
    · rw [if_pos (of_decide_eq_true hb)] at h
      refine go_ops aMi103 1 _ (f1 := (17, ([(0, .ref a0), (1, .int i1), (2, .int i2), (3, .int i3)], [.int (0 : Int32)]))) rfl ?_
      exact Tf103_b17 hd a0 i1 i2 i3 (0 : Int32) I _ h
    · rw [if_neg (of_decide_eq_false hb)] at h
      exact Tf103_b12 hd a0 i1 i2 i3 I _ h
-- KernelGym$Machine.jump (II)V
def f102_b47 (kad : Nat → Nat) (N : Nat) (Z : AZ)  (I : AI) : Option (Unit × AI) :=
  some ((), I)
set_option maxRecDepth 20000 in
theorem Tf102_b47 {kad : Nat → Nat} {N : Nat} {Z : AZ} {d : Nat} {t : Option Nat × (Nat × Nat)} (hd : 1 ≤ d) : ∀  (I : AI) (r : Unit × AI), f102_b47 kad N Z  I = some r → aGo kad d 102 (47, ([], [])) (aMem Z I, t) (qV Z t r) := by
  intro  I r h
  unfold f102_b47 at h
  cases h
  exact go_ret aMi102 rfl rfl ⟨rfl, rfl⟩
def f102_b32 (kad : Nat → Nat) (N : Nat) (Z : AZ) (a0 : Nat) (I : AI) : Option (Unit × AI) :=
  (isK Z a0 8).bind fun u33_1 =>
  (f88 kad N Z a0 I).bind fun r33_2 =>
  f102_b47 kad N Z  r33_2.2
set_option maxRecDepth 20000 in
theorem Tf102_b32 {kad : Nat → Nat} {N : Nat} {Z : AZ} {d : Nat} {t : Option Nat × (Nat × Nat)} (hd : 1 ≤ d) : ∀ (a0 : Nat) (I : AI) (r : Unit × AI), f102_b32 kad N Z a0 I = some r → aGo kad d 102 (32, ([(0, .ref a0)], [])) (aMem Z I, t) (qV Z t r) := by
  intro a0 I r h
  unfold f102_b32 at h
  refine go_ops aMi102 1 _ (f1 := (33, ([(0, .ref a0)], [.ref a0]))) rfl ?_
  obtain ⟨u33_1, hxu33_1, h⟩ := Option.bind_eq_some_iff.mp h
  obtain ⟨r33_2, hxr33_2, h⟩ := Option.bind_eq_some_iff.mp h
  refine gg_cv (as := []) (r := []) aMi102 rfl rfl rfl aMi88 (Nat.le_of_ble_eq_true rfl) rfl (Nat.le_of_ble_eq_true rfl) (Nat.le_of_ble_eq_true rfl) (by omega) hxu33_1 (Tf88 (by omega) a0 I _ hxr33_2) ?_
  show aGo kad d 102 (36, ([(0, .ref a0)], [])) (aMem Z r33_2.2, t) _
  refine go_ops aMi102 1 _ (f1 := (47, ([(0, .ref a0)], []))) rfl ?_
  refine go_le (lv1 := []) (aLe_of (show (List.map (fun q => q.1) ([] : ALv)).Nodup from (by show ([] : List Nat).Nodup; decide)) aSubL_nil) ?_
  exact Tf102_b47 hd  r33_2.2 _ h
def f102_b39 (kad : Nat → Nat) (N : Nat) (Z : AZ) (a0 : Nat) (i2 : Int32) (I : AI) : Option (Unit × AI) :=
  (gR Z I 8 0 a0).bind fun b40_1 =>
  (pI Z I 2 3 b40_1 i2).bind fun I44_2 =>
  f102_b47 kad N Z  I44_2
set_option maxRecDepth 20000 in
theorem Tf102_b39 {kad : Nat → Nat} {N : Nat} {Z : AZ} {d : Nat} {t : Option Nat × (Nat × Nat)} (hd : 1 ≤ d) : ∀ (a0 : Nat) (i2 : Int32) (I : AI) (r : Unit × AI), f102_b39 kad N Z a0 i2 I = some r → aGo kad d 102 (39, ([(0, .ref a0), (2, .int i2)], [])) (aMem Z I, t) (qV Z t r) := by
  intro a0 i2 I r h
  unfold f102_b39 at h
  refine go_ops aMi102 1 _ (f1 := (40, ([(0, .ref a0), (2, .int i2)], [.ref a0]))) rfl ?_
  obtain ⟨b40_1, hxb40_1, h⟩ := Option.bind_eq_some_iff.mp h
  refine gg_gR aMi102 rfl rfl rfl hxb40_1 ?_
  refine go_ops aMi102 1 _ (f1 := (44, ([(0, .ref a0), (2, .int i2)], [.int i2, .ref b40_1]))) rfl ?_
  obtain ⟨I44_2, hxI44_2, h⟩ := Option.bind_eq_some_iff.mp h
  refine gg_pI aMi102 rfl rfl rfl rfl (by decide) hxI44_2 ?_
  refine go_le (lv1 := []) (aLe_of (show (List.map (fun q => q.1) ([] : ALv)).Nodup from (by show ([] : List Nat).Nodup; decide)) aSubL_nil) ?_
  exact Tf102_b47 hd  I44_2 _ h
def f102_b16 (kad : Nat → Nat) (N : Nat) (Z : AZ) (a0 : Nat) (i1 : Int32) (i2 : Int32) (I : AI) : Option (Unit × AI) :=
  if ¬ i1 = (14 : Int32) then
    f102_b39 kad N Z a0 i2 I
  else
    (gR Z I 8 0 a0).bind fun b23_1 =>
    (gI Z I 2 6 b23_1).bind fun x26_2 =>
    if ¬ x26_2 = 0 then
      f102_b39 kad N Z a0 i2 I
    else
      f102_b32 kad N Z a0 I
set_option maxRecDepth 20000 in
theorem Tf102_b16 {kad : Nat → Nat} {N : Nat} {Z : AZ} {d : Nat} {t : Option Nat × (Nat × Nat)} (hd : 1 ≤ d) : ∀ (a0 : Nat) (i1 : Int32) (i2 : Int32) (I : AI) (r : Unit × AI), f102_b16 kad N Z a0 i1 i2 I = some r → aGo kad d 102 (16, ([(0, .ref a0), (1, .int i1), (2, .int i2)], [])) (aMem Z I, t) (qV Z t r) := by
  intro a0 i1 i2 I r h
  unfold f102_b16 at h
  refine go_ops aMi102 2 _ (f1 := (19, ([(0, .ref a0), (1, .int i1), (2, .int i2)], [.int (14 : Int32), .int i1]))) rfl ?_
  refine gg_br (b := decide (¬ i1 = (14 : Int32))) (tg := 39) (off := 20) aMi102 rfl rfl rfl rfl (fun hb => ?_) (fun hb => ?_)
  · rw [if_pos (of_decide_eq_true hb)] at h
    refine go_le (lv1 := [(0, .ref a0), (2, .int i2)]) (aLe_of (show (List.map (fun q => q.1) ([(0, .ref a0), (2, .int i2)] : ALv)).Nodup from (by show ([0, 2] : List Nat).Nodup; decide)) (aSubL_cons rfl (aSubL_cons rfl aSubL_nil))) ?_
    exact Tf102_b39 hd a0 i2 I _ h
  · rw [if_neg (of_decide_eq_false hb)] at h
    refine go_ops aMi102 1 _ (f1 := (23, ([(0, .ref a0), (1, .int i1), (2, .int i2)], [.ref a0]))) rfl ?_
    obtain ⟨b23_1, hxb23_1, h⟩ := Option.bind_eq_some_iff.mp h
    refine gg_gR aMi102 rfl rfl rfl hxb23_1 ?_
    obtain ⟨x26_2, hxx26_2, h⟩ := Option.bind_eq_some_iff.mp h
    refine gg_gI aMi102 rfl rfl rfl hxx26_2 ?_
    refine gg_br (b := decide (¬ x26_2 = 0)) (tg := 39) (off := 10) aMi102 rfl rfl rfl rfl (fun hb => ?_) (fun hb => ?_)
    · rw [if_pos (of_decide_eq_true hb)] at h
      refine go_le (lv1 := [(0, .ref a0), (2, .int i2)]) (aLe_of (show (List.map (fun q => q.1) ([(0, .ref a0), (2, .int i2)] : ALv)).Nodup from (by show ([0, 2] : List Nat).Nodup; decide)) (aSubL_cons rfl (aSubL_cons rfl aSubL_nil))) ?_
      exact Tf102_b39 hd a0 i2 I _ h
    · rw [if_neg (of_decide_eq_false hb)] at h
      refine go_le (lv1 := [(0, .ref a0)]) (aLe_of (show (List.map (fun q => q.1) ([(0, .ref a0)] : ALv)).Nodup from (by show ([0] : List Nat).Nodup; decide)) (aSubL_cons rfl aSubL_nil)) ?_
      exact Tf102_b32 hd a0 I _ h
def f102 (kad : Nat → Nat) (N : Nat) (Z : AZ) (a0 : Nat) (i1 : Int32) (i2 : Int32) (I : AI) : Option (Unit × AI) :=
  if ¬ i1 = (13 : Int32) then
    f102_b16 kad N Z a0 i1 i2 I
  else
    (gR Z I 8 0 a0).bind fun b7_1 =>
    (gI Z I 2 5 b7_1).bind fun x10_2 =>
    if x10_2 = 0 then
      f102_b32 kad N Z a0 I
    else
      f102_b16 kad N Z a0 i1 i2 I
set_option maxRecDepth 20000 in
theorem Tf102 {kad : Nat → Nat} {N : Nat} {Z : AZ} {d : Nat} {t : Option Nat × (Nat × Nat)} (hd : 1 ≤ d) : ∀ (a0 : Nat) (i1 : Int32) (i2 : Int32) (I : AI) (r : Unit × AI), f102 kad N Z a0 i1 i2 I = some r → aGo kad d 102 (0, ([(0, .ref a0), (1, .int i1), (2, .int i2)], [])) (aMem Z I, t) (qV Z t r) := by
  intro a0 i1 i2 I r h
  unfold f102 at h
  refine go_ops aMi102 2 _ (f1 := (3, ([(0, .ref a0), (1, .int i1), (2, .int i2)], [.int (13 : Int32), .int i1]))) rfl ?_
  refine gg_br (b := decide (¬ i1 = (13 : Int32))) (tg := 16) (off := 13) aMi102 rfl rfl rfl rfl (fun hb => ?_) (fun hb => ?_)
  · rw [if_pos (of_decide_eq_true hb)] at h
    exact Tf102_b16 hd a0 i1 i2 I _ h
  · rw [if_neg (of_decide_eq_false hb)] at h
    refine go_ops aMi102 1 _ (f1 := (7, ([(0, .ref a0), (1, .int i1), (2, .int i2)], [.ref a0]))) rfl ?_
    obtain ⟨b7_1, hxb7_1, h⟩ := Option.bind_eq_some_iff.mp h
    refine gg_gR aMi102 rfl rfl rfl hxb7_1 ?_
    obtain ⟨x10_2, hxx10_2, h⟩ := Option.bind_eq_some_iff.mp h
    refine gg_gI aMi102 rfl rfl rfl hxx10_2 ?_
    refine gg_br (b := decide (x10_2 = 0)) (tg := 32) (off := 19) aMi102 rfl rfl rfl rfl (fun hb => ?_) (fun hb => ?_)
    · rw [if_pos (of_decide_eq_true hb)] at h
      refine go_le (lv1 := [(0, .ref a0)]) (aLe_of (show (List.map (fun q => q.1) ([(0, .ref a0)] : ALv)).Nodup from (by show ([0] : List Nat).Nodup; decide)) (aSubL_cons rfl aSubL_nil)) ?_
      exact Tf102_b32 hd a0 I _ h
    · rw [if_neg (of_decide_eq_false hb)] at h
      exact Tf102_b16 hd a0 i1 i2 I _ h
-- KernelGym$Machine.registerAt (I)I
def f98_b22 (kad : Nat → Nat) (N : Nat) (Z : AZ) (s0 : Int32) (I : AI) : Option (Int32 × AI) :=
  some (s0, I)
set_option maxRecDepth 20000 in
theorem Tf98_b22 {kad : Nat → Nat} {N : Nat} {Z : AZ} {d : Nat} {t : Option Nat × (Nat × Nat)} (hd : 0 ≤ d) : ∀ (s0 : Int32) (I : AI) (r : Int32 × AI), f98_b22 kad N Z s0 I = some r → aGo kad d 98 (22, ([], [.int s0])) (aMem Z I, t) (qI Z t r) := by
  intro s0 I r h
  unfold f98_b22 at h
  cases h
  exact go_ret aMi98 rfl aRetI ⟨rfl, rfl⟩
def f98_b21 (kad : Nat → Nat) (N : Nat) (Z : AZ)  (I : AI) : Option (Int32 × AI) :=
  f98_b22 kad N Z (0 : Int32) I
set_option maxRecDepth 20000 in
theorem Tf98_b21 {kad : Nat → Nat} {N : Nat} {Z : AZ} {d : Nat} {t : Option Nat × (Nat × Nat)} (hd : 0 ≤ d) : ∀  (I : AI) (r : Int32 × AI), f98_b21 kad N Z  I = some r → aGo kad d 98 (21, ([], [])) (aMem Z I, t) (qI Z t r) := by
  intro  I r h
  unfold f98_b21 at h
  refine go_ops aMi98 1 _ (f1 := (22, ([], [.int (0 : Int32)]))) rfl ?_
  exact Tf98_b22 hd (0 : Int32) I _ h
def f98 (kad : Nat → Nat) (N : Nat) (Z : AZ) (a0 : Nat) (i1 : Int32) (I : AI) : Option (Int32 × AI) :=
  if i1 < 0 then
    f98_b21 kad N Z  I
  else
    if (4 : Int32) ≤ i1 then
      f98_b21 kad N Z  I
    else
      (gR Z I 8 0 a0).bind fun b10_1 =>
      (gR Z I 2 14 b10_1).bind fun b13_2 =>
      (lI Z I 100 b13_2 i1).bind fun x17_3 =>
      f98_b22 kad N Z x17_3 I
set_option maxRecDepth 20000 in
theorem Tf98 {kad : Nat → Nat} {N : Nat} {Z : AZ} {d : Nat} {t : Option Nat × (Nat × Nat)} (hd : 0 ≤ d) : ∀ (a0 : Nat) (i1 : Int32) (I : AI) (r : Int32 × AI), f98 kad N Z a0 i1 I = some r → aGo kad d 98 (0, ([(0, .ref a0), (1, .int i1)], [])) (aMem Z I, t) (qI Z t r) := by
  intro a0 i1 I r h
  unfold f98 at h
  refine go_ops aMi98 1 _ (f1 := (1, ([(0, .ref a0), (1, .int i1)], [.int i1]))) rfl ?_
  refine gg_br (b := decide (i1 < 0)) (tg := 21) (off := 20) aMi98 rfl rfl rfl rfl (fun hb => ?_) (fun hb => ?_)
  · rw [if_pos (of_decide_eq_true hb)] at h
    refine go_le (lv1 := []) (aLe_of (show (List.map (fun q => q.1) ([] : ALv)).Nodup from (by show ([] : List Nat).Nodup; decide)) aSubL_nil) ?_
    exact Tf98_b21 hd  I _ h
  · rw [if_neg (of_decide_eq_false hb)] at h
    refine go_ops aMi98 2 _ (f1 := (6, ([(0, .ref a0), (1, .int i1)], [.int (4 : Int32), .int i1]))) rfl ?_
    refine gg_br (b := decide ((4 : Int32) ≤ i1)) (tg := 21) (off := 15) aMi98 rfl rfl rfl rfl (fun hb => ?_) (fun hb => ?_)
    · rw [if_pos (of_decide_eq_true hb)] at h
      refine go_le (lv1 := []) (aLe_of (show (List.map (fun q => q.1) ([] : ALv)).Nodup from (by show ([] : List Nat).Nodup; decide)) aSubL_nil) ?_
      exact Tf98_b21 hd  I _ h
    · rw [if_neg (of_decide_eq_false hb)] at h
      refine go_ops aMi98 1 _ (f1 := (10, ([(0, .ref a0), (1, .int i1)], [.ref a0]))) rfl ?_
      obtain ⟨b10_1, hxb10_1, h⟩ := Option.bind_eq_some_iff.mp h
      refine gg_gR aMi98 rfl rfl rfl hxb10_1 ?_
      obtain ⟨b13_2, hxb13_2, h⟩ := Option.bind_eq_some_iff.mp h
      refine gg_gR aMi98 rfl rfl rfl hxb13_2 ?_
      refine go_ops aMi98 1 _ (f1 := (17, ([(0, .ref a0), (1, .int i1)], [.int i1, .ref b13_2]))) rfl ?_
      obtain ⟨x17_3, hxx17_3, h⟩ := Option.bind_eq_some_iff.mp h
      refine gg_lI (Or.inl ⟨rfl, rfl⟩) aMi98 rfl hxx17_3 ?_
      refine go_ops aMi98 1 _ (f1 := (22, ([(0, .ref a0), (1, .int i1)], [.int x17_3]))) rfl ?_
      refine go_le (lv1 := []) (aLe_of (show (List.map (fun q => q.1) ([] : ALv)).Nodup from (by show ([] : List Nat).Nodup; decide)) aSubL_nil) ?_
      exact Tf98_b22 hd x17_3 I _ h
-- KernelGym$Machine.resultOf (III)J
def f101_b81 (kad : Nat → Nat) (N : Nat) (Z : AZ) (i1 : Int32) (i2 : Int32) (I : AI) : Option (Int64 × AI) :=
  some (((i1 - i2).toInt64), I)
set_option maxRecDepth 20000 in
theorem Tf101_b81 {kad : Nat → Nat} {N : Nat} {Z : AZ} {d : Nat} {t : Option Nat × (Nat × Nat)} (hd : 0 ≤ d) : ∀ (i1 : Int32) (i2 : Int32) (I : AI) (r : Int64 × AI), f101_b81 kad N Z i1 i2 I = some r → aGo kad d 101 (81, ([(1, .int i1), (2, .int i2)], [])) (aMem Z I, t) (qJ Z t r) := by
  intro i1 i2 I r h
  unfold f101_b81 at h
  refine go_ops aMi101 4 _ (f1 := (85, ([(1, .int i1), (2, .int i2)], [.long ((i1 - i2).toInt64)]))) rfl ?_
  cases h
  exact go_ret aMi101 rfl rfl ⟨rfl, rfl⟩
def f101 (kad : Nat → Nat) (N : Nat) (Z : AZ) (i0 : Int32) (i1 : Int32) (i2 : Int32) (I : AI) : Option (Int64 × AI) :=
  if i0 = (4 : Int32) then
    some (((i1 + i2).toInt64), I)
  else
  if i0 = (5 : Int32) then
    f101_b81 kad N Z i1 i2 I
  else
  if i0 = (6 : Int32) then
    some (((i1.toInt64) * (i2.toInt64)), I)
  else
  if i0 = (7 : Int32) then
    some (((i1 &&& i2).toInt64), I)
  else
  if i0 = (8 : Int32) then
    some (((i1 ^^^ i2).toInt64), I)
  else
  if i0 = (9 : Int32) then
    some (((i1 <<< ((i2 - i2 / (16 : Int32) * (16 : Int32)) &&& 31)).toInt64), I)
  else
  if i0 = (10 : Int32) then
    some (((i1 >>> ((i2 - i2 / (16 : Int32) * (16 : Int32)) &&& 31)).toInt64), I)
  else
    f101_b81 kad N Z i1 i2 I
set_option maxRecDepth 20000 in
theorem Tf101 {kad : Nat → Nat} {N : Nat} {Z : AZ} {d : Nat} {t : Option Nat × (Nat × Nat)} (hd : 0 ≤ d) : ∀ (i0 : Int32) (i1 : Int32) (i2 : Int32) (I : AI) (r : Int64 × AI), f101 kad N Z i0 i1 i2 I = some r → aGo kad d 101 (0, ([(0, .int i0), (1, .int i1), (2, .int i2)], [])) (aMem Z I, t) (qJ Z t r) := by
  intro i0 i1 i2 I r h
  unfold f101 at h
  refine go_ops aMi101 1 _ (f1 := (1, ([(0, .int i0), (1, .int i1), (2, .int i2)], [.int i0]))) rfl ?_
  by_cases hs0 : i0 = (4 : Int32)
  · rw [if_pos hs0] at h
    refine go_sw (f1 := (44, ([(0, .int i0), (1, .int i1), (2, .int i2)], []))) aMi101 rfl (by rw [hs0]; rfl) ?_
    refine go_ops aMi101 4 _ (f1 := (48, ([(0, .int i0), (1, .int i1), (2, .int i2)], [.long ((i1 + i2).toInt64)]))) rfl ?_
    cases h
    exact go_ret aMi101 rfl rfl ⟨rfl, rfl⟩
  rw [if_neg hs0] at h
  by_cases hs1 : i0 = (5 : Int32)
  · rw [if_pos hs1] at h
    refine go_sw (f1 := (81, ([(0, .int i0), (1, .int i1), (2, .int i2)], []))) aMi101 rfl (by rw [hs1]; rfl) ?_
    refine go_le (lv1 := [(1, .int i1), (2, .int i2)]) (aLe_of (show (List.map (fun q => q.1) ([(1, .int i1), (2, .int i2)] : ALv)).Nodup from (by show ([1, 2] : List Nat).Nodup; decide)) (aSubL_cons rfl (aSubL_cons rfl aSubL_nil))) ?_
    exact Tf101_b81 hd i1 i2 I _ h
  rw [if_neg hs1] at h
  by_cases hs2 : i0 = (6 : Int32)
  · rw [if_pos hs2] at h
    refine go_sw (f1 := (49, ([(0, .int i0), (1, .int i1), (2, .int i2)], []))) aMi101 rfl (by rw [hs2]; rfl) ?_
    refine go_ops aMi101 5 _ (f1 := (54, ([(0, .int i0), (1, .int i1), (2, .int i2)], [.long ((i1.toInt64) * (i2.toInt64))]))) rfl ?_
    cases h
    exact go_ret aMi101 rfl rfl ⟨rfl, rfl⟩
  rw [if_neg hs2] at h
  by_cases hs3 : i0 = (7 : Int32)
  · rw [if_pos hs3] at h
    refine go_sw (f1 := (55, ([(0, .int i0), (1, .int i1), (2, .int i2)], []))) aMi101 rfl (by rw [hs3]; rfl) ?_
    refine go_ops aMi101 4 _ (f1 := (59, ([(0, .int i0), (1, .int i1), (2, .int i2)], [.long ((i1 &&& i2).toInt64)]))) rfl ?_
    cases h
    exact go_ret aMi101 rfl rfl ⟨rfl, rfl⟩
  rw [if_neg hs3] at h
  by_cases hs4 : i0 = (8 : Int32)
  · rw [if_pos hs4] at h
    refine go_sw (f1 := (60, ([(0, .int i0), (1, .int i1), (2, .int i2)], []))) aMi101 rfl (by rw [hs4]; rfl) ?_
    refine go_ops aMi101 4 _ (f1 := (64, ([(0, .int i0), (1, .int i1), (2, .int i2)], [.long ((i1 ^^^ i2).toInt64)]))) rfl ?_
    cases h
    exact go_ret aMi101 rfl rfl ⟨rfl, rfl⟩
  rw [if_neg hs4] at h
  by_cases hs5 : i0 = (9 : Int32)
  · rw [if_pos hs5] at h
    refine go_sw (f1 := (65, ([(0, .int i0), (1, .int i1), (2, .int i2)], []))) aMi101 rfl (by rw [hs5]; rfl) ?_
    refine go_ops aMi101 6 _ (f1 := (72, ([(0, .int i0), (1, .int i1), (2, .int i2)], [.long ((i1 <<< ((i2 - i2 / (16 : Int32) * (16 : Int32)) &&& 31)).toInt64)]))) rfl ?_
    cases h
    exact go_ret aMi101 rfl rfl ⟨rfl, rfl⟩
  rw [if_neg hs5] at h
  by_cases hs6 : i0 = (10 : Int32)
  · rw [if_pos hs6] at h
    refine go_sw (f1 := (73, ([(0, .int i0), (1, .int i1), (2, .int i2)], []))) aMi101 rfl (by rw [hs6]; rfl) ?_
    refine go_ops aMi101 6 _ (f1 := (80, ([(0, .int i0), (1, .int i1), (2, .int i2)], [.long ((i1 >>> ((i2 - i2 / (16 : Int32) * (16 : Int32)) &&& 31)).toInt64)]))) rfl ?_
    cases h
    exact go_ret aMi101 rfl rfl ⟨rfl, rfl⟩
  rw [if_neg hs6] at h
  refine go_swd (tg := 81) (m := 7) aMi101 rfl rfl (by decide) (fun k hk => ?_) ?_
  · match k, hk with
    | 0, _ => exact hs0
    | 1, _ => exact hs1
    | 2, _ => exact hs2
    | 3, _ => exact hs3
    | 4, _ => exact hs4
    | 5, _ => exact hs5
    | 6, _ => exact hs6
    | k + 7, hk => exact absurd hk (by omega)
  refine go_le (lv1 := [(1, .int i1), (2, .int i2)]) (aLe_of (show (List.map (fun q => q.1) ([(1, .int i1), (2, .int i2)] : ALv)).Nodup from (by show ([1, 2] : List Nat).Nodup; decide)) (aSubL_cons rfl (aSubL_cons rfl aSubL_nil))) ?_
  exact Tf101_b81 hd i1 i2 I _ h
-- KernelGym$Machine.calculate (III)V
def f100_b103 (kad : Nat → Nat) (N : Nat) (Z : AZ) (a0 : Nat) (I : AI) : Option (Unit × AI) :=
  (isK Z a0 8).bind fun u104_1 =>
  (f88 kad N Z a0 I).bind fun r104_2 =>
  some ((), r104_2.2)
set_option maxRecDepth 20000 in
theorem Tf100_b103 {kad : Nat → Nat} {N : Nat} {Z : AZ} {d : Nat} {t : Option Nat × (Nat × Nat)} (hd : 1 ≤ d) : ∀ (a0 : Nat) (I : AI) (r : Unit × AI), f100_b103 kad N Z a0 I = some r → aGo kad d 100 (103, ([(0, .ref a0)], [])) (aMem Z I, t) (qV Z t r) := by
  intro a0 I r h
  unfold f100_b103 at h
  refine go_ops aMi100 1 _ (f1 := (104, ([(0, .ref a0)], [.ref a0]))) rfl ?_
  obtain ⟨u104_1, hxu104_1, h⟩ := Option.bind_eq_some_iff.mp h
  obtain ⟨r104_2, hxr104_2, h⟩ := Option.bind_eq_some_iff.mp h
  refine gg_cv (as := []) (r := []) aMi100 rfl rfl rfl aMi88 (Nat.le_of_ble_eq_true rfl) rfl (Nat.le_of_ble_eq_true rfl) (Nat.le_of_ble_eq_true rfl) (by omega) hxu104_1 (Tf88 (by omega) a0 I _ hxr104_2) ?_
  show aGo kad d 100 (107, ([(0, .ref a0)], [])) (aMem Z r104_2.2, t) _
  cases h
  exact go_ret aMi100 rfl rfl ⟨rfl, rfl⟩
def f100_b87 (kad : Nat → Nat) (N : Nat) (Z : AZ) (a0 : Nat) (i1 : Int32) (i2 : Int32) (i7 : Int32) (s0 : Int32) (s1 : Nat) (I : AI) : Option (Unit × AI) :=
  (pB Z I 2 5 s1 s0).bind fun I87_1 =>
  if i1 = (11 : Int32) then
    f100_b103 kad N Z a0 I87_1
  else
    (isK Z a0 8).bind fun u100_2 =>
    (f99 kad N Z a0 i2 i7 I87_1).bind fun r100_3 =>
    f100_b103 kad N Z a0 r100_3.2
set_option maxRecDepth 20000 in
theorem Tf100_b87 {kad : Nat → Nat} {N : Nat} {Z : AZ} {d : Nat} {t : Option Nat × (Nat × Nat)} (hd : 1 ≤ d) : ∀ (a0 : Nat) (i1 : Int32) (i2 : Int32) (i7 : Int32) (s0 : Int32) (s1 : Nat) (I : AI) (r : Unit × AI), f100_b87 kad N Z a0 i1 i2 i7 s0 s1 I = some r → aGo kad d 100 (87, ([(0, .ref a0), (1, .int i1), (2, .int i2), (7, .int i7)], [.int s0, .ref s1])) (aMem Z I, t) (qV Z t r) := by
  intro a0 i1 i2 i7 s0 s1 I r h
  unfold f100_b87 at h
  obtain ⟨I87_1, hxI87_1, h⟩ := Option.bind_eq_some_iff.mp h
  refine gg_pB aMi100 rfl rfl rfl rfl (by decide) hxI87_1 ?_
  refine go_ops aMi100 2 _ (f1 := (93, ([(0, .ref a0), (1, .int i1), (2, .int i2), (7, .int i7)], [.int (11 : Int32), .int i1]))) rfl ?_
  refine gg_br (b := decide (i1 = (11 : Int32))) (tg := 103) (off := 10) aMi100 rfl rfl rfl rfl (fun hb => ?_) (fun hb => ?_)
  · rw [if_pos (of_decide_eq_true hb)] at h
    refine go_le (lv1 := [(0, .ref a0)]) (aLe_of (show (List.map (fun q => q.1) ([(0, .ref a0)] : ALv)).Nodup from (by show ([0] : List Nat).Nodup; decide)) (aSubL_cons rfl aSubL_nil)) ?_
    exact Tf100_b103 hd a0 I87_1 _ h
  · rw [if_neg (of_decide_eq_false hb)] at h
    refine go_ops aMi100 3 _ (f1 := (100, ([(0, .ref a0), (1, .int i1), (2, .int i2), (7, .int i7)], [.int i7, .int i2, .ref a0]))) rfl ?_
    obtain ⟨u100_2, hxu100_2, h⟩ := Option.bind_eq_some_iff.mp h
    obtain ⟨r100_3, hxr100_3, h⟩ := Option.bind_eq_some_iff.mp h
    refine gg_cv (as := [.int i2, .int i7]) (r := []) aMi100 rfl rfl rfl aMi99 (Nat.le_of_ble_eq_true rfl) rfl (Nat.le_of_ble_eq_true rfl) (Nat.le_of_ble_eq_true rfl) (by omega) hxu100_2 (Tf99 (by omega) a0 i2 i7 I87_1 _ hxr100_3) ?_
    show aGo kad d 100 (103, ([(0, .ref a0), (1, .int i1), (2, .int i2), (7, .int i7)], [])) (aMem Z r100_3.2, t) _
    refine go_le (lv1 := [(0, .ref a0)]) (aLe_of (show (List.map (fun q => q.1) ([(0, .ref a0)] : ALv)).Nodup from (by show ([0] : List Nat).Nodup; decide)) (aSubL_cons rfl aSubL_nil)) ?_
    exact Tf100_b103 hd a0 r100_3.2 _ h
def f100_b70 (kad : Nat → Nat) (N : Nat) (Z : AZ) (a0 : Nat) (i1 : Int32) (i2 : Int32) (i7 : Int32) (s0 : Int32) (s1 : Nat) (I : AI) : Option (Unit × AI) :=
  (pB Z I 2 6 s1 s0).bind fun I70_1 =>
  (gR Z I70_1 8 0 a0).bind fun b74_2 =>
  if ¬ i7 = 0 then
    f100_b87 kad N Z a0 i1 i2 i7 (0 : Int32) b74_2 I70_1
  else
    f100_b87 kad N Z a0 i1 i2 i7 (1 : Int32) b74_2 I70_1
set_option maxRecDepth 20000 in
theorem Tf100_b70 {kad : Nat → Nat} {N : Nat} {Z : AZ} {d : Nat} {t : Option Nat × (Nat × Nat)} (hd : 1 ≤ d) : ∀ (a0 : Nat) (i1 : Int32) (i2 : Int32) (i7 : Int32) (s0 : Int32) (s1 : Nat) (I : AI) (r : Unit × AI), f100_b70 kad N Z a0 i1 i2 i7 s0 s1 I = some r → aGo kad d 100 (70, ([(0, .ref a0), (1, .int i1), (2, .int i2), (7, .int i7)], [.int s0, .ref s1])) (aMem Z I, t) (qV Z t r) := by
  intro a0 i1 i2 i7 s0 s1 I r h
  unfold f100_b70 at h
  obtain ⟨I70_1, hxI70_1, h⟩ := Option.bind_eq_some_iff.mp h
  refine gg_pB aMi100 rfl rfl rfl rfl (by decide) hxI70_1 ?_
  refine go_ops aMi100 1 _ (f1 := (74, ([(0, .ref a0), (1, .int i1), (2, .int i2), (7, .int i7)], [.ref a0]))) rfl ?_
  obtain ⟨b74_2, hxb74_2, h⟩ := Option.bind_eq_some_iff.mp h
  refine gg_gR aMi100 rfl rfl rfl hxb74_2 ?_
  refine go_ops aMi100 1 _ (f1 := (79, ([(0, .ref a0), (1, .int i1), (2, .int i2), (7, .int i7)], [.int i7, .ref b74_2]))) rfl ?_
  refine gg_br (b := decide (¬ i7 = 0)) (tg := 86) (off := 7) aMi100 rfl rfl rfl rfl (fun hb => ?_) (fun hb => ?_)
  · rw [if_pos (of_decide_eq_true hb)] at h
    refine go_ops aMi100 1 _ (f1 := (87, ([(0, .ref a0), (1, .int i1), (2, .int i2), (7, .int i7)], [.int (0 : Int32), .ref b74_2]))) rfl ?_
    exact Tf100_b87 hd a0 i1 i2 i7 (0 : Int32) b74_2 I70_1 _ h
  · rw [if_neg (of_decide_eq_false hb)] at h
    refine go_ops aMi100 2 _ (f1 := (87, ([(0, .ref a0), (1, .int i1), (2, .int i2), (7, .int i7)], [.int (1 : Int32), .ref b74_2]))) rfl ?_
    exact Tf100_b87 hd a0 i1 i2 i7 (1 : Int32) b74_2 I70_1 _ h
def f100_b65 (kad : Nat → Nat) (N : Nat) (Z : AZ) (a0 : Nat) (i1 : Int32) (i2 : Int32) (i7 : Int32) (s0 : Nat) (I : AI) : Option (Unit × AI) :=
  f100_b70 kad N Z a0 i1 i2 i7 (1 : Int32) s0 I
set_option maxRecDepth 20000 in
theorem Tf100_b65 {kad : Nat → Nat} {N : Nat} {Z : AZ} {d : Nat} {t : Option Nat × (Nat × Nat)} (hd : 1 ≤ d) : ∀ (a0 : Nat) (i1 : Int32) (i2 : Int32) (i7 : Int32) (s0 : Nat) (I : AI) (r : Unit × AI), f100_b65 kad N Z a0 i1 i2 i7 s0 I = some r → aGo kad d 100 (65, ([(0, .ref a0), (1, .int i1), (2, .int i2), (7, .int i7)], [.ref s0])) (aMem Z I, t) (qV Z t r) := by
  intro a0 i1 i2 i7 s0 I r h
  unfold f100_b65 at h
  refine go_ops aMi100 2 _ (f1 := (70, ([(0, .ref a0), (1, .int i1), (2, .int i2), (7, .int i7)], [.int (1 : Int32), .ref s0]))) rfl ?_
  exact Tf100_b70 hd a0 i1 i2 i7 (1 : Int32) s0 I _ h
def f100_b69 (kad : Nat → Nat) (N : Nat) (Z : AZ) (a0 : Nat) (i1 : Int32) (i2 : Int32) (i7 : Int32) (s0 : Nat) (I : AI) : Option (Unit × AI) :=
  f100_b70 kad N Z a0 i1 i2 i7 (0 : Int32) s0 I
set_option maxRecDepth 20000 in
theorem Tf100_b69 {kad : Nat → Nat} {N : Nat} {Z : AZ} {d : Nat} {t : Option Nat × (Nat × Nat)} (hd : 1 ≤ d) : ∀ (a0 : Nat) (i1 : Int32) (i2 : Int32) (i7 : Int32) (s0 : Nat) (I : AI) (r : Unit × AI), f100_b69 kad N Z a0 i1 i2 i7 s0 I = some r → aGo kad d 100 (69, ([(0, .ref a0), (1, .int i1), (2, .int i2), (7, .int i7)], [.ref s0])) (aMem Z I, t) (qV Z t r) := by
  intro a0 i1 i2 i7 s0 I r h
  unfold f100_b69 at h
  refine go_ops aMi100 1 _ (f1 := (70, ([(0, .ref a0), (1, .int i1), (2, .int i2), (7, .int i7)], [.int (0 : Int32), .ref s0]))) rfl ?_
  exact Tf100_b70 hd a0 i1 i2 i7 (0 : Int32) s0 I _ h
def f100_b29 (kad : Nat → Nat) (N : Nat) (Z : AZ) (a0 : Nat) (i1 : Int32) (i2 : Int32) (l4 : Int64) (s0 : Int32) (I : AI) : Option (Unit × AI) :=
  (gR Z I 8 0 a0).bind fun b41_1 =>
  if ¬ s0 = 0 then
    f100_b69 kad N Z a0 i1 i2 ((l4 &&& (65535 : Int64)).toInt32) b41_1 I
  else
    if (lg_cmp l4 (0 : Int64)) < 0 then
      f100_b65 kad N Z a0 i1 i2 ((l4 &&& (65535 : Int64)).toInt32) b41_1 I
    else
      if (lg_cmp l4 (65535 : Int64)) ≤ 0 then
        f100_b69 kad N Z a0 i1 i2 ((l4 &&& (65535 : Int64)).toInt32) b41_1 I
      else
        f100_b65 kad N Z a0 i1 i2 ((l4 &&& (65535 : Int64)).toInt32) b41_1 I
set_option maxRecDepth 20000 in
theorem Tf100_b29 {kad : Nat → Nat} {N : Nat} {Z : AZ} {d : Nat} {t : Option Nat × (Nat × Nat)} (hd : 1 ≤ d) : ∀ (a0 : Nat) (i1 : Int32) (i2 : Int32) (l4 : Int64) (s0 : Int32) (I : AI) (r : Unit × AI), f100_b29 kad N Z a0 i1 i2 l4 s0 I = some r → aGo kad d 100 (29, ([(0, .ref a0), (1, .int i1), (2, .int i2), (4, .long l4)], [.int s0])) (aMem Z I, t) (qV Z t r) := by
  intro a0 i1 i2 l4 s0 I r h
  unfold f100_b29 at h
  refine go_ops aMi100 2 _ (f1 := (33, ([(6, .int s0), (0, .ref a0), (1, .int i1), (2, .int i2), (4, .long l4)], [.long l4]))) rfl ?_
  refine gg_kL aMi100 rfl rfl ?_
  refine go_ops aMi100 4 _ (f1 := (41, ([(7, .int ((l4 &&& (65535 : Int64)).toInt32)), (6, .int s0), (0, .ref a0), (1, .int i1), (2, .int i2), (4, .long l4)], [.ref a0]))) rfl ?_
  obtain ⟨b41_1, hxb41_1, h⟩ := Option.bind_eq_some_iff.mp h
  refine gg_gR aMi100 rfl rfl rfl hxb41_1 ?_
  refine go_ops aMi100 1 _ (f1 := (46, ([(7, .int ((l4 &&& (65535 : Int64)).toInt32)), (6, .int s0), (0, .ref a0), (1, .int i1), (2, .int i2), (4, .long l4)], [.int s0, .ref b41_1]))) rfl ?_
  refine gg_br (b := decide (¬ s0 = 0)) (tg := 69) (off := 23) aMi100 rfl rfl rfl rfl (fun hb => ?_) (fun hb => ?_)
  · rw [if_pos (of_decide_eq_true hb)] at h
    refine go_le (lv1 := [(0, .ref a0), (1, .int i1), (2, .int i2), (7, .int ((l4 &&& (65535 : Int64)).toInt32))]) (aLe_of (show (List.map (fun q => q.1) ([(0, .ref a0), (1, .int i1), (2, .int i2), (7, .int ((l4 &&& (65535 : Int64)).toInt32))] : ALv)).Nodup from (by show ([0, 1, 2, 7] : List Nat).Nodup; decide)) (aSubL_cons rfl (aSubL_cons rfl (aSubL_cons rfl (aSubL_cons rfl aSubL_nil))))) ?_
    exact Tf100_b69 hd a0 i1 i2 ((l4 &&& (65535 : Int64)).toInt32) b41_1 I _ h
  · rw [if_neg (of_decide_eq_false hb)] at h
    refine go_ops aMi100 3 _ (f1 := (53, ([(7, .int ((l4 &&& (65535 : Int64)).toInt32)), (6, .int s0), (0, .ref a0), (1, .int i1), (2, .int i2), (4, .long l4)], [.int (lg_cmp l4 (0 : Int64)), .ref b41_1]))) rfl ?_
    refine gg_br (b := decide ((lg_cmp l4 (0 : Int64)) < 0)) (tg := 65) (off := 12) aMi100 rfl rfl rfl rfl (fun hb => ?_) (fun hb => ?_)
    · rw [if_pos (of_decide_eq_true hb)] at h
      refine go_le (lv1 := [(0, .ref a0), (1, .int i1), (2, .int i2), (7, .int ((l4 &&& (65535 : Int64)).toInt32))]) (aLe_of (show (List.map (fun q => q.1) ([(0, .ref a0), (1, .int i1), (2, .int i2), (7, .int ((l4 &&& (65535 : Int64)).toInt32))] : ALv)).Nodup from (by show ([0, 1, 2, 7] : List Nat).Nodup; decide)) (aSubL_cons rfl (aSubL_cons rfl (aSubL_cons rfl (aSubL_cons rfl aSubL_nil))))) ?_
      exact Tf100_b65 hd a0 i1 i2 ((l4 &&& (65535 : Int64)).toInt32) b41_1 I _ h
    · rw [if_neg (of_decide_eq_false hb)] at h
      refine go_ops aMi100 1 _ (f1 := (58, ([(7, .int ((l4 &&& (65535 : Int64)).toInt32)), (6, .int s0), (0, .ref a0), (1, .int i1), (2, .int i2), (4, .long l4)], [.long l4, .ref b41_1]))) rfl ?_
      refine gg_kL aMi100 rfl rfl ?_
      refine go_ops aMi100 1 _ (f1 := (62, ([(7, .int ((l4 &&& (65535 : Int64)).toInt32)), (6, .int s0), (0, .ref a0), (1, .int i1), (2, .int i2), (4, .long l4)], [.int (lg_cmp l4 (65535 : Int64)), .ref b41_1]))) rfl ?_
      refine gg_br (b := decide ((lg_cmp l4 (65535 : Int64)) ≤ 0)) (tg := 69) (off := 7) aMi100 rfl rfl rfl rfl (fun hb => ?_) (fun hb => ?_)
      · rw [if_pos (of_decide_eq_true hb)] at h
        refine go_le (lv1 := [(0, .ref a0), (1, .int i1), (2, .int i2), (7, .int ((l4 &&& (65535 : Int64)).toInt32))]) (aLe_of (show (List.map (fun q => q.1) ([(0, .ref a0), (1, .int i1), (2, .int i2), (7, .int ((l4 &&& (65535 : Int64)).toInt32))] : ALv)).Nodup from (by show ([0, 1, 2, 7] : List Nat).Nodup; decide)) (aSubL_cons rfl (aSubL_cons rfl (aSubL_cons rfl (aSubL_cons rfl aSubL_nil))))) ?_
        exact Tf100_b69 hd a0 i1 i2 ((l4 &&& (65535 : Int64)).toInt32) b41_1 I _ h
      · rw [if_neg (of_decide_eq_false hb)] at h
        refine go_le (lv1 := [(0, .ref a0), (1, .int i1), (2, .int i2), (7, .int ((l4 &&& (65535 : Int64)).toInt32))]) (aLe_of (show (List.map (fun q => q.1) ([(0, .ref a0), (1, .int i1), (2, .int i2), (7, .int ((l4 &&& (65535 : Int64)).toInt32))] : ALv)).Nodup from (by show ([0, 1, 2, 7] : List Nat).Nodup; decide)) (aSubL_cons rfl (aSubL_cons rfl (aSubL_cons rfl (aSubL_cons rfl aSubL_nil))))) ?_
        exact Tf100_b65 hd a0 i1 i2 ((l4 &&& (65535 : Int64)).toInt32) b41_1 I _ h
def f100_b28 (kad : Nat → Nat) (N : Nat) (Z : AZ) (a0 : Nat) (i1 : Int32) (i2 : Int32) (l4 : Int64) (I : AI) : Option (Unit × AI) :=
  f100_b29 kad N Z a0 i1 i2 l4 (0 : Int32) I
set_option maxRecDepth 20000 in
theorem Tf100_b28 {kad : Nat → Nat} {N : Nat} {Z : AZ} {d : Nat} {t : Option Nat × (Nat × Nat)} (hd : 1 ≤ d) : ∀ (a0 : Nat) (i1 : Int32) (i2 : Int32) (l4 : Int64) (I : AI) (r : Unit × AI), f100_b28 kad N Z a0 i1 i2 l4 I = some r → aGo kad d 100 (28, ([(0, .ref a0), (1, .int i1), (2, .int i2), (4, .long l4)], [])) (aMem Z I, t) (qV Z t r) := by
  intro a0 i1 i2 l4 I r h
  unfold f100_b28 at h
  refine go_ops aMi100 1 _ (f1 := (29, ([(0, .ref a0), (1, .int i1), (2, .int i2), (4, .long l4)], [.int (0 : Int32)]))) rfl ?_
  exact Tf100_b29 hd a0 i1 i2 l4 (0 : Int32) I _ h
def f100 (kad : Nat → Nat) (N : Nat) (Z : AZ) (a0 : Nat) (i1 : Int32) (i2 : Int32) (i3 : Int32) (I : AI) : Option (Unit × AI) :=
  (isK Z a0 8).bind fun u3_1 =>
  (f98 kad N Z a0 i2 I).bind fun r3_2 =>
  (f101 kad N Z i1 r3_2.1 i3 r3_2.2).bind fun r7_3 =>
  if i1 < (7 : Int32) then
    f100_b28 kad N Z a0 i1 i2 r7_3.1 r7_3.2
  else
    if (10 : Int32) < i1 then
      f100_b28 kad N Z a0 i1 i2 r7_3.1 r7_3.2
    else
      f100_b29 kad N Z a0 i1 i2 r7_3.1 (1 : Int32) r7_3.2
set_option maxRecDepth 20000 in
theorem Tf100 {kad : Nat → Nat} {N : Nat} {Z : AZ} {d : Nat} {t : Option Nat × (Nat × Nat)} (hd : 1 ≤ d) : ∀ (a0 : Nat) (i1 : Int32) (i2 : Int32) (i3 : Int32) (I : AI) (r : Unit × AI), f100 kad N Z a0 i1 i2 i3 I = some r → aGo kad d 100 (0, ([(0, .ref a0), (1, .int i1), (2, .int i2), (3, .int i3)], [])) (aMem Z I, t) (qV Z t r) := by
  intro a0 i1 i2 i3 I r h
  unfold f100 at h
  refine go_ops aMi100 3 _ (f1 := (3, ([(0, .ref a0), (1, .int i1), (2, .int i2), (3, .int i3)], [.int i2, .ref a0, .int i1]))) rfl ?_
  obtain ⟨u3_1, hxu3_1, h⟩ := Option.bind_eq_some_iff.mp h
  obtain ⟨r3_2, hxr3_2, h⟩ := Option.bind_eq_some_iff.mp h
  refine gg_cv (as := [.int i2]) (r := [.int i1]) aMi100 rfl rfl rfl aMi98 (Nat.le_of_ble_eq_true rfl) rfl (Nat.le_of_ble_eq_true rfl) (Nat.le_of_ble_eq_true rfl) (by omega) hxu3_1 (Tf98 (by omega) a0 i2 I _ hxr3_2) ?_
  show aGo kad d 100 (6, ([(0, .ref a0), (1, .int i1), (2, .int i2), (3, .int i3)], [.int r3_2.1, .int i1])) (aMem Z r3_2.2, t) _
  refine go_ops aMi100 1 _ (f1 := (7, ([(0, .ref a0), (1, .int i1), (2, .int i2), (3, .int i3)], [.int i3, .int r3_2.1, .int i1]))) rfl ?_
  obtain ⟨r7_3, hxr7_3, h⟩ := Option.bind_eq_some_iff.mp h
  refine gg_cs (as := [.int i1, .int r3_2.1, .int i3]) (r := []) aMi100 rfl rfl rfl aMi101 rfl (Nat.le_of_ble_eq_true rfl) (Nat.le_of_ble_eq_true rfl) (by omega) (Tf101 (by omega) i1 r3_2.1 i3 r3_2.2 _ hxr7_3) ?_
  show aGo kad d 100 (10, ([(0, .ref a0), (1, .int i1), (2, .int i2), (3, .int i3)], [.long r7_3.1])) (aMem Z r7_3.2, t) _
  refine go_ops aMi100 3 _ (f1 := (15, ([(4, .long r7_3.1), (0, .ref a0), (1, .int i1), (2, .int i2), (3, .int i3)], [.int (7 : Int32), .int i1]))) rfl ?_
  refine gg_br (b := decide (i1 < (7 : Int32))) (tg := 28) (off := 13) aMi100 rfl rfl rfl rfl (fun hb => ?_) (fun hb => ?_)
  · rw [if_pos (of_decide_eq_true hb)] at h
    refine go_le (lv1 := [(0, .ref a0), (1, .int i1), (2, .int i2), (4, .long r7_3.1)]) (aLe_of (show (List.map (fun q => q.1) ([(0, .ref a0), (1, .int i1), (2, .int i2), (4, .long r7_3.1)] : ALv)).Nodup from (by show ([0, 1, 2, 4] : List Nat).Nodup; decide)) (aSubL_cons rfl (aSubL_cons rfl (aSubL_cons rfl (aSubL_cons rfl aSubL_nil))))) ?_
    exact Tf100_b28 hd a0 i1 i2 r7_3.1 r7_3.2 _ h
  · rw [if_neg (of_decide_eq_false hb)] at h
    refine go_ops aMi100 2 _ (f1 := (21, ([(4, .long r7_3.1), (0, .ref a0), (1, .int i1), (2, .int i2), (3, .int i3)], [.int (10 : Int32), .int i1]))) rfl ?_
    refine gg_br (b := decide ((10 : Int32) < i1)) (tg := 28) (off := 7) aMi100 rfl rfl rfl rfl (fun hb => ?_) (fun hb => ?_)
    · rw [if_pos (of_decide_eq_true hb)] at h
      refine go_le (lv1 := [(0, .ref a0), (1, .int i1), (2, .int i2), (4, .long r7_3.1)]) (aLe_of (show (List.map (fun q => q.1) ([(0, .ref a0), (1, .int i1), (2, .int i2), (4, .long r7_3.1)] : ALv)).Nodup from (by show ([0, 1, 2, 4] : List Nat).Nodup; decide)) (aSubL_cons rfl (aSubL_cons rfl (aSubL_cons rfl (aSubL_cons rfl aSubL_nil))))) ?_
      exact Tf100_b28 hd a0 i1 i2 r7_3.1 r7_3.2 _ h
    · rw [if_neg (of_decide_eq_false hb)] at h
      refine go_ops aMi100 2 _ (f1 := (29, ([(4, .long r7_3.1), (0, .ref a0), (1, .int i1), (2, .int i2), (3, .int i3)], [.int (1 : Int32)]))) rfl ?_
      refine go_le (lv1 := [(0, .ref a0), (1, .int i1), (2, .int i2), (4, .long r7_3.1)]) (aLe_of (show (List.map (fun q => q.1) ([(0, .ref a0), (1, .int i1), (2, .int i2), (4, .long r7_3.1)] : ALv)).Nodup from (by show ([0, 1, 2, 4] : List Nat).Nodup; decide)) (aSubL_cons rfl (aSubL_cons rfl (aSubL_cons rfl (aSubL_cons rfl aSubL_nil))))) ?_
      exact Tf100_b29 hd a0 i1 i2 r7_3.1 (1 : Int32) r7_3.2 _ h
