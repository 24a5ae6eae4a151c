-- KernelGym$Machine.move (III)V
def f97_b84 (kad : Nat → Nat) (N : Nat) (Z : AZ)  (I : AI) : Option (Unit × AI) :=
  some ((), I)
set_option maxRecDepth 20000 in
theorem Tf97_b84 {kad : Nat → Nat} {N : Nat} {Z : AZ} {d : Nat} {t : Option Nat × (Nat × Nat)} (hd : 2 ≤ d) : ∀  (I : AI) (r : Unit × AI), f97_b84 kad N Z  I = some r → aGo kad d 97 (84, ([], [])) (aMem Z I, t) (qV Z t r) := by
  intro  I r h
  unfold f97_b84 at h
  cases h
  exact go_ret aMi97 rfl rfl ⟨rfl, rfl⟩
def f97 (kad : Nat → Nat) (N : Nat) (Z : AZ) (a0 : Nat) (i1 : Int32) (i2 : Int32) (i3 : Int32) (I : AI) : Option (Unit × AI) :=
  if ¬ i1 = 0 then
    if ¬ i1 = (1 : Int32) then
      if i3 < (256 : Int32) then
        if ¬ i1 = (2 : Int32) then
          (isK Z a0 8).bind fun u74_1 =>
          (f98 kad N Z a0 i2 I).bind fun r74_2 =>
          (isK Z a0 8).bind fun u77_3 =>
          (f90 kad N Z a0 i3 r74_2.1 r74_2.2).bind fun r77_4 =>
          (isK Z a0 8).bind fun u81_5 =>
          (f88 kad N Z a0 r77_4.2).bind fun r81_6 =>
          f97_b84 kad N Z  r81_6.2
        else
          (isK Z a0 8).bind fun u57_7 =>
          (f89 kad N Z a0 i3 I).bind fun r57_8 =>
          (isK Z a0 8).bind fun u60_9 =>
          (f99 kad N Z a0 i2 r57_8.1 r57_8.2).bind fun r60_10 =>
          (isK Z a0 8).bind fun u64_11 =>
          (f88 kad N Z a0 r60_10.2).bind fun r64_12 =>
          f97_b84 kad N Z  r64_12.2
      else
        (isK Z a0 8).bind fun u42_13 =>
        (f87 kad N Z a0 (1 : Int32) I).bind fun r42_14 =>
        f97_b84 kad N Z  r42_14.2
    else
      (isK Z a0 8).bind fun u23_15 =>
      (f99 kad N Z a0 i2 i3 I).bind fun r23_16 =>
      (isK Z a0 8).bind fun u27_17 =>
      (f88 kad N Z a0 r23_16.2).bind fun r27_18 =>
      f97_b84 kad N Z  r27_18.2
  else
    (gR Z I 8 0 a0).bind fun b5_19 =>
    (pI Z I 2 0 b5_19 (2 : Int32)).bind fun I9_20 =>
    f97_b84 kad N Z  I9_20
set_option maxRecDepth 20000 in
theorem Tf97 {kad : Nat → Nat} {N : Nat} {Z : AZ} {d : Nat} {t : Option Nat × (Nat × Nat)} (hd : 2 ≤ d) : ∀ (a0 : Nat) (i1 : Int32) (i2 : Int32) (i3 : Int32) (I : AI) (r : Unit × AI), f97 kad N Z a0 i1 i2 i3 I = some r → aGo kad d 97 (0, ([(0, .ref a0), (1, .int i1), (2, .int i2), (3, .int i3)], [])) (aMem Z I, t) (qV Z t r) := by
  intro a0 i1 i2 i3 I r h
  unfold f97 at h
  refine go_ops aMi97 1 _ (f1 := (1, ([(0, .ref a0), (1, .int i1), (2, .int i2), (3, .int i3)], [.int i1]))) rfl ?_
  refine gg_br (b := decide (¬ i1 = 0)) (tg := 15) (off := 14) aMi97 rfl rfl rfl rfl (fun hb => ?_) (fun hb => ?_)
  · rw [if_pos (of_decide_eq_true hb)] at h
    refine go_ops aMi97 2 _ (f1 := (17, ([(0, .ref a0), (1, .int i1), (2, .int i2), (3, .int i3)], [.int (1 : Int32), .int i1]))) rfl ?_
    refine gg_br (b := decide (¬ i1 = (1 : Int32))) (tg := 33) (off := 16) aMi97 rfl rfl rfl rfl (fun hb => ?_) (fun hb => ?_)
    · rw [if_pos (of_decide_eq_true hb)] at h
      refine go_ops aMi97 2 _ (f1 := (37, ([(0, .ref a0), (1, .int i1), (2, .int i2), (3, .int i3)], [.int (256 : Int32), .int i3]))) rfl ?_
      refine gg_br (b := decide (i3 < (256 : Int32))) (tg := 48) (off := 11) aMi97 rfl rfl rfl rfl (fun hb => ?_) (fun hb => ?_)
      · rw [if_pos (of_decide_eq_true hb)] at h
        refine go_ops aMi97 2 _ (f1 := (50, ([(0, .ref a0), (1, .int i1), (2, .int i2), (3, .int i3)], [.int (2 : Int32), .int i1]))) rfl ?_
        refine gg_br (b := decide (¬ i1 = (2 : Int32))) (tg := 70) (off := 20) aMi97 rfl rfl rfl rfl (fun hb => ?_) (fun hb => ?_)
        · rw [if_pos (of_decide_eq_true hb)] at h
          refine go_ops aMi97 4 _ (f1 := (74, ([(0, .ref a0), (1, .int i1), (2, .int i2), (3, .int i3)], [.int i2, .ref a0, .int i3, .ref a0]))) rfl ?_
          obtain ⟨u74_1, hxu74_1, h⟩ := Option.bind_eq_some_iff.mp h
          obtain ⟨r74_2, hxr74_2, h⟩ := Option.bind_eq_some_iff.mp h
          refine gg_cv (as := [.int i2]) (r := [.int i3, .ref a0]) aMi97 rfl rfl rfl aMi98 (Nat.le_of_ble_eq_true rfl) rfl (Nat.le_of_ble_eq_true rfl) (Nat.le_of_ble_eq_true rfl) (by omega) hxu74_1 (Tf98 (by omega) a0 i2 I _ hxr74_2) ?_
          show aGo kad d 97 (77, ([(0, .ref a0), (1, .int i1), (2, .int i2), (3, .int i3)], [.int r74_2.1, .int i3, .ref a0])) (aMem Z r74_2.2, t) _
          obtain ⟨u77_3, hxu77_3, h⟩ := Option.bind_eq_some_iff.mp h
          obtain ⟨r77_4, hxr77_4, h⟩ := Option.bind_eq_some_iff.mp h
          refine gg_cv (as := [.int i3, .int r74_2.1]) (r := []) aMi97 rfl rfl rfl aMi90 (Nat.le_of_ble_eq_true rfl) rfl (Nat.le_of_ble_eq_true rfl) (Nat.le_of_ble_eq_true rfl) (by omega) hxu77_3 (Tf90 (by omega) a0 i3 r74_2.1 r74_2.2 _ hxr77_4) ?_
          show aGo kad d 97 (80, ([(0, .ref a0), (1, .int i1), (2, .int i2), (3, .int i3)], [])) (aMem Z r77_4.2, t) _
          refine go_ops aMi97 1 _ (f1 := (81, ([(0, .ref a0), (1, .int i1), (2, .int i2), (3, .int i3)], [.ref a0]))) rfl ?_
          obtain ⟨u81_5, hxu81_5, h⟩ := Option.bind_eq_some_iff.mp h
          obtain ⟨r81_6, hxr81_6, h⟩ := Option.bind_eq_some_iff.mp h
          refine gg_cv (as := []) (r := []) aMi97 rfl rfl rfl aMi88 (Nat.le_of_ble_eq_true rfl) rfl (Nat.le_of_ble_eq_true rfl) (Nat.le_of_ble_eq_true rfl) (by omega) hxu81_5 (Tf88 (by omega) a0 r77_4.2 _ hxr81_6) ?_
          show aGo kad d 97 (84, ([(0, .ref a0), (1, .int i1), (2, .int i2), (3, .int i3)], [])) (aMem Z r81_6.2, t) _
          refine go_le (lv1 := []) (aLe_of (show (List.map (fun q => q.1) ([] : ALv)).Nodup from (by show ([] : List Nat).Nodup; decide)) aSubL_nil) ?_
          exact Tf97_b84 hd  r81_6.2 _ h
        · rw [if_neg (of_decide_eq_false hb)] at h
          refine go_ops aMi97 4 _ (f1 := (57, ([(0, .ref a0), (1, .int i1), (2, .int i2), (3, .int i3)], [.int i3, .ref a0, .int i2, .ref a0]))) rfl ?_
          obtain ⟨u57_7, hxu57_7, h⟩ := Option.bind_eq_some_iff.mp h
          obtain ⟨r57_8, hxr57_8, h⟩ := Option.bind_eq_some_iff.mp h
          refine gg_cv (as := [.int i3]) (r := [.int i2, .ref a0]) aMi97 rfl rfl rfl aMi89 (Nat.le_of_ble_eq_true rfl) rfl (Nat.le_of_ble_eq_true rfl) (Nat.le_of_ble_eq_true rfl) (by omega) hxu57_7 (Tf89 (by omega) a0 i3 I _ hxr57_8) ?_
          show aGo kad d 97 (60, ([(0, .ref a0), (1, .int i1), (2, .int i2), (3, .int i3)], [.int r57_8.1, .int i2, .ref a0])) (aMem Z r57_8.2, t) _
          obtain ⟨u60_9, hxu60_9, h⟩ := Option.bind_eq_some_iff.mp h
          obtain ⟨r60_10, hxr60_10, h⟩ := Option.bind_eq_some_iff.mp h
          refine gg_cv (as := [.int i2, .int r57_8.1]) (r := []) aMi97 rfl rfl rfl aMi99 (Nat.le_of_ble_eq_true rfl) rfl (Nat.le_of_ble_eq_true rfl) (Nat.le_of_ble_eq_true rfl) (by omega) hxu60_9 (Tf99 (by omega) a0 i2 r57_8.1 r57_8.2 _ hxr60_10) ?_
          show aGo kad d 97 (63, ([(0, .ref a0), (1, .int i1), (2, .int i2), (3, .int i3)], [])) (aMem Z r60_10.2, t) _
          refine go_ops aMi97 1 _ (f1 := (64, ([(0, .ref a0), (1, .int i1), (2, .int i2), (3, .int i3)], [.ref a0]))) rfl ?_
          obtain ⟨u64_11, hxu64_11, h⟩ := Option.bind_eq_some_iff.mp h
          obtain ⟨r64_12, hxr64_12, h⟩ := Option.bind_eq_some_iff.mp h
          refine gg_cv (as := []) (r := []) aMi97 rfl rfl rfl aMi88 (Nat.le_of_ble_eq_true rfl) rfl (Nat.le_of_ble_eq_true rfl) (Nat.le_of_ble_eq_true rfl) (by omega) hxu64_11 (Tf88 (by omega) a0 r60_10.2 _ hxr64_12) ?_
          show aGo kad d 97 (67, ([(0, .ref a0), (1, .int i1), (2, .int i2), (3, .int i3)], [])) (aMem Z r64_12.2, t) _
          refine go_ops aMi97 1 _ (f1 := (84, ([(0, .ref a0), (1, .int i1), (2, .int i2), (3, .int i3)], []))) rfl ?_
          refine go_le (lv1 := []) (aLe_of (show (List.map (fun q => q.1) ([] : ALv)).Nodup from (by show ([] : List Nat).Nodup; decide)) aSubL_nil) ?_
          exact Tf97_b84 hd  r64_12.2 _ h
      · rw [if_neg (of_decide_eq_false hb)] at h
        refine go_ops aMi97 2 _ (f1 := (42, ([(0, .ref a0), (1, .int i1), (2, .int i2), (3, .int i3)], [.int (1 : Int32), .ref a0]))) rfl ?_
        obtain ⟨u42_13, hxu42_13, h⟩ := Option.bind_eq_some_iff.mp h
        obtain ⟨r42_14, hxr42_14, h⟩ := Option.bind_eq_some_iff.mp h
        refine gg_cv (as := [.int (1 : Int32)]) (r := []) aMi97 rfl rfl rfl aMi87 (Nat.le_of_ble_eq_true rfl) rfl (Nat.le_of_ble_eq_true rfl) (Nat.le_of_ble_eq_true rfl) (by omega) hxu42_13 (Tf87 (by omega) a0 (1 : Int32) I _ hxr42_14) ?_
        show aGo kad d 97 (45, ([(0, .ref a0), (1, .int i1), (2, .int i2), (3, .int i3)], [])) (aMem Z r42_14.2, t) _
        refine go_ops aMi97 1 _ (f1 := (84, ([(0, .ref a0), (1, .int i1), (2, .int i2), (3, .int i3)], []))) rfl ?_
        refine go_le (lv1 := []) (aLe_of (show (List.map (fun q => q.1) ([] : ALv)).Nodup from (by show ([] : List Nat).Nodup; decide)) aSubL_nil) ?_
        exact Tf97_b84 hd  r42_14.2 _ h
    · rw [if_neg (of_decide_eq_false hb)] at h
      refine go_ops aMi97 3 _ (f1 := (23, ([(0, .ref a0), (1, .int i1), (2, .int i2), (3, .int i3)], [.int i3, .int i2, .ref a0]))) rfl ?_
      obtain ⟨u23_15, hxu23_15, h⟩ := Option.bind_eq_some_iff.mp h
      obtain ⟨r23_16, hxr23_16, h⟩ := Option.bind_eq_some_iff.mp h
      refine gg_cv (as := [.int i2, .int i3]) (r := []) aMi97 rfl rfl rfl aMi99 (Nat.le_of_ble_eq_true rfl) rfl (Nat.le_of_ble_eq_true rfl) (Nat.le_of_ble_eq_true rfl) (by omega) hxu23_15 (Tf99 (by omega) a0 i2 i3 I _ hxr23_16) ?_
      show aGo kad d 97 (26, ([(0, .ref a0), (1, .int i1), (2, .int i2), (3, .int i3)], [])) (aMem Z r23_16.2, t) _
      refine go_ops aMi97 1 _ (f1 := (27, ([(0, .ref a0), (1, .int i1), (2, .int i2), (3, .int i3)], [.ref a0]))) rfl ?_
      obtain ⟨u27_17, hxu27_17, h⟩ := Option.bind_eq_some_iff.mp h
      obtain ⟨r27_18, hxr27_18, h⟩ := Option.bind_eq_some_iff.mp h
      refine gg_cv (as := []) (r := []) aMi97 rfl rfl rfl aMi88 (Nat.le_of_ble_eq_true rfl) rfl (Nat.le_of_ble_eq_true rfl) (Nat.le_of_ble_eq_true rfl) (by omega) hxu27_17 (Tf88 (by omega) a0 r23_16.2 _ hxr27_18) ?_
      show aGo kad d 97 (30, ([(0, .ref a0), (1, .int i1), (2, .int i2), (3, .int i3)], [])) (aMem Z r27_18.2, t) _
      refine go_ops aMi97 1 _ (f1 := (84, ([(0, .ref a0), (1, .int i1), (2, .int i2), (3, .int i3)], []))) rfl ?_
      refine go_le (lv1 := []) (aLe_of (show (List.map (fun q => q.1) ([] : ALv)).Nodup from (by show ([] : List Nat).Nodup; decide)) aSubL_nil) ?_
      exact Tf97_b84 hd  r27_18.2 _ h
  · rw [if_neg (of_decide_eq_false hb)] at h
    refine go_ops aMi97 1 _ (f1 := (5, ([(0, .ref a0), (1, .int i1), (2, .int i2), (3, .int i3)], [.ref a0]))) rfl ?_
    obtain ⟨b5_19, hxb5_19, h⟩ := Option.bind_eq_some_iff.mp h
    refine gg_gR aMi97 rfl rfl rfl hxb5_19 ?_
    refine go_ops aMi97 1 _ (f1 := (9, ([(0, .ref a0), (1, .int i1), (2, .int i2), (3, .int i3)], [.int (2 : Int32), .ref b5_19]))) rfl ?_
    obtain ⟨I9_20, hxI9_20, h⟩ := Option.bind_eq_some_iff.mp h
    refine gg_pI aMi97 rfl rfl rfl rfl (by decide) hxI9_20 ?_
    refine go_ops aMi97 1 _ (f1 := (84, ([(0, .ref a0), (1, .int i1), (2, .int i2), (3, .int i3)], []))) rfl ?_
    refine go_le (lv1 := []) (aLe_of (show (List.map (fun q => q.1) ([] : ALv)).Nodup from (by show ([] : List Nat).Nodup; decide)) aSubL_nil) ?_
    exact Tf97_b84 hd  I9_20 _ h
-- KernelGym$Machine.doInstruction ()V
def f96_b184 (kad : Nat → Nat) (N : Nat) (Z : AZ)  (I : AI) : Option (Unit × AI) :=
  some ((), I)
set_option maxRecDepth 20000 in
theorem Tf96_b184 {kad : Nat → Nat} {N : Nat} {Z : AZ} {d : Nat} {t : Option Nat × (Nat × Nat)} (hd : 8 ≤ d) : ∀  (I : AI) (r : Unit × AI), f96_b184 kad N Z  I = some r → aGo kad d 96 (184, ([], [])) (aMem Z I, t) (qV Z t r) := by
  intro  I r h
  unfold f96_b184 at h
  cases h
  exact go_ret aMi96 rfl rfl ⟨rfl, rfl⟩
def f96_b90 (kad : Nat → Nat) (N : Nat) (Z : AZ) (a0 : Nat) (i3 : Int32) (i4 : Int32) (s0 : Int32) (I : AI) : Option (Unit × AI) :=
  if i3 ≤ (26 : Int32) then
    if i3 < (19 : Int32) then
      if i3 < (15 : Int32) then
        if i3 < (12 : Int32) then
          if i3 < (4 : Int32) then
            (isK Z a0 8).bind fun u181_1 =>
            (f97 kad N Z a0 i3 i4 s0 I).bind fun r181_2 =>
            f96_b184 kad N Z  r181_2.2
          else
            (isK Z a0 8).bind fun u169_3 =>
            (f100 kad N Z a0 i3 i4 s0 I).bind fun r169_4 =>
            f96_b184 kad N Z  r169_4.2
        else
          (isK Z a0 8).bind fun u152_5 =>
          (f102 kad N Z a0 i3 s0 I).bind fun r152_6 =>
          f96_b184 kad N Z  r152_6.2
      else
        (isK Z a0 8).bind fun u136_7 =>
        (f103 kad N Z a0 i3 i4 s0 I).bind fun r136_8 =>
        f96_b184 kad N Z  r136_8.2
    else
      (isK Z a0 8).bind fun u118_9 =>
      (f104 kad N Z a0 i3 i4 s0 I).bind fun r118_10 =>
      f96_b184 kad N Z  r118_10.2
  else
    (isK Z a0 8).bind fun u100_11 =>
    (f87 kad N Z a0 (2 : Int32) I).bind fun r100_12 =>
    f96_b184 kad N Z  r100_12.2
set_option maxRecDepth 20000 in
theorem Tf96_b90 {kad : Nat → Nat} {N : Nat} {Z : AZ} {d : Nat} {t : Option Nat × (Nat × Nat)} (hd : 8 ≤ d) : ∀ (a0 : Nat) (i3 : Int32) (i4 : Int32) (s0 : Int32) (I : AI) (r : Unit × AI), f96_b90 kad N Z a0 i3 i4 s0 I = some r → aGo kad d 96 (90, ([(0, .ref a0), (3, .int i3), (4, .int i4)], [.int s0])) (aMem Z I, t) (qV Z t r) := by
  intro a0 i3 i4 s0 I r h
  unfold f96_b90 at h
  refine go_ops aMi96 3 _ (f1 := (95, ([(6, .int s0), (0, .ref a0), (3, .int i3), (4, .int i4)], [.int (26 : Int32), .int i3]))) rfl ?_
  refine gg_br (b := decide (i3 ≤ (26 : Int32))) (tg := 106) (off := 11) aMi96 rfl rfl rfl rfl (fun hb => ?_) (fun hb => ?_)
  · rw [if_pos (of_decide_eq_true hb)] at h
    refine go_ops aMi96 2 _ (f1 := (109, ([(6, .int s0), (0, .ref a0), (3, .int i3), (4, .int i4)], [.int (19 : Int32), .int i3]))) rfl ?_
    refine gg_br (b := decide (i3 < (19 : Int32))) (tg := 124) (off := 15) aMi96 rfl rfl rfl rfl (fun hb => ?_) (fun hb => ?_)
    · rw [if_pos (of_decide_eq_true hb)] at h
      refine go_ops aMi96 2 _ (f1 := (127, ([(6, .int s0), (0, .ref a0), (3, .int i3), (4, .int i4)], [.int (15 : Int32), .int i3]))) rfl ?_
      refine gg_br (b := decide (i3 < (15 : Int32))) (tg := 142) (off := 15) aMi96 rfl rfl rfl rfl (fun hb => ?_) (fun hb => ?_)
      · rw [if_pos (of_decide_eq_true hb)] at h
        refine go_ops aMi96 2 _ (f1 := (145, ([(6, .int s0), (0, .ref a0), (3, .int i3), (4, .int i4)], [.int (12 : Int32), .int i3]))) rfl ?_
        refine gg_br (b := decide (i3 < (12 : Int32))) (tg := 158) (off := 13) aMi96 rfl rfl rfl rfl (fun hb => ?_) (fun hb => ?_)
        · rw [if_pos (of_decide_eq_true hb)] at h
          refine go_ops aMi96 2 _ (f1 := (160, ([(6, .int s0), (0, .ref a0), (3, .int i3), (4, .int i4)], [.int (4 : Int32), .int i3]))) rfl ?_
          refine gg_br (b := decide (i3 < (4 : Int32))) (tg := 175) (off := 15) aMi96 rfl rfl rfl rfl (fun hb => ?_) (fun hb => ?_)
          · rw [if_pos (of_decide_eq_true hb)] at h
            refine go_ops aMi96 4 _ (f1 := (181, ([(6, .int s0), (0, .ref a0), (3, .int i3), (4, .int i4)], [.int s0, .int i4, .int i3, .ref a0]))) rfl ?_
            obtain ⟨u181_1, hxu181_1, h⟩ := Option.bind_eq_some_iff.mp h
            obtain ⟨r181_2, hxr181_2, h⟩ := Option.bind_eq_some_iff.mp h
            refine gg_cv (as := [.int i3, .int i4, .int s0]) (r := []) aMi96 rfl rfl rfl aMi97 (Nat.le_of_ble_eq_true rfl) rfl (Nat.le_of_ble_eq_true rfl) (Nat.le_of_ble_eq_true rfl) (by omega) hxu181_1 (Tf97 (by omega) a0 i3 i4 s0 I _ hxr181_2) ?_
            show aGo kad d 96 (184, ([(6, .int s0), (0, .ref a0), (3, .int i3), (4, .int i4)], [])) (aMem Z r181_2.2, t) _
            refine go_le (lv1 := []) (aLe_of (show (List.map (fun q => q.1) ([] : ALv)).Nodup from (by show ([] : List Nat).Nodup; decide)) aSubL_nil) ?_
            exact Tf96_b184 hd  r181_2.2 _ h
          · rw [if_neg (of_decide_eq_false hb)] at h
            refine go_ops aMi96 4 _ (f1 := (169, ([(6, .int s0), (0, .ref a0), (3, .int i3), (4, .int i4)], [.int s0, .int i4, .int i3, .ref a0]))) rfl ?_
            obtain ⟨u169_3, hxu169_3, h⟩ := Option.bind_eq_some_iff.mp h
            obtain ⟨r169_4, hxr169_4, h⟩ := Option.bind_eq_some_iff.mp h
            refine gg_cv (as := [.int i3, .int i4, .int s0]) (r := []) aMi96 rfl rfl rfl aMi100 (Nat.le_of_ble_eq_true rfl) rfl (Nat.le_of_ble_eq_true rfl) (Nat.le_of_ble_eq_true rfl) (by omega) hxu169_3 (Tf100 (by omega) a0 i3 i4 s0 I _ hxr169_4) ?_
            show aGo kad d 96 (172, ([(6, .int s0), (0, .ref a0), (3, .int i3), (4, .int i4)], [])) (aMem Z r169_4.2, t) _
            refine go_ops aMi96 1 _ (f1 := (184, ([(6, .int s0), (0, .ref a0), (3, .int i3), (4, .int i4)], []))) rfl ?_
            refine go_le (lv1 := []) (aLe_of (show (List.map (fun q => q.1) ([] : ALv)).Nodup from (by show ([] : List Nat).Nodup; decide)) aSubL_nil) ?_
            exact Tf96_b184 hd  r169_4.2 _ h
        · rw [if_neg (of_decide_eq_false hb)] at h
          refine go_ops aMi96 3 _ (f1 := (152, ([(6, .int s0), (0, .ref a0), (3, .int i3), (4, .int i4)], [.int s0, .int i3, .ref a0]))) rfl ?_
          obtain ⟨u152_5, hxu152_5, h⟩ := Option.bind_eq_some_iff.mp h
          obtain ⟨r152_6, hxr152_6, h⟩ := Option.bind_eq_some_iff.mp h
          refine gg_cv (as := [.int i3, .int s0]) (r := []) aMi96 rfl rfl rfl aMi102 (Nat.le_of_ble_eq_true rfl) rfl (Nat.le_of_ble_eq_true rfl) (Nat.le_of_ble_eq_true rfl) (by omega) hxu152_5 (Tf102 (by omega) a0 i3 s0 I _ hxr152_6) ?_
          show aGo kad d 96 (155, ([(6, .int s0), (0, .ref a0), (3, .int i3), (4, .int i4)], [])) (aMem Z r152_6.2, t) _
          refine go_ops aMi96 1 _ (f1 := (184, ([(6, .int s0), (0, .ref a0), (3, .int i3), (4, .int i4)], []))) rfl ?_
          refine go_le (lv1 := []) (aLe_of (show (List.map (fun q => q.1) ([] : ALv)).Nodup from (by show ([] : List Nat).Nodup; decide)) aSubL_nil) ?_
          exact Tf96_b184 hd  r152_6.2 _ h
      · rw [if_neg (of_decide_eq_false hb)] at h
        refine go_ops aMi96 4 _ (f1 := (136, ([(6, .int s0), (0, .ref a0), (3, .int i3), (4, .int i4)], [.int s0, .int i4, .int i3, .ref a0]))) rfl ?_
        obtain ⟨u136_7, hxu136_7, h⟩ := Option.bind_eq_some_iff.mp h
        obtain ⟨r136_8, hxr136_8, h⟩ := Option.bind_eq_some_iff.mp h
        refine gg_cv (as := [.int i3, .int i4, .int s0]) (r := []) aMi96 rfl rfl rfl aMi103 (Nat.le_of_ble_eq_true rfl) rfl (Nat.le_of_ble_eq_true rfl) (Nat.le_of_ble_eq_true rfl) (by omega) hxu136_7 (Tf103 (by omega) a0 i3 i4 s0 I _ hxr136_8) ?_
        show aGo kad d 96 (139, ([(6, .int s0), (0, .ref a0), (3, .int i3), (4, .int i4)], [])) (aMem Z r136_8.2, t) _
        refine go_ops aMi96 1 _ (f1 := (184, ([(6, .int s0), (0, .ref a0), (3, .int i3), (4, .int i4)], []))) rfl ?_
        refine go_le (lv1 := []) (aLe_of (show (List.map (fun q => q.1) ([] : ALv)).Nodup from (by show ([] : List Nat).Nodup; decide)) aSubL_nil) ?_
        exact Tf96_b184 hd  r136_8.2 _ h
    · rw [if_neg (of_decide_eq_false hb)] at h
      refine go_ops aMi96 4 _ (f1 := (118, ([(6, .int s0), (0, .ref a0), (3, .int i3), (4, .int i4)], [.int s0, .int i4, .int i3, .ref a0]))) rfl ?_
      obtain ⟨u118_9, hxu118_9, h⟩ := Option.bind_eq_some_iff.mp h
      obtain ⟨r118_10, hxr118_10, h⟩ := Option.bind_eq_some_iff.mp h
      refine gg_cv (as := [.int i3, .int i4, .int s0]) (r := []) aMi96 rfl rfl rfl aMi104 (Nat.le_of_ble_eq_true rfl) rfl (Nat.le_of_ble_eq_true rfl) (Nat.le_of_ble_eq_true rfl) (by omega) hxu118_9 (Tf104 (by omega) a0 i3 i4 s0 I _ hxr118_10) ?_
      show aGo kad d 96 (121, ([(6, .int s0), (0, .ref a0), (3, .int i3), (4, .int i4)], [])) (aMem Z r118_10.2, t) _
      refine go_ops aMi96 1 _ (f1 := (184, ([(6, .int s0), (0, .ref a0), (3, .int i3), (4, .int i4)], []))) rfl ?_
      refine go_le (lv1 := []) (aLe_of (show (List.map (fun q => q.1) ([] : ALv)).Nodup from (by show ([] : List Nat).Nodup; decide)) aSubL_nil) ?_
      exact Tf96_b184 hd  r118_10.2 _ h
  · rw [if_neg (of_decide_eq_false hb)] at h
    refine go_ops aMi96 2 _ (f1 := (100, ([(6, .int s0), (0, .ref a0), (3, .int i3), (4, .int i4)], [.int (2 : Int32), .ref a0]))) rfl ?_
    obtain ⟨u100_11, hxu100_11, h⟩ := Option.bind_eq_some_iff.mp h
    obtain ⟨r100_12, hxr100_12, h⟩ := Option.bind_eq_some_iff.mp h
    refine gg_cv (as := [.int (2 : Int32)]) (r := []) aMi96 rfl rfl rfl aMi87 (Nat.le_of_ble_eq_true rfl) rfl (Nat.le_of_ble_eq_true rfl) (Nat.le_of_ble_eq_true rfl) (by omega) hxu100_11 (Tf87 (by omega) a0 (2 : Int32) I _ hxr100_12) ?_
    show aGo kad d 96 (103, ([(6, .int s0), (0, .ref a0), (3, .int i3), (4, .int i4)], [])) (aMem Z r100_12.2, t) _
    refine go_ops aMi96 1 _ (f1 := (184, ([(6, .int s0), (0, .ref a0), (3, .int i3), (4, .int i4)], []))) rfl ?_
    refine go_le (lv1 := []) (aLe_of (show (List.map (fun q => q.1) ([] : ALv)).Nodup from (by show ([] : List Nat).Nodup; decide)) aSubL_nil) ?_
    exact Tf96_b184 hd  r100_12.2 _ h
def f96 (kad : Nat → Nat) (N : Nat) (Z : AZ) (a0 : Nat) (I : AI) : Option (Unit × AI) :=
  (gR Z I 8 0 a0).bind fun b1_1 =>
  (gI Z I 2 3 b1_1).bind fun x4_2 =>
  if (x4_2 + (2 : Int32)) ≤ (256 : Int32) then
    (gR Z I 8 0 a0).bind fun b23_3 =>
    (gI Z I 2 3 b23_3).bind fun x26_4 =>
    (isK Z a0 8).bind fun u29_5 =>
    (f89 kad N Z a0 x26_4 I).bind fun r29_6 =>
    (gR Z r29_6.2 8 0 a0).bind fun b35_7 =>
    (gI Z r29_6.2 2 3 b35_7).bind fun x38_8 =>
    (isK Z a0 8).bind fun u43_9 =>
    (f89 kad N Z a0 (x38_8 + (1 : Int32)) r29_6.2).bind fun r43_10 =>
    if ¬ ((r29_6.1 / (4 : Int32)) &&& (3 : Int32)) = (r29_6.1 &&& (3 : Int32)) then
      (gR Z r43_10.2 8 0 a0).bind fun b76_11 =>
      (gR Z r43_10.2 2 14 b76_11).bind fun b79_12 =>
      (lI Z r43_10.2 100 b79_12 (r29_6.1 &&& (3 : Int32))).bind fun x84_13 =>
      f96_b90 kad N Z a0 (r29_6.1 / (16 : Int32)) ((r29_6.1 / (4 : Int32)) &&& (3 : Int32)) ((x84_13 + r43_10.1) &&& (65535 : Int32)) r43_10.2
    else
      f96_b90 kad N Z a0 (r29_6.1 / (16 : Int32)) ((r29_6.1 / (4 : Int32)) &&& (3 : Int32)) r43_10.1 r43_10.2
  else
    (isK Z a0 8).bind fun u17_14 =>
    (f87 kad N Z a0 (1 : Int32) I).bind fun r17_15 =>
    some ((), r17_15.2)
set_option maxRecDepth 20000 in
theorem Tf96 {kad : Nat → Nat} {N : Nat} {Z : AZ} {d : Nat} {t : Option Nat × (Nat × Nat)} (hd : 8 ≤ d) : ∀ (a0 : Nat) (I : AI) (r : Unit × AI), f96 kad N Z a0 I = some r → aGo kad d 96 (0, ([(0, .ref a0)], [])) (aMem Z I, t) (qV Z t r) := by
  intro a0 I r h
  unfold f96 at h
  refine go_ops aMi96 1 _ (f1 := (1, ([(0, .ref a0)], [.ref a0]))) rfl ?_
  obtain ⟨b1_1, hxb1_1, h⟩ := Option.bind_eq_some_iff.mp h
  refine gg_gR aMi96 rfl rfl rfl hxb1_1 ?_
  obtain ⟨x4_2, hxx4_2, h⟩ := Option.bind_eq_some_iff.mp h
  refine gg_gI aMi96 rfl rfl rfl hxx4_2 ?_
  refine go_ops aMi96 3 _ (f1 := (12, ([(0, .ref a0)], [.int (256 : Int32), .int (x4_2 + (2 : Int32))]))) rfl ?_
  refine gg_br (b := decide ((x4_2 + (2 : Int32)) ≤ (256 : Int32))) (tg := 21) (off := 9) aMi96 rfl rfl rfl rfl (fun hb => ?_) (fun hb => ?_)
  · rw [if_pos (of_decide_eq_true hb)] at h
    refine go_ops aMi96 2 _ (f1 := (23, ([(0, .ref a0)], [.ref a0, .ref a0]))) rfl ?_
    obtain ⟨b23_3, hxb23_3, h⟩ := Option.bind_eq_some_iff.mp h
    refine gg_gR aMi96 rfl rfl rfl hxb23_3 ?_
    obtain ⟨x26_4, hxx26_4, h⟩ := Option.bind_eq_some_iff.mp h
    refine gg_gI aMi96 rfl rfl rfl hxx26_4 ?_
    obtain ⟨u29_5, hxu29_5, h⟩ := Option.bind_eq_some_iff.mp h
    obtain ⟨r29_6, hxr29_6, h⟩ := Option.bind_eq_some_iff.mp h
    refine gg_cv (as := [.int x26_4]) (r := []) aMi96 rfl rfl rfl aMi89 (Nat.le_of_ble_eq_true rfl) rfl (Nat.le_of_ble_eq_true rfl) (Nat.le_of_ble_eq_true rfl) (by omega) hxu29_5 (Tf89 (by omega) a0 x26_4 I _ hxr29_6) ?_
    show aGo kad d 96 (32, ([(0, .ref a0)], [.int r29_6.1])) (aMem Z r29_6.2, t) _
    refine go_ops aMi96 3 _ (f1 := (35, ([(1, .int r29_6.1), (0, .ref a0)], [.ref a0, .ref a0]))) rfl ?_
    obtain ⟨b35_7, hxb35_7, h⟩ := Option.bind_eq_some_iff.mp h
    refine gg_gR aMi96 rfl rfl rfl hxb35_7 ?_
    obtain ⟨x38_8, hxx38_8, h⟩ := Option.bind_eq_some_iff.mp h
    refine gg_gI aMi96 rfl rfl rfl hxx38_8 ?_
    refine go_ops aMi96 2 _ (f1 := (43, ([(1, .int r29_6.1), (0, .ref a0)], [.int (x38_8 + (1 : Int32)), .ref a0]))) rfl ?_
    obtain ⟨u43_9, hxu43_9, h⟩ := Option.bind_eq_some_iff.mp h
    obtain ⟨r43_10, hxr43_10, h⟩ := Option.bind_eq_some_iff.mp h
    refine gg_cv (as := [.int (x38_8 + (1 : Int32))]) (r := []) aMi96 rfl rfl rfl aMi89 (Nat.le_of_ble_eq_true rfl) rfl (Nat.le_of_ble_eq_true rfl) (Nat.le_of_ble_eq_true rfl) (by omega) hxu43_9 (Tf89 (by omega) a0 (x38_8 + (1 : Int32)) r29_6.2 _ hxr43_10) ?_
    show aGo kad d 96 (46, ([(1, .int r29_6.1), (0, .ref a0)], [.int r43_10.1])) (aMem Z r43_10.2, t) _
    refine go_ops aMi96 17 _ (f1 := (68, ([(5, .int (r29_6.1 &&& (3 : Int32))), (4, .int ((r29_6.1 / (4 : Int32)) &&& (3 : Int32))), (3, .int (r29_6.1 / (16 : Int32))), (2, .int r43_10.1), (1, .int r29_6.1), (0, .ref a0)], [.int (r29_6.1 &&& (3 : Int32)), .int ((r29_6.1 / (4 : Int32)) &&& (3 : Int32))]))) rfl ?_
    refine gg_br (b := decide (¬ ((r29_6.1 / (4 : Int32)) &&& (3 : Int32)) = (r29_6.1 &&& (3 : Int32)))) (tg := 75) (off := 7) aMi96 rfl rfl rfl rfl (fun hb => ?_) (fun hb => ?_)
    · rw [if_pos (of_decide_eq_true hb)] at h
      refine go_ops aMi96 1 _ (f1 := (76, ([(5, .int (r29_6.1 &&& (3 : Int32))), (4, .int ((r29_6.1 / (4 : Int32)) &&& (3 : Int32))), (3, .int (r29_6.1 / (16 : Int32))), (2, .int r43_10.1), (1, .int r29_6.1), (0, .ref a0)], [.ref a0]))) rfl ?_
      obtain ⟨b76_11, hxb76_11, h⟩ := Option.bind_eq_some_iff.mp h
      refine gg_gR aMi96 rfl rfl rfl hxb76_11 ?_
      obtain ⟨b79_12, hxb79_12, h⟩ := Option.bind_eq_some_iff.mp h
      refine gg_gR aMi96 rfl rfl rfl hxb79_12 ?_
      refine go_ops aMi96 1 _ (f1 := (84, ([(5, .int (r29_6.1 &&& (3 : Int32))), (4, .int ((r29_6.1 / (4 : Int32)) &&& (3 : Int32))), (3, .int (r29_6.1 / (16 : Int32))), (2, .int r43_10.1), (1, .int r29_6.1), (0, .ref a0)], [.int (r29_6.1 &&& (3 : Int32)), .ref b79_12]))) rfl ?_
      obtain ⟨x84_13, hxx84_13, h⟩ := Option.bind_eq_some_iff.mp h
      refine gg_lI (Or.inl ⟨rfl, rfl⟩) aMi96 rfl hxx84_13 ?_
      refine go_ops aMi96 2 _ (f1 := (87, ([(5, .int (r29_6.1 &&& (3 : Int32))), (4, .int ((r29_6.1 / (4 : Int32)) &&& (3 : Int32))), (3, .int (r29_6.1 / (16 : Int32))), (2, .int r43_10.1), (1, .int r29_6.1), (0, .ref a0)], [.int (x84_13 + r43_10.1)]))) rfl ?_
      refine gg_kI (Or.inl ⟨rfl, rfl⟩) aMi96 rfl rfl ?_
      refine go_ops aMi96 1 _ (f1 := (90, ([(5, .int (r29_6.1 &&& (3 : Int32))), (4, .int ((r29_6.1 / (4 : Int32)) &&& (3 : Int32))), (3, .int (r29_6.1 / (16 : Int32))), (2, .int r43_10.1), (1, .int r29_6.1), (0, .ref a0)], [.int ((x84_13 + r43_10.1) &&& (65535 : Int32))]))) rfl ?_
      refine go_le (lv1 := [(0, .ref a0), (3, .int (r29_6.1 / (16 : Int32))), (4, .int ((r29_6.1 / (4 : Int32)) &&& (3 : Int32)))]) (aLe_of (show (List.map (fun q => q.1) ([(0, .ref a0), (3, .int (r29_6.1 / (16 : Int32))), (4, .int ((r29_6.1 / (4 : Int32)) &&& (3 : Int32)))] : ALv)).Nodup from (by show ([0, 3, 4] : List Nat).Nodup; decide)) (aSubL_cons rfl (aSubL_cons rfl (aSubL_cons rfl aSubL_nil)))) ?_
      exact Tf96_b90 hd a0 (r29_6.1 / (16 : Int32)) ((r29_6.1 / (4 : Int32)) &&& (3 : Int32)) ((x84_13 + r43_10.1) &&& (65535 : Int32)) r43_10.2 _ h
    · rw [if_neg (of_decide_eq_false hb)] at h
      refine go_ops aMi96 2 _ (f1 := (90, ([(5, .int (r29_6.1 &&& (3 : Int32))), (4, .int ((r29_6.1 / (4 : Int32)) &&& (3 : Int32))), (3, .int (r29_6.1 / (16 : Int32))), (2, .int r43_10.1), (1, .int r29_6.1), (0, .ref a0)], [.int r43_10.1]))) rfl ?_
      refine go_le (lv1 := [(0, .ref a0), (3, .int (r29_6.1 / (16 : Int32))), (4, .int ((r29_6.1 / (4 : Int32)) &&& (3 : Int32)))]) (aLe_of (show (List.map (fun q => q.1) ([(0, .ref a0), (3, .int (r29_6.1 / (16 : Int32))), (4, .int ((r29_6.1 / (4 : Int32)) &&& (3 : Int32)))] : ALv)).Nodup from (by show ([0, 3, 4] : List Nat).Nodup; decide)) (aSubL_cons rfl (aSubL_cons rfl (aSubL_cons rfl aSubL_nil)))) ?_
      exact Tf96_b90 hd a0 (r29_6.1 / (16 : Int32)) ((r29_6.1 / (4 : Int32)) &&& (3 : Int32)) r43_10.1 r43_10.2 _ h
  · rw [if_neg (of_decide_eq_false hb)] at h
    refine go_ops aMi96 2 _ (f1 := (17, ([(0, .ref a0)], [.int (1 : Int32), .ref a0]))) rfl ?_
    obtain ⟨u17_14, hxu17_14, h⟩ := Option.bind_eq_some_iff.mp h
    obtain ⟨r17_15, hxr17_15, h⟩ := Option.bind_eq_some_iff.mp h
    refine gg_cv (as := [.int (1 : Int32)]) (r := []) aMi96 rfl rfl rfl aMi87 (Nat.le_of_ble_eq_true rfl) rfl (Nat.le_of_ble_eq_true rfl) (Nat.le_of_ble_eq_true rfl) (by omega) hxu17_14 (Tf87 (by omega) a0 (1 : Int32) I _ hxr17_15) ?_
    show aGo kad d 96 (20, ([(0, .ref a0)], [])) (aMem Z r17_15.2, t) _
    cases h
    exact go_ret aMi96 rfl rfl ⟨rfl, rfl⟩
-- KernelGym$Machine.passTime ()V
def f86_b56 (kad : Nat → Nat) (N : Nat) (Z : AZ)  (I : AI) : Option (Unit × AI) :=
  some ((), I)
set_option maxRecDepth 20000 in
theorem Tf86_b56 {kad : Nat → Nat} {N : Nat} {Z : AZ} {d : Nat} {t : Option Nat × (Nat × Nat)} (hd : 0 ≤ d) : ∀  (I : AI) (r : Unit × AI), f86_b56 kad N Z  I = some r → aGo kad d 86 (56, ([], [])) (aMem Z I, t) (qV Z t r) := by
  intro  I r h
  unfold f86_b56 at h
  cases h
  exact go_ret aMi86 rfl rfl ⟨rfl, rfl⟩
def f86 (kad : Nat → Nat) (N : Nat) (Z : AZ) (a0 : Nat) (I : AI) : Option (Unit × AI) :=
  (gR Z I 8 0 a0).bind fun b1_1 =>
  (gI Z I 2 10 b1_1).bind fun x4_2 =>
  if x4_2 ≤ 0 then
    f86_b56 kad N Z  I
  else
    (gR Z I 8 0 a0).bind fun b11_3 =>
    (gI Z I 2 11 b11_3).bind fun x15_4 =>
    (pI Z I 2 11 b11_3 (x15_4 + (1 : Int32))).bind fun I20_5 =>
    (gR Z I20_5 8 0 a0).bind fun b24_6 =>
    (gI Z I20_5 2 11 b24_6).bind fun x27_7 =>
    (gR Z I20_5 8 0 a0).bind fun b31_8 =>
    (gI Z I20_5 2 10 b31_8).bind fun x34_9 =>
    if ¬ x27_7 = x34_9 then
      f86_b56 kad N Z  I20_5
    else
      (gR Z I20_5 8 0 a0).bind fun b41_10 =>
      (pI Z I20_5 2 11 b41_10 (0 : Int32)).bind fun I45_11 =>
      (gR Z I45_11 8 0 a0).bind fun b49_12 =>
      (pB Z I45_11 2 8 b49_12 (1 : Int32)).bind fun I53_13 =>
      f86_b56 kad N Z  I53_13
set_option maxRecDepth 20000 in
theorem Tf86 {kad : Nat → Nat} {N : Nat} {Z : AZ} {d : Nat} {t : Option Nat × (Nat × Nat)} (hd : 0 ≤ d) : ∀ (a0 : Nat) (I : AI) (r : Unit × AI), f86 kad N Z a0 I = some r → aGo kad d 86 (0, ([(0, .ref a0)], [])) (aMem Z I, t) (qV Z t r) := by
  intro a0 I r h
  unfold f86 at h
  refine go_ops aMi86 1 _ (f1 := (1, ([(0, .ref a0)], [.ref a0]))) rfl ?_
  obtain ⟨b1_1, hxb1_1, h⟩ := Option.bind_eq_some_iff.mp h
  refine gg_gR aMi86 rfl rfl rfl hxb1_1 ?_
  obtain ⟨x4_2, hxx4_2, h⟩ := Option.bind_eq_some_iff.mp h
  refine gg_gI aMi86 rfl rfl rfl hxx4_2 ?_
  refine gg_br (b := decide (x4_2 ≤ 0)) (tg := 56) (off := 49) aMi86 rfl rfl rfl rfl (fun hb => ?_) (fun hb => ?_)
  · rw [if_pos (of_decide_eq_true hb)] at h
    refine go_le (lv1 := []) (aLe_of (show (List.map (fun q => q.1) ([] : ALv)).Nodup from (by show ([] : List Nat).Nodup; decide)) aSubL_nil) ?_
    exact Tf86_b56 hd  I _ h
  · rw [if_neg (of_decide_eq_false hb)] at h
    refine go_ops aMi86 1 _ (f1 := (11, ([(0, .ref a0)], [.ref a0]))) rfl ?_
    obtain ⟨b11_3, hxb11_3, h⟩ := Option.bind_eq_some_iff.mp h
    refine gg_gR aMi86 rfl rfl rfl hxb11_3 ?_
    refine go_ops aMi86 1 _ (f1 := (15, ([(0, .ref a0)], [.ref b11_3, .ref b11_3]))) rfl ?_
    obtain ⟨x15_4, hxx15_4, h⟩ := Option.bind_eq_some_iff.mp h
    refine gg_gI aMi86 rfl rfl rfl hxx15_4 ?_
    refine go_ops aMi86 2 _ (f1 := (20, ([(0, .ref a0)], [.int (x15_4 + (1 : Int32)), .ref b11_3]))) rfl ?_
    obtain ⟨I20_5, hxI20_5, h⟩ := Option.bind_eq_some_iff.mp h
    refine gg_pI aMi86 rfl rfl rfl rfl (by decide) hxI20_5 ?_
    refine go_ops aMi86 1 _ (f1 := (24, ([(0, .ref a0)], [.ref a0]))) rfl ?_
    obtain ⟨b24_6, hxb24_6, h⟩ := Option.bind_eq_some_iff.mp h
    refine gg_gR aMi86 rfl rfl rfl hxb24_6 ?_
    obtain ⟨x27_7, hxx27_7, h⟩ := Option.bind_eq_some_iff.mp h
    refine gg_gI aMi86 rfl rfl rfl hxx27_7 ?_
    refine go_ops aMi86 1 _ (f1 := (31, ([(0, .ref a0)], [.ref a0, .int x27_7]))) rfl ?_
    obtain ⟨b31_8, hxb31_8, h⟩ := Option.bind_eq_some_iff.mp h
    refine gg_gR aMi86 rfl rfl rfl hxb31_8 ?_
    obtain ⟨x34_9, hxx34_9, h⟩ := Option.bind_eq_some_iff.mp h
    refine gg_gI aMi86 rfl rfl rfl hxx34_9 ?_
    refine gg_br (b := decide (¬ x27_7 = x34_9)) (tg := 56) (off := 19) aMi86 rfl rfl rfl rfl (fun hb => ?_) (fun hb => ?_)
    · rw [if_pos (of_decide_eq_true hb)] at h
      refine go_le (lv1 := []) (aLe_of (show (List.map (fun q => q.1) ([] : ALv)).Nodup from (by show ([] : List Nat).Nodup; decide)) aSubL_nil) ?_
      exact Tf86_b56 hd  I20_5 _ h
    · rw [if_neg (of_decide_eq_false hb)] at h
      refine go_ops aMi86 1 _ (f1 := (41, ([(0, .ref a0)], [.ref a0]))) rfl ?_
      obtain ⟨b41_10, hxb41_10, h⟩ := Option.bind_eq_some_iff.mp h
      refine gg_gR aMi86 rfl rfl rfl hxb41_10 ?_
      refine go_ops aMi86 1 _ (f1 := (45, ([(0, .ref a0)], [.int (0 : Int32), .ref b41_10]))) rfl ?_
      obtain ⟨I45_11, hxI45_11, h⟩ := Option.bind_eq_some_iff.mp h
      refine gg_pI aMi86 rfl rfl rfl rfl (by decide) hxI45_11 ?_
      refine go_ops aMi86 1 _ (f1 := (49, ([(0, .ref a0)], [.ref a0]))) rfl ?_
      obtain ⟨b49_12, hxb49_12, h⟩ := Option.bind_eq_some_iff.mp h
      refine gg_gR aMi86 rfl rfl rfl hxb49_12 ?_
      refine go_ops aMi86 1 _ (f1 := (53, ([(0, .ref a0)], [.int (1 : Int32), .ref b49_12]))) rfl ?_
      obtain ⟨I53_13, hxI53_13, h⟩ := Option.bind_eq_some_iff.mp h
      refine gg_pB aMi86 rfl rfl rfl rfl (by decide) hxI53_13 ?_
      refine go_le (lv1 := []) (aLe_of (show (List.map (fun q => q.1) ([] : ALv)).Nodup from (by show ([] : List Nat).Nodup; decide)) aSubL_nil) ?_
      exact Tf86_b56 hd  I53_13 _ h
-- KernelGym$Machine.makeStep (LKernelGym$Kept;)V
def f83_b77 (kad : Nat → Nat) (N : Nat) (Z : AZ) (a0 : Nat) (I : AI) : Option (Unit × AI) :=
  (gR Z I 8 0 a0).bind fun b78_1 =>
  (gI Z I 2 2 b78_1).bind fun x82_2 =>
  (pI Z I 2 2 b78_1 (x82_2 + (1 : Int32))).bind fun I87_3 =>
  (isK Z a0 8).bind fun u91_4 =>
  (f86 kad N Z a0 I87_3).bind fun r91_5 =>
  (isK Z a0 8).bind fun u95_6 =>
  (f85 kad N Z a0 r91_5.2).bind fun r95_7 =>
  some ((), r95_7.2)
set_option maxRecDepth 20000 in
theorem Tf83_b77 {kad : Nat → Nat} {N : Nat} {Z : AZ} {d : Nat} {t : Option Nat × (Nat × Nat)} (hd : 9 ≤ d) : ∀ (a0 : Nat) (I : AI) (r : Unit × AI), f83_b77 kad N Z a0 I = some r → aGo kad d 83 (77, ([(0, .ref a0)], [])) (aMem Z I, t) (qV Z t r) := by
  intro a0 I r h
  unfold f83_b77 at h
  refine go_ops aMi83 1 _ (f1 := (78, ([(0, .ref a0)], [.ref a0]))) rfl ?_
  obtain ⟨b78_1, hxb78_1, h⟩ := Option.bind_eq_some_iff.mp h
  refine gg_gR aMi83 rfl rfl rfl hxb78_1 ?_
  refine go_ops aMi83 1 _ (f1 := (82, ([(0, .ref a0)], [.ref b78_1, .ref b78_1]))) rfl ?_
  obtain ⟨x82_2, hxx82_2, h⟩ := Option.bind_eq_some_iff.mp h
  refine gg_gI aMi83 rfl rfl rfl hxx82_2 ?_
  refine go_ops aMi83 2 _ (f1 := (87, ([(0, .ref a0)], [.int (x82_2 + (1 : Int32)), .ref b78_1]))) rfl ?_
  obtain ⟨I87_3, hxI87_3, h⟩ := Option.bind_eq_some_iff.mp h
  refine gg_pI aMi83 rfl rfl rfl rfl (by decide) hxI87_3 ?_
  refine go_ops aMi83 1 _ (f1 := (91, ([(0, .ref a0)], [.ref a0]))) rfl ?_
  obtain ⟨u91_4, hxu91_4, h⟩ := Option.bind_eq_some_iff.mp h
  obtain ⟨r91_5, hxr91_5, h⟩ := Option.bind_eq_some_iff.mp h
  refine gg_cv (as := []) (r := []) aMi83 rfl rfl rfl aMi86 (Nat.le_of_ble_eq_true rfl) rfl (Nat.le_of_ble_eq_true rfl) (Nat.le_of_ble_eq_true rfl) (by omega) hxu91_4 (Tf86 (by omega) a0 I87_3 _ hxr91_5) ?_
  show aGo kad d 83 (94, ([(0, .ref a0)], [])) (aMem Z r91_5.2, t) _
  refine go_ops aMi83 1 _ (f1 := (95, ([(0, .ref a0)], [.ref a0]))) rfl ?_
  obtain ⟨u95_6, hxu95_6, h⟩ := Option.bind_eq_some_iff.mp h
  obtain ⟨r95_7, hxr95_7, h⟩ := Option.bind_eq_some_iff.mp h
  refine gg_cv (as := []) (r := []) aMi83 rfl rfl rfl aMi85 (Nat.le_of_ble_eq_true rfl) rfl (Nat.le_of_ble_eq_true rfl) (Nat.le_of_ble_eq_true rfl) (by omega) hxu95_6 (Tf85 (by omega) a0 r91_5.2 _ hxr95_7) ?_
  show aGo kad d 83 (98, ([(0, .ref a0)], [])) (aMem Z r95_7.2, t) _
  cases h
  exact go_ret aMi83 rfl rfl ⟨rfl, rfl⟩
def f83_b66 (kad : Nat → Nat) (N : Nat) (Z : AZ) (a0 : Nat) (I : AI) : Option (Unit × AI) :=
  (isK Z a0 8).bind fun u67_1 =>
  (f95 kad N Z a0 I).bind fun r67_2 =>
  f83_b77 kad N Z a0 r67_2.2
set_option maxRecDepth 20000 in
theorem Tf83_b66 {kad : Nat → Nat} {N : Nat} {Z : AZ} {d : Nat} {t : Option Nat × (Nat × Nat)} (hd : 9 ≤ d) : ∀ (a0 : Nat) (I : AI) (r : Unit × AI), f83_b66 kad N Z a0 I = some r → aGo kad d 83 (66, ([(0, .ref a0)], [])) (aMem Z I, t) (qV Z t r) := by
  intro a0 I r h
  unfold f83_b66 at h
  refine go_ops aMi83 1 _ (f1 := (67, ([(0, .ref a0)], [.ref a0]))) rfl ?_
  obtain ⟨u67_1, hxu67_1, h⟩ := Option.bind_eq_some_iff.mp h
  obtain ⟨r67_2, hxr67_2, h⟩ := Option.bind_eq_some_iff.mp h
  refine gg_cv (as := []) (r := []) aMi83 rfl rfl rfl aMi95 (Nat.le_of_ble_eq_true rfl) rfl (Nat.le_of_ble_eq_true rfl) (Nat.le_of_ble_eq_true rfl) (by omega) hxu67_1 (Tf95 (by omega) a0 I _ hxr67_2) ?_
  show aGo kad d 83 (70, ([(0, .ref a0)], [])) (aMem Z r67_2.2, t) _
  refine go_ops aMi83 1 _ (f1 := (77, ([(0, .ref a0)], []))) rfl ?_
  exact Tf83_b77 hd a0 r67_2.2 _ h
def f83_b73 (kad : Nat → Nat) (N : Nat) (Z : AZ) (a0 : Nat) (I : AI) : Option (Unit × AI) :=
  (isK Z a0 8).bind fun u74_1 =>
  (f96 kad N Z a0 I).bind fun r74_2 =>
  f83_b77 kad N Z a0 r74_2.2
set_option maxRecDepth 20000 in
theorem Tf83_b73 {kad : Nat → Nat} {N : Nat} {Z : AZ} {d : Nat} {t : Option Nat × (Nat × Nat)} (hd : 9 ≤ d) : ∀ (a0 : Nat) (I : AI) (r : Unit × AI), f83_b73 kad N Z a0 I = some r → aGo kad d 83 (73, ([(0, .ref a0)], [])) (aMem Z I, t) (qV Z t r) := by
  intro a0 I r h
  unfold f83_b73 at h
  refine go_ops aMi83 1 _ (f1 := (74, ([(0, .ref a0)], [.ref a0]))) rfl ?_
  obtain ⟨u74_1, hxu74_1, h⟩ := Option.bind_eq_some_iff.mp h
  obtain ⟨r74_2, hxr74_2, h⟩ := Option.bind_eq_some_iff.mp h
  refine gg_cv (as := []) (r := []) aMi83 rfl rfl rfl aMi96 (Nat.le_of_ble_eq_true rfl) rfl (Nat.le_of_ble_eq_true rfl) (Nat.le_of_ble_eq_true rfl) (by omega) hxu74_1 (Tf96 (by omega) a0 I _ hxr74_2) ?_
  show aGo kad d 83 (77, ([(0, .ref a0)], [])) (aMem Z r74_2.2, t) _
  exact Tf83_b77 hd a0 r74_2.2 _ h
def f83 (kad : Nat → Nat) (N : Nat) (Z : AZ) (a0 : Nat) (a1 : Nat) (I : AI) : Option (Unit × AI) :=
  (pR Z I 8 7 a0 a1).bind fun I2_1 =>
  (gR Z I2_1 8 7 a0).bind fun b6_2 =>
  (gR Z I2_1 8 0 a0).bind fun b10_3 =>
  (isK Z b6_2 5).bind fun u13_4 =>
  (f67 kad N Z b6_2 b10_3 I2_1).bind fun r13_5 =>
  (gR Z r13_5.2 8 0 a0).bind fun b17_6 =>
  (gR Z r13_5.2 2 15 b17_6).bind fun b20_7 =>
  (isK Z b20_7 4).bind fun u23_8 =>
  (f63 kad N Z b20_7 r13_5.2).bind fun r23_9 =>
  if r23_9.1 ≤ 0 then
    (gR Z r23_9.2 8 0 a0).bind fun b37_10 =>
    (gI Z r23_9.2 2 7 b37_10).bind fun x40_11 =>
    if x40_11 = 0 then
      f83_b73 kad N Z a0 r23_9.2
    else
      (gR Z r23_9.2 8 0 a0).bind fun b47_12 =>
      (gI Z r23_9.2 2 8 b47_12).bind fun x50_13 =>
      if ¬ x50_13 = 0 then
        f83_b66 kad N Z a0 r23_9.2
      else
        (gR Z r23_9.2 8 0 a0).bind fun b57_14 =>
        (gI Z r23_9.2 2 9 b57_14).bind fun x60_15 =>
        if x60_15 = 0 then
          f83_b73 kad N Z a0 r23_9.2
        else
          f83_b66 kad N Z a0 r23_9.2
  else
    (isK Z a0 8).bind fun u30_16 =>
    (f109 kad N Z a0 r23_9.2).bind fun r30_17 =>
    f83_b77 kad N Z a0 r30_17.2
set_option maxRecDepth 20000 in
theorem Tf83 {kad : Nat → Nat} {N : Nat} {Z : AZ} {d : Nat} {t : Option Nat × (Nat × Nat)} (hd : 9 ≤ d) : ∀ (a0 : Nat) (a1 : Nat) (I : AI) (r : Unit × AI), f83 kad N Z a0 a1 I = some r → aGo kad d 83 (0, ([(0, .ref a0), (1, .ref a1)], [])) (aMem Z I, t) (qV Z t r) := by
  intro a0 a1 I r h
  unfold f83 at h
  refine go_ops aMi83 2 _ (f1 := (2, ([(0, .ref a0), (1, .ref a1)], [.ref a1, .ref a0]))) rfl ?_
  obtain ⟨I2_1, hxI2_1, h⟩ := Option.bind_eq_some_iff.mp h
  refine gg_pR aMi83 rfl rfl rfl rfl (by decide) hxI2_1 ?_
  refine go_ops aMi83 1 _ (f1 := (6, ([(0, .ref a0), (1, .ref a1)], [.ref a0]))) rfl ?_
  obtain ⟨b6_2, hxb6_2, h⟩ := Option.bind_eq_some_iff.mp h
  refine gg_gR aMi83 rfl rfl rfl hxb6_2 ?_
  refine go_ops aMi83 1 _ (f1 := (10, ([(0, .ref a0), (1, .ref a1)], [.ref a0, .ref b6_2]))) rfl ?_
  obtain ⟨b10_3, hxb10_3, h⟩ := Option.bind_eq_some_iff.mp h
  refine gg_gR aMi83 rfl rfl rfl hxb10_3 ?_
  obtain ⟨u13_4, hxu13_4, h⟩ := Option.bind_eq_some_iff.mp h
  obtain ⟨r13_5, hxr13_5, h⟩ := Option.bind_eq_some_iff.mp h
  refine gg_cv (as := [.ref b10_3]) (r := []) aMi83 rfl rfl rfl aMi67 (Nat.le_of_ble_eq_true rfl) rfl (Nat.le_of_ble_eq_true rfl) (Nat.le_of_ble_eq_true rfl) (by omega) hxu13_4 (Tf67 (by omega) b6_2 b10_3 I2_1 _ hxr13_5) ?_
  show aGo kad d 83 (16, ([(0, .ref a0), (1, .ref a1)], [])) (aMem Z r13_5.2, t) _
  refine go_ops aMi83 1 _ (f1 := (17, ([(0, .ref a0), (1, .ref a1)], [.ref a0]))) rfl ?_
  obtain ⟨b17_6, hxb17_6, h⟩ := Option.bind_eq_some_iff.mp h
  refine gg_gR aMi83 rfl rfl rfl hxb17_6 ?_
  obtain ⟨b20_7, hxb20_7, h⟩ := Option.bind_eq_some_iff.mp h
  refine gg_gR aMi83 rfl rfl rfl hxb20_7 ?_
  obtain ⟨u23_8, hxu23_8, h⟩ := Option.bind_eq_some_iff.mp h
  obtain ⟨r23_9, hxr23_9, h⟩ := Option.bind_eq_some_iff.mp h
  refine gg_cv (as := []) (r := []) aMi83 rfl rfl rfl aMi63 (Nat.le_of_ble_eq_true rfl) rfl (Nat.le_of_ble_eq_true rfl) (Nat.le_of_ble_eq_true rfl) (by omega) hxu23_8 (Tf63 (by omega) b20_7 r13_5.2 _ hxr23_9) ?_
  show aGo kad d 83 (26, ([(0, .ref a0), (1, .ref a1)], [.int r23_9.1])) (aMem Z r23_9.2, t) _
  refine gg_br (b := decide (r23_9.1 ≤ 0)) (tg := 36) (off := 10) aMi83 rfl rfl rfl rfl (fun hb => ?_) (fun hb => ?_)
  · rw [if_pos (of_decide_eq_true hb)] at h
    refine go_ops aMi83 1 _ (f1 := (37, ([(0, .ref a0), (1, .ref a1)], [.ref a0]))) rfl ?_
    obtain ⟨b37_10, hxb37_10, h⟩ := Option.bind_eq_some_iff.mp h
    refine gg_gR aMi83 rfl rfl rfl hxb37_10 ?_
    obtain ⟨x40_11, hxx40_11, h⟩ := Option.bind_eq_some_iff.mp h
    refine gg_gI aMi83 rfl rfl rfl hxx40_11 ?_
    refine gg_br (b := decide (x40_11 = 0)) (tg := 73) (off := 30) aMi83 rfl rfl rfl rfl (fun hb => ?_) (fun hb => ?_)
    · rw [if_pos (of_decide_eq_true hb)] at h
      refine go_le (lv1 := [(0, .ref a0)]) (aLe_of (show (List.map (fun q => q.1) ([(0, .ref a0)] : ALv)).Nodup from (by show ([0] : List Nat).Nodup; decide)) (aSubL_cons rfl aSubL_nil)) ?_
      exact Tf83_b73 hd a0 r23_9.2 _ h
    · rw [if_neg (of_decide_eq_false hb)] at h
      refine go_ops aMi83 1 _ (f1 := (47, ([(0, .ref a0), (1, .ref a1)], [.ref a0]))) rfl ?_
      obtain ⟨b47_12, hxb47_12, h⟩ := Option.bind_eq_some_iff.mp h
      refine gg_gR aMi83 rfl rfl rfl hxb47_12 ?_
      obtain ⟨x50_13, hxx50_13, h⟩ := Option.bind_eq_some_iff.mp h
      refine gg_gI aMi83 rfl rfl rfl hxx50_13 ?_
      refine gg_br (b := decide (¬ x50_13 = 0)) (tg := 66) (off := 13) aMi83 rfl rfl rfl rfl (fun hb => ?_) (fun hb => ?_)
      · rw [if_pos (of_decide_eq_true hb)] at h
        refine go_le (lv1 := [(0, .ref a0)]) (aLe_of (show (List.map (fun q => q.1) ([(0, .ref a0)] : ALv)).Nodup from (by show ([0] : List Nat).Nodup; decide)) (aSubL_cons rfl aSubL_nil)) ?_
        exact Tf83_b66 hd a0 r23_9.2 _ h
      · rw [if_neg (of_decide_eq_false hb)] at h
        refine go_ops aMi83 1 _ (f1 := (57, ([(0, .ref a0), (1, .ref a1)], [.ref a0]))) rfl ?_
        obtain ⟨b57_14, hxb57_14, h⟩ := Option.bind_eq_some_iff.mp h
        refine gg_gR aMi83 rfl rfl rfl hxb57_14 ?_
        obtain ⟨x60_15, hxx60_15, h⟩ := Option.bind_eq_some_iff.mp h
        refine gg_gI aMi83 rfl rfl rfl hxx60_15 ?_
        refine gg_br (b := decide (x60_15 = 0)) (tg := 73) (off := 10) aMi83 rfl rfl rfl rfl (fun hb => ?_) (fun hb => ?_)
        · rw [if_pos (of_decide_eq_true hb)] at h
          refine go_le (lv1 := [(0, .ref a0)]) (aLe_of (show (List.map (fun q => q.1) ([(0, .ref a0)] : ALv)).Nodup from (by show ([0] : List Nat).Nodup; decide)) (aSubL_cons rfl aSubL_nil)) ?_
          exact Tf83_b73 hd a0 r23_9.2 _ h
        · rw [if_neg (of_decide_eq_false hb)] at h
          refine go_le (lv1 := [(0, .ref a0)]) (aLe_of (show (List.map (fun q => q.1) ([(0, .ref a0)] : ALv)).Nodup from (by show ([0] : List Nat).Nodup; decide)) (aSubL_cons rfl aSubL_nil)) ?_
          exact Tf83_b66 hd a0 r23_9.2 _ h
  · rw [if_neg (of_decide_eq_false hb)] at h
    refine go_ops aMi83 1 _ (f1 := (30, ([(0, .ref a0), (1, .ref a1)], [.ref a0]))) rfl ?_
    obtain ⟨u30_16, hxu30_16, h⟩ := Option.bind_eq_some_iff.mp h
    obtain ⟨r30_17, hxr30_17, h⟩ := Option.bind_eq_some_iff.mp h
    refine gg_cv (as := []) (r := []) aMi83 rfl rfl rfl aMi109 (Nat.le_of_ble_eq_true rfl) rfl (Nat.le_of_ble_eq_true rfl) (Nat.le_of_ble_eq_true rfl) (by omega) hxu30_16 (Tf109 (by omega) a0 r23_9.2 _ hxr30_17) ?_
    show aGo kad d 83 (33, ([(0, .ref a0), (1, .ref a1)], [])) (aMem Z r30_17.2, t) _
    refine go_ops aMi83 1 _ (f1 := (77, ([(0, .ref a0), (1, .ref a1)], []))) rfl ?_
    refine go_le (lv1 := [(0, .ref a0)]) (aLe_of (show (List.map (fun q => q.1) ([(0, .ref a0)] : ALv)).Nodup from (by show ([0] : List Nat).Nodup; decide)) (aSubL_cons rfl aSubL_nil)) ?_
    exact Tf83_b77 hd a0 r30_17.2 _ h
-- KernelGym$Machine.takeBack (LKernelGym$Kept;)V
def f84_b46 (kad : Nat → Nat) (N : Nat) (Z : AZ) (k7 : Nat → Nat → Int32 → AI → Option (Unit × AI)) (a0 : Nat) (a1 : Nat) (i2 : Int32) (I : AI) : Option (Unit × AI) :=
  k7 a0 a1 (i2 + (Int32.ofInt (-1))) I
set_option maxRecDepth 20000 in
theorem Tf84_b46 {kad : Nat → Nat} {N : Nat} {Z : AZ} {d : Nat} {t : Option Nat × (Nat × Nat)} (hd : 2 ≤ d) (k7 : Nat → Nat → Int32 → AI → Option (Unit × AI))  (hk7 : ∀ (a0 : Nat) (a1 : Nat) (i2 : Int32)  (I : AI) (r : Unit × AI), k7 a0 a1 i2 I = some r → aGo kad d 84 (7, ([(0, .ref a0), (1, .ref a1), (2, .int i2)], [])) (aMem Z I, t) (qV Z t r)) : ∀ (a0 : Nat) (a1 : Nat) (i2 : Int32) (I : AI) (r : Unit × AI), f84_b46 kad N Z k7 a0 a1 i2 I = some r → aGo kad d 84 (46, ([(0, .ref a0), (1, .ref a1), (2, .int i2)], [])) (aMem Z I, t) (qV Z t r) := by
  intro a0 a1 i2 I r h
  unfold f84_b46 at h
  refine go_ops aMi84 2 _ (f1 := (7, ([(2, .int (i2 + (Int32.ofInt (-1)))), (0, .ref a0), (1, .ref a1)], []))) rfl ?_
  refine go_le (lv1 := [(0, .ref a0), (1, .ref a1), (2, .int (i2 + (Int32.ofInt (-1))))]) (aLe_of (show (List.map (fun q => q.1) ([(0, .ref a0), (1, .ref a1), (2, .int (i2 + (Int32.ofInt (-1))))] : ALv)).Nodup from (by show ([0, 1, 2] : List Nat).Nodup; decide)) (aSubL_cons rfl (aSubL_cons rfl (aSubL_cons rfl aSubL_nil)))) ?_
  exact hk7 a0 a1 (i2 + (Int32.ofInt (-1))) I _ h
def f84_b52 (kad : Nat → Nat) (N : Nat) (Z : AZ) (a0 : Nat) (a1 : Nat) (I : AI) : Option (Unit × AI) :=
  (gR Z I 8 3 a0).bind fun b53_1 =>
  (gI Z I 5 4 a1).bind fun x57_2 =>
  (gR Z I 5 5 a1).bind fun b61_3 =>
  (isK Z b53_1 3).bind fun u64_4 =>
  (f45 kad N Z b53_1 x57_2 b61_3 I).bind fun r64_5 =>
  (gR Z r64_5.2 8 0 a0).bind fun b68_6 =>
  (gR Z r64_5.2 5 0 a1).bind fun b72_7 =>
  (isK Z b68_6 2).bind fun u75_8 =>
  (f38 kad N Z b68_6 b72_7 r64_5.2).bind fun r75_9 =>
  some ((), r75_9.2)
set_option maxRecDepth 20000 in
theorem Tf84_b52 {kad : Nat → Nat} {N : Nat} {Z : AZ} {d : Nat} {t : Option Nat × (Nat × Nat)} (hd : 2 ≤ d) : ∀ (a0 : Nat) (a1 : Nat) (I : AI) (r : Unit × AI), f84_b52 kad N Z a0 a1 I = some r → aGo kad d 84 (52, ([(0, .ref a0), (1, .ref a1)], [])) (aMem Z I, t) (qV Z t r) := by
  intro a0 a1 I r h
  unfold f84_b52 at h
  refine go_ops aMi84 1 _ (f1 := (53, ([(0, .ref a0), (1, .ref a1)], [.ref a0]))) rfl ?_
  obtain ⟨b53_1, hxb53_1, h⟩ := Option.bind_eq_some_iff.mp h
  refine gg_gR aMi84 rfl rfl rfl hxb53_1 ?_
  refine go_ops aMi84 1 _ (f1 := (57, ([(0, .ref a0), (1, .ref a1)], [.ref a1, .ref b53_1]))) rfl ?_
  obtain ⟨x57_2, hxx57_2, h⟩ := Option.bind_eq_some_iff.mp h
  refine gg_gI aMi84 rfl rfl rfl hxx57_2 ?_
  refine go_ops aMi84 1 _ (f1 := (61, ([(0, .ref a0), (1, .ref a1)], [.ref a1, .int x57_2, .ref b53_1]))) rfl ?_
  obtain ⟨b61_3, hxb61_3, h⟩ := Option.bind_eq_some_iff.mp h
  refine gg_gR aMi84 rfl rfl rfl hxb61_3 ?_
  obtain ⟨u64_4, hxu64_4, h⟩ := Option.bind_eq_some_iff.mp h
  obtain ⟨r64_5, hxr64_5, h⟩ := Option.bind_eq_some_iff.mp h
  refine gg_cv (as := [.int x57_2, .ref b61_3]) (r := []) aMi84 rfl rfl rfl aMi45 (Nat.le_of_ble_eq_true rfl) rfl (Nat.le_of_ble_eq_true rfl) (Nat.le_of_ble_eq_true rfl) (by omega) hxu64_4 (Tf45 (by omega) b53_1 x57_2 b61_3 I _ hxr64_5) ?_
  show aGo kad d 84 (67, ([(0, .ref a0), (1, .ref a1)], [])) (aMem Z r64_5.2, t) _
  refine go_ops aMi84 1 _ (f1 := (68, ([(0, .ref a0), (1, .ref a1)], [.ref a0]))) rfl ?_
  obtain ⟨b68_6, hxb68_6, h⟩ := Option.bind_eq_some_iff.mp h
  refine gg_gR aMi84 rfl rfl rfl hxb68_6 ?_
  refine go_ops aMi84 1 _ (f1 := (72, ([(0, .ref a0), (1, .ref a1)], [.ref a1, .ref b68_6]))) rfl ?_
  obtain ⟨b72_7, hxb72_7, h⟩ := Option.bind_eq_some_iff.mp h
  refine gg_gR aMi84 rfl rfl rfl hxb72_7 ?_
  obtain ⟨u75_8, hxu75_8, h⟩ := Option.bind_eq_some_iff.mp h
  obtain ⟨r75_9, hxr75_9, h⟩ := Option.bind_eq_some_iff.mp h
  refine gg_cv (as := [.ref b72_7]) (r := []) aMi84 rfl rfl rfl aMi38 (Nat.le_of_ble_eq_true rfl) rfl (Nat.le_of_ble_eq_true rfl) (Nat.le_of_ble_eq_true rfl) (by omega) hxu75_8 (Tf38 (by omega) b68_6 b72_7 r64_5.2 _ hxr75_9) ?_
  show aGo kad d 84 (78, ([(0, .ref a0), (1, .ref a1)], [])) (aMem Z r75_9.2, t) _
  cases h
  exact go_ret aMi84 rfl rfl ⟨rfl, rfl⟩
def f84_b7 (kad : Nat → Nat) (N : Nat) (Z : AZ) : Nat → Nat → Nat → Int32 → AI → Option (Unit × AI)
  | 0, _, _, _, _ => none
  | F + 1, a0, a1, i2, I =>
    if i2 < 0 then
      f84_b52 kad N Z a0 a1 I
    else
      if (2 : Int32) ≤ i2 then
        f84_b52 kad N Z a0 a1 I
      else
        (gR Z I 5 2 a1).bind fun b17_1 =>
        (lI Z I 100 b17_1 i2).bind fun x21_2 =>
        if x21_2 < 0 then
          f84_b46 kad N Z (fun p0 p1 p2 I => f84_b7 kad N Z F p0 p1 p2 I) a0 a1 i2 I
        else
          if (256 : Int32) ≤ x21_2 then
            f84_b46 kad N Z (fun p0 p1 p2 I => f84_b7 kad N Z F p0 p1 p2 I) a0 a1 i2 I
          else
            (gR Z I 8 1 a0).bind fun b35_3 =>
            (gR Z I 5 3 a1).bind fun b40_4 =>
            (lI Z I 100 b40_4 i2).bind fun x44_5 =>
            (sI Z I 100 b35_3 x21_2 x44_5).bind fun I45_6 =>
            f84_b46 kad N Z (fun p0 p1 p2 I => f84_b7 kad N Z F p0 p1 p2 I) a0 a1 i2 I45_6
set_option maxRecDepth 20000 in
theorem Tf84_b7 {kad : Nat → Nat} {N : Nat} {Z : AZ} {d : Nat} {t : Option Nat × (Nat × Nat)} (hd : 2 ≤ d) : ∀ (F : Nat) (a0 : Nat) (a1 : Nat) (i2 : Int32) (I : AI) (r : Unit × AI), f84_b7 kad N Z F a0 a1 i2 I = some r → aGo kad d 84 (7, ([(0, .ref a0), (1, .ref a1), (2, .int i2)], [])) (aMem Z I, t) (qV Z t r) := by
  intro F
  induction F with
  | zero => intro a0 a1 i2 I r h; cases h
  | succ F ih =>
    intro a0 a1 i2 I r h
    unfold f84_b7 at h
    refine go_ops aMi84 1 _ (f1 := (8, ([(0, .ref a0), (1, .ref a1), (2, .int i2)], [.int i2]))) rfl ?_
    refine gg_br (b := decide (i2 < 0)) (tg := 52) (off := 44) aMi84 rfl rfl rfl rfl (fun hb => ?_) (fun hb => ?_)
    · rw [if_pos (of_decide_eq_true hb)] at h
      refine go_le (lv1 := [(0, .ref a0), (1, .ref a1)]) (aLe_of (show (List.map (fun q => q.1) ([(0, .ref a0), (1, .ref a1)] : ALv)).Nodup from (by show ([0, 1] : List Nat).Nodup; decide)) (aSubL_cons rfl (aSubL_cons rfl aSubL_nil))) ?_
      exact Tf84_b52 hd a0 a1 I _ h
    · rw [if_neg (of_decide_eq_false hb)] at h
      refine go_ops aMi84 2 _ (f1 := (13, ([(0, .ref a0), (1, .ref a1), (2, .int i2)], [.int (2 : Int32), .int i2]))) rfl ?_
      refine gg_br (b := decide ((2 : Int32) ≤ i2)) (tg := 52) (off := 39) aMi84 rfl rfl rfl rfl (fun hb => ?_) (fun hb => ?_)
      · rw [if_pos (of_decide_eq_true hb)] at h
        refine go_le (lv1 := [(0, .ref a0), (1, .ref a1)]) (aLe_of (show (List.map (fun q => q.1) ([(0, .ref a0), (1, .ref a1)] : ALv)).Nodup from (by show ([0, 1] : List Nat).Nodup; decide)) (aSubL_cons rfl (aSubL_cons rfl aSubL_nil))) ?_
        exact Tf84_b52 hd a0 a1 I _ h
      · rw [if_neg (of_decide_eq_false hb)] at h
        refine go_ops aMi84 1 _ (f1 := (17, ([(0, .ref a0), (1, .ref a1), (2, .int i2)], [.ref a1]))) rfl ?_
        obtain ⟨b17_1, hxb17_1, h⟩ := Option.bind_eq_some_iff.mp h
        refine gg_gR aMi84 rfl rfl rfl hxb17_1 ?_
        refine go_ops aMi84 1 _ (f1 := (21, ([(0, .ref a0), (1, .ref a1), (2, .int i2)], [.int i2, .ref b17_1]))) rfl ?_
        obtain ⟨x21_2, hxx21_2, h⟩ := Option.bind_eq_some_iff.mp h
        refine gg_lI (Or.inl ⟨rfl, rfl⟩) aMi84 rfl hxx21_2 ?_
        refine go_ops aMi84 2 _ (f1 := (24, ([(3, .int x21_2), (0, .ref a0), (1, .ref a1), (2, .int i2)], [.int x21_2]))) rfl ?_
        refine gg_br (b := decide (x21_2 < 0)) (tg := 46) (off := 22) aMi84 rfl rfl rfl rfl (fun hb => ?_) (fun hb => ?_)
        · rw [if_pos (of_decide_eq_true hb)] at h
          refine go_le (lv1 := [(0, .ref a0), (1, .ref a1), (2, .int i2)]) (aLe_of (show (List.map (fun q => q.1) ([(0, .ref a0), (1, .ref a1), (2, .int i2)] : ALv)).Nodup from (by show ([0, 1, 2] : List Nat).Nodup; decide)) (aSubL_cons rfl (aSubL_cons rfl (aSubL_cons rfl aSubL_nil)))) ?_
          exact Tf84_b46 hd (fun p0 p1 p2 I => f84_b7 kad N Z F p0 p1 p2 I) (fun p0 p1 p2 I r hh => ih p0 p1 p2 I r hh) a0 a1 i2 I _ h
        · rw [if_neg (of_decide_eq_false hb)] at h
          refine go_ops aMi84 2 _ (f1 := (31, ([(3, .int x21_2), (0, .ref a0), (1, .ref a1), (2, .int i2)], [.int (256 : Int32), .int x21_2]))) rfl ?_
          refine gg_br (b := decide ((256 : Int32) ≤ x21_2)) (tg := 46) (off := 15) aMi84 rfl rfl rfl rfl (fun hb => ?_) (fun hb => ?_)
          · rw [if_pos (of_decide_eq_true hb)] at h
            refine go_le (lv1 := [(0, .ref a0), (1, .ref a1), (2, .int i2)]) (aLe_of (show (List.map (fun q => q.1) ([(0, .ref a0), (1, .ref a1), (2, .int i2)] : ALv)).Nodup from (by show ([0, 1, 2] : List Nat).Nodup; decide)) (aSubL_cons rfl (aSubL_cons rfl (aSubL_cons rfl aSubL_nil)))) ?_
            exact Tf84_b46 hd (fun p0 p1 p2 I => f84_b7 kad N Z F p0 p1 p2 I) (fun p0 p1 p2 I r hh => ih p0 p1 p2 I r hh) a0 a1 i2 I _ h
          · rw [if_neg (of_decide_eq_false hb)] at h
            refine go_ops aMi84 1 _ (f1 := (35, ([(3, .int x21_2), (0, .ref a0), (1, .ref a1), (2, .int i2)], [.ref a0]))) rfl ?_
            obtain ⟨b35_3, hxb35_3, h⟩ := Option.bind_eq_some_iff.mp h
            refine gg_gR aMi84 rfl rfl rfl hxb35_3 ?_
            refine go_ops aMi84 2 _ (f1 := (40, ([(3, .int x21_2), (0, .ref a0), (1, .ref a1), (2, .int i2)], [.ref a1, .int x21_2, .ref b35_3]))) rfl ?_
            obtain ⟨b40_4, hxb40_4, h⟩ := Option.bind_eq_some_iff.mp h
            refine gg_gR aMi84 rfl rfl rfl hxb40_4 ?_
            refine go_ops aMi84 1 _ (f1 := (44, ([(3, .int x21_2), (0, .ref a0), (1, .ref a1), (2, .int i2)], [.int i2, .ref b40_4, .int x21_2, .ref b35_3]))) rfl ?_
            obtain ⟨x44_5, hxx44_5, h⟩ := Option.bind_eq_some_iff.mp h
            refine gg_lI (Or.inl ⟨rfl, rfl⟩) aMi84 rfl hxx44_5 ?_
            obtain ⟨I45_6, hxI45_6, h⟩ := Option.bind_eq_some_iff.mp h
            refine gg_sI (Or.inl ⟨rfl, rfl⟩) aMi84 rfl hxI45_6 ?_
            refine go_le (lv1 := [(0, .ref a0), (1, .ref a1), (2, .int i2)]) (aLe_of (show (List.map (fun q => q.1) ([(0, .ref a0), (1, .ref a1), (2, .int i2)] : ALv)).Nodup from (by show ([0, 1, 2] : List Nat).Nodup; decide)) (aSubL_cons rfl (aSubL_cons rfl (aSubL_cons rfl aSubL_nil)))) ?_
            exact Tf84_b46 hd (fun p0 p1 p2 I => f84_b7 kad N Z F p0 p1 p2 I) (fun p0 p1 p2 I r hh => ih p0 p1 p2 I r hh) a0 a1 i2 I45_6 _ h
def f84 (kad : Nat → Nat) (N : Nat) (Z : AZ) (a0 : Nat) (a1 : Nat) (I : AI) : Option (Unit × AI) :=
  (gI Z I 5 1 a1).bind fun x1_1 =>
  f84_b7 kad N Z N a0 a1 (x1_1 - (1 : Int32)) I
set_option maxRecDepth 20000 in
theorem Tf84 {kad : Nat → Nat} {N : Nat} {Z : AZ} {d : Nat} {t : Option Nat × (Nat × Nat)} (hd : 2 ≤ d) : ∀ (a0 : Nat) (a1 : Nat) (I : AI) (r : Unit × AI), f84 kad N Z a0 a1 I = some r → aGo kad d 84 (0, ([(0, .ref a0), (1, .ref a1)], [])) (aMem Z I, t) (qV Z t r) := by
  intro a0 a1 I r h
  unfold f84 at h
  refine go_ops aMi84 1 _ (f1 := (1, ([(0, .ref a0), (1, .ref a1)], [.ref a1]))) rfl ?_
  obtain ⟨x1_1, hxx1_1, h⟩ := Option.bind_eq_some_iff.mp h
  refine gg_gI aMi84 rfl rfl rfl hxx1_1 ?_
  refine go_ops aMi84 3 _ (f1 := (7, ([(2, .int (x1_1 - (1 : Int32))), (0, .ref a0), (1, .ref a1)], []))) rfl ?_
  refine go_le (lv1 := [(0, .ref a0), (1, .ref a1), (2, .int (x1_1 - (1 : Int32)))]) (aLe_of (show (List.map (fun q => q.1) ([(0, .ref a0), (1, .ref a1), (2, .int (x1_1 - (1 : Int32)))] : ALv)).Nodup from (by show ([0, 1, 2] : List Nat).Nodup; decide)) (aSubL_cons rfl (aSubL_cons rfl (aSubL_cons rfl aSubL_nil)))) ?_
  exact Tf84_b7 hd N a0 a1 (x1_1 - (1 : Int32)) I _ h
-- KernelGym$Machine.hasOnTape ([II)Z
def f111_b52 (kad : Nat → Nat) (N : Nat) (Z : AZ)  (I : AI) : Option (Int32 × AI) :=
  if (1 : Int32) = 0 ∨ (1 : Int32) = 1 then some ((1 : Int32), I) else none
set_option maxRecDepth 20000 in
theorem Tf111_b52 {kad : Nat → Nat} {N : Nat} {Z : AZ} {d : Nat} {t : Option Nat × (Nat × Nat)} (hd : 0 ≤ d) : ∀  (I : AI) (r : Int32 × AI), f111_b52 kad N Z  I = some r → aGo kad d 111 (52, ([], [])) (aMem Z I, t) (qI Z t r) := by
  intro  I r h
  unfold f111_b52 at h
  refine go_ops aMi111 1 _ (f1 := (53, ([], [.int (1 : Int32)]))) rfl ?_
  split at h
  · rename_i hz
    cases h
    exact go_ret aMi111 rfl (aRetZ hz) ⟨rfl, rfl⟩
  · cases h
def f111_b15 (kad : Nat → Nat) (N : Nat) (Z : AZ) : Nat → Nat → Nat → Int32 → Int32 → AI → Option (Int32 × AI)
  | 0, _, _, _, _, _ => none
  | F + 1, a0, a1, i2, i3, I =>
    if i2 ≤ i3 then
      f111_b52 kad N Z  I
    else
      (nL Z a1).bind fun x22_1 =>
      if x22_1 ≤ i3 then
        f111_b52 kad N Z  I
      else
        if (60 : Int32) ≤ i3 then
          f111_b52 kad N Z  I
        else
          (gR Z I 8 2 a0).bind fun b33_2 =>
          (lI Z I 100 b33_2 i3).bind fun x37_3 =>
          (lI Z I 100 a1 i3).bind fun x40_4 =>
          if x37_3 = x40_4 then
            f111_b15 kad N Z F a0 a1 i2 (i3 + (1 : Int32)) I
          else
            if (0 : Int32) = 0 ∨ (0 : Int32) = 1 then some ((0 : Int32), I) else none
set_option maxRecDepth 20000 in
theorem Tf111_b15 {kad : Nat → Nat} {N : Nat} {Z : AZ} {d : Nat} {t : Option Nat × (Nat × Nat)} (hd : 0 ≤ d) : ∀ (F : Nat) (a0 : Nat) (a1 : Nat) (i2 : Int32) (i3 : Int32) (I : AI) (r : Int32 × AI), f111_b15 kad N Z F a0 a1 i2 i3 I = some r → aGo kad d 111 (15, ([(0, .ref a0), (1, .ref a1), (2, .int i2), (3, .int i3)], [])) (aMem Z I, t) (qI Z t r) := by
  intro F
  induction F with
  | zero => intro a0 a1 i2 i3 I r h; cases h
  | succ F ih =>
    intro a0 a1 i2 i3 I r h
    unfold f111_b15 at h
    refine go_ops aMi111 2 _ (f1 := (17, ([(0, .ref a0), (1, .ref a1), (2, .int i2), (3, .int i3)], [.int i2, .int i3]))) rfl ?_
    refine gg_br (b := decide (i2 ≤ i3)) (tg := 52) (off := 35) aMi111 rfl rfl rfl rfl (fun hb => ?_) (fun hb => ?_)
    · rw [if_pos (of_decide_eq_true hb)] at h
      refine go_le (lv1 := []) (aLe_of (show (List.map (fun q => q.1) ([] : ALv)).Nodup from (by show ([] : List Nat).Nodup; decide)) aSubL_nil) ?_
      exact Tf111_b52 hd  I _ h
    · rw [if_neg (of_decide_eq_false hb)] at h
      refine go_ops aMi111 2 _ (f1 := (22, ([(0, .ref a0), (1, .ref a1), (2, .int i2), (3, .int i3)], [.ref a1, .int i3]))) rfl ?_
      obtain ⟨x22_1, hxx22_1, h⟩ := Option.bind_eq_some_iff.mp h
      refine gg_len aMi111 rfl hxx22_1 ?_
      refine gg_br (b := decide (x22_1 ≤ i3)) (tg := 52) (off := 29) aMi111 rfl rfl rfl rfl (fun hb => ?_) (fun hb => ?_)
      · rw [if_pos (of_decide_eq_true hb)] at h
        refine go_le (lv1 := []) (aLe_of (show (List.map (fun q => q.1) ([] : ALv)).Nodup from (by show ([] : List Nat).Nodup; decide)) aSubL_nil) ?_
        exact Tf111_b52 hd  I _ h
      · rw [if_neg (of_decide_eq_false hb)] at h
        refine go_ops aMi111 2 _ (f1 := (29, ([(0, .ref a0), (1, .ref a1), (2, .int i2), (3, .int i3)], [.int (60 : Int32), .int i3]))) rfl ?_
        refine gg_br (b := decide ((60 : Int32) ≤ i3)) (tg := 52) (off := 23) aMi111 rfl rfl rfl rfl (fun hb => ?_) (fun hb => ?_)
        · rw [if_pos (of_decide_eq_true hb)] at h
          refine go_le (lv1 := []) (aLe_of (show (List.map (fun q => q.1) ([] : ALv)).Nodup from (by show ([] : List Nat).Nodup; decide)) aSubL_nil) ?_
          exact Tf111_b52 hd  I _ h
        · rw [if_neg (of_decide_eq_false hb)] at h
          refine go_ops aMi111 1 _ (f1 := (33, ([(0, .ref a0), (1, .ref a1), (2, .int i2), (3, .int i3)], [.ref a0]))) rfl ?_
          obtain ⟨b33_2, hxb33_2, h⟩ := Option.bind_eq_some_iff.mp h
          refine gg_gR aMi111 rfl rfl rfl hxb33_2 ?_
          refine go_ops aMi111 1 _ (f1 := (37, ([(0, .ref a0), (1, .ref a1), (2, .int i2), (3, .int i3)], [.int i3, .ref b33_2]))) rfl ?_
          obtain ⟨x37_3, hxx37_3, h⟩ := Option.bind_eq_some_iff.mp h
          refine gg_lI (Or.inl ⟨rfl, rfl⟩) aMi111 rfl hxx37_3 ?_
          refine go_ops aMi111 2 _ (f1 := (40, ([(0, .ref a0), (1, .ref a1), (2, .int i2), (3, .int i3)], [.int i3, .ref a1, .int x37_3]))) rfl ?_
          obtain ⟨x40_4, hxx40_4, h⟩ := Option.bind_eq_some_iff.mp h
          refine gg_lI (Or.inl ⟨rfl, rfl⟩) aMi111 rfl hxx40_4 ?_
          refine gg_br (b := decide (x37_3 = x40_4)) (tg := 46) (off := 5) aMi111 rfl rfl rfl rfl (fun hb => ?_) (fun hb => ?_)
          · rw [if_pos (of_decide_eq_true hb)] at h
            refine go_ops aMi111 2 _ (f1 := (15, ([(3, .int (i3 + (1 : Int32))), (0, .ref a0), (1, .ref a1), (2, .int i2)], []))) rfl ?_
            refine go_le (lv1 := [(0, .ref a0), (1, .ref a1), (2, .int i2), (3, .int (i3 + (1 : Int32)))]) (aLe_of (show (List.map (fun q => q.1) ([(0, .ref a0), (1, .ref a1), (2, .int i2), (3, .int (i3 + (1 : Int32)))] : ALv)).Nodup from (by show ([0, 1, 2, 3] : List Nat).Nodup; decide)) (aSubL_cons rfl (aSubL_cons rfl (aSubL_cons rfl (aSubL_cons rfl aSubL_nil))))) ?_
            exact ih a0 a1 i2 (i3 + (1 : Int32)) I _ h
          · rw [if_neg (of_decide_eq_false hb)] at h
            refine go_ops aMi111 1 _ (f1 := (45, ([(0, .ref a0), (1, .ref a1), (2, .int i2), (3, .int i3)], [.int (0 : Int32)]))) rfl ?_
            split at h
            · rename_i hz
              cases h
              exact go_ret aMi111 rfl (aRetZ hz) ⟨rfl, rfl⟩
            · cases h
def f111 (kad : Nat → Nat) (N : Nat) (Z : AZ) (a0 : Nat) (a1 : Nat) (i2 : Int32) (I : AI) : Option (Int32 × AI) :=
  (gR Z I 8 0 a0).bind fun b1_1 =>
  (gI Z I 2 12 b1_1).bind fun x4_2 =>
  if x4_2 = i2 then
    f111_b15 kad N Z N a0 a1 i2 (0 : Int32) I
  else
    if (0 : Int32) = 0 ∨ (0 : Int32) = 1 then some ((0 : Int32), I) else none
set_option maxRecDepth 20000 in
theorem Tf111 {kad : Nat → Nat} {N : Nat} {Z : AZ} {d : Nat} {t : Option Nat × (Nat × Nat)} (hd : 0 ≤ d) : ∀ (a0 : Nat) (a1 : Nat) (i2 : Int32) (I : AI) (r : Int32 × AI), f111 kad N Z a0 a1 i2 I = some r → aGo kad d 111 (0, ([(0, .ref a0), (1, .ref a1), (2, .int i2)], [])) (aMem Z I, t) (qI Z t r) := by
  intro a0 a1 i2 I r h
  unfold f111 at h
  refine go_ops aMi111 1 _ (f1 := (1, ([(0, .ref a0), (1, .ref a1), (2, .int i2)], [.ref a0]))) rfl ?_
  obtain ⟨b1_1, hxb1_1, h⟩ := Option.bind_eq_some_iff.mp h
  refine gg_gR aMi111 rfl rfl rfl hxb1_1 ?_
  obtain ⟨x4_2, hxx4_2, h⟩ := Option.bind_eq_some_iff.mp h
  refine gg_gI aMi111 rfl rfl rfl hxx4_2 ?_
  refine go_ops aMi111 1 _ (f1 := (8, ([(0, .ref a0), (1, .ref a1), (2, .int i2)], [.int i2, .int x4_2]))) rfl ?_
  refine gg_br (b := decide (x4_2 = i2)) (tg := 13) (off := 5) aMi111 rfl rfl rfl rfl (fun hb => ?_) (fun hb => ?_)
  · rw [if_pos (of_decide_eq_true hb)] at h
    refine go_ops aMi111 2 _ (f1 := (15, ([(3, .int (0 : Int32)), (0, .ref a0), (1, .ref a1), (2, .int i2)], []))) rfl ?_
    refine go_le (lv1 := [(0, .ref a0), (1, .ref a1), (2, .int i2), (3, .int (0 : Int32))]) (aLe_of (show (List.map (fun q => q.1) ([(0, .ref a0), (1, .ref a1), (2, .int i2), (3, .int (0 : Int32))] : ALv)).Nodup from (by show ([0, 1, 2, 3] : List Nat).Nodup; decide)) (aSubL_cons rfl (aSubL_cons rfl (aSubL_cons rfl (aSubL_cons rfl aSubL_nil))))) ?_
    exact Tf111_b15 hd N a0 a1 i2 (0 : Int32) I _ h
  · rw [if_neg (of_decide_eq_false hb)] at h
    refine go_ops aMi111 1 _ (f1 := (12, ([(0, .ref a0), (1, .ref a1), (2, .int i2)], [.int (0 : Int32)]))) rfl ?_
    split at h
    · rename_i hz
      cases h
      exact go_ret aMi111 rfl (aRetZ hz) ⟨rfl, rfl⟩
    · cases h
-- KernelGym$Machine.sumWith (II)I
def f113 (kad : Nat → Nat) (N : Nat) (Z : AZ) (i0 : Int32) (i1 : Int32) (I : AI) : Option (Int32 × AI) :=
  some (((((31 : Int32) * i0) + i1) - (((31 : Int32) * i0) + i1) / (1000003 : Int32) * (1000003 : Int32)), I)
set_option maxRecDepth 20000 in
theorem Tf113 {kad : Nat → Nat} {N : Nat} {Z : AZ} {d : Nat} {t : Option Nat × (Nat × Nat)} (hd : 0 ≤ d) : ∀ (i0 : Int32) (i1 : Int32) (I : AI) (r : Int32 × AI), f113 kad N Z i0 i1 I = some r → aGo kad d 113 (0, ([(0, .int i0), (1, .int i1)], [])) (aMem Z I, t) (qI Z t r) := by
  intro i0 i1 I r h
  unfold f113 at h
  refine go_ops aMi113 5 _ (f1 := (6, ([(0, .int i0), (1, .int i1)], [.int (((31 : Int32) * i0) + i1)]))) rfl ?_
  refine gg_kI (Or.inr ⟨rfl, rfl⟩) aMi113 rfl rfl ?_
  refine go_ops aMi113 1 _ (f1 := (10, ([(0, .int i0), (1, .int i1)], [.int ((((31 : Int32) * i0) + i1) - (((31 : Int32) * i0) + i1) / (1000003 : Int32) * (1000003 : Int32))]))) rfl ?_
  cases h
  exact go_ret aMi113 rfl aRetI ⟨rfl, rfl⟩
-- KernelGym$Machine.sumWithAll (I[II)I
def f114_b33 (kad : Nat → Nat) (N : Nat) (Z : AZ) (i3 : Int32) (I : AI) : Option (Int32 × AI) :=
  some (i3, I)
set_option maxRecDepth 20000 in
theorem Tf114_b33 {kad : Nat → Nat} {N : Nat} {Z : AZ} {d : Nat} {t : Option Nat × (Nat × Nat)} (hd : 1 ≤ d) : ∀ (i3 : Int32) (I : AI) (r : Int32 × AI), f114_b33 kad N Z i3 I = some r → aGo kad d 114 (33, ([(3, .int i3)], [])) (aMem Z I, t) (qI Z t r) := by
  intro i3 I r h
  unfold f114_b33 at h
  refine go_ops aMi114 1 _ (f1 := (34, ([(3, .int i3)], [.int i3]))) rfl ?_
  cases h
  exact go_ret aMi114 rfl aRetI ⟨rfl, rfl⟩
def f114_b5 (kad : Nat → Nat) (N : Nat) (Z : AZ) : Nat → Nat → Int32 → Int32 → Int32 → AI → Option (Int32 × AI)
  | 0, _, _, _, _, _ => none
  | F + 1, a1, i2, i3, i4, I =>
    if i2 ≤ i4 then
      f114_b33 kad N Z i3 I
    else
      (nL Z a1).bind fun x14_1 =>
      if x14_1 ≤ i4 then
        f114_b33 kad N Z i3 I
      else
        (lI Z I 100 a1 i4).bind fun x22_2 =>
        (f113 kad N Z i3 x22_2 I).bind fun r23_3 =>
        f114_b5 kad N Z F a1 i2 r23_3.1 (i4 + (1 : Int32)) r23_3.2
set_option maxRecDepth 20000 in
theorem Tf114_b5 {kad : Nat → Nat} {N : Nat} {Z : AZ} {d : Nat} {t : Option Nat × (Nat × Nat)} (hd : 1 ≤ d) : ∀ (F : Nat) (a1 : Nat) (i2 : Int32) (i3 : Int32) (i4 : Int32) (I : AI) (r : Int32 × AI), f114_b5 kad N Z F a1 i2 i3 i4 I = some r → aGo kad d 114 (5, ([(1, .ref a1), (2, .int i2), (3, .int i3), (4, .int i4)], [])) (aMem Z I, t) (qI Z t r) := by
  intro F
  induction F with
  | zero => intro a1 i2 i3 i4 I r h; cases h
  | succ F ih =>
    intro a1 i2 i3 i4 I r h
    unfold f114_b5 at h
    refine go_ops aMi114 2 _ (f1 := (8, ([(1, .ref a1), (2, .int i2), (3, .int i3), (4, .int i4)], [.int i2, .int i4]))) rfl ?_
    refine gg_br (b := decide (i2 ≤ i4)) (tg := 33) (off := 25) aMi114 rfl rfl rfl rfl (fun hb => ?_) (fun hb => ?_)
    · rw [if_pos (of_decide_eq_true hb)] at h
      refine go_le (lv1 := [(3, .int i3)]) (aLe_of (show (List.map (fun q => q.1) ([(3, .int i3)] : ALv)).Nodup from (by show ([3] : List Nat).Nodup; decide)) (aSubL_cons rfl aSubL_nil)) ?_
      exact Tf114_b33 hd i3 I _ h
    · rw [if_neg (of_decide_eq_false hb)] at h
      refine go_ops aMi114 2 _ (f1 := (14, ([(1, .ref a1), (2, .int i2), (3, .int i3), (4, .int i4)], [.ref a1, .int i4]))) rfl ?_
      obtain ⟨x14_1, hxx14_1, h⟩ := Option.bind_eq_some_iff.mp h
      refine gg_len aMi114 rfl hxx14_1 ?_
      refine gg_br (b := decide (x14_1 ≤ i4)) (tg := 33) (off := 18) aMi114 rfl rfl rfl rfl (fun hb => ?_) (fun hb => ?_)
      · rw [if_pos (of_decide_eq_true hb)] at h
        refine go_le (lv1 := [(3, .int i3)]) (aLe_of (show (List.map (fun q => q.1) ([(3, .int i3)] : ALv)).Nodup from (by show ([3] : List Nat).Nodup; decide)) (aSubL_cons rfl aSubL_nil)) ?_
        exact Tf114_b33 hd i3 I _ h
      · rw [if_neg (of_decide_eq_false hb)] at h
        refine go_ops aMi114 3 _ (f1 := (22, ([(1, .ref a1), (2, .int i2), (3, .int i3), (4, .int i4)], [.int i4, .ref a1, .int i3]))) rfl ?_
        obtain ⟨x22_2, hxx22_2, h⟩ := Option.bind_eq_some_iff.mp h
        refine gg_lI (Or.inl ⟨rfl, rfl⟩) aMi114 rfl hxx22_2 ?_
        obtain ⟨r23_3, hxr23_3, h⟩ := Option.bind_eq_some_iff.mp h
        refine gg_cs (as := [.int i3, .int x22_2]) (r := []) aMi114 rfl rfl rfl aMi113 rfl (Nat.le_of_ble_eq_true rfl) (Nat.le_of_ble_eq_true rfl) (by omega) (Tf113 (by omega) i3 x22_2 I _ hxr23_3) ?_
        show aGo kad d 114 (26, ([(1, .ref a1), (2, .int i2), (3, .int i3), (4, .int i4)], [.int r23_3.1])) (aMem Z r23_3.2, t) _
        refine go_ops aMi114 3 _ (f1 := (5, ([(4, .int (i4 + (1 : Int32))), (3, .int r23_3.1), (1, .ref a1), (2, .int i2)], []))) rfl ?_
        refine go_le (lv1 := [(1, .ref a1), (2, .int i2), (3, .int r23_3.1), (4, .int (i4 + (1 : Int32)))]) (aLe_of (show (List.map (fun q => q.1) ([(1, .ref a1), (2, .int i2), (3, .int r23_3.1), (4, .int (i4 + (1 : Int32)))] : ALv)).Nodup from (by show ([1, 2, 3, 4] : List Nat).Nodup; decide)) (aSubL_cons rfl (aSubL_cons rfl (aSubL_cons rfl (aSubL_cons rfl aSubL_nil))))) ?_
        exact ih a1 i2 r23_3.1 (i4 + (1 : Int32)) r23_3.2 _ h
def f114 (kad : Nat → Nat) (N : Nat) (Z : AZ) (i0 : Int32) (a1 : Nat) (i2 : Int32) (I : AI) : Option (Int32 × AI) :=
  f114_b5 kad N Z N a1 i2 i0 (0 : Int32) I
set_option maxRecDepth 20000 in
theorem Tf114 {kad : Nat → Nat} {N : Nat} {Z : AZ} {d : Nat} {t : Option Nat × (Nat × Nat)} (hd : 1 ≤ d) : ∀ (i0 : Int32) (a1 : Nat) (i2 : Int32) (I : AI) (r : Int32 × AI), f114 kad N Z i0 a1 i2 I = some r → aGo kad d 114 (0, ([(0, .int i0), (1, .ref a1), (2, .int i2)], [])) (aMem Z I, t) (qI Z t r) := by
  intro i0 a1 i2 I r h
  unfold f114 at h
  refine go_ops aMi114 4 _ (f1 := (5, ([(4, .int (0 : Int32)), (3, .int i0), (0, .int i0), (1, .ref a1), (2, .int i2)], []))) rfl ?_
  refine go_le (lv1 := [(1, .ref a1), (2, .int i2), (3, .int i0), (4, .int (0 : Int32))]) (aLe_of (show (List.map (fun q => q.1) ([(1, .ref a1), (2, .int i2), (3, .int i0), (4, .int (0 : Int32))] : ALv)).Nodup from (by show ([1, 2, 3, 4] : List Nat).Nodup; decide)) (aSubL_cons rfl (aSubL_cons rfl (aSubL_cons rfl (aSubL_cons rfl aSubL_nil))))) ?_
  exact Tf114_b5 hd N a1 i2 i0 (0 : Int32) I _ h
-- KernelGym$Machine.sumOfAll ()I
def f112 (kad : Nat → Nat) (N : Nat) (Z : AZ) (a0 : Nat) (I : AI) : Option (Int32 × AI) :=
  (gR Z I 8 0 a0).bind fun b5_1 =>
  (gI Z I 2 0 b5_1).bind fun x8_2 =>
  (f113 kad N Z (7 : Int32) x8_2 I).bind fun r11_3 =>
  (gR Z r11_3.2 8 0 a0).bind fun b17_4 =>
  (gI Z r11_3.2 2 1 b17_4).bind fun x20_5 =>
  (f113 kad N Z r11_3.1 x20_5 r11_3.2).bind fun r23_6 =>
  (gR Z r23_6.2 8 0 a0).bind fun b29_7 =>
  (gI Z r23_6.2 2 2 b29_7).bind fun x32_8 =>
  (f113 kad N Z r23_6.1 x32_8 r23_6.2).bind fun r35_9 =>
  (gR Z r35_9.2 8 0 a0).bind fun b41_10 =>
  (gI Z r35_9.2 2 3 b41_10).bind fun x44_11 =>
  (f113 kad N Z r35_9.1 x44_11 r35_9.2).bind fun r47_12 =>
  (gR Z r47_12.2 8 0 a0).bind fun b53_13 =>
  (gI Z r47_12.2 2 4 b53_13).bind fun x56_14 =>
  (f113 kad N Z r47_12.1 x56_14 r47_12.2).bind fun r59_15 =>
  (gR Z r59_15.2 8 0 a0).bind fun b65_16 =>
  (isK Z b65_16 2).bind fun u68_17 =>
  (f40 kad N Z b65_16 r59_15.2).bind fun r68_18 =>
  (f113 kad N Z r59_15.1 r68_18.1 r68_18.2).bind fun r71_19 =>
  (gR Z r71_19.2 8 0 a0).bind fun b77_20 =>
  (gI Z r71_19.2 2 10 b77_20).bind fun x80_21 =>
  (f113 kad N Z r71_19.1 x80_21 r71_19.2).bind fun r83_22 =>
  (gR Z r83_22.2 8 0 a0).bind fun b89_23 =>
  (gI Z r83_22.2 2 11 b89_23).bind fun x92_24 =>
  (f113 kad N Z r83_22.1 x92_24 r83_22.2).bind fun r95_25 =>
  (gR Z r95_25.2 8 0 a0).bind fun b101_26 =>
  (gR Z r95_25.2 2 14 b101_26).bind fun b104_27 =>
  (f114 kad N Z r95_25.1 b104_27 (4 : Int32) r95_25.2).bind fun r108_28 =>
  (gR Z r108_28.2 8 0 a0).bind fun b114_29 =>
  (gR Z r108_28.2 2 15 b114_29).bind fun b117_30 =>
  (isK Z b117_30 4).bind fun u120_31 =>
  (f63 kad N Z b117_30 r108_28.2).bind fun r120_32 =>
  (f113 kad N Z r108_28.1 r120_32.1 r120_32.2).bind fun r123_33 =>
  (gR Z r123_33.2 8 1 a0).bind fun b129_34 =>
  (f114 kad N Z r123_33.1 b129_34 (256 : Int32) r123_33.2).bind fun r135_35 =>
  (gR Z r135_35.2 8 3 a0).bind fun b141_36 =>
  (gR Z r135_35.2 3 0 b141_36).bind fun b144_37 =>
  (f114 kad N Z r135_35.1 b144_37 (256 : Int32) r135_35.2).bind fun r150_38 =>
  (gR Z r150_38.2 8 0 a0).bind fun b156_39 =>
  (gI Z r150_38.2 2 12 b156_39).bind fun x159_40 =>
  (f113 kad N Z r150_38.1 x159_40 r150_38.2).bind fun r162_41 =>
  (gR Z r162_41.2 8 2 a0).bind fun b168_42 =>
  (gR Z r162_41.2 8 0 a0).bind fun b172_43 =>
  (gI Z r162_41.2 2 12 b172_43).bind fun x175_44 =>
  (f114 kad N Z r162_41.1 b168_42 x175_44 r162_41.2).bind fun r178_45 =>
  some (r178_45.1, r178_45.2)
set_option maxRecDepth 20000 in
theorem Tf112 {kad : Nat → Nat} {N : Nat} {Z : AZ} {d : Nat} {t : Option Nat × (Nat × Nat)} (hd : 2 ≤ d) : ∀ (a0 : Nat) (I : AI) (r : Int32 × AI), f112 kad N Z a0 I = some r → aGo kad d 112 (0, ([(0, .ref a0)], [])) (aMem Z I, t) (qI Z t r) := by
  intro a0 I r h
  unfold f112 at h
  refine go_ops aMi112 4 _ (f1 := (5, ([(1, .int (7 : Int32)), (0, .ref a0)], [.ref a0, .int (7 : Int32)]))) rfl ?_
  obtain ⟨b5_1, hxb5_1, h⟩ := Option.bind_eq_some_iff.mp h
  refine gg_gR aMi112 rfl rfl rfl hxb5_1 ?_
  obtain ⟨x8_2, hxx8_2, h⟩ := Option.bind_eq_some_iff.mp h
  refine gg_gI aMi112 rfl rfl rfl hxx8_2 ?_
  obtain ⟨r11_3, hxr11_3, h⟩ := Option.bind_eq_some_iff.mp h
  refine gg_cs (as := [.int (7 : Int32), .int x8_2]) (r := []) aMi112 rfl rfl rfl aMi113 rfl (Nat.le_of_ble_eq_true rfl) (Nat.le_of_ble_eq_true rfl) (by omega) (Tf113 (by omega) (7 : Int32) x8_2 I _ hxr11_3) ?_
  show aGo kad d 112 (14, ([(1, .int (7 : Int32)), (0, .ref a0)], [.int r11_3.1])) (aMem Z r11_3.2, t) _
  refine go_ops aMi112 3 _ (f1 := (17, ([(1, .int r11_3.1), (0, .ref a0)], [.ref a0, .int r11_3.1]))) rfl ?_
  obtain ⟨b17_4, hxb17_4, h⟩ := Option.bind_eq_some_iff.mp h
  refine gg_gR aMi112 rfl rfl rfl hxb17_4 ?_
  obtain ⟨x20_5, hxx20_5, h⟩ := Option.bind_eq_some_iff.mp h
  refine gg_gI aMi112 rfl rfl rfl hxx20_5 ?_
  obtain ⟨r23_6, hxr23_6, h⟩ := Option.bind_eq_some_iff.mp h
  refine gg_cs (as := [.int r11_3.1, .int x20_5]) (r := []) aMi112 rfl rfl rfl aMi113 rfl (Nat.le_of_ble_eq_true rfl) (Nat.le_of_ble_eq_true rfl) (by omega) (Tf113 (by omega) r11_3.1 x20_5 r11_3.2 _ hxr23_6) ?_
  show aGo kad d 112 (26, ([(1, .int r11_3.1), (0, .ref a0)], [.int r23_6.1])) (aMem Z r23_6.2, t) _
  refine go_ops aMi112 3 _ (f1 := (29, ([(1, .int r23_6.1), (0, .ref a0)], [.ref a0, .int r23_6.1]))) rfl ?_
  obtain ⟨b29_7, hxb29_7, h⟩ := Option.bind_eq_some_iff.mp h
  refine gg_gR aMi112 rfl rfl rfl hxb29_7 ?_
  obtain ⟨x32_8, hxx32_8, h⟩ := Option.bind_eq_some_iff.mp h
  refine gg_gI aMi112 rfl rfl rfl hxx32_8 ?_
  obtain ⟨r35_9, hxr35_9, h⟩ := Option.bind_eq_some_iff.mp h
  refine gg_cs (as := [.int r23_6.1, .int x32_8]) (r := []) aMi112 rfl rfl rfl aMi113 rfl (Nat.le_of_ble_eq_true rfl) (Nat.le_of_ble_eq_true rfl) (by omega) (Tf113 (by omega) r23_6.1 x32_8 r23_6.2 _ hxr35_9) ?_
  show aGo kad d 112 (38, ([(1, .int r23_6.1), (0, .ref a0)], [.int r35_9.1])) (aMem Z r35_9.2, t) _
  refine go_ops aMi112 3 _ (f1 := (41, ([(1, .int r35_9.1), (0, .ref a0)], [.ref a0, .int r35_9.1]))) rfl ?_
  obtain ⟨b41_10, hxb41_10, h⟩ := Option.bind_eq_some_iff.mp h
  refine gg_gR aMi112 rfl rfl rfl hxb41_10 ?_
  obtain ⟨x44_11, hxx44_11, h⟩ := Option.bind_eq_some_iff.mp h
  refine gg_gI aMi112 rfl rfl rfl hxx44_11 ?_
  obtain ⟨r47_12, hxr47_12, h⟩ := Option.bind_eq_some_iff.mp h
  refine gg_cs (as := [.int r35_9.1, .int x44_11]) (r := []) aMi112 rfl rfl rfl aMi113 rfl (Nat.le_of_ble_eq_true rfl) (Nat.le_of_ble_eq_true rfl) (by omega) (Tf113 (by omega) r35_9.1 x44_11 r35_9.2 _ hxr47_12) ?_
  show aGo kad d 112 (50, ([(1, .int r35_9.1), (0, .ref a0)], [.int r47_12.1])) (aMem Z r47_12.2, t) _
  refine go_ops aMi112 3 _ (f1 := (53, ([(1, .int r47_12.1), (0, .ref a0)], [.ref a0, .int r47_12.1]))) rfl ?_
  obtain ⟨b53_13, hxb53_13, h⟩ := Option.bind_eq_some_iff.mp h
  refine gg_gR aMi112 rfl rfl rfl hxb53_13 ?_
  obtain ⟨x56_14, hxx56_14, h⟩ := Option.bind_eq_some_iff.mp h
  refine gg_gI aMi112 rfl rfl rfl hxx56_14 ?_
  obtain ⟨r59_15, hxr59_15, h⟩ := Option.bind_eq_some_iff.mp h
  refine gg_cs (as := [.int r47_12.1, .int x56_14]) (r := []) aMi112 rfl rfl rfl aMi113 rfl (Nat.le_of_ble_eq_true rfl) (Nat.le_of_ble_eq_true rfl) (by omega) (Tf113 (by omega) r47_12.1 x56_14 r47_12.2 _ hxr59_15) ?_
  show aGo kad d 112 (62, ([(1, .int r47_12.1), (0, .ref a0)], [.int r59_15.1])) (aMem Z r59_15.2, t) _
  refine go_ops aMi112 3 _ (f1 := (65, ([(1, .int r59_15.1), (0, .ref a0)], [.ref a0, .int r59_15.1]))) rfl ?_
  obtain ⟨b65_16, hxb65_16, h⟩ := Option.bind_eq_some_iff.mp h
  refine gg_gR aMi112 rfl rfl rfl hxb65_16 ?_
  obtain ⟨u68_17, hxu68_17, h⟩ := Option.bind_eq_some_iff.mp h
  obtain ⟨r68_18, hxr68_18, h⟩ := Option.bind_eq_some_iff.mp h
  refine gg_cv (as := []) (r := [.int r59_15.1]) aMi112 rfl rfl rfl aMi40 (Nat.le_of_ble_eq_true rfl) rfl (Nat.le_of_ble_eq_true rfl) (Nat.le_of_ble_eq_true rfl) (by omega) hxu68_17 (Tf40 (by omega) b65_16 r59_15.2 _ hxr68_18) ?_
  show aGo kad d 112 (71, ([(1, .int r59_15.1), (0, .ref a0)], [.int r68_18.1, .int r59_15.1])) (aMem Z r68_18.2, t) _
  obtain ⟨r71_19, hxr71_19, h⟩ := Option.bind_eq_some_iff.mp h
  refine gg_cs (as := [.int r59_15.1, .int r68_18.1]) (r := []) aMi112 rfl rfl rfl aMi113 rfl (Nat.le_of_ble_eq_true rfl) (Nat.le_of_ble_eq_true rfl) (by omega) (Tf113 (by omega) r59_15.1 r68_18.1 r68_18.2 _ hxr71_19) ?_
  show aGo kad d 112 (74, ([(1, .int r59_15.1), (0, .ref a0)], [.int r71_19.1])) (aMem Z r71_19.2, t) _
  refine go_ops aMi112 3 _ (f1 := (77, ([(1, .int r71_19.1), (0, .ref a0)], [.ref a0, .int r71_19.1]))) rfl ?_
  obtain ⟨b77_20, hxb77_20, h⟩ := Option.bind_eq_some_iff.mp h
  refine gg_gR aMi112 rfl rfl rfl hxb77_20 ?_
  obtain ⟨x80_21, hxx80_21, h⟩ := Option.bind_eq_some_iff.mp h
  refine gg_gI aMi112 rfl rfl rfl hxx80_21 ?_
  obtain ⟨r83_22, hxr83_22, h⟩ := Option.bind_eq_some_iff.mp h
  refine gg_cs (as := [.int r71_19.1, .int x80_21]) (r := []) aMi112 rfl rfl rfl aMi113 rfl (Nat.le_of_ble_eq_true rfl) (Nat.le_of_ble_eq_true rfl) (by omega) (Tf113 (by omega) r71_19.1 x80_21 r71_19.2 _ hxr83_22) ?_
  show aGo kad d 112 (86, ([(1, .int r71_19.1), (0, .ref a0)], [.int r83_22.1])) (aMem Z r83_22.2, t) _
  refine go_ops aMi112 3 _ (f1 := (89, ([(1, .int r83_22.1), (0, .ref a0)], [.ref a0, .int r83_22.1]))) rfl ?_
  obtain ⟨b89_23, hxb89_23, h⟩ := Option.bind_eq_some_iff.mp h
  refine gg_gR aMi112 rfl rfl rfl hxb89_23 ?_
  obtain ⟨x92_24, hxx92_24, h⟩ := Option.bind_eq_some_iff.mp h
  refine gg_gI aMi112 rfl rfl rfl hxx92_24 ?_
  obtain ⟨r95_25, hxr95_25, h⟩ := Option.bind_eq_some_iff.mp h
  refine gg_cs (as := [.int r83_22.1, .int x92_24]) (r := []) aMi112 rfl rfl rfl aMi113 rfl (Nat.le_of_ble_eq_true rfl) (Nat.le_of_ble_eq_true rfl) (by omega) (Tf113 (by omega) r83_22.1 x92_24 r83_22.2 _ hxr95_25) ?_
  show aGo kad d 112 (98, ([(1, .int r83_22.1), (0, .ref a0)], [.int r95_25.1])) (aMem Z r95_25.2, t) _
  refine go_ops aMi112 3 _ (f1 := (101, ([(1, .int r95_25.1), (0, .ref a0)], [.ref a0, .int r95_25.1]))) rfl ?_
  obtain ⟨b101_26, hxb101_26, h⟩ := Option.bind_eq_some_iff.mp h
  refine gg_gR aMi112 rfl rfl rfl hxb101_26 ?_
  obtain ⟨b104_27, hxb104_27, h⟩ := Option.bind_eq_some_iff.mp h
  refine gg_gR aMi112 rfl rfl rfl hxb104_27 ?_
  refine go_ops aMi112 1 _ (f1 := (108, ([(1, .int r95_25.1), (0, .ref a0)], [.int (4 : Int32), .ref b104_27, .int r95_25.1]))) rfl ?_
  obtain ⟨r108_28, hxr108_28, h⟩ := Option.bind_eq_some_iff.mp h
  refine gg_cs (as := [.int r95_25.1, .ref b104_27, .int (4 : Int32)]) (r := []) aMi112 rfl rfl rfl aMi114 rfl (Nat.le_of_ble_eq_true rfl) (Nat.le_of_ble_eq_true rfl) (by omega) (Tf114 (by omega) r95_25.1 b104_27 (4 : Int32) r95_25.2 _ hxr108_28) ?_
  show aGo kad d 112 (111, ([(1, .int r95_25.1), (0, .ref a0)], [.int r108_28.1])) (aMem Z r108_28.2, t) _
  refine go_ops aMi112 3 _ (f1 := (114, ([(1, .int r108_28.1), (0, .ref a0)], [.ref a0, .int r108_28.1]))) rfl ?_
  obtain ⟨b114_29, hxb114_29, h⟩ := Option.bind_eq_some_iff.mp h
  refine gg_gR aMi112 rfl rfl rfl hxb114_29 ?_
  obtain ⟨b117_30, hxb117_30, h⟩ := Option.bind_eq_some_iff.mp h
  refine gg_gR aMi112 rfl rfl rfl hxb117_30 ?_
  obtain ⟨u120_31, hxu120_31, h⟩ := Option.bind_eq_some_iff.mp h
  obtain ⟨r120_32, hxr120_32, h⟩ := Option.bind_eq_some_iff.mp h
  refine gg_cv (as := []) (r := [.int r108_28.1]) aMi112 rfl rfl rfl aMi63 (Nat.le_of_ble_eq_true rfl) rfl (Nat.le_of_ble_eq_true rfl) (Nat.le_of_ble_eq_true rfl) (by omega) hxu120_31 (Tf63 (by omega) b117_30 r108_28.2 _ hxr120_32) ?_
  show aGo kad d 112 (123, ([(1, .int r108_28.1), (0, .ref a0)], [.int r120_32.1, .int r108_28.1])) (aMem Z r120_32.2, t) _
  obtain ⟨r123_33, hxr123_33, h⟩ := Option.bind_eq_some_iff.mp h
  refine gg_cs (as := [.int r108_28.1, .int r120_32.1]) (r := []) aMi112 rfl rfl rfl aMi113 rfl (Nat.le_of_ble_eq_true rfl) (Nat.le_of_ble_eq_true rfl) (by omega) (Tf113 (by omega) r108_28.1 r120_32.1 r120_32.2 _ hxr123_33) ?_
  show aGo kad d 112 (126, ([(1, .int r108_28.1), (0, .ref a0)], [.int r123_33.1])) (aMem Z r123_33.2, t) _
  refine go_ops aMi112 3 _ (f1 := (129, ([(1, .int r123_33.1), (0, .ref a0)], [.ref a0, .int r123_33.1]))) rfl ?_
  obtain ⟨b129_34, hxb129_34, h⟩ := Option.bind_eq_some_iff.mp h
  refine gg_gR aMi112 rfl rfl rfl hxb129_34 ?_
  refine go_ops aMi112 1 _ (f1 := (135, ([(1, .int r123_33.1), (0, .ref a0)], [.int (256 : Int32), .ref b129_34, .int r123_33.1]))) rfl ?_
  obtain ⟨r135_35, hxr135_35, h⟩ := Option.bind_eq_some_iff.mp h
  refine gg_cs (as := [.int r123_33.1, .ref b129_34, .int (256 : Int32)]) (r := []) aMi112 rfl rfl rfl aMi114 rfl (Nat.le_of_ble_eq_true rfl) (Nat.le_of_ble_eq_true rfl) (by omega) (Tf114 (by omega) r123_33.1 b129_34 (256 : Int32) r123_33.2 _ hxr135_35) ?_
  show aGo kad d 112 (138, ([(1, .int r123_33.1), (0, .ref a0)], [.int r135_35.1])) (aMem Z r135_35.2, t) _
  refine go_ops aMi112 3 _ (f1 := (141, ([(1, .int r135_35.1), (0, .ref a0)], [.ref a0, .int r135_35.1]))) rfl ?_
  obtain ⟨b141_36, hxb141_36, h⟩ := Option.bind_eq_some_iff.mp h
  refine gg_gR aMi112 rfl rfl rfl hxb141_36 ?_
  obtain ⟨b144_37, hxb144_37, h⟩ := Option.bind_eq_some_iff.mp h
  refine gg_gR aMi112 rfl rfl rfl hxb144_37 ?_
  refine go_ops aMi112 1 _ (f1 := (150, ([(1, .int r135_35.1), (0, .ref a0)], [.int (256 : Int32), .ref b144_37, .int r135_35.1]))) rfl ?_
  obtain ⟨r150_38, hxr150_38, h⟩ := Option.bind_eq_some_iff.mp h
  refine gg_cs (as := [.int r135_35.1, .ref b144_37, .int (256 : Int32)]) (r := []) aMi112 rfl rfl rfl aMi114 rfl (Nat.le_of_ble_eq_true rfl) (Nat.le_of_ble_eq_true rfl) (by omega) (Tf114 (by omega) r135_35.1 b144_37 (256 : Int32) r135_35.2 _ hxr150_38) ?_
  show aGo kad d 112 (153, ([(1, .int r135_35.1), (0, .ref a0)], [.int r150_38.1])) (aMem Z r150_38.2, t) _
  refine go_ops aMi112 3 _ (f1 := (156, ([(1, .int r150_38.1), (0, .ref a0)], [.ref a0, .int r150_38.1]))) rfl ?_
  obtain ⟨b156_39, hxb156_39, h⟩ := Option.bind_eq_some_iff.mp h
  refine gg_gR aMi112 rfl rfl rfl hxb156_39 ?_
  obtain ⟨x159_40, hxx159_40, h⟩ := Option.bind_eq_some_iff.mp h
  refine gg_gI aMi112 rfl rfl rfl hxx159_40 ?_
  obtain ⟨r162_41, hxr162_41, h⟩ := Option.bind_eq_some_iff.mp h
  refine gg_cs (as := [.int r150_38.1, .int x159_40]) (r := []) aMi112 rfl rfl rfl aMi113 rfl (Nat.le_of_ble_eq_true rfl) (Nat.le_of_ble_eq_true rfl) (by omega) (Tf113 (by omega) r150_38.1 x159_40 r150_38.2 _ hxr162_41) ?_
  show aGo kad d 112 (165, ([(1, .int r150_38.1), (0, .ref a0)], [.int r162_41.1])) (aMem Z r162_41.2, t) _
  refine go_ops aMi112 3 _ (f1 := (168, ([(1, .int r162_41.1), (0, .ref a0)], [.ref a0, .int r162_41.1]))) rfl ?_
  obtain ⟨b168_42, hxb168_42, h⟩ := Option.bind_eq_some_iff.mp h
  refine gg_gR aMi112 rfl rfl rfl hxb168_42 ?_
  refine go_ops aMi112 1 _ (f1 := (172, ([(1, .int r162_41.1), (0, .ref a0)], [.ref a0, .ref b168_42, .int r162_41.1]))) rfl ?_
  obtain ⟨b172_43, hxb172_43, h⟩ := Option.bind_eq_some_iff.mp h
  refine gg_gR aMi112 rfl rfl rfl hxb172_43 ?_
  obtain ⟨x175_44, hxx175_44, h⟩ := Option.bind_eq_some_iff.mp h
  refine gg_gI aMi112 rfl rfl rfl hxx175_44 ?_
  obtain ⟨r178_45, hxr178_45, h⟩ := Option.bind_eq_some_iff.mp h
  refine gg_cs (as := [.int r162_41.1, .ref b168_42, .int x175_44]) (r := []) aMi112 rfl rfl rfl aMi114 rfl (Nat.le_of_ble_eq_true rfl) (Nat.le_of_ble_eq_true rfl) (by omega) (Tf114 (by omega) r162_41.1 b168_42 x175_44 r162_41.2 _ hxr178_45) ?_
  show aGo kad d 112 (181, ([(1, .int r162_41.1), (0, .ref a0)], [.int r178_45.1])) (aMem Z r178_45.2, t) _
  cases h
  exact go_ret aMi112 rfl aRetI ⟨rfl, rfl⟩
-- KernelGym$Trial.addKey (I)I
def f116_b36 (kad : Nat → Nat) (N : Nat) (Z : AZ) (a0 : Nat) (I : AI) : Option (Int32 × AI) :=
  (gI Z I 9 0 a0).bind fun x37_1 =>
  some (x37_1, I)
set_option maxRecDepth 20000 in
theorem Tf116_b36 {kad : Nat → Nat} {N : Nat} {Z : AZ} {d : Nat} {t : Option Nat × (Nat × Nat)} (hd : 0 ≤ d) : ∀ (a0 : Nat) (I : AI) (r : Int32 × AI), f116_b36 kad N Z a0 I = some r → aGo kad d 116 (36, ([(0, .ref a0)], [])) (aMem Z I, t) (qI Z t r) := by
  intro a0 I r h
  unfold f116_b36 at h
  refine go_ops aMi116 1 _ (f1 := (37, ([(0, .ref a0)], [.ref a0]))) rfl ?_
  obtain ⟨x37_1, hxx37_1, h⟩ := Option.bind_eq_some_iff.mp h
  refine gg_gI aMi116 rfl rfl rfl hxx37_1 ?_
  cases h
  exact go_ret aMi116 rfl aRetI ⟨rfl, rfl⟩
def f116 (kad : Nat → Nat) (N : Nat) (Z : AZ) (a0 : Nat) (i1 : Int32) (I : AI) : Option (Int32 × AI) :=
  (gI Z I 9 0 a0).bind fun x1_1 =>
  if x1_1 < 0 then
    f116_b36 kad N Z a0 I
  else
    (gI Z I 9 0 a0).bind fun x8_2 =>
    if (6 : Int32) ≤ x8_2 then
      f116_b36 kad N Z a0 I
    else
      (gR Z I 9 3 a0).bind fun b17_3 =>
      (gI Z I 9 0 a0).bind fun x21_4 =>
      (sI Z I 100 b17_3 x21_4 i1).bind fun I25_5 =>
      (gI Z I25_5 9 0 a0).bind fun x28_6 =>
      (pI Z I25_5 9 0 a0 (x28_6 + (1 : Int32))).bind fun I33_7 =>
      f116_b36 kad N Z a0 I33_7
set_option maxRecDepth 20000 in
theorem Tf116 {kad : Nat → Nat} {N : Nat} {Z : AZ} {d : Nat} {t : Option Nat × (Nat × Nat)} (hd : 0 ≤ d) : ∀ (a0 : Nat) (i1 : Int32) (I : AI) (r : Int32 × AI), f116 kad N Z a0 i1 I = some r → aGo kad d 116 (0, ([(0, .ref a0), (1, .int i1)], [])) (aMem Z I, t) (qI Z t r) := by
  intro a0 i1 I r h
  unfold f116 at h
  refine go_ops aMi116 1 _ (f1 := (1, ([(0, .ref a0), (1, .int i1)], [.ref a0]))) rfl ?_
  obtain ⟨x1_1, hxx1_1, h⟩ := Option.bind_eq_some_iff.mp h
  refine gg_gI aMi116 rfl rfl rfl hxx1_1 ?_
  refine gg_br (b := decide (x1_1 < 0)) (tg := 36) (off := 32) aMi116 rfl rfl rfl rfl (fun hb => ?_) (fun hb => ?_)
  · rw [if_pos (of_decide_eq_true hb)] at h
    refine go_le (lv1 := [(0, .ref a0)]) (aLe_of (show (List.map (fun q => q.1) ([(0, .ref a0)] : ALv)).Nodup from (by show ([0] : List Nat).Nodup; decide)) (aSubL_cons rfl aSubL_nil)) ?_
    exact Tf116_b36 hd a0 I _ h
  · rw [if_neg (of_decide_eq_false hb)] at h
    refine go_ops aMi116 1 _ (f1 := (8, ([(0, .ref a0), (1, .int i1)], [.ref a0]))) rfl ?_
    obtain ⟨x8_2, hxx8_2, h⟩ := Option.bind_eq_some_iff.mp h
    refine gg_gI aMi116 rfl rfl rfl hxx8_2 ?_
    refine go_ops aMi116 1 _ (f1 := (13, ([(0, .ref a0), (1, .int i1)], [.int (6 : Int32), .int x8_2]))) rfl ?_
    refine gg_br (b := decide ((6 : Int32) ≤ x8_2)) (tg := 36) (off := 23) aMi116 rfl rfl rfl rfl (fun hb => ?_) (fun hb => ?_)
    · rw [if_pos (of_decide_eq_true hb)] at h
      refine go_le (lv1 := [(0, .ref a0)]) (aLe_of (show (List.map (fun q => q.1) ([(0, .ref a0)] : ALv)).Nodup from (by show ([0] : List Nat).Nodup; decide)) (aSubL_cons rfl aSubL_nil)) ?_
      exact Tf116_b36 hd a0 I _ h
    · rw [if_neg (of_decide_eq_false hb)] at h
      refine go_ops aMi116 1 _ (f1 := (17, ([(0, .ref a0), (1, .int i1)], [.ref a0]))) rfl ?_
      obtain ⟨b17_3, hxb17_3, h⟩ := Option.bind_eq_some_iff.mp h
      refine gg_gR aMi116 rfl rfl rfl hxb17_3 ?_
      refine go_ops aMi116 1 _ (f1 := (21, ([(0, .ref a0), (1, .int i1)], [.ref a0, .ref b17_3]))) rfl ?_
      obtain ⟨x21_4, hxx21_4, h⟩ := Option.bind_eq_some_iff.mp h
      refine gg_gI aMi116 rfl rfl rfl hxx21_4 ?_
      refine go_ops aMi116 1 _ (f1 := (25, ([(0, .ref a0), (1, .int i1)], [.int i1, .int x21_4, .ref b17_3]))) rfl ?_
      obtain ⟨I25_5, hxI25_5, h⟩ := Option.bind_eq_some_iff.mp h
      refine gg_sI (Or.inl ⟨rfl, rfl⟩) aMi116 rfl hxI25_5 ?_
      refine go_ops aMi116 2 _ (f1 := (28, ([(0, .ref a0), (1, .int i1)], [.ref a0, .ref a0]))) rfl ?_
      obtain ⟨x28_6, hxx28_6, h⟩ := Option.bind_eq_some_iff.mp h
      refine gg_gI aMi116 rfl rfl rfl hxx28_6 ?_
      refine go_ops aMi116 2 _ (f1 := (33, ([(0, .ref a0), (1, .int i1)], [.int (x28_6 + (1 : Int32)), .ref a0]))) rfl ?_
      obtain ⟨I33_7, hxI33_7, h⟩ := Option.bind_eq_some_iff.mp h
      refine gg_pI aMi116 rfl rfl rfl rfl (by decide) hxI33_7 ?_
      refine go_le (lv1 := [(0, .ref a0)]) (aLe_of (show (List.map (fun q => q.1) ([(0, .ref a0)] : ALv)).Nodup from (by show ([0] : List Nat).Nodup; decide)) (aSubL_cons rfl aSubL_nil)) ?_
      exact Tf116_b36 hd a0 I33_7 _ h
-- KernelGym$Trial.addWord (I)I
def f117_b36 (kad : Nat → Nat) (N : Nat) (Z : AZ) (a0 : Nat) (I : AI) : Option (Int32 × AI) :=
  (gI Z I 9 1 a0).bind fun x37_1 =>
  some (x37_1, I)
set_option maxRecDepth 20000 in
theorem Tf117_b36 {kad : Nat → Nat} {N : Nat} {Z : AZ} {d : Nat} {t : Option Nat × (Nat × Nat)} (hd : 0 ≤ d) : ∀ (a0 : Nat) (I : AI) (r : Int32 × AI), f117_b36 kad N Z a0 I = some r → aGo kad d 117 (36, ([(0, .ref a0)], [])) (aMem Z I, t) (qI Z t r) := by
  intro a0 I r h
  unfold f117_b36 at h
  refine go_ops aMi117 1 _ (f1 := (37, ([(0, .ref a0)], [.ref a0]))) rfl ?_
  obtain ⟨x37_1, hxx37_1, h⟩ := Option.bind_eq_some_iff.mp h
  refine gg_gI aMi117 rfl rfl rfl hxx37_1 ?_
  cases h
  exact go_ret aMi117 rfl aRetI ⟨rfl, rfl⟩
def f117 (kad : Nat → Nat) (N : Nat) (Z : AZ) (a0 : Nat) (i1 : Int32) (I : AI) : Option (Int32 × AI) :=
  (gI Z I 9 1 a0).bind fun x1_1 =>
  if x1_1 < 0 then
    f117_b36 kad N Z a0 I
  else
    (gI Z I 9 1 a0).bind fun x8_2 =>
    if (6 : Int32) ≤ x8_2 then
      f117_b36 kad N Z a0 I
    else
      (gR Z I 9 4 a0).bind fun b17_3 =>
      (gI Z I 9 1 a0).bind fun x21_4 =>
      (sI Z I 100 b17_3 x21_4 i1).bind fun I25_5 =>
      (gI Z I25_5 9 1 a0).bind fun x28_6 =>
      (pI Z I25_5 9 1 a0 (x28_6 + (1 : Int32))).bind fun I33_7 =>
      f117_b36 kad N Z a0 I33_7
set_option maxRecDepth 20000 in
theorem Tf117 {kad : Nat → Nat} {N : Nat} {Z : AZ} {d : Nat} {t : Option Nat × (Nat × Nat)} (hd : 0 ≤ d) : ∀ (a0 : Nat) (i1 : Int32) (I : AI) (r : Int32 × AI), f117 kad N Z a0 i1 I = some r → aGo kad d 117 (0, ([(0, .ref a0), (1, .int i1)], [])) (aMem Z I, t) (qI Z t r) := by
  intro a0 i1 I r h
  unfold f117 at h
  refine go_ops aMi117 1 _ (f1 := (1, ([(0, .ref a0), (1, .int i1)], [.ref a0]))) rfl ?_
  obtain ⟨x1_1, hxx1_1, h⟩ := Option.bind_eq_some_iff.mp h
  refine gg_gI aMi117 rfl rfl rfl hxx1_1 ?_
  refine gg_br (b := decide (x1_1 < 0)) (tg := 36) (off := 32) aMi117 rfl rfl rfl rfl (fun hb => ?_) (fun hb => ?_)
  · rw [if_pos (of_decide_eq_true hb)] at h
    refine go_le (lv1 := [(0, .ref a0)]) (aLe_of (show (List.map (fun q => q.1) ([(0, .ref a0)] : ALv)).Nodup from (by show ([0] : List Nat).Nodup; decide)) (aSubL_cons rfl aSubL_nil)) ?_
    exact Tf117_b36 hd a0 I _ h
  · rw [if_neg (of_decide_eq_false hb)] at h
    refine go_ops aMi117 1 _ (f1 := (8, ([(0, .ref a0), (1, .int i1)], [.ref a0]))) rfl ?_
    obtain ⟨x8_2, hxx8_2, h⟩ := Option.bind_eq_some_iff.mp h
    refine gg_gI aMi117 rfl rfl rfl hxx8_2 ?_
    refine go_ops aMi117 1 _ (f1 := (13, ([(0, .ref a0), (1, .int i1)], [.int (6 : Int32), .int x8_2]))) rfl ?_
    refine gg_br (b := decide ((6 : Int32) ≤ x8_2)) (tg := 36) (off := 23) aMi117 rfl rfl rfl rfl (fun hb => ?_) (fun hb => ?_)
    · rw [if_pos (of_decide_eq_true hb)] at h
      refine go_le (lv1 := [(0, .ref a0)]) (aLe_of (show (List.map (fun q => q.1) ([(0, .ref a0)] : ALv)).Nodup from (by show ([0] : List Nat).Nodup; decide)) (aSubL_cons rfl aSubL_nil)) ?_
      exact Tf117_b36 hd a0 I _ h
    · rw [if_neg (of_decide_eq_false hb)] at h
      refine go_ops aMi117 1 _ (f1 := (17, ([(0, .ref a0), (1, .int i1)], [.ref a0]))) rfl ?_
      obtain ⟨b17_3, hxb17_3, h⟩ := Option.bind_eq_some_iff.mp h
      refine gg_gR aMi117 rfl rfl rfl hxb17_3 ?_
      refine go_ops aMi117 1 _ (f1 := (21, ([(0, .ref a0), (1, .int i1)], [.ref a0, .ref b17_3]))) rfl ?_
      obtain ⟨x21_4, hxx21_4, h⟩ := Option.bind_eq_some_iff.mp h
      refine gg_gI aMi117 rfl rfl rfl hxx21_4 ?_
      refine go_ops aMi117 1 _ (f1 := (25, ([(0, .ref a0), (1, .int i1)], [.int i1, .int x21_4, .ref b17_3]))) rfl ?_
      obtain ⟨I25_5, hxI25_5, h⟩ := Option.bind_eq_some_iff.mp h
      refine gg_sI (Or.inl ⟨rfl, rfl⟩) aMi117 rfl hxI25_5 ?_
      refine go_ops aMi117 2 _ (f1 := (28, ([(0, .ref a0), (1, .int i1)], [.ref a0, .ref a0]))) rfl ?_
      obtain ⟨x28_6, hxx28_6, h⟩ := Option.bind_eq_some_iff.mp h
      refine gg_gI aMi117 rfl rfl rfl hxx28_6 ?_
      refine go_ops aMi117 2 _ (f1 := (33, ([(0, .ref a0), (1, .int i1)], [.int (x28_6 + (1 : Int32)), .ref a0]))) rfl ?_
      obtain ⟨I33_7, hxI33_7, h⟩ := Option.bind_eq_some_iff.mp h
      refine gg_pI aMi117 rfl rfl rfl rfl (by decide) hxI33_7 ?_
      refine go_le (lv1 := [(0, .ref a0)]) (aLe_of (show (List.map (fun q => q.1) ([(0, .ref a0)] : ALv)).Nodup from (by show ([0] : List Nat).Nodup; decide)) (aSubL_cons rfl aSubL_nil)) ?_
      exact Tf117_b36 hd a0 I33_7 _ h
-- KernelGym$Trial.takeDraft (LKernelGym$Trial;)V
def f118 (kad : Nat → Nat) (N : Nat) (Z : AZ) (a0 : Nat) (a1 : Nat) (I : AI) : Option (Unit × AI) :=
  (gI Z I 9 0 a1).bind fun x2_1 =>
  (pI Z I 9 0 a0 x2_1).bind fun I5_2 =>
  (gI Z I5_2 9 1 a1).bind fun x10_3 =>
  (pI Z I5_2 9 1 a0 x10_3).bind fun I13_4 =>
  (gR Z I13_4 9 3 a1).bind fun b17_5 =>
  (gR Z I13_4 9 3 a0).bind fun b22_6 =>
  (cI Z I13_4 b17_5 (0 : Int32) b22_6 (0 : Int32) (6 : Int32)).bind fun I28_7 =>
  (gR Z I28_7 9 4 a1).bind fun b32_8 =>
  (gR Z I28_7 9 4 a0).bind fun b37_9 =>
  (cI Z I28_7 b32_8 (0 : Int32) b37_9 (0 : Int32) (6 : Int32)).bind fun I43_10 =>
  (pI Z I43_10 9 0 a1 (0 : Int32)).bind fun I48_11 =>
  (pI Z I48_11 9 1 a1 (0 : Int32)).bind fun I53_12 =>
  some ((), I53_12)
set_option maxRecDepth 20000 in
theorem Tf118 {kad : Nat → Nat} {N : Nat} {Z : AZ} {d : Nat} {t : Option Nat × (Nat × Nat)} (hd : 0 ≤ d) : ∀ (a0 : Nat) (a1 : Nat) (I : AI) (r : Unit × AI), f118 kad N Z a0 a1 I = some r → aGo kad d 118 (0, ([(0, .ref a0), (1, .ref a1)], [])) (aMem Z I, t) (qV Z t r) := by
  intro a0 a1 I r h
  unfold f118 at h
  refine go_ops aMi118 2 _ (f1 := (2, ([(0, .ref a0), (1, .ref a1)], [.ref a1, .ref a0]))) rfl ?_
  obtain ⟨x2_1, hxx2_1, h⟩ := Option.bind_eq_some_iff.mp h
  refine gg_gI aMi118 rfl rfl rfl hxx2_1 ?_
  obtain ⟨I5_2, hxI5_2, h⟩ := Option.bind_eq_some_iff.mp h
  refine gg_pI aMi118 rfl rfl rfl rfl (by decide) hxI5_2 ?_
  refine go_ops aMi118 2 _ (f1 := (10, ([(0, .ref a0), (1, .ref a1)], [.ref a1, .ref a0]))) rfl ?_
  obtain ⟨x10_3, hxx10_3, h⟩ := Option.bind_eq_some_iff.mp h
  refine gg_gI aMi118 rfl rfl rfl hxx10_3 ?_
  obtain ⟨I13_4, hxI13_4, h⟩ := Option.bind_eq_some_iff.mp h
  refine gg_pI aMi118 rfl rfl rfl rfl (by decide) hxI13_4 ?_
  refine go_ops aMi118 1 _ (f1 := (17, ([(0, .ref a0), (1, .ref a1)], [.ref a1]))) rfl ?_
  obtain ⟨b17_5, hxb17_5, h⟩ := Option.bind_eq_some_iff.mp h
  refine gg_gR aMi118 rfl rfl rfl hxb17_5 ?_
  refine go_ops aMi118 2 _ (f1 := (22, ([(0, .ref a0), (1, .ref a1)], [.ref a0, .int (0 : Int32), .ref b17_5]))) rfl ?_
  obtain ⟨b22_6, hxb22_6, h⟩ := Option.bind_eq_some_iff.mp h
  refine gg_gR aMi118 rfl rfl rfl hxb22_6 ?_
  refine go_ops aMi118 2 _ (f1 := (28, ([(0, .ref a0), (1, .ref a1)], [.int (6 : Int32), .int (0 : Int32), .ref b22_6, .int (0 : Int32), .ref b17_5]))) rfl ?_
  obtain ⟨I28_7, hxI28_7, h⟩ := Option.bind_eq_some_iff.mp h
  refine gg_cp aMi118 rfl rfl (Nat.le_of_ble_eq_true rfl) hxI28_7 ?_
  refine go_ops aMi118 1 _ (f1 := (32, ([(0, .ref a0), (1, .ref a1)], [.ref a1]))) rfl ?_
  obtain ⟨b32_8, hxb32_8, h⟩ := Option.bind_eq_some_iff.mp h
  refine gg_gR aMi118 rfl rfl rfl hxb32_8 ?_
  refine go_ops aMi118 2 _ (f1 := (37, ([(0, .ref a0), (1, .ref a1)], [.ref a0, .int (0 : Int32), .ref b32_8]))) rfl ?_
  obtain ⟨b37_9, hxb37_9, h⟩ := Option.bind_eq_some_iff.mp h
  refine gg_gR aMi118 rfl rfl rfl hxb37_9 ?_
  refine go_ops aMi118 2 _ (f1 := (43, ([(0, .ref a0), (1, .ref a1)], [.int (6 : Int32), .int (0 : Int32), .ref b37_9, .int (0 : Int32), .ref b32_8]))) rfl ?_
  obtain ⟨I43_10, hxI43_10, h⟩ := Option.bind_eq_some_iff.mp h
  refine gg_cp aMi118 rfl rfl (Nat.le_of_ble_eq_true rfl) hxI43_10 ?_
  refine go_ops aMi118 2 _ (f1 := (48, ([(0, .ref a0), (1, .ref a1)], [.int (0 : Int32), .ref a1]))) rfl ?_
  obtain ⟨I48_11, hxI48_11, h⟩ := Option.bind_eq_some_iff.mp h
  refine gg_pI aMi118 rfl rfl rfl rfl (by decide) hxI48_11 ?_
  refine go_ops aMi118 2 _ (f1 := (53, ([(0, .ref a0), (1, .ref a1)], [.int (0 : Int32), .ref a1]))) rfl ?_
  obtain ⟨I53_12, hxI53_12, h⟩ := Option.bind_eq_some_iff.mp h
  refine gg_pI aMi118 rfl rfl rfl rfl (by decide) hxI53_12 ?_
  cases h
  exact go_ret aMi118 rfl rfl ⟨rfl, rfl⟩
-- KernelGym$Trial.setBudgets (IIII)V
def f119 (kad : Nat → Nat) (N : Nat) (Z : AZ) (a0 : Nat) (i1 : Int32) (i2 : Int32) (i3 : Int32) (i4 : Int32) (I : AI) : Option (Unit × AI) :=
  (pI Z I 9 5 a0 i1).bind fun I2_1 =>
  (pI Z I2_1 9 6 a0 i2).bind fun I7_2 =>
  (pI Z I7_2 9 7 a0 i3).bind fun I12_3 =>
  (pI Z I12_3 9 8 a0 i4).bind fun I18_4 =>
  some ((), I18_4)
set_option maxRecDepth 20000 in
theorem Tf119 {kad : Nat → Nat} {N : Nat} {Z : AZ} {d : Nat} {t : Option Nat × (Nat × Nat)} (hd : 0 ≤ d) : ∀ (a0 : Nat) (i1 : Int32) (i2 : Int32) (i3 : Int32) (i4 : Int32) (I : AI) (r : Unit × AI), f119 kad N Z a0 i1 i2 i3 i4 I = some r → aGo kad d 119 (0, ([(0, .ref a0), (1, .int i1), (2, .int i2), (3, .int i3), (4, .int i4)], [])) (aMem Z I, t) (qV Z t r) := by
  intro a0 i1 i2 i3 i4 I r h
  unfold f119 at h
  refine go_ops aMi119 2 _ (f1 := (2, ([(0, .ref a0), (1, .int i1), (2, .int i2), (3, .int i3), (4, .int i4)], [.int i1, .ref a0]))) rfl ?_
  obtain ⟨I2_1, hxI2_1, h⟩ := Option.bind_eq_some_iff.mp h
  refine gg_pI aMi119 rfl rfl rfl rfl (by decide) hxI2_1 ?_
  refine go_ops aMi119 2 _ (f1 := (7, ([(0, .ref a0), (1, .int i1), (2, .int i2), (3, .int i3), (4, .int i4)], [.int i2, .ref a0]))) rfl ?_
  obtain ⟨I7_2, hxI7_2, h⟩ := Option.bind_eq_some_iff.mp h
  refine gg_pI aMi119 rfl rfl rfl rfl (by decide) hxI7_2 ?_
  refine go_ops aMi119 2 _ (f1 := (12, ([(0, .ref a0), (1, .int i1), (2, .int i2), (3, .int i3), (4, .int i4)], [.int i3, .ref a0]))) rfl ?_
  obtain ⟨I12_3, hxI12_3, h⟩ := Option.bind_eq_some_iff.mp h
  refine gg_pI aMi119 rfl rfl rfl rfl (by decide) hxI12_3 ?_
  refine go_ops aMi119 2 _ (f1 := (18, ([(0, .ref a0), (1, .int i1), (2, .int i2), (3, .int i3), (4, .int i4)], [.int i4, .ref a0]))) rfl ?_
  obtain ⟨I18_4, hxI18_4, h⟩ := Option.bind_eq_some_iff.mp h
  refine gg_pI aMi119 rfl rfl rfl rfl (by decide) hxI18_4 ?_
  cases h
  exact go_ret aMi119 rfl rfl ⟨rfl, rfl⟩
-- KernelGym$Trial.judge (LKernelGym$Machine;)I
def f121_b74 (kad : Nat → Nat) (N : Nat) (Z : AZ) (s0 : Int32) (I : AI) : Option (Int32 × AI) :=
  some (s0, I)
set_option maxRecDepth 20000 in
theorem Tf121_b74 {kad : Nat → Nat} {N : Nat} {Z : AZ} {d : Nat} {t : Option Nat × (Nat × Nat)} (hd : 5 ≤ d) : ∀ (s0 : Int32) (I : AI) (r : Int32 × AI), f121_b74 kad N Z s0 I = some r → aGo kad d 121 (74, ([], [.int s0])) (aMem Z I, t) (qI Z t r) := by
  intro s0 I r h
  unfold f121_b74 at h
  cases h
  exact go_ret aMi121 rfl aRetI ⟨rfl, rfl⟩
def f121 (kad : Nat → Nat) (N : Nat) (Z : AZ) (a0 : Nat) (a1 : Nat) (I : AI) : Option (Int32 × AI) :=
  (gR Z I 8 0 a1).bind fun b1_1 =>
  (gI Z I 2 0 b1_1).bind fun x4_2 =>
  if ¬ x4_2 = (3 : Int32) then
    (gR Z I 8 0 a1).bind fun b14_3 =>
    (gI Z I 2 0 b14_3).bind fun x17_4 =>
    if ¬ x17_4 = (1 : Int32) then
      (gR Z I 8 3 a1).bind fun b27_5 =>
      (gI Z I 3 1 b27_5).bind fun x30_6 =>
      (gI Z I 9 6 a0).bind fun x34_7 =>
      if x30_6 ≤ x34_7 then
        (gR Z I 9 4 a0).bind fun b44_8 =>
        (gI Z I 9 1 a0).bind fun x48_9 =>
        (isK Z a1 8).bind fun u51_10 =>
        (f111 kad N Z a1 b44_8 x48_9 I).bind fun r51_11 =>
        if ¬ r51_11.1 = 0 then
          (gR Z r51_11.2 8 3 a1).bind fun b60_12 =>
          (isK Z b60_12 3).bind fun u63_13 =>
          (f58 kad N Z b60_12 r51_11.2).bind fun r63_14 =>
          if r63_14.1 = 0 then
            f121_b74 kad N Z (5 : Int32) r63_14.2
          else
            f121_b74 kad N Z (0 : Int32) r63_14.2
        else
          some ((4 : Int32), r51_11.2)
      else
        some ((3 : Int32), I)
    else
      some ((2 : Int32), I)
  else
    some ((1 : Int32), I)
set_option maxRecDepth 20000 in
theorem Tf121 {kad : Nat → Nat} {N : Nat} {Z : AZ} {d : Nat} {t : Option Nat × (Nat × Nat)} (hd : 5 ≤ d) : ∀ (a0 : Nat) (a1 : Nat) (I : AI) (r : Int32 × AI), f121 kad N Z a0 a1 I = some r → aGo kad d 121 (0, ([(0, .ref a0), (1, .ref a1)], [])) (aMem Z I, t) (qI Z t r) := by
  intro a0 a1 I r h
  unfold f121 at h
  refine go_ops aMi121 1 _ (f1 := (1, ([(0, .ref a0), (1, .ref a1)], [.ref a1]))) rfl ?_
  obtain ⟨b1_1, hxb1_1, h⟩ := Option.bind_eq_some_iff.mp h
  refine gg_gR aMi121 rfl rfl rfl hxb1_1 ?_
  obtain ⟨x4_2, hxx4_2, h⟩ := Option.bind_eq_some_iff.mp h
  refine gg_gI aMi121 rfl rfl rfl hxx4_2 ?_
  refine go_ops aMi121 1 _ (f1 := (8, ([(0, .ref a0), (1, .ref a1)], [.int (3 : Int32), .int x4_2]))) rfl ?_
  refine gg_br (b := decide (¬ x4_2 = (3 : Int32))) (tg := 13) (off := 5) aMi121 rfl rfl rfl rfl (fun hb => ?_) (fun hb => ?_)
  · rw [if_pos (of_decide_eq_true hb)] at h
    refine go_ops aMi121 1 _ (f1 := (14, ([(0, .ref a0), (1, .ref a1)], [.ref a1]))) rfl ?_
    obtain ⟨b14_3, hxb14_3, h⟩ := Option.bind_eq_some_iff.mp h
    refine gg_gR aMi121 rfl rfl rfl hxb14_3 ?_
    obtain ⟨x17_4, hxx17_4, h⟩ := Option.bind_eq_some_iff.mp h
    refine gg_gI aMi121 rfl rfl rfl hxx17_4 ?_
    refine go_ops aMi121 1 _ (f1 := (21, ([(0, .ref a0), (1, .ref a1)], [.int (1 : Int32), .int x17_4]))) rfl ?_
    refine gg_br (b := decide (¬ x17_4 = (1 : Int32))) (tg := 26) (off := 5) aMi121 rfl rfl rfl rfl (fun hb => ?_) (fun hb => ?_)
    · rw [if_pos (of_decide_eq_true hb)] at h
      refine go_ops aMi121 1 _ (f1 := (27, ([(0, .ref a0), (1, .ref a1)], [.ref a1]))) rfl ?_
      obtain ⟨b27_5, hxb27_5, h⟩ := Option.bind_eq_some_iff.mp h
      refine gg_gR aMi121 rfl rfl rfl hxb27_5 ?_
      obtain ⟨x30_6, hxx30_6, h⟩ := Option.bind_eq_some_iff.mp h
      refine gg_gI aMi121 rfl rfl rfl hxx30_6 ?_
      refine go_ops aMi121 1 _ (f1 := (34, ([(0, .ref a0), (1, .ref a1)], [.ref a0, .int x30_6]))) rfl ?_
      obtain ⟨x34_7, hxx34_7, h⟩ := Option.bind_eq_some_iff.mp h
      refine gg_gI aMi121 rfl rfl rfl hxx34_7 ?_
      refine gg_br (b := decide (x30_6 ≤ x34_7)) (tg := 42) (off := 5) aMi121 rfl rfl rfl rfl (fun hb => ?_) (fun hb => ?_)
      · rw [if_pos (of_decide_eq_true hb)] at h
        refine go_ops aMi121 2 _ (f1 := (44, ([(0, .ref a0), (1, .ref a1)], [.ref a0, .ref a1]))) rfl ?_
        obtain ⟨b44_8, hxb44_8, h⟩ := Option.bind_eq_some_iff.mp h
        refine gg_gR aMi121 rfl rfl rfl hxb44_8 ?_
        refine go_ops aMi121 1 _ (f1 := (48, ([(0, .ref a0), (1, .ref a1)], [.ref a0, .ref b44_8, .ref a1]))) rfl ?_
        obtain ⟨x48_9, hxx48_9, h⟩ := Option.bind_eq_some_iff.mp h
        refine gg_gI aMi121 rfl rfl rfl hxx48_9 ?_
        obtain ⟨u51_10, hxu51_10, h⟩ := Option.bind_eq_some_iff.mp h
        obtain ⟨r51_11, hxr51_11, h⟩ := Option.bind_eq_some_iff.mp h
        refine gg_cv (as := [.ref b44_8, .int x48_9]) (r := []) aMi121 rfl rfl rfl aMi111 (Nat.le_of_ble_eq_true rfl) rfl (Nat.le_of_ble_eq_true rfl) (Nat.le_of_ble_eq_true rfl) (by omega) hxu51_10 (Tf111 (by omega) a1 b44_8 x48_9 I _ hxr51_11) ?_
        show aGo kad d 121 (54, ([(0, .ref a0), (1, .ref a1)], [.int r51_11.1])) (aMem Z r51_11.2, t) _
        refine gg_br (b := decide (¬ r51_11.1 = 0)) (tg := 59) (off := 5) aMi121 rfl rfl rfl rfl (fun hb => ?_) (fun hb => ?_)
        · rw [if_pos (of_decide_eq_true hb)] at h
          refine go_ops aMi121 1 _ (f1 := (60, ([(0, .ref a0), (1, .ref a1)], [.ref a1]))) rfl ?_
          obtain ⟨b60_12, hxb60_12, h⟩ := Option.bind_eq_some_iff.mp h
          refine gg_gR aMi121 rfl rfl rfl hxb60_12 ?_
          obtain ⟨u63_13, hxu63_13, h⟩ := Option.bind_eq_some_iff.mp h
          obtain ⟨r63_14, hxr63_14, h⟩ := Option.bind_eq_some_iff.mp h
          refine gg_cv (as := []) (r := []) aMi121 rfl rfl rfl aMi58 (Nat.le_of_ble_eq_true rfl) rfl (Nat.le_of_ble_eq_true rfl) (Nat.le_of_ble_eq_true rfl) (by omega) hxu63_13 (Tf58 (by omega) b60_12 r51_11.2 _ hxr63_14) ?_
          show aGo kad d 121 (66, ([(0, .ref a0), (1, .ref a1)], [.int r63_14.1])) (aMem Z r63_14.2, t) _
          refine gg_br (b := decide (r63_14.1 = 0)) (tg := 73) (off := 7) aMi121 rfl rfl rfl rfl (fun hb => ?_) (fun hb => ?_)
          · rw [if_pos (of_decide_eq_true hb)] at h
            refine go_ops aMi121 1 _ (f1 := (74, ([(0, .ref a0), (1, .ref a1)], [.int (5 : Int32)]))) rfl ?_
            refine go_le (lv1 := []) (aLe_of (show (List.map (fun q => q.1) ([] : ALv)).Nodup from (by show ([] : List Nat).Nodup; decide)) aSubL_nil) ?_
            exact Tf121_b74 hd (5 : Int32) r63_14.2 _ h
          · rw [if_neg (of_decide_eq_false hb)] at h
            refine go_ops aMi121 2 _ (f1 := (74, ([(0, .ref a0), (1, .ref a1)], [.int (0 : Int32)]))) rfl ?_
            refine go_le (lv1 := []) (aLe_of (show (List.map (fun q => q.1) ([] : ALv)).Nodup from (by show ([] : List Nat).Nodup; decide)) aSubL_nil) ?_
            exact Tf121_b74 hd (0 : Int32) r63_14.2 _ h
        · rw [if_neg (of_decide_eq_false hb)] at h
          refine go_ops aMi121 1 _ (f1 := (58, ([(0, .ref a0), (1, .ref a1)], [.int (4 : Int32)]))) rfl ?_
          cases h
          exact go_ret aMi121 rfl aRetI ⟨rfl, rfl⟩
      · rw [if_neg (of_decide_eq_false hb)] at h
        refine go_ops aMi121 1 _ (f1 := (41, ([(0, .ref a0), (1, .ref a1)], [.int (3 : Int32)]))) rfl ?_
        cases h
        exact go_ret aMi121 rfl aRetI ⟨rfl, rfl⟩
    · rw [if_neg (of_decide_eq_false hb)] at h
      refine go_ops aMi121 1 _ (f1 := (25, ([(0, .ref a0), (1, .ref a1)], [.int (2 : Int32)]))) rfl ?_
      cases h
      exact go_ret aMi121 rfl aRetI ⟨rfl, rfl⟩
  · rw [if_neg (of_decide_eq_false hb)] at h
    refine go_ops aMi121 1 _ (f1 := (12, ([(0, .ref a0), (1, .ref a1)], [.int (1 : Int32)]))) rfl ?_
    cases h
    exact go_ret aMi121 rfl aRetI ⟨rfl, rfl⟩
-- KernelGym$Trial.makeOn (LKernelGym$Machine;[ILKernelGym$Kept;)V
def f120_b121 (kad : Nat → Nat) (N : Nat) (Z : AZ) (k63 : Nat → Nat → Nat → Nat → Int32 → AI → Option (Unit × AI)) (a0 : Nat) (a1 : Nat) (a2 : Nat) (a3 : Nat) (i4 : Int32) (I : AI) : Option (Unit × AI) :=
  k63 a0 a1 a2 a3 (i4 + (1 : Int32)) I
set_option maxRecDepth 20000 in
theorem Tf120_b121 {kad : Nat → Nat} {N : Nat} {Z : AZ} {d : Nat} {t : Option Nat × (Nat × Nat)} (hd : 10 ≤ d) (k63 : Nat → Nat → Nat → Nat → Int32 → AI → Option (Unit × AI))  (hk63 : ∀ (a0 : Nat) (a1 : Nat) (a2 : Nat) (a3 : Nat) (i4 : Int32)  (I : AI) (r : Unit × AI), k63 a0 a1 a2 a3 i4 I = some r → aGo kad d 120 (63, ([(0, .ref a0), (1, .ref a1), (2, .ref a2), (3, .ref a3), (4, .int i4)], [])) (aMem Z I, t) (qV Z t r)) : ∀ (a0 : Nat) (a1 : Nat) (a2 : Nat) (a3 : Nat) (i4 : Int32) (I : AI) (r : Unit × AI), f120_b121 kad N Z k63 a0 a1 a2 a3 i4 I = some r → aGo kad d 120 (121, ([(0, .ref a0), (1, .ref a1), (2, .ref a2), (3, .ref a3), (4, .int i4)], [])) (aMem Z I, t) (qV Z t r) := by
  intro a0 a1 a2 a3 i4 I r h
  unfold f120_b121 at h
  refine go_ops aMi120 2 _ (f1 := (63, ([(4, .int (i4 + (1 : Int32))), (0, .ref a0), (1, .ref a1), (2, .ref a2), (3, .ref a3)], []))) rfl ?_
  refine go_le (lv1 := [(0, .ref a0), (1, .ref a1), (2, .ref a2), (3, .ref a3), (4, .int (i4 + (1 : Int32)))]) (aLe_of (show (List.map (fun q => q.1) ([(0, .ref a0), (1, .ref a1), (2, .ref a2), (3, .ref a3), (4, .int (i4 + (1 : Int32)))] : ALv)).Nodup from (by show ([0, 1, 2, 3, 4] : List Nat).Nodup; decide)) (aSubL_cons rfl (aSubL_cons rfl (aSubL_cons rfl (aSubL_cons rfl (aSubL_cons rfl aSubL_nil)))))) ?_
  exact hk63 a0 a1 a2 a3 (i4 + (1 : Int32)) I _ h
def f120_b156 (kad : Nat → Nat) (N : Nat) (Z : AZ) (s0 : Int32) (s1 : Nat) (I : AI) : Option (Unit × AI) :=
  (pB Z I 9 9 s1 s0).bind fun I156_1 =>
  some ((), I156_1)
set_option maxRecDepth 20000 in
theorem Tf120_b156 {kad : Nat → Nat} {N : Nat} {Z : AZ} {d : Nat} {t : Option Nat × (Nat × Nat)} (hd : 10 ≤ d) : ∀ (s0 : Int32) (s1 : Nat) (I : AI) (r : Unit × AI), f120_b156 kad N Z s0 s1 I = some r → aGo kad d 120 (156, ([], [.int s0, .ref s1])) (aMem Z I, t) (qV Z t r) := by
  intro s0 s1 I r h
  unfold f120_b156 at h
  obtain ⟨I156_1, hxI156_1, h⟩ := Option.bind_eq_some_iff.mp h
  refine gg_pB aMi120 rfl rfl rfl rfl (by decide) hxI156_1 ?_
  cases h
  exact go_ret aMi120 rfl rfl ⟨rfl, rfl⟩
def f120_b151 (kad : Nat → Nat) (N : Nat) (Z : AZ) (s0 : Nat) (I : AI) : Option (Unit × AI) :=
  f120_b156 kad N Z (1 : Int32) s0 I
set_option maxRecDepth 20000 in
theorem Tf120_b151 {kad : Nat → Nat} {N : Nat} {Z : AZ} {d : Nat} {t : Option Nat × (Nat × Nat)} (hd : 10 ≤ d) : ∀ (s0 : Nat) (I : AI) (r : Unit × AI), f120_b151 kad N Z s0 I = some r → aGo kad d 120 (151, ([], [.ref s0])) (aMem Z I, t) (qV Z t r) := by
  intro s0 I r h
  unfold f120_b151 at h
  refine go_ops aMi120 2 _ (f1 := (156, ([], [.int (1 : Int32), .ref s0]))) rfl ?_
  exact Tf120_b156 hd (1 : Int32) s0 I _ h
def f120_b127 (kad : Nat → Nat) (N : Nat) (Z : AZ) (a0 : Nat) (a1 : Nat) (I : AI) : Option (Unit × AI) :=
  (isK Z a0 9).bind fun u130_1 =>
  (f121 kad N Z a0 a1 I).bind fun r130_2 =>
  (pI Z r130_2.2 9 2 a0 r130_2.1).bind fun I133_3 =>
  (gI Z I133_3 9 9 a0).bind fun x138_4 =>
  if ¬ x138_4 = 0 then
    f120_b151 kad N Z a0 I133_3
  else
    (gI Z I133_3 9 2 a0).bind fun x145_5 =>
    if ¬ x145_5 = 0 then
      f120_b156 kad N Z (0 : Int32) a0 I133_3
    else
      f120_b151 kad N Z a0 I133_3
set_option maxRecDepth 20000 in
theorem Tf120_b127 {kad : Nat → Nat} {N : Nat} {Z : AZ} {d : Nat} {t : Option Nat × (Nat × Nat)} (hd : 10 ≤ d) : ∀ (a0 : Nat) (a1 : Nat) (I : AI) (r : Unit × AI), f120_b127 kad N Z a0 a1 I = some r → aGo kad d 120 (127, ([(0, .ref a0), (1, .ref a1)], [])) (aMem Z I, t) (qV Z t r) := by
  intro a0 a1 I r h
  unfold f120_b127 at h
  refine go_ops aMi120 3 _ (f1 := (130, ([(0, .ref a0), (1, .ref a1)], [.ref a1, .ref a0, .ref a0]))) rfl ?_
  obtain ⟨u130_1, hxu130_1, h⟩ := Option.bind_eq_some_iff.mp h
  obtain ⟨r130_2, hxr130_2, h⟩ := Option.bind_eq_some_iff.mp h
  refine gg_cv (as := [.ref a1]) (r := [.ref a0]) aMi120 rfl rfl rfl aMi121 (Nat.le_of_ble_eq_true rfl) rfl (Nat.le_of_ble_eq_true rfl) (Nat.le_of_ble_eq_true rfl) (by omega) hxu130_1 (Tf121 (by omega) a0 a1 I _ hxr130_2) ?_
  show aGo kad d 120 (133, ([(0, .ref a0), (1, .ref a1)], [.int r130_2.1, .ref a0])) (aMem Z r130_2.2, t) _
  obtain ⟨I133_3, hxI133_3, h⟩ := Option.bind_eq_some_iff.mp h
  refine gg_pI aMi120 rfl rfl rfl rfl (by decide) hxI133_3 ?_
  refine go_ops aMi120 2 _ (f1 := (138, ([(0, .ref a0), (1, .ref a1)], [.ref a0, .ref a0]))) rfl ?_
  obtain ⟨x138_4, hxx138_4, h⟩ := Option.bind_eq_some_iff.mp h
  refine gg_gI aMi120 rfl rfl rfl hxx138_4 ?_
  refine gg_br (b := decide (¬ x138_4 = 0)) (tg := 151) (off := 10) aMi120 rfl rfl rfl rfl (fun hb => ?_) (fun hb => ?_)
  · rw [if_pos (of_decide_eq_true hb)] at h
    refine go_le (lv1 := []) (aLe_of (show (List.map (fun q => q.1) ([] : ALv)).Nodup from (by show ([] : List Nat).Nodup; decide)) aSubL_nil) ?_
    exact Tf120_b151 hd a0 I133_3 _ h
  · rw [if_neg (of_decide_eq_false hb)] at h
    refine go_ops aMi120 1 _ (f1 := (145, ([(0, .ref a0), (1, .ref a1)], [.ref a0, .ref a0]))) rfl ?_
    obtain ⟨x145_5, hxx145_5, h⟩ := Option.bind_eq_some_iff.mp h
    refine gg_gI aMi120 rfl rfl rfl hxx145_5 ?_
    refine gg_br (b := decide (¬ x145_5 = 0)) (tg := 155) (off := 7) aMi120 rfl rfl rfl rfl (fun hb => ?_) (fun hb => ?_)
    · rw [if_pos (of_decide_eq_true hb)] at h
      refine go_ops aMi120 1 _ (f1 := (156, ([(0, .ref a0), (1, .ref a1)], [.int (0 : Int32), .ref a0]))) rfl ?_
      refine go_le (lv1 := []) (aLe_of (show (List.map (fun q => q.1) ([] : ALv)).Nodup from (by show ([] : List Nat).Nodup; decide)) aSubL_nil) ?_
      exact Tf120_b156 hd (0 : Int32) a0 I133_3 _ h
    · rw [if_neg (of_decide_eq_false hb)] at h
      refine go_le (lv1 := []) (aLe_of (show (List.map (fun q => q.1) ([] : ALv)).Nodup from (by show ([] : List Nat).Nodup; decide)) aSubL_nil) ?_
      exact Tf120_b151 hd a0 I133_3 _ h
def f120_b63 (kad : Nat → Nat) (N : Nat) (Z : AZ) : Nat → Nat → Nat → Nat → Nat → Int32 → AI → Option (Unit × AI)
  | 0, _, _, _, _, _, _ => none
  | F + 1, a0, a1, a2, a3, i4, I =>
    (gI Z I 9 5 a0).bind fun x66_1 =>
    if x66_1 < i4 then
      f120_b127 kad N Z a0 a1 I
    else
      (isK Z a1 8).bind fun u73_2 =>
      (f82 kad N Z a1 I).bind fun r73_3 =>
      if r73_3.1 = 0 then
        f120_b127 kad N Z a0 a1 r73_3.2
      else
        (isK Z a1 8).bind fun u81_4 =>
        (f83 kad N Z a1 a3 r73_3.2).bind fun r81_5 =>
        (gI Z r81_5.2 9 8 a0).bind fun x87_6 =>
        if ¬ i4 = x87_6 then
          f120_b121 kad N Z (fun p0 p1 p2 p3 p4 I => f120_b63 kad N Z F p0 p1 p2 p3 p4 I) a0 a1 a2 a3 i4 r81_5.2
        else
          (gR Z r81_5.2 8 0 a1).bind fun b94_7 =>
          (gI Z r81_5.2 2 0 b94_7).bind fun x97_8 =>
          if ¬ x97_8 = (1 : Int32) then
            f120_b121 kad N Z (fun p0 p1 p2 p3 p4 I => f120_b63 kad N Z F p0 p1 p2 p3 p4 I) a0 a1 a2 a3 i4 r81_5.2
          else
            (isK Z a1 8).bind fun u105_9 =>
            (f81 kad N Z a1 r81_5.2).bind fun r105_10 =>
            (gR Z r105_10.2 8 4 a1).bind fun b109_11 =>
            (isK Z b109_11 6).bind fun u112_12 =>
            (f72 kad N Z b109_11 r105_10.2).bind fun r112_13 =>
            (isK Z a1 8).bind fun u117_14 =>
            (f80 kad N Z a1 a2 r112_13.2).bind fun r117_15 =>
            f120_b121 kad N Z (fun p0 p1 p2 p3 p4 I => f120_b63 kad N Z F p0 p1 p2 p3 p4 I) a0 a1 a2 a3 i4 r117_15.2
set_option maxRecDepth 20000 in
theorem Tf120_b63 {kad : Nat → Nat} {N : Nat} {Z : AZ} {d : Nat} {t : Option Nat × (Nat × Nat)} (hd : 10 ≤ d) : ∀ (F : Nat) (a0 : Nat) (a1 : Nat) (a2 : Nat) (a3 : Nat) (i4 : Int32) (I : AI) (r : Unit × AI), f120_b63 kad N Z F a0 a1 a2 a3 i4 I = some r → aGo kad d 120 (63, ([(0, .ref a0), (1, .ref a1), (2, .ref a2), (3, .ref a3), (4, .int i4)], [])) (aMem Z I, t) (qV Z t r) := by
  intro F
  induction F with
  | zero => intro a0 a1 a2 a3 i4 I r h; cases h
  | succ F ih =>
    intro a0 a1 a2 a3 i4 I r h
    unfold f120_b63 at h
    refine go_ops aMi120 2 _ (f1 := (66, ([(0, .ref a0), (1, .ref a1), (2, .ref a2), (3, .ref a3), (4, .int i4)], [.ref a0, .int i4]))) rfl ?_
    obtain ⟨x66_1, hxx66_1, h⟩ := Option.bind_eq_some_iff.mp h
    refine gg_gI aMi120 rfl rfl rfl hxx66_1 ?_
    refine gg_br (b := decide (x66_1 < i4)) (tg := 127) (off := 58) aMi120 rfl rfl rfl rfl (fun hb => ?_) (fun hb => ?_)
    · rw [if_pos (of_decide_eq_true hb)] at h
      refine go_le (lv1 := [(0, .ref a0), (1, .ref a1)]) (aLe_of (show (List.map (fun q => q.1) ([(0, .ref a0), (1, .ref a1)] : ALv)).Nodup from (by show ([0, 1] : List Nat).Nodup; decide)) (aSubL_cons rfl (aSubL_cons rfl aSubL_nil))) ?_
      exact Tf120_b127 hd a0 a1 I _ h
    · rw [if_neg (of_decide_eq_false hb)] at h
      refine go_ops aMi120 1 _ (f1 := (73, ([(0, .ref a0), (1, .ref a1), (2, .ref a2), (3, .ref a3), (4, .int i4)], [.ref a1]))) rfl ?_
      obtain ⟨u73_2, hxu73_2, h⟩ := Option.bind_eq_some_iff.mp h
      obtain ⟨r73_3, hxr73_3, h⟩ := Option.bind_eq_some_iff.mp h
      refine gg_cv (as := []) (r := []) aMi120 rfl rfl rfl aMi82 (Nat.le_of_ble_eq_true rfl) rfl (Nat.le_of_ble_eq_true rfl) (Nat.le_of_ble_eq_true rfl) (by omega) hxu73_2 (Tf82 (by omega) a1 I _ hxr73_3) ?_
      show aGo kad d 120 (76, ([(0, .ref a0), (1, .ref a1), (2, .ref a2), (3, .ref a3), (4, .int i4)], [.int r73_3.1])) (aMem Z r73_3.2, t) _
      refine gg_br (b := decide (r73_3.1 = 0)) (tg := 127) (off := 51) aMi120 rfl rfl rfl rfl (fun hb => ?_) (fun hb => ?_)
      · rw [if_pos (of_decide_eq_true hb)] at h
        refine go_le (lv1 := [(0, .ref a0), (1, .ref a1)]) (aLe_of (show (List.map (fun q => q.1) ([(0, .ref a0), (1, .ref a1)] : ALv)).Nodup from (by show ([0, 1] : List Nat).Nodup; decide)) (aSubL_cons rfl (aSubL_cons rfl aSubL_nil))) ?_
        exact Tf120_b127 hd a0 a1 r73_3.2 _ h
      · rw [if_neg (of_decide_eq_false hb)] at h
        refine go_ops aMi120 2 _ (f1 := (81, ([(0, .ref a0), (1, .ref a1), (2, .ref a2), (3, .ref a3), (4, .int i4)], [.ref a3, .ref a1]))) rfl ?_
        obtain ⟨u81_4, hxu81_4, h⟩ := Option.bind_eq_some_iff.mp h
        obtain ⟨r81_5, hxr81_5, h⟩ := Option.bind_eq_some_iff.mp h
        refine gg_cv (as := [.ref a3]) (r := []) aMi120 rfl rfl rfl aMi83 (Nat.le_of_ble_eq_true rfl) rfl (Nat.le_of_ble_eq_true rfl) (Nat.le_of_ble_eq_true rfl) (by omega) hxu81_4 (Tf83 (by omega) a1 a3 r73_3.2 _ hxr81_5) ?_
        show aGo kad d 120 (84, ([(0, .ref a0), (1, .ref a1), (2, .ref a2), (3, .ref a3), (4, .int i4)], [])) (aMem Z r81_5.2, t) _
        refine go_ops aMi120 2 _ (f1 := (87, ([(0, .ref a0), (1, .ref a1), (2, .ref a2), (3, .ref a3), (4, .int i4)], [.ref a0, .int i4]))) rfl ?_
        obtain ⟨x87_6, hxx87_6, h⟩ := Option.bind_eq_some_iff.mp h
        refine gg_gI aMi120 rfl rfl rfl hxx87_6 ?_
        refine gg_br (b := decide (¬ i4 = x87_6)) (tg := 121) (off := 31) aMi120 rfl rfl rfl rfl (fun hb => ?_) (fun hb => ?_)
        · rw [if_pos (of_decide_eq_true hb)] at h
          exact Tf120_b121 hd (fun p0 p1 p2 p3 p4 I => f120_b63 kad N Z F p0 p1 p2 p3 p4 I) (fun p0 p1 p2 p3 p4 I r hh => ih p0 p1 p2 p3 p4 I r hh) a0 a1 a2 a3 i4 r81_5.2 _ h
        · rw [if_neg (of_decide_eq_false hb)] at h
          refine go_ops aMi120 1 _ (f1 := (94, ([(0, .ref a0), (1, .ref a1), (2, .ref a2), (3, .ref a3), (4, .int i4)], [.ref a1]))) rfl ?_
          obtain ⟨b94_7, hxb94_7, h⟩ := Option.bind_eq_some_iff.mp h
          refine gg_gR aMi120 rfl rfl rfl hxb94_7 ?_
          obtain ⟨x97_8, hxx97_8, h⟩ := Option.bind_eq_some_iff.mp h
          refine gg_gI aMi120 rfl rfl rfl hxx97_8 ?_
          refine go_ops aMi120 1 _ (f1 := (101, ([(0, .ref a0), (1, .ref a1), (2, .ref a2), (3, .ref a3), (4, .int i4)], [.int (1 : Int32), .int x97_8]))) rfl ?_
          refine gg_br (b := decide (¬ x97_8 = (1 : Int32))) (tg := 121) (off := 20) aMi120 rfl rfl rfl rfl (fun hb => ?_) (fun hb => ?_)
          · rw [if_pos (of_decide_eq_true hb)] at h
            exact Tf120_b121 hd (fun p0 p1 p2 p3 p4 I => f120_b63 kad N Z F p0 p1 p2 p3 p4 I) (fun p0 p1 p2 p3 p4 I r hh => ih p0 p1 p2 p3 p4 I r hh) a0 a1 a2 a3 i4 r81_5.2 _ h
          · rw [if_neg (of_decide_eq_false hb)] at h
            refine go_ops aMi120 1 _ (f1 := (105, ([(0, .ref a0), (1, .ref a1), (2, .ref a2), (3, .ref a3), (4, .int i4)], [.ref a1]))) rfl ?_
            obtain ⟨u105_9, hxu105_9, h⟩ := Option.bind_eq_some_iff.mp h
            obtain ⟨r105_10, hxr105_10, h⟩ := Option.bind_eq_some_iff.mp h
            refine gg_cv (as := []) (r := []) aMi120 rfl rfl rfl aMi81 (Nat.le_of_ble_eq_true rfl) rfl (Nat.le_of_ble_eq_true rfl) (Nat.le_of_ble_eq_true rfl) (by omega) hxu105_9 (Tf81 (by omega) a1 r81_5.2 _ hxr105_10) ?_
            show aGo kad d 120 (108, ([(0, .ref a0), (1, .ref a1), (2, .ref a2), (3, .ref a3), (4, .int i4)], [])) (aMem Z r105_10.2, t) _
            refine go_ops aMi120 1 _ (f1 := (109, ([(0, .ref a0), (1, .ref a1), (2, .ref a2), (3, .ref a3), (4, .int i4)], [.ref a1]))) rfl ?_
            obtain ⟨b109_11, hxb109_11, h⟩ := Option.bind_eq_some_iff.mp h
            refine gg_gR aMi120 rfl rfl rfl hxb109_11 ?_
            obtain ⟨u112_12, hxu112_12, h⟩ := Option.bind_eq_some_iff.mp h
            obtain ⟨r112_13, hxr112_13, h⟩ := Option.bind_eq_some_iff.mp h
            refine gg_cv (as := []) (r := []) aMi120 rfl rfl rfl aMi72 (Nat.le_of_ble_eq_true rfl) rfl (Nat.le_of_ble_eq_true rfl) (Nat.le_of_ble_eq_true rfl) (by omega) hxu112_12 (Tf72 (by omega) b109_11 r105_10.2 _ hxr112_13) ?_
            show aGo kad d 120 (115, ([(0, .ref a0), (1, .ref a1), (2, .ref a2), (3, .ref a3), (4, .int i4)], [])) (aMem Z r112_13.2, t) _
            refine go_ops aMi120 2 _ (f1 := (117, ([(0, .ref a0), (1, .ref a1), (2, .ref a2), (3, .ref a3), (4, .int i4)], [.ref a2, .ref a1]))) rfl ?_
            obtain ⟨u117_14, hxu117_14, h⟩ := Option.bind_eq_some_iff.mp h
            obtain ⟨r117_15, hxr117_15, h⟩ := Option.bind_eq_some_iff.mp h
            refine gg_cv (as := [.ref a2]) (r := []) aMi120 rfl rfl rfl aMi80 (Nat.le_of_ble_eq_true rfl) rfl (Nat.le_of_ble_eq_true rfl) (Nat.le_of_ble_eq_true rfl) (by omega) hxu117_14 (Tf80 (by omega) a1 a2 r112_13.2 _ hxr117_15) ?_
            show aGo kad d 120 (120, ([(0, .ref a0), (1, .ref a1), (2, .ref a2), (3, .ref a3), (4, .int i4)], [.int r117_15.1])) (aMem Z r117_15.2, t) _
            refine go_ops aMi120 1 _ (f1 := (121, ([(0, .ref a0), (1, .ref a1), (2, .ref a2), (3, .ref a3), (4, .int i4)], []))) rfl ?_
            exact Tf120_b121 hd (fun p0 p1 p2 p3 p4 I => f120_b63 kad N Z F p0 p1 p2 p3 p4 I) (fun p0 p1 p2 p3 p4 I r hh => ih p0 p1 p2 p3 p4 I r hh) a0 a1 a2 a3 i4 r117_15.2 _ h
def f120_b54 (kad : Nat → Nat) (N : Nat) (Z : AZ) (a0 : Nat) (a1 : Nat) (a2 : Nat) (a3 : Nat) (I : AI) : Option (Unit × AI) :=
  (isK Z a1 8).bind fun u56_1 =>
  (f80 kad N Z a1 a2 I).bind fun r56_2 =>
  f120_b63 kad N Z N a0 a1 a2 a3 (1 : Int32) r56_2.2
set_option maxRecDepth 20000 in
theorem Tf120_b54 {kad : Nat → Nat} {N : Nat} {Z : AZ} {d : Nat} {t : Option Nat × (Nat × Nat)} (hd : 10 ≤ d) : ∀ (a0 : Nat) (a1 : Nat) (a2 : Nat) (a3 : Nat) (I : AI) (r : Unit × AI), f120_b54 kad N Z a0 a1 a2 a3 I = some r → aGo kad d 120 (54, ([(0, .ref a0), (1, .ref a1), (2, .ref a2), (3, .ref a3)], [])) (aMem Z I, t) (qV Z t r) := by
  intro a0 a1 a2 a3 I r h
  unfold f120_b54 at h
  refine go_ops aMi120 2 _ (f1 := (56, ([(0, .ref a0), (1, .ref a1), (2, .ref a2), (3, .ref a3)], [.ref a2, .ref a1]))) rfl ?_
  obtain ⟨u56_1, hxu56_1, h⟩ := Option.bind_eq_some_iff.mp h
  obtain ⟨r56_2, hxr56_2, h⟩ := Option.bind_eq_some_iff.mp h
  refine gg_cv (as := [.ref a2]) (r := []) aMi120 rfl rfl rfl aMi80 (Nat.le_of_ble_eq_true rfl) rfl (Nat.le_of_ble_eq_true rfl) (Nat.le_of_ble_eq_true rfl) (by omega) hxu56_1 (Tf80 (by omega) a1 a2 I _ hxr56_2) ?_
  show aGo kad d 120 (59, ([(0, .ref a0), (1, .ref a1), (2, .ref a2), (3, .ref a3)], [.int r56_2.1])) (aMem Z r56_2.2, t) _
  refine go_ops aMi120 3 _ (f1 := (63, ([(4, .int (1 : Int32)), (0, .ref a0), (1, .ref a1), (2, .ref a2), (3, .ref a3)], []))) rfl ?_
  refine go_le (lv1 := [(0, .ref a0), (1, .ref a1), (2, .ref a2), (3, .ref a3), (4, .int (1 : Int32))]) (aLe_of (show (List.map (fun q => q.1) ([(0, .ref a0), (1, .ref a1), (2, .ref a2), (3, .ref a3), (4, .int (1 : Int32))] : ALv)).Nodup from (by show ([0, 1, 2, 3, 4] : List Nat).Nodup; decide)) (aSubL_cons rfl (aSubL_cons rfl (aSubL_cons rfl (aSubL_cons rfl (aSubL_cons rfl aSubL_nil)))))) ?_
  exact Tf120_b63 hd N a0 a1 a2 a3 (1 : Int32) r56_2.2 _ h
def f120_b17 (kad : Nat → Nat) (N : Nat) (Z : AZ) : Nat → Nat → Nat → Nat → Nat → Int32 → AI → Option (Unit × AI)
  | 0, _, _, _, _, _, _ => none
  | F + 1, a0, a1, a2, a3, i4, I =>
    (gI Z I 9 0 a0).bind fun x20_1 =>
    if x20_1 ≤ i4 then
      f120_b54 kad N Z a0 a1 a2 a3 I
    else
      if (6 : Int32) ≤ i4 then
        f120_b54 kad N Z a0 a1 a2 a3 I
      else
        (gR Z I 8 4 a1).bind fun b34_2 =>
        (gR Z I 9 3 a0).bind fun b38_3 =>
        (lI Z I 100 b38_3 i4).bind fun x43_4 =>
        (isK Z b34_2 6).bind fun u45_5 =>
        (f74 kad N Z b34_2 x43_4 (0 : Int32) I).bind fun r45_6 =>
        f120_b17 kad N Z F a0 a1 a2 a3 (i4 + (1 : Int32)) r45_6.2
set_option maxRecDepth 20000 in
theorem Tf120_b17 {kad : Nat → Nat} {N : Nat} {Z : AZ} {d : Nat} {t : Option Nat × (Nat × Nat)} (hd : 10 ≤ d) : ∀ (F : Nat) (a0 : Nat) (a1 : Nat) (a2 : Nat) (a3 : Nat) (i4 : Int32) (I : AI) (r : Unit × AI), f120_b17 kad N Z F a0 a1 a2 a3 i4 I = some r → aGo kad d 120 (17, ([(0, .ref a0), (1, .ref a1), (2, .ref a2), (3, .ref a3), (4, .int i4)], [])) (aMem Z I, t) (qV Z t r) := by
  intro F
  induction F with
  | zero => intro a0 a1 a2 a3 i4 I r h; cases h
  | succ F ih =>
    intro a0 a1 a2 a3 i4 I r h
    unfold f120_b17 at h
    refine go_ops aMi120 2 _ (f1 := (20, ([(0, .ref a0), (1, .ref a1), (2, .ref a2), (3, .ref a3), (4, .int i4)], [.ref a0, .int i4]))) rfl ?_
    obtain ⟨x20_1, hxx20_1, h⟩ := Option.bind_eq_some_iff.mp h
    refine gg_gI aMi120 rfl rfl rfl hxx20_1 ?_
    refine gg_br (b := decide (x20_1 ≤ i4)) (tg := 54) (off := 31) aMi120 rfl rfl rfl rfl (fun hb => ?_) (fun hb => ?_)
    · rw [if_pos (of_decide_eq_true hb)] at h
      refine go_le (lv1 := [(0, .ref a0), (1, .ref a1), (2, .ref a2), (3, .ref a3)]) (aLe_of (show (List.map (fun q => q.1) ([(0, .ref a0), (1, .ref a1), (2, .ref a2), (3, .ref a3)] : ALv)).Nodup from (by show ([0, 1, 2, 3] : List Nat).Nodup; decide)) (aSubL_cons rfl (aSubL_cons rfl (aSubL_cons rfl (aSubL_cons rfl aSubL_nil))))) ?_
      exact Tf120_b54 hd a0 a1 a2 a3 I _ h
    · rw [if_neg (of_decide_eq_false hb)] at h
      refine go_ops aMi120 2 _ (f1 := (30, ([(0, .ref a0), (1, .ref a1), (2, .ref a2), (3, .ref a3), (4, .int i4)], [.int (6 : Int32), .int i4]))) rfl ?_
      refine gg_br (b := decide ((6 : Int32) ≤ i4)) (tg := 54) (off := 24) aMi120 rfl rfl rfl rfl (fun hb => ?_) (fun hb => ?_)
      · rw [if_pos (of_decide_eq_true hb)] at h
        refine go_le (lv1 := [(0, .ref a0), (1, .ref a1), (2, .ref a2), (3, .ref a3)]) (aLe_of (show (List.map (fun q => q.1) ([(0, .ref a0), (1, .ref a1), (2, .ref a2), (3, .ref a3)] : ALv)).Nodup from (by show ([0, 1, 2, 3] : List Nat).Nodup; decide)) (aSubL_cons rfl (aSubL_cons rfl (aSubL_cons rfl (aSubL_cons rfl aSubL_nil))))) ?_
        exact Tf120_b54 hd a0 a1 a2 a3 I _ h
      · rw [if_neg (of_decide_eq_false hb)] at h
        refine go_ops aMi120 1 _ (f1 := (34, ([(0, .ref a0), (1, .ref a1), (2, .ref a2), (3, .ref a3), (4, .int i4)], [.ref a1]))) rfl ?_
        obtain ⟨b34_2, hxb34_2, h⟩ := Option.bind_eq_some_iff.mp h
        refine gg_gR aMi120 rfl rfl rfl hxb34_2 ?_
        refine go_ops aMi120 1 _ (f1 := (38, ([(0, .ref a0), (1, .ref a1), (2, .ref a2), (3, .ref a3), (4, .int i4)], [.ref a0, .ref b34_2]))) rfl ?_
        obtain ⟨b38_3, hxb38_3, h⟩ := Option.bind_eq_some_iff.mp h
        refine gg_gR aMi120 rfl rfl rfl hxb38_3 ?_
        refine go_ops aMi120 1 _ (f1 := (43, ([(0, .ref a0), (1, .ref a1), (2, .ref a2), (3, .ref a3), (4, .int i4)], [.int i4, .ref b38_3, .ref b34_2]))) rfl ?_
        obtain ⟨x43_4, hxx43_4, h⟩ := Option.bind_eq_some_iff.mp h
        refine gg_lI (Or.inl ⟨rfl, rfl⟩) aMi120 rfl hxx43_4 ?_
        refine go_ops aMi120 1 _ (f1 := (45, ([(0, .ref a0), (1, .ref a1), (2, .ref a2), (3, .ref a3), (4, .int i4)], [.int (0 : Int32), .int x43_4, .ref b34_2]))) rfl ?_
        obtain ⟨u45_5, hxu45_5, h⟩ := Option.bind_eq_some_iff.mp h
        obtain ⟨r45_6, hxr45_6, h⟩ := Option.bind_eq_some_iff.mp h
        refine gg_cv (as := [.int x43_4, .int (0 : Int32)]) (r := []) aMi120 rfl rfl rfl aMi74 (Nat.le_of_ble_eq_true rfl) rfl (Nat.le_of_ble_eq_true rfl) (Nat.le_of_ble_eq_true rfl) (by omega) hxu45_5 (Tf74 (by omega) b34_2 x43_4 (0 : Int32) I _ hxr45_6) ?_
        show aGo kad d 120 (48, ([(0, .ref a0), (1, .ref a1), (2, .ref a2), (3, .ref a3), (4, .int i4)], [])) (aMem Z r45_6.2, t) _
        refine go_ops aMi120 2 _ (f1 := (17, ([(4, .int (i4 + (1 : Int32))), (0, .ref a0), (1, .ref a1), (2, .ref a2), (3, .ref a3)], []))) rfl ?_
        refine go_le (lv1 := [(0, .ref a0), (1, .ref a1), (2, .ref a2), (3, .ref a3), (4, .int (i4 + (1 : Int32)))]) (aLe_of (show (List.map (fun q => q.1) ([(0, .ref a0), (1, .ref a1), (2, .ref a2), (3, .ref a3), (4, .int (i4 + (1 : Int32)))] : ALv)).Nodup from (by show ([0, 1, 2, 3, 4] : List Nat).Nodup; decide)) (aSubL_cons rfl (aSubL_cons rfl (aSubL_cons rfl (aSubL_cons rfl (aSubL_cons rfl aSubL_nil)))))) ?_
        exact ih a0 a1 a2 a3 (i4 + (1 : Int32)) r45_6.2 _ h
def f120 (kad : Nat → Nat) (N : Nat) (Z : AZ) (a0 : Nat) (a1 : Nat) (a2 : Nat) (a3 : Nat) (I : AI) : Option (Unit × AI) :=
  (gR Z I 8 3 a1).bind fun b1_1 =>
  (isK Z b1_1 3).bind fun u4_2 =>
  (f42 kad N Z b1_1 I).bind fun r4_3 =>
  (gR Z r4_3.2 8 4 a1).bind fun b8_4 =>
  (isK Z b8_4 6).bind fun u11_5 =>
  (f72 kad N Z b8_4 r4_3.2).bind fun r11_6 =>
  f120_b17 kad N Z N a0 a1 a2 a3 (0 : Int32) r11_6.2
set_option maxRecDepth 20000 in
theorem Tf120 {kad : Nat → Nat} {N : Nat} {Z : AZ} {d : Nat} {t : Option Nat × (Nat × Nat)} (hd : 10 ≤ d) : ∀ (a0 : Nat) (a1 : Nat) (a2 : Nat) (a3 : Nat) (I : AI) (r : Unit × AI), f120 kad N Z a0 a1 a2 a3 I = some r → aGo kad d 120 (0, ([(0, .ref a0), (1, .ref a1), (2, .ref a2), (3, .ref a3)], [])) (aMem Z I, t) (qV Z t r) := by
  intro a0 a1 a2 a3 I r h
  unfold f120 at h
  refine go_ops aMi120 1 _ (f1 := (1, ([(0, .ref a0), (1, .ref a1), (2, .ref a2), (3, .ref a3)], [.ref a1]))) rfl ?_
  obtain ⟨b1_1, hxb1_1, h⟩ := Option.bind_eq_some_iff.mp h
  refine gg_gR aMi120 rfl rfl rfl hxb1_1 ?_
  obtain ⟨u4_2, hxu4_2, h⟩ := Option.bind_eq_some_iff.mp h
  obtain ⟨r4_3, hxr4_3, h⟩ := Option.bind_eq_some_iff.mp h
  refine gg_cv (as := []) (r := []) aMi120 rfl rfl rfl aMi42 (Nat.le_of_ble_eq_true rfl) rfl (Nat.le_of_ble_eq_true rfl) (Nat.le_of_ble_eq_true rfl) (by omega) hxu4_2 (Tf42 (by omega) b1_1 I _ hxr4_3) ?_
  show aGo kad d 120 (7, ([(0, .ref a0), (1, .ref a1), (2, .ref a2), (3, .ref a3)], [])) (aMem Z r4_3.2, t) _
  refine go_ops aMi120 1 _ (f1 := (8, ([(0, .ref a0), (1, .ref a1), (2, .ref a2), (3, .ref a3)], [.ref a1]))) rfl ?_
  obtain ⟨b8_4, hxb8_4, h⟩ := Option.bind_eq_some_iff.mp h
  refine gg_gR aMi120 rfl rfl rfl hxb8_4 ?_
  obtain ⟨u11_5, hxu11_5, h⟩ := Option.bind_eq_some_iff.mp h
  obtain ⟨r11_6, hxr11_6, h⟩ := Option.bind_eq_some_iff.mp h
  refine gg_cv (as := []) (r := []) aMi120 rfl rfl rfl aMi72 (Nat.le_of_ble_eq_true rfl) rfl (Nat.le_of_ble_eq_true rfl) (Nat.le_of_ble_eq_true rfl) (by omega) hxu11_5 (Tf72 (by omega) b8_4 r4_3.2 _ hxr11_6) ?_
  show aGo kad d 120 (14, ([(0, .ref a0), (1, .ref a1), (2, .ref a2), (3, .ref a3)], [])) (aMem Z r11_6.2, t) _
  refine go_ops aMi120 2 _ (f1 := (17, ([(4, .int (0 : Int32)), (0, .ref a0), (1, .ref a1), (2, .ref a2), (3, .ref a3)], []))) rfl ?_
  refine go_le (lv1 := [(0, .ref a0), (1, .ref a1), (2, .ref a2), (3, .ref a3), (4, .int (0 : Int32))]) (aLe_of (show (List.map (fun q => q.1) ([(0, .ref a0), (1, .ref a1), (2, .ref a2), (3, .ref a3), (4, .int (0 : Int32))] : ALv)).Nodup from (by show ([0, 1, 2, 3, 4] : List Nat).Nodup; decide)) (aSubL_cons rfl (aSubL_cons rfl (aSubL_cons rfl (aSubL_cons rfl (aSubL_cons rfl aSubL_nil)))))) ?_
  exact Tf120_b17 hd N a0 a1 a2 a3 (0 : Int32) r11_6.2 _ h
