-- KernelGym$Assembler.firstTime (LKernelGym$Line;II)I
def f10_b115 (kad : Nat → Nat) (N : Nat) (Z : AZ) (s0 : Int32) (I : AI) : Option (Int32 × AI) :=
  some (s0, I)
set_option maxRecDepth 20000 in
theorem Tf10_b115 {kad : Nat → Nat} {N : Nat} {Z : AZ} {d : Nat} {t : Option Nat × (Nat × Nat)} (hd : 2 ≤ d) : ∀ (s0 : Int32) (I : AI) (r : Int32 × AI), f10_b115 kad N Z s0 I = some r → aGo kad d 10 (115, ([], [.int s0])) (aMem Z I, t) (qI Z t r) := by
  intro s0 I r h
  unfold f10_b115 at h
  cases h
  exact go_ret aMi10 rfl aRetI ⟨rfl, rfl⟩
def f10_b136 (kad : Nat → Nat) (N : Nat) (Z : AZ) (s0 : Int32) (I : AI) : Option (Int32 × AI) :=
  some (s0, I)
set_option maxRecDepth 20000 in
theorem Tf10_b136 {kad : Nat → Nat} {N : Nat} {Z : AZ} {d : Nat} {t : Option Nat × (Nat × Nat)} (hd : 2 ≤ d) : ∀ (s0 : Int32) (I : AI) (r : Int32 × AI), f10_b136 kad N Z s0 I = some r → aGo kad d 10 (136, ([], [.int s0])) (aMem Z I, t) (qI Z t r) := by
  intro s0 I r h
  unfold f10_b136 at h
  cases h
  exact go_ret aMi10 rfl aRetI ⟨rfl, rfl⟩
def f10_b116 (kad : Nat → Nat) (N : Nat) (Z : AZ) (a0 : Nat) (a1 : Nat) (i2 : Int32) (I : AI) : Option (Int32 × AI) :=
  (f11 kad N Z a1 I).bind fun r118_1 =>
  (isK Z a0 0).bind fun u121_2 =>
  (f12 kad N Z a0 r118_1.1 r118_1.2).bind fun r121_3 =>
  if r121_3.1 = 0 then
    (f7 kad N Z (1 : Int32) i2 r121_3.2).bind fun r133_4 =>
    f10_b136 kad N Z r133_4.1 r133_4.2
  else
    f10_b136 kad N Z (0 : Int32) r121_3.2
set_option maxRecDepth 20000 in
theorem Tf10_b116 {kad : Nat → Nat} {N : Nat} {Z : AZ} {d : Nat} {t : Option Nat × (Nat × Nat)} (hd : 2 ≤ d) : ∀ (a0 : Nat) (a1 : Nat) (i2 : Int32) (I : AI) (r : Int32 × AI), f10_b116 kad N Z a0 a1 i2 I = some r → aGo kad d 10 (116, ([(0, .ref a0), (1, .ref a1), (2, .int i2)], [])) (aMem Z I, t) (qI Z t r) := by
  intro a0 a1 i2 I r h
  unfold f10_b116 at h
  refine go_ops aMi10 2 _ (f1 := (118, ([(0, .ref a0), (1, .ref a1), (2, .int i2)], [.ref a1, .ref a0]))) rfl ?_
  obtain ⟨r118_1, hxr118_1, h⟩ := Option.bind_eq_some_iff.mp h
  refine gg_cs (as := [.ref a1]) (r := [.ref a0]) aMi10 rfl rfl rfl aMi11 rfl (Nat.le_of_ble_eq_true rfl) (Nat.le_of_ble_eq_true rfl) (by omega) (Tf11 (by omega) a1 I _ hxr118_1) ?_
  show aGo kad d 10 (121, ([(0, .ref a0), (1, .ref a1), (2, .int i2)], [.int r118_1.1, .ref a0])) (aMem Z r118_1.2, t) _
  obtain ⟨u121_2, hxu121_2, h⟩ := Option.bind_eq_some_iff.mp h
  obtain ⟨r121_3, hxr121_3, h⟩ := Option.bind_eq_some_iff.mp h
  refine gg_cv (as := [.int r118_1.1]) (r := []) aMi10 rfl rfl rfl aMi12 (Nat.le_of_ble_eq_true rfl) rfl (Nat.le_of_ble_eq_true rfl) (Nat.le_of_ble_eq_true rfl) (by omega) hxu121_2 (Tf12 (by omega) a0 r118_1.1 r118_1.2 _ hxr121_3) ?_
  show aGo kad d 10 (124, ([(0, .ref a0), (1, .ref a1), (2, .int i2)], [.int r121_3.1])) (aMem Z r121_3.2, t) _
  refine gg_br (b := decide (r121_3.1 = 0)) (tg := 131) (off := 7) aMi10 rfl rfl rfl rfl (fun hb => ?_) (fun hb => ?_)
  · rw [if_pos (of_decide_eq_true hb)] at h
    refine go_ops aMi10 2 _ (f1 := (133, ([(0, .ref a0), (1, .ref a1), (2, .int i2)], [.int i2, .int (1 : Int32)]))) rfl ?_
    obtain ⟨r133_4, hxr133_4, h⟩ := Option.bind_eq_some_iff.mp h
    refine gg_cs (as := [.int (1 : Int32), .int i2]) (r := []) aMi10 rfl rfl rfl aMi7 rfl (Nat.le_of_ble_eq_true rfl) (Nat.le_of_ble_eq_true rfl) (by omega) (Tf7 (by omega) (1 : Int32) i2 r121_3.2 _ hxr133_4) ?_
    show aGo kad d 10 (136, ([(0, .ref a0), (1, .ref a1), (2, .int i2)], [.int r133_4.1])) (aMem Z r133_4.2, t) _
    refine go_le (lv1 := []) (aLe_of (show (List.map (fun q => q.1) ([] : ALv)).Nodup from (by show ([] : List Nat).Nodup; decide)) aSubL_nil) ?_
    exact Tf10_b136 hd r133_4.1 r133_4.2 _ h
  · rw [if_neg (of_decide_eq_false hb)] at h
    refine go_ops aMi10 2 _ (f1 := (136, ([(0, .ref a0), (1, .ref a1), (2, .int i2)], [.int (0 : Int32)]))) rfl ?_
    refine go_le (lv1 := []) (aLe_of (show (List.map (fun q => q.1) ([] : ALv)).Nodup from (by show ([] : List Nat).Nodup; decide)) aSubL_nil) ?_
    exact Tf10_b136 hd (0 : Int32) r121_3.2 _ h
def f10_b173 (kad : Nat → Nat) (N : Nat) (Z : AZ) (s0 : Int32) (I : AI) : Option (Int32 × AI) :=
  some (s0, I)
set_option maxRecDepth 20000 in
theorem Tf10_b173 {kad : Nat → Nat} {N : Nat} {Z : AZ} {d : Nat} {t : Option Nat × (Nat × Nat)} (hd : 2 ≤ d) : ∀ (s0 : Int32) (I : AI) (r : Int32 × AI), f10_b173 kad N Z s0 I = some r → aGo kad d 10 (173, ([], [.int s0])) (aMem Z I, t) (qI Z t r) := by
  intro s0 I r h
  unfold f10_b173 at h
  cases h
  exact go_ret aMi10 rfl aRetI ⟨rfl, rfl⟩
def f10 (kad : Nat → Nat) (N : Nat) (Z : AZ) (a0 : Nat) (a1 : Nat) (i2 : Int32) (i3 : Int32) (I : AI) : Option (Int32 × AI) :=
  (gI Z I 0 13 a0).bind fun x2_1 =>
  (pI Z I 0 13 a0 (x2_1 + (1 : Int32))).bind fun I7_2 =>
  (gI Z I7_2 0 13 a0).bind fun x11_3 =>
  if x11_3 ≤ (300 : Int32) then
    (gR Z I7_2 7 0 a1).bind fun b30_4 =>
    (orI kad b30_4).bind fun x33_5 =>
    (swI kad Z x33_5).bind fun x36_6 =>
    if x36_6 = (1 : Int32) then
      (gI Z I7_2 7 1 a1).bind fun x86_7 =>
      (pI Z I7_2 0 15 a0 x86_7).bind fun I89_8 =>
      some ((0 : Int32), I89_8)
    else
    if x36_6 = (2 : Int32) then
      (gI Z I7_2 7 1 a1).bind fun x96_9 =>
      (isK Z a0 0).bind fun u100_10 =>
      (f14 kad N Z a0 x96_9 i3 I7_2).bind fun r100_11 =>
      if r100_11.1 = 0 then
        (f7 kad N Z (2 : Int32) i2 r100_11.2).bind fun r112_12 =>
        f10_b115 kad N Z r112_12.1 r112_12.2
      else
        f10_b115 kad N Z (0 : Int32) r100_11.2
    else
    if x36_6 = (3 : Int32) then
      f10_b116 kad N Z a0 a1 i2 I7_2
    else
    if x36_6 = (4 : Int32) then
      f10_b116 kad N Z a0 a1 i2 I7_2
    else
    if x36_6 = (5 : Int32) then
      f10_b116 kad N Z a0 a1 i2 I7_2
    else
    if x36_6 = (6 : Int32) then
      (gI Z I7_2 7 1 a1).bind fun x139_13 =>
      (isK Z a0 0).bind fun u143_14 =>
      (f15 kad N Z a0 x139_13 i2 I7_2).bind fun r143_15 =>
      some (r143_15.1, r143_15.2)
    else
    if x36_6 = (7 : Int32) then
      (f7 kad N Z (4 : Int32) i2 I7_2).bind fun r149_16 =>
      some (r149_16.1, r149_16.2)
    else
    if x36_6 = (8 : Int32) then
      (gI Z I7_2 7 1 a1).bind fun x155_17 =>
      (isK Z a0 0).bind fun u158_18 =>
      (f16 kad N Z a0 x155_17 I7_2).bind fun r158_19 =>
      if r158_19.1 = 0 then
        (f7 kad N Z (5 : Int32) i2 r158_19.2).bind fun r170_20 =>
        f10_b173 kad N Z r170_20.1 r170_20.2
      else
        f10_b173 kad N Z (0 : Int32) r158_19.2
    else
      some ((0 : Int32), I7_2)
  else
    (f7 kad N Z (1 : Int32) i2 I7_2).bind fun r22_21 =>
    some (r22_21.1, r22_21.2)
set_option maxRecDepth 20000 in
theorem Tf10 {kad : Nat → Nat} {N : Nat} {Z : AZ} {d : Nat} {t : Option Nat × (Nat × Nat)} (hd : 2 ≤ d) : ∀ (a0 : Nat) (a1 : Nat) (i2 : Int32) (i3 : Int32) (I : AI) (r : Int32 × AI), f10 kad N Z a0 a1 i2 i3 I = some r → aGo kad d 10 (0, ([(0, .ref a0), (1, .ref a1), (2, .int i2), (3, .int i3)], [])) (aMem Z I, t) (qI Z t r) := by
  intro a0 a1 i2 i3 I r h
  unfold f10 at h
  refine go_ops aMi10 2 _ (f1 := (2, ([(0, .ref a0), (1, .ref a1), (2, .int i2), (3, .int i3)], [.ref a0, .ref a0]))) rfl ?_
  obtain ⟨x2_1, hxx2_1, h⟩ := Option.bind_eq_some_iff.mp h
  refine gg_gI aMi10 rfl rfl rfl hxx2_1 ?_
  refine go_ops aMi10 2 _ (f1 := (7, ([(0, .ref a0), (1, .ref a1), (2, .int i2), (3, .int i3)], [.int (x2_1 + (1 : Int32)), .ref a0]))) rfl ?_
  obtain ⟨I7_2, hxI7_2, h⟩ := Option.bind_eq_some_iff.mp h
  refine gg_pI aMi10 rfl rfl rfl rfl (by decide) hxI7_2 ?_
  refine go_ops aMi10 1 _ (f1 := (11, ([(0, .ref a0), (1, .ref a1), (2, .int i2), (3, .int i3)], [.ref a0]))) rfl ?_
  obtain ⟨x11_3, hxx11_3, h⟩ := Option.bind_eq_some_iff.mp h
  refine gg_gI aMi10 rfl rfl rfl hxx11_3 ?_
  refine go_ops aMi10 1 _ (f1 := (17, ([(0, .ref a0), (1, .ref a1), (2, .int i2), (3, .int i3)], [.int (300 : Int32), .int x11_3]))) rfl ?_
  refine gg_br (b := decide (x11_3 ≤ (300 : Int32))) (tg := 26) (off := 9) aMi10 rfl rfl rfl rfl (fun hb => ?_) (fun hb => ?_)
  · rw [if_pos (of_decide_eq_true hb)] at h
    refine gg_gs aMi10 rfl rfl ?_
    refine go_ops aMi10 1 _ (f1 := (30, ([(0, .ref a0), (1, .ref a1), (2, .int i2), (3, .int i3)], [.ref a1, .ref (kad 9)]))) rfl ?_
    obtain ⟨b30_4, hxb30_4, h⟩ := Option.bind_eq_some_iff.mp h
    refine gg_gR aMi10 rfl rfl rfl hxb30_4 ?_
    obtain ⟨x33_5, hxx33_5, h⟩ := Option.bind_eq_some_iff.mp h
    refine gg_or aMi10 rfl rfl (Nat.le_of_ble_eq_true rfl) hxx33_5 ?_
    obtain ⟨x36_6, hxx36_6, h⟩ := Option.bind_eq_some_iff.mp h
    refine gg_sw aMi10 rfl hxx36_6 ?_
    by_cases hs0 : x36_6 = (1 : Int32)
    · rw [if_pos hs0] at h
      refine go_sw (f1 := (84, ([(0, .ref a0), (1, .ref a1), (2, .int i2), (3, .int i3)], []))) aMi10 rfl (by rw [hs0]; rfl) ?_
      refine go_ops aMi10 2 _ (f1 := (86, ([(0, .ref a0), (1, .ref a1), (2, .int i2), (3, .int i3)], [.ref a1, .ref a0]))) rfl ?_
      obtain ⟨x86_7, hxx86_7, h⟩ := Option.bind_eq_some_iff.mp h
      refine gg_gI aMi10 rfl rfl rfl hxx86_7 ?_
      obtain ⟨I89_8, hxI89_8, h⟩ := Option.bind_eq_some_iff.mp h
      refine gg_pI aMi10 rfl rfl rfl rfl (by decide) hxI89_8 ?_
      refine go_ops aMi10 1 _ (f1 := (93, ([(0, .ref a0), (1, .ref a1), (2, .int i2), (3, .int i3)], [.int (0 : Int32)]))) rfl ?_
      cases h
      exact go_ret aMi10 rfl aRetI ⟨rfl, rfl⟩
    rw [if_neg hs0] at h
    by_cases hs1 : x36_6 = (2 : Int32)
    · rw [if_pos hs1] at h
      refine go_sw (f1 := (94, ([(0, .ref a0), (1, .ref a1), (2, .int i2), (3, .int i3)], []))) aMi10 rfl (by rw [hs1]; rfl) ?_
      refine go_ops aMi10 2 _ (f1 := (96, ([(0, .ref a0), (1, .ref a1), (2, .int i2), (3, .int i3)], [.ref a1, .ref a0]))) rfl ?_
      obtain ⟨x96_9, hxx96_9, h⟩ := Option.bind_eq_some_iff.mp h
      refine gg_gI aMi10 rfl rfl rfl hxx96_9 ?_
      refine go_ops aMi10 1 _ (f1 := (100, ([(0, .ref a0), (1, .ref a1), (2, .int i2), (3, .int i3)], [.int i3, .int x96_9, .ref a0]))) rfl ?_
      obtain ⟨u100_10, hxu100_10, h⟩ := Option.bind_eq_some_iff.mp h
      obtain ⟨r100_11, hxr100_11, h⟩ := Option.bind_eq_some_iff.mp h
      refine gg_cv (as := [.int x96_9, .int i3]) (r := []) aMi10 rfl rfl rfl aMi14 (Nat.le_of_ble_eq_true rfl) rfl (Nat.le_of_ble_eq_true rfl) (Nat.le_of_ble_eq_true rfl) (by omega) hxu100_10 (Tf14 (by omega) a0 x96_9 i3 I7_2 _ hxr100_11) ?_
      show aGo kad d 10 (103, ([(0, .ref a0), (1, .ref a1), (2, .int i2), (3, .int i3)], [.int r100_11.1])) (aMem Z r100_11.2, t) _
      refine gg_br (b := decide (r100_11.1 = 0)) (tg := 110) (off := 7) aMi10 rfl rfl rfl rfl (fun hb => ?_) (fun hb => ?_)
      · rw [if_pos (of_decide_eq_true hb)] at h
        refine go_ops aMi10 2 _ (f1 := (112, ([(0, .ref a0), (1, .ref a1), (2, .int i2), (3, .int i3)], [.int i2, .int (2 : Int32)]))) rfl ?_
        obtain ⟨r112_12, hxr112_12, h⟩ := Option.bind_eq_some_iff.mp h
        refine gg_cs (as := [.int (2 : Int32), .int i2]) (r := []) aMi10 rfl rfl rfl aMi7 rfl (Nat.le_of_ble_eq_true rfl) (Nat.le_of_ble_eq_true rfl) (by omega) (Tf7 (by omega) (2 : Int32) i2 r100_11.2 _ hxr112_12) ?_
        show aGo kad d 10 (115, ([(0, .ref a0), (1, .ref a1), (2, .int i2), (3, .int i3)], [.int r112_12.1])) (aMem Z r112_12.2, t) _
        refine go_le (lv1 := []) (aLe_of (show (List.map (fun q => q.1) ([] : ALv)).Nodup from (by show ([] : List Nat).Nodup; decide)) aSubL_nil) ?_
        exact Tf10_b115 hd r112_12.1 r112_12.2 _ h
      · rw [if_neg (of_decide_eq_false hb)] at h
        refine go_ops aMi10 2 _ (f1 := (115, ([(0, .ref a0), (1, .ref a1), (2, .int i2), (3, .int i3)], [.int (0 : Int32)]))) rfl ?_
        refine go_le (lv1 := []) (aLe_of (show (List.map (fun q => q.1) ([] : ALv)).Nodup from (by show ([] : List Nat).Nodup; decide)) aSubL_nil) ?_
        exact Tf10_b115 hd (0 : Int32) r100_11.2 _ h
    rw [if_neg hs1] at h
    by_cases hs2 : x36_6 = (3 : Int32)
    · rw [if_pos hs2] at h
      refine go_sw (f1 := (116, ([(0, .ref a0), (1, .ref a1), (2, .int i2), (3, .int i3)], []))) aMi10 rfl (by rw [hs2]; rfl) ?_
      refine go_le (lv1 := [(0, .ref a0), (1, .ref a1), (2, .int i2)]) (aLe_of (show (List.map (fun q => q.1) ([(0, .ref a0), (1, .ref a1), (2, .int i2)] : ALv)).Nodup from (by show ([0, 1, 2] : List Nat).Nodup; decide)) (aSubL_cons rfl (aSubL_cons rfl (aSubL_cons rfl aSubL_nil)))) ?_
      exact Tf10_b116 hd a0 a1 i2 I7_2 _ h
    rw [if_neg hs2] at h
    by_cases hs3 : x36_6 = (4 : Int32)
    · rw [if_pos hs3] at h
      refine go_sw (f1 := (116, ([(0, .ref a0), (1, .ref a1), (2, .int i2), (3, .int i3)], []))) aMi10 rfl (by rw [hs3]; rfl) ?_
      refine go_le (lv1 := [(0, .ref a0), (1, .ref a1), (2, .int i2)]) (aLe_of (show (List.map (fun q => q.1) ([(0, .ref a0), (1, .ref a1), (2, .int i2)] : ALv)).Nodup from (by show ([0, 1, 2] : List Nat).Nodup; decide)) (aSubL_cons rfl (aSubL_cons rfl (aSubL_cons rfl aSubL_nil)))) ?_
      exact Tf10_b116 hd a0 a1 i2 I7_2 _ h
    rw [if_neg hs3] at h
    by_cases hs4 : x36_6 = (5 : Int32)
    · rw [if_pos hs4] at h
      refine go_sw (f1 := (116, ([(0, .ref a0), (1, .ref a1), (2, .int i2), (3, .int i3)], []))) aMi10 rfl (by rw [hs4]; rfl) ?_
      refine go_le (lv1 := [(0, .ref a0), (1, .ref a1), (2, .int i2)]) (aLe_of (show (List.map (fun q => q.1) ([(0, .ref a0), (1, .ref a1), (2, .int i2)] : ALv)).Nodup from (by show ([0, 1, 2] : List Nat).Nodup; decide)) (aSubL_cons rfl (aSubL_cons rfl (aSubL_cons rfl aSubL_nil)))) ?_
      exact Tf10_b116 hd a0 a1 i2 I7_2 _ h
    rw [if_neg hs4] at h
    by_cases hs5 : x36_6 = (6 : Int32)
    · rw [if_pos hs5] at h
      refine go_sw (f1 := (137, ([(0, .ref a0), (1, .ref a1), (2, .int i2), (3, .int i3)], []))) aMi10 rfl (by rw [hs5]; rfl) ?_
      refine go_ops aMi10 2 _ (f1 := (139, ([(0, .ref a0), (1, .ref a1), (2, .int i2), (3, .int i3)], [.ref a1, .ref a0]))) rfl ?_
      obtain ⟨x139_13, hxx139_13, h⟩ := Option.bind_eq_some_iff.mp h
      refine gg_gI aMi10 rfl rfl rfl hxx139_13 ?_
      refine go_ops aMi10 1 _ (f1 := (143, ([(0, .ref a0), (1, .ref a1), (2, .int i2), (3, .int i3)], [.int i2, .int x139_13, .ref a0]))) rfl ?_
      obtain ⟨u143_14, hxu143_14, h⟩ := Option.bind_eq_some_iff.mp h
      obtain ⟨r143_15, hxr143_15, h⟩ := Option.bind_eq_some_iff.mp h
      refine gg_cv (as := [.int x139_13, .int i2]) (r := []) aMi10 rfl rfl rfl aMi15 (Nat.le_of_ble_eq_true rfl) rfl (Nat.le_of_ble_eq_true rfl) (Nat.le_of_ble_eq_true rfl) (by omega) hxu143_14 (Tf15 (by omega) a0 x139_13 i2 I7_2 _ hxr143_15) ?_
      show aGo kad d 10 (146, ([(0, .ref a0), (1, .ref a1), (2, .int i2), (3, .int i3)], [.int r143_15.1])) (aMem Z r143_15.2, t) _
      cases h
      exact go_ret aMi10 rfl aRetI ⟨rfl, rfl⟩
    rw [if_neg hs5] at h
    by_cases hs6 : x36_6 = (7 : Int32)
    · rw [if_pos hs6] at h
      refine go_sw (f1 := (147, ([(0, .ref a0), (1, .ref a1), (2, .int i2), (3, .int i3)], []))) aMi10 rfl (by rw [hs6]; rfl) ?_
      refine go_ops aMi10 2 _ (f1 := (149, ([(0, .ref a0), (1, .ref a1), (2, .int i2), (3, .int i3)], [.int i2, .int (4 : Int32)]))) rfl ?_
      obtain ⟨r149_16, hxr149_16, h⟩ := Option.bind_eq_some_iff.mp h
      refine gg_cs (as := [.int (4 : Int32), .int i2]) (r := []) aMi10 rfl rfl rfl aMi7 rfl (Nat.le_of_ble_eq_true rfl) (Nat.le_of_ble_eq_true rfl) (by omega) (Tf7 (by omega) (4 : Int32) i2 I7_2 _ hxr149_16) ?_
      show aGo kad d 10 (152, ([(0, .ref a0), (1, .ref a1), (2, .int i2), (3, .int i3)], [.int r149_16.1])) (aMem Z r149_16.2, t) _
      cases h
      exact go_ret aMi10 rfl aRetI ⟨rfl, rfl⟩
    rw [if_neg hs6] at h
    by_cases hs7 : x36_6 = (8 : Int32)
    · rw [if_pos hs7] at h
      refine go_sw (f1 := (153, ([(0, .ref a0), (1, .ref a1), (2, .int i2), (3, .int i3)], []))) aMi10 rfl (by rw [hs7]; rfl) ?_
      refine go_ops aMi10 2 _ (f1 := (155, ([(0, .ref a0), (1, .ref a1), (2, .int i2), (3, .int i3)], [.ref a1, .ref a0]))) rfl ?_
      obtain ⟨x155_17, hxx155_17, h⟩ := Option.bind_eq_some_iff.mp h
      refine gg_gI aMi10 rfl rfl rfl hxx155_17 ?_
      obtain ⟨u158_18, hxu158_18, h⟩ := Option.bind_eq_some_iff.mp h
      obtain ⟨r158_19, hxr158_19, h⟩ := Option.bind_eq_some_iff.mp h
      refine gg_cv (as := [.int x155_17]) (r := []) aMi10 rfl rfl rfl aMi16 (Nat.le_of_ble_eq_true rfl) rfl (Nat.le_of_ble_eq_true rfl) (Nat.le_of_ble_eq_true rfl) (by omega) hxu158_18 (Tf16 (by omega) a0 x155_17 I7_2 _ hxr158_19) ?_
      show aGo kad d 10 (161, ([(0, .ref a0), (1, .ref a1), (2, .int i2), (3, .int i3)], [.int r158_19.1])) (aMem Z r158_19.2, t) _
      refine gg_br (b := decide (r158_19.1 = 0)) (tg := 168) (off := 7) aMi10 rfl rfl rfl rfl (fun hb => ?_) (fun hb => ?_)
      · rw [if_pos (of_decide_eq_true hb)] at h
        refine go_ops aMi10 2 _ (f1 := (170, ([(0, .ref a0), (1, .ref a1), (2, .int i2), (3, .int i3)], [.int i2, .int (5 : Int32)]))) rfl ?_
        obtain ⟨r170_20, hxr170_20, h⟩ := Option.bind_eq_some_iff.mp h
        refine gg_cs (as := [.int (5 : Int32), .int i2]) (r := []) aMi10 rfl rfl rfl aMi7 rfl (Nat.le_of_ble_eq_true rfl) (Nat.le_of_ble_eq_true rfl) (by omega) (Tf7 (by omega) (5 : Int32) i2 r158_19.2 _ hxr170_20) ?_
        show aGo kad d 10 (173, ([(0, .ref a0), (1, .ref a1), (2, .int i2), (3, .int i3)], [.int r170_20.1])) (aMem Z r170_20.2, t) _
        refine go_le (lv1 := []) (aLe_of (show (List.map (fun q => q.1) ([] : ALv)).Nodup from (by show ([] : List Nat).Nodup; decide)) aSubL_nil) ?_
        exact Tf10_b173 hd r170_20.1 r170_20.2 _ h
      · rw [if_neg (of_decide_eq_false hb)] at h
        refine go_ops aMi10 2 _ (f1 := (173, ([(0, .ref a0), (1, .ref a1), (2, .int i2), (3, .int i3)], [.int (0 : Int32)]))) rfl ?_
        refine go_le (lv1 := []) (aLe_of (show (List.map (fun q => q.1) ([] : ALv)).Nodup from (by show ([] : List Nat).Nodup; decide)) aSubL_nil) ?_
        exact Tf10_b173 hd (0 : Int32) r158_19.2 _ h
    rw [if_neg hs7] at h
    refine go_swd (tg := 174) (m := 8) aMi10 rfl rfl (by decide) (fun k hk => ?_) ?_
    · match k, hk with
      | 0, _ => exact hs0
      | 1, _ => exact hs1
      | 2, _ => exact hs2
      | 3, _ => exact hs3
      | 4, _ => exact hs4
      | 5, _ => exact hs5
      | 6, _ => exact hs6
      | 7, _ => exact hs7
      | k + 8, hk => exact absurd hk (by omega)
    refine go_ops aMi10 1 _ (f1 := (175, ([(0, .ref a0), (1, .ref a1), (2, .int i2), (3, .int i3)], [.int (0 : Int32)]))) rfl ?_
    cases h
    exact go_ret aMi10 rfl aRetI ⟨rfl, rfl⟩
  · rw [if_neg (of_decide_eq_false hb)] at h
    refine go_ops aMi10 2 _ (f1 := (22, ([(0, .ref a0), (1, .ref a1), (2, .int i2), (3, .int i3)], [.int i2, .int (1 : Int32)]))) rfl ?_
    obtain ⟨r22_21, hxr22_21, h⟩ := Option.bind_eq_some_iff.mp h
    refine gg_cs (as := [.int (1 : Int32), .int i2]) (r := []) aMi10 rfl rfl rfl aMi7 rfl (Nat.le_of_ble_eq_true rfl) (Nat.le_of_ble_eq_true rfl) (by omega) (Tf7 (by omega) (1 : Int32) i2 I7_2 _ hxr22_21) ?_
    show aGo kad d 10 (25, ([(0, .ref a0), (1, .ref a1), (2, .int i2), (3, .int i3)], [.int r22_21.1])) (aMem Z r22_21.2, t) _
    cases h
    exact go_ret aMi10 rfl aRetI ⟨rfl, rfl⟩
-- KernelGym$Assembler.goThroughMacro (II)I
def f9_b9 (kad : Nat → Nat) (N : Nat) (Z : AZ) (rc : Nat → Int32 → Int32 → Int32 → Int32 → AI → Option (Int32 × AI))  (I : AI) : Option (Int32 × AI) :=
  some ((0 : Int32), I)
set_option maxRecDepth 20000 in
theorem Tf9_b9 {kad : Nat → Nat} {N : Nat} {Z : AZ} {d : Nat} {t : Option Nat × (Nat × Nat)} (hd : 1 ≤ d) {rc : Nat → Int32 → Int32 → Int32 → Int32 → AI → Option (Int32 × AI)} (hrc : ∀ a i j k m I r, rc a i j k m I = some r → aEv kad (d - 1) 8 [.ref a, .int i, .int j, .int k, .int m] (aMem Z I, t) (qI Z t r)) : ∀  (I : AI) (r : Int32 × AI), f9_b9 kad N Z rc  I = some r → aGo kad d 9 (9, ([], [])) (aMem Z I, t) (qI Z t r) := by
  intro  I r h
  unfold f9_b9 at h
  refine go_ops aMi9 1 _ (f1 := (10, ([], [.int (0 : Int32)]))) rfl ?_
  cases h
  exact go_ret aMi9 rfl aRetI ⟨rfl, rfl⟩
def f9_e (kad : Nat → Nat) (N : Nat) (Z : AZ) (rc : Nat → Int32 → Int32 → Int32 → Int32 → AI → Option (Int32 × AI)) (a0 : Nat) (i1 : Int32) (i2 : Int32) (I : AI) : Option (Int32 × AI) :=
  if i1 < 0 then
    f9_b9 kad N Z rc  I
  else
    if i1 < (5 : Int32) then
      (gI Z I 0 14 a0).bind fun x13_1 =>
      (pI Z I 0 14 a0 (x13_1 + (1 : Int32))).bind fun I18_2 =>
      (gR Z I18_2 0 5 a0).bind fun b22_3 =>
      (sI Z I18_2 101 b22_3 i1 (1 : Int32)).bind fun I27_4 =>
      (gR Z I27_4 0 3 a0).bind fun b30_5 =>
      (lI Z I27_4 100 b30_5 i1).bind fun x34_6 =>
      (gR Z I27_4 0 4 a0).bind fun b38_7 =>
      (lI Z I27_4 100 b38_7 i1).bind fun x42_8 =>
      (gI Z I27_4 0 14 a0).bind fun x44_9 =>
      (isK Z a0 0).bind fun u50_10 =>
      (rc a0 (x34_6 + (1 : Int32)) x42_8 x44_9 (i2 + (1 : Int32)) I27_4).bind fun r50_11 =>
      (gR Z r50_11.2 0 5 a0).bind fun b55_12 =>
      (sI Z r50_11.2 101 b55_12 i1 (0 : Int32)).bind fun I60_13 =>
      some (r50_11.1, I60_13)
    else
      f9_b9 kad N Z rc  I
set_option maxRecDepth 20000 in
theorem Tf9_e {kad : Nat → Nat} {N : Nat} {Z : AZ} {d : Nat} {t : Option Nat × (Nat × Nat)} (hd : 1 ≤ d) {rc : Nat → Int32 → Int32 → Int32 → Int32 → AI → Option (Int32 × AI)} (hrc : ∀ a i j k m I r, rc a i j k m I = some r → aEv kad (d - 1) 8 [.ref a, .int i, .int j, .int k, .int m] (aMem Z I, t) (qI Z t r)) : ∀ (a0 : Nat) (i1 : Int32) (i2 : Int32) (I : AI) (r : Int32 × AI), f9_e kad N Z rc a0 i1 i2 I = some r → aGo kad d 9 (0, ([(0, .ref a0), (1, .int i1), (2, .int i2)], [])) (aMem Z I, t) (qI Z t r) := by
  intro a0 i1 i2 I r h
  unfold f9_e at h
  refine go_ops aMi9 1 _ (f1 := (1, ([(0, .ref a0), (1, .int i1), (2, .int i2)], [.int i1]))) rfl ?_
  refine gg_br (b := decide (i1 < 0)) (tg := 9) (off := 8) aMi9 rfl rfl rfl rfl (fun hb => ?_) (fun hb => ?_)
  · rw [if_pos (of_decide_eq_true hb)] at h
    refine go_le (lv1 := []) (aLe_of (show (List.map (fun q => q.1) ([] : ALv)).Nodup from (by show ([] : List Nat).Nodup; decide)) aSubL_nil) ?_
    exact Tf9_b9 hd hrc  I _ h
  · rw [if_neg (of_decide_eq_false hb)] at h
    refine go_ops aMi9 2 _ (f1 := (6, ([(0, .ref a0), (1, .int i1), (2, .int i2)], [.int (5 : Int32), .int i1]))) rfl ?_
    refine gg_br (b := decide (i1 < (5 : Int32))) (tg := 11) (off := 5) aMi9 rfl rfl rfl rfl (fun hb => ?_) (fun hb => ?_)
    · rw [if_pos (of_decide_eq_true hb)] at h
      refine go_ops aMi9 2 _ (f1 := (13, ([(0, .ref a0), (1, .int i1), (2, .int i2)], [.ref a0, .ref a0]))) rfl ?_
      obtain ⟨x13_1, hxx13_1, h⟩ := Option.bind_eq_some_iff.mp h
      refine gg_gI aMi9 rfl rfl rfl hxx13_1 ?_
      refine go_ops aMi9 2 _ (f1 := (18, ([(0, .ref a0), (1, .int i1), (2, .int i2)], [.int (x13_1 + (1 : Int32)), .ref a0]))) rfl ?_
      obtain ⟨I18_2, hxI18_2, h⟩ := Option.bind_eq_some_iff.mp h
      refine gg_pI aMi9 rfl rfl rfl rfl (by decide) hxI18_2 ?_
      refine go_ops aMi9 1 _ (f1 := (22, ([(0, .ref a0), (1, .int i1), (2, .int i2)], [.ref a0]))) rfl ?_
      obtain ⟨b22_3, hxb22_3, h⟩ := Option.bind_eq_some_iff.mp h
      refine gg_gR aMi9 rfl rfl rfl hxb22_3 ?_
      refine go_ops aMi9 2 _ (f1 := (27, ([(0, .ref a0), (1, .int i1), (2, .int i2)], [.int (1 : Int32), .int i1, .ref b22_3]))) rfl ?_
      obtain ⟨I27_4, hxI27_4, h⟩ := Option.bind_eq_some_iff.mp h
      refine gg_sI (Or.inr ⟨rfl, rfl⟩) aMi9 rfl hxI27_4 ?_
      refine go_ops aMi9 2 _ (f1 := (30, ([(0, .ref a0), (1, .int i1), (2, .int i2)], [.ref a0, .ref a0]))) rfl ?_
      obtain ⟨b30_5, hxb30_5, h⟩ := Option.bind_eq_some_iff.mp h
      refine gg_gR aMi9 rfl rfl rfl hxb30_5 ?_
      refine go_ops aMi9 1 _ (f1 := (34, ([(0, .ref a0), (1, .int i1), (2, .int i2)], [.int i1, .ref b30_5, .ref a0]))) rfl ?_
      obtain ⟨x34_6, hxx34_6, h⟩ := Option.bind_eq_some_iff.mp h
      refine gg_lI (Or.inl ⟨rfl, rfl⟩) aMi9 rfl hxx34_6 ?_
      refine go_ops aMi9 3 _ (f1 := (38, ([(0, .ref a0), (1, .int i1), (2, .int i2)], [.ref a0, .int (x34_6 + (1 : Int32)), .ref a0]))) rfl ?_
      obtain ⟨b38_7, hxb38_7, h⟩ := Option.bind_eq_some_iff.mp h
      refine gg_gR aMi9 rfl rfl rfl hxb38_7 ?_
      refine go_ops aMi9 1 _ (f1 := (42, ([(0, .ref a0), (1, .int i1), (2, .int i2)], [.int i1, .ref b38_7, .int (x34_6 + (1 : Int32)), .ref a0]))) rfl ?_
      obtain ⟨x42_8, hxx42_8, h⟩ := Option.bind_eq_some_iff.mp h
      refine gg_lI (Or.inl ⟨rfl, rfl⟩) aMi9 rfl hxx42_8 ?_
      refine go_ops aMi9 1 _ (f1 := (44, ([(0, .ref a0), (1, .int i1), (2, .int i2)], [.ref a0, .int x42_8, .int (x34_6 + (1 : Int32)), .ref a0]))) rfl ?_
      obtain ⟨x44_9, hxx44_9, h⟩ := Option.bind_eq_some_iff.mp h
      refine gg_gI aMi9 rfl rfl rfl hxx44_9 ?_
      refine go_ops aMi9 3 _ (f1 := (50, ([(0, .ref a0), (1, .int i1), (2, .int i2)], [.int (i2 + (1 : Int32)), .int x44_9, .int x42_8, .int (x34_6 + (1 : Int32)), .ref a0]))) rfl ?_
      obtain ⟨u50_10, hxu50_10, h⟩ := Option.bind_eq_some_iff.mp h
      obtain ⟨r50_11, hxr50_11, h⟩ := Option.bind_eq_some_iff.mp h
      refine gg_cv (as := [.int (x34_6 + (1 : Int32)), .int x42_8, .int x44_9, .int (i2 + (1 : Int32))]) (r := []) aMi9 rfl rfl rfl aMi8 (Nat.le_of_ble_eq_true rfl) rfl (Nat.le_of_ble_eq_true rfl) (Nat.le_of_ble_eq_true rfl) (by omega) hxu50_10 (hrc a0 (x34_6 + (1 : Int32)) x42_8 x44_9 (i2 + (1 : Int32)) I27_4 _ hxr50_11) ?_
      show aGo kad d 9 (53, ([(0, .ref a0), (1, .int i1), (2, .int i2)], [.int r50_11.1])) (aMem Z r50_11.2, t) _
      refine go_ops aMi9 2 _ (f1 := (55, ([(3, .int r50_11.1), (0, .ref a0), (1, .int i1), (2, .int i2)], [.ref a0]))) rfl ?_
      obtain ⟨b55_12, hxb55_12, h⟩ := Option.bind_eq_some_iff.mp h
      refine gg_gR aMi9 rfl rfl rfl hxb55_12 ?_
      refine go_ops aMi9 2 _ (f1 := (60, ([(3, .int r50_11.1), (0, .ref a0), (1, .int i1), (2, .int i2)], [.int (0 : Int32), .int i1, .ref b55_12]))) rfl ?_
      obtain ⟨I60_13, hxI60_13, h⟩ := Option.bind_eq_some_iff.mp h
      refine gg_sI (Or.inr ⟨rfl, rfl⟩) aMi9 rfl hxI60_13 ?_
      refine go_ops aMi9 1 _ (f1 := (62, ([(3, .int r50_11.1), (0, .ref a0), (1, .int i1), (2, .int i2)], [.int r50_11.1]))) rfl ?_
      cases h
      exact go_ret aMi9 rfl aRetI ⟨rfl, rfl⟩
    · rw [if_neg (of_decide_eq_false hb)] at h
      refine go_le (lv1 := []) (aLe_of (show (List.map (fun q => q.1) ([] : ALv)).Nodup from (by show ([] : List Nat).Nodup; decide)) aSubL_nil) ?_
      exact Tf9_b9 hd hrc  I _ h
-- KernelGym$Assembler.goThrough (IIII)I
def f8_b147 (kad : Nat → Nat) (N : Nat) (Z : AZ) (rc : Nat → Int32 → Int32 → Int32 → Int32 → AI → Option (Int32 × AI)) (k7 : Nat → Int32 → Int32 → Int32 → Int32 → AI → Option (Int32 × AI)) (a0 : Nat) (i2 : Int32) (i3 : Int32) (i4 : Int32) (i5 : Int32) (I : AI) : Option (Int32 × AI) :=
  k7 a0 i2 i3 i4 (i5 + (1 : Int32)) I
set_option maxRecDepth 20000 in
theorem Tf8_b147 {kad : Nat → Nat} {N : Nat} {Z : AZ} {d : Nat} {t : Option Nat × (Nat × Nat)} (hd : 4 ≤ d) {rc : Nat → Int32 → Int32 → Int32 → Int32 → AI → Option (Int32 × AI)} (hrc : ∀ a i j k m I r, rc a i j k m I = some r → aEv kad (d - 2) 8 [.ref a, .int i, .int j, .int k, .int m] (aMem Z I, t) (qI Z t r)) (k7 : Nat → Int32 → Int32 → Int32 → Int32 → AI → Option (Int32 × AI))  (hk7 : ∀ (a0 : Nat) (i2 : Int32) (i3 : Int32) (i4 : Int32) (i5 : Int32)  (I : AI) (r : Int32 × AI), k7 a0 i2 i3 i4 i5 I = some r → aGo kad d 8 (7, ([(0, .ref a0), (2, .int i2), (3, .int i3), (4, .int i4), (5, .int i5)], [])) (aMem Z I, t) (qI Z t r)) : ∀ (a0 : Nat) (i2 : Int32) (i3 : Int32) (i4 : Int32) (i5 : Int32) (I : AI) (r : Int32 × AI), f8_b147 kad N Z rc k7 a0 i2 i3 i4 i5 I = some r → aGo kad d 8 (147, ([(0, .ref a0), (2, .int i2), (3, .int i3), (4, .int i4), (5, .int i5)], [])) (aMem Z I, t) (qI Z t r) := by
  intro a0 i2 i3 i4 i5 I r h
  unfold f8_b147 at h
  refine go_ops aMi8 2 _ (f1 := (7, ([(5, .int (i5 + (1 : Int32))), (0, .ref a0), (2, .int i2), (3, .int i3), (4, .int i4)], []))) rfl ?_
  refine go_le (lv1 := [(0, .ref a0), (2, .int i2), (3, .int i3), (4, .int i4), (5, .int (i5 + (1 : Int32)))]) (aLe_of (show (List.map (fun q => q.1) ([(0, .ref a0), (2, .int i2), (3, .int i3), (4, .int i4), (5, .int (i5 + (1 : Int32)))] : ALv)).Nodup from (by show ([0, 2, 3, 4, 5] : List Nat).Nodup; decide)) (aSubL_cons rfl (aSubL_cons rfl (aSubL_cons rfl (aSubL_cons rfl (aSubL_cons rfl aSubL_nil)))))) ?_
  exact hk7 a0 i2 i3 i4 (i5 + (1 : Int32)) I _ h
def f8_b94 (kad : Nat → Nat) (N : Nat) (Z : AZ) (rc : Nat → Int32 → Int32 → Int32 → Int32 → AI → Option (Int32 × AI)) (k7 : Nat → Int32 → Int32 → Int32 → Int32 → AI → Option (Int32 × AI)) (a0 : Nat) (i2 : Int32) (i3 : Int32) (i4 : Int32) (i5 : Int32) (a6 : Nat) (i7 : Int32) (I : AI) : Option (Int32 × AI) :=
  if i7 = 0 then
    (gR Z I 7 0 a6).bind fun b104_1 =>
    if ¬ b104_1 = (kad 6) then
      f8_b147 kad N Z rc k7 a0 i2 i3 i4 i5 I
    else
      (gI Z I 7 1 a6).bind fun x115_2 =>
      if x115_2 < 0 then
        f8_b147 kad N Z rc k7 a0 i2 i3 i4 i5 I
      else
        (gI Z I 7 1 a6).bind fun x123_3 =>
        if (5 : Int32) ≤ x123_3 then
          f8_b147 kad N Z rc k7 a0 i2 i3 i4 i5 I
        else
          (gR Z I 0 4 a0).bind fun b133_4 =>
          (gI Z I 7 1 a6).bind fun x138_5 =>
          (lI Z I 100 b133_4 x138_5).bind fun x141_6 =>
          f8_b147 kad N Z rc k7 a0 i2 i3 i4 (if i5 < x141_6 then x141_6 else i5) I
  else
    some (i7, I)
set_option maxRecDepth 20000 in
theorem Tf8_b94 {kad : Nat → Nat} {N : Nat} {Z : AZ} {d : Nat} {t : Option Nat × (Nat × Nat)} (hd : 4 ≤ d) {rc : Nat → Int32 → Int32 → Int32 → Int32 → AI → Option (Int32 × AI)} (hrc : ∀ a i j k m I r, rc a i j k m I = some r → aEv kad (d - 2) 8 [.ref a, .int i, .int j, .int k, .int m] (aMem Z I, t) (qI Z t r)) (k7 : Nat → Int32 → Int32 → Int32 → Int32 → AI → Option (Int32 × AI))  (hk7 : ∀ (a0 : Nat) (i2 : Int32) (i3 : Int32) (i4 : Int32) (i5 : Int32)  (I : AI) (r : Int32 × AI), k7 a0 i2 i3 i4 i5 I = some r → aGo kad d 8 (7, ([(0, .ref a0), (2, .int i2), (3, .int i3), (4, .int i4), (5, .int i5)], [])) (aMem Z I, t) (qI Z t r)) : ∀ (a0 : Nat) (i2 : Int32) (i3 : Int32) (i4 : Int32) (i5 : Int32) (a6 : Nat) (i7 : Int32) (I : AI) (r : Int32 × AI), f8_b94 kad N Z rc k7 a0 i2 i3 i4 i5 a6 i7 I = some r → aGo kad d 8 (94, ([(0, .ref a0), (2, .int i2), (3, .int i3), (4, .int i4), (5, .int i5), (6, .ref a6), (7, .int i7)], [])) (aMem Z I, t) (qI Z t r) := by
  intro a0 i2 i3 i4 i5 a6 i7 I r h
  unfold f8_b94 at h
  refine go_ops aMi8 1 _ (f1 := (96, ([(0, .ref a0), (2, .int i2), (3, .int i3), (4, .int i4), (5, .int i5), (6, .ref a6), (7, .int i7)], [.int i7]))) rfl ?_
  refine gg_br (b := decide (i7 = 0)) (tg := 102) (off := 6) aMi8 rfl rfl rfl rfl (fun hb => ?_) (fun hb => ?_)
  · rw [if_pos (of_decide_eq_true hb)] at h
    refine go_ops aMi8 1 _ (f1 := (104, ([(0, .ref a0), (2, .int i2), (3, .int i3), (4, .int i4), (5, .int i5), (6, .ref a6), (7, .int i7)], [.ref a6]))) rfl ?_
    obtain ⟨b104_1, hxb104_1, h⟩ := Option.bind_eq_some_iff.mp h
    refine gg_gR aMi8 rfl rfl rfl hxb104_1 ?_
    refine gg_gs aMi8 rfl rfl ?_
    refine gg_br (b := decide (¬ b104_1 = (kad 6))) (tg := 147) (off := 37) aMi8 rfl rfl rfl rfl (fun hb => ?_) (fun hb => ?_)
    · rw [if_pos (of_decide_eq_true hb)] at h
      refine go_le (lv1 := [(0, .ref a0), (2, .int i2), (3, .int i3), (4, .int i4), (5, .int i5)]) (aLe_of (show (List.map (fun q => q.1) ([(0, .ref a0), (2, .int i2), (3, .int i3), (4, .int i4), (5, .int i5)] : ALv)).Nodup from (by show ([0, 2, 3, 4, 5] : List Nat).Nodup; decide)) (aSubL_cons rfl (aSubL_cons rfl (aSubL_cons rfl (aSubL_cons rfl (aSubL_cons rfl aSubL_nil)))))) ?_
      exact Tf8_b147 hd hrc k7 hk7 a0 i2 i3 i4 i5 I _ h
    · rw [if_neg (of_decide_eq_false hb)] at h
      refine go_ops aMi8 1 _ (f1 := (115, ([(0, .ref a0), (2, .int i2), (3, .int i3), (4, .int i4), (5, .int i5), (6, .ref a6), (7, .int i7)], [.ref a6]))) rfl ?_
      obtain ⟨x115_2, hxx115_2, h⟩ := Option.bind_eq_some_iff.mp h
      refine gg_gI aMi8 rfl rfl rfl hxx115_2 ?_
      refine gg_br (b := decide (x115_2 < 0)) (tg := 147) (off := 29) aMi8 rfl rfl rfl rfl (fun hb => ?_) (fun hb => ?_)
      · rw [if_pos (of_decide_eq_true hb)] at h
        refine go_le (lv1 := [(0, .ref a0), (2, .int i2), (3, .int i3), (4, .int i4), (5, .int i5)]) (aLe_of (show (List.map (fun q => q.1) ([(0, .ref a0), (2, .int i2), (3, .int i3), (4, .int i4), (5, .int i5)] : ALv)).Nodup from (by show ([0, 2, 3, 4, 5] : List Nat).Nodup; decide)) (aSubL_cons rfl (aSubL_cons rfl (aSubL_cons rfl (aSubL_cons rfl (aSubL_cons rfl aSubL_nil)))))) ?_
        exact Tf8_b147 hd hrc k7 hk7 a0 i2 i3 i4 i5 I _ h
      · rw [if_neg (of_decide_eq_false hb)] at h
        refine go_ops aMi8 1 _ (f1 := (123, ([(0, .ref a0), (2, .int i2), (3, .int i3), (4, .int i4), (5, .int i5), (6, .ref a6), (7, .int i7)], [.ref a6]))) rfl ?_
        obtain ⟨x123_3, hxx123_3, h⟩ := Option.bind_eq_some_iff.mp h
        refine gg_gI aMi8 rfl rfl rfl hxx123_3 ?_
        refine go_ops aMi8 1 _ (f1 := (127, ([(0, .ref a0), (2, .int i2), (3, .int i3), (4, .int i4), (5, .int i5), (6, .ref a6), (7, .int i7)], [.int (5 : Int32), .int x123_3]))) rfl ?_
        refine gg_br (b := decide ((5 : Int32) ≤ x123_3)) (tg := 147) (off := 20) aMi8 rfl rfl rfl rfl (fun hb => ?_) (fun hb => ?_)
        · rw [if_pos (of_decide_eq_true hb)] at h
          refine go_le (lv1 := [(0, .ref a0), (2, .int i2), (3, .int i3), (4, .int i4), (5, .int i5)]) (aLe_of (show (List.map (fun q => q.1) ([(0, .ref a0), (2, .int i2), (3, .int i3), (4, .int i4), (5, .int i5)] : ALv)).Nodup from (by show ([0, 2, 3, 4, 5] : List Nat).Nodup; decide)) (aSubL_cons rfl (aSubL_cons rfl (aSubL_cons rfl (aSubL_cons rfl (aSubL_cons rfl aSubL_nil)))))) ?_
          exact Tf8_b147 hd hrc k7 hk7 a0 i2 i3 i4 i5 I _ h
        · rw [if_neg (of_decide_eq_false hb)] at h
          refine go_ops aMi8 2 _ (f1 := (133, ([(0, .ref a0), (2, .int i2), (3, .int i3), (4, .int i4), (5, .int i5), (6, .ref a6), (7, .int i7)], [.ref a0, .int i5]))) rfl ?_
          obtain ⟨b133_4, hxb133_4, h⟩ := Option.bind_eq_some_iff.mp h
          refine gg_gR aMi8 rfl rfl rfl hxb133_4 ?_
          refine go_ops aMi8 1 _ (f1 := (138, ([(0, .ref a0), (2, .int i2), (3, .int i3), (4, .int i4), (5, .int i5), (6, .ref a6), (7, .int i7)], [.ref a6, .ref b133_4, .int i5]))) rfl ?_
          obtain ⟨x138_5, hxx138_5, h⟩ := Option.bind_eq_some_iff.mp h
          refine gg_gI aMi8 rfl rfl rfl hxx138_5 ?_
          obtain ⟨x141_6, hxx141_6, h⟩ := Option.bind_eq_some_iff.mp h
          refine gg_lI (Or.inl ⟨rfl, rfl⟩) aMi8 rfl hxx141_6 ?_
          refine gg_mx aMi8 rfl rfl (Nat.le_of_ble_eq_true rfl) ?_
          refine go_ops aMi8 1 _ (f1 := (147, ([(5, .int (if i5 < x141_6 then x141_6 else i5)), (0, .ref a0), (2, .int i2), (3, .int i3), (4, .int i4), (6, .ref a6), (7, .int i7)], []))) rfl ?_
          refine go_le (lv1 := [(0, .ref a0), (2, .int i2), (3, .int i3), (4, .int i4), (5, .int (if i5 < x141_6 then x141_6 else i5))]) (aLe_of (show (List.map (fun q => q.1) ([(0, .ref a0), (2, .int i2), (3, .int i3), (4, .int i4), (5, .int (if i5 < x141_6 then x141_6 else i5))] : ALv)).Nodup from (by show ([0, 2, 3, 4, 5] : List Nat).Nodup; decide)) (aSubL_cons rfl (aSubL_cons rfl (aSubL_cons rfl (aSubL_cons rfl (aSubL_cons rfl aSubL_nil)))))) ?_
          exact Tf8_b147 hd hrc k7 hk7 a0 i2 i3 i4 (if i5 < x141_6 then x141_6 else i5) I _ h
  · rw [if_neg (of_decide_eq_false hb)] at h
    refine go_ops aMi8 1 _ (f1 := (101, ([(0, .ref a0), (2, .int i2), (3, .int i3), (4, .int i4), (5, .int i5), (6, .ref a6), (7, .int i7)], [.int i7]))) rfl ?_
    cases h
    exact go_ret aMi8 rfl aRetI ⟨rfl, rfl⟩
def f8_b57 (kad : Nat → Nat) (N : Nat) (Z : AZ) (rc : Nat → Int32 → Int32 → Int32 → Int32 → AI → Option (Int32 × AI)) (k7 : Nat → Int32 → Int32 → Int32 → Int32 → AI → Option (Int32 × AI)) (a0 : Nat) (i2 : Int32) (i3 : Int32) (i4 : Int32) (i5 : Int32) (a6 : Nat) (s0 : Int32) (I : AI) : Option (Int32 × AI) :=
  if ¬ s0 = 0 then
    f8_b94 kad N Z rc k7 a0 i2 i3 i4 i5 a6 s0 I
  else
    (gR Z I 7 0 a6).bind fun b66_1 =>
    if ¬ b66_1 = (kad 8) then
      f8_b94 kad N Z rc k7 a0 i2 i3 i4 i5 a6 s0 I
    else
      if (5 : Int32) ≤ i4 then
        f8_b94 kad N Z rc k7 a0 i2 i3 i4 i5 a6 s0 I
      else
        (gI Z I 7 1 a6).bind fun x84_2 =>
        (isK Z a0 0).bind fun u89_3 =>
        (f9_e kad N Z rc a0 x84_2 i4 I).bind fun r89_4 =>
        f8_b94 kad N Z rc k7 a0 i2 i3 i4 i5 a6 r89_4.1 r89_4.2
set_option maxRecDepth 20000 in
theorem Tf8_b57 {kad : Nat → Nat} {N : Nat} {Z : AZ} {d : Nat} {t : Option Nat × (Nat × Nat)} (hd : 4 ≤ d) {rc : Nat → Int32 → Int32 → Int32 → Int32 → AI → Option (Int32 × AI)} (hrc : ∀ a i j k m I r, rc a i j k m I = some r → aEv kad (d - 2) 8 [.ref a, .int i, .int j, .int k, .int m] (aMem Z I, t) (qI Z t r)) (k7 : Nat → Int32 → Int32 → Int32 → Int32 → AI → Option (Int32 × AI))  (hk7 : ∀ (a0 : Nat) (i2 : Int32) (i3 : Int32) (i4 : Int32) (i5 : Int32)  (I : AI) (r : Int32 × AI), k7 a0 i2 i3 i4 i5 I = some r → aGo kad d 8 (7, ([(0, .ref a0), (2, .int i2), (3, .int i3), (4, .int i4), (5, .int i5)], [])) (aMem Z I, t) (qI Z t r)) : ∀ (a0 : Nat) (i2 : Int32) (i3 : Int32) (i4 : Int32) (i5 : Int32) (a6 : Nat) (s0 : Int32) (I : AI) (r : Int32 × AI), f8_b57 kad N Z rc k7 a0 i2 i3 i4 i5 a6 s0 I = some r → aGo kad d 8 (57, ([(0, .ref a0), (2, .int i2), (3, .int i3), (4, .int i4), (5, .int i5), (6, .ref a6)], [.int s0])) (aMem Z I, t) (qI Z t r) := by
  intro a0 i2 i3 i4 i5 a6 s0 I r h
  unfold f8_b57 at h
  refine go_ops aMi8 2 _ (f1 := (61, ([(7, .int s0), (0, .ref a0), (2, .int i2), (3, .int i3), (4, .int i4), (5, .int i5), (6, .ref a6)], [.int s0]))) rfl ?_
  refine gg_br (b := decide (¬ s0 = 0)) (tg := 94) (off := 33) aMi8 rfl rfl rfl rfl (fun hb => ?_) (fun hb => ?_)
  · rw [if_pos (of_decide_eq_true hb)] at h
    refine go_le (lv1 := [(0, .ref a0), (2, .int i2), (3, .int i3), (4, .int i4), (5, .int i5), (6, .ref a6), (7, .int s0)]) (aLe_of (show (List.map (fun q => q.1) ([(0, .ref a0), (2, .int i2), (3, .int i3), (4, .int i4), (5, .int i5), (6, .ref a6), (7, .int s0)] : ALv)).Nodup from (by show ([0, 2, 3, 4, 5, 6, 7] : List Nat).Nodup; decide)) (aSubL_cons rfl (aSubL_cons rfl (aSubL_cons rfl (aSubL_cons rfl (aSubL_cons rfl (aSubL_cons rfl (aSubL_cons rfl aSubL_nil)))))))) ?_
    exact Tf8_b94 hd hrc k7 hk7 a0 i2 i3 i4 i5 a6 s0 I _ h
  · rw [if_neg (of_decide_eq_false hb)] at h
    refine go_ops aMi8 1 _ (f1 := (66, ([(7, .int s0), (0, .ref a0), (2, .int i2), (3, .int i3), (4, .int i4), (5, .int i5), (6, .ref a6)], [.ref a6]))) rfl ?_
    obtain ⟨b66_1, hxb66_1, h⟩ := Option.bind_eq_some_iff.mp h
    refine gg_gR aMi8 rfl rfl rfl hxb66_1 ?_
    refine gg_gs aMi8 rfl rfl ?_
    refine gg_br (b := decide (¬ b66_1 = (kad 8))) (tg := 94) (off := 22) aMi8 rfl rfl rfl rfl (fun hb => ?_) (fun hb => ?_)
    · rw [if_pos (of_decide_eq_true hb)] at h
      refine go_le (lv1 := [(0, .ref a0), (2, .int i2), (3, .int i3), (4, .int i4), (5, .int i5), (6, .ref a6), (7, .int s0)]) (aLe_of (show (List.map (fun q => q.1) ([(0, .ref a0), (2, .int i2), (3, .int i3), (4, .int i4), (5, .int i5), (6, .ref a6), (7, .int s0)] : ALv)).Nodup from (by show ([0, 2, 3, 4, 5, 6, 7] : List Nat).Nodup; decide)) (aSubL_cons rfl (aSubL_cons rfl (aSubL_cons rfl (aSubL_cons rfl (aSubL_cons rfl (aSubL_cons rfl (aSubL_cons rfl aSubL_nil)))))))) ?_
      exact Tf8_b94 hd hrc k7 hk7 a0 i2 i3 i4 i5 a6 s0 I _ h
    · rw [if_neg (of_decide_eq_false hb)] at h
      refine go_ops aMi8 2 _ (f1 := (78, ([(7, .int s0), (0, .ref a0), (2, .int i2), (3, .int i3), (4, .int i4), (5, .int i5), (6, .ref a6)], [.int (5 : Int32), .int i4]))) rfl ?_
      refine gg_br (b := decide ((5 : Int32) ≤ i4)) (tg := 94) (off := 16) aMi8 rfl rfl rfl rfl (fun hb => ?_) (fun hb => ?_)
      · rw [if_pos (of_decide_eq_true hb)] at h
        refine go_le (lv1 := [(0, .ref a0), (2, .int i2), (3, .int i3), (4, .int i4), (5, .int i5), (6, .ref a6), (7, .int s0)]) (aLe_of (show (List.map (fun q => q.1) ([(0, .ref a0), (2, .int i2), (3, .int i3), (4, .int i4), (5, .int i5), (6, .ref a6), (7, .int s0)] : ALv)).Nodup from (by show ([0, 2, 3, 4, 5, 6, 7] : List Nat).Nodup; decide)) (aSubL_cons rfl (aSubL_cons rfl (aSubL_cons rfl (aSubL_cons rfl (aSubL_cons rfl (aSubL_cons rfl (aSubL_cons rfl aSubL_nil)))))))) ?_
        exact Tf8_b94 hd hrc k7 hk7 a0 i2 i3 i4 i5 a6 s0 I _ h
      · rw [if_neg (of_decide_eq_false hb)] at h
        refine go_ops aMi8 2 _ (f1 := (84, ([(7, .int s0), (0, .ref a0), (2, .int i2), (3, .int i3), (4, .int i4), (5, .int i5), (6, .ref a6)], [.ref a6, .ref a0]))) rfl ?_
        obtain ⟨x84_2, hxx84_2, h⟩ := Option.bind_eq_some_iff.mp h
        refine gg_gI aMi8 rfl rfl rfl hxx84_2 ?_
        refine go_ops aMi8 1 _ (f1 := (89, ([(7, .int s0), (0, .ref a0), (2, .int i2), (3, .int i3), (4, .int i4), (5, .int i5), (6, .ref a6)], [.int i4, .int x84_2, .ref a0]))) rfl ?_
        obtain ⟨u89_3, hxu89_3, h⟩ := Option.bind_eq_some_iff.mp h
        obtain ⟨r89_4, hxr89_4, h⟩ := Option.bind_eq_some_iff.mp h
        refine gg_cv (as := [.int x84_2, .int i4]) (r := []) aMi8 rfl rfl rfl aMi9 (Nat.le_of_ble_eq_true rfl) rfl (Nat.le_of_ble_eq_true rfl) (Nat.le_of_ble_eq_true rfl) (by omega) hxu89_3 (Tf9_e (d := d - 1) (by omega) (fun a i j k m I r h => hrc a i j k m I r h) a0 x84_2 i4 I _ hxr89_4) ?_
        show aGo kad d 8 (92, ([(7, .int s0), (0, .ref a0), (2, .int i2), (3, .int i3), (4, .int i4), (5, .int i5), (6, .ref a6)], [.int r89_4.1])) (aMem Z r89_4.2, t) _
        refine go_ops aMi8 1 _ (f1 := (94, ([(7, .int r89_4.1), (0, .ref a0), (2, .int i2), (3, .int i3), (4, .int i4), (5, .int i5), (6, .ref a6)], []))) rfl ?_
        refine go_le (lv1 := [(0, .ref a0), (2, .int i2), (3, .int i3), (4, .int i4), (5, .int i5), (6, .ref a6), (7, .int r89_4.1)]) (aLe_of (show (List.map (fun q => q.1) ([(0, .ref a0), (2, .int i2), (3, .int i3), (4, .int i4), (5, .int i5), (6, .ref a6), (7, .int r89_4.1)] : ALv)).Nodup from (by show ([0, 2, 3, 4, 5, 6, 7] : List Nat).Nodup; decide)) (aSubL_cons rfl (aSubL_cons rfl (aSubL_cons rfl (aSubL_cons rfl (aSubL_cons rfl (aSubL_cons rfl (aSubL_cons rfl aSubL_nil)))))))) ?_
        exact Tf8_b94 hd hrc k7 hk7 a0 i2 i3 i4 i5 a6 r89_4.1 r89_4.2 _ h
def f8_b153 (kad : Nat → Nat) (N : Nat) (Z : AZ) (rc : Nat → Int32 → Int32 → Int32 → Int32 → AI → Option (Int32 × AI))  (I : AI) : Option (Int32 × AI) :=
  some ((0 : Int32), I)
set_option maxRecDepth 20000 in
theorem Tf8_b153 {kad : Nat → Nat} {N : Nat} {Z : AZ} {d : Nat} {t : Option Nat × (Nat × Nat)} (hd : 4 ≤ d) {rc : Nat → Int32 → Int32 → Int32 → Int32 → AI → Option (Int32 × AI)} (hrc : ∀ a i j k m I r, rc a i j k m I = some r → aEv kad (d - 2) 8 [.ref a, .int i, .int j, .int k, .int m] (aMem Z I, t) (qI Z t r)) : ∀  (I : AI) (r : Int32 × AI), f8_b153 kad N Z rc  I = some r → aGo kad d 8 (153, ([], [])) (aMem Z I, t) (qI Z t r) := by
  intro  I r h
  unfold f8_b153 at h
  refine go_ops aMi8 1 _ (f1 := (154, ([], [.int (0 : Int32)]))) rfl ?_
  cases h
  exact go_ret aMi8 rfl aRetI ⟨rfl, rfl⟩
def f8_b7 (kad : Nat → Nat) (N : Nat) (Z : AZ) (rc : Nat → Int32 → Int32 → Int32 → Int32 → AI → Option (Int32 × AI)) : Nat → Nat → Int32 → Int32 → Int32 → Int32 → AI → Option (Int32 × AI)
  | 0, _, _, _, _, _, _ => none
  | F + 1, a0, i2, i3, i4, i5, I =>
    if i2 ≤ i5 then
      f8_b153 kad N Z rc  I
    else
      if (100 : Int32) ≤ i5 then
        f8_b153 kad N Z rc  I
      else
        (gR Z I 0 2 a0).bind fun b21_1 =>
        (lR Z I b21_1 i5).bind fun b26_2 =>
        (gI Z I 0 12 a0).bind fun x30_3 =>
        if x30_3 = 0 then
          (isK Z a0 0).bind fun u54_4 =>
          (f10 kad N Z a0 b26_2 i5 i3 I).bind fun r54_5 =>
          f8_b57 kad N Z rc (fun p0 p1 p2 p3 p4 I => f8_b7 kad N Z rc F p0 p1 p2 p3 p4 I) a0 i2 i3 i4 i5 b26_2 r54_5.1 r54_5.2
        else
          (isK Z a0 0).bind fun u42_6 =>
          (f17 kad N Z a0 b26_2 i5 i3 I).bind fun r42_7 =>
          f8_b57 kad N Z rc (fun p0 p1 p2 p3 p4 I => f8_b7 kad N Z rc F p0 p1 p2 p3 p4 I) a0 i2 i3 i4 i5 b26_2 r42_7.1 r42_7.2
set_option maxRecDepth 20000 in
theorem Tf8_b7 {kad : Nat → Nat} {N : Nat} {Z : AZ} {d : Nat} {t : Option Nat × (Nat × Nat)} (hd : 4 ≤ d) {rc : Nat → Int32 → Int32 → Int32 → Int32 → AI → Option (Int32 × AI)} (hrc : ∀ a i j k m I r, rc a i j k m I = some r → aEv kad (d - 2) 8 [.ref a, .int i, .int j, .int k, .int m] (aMem Z I, t) (qI Z t r)) : ∀ (F : Nat) (a0 : Nat) (i2 : Int32) (i3 : Int32) (i4 : Int32) (i5 : Int32) (I : AI) (r : Int32 × AI), f8_b7 kad N Z rc F a0 i2 i3 i4 i5 I = some r → aGo kad d 8 (7, ([(0, .ref a0), (2, .int i2), (3, .int i3), (4, .int i4), (5, .int i5)], [])) (aMem Z I, t) (qI Z t r) := by
  intro F
  induction F with
  | zero => intro a0 i2 i3 i4 i5 I r h; cases h
  | succ F ih =>
    intro a0 i2 i3 i4 i5 I r h
    unfold f8_b7 at h
    refine go_ops aMi8 2 _ (f1 := (10, ([(0, .ref a0), (2, .int i2), (3, .int i3), (4, .int i4), (5, .int i5)], [.int i2, .int i5]))) rfl ?_
    refine gg_br (b := decide (i2 ≤ i5)) (tg := 153) (off := 143) aMi8 rfl rfl rfl rfl (fun hb => ?_) (fun hb => ?_)
    · rw [if_pos (of_decide_eq_true hb)] at h
      refine go_le (lv1 := []) (aLe_of (show (List.map (fun q => q.1) ([] : ALv)).Nodup from (by show ([] : List Nat).Nodup; decide)) aSubL_nil) ?_
      exact Tf8_b153 hd hrc  I _ h
    · rw [if_neg (of_decide_eq_false hb)] at h
      refine go_ops aMi8 2 _ (f1 := (17, ([(0, .ref a0), (2, .int i2), (3, .int i3), (4, .int i4), (5, .int i5)], [.int (100 : Int32), .int i5]))) rfl ?_
      refine gg_br (b := decide ((100 : Int32) ≤ i5)) (tg := 153) (off := 136) aMi8 rfl rfl rfl rfl (fun hb => ?_) (fun hb => ?_)
      · rw [if_pos (of_decide_eq_true hb)] at h
        refine go_le (lv1 := []) (aLe_of (show (List.map (fun q => q.1) ([] : ALv)).Nodup from (by show ([] : List Nat).Nodup; decide)) aSubL_nil) ?_
        exact Tf8_b153 hd hrc  I _ h
      · rw [if_neg (of_decide_eq_false hb)] at h
        refine go_ops aMi8 1 _ (f1 := (21, ([(0, .ref a0), (2, .int i2), (3, .int i3), (4, .int i4), (5, .int i5)], [.ref a0]))) rfl ?_
        obtain ⟨b21_1, hxb21_1, h⟩ := Option.bind_eq_some_iff.mp h
        refine gg_gR aMi8 rfl rfl rfl hxb21_1 ?_
        refine go_ops aMi8 1 _ (f1 := (26, ([(0, .ref a0), (2, .int i2), (3, .int i3), (4, .int i4), (5, .int i5)], [.int i5, .ref b21_1]))) rfl ?_
        obtain ⟨b26_2, hxb26_2, h⟩ := Option.bind_eq_some_iff.mp h
        refine gg_lR aMi8 rfl hxb26_2 ?_
        refine go_ops aMi8 2 _ (f1 := (30, ([(6, .ref b26_2), (0, .ref a0), (2, .int i2), (3, .int i3), (4, .int i4), (5, .int i5)], [.ref a0]))) rfl ?_
        obtain ⟨x30_3, hxx30_3, h⟩ := Option.bind_eq_some_iff.mp h
        refine gg_gI aMi8 rfl rfl rfl hxx30_3 ?_
        refine gg_br (b := decide (x30_3 = 0)) (tg := 48) (off := 15) aMi8 rfl rfl rfl rfl (fun hb => ?_) (fun hb => ?_)
        · rw [if_pos (of_decide_eq_true hb)] at h
          refine go_ops aMi8 4 _ (f1 := (54, ([(6, .ref b26_2), (0, .ref a0), (2, .int i2), (3, .int i3), (4, .int i4), (5, .int i5)], [.int i3, .int i5, .ref b26_2, .ref a0]))) rfl ?_
          obtain ⟨u54_4, hxu54_4, h⟩ := Option.bind_eq_some_iff.mp h
          obtain ⟨r54_5, hxr54_5, h⟩ := Option.bind_eq_some_iff.mp h
          refine gg_cv (as := [.ref b26_2, .int i5, .int i3]) (r := []) aMi8 rfl rfl rfl aMi10 (Nat.le_of_ble_eq_true rfl) rfl (Nat.le_of_ble_eq_true rfl) (Nat.le_of_ble_eq_true rfl) (by omega) hxu54_4 (Tf10 (by omega) a0 b26_2 i5 i3 I _ hxr54_5) ?_
          show aGo kad d 8 (57, ([(6, .ref b26_2), (0, .ref a0), (2, .int i2), (3, .int i3), (4, .int i4), (5, .int i5)], [.int r54_5.1])) (aMem Z r54_5.2, t) _
          refine go_le (lv1 := [(0, .ref a0), (2, .int i2), (3, .int i3), (4, .int i4), (5, .int i5), (6, .ref b26_2)]) (aLe_of (show (List.map (fun q => q.1) ([(0, .ref a0), (2, .int i2), (3, .int i3), (4, .int i4), (5, .int i5), (6, .ref b26_2)] : ALv)).Nodup from (by show ([0, 2, 3, 4, 5, 6] : List Nat).Nodup; decide)) (aSubL_cons rfl (aSubL_cons rfl (aSubL_cons rfl (aSubL_cons rfl (aSubL_cons rfl (aSubL_cons rfl aSubL_nil))))))) ?_
          exact Tf8_b57 hd hrc (fun p0 p1 p2 p3 p4 I => f8_b7 kad N Z rc F p0 p1 p2 p3 p4 I) (fun p0 p1 p2 p3 p4 I r hh => ih p0 p1 p2 p3 p4 I r hh) a0 i2 i3 i4 i5 b26_2 r54_5.1 r54_5.2 _ h
        · rw [if_neg (of_decide_eq_false hb)] at h
          refine go_ops aMi8 4 _ (f1 := (42, ([(6, .ref b26_2), (0, .ref a0), (2, .int i2), (3, .int i3), (4, .int i4), (5, .int i5)], [.int i3, .int i5, .ref b26_2, .ref a0]))) rfl ?_
          obtain ⟨u42_6, hxu42_6, h⟩ := Option.bind_eq_some_iff.mp h
          obtain ⟨r42_7, hxr42_7, h⟩ := Option.bind_eq_some_iff.mp h
          refine gg_cv (as := [.ref b26_2, .int i5, .int i3]) (r := []) aMi8 rfl rfl rfl aMi17 (Nat.le_of_ble_eq_true rfl) rfl (Nat.le_of_ble_eq_true rfl) (Nat.le_of_ble_eq_true rfl) (by omega) hxu42_6 (Tf17 (by omega) a0 b26_2 i5 i3 I _ hxr42_7) ?_
          show aGo kad d 8 (45, ([(6, .ref b26_2), (0, .ref a0), (2, .int i2), (3, .int i3), (4, .int i4), (5, .int i5)], [.int r42_7.1])) (aMem Z r42_7.2, t) _
          refine go_ops aMi8 1 _ (f1 := (57, ([(6, .ref b26_2), (0, .ref a0), (2, .int i2), (3, .int i3), (4, .int i4), (5, .int i5)], [.int r42_7.1]))) rfl ?_
          refine go_le (lv1 := [(0, .ref a0), (2, .int i2), (3, .int i3), (4, .int i4), (5, .int i5), (6, .ref b26_2)]) (aLe_of (show (List.map (fun q => q.1) ([(0, .ref a0), (2, .int i2), (3, .int i3), (4, .int i4), (5, .int i5), (6, .ref b26_2)] : ALv)).Nodup from (by show ([0, 2, 3, 4, 5, 6] : List Nat).Nodup; decide)) (aSubL_cons rfl (aSubL_cons rfl (aSubL_cons rfl (aSubL_cons rfl (aSubL_cons rfl (aSubL_cons rfl aSubL_nil))))))) ?_
          exact Tf8_b57 hd hrc (fun p0 p1 p2 p3 p4 I => f8_b7 kad N Z rc F p0 p1 p2 p3 p4 I) (fun p0 p1 p2 p3 p4 I r hh => ih p0 p1 p2 p3 p4 I r hh) a0 i2 i3 i4 i5 b26_2 r42_7.1 r42_7.2 _ h
def f8_e (kad : Nat → Nat) (N : Nat) (Z : AZ) (rc : Nat → Int32 → Int32 → Int32 → Int32 → AI → Option (Int32 × AI)) (a0 : Nat) (i1 : Int32) (i2 : Int32) (i3 : Int32) (i4 : Int32) (I : AI) : Option (Int32 × AI) :=
  f8_b7 kad N Z rc N a0 i2 i3 i4 (if i1 < (0 : Int32) then (0 : Int32) else i1) I
set_option maxRecDepth 20000 in
theorem Tf8_e {kad : Nat → Nat} {N : Nat} {Z : AZ} {d : Nat} {t : Option Nat × (Nat × Nat)} (hd : 4 ≤ d) {rc : Nat → Int32 → Int32 → Int32 → Int32 → AI → Option (Int32 × AI)} (hrc : ∀ a i j k m I r, rc a i j k m I = some r → aEv kad (d - 2) 8 [.ref a, .int i, .int j, .int k, .int m] (aMem Z I, t) (qI Z t r)) : ∀ (a0 : Nat) (i1 : Int32) (i2 : Int32) (i3 : Int32) (i4 : Int32) (I : AI) (r : Int32 × AI), f8_e kad N Z rc a0 i1 i2 i3 i4 I = some r → aGo kad d 8 (0, ([(0, .ref a0), (1, .int i1), (2, .int i2), (3, .int i3), (4, .int i4)], [])) (aMem Z I, t) (qI Z t r) := by
  intro a0 i1 i2 i3 i4 I r h
  unfold f8_e at h
  refine go_ops aMi8 2 _ (f1 := (2, ([(0, .ref a0), (1, .int i1), (2, .int i2), (3, .int i3), (4, .int i4)], [.int (0 : Int32), .int i1]))) rfl ?_
  refine gg_mx aMi8 rfl rfl (Nat.le_of_ble_eq_true rfl) ?_
  refine go_ops aMi8 1 _ (f1 := (7, ([(5, .int (if i1 < (0 : Int32) then (0 : Int32) else i1)), (0, .ref a0), (1, .int i1), (2, .int i2), (3, .int i3), (4, .int i4)], []))) rfl ?_
  refine go_le (lv1 := [(0, .ref a0), (2, .int i2), (3, .int i3), (4, .int i4), (5, .int (if i1 < (0 : Int32) then (0 : Int32) else i1))]) (aLe_of (show (List.map (fun q => q.1) ([(0, .ref a0), (2, .int i2), (3, .int i3), (4, .int i4), (5, .int (if i1 < (0 : Int32) then (0 : Int32) else i1))] : ALv)).Nodup from (by show ([0, 2, 3, 4, 5] : List Nat).Nodup; decide)) (aSubL_cons rfl (aSubL_cons rfl (aSubL_cons rfl (aSubL_cons rfl (aSubL_cons rfl aSubL_nil)))))) ?_
  exact Tf8_b7 hd hrc N a0 i2 i3 i4 (if i1 < (0 : Int32) then (0 : Int32) else i1) I _ h
def f8_r (kad : Nat → Nat) (N : Nat) (Z : AZ) : Nat → Nat → Int32 → Int32 → Int32 → Int32 → AI → Option (Int32 × AI)
  | 0, _, _, _, _, _, _ => none
  | k + 1, a, i, j, m, q, I => f8_e kad N Z (f8_r kad N Z k) a i j m q I
set_option maxRecDepth 20000 in
theorem Tf8_r {kad : Nat → Nat} {N : Nat} {Z : AZ} {t : Option Nat × (Nat × Nat)} : ∀ (F d : Nat) (_ : 4 + 2 * F ≤ d) (a : Nat) (i j m q : Int32) (I : AI) (r : Int32 × AI), f8_r kad N Z F a i j m q I = some r → aEv kad d 8 [.ref a, .int i, .int j, .int m, .int q] (aMem Z I, t) (qI Z t r) := by
  intro F
  induction F with
  | zero => intro d hd a i j m q I r h; cases h
  | succ F ih =>
    intro d hd a i j m q I r h
    exact Tf8_e (by omega) (fun a i j m q I r h => ih (d - 2) (by omega) a i j m q I r h) a i j m q I r h
def f8 (kad : Nat → Nat) (N : Nat) (Z : AZ) (a : Nat) (i j m q : Int32) (I : AI) : Option (Int32 × AI) := f8_r kad N Z 7 a i j m q I
theorem Tf8 {kad : Nat → Nat} {N : Nat} {Z : AZ} {d : Nat} {t : Option Nat × (Nat × Nat)} (hd : 18 ≤ d) (a : Nat) (i j m q : Int32) (I : AI) (r : Int32 × AI) (h : f8 kad N Z a i j m q I = some r) : aEv kad d 8 [.ref a, .int i, .int j, .int m, .int q] (aMem Z I, t) (qI Z t r) := Tf8_r 7 d (by omega) a i j m q I r h
-- KernelGym$Assembler.findError ()I
def f5 (kad : Nat → Nat) (N : Nat) (Z : AZ) (a0 : Nat) (I : AI) : Option (Int32 × AI) :=
  (gR Z I 0 3 a0).bind fun b1_1 =>
  (f306 kad N Z b1_1 (Int32.ofInt (-1)) I).bind fun r5_2 =>
  (gR Z r5_2.2 0 7 a0).bind fun b9_3 =>
  (f306 kad N Z b9_3 (Int32.ofInt (-1)) r5_2.2).bind fun r13_4 =>
  (isK Z a0 0).bind fun u18_5 =>
  (f6 kad N Z a0 (0 : Int32) r13_4.2).bind fun r18_6 =>
  (gI Z r18_6.2 0 0 a0).bind fun x24_7 =>
  (isK Z a0 0).bind fun u29_8 =>
  (f8 kad N Z a0 (0 : Int32) x24_7 (0 : Int32) (0 : Int32) r18_6.2).bind fun r29_9 =>
  if r29_9.1 = 0 then
    (gR Z r29_9.2 0 11 a0).bind fun b40_10 =>
    (sI Z r29_9.2 100 b40_10 (0 : Int32) (8 : Int32)).bind fun I46_11 =>
    (gR Z I46_11 0 11 a0).bind fun b48_12 =>
    (gR Z I46_11 0 10 a0).bind fun b55_13 =>
    (lI Z I46_11 100 b55_13 (0 : Int32)).bind fun x59_14 =>
    (sI Z I46_11 100 b48_12 (1 : Int32) ((8 : Int32) + x59_14)).bind fun I61_15 =>
    (isK Z a0 0).bind fun u64_16 =>
    (f6 kad N Z a0 (1 : Int32) I61_15).bind fun r64_17 =>
    (gI Z r64_17.2 0 0 a0).bind fun x70_18 =>
    (isK Z a0 0).bind fun u75_19 =>
    (f8 kad N Z a0 (0 : Int32) x70_18 (0 : Int32) (0 : Int32) r64_17.2).bind fun r75_20 =>
    some (r75_20.1, r75_20.2)
  else
    some (r29_9.1, r29_9.2)
set_option maxRecDepth 20000 in
theorem Tf5 {kad : Nat → Nat} {N : Nat} {Z : AZ} {d : Nat} {t : Option Nat × (Nat × Nat)} (hd : 19 ≤ d) : ∀ (a0 : Nat) (I : AI) (r : Int32 × AI), f5 kad N Z a0 I = some r → aGo kad d 5 (0, ([(0, .ref a0)], [])) (aMem Z I, t) (qI Z t r) := by
  intro a0 I r h
  unfold f5 at h
  refine go_ops aMi5 1 _ (f1 := (1, ([(0, .ref a0)], [.ref a0]))) rfl ?_
  obtain ⟨b1_1, hxb1_1, h⟩ := Option.bind_eq_some_iff.mp h
  refine gg_gR aMi5 rfl rfl rfl hxb1_1 ?_
  refine go_ops aMi5 1 _ (f1 := (5, ([(0, .ref a0)], [.int (Int32.ofInt (-1)), .ref b1_1]))) rfl ?_
  obtain ⟨r5_2, hxr5_2, h⟩ := Option.bind_eq_some_iff.mp h
  refine gg_cs (as := [.ref b1_1, .int (Int32.ofInt (-1))]) (r := []) aMi5 rfl rfl rfl aMi306 rfl (Nat.le_of_ble_eq_true rfl) (Nat.le_of_ble_eq_true rfl) (by omega) (Tf306 (by omega) b1_1 (Int32.ofInt (-1)) I _ hxr5_2) ?_
  show aGo kad d 5 (8, ([(0, .ref a0)], [])) (aMem Z r5_2.2, t) _
  refine go_ops aMi5 1 _ (f1 := (9, ([(0, .ref a0)], [.ref a0]))) rfl ?_
  obtain ⟨b9_3, hxb9_3, h⟩ := Option.bind_eq_some_iff.mp h
  refine gg_gR aMi5 rfl rfl rfl hxb9_3 ?_
  refine go_ops aMi5 1 _ (f1 := (13, ([(0, .ref a0)], [.int (Int32.ofInt (-1)), .ref b9_3]))) rfl ?_
  obtain ⟨r13_4, hxr13_4, h⟩ := Option.bind_eq_some_iff.mp h
  refine gg_cs (as := [.ref b9_3, .int (Int32.ofInt (-1))]) (r := []) aMi5 rfl rfl rfl aMi306 rfl (Nat.le_of_ble_eq_true rfl) (Nat.le_of_ble_eq_true rfl) (by omega) (Tf306 (by omega) b9_3 (Int32.ofInt (-1)) r5_2.2 _ hxr13_4) ?_
  show aGo kad d 5 (16, ([(0, .ref a0)], [])) (aMem Z r13_4.2, t) _
  refine go_ops aMi5 2 _ (f1 := (18, ([(0, .ref a0)], [.int (0 : Int32), .ref a0]))) rfl ?_
  obtain ⟨u18_5, hxu18_5, h⟩ := Option.bind_eq_some_iff.mp h
  obtain ⟨r18_6, hxr18_6, h⟩ := Option.bind_eq_some_iff.mp h
  refine gg_cv (as := [.int (0 : Int32)]) (r := []) aMi5 rfl rfl rfl aMi6 (Nat.le_of_ble_eq_true rfl) rfl (Nat.le_of_ble_eq_true rfl) (Nat.le_of_ble_eq_true rfl) (by omega) hxu18_5 (Tf6 (by omega) a0 (0 : Int32) r13_4.2 _ hxr18_6) ?_
  show aGo kad d 5 (21, ([(0, .ref a0)], [])) (aMem Z r18_6.2, t) _
  refine go_ops aMi5 3 _ (f1 := (24, ([(0, .ref a0)], [.ref a0, .int (0 : Int32), .ref a0]))) rfl ?_
  obtain ⟨x24_7, hxx24_7, h⟩ := Option.bind_eq_some_iff.mp h
  refine gg_gI aMi5 rfl rfl rfl hxx24_7 ?_
  refine go_ops aMi5 2 _ (f1 := (29, ([(0, .ref a0)], [.int (0 : Int32), .int (0 : Int32), .int x24_7, .int (0 : Int32), .ref a0]))) rfl ?_
  obtain ⟨u29_8, hxu29_8, h⟩ := Option.bind_eq_some_iff.mp h
  obtain ⟨r29_9, hxr29_9, h⟩ := Option.bind_eq_some_iff.mp h
  refine gg_cv (as := [.int (0 : Int32), .int x24_7, .int (0 : Int32), .int (0 : Int32)]) (r := []) aMi5 rfl rfl rfl aMi8 (Nat.le_of_ble_eq_true rfl) rfl (Nat.le_of_ble_eq_true rfl) (Nat.le_of_ble_eq_true rfl) (by omega) hxu29_8 (Tf8 (by omega) a0 (0 : Int32) x24_7 (0 : Int32) (0 : Int32) r18_6.2 _ hxr29_9) ?_
  show aGo kad d 5 (32, ([(0, .ref a0)], [.int r29_9.1])) (aMem Z r29_9.2, t) _
  refine go_ops aMi5 2 _ (f1 := (34, ([(1, .int r29_9.1), (0, .ref a0)], [.int r29_9.1]))) rfl ?_
  refine gg_br (b := decide (r29_9.1 = 0)) (tg := 39) (off := 5) aMi5 rfl rfl rfl rfl (fun hb => ?_) (fun hb => ?_)
  · rw [if_pos (of_decide_eq_true hb)] at h
    refine go_ops aMi5 1 _ (f1 := (40, ([(1, .int r29_9.1), (0, .ref a0)], [.ref a0]))) rfl ?_
    obtain ⟨b40_10, hxb40_10, h⟩ := Option.bind_eq_some_iff.mp h
    refine gg_gR aMi5 rfl rfl rfl hxb40_10 ?_
    refine go_ops aMi5 2 _ (f1 := (46, ([(1, .int r29_9.1), (0, .ref a0)], [.int (8 : Int32), .int (0 : Int32), .ref b40_10]))) rfl ?_
    obtain ⟨I46_11, hxI46_11, h⟩ := Option.bind_eq_some_iff.mp h
    refine gg_sI (Or.inl ⟨rfl, rfl⟩) aMi5 rfl hxI46_11 ?_
    refine go_ops aMi5 1 _ (f1 := (48, ([(1, .int r29_9.1), (0, .ref a0)], [.ref a0]))) rfl ?_
    obtain ⟨b48_12, hxb48_12, h⟩ := Option.bind_eq_some_iff.mp h
    refine gg_gR aMi5 rfl rfl rfl hxb48_12 ?_
    refine go_ops aMi5 3 _ (f1 := (55, ([(1, .int r29_9.1), (0, .ref a0)], [.ref a0, .int (8 : Int32), .int (1 : Int32), .ref b48_12]))) rfl ?_
    obtain ⟨b55_13, hxb55_13, h⟩ := Option.bind_eq_some_iff.mp h
    refine gg_gR aMi5 rfl rfl rfl hxb55_13 ?_
    refine go_ops aMi5 1 _ (f1 := (59, ([(1, .int r29_9.1), (0, .ref a0)], [.int (0 : Int32), .ref b55_13, .int (8 : Int32), .int (1 : Int32), .ref b48_12]))) rfl ?_
    obtain ⟨x59_14, hxx59_14, h⟩ := Option.bind_eq_some_iff.mp h
    refine gg_lI (Or.inl ⟨rfl, rfl⟩) aMi5 rfl hxx59_14 ?_
    refine go_ops aMi5 1 _ (f1 := (61, ([(1, .int r29_9.1), (0, .ref a0)], [.int ((8 : Int32) + x59_14), .int (1 : Int32), .ref b48_12]))) rfl ?_
    obtain ⟨I61_15, hxI61_15, h⟩ := Option.bind_eq_some_iff.mp h
    refine gg_sI (Or.inl ⟨rfl, rfl⟩) aMi5 rfl hxI61_15 ?_
    refine go_ops aMi5 2 _ (f1 := (64, ([(1, .int r29_9.1), (0, .ref a0)], [.int (1 : Int32), .ref a0]))) rfl ?_
    obtain ⟨u64_16, hxu64_16, h⟩ := Option.bind_eq_some_iff.mp h
    obtain ⟨r64_17, hxr64_17, h⟩ := Option.bind_eq_some_iff.mp h
    refine gg_cv (as := [.int (1 : Int32)]) (r := []) aMi5 rfl rfl rfl aMi6 (Nat.le_of_ble_eq_true rfl) rfl (Nat.le_of_ble_eq_true rfl) (Nat.le_of_ble_eq_true rfl) (by omega) hxu64_16 (Tf6 (by omega) a0 (1 : Int32) I61_15 _ hxr64_17) ?_
    show aGo kad d 5 (67, ([(1, .int r29_9.1), (0, .ref a0)], [])) (aMem Z r64_17.2, t) _
    refine go_ops aMi5 3 _ (f1 := (70, ([(1, .int r29_9.1), (0, .ref a0)], [.ref a0, .int (0 : Int32), .ref a0]))) rfl ?_
    obtain ⟨x70_18, hxx70_18, h⟩ := Option.bind_eq_some_iff.mp h
    refine gg_gI aMi5 rfl rfl rfl hxx70_18 ?_
    refine go_ops aMi5 2 _ (f1 := (75, ([(1, .int r29_9.1), (0, .ref a0)], [.int (0 : Int32), .int (0 : Int32), .int x70_18, .int (0 : Int32), .ref a0]))) rfl ?_
    obtain ⟨u75_19, hxu75_19, h⟩ := Option.bind_eq_some_iff.mp h
    obtain ⟨r75_20, hxr75_20, h⟩ := Option.bind_eq_some_iff.mp h
    refine gg_cv (as := [.int (0 : Int32), .int x70_18, .int (0 : Int32), .int (0 : Int32)]) (r := []) aMi5 rfl rfl rfl aMi8 (Nat.le_of_ble_eq_true rfl) rfl (Nat.le_of_ble_eq_true rfl) (Nat.le_of_ble_eq_true rfl) (by omega) hxu75_19 (Tf8 (by omega) a0 (0 : Int32) x70_18 (0 : Int32) (0 : Int32) r64_17.2 _ hxr75_20) ?_
    show aGo kad d 5 (78, ([(1, .int r29_9.1), (0, .ref a0)], [.int r75_20.1])) (aMem Z r75_20.2, t) _
    cases h
    exact go_ret aMi5 rfl aRetI ⟨rfl, rfl⟩
  · rw [if_neg (of_decide_eq_false hb)] at h
    refine go_ops aMi5 1 _ (f1 := (38, ([(1, .int r29_9.1), (0, .ref a0)], [.int r29_9.1]))) rfl ?_
    cases h
    exact go_ret aMi5 rfl aRetI ⟨rfl, rfl⟩
-- KernelGym$Disk.blockOfEntry (I)I
def f48 (kad : Nat → Nat) (N : Nat) (Z : AZ) (i0 : Int32) (I : AI) : Option (Int32 × AI) :=
  some (((5 : Int32) + (i0 / (2 : Int32))), I)
set_option maxRecDepth 20000 in
theorem Tf48 {kad : Nat → Nat} {N : Nat} {Z : AZ} {d : Nat} {t : Option Nat × (Nat × Nat)} (hd : 0 ≤ d) : ∀ (i0 : Int32) (I : AI) (r : Int32 × AI), f48 kad N Z i0 I = some r → aGo kad d 48 (0, ([(0, .int i0)], [])) (aMem Z I, t) (qI Z t r) := by
  intro i0 I r h
  unfold f48 at h
  refine go_ops aMi48 5 _ (f1 := (5, ([(0, .int i0)], [.int ((5 : Int32) + (i0 / (2 : Int32)))]))) rfl ?_
  cases h
  exact go_ret aMi48 rfl aRetI ⟨rfl, rfl⟩
-- KernelGym$Disk.placeOfEntry (I)I
def f49 (kad : Nat → Nat) (N : Nat) (Z : AZ) (i0 : Int32) (I : AI) : Option (Int32 × AI) :=
  some (((i0 - i0 / (2 : Int32) * (2 : Int32)) * (4 : Int32)), I)
set_option maxRecDepth 20000 in
theorem Tf49 {kad : Nat → Nat} {N : Nat} {Z : AZ} {d : Nat} {t : Option Nat × (Nat × Nat)} (hd : 0 ≤ d) : ∀ (i0 : Int32) (I : AI) (r : Int32 × AI), f49 kad N Z i0 I = some r → aGo kad d 49 (0, ([(0, .int i0)], [])) (aMem Z I, t) (qI Z t r) := by
  intro i0 I r h
  unfold f49 at h
  refine go_ops aMi49 5 _ (f1 := (5, ([(0, .int i0)], [.int ((i0 - i0 / (2 : Int32) * (2 : Int32)) * (4 : Int32))]))) rfl ?_
  cases h
  exact go_ret aMi49 rfl aRetI ⟨rfl, rfl⟩
-- KernelGym$Disk.wordAt (II)I
def f43_b45 (kad : Nat → Nat) (N : Nat) (Z : AZ) (s0 : Int32) (I : AI) : Option (Int32 × AI) :=
  some (s0, I)
set_option maxRecDepth 20000 in
theorem Tf43_b45 {kad : Nat → Nat} {N : Nat} {Z : AZ} {d : Nat} {t : Option Nat × (Nat × Nat)} (hd : 0 ≤ d) : ∀ (s0 : Int32) (I : AI) (r : Int32 × AI), f43_b45 kad N Z s0 I = some r → aGo kad d 43 (45, ([], [.int s0])) (aMem Z I, t) (qI Z t r) := by
  intro s0 I r h
  unfold f43_b45 at h
  cases h
  exact go_ret aMi43 rfl aRetI ⟨rfl, rfl⟩
def f43_b25 (kad : Nat → Nat) (N : Nat) (Z : AZ) (a0 : Nat) (i1 : Int32) (i2 : Int32) (s0 : Int32) (I : AI) : Option (Int32 × AI) :=
  if s0 = 0 then
    f43_b45 kad N Z (0 : Int32) I
  else
    (gR Z I 3 0 a0).bind fun b31_1 =>
    (lI Z I 100 b31_1 ((i1 * (8 : Int32)) + i2)).bind fun x40_2 =>
    f43_b45 kad N Z x40_2 I
set_option maxRecDepth 20000 in
theorem Tf43_b25 {kad : Nat → Nat} {N : Nat} {Z : AZ} {d : Nat} {t : Option Nat × (Nat × Nat)} (hd : 0 ≤ d) : ∀ (a0 : Nat) (i1 : Int32) (i2 : Int32) (s0 : Int32) (I : AI) (r : Int32 × AI), f43_b25 kad N Z a0 i1 i2 s0 I = some r → aGo kad d 43 (25, ([(0, .ref a0), (1, .int i1), (2, .int i2)], [.int s0])) (aMem Z I, t) (qI Z t r) := by
  intro a0 i1 i2 s0 I r h
  unfold f43_b25 at h
  refine go_ops aMi43 2 _ (f1 := (27, ([(3, .int s0), (0, .ref a0), (1, .int i1), (2, .int i2)], [.int s0]))) rfl ?_
  refine gg_br (b := decide (s0 = 0)) (tg := 44) (off := 17) aMi43 rfl rfl rfl rfl (fun hb => ?_) (fun hb => ?_)
  · rw [if_pos (of_decide_eq_true hb)] at h
    refine go_ops aMi43 1 _ (f1 := (45, ([(3, .int s0), (0, .ref a0), (1, .int i1), (2, .int i2)], [.int (0 : Int32)]))) rfl ?_
    refine go_le (lv1 := []) (aLe_of (show (List.map (fun q => q.1) ([] : ALv)).Nodup from (by show ([] : List Nat).Nodup; decide)) aSubL_nil) ?_
    exact Tf43_b45 hd (0 : Int32) I _ h
  · rw [if_neg (of_decide_eq_false hb)] at h
    refine go_ops aMi43 1 _ (f1 := (31, ([(3, .int s0), (0, .ref a0), (1, .int i1), (2, .int i2)], [.ref a0]))) rfl ?_
    obtain ⟨b31_1, hxb31_1, h⟩ := Option.bind_eq_some_iff.mp h
    refine gg_gR aMi43 rfl rfl rfl hxb31_1 ?_
    refine go_ops aMi43 5 _ (f1 := (40, ([(3, .int s0), (0, .ref a0), (1, .int i1), (2, .int i2)], [.int ((i1 * (8 : Int32)) + i2), .ref b31_1]))) rfl ?_
    obtain ⟨x40_2, hxx40_2, h⟩ := Option.bind_eq_some_iff.mp h
    refine gg_lI (Or.inl ⟨rfl, rfl⟩) aMi43 rfl hxx40_2 ?_
    refine go_ops aMi43 1 _ (f1 := (45, ([(3, .int s0), (0, .ref a0), (1, .int i1), (2, .int i2)], [.int x40_2]))) rfl ?_
    refine go_le (lv1 := []) (aLe_of (show (List.map (fun q => q.1) ([] : ALv)).Nodup from (by show ([] : List Nat).Nodup; decide)) aSubL_nil) ?_
    exact Tf43_b45 hd x40_2 I _ h
def f43_b24 (kad : Nat → Nat) (N : Nat) (Z : AZ) (a0 : Nat) (i1 : Int32) (i2 : Int32) (I : AI) : Option (Int32 × AI) :=
  f43_b25 kad N Z a0 i1 i2 (0 : Int32) I
set_option maxRecDepth 20000 in
theorem Tf43_b24 {kad : Nat → Nat} {N : Nat} {Z : AZ} {d : Nat} {t : Option Nat × (Nat × Nat)} (hd : 0 ≤ d) : ∀ (a0 : Nat) (i1 : Int32) (i2 : Int32) (I : AI) (r : Int32 × AI), f43_b24 kad N Z a0 i1 i2 I = some r → aGo kad d 43 (24, ([(0, .ref a0), (1, .int i1), (2, .int i2)], [])) (aMem Z I, t) (qI Z t r) := by
  intro a0 i1 i2 I r h
  unfold f43_b24 at h
  refine go_ops aMi43 1 _ (f1 := (25, ([(0, .ref a0), (1, .int i1), (2, .int i2)], [.int (0 : Int32)]))) rfl ?_
  exact Tf43_b25 hd a0 i1 i2 (0 : Int32) I _ h
def f43 (kad : Nat → Nat) (N : Nat) (Z : AZ) (a0 : Nat) (i1 : Int32) (i2 : Int32) (I : AI) : Option (Int32 × AI) :=
  if i1 < 0 then
    f43_b24 kad N Z a0 i1 i2 I
  else
    if (32 : Int32) ≤ i1 then
      f43_b24 kad N Z a0 i1 i2 I
    else
      if i2 < 0 then
        f43_b24 kad N Z a0 i1 i2 I
      else
        if (8 : Int32) ≤ i2 then
          f43_b24 kad N Z a0 i1 i2 I
        else
          f43_b25 kad N Z a0 i1 i2 (1 : Int32) I
set_option maxRecDepth 20000 in
theorem Tf43 {kad : Nat → Nat} {N : Nat} {Z : AZ} {d : Nat} {t : Option Nat × (Nat × Nat)} (hd : 0 ≤ d) : ∀ (a0 : Nat) (i1 : Int32) (i2 : Int32) (I : AI) (r : Int32 × AI), f43 kad N Z a0 i1 i2 I = some r → aGo kad d 43 (0, ([(0, .ref a0), (1, .int i1), (2, .int i2)], [])) (aMem Z I, t) (qI Z t r) := by
  intro a0 i1 i2 I r h
  unfold f43 at h
  refine go_ops aMi43 1 _ (f1 := (1, ([(0, .ref a0), (1, .int i1), (2, .int i2)], [.int i1]))) rfl ?_
  refine gg_br (b := decide (i1 < 0)) (tg := 24) (off := 23) aMi43 rfl rfl rfl rfl (fun hb => ?_) (fun hb => ?_)
  · rw [if_pos (of_decide_eq_true hb)] at h
    exact Tf43_b24 hd a0 i1 i2 I _ h
  · rw [if_neg (of_decide_eq_false hb)] at h
    refine go_ops aMi43 2 _ (f1 := (7, ([(0, .ref a0), (1, .int i1), (2, .int i2)], [.int (32 : Int32), .int i1]))) rfl ?_
    refine gg_br (b := decide ((32 : Int32) ≤ i1)) (tg := 24) (off := 17) aMi43 rfl rfl rfl rfl (fun hb => ?_) (fun hb => ?_)
    · rw [if_pos (of_decide_eq_true hb)] at h
      exact Tf43_b24 hd a0 i1 i2 I _ h
    · rw [if_neg (of_decide_eq_false hb)] at h
      refine go_ops aMi43 1 _ (f1 := (11, ([(0, .ref a0), (1, .int i1), (2, .int i2)], [.int i2]))) rfl ?_
      refine gg_br (b := decide (i2 < 0)) (tg := 24) (off := 13) aMi43 rfl rfl rfl rfl (fun hb => ?_) (fun hb => ?_)
      · rw [if_pos (of_decide_eq_true hb)] at h
        exact Tf43_b24 hd a0 i1 i2 I _ h
      · rw [if_neg (of_decide_eq_false hb)] at h
        refine go_ops aMi43 2 _ (f1 := (17, ([(0, .ref a0), (1, .int i1), (2, .int i2)], [.int (8 : Int32), .int i2]))) rfl ?_
        refine gg_br (b := decide ((8 : Int32) ≤ i2)) (tg := 24) (off := 7) aMi43 rfl rfl rfl rfl (fun hb => ?_) (fun hb => ?_)
        · rw [if_pos (of_decide_eq_true hb)] at h
          exact Tf43_b24 hd a0 i1 i2 I _ h
        · rw [if_neg (of_decide_eq_false hb)] at h
          refine go_ops aMi43 2 _ (f1 := (25, ([(0, .ref a0), (1, .int i1), (2, .int i2)], [.int (1 : Int32)]))) rfl ?_
          exact Tf43_b25 hd a0 i1 i2 (1 : Int32) I _ h
-- KernelGym$Disk.entryWord (II)I
def f50 (kad : Nat → Nat) (N : Nat) (Z : AZ) (a0 : Nat) (i1 : Int32) (i2 : Int32) (I : AI) : Option (Int32 × AI) :=
  (f48 kad N Z i1 I).bind fun r2_1 =>
  (f49 kad N Z i1 r2_1.2).bind fun r6_2 =>
  (isK Z a0 3).bind fun u11_3 =>
  (f43 kad N Z a0 r2_1.1 (r6_2.1 + i2) r6_2.2).bind fun r11_4 =>
  some (r11_4.1, r11_4.2)
set_option maxRecDepth 20000 in
theorem Tf50 {kad : Nat → Nat} {N : Nat} {Z : AZ} {d : Nat} {t : Option Nat × (Nat × Nat)} (hd : 1 ≤ d) : ∀ (a0 : Nat) (i1 : Int32) (i2 : Int32) (I : AI) (r : Int32 × AI), f50 kad N Z a0 i1 i2 I = some r → aGo kad d 50 (0, ([(0, .ref a0), (1, .int i1), (2, .int i2)], [])) (aMem Z I, t) (qI Z t r) := by
  intro a0 i1 i2 I r h
  unfold f50 at h
  refine go_ops aMi50 2 _ (f1 := (2, ([(0, .ref a0), (1, .int i1), (2, .int i2)], [.int i1, .ref a0]))) rfl ?_
  obtain ⟨r2_1, hxr2_1, h⟩ := Option.bind_eq_some_iff.mp h
  refine gg_cs (as := [.int i1]) (r := [.ref a0]) aMi50 rfl rfl rfl aMi48 rfl (Nat.le_of_ble_eq_true rfl) (Nat.le_of_ble_eq_true rfl) (by omega) (Tf48 (by omega) i1 I _ hxr2_1) ?_
  show aGo kad d 50 (5, ([(0, .ref a0), (1, .int i1), (2, .int i2)], [.int r2_1.1, .ref a0])) (aMem Z r2_1.2, t) _
  refine go_ops aMi50 1 _ (f1 := (6, ([(0, .ref a0), (1, .int i1), (2, .int i2)], [.int i1, .int r2_1.1, .ref a0]))) rfl ?_
  obtain ⟨r6_2, hxr6_2, h⟩ := Option.bind_eq_some_iff.mp h
  refine gg_cs (as := [.int i1]) (r := [.int r2_1.1, .ref a0]) aMi50 rfl rfl rfl aMi49 rfl (Nat.le_of_ble_eq_true rfl) (Nat.le_of_ble_eq_true rfl) (by omega) (Tf49 (by omega) i1 r2_1.2 _ hxr6_2) ?_
  show aGo kad d 50 (9, ([(0, .ref a0), (1, .int i1), (2, .int i2)], [.int r6_2.1, .int r2_1.1, .ref a0])) (aMem Z r6_2.2, t) _
  refine go_ops aMi50 2 _ (f1 := (11, ([(0, .ref a0), (1, .int i1), (2, .int i2)], [.int (r6_2.1 + i2), .int r2_1.1, .ref a0]))) rfl ?_
  obtain ⟨u11_3, hxu11_3, h⟩ := Option.bind_eq_some_iff.mp h
  obtain ⟨r11_4, hxr11_4, h⟩ := Option.bind_eq_some_iff.mp h
  refine gg_cv (as := [.int r2_1.1, .int (r6_2.1 + i2)]) (r := []) aMi50 rfl rfl rfl aMi43 (Nat.le_of_ble_eq_true rfl) rfl (Nat.le_of_ble_eq_true rfl) (Nat.le_of_ble_eq_true rfl) (by omega) hxu11_3 (Tf43 (by omega) a0 r2_1.1 (r6_2.1 + i2) r6_2.2 _ hxr11_4) ?_
  show aGo kad d 50 (14, ([(0, .ref a0), (1, .int i1), (2, .int i2)], [.int r11_4.1])) (aMem Z r11_4.2, t) _
  cases h
  exact go_ret aMi50 rfl aRetI ⟨rfl, rfl⟩
-- KernelGym$Disk.entryOf (I)I
def f51_b2 (kad : Nat → Nat) (N : Nat) (Z : AZ) : Nat → Nat → Int32 → Int32 → AI → Option (Int32 × AI)
  | 0, _, _, _, _ => none
  | F + 1, a0, i1, i2, I =>
    if (6 : Int32) ≤ i2 then
      some ((Int32.ofInt (-1)), I)
    else
      (isK Z a0 3).bind fun u11_1 =>
      (f50 kad N Z a0 i2 (0 : Int32) I).bind fun r11_2 =>
      if ¬ r11_2.1 = i1 then
        f51_b2 kad N Z F a0 i1 (i2 + (1 : Int32)) r11_2.2
      else
        some (i2, r11_2.2)
set_option maxRecDepth 20000 in
theorem Tf51_b2 {kad : Nat → Nat} {N : Nat} {Z : AZ} {d : Nat} {t : Option Nat × (Nat × Nat)} (hd : 2 ≤ d) : ∀ (F : Nat) (a0 : Nat) (i1 : Int32) (i2 : Int32) (I : AI) (r : Int32 × AI), f51_b2 kad N Z F a0 i1 i2 I = some r → aGo kad d 51 (2, ([(0, .ref a0), (1, .int i1), (2, .int i2)], [])) (aMem Z I, t) (qI Z t r) := by
  intro F
  induction F with
  | zero => intro a0 i1 i2 I r h; cases h
  | succ F ih =>
    intro a0 i1 i2 I r h
    unfold f51_b2 at h
    refine go_ops aMi51 2 _ (f1 := (5, ([(0, .ref a0), (1, .int i1), (2, .int i2)], [.int (6 : Int32), .int i2]))) rfl ?_
    refine gg_br (b := decide ((6 : Int32) ≤ i2)) (tg := 26) (off := 21) aMi51 rfl rfl rfl rfl (fun hb => ?_) (fun hb => ?_)
    · rw [if_pos (of_decide_eq_true hb)] at h
      refine go_ops aMi51 1 _ (f1 := (27, ([(0, .ref a0), (1, .int i1), (2, .int i2)], [.int (Int32.ofInt (-1))]))) rfl ?_
      cases h
      exact go_ret aMi51 rfl aRetI ⟨rfl, rfl⟩
    · rw [if_neg (of_decide_eq_false hb)] at h
      refine go_ops aMi51 3 _ (f1 := (11, ([(0, .ref a0), (1, .int i1), (2, .int i2)], [.int (0 : Int32), .int i2, .ref a0]))) rfl ?_
      obtain ⟨u11_1, hxu11_1, h⟩ := Option.bind_eq_some_iff.mp h
      obtain ⟨r11_2, hxr11_2, h⟩ := Option.bind_eq_some_iff.mp h
      refine gg_cv (as := [.int i2, .int (0 : Int32)]) (r := []) aMi51 rfl rfl rfl aMi50 (Nat.le_of_ble_eq_true rfl) rfl (Nat.le_of_ble_eq_true rfl) (Nat.le_of_ble_eq_true rfl) (by omega) hxu11_1 (Tf50 (by omega) a0 i2 (0 : Int32) I _ hxr11_2) ?_
      show aGo kad d 51 (14, ([(0, .ref a0), (1, .int i1), (2, .int i2)], [.int r11_2.1])) (aMem Z r11_2.2, t) _
      refine go_ops aMi51 1 _ (f1 := (15, ([(0, .ref a0), (1, .int i1), (2, .int i2)], [.int i1, .int r11_2.1]))) rfl ?_
      refine gg_br (b := decide (¬ r11_2.1 = i1)) (tg := 20) (off := 5) aMi51 rfl rfl rfl rfl (fun hb => ?_) (fun hb => ?_)
      · rw [if_pos (of_decide_eq_true hb)] at h
        refine go_ops aMi51 2 _ (f1 := (2, ([(2, .int (i2 + (1 : Int32))), (0, .ref a0), (1, .int i1)], []))) rfl ?_
        refine go_le (lv1 := [(0, .ref a0), (1, .int i1), (2, .int (i2 + (1 : Int32)))]) (aLe_of (show (List.map (fun q => q.1) ([(0, .ref a0), (1, .int i1), (2, .int (i2 + (1 : Int32)))] : ALv)).Nodup from (by show ([0, 1, 2] : List Nat).Nodup; decide)) (aSubL_cons rfl (aSubL_cons rfl (aSubL_cons rfl aSubL_nil)))) ?_
        exact ih a0 i1 (i2 + (1 : Int32)) r11_2.2 _ h
      · rw [if_neg (of_decide_eq_false hb)] at h
        refine go_ops aMi51 1 _ (f1 := (19, ([(0, .ref a0), (1, .int i1), (2, .int i2)], [.int i2]))) rfl ?_
        cases h
        exact go_ret aMi51 rfl aRetI ⟨rfl, rfl⟩
def f51 (kad : Nat → Nat) (N : Nat) (Z : AZ) (a0 : Nat) (i1 : Int32) (I : AI) : Option (Int32 × AI) :=
  f51_b2 kad N Z N a0 i1 (0 : Int32) I
set_option maxRecDepth 20000 in
theorem Tf51 {kad : Nat → Nat} {N : Nat} {Z : AZ} {d : Nat} {t : Option Nat × (Nat × Nat)} (hd : 2 ≤ d) : ∀ (a0 : Nat) (i1 : Int32) (I : AI) (r : Int32 × AI), f51 kad N Z a0 i1 I = some r → aGo kad d 51 (0, ([(0, .ref a0), (1, .int i1)], [])) (aMem Z I, t) (qI Z t r) := by
  intro a0 i1 I r h
  unfold f51 at h
  refine go_ops aMi51 2 _ (f1 := (2, ([(2, .int (0 : Int32)), (0, .ref a0), (1, .int i1)], []))) rfl ?_
  refine go_le (lv1 := [(0, .ref a0), (1, .int i1), (2, .int (0 : Int32))]) (aLe_of (show (List.map (fun q => q.1) ([(0, .ref a0), (1, .int i1), (2, .int (0 : Int32))] : ALv)).Nodup from (by show ([0, 1, 2] : List Nat).Nodup; decide)) (aSubL_cons rfl (aSubL_cons rfl (aSubL_cons rfl aSubL_nil)))) ?_
  exact Tf51_b2 hd N a0 i1 (0 : Int32) I _ h
-- KernelGym$Clerk.needsBlock (I)Z
def f28_b12 (kad : Nat → Nat) (N : Nat) (Z : AZ) (s0 : Int32) (I : AI) : Option (Int32 × AI) :=
  if s0 = 0 ∨ s0 = 1 then some (s0, I) else none
set_option maxRecDepth 20000 in
theorem Tf28_b12 {kad : Nat → Nat} {N : Nat} {Z : AZ} {d : Nat} {t : Option Nat × (Nat × Nat)} (hd : 0 ≤ d) : ∀ (s0 : Int32) (I : AI) (r : Int32 × AI), f28_b12 kad N Z s0 I = some r → aGo kad d 28 (12, ([], [.int s0])) (aMem Z I, t) (qI Z t r) := by
  intro s0 I r h
  unfold f28_b12 at h
  split at h
  · rename_i hz
    cases h
    exact go_ret aMi28 rfl (aRetZ hz) ⟨rfl, rfl⟩
  · cases h
def f28 (kad : Nat → Nat) (N : Nat) (Z : AZ) (i0 : Int32) (I : AI) : Option (Int32 × AI) :=
  if ¬ (i0 - i0 / (8 : Int32) * (8 : Int32)) = 0 then
    f28_b12 kad N Z (0 : Int32) I
  else
    f28_b12 kad N Z (1 : Int32) I
set_option maxRecDepth 20000 in
theorem Tf28 {kad : Nat → Nat} {N : Nat} {Z : AZ} {d : Nat} {t : Option Nat × (Nat × Nat)} (hd : 0 ≤ d) : ∀ (i0 : Int32) (I : AI) (r : Int32 × AI), f28 kad N Z i0 I = some r → aGo kad d 28 (0, ([(0, .int i0)], [])) (aMem Z I, t) (qI Z t r) := by
  intro i0 I r h
  unfold f28 at h
  refine go_ops aMi28 3 _ (f1 := (4, ([(0, .int i0)], [.int (i0 - i0 / (8 : Int32) * (8 : Int32))]))) rfl ?_
  refine gg_br (b := decide (¬ (i0 - i0 / (8 : Int32) * (8 : Int32)) = 0)) (tg := 11) (off := 7) aMi28 rfl rfl rfl rfl (fun hb => ?_) (fun hb => ?_)
  · rw [if_pos (of_decide_eq_true hb)] at h
    refine go_ops aMi28 1 _ (f1 := (12, ([(0, .int i0)], [.int (0 : Int32)]))) rfl ?_
    refine go_le (lv1 := []) (aLe_of (show (List.map (fun q => q.1) ([] : ALv)).Nodup from (by show ([] : List Nat).Nodup; decide)) aSubL_nil) ?_
    exact Tf28_b12 hd (0 : Int32) I _ h
  · rw [if_neg (of_decide_eq_false hb)] at h
    refine go_ops aMi28 2 _ (f1 := (12, ([(0, .int i0)], [.int (1 : Int32)]))) rfl ?_
    refine go_le (lv1 := []) (aLe_of (show (List.map (fun q => q.1) ([] : ALv)).Nodup from (by show ([] : List Nat).Nodup; decide)) aSubL_nil) ?_
    exact Tf28_b12 hd (1 : Int32) I _ h
-- KernelGym$Disk.usedBlocks ()J
def f55 (kad : Nat → Nat) (N : Nat) (Z : AZ) (a0 : Nat) (I : AI) : Option (Int64 × AI) :=
  (isK Z a0 3).bind fun u3_1 =>
  (f43 kad N Z a0 (4 : Int32) (0 : Int32) I).bind fun r3_2 =>
  (isK Z a0 3).bind fun u10_3 =>
  (f43 kad N Z a0 (4 : Int32) (1 : Int32) r3_2.2).bind fun r10_4 =>
  some (((r3_2.1.toInt64) ||| ((r10_4.1.toInt64) <<< ((16 : Int32).toInt64 &&& 63))), r10_4.2)
set_option maxRecDepth 20000 in
theorem Tf55 {kad : Nat → Nat} {N : Nat} {Z : AZ} {d : Nat} {t : Option Nat × (Nat × Nat)} (hd : 1 ≤ d) : ∀ (a0 : Nat) (I : AI) (r : Int64 × AI), f55 kad N Z a0 I = some r → aGo kad d 55 (0, ([(0, .ref a0)], [])) (aMem Z I, t) (qJ Z t r) := by
  intro a0 I r h
  unfold f55 at h
  refine go_ops aMi55 3 _ (f1 := (3, ([(0, .ref a0)], [.int (0 : Int32), .int (4 : Int32), .ref a0]))) rfl ?_
  obtain ⟨u3_1, hxu3_1, h⟩ := Option.bind_eq_some_iff.mp h
  obtain ⟨r3_2, hxr3_2, h⟩ := Option.bind_eq_some_iff.mp h
  refine gg_cv (as := [.int (4 : Int32), .int (0 : Int32)]) (r := []) aMi55 rfl rfl rfl aMi43 (Nat.le_of_ble_eq_true rfl) rfl (Nat.le_of_ble_eq_true rfl) (Nat.le_of_ble_eq_true rfl) (by omega) hxu3_1 (Tf43 (by omega) a0 (4 : Int32) (0 : Int32) I _ hxr3_2) ?_
  show aGo kad d 55 (6, ([(0, .ref a0)], [.int r3_2.1])) (aMem Z r3_2.2, t) _
  refine go_ops aMi55 4 _ (f1 := (10, ([(0, .ref a0)], [.int (1 : Int32), .int (4 : Int32), .ref a0, .long (r3_2.1.toInt64)]))) rfl ?_
  obtain ⟨u10_3, hxu10_3, h⟩ := Option.bind_eq_some_iff.mp h
  obtain ⟨r10_4, hxr10_4, h⟩ := Option.bind_eq_some_iff.mp h
  refine gg_cv (as := [.int (4 : Int32), .int (1 : Int32)]) (r := [.long (r3_2.1.toInt64)]) aMi55 rfl rfl rfl aMi43 (Nat.le_of_ble_eq_true rfl) rfl (Nat.le_of_ble_eq_true rfl) (Nat.le_of_ble_eq_true rfl) (by omega) hxu10_3 (Tf43 (by omega) a0 (4 : Int32) (1 : Int32) r3_2.2 _ hxr10_4) ?_
  show aGo kad d 55 (13, ([(0, .ref a0)], [.int r10_4.1, .long (r3_2.1.toInt64)])) (aMem Z r10_4.2, t) _
  refine go_ops aMi55 4 _ (f1 := (18, ([(0, .ref a0)], [.long ((r3_2.1.toInt64) ||| ((r10_4.1.toInt64) <<< ((16 : Int32).toInt64 &&& 63)))]))) rfl ?_
  cases h
  exact go_ret aMi55 rfl rfl ⟨rfl, rfl⟩
-- KernelGym$Disk.firstFreeBlock ()I
def f56_b8 (kad : Nat → Nat) (N : Nat) (Z : AZ) : Nat → Int64 → Int32 → AI → Option (Int32 × AI)
  | 0, _, _, _ => none
  | F + 1, l1, i3, I =>
    if (32 : Int32) ≤ i3 then
      some ((Int32.ofInt (-1)), I)
    else
      if ¬ (lg_cmp ((l1 >>> (i3.toInt64 &&& 63)) &&& (1 : Int64)) (0 : Int64)) = 0 then
        f56_b8 kad N Z F l1 (i3 + (1 : Int32)) I
      else
        some (i3, I)
set_option maxRecDepth 20000 in
theorem Tf56_b8 {kad : Nat → Nat} {N : Nat} {Z : AZ} {d : Nat} {t : Option Nat × (Nat × Nat)} (hd : 2 ≤ d) : ∀ (F : Nat) (l1 : Int64) (i3 : Int32) (I : AI) (r : Int32 × AI), f56_b8 kad N Z F l1 i3 I = some r → aGo kad d 56 (8, ([(1, .long l1), (3, .int i3)], [])) (aMem Z I, t) (qI Z t r) := by
  intro F
  induction F with
  | zero => intro l1 i3 I r h; cases h
  | succ F ih =>
    intro l1 i3 I r h
    unfold f56_b8 at h
    refine go_ops aMi56 2 _ (f1 := (11, ([(1, .long l1), (3, .int i3)], [.int (32 : Int32), .int i3]))) rfl ?_
    refine gg_br (b := decide ((32 : Int32) ≤ i3)) (tg := 32) (off := 21) aMi56 rfl rfl rfl rfl (fun hb => ?_) (fun hb => ?_)
    · rw [if_pos (of_decide_eq_true hb)] at h
      refine go_ops aMi56 1 _ (f1 := (33, ([(1, .long l1), (3, .int i3)], [.int (Int32.ofInt (-1))]))) rfl ?_
      cases h
      exact go_ret aMi56 rfl aRetI ⟨rfl, rfl⟩
    · rw [if_neg (of_decide_eq_false hb)] at h
      refine go_ops aMi56 7 _ (f1 := (21, ([(1, .long l1), (3, .int i3)], [.int (lg_cmp ((l1 >>> (i3.toInt64 &&& 63)) &&& (1 : Int64)) (0 : Int64))]))) rfl ?_
      refine gg_br (b := decide (¬ (lg_cmp ((l1 >>> (i3.toInt64 &&& 63)) &&& (1 : Int64)) (0 : Int64)) = 0)) (tg := 26) (off := 5) aMi56 rfl rfl rfl rfl (fun hb => ?_) (fun hb => ?_)
      · rw [if_pos (of_decide_eq_true hb)] at h
        refine go_ops aMi56 2 _ (f1 := (8, ([(3, .int (i3 + (1 : Int32))), (1, .long l1)], []))) rfl ?_
        refine go_le (lv1 := [(1, .long l1), (3, .int (i3 + (1 : Int32)))]) (aLe_of (show (List.map (fun q => q.1) ([(1, .long l1), (3, .int (i3 + (1 : Int32)))] : ALv)).Nodup from (by show ([1, 3] : List Nat).Nodup; decide)) (aSubL_cons rfl (aSubL_cons rfl aSubL_nil))) ?_
        exact ih l1 (i3 + (1 : Int32)) I _ h
      · rw [if_neg (of_decide_eq_false hb)] at h
        refine go_ops aMi56 1 _ (f1 := (25, ([(1, .long l1), (3, .int i3)], [.int i3]))) rfl ?_
        cases h
        exact go_ret aMi56 rfl aRetI ⟨rfl, rfl⟩
def f56 (kad : Nat → Nat) (N : Nat) (Z : AZ) (a0 : Nat) (I : AI) : Option (Int32 × AI) :=
  (isK Z a0 3).bind fun u1_1 =>
  (f55 kad N Z a0 I).bind fun r1_2 =>
  f56_b8 kad N Z N r1_2.1 (8 : Int32) r1_2.2
set_option maxRecDepth 20000 in
theorem Tf56 {kad : Nat → Nat} {N : Nat} {Z : AZ} {d : Nat} {t : Option Nat × (Nat × Nat)} (hd : 2 ≤ d) : ∀ (a0 : Nat) (I : AI) (r : Int32 × AI), f56 kad N Z a0 I = some r → aGo kad d 56 (0, ([(0, .ref a0)], [])) (aMem Z I, t) (qI Z t r) := by
  intro a0 I r h
  unfold f56 at h
  refine go_ops aMi56 1 _ (f1 := (1, ([(0, .ref a0)], [.ref a0]))) rfl ?_
  obtain ⟨u1_1, hxu1_1, h⟩ := Option.bind_eq_some_iff.mp h
  obtain ⟨r1_2, hxr1_2, h⟩ := Option.bind_eq_some_iff.mp h
  refine gg_cv (as := []) (r := []) aMi56 rfl rfl rfl aMi55 (Nat.le_of_ble_eq_true rfl) rfl (Nat.le_of_ble_eq_true rfl) (Nat.le_of_ble_eq_true rfl) (by omega) hxu1_1 (Tf55 (by omega) a0 I _ hxr1_2) ?_
  show aGo kad d 56 (4, ([(0, .ref a0)], [.long r1_2.1])) (aMem Z r1_2.2, t) _
  refine go_ops aMi56 3 _ (f1 := (8, ([(3, .int (8 : Int32)), (1, .long r1_2.1), (0, .ref a0)], []))) rfl ?_
  refine go_le (lv1 := [(1, .long r1_2.1), (3, .int (8 : Int32))]) (aLe_of (show (List.map (fun q => q.1) ([(1, .long r1_2.1), (3, .int (8 : Int32))] : ALv)).Nodup from (by show ([1, 3] : List Nat).Nodup; decide)) (aSubL_cons rfl (aSubL_cons rfl aSubL_nil))) ?_
  exact Tf56_b8 hd N r1_2.1 (8 : Int32) r1_2.2 _ h
-- KernelGym$Clerk.refuse (IILKernelGym$Core;LKernelGym$Disk;)I
def f27_b34 (kad : Nat → Nat) (N : Nat) (Z : AZ) (s0 : Int32) (I : AI) : Option (Int32 × AI) :=
  some (s0, I)
set_option maxRecDepth 20000 in
theorem Tf27_b34 {kad : Nat → Nat} {N : Nat} {Z : AZ} {d : Nat} {t : Option Nat × (Nat × Nat)} (hd : 3 ≤ d) : ∀ (s0 : Int32) (I : AI) (r : Int32 × AI), f27_b34 kad N Z s0 I = some r → aGo kad d 27 (34, ([], [.int s0])) (aMem Z I, t) (qI Z t r) := by
  intro s0 I r h
  unfold f27_b34 at h
  cases h
  exact go_ret aMi27 rfl aRetI ⟨rfl, rfl⟩
def f27_b17 (kad : Nat → Nat) (N : Nat) (Z : AZ)  (I : AI) : Option (Int32 × AI) :=
  f27_b34 kad N Z (1 : Int32) I
set_option maxRecDepth 20000 in
theorem Tf27_b17 {kad : Nat → Nat} {N : Nat} {Z : AZ} {d : Nat} {t : Option Nat × (Nat × Nat)} (hd : 3 ≤ d) : ∀  (I : AI) (r : Int32 × AI), f27_b17 kad N Z  I = some r → aGo kad d 27 (17, ([], [])) (aMem Z I, t) (qI Z t r) := by
  intro  I r h
  unfold f27_b17 at h
  refine go_ops aMi27 2 _ (f1 := (34, ([], [.int (1 : Int32)]))) rfl ?_
  exact Tf27_b34 hd (1 : Int32) I _ h
def f27_b54 (kad : Nat → Nat) (N : Nat) (Z : AZ)  (I : AI) : Option (Int32 × AI) :=
  some ((1 : Int32), I)
set_option maxRecDepth 20000 in
theorem Tf27_b54 {kad : Nat → Nat} {N : Nat} {Z : AZ} {d : Nat} {t : Option Nat × (Nat × Nat)} (hd : 3 ≤ d) : ∀  (I : AI) (r : Int32 × AI), f27_b54 kad N Z  I = some r → aGo kad d 27 (54, ([], [])) (aMem Z I, t) (qI Z t r) := by
  intro  I r h
  unfold f27_b54 at h
  refine go_ops aMi27 1 _ (f1 := (55, ([], [.int (1 : Int32)]))) rfl ?_
  cases h
  exact go_ret aMi27 rfl aRetI ⟨rfl, rfl⟩
def f27_b100 (kad : Nat → Nat) (N : Nat) (Z : AZ) (s0 : Int32) (I : AI) : Option (Int32 × AI) :=
  some (s0, I)
set_option maxRecDepth 20000 in
theorem Tf27_b100 {kad : Nat → Nat} {N : Nat} {Z : AZ} {d : Nat} {t : Option Nat × (Nat × Nat)} (hd : 3 ≤ d) : ∀ (s0 : Int32) (I : AI) (r : Int32 × AI), f27_b100 kad N Z s0 I = some r → aGo kad d 27 (100, ([], [.int s0])) (aMem Z I, t) (qI Z t r) := by
  intro s0 I r h
  unfold f27_b100 at h
  cases h
  exact go_ret aMi27 rfl aRetI ⟨rfl, rfl⟩
def f27_b99 (kad : Nat → Nat) (N : Nat) (Z : AZ)  (I : AI) : Option (Int32 × AI) :=
  f27_b100 kad N Z (0 : Int32) I
set_option maxRecDepth 20000 in
theorem Tf27_b99 {kad : Nat → Nat} {N : Nat} {Z : AZ} {d : Nat} {t : Option Nat × (Nat × Nat)} (hd : 3 ≤ d) : ∀  (I : AI) (r : Int32 × AI), f27_b99 kad N Z  I = some r → aGo kad d 27 (99, ([], [])) (aMem Z I, t) (qI Z t r) := by
  intro  I r h
  unfold f27_b99 at h
  refine go_ops aMi27 1 _ (f1 := (100, ([], [.int (0 : Int32)]))) rfl ?_
  exact Tf27_b100 hd (0 : Int32) I _ h
def f27_b127 (kad : Nat → Nat) (N : Nat) (Z : AZ) (s0 : Int32) (I : AI) : Option (Int32 × AI) :=
  some (s0, I)
set_option maxRecDepth 20000 in
theorem Tf27_b127 {kad : Nat → Nat} {N : Nat} {Z : AZ} {d : Nat} {t : Option Nat × (Nat × Nat)} (hd : 3 ≤ d) : ∀ (s0 : Int32) (I : AI) (r : Int32 × AI), f27_b127 kad N Z s0 I = some r → aGo kad d 27 (127, ([], [.int s0])) (aMem Z I, t) (qI Z t r) := by
  intro s0 I r h
  unfold f27_b127 at h
  cases h
  exact go_ret aMi27 rfl aRetI ⟨rfl, rfl⟩
def f27_b126 (kad : Nat → Nat) (N : Nat) (Z : AZ)  (I : AI) : Option (Int32 × AI) :=
  f27_b127 kad N Z (0 : Int32) I
set_option maxRecDepth 20000 in
theorem Tf27_b126 {kad : Nat → Nat} {N : Nat} {Z : AZ} {d : Nat} {t : Option Nat × (Nat × Nat)} (hd : 3 ≤ d) : ∀  (I : AI) (r : Int32 × AI), f27_b126 kad N Z  I = some r → aGo kad d 27 (126, ([], [])) (aMem Z I, t) (qI Z t r) := by
  intro  I r h
  unfold f27_b126 at h
  refine go_ops aMi27 1 _ (f1 := (127, ([], [.int (0 : Int32)]))) rfl ?_
  exact Tf27_b127 hd (0 : Int32) I _ h
def f27_b111 (kad : Nat → Nat) (N : Nat) (Z : AZ) (a2 : Nat) (i4 : Int32) (I : AI) : Option (Int32 × AI) :=
  (gR Z I 2 14 a2).bind fun b112_1 =>
  (lI Z I 100 b112_1 (1 : Int32)).bind fun x116_2 =>
  if x116_2 < i4 then
    f27_b126 kad N Z  I
  else
    f27_b127 kad N Z (2 : Int32) I
set_option maxRecDepth 20000 in
theorem Tf27_b111 {kad : Nat → Nat} {N : Nat} {Z : AZ} {d : Nat} {t : Option Nat × (Nat × Nat)} (hd : 3 ≤ d) : ∀ (a2 : Nat) (i4 : Int32) (I : AI) (r : Int32 × AI), f27_b111 kad N Z a2 i4 I = some r → aGo kad d 27 (111, ([(2, .ref a2), (4, .int i4)], [])) (aMem Z I, t) (qI Z t r) := by
  intro a2 i4 I r h
  unfold f27_b111 at h
  refine go_ops aMi27 1 _ (f1 := (112, ([(2, .ref a2), (4, .int i4)], [.ref a2]))) rfl ?_
  obtain ⟨b112_1, hxb112_1, h⟩ := Option.bind_eq_some_iff.mp h
  refine gg_gR aMi27 rfl rfl rfl hxb112_1 ?_
  refine go_ops aMi27 1 _ (f1 := (116, ([(2, .ref a2), (4, .int i4)], [.int (1 : Int32), .ref b112_1]))) rfl ?_
  obtain ⟨x116_2, hxx116_2, h⟩ := Option.bind_eq_some_iff.mp h
  refine gg_lI (Or.inl ⟨rfl, rfl⟩) aMi27 rfl hxx116_2 ?_
  refine go_ops aMi27 1 _ (f1 := (119, ([(2, .ref a2), (4, .int i4)], [.int i4, .int x116_2]))) rfl ?_
  refine gg_br (b := decide (x116_2 < i4)) (tg := 126) (off := 7) aMi27 rfl rfl rfl rfl (fun hb => ?_) (fun hb => ?_)
  · rw [if_pos (of_decide_eq_true hb)] at h
    refine go_le (lv1 := []) (aLe_of (show (List.map (fun q => q.1) ([] : ALv)).Nodup from (by show ([] : List Nat).Nodup; decide)) aSubL_nil) ?_
    exact Tf27_b126 hd  I _ h
  · rw [if_neg (of_decide_eq_false hb)] at h
    refine go_ops aMi27 2 _ (f1 := (127, ([(2, .ref a2), (4, .int i4)], [.int (2 : Int32)]))) rfl ?_
    refine go_le (lv1 := []) (aLe_of (show (List.map (fun q => q.1) ([] : ALv)).Nodup from (by show ([] : List Nat).Nodup; decide)) aSubL_nil) ?_
    exact Tf27_b127 hd (2 : Int32) I _ h
def f27_b56 (kad : Nat → Nat) (N : Nat) (Z : AZ) (i0 : Int32) (i1 : Int32) (a2 : Nat) (a3 : Nat) (I : AI) : Option (Int32 × AI) :=
  (isK Z a3 3).bind fun u59_1 =>
  (f50 kad N Z a3 i1 (1 : Int32) I).bind fun r59_2 =>
  if ¬ i0 = (1 : Int32) then
    if i0 = (2 : Int32) then
      f27_b111 kad N Z a2 r59_2.1 r59_2.2
    else
      if ¬ i0 = (3 : Int32) then
        f27_b126 kad N Z  r59_2.2
      else
        f27_b111 kad N Z a2 r59_2.1 r59_2.2
  else
    if r59_2.1 < (16 : Int32) then
      (f28 kad N Z r59_2.1 r59_2.2).bind fun r82_3 =>
      if r82_3.1 = 0 then
        f27_b99 kad N Z  r82_3.2
      else
        (isK Z a3 3).bind fun u89_4 =>
        (f56 kad N Z a3 r82_3.2).bind fun r89_5 =>
        if 0 ≤ r89_5.1 then
          f27_b99 kad N Z  r89_5.2
        else
          f27_b100 kad N Z (3 : Int32) r89_5.2
    else
      f27_b100 kad N Z (2 : Int32) r59_2.2
set_option maxRecDepth 20000 in
theorem Tf27_b56 {kad : Nat → Nat} {N : Nat} {Z : AZ} {d : Nat} {t : Option Nat × (Nat × Nat)} (hd : 3 ≤ d) : ∀ (i0 : Int32) (i1 : Int32) (a2 : Nat) (a3 : Nat) (I : AI) (r : Int32 × AI), f27_b56 kad N Z i0 i1 a2 a3 I = some r → aGo kad d 27 (56, ([(0, .int i0), (1, .int i1), (2, .ref a2), (3, .ref a3)], [])) (aMem Z I, t) (qI Z t r) := by
  intro i0 i1 a2 a3 I r h
  unfold f27_b56 at h
  refine go_ops aMi27 3 _ (f1 := (59, ([(0, .int i0), (1, .int i1), (2, .ref a2), (3, .ref a3)], [.int (1 : Int32), .int i1, .ref a3]))) rfl ?_
  obtain ⟨u59_1, hxu59_1, h⟩ := Option.bind_eq_some_iff.mp h
  obtain ⟨r59_2, hxr59_2, h⟩ := Option.bind_eq_some_iff.mp h
  refine gg_cv (as := [.int i1, .int (1 : Int32)]) (r := []) aMi27 rfl rfl rfl aMi50 (Nat.le_of_ble_eq_true rfl) rfl (Nat.le_of_ble_eq_true rfl) (Nat.le_of_ble_eq_true rfl) (by omega) hxu59_1 (Tf50 (by omega) a3 i1 (1 : Int32) I _ hxr59_2) ?_
  show aGo kad d 27 (62, ([(0, .int i0), (1, .int i1), (2, .ref a2), (3, .ref a3)], [.int r59_2.1])) (aMem Z r59_2.2, t) _
  refine go_ops aMi27 3 _ (f1 := (66, ([(4, .int r59_2.1), (0, .int i0), (1, .int i1), (2, .ref a2), (3, .ref a3)], [.int (1 : Int32), .int i0]))) rfl ?_
  refine gg_br (b := decide (¬ i0 = (1 : Int32))) (tg := 101) (off := 35) aMi27 rfl rfl rfl rfl (fun hb => ?_) (fun hb => ?_)
  · rw [if_pos (of_decide_eq_true hb)] at h
    refine go_ops aMi27 2 _ (f1 := (103, ([(4, .int r59_2.1), (0, .int i0), (1, .int i1), (2, .ref a2), (3, .ref a3)], [.int (2 : Int32), .int i0]))) rfl ?_
    refine gg_br (b := decide (i0 = (2 : Int32))) (tg := 111) (off := 8) aMi27 rfl rfl rfl rfl (fun hb => ?_) (fun hb => ?_)
    · rw [if_pos (of_decide_eq_true hb)] at h
      refine go_le (lv1 := [(2, .ref a2), (4, .int r59_2.1)]) (aLe_of (show (List.map (fun q => q.1) ([(2, .ref a2), (4, .int r59_2.1)] : ALv)).Nodup from (by show ([2, 4] : List Nat).Nodup; decide)) (aSubL_cons rfl (aSubL_cons rfl aSubL_nil))) ?_
      exact Tf27_b111 hd a2 r59_2.1 r59_2.2 _ h
    · rw [if_neg (of_decide_eq_false hb)] at h
      refine go_ops aMi27 2 _ (f1 := (108, ([(4, .int r59_2.1), (0, .int i0), (1, .int i1), (2, .ref a2), (3, .ref a3)], [.int (3 : Int32), .int i0]))) rfl ?_
      refine gg_br (b := decide (¬ i0 = (3 : Int32))) (tg := 126) (off := 18) aMi27 rfl rfl rfl rfl (fun hb => ?_) (fun hb => ?_)
      · rw [if_pos (of_decide_eq_true hb)] at h
        refine go_le (lv1 := []) (aLe_of (show (List.map (fun q => q.1) ([] : ALv)).Nodup from (by show ([] : List Nat).Nodup; decide)) aSubL_nil) ?_
        exact Tf27_b126 hd  r59_2.2 _ h
      · rw [if_neg (of_decide_eq_false hb)] at h
        refine go_le (lv1 := [(2, .ref a2), (4, .int r59_2.1)]) (aLe_of (show (List.map (fun q => q.1) ([(2, .ref a2), (4, .int r59_2.1)] : ALv)).Nodup from (by show ([2, 4] : List Nat).Nodup; decide)) (aSubL_cons rfl (aSubL_cons rfl aSubL_nil))) ?_
        exact Tf27_b111 hd a2 r59_2.1 r59_2.2 _ h
  · rw [if_neg (of_decide_eq_false hb)] at h
    refine go_ops aMi27 2 _ (f1 := (73, ([(4, .int r59_2.1), (0, .int i0), (1, .int i1), (2, .ref a2), (3, .ref a3)], [.int (16 : Int32), .int r59_2.1]))) rfl ?_
    refine gg_br (b := decide (r59_2.1 < (16 : Int32))) (tg := 80) (off := 7) aMi27 rfl rfl rfl rfl (fun hb => ?_) (fun hb => ?_)
    · rw [if_pos (of_decide_eq_true hb)] at h
      refine go_ops aMi27 1 _ (f1 := (82, ([(4, .int r59_2.1), (0, .int i0), (1, .int i1), (2, .ref a2), (3, .ref a3)], [.int r59_2.1]))) rfl ?_
      obtain ⟨r82_3, hxr82_3, h⟩ := Option.bind_eq_some_iff.mp h
      refine gg_cs (as := [.int r59_2.1]) (r := []) aMi27 rfl rfl rfl aMi28 rfl (Nat.le_of_ble_eq_true rfl) (Nat.le_of_ble_eq_true rfl) (by omega) (Tf28 (by omega) r59_2.1 r59_2.2 _ hxr82_3) ?_
      show aGo kad d 27 (85, ([(4, .int r59_2.1), (0, .int i0), (1, .int i1), (2, .ref a2), (3, .ref a3)], [.int r82_3.1])) (aMem Z r82_3.2, t) _
      refine gg_br (b := decide (r82_3.1 = 0)) (tg := 99) (off := 14) aMi27 rfl rfl rfl rfl (fun hb => ?_) (fun hb => ?_)
      · rw [if_pos (of_decide_eq_true hb)] at h
        refine go_le (lv1 := []) (aLe_of (show (List.map (fun q => q.1) ([] : ALv)).Nodup from (by show ([] : List Nat).Nodup; decide)) aSubL_nil) ?_
        exact Tf27_b99 hd  r82_3.2 _ h
      · rw [if_neg (of_decide_eq_false hb)] at h
        refine go_ops aMi27 1 _ (f1 := (89, ([(4, .int r59_2.1), (0, .int i0), (1, .int i1), (2, .ref a2), (3, .ref a3)], [.ref a3]))) rfl ?_
        obtain ⟨u89_4, hxu89_4, h⟩ := Option.bind_eq_some_iff.mp h
        obtain ⟨r89_5, hxr89_5, h⟩ := Option.bind_eq_some_iff.mp h
        refine gg_cv (as := []) (r := []) aMi27 rfl rfl rfl aMi56 (Nat.le_of_ble_eq_true rfl) rfl (Nat.le_of_ble_eq_true rfl) (Nat.le_of_ble_eq_true rfl) (by omega) hxu89_4 (Tf56 (by omega) a3 r82_3.2 _ hxr89_5) ?_
        show aGo kad d 27 (92, ([(4, .int r59_2.1), (0, .int i0), (1, .int i1), (2, .ref a2), (3, .ref a3)], [.int r89_5.1])) (aMem Z r89_5.2, t) _
        refine gg_br (b := decide (0 ≤ r89_5.1)) (tg := 99) (off := 7) aMi27 rfl rfl rfl rfl (fun hb => ?_) (fun hb => ?_)
        · rw [if_pos (of_decide_eq_true hb)] at h
          refine go_le (lv1 := []) (aLe_of (show (List.map (fun q => q.1) ([] : ALv)).Nodup from (by show ([] : List Nat).Nodup; decide)) aSubL_nil) ?_
          exact Tf27_b99 hd  r89_5.2 _ h
        · rw [if_neg (of_decide_eq_false hb)] at h
          refine go_ops aMi27 2 _ (f1 := (100, ([(4, .int r59_2.1), (0, .int i0), (1, .int i1), (2, .ref a2), (3, .ref a3)], [.int (3 : Int32)]))) rfl ?_
          refine go_le (lv1 := []) (aLe_of (show (List.map (fun q => q.1) ([] : ALv)).Nodup from (by show ([] : List Nat).Nodup; decide)) aSubL_nil) ?_
          exact Tf27_b100 hd (3 : Int32) r89_5.2 _ h
    · rw [if_neg (of_decide_eq_false hb)] at h
      refine go_ops aMi27 2 _ (f1 := (100, ([(4, .int r59_2.1), (0, .int i0), (1, .int i1), (2, .ref a2), (3, .ref a3)], [.int (2 : Int32)]))) rfl ?_
      refine go_le (lv1 := []) (aLe_of (show (List.map (fun q => q.1) ([] : ALv)).Nodup from (by show ([] : List Nat).Nodup; decide)) aSubL_nil) ?_
      exact Tf27_b100 hd (2 : Int32) r59_2.2 _ h
def f27 (kad : Nat → Nat) (N : Nat) (Z : AZ) (i0 : Int32) (i1 : Int32) (a2 : Nat) (a3 : Nat) (I : AI) : Option (Int32 × AI) :=
  if ¬ i0 = 0 then
    if i1 < 0 then
      f27_b54 kad N Z  I
    else
      if ¬ i0 = (6 : Int32) then
        f27_b56 kad N Z i0 i1 a2 a3 I
      else
        (gR Z I 2 14 a2).bind fun b46_1 =>
        (lI Z I 100 b46_1 (1 : Int32)).bind fun x50_2 =>
        if ¬ x50_2 = 0 then
          f27_b56 kad N Z i0 i1 a2 a3 I
        else
          f27_b54 kad N Z  I
  else
    if 0 ≤ i1 then
      f27_b17 kad N Z  I
    else
      (gR Z I 2 14 a2).bind fun b9_3 =>
      (lI Z I 100 b9_3 (0 : Int32)).bind fun x13_4 =>
      if ¬ x13_4 = 0 then
        (isK Z a3 3).bind fun u23_5 =>
        (f51 kad N Z a3 (0 : Int32) I).bind fun r23_6 =>
        if 0 ≤ r23_6.1 then
          f27_b34 kad N Z (0 : Int32) r23_6.2
        else
          f27_b34 kad N Z (2 : Int32) r23_6.2
      else
        f27_b17 kad N Z  I
set_option maxRecDepth 20000 in
theorem Tf27 {kad : Nat → Nat} {N : Nat} {Z : AZ} {d : Nat} {t : Option Nat × (Nat × Nat)} (hd : 3 ≤ d) : ∀ (i0 : Int32) (i1 : Int32) (a2 : Nat) (a3 : Nat) (I : AI) (r : Int32 × AI), f27 kad N Z i0 i1 a2 a3 I = some r → aGo kad d 27 (0, ([(0, .int i0), (1, .int i1), (2, .ref a2), (3, .ref a3)], [])) (aMem Z I, t) (qI Z t r) := by
  intro i0 i1 a2 a3 I r h
  unfold f27 at h
  refine go_ops aMi27 1 _ (f1 := (1, ([(0, .int i0), (1, .int i1), (2, .ref a2), (3, .ref a3)], [.int i0]))) rfl ?_
  refine gg_br (b := decide (¬ i0 = 0)) (tg := 35) (off := 34) aMi27 rfl rfl rfl rfl (fun hb => ?_) (fun hb => ?_)
  · rw [if_pos (of_decide_eq_true hb)] at h
    refine go_ops aMi27 1 _ (f1 := (36, ([(0, .int i0), (1, .int i1), (2, .ref a2), (3, .ref a3)], [.int i1]))) rfl ?_
    refine gg_br (b := decide (i1 < 0)) (tg := 54) (off := 18) aMi27 rfl rfl rfl rfl (fun hb => ?_) (fun hb => ?_)
    · rw [if_pos (of_decide_eq_true hb)] at h
      refine go_le (lv1 := []) (aLe_of (show (List.map (fun q => q.1) ([] : ALv)).Nodup from (by show ([] : List Nat).Nodup; decide)) aSubL_nil) ?_
      exact Tf27_b54 hd  I _ h
    · rw [if_neg (of_decide_eq_false hb)] at h
      refine go_ops aMi27 2 _ (f1 := (42, ([(0, .int i0), (1, .int i1), (2, .ref a2), (3, .ref a3)], [.int (6 : Int32), .int i0]))) rfl ?_
      refine gg_br (b := decide (¬ i0 = (6 : Int32))) (tg := 56) (off := 14) aMi27 rfl rfl rfl rfl (fun hb => ?_) (fun hb => ?_)
      · rw [if_pos (of_decide_eq_true hb)] at h
        exact Tf27_b56 hd i0 i1 a2 a3 I _ h
      · rw [if_neg (of_decide_eq_false hb)] at h
        refine go_ops aMi27 1 _ (f1 := (46, ([(0, .int i0), (1, .int i1), (2, .ref a2), (3, .ref a3)], [.ref a2]))) rfl ?_
        obtain ⟨b46_1, hxb46_1, h⟩ := Option.bind_eq_some_iff.mp h
        refine gg_gR aMi27 rfl rfl rfl hxb46_1 ?_
        refine go_ops aMi27 1 _ (f1 := (50, ([(0, .int i0), (1, .int i1), (2, .ref a2), (3, .ref a3)], [.int (1 : Int32), .ref b46_1]))) rfl ?_
        obtain ⟨x50_2, hxx50_2, h⟩ := Option.bind_eq_some_iff.mp h
        refine gg_lI (Or.inl ⟨rfl, rfl⟩) aMi27 rfl hxx50_2 ?_
        refine gg_br (b := decide (¬ x50_2 = 0)) (tg := 56) (off := 5) aMi27 rfl rfl rfl rfl (fun hb => ?_) (fun hb => ?_)
        · rw [if_pos (of_decide_eq_true hb)] at h
          exact Tf27_b56 hd i0 i1 a2 a3 I _ h
        · rw [if_neg (of_decide_eq_false hb)] at h
          refine go_le (lv1 := []) (aLe_of (show (List.map (fun q => q.1) ([] : ALv)).Nodup from (by show ([] : List Nat).Nodup; decide)) aSubL_nil) ?_
          exact Tf27_b54 hd  I _ h
  · rw [if_neg (of_decide_eq_false hb)] at h
    refine go_ops aMi27 1 _ (f1 := (5, ([(0, .int i0), (1, .int i1), (2, .ref a2), (3, .ref a3)], [.int i1]))) rfl ?_
    refine gg_br (b := decide (0 ≤ i1)) (tg := 17) (off := 12) aMi27 rfl rfl rfl rfl (fun hb => ?_) (fun hb => ?_)
    · rw [if_pos (of_decide_eq_true hb)] at h
      refine go_le (lv1 := []) (aLe_of (show (List.map (fun q => q.1) ([] : ALv)).Nodup from (by show ([] : List Nat).Nodup; decide)) aSubL_nil) ?_
      exact Tf27_b17 hd  I _ h
    · rw [if_neg (of_decide_eq_false hb)] at h
      refine go_ops aMi27 1 _ (f1 := (9, ([(0, .int i0), (1, .int i1), (2, .ref a2), (3, .ref a3)], [.ref a2]))) rfl ?_
      obtain ⟨b9_3, hxb9_3, h⟩ := Option.bind_eq_some_iff.mp h
      refine gg_gR aMi27 rfl rfl rfl hxb9_3 ?_
      refine go_ops aMi27 1 _ (f1 := (13, ([(0, .int i0), (1, .int i1), (2, .ref a2), (3, .ref a3)], [.int (0 : Int32), .ref b9_3]))) rfl ?_
      obtain ⟨x13_4, hxx13_4, h⟩ := Option.bind_eq_some_iff.mp h
      refine gg_lI (Or.inl ⟨rfl, rfl⟩) aMi27 rfl hxx13_4 ?_
      refine gg_br (b := decide (¬ x13_4 = 0)) (tg := 21) (off := 7) aMi27 rfl rfl rfl rfl (fun hb => ?_) (fun hb => ?_)
      · rw [if_pos (of_decide_eq_true hb)] at h
        refine go_ops aMi27 2 _ (f1 := (23, ([(0, .int i0), (1, .int i1), (2, .ref a2), (3, .ref a3)], [.int (0 : Int32), .ref a3]))) rfl ?_
        obtain ⟨u23_5, hxu23_5, h⟩ := Option.bind_eq_some_iff.mp h
        obtain ⟨r23_6, hxr23_6, h⟩ := Option.bind_eq_some_iff.mp h
        refine gg_cv (as := [.int (0 : Int32)]) (r := []) aMi27 rfl rfl rfl aMi51 (Nat.le_of_ble_eq_true rfl) rfl (Nat.le_of_ble_eq_true rfl) (Nat.le_of_ble_eq_true rfl) (by omega) hxu23_5 (Tf51 (by omega) a3 (0 : Int32) I _ hxr23_6) ?_
        show aGo kad d 27 (26, ([(0, .int i0), (1, .int i1), (2, .ref a2), (3, .ref a3)], [.int r23_6.1])) (aMem Z r23_6.2, t) _
        refine gg_br (b := decide (0 ≤ r23_6.1)) (tg := 33) (off := 7) aMi27 rfl rfl rfl rfl (fun hb => ?_) (fun hb => ?_)
        · rw [if_pos (of_decide_eq_true hb)] at h
          refine go_ops aMi27 1 _ (f1 := (34, ([(0, .int i0), (1, .int i1), (2, .ref a2), (3, .ref a3)], [.int (0 : Int32)]))) rfl ?_
          refine go_le (lv1 := []) (aLe_of (show (List.map (fun q => q.1) ([] : ALv)).Nodup from (by show ([] : List Nat).Nodup; decide)) aSubL_nil) ?_
          exact Tf27_b34 hd (0 : Int32) r23_6.2 _ h
        · rw [if_neg (of_decide_eq_false hb)] at h
          refine go_ops aMi27 2 _ (f1 := (34, ([(0, .int i0), (1, .int i1), (2, .ref a2), (3, .ref a3)], [.int (2 : Int32)]))) rfl ?_
          refine go_le (lv1 := []) (aLe_of (show (List.map (fun q => q.1) ([] : ALv)).Nodup from (by show ([] : List Nat).Nodup; decide)) aSubL_nil) ?_
          exact Tf27_b34 hd (2 : Int32) r23_6.2 _ h
      · rw [if_neg (of_decide_eq_false hb)] at h
        refine go_le (lv1 := []) (aLe_of (show (List.map (fun q => q.1) ([] : ALv)).Nodup from (by show ([] : List Nat).Nodup; decide)) aSubL_nil) ?_
        exact Tf27_b17 hd  I _ h
-- KernelGym$Clerk.put (III)V
def f35_b39 (kad : Nat → Nat) (N : Nat) (Z : AZ)  (I : AI) : Option (Unit × AI) :=
  some ((), I)
set_option maxRecDepth 20000 in
theorem Tf35_b39 {kad : Nat → Nat} {N : Nat} {Z : AZ} {d : Nat} {t : Option Nat × (Nat × Nat)} (hd : 0 ≤ d) : ∀  (I : AI) (r : Unit × AI), f35_b39 kad N Z  I = some r → aGo kad d 35 (39, ([], [])) (aMem Z I, t) (qV Z t r) := by
  intro  I r h
  unfold f35_b39 at h
  cases h
  exact go_ret aMi35 rfl rfl ⟨rfl, rfl⟩
def f35 (kad : Nat → Nat) (N : Nat) (Z : AZ) (a0 : Nat) (i1 : Int32) (i2 : Int32) (i3 : Int32) (I : AI) : Option (Unit × AI) :=
  if i1 < 0 then
    f35_b39 kad N Z  I
  else
    if (32 : Int32) ≤ i1 then
      f35_b39 kad N Z  I
    else
      if i2 < 0 then
        f35_b39 kad N Z  I
      else
        if (8 : Int32) ≤ i2 then
          f35_b39 kad N Z  I
        else
          (gR Z I 1 0 a0).bind fun b21_1 =>
          (sI Z I 100 b21_1 ((i1 * (8 : Int32)) + i2) i3).bind fun I31_2 =>
          (gR Z I31_2 1 1 a0).bind fun b33_3 =>
          (sI Z I31_2 101 b33_3 i1 (1 : Int32)).bind fun I38_4 =>
          f35_b39 kad N Z  I38_4
set_option maxRecDepth 20000 in
theorem Tf35 {kad : Nat → Nat} {N : Nat} {Z : AZ} {d : Nat} {t : Option Nat × (Nat × Nat)} (hd : 0 ≤ d) : ∀ (a0 : Nat) (i1 : Int32) (i2 : Int32) (i3 : Int32) (I : AI) (r : Unit × AI), f35 kad N Z a0 i1 i2 i3 I = some r → aGo kad d 35 (0, ([(0, .ref a0), (1, .int i1), (2, .int i2), (3, .int i3)], [])) (aMem Z I, t) (qV Z t r) := by
  intro a0 i1 i2 i3 I r h
  unfold f35 at h
  refine go_ops aMi35 1 _ (f1 := (1, ([(0, .ref a0), (1, .int i1), (2, .int i2), (3, .int i3)], [.int i1]))) rfl ?_
  refine gg_br (b := decide (i1 < 0)) (tg := 39) (off := 38) aMi35 rfl rfl rfl rfl (fun hb => ?_) (fun hb => ?_)
  · rw [if_pos (of_decide_eq_true hb)] at h
    refine go_le (lv1 := []) (aLe_of (show (List.map (fun q => q.1) ([] : ALv)).Nodup from (by show ([] : List Nat).Nodup; decide)) aSubL_nil) ?_
    exact Tf35_b39 hd  I _ h
  · rw [if_neg (of_decide_eq_false hb)] at h
    refine go_ops aMi35 2 _ (f1 := (7, ([(0, .ref a0), (1, .int i1), (2, .int i2), (3, .int i3)], [.int (32 : Int32), .int i1]))) rfl ?_
    refine gg_br (b := decide ((32 : Int32) ≤ i1)) (tg := 39) (off := 32) aMi35 rfl rfl rfl rfl (fun hb => ?_) (fun hb => ?_)
    · rw [if_pos (of_decide_eq_true hb)] at h
      refine go_le (lv1 := []) (aLe_of (show (List.map (fun q => q.1) ([] : ALv)).Nodup from (by show ([] : List Nat).Nodup; decide)) aSubL_nil) ?_
      exact Tf35_b39 hd  I _ h
    · rw [if_neg (of_decide_eq_false hb)] at h
      refine go_ops aMi35 1 _ (f1 := (11, ([(0, .ref a0), (1, .int i1), (2, .int i2), (3, .int i3)], [.int i2]))) rfl ?_
      refine gg_br (b := decide (i2 < 0)) (tg := 39) (off := 28) aMi35 rfl rfl rfl rfl (fun hb => ?_) (fun hb => ?_)
      · rw [if_pos (of_decide_eq_true hb)] at h
        refine go_le (lv1 := []) (aLe_of (show (List.map (fun q => q.1) ([] : ALv)).Nodup from (by show ([] : List Nat).Nodup; decide)) aSubL_nil) ?_
        exact Tf35_b39 hd  I _ h
      · rw [if_neg (of_decide_eq_false hb)] at h
        refine go_ops aMi35 2 _ (f1 := (17, ([(0, .ref a0), (1, .int i1), (2, .int i2), (3, .int i3)], [.int (8 : Int32), .int i2]))) rfl ?_
        refine gg_br (b := decide ((8 : Int32) ≤ i2)) (tg := 39) (off := 22) aMi35 rfl rfl rfl rfl (fun hb => ?_) (fun hb => ?_)
        · rw [if_pos (of_decide_eq_true hb)] at h
          refine go_le (lv1 := []) (aLe_of (show (List.map (fun q => q.1) ([] : ALv)).Nodup from (by show ([] : List Nat).Nodup; decide)) aSubL_nil) ?_
          exact Tf35_b39 hd  I _ h
        · rw [if_neg (of_decide_eq_false hb)] at h
          refine go_ops aMi35 1 _ (f1 := (21, ([(0, .ref a0), (1, .int i1), (2, .int i2), (3, .int i3)], [.ref a0]))) rfl ?_
          obtain ⟨b21_1, hxb21_1, h⟩ := Option.bind_eq_some_iff.mp h
          refine gg_gR aMi35 rfl rfl rfl hxb21_1 ?_
          refine go_ops aMi35 6 _ (f1 := (31, ([(0, .ref a0), (1, .int i1), (2, .int i2), (3, .int i3)], [.int i3, .int ((i1 * (8 : Int32)) + i2), .ref b21_1]))) rfl ?_
          obtain ⟨I31_2, hxI31_2, h⟩ := Option.bind_eq_some_iff.mp h
          refine gg_sI (Or.inl ⟨rfl, rfl⟩) aMi35 rfl hxI31_2 ?_
          refine go_ops aMi35 1 _ (f1 := (33, ([(0, .ref a0), (1, .int i1), (2, .int i2), (3, .int i3)], [.ref a0]))) rfl ?_
          obtain ⟨b33_3, hxb33_3, h⟩ := Option.bind_eq_some_iff.mp h
          refine gg_gR aMi35 rfl rfl rfl hxb33_3 ?_
          refine go_ops aMi35 2 _ (f1 := (38, ([(0, .ref a0), (1, .int i1), (2, .int i2), (3, .int i3)], [.int (1 : Int32), .int i1, .ref b33_3]))) rfl ?_
          obtain ⟨I38_4, hxI38_4, h⟩ := Option.bind_eq_some_iff.mp h
          refine gg_sI (Or.inr ⟨rfl, rfl⟩) aMi35 rfl hxI38_4 ?_
          refine go_le (lv1 := []) (aLe_of (show (List.map (fun q => q.1) ([] : ALv)).Nodup from (by show ([] : List Nat).Nodup; decide)) aSubL_nil) ?_
          exact Tf35_b39 hd  I38_4 _ h
-- KernelGym$Clerk.putInEntry (III)V
def f34 (kad : Nat → Nat) (N : Nat) (Z : AZ) (a0 : Nat) (i1 : Int32) (i2 : Int32) (i3 : Int32) (I : AI) : Option (Unit × AI) :=
  (f48 kad N Z i1 I).bind fun r2_1 =>
  (f49 kad N Z i1 r2_1.2).bind fun r6_2 =>
  (isK Z a0 1).bind fun u12_3 =>
  (f35 kad N Z a0 r2_1.1 (r6_2.1 + i2) i3 r6_2.2).bind fun r12_4 =>
  some ((), r12_4.2)
set_option maxRecDepth 20000 in
theorem Tf34 {kad : Nat → Nat} {N : Nat} {Z : AZ} {d : Nat} {t : Option Nat × (Nat × Nat)} (hd : 1 ≤ d) : ∀ (a0 : Nat) (i1 : Int32) (i2 : Int32) (i3 : Int32) (I : AI) (r : Unit × AI), f34 kad N Z a0 i1 i2 i3 I = some r → aGo kad d 34 (0, ([(0, .ref a0), (1, .int i1), (2, .int i2), (3, .int i3)], [])) (aMem Z I, t) (qV Z t r) := by
  intro a0 i1 i2 i3 I r h
  unfold f34 at h
  refine go_ops aMi34 2 _ (f1 := (2, ([(0, .ref a0), (1, .int i1), (2, .int i2), (3, .int i3)], [.int i1, .ref a0]))) rfl ?_
  obtain ⟨r2_1, hxr2_1, h⟩ := Option.bind_eq_some_iff.mp h
  refine gg_cs (as := [.int i1]) (r := [.ref a0]) aMi34 rfl rfl rfl aMi48 rfl (Nat.le_of_ble_eq_true rfl) (Nat.le_of_ble_eq_true rfl) (by omega) (Tf48 (by omega) i1 I _ hxr2_1) ?_
  show aGo kad d 34 (5, ([(0, .ref a0), (1, .int i1), (2, .int i2), (3, .int i3)], [.int r2_1.1, .ref a0])) (aMem Z r2_1.2, t) _
  refine go_ops aMi34 1 _ (f1 := (6, ([(0, .ref a0), (1, .int i1), (2, .int i2), (3, .int i3)], [.int i1, .int r2_1.1, .ref a0]))) rfl ?_
  obtain ⟨r6_2, hxr6_2, h⟩ := Option.bind_eq_some_iff.mp h
  refine gg_cs (as := [.int i1]) (r := [.int r2_1.1, .ref a0]) aMi34 rfl rfl rfl aMi49 rfl (Nat.le_of_ble_eq_true rfl) (Nat.le_of_ble_eq_true rfl) (by omega) (Tf49 (by omega) i1 r2_1.2 _ hxr6_2) ?_
  show aGo kad d 34 (9, ([(0, .ref a0), (1, .int i1), (2, .int i2), (3, .int i3)], [.int r6_2.1, .int r2_1.1, .ref a0])) (aMem Z r6_2.2, t) _
  refine go_ops aMi34 3 _ (f1 := (12, ([(0, .ref a0), (1, .int i1), (2, .int i2), (3, .int i3)], [.int i3, .int (r6_2.1 + i2), .int r2_1.1, .ref a0]))) rfl ?_
  obtain ⟨u12_3, hxu12_3, h⟩ := Option.bind_eq_some_iff.mp h
  obtain ⟨r12_4, hxr12_4, h⟩ := Option.bind_eq_some_iff.mp h
  refine gg_cv (as := [.int r2_1.1, .int (r6_2.1 + i2), .int i3]) (r := []) aMi34 rfl rfl rfl aMi35 (Nat.le_of_ble_eq_true rfl) rfl (Nat.le_of_ble_eq_true rfl) (Nat.le_of_ble_eq_true rfl) (by omega) hxu12_3 (Tf35 (by omega) a0 r2_1.1 (r6_2.1 + i2) i3 r6_2.2 _ hxr12_4) ?_
  show aGo kad d 34 (15, ([(0, .ref a0), (1, .int i1), (2, .int i2), (3, .int i3)], [])) (aMem Z r12_4.2, t) _
  cases h
  exact go_ret aMi34 rfl rfl ⟨rfl, rfl⟩
-- KernelGym$Disk.blockOfPlace (II)I
def f53_b13 (kad : Nat → Nat) (N : Nat) (Z : AZ) (s0 : Int32) (s1 : Int32) (s2 : Nat) (I : AI) : Option (Int32 × AI) :=
  (isK Z s2 3).bind fun u13_1 =>
  (f50 kad N Z s2 s1 s0 I).bind fun r13_2 =>
  some (r13_2.1, r13_2.2)
set_option maxRecDepth 20000 in
theorem Tf53_b13 {kad : Nat → Nat} {N : Nat} {Z : AZ} {d : Nat} {t : Option Nat × (Nat × Nat)} (hd : 2 ≤ d) : ∀ (s0 : Int32) (s1 : Int32) (s2 : Nat) (I : AI) (r : Int32 × AI), f53_b13 kad N Z s0 s1 s2 I = some r → aGo kad d 53 (13, ([], [.int s0, .int s1, .ref s2])) (aMem Z I, t) (qI Z t r) := by
  intro s0 s1 s2 I r h
  unfold f53_b13 at h
  obtain ⟨u13_1, hxu13_1, h⟩ := Option.bind_eq_some_iff.mp h
  obtain ⟨r13_2, hxr13_2, h⟩ := Option.bind_eq_some_iff.mp h
  refine gg_cv (as := [.int s1, .int s0]) (r := []) aMi53 rfl rfl rfl aMi50 (Nat.le_of_ble_eq_true rfl) rfl (Nat.le_of_ble_eq_true rfl) (Nat.le_of_ble_eq_true rfl) (by omega) hxu13_1 (Tf50 (by omega) s2 s1 s0 I _ hxr13_2) ?_
  show aGo kad d 53 (16, ([], [.int r13_2.1])) (aMem Z r13_2.2, t) _
  cases h
  exact go_ret aMi53 rfl aRetI ⟨rfl, rfl⟩
def f53 (kad : Nat → Nat) (N : Nat) (Z : AZ) (a0 : Nat) (i1 : Int32) (i2 : Int32) (I : AI) : Option (Int32 × AI) :=
  if (8 : Int32) ≤ i2 then
    f53_b13 kad N Z (3 : Int32) i1 a0 I
  else
    f53_b13 kad N Z (2 : Int32) i1 a0 I
set_option maxRecDepth 20000 in
theorem Tf53 {kad : Nat → Nat} {N : Nat} {Z : AZ} {d : Nat} {t : Option Nat × (Nat × Nat)} (hd : 2 ≤ d) : ∀ (a0 : Nat) (i1 : Int32) (i2 : Int32) (I : AI) (r : Int32 × AI), f53 kad N Z a0 i1 i2 I = some r → aGo kad d 53 (0, ([(0, .ref a0), (1, .int i1), (2, .int i2)], [])) (aMem Z I, t) (qI Z t r) := by
  intro a0 i1 i2 I r h
  unfold f53 at h
  refine go_ops aMi53 4 _ (f1 := (5, ([(0, .ref a0), (1, .int i1), (2, .int i2)], [.int (8 : Int32), .int i2, .int i1, .ref a0]))) rfl ?_
  refine gg_br (b := decide ((8 : Int32) ≤ i2)) (tg := 12) (off := 7) aMi53 rfl rfl rfl rfl (fun hb => ?_) (fun hb => ?_)
  · rw [if_pos (of_decide_eq_true hb)] at h
    refine go_ops aMi53 1 _ (f1 := (13, ([(0, .ref a0), (1, .int i1), (2, .int i2)], [.int (3 : Int32), .int i1, .ref a0]))) rfl ?_
    refine go_le (lv1 := []) (aLe_of (show (List.map (fun q => q.1) ([] : ALv)).Nodup from (by show ([] : List Nat).Nodup; decide)) aSubL_nil) ?_
    exact Tf53_b13 hd (3 : Int32) i1 a0 I _ h
  · rw [if_neg (of_decide_eq_false hb)] at h
    refine go_ops aMi53 2 _ (f1 := (13, ([(0, .ref a0), (1, .int i1), (2, .int i2)], [.int (2 : Int32), .int i1, .ref a0]))) rfl ?_
    refine go_le (lv1 := []) (aLe_of (show (List.map (fun q => q.1) ([] : ALv)).Nodup from (by show ([] : List Nat).Nodup; decide)) aSubL_nil) ?_
    exact Tf53_b13 hd (2 : Int32) i1 a0 I _ h
-- KernelGym$Clerk.setUsed (IZ)V
def f33_b53 (kad : Nat → Nat) (N : Nat) (Z : AZ) (s0 : Int32) (s1 : Int32) (s2 : Int32) (s3 : Nat) (I : AI) : Option (Unit × AI) :=
  (isK Z s3 1).bind fun u53_1 =>
  (f35 kad N Z s3 s2 s1 s0 I).bind fun r53_2 =>
  some ((), r53_2.2)
set_option maxRecDepth 20000 in
theorem Tf33_b53 {kad : Nat → Nat} {N : Nat} {Z : AZ} {d : Nat} {t : Option Nat × (Nat × Nat)} (hd : 1 ≤ d) : ∀ (s0 : Int32) (s1 : Int32) (s2 : Int32) (s3 : Nat) (I : AI) (r : Unit × AI), f33_b53 kad N Z s0 s1 s2 s3 I = some r → aGo kad d 33 (53, ([], [.int s0, .int s1, .int s2, .ref s3])) (aMem Z I, t) (qV Z t r) := by
  intro s0 s1 s2 s3 I r h
  unfold f33_b53 at h
  obtain ⟨u53_1, hxu53_1, h⟩ := Option.bind_eq_some_iff.mp h
  obtain ⟨r53_2, hxr53_2, h⟩ := Option.bind_eq_some_iff.mp h
  refine gg_cv (as := [.int s2, .int s1, .int s0]) (r := []) aMi33 rfl rfl rfl aMi35 (Nat.le_of_ble_eq_true rfl) rfl (Nat.le_of_ble_eq_true rfl) (Nat.le_of_ble_eq_true rfl) (by omega) hxu53_1 (Tf35 (by omega) s3 s2 s1 s0 I _ hxr53_2) ?_
  show aGo kad d 33 (56, ([], [])) (aMem Z r53_2.2, t) _
  cases h
  exact go_ret aMi33 rfl rfl ⟨rfl, rfl⟩
def f33_b11 (kad : Nat → Nat) (N : Nat) (Z : AZ) (a0 : Nat) (i1 : Int32) (i2 : Int32) (s0 : Int32) (I : AI) : Option (Unit × AI) :=
  (gR Z I 1 0 a0).bind fun b21_1 =>
  (lI Z I 100 b21_1 ((32 : Int32) + s0)).bind fun x28_2 =>
  if i2 = 0 then
    f33_b53 kad N Z (x28_2 &&& (((1 : Int32) <<< ((i1 - i1 / (16 : Int32) * (16 : Int32)) &&& 31)) ^^^ (Int32.ofInt (-1)))) s0 (4 : Int32) a0 I
  else
    f33_b53 kad N Z (x28_2 ||| ((1 : Int32) <<< ((i1 - i1 / (16 : Int32) * (16 : Int32)) &&& 31))) s0 (4 : Int32) a0 I
set_option maxRecDepth 20000 in
theorem Tf33_b11 {kad : Nat → Nat} {N : Nat} {Z : AZ} {d : Nat} {t : Option Nat × (Nat × Nat)} (hd : 1 ≤ d) : ∀ (a0 : Nat) (i1 : Int32) (i2 : Int32) (s0 : Int32) (I : AI) (r : Unit × AI), f33_b11 kad N Z a0 i1 i2 s0 I = some r → aGo kad d 33 (11, ([(0, .ref a0), (1, .int i1), (2, .int i2)], [.int s0])) (aMem Z I, t) (qV Z t r) := by
  intro a0 i1 i2 s0 I r h
  unfold f33_b11 at h
  refine go_ops aMi33 8 _ (f1 := (21, ([(4, .int ((1 : Int32) <<< ((i1 - i1 / (16 : Int32) * (16 : Int32)) &&& 31))), (3, .int s0), (0, .ref a0), (1, .int i1), (2, .int i2)], [.ref a0]))) rfl ?_
  obtain ⟨b21_1, hxb21_1, h⟩ := Option.bind_eq_some_iff.mp h
  refine gg_gR aMi33 rfl rfl rfl hxb21_1 ?_
  refine go_ops aMi33 3 _ (f1 := (28, ([(4, .int ((1 : Int32) <<< ((i1 - i1 / (16 : Int32) * (16 : Int32)) &&& 31))), (3, .int s0), (0, .ref a0), (1, .int i1), (2, .int i2)], [.int ((32 : Int32) + s0), .ref b21_1]))) rfl ?_
  obtain ⟨x28_2, hxx28_2, h⟩ := Option.bind_eq_some_iff.mp h
  refine gg_lI (Or.inl ⟨rfl, rfl⟩) aMi33 rfl hxx28_2 ?_
  refine go_ops aMi33 5 _ (f1 := (35, ([(5, .int x28_2), (4, .int ((1 : Int32) <<< ((i1 - i1 / (16 : Int32) * (16 : Int32)) &&& 31))), (3, .int s0), (0, .ref a0), (1, .int i1), (2, .int i2)], [.int i2, .int s0, .int (4 : Int32), .ref a0]))) rfl ?_
  refine gg_br (b := decide (i2 = 0)) (tg := 46) (off := 11) aMi33 rfl rfl rfl rfl (fun hb => ?_) (fun hb => ?_)
  · rw [if_pos (of_decide_eq_true hb)] at h
    refine go_ops aMi33 5 _ (f1 := (53, ([(5, .int x28_2), (4, .int ((1 : Int32) <<< ((i1 - i1 / (16 : Int32) * (16 : Int32)) &&& 31))), (3, .int s0), (0, .ref a0), (1, .int i1), (2, .int i2)], [.int (x28_2 &&& (((1 : Int32) <<< ((i1 - i1 / (16 : Int32) * (16 : Int32)) &&& 31)) ^^^ (Int32.ofInt (-1)))), .int s0, .int (4 : Int32), .ref a0]))) rfl ?_
    refine go_le (lv1 := []) (aLe_of (show (List.map (fun q => q.1) ([] : ALv)).Nodup from (by show ([] : List Nat).Nodup; decide)) aSubL_nil) ?_
    exact Tf33_b53 hd (x28_2 &&& (((1 : Int32) <<< ((i1 - i1 / (16 : Int32) * (16 : Int32)) &&& 31)) ^^^ (Int32.ofInt (-1)))) s0 (4 : Int32) a0 I _ h
  · rw [if_neg (of_decide_eq_false hb)] at h
    refine go_ops aMi33 4 _ (f1 := (53, ([(5, .int x28_2), (4, .int ((1 : Int32) <<< ((i1 - i1 / (16 : Int32) * (16 : Int32)) &&& 31))), (3, .int s0), (0, .ref a0), (1, .int i1), (2, .int i2)], [.int (x28_2 ||| ((1 : Int32) <<< ((i1 - i1 / (16 : Int32) * (16 : Int32)) &&& 31))), .int s0, .int (4 : Int32), .ref a0]))) rfl ?_
    refine go_le (lv1 := []) (aLe_of (show (List.map (fun q => q.1) ([] : ALv)).Nodup from (by show ([] : List Nat).Nodup; decide)) aSubL_nil) ?_
    exact Tf33_b53 hd (x28_2 ||| ((1 : Int32) <<< ((i1 - i1 / (16 : Int32) * (16 : Int32)) &&& 31))) s0 (4 : Int32) a0 I _ h
def f33 (kad : Nat → Nat) (N : Nat) (Z : AZ) (a0 : Nat) (i1 : Int32) (i2 : Int32) (I : AI) : Option (Unit × AI) :=
  if (16 : Int32) ≤ i1 then
    f33_b11 kad N Z a0 i1 i2 (1 : Int32) I
  else
    f33_b11 kad N Z a0 i1 i2 (0 : Int32) I
set_option maxRecDepth 20000 in
theorem Tf33 {kad : Nat → Nat} {N : Nat} {Z : AZ} {d : Nat} {t : Option Nat × (Nat × Nat)} (hd : 1 ≤ d) : ∀ (a0 : Nat) (i1 : Int32) (i2 : Int32) (I : AI) (r : Unit × AI), f33 kad N Z a0 i1 i2 I = some r → aGo kad d 33 (0, ([(0, .ref a0), (1, .int i1), (2, .int i2)], [])) (aMem Z I, t) (qV Z t r) := by
  intro a0 i1 i2 I r h
  unfold f33 at h
  refine go_ops aMi33 2 _ (f1 := (3, ([(0, .ref a0), (1, .int i1), (2, .int i2)], [.int (16 : Int32), .int i1]))) rfl ?_
  refine gg_br (b := decide ((16 : Int32) ≤ i1)) (tg := 10) (off := 7) aMi33 rfl rfl rfl rfl (fun hb => ?_) (fun hb => ?_)
  · rw [if_pos (of_decide_eq_true hb)] at h
    refine go_ops aMi33 1 _ (f1 := (11, ([(0, .ref a0), (1, .int i1), (2, .int i2)], [.int (1 : Int32)]))) rfl ?_
    exact Tf33_b11 hd a0 i1 i2 (1 : Int32) I _ h
  · rw [if_neg (of_decide_eq_false hb)] at h
    refine go_ops aMi33 2 _ (f1 := (11, ([(0, .ref a0), (1, .int i1), (2, .int i2)], [.int (0 : Int32)]))) rfl ?_
    exact Tf33_b11 hd a0 i1 i2 (0 : Int32) I _ h
-- KernelGym$Clerk.append (IILKernelGym$Disk;)V
def f30_b82 (kad : Nat → Nat) (N : Nat) (Z : AZ) (a0 : Nat) (i1 : Int32) (i2 : Int32) (i4 : Int32) (i5 : Int32) (I : AI) : Option (Unit × AI) :=
  (isK Z a0 1).bind fun u91_1 =>
  (f35 kad N Z a0 i5 (i4 - i4 / (8 : Int32) * (8 : Int32)) i2 I).bind fun r91_2 =>
  (isK Z a0 1).bind fun u101_3 =>
  (f34 kad N Z a0 i1 (1 : Int32) (i4 + (1 : Int32)) r91_2.2).bind fun r101_4 =>
  some ((), r101_4.2)
set_option maxRecDepth 20000 in
theorem Tf30_b82 {kad : Nat → Nat} {N : Nat} {Z : AZ} {d : Nat} {t : Option Nat × (Nat × Nat)} (hd : 3 ≤ d) : ∀ (a0 : Nat) (i1 : Int32) (i2 : Int32) (i4 : Int32) (i5 : Int32) (I : AI) (r : Unit × AI), f30_b82 kad N Z a0 i1 i2 i4 i5 I = some r → aGo kad d 30 (82, ([(0, .ref a0), (1, .int i1), (2, .int i2), (4, .int i4), (5, .int i5)], [])) (aMem Z I, t) (qV Z t r) := by
  intro a0 i1 i2 i4 i5 I r h
  unfold f30_b82 at h
  refine go_ops aMi30 6 _ (f1 := (91, ([(0, .ref a0), (1, .int i1), (2, .int i2), (4, .int i4), (5, .int i5)], [.int i2, .int (i4 - i4 / (8 : Int32) * (8 : Int32)), .int i5, .ref a0]))) rfl ?_
  obtain ⟨u91_1, hxu91_1, h⟩ := Option.bind_eq_some_iff.mp h
  obtain ⟨r91_2, hxr91_2, h⟩ := Option.bind_eq_some_iff.mp h
  refine gg_cv (as := [.int i5, .int (i4 - i4 / (8 : Int32) * (8 : Int32)), .int i2]) (r := []) aMi30 rfl rfl rfl aMi35 (Nat.le_of_ble_eq_true rfl) rfl (Nat.le_of_ble_eq_true rfl) (Nat.le_of_ble_eq_true rfl) (by omega) hxu91_1 (Tf35 (by omega) a0 i5 (i4 - i4 / (8 : Int32) * (8 : Int32)) i2 I _ hxr91_2) ?_
  show aGo kad d 30 (94, ([(0, .ref a0), (1, .int i1), (2, .int i2), (4, .int i4), (5, .int i5)], [])) (aMem Z r91_2.2, t) _
  refine go_ops aMi30 6 _ (f1 := (101, ([(0, .ref a0), (1, .int i1), (2, .int i2), (4, .int i4), (5, .int i5)], [.int (i4 + (1 : Int32)), .int (1 : Int32), .int i1, .ref a0]))) rfl ?_
  obtain ⟨u101_3, hxu101_3, h⟩ := Option.bind_eq_some_iff.mp h
  obtain ⟨r101_4, hxr101_4, h⟩ := Option.bind_eq_some_iff.mp h
  refine gg_cv (as := [.int i1, .int (1 : Int32), .int (i4 + (1 : Int32))]) (r := []) aMi30 rfl rfl rfl aMi34 (Nat.le_of_ble_eq_true rfl) rfl (Nat.le_of_ble_eq_true rfl) (Nat.le_of_ble_eq_true rfl) (by omega) hxu101_3 (Tf34 (by omega) a0 i1 (1 : Int32) (i4 + (1 : Int32)) r91_2.2 _ hxr101_4) ?_
  show aGo kad d 30 (104, ([(0, .ref a0), (1, .int i1), (2, .int i2), (4, .int i4), (5, .int i5)], [])) (aMem Z r101_4.2, t) _
  cases h
  exact go_ret aMi30 rfl rfl ⟨rfl, rfl⟩
def f30_b60 (kad : Nat → Nat) (N : Nat) (Z : AZ) : Nat → Nat → Int32 → Int32 → Int32 → Int32 → Int32 → AI → Option (Unit × AI)
  | 0, _, _, _, _, _, _, _ => none
  | F + 1, a0, i1, i2, i4, i5, i6, I =>
    if (8 : Int32) ≤ i6 then
      f30_b82 kad N Z a0 i1 i2 i4 i5 I
    else
      (isK Z a0 1).bind fun u73_1 =>
      (f35 kad N Z a0 i5 i6 (0 : Int32) I).bind fun r73_2 =>
      f30_b60 kad N Z F a0 i1 i2 i4 i5 (i6 + (1 : Int32)) r73_2.2
set_option maxRecDepth 20000 in
theorem Tf30_b60 {kad : Nat → Nat} {N : Nat} {Z : AZ} {d : Nat} {t : Option Nat × (Nat × Nat)} (hd : 3 ≤ d) : ∀ (F : Nat) (a0 : Nat) (i1 : Int32) (i2 : Int32) (i4 : Int32) (i5 : Int32) (i6 : Int32) (I : AI) (r : Unit × AI), f30_b60 kad N Z F a0 i1 i2 i4 i5 i6 I = some r → aGo kad d 30 (60, ([(0, .ref a0), (1, .int i1), (2, .int i2), (4, .int i4), (5, .int i5), (6, .int i6)], [])) (aMem Z I, t) (qV Z t r) := by
  intro F
  induction F with
  | zero => intro a0 i1 i2 i4 i5 i6 I r h; cases h
  | succ F ih =>
    intro a0 i1 i2 i4 i5 i6 I r h
    unfold f30_b60 at h
    refine go_ops aMi30 2 _ (f1 := (64, ([(0, .ref a0), (1, .int i1), (2, .int i2), (4, .int i4), (5, .int i5), (6, .int i6)], [.int (8 : Int32), .int i6]))) rfl ?_
    refine gg_br (b := decide ((8 : Int32) ≤ i6)) (tg := 82) (off := 18) aMi30 rfl rfl rfl rfl (fun hb => ?_) (fun hb => ?_)
    · rw [if_pos (of_decide_eq_true hb)] at h
      refine go_le (lv1 := [(0, .ref a0), (1, .int i1), (2, .int i2), (4, .int i4), (5, .int i5)]) (aLe_of (show (List.map (fun q => q.1) ([(0, .ref a0), (1, .int i1), (2, .int i2), (4, .int i4), (5, .int i5)] : ALv)).Nodup from (by show ([0, 1, 2, 4, 5] : List Nat).Nodup; decide)) (aSubL_cons rfl (aSubL_cons rfl (aSubL_cons rfl (aSubL_cons rfl (aSubL_cons rfl aSubL_nil)))))) ?_
      exact Tf30_b82 hd a0 i1 i2 i4 i5 I _ h
    · rw [if_neg (of_decide_eq_false hb)] at h
      refine go_ops aMi30 4 _ (f1 := (73, ([(0, .ref a0), (1, .int i1), (2, .int i2), (4, .int i4), (5, .int i5), (6, .int i6)], [.int (0 : Int32), .int i6, .int i5, .ref a0]))) rfl ?_
      obtain ⟨u73_1, hxu73_1, h⟩ := Option.bind_eq_some_iff.mp h
      obtain ⟨r73_2, hxr73_2, h⟩ := Option.bind_eq_some_iff.mp h
      refine gg_cv (as := [.int i5, .int i6, .int (0 : Int32)]) (r := []) aMi30 rfl rfl rfl aMi35 (Nat.le_of_ble_eq_true rfl) rfl (Nat.le_of_ble_eq_true rfl) (Nat.le_of_ble_eq_true rfl) (by omega) hxu73_1 (Tf35 (by omega) a0 i5 i6 (0 : Int32) I _ hxr73_2) ?_
      show aGo kad d 30 (76, ([(0, .ref a0), (1, .int i1), (2, .int i2), (4, .int i4), (5, .int i5), (6, .int i6)], [])) (aMem Z r73_2.2, t) _
      refine go_ops aMi30 2 _ (f1 := (60, ([(6, .int (i6 + (1 : Int32))), (0, .ref a0), (1, .int i1), (2, .int i2), (4, .int i4), (5, .int i5)], []))) rfl ?_
      refine go_le (lv1 := [(0, .ref a0), (1, .int i1), (2, .int i2), (4, .int i4), (5, .int i5), (6, .int (i6 + (1 : Int32)))]) (aLe_of (show (List.map (fun q => q.1) ([(0, .ref a0), (1, .int i1), (2, .int i2), (4, .int i4), (5, .int i5), (6, .int (i6 + (1 : Int32)))] : ALv)).Nodup from (by show ([0, 1, 2, 4, 5, 6] : List Nat).Nodup; decide)) (aSubL_cons rfl (aSubL_cons rfl (aSubL_cons rfl (aSubL_cons rfl (aSubL_cons rfl (aSubL_cons rfl aSubL_nil))))))) ?_
      exact ih a0 i1 i2 i4 i5 (i6 + (1 : Int32)) r73_2.2 _ h
def f30_b52 (kad : Nat → Nat) (N : Nat) (Z : AZ) (a0 : Nat) (i1 : Int32) (i2 : Int32) (i4 : Int32) (i5 : Int32) (s0 : Int32) (s1 : Int32) (s2 : Nat) (I : AI) : Option (Unit × AI) :=
  (isK Z s2 1).bind fun u54_1 =>
  (f34 kad N Z s2 s1 s0 i5 I).bind fun r54_2 =>
  f30_b60 kad N Z N a0 i1 i2 i4 i5 (0 : Int32) r54_2.2
set_option maxRecDepth 20000 in
theorem Tf30_b52 {kad : Nat → Nat} {N : Nat} {Z : AZ} {d : Nat} {t : Option Nat × (Nat × Nat)} (hd : 3 ≤ d) : ∀ (a0 : Nat) (i1 : Int32) (i2 : Int32) (i4 : Int32) (i5 : Int32) (s0 : Int32) (s1 : Int32) (s2 : Nat) (I : AI) (r : Unit × AI), f30_b52 kad N Z a0 i1 i2 i4 i5 s0 s1 s2 I = some r → aGo kad d 30 (52, ([(0, .ref a0), (1, .int i1), (2, .int i2), (4, .int i4), (5, .int i5)], [.int s0, .int s1, .ref s2])) (aMem Z I, t) (qV Z t r) := by
  intro a0 i1 i2 i4 i5 s0 s1 s2 I r h
  unfold f30_b52 at h
  refine go_ops aMi30 1 _ (f1 := (54, ([(0, .ref a0), (1, .int i1), (2, .int i2), (4, .int i4), (5, .int i5)], [.int i5, .int s0, .int s1, .ref s2]))) rfl ?_
  obtain ⟨u54_1, hxu54_1, h⟩ := Option.bind_eq_some_iff.mp h
  obtain ⟨r54_2, hxr54_2, h⟩ := Option.bind_eq_some_iff.mp h
  refine gg_cv (as := [.int s1, .int s0, .int i5]) (r := []) aMi30 rfl rfl rfl aMi34 (Nat.le_of_ble_eq_true rfl) rfl (Nat.le_of_ble_eq_true rfl) (Nat.le_of_ble_eq_true rfl) (by omega) hxu54_1 (Tf34 (by omega) s2 s1 s0 i5 I _ hxr54_2) ?_
  show aGo kad d 30 (57, ([(0, .ref a0), (1, .int i1), (2, .int i2), (4, .int i4), (5, .int i5)], [])) (aMem Z r54_2.2, t) _
  refine go_ops aMi30 2 _ (f1 := (60, ([(6, .int (0 : Int32)), (0, .ref a0), (1, .int i1), (2, .int i2), (4, .int i4), (5, .int i5)], []))) rfl ?_
  refine go_le (lv1 := [(0, .ref a0), (1, .int i1), (2, .int i2), (4, .int i4), (5, .int i5), (6, .int (0 : Int32))]) (aLe_of (show (List.map (fun q => q.1) ([(0, .ref a0), (1, .int i1), (2, .int i2), (4, .int i4), (5, .int i5), (6, .int (0 : Int32))] : ALv)).Nodup from (by show ([0, 1, 2, 4, 5, 6] : List Nat).Nodup; decide)) (aSubL_cons rfl (aSubL_cons rfl (aSubL_cons rfl (aSubL_cons rfl (aSubL_cons rfl (aSubL_cons rfl aSubL_nil))))))) ?_
  exact Tf30_b60 hd N a0 i1 i2 i4 i5 (0 : Int32) r54_2.2 _ h
def f30 (kad : Nat → Nat) (N : Nat) (Z : AZ) (a0 : Nat) (i1 : Int32) (i2 : Int32) (a3 : Nat) (I : AI) : Option (Unit × AI) :=
  (isK Z a3 3).bind fun u3_1 =>
  (f50 kad N Z a3 i1 (1 : Int32) I).bind fun r3_2 =>
  (isK Z a3 3).bind fun u12_3 =>
  (f53 kad N Z a3 i1 r3_2.1 r3_2.2).bind fun r12_4 =>
  (f28 kad N Z r3_2.1 r12_4.2).bind fun r19_5 =>
  if r19_5.1 = 0 then
    f30_b82 kad N Z a0 i1 i2 r3_2.1 r12_4.1 r19_5.2
  else
    (isK Z a3 3).bind fun u26_6 =>
    (f56 kad N Z a3 r19_5.2).bind fun r26_7 =>
    (isK Z a0 1).bind fun u35_8 =>
    (f33 kad N Z a0 r26_7.1 (1 : Int32) r26_7.2).bind fun r35_9 =>
    if (8 : Int32) ≤ r3_2.1 then
      f30_b52 kad N Z a0 i1 i2 r3_2.1 r26_7.1 (3 : Int32) i1 a0 r35_9.2
    else
      f30_b52 kad N Z a0 i1 i2 r3_2.1 r26_7.1 (2 : Int32) i1 a0 r35_9.2
set_option maxRecDepth 20000 in
theorem Tf30 {kad : Nat → Nat} {N : Nat} {Z : AZ} {d : Nat} {t : Option Nat × (Nat × Nat)} (hd : 3 ≤ d) : ∀ (a0 : Nat) (i1 : Int32) (i2 : Int32) (a3 : Nat) (I : AI) (r : Unit × AI), f30 kad N Z a0 i1 i2 a3 I = some r → aGo kad d 30 (0, ([(0, .ref a0), (1, .int i1), (2, .int i2), (3, .ref a3)], [])) (aMem Z I, t) (qV Z t r) := by
  intro a0 i1 i2 a3 I r h
  unfold f30 at h
  refine go_ops aMi30 3 _ (f1 := (3, ([(0, .ref a0), (1, .int i1), (2, .int i2), (3, .ref a3)], [.int (1 : Int32), .int i1, .ref a3]))) rfl ?_
  obtain ⟨u3_1, hxu3_1, h⟩ := Option.bind_eq_some_iff.mp h
  obtain ⟨r3_2, hxr3_2, h⟩ := Option.bind_eq_some_iff.mp h
  refine gg_cv (as := [.int i1, .int (1 : Int32)]) (r := []) aMi30 rfl rfl rfl aMi50 (Nat.le_of_ble_eq_true rfl) rfl (Nat.le_of_ble_eq_true rfl) (Nat.le_of_ble_eq_true rfl) (by omega) hxu3_1 (Tf50 (by omega) a3 i1 (1 : Int32) I _ hxr3_2) ?_
  show aGo kad d 30 (6, ([(0, .ref a0), (1, .int i1), (2, .int i2), (3, .ref a3)], [.int r3_2.1])) (aMem Z r3_2.2, t) _
  refine go_ops aMi30 4 _ (f1 := (12, ([(4, .int r3_2.1), (0, .ref a0), (1, .int i1), (2, .int i2), (3, .ref a3)], [.int r3_2.1, .int i1, .ref a3]))) rfl ?_
  obtain ⟨u12_3, hxu12_3, h⟩ := Option.bind_eq_some_iff.mp h
  obtain ⟨r12_4, hxr12_4, h⟩ := Option.bind_eq_some_iff.mp h
  refine gg_cv (as := [.int i1, .int r3_2.1]) (r := []) aMi30 rfl rfl rfl aMi53 (Nat.le_of_ble_eq_true rfl) rfl (Nat.le_of_ble_eq_true rfl) (Nat.le_of_ble_eq_true rfl) (by omega) hxu12_3 (Tf53 (by omega) a3 i1 r3_2.1 r3_2.2 _ hxr12_4) ?_
  show aGo kad d 30 (15, ([(4, .int r3_2.1), (0, .ref a0), (1, .int i1), (2, .int i2), (3, .ref a3)], [.int r12_4.1])) (aMem Z r12_4.2, t) _
  refine go_ops aMi30 2 _ (f1 := (19, ([(5, .int r12_4.1), (4, .int r3_2.1), (0, .ref a0), (1, .int i1), (2, .int i2), (3, .ref a3)], [.int r3_2.1]))) rfl ?_
  obtain ⟨r19_5, hxr19_5, h⟩ := Option.bind_eq_some_iff.mp h
  refine gg_cs (as := [.int r3_2.1]) (r := []) aMi30 rfl rfl rfl aMi28 rfl (Nat.le_of_ble_eq_true rfl) (Nat.le_of_ble_eq_true rfl) (by omega) (Tf28 (by omega) r3_2.1 r12_4.2 _ hxr19_5) ?_
  show aGo kad d 30 (22, ([(5, .int r12_4.1), (4, .int r3_2.1), (0, .ref a0), (1, .int i1), (2, .int i2), (3, .ref a3)], [.int r19_5.1])) (aMem Z r19_5.2, t) _
  refine gg_br (b := decide (r19_5.1 = 0)) (tg := 82) (off := 60) aMi30 rfl rfl rfl rfl (fun hb => ?_) (fun hb => ?_)
  · rw [if_pos (of_decide_eq_true hb)] at h
    refine go_le (lv1 := [(0, .ref a0), (1, .int i1), (2, .int i2), (4, .int r3_2.1), (5, .int r12_4.1)]) (aLe_of (show (List.map (fun q => q.1) ([(0, .ref a0), (1, .int i1), (2, .int i2), (4, .int r3_2.1), (5, .int r12_4.1)] : ALv)).Nodup from (by show ([0, 1, 2, 4, 5] : List Nat).Nodup; decide)) (aSubL_cons rfl (aSubL_cons rfl (aSubL_cons rfl (aSubL_cons rfl (aSubL_cons rfl aSubL_nil)))))) ?_
    exact Tf30_b82 hd a0 i1 i2 r3_2.1 r12_4.1 r19_5.2 _ h
  · rw [if_neg (of_decide_eq_false hb)] at h
    refine go_ops aMi30 1 _ (f1 := (26, ([(5, .int r12_4.1), (4, .int r3_2.1), (0, .ref a0), (1, .int i1), (2, .int i2), (3, .ref a3)], [.ref a3]))) rfl ?_
    obtain ⟨u26_6, hxu26_6, h⟩ := Option.bind_eq_some_iff.mp h
    obtain ⟨r26_7, hxr26_7, h⟩ := Option.bind_eq_some_iff.mp h
    refine gg_cv (as := []) (r := []) aMi30 rfl rfl rfl aMi56 (Nat.le_of_ble_eq_true rfl) rfl (Nat.le_of_ble_eq_true rfl) (Nat.le_of_ble_eq_true rfl) (by omega) hxu26_6 (Tf56 (by omega) a3 r19_5.2 _ hxr26_7) ?_
    show aGo kad d 30 (29, ([(5, .int r12_4.1), (4, .int r3_2.1), (0, .ref a0), (1, .int i1), (2, .int i2), (3, .ref a3)], [.int r26_7.1])) (aMem Z r26_7.2, t) _
    refine go_ops aMi30 4 _ (f1 := (35, ([(5, .int r26_7.1), (4, .int r3_2.1), (0, .ref a0), (1, .int i1), (2, .int i2), (3, .ref a3)], [.int (1 : Int32), .int r26_7.1, .ref a0]))) rfl ?_
    obtain ⟨u35_8, hxu35_8, h⟩ := Option.bind_eq_some_iff.mp h
    obtain ⟨r35_9, hxr35_9, h⟩ := Option.bind_eq_some_iff.mp h
    refine gg_cv (as := [.int r26_7.1, .int (1 : Int32)]) (r := []) aMi30 rfl rfl rfl aMi33 (Nat.le_of_ble_eq_true rfl) rfl (Nat.le_of_ble_eq_true rfl) (Nat.le_of_ble_eq_true rfl) (by omega) hxu35_8 (Tf33 (by omega) a0 r26_7.1 (1 : Int32) r26_7.2 _ hxr35_9) ?_
    show aGo kad d 30 (38, ([(5, .int r26_7.1), (4, .int r3_2.1), (0, .ref a0), (1, .int i1), (2, .int i2), (3, .ref a3)], [])) (aMem Z r35_9.2, t) _
    refine go_ops aMi30 4 _ (f1 := (44, ([(5, .int r26_7.1), (4, .int r3_2.1), (0, .ref a0), (1, .int i1), (2, .int i2), (3, .ref a3)], [.int (8 : Int32), .int r3_2.1, .int i1, .ref a0]))) rfl ?_
    refine gg_br (b := decide ((8 : Int32) ≤ r3_2.1)) (tg := 51) (off := 7) aMi30 rfl rfl rfl rfl (fun hb => ?_) (fun hb => ?_)
    · rw [if_pos (of_decide_eq_true hb)] at h
      refine go_ops aMi30 1 _ (f1 := (52, ([(5, .int r26_7.1), (4, .int r3_2.1), (0, .ref a0), (1, .int i1), (2, .int i2), (3, .ref a3)], [.int (3 : Int32), .int i1, .ref a0]))) rfl ?_
      refine go_le (lv1 := [(0, .ref a0), (1, .int i1), (2, .int i2), (4, .int r3_2.1), (5, .int r26_7.1)]) (aLe_of (show (List.map (fun q => q.1) ([(0, .ref a0), (1, .int i1), (2, .int i2), (4, .int r3_2.1), (5, .int r26_7.1)] : ALv)).Nodup from (by show ([0, 1, 2, 4, 5] : List Nat).Nodup; decide)) (aSubL_cons rfl (aSubL_cons rfl (aSubL_cons rfl (aSubL_cons rfl (aSubL_cons rfl aSubL_nil)))))) ?_
      exact Tf30_b52 hd a0 i1 i2 r3_2.1 r26_7.1 (3 : Int32) i1 a0 r35_9.2 _ h
    · rw [if_neg (of_decide_eq_false hb)] at h
      refine go_ops aMi30 2 _ (f1 := (52, ([(5, .int r26_7.1), (4, .int r3_2.1), (0, .ref a0), (1, .int i1), (2, .int i2), (3, .ref a3)], [.int (2 : Int32), .int i1, .ref a0]))) rfl ?_
      refine go_le (lv1 := [(0, .ref a0), (1, .int i1), (2, .int i2), (4, .int r3_2.1), (5, .int r26_7.1)]) (aLe_of (show (List.map (fun q => q.1) ([(0, .ref a0), (1, .int i1), (2, .int i2), (4, .int r3_2.1), (5, .int r26_7.1)] : ALv)).Nodup from (by show ([0, 1, 2, 4, 5] : List Nat).Nodup; decide)) (aSubL_cons rfl (aSubL_cons rfl (aSubL_cons rfl (aSubL_cons rfl (aSubL_cons rfl aSubL_nil)))))) ?_
      exact Tf30_b52 hd a0 i1 i2 r3_2.1 r26_7.1 (2 : Int32) i1 a0 r35_9.2 _ h
-- KernelGym$Disk.fileWord (II)I
def f54 (kad : Nat → Nat) (N : Nat) (Z : AZ) (a0 : Nat) (i1 : Int32) (i2 : Int32) (I : AI) : Option (Int32 × AI) :=
  (isK Z a0 3).bind fun u4_1 =>
  (f53 kad N Z a0 i1 i2 I).bind fun r4_2 =>
  (isK Z a0 3).bind fun u11_3 =>
  (f43 kad N Z a0 r4_2.1 (i2 - i2 / (8 : Int32) * (8 : Int32)) r4_2.2).bind fun r11_4 =>
  some (r11_4.1, r11_4.2)
set_option maxRecDepth 20000 in
theorem Tf54 {kad : Nat → Nat} {N : Nat} {Z : AZ} {d : Nat} {t : Option Nat × (Nat × Nat)} (hd : 3 ≤ d) : ∀ (a0 : Nat) (i1 : Int32) (i2 : Int32) (I : AI) (r : Int32 × AI), f54 kad N Z a0 i1 i2 I = some r → aGo kad d 54 (0, ([(0, .ref a0), (1, .int i1), (2, .int i2)], [])) (aMem Z I, t) (qI Z t r) := by
  intro a0 i1 i2 I r h
  unfold f54 at h
  refine go_ops aMi54 4 _ (f1 := (4, ([(0, .ref a0), (1, .int i1), (2, .int i2)], [.int i2, .int i1, .ref a0, .ref a0]))) rfl ?_
  obtain ⟨u4_1, hxu4_1, h⟩ := Option.bind_eq_some_iff.mp h
  obtain ⟨r4_2, hxr4_2, h⟩ := Option.bind_eq_some_iff.mp h
  refine gg_cv (as := [.int i1, .int i2]) (r := [.ref a0]) aMi54 rfl rfl rfl aMi53 (Nat.le_of_ble_eq_true rfl) rfl (Nat.le_of_ble_eq_true rfl) (Nat.le_of_ble_eq_true rfl) (by omega) hxu4_1 (Tf53 (by omega) a0 i1 i2 I _ hxr4_2) ?_
  show aGo kad d 54 (7, ([(0, .ref a0), (1, .int i1), (2, .int i2)], [.int r4_2.1, .ref a0])) (aMem Z r4_2.2, t) _
  refine go_ops aMi54 3 _ (f1 := (11, ([(0, .ref a0), (1, .int i1), (2, .int i2)], [.int (i2 - i2 / (8 : Int32) * (8 : Int32)), .int r4_2.1, .ref a0]))) rfl ?_
  obtain ⟨u11_3, hxu11_3, h⟩ := Option.bind_eq_some_iff.mp h
  obtain ⟨r11_4, hxr11_4, h⟩ := Option.bind_eq_some_iff.mp h
  refine gg_cv (as := [.int r4_2.1, .int (i2 - i2 / (8 : Int32) * (8 : Int32))]) (r := []) aMi54 rfl rfl rfl aMi43 (Nat.le_of_ble_eq_true rfl) rfl (Nat.le_of_ble_eq_true rfl) (Nat.le_of_ble_eq_true rfl) (by omega) hxu11_3 (Tf43 (by omega) a0 r4_2.1 (i2 - i2 / (8 : Int32) * (8 : Int32)) r4_2.2 _ hxr11_4) ?_
  show aGo kad d 54 (14, ([(0, .ref a0), (1, .int i1), (2, .int i2)], [.int r11_4.1])) (aMem Z r11_4.2, t) _
  cases h
  exact go_ret aMi54 rfl aRetI ⟨rfl, rfl⟩
-- KernelGym$Clerk.remove (ILKernelGym$Disk;)V
def f31_b27 (kad : Nat → Nat) (N : Nat) (Z : AZ) (k2 : Nat → Int32 → Nat → Int32 → AI → Option (Unit × AI)) (a0 : Nat) (i1 : Int32) (a2 : Nat) (i3 : Int32) (I : AI) : Option (Unit × AI) :=
  k2 a0 i1 a2 (i3 + (1 : Int32)) I
set_option maxRecDepth 20000 in
theorem Tf31_b27 {kad : Nat → Nat} {N : Nat} {Z : AZ} {d : Nat} {t : Option Nat × (Nat × Nat)} (hd : 2 ≤ d) (k2 : Nat → Int32 → Nat → Int32 → AI → Option (Unit × AI))  (hk2 : ∀ (a0 : Nat) (i1 : Int32) (a2 : Nat) (i3 : Int32)  (I : AI) (r : Unit × AI), k2 a0 i1 a2 i3 I = some r → aGo kad d 31 (2, ([(0, .ref a0), (1, .int i1), (2, .ref a2), (3, .int i3)], [])) (aMem Z I, t) (qV Z t r)) : ∀ (a0 : Nat) (i1 : Int32) (a2 : Nat) (i3 : Int32) (I : AI) (r : Unit × AI), f31_b27 kad N Z k2 a0 i1 a2 i3 I = some r → aGo kad d 31 (27, ([(0, .ref a0), (1, .int i1), (2, .ref a2), (3, .int i3)], [])) (aMem Z I, t) (qV Z t r) := by
  intro a0 i1 a2 i3 I r h
  unfold f31_b27 at h
  refine go_ops aMi31 2 _ (f1 := (2, ([(3, .int (i3 + (1 : Int32))), (0, .ref a0), (1, .int i1), (2, .ref a2)], []))) rfl ?_
  refine go_le (lv1 := [(0, .ref a0), (1, .int i1), (2, .ref a2), (3, .int (i3 + (1 : Int32)))]) (aLe_of (show (List.map (fun q => q.1) ([(0, .ref a0), (1, .int i1), (2, .ref a2), (3, .int (i3 + (1 : Int32)))] : ALv)).Nodup from (by show ([0, 1, 2, 3] : List Nat).Nodup; decide)) (aSubL_cons rfl (aSubL_cons rfl (aSubL_cons rfl (aSubL_cons rfl aSubL_nil))))) ?_
  exact hk2 a0 i1 a2 (i3 + (1 : Int32)) I _ h
def f31_b35 (kad : Nat → Nat) (N : Nat) (Z : AZ) : Nat → Nat → Int32 → Int32 → AI → Option (Unit × AI)
  | 0, _, _, _, _ => none
  | F + 1, a0, i1, i3, I =>
    if (4 : Int32) ≤ i3 then
      some ((), I)
    else
      (isK Z a0 1).bind fun u44_1 =>
      (f34 kad N Z a0 i1 i3 (0 : Int32) I).bind fun r44_2 =>
      f31_b35 kad N Z F a0 i1 (i3 + (1 : Int32)) r44_2.2
set_option maxRecDepth 20000 in
theorem Tf31_b35 {kad : Nat → Nat} {N : Nat} {Z : AZ} {d : Nat} {t : Option Nat × (Nat × Nat)} (hd : 2 ≤ d) : ∀ (F : Nat) (a0 : Nat) (i1 : Int32) (i3 : Int32) (I : AI) (r : Unit × AI), f31_b35 kad N Z F a0 i1 i3 I = some r → aGo kad d 31 (35, ([(0, .ref a0), (1, .int i1), (3, .int i3)], [])) (aMem Z I, t) (qV Z t r) := by
  intro F
  induction F with
  | zero => intro a0 i1 i3 I r h; cases h
  | succ F ih =>
    intro a0 i1 i3 I r h
    unfold f31_b35 at h
    refine go_ops aMi31 2 _ (f1 := (37, ([(0, .ref a0), (1, .int i1), (3, .int i3)], [.int (4 : Int32), .int i3]))) rfl ?_
    refine gg_br (b := decide ((4 : Int32) ≤ i3)) (tg := 53) (off := 16) aMi31 rfl rfl rfl rfl (fun hb => ?_) (fun hb => ?_)
    · rw [if_pos (of_decide_eq_true hb)] at h
      cases h
      exact go_ret aMi31 rfl rfl ⟨rfl, rfl⟩
    · rw [if_neg (of_decide_eq_false hb)] at h
      refine go_ops aMi31 4 _ (f1 := (44, ([(0, .ref a0), (1, .int i1), (3, .int i3)], [.int (0 : Int32), .int i3, .int i1, .ref a0]))) rfl ?_
      obtain ⟨u44_1, hxu44_1, h⟩ := Option.bind_eq_some_iff.mp h
      obtain ⟨r44_2, hxr44_2, h⟩ := Option.bind_eq_some_iff.mp h
      refine gg_cv (as := [.int i1, .int i3, .int (0 : Int32)]) (r := []) aMi31 rfl rfl rfl aMi34 (Nat.le_of_ble_eq_true rfl) rfl (Nat.le_of_ble_eq_true rfl) (Nat.le_of_ble_eq_true rfl) (by omega) hxu44_1 (Tf34 (by omega) a0 i1 i3 (0 : Int32) I _ hxr44_2) ?_
      show aGo kad d 31 (47, ([(0, .ref a0), (1, .int i1), (3, .int i3)], [])) (aMem Z r44_2.2, t) _
      refine go_ops aMi31 2 _ (f1 := (35, ([(3, .int (i3 + (1 : Int32))), (0, .ref a0), (1, .int i1)], []))) rfl ?_
      refine go_le (lv1 := [(0, .ref a0), (1, .int i1), (3, .int (i3 + (1 : Int32)))]) (aLe_of (show (List.map (fun q => q.1) ([(0, .ref a0), (1, .int i1), (3, .int (i3 + (1 : Int32)))] : ALv)).Nodup from (by show ([0, 1, 3] : List Nat).Nodup; decide)) (aSubL_cons rfl (aSubL_cons rfl (aSubL_cons rfl aSubL_nil)))) ?_
      exact ih a0 i1 (i3 + (1 : Int32)) r44_2.2 _ h
def f31_b2 (kad : Nat → Nat) (N : Nat) (Z : AZ) : Nat → Nat → Int32 → Nat → Int32 → AI → Option (Unit × AI)
  | 0, _, _, _, _, _ => none
  | F + 1, a0, i1, a2, i3, I =>
    if (3 : Int32) < i3 then
      f31_b35 kad N Z N a0 i1 (0 : Int32) I
    else
      (isK Z a2 3).bind fun u10_1 =>
      (f50 kad N Z a2 i1 i3 I).bind fun r10_2 =>
      if r10_2.1 = 0 then
        f31_b27 kad N Z (fun p0 p1 p2 p3 I => f31_b2 kad N Z F p0 p1 p2 p3 I) a0 i1 a2 i3 r10_2.2
      else
        (isK Z a0 1).bind fun u24_3 =>
        (f33 kad N Z a0 r10_2.1 (0 : Int32) r10_2.2).bind fun r24_4 =>
        f31_b27 kad N Z (fun p0 p1 p2 p3 I => f31_b2 kad N Z F p0 p1 p2 p3 I) a0 i1 a2 i3 r24_4.2
set_option maxRecDepth 20000 in
theorem Tf31_b2 {kad : Nat → Nat} {N : Nat} {Z : AZ} {d : Nat} {t : Option Nat × (Nat × Nat)} (hd : 2 ≤ d) : ∀ (F : Nat) (a0 : Nat) (i1 : Int32) (a2 : Nat) (i3 : Int32) (I : AI) (r : Unit × AI), f31_b2 kad N Z F a0 i1 a2 i3 I = some r → aGo kad d 31 (2, ([(0, .ref a0), (1, .int i1), (2, .ref a2), (3, .int i3)], [])) (aMem Z I, t) (qV Z t r) := by
  intro F
  induction F with
  | zero => intro a0 i1 a2 i3 I r h; cases h
  | succ F ih =>
    intro a0 i1 a2 i3 I r h
    unfold f31_b2 at h
    refine go_ops aMi31 2 _ (f1 := (4, ([(0, .ref a0), (1, .int i1), (2, .ref a2), (3, .int i3)], [.int (3 : Int32), .int i3]))) rfl ?_
    refine gg_br (b := decide ((3 : Int32) < i3)) (tg := 33) (off := 29) aMi31 rfl rfl rfl rfl (fun hb => ?_) (fun hb => ?_)
    · rw [if_pos (of_decide_eq_true hb)] at h
      refine go_ops aMi31 2 _ (f1 := (35, ([(3, .int (0 : Int32)), (0, .ref a0), (1, .int i1), (2, .ref a2)], []))) rfl ?_
      refine go_le (lv1 := [(0, .ref a0), (1, .int i1), (3, .int (0 : Int32))]) (aLe_of (show (List.map (fun q => q.1) ([(0, .ref a0), (1, .int i1), (3, .int (0 : Int32))] : ALv)).Nodup from (by show ([0, 1, 3] : List Nat).Nodup; decide)) (aSubL_cons rfl (aSubL_cons rfl (aSubL_cons rfl aSubL_nil)))) ?_
      exact Tf31_b35 hd N a0 i1 (0 : Int32) I _ h
    · rw [if_neg (of_decide_eq_false hb)] at h
      refine go_ops aMi31 3 _ (f1 := (10, ([(0, .ref a0), (1, .int i1), (2, .ref a2), (3, .int i3)], [.int i3, .int i1, .ref a2]))) rfl ?_
      obtain ⟨u10_1, hxu10_1, h⟩ := Option.bind_eq_some_iff.mp h
      obtain ⟨r10_2, hxr10_2, h⟩ := Option.bind_eq_some_iff.mp h
      refine gg_cv (as := [.int i1, .int i3]) (r := []) aMi31 rfl rfl rfl aMi50 (Nat.le_of_ble_eq_true rfl) rfl (Nat.le_of_ble_eq_true rfl) (Nat.le_of_ble_eq_true rfl) (by omega) hxu10_1 (Tf50 (by omega) a2 i1 i3 I _ hxr10_2) ?_
      show aGo kad d 31 (13, ([(0, .ref a0), (1, .int i1), (2, .ref a2), (3, .int i3)], [.int r10_2.1])) (aMem Z r10_2.2, t) _
      refine go_ops aMi31 2 _ (f1 := (17, ([(4, .int r10_2.1), (0, .ref a0), (1, .int i1), (2, .ref a2), (3, .int i3)], [.int r10_2.1]))) rfl ?_
      refine gg_br (b := decide (r10_2.1 = 0)) (tg := 27) (off := 10) aMi31 rfl rfl rfl rfl (fun hb => ?_) (fun hb => ?_)
      · rw [if_pos (of_decide_eq_true hb)] at h
        refine go_le (lv1 := [(0, .ref a0), (1, .int i1), (2, .ref a2), (3, .int i3)]) (aLe_of (show (List.map (fun q => q.1) ([(0, .ref a0), (1, .int i1), (2, .ref a2), (3, .int i3)] : ALv)).Nodup from (by show ([0, 1, 2, 3] : List Nat).Nodup; decide)) (aSubL_cons rfl (aSubL_cons rfl (aSubL_cons rfl (aSubL_cons rfl aSubL_nil))))) ?_
        exact Tf31_b27 hd (fun p0 p1 p2 p3 I => f31_b2 kad N Z F p0 p1 p2 p3 I) (fun p0 p1 p2 p3 I r hh => ih p0 p1 p2 p3 I r hh) a0 i1 a2 i3 r10_2.2 _ h
      · rw [if_neg (of_decide_eq_false hb)] at h
        refine go_ops aMi31 3 _ (f1 := (24, ([(4, .int r10_2.1), (0, .ref a0), (1, .int i1), (2, .ref a2), (3, .int i3)], [.int (0 : Int32), .int r10_2.1, .ref a0]))) rfl ?_
        obtain ⟨u24_3, hxu24_3, h⟩ := Option.bind_eq_some_iff.mp h
        obtain ⟨r24_4, hxr24_4, h⟩ := Option.bind_eq_some_iff.mp h
        refine gg_cv (as := [.int r10_2.1, .int (0 : Int32)]) (r := []) aMi31 rfl rfl rfl aMi33 (Nat.le_of_ble_eq_true rfl) rfl (Nat.le_of_ble_eq_true rfl) (Nat.le_of_ble_eq_true rfl) (by omega) hxu24_3 (Tf33 (by omega) a0 r10_2.1 (0 : Int32) r10_2.2 _ hxr24_4) ?_
        show aGo kad d 31 (27, ([(4, .int r10_2.1), (0, .ref a0), (1, .int i1), (2, .ref a2), (3, .int i3)], [])) (aMem Z r24_4.2, t) _
        refine go_le (lv1 := [(0, .ref a0), (1, .int i1), (2, .ref a2), (3, .int i3)]) (aLe_of (show (List.map (fun q => q.1) ([(0, .ref a0), (1, .int i1), (2, .ref a2), (3, .int i3)] : ALv)).Nodup from (by show ([0, 1, 2, 3] : List Nat).Nodup; decide)) (aSubL_cons rfl (aSubL_cons rfl (aSubL_cons rfl (aSubL_cons rfl aSubL_nil))))) ?_
        exact Tf31_b27 hd (fun p0 p1 p2 p3 I => f31_b2 kad N Z F p0 p1 p2 p3 I) (fun p0 p1 p2 p3 I r hh => ih p0 p1 p2 p3 I r hh) a0 i1 a2 i3 r24_4.2 _ h
def f31 (kad : Nat → Nat) (N : Nat) (Z : AZ) (a0 : Nat) (i1 : Int32) (a2 : Nat) (I : AI) : Option (Unit × AI) :=
  f31_b2 kad N Z N a0 i1 a2 (2 : Int32) I
set_option maxRecDepth 20000 in
theorem Tf31 {kad : Nat → Nat} {N : Nat} {Z : AZ} {d : Nat} {t : Option Nat × (Nat × Nat)} (hd : 2 ≤ d) : ∀ (a0 : Nat) (i1 : Int32) (a2 : Nat) (I : AI) (r : Unit × AI), f31 kad N Z a0 i1 a2 I = some r → aGo kad d 31 (0, ([(0, .ref a0), (1, .int i1), (2, .ref a2)], [])) (aMem Z I, t) (qV Z t r) := by
  intro a0 i1 a2 I r h
  unfold f31 at h
  refine go_ops aMi31 2 _ (f1 := (2, ([(3, .int (2 : Int32)), (0, .ref a0), (1, .int i1), (2, .ref a2)], []))) rfl ?_
  refine go_le (lv1 := [(0, .ref a0), (1, .int i1), (2, .ref a2), (3, .int (2 : Int32))]) (aLe_of (show (List.map (fun q => q.1) ([(0, .ref a0), (1, .int i1), (2, .ref a2), (3, .int (2 : Int32))] : ALv)).Nodup from (by show ([0, 1, 2, 3] : List Nat).Nodup; decide)) (aSubL_cons rfl (aSubL_cons rfl (aSubL_cons rfl (aSubL_cons rfl aSubL_nil))))) ?_
  exact Tf31_b2 hd N a0 i1 a2 (2 : Int32) I _ h
