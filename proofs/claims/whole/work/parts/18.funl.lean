-- KernelGymModel.calls (I)V
def f242_b142 (kad : Nat → Nat) (N : Nat) (Z : AZ) (a0 : Nat) (i3 : Int32) (I : AI) : Option (Unit × AI) :=
  (gR Z I 11 26 a0).bind fun b143_1 =>
  (sI Z I 100 b143_1 (3 : Int32) i3).bind fun I148_2 =>
  (gI Z I148_2 11 27 a0).bind fun x151_3 =>
  (pI Z I148_2 11 27 a0 (x151_3 + (2 : Int32))).bind fun I156_4 =>
  some ((), I156_4)
set_option maxRecDepth 20000 in
theorem Tf242_b142 {kad : Nat → Nat} {N : Nat} {Z : AZ} {d : Nat} {t : Option Nat × (Nat × Nat)} (hd : 3 ≤ d) : ∀ (a0 : Nat) (i3 : Int32) (I : AI) (r : Unit × AI), f242_b142 kad N Z a0 i3 I = some r → aGo kad d 242 (142, ([(0, .ref a0), (3, .int i3)], [])) (aMem Z I, t) (qV Z t r) := by
  intro a0 i3 I r h
  unfold f242_b142 at h
  refine go_ops aMi242 1 _ (f1 := (143, ([(0, .ref a0), (3, .int i3)], [.ref a0]))) rfl ?_
  obtain ⟨b143_1, hxb143_1, h⟩ := Option.bind_eq_some_iff.mp h
  refine gg_gR aMi242 rfl rfl rfl hxb143_1 ?_
  refine go_ops aMi242 2 _ (f1 := (148, ([(0, .ref a0), (3, .int i3)], [.int i3, .int (3 : Int32), .ref b143_1]))) rfl ?_
  obtain ⟨I148_2, hxI148_2, h⟩ := Option.bind_eq_some_iff.mp h
  refine gg_sI (Or.inl ⟨rfl, rfl⟩) aMi242 rfl hxI148_2 ?_
  refine go_ops aMi242 2 _ (f1 := (151, ([(0, .ref a0), (3, .int i3)], [.ref a0, .ref a0]))) rfl ?_
  obtain ⟨x151_3, hxx151_3, h⟩ := Option.bind_eq_some_iff.mp h
  refine gg_gI aMi242 rfl rfl rfl hxx151_3 ?_
  refine go_ops aMi242 2 _ (f1 := (156, ([(0, .ref a0), (3, .int i3)], [.int (x151_3 + (2 : Int32)), .ref a0]))) rfl ?_
  obtain ⟨I156_4, hxI156_4, h⟩ := Option.bind_eq_some_iff.mp h
  refine gg_pI aMi242 rfl rfl rfl rfl (by decide) hxI156_4 ?_
  cases h
  exact go_ret aMi242 rfl rfl ⟨rfl, rfl⟩
def f242_b116 (kad : Nat → Nat) (N : Nat) (Z : AZ) (a0 : Nat) (i1 : Int32) (i2 : Int32) (i3 : Int32) (I : AI) : Option (Unit × AI) :=
  if ¬ i3 = 0 then
    f242_b142 kad N Z a0 i3 I
  else
    if ¬ i1 = (4 : Int32) then
      f242_b142 kad N Z a0 i3 I
    else
      (gR Z I 11 26 a0).bind fun b126_1 =>
      (gR Z I 11 50 a0).bind fun b131_2 =>
      (f235 kad N Z i2 I).bind fun r135_3 =>
      (lI Z r135_3.2 100 b131_2 (r135_3.1 + (1 : Int32))).bind fun x140_4 =>
      (sI Z r135_3.2 100 b126_1 (1 : Int32) x140_4).bind fun I141_5 =>
      f242_b142 kad N Z a0 i3 I141_5
set_option maxRecDepth 20000 in
theorem Tf242_b116 {kad : Nat → Nat} {N : Nat} {Z : AZ} {d : Nat} {t : Option Nat × (Nat × Nat)} (hd : 3 ≤ d) : ∀ (a0 : Nat) (i1 : Int32) (i2 : Int32) (i3 : Int32) (I : AI) (r : Unit × AI), f242_b116 kad N Z a0 i1 i2 i3 I = some r → aGo kad d 242 (116, ([(0, .ref a0), (1, .int i1), (2, .int i2), (3, .int i3)], [])) (aMem Z I, t) (qV Z t r) := by
  intro a0 i1 i2 i3 I r h
  unfold f242_b116 at h
  refine go_ops aMi242 1 _ (f1 := (117, ([(0, .ref a0), (1, .int i1), (2, .int i2), (3, .int i3)], [.int i3]))) rfl ?_
  refine gg_br (b := decide (¬ i3 = 0)) (tg := 142) (off := 25) aMi242 rfl rfl rfl rfl (fun hb => ?_) (fun hb => ?_)
  · rw [if_pos (of_decide_eq_true hb)] at h
    refine go_le (lv1 := [(0, .ref a0), (3, .int i3)]) (aLe_of (show (List.map (fun q => q.1) ([(0, .ref a0), (3, .int i3)] : ALv)).Nodup from (by show ([0, 3] : List Nat).Nodup; decide)) (aSubL_cons rfl (aSubL_cons rfl aSubL_nil))) ?_
    exact Tf242_b142 hd a0 i3 I _ h
  · rw [if_neg (of_decide_eq_false hb)] at h
    refine go_ops aMi242 2 _ (f1 := (122, ([(0, .ref a0), (1, .int i1), (2, .int i2), (3, .int i3)], [.int (4 : Int32), .int i1]))) rfl ?_
    refine gg_br (b := decide (¬ i1 = (4 : Int32))) (tg := 142) (off := 20) aMi242 rfl rfl rfl rfl (fun hb => ?_) (fun hb => ?_)
    · rw [if_pos (of_decide_eq_true hb)] at h
      refine go_le (lv1 := [(0, .ref a0), (3, .int i3)]) (aLe_of (show (List.map (fun q => q.1) ([(0, .ref a0), (3, .int i3)] : ALv)).Nodup from (by show ([0, 3] : List Nat).Nodup; decide)) (aSubL_cons rfl (aSubL_cons rfl aSubL_nil))) ?_
      exact Tf242_b142 hd a0 i3 I _ h
    · rw [if_neg (of_decide_eq_false hb)] at h
      refine go_ops aMi242 1 _ (f1 := (126, ([(0, .ref a0), (1, .int i1), (2, .int i2), (3, .int i3)], [.ref a0]))) rfl ?_
      obtain ⟨b126_1, hxb126_1, h⟩ := Option.bind_eq_some_iff.mp h
      refine gg_gR aMi242 rfl rfl rfl hxb126_1 ?_
      refine go_ops aMi242 2 _ (f1 := (131, ([(0, .ref a0), (1, .int i1), (2, .int i2), (3, .int i3)], [.ref a0, .int (1 : Int32), .ref b126_1]))) rfl ?_
      obtain ⟨b131_2, hxb131_2, h⟩ := Option.bind_eq_some_iff.mp h
      refine gg_gR aMi242 rfl rfl rfl hxb131_2 ?_
      refine go_ops aMi242 1 _ (f1 := (135, ([(0, .ref a0), (1, .int i1), (2, .int i2), (3, .int i3)], [.int i2, .ref b131_2, .int (1 : Int32), .ref b126_1]))) rfl ?_
      obtain ⟨r135_3, hxr135_3, h⟩ := Option.bind_eq_some_iff.mp h
      refine gg_cs (as := [.int i2]) (r := [.ref b131_2, .int (1 : Int32), .ref b126_1]) aMi242 rfl rfl rfl aMi235 rfl (Nat.le_of_ble_eq_true rfl) (Nat.le_of_ble_eq_true rfl) (by omega) (Tf235 (by omega) i2 I _ hxr135_3) ?_
      show aGo kad d 242 (138, ([(0, .ref a0), (1, .int i1), (2, .int i2), (3, .int i3)], [.int r135_3.1, .ref b131_2, .int (1 : Int32), .ref b126_1])) (aMem Z r135_3.2, t) _
      refine go_ops aMi242 2 _ (f1 := (140, ([(0, .ref a0), (1, .int i1), (2, .int i2), (3, .int i3)], [.int (r135_3.1 + (1 : Int32)), .ref b131_2, .int (1 : Int32), .ref b126_1]))) rfl ?_
      obtain ⟨x140_4, hxx140_4, h⟩ := Option.bind_eq_some_iff.mp h
      refine gg_lI (Or.inl ⟨rfl, rfl⟩) aMi242 rfl hxx140_4 ?_
      obtain ⟨I141_5, hxI141_5, h⟩ := Option.bind_eq_some_iff.mp h
      refine gg_sI (Or.inl ⟨rfl, rfl⟩) aMi242 rfl hxI141_5 ?_
      refine go_le (lv1 := [(0, .ref a0), (3, .int i3)]) (aLe_of (show (List.map (fun q => q.1) ([(0, .ref a0), (3, .int i3)] : ALv)).Nodup from (by show ([0, 3] : List Nat).Nodup; decide)) (aSubL_cons rfl (aSubL_cons rfl aSubL_nil))) ?_
      exact Tf242_b142 hd a0 i3 I141_5 _ h
def f242_b246 (kad : Nat → Nat) (N : Nat) (Z : AZ) (a0 : Nat) (s0 : Int32) (I : AI) : Option (Unit × AI) :=
  (isK Z a0 11).bind fun u251_1 =>
  (f249 kad N Z a0 s0 I).bind fun r251_2 =>
  some ((), r251_2.2)
set_option maxRecDepth 20000 in
theorem Tf242_b246 {kad : Nat → Nat} {N : Nat} {Z : AZ} {d : Nat} {t : Option Nat × (Nat × Nat)} (hd : 3 ≤ d) : ∀ (a0 : Nat) (s0 : Int32) (I : AI) (r : Unit × AI), f242_b246 kad N Z a0 s0 I = some r → aGo kad d 242 (246, ([(0, .ref a0)], [.int s0])) (aMem Z I, t) (qV Z t r) := by
  intro a0 s0 I r h
  unfold f242_b246 at h
  refine go_ops aMi242 3 _ (f1 := (251, ([(5, .int s0), (0, .ref a0)], [.int s0, .ref a0]))) rfl ?_
  obtain ⟨u251_1, hxu251_1, h⟩ := Option.bind_eq_some_iff.mp h
  obtain ⟨r251_2, hxr251_2, h⟩ := Option.bind_eq_some_iff.mp h
  refine gg_cv (as := [.int s0]) (r := []) aMi242 rfl rfl rfl aMi249 (Nat.le_of_ble_eq_true rfl) rfl (Nat.le_of_ble_eq_true rfl) (Nat.le_of_ble_eq_true rfl) (by omega) hxu251_1 (Tf249 (by omega) a0 s0 I _ hxr251_2) ?_
  show aGo kad d 242 (254, ([(5, .int s0), (0, .ref a0)], [])) (aMem Z r251_2.2, t) _
  cases h
  exact go_ret aMi242 rfl rfl ⟨rfl, rfl⟩
def f242_b163 (kad : Nat → Nat) (N : Nat) (Z : AZ) : Nat → Nat → Int32 → Int32 → Int32 → AI → Option (Unit × AI)
  | 0, _, _, _, _, _ => none
  | F + 1, a0, i1, i2, i5, I =>
    if (256 : Int32) ≤ i5 then
      if ¬ i1 = 0 then
        if ¬ i1 = (1 : Int32) then
          if ¬ i1 = (2 : Int32) then
            if ¬ i1 = (5 : Int32) then
              (isK Z a0 11).bind fun u243_1 =>
              (f248 kad N Z a0 i2 I).bind fun r243_2 =>
              f242_b246 kad N Z a0 r243_2.1 r243_2.2
            else
              (isK Z a0 11).bind fun u235_3 =>
              (f247 kad N Z a0 i2 I).bind fun r235_4 =>
              f242_b246 kad N Z a0 r235_4.1 r235_4.2
          else
            (isK Z a0 11).bind fun u222_5 =>
            (f246 kad N Z a0 i2 I).bind fun r222_6 =>
            f242_b246 kad N Z a0 r222_6.1 r222_6.2
        else
          (isK Z a0 11).bind fun u209_7 =>
          (f245 kad N Z a0 i2 I).bind fun r209_8 =>
          f242_b246 kad N Z a0 r209_8.1 r209_8.2
      else
        (isK Z a0 11).bind fun u196_9 =>
        (f244 kad N Z a0 I).bind fun r196_10 =>
        f242_b246 kad N Z a0 r196_10.1 r196_10.2
    else
      (gR Z I 11 51 a0).bind fun b172_11 =>
      (gR Z I 11 50 a0).bind fun b178_12 =>
      (lI Z I 100 b178_12 i5).bind fun x183_13 =>
      (sI Z I 100 b172_11 i5 x183_13).bind fun I184_14 =>
      f242_b163 kad N Z F a0 i1 i2 (i5 + (1 : Int32)) I184_14
set_option maxRecDepth 20000 in
theorem Tf242_b163 {kad : Nat → Nat} {N : Nat} {Z : AZ} {d : Nat} {t : Option Nat × (Nat × Nat)} (hd : 3 ≤ d) : ∀ (F : Nat) (a0 : Nat) (i1 : Int32) (i2 : Int32) (i5 : Int32) (I : AI) (r : Unit × AI), f242_b163 kad N Z F a0 i1 i2 i5 I = some r → aGo kad d 242 (163, ([(0, .ref a0), (1, .int i1), (2, .int i2), (5, .int i5)], [])) (aMem Z I, t) (qV Z t r) := by
  intro F
  induction F with
  | zero => intro a0 i1 i2 i5 I r h; cases h
  | succ F ih =>
    intro a0 i1 i2 i5 I r h
    unfold f242_b163 at h
    refine go_ops aMi242 2 _ (f1 := (168, ([(0, .ref a0), (1, .int i1), (2, .int i2), (5, .int i5)], [.int (256 : Int32), .int i5]))) rfl ?_
    refine gg_br (b := decide ((256 : Int32) ≤ i5)) (tg := 191) (off := 23) aMi242 rfl rfl rfl rfl (fun hb => ?_) (fun hb => ?_)
    · rw [if_pos (of_decide_eq_true hb)] at h
      refine go_ops aMi242 1 _ (f1 := (192, ([(0, .ref a0), (1, .int i1), (2, .int i2), (5, .int i5)], [.int i1]))) rfl ?_
      refine gg_br (b := decide (¬ i1 = 0)) (tg := 202) (off := 10) aMi242 rfl rfl rfl rfl (fun hb => ?_) (fun hb => ?_)
      · rw [if_pos (of_decide_eq_true hb)] at h
        refine go_ops aMi242 2 _ (f1 := (204, ([(0, .ref a0), (1, .int i1), (2, .int i2), (5, .int i5)], [.int (1 : Int32), .int i1]))) rfl ?_
        refine gg_br (b := decide (¬ i1 = (1 : Int32))) (tg := 215) (off := 11) aMi242 rfl rfl rfl rfl (fun hb => ?_) (fun hb => ?_)
        · rw [if_pos (of_decide_eq_true hb)] at h
          refine go_ops aMi242 2 _ (f1 := (217, ([(0, .ref a0), (1, .int i1), (2, .int i2), (5, .int i5)], [.int (2 : Int32), .int i1]))) rfl ?_
          refine gg_br (b := decide (¬ i1 = (2 : Int32))) (tg := 228) (off := 11) aMi242 rfl rfl rfl rfl (fun hb => ?_) (fun hb => ?_)
          · rw [if_pos (of_decide_eq_true hb)] at h
            refine go_ops aMi242 2 _ (f1 := (230, ([(0, .ref a0), (1, .int i1), (2, .int i2), (5, .int i5)], [.int (5 : Int32), .int i1]))) rfl ?_
            refine gg_br (b := decide (¬ i1 = (5 : Int32))) (tg := 241) (off := 11) aMi242 rfl rfl rfl rfl (fun hb => ?_) (fun hb => ?_)
            · rw [if_pos (of_decide_eq_true hb)] at h
              refine go_ops aMi242 2 _ (f1 := (243, ([(0, .ref a0), (1, .int i1), (2, .int i2), (5, .int i5)], [.int i2, .ref a0]))) rfl ?_
              obtain ⟨u243_1, hxu243_1, h⟩ := Option.bind_eq_some_iff.mp h
              obtain ⟨r243_2, hxr243_2, h⟩ := Option.bind_eq_some_iff.mp h
              refine gg_cv (as := [.int i2]) (r := []) aMi242 rfl rfl rfl aMi248 (Nat.le_of_ble_eq_true rfl) rfl (Nat.le_of_ble_eq_true rfl) (Nat.le_of_ble_eq_true rfl) (by omega) hxu243_1 (Tf248 (by omega) a0 i2 I _ hxr243_2) ?_
              show aGo kad d 242 (246, ([(0, .ref a0), (1, .int i1), (2, .int i2), (5, .int i5)], [.int r243_2.1])) (aMem Z r243_2.2, t) _
              refine go_le (lv1 := [(0, .ref a0)]) (aLe_of (show (List.map (fun q => q.1) ([(0, .ref a0)] : ALv)).Nodup from (by show ([0] : List Nat).Nodup; decide)) (aSubL_cons rfl aSubL_nil)) ?_
              exact Tf242_b246 hd a0 r243_2.1 r243_2.2 _ h
            · rw [if_neg (of_decide_eq_false hb)] at h
              refine go_ops aMi242 2 _ (f1 := (235, ([(0, .ref a0), (1, .int i1), (2, .int i2), (5, .int i5)], [.int i2, .ref a0]))) rfl ?_
              obtain ⟨u235_3, hxu235_3, h⟩ := Option.bind_eq_some_iff.mp h
              obtain ⟨r235_4, hxr235_4, h⟩ := Option.bind_eq_some_iff.mp h
              refine gg_cv (as := [.int i2]) (r := []) aMi242 rfl rfl rfl aMi247 (Nat.le_of_ble_eq_true rfl) rfl (Nat.le_of_ble_eq_true rfl) (Nat.le_of_ble_eq_true rfl) (by omega) hxu235_3 (Tf247 (by omega) a0 i2 I _ hxr235_4) ?_
              show aGo kad d 242 (238, ([(0, .ref a0), (1, .int i1), (2, .int i2), (5, .int i5)], [.int r235_4.1])) (aMem Z r235_4.2, t) _
              refine go_ops aMi242 1 _ (f1 := (246, ([(0, .ref a0), (1, .int i1), (2, .int i2), (5, .int i5)], [.int r235_4.1]))) rfl ?_
              refine go_le (lv1 := [(0, .ref a0)]) (aLe_of (show (List.map (fun q => q.1) ([(0, .ref a0)] : ALv)).Nodup from (by show ([0] : List Nat).Nodup; decide)) (aSubL_cons rfl aSubL_nil)) ?_
              exact Tf242_b246 hd a0 r235_4.1 r235_4.2 _ h
          · rw [if_neg (of_decide_eq_false hb)] at h
            refine go_ops aMi242 2 _ (f1 := (222, ([(0, .ref a0), (1, .int i1), (2, .int i2), (5, .int i5)], [.int i2, .ref a0]))) rfl ?_
            obtain ⟨u222_5, hxu222_5, h⟩ := Option.bind_eq_some_iff.mp h
            obtain ⟨r222_6, hxr222_6, h⟩ := Option.bind_eq_some_iff.mp h
            refine gg_cv (as := [.int i2]) (r := []) aMi242 rfl rfl rfl aMi246 (Nat.le_of_ble_eq_true rfl) rfl (Nat.le_of_ble_eq_true rfl) (Nat.le_of_ble_eq_true rfl) (by omega) hxu222_5 (Tf246 (by omega) a0 i2 I _ hxr222_6) ?_
            show aGo kad d 242 (225, ([(0, .ref a0), (1, .int i1), (2, .int i2), (5, .int i5)], [.int r222_6.1])) (aMem Z r222_6.2, t) _
            refine go_ops aMi242 1 _ (f1 := (246, ([(0, .ref a0), (1, .int i1), (2, .int i2), (5, .int i5)], [.int r222_6.1]))) rfl ?_
            refine go_le (lv1 := [(0, .ref a0)]) (aLe_of (show (List.map (fun q => q.1) ([(0, .ref a0)] : ALv)).Nodup from (by show ([0] : List Nat).Nodup; decide)) (aSubL_cons rfl aSubL_nil)) ?_
            exact Tf242_b246 hd a0 r222_6.1 r222_6.2 _ h
        · rw [if_neg (of_decide_eq_false hb)] at h
          refine go_ops aMi242 2 _ (f1 := (209, ([(0, .ref a0), (1, .int i1), (2, .int i2), (5, .int i5)], [.int i2, .ref a0]))) rfl ?_
          obtain ⟨u209_7, hxu209_7, h⟩ := Option.bind_eq_some_iff.mp h
          obtain ⟨r209_8, hxr209_8, h⟩ := Option.bind_eq_some_iff.mp h
          refine gg_cv (as := [.int i2]) (r := []) aMi242 rfl rfl rfl aMi245 (Nat.le_of_ble_eq_true rfl) rfl (Nat.le_of_ble_eq_true rfl) (Nat.le_of_ble_eq_true rfl) (by omega) hxu209_7 (Tf245 (by omega) a0 i2 I _ hxr209_8) ?_
          show aGo kad d 242 (212, ([(0, .ref a0), (1, .int i1), (2, .int i2), (5, .int i5)], [.int r209_8.1])) (aMem Z r209_8.2, t) _
          refine go_ops aMi242 1 _ (f1 := (246, ([(0, .ref a0), (1, .int i1), (2, .int i2), (5, .int i5)], [.int r209_8.1]))) rfl ?_
          refine go_le (lv1 := [(0, .ref a0)]) (aLe_of (show (List.map (fun q => q.1) ([(0, .ref a0)] : ALv)).Nodup from (by show ([0] : List Nat).Nodup; decide)) (aSubL_cons rfl aSubL_nil)) ?_
          exact Tf242_b246 hd a0 r209_8.1 r209_8.2 _ h
      · rw [if_neg (of_decide_eq_false hb)] at h
        refine go_ops aMi242 1 _ (f1 := (196, ([(0, .ref a0), (1, .int i1), (2, .int i2), (5, .int i5)], [.ref a0]))) rfl ?_
        obtain ⟨u196_9, hxu196_9, h⟩ := Option.bind_eq_some_iff.mp h
        obtain ⟨r196_10, hxr196_10, h⟩ := Option.bind_eq_some_iff.mp h
        refine gg_cv (as := []) (r := []) aMi242 rfl rfl rfl aMi244 (Nat.le_of_ble_eq_true rfl) rfl (Nat.le_of_ble_eq_true rfl) (Nat.le_of_ble_eq_true rfl) (by omega) hxu196_9 (Tf244 (by omega) a0 I _ hxr196_10) ?_
        show aGo kad d 242 (199, ([(0, .ref a0), (1, .int i1), (2, .int i2), (5, .int i5)], [.int r196_10.1])) (aMem Z r196_10.2, t) _
        refine go_ops aMi242 1 _ (f1 := (246, ([(0, .ref a0), (1, .int i1), (2, .int i2), (5, .int i5)], [.int r196_10.1]))) rfl ?_
        refine go_le (lv1 := [(0, .ref a0)]) (aLe_of (show (List.map (fun q => q.1) ([(0, .ref a0)] : ALv)).Nodup from (by show ([0] : List Nat).Nodup; decide)) (aSubL_cons rfl aSubL_nil)) ?_
        exact Tf242_b246 hd a0 r196_10.1 r196_10.2 _ h
    · rw [if_neg (of_decide_eq_false hb)] at h
      refine go_ops aMi242 1 _ (f1 := (172, ([(0, .ref a0), (1, .int i1), (2, .int i2), (5, .int i5)], [.ref a0]))) rfl ?_
      obtain ⟨b172_11, hxb172_11, h⟩ := Option.bind_eq_some_iff.mp h
      refine gg_gR aMi242 rfl rfl rfl hxb172_11 ?_
      refine go_ops aMi242 2 _ (f1 := (178, ([(0, .ref a0), (1, .int i1), (2, .int i2), (5, .int i5)], [.ref a0, .int i5, .ref b172_11]))) rfl ?_
      obtain ⟨b178_12, hxb178_12, h⟩ := Option.bind_eq_some_iff.mp h
      refine gg_gR aMi242 rfl rfl rfl hxb178_12 ?_
      refine go_ops aMi242 1 _ (f1 := (183, ([(0, .ref a0), (1, .int i1), (2, .int i2), (5, .int i5)], [.int i5, .ref b178_12, .int i5, .ref b172_11]))) rfl ?_
      obtain ⟨x183_13, hxx183_13, h⟩ := Option.bind_eq_some_iff.mp h
      refine gg_lI (Or.inl ⟨rfl, rfl⟩) aMi242 rfl hxx183_13 ?_
      obtain ⟨I184_14, hxI184_14, h⟩ := Option.bind_eq_some_iff.mp h
      refine gg_sI (Or.inl ⟨rfl, rfl⟩) aMi242 rfl hxI184_14 ?_
      refine go_ops aMi242 2 _ (f1 := (163, ([(5, .int (i5 + (1 : Int32))), (0, .ref a0), (1, .int i1), (2, .int i2)], []))) rfl ?_
      refine go_le (lv1 := [(0, .ref a0), (1, .int i1), (2, .int i2), (5, .int (i5 + (1 : Int32)))]) (aLe_of (show (List.map (fun q => q.1) ([(0, .ref a0), (1, .int i1), (2, .int i2), (5, .int (i5 + (1 : Int32)))] : ALv)).Nodup from (by show ([0, 1, 2, 5] : List Nat).Nodup; decide)) (aSubL_cons rfl (aSubL_cons rfl (aSubL_cons rfl (aSubL_cons rfl aSubL_nil))))) ?_
      exact ih a0 i1 i2 (i5 + (1 : Int32)) I184_14 _ h
def f242_b61 (kad : Nat → Nat) (N : Nat) (Z : AZ) (a0 : Nat) (i1 : Int32) (i2 : Int32) (i3 : Int32) (s0 : Int32) (I : AI) : Option (Unit × AI) :=
  if s0 = 0 then
    f242_b163 kad N Z N a0 i1 i2 (0 : Int32) I
  else
    if ¬ i3 = 0 then
      f242_b116 kad N Z a0 i1 i2 i3 I
    else
      if ¬ i1 = (3 : Int32) then
        f242_b116 kad N Z a0 i1 i2 i3 I
      else
        (gR Z I 11 26 a0).bind fun b78_1 =>
        (gR Z I 11 50 a0).bind fun b83_2 =>
        (gR Z I 11 50 a0).bind fun b90_3 =>
        (gR Z I 11 26 a0).bind fun b95_4 =>
        (lI Z I 100 b95_4 (1 : Int32)).bind fun x99_5 =>
        (isK Z a0 11).bind fun u100_6 =>
        (f241 kad N Z a0 b90_3 i2 x99_5 I).bind fun r100_7 =>
        (gR Z r100_7.2 11 26 a0).bind fun b105_8 =>
        (lI Z r100_7.2 100 b105_8 (1 : Int32)).bind fun x109_9 =>
        (lI Z r100_7.2 100 b83_2 (((8 : Int32) * r100_7.1) + (x109_9 - x109_9 / (8 : Int32) * (8 : Int32)))).bind fun x114_10 =>
        (sI Z r100_7.2 100 b78_1 (2 : Int32) x114_10).bind fun I115_11 =>
        f242_b116 kad N Z a0 i1 i2 i3 I115_11
set_option maxRecDepth 20000 in
theorem Tf242_b61 {kad : Nat → Nat} {N : Nat} {Z : AZ} {d : Nat} {t : Option Nat × (Nat × Nat)} (hd : 3 ≤ d) : ∀ (a0 : Nat) (i1 : Int32) (i2 : Int32) (i3 : Int32) (s0 : Int32) (I : AI) (r : Unit × AI), f242_b61 kad N Z a0 i1 i2 i3 s0 I = some r → aGo kad d 242 (61, ([(0, .ref a0), (1, .int i1), (2, .int i2), (3, .int i3)], [.int s0])) (aMem Z I, t) (qV Z t r) := by
  intro a0 i1 i2 i3 s0 I r h
  unfold f242_b61 at h
  refine go_ops aMi242 2 _ (f1 := (65, ([(4, .int s0), (0, .ref a0), (1, .int i1), (2, .int i2), (3, .int i3)], [.int s0]))) rfl ?_
  refine gg_br (b := decide (s0 = 0)) (tg := 160) (off := 95) aMi242 rfl rfl rfl rfl (fun hb => ?_) (fun hb => ?_)
  · rw [if_pos (of_decide_eq_true hb)] at h
    refine go_ops aMi242 2 _ (f1 := (163, ([(5, .int (0 : Int32)), (4, .int s0), (0, .ref a0), (1, .int i1), (2, .int i2), (3, .int i3)], []))) rfl ?_
    refine go_le (lv1 := [(0, .ref a0), (1, .int i1), (2, .int i2), (5, .int (0 : Int32))]) (aLe_of (show (List.map (fun q => q.1) ([(0, .ref a0), (1, .int i1), (2, .int i2), (5, .int (0 : Int32))] : ALv)).Nodup from (by show ([0, 1, 2, 5] : List Nat).Nodup; decide)) (aSubL_cons rfl (aSubL_cons rfl (aSubL_cons rfl (aSubL_cons rfl aSubL_nil))))) ?_
    exact Tf242_b163 hd N a0 i1 i2 (0 : Int32) I _ h
  · rw [if_neg (of_decide_eq_false hb)] at h
    refine go_ops aMi242 1 _ (f1 := (69, ([(4, .int s0), (0, .ref a0), (1, .int i1), (2, .int i2), (3, .int i3)], [.int i3]))) rfl ?_
    refine gg_br (b := decide (¬ i3 = 0)) (tg := 116) (off := 47) aMi242 rfl rfl rfl rfl (fun hb => ?_) (fun hb => ?_)
    · rw [if_pos (of_decide_eq_true hb)] at h
      refine go_le (lv1 := [(0, .ref a0), (1, .int i1), (2, .int i2), (3, .int i3)]) (aLe_of (show (List.map (fun q => q.1) ([(0, .ref a0), (1, .int i1), (2, .int i2), (3, .int i3)] : ALv)).Nodup from (by show ([0, 1, 2, 3] : List Nat).Nodup; decide)) (aSubL_cons rfl (aSubL_cons rfl (aSubL_cons rfl (aSubL_cons rfl aSubL_nil))))) ?_
      exact Tf242_b116 hd a0 i1 i2 i3 I _ h
    · rw [if_neg (of_decide_eq_false hb)] at h
      refine go_ops aMi242 2 _ (f1 := (74, ([(4, .int s0), (0, .ref a0), (1, .int i1), (2, .int i2), (3, .int i3)], [.int (3 : Int32), .int i1]))) rfl ?_
      refine gg_br (b := decide (¬ i1 = (3 : Int32))) (tg := 116) (off := 42) aMi242 rfl rfl rfl rfl (fun hb => ?_) (fun hb => ?_)
      · rw [if_pos (of_decide_eq_true hb)] at h
        refine go_le (lv1 := [(0, .ref a0), (1, .int i1), (2, .int i2), (3, .int i3)]) (aLe_of (show (List.map (fun q => q.1) ([(0, .ref a0), (1, .int i1), (2, .int i2), (3, .int i3)] : ALv)).Nodup from (by show ([0, 1, 2, 3] : List Nat).Nodup; decide)) (aSubL_cons rfl (aSubL_cons rfl (aSubL_cons rfl (aSubL_cons rfl aSubL_nil))))) ?_
        exact Tf242_b116 hd a0 i1 i2 i3 I _ h
      · rw [if_neg (of_decide_eq_false hb)] at h
        refine go_ops aMi242 1 _ (f1 := (78, ([(4, .int s0), (0, .ref a0), (1, .int i1), (2, .int i2), (3, .int i3)], [.ref a0]))) rfl ?_
        obtain ⟨b78_1, hxb78_1, h⟩ := Option.bind_eq_some_iff.mp h
        refine gg_gR aMi242 rfl rfl rfl hxb78_1 ?_
        refine go_ops aMi242 2 _ (f1 := (83, ([(4, .int s0), (0, .ref a0), (1, .int i1), (2, .int i2), (3, .int i3)], [.ref a0, .int (2 : Int32), .ref b78_1]))) rfl ?_
        obtain ⟨b83_2, hxb83_2, h⟩ := Option.bind_eq_some_iff.mp h
        refine gg_gR aMi242 rfl rfl rfl hxb83_2 ?_
        refine go_ops aMi242 3 _ (f1 := (90, ([(4, .int s0), (0, .ref a0), (1, .int i1), (2, .int i2), (3, .int i3)], [.ref a0, .ref a0, .int (8 : Int32), .ref b83_2, .int (2 : Int32), .ref b78_1]))) rfl ?_
        obtain ⟨b90_3, hxb90_3, h⟩ := Option.bind_eq_some_iff.mp h
        refine gg_gR aMi242 rfl rfl rfl hxb90_3 ?_
        refine go_ops aMi242 2 _ (f1 := (95, ([(4, .int s0), (0, .ref a0), (1, .int i1), (2, .int i2), (3, .int i3)], [.ref a0, .int i2, .ref b90_3, .ref a0, .int (8 : Int32), .ref b83_2, .int (2 : Int32), .ref b78_1]))) rfl ?_
        obtain ⟨b95_4, hxb95_4, h⟩ := Option.bind_eq_some_iff.mp h
        refine gg_gR aMi242 rfl rfl rfl hxb95_4 ?_
        refine go_ops aMi242 1 _ (f1 := (99, ([(4, .int s0), (0, .ref a0), (1, .int i1), (2, .int i2), (3, .int i3)], [.int (1 : Int32), .ref b95_4, .int i2, .ref b90_3, .ref a0, .int (8 : Int32), .ref b83_2, .int (2 : Int32), .ref b78_1]))) rfl ?_
        obtain ⟨x99_5, hxx99_5, h⟩ := Option.bind_eq_some_iff.mp h
        refine gg_lI (Or.inl ⟨rfl, rfl⟩) aMi242 rfl hxx99_5 ?_
        obtain ⟨u100_6, hxu100_6, h⟩ := Option.bind_eq_some_iff.mp h
        obtain ⟨r100_7, hxr100_7, h⟩ := Option.bind_eq_some_iff.mp h
        refine gg_cv (as := [.ref b90_3, .int i2, .int x99_5]) (r := [.int (8 : Int32), .ref b83_2, .int (2 : Int32), .ref b78_1]) aMi242 rfl rfl rfl aMi241 (Nat.le_of_ble_eq_true rfl) rfl (Nat.le_of_ble_eq_true rfl) (Nat.le_of_ble_eq_true rfl) (by omega) hxu100_6 (Tf241 (by omega) a0 b90_3 i2 x99_5 I _ hxr100_7) ?_
        show aGo kad d 242 (103, ([(4, .int s0), (0, .ref a0), (1, .int i1), (2, .int i2), (3, .int i3)], [.int r100_7.1, .int (8 : Int32), .ref b83_2, .int (2 : Int32), .ref b78_1])) (aMem Z r100_7.2, t) _
        refine go_ops aMi242 2 _ (f1 := (105, ([(4, .int s0), (0, .ref a0), (1, .int i1), (2, .int i2), (3, .int i3)], [.ref a0, .int ((8 : Int32) * r100_7.1), .ref b83_2, .int (2 : Int32), .ref b78_1]))) rfl ?_
        obtain ⟨b105_8, hxb105_8, h⟩ := Option.bind_eq_some_iff.mp h
        refine gg_gR aMi242 rfl rfl rfl hxb105_8 ?_
        refine go_ops aMi242 1 _ (f1 := (109, ([(4, .int s0), (0, .ref a0), (1, .int i1), (2, .int i2), (3, .int i3)], [.int (1 : Int32), .ref b105_8, .int ((8 : Int32) * r100_7.1), .ref b83_2, .int (2 : Int32), .ref b78_1]))) rfl ?_
        obtain ⟨x109_9, hxx109_9, h⟩ := Option.bind_eq_some_iff.mp h
        refine gg_lI (Or.inl ⟨rfl, rfl⟩) aMi242 rfl hxx109_9 ?_
        refine go_ops aMi242 3 _ (f1 := (114, ([(4, .int s0), (0, .ref a0), (1, .int i1), (2, .int i2), (3, .int i3)], [.int (((8 : Int32) * r100_7.1) + (x109_9 - x109_9 / (8 : Int32) * (8 : Int32))), .ref b83_2, .int (2 : Int32), .ref b78_1]))) rfl ?_
        obtain ⟨x114_10, hxx114_10, h⟩ := Option.bind_eq_some_iff.mp h
        refine gg_lI (Or.inl ⟨rfl, rfl⟩) aMi242 rfl hxx114_10 ?_
        obtain ⟨I115_11, hxI115_11, h⟩ := Option.bind_eq_some_iff.mp h
        refine gg_sI (Or.inl ⟨rfl, rfl⟩) aMi242 rfl hxI115_11 ?_
        refine go_le (lv1 := [(0, .ref a0), (1, .int i1), (2, .int i2), (3, .int i3)]) (aLe_of (show (List.map (fun q => q.1) ([(0, .ref a0), (1, .int i1), (2, .int i2), (3, .int i3)] : ALv)).Nodup from (by show ([0, 1, 2, 3] : List Nat).Nodup; decide)) (aSubL_cons rfl (aSubL_cons rfl (aSubL_cons rfl (aSubL_cons rfl aSubL_nil))))) ?_
        exact Tf242_b116 hd a0 i1 i2 i3 I115_11 _ h
def f242_b56 (kad : Nat → Nat) (N : Nat) (Z : AZ) (a0 : Nat) (i1 : Int32) (i2 : Int32) (i3 : Int32) (I : AI) : Option (Unit × AI) :=
  f242_b61 kad N Z a0 i1 i2 i3 (1 : Int32) I
set_option maxRecDepth 20000 in
theorem Tf242_b56 {kad : Nat → Nat} {N : Nat} {Z : AZ} {d : Nat} {t : Option Nat × (Nat × Nat)} (hd : 3 ≤ d) : ∀ (a0 : Nat) (i1 : Int32) (i2 : Int32) (i3 : Int32) (I : AI) (r : Unit × AI), f242_b56 kad N Z a0 i1 i2 i3 I = some r → aGo kad d 242 (56, ([(0, .ref a0), (1, .int i1), (2, .int i2), (3, .int i3)], [])) (aMem Z I, t) (qV Z t r) := by
  intro a0 i1 i2 i3 I r h
  unfold f242_b56 at h
  refine go_ops aMi242 2 _ (f1 := (61, ([(0, .ref a0), (1, .int i1), (2, .int i2), (3, .int i3)], [.int (1 : Int32)]))) rfl ?_
  exact Tf242_b61 hd a0 i1 i2 i3 (1 : Int32) I _ h
def f242_b60 (kad : Nat → Nat) (N : Nat) (Z : AZ) (a0 : Nat) (i1 : Int32) (i2 : Int32) (i3 : Int32) (I : AI) : Option (Unit × AI) :=
  f242_b61 kad N Z a0 i1 i2 i3 (0 : Int32) I
set_option maxRecDepth 20000 in
theorem Tf242_b60 {kad : Nat → Nat} {N : Nat} {Z : AZ} {d : Nat} {t : Option Nat × (Nat × Nat)} (hd : 3 ≤ d) : ∀ (a0 : Nat) (i1 : Int32) (i2 : Int32) (i3 : Int32) (I : AI) (r : Unit × AI), f242_b60 kad N Z a0 i1 i2 i3 I = some r → aGo kad d 242 (60, ([(0, .ref a0), (1, .int i1), (2, .int i2), (3, .int i3)], [])) (aMem Z I, t) (qV Z t r) := by
  intro a0 i1 i2 i3 I r h
  unfold f242_b60 at h
  refine go_ops aMi242 1 _ (f1 := (61, ([(0, .ref a0), (1, .int i1), (2, .int i2), (3, .int i3)], [.int (0 : Int32)]))) rfl ?_
  exact Tf242_b61 hd a0 i1 i2 i3 (0 : Int32) I _ h
def f242 (kad : Nat → Nat) (N : Nat) (Z : AZ) (a0 : Nat) (i1 : Int32) (I : AI) : Option (Unit × AI) :=
  (gR Z I 11 50 a0).bind fun b1_1 =>
  (gR Z I 11 26 a0).bind fun b5_2 =>
  (lI Z I 100 b5_2 (0 : Int32)).bind fun x9_3 =>
  (f236 kad N Z b1_1 x9_3 I).bind fun r10_4 =>
  (isK Z a0 11).bind fun u17_5 =>
  (f240 kad N Z a0 i1 r10_4.1 r10_4.2).bind fun r17_6 =>
  if ¬ r17_6.1 = 0 then
    f242_b56 kad N Z a0 i1 r10_4.1 r17_6.1 r17_6.2
  else
    if i1 = (3 : Int32) then
      f242_b56 kad N Z a0 i1 r10_4.1 r17_6.1 r17_6.2
    else
      if i1 = (4 : Int32) then
        f242_b56 kad N Z a0 i1 r10_4.1 r17_6.1 r17_6.2
      else
        if ¬ i1 = (6 : Int32) then
          f242_b60 kad N Z a0 i1 r10_4.1 r17_6.1 r17_6.2
        else
          (gR Z r17_6.2 11 26 a0).bind fun b42_7 =>
          (lI Z r17_6.2 100 b42_7 (0 : Int32)).bind fun x46_8 =>
          (gR Z r17_6.2 11 26 a0).bind fun b48_9 =>
          (lI Z r17_6.2 100 b48_9 (1 : Int32)).bind fun x52_10 =>
          if ¬ x46_8 = x52_10 then
            f242_b60 kad N Z a0 i1 r10_4.1 r17_6.1 r17_6.2
          else
            f242_b56 kad N Z a0 i1 r10_4.1 r17_6.1 r17_6.2
set_option maxRecDepth 20000 in
theorem Tf242 {kad : Nat → Nat} {N : Nat} {Z : AZ} {d : Nat} {t : Option Nat × (Nat × Nat)} (hd : 3 ≤ d) : ∀ (a0 : Nat) (i1 : Int32) (I : AI) (r : Unit × AI), f242 kad N Z a0 i1 I = some r → aGo kad d 242 (0, ([(0, .ref a0), (1, .int i1)], [])) (aMem Z I, t) (qV Z t r) := by
  intro a0 i1 I r h
  unfold f242 at h
  refine go_ops aMi242 1 _ (f1 := (1, ([(0, .ref a0), (1, .int i1)], [.ref a0]))) rfl ?_
  obtain ⟨b1_1, hxb1_1, h⟩ := Option.bind_eq_some_iff.mp h
  refine gg_gR aMi242 rfl rfl rfl hxb1_1 ?_
  refine go_ops aMi242 1 _ (f1 := (5, ([(0, .ref a0), (1, .int i1)], [.ref a0, .ref b1_1]))) rfl ?_
  obtain ⟨b5_2, hxb5_2, h⟩ := Option.bind_eq_some_iff.mp h
  refine gg_gR aMi242 rfl rfl rfl hxb5_2 ?_
  refine go_ops aMi242 1 _ (f1 := (9, ([(0, .ref a0), (1, .int i1)], [.int (0 : Int32), .ref b5_2, .ref b1_1]))) rfl ?_
  obtain ⟨x9_3, hxx9_3, h⟩ := Option.bind_eq_some_iff.mp h
  refine gg_lI (Or.inl ⟨rfl, rfl⟩) aMi242 rfl hxx9_3 ?_
  obtain ⟨r10_4, hxr10_4, h⟩ := Option.bind_eq_some_iff.mp h
  refine gg_cs (as := [.ref b1_1, .int x9_3]) (r := []) aMi242 rfl rfl rfl aMi236 rfl (Nat.le_of_ble_eq_true rfl) (Nat.le_of_ble_eq_true rfl) (by omega) (Tf236 (by omega) b1_1 x9_3 I _ hxr10_4) ?_
  show aGo kad d 242 (13, ([(0, .ref a0), (1, .int i1)], [.int r10_4.1])) (aMem Z r10_4.2, t) _
  refine go_ops aMi242 4 _ (f1 := (17, ([(2, .int r10_4.1), (0, .ref a0), (1, .int i1)], [.int r10_4.1, .int i1, .ref a0]))) rfl ?_
  obtain ⟨u17_5, hxu17_5, h⟩ := Option.bind_eq_some_iff.mp h
  obtain ⟨r17_6, hxr17_6, h⟩ := Option.bind_eq_some_iff.mp h
  refine gg_cv (as := [.int i1, .int r10_4.1]) (r := []) aMi242 rfl rfl rfl aMi240 (Nat.le_of_ble_eq_true rfl) rfl (Nat.le_of_ble_eq_true rfl) (Nat.le_of_ble_eq_true rfl) (by omega) hxu17_5 (Tf240 (by omega) a0 i1 r10_4.1 r10_4.2 _ hxr17_6) ?_
  show aGo kad d 242 (20, ([(2, .int r10_4.1), (0, .ref a0), (1, .int i1)], [.int r17_6.1])) (aMem Z r17_6.2, t) _
  refine go_ops aMi242 2 _ (f1 := (22, ([(3, .int r17_6.1), (2, .int r10_4.1), (0, .ref a0), (1, .int i1)], [.int r17_6.1]))) rfl ?_
  refine gg_br (b := decide (¬ r17_6.1 = 0)) (tg := 56) (off := 34) aMi242 rfl rfl rfl rfl (fun hb => ?_) (fun hb => ?_)
  · rw [if_pos (of_decide_eq_true hb)] at h
    refine go_le (lv1 := [(0, .ref a0), (1, .int i1), (2, .int r10_4.1), (3, .int r17_6.1)]) (aLe_of (show (List.map (fun q => q.1) ([(0, .ref a0), (1, .int i1), (2, .int r10_4.1), (3, .int r17_6.1)] : ALv)).Nodup from (by show ([0, 1, 2, 3] : List Nat).Nodup; decide)) (aSubL_cons rfl (aSubL_cons rfl (aSubL_cons rfl (aSubL_cons rfl aSubL_nil))))) ?_
    exact Tf242_b56 hd a0 i1 r10_4.1 r17_6.1 r17_6.2 _ h
  · rw [if_neg (of_decide_eq_false hb)] at h
    refine go_ops aMi242 2 _ (f1 := (27, ([(3, .int r17_6.1), (2, .int r10_4.1), (0, .ref a0), (1, .int i1)], [.int (3 : Int32), .int i1]))) rfl ?_
    refine gg_br (b := decide (i1 = (3 : Int32))) (tg := 56) (off := 29) aMi242 rfl rfl rfl rfl (fun hb => ?_) (fun hb => ?_)
    · rw [if_pos (of_decide_eq_true hb)] at h
      refine go_le (lv1 := [(0, .ref a0), (1, .int i1), (2, .int r10_4.1), (3, .int r17_6.1)]) (aLe_of (show (List.map (fun q => q.1) ([(0, .ref a0), (1, .int i1), (2, .int r10_4.1), (3, .int r17_6.1)] : ALv)).Nodup from (by show ([0, 1, 2, 3] : List Nat).Nodup; decide)) (aSubL_cons rfl (aSubL_cons rfl (aSubL_cons rfl (aSubL_cons rfl aSubL_nil))))) ?_
      exact Tf242_b56 hd a0 i1 r10_4.1 r17_6.1 r17_6.2 _ h
    · rw [if_neg (of_decide_eq_false hb)] at h
      refine go_ops aMi242 2 _ (f1 := (32, ([(3, .int r17_6.1), (2, .int r10_4.1), (0, .ref a0), (1, .int i1)], [.int (4 : Int32), .int i1]))) rfl ?_
      refine gg_br (b := decide (i1 = (4 : Int32))) (tg := 56) (off := 24) aMi242 rfl rfl rfl rfl (fun hb => ?_) (fun hb => ?_)
      · rw [if_pos (of_decide_eq_true hb)] at h
        refine go_le (lv1 := [(0, .ref a0), (1, .int i1), (2, .int r10_4.1), (3, .int r17_6.1)]) (aLe_of (show (List.map (fun q => q.1) ([(0, .ref a0), (1, .int i1), (2, .int r10_4.1), (3, .int r17_6.1)] : ALv)).Nodup from (by show ([0, 1, 2, 3] : List Nat).Nodup; decide)) (aSubL_cons rfl (aSubL_cons rfl (aSubL_cons rfl (aSubL_cons rfl aSubL_nil))))) ?_
        exact Tf242_b56 hd a0 i1 r10_4.1 r17_6.1 r17_6.2 _ h
      · rw [if_neg (of_decide_eq_false hb)] at h
        refine go_ops aMi242 2 _ (f1 := (38, ([(3, .int r17_6.1), (2, .int r10_4.1), (0, .ref a0), (1, .int i1)], [.int (6 : Int32), .int i1]))) rfl ?_
        refine gg_br (b := decide (¬ i1 = (6 : Int32))) (tg := 60) (off := 22) aMi242 rfl rfl rfl rfl (fun hb => ?_) (fun hb => ?_)
        · rw [if_pos (of_decide_eq_true hb)] at h
          refine go_le (lv1 := [(0, .ref a0), (1, .int i1), (2, .int r10_4.1), (3, .int r17_6.1)]) (aLe_of (show (List.map (fun q => q.1) ([(0, .ref a0), (1, .int i1), (2, .int r10_4.1), (3, .int r17_6.1)] : ALv)).Nodup from (by show ([0, 1, 2, 3] : List Nat).Nodup; decide)) (aSubL_cons rfl (aSubL_cons rfl (aSubL_cons rfl (aSubL_cons rfl aSubL_nil))))) ?_
          exact Tf242_b60 hd a0 i1 r10_4.1 r17_6.1 r17_6.2 _ h
        · rw [if_neg (of_decide_eq_false hb)] at h
          refine go_ops aMi242 1 _ (f1 := (42, ([(3, .int r17_6.1), (2, .int r10_4.1), (0, .ref a0), (1, .int i1)], [.ref a0]))) rfl ?_
          obtain ⟨b42_7, hxb42_7, h⟩ := Option.bind_eq_some_iff.mp h
          refine gg_gR aMi242 rfl rfl rfl hxb42_7 ?_
          refine go_ops aMi242 1 _ (f1 := (46, ([(3, .int r17_6.1), (2, .int r10_4.1), (0, .ref a0), (1, .int i1)], [.int (0 : Int32), .ref b42_7]))) rfl ?_
          obtain ⟨x46_8, hxx46_8, h⟩ := Option.bind_eq_some_iff.mp h
          refine gg_lI (Or.inl ⟨rfl, rfl⟩) aMi242 rfl hxx46_8 ?_
          refine go_ops aMi242 1 _ (f1 := (48, ([(3, .int r17_6.1), (2, .int r10_4.1), (0, .ref a0), (1, .int i1)], [.ref a0, .int x46_8]))) rfl ?_
          obtain ⟨b48_9, hxb48_9, h⟩ := Option.bind_eq_some_iff.mp h
          refine gg_gR aMi242 rfl rfl rfl hxb48_9 ?_
          refine go_ops aMi242 1 _ (f1 := (52, ([(3, .int r17_6.1), (2, .int r10_4.1), (0, .ref a0), (1, .int i1)], [.int (1 : Int32), .ref b48_9, .int x46_8]))) rfl ?_
          obtain ⟨x52_10, hxx52_10, h⟩ := Option.bind_eq_some_iff.mp h
          refine gg_lI (Or.inl ⟨rfl, rfl⟩) aMi242 rfl hxx52_10 ?_
          refine gg_br (b := decide (¬ x46_8 = x52_10)) (tg := 60) (off := 7) aMi242 rfl rfl rfl rfl (fun hb => ?_) (fun hb => ?_)
          · rw [if_pos (of_decide_eq_true hb)] at h
            refine go_le (lv1 := [(0, .ref a0), (1, .int i1), (2, .int r10_4.1), (3, .int r17_6.1)]) (aLe_of (show (List.map (fun q => q.1) ([(0, .ref a0), (1, .int i1), (2, .int r10_4.1), (3, .int r17_6.1)] : ALv)).Nodup from (by show ([0, 1, 2, 3] : List Nat).Nodup; decide)) (aSubL_cons rfl (aSubL_cons rfl (aSubL_cons rfl (aSubL_cons rfl aSubL_nil))))) ?_
            exact Tf242_b60 hd a0 i1 r10_4.1 r17_6.1 r17_6.2 _ h
          · rw [if_neg (of_decide_eq_false hb)] at h
            refine go_le (lv1 := [(0, .ref a0), (1, .int i1), (2, .int r10_4.1), (3, .int r17_6.1)]) (aLe_of (show (List.map (fun q => q.1) ([(0, .ref a0), (1, .int i1), (2, .int r10_4.1), (3, .int r17_6.1)] : ALv)).Nodup from (by show ([0, 1, 2, 3] : List Nat).Nodup; decide)) (aSubL_cons rfl (aSubL_cons rfl (aSubL_cons rfl (aSubL_cons rfl aSubL_nil))))) ?_
            exact Tf242_b56 hd a0 i1 r10_4.1 r17_6.1 r17_6.2 _ h
-- KernelGymModel.others (III)V
def f233_b45 (kad : Nat → Nat) (N : Nat) (Z : AZ) (a0 : Nat) (s0 : Int32) (s1 : Nat) (I : AI) : Option (Unit × AI) :=
  (pB Z I 11 30 s1 s0).bind fun I45_1 =>
  (isK Z a0 11).bind fun u50_2 =>
  (f220 kad N Z a0 I45_1).bind fun r50_3 =>
  (pI Z r50_3.2 11 27 a0 r50_3.1).bind fun I53_4 =>
  (pB Z I53_4 11 31 a0 (1 : Int32)).bind fun I58_5 =>
  some ((), I58_5)
set_option maxRecDepth 20000 in
theorem Tf233_b45 {kad : Nat → Nat} {N : Nat} {Z : AZ} {d : Nat} {t : Option Nat × (Nat × Nat)} (hd : 4 ≤ d) : ∀ (a0 : Nat) (s0 : Int32) (s1 : Nat) (I : AI) (r : Unit × AI), f233_b45 kad N Z a0 s0 s1 I = some r → aGo kad d 233 (45, ([(0, .ref a0)], [.int s0, .ref s1])) (aMem Z I, t) (qV Z t r) := by
  intro a0 s0 s1 I r h
  unfold f233_b45 at h
  obtain ⟨I45_1, hxI45_1, h⟩ := Option.bind_eq_some_iff.mp h
  refine gg_pB aMi233 rfl rfl rfl rfl (by decide) hxI45_1 ?_
  refine go_ops aMi233 2 _ (f1 := (50, ([(0, .ref a0)], [.ref a0, .ref a0]))) rfl ?_
  obtain ⟨u50_2, hxu50_2, h⟩ := Option.bind_eq_some_iff.mp h
  obtain ⟨r50_3, hxr50_3, h⟩ := Option.bind_eq_some_iff.mp h
  refine gg_cv (as := []) (r := [.ref a0]) aMi233 rfl rfl rfl aMi220 (Nat.le_of_ble_eq_true rfl) rfl (Nat.le_of_ble_eq_true rfl) (Nat.le_of_ble_eq_true rfl) (by omega) hxu50_2 (Tf220 (by omega) a0 I45_1 _ hxr50_3) ?_
  show aGo kad d 233 (53, ([(0, .ref a0)], [.int r50_3.1, .ref a0])) (aMem Z r50_3.2, t) _
  obtain ⟨I53_4, hxI53_4, h⟩ := Option.bind_eq_some_iff.mp h
  refine gg_pI aMi233 rfl rfl rfl rfl (by decide) hxI53_4 ?_
  refine go_ops aMi233 2 _ (f1 := (58, ([(0, .ref a0)], [.int (1 : Int32), .ref a0]))) rfl ?_
  obtain ⟨I58_5, hxI58_5, h⟩ := Option.bind_eq_some_iff.mp h
  refine gg_pB aMi233 rfl rfl rfl rfl (by decide) hxI58_5 ?_
  cases h
  exact go_ret aMi233 rfl rfl ⟨rfl, rfl⟩
def f233_b26 (kad : Nat → Nat) (N : Nat) (Z : AZ) (a0 : Nat) (i4 : Int32) (s0 : Int32) (s1 : Nat) (I : AI) : Option (Unit × AI) :=
  (pB Z I 11 29 s1 s0).bind fun I26_1 =>
  if ¬ ((i4 / (2 : Int32)) - (i4 / (2 : Int32)) / (2 : Int32) * (2 : Int32)) = (1 : Int32) then
    f233_b45 kad N Z a0 (0 : Int32) a0 I26_1
  else
    f233_b45 kad N Z a0 (1 : Int32) a0 I26_1
set_option maxRecDepth 20000 in
theorem Tf233_b26 {kad : Nat → Nat} {N : Nat} {Z : AZ} {d : Nat} {t : Option Nat × (Nat × Nat)} (hd : 4 ≤ d) : ∀ (a0 : Nat) (i4 : Int32) (s0 : Int32) (s1 : Nat) (I : AI) (r : Unit × AI), f233_b26 kad N Z a0 i4 s0 s1 I = some r → aGo kad d 233 (26, ([(0, .ref a0), (4, .int i4)], [.int s0, .ref s1])) (aMem Z I, t) (qV Z t r) := by
  intro a0 i4 s0 s1 I r h
  unfold f233_b26 at h
  obtain ⟨I26_1, hxI26_1, h⟩ := Option.bind_eq_some_iff.mp h
  refine gg_pB aMi233 rfl rfl rfl rfl (by decide) hxI26_1 ?_
  refine go_ops aMi233 7 _ (f1 := (37, ([(0, .ref a0), (4, .int i4)], [.int (1 : Int32), .int ((i4 / (2 : Int32)) - (i4 / (2 : Int32)) / (2 : Int32) * (2 : Int32)), .ref a0]))) rfl ?_
  refine gg_br (b := decide (¬ ((i4 / (2 : Int32)) - (i4 / (2 : Int32)) / (2 : Int32) * (2 : Int32)) = (1 : Int32))) (tg := 44) (off := 7) aMi233 rfl rfl rfl rfl (fun hb => ?_) (fun hb => ?_)
  · rw [if_pos (of_decide_eq_true hb)] at h
    refine go_ops aMi233 1 _ (f1 := (45, ([(0, .ref a0), (4, .int i4)], [.int (0 : Int32), .ref a0]))) rfl ?_
    refine go_le (lv1 := [(0, .ref a0)]) (aLe_of (show (List.map (fun q => q.1) ([(0, .ref a0)] : ALv)).Nodup from (by show ([0] : List Nat).Nodup; decide)) (aSubL_cons rfl aSubL_nil)) ?_
    exact Tf233_b45 hd a0 (0 : Int32) a0 I26_1 _ h
  · rw [if_neg (of_decide_eq_false hb)] at h
    refine go_ops aMi233 2 _ (f1 := (45, ([(0, .ref a0), (4, .int i4)], [.int (1 : Int32), .ref a0]))) rfl ?_
    refine go_le (lv1 := [(0, .ref a0)]) (aLe_of (show (List.map (fun q => q.1) ([(0, .ref a0)] : ALv)).Nodup from (by show ([0] : List Nat).Nodup; decide)) (aSubL_cons rfl aSubL_nil)) ?_
    exact Tf233_b45 hd a0 (1 : Int32) a0 I26_1 _ h
def f233_b246 (kad : Nat → Nat) (N : Nat) (Z : AZ)  (I : AI) : Option (Unit × AI) :=
  some ((), I)
set_option maxRecDepth 20000 in
theorem Tf233_b246 {kad : Nat → Nat} {N : Nat} {Z : AZ} {d : Nat} {t : Option Nat × (Nat × Nat)} (hd : 4 ≤ d) : ∀  (I : AI) (r : Unit × AI), f233_b246 kad N Z  I = some r → aGo kad d 233 (246, ([], [])) (aMem Z I, t) (qV Z t r) := by
  intro  I r h
  unfold f233_b246 at h
  cases h
  exact go_ret aMi233 rfl rfl ⟨rfl, rfl⟩
def f233_b220 (kad : Nat → Nat) (N : Nat) (Z : AZ) (a0 : Nat) (i1 : Int32) (i3 : Int32) (I : AI) : Option (Unit × AI) :=
  if ¬ i1 = (25 : Int32) then
    f233_b246 kad N Z  I
  else
    (gR Z I 11 36 a0).bind fun b227_1 =>
    (gI Z I 11 37 a0).bind fun x231_2 =>
    (sI Z I 100 b227_1 x231_2 i3).bind fun I235_3 =>
    (gI Z I235_3 11 37 a0).bind fun x238_4 =>
    (pI Z I235_3 11 37 a0 (x238_4 + (1 : Int32))).bind fun I243_5 =>
    f233_b246 kad N Z  I243_5
set_option maxRecDepth 20000 in
theorem Tf233_b220 {kad : Nat → Nat} {N : Nat} {Z : AZ} {d : Nat} {t : Option Nat × (Nat × Nat)} (hd : 4 ≤ d) : ∀ (a0 : Nat) (i1 : Int32) (i3 : Int32) (I : AI) (r : Unit × AI), f233_b220 kad N Z a0 i1 i3 I = some r → aGo kad d 233 (220, ([(0, .ref a0), (1, .int i1), (3, .int i3)], [])) (aMem Z I, t) (qV Z t r) := by
  intro a0 i1 i3 I r h
  unfold f233_b220 at h
  refine go_ops aMi233 2 _ (f1 := (223, ([(0, .ref a0), (1, .int i1), (3, .int i3)], [.int (25 : Int32), .int i1]))) rfl ?_
  refine gg_br (b := decide (¬ i1 = (25 : Int32))) (tg := 246) (off := 23) aMi233 rfl rfl rfl rfl (fun hb => ?_) (fun hb => ?_)
  · rw [if_pos (of_decide_eq_true hb)] at h
    refine go_le (lv1 := []) (aLe_of (show (List.map (fun q => q.1) ([] : ALv)).Nodup from (by show ([] : List Nat).Nodup; decide)) aSubL_nil) ?_
    exact Tf233_b246 hd  I _ h
  · rw [if_neg (of_decide_eq_false hb)] at h
    refine go_ops aMi233 1 _ (f1 := (227, ([(0, .ref a0), (1, .int i1), (3, .int i3)], [.ref a0]))) rfl ?_
    obtain ⟨b227_1, hxb227_1, h⟩ := Option.bind_eq_some_iff.mp h
    refine gg_gR aMi233 rfl rfl rfl hxb227_1 ?_
    refine go_ops aMi233 1 _ (f1 := (231, ([(0, .ref a0), (1, .int i1), (3, .int i3)], [.ref a0, .ref b227_1]))) rfl ?_
    obtain ⟨x231_2, hxx231_2, h⟩ := Option.bind_eq_some_iff.mp h
    refine gg_gI aMi233 rfl rfl rfl hxx231_2 ?_
    refine go_ops aMi233 1 _ (f1 := (235, ([(0, .ref a0), (1, .int i1), (3, .int i3)], [.int i3, .int x231_2, .ref b227_1]))) rfl ?_
    obtain ⟨I235_3, hxI235_3, h⟩ := Option.bind_eq_some_iff.mp h
    refine gg_sI (Or.inl ⟨rfl, rfl⟩) aMi233 rfl hxI235_3 ?_
    refine go_ops aMi233 2 _ (f1 := (238, ([(0, .ref a0), (1, .int i1), (3, .int i3)], [.ref a0, .ref a0]))) rfl ?_
    obtain ⟨x238_4, hxx238_4, h⟩ := Option.bind_eq_some_iff.mp h
    refine gg_gI aMi233 rfl rfl rfl hxx238_4 ?_
    refine go_ops aMi233 2 _ (f1 := (243, ([(0, .ref a0), (1, .int i1), (3, .int i3)], [.int (x238_4 + (1 : Int32)), .ref a0]))) rfl ?_
    obtain ⟨I243_5, hxI243_5, h⟩ := Option.bind_eq_some_iff.mp h
    refine gg_pI aMi233 rfl rfl rfl rfl (by decide) hxI243_5 ?_
    refine go_le (lv1 := []) (aLe_of (show (List.map (fun q => q.1) ([] : ALv)).Nodup from (by show ([] : List Nat).Nodup; decide)) aSubL_nil) ?_
    exact Tf233_b246 hd  I243_5 _ h
def f233_b216 (kad : Nat → Nat) (N : Nat) (Z : AZ) (a0 : Nat) (i1 : Int32) (i3 : Int32) (s0 : Int32) (s1 : Int32) (s2 : Nat) (I : AI) : Option (Unit × AI) :=
  (pI Z I 11 39 s2 (s1 + s0)).bind fun I217_1 =>
  f233_b220 kad N Z a0 i1 i3 I217_1
set_option maxRecDepth 20000 in
theorem Tf233_b216 {kad : Nat → Nat} {N : Nat} {Z : AZ} {d : Nat} {t : Option Nat × (Nat × Nat)} (hd : 4 ≤ d) : ∀ (a0 : Nat) (i1 : Int32) (i3 : Int32) (s0 : Int32) (s1 : Int32) (s2 : Nat) (I : AI) (r : Unit × AI), f233_b216 kad N Z a0 i1 i3 s0 s1 s2 I = some r → aGo kad d 233 (216, ([(0, .ref a0), (1, .int i1), (3, .int i3)], [.int s0, .int s1, .ref s2])) (aMem Z I, t) (qV Z t r) := by
  intro a0 i1 i3 s0 s1 s2 I r h
  unfold f233_b216 at h
  refine go_ops aMi233 1 _ (f1 := (217, ([(0, .ref a0), (1, .int i1), (3, .int i3)], [.int (s1 + s0), .ref s2]))) rfl ?_
  obtain ⟨I217_1, hxI217_1, h⟩ := Option.bind_eq_some_iff.mp h
  refine gg_pI aMi233 rfl rfl rfl rfl (by decide) hxI217_1 ?_
  exact Tf233_b220 hd a0 i1 i3 I217_1 _ h
def f233_b200 (kad : Nat → Nat) (N : Nat) (Z : AZ) (a0 : Nat) (i1 : Int32) (i3 : Int32) (i4 : Int32) (s0 : Int32) (s1 : Int32) (s2 : Nat) (I : AI) : Option (Unit × AI) :=
  (sI Z I 100 s2 s1 s0).bind fun I200_1 =>
  (gI Z I200_1 11 39 a0).bind fun x203_2 =>
  if i4 = 0 then
    f233_b216 kad N Z a0 i1 i3 (0 : Int32) x203_2 a0 I200_1
  else
    f233_b216 kad N Z a0 i1 i3 (1 : Int32) x203_2 a0 I200_1
set_option maxRecDepth 20000 in
theorem Tf233_b200 {kad : Nat → Nat} {N : Nat} {Z : AZ} {d : Nat} {t : Option Nat × (Nat × Nat)} (hd : 4 ≤ d) : ∀ (a0 : Nat) (i1 : Int32) (i3 : Int32) (i4 : Int32) (s0 : Int32) (s1 : Int32) (s2 : Nat) (I : AI) (r : Unit × AI), f233_b200 kad N Z a0 i1 i3 i4 s0 s1 s2 I = some r → aGo kad d 233 (200, ([(0, .ref a0), (1, .int i1), (3, .int i3), (4, .int i4)], [.int s0, .int s1, .ref s2])) (aMem Z I, t) (qV Z t r) := by
  intro a0 i1 i3 i4 s0 s1 s2 I r h
  unfold f233_b200 at h
  obtain ⟨I200_1, hxI200_1, h⟩ := Option.bind_eq_some_iff.mp h
  refine gg_sI (Or.inl ⟨rfl, rfl⟩) aMi233 rfl hxI200_1 ?_
  refine go_ops aMi233 2 _ (f1 := (203, ([(0, .ref a0), (1, .int i1), (3, .int i3), (4, .int i4)], [.ref a0, .ref a0]))) rfl ?_
  obtain ⟨x203_2, hxx203_2, h⟩ := Option.bind_eq_some_iff.mp h
  refine gg_gI aMi233 rfl rfl rfl hxx203_2 ?_
  refine go_ops aMi233 1 _ (f1 := (208, ([(0, .ref a0), (1, .int i1), (3, .int i3), (4, .int i4)], [.int i4, .int x203_2, .ref a0]))) rfl ?_
  refine gg_br (b := decide (i4 = 0)) (tg := 215) (off := 7) aMi233 rfl rfl rfl rfl (fun hb => ?_) (fun hb => ?_)
  · rw [if_pos (of_decide_eq_true hb)] at h
    refine go_ops aMi233 1 _ (f1 := (216, ([(0, .ref a0), (1, .int i1), (3, .int i3), (4, .int i4)], [.int (0 : Int32), .int x203_2, .ref a0]))) rfl ?_
    refine go_le (lv1 := [(0, .ref a0), (1, .int i1), (3, .int i3)]) (aLe_of (show (List.map (fun q => q.1) ([(0, .ref a0), (1, .int i1), (3, .int i3)] : ALv)).Nodup from (by show ([0, 1, 3] : List Nat).Nodup; decide)) (aSubL_cons rfl (aSubL_cons rfl (aSubL_cons rfl aSubL_nil)))) ?_
    exact Tf233_b216 hd a0 i1 i3 (0 : Int32) x203_2 a0 I200_1 _ h
  · rw [if_neg (of_decide_eq_false hb)] at h
    refine go_ops aMi233 2 _ (f1 := (216, ([(0, .ref a0), (1, .int i1), (3, .int i3), (4, .int i4)], [.int (1 : Int32), .int x203_2, .ref a0]))) rfl ?_
    refine go_le (lv1 := [(0, .ref a0), (1, .int i1), (3, .int i3)]) (aLe_of (show (List.map (fun q => q.1) ([(0, .ref a0), (1, .int i1), (3, .int i3)] : ALv)).Nodup from (by show ([0, 1, 3] : List Nat).Nodup; decide)) (aSubL_cons rfl (aSubL_cons rfl (aSubL_cons rfl aSubL_nil)))) ?_
    exact Tf233_b216 hd a0 i1 i3 (1 : Int32) x203_2 a0 I200_1 _ h
def f233_b174 (kad : Nat → Nat) (N : Nat) (Z : AZ) (a0 : Nat) (i1 : Int32) (i2 : Int32) (i3 : Int32) (s0 : Int32) (I : AI) : Option (Unit × AI) :=
  (gR Z I 11 26 a0).bind fun b177_1 =>
  if s0 = 0 then
    f233_b200 kad N Z a0 i1 i3 s0 (65535 : Int32) i2 b177_1 I
  else
    (gR Z I 11 42 a0).bind fun b187_2 =>
    (gI Z I 11 39 a0).bind fun x191_3 =>
    (lI Z I 100 b187_2 x191_3).bind fun x194_4 =>
    f233_b200 kad N Z a0 i1 i3 s0 x194_4 i2 b177_1 I
set_option maxRecDepth 20000 in
theorem Tf233_b174 {kad : Nat → Nat} {N : Nat} {Z : AZ} {d : Nat} {t : Option Nat × (Nat × Nat)} (hd : 4 ≤ d) : ∀ (a0 : Nat) (i1 : Int32) (i2 : Int32) (i3 : Int32) (s0 : Int32) (I : AI) (r : Unit × AI), f233_b174 kad N Z a0 i1 i2 i3 s0 I = some r → aGo kad d 233 (174, ([(0, .ref a0), (1, .int i1), (2, .int i2), (3, .int i3)], [.int s0])) (aMem Z I, t) (qV Z t r) := by
  intro a0 i1 i2 i3 s0 I r h
  unfold f233_b174 at h
  refine go_ops aMi233 2 _ (f1 := (177, ([(4, .int s0), (0, .ref a0), (1, .int i1), (2, .int i2), (3, .int i3)], [.ref a0]))) rfl ?_
  obtain ⟨b177_1, hxb177_1, h⟩ := Option.bind_eq_some_iff.mp h
  refine gg_gR aMi233 rfl rfl rfl hxb177_1 ?_
  refine go_ops aMi233 2 _ (f1 := (183, ([(4, .int s0), (0, .ref a0), (1, .int i1), (2, .int i2), (3, .int i3)], [.int s0, .int i2, .ref b177_1]))) rfl ?_
  refine gg_br (b := decide (s0 = 0)) (tg := 198) (off := 15) aMi233 rfl rfl rfl rfl (fun hb => ?_) (fun hb => ?_)
  · rw [if_pos (of_decide_eq_true hb)] at h
    refine gg_kI (Or.inl ⟨rfl, rfl⟩) aMi233 rfl rfl ?_
    refine go_le (lv1 := [(0, .ref a0), (1, .int i1), (3, .int i3), (4, .int s0)]) (aLe_of (show (List.map (fun q => q.1) ([(0, .ref a0), (1, .int i1), (3, .int i3), (4, .int s0)] : ALv)).Nodup from (by show ([0, 1, 3, 4] : List Nat).Nodup; decide)) (aSubL_cons rfl (aSubL_cons rfl (aSubL_cons rfl (aSubL_cons rfl aSubL_nil))))) ?_
    exact Tf233_b200 hd a0 i1 i3 s0 (65535 : Int32) i2 b177_1 I _ h
  · rw [if_neg (of_decide_eq_false hb)] at h
    refine go_ops aMi233 1 _ (f1 := (187, ([(4, .int s0), (0, .ref a0), (1, .int i1), (2, .int i2), (3, .int i3)], [.ref a0, .int i2, .ref b177_1]))) rfl ?_
    obtain ⟨b187_2, hxb187_2, h⟩ := Option.bind_eq_some_iff.mp h
    refine gg_gR aMi233 rfl rfl rfl hxb187_2 ?_
    refine go_ops aMi233 1 _ (f1 := (191, ([(4, .int s0), (0, .ref a0), (1, .int i1), (2, .int i2), (3, .int i3)], [.ref a0, .ref b187_2, .int i2, .ref b177_1]))) rfl ?_
    obtain ⟨x191_3, hxx191_3, h⟩ := Option.bind_eq_some_iff.mp h
    refine gg_gI aMi233 rfl rfl rfl hxx191_3 ?_
    obtain ⟨x194_4, hxx194_4, h⟩ := Option.bind_eq_some_iff.mp h
    refine gg_lI (Or.inl ⟨rfl, rfl⟩) aMi233 rfl hxx194_4 ?_
    refine go_ops aMi233 1 _ (f1 := (200, ([(4, .int s0), (0, .ref a0), (1, .int i1), (2, .int i2), (3, .int i3)], [.int x194_4, .int i2, .ref b177_1]))) rfl ?_
    refine go_le (lv1 := [(0, .ref a0), (1, .int i1), (3, .int i3), (4, .int s0)]) (aLe_of (show (List.map (fun q => q.1) ([(0, .ref a0), (1, .int i1), (3, .int i3), (4, .int s0)] : ALv)).Nodup from (by show ([0, 1, 3, 4] : List Nat).Nodup; decide)) (aSubL_cons rfl (aSubL_cons rfl (aSubL_cons rfl (aSubL_cons rfl aSubL_nil))))) ?_
    exact Tf233_b200 hd a0 i1 i3 s0 x194_4 i2 b177_1 I _ h
def f233_b152 (kad : Nat → Nat) (N : Nat) (Z : AZ) (a0 : Nat) (i1 : Int32) (i2 : Int32) (i3 : Int32) (I : AI) : Option (Unit × AI) :=
  if ¬ i1 = (24 : Int32) then
    f233_b220 kad N Z a0 i1 i3 I
  else
    (gI Z I 11 39 a0).bind fun x159_1 =>
    (isK Z a0 11).bind fun u163_2 =>
    (f225 kad N Z a0 I).bind fun r163_3 =>
    if r163_3.1 ≤ x159_1 then
      f233_b174 kad N Z a0 i1 i2 i3 (0 : Int32) r163_3.2
    else
      f233_b174 kad N Z a0 i1 i2 i3 (1 : Int32) r163_3.2
set_option maxRecDepth 20000 in
theorem Tf233_b152 {kad : Nat → Nat} {N : Nat} {Z : AZ} {d : Nat} {t : Option Nat × (Nat × Nat)} (hd : 4 ≤ d) : ∀ (a0 : Nat) (i1 : Int32) (i2 : Int32) (i3 : Int32) (I : AI) (r : Unit × AI), f233_b152 kad N Z a0 i1 i2 i3 I = some r → aGo kad d 233 (152, ([(0, .ref a0), (1, .int i1), (2, .int i2), (3, .int i3)], [])) (aMem Z I, t) (qV Z t r) := by
  intro a0 i1 i2 i3 I r h
  unfold f233_b152 at h
  refine go_ops aMi233 2 _ (f1 := (155, ([(0, .ref a0), (1, .int i1), (2, .int i2), (3, .int i3)], [.int (24 : Int32), .int i1]))) rfl ?_
  refine gg_br (b := decide (¬ i1 = (24 : Int32))) (tg := 220) (off := 65) aMi233 rfl rfl rfl rfl (fun hb => ?_) (fun hb => ?_)
  · rw [if_pos (of_decide_eq_true hb)] at h
    refine go_le (lv1 := [(0, .ref a0), (1, .int i1), (3, .int i3)]) (aLe_of (show (List.map (fun q => q.1) ([(0, .ref a0), (1, .int i1), (3, .int i3)] : ALv)).Nodup from (by show ([0, 1, 3] : List Nat).Nodup; decide)) (aSubL_cons rfl (aSubL_cons rfl (aSubL_cons rfl aSubL_nil)))) ?_
    exact Tf233_b220 hd a0 i1 i3 I _ h
  · rw [if_neg (of_decide_eq_false hb)] at h
    refine go_ops aMi233 1 _ (f1 := (159, ([(0, .ref a0), (1, .int i1), (2, .int i2), (3, .int i3)], [.ref a0]))) rfl ?_
    obtain ⟨x159_1, hxx159_1, h⟩ := Option.bind_eq_some_iff.mp h
    refine gg_gI aMi233 rfl rfl rfl hxx159_1 ?_
    refine go_ops aMi233 1 _ (f1 := (163, ([(0, .ref a0), (1, .int i1), (2, .int i2), (3, .int i3)], [.ref a0, .int x159_1]))) rfl ?_
    obtain ⟨u163_2, hxu163_2, h⟩ := Option.bind_eq_some_iff.mp h
    obtain ⟨r163_3, hxr163_3, h⟩ := Option.bind_eq_some_iff.mp h
    refine gg_cv (as := []) (r := [.int x159_1]) aMi233 rfl rfl rfl aMi225 (Nat.le_of_ble_eq_true rfl) rfl (Nat.le_of_ble_eq_true rfl) (Nat.le_of_ble_eq_true rfl) (by omega) hxu163_2 (Tf225 (by omega) a0 I _ hxr163_3) ?_
    show aGo kad d 233 (166, ([(0, .ref a0), (1, .int i1), (2, .int i2), (3, .int i3)], [.int r163_3.1, .int x159_1])) (aMem Z r163_3.2, t) _
    refine gg_br (b := decide (r163_3.1 ≤ x159_1)) (tg := 173) (off := 7) aMi233 rfl rfl rfl rfl (fun hb => ?_) (fun hb => ?_)
    · rw [if_pos (of_decide_eq_true hb)] at h
      refine go_ops aMi233 1 _ (f1 := (174, ([(0, .ref a0), (1, .int i1), (2, .int i2), (3, .int i3)], [.int (0 : Int32)]))) rfl ?_
      exact Tf233_b174 hd a0 i1 i2 i3 (0 : Int32) r163_3.2 _ h
    · rw [if_neg (of_decide_eq_false hb)] at h
      refine go_ops aMi233 2 _ (f1 := (174, ([(0, .ref a0), (1, .int i1), (2, .int i2), (3, .int i3)], [.int (1 : Int32)]))) rfl ?_
      exact Tf233_b174 hd a0 i1 i2 i3 (1 : Int32) r163_3.2 _ h
def f233_b133 (kad : Nat → Nat) (N : Nat) (Z : AZ) (a0 : Nat) (i1 : Int32) (i2 : Int32) (i3 : Int32) (s0 : Int32) (s1 : Nat) (I : AI) : Option (Unit × AI) :=
  (pB Z I 11 31 s1 s0).bind fun I133_1 =>
  if ¬ i1 = (23 : Int32) then
    f233_b152 kad N Z a0 i1 i2 i3 I133_1
  else
    (pI Z I133_1 11 34 a0 i3).bind fun I144_2 =>
    (pI Z I144_2 11 35 a0 (0 : Int32)).bind fun I149_3 =>
    f233_b152 kad N Z a0 i1 i2 i3 I149_3
set_option maxRecDepth 20000 in
theorem Tf233_b133 {kad : Nat → Nat} {N : Nat} {Z : AZ} {d : Nat} {t : Option Nat × (Nat × Nat)} (hd : 4 ≤ d) : ∀ (a0 : Nat) (i1 : Int32) (i2 : Int32) (i3 : Int32) (s0 : Int32) (s1 : Nat) (I : AI) (r : Unit × AI), f233_b133 kad N Z a0 i1 i2 i3 s0 s1 I = some r → aGo kad d 233 (133, ([(0, .ref a0), (1, .int i1), (2, .int i2), (3, .int i3)], [.int s0, .ref s1])) (aMem Z I, t) (qV Z t r) := by
  intro a0 i1 i2 i3 s0 s1 I r h
  unfold f233_b133 at h
  obtain ⟨I133_1, hxI133_1, h⟩ := Option.bind_eq_some_iff.mp h
  refine gg_pB aMi233 rfl rfl rfl rfl (by decide) hxI133_1 ?_
  refine go_ops aMi233 2 _ (f1 := (139, ([(0, .ref a0), (1, .int i1), (2, .int i2), (3, .int i3)], [.int (23 : Int32), .int i1]))) rfl ?_
  refine gg_br (b := decide (¬ i1 = (23 : Int32))) (tg := 152) (off := 13) aMi233 rfl rfl rfl rfl (fun hb => ?_) (fun hb => ?_)
  · rw [if_pos (of_decide_eq_true hb)] at h
    exact Tf233_b152 hd a0 i1 i2 i3 I133_1 _ h
  · rw [if_neg (of_decide_eq_false hb)] at h
    refine go_ops aMi233 2 _ (f1 := (144, ([(0, .ref a0), (1, .int i1), (2, .int i2), (3, .int i3)], [.int i3, .ref a0]))) rfl ?_
    obtain ⟨I144_2, hxI144_2, h⟩ := Option.bind_eq_some_iff.mp h
    refine gg_pI aMi233 rfl rfl rfl rfl (by decide) hxI144_2 ?_
    refine go_ops aMi233 2 _ (f1 := (149, ([(0, .ref a0), (1, .int i1), (2, .int i2), (3, .int i3)], [.int (0 : Int32), .ref a0]))) rfl ?_
    obtain ⟨I149_3, hxI149_3, h⟩ := Option.bind_eq_some_iff.mp h
    refine gg_pI aMi233 rfl rfl rfl rfl (by decide) hxI149_3 ?_
    exact Tf233_b152 hd a0 i1 i2 i3 I149_3 _ h
def f233_b128 (kad : Nat → Nat) (N : Nat) (Z : AZ) (a0 : Nat) (i1 : Int32) (i2 : Int32) (i3 : Int32) (s0 : Nat) (I : AI) : Option (Unit × AI) :=
  f233_b133 kad N Z a0 i1 i2 i3 (1 : Int32) s0 I
set_option maxRecDepth 20000 in
theorem Tf233_b128 {kad : Nat → Nat} {N : Nat} {Z : AZ} {d : Nat} {t : Option Nat × (Nat × Nat)} (hd : 4 ≤ d) : ∀ (a0 : Nat) (i1 : Int32) (i2 : Int32) (i3 : Int32) (s0 : Nat) (I : AI) (r : Unit × AI), f233_b128 kad N Z a0 i1 i2 i3 s0 I = some r → aGo kad d 233 (128, ([(0, .ref a0), (1, .int i1), (2, .int i2), (3, .int i3)], [.ref s0])) (aMem Z I, t) (qV Z t r) := by
  intro a0 i1 i2 i3 s0 I r h
  unfold f233_b128 at h
  refine go_ops aMi233 2 _ (f1 := (133, ([(0, .ref a0), (1, .int i1), (2, .int i2), (3, .int i3)], [.int (1 : Int32), .ref s0]))) rfl ?_
  exact Tf233_b133 hd a0 i1 i2 i3 (1 : Int32) s0 I _ h
def f233_b132 (kad : Nat → Nat) (N : Nat) (Z : AZ) (a0 : Nat) (i1 : Int32) (i2 : Int32) (i3 : Int32) (s0 : Nat) (I : AI) : Option (Unit × AI) :=
  f233_b133 kad N Z a0 i1 i2 i3 (0 : Int32) s0 I
set_option maxRecDepth 20000 in
theorem Tf233_b132 {kad : Nat → Nat} {N : Nat} {Z : AZ} {d : Nat} {t : Option Nat × (Nat × Nat)} (hd : 4 ≤ d) : ∀ (a0 : Nat) (i1 : Int32) (i2 : Int32) (i3 : Int32) (s0 : Nat) (I : AI) (r : Unit × AI), f233_b132 kad N Z a0 i1 i2 i3 s0 I = some r → aGo kad d 233 (132, ([(0, .ref a0), (1, .int i1), (2, .int i2), (3, .int i3)], [.ref s0])) (aMem Z I, t) (qV Z t r) := by
  intro a0 i1 i2 i3 s0 I r h
  unfold f233_b132 at h
  refine go_ops aMi233 1 _ (f1 := (133, ([(0, .ref a0), (1, .int i1), (2, .int i2), (3, .int i3)], [.int (0 : Int32), .ref s0]))) rfl ?_
  exact Tf233_b133 hd a0 i1 i2 i3 (0 : Int32) s0 I _ h
def f233_b104 (kad : Nat → Nat) (N : Nat) (Z : AZ) (a0 : Nat) (i1 : Int32) (i2 : Int32) (i3 : Int32) (s0 : Int32) (s1 : Int32) (s2 : Nat) (I : AI) : Option (Unit × AI) :=
  (pI Z I 11 27 s2 (s1 + s0)).bind fun I105_1 =>
  if i1 = (19 : Int32) then
    f233_b128 kad N Z a0 i1 i2 i3 a0 I105_1
  else
    if i1 = (20 : Int32) then
      f233_b132 kad N Z a0 i1 i2 i3 a0 I105_1
    else
      (gI Z I105_1 11 31 a0).bind fun x122_2 =>
      if x122_2 = 0 then
        f233_b132 kad N Z a0 i1 i2 i3 a0 I105_1
      else
        f233_b128 kad N Z a0 i1 i2 i3 a0 I105_1
set_option maxRecDepth 20000 in
theorem Tf233_b104 {kad : Nat → Nat} {N : Nat} {Z : AZ} {d : Nat} {t : Option Nat × (Nat × Nat)} (hd : 4 ≤ d) : ∀ (a0 : Nat) (i1 : Int32) (i2 : Int32) (i3 : Int32) (s0 : Int32) (s1 : Int32) (s2 : Nat) (I : AI) (r : Unit × AI), f233_b104 kad N Z a0 i1 i2 i3 s0 s1 s2 I = some r → aGo kad d 233 (104, ([(0, .ref a0), (1, .int i1), (2, .int i2), (3, .int i3)], [.int s0, .int s1, .ref s2])) (aMem Z I, t) (qV Z t r) := by
  intro a0 i1 i2 i3 s0 s1 s2 I r h
  unfold f233_b104 at h
  refine go_ops aMi233 1 _ (f1 := (105, ([(0, .ref a0), (1, .int i1), (2, .int i2), (3, .int i3)], [.int (s1 + s0), .ref s2]))) rfl ?_
  obtain ⟨I105_1, hxI105_1, h⟩ := Option.bind_eq_some_iff.mp h
  refine gg_pI aMi233 rfl rfl rfl rfl (by decide) hxI105_1 ?_
  refine go_ops aMi233 3 _ (f1 := (112, ([(0, .ref a0), (1, .int i1), (2, .int i2), (3, .int i3)], [.int (19 : Int32), .int i1, .ref a0]))) rfl ?_
  refine gg_br (b := decide (i1 = (19 : Int32))) (tg := 128) (off := 16) aMi233 rfl rfl rfl rfl (fun hb => ?_) (fun hb => ?_)
  · rw [if_pos (of_decide_eq_true hb)] at h
    exact Tf233_b128 hd a0 i1 i2 i3 a0 I105_1 _ h
  · rw [if_neg (of_decide_eq_false hb)] at h
    refine go_ops aMi233 2 _ (f1 := (118, ([(0, .ref a0), (1, .int i1), (2, .int i2), (3, .int i3)], [.int (20 : Int32), .int i1, .ref a0]))) rfl ?_
    refine gg_br (b := decide (i1 = (20 : Int32))) (tg := 132) (off := 14) aMi233 rfl rfl rfl rfl (fun hb => ?_) (fun hb => ?_)
    · rw [if_pos (of_decide_eq_true hb)] at h
      exact Tf233_b132 hd a0 i1 i2 i3 a0 I105_1 _ h
    · rw [if_neg (of_decide_eq_false hb)] at h
      refine go_ops aMi233 1 _ (f1 := (122, ([(0, .ref a0), (1, .int i1), (2, .int i2), (3, .int i3)], [.ref a0, .ref a0]))) rfl ?_
      obtain ⟨x122_2, hxx122_2, h⟩ := Option.bind_eq_some_iff.mp h
      refine gg_gI aMi233 rfl rfl rfl hxx122_2 ?_
      refine gg_br (b := decide (x122_2 = 0)) (tg := 132) (off := 7) aMi233 rfl rfl rfl rfl (fun hb => ?_) (fun hb => ?_)
      · rw [if_pos (of_decide_eq_true hb)] at h
        exact Tf233_b132 hd a0 i1 i2 i3 a0 I105_1 _ h
      · rw [if_neg (of_decide_eq_false hb)] at h
        exact Tf233_b128 hd a0 i1 i2 i3 a0 I105_1 _ h
def f233_b103 (kad : Nat → Nat) (N : Nat) (Z : AZ) (a0 : Nat) (i1 : Int32) (i2 : Int32) (i3 : Int32) (s0 : Int32) (s1 : Nat) (I : AI) : Option (Unit × AI) :=
  f233_b104 kad N Z a0 i1 i2 i3 (2 : Int32) s0 s1 I
set_option maxRecDepth 20000 in
theorem Tf233_b103 {kad : Nat → Nat} {N : Nat} {Z : AZ} {d : Nat} {t : Option Nat × (Nat × Nat)} (hd : 4 ≤ d) : ∀ (a0 : Nat) (i1 : Int32) (i2 : Int32) (i3 : Int32) (s0 : Int32) (s1 : Nat) (I : AI) (r : Unit × AI), f233_b103 kad N Z a0 i1 i2 i3 s0 s1 I = some r → aGo kad d 233 (103, ([(0, .ref a0), (1, .int i1), (2, .int i2), (3, .int i3)], [.int s0, .ref s1])) (aMem Z I, t) (qV Z t r) := by
  intro a0 i1 i2 i3 s0 s1 I r h
  unfold f233_b103 at h
  refine go_ops aMi233 1 _ (f1 := (104, ([(0, .ref a0), (1, .int i1), (2, .int i2), (3, .int i3)], [.int (2 : Int32), .int s0, .ref s1]))) rfl ?_
  exact Tf233_b104 hd a0 i1 i2 i3 (2 : Int32) s0 s1 I _ h
def f233 (kad : Nat → Nat) (N : Nat) (Z : AZ) (a0 : Nat) (i1 : Int32) (i2 : Int32) (i3 : Int32) (I : AI) : Option (Unit × AI) :=
  if ¬ i1 = (21 : Int32) then
    if ¬ i1 = (26 : Int32) then
      (gI Z I 11 27 a0).bind fun x76_1 =>
      if ¬ i1 = (22 : Int32) then
        f233_b103 kad N Z a0 i1 i2 i3 x76_1 a0 I
      else
        (gI Z I 11 32 a0).bind fun x86_2 =>
        if ¬ x86_2 = 0 then
          f233_b103 kad N Z a0 i1 i2 i3 x76_1 a0 I
        else
          (gI Z I 11 33 a0).bind fun x93_3 =>
          if ¬ x93_3 = 0 then
            f233_b103 kad N Z a0 i1 i2 i3 x76_1 a0 I
          else
            f233_b104 kad N Z a0 i1 i2 i3 (0 : Int32) x76_1 a0 I
    else
      (isK Z a0 11).bind fun u70_4 =>
      (f242 kad N Z a0 i3 I).bind fun r70_5 =>
      some ((), r70_5.2)
  else
    (isK Z a0 11).bind fun u7_6 =>
    (f220 kad N Z a0 I).bind fun r7_7 =>
    if ¬ (r7_7.1 - r7_7.1 / (2 : Int32) * (2 : Int32)) = (1 : Int32) then
      f233_b26 kad N Z a0 r7_7.1 (0 : Int32) a0 r7_7.2
    else
      f233_b26 kad N Z a0 r7_7.1 (1 : Int32) a0 r7_7.2
set_option maxRecDepth 20000 in
theorem Tf233 {kad : Nat → Nat} {N : Nat} {Z : AZ} {d : Nat} {t : Option Nat × (Nat × Nat)} (hd : 4 ≤ d) : ∀ (a0 : Nat) (i1 : Int32) (i2 : Int32) (i3 : Int32) (I : AI) (r : Unit × AI), f233 kad N Z a0 i1 i2 i3 I = some r → aGo kad d 233 (0, ([(0, .ref a0), (1, .int i1), (2, .int i2), (3, .int i3)], [])) (aMem Z I, t) (qV Z t r) := by
  intro a0 i1 i2 i3 I r h
  unfold f233 at h
  refine go_ops aMi233 2 _ (f1 := (3, ([(0, .ref a0), (1, .int i1), (2, .int i2), (3, .int i3)], [.int (21 : Int32), .int i1]))) rfl ?_
  refine gg_br (b := decide (¬ i1 = (21 : Int32))) (tg := 62) (off := 59) aMi233 rfl rfl rfl rfl (fun hb => ?_) (fun hb => ?_)
  · rw [if_pos (of_decide_eq_true hb)] at h
    refine go_ops aMi233 2 _ (f1 := (65, ([(0, .ref a0), (1, .int i1), (2, .int i2), (3, .int i3)], [.int (26 : Int32), .int i1]))) rfl ?_
    refine gg_br (b := decide (¬ i1 = (26 : Int32))) (tg := 74) (off := 9) aMi233 rfl rfl rfl rfl (fun hb => ?_) (fun hb => ?_)
    · rw [if_pos (of_decide_eq_true hb)] at h
      refine go_ops aMi233 2 _ (f1 := (76, ([(0, .ref a0), (1, .int i1), (2, .int i2), (3, .int i3)], [.ref a0, .ref a0]))) rfl ?_
      obtain ⟨x76_1, hxx76_1, h⟩ := Option.bind_eq_some_iff.mp h
      refine gg_gI aMi233 rfl rfl rfl hxx76_1 ?_
      refine go_ops aMi233 2 _ (f1 := (82, ([(0, .ref a0), (1, .int i1), (2, .int i2), (3, .int i3)], [.int (22 : Int32), .int i1, .int x76_1, .ref a0]))) rfl ?_
      refine gg_br (b := decide (¬ i1 = (22 : Int32))) (tg := 103) (off := 21) aMi233 rfl rfl rfl rfl (fun hb => ?_) (fun hb => ?_)
      · rw [if_pos (of_decide_eq_true hb)] at h
        exact Tf233_b103 hd a0 i1 i2 i3 x76_1 a0 I _ h
      · rw [if_neg (of_decide_eq_false hb)] at h
        refine go_ops aMi233 1 _ (f1 := (86, ([(0, .ref a0), (1, .int i1), (2, .int i2), (3, .int i3)], [.ref a0, .int x76_1, .ref a0]))) rfl ?_
        obtain ⟨x86_2, hxx86_2, h⟩ := Option.bind_eq_some_iff.mp h
        refine gg_gI aMi233 rfl rfl rfl hxx86_2 ?_
        refine gg_br (b := decide (¬ x86_2 = 0)) (tg := 103) (off := 14) aMi233 rfl rfl rfl rfl (fun hb => ?_) (fun hb => ?_)
        · rw [if_pos (of_decide_eq_true hb)] at h
          exact Tf233_b103 hd a0 i1 i2 i3 x76_1 a0 I _ h
        · rw [if_neg (of_decide_eq_false hb)] at h
          refine go_ops aMi233 1 _ (f1 := (93, ([(0, .ref a0), (1, .int i1), (2, .int i2), (3, .int i3)], [.ref a0, .int x76_1, .ref a0]))) rfl ?_
          obtain ⟨x93_3, hxx93_3, h⟩ := Option.bind_eq_some_iff.mp h
          refine gg_gI aMi233 rfl rfl rfl hxx93_3 ?_
          refine gg_br (b := decide (¬ x93_3 = 0)) (tg := 103) (off := 7) aMi233 rfl rfl rfl rfl (fun hb => ?_) (fun hb => ?_)
          · rw [if_pos (of_decide_eq_true hb)] at h
            exact Tf233_b103 hd a0 i1 i2 i3 x76_1 a0 I _ h
          · rw [if_neg (of_decide_eq_false hb)] at h
            refine go_ops aMi233 2 _ (f1 := (104, ([(0, .ref a0), (1, .int i1), (2, .int i2), (3, .int i3)], [.int (0 : Int32), .int x76_1, .ref a0]))) rfl ?_
            exact Tf233_b104 hd a0 i1 i2 i3 (0 : Int32) x76_1 a0 I _ h
    · rw [if_neg (of_decide_eq_false hb)] at h
      refine go_ops aMi233 2 _ (f1 := (70, ([(0, .ref a0), (1, .int i1), (2, .int i2), (3, .int i3)], [.int i3, .ref a0]))) rfl ?_
      obtain ⟨u70_4, hxu70_4, h⟩ := Option.bind_eq_some_iff.mp h
      obtain ⟨r70_5, hxr70_5, h⟩ := Option.bind_eq_some_iff.mp h
      refine gg_cv (as := [.int i3]) (r := []) aMi233 rfl rfl rfl aMi242 (Nat.le_of_ble_eq_true rfl) rfl (Nat.le_of_ble_eq_true rfl) (Nat.le_of_ble_eq_true rfl) (by omega) hxu70_4 (Tf242 (by omega) a0 i3 I _ hxr70_5) ?_
      show aGo kad d 233 (73, ([(0, .ref a0), (1, .int i1), (2, .int i2), (3, .int i3)], [])) (aMem Z r70_5.2, t) _
      cases h
      exact go_ret aMi233 rfl rfl ⟨rfl, rfl⟩
  · rw [if_neg (of_decide_eq_false hb)] at h
    refine go_ops aMi233 1 _ (f1 := (7, ([(0, .ref a0), (1, .int i1), (2, .int i2), (3, .int i3)], [.ref a0]))) rfl ?_
    obtain ⟨u7_6, hxu7_6, h⟩ := Option.bind_eq_some_iff.mp h
    obtain ⟨r7_7, hxr7_7, h⟩ := Option.bind_eq_some_iff.mp h
    refine gg_cv (as := []) (r := []) aMi233 rfl rfl rfl aMi220 (Nat.le_of_ble_eq_true rfl) rfl (Nat.le_of_ble_eq_true rfl) (Nat.le_of_ble_eq_true rfl) (by omega) hxu7_6 (Tf220 (by omega) a0 I _ hxr7_7) ?_
    show aGo kad d 233 (10, ([(0, .ref a0), (1, .int i1), (2, .int i2), (3, .int i3)], [.int r7_7.1])) (aMem Z r7_7.2, t) _
    refine go_ops aMi233 6 _ (f1 := (18, ([(4, .int r7_7.1), (0, .ref a0), (1, .int i1), (2, .int i2), (3, .int i3)], [.int (1 : Int32), .int (r7_7.1 - r7_7.1 / (2 : Int32) * (2 : Int32)), .ref a0]))) rfl ?_
    refine gg_br (b := decide (¬ (r7_7.1 - r7_7.1 / (2 : Int32) * (2 : Int32)) = (1 : Int32))) (tg := 25) (off := 7) aMi233 rfl rfl rfl rfl (fun hb => ?_) (fun hb => ?_)
    · rw [if_pos (of_decide_eq_true hb)] at h
      refine go_ops aMi233 1 _ (f1 := (26, ([(4, .int r7_7.1), (0, .ref a0), (1, .int i1), (2, .int i2), (3, .int i3)], [.int (0 : Int32), .ref a0]))) rfl ?_
      refine go_le (lv1 := [(0, .ref a0), (4, .int r7_7.1)]) (aLe_of (show (List.map (fun q => q.1) ([(0, .ref a0), (4, .int r7_7.1)] : ALv)).Nodup from (by show ([0, 4] : List Nat).Nodup; decide)) (aSubL_cons rfl (aSubL_cons rfl aSubL_nil))) ?_
      exact Tf233_b26 hd a0 r7_7.1 (0 : Int32) a0 r7_7.2 _ h
    · rw [if_neg (of_decide_eq_false hb)] at h
      refine go_ops aMi233 2 _ (f1 := (26, ([(4, .int r7_7.1), (0, .ref a0), (1, .int i1), (2, .int i2), (3, .int i3)], [.int (1 : Int32), .ref a0]))) rfl ?_
      refine go_le (lv1 := [(0, .ref a0), (4, .int r7_7.1)]) (aLe_of (show (List.map (fun q => q.1) ([(0, .ref a0), (4, .int r7_7.1)] : ALv)).Nodup from (by show ([0, 4] : List Nat).Nodup; decide)) (aSubL_cons rfl (aSubL_cons rfl aSubL_nil))) ?_
      exact Tf233_b26 hd a0 r7_7.1 (1 : Int32) a0 r7_7.2 _ h
-- KernelGymModel.instructs ()V
def f228_b161 (kad : Nat → Nat) (N : Nat) (Z : AZ)  (I : AI) : Option (Unit × AI) :=
  some ((), I)
set_option maxRecDepth 20000 in
theorem Tf228_b161 {kad : Nat → Nat} {N : Nat} {Z : AZ} {d : Nat} {t : Option Nat × (Nat × Nat)} (hd : 5 ≤ d) : ∀  (I : AI) (r : Unit × AI), f228_b161 kad N Z  I = some r → aGo kad d 228 (161, ([], [])) (aMem Z I, t) (qV Z t r) := by
  intro  I r h
  unfold f228_b161 at h
  cases h
  exact go_ret aMi228 rfl rfl ⟨rfl, rfl⟩
def f228_b76 (kad : Nat → Nat) (N : Nat) (Z : AZ) (a0 : Nat) (i1 : Int32) (i2 : Int32) (s0 : Int32) (I : AI) : Option (Unit × AI) :=
  (isK Z a0 11).bind fun u85_1 =>
  (f227 kad N Z a0 (i1 / (16 : Int32)) s0 I).bind fun r85_2 =>
  if r85_2.1 = 0 then
    if (12 : Int32) ≤ (i1 / (16 : Int32)) then
      if (19 : Int32) ≤ (i1 / (16 : Int32)) then
        (isK Z a0 11).bind fun u158_3 =>
        (f233 kad N Z a0 (i1 / (16 : Int32)) i2 s0 r85_2.2).bind fun r158_4 =>
        f228_b161 kad N Z  r158_4.2
      else
        (isK Z a0 11).bind fun u144_5 =>
        (f232 kad N Z a0 (i1 / (16 : Int32)) i2 s0 r85_2.2).bind fun r144_6 =>
        f228_b161 kad N Z  r144_6.2
    else
      (isK Z a0 11).bind fun u121_7 =>
      (f231 kad N Z a0 (i1 / (16 : Int32)) i2 s0 r85_2.2).bind fun r121_8 =>
      f228_b161 kad N Z  r121_8.2
  else
    (isK Z a0 11).bind fun u98_9 =>
    (f221 kad N Z a0 r85_2.1 r85_2.2).bind fun r98_10 =>
    f228_b161 kad N Z  r98_10.2
set_option maxRecDepth 20000 in
theorem Tf228_b76 {kad : Nat → Nat} {N : Nat} {Z : AZ} {d : Nat} {t : Option Nat × (Nat × Nat)} (hd : 5 ≤ d) : ∀ (a0 : Nat) (i1 : Int32) (i2 : Int32) (s0 : Int32) (I : AI) (r : Unit × AI), f228_b76 kad N Z a0 i1 i2 s0 I = some r → aGo kad d 228 (76, ([(0, .ref a0), (1, .int i1), (2, .int i2)], [.int s0])) (aMem Z I, t) (qV Z t r) := by
  intro a0 i1 i2 s0 I r h
  unfold f228_b76 at h
  refine go_ops aMi228 6 _ (f1 := (85, ([(4, .int s0), (0, .ref a0), (1, .int i1), (2, .int i2)], [.int s0, .int (i1 / (16 : Int32)), .ref a0]))) rfl ?_
  obtain ⟨u85_1, hxu85_1, h⟩ := Option.bind_eq_some_iff.mp h
  obtain ⟨r85_2, hxr85_2, h⟩ := Option.bind_eq_some_iff.mp h
  refine gg_cv (as := [.int (i1 / (16 : Int32)), .int s0]) (r := []) aMi228 rfl rfl rfl aMi227 (Nat.le_of_ble_eq_true rfl) rfl (Nat.le_of_ble_eq_true rfl) (Nat.le_of_ble_eq_true rfl) (by omega) hxu85_1 (Tf227 (by omega) a0 (i1 / (16 : Int32)) s0 I _ hxr85_2) ?_
  show aGo kad d 228 (88, ([(4, .int s0), (0, .ref a0), (1, .int i1), (2, .int i2)], [.int r85_2.1])) (aMem Z r85_2.2, t) _
  refine go_ops aMi228 2 _ (f1 := (92, ([(5, .int r85_2.1), (4, .int s0), (0, .ref a0), (1, .int i1), (2, .int i2)], [.int r85_2.1]))) rfl ?_
  refine gg_br (b := decide (r85_2.1 = 0)) (tg := 104) (off := 12) aMi228 rfl rfl rfl rfl (fun hb => ?_) (fun hb => ?_)
  · rw [if_pos (of_decide_eq_true hb)] at h
    refine go_ops aMi228 4 _ (f1 := (110, ([(5, .int r85_2.1), (4, .int s0), (0, .ref a0), (1, .int i1), (2, .int i2)], [.int (12 : Int32), .int (i1 / (16 : Int32))]))) rfl ?_
    refine gg_br (b := decide ((12 : Int32) ≤ (i1 / (16 : Int32)))) (tg := 127) (off := 17) aMi228 rfl rfl rfl rfl (fun hb => ?_) (fun hb => ?_)
    · rw [if_pos (of_decide_eq_true hb)] at h
      refine go_ops aMi228 4 _ (f1 := (133, ([(5, .int r85_2.1), (4, .int s0), (0, .ref a0), (1, .int i1), (2, .int i2)], [.int (19 : Int32), .int (i1 / (16 : Int32))]))) rfl ?_
      refine gg_br (b := decide ((19 : Int32) ≤ (i1 / (16 : Int32)))) (tg := 150) (off := 17) aMi228 rfl rfl rfl rfl (fun hb => ?_) (fun hb => ?_)
      · rw [if_pos (of_decide_eq_true hb)] at h
        refine go_ops aMi228 6 _ (f1 := (158, ([(5, .int r85_2.1), (4, .int s0), (0, .ref a0), (1, .int i1), (2, .int i2)], [.int s0, .int i2, .int (i1 / (16 : Int32)), .ref a0]))) rfl ?_
        obtain ⟨u158_3, hxu158_3, h⟩ := Option.bind_eq_some_iff.mp h
        obtain ⟨r158_4, hxr158_4, h⟩ := Option.bind_eq_some_iff.mp h
        refine gg_cv (as := [.int (i1 / (16 : Int32)), .int i2, .int s0]) (r := []) aMi228 rfl rfl rfl aMi233 (Nat.le_of_ble_eq_true rfl) rfl (Nat.le_of_ble_eq_true rfl) (Nat.le_of_ble_eq_true rfl) (by omega) hxu158_3 (Tf233 (by omega) a0 (i1 / (16 : Int32)) i2 s0 r85_2.2 _ hxr158_4) ?_
        show aGo kad d 228 (161, ([(5, .int r85_2.1), (4, .int s0), (0, .ref a0), (1, .int i1), (2, .int i2)], [])) (aMem Z r158_4.2, t) _
        refine go_le (lv1 := []) (aLe_of (show (List.map (fun q => q.1) ([] : ALv)).Nodup from (by show ([] : List Nat).Nodup; decide)) aSubL_nil) ?_
        exact Tf228_b161 hd  r158_4.2 _ h
      · rw [if_neg (of_decide_eq_false hb)] at h
        refine go_ops aMi228 6 _ (f1 := (144, ([(5, .int r85_2.1), (4, .int s0), (0, .ref a0), (1, .int i1), (2, .int i2)], [.int s0, .int i2, .int (i1 / (16 : Int32)), .ref a0]))) rfl ?_
        obtain ⟨u144_5, hxu144_5, h⟩ := Option.bind_eq_some_iff.mp h
        obtain ⟨r144_6, hxr144_6, h⟩ := Option.bind_eq_some_iff.mp h
        refine gg_cv (as := [.int (i1 / (16 : Int32)), .int i2, .int s0]) (r := []) aMi228 rfl rfl rfl aMi232 (Nat.le_of_ble_eq_true rfl) rfl (Nat.le_of_ble_eq_true rfl) (Nat.le_of_ble_eq_true rfl) (by omega) hxu144_5 (Tf232 (by omega) a0 (i1 / (16 : Int32)) i2 s0 r85_2.2 _ hxr144_6) ?_
        show aGo kad d 228 (147, ([(5, .int r85_2.1), (4, .int s0), (0, .ref a0), (1, .int i1), (2, .int i2)], [])) (aMem Z r144_6.2, t) _
        refine go_ops aMi228 1 _ (f1 := (161, ([(5, .int r85_2.1), (4, .int s0), (0, .ref a0), (1, .int i1), (2, .int i2)], []))) rfl ?_
        refine go_le (lv1 := []) (aLe_of (show (List.map (fun q => q.1) ([] : ALv)).Nodup from (by show ([] : List Nat).Nodup; decide)) aSubL_nil) ?_
        exact Tf228_b161 hd  r144_6.2 _ h
    · rw [if_neg (of_decide_eq_false hb)] at h
      refine go_ops aMi228 6 _ (f1 := (121, ([(5, .int r85_2.1), (4, .int s0), (0, .ref a0), (1, .int i1), (2, .int i2)], [.int s0, .int i2, .int (i1 / (16 : Int32)), .ref a0]))) rfl ?_
      obtain ⟨u121_7, hxu121_7, h⟩ := Option.bind_eq_some_iff.mp h
      obtain ⟨r121_8, hxr121_8, h⟩ := Option.bind_eq_some_iff.mp h
      refine gg_cv (as := [.int (i1 / (16 : Int32)), .int i2, .int s0]) (r := []) aMi228 rfl rfl rfl aMi231 (Nat.le_of_ble_eq_true rfl) rfl (Nat.le_of_ble_eq_true rfl) (Nat.le_of_ble_eq_true rfl) (by omega) hxu121_7 (Tf231 (by omega) a0 (i1 / (16 : Int32)) i2 s0 r85_2.2 _ hxr121_8) ?_
      show aGo kad d 228 (124, ([(5, .int r85_2.1), (4, .int s0), (0, .ref a0), (1, .int i1), (2, .int i2)], [])) (aMem Z r121_8.2, t) _
      refine go_ops aMi228 1 _ (f1 := (161, ([(5, .int r85_2.1), (4, .int s0), (0, .ref a0), (1, .int i1), (2, .int i2)], []))) rfl ?_
      refine go_le (lv1 := []) (aLe_of (show (List.map (fun q => q.1) ([] : ALv)).Nodup from (by show ([] : List Nat).Nodup; decide)) aSubL_nil) ?_
      exact Tf228_b161 hd  r121_8.2 _ h
  · rw [if_neg (of_decide_eq_false hb)] at h
    refine go_ops aMi228 2 _ (f1 := (98, ([(5, .int r85_2.1), (4, .int s0), (0, .ref a0), (1, .int i1), (2, .int i2)], [.int r85_2.1, .ref a0]))) rfl ?_
    obtain ⟨u98_9, hxu98_9, h⟩ := Option.bind_eq_some_iff.mp h
    obtain ⟨r98_10, hxr98_10, h⟩ := Option.bind_eq_some_iff.mp h
    refine gg_cv (as := [.int r85_2.1]) (r := []) aMi228 rfl rfl rfl aMi221 (Nat.le_of_ble_eq_true rfl) rfl (Nat.le_of_ble_eq_true rfl) (Nat.le_of_ble_eq_true rfl) (by omega) hxu98_9 (Tf221 (by omega) a0 r85_2.1 r85_2.2 _ hxr98_10) ?_
    show aGo kad d 228 (101, ([(5, .int r85_2.1), (4, .int s0), (0, .ref a0), (1, .int i1), (2, .int i2)], [])) (aMem Z r98_10.2, t) _
    refine go_ops aMi228 1 _ (f1 := (161, ([(5, .int r85_2.1), (4, .int s0), (0, .ref a0), (1, .int i1), (2, .int i2)], []))) rfl ?_
    refine go_le (lv1 := []) (aLe_of (show (List.map (fun q => q.1) ([] : ALv)).Nodup from (by show ([] : List Nat).Nodup; decide)) aSubL_nil) ?_
    exact Tf228_b161 hd  r98_10.2 _ h
def f228 (kad : Nat → Nat) (N : Nat) (Z : AZ) (a0 : Nat) (I : AI) : Option (Unit × AI) :=
  (gI Z I 11 27 a0).bind fun x1_1 =>
  if x1_1 ≤ (254 : Int32) then
    (gR Z I 11 25 a0).bind fun b17_2 =>
    (gI Z I 11 27 a0).bind fun x21_3 =>
    (lI Z I 100 b17_2 x21_3).bind fun x24_4 =>
    if ¬ ((x24_4 / (4 : Int32)) - (x24_4 / (4 : Int32)) / (4 : Int32) * (4 : Int32)) = (x24_4 - x24_4 / (4 : Int32) * (4 : Int32)) then
      (gR Z I 11 26 a0).bind fun b56_5 =>
      (lI Z I 100 b56_5 (x24_4 - x24_4 / (4 : Int32) * (4 : Int32))).bind fun x60_6 =>
      (gR Z I 11 25 a0).bind fun b62_7 =>
      (gI Z I 11 27 a0).bind fun x66_8 =>
      (lI Z I 100 b62_7 (x66_8 + (1 : Int32))).bind fun x71_9 =>
      f228_b76 kad N Z a0 x24_4 ((x24_4 / (4 : Int32)) - (x24_4 / (4 : Int32)) / (4 : Int32) * (4 : Int32)) ((x60_6 + x71_9) - (x60_6 + x71_9) / (65536 : Int32) * (65536 : Int32)) I
    else
      (gR Z I 11 25 a0).bind fun b42_10 =>
      (gI Z I 11 27 a0).bind fun x46_11 =>
      (lI Z I 100 b42_10 (x46_11 + (1 : Int32))).bind fun x51_12 =>
      f228_b76 kad N Z a0 x24_4 ((x24_4 / (4 : Int32)) - (x24_4 / (4 : Int32)) / (4 : Int32) * (4 : Int32)) x51_12 I
  else
    (isK Z a0 11).bind fun u12_13 =>
    (f221 kad N Z a0 (1 : Int32) I).bind fun r12_14 =>
    some ((), r12_14.2)
set_option maxRecDepth 20000 in
theorem Tf228 {kad : Nat → Nat} {N : Nat} {Z : AZ} {d : Nat} {t : Option Nat × (Nat × Nat)} (hd : 5 ≤ d) : ∀ (a0 : Nat) (I : AI) (r : Unit × AI), f228 kad N Z a0 I = some r → aGo kad d 228 (0, ([(0, .ref a0)], [])) (aMem Z I, t) (qV Z t r) := by
  intro a0 I r h
  unfold f228 at h
  refine go_ops aMi228 1 _ (f1 := (1, ([(0, .ref a0)], [.ref a0]))) rfl ?_
  obtain ⟨x1_1, hxx1_1, h⟩ := Option.bind_eq_some_iff.mp h
  refine gg_gI aMi228 rfl rfl rfl hxx1_1 ?_
  refine go_ops aMi228 1 _ (f1 := (7, ([(0, .ref a0)], [.int (254 : Int32), .int x1_1]))) rfl ?_
  refine gg_br (b := decide (x1_1 ≤ (254 : Int32))) (tg := 16) (off := 9) aMi228 rfl rfl rfl rfl (fun hb => ?_) (fun hb => ?_)
  · rw [if_pos (of_decide_eq_true hb)] at h
    refine go_ops aMi228 1 _ (f1 := (17, ([(0, .ref a0)], [.ref a0]))) rfl ?_
    obtain ⟨b17_2, hxb17_2, h⟩ := Option.bind_eq_some_iff.mp h
    refine gg_gR aMi228 rfl rfl rfl hxb17_2 ?_
    refine go_ops aMi228 1 _ (f1 := (21, ([(0, .ref a0)], [.ref a0, .ref b17_2]))) rfl ?_
    obtain ⟨x21_3, hxx21_3, h⟩ := Option.bind_eq_some_iff.mp h
    refine gg_gI aMi228 rfl rfl rfl hxx21_3 ?_
    obtain ⟨x24_4, hxx24_4, h⟩ := Option.bind_eq_some_iff.mp h
    refine gg_lI (Or.inl ⟨rfl, rfl⟩) aMi228 rfl hxx24_4 ?_
    refine go_ops aMi228 13 _ (f1 := (38, ([(3, .int (x24_4 - x24_4 / (4 : Int32) * (4 : Int32))), (2, .int ((x24_4 / (4 : Int32)) - (x24_4 / (4 : Int32)) / (4 : Int32) * (4 : Int32))), (1, .int x24_4), (0, .ref a0)], [.int (x24_4 - x24_4 / (4 : Int32) * (4 : Int32)), .int ((x24_4 / (4 : Int32)) - (x24_4 / (4 : Int32)) / (4 : Int32) * (4 : Int32))]))) rfl ?_
    refine gg_br (b := decide (¬ ((x24_4 / (4 : Int32)) - (x24_4 / (4 : Int32)) / (4 : Int32) * (4 : Int32)) = (x24_4 - x24_4 / (4 : Int32) * (4 : Int32)))) (tg := 55) (off := 17) aMi228 rfl rfl rfl rfl (fun hb => ?_) (fun hb => ?_)
    · rw [if_pos (of_decide_eq_true hb)] at h
      refine go_ops aMi228 1 _ (f1 := (56, ([(3, .int (x24_4 - x24_4 / (4 : Int32) * (4 : Int32))), (2, .int ((x24_4 / (4 : Int32)) - (x24_4 / (4 : Int32)) / (4 : Int32) * (4 : Int32))), (1, .int x24_4), (0, .ref a0)], [.ref a0]))) rfl ?_
      obtain ⟨b56_5, hxb56_5, h⟩ := Option.bind_eq_some_iff.mp h
      refine gg_gR aMi228 rfl rfl rfl hxb56_5 ?_
      refine go_ops aMi228 1 _ (f1 := (60, ([(3, .int (x24_4 - x24_4 / (4 : Int32) * (4 : Int32))), (2, .int ((x24_4 / (4 : Int32)) - (x24_4 / (4 : Int32)) / (4 : Int32) * (4 : Int32))), (1, .int x24_4), (0, .ref a0)], [.int (x24_4 - x24_4 / (4 : Int32) * (4 : Int32)), .ref b56_5]))) rfl ?_
      obtain ⟨x60_6, hxx60_6, h⟩ := Option.bind_eq_some_iff.mp h
      refine gg_lI (Or.inl ⟨rfl, rfl⟩) aMi228 rfl hxx60_6 ?_
      refine go_ops aMi228 1 _ (f1 := (62, ([(3, .int (x24_4 - x24_4 / (4 : Int32) * (4 : Int32))), (2, .int ((x24_4 / (4 : Int32)) - (x24_4 / (4 : Int32)) / (4 : Int32) * (4 : Int32))), (1, .int x24_4), (0, .ref a0)], [.ref a0, .int x60_6]))) rfl ?_
      obtain ⟨b62_7, hxb62_7, h⟩ := Option.bind_eq_some_iff.mp h
      refine gg_gR aMi228 rfl rfl rfl hxb62_7 ?_
      refine go_ops aMi228 1 _ (f1 := (66, ([(3, .int (x24_4 - x24_4 / (4 : Int32) * (4 : Int32))), (2, .int ((x24_4 / (4 : Int32)) - (x24_4 / (4 : Int32)) / (4 : Int32) * (4 : Int32))), (1, .int x24_4), (0, .ref a0)], [.ref a0, .ref b62_7, .int x60_6]))) rfl ?_
      obtain ⟨x66_8, hxx66_8, h⟩ := Option.bind_eq_some_iff.mp h
      refine gg_gI aMi228 rfl rfl rfl hxx66_8 ?_
      refine go_ops aMi228 2 _ (f1 := (71, ([(3, .int (x24_4 - x24_4 / (4 : Int32) * (4 : Int32))), (2, .int ((x24_4 / (4 : Int32)) - (x24_4 / (4 : Int32)) / (4 : Int32) * (4 : Int32))), (1, .int x24_4), (0, .ref a0)], [.int (x66_8 + (1 : Int32)), .ref b62_7, .int x60_6]))) rfl ?_
      obtain ⟨x71_9, hxx71_9, h⟩ := Option.bind_eq_some_iff.mp h
      refine gg_lI (Or.inl ⟨rfl, rfl⟩) aMi228 rfl hxx71_9 ?_
      refine go_ops aMi228 1 _ (f1 := (73, ([(3, .int (x24_4 - x24_4 / (4 : Int32) * (4 : Int32))), (2, .int ((x24_4 / (4 : Int32)) - (x24_4 / (4 : Int32)) / (4 : Int32) * (4 : Int32))), (1, .int x24_4), (0, .ref a0)], [.int (x60_6 + x71_9)]))) rfl ?_
      refine gg_kI (Or.inl ⟨rfl, rfl⟩) aMi228 rfl rfl ?_
      refine go_ops aMi228 1 _ (f1 := (76, ([(3, .int (x24_4 - x24_4 / (4 : Int32) * (4 : Int32))), (2, .int ((x24_4 / (4 : Int32)) - (x24_4 / (4 : Int32)) / (4 : Int32) * (4 : Int32))), (1, .int x24_4), (0, .ref a0)], [.int ((x60_6 + x71_9) - (x60_6 + x71_9) / (65536 : Int32) * (65536 : Int32))]))) rfl ?_
      refine go_le (lv1 := [(0, .ref a0), (1, .int x24_4), (2, .int ((x24_4 / (4 : Int32)) - (x24_4 / (4 : Int32)) / (4 : Int32) * (4 : Int32)))]) (aLe_of (show (List.map (fun q => q.1) ([(0, .ref a0), (1, .int x24_4), (2, .int ((x24_4 / (4 : Int32)) - (x24_4 / (4 : Int32)) / (4 : Int32) * (4 : Int32)))] : ALv)).Nodup from (by show ([0, 1, 2] : List Nat).Nodup; decide)) (aSubL_cons rfl (aSubL_cons rfl (aSubL_cons rfl aSubL_nil)))) ?_
      exact Tf228_b76 hd a0 x24_4 ((x24_4 / (4 : Int32)) - (x24_4 / (4 : Int32)) / (4 : Int32) * (4 : Int32)) ((x60_6 + x71_9) - (x60_6 + x71_9) / (65536 : Int32) * (65536 : Int32)) I _ h
    · rw [if_neg (of_decide_eq_false hb)] at h
      refine go_ops aMi228 1 _ (f1 := (42, ([(3, .int (x24_4 - x24_4 / (4 : Int32) * (4 : Int32))), (2, .int ((x24_4 / (4 : Int32)) - (x24_4 / (4 : Int32)) / (4 : Int32) * (4 : Int32))), (1, .int x24_4), (0, .ref a0)], [.ref a0]))) rfl ?_
      obtain ⟨b42_10, hxb42_10, h⟩ := Option.bind_eq_some_iff.mp h
      refine gg_gR aMi228 rfl rfl rfl hxb42_10 ?_
      refine go_ops aMi228 1 _ (f1 := (46, ([(3, .int (x24_4 - x24_4 / (4 : Int32) * (4 : Int32))), (2, .int ((x24_4 / (4 : Int32)) - (x24_4 / (4 : Int32)) / (4 : Int32) * (4 : Int32))), (1, .int x24_4), (0, .ref a0)], [.ref a0, .ref b42_10]))) rfl ?_
      obtain ⟨x46_11, hxx46_11, h⟩ := Option.bind_eq_some_iff.mp h
      refine gg_gI aMi228 rfl rfl rfl hxx46_11 ?_
      refine go_ops aMi228 2 _ (f1 := (51, ([(3, .int (x24_4 - x24_4 / (4 : Int32) * (4 : Int32))), (2, .int ((x24_4 / (4 : Int32)) - (x24_4 / (4 : Int32)) / (4 : Int32) * (4 : Int32))), (1, .int x24_4), (0, .ref a0)], [.int (x46_11 + (1 : Int32)), .ref b42_10]))) rfl ?_
      obtain ⟨x51_12, hxx51_12, h⟩ := Option.bind_eq_some_iff.mp h
      refine gg_lI (Or.inl ⟨rfl, rfl⟩) aMi228 rfl hxx51_12 ?_
      refine go_ops aMi228 1 _ (f1 := (76, ([(3, .int (x24_4 - x24_4 / (4 : Int32) * (4 : Int32))), (2, .int ((x24_4 / (4 : Int32)) - (x24_4 / (4 : Int32)) / (4 : Int32) * (4 : Int32))), (1, .int x24_4), (0, .ref a0)], [.int x51_12]))) rfl ?_
      refine go_le (lv1 := [(0, .ref a0), (1, .int x24_4), (2, .int ((x24_4 / (4 : Int32)) - (x24_4 / (4 : Int32)) / (4 : Int32) * (4 : Int32)))]) (aLe_of (show (List.map (fun q => q.1) ([(0, .ref a0), (1, .int x24_4), (2, .int ((x24_4 / (4 : Int32)) - (x24_4 / (4 : Int32)) / (4 : Int32) * (4 : Int32)))] : ALv)).Nodup from (by show ([0, 1, 2] : List Nat).Nodup; decide)) (aSubL_cons rfl (aSubL_cons rfl (aSubL_cons rfl aSubL_nil)))) ?_
      exact Tf228_b76 hd a0 x24_4 ((x24_4 / (4 : Int32)) - (x24_4 / (4 : Int32)) / (4 : Int32) * (4 : Int32)) x51_12 I _ h
  · rw [if_neg (of_decide_eq_false hb)] at h
    refine go_ops aMi228 2 _ (f1 := (12, ([(0, .ref a0)], [.int (1 : Int32), .ref a0]))) rfl ?_
    obtain ⟨u12_13, hxu12_13, h⟩ := Option.bind_eq_some_iff.mp h
    obtain ⟨r12_14, hxr12_14, h⟩ := Option.bind_eq_some_iff.mp h
    refine gg_cv (as := [.int (1 : Int32)]) (r := []) aMi228 rfl rfl rfl aMi221 (Nat.le_of_ble_eq_true rfl) rfl (Nat.le_of_ble_eq_true rfl) (Nat.le_of_ble_eq_true rfl) (by omega) hxu12_13 (Tf221 (by omega) a0 (1 : Int32) I _ hxr12_14) ?_
    show aGo kad d 228 (15, ([(0, .ref a0)], [])) (aMem Z r12_14.2, t) _
    cases h
    exact go_ret aMi228 rfl rfl ⟨rfl, rfl⟩
-- KernelGymModel.writesHead (Z)V
def f251_b82 (kad : Nat → Nat) (N : Nat) (Z : AZ) : Nat → Nat → Int32 → Int32 → AI → Option (Unit × AI)
  | 0, _, _, _, _ => none
  | F + 1, a0, i2, i3, I =>
    (gI Z I 11 47 a0).bind fun x86_1 =>
    if ((8 : Int32) * x86_1) ≤ i3 then
      (gR Z I 11 50 a0).bind fun b109_2 =>
      (sI Z I 100 b109_2 (4 : Int32) (i2 - i2 / (65536 : Int32) * (65536 : Int32))).bind fun I117_3 =>
      some ((), I117_3)
    else
      (gR Z I 11 49 a0).bind fun b95_4 =>
      (lI Z I 100 b95_4 i3).bind fun x99_5 =>
      f251_b82 kad N Z F a0 (i2 + x99_5) (i3 + (1 : Int32)) I
set_option maxRecDepth 20000 in
theorem Tf251_b82 {kad : Nat → Nat} {N : Nat} {Z : AZ} {d : Nat} {t : Option Nat × (Nat × Nat)} (hd : 0 ≤ d) : ∀ (F : Nat) (a0 : Nat) (i2 : Int32) (i3 : Int32) (I : AI) (r : Unit × AI), f251_b82 kad N Z F a0 i2 i3 I = some r → aGo kad d 251 (82, ([(0, .ref a0), (2, .int i2), (3, .int i3)], [])) (aMem Z I, t) (qV Z t r) := by
  intro F
  induction F with
  | zero => intro a0 i2 i3 I r h; cases h
  | succ F ih =>
    intro a0 i2 i3 I r h
    unfold f251_b82 at h
    refine go_ops aMi251 3 _ (f1 := (86, ([(0, .ref a0), (2, .int i2), (3, .int i3)], [.ref a0, .int (8 : Int32), .int i3]))) rfl ?_
    obtain ⟨x86_1, hxx86_1, h⟩ := Option.bind_eq_some_iff.mp h
    refine gg_gI aMi251 rfl rfl rfl hxx86_1 ?_
    refine go_ops aMi251 1 _ (f1 := (90, ([(0, .ref a0), (2, .int i2), (3, .int i3)], [.int ((8 : Int32) * x86_1), .int i3]))) rfl ?_
    refine gg_br (b := decide (((8 : Int32) * x86_1) ≤ i3)) (tg := 108) (off := 18) aMi251 rfl rfl rfl rfl (fun hb => ?_) (fun hb => ?_)
    · rw [if_pos (of_decide_eq_true hb)] at h
      refine go_ops aMi251 1 _ (f1 := (109, ([(0, .ref a0), (2, .int i2), (3, .int i3)], [.ref a0]))) rfl ?_
      obtain ⟨b109_2, hxb109_2, h⟩ := Option.bind_eq_some_iff.mp h
      refine gg_gR aMi251 rfl rfl rfl hxb109_2 ?_
      refine go_ops aMi251 2 _ (f1 := (114, ([(0, .ref a0), (2, .int i2), (3, .int i3)], [.int i2, .int (4 : Int32), .ref b109_2]))) rfl ?_
      refine gg_kI (Or.inl ⟨rfl, rfl⟩) aMi251 rfl rfl ?_
      refine go_ops aMi251 1 _ (f1 := (117, ([(0, .ref a0), (2, .int i2), (3, .int i3)], [.int (i2 - i2 / (65536 : Int32) * (65536 : Int32)), .int (4 : Int32), .ref b109_2]))) rfl ?_
      obtain ⟨I117_3, hxI117_3, h⟩ := Option.bind_eq_some_iff.mp h
      refine gg_sI (Or.inl ⟨rfl, rfl⟩) aMi251 rfl hxI117_3 ?_
      cases h
      exact go_ret aMi251 rfl rfl ⟨rfl, rfl⟩
    · rw [if_neg (of_decide_eq_false hb)] at h
      refine go_ops aMi251 2 _ (f1 := (95, ([(0, .ref a0), (2, .int i2), (3, .int i3)], [.ref a0, .int i2]))) rfl ?_
      obtain ⟨b95_4, hxb95_4, h⟩ := Option.bind_eq_some_iff.mp h
      refine gg_gR aMi251 rfl rfl rfl hxb95_4 ?_
      refine go_ops aMi251 1 _ (f1 := (99, ([(0, .ref a0), (2, .int i2), (3, .int i3)], [.int i3, .ref b95_4, .int i2]))) rfl ?_
      obtain ⟨x99_5, hxx99_5, h⟩ := Option.bind_eq_some_iff.mp h
      refine gg_lI (Or.inl ⟨rfl, rfl⟩) aMi251 rfl hxx99_5 ?_
      refine go_ops aMi251 4 _ (f1 := (82, ([(3, .int (i3 + (1 : Int32))), (2, .int (i2 + x99_5)), (0, .ref a0)], []))) rfl ?_
      refine go_le (lv1 := [(0, .ref a0), (2, .int (i2 + x99_5)), (3, .int (i3 + (1 : Int32)))]) (aLe_of (show (List.map (fun q => q.1) ([(0, .ref a0), (2, .int (i2 + x99_5)), (3, .int (i3 + (1 : Int32)))] : ALv)).Nodup from (by show ([0, 2, 3] : List Nat).Nodup; decide)) (aSubL_cons rfl (aSubL_cons rfl (aSubL_cons rfl aSubL_nil)))) ?_
      exact ih a0 (i2 + x99_5) (i3 + (1 : Int32)) I _ h
def f251_b43 (kad : Nat → Nat) (N : Nat) (Z : AZ) : Nat → Nat → Int32 → Int32 → AI → Option (Unit × AI)
  | 0, _, _, _, _ => none
  | F + 1, a0, i2, i3, I =>
    (gI Z I 11 47 a0).bind fun x45_1 =>
    if x45_1 ≤ i3 then
      f251_b82 kad N Z N a0 i2 (0 : Int32) I
    else
      (gR Z I 11 50 a0).bind fun b52_2 =>
      (gR Z I 11 48 a0).bind fun b59_3 =>
      (lI Z I 100 b59_3 i3).bind fun x63_4 =>
      (sI Z I 100 b52_2 ((1 : Int32) + i3) x63_4).bind fun I64_5 =>
      (gR Z I64_5 11 48 a0).bind fun b67_6 =>
      (lI Z I64_5 100 b67_6 i3).bind fun x71_7 =>
      f251_b43 kad N Z F a0 (i2 + x71_7) (i3 + (1 : Int32)) I64_5
set_option maxRecDepth 20000 in
theorem Tf251_b43 {kad : Nat → Nat} {N : Nat} {Z : AZ} {d : Nat} {t : Option Nat × (Nat × Nat)} (hd : 0 ≤ d) : ∀ (F : Nat) (a0 : Nat) (i2 : Int32) (i3 : Int32) (I : AI) (r : Unit × AI), f251_b43 kad N Z F a0 i2 i3 I = some r → aGo kad d 251 (43, ([(0, .ref a0), (2, .int i2), (3, .int i3)], [])) (aMem Z I, t) (qV Z t r) := by
  intro F
  induction F with
  | zero => intro a0 i2 i3 I r h; cases h
  | succ F ih =>
    intro a0 i2 i3 I r h
    unfold f251_b43 at h
    refine go_ops aMi251 2 _ (f1 := (45, ([(0, .ref a0), (2, .int i2), (3, .int i3)], [.ref a0, .int i3]))) rfl ?_
    obtain ⟨x45_1, hxx45_1, h⟩ := Option.bind_eq_some_iff.mp h
    refine gg_gI aMi251 rfl rfl rfl hxx45_1 ?_
    refine gg_br (b := decide (x45_1 ≤ i3)) (tg := 80) (off := 32) aMi251 rfl rfl rfl rfl (fun hb => ?_) (fun hb => ?_)
    · rw [if_pos (of_decide_eq_true hb)] at h
      refine go_ops aMi251 2 _ (f1 := (82, ([(3, .int (0 : Int32)), (0, .ref a0), (2, .int i2)], []))) rfl ?_
      refine go_le (lv1 := [(0, .ref a0), (2, .int i2), (3, .int (0 : Int32))]) (aLe_of (show (List.map (fun q => q.1) ([(0, .ref a0), (2, .int i2), (3, .int (0 : Int32))] : ALv)).Nodup from (by show ([0, 2, 3] : List Nat).Nodup; decide)) (aSubL_cons rfl (aSubL_cons rfl (aSubL_cons rfl aSubL_nil)))) ?_
      exact Tf251_b82 hd N a0 i2 (0 : Int32) I _ h
    · rw [if_neg (of_decide_eq_false hb)] at h
      refine go_ops aMi251 1 _ (f1 := (52, ([(0, .ref a0), (2, .int i2), (3, .int i3)], [.ref a0]))) rfl ?_
      obtain ⟨b52_2, hxb52_2, h⟩ := Option.bind_eq_some_iff.mp h
      refine gg_gR aMi251 rfl rfl rfl hxb52_2 ?_
      refine go_ops aMi251 4 _ (f1 := (59, ([(0, .ref a0), (2, .int i2), (3, .int i3)], [.ref a0, .int ((1 : Int32) + i3), .ref b52_2]))) rfl ?_
      obtain ⟨b59_3, hxb59_3, h⟩ := Option.bind_eq_some_iff.mp h
      refine gg_gR aMi251 rfl rfl rfl hxb59_3 ?_
      refine go_ops aMi251 1 _ (f1 := (63, ([(0, .ref a0), (2, .int i2), (3, .int i3)], [.int i3, .ref b59_3, .int ((1 : Int32) + i3), .ref b52_2]))) rfl ?_
      obtain ⟨x63_4, hxx63_4, h⟩ := Option.bind_eq_some_iff.mp h
      refine gg_lI (Or.inl ⟨rfl, rfl⟩) aMi251 rfl hxx63_4 ?_
      obtain ⟨I64_5, hxI64_5, h⟩ := Option.bind_eq_some_iff.mp h
      refine gg_sI (Or.inl ⟨rfl, rfl⟩) aMi251 rfl hxI64_5 ?_
      refine go_ops aMi251 2 _ (f1 := (67, ([(0, .ref a0), (2, .int i2), (3, .int i3)], [.ref a0, .int i2]))) rfl ?_
      obtain ⟨b67_6, hxb67_6, h⟩ := Option.bind_eq_some_iff.mp h
      refine gg_gR aMi251 rfl rfl rfl hxb67_6 ?_
      refine go_ops aMi251 1 _ (f1 := (71, ([(0, .ref a0), (2, .int i2), (3, .int i3)], [.int i3, .ref b67_6, .int i2]))) rfl ?_
      obtain ⟨x71_7, hxx71_7, h⟩ := Option.bind_eq_some_iff.mp h
      refine gg_lI (Or.inl ⟨rfl, rfl⟩) aMi251 rfl hxx71_7 ?_
      refine go_ops aMi251 4 _ (f1 := (43, ([(3, .int (i3 + (1 : Int32))), (2, .int (i2 + x71_7)), (0, .ref a0)], []))) rfl ?_
      refine go_le (lv1 := [(0, .ref a0), (2, .int (i2 + x71_7)), (3, .int (i3 + (1 : Int32)))]) (aLe_of (show (List.map (fun q => q.1) ([(0, .ref a0), (2, .int (i2 + x71_7)), (3, .int (i3 + (1 : Int32)))] : ALv)).Nodup from (by show ([0, 2, 3] : List Nat).Nodup; decide)) (aSubL_cons rfl (aSubL_cons rfl (aSubL_cons rfl aSubL_nil)))) ?_
      exact ih a0 (i2 + x71_7) (i3 + (1 : Int32)) I64_5 _ h
def f251_b2 (kad : Nat → Nat) (N : Nat) (Z : AZ) : Nat → Nat → Int32 → Int32 → AI → Option (Unit × AI)
  | 0, _, _, _, _ => none
  | F + 1, a0, i1, i2, I =>
    if (8 : Int32) ≤ i2 then
      if ¬ i1 = 0 then
        (gI Z I 11 47 a0).bind fun x27_1 =>
        (gR Z I 11 50 a0).bind fun b32_2 =>
        (gI Z I 11 47 a0).bind fun x37_3 =>
        (sI Z I 100 b32_2 (0 : Int32) x37_3).bind fun I40_4 =>
        f251_b43 kad N Z N a0 x27_1 (0 : Int32) I40_4
      else
        some ((), I)
    else
      (gR Z I 11 50 a0).bind fun b9_5 =>
      (sI Z I 100 b9_5 i2 (0 : Int32)).bind fun I14_6 =>
      f251_b2 kad N Z F a0 i1 (i2 + (1 : Int32)) I14_6
set_option maxRecDepth 20000 in
theorem Tf251_b2 {kad : Nat → Nat} {N : Nat} {Z : AZ} {d : Nat} {t : Option Nat × (Nat × Nat)} (hd : 0 ≤ d) : ∀ (F : Nat) (a0 : Nat) (i1 : Int32) (i2 : Int32) (I : AI) (r : Unit × AI), f251_b2 kad N Z F a0 i1 i2 I = some r → aGo kad d 251 (2, ([(0, .ref a0), (1, .int i1), (2, .int i2)], [])) (aMem Z I, t) (qV Z t r) := by
  intro F
  induction F with
  | zero => intro a0 i1 i2 I r h; cases h
  | succ F ih =>
    intro a0 i1 i2 I r h
    unfold f251_b2 at h
    refine go_ops aMi251 2 _ (f1 := (5, ([(0, .ref a0), (1, .int i1), (2, .int i2)], [.int (8 : Int32), .int i2]))) rfl ?_
    refine gg_br (b := decide ((8 : Int32) ≤ i2)) (tg := 21) (off := 16) aMi251 rfl rfl rfl rfl (fun hb => ?_) (fun hb => ?_)
    · rw [if_pos (of_decide_eq_true hb)] at h
      refine go_ops aMi251 1 _ (f1 := (22, ([(0, .ref a0), (1, .int i1), (2, .int i2)], [.int i1]))) rfl ?_
      refine gg_br (b := decide (¬ i1 = 0)) (tg := 26) (off := 4) aMi251 rfl rfl rfl rfl (fun hb => ?_) (fun hb => ?_)
      · rw [if_pos (of_decide_eq_true hb)] at h
        refine go_ops aMi251 1 _ (f1 := (27, ([(0, .ref a0), (1, .int i1), (2, .int i2)], [.ref a0]))) rfl ?_
        obtain ⟨x27_1, hxx27_1, h⟩ := Option.bind_eq_some_iff.mp h
        refine gg_gI aMi251 rfl rfl rfl hxx27_1 ?_
        refine go_ops aMi251 2 _ (f1 := (32, ([(2, .int x27_1), (0, .ref a0), (1, .int i1)], [.ref a0]))) rfl ?_
        obtain ⟨b32_2, hxb32_2, h⟩ := Option.bind_eq_some_iff.mp h
        refine gg_gR aMi251 rfl rfl rfl hxb32_2 ?_
        refine go_ops aMi251 2 _ (f1 := (37, ([(2, .int x27_1), (0, .ref a0), (1, .int i1)], [.ref a0, .int (0 : Int32), .ref b32_2]))) rfl ?_
        obtain ⟨x37_3, hxx37_3, h⟩ := Option.bind_eq_some_iff.mp h
        refine gg_gI aMi251 rfl rfl rfl hxx37_3 ?_
        obtain ⟨I40_4, hxI40_4, h⟩ := Option.bind_eq_some_iff.mp h
        refine gg_sI (Or.inl ⟨rfl, rfl⟩) aMi251 rfl hxI40_4 ?_
        refine go_ops aMi251 2 _ (f1 := (43, ([(3, .int (0 : Int32)), (2, .int x27_1), (0, .ref a0), (1, .int i1)], []))) rfl ?_
        refine go_le (lv1 := [(0, .ref a0), (2, .int x27_1), (3, .int (0 : Int32))]) (aLe_of (show (List.map (fun q => q.1) ([(0, .ref a0), (2, .int x27_1), (3, .int (0 : Int32))] : ALv)).Nodup from (by show ([0, 2, 3] : List Nat).Nodup; decide)) (aSubL_cons rfl (aSubL_cons rfl (aSubL_cons rfl aSubL_nil)))) ?_
        exact Tf251_b43 hd N a0 x27_1 (0 : Int32) I40_4 _ h
      · rw [if_neg (of_decide_eq_false hb)] at h
        cases h
        exact go_ret aMi251 rfl rfl ⟨rfl, rfl⟩
    · rw [if_neg (of_decide_eq_false hb)] at h
      refine go_ops aMi251 1 _ (f1 := (9, ([(0, .ref a0), (1, .int i1), (2, .int i2)], [.ref a0]))) rfl ?_
      obtain ⟨b9_5, hxb9_5, h⟩ := Option.bind_eq_some_iff.mp h
      refine gg_gR aMi251 rfl rfl rfl hxb9_5 ?_
      refine go_ops aMi251 2 _ (f1 := (14, ([(0, .ref a0), (1, .int i1), (2, .int i2)], [.int (0 : Int32), .int i2, .ref b9_5]))) rfl ?_
      obtain ⟨I14_6, hxI14_6, h⟩ := Option.bind_eq_some_iff.mp h
      refine gg_sI (Or.inl ⟨rfl, rfl⟩) aMi251 rfl hxI14_6 ?_
      refine go_ops aMi251 2 _ (f1 := (2, ([(2, .int (i2 + (1 : Int32))), (0, .ref a0), (1, .int i1)], []))) rfl ?_
      refine go_le (lv1 := [(0, .ref a0), (1, .int i1), (2, .int (i2 + (1 : Int32)))]) (aLe_of (show (List.map (fun q => q.1) ([(0, .ref a0), (1, .int i1), (2, .int (i2 + (1 : Int32)))] : ALv)).Nodup from (by show ([0, 1, 2] : List Nat).Nodup; decide)) (aSubL_cons rfl (aSubL_cons rfl (aSubL_cons rfl aSubL_nil)))) ?_
      exact ih a0 i1 (i2 + (1 : Int32)) I14_6 _ h
def f251 (kad : Nat → Nat) (N : Nat) (Z : AZ) (a0 : Nat) (i1 : Int32) (I : AI) : Option (Unit × AI) :=
  f251_b2 kad N Z N a0 i1 (0 : Int32) I
set_option maxRecDepth 20000 in
theorem Tf251 {kad : Nat → Nat} {N : Nat} {Z : AZ} {d : Nat} {t : Option Nat × (Nat × Nat)} (hd : 0 ≤ d) : ∀ (a0 : Nat) (i1 : Int32) (I : AI) (r : Unit × AI), f251 kad N Z a0 i1 I = some r → aGo kad d 251 (0, ([(0, .ref a0), (1, .int i1)], [])) (aMem Z I, t) (qV Z t r) := by
  intro a0 i1 I r h
  unfold f251 at h
  refine go_ops aMi251 2 _ (f1 := (2, ([(2, .int (0 : Int32)), (0, .ref a0), (1, .int i1)], []))) rfl ?_
  refine go_le (lv1 := [(0, .ref a0), (1, .int i1), (2, .int (0 : Int32))]) (aLe_of (show (List.map (fun q => q.1) ([(0, .ref a0), (1, .int i1), (2, .int (0 : Int32))] : ALv)).Nodup from (by show ([0, 1, 2] : List Nat).Nodup; decide)) (aSubL_cons rfl (aSubL_cons rfl (aSubL_cons rfl aSubL_nil)))) ?_
  exact Tf251_b2 hd N a0 i1 (0 : Int32) I _ h
-- KernelGymModel.writesBlock ()V
def f250_b180 (kad : Nat → Nat) (N : Nat) (Z : AZ)  (I : AI) : Option (Unit × AI) :=
  some ((), I)
set_option maxRecDepth 20000 in
theorem Tf250_b180 {kad : Nat → Nat} {N : Nat} {Z : AZ} {d : Nat} {t : Option Nat × (Nat × Nat)} (hd : 1 ≤ d) : ∀  (I : AI) (r : Unit × AI), f250_b180 kad N Z  I = some r → aGo kad d 250 (180, ([], [])) (aMem Z I, t) (qV Z t r) := by
  intro  I r h
  unfold f250_b180 at h
  cases h
  exact go_ret aMi250 rfl rfl ⟨rfl, rfl⟩
def f250_b156 (kad : Nat → Nat) (N : Nat) (Z : AZ) (a0 : Nat) (I : AI) : Option (Unit × AI) :=
  (gI Z I 11 46 a0).bind fun x157_1 =>
  if ¬ x157_1 = 0 then
    f250_b180 kad N Z  I
  else
    (gR Z I 11 26 a0).bind fun b164_2 =>
    (sI Z I 100 b164_2 (3 : Int32) (0 : Int32)).bind fun I169_3 =>
    (gI Z I169_3 11 27 a0).bind fun x172_4 =>
    (pI Z I169_3 11 27 a0 (x172_4 + (2 : Int32))).bind fun I177_5 =>
    f250_b180 kad N Z  I177_5
set_option maxRecDepth 20000 in
theorem Tf250_b156 {kad : Nat → Nat} {N : Nat} {Z : AZ} {d : Nat} {t : Option Nat × (Nat × Nat)} (hd : 1 ≤ d) : ∀ (a0 : Nat) (I : AI) (r : Unit × AI), f250_b156 kad N Z a0 I = some r → aGo kad d 250 (156, ([(0, .ref a0)], [])) (aMem Z I, t) (qV Z t r) := by
  intro a0 I r h
  unfold f250_b156 at h
  refine go_ops aMi250 1 _ (f1 := (157, ([(0, .ref a0)], [.ref a0]))) rfl ?_
  obtain ⟨x157_1, hxx157_1, h⟩ := Option.bind_eq_some_iff.mp h
  refine gg_gI aMi250 rfl rfl rfl hxx157_1 ?_
  refine gg_br (b := decide (¬ x157_1 = 0)) (tg := 180) (off := 20) aMi250 rfl rfl rfl rfl (fun hb => ?_) (fun hb => ?_)
  · rw [if_pos (of_decide_eq_true hb)] at h
    refine go_le (lv1 := []) (aLe_of (show (List.map (fun q => q.1) ([] : ALv)).Nodup from (by show ([] : List Nat).Nodup; decide)) aSubL_nil) ?_
    exact Tf250_b180 hd  I _ h
  · rw [if_neg (of_decide_eq_false hb)] at h
    refine go_ops aMi250 1 _ (f1 := (164, ([(0, .ref a0)], [.ref a0]))) rfl ?_
    obtain ⟨b164_2, hxb164_2, h⟩ := Option.bind_eq_some_iff.mp h
    refine gg_gR aMi250 rfl rfl rfl hxb164_2 ?_
    refine go_ops aMi250 2 _ (f1 := (169, ([(0, .ref a0)], [.int (0 : Int32), .int (3 : Int32), .ref b164_2]))) rfl ?_
    obtain ⟨I169_3, hxI169_3, h⟩ := Option.bind_eq_some_iff.mp h
    refine gg_sI (Or.inl ⟨rfl, rfl⟩) aMi250 rfl hxI169_3 ?_
    refine go_ops aMi250 2 _ (f1 := (172, ([(0, .ref a0)], [.ref a0, .ref a0]))) rfl ?_
    obtain ⟨x172_4, hxx172_4, h⟩ := Option.bind_eq_some_iff.mp h
    refine gg_gI aMi250 rfl rfl rfl hxx172_4 ?_
    refine go_ops aMi250 2 _ (f1 := (177, ([(0, .ref a0)], [.int (x172_4 + (2 : Int32)), .ref a0]))) rfl ?_
    obtain ⟨I177_5, hxI177_5, h⟩ := Option.bind_eq_some_iff.mp h
    refine gg_pI aMi250 rfl rfl rfl rfl (by decide) hxI177_5 ?_
    refine go_le (lv1 := []) (aLe_of (show (List.map (fun q => q.1) ([] : ALv)).Nodup from (by show ([] : List Nat).Nodup; decide)) aSubL_nil) ?_
    exact Tf250_b180 hd  I177_5 _ h
def f250_b68 (kad : Nat → Nat) (N : Nat) (Z : AZ) (a0 : Nat) (s0 : Int32) (s1 : Nat) (I : AI) : Option (Unit × AI) :=
  (isK Z s1 11).bind fun u68_1 =>
  (f251 kad N Z s1 s0 I).bind fun r68_2 =>
  f250_b156 kad N Z a0 r68_2.2
set_option maxRecDepth 20000 in
theorem Tf250_b68 {kad : Nat → Nat} {N : Nat} {Z : AZ} {d : Nat} {t : Option Nat × (Nat × Nat)} (hd : 1 ≤ d) : ∀ (a0 : Nat) (s0 : Int32) (s1 : Nat) (I : AI) (r : Unit × AI), f250_b68 kad N Z a0 s0 s1 I = some r → aGo kad d 250 (68, ([(0, .ref a0)], [.int s0, .ref s1])) (aMem Z I, t) (qV Z t r) := by
  intro a0 s0 s1 I r h
  unfold f250_b68 at h
  obtain ⟨u68_1, hxu68_1, h⟩ := Option.bind_eq_some_iff.mp h
  obtain ⟨r68_2, hxr68_2, h⟩ := Option.bind_eq_some_iff.mp h
  refine gg_cv (as := [.int s0]) (r := []) aMi250 rfl rfl rfl aMi251 (Nat.le_of_ble_eq_true rfl) rfl (Nat.le_of_ble_eq_true rfl) (Nat.le_of_ble_eq_true rfl) (by omega) hxu68_1 (Tf251 (by omega) s1 s0 I _ hxr68_2) ?_
  show aGo kad d 250 (71, ([(0, .ref a0)], [])) (aMem Z r68_2.2, t) _
  refine go_ops aMi250 1 _ (f1 := (156, ([(0, .ref a0)], []))) rfl ?_
  exact Tf250_b156 hd a0 r68_2.2 _ h
def f250_b54 (kad : Nat → Nat) (N : Nat) (Z : AZ) (a0 : Nat) (i1 : Int32) (I : AI) : Option (Unit × AI) :=
  (gI Z I 11 47 a0).bind fun x57_1 =>
  if ¬ i1 = x57_1 then
    f250_b68 kad N Z a0 (0 : Int32) a0 I
  else
    f250_b68 kad N Z a0 (1 : Int32) a0 I
set_option maxRecDepth 20000 in
theorem Tf250_b54 {kad : Nat → Nat} {N : Nat} {Z : AZ} {d : Nat} {t : Option Nat × (Nat × Nat)} (hd : 1 ≤ d) : ∀ (a0 : Nat) (i1 : Int32) (I : AI) (r : Unit × AI), f250_b54 kad N Z a0 i1 I = some r → aGo kad d 250 (54, ([(0, .ref a0), (1, .int i1)], [])) (aMem Z I, t) (qV Z t r) := by
  intro a0 i1 I r h
  unfold f250_b54 at h
  refine go_ops aMi250 3 _ (f1 := (57, ([(0, .ref a0), (1, .int i1)], [.ref a0, .int i1, .ref a0]))) rfl ?_
  obtain ⟨x57_1, hxx57_1, h⟩ := Option.bind_eq_some_iff.mp h
  refine gg_gI aMi250 rfl rfl rfl hxx57_1 ?_
  refine gg_br (b := decide (¬ i1 = x57_1)) (tg := 67) (off := 7) aMi250 rfl rfl rfl rfl (fun hb => ?_) (fun hb => ?_)
  · rw [if_pos (of_decide_eq_true hb)] at h
    refine go_ops aMi250 1 _ (f1 := (68, ([(0, .ref a0), (1, .int i1)], [.int (0 : Int32), .ref a0]))) rfl ?_
    refine go_le (lv1 := [(0, .ref a0)]) (aLe_of (show (List.map (fun q => q.1) ([(0, .ref a0)] : ALv)).Nodup from (by show ([0] : List Nat).Nodup; decide)) (aSubL_cons rfl aSubL_nil)) ?_
    exact Tf250_b68 hd a0 (0 : Int32) a0 I _ h
  · rw [if_neg (of_decide_eq_false hb)] at h
    refine go_ops aMi250 2 _ (f1 := (68, ([(0, .ref a0), (1, .int i1)], [.int (1 : Int32), .ref a0]))) rfl ?_
    refine go_le (lv1 := [(0, .ref a0)]) (aLe_of (show (List.map (fun q => q.1) ([(0, .ref a0)] : ALv)).Nodup from (by show ([0] : List Nat).Nodup; decide)) (aSubL_cons rfl aSubL_nil)) ?_
    exact Tf250_b68 hd a0 (1 : Int32) a0 I _ h
def f250_b119 (kad : Nat → Nat) (N : Nat) (Z : AZ) : Nat → Nat → Int32 → Int32 → Int32 → AI → Option (Unit × AI)
  | 0, _, _, _, _, _ => none
  | F + 1, a0, i2, i3, i4, I =>
    if (8 : Int32) ≤ i4 then
      f250_b156 kad N Z a0 I
    else
      (gR Z I 11 50 a0).bind fun b127_1 =>
      (gR Z I 11 49 a0).bind fun b138_2 =>
      (lI Z I 100 b138_2 (((8 : Int32) * i2) + i4)).bind fun x148_3 =>
      (sI Z I 100 b127_1 (((8 : Int32) * i3) + i4) x148_3).bind fun I149_4 =>
      f250_b119 kad N Z F a0 i2 i3 (i4 + (1 : Int32)) I149_4
set_option maxRecDepth 20000 in
theorem Tf250_b119 {kad : Nat → Nat} {N : Nat} {Z : AZ} {d : Nat} {t : Option Nat × (Nat × Nat)} (hd : 1 ≤ d) : ∀ (F : Nat) (a0 : Nat) (i2 : Int32) (i3 : Int32) (i4 : Int32) (I : AI) (r : Unit × AI), f250_b119 kad N Z F a0 i2 i3 i4 I = some r → aGo kad d 250 (119, ([(0, .ref a0), (2, .int i2), (3, .int i3), (4, .int i4)], [])) (aMem Z I, t) (qV Z t r) := by
  intro F
  induction F with
  | zero => intro a0 i2 i3 i4 I r h; cases h
  | succ F ih =>
    intro a0 i2 i3 i4 I r h
    unfold f250_b119 at h
    refine go_ops aMi250 2 _ (f1 := (123, ([(0, .ref a0), (2, .int i2), (3, .int i3), (4, .int i4)], [.int (8 : Int32), .int i4]))) rfl ?_
    refine gg_br (b := decide ((8 : Int32) ≤ i4)) (tg := 156) (off := 33) aMi250 rfl rfl rfl rfl (fun hb => ?_) (fun hb => ?_)
    · rw [if_pos (of_decide_eq_true hb)] at h
      refine go_le (lv1 := [(0, .ref a0)]) (aLe_of (show (List.map (fun q => q.1) ([(0, .ref a0)] : ALv)).Nodup from (by show ([0] : List Nat).Nodup; decide)) (aSubL_cons rfl aSubL_nil)) ?_
      exact Tf250_b156 hd a0 I _ h
    · rw [if_neg (of_decide_eq_false hb)] at h
      refine go_ops aMi250 1 _ (f1 := (127, ([(0, .ref a0), (2, .int i2), (3, .int i3), (4, .int i4)], [.ref a0]))) rfl ?_
      obtain ⟨b127_1, hxb127_1, h⟩ := Option.bind_eq_some_iff.mp h
      refine gg_gR aMi250 rfl rfl rfl hxb127_1 ?_
      refine go_ops aMi250 6 _ (f1 := (138, ([(0, .ref a0), (2, .int i2), (3, .int i3), (4, .int i4)], [.ref a0, .int (((8 : Int32) * i3) + i4), .ref b127_1]))) rfl ?_
      obtain ⟨b138_2, hxb138_2, h⟩ := Option.bind_eq_some_iff.mp h
      refine gg_gR aMi250 rfl rfl rfl hxb138_2 ?_
      refine go_ops aMi250 5 _ (f1 := (148, ([(0, .ref a0), (2, .int i2), (3, .int i3), (4, .int i4)], [.int (((8 : Int32) * i2) + i4), .ref b138_2, .int (((8 : Int32) * i3) + i4), .ref b127_1]))) rfl ?_
      obtain ⟨x148_3, hxx148_3, h⟩ := Option.bind_eq_some_iff.mp h
      refine gg_lI (Or.inl ⟨rfl, rfl⟩) aMi250 rfl hxx148_3 ?_
      obtain ⟨I149_4, hxI149_4, h⟩ := Option.bind_eq_some_iff.mp h
      refine gg_sI (Or.inl ⟨rfl, rfl⟩) aMi250 rfl hxI149_4 ?_
      refine go_ops aMi250 2 _ (f1 := (119, ([(4, .int (i4 + (1 : Int32))), (0, .ref a0), (2, .int i2), (3, .int i3)], []))) rfl ?_
      refine go_le (lv1 := [(0, .ref a0), (2, .int i2), (3, .int i3), (4, .int (i4 + (1 : Int32)))]) (aLe_of (show (List.map (fun q => q.1) ([(0, .ref a0), (2, .int i2), (3, .int i3), (4, .int (i4 + (1 : Int32)))] : ALv)).Nodup from (by show ([0, 2, 3, 4] : List Nat).Nodup; decide)) (aSubL_cons rfl (aSubL_cons rfl (aSubL_cons rfl (aSubL_cons rfl aSubL_nil))))) ?_
      exact ih a0 i2 i3 (i4 + (1 : Int32)) I149_4 _ h
def f250_b115 (kad : Nat → Nat) (N : Nat) (Z : AZ) (a0 : Nat) (i2 : Int32) (s0 : Int32) (I : AI) : Option (Unit × AI) :=
  f250_b119 kad N Z N a0 i2 s0 (0 : Int32) I
set_option maxRecDepth 20000 in
theorem Tf250_b115 {kad : Nat → Nat} {N : Nat} {Z : AZ} {d : Nat} {t : Option Nat × (Nat × Nat)} (hd : 1 ≤ d) : ∀ (a0 : Nat) (i2 : Int32) (s0 : Int32) (I : AI) (r : Unit × AI), f250_b115 kad N Z a0 i2 s0 I = some r → aGo kad d 250 (115, ([(0, .ref a0), (2, .int i2)], [.int s0])) (aMem Z I, t) (qV Z t r) := by
  intro a0 i2 s0 I r h
  unfold f250_b115 at h
  refine go_ops aMi250 3 _ (f1 := (119, ([(4, .int (0 : Int32)), (3, .int s0), (0, .ref a0), (2, .int i2)], []))) rfl ?_
  refine go_le (lv1 := [(0, .ref a0), (2, .int i2), (3, .int s0), (4, .int (0 : Int32))]) (aLe_of (show (List.map (fun q => q.1) ([(0, .ref a0), (2, .int i2), (3, .int s0), (4, .int (0 : Int32))] : ALv)).Nodup from (by show ([0, 2, 3, 4] : List Nat).Nodup; decide)) (aSubL_cons rfl (aSubL_cons rfl (aSubL_cons rfl (aSubL_cons rfl aSubL_nil))))) ?_
  exact Tf250_b119 hd N a0 i2 s0 (0 : Int32) I _ h
def f250_b94 (kad : Nat → Nat) (N : Nat) (Z : AZ) (a0 : Nat) (i1 : Int32) (s0 : Int32) (I : AI) : Option (Unit × AI) :=
  (gI Z I 11 47 a0).bind fun x97_1 =>
  if x97_1 ≤ i1 then
    (gR Z I 11 48 a0).bind fun b110_2 =>
    (lI Z I 100 b110_2 s0).bind fun x114_3 =>
    f250_b115 kad N Z a0 s0 x114_3 I
  else
    f250_b115 kad N Z a0 s0 ((1 : Int32) + i1) I
set_option maxRecDepth 20000 in
theorem Tf250_b94 {kad : Nat → Nat} {N : Nat} {Z : AZ} {d : Nat} {t : Option Nat × (Nat × Nat)} (hd : 1 ≤ d) : ∀ (a0 : Nat) (i1 : Int32) (s0 : Int32) (I : AI) (r : Unit × AI), f250_b94 kad N Z a0 i1 s0 I = some r → aGo kad d 250 (94, ([(0, .ref a0), (1, .int i1)], [.int s0])) (aMem Z I, t) (qV Z t r) := by
  intro a0 i1 s0 I r h
  unfold f250_b94 at h
  refine go_ops aMi250 3 _ (f1 := (97, ([(2, .int s0), (0, .ref a0), (1, .int i1)], [.ref a0, .int i1]))) rfl ?_
  obtain ⟨x97_1, hxx97_1, h⟩ := Option.bind_eq_some_iff.mp h
  refine gg_gI aMi250 rfl rfl rfl hxx97_1 ?_
  refine gg_br (b := decide (x97_1 ≤ i1)) (tg := 109) (off := 9) aMi250 rfl rfl rfl rfl (fun hb => ?_) (fun hb => ?_)
  · rw [if_pos (of_decide_eq_true hb)] at h
    refine go_ops aMi250 1 _ (f1 := (110, ([(2, .int s0), (0, .ref a0), (1, .int i1)], [.ref a0]))) rfl ?_
    obtain ⟨b110_2, hxb110_2, h⟩ := Option.bind_eq_some_iff.mp h
    refine gg_gR aMi250 rfl rfl rfl hxb110_2 ?_
    refine go_ops aMi250 1 _ (f1 := (114, ([(2, .int s0), (0, .ref a0), (1, .int i1)], [.int s0, .ref b110_2]))) rfl ?_
    obtain ⟨x114_3, hxx114_3, h⟩ := Option.bind_eq_some_iff.mp h
    refine gg_lI (Or.inl ⟨rfl, rfl⟩) aMi250 rfl hxx114_3 ?_
    refine go_le (lv1 := [(0, .ref a0), (2, .int s0)]) (aLe_of (show (List.map (fun q => q.1) ([(0, .ref a0), (2, .int s0)] : ALv)).Nodup from (by show ([0, 2] : List Nat).Nodup; decide)) (aSubL_cons rfl (aSubL_cons rfl aSubL_nil))) ?_
    exact Tf250_b115 hd a0 s0 x114_3 I _ h
  · rw [if_neg (of_decide_eq_false hb)] at h
    refine go_ops aMi250 4 _ (f1 := (115, ([(2, .int s0), (0, .ref a0), (1, .int i1)], [.int ((1 : Int32) + i1)]))) rfl ?_
    refine go_le (lv1 := [(0, .ref a0), (2, .int s0)]) (aLe_of (show (List.map (fun q => q.1) ([(0, .ref a0), (2, .int s0)] : ALv)).Nodup from (by show ([0, 2] : List Nat).Nodup; decide)) (aSubL_cons rfl (aSubL_cons rfl aSubL_nil))) ?_
    exact Tf250_b115 hd a0 s0 ((1 : Int32) + i1) I _ h
def f250 (kad : Nat → Nat) (N : Nat) (Z : AZ) (a0 : Nat) (I : AI) : Option (Unit × AI) :=
  (gI Z I 11 47 a0).bind fun x2_1 =>
  (gI Z I 11 46 a0).bind fun x9_2 =>
  (gI Z I 11 46 a0).bind fun x16_3 =>
  (pI Z I 11 46 a0 (x16_3 - (1 : Int32))).bind fun I21_4 =>
  (gI Z I21_4 11 52 a0).bind fun x26_5 =>
  (pI Z I21_4 11 52 a0 (x26_5 + (1 : Int32))).bind fun I31_6 =>
  (gI Z I31_6 11 47 a0).bind fun x36_7 =>
  if ((((2 : Int32) * x2_1) + (2 : Int32)) - x9_2) = x36_7 then
    f250_b54 kad N Z a0 ((((2 : Int32) * x2_1) + (2 : Int32)) - x9_2) I31_6
  else
    (gI Z I31_6 11 47 a0).bind fun x45_8 =>
    if ¬ ((((2 : Int32) * x2_1) + (2 : Int32)) - x9_2) = (((2 : Int32) * x45_8) + (1 : Int32)) then
      (gI Z I31_6 11 47 a0).bind fun x76_9 =>
      if x76_9 ≤ ((((2 : Int32) * x2_1) + (2 : Int32)) - x9_2) then
        (gI Z I31_6 11 47 a0).bind fun x88_10 =>
        f250_b94 kad N Z a0 ((((2 : Int32) * x2_1) + (2 : Int32)) - x9_2) ((((((2 : Int32) * x2_1) + (2 : Int32)) - x9_2) - x88_10) - (1 : Int32)) I31_6
      else
        f250_b94 kad N Z a0 ((((2 : Int32) * x2_1) + (2 : Int32)) - x9_2) ((((2 : Int32) * x2_1) + (2 : Int32)) - x9_2) I31_6
    else
      f250_b54 kad N Z a0 ((((2 : Int32) * x2_1) + (2 : Int32)) - x9_2) I31_6
set_option maxRecDepth 20000 in
theorem Tf250 {kad : Nat → Nat} {N : Nat} {Z : AZ} {d : Nat} {t : Option Nat × (Nat × Nat)} (hd : 1 ≤ d) : ∀ (a0 : Nat) (I : AI) (r : Unit × AI), f250 kad N Z a0 I = some r → aGo kad d 250 (0, ([(0, .ref a0)], [])) (aMem Z I, t) (qV Z t r) := by
  intro a0 I r h
  unfold f250 at h
  refine go_ops aMi250 2 _ (f1 := (2, ([(0, .ref a0)], [.ref a0, .int (2 : Int32)]))) rfl ?_
  obtain ⟨x2_1, hxx2_1, h⟩ := Option.bind_eq_some_iff.mp h
  refine gg_gI aMi250 rfl rfl rfl hxx2_1 ?_
  refine go_ops aMi250 4 _ (f1 := (9, ([(0, .ref a0)], [.ref a0, .int (((2 : Int32) * x2_1) + (2 : Int32))]))) rfl ?_
  obtain ⟨x9_2, hxx9_2, h⟩ := Option.bind_eq_some_iff.mp h
  refine gg_gI aMi250 rfl rfl rfl hxx9_2 ?_
  refine go_ops aMi250 4 _ (f1 := (16, ([(1, .int ((((2 : Int32) * x2_1) + (2 : Int32)) - x9_2)), (0, .ref a0)], [.ref a0, .ref a0]))) rfl ?_
  obtain ⟨x16_3, hxx16_3, h⟩ := Option.bind_eq_some_iff.mp h
  refine gg_gI aMi250 rfl rfl rfl hxx16_3 ?_
  refine go_ops aMi250 2 _ (f1 := (21, ([(1, .int ((((2 : Int32) * x2_1) + (2 : Int32)) - x9_2)), (0, .ref a0)], [.int (x16_3 - (1 : Int32)), .ref a0]))) rfl ?_
  obtain ⟨I21_4, hxI21_4, h⟩ := Option.bind_eq_some_iff.mp h
  refine gg_pI aMi250 rfl rfl rfl rfl (by decide) hxI21_4 ?_
  refine go_ops aMi250 2 _ (f1 := (26, ([(1, .int ((((2 : Int32) * x2_1) + (2 : Int32)) - x9_2)), (0, .ref a0)], [.ref a0, .ref a0]))) rfl ?_
  obtain ⟨x26_5, hxx26_5, h⟩ := Option.bind_eq_some_iff.mp h
  refine gg_gI aMi250 rfl rfl rfl hxx26_5 ?_
  refine go_ops aMi250 2 _ (f1 := (31, ([(1, .int ((((2 : Int32) * x2_1) + (2 : Int32)) - x9_2)), (0, .ref a0)], [.int (x26_5 + (1 : Int32)), .ref a0]))) rfl ?_
  obtain ⟨I31_6, hxI31_6, h⟩ := Option.bind_eq_some_iff.mp h
  refine gg_pI aMi250 rfl rfl rfl rfl (by decide) hxI31_6 ?_
  refine go_ops aMi250 2 _ (f1 := (36, ([(1, .int ((((2 : Int32) * x2_1) + (2 : Int32)) - x9_2)), (0, .ref a0)], [.ref a0, .int ((((2 : Int32) * x2_1) + (2 : Int32)) - x9_2)]))) rfl ?_
  obtain ⟨x36_7, hxx36_7, h⟩ := Option.bind_eq_some_iff.mp h
  refine gg_gI aMi250 rfl rfl rfl hxx36_7 ?_
  refine gg_br (b := decide (((((2 : Int32) * x2_1) + (2 : Int32)) - x9_2) = x36_7)) (tg := 54) (off := 15) aMi250 rfl rfl rfl rfl (fun hb => ?_) (fun hb => ?_)
  · rw [if_pos (of_decide_eq_true hb)] at h
    refine go_le (lv1 := [(0, .ref a0), (1, .int ((((2 : Int32) * x2_1) + (2 : Int32)) - x9_2))]) (aLe_of (show (List.map (fun q => q.1) ([(0, .ref a0), (1, .int ((((2 : Int32) * x2_1) + (2 : Int32)) - x9_2))] : ALv)).Nodup from (by show ([0, 1] : List Nat).Nodup; decide)) (aSubL_cons rfl (aSubL_cons rfl aSubL_nil))) ?_
    exact Tf250_b54 hd a0 ((((2 : Int32) * x2_1) + (2 : Int32)) - x9_2) I31_6 _ h
  · rw [if_neg (of_decide_eq_false hb)] at h
    refine go_ops aMi250 3 _ (f1 := (45, ([(1, .int ((((2 : Int32) * x2_1) + (2 : Int32)) - x9_2)), (0, .ref a0)], [.ref a0, .int (2 : Int32), .int ((((2 : Int32) * x2_1) + (2 : Int32)) - x9_2)]))) rfl ?_
    obtain ⟨x45_8, hxx45_8, h⟩ := Option.bind_eq_some_iff.mp h
    refine gg_gI aMi250 rfl rfl rfl hxx45_8 ?_
    refine go_ops aMi250 3 _ (f1 := (51, ([(1, .int ((((2 : Int32) * x2_1) + (2 : Int32)) - x9_2)), (0, .ref a0)], [.int (((2 : Int32) * x45_8) + (1 : Int32)), .int ((((2 : Int32) * x2_1) + (2 : Int32)) - x9_2)]))) rfl ?_
    refine gg_br (b := decide (¬ ((((2 : Int32) * x2_1) + (2 : Int32)) - x9_2) = (((2 : Int32) * x45_8) + (1 : Int32)))) (tg := 74) (off := 23) aMi250 rfl rfl rfl rfl (fun hb => ?_) (fun hb => ?_)
    · rw [if_pos (of_decide_eq_true hb)] at h
      refine go_ops aMi250 2 _ (f1 := (76, ([(1, .int ((((2 : Int32) * x2_1) + (2 : Int32)) - x9_2)), (0, .ref a0)], [.ref a0, .int ((((2 : Int32) * x2_1) + (2 : Int32)) - x9_2)]))) rfl ?_
      obtain ⟨x76_9, hxx76_9, h⟩ := Option.bind_eq_some_iff.mp h
      refine gg_gI aMi250 rfl rfl rfl hxx76_9 ?_
      refine gg_br (b := decide (x76_9 ≤ ((((2 : Int32) * x2_1) + (2 : Int32)) - x9_2))) (tg := 86) (off := 7) aMi250 rfl rfl rfl rfl (fun hb => ?_) (fun hb => ?_)
      · rw [if_pos (of_decide_eq_true hb)] at h
        refine go_ops aMi250 2 _ (f1 := (88, ([(1, .int ((((2 : Int32) * x2_1) + (2 : Int32)) - x9_2)), (0, .ref a0)], [.ref a0, .int ((((2 : Int32) * x2_1) + (2 : Int32)) - x9_2)]))) rfl ?_
        obtain ⟨x88_10, hxx88_10, h⟩ := Option.bind_eq_some_iff.mp h
        refine gg_gI aMi250 rfl rfl rfl hxx88_10 ?_
        refine go_ops aMi250 3 _ (f1 := (94, ([(1, .int ((((2 : Int32) * x2_1) + (2 : Int32)) - x9_2)), (0, .ref a0)], [.int ((((((2 : Int32) * x2_1) + (2 : Int32)) - x9_2) - x88_10) - (1 : Int32))]))) rfl ?_
        refine go_le (lv1 := [(0, .ref a0), (1, .int ((((2 : Int32) * x2_1) + (2 : Int32)) - x9_2))]) (aLe_of (show (List.map (fun q => q.1) ([(0, .ref a0), (1, .int ((((2 : Int32) * x2_1) + (2 : Int32)) - x9_2))] : ALv)).Nodup from (by show ([0, 1] : List Nat).Nodup; decide)) (aSubL_cons rfl (aSubL_cons rfl aSubL_nil))) ?_
        exact Tf250_b94 hd a0 ((((2 : Int32) * x2_1) + (2 : Int32)) - x9_2) ((((((2 : Int32) * x2_1) + (2 : Int32)) - x9_2) - x88_10) - (1 : Int32)) I31_6 _ h
      · rw [if_neg (of_decide_eq_false hb)] at h
        refine go_ops aMi250 2 _ (f1 := (94, ([(1, .int ((((2 : Int32) * x2_1) + (2 : Int32)) - x9_2)), (0, .ref a0)], [.int ((((2 : Int32) * x2_1) + (2 : Int32)) - x9_2)]))) rfl ?_
        refine go_le (lv1 := [(0, .ref a0), (1, .int ((((2 : Int32) * x2_1) + (2 : Int32)) - x9_2))]) (aLe_of (show (List.map (fun q => q.1) ([(0, .ref a0), (1, .int ((((2 : Int32) * x2_1) + (2 : Int32)) - x9_2))] : ALv)).Nodup from (by show ([0, 1] : List Nat).Nodup; decide)) (aSubL_cons rfl (aSubL_cons rfl aSubL_nil))) ?_
        exact Tf250_b94 hd a0 ((((2 : Int32) * x2_1) + (2 : Int32)) - x9_2) ((((2 : Int32) * x2_1) + (2 : Int32)) - x9_2) I31_6 _ h
    · rw [if_neg (of_decide_eq_false hb)] at h
      refine go_le (lv1 := [(0, .ref a0), (1, .int ((((2 : Int32) * x2_1) + (2 : Int32)) - x9_2))]) (aLe_of (show (List.map (fun q => q.1) ([(0, .ref a0), (1, .int ((((2 : Int32) * x2_1) + (2 : Int32)) - x9_2))] : ALv)).Nodup from (by show ([0, 1] : List Nat).Nodup; decide)) (aSubL_cons rfl (aSubL_cons rfl aSubL_nil))) ?_
      exact Tf250_b54 hd a0 ((((2 : Int32) * x2_1) + (2 : Int32)) - x9_2) I31_6 _ h
-- KernelGymModel.stepsOnce ()V
def f234_b153 (kad : Nat → Nat) (N : Nat) (Z : AZ) (a0 : Nat) (I : AI) : Option (Unit × AI) :=
  (isK Z a0 11).bind fun u154_1 =>
  (f224 kad N Z a0 I).bind fun r154_2 =>
  some ((), r154_2.2)
set_option maxRecDepth 20000 in
theorem Tf234_b153 {kad : Nat → Nat} {N : Nat} {Z : AZ} {d : Nat} {t : Option Nat × (Nat × Nat)} (hd : 6 ≤ d) : ∀ (a0 : Nat) (I : AI) (r : Unit × AI), f234_b153 kad N Z a0 I = some r → aGo kad d 234 (153, ([(0, .ref a0)], [])) (aMem Z I, t) (qV Z t r) := by
  intro a0 I r h
  unfold f234_b153 at h
  refine go_ops aMi234 1 _ (f1 := (154, ([(0, .ref a0)], [.ref a0]))) rfl ?_
  obtain ⟨u154_1, hxu154_1, h⟩ := Option.bind_eq_some_iff.mp h
  obtain ⟨r154_2, hxr154_2, h⟩ := Option.bind_eq_some_iff.mp h
  refine gg_cv (as := []) (r := []) aMi234 rfl rfl rfl aMi224 (Nat.le_of_ble_eq_true rfl) rfl (Nat.le_of_ble_eq_true rfl) (Nat.le_of_ble_eq_true rfl) (by omega) hxu154_1 (Tf224 (by omega) a0 I _ hxr154_2) ?_
  show aGo kad d 234 (157, ([(0, .ref a0)], [])) (aMem Z r154_2.2, t) _
  cases h
  exact go_ret aMi234 rfl rfl ⟨rfl, rfl⟩
def f234_b150 (kad : Nat → Nat) (N : Nat) (Z : AZ) (a0 : Nat) (s0 : Int32) (s1 : Nat) (I : AI) : Option (Unit × AI) :=
  (pI Z I 11 35 s1 s0).bind fun I150_1 =>
  f234_b153 kad N Z a0 I150_1
set_option maxRecDepth 20000 in
theorem Tf234_b150 {kad : Nat → Nat} {N : Nat} {Z : AZ} {d : Nat} {t : Option Nat × (Nat × Nat)} (hd : 6 ≤ d) : ∀ (a0 : Nat) (s0 : Int32) (s1 : Nat) (I : AI) (r : Unit × AI), f234_b150 kad N Z a0 s0 s1 I = some r → aGo kad d 234 (150, ([(0, .ref a0)], [.int s0, .ref s1])) (aMem Z I, t) (qV Z t r) := by
  intro a0 s0 s1 I r h
  unfold f234_b150 at h
  obtain ⟨I150_1, hxI150_1, h⟩ := Option.bind_eq_some_iff.mp h
  refine gg_pI aMi234 rfl rfl rfl rfl (by decide) hxI150_1 ?_
  exact Tf234_b153 hd a0 I150_1 _ h
def f234_b127 (kad : Nat → Nat) (N : Nat) (Z : AZ) (a0 : Nat) (s0 : Int32) (s1 : Nat) (I : AI) : Option (Unit × AI) :=
  (pB Z I 11 32 s1 s0).bind fun I127_1 =>
  (gI Z I127_1 11 35 a0).bind fun x132_2 =>
  (gI Z I127_1 11 34 a0).bind fun x136_3 =>
  if ¬ x132_2 = x136_3 then
    (gI Z I127_1 11 35 a0).bind fun x147_4 =>
    f234_b150 kad N Z a0 x147_4 a0 I127_1
  else
    f234_b150 kad N Z a0 (0 : Int32) a0 I127_1
set_option maxRecDepth 20000 in
theorem Tf234_b127 {kad : Nat → Nat} {N : Nat} {Z : AZ} {d : Nat} {t : Option Nat × (Nat × Nat)} (hd : 6 ≤ d) : ∀ (a0 : Nat) (s0 : Int32) (s1 : Nat) (I : AI) (r : Unit × AI), f234_b127 kad N Z a0 s0 s1 I = some r → aGo kad d 234 (127, ([(0, .ref a0)], [.int s0, .ref s1])) (aMem Z I, t) (qV Z t r) := by
  intro a0 s0 s1 I r h
  unfold f234_b127 at h
  obtain ⟨I127_1, hxI127_1, h⟩ := Option.bind_eq_some_iff.mp h
  refine gg_pB aMi234 rfl rfl rfl rfl (by decide) hxI127_1 ?_
  refine go_ops aMi234 2 _ (f1 := (132, ([(0, .ref a0)], [.ref a0, .ref a0]))) rfl ?_
  obtain ⟨x132_2, hxx132_2, h⟩ := Option.bind_eq_some_iff.mp h
  refine gg_gI aMi234 rfl rfl rfl hxx132_2 ?_
  refine go_ops aMi234 1 _ (f1 := (136, ([(0, .ref a0)], [.ref a0, .int x132_2, .ref a0]))) rfl ?_
  obtain ⟨x136_3, hxx136_3, h⟩ := Option.bind_eq_some_iff.mp h
  refine gg_gI aMi234 rfl rfl rfl hxx136_3 ?_
  refine gg_br (b := decide (¬ x132_2 = x136_3)) (tg := 146) (off := 7) aMi234 rfl rfl rfl rfl (fun hb => ?_) (fun hb => ?_)
  · rw [if_pos (of_decide_eq_true hb)] at h
    refine go_ops aMi234 1 _ (f1 := (147, ([(0, .ref a0)], [.ref a0, .ref a0]))) rfl ?_
    obtain ⟨x147_4, hxx147_4, h⟩ := Option.bind_eq_some_iff.mp h
    refine gg_gI aMi234 rfl rfl rfl hxx147_4 ?_
    exact Tf234_b150 hd a0 x147_4 a0 I127_1 _ h
  · rw [if_neg (of_decide_eq_false hb)] at h
    refine go_ops aMi234 2 _ (f1 := (150, ([(0, .ref a0)], [.int (0 : Int32), .ref a0]))) rfl ?_
    exact Tf234_b150 hd a0 (0 : Int32) a0 I127_1 _ h
def f234_b122 (kad : Nat → Nat) (N : Nat) (Z : AZ) (a0 : Nat) (s0 : Nat) (I : AI) : Option (Unit × AI) :=
  f234_b127 kad N Z a0 (1 : Int32) s0 I
set_option maxRecDepth 20000 in
theorem Tf234_b122 {kad : Nat → Nat} {N : Nat} {Z : AZ} {d : Nat} {t : Option Nat × (Nat × Nat)} (hd : 6 ≤ d) : ∀ (a0 : Nat) (s0 : Nat) (I : AI) (r : Unit × AI), f234_b122 kad N Z a0 s0 I = some r → aGo kad d 234 (122, ([(0, .ref a0)], [.ref s0])) (aMem Z I, t) (qV Z t r) := by
  intro a0 s0 I r h
  unfold f234_b122 at h
  refine go_ops aMi234 2 _ (f1 := (127, ([(0, .ref a0)], [.int (1 : Int32), .ref s0]))) rfl ?_
  exact Tf234_b127 hd a0 (1 : Int32) s0 I _ h
def f234_b76 (kad : Nat → Nat) (N : Nat) (Z : AZ) (a0 : Nat) (I : AI) : Option (Unit × AI) :=
  (gI Z I 11 38 a0).bind fun x78_1 =>
  (pI Z I 11 38 a0 (x78_1 + (1 : Int32))).bind fun I83_2 =>
  (gI Z I83_2 11 34 a0).bind fun x87_3 =>
  if x87_3 ≤ 0 then
    f234_b153 kad N Z a0 I83_2
  else
    (gI Z I83_2 11 35 a0).bind fun x95_4 =>
    (pI Z I83_2 11 35 a0 (x95_4 + (1 : Int32))).bind fun I100_5 =>
    (gI Z I100_5 11 32 a0).bind fun x105_6 =>
    if ¬ x105_6 = 0 then
      f234_b122 kad N Z a0 a0 I100_5
    else
      (gI Z I100_5 11 35 a0).bind fun x112_7 =>
      (gI Z I100_5 11 34 a0).bind fun x116_8 =>
      if ¬ x112_7 = x116_8 then
        f234_b127 kad N Z a0 (0 : Int32) a0 I100_5
      else
        f234_b122 kad N Z a0 a0 I100_5
set_option maxRecDepth 20000 in
theorem Tf234_b76 {kad : Nat → Nat} {N : Nat} {Z : AZ} {d : Nat} {t : Option Nat × (Nat × Nat)} (hd : 6 ≤ d) : ∀ (a0 : Nat) (I : AI) (r : Unit × AI), f234_b76 kad N Z a0 I = some r → aGo kad d 234 (76, ([(0, .ref a0)], [])) (aMem Z I, t) (qV Z t r) := by
  intro a0 I r h
  unfold f234_b76 at h
  refine go_ops aMi234 2 _ (f1 := (78, ([(0, .ref a0)], [.ref a0, .ref a0]))) rfl ?_
  obtain ⟨x78_1, hxx78_1, h⟩ := Option.bind_eq_some_iff.mp h
  refine gg_gI aMi234 rfl rfl rfl hxx78_1 ?_
  refine go_ops aMi234 2 _ (f1 := (83, ([(0, .ref a0)], [.int (x78_1 + (1 : Int32)), .ref a0]))) rfl ?_
  obtain ⟨I83_2, hxI83_2, h⟩ := Option.bind_eq_some_iff.mp h
  refine gg_pI aMi234 rfl rfl rfl rfl (by decide) hxI83_2 ?_
  refine go_ops aMi234 1 _ (f1 := (87, ([(0, .ref a0)], [.ref a0]))) rfl ?_
  obtain ⟨x87_3, hxx87_3, h⟩ := Option.bind_eq_some_iff.mp h
  refine gg_gI aMi234 rfl rfl rfl hxx87_3 ?_
  refine gg_br (b := decide (x87_3 ≤ 0)) (tg := 153) (off := 63) aMi234 rfl rfl rfl rfl (fun hb => ?_) (fun hb => ?_)
  · rw [if_pos (of_decide_eq_true hb)] at h
    exact Tf234_b153 hd a0 I83_2 _ h
  · rw [if_neg (of_decide_eq_false hb)] at h
    refine go_ops aMi234 2 _ (f1 := (95, ([(0, .ref a0)], [.ref a0, .ref a0]))) rfl ?_
    obtain ⟨x95_4, hxx95_4, h⟩ := Option.bind_eq_some_iff.mp h
    refine gg_gI aMi234 rfl rfl rfl hxx95_4 ?_
    refine go_ops aMi234 2 _ (f1 := (100, ([(0, .ref a0)], [.int (x95_4 + (1 : Int32)), .ref a0]))) rfl ?_
    obtain ⟨I100_5, hxI100_5, h⟩ := Option.bind_eq_some_iff.mp h
    refine gg_pI aMi234 rfl rfl rfl rfl (by decide) hxI100_5 ?_
    refine go_ops aMi234 2 _ (f1 := (105, ([(0, .ref a0)], [.ref a0, .ref a0]))) rfl ?_
    obtain ⟨x105_6, hxx105_6, h⟩ := Option.bind_eq_some_iff.mp h
    refine gg_gI aMi234 rfl rfl rfl hxx105_6 ?_
    refine gg_br (b := decide (¬ x105_6 = 0)) (tg := 122) (off := 14) aMi234 rfl rfl rfl rfl (fun hb => ?_) (fun hb => ?_)
    · rw [if_pos (of_decide_eq_true hb)] at h
      exact Tf234_b122 hd a0 a0 I100_5 _ h
    · rw [if_neg (of_decide_eq_false hb)] at h
      refine go_ops aMi234 1 _ (f1 := (112, ([(0, .ref a0)], [.ref a0, .ref a0]))) rfl ?_
      obtain ⟨x112_7, hxx112_7, h⟩ := Option.bind_eq_some_iff.mp h
      refine gg_gI aMi234 rfl rfl rfl hxx112_7 ?_
      refine go_ops aMi234 1 _ (f1 := (116, ([(0, .ref a0)], [.ref a0, .int x112_7, .ref a0]))) rfl ?_
      obtain ⟨x116_8, hxx116_8, h⟩ := Option.bind_eq_some_iff.mp h
      refine gg_gI aMi234 rfl rfl rfl hxx116_8 ?_
      refine gg_br (b := decide (¬ x112_7 = x116_8)) (tg := 126) (off := 7) aMi234 rfl rfl rfl rfl (fun hb => ?_) (fun hb => ?_)
      · rw [if_pos (of_decide_eq_true hb)] at h
        refine go_ops aMi234 1 _ (f1 := (127, ([(0, .ref a0)], [.int (0 : Int32), .ref a0]))) rfl ?_
        exact Tf234_b127 hd a0 (0 : Int32) a0 I100_5 _ h
      · rw [if_neg (of_decide_eq_false hb)] at h
        exact Tf234_b122 hd a0 a0 I100_5 _ h
def f234_b65 (kad : Nat → Nat) (N : Nat) (Z : AZ) (a0 : Nat) (I : AI) : Option (Unit × AI) :=
  (isK Z a0 11).bind fun u66_1 =>
  (f226 kad N Z a0 I).bind fun r66_2 =>
  f234_b76 kad N Z a0 r66_2.2
set_option maxRecDepth 20000 in
theorem Tf234_b65 {kad : Nat → Nat} {N : Nat} {Z : AZ} {d : Nat} {t : Option Nat × (Nat × Nat)} (hd : 6 ≤ d) : ∀ (a0 : Nat) (I : AI) (r : Unit × AI), f234_b65 kad N Z a0 I = some r → aGo kad d 234 (65, ([(0, .ref a0)], [])) (aMem Z I, t) (qV Z t r) := by
  intro a0 I r h
  unfold f234_b65 at h
  refine go_ops aMi234 1 _ (f1 := (66, ([(0, .ref a0)], [.ref a0]))) rfl ?_
  obtain ⟨u66_1, hxu66_1, h⟩ := Option.bind_eq_some_iff.mp h
  obtain ⟨r66_2, hxr66_2, h⟩ := Option.bind_eq_some_iff.mp h
  refine gg_cv (as := []) (r := []) aMi234 rfl rfl rfl aMi226 (Nat.le_of_ble_eq_true rfl) rfl (Nat.le_of_ble_eq_true rfl) (Nat.le_of_ble_eq_true rfl) (by omega) hxu66_1 (Tf226 (by omega) a0 I _ hxr66_2) ?_
  show aGo kad d 234 (69, ([(0, .ref a0)], [])) (aMem Z r66_2.2, t) _
  refine go_ops aMi234 1 _ (f1 := (76, ([(0, .ref a0)], []))) rfl ?_
  exact Tf234_b76 hd a0 r66_2.2 _ h
def f234_b72 (kad : Nat → Nat) (N : Nat) (Z : AZ) (a0 : Nat) (I : AI) : Option (Unit × AI) :=
  (isK Z a0 11).bind fun u73_1 =>
  (f228 kad N Z a0 I).bind fun r73_2 =>
  f234_b76 kad N Z a0 r73_2.2
set_option maxRecDepth 20000 in
theorem Tf234_b72 {kad : Nat → Nat} {N : Nat} {Z : AZ} {d : Nat} {t : Option Nat × (Nat × Nat)} (hd : 6 ≤ d) : ∀ (a0 : Nat) (I : AI) (r : Unit × AI), f234_b72 kad N Z a0 I = some r → aGo kad d 234 (72, ([(0, .ref a0)], [])) (aMem Z I, t) (qV Z t r) := by
  intro a0 I r h
  unfold f234_b72 at h
  refine go_ops aMi234 1 _ (f1 := (73, ([(0, .ref a0)], [.ref a0]))) rfl ?_
  obtain ⟨u73_1, hxu73_1, h⟩ := Option.bind_eq_some_iff.mp h
  obtain ⟨r73_2, hxr73_2, h⟩ := Option.bind_eq_some_iff.mp h
  refine gg_cv (as := []) (r := []) aMi234 rfl rfl rfl aMi228 (Nat.le_of_ble_eq_true rfl) rfl (Nat.le_of_ble_eq_true rfl) (Nat.le_of_ble_eq_true rfl) (by omega) hxu73_1 (Tf228 (by omega) a0 I _ hxr73_2) ?_
  show aGo kad d 234 (76, ([(0, .ref a0)], [])) (aMem Z r73_2.2, t) _
  exact Tf234_b76 hd a0 r73_2.2 _ h
def f234_b30 (kad : Nat → Nat) (N : Nat) (Z : AZ) (a0 : Nat) (I : AI) : Option (Unit × AI) :=
  (gI Z I 11 46 a0).bind fun x31_1 =>
  if x31_1 ≤ 0 then
    (gI Z I 11 31 a0).bind fun x45_2 =>
    if x45_2 = 0 then
      f234_b72 kad N Z a0 I
    else
      (gI Z I 11 32 a0).bind fun x52_3 =>
      if ¬ x52_3 = 0 then
        f234_b65 kad N Z a0 I
      else
        (gI Z I 11 33 a0).bind fun x59_4 =>
        if x59_4 = 0 then
          f234_b72 kad N Z a0 I
        else
          f234_b65 kad N Z a0 I
  else
    (isK Z a0 11).bind fun u38_5 =>
    (f250 kad N Z a0 I).bind fun r38_6 =>
    f234_b76 kad N Z a0 r38_6.2
set_option maxRecDepth 20000 in
theorem Tf234_b30 {kad : Nat → Nat} {N : Nat} {Z : AZ} {d : Nat} {t : Option Nat × (Nat × Nat)} (hd : 6 ≤ d) : ∀ (a0 : Nat) (I : AI) (r : Unit × AI), f234_b30 kad N Z a0 I = some r → aGo kad d 234 (30, ([(0, .ref a0)], [])) (aMem Z I, t) (qV Z t r) := by
  intro a0 I r h
  unfold f234_b30 at h
  refine go_ops aMi234 1 _ (f1 := (31, ([(0, .ref a0)], [.ref a0]))) rfl ?_
  obtain ⟨x31_1, hxx31_1, h⟩ := Option.bind_eq_some_iff.mp h
  refine gg_gI aMi234 rfl rfl rfl hxx31_1 ?_
  refine gg_br (b := decide (x31_1 ≤ 0)) (tg := 44) (off := 10) aMi234 rfl rfl rfl rfl (fun hb => ?_) (fun hb => ?_)
  · rw [if_pos (of_decide_eq_true hb)] at h
    refine go_ops aMi234 1 _ (f1 := (45, ([(0, .ref a0)], [.ref a0]))) rfl ?_
    obtain ⟨x45_2, hxx45_2, h⟩ := Option.bind_eq_some_iff.mp h
    refine gg_gI aMi234 rfl rfl rfl hxx45_2 ?_
    refine gg_br (b := decide (x45_2 = 0)) (tg := 72) (off := 24) aMi234 rfl rfl rfl rfl (fun hb => ?_) (fun hb => ?_)
    · rw [if_pos (of_decide_eq_true hb)] at h
      exact Tf234_b72 hd a0 I _ h
    · rw [if_neg (of_decide_eq_false hb)] at h
      refine go_ops aMi234 1 _ (f1 := (52, ([(0, .ref a0)], [.ref a0]))) rfl ?_
      obtain ⟨x52_3, hxx52_3, h⟩ := Option.bind_eq_some_iff.mp h
      refine gg_gI aMi234 rfl rfl rfl hxx52_3 ?_
      refine gg_br (b := decide (¬ x52_3 = 0)) (tg := 65) (off := 10) aMi234 rfl rfl rfl rfl (fun hb => ?_) (fun hb => ?_)
      · rw [if_pos (of_decide_eq_true hb)] at h
        exact Tf234_b65 hd a0 I _ h
      · rw [if_neg (of_decide_eq_false hb)] at h
        refine go_ops aMi234 1 _ (f1 := (59, ([(0, .ref a0)], [.ref a0]))) rfl ?_
        obtain ⟨x59_4, hxx59_4, h⟩ := Option.bind_eq_some_iff.mp h
        refine gg_gI aMi234 rfl rfl rfl hxx59_4 ?_
        refine gg_br (b := decide (x59_4 = 0)) (tg := 72) (off := 10) aMi234 rfl rfl rfl rfl (fun hb => ?_) (fun hb => ?_)
        · rw [if_pos (of_decide_eq_true hb)] at h
          exact Tf234_b72 hd a0 I _ h
        · rw [if_neg (of_decide_eq_false hb)] at h
          exact Tf234_b65 hd a0 I _ h
  · rw [if_neg (of_decide_eq_false hb)] at h
    refine go_ops aMi234 1 _ (f1 := (38, ([(0, .ref a0)], [.ref a0]))) rfl ?_
    obtain ⟨u38_5, hxu38_5, h⟩ := Option.bind_eq_some_iff.mp h
    obtain ⟨r38_6, hxr38_6, h⟩ := Option.bind_eq_some_iff.mp h
    refine gg_cv (as := []) (r := []) aMi234 rfl rfl rfl aMi250 (Nat.le_of_ble_eq_true rfl) rfl (Nat.le_of_ble_eq_true rfl) (Nat.le_of_ble_eq_true rfl) (by omega) hxu38_5 (Tf250 (by omega) a0 I _ hxr38_6) ?_
    show aGo kad d 234 (41, ([(0, .ref a0)], [])) (aMem Z r38_6.2, t) _
    refine go_ops aMi234 1 _ (f1 := (76, ([(0, .ref a0)], []))) rfl ?_
    exact Tf234_b76 hd a0 r38_6.2 _ h
def f234 (kad : Nat → Nat) (N : Nat) (Z : AZ) (a0 : Nat) (I : AI) : Option (Unit × AI) :=
  (gI Z I 11 38 a0).bind fun x1_1 =>
  if (1000 : Int32) ≤ x1_1 then
    f234_b30 kad N Z a0 I
  else
    (gR Z I 11 44 a0).bind fun b11_2 =>
    (gI Z I 11 38 a0).bind fun x15_3 =>
    (sI Z I 100 b11_2 x15_3 (Int32.ofInt (-1))).bind fun I19_4 =>
    (gR Z I19_4 11 45 a0).bind fun b21_5 =>
    (gI Z I19_4 11 38 a0).bind fun x25_6 =>
    (sI Z I19_4 100 b21_5 x25_6 (Int32.ofInt (-1))).bind fun I29_7 =>
    f234_b30 kad N Z a0 I29_7
set_option maxRecDepth 20000 in
theorem Tf234 {kad : Nat → Nat} {N : Nat} {Z : AZ} {d : Nat} {t : Option Nat × (Nat × Nat)} (hd : 6 ≤ d) : ∀ (a0 : Nat) (I : AI) (r : Unit × AI), f234 kad N Z a0 I = some r → aGo kad d 234 (0, ([(0, .ref a0)], [])) (aMem Z I, t) (qV Z t r) := by
  intro a0 I r h
  unfold f234 at h
  refine go_ops aMi234 1 _ (f1 := (1, ([(0, .ref a0)], [.ref a0]))) rfl ?_
  obtain ⟨x1_1, hxx1_1, h⟩ := Option.bind_eq_some_iff.mp h
  refine gg_gI aMi234 rfl rfl rfl hxx1_1 ?_
  refine go_ops aMi234 1 _ (f1 := (7, ([(0, .ref a0)], [.int (1000 : Int32), .int x1_1]))) rfl ?_
  refine gg_br (b := decide ((1000 : Int32) ≤ x1_1)) (tg := 30) (off := 23) aMi234 rfl rfl rfl rfl (fun hb => ?_) (fun hb => ?_)
  · rw [if_pos (of_decide_eq_true hb)] at h
    exact Tf234_b30 hd a0 I _ h
  · rw [if_neg (of_decide_eq_false hb)] at h
    refine go_ops aMi234 1 _ (f1 := (11, ([(0, .ref a0)], [.ref a0]))) rfl ?_
    obtain ⟨b11_2, hxb11_2, h⟩ := Option.bind_eq_some_iff.mp h
    refine gg_gR aMi234 rfl rfl rfl hxb11_2 ?_
    refine go_ops aMi234 1 _ (f1 := (15, ([(0, .ref a0)], [.ref a0, .ref b11_2]))) rfl ?_
    obtain ⟨x15_3, hxx15_3, h⟩ := Option.bind_eq_some_iff.mp h
    refine gg_gI aMi234 rfl rfl rfl hxx15_3 ?_
    refine go_ops aMi234 1 _ (f1 := (19, ([(0, .ref a0)], [.int (Int32.ofInt (-1)), .int x15_3, .ref b11_2]))) rfl ?_
    obtain ⟨I19_4, hxI19_4, h⟩ := Option.bind_eq_some_iff.mp h
    refine gg_sI (Or.inl ⟨rfl, rfl⟩) aMi234 rfl hxI19_4 ?_
    refine go_ops aMi234 1 _ (f1 := (21, ([(0, .ref a0)], [.ref a0]))) rfl ?_
    obtain ⟨b21_5, hxb21_5, h⟩ := Option.bind_eq_some_iff.mp h
    refine gg_gR aMi234 rfl rfl rfl hxb21_5 ?_
    refine go_ops aMi234 1 _ (f1 := (25, ([(0, .ref a0)], [.ref a0, .ref b21_5]))) rfl ?_
    obtain ⟨x25_6, hxx25_6, h⟩ := Option.bind_eq_some_iff.mp h
    refine gg_gI aMi234 rfl rfl rfl hxx25_6 ?_
    refine go_ops aMi234 1 _ (f1 := (29, ([(0, .ref a0)], [.int (Int32.ofInt (-1)), .int x25_6, .ref b21_5]))) rfl ?_
    obtain ⟨I29_7, hxI29_7, h⟩ := Option.bind_eq_some_iff.mp h
    refine gg_sI (Or.inl ⟨rfl, rfl⟩) aMi234 rfl hxI29_7 ?_
    exact Tf234_b30 hd a0 I29_7 _ h
