-- KernelGymModel.flags ()I
def f273 (kad : Nat → Nat) (N : Nat) (Z : AZ) (a0 : Nat) (I : AI) : Option (Int32 × AI) :=
  (pI Z I 11 0 a0 (0 : Int32)).bind fun I2_1 =>
  (isK Z a0 11).bind fun u6_2 =>
  (f272 kad N Z a0 I2_1).bind fun r6_3 =>
  some (r6_3.1, r6_3.2)
set_option maxRecDepth 20000 in
theorem Tf273 {kad : Nat → Nat} {N : Nat} {Z : AZ} {d : Nat} {t : Option Nat × (Nat × Nat)} (hd : 1 ≤ d) : ∀ (a0 : Nat) (I : AI) (r : Int32 × AI), f273 kad N Z a0 I = some r → aGo kad d 273 (0, ([(0, .ref a0)], [])) (aMem Z I, t) (qI Z t r) := by
  intro a0 I r h
  unfold f273 at h
  refine go_ops aMi273 2 _ (f1 := (2, ([(0, .ref a0)], [.int (0 : Int32), .ref a0]))) rfl ?_
  obtain ⟨I2_1, hxI2_1, h⟩ := Option.bind_eq_some_iff.mp h
  refine gg_pI aMi273 rfl rfl rfl rfl (by decide) hxI2_1 ?_
  refine go_ops aMi273 1 _ (f1 := (6, ([(0, .ref a0)], [.ref a0]))) rfl ?_
  obtain ⟨u6_2, hxu6_2, h⟩ := Option.bind_eq_some_iff.mp h
  obtain ⟨r6_3, hxr6_3, h⟩ := Option.bind_eq_some_iff.mp h
  refine gg_cv (as := []) (r := []) aMi273 rfl rfl rfl aMi272 (Nat.le_of_ble_eq_true rfl) rfl (Nat.le_of_ble_eq_true rfl) (Nat.le_of_ble_eq_true rfl) (by omega) hxu6_2 (Tf272 (by omega) a0 I2_1 _ hxr6_3) ?_
  show aGo kad d 273 (9, ([(0, .ref a0)], [.int r6_3.1])) (aMem Z r6_3.2, t) _
  cases h
  exact go_ret aMi273 rfl aRetI ⟨rfl, rfl⟩
-- KernelGymModel.writesLeft ()I
def f274 (kad : Nat → Nat) (N : Nat) (Z : AZ) (a0 : Nat) (I : AI) : Option (Int32 × AI) :=
  (pI Z I 11 0 a0 (0 : Int32)).bind fun I2_1 =>
  (gI Z I2_1 11 46 a0).bind fun x6_2 =>
  some (x6_2, I2_1)
set_option maxRecDepth 20000 in
theorem Tf274 {kad : Nat → Nat} {N : Nat} {Z : AZ} {d : Nat} {t : Option Nat × (Nat × Nat)} (hd : 0 ≤ d) : ∀ (a0 : Nat) (I : AI) (r : Int32 × AI), f274 kad N Z a0 I = some r → aGo kad d 274 (0, ([(0, .ref a0)], [])) (aMem Z I, t) (qI Z t r) := by
  intro a0 I r h
  unfold f274 at h
  refine go_ops aMi274 2 _ (f1 := (2, ([(0, .ref a0)], [.int (0 : Int32), .ref a0]))) rfl ?_
  obtain ⟨I2_1, hxI2_1, h⟩ := Option.bind_eq_some_iff.mp h
  refine gg_pI aMi274 rfl rfl rfl rfl (by decide) hxI2_1 ?_
  refine go_ops aMi274 1 _ (f1 := (6, ([(0, .ref a0)], [.ref a0]))) rfl ?_
  obtain ⟨x6_2, hxx6_2, h⟩ := Option.bind_eq_some_iff.mp h
  refine gg_gI aMi274 rfl rfl rfl hxx6_2 ?_
  cases h
  exact go_ret aMi274 rfl aRetI ⟨rfl, rfl⟩
-- KernelGymModel.register (I)I
def f275_b31 (kad : Nat → Nat) (N : Nat) (Z : AZ) (s0 : Int32) (I : AI) : Option (Int32 × AI) :=
  some (s0, I)
set_option maxRecDepth 20000 in
theorem Tf275_b31 {kad : Nat → Nat} {N : Nat} {Z : AZ} {d : Nat} {t : Option Nat × (Nat × Nat)} (hd : 1 ≤ d) : ∀ (s0 : Int32) (I : AI) (r : Int32 × AI), f275_b31 kad N Z s0 I = some r → aGo kad d 275 (31, ([], [.int s0])) (aMem Z I, t) (qI Z t r) := by
  intro s0 I r h
  unfold f275_b31 at h
  cases h
  exact go_ret aMi275 rfl aRetI ⟨rfl, rfl⟩
def f275_b15 (kad : Nat → Nat) (N : Nat) (Z : AZ) (a0 : Nat) (i1 : Int32) (s0 : Int32) (s1 : Nat) (I : AI) : Option (Int32 × AI) :=
  (isK Z s1 11).bind fun u15_1 =>
  (f185 kad N Z s1 s0 I).bind fun r15_2 =>
  if r15_2.1 = 0 then
    f275_b31 kad N Z (0 : Int32) r15_2.2
  else
    (gR Z r15_2.2 11 26 a0).bind fun b22_3 =>
    (lI Z r15_2.2 100 b22_3 i1).bind fun x26_4 =>
    f275_b31 kad N Z x26_4 r15_2.2
set_option maxRecDepth 20000 in
theorem Tf275_b15 {kad : Nat → Nat} {N : Nat} {Z : AZ} {d : Nat} {t : Option Nat × (Nat × Nat)} (hd : 1 ≤ d) : ∀ (a0 : Nat) (i1 : Int32) (s0 : Int32) (s1 : Nat) (I : AI) (r : Int32 × AI), f275_b15 kad N Z a0 i1 s0 s1 I = some r → aGo kad d 275 (15, ([(0, .ref a0), (1, .int i1)], [.int s0, .ref s1])) (aMem Z I, t) (qI Z t r) := by
  intro a0 i1 s0 s1 I r h
  unfold f275_b15 at h
  obtain ⟨u15_1, hxu15_1, h⟩ := Option.bind_eq_some_iff.mp h
  obtain ⟨r15_2, hxr15_2, h⟩ := Option.bind_eq_some_iff.mp h
  refine gg_cv (as := [.int s0]) (r := []) aMi275 rfl rfl rfl aMi185 (Nat.le_of_ble_eq_true rfl) rfl (Nat.le_of_ble_eq_true rfl) (Nat.le_of_ble_eq_true rfl) (by omega) hxu15_1 (Tf185 (by omega) s1 s0 I _ hxr15_2) ?_
  show aGo kad d 275 (18, ([(0, .ref a0), (1, .int i1)], [.int r15_2.1])) (aMem Z r15_2.2, t) _
  refine gg_br (b := decide (r15_2.1 = 0)) (tg := 30) (off := 12) aMi275 rfl rfl rfl rfl (fun hb => ?_) (fun hb => ?_)
  · rw [if_pos (of_decide_eq_true hb)] at h
    refine go_ops aMi275 1 _ (f1 := (31, ([(0, .ref a0), (1, .int i1)], [.int (0 : Int32)]))) rfl ?_
    refine go_le (lv1 := []) (aLe_of (show (List.map (fun q => q.1) ([] : ALv)).Nodup from (by show ([] : List Nat).Nodup; decide)) aSubL_nil) ?_
    exact Tf275_b31 hd (0 : Int32) r15_2.2 _ h
  · rw [if_neg (of_decide_eq_false hb)] at h
    refine go_ops aMi275 1 _ (f1 := (22, ([(0, .ref a0), (1, .int i1)], [.ref a0]))) rfl ?_
    obtain ⟨b22_3, hxb22_3, h⟩ := Option.bind_eq_some_iff.mp h
    refine gg_gR aMi275 rfl rfl rfl hxb22_3 ?_
    refine go_ops aMi275 1 _ (f1 := (26, ([(0, .ref a0), (1, .int i1)], [.int i1, .ref b22_3]))) rfl ?_
    obtain ⟨x26_4, hxx26_4, h⟩ := Option.bind_eq_some_iff.mp h
    refine gg_lI (Or.inl ⟨rfl, rfl⟩) aMi275 rfl hxx26_4 ?_
    refine go_ops aMi275 1 _ (f1 := (31, ([(0, .ref a0), (1, .int i1)], [.int x26_4]))) rfl ?_
    refine go_le (lv1 := []) (aLe_of (show (List.map (fun q => q.1) ([] : ALv)).Nodup from (by show ([] : List Nat).Nodup; decide)) aSubL_nil) ?_
    exact Tf275_b31 hd x26_4 r15_2.2 _ h
def f275 (kad : Nat → Nat) (N : Nat) (Z : AZ) (a0 : Nat) (i1 : Int32) (I : AI) : Option (Int32 × AI) :=
  (f186 kad N Z i1 (0 : Int32) (3 : Int32) I).bind fun r4_1 =>
  if r4_1.1 = 0 then
    f275_b15 kad N Z a0 i1 (1 : Int32) a0 r4_1.2
  else
    f275_b15 kad N Z a0 i1 (0 : Int32) a0 r4_1.2
set_option maxRecDepth 20000 in
theorem Tf275 {kad : Nat → Nat} {N : Nat} {Z : AZ} {d : Nat} {t : Option Nat × (Nat × Nat)} (hd : 1 ≤ d) : ∀ (a0 : Nat) (i1 : Int32) (I : AI) (r : Int32 × AI), f275 kad N Z a0 i1 I = some r → aGo kad d 275 (0, ([(0, .ref a0), (1, .int i1)], [])) (aMem Z I, t) (qI Z t r) := by
  intro a0 i1 I r h
  unfold f275 at h
  refine go_ops aMi275 4 _ (f1 := (4, ([(0, .ref a0), (1, .int i1)], [.int (3 : Int32), .int (0 : Int32), .int i1, .ref a0]))) rfl ?_
  obtain ⟨r4_1, hxr4_1, h⟩ := Option.bind_eq_some_iff.mp h
  refine gg_cs (as := [.int i1, .int (0 : Int32), .int (3 : Int32)]) (r := [.ref a0]) aMi275 rfl rfl rfl aMi186 rfl (Nat.le_of_ble_eq_true rfl) (Nat.le_of_ble_eq_true rfl) (by omega) (Tf186 (by omega) i1 (0 : Int32) (3 : Int32) I _ hxr4_1) ?_
  show aGo kad d 275 (7, ([(0, .ref a0), (1, .int i1)], [.int r4_1.1, .ref a0])) (aMem Z r4_1.2, t) _
  refine gg_br (b := decide (r4_1.1 = 0)) (tg := 14) (off := 7) aMi275 rfl rfl rfl rfl (fun hb => ?_) (fun hb => ?_)
  · rw [if_pos (of_decide_eq_true hb)] at h
    refine go_ops aMi275 1 _ (f1 := (15, ([(0, .ref a0), (1, .int i1)], [.int (1 : Int32), .ref a0]))) rfl ?_
    exact Tf275_b15 hd a0 i1 (1 : Int32) a0 r4_1.2 _ h
  · rw [if_neg (of_decide_eq_false hb)] at h
    refine go_ops aMi275 2 _ (f1 := (15, ([(0, .ref a0), (1, .int i1)], [.int (0 : Int32), .ref a0]))) rfl ?_
    exact Tf275_b15 hd a0 i1 (0 : Int32) a0 r4_1.2 _ h
-- KernelGymModel.isAddress (I)Z
def f276 (kad : Nat → Nat) (N : Nat) (Z : AZ) (i0 : Int32) (I : AI) : Option (Int32 × AI) :=
  (f186 kad N Z i0 (0 : Int32) (255 : Int32) I).bind fun r5_1 =>
  if r5_1.1 = 0 ∨ r5_1.1 = 1 then some (r5_1.1, r5_1.2) else none
set_option maxRecDepth 20000 in
theorem Tf276 {kad : Nat → Nat} {N : Nat} {Z : AZ} {d : Nat} {t : Option Nat × (Nat × Nat)} (hd : 1 ≤ d) : ∀ (i0 : Int32) (I : AI) (r : Int32 × AI), f276 kad N Z i0 I = some r → aGo kad d 276 (0, ([(0, .int i0)], [])) (aMem Z I, t) (qI Z t r) := by
  intro i0 I r h
  unfold f276 at h
  refine go_ops aMi276 3 _ (f1 := (5, ([(0, .int i0)], [.int (255 : Int32), .int (0 : Int32), .int i0]))) rfl ?_
  obtain ⟨r5_1, hxr5_1, h⟩ := Option.bind_eq_some_iff.mp h
  refine gg_cs (as := [.int i0, .int (0 : Int32), .int (255 : Int32)]) (r := []) aMi276 rfl rfl rfl aMi186 rfl (Nat.le_of_ble_eq_true rfl) (Nat.le_of_ble_eq_true rfl) (by omega) (Tf186 (by omega) i0 (0 : Int32) (255 : Int32) I _ hxr5_1) ?_
  show aGo kad d 276 (8, ([(0, .int i0)], [.int r5_1.1])) (aMem Z r5_1.2, t) _
  split at h
  · rename_i hz
    cases h
    exact go_ret aMi276 rfl (aRetZ hz) ⟨rfl, rfl⟩
  · cases h
-- KernelGymModel.memory (I)I
def f277_b29 (kad : Nat → Nat) (N : Nat) (Z : AZ) (s0 : Int32) (I : AI) : Option (Int32 × AI) :=
  some (s0, I)
set_option maxRecDepth 20000 in
theorem Tf277_b29 {kad : Nat → Nat} {N : Nat} {Z : AZ} {d : Nat} {t : Option Nat × (Nat × Nat)} (hd : 2 ≤ d) : ∀ (s0 : Int32) (I : AI) (r : Int32 × AI), f277_b29 kad N Z s0 I = some r → aGo kad d 277 (29, ([], [.int s0])) (aMem Z I, t) (qI Z t r) := by
  intro s0 I r h
  unfold f277_b29 at h
  cases h
  exact go_ret aMi277 rfl aRetI ⟨rfl, rfl⟩
def f277_b13 (kad : Nat → Nat) (N : Nat) (Z : AZ) (a0 : Nat) (i1 : Int32) (s0 : Int32) (s1 : Nat) (I : AI) : Option (Int32 × AI) :=
  (isK Z s1 11).bind fun u13_1 =>
  (f185 kad N Z s1 s0 I).bind fun r13_2 =>
  if r13_2.1 = 0 then
    f277_b29 kad N Z (0 : Int32) r13_2.2
  else
    (gR Z r13_2.2 11 25 a0).bind fun b20_3 =>
    (lI Z r13_2.2 100 b20_3 i1).bind fun x24_4 =>
    f277_b29 kad N Z x24_4 r13_2.2
set_option maxRecDepth 20000 in
theorem Tf277_b13 {kad : Nat → Nat} {N : Nat} {Z : AZ} {d : Nat} {t : Option Nat × (Nat × Nat)} (hd : 2 ≤ d) : ∀ (a0 : Nat) (i1 : Int32) (s0 : Int32) (s1 : Nat) (I : AI) (r : Int32 × AI), f277_b13 kad N Z a0 i1 s0 s1 I = some r → aGo kad d 277 (13, ([(0, .ref a0), (1, .int i1)], [.int s0, .ref s1])) (aMem Z I, t) (qI Z t r) := by
  intro a0 i1 s0 s1 I r h
  unfold f277_b13 at h
  obtain ⟨u13_1, hxu13_1, h⟩ := Option.bind_eq_some_iff.mp h
  obtain ⟨r13_2, hxr13_2, h⟩ := Option.bind_eq_some_iff.mp h
  refine gg_cv (as := [.int s0]) (r := []) aMi277 rfl rfl rfl aMi185 (Nat.le_of_ble_eq_true rfl) rfl (Nat.le_of_ble_eq_true rfl) (Nat.le_of_ble_eq_true rfl) (by omega) hxu13_1 (Tf185 (by omega) s1 s0 I _ hxr13_2) ?_
  show aGo kad d 277 (16, ([(0, .ref a0), (1, .int i1)], [.int r13_2.1])) (aMem Z r13_2.2, t) _
  refine gg_br (b := decide (r13_2.1 = 0)) (tg := 28) (off := 12) aMi277 rfl rfl rfl rfl (fun hb => ?_) (fun hb => ?_)
  · rw [if_pos (of_decide_eq_true hb)] at h
    refine go_ops aMi277 1 _ (f1 := (29, ([(0, .ref a0), (1, .int i1)], [.int (0 : Int32)]))) rfl ?_
    refine go_le (lv1 := []) (aLe_of (show (List.map (fun q => q.1) ([] : ALv)).Nodup from (by show ([] : List Nat).Nodup; decide)) aSubL_nil) ?_
    exact Tf277_b29 hd (0 : Int32) r13_2.2 _ h
  · rw [if_neg (of_decide_eq_false hb)] at h
    refine go_ops aMi277 1 _ (f1 := (20, ([(0, .ref a0), (1, .int i1)], [.ref a0]))) rfl ?_
    obtain ⟨b20_3, hxb20_3, h⟩ := Option.bind_eq_some_iff.mp h
    refine gg_gR aMi277 rfl rfl rfl hxb20_3 ?_
    refine go_ops aMi277 1 _ (f1 := (24, ([(0, .ref a0), (1, .int i1)], [.int i1, .ref b20_3]))) rfl ?_
    obtain ⟨x24_4, hxx24_4, h⟩ := Option.bind_eq_some_iff.mp h
    refine gg_lI (Or.inl ⟨rfl, rfl⟩) aMi277 rfl hxx24_4 ?_
    refine go_ops aMi277 1 _ (f1 := (29, ([(0, .ref a0), (1, .int i1)], [.int x24_4]))) rfl ?_
    refine go_le (lv1 := []) (aLe_of (show (List.map (fun q => q.1) ([] : ALv)).Nodup from (by show ([] : List Nat).Nodup; decide)) aSubL_nil) ?_
    exact Tf277_b29 hd x24_4 r13_2.2 _ h
def f277 (kad : Nat → Nat) (N : Nat) (Z : AZ) (a0 : Nat) (i1 : Int32) (I : AI) : Option (Int32 × AI) :=
  (f276 kad N Z i1 I).bind fun r2_1 =>
  if r2_1.1 = 0 then
    f277_b13 kad N Z a0 i1 (1 : Int32) a0 r2_1.2
  else
    f277_b13 kad N Z a0 i1 (0 : Int32) a0 r2_1.2
set_option maxRecDepth 20000 in
theorem Tf277 {kad : Nat → Nat} {N : Nat} {Z : AZ} {d : Nat} {t : Option Nat × (Nat × Nat)} (hd : 2 ≤ d) : ∀ (a0 : Nat) (i1 : Int32) (I : AI) (r : Int32 × AI), f277 kad N Z a0 i1 I = some r → aGo kad d 277 (0, ([(0, .ref a0), (1, .int i1)], [])) (aMem Z I, t) (qI Z t r) := by
  intro a0 i1 I r h
  unfold f277 at h
  refine go_ops aMi277 2 _ (f1 := (2, ([(0, .ref a0), (1, .int i1)], [.int i1, .ref a0]))) rfl ?_
  obtain ⟨r2_1, hxr2_1, h⟩ := Option.bind_eq_some_iff.mp h
  refine gg_cs (as := [.int i1]) (r := [.ref a0]) aMi277 rfl rfl rfl aMi276 rfl (Nat.le_of_ble_eq_true rfl) (Nat.le_of_ble_eq_true rfl) (by omega) (Tf276 (by omega) i1 I _ hxr2_1) ?_
  show aGo kad d 277 (5, ([(0, .ref a0), (1, .int i1)], [.int r2_1.1, .ref a0])) (aMem Z r2_1.2, t) _
  refine gg_br (b := decide (r2_1.1 = 0)) (tg := 12) (off := 7) aMi277 rfl rfl rfl rfl (fun hb => ?_) (fun hb => ?_)
  · rw [if_pos (of_decide_eq_true hb)] at h
    refine go_ops aMi277 1 _ (f1 := (13, ([(0, .ref a0), (1, .int i1)], [.int (1 : Int32), .ref a0]))) rfl ?_
    exact Tf277_b13 hd a0 i1 (1 : Int32) a0 r2_1.2 _ h
  · rw [if_neg (of_decide_eq_false hb)] at h
    refine go_ops aMi277 2 _ (f1 := (13, ([(0, .ref a0), (1, .int i1)], [.int (0 : Int32), .ref a0]))) rfl ?_
    exact Tf277_b13 hd a0 i1 (0 : Int32) a0 r2_1.2 _ h
-- KernelGymModel.changedAt (I)I
def f278_b61 (kad : Nat → Nat) (N : Nat) (Z : AZ) (i2 : Int32) (I : AI) : Option (Int32 × AI) :=
  some (i2, I)
set_option maxRecDepth 20000 in
theorem Tf278_b61 {kad : Nat → Nat} {N : Nat} {Z : AZ} {d : Nat} {t : Option Nat × (Nat × Nat)} (hd : 2 ≤ d) : ∀ (i2 : Int32) (I : AI) (r : Int32 × AI), f278_b61 kad N Z i2 I = some r → aGo kad d 278 (61, ([(2, .int i2)], [])) (aMem Z I, t) (qI Z t r) := by
  intro i2 I r h
  unfold f278_b61 at h
  refine go_ops aMi278 1 _ (f1 := (62, ([(2, .int i2)], [.int i2]))) rfl ?_
  cases h
  exact go_ret aMi278 rfl aRetI ⟨rfl, rfl⟩
def f278_b28 (kad : Nat → Nat) (N : Nat) (Z : AZ) : Nat → Nat → Int32 → Int32 → AI → Option (Int32 × AI)
  | 0, _, _, _, _ => none
  | F + 1, a0, i1, i2, I =>
    (gI Z I 11 38 a0).bind fun x30_1 =>
    (gI Z I 11 40 a0).bind fun x34_2 =>
    if i2 < (x30_1 - x34_2) then
      some ((Int32.ofInt (-1)), I)
    else
      (gR Z I 11 44 a0).bind fun b42_3 =>
      (lI Z I 100 b42_3 i2).bind fun x46_4 =>
      if x46_4 = i1 then
        f278_b61 kad N Z i2 I
      else
        (gR Z I 11 45 a0).bind fun b52_5 =>
        (lI Z I 100 b52_5 i2).bind fun x56_6 =>
        if ¬ x56_6 = i1 then
          f278_b28 kad N Z F a0 i1 (i2 + (Int32.ofInt (-1))) I
        else
          f278_b61 kad N Z i2 I
set_option maxRecDepth 20000 in
theorem Tf278_b28 {kad : Nat → Nat} {N : Nat} {Z : AZ} {d : Nat} {t : Option Nat × (Nat × Nat)} (hd : 2 ≤ d) : ∀ (F : Nat) (a0 : Nat) (i1 : Int32) (i2 : Int32) (I : AI) (r : Int32 × AI), f278_b28 kad N Z F a0 i1 i2 I = some r → aGo kad d 278 (28, ([(0, .ref a0), (1, .int i1), (2, .int i2)], [])) (aMem Z I, t) (qI Z t r) := by
  intro F
  induction F with
  | zero => intro a0 i1 i2 I r h; cases h
  | succ F ih =>
    intro a0 i1 i2 I r h
    unfold f278_b28 at h
    refine go_ops aMi278 2 _ (f1 := (30, ([(0, .ref a0), (1, .int i1), (2, .int i2)], [.ref a0, .int i2]))) rfl ?_
    obtain ⟨x30_1, hxx30_1, h⟩ := Option.bind_eq_some_iff.mp h
    refine gg_gI aMi278 rfl rfl rfl hxx30_1 ?_
    refine go_ops aMi278 1 _ (f1 := (34, ([(0, .ref a0), (1, .int i1), (2, .int i2)], [.ref a0, .int x30_1, .int i2]))) rfl ?_
    obtain ⟨x34_2, hxx34_2, h⟩ := Option.bind_eq_some_iff.mp h
    refine gg_gI aMi278 rfl rfl rfl hxx34_2 ?_
    refine go_ops aMi278 1 _ (f1 := (38, ([(0, .ref a0), (1, .int i1), (2, .int i2)], [.int (x30_1 - x34_2), .int i2]))) rfl ?_
    refine gg_br (b := decide (i2 < (x30_1 - x34_2))) (tg := 69) (off := 31) aMi278 rfl rfl rfl rfl (fun hb => ?_) (fun hb => ?_)
    · rw [if_pos (of_decide_eq_true hb)] at h
      refine go_ops aMi278 1 _ (f1 := (70, ([(0, .ref a0), (1, .int i1), (2, .int i2)], [.int (Int32.ofInt (-1))]))) rfl ?_
      cases h
      exact go_ret aMi278 rfl aRetI ⟨rfl, rfl⟩
    · rw [if_neg (of_decide_eq_false hb)] at h
      refine go_ops aMi278 1 _ (f1 := (42, ([(0, .ref a0), (1, .int i1), (2, .int i2)], [.ref a0]))) rfl ?_
      obtain ⟨b42_3, hxb42_3, h⟩ := Option.bind_eq_some_iff.mp h
      refine gg_gR aMi278 rfl rfl rfl hxb42_3 ?_
      refine go_ops aMi278 1 _ (f1 := (46, ([(0, .ref a0), (1, .int i1), (2, .int i2)], [.int i2, .ref b42_3]))) rfl ?_
      obtain ⟨x46_4, hxx46_4, h⟩ := Option.bind_eq_some_iff.mp h
      refine gg_lI (Or.inl ⟨rfl, rfl⟩) aMi278 rfl hxx46_4 ?_
      refine go_ops aMi278 1 _ (f1 := (48, ([(0, .ref a0), (1, .int i1), (2, .int i2)], [.int i1, .int x46_4]))) rfl ?_
      refine gg_br (b := decide (x46_4 = i1)) (tg := 61) (off := 13) aMi278 rfl rfl rfl rfl (fun hb => ?_) (fun hb => ?_)
      · rw [if_pos (of_decide_eq_true hb)] at h
        refine go_le (lv1 := [(2, .int i2)]) (aLe_of (show (List.map (fun q => q.1) ([(2, .int i2)] : ALv)).Nodup from (by show ([2] : List Nat).Nodup; decide)) (aSubL_cons rfl aSubL_nil)) ?_
        exact Tf278_b61 hd i2 I _ h
      · rw [if_neg (of_decide_eq_false hb)] at h
        refine go_ops aMi278 1 _ (f1 := (52, ([(0, .ref a0), (1, .int i1), (2, .int i2)], [.ref a0]))) rfl ?_
        obtain ⟨b52_5, hxb52_5, h⟩ := Option.bind_eq_some_iff.mp h
        refine gg_gR aMi278 rfl rfl rfl hxb52_5 ?_
        refine go_ops aMi278 1 _ (f1 := (56, ([(0, .ref a0), (1, .int i1), (2, .int i2)], [.int i2, .ref b52_5]))) rfl ?_
        obtain ⟨x56_6, hxx56_6, h⟩ := Option.bind_eq_some_iff.mp h
        refine gg_lI (Or.inl ⟨rfl, rfl⟩) aMi278 rfl hxx56_6 ?_
        refine go_ops aMi278 1 _ (f1 := (58, ([(0, .ref a0), (1, .int i1), (2, .int i2)], [.int i1, .int x56_6]))) rfl ?_
        refine gg_br (b := decide (¬ x56_6 = i1)) (tg := 63) (off := 5) aMi278 rfl rfl rfl rfl (fun hb => ?_) (fun hb => ?_)
        · rw [if_pos (of_decide_eq_true hb)] at h
          refine go_ops aMi278 2 _ (f1 := (28, ([(2, .int (i2 + (Int32.ofInt (-1)))), (0, .ref a0), (1, .int i1)], []))) rfl ?_
          refine go_le (lv1 := [(0, .ref a0), (1, .int i1), (2, .int (i2 + (Int32.ofInt (-1))))]) (aLe_of (show (List.map (fun q => q.1) ([(0, .ref a0), (1, .int i1), (2, .int (i2 + (Int32.ofInt (-1))))] : ALv)).Nodup from (by show ([0, 1, 2] : List Nat).Nodup; decide)) (aSubL_cons rfl (aSubL_cons rfl (aSubL_cons rfl aSubL_nil)))) ?_
          exact ih a0 i1 (i2 + (Int32.ofInt (-1))) I _ h
        · rw [if_neg (of_decide_eq_false hb)] at h
          refine go_le (lv1 := [(2, .int i2)]) (aLe_of (show (List.map (fun q => q.1) ([(2, .int i2)] : ALv)).Nodup from (by show ([2] : List Nat).Nodup; decide)) (aSubL_cons rfl aSubL_nil)) ?_
          exact Tf278_b61 hd i2 I _ h
def f278_b13 (kad : Nat → Nat) (N : Nat) (Z : AZ) (a0 : Nat) (i1 : Int32) (s0 : Int32) (s1 : Nat) (I : AI) : Option (Int32 × AI) :=
  (isK Z s1 11).bind fun u13_1 =>
  (f185 kad N Z s1 s0 I).bind fun r13_2 =>
  if ¬ r13_2.1 = 0 then
    (gI Z r13_2.2 11 38 a0).bind fun x22_3 =>
    f278_b28 kad N Z N a0 i1 (x22_3 - (1 : Int32)) r13_2.2
  else
    some ((0 : Int32), r13_2.2)
set_option maxRecDepth 20000 in
theorem Tf278_b13 {kad : Nat → Nat} {N : Nat} {Z : AZ} {d : Nat} {t : Option Nat × (Nat × Nat)} (hd : 2 ≤ d) : ∀ (a0 : Nat) (i1 : Int32) (s0 : Int32) (s1 : Nat) (I : AI) (r : Int32 × AI), f278_b13 kad N Z a0 i1 s0 s1 I = some r → aGo kad d 278 (13, ([(0, .ref a0), (1, .int i1)], [.int s0, .ref s1])) (aMem Z I, t) (qI Z t r) := by
  intro a0 i1 s0 s1 I r h
  unfold f278_b13 at h
  obtain ⟨u13_1, hxu13_1, h⟩ := Option.bind_eq_some_iff.mp h
  obtain ⟨r13_2, hxr13_2, h⟩ := Option.bind_eq_some_iff.mp h
  refine gg_cv (as := [.int s0]) (r := []) aMi278 rfl rfl rfl aMi185 (Nat.le_of_ble_eq_true rfl) rfl (Nat.le_of_ble_eq_true rfl) (Nat.le_of_ble_eq_true rfl) (by omega) hxu13_1 (Tf185 (by omega) s1 s0 I _ hxr13_2) ?_
  show aGo kad d 278 (16, ([(0, .ref a0), (1, .int i1)], [.int r13_2.1])) (aMem Z r13_2.2, t) _
  refine gg_br (b := decide (¬ r13_2.1 = 0)) (tg := 21) (off := 5) aMi278 rfl rfl rfl rfl (fun hb => ?_) (fun hb => ?_)
  · rw [if_pos (of_decide_eq_true hb)] at h
    refine go_ops aMi278 1 _ (f1 := (22, ([(0, .ref a0), (1, .int i1)], [.ref a0]))) rfl ?_
    obtain ⟨x22_3, hxx22_3, h⟩ := Option.bind_eq_some_iff.mp h
    refine gg_gI aMi278 rfl rfl rfl hxx22_3 ?_
    refine go_ops aMi278 3 _ (f1 := (28, ([(2, .int (x22_3 - (1 : Int32))), (0, .ref a0), (1, .int i1)], []))) rfl ?_
    refine go_le (lv1 := [(0, .ref a0), (1, .int i1), (2, .int (x22_3 - (1 : Int32)))]) (aLe_of (show (List.map (fun q => q.1) ([(0, .ref a0), (1, .int i1), (2, .int (x22_3 - (1 : Int32)))] : ALv)).Nodup from (by show ([0, 1, 2] : List Nat).Nodup; decide)) (aSubL_cons rfl (aSubL_cons rfl (aSubL_cons rfl aSubL_nil)))) ?_
    exact Tf278_b28 hd N a0 i1 (x22_3 - (1 : Int32)) r13_2.2 _ h
  · rw [if_neg (of_decide_eq_false hb)] at h
    refine go_ops aMi278 1 _ (f1 := (20, ([(0, .ref a0), (1, .int i1)], [.int (0 : Int32)]))) rfl ?_
    cases h
    exact go_ret aMi278 rfl aRetI ⟨rfl, rfl⟩
def f278 (kad : Nat → Nat) (N : Nat) (Z : AZ) (a0 : Nat) (i1 : Int32) (I : AI) : Option (Int32 × AI) :=
  (f276 kad N Z i1 I).bind fun r2_1 =>
  if r2_1.1 = 0 then
    f278_b13 kad N Z a0 i1 (1 : Int32) a0 r2_1.2
  else
    f278_b13 kad N Z a0 i1 (0 : Int32) a0 r2_1.2
set_option maxRecDepth 20000 in
theorem Tf278 {kad : Nat → Nat} {N : Nat} {Z : AZ} {d : Nat} {t : Option Nat × (Nat × Nat)} (hd : 2 ≤ d) : ∀ (a0 : Nat) (i1 : Int32) (I : AI) (r : Int32 × AI), f278 kad N Z a0 i1 I = some r → aGo kad d 278 (0, ([(0, .ref a0), (1, .int i1)], [])) (aMem Z I, t) (qI Z t r) := by
  intro a0 i1 I r h
  unfold f278 at h
  refine go_ops aMi278 2 _ (f1 := (2, ([(0, .ref a0), (1, .int i1)], [.int i1, .ref a0]))) rfl ?_
  obtain ⟨r2_1, hxr2_1, h⟩ := Option.bind_eq_some_iff.mp h
  refine gg_cs (as := [.int i1]) (r := [.ref a0]) aMi278 rfl rfl rfl aMi276 rfl (Nat.le_of_ble_eq_true rfl) (Nat.le_of_ble_eq_true rfl) (by omega) (Tf276 (by omega) i1 I _ hxr2_1) ?_
  show aGo kad d 278 (5, ([(0, .ref a0), (1, .int i1)], [.int r2_1.1, .ref a0])) (aMem Z r2_1.2, t) _
  refine gg_br (b := decide (r2_1.1 = 0)) (tg := 12) (off := 7) aMi278 rfl rfl rfl rfl (fun hb => ?_) (fun hb => ?_)
  · rw [if_pos (of_decide_eq_true hb)] at h
    refine go_ops aMi278 1 _ (f1 := (13, ([(0, .ref a0), (1, .int i1)], [.int (1 : Int32), .ref a0]))) rfl ?_
    exact Tf278_b13 hd a0 i1 (1 : Int32) a0 r2_1.2 _ h
  · rw [if_neg (of_decide_eq_false hb)] at h
    refine go_ops aMi278 2 _ (f1 := (13, ([(0, .ref a0), (1, .int i1)], [.int (0 : Int32), .ref a0]))) rfl ?_
    exact Tf278_b13 hd a0 i1 (0 : Int32) a0 r2_1.2 _ h
-- KernelGymModel.tape ()I
def f279 (kad : Nat → Nat) (N : Nat) (Z : AZ) (a0 : Nat) (I : AI) : Option (Int32 × AI) :=
  (pI Z I 11 0 a0 (0 : Int32)).bind fun I2_1 =>
  (gI Z I2_1 11 37 a0).bind fun x6_2 =>
  some (x6_2, I2_1)
set_option maxRecDepth 20000 in
theorem Tf279 {kad : Nat → Nat} {N : Nat} {Z : AZ} {d : Nat} {t : Option Nat × (Nat × Nat)} (hd : 0 ≤ d) : ∀ (a0 : Nat) (I : AI) (r : Int32 × AI), f279 kad N Z a0 I = some r → aGo kad d 279 (0, ([(0, .ref a0)], [])) (aMem Z I, t) (qI Z t r) := by
  intro a0 I r h
  unfold f279 at h
  refine go_ops aMi279 2 _ (f1 := (2, ([(0, .ref a0)], [.int (0 : Int32), .ref a0]))) rfl ?_
  obtain ⟨I2_1, hxI2_1, h⟩ := Option.bind_eq_some_iff.mp h
  refine gg_pI aMi279 rfl rfl rfl rfl (by decide) hxI2_1 ?_
  refine go_ops aMi279 1 _ (f1 := (6, ([(0, .ref a0)], [.ref a0]))) rfl ?_
  obtain ⟨x6_2, hxx6_2, h⟩ := Option.bind_eq_some_iff.mp h
  refine gg_gI aMi279 rfl rfl rfl hxx6_2 ?_
  cases h
  exact go_ret aMi279 rfl aRetI ⟨rfl, rfl⟩
-- KernelGymModel.tapeAt (I)I
def f280_b36 (kad : Nat → Nat) (N : Nat) (Z : AZ) (s0 : Int32) (I : AI) : Option (Int32 × AI) :=
  some (s0, I)
set_option maxRecDepth 20000 in
theorem Tf280_b36 {kad : Nat → Nat} {N : Nat} {Z : AZ} {d : Nat} {t : Option Nat × (Nat × Nat)} (hd : 1 ≤ d) : ∀ (s0 : Int32) (I : AI) (r : Int32 × AI), f280_b36 kad N Z s0 I = some r → aGo kad d 280 (36, ([], [.int s0])) (aMem Z I, t) (qI Z t r) := by
  intro s0 I r h
  unfold f280_b36 at h
  cases h
  exact go_ret aMi280 rfl aRetI ⟨rfl, rfl⟩
def f280_b20 (kad : Nat → Nat) (N : Nat) (Z : AZ) (a0 : Nat) (i1 : Int32) (s0 : Int32) (s1 : Nat) (I : AI) : Option (Int32 × AI) :=
  (isK Z s1 11).bind fun u20_1 =>
  (f185 kad N Z s1 s0 I).bind fun r20_2 =>
  if r20_2.1 = 0 then
    f280_b36 kad N Z (0 : Int32) r20_2.2
  else
    (gR Z r20_2.2 11 36 a0).bind fun b27_3 =>
    (lI Z r20_2.2 100 b27_3 i1).bind fun x31_4 =>
    f280_b36 kad N Z x31_4 r20_2.2
set_option maxRecDepth 20000 in
theorem Tf280_b20 {kad : Nat → Nat} {N : Nat} {Z : AZ} {d : Nat} {t : Option Nat × (Nat × Nat)} (hd : 1 ≤ d) : ∀ (a0 : Nat) (i1 : Int32) (s0 : Int32) (s1 : Nat) (I : AI) (r : Int32 × AI), f280_b20 kad N Z a0 i1 s0 s1 I = some r → aGo kad d 280 (20, ([(0, .ref a0), (1, .int i1)], [.int s0, .ref s1])) (aMem Z I, t) (qI Z t r) := by
  intro a0 i1 s0 s1 I r h
  unfold f280_b20 at h
  obtain ⟨u20_1, hxu20_1, h⟩ := Option.bind_eq_some_iff.mp h
  obtain ⟨r20_2, hxr20_2, h⟩ := Option.bind_eq_some_iff.mp h
  refine gg_cv (as := [.int s0]) (r := []) aMi280 rfl rfl rfl aMi185 (Nat.le_of_ble_eq_true rfl) rfl (Nat.le_of_ble_eq_true rfl) (Nat.le_of_ble_eq_true rfl) (by omega) hxu20_1 (Tf185 (by omega) s1 s0 I _ hxr20_2) ?_
  show aGo kad d 280 (23, ([(0, .ref a0), (1, .int i1)], [.int r20_2.1])) (aMem Z r20_2.2, t) _
  refine gg_br (b := decide (r20_2.1 = 0)) (tg := 35) (off := 12) aMi280 rfl rfl rfl rfl (fun hb => ?_) (fun hb => ?_)
  · rw [if_pos (of_decide_eq_true hb)] at h
    refine go_ops aMi280 1 _ (f1 := (36, ([(0, .ref a0), (1, .int i1)], [.int (0 : Int32)]))) rfl ?_
    refine go_le (lv1 := []) (aLe_of (show (List.map (fun q => q.1) ([] : ALv)).Nodup from (by show ([] : List Nat).Nodup; decide)) aSubL_nil) ?_
    exact Tf280_b36 hd (0 : Int32) r20_2.2 _ h
  · rw [if_neg (of_decide_eq_false hb)] at h
    refine go_ops aMi280 1 _ (f1 := (27, ([(0, .ref a0), (1, .int i1)], [.ref a0]))) rfl ?_
    obtain ⟨b27_3, hxb27_3, h⟩ := Option.bind_eq_some_iff.mp h
    refine gg_gR aMi280 rfl rfl rfl hxb27_3 ?_
    refine go_ops aMi280 1 _ (f1 := (31, ([(0, .ref a0), (1, .int i1)], [.int i1, .ref b27_3]))) rfl ?_
    obtain ⟨x31_4, hxx31_4, h⟩ := Option.bind_eq_some_iff.mp h
    refine gg_lI (Or.inl ⟨rfl, rfl⟩) aMi280 rfl hxx31_4 ?_
    refine go_ops aMi280 1 _ (f1 := (36, ([(0, .ref a0), (1, .int i1)], [.int x31_4]))) rfl ?_
    refine go_le (lv1 := []) (aLe_of (show (List.map (fun q => q.1) ([] : ALv)).Nodup from (by show ([] : List Nat).Nodup; decide)) aSubL_nil) ?_
    exact Tf280_b36 hd x31_4 r20_2.2 _ h
def f280 (kad : Nat → Nat) (N : Nat) (Z : AZ) (a0 : Nat) (i1 : Int32) (I : AI) : Option (Int32 × AI) :=
  (gI Z I 11 37 a0).bind fun x4_1 =>
  (f186 kad N Z i1 (0 : Int32) (x4_1 - (1 : Int32)) I).bind fun r9_2 =>
  if r9_2.1 = 0 then
    f280_b20 kad N Z a0 i1 (1 : Int32) a0 r9_2.2
  else
    f280_b20 kad N Z a0 i1 (0 : Int32) a0 r9_2.2
set_option maxRecDepth 20000 in
theorem Tf280 {kad : Nat → Nat} {N : Nat} {Z : AZ} {d : Nat} {t : Option Nat × (Nat × Nat)} (hd : 1 ≤ d) : ∀ (a0 : Nat) (i1 : Int32) (I : AI) (r : Int32 × AI), f280 kad N Z a0 i1 I = some r → aGo kad d 280 (0, ([(0, .ref a0), (1, .int i1)], [])) (aMem Z I, t) (qI Z t r) := by
  intro a0 i1 I r h
  unfold f280 at h
  refine go_ops aMi280 4 _ (f1 := (4, ([(0, .ref a0), (1, .int i1)], [.ref a0, .int (0 : Int32), .int i1, .ref a0]))) rfl ?_
  obtain ⟨x4_1, hxx4_1, h⟩ := Option.bind_eq_some_iff.mp h
  refine gg_gI aMi280 rfl rfl rfl hxx4_1 ?_
  refine go_ops aMi280 2 _ (f1 := (9, ([(0, .ref a0), (1, .int i1)], [.int (x4_1 - (1 : Int32)), .int (0 : Int32), .int i1, .ref a0]))) rfl ?_
  obtain ⟨r9_2, hxr9_2, h⟩ := Option.bind_eq_some_iff.mp h
  refine gg_cs (as := [.int i1, .int (0 : Int32), .int (x4_1 - (1 : Int32))]) (r := [.ref a0]) aMi280 rfl rfl rfl aMi186 rfl (Nat.le_of_ble_eq_true rfl) (Nat.le_of_ble_eq_true rfl) (by omega) (Tf186 (by omega) i1 (0 : Int32) (x4_1 - (1 : Int32)) I _ hxr9_2) ?_
  show aGo kad d 280 (12, ([(0, .ref a0), (1, .int i1)], [.int r9_2.1, .ref a0])) (aMem Z r9_2.2, t) _
  refine gg_br (b := decide (r9_2.1 = 0)) (tg := 19) (off := 7) aMi280 rfl rfl rfl rfl (fun hb => ?_) (fun hb => ?_)
  · rw [if_pos (of_decide_eq_true hb)] at h
    refine go_ops aMi280 1 _ (f1 := (20, ([(0, .ref a0), (1, .int i1)], [.int (1 : Int32), .ref a0]))) rfl ?_
    exact Tf280_b20 hd a0 i1 (1 : Int32) a0 r9_2.2 _ h
  · rw [if_neg (of_decide_eq_false hb)] at h
    refine go_ops aMi280 2 _ (f1 := (20, ([(0, .ref a0), (1, .int i1)], [.int (0 : Int32), .ref a0]))) rfl ?_
    exact Tf280_b20 hd a0 i1 (0 : Int32) a0 r9_2.2 _ h
-- KernelGymModel.added (II)I
def f281 (kad : Nat → Nat) (N : Nat) (Z : AZ) (i0 : Int32) (i1 : Int32) (I : AI) : Option (Int32 × AI) :=
  some ((((((31 : Int64) * (i0.toInt64)) + (i1.toInt64)) - (((31 : Int64) * (i0.toInt64)) + (i1.toInt64)) / (1000003 : Int64) * (1000003 : Int64)).toInt32), I)
set_option maxRecDepth 20000 in
theorem Tf281 {kad : Nat → Nat} {N : Nat} {Z : AZ} {d : Nat} {t : Option Nat × (Nat × Nat)} (hd : 0 ≤ d) : ∀ (i0 : Int32) (i1 : Int32) (I : AI) (r : Int32 × AI), f281 kad N Z i0 i1 I = some r → aGo kad d 281 (0, ([(0, .int i0), (1, .int i1)], [])) (aMem Z I, t) (qI Z t r) := by
  intro i0 i1 I r h
  unfold f281 at h
  refine gg_kL aMi281 rfl rfl ?_
  refine go_ops aMi281 6 _ (f1 := (9, ([(0, .int i0), (1, .int i1)], [.long (((31 : Int64) * (i0.toInt64)) + (i1.toInt64))]))) rfl ?_
  refine gg_kL aMi281 rfl rfl ?_
  refine go_ops aMi281 2 _ (f1 := (14, ([(0, .int i0), (1, .int i1)], [.int (((((31 : Int64) * (i0.toInt64)) + (i1.toInt64)) - (((31 : Int64) * (i0.toInt64)) + (i1.toInt64)) / (1000003 : Int64) * (1000003 : Int64)).toInt32)]))) rfl ?_
  cases h
  exact go_ret aMi281 rfl aRetI ⟨rfl, rfl⟩
-- KernelGymModel.sumOf ()I
def f282_b157 (kad : Nat → Nat) (N : Nat) (Z : AZ) : Nat → Nat → Int32 → Int32 → AI → Option (Int32 × AI)
  | 0, _, _, _, _ => none
  | F + 1, a0, i1, i2, I =>
    (gI Z I 11 37 a0).bind fun x159_1 =>
    if x159_1 ≤ i2 then
      some (i1, I)
    else
      (gR Z I 11 36 a0).bind fun b167_2 =>
      (lI Z I 100 b167_2 i2).bind fun x171_3 =>
      (f281 kad N Z i1 x171_3 I).bind fun r172_4 =>
      f282_b157 kad N Z F a0 r172_4.1 (i2 + (1 : Int32)) r172_4.2
set_option maxRecDepth 20000 in
theorem Tf282_b157 {kad : Nat → Nat} {N : Nat} {Z : AZ} {d : Nat} {t : Option Nat × (Nat × Nat)} (hd : 1 ≤ d) : ∀ (F : Nat) (a0 : Nat) (i1 : Int32) (i2 : Int32) (I : AI) (r : Int32 × AI), f282_b157 kad N Z F a0 i1 i2 I = some r → aGo kad d 282 (157, ([(0, .ref a0), (1, .int i1), (2, .int i2)], [])) (aMem Z I, t) (qI Z t r) := by
  intro F
  induction F with
  | zero => intro a0 i1 i2 I r h; cases h
  | succ F ih =>
    intro a0 i1 i2 I r h
    unfold f282_b157 at h
    refine go_ops aMi282 2 _ (f1 := (159, ([(0, .ref a0), (1, .int i1), (2, .int i2)], [.ref a0, .int i2]))) rfl ?_
    obtain ⟨x159_1, hxx159_1, h⟩ := Option.bind_eq_some_iff.mp h
    refine gg_gI aMi282 rfl rfl rfl hxx159_1 ?_
    refine gg_br (b := decide (x159_1 ≤ i2)) (tg := 182) (off := 20) aMi282 rfl rfl rfl rfl (fun hb => ?_) (fun hb => ?_)
    · rw [if_pos (of_decide_eq_true hb)] at h
      refine go_ops aMi282 1 _ (f1 := (183, ([(0, .ref a0), (1, .int i1), (2, .int i2)], [.int i1]))) rfl ?_
      cases h
      exact go_ret aMi282 rfl aRetI ⟨rfl, rfl⟩
    · rw [if_neg (of_decide_eq_false hb)] at h
      refine go_ops aMi282 2 _ (f1 := (167, ([(0, .ref a0), (1, .int i1), (2, .int i2)], [.ref a0, .int i1]))) rfl ?_
      obtain ⟨b167_2, hxb167_2, h⟩ := Option.bind_eq_some_iff.mp h
      refine gg_gR aMi282 rfl rfl rfl hxb167_2 ?_
      refine go_ops aMi282 1 _ (f1 := (171, ([(0, .ref a0), (1, .int i1), (2, .int i2)], [.int i2, .ref b167_2, .int i1]))) rfl ?_
      obtain ⟨x171_3, hxx171_3, h⟩ := Option.bind_eq_some_iff.mp h
      refine gg_lI (Or.inl ⟨rfl, rfl⟩) aMi282 rfl hxx171_3 ?_
      obtain ⟨r172_4, hxr172_4, h⟩ := Option.bind_eq_some_iff.mp h
      refine gg_cs (as := [.int i1, .int x171_3]) (r := []) aMi282 rfl rfl rfl aMi281 rfl (Nat.le_of_ble_eq_true rfl) (Nat.le_of_ble_eq_true rfl) (by omega) (Tf281 (by omega) i1 x171_3 I _ hxr172_4) ?_
      show aGo kad d 282 (175, ([(0, .ref a0), (1, .int i1), (2, .int i2)], [.int r172_4.1])) (aMem Z r172_4.2, t) _
      refine go_ops aMi282 3 _ (f1 := (157, ([(2, .int (i2 + (1 : Int32))), (1, .int r172_4.1), (0, .ref a0)], []))) rfl ?_
      refine go_le (lv1 := [(0, .ref a0), (1, .int r172_4.1), (2, .int (i2 + (1 : Int32)))]) (aLe_of (show (List.map (fun q => q.1) ([(0, .ref a0), (1, .int r172_4.1), (2, .int (i2 + (1 : Int32)))] : ALv)).Nodup from (by show ([0, 1, 2] : List Nat).Nodup; decide)) (aSubL_cons rfl (aSubL_cons rfl (aSubL_cons rfl aSubL_nil)))) ?_
      exact ih a0 r172_4.1 (i2 + (1 : Int32)) r172_4.2 _ h
def f282_b122 (kad : Nat → Nat) (N : Nat) (Z : AZ) : Nat → Nat → Int32 → Int32 → AI → Option (Int32 × AI)
  | 0, _, _, _, _ => none
  | F + 1, a0, i1, i2, I =>
    if (256 : Int32) ≤ i2 then
      (gI Z I 11 37 a0).bind fun x148_1 =>
      (f281 kad N Z i1 x148_1 I).bind fun r151_2 =>
      f282_b157 kad N Z N a0 r151_2.1 (0 : Int32) r151_2.2
    else
      (gR Z I 11 50 a0).bind fun b131_3 =>
      (lI Z I 100 b131_3 i2).bind fun x135_4 =>
      (f281 kad N Z i1 x135_4 I).bind fun r136_5 =>
      f282_b122 kad N Z F a0 r136_5.1 (i2 + (1 : Int32)) r136_5.2
set_option maxRecDepth 20000 in
theorem Tf282_b122 {kad : Nat → Nat} {N : Nat} {Z : AZ} {d : Nat} {t : Option Nat × (Nat × Nat)} (hd : 1 ≤ d) : ∀ (F : Nat) (a0 : Nat) (i1 : Int32) (i2 : Int32) (I : AI) (r : Int32 × AI), f282_b122 kad N Z F a0 i1 i2 I = some r → aGo kad d 282 (122, ([(0, .ref a0), (1, .int i1), (2, .int i2)], [])) (aMem Z I, t) (qI Z t r) := by
  intro F
  induction F with
  | zero => intro a0 i1 i2 I r h; cases h
  | succ F ih =>
    intro a0 i1 i2 I r h
    unfold f282_b122 at h
    refine go_ops aMi282 2 _ (f1 := (126, ([(0, .ref a0), (1, .int i1), (2, .int i2)], [.int (256 : Int32), .int i2]))) rfl ?_
    refine gg_br (b := decide ((256 : Int32) ≤ i2)) (tg := 146) (off := 20) aMi282 rfl rfl rfl rfl (fun hb => ?_) (fun hb => ?_)
    · rw [if_pos (of_decide_eq_true hb)] at h
      refine go_ops aMi282 2 _ (f1 := (148, ([(0, .ref a0), (1, .int i1), (2, .int i2)], [.ref a0, .int i1]))) rfl ?_
      obtain ⟨x148_1, hxx148_1, h⟩ := Option.bind_eq_some_iff.mp h
      refine gg_gI aMi282 rfl rfl rfl hxx148_1 ?_
      obtain ⟨r151_2, hxr151_2, h⟩ := Option.bind_eq_some_iff.mp h
      refine gg_cs (as := [.int i1, .int x148_1]) (r := []) aMi282 rfl rfl rfl aMi281 rfl (Nat.le_of_ble_eq_true rfl) (Nat.le_of_ble_eq_true rfl) (by omega) (Tf281 (by omega) i1 x148_1 I _ hxr151_2) ?_
      show aGo kad d 282 (154, ([(0, .ref a0), (1, .int i1), (2, .int i2)], [.int r151_2.1])) (aMem Z r151_2.2, t) _
      refine go_ops aMi282 3 _ (f1 := (157, ([(2, .int (0 : Int32)), (1, .int r151_2.1), (0, .ref a0)], []))) rfl ?_
      refine go_le (lv1 := [(0, .ref a0), (1, .int r151_2.1), (2, .int (0 : Int32))]) (aLe_of (show (List.map (fun q => q.1) ([(0, .ref a0), (1, .int r151_2.1), (2, .int (0 : Int32))] : ALv)).Nodup from (by show ([0, 1, 2] : List Nat).Nodup; decide)) (aSubL_cons rfl (aSubL_cons rfl (aSubL_cons rfl aSubL_nil)))) ?_
      exact Tf282_b157 hd N a0 r151_2.1 (0 : Int32) r151_2.2 _ h
    · rw [if_neg (of_decide_eq_false hb)] at h
      refine go_ops aMi282 2 _ (f1 := (131, ([(0, .ref a0), (1, .int i1), (2, .int i2)], [.ref a0, .int i1]))) rfl ?_
      obtain ⟨b131_3, hxb131_3, h⟩ := Option.bind_eq_some_iff.mp h
      refine gg_gR aMi282 rfl rfl rfl hxb131_3 ?_
      refine go_ops aMi282 1 _ (f1 := (135, ([(0, .ref a0), (1, .int i1), (2, .int i2)], [.int i2, .ref b131_3, .int i1]))) rfl ?_
      obtain ⟨x135_4, hxx135_4, h⟩ := Option.bind_eq_some_iff.mp h
      refine gg_lI (Or.inl ⟨rfl, rfl⟩) aMi282 rfl hxx135_4 ?_
      obtain ⟨r136_5, hxr136_5, h⟩ := Option.bind_eq_some_iff.mp h
      refine gg_cs (as := [.int i1, .int x135_4]) (r := []) aMi282 rfl rfl rfl aMi281 rfl (Nat.le_of_ble_eq_true rfl) (Nat.le_of_ble_eq_true rfl) (by omega) (Tf281 (by omega) i1 x135_4 I _ hxr136_5) ?_
      show aGo kad d 282 (139, ([(0, .ref a0), (1, .int i1), (2, .int i2)], [.int r136_5.1])) (aMem Z r136_5.2, t) _
      refine go_ops aMi282 3 _ (f1 := (122, ([(2, .int (i2 + (1 : Int32))), (1, .int r136_5.1), (0, .ref a0)], []))) rfl ?_
      refine go_le (lv1 := [(0, .ref a0), (1, .int r136_5.1), (2, .int (i2 + (1 : Int32)))]) (aLe_of (show (List.map (fun q => q.1) ([(0, .ref a0), (1, .int r136_5.1), (2, .int (i2 + (1 : Int32)))] : ALv)).Nodup from (by show ([0, 1, 2] : List Nat).Nodup; decide)) (aSubL_cons rfl (aSubL_cons rfl (aSubL_cons rfl aSubL_nil)))) ?_
      exact ih a0 r136_5.1 (i2 + (1 : Int32)) r136_5.2 _ h
def f282_b96 (kad : Nat → Nat) (N : Nat) (Z : AZ) : Nat → Nat → Int32 → Int32 → AI → Option (Int32 × AI)
  | 0, _, _, _, _ => none
  | F + 1, a0, i1, i2, I =>
    if (256 : Int32) ≤ i2 then
      f282_b122 kad N Z N a0 i1 (0 : Int32) I
    else
      (gR Z I 11 25 a0).bind fun b105_1 =>
      (lI Z I 100 b105_1 i2).bind fun x109_2 =>
      (f281 kad N Z i1 x109_2 I).bind fun r110_3 =>
      f282_b96 kad N Z F a0 r110_3.1 (i2 + (1 : Int32)) r110_3.2
set_option maxRecDepth 20000 in
theorem Tf282_b96 {kad : Nat → Nat} {N : Nat} {Z : AZ} {d : Nat} {t : Option Nat × (Nat × Nat)} (hd : 1 ≤ d) : ∀ (F : Nat) (a0 : Nat) (i1 : Int32) (i2 : Int32) (I : AI) (r : Int32 × AI), f282_b96 kad N Z F a0 i1 i2 I = some r → aGo kad d 282 (96, ([(0, .ref a0), (1, .int i1), (2, .int i2)], [])) (aMem Z I, t) (qI Z t r) := by
  intro F
  induction F with
  | zero => intro a0 i1 i2 I r h; cases h
  | succ F ih =>
    intro a0 i1 i2 I r h
    unfold f282_b96 at h
    refine go_ops aMi282 2 _ (f1 := (100, ([(0, .ref a0), (1, .int i1), (2, .int i2)], [.int (256 : Int32), .int i2]))) rfl ?_
    refine gg_br (b := decide ((256 : Int32) ≤ i2)) (tg := 120) (off := 20) aMi282 rfl rfl rfl rfl (fun hb => ?_) (fun hb => ?_)
    · rw [if_pos (of_decide_eq_true hb)] at h
      refine go_ops aMi282 2 _ (f1 := (122, ([(2, .int (0 : Int32)), (0, .ref a0), (1, .int i1)], []))) rfl ?_
      refine go_le (lv1 := [(0, .ref a0), (1, .int i1), (2, .int (0 : Int32))]) (aLe_of (show (List.map (fun q => q.1) ([(0, .ref a0), (1, .int i1), (2, .int (0 : Int32))] : ALv)).Nodup from (by show ([0, 1, 2] : List Nat).Nodup; decide)) (aSubL_cons rfl (aSubL_cons rfl (aSubL_cons rfl aSubL_nil)))) ?_
      exact Tf282_b122 hd N a0 i1 (0 : Int32) I _ h
    · rw [if_neg (of_decide_eq_false hb)] at h
      refine go_ops aMi282 2 _ (f1 := (105, ([(0, .ref a0), (1, .int i1), (2, .int i2)], [.ref a0, .int i1]))) rfl ?_
      obtain ⟨b105_1, hxb105_1, h⟩ := Option.bind_eq_some_iff.mp h
      refine gg_gR aMi282 rfl rfl rfl hxb105_1 ?_
      refine go_ops aMi282 1 _ (f1 := (109, ([(0, .ref a0), (1, .int i1), (2, .int i2)], [.int i2, .ref b105_1, .int i1]))) rfl ?_
      obtain ⟨x109_2, hxx109_2, h⟩ := Option.bind_eq_some_iff.mp h
      refine gg_lI (Or.inl ⟨rfl, rfl⟩) aMi282 rfl hxx109_2 ?_
      obtain ⟨r110_3, hxr110_3, h⟩ := Option.bind_eq_some_iff.mp h
      refine gg_cs (as := [.int i1, .int x109_2]) (r := []) aMi282 rfl rfl rfl aMi281 rfl (Nat.le_of_ble_eq_true rfl) (Nat.le_of_ble_eq_true rfl) (by omega) (Tf281 (by omega) i1 x109_2 I _ hxr110_3) ?_
      show aGo kad d 282 (113, ([(0, .ref a0), (1, .int i1), (2, .int i2)], [.int r110_3.1])) (aMem Z r110_3.2, t) _
      refine go_ops aMi282 3 _ (f1 := (96, ([(2, .int (i2 + (1 : Int32))), (1, .int r110_3.1), (0, .ref a0)], []))) rfl ?_
      refine go_le (lv1 := [(0, .ref a0), (1, .int r110_3.1), (2, .int (i2 + (1 : Int32)))]) (aLe_of (show (List.map (fun q => q.1) ([(0, .ref a0), (1, .int r110_3.1), (2, .int (i2 + (1 : Int32)))] : ALv)).Nodup from (by show ([0, 1, 2] : List Nat).Nodup; decide)) (aSubL_cons rfl (aSubL_cons rfl (aSubL_cons rfl aSubL_nil)))) ?_
      exact ih a0 r110_3.1 (i2 + (1 : Int32)) r110_3.2 _ h
def f282_b63 (kad : Nat → Nat) (N : Nat) (Z : AZ) : Nat → Nat → Int32 → Int32 → AI → Option (Int32 × AI)
  | 0, _, _, _, _ => none
  | F + 1, a0, i1, i2, I =>
    if (4 : Int32) ≤ i2 then
      (gI Z I 11 46 a0).bind fun x87_1 =>
      (f281 kad N Z i1 x87_1 I).bind fun r90_2 =>
      f282_b96 kad N Z N a0 r90_2.1 (0 : Int32) r90_2.2
    else
      (gR Z I 11 26 a0).bind fun b70_3 =>
      (lI Z I 100 b70_3 i2).bind fun x74_4 =>
      (f281 kad N Z i1 x74_4 I).bind fun r75_5 =>
      f282_b63 kad N Z F a0 r75_5.1 (i2 + (1 : Int32)) r75_5.2
set_option maxRecDepth 20000 in
theorem Tf282_b63 {kad : Nat → Nat} {N : Nat} {Z : AZ} {d : Nat} {t : Option Nat × (Nat × Nat)} (hd : 1 ≤ d) : ∀ (F : Nat) (a0 : Nat) (i1 : Int32) (i2 : Int32) (I : AI) (r : Int32 × AI), f282_b63 kad N Z F a0 i1 i2 I = some r → aGo kad d 282 (63, ([(0, .ref a0), (1, .int i1), (2, .int i2)], [])) (aMem Z I, t) (qI Z t r) := by
  intro F
  induction F with
  | zero => intro a0 i1 i2 I r h; cases h
  | succ F ih =>
    intro a0 i1 i2 I r h
    unfold f282_b63 at h
    refine go_ops aMi282 2 _ (f1 := (65, ([(0, .ref a0), (1, .int i1), (2, .int i2)], [.int (4 : Int32), .int i2]))) rfl ?_
    refine gg_br (b := decide ((4 : Int32) ≤ i2)) (tg := 85) (off := 20) aMi282 rfl rfl rfl rfl (fun hb => ?_) (fun hb => ?_)
    · rw [if_pos (of_decide_eq_true hb)] at h
      refine go_ops aMi282 2 _ (f1 := (87, ([(0, .ref a0), (1, .int i1), (2, .int i2)], [.ref a0, .int i1]))) rfl ?_
      obtain ⟨x87_1, hxx87_1, h⟩ := Option.bind_eq_some_iff.mp h
      refine gg_gI aMi282 rfl rfl rfl hxx87_1 ?_
      obtain ⟨r90_2, hxr90_2, h⟩ := Option.bind_eq_some_iff.mp h
      refine gg_cs (as := [.int i1, .int x87_1]) (r := []) aMi282 rfl rfl rfl aMi281 rfl (Nat.le_of_ble_eq_true rfl) (Nat.le_of_ble_eq_true rfl) (by omega) (Tf281 (by omega) i1 x87_1 I _ hxr90_2) ?_
      show aGo kad d 282 (93, ([(0, .ref a0), (1, .int i1), (2, .int i2)], [.int r90_2.1])) (aMem Z r90_2.2, t) _
      refine go_ops aMi282 3 _ (f1 := (96, ([(2, .int (0 : Int32)), (1, .int r90_2.1), (0, .ref a0)], []))) rfl ?_
      refine go_le (lv1 := [(0, .ref a0), (1, .int r90_2.1), (2, .int (0 : Int32))]) (aLe_of (show (List.map (fun q => q.1) ([(0, .ref a0), (1, .int r90_2.1), (2, .int (0 : Int32))] : ALv)).Nodup from (by show ([0, 1, 2] : List Nat).Nodup; decide)) (aSubL_cons rfl (aSubL_cons rfl (aSubL_cons rfl aSubL_nil)))) ?_
      exact Tf282_b96 hd N a0 r90_2.1 (0 : Int32) r90_2.2 _ h
    · rw [if_neg (of_decide_eq_false hb)] at h
      refine go_ops aMi282 2 _ (f1 := (70, ([(0, .ref a0), (1, .int i1), (2, .int i2)], [.ref a0, .int i1]))) rfl ?_
      obtain ⟨b70_3, hxb70_3, h⟩ := Option.bind_eq_some_iff.mp h
      refine gg_gR aMi282 rfl rfl rfl hxb70_3 ?_
      refine go_ops aMi282 1 _ (f1 := (74, ([(0, .ref a0), (1, .int i1), (2, .int i2)], [.int i2, .ref b70_3, .int i1]))) rfl ?_
      obtain ⟨x74_4, hxx74_4, h⟩ := Option.bind_eq_some_iff.mp h
      refine gg_lI (Or.inl ⟨rfl, rfl⟩) aMi282 rfl hxx74_4 ?_
      obtain ⟨r75_5, hxr75_5, h⟩ := Option.bind_eq_some_iff.mp h
      refine gg_cs (as := [.int i1, .int x74_4]) (r := []) aMi282 rfl rfl rfl aMi281 rfl (Nat.le_of_ble_eq_true rfl) (Nat.le_of_ble_eq_true rfl) (by omega) (Tf281 (by omega) i1 x74_4 I _ hxr75_5) ?_
      show aGo kad d 282 (78, ([(0, .ref a0), (1, .int i1), (2, .int i2)], [.int r75_5.1])) (aMem Z r75_5.2, t) _
      refine go_ops aMi282 3 _ (f1 := (63, ([(2, .int (i2 + (1 : Int32))), (1, .int r75_5.1), (0, .ref a0)], []))) rfl ?_
      refine go_le (lv1 := [(0, .ref a0), (1, .int r75_5.1), (2, .int (i2 + (1 : Int32)))]) (aLe_of (show (List.map (fun q => q.1) ([(0, .ref a0), (1, .int r75_5.1), (2, .int (i2 + (1 : Int32)))] : ALv)).Nodup from (by show ([0, 1, 2] : List Nat).Nodup; decide)) (aSubL_cons rfl (aSubL_cons rfl (aSubL_cons rfl aSubL_nil)))) ?_
      exact ih a0 r75_5.1 (i2 + (1 : Int32)) r75_5.2 _ h
def f282 (kad : Nat → Nat) (N : Nat) (Z : AZ) (a0 : Nat) (I : AI) : Option (Int32 × AI) :=
  (gI Z I 11 23 a0).bind fun x3_1 =>
  (f281 kad N Z (7 : Int32) x3_1 I).bind fun r6_2 =>
  (gI Z r6_2.2 11 24 a0).bind fun x10_3 =>
  (f281 kad N Z r6_2.1 x10_3 r6_2.2).bind fun r13_4 =>
  (gI Z r13_4.2 11 38 a0).bind fun x17_5 =>
  (f281 kad N Z r13_4.1 x17_5 r13_4.2).bind fun r20_6 =>
  (gI Z r20_6.2 11 27 a0).bind fun x24_7 =>
  (f281 kad N Z r20_6.1 x24_7 r20_6.2).bind fun r27_8 =>
  (gI Z r27_8.2 11 28 a0).bind fun x33_9 =>
  (f281 kad N Z r27_8.1 x33_9 r27_8.2).bind fun r36_10 =>
  (isK Z a0 11).bind fun u40_11 =>
  (f272 kad N Z a0 r36_10.2).bind fun r40_12 =>
  (f281 kad N Z r36_10.1 r40_12.1 r40_12.2).bind fun r43_13 =>
  (gI Z r43_13.2 11 34 a0).bind fun x47_14 =>
  (f281 kad N Z r43_13.1 x47_14 r43_13.2).bind fun r50_15 =>
  (gI Z r50_15.2 11 35 a0).bind fun x54_16 =>
  (f281 kad N Z r50_15.1 x54_16 r50_15.2).bind fun r57_17 =>
  f282_b63 kad N Z N a0 r57_17.1 (0 : Int32) r57_17.2
set_option maxRecDepth 20000 in
theorem Tf282 {kad : Nat → Nat} {N : Nat} {Z : AZ} {d : Nat} {t : Option Nat × (Nat × Nat)} (hd : 1 ≤ d) : ∀ (a0 : Nat) (I : AI) (r : Int32 × AI), f282 kad N Z a0 I = some r → aGo kad d 282 (0, ([(0, .ref a0)], [])) (aMem Z I, t) (qI Z t r) := by
  intro a0 I r h
  unfold f282 at h
  refine go_ops aMi282 2 _ (f1 := (3, ([(0, .ref a0)], [.ref a0, .int (7 : Int32)]))) rfl ?_
  obtain ⟨x3_1, hxx3_1, h⟩ := Option.bind_eq_some_iff.mp h
  refine gg_gI aMi282 rfl rfl rfl hxx3_1 ?_
  obtain ⟨r6_2, hxr6_2, h⟩ := Option.bind_eq_some_iff.mp h
  refine gg_cs (as := [.int (7 : Int32), .int x3_1]) (r := []) aMi282 rfl rfl rfl aMi281 rfl (Nat.le_of_ble_eq_true rfl) (Nat.le_of_ble_eq_true rfl) (by omega) (Tf281 (by omega) (7 : Int32) x3_1 I _ hxr6_2) ?_
  show aGo kad d 282 (9, ([(0, .ref a0)], [.int r6_2.1])) (aMem Z r6_2.2, t) _
  refine go_ops aMi282 1 _ (f1 := (10, ([(0, .ref a0)], [.ref a0, .int r6_2.1]))) rfl ?_
  obtain ⟨x10_3, hxx10_3, h⟩ := Option.bind_eq_some_iff.mp h
  refine gg_gI aMi282 rfl rfl rfl hxx10_3 ?_
  obtain ⟨r13_4, hxr13_4, h⟩ := Option.bind_eq_some_iff.mp h
  refine gg_cs (as := [.int r6_2.1, .int x10_3]) (r := []) aMi282 rfl rfl rfl aMi281 rfl (Nat.le_of_ble_eq_true rfl) (Nat.le_of_ble_eq_true rfl) (by omega) (Tf281 (by omega) r6_2.1 x10_3 r6_2.2 _ hxr13_4) ?_
  show aGo kad d 282 (16, ([(0, .ref a0)], [.int r13_4.1])) (aMem Z r13_4.2, t) _
  refine go_ops aMi282 1 _ (f1 := (17, ([(0, .ref a0)], [.ref a0, .int r13_4.1]))) rfl ?_
  obtain ⟨x17_5, hxx17_5, h⟩ := Option.bind_eq_some_iff.mp h
  refine gg_gI aMi282 rfl rfl rfl hxx17_5 ?_
  obtain ⟨r20_6, hxr20_6, h⟩ := Option.bind_eq_some_iff.mp h
  refine gg_cs (as := [.int r13_4.1, .int x17_5]) (r := []) aMi282 rfl rfl rfl aMi281 rfl (Nat.le_of_ble_eq_true rfl) (Nat.le_of_ble_eq_true rfl) (by omega) (Tf281 (by omega) r13_4.1 x17_5 r13_4.2 _ hxr20_6) ?_
  show aGo kad d 282 (23, ([(0, .ref a0)], [.int r20_6.1])) (aMem Z r20_6.2, t) _
  refine go_ops aMi282 1 _ (f1 := (24, ([(0, .ref a0)], [.ref a0, .int r20_6.1]))) rfl ?_
  obtain ⟨x24_7, hxx24_7, h⟩ := Option.bind_eq_some_iff.mp h
  refine gg_gI aMi282 rfl rfl rfl hxx24_7 ?_
  obtain ⟨r27_8, hxr27_8, h⟩ := Option.bind_eq_some_iff.mp h
  refine gg_cs (as := [.int r20_6.1, .int x24_7]) (r := []) aMi282 rfl rfl rfl aMi281 rfl (Nat.le_of_ble_eq_true rfl) (Nat.le_of_ble_eq_true rfl) (by omega) (Tf281 (by omega) r20_6.1 x24_7 r20_6.2 _ hxr27_8) ?_
  show aGo kad d 282 (30, ([(0, .ref a0)], [.int r27_8.1])) (aMem Z r27_8.2, t) _
  refine go_ops aMi282 3 _ (f1 := (33, ([(1, .int r27_8.1), (0, .ref a0)], [.ref a0, .int r27_8.1]))) rfl ?_
  obtain ⟨x33_9, hxx33_9, h⟩ := Option.bind_eq_some_iff.mp h
  refine gg_gI aMi282 rfl rfl rfl hxx33_9 ?_
  obtain ⟨r36_10, hxr36_10, h⟩ := Option.bind_eq_some_iff.mp h
  refine gg_cs (as := [.int r27_8.1, .int x33_9]) (r := []) aMi282 rfl rfl rfl aMi281 rfl (Nat.le_of_ble_eq_true rfl) (Nat.le_of_ble_eq_true rfl) (by omega) (Tf281 (by omega) r27_8.1 x33_9 r27_8.2 _ hxr36_10) ?_
  show aGo kad d 282 (39, ([(1, .int r27_8.1), (0, .ref a0)], [.int r36_10.1])) (aMem Z r36_10.2, t) _
  refine go_ops aMi282 1 _ (f1 := (40, ([(1, .int r27_8.1), (0, .ref a0)], [.ref a0, .int r36_10.1]))) rfl ?_
  obtain ⟨u40_11, hxu40_11, h⟩ := Option.bind_eq_some_iff.mp h
  obtain ⟨r40_12, hxr40_12, h⟩ := Option.bind_eq_some_iff.mp h
  refine gg_cv (as := []) (r := [.int r36_10.1]) aMi282 rfl rfl rfl aMi272 (Nat.le_of_ble_eq_true rfl) rfl (Nat.le_of_ble_eq_true rfl) (Nat.le_of_ble_eq_true rfl) (by omega) hxu40_11 (Tf272 (by omega) a0 r36_10.2 _ hxr40_12) ?_
  show aGo kad d 282 (43, ([(1, .int r27_8.1), (0, .ref a0)], [.int r40_12.1, .int r36_10.1])) (aMem Z r40_12.2, t) _
  obtain ⟨r43_13, hxr43_13, h⟩ := Option.bind_eq_some_iff.mp h
  refine gg_cs (as := [.int r36_10.1, .int r40_12.1]) (r := []) aMi282 rfl rfl rfl aMi281 rfl (Nat.le_of_ble_eq_true rfl) (Nat.le_of_ble_eq_true rfl) (by omega) (Tf281 (by omega) r36_10.1 r40_12.1 r40_12.2 _ hxr43_13) ?_
  show aGo kad d 282 (46, ([(1, .int r27_8.1), (0, .ref a0)], [.int r43_13.1])) (aMem Z r43_13.2, t) _
  refine go_ops aMi282 1 _ (f1 := (47, ([(1, .int r27_8.1), (0, .ref a0)], [.ref a0, .int r43_13.1]))) rfl ?_
  obtain ⟨x47_14, hxx47_14, h⟩ := Option.bind_eq_some_iff.mp h
  refine gg_gI aMi282 rfl rfl rfl hxx47_14 ?_
  obtain ⟨r50_15, hxr50_15, h⟩ := Option.bind_eq_some_iff.mp h
  refine gg_cs (as := [.int r43_13.1, .int x47_14]) (r := []) aMi282 rfl rfl rfl aMi281 rfl (Nat.le_of_ble_eq_true rfl) (Nat.le_of_ble_eq_true rfl) (by omega) (Tf281 (by omega) r43_13.1 x47_14 r43_13.2 _ hxr50_15) ?_
  show aGo kad d 282 (53, ([(1, .int r27_8.1), (0, .ref a0)], [.int r50_15.1])) (aMem Z r50_15.2, t) _
  refine go_ops aMi282 1 _ (f1 := (54, ([(1, .int r27_8.1), (0, .ref a0)], [.ref a0, .int r50_15.1]))) rfl ?_
  obtain ⟨x54_16, hxx54_16, h⟩ := Option.bind_eq_some_iff.mp h
  refine gg_gI aMi282 rfl rfl rfl hxx54_16 ?_
  obtain ⟨r57_17, hxr57_17, h⟩ := Option.bind_eq_some_iff.mp h
  refine gg_cs (as := [.int r50_15.1, .int x54_16]) (r := []) aMi282 rfl rfl rfl aMi281 rfl (Nat.le_of_ble_eq_true rfl) (Nat.le_of_ble_eq_true rfl) (by omega) (Tf281 (by omega) r50_15.1 x54_16 r50_15.2 _ hxr57_17) ?_
  show aGo kad d 282 (60, ([(1, .int r27_8.1), (0, .ref a0)], [.int r57_17.1])) (aMem Z r57_17.2, t) _
  refine go_ops aMi282 3 _ (f1 := (63, ([(2, .int (0 : Int32)), (1, .int r57_17.1), (0, .ref a0)], []))) rfl ?_
  refine go_le (lv1 := [(0, .ref a0), (1, .int r57_17.1), (2, .int (0 : Int32))]) (aLe_of (show (List.map (fun q => q.1) ([(0, .ref a0), (1, .int r57_17.1), (2, .int (0 : Int32))] : ALv)).Nodup from (by show ([0, 1, 2] : List Nat).Nodup; decide)) (aSubL_cons rfl (aSubL_cons rfl (aSubL_cons rfl aSubL_nil)))) ?_
  exact Tf282_b63 hd N a0 r57_17.1 (0 : Int32) r57_17.2 _ h
-- KernelGymModel.sum ()I
def f283 (kad : Nat → Nat) (N : Nat) (Z : AZ) (a0 : Nat) (I : AI) : Option (Int32 × AI) :=
  (pI Z I 11 0 a0 (0 : Int32)).bind fun I2_1 =>
  (isK Z a0 11).bind fun u6_2 =>
  (f282 kad N Z a0 I2_1).bind fun r6_3 =>
  some (r6_3.1, r6_3.2)
set_option maxRecDepth 20000 in
theorem Tf283 {kad : Nat → Nat} {N : Nat} {Z : AZ} {d : Nat} {t : Option Nat × (Nat × Nat)} (hd : 2 ≤ d) : ∀ (a0 : Nat) (I : AI) (r : Int32 × AI), f283 kad N Z a0 I = some r → aGo kad d 283 (0, ([(0, .ref a0)], [])) (aMem Z I, t) (qI Z t r) := by
  intro a0 I r h
  unfold f283 at h
  refine go_ops aMi283 2 _ (f1 := (2, ([(0, .ref a0)], [.int (0 : Int32), .ref a0]))) rfl ?_
  obtain ⟨I2_1, hxI2_1, h⟩ := Option.bind_eq_some_iff.mp h
  refine gg_pI aMi283 rfl rfl rfl rfl (by decide) hxI2_1 ?_
  refine go_ops aMi283 1 _ (f1 := (6, ([(0, .ref a0)], [.ref a0]))) rfl ?_
  obtain ⟨u6_2, hxu6_2, h⟩ := Option.bind_eq_some_iff.mp h
  obtain ⟨r6_3, hxr6_3, h⟩ := Option.bind_eq_some_iff.mp h
  refine gg_cv (as := []) (r := []) aMi283 rfl rfl rfl aMi282 (Nat.le_of_ble_eq_true rfl) rfl (Nat.le_of_ble_eq_true rfl) (Nat.le_of_ble_eq_true rfl) (by omega) hxu6_2 (Tf282 (by omega) a0 I2_1 _ hxr6_3) ?_
  show aGo kad d 283 (9, ([(0, .ref a0)], [.int r6_3.1])) (aMem Z r6_3.2, t) _
  cases h
  exact go_ret aMi283 rfl aRetI ⟨rfl, rfl⟩
-- KernelGymModel.sumAnew (I)I
def f284_b29 (kad : Nat → Nat) (N : Nat) (Z : AZ) (a0 : Nat) (i1 : Int32) (s0 : Int32) (s1 : Nat) (I : AI) : Option (Int32 × AI) :=
  (isK Z s1 11).bind fun u29_1 =>
  (f185 kad N Z s1 s0 I).bind fun r29_2 =>
  if ¬ r29_2.1 = 0 then
    (gI Z r29_2.2 11 38 a0).bind fun x38_3 =>
    (isK Z a0 11).bind fun u44_4 =>
    (f256 kad N Z a0 i1 r29_2.2).bind fun r44_5 =>
    (isK Z a0 11).bind fun u48_6 =>
    (f282 kad N Z a0 r44_5.2).bind fun r48_7 =>
    (isK Z a0 11).bind fun u54_8 =>
    (f256 kad N Z a0 x38_3 r48_7.2).bind fun r54_9 =>
    some (r48_7.1, r54_9.2)
  else
    some ((0 : Int32), r29_2.2)
set_option maxRecDepth 20000 in
theorem Tf284_b29 {kad : Nat → Nat} {N : Nat} {Z : AZ} {d : Nat} {t : Option Nat × (Nat × Nat)} (hd : 8 ≤ d) : ∀ (a0 : Nat) (i1 : Int32) (s0 : Int32) (s1 : Nat) (I : AI) (r : Int32 × AI), f284_b29 kad N Z a0 i1 s0 s1 I = some r → aGo kad d 284 (29, ([(0, .ref a0), (1, .int i1)], [.int s0, .ref s1])) (aMem Z I, t) (qI Z t r) := by
  intro a0 i1 s0 s1 I r h
  unfold f284_b29 at h
  obtain ⟨u29_1, hxu29_1, h⟩ := Option.bind_eq_some_iff.mp h
  obtain ⟨r29_2, hxr29_2, h⟩ := Option.bind_eq_some_iff.mp h
  refine gg_cv (as := [.int s0]) (r := []) aMi284 rfl rfl rfl aMi185 (Nat.le_of_ble_eq_true rfl) rfl (Nat.le_of_ble_eq_true rfl) (Nat.le_of_ble_eq_true rfl) (by omega) hxu29_1 (Tf185 (by omega) s1 s0 I _ hxr29_2) ?_
  show aGo kad d 284 (32, ([(0, .ref a0), (1, .int i1)], [.int r29_2.1])) (aMem Z r29_2.2, t) _
  refine gg_br (b := decide (¬ r29_2.1 = 0)) (tg := 37) (off := 5) aMi284 rfl rfl rfl rfl (fun hb => ?_) (fun hb => ?_)
  · rw [if_pos (of_decide_eq_true hb)] at h
    refine go_ops aMi284 1 _ (f1 := (38, ([(0, .ref a0), (1, .int i1)], [.ref a0]))) rfl ?_
    obtain ⟨x38_3, hxx38_3, h⟩ := Option.bind_eq_some_iff.mp h
    refine gg_gI aMi284 rfl rfl rfl hxx38_3 ?_
    refine go_ops aMi284 3 _ (f1 := (44, ([(2, .int x38_3), (0, .ref a0), (1, .int i1)], [.int i1, .ref a0]))) rfl ?_
    obtain ⟨u44_4, hxu44_4, h⟩ := Option.bind_eq_some_iff.mp h
    obtain ⟨r44_5, hxr44_5, h⟩ := Option.bind_eq_some_iff.mp h
    refine gg_cv (as := [.int i1]) (r := []) aMi284 rfl rfl rfl aMi256 (Nat.le_of_ble_eq_true rfl) rfl (Nat.le_of_ble_eq_true rfl) (Nat.le_of_ble_eq_true rfl) (by omega) hxu44_4 (Tf256 (by omega) a0 i1 r29_2.2 _ hxr44_5) ?_
    show aGo kad d 284 (47, ([(2, .int x38_3), (0, .ref a0), (1, .int i1)], [])) (aMem Z r44_5.2, t) _
    refine go_ops aMi284 1 _ (f1 := (48, ([(2, .int x38_3), (0, .ref a0), (1, .int i1)], [.ref a0]))) rfl ?_
    obtain ⟨u48_6, hxu48_6, h⟩ := Option.bind_eq_some_iff.mp h
    obtain ⟨r48_7, hxr48_7, h⟩ := Option.bind_eq_some_iff.mp h
    refine gg_cv (as := []) (r := []) aMi284 rfl rfl rfl aMi282 (Nat.le_of_ble_eq_true rfl) rfl (Nat.le_of_ble_eq_true rfl) (Nat.le_of_ble_eq_true rfl) (by omega) hxu48_6 (Tf282 (by omega) a0 r44_5.2 _ hxr48_7) ?_
    show aGo kad d 284 (51, ([(2, .int x38_3), (0, .ref a0), (1, .int i1)], [.int r48_7.1])) (aMem Z r48_7.2, t) _
    refine go_ops aMi284 3 _ (f1 := (54, ([(3, .int r48_7.1), (2, .int x38_3), (0, .ref a0), (1, .int i1)], [.int x38_3, .ref a0]))) rfl ?_
    obtain ⟨u54_8, hxu54_8, h⟩ := Option.bind_eq_some_iff.mp h
    obtain ⟨r54_9, hxr54_9, h⟩ := Option.bind_eq_some_iff.mp h
    refine gg_cv (as := [.int x38_3]) (r := []) aMi284 rfl rfl rfl aMi256 (Nat.le_of_ble_eq_true rfl) rfl (Nat.le_of_ble_eq_true rfl) (Nat.le_of_ble_eq_true rfl) (by omega) hxu54_8 (Tf256 (by omega) a0 x38_3 r48_7.2 _ hxr54_9) ?_
    show aGo kad d 284 (57, ([(3, .int r48_7.1), (2, .int x38_3), (0, .ref a0), (1, .int i1)], [])) (aMem Z r54_9.2, t) _
    refine go_ops aMi284 1 _ (f1 := (58, ([(3, .int r48_7.1), (2, .int x38_3), (0, .ref a0), (1, .int i1)], [.int r48_7.1]))) rfl ?_
    cases h
    exact go_ret aMi284 rfl aRetI ⟨rfl, rfl⟩
  · rw [if_neg (of_decide_eq_false hb)] at h
    refine go_ops aMi284 1 _ (f1 := (36, ([(0, .ref a0), (1, .int i1)], [.int (0 : Int32)]))) rfl ?_
    cases h
    exact go_ret aMi284 rfl aRetI ⟨rfl, rfl⟩
def f284 (kad : Nat → Nat) (N : Nat) (Z : AZ) (a0 : Nat) (i1 : Int32) (I : AI) : Option (Int32 × AI) :=
  (isK Z a0 11).bind fun u2_1 =>
  (f216 kad N Z a0 I).bind fun r2_2 =>
  if ¬ r2_2.1 = 0 then
    (gI Z r2_2.2 11 38 a0).bind fun x15_3 =>
    (f186 kad N Z i1 (0 : Int32) x15_3 r2_2.2).bind fun r18_4 =>
    if r18_4.1 = 0 then
      f284_b29 kad N Z a0 i1 (2 : Int32) a0 r18_4.2
    else
      f284_b29 kad N Z a0 i1 (0 : Int32) a0 r18_4.2
  else
    f284_b29 kad N Z a0 i1 (1 : Int32) a0 r2_2.2
set_option maxRecDepth 20000 in
theorem Tf284 {kad : Nat → Nat} {N : Nat} {Z : AZ} {d : Nat} {t : Option Nat × (Nat × Nat)} (hd : 8 ≤ d) : ∀ (a0 : Nat) (i1 : Int32) (I : AI) (r : Int32 × AI), f284 kad N Z a0 i1 I = some r → aGo kad d 284 (0, ([(0, .ref a0), (1, .int i1)], [])) (aMem Z I, t) (qI Z t r) := by
  intro a0 i1 I r h
  unfold f284 at h
  refine go_ops aMi284 2 _ (f1 := (2, ([(0, .ref a0), (1, .int i1)], [.ref a0, .ref a0]))) rfl ?_
  obtain ⟨u2_1, hxu2_1, h⟩ := Option.bind_eq_some_iff.mp h
  obtain ⟨r2_2, hxr2_2, h⟩ := Option.bind_eq_some_iff.mp h
  refine gg_cv (as := []) (r := [.ref a0]) aMi284 rfl rfl rfl aMi216 (Nat.le_of_ble_eq_true rfl) rfl (Nat.le_of_ble_eq_true rfl) (Nat.le_of_ble_eq_true rfl) (by omega) hxu2_1 (Tf216 (by omega) a0 I _ hxr2_2) ?_
  show aGo kad d 284 (5, ([(0, .ref a0), (1, .int i1)], [.int r2_2.1, .ref a0])) (aMem Z r2_2.2, t) _
  refine gg_br (b := decide (¬ r2_2.1 = 0)) (tg := 12) (off := 7) aMi284 rfl rfl rfl rfl (fun hb => ?_) (fun hb => ?_)
  · rw [if_pos (of_decide_eq_true hb)] at h
    refine go_ops aMi284 3 _ (f1 := (15, ([(0, .ref a0), (1, .int i1)], [.ref a0, .int (0 : Int32), .int i1, .ref a0]))) rfl ?_
    obtain ⟨x15_3, hxx15_3, h⟩ := Option.bind_eq_some_iff.mp h
    refine gg_gI aMi284 rfl rfl rfl hxx15_3 ?_
    obtain ⟨r18_4, hxr18_4, h⟩ := Option.bind_eq_some_iff.mp h
    refine gg_cs (as := [.int i1, .int (0 : Int32), .int x15_3]) (r := [.ref a0]) aMi284 rfl rfl rfl aMi186 rfl (Nat.le_of_ble_eq_true rfl) (Nat.le_of_ble_eq_true rfl) (by omega) (Tf186 (by omega) i1 (0 : Int32) x15_3 r2_2.2 _ hxr18_4) ?_
    show aGo kad d 284 (21, ([(0, .ref a0), (1, .int i1)], [.int r18_4.1, .ref a0])) (aMem Z r18_4.2, t) _
    refine gg_br (b := decide (r18_4.1 = 0)) (tg := 28) (off := 7) aMi284 rfl rfl rfl rfl (fun hb => ?_) (fun hb => ?_)
    · rw [if_pos (of_decide_eq_true hb)] at h
      refine go_ops aMi284 1 _ (f1 := (29, ([(0, .ref a0), (1, .int i1)], [.int (2 : Int32), .ref a0]))) rfl ?_
      exact Tf284_b29 hd a0 i1 (2 : Int32) a0 r18_4.2 _ h
    · rw [if_neg (of_decide_eq_false hb)] at h
      refine go_ops aMi284 2 _ (f1 := (29, ([(0, .ref a0), (1, .int i1)], [.int (0 : Int32), .ref a0]))) rfl ?_
      exact Tf284_b29 hd a0 i1 (0 : Int32) a0 r18_4.2 _ h
  · rw [if_neg (of_decide_eq_false hb)] at h
    refine go_ops aMi284 2 _ (f1 := (29, ([(0, .ref a0), (1, .int i1)], [.int (1 : Int32), .ref a0]))) rfl ?_
    exact Tf284_b29 hd a0 i1 (1 : Int32) a0 r2_2.2 _ h
-- KernelGymModel.written ()I
def f286 (kad : Nat → Nat) (N : Nat) (Z : AZ) (a0 : Nat) (I : AI) : Option (Int32 × AI) :=
  (pI Z I 11 0 a0 (0 : Int32)).bind fun I2_1 =>
  (gI Z I2_1 11 52 a0).bind fun x6_2 =>
  some (x6_2, I2_1)
set_option maxRecDepth 20000 in
theorem Tf286 {kad : Nat → Nat} {N : Nat} {Z : AZ} {d : Nat} {t : Option Nat × (Nat × Nat)} (hd : 0 ≤ d) : ∀ (a0 : Nat) (I : AI) (r : Int32 × AI), f286 kad N Z a0 I = some r → aGo kad d 286 (0, ([(0, .ref a0)], [])) (aMem Z I, t) (qI Z t r) := by
  intro a0 I r h
  unfold f286 at h
  refine go_ops aMi286 2 _ (f1 := (2, ([(0, .ref a0)], [.int (0 : Int32), .ref a0]))) rfl ?_
  obtain ⟨I2_1, hxI2_1, h⟩ := Option.bind_eq_some_iff.mp h
  refine gg_pI aMi286 rfl rfl rfl rfl (by decide) hxI2_1 ?_
  refine go_ops aMi286 1 _ (f1 := (6, ([(0, .ref a0)], [.ref a0]))) rfl ?_
  obtain ⟨x6_2, hxx6_2, h⟩ := Option.bind_eq_some_iff.mp h
  refine gg_gI aMi286 rfl rfl rfl hxx6_2 ?_
  cases h
  exact go_ret aMi286 rfl aRetI ⟨rfl, rfl⟩
-- KernelGymModel.disk (II)I
def f287_b47 (kad : Nat → Nat) (N : Nat) (Z : AZ) (s0 : Int32) (I : AI) : Option (Int32 × AI) :=
  some (s0, I)
set_option maxRecDepth 20000 in
theorem Tf287_b47 {kad : Nat → Nat} {N : Nat} {Z : AZ} {d : Nat} {t : Option Nat × (Nat × Nat)} (hd : 1 ≤ d) : ∀ (s0 : Int32) (I : AI) (r : Int32 × AI), f287_b47 kad N Z s0 I = some r → aGo kad d 287 (47, ([], [.int s0])) (aMem Z I, t) (qI Z t r) := by
  intro s0 I r h
  unfold f287_b47 at h
  cases h
  exact go_ret aMi287 rfl aRetI ⟨rfl, rfl⟩
def f287_b26 (kad : Nat → Nat) (N : Nat) (Z : AZ) (a0 : Nat) (i1 : Int32) (i2 : Int32) (s0 : Int32) (s1 : Nat) (I : AI) : Option (Int32 × AI) :=
  (isK Z s1 11).bind fun u26_1 =>
  (f185 kad N Z s1 s0 I).bind fun r26_2 =>
  if r26_2.1 = 0 then
    f287_b47 kad N Z (0 : Int32) r26_2.2
  else
    (gR Z r26_2.2 11 50 a0).bind fun b33_3 =>
    (lI Z r26_2.2 100 b33_3 (((8 : Int32) * i1) + i2)).bind fun x42_4 =>
    f287_b47 kad N Z x42_4 r26_2.2
set_option maxRecDepth 20000 in
theorem Tf287_b26 {kad : Nat → Nat} {N : Nat} {Z : AZ} {d : Nat} {t : Option Nat × (Nat × Nat)} (hd : 1 ≤ d) : ∀ (a0 : Nat) (i1 : Int32) (i2 : Int32) (s0 : Int32) (s1 : Nat) (I : AI) (r : Int32 × AI), f287_b26 kad N Z a0 i1 i2 s0 s1 I = some r → aGo kad d 287 (26, ([(0, .ref a0), (1, .int i1), (2, .int i2)], [.int s0, .ref s1])) (aMem Z I, t) (qI Z t r) := by
  intro a0 i1 i2 s0 s1 I r h
  unfold f287_b26 at h
  obtain ⟨u26_1, hxu26_1, h⟩ := Option.bind_eq_some_iff.mp h
  obtain ⟨r26_2, hxr26_2, h⟩ := Option.bind_eq_some_iff.mp h
  refine gg_cv (as := [.int s0]) (r := []) aMi287 rfl rfl rfl aMi185 (Nat.le_of_ble_eq_true rfl) rfl (Nat.le_of_ble_eq_true rfl) (Nat.le_of_ble_eq_true rfl) (by omega) hxu26_1 (Tf185 (by omega) s1 s0 I _ hxr26_2) ?_
  show aGo kad d 287 (29, ([(0, .ref a0), (1, .int i1), (2, .int i2)], [.int r26_2.1])) (aMem Z r26_2.2, t) _
  refine gg_br (b := decide (r26_2.1 = 0)) (tg := 46) (off := 17) aMi287 rfl rfl rfl rfl (fun hb => ?_) (fun hb => ?_)
  · rw [if_pos (of_decide_eq_true hb)] at h
    refine go_ops aMi287 1 _ (f1 := (47, ([(0, .ref a0), (1, .int i1), (2, .int i2)], [.int (0 : Int32)]))) rfl ?_
    refine go_le (lv1 := []) (aLe_of (show (List.map (fun q => q.1) ([] : ALv)).Nodup from (by show ([] : List Nat).Nodup; decide)) aSubL_nil) ?_
    exact Tf287_b47 hd (0 : Int32) r26_2.2 _ h
  · rw [if_neg (of_decide_eq_false hb)] at h
    refine go_ops aMi287 1 _ (f1 := (33, ([(0, .ref a0), (1, .int i1), (2, .int i2)], [.ref a0]))) rfl ?_
    obtain ⟨b33_3, hxb33_3, h⟩ := Option.bind_eq_some_iff.mp h
    refine gg_gR aMi287 rfl rfl rfl hxb33_3 ?_
    refine go_ops aMi287 5 _ (f1 := (42, ([(0, .ref a0), (1, .int i1), (2, .int i2)], [.int (((8 : Int32) * i1) + i2), .ref b33_3]))) rfl ?_
    obtain ⟨x42_4, hxx42_4, h⟩ := Option.bind_eq_some_iff.mp h
    refine gg_lI (Or.inl ⟨rfl, rfl⟩) aMi287 rfl hxx42_4 ?_
    refine go_ops aMi287 1 _ (f1 := (47, ([(0, .ref a0), (1, .int i1), (2, .int i2)], [.int x42_4]))) rfl ?_
    refine go_le (lv1 := []) (aLe_of (show (List.map (fun q => q.1) ([] : ALv)).Nodup from (by show ([] : List Nat).Nodup; decide)) aSubL_nil) ?_
    exact Tf287_b47 hd x42_4 r26_2.2 _ h
def f287_b25 (kad : Nat → Nat) (N : Nat) (Z : AZ) (a0 : Nat) (i1 : Int32) (i2 : Int32) (s0 : Nat) (I : AI) : Option (Int32 × AI) :=
  f287_b26 kad N Z a0 i1 i2 (1 : Int32) s0 I
set_option maxRecDepth 20000 in
theorem Tf287_b25 {kad : Nat → Nat} {N : Nat} {Z : AZ} {d : Nat} {t : Option Nat × (Nat × Nat)} (hd : 1 ≤ d) : ∀ (a0 : Nat) (i1 : Int32) (i2 : Int32) (s0 : Nat) (I : AI) (r : Int32 × AI), f287_b25 kad N Z a0 i1 i2 s0 I = some r → aGo kad d 287 (25, ([(0, .ref a0), (1, .int i1), (2, .int i2)], [.ref s0])) (aMem Z I, t) (qI Z t r) := by
  intro a0 i1 i2 s0 I r h
  unfold f287_b25 at h
  refine go_ops aMi287 1 _ (f1 := (26, ([(0, .ref a0), (1, .int i1), (2, .int i2)], [.int (1 : Int32), .ref s0]))) rfl ?_
  exact Tf287_b26 hd a0 i1 i2 (1 : Int32) s0 I _ h
def f287 (kad : Nat → Nat) (N : Nat) (Z : AZ) (a0 : Nat) (i1 : Int32) (i2 : Int32) (I : AI) : Option (Int32 × AI) :=
  (f186 kad N Z i1 (0 : Int32) (31 : Int32) I).bind fun r5_1 =>
  if r5_1.1 = 0 then
    f287_b25 kad N Z a0 i1 i2 a0 r5_1.2
  else
    (f186 kad N Z i2 (0 : Int32) (7 : Int32) r5_1.2).bind fun r15_2 =>
    if r15_2.1 = 0 then
      f287_b25 kad N Z a0 i1 i2 a0 r15_2.2
    else
      f287_b26 kad N Z a0 i1 i2 (0 : Int32) a0 r15_2.2
set_option maxRecDepth 20000 in
theorem Tf287 {kad : Nat → Nat} {N : Nat} {Z : AZ} {d : Nat} {t : Option Nat × (Nat × Nat)} (hd : 1 ≤ d) : ∀ (a0 : Nat) (i1 : Int32) (i2 : Int32) (I : AI) (r : Int32 × AI), f287 kad N Z a0 i1 i2 I = some r → aGo kad d 287 (0, ([(0, .ref a0), (1, .int i1), (2, .int i2)], [])) (aMem Z I, t) (qI Z t r) := by
  intro a0 i1 i2 I r h
  unfold f287 at h
  refine go_ops aMi287 4 _ (f1 := (5, ([(0, .ref a0), (1, .int i1), (2, .int i2)], [.int (31 : Int32), .int (0 : Int32), .int i1, .ref a0]))) rfl ?_
  obtain ⟨r5_1, hxr5_1, h⟩ := Option.bind_eq_some_iff.mp h
  refine gg_cs (as := [.int i1, .int (0 : Int32), .int (31 : Int32)]) (r := [.ref a0]) aMi287 rfl rfl rfl aMi186 rfl (Nat.le_of_ble_eq_true rfl) (Nat.le_of_ble_eq_true rfl) (by omega) (Tf186 (by omega) i1 (0 : Int32) (31 : Int32) I _ hxr5_1) ?_
  show aGo kad d 287 (8, ([(0, .ref a0), (1, .int i1), (2, .int i2)], [.int r5_1.1, .ref a0])) (aMem Z r5_1.2, t) _
  refine gg_br (b := decide (r5_1.1 = 0)) (tg := 25) (off := 17) aMi287 rfl rfl rfl rfl (fun hb => ?_) (fun hb => ?_)
  · rw [if_pos (of_decide_eq_true hb)] at h
    exact Tf287_b25 hd a0 i1 i2 a0 r5_1.2 _ h
  · rw [if_neg (of_decide_eq_false hb)] at h
    refine go_ops aMi287 3 _ (f1 := (15, ([(0, .ref a0), (1, .int i1), (2, .int i2)], [.int (7 : Int32), .int (0 : Int32), .int i2, .ref a0]))) rfl ?_
    obtain ⟨r15_2, hxr15_2, h⟩ := Option.bind_eq_some_iff.mp h
    refine gg_cs (as := [.int i2, .int (0 : Int32), .int (7 : Int32)]) (r := [.ref a0]) aMi287 rfl rfl rfl aMi186 rfl (Nat.le_of_ble_eq_true rfl) (Nat.le_of_ble_eq_true rfl) (by omega) (Tf186 (by omega) i2 (0 : Int32) (7 : Int32) r5_1.2 _ hxr15_2) ?_
    show aGo kad d 287 (18, ([(0, .ref a0), (1, .int i1), (2, .int i2)], [.int r15_2.1, .ref a0])) (aMem Z r15_2.2, t) _
    refine gg_br (b := decide (r15_2.1 = 0)) (tg := 25) (off := 7) aMi287 rfl rfl rfl rfl (fun hb => ?_) (fun hb => ?_)
    · rw [if_pos (of_decide_eq_true hb)] at h
      exact Tf287_b25 hd a0 i1 i2 a0 r15_2.2 _ h
    · rw [if_neg (of_decide_eq_false hb)] at h
      refine go_ops aMi287 2 _ (f1 := (26, ([(0, .ref a0), (1, .int i1), (2, .int i2)], [.int (0 : Int32), .ref a0]))) rfl ?_
      exact Tf287_b26 hd a0 i1 i2 (0 : Int32) a0 r15_2.2 _ h
-- KernelGymModel.files ()I
def f288 (kad : Nat → Nat) (N : Nat) (Z : AZ) (a0 : Nat) (I : AI) : Option (Int32 × AI) :=
  (pI Z I 11 0 a0 (0 : Int32)).bind fun I2_1 =>
  (isK Z a0 11).bind fun u6_2 =>
  (f285 kad N Z a0 I2_1).bind fun r6_3 =>
  some (r6_3.1, r6_3.2)
set_option maxRecDepth 20000 in
theorem Tf288 {kad : Nat → Nat} {N : Nat} {Z : AZ} {d : Nat} {t : Option Nat × (Nat × Nat)} (hd : 2 ≤ d) : ∀ (a0 : Nat) (I : AI) (r : Int32 × AI), f288 kad N Z a0 I = some r → aGo kad d 288 (0, ([(0, .ref a0)], [])) (aMem Z I, t) (qI Z t r) := by
  intro a0 I r h
  unfold f288 at h
  refine go_ops aMi288 2 _ (f1 := (2, ([(0, .ref a0)], [.int (0 : Int32), .ref a0]))) rfl ?_
  obtain ⟨I2_1, hxI2_1, h⟩ := Option.bind_eq_some_iff.mp h
  refine gg_pI aMi288 rfl rfl rfl rfl (by decide) hxI2_1 ?_
  refine go_ops aMi288 1 _ (f1 := (6, ([(0, .ref a0)], [.ref a0]))) rfl ?_
  obtain ⟨u6_2, hxu6_2, h⟩ := Option.bind_eq_some_iff.mp h
  obtain ⟨r6_3, hxr6_3, h⟩ := Option.bind_eq_some_iff.mp h
  refine gg_cv (as := []) (r := []) aMi288 rfl rfl rfl aMi285 (Nat.le_of_ble_eq_true rfl) rfl (Nat.le_of_ble_eq_true rfl) (Nat.le_of_ble_eq_true rfl) (by omega) hxu6_2 (Tf285 (by omega) a0 I2_1 _ hxr6_3) ?_
  show aGo kad d 288 (9, ([(0, .ref a0)], [.int r6_3.1])) (aMem Z r6_3.2, t) _
  cases h
  exact go_ret aMi288 rfl aRetI ⟨rfl, rfl⟩
-- KernelGymModel.errorOfName (I)I
def f289_b31 (kad : Nat → Nat) (N : Nat) (Z : AZ) (s0 : Int32) (I : AI) : Option (Int32 × AI) :=
  some (s0, I)
set_option maxRecDepth 20000 in
theorem Tf289_b31 {kad : Nat → Nat} {N : Nat} {Z : AZ} {d : Nat} {t : Option Nat × (Nat × Nat)} (hd : 2 ≤ d) : ∀ (s0 : Int32) (I : AI) (r : Int32 × AI), f289_b31 kad N Z s0 I = some r → aGo kad d 289 (31, ([], [.int s0])) (aMem Z I, t) (qI Z t r) := by
  intro s0 I r h
  unfold f289_b31 at h
  cases h
  exact go_ret aMi289 rfl aRetI ⟨rfl, rfl⟩
def f289 (kad : Nat → Nat) (N : Nat) (Z : AZ) (a0 : Nat) (i1 : Int32) (I : AI) : Option (Int32 × AI) :=
  (f186 kad N Z i1 (1 : Int32) (65535 : Int32) I).bind fun r4_1 =>
  if ¬ r4_1.1 = 0 then
    (gR Z r4_1.2 11 50 a0).bind fun b15_2 =>
    (f236 kad N Z b15_2 i1 r4_1.2).bind fun r19_3 =>
    if ¬ r19_3.1 = (Int32.ofInt (-1)) then
      f289_b31 kad N Z (0 : Int32) r19_3.2
    else
      f289_b31 kad N Z (2 : Int32) r19_3.2
  else
    f289_b31 kad N Z (1 : Int32) r4_1.2
set_option maxRecDepth 20000 in
theorem Tf289 {kad : Nat → Nat} {N : Nat} {Z : AZ} {d : Nat} {t : Option Nat × (Nat × Nat)} (hd : 2 ≤ d) : ∀ (a0 : Nat) (i1 : Int32) (I : AI) (r : Int32 × AI), f289 kad N Z a0 i1 I = some r → aGo kad d 289 (0, ([(0, .ref a0), (1, .int i1)], [])) (aMem Z I, t) (qI Z t r) := by
  intro a0 i1 I r h
  unfold f289 at h
  refine go_ops aMi289 2 _ (f1 := (2, ([(0, .ref a0), (1, .int i1)], [.int (1 : Int32), .int i1]))) rfl ?_
  refine gg_kI (Or.inl ⟨rfl, rfl⟩) aMi289 rfl rfl ?_
  obtain ⟨r4_1, hxr4_1, h⟩ := Option.bind_eq_some_iff.mp h
  refine gg_cs (as := [.int i1, .int (1 : Int32), .int (65535 : Int32)]) (r := []) aMi289 rfl rfl rfl aMi186 rfl (Nat.le_of_ble_eq_true rfl) (Nat.le_of_ble_eq_true rfl) (by omega) (Tf186 (by omega) i1 (1 : Int32) (65535 : Int32) I _ hxr4_1) ?_
  show aGo kad d 289 (7, ([(0, .ref a0), (1, .int i1)], [.int r4_1.1])) (aMem Z r4_1.2, t) _
  refine gg_br (b := decide (¬ r4_1.1 = 0)) (tg := 14) (off := 7) aMi289 rfl rfl rfl rfl (fun hb => ?_) (fun hb => ?_)
  · rw [if_pos (of_decide_eq_true hb)] at h
    refine go_ops aMi289 1 _ (f1 := (15, ([(0, .ref a0), (1, .int i1)], [.ref a0]))) rfl ?_
    obtain ⟨b15_2, hxb15_2, h⟩ := Option.bind_eq_some_iff.mp h
    refine gg_gR aMi289 rfl rfl rfl hxb15_2 ?_
    refine go_ops aMi289 1 _ (f1 := (19, ([(0, .ref a0), (1, .int i1)], [.int i1, .ref b15_2]))) rfl ?_
    obtain ⟨r19_3, hxr19_3, h⟩ := Option.bind_eq_some_iff.mp h
    refine gg_cs (as := [.ref b15_2, .int i1]) (r := []) aMi289 rfl rfl rfl aMi236 rfl (Nat.le_of_ble_eq_true rfl) (Nat.le_of_ble_eq_true rfl) (by omega) (Tf236 (by omega) b15_2 i1 r4_1.2 _ hxr19_3) ?_
    show aGo kad d 289 (22, ([(0, .ref a0), (1, .int i1)], [.int r19_3.1])) (aMem Z r19_3.2, t) _
    refine go_ops aMi289 1 _ (f1 := (23, ([(0, .ref a0), (1, .int i1)], [.int (Int32.ofInt (-1)), .int r19_3.1]))) rfl ?_
    refine gg_br (b := decide (¬ r19_3.1 = (Int32.ofInt (-1)))) (tg := 30) (off := 7) aMi289 rfl rfl rfl rfl (fun hb => ?_) (fun hb => ?_)
    · rw [if_pos (of_decide_eq_true hb)] at h
      refine go_ops aMi289 1 _ (f1 := (31, ([(0, .ref a0), (1, .int i1)], [.int (0 : Int32)]))) rfl ?_
      refine go_le (lv1 := []) (aLe_of (show (List.map (fun q => q.1) ([] : ALv)).Nodup from (by show ([] : List Nat).Nodup; decide)) aSubL_nil) ?_
      exact Tf289_b31 hd (0 : Int32) r19_3.2 _ h
    · rw [if_neg (of_decide_eq_false hb)] at h
      refine go_ops aMi289 2 _ (f1 := (31, ([(0, .ref a0), (1, .int i1)], [.int (2 : Int32)]))) rfl ?_
      refine go_le (lv1 := []) (aLe_of (show (List.map (fun q => q.1) ([] : ALv)).Nodup from (by show ([] : List Nat).Nodup; decide)) aSubL_nil) ?_
      exact Tf289_b31 hd (2 : Int32) r19_3.2 _ h
  · rw [if_neg (of_decide_eq_false hb)] at h
    refine go_ops aMi289 2 _ (f1 := (31, ([(0, .ref a0), (1, .int i1)], [.int (1 : Int32)]))) rfl ?_
    refine go_le (lv1 := []) (aLe_of (show (List.map (fun q => q.1) ([] : ALv)).Nodup from (by show ([] : List Nat).Nodup; decide)) aSubL_nil) ?_
    exact Tf289_b31 hd (1 : Int32) r4_1.2 _ h
-- KernelGymModel.size (I)I
def f290_b34 (kad : Nat → Nat) (N : Nat) (Z : AZ) (s0 : Int32) (I : AI) : Option (Int32 × AI) :=
  some (s0, I)
set_option maxRecDepth 20000 in
theorem Tf290_b34 {kad : Nat → Nat} {N : Nat} {Z : AZ} {d : Nat} {t : Option Nat × (Nat × Nat)} (hd : 3 ≤ d) : ∀ (s0 : Int32) (I : AI) (r : Int32 × AI), f290_b34 kad N Z s0 I = some r → aGo kad d 290 (34, ([], [.int s0])) (aMem Z I, t) (qI Z t r) := by
  intro s0 I r h
  unfold f290_b34 at h
  cases h
  exact go_ret aMi290 rfl aRetI ⟨rfl, rfl⟩
def f290 (kad : Nat → Nat) (N : Nat) (Z : AZ) (a0 : Nat) (i1 : Int32) (I : AI) : Option (Int32 × AI) :=
  (isK Z a0 11).bind fun u3_1 =>
  (f289 kad N Z a0 i1 I).bind fun r3_2 =>
  (isK Z a0 11).bind fun u6_3 =>
  (f185 kad N Z a0 r3_2.1 r3_2.2).bind fun r6_4 =>
  if r6_4.1 = 0 then
    f290_b34 kad N Z (0 : Int32) r6_4.2
  else
    (gR Z r6_4.2 11 50 a0).bind fun b13_5 =>
    (gR Z r6_4.2 11 50 a0).bind fun b17_6 =>
    (f236 kad N Z b17_6 i1 r6_4.2).bind fun r21_7 =>
    (f235 kad N Z r21_7.1 r21_7.2).bind fun r24_8 =>
    (lI Z r24_8.2 100 b13_5 (r24_8.1 + (1 : Int32))).bind fun x29_9 =>
    f290_b34 kad N Z x29_9 r24_8.2
set_option maxRecDepth 20000 in
theorem Tf290 {kad : Nat → Nat} {N : Nat} {Z : AZ} {d : Nat} {t : Option Nat × (Nat × Nat)} (hd : 3 ≤ d) : ∀ (a0 : Nat) (i1 : Int32) (I : AI) (r : Int32 × AI), f290 kad N Z a0 i1 I = some r → aGo kad d 290 (0, ([(0, .ref a0), (1, .int i1)], [])) (aMem Z I, t) (qI Z t r) := by
  intro a0 i1 I r h
  unfold f290 at h
  refine go_ops aMi290 3 _ (f1 := (3, ([(0, .ref a0), (1, .int i1)], [.int i1, .ref a0, .ref a0]))) rfl ?_
  obtain ⟨u3_1, hxu3_1, h⟩ := Option.bind_eq_some_iff.mp h
  obtain ⟨r3_2, hxr3_2, h⟩ := Option.bind_eq_some_iff.mp h
  refine gg_cv (as := [.int i1]) (r := [.ref a0]) aMi290 rfl rfl rfl aMi289 (Nat.le_of_ble_eq_true rfl) rfl (Nat.le_of_ble_eq_true rfl) (Nat.le_of_ble_eq_true rfl) (by omega) hxu3_1 (Tf289 (by omega) a0 i1 I _ hxr3_2) ?_
  show aGo kad d 290 (6, ([(0, .ref a0), (1, .int i1)], [.int r3_2.1, .ref a0])) (aMem Z r3_2.2, t) _
  obtain ⟨u6_3, hxu6_3, h⟩ := Option.bind_eq_some_iff.mp h
  obtain ⟨r6_4, hxr6_4, h⟩ := Option.bind_eq_some_iff.mp h
  refine gg_cv (as := [.int r3_2.1]) (r := []) aMi290 rfl rfl rfl aMi185 (Nat.le_of_ble_eq_true rfl) rfl (Nat.le_of_ble_eq_true rfl) (Nat.le_of_ble_eq_true rfl) (by omega) hxu6_3 (Tf185 (by omega) a0 r3_2.1 r3_2.2 _ hxr6_4) ?_
  show aGo kad d 290 (9, ([(0, .ref a0), (1, .int i1)], [.int r6_4.1])) (aMem Z r6_4.2, t) _
  refine gg_br (b := decide (r6_4.1 = 0)) (tg := 33) (off := 24) aMi290 rfl rfl rfl rfl (fun hb => ?_) (fun hb => ?_)
  · rw [if_pos (of_decide_eq_true hb)] at h
    refine go_ops aMi290 1 _ (f1 := (34, ([(0, .ref a0), (1, .int i1)], [.int (0 : Int32)]))) rfl ?_
    refine go_le (lv1 := []) (aLe_of (show (List.map (fun q => q.1) ([] : ALv)).Nodup from (by show ([] : List Nat).Nodup; decide)) aSubL_nil) ?_
    exact Tf290_b34 hd (0 : Int32) r6_4.2 _ h
  · rw [if_neg (of_decide_eq_false hb)] at h
    refine go_ops aMi290 1 _ (f1 := (13, ([(0, .ref a0), (1, .int i1)], [.ref a0]))) rfl ?_
    obtain ⟨b13_5, hxb13_5, h⟩ := Option.bind_eq_some_iff.mp h
    refine gg_gR aMi290 rfl rfl rfl hxb13_5 ?_
    refine go_ops aMi290 1 _ (f1 := (17, ([(0, .ref a0), (1, .int i1)], [.ref a0, .ref b13_5]))) rfl ?_
    obtain ⟨b17_6, hxb17_6, h⟩ := Option.bind_eq_some_iff.mp h
    refine gg_gR aMi290 rfl rfl rfl hxb17_6 ?_
    refine go_ops aMi290 1 _ (f1 := (21, ([(0, .ref a0), (1, .int i1)], [.int i1, .ref b17_6, .ref b13_5]))) rfl ?_
    obtain ⟨r21_7, hxr21_7, h⟩ := Option.bind_eq_some_iff.mp h
    refine gg_cs (as := [.ref b17_6, .int i1]) (r := [.ref b13_5]) aMi290 rfl rfl rfl aMi236 rfl (Nat.le_of_ble_eq_true rfl) (Nat.le_of_ble_eq_true rfl) (by omega) (Tf236 (by omega) b17_6 i1 r6_4.2 _ hxr21_7) ?_
    show aGo kad d 290 (24, ([(0, .ref a0), (1, .int i1)], [.int r21_7.1, .ref b13_5])) (aMem Z r21_7.2, t) _
    obtain ⟨r24_8, hxr24_8, h⟩ := Option.bind_eq_some_iff.mp h
    refine gg_cs (as := [.int r21_7.1]) (r := [.ref b13_5]) aMi290 rfl rfl rfl aMi235 rfl (Nat.le_of_ble_eq_true rfl) (Nat.le_of_ble_eq_true rfl) (by omega) (Tf235 (by omega) r21_7.1 r21_7.2 _ hxr24_8) ?_
    show aGo kad d 290 (27, ([(0, .ref a0), (1, .int i1)], [.int r24_8.1, .ref b13_5])) (aMem Z r24_8.2, t) _
    refine go_ops aMi290 2 _ (f1 := (29, ([(0, .ref a0), (1, .int i1)], [.int (r24_8.1 + (1 : Int32)), .ref b13_5]))) rfl ?_
    obtain ⟨x29_9, hxx29_9, h⟩ := Option.bind_eq_some_iff.mp h
    refine gg_lI (Or.inl ⟨rfl, rfl⟩) aMi290 rfl hxx29_9 ?_
    refine go_ops aMi290 1 _ (f1 := (34, ([(0, .ref a0), (1, .int i1)], [.int x29_9]))) rfl ?_
    refine go_le (lv1 := []) (aLe_of (show (List.map (fun q => q.1) ([] : ALv)).Nodup from (by show ([] : List Nat).Nodup; decide)) aSubL_nil) ?_
    exact Tf290_b34 hd x29_9 r24_8.2 _ h
-- KernelGymModel.wordOf (II)I
def f291_b52 (kad : Nat → Nat) (N : Nat) (Z : AZ) (a0 : Nat) (i2 : Int32) (i4 : Int32) (s0 : Int32) (s1 : Nat) (I : AI) : Option (Int32 × AI) :=
  (isK Z s1 11).bind fun u52_1 =>
  (f185 kad N Z s1 s0 I).bind fun r52_2 =>
  if ¬ r52_2.1 = 0 then
    (gR Z r52_2.2 11 50 a0).bind fun b61_3 =>
    (gR Z r52_2.2 11 50 a0).bind fun b68_4 =>
    (isK Z a0 11).bind fun u74_5 =>
    (f241 kad N Z a0 b68_4 i4 i2 r52_2.2).bind fun r74_6 =>
    (lI Z r74_6.2 100 b61_3 (((8 : Int32) * r74_6.1) + (i2 - i2 / (8 : Int32) * (8 : Int32)))).bind fun x83_7 =>
    some (x83_7, r74_6.2)
  else
    some ((0 : Int32), r52_2.2)
set_option maxRecDepth 20000 in
theorem Tf291_b52 {kad : Nat → Nat} {N : Nat} {Z : AZ} {d : Nat} {t : Option Nat × (Nat × Nat)} (hd : 3 ≤ d) : ∀ (a0 : Nat) (i2 : Int32) (i4 : Int32) (s0 : Int32) (s1 : Nat) (I : AI) (r : Int32 × AI), f291_b52 kad N Z a0 i2 i4 s0 s1 I = some r → aGo kad d 291 (52, ([(0, .ref a0), (2, .int i2), (4, .int i4)], [.int s0, .ref s1])) (aMem Z I, t) (qI Z t r) := by
  intro a0 i2 i4 s0 s1 I r h
  unfold f291_b52 at h
  obtain ⟨u52_1, hxu52_1, h⟩ := Option.bind_eq_some_iff.mp h
  obtain ⟨r52_2, hxr52_2, h⟩ := Option.bind_eq_some_iff.mp h
  refine gg_cv (as := [.int s0]) (r := []) aMi291 rfl rfl rfl aMi185 (Nat.le_of_ble_eq_true rfl) rfl (Nat.le_of_ble_eq_true rfl) (Nat.le_of_ble_eq_true rfl) (by omega) hxu52_1 (Tf185 (by omega) s1 s0 I _ hxr52_2) ?_
  show aGo kad d 291 (55, ([(0, .ref a0), (2, .int i2), (4, .int i4)], [.int r52_2.1])) (aMem Z r52_2.2, t) _
  refine gg_br (b := decide (¬ r52_2.1 = 0)) (tg := 60) (off := 5) aMi291 rfl rfl rfl rfl (fun hb => ?_) (fun hb => ?_)
  · rw [if_pos (of_decide_eq_true hb)] at h
    refine go_ops aMi291 1 _ (f1 := (61, ([(0, .ref a0), (2, .int i2), (4, .int i4)], [.ref a0]))) rfl ?_
    obtain ⟨b61_3, hxb61_3, h⟩ := Option.bind_eq_some_iff.mp h
    refine gg_gR aMi291 rfl rfl rfl hxb61_3 ?_
    refine go_ops aMi291 3 _ (f1 := (68, ([(0, .ref a0), (2, .int i2), (4, .int i4)], [.ref a0, .ref a0, .int (8 : Int32), .ref b61_3]))) rfl ?_
    obtain ⟨b68_4, hxb68_4, h⟩ := Option.bind_eq_some_iff.mp h
    refine gg_gR aMi291 rfl rfl rfl hxb68_4 ?_
    refine go_ops aMi291 2 _ (f1 := (74, ([(0, .ref a0), (2, .int i2), (4, .int i4)], [.int i2, .int i4, .ref b68_4, .ref a0, .int (8 : Int32), .ref b61_3]))) rfl ?_
    obtain ⟨u74_5, hxu74_5, h⟩ := Option.bind_eq_some_iff.mp h
    obtain ⟨r74_6, hxr74_6, h⟩ := Option.bind_eq_some_iff.mp h
    refine gg_cv (as := [.ref b68_4, .int i4, .int i2]) (r := [.int (8 : Int32), .ref b61_3]) aMi291 rfl rfl rfl aMi241 (Nat.le_of_ble_eq_true rfl) rfl (Nat.le_of_ble_eq_true rfl) (Nat.le_of_ble_eq_true rfl) (by omega) hxu74_5 (Tf241 (by omega) a0 b68_4 i4 i2 r52_2.2 _ hxr74_6) ?_
    show aGo kad d 291 (77, ([(0, .ref a0), (2, .int i2), (4, .int i4)], [.int r74_6.1, .int (8 : Int32), .ref b61_3])) (aMem Z r74_6.2, t) _
    refine go_ops aMi291 5 _ (f1 := (83, ([(0, .ref a0), (2, .int i2), (4, .int i4)], [.int (((8 : Int32) * r74_6.1) + (i2 - i2 / (8 : Int32) * (8 : Int32))), .ref b61_3]))) rfl ?_
    obtain ⟨x83_7, hxx83_7, h⟩ := Option.bind_eq_some_iff.mp h
    refine gg_lI (Or.inl ⟨rfl, rfl⟩) aMi291 rfl hxx83_7 ?_
    cases h
    exact go_ret aMi291 rfl aRetI ⟨rfl, rfl⟩
  · rw [if_neg (of_decide_eq_false hb)] at h
    refine go_ops aMi291 1 _ (f1 := (59, ([(0, .ref a0), (2, .int i2), (4, .int i4)], [.int (0 : Int32)]))) rfl ?_
    cases h
    exact go_ret aMi291 rfl aRetI ⟨rfl, rfl⟩
def f291 (kad : Nat → Nat) (N : Nat) (Z : AZ) (a0 : Nat) (i1 : Int32) (i2 : Int32) (I : AI) : Option (Int32 × AI) :=
  (isK Z a0 11).bind fun u2_1 =>
  (f289 kad N Z a0 i1 I).bind fun r2_2 =>
  (gR Z r2_2.2 11 50 a0).bind fun b7_3 =>
  (f236 kad N Z b7_3 i1 r2_2.2).bind fun r11_4 =>
  if r2_2.1 = 0 then
    (gR Z r11_4.2 11 50 a0).bind fun b28_5 =>
    (f235 kad N Z r11_4.1 r11_4.2).bind fun r33_6 =>
    (lI Z r33_6.2 100 b28_5 (r33_6.1 + (1 : Int32))).bind fun x38_7 =>
    (f186 kad N Z i2 (0 : Int32) (x38_7 - (1 : Int32)) r33_6.2).bind fun r41_8 =>
    if r41_8.1 = 0 then
      f291_b52 kad N Z a0 i2 r11_4.1 (3 : Int32) a0 r41_8.2
    else
      f291_b52 kad N Z a0 i2 r11_4.1 (0 : Int32) a0 r41_8.2
  else
    f291_b52 kad N Z a0 i2 r11_4.1 r2_2.1 a0 r11_4.2
set_option maxRecDepth 20000 in
theorem Tf291 {kad : Nat → Nat} {N : Nat} {Z : AZ} {d : Nat} {t : Option Nat × (Nat × Nat)} (hd : 3 ≤ d) : ∀ (a0 : Nat) (i1 : Int32) (i2 : Int32) (I : AI) (r : Int32 × AI), f291 kad N Z a0 i1 i2 I = some r → aGo kad d 291 (0, ([(0, .ref a0), (1, .int i1), (2, .int i2)], [])) (aMem Z I, t) (qI Z t r) := by
  intro a0 i1 i2 I r h
  unfold f291 at h
  refine go_ops aMi291 2 _ (f1 := (2, ([(0, .ref a0), (1, .int i1), (2, .int i2)], [.int i1, .ref a0]))) rfl ?_
  obtain ⟨u2_1, hxu2_1, h⟩ := Option.bind_eq_some_iff.mp h
  obtain ⟨r2_2, hxr2_2, h⟩ := Option.bind_eq_some_iff.mp h
  refine gg_cv (as := [.int i1]) (r := []) aMi291 rfl rfl rfl aMi289 (Nat.le_of_ble_eq_true rfl) rfl (Nat.le_of_ble_eq_true rfl) (Nat.le_of_ble_eq_true rfl) (by omega) hxu2_1 (Tf289 (by omega) a0 i1 I _ hxr2_2) ?_
  show aGo kad d 291 (5, ([(0, .ref a0), (1, .int i1), (2, .int i2)], [.int r2_2.1])) (aMem Z r2_2.2, t) _
  refine go_ops aMi291 2 _ (f1 := (7, ([(3, .int r2_2.1), (0, .ref a0), (1, .int i1), (2, .int i2)], [.ref a0]))) rfl ?_
  obtain ⟨b7_3, hxb7_3, h⟩ := Option.bind_eq_some_iff.mp h
  refine gg_gR aMi291 rfl rfl rfl hxb7_3 ?_
  refine go_ops aMi291 1 _ (f1 := (11, ([(3, .int r2_2.1), (0, .ref a0), (1, .int i1), (2, .int i2)], [.int i1, .ref b7_3]))) rfl ?_
  obtain ⟨r11_4, hxr11_4, h⟩ := Option.bind_eq_some_iff.mp h
  refine gg_cs (as := [.ref b7_3, .int i1]) (r := []) aMi291 rfl rfl rfl aMi236 rfl (Nat.le_of_ble_eq_true rfl) (Nat.le_of_ble_eq_true rfl) (by omega) (Tf236 (by omega) b7_3 i1 r2_2.2 _ hxr11_4) ?_
  show aGo kad d 291 (14, ([(3, .int r2_2.1), (0, .ref a0), (1, .int i1), (2, .int i2)], [.int r11_4.1])) (aMem Z r11_4.2, t) _
  refine go_ops aMi291 3 _ (f1 := (18, ([(4, .int r11_4.1), (3, .int r2_2.1), (0, .ref a0), (1, .int i1), (2, .int i2)], [.int r2_2.1, .ref a0]))) rfl ?_
  refine gg_br (b := decide (r2_2.1 = 0)) (tg := 25) (off := 7) aMi291 rfl rfl rfl rfl (fun hb => ?_) (fun hb => ?_)
  · rw [if_pos (of_decide_eq_true hb)] at h
    refine go_ops aMi291 3 _ (f1 := (28, ([(4, .int r11_4.1), (3, .int r2_2.1), (0, .ref a0), (1, .int i1), (2, .int i2)], [.ref a0, .int (0 : Int32), .int i2, .ref a0]))) rfl ?_
    obtain ⟨b28_5, hxb28_5, h⟩ := Option.bind_eq_some_iff.mp h
    refine gg_gR aMi291 rfl rfl rfl hxb28_5 ?_
    refine go_ops aMi291 1 _ (f1 := (33, ([(4, .int r11_4.1), (3, .int r2_2.1), (0, .ref a0), (1, .int i1), (2, .int i2)], [.int r11_4.1, .ref b28_5, .int (0 : Int32), .int i2, .ref a0]))) rfl ?_
    obtain ⟨r33_6, hxr33_6, h⟩ := Option.bind_eq_some_iff.mp h
    refine gg_cs (as := [.int r11_4.1]) (r := [.ref b28_5, .int (0 : Int32), .int i2, .ref a0]) aMi291 rfl rfl rfl aMi235 rfl (Nat.le_of_ble_eq_true rfl) (Nat.le_of_ble_eq_true rfl) (by omega) (Tf235 (by omega) r11_4.1 r11_4.2 _ hxr33_6) ?_
    show aGo kad d 291 (36, ([(4, .int r11_4.1), (3, .int r2_2.1), (0, .ref a0), (1, .int i1), (2, .int i2)], [.int r33_6.1, .ref b28_5, .int (0 : Int32), .int i2, .ref a0])) (aMem Z r33_6.2, t) _
    refine go_ops aMi291 2 _ (f1 := (38, ([(4, .int r11_4.1), (3, .int r2_2.1), (0, .ref a0), (1, .int i1), (2, .int i2)], [.int (r33_6.1 + (1 : Int32)), .ref b28_5, .int (0 : Int32), .int i2, .ref a0]))) rfl ?_
    obtain ⟨x38_7, hxx38_7, h⟩ := Option.bind_eq_some_iff.mp h
    refine gg_lI (Or.inl ⟨rfl, rfl⟩) aMi291 rfl hxx38_7 ?_
    refine go_ops aMi291 2 _ (f1 := (41, ([(4, .int r11_4.1), (3, .int r2_2.1), (0, .ref a0), (1, .int i1), (2, .int i2)], [.int (x38_7 - (1 : Int32)), .int (0 : Int32), .int i2, .ref a0]))) rfl ?_
    obtain ⟨r41_8, hxr41_8, h⟩ := Option.bind_eq_some_iff.mp h
    refine gg_cs (as := [.int i2, .int (0 : Int32), .int (x38_7 - (1 : Int32))]) (r := [.ref a0]) aMi291 rfl rfl rfl aMi186 rfl (Nat.le_of_ble_eq_true rfl) (Nat.le_of_ble_eq_true rfl) (by omega) (Tf186 (by omega) i2 (0 : Int32) (x38_7 - (1 : Int32)) r33_6.2 _ hxr41_8) ?_
    show aGo kad d 291 (44, ([(4, .int r11_4.1), (3, .int r2_2.1), (0, .ref a0), (1, .int i1), (2, .int i2)], [.int r41_8.1, .ref a0])) (aMem Z r41_8.2, t) _
    refine gg_br (b := decide (r41_8.1 = 0)) (tg := 51) (off := 7) aMi291 rfl rfl rfl rfl (fun hb => ?_) (fun hb => ?_)
    · rw [if_pos (of_decide_eq_true hb)] at h
      refine go_ops aMi291 1 _ (f1 := (52, ([(4, .int r11_4.1), (3, .int r2_2.1), (0, .ref a0), (1, .int i1), (2, .int i2)], [.int (3 : Int32), .ref a0]))) rfl ?_
      refine go_le (lv1 := [(0, .ref a0), (2, .int i2), (4, .int r11_4.1)]) (aLe_of (show (List.map (fun q => q.1) ([(0, .ref a0), (2, .int i2), (4, .int r11_4.1)] : ALv)).Nodup from (by show ([0, 2, 4] : List Nat).Nodup; decide)) (aSubL_cons rfl (aSubL_cons rfl (aSubL_cons rfl aSubL_nil)))) ?_
      exact Tf291_b52 hd a0 i2 r11_4.1 (3 : Int32) a0 r41_8.2 _ h
    · rw [if_neg (of_decide_eq_false hb)] at h
      refine go_ops aMi291 2 _ (f1 := (52, ([(4, .int r11_4.1), (3, .int r2_2.1), (0, .ref a0), (1, .int i1), (2, .int i2)], [.int (0 : Int32), .ref a0]))) rfl ?_
      refine go_le (lv1 := [(0, .ref a0), (2, .int i2), (4, .int r11_4.1)]) (aLe_of (show (List.map (fun q => q.1) ([(0, .ref a0), (2, .int i2), (4, .int r11_4.1)] : ALv)).Nodup from (by show ([0, 2, 4] : List Nat).Nodup; decide)) (aSubL_cons rfl (aSubL_cons rfl (aSubL_cons rfl aSubL_nil)))) ?_
      exact Tf291_b52 hd a0 i2 r11_4.1 (0 : Int32) a0 r41_8.2 _ h
  · rw [if_neg (of_decide_eq_false hb)] at h
    refine go_ops aMi291 2 _ (f1 := (52, ([(4, .int r11_4.1), (3, .int r2_2.1), (0, .ref a0), (1, .int i1), (2, .int i2)], [.int r2_2.1, .ref a0]))) rfl ?_
    refine go_le (lv1 := [(0, .ref a0), (2, .int i2), (4, .int r11_4.1)]) (aLe_of (show (List.map (fun q => q.1) ([(0, .ref a0), (2, .int i2), (4, .int r11_4.1)] : ALv)).Nodup from (by show ([0, 2, 4] : List Nat).Nodup; decide)) (aSubL_cons rfl (aSubL_cons rfl (aSubL_cons rfl aSubL_nil)))) ?_
    exact Tf291_b52 hd a0 i2 r11_4.1 r2_2.1 a0 r11_4.2 _ h
-- KernelGymModel.freeBlocks ()I
def f292_b33 (kad : Nat → Nat) (N : Nat) (Z : AZ) (k10 : Nat → Int32 → Int32 → AI → Option (Int32 × AI)) (a0 : Nat) (i2 : Int32) (s0 : Int32) (s1 : Int32) (I : AI) : Option (Int32 × AI) :=
  k10 a0 (s1 + s0) (i2 + (1 : Int32)) I
set_option maxRecDepth 20000 in
theorem Tf292_b33 {kad : Nat → Nat} {N : Nat} {Z : AZ} {d : Nat} {t : Option Nat × (Nat × Nat)} (hd : 1 ≤ d) (k10 : Nat → Int32 → Int32 → AI → Option (Int32 × AI))  (hk10 : ∀ (a0 : Nat) (i1 : Int32) (i2 : Int32)  (I : AI) (r : Int32 × AI), k10 a0 i1 i2 I = some r → aGo kad d 292 (10, ([(0, .ref a0), (1, .int i1), (2, .int i2)], [])) (aMem Z I, t) (qI Z t r)) : ∀ (a0 : Nat) (i2 : Int32) (s0 : Int32) (s1 : Int32) (I : AI) (r : Int32 × AI), f292_b33 kad N Z k10 a0 i2 s0 s1 I = some r → aGo kad d 292 (33, ([(0, .ref a0), (2, .int i2)], [.int s0, .int s1])) (aMem Z I, t) (qI Z t r) := by
  intro a0 i2 s0 s1 I r h
  unfold f292_b33 at h
  refine go_ops aMi292 4 _ (f1 := (10, ([(2, .int (i2 + (1 : Int32))), (1, .int (s1 + s0)), (0, .ref a0)], []))) rfl ?_
  refine go_le (lv1 := [(0, .ref a0), (1, .int (s1 + s0)), (2, .int (i2 + (1 : Int32)))]) (aLe_of (show (List.map (fun q => q.1) ([(0, .ref a0), (1, .int (s1 + s0)), (2, .int (i2 + (1 : Int32)))] : ALv)).Nodup from (by show ([0, 1, 2] : List Nat).Nodup; decide)) (aSubL_cons rfl (aSubL_cons rfl (aSubL_cons rfl aSubL_nil)))) ?_
  exact hk10 a0 (s1 + s0) (i2 + (1 : Int32)) I _ h
def f292_b10 (kad : Nat → Nat) (N : Nat) (Z : AZ) : Nat → Nat → Int32 → Int32 → AI → Option (Int32 × AI)
  | 0, _, _, _, _ => none
  | F + 1, a0, i1, i2, I =>
    if (32 : Int32) ≤ i2 then
      some (i1, I)
    else
      (gR Z I 11 50 a0).bind fun b18_1 =>
      (f237 kad N Z b18_1 i2 I).bind fun r22_2 =>
      if r22_2.1 = 0 then
        f292_b33 kad N Z (fun p0 p1 p2 I => f292_b10 kad N Z F p0 p1 p2 I) a0 i2 (1 : Int32) i1 r22_2.2
      else
        f292_b33 kad N Z (fun p0 p1 p2 I => f292_b10 kad N Z F p0 p1 p2 I) a0 i2 (0 : Int32) i1 r22_2.2
set_option maxRecDepth 20000 in
theorem Tf292_b10 {kad : Nat → Nat} {N : Nat} {Z : AZ} {d : Nat} {t : Option Nat × (Nat × Nat)} (hd : 1 ≤ d) : ∀ (F : Nat) (a0 : Nat) (i1 : Int32) (i2 : Int32) (I : AI) (r : Int32 × AI), f292_b10 kad N Z F a0 i1 i2 I = some r → aGo kad d 292 (10, ([(0, .ref a0), (1, .int i1), (2, .int i2)], [])) (aMem Z I, t) (qI Z t r) := by
  intro F
  induction F with
  | zero => intro a0 i1 i2 I r h; cases h
  | succ F ih =>
    intro a0 i1 i2 I r h
    unfold f292_b10 at h
    refine go_ops aMi292 2 _ (f1 := (13, ([(0, .ref a0), (1, .int i1), (2, .int i2)], [.int (32 : Int32), .int i2]))) rfl ?_
    refine gg_br (b := decide ((32 : Int32) ≤ i2)) (tg := 41) (off := 28) aMi292 rfl rfl rfl rfl (fun hb => ?_) (fun hb => ?_)
    · rw [if_pos (of_decide_eq_true hb)] at h
      refine go_ops aMi292 1 _ (f1 := (42, ([(0, .ref a0), (1, .int i1), (2, .int i2)], [.int i1]))) rfl ?_
      cases h
      exact go_ret aMi292 rfl aRetI ⟨rfl, rfl⟩
    · rw [if_neg (of_decide_eq_false hb)] at h
      refine go_ops aMi292 2 _ (f1 := (18, ([(0, .ref a0), (1, .int i1), (2, .int i2)], [.ref a0, .int i1]))) rfl ?_
      obtain ⟨b18_1, hxb18_1, h⟩ := Option.bind_eq_some_iff.mp h
      refine gg_gR aMi292 rfl rfl rfl hxb18_1 ?_
      refine go_ops aMi292 1 _ (f1 := (22, ([(0, .ref a0), (1, .int i1), (2, .int i2)], [.int i2, .ref b18_1, .int i1]))) rfl ?_
      obtain ⟨r22_2, hxr22_2, h⟩ := Option.bind_eq_some_iff.mp h
      refine gg_cs (as := [.ref b18_1, .int i2]) (r := [.int i1]) aMi292 rfl rfl rfl aMi237 rfl (Nat.le_of_ble_eq_true rfl) (Nat.le_of_ble_eq_true rfl) (by omega) (Tf237 (by omega) b18_1 i2 I _ hxr22_2) ?_
      show aGo kad d 292 (25, ([(0, .ref a0), (1, .int i1), (2, .int i2)], [.int r22_2.1, .int i1])) (aMem Z r22_2.2, t) _
      refine gg_br (b := decide (r22_2.1 = 0)) (tg := 32) (off := 7) aMi292 rfl rfl rfl rfl (fun hb => ?_) (fun hb => ?_)
      · rw [if_pos (of_decide_eq_true hb)] at h
        refine go_ops aMi292 1 _ (f1 := (33, ([(0, .ref a0), (1, .int i1), (2, .int i2)], [.int (1 : Int32), .int i1]))) rfl ?_
        refine go_le (lv1 := [(0, .ref a0), (2, .int i2)]) (aLe_of (show (List.map (fun q => q.1) ([(0, .ref a0), (2, .int i2)] : ALv)).Nodup from (by show ([0, 2] : List Nat).Nodup; decide)) (aSubL_cons rfl (aSubL_cons rfl aSubL_nil))) ?_
        exact Tf292_b33 hd (fun p0 p1 p2 I => f292_b10 kad N Z F p0 p1 p2 I) (fun p0 p1 p2 I r hh => ih p0 p1 p2 I r hh) a0 i2 (1 : Int32) i1 r22_2.2 _ h
      · rw [if_neg (of_decide_eq_false hb)] at h
        refine go_ops aMi292 2 _ (f1 := (33, ([(0, .ref a0), (1, .int i1), (2, .int i2)], [.int (0 : Int32), .int i1]))) rfl ?_
        refine go_le (lv1 := [(0, .ref a0), (2, .int i2)]) (aLe_of (show (List.map (fun q => q.1) ([(0, .ref a0), (2, .int i2)] : ALv)).Nodup from (by show ([0, 2] : List Nat).Nodup; decide)) (aSubL_cons rfl (aSubL_cons rfl aSubL_nil))) ?_
        exact Tf292_b33 hd (fun p0 p1 p2 I => f292_b10 kad N Z F p0 p1 p2 I) (fun p0 p1 p2 I r hh => ih p0 p1 p2 I r hh) a0 i2 (0 : Int32) i1 r22_2.2 _ h
def f292 (kad : Nat → Nat) (N : Nat) (Z : AZ) (a0 : Nat) (I : AI) : Option (Int32 × AI) :=
  (pI Z I 11 0 a0 (0 : Int32)).bind fun I2_1 =>
  f292_b10 kad N Z N a0 (0 : Int32) (8 : Int32) I2_1
set_option maxRecDepth 20000 in
theorem Tf292 {kad : Nat → Nat} {N : Nat} {Z : AZ} {d : Nat} {t : Option Nat × (Nat × Nat)} (hd : 1 ≤ d) : ∀ (a0 : Nat) (I : AI) (r : Int32 × AI), f292 kad N Z a0 I = some r → aGo kad d 292 (0, ([(0, .ref a0)], [])) (aMem Z I, t) (qI Z t r) := by
  intro a0 I r h
  unfold f292 at h
  refine go_ops aMi292 2 _ (f1 := (2, ([(0, .ref a0)], [.int (0 : Int32), .ref a0]))) rfl ?_
  obtain ⟨I2_1, hxI2_1, h⟩ := Option.bind_eq_some_iff.mp h
  refine gg_pI aMi292 rfl rfl rfl rfl (by decide) hxI2_1 ?_
  refine go_ops aMi292 4 _ (f1 := (10, ([(2, .int (8 : Int32)), (1, .int (0 : Int32)), (0, .ref a0)], []))) rfl ?_
  refine go_le (lv1 := [(0, .ref a0), (1, .int (0 : Int32)), (2, .int (8 : Int32))]) (aLe_of (show (List.map (fun q => q.1) ([(0, .ref a0), (1, .int (0 : Int32)), (2, .int (8 : Int32))] : ALv)).Nodup from (by show ([0, 1, 2] : List Nat).Nodup; decide)) (aSubL_cons rfl (aSubL_cons rfl (aSubL_cons rfl aSubL_nil)))) ?_
  exact Tf292_b10 hd N a0 (0 : Int32) (8 : Int32) I2_1 _ h
-- KernelGymModel.isEntrySo (I)Z
def f293_b67 (kad : Nat → Nat) (N : Nat) (Z : AZ) (s0 : Int32) (I : AI) : Option (Int32 × AI) :=
  if s0 = 0 ∨ s0 = 1 then some (s0, I) else none
set_option maxRecDepth 20000 in
theorem Tf293_b67 {kad : Nat → Nat} {N : Nat} {Z : AZ} {d : Nat} {t : Option Nat × (Nat × Nat)} (hd : 2 ≤ d) : ∀ (s0 : Int32) (I : AI) (r : Int32 × AI), f293_b67 kad N Z s0 I = some r → aGo kad d 293 (67, ([], [.int s0])) (aMem Z I, t) (qI Z t r) := by
  intro s0 I r h
  unfold f293_b67 at h
  split at h
  · rename_i hz
    cases h
    exact go_ret aMi293 rfl (aRetZ hz) ⟨rfl, rfl⟩
  · cases h
def f293_b66 (kad : Nat → Nat) (N : Nat) (Z : AZ)  (I : AI) : Option (Int32 × AI) :=
  f293_b67 kad N Z (0 : Int32) I
set_option maxRecDepth 20000 in
theorem Tf293_b66 {kad : Nat → Nat} {N : Nat} {Z : AZ} {d : Nat} {t : Option Nat × (Nat × Nat)} (hd : 2 ≤ d) : ∀  (I : AI) (r : Int32 × AI), f293_b66 kad N Z  I = some r → aGo kad d 293 (66, ([], [])) (aMem Z I, t) (qI Z t r) := by
  intro  I r h
  unfold f293_b66 at h
  refine go_ops aMi293 1 _ (f1 := (67, ([], [.int (0 : Int32)]))) rfl ?_
  exact Tf293_b67 hd (0 : Int32) I _ h
def f293_b188 (kad : Nat → Nat) (N : Nat) (Z : AZ) (s0 : Int32) (I : AI) : Option (Int32 × AI) :=
  if s0 = 0 ∨ s0 = 1 then some (s0, I) else none
set_option maxRecDepth 20000 in
theorem Tf293_b188 {kad : Nat → Nat} {N : Nat} {Z : AZ} {d : Nat} {t : Option Nat × (Nat × Nat)} (hd : 2 ≤ d) : ∀ (s0 : Int32) (I : AI) (r : Int32 × AI), f293_b188 kad N Z s0 I = some r → aGo kad d 293 (188, ([], [.int s0])) (aMem Z I, t) (qI Z t r) := by
  intro s0 I r h
  unfold f293_b188 at h
  split at h
  · rename_i hz
    cases h
    exact go_ret aMi293 rfl (aRetZ hz) ⟨rfl, rfl⟩
  · cases h
def f293_b187 (kad : Nat → Nat) (N : Nat) (Z : AZ)  (I : AI) : Option (Int32 × AI) :=
  f293_b188 kad N Z (0 : Int32) I
set_option maxRecDepth 20000 in
theorem Tf293_b187 {kad : Nat → Nat} {N : Nat} {Z : AZ} {d : Nat} {t : Option Nat × (Nat × Nat)} (hd : 2 ≤ d) : ∀  (I : AI) (r : Int32 × AI), f293_b187 kad N Z  I = some r → aGo kad d 293 (187, ([], [])) (aMem Z I, t) (qI Z t r) := by
  intro  I r h
  unfold f293_b187 at h
  refine go_ops aMi293 1 _ (f1 := (188, ([], [.int (0 : Int32)]))) rfl ?_
  exact Tf293_b188 hd (0 : Int32) I _ h
def f293_b163 (kad : Nat → Nat) (N : Nat) (Z : AZ) (a0 : Nat) (i1 : Int32) (I : AI) : Option (Int32 × AI) :=
  (gR Z I 11 50 a0).bind fun b164_1 =>
  (gR Z I 11 50 a0).bind fun b168_2 =>
  (f235 kad N Z i1 I).bind fun r172_3 =>
  (lI Z r172_3.2 100 b168_2 r172_3.1).bind fun x175_4 =>
  (f236 kad N Z b164_1 x175_4 r172_3.2).bind fun r176_5 =>
  if ¬ r176_5.1 = i1 then
    f293_b187 kad N Z  r176_5.2
  else
    f293_b188 kad N Z (1 : Int32) r176_5.2
set_option maxRecDepth 20000 in
theorem Tf293_b163 {kad : Nat → Nat} {N : Nat} {Z : AZ} {d : Nat} {t : Option Nat × (Nat × Nat)} (hd : 2 ≤ d) : ∀ (a0 : Nat) (i1 : Int32) (I : AI) (r : Int32 × AI), f293_b163 kad N Z a0 i1 I = some r → aGo kad d 293 (163, ([(0, .ref a0), (1, .int i1)], [])) (aMem Z I, t) (qI Z t r) := by
  intro a0 i1 I r h
  unfold f293_b163 at h
  refine go_ops aMi293 1 _ (f1 := (164, ([(0, .ref a0), (1, .int i1)], [.ref a0]))) rfl ?_
  obtain ⟨b164_1, hxb164_1, h⟩ := Option.bind_eq_some_iff.mp h
  refine gg_gR aMi293 rfl rfl rfl hxb164_1 ?_
  refine go_ops aMi293 1 _ (f1 := (168, ([(0, .ref a0), (1, .int i1)], [.ref a0, .ref b164_1]))) rfl ?_
  obtain ⟨b168_2, hxb168_2, h⟩ := Option.bind_eq_some_iff.mp h
  refine gg_gR aMi293 rfl rfl rfl hxb168_2 ?_
  refine go_ops aMi293 1 _ (f1 := (172, ([(0, .ref a0), (1, .int i1)], [.int i1, .ref b168_2, .ref b164_1]))) rfl ?_
  obtain ⟨r172_3, hxr172_3, h⟩ := Option.bind_eq_some_iff.mp h
  refine gg_cs (as := [.int i1]) (r := [.ref b168_2, .ref b164_1]) aMi293 rfl rfl rfl aMi235 rfl (Nat.le_of_ble_eq_true rfl) (Nat.le_of_ble_eq_true rfl) (by omega) (Tf235 (by omega) i1 I _ hxr172_3) ?_
  show aGo kad d 293 (175, ([(0, .ref a0), (1, .int i1)], [.int r172_3.1, .ref b168_2, .ref b164_1])) (aMem Z r172_3.2, t) _
  obtain ⟨x175_4, hxx175_4, h⟩ := Option.bind_eq_some_iff.mp h
  refine gg_lI (Or.inl ⟨rfl, rfl⟩) aMi293 rfl hxx175_4 ?_
  obtain ⟨r176_5, hxr176_5, h⟩ := Option.bind_eq_some_iff.mp h
  refine gg_cs (as := [.ref b164_1, .int x175_4]) (r := []) aMi293 rfl rfl rfl aMi236 rfl (Nat.le_of_ble_eq_true rfl) (Nat.le_of_ble_eq_true rfl) (by omega) (Tf236 (by omega) b164_1 x175_4 r172_3.2 _ hxr176_5) ?_
  show aGo kad d 293 (179, ([(0, .ref a0), (1, .int i1)], [.int r176_5.1])) (aMem Z r176_5.2, t) _
  refine go_ops aMi293 1 _ (f1 := (180, ([(0, .ref a0), (1, .int i1)], [.int i1, .int r176_5.1]))) rfl ?_
  refine gg_br (b := decide (¬ r176_5.1 = i1)) (tg := 187) (off := 7) aMi293 rfl rfl rfl rfl (fun hb => ?_) (fun hb => ?_)
  · rw [if_pos (of_decide_eq_true hb)] at h
    refine go_le (lv1 := []) (aLe_of (show (List.map (fun q => q.1) ([] : ALv)).Nodup from (by show ([] : List Nat).Nodup; decide)) aSubL_nil) ?_
    exact Tf293_b187 hd  r176_5.2 _ h
  · rw [if_neg (of_decide_eq_false hb)] at h
    refine go_ops aMi293 2 _ (f1 := (188, ([(0, .ref a0), (1, .int i1)], [.int (1 : Int32)]))) rfl ?_
    refine go_le (lv1 := []) (aLe_of (show (List.map (fun q => q.1) ([] : ALv)).Nodup from (by show ([] : List Nat).Nodup; decide)) aSubL_nil) ?_
    exact Tf293_b188 hd (1 : Int32) r176_5.2 _ h
def f293_b146 (kad : Nat → Nat) (N : Nat) (Z : AZ) (a0 : Nat) (i1 : Int32) (i4 : Int32) (I : AI) : Option (Int32 × AI) :=
  if i4 = 0 then
    f293_b163 kad N Z a0 i1 I
  else
    (f186 kad N Z i4 (8 : Int32) (31 : Int32) I).bind fun r157_1 =>
    if r157_1.1 = 0 then
      f293_b187 kad N Z  r157_1.2
    else
      f293_b163 kad N Z a0 i1 r157_1.2
set_option maxRecDepth 20000 in
theorem Tf293_b146 {kad : Nat → Nat} {N : Nat} {Z : AZ} {d : Nat} {t : Option Nat × (Nat × Nat)} (hd : 2 ≤ d) : ∀ (a0 : Nat) (i1 : Int32) (i4 : Int32) (I : AI) (r : Int32 × AI), f293_b146 kad N Z a0 i1 i4 I = some r → aGo kad d 293 (146, ([(0, .ref a0), (1, .int i1), (4, .int i4)], [])) (aMem Z I, t) (qI Z t r) := by
  intro a0 i1 i4 I r h
  unfold f293_b146 at h
  refine go_ops aMi293 1 _ (f1 := (148, ([(0, .ref a0), (1, .int i1), (4, .int i4)], [.int i4]))) rfl ?_
  refine gg_br (b := decide (i4 = 0)) (tg := 163) (off := 15) aMi293 rfl rfl rfl rfl (fun hb => ?_) (fun hb => ?_)
  · rw [if_pos (of_decide_eq_true hb)] at h
    refine go_le (lv1 := [(0, .ref a0), (1, .int i1)]) (aLe_of (show (List.map (fun q => q.1) ([(0, .ref a0), (1, .int i1)] : ALv)).Nodup from (by show ([0, 1] : List Nat).Nodup; decide)) (aSubL_cons rfl (aSubL_cons rfl aSubL_nil))) ?_
    exact Tf293_b163 hd a0 i1 I _ h
  · rw [if_neg (of_decide_eq_false hb)] at h
    refine go_ops aMi293 3 _ (f1 := (157, ([(0, .ref a0), (1, .int i1), (4, .int i4)], [.int (31 : Int32), .int (8 : Int32), .int i4]))) rfl ?_
    obtain ⟨r157_1, hxr157_1, h⟩ := Option.bind_eq_some_iff.mp h
    refine gg_cs (as := [.int i4, .int (8 : Int32), .int (31 : Int32)]) (r := []) aMi293 rfl rfl rfl aMi186 rfl (Nat.le_of_ble_eq_true rfl) (Nat.le_of_ble_eq_true rfl) (by omega) (Tf186 (by omega) i4 (8 : Int32) (31 : Int32) I _ hxr157_1) ?_
    show aGo kad d 293 (160, ([(0, .ref a0), (1, .int i1), (4, .int i4)], [.int r157_1.1])) (aMem Z r157_1.2, t) _
    refine gg_br (b := decide (r157_1.1 = 0)) (tg := 187) (off := 27) aMi293 rfl rfl rfl rfl (fun hb => ?_) (fun hb => ?_)
    · rw [if_pos (of_decide_eq_true hb)] at h
      refine go_le (lv1 := []) (aLe_of (show (List.map (fun q => q.1) ([] : ALv)).Nodup from (by show ([] : List Nat).Nodup; decide)) aSubL_nil) ?_
      exact Tf293_b187 hd  r157_1.2 _ h
    · rw [if_neg (of_decide_eq_false hb)] at h
      refine go_le (lv1 := [(0, .ref a0), (1, .int i1)]) (aLe_of (show (List.map (fun q => q.1) ([(0, .ref a0), (1, .int i1)] : ALv)).Nodup from (by show ([0, 1] : List Nat).Nodup; decide)) (aSubL_cons rfl (aSubL_cons rfl aSubL_nil))) ?_
      exact Tf293_b163 hd a0 i1 r157_1.2 _ h
def f293_b124 (kad : Nat → Nat) (N : Nat) (Z : AZ) (a0 : Nat) (i1 : Int32) (i3 : Int32) (i4 : Int32) (s0 : Int32) (I : AI) : Option (Int32 × AI) :=
  if s0 = 0 then
    f293_b187 kad N Z  I
  else
    if i3 = 0 then
      f293_b146 kad N Z a0 i1 i4 I
    else
      (f186 kad N Z i3 (8 : Int32) (31 : Int32) I).bind fun r140_1 =>
      if r140_1.1 = 0 then
        f293_b187 kad N Z  r140_1.2
      else
        f293_b146 kad N Z a0 i1 i4 r140_1.2
set_option maxRecDepth 20000 in
theorem Tf293_b124 {kad : Nat → Nat} {N : Nat} {Z : AZ} {d : Nat} {t : Option Nat × (Nat × Nat)} (hd : 2 ≤ d) : ∀ (a0 : Nat) (i1 : Int32) (i3 : Int32) (i4 : Int32) (s0 : Int32) (I : AI) (r : Int32 × AI), f293_b124 kad N Z a0 i1 i3 i4 s0 I = some r → aGo kad d 293 (124, ([(0, .ref a0), (1, .int i1), (3, .int i3), (4, .int i4)], [.int s0])) (aMem Z I, t) (qI Z t r) := by
  intro a0 i1 i3 i4 s0 I r h
  unfold f293_b124 at h
  refine go_ops aMi293 2 _ (f1 := (128, ([(5, .int s0), (0, .ref a0), (1, .int i1), (3, .int i3), (4, .int i4)], [.int s0]))) rfl ?_
  refine gg_br (b := decide (s0 = 0)) (tg := 187) (off := 59) aMi293 rfl rfl rfl rfl (fun hb => ?_) (fun hb => ?_)
  · rw [if_pos (of_decide_eq_true hb)] at h
    refine go_le (lv1 := []) (aLe_of (show (List.map (fun q => q.1) ([] : ALv)).Nodup from (by show ([] : List Nat).Nodup; decide)) aSubL_nil) ?_
    exact Tf293_b187 hd  I _ h
  · rw [if_neg (of_decide_eq_false hb)] at h
    refine go_ops aMi293 1 _ (f1 := (132, ([(5, .int s0), (0, .ref a0), (1, .int i1), (3, .int i3), (4, .int i4)], [.int i3]))) rfl ?_
    refine gg_br (b := decide (i3 = 0)) (tg := 146) (off := 14) aMi293 rfl rfl rfl rfl (fun hb => ?_) (fun hb => ?_)
    · rw [if_pos (of_decide_eq_true hb)] at h
      refine go_le (lv1 := [(0, .ref a0), (1, .int i1), (4, .int i4)]) (aLe_of (show (List.map (fun q => q.1) ([(0, .ref a0), (1, .int i1), (4, .int i4)] : ALv)).Nodup from (by show ([0, 1, 4] : List Nat).Nodup; decide)) (aSubL_cons rfl (aSubL_cons rfl (aSubL_cons rfl aSubL_nil)))) ?_
      exact Tf293_b146 hd a0 i1 i4 I _ h
    · rw [if_neg (of_decide_eq_false hb)] at h
      refine go_ops aMi293 3 _ (f1 := (140, ([(5, .int s0), (0, .ref a0), (1, .int i1), (3, .int i3), (4, .int i4)], [.int (31 : Int32), .int (8 : Int32), .int i3]))) rfl ?_
      obtain ⟨r140_1, hxr140_1, h⟩ := Option.bind_eq_some_iff.mp h
      refine gg_cs (as := [.int i3, .int (8 : Int32), .int (31 : Int32)]) (r := []) aMi293 rfl rfl rfl aMi186 rfl (Nat.le_of_ble_eq_true rfl) (Nat.le_of_ble_eq_true rfl) (by omega) (Tf186 (by omega) i3 (8 : Int32) (31 : Int32) I _ hxr140_1) ?_
      show aGo kad d 293 (143, ([(5, .int s0), (0, .ref a0), (1, .int i1), (3, .int i3), (4, .int i4)], [.int r140_1.1])) (aMem Z r140_1.2, t) _
      refine gg_br (b := decide (r140_1.1 = 0)) (tg := 187) (off := 44) aMi293 rfl rfl rfl rfl (fun hb => ?_) (fun hb => ?_)
      · rw [if_pos (of_decide_eq_true hb)] at h
        refine go_le (lv1 := []) (aLe_of (show (List.map (fun q => q.1) ([] : ALv)).Nodup from (by show ([] : List Nat).Nodup; decide)) aSubL_nil) ?_
        exact Tf293_b187 hd  r140_1.2 _ h
      · rw [if_neg (of_decide_eq_false hb)] at h
        refine go_le (lv1 := [(0, .ref a0), (1, .int i1), (4, .int i4)]) (aLe_of (show (List.map (fun q => q.1) ([(0, .ref a0), (1, .int i1), (4, .int i4)] : ALv)).Nodup from (by show ([0, 1, 4] : List Nat).Nodup; decide)) (aSubL_cons rfl (aSubL_cons rfl (aSubL_cons rfl aSubL_nil)))) ?_
        exact Tf293_b146 hd a0 i1 i4 r140_1.2 _ h
def f293_b123 (kad : Nat → Nat) (N : Nat) (Z : AZ) (a0 : Nat) (i1 : Int32) (i3 : Int32) (i4 : Int32) (I : AI) : Option (Int32 × AI) :=
  f293_b124 kad N Z a0 i1 i3 i4 (0 : Int32) I
set_option maxRecDepth 20000 in
theorem Tf293_b123 {kad : Nat → Nat} {N : Nat} {Z : AZ} {d : Nat} {t : Option Nat × (Nat × Nat)} (hd : 2 ≤ d) : ∀ (a0 : Nat) (i1 : Int32) (i3 : Int32) (i4 : Int32) (I : AI) (r : Int32 × AI), f293_b123 kad N Z a0 i1 i3 i4 I = some r → aGo kad d 293 (123, ([(0, .ref a0), (1, .int i1), (3, .int i3), (4, .int i4)], [])) (aMem Z I, t) (qI Z t r) := by
  intro a0 i1 i3 i4 I r h
  unfold f293_b123 at h
  refine go_ops aMi293 1 _ (f1 := (124, ([(0, .ref a0), (1, .int i1), (3, .int i3), (4, .int i4)], [.int (0 : Int32)]))) rfl ?_
  exact Tf293_b124 hd a0 i1 i3 i4 (0 : Int32) I _ h
def f293_b116 (kad : Nat → Nat) (N : Nat) (Z : AZ) (a0 : Nat) (i1 : Int32) (i3 : Int32) (i4 : Int32) (s0 : Int32) (s1 : Int32) (I : AI) : Option (Int32 × AI) :=
  if ¬ s1 = s0 then
    f293_b123 kad N Z a0 i1 i3 i4 I
  else
    f293_b124 kad N Z a0 i1 i3 i4 (1 : Int32) I
set_option maxRecDepth 20000 in
theorem Tf293_b116 {kad : Nat → Nat} {N : Nat} {Z : AZ} {d : Nat} {t : Option Nat × (Nat × Nat)} (hd : 2 ≤ d) : ∀ (a0 : Nat) (i1 : Int32) (i3 : Int32) (i4 : Int32) (s0 : Int32) (s1 : Int32) (I : AI) (r : Int32 × AI), f293_b116 kad N Z a0 i1 i3 i4 s0 s1 I = some r → aGo kad d 293 (116, ([(0, .ref a0), (1, .int i1), (3, .int i3), (4, .int i4)], [.int s0, .int s1])) (aMem Z I, t) (qI Z t r) := by
  intro a0 i1 i3 i4 s0 s1 I r h
  unfold f293_b116 at h
  refine gg_br (b := decide (¬ s1 = s0)) (tg := 123) (off := 7) aMi293 rfl rfl rfl rfl (fun hb => ?_) (fun hb => ?_)
  · rw [if_pos (of_decide_eq_true hb)] at h
    exact Tf293_b123 hd a0 i1 i3 i4 I _ h
  · rw [if_neg (of_decide_eq_false hb)] at h
    refine go_ops aMi293 2 _ (f1 := (124, ([(0, .ref a0), (1, .int i1), (3, .int i3), (4, .int i4)], [.int (1 : Int32)]))) rfl ?_
    exact Tf293_b124 hd a0 i1 i3 i4 (1 : Int32) I _ h
def f293_b105 (kad : Nat → Nat) (N : Nat) (Z : AZ) (a0 : Nat) (i1 : Int32) (i2 : Int32) (i3 : Int32) (i4 : Int32) (s0 : Int32) (I : AI) : Option (Int32 × AI) :=
  if i2 ≤ (8 : Int32) then
    f293_b116 kad N Z a0 i1 i3 i4 (0 : Int32) s0 I
  else
    f293_b116 kad N Z a0 i1 i3 i4 (1 : Int32) s0 I
set_option maxRecDepth 20000 in
theorem Tf293_b105 {kad : Nat → Nat} {N : Nat} {Z : AZ} {d : Nat} {t : Option Nat × (Nat × Nat)} (hd : 2 ≤ d) : ∀ (a0 : Nat) (i1 : Int32) (i2 : Int32) (i3 : Int32) (i4 : Int32) (s0 : Int32) (I : AI) (r : Int32 × AI), f293_b105 kad N Z a0 i1 i2 i3 i4 s0 I = some r → aGo kad d 293 (105, ([(0, .ref a0), (1, .int i1), (2, .int i2), (3, .int i3), (4, .int i4)], [.int s0])) (aMem Z I, t) (qI Z t r) := by
  intro a0 i1 i2 i3 i4 s0 I r h
  unfold f293_b105 at h
  refine go_ops aMi293 2 _ (f1 := (108, ([(0, .ref a0), (1, .int i1), (2, .int i2), (3, .int i3), (4, .int i4)], [.int (8 : Int32), .int i2, .int s0]))) rfl ?_
  refine gg_br (b := decide (i2 ≤ (8 : Int32))) (tg := 115) (off := 7) aMi293 rfl rfl rfl rfl (fun hb => ?_) (fun hb => ?_)
  · rw [if_pos (of_decide_eq_true hb)] at h
    refine go_ops aMi293 1 _ (f1 := (116, ([(0, .ref a0), (1, .int i1), (2, .int i2), (3, .int i3), (4, .int i4)], [.int (0 : Int32), .int s0]))) rfl ?_
    refine go_le (lv1 := [(0, .ref a0), (1, .int i1), (3, .int i3), (4, .int i4)]) (aLe_of (show (List.map (fun q => q.1) ([(0, .ref a0), (1, .int i1), (3, .int i3), (4, .int i4)] : ALv)).Nodup from (by show ([0, 1, 3, 4] : List Nat).Nodup; decide)) (aSubL_cons rfl (aSubL_cons rfl (aSubL_cons rfl (aSubL_cons rfl aSubL_nil))))) ?_
    exact Tf293_b116 hd a0 i1 i3 i4 (0 : Int32) s0 I _ h
  · rw [if_neg (of_decide_eq_false hb)] at h
    refine go_ops aMi293 2 _ (f1 := (116, ([(0, .ref a0), (1, .int i1), (2, .int i2), (3, .int i3), (4, .int i4)], [.int (1 : Int32), .int s0]))) rfl ?_
    refine go_le (lv1 := [(0, .ref a0), (1, .int i1), (3, .int i3), (4, .int i4)]) (aLe_of (show (List.map (fun q => q.1) ([(0, .ref a0), (1, .int i1), (3, .int i3), (4, .int i4)] : ALv)).Nodup from (by show ([0, 1, 3, 4] : List Nat).Nodup; decide)) (aSubL_cons rfl (aSubL_cons rfl (aSubL_cons rfl (aSubL_cons rfl aSubL_nil))))) ?_
    exact Tf293_b116 hd a0 i1 i3 i4 (1 : Int32) s0 I _ h
def f293_b92 (kad : Nat → Nat) (N : Nat) (Z : AZ) (a0 : Nat) (i1 : Int32) (i2 : Int32) (i3 : Int32) (i4 : Int32) (s0 : Int32) (s1 : Int32) (I : AI) : Option (Int32 × AI) :=
  if ¬ s1 = s0 then
    f293_b123 kad N Z a0 i1 i3 i4 I
  else
    if i4 ≤ 0 then
      f293_b105 kad N Z a0 i1 i2 i3 i4 (0 : Int32) I
    else
      f293_b105 kad N Z a0 i1 i2 i3 i4 (1 : Int32) I
set_option maxRecDepth 20000 in
theorem Tf293_b92 {kad : Nat → Nat} {N : Nat} {Z : AZ} {d : Nat} {t : Option Nat × (Nat × Nat)} (hd : 2 ≤ d) : ∀ (a0 : Nat) (i1 : Int32) (i2 : Int32) (i3 : Int32) (i4 : Int32) (s0 : Int32) (s1 : Int32) (I : AI) (r : Int32 × AI), f293_b92 kad N Z a0 i1 i2 i3 i4 s0 s1 I = some r → aGo kad d 293 (92, ([(0, .ref a0), (1, .int i1), (2, .int i2), (3, .int i3), (4, .int i4)], [.int s0, .int s1])) (aMem Z I, t) (qI Z t r) := by
  intro a0 i1 i2 i3 i4 s0 s1 I r h
  unfold f293_b92 at h
  refine gg_br (b := decide (¬ s1 = s0)) (tg := 123) (off := 31) aMi293 rfl rfl rfl rfl (fun hb => ?_) (fun hb => ?_)
  · rw [if_pos (of_decide_eq_true hb)] at h
    refine go_le (lv1 := [(0, .ref a0), (1, .int i1), (3, .int i3), (4, .int i4)]) (aLe_of (show (List.map (fun q => q.1) ([(0, .ref a0), (1, .int i1), (3, .int i3), (4, .int i4)] : ALv)).Nodup from (by show ([0, 1, 3, 4] : List Nat).Nodup; decide)) (aSubL_cons rfl (aSubL_cons rfl (aSubL_cons rfl (aSubL_cons rfl aSubL_nil))))) ?_
    exact Tf293_b123 hd a0 i1 i3 i4 I _ h
  · rw [if_neg (of_decide_eq_false hb)] at h
    refine go_ops aMi293 1 _ (f1 := (97, ([(0, .ref a0), (1, .int i1), (2, .int i2), (3, .int i3), (4, .int i4)], [.int i4]))) rfl ?_
    refine gg_br (b := decide (i4 ≤ 0)) (tg := 104) (off := 7) aMi293 rfl rfl rfl rfl (fun hb => ?_) (fun hb => ?_)
    · rw [if_pos (of_decide_eq_true hb)] at h
      refine go_ops aMi293 1 _ (f1 := (105, ([(0, .ref a0), (1, .int i1), (2, .int i2), (3, .int i3), (4, .int i4)], [.int (0 : Int32)]))) rfl ?_
      exact Tf293_b105 hd a0 i1 i2 i3 i4 (0 : Int32) I _ h
    · rw [if_neg (of_decide_eq_false hb)] at h
      refine go_ops aMi293 2 _ (f1 := (105, ([(0, .ref a0), (1, .int i1), (2, .int i2), (3, .int i3), (4, .int i4)], [.int (1 : Int32)]))) rfl ?_
      exact Tf293_b105 hd a0 i1 i2 i3 i4 (1 : Int32) I _ h
def f293_b83 (kad : Nat → Nat) (N : Nat) (Z : AZ) (a0 : Nat) (i1 : Int32) (i2 : Int32) (i3 : Int32) (i4 : Int32) (s0 : Int32) (I : AI) : Option (Int32 × AI) :=
  if i2 ≤ 0 then
    f293_b92 kad N Z a0 i1 i2 i3 i4 (0 : Int32) s0 I
  else
    f293_b92 kad N Z a0 i1 i2 i3 i4 (1 : Int32) s0 I
set_option maxRecDepth 20000 in
theorem Tf293_b83 {kad : Nat → Nat} {N : Nat} {Z : AZ} {d : Nat} {t : Option Nat × (Nat × Nat)} (hd : 2 ≤ d) : ∀ (a0 : Nat) (i1 : Int32) (i2 : Int32) (i3 : Int32) (i4 : Int32) (s0 : Int32) (I : AI) (r : Int32 × AI), f293_b83 kad N Z a0 i1 i2 i3 i4 s0 I = some r → aGo kad d 293 (83, ([(0, .ref a0), (1, .int i1), (2, .int i2), (3, .int i3), (4, .int i4)], [.int s0])) (aMem Z I, t) (qI Z t r) := by
  intro a0 i1 i2 i3 i4 s0 I r h
  unfold f293_b83 at h
  refine go_ops aMi293 1 _ (f1 := (84, ([(0, .ref a0), (1, .int i1), (2, .int i2), (3, .int i3), (4, .int i4)], [.int i2, .int s0]))) rfl ?_
  refine gg_br (b := decide (i2 ≤ 0)) (tg := 91) (off := 7) aMi293 rfl rfl rfl rfl (fun hb => ?_) (fun hb => ?_)
  · rw [if_pos (of_decide_eq_true hb)] at h
    refine go_ops aMi293 1 _ (f1 := (92, ([(0, .ref a0), (1, .int i1), (2, .int i2), (3, .int i3), (4, .int i4)], [.int (0 : Int32), .int s0]))) rfl ?_
    exact Tf293_b92 hd a0 i1 i2 i3 i4 (0 : Int32) s0 I _ h
  · rw [if_neg (of_decide_eq_false hb)] at h
    refine go_ops aMi293 2 _ (f1 := (92, ([(0, .ref a0), (1, .int i1), (2, .int i2), (3, .int i3), (4, .int i4)], [.int (1 : Int32), .int s0]))) rfl ?_
    exact Tf293_b92 hd a0 i1 i2 i3 i4 (1 : Int32) s0 I _ h
def f293 (kad : Nat → Nat) (N : Nat) (Z : AZ) (a0 : Nat) (i1 : Int32) (I : AI) : Option (Int32 × AI) :=
  (gR Z I 11 50 a0).bind fun b1_1 =>
  (f235 kad N Z i1 I).bind fun r5_2 =>
  (lI Z r5_2.2 100 b1_1 (r5_2.1 + (1 : Int32))).bind fun x10_3 =>
  (gR Z r5_2.2 11 50 a0).bind fun b13_4 =>
  (f235 kad N Z i1 r5_2.2).bind fun r17_5 =>
  (lI Z r17_5.2 100 b13_4 (r17_5.1 + (2 : Int32))).bind fun x22_6 =>
  (gR Z r17_5.2 11 50 a0).bind fun b25_7 =>
  (f235 kad N Z i1 r17_5.2).bind fun r29_8 =>
  (lI Z r29_8.2 100 b25_7 (r29_8.1 + (3 : Int32))).bind fun x34_9 =>
  (gR Z r29_8.2 11 50 a0).bind fun b38_10 =>
  (f235 kad N Z i1 r29_8.2).bind fun r42_11 =>
  (lI Z r42_11.2 100 b38_10 r42_11.1).bind fun x45_12 =>
  if ¬ x45_12 = 0 then
    if (16 : Int32) < x10_3 then
      f293_b123 kad N Z a0 i1 x22_6 x34_9 r42_11.2
    else
      if x22_6 ≤ 0 then
        f293_b83 kad N Z a0 i1 x10_3 x22_6 x34_9 (0 : Int32) r42_11.2
      else
        f293_b83 kad N Z a0 i1 x10_3 x22_6 x34_9 (1 : Int32) r42_11.2
  else
    if ¬ x10_3 = 0 then
      f293_b66 kad N Z  r42_11.2
    else
      if ¬ x22_6 = 0 then
        f293_b66 kad N Z  r42_11.2
      else
        if ¬ x34_9 = 0 then
          f293_b66 kad N Z  r42_11.2
        else
          f293_b67 kad N Z (1 : Int32) r42_11.2
set_option maxRecDepth 20000 in
theorem Tf293 {kad : Nat → Nat} {N : Nat} {Z : AZ} {d : Nat} {t : Option Nat × (Nat × Nat)} (hd : 2 ≤ d) : ∀ (a0 : Nat) (i1 : Int32) (I : AI) (r : Int32 × AI), f293 kad N Z a0 i1 I = some r → aGo kad d 293 (0, ([(0, .ref a0), (1, .int i1)], [])) (aMem Z I, t) (qI Z t r) := by
  intro a0 i1 I r h
  unfold f293 at h
  refine go_ops aMi293 1 _ (f1 := (1, ([(0, .ref a0), (1, .int i1)], [.ref a0]))) rfl ?_
  obtain ⟨b1_1, hxb1_1, h⟩ := Option.bind_eq_some_iff.mp h
  refine gg_gR aMi293 rfl rfl rfl hxb1_1 ?_
  refine go_ops aMi293 1 _ (f1 := (5, ([(0, .ref a0), (1, .int i1)], [.int i1, .ref b1_1]))) rfl ?_
  obtain ⟨r5_2, hxr5_2, h⟩ := Option.bind_eq_some_iff.mp h
  refine gg_cs (as := [.int i1]) (r := [.ref b1_1]) aMi293 rfl rfl rfl aMi235 rfl (Nat.le_of_ble_eq_true rfl) (Nat.le_of_ble_eq_true rfl) (by omega) (Tf235 (by omega) i1 I _ hxr5_2) ?_
  show aGo kad d 293 (8, ([(0, .ref a0), (1, .int i1)], [.int r5_2.1, .ref b1_1])) (aMem Z r5_2.2, t) _
  refine go_ops aMi293 2 _ (f1 := (10, ([(0, .ref a0), (1, .int i1)], [.int (r5_2.1 + (1 : Int32)), .ref b1_1]))) rfl ?_
  obtain ⟨x10_3, hxx10_3, h⟩ := Option.bind_eq_some_iff.mp h
  refine gg_lI (Or.inl ⟨rfl, rfl⟩) aMi293 rfl hxx10_3 ?_
  refine go_ops aMi293 2 _ (f1 := (13, ([(2, .int x10_3), (0, .ref a0), (1, .int i1)], [.ref a0]))) rfl ?_
  obtain ⟨b13_4, hxb13_4, h⟩ := Option.bind_eq_some_iff.mp h
  refine gg_gR aMi293 rfl rfl rfl hxb13_4 ?_
  refine go_ops aMi293 1 _ (f1 := (17, ([(2, .int x10_3), (0, .ref a0), (1, .int i1)], [.int i1, .ref b13_4]))) rfl ?_
  obtain ⟨r17_5, hxr17_5, h⟩ := Option.bind_eq_some_iff.mp h
  refine gg_cs (as := [.int i1]) (r := [.ref b13_4]) aMi293 rfl rfl rfl aMi235 rfl (Nat.le_of_ble_eq_true rfl) (Nat.le_of_ble_eq_true rfl) (by omega) (Tf235 (by omega) i1 r5_2.2 _ hxr17_5) ?_
  show aGo kad d 293 (20, ([(2, .int x10_3), (0, .ref a0), (1, .int i1)], [.int r17_5.1, .ref b13_4])) (aMem Z r17_5.2, t) _
  refine go_ops aMi293 2 _ (f1 := (22, ([(2, .int x10_3), (0, .ref a0), (1, .int i1)], [.int (r17_5.1 + (2 : Int32)), .ref b13_4]))) rfl ?_
  obtain ⟨x22_6, hxx22_6, h⟩ := Option.bind_eq_some_iff.mp h
  refine gg_lI (Or.inl ⟨rfl, rfl⟩) aMi293 rfl hxx22_6 ?_
  refine go_ops aMi293 2 _ (f1 := (25, ([(3, .int x22_6), (2, .int x10_3), (0, .ref a0), (1, .int i1)], [.ref a0]))) rfl ?_
  obtain ⟨b25_7, hxb25_7, h⟩ := Option.bind_eq_some_iff.mp h
  refine gg_gR aMi293 rfl rfl rfl hxb25_7 ?_
  refine go_ops aMi293 1 _ (f1 := (29, ([(3, .int x22_6), (2, .int x10_3), (0, .ref a0), (1, .int i1)], [.int i1, .ref b25_7]))) rfl ?_
  obtain ⟨r29_8, hxr29_8, h⟩ := Option.bind_eq_some_iff.mp h
  refine gg_cs (as := [.int i1]) (r := [.ref b25_7]) aMi293 rfl rfl rfl aMi235 rfl (Nat.le_of_ble_eq_true rfl) (Nat.le_of_ble_eq_true rfl) (by omega) (Tf235 (by omega) i1 r17_5.2 _ hxr29_8) ?_
  show aGo kad d 293 (32, ([(3, .int x22_6), (2, .int x10_3), (0, .ref a0), (1, .int i1)], [.int r29_8.1, .ref b25_7])) (aMem Z r29_8.2, t) _
  refine go_ops aMi293 2 _ (f1 := (34, ([(3, .int x22_6), (2, .int x10_3), (0, .ref a0), (1, .int i1)], [.int (r29_8.1 + (3 : Int32)), .ref b25_7]))) rfl ?_
  obtain ⟨x34_9, hxx34_9, h⟩ := Option.bind_eq_some_iff.mp h
  refine gg_lI (Or.inl ⟨rfl, rfl⟩) aMi293 rfl hxx34_9 ?_
  refine go_ops aMi293 2 _ (f1 := (38, ([(4, .int x34_9), (3, .int x22_6), (2, .int x10_3), (0, .ref a0), (1, .int i1)], [.ref a0]))) rfl ?_
  obtain ⟨b38_10, hxb38_10, h⟩ := Option.bind_eq_some_iff.mp h
  refine gg_gR aMi293 rfl rfl rfl hxb38_10 ?_
  refine go_ops aMi293 1 _ (f1 := (42, ([(4, .int x34_9), (3, .int x22_6), (2, .int x10_3), (0, .ref a0), (1, .int i1)], [.int i1, .ref b38_10]))) rfl ?_
  obtain ⟨r42_11, hxr42_11, h⟩ := Option.bind_eq_some_iff.mp h
  refine gg_cs (as := [.int i1]) (r := [.ref b38_10]) aMi293 rfl rfl rfl aMi235 rfl (Nat.le_of_ble_eq_true rfl) (Nat.le_of_ble_eq_true rfl) (by omega) (Tf235 (by omega) i1 r29_8.2 _ hxr42_11) ?_
  show aGo kad d 293 (45, ([(4, .int x34_9), (3, .int x22_6), (2, .int x10_3), (0, .ref a0), (1, .int i1)], [.int r42_11.1, .ref b38_10])) (aMem Z r42_11.2, t) _
  obtain ⟨x45_12, hxx45_12, h⟩ := Option.bind_eq_some_iff.mp h
  refine gg_lI (Or.inl ⟨rfl, rfl⟩) aMi293 rfl hxx45_12 ?_
  refine gg_br (b := decide (¬ x45_12 = 0)) (tg := 68) (off := 22) aMi293 rfl rfl rfl rfl (fun hb => ?_) (fun hb => ?_)
  · rw [if_pos (of_decide_eq_true hb)] at h
    refine go_ops aMi293 2 _ (f1 := (71, ([(4, .int x34_9), (3, .int x22_6), (2, .int x10_3), (0, .ref a0), (1, .int i1)], [.int (16 : Int32), .int x10_3]))) rfl ?_
    refine gg_br (b := decide ((16 : Int32) < x10_3)) (tg := 123) (off := 52) aMi293 rfl rfl rfl rfl (fun hb => ?_) (fun hb => ?_)
    · rw [if_pos (of_decide_eq_true hb)] at h
      refine go_le (lv1 := [(0, .ref a0), (1, .int i1), (3, .int x22_6), (4, .int x34_9)]) (aLe_of (show (List.map (fun q => q.1) ([(0, .ref a0), (1, .int i1), (3, .int x22_6), (4, .int x34_9)] : ALv)).Nodup from (by show ([0, 1, 3, 4] : List Nat).Nodup; decide)) (aSubL_cons rfl (aSubL_cons rfl (aSubL_cons rfl (aSubL_cons rfl aSubL_nil))))) ?_
      exact Tf293_b123 hd a0 i1 x22_6 x34_9 r42_11.2 _ h
    · rw [if_neg (of_decide_eq_false hb)] at h
      refine go_ops aMi293 1 _ (f1 := (75, ([(4, .int x34_9), (3, .int x22_6), (2, .int x10_3), (0, .ref a0), (1, .int i1)], [.int x22_6]))) rfl ?_
      refine gg_br (b := decide (x22_6 ≤ 0)) (tg := 82) (off := 7) aMi293 rfl rfl rfl rfl (fun hb => ?_) (fun hb => ?_)
      · rw [if_pos (of_decide_eq_true hb)] at h
        refine go_ops aMi293 1 _ (f1 := (83, ([(4, .int x34_9), (3, .int x22_6), (2, .int x10_3), (0, .ref a0), (1, .int i1)], [.int (0 : Int32)]))) rfl ?_
        refine go_le (lv1 := [(0, .ref a0), (1, .int i1), (2, .int x10_3), (3, .int x22_6), (4, .int x34_9)]) (aLe_of (show (List.map (fun q => q.1) ([(0, .ref a0), (1, .int i1), (2, .int x10_3), (3, .int x22_6), (4, .int x34_9)] : ALv)).Nodup from (by show ([0, 1, 2, 3, 4] : List Nat).Nodup; decide)) (aSubL_cons rfl (aSubL_cons rfl (aSubL_cons rfl (aSubL_cons rfl (aSubL_cons rfl aSubL_nil)))))) ?_
        exact Tf293_b83 hd a0 i1 x10_3 x22_6 x34_9 (0 : Int32) r42_11.2 _ h
      · rw [if_neg (of_decide_eq_false hb)] at h
        refine go_ops aMi293 2 _ (f1 := (83, ([(4, .int x34_9), (3, .int x22_6), (2, .int x10_3), (0, .ref a0), (1, .int i1)], [.int (1 : Int32)]))) rfl ?_
        refine go_le (lv1 := [(0, .ref a0), (1, .int i1), (2, .int x10_3), (3, .int x22_6), (4, .int x34_9)]) (aLe_of (show (List.map (fun q => q.1) ([(0, .ref a0), (1, .int i1), (2, .int x10_3), (3, .int x22_6), (4, .int x34_9)] : ALv)).Nodup from (by show ([0, 1, 2, 3, 4] : List Nat).Nodup; decide)) (aSubL_cons rfl (aSubL_cons rfl (aSubL_cons rfl (aSubL_cons rfl (aSubL_cons rfl aSubL_nil)))))) ?_
        exact Tf293_b83 hd a0 i1 x10_3 x22_6 x34_9 (1 : Int32) r42_11.2 _ h
  · rw [if_neg (of_decide_eq_false hb)] at h
    refine go_ops aMi293 1 _ (f1 := (50, ([(4, .int x34_9), (3, .int x22_6), (2, .int x10_3), (0, .ref a0), (1, .int i1)], [.int x10_3]))) rfl ?_
    refine gg_br (b := decide (¬ x10_3 = 0)) (tg := 66) (off := 16) aMi293 rfl rfl rfl rfl (fun hb => ?_) (fun hb => ?_)
    · rw [if_pos (of_decide_eq_true hb)] at h
      refine go_le (lv1 := []) (aLe_of (show (List.map (fun q => q.1) ([] : ALv)).Nodup from (by show ([] : List Nat).Nodup; decide)) aSubL_nil) ?_
      exact Tf293_b66 hd  r42_11.2 _ h
    · rw [if_neg (of_decide_eq_false hb)] at h
      refine go_ops aMi293 1 _ (f1 := (54, ([(4, .int x34_9), (3, .int x22_6), (2, .int x10_3), (0, .ref a0), (1, .int i1)], [.int x22_6]))) rfl ?_
      refine gg_br (b := decide (¬ x22_6 = 0)) (tg := 66) (off := 12) aMi293 rfl rfl rfl rfl (fun hb => ?_) (fun hb => ?_)
      · rw [if_pos (of_decide_eq_true hb)] at h
        refine go_le (lv1 := []) (aLe_of (show (List.map (fun q => q.1) ([] : ALv)).Nodup from (by show ([] : List Nat).Nodup; decide)) aSubL_nil) ?_
        exact Tf293_b66 hd  r42_11.2 _ h
      · rw [if_neg (of_decide_eq_false hb)] at h
        refine go_ops aMi293 1 _ (f1 := (59, ([(4, .int x34_9), (3, .int x22_6), (2, .int x10_3), (0, .ref a0), (1, .int i1)], [.int x34_9]))) rfl ?_
        refine gg_br (b := decide (¬ x34_9 = 0)) (tg := 66) (off := 7) aMi293 rfl rfl rfl rfl (fun hb => ?_) (fun hb => ?_)
        · rw [if_pos (of_decide_eq_true hb)] at h
          refine go_le (lv1 := []) (aLe_of (show (List.map (fun q => q.1) ([] : ALv)).Nodup from (by show ([] : List Nat).Nodup; decide)) aSubL_nil) ?_
          exact Tf293_b66 hd  r42_11.2 _ h
        · rw [if_neg (of_decide_eq_false hb)] at h
          refine go_ops aMi293 2 _ (f1 := (67, ([(4, .int x34_9), (3, .int x22_6), (2, .int x10_3), (0, .ref a0), (1, .int i1)], [.int (1 : Int32)]))) rfl ?_
          refine go_le (lv1 := []) (aLe_of (show (List.map (fun q => q.1) ([] : ALv)).Nodup from (by show ([] : List Nat).Nodup; decide)) aSubL_nil) ?_
          exact Tf293_b67 hd (1 : Int32) r42_11.2 _ h
-- KernelGymModel.isWholeNow ()Z
def f294_b98 (kad : Nat → Nat) (N : Nat) (Z : AZ) (k21 : Nat → Int32 → Int32 → Int32 → AI → Option (Int32 × AI)) (k40 : Nat → Int32 → Int32 → Int32 → Int32 → AI → Option (Int32 × AI)) (a0 : Nat) (i2 : Int32) (i3 : Int32) (i4 : Int32) (s0 : Int32) (s1 : Int32) (I : AI) : Option (Int32 × AI) :=
  k40 a0 (s1 ||| s0) i2 i3 (i4 + (1 : Int32)) I
set_option maxRecDepth 20000 in
theorem Tf294_b98 {kad : Nat → Nat} {N : Nat} {Z : AZ} {d : Nat} {t : Option Nat × (Nat × Nat)} (hd : 3 ≤ d) (k21 : Nat → Int32 → Int32 → Int32 → AI → Option (Int32 × AI))  (k40 : Nat → Int32 → Int32 → Int32 → Int32 → AI → Option (Int32 × AI))  (hk21 : ∀ (a0 : Nat) (i1 : Int32) (i2 : Int32) (i3 : Int32)  (I : AI) (r : Int32 × AI), k21 a0 i1 i2 i3 I = some r → aGo kad d 294 (21, ([(0, .ref a0), (1, .int i1), (2, .int i2), (3, .int i3)], [])) (aMem Z I, t) (qI Z t r)) (hk40 : ∀ (a0 : Nat) (i1 : Int32) (i2 : Int32) (i3 : Int32) (i4 : Int32)  (I : AI) (r : Int32 × AI), k40 a0 i1 i2 i3 i4 I = some r → aGo kad d 294 (40, ([(0, .ref a0), (1, .int i1), (2, .int i2), (3, .int i3), (4, .int i4)], [])) (aMem Z I, t) (qI Z t r)) : ∀ (a0 : Nat) (i2 : Int32) (i3 : Int32) (i4 : Int32) (s0 : Int32) (s1 : Int32) (I : AI) (r : Int32 × AI), f294_b98 kad N Z k21 k40 a0 i2 i3 i4 s0 s1 I = some r → aGo kad d 294 (98, ([(0, .ref a0), (2, .int i2), (3, .int i3), (4, .int i4)], [.int s0, .int s1])) (aMem Z I, t) (qI Z t r) := by
  intro a0 i2 i3 i4 s0 s1 I r h
  unfold f294_b98 at h
  refine go_ops aMi294 4 _ (f1 := (40, ([(4, .int (i4 + (1 : Int32))), (1, .int (s1 ||| s0)), (0, .ref a0), (2, .int i2), (3, .int i3)], []))) rfl ?_
  refine go_le (lv1 := [(0, .ref a0), (1, .int (s1 ||| s0)), (2, .int i2), (3, .int i3), (4, .int (i4 + (1 : Int32)))]) (aLe_of (show (List.map (fun q => q.1) ([(0, .ref a0), (1, .int (s1 ||| s0)), (2, .int i2), (3, .int i3), (4, .int (i4 + (1 : Int32)))] : ALv)).Nodup from (by show ([0, 1, 2, 3, 4] : List Nat).Nodup; decide)) (aSubL_cons rfl (aSubL_cons rfl (aSubL_cons rfl (aSubL_cons rfl (aSubL_cons rfl aSubL_nil)))))) ?_
  exact hk40 a0 (s1 ||| s0) i2 i3 (i4 + (1 : Int32)) I _ h
def f294_b83 (kad : Nat → Nat) (N : Nat) (Z : AZ) (k21 : Nat → Int32 → Int32 → Int32 → AI → Option (Int32 × AI)) (k40 : Nat → Int32 → Int32 → Int32 → Int32 → AI → Option (Int32 × AI)) (a0 : Nat) (i1 : Int32) (i3 : Int32) (i4 : Int32) (i5 : Int32) (s0 : Int32) (I : AI) : Option (Int32 × AI) :=
  if ¬ i5 = 0 then
    f294_b98 kad N Z k21 k40 a0 s0 i3 i4 ((1 : Int32) <<< (i5 &&& 31)) i1 I
  else
    f294_b98 kad N Z k21 k40 a0 s0 i3 i4 (0 : Int32) i1 I
set_option maxRecDepth 20000 in
theorem Tf294_b83 {kad : Nat → Nat} {N : Nat} {Z : AZ} {d : Nat} {t : Option Nat × (Nat × Nat)} (hd : 3 ≤ d) (k21 : Nat → Int32 → Int32 → Int32 → AI → Option (Int32 × AI))  (k40 : Nat → Int32 → Int32 → Int32 → Int32 → AI → Option (Int32 × AI))  (hk21 : ∀ (a0 : Nat) (i1 : Int32) (i2 : Int32) (i3 : Int32)  (I : AI) (r : Int32 × AI), k21 a0 i1 i2 i3 I = some r → aGo kad d 294 (21, ([(0, .ref a0), (1, .int i1), (2, .int i2), (3, .int i3)], [])) (aMem Z I, t) (qI Z t r)) (hk40 : ∀ (a0 : Nat) (i1 : Int32) (i2 : Int32) (i3 : Int32) (i4 : Int32)  (I : AI) (r : Int32 × AI), k40 a0 i1 i2 i3 i4 I = some r → aGo kad d 294 (40, ([(0, .ref a0), (1, .int i1), (2, .int i2), (3, .int i3), (4, .int i4)], [])) (aMem Z I, t) (qI Z t r)) : ∀ (a0 : Nat) (i1 : Int32) (i3 : Int32) (i4 : Int32) (i5 : Int32) (s0 : Int32) (I : AI) (r : Int32 × AI), f294_b83 kad N Z k21 k40 a0 i1 i3 i4 i5 s0 I = some r → aGo kad d 294 (83, ([(0, .ref a0), (1, .int i1), (3, .int i3), (4, .int i4), (5, .int i5)], [.int s0])) (aMem Z I, t) (qI Z t r) := by
  intro a0 i1 i3 i4 i5 s0 I r h
  unfold f294_b83 at h
  refine go_ops aMi294 3 _ (f1 := (87, ([(2, .int s0), (0, .ref a0), (1, .int i1), (3, .int i3), (4, .int i4), (5, .int i5)], [.int i5, .int i1]))) rfl ?_
  refine gg_br (b := decide (¬ i5 = 0)) (tg := 94) (off := 7) aMi294 rfl rfl rfl rfl (fun hb => ?_) (fun hb => ?_)
  · rw [if_pos (of_decide_eq_true hb)] at h
    refine go_ops aMi294 3 _ (f1 := (98, ([(2, .int s0), (0, .ref a0), (1, .int i1), (3, .int i3), (4, .int i4), (5, .int i5)], [.int ((1 : Int32) <<< (i5 &&& 31)), .int i1]))) rfl ?_
    refine go_le (lv1 := [(0, .ref a0), (2, .int s0), (3, .int i3), (4, .int i4)]) (aLe_of (show (List.map (fun q => q.1) ([(0, .ref a0), (2, .int s0), (3, .int i3), (4, .int i4)] : ALv)).Nodup from (by show ([0, 2, 3, 4] : List Nat).Nodup; decide)) (aSubL_cons rfl (aSubL_cons rfl (aSubL_cons rfl (aSubL_cons rfl aSubL_nil))))) ?_
    exact Tf294_b98 hd k21 k40 hk21 hk40 a0 s0 i3 i4 ((1 : Int32) <<< (i5 &&& 31)) i1 I _ h
  · rw [if_neg (of_decide_eq_false hb)] at h
    refine go_ops aMi294 2 _ (f1 := (98, ([(2, .int s0), (0, .ref a0), (1, .int i1), (3, .int i3), (4, .int i4), (5, .int i5)], [.int (0 : Int32), .int i1]))) rfl ?_
    refine go_le (lv1 := [(0, .ref a0), (2, .int s0), (3, .int i3), (4, .int i4)]) (aLe_of (show (List.map (fun q => q.1) ([(0, .ref a0), (2, .int s0), (3, .int i3), (4, .int i4)] : ALv)).Nodup from (by show ([0, 2, 3, 4] : List Nat).Nodup; decide)) (aSubL_cons rfl (aSubL_cons rfl (aSubL_cons rfl (aSubL_cons rfl aSubL_nil))))) ?_
    exact Tf294_b98 hd k21 k40 hk21 hk40 a0 s0 i3 i4 (0 : Int32) i1 I _ h
def f294_b78 (kad : Nat → Nat) (N : Nat) (Z : AZ) (k21 : Nat → Int32 → Int32 → Int32 → AI → Option (Int32 × AI)) (k40 : Nat → Int32 → Int32 → Int32 → Int32 → AI → Option (Int32 × AI)) (a0 : Nat) (i1 : Int32) (i3 : Int32) (i4 : Int32) (i5 : Int32) (I : AI) : Option (Int32 × AI) :=
  f294_b83 kad N Z k21 k40 a0 i1 i3 i4 i5 (1 : Int32) I
set_option maxRecDepth 20000 in
theorem Tf294_b78 {kad : Nat → Nat} {N : Nat} {Z : AZ} {d : Nat} {t : Option Nat × (Nat × Nat)} (hd : 3 ≤ d) (k21 : Nat → Int32 → Int32 → Int32 → AI → Option (Int32 × AI))  (k40 : Nat → Int32 → Int32 → Int32 → Int32 → AI → Option (Int32 × AI))  (hk21 : ∀ (a0 : Nat) (i1 : Int32) (i2 : Int32) (i3 : Int32)  (I : AI) (r : Int32 × AI), k21 a0 i1 i2 i3 I = some r → aGo kad d 294 (21, ([(0, .ref a0), (1, .int i1), (2, .int i2), (3, .int i3)], [])) (aMem Z I, t) (qI Z t r)) (hk40 : ∀ (a0 : Nat) (i1 : Int32) (i2 : Int32) (i3 : Int32) (i4 : Int32)  (I : AI) (r : Int32 × AI), k40 a0 i1 i2 i3 i4 I = some r → aGo kad d 294 (40, ([(0, .ref a0), (1, .int i1), (2, .int i2), (3, .int i3), (4, .int i4)], [])) (aMem Z I, t) (qI Z t r)) : ∀ (a0 : Nat) (i1 : Int32) (i3 : Int32) (i4 : Int32) (i5 : Int32) (I : AI) (r : Int32 × AI), f294_b78 kad N Z k21 k40 a0 i1 i3 i4 i5 I = some r → aGo kad d 294 (78, ([(0, .ref a0), (1, .int i1), (3, .int i3), (4, .int i4), (5, .int i5)], [])) (aMem Z I, t) (qI Z t r) := by
  intro a0 i1 i3 i4 i5 I r h
  unfold f294_b78 at h
  refine go_ops aMi294 2 _ (f1 := (83, ([(0, .ref a0), (1, .int i1), (3, .int i3), (4, .int i4), (5, .int i5)], [.int (1 : Int32)]))) rfl ?_
  exact Tf294_b83 hd k21 k40 hk21 hk40 a0 i1 i3 i4 i5 (1 : Int32) I _ h
def f294_b106 (kad : Nat → Nat) (N : Nat) (Z : AZ) (k21 : Nat → Int32 → Int32 → Int32 → AI → Option (Int32 × AI)) (a0 : Nat) (i1 : Int32) (i2 : Int32) (i3 : Int32) (I : AI) : Option (Int32 × AI) :=
  k21 a0 i1 i2 (i3 + (1 : Int32)) I
set_option maxRecDepth 20000 in
theorem Tf294_b106 {kad : Nat → Nat} {N : Nat} {Z : AZ} {d : Nat} {t : Option Nat × (Nat × Nat)} (hd : 3 ≤ d) (k21 : Nat → Int32 → Int32 → Int32 → AI → Option (Int32 × AI))  (hk21 : ∀ (a0 : Nat) (i1 : Int32) (i2 : Int32) (i3 : Int32)  (I : AI) (r : Int32 × AI), k21 a0 i1 i2 i3 I = some r → aGo kad d 294 (21, ([(0, .ref a0), (1, .int i1), (2, .int i2), (3, .int i3)], [])) (aMem Z I, t) (qI Z t r)) : ∀ (a0 : Nat) (i1 : Int32) (i2 : Int32) (i3 : Int32) (I : AI) (r : Int32 × AI), f294_b106 kad N Z k21 a0 i1 i2 i3 I = some r → aGo kad d 294 (106, ([(0, .ref a0), (1, .int i1), (2, .int i2), (3, .int i3)], [])) (aMem Z I, t) (qI Z t r) := by
  intro a0 i1 i2 i3 I r h
  unfold f294_b106 at h
  refine go_ops aMi294 2 _ (f1 := (21, ([(3, .int (i3 + (1 : Int32))), (0, .ref a0), (1, .int i1), (2, .int i2)], []))) rfl ?_
  refine go_le (lv1 := [(0, .ref a0), (1, .int i1), (2, .int i2), (3, .int (i3 + (1 : Int32)))]) (aLe_of (show (List.map (fun q => q.1) ([(0, .ref a0), (1, .int i1), (2, .int i2), (3, .int (i3 + (1 : Int32)))] : ALv)).Nodup from (by show ([0, 1, 2, 3] : List Nat).Nodup; decide)) (aSubL_cons rfl (aSubL_cons rfl (aSubL_cons rfl (aSubL_cons rfl aSubL_nil))))) ?_
  exact hk21 a0 i1 i2 (i3 + (1 : Int32)) I _ h
def f294_b40 (kad : Nat → Nat) (N : Nat) (Z : AZ) (k21 : Nat → Int32 → Int32 → Int32 → AI → Option (Int32 × AI)) : Nat → Nat → Int32 → Int32 → Int32 → Int32 → AI → Option (Int32 × AI)
  | 0, _, _, _, _, _, _ => none
  | F + 1, a0, i1, i2, i3, i4, I =>
    if (4 : Int32) ≤ i4 then
      f294_b106 kad N Z k21 a0 i1 i2 i3 I
    else
      if i2 = 0 then
        f294_b106 kad N Z k21 a0 i1 i2 i3 I
      else
        (gR Z I 11 50 a0).bind fun b51_1 =>
        (f235 kad N Z i3 I).bind fun r55_2 =>
        (lI Z r55_2.2 100 b51_1 (r55_2.1 + i4)).bind fun x61_3 =>
        if x61_3 = 0 then
          f294_b78 kad N Z k21 (fun p0 p1 p2 p3 p4 I => f294_b40 kad N Z k21 F p0 p1 p2 p3 p4 I) a0 i1 i3 i4 x61_3 r55_2.2
        else
          if ¬ ((i1 >>> (x61_3 &&& 31)) &&& (1 : Int32)) = 0 then
            f294_b83 kad N Z k21 (fun p0 p1 p2 p3 p4 I => f294_b40 kad N Z k21 F p0 p1 p2 p3 p4 I) a0 i1 i3 i4 x61_3 (0 : Int32) r55_2.2
          else
            f294_b78 kad N Z k21 (fun p0 p1 p2 p3 p4 I => f294_b40 kad N Z k21 F p0 p1 p2 p3 p4 I) a0 i1 i3 i4 x61_3 r55_2.2
set_option maxRecDepth 20000 in
theorem Tf294_b40 {kad : Nat → Nat} {N : Nat} {Z : AZ} {d : Nat} {t : Option Nat × (Nat × Nat)} (hd : 3 ≤ d) (k21 : Nat → Int32 → Int32 → Int32 → AI → Option (Int32 × AI))  (hk21 : ∀ (a0 : Nat) (i1 : Int32) (i2 : Int32) (i3 : Int32)  (I : AI) (r : Int32 × AI), k21 a0 i1 i2 i3 I = some r → aGo kad d 294 (21, ([(0, .ref a0), (1, .int i1), (2, .int i2), (3, .int i3)], [])) (aMem Z I, t) (qI Z t r)) : ∀ (F : Nat) (a0 : Nat) (i1 : Int32) (i2 : Int32) (i3 : Int32) (i4 : Int32) (I : AI) (r : Int32 × AI), f294_b40 kad N Z k21 F a0 i1 i2 i3 i4 I = some r → aGo kad d 294 (40, ([(0, .ref a0), (1, .int i1), (2, .int i2), (3, .int i3), (4, .int i4)], [])) (aMem Z I, t) (qI Z t r) := by
  intro F
  induction F with
  | zero => intro a0 i1 i2 i3 i4 I r h; cases h
  | succ F ih =>
    intro a0 i1 i2 i3 i4 I r h
    unfold f294_b40 at h
    refine go_ops aMi294 2 _ (f1 := (43, ([(0, .ref a0), (1, .int i1), (2, .int i2), (3, .int i3), (4, .int i4)], [.int (4 : Int32), .int i4]))) rfl ?_
    refine gg_br (b := decide ((4 : Int32) ≤ i4)) (tg := 106) (off := 63) aMi294 rfl rfl rfl rfl (fun hb => ?_) (fun hb => ?_)
    · rw [if_pos (of_decide_eq_true hb)] at h
      refine go_le (lv1 := [(0, .ref a0), (1, .int i1), (2, .int i2), (3, .int i3)]) (aLe_of (show (List.map (fun q => q.1) ([(0, .ref a0), (1, .int i1), (2, .int i2), (3, .int i3)] : ALv)).Nodup from (by show ([0, 1, 2, 3] : List Nat).Nodup; decide)) (aSubL_cons rfl (aSubL_cons rfl (aSubL_cons rfl (aSubL_cons rfl aSubL_nil))))) ?_
      exact Tf294_b106 hd k21 hk21 a0 i1 i2 i3 I _ h
    · rw [if_neg (of_decide_eq_false hb)] at h
      refine go_ops aMi294 1 _ (f1 := (47, ([(0, .ref a0), (1, .int i1), (2, .int i2), (3, .int i3), (4, .int i4)], [.int i2]))) rfl ?_
      refine gg_br (b := decide (i2 = 0)) (tg := 106) (off := 59) aMi294 rfl rfl rfl rfl (fun hb => ?_) (fun hb => ?_)
      · rw [if_pos (of_decide_eq_true hb)] at h
        refine go_le (lv1 := [(0, .ref a0), (1, .int i1), (2, .int i2), (3, .int i3)]) (aLe_of (show (List.map (fun q => q.1) ([(0, .ref a0), (1, .int i1), (2, .int i2), (3, .int i3)] : ALv)).Nodup from (by show ([0, 1, 2, 3] : List Nat).Nodup; decide)) (aSubL_cons rfl (aSubL_cons rfl (aSubL_cons rfl (aSubL_cons rfl aSubL_nil))))) ?_
        exact Tf294_b106 hd k21 hk21 a0 i1 i2 i3 I _ h
      · rw [if_neg (of_decide_eq_false hb)] at h
        refine go_ops aMi294 1 _ (f1 := (51, ([(0, .ref a0), (1, .int i1), (2, .int i2), (3, .int i3), (4, .int i4)], [.ref a0]))) rfl ?_
        obtain ⟨b51_1, hxb51_1, h⟩ := Option.bind_eq_some_iff.mp h
        refine gg_gR aMi294 rfl rfl rfl hxb51_1 ?_
        refine go_ops aMi294 1 _ (f1 := (55, ([(0, .ref a0), (1, .int i1), (2, .int i2), (3, .int i3), (4, .int i4)], [.int i3, .ref b51_1]))) rfl ?_
        obtain ⟨r55_2, hxr55_2, h⟩ := Option.bind_eq_some_iff.mp h
        refine gg_cs (as := [.int i3]) (r := [.ref b51_1]) aMi294 rfl rfl rfl aMi235 rfl (Nat.le_of_ble_eq_true rfl) (Nat.le_of_ble_eq_true rfl) (by omega) (Tf235 (by omega) i3 I _ hxr55_2) ?_
        show aGo kad d 294 (58, ([(0, .ref a0), (1, .int i1), (2, .int i2), (3, .int i3), (4, .int i4)], [.int r55_2.1, .ref b51_1])) (aMem Z r55_2.2, t) _
        refine go_ops aMi294 2 _ (f1 := (61, ([(0, .ref a0), (1, .int i1), (2, .int i2), (3, .int i3), (4, .int i4)], [.int (r55_2.1 + i4), .ref b51_1]))) rfl ?_
        obtain ⟨x61_3, hxx61_3, h⟩ := Option.bind_eq_some_iff.mp h
        refine gg_lI (Or.inl ⟨rfl, rfl⟩) aMi294 rfl hxx61_3 ?_
        refine go_ops aMi294 2 _ (f1 := (66, ([(5, .int x61_3), (0, .ref a0), (1, .int i1), (2, .int i2), (3, .int i3), (4, .int i4)], [.int x61_3]))) rfl ?_
        refine gg_br (b := decide (x61_3 = 0)) (tg := 78) (off := 12) aMi294 rfl rfl rfl rfl (fun hb => ?_) (fun hb => ?_)
        · rw [if_pos (of_decide_eq_true hb)] at h
          refine go_le (lv1 := [(0, .ref a0), (1, .int i1), (3, .int i3), (4, .int i4), (5, .int x61_3)]) (aLe_of (show (List.map (fun q => q.1) ([(0, .ref a0), (1, .int i1), (3, .int i3), (4, .int i4), (5, .int x61_3)] : ALv)).Nodup from (by show ([0, 1, 3, 4, 5] : List Nat).Nodup; decide)) (aSubL_cons rfl (aSubL_cons rfl (aSubL_cons rfl (aSubL_cons rfl (aSubL_cons rfl aSubL_nil)))))) ?_
          exact Tf294_b78 hd k21 (fun p0 p1 p2 p3 p4 I => f294_b40 kad N Z k21 F p0 p1 p2 p3 p4 I) hk21 (fun p0 p1 p2 p3 p4 I r hh => ih p0 p1 p2 p3 p4 I r hh) a0 i1 i3 i4 x61_3 r55_2.2 _ h
        · rw [if_neg (of_decide_eq_false hb)] at h
          refine go_ops aMi294 5 _ (f1 := (75, ([(5, .int x61_3), (0, .ref a0), (1, .int i1), (2, .int i2), (3, .int i3), (4, .int i4)], [.int ((i1 >>> (x61_3 &&& 31)) &&& (1 : Int32))]))) rfl ?_
          refine gg_br (b := decide (¬ ((i1 >>> (x61_3 &&& 31)) &&& (1 : Int32)) = 0)) (tg := 82) (off := 7) aMi294 rfl rfl rfl rfl (fun hb => ?_) (fun hb => ?_)
          · rw [if_pos (of_decide_eq_true hb)] at h
            refine go_ops aMi294 1 _ (f1 := (83, ([(5, .int x61_3), (0, .ref a0), (1, .int i1), (2, .int i2), (3, .int i3), (4, .int i4)], [.int (0 : Int32)]))) rfl ?_
            refine go_le (lv1 := [(0, .ref a0), (1, .int i1), (3, .int i3), (4, .int i4), (5, .int x61_3)]) (aLe_of (show (List.map (fun q => q.1) ([(0, .ref a0), (1, .int i1), (3, .int i3), (4, .int i4), (5, .int x61_3)] : ALv)).Nodup from (by show ([0, 1, 3, 4, 5] : List Nat).Nodup; decide)) (aSubL_cons rfl (aSubL_cons rfl (aSubL_cons rfl (aSubL_cons rfl (aSubL_cons rfl aSubL_nil)))))) ?_
            exact Tf294_b83 hd k21 (fun p0 p1 p2 p3 p4 I => f294_b40 kad N Z k21 F p0 p1 p2 p3 p4 I) hk21 (fun p0 p1 p2 p3 p4 I r hh => ih p0 p1 p2 p3 p4 I r hh) a0 i1 i3 i4 x61_3 (0 : Int32) r55_2.2 _ h
          · rw [if_neg (of_decide_eq_false hb)] at h
            refine go_le (lv1 := [(0, .ref a0), (1, .int i1), (3, .int i3), (4, .int i4), (5, .int x61_3)]) (aLe_of (show (List.map (fun q => q.1) ([(0, .ref a0), (1, .int i1), (3, .int i3), (4, .int i4), (5, .int x61_3)] : ALv)).Nodup from (by show ([0, 1, 3, 4, 5] : List Nat).Nodup; decide)) (aSubL_cons rfl (aSubL_cons rfl (aSubL_cons rfl (aSubL_cons rfl (aSubL_cons rfl aSubL_nil)))))) ?_
            exact Tf294_b78 hd k21 (fun p0 p1 p2 p3 p4 I => f294_b40 kad N Z k21 F p0 p1 p2 p3 p4 I) hk21 (fun p0 p1 p2 p3 p4 I r hh => ih p0 p1 p2 p3 p4 I r hh) a0 i1 i3 i4 x61_3 r55_2.2 _ h
def f294_b149 (kad : Nat → Nat) (N : Nat) (Z : AZ) (s0 : Int32) (I : AI) : Option (Int32 × AI) :=
  if s0 = 0 ∨ s0 = 1 then some (s0, I) else none
set_option maxRecDepth 20000 in
theorem Tf294_b149 {kad : Nat → Nat} {N : Nat} {Z : AZ} {d : Nat} {t : Option Nat × (Nat × Nat)} (hd : 3 ≤ d) : ∀ (s0 : Int32) (I : AI) (r : Int32 × AI), f294_b149 kad N Z s0 I = some r → aGo kad d 294 (149, ([], [.int s0])) (aMem Z I, t) (qI Z t r) := by
  intro s0 I r h
  unfold f294_b149 at h
  split at h
  · rename_i hz
    cases h
    exact go_ret aMi294 rfl (aRetZ hz) ⟨rfl, rfl⟩
  · cases h
def f294_b148 (kad : Nat → Nat) (N : Nat) (Z : AZ)  (I : AI) : Option (Int32 × AI) :=
  f294_b149 kad N Z (0 : Int32) I
set_option maxRecDepth 20000 in
theorem Tf294_b148 {kad : Nat → Nat} {N : Nat} {Z : AZ} {d : Nat} {t : Option Nat × (Nat × Nat)} (hd : 3 ≤ d) : ∀  (I : AI) (r : Int32 × AI), f294_b148 kad N Z  I = some r → aGo kad d 294 (148, ([], [])) (aMem Z I, t) (qI Z t r) := by
  intro  I r h
  unfold f294_b148 at h
  refine go_ops aMi294 1 _ (f1 := (149, ([], [.int (0 : Int32)]))) rfl ?_
  exact Tf294_b149 hd (0 : Int32) I _ h
def f294_b112 (kad : Nat → Nat) (N : Nat) (Z : AZ) (a0 : Nat) (i1 : Int32) (i2 : Int32) (I : AI) : Option (Int32 × AI) :=
  if i2 = 0 then
    f294_b148 kad N Z  I
  else
    (gR Z I 11 50 a0).bind fun b117_1 =>
    (lI Z I 100 b117_1 (32 : Int32)).bind fun x122_2 =>
    if ¬ x122_2 = (i1 &&& (65535 : Int32)) then
      f294_b148 kad N Z  I
    else
      (gR Z I 11 50 a0).bind fun b131_3 =>
      (lI Z I 100 b131_3 (33 : Int32)).bind fun x136_4 =>
      if ¬ x136_4 = ((i1.toUInt32 >>> ((16 : Int32).toUInt32 &&& Int32.toUInt32 31)).toInt32) then
        f294_b148 kad N Z  I
      else
        f294_b149 kad N Z (1 : Int32) I
set_option maxRecDepth 20000 in
theorem Tf294_b112 {kad : Nat → Nat} {N : Nat} {Z : AZ} {d : Nat} {t : Option Nat × (Nat × Nat)} (hd : 3 ≤ d) : ∀ (a0 : Nat) (i1 : Int32) (i2 : Int32) (I : AI) (r : Int32 × AI), f294_b112 kad N Z a0 i1 i2 I = some r → aGo kad d 294 (112, ([(0, .ref a0), (1, .int i1), (2, .int i2)], [])) (aMem Z I, t) (qI Z t r) := by
  intro a0 i1 i2 I r h
  unfold f294_b112 at h
  refine go_ops aMi294 1 _ (f1 := (113, ([(0, .ref a0), (1, .int i1), (2, .int i2)], [.int i2]))) rfl ?_
  refine gg_br (b := decide (i2 = 0)) (tg := 148) (off := 35) aMi294 rfl rfl rfl rfl (fun hb => ?_) (fun hb => ?_)
  · rw [if_pos (of_decide_eq_true hb)] at h
    refine go_le (lv1 := []) (aLe_of (show (List.map (fun q => q.1) ([] : ALv)).Nodup from (by show ([] : List Nat).Nodup; decide)) aSubL_nil) ?_
    exact Tf294_b148 hd  I _ h
  · rw [if_neg (of_decide_eq_false hb)] at h
    refine go_ops aMi294 1 _ (f1 := (117, ([(0, .ref a0), (1, .int i1), (2, .int i2)], [.ref a0]))) rfl ?_
    obtain ⟨b117_1, hxb117_1, h⟩ := Option.bind_eq_some_iff.mp h
    refine gg_gR aMi294 rfl rfl rfl hxb117_1 ?_
    refine go_ops aMi294 1 _ (f1 := (122, ([(0, .ref a0), (1, .int i1), (2, .int i2)], [.int (32 : Int32), .ref b117_1]))) rfl ?_
    obtain ⟨x122_2, hxx122_2, h⟩ := Option.bind_eq_some_iff.mp h
    refine gg_lI (Or.inl ⟨rfl, rfl⟩) aMi294 rfl hxx122_2 ?_
    refine go_ops aMi294 1 _ (f1 := (124, ([(0, .ref a0), (1, .int i1), (2, .int i2)], [.int i1, .int x122_2]))) rfl ?_
    refine gg_kI (Or.inl ⟨rfl, rfl⟩) aMi294 rfl rfl ?_
    refine go_ops aMi294 1 _ (f1 := (127, ([(0, .ref a0), (1, .int i1), (2, .int i2)], [.int (i1 &&& (65535 : Int32)), .int x122_2]))) rfl ?_
    refine gg_br (b := decide (¬ x122_2 = (i1 &&& (65535 : Int32)))) (tg := 148) (off := 21) aMi294 rfl rfl rfl rfl (fun hb => ?_) (fun hb => ?_)
    · rw [if_pos (of_decide_eq_true hb)] at h
      refine go_le (lv1 := []) (aLe_of (show (List.map (fun q => q.1) ([] : ALv)).Nodup from (by show ([] : List Nat).Nodup; decide)) aSubL_nil) ?_
      exact Tf294_b148 hd  I _ h
    · rw [if_neg (of_decide_eq_false hb)] at h
      refine go_ops aMi294 1 _ (f1 := (131, ([(0, .ref a0), (1, .int i1), (2, .int i2)], [.ref a0]))) rfl ?_
      obtain ⟨b131_3, hxb131_3, h⟩ := Option.bind_eq_some_iff.mp h
      refine gg_gR aMi294 rfl rfl rfl hxb131_3 ?_
      refine go_ops aMi294 1 _ (f1 := (136, ([(0, .ref a0), (1, .int i1), (2, .int i2)], [.int (33 : Int32), .ref b131_3]))) rfl ?_
      obtain ⟨x136_4, hxx136_4, h⟩ := Option.bind_eq_some_iff.mp h
      refine gg_lI (Or.inl ⟨rfl, rfl⟩) aMi294 rfl hxx136_4 ?_
      refine go_ops aMi294 3 _ (f1 := (141, ([(0, .ref a0), (1, .int i1), (2, .int i2)], [.int ((i1.toUInt32 >>> ((16 : Int32).toUInt32 &&& Int32.toUInt32 31)).toInt32), .int x136_4]))) rfl ?_
      refine gg_br (b := decide (¬ x136_4 = ((i1.toUInt32 >>> ((16 : Int32).toUInt32 &&& Int32.toUInt32 31)).toInt32))) (tg := 148) (off := 7) aMi294 rfl rfl rfl rfl (fun hb => ?_) (fun hb => ?_)
      · rw [if_pos (of_decide_eq_true hb)] at h
        refine go_le (lv1 := []) (aLe_of (show (List.map (fun q => q.1) ([] : ALv)).Nodup from (by show ([] : List Nat).Nodup; decide)) aSubL_nil) ?_
        exact Tf294_b148 hd  I _ h
      · rw [if_neg (of_decide_eq_false hb)] at h
        refine go_ops aMi294 2 _ (f1 := (149, ([(0, .ref a0), (1, .int i1), (2, .int i2)], [.int (1 : Int32)]))) rfl ?_
        refine go_le (lv1 := []) (aLe_of (show (List.map (fun q => q.1) ([] : ALv)).Nodup from (by show ([] : List Nat).Nodup; decide)) aSubL_nil) ?_
        exact Tf294_b149 hd (1 : Int32) I _ h
def f294_b21 (kad : Nat → Nat) (N : Nat) (Z : AZ) : Nat → Nat → Int32 → Int32 → Int32 → AI → Option (Int32 × AI)
  | 0, _, _, _, _, _ => none
  | F + 1, a0, i1, i2, i3, I =>
    if (6 : Int32) ≤ i3 then
      f294_b112 kad N Z a0 i1 i2 I
    else
      if i2 = 0 then
        f294_b112 kad N Z a0 i1 i2 I
      else
        (isK Z a0 11).bind fun u33_1 =>
        (f293 kad N Z a0 i3 I).bind fun r33_2 =>
        f294_b40 kad N Z (fun p0 p1 p2 p3 I => f294_b21 kad N Z F p0 p1 p2 p3 I) N a0 i1 r33_2.1 i3 (2 : Int32) r33_2.2
set_option maxRecDepth 20000 in
theorem Tf294_b21 {kad : Nat → Nat} {N : Nat} {Z : AZ} {d : Nat} {t : Option Nat × (Nat × Nat)} (hd : 3 ≤ d) : ∀ (F : Nat) (a0 : Nat) (i1 : Int32) (i2 : Int32) (i3 : Int32) (I : AI) (r : Int32 × AI), f294_b21 kad N Z F a0 i1 i2 i3 I = some r → aGo kad d 294 (21, ([(0, .ref a0), (1, .int i1), (2, .int i2), (3, .int i3)], [])) (aMem Z I, t) (qI Z t r) := by
  intro F
  induction F with
  | zero => intro a0 i1 i2 i3 I r h; cases h
  | succ F ih =>
    intro a0 i1 i2 i3 I r h
    unfold f294_b21 at h
    refine go_ops aMi294 2 _ (f1 := (24, ([(0, .ref a0), (1, .int i1), (2, .int i2), (3, .int i3)], [.int (6 : Int32), .int i3]))) rfl ?_
    refine gg_br (b := decide ((6 : Int32) ≤ i3)) (tg := 112) (off := 88) aMi294 rfl rfl rfl rfl (fun hb => ?_) (fun hb => ?_)
    · rw [if_pos (of_decide_eq_true hb)] at h
      refine go_le (lv1 := [(0, .ref a0), (1, .int i1), (2, .int i2)]) (aLe_of (show (List.map (fun q => q.1) ([(0, .ref a0), (1, .int i1), (2, .int i2)] : ALv)).Nodup from (by show ([0, 1, 2] : List Nat).Nodup; decide)) (aSubL_cons rfl (aSubL_cons rfl (aSubL_cons rfl aSubL_nil)))) ?_
      exact Tf294_b112 hd a0 i1 i2 I _ h
    · rw [if_neg (of_decide_eq_false hb)] at h
      refine go_ops aMi294 1 _ (f1 := (28, ([(0, .ref a0), (1, .int i1), (2, .int i2), (3, .int i3)], [.int i2]))) rfl ?_
      refine gg_br (b := decide (i2 = 0)) (tg := 112) (off := 84) aMi294 rfl rfl rfl rfl (fun hb => ?_) (fun hb => ?_)
      · rw [if_pos (of_decide_eq_true hb)] at h
        refine go_le (lv1 := [(0, .ref a0), (1, .int i1), (2, .int i2)]) (aLe_of (show (List.map (fun q => q.1) ([(0, .ref a0), (1, .int i1), (2, .int i2)] : ALv)).Nodup from (by show ([0, 1, 2] : List Nat).Nodup; decide)) (aSubL_cons rfl (aSubL_cons rfl (aSubL_cons rfl aSubL_nil)))) ?_
        exact Tf294_b112 hd a0 i1 i2 I _ h
      · rw [if_neg (of_decide_eq_false hb)] at h
        refine go_ops aMi294 2 _ (f1 := (33, ([(0, .ref a0), (1, .int i1), (2, .int i2), (3, .int i3)], [.int i3, .ref a0]))) rfl ?_
        obtain ⟨u33_1, hxu33_1, h⟩ := Option.bind_eq_some_iff.mp h
        obtain ⟨r33_2, hxr33_2, h⟩ := Option.bind_eq_some_iff.mp h
        refine gg_cv (as := [.int i3]) (r := []) aMi294 rfl rfl rfl aMi293 (Nat.le_of_ble_eq_true rfl) rfl (Nat.le_of_ble_eq_true rfl) (Nat.le_of_ble_eq_true rfl) (by omega) hxu33_1 (Tf293 (by omega) a0 i3 I _ hxr33_2) ?_
        show aGo kad d 294 (36, ([(0, .ref a0), (1, .int i1), (2, .int i2), (3, .int i3)], [.int r33_2.1])) (aMem Z r33_2.2, t) _
        refine go_ops aMi294 3 _ (f1 := (40, ([(4, .int (2 : Int32)), (2, .int r33_2.1), (0, .ref a0), (1, .int i1), (3, .int i3)], []))) rfl ?_
        refine go_le (lv1 := [(0, .ref a0), (1, .int i1), (2, .int r33_2.1), (3, .int i3), (4, .int (2 : Int32))]) (aLe_of (show (List.map (fun q => q.1) ([(0, .ref a0), (1, .int i1), (2, .int r33_2.1), (3, .int i3), (4, .int (2 : Int32))] : ALv)).Nodup from (by show ([0, 1, 2, 3, 4] : List Nat).Nodup; decide)) (aSubL_cons rfl (aSubL_cons rfl (aSubL_cons rfl (aSubL_cons rfl (aSubL_cons rfl aSubL_nil)))))) ?_
        exact Tf294_b40 hd (fun p0 p1 p2 p3 I => f294_b21 kad N Z F p0 p1 p2 p3 I) (fun p0 p1 p2 p3 I r hh => ih p0 p1 p2 p3 I r hh) N a0 i1 r33_2.1 i3 (2 : Int32) r33_2.2 _ h
def f294_b18 (kad : Nat → Nat) (N : Nat) (Z : AZ) (a0 : Nat) (i1 : Int32) (s0 : Int32) (I : AI) : Option (Int32 × AI) :=
  f294_b21 kad N Z N a0 i1 s0 (0 : Int32) I
set_option maxRecDepth 20000 in
theorem Tf294_b18 {kad : Nat → Nat} {N : Nat} {Z : AZ} {d : Nat} {t : Option Nat × (Nat × Nat)} (hd : 3 ≤ d) : ∀ (a0 : Nat) (i1 : Int32) (s0 : Int32) (I : AI) (r : Int32 × AI), f294_b18 kad N Z a0 i1 s0 I = some r → aGo kad d 294 (18, ([(0, .ref a0), (1, .int i1)], [.int s0])) (aMem Z I, t) (qI Z t r) := by
  intro a0 i1 s0 I r h
  unfold f294_b18 at h
  refine go_ops aMi294 3 _ (f1 := (21, ([(3, .int (0 : Int32)), (2, .int s0), (0, .ref a0), (1, .int i1)], []))) rfl ?_
  refine go_le (lv1 := [(0, .ref a0), (1, .int i1), (2, .int s0), (3, .int (0 : Int32))]) (aLe_of (show (List.map (fun q => q.1) ([(0, .ref a0), (1, .int i1), (2, .int s0), (3, .int (0 : Int32))] : ALv)).Nodup from (by show ([0, 1, 2, 3] : List Nat).Nodup; decide)) (aSubL_cons rfl (aSubL_cons rfl (aSubL_cons rfl (aSubL_cons rfl aSubL_nil))))) ?_
  exact Tf294_b21 hd N a0 i1 s0 (0 : Int32) I _ h
def f294 (kad : Nat → Nat) (N : Nat) (Z : AZ) (a0 : Nat) (I : AI) : Option (Int32 × AI) :=
  (gR Z I 11 50 a0).bind fun b5_1 =>
  (lI Z I 100 b5_1 (0 : Int32)).bind fun x9_2 =>
  if ¬ x9_2 = 0 then
    f294_b18 kad N Z a0 (255 : Int32) (0 : Int32) I
  else
    f294_b18 kad N Z a0 (255 : Int32) (1 : Int32) I
set_option maxRecDepth 20000 in
theorem Tf294 {kad : Nat → Nat} {N : Nat} {Z : AZ} {d : Nat} {t : Option Nat × (Nat × Nat)} (hd : 3 ≤ d) : ∀ (a0 : Nat) (I : AI) (r : Int32 × AI), f294 kad N Z a0 I = some r → aGo kad d 294 (0, ([(0, .ref a0)], [])) (aMem Z I, t) (qI Z t r) := by
  intro a0 I r h
  unfold f294 at h
  refine go_ops aMi294 3 _ (f1 := (5, ([(1, .int (255 : Int32)), (0, .ref a0)], [.ref a0]))) rfl ?_
  obtain ⟨b5_1, hxb5_1, h⟩ := Option.bind_eq_some_iff.mp h
  refine gg_gR aMi294 rfl rfl rfl hxb5_1 ?_
  refine go_ops aMi294 1 _ (f1 := (9, ([(1, .int (255 : Int32)), (0, .ref a0)], [.int (0 : Int32), .ref b5_1]))) rfl ?_
  obtain ⟨x9_2, hxx9_2, h⟩ := Option.bind_eq_some_iff.mp h
  refine gg_lI (Or.inl ⟨rfl, rfl⟩) aMi294 rfl hxx9_2 ?_
  refine gg_br (b := decide (¬ x9_2 = 0)) (tg := 17) (off := 7) aMi294 rfl rfl rfl rfl (fun hb => ?_) (fun hb => ?_)
  · rw [if_pos (of_decide_eq_true hb)] at h
    refine go_ops aMi294 1 _ (f1 := (18, ([(1, .int (255 : Int32)), (0, .ref a0)], [.int (0 : Int32)]))) rfl ?_
    refine go_le (lv1 := [(0, .ref a0), (1, .int (255 : Int32))]) (aLe_of (show (List.map (fun q => q.1) ([(0, .ref a0), (1, .int (255 : Int32))] : ALv)).Nodup from (by show ([0, 1] : List Nat).Nodup; decide)) (aSubL_cons rfl (aSubL_cons rfl aSubL_nil))) ?_
    exact Tf294_b18 hd a0 (255 : Int32) (0 : Int32) I _ h
  · rw [if_neg (of_decide_eq_false hb)] at h
    refine go_ops aMi294 2 _ (f1 := (18, ([(1, .int (255 : Int32)), (0, .ref a0)], [.int (1 : Int32)]))) rfl ?_
    refine go_le (lv1 := [(0, .ref a0), (1, .int (255 : Int32))]) (aLe_of (show (List.map (fun q => q.1) ([(0, .ref a0), (1, .int (255 : Int32))] : ALv)).Nodup from (by show ([0, 1] : List Nat).Nodup; decide)) (aSubL_cons rfl (aSubL_cons rfl aSubL_nil))) ?_
    exact Tf294_b18 hd a0 (255 : Int32) (1 : Int32) I _ h
