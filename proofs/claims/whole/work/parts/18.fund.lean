-- KernelGym$Disk.isSound ()Z
def f58_b81 (kad : Nat → Nat) (N : Nat) (Z : AZ)  (I : AI) : Option (Int32 × AI) :=
  if (0 : Int32) = 0 ∨ (0 : Int32) = 1 then some ((0 : Int32), I) else none
set_option maxRecDepth 20000 in
theorem Tf58_b81 {kad : Nat → Nat} {N : Nat} {Z : AZ} {d : Nat} {t : Option Nat × (Nat × Nat)} (hd : 4 ≤ d) : ∀  (I : AI) (r : Int32 × AI), f58_b81 kad N Z  I = some r → aGo kad d 58 (81, ([], [])) (aMem Z I, t) (qI Z t r) := by
  intro  I r h
  unfold f58_b81 at h
  refine go_ops aMi58 1 _ (f1 := (82, ([], [.int (0 : Int32)]))) rfl ?_
  split at h
  · rename_i hz
    cases h
    exact go_ret aMi58 rfl (aRetZ hz) ⟨rfl, rfl⟩
  · cases h
def f58_b97 (kad : Nat → Nat) (N : Nat) (Z : AZ) (k17 : Nat → Int64 → Int32 → AI → Option (Int32 × AI)) (k36 : Nat → Int64 → Int32 → Int32 → AI → Option (Int32 × AI)) (a0 : Nat) (i3 : Int32) (i4 : Int32) (s0 : Int64) (s1 : Int64) (I : AI) : Option (Int32 × AI) :=
  k36 a0 (s1 ||| s0) i3 (i4 + (1 : Int32)) I
set_option maxRecDepth 20000 in
theorem Tf58_b97 {kad : Nat → Nat} {N : Nat} {Z : AZ} {d : Nat} {t : Option Nat × (Nat × Nat)} (hd : 4 ≤ d) (k17 : Nat → Int64 → Int32 → AI → Option (Int32 × AI))  (k36 : Nat → Int64 → Int32 → Int32 → AI → Option (Int32 × AI))  (hk17 : ∀ (a0 : Nat) (l1 : Int64) (i3 : Int32)  (I : AI) (r : Int32 × AI), k17 a0 l1 i3 I = some r → aGo kad d 58 (17, ([(0, .ref a0), (1, .long l1), (3, .int i3)], [])) (aMem Z I, t) (qI Z t r)) (hk36 : ∀ (a0 : Nat) (l1 : Int64) (i3 : Int32) (i4 : Int32)  (I : AI) (r : Int32 × AI), k36 a0 l1 i3 i4 I = some r → aGo kad d 58 (36, ([(0, .ref a0), (1, .long l1), (3, .int i3), (4, .int i4)], [])) (aMem Z I, t) (qI Z t r)) : ∀ (a0 : Nat) (i3 : Int32) (i4 : Int32) (s0 : Int64) (s1 : Int64) (I : AI) (r : Int32 × AI), f58_b97 kad N Z k17 k36 a0 i3 i4 s0 s1 I = some r → aGo kad d 58 (97, ([(0, .ref a0), (3, .int i3), (4, .int i4)], [.long s0, .long s1])) (aMem Z I, t) (qI Z t r) := by
  intro a0 i3 i4 s0 s1 I r h
  unfold f58_b97 at h
  refine go_ops aMi58 4 _ (f1 := (36, ([(4, .int (i4 + (1 : Int32))), (1, .long (s1 ||| s0)), (0, .ref a0), (3, .int i3)], []))) rfl ?_
  refine go_le (lv1 := [(0, .ref a0), (1, .long (s1 ||| s0)), (3, .int i3), (4, .int (i4 + (1 : Int32)))]) (aLe_of (show (List.map (fun q => q.1) ([(0, .ref a0), (1, .long (s1 ||| s0)), (3, .int i3), (4, .int (i4 + (1 : Int32)))] : ALv)).Nodup from (by show ([0, 1, 3, 4] : List Nat).Nodup; decide)) (aSubL_cons rfl (aSubL_cons rfl (aSubL_cons rfl (aSubL_cons rfl aSubL_nil))))) ?_
  exact hk36 a0 (s1 ||| s0) i3 (i4 + (1 : Int32)) I _ h
def f58_b83 (kad : Nat → Nat) (N : Nat) (Z : AZ) (k17 : Nat → Int64 → Int32 → AI → Option (Int32 × AI)) (k36 : Nat → Int64 → Int32 → Int32 → AI → Option (Int32 × AI)) (a0 : Nat) (l1 : Int64) (i3 : Int32) (i4 : Int32) (i5 : Int32) (I : AI) : Option (Int32 × AI) :=
  if ¬ i5 = 0 then
    f58_b97 kad N Z k17 k36 a0 i3 i4 ((1 : Int64) <<< (i5.toInt64 &&& 63)) l1 I
  else
    f58_b97 kad N Z k17 k36 a0 i3 i4 (0 : Int64) l1 I
set_option maxRecDepth 20000 in
theorem Tf58_b83 {kad : Nat → Nat} {N : Nat} {Z : AZ} {d : Nat} {t : Option Nat × (Nat × Nat)} (hd : 4 ≤ d) (k17 : Nat → Int64 → Int32 → AI → Option (Int32 × AI))  (k36 : Nat → Int64 → Int32 → Int32 → AI → Option (Int32 × AI))  (hk17 : ∀ (a0 : Nat) (l1 : Int64) (i3 : Int32)  (I : AI) (r : Int32 × AI), k17 a0 l1 i3 I = some r → aGo kad d 58 (17, ([(0, .ref a0), (1, .long l1), (3, .int i3)], [])) (aMem Z I, t) (qI Z t r)) (hk36 : ∀ (a0 : Nat) (l1 : Int64) (i3 : Int32) (i4 : Int32)  (I : AI) (r : Int32 × AI), k36 a0 l1 i3 i4 I = some r → aGo kad d 58 (36, ([(0, .ref a0), (1, .long l1), (3, .int i3), (4, .int i4)], [])) (aMem Z I, t) (qI Z t r)) : ∀ (a0 : Nat) (l1 : Int64) (i3 : Int32) (i4 : Int32) (i5 : Int32) (I : AI) (r : Int32 × AI), f58_b83 kad N Z k17 k36 a0 l1 i3 i4 i5 I = some r → aGo kad d 58 (83, ([(0, .ref a0), (1, .long l1), (3, .int i3), (4, .int i4), (5, .int i5)], [])) (aMem Z I, t) (qI Z t r) := by
  intro a0 l1 i3 i4 i5 I r h
  unfold f58_b83 at h
  refine go_ops aMi58 2 _ (f1 := (86, ([(0, .ref a0), (1, .long l1), (3, .int i3), (4, .int i4), (5, .int i5)], [.int i5, .long l1]))) rfl ?_
  refine gg_br (b := decide (¬ i5 = 0)) (tg := 93) (off := 7) aMi58 rfl rfl rfl rfl (fun hb => ?_) (fun hb => ?_)
  · rw [if_pos (of_decide_eq_true hb)] at h
    refine go_ops aMi58 3 _ (f1 := (97, ([(0, .ref a0), (1, .long l1), (3, .int i3), (4, .int i4), (5, .int i5)], [.long ((1 : Int64) <<< (i5.toInt64 &&& 63)), .long l1]))) rfl ?_
    refine go_le (lv1 := [(0, .ref a0), (3, .int i3), (4, .int i4)]) (aLe_of (show (List.map (fun q => q.1) ([(0, .ref a0), (3, .int i3), (4, .int i4)] : ALv)).Nodup from (by show ([0, 3, 4] : List Nat).Nodup; decide)) (aSubL_cons rfl (aSubL_cons rfl (aSubL_cons rfl aSubL_nil)))) ?_
    exact Tf58_b97 hd k17 k36 hk17 hk36 a0 i3 i4 ((1 : Int64) <<< (i5.toInt64 &&& 63)) l1 I _ h
  · rw [if_neg (of_decide_eq_false hb)] at h
    refine go_ops aMi58 2 _ (f1 := (97, ([(0, .ref a0), (1, .long l1), (3, .int i3), (4, .int i4), (5, .int i5)], [.long (0 : Int64), .long l1]))) rfl ?_
    refine go_le (lv1 := [(0, .ref a0), (3, .int i3), (4, .int i4)]) (aLe_of (show (List.map (fun q => q.1) ([(0, .ref a0), (3, .int i3), (4, .int i4)] : ALv)).Nodup from (by show ([0, 3, 4] : List Nat).Nodup; decide)) (aSubL_cons rfl (aSubL_cons rfl (aSubL_cons rfl aSubL_nil)))) ?_
    exact Tf58_b97 hd k17 k36 hk17 hk36 a0 i3 i4 (0 : Int64) l1 I _ h
def f58_b36 (kad : Nat → Nat) (N : Nat) (Z : AZ) (k17 : Nat → Int64 → Int32 → AI → Option (Int32 × AI)) : Nat → Nat → Int64 → Int32 → Int32 → AI → Option (Int32 × AI)
  | 0, _, _, _, _, _ => none
  | F + 1, a0, l1, i3, i4, I =>
    if (3 : Int32) < i4 then
      k17 a0 l1 (i3 + (1 : Int32)) I
    else
      (isK Z a0 3).bind fun u46_1 =>
      (f50 kad N Z a0 i3 i4 I).bind fun r46_2 =>
      if r46_2.1 = 0 then
        f58_b83 kad N Z k17 (fun p0 p1 p2 p3 I => f58_b36 kad N Z k17 F p0 p1 p2 p3 I) a0 l1 i3 i4 r46_2.1 r46_2.2
      else
        if r46_2.1 < (8 : Int32) then
          f58_b81 kad N Z  r46_2.2
        else
          if (32 : Int32) ≤ r46_2.1 then
            f58_b81 kad N Z  r46_2.2
          else
            if (lg_cmp ((l1 >>> (r46_2.1.toInt64 &&& 63)) &&& (1 : Int64)) (0 : Int64)) = 0 then
              f58_b83 kad N Z k17 (fun p0 p1 p2 p3 I => f58_b36 kad N Z k17 F p0 p1 p2 p3 I) a0 l1 i3 i4 r46_2.1 r46_2.2
            else
              f58_b81 kad N Z  r46_2.2
set_option maxRecDepth 20000 in
theorem Tf58_b36 {kad : Nat → Nat} {N : Nat} {Z : AZ} {d : Nat} {t : Option Nat × (Nat × Nat)} (hd : 4 ≤ d) (k17 : Nat → Int64 → Int32 → AI → Option (Int32 × AI))  (hk17 : ∀ (a0 : Nat) (l1 : Int64) (i3 : Int32)  (I : AI) (r : Int32 × AI), k17 a0 l1 i3 I = some r → aGo kad d 58 (17, ([(0, .ref a0), (1, .long l1), (3, .int i3)], [])) (aMem Z I, t) (qI Z t r)) : ∀ (F : Nat) (a0 : Nat) (l1 : Int64) (i3 : Int32) (i4 : Int32) (I : AI) (r : Int32 × AI), f58_b36 kad N Z k17 F a0 l1 i3 i4 I = some r → aGo kad d 58 (36, ([(0, .ref a0), (1, .long l1), (3, .int i3), (4, .int i4)], [])) (aMem Z I, t) (qI Z t r) := by
  intro F
  induction F with
  | zero => intro a0 l1 i3 i4 I r h; cases h
  | succ F ih =>
    intro a0 l1 i3 i4 I r h
    unfold f58_b36 at h
    refine go_ops aMi58 2 _ (f1 := (39, ([(0, .ref a0), (1, .long l1), (3, .int i3), (4, .int i4)], [.int (3 : Int32), .int i4]))) rfl ?_
    refine gg_br (b := decide ((3 : Int32) < i4)) (tg := 105) (off := 66) aMi58 rfl rfl rfl rfl (fun hb => ?_) (fun hb => ?_)
    · rw [if_pos (of_decide_eq_true hb)] at h
      refine go_ops aMi58 2 _ (f1 := (17, ([(3, .int (i3 + (1 : Int32))), (0, .ref a0), (1, .long l1), (4, .int i4)], []))) rfl ?_
      refine go_le (lv1 := [(0, .ref a0), (1, .long l1), (3, .int (i3 + (1 : Int32)))]) (aLe_of (show (List.map (fun q => q.1) ([(0, .ref a0), (1, .long l1), (3, .int (i3 + (1 : Int32)))] : ALv)).Nodup from (by show ([0, 1, 3] : List Nat).Nodup; decide)) (aSubL_cons rfl (aSubL_cons rfl (aSubL_cons rfl aSubL_nil)))) ?_
      exact hk17 a0 l1 (i3 + (1 : Int32)) I _ h
    · rw [if_neg (of_decide_eq_false hb)] at h
      refine go_ops aMi58 3 _ (f1 := (46, ([(0, .ref a0), (1, .long l1), (3, .int i3), (4, .int i4)], [.int i4, .int i3, .ref a0]))) rfl ?_
      obtain ⟨u46_1, hxu46_1, h⟩ := Option.bind_eq_some_iff.mp h
      obtain ⟨r46_2, hxr46_2, h⟩ := Option.bind_eq_some_iff.mp h
      refine gg_cv (as := [.int i3, .int i4]) (r := []) aMi58 rfl rfl rfl aMi50 (Nat.le_of_ble_eq_true rfl) rfl (Nat.le_of_ble_eq_true rfl) (Nat.le_of_ble_eq_true rfl) (by omega) hxu46_1 (Tf50 (by omega) a0 i3 i4 I _ hxr46_2) ?_
      show aGo kad d 58 (49, ([(0, .ref a0), (1, .long l1), (3, .int i3), (4, .int i4)], [.int r46_2.1])) (aMem Z r46_2.2, t) _
      refine go_ops aMi58 2 _ (f1 := (53, ([(5, .int r46_2.1), (0, .ref a0), (1, .long l1), (3, .int i3), (4, .int i4)], [.int r46_2.1]))) rfl ?_
      refine gg_br (b := decide (r46_2.1 = 0)) (tg := 83) (off := 30) aMi58 rfl rfl rfl rfl (fun hb => ?_) (fun hb => ?_)
      · rw [if_pos (of_decide_eq_true hb)] at h
        refine go_le (lv1 := [(0, .ref a0), (1, .long l1), (3, .int i3), (4, .int i4), (5, .int r46_2.1)]) (aLe_of (show (List.map (fun q => q.1) ([(0, .ref a0), (1, .long l1), (3, .int i3), (4, .int i4), (5, .int r46_2.1)] : ALv)).Nodup from (by show ([0, 1, 3, 4, 5] : List Nat).Nodup; decide)) (aSubL_cons rfl (aSubL_cons rfl (aSubL_cons rfl (aSubL_cons rfl (aSubL_cons rfl aSubL_nil)))))) ?_
        exact Tf58_b83 hd k17 (fun p0 p1 p2 p3 I => f58_b36 kad N Z k17 F p0 p1 p2 p3 I) hk17 (fun p0 p1 p2 p3 I r hh => ih p0 p1 p2 p3 I r hh) a0 l1 i3 i4 r46_2.1 r46_2.2 _ h
      · rw [if_neg (of_decide_eq_false hb)] at h
        refine go_ops aMi58 2 _ (f1 := (60, ([(5, .int r46_2.1), (0, .ref a0), (1, .long l1), (3, .int i3), (4, .int i4)], [.int (8 : Int32), .int r46_2.1]))) rfl ?_
        refine gg_br (b := decide (r46_2.1 < (8 : Int32))) (tg := 81) (off := 21) aMi58 rfl rfl rfl rfl (fun hb => ?_) (fun hb => ?_)
        · rw [if_pos (of_decide_eq_true hb)] at h
          refine go_le (lv1 := []) (aLe_of (show (List.map (fun q => q.1) ([] : ALv)).Nodup from (by show ([] : List Nat).Nodup; decide)) aSubL_nil) ?_
          exact Tf58_b81 hd  r46_2.2 _ h
        · rw [if_neg (of_decide_eq_false hb)] at h
          refine go_ops aMi58 2 _ (f1 := (67, ([(5, .int r46_2.1), (0, .ref a0), (1, .long l1), (3, .int i3), (4, .int i4)], [.int (32 : Int32), .int r46_2.1]))) rfl ?_
          refine gg_br (b := decide ((32 : Int32) ≤ r46_2.1)) (tg := 81) (off := 14) aMi58 rfl rfl rfl rfl (fun hb => ?_) (fun hb => ?_)
          · rw [if_pos (of_decide_eq_true hb)] at h
            refine go_le (lv1 := []) (aLe_of (show (List.map (fun q => q.1) ([] : ALv)).Nodup from (by show ([] : List Nat).Nodup; decide)) aSubL_nil) ?_
            exact Tf58_b81 hd  r46_2.2 _ h
          · rw [if_neg (of_decide_eq_false hb)] at h
            refine go_ops aMi58 7 _ (f1 := (78, ([(5, .int r46_2.1), (0, .ref a0), (1, .long l1), (3, .int i3), (4, .int i4)], [.int (lg_cmp ((l1 >>> (r46_2.1.toInt64 &&& 63)) &&& (1 : Int64)) (0 : Int64))]))) rfl ?_
            refine gg_br (b := decide ((lg_cmp ((l1 >>> (r46_2.1.toInt64 &&& 63)) &&& (1 : Int64)) (0 : Int64)) = 0)) (tg := 83) (off := 5) aMi58 rfl rfl rfl rfl (fun hb => ?_) (fun hb => ?_)
            · rw [if_pos (of_decide_eq_true hb)] at h
              refine go_le (lv1 := [(0, .ref a0), (1, .long l1), (3, .int i3), (4, .int i4), (5, .int r46_2.1)]) (aLe_of (show (List.map (fun q => q.1) ([(0, .ref a0), (1, .long l1), (3, .int i3), (4, .int i4), (5, .int r46_2.1)] : ALv)).Nodup from (by show ([0, 1, 3, 4, 5] : List Nat).Nodup; decide)) (aSubL_cons rfl (aSubL_cons rfl (aSubL_cons rfl (aSubL_cons rfl (aSubL_cons rfl aSubL_nil)))))) ?_
              exact Tf58_b83 hd k17 (fun p0 p1 p2 p3 I => f58_b36 kad N Z k17 F p0 p1 p2 p3 I) hk17 (fun p0 p1 p2 p3 I r hh => ih p0 p1 p2 p3 I r hh) a0 l1 i3 i4 r46_2.1 r46_2.2 _ h
            · rw [if_neg (of_decide_eq_false hb)] at h
              refine go_le (lv1 := []) (aLe_of (show (List.map (fun q => q.1) ([] : ALv)).Nodup from (by show ([] : List Nat).Nodup; decide)) aSubL_nil) ?_
              exact Tf58_b81 hd  r46_2.2 _ h
def f58_b125 (kad : Nat → Nat) (N : Nat) (Z : AZ) (s0 : Int32) (I : AI) : Option (Int32 × AI) :=
  if s0 = 0 ∨ s0 = 1 then some (s0, I) else none
set_option maxRecDepth 20000 in
theorem Tf58_b125 {kad : Nat → Nat} {N : Nat} {Z : AZ} {d : Nat} {t : Option Nat × (Nat × Nat)} (hd : 4 ≤ d) : ∀ (s0 : Int32) (I : AI) (r : Int32 × AI), f58_b125 kad N Z s0 I = some r → aGo kad d 58 (125, ([], [.int s0])) (aMem Z I, t) (qI Z t r) := by
  intro s0 I r h
  unfold f58_b125 at h
  split at h
  · rename_i hz
    cases h
    exact go_ret aMi58 rfl (aRetZ hz) ⟨rfl, rfl⟩
  · cases h
def f58_b17 (kad : Nat → Nat) (N : Nat) (Z : AZ) : Nat → Nat → Int64 → Int32 → AI → Option (Int32 × AI)
  | 0, _, _, _, _ => none
  | F + 1, a0, l1, i3, I =>
    if (6 : Int32) ≤ i3 then
      (isK Z a0 3).bind fun u113_1 =>
      (f55 kad N Z a0 I).bind fun r113_2 =>
      if ¬ (lg_cmp l1 r113_2.1) = 0 then
        f58_b125 kad N Z (0 : Int32) r113_2.2
      else
        f58_b125 kad N Z (1 : Int32) r113_2.2
    else
      (isK Z a0 3).bind fun u25_3 =>
      (f59 kad N Z a0 i3 I).bind fun r25_4 =>
      if ¬ r25_4.1 = 0 then
        f58_b36 kad N Z (fun p0 p1 p2 I => f58_b17 kad N Z F p0 p1 p2 I) N a0 l1 i3 (2 : Int32) r25_4.2
      else
        if (0 : Int32) = 0 ∨ (0 : Int32) = 1 then some ((0 : Int32), r25_4.2) else none
set_option maxRecDepth 20000 in
theorem Tf58_b17 {kad : Nat → Nat} {N : Nat} {Z : AZ} {d : Nat} {t : Option Nat × (Nat × Nat)} (hd : 4 ≤ d) : ∀ (F : Nat) (a0 : Nat) (l1 : Int64) (i3 : Int32) (I : AI) (r : Int32 × AI), f58_b17 kad N Z F a0 l1 i3 I = some r → aGo kad d 58 (17, ([(0, .ref a0), (1, .long l1), (3, .int i3)], [])) (aMem Z I, t) (qI Z t r) := by
  intro F
  induction F with
  | zero => intro a0 l1 i3 I r h; cases h
  | succ F ih =>
    intro a0 l1 i3 I r h
    unfold f58_b17 at h
    refine go_ops aMi58 2 _ (f1 := (20, ([(0, .ref a0), (1, .long l1), (3, .int i3)], [.int (6 : Int32), .int i3]))) rfl ?_
    refine gg_br (b := decide ((6 : Int32) ≤ i3)) (tg := 111) (off := 91) aMi58 rfl rfl rfl rfl (fun hb => ?_) (fun hb => ?_)
    · rw [if_pos (of_decide_eq_true hb)] at h
      refine go_ops aMi58 2 _ (f1 := (113, ([(0, .ref a0), (1, .long l1), (3, .int i3)], [.ref a0, .long l1]))) rfl ?_
      obtain ⟨u113_1, hxu113_1, h⟩ := Option.bind_eq_some_iff.mp h
      obtain ⟨r113_2, hxr113_2, h⟩ := Option.bind_eq_some_iff.mp h
      refine gg_cv (as := []) (r := [.long l1]) aMi58 rfl rfl rfl aMi55 (Nat.le_of_ble_eq_true rfl) rfl (Nat.le_of_ble_eq_true rfl) (Nat.le_of_ble_eq_true rfl) (by omega) hxu113_1 (Tf55 (by omega) a0 I _ hxr113_2) ?_
      show aGo kad d 58 (116, ([(0, .ref a0), (1, .long l1), (3, .int i3)], [.long r113_2.1, .long l1])) (aMem Z r113_2.2, t) _
      refine go_ops aMi58 1 _ (f1 := (117, ([(0, .ref a0), (1, .long l1), (3, .int i3)], [.int (lg_cmp l1 r113_2.1)]))) rfl ?_
      refine gg_br (b := decide (¬ (lg_cmp l1 r113_2.1) = 0)) (tg := 124) (off := 7) aMi58 rfl rfl rfl rfl (fun hb => ?_) (fun hb => ?_)
      · rw [if_pos (of_decide_eq_true hb)] at h
        refine go_ops aMi58 1 _ (f1 := (125, ([(0, .ref a0), (1, .long l1), (3, .int i3)], [.int (0 : Int32)]))) rfl ?_
        refine go_le (lv1 := []) (aLe_of (show (List.map (fun q => q.1) ([] : ALv)).Nodup from (by show ([] : List Nat).Nodup; decide)) aSubL_nil) ?_
        exact Tf58_b125 hd (0 : Int32) r113_2.2 _ h
      · rw [if_neg (of_decide_eq_false hb)] at h
        refine go_ops aMi58 2 _ (f1 := (125, ([(0, .ref a0), (1, .long l1), (3, .int i3)], [.int (1 : Int32)]))) rfl ?_
        refine go_le (lv1 := []) (aLe_of (show (List.map (fun q => q.1) ([] : ALv)).Nodup from (by show ([] : List Nat).Nodup; decide)) aSubL_nil) ?_
        exact Tf58_b125 hd (1 : Int32) r113_2.2 _ h
    · rw [if_neg (of_decide_eq_false hb)] at h
      refine go_ops aMi58 2 _ (f1 := (25, ([(0, .ref a0), (1, .long l1), (3, .int i3)], [.int i3, .ref a0]))) rfl ?_
      obtain ⟨u25_3, hxu25_3, h⟩ := Option.bind_eq_some_iff.mp h
      obtain ⟨r25_4, hxr25_4, h⟩ := Option.bind_eq_some_iff.mp h
      refine gg_cv (as := [.int i3]) (r := []) aMi58 rfl rfl rfl aMi59 (Nat.le_of_ble_eq_true rfl) rfl (Nat.le_of_ble_eq_true rfl) (Nat.le_of_ble_eq_true rfl) (by omega) hxu25_3 (Tf59 (by omega) a0 i3 I _ hxr25_4) ?_
      show aGo kad d 58 (28, ([(0, .ref a0), (1, .long l1), (3, .int i3)], [.int r25_4.1])) (aMem Z r25_4.2, t) _
      refine gg_br (b := decide (¬ r25_4.1 = 0)) (tg := 33) (off := 5) aMi58 rfl rfl rfl rfl (fun hb => ?_) (fun hb => ?_)
      · rw [if_pos (of_decide_eq_true hb)] at h
        refine go_ops aMi58 2 _ (f1 := (36, ([(4, .int (2 : Int32)), (0, .ref a0), (1, .long l1), (3, .int i3)], []))) rfl ?_
        refine go_le (lv1 := [(0, .ref a0), (1, .long l1), (3, .int i3), (4, .int (2 : Int32))]) (aLe_of (show (List.map (fun q => q.1) ([(0, .ref a0), (1, .long l1), (3, .int i3), (4, .int (2 : Int32))] : ALv)).Nodup from (by show ([0, 1, 3, 4] : List Nat).Nodup; decide)) (aSubL_cons rfl (aSubL_cons rfl (aSubL_cons rfl (aSubL_cons rfl aSubL_nil))))) ?_
        exact Tf58_b36 hd (fun p0 p1 p2 I => f58_b17 kad N Z F p0 p1 p2 I) (fun p0 p1 p2 I r hh => ih p0 p1 p2 I r hh) N a0 l1 i3 (2 : Int32) r25_4.2 _ h
      · rw [if_neg (of_decide_eq_false hb)] at h
        refine go_ops aMi58 1 _ (f1 := (32, ([(0, .ref a0), (1, .long l1), (3, .int i3)], [.int (0 : Int32)]))) rfl ?_
        split at h
        · rename_i hz
          cases h
          exact go_ret aMi58 rfl (aRetZ hz) ⟨rfl, rfl⟩
        · cases h
def f58 (kad : Nat → Nat) (N : Nat) (Z : AZ) (a0 : Nat) (I : AI) : Option (Int32 × AI) :=
  (isK Z a0 3).bind fun u3_1 =>
  (f43 kad N Z a0 (0 : Int32) (0 : Int32) I).bind fun r3_2 =>
  if r3_2.1 = 0 then
    f58_b17 kad N Z N a0 (255 : Int64) (0 : Int32) r3_2.2
  else
    if (0 : Int32) = 0 ∨ (0 : Int32) = 1 then some ((0 : Int32), r3_2.2) else none
set_option maxRecDepth 20000 in
theorem Tf58 {kad : Nat → Nat} {N : Nat} {Z : AZ} {d : Nat} {t : Option Nat × (Nat × Nat)} (hd : 4 ≤ d) : ∀ (a0 : Nat) (I : AI) (r : Int32 × AI), f58 kad N Z a0 I = some r → aGo kad d 58 (0, ([(0, .ref a0)], [])) (aMem Z I, t) (qI Z t r) := by
  intro a0 I r h
  unfold f58 at h
  refine go_ops aMi58 3 _ (f1 := (3, ([(0, .ref a0)], [.int (0 : Int32), .int (0 : Int32), .ref a0]))) rfl ?_
  obtain ⟨u3_1, hxu3_1, h⟩ := Option.bind_eq_some_iff.mp h
  obtain ⟨r3_2, hxr3_2, h⟩ := Option.bind_eq_some_iff.mp h
  refine gg_cv (as := [.int (0 : Int32), .int (0 : Int32)]) (r := []) aMi58 rfl rfl rfl aMi43 (Nat.le_of_ble_eq_true rfl) rfl (Nat.le_of_ble_eq_true rfl) (Nat.le_of_ble_eq_true rfl) (by omega) hxu3_1 (Tf43 (by omega) a0 (0 : Int32) (0 : Int32) I _ hxr3_2) ?_
  show aGo kad d 58 (6, ([(0, .ref a0)], [.int r3_2.1])) (aMem Z r3_2.2, t) _
  refine gg_br (b := decide (r3_2.1 = 0)) (tg := 11) (off := 5) aMi58 rfl rfl rfl rfl (fun hb => ?_) (fun hb => ?_)
  · rw [if_pos (of_decide_eq_true hb)] at h
    refine gg_kL aMi58 rfl rfl ?_
    refine go_ops aMi58 3 _ (f1 := (17, ([(3, .int (0 : Int32)), (1, .long (255 : Int64)), (0, .ref a0)], []))) rfl ?_
    refine go_le (lv1 := [(0, .ref a0), (1, .long (255 : Int64)), (3, .int (0 : Int32))]) (aLe_of (show (List.map (fun q => q.1) ([(0, .ref a0), (1, .long (255 : Int64)), (3, .int (0 : Int32))] : ALv)).Nodup from (by show ([0, 1, 3] : List Nat).Nodup; decide)) (aSubL_cons rfl (aSubL_cons rfl (aSubL_cons rfl aSubL_nil)))) ?_
    exact Tf58_b17 hd N a0 (255 : Int64) (0 : Int32) r3_2.2 _ h
  · rw [if_neg (of_decide_eq_false hb)] at h
    refine go_ops aMi58 1 _ (f1 := (10, ([(0, .ref a0)], [.int (0 : Int32)]))) rfl ?_
    split at h
    · rename_i hz
      cases h
      exact go_ret aMi58 rfl (aRetZ hz) ⟨rfl, rfl⟩
    · cases h
-- KernelGym$FileCall.left ()I
def f63_b24 (kad : Nat → Nat) (N : Nat) (Z : AZ) (s0 : Int32) (I : AI) : Option (Int32 × AI) :=
  some (s0, I)
set_option maxRecDepth 20000 in
theorem Tf63_b24 {kad : Nat → Nat} {N : Nat} {Z : AZ} {d : Nat} {t : Option Nat × (Nat × Nat)} (hd : 0 ≤ d) : ∀ (s0 : Int32) (I : AI) (r : Int32 × AI), f63_b24 kad N Z s0 I = some r → aGo kad d 63 (24, ([], [.int s0])) (aMem Z I, t) (qI Z t r) := by
  intro s0 I r h
  unfold f63_b24 at h
  cases h
  exact go_ret aMi63 rfl aRetI ⟨rfl, rfl⟩
def f63 (kad : Nat → Nat) (N : Nat) (Z : AZ) (a0 : Nat) (I : AI) : Option (Int32 × AI) :=
  (gI Z I 4 0 a0).bind fun x1_1 =>
  if ¬ x1_1 = 0 then
    (gI Z I 4 0 a0).bind fun x13_2 =>
    (gI Z I 4 1 a0).bind fun x20_3 =>
    f63_b24 kad N Z ((((2 : Int32) * x13_2) + (2 : Int32)) - x20_3) I
  else
    f63_b24 kad N Z (0 : Int32) I
set_option maxRecDepth 20000 in
theorem Tf63 {kad : Nat → Nat} {N : Nat} {Z : AZ} {d : Nat} {t : Option Nat × (Nat × Nat)} (hd : 0 ≤ d) : ∀ (a0 : Nat) (I : AI) (r : Int32 × AI), f63 kad N Z a0 I = some r → aGo kad d 63 (0, ([(0, .ref a0)], [])) (aMem Z I, t) (qI Z t r) := by
  intro a0 I r h
  unfold f63 at h
  refine go_ops aMi63 1 _ (f1 := (1, ([(0, .ref a0)], [.ref a0]))) rfl ?_
  obtain ⟨x1_1, hxx1_1, h⟩ := Option.bind_eq_some_iff.mp h
  refine gg_gI aMi63 rfl rfl rfl hxx1_1 ?_
  refine gg_br (b := decide (¬ x1_1 = 0)) (tg := 11) (off := 7) aMi63 rfl rfl rfl rfl (fun hb => ?_) (fun hb => ?_)
  · rw [if_pos (of_decide_eq_true hb)] at h
    refine go_ops aMi63 2 _ (f1 := (13, ([(0, .ref a0)], [.ref a0, .int (2 : Int32)]))) rfl ?_
    obtain ⟨x13_2, hxx13_2, h⟩ := Option.bind_eq_some_iff.mp h
    refine gg_gI aMi63 rfl rfl rfl hxx13_2 ?_
    refine go_ops aMi63 4 _ (f1 := (20, ([(0, .ref a0)], [.ref a0, .int (((2 : Int32) * x13_2) + (2 : Int32))]))) rfl ?_
    obtain ⟨x20_3, hxx20_3, h⟩ := Option.bind_eq_some_iff.mp h
    refine gg_gI aMi63 rfl rfl rfl hxx20_3 ?_
    refine go_ops aMi63 1 _ (f1 := (24, ([(0, .ref a0)], [.int ((((2 : Int32) * x13_2) + (2 : Int32)) - x20_3)]))) rfl ?_
    refine go_le (lv1 := []) (aLe_of (show (List.map (fun q => q.1) ([] : ALv)).Nodup from (by show ([] : List Nat).Nodup; decide)) aSubL_nil) ?_
    exact Tf63_b24 hd ((((2 : Int32) * x13_2) + (2 : Int32)) - x20_3) I _ h
  · rw [if_neg (of_decide_eq_false hb)] at h
    refine go_ops aMi63 2 _ (f1 := (24, ([(0, .ref a0)], [.int (0 : Int32)]))) rfl ?_
    refine go_le (lv1 := []) (aLe_of (show (List.map (fun q => q.1) ([] : ALv)).Nodup from (by show ([] : List Nat).Nodup; decide)) aSubL_nil) ?_
    exact Tf63_b24 hd (0 : Int32) I _ h
-- KernelGym$FileCall.fillHead ([I)V
def f65_b103 (kad : Nat → Nat) (N : Nat) (Z : AZ) (a1 : Nat) (i2 : Int32) (I : AI) : Option (Unit × AI) :=
  (sI Z I 100 a1 (4 : Int32) (i2 &&& (65535 : Int32))).bind fun I109_1 =>
  some ((), I109_1)
set_option maxRecDepth 20000 in
theorem Tf65_b103 {kad : Nat → Nat} {N : Nat} {Z : AZ} {d : Nat} {t : Option Nat × (Nat × Nat)} (hd : 1 ≤ d) : ∀ (a1 : Nat) (i2 : Int32) (I : AI) (r : Unit × AI), f65_b103 kad N Z a1 i2 I = some r → aGo kad d 65 (103, ([(1, .ref a1), (2, .int i2)], [])) (aMem Z I, t) (qV Z t r) := by
  intro a1 i2 I r h
  unfold f65_b103 at h
  refine go_ops aMi65 3 _ (f1 := (106, ([(1, .ref a1), (2, .int i2)], [.int i2, .int (4 : Int32), .ref a1]))) rfl ?_
  refine gg_kI (Or.inl ⟨rfl, rfl⟩) aMi65 rfl rfl ?_
  refine go_ops aMi65 1 _ (f1 := (109, ([(1, .ref a1), (2, .int i2)], [.int (i2 &&& (65535 : Int32)), .int (4 : Int32), .ref a1]))) rfl ?_
  obtain ⟨I109_1, hxI109_1, h⟩ := Option.bind_eq_some_iff.mp h
  refine gg_sI (Or.inl ⟨rfl, rfl⟩) aMi65 rfl hxI109_1 ?_
  cases h
  exact go_ret aMi65 rfl rfl ⟨rfl, rfl⟩
def f65_b68 (kad : Nat → Nat) (N : Nat) (Z : AZ) : Nat → Nat → Nat → Int32 → Int32 → AI → Option (Unit × AI)
  | 0, _, _, _, _, _ => none
  | F + 1, a0, a1, i2, i3, I =>
    (gI Z I 4 0 a0).bind fun x70_1 =>
    if (x70_1 * (8 : Int32)) ≤ i3 then
      f65_b103 kad N Z a1 i2 I
    else
      (gR Z I 4 3 a0).bind fun b81_2 =>
      (nL Z b81_2).bind fun x84_3 =>
      if x84_3 ≤ i3 then
        f65_b103 kad N Z a1 i2 I
      else
        (gR Z I 4 3 a0).bind fun b90_4 =>
        (lI Z I 100 b90_4 i3).bind fun x94_5 =>
        f65_b68 kad N Z F a0 a1 (i2 + x94_5) (i3 + (1 : Int32)) I
set_option maxRecDepth 20000 in
theorem Tf65_b68 {kad : Nat → Nat} {N : Nat} {Z : AZ} {d : Nat} {t : Option Nat × (Nat × Nat)} (hd : 1 ≤ d) : ∀ (F : Nat) (a0 : Nat) (a1 : Nat) (i2 : Int32) (i3 : Int32) (I : AI) (r : Unit × AI), f65_b68 kad N Z F a0 a1 i2 i3 I = some r → aGo kad d 65 (68, ([(0, .ref a0), (1, .ref a1), (2, .int i2), (3, .int i3)], [])) (aMem Z I, t) (qV Z t r) := by
  intro F
  induction F with
  | zero => intro a0 a1 i2 i3 I r h; cases h
  | succ F ih =>
    intro a0 a1 i2 i3 I r h
    unfold f65_b68 at h
    refine go_ops aMi65 2 _ (f1 := (70, ([(0, .ref a0), (1, .ref a1), (2, .int i2), (3, .int i3)], [.ref a0, .int i3]))) rfl ?_
    obtain ⟨x70_1, hxx70_1, h⟩ := Option.bind_eq_some_iff.mp h
    refine gg_gI aMi65 rfl rfl rfl hxx70_1 ?_
    refine go_ops aMi65 2 _ (f1 := (76, ([(0, .ref a0), (1, .ref a1), (2, .int i2), (3, .int i3)], [.int (x70_1 * (8 : Int32)), .int i3]))) rfl ?_
    refine gg_br (b := decide ((x70_1 * (8 : Int32)) ≤ i3)) (tg := 103) (off := 27) aMi65 rfl rfl rfl rfl (fun hb => ?_) (fun hb => ?_)
    · rw [if_pos (of_decide_eq_true hb)] at h
      refine go_le (lv1 := [(1, .ref a1), (2, .int i2)]) (aLe_of (show (List.map (fun q => q.1) ([(1, .ref a1), (2, .int i2)] : ALv)).Nodup from (by show ([1, 2] : List Nat).Nodup; decide)) (aSubL_cons rfl (aSubL_cons rfl aSubL_nil))) ?_
      exact Tf65_b103 hd a1 i2 I _ h
    · rw [if_neg (of_decide_eq_false hb)] at h
      refine go_ops aMi65 2 _ (f1 := (81, ([(0, .ref a0), (1, .ref a1), (2, .int i2), (3, .int i3)], [.ref a0, .int i3]))) rfl ?_
      obtain ⟨b81_2, hxb81_2, h⟩ := Option.bind_eq_some_iff.mp h
      refine gg_gR aMi65 rfl rfl rfl hxb81_2 ?_
      obtain ⟨x84_3, hxx84_3, h⟩ := Option.bind_eq_some_iff.mp h
      refine gg_len aMi65 rfl hxx84_3 ?_
      refine gg_br (b := decide (x84_3 ≤ i3)) (tg := 103) (off := 18) aMi65 rfl rfl rfl rfl (fun hb => ?_) (fun hb => ?_)
      · rw [if_pos (of_decide_eq_true hb)] at h
        refine go_le (lv1 := [(1, .ref a1), (2, .int i2)]) (aLe_of (show (List.map (fun q => q.1) ([(1, .ref a1), (2, .int i2)] : ALv)).Nodup from (by show ([1, 2] : List Nat).Nodup; decide)) (aSubL_cons rfl (aSubL_cons rfl aSubL_nil))) ?_
        exact Tf65_b103 hd a1 i2 I _ h
      · rw [if_neg (of_decide_eq_false hb)] at h
        refine go_ops aMi65 2 _ (f1 := (90, ([(0, .ref a0), (1, .ref a1), (2, .int i2), (3, .int i3)], [.ref a0, .int i2]))) rfl ?_
        obtain ⟨b90_4, hxb90_4, h⟩ := Option.bind_eq_some_iff.mp h
        refine gg_gR aMi65 rfl rfl rfl hxb90_4 ?_
        refine go_ops aMi65 1 _ (f1 := (94, ([(0, .ref a0), (1, .ref a1), (2, .int i2), (3, .int i3)], [.int i3, .ref b90_4, .int i2]))) rfl ?_
        obtain ⟨x94_5, hxx94_5, h⟩ := Option.bind_eq_some_iff.mp h
        refine gg_lI (Or.inl ⟨rfl, rfl⟩) aMi65 rfl hxx94_5 ?_
        refine go_ops aMi65 4 _ (f1 := (68, ([(3, .int (i3 + (1 : Int32))), (2, .int (i2 + x94_5)), (0, .ref a0), (1, .ref a1)], []))) rfl ?_
        refine go_le (lv1 := [(0, .ref a0), (1, .ref a1), (2, .int (i2 + x94_5)), (3, .int (i3 + (1 : Int32)))]) (aLe_of (show (List.map (fun q => q.1) ([(0, .ref a0), (1, .ref a1), (2, .int (i2 + x94_5)), (3, .int (i3 + (1 : Int32)))] : ALv)).Nodup from (by show ([0, 1, 2, 3] : List Nat).Nodup; decide)) (aSubL_cons rfl (aSubL_cons rfl (aSubL_cons rfl (aSubL_cons rfl aSubL_nil))))) ?_
        exact ih a0 a1 (i2 + x94_5) (i3 + (1 : Int32)) I _ h
def f65_b66 (kad : Nat → Nat) (N : Nat) (Z : AZ) (a0 : Nat) (a1 : Nat) (i2 : Int32) (I : AI) : Option (Unit × AI) :=
  f65_b68 kad N Z N a0 a1 i2 (0 : Int32) I
set_option maxRecDepth 20000 in
theorem Tf65_b66 {kad : Nat → Nat} {N : Nat} {Z : AZ} {d : Nat} {t : Option Nat × (Nat × Nat)} (hd : 1 ≤ d) : ∀ (a0 : Nat) (a1 : Nat) (i2 : Int32) (I : AI) (r : Unit × AI), f65_b66 kad N Z a0 a1 i2 I = some r → aGo kad d 65 (66, ([(0, .ref a0), (1, .ref a1), (2, .int i2)], [])) (aMem Z I, t) (qV Z t r) := by
  intro a0 a1 i2 I r h
  unfold f65_b66 at h
  refine go_ops aMi65 2 _ (f1 := (68, ([(3, .int (0 : Int32)), (0, .ref a0), (1, .ref a1), (2, .int i2)], []))) rfl ?_
  refine go_le (lv1 := [(0, .ref a0), (1, .ref a1), (2, .int i2), (3, .int (0 : Int32))]) (aLe_of (show (List.map (fun q => q.1) ([(0, .ref a0), (1, .ref a1), (2, .int i2), (3, .int (0 : Int32))] : ALv)).Nodup from (by show ([0, 1, 2, 3] : List Nat).Nodup; decide)) (aSubL_cons rfl (aSubL_cons rfl (aSubL_cons rfl (aSubL_cons rfl aSubL_nil))))) ?_
  exact Tf65_b68 hd N a0 a1 i2 (0 : Int32) I _ h
def f65_b27 (kad : Nat → Nat) (N : Nat) (Z : AZ) : Nat → Nat → Nat → Int32 → Int32 → AI → Option (Unit × AI)
  | 0, _, _, _, _, _ => none
  | F + 1, a0, a1, i2, i3, I =>
    (gI Z I 4 0 a0).bind fun x29_1 =>
    if x29_1 ≤ i3 then
      f65_b66 kad N Z a0 a1 i2 I
    else
      if (3 : Int32) ≤ i3 then
        f65_b66 kad N Z a0 a1 i2 I
      else
        (gR Z I 4 2 a0).bind fun b45_2 =>
        (lI Z I 100 b45_2 i3).bind fun x49_3 =>
        (sI Z I 100 a1 ((1 : Int32) + i3) x49_3).bind fun I50_4 =>
        (gR Z I50_4 4 2 a0).bind fun b53_5 =>
        (lI Z I50_4 100 b53_5 i3).bind fun x57_6 =>
        f65_b27 kad N Z F a0 a1 (i2 + x57_6) (i3 + (1 : Int32)) I50_4
set_option maxRecDepth 20000 in
theorem Tf65_b27 {kad : Nat → Nat} {N : Nat} {Z : AZ} {d : Nat} {t : Option Nat × (Nat × Nat)} (hd : 1 ≤ d) : ∀ (F : Nat) (a0 : Nat) (a1 : Nat) (i2 : Int32) (i3 : Int32) (I : AI) (r : Unit × AI), f65_b27 kad N Z F a0 a1 i2 i3 I = some r → aGo kad d 65 (27, ([(0, .ref a0), (1, .ref a1), (2, .int i2), (3, .int i3)], [])) (aMem Z I, t) (qV Z t r) := by
  intro F
  induction F with
  | zero => intro a0 a1 i2 i3 I r h; cases h
  | succ F ih =>
    intro a0 a1 i2 i3 I r h
    unfold f65_b27 at h
    refine go_ops aMi65 2 _ (f1 := (29, ([(0, .ref a0), (1, .ref a1), (2, .int i2), (3, .int i3)], [.ref a0, .int i3]))) rfl ?_
    obtain ⟨x29_1, hxx29_1, h⟩ := Option.bind_eq_some_iff.mp h
    refine gg_gI aMi65 rfl rfl rfl hxx29_1 ?_
    refine gg_br (b := decide (x29_1 ≤ i3)) (tg := 66) (off := 34) aMi65 rfl rfl rfl rfl (fun hb => ?_) (fun hb => ?_)
    · rw [if_pos (of_decide_eq_true hb)] at h
      refine go_le (lv1 := [(0, .ref a0), (1, .ref a1), (2, .int i2)]) (aLe_of (show (List.map (fun q => q.1) ([(0, .ref a0), (1, .ref a1), (2, .int i2)] : ALv)).Nodup from (by show ([0, 1, 2] : List Nat).Nodup; decide)) (aSubL_cons rfl (aSubL_cons rfl (aSubL_cons rfl aSubL_nil)))) ?_
      exact Tf65_b66 hd a0 a1 i2 I _ h
    · rw [if_neg (of_decide_eq_false hb)] at h
      refine go_ops aMi65 2 _ (f1 := (37, ([(0, .ref a0), (1, .ref a1), (2, .int i2), (3, .int i3)], [.int (3 : Int32), .int i3]))) rfl ?_
      refine gg_br (b := decide ((3 : Int32) ≤ i3)) (tg := 66) (off := 29) aMi65 rfl rfl rfl rfl (fun hb => ?_) (fun hb => ?_)
      · rw [if_pos (of_decide_eq_true hb)] at h
        refine go_le (lv1 := [(0, .ref a0), (1, .ref a1), (2, .int i2)]) (aLe_of (show (List.map (fun q => q.1) ([(0, .ref a0), (1, .ref a1), (2, .int i2)] : ALv)).Nodup from (by show ([0, 1, 2] : List Nat).Nodup; decide)) (aSubL_cons rfl (aSubL_cons rfl (aSubL_cons rfl aSubL_nil)))) ?_
        exact Tf65_b66 hd a0 a1 i2 I _ h
      · rw [if_neg (of_decide_eq_false hb)] at h
        refine go_ops aMi65 5 _ (f1 := (45, ([(0, .ref a0), (1, .ref a1), (2, .int i2), (3, .int i3)], [.ref a0, .int ((1 : Int32) + i3), .ref a1]))) rfl ?_
        obtain ⟨b45_2, hxb45_2, h⟩ := Option.bind_eq_some_iff.mp h
        refine gg_gR aMi65 rfl rfl rfl hxb45_2 ?_
        refine go_ops aMi65 1 _ (f1 := (49, ([(0, .ref a0), (1, .ref a1), (2, .int i2), (3, .int i3)], [.int i3, .ref b45_2, .int ((1 : Int32) + i3), .ref a1]))) rfl ?_
        obtain ⟨x49_3, hxx49_3, h⟩ := Option.bind_eq_some_iff.mp h
        refine gg_lI (Or.inl ⟨rfl, rfl⟩) aMi65 rfl hxx49_3 ?_
        obtain ⟨I50_4, hxI50_4, h⟩ := Option.bind_eq_some_iff.mp h
        refine gg_sI (Or.inl ⟨rfl, rfl⟩) aMi65 rfl hxI50_4 ?_
        refine go_ops aMi65 2 _ (f1 := (53, ([(0, .ref a0), (1, .ref a1), (2, .int i2), (3, .int i3)], [.ref a0, .int i2]))) rfl ?_
        obtain ⟨b53_5, hxb53_5, h⟩ := Option.bind_eq_some_iff.mp h
        refine gg_gR aMi65 rfl rfl rfl hxb53_5 ?_
        refine go_ops aMi65 1 _ (f1 := (57, ([(0, .ref a0), (1, .ref a1), (2, .int i2), (3, .int i3)], [.int i3, .ref b53_5, .int i2]))) rfl ?_
        obtain ⟨x57_6, hxx57_6, h⟩ := Option.bind_eq_some_iff.mp h
        refine gg_lI (Or.inl ⟨rfl, rfl⟩) aMi65 rfl hxx57_6 ?_
        refine go_ops aMi65 4 _ (f1 := (27, ([(3, .int (i3 + (1 : Int32))), (2, .int (i2 + x57_6)), (0, .ref a0), (1, .ref a1)], []))) rfl ?_
        refine go_le (lv1 := [(0, .ref a0), (1, .ref a1), (2, .int (i2 + x57_6)), (3, .int (i3 + (1 : Int32)))]) (aLe_of (show (List.map (fun q => q.1) ([(0, .ref a0), (1, .ref a1), (2, .int (i2 + x57_6)), (3, .int (i3 + (1 : Int32)))] : ALv)).Nodup from (by show ([0, 1, 2, 3] : List Nat).Nodup; decide)) (aSubL_cons rfl (aSubL_cons rfl (aSubL_cons rfl (aSubL_cons rfl aSubL_nil))))) ?_
        exact ih a0 a1 (i2 + x57_6) (i3 + (1 : Int32)) I50_4 _ h
def f65 (kad : Nat → Nat) (N : Nat) (Z : AZ) (a0 : Nat) (a1 : Nat) (I : AI) : Option (Unit × AI) :=
  (nL Z a1).bind fun x1_1 =>
  if x1_1 = (8 : Int32) then
    (f306 kad N Z a1 (0 : Int32) I).bind fun r10_2 =>
    (gI Z r10_2.2 4 0 a0).bind fun x16_3 =>
    (sI Z r10_2.2 100 a1 (0 : Int32) x16_3).bind fun I19_4 =>
    (gI Z I19_4 4 0 a0).bind fun x21_5 =>
    f65_b27 kad N Z N a0 a1 x21_5 (0 : Int32) I19_4
  else
    some ((), I)
set_option maxRecDepth 20000 in
theorem Tf65 {kad : Nat → Nat} {N : Nat} {Z : AZ} {d : Nat} {t : Option Nat × (Nat × Nat)} (hd : 1 ≤ d) : ∀ (a0 : Nat) (a1 : Nat) (I : AI) (r : Unit × AI), f65 kad N Z a0 a1 I = some r → aGo kad d 65 (0, ([(0, .ref a0), (1, .ref a1)], [])) (aMem Z I, t) (qV Z t r) := by
  intro a0 a1 I r h
  unfold f65 at h
  refine go_ops aMi65 1 _ (f1 := (1, ([(0, .ref a0), (1, .ref a1)], [.ref a1]))) rfl ?_
  obtain ⟨x1_1, hxx1_1, h⟩ := Option.bind_eq_some_iff.mp h
  refine gg_len aMi65 rfl hxx1_1 ?_
  refine go_ops aMi65 1 _ (f1 := (4, ([(0, .ref a0), (1, .ref a1)], [.int (8 : Int32), .int x1_1]))) rfl ?_
  refine gg_br (b := decide (x1_1 = (8 : Int32))) (tg := 8) (off := 4) aMi65 rfl rfl rfl rfl (fun hb => ?_) (fun hb => ?_)
  · rw [if_pos (of_decide_eq_true hb)] at h
    refine go_ops aMi65 2 _ (f1 := (10, ([(0, .ref a0), (1, .ref a1)], [.int (0 : Int32), .ref a1]))) rfl ?_
    obtain ⟨r10_2, hxr10_2, h⟩ := Option.bind_eq_some_iff.mp h
    refine gg_cs (as := [.ref a1, .int (0 : Int32)]) (r := []) aMi65 rfl rfl rfl aMi306 rfl (Nat.le_of_ble_eq_true rfl) (Nat.le_of_ble_eq_true rfl) (by omega) (Tf306 (by omega) a1 (0 : Int32) I _ hxr10_2) ?_
    show aGo kad d 65 (13, ([(0, .ref a0), (1, .ref a1)], [])) (aMem Z r10_2.2, t) _
    refine go_ops aMi65 3 _ (f1 := (16, ([(0, .ref a0), (1, .ref a1)], [.ref a0, .int (0 : Int32), .ref a1]))) rfl ?_
    obtain ⟨x16_3, hxx16_3, h⟩ := Option.bind_eq_some_iff.mp h
    refine gg_gI aMi65 rfl rfl rfl hxx16_3 ?_
    obtain ⟨I19_4, hxI19_4, h⟩ := Option.bind_eq_some_iff.mp h
    refine gg_sI (Or.inl ⟨rfl, rfl⟩) aMi65 rfl hxI19_4 ?_
    refine go_ops aMi65 1 _ (f1 := (21, ([(0, .ref a0), (1, .ref a1)], [.ref a0]))) rfl ?_
    obtain ⟨x21_5, hxx21_5, h⟩ := Option.bind_eq_some_iff.mp h
    refine gg_gI aMi65 rfl rfl rfl hxx21_5 ?_
    refine go_ops aMi65 3 _ (f1 := (27, ([(3, .int (0 : Int32)), (2, .int x21_5), (0, .ref a0), (1, .ref a1)], []))) rfl ?_
    refine go_le (lv1 := [(0, .ref a0), (1, .ref a1), (2, .int x21_5), (3, .int (0 : Int32))]) (aLe_of (show (List.map (fun q => q.1) ([(0, .ref a0), (1, .ref a1), (2, .int x21_5), (3, .int (0 : Int32))] : ALv)).Nodup from (by show ([0, 1, 2, 3] : List Nat).Nodup; decide)) (aSubL_cons rfl (aSubL_cons rfl (aSubL_cons rfl (aSubL_cons rfl aSubL_nil))))) ?_
    exact Tf65_b27 hd N a0 a1 x21_5 (0 : Int32) I19_4 _ h
  · rw [if_neg (of_decide_eq_false hb)] at h
    cases h
    exact go_ret aMi65 rfl rfl ⟨rfl, rfl⟩
-- KernelGym$Kept.begin (LKernelGym$Core;)V
def f67 (kad : Nat → Nat) (N : Nat) (Z : AZ) (a0 : Nat) (a1 : Nat) (I : AI) : Option (Unit × AI) :=
  (gR Z I 5 0 a0).bind fun b1_1 =>
  (isK Z b1_1 2).bind fun u5_2 =>
  (f38 kad N Z b1_1 a1 I).bind fun r5_3 =>
  (pI Z r5_3.2 5 1 a0 (0 : Int32)).bind fun I10_4 =>
  (pI Z I10_4 5 4 a0 (Int32.ofInt (-1))).bind fun I15_5 =>
  some ((), I15_5)
set_option maxRecDepth 20000 in
theorem Tf67 {kad : Nat → Nat} {N : Nat} {Z : AZ} {d : Nat} {t : Option Nat × (Nat × Nat)} (hd : 2 ≤ d) : ∀ (a0 : Nat) (a1 : Nat) (I : AI) (r : Unit × AI), f67 kad N Z a0 a1 I = some r → aGo kad d 67 (0, ([(0, .ref a0), (1, .ref a1)], [])) (aMem Z I, t) (qV Z t r) := by
  intro a0 a1 I r h
  unfold f67 at h
  refine go_ops aMi67 1 _ (f1 := (1, ([(0, .ref a0), (1, .ref a1)], [.ref a0]))) rfl ?_
  obtain ⟨b1_1, hxb1_1, h⟩ := Option.bind_eq_some_iff.mp h
  refine gg_gR aMi67 rfl rfl rfl hxb1_1 ?_
  refine go_ops aMi67 1 _ (f1 := (5, ([(0, .ref a0), (1, .ref a1)], [.ref a1, .ref b1_1]))) rfl ?_
  obtain ⟨u5_2, hxu5_2, h⟩ := Option.bind_eq_some_iff.mp h
  obtain ⟨r5_3, hxr5_3, h⟩ := Option.bind_eq_some_iff.mp h
  refine gg_cv (as := [.ref a1]) (r := []) aMi67 rfl rfl rfl aMi38 (Nat.le_of_ble_eq_true rfl) rfl (Nat.le_of_ble_eq_true rfl) (Nat.le_of_ble_eq_true rfl) (by omega) hxu5_2 (Tf38 (by omega) b1_1 a1 I _ hxr5_3) ?_
  show aGo kad d 67 (8, ([(0, .ref a0), (1, .ref a1)], [])) (aMem Z r5_3.2, t) _
  refine go_ops aMi67 2 _ (f1 := (10, ([(0, .ref a0), (1, .ref a1)], [.int (0 : Int32), .ref a0]))) rfl ?_
  obtain ⟨I10_4, hxI10_4, h⟩ := Option.bind_eq_some_iff.mp h
  refine gg_pI aMi67 rfl rfl rfl rfl (by decide) hxI10_4 ?_
  refine go_ops aMi67 2 _ (f1 := (15, ([(0, .ref a0), (1, .ref a1)], [.int (Int32.ofInt (-1)), .ref a0]))) rfl ?_
  obtain ⟨I15_5, hxI15_5, h⟩ := Option.bind_eq_some_iff.mp h
  refine gg_pI aMi67 rfl rfl rfl rfl (by decide) hxI15_5 ?_
  cases h
  exact go_ret aMi67 rfl rfl ⟨rfl, rfl⟩
-- KernelGym$Kept.noteWord (II)V
def f68_b45 (kad : Nat → Nat) (N : Nat) (Z : AZ)  (I : AI) : Option (Unit × AI) :=
  some ((), I)
set_option maxRecDepth 20000 in
theorem Tf68_b45 {kad : Nat → Nat} {N : Nat} {Z : AZ} {d : Nat} {t : Option Nat × (Nat × Nat)} (hd : 0 ≤ d) : ∀  (I : AI) (r : Unit × AI), f68_b45 kad N Z  I = some r → aGo kad d 68 (45, ([], [])) (aMem Z I, t) (qV Z t r) := by
  intro  I r h
  unfold f68_b45 at h
  cases h
  exact go_ret aMi68 rfl rfl ⟨rfl, rfl⟩
def f68 (kad : Nat → Nat) (N : Nat) (Z : AZ) (a0 : Nat) (i1 : Int32) (i2 : Int32) (I : AI) : Option (Unit × AI) :=
  (gI Z I 5 1 a0).bind fun x1_1 =>
  if x1_1 < 0 then
    f68_b45 kad N Z  I
  else
    (gI Z I 5 1 a0).bind fun x8_2 =>
    if (2 : Int32) ≤ x8_2 then
      f68_b45 kad N Z  I
    else
      (gR Z I 5 2 a0).bind fun b16_3 =>
      (gI Z I 5 1 a0).bind fun x20_4 =>
      (sI Z I 100 b16_3 x20_4 i1).bind fun I24_5 =>
      (gR Z I24_5 5 3 a0).bind fun b26_6 =>
      (gI Z I24_5 5 1 a0).bind fun x30_7 =>
      (sI Z I24_5 100 b26_6 x30_7 i2).bind fun I34_8 =>
      (gI Z I34_8 5 1 a0).bind fun x37_9 =>
      (pI Z I34_8 5 1 a0 (x37_9 + (1 : Int32))).bind fun I42_10 =>
      f68_b45 kad N Z  I42_10
set_option maxRecDepth 20000 in
theorem Tf68 {kad : Nat → Nat} {N : Nat} {Z : AZ} {d : Nat} {t : Option Nat × (Nat × Nat)} (hd : 0 ≤ d) : ∀ (a0 : Nat) (i1 : Int32) (i2 : Int32) (I : AI) (r : Unit × AI), f68 kad N Z a0 i1 i2 I = some r → aGo kad d 68 (0, ([(0, .ref a0), (1, .int i1), (2, .int i2)], [])) (aMem Z I, t) (qV Z t r) := by
  intro a0 i1 i2 I r h
  unfold f68 at h
  refine go_ops aMi68 1 _ (f1 := (1, ([(0, .ref a0), (1, .int i1), (2, .int i2)], [.ref a0]))) rfl ?_
  obtain ⟨x1_1, hxx1_1, h⟩ := Option.bind_eq_some_iff.mp h
  refine gg_gI aMi68 rfl rfl rfl hxx1_1 ?_
  refine gg_br (b := decide (x1_1 < 0)) (tg := 45) (off := 41) aMi68 rfl rfl rfl rfl (fun hb => ?_) (fun hb => ?_)
  · rw [if_pos (of_decide_eq_true hb)] at h
    refine go_le (lv1 := []) (aLe_of (show (List.map (fun q => q.1) ([] : ALv)).Nodup from (by show ([] : List Nat).Nodup; decide)) aSubL_nil) ?_
    exact Tf68_b45 hd  I _ h
  · rw [if_neg (of_decide_eq_false hb)] at h
    refine go_ops aMi68 1 _ (f1 := (8, ([(0, .ref a0), (1, .int i1), (2, .int i2)], [.ref a0]))) rfl ?_
    obtain ⟨x8_2, hxx8_2, h⟩ := Option.bind_eq_some_iff.mp h
    refine gg_gI aMi68 rfl rfl rfl hxx8_2 ?_
    refine go_ops aMi68 1 _ (f1 := (12, ([(0, .ref a0), (1, .int i1), (2, .int i2)], [.int (2 : Int32), .int x8_2]))) rfl ?_
    refine gg_br (b := decide ((2 : Int32) ≤ x8_2)) (tg := 45) (off := 33) aMi68 rfl rfl rfl rfl (fun hb => ?_) (fun hb => ?_)
    · rw [if_pos (of_decide_eq_true hb)] at h
      refine go_le (lv1 := []) (aLe_of (show (List.map (fun q => q.1) ([] : ALv)).Nodup from (by show ([] : List Nat).Nodup; decide)) aSubL_nil) ?_
      exact Tf68_b45 hd  I _ h
    · rw [if_neg (of_decide_eq_false hb)] at h
      refine go_ops aMi68 1 _ (f1 := (16, ([(0, .ref a0), (1, .int i1), (2, .int i2)], [.ref a0]))) rfl ?_
      obtain ⟨b16_3, hxb16_3, h⟩ := Option.bind_eq_some_iff.mp h
      refine gg_gR aMi68 rfl rfl rfl hxb16_3 ?_
      refine go_ops aMi68 1 _ (f1 := (20, ([(0, .ref a0), (1, .int i1), (2, .int i2)], [.ref a0, .ref b16_3]))) rfl ?_
      obtain ⟨x20_4, hxx20_4, h⟩ := Option.bind_eq_some_iff.mp h
      refine gg_gI aMi68 rfl rfl rfl hxx20_4 ?_
      refine go_ops aMi68 1 _ (f1 := (24, ([(0, .ref a0), (1, .int i1), (2, .int i2)], [.int i1, .int x20_4, .ref b16_3]))) rfl ?_
      obtain ⟨I24_5, hxI24_5, h⟩ := Option.bind_eq_some_iff.mp h
      refine gg_sI (Or.inl ⟨rfl, rfl⟩) aMi68 rfl hxI24_5 ?_
      refine go_ops aMi68 1 _ (f1 := (26, ([(0, .ref a0), (1, .int i1), (2, .int i2)], [.ref a0]))) rfl ?_
      obtain ⟨b26_6, hxb26_6, h⟩ := Option.bind_eq_some_iff.mp h
      refine gg_gR aMi68 rfl rfl rfl hxb26_6 ?_
      refine go_ops aMi68 1 _ (f1 := (30, ([(0, .ref a0), (1, .int i1), (2, .int i2)], [.ref a0, .ref b26_6]))) rfl ?_
      obtain ⟨x30_7, hxx30_7, h⟩ := Option.bind_eq_some_iff.mp h
      refine gg_gI aMi68 rfl rfl rfl hxx30_7 ?_
      refine go_ops aMi68 1 _ (f1 := (34, ([(0, .ref a0), (1, .int i1), (2, .int i2)], [.int i2, .int x30_7, .ref b26_6]))) rfl ?_
      obtain ⟨I34_8, hxI34_8, h⟩ := Option.bind_eq_some_iff.mp h
      refine gg_sI (Or.inl ⟨rfl, rfl⟩) aMi68 rfl hxI34_8 ?_
      refine go_ops aMi68 2 _ (f1 := (37, ([(0, .ref a0), (1, .int i1), (2, .int i2)], [.ref a0, .ref a0]))) rfl ?_
      obtain ⟨x37_9, hxx37_9, h⟩ := Option.bind_eq_some_iff.mp h
      refine gg_gI aMi68 rfl rfl rfl hxx37_9 ?_
      refine go_ops aMi68 2 _ (f1 := (42, ([(0, .ref a0), (1, .int i1), (2, .int i2)], [.int (x37_9 + (1 : Int32)), .ref a0]))) rfl ?_
      obtain ⟨I42_10, hxI42_10, h⟩ := Option.bind_eq_some_iff.mp h
      refine gg_pI aMi68 rfl rfl rfl rfl (by decide) hxI42_10 ?_
      refine go_le (lv1 := []) (aLe_of (show (List.map (fun q => q.1) ([] : ALv)).Nodup from (by show ([] : List Nat).Nodup; decide)) aSubL_nil) ?_
      exact Tf68_b45 hd  I42_10 _ h
-- KernelGym$Kept.noteBlock (ILKernelGym$Disk;)V
def f69_b7 (kad : Nat → Nat) (N : Nat) (Z : AZ) : Nat → Nat → Int32 → Nat → Int32 → AI → Option (Unit × AI)
  | 0, _, _, _, _, _ => none
  | F + 1, a0, i1, a2, i3, I =>
    if (8 : Int32) ≤ i3 then
      some ((), I)
    else
      (gR Z I 5 5 a0).bind fun b14_1 =>
      (isK Z a2 3).bind fun u21_2 =>
      (f43 kad N Z a2 i1 i3 I).bind fun r21_3 =>
      (sI Z r21_3.2 100 b14_1 i3 r21_3.1).bind fun I24_4 =>
      f69_b7 kad N Z F a0 i1 a2 (i3 + (1 : Int32)) I24_4
set_option maxRecDepth 20000 in
theorem Tf69_b7 {kad : Nat → Nat} {N : Nat} {Z : AZ} {d : Nat} {t : Option Nat × (Nat × Nat)} (hd : 1 ≤ d) : ∀ (F : Nat) (a0 : Nat) (i1 : Int32) (a2 : Nat) (i3 : Int32) (I : AI) (r : Unit × AI), f69_b7 kad N Z F a0 i1 a2 i3 I = some r → aGo kad d 69 (7, ([(0, .ref a0), (1, .int i1), (2, .ref a2), (3, .int i3)], [])) (aMem Z I, t) (qV Z t r) := by
  intro F
  induction F with
  | zero => intro a0 i1 a2 i3 I r h; cases h
  | succ F ih =>
    intro a0 i1 a2 i3 I r h
    unfold f69_b7 at h
    refine go_ops aMi69 2 _ (f1 := (10, ([(0, .ref a0), (1, .int i1), (2, .ref a2), (3, .int i3)], [.int (8 : Int32), .int i3]))) rfl ?_
    refine gg_br (b := decide ((8 : Int32) ≤ i3)) (tg := 31) (off := 21) aMi69 rfl rfl rfl rfl (fun hb => ?_) (fun hb => ?_)
    · rw [if_pos (of_decide_eq_true hb)] at h
      cases h
      exact go_ret aMi69 rfl rfl ⟨rfl, rfl⟩
    · rw [if_neg (of_decide_eq_false hb)] at h
      refine go_ops aMi69 1 _ (f1 := (14, ([(0, .ref a0), (1, .int i1), (2, .ref a2), (3, .int i3)], [.ref a0]))) rfl ?_
      obtain ⟨b14_1, hxb14_1, h⟩ := Option.bind_eq_some_iff.mp h
      refine gg_gR aMi69 rfl rfl rfl hxb14_1 ?_
      refine go_ops aMi69 4 _ (f1 := (21, ([(0, .ref a0), (1, .int i1), (2, .ref a2), (3, .int i3)], [.int i3, .int i1, .ref a2, .int i3, .ref b14_1]))) rfl ?_
      obtain ⟨u21_2, hxu21_2, h⟩ := Option.bind_eq_some_iff.mp h
      obtain ⟨r21_3, hxr21_3, h⟩ := Option.bind_eq_some_iff.mp h
      refine gg_cv (as := [.int i1, .int i3]) (r := [.int i3, .ref b14_1]) aMi69 rfl rfl rfl aMi43 (Nat.le_of_ble_eq_true rfl) rfl (Nat.le_of_ble_eq_true rfl) (Nat.le_of_ble_eq_true rfl) (by omega) hxu21_2 (Tf43 (by omega) a2 i1 i3 I _ hxr21_3) ?_
      show aGo kad d 69 (24, ([(0, .ref a0), (1, .int i1), (2, .ref a2), (3, .int i3)], [.int r21_3.1, .int i3, .ref b14_1])) (aMem Z r21_3.2, t) _
      obtain ⟨I24_4, hxI24_4, h⟩ := Option.bind_eq_some_iff.mp h
      refine gg_sI (Or.inl ⟨rfl, rfl⟩) aMi69 rfl hxI24_4 ?_
      refine go_ops aMi69 2 _ (f1 := (7, ([(3, .int (i3 + (1 : Int32))), (0, .ref a0), (1, .int i1), (2, .ref a2)], []))) rfl ?_
      refine go_le (lv1 := [(0, .ref a0), (1, .int i1), (2, .ref a2), (3, .int (i3 + (1 : Int32)))]) (aLe_of (show (List.map (fun q => q.1) ([(0, .ref a0), (1, .int i1), (2, .ref a2), (3, .int (i3 + (1 : Int32)))] : ALv)).Nodup from (by show ([0, 1, 2, 3] : List Nat).Nodup; decide)) (aSubL_cons rfl (aSubL_cons rfl (aSubL_cons rfl (aSubL_cons rfl aSubL_nil))))) ?_
      exact ih a0 i1 a2 (i3 + (1 : Int32)) I24_4 _ h
def f69 (kad : Nat → Nat) (N : Nat) (Z : AZ) (a0 : Nat) (i1 : Int32) (a2 : Nat) (I : AI) : Option (Unit × AI) :=
  (pI Z I 5 4 a0 i1).bind fun I2_1 =>
  f69_b7 kad N Z N a0 i1 a2 (0 : Int32) I2_1
set_option maxRecDepth 20000 in
theorem Tf69 {kad : Nat → Nat} {N : Nat} {Z : AZ} {d : Nat} {t : Option Nat × (Nat × Nat)} (hd : 1 ≤ d) : ∀ (a0 : Nat) (i1 : Int32) (a2 : Nat) (I : AI) (r : Unit × AI), f69 kad N Z a0 i1 a2 I = some r → aGo kad d 69 (0, ([(0, .ref a0), (1, .int i1), (2, .ref a2)], [])) (aMem Z I, t) (qV Z t r) := by
  intro a0 i1 a2 I r h
  unfold f69 at h
  refine go_ops aMi69 2 _ (f1 := (2, ([(0, .ref a0), (1, .int i1), (2, .ref a2)], [.int i1, .ref a0]))) rfl ?_
  obtain ⟨I2_1, hxI2_1, h⟩ := Option.bind_eq_some_iff.mp h
  refine gg_pI aMi69 rfl rfl rfl rfl (by decide) hxI2_1 ?_
  refine go_ops aMi69 2 _ (f1 := (7, ([(3, .int (0 : Int32)), (0, .ref a0), (1, .int i1), (2, .ref a2)], []))) rfl ?_
  refine go_le (lv1 := [(0, .ref a0), (1, .int i1), (2, .ref a2), (3, .int (0 : Int32))]) (aLe_of (show (List.map (fun q => q.1) ([(0, .ref a0), (1, .int i1), (2, .ref a2), (3, .int (0 : Int32))] : ALv)).Nodup from (by show ([0, 1, 2, 3] : List Nat).Nodup; decide)) (aSubL_cons rfl (aSubL_cons rfl (aSubL_cons rfl (aSubL_cons rfl aSubL_nil))))) ?_
  exact Tf69_b7 hd N a0 i1 a2 (0 : Int32) I2_1 _ h
-- KernelGym$Kept.hasWritten (I)Z
def f70_b33 (kad : Nat → Nat) (N : Nat) (Z : AZ)  (I : AI) : Option (Int32 × AI) :=
  if (0 : Int32) = 0 ∨ (0 : Int32) = 1 then some ((0 : Int32), I) else none
set_option maxRecDepth 20000 in
theorem Tf70_b33 {kad : Nat → Nat} {N : Nat} {Z : AZ} {d : Nat} {t : Option Nat × (Nat × Nat)} (hd : 0 ≤ d) : ∀  (I : AI) (r : Int32 × AI), f70_b33 kad N Z  I = some r → aGo kad d 70 (33, ([], [])) (aMem Z I, t) (qI Z t r) := by
  intro  I r h
  unfold f70_b33 at h
  refine go_ops aMi70 1 _ (f1 := (34, ([], [.int (0 : Int32)]))) rfl ?_
  split at h
  · rename_i hz
    cases h
    exact go_ret aMi70 rfl (aRetZ hz) ⟨rfl, rfl⟩
  · cases h
def f70_b2 (kad : Nat → Nat) (N : Nat) (Z : AZ) : Nat → Nat → Int32 → Int32 → AI → Option (Int32 × AI)
  | 0, _, _, _, _ => none
  | F + 1, a0, i1, i2, I =>
    (gI Z I 5 1 a0).bind fun x4_1 =>
    if x4_1 ≤ i2 then
      f70_b33 kad N Z  I
    else
      if (2 : Int32) ≤ i2 then
        f70_b33 kad N Z  I
      else
        (gR Z I 5 2 a0).bind fun b16_2 =>
        (lI Z I 100 b16_2 i2).bind fun x20_3 =>
        if ¬ x20_3 = i1 then
          f70_b2 kad N Z F a0 i1 (i2 + (1 : Int32)) I
        else
          if (1 : Int32) = 0 ∨ (1 : Int32) = 1 then some ((1 : Int32), I) else none
set_option maxRecDepth 20000 in
theorem Tf70_b2 {kad : Nat → Nat} {N : Nat} {Z : AZ} {d : Nat} {t : Option Nat × (Nat × Nat)} (hd : 0 ≤ d) : ∀ (F : Nat) (a0 : Nat) (i1 : Int32) (i2 : Int32) (I : AI) (r : Int32 × AI), f70_b2 kad N Z F a0 i1 i2 I = some r → aGo kad d 70 (2, ([(0, .ref a0), (1, .int i1), (2, .int i2)], [])) (aMem Z I, t) (qI Z t r) := by
  intro F
  induction F with
  | zero => intro a0 i1 i2 I r h; cases h
  | succ F ih =>
    intro a0 i1 i2 I r h
    unfold f70_b2 at h
    refine go_ops aMi70 2 _ (f1 := (4, ([(0, .ref a0), (1, .int i1), (2, .int i2)], [.ref a0, .int i2]))) rfl ?_
    obtain ⟨x4_1, hxx4_1, h⟩ := Option.bind_eq_some_iff.mp h
    refine gg_gI aMi70 rfl rfl rfl hxx4_1 ?_
    refine gg_br (b := decide (x4_1 ≤ i2)) (tg := 33) (off := 26) aMi70 rfl rfl rfl rfl (fun hb => ?_) (fun hb => ?_)
    · rw [if_pos (of_decide_eq_true hb)] at h
      refine go_le (lv1 := []) (aLe_of (show (List.map (fun q => q.1) ([] : ALv)).Nodup from (by show ([] : List Nat).Nodup; decide)) aSubL_nil) ?_
      exact Tf70_b33 hd  I _ h
    · rw [if_neg (of_decide_eq_false hb)] at h
      refine go_ops aMi70 2 _ (f1 := (12, ([(0, .ref a0), (1, .int i1), (2, .int i2)], [.int (2 : Int32), .int i2]))) rfl ?_
      refine gg_br (b := decide ((2 : Int32) ≤ i2)) (tg := 33) (off := 21) aMi70 rfl rfl rfl rfl (fun hb => ?_) (fun hb => ?_)
      · rw [if_pos (of_decide_eq_true hb)] at h
        refine go_le (lv1 := []) (aLe_of (show (List.map (fun q => q.1) ([] : ALv)).Nodup from (by show ([] : List Nat).Nodup; decide)) aSubL_nil) ?_
        exact Tf70_b33 hd  I _ h
      · rw [if_neg (of_decide_eq_false hb)] at h
        refine go_ops aMi70 1 _ (f1 := (16, ([(0, .ref a0), (1, .int i1), (2, .int i2)], [.ref a0]))) rfl ?_
        obtain ⟨b16_2, hxb16_2, h⟩ := Option.bind_eq_some_iff.mp h
        refine gg_gR aMi70 rfl rfl rfl hxb16_2 ?_
        refine go_ops aMi70 1 _ (f1 := (20, ([(0, .ref a0), (1, .int i1), (2, .int i2)], [.int i2, .ref b16_2]))) rfl ?_
        obtain ⟨x20_3, hxx20_3, h⟩ := Option.bind_eq_some_iff.mp h
        refine gg_lI (Or.inl ⟨rfl, rfl⟩) aMi70 rfl hxx20_3 ?_
        refine go_ops aMi70 1 _ (f1 := (22, ([(0, .ref a0), (1, .int i1), (2, .int i2)], [.int i1, .int x20_3]))) rfl ?_
        refine gg_br (b := decide (¬ x20_3 = i1)) (tg := 27) (off := 5) aMi70 rfl rfl rfl rfl (fun hb => ?_) (fun hb => ?_)
        · rw [if_pos (of_decide_eq_true hb)] at h
          refine go_ops aMi70 2 _ (f1 := (2, ([(2, .int (i2 + (1 : Int32))), (0, .ref a0), (1, .int i1)], []))) rfl ?_
          refine go_le (lv1 := [(0, .ref a0), (1, .int i1), (2, .int (i2 + (1 : Int32)))]) (aLe_of (show (List.map (fun q => q.1) ([(0, .ref a0), (1, .int i1), (2, .int (i2 + (1 : Int32)))] : ALv)).Nodup from (by show ([0, 1, 2] : List Nat).Nodup; decide)) (aSubL_cons rfl (aSubL_cons rfl (aSubL_cons rfl aSubL_nil)))) ?_
          exact ih a0 i1 (i2 + (1 : Int32)) I _ h
        · rw [if_neg (of_decide_eq_false hb)] at h
          refine go_ops aMi70 1 _ (f1 := (26, ([(0, .ref a0), (1, .int i1), (2, .int i2)], [.int (1 : Int32)]))) rfl ?_
          split at h
          · rename_i hz
            cases h
            exact go_ret aMi70 rfl (aRetZ hz) ⟨rfl, rfl⟩
          · cases h
def f70 (kad : Nat → Nat) (N : Nat) (Z : AZ) (a0 : Nat) (i1 : Int32) (I : AI) : Option (Int32 × AI) :=
  f70_b2 kad N Z N a0 i1 (0 : Int32) I
set_option maxRecDepth 20000 in
theorem Tf70 {kad : Nat → Nat} {N : Nat} {Z : AZ} {d : Nat} {t : Option Nat × (Nat × Nat)} (hd : 0 ≤ d) : ∀ (a0 : Nat) (i1 : Int32) (I : AI) (r : Int32 × AI), f70 kad N Z a0 i1 I = some r → aGo kad d 70 (0, ([(0, .ref a0), (1, .int i1)], [])) (aMem Z I, t) (qI Z t r) := by
  intro a0 i1 I r h
  unfold f70 at h
  refine go_ops aMi70 2 _ (f1 := (2, ([(2, .int (0 : Int32)), (0, .ref a0), (1, .int i1)], []))) rfl ?_
  refine go_le (lv1 := [(0, .ref a0), (1, .int i1), (2, .int (0 : Int32))]) (aLe_of (show (List.map (fun q => q.1) ([(0, .ref a0), (1, .int i1), (2, .int (0 : Int32))] : ALv)).Nodup from (by show ([0, 1, 2] : List Nat).Nodup; decide)) (aSubL_cons rfl (aSubL_cons rfl (aSubL_cons rfl aSubL_nil)))) ?_
  exact Tf70_b2 hd N a0 i1 (0 : Int32) I _ h
-- KernelGym$Keys.forget ()V
def f72 (kad : Nat → Nat) (N : Nat) (Z : AZ) (a0 : Nat) (I : AI) : Option (Unit × AI) :=
  (pI Z I 6 0 a0 (0 : Int32)).bind fun I2_1 =>
  some ((), I2_1)
set_option maxRecDepth 20000 in
theorem Tf72 {kad : Nat → Nat} {N : Nat} {Z : AZ} {d : Nat} {t : Option Nat × (Nat × Nat)} (hd : 0 ≤ d) : ∀ (a0 : Nat) (I : AI) (r : Unit × AI), f72 kad N Z a0 I = some r → aGo kad d 72 (0, ([(0, .ref a0)], [])) (aMem Z I, t) (qV Z t r) := by
  intro a0 I r h
  unfold f72 at h
  refine go_ops aMi72 2 _ (f1 := (2, ([(0, .ref a0)], [.int (0 : Int32), .ref a0]))) rfl ?_
  obtain ⟨I2_1, hxI2_1, h⟩ := Option.bind_eq_some_iff.mp h
  refine gg_pI aMi72 rfl rfl rfl rfl (by decide) hxI2_1 ?_
  cases h
  exact go_ret aMi72 rfl rfl ⟨rfl, rfl⟩
-- KernelGym$Keys.copyFrom (LKernelGym$Keys;)V
def f73 (kad : Nat → Nat) (N : Nat) (Z : AZ) (a0 : Nat) (a1 : Nat) (I : AI) : Option (Unit × AI) :=
  (gI Z I 6 0 a1).bind fun x2_1 =>
  (pI Z I 6 0 a0 x2_1).bind fun I5_2 =>
  (gR Z I5_2 6 1 a1).bind fun b9_3 =>
  (gR Z I5_2 6 1 a0).bind fun b14_4 =>
  (cI Z I5_2 b9_3 (0 : Int32) b14_4 (0 : Int32) (20 : Int32)).bind fun I20_5 =>
  (gR Z I20_5 6 2 a1).bind fun b24_6 =>
  (gR Z I20_5 6 2 a0).bind fun b29_7 =>
  (cI Z I20_5 b24_6 (0 : Int32) b29_7 (0 : Int32) (20 : Int32)).bind fun I35_8 =>
  some ((), I35_8)
set_option maxRecDepth 20000 in
theorem Tf73 {kad : Nat → Nat} {N : Nat} {Z : AZ} {d : Nat} {t : Option Nat × (Nat × Nat)} (hd : 0 ≤ d) : ∀ (a0 : Nat) (a1 : Nat) (I : AI) (r : Unit × AI), f73 kad N Z a0 a1 I = some r → aGo kad d 73 (0, ([(0, .ref a0), (1, .ref a1)], [])) (aMem Z I, t) (qV Z t r) := by
  intro a0 a1 I r h
  unfold f73 at h
  refine go_ops aMi73 2 _ (f1 := (2, ([(0, .ref a0), (1, .ref a1)], [.ref a1, .ref a0]))) rfl ?_
  obtain ⟨x2_1, hxx2_1, h⟩ := Option.bind_eq_some_iff.mp h
  refine gg_gI aMi73 rfl rfl rfl hxx2_1 ?_
  obtain ⟨I5_2, hxI5_2, h⟩ := Option.bind_eq_some_iff.mp h
  refine gg_pI aMi73 rfl rfl rfl rfl (by decide) hxI5_2 ?_
  refine go_ops aMi73 1 _ (f1 := (9, ([(0, .ref a0), (1, .ref a1)], [.ref a1]))) rfl ?_
  obtain ⟨b9_3, hxb9_3, h⟩ := Option.bind_eq_some_iff.mp h
  refine gg_gR aMi73 rfl rfl rfl hxb9_3 ?_
  refine go_ops aMi73 2 _ (f1 := (14, ([(0, .ref a0), (1, .ref a1)], [.ref a0, .int (0 : Int32), .ref b9_3]))) rfl ?_
  obtain ⟨b14_4, hxb14_4, h⟩ := Option.bind_eq_some_iff.mp h
  refine gg_gR aMi73 rfl rfl rfl hxb14_4 ?_
  refine go_ops aMi73 2 _ (f1 := (20, ([(0, .ref a0), (1, .ref a1)], [.int (20 : Int32), .int (0 : Int32), .ref b14_4, .int (0 : Int32), .ref b9_3]))) rfl ?_
  obtain ⟨I20_5, hxI20_5, h⟩ := Option.bind_eq_some_iff.mp h
  refine gg_cp aMi73 rfl rfl (Nat.le_of_ble_eq_true rfl) hxI20_5 ?_
  refine go_ops aMi73 1 _ (f1 := (24, ([(0, .ref a0), (1, .ref a1)], [.ref a1]))) rfl ?_
  obtain ⟨b24_6, hxb24_6, h⟩ := Option.bind_eq_some_iff.mp h
  refine gg_gR aMi73 rfl rfl rfl hxb24_6 ?_
  refine go_ops aMi73 2 _ (f1 := (29, ([(0, .ref a0), (1, .ref a1)], [.ref a0, .int (0 : Int32), .ref b24_6]))) rfl ?_
  obtain ⟨b29_7, hxb29_7, h⟩ := Option.bind_eq_some_iff.mp h
  refine gg_gR aMi73 rfl rfl rfl hxb29_7 ?_
  refine go_ops aMi73 2 _ (f1 := (35, ([(0, .ref a0), (1, .ref a1)], [.int (20 : Int32), .int (0 : Int32), .ref b29_7, .int (0 : Int32), .ref b24_6]))) rfl ?_
  obtain ⟨I35_8, hxI35_8, h⟩ := Option.bind_eq_some_iff.mp h
  refine gg_cp aMi73 rfl rfl (Nat.le_of_ble_eq_true rfl) hxI35_8 ?_
  cases h
  exact go_ret aMi73 rfl rfl ⟨rfl, rfl⟩
-- KernelGym$Keys.countCome (I)I
def f75_b32 (kad : Nat → Nat) (N : Nat) (Z : AZ) (i2 : Int32) (I : AI) : Option (Int32 × AI) :=
  some (i2, I)
set_option maxRecDepth 20000 in
theorem Tf75_b32 {kad : Nat → Nat} {N : Nat} {Z : AZ} {d : Nat} {t : Option Nat × (Nat × Nat)} (hd : 0 ≤ d) : ∀ (i2 : Int32) (I : AI) (r : Int32 × AI), f75_b32 kad N Z i2 I = some r → aGo kad d 75 (32, ([(2, .int i2)], [])) (aMem Z I, t) (qI Z t r) := by
  intro i2 I r h
  unfold f75_b32 at h
  refine go_ops aMi75 1 _ (f1 := (33, ([(2, .int i2)], [.int i2]))) rfl ?_
  cases h
  exact go_ret aMi75 rfl aRetI ⟨rfl, rfl⟩
def f75_b2 (kad : Nat → Nat) (N : Nat) (Z : AZ) : Nat → Nat → Int32 → Int32 → AI → Option (Int32 × AI)
  | 0, _, _, _, _ => none
  | F + 1, a0, i1, i2, I =>
    (gI Z I 6 0 a0).bind fun x4_1 =>
    if x4_1 ≤ i2 then
      f75_b32 kad N Z i2 I
    else
      if (20 : Int32) ≤ i2 then
        f75_b32 kad N Z i2 I
      else
        (gR Z I 6 2 a0).bind fun b17_2 =>
        (lI Z I 100 b17_2 i2).bind fun x21_3 =>
        if i1 < x21_3 then
          f75_b32 kad N Z i2 I
        else
          f75_b2 kad N Z F a0 i1 (i2 + (1 : Int32)) I
set_option maxRecDepth 20000 in
theorem Tf75_b2 {kad : Nat → Nat} {N : Nat} {Z : AZ} {d : Nat} {t : Option Nat × (Nat × Nat)} (hd : 0 ≤ d) : ∀ (F : Nat) (a0 : Nat) (i1 : Int32) (i2 : Int32) (I : AI) (r : Int32 × AI), f75_b2 kad N Z F a0 i1 i2 I = some r → aGo kad d 75 (2, ([(0, .ref a0), (1, .int i1), (2, .int i2)], [])) (aMem Z I, t) (qI Z t r) := by
  intro F
  induction F with
  | zero => intro a0 i1 i2 I r h; cases h
  | succ F ih =>
    intro a0 i1 i2 I r h
    unfold f75_b2 at h
    refine go_ops aMi75 2 _ (f1 := (4, ([(0, .ref a0), (1, .int i1), (2, .int i2)], [.ref a0, .int i2]))) rfl ?_
    obtain ⟨x4_1, hxx4_1, h⟩ := Option.bind_eq_some_iff.mp h
    refine gg_gI aMi75 rfl rfl rfl hxx4_1 ?_
    refine gg_br (b := decide (x4_1 ≤ i2)) (tg := 32) (off := 25) aMi75 rfl rfl rfl rfl (fun hb => ?_) (fun hb => ?_)
    · rw [if_pos (of_decide_eq_true hb)] at h
      refine go_le (lv1 := [(2, .int i2)]) (aLe_of (show (List.map (fun q => q.1) ([(2, .int i2)] : ALv)).Nodup from (by show ([2] : List Nat).Nodup; decide)) (aSubL_cons rfl aSubL_nil)) ?_
      exact Tf75_b32 hd i2 I _ h
    · rw [if_neg (of_decide_eq_false hb)] at h
      refine go_ops aMi75 2 _ (f1 := (13, ([(0, .ref a0), (1, .int i1), (2, .int i2)], [.int (20 : Int32), .int i2]))) rfl ?_
      refine gg_br (b := decide ((20 : Int32) ≤ i2)) (tg := 32) (off := 19) aMi75 rfl rfl rfl rfl (fun hb => ?_) (fun hb => ?_)
      · rw [if_pos (of_decide_eq_true hb)] at h
        refine go_le (lv1 := [(2, .int i2)]) (aLe_of (show (List.map (fun q => q.1) ([(2, .int i2)] : ALv)).Nodup from (by show ([2] : List Nat).Nodup; decide)) (aSubL_cons rfl aSubL_nil)) ?_
        exact Tf75_b32 hd i2 I _ h
      · rw [if_neg (of_decide_eq_false hb)] at h
        refine go_ops aMi75 1 _ (f1 := (17, ([(0, .ref a0), (1, .int i1), (2, .int i2)], [.ref a0]))) rfl ?_
        obtain ⟨b17_2, hxb17_2, h⟩ := Option.bind_eq_some_iff.mp h
        refine gg_gR aMi75 rfl rfl rfl hxb17_2 ?_
        refine go_ops aMi75 1 _ (f1 := (21, ([(0, .ref a0), (1, .int i1), (2, .int i2)], [.int i2, .ref b17_2]))) rfl ?_
        obtain ⟨x21_3, hxx21_3, h⟩ := Option.bind_eq_some_iff.mp h
        refine gg_lI (Or.inl ⟨rfl, rfl⟩) aMi75 rfl hxx21_3 ?_
        refine go_ops aMi75 1 _ (f1 := (23, ([(0, .ref a0), (1, .int i1), (2, .int i2)], [.int i1, .int x21_3]))) rfl ?_
        refine gg_br (b := decide (i1 < x21_3)) (tg := 32) (off := 9) aMi75 rfl rfl rfl rfl (fun hb => ?_) (fun hb => ?_)
        · rw [if_pos (of_decide_eq_true hb)] at h
          refine go_le (lv1 := [(2, .int i2)]) (aLe_of (show (List.map (fun q => q.1) ([(2, .int i2)] : ALv)).Nodup from (by show ([2] : List Nat).Nodup; decide)) (aSubL_cons rfl aSubL_nil)) ?_
          exact Tf75_b32 hd i2 I _ h
        · rw [if_neg (of_decide_eq_false hb)] at h
          refine go_ops aMi75 2 _ (f1 := (2, ([(2, .int (i2 + (1 : Int32))), (0, .ref a0), (1, .int i1)], []))) rfl ?_
          refine go_le (lv1 := [(0, .ref a0), (1, .int i1), (2, .int (i2 + (1 : Int32)))]) (aLe_of (show (List.map (fun q => q.1) ([(0, .ref a0), (1, .int i1), (2, .int (i2 + (1 : Int32)))] : ALv)).Nodup from (by show ([0, 1, 2] : List Nat).Nodup; decide)) (aSubL_cons rfl (aSubL_cons rfl (aSubL_cons rfl aSubL_nil)))) ?_
          exact ih a0 i1 (i2 + (1 : Int32)) I _ h
def f75 (kad : Nat → Nat) (N : Nat) (Z : AZ) (a0 : Nat) (i1 : Int32) (I : AI) : Option (Int32 × AI) :=
  f75_b2 kad N Z N a0 i1 (0 : Int32) I
set_option maxRecDepth 20000 in
theorem Tf75 {kad : Nat → Nat} {N : Nat} {Z : AZ} {d : Nat} {t : Option Nat × (Nat × Nat)} (hd : 0 ≤ d) : ∀ (a0 : Nat) (i1 : Int32) (I : AI) (r : Int32 × AI), f75 kad N Z a0 i1 I = some r → aGo kad d 75 (0, ([(0, .ref a0), (1, .int i1)], [])) (aMem Z I, t) (qI Z t r) := by
  intro a0 i1 I r h
  unfold f75 at h
  refine go_ops aMi75 2 _ (f1 := (2, ([(2, .int (0 : Int32)), (0, .ref a0), (1, .int i1)], []))) rfl ?_
  refine go_le (lv1 := [(0, .ref a0), (1, .int i1), (2, .int (0 : Int32))]) (aLe_of (show (List.map (fun q => q.1) ([(0, .ref a0), (1, .int i1), (2, .int (0 : Int32))] : ALv)).Nodup from (by show ([0, 1, 2] : List Nat).Nodup; decide)) (aSubL_cons rfl (aSubL_cons rfl (aSubL_cons rfl aSubL_nil)))) ?_
  exact Tf75_b2 hd N a0 i1 (0 : Int32) I _ h
-- KernelGym$Keys.tell (II)V
def f74_b97 (kad : Nat → Nat) (N : Nat) (Z : AZ) (a0 : Nat) (I : AI) : Option (Unit × AI) :=
  (gI Z I 6 0 a0).bind fun x99_1 =>
  (pI Z I 6 0 a0 (x99_1 + (1 : Int32))).bind fun I104_2 =>
  some ((), I104_2)
set_option maxRecDepth 20000 in
theorem Tf74_b97 {kad : Nat → Nat} {N : Nat} {Z : AZ} {d : Nat} {t : Option Nat × (Nat × Nat)} (hd : 1 ≤ d) : ∀ (a0 : Nat) (I : AI) (r : Unit × AI), f74_b97 kad N Z a0 I = some r → aGo kad d 74 (97, ([(0, .ref a0)], [])) (aMem Z I, t) (qV Z t r) := by
  intro a0 I r h
  unfold f74_b97 at h
  refine go_ops aMi74 2 _ (f1 := (99, ([(0, .ref a0)], [.ref a0, .ref a0]))) rfl ?_
  obtain ⟨x99_1, hxx99_1, h⟩ := Option.bind_eq_some_iff.mp h
  refine gg_gI aMi74 rfl rfl rfl hxx99_1 ?_
  refine go_ops aMi74 2 _ (f1 := (104, ([(0, .ref a0)], [.int (x99_1 + (1 : Int32)), .ref a0]))) rfl ?_
  obtain ⟨I104_2, hxI104_2, h⟩ := Option.bind_eq_some_iff.mp h
  refine gg_pI aMi74 rfl rfl rfl rfl (by decide) hxI104_2 ?_
  cases h
  exact go_ret aMi74 rfl rfl ⟨rfl, rfl⟩
def f74_b73 (kad : Nat → Nat) (N : Nat) (Z : AZ) (a0 : Nat) (i1 : Int32) (i2 : Int32) (i3 : Int32) (I : AI) : Option (Unit × AI) :=
  if i3 < 0 then
    f74_b97 kad N Z a0 I
  else
    if (20 : Int32) ≤ i3 then
      f74_b97 kad N Z a0 I
    else
      (gR Z I 6 1 a0).bind fun b84_1 =>
      (sI Z I 100 b84_1 i3 i1).bind fun I89_2 =>
      (gR Z I89_2 6 2 a0).bind fun b91_3 =>
      (sI Z I89_2 100 b91_3 i3 i2).bind fun I96_4 =>
      f74_b97 kad N Z a0 I96_4
set_option maxRecDepth 20000 in
theorem Tf74_b73 {kad : Nat → Nat} {N : Nat} {Z : AZ} {d : Nat} {t : Option Nat × (Nat × Nat)} (hd : 1 ≤ d) : ∀ (a0 : Nat) (i1 : Int32) (i2 : Int32) (i3 : Int32) (I : AI) (r : Unit × AI), f74_b73 kad N Z a0 i1 i2 i3 I = some r → aGo kad d 74 (73, ([(0, .ref a0), (1, .int i1), (2, .int i2), (3, .int i3)], [])) (aMem Z I, t) (qV Z t r) := by
  intro a0 i1 i2 i3 I r h
  unfold f74_b73 at h
  refine go_ops aMi74 1 _ (f1 := (74, ([(0, .ref a0), (1, .int i1), (2, .int i2), (3, .int i3)], [.int i3]))) rfl ?_
  refine gg_br (b := decide (i3 < 0)) (tg := 97) (off := 23) aMi74 rfl rfl rfl rfl (fun hb => ?_) (fun hb => ?_)
  · rw [if_pos (of_decide_eq_true hb)] at h
    refine go_le (lv1 := [(0, .ref a0)]) (aLe_of (show (List.map (fun q => q.1) ([(0, .ref a0)] : ALv)).Nodup from (by show ([0] : List Nat).Nodup; decide)) (aSubL_cons rfl aSubL_nil)) ?_
    exact Tf74_b97 hd a0 I _ h
  · rw [if_neg (of_decide_eq_false hb)] at h
    refine go_ops aMi74 2 _ (f1 := (80, ([(0, .ref a0), (1, .int i1), (2, .int i2), (3, .int i3)], [.int (20 : Int32), .int i3]))) rfl ?_
    refine gg_br (b := decide ((20 : Int32) ≤ i3)) (tg := 97) (off := 17) aMi74 rfl rfl rfl rfl (fun hb => ?_) (fun hb => ?_)
    · rw [if_pos (of_decide_eq_true hb)] at h
      refine go_le (lv1 := [(0, .ref a0)]) (aLe_of (show (List.map (fun q => q.1) ([(0, .ref a0)] : ALv)).Nodup from (by show ([0] : List Nat).Nodup; decide)) (aSubL_cons rfl aSubL_nil)) ?_
      exact Tf74_b97 hd a0 I _ h
    · rw [if_neg (of_decide_eq_false hb)] at h
      refine go_ops aMi74 1 _ (f1 := (84, ([(0, .ref a0), (1, .int i1), (2, .int i2), (3, .int i3)], [.ref a0]))) rfl ?_
      obtain ⟨b84_1, hxb84_1, h⟩ := Option.bind_eq_some_iff.mp h
      refine gg_gR aMi74 rfl rfl rfl hxb84_1 ?_
      refine go_ops aMi74 2 _ (f1 := (89, ([(0, .ref a0), (1, .int i1), (2, .int i2), (3, .int i3)], [.int i1, .int i3, .ref b84_1]))) rfl ?_
      obtain ⟨I89_2, hxI89_2, h⟩ := Option.bind_eq_some_iff.mp h
      refine gg_sI (Or.inl ⟨rfl, rfl⟩) aMi74 rfl hxI89_2 ?_
      refine go_ops aMi74 1 _ (f1 := (91, ([(0, .ref a0), (1, .int i1), (2, .int i2), (3, .int i3)], [.ref a0]))) rfl ?_
      obtain ⟨b91_3, hxb91_3, h⟩ := Option.bind_eq_some_iff.mp h
      refine gg_gR aMi74 rfl rfl rfl hxb91_3 ?_
      refine go_ops aMi74 2 _ (f1 := (96, ([(0, .ref a0), (1, .int i1), (2, .int i2), (3, .int i3)], [.int i2, .int i3, .ref b91_3]))) rfl ?_
      obtain ⟨I96_4, hxI96_4, h⟩ := Option.bind_eq_some_iff.mp h
      refine gg_sI (Or.inl ⟨rfl, rfl⟩) aMi74 rfl hxI96_4 ?_
      refine go_le (lv1 := [(0, .ref a0)]) (aLe_of (show (List.map (fun q => q.1) ([(0, .ref a0)] : ALv)).Nodup from (by show ([0] : List Nat).Nodup; decide)) (aSubL_cons rfl aSubL_nil)) ?_
      exact Tf74_b97 hd a0 I96_4 _ h
def f74_b22 (kad : Nat → Nat) (N : Nat) (Z : AZ) : Nat → Nat → Int32 → Int32 → Int32 → Int32 → AI → Option (Unit × AI)
  | 0, _, _, _, _, _, _ => none
  | F + 1, a0, i1, i2, i3, i4, I =>
    if i4 ≤ i3 then
      f74_b73 kad N Z a0 i1 i2 i3 I
    else
      if (20 : Int32) ≤ i4 then
        f74_b73 kad N Z a0 i1 i2 i3 I
      else
        (gR Z I 6 1 a0).bind fun b36_1 =>
        (gR Z I 6 1 a0).bind fun b42_2 =>
        (lI Z I 100 b42_2 (i4 - (1 : Int32))).bind fun x49_3 =>
        (sI Z I 100 b36_1 i4 x49_3).bind fun I50_4 =>
        (gR Z I50_4 6 2 a0).bind fun b52_5 =>
        (gR Z I50_4 6 2 a0).bind fun b58_6 =>
        (lI Z I50_4 100 b58_6 (i4 - (1 : Int32))).bind fun x65_7 =>
        (sI Z I50_4 100 b52_5 i4 x65_7).bind fun I66_8 =>
        f74_b22 kad N Z F a0 i1 i2 i3 (i4 + (Int32.ofInt (-1))) I66_8
set_option maxRecDepth 20000 in
theorem Tf74_b22 {kad : Nat → Nat} {N : Nat} {Z : AZ} {d : Nat} {t : Option Nat × (Nat × Nat)} (hd : 1 ≤ d) : ∀ (F : Nat) (a0 : Nat) (i1 : Int32) (i2 : Int32) (i3 : Int32) (i4 : Int32) (I : AI) (r : Unit × AI), f74_b22 kad N Z F a0 i1 i2 i3 i4 I = some r → aGo kad d 74 (22, ([(0, .ref a0), (1, .int i1), (2, .int i2), (3, .int i3), (4, .int i4)], [])) (aMem Z I, t) (qV Z t r) := by
  intro F
  induction F with
  | zero => intro a0 i1 i2 i3 i4 I r h; cases h
  | succ F ih =>
    intro a0 i1 i2 i3 i4 I r h
    unfold f74_b22 at h
    refine go_ops aMi74 2 _ (f1 := (25, ([(0, .ref a0), (1, .int i1), (2, .int i2), (3, .int i3), (4, .int i4)], [.int i3, .int i4]))) rfl ?_
    refine gg_br (b := decide (i4 ≤ i3)) (tg := 73) (off := 48) aMi74 rfl rfl rfl rfl (fun hb => ?_) (fun hb => ?_)
    · rw [if_pos (of_decide_eq_true hb)] at h
      refine go_le (lv1 := [(0, .ref a0), (1, .int i1), (2, .int i2), (3, .int i3)]) (aLe_of (show (List.map (fun q => q.1) ([(0, .ref a0), (1, .int i1), (2, .int i2), (3, .int i3)] : ALv)).Nodup from (by show ([0, 1, 2, 3] : List Nat).Nodup; decide)) (aSubL_cons rfl (aSubL_cons rfl (aSubL_cons rfl (aSubL_cons rfl aSubL_nil))))) ?_
      exact Tf74_b73 hd a0 i1 i2 i3 I _ h
    · rw [if_neg (of_decide_eq_false hb)] at h
      refine go_ops aMi74 2 _ (f1 := (32, ([(0, .ref a0), (1, .int i1), (2, .int i2), (3, .int i3), (4, .int i4)], [.int (20 : Int32), .int i4]))) rfl ?_
      refine gg_br (b := decide ((20 : Int32) ≤ i4)) (tg := 73) (off := 41) aMi74 rfl rfl rfl rfl (fun hb => ?_) (fun hb => ?_)
      · rw [if_pos (of_decide_eq_true hb)] at h
        refine go_le (lv1 := [(0, .ref a0), (1, .int i1), (2, .int i2), (3, .int i3)]) (aLe_of (show (List.map (fun q => q.1) ([(0, .ref a0), (1, .int i1), (2, .int i2), (3, .int i3)] : ALv)).Nodup from (by show ([0, 1, 2, 3] : List Nat).Nodup; decide)) (aSubL_cons rfl (aSubL_cons rfl (aSubL_cons rfl (aSubL_cons rfl aSubL_nil))))) ?_
        exact Tf74_b73 hd a0 i1 i2 i3 I _ h
      · rw [if_neg (of_decide_eq_false hb)] at h
        refine go_ops aMi74 1 _ (f1 := (36, ([(0, .ref a0), (1, .int i1), (2, .int i2), (3, .int i3), (4, .int i4)], [.ref a0]))) rfl ?_
        obtain ⟨b36_1, hxb36_1, h⟩ := Option.bind_eq_some_iff.mp h
        refine gg_gR aMi74 rfl rfl rfl hxb36_1 ?_
        refine go_ops aMi74 2 _ (f1 := (42, ([(0, .ref a0), (1, .int i1), (2, .int i2), (3, .int i3), (4, .int i4)], [.ref a0, .int i4, .ref b36_1]))) rfl ?_
        obtain ⟨b42_2, hxb42_2, h⟩ := Option.bind_eq_some_iff.mp h
        refine gg_gR aMi74 rfl rfl rfl hxb42_2 ?_
        refine go_ops aMi74 3 _ (f1 := (49, ([(0, .ref a0), (1, .int i1), (2, .int i2), (3, .int i3), (4, .int i4)], [.int (i4 - (1 : Int32)), .ref b42_2, .int i4, .ref b36_1]))) rfl ?_
        obtain ⟨x49_3, hxx49_3, h⟩ := Option.bind_eq_some_iff.mp h
        refine gg_lI (Or.inl ⟨rfl, rfl⟩) aMi74 rfl hxx49_3 ?_
        obtain ⟨I50_4, hxI50_4, h⟩ := Option.bind_eq_some_iff.mp h
        refine gg_sI (Or.inl ⟨rfl, rfl⟩) aMi74 rfl hxI50_4 ?_
        refine go_ops aMi74 1 _ (f1 := (52, ([(0, .ref a0), (1, .int i1), (2, .int i2), (3, .int i3), (4, .int i4)], [.ref a0]))) rfl ?_
        obtain ⟨b52_5, hxb52_5, h⟩ := Option.bind_eq_some_iff.mp h
        refine gg_gR aMi74 rfl rfl rfl hxb52_5 ?_
        refine go_ops aMi74 2 _ (f1 := (58, ([(0, .ref a0), (1, .int i1), (2, .int i2), (3, .int i3), (4, .int i4)], [.ref a0, .int i4, .ref b52_5]))) rfl ?_
        obtain ⟨b58_6, hxb58_6, h⟩ := Option.bind_eq_some_iff.mp h
        refine gg_gR aMi74 rfl rfl rfl hxb58_6 ?_
        refine go_ops aMi74 3 _ (f1 := (65, ([(0, .ref a0), (1, .int i1), (2, .int i2), (3, .int i3), (4, .int i4)], [.int (i4 - (1 : Int32)), .ref b58_6, .int i4, .ref b52_5]))) rfl ?_
        obtain ⟨x65_7, hxx65_7, h⟩ := Option.bind_eq_some_iff.mp h
        refine gg_lI (Or.inl ⟨rfl, rfl⟩) aMi74 rfl hxx65_7 ?_
        obtain ⟨I66_8, hxI66_8, h⟩ := Option.bind_eq_some_iff.mp h
        refine gg_sI (Or.inl ⟨rfl, rfl⟩) aMi74 rfl hxI66_8 ?_
        refine go_ops aMi74 2 _ (f1 := (22, ([(4, .int (i4 + (Int32.ofInt (-1)))), (0, .ref a0), (1, .int i1), (2, .int i2), (3, .int i3)], []))) rfl ?_
        refine go_le (lv1 := [(0, .ref a0), (1, .int i1), (2, .int i2), (3, .int i3), (4, .int (i4 + (Int32.ofInt (-1))))]) (aLe_of (show (List.map (fun q => q.1) ([(0, .ref a0), (1, .int i1), (2, .int i2), (3, .int i3), (4, .int (i4 + (Int32.ofInt (-1))))] : ALv)).Nodup from (by show ([0, 1, 2, 3, 4] : List Nat).Nodup; decide)) (aSubL_cons rfl (aSubL_cons rfl (aSubL_cons rfl (aSubL_cons rfl (aSubL_cons rfl aSubL_nil)))))) ?_
        exact ih a0 i1 i2 i3 (i4 + (Int32.ofInt (-1))) I66_8 _ h
def f74 (kad : Nat → Nat) (N : Nat) (Z : AZ) (a0 : Nat) (i1 : Int32) (i2 : Int32) (I : AI) : Option (Unit × AI) :=
  (gI Z I 6 0 a0).bind fun x1_1 =>
  if x1_1 < (20 : Int32) then
    (isK Z a0 6).bind fun u12_2 =>
    (f75 kad N Z a0 i2 I).bind fun r12_3 =>
    (gI Z r12_3.2 6 0 a0).bind fun x17_4 =>
    f74_b22 kad N Z N a0 i1 i2 r12_3.1 x17_4 r12_3.2
  else
    some ((), I)
set_option maxRecDepth 20000 in
theorem Tf74 {kad : Nat → Nat} {N : Nat} {Z : AZ} {d : Nat} {t : Option Nat × (Nat × Nat)} (hd : 1 ≤ d) : ∀ (a0 : Nat) (i1 : Int32) (i2 : Int32) (I : AI) (r : Unit × AI), f74 kad N Z a0 i1 i2 I = some r → aGo kad d 74 (0, ([(0, .ref a0), (1, .int i1), (2, .int i2)], [])) (aMem Z I, t) (qV Z t r) := by
  intro a0 i1 i2 I r h
  unfold f74 at h
  refine go_ops aMi74 1 _ (f1 := (1, ([(0, .ref a0), (1, .int i1), (2, .int i2)], [.ref a0]))) rfl ?_
  obtain ⟨x1_1, hxx1_1, h⟩ := Option.bind_eq_some_iff.mp h
  refine gg_gI aMi74 rfl rfl rfl hxx1_1 ?_
  refine go_ops aMi74 1 _ (f1 := (6, ([(0, .ref a0), (1, .int i1), (2, .int i2)], [.int (20 : Int32), .int x1_1]))) rfl ?_
  refine gg_br (b := decide (x1_1 < (20 : Int32))) (tg := 10) (off := 4) aMi74 rfl rfl rfl rfl (fun hb => ?_) (fun hb => ?_)
  · rw [if_pos (of_decide_eq_true hb)] at h
    refine go_ops aMi74 2 _ (f1 := (12, ([(0, .ref a0), (1, .int i1), (2, .int i2)], [.int i2, .ref a0]))) rfl ?_
    obtain ⟨u12_2, hxu12_2, h⟩ := Option.bind_eq_some_iff.mp h
    obtain ⟨r12_3, hxr12_3, h⟩ := Option.bind_eq_some_iff.mp h
    refine gg_cv (as := [.int i2]) (r := []) aMi74 rfl rfl rfl aMi75 (Nat.le_of_ble_eq_true rfl) rfl (Nat.le_of_ble_eq_true rfl) (Nat.le_of_ble_eq_true rfl) (by omega) hxu12_2 (Tf75 (by omega) a0 i2 I _ hxr12_3) ?_
    show aGo kad d 74 (15, ([(0, .ref a0), (1, .int i1), (2, .int i2)], [.int r12_3.1])) (aMem Z r12_3.2, t) _
    refine go_ops aMi74 2 _ (f1 := (17, ([(3, .int r12_3.1), (0, .ref a0), (1, .int i1), (2, .int i2)], [.ref a0]))) rfl ?_
    obtain ⟨x17_4, hxx17_4, h⟩ := Option.bind_eq_some_iff.mp h
    refine gg_gI aMi74 rfl rfl rfl hxx17_4 ?_
    refine go_ops aMi74 1 _ (f1 := (22, ([(4, .int x17_4), (3, .int r12_3.1), (0, .ref a0), (1, .int i1), (2, .int i2)], []))) rfl ?_
    refine go_le (lv1 := [(0, .ref a0), (1, .int i1), (2, .int i2), (3, .int r12_3.1), (4, .int x17_4)]) (aLe_of (show (List.map (fun q => q.1) ([(0, .ref a0), (1, .int i1), (2, .int i2), (3, .int r12_3.1), (4, .int x17_4)] : ALv)).Nodup from (by show ([0, 1, 2, 3, 4] : List Nat).Nodup; decide)) (aSubL_cons rfl (aSubL_cons rfl (aSubL_cons rfl (aSubL_cons rfl (aSubL_cons rfl aSubL_nil)))))) ?_
    exact Tf74_b22 hd N a0 i1 i2 r12_3.1 x17_4 r12_3.2 _ h
  · rw [if_neg (of_decide_eq_false hb)] at h
    cases h
    exact go_ret aMi74 rfl rfl ⟨rfl, rfl⟩
-- KernelGym$Keys.isOneToldFor (I)Z
def f76_b34 (kad : Nat → Nat) (N : Nat) (Z : AZ)  (I : AI) : Option (Int32 × AI) :=
  if (0 : Int32) = 0 ∨ (0 : Int32) = 1 then some ((0 : Int32), I) else none
set_option maxRecDepth 20000 in
theorem Tf76_b34 {kad : Nat → Nat} {N : Nat} {Z : AZ} {d : Nat} {t : Option Nat × (Nat × Nat)} (hd : 0 ≤ d) : ∀  (I : AI) (r : Int32 × AI), f76_b34 kad N Z  I = some r → aGo kad d 76 (34, ([], [])) (aMem Z I, t) (qI Z t r) := by
  intro  I r h
  unfold f76_b34 at h
  refine go_ops aMi76 1 _ (f1 := (35, ([], [.int (0 : Int32)]))) rfl ?_
  split at h
  · rename_i hz
    cases h
    exact go_ret aMi76 rfl (aRetZ hz) ⟨rfl, rfl⟩
  · cases h
def f76_b2 (kad : Nat → Nat) (N : Nat) (Z : AZ) : Nat → Nat → Int32 → Int32 → AI → Option (Int32 × AI)
  | 0, _, _, _, _ => none
  | F + 1, a0, i1, i2, I =>
    (gI Z I 6 0 a0).bind fun x4_1 =>
    if x4_1 ≤ i2 then
      f76_b34 kad N Z  I
    else
      if (20 : Int32) ≤ i2 then
        f76_b34 kad N Z  I
      else
        (gR Z I 6 2 a0).bind fun b17_2 =>
        (lI Z I 100 b17_2 i2).bind fun x21_3 =>
        if ¬ x21_3 = i1 then
          f76_b2 kad N Z F a0 i1 (i2 + (1 : Int32)) I
        else
          if (1 : Int32) = 0 ∨ (1 : Int32) = 1 then some ((1 : Int32), I) else none
set_option maxRecDepth 20000 in
theorem Tf76_b2 {kad : Nat → Nat} {N : Nat} {Z : AZ} {d : Nat} {t : Option Nat × (Nat × Nat)} (hd : 0 ≤ d) : ∀ (F : Nat) (a0 : Nat) (i1 : Int32) (i2 : Int32) (I : AI) (r : Int32 × AI), f76_b2 kad N Z F a0 i1 i2 I = some r → aGo kad d 76 (2, ([(0, .ref a0), (1, .int i1), (2, .int i2)], [])) (aMem Z I, t) (qI Z t r) := by
  intro F
  induction F with
  | zero => intro a0 i1 i2 I r h; cases h
  | succ F ih =>
    intro a0 i1 i2 I r h
    unfold f76_b2 at h
    refine go_ops aMi76 2 _ (f1 := (4, ([(0, .ref a0), (1, .int i1), (2, .int i2)], [.ref a0, .int i2]))) rfl ?_
    obtain ⟨x4_1, hxx4_1, h⟩ := Option.bind_eq_some_iff.mp h
    refine gg_gI aMi76 rfl rfl rfl hxx4_1 ?_
    refine gg_br (b := decide (x4_1 ≤ i2)) (tg := 34) (off := 27) aMi76 rfl rfl rfl rfl (fun hb => ?_) (fun hb => ?_)
    · rw [if_pos (of_decide_eq_true hb)] at h
      refine go_le (lv1 := []) (aLe_of (show (List.map (fun q => q.1) ([] : ALv)).Nodup from (by show ([] : List Nat).Nodup; decide)) aSubL_nil) ?_
      exact Tf76_b34 hd  I _ h
    · rw [if_neg (of_decide_eq_false hb)] at h
      refine go_ops aMi76 2 _ (f1 := (13, ([(0, .ref a0), (1, .int i1), (2, .int i2)], [.int (20 : Int32), .int i2]))) rfl ?_
      refine gg_br (b := decide ((20 : Int32) ≤ i2)) (tg := 34) (off := 21) aMi76 rfl rfl rfl rfl (fun hb => ?_) (fun hb => ?_)
      · rw [if_pos (of_decide_eq_true hb)] at h
        refine go_le (lv1 := []) (aLe_of (show (List.map (fun q => q.1) ([] : ALv)).Nodup from (by show ([] : List Nat).Nodup; decide)) aSubL_nil) ?_
        exact Tf76_b34 hd  I _ h
      · rw [if_neg (of_decide_eq_false hb)] at h
        refine go_ops aMi76 1 _ (f1 := (17, ([(0, .ref a0), (1, .int i1), (2, .int i2)], [.ref a0]))) rfl ?_
        obtain ⟨b17_2, hxb17_2, h⟩ := Option.bind_eq_some_iff.mp h
        refine gg_gR aMi76 rfl rfl rfl hxb17_2 ?_
        refine go_ops aMi76 1 _ (f1 := (21, ([(0, .ref a0), (1, .int i1), (2, .int i2)], [.int i2, .ref b17_2]))) rfl ?_
        obtain ⟨x21_3, hxx21_3, h⟩ := Option.bind_eq_some_iff.mp h
        refine gg_lI (Or.inl ⟨rfl, rfl⟩) aMi76 rfl hxx21_3 ?_
        refine go_ops aMi76 1 _ (f1 := (23, ([(0, .ref a0), (1, .int i1), (2, .int i2)], [.int i1, .int x21_3]))) rfl ?_
        refine gg_br (b := decide (¬ x21_3 = i1)) (tg := 28) (off := 5) aMi76 rfl rfl rfl rfl (fun hb => ?_) (fun hb => ?_)
        · rw [if_pos (of_decide_eq_true hb)] at h
          refine go_ops aMi76 2 _ (f1 := (2, ([(2, .int (i2 + (1 : Int32))), (0, .ref a0), (1, .int i1)], []))) rfl ?_
          refine go_le (lv1 := [(0, .ref a0), (1, .int i1), (2, .int (i2 + (1 : Int32)))]) (aLe_of (show (List.map (fun q => q.1) ([(0, .ref a0), (1, .int i1), (2, .int (i2 + (1 : Int32)))] : ALv)).Nodup from (by show ([0, 1, 2] : List Nat).Nodup; decide)) (aSubL_cons rfl (aSubL_cons rfl (aSubL_cons rfl aSubL_nil)))) ?_
          exact ih a0 i1 (i2 + (1 : Int32)) I _ h
        · rw [if_neg (of_decide_eq_false hb)] at h
          refine go_ops aMi76 1 _ (f1 := (27, ([(0, .ref a0), (1, .int i1), (2, .int i2)], [.int (1 : Int32)]))) rfl ?_
          split at h
          · rename_i hz
            cases h
            exact go_ret aMi76 rfl (aRetZ hz) ⟨rfl, rfl⟩
          · cases h
def f76 (kad : Nat → Nat) (N : Nat) (Z : AZ) (a0 : Nat) (i1 : Int32) (I : AI) : Option (Int32 × AI) :=
  f76_b2 kad N Z N a0 i1 (0 : Int32) I
set_option maxRecDepth 20000 in
theorem Tf76 {kad : Nat → Nat} {N : Nat} {Z : AZ} {d : Nat} {t : Option Nat × (Nat × Nat)} (hd : 0 ≤ d) : ∀ (a0 : Nat) (i1 : Int32) (I : AI) (r : Int32 × AI), f76 kad N Z a0 i1 I = some r → aGo kad d 76 (0, ([(0, .ref a0), (1, .int i1)], [])) (aMem Z I, t) (qI Z t r) := by
  intro a0 i1 I r h
  unfold f76 at h
  refine go_ops aMi76 2 _ (f1 := (2, ([(2, .int (0 : Int32)), (0, .ref a0), (1, .int i1)], []))) rfl ?_
  refine go_le (lv1 := [(0, .ref a0), (1, .int i1), (2, .int (0 : Int32))]) (aLe_of (show (List.map (fun q => q.1) ([(0, .ref a0), (1, .int i1), (2, .int (0 : Int32))] : ALv)).Nodup from (by show ([0, 1, 2] : List Nat).Nodup; decide)) (aSubL_cons rfl (aSubL_cons rfl (aSubL_cons rfl aSubL_nil)))) ?_
  exact Tf76_b2 hd N a0 i1 (0 : Int32) I _ h
-- KernelGym$Keys.keyAt (I)I
def f77_b20 (kad : Nat → Nat) (N : Nat) (Z : AZ) (s0 : Int32) (I : AI) : Option (Int32 × AI) :=
  some (s0, I)
set_option maxRecDepth 20000 in
theorem Tf77_b20 {kad : Nat → Nat} {N : Nat} {Z : AZ} {d : Nat} {t : Option Nat × (Nat × Nat)} (hd : 0 ≤ d) : ∀ (s0 : Int32) (I : AI) (r : Int32 × AI), f77_b20 kad N Z s0 I = some r → aGo kad d 77 (20, ([], [.int s0])) (aMem Z I, t) (qI Z t r) := by
  intro s0 I r h
  unfold f77_b20 at h
  cases h
  exact go_ret aMi77 rfl aRetI ⟨rfl, rfl⟩
def f77_b19 (kad : Nat → Nat) (N : Nat) (Z : AZ)  (I : AI) : Option (Int32 × AI) :=
  f77_b20 kad N Z (0 : Int32) I
set_option maxRecDepth 20000 in
theorem Tf77_b19 {kad : Nat → Nat} {N : Nat} {Z : AZ} {d : Nat} {t : Option Nat × (Nat × Nat)} (hd : 0 ≤ d) : ∀  (I : AI) (r : Int32 × AI), f77_b19 kad N Z  I = some r → aGo kad d 77 (19, ([], [])) (aMem Z I, t) (qI Z t r) := by
  intro  I r h
  unfold f77_b19 at h
  refine go_ops aMi77 1 _ (f1 := (20, ([], [.int (0 : Int32)]))) rfl ?_
  exact Tf77_b20 hd (0 : Int32) I _ h
def f77 (kad : Nat → Nat) (N : Nat) (Z : AZ) (a0 : Nat) (i1 : Int32) (I : AI) : Option (Int32 × AI) :=
  if i1 < 0 then
    f77_b19 kad N Z  I
  else
    if (20 : Int32) ≤ i1 then
      f77_b19 kad N Z  I
    else
      (gR Z I 6 1 a0).bind fun b11_1 =>
      (lI Z I 100 b11_1 i1).bind fun x15_2 =>
      f77_b20 kad N Z x15_2 I
set_option maxRecDepth 20000 in
theorem Tf77 {kad : Nat → Nat} {N : Nat} {Z : AZ} {d : Nat} {t : Option Nat × (Nat × Nat)} (hd : 0 ≤ d) : ∀ (a0 : Nat) (i1 : Int32) (I : AI) (r : Int32 × AI), f77 kad N Z a0 i1 I = some r → aGo kad d 77 (0, ([(0, .ref a0), (1, .int i1)], [])) (aMem Z I, t) (qI Z t r) := by
  intro a0 i1 I r h
  unfold f77 at h
  refine go_ops aMi77 1 _ (f1 := (1, ([(0, .ref a0), (1, .int i1)], [.int i1]))) rfl ?_
  refine gg_br (b := decide (i1 < 0)) (tg := 19) (off := 18) aMi77 rfl rfl rfl rfl (fun hb => ?_) (fun hb => ?_)
  · rw [if_pos (of_decide_eq_true hb)] at h
    refine go_le (lv1 := []) (aLe_of (show (List.map (fun q => q.1) ([] : ALv)).Nodup from (by show ([] : List Nat).Nodup; decide)) aSubL_nil) ?_
    exact Tf77_b19 hd  I _ h
  · rw [if_neg (of_decide_eq_false hb)] at h
    refine go_ops aMi77 2 _ (f1 := (7, ([(0, .ref a0), (1, .int i1)], [.int (20 : Int32), .int i1]))) rfl ?_
    refine gg_br (b := decide ((20 : Int32) ≤ i1)) (tg := 19) (off := 12) aMi77 rfl rfl rfl rfl (fun hb => ?_) (fun hb => ?_)
    · rw [if_pos (of_decide_eq_true hb)] at h
      refine go_le (lv1 := []) (aLe_of (show (List.map (fun q => q.1) ([] : ALv)).Nodup from (by show ([] : List Nat).Nodup; decide)) aSubL_nil) ?_
      exact Tf77_b19 hd  I _ h
    · rw [if_neg (of_decide_eq_false hb)] at h
      refine go_ops aMi77 1 _ (f1 := (11, ([(0, .ref a0), (1, .int i1)], [.ref a0]))) rfl ?_
      obtain ⟨b11_1, hxb11_1, h⟩ := Option.bind_eq_some_iff.mp h
      refine gg_gR aMi77 rfl rfl rfl hxb11_1 ?_
      refine go_ops aMi77 1 _ (f1 := (15, ([(0, .ref a0), (1, .int i1)], [.int i1, .ref b11_1]))) rfl ?_
      obtain ⟨x15_2, hxx15_2, h⟩ := Option.bind_eq_some_iff.mp h
      refine gg_lI (Or.inl ⟨rfl, rfl⟩) aMi77 rfl hxx15_2 ?_
      refine go_ops aMi77 1 _ (f1 := (20, ([(0, .ref a0), (1, .int i1)], [.int x15_2]))) rfl ?_
      refine go_le (lv1 := []) (aLe_of (show (List.map (fun q => q.1) ([] : ALv)).Nodup from (by show ([] : List Nat).Nodup; decide)) aSubL_nil) ?_
      exact Tf77_b20 hd x15_2 I _ h
-- KernelGym$Machine.letKeysCome ()V
def f85_b25 (kad : Nat → Nat) (N : Nat) (Z : AZ)  (I : AI) : Option (Unit × AI) :=
  some ((), I)
set_option maxRecDepth 20000 in
theorem Tf85_b25 {kad : Nat → Nat} {N : Nat} {Z : AZ} {d : Nat} {t : Option Nat × (Nat × Nat)} (hd : 1 ≤ d) : ∀  (I : AI) (r : Unit × AI), f85_b25 kad N Z  I = some r → aGo kad d 85 (25, ([], [])) (aMem Z I, t) (qV Z t r) := by
  intro  I r h
  unfold f85_b25 at h
  cases h
  exact go_ret aMi85 rfl rfl ⟨rfl, rfl⟩
def f85 (kad : Nat → Nat) (N : Nat) (Z : AZ) (a0 : Nat) (I : AI) : Option (Unit × AI) :=
  (gR Z I 8 4 a0).bind fun b1_1 =>
  (gR Z I 8 0 a0).bind fun b5_2 =>
  (gI Z I 2 2 b5_2).bind fun x8_3 =>
  (isK Z b1_1 6).bind fun u11_4 =>
  (f76 kad N Z b1_1 x8_3 I).bind fun r11_5 =>
  if r11_5.1 = 0 then
    f85_b25 kad N Z  r11_5.2
  else
    (gR Z r11_5.2 8 0 a0).bind fun b18_6 =>
    (pB Z r11_5.2 2 9 b18_6 (1 : Int32)).bind fun I22_7 =>
    f85_b25 kad N Z  I22_7
set_option maxRecDepth 20000 in
theorem Tf85 {kad : Nat → Nat} {N : Nat} {Z : AZ} {d : Nat} {t : Option Nat × (Nat × Nat)} (hd : 1 ≤ d) : ∀ (a0 : Nat) (I : AI) (r : Unit × AI), f85 kad N Z a0 I = some r → aGo kad d 85 (0, ([(0, .ref a0)], [])) (aMem Z I, t) (qV Z t r) := by
  intro a0 I r h
  unfold f85 at h
  refine go_ops aMi85 1 _ (f1 := (1, ([(0, .ref a0)], [.ref a0]))) rfl ?_
  obtain ⟨b1_1, hxb1_1, h⟩ := Option.bind_eq_some_iff.mp h
  refine gg_gR aMi85 rfl rfl rfl hxb1_1 ?_
  refine go_ops aMi85 1 _ (f1 := (5, ([(0, .ref a0)], [.ref a0, .ref b1_1]))) rfl ?_
  obtain ⟨b5_2, hxb5_2, h⟩ := Option.bind_eq_some_iff.mp h
  refine gg_gR aMi85 rfl rfl rfl hxb5_2 ?_
  obtain ⟨x8_3, hxx8_3, h⟩ := Option.bind_eq_some_iff.mp h
  refine gg_gI aMi85 rfl rfl rfl hxx8_3 ?_
  obtain ⟨u11_4, hxu11_4, h⟩ := Option.bind_eq_some_iff.mp h
  obtain ⟨r11_5, hxr11_5, h⟩ := Option.bind_eq_some_iff.mp h
  refine gg_cv (as := [.int x8_3]) (r := []) aMi85 rfl rfl rfl aMi76 (Nat.le_of_ble_eq_true rfl) rfl (Nat.le_of_ble_eq_true rfl) (Nat.le_of_ble_eq_true rfl) (by omega) hxu11_4 (Tf76 (by omega) b1_1 x8_3 I _ hxr11_5) ?_
  show aGo kad d 85 (14, ([(0, .ref a0)], [.int r11_5.1])) (aMem Z r11_5.2, t) _
  refine gg_br (b := decide (r11_5.1 = 0)) (tg := 25) (off := 11) aMi85 rfl rfl rfl rfl (fun hb => ?_) (fun hb => ?_)
  · rw [if_pos (of_decide_eq_true hb)] at h
    refine go_le (lv1 := []) (aLe_of (show (List.map (fun q => q.1) ([] : ALv)).Nodup from (by show ([] : List Nat).Nodup; decide)) aSubL_nil) ?_
    exact Tf85_b25 hd  r11_5.2 _ h
  · rw [if_neg (of_decide_eq_false hb)] at h
    refine go_ops aMi85 1 _ (f1 := (18, ([(0, .ref a0)], [.ref a0]))) rfl ?_
    obtain ⟨b18_6, hxb18_6, h⟩ := Option.bind_eq_some_iff.mp h
    refine gg_gR aMi85 rfl rfl rfl hxb18_6 ?_
    refine go_ops aMi85 1 _ (f1 := (22, ([(0, .ref a0)], [.int (1 : Int32), .ref b18_6]))) rfl ?_
    obtain ⟨I22_7, hxI22_7, h⟩ := Option.bind_eq_some_iff.mp h
    refine gg_pB aMi85 rfl rfl rfl rfl (by decide) hxI22_7 ?_
    refine go_le (lv1 := []) (aLe_of (show (List.map (fun q => q.1) ([] : ALv)).Nodup from (by show ([] : List Nat).Nodup; decide)) aSubL_nil) ?_
    exact Tf85_b25 hd  I22_7 _ h
-- KernelGym$Machine.turnOn ([I)I
def f80_b63 (kad : Nat → Nat) (N : Nat) (Z : AZ) (a0 : Nat) (i2 : Int32) (I : AI) : Option (Int32 × AI) :=
  (isK Z a0 8).bind fun u64_1 =>
  (f85 kad N Z a0 I).bind fun r64_2 =>
  some (i2, r64_2.2)
set_option maxRecDepth 20000 in
theorem Tf80_b63 {kad : Nat → Nat} {N : Nat} {Z : AZ} {d : Nat} {t : Option Nat × (Nat × Nat)} (hd : 3 ≤ d) : ∀ (a0 : Nat) (i2 : Int32) (I : AI) (r : Int32 × AI), f80_b63 kad N Z a0 i2 I = some r → aGo kad d 80 (63, ([(0, .ref a0), (2, .int i2)], [])) (aMem Z I, t) (qI Z t r) := by
  intro a0 i2 I r h
  unfold f80_b63 at h
  refine go_ops aMi80 1 _ (f1 := (64, ([(0, .ref a0), (2, .int i2)], [.ref a0]))) rfl ?_
  obtain ⟨u64_1, hxu64_1, h⟩ := Option.bind_eq_some_iff.mp h
  obtain ⟨r64_2, hxr64_2, h⟩ := Option.bind_eq_some_iff.mp h
  refine gg_cv (as := []) (r := []) aMi80 rfl rfl rfl aMi85 (Nat.le_of_ble_eq_true rfl) rfl (Nat.le_of_ble_eq_true rfl) (Nat.le_of_ble_eq_true rfl) (by omega) hxu64_1 (Tf85 (by omega) a0 I _ hxr64_2) ?_
  show aGo kad d 80 (67, ([(0, .ref a0), (2, .int i2)], [])) (aMem Z r64_2.2, t) _
  refine go_ops aMi80 1 _ (f1 := (68, ([(0, .ref a0), (2, .int i2)], [.int i2]))) rfl ?_
  cases h
  exact go_ret aMi80 rfl aRetI ⟨rfl, rfl⟩
def f80 (kad : Nat → Nat) (N : Nat) (Z : AZ) (a0 : Nat) (a1 : Nat) (I : AI) : Option (Int32 × AI) :=
  (gR Z I 8 3 a0).bind fun b1_1 =>
  (isK Z b1_1 3).bind fun u4_2 =>
  (f46 kad N Z b1_1 I).bind fun r4_3 =>
  (gR Z r4_3.2 8 0 a0).bind fun b9_4 =>
  (isK Z b9_4 2).bind fun u12_5 =>
  (f37 kad N Z b9_4 r4_3.2).bind fun r12_6 =>
  (gR Z r12_6.2 8 0 a0).bind fun b16_7 =>
  (pI Z r12_6.2 2 0 b16_7 (1 : Int32)).bind fun I20_8 =>
  (gR Z I20_8 8 0 a0).bind fun b24_9 =>
  (pI Z I20_8 2 3 b24_9 (8 : Int32)).bind fun I29_10 =>
  (gR Z I29_10 8 0 a0).bind fun b33_11 =>
  (pI Z I29_10 2 4 b33_11 (256 : Int32)).bind fun I39_12 =>
  (nL Z a1).bind fun x43_13 =>
  if ¬ x43_13 = (256 : Int32) then
    f80_b63 kad N Z a0 r4_3.1 I39_12
  else
    (gR Z I39_12 8 1 a0).bind fun b53_14 =>
    (cI Z I39_12 a1 (0 : Int32) b53_14 (0 : Int32) (256 : Int32)).bind fun I60_15 =>
    f80_b63 kad N Z a0 r4_3.1 I60_15
set_option maxRecDepth 20000 in
theorem Tf80 {kad : Nat → Nat} {N : Nat} {Z : AZ} {d : Nat} {t : Option Nat × (Nat × Nat)} (hd : 3 ≤ d) : ∀ (a0 : Nat) (a1 : Nat) (I : AI) (r : Int32 × AI), f80 kad N Z a0 a1 I = some r → aGo kad d 80 (0, ([(0, .ref a0), (1, .ref a1)], [])) (aMem Z I, t) (qI Z t r) := by
  intro a0 a1 I r h
  unfold f80 at h
  refine go_ops aMi80 1 _ (f1 := (1, ([(0, .ref a0), (1, .ref a1)], [.ref a0]))) rfl ?_
  obtain ⟨b1_1, hxb1_1, h⟩ := Option.bind_eq_some_iff.mp h
  refine gg_gR aMi80 rfl rfl rfl hxb1_1 ?_
  obtain ⟨u4_2, hxu4_2, h⟩ := Option.bind_eq_some_iff.mp h
  obtain ⟨r4_3, hxr4_3, h⟩ := Option.bind_eq_some_iff.mp h
  refine gg_cv (as := []) (r := []) aMi80 rfl rfl rfl aMi46 (Nat.le_of_ble_eq_true rfl) rfl (Nat.le_of_ble_eq_true rfl) (Nat.le_of_ble_eq_true rfl) (by omega) hxu4_2 (Tf46 (by omega) b1_1 I _ hxr4_3) ?_
  show aGo kad d 80 (7, ([(0, .ref a0), (1, .ref a1)], [.int r4_3.1])) (aMem Z r4_3.2, t) _
  refine go_ops aMi80 2 _ (f1 := (9, ([(2, .int r4_3.1), (0, .ref a0), (1, .ref a1)], [.ref a0]))) rfl ?_
  obtain ⟨b9_4, hxb9_4, h⟩ := Option.bind_eq_some_iff.mp h
  refine gg_gR aMi80 rfl rfl rfl hxb9_4 ?_
  obtain ⟨u12_5, hxu12_5, h⟩ := Option.bind_eq_some_iff.mp h
  obtain ⟨r12_6, hxr12_6, h⟩ := Option.bind_eq_some_iff.mp h
  refine gg_cv (as := []) (r := []) aMi80 rfl rfl rfl aMi37 (Nat.le_of_ble_eq_true rfl) rfl (Nat.le_of_ble_eq_true rfl) (Nat.le_of_ble_eq_true rfl) (by omega) hxu12_5 (Tf37 (by omega) b9_4 r4_3.2 _ hxr12_6) ?_
  show aGo kad d 80 (15, ([(2, .int r4_3.1), (0, .ref a0), (1, .ref a1)], [])) (aMem Z r12_6.2, t) _
  refine go_ops aMi80 1 _ (f1 := (16, ([(2, .int r4_3.1), (0, .ref a0), (1, .ref a1)], [.ref a0]))) rfl ?_
  obtain ⟨b16_7, hxb16_7, h⟩ := Option.bind_eq_some_iff.mp h
  refine gg_gR aMi80 rfl rfl rfl hxb16_7 ?_
  refine go_ops aMi80 1 _ (f1 := (20, ([(2, .int r4_3.1), (0, .ref a0), (1, .ref a1)], [.int (1 : Int32), .ref b16_7]))) rfl ?_
  obtain ⟨I20_8, hxI20_8, h⟩ := Option.bind_eq_some_iff.mp h
  refine gg_pI aMi80 rfl rfl rfl rfl (by decide) hxI20_8 ?_
  refine go_ops aMi80 1 _ (f1 := (24, ([(2, .int r4_3.1), (0, .ref a0), (1, .ref a1)], [.ref a0]))) rfl ?_
  obtain ⟨b24_9, hxb24_9, h⟩ := Option.bind_eq_some_iff.mp h
  refine gg_gR aMi80 rfl rfl rfl hxb24_9 ?_
  refine go_ops aMi80 1 _ (f1 := (29, ([(2, .int r4_3.1), (0, .ref a0), (1, .ref a1)], [.int (8 : Int32), .ref b24_9]))) rfl ?_
  obtain ⟨I29_10, hxI29_10, h⟩ := Option.bind_eq_some_iff.mp h
  refine gg_pI aMi80 rfl rfl rfl rfl (by decide) hxI29_10 ?_
  refine go_ops aMi80 1 _ (f1 := (33, ([(2, .int r4_3.1), (0, .ref a0), (1, .ref a1)], [.ref a0]))) rfl ?_
  obtain ⟨b33_11, hxb33_11, h⟩ := Option.bind_eq_some_iff.mp h
  refine gg_gR aMi80 rfl rfl rfl hxb33_11 ?_
  refine go_ops aMi80 1 _ (f1 := (39, ([(2, .int r4_3.1), (0, .ref a0), (1, .ref a1)], [.int (256 : Int32), .ref b33_11]))) rfl ?_
  obtain ⟨I39_12, hxI39_12, h⟩ := Option.bind_eq_some_iff.mp h
  refine gg_pI aMi80 rfl rfl rfl rfl (by decide) hxI39_12 ?_
  refine go_ops aMi80 1 _ (f1 := (43, ([(2, .int r4_3.1), (0, .ref a0), (1, .ref a1)], [.ref a1]))) rfl ?_
  obtain ⟨x43_13, hxx43_13, h⟩ := Option.bind_eq_some_iff.mp h
  refine gg_len aMi80 rfl hxx43_13 ?_
  refine go_ops aMi80 1 _ (f1 := (47, ([(2, .int r4_3.1), (0, .ref a0), (1, .ref a1)], [.int (256 : Int32), .int x43_13]))) rfl ?_
  refine gg_br (b := decide (¬ x43_13 = (256 : Int32))) (tg := 63) (off := 16) aMi80 rfl rfl rfl rfl (fun hb => ?_) (fun hb => ?_)
  · rw [if_pos (of_decide_eq_true hb)] at h
    refine go_le (lv1 := [(0, .ref a0), (2, .int r4_3.1)]) (aLe_of (show (List.map (fun q => q.1) ([(0, .ref a0), (2, .int r4_3.1)] : ALv)).Nodup from (by show ([0, 2] : List Nat).Nodup; decide)) (aSubL_cons rfl (aSubL_cons rfl aSubL_nil))) ?_
    exact Tf80_b63 hd a0 r4_3.1 I39_12 _ h
  · rw [if_neg (of_decide_eq_false hb)] at h
    refine go_ops aMi80 3 _ (f1 := (53, ([(2, .int r4_3.1), (0, .ref a0), (1, .ref a1)], [.ref a0, .int (0 : Int32), .ref a1]))) rfl ?_
    obtain ⟨b53_14, hxb53_14, h⟩ := Option.bind_eq_some_iff.mp h
    refine gg_gR aMi80 rfl rfl rfl hxb53_14 ?_
    refine go_ops aMi80 2 _ (f1 := (60, ([(2, .int r4_3.1), (0, .ref a0), (1, .ref a1)], [.int (256 : Int32), .int (0 : Int32), .ref b53_14, .int (0 : Int32), .ref a1]))) rfl ?_
    obtain ⟨I60_15, hxI60_15, h⟩ := Option.bind_eq_some_iff.mp h
    refine gg_cp aMi80 rfl rfl (Nat.le_of_ble_eq_true rfl) hxI60_15 ?_
    refine go_le (lv1 := [(0, .ref a0), (2, .int r4_3.1)]) (aLe_of (show (List.map (fun q => q.1) ([(0, .ref a0), (2, .int r4_3.1)] : ALv)).Nodup from (by show ([0, 2] : List Nat).Nodup; decide)) (aSubL_cons rfl (aSubL_cons rfl aSubL_nil))) ?_
    exact Tf80_b63 hd a0 r4_3.1 I60_15 _ h
-- KernelGym$Machine.turnOff ()V
def f81 (kad : Nat → Nat) (N : Nat) (Z : AZ) (a0 : Nat) (I : AI) : Option (Unit × AI) :=
  (gR Z I 8 0 a0).bind fun b1_1 =>
  (isK Z b1_1 2).bind fun u4_2 =>
  (f37 kad N Z b1_1 I).bind fun r4_3 =>
  (gR Z r4_3.2 8 1 a0).bind fun b8_4 =>
  (f306 kad N Z b8_4 (0 : Int32) r4_3.2).bind fun r12_5 =>
  some ((), r12_5.2)
set_option maxRecDepth 20000 in
theorem Tf81 {kad : Nat → Nat} {N : Nat} {Z : AZ} {d : Nat} {t : Option Nat × (Nat × Nat)} (hd : 2 ≤ d) : ∀ (a0 : Nat) (I : AI) (r : Unit × AI), f81 kad N Z a0 I = some r → aGo kad d 81 (0, ([(0, .ref a0)], [])) (aMem Z I, t) (qV Z t r) := by
  intro a0 I r h
  unfold f81 at h
  refine go_ops aMi81 1 _ (f1 := (1, ([(0, .ref a0)], [.ref a0]))) rfl ?_
  obtain ⟨b1_1, hxb1_1, h⟩ := Option.bind_eq_some_iff.mp h
  refine gg_gR aMi81 rfl rfl rfl hxb1_1 ?_
  obtain ⟨u4_2, hxu4_2, h⟩ := Option.bind_eq_some_iff.mp h
  obtain ⟨r4_3, hxr4_3, h⟩ := Option.bind_eq_some_iff.mp h
  refine gg_cv (as := []) (r := []) aMi81 rfl rfl rfl aMi37 (Nat.le_of_ble_eq_true rfl) rfl (Nat.le_of_ble_eq_true rfl) (Nat.le_of_ble_eq_true rfl) (by omega) hxu4_2 (Tf37 (by omega) b1_1 I _ hxr4_3) ?_
  show aGo kad d 81 (7, ([(0, .ref a0)], [])) (aMem Z r4_3.2, t) _
  refine go_ops aMi81 1 _ (f1 := (8, ([(0, .ref a0)], [.ref a0]))) rfl ?_
  obtain ⟨b8_4, hxb8_4, h⟩ := Option.bind_eq_some_iff.mp h
  refine gg_gR aMi81 rfl rfl rfl hxb8_4 ?_
  refine go_ops aMi81 1 _ (f1 := (12, ([(0, .ref a0)], [.int (0 : Int32), .ref b8_4]))) rfl ?_
  obtain ⟨r12_5, hxr12_5, h⟩ := Option.bind_eq_some_iff.mp h
  refine gg_cs (as := [.ref b8_4, .int (0 : Int32)]) (r := []) aMi81 rfl rfl rfl aMi306 rfl (Nat.le_of_ble_eq_true rfl) (Nat.le_of_ble_eq_true rfl) (by omega) (Tf306 (by omega) b8_4 (0 : Int32) r4_3.2 _ hxr12_5) ?_
  show aGo kad d 81 (15, ([(0, .ref a0)], [])) (aMem Z r12_5.2, t) _
  cases h
  exact go_ret aMi81 rfl rfl ⟨rfl, rfl⟩
-- KernelGym$Machine.canStep ()Z
def f82_b29 (kad : Nat → Nat) (N : Nat) (Z : AZ) (s0 : Int32) (I : AI) : Option (Int32 × AI) :=
  if s0 = 0 ∨ s0 = 1 then some (s0, I) else none
set_option maxRecDepth 20000 in
theorem Tf82_b29 {kad : Nat → Nat} {N : Nat} {Z : AZ} {d : Nat} {t : Option Nat × (Nat × Nat)} (hd : 0 ≤ d) : ∀ (s0 : Int32) (I : AI) (r : Int32 × AI), f82_b29 kad N Z s0 I = some r → aGo kad d 82 (29, ([], [.int s0])) (aMem Z I, t) (qI Z t r) := by
  intro s0 I r h
  unfold f82_b29 at h
  split at h
  · rename_i hz
    cases h
    exact go_ret aMi82 rfl (aRetZ hz) ⟨rfl, rfl⟩
  · cases h
def f82_b28 (kad : Nat → Nat) (N : Nat) (Z : AZ)  (I : AI) : Option (Int32 × AI) :=
  f82_b29 kad N Z (0 : Int32) I
set_option maxRecDepth 20000 in
theorem Tf82_b28 {kad : Nat → Nat} {N : Nat} {Z : AZ} {d : Nat} {t : Option Nat × (Nat × Nat)} (hd : 0 ≤ d) : ∀  (I : AI) (r : Int32 × AI), f82_b28 kad N Z  I = some r → aGo kad d 82 (28, ([], [])) (aMem Z I, t) (qI Z t r) := by
  intro  I r h
  unfold f82_b28 at h
  refine go_ops aMi82 1 _ (f1 := (29, ([], [.int (0 : Int32)]))) rfl ?_
  exact Tf82_b29 hd (0 : Int32) I _ h
def f82 (kad : Nat → Nat) (N : Nat) (Z : AZ) (a0 : Nat) (I : AI) : Option (Int32 × AI) :=
  (gR Z I 8 0 a0).bind fun b1_1 =>
  (gI Z I 2 0 b1_1).bind fun x4_2 =>
  if ¬ x4_2 = (1 : Int32) then
    f82_b28 kad N Z  I
  else
    (gR Z I 8 0 a0).bind fun b12_3 =>
    (gI Z I 2 2 b12_3).bind fun x15_4 =>
    if (1000 : Int32) ≤ x15_4 then
      f82_b28 kad N Z  I
    else
      f82_b29 kad N Z (1 : Int32) I
set_option maxRecDepth 20000 in
theorem Tf82 {kad : Nat → Nat} {N : Nat} {Z : AZ} {d : Nat} {t : Option Nat × (Nat × Nat)} (hd : 0 ≤ d) : ∀ (a0 : Nat) (I : AI) (r : Int32 × AI), f82 kad N Z a0 I = some r → aGo kad d 82 (0, ([(0, .ref a0)], [])) (aMem Z I, t) (qI Z t r) := by
  intro a0 I r h
  unfold f82 at h
  refine go_ops aMi82 1 _ (f1 := (1, ([(0, .ref a0)], [.ref a0]))) rfl ?_
  obtain ⟨b1_1, hxb1_1, h⟩ := Option.bind_eq_some_iff.mp h
  refine gg_gR aMi82 rfl rfl rfl hxb1_1 ?_
  obtain ⟨x4_2, hxx4_2, h⟩ := Option.bind_eq_some_iff.mp h
  refine gg_gI aMi82 rfl rfl rfl hxx4_2 ?_
  refine go_ops aMi82 1 _ (f1 := (8, ([(0, .ref a0)], [.int (1 : Int32), .int x4_2]))) rfl ?_
  refine gg_br (b := decide (¬ x4_2 = (1 : Int32))) (tg := 28) (off := 20) aMi82 rfl rfl rfl rfl (fun hb => ?_) (fun hb => ?_)
  · rw [if_pos (of_decide_eq_true hb)] at h
    refine go_le (lv1 := []) (aLe_of (show (List.map (fun q => q.1) ([] : ALv)).Nodup from (by show ([] : List Nat).Nodup; decide)) aSubL_nil) ?_
    exact Tf82_b28 hd  I _ h
  · rw [if_neg (of_decide_eq_false hb)] at h
    refine go_ops aMi82 1 _ (f1 := (12, ([(0, .ref a0)], [.ref a0]))) rfl ?_
    obtain ⟨b12_3, hxb12_3, h⟩ := Option.bind_eq_some_iff.mp h
    refine gg_gR aMi82 rfl rfl rfl hxb12_3 ?_
    obtain ⟨x15_4, hxx15_4, h⟩ := Option.bind_eq_some_iff.mp h
    refine gg_gI aMi82 rfl rfl rfl hxx15_4 ?_
    refine go_ops aMi82 1 _ (f1 := (21, ([(0, .ref a0)], [.int (1000 : Int32), .int x15_4]))) rfl ?_
    refine gg_br (b := decide ((1000 : Int32) ≤ x15_4)) (tg := 28) (off := 7) aMi82 rfl rfl rfl rfl (fun hb => ?_) (fun hb => ?_)
    · rw [if_pos (of_decide_eq_true hb)] at h
      refine go_le (lv1 := []) (aLe_of (show (List.map (fun q => q.1) ([] : ALv)).Nodup from (by show ([] : List Nat).Nodup; decide)) aSubL_nil) ?_
      exact Tf82_b28 hd  I _ h
    · rw [if_neg (of_decide_eq_false hb)] at h
      refine go_ops aMi82 2 _ (f1 := (29, ([(0, .ref a0)], [.int (1 : Int32)]))) rfl ?_
      refine go_le (lv1 := []) (aLe_of (show (List.map (fun q => q.1) ([] : ALv)).Nodup from (by show ([] : List Nat).Nodup; decide)) aSubL_nil) ?_
      exact Tf82_b29 hd (1 : Int32) I _ h
-- KernelGym$Machine.writeBlock (I[II)V
def f110 (kad : Nat → Nat) (N : Nat) (Z : AZ) (a0 : Nat) (i1 : Int32) (a2 : Nat) (i3 : Int32) (I : AI) : Option (Unit × AI) :=
  (gR Z I 8 7 a0).bind fun b1_1 =>
  (gR Z I 8 3 a0).bind fun b6_2 =>
  (isK Z b1_1 5).bind fun u9_3 =>
  (f69 kad N Z b1_1 i1 b6_2 I).bind fun r9_4 =>
  (gR Z r9_4.2 8 3 a0).bind fun b13_5 =>
  (isK Z b13_5 3).bind fun u19_6 =>
  (f44 kad N Z b13_5 i1 a2 i3 r9_4.2).bind fun r19_7 =>
  some ((), r19_7.2)
set_option maxRecDepth 20000 in
theorem Tf110 {kad : Nat → Nat} {N : Nat} {Z : AZ} {d : Nat} {t : Option Nat × (Nat × Nat)} (hd : 2 ≤ d) : ∀ (a0 : Nat) (i1 : Int32) (a2 : Nat) (i3 : Int32) (I : AI) (r : Unit × AI), f110 kad N Z a0 i1 a2 i3 I = some r → aGo kad d 110 (0, ([(0, .ref a0), (1, .int i1), (2, .ref a2), (3, .int i3)], [])) (aMem Z I, t) (qV Z t r) := by
  intro a0 i1 a2 i3 I r h
  unfold f110 at h
  refine go_ops aMi110 1 _ (f1 := (1, ([(0, .ref a0), (1, .int i1), (2, .ref a2), (3, .int i3)], [.ref a0]))) rfl ?_
  obtain ⟨b1_1, hxb1_1, h⟩ := Option.bind_eq_some_iff.mp h
  refine gg_gR aMi110 rfl rfl rfl hxb1_1 ?_
  refine go_ops aMi110 2 _ (f1 := (6, ([(0, .ref a0), (1, .int i1), (2, .ref a2), (3, .int i3)], [.ref a0, .int i1, .ref b1_1]))) rfl ?_
  obtain ⟨b6_2, hxb6_2, h⟩ := Option.bind_eq_some_iff.mp h
  refine gg_gR aMi110 rfl rfl rfl hxb6_2 ?_
  obtain ⟨u9_3, hxu9_3, h⟩ := Option.bind_eq_some_iff.mp h
  obtain ⟨r9_4, hxr9_4, h⟩ := Option.bind_eq_some_iff.mp h
  refine gg_cv (as := [.int i1, .ref b6_2]) (r := []) aMi110 rfl rfl rfl aMi69 (Nat.le_of_ble_eq_true rfl) rfl (Nat.le_of_ble_eq_true rfl) (Nat.le_of_ble_eq_true rfl) (by omega) hxu9_3 (Tf69 (by omega) b1_1 i1 b6_2 I _ hxr9_4) ?_
  show aGo kad d 110 (12, ([(0, .ref a0), (1, .int i1), (2, .ref a2), (3, .int i3)], [])) (aMem Z r9_4.2, t) _
  refine go_ops aMi110 1 _ (f1 := (13, ([(0, .ref a0), (1, .int i1), (2, .ref a2), (3, .int i3)], [.ref a0]))) rfl ?_
  obtain ⟨b13_5, hxb13_5, h⟩ := Option.bind_eq_some_iff.mp h
  refine gg_gR aMi110 rfl rfl rfl hxb13_5 ?_
  refine go_ops aMi110 3 _ (f1 := (19, ([(0, .ref a0), (1, .int i1), (2, .ref a2), (3, .int i3)], [.int i3, .ref a2, .int i1, .ref b13_5]))) rfl ?_
  obtain ⟨u19_6, hxu19_6, h⟩ := Option.bind_eq_some_iff.mp h
  obtain ⟨r19_7, hxr19_7, h⟩ := Option.bind_eq_some_iff.mp h
  refine gg_cv (as := [.int i1, .ref a2, .int i3]) (r := []) aMi110 rfl rfl rfl aMi44 (Nat.le_of_ble_eq_true rfl) rfl (Nat.le_of_ble_eq_true rfl) (Nat.le_of_ble_eq_true rfl) (by omega) hxu19_6 (Tf44 (by omega) b13_5 i1 a2 i3 r9_4.2 _ hxr19_7) ?_
  show aGo kad d 110 (22, ([(0, .ref a0), (1, .int i1), (2, .ref a2), (3, .int i3)], [])) (aMem Z r19_7.2, t) _
  cases h
  exact go_ret aMi110 rfl rfl ⟨rfl, rfl⟩
-- KernelGym$Machine.goOn ()V
def f88 (kad : Nat → Nat) (N : Nat) (Z : AZ) (a0 : Nat) (I : AI) : Option (Unit × AI) :=
  (gR Z I 8 0 a0).bind fun b1_1 =>
  (gI Z I 2 3 b1_1).bind fun x5_2 =>
  (pI Z I 2 3 b1_1 (x5_2 + (2 : Int32))).bind fun I10_3 =>
  some ((), I10_3)
set_option maxRecDepth 20000 in
theorem Tf88 {kad : Nat → Nat} {N : Nat} {Z : AZ} {d : Nat} {t : Option Nat × (Nat × Nat)} (hd : 0 ≤ d) : ∀ (a0 : Nat) (I : AI) (r : Unit × AI), f88 kad N Z a0 I = some r → aGo kad d 88 (0, ([(0, .ref a0)], [])) (aMem Z I, t) (qV Z t r) := by
  intro a0 I r h
  unfold f88 at h
  refine go_ops aMi88 1 _ (f1 := (1, ([(0, .ref a0)], [.ref a0]))) rfl ?_
  obtain ⟨b1_1, hxb1_1, h⟩ := Option.bind_eq_some_iff.mp h
  refine gg_gR aMi88 rfl rfl rfl hxb1_1 ?_
  refine go_ops aMi88 1 _ (f1 := (5, ([(0, .ref a0)], [.ref b1_1, .ref b1_1]))) rfl ?_
  obtain ⟨x5_2, hxx5_2, h⟩ := Option.bind_eq_some_iff.mp h
  refine gg_gI aMi88 rfl rfl rfl hxx5_2 ?_
  refine go_ops aMi88 2 _ (f1 := (10, ([(0, .ref a0)], [.int (x5_2 + (2 : Int32)), .ref b1_1]))) rfl ?_
  obtain ⟨I10_3, hxI10_3, h⟩ := Option.bind_eq_some_iff.mp h
  refine gg_pI aMi88 rfl rfl rfl rfl (by decide) hxI10_3 ?_
  cases h
  exact go_ret aMi88 rfl rfl ⟨rfl, rfl⟩
-- KernelGym$Machine.writeNextBlock ()V
def f109_b170 (kad : Nat → Nat) (N : Nat) (Z : AZ)  (I : AI) : Option (Unit × AI) :=
  some ((), I)
set_option maxRecDepth 20000 in
theorem Tf109_b170 {kad : Nat → Nat} {N : Nat} {Z : AZ} {d : Nat} {t : Option Nat × (Nat × Nat)} (hd : 3 ≤ d) : ∀  (I : AI) (r : Unit × AI), f109_b170 kad N Z  I = some r → aGo kad d 109 (170, ([], [])) (aMem Z I, t) (qV Z t r) := by
  intro  I r h
  unfold f109_b170 at h
  cases h
  exact go_ret aMi109 rfl rfl ⟨rfl, rfl⟩
def f109_b135 (kad : Nat → Nat) (N : Nat) (Z : AZ) (a0 : Nat) (a1 : Nat) (I : AI) : Option (Unit × AI) :=
  (gI Z I 4 1 a1).bind fun x137_1 =>
  (pI Z I 4 1 a1 (x137_1 + (1 : Int32))).bind fun I142_2 =>
  (isK Z a1 4).bind fun u146_3 =>
  (f63 kad N Z a1 I142_2).bind fun r146_4 =>
  if ¬ r146_4.1 = 0 then
    f109_b170 kad N Z  r146_4.2
  else
    (isK Z a1 4).bind fun u153_5 =>
    (f61 kad N Z a1 r146_4.2).bind fun r153_6 =>
    (gR Z r153_6.2 8 0 a0).bind fun b157_7 =>
    (gR Z r153_6.2 2 14 b157_7).bind fun b160_8 =>
    (sI Z r153_6.2 100 b160_8 (3 : Int32) (0 : Int32)).bind fun I165_9 =>
    (isK Z a0 8).bind fun u167_10 =>
    (f88 kad N Z a0 I165_9).bind fun r167_11 =>
    f109_b170 kad N Z  r167_11.2
set_option maxRecDepth 20000 in
theorem Tf109_b135 {kad : Nat → Nat} {N : Nat} {Z : AZ} {d : Nat} {t : Option Nat × (Nat × Nat)} (hd : 3 ≤ d) : ∀ (a0 : Nat) (a1 : Nat) (I : AI) (r : Unit × AI), f109_b135 kad N Z a0 a1 I = some r → aGo kad d 109 (135, ([(0, .ref a0), (1, .ref a1)], [])) (aMem Z I, t) (qV Z t r) := by
  intro a0 a1 I r h
  unfold f109_b135 at h
  refine go_ops aMi109 2 _ (f1 := (137, ([(0, .ref a0), (1, .ref a1)], [.ref a1, .ref a1]))) rfl ?_
  obtain ⟨x137_1, hxx137_1, h⟩ := Option.bind_eq_some_iff.mp h
  refine gg_gI aMi109 rfl rfl rfl hxx137_1 ?_
  refine go_ops aMi109 2 _ (f1 := (142, ([(0, .ref a0), (1, .ref a1)], [.int (x137_1 + (1 : Int32)), .ref a1]))) rfl ?_
  obtain ⟨I142_2, hxI142_2, h⟩ := Option.bind_eq_some_iff.mp h
  refine gg_pI aMi109 rfl rfl rfl rfl (by decide) hxI142_2 ?_
  refine go_ops aMi109 1 _ (f1 := (146, ([(0, .ref a0), (1, .ref a1)], [.ref a1]))) rfl ?_
  obtain ⟨u146_3, hxu146_3, h⟩ := Option.bind_eq_some_iff.mp h
  obtain ⟨r146_4, hxr146_4, h⟩ := Option.bind_eq_some_iff.mp h
  refine gg_cv (as := []) (r := []) aMi109 rfl rfl rfl aMi63 (Nat.le_of_ble_eq_true rfl) rfl (Nat.le_of_ble_eq_true rfl) (Nat.le_of_ble_eq_true rfl) (by omega) hxu146_3 (Tf63 (by omega) a1 I142_2 _ hxr146_4) ?_
  show aGo kad d 109 (149, ([(0, .ref a0), (1, .ref a1)], [.int r146_4.1])) (aMem Z r146_4.2, t) _
  refine gg_br (b := decide (¬ r146_4.1 = 0)) (tg := 170) (off := 21) aMi109 rfl rfl rfl rfl (fun hb => ?_) (fun hb => ?_)
  · rw [if_pos (of_decide_eq_true hb)] at h
    refine go_le (lv1 := []) (aLe_of (show (List.map (fun q => q.1) ([] : ALv)).Nodup from (by show ([] : List Nat).Nodup; decide)) aSubL_nil) ?_
    exact Tf109_b170 hd  r146_4.2 _ h
  · rw [if_neg (of_decide_eq_false hb)] at h
    refine go_ops aMi109 1 _ (f1 := (153, ([(0, .ref a0), (1, .ref a1)], [.ref a1]))) rfl ?_
    obtain ⟨u153_5, hxu153_5, h⟩ := Option.bind_eq_some_iff.mp h
    obtain ⟨r153_6, hxr153_6, h⟩ := Option.bind_eq_some_iff.mp h
    refine gg_cv (as := []) (r := []) aMi109 rfl rfl rfl aMi61 (Nat.le_of_ble_eq_true rfl) rfl (Nat.le_of_ble_eq_true rfl) (Nat.le_of_ble_eq_true rfl) (by omega) hxu153_5 (Tf61 (by omega) a1 r146_4.2 _ hxr153_6) ?_
    show aGo kad d 109 (156, ([(0, .ref a0), (1, .ref a1)], [])) (aMem Z r153_6.2, t) _
    refine go_ops aMi109 1 _ (f1 := (157, ([(0, .ref a0), (1, .ref a1)], [.ref a0]))) rfl ?_
    obtain ⟨b157_7, hxb157_7, h⟩ := Option.bind_eq_some_iff.mp h
    refine gg_gR aMi109 rfl rfl rfl hxb157_7 ?_
    obtain ⟨b160_8, hxb160_8, h⟩ := Option.bind_eq_some_iff.mp h
    refine gg_gR aMi109 rfl rfl rfl hxb160_8 ?_
    refine go_ops aMi109 2 _ (f1 := (165, ([(0, .ref a0), (1, .ref a1)], [.int (0 : Int32), .int (3 : Int32), .ref b160_8]))) rfl ?_
    obtain ⟨I165_9, hxI165_9, h⟩ := Option.bind_eq_some_iff.mp h
    refine gg_sI (Or.inl ⟨rfl, rfl⟩) aMi109 rfl hxI165_9 ?_
    refine go_ops aMi109 1 _ (f1 := (167, ([(0, .ref a0), (1, .ref a1)], [.ref a0]))) rfl ?_
    obtain ⟨u167_10, hxu167_10, h⟩ := Option.bind_eq_some_iff.mp h
    obtain ⟨r167_11, hxr167_11, h⟩ := Option.bind_eq_some_iff.mp h
    refine gg_cv (as := []) (r := []) aMi109 rfl rfl rfl aMi88 (Nat.le_of_ble_eq_true rfl) rfl (Nat.le_of_ble_eq_true rfl) (Nat.le_of_ble_eq_true rfl) (by omega) hxu167_10 (Tf88 (by omega) a0 I165_9 _ hxr167_11) ?_
    show aGo kad d 109 (170, ([(0, .ref a0), (1, .ref a1)], [])) (aMem Z r167_11.2, t) _
    refine go_le (lv1 := []) (aLe_of (show (List.map (fun q => q.1) ([] : ALv)).Nodup from (by show ([] : List Nat).Nodup; decide)) aSubL_nil) ?_
    exact Tf109_b170 hd  r167_11.2 _ h
def f109_b114 (kad : Nat → Nat) (N : Nat) (Z : AZ) (a0 : Nat) (a1 : Nat) (I : AI) : Option (Unit × AI) :=
  f109_b135 kad N Z a0 a1 I
set_option maxRecDepth 20000 in
theorem Tf109_b114 {kad : Nat → Nat} {N : Nat} {Z : AZ} {d : Nat} {t : Option Nat × (Nat × Nat)} (hd : 3 ≤ d) : ∀ (a0 : Nat) (a1 : Nat) (I : AI) (r : Unit × AI), f109_b114 kad N Z a0 a1 I = some r → aGo kad d 109 (114, ([(0, .ref a0), (1, .ref a1)], [])) (aMem Z I, t) (qV Z t r) := by
  intro a0 a1 I r h
  unfold f109_b114 at h
  refine go_ops aMi109 1 _ (f1 := (135, ([(0, .ref a0), (1, .ref a1)], []))) rfl ?_
  exact Tf109_b135 hd a0 a1 I _ h
def f109 (kad : Nat → Nat) (N : Nat) (Z : AZ) (a0 : Nat) (I : AI) : Option (Unit × AI) :=
  (gR Z I 8 0 a0).bind fun b1_1 =>
  (gR Z I 2 15 b1_1).bind fun b4_2 =>
  (gI Z I 4 1 b4_2).bind fun x9_3 =>
  (gI Z I 4 0 b4_2).bind fun x15_4 =>
  if x15_4 ≤ x9_3 then
    (gI Z I 4 0 b4_2).bind fun x41_5 =>
    if ¬ x9_3 = x41_5 then
      (gI Z I 4 0 b4_2).bind fun x71_6 =>
      if ((2 : Int32) * x71_6) < x9_3 then
        (gR Z I 8 6 a0).bind fun b118_7 =>
        (f306 kad N Z b118_7 (0 : Int32) I).bind fun r122_8 =>
        (gR Z r122_8.2 8 6 a0).bind fun b128_9 =>
        (isK Z a0 8).bind fun u132_10 =>
        (f110 kad N Z a0 (0 : Int32) b128_9 (0 : Int32) r122_8.2).bind fun r132_11 =>
        f109_b135 kad N Z a0 b4_2 r132_11.2
      else
        (gI Z I 4 0 b4_2).bind fun x80_12 =>
        if ((x9_3 - x80_12) - (1 : Int32)) < 0 then
          f109_b114 kad N Z a0 b4_2 I
        else
          if (3 : Int32) ≤ ((x9_3 - x80_12) - (1 : Int32)) then
            f109_b114 kad N Z a0 b4_2 I
          else
            (gR Z I 4 2 b4_2).bind fun b98_13 =>
            (lI Z I 100 b98_13 ((x9_3 - x80_12) - (1 : Int32))).bind fun x102_14 =>
            (gR Z I 4 3 b4_2).bind fun b104_15 =>
            (isK Z a0 8).bind fun u111_16 =>
            (f110 kad N Z a0 x102_14 b104_15 (((x9_3 - x80_12) - (1 : Int32)) * (8 : Int32)) I).bind fun r111_17 =>
            f109_b114 kad N Z a0 b4_2 r111_17.2
    else
      (gR Z I 8 6 a0).bind fun b49_18 =>
      (isK Z b4_2 4).bind fun u52_19 =>
      (f65 kad N Z b4_2 b49_18 I).bind fun r52_20 =>
      (gR Z r52_20.2 8 6 a0).bind fun b58_21 =>
      (isK Z a0 8).bind fun u62_22 =>
      (f110 kad N Z a0 (0 : Int32) b58_21 (0 : Int32) r52_20.2).bind fun r62_23 =>
      f109_b135 kad N Z a0 b4_2 r62_23.2
  else
    (gR Z I 4 3 b4_2).bind fun b26_24 =>
    (isK Z a0 8).bind fun u33_25 =>
    (f110 kad N Z a0 ((1 : Int32) + x9_3) b26_24 (x9_3 * (8 : Int32)) I).bind fun r33_26 =>
    f109_b135 kad N Z a0 b4_2 r33_26.2
set_option maxRecDepth 20000 in
theorem Tf109 {kad : Nat → Nat} {N : Nat} {Z : AZ} {d : Nat} {t : Option Nat × (Nat × Nat)} (hd : 3 ≤ d) : ∀ (a0 : Nat) (I : AI) (r : Unit × AI), f109 kad N Z a0 I = some r → aGo kad d 109 (0, ([(0, .ref a0)], [])) (aMem Z I, t) (qV Z t r) := by
  intro a0 I r h
  unfold f109 at h
  refine go_ops aMi109 1 _ (f1 := (1, ([(0, .ref a0)], [.ref a0]))) rfl ?_
  obtain ⟨b1_1, hxb1_1, h⟩ := Option.bind_eq_some_iff.mp h
  refine gg_gR aMi109 rfl rfl rfl hxb1_1 ?_
  obtain ⟨b4_2, hxb4_2, h⟩ := Option.bind_eq_some_iff.mp h
  refine gg_gR aMi109 rfl rfl rfl hxb4_2 ?_
  refine go_ops aMi109 2 _ (f1 := (9, ([(1, .ref b4_2), (0, .ref a0)], [.ref b4_2]))) rfl ?_
  obtain ⟨x9_3, hxx9_3, h⟩ := Option.bind_eq_some_iff.mp h
  refine gg_gI aMi109 rfl rfl rfl hxx9_3 ?_
  refine go_ops aMi109 3 _ (f1 := (15, ([(2, .int x9_3), (1, .ref b4_2), (0, .ref a0)], [.ref b4_2, .int x9_3]))) rfl ?_
  obtain ⟨x15_4, hxx15_4, h⟩ := Option.bind_eq_some_iff.mp h
  refine gg_gI aMi109 rfl rfl rfl hxx15_4 ?_
  refine gg_br (b := decide (x15_4 ≤ x9_3)) (tg := 39) (off := 21) aMi109 rfl rfl rfl rfl (fun hb => ?_) (fun hb => ?_)
  · rw [if_pos (of_decide_eq_true hb)] at h
    refine go_ops aMi109 2 _ (f1 := (41, ([(2, .int x9_3), (1, .ref b4_2), (0, .ref a0)], [.ref b4_2, .int x9_3]))) rfl ?_
    obtain ⟨x41_5, hxx41_5, h⟩ := Option.bind_eq_some_iff.mp h
    refine gg_gI aMi109 rfl rfl rfl hxx41_5 ?_
    refine gg_br (b := decide (¬ x9_3 = x41_5)) (tg := 68) (off := 24) aMi109 rfl rfl rfl rfl (fun hb => ?_) (fun hb => ?_)
    · rw [if_pos (of_decide_eq_true hb)] at h
      refine go_ops aMi109 3 _ (f1 := (71, ([(2, .int x9_3), (1, .ref b4_2), (0, .ref a0)], [.ref b4_2, .int (2 : Int32), .int x9_3]))) rfl ?_
      obtain ⟨x71_6, hxx71_6, h⟩ := Option.bind_eq_some_iff.mp h
      refine gg_gI aMi109 rfl rfl rfl hxx71_6 ?_
      refine go_ops aMi109 1 _ (f1 := (75, ([(2, .int x9_3), (1, .ref b4_2), (0, .ref a0)], [.int ((2 : Int32) * x71_6), .int x9_3]))) rfl ?_
      refine gg_br (b := decide (((2 : Int32) * x71_6) < x9_3)) (tg := 117) (off := 42) aMi109 rfl rfl rfl rfl (fun hb => ?_) (fun hb => ?_)
      · rw [if_pos (of_decide_eq_true hb)] at h
        refine go_ops aMi109 1 _ (f1 := (118, ([(2, .int x9_3), (1, .ref b4_2), (0, .ref a0)], [.ref a0]))) rfl ?_
        obtain ⟨b118_7, hxb118_7, h⟩ := Option.bind_eq_some_iff.mp h
        refine gg_gR aMi109 rfl rfl rfl hxb118_7 ?_
        refine go_ops aMi109 1 _ (f1 := (122, ([(2, .int x9_3), (1, .ref b4_2), (0, .ref a0)], [.int (0 : Int32), .ref b118_7]))) rfl ?_
        obtain ⟨r122_8, hxr122_8, h⟩ := Option.bind_eq_some_iff.mp h
        refine gg_cs (as := [.ref b118_7, .int (0 : Int32)]) (r := []) aMi109 rfl rfl rfl aMi306 rfl (Nat.le_of_ble_eq_true rfl) (Nat.le_of_ble_eq_true rfl) (by omega) (Tf306 (by omega) b118_7 (0 : Int32) I _ hxr122_8) ?_
        show aGo kad d 109 (125, ([(2, .int x9_3), (1, .ref b4_2), (0, .ref a0)], [])) (aMem Z r122_8.2, t) _
        refine go_ops aMi109 3 _ (f1 := (128, ([(2, .int x9_3), (1, .ref b4_2), (0, .ref a0)], [.ref a0, .int (0 : Int32), .ref a0]))) rfl ?_
        obtain ⟨b128_9, hxb128_9, h⟩ := Option.bind_eq_some_iff.mp h
        refine gg_gR aMi109 rfl rfl rfl hxb128_9 ?_
        refine go_ops aMi109 1 _ (f1 := (132, ([(2, .int x9_3), (1, .ref b4_2), (0, .ref a0)], [.int (0 : Int32), .ref b128_9, .int (0 : Int32), .ref a0]))) rfl ?_
        obtain ⟨u132_10, hxu132_10, h⟩ := Option.bind_eq_some_iff.mp h
        obtain ⟨r132_11, hxr132_11, h⟩ := Option.bind_eq_some_iff.mp h
        refine gg_cv (as := [.int (0 : Int32), .ref b128_9, .int (0 : Int32)]) (r := []) aMi109 rfl rfl rfl aMi110 (Nat.le_of_ble_eq_true rfl) rfl (Nat.le_of_ble_eq_true rfl) (Nat.le_of_ble_eq_true rfl) (by omega) hxu132_10 (Tf110 (by omega) a0 (0 : Int32) b128_9 (0 : Int32) r122_8.2 _ hxr132_11) ?_
        show aGo kad d 109 (135, ([(2, .int x9_3), (1, .ref b4_2), (0, .ref a0)], [])) (aMem Z r132_11.2, t) _
        refine go_le (lv1 := [(0, .ref a0), (1, .ref b4_2)]) (aLe_of (show (List.map (fun q => q.1) ([(0, .ref a0), (1, .ref b4_2)] : ALv)).Nodup from (by show ([0, 1] : List Nat).Nodup; decide)) (aSubL_cons rfl (aSubL_cons rfl aSubL_nil))) ?_
        exact Tf109_b135 hd a0 b4_2 r132_11.2 _ h
      · rw [if_neg (of_decide_eq_false hb)] at h
        refine go_ops aMi109 2 _ (f1 := (80, ([(2, .int x9_3), (1, .ref b4_2), (0, .ref a0)], [.ref b4_2, .int x9_3]))) rfl ?_
        obtain ⟨x80_12, hxx80_12, h⟩ := Option.bind_eq_some_iff.mp h
        refine gg_gI aMi109 rfl rfl rfl hxx80_12 ?_
        refine go_ops aMi109 5 _ (f1 := (88, ([(3, .int ((x9_3 - x80_12) - (1 : Int32))), (2, .int x9_3), (1, .ref b4_2), (0, .ref a0)], [.int ((x9_3 - x80_12) - (1 : Int32))]))) rfl ?_
        refine gg_br (b := decide (((x9_3 - x80_12) - (1 : Int32)) < 0)) (tg := 114) (off := 26) aMi109 rfl rfl rfl rfl (fun hb => ?_) (fun hb => ?_)
        · rw [if_pos (of_decide_eq_true hb)] at h
          refine go_le (lv1 := [(0, .ref a0), (1, .ref b4_2)]) (aLe_of (show (List.map (fun q => q.1) ([(0, .ref a0), (1, .ref b4_2)] : ALv)).Nodup from (by show ([0, 1] : List Nat).Nodup; decide)) (aSubL_cons rfl (aSubL_cons rfl aSubL_nil))) ?_
          exact Tf109_b114 hd a0 b4_2 I _ h
        · rw [if_neg (of_decide_eq_false hb)] at h
          refine go_ops aMi109 2 _ (f1 := (93, ([(3, .int ((x9_3 - x80_12) - (1 : Int32))), (2, .int x9_3), (1, .ref b4_2), (0, .ref a0)], [.int (3 : Int32), .int ((x9_3 - x80_12) - (1 : Int32))]))) rfl ?_
          refine gg_br (b := decide ((3 : Int32) ≤ ((x9_3 - x80_12) - (1 : Int32)))) (tg := 114) (off := 21) aMi109 rfl rfl rfl rfl (fun hb => ?_) (fun hb => ?_)
          · rw [if_pos (of_decide_eq_true hb)] at h
            refine go_le (lv1 := [(0, .ref a0), (1, .ref b4_2)]) (aLe_of (show (List.map (fun q => q.1) ([(0, .ref a0), (1, .ref b4_2)] : ALv)).Nodup from (by show ([0, 1] : List Nat).Nodup; decide)) (aSubL_cons rfl (aSubL_cons rfl aSubL_nil))) ?_
            exact Tf109_b114 hd a0 b4_2 I _ h
          · rw [if_neg (of_decide_eq_false hb)] at h
            refine go_ops aMi109 2 _ (f1 := (98, ([(3, .int ((x9_3 - x80_12) - (1 : Int32))), (2, .int x9_3), (1, .ref b4_2), (0, .ref a0)], [.ref b4_2, .ref a0]))) rfl ?_
            obtain ⟨b98_13, hxb98_13, h⟩ := Option.bind_eq_some_iff.mp h
            refine gg_gR aMi109 rfl rfl rfl hxb98_13 ?_
            refine go_ops aMi109 1 _ (f1 := (102, ([(3, .int ((x9_3 - x80_12) - (1 : Int32))), (2, .int x9_3), (1, .ref b4_2), (0, .ref a0)], [.int ((x9_3 - x80_12) - (1 : Int32)), .ref b98_13, .ref a0]))) rfl ?_
            obtain ⟨x102_14, hxx102_14, h⟩ := Option.bind_eq_some_iff.mp h
            refine gg_lI (Or.inl ⟨rfl, rfl⟩) aMi109 rfl hxx102_14 ?_
            refine go_ops aMi109 1 _ (f1 := (104, ([(3, .int ((x9_3 - x80_12) - (1 : Int32))), (2, .int x9_3), (1, .ref b4_2), (0, .ref a0)], [.ref b4_2, .int x102_14, .ref a0]))) rfl ?_
            obtain ⟨b104_15, hxb104_15, h⟩ := Option.bind_eq_some_iff.mp h
            refine gg_gR aMi109 rfl rfl rfl hxb104_15 ?_
            refine go_ops aMi109 3 _ (f1 := (111, ([(3, .int ((x9_3 - x80_12) - (1 : Int32))), (2, .int x9_3), (1, .ref b4_2), (0, .ref a0)], [.int (((x9_3 - x80_12) - (1 : Int32)) * (8 : Int32)), .ref b104_15, .int x102_14, .ref a0]))) rfl ?_
            obtain ⟨u111_16, hxu111_16, h⟩ := Option.bind_eq_some_iff.mp h
            obtain ⟨r111_17, hxr111_17, h⟩ := Option.bind_eq_some_iff.mp h
            refine gg_cv (as := [.int x102_14, .ref b104_15, .int (((x9_3 - x80_12) - (1 : Int32)) * (8 : Int32))]) (r := []) aMi109 rfl rfl rfl aMi110 (Nat.le_of_ble_eq_true rfl) rfl (Nat.le_of_ble_eq_true rfl) (Nat.le_of_ble_eq_true rfl) (by omega) hxu111_16 (Tf110 (by omega) a0 x102_14 b104_15 (((x9_3 - x80_12) - (1 : Int32)) * (8 : Int32)) I _ hxr111_17) ?_
            show aGo kad d 109 (114, ([(3, .int ((x9_3 - x80_12) - (1 : Int32))), (2, .int x9_3), (1, .ref b4_2), (0, .ref a0)], [])) (aMem Z r111_17.2, t) _
            refine go_le (lv1 := [(0, .ref a0), (1, .ref b4_2)]) (aLe_of (show (List.map (fun q => q.1) ([(0, .ref a0), (1, .ref b4_2)] : ALv)).Nodup from (by show ([0, 1] : List Nat).Nodup; decide)) (aSubL_cons rfl (aSubL_cons rfl aSubL_nil))) ?_
            exact Tf109_b114 hd a0 b4_2 r111_17.2 _ h
    · rw [if_neg (of_decide_eq_false hb)] at h
      refine go_ops aMi109 2 _ (f1 := (49, ([(2, .int x9_3), (1, .ref b4_2), (0, .ref a0)], [.ref a0, .ref b4_2]))) rfl ?_
      obtain ⟨b49_18, hxb49_18, h⟩ := Option.bind_eq_some_iff.mp h
      refine gg_gR aMi109 rfl rfl rfl hxb49_18 ?_
      obtain ⟨u52_19, hxu52_19, h⟩ := Option.bind_eq_some_iff.mp h
      obtain ⟨r52_20, hxr52_20, h⟩ := Option.bind_eq_some_iff.mp h
      refine gg_cv (as := [.ref b49_18]) (r := []) aMi109 rfl rfl rfl aMi65 (Nat.le_of_ble_eq_true rfl) rfl (Nat.le_of_ble_eq_true rfl) (Nat.le_of_ble_eq_true rfl) (by omega) hxu52_19 (Tf65 (by omega) b4_2 b49_18 I _ hxr52_20) ?_
      show aGo kad d 109 (55, ([(2, .int x9_3), (1, .ref b4_2), (0, .ref a0)], [])) (aMem Z r52_20.2, t) _
      refine go_ops aMi109 3 _ (f1 := (58, ([(2, .int x9_3), (1, .ref b4_2), (0, .ref a0)], [.ref a0, .int (0 : Int32), .ref a0]))) rfl ?_
      obtain ⟨b58_21, hxb58_21, h⟩ := Option.bind_eq_some_iff.mp h
      refine gg_gR aMi109 rfl rfl rfl hxb58_21 ?_
      refine go_ops aMi109 1 _ (f1 := (62, ([(2, .int x9_3), (1, .ref b4_2), (0, .ref a0)], [.int (0 : Int32), .ref b58_21, .int (0 : Int32), .ref a0]))) rfl ?_
      obtain ⟨u62_22, hxu62_22, h⟩ := Option.bind_eq_some_iff.mp h
      obtain ⟨r62_23, hxr62_23, h⟩ := Option.bind_eq_some_iff.mp h
      refine gg_cv (as := [.int (0 : Int32), .ref b58_21, .int (0 : Int32)]) (r := []) aMi109 rfl rfl rfl aMi110 (Nat.le_of_ble_eq_true rfl) rfl (Nat.le_of_ble_eq_true rfl) (Nat.le_of_ble_eq_true rfl) (by omega) hxu62_22 (Tf110 (by omega) a0 (0 : Int32) b58_21 (0 : Int32) r52_20.2 _ hxr62_23) ?_
      show aGo kad d 109 (65, ([(2, .int x9_3), (1, .ref b4_2), (0, .ref a0)], [])) (aMem Z r62_23.2, t) _
      refine go_ops aMi109 1 _ (f1 := (135, ([(2, .int x9_3), (1, .ref b4_2), (0, .ref a0)], []))) rfl ?_
      refine go_le (lv1 := [(0, .ref a0), (1, .ref b4_2)]) (aLe_of (show (List.map (fun q => q.1) ([(0, .ref a0), (1, .ref b4_2)] : ALv)).Nodup from (by show ([0, 1] : List Nat).Nodup; decide)) (aSubL_cons rfl (aSubL_cons rfl aSubL_nil))) ?_
      exact Tf109_b135 hd a0 b4_2 r62_23.2 _ h
  · rw [if_neg (of_decide_eq_false hb)] at h
    refine go_ops aMi109 5 _ (f1 := (26, ([(2, .int x9_3), (1, .ref b4_2), (0, .ref a0)], [.ref b4_2, .int ((1 : Int32) + x9_3), .ref a0]))) rfl ?_
    obtain ⟨b26_24, hxb26_24, h⟩ := Option.bind_eq_some_iff.mp h
    refine gg_gR aMi109 rfl rfl rfl hxb26_24 ?_
    refine go_ops aMi109 3 _ (f1 := (33, ([(2, .int x9_3), (1, .ref b4_2), (0, .ref a0)], [.int (x9_3 * (8 : Int32)), .ref b26_24, .int ((1 : Int32) + x9_3), .ref a0]))) rfl ?_
    obtain ⟨u33_25, hxu33_25, h⟩ := Option.bind_eq_some_iff.mp h
    obtain ⟨r33_26, hxr33_26, h⟩ := Option.bind_eq_some_iff.mp h
    refine gg_cv (as := [.int ((1 : Int32) + x9_3), .ref b26_24, .int (x9_3 * (8 : Int32))]) (r := []) aMi109 rfl rfl rfl aMi110 (Nat.le_of_ble_eq_true rfl) rfl (Nat.le_of_ble_eq_true rfl) (Nat.le_of_ble_eq_true rfl) (by omega) hxu33_25 (Tf110 (by omega) a0 ((1 : Int32) + x9_3) b26_24 (x9_3 * (8 : Int32)) I _ hxr33_26) ?_
    show aGo kad d 109 (36, ([(2, .int x9_3), (1, .ref b4_2), (0, .ref a0)], [])) (aMem Z r33_26.2, t) _
    refine go_ops aMi109 1 _ (f1 := (135, ([(2, .int x9_3), (1, .ref b4_2), (0, .ref a0)], []))) rfl ?_
    refine go_le (lv1 := [(0, .ref a0), (1, .ref b4_2)]) (aLe_of (show (List.map (fun q => q.1) ([(0, .ref a0), (1, .ref b4_2)] : ALv)).Nodup from (by show ([0, 1] : List Nat).Nodup; decide)) (aSubL_cons rfl (aSubL_cons rfl aSubL_nil))) ?_
    exact Tf109_b135 hd a0 b4_2 r33_26.2 _ h
-- KernelGym$Machine.fail (I)V
def f87 (kad : Nat → Nat) (N : Nat) (Z : AZ) (a0 : Nat) (i1 : Int32) (I : AI) : Option (Unit × AI) :=
  (gR Z I 8 0 a0).bind fun b1_1 =>
  (pI Z I 2 0 b1_1 (3 : Int32)).bind fun I5_2 =>
  (gR Z I5_2 8 0 a0).bind fun b9_3 =>
  (pI Z I5_2 2 1 b9_3 i1).bind fun I13_4 =>
  some ((), I13_4)
set_option maxRecDepth 20000 in
theorem Tf87 {kad : Nat → Nat} {N : Nat} {Z : AZ} {d : Nat} {t : Option Nat × (Nat × Nat)} (hd : 0 ≤ d) : ∀ (a0 : Nat) (i1 : Int32) (I : AI) (r : Unit × AI), f87 kad N Z a0 i1 I = some r → aGo kad d 87 (0, ([(0, .ref a0), (1, .int i1)], [])) (aMem Z I, t) (qV Z t r) := by
  intro a0 i1 I r h
  unfold f87 at h
  refine go_ops aMi87 1 _ (f1 := (1, ([(0, .ref a0), (1, .int i1)], [.ref a0]))) rfl ?_
  obtain ⟨b1_1, hxb1_1, h⟩ := Option.bind_eq_some_iff.mp h
  refine gg_gR aMi87 rfl rfl rfl hxb1_1 ?_
  refine go_ops aMi87 1 _ (f1 := (5, ([(0, .ref a0), (1, .int i1)], [.int (3 : Int32), .ref b1_1]))) rfl ?_
  obtain ⟨I5_2, hxI5_2, h⟩ := Option.bind_eq_some_iff.mp h
  refine gg_pI aMi87 rfl rfl rfl rfl (by decide) hxI5_2 ?_
  refine go_ops aMi87 1 _ (f1 := (9, ([(0, .ref a0), (1, .int i1)], [.ref a0]))) rfl ?_
  obtain ⟨b9_3, hxb9_3, h⟩ := Option.bind_eq_some_iff.mp h
  refine gg_gR aMi87 rfl rfl rfl hxb9_3 ?_
  refine go_ops aMi87 1 _ (f1 := (13, ([(0, .ref a0), (1, .int i1)], [.int i1, .ref b9_3]))) rfl ?_
  obtain ⟨I13_4, hxI13_4, h⟩ := Option.bind_eq_some_iff.mp h
  refine gg_pI aMi87 rfl rfl rfl rfl (by decide) hxI13_4 ?_
  cases h
  exact go_ret aMi87 rfl rfl ⟨rfl, rfl⟩
