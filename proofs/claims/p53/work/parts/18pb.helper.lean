set_option maxRecDepth 20000 in
theorem hE1_0 {kad : Nat → Nat} {N : Nat} {Z : AZ} {d : Nat} {t : Option Nat × (Nat × Nat)} (hd : 20 ≤ d) (g : Nat) (hg : sh10 kad Z g) (a b c e : Int32) (I : AI) (x : Int32 × AI) (h : (f136 kad N Z g I).bind (hRo [0, 1]) = some x) : hEv kad d 1 [.ref g, .int (0 : Int32), .int a, .int b, .int c, .int e] (aMem Z I, t) Z x := by
  obtain ⟨u, h1, h2⟩ := Option.bind_eq_some_iff.mp h
  exact hE_of (as := []) (pcI := 5) (lv := lv_args 0 [.ref g, .int (0 : Int32), .int a, .int b, .int c, .int e]) rfl rfl rfl aMi136 (Nat.le_of_ble_eq_true rfl) rfl (Nat.le_of_ble_eq_true rfl) (sh10_z hg) (pcE := 167) (fun v => (aPl_goto (n := 19) (pcE := 167) rfl rfl).trans (aPl_int rfl rfl)) rfl (by decide +kernel) h2 (Tf136 hd g hg I u h1)
set_option maxRecDepth 20000 in
theorem hE1_1 {kad : Nat → Nat} {N : Nat} {Z : AZ} {d : Nat} {t : Option Nat × (Nat × Nat)} (hd : 4 ≤ d) (g : Nat) (hg : sh10 kad Z g) (a b c e : Int32) (I : AI) (x : Int32 × AI) (h : (f143 kad N Z g I).bind (hRo [0, 1]) = some x) : hEv kad d 1 [.ref g, .int (1 : Int32), .int a, .int b, .int c, .int e] (aMem Z I, t) Z x := by
  obtain ⟨u, h1, h2⟩ := Option.bind_eq_some_iff.mp h
  exact hE_of (as := []) (pcI := 17) (lv := lv_args 0 [.ref g, .int (1 : Int32), .int a, .int b, .int c, .int e]) rfl rfl rfl aMi143 (Nat.le_of_ble_eq_true rfl) rfl (Nat.le_of_ble_eq_true rfl) (sh10_z hg) (pcE := 167) (fun v => (aPl_goto (n := 19) (pcE := 167) rfl rfl).trans (aPl_int rfl rfl)) rfl (by decide +kernel) h2 (Tf143 hd g hg I u h1)
set_option maxRecDepth 20000 in
theorem hE1_2 {kad : Nat → Nat} {N : Nat} {Z : AZ} {d : Nat} {t : Option Nat × (Nat × Nat)} (hd : 3 ≤ d) (g : Nat) (hg : sh10 kad Z g) (a b c e : Int32) (I : AI) (x : Int32 × AI) (h : (f144 kad N Z g I).bind (hRo [0, 1]) = some x) : hEv kad d 1 [.ref g, .int (2 : Int32), .int a, .int b, .int c, .int e] (aMem Z I, t) Z x := by
  obtain ⟨u, h1, h2⟩ := Option.bind_eq_some_iff.mp h
  exact hE_of (as := []) (pcI := 29) (lv := lv_args 0 [.ref g, .int (2 : Int32), .int a, .int b, .int c, .int e]) rfl rfl rfl aMi144 (Nat.le_of_ble_eq_true rfl) rfl (Nat.le_of_ble_eq_true rfl) (sh10_z hg) (pcE := 167) (fun v => (aPl_goto (n := 19) (pcE := 167) rfl rfl).trans (aPl_int rfl rfl)) rfl (by decide +kernel) h2 (Tf144 hd g hg I u h1)
set_option maxRecDepth 20000 in
theorem hE1_3 {kad : Nat → Nat} {N : Nat} {Z : AZ} {d : Nat} {t : Option Nat × (Nat × Nat)} (hd : 2 ≤ d) (g : Nat) (hg : sh10 kad Z g) (a b c e : Int32) (I : AI) (x : Int32 × AI) (h : (f145 kad N Z g I).bind (hRo [0, 1]) = some x) : hEv kad d 1 [.ref g, .int (3 : Int32), .int a, .int b, .int c, .int e] (aMem Z I, t) Z x := by
  obtain ⟨u, h1, h2⟩ := Option.bind_eq_some_iff.mp h
  exact hE_of (as := []) (pcI := 41) (lv := lv_args 0 [.ref g, .int (3 : Int32), .int a, .int b, .int c, .int e]) rfl rfl rfl aMi145 (Nat.le_of_ble_eq_true rfl) rfl (Nat.le_of_ble_eq_true rfl) (sh10_z hg) (pcE := 167) (fun v => (aPl_goto (n := 19) (pcE := 167) rfl rfl).trans (aPl_int rfl rfl)) rfl (by decide +kernel) h2 (Tf145 hd g hg I u h1)
set_option maxRecDepth 20000 in
theorem hE1_4 {kad : Nat → Nat} {N : Nat} {Z : AZ} {d : Nat} {t : Option Nat × (Nat × Nat)} (hd : 7 ≤ d) (g : Nat) (hg : sh10 kad Z g) (a b c e : Int32) (I : AI) (x : Int32 × AI) (h : (f146 kad N Z g a I).bind (hRo [0, 1]) = some x) : hEv kad d 1 [.ref g, .int (4 : Int32), .int a, .int b, .int c, .int e] (aMem Z I, t) Z x := by
  obtain ⟨u, h1, h2⟩ := Option.bind_eq_some_iff.mp h
  exact hE_of (as := [.int a]) (pcI := 54) (lv := lv_args 0 [.ref g, .int (4 : Int32), .int a, .int b, .int c, .int e]) rfl rfl rfl aMi146 (Nat.le_of_ble_eq_true rfl) rfl (Nat.le_of_ble_eq_true rfl) (sh10_z hg) (pcE := 167) (fun v => (aPl_goto (n := 19) (pcE := 167) rfl rfl).trans (aPl_int rfl rfl)) rfl (by decide +kernel) h2 (Tf146 hd g hg a I u h1)
set_option maxRecDepth 20000 in
theorem hE1_5 {kad : Nat → Nat} {N : Nat} {Z : AZ} {d : Nat} {t : Option Nat × (Nat × Nat)} (hd : 7 ≤ d) (g : Nat) (hg : sh10 kad Z g) (a b c e : Int32) (I : AI) (x : Int32 × AI) (h : (f147 kad N Z g a b I).bind (hRo [0, 1]) = some x) : hEv kad d 1 [.ref g, .int (5 : Int32), .int a, .int b, .int c, .int e] (aMem Z I, t) Z x := by
  obtain ⟨u, h1, h2⟩ := Option.bind_eq_some_iff.mp h
  exact hE_of (as := [.int a, .int b]) (pcI := 68) (lv := lv_args 0 [.ref g, .int (5 : Int32), .int a, .int b, .int c, .int e]) rfl rfl rfl aMi147 (Nat.le_of_ble_eq_true rfl) rfl (Nat.le_of_ble_eq_true rfl) (sh10_z hg) (pcE := 167) (fun v => (aPl_goto (n := 19) (pcE := 167) rfl rfl).trans (aPl_int rfl rfl)) rfl (by decide +kernel) h2 (Tf147 hd g hg a b I u h1)
set_option maxRecDepth 20000 in
theorem hE1_6 {kad : Nat → Nat} {N : Nat} {Z : AZ} {d : Nat} {t : Option Nat × (Nat × Nat)} (hd : 3 ≤ d) (g : Nat) (hg : sh10 kad Z g) (a b c e : Int32) (I : AI) (x : Int32 × AI) (h : (f148 kad N Z g a I).bind (hRo [0, 1]) = some x) : hEv kad d 1 [.ref g, .int (6 : Int32), .int a, .int b, .int c, .int e] (aMem Z I, t) Z x := by
  obtain ⟨u, h1, h2⟩ := Option.bind_eq_some_iff.mp h
  exact hE_of (as := [.int a]) (pcI := 82) (lv := lv_args 0 [.ref g, .int (6 : Int32), .int a, .int b, .int c, .int e]) rfl rfl rfl aMi148 (Nat.le_of_ble_eq_true rfl) rfl (Nat.le_of_ble_eq_true rfl) (sh10_z hg) (pcE := 167) (fun v => (aPl_goto (n := 19) (pcE := 167) rfl rfl).trans (aPl_int rfl rfl)) rfl (by decide +kernel) h2 (Tf148 hd g hg a I u h1)
set_option maxRecDepth 20000 in
theorem hE1_7 {kad : Nat → Nat} {N : Nat} {Z : AZ} {d : Nat} {t : Option Nat × (Nat × Nat)} (hd : 2 ≤ d) (g : Nat) (hg : sh10 kad Z g) (a b c e : Int32) (I : AI) (x : Int32 × AI) (h : (f149 kad N Z g a I).bind (hRo [0, 1]) = some x) : hEv kad d 1 [.ref g, .int (7 : Int32), .int a, .int b, .int c, .int e] (aMem Z I, t) Z x := by
  obtain ⟨u, h1, h2⟩ := Option.bind_eq_some_iff.mp h
  exact hE_of (as := [.int a]) (pcI := 96) (lv := lv_args 0 [.ref g, .int (7 : Int32), .int a, .int b, .int c, .int e]) rfl rfl rfl aMi149 (Nat.le_of_ble_eq_true rfl) rfl (Nat.le_of_ble_eq_true rfl) (sh10_z hg) (pcE := 167) (fun v => (aPl_goto (n := 19) (pcE := 167) rfl rfl).trans (aPl_int rfl rfl)) rfl (by decide +kernel) h2 (Tf149 hd g hg a I u h1)
set_option maxRecDepth 20000 in
theorem hE1_8 {kad : Nat → Nat} {N : Nat} {Z : AZ} {d : Nat} {t : Option Nat × (Nat × Nat)} (hd : 6 ≤ d) (g : Nat) (hg : sh10 kad Z g) (a b c e : Int32) (I : AI) (x : Int32 × AI) (h : (f164 kad N Z g a I).bind (hRo [0, 1]) = some x) : hEv kad d 1 [.ref g, .int (8 : Int32), .int a, .int b, .int c, .int e] (aMem Z I, t) Z x := by
  obtain ⟨u, h1, h2⟩ := Option.bind_eq_some_iff.mp h
  exact hE_of (as := [.int a]) (pcI := 110) (lv := lv_args 0 [.ref g, .int (8 : Int32), .int a, .int b, .int c, .int e]) rfl rfl rfl aMi164 (Nat.le_of_ble_eq_true rfl) rfl (Nat.le_of_ble_eq_true rfl) (sh10_z hg) (pcE := 167) (fun v => (aPl_goto (n := 19) (pcE := 167) rfl rfl).trans (aPl_int rfl rfl)) rfl (by decide +kernel) h2 (Tf164 hd g hg a I u h1)
set_option maxRecDepth 20000 in
theorem hE1_9 {kad : Nat → Nat} {N : Nat} {Z : AZ} {d : Nat} {t : Option Nat × (Nat × Nat)} (hd : 1 ≤ d) (g : Nat) (hg : sh10 kad Z g) (a b c e : Int32) (I : AI) (x : Int32 × AI) (h : (f176 kad N Z g a I).bind (hRo [0, 1]) = some x) : hEv kad d 1 [.ref g, .int (9 : Int32), .int a, .int b, .int c, .int e] (aMem Z I, t) Z x := by
  obtain ⟨u, h1, h2⟩ := Option.bind_eq_some_iff.mp h
  exact hE_of (as := [.int a]) (pcI := 124) (lv := lv_args 0 [.ref g, .int (9 : Int32), .int a, .int b, .int c, .int e]) rfl rfl rfl aMi176 (Nat.le_of_ble_eq_true rfl) rfl (Nat.le_of_ble_eq_true rfl) (sh10_z hg) (pcE := 167) (fun v => (aPl_goto (n := 19) (pcE := 167) rfl rfl).trans (aPl_int rfl rfl)) rfl (by decide +kernel) h2 (Tf176 hd g hg a I u h1)
set_option maxRecDepth 20000 in
theorem hE1_10 {kad : Nat → Nat} {N : Nat} {Z : AZ} {d : Nat} {t : Option Nat × (Nat × Nat)} (hd : 1 ≤ d) (g : Nat) (hg : sh10 kad Z g) (a b c e : Int32) (I : AI) (x : Int32 × AI) (h : (f177 kad N Z g a I).bind (hRo [0, 1]) = some x) : hEv kad d 1 [.ref g, .int (10 : Int32), .int a, .int b, .int c, .int e] (aMem Z I, t) Z x := by
  obtain ⟨u, h1, h2⟩ := Option.bind_eq_some_iff.mp h
  exact hE_of (as := [.int a]) (pcI := 138) (lv := lv_args 0 [.ref g, .int (10 : Int32), .int a, .int b, .int c, .int e]) rfl rfl rfl aMi177 (Nat.le_of_ble_eq_true rfl) rfl (Nat.le_of_ble_eq_true rfl) (sh10_z hg) (pcE := 167) (fun v => (aPl_goto (n := 19) (pcE := 167) rfl rfl).trans (aPl_int rfl rfl)) rfl (by decide +kernel) h2 (Tf177 hd g hg a I u h1)
set_option maxRecDepth 20000 in
theorem hE1_11 {kad : Nat → Nat} {N : Nat} {Z : AZ} {d : Nat} {t : Option Nat × (Nat × Nat)} (hd : 1 ≤ d) (g : Nat) (hg : sh10 kad Z g) (a b c e : Int32) (I : AI) (x : Int32 × AI) (h : (f178 kad N Z g a b c e I).bind (hRo [0, 1]) = some x) : hEv kad d 1 [.ref g, .int (11 : Int32), .int a, .int b, .int c, .int e] (aMem Z I, t) Z x := by
  obtain ⟨u, h1, h2⟩ := Option.bind_eq_some_iff.mp h
  exact hE_of (as := [.int a, .int b, .int c, .int e]) (pcI := 157) (lv := lv_args 0 [.ref g, .int (11 : Int32), .int a, .int b, .int c, .int e]) rfl rfl rfl aMi178 (Nat.le_of_ble_eq_true rfl) rfl (Nat.le_of_ble_eq_true rfl) (sh10_z hg) (pcE := 167) (fun v => (aPl_goto (n := 19) (pcE := 167) rfl rfl).trans (aPl_int rfl rfl)) rfl (by decide +kernel) h2 (Tf178 hd g hg a b c e I u h1)
set_option maxRecDepth 20000 in
theorem hE1_12 {kad : Nat → Nat} {N : Nat} {Z : AZ} {d : Nat} {t : Option Nat × (Nat × Nat)} (hd : 7 ≤ d) (g : Nat) (hg : sh10 kad Z g) (a b c e : Int32) (I : AI) (x : Int32 × AI) (h : (f180 kad N Z g I).bind (hRo [0, 1]) = some x) : hEv kad d 1 [.ref g, .int (12 : Int32), .int a, .int b, .int c, .int e] (aMem Z I, t) Z x := by
  obtain ⟨u, h1, h2⟩ := Option.bind_eq_some_iff.mp h
  exact hE_of (as := []) (pcI := 164) (lv := lv_args 0 [.ref g, .int (12 : Int32), .int a, .int b, .int c, .int e]) rfl rfl rfl aMi180 (Nat.le_of_ble_eq_true rfl) rfl (Nat.le_of_ble_eq_true rfl) (sh10_z hg) (pcE := 167) (fun v => aPl_int rfl rfl) rfl (by decide +kernel) h2 (Tf180 hd g hg I u h1)
def fH1 (kad : Nat → Nat) (N : Nat) (Z : AZ) (g : Nat) (how : Int32) (a : Int32) (b : Int32) (c : Int32) (e : Int32) (I : AI) : Option (Int32 × AI) :=
  if how = 0 then (f136 kad N Z g I).bind (hRo [0, 1]) else
  if how = 1 then (f143 kad N Z g I).bind (hRo [0, 1]) else
  if how = 2 then (f144 kad N Z g I).bind (hRo [0, 1]) else
  if how = 3 then (f145 kad N Z g I).bind (hRo [0, 1]) else
  if how = 4 then (f146 kad N Z g a I).bind (hRo [0, 1]) else
  if how = 5 then (f147 kad N Z g a b I).bind (hRo [0, 1]) else
  if how = 6 then (f148 kad N Z g a I).bind (hRo [0, 1]) else
  if how = 7 then (f149 kad N Z g a I).bind (hRo [0, 1]) else
  if how = 8 then (f164 kad N Z g a I).bind (hRo [0, 1]) else
  if how = 9 then (f176 kad N Z g a I).bind (hRo [0, 1]) else
  if how = 10 then (f177 kad N Z g a I).bind (hRo [0, 1]) else
  if how = 11 then (f178 kad N Z g a b c e I).bind (hRo [0, 1]) else
  if how = 12 then (f180 kad N Z g I).bind (hRo [0, 1]) else
  none
theorem TH1 {kad : Nat → Nat} {N : Nat} {Z : AZ} {d : Nat} {t : Option Nat × (Nat × Nat)} (hd : 20 ≤ d) (g : Nat) (hg : sh10 kad Z g) (how a b c e : Int32) (I : AI) (x : Int32 × AI) (h : fH1 kad N Z g how a b c e I = some x) : hEv kad d 1 [.ref g, .int how, .int a, .int b, .int c, .int e] (aMem Z I, t) Z x := by
  unfold fH1 at h
  by_cases h0 : how = 0
  · subst h0
    rw [if_pos rfl] at h
    exact hE1_0 (by omega) g hg a b c e I x h
  rw [if_neg h0] at h
  by_cases h1 : how = 1
  · subst h1
    rw [if_pos rfl] at h
    exact hE1_1 (by omega) g hg a b c e I x h
  rw [if_neg h1] at h
  by_cases h2 : how = 2
  · subst h2
    rw [if_pos rfl] at h
    exact hE1_2 (by omega) g hg a b c e I x h
  rw [if_neg h2] at h
  by_cases h3 : how = 3
  · subst h3
    rw [if_pos rfl] at h
    exact hE1_3 (by omega) g hg a b c e I x h
  rw [if_neg h3] at h
  by_cases h4 : how = 4
  · subst h4
    rw [if_pos rfl] at h
    exact hE1_4 (by omega) g hg a b c e I x h
  rw [if_neg h4] at h
  by_cases h5 : how = 5
  · subst h5
    rw [if_pos rfl] at h
    exact hE1_5 (by omega) g hg a b c e I x h
  rw [if_neg h5] at h
  by_cases h6 : how = 6
  · subst h6
    rw [if_pos rfl] at h
    exact hE1_6 (by omega) g hg a b c e I x h
  rw [if_neg h6] at h
  by_cases h7 : how = 7
  · subst h7
    rw [if_pos rfl] at h
    exact hE1_7 (by omega) g hg a b c e I x h
  rw [if_neg h7] at h
  by_cases h8 : how = 8
  · subst h8
    rw [if_pos rfl] at h
    exact hE1_8 (by omega) g hg a b c e I x h
  rw [if_neg h8] at h
  by_cases h9 : how = 9
  · subst h9
    rw [if_pos rfl] at h
    exact hE1_9 (by omega) g hg a b c e I x h
  rw [if_neg h9] at h
  by_cases h10 : how = 10
  · subst h10
    rw [if_pos rfl] at h
    exact hE1_10 (by omega) g hg a b c e I x h
  rw [if_neg h10] at h
  by_cases h11 : how = 11
  · subst h11
    rw [if_pos rfl] at h
    exact hE1_11 (by omega) g hg a b c e I x h
  rw [if_neg h11] at h
  by_cases h12 : how = 12
  · subst h12
    rw [if_pos rfl] at h
    exact hE1_12 (by omega) g hg a b c e I x h
  rw [if_neg h12] at h
  cases h
set_option maxRecDepth 20000 in
theorem hE2_0 {kad : Nat → Nat} {N : Nat} {Z : AZ} {d : Nat} {t : Option Nat × (Nat × Nat)} (hd : 0 ≤ d) (g : Nat) (hg : sh10 kad Z g) (k : Int32) (I : AI) (x : Int32 × AI) (h : (f181 kad N Z g k I).bind (hRo [2]) = some x) : hEv kad d 2 [.ref g, .int k] (aMem Z I, t) Z x := by
  obtain ⟨u, h1, h2⟩ := Option.bind_eq_some_iff.mp h
  exact hE_of (as := [.int k]) (pcI := 2) (lv := lv_args 0 [.ref g, .int k]) rfl rfl rfl aMi181 (Nat.le_of_ble_eq_true rfl) rfl (Nat.le_of_ble_eq_true rfl) (sh10_z hg) (pcE := 5) (fun v => aPl_int rfl rfl) rfl (by decide +kernel) h2 (Tf181 hd g hg k I u h1)
def fH2 (kad : Nat → Nat) (N : Nat) (Z : AZ) (g : Nat) (k : Int32) (I : AI) : Option (Int32 × AI) :=
  (f181 kad N Z g k I).bind (hRo [2])
theorem TH2 {kad : Nat → Nat} {N : Nat} {Z : AZ} {d : Nat} {t : Option Nat × (Nat × Nat)} (hd : 0 ≤ d) (g : Nat) (hg : sh10 kad Z g) (k : Int32) (I : AI) (x : Int32 × AI) (h : fH2 kad N Z g k I = some x) : hEv kad d 2 [.ref g, .int k] (aMem Z I, t) Z x := by
  unfold fH2 at h
  exact hE2_0 hd g hg k I x h
set_option maxRecDepth 20000 in
theorem hE3_0 {kad : Nat → Nat} {N : Nat} {Z : AZ} {d : Nat} {t : Option Nat × (Nat × Nat)} (hd : 3 ≤ d) (g : Nat) (hg : sh10 kad Z g) (k : Int32) (I : AI) (x : Int32 × AI) (h : (f171 kad N Z g k I).bind (hRo [3]) = some x) : hEv kad d 3 [.ref g, .int k] (aMem Z I, t) Z x := by
  obtain ⟨u, h1, h2⟩ := Option.bind_eq_some_iff.mp h
  exact hE_of (as := [.int k]) (pcI := 2) (lv := lv_args 0 [.ref g, .int k]) rfl rfl rfl aMi171 (Nat.le_of_ble_eq_true rfl) rfl (Nat.le_of_ble_eq_true rfl) (sh10_z hg) (pcE := 5) (fun v => aPl_int rfl rfl) rfl (by decide +kernel) h2 (Tf171 hd g hg k I u h1)
def fH3 (kad : Nat → Nat) (N : Nat) (Z : AZ) (g : Nat) (k : Int32) (I : AI) : Option (Int32 × AI) :=
  (f171 kad N Z g k I).bind (hRo [3])
theorem TH3 {kad : Nat → Nat} {N : Nat} {Z : AZ} {d : Nat} {t : Option Nat × (Nat × Nat)} (hd : 3 ≤ d) (g : Nat) (hg : sh10 kad Z g) (k : Int32) (I : AI) (x : Int32 × AI) (h : fH3 kad N Z g k I = some x) : hEv kad d 3 [.ref g, .int k] (aMem Z I, t) Z x := by
  unfold fH3 at h
  exact hE3_0 hd g hg k I x h
