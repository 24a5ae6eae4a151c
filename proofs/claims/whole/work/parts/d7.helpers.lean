/-! the helpers of the law (by program) -/
def aH_section : AMeth := (yL_section, (cL_section, (4, (some .int, (12, [(0, (.aload_n 2, 1)), (1, (.iconst 0, 1)), (2, (.aload_n 0, 1)), (3, (.iload_n 1, 1)), (4, (.invokevirtual 7, 3)), (7, (.i2l, 1)), (8, (.lastore, 1)), (9, (.goto 9, 3)), (12, (.astore_n 3, 1)), (13, (.iconst 1, 1)), (14, (.ireturn, 1)), (15, (.astore_n 3, 1)), (16, (.iconst 2, 1)), (17, (.ireturn, 1)), (18, (.iconst 0, 1)), (19, (.ireturn, 1))])))))
theorem okH_section : okT aH_section := okT_of (by decide +kernel)
def hh_section : List (Nat × Nat × Nat × Nat) := [(0, 9, 12, 13), (0, 9, 15, 15)]
theorem wH_section : ∀ x ∈ [Cond.methodLink RL 7 aM126.1, Cond.instanceMethod aM126.1, Cond.selects aM126.1.cls aM126.1 aM126.1], x ∈ aTB := aTB_all (by decide +kernel)
theorem wL_section : ∀ x ∈ [Cond.classLink RL 13 (aEC 0), Cond.classLink RL 15 (aEC 1)], x ∈ aTB := aTB_all (by decide +kernel)
theorem caH_section {g o : Nat} {p0 : Int32} : ∀ th, 1 ≤ th → th ≤ 2 → hCa aH_section hh_section [0, 1] 4 [(0, .ref g), (1, .int p0), (2, .ref o)] th
  | 1, _, _ => ⟨[], ⟨0, 9, 12, 13⟩, [⟨0, 9, 15, 15⟩], 14, _, rfl, fun z hz => absurd hz List.not_mem_nil, by decide, by decide, wL_section _ (by simp), by decide, fun _ => rfl, rfl⟩
  | 2, _, _ => ⟨[⟨0, 9, 12, 13⟩], ⟨0, 9, 15, 15⟩, [], 17, _, rfl, List.forall_mem_cons.mpr ⟨⟨by decide, 0, by decide, by decide, wL_section _ (by simp)⟩, fun z hz => absurd hz List.not_mem_nil⟩, by decide, by decide, wL_section _ (by simp), by decide, fun _ => rfl, rfl⟩
  | 0, h, _ => absurd h (by decide)
  | n + 3, _, h => absurd h (by omega)
theorem he_section {l : Launch} {kad : Nat → Nat} {N g o th c1 n1 : Nat} {Z : AZ} {I I' : AI} {z0 : Option Nat} {w : Int64} {v : Int32} {p0 : Int32} (hl0 : l.stackTraces = false) (ha : sh10 kad Z g) (ho : Z.1 o = none) (hth : th ≤ 2) (he : f126 kad N Z g p0 I = some (rx [0, 1] th v, I')) : hMet l kad 41 yL_section cL_section 4 (some .int) hh_section [.ref g, .int p0, .ref o] (wo (aMem Z I) o w, (z0, (c1, n1))) (.inl (some (.int (Int32.ofNat th)))) (wo (aMem Z I') o (if th = 0 then v.toInt64 else w), tH th z0 c1 n1) :=
  help_1 (yh := aH_section) (z := aM126) (d := 40) (n := 1) (As := [.int p0]) (es := [0, 1]) (pcI := 4) (pcE := 19) (kp := 4) hl0 okH_section (by decide +kernel) rfl rfl (Nat.le_of_ble_eq_true rfl) aMi126 (Nat.le_of_ble_eq_true rfl) rfl wH_section (by decide +kernel) rfl (sh10_z ha) ho rfl rfl (fun _ => rfl) rfl rfl rfl caH_section hth (Tf126 (by omega) g ha p0 I _ he)
def aH_label : AMeth := (yL_label, (cL_label, (4, (some .int, (12, [(0, (.aload_n 2, 1)), (1, (.iconst 0, 1)), (2, (.aload_n 0, 1)), (3, (.iload_n 1, 1)), (4, (.invokevirtual 17, 3)), (7, (.i2l, 1)), (8, (.lastore, 1)), (9, (.goto 9, 3)), (12, (.astore_n 3, 1)), (13, (.iconst 1, 1)), (14, (.ireturn, 1)), (15, (.astore_n 3, 1)), (16, (.iconst 2, 1)), (17, (.ireturn, 1)), (18, (.iconst 0, 1)), (19, (.ireturn, 1))])))))
theorem okH_label : okT aH_label := okT_of (by decide +kernel)
def hh_label : List (Nat × Nat × Nat × Nat) := [(0, 9, 12, 13), (0, 9, 15, 15)]
theorem wH_label : ∀ x ∈ [Cond.methodLink RL 17 aM127.1, Cond.instanceMethod aM127.1, Cond.selects aM127.1.cls aM127.1 aM127.1], x ∈ aTB := aTB_all (by decide +kernel)
theorem wL_label : ∀ x ∈ [Cond.classLink RL 13 (aEC 0), Cond.classLink RL 15 (aEC 1)], x ∈ aTB := aTB_all (by decide +kernel)
theorem caH_label {g o : Nat} {p0 : Int32} : ∀ th, 1 ≤ th → th ≤ 2 → hCa aH_label hh_label [0, 1] 4 [(0, .ref g), (1, .int p0), (2, .ref o)] th
  | 1, _, _ => ⟨[], ⟨0, 9, 12, 13⟩, [⟨0, 9, 15, 15⟩], 14, _, rfl, fun z hz => absurd hz List.not_mem_nil, by decide, by decide, wL_label _ (by simp), by decide, fun _ => rfl, rfl⟩
  | 2, _, _ => ⟨[⟨0, 9, 12, 13⟩], ⟨0, 9, 15, 15⟩, [], 17, _, rfl, List.forall_mem_cons.mpr ⟨⟨by decide, 0, by decide, by decide, wL_label _ (by simp)⟩, fun z hz => absurd hz List.not_mem_nil⟩, by decide, by decide, wL_label _ (by simp), by decide, fun _ => rfl, rfl⟩
  | 0, h, _ => absurd h (by decide)
  | n + 3, _, h => absurd h (by omega)
theorem he_label {l : Launch} {kad : Nat → Nat} {N g o th c1 n1 : Nat} {Z : AZ} {I I' : AI} {z0 : Option Nat} {w : Int64} {v : Int32} {p0 : Int32} (hl0 : l.stackTraces = false) (ha : sh10 kad Z g) (ho : Z.1 o = none) (hth : th ≤ 2) (he : f127 kad N Z g p0 I = some (rx [0, 1] th v, I')) : hMet l kad 41 yL_label cL_label 4 (some .int) hh_label [.ref g, .int p0, .ref o] (wo (aMem Z I) o w, (z0, (c1, n1))) (.inl (some (.int (Int32.ofNat th)))) (wo (aMem Z I') o (if th = 0 then v.toInt64 else w), tH th z0 c1 n1) :=
  help_1 (yh := aH_label) (z := aM127) (d := 40) (n := 1) (As := [.int p0]) (es := [0, 1]) (pcI := 4) (pcE := 19) (kp := 4) hl0 okH_label (by decide +kernel) rfl rfl (Nat.le_of_ble_eq_true rfl) aMi127 (Nat.le_of_ble_eq_true rfl) rfl wH_label (by decide +kernel) rfl (sh10_z ha) ho rfl rfl (fun _ => rfl) rfl rfl rfl caH_label hth (Tf127 (by omega) g ha p0 I _ he)
def aH_code : AMeth := (yL_code, (cL_code, (8, (some .int, (12, [(0, (.aload 6, 2)), (2, (.iconst 0, 1)), (3, (.aload_n 0, 1)), (4, (.iload_n 1, 1)), (5, (.iload_n 2, 1)), (6, (.iload_n 3, 1)), (7, (.iload 4, 2)), (9, (.iload 5, 2)), (11, (.invokevirtual 20, 3)), (14, (.i2l, 1)), (15, (.lastore, 1)), (16, (.goto 11, 3)), (19, (.astore 7, 2)), (21, (.iconst 1, 1)), (22, (.ireturn, 1)), (23, (.astore 7, 2)), (25, (.iconst 2, 1)), (26, (.ireturn, 1)), (27, (.iconst 0, 1)), (28, (.ireturn, 1))])))))
theorem okH_code : okT aH_code := okT_of (by decide +kernel)
def hh_code : List (Nat × Nat × Nat × Nat) := [(0, 16, 19, 13), (0, 16, 23, 15)]
theorem wH_code : ∀ x ∈ [Cond.methodLink RL 20 aM128.1, Cond.instanceMethod aM128.1, Cond.selects aM128.1.cls aM128.1 aM128.1], x ∈ aTB := aTB_all (by decide +kernel)
theorem wL_code : ∀ x ∈ [Cond.classLink RL 13 (aEC 0), Cond.classLink RL 15 (aEC 1)], x ∈ aTB := aTB_all (by decide +kernel)
theorem caH_code {g o : Nat} {p0 p1 p2 p3 p4 : Int32} : ∀ th, 1 ≤ th → th ≤ 2 → hCa aH_code hh_code [0, 1] 11 [(0, .ref g), (1, .int p0), (2, .int p1), (3, .int p2), (4, .int p3), (5, .int p4), (6, .ref o)] th
  | 1, _, _ => ⟨[], ⟨0, 16, 19, 13⟩, [⟨0, 16, 23, 15⟩], 22, _, rfl, fun z hz => absurd hz List.not_mem_nil, by decide, by decide, wL_code _ (by simp), by decide, fun _ => rfl, rfl⟩
  | 2, _, _ => ⟨[⟨0, 16, 19, 13⟩], ⟨0, 16, 23, 15⟩, [], 26, _, rfl, List.forall_mem_cons.mpr ⟨⟨by decide, 0, by decide, by decide, wL_code _ (by simp)⟩, fun z hz => absurd hz List.not_mem_nil⟩, by decide, by decide, wL_code _ (by simp), by decide, fun _ => rfl, rfl⟩
  | 0, h, _ => absurd h (by decide)
  | n + 3, _, h => absurd h (by omega)
theorem he_code {l : Launch} {kad : Nat → Nat} {N g o th c1 n1 : Nat} {Z : AZ} {I I' : AI} {z0 : Option Nat} {w : Int64} {v : Int32} {p0 p1 p2 p3 p4 : Int32} (hl0 : l.stackTraces = false) (ha : sh10 kad Z g) (ho : Z.1 o = none) (hth : th ≤ 2) (he : f128 kad N Z g p0 p1 p2 p3 p4 I = some (rx [0, 1] th v, I')) : hMet l kad 41 yL_code cL_code 8 (some .int) hh_code [.ref g, .int p0, .int p1, .int p2, .int p3, .int p4, .ref o] (wo (aMem Z I) o w, (z0, (c1, n1))) (.inl (some (.int (Int32.ofNat th)))) (wo (aMem Z I') o (if th = 0 then v.toInt64 else w), tH th z0 c1 n1) :=
  help_1 (yh := aH_code) (z := aM128) (d := 40) (n := 5) (As := [.int p0, .int p1, .int p2, .int p3, .int p4]) (es := [0, 1]) (pcI := 11) (pcE := 28) (kp := 8) hl0 okH_code (by decide +kernel) rfl rfl (Nat.le_of_ble_eq_true rfl) aMi128 (Nat.le_of_ble_eq_true rfl) rfl wH_code (by decide +kernel) rfl (sh10_z ha) ho rfl rfl (fun _ => rfl) rfl rfl rfl caH_code hth (Tf128 (by omega) g ha p0 p1 p2 p3 p4 I _ he)
def aH_word : AMeth := (yL_word, (cL_word, (5, (some .int, (12, [(0, (.aload_n 3, 1)), (1, (.iconst 0, 1)), (2, (.aload_n 0, 1)), (3, (.iload_n 1, 1)), (4, (.iload_n 2, 1)), (5, (.invokevirtual 24, 3)), (8, (.i2l, 1)), (9, (.lastore, 1)), (10, (.goto 11, 3)), (13, (.astore 4, 2)), (15, (.iconst 1, 1)), (16, (.ireturn, 1)), (17, (.astore 4, 2)), (19, (.iconst 2, 1)), (20, (.ireturn, 1)), (21, (.iconst 0, 1)), (22, (.ireturn, 1))])))))
theorem okH_word : okT aH_word := okT_of (by decide +kernel)
def hh_word : List (Nat × Nat × Nat × Nat) := [(0, 10, 13, 13), (0, 10, 17, 15)]
theorem wH_word : ∀ x ∈ [Cond.methodLink RL 24 aM129.1, Cond.instanceMethod aM129.1, Cond.selects aM129.1.cls aM129.1 aM129.1], x ∈ aTB := aTB_all (by decide +kernel)
theorem wL_word : ∀ x ∈ [Cond.classLink RL 13 (aEC 0), Cond.classLink RL 15 (aEC 1)], x ∈ aTB := aTB_all (by decide +kernel)
theorem caH_word {g o : Nat} {p0 p1 : Int32} : ∀ th, 1 ≤ th → th ≤ 2 → hCa aH_word hh_word [0, 1] 5 [(0, .ref g), (1, .int p0), (2, .int p1), (3, .ref o)] th
  | 1, _, _ => ⟨[], ⟨0, 10, 13, 13⟩, [⟨0, 10, 17, 15⟩], 16, _, rfl, fun z hz => absurd hz List.not_mem_nil, by decide, by decide, wL_word _ (by simp), by decide, fun _ => rfl, rfl⟩
  | 2, _, _ => ⟨[⟨0, 10, 13, 13⟩], ⟨0, 10, 17, 15⟩, [], 20, _, rfl, List.forall_mem_cons.mpr ⟨⟨by decide, 0, by decide, by decide, wL_word _ (by simp)⟩, fun z hz => absurd hz List.not_mem_nil⟩, by decide, by decide, wL_word _ (by simp), by decide, fun _ => rfl, rfl⟩
  | 0, h, _ => absurd h (by decide)
  | n + 3, _, h => absurd h (by omega)
theorem he_word {l : Launch} {kad : Nat → Nat} {N g o th c1 n1 : Nat} {Z : AZ} {I I' : AI} {z0 : Option Nat} {w : Int64} {v : Int32} {p0 p1 : Int32} (hl0 : l.stackTraces = false) (ha : sh10 kad Z g) (ho : Z.1 o = none) (hth : th ≤ 2) (he : f129 kad N Z g p0 p1 I = some (rx [0, 1] th v, I')) : hMet l kad 41 yL_word cL_word 5 (some .int) hh_word [.ref g, .int p0, .int p1, .ref o] (wo (aMem Z I) o w, (z0, (c1, n1))) (.inl (some (.int (Int32.ofNat th)))) (wo (aMem Z I') o (if th = 0 then v.toInt64 else w), tH th z0 c1 n1) :=
  help_1 (yh := aH_word) (z := aM129) (d := 40) (n := 2) (As := [.int p0, .int p1]) (es := [0, 1]) (pcI := 5) (pcE := 22) (kp := 5) hl0 okH_word (by decide +kernel) rfl rfl (Nat.le_of_ble_eq_true rfl) aMi129 (Nat.le_of_ble_eq_true rfl) rfl wH_word (by decide +kernel) rfl (sh10_z ha) ho rfl rfl (fun _ => rfl) rfl rfl rfl caH_word hth (Tf129 (by omega) g ha p0 p1 I _ he)
def aH_space : AMeth := (yL_space, (cL_space, (4, (some .int, (12, [(0, (.aload_n 2, 1)), (1, (.iconst 0, 1)), (2, (.aload_n 0, 1)), (3, (.iload_n 1, 1)), (4, (.invokevirtual 28, 3)), (7, (.i2l, 1)), (8, (.lastore, 1)), (9, (.goto 9, 3)), (12, (.astore_n 3, 1)), (13, (.iconst 1, 1)), (14, (.ireturn, 1)), (15, (.astore_n 3, 1)), (16, (.iconst 2, 1)), (17, (.ireturn, 1)), (18, (.iconst 0, 1)), (19, (.ireturn, 1))])))))
theorem okH_space : okT aH_space := okT_of (by decide +kernel)
def hh_space : List (Nat × Nat × Nat × Nat) := [(0, 9, 12, 13), (0, 9, 15, 15)]
theorem wH_space : ∀ x ∈ [Cond.methodLink RL 28 aM130.1, Cond.instanceMethod aM130.1, Cond.selects aM130.1.cls aM130.1 aM130.1], x ∈ aTB := aTB_all (by decide +kernel)
theorem wL_space : ∀ x ∈ [Cond.classLink RL 13 (aEC 0), Cond.classLink RL 15 (aEC 1)], x ∈ aTB := aTB_all (by decide +kernel)
theorem caH_space {g o : Nat} {p0 : Int32} : ∀ th, 1 ≤ th → th ≤ 2 → hCa aH_space hh_space [0, 1] 4 [(0, .ref g), (1, .int p0), (2, .ref o)] th
  | 1, _, _ => ⟨[], ⟨0, 9, 12, 13⟩, [⟨0, 9, 15, 15⟩], 14, _, rfl, fun z hz => absurd hz List.not_mem_nil, by decide, by decide, wL_space _ (by simp), by decide, fun _ => rfl, rfl⟩
  | 2, _, _ => ⟨[⟨0, 9, 12, 13⟩], ⟨0, 9, 15, 15⟩, [], 17, _, rfl, List.forall_mem_cons.mpr ⟨⟨by decide, 0, by decide, by decide, wL_space _ (by simp)⟩, fun z hz => absurd hz List.not_mem_nil⟩, by decide, by decide, wL_space _ (by simp), by decide, fun _ => rfl, rfl⟩
  | 0, h, _ => absurd h (by decide)
  | n + 3, _, h => absurd h (by omega)
theorem he_space {l : Launch} {kad : Nat → Nat} {N g o th c1 n1 : Nat} {Z : AZ} {I I' : AI} {z0 : Option Nat} {w : Int64} {v : Int32} {p0 : Int32} (hl0 : l.stackTraces = false) (ha : sh10 kad Z g) (ho : Z.1 o = none) (hth : th ≤ 2) (he : f130 kad N Z g p0 I = some (rx [0, 1] th v, I')) : hMet l kad 41 yL_space cL_space 4 (some .int) hh_space [.ref g, .int p0, .ref o] (wo (aMem Z I) o w, (z0, (c1, n1))) (.inl (some (.int (Int32.ofNat th)))) (wo (aMem Z I') o (if th = 0 then v.toInt64 else w), tH th z0 c1 n1) :=
  help_1 (yh := aH_space) (z := aM130) (d := 40) (n := 1) (As := [.int p0]) (es := [0, 1]) (pcI := 4) (pcE := 19) (kp := 4) hl0 okH_space (by decide +kernel) rfl rfl (Nat.le_of_ble_eq_true rfl) aMi130 (Nat.le_of_ble_eq_true rfl) rfl wH_space (by decide +kernel) rfl (sh10_z ha) ho rfl rfl (fun _ => rfl) rfl rfl rfl caH_space hth (Tf130 (by omega) g ha p0 I _ he)
def aH_vector : AMeth := (yL_vector, (cL_vector, (6, (some .int, (12, [(0, (.aload 4, 2)), (2, (.iconst 0, 1)), (3, (.aload_n 0, 1)), (4, (.iload_n 1, 1)), (5, (.iload_n 2, 1)), (6, (.iload_n 3, 1)), (7, (.invokevirtual 31, 3)), (10, (.i2l, 1)), (11, (.lastore, 1)), (12, (.goto 11, 3)), (15, (.astore 5, 2)), (17, (.iconst 1, 1)), (18, (.ireturn, 1)), (19, (.astore 5, 2)), (21, (.iconst 2, 1)), (22, (.ireturn, 1)), (23, (.iconst 0, 1)), (24, (.ireturn, 1))])))))
theorem okH_vector : okT aH_vector := okT_of (by decide +kernel)
def hh_vector : List (Nat × Nat × Nat × Nat) := [(0, 12, 15, 13), (0, 12, 19, 15)]
theorem wH_vector : ∀ x ∈ [Cond.methodLink RL 31 aM131.1, Cond.instanceMethod aM131.1, Cond.selects aM131.1.cls aM131.1 aM131.1], x ∈ aTB := aTB_all (by decide +kernel)
theorem wL_vector : ∀ x ∈ [Cond.classLink RL 13 (aEC 0), Cond.classLink RL 15 (aEC 1)], x ∈ aTB := aTB_all (by decide +kernel)
theorem caH_vector {g o : Nat} {p0 p1 p2 : Int32} : ∀ th, 1 ≤ th → th ≤ 2 → hCa aH_vector hh_vector [0, 1] 7 [(0, .ref g), (1, .int p0), (2, .int p1), (3, .int p2), (4, .ref o)] th
  | 1, _, _ => ⟨[], ⟨0, 12, 15, 13⟩, [⟨0, 12, 19, 15⟩], 18, _, rfl, fun z hz => absurd hz List.not_mem_nil, by decide, by decide, wL_vector _ (by simp), by decide, fun _ => rfl, rfl⟩
  | 2, _, _ => ⟨[⟨0, 12, 15, 13⟩], ⟨0, 12, 19, 15⟩, [], 22, _, rfl, List.forall_mem_cons.mpr ⟨⟨by decide, 0, by decide, by decide, wL_vector _ (by simp)⟩, fun z hz => absurd hz List.not_mem_nil⟩, by decide, by decide, wL_vector _ (by simp), by decide, fun _ => rfl, rfl⟩
  | 0, h, _ => absurd h (by decide)
  | n + 3, _, h => absurd h (by omega)
theorem he_vector {l : Launch} {kad : Nat → Nat} {N g o th c1 n1 : Nat} {Z : AZ} {I I' : AI} {z0 : Option Nat} {w : Int64} {v : Int32} {p0 p1 p2 : Int32} (hl0 : l.stackTraces = false) (ha : sh10 kad Z g) (ho : Z.1 o = none) (hth : th ≤ 2) (he : f131 kad N Z g p0 p1 p2 I = some (rx [0, 1] th v, I')) : hMet l kad 41 yL_vector cL_vector 6 (some .int) hh_vector [.ref g, .int p0, .int p1, .int p2, .ref o] (wo (aMem Z I) o w, (z0, (c1, n1))) (.inl (some (.int (Int32.ofNat th)))) (wo (aMem Z I') o (if th = 0 then v.toInt64 else w), tH th z0 c1 n1) :=
  help_1 (yh := aH_vector) (z := aM131) (d := 40) (n := 3) (As := [.int p0, .int p1, .int p2]) (es := [0, 1]) (pcI := 7) (pcE := 24) (kp := 6) hl0 okH_vector (by decide +kernel) rfl rfl (Nat.le_of_ble_eq_true rfl) aMi131 (Nat.le_of_ble_eq_true rfl) rfl wH_vector (by decide +kernel) rfl (sh10_z ha) ho rfl rfl (fun _ => rfl) rfl rfl rfl caH_vector hth (Tf131 (by omega) g ha p0 p1 p2 I _ he)
def aH_macro : AMeth := (yL_macro, (cL_macro, (4, (some .int, (12, [(0, (.aload_n 2, 1)), (1, (.iconst 0, 1)), (2, (.aload_n 0, 1)), (3, (.iload_n 1, 1)), (4, (.invokevirtual 35, 3)), (7, (.i2l, 1)), (8, (.lastore, 1)), (9, (.goto 9, 3)), (12, (.astore_n 3, 1)), (13, (.iconst 1, 1)), (14, (.ireturn, 1)), (15, (.astore_n 3, 1)), (16, (.iconst 2, 1)), (17, (.ireturn, 1)), (18, (.iconst 0, 1)), (19, (.ireturn, 1))])))))
theorem okH_macro : okT aH_macro := okT_of (by decide +kernel)
def hh_macro : List (Nat × Nat × Nat × Nat) := [(0, 9, 12, 13), (0, 9, 15, 15)]
theorem wH_macro : ∀ x ∈ [Cond.methodLink RL 35 aM132.1, Cond.instanceMethod aM132.1, Cond.selects aM132.1.cls aM132.1 aM132.1], x ∈ aTB := aTB_all (by decide +kernel)
theorem wL_macro : ∀ x ∈ [Cond.classLink RL 13 (aEC 0), Cond.classLink RL 15 (aEC 1)], x ∈ aTB := aTB_all (by decide +kernel)
theorem caH_macro {g o : Nat} {p0 : Int32} : ∀ th, 1 ≤ th → th ≤ 2 → hCa aH_macro hh_macro [0, 1] 4 [(0, .ref g), (1, .int p0), (2, .ref o)] th
  | 1, _, _ => ⟨[], ⟨0, 9, 12, 13⟩, [⟨0, 9, 15, 15⟩], 14, _, rfl, fun z hz => absurd hz List.not_mem_nil, by decide, by decide, wL_macro _ (by simp), by decide, fun _ => rfl, rfl⟩
  | 2, _, _ => ⟨[⟨0, 9, 12, 13⟩], ⟨0, 9, 15, 15⟩, [], 17, _, rfl, List.forall_mem_cons.mpr ⟨⟨by decide, 0, by decide, by decide, wL_macro _ (by simp)⟩, fun z hz => absurd hz List.not_mem_nil⟩, by decide, by decide, wL_macro _ (by simp), by decide, fun _ => rfl, rfl⟩
  | 0, h, _ => absurd h (by decide)
  | n + 3, _, h => absurd h (by omega)
theorem he_macro {l : Launch} {kad : Nat → Nat} {N g o th c1 n1 : Nat} {Z : AZ} {I I' : AI} {z0 : Option Nat} {w : Int64} {v : Int32} {p0 : Int32} (hl0 : l.stackTraces = false) (ha : sh10 kad Z g) (ho : Z.1 o = none) (hth : th ≤ 2) (he : f132 kad N Z g p0 I = some (rx [0, 1] th v, I')) : hMet l kad 41 yL_macro cL_macro 4 (some .int) hh_macro [.ref g, .int p0, .ref o] (wo (aMem Z I) o w, (z0, (c1, n1))) (.inl (some (.int (Int32.ofNat th)))) (wo (aMem Z I') o (if th = 0 then v.toInt64 else w), tH th z0 c1 n1) :=
  help_1 (yh := aH_macro) (z := aM132) (d := 40) (n := 1) (As := [.int p0]) (es := [0, 1]) (pcI := 4) (pcE := 19) (kp := 4) hl0 okH_macro (by decide +kernel) rfl rfl (Nat.le_of_ble_eq_true rfl) aMi132 (Nat.le_of_ble_eq_true rfl) rfl wH_macro (by decide +kernel) rfl (sh10_z ha) ho rfl rfl (fun _ => rfl) rfl rfl rfl caH_macro hth (Tf132 (by omega) g ha p0 I _ he)
def aH_endMacro : AMeth := (yL_endMacro, (cL_endMacro, (3, (some .int, (12, [(0, (.aload_n 1, 1)), (1, (.iconst 0, 1)), (2, (.aload_n 0, 1)), (3, (.invokevirtual 38, 3)), (6, (.i2l, 1)), (7, (.lastore, 1)), (8, (.goto 6, 3)), (11, (.astore_n 2, 1)), (12, (.iconst 1, 1)), (13, (.ireturn, 1)), (14, (.iconst 0, 1)), (15, (.ireturn, 1))])))))
theorem okH_endMacro : okT aH_endMacro := okT_of (by decide +kernel)
def hh_endMacro : List (Nat × Nat × Nat × Nat) := [(0, 8, 11, 15)]
theorem wH_endMacro : ∀ x ∈ [Cond.methodLink RL 38 aM133.1, Cond.instanceMethod aM133.1, Cond.selects aM133.1.cls aM133.1 aM133.1], x ∈ aTB := aTB_all (by decide +kernel)
theorem wL_endMacro : ∀ x ∈ [Cond.classLink RL 15 (aEC 1)], x ∈ aTB := aTB_all (by decide +kernel)
theorem caH_endMacro {g o : Nat} : ∀ th, 1 ≤ th → th ≤ 1 → hCa aH_endMacro hh_endMacro [1] 3 [(0, .ref g), (1, .ref o)] th
  | 1, _, _ => ⟨[], ⟨0, 8, 11, 15⟩, [], 13, _, rfl, fun z hz => absurd hz List.not_mem_nil, by decide, by decide, wL_endMacro _ (by simp), by decide, fun _ => rfl, rfl⟩
  | 0, h, _ => absurd h (by decide)
  | n + 2, _, h => absurd h (by omega)
theorem he_endMacro {l : Launch} {kad : Nat → Nat} {N g o th c1 n1 : Nat} {Z : AZ} {I I' : AI} {z0 : Option Nat} {w : Int64} {v : Int32} (hl0 : l.stackTraces = false) (ha : sh10 kad Z g) (ho : Z.1 o = none) (hth : th ≤ 1) (he : f133 kad N Z g I = some (rx [1] th v, I')) : hMet l kad 41 yL_endMacro cL_endMacro 3 (some .int) hh_endMacro [.ref g, .ref o] (wo (aMem Z I) o w, (z0, (c1, n1))) (.inl (some (.int (Int32.ofNat th)))) (wo (aMem Z I') o (if th = 0 then v.toInt64 else w), tH th z0 c1 n1) :=
  help_1 (yh := aH_endMacro) (z := aM133) (d := 40) (n := 0) (As := []) (es := [1]) (pcI := 3) (pcE := 15) (kp := 3) hl0 okH_endMacro (by decide +kernel) rfl rfl (Nat.le_of_ble_eq_true rfl) aMi133 (Nat.le_of_ble_eq_true rfl) rfl wH_endMacro (by decide +kernel) rfl (sh10_z ha) ho rfl rfl (fun _ => rfl) rfl rfl rfl caH_endMacro hth (Tf133 (by omega) g ha I _ he)
def aH_use : AMeth := (yL_use, (cL_use, (8, (some .int, (12, [(0, (.aload 6, 2)), (2, (.iconst 0, 1)), (3, (.aload_n 0, 1)), (4, (.iload_n 1, 1)), (5, (.iload_n 2, 1)), (6, (.iload_n 3, 1)), (7, (.iload 4, 2)), (9, (.iload 5, 2)), (11, (.invokevirtual 42, 3)), (14, (.i2l, 1)), (15, (.lastore, 1)), (16, (.goto 11, 3)), (19, (.astore 7, 2)), (21, (.iconst 1, 1)), (22, (.ireturn, 1)), (23, (.astore 7, 2)), (25, (.iconst 2, 1)), (26, (.ireturn, 1)), (27, (.iconst 0, 1)), (28, (.ireturn, 1))])))))
theorem okH_use : okT aH_use := okT_of (by decide +kernel)
def hh_use : List (Nat × Nat × Nat × Nat) := [(0, 16, 19, 13), (0, 16, 23, 15)]
theorem wH_use : ∀ x ∈ [Cond.methodLink RL 42 aM134.1, Cond.instanceMethod aM134.1, Cond.selects aM134.1.cls aM134.1 aM134.1], x ∈ aTB := aTB_all (by decide +kernel)
theorem wL_use : ∀ x ∈ [Cond.classLink RL 13 (aEC 0), Cond.classLink RL 15 (aEC 1)], x ∈ aTB := aTB_all (by decide +kernel)
theorem caH_use {g o : Nat} {p0 p1 p2 p3 p4 : Int32} : ∀ th, 1 ≤ th → th ≤ 2 → hCa aH_use hh_use [0, 1] 11 [(0, .ref g), (1, .int p0), (2, .int p1), (3, .int p2), (4, .int p3), (5, .int p4), (6, .ref o)] th
  | 1, _, _ => ⟨[], ⟨0, 16, 19, 13⟩, [⟨0, 16, 23, 15⟩], 22, _, rfl, fun z hz => absurd hz List.not_mem_nil, by decide, by decide, wL_use _ (by simp), by decide, fun _ => rfl, rfl⟩
  | 2, _, _ => ⟨[⟨0, 16, 19, 13⟩], ⟨0, 16, 23, 15⟩, [], 26, _, rfl, List.forall_mem_cons.mpr ⟨⟨by decide, 0, by decide, by decide, wL_use _ (by simp)⟩, fun z hz => absurd hz List.not_mem_nil⟩, by decide, by decide, wL_use _ (by simp), by decide, fun _ => rfl, rfl⟩
  | 0, h, _ => absurd h (by decide)
  | n + 3, _, h => absurd h (by omega)
theorem he_use {l : Launch} {kad : Nat → Nat} {N g o th c1 n1 : Nat} {Z : AZ} {I I' : AI} {z0 : Option Nat} {w : Int64} {v : Int32} {p0 p1 p2 p3 p4 : Int32} (hl0 : l.stackTraces = false) (ha : sh10 kad Z g) (ho : Z.1 o = none) (hth : th ≤ 2) (he : f134 kad N Z g p0 p1 p2 p3 p4 I = some (rx [0, 1] th v, I')) : hMet l kad 41 yL_use cL_use 8 (some .int) hh_use [.ref g, .int p0, .int p1, .int p2, .int p3, .int p4, .ref o] (wo (aMem Z I) o w, (z0, (c1, n1))) (.inl (some (.int (Int32.ofNat th)))) (wo (aMem Z I') o (if th = 0 then v.toInt64 else w), tH th z0 c1 n1) :=
  help_1 (yh := aH_use) (z := aM134) (d := 40) (n := 5) (As := [.int p0, .int p1, .int p2, .int p3, .int p4]) (es := [0, 1]) (pcI := 11) (pcE := 28) (kp := 8) hl0 okH_use (by decide +kernel) rfl rfl (Nat.le_of_ble_eq_true rfl) aMi134 (Nat.le_of_ble_eq_true rfl) rfl wH_use (by decide +kernel) rfl (sh10_z ha) ho rfl rfl (fun _ => rfl) rfl rfl rfl caH_use hth (Tf134 (by omega) g ha p0 p1 p2 p3 p4 I _ he)
def aH_assemble : AMeth := (yL_assemble, (cL_assemble, (3, (some .int, (12, [(0, (.aload_n 1, 1)), (1, (.iconst 0, 1)), (2, (.aload_n 0, 1)), (3, (.invokevirtual 45, 3)), (6, (.i2l, 1)), (7, (.lastore, 1)), (8, (.goto 6, 3)), (11, (.astore_n 2, 1)), (12, (.iconst 1, 1)), (13, (.ireturn, 1)), (14, (.iconst 0, 1)), (15, (.ireturn, 1))])))))
theorem okH_assemble : okT aH_assemble := okT_of (by decide +kernel)
def hh_assemble : List (Nat × Nat × Nat × Nat) := [(0, 8, 11, 15)]
theorem wH_assemble : ∀ x ∈ [Cond.methodLink RL 45 aM136.1, Cond.instanceMethod aM136.1, Cond.selects aM136.1.cls aM136.1 aM136.1], x ∈ aTB := aTB_all (by decide +kernel)
theorem wL_assemble : ∀ x ∈ [Cond.classLink RL 15 (aEC 1)], x ∈ aTB := aTB_all (by decide +kernel)
theorem caH_assemble {g o : Nat} : ∀ th, 1 ≤ th → th ≤ 1 → hCa aH_assemble hh_assemble [1] 3 [(0, .ref g), (1, .ref o)] th
  | 1, _, _ => ⟨[], ⟨0, 8, 11, 15⟩, [], 13, _, rfl, fun z hz => absurd hz List.not_mem_nil, by decide, by decide, wL_assemble _ (by simp), by decide, fun _ => rfl, rfl⟩
  | 0, h, _ => absurd h (by decide)
  | n + 2, _, h => absurd h (by omega)
theorem he_assemble {l : Launch} {kad : Nat → Nat} {N g o th c1 n1 : Nat} {Z : AZ} {I I' : AI} {z0 : Option Nat} {w : Int64} {v : Int32} (hl0 : l.stackTraces = false) (ha : sh10 kad Z g) (ho : Z.1 o = none) (hth : th ≤ 1) (he : f136 kad N Z g I = some (rx [1] th v, I')) : hMet l kad 41 yL_assemble cL_assemble 3 (some .int) hh_assemble [.ref g, .ref o] (wo (aMem Z I) o w, (z0, (c1, n1))) (.inl (some (.int (Int32.ofNat th)))) (wo (aMem Z I') o (if th = 0 then v.toInt64 else w), tH th z0 c1 n1) :=
  help_1 (yh := aH_assemble) (z := aM136) (d := 40) (n := 0) (As := []) (es := [1]) (pcI := 3) (pcE := 15) (kp := 3) hl0 okH_assemble (by decide +kernel) rfl rfl (Nat.le_of_ble_eq_true rfl) aMi136 (Nat.le_of_ble_eq_true rfl) rfl wH_assemble (by decide +kernel) rfl (sh10_z ha) ho rfl rfl (fun _ => rfl) rfl rfl rfl caH_assemble hth (Tf136 (by omega) g ha I _ he)
def aH_image : AMeth := (yL_image, (cL_image, (4, (some .int, (12, [(0, (.aload_n 2, 1)), (1, (.iconst 0, 1)), (2, (.aload_n 0, 1)), (3, (.iload_n 1, 1)), (4, (.invokevirtual 48, 3)), (7, (.i2l, 1)), (8, (.lastore, 1)), (9, (.goto 9, 3)), (12, (.astore_n 3, 1)), (13, (.iconst 1, 1)), (14, (.ireturn, 1)), (15, (.astore_n 3, 1)), (16, (.iconst 2, 1)), (17, (.ireturn, 1)), (18, (.iconst 0, 1)), (19, (.ireturn, 1))])))))
theorem okH_image : okT aH_image := okT_of (by decide +kernel)
def hh_image : List (Nat × Nat × Nat × Nat) := [(0, 9, 12, 13), (0, 9, 15, 15)]
theorem wH_image : ∀ x ∈ [Cond.methodLink RL 48 aM137.1, Cond.instanceMethod aM137.1, Cond.selects aM137.1.cls aM137.1 aM137.1], x ∈ aTB := aTB_all (by decide +kernel)
theorem wL_image : ∀ x ∈ [Cond.classLink RL 13 (aEC 0), Cond.classLink RL 15 (aEC 1)], x ∈ aTB := aTB_all (by decide +kernel)
theorem caH_image {g o : Nat} {p0 : Int32} : ∀ th, 1 ≤ th → th ≤ 2 → hCa aH_image hh_image [0, 1] 4 [(0, .ref g), (1, .int p0), (2, .ref o)] th
  | 1, _, _ => ⟨[], ⟨0, 9, 12, 13⟩, [⟨0, 9, 15, 15⟩], 14, _, rfl, fun z hz => absurd hz List.not_mem_nil, by decide, by decide, wL_image _ (by simp), by decide, fun _ => rfl, rfl⟩
  | 2, _, _ => ⟨[⟨0, 9, 12, 13⟩], ⟨0, 9, 15, 15⟩, [], 17, _, rfl, List.forall_mem_cons.mpr ⟨⟨by decide, 0, by decide, by decide, wL_image _ (by simp)⟩, fun z hz => absurd hz List.not_mem_nil⟩, by decide, by decide, wL_image _ (by simp), by decide, fun _ => rfl, rfl⟩
  | 0, h, _ => absurd h (by decide)
  | n + 3, _, h => absurd h (by omega)
theorem he_image {l : Launch} {kad : Nat → Nat} {N g o th c1 n1 : Nat} {Z : AZ} {I I' : AI} {z0 : Option Nat} {w : Int64} {v : Int32} {p0 : Int32} (hl0 : l.stackTraces = false) (ha : sh10 kad Z g) (ho : Z.1 o = none) (hth : th ≤ 2) (he : f137 kad N Z g p0 I = some (rx [0, 1] th v, I')) : hMet l kad 41 yL_image cL_image 4 (some .int) hh_image [.ref g, .int p0, .ref o] (wo (aMem Z I) o w, (z0, (c1, n1))) (.inl (some (.int (Int32.ofNat th)))) (wo (aMem Z I') o (if th = 0 then v.toInt64 else w), tH th z0 c1 n1) :=
  help_1 (yh := aH_image) (z := aM137) (d := 40) (n := 1) (As := [.int p0]) (es := [0, 1]) (pcI := 4) (pcE := 19) (kp := 4) hl0 okH_image (by decide +kernel) rfl rfl (Nat.le_of_ble_eq_true rfl) aMi137 (Nat.le_of_ble_eq_true rfl) rfl wH_image (by decide +kernel) rfl (sh10_z ha) ho rfl rfl (fun _ => rfl) rfl rfl rfl caH_image hth (Tf137 (by omega) g ha p0 I _ he)
def aH_start : AMeth := (yL_start, (cL_start, (3, (some .int, (12, [(0, (.aload_n 1, 1)), (1, (.iconst 0, 1)), (2, (.aload_n 0, 1)), (3, (.invokevirtual 51, 3)), (6, (.i2l, 1)), (7, (.lastore, 1)), (8, (.goto 6, 3)), (11, (.astore_n 2, 1)), (12, (.iconst 1, 1)), (13, (.ireturn, 1)), (14, (.iconst 0, 1)), (15, (.ireturn, 1))])))))
theorem okH_start : okT aH_start := okT_of (by decide +kernel)
def hh_start : List (Nat × Nat × Nat × Nat) := [(0, 8, 11, 15)]
theorem wH_start : ∀ x ∈ [Cond.methodLink RL 51 aM143.1, Cond.instanceMethod aM143.1, Cond.selects aM143.1.cls aM143.1 aM143.1], x ∈ aTB := aTB_all (by decide +kernel)
theorem wL_start : ∀ x ∈ [Cond.classLink RL 15 (aEC 1)], x ∈ aTB := aTB_all (by decide +kernel)
theorem caH_start {g o : Nat} : ∀ th, 1 ≤ th → th ≤ 1 → hCa aH_start hh_start [1] 3 [(0, .ref g), (1, .ref o)] th
  | 1, _, _ => ⟨[], ⟨0, 8, 11, 15⟩, [], 13, _, rfl, fun z hz => absurd hz List.not_mem_nil, by decide, by decide, wL_start _ (by simp), by decide, fun _ => rfl, rfl⟩
  | 0, h, _ => absurd h (by decide)
  | n + 2, _, h => absurd h (by omega)
theorem he_start {l : Launch} {kad : Nat → Nat} {N g o th c1 n1 : Nat} {Z : AZ} {I I' : AI} {z0 : Option Nat} {w : Int64} {v : Int32} (hl0 : l.stackTraces = false) (ha : sh10 kad Z g) (ho : Z.1 o = none) (hth : th ≤ 1) (he : f143 kad N Z g I = some (rx [1] th v, I')) : hMet l kad 41 yL_start cL_start 3 (some .int) hh_start [.ref g, .ref o] (wo (aMem Z I) o w, (z0, (c1, n1))) (.inl (some (.int (Int32.ofNat th)))) (wo (aMem Z I') o (if th = 0 then v.toInt64 else w), tH th z0 c1 n1) :=
  help_1 (yh := aH_start) (z := aM143) (d := 40) (n := 0) (As := []) (es := [1]) (pcI := 3) (pcE := 15) (kp := 3) hl0 okH_start (by decide +kernel) rfl rfl (Nat.le_of_ble_eq_true rfl) aMi143 (Nat.le_of_ble_eq_true rfl) rfl wH_start (by decide +kernel) rfl (sh10_z ha) ho rfl rfl (fun _ => rfl) rfl rfl rfl caH_start hth (Tf143 (by omega) g ha I _ he)
def aH_crash : AMeth := (yL_crash, (cL_crash, (3, (some .int, (12, [(0, (.aload_n 1, 1)), (1, (.iconst 0, 1)), (2, (.aload_n 0, 1)), (3, (.invokevirtual 54, 3)), (6, (.i2l, 1)), (7, (.lastore, 1)), (8, (.goto 6, 3)), (11, (.astore_n 2, 1)), (12, (.iconst 1, 1)), (13, (.ireturn, 1)), (14, (.iconst 0, 1)), (15, (.ireturn, 1))])))))
theorem okH_crash : okT aH_crash := okT_of (by decide +kernel)
def hh_crash : List (Nat × Nat × Nat × Nat) := [(0, 8, 11, 15)]
theorem wH_crash : ∀ x ∈ [Cond.methodLink RL 54 aM144.1, Cond.instanceMethod aM144.1, Cond.selects aM144.1.cls aM144.1 aM144.1], x ∈ aTB := aTB_all (by decide +kernel)
theorem wL_crash : ∀ x ∈ [Cond.classLink RL 15 (aEC 1)], x ∈ aTB := aTB_all (by decide +kernel)
theorem caH_crash {g o : Nat} : ∀ th, 1 ≤ th → th ≤ 1 → hCa aH_crash hh_crash [1] 3 [(0, .ref g), (1, .ref o)] th
  | 1, _, _ => ⟨[], ⟨0, 8, 11, 15⟩, [], 13, _, rfl, fun z hz => absurd hz List.not_mem_nil, by decide, by decide, wL_crash _ (by simp), by decide, fun _ => rfl, rfl⟩
  | 0, h, _ => absurd h (by decide)
  | n + 2, _, h => absurd h (by omega)
theorem he_crash {l : Launch} {kad : Nat → Nat} {N g o th c1 n1 : Nat} {Z : AZ} {I I' : AI} {z0 : Option Nat} {w : Int64} {v : Int32} (hl0 : l.stackTraces = false) (ha : sh10 kad Z g) (ho : Z.1 o = none) (hth : th ≤ 1) (he : f144 kad N Z g I = some (rx [1] th v, I')) : hMet l kad 41 yL_crash cL_crash 3 (some .int) hh_crash [.ref g, .ref o] (wo (aMem Z I) o w, (z0, (c1, n1))) (.inl (some (.int (Int32.ofNat th)))) (wo (aMem Z I') o (if th = 0 then v.toInt64 else w), tH th z0 c1 n1) :=
  help_1 (yh := aH_crash) (z := aM144) (d := 40) (n := 0) (As := []) (es := [1]) (pcI := 3) (pcE := 15) (kp := 3) hl0 okH_crash (by decide +kernel) rfl rfl (Nat.le_of_ble_eq_true rfl) aMi144 (Nat.le_of_ble_eq_true rfl) rfl wH_crash (by decide +kernel) rfl (sh10_z ha) ho rfl rfl (fun _ => rfl) rfl rfl rfl caH_crash hth (Tf144 (by omega) g ha I _ he)
def aH_format : AMeth := (yL_format, (cL_format, (3, (some .int, (12, [(0, (.aload_n 1, 1)), (1, (.iconst 0, 1)), (2, (.aload_n 0, 1)), (3, (.invokevirtual 57, 3)), (6, (.i2l, 1)), (7, (.lastore, 1)), (8, (.goto 6, 3)), (11, (.astore_n 2, 1)), (12, (.iconst 1, 1)), (13, (.ireturn, 1)), (14, (.iconst 0, 1)), (15, (.ireturn, 1))])))))
theorem okH_format : okT aH_format := okT_of (by decide +kernel)
def hh_format : List (Nat × Nat × Nat × Nat) := [(0, 8, 11, 15)]
theorem wH_format : ∀ x ∈ [Cond.methodLink RL 57 aM145.1, Cond.instanceMethod aM145.1, Cond.selects aM145.1.cls aM145.1 aM145.1], x ∈ aTB := aTB_all (by decide +kernel)
theorem wL_format : ∀ x ∈ [Cond.classLink RL 15 (aEC 1)], x ∈ aTB := aTB_all (by decide +kernel)
theorem caH_format {g o : Nat} : ∀ th, 1 ≤ th → th ≤ 1 → hCa aH_format hh_format [1] 3 [(0, .ref g), (1, .ref o)] th
  | 1, _, _ => ⟨[], ⟨0, 8, 11, 15⟩, [], 13, _, rfl, fun z hz => absurd hz List.not_mem_nil, by decide, by decide, wL_format _ (by simp), by decide, fun _ => rfl, rfl⟩
  | 0, h, _ => absurd h (by decide)
  | n + 2, _, h => absurd h (by omega)
theorem he_format {l : Launch} {kad : Nat → Nat} {N g o th c1 n1 : Nat} {Z : AZ} {I I' : AI} {z0 : Option Nat} {w : Int64} {v : Int32} (hl0 : l.stackTraces = false) (ha : sh10 kad Z g) (ho : Z.1 o = none) (hth : th ≤ 1) (he : f145 kad N Z g I = some (rx [1] th v, I')) : hMet l kad 41 yL_format cL_format 3 (some .int) hh_format [.ref g, .ref o] (wo (aMem Z I) o w, (z0, (c1, n1))) (.inl (some (.int (Int32.ofNat th)))) (wo (aMem Z I') o (if th = 0 then v.toInt64 else w), tH th z0 c1 n1) :=
  help_1 (yh := aH_format) (z := aM145) (d := 40) (n := 0) (As := []) (es := [1]) (pcI := 3) (pcE := 15) (kp := 3) hl0 okH_format (by decide +kernel) rfl rfl (Nat.le_of_ble_eq_true rfl) aMi145 (Nat.le_of_ble_eq_true rfl) rfl wH_format (by decide +kernel) rfl (sh10_z ha) ho rfl rfl (fun _ => rfl) rfl rfl rfl caH_format hth (Tf145 (by omega) g ha I _ he)
def aH_step : AMeth := (yL_step, (cL_step, (4, (some .int, (12, [(0, (.aload_n 2, 1)), (1, (.iconst 0, 1)), (2, (.aload_n 0, 1)), (3, (.iload_n 1, 1)), (4, (.invokevirtual 60, 3)), (7, (.i2l, 1)), (8, (.lastore, 1)), (9, (.goto 9, 3)), (12, (.astore_n 3, 1)), (13, (.iconst 1, 1)), (14, (.ireturn, 1)), (15, (.astore_n 3, 1)), (16, (.iconst 2, 1)), (17, (.ireturn, 1)), (18, (.iconst 0, 1)), (19, (.ireturn, 1))])))))
theorem okH_step : okT aH_step := okT_of (by decide +kernel)
def hh_step : List (Nat × Nat × Nat × Nat) := [(0, 9, 12, 13), (0, 9, 15, 15)]
theorem wH_step : ∀ x ∈ [Cond.methodLink RL 60 aM146.1, Cond.instanceMethod aM146.1, Cond.selects aM146.1.cls aM146.1 aM146.1], x ∈ aTB := aTB_all (by decide +kernel)
theorem wL_step : ∀ x ∈ [Cond.classLink RL 13 (aEC 0), Cond.classLink RL 15 (aEC 1)], x ∈ aTB := aTB_all (by decide +kernel)
theorem caH_step {g o : Nat} {p0 : Int32} : ∀ th, 1 ≤ th → th ≤ 2 → hCa aH_step hh_step [0, 1] 4 [(0, .ref g), (1, .int p0), (2, .ref o)] th
  | 1, _, _ => ⟨[], ⟨0, 9, 12, 13⟩, [⟨0, 9, 15, 15⟩], 14, _, rfl, fun z hz => absurd hz List.not_mem_nil, by decide, by decide, wL_step _ (by simp), by decide, fun _ => rfl, rfl⟩
  | 2, _, _ => ⟨[⟨0, 9, 12, 13⟩], ⟨0, 9, 15, 15⟩, [], 17, _, rfl, List.forall_mem_cons.mpr ⟨⟨by decide, 0, by decide, by decide, wL_step _ (by simp)⟩, fun z hz => absurd hz List.not_mem_nil⟩, by decide, by decide, wL_step _ (by simp), by decide, fun _ => rfl, rfl⟩
  | 0, h, _ => absurd h (by decide)
  | n + 3, _, h => absurd h (by omega)
theorem he_step {l : Launch} {kad : Nat → Nat} {N g o th c1 n1 : Nat} {Z : AZ} {I I' : AI} {z0 : Option Nat} {w : Int64} {v : Int32} {p0 : Int32} (hl0 : l.stackTraces = false) (ha : sh10 kad Z g) (ho : Z.1 o = none) (hth : th ≤ 2) (he : f146 kad N Z g p0 I = some (rx [0, 1] th v, I')) : hMet l kad 41 yL_step cL_step 4 (some .int) hh_step [.ref g, .int p0, .ref o] (wo (aMem Z I) o w, (z0, (c1, n1))) (.inl (some (.int (Int32.ofNat th)))) (wo (aMem Z I') o (if th = 0 then v.toInt64 else w), tH th z0 c1 n1) :=
  help_1 (yh := aH_step) (z := aM146) (d := 40) (n := 1) (As := [.int p0]) (es := [0, 1]) (pcI := 4) (pcE := 19) (kp := 4) hl0 okH_step (by decide +kernel) rfl rfl (Nat.le_of_ble_eq_true rfl) aMi146 (Nat.le_of_ble_eq_true rfl) rfl wH_step (by decide +kernel) rfl (sh10_z ha) ho rfl rfl (fun _ => rfl) rfl rfl rfl caH_step hth (Tf146 (by omega) g ha p0 I _ he)
def aH_runTo : AMeth := (yL_runTo, (cL_runTo, (5, (some .int, (12, [(0, (.aload_n 3, 1)), (1, (.iconst 0, 1)), (2, (.aload_n 0, 1)), (3, (.iload_n 1, 1)), (4, (.iload_n 2, 1)), (5, (.invokevirtual 63, 3)), (8, (.i2l, 1)), (9, (.lastore, 1)), (10, (.goto 11, 3)), (13, (.astore 4, 2)), (15, (.iconst 1, 1)), (16, (.ireturn, 1)), (17, (.astore 4, 2)), (19, (.iconst 2, 1)), (20, (.ireturn, 1)), (21, (.iconst 0, 1)), (22, (.ireturn, 1))])))))
theorem okH_runTo : okT aH_runTo := okT_of (by decide +kernel)
def hh_runTo : List (Nat × Nat × Nat × Nat) := [(0, 10, 13, 13), (0, 10, 17, 15)]
theorem wH_runTo : ∀ x ∈ [Cond.methodLink RL 63 aM147.1, Cond.instanceMethod aM147.1, Cond.selects aM147.1.cls aM147.1 aM147.1], x ∈ aTB := aTB_all (by decide +kernel)
theorem wL_runTo : ∀ x ∈ [Cond.classLink RL 13 (aEC 0), Cond.classLink RL 15 (aEC 1)], x ∈ aTB := aTB_all (by decide +kernel)
theorem caH_runTo {g o : Nat} {p0 p1 : Int32} : ∀ th, 1 ≤ th → th ≤ 2 → hCa aH_runTo hh_runTo [0, 1] 5 [(0, .ref g), (1, .int p0), (2, .int p1), (3, .ref o)] th
  | 1, _, _ => ⟨[], ⟨0, 10, 13, 13⟩, [⟨0, 10, 17, 15⟩], 16, _, rfl, fun z hz => absurd hz List.not_mem_nil, by decide, by decide, wL_runTo _ (by simp), by decide, fun _ => rfl, rfl⟩
  | 2, _, _ => ⟨[⟨0, 10, 13, 13⟩], ⟨0, 10, 17, 15⟩, [], 20, _, rfl, List.forall_mem_cons.mpr ⟨⟨by decide, 0, by decide, by decide, wL_runTo _ (by simp)⟩, fun z hz => absurd hz List.not_mem_nil⟩, by decide, by decide, wL_runTo _ (by simp), by decide, fun _ => rfl, rfl⟩
  | 0, h, _ => absurd h (by decide)
  | n + 3, _, h => absurd h (by omega)
theorem he_runTo {l : Launch} {kad : Nat → Nat} {N g o th c1 n1 : Nat} {Z : AZ} {I I' : AI} {z0 : Option Nat} {w : Int64} {v : Int32} {p0 p1 : Int32} (hl0 : l.stackTraces = false) (ha : sh10 kad Z g) (ho : Z.1 o = none) (hth : th ≤ 2) (he : f147 kad N Z g p0 p1 I = some (rx [0, 1] th v, I')) : hMet l kad 41 yL_runTo cL_runTo 5 (some .int) hh_runTo [.ref g, .int p0, .int p1, .ref o] (wo (aMem Z I) o w, (z0, (c1, n1))) (.inl (some (.int (Int32.ofNat th)))) (wo (aMem Z I') o (if th = 0 then v.toInt64 else w), tH th z0 c1 n1) :=
  help_1 (yh := aH_runTo) (z := aM147) (d := 40) (n := 2) (As := [.int p0, .int p1]) (es := [0, 1]) (pcI := 5) (pcE := 22) (kp := 5) hl0 okH_runTo (by decide +kernel) rfl rfl (Nat.le_of_ble_eq_true rfl) aMi147 (Nat.le_of_ble_eq_true rfl) rfl wH_runTo (by decide +kernel) rfl (sh10_z ha) ho rfl rfl (fun _ => rfl) rfl rfl rfl caH_runTo hth (Tf147 (by omega) g ha p0 p1 I _ he)
def aH_back : AMeth := (yL_back, (cL_back, (4, (some .int, (12, [(0, (.aload_n 2, 1)), (1, (.iconst 0, 1)), (2, (.aload_n 0, 1)), (3, (.iload_n 1, 1)), (4, (.invokevirtual 66, 3)), (7, (.i2l, 1)), (8, (.lastore, 1)), (9, (.goto 9, 3)), (12, (.astore_n 3, 1)), (13, (.iconst 1, 1)), (14, (.ireturn, 1)), (15, (.astore_n 3, 1)), (16, (.iconst 2, 1)), (17, (.ireturn, 1)), (18, (.iconst 0, 1)), (19, (.ireturn, 1))])))))
theorem okH_back : okT aH_back := okT_of (by decide +kernel)
def hh_back : List (Nat × Nat × Nat × Nat) := [(0, 9, 12, 13), (0, 9, 15, 15)]
theorem wH_back : ∀ x ∈ [Cond.methodLink RL 66 aM148.1, Cond.instanceMethod aM148.1, Cond.selects aM148.1.cls aM148.1 aM148.1], x ∈ aTB := aTB_all (by decide +kernel)
theorem wL_back : ∀ x ∈ [Cond.classLink RL 13 (aEC 0), Cond.classLink RL 15 (aEC 1)], x ∈ aTB := aTB_all (by decide +kernel)
theorem caH_back {g o : Nat} {p0 : Int32} : ∀ th, 1 ≤ th → th ≤ 2 → hCa aH_back hh_back [0, 1] 4 [(0, .ref g), (1, .int p0), (2, .ref o)] th
  | 1, _, _ => ⟨[], ⟨0, 9, 12, 13⟩, [⟨0, 9, 15, 15⟩], 14, _, rfl, fun z hz => absurd hz List.not_mem_nil, by decide, by decide, wL_back _ (by simp), by decide, fun _ => rfl, rfl⟩
  | 2, _, _ => ⟨[⟨0, 9, 12, 13⟩], ⟨0, 9, 15, 15⟩, [], 17, _, rfl, List.forall_mem_cons.mpr ⟨⟨by decide, 0, by decide, by decide, wL_back _ (by simp)⟩, fun z hz => absurd hz List.not_mem_nil⟩, by decide, by decide, wL_back _ (by simp), by decide, fun _ => rfl, rfl⟩
  | 0, h, _ => absurd h (by decide)
  | n + 3, _, h => absurd h (by omega)
theorem he_back {l : Launch} {kad : Nat → Nat} {N g o th c1 n1 : Nat} {Z : AZ} {I I' : AI} {z0 : Option Nat} {w : Int64} {v : Int32} {p0 : Int32} (hl0 : l.stackTraces = false) (ha : sh10 kad Z g) (ho : Z.1 o = none) (hth : th ≤ 2) (he : f148 kad N Z g p0 I = some (rx [0, 1] th v, I')) : hMet l kad 41 yL_back cL_back 4 (some .int) hh_back [.ref g, .int p0, .ref o] (wo (aMem Z I) o w, (z0, (c1, n1))) (.inl (some (.int (Int32.ofNat th)))) (wo (aMem Z I') o (if th = 0 then v.toInt64 else w), tH th z0 c1 n1) :=
  help_1 (yh := aH_back) (z := aM148) (d := 40) (n := 1) (As := [.int p0]) (es := [0, 1]) (pcI := 4) (pcE := 19) (kp := 4) hl0 okH_back (by decide +kernel) rfl rfl (Nat.le_of_ble_eq_true rfl) aMi148 (Nat.le_of_ble_eq_true rfl) rfl wH_back (by decide +kernel) rfl (sh10_z ha) ho rfl rfl (fun _ => rfl) rfl rfl rfl caH_back hth (Tf148 (by omega) g ha p0 I _ he)
def aH_press : AMeth := (yL_press, (cL_press, (4, (some .int, (12, [(0, (.aload_n 2, 1)), (1, (.iconst 0, 1)), (2, (.aload_n 0, 1)), (3, (.iload_n 1, 1)), (4, (.invokevirtual 69, 3)), (7, (.i2l, 1)), (8, (.lastore, 1)), (9, (.goto 9, 3)), (12, (.astore_n 3, 1)), (13, (.iconst 1, 1)), (14, (.ireturn, 1)), (15, (.astore_n 3, 1)), (16, (.iconst 2, 1)), (17, (.ireturn, 1)), (18, (.iconst 0, 1)), (19, (.ireturn, 1))])))))
theorem okH_press : okT aH_press := okT_of (by decide +kernel)
def hh_press : List (Nat × Nat × Nat × Nat) := [(0, 9, 12, 13), (0, 9, 15, 15)]
theorem wH_press : ∀ x ∈ [Cond.methodLink RL 69 aM149.1, Cond.instanceMethod aM149.1, Cond.selects aM149.1.cls aM149.1 aM149.1], x ∈ aTB := aTB_all (by decide +kernel)
theorem wL_press : ∀ x ∈ [Cond.classLink RL 13 (aEC 0), Cond.classLink RL 15 (aEC 1)], x ∈ aTB := aTB_all (by decide +kernel)
theorem caH_press {g o : Nat} {p0 : Int32} : ∀ th, 1 ≤ th → th ≤ 2 → hCa aH_press hh_press [0, 1] 4 [(0, .ref g), (1, .int p0), (2, .ref o)] th
  | 1, _, _ => ⟨[], ⟨0, 9, 12, 13⟩, [⟨0, 9, 15, 15⟩], 14, _, rfl, fun z hz => absurd hz List.not_mem_nil, by decide, by decide, wL_press _ (by simp), by decide, fun _ => rfl, rfl⟩
  | 2, _, _ => ⟨[⟨0, 9, 12, 13⟩], ⟨0, 9, 15, 15⟩, [], 17, _, rfl, List.forall_mem_cons.mpr ⟨⟨by decide, 0, by decide, by decide, wL_press _ (by simp)⟩, fun z hz => absurd hz List.not_mem_nil⟩, by decide, by decide, wL_press _ (by simp), by decide, fun _ => rfl, rfl⟩
  | 0, h, _ => absurd h (by decide)
  | n + 3, _, h => absurd h (by omega)
theorem he_press {l : Launch} {kad : Nat → Nat} {N g o th c1 n1 : Nat} {Z : AZ} {I I' : AI} {z0 : Option Nat} {w : Int64} {v : Int32} {p0 : Int32} (hl0 : l.stackTraces = false) (ha : sh10 kad Z g) (ho : Z.1 o = none) (hth : th ≤ 2) (he : f149 kad N Z g p0 I = some (rx [0, 1] th v, I')) : hMet l kad 41 yL_press cL_press 4 (some .int) hh_press [.ref g, .int p0, .ref o] (wo (aMem Z I) o w, (z0, (c1, n1))) (.inl (some (.int (Int32.ofNat th)))) (wo (aMem Z I') o (if th = 0 then v.toInt64 else w), tH th z0 c1 n1) :=
  help_1 (yh := aH_press) (z := aM149) (d := 40) (n := 1) (As := [.int p0]) (es := [0, 1]) (pcI := 4) (pcE := 19) (kp := 4) hl0 okH_press (by decide +kernel) rfl rfl (Nat.le_of_ble_eq_true rfl) aMi149 (Nat.le_of_ble_eq_true rfl) rfl wH_press (by decide +kernel) rfl (sh10_z ha) ho rfl rfl (fun _ => rfl) rfl rfl rfl caH_press hth (Tf149 (by omega) g ha p0 I _ he)
def aH_register : AMeth := (yL_register, (cL_register, (4, (some .int, (12, [(0, (.aload_n 2, 1)), (1, (.iconst 0, 1)), (2, (.aload_n 0, 1)), (3, (.iload_n 1, 1)), (4, (.invokevirtual 72, 3)), (7, (.i2l, 1)), (8, (.lastore, 1)), (9, (.goto 6, 3)), (12, (.astore_n 3, 1)), (13, (.iconst 1, 1)), (14, (.ireturn, 1)), (15, (.iconst 0, 1)), (16, (.ireturn, 1))])))))
theorem okH_register : okT aH_register := okT_of (by decide +kernel)
def hh_register : List (Nat × Nat × Nat × Nat) := [(0, 9, 12, 13)]
theorem wH_register : ∀ x ∈ [Cond.methodLink RL 72 aM158.1, Cond.instanceMethod aM158.1, Cond.selects aM158.1.cls aM158.1 aM158.1], x ∈ aTB := aTB_all (by decide +kernel)
theorem wL_register : ∀ x ∈ [Cond.classLink RL 13 (aEC 0)], x ∈ aTB := aTB_all (by decide +kernel)
theorem caH_register {g o : Nat} {p0 : Int32} : ∀ th, 1 ≤ th → th ≤ 1 → hCa aH_register hh_register [0] 4 [(0, .ref g), (1, .int p0), (2, .ref o)] th
  | 1, _, _ => ⟨[], ⟨0, 9, 12, 13⟩, [], 14, _, rfl, fun z hz => absurd hz List.not_mem_nil, by decide, by decide, wL_register _ (by simp), by decide, fun _ => rfl, rfl⟩
  | 0, h, _ => absurd h (by decide)
  | n + 2, _, h => absurd h (by omega)
theorem he_register {l : Launch} {kad : Nat → Nat} {N g o th c1 n1 : Nat} {Z : AZ} {I I' : AI} {z0 : Option Nat} {w : Int64} {v : Int32} {p0 : Int32} (hl0 : l.stackTraces = false) (ha : sh10 kad Z g) (ho : Z.1 o = none) (hth : th ≤ 1) (he : f158 kad N Z g p0 I = some (rx [0] th v, I')) : hMet l kad 41 yL_register cL_register 4 (some .int) hh_register [.ref g, .int p0, .ref o] (wo (aMem Z I) o w, (z0, (c1, n1))) (.inl (some (.int (Int32.ofNat th)))) (wo (aMem Z I') o (if th = 0 then v.toInt64 else w), tH th z0 c1 n1) :=
  help_1 (yh := aH_register) (z := aM158) (d := 40) (n := 1) (As := [.int p0]) (es := [0]) (pcI := 4) (pcE := 16) (kp := 4) hl0 okH_register (by decide +kernel) rfl rfl (Nat.le_of_ble_eq_true rfl) aMi158 (Nat.le_of_ble_eq_true rfl) rfl wH_register (by decide +kernel) rfl (sh10_z ha) ho rfl rfl (fun _ => rfl) rfl rfl rfl caH_register hth (Tf158 (by omega) g ha p0 I _ he)
def aH_memory : AMeth := (yL_memory, (cL_memory, (4, (some .int, (12, [(0, (.aload_n 2, 1)), (1, (.iconst 0, 1)), (2, (.aload_n 0, 1)), (3, (.iload_n 1, 1)), (4, (.invokevirtual 75, 3)), (7, (.i2l, 1)), (8, (.lastore, 1)), (9, (.goto 6, 3)), (12, (.astore_n 3, 1)), (13, (.iconst 1, 1)), (14, (.ireturn, 1)), (15, (.iconst 0, 1)), (16, (.ireturn, 1))])))))
theorem okH_memory : okT aH_memory := okT_of (by decide +kernel)
def hh_memory : List (Nat × Nat × Nat × Nat) := [(0, 9, 12, 13)]
theorem wH_memory : ∀ x ∈ [Cond.methodLink RL 75 aM159.1, Cond.instanceMethod aM159.1, Cond.selects aM159.1.cls aM159.1 aM159.1], x ∈ aTB := aTB_all (by decide +kernel)
theorem wL_memory : ∀ x ∈ [Cond.classLink RL 13 (aEC 0)], x ∈ aTB := aTB_all (by decide +kernel)
theorem caH_memory {g o : Nat} {p0 : Int32} : ∀ th, 1 ≤ th → th ≤ 1 → hCa aH_memory hh_memory [0] 4 [(0, .ref g), (1, .int p0), (2, .ref o)] th
  | 1, _, _ => ⟨[], ⟨0, 9, 12, 13⟩, [], 14, _, rfl, fun z hz => absurd hz List.not_mem_nil, by decide, by decide, wL_memory _ (by simp), by decide, fun _ => rfl, rfl⟩
  | 0, h, _ => absurd h (by decide)
  | n + 2, _, h => absurd h (by omega)
theorem he_memory {l : Launch} {kad : Nat → Nat} {N g o th c1 n1 : Nat} {Z : AZ} {I I' : AI} {z0 : Option Nat} {w : Int64} {v : Int32} {p0 : Int32} (hl0 : l.stackTraces = false) (ha : sh10 kad Z g) (ho : Z.1 o = none) (hth : th ≤ 1) (he : f159 kad N Z g p0 I = some (rx [0] th v, I')) : hMet l kad 41 yL_memory cL_memory 4 (some .int) hh_memory [.ref g, .int p0, .ref o] (wo (aMem Z I) o w, (z0, (c1, n1))) (.inl (some (.int (Int32.ofNat th)))) (wo (aMem Z I') o (if th = 0 then v.toInt64 else w), tH th z0 c1 n1) :=
  help_1 (yh := aH_memory) (z := aM159) (d := 40) (n := 1) (As := [.int p0]) (es := [0]) (pcI := 4) (pcE := 16) (kp := 4) hl0 okH_memory (by decide +kernel) rfl rfl (Nat.le_of_ble_eq_true rfl) aMi159 (Nat.le_of_ble_eq_true rfl) rfl wH_memory (by decide +kernel) rfl (sh10_z ha) ho rfl rfl (fun _ => rfl) rfl rfl rfl caH_memory hth (Tf159 (by omega) g ha p0 I _ he)
def aH_changedAt : AMeth := (yL_changedAt, (cL_changedAt, (4, (some .int, (12, [(0, (.aload_n 2, 1)), (1, (.iconst 0, 1)), (2, (.aload_n 0, 1)), (3, (.iload_n 1, 1)), (4, (.invokevirtual 78, 3)), (7, (.i2l, 1)), (8, (.lastore, 1)), (9, (.goto 6, 3)), (12, (.astore_n 3, 1)), (13, (.iconst 1, 1)), (14, (.ireturn, 1)), (15, (.iconst 0, 1)), (16, (.ireturn, 1))])))))
theorem okH_changedAt : okT aH_changedAt := okT_of (by decide +kernel)
def hh_changedAt : List (Nat × Nat × Nat × Nat) := [(0, 9, 12, 13)]
theorem wH_changedAt : ∀ x ∈ [Cond.methodLink RL 78 aM160.1, Cond.instanceMethod aM160.1, Cond.selects aM160.1.cls aM160.1 aM160.1], x ∈ aTB := aTB_all (by decide +kernel)
theorem wL_changedAt : ∀ x ∈ [Cond.classLink RL 13 (aEC 0)], x ∈ aTB := aTB_all (by decide +kernel)
theorem caH_changedAt {g o : Nat} {p0 : Int32} : ∀ th, 1 ≤ th → th ≤ 1 → hCa aH_changedAt hh_changedAt [0] 4 [(0, .ref g), (1, .int p0), (2, .ref o)] th
  | 1, _, _ => ⟨[], ⟨0, 9, 12, 13⟩, [], 14, _, rfl, fun z hz => absurd hz List.not_mem_nil, by decide, by decide, wL_changedAt _ (by simp), by decide, fun _ => rfl, rfl⟩
  | 0, h, _ => absurd h (by decide)
  | n + 2, _, h => absurd h (by omega)
theorem he_changedAt {l : Launch} {kad : Nat → Nat} {N g o th c1 n1 : Nat} {Z : AZ} {I I' : AI} {z0 : Option Nat} {w : Int64} {v : Int32} {p0 : Int32} (hl0 : l.stackTraces = false) (ha : sh10 kad Z g) (ho : Z.1 o = none) (hth : th ≤ 1) (he : f160 kad N Z g p0 I = some (rx [0] th v, I')) : hMet l kad 41 yL_changedAt cL_changedAt 4 (some .int) hh_changedAt [.ref g, .int p0, .ref o] (wo (aMem Z I) o w, (z0, (c1, n1))) (.inl (some (.int (Int32.ofNat th)))) (wo (aMem Z I') o (if th = 0 then v.toInt64 else w), tH th z0 c1 n1) :=
  help_1 (yh := aH_changedAt) (z := aM160) (d := 40) (n := 1) (As := [.int p0]) (es := [0]) (pcI := 4) (pcE := 16) (kp := 4) hl0 okH_changedAt (by decide +kernel) rfl rfl (Nat.le_of_ble_eq_true rfl) aMi160 (Nat.le_of_ble_eq_true rfl) rfl wH_changedAt (by decide +kernel) rfl (sh10_z ha) ho rfl rfl (fun _ => rfl) rfl rfl rfl caH_changedAt hth (Tf160 (by omega) g ha p0 I _ he)
def aH_tapeAt : AMeth := (yL_tapeAt, (cL_tapeAt, (4, (some .int, (12, [(0, (.aload_n 2, 1)), (1, (.iconst 0, 1)), (2, (.aload_n 0, 1)), (3, (.iload_n 1, 1)), (4, (.invokevirtual 81, 3)), (7, (.i2l, 1)), (8, (.lastore, 1)), (9, (.goto 6, 3)), (12, (.astore_n 3, 1)), (13, (.iconst 1, 1)), (14, (.ireturn, 1)), (15, (.iconst 0, 1)), (16, (.ireturn, 1))])))))
theorem okH_tapeAt : okT aH_tapeAt := okT_of (by decide +kernel)
def hh_tapeAt : List (Nat × Nat × Nat × Nat) := [(0, 9, 12, 84)]
theorem wH_tapeAt : ∀ x ∈ [Cond.methodLink RL 81 aM162.1, Cond.instanceMethod aM162.1, Cond.selects aM162.1.cls aM162.1 aM162.1], x ∈ aTB := aTB_all (by decide +kernel)
theorem wL_tapeAt : ∀ x ∈ [Cond.classLink RL 84 (aEC 2)], x ∈ aTB := aTB_all (by decide +kernel)
theorem caH_tapeAt {g o : Nat} {p0 : Int32} : ∀ th, 1 ≤ th → th ≤ 1 → hCa aH_tapeAt hh_tapeAt [2] 4 [(0, .ref g), (1, .int p0), (2, .ref o)] th
  | 1, _, _ => ⟨[], ⟨0, 9, 12, 84⟩, [], 14, _, rfl, fun z hz => absurd hz List.not_mem_nil, by decide, by decide, wL_tapeAt _ (by simp), by decide, fun _ => rfl, rfl⟩
  | 0, h, _ => absurd h (by decide)
  | n + 2, _, h => absurd h (by omega)
theorem he_tapeAt {l : Launch} {kad : Nat → Nat} {N g o th c1 n1 : Nat} {Z : AZ} {I I' : AI} {z0 : Option Nat} {w : Int64} {v : Int32} {p0 : Int32} (hl0 : l.stackTraces = false) (ha : sh10 kad Z g) (ho : Z.1 o = none) (hth : th ≤ 1) (he : f162 kad N Z g p0 I = some (rx [2] th v, I')) : hMet l kad 41 yL_tapeAt cL_tapeAt 4 (some .int) hh_tapeAt [.ref g, .int p0, .ref o] (wo (aMem Z I) o w, (z0, (c1, n1))) (.inl (some (.int (Int32.ofNat th)))) (wo (aMem Z I') o (if th = 0 then v.toInt64 else w), tH th z0 c1 n1) :=
  help_1 (yh := aH_tapeAt) (z := aM162) (d := 40) (n := 1) (As := [.int p0]) (es := [2]) (pcI := 4) (pcE := 16) (kp := 4) hl0 okH_tapeAt (by decide +kernel) rfl rfl (Nat.le_of_ble_eq_true rfl) aMi162 (Nat.le_of_ble_eq_true rfl) rfl wH_tapeAt (by decide +kernel) rfl (sh10_z ha) ho rfl rfl (fun _ => rfl) rfl rfl rfl caH_tapeAt hth (Tf162 (by omega) g ha p0 I _ he)
def aH_sumAnew : AMeth := (yL_sumAnew, (cL_sumAnew, (4, (some .int, (12, [(0, (.aload_n 2, 1)), (1, (.iconst 0, 1)), (2, (.aload_n 0, 1)), (3, (.iload_n 1, 1)), (4, (.invokevirtual 86, 3)), (7, (.i2l, 1)), (8, (.lastore, 1)), (9, (.goto 9, 3)), (12, (.astore_n 3, 1)), (13, (.iconst 1, 1)), (14, (.ireturn, 1)), (15, (.astore_n 3, 1)), (16, (.iconst 2, 1)), (17, (.ireturn, 1)), (18, (.iconst 0, 1)), (19, (.ireturn, 1))])))))
theorem okH_sumAnew : okT aH_sumAnew := okT_of (by decide +kernel)
def hh_sumAnew : List (Nat × Nat × Nat × Nat) := [(0, 9, 12, 15), (0, 9, 15, 13)]
theorem wH_sumAnew : ∀ x ∈ [Cond.methodLink RL 86 aM164.1, Cond.instanceMethod aM164.1, Cond.selects aM164.1.cls aM164.1 aM164.1], x ∈ aTB := aTB_all (by decide +kernel)
theorem wL_sumAnew : ∀ x ∈ [Cond.classLink RL 15 (aEC 1), Cond.classLink RL 13 (aEC 0)], x ∈ aTB := aTB_all (by decide +kernel)
theorem caH_sumAnew {g o : Nat} {p0 : Int32} : ∀ th, 1 ≤ th → th ≤ 2 → hCa aH_sumAnew hh_sumAnew [1, 0] 4 [(0, .ref g), (1, .int p0), (2, .ref o)] th
  | 1, _, _ => ⟨[], ⟨0, 9, 12, 15⟩, [⟨0, 9, 15, 13⟩], 14, _, rfl, fun z hz => absurd hz List.not_mem_nil, by decide, by decide, wL_sumAnew _ (by simp), by decide, fun _ => rfl, rfl⟩
  | 2, _, _ => ⟨[⟨0, 9, 12, 15⟩], ⟨0, 9, 15, 13⟩, [], 17, _, rfl, List.forall_mem_cons.mpr ⟨⟨by decide, 1, by decide, by decide, wL_sumAnew _ (by simp)⟩, fun z hz => absurd hz List.not_mem_nil⟩, by decide, by decide, wL_sumAnew _ (by simp), by decide, fun _ => rfl, rfl⟩
  | 0, h, _ => absurd h (by decide)
  | n + 3, _, h => absurd h (by omega)
theorem he_sumAnew {l : Launch} {kad : Nat → Nat} {N g o th c1 n1 : Nat} {Z : AZ} {I I' : AI} {z0 : Option Nat} {w : Int64} {v : Int32} {p0 : Int32} (hl0 : l.stackTraces = false) (ha : sh10 kad Z g) (ho : Z.1 o = none) (hth : th ≤ 2) (he : f164 kad N Z g p0 I = some (rx [1, 0] th v, I')) : hMet l kad 41 yL_sumAnew cL_sumAnew 4 (some .int) hh_sumAnew [.ref g, .int p0, .ref o] (wo (aMem Z I) o w, (z0, (c1, n1))) (.inl (some (.int (Int32.ofNat th)))) (wo (aMem Z I') o (if th = 0 then v.toInt64 else w), tH th z0 c1 n1) :=
  help_1 (yh := aH_sumAnew) (z := aM164) (d := 40) (n := 1) (As := [.int p0]) (es := [1, 0]) (pcI := 4) (pcE := 19) (kp := 4) hl0 okH_sumAnew (by decide +kernel) rfl rfl (Nat.le_of_ble_eq_true rfl) aMi164 (Nat.le_of_ble_eq_true rfl) rfl wH_sumAnew (by decide +kernel) rfl (sh10_z ha) ho rfl rfl (fun _ => rfl) rfl rfl rfl caH_sumAnew hth (Tf164 (by omega) g ha p0 I _ he)
def aH_disk : AMeth := (yL_disk, (cL_disk, (5, (some .int, (12, [(0, (.aload_n 3, 1)), (1, (.iconst 0, 1)), (2, (.aload_n 0, 1)), (3, (.iload_n 1, 1)), (4, (.iload_n 2, 1)), (5, (.invokevirtual 89, 3)), (8, (.i2l, 1)), (9, (.lastore, 1)), (10, (.goto 7, 3)), (13, (.astore 4, 2)), (15, (.iconst 1, 1)), (16, (.ireturn, 1)), (17, (.iconst 0, 1)), (18, (.ireturn, 1))])))))
theorem okH_disk : okT aH_disk := okT_of (by decide +kernel)
def hh_disk : List (Nat × Nat × Nat × Nat) := [(0, 10, 13, 13)]
theorem wH_disk : ∀ x ∈ [Cond.methodLink RL 89 aM169.1, Cond.instanceMethod aM169.1, Cond.selects aM169.1.cls aM169.1 aM169.1], x ∈ aTB := aTB_all (by decide +kernel)
theorem wL_disk : ∀ x ∈ [Cond.classLink RL 13 (aEC 0)], x ∈ aTB := aTB_all (by decide +kernel)
theorem caH_disk {g o : Nat} {p0 p1 : Int32} : ∀ th, 1 ≤ th → th ≤ 1 → hCa aH_disk hh_disk [0] 5 [(0, .ref g), (1, .int p0), (2, .int p1), (3, .ref o)] th
  | 1, _, _ => ⟨[], ⟨0, 10, 13, 13⟩, [], 16, _, rfl, fun z hz => absurd hz List.not_mem_nil, by decide, by decide, wL_disk _ (by simp), by decide, fun _ => rfl, rfl⟩
  | 0, h, _ => absurd h (by decide)
  | n + 2, _, h => absurd h (by omega)
theorem he_disk {l : Launch} {kad : Nat → Nat} {N g o th c1 n1 : Nat} {Z : AZ} {I I' : AI} {z0 : Option Nat} {w : Int64} {v : Int32} {p0 p1 : Int32} (hl0 : l.stackTraces = false) (ha : sh10 kad Z g) (ho : Z.1 o = none) (hth : th ≤ 1) (he : f169 kad N Z g p0 p1 I = some (rx [0] th v, I')) : hMet l kad 41 yL_disk cL_disk 5 (some .int) hh_disk [.ref g, .int p0, .int p1, .ref o] (wo (aMem Z I) o w, (z0, (c1, n1))) (.inl (some (.int (Int32.ofNat th)))) (wo (aMem Z I') o (if th = 0 then v.toInt64 else w), tH th z0 c1 n1) :=
  help_1 (yh := aH_disk) (z := aM169) (d := 40) (n := 2) (As := [.int p0, .int p1]) (es := [0]) (pcI := 5) (pcE := 18) (kp := 5) hl0 okH_disk (by decide +kernel) rfl rfl (Nat.le_of_ble_eq_true rfl) aMi169 (Nat.le_of_ble_eq_true rfl) rfl wH_disk (by decide +kernel) rfl (sh10_z ha) ho rfl rfl (fun _ => rfl) rfl rfl rfl caH_disk hth (Tf169 (by omega) g ha p0 p1 I _ he)
def aH_size : AMeth := (yL_size, (cL_size, (4, (some .int, (12, [(0, (.aload_n 2, 1)), (1, (.iconst 0, 1)), (2, (.aload_n 0, 1)), (3, (.iload_n 1, 1)), (4, (.invokevirtual 92, 3)), (7, (.i2l, 1)), (8, (.lastore, 1)), (9, (.goto 9, 3)), (12, (.astore_n 3, 1)), (13, (.iconst 1, 1)), (14, (.ireturn, 1)), (15, (.astore_n 3, 1)), (16, (.iconst 2, 1)), (17, (.ireturn, 1)), (18, (.iconst 0, 1)), (19, (.ireturn, 1))])))))
theorem okH_size : okT aH_size := okT_of (by decide +kernel)
def hh_size : List (Nat × Nat × Nat × Nat) := [(0, 9, 12, 13), (0, 9, 15, 95)]
theorem wH_size : ∀ x ∈ [Cond.methodLink RL 92 aM171.1, Cond.instanceMethod aM171.1, Cond.selects aM171.1.cls aM171.1 aM171.1], x ∈ aTB := aTB_all (by decide +kernel)
theorem wL_size : ∀ x ∈ [Cond.classLink RL 13 (aEC 0), Cond.classLink RL 95 (aEC 3)], x ∈ aTB := aTB_all (by decide +kernel)
theorem caH_size {g o : Nat} {p0 : Int32} : ∀ th, 1 ≤ th → th ≤ 2 → hCa aH_size hh_size [0, 3] 4 [(0, .ref g), (1, .int p0), (2, .ref o)] th
  | 1, _, _ => ⟨[], ⟨0, 9, 12, 13⟩, [⟨0, 9, 15, 95⟩], 14, _, rfl, fun z hz => absurd hz List.not_mem_nil, by decide, by decide, wL_size _ (by simp), by decide, fun _ => rfl, rfl⟩
  | 2, _, _ => ⟨[⟨0, 9, 12, 13⟩], ⟨0, 9, 15, 95⟩, [], 17, _, rfl, List.forall_mem_cons.mpr ⟨⟨by decide, 0, by decide, by decide, wL_size _ (by simp)⟩, fun z hz => absurd hz List.not_mem_nil⟩, by decide, by decide, wL_size _ (by simp), by decide, fun _ => rfl, rfl⟩
  | 0, h, _ => absurd h (by decide)
  | n + 3, _, h => absurd h (by omega)
theorem he_size {l : Launch} {kad : Nat → Nat} {N g o th c1 n1 : Nat} {Z : AZ} {I I' : AI} {z0 : Option Nat} {w : Int64} {v : Int32} {p0 : Int32} (hl0 : l.stackTraces = false) (ha : sh10 kad Z g) (ho : Z.1 o = none) (hth : th ≤ 2) (he : f171 kad N Z g p0 I = some (rx [0, 3] th v, I')) : hMet l kad 41 yL_size cL_size 4 (some .int) hh_size [.ref g, .int p0, .ref o] (wo (aMem Z I) o w, (z0, (c1, n1))) (.inl (some (.int (Int32.ofNat th)))) (wo (aMem Z I') o (if th = 0 then v.toInt64 else w), tH th z0 c1 n1) :=
  help_1 (yh := aH_size) (z := aM171) (d := 40) (n := 1) (As := [.int p0]) (es := [0, 3]) (pcI := 4) (pcE := 19) (kp := 4) hl0 okH_size (by decide +kernel) rfl rfl (Nat.le_of_ble_eq_true rfl) aMi171 (Nat.le_of_ble_eq_true rfl) rfl wH_size (by decide +kernel) rfl (sh10_z ha) ho rfl rfl (fun _ => rfl) rfl rfl rfl caH_size hth (Tf171 (by omega) g ha p0 I _ he)
def aH_wordOf : AMeth := (yL_wordOf, (cL_wordOf, (5, (some .int, (12, [(0, (.aload_n 3, 1)), (1, (.iconst 0, 1)), (2, (.aload_n 0, 1)), (3, (.iload_n 1, 1)), (4, (.iload_n 2, 1)), (5, (.invokevirtual 97, 3)), (8, (.i2l, 1)), (9, (.lastore, 1)), (10, (.goto 15, 3)), (13, (.astore 4, 2)), (15, (.iconst 1, 1)), (16, (.ireturn, 1)), (17, (.astore 4, 2)), (19, (.iconst 2, 1)), (20, (.ireturn, 1)), (21, (.astore 4, 2)), (23, (.iconst 3, 1)), (24, (.ireturn, 1)), (25, (.iconst 0, 1)), (26, (.ireturn, 1))])))))
theorem okH_wordOf : okT aH_wordOf := okT_of (by decide +kernel)
def hh_wordOf : List (Nat × Nat × Nat × Nat) := [(0, 10, 13, 13), (0, 10, 17, 95), (0, 10, 21, 84)]
theorem wH_wordOf : ∀ x ∈ [Cond.methodLink RL 97 aM172.1, Cond.instanceMethod aM172.1, Cond.selects aM172.1.cls aM172.1 aM172.1], x ∈ aTB := aTB_all (by decide +kernel)
theorem wL_wordOf : ∀ x ∈ [Cond.classLink RL 13 (aEC 0), Cond.classLink RL 95 (aEC 3), Cond.classLink RL 84 (aEC 2)], x ∈ aTB := aTB_all (by decide +kernel)
theorem caH_wordOf {g o : Nat} {p0 p1 : Int32} : ∀ th, 1 ≤ th → th ≤ 3 → hCa aH_wordOf hh_wordOf [0, 3, 2] 5 [(0, .ref g), (1, .int p0), (2, .int p1), (3, .ref o)] th
  | 1, _, _ => ⟨[], ⟨0, 10, 13, 13⟩, [⟨0, 10, 17, 95⟩, ⟨0, 10, 21, 84⟩], 16, _, rfl, fun z hz => absurd hz List.not_mem_nil, by decide, by decide, wL_wordOf _ (by simp), by decide, fun _ => rfl, rfl⟩
  | 2, _, _ => ⟨[⟨0, 10, 13, 13⟩], ⟨0, 10, 17, 95⟩, [⟨0, 10, 21, 84⟩], 20, _, rfl, List.forall_mem_cons.mpr ⟨⟨by decide, 0, by decide, by decide, wL_wordOf _ (by simp)⟩, fun z hz => absurd hz List.not_mem_nil⟩, by decide, by decide, wL_wordOf _ (by simp), by decide, fun _ => rfl, rfl⟩
  | 3, _, _ => ⟨[⟨0, 10, 13, 13⟩, ⟨0, 10, 17, 95⟩], ⟨0, 10, 21, 84⟩, [], 24, _, rfl, List.forall_mem_cons.mpr ⟨⟨by decide, 0, by decide, by decide, wL_wordOf _ (by simp)⟩, List.forall_mem_cons.mpr ⟨⟨by decide, 3, by decide, by decide, wL_wordOf _ (by simp)⟩, fun z hz => absurd hz List.not_mem_nil⟩⟩, by decide, by decide, wL_wordOf _ (by simp), by decide, fun _ => rfl, rfl⟩
  | 0, h, _ => absurd h (by decide)
  | n + 4, _, h => absurd h (by omega)
theorem he_wordOf {l : Launch} {kad : Nat → Nat} {N g o th c1 n1 : Nat} {Z : AZ} {I I' : AI} {z0 : Option Nat} {w : Int64} {v : Int32} {p0 p1 : Int32} (hl0 : l.stackTraces = false) (ha : sh10 kad Z g) (ho : Z.1 o = none) (hth : th ≤ 3) (he : f172 kad N Z g p0 p1 I = some (rx [0, 3, 2] th v, I')) : hMet l kad 41 yL_wordOf cL_wordOf 5 (some .int) hh_wordOf [.ref g, .int p0, .int p1, .ref o] (wo (aMem Z I) o w, (z0, (c1, n1))) (.inl (some (.int (Int32.ofNat th)))) (wo (aMem Z I') o (if th = 0 then v.toInt64 else w), tH th z0 c1 n1) :=
  help_1 (yh := aH_wordOf) (z := aM172) (d := 40) (n := 2) (As := [.int p0, .int p1]) (es := [0, 3, 2]) (pcI := 5) (pcE := 26) (kp := 5) hl0 okH_wordOf (by decide +kernel) rfl rfl (Nat.le_of_ble_eq_true rfl) aMi172 (Nat.le_of_ble_eq_true rfl) rfl wH_wordOf (by decide +kernel) rfl (sh10_z ha) ho rfl rfl (fun _ => rfl) rfl rfl rfl caH_wordOf hth (Tf172 (by omega) g ha p0 p1 I _ he)
def aH_testKey : AMeth := (yL_testKey, (cL_testKey, (4, (some .int, (12, [(0, (.aload_n 2, 1)), (1, (.iconst 0, 1)), (2, (.aload_n 0, 1)), (3, (.iload_n 1, 1)), (4, (.invokevirtual 100, 3)), (7, (.i2l, 1)), (8, (.lastore, 1)), (9, (.goto 9, 3)), (12, (.astore_n 3, 1)), (13, (.iconst 1, 1)), (14, (.ireturn, 1)), (15, (.astore_n 3, 1)), (16, (.iconst 2, 1)), (17, (.ireturn, 1)), (18, (.iconst 0, 1)), (19, (.ireturn, 1))])))))
theorem okH_testKey : okT aH_testKey := okT_of (by decide +kernel)
def hh_testKey : List (Nat × Nat × Nat × Nat) := [(0, 9, 12, 13), (0, 9, 15, 15)]
theorem wH_testKey : ∀ x ∈ [Cond.methodLink RL 100 aM176.1, Cond.instanceMethod aM176.1, Cond.selects aM176.1.cls aM176.1 aM176.1], x ∈ aTB := aTB_all (by decide +kernel)
theorem wL_testKey : ∀ x ∈ [Cond.classLink RL 13 (aEC 0), Cond.classLink RL 15 (aEC 1)], x ∈ aTB := aTB_all (by decide +kernel)
theorem caH_testKey {g o : Nat} {p0 : Int32} : ∀ th, 1 ≤ th → th ≤ 2 → hCa aH_testKey hh_testKey [0, 1] 4 [(0, .ref g), (1, .int p0), (2, .ref o)] th
  | 1, _, _ => ⟨[], ⟨0, 9, 12, 13⟩, [⟨0, 9, 15, 15⟩], 14, _, rfl, fun z hz => absurd hz List.not_mem_nil, by decide, by decide, wL_testKey _ (by simp), by decide, fun _ => rfl, rfl⟩
  | 2, _, _ => ⟨[⟨0, 9, 12, 13⟩], ⟨0, 9, 15, 15⟩, [], 17, _, rfl, List.forall_mem_cons.mpr ⟨⟨by decide, 0, by decide, by decide, wL_testKey _ (by simp)⟩, fun z hz => absurd hz List.not_mem_nil⟩, by decide, by decide, wL_testKey _ (by simp), by decide, fun _ => rfl, rfl⟩
  | 0, h, _ => absurd h (by decide)
  | n + 3, _, h => absurd h (by omega)
theorem he_testKey {l : Launch} {kad : Nat → Nat} {N g o th c1 n1 : Nat} {Z : AZ} {I I' : AI} {z0 : Option Nat} {w : Int64} {v : Int32} {p0 : Int32} (hl0 : l.stackTraces = false) (ha : sh10 kad Z g) (ho : Z.1 o = none) (hth : th ≤ 2) (he : f176 kad N Z g p0 I = some (rx [0, 1] th v, I')) : hMet l kad 41 yL_testKey cL_testKey 4 (some .int) hh_testKey [.ref g, .int p0, .ref o] (wo (aMem Z I) o w, (z0, (c1, n1))) (.inl (some (.int (Int32.ofNat th)))) (wo (aMem Z I') o (if th = 0 then v.toInt64 else w), tH th z0 c1 n1) :=
  help_1 (yh := aH_testKey) (z := aM176) (d := 40) (n := 1) (As := [.int p0]) (es := [0, 1]) (pcI := 4) (pcE := 19) (kp := 4) hl0 okH_testKey (by decide +kernel) rfl rfl (Nat.le_of_ble_eq_true rfl) aMi176 (Nat.le_of_ble_eq_true rfl) rfl wH_testKey (by decide +kernel) rfl (sh10_z ha) ho rfl rfl (fun _ => rfl) rfl rfl rfl caH_testKey hth (Tf176 (by omega) g ha p0 I _ he)
def aH_testWord : AMeth := (yL_testWord, (cL_testWord, (4, (some .int, (12, [(0, (.aload_n 2, 1)), (1, (.iconst 0, 1)), (2, (.aload_n 0, 1)), (3, (.iload_n 1, 1)), (4, (.invokevirtual 103, 3)), (7, (.i2l, 1)), (8, (.lastore, 1)), (9, (.goto 9, 3)), (12, (.astore_n 3, 1)), (13, (.iconst 1, 1)), (14, (.ireturn, 1)), (15, (.astore_n 3, 1)), (16, (.iconst 2, 1)), (17, (.ireturn, 1)), (18, (.iconst 0, 1)), (19, (.ireturn, 1))])))))
theorem okH_testWord : okT aH_testWord := okT_of (by decide +kernel)
def hh_testWord : List (Nat × Nat × Nat × Nat) := [(0, 9, 12, 13), (0, 9, 15, 15)]
theorem wH_testWord : ∀ x ∈ [Cond.methodLink RL 103 aM177.1, Cond.instanceMethod aM177.1, Cond.selects aM177.1.cls aM177.1 aM177.1], x ∈ aTB := aTB_all (by decide +kernel)
theorem wL_testWord : ∀ x ∈ [Cond.classLink RL 13 (aEC 0), Cond.classLink RL 15 (aEC 1)], x ∈ aTB := aTB_all (by decide +kernel)
theorem caH_testWord {g o : Nat} {p0 : Int32} : ∀ th, 1 ≤ th → th ≤ 2 → hCa aH_testWord hh_testWord [0, 1] 4 [(0, .ref g), (1, .int p0), (2, .ref o)] th
  | 1, _, _ => ⟨[], ⟨0, 9, 12, 13⟩, [⟨0, 9, 15, 15⟩], 14, _, rfl, fun z hz => absurd hz List.not_mem_nil, by decide, by decide, wL_testWord _ (by simp), by decide, fun _ => rfl, rfl⟩
  | 2, _, _ => ⟨[⟨0, 9, 12, 13⟩], ⟨0, 9, 15, 15⟩, [], 17, _, rfl, List.forall_mem_cons.mpr ⟨⟨by decide, 0, by decide, by decide, wL_testWord _ (by simp)⟩, fun z hz => absurd hz List.not_mem_nil⟩, by decide, by decide, wL_testWord _ (by simp), by decide, fun _ => rfl, rfl⟩
  | 0, h, _ => absurd h (by decide)
  | n + 3, _, h => absurd h (by omega)
theorem he_testWord {l : Launch} {kad : Nat → Nat} {N g o th c1 n1 : Nat} {Z : AZ} {I I' : AI} {z0 : Option Nat} {w : Int64} {v : Int32} {p0 : Int32} (hl0 : l.stackTraces = false) (ha : sh10 kad Z g) (ho : Z.1 o = none) (hth : th ≤ 2) (he : f177 kad N Z g p0 I = some (rx [0, 1] th v, I')) : hMet l kad 41 yL_testWord cL_testWord 4 (some .int) hh_testWord [.ref g, .int p0, .ref o] (wo (aMem Z I) o w, (z0, (c1, n1))) (.inl (some (.int (Int32.ofNat th)))) (wo (aMem Z I') o (if th = 0 then v.toInt64 else w), tH th z0 c1 n1) :=
  help_1 (yh := aH_testWord) (z := aM177) (d := 40) (n := 1) (As := [.int p0]) (es := [0, 1]) (pcI := 4) (pcE := 19) (kp := 4) hl0 okH_testWord (by decide +kernel) rfl rfl (Nat.le_of_ble_eq_true rfl) aMi177 (Nat.le_of_ble_eq_true rfl) rfl wH_testWord (by decide +kernel) rfl (sh10_z ha) ho rfl rfl (fun _ => rfl) rfl rfl rfl caH_testWord hth (Tf177 (by omega) g ha p0 I _ he)
def aH_addTest : AMeth := (yL_addTest, (cL_addTest, (7, (some .int, (12, [(0, (.aload 5, 2)), (2, (.iconst 0, 1)), (3, (.aload_n 0, 1)), (4, (.iload_n 1, 1)), (5, (.iload_n 2, 1)), (6, (.iload_n 3, 1)), (7, (.iload 4, 2)), (9, (.invokevirtual 106, 3)), (12, (.i2l, 1)), (13, (.lastore, 1)), (14, (.goto 11, 3)), (17, (.astore 6, 2)), (19, (.iconst 1, 1)), (20, (.ireturn, 1)), (21, (.astore 6, 2)), (23, (.iconst 2, 1)), (24, (.ireturn, 1)), (25, (.iconst 0, 1)), (26, (.ireturn, 1))])))))
theorem okH_addTest : okT aH_addTest := okT_of (by decide +kernel)
def hh_addTest : List (Nat × Nat × Nat × Nat) := [(0, 14, 17, 13), (0, 14, 21, 15)]
theorem wH_addTest : ∀ x ∈ [Cond.methodLink RL 106 aM178.1, Cond.instanceMethod aM178.1, Cond.selects aM178.1.cls aM178.1 aM178.1], x ∈ aTB := aTB_all (by decide +kernel)
theorem wL_addTest : ∀ x ∈ [Cond.classLink RL 13 (aEC 0), Cond.classLink RL 15 (aEC 1)], x ∈ aTB := aTB_all (by decide +kernel)
theorem caH_addTest {g o : Nat} {p0 p1 p2 p3 : Int32} : ∀ th, 1 ≤ th → th ≤ 2 → hCa aH_addTest hh_addTest [0, 1] 9 [(0, .ref g), (1, .int p0), (2, .int p1), (3, .int p2), (4, .int p3), (5, .ref o)] th
  | 1, _, _ => ⟨[], ⟨0, 14, 17, 13⟩, [⟨0, 14, 21, 15⟩], 20, _, rfl, fun z hz => absurd hz List.not_mem_nil, by decide, by decide, wL_addTest _ (by simp), by decide, fun _ => rfl, rfl⟩
  | 2, _, _ => ⟨[⟨0, 14, 17, 13⟩], ⟨0, 14, 21, 15⟩, [], 24, _, rfl, List.forall_mem_cons.mpr ⟨⟨by decide, 0, by decide, by decide, wL_addTest _ (by simp)⟩, fun z hz => absurd hz List.not_mem_nil⟩, by decide, by decide, wL_addTest _ (by simp), by decide, fun _ => rfl, rfl⟩
  | 0, h, _ => absurd h (by decide)
  | n + 3, _, h => absurd h (by omega)
theorem he_addTest {l : Launch} {kad : Nat → Nat} {N g o th c1 n1 : Nat} {Z : AZ} {I I' : AI} {z0 : Option Nat} {w : Int64} {v : Int32} {p0 p1 p2 p3 : Int32} (hl0 : l.stackTraces = false) (ha : sh10 kad Z g) (ho : Z.1 o = none) (hth : th ≤ 2) (he : f178 kad N Z g p0 p1 p2 p3 I = some (rx [0, 1] th v, I')) : hMet l kad 41 yL_addTest cL_addTest 7 (some .int) hh_addTest [.ref g, .int p0, .int p1, .int p2, .int p3, .ref o] (wo (aMem Z I) o w, (z0, (c1, n1))) (.inl (some (.int (Int32.ofNat th)))) (wo (aMem Z I') o (if th = 0 then v.toInt64 else w), tH th z0 c1 n1) :=
  help_1 (yh := aH_addTest) (z := aM178) (d := 40) (n := 4) (As := [.int p0, .int p1, .int p2, .int p3]) (es := [0, 1]) (pcI := 9) (pcE := 26) (kp := 7) hl0 okH_addTest (by decide +kernel) rfl rfl (Nat.le_of_ble_eq_true rfl) aMi178 (Nat.le_of_ble_eq_true rfl) rfl wH_addTest (by decide +kernel) rfl (sh10_z ha) ho rfl rfl (fun _ => rfl) rfl rfl rfl caH_addTest hth (Tf178 (by omega) g ha p0 p1 p2 p3 I _ he)
def aH_submit : AMeth := (yL_submit, (cL_submit, (3, (some .int, (12, [(0, (.aload_n 1, 1)), (1, (.iconst 0, 1)), (2, (.aload_n 0, 1)), (3, (.invokevirtual 110, 3)), (6, (.i2l, 1)), (7, (.lastore, 1)), (8, (.goto 6, 3)), (11, (.astore_n 2, 1)), (12, (.iconst 1, 1)), (13, (.ireturn, 1)), (14, (.iconst 0, 1)), (15, (.ireturn, 1))])))))
theorem okH_submit : okT aH_submit := okT_of (by decide +kernel)
def hh_submit : List (Nat × Nat × Nat × Nat) := [(0, 8, 11, 15)]
theorem wH_submit : ∀ x ∈ [Cond.methodLink RL 110 aM180.1, Cond.instanceMethod aM180.1, Cond.selects aM180.1.cls aM180.1 aM180.1], x ∈ aTB := aTB_all (by decide +kernel)
theorem wL_submit : ∀ x ∈ [Cond.classLink RL 15 (aEC 1)], x ∈ aTB := aTB_all (by decide +kernel)
theorem caH_submit {g o : Nat} : ∀ th, 1 ≤ th → th ≤ 1 → hCa aH_submit hh_submit [1] 3 [(0, .ref g), (1, .ref o)] th
  | 1, _, _ => ⟨[], ⟨0, 8, 11, 15⟩, [], 13, _, rfl, fun z hz => absurd hz List.not_mem_nil, by decide, by decide, wL_submit _ (by simp), by decide, fun _ => rfl, rfl⟩
  | 0, h, _ => absurd h (by decide)
  | n + 2, _, h => absurd h (by omega)
theorem he_submit {l : Launch} {kad : Nat → Nat} {N g o th c1 n1 : Nat} {Z : AZ} {I I' : AI} {z0 : Option Nat} {w : Int64} {v : Int32} (hl0 : l.stackTraces = false) (ha : sh10 kad Z g) (ho : Z.1 o = none) (hth : th ≤ 1) (he : f180 kad N Z g I = some (rx [1] th v, I')) : hMet l kad 41 yL_submit cL_submit 3 (some .int) hh_submit [.ref g, .ref o] (wo (aMem Z I) o w, (z0, (c1, n1))) (.inl (some (.int (Int32.ofNat th)))) (wo (aMem Z I') o (if th = 0 then v.toInt64 else w), tH th z0 c1 n1) :=
  help_1 (yh := aH_submit) (z := aM180) (d := 40) (n := 0) (As := []) (es := [1]) (pcI := 3) (pcE := 15) (kp := 3) hl0 okH_submit (by decide +kernel) rfl rfl (Nat.le_of_ble_eq_true rfl) aMi180 (Nat.le_of_ble_eq_true rfl) rfl wH_submit (by decide +kernel) rfl (sh10_z ha) ho rfl rfl (fun _ => rfl) rfl rfl rfl caH_submit hth (Tf180 (by omega) g ha I _ he)
def aH_result : AMeth := (yL_result, (cL_result, (4, (some .int, (12, [(0, (.aload_n 2, 1)), (1, (.iconst 0, 1)), (2, (.aload_n 0, 1)), (3, (.iload_n 1, 1)), (4, (.invokevirtual 113, 3)), (7, (.i2l, 1)), (8, (.lastore, 1)), (9, (.goto 6, 3)), (12, (.astore_n 3, 1)), (13, (.iconst 1, 1)), (14, (.ireturn, 1)), (15, (.iconst 0, 1)), (16, (.ireturn, 1))])))))
theorem okH_result : okT aH_result := okT_of (by decide +kernel)
def hh_result : List (Nat × Nat × Nat × Nat) := [(0, 9, 12, 84)]
theorem wH_result : ∀ x ∈ [Cond.methodLink RL 113 aM181.1, Cond.instanceMethod aM181.1, Cond.selects aM181.1.cls aM181.1 aM181.1], x ∈ aTB := aTB_all (by decide +kernel)
theorem wL_result : ∀ x ∈ [Cond.classLink RL 84 (aEC 2)], x ∈ aTB := aTB_all (by decide +kernel)
theorem caH_result {g o : Nat} {p0 : Int32} : ∀ th, 1 ≤ th → th ≤ 1 → hCa aH_result hh_result [2] 4 [(0, .ref g), (1, .int p0), (2, .ref o)] th
  | 1, _, _ => ⟨[], ⟨0, 9, 12, 84⟩, [], 14, _, rfl, fun z hz => absurd hz List.not_mem_nil, by decide, by decide, wL_result _ (by simp), by decide, fun _ => rfl, rfl⟩
  | 0, h, _ => absurd h (by decide)
  | n + 2, _, h => absurd h (by omega)
theorem he_result {l : Launch} {kad : Nat → Nat} {N g o th c1 n1 : Nat} {Z : AZ} {I I' : AI} {z0 : Option Nat} {w : Int64} {v : Int32} {p0 : Int32} (hl0 : l.stackTraces = false) (ha : sh10 kad Z g) (ho : Z.1 o = none) (hth : th ≤ 1) (he : f181 kad N Z g p0 I = some (rx [2] th v, I')) : hMet l kad 41 yL_result cL_result 4 (some .int) hh_result [.ref g, .int p0, .ref o] (wo (aMem Z I) o w, (z0, (c1, n1))) (.inl (some (.int (Int32.ofNat th)))) (wo (aMem Z I') o (if th = 0 then v.toInt64 else w), tH th z0 c1 n1) :=
  help_1 (yh := aH_result) (z := aM181) (d := 40) (n := 1) (As := [.int p0]) (es := [2]) (pcI := 4) (pcE := 16) (kp := 4) hl0 okH_result (by decide +kernel) rfl rfl (Nat.le_of_ble_eq_true rfl) aMi181 (Nat.le_of_ble_eq_true rfl) rfl wH_result (by decide +kernel) rfl (sh10_z ha) ho rfl rfl (fun _ => rfl) rfl rfl rfl caH_result hth (Tf181 (by omega) g ha p0 I _ he)
