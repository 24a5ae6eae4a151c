/-! the instruction tables (each instruction as the printed decode rows have it), by program; what links them to the words -/
def aTB : List Cond := lw_tbl.filter goodWord
theorem aTB_in {w : Cond} (i : Nat) (h : lw_tbl[i]? = some w) (g : goodWord w = true) : w ∈ aTB := List.mem_filter.mpr ⟨List.mem_of_getElem? h, g⟩
theorem aTB_tbl {w : Cond} (h : w ∈ aTB) : w ∈ lw_tbl := (List.mem_filter.mp h).1
theorem aTB_good : ∀ w ∈ aTB, (w.onTables && w.keeps) = true ∨ ∃ ty, w = .arrayClass ty := fun w h => good_of_word (List.mem_filter.mp h).2
theorem aTB_GoodIn {ws : List Cond} (h : ∀ w ∈ ws, w ∈ aTB) : GoodIn aTB ws := fun w hw => ⟨h w hw, aTB_good w (h w hw)⟩

/-- how long such an instruction is; 0: it says so itself -/
def aLen : Instr → Nat
  | .bipush _ => 2
  | .sipush _ => 3
  | .iload _ => 2
  | .lload _ => 2
  | .aload _ => 2
  | .istore _ => 2
  | .lstore _ => 2
  | .astore _ => 2
  | .iinc _ _ => 3
  | .ifCond _ _ => 3
  | .if_icmp _ _ => 3
  | .if_acmp _ _ => 3
  | .goto _ => 3
  | .getfield _ => 3
  | .putfield _ => 3
  | .getstatic _ => 3
  | .invokevirtual _ => 3
  | .invokespecial _ => 3
  | .invokestatic _ => 3
  | .new _ => 3
  | .anewarray _ => 3
  | .ldc_w _ => 3
  | .ldc2_w _ => 3
  | .newarray _ => 2
  | .ldc _ => 2
  | .tableswitch _ _ _ _ => 0
  | _ => 1
/-- name, code, locals, return, the number of its class, its instructions -/
abbrev AMeth : Type := MethodName × (ByteArray × (Nat × (Option FieldType × (Nat × List (Nat × (Instr × Nat))))))
def aCn : List String := [RX1, RX2, RX3, RX4, RX6, RX7, RX8, RX9, RX10, RX11, RX12, RL, RJ9, RJ7]
def aMGood (e : AMeth) : Prop := plainFor e.1 = true ∧ Cond.code e.1 e.2.1 e.2.2.1 e.2.2.2.1 ∈ aTB ∧ e.2.2.1 ≤ 21 ∧ Cond.initialized e.1.cls ∈ aTB ∧ (e.1.cls ≠ "java/lang/invoke/MethodHandle" ∧ e.1.cls ≠ "java/lang/invoke/VarHandle") ∧ aCn[e.2.2.2.2.1]? = some e.1.cls ∧ ∀ q ∈ e.2.2.2.2.2, decode e.2.1 q.1 = .ok q.2 ∧ (aLen q.2.1 = 0 ∨ q.2.2 = aLen q.2.1)
theorem aMG (e : AMeth) (i j : Nat) (h1 : lw_tbl[i]? = some (Cond.code e.1 e.2.1 e.2.2.1 e.2.2.2.1)) (h2 : lw_tbl[j]? = some (Cond.initialized e.1.cls)) (h3 : (plainFor e.1 && goodWord (Cond.code e.1 e.2.1 e.2.2.1 e.2.2.2.1) && decide (e.2.2.1 ≤ 21) && goodWord (Cond.initialized e.1.cls) && decide (e.1.cls ≠ "java/lang/invoke/MethodHandle" ∧ e.1.cls ≠ "java/lang/invoke/VarHandle") && decide (aCn[e.2.2.2.2.1]? = some e.1.cls)) = true)
    (h4 : e.2.2.2.2.2.all (fun q => decide (decode e.2.1 q.1 = .ok q.2 ∧ (aLen q.2.1 = 0 ∨ q.2.2 = aLen q.2.1))) = true) : aMGood e := by
  simp only [Bool.and_eq_true, decide_eq_true_eq] at h3
  obtain ⟨⟨⟨⟨⟨a1, a2⟩, a3⟩, a4⟩, a5⟩, a6⟩ := h3
  exact ⟨a1, aTB_in i h1 a2, a3, aTB_in j h2 a4, a5, a6, fun q hq => by have h := List.all_eq_true.mp h4 q hq; exact of_decide_eq_true h⟩
