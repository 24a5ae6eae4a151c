theorem mi_test : aMS[89]? = some aM89 := rfl
theorem t_ops1 (o a : Nat) (x : Int32) : aOpsN aM89 2 (0, (lv_args 0 [.ref o, .int x], [])) = some (if 0 ≤ x then (4, ([(0, .ref o), (1, .int x)], [])) else (20, ([(0, .ref o), (1, .int x)], []))) := by
  sorry
theorem t_ops2 (o : Nat) (x : Int32) : aOpsN aM89 1 (0, (lv_args 0 [.ref o, .int x], [])) = some (1, ([(0, .ref o), (1, .int x)], [.int x])) := rfl
theorem t_ops3 (o : Nat) (x : Int32) : aOpsN aM89 2 (4, ([(0, .ref o), (1, .int x)], [])) = some (8, ([(0, .ref o), (1, .int x)], [.int 256, .int x])) := rfl
