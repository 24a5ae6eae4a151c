def aP185 : List (Nat × (Instr × Nat)) := aP185_0 ++ (aP185_1 ++ (aP185_2 ++ (aP185_3 ++ (aP185_4 ++ (aP185_5 ++ (aP185_6 ++ (aP185_7 ++ (aP185_8 ++ (aP185_9 ++ (aP185_10 ++ (aP185_11)))))))))))
def aM185 : AMeth := (yL_act, (cL_act, (7, ((some (.int)), (11, aP185)))))
