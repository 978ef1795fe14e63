def Rel0 : RelT := fun _ _ _ _ _ _ _ _ _ _ _ => True
theorem pure_ok : PureOK 100000 Rel0 := sorry
