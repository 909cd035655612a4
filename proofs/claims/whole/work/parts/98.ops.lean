def Inv0 (_ _ : MS) : Prop := True
theorem ops_all : OK_all Inv0 := sorry
