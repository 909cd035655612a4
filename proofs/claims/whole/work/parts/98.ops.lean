/-! THE PURE SIDE, WHOLE -/
theorem ops_all : OK_all Inv := ⟨ini_ok, op_part, op_test, op_noTests, op_bypass, op_bypassed, op_group, op_vote, op_share, op_below, op_shared, op_chance, op_over, op_broken, op_nothing, op_matters, op_most, op_cost, op_plan, op_count⟩
