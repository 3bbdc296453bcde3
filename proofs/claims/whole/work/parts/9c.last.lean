/-! the claim -/
theorem i_vc : Claimed_1_1 ∧ Claimed_1_2 := claim_of rel_0 ops_ok
