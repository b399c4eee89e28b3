section YZ81
/-- what is owed: at most seven ints, one call on the fresh object -/
theorem i_vc : Claimed_1_1 ∧ Claimed_1_2 := yk_claim fun L xs hL => yp_run hL (yp_48 (by omega))
end YZ81
