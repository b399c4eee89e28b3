noncomputable section EAD963
/-- Books.isPageRight [135], 257 steps -/
def ec_4033 : ezCon := ([(0, (2, (.num 135)))], [((.pow (.mul (.num 135) (.num 5)) 0), 279, 301)], (1, 0, 3970), 0, [(0, [((.pow (.mul (.num 135) (.num 5)) 0), 279, 301), ((.var 3970), 0, 0)]), (0, [((.sub (.pow (.mul (.num 135) (.num 11)) 0) (.pow (.mul (.num 135) (.num 17)) 0)), (-2147483647), 2147483648), ((.pow (.mul (.num 135) (.num 11)) 0), 0, 9), ((.pow (.mul (.num 135) (.num 5)) 0), 279, 301), ((.var 3970), 1, 1)])], [])
theorem et_4033 : ezM 52 ec_4033 := ezM_s (C := []) (hs := []) (N := 3000) (W := []) ezM_n (by decide +kernel)
end EAD963
