noncomputable section EAD957
/-- M.wvAround [357, 358], 586 steps -/
def ec_6059 : ezCon := ([(0, (2, (.num 357))), (1, (2, (.num 358))), (2, (0, (.var 214))), (3, (0, (.var 278))), (4, (0, (.var 322)))], [((.var 214), 0, 255), ((.var 278), 1, 4), ((.sub (.var 214) (.var 278)), (-4), 254)], (1, 0, 3990), 0, [(0, [((.sub (.pow (.add (.var 214) (.num 16)) 23) (.var 278)), (-4), 14), ((.pow (.add (.var 214) (.num 16)) 23), 0, 15), ((.sub (.var 214) (.mul (.num 16) (.pow (.add (.var 214) (.num 16)) 23))), 0, 15), ((.var 278), 1, 4), ((.var 214), 0, 255), ((.sub (.var 3990) (.var 214)), (-2147483903), 2147483647), ((.sub (.var 3990) (.var 278)), (-2147483652), 2147483646)])], [])
theorem et_6059 : ezM 767 ec_6059 := ezM_s (C := []) (hs := []) (N := 3000) (W := []) ezM_n (by decide +kernel)
end EAD957
