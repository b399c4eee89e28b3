noncomputable section YQ12
set_option maxRecDepth 100000 in
theorem yq35_6 : yzrun (fun _ _ => false) (fun _ _ _ _ _ _ _ => false) 8700 yxs_11 [(.var 128, 6, 6), (.var 128, 6, 7), (.var 128, 4, 7), (.var 128, 4, 2147483647), (.pow (.add (.var 64) (.num 63)) 17, 35, 35), (.pow (.add (.var 64) (.num 63)) 17, 0, 54), (.var 0, 7, 7), (.var 0, 0, 7)] = true := by decide +kernel
set_option maxRecDepth 100000 in
theorem yq35_7 : yzrun (fun _ _ => false) (fun _ _ _ _ _ _ _ => false) 9989 yxs_11 [(.var 128, 7, 7), (.var 128, 6, 7), (.var 128, 4, 7), (.var 128, 4, 2147483647), (.pow (.add (.var 64) (.num 63)) 17, 35, 35), (.pow (.add (.var 64) (.num 63)) 17, 0, 54), (.var 0, 7, 7), (.var 0, 0, 7)] = true := by decide +kernel
set_option maxRecDepth 100000 in
theorem yq35_8 : yzrun (fun _ _ => false) (fun _ _ _ _ _ _ _ => false) 103 yxs_11 [(.var 128, 8, 2147483647), (.var 128, 4, 2147483647), (.pow (.add (.var 64) (.num 63)) 17, 35, 35), (.pow (.add (.var 64) (.num 63)) 17, 0, 54), (.var 0, 7, 7), (.var 0, 0, 7)] = true := by decide +kernel
set_option maxRecDepth 100000 in
theorem yq36_0 : yzrun (fun _ _ => false) (fun _ _ _ _ _ _ _ => false) 444 yxs_11 [(.pow (.add (.var 64) (.num 63)) 17, 36, 36), (.pow (.add (.var 64) (.num 63)) 17, 0, 54), (.var 0, 7, 7), (.var 0, 0, 7)] = true := by decide +kernel
set_option maxRecDepth 100000 in
theorem yq37_0 : yzrun (fun _ _ => false) (fun _ _ _ _ _ _ _ => false) 109 yxs_11 [(.pow (.add (.var 64) (.num 63)) 17, 37, 37), (.pow (.add (.var 64) (.num 63)) 17, 0, 54), (.var 0, 7, 7), (.var 0, 0, 7)] = true := by decide +kernel
set_option maxRecDepth 100000 in
theorem yq38_0 : yzrun (fun _ _ => false) (fun _ _ _ _ _ _ _ => false) 78 yxs_11 [(.pow (.add (.var 64) (.num 63)) 17, 38, 38), (.pow (.add (.var 64) (.num 63)) 17, 0, 54), (.var 0, 7, 7), (.var 0, 0, 7)] = true := by decide +kernel
set_option maxRecDepth 100000 in
theorem yq39_0 : yzrun (fun _ _ => false) (fun _ _ _ _ _ _ _ => false) 385 yxs_11 [(.pow (.add (.var 64) (.num 63)) 17, 39, 39), (.pow (.add (.var 64) (.num 63)) 17, 0, 54), (.var 0, 7, 7), (.var 0, 0, 7)] = true := by decide +kernel
set_option maxRecDepth 100000 in
theorem yq40_0 : yzrun (fun _ _ => false) (fun _ _ _ _ _ _ _ => false) 131 yxs_11 [(.pow (.add (.var 64) (.num 63)) 17, 40, 40), (.pow (.add (.var 64) (.num 63)) 17, 0, 54), (.var 0, 7, 7), (.var 0, 0, 7)] = true := by decide +kernel
set_option maxRecDepth 100000 in
theorem yq41_0 : yzrun (fun _ _ => false) (fun _ _ _ _ _ _ _ => false) 266 yxs_11 [(.pow (.add (.var 64) (.num 63)) 17, 41, 41), (.pow (.add (.var 64) (.num 63)) 17, 0, 54), (.var 0, 7, 7), (.var 0, 0, 7)] = true := by decide +kernel
end YQ12
