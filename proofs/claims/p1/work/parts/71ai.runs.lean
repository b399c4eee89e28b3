noncomputable section YQ8
set_option maxRecDepth 100000 in
theorem yq32_4 : yzrun (fun _ _ => false) (fun _ _ _ _ _ _ _ => false) 3950 yxs_11 [(.var 128, 4, 4), (.var 128, 4, 5), (.var 128, 3, 5), (.var 128, (-2147483648), 5), (.pow (.add (.var 64) (.num 63)) 17, 32, 32), (.pow (.add (.var 64) (.num 63)) 17, 0, 54), (.var 0, 7, 7), (.var 0, 0, 7)] = true := by decide +kernel
set_option maxRecDepth 100000 in
theorem yq32_5 : yzrun (fun _ _ => false) (fun _ _ _ _ _ _ _ => false) 3950 yxs_11 [(.var 128, 5, 5), (.var 128, 4, 5), (.var 128, 3, 5), (.var 128, (-2147483648), 5), (.pow (.add (.var 64) (.num 63)) 17, 32, 32), (.pow (.add (.var 64) (.num 63)) 17, 0, 54), (.var 0, 7, 7), (.var 0, 0, 7)] = true := by decide +kernel
set_option maxRecDepth 100000 in
theorem yq32_6 : yzrun (fun _ _ => false) (fun _ _ _ _ _ _ _ => false) 3950 yxs_11 [(.var 128, 6, 6), (.var 128, 6, 8), (.var 128, 6, 2147483647), (.pow (.add (.var 64) (.num 63)) 17, 32, 32), (.pow (.add (.var 64) (.num 63)) 17, 0, 54), (.var 0, 7, 7), (.var 0, 0, 7)] = true := by decide +kernel
set_option maxRecDepth 100000 in
theorem yq32_7 : yzrun (fun _ _ => false) (fun _ _ _ _ _ _ _ => false) 3950 yxs_11 [(.var 128, 7, 7), (.var 128, 7, 8), (.var 128, 6, 8), (.var 128, 6, 2147483647), (.pow (.add (.var 64) (.num 63)) 17, 32, 32), (.pow (.add (.var 64) (.num 63)) 17, 0, 54), (.var 0, 7, 7), (.var 0, 0, 7)] = true := by decide +kernel
end YQ8
