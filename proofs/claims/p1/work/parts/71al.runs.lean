noncomputable section YQ11
set_option maxRecDepth 100000 in
theorem yq35_3 : yzrun (fun _ _ => false) (fun _ _ _ _ _ _ _ => false) 9680 yxs_11 [(.var 128, 3, 3), (.var 128, 2, 3), (.var 128, (-2147483648), 3), (.pow (.add (.var 64) (.num 63)) 17, 35, 35), (.pow (.add (.var 64) (.num 63)) 17, 0, 54), (.var 0, 7, 7), (.var 0, 0, 7)] = true := by decide +kernel
set_option maxRecDepth 100000 in
theorem yq35_4 : yzrun (fun _ _ => false) (fun _ _ _ _ _ _ _ => false) 6210 yxs_11 [(.var 128, 4, 4), (.var 128, 4, 5), (.var 128, 4, 7), (.var 128, 4, 2147483647), (.pow (.add (.var 64) (.num 63)) 17, 35, 35), (.pow (.add (.var 64) (.num 63)) 17, 0, 54), (.var 0, 7, 7), (.var 0, 0, 7)] = true := by decide +kernel
set_option maxRecDepth 100000 in
theorem yq35_5 : yzrun (fun _ _ => false) (fun _ _ _ _ _ _ _ => false) 7462 yxs_11 [(.var 128, 5, 5), (.var 128, 4, 5), (.var 128, 4, 7), (.var 128, 4, 2147483647), (.pow (.add (.var 64) (.num 63)) 17, 35, 35), (.pow (.add (.var 64) (.num 63)) 17, 0, 54), (.var 0, 7, 7), (.var 0, 0, 7)] = true := by decide +kernel
end YQ11
