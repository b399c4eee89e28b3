noncomputable section YQ10
set_option maxRecDepth 100000 in
theorem yq35_0 : yzrun (fun _ _ => false) (fun _ _ _ _ _ _ _ => false) 6049 yxs_11 [(.var 128, (-2147483648), 0), (.var 128, (-2147483648), 1), (.var 128, (-2147483648), 3), (.pow (.add (.var 64) (.num 63)) 17, 35, 35), (.pow (.add (.var 64) (.num 63)) 17, 0, 54), (.var 0, 7, 7), (.var 0, 0, 7)] = true := by decide +kernel
set_option maxRecDepth 100000 in
theorem yq35_1 : yzrun (fun _ _ => false) (fun _ _ _ _ _ _ _ => false) 7190 yxs_11 [(.var 128, 1, 1), (.var 128, (-2147483648), 1), (.var 128, (-2147483648), 3), (.pow (.add (.var 64) (.num 63)) 17, 35, 35), (.pow (.add (.var 64) (.num 63)) 17, 0, 54), (.var 0, 7, 7), (.var 0, 0, 7)] = true := by decide +kernel
set_option maxRecDepth 100000 in
theorem yq35_2 : yzrun (fun _ _ => false) (fun _ _ _ _ _ _ _ => false) 8428 yxs_11 [(.var 128, 2, 2), (.var 128, 2, 3), (.var 128, (-2147483648), 3), (.pow (.add (.var 64) (.num 63)) 17, 35, 35), (.pow (.add (.var 64) (.num 63)) 17, 0, 54), (.var 0, 7, 7), (.var 0, 0, 7)] = true := by decide +kernel
end YQ10
