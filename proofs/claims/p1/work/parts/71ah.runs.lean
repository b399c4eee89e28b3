noncomputable section YQ7
set_option maxRecDepth 100000 in
theorem yq32_0 : yzrun (fun _ _ => false) (fun _ _ _ _ _ _ _ => false) 3950 yxs_11 [(.var 128, (-2147483648), 0), (.var 128, (-2147483648), 2), (.var 128, (-2147483648), 5), (.pow (.add (.var 64) (.num 63)) 17, 32, 32), (.pow (.add (.var 64) (.num 63)) 17, 0, 54), (.var 0, 7, 7), (.var 0, 0, 7)] = true := by decide +kernel
set_option maxRecDepth 100000 in
theorem yq32_1 : yzrun (fun _ _ => false) (fun _ _ _ _ _ _ _ => false) 3950 yxs_11 [(.var 128, 1, 1), (.var 128, 1, 2), (.var 128, (-2147483648), 2), (.var 128, (-2147483648), 5), (.pow (.add (.var 64) (.num 63)) 17, 32, 32), (.pow (.add (.var 64) (.num 63)) 17, 0, 54), (.var 0, 7, 7), (.var 0, 0, 7)] = true := by decide +kernel
set_option maxRecDepth 100000 in
theorem yq32_2 : yzrun (fun _ _ => false) (fun _ _ _ _ _ _ _ => false) 3950 yxs_11 [(.var 128, 2, 2), (.var 128, 1, 2), (.var 128, (-2147483648), 2), (.var 128, (-2147483648), 5), (.pow (.add (.var 64) (.num 63)) 17, 32, 32), (.pow (.add (.var 64) (.num 63)) 17, 0, 54), (.var 0, 7, 7), (.var 0, 0, 7)] = true := by decide +kernel
set_option maxRecDepth 100000 in
theorem yq32_3 : yzrun (fun _ _ => false) (fun _ _ _ _ _ _ _ => false) 3950 yxs_11 [(.var 128, 3, 3), (.var 128, 3, 5), (.var 128, (-2147483648), 5), (.pow (.add (.var 64) (.num 63)) 17, 32, 32), (.pow (.add (.var 64) (.num 63)) 17, 0, 54), (.var 0, 7, 7), (.var 0, 0, 7)] = true := by decide +kernel
end YQ7
