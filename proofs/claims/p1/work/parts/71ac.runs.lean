noncomputable section YQ2
set_option maxRecDepth 100000 in
theorem yq16_0 : yzrun (fun _ _ => false) (fun _ _ _ _ _ _ _ => false) 574 yxs_11 [(.pow (.add (.var 64) (.num 63)) 17, 16, 16), (.pow (.add (.var 64) (.num 63)) 17, 0, 54), (.var 0, 7, 7), (.var 0, 0, 7)] = true := by decide +kernel
set_option maxRecDepth 100000 in
theorem yq17_0 : yzrun (fun _ _ => false) (fun _ _ _ _ _ _ _ => false) 211 yxs_11 [(.pow (.add (.var 64) (.num 63)) 17, 17, 17), (.pow (.add (.var 64) (.num 63)) 17, 0, 54), (.var 0, 7, 7), (.var 0, 0, 7)] = true := by decide +kernel
set_option maxRecDepth 100000 in
theorem yq19_0 : yzrun (fun _ _ => false) (fun _ _ _ _ _ _ _ => false) 172 yxs_11 [(.pow (.add (.var 64) (.num 63)) 17, 19, 19), (.pow (.add (.var 64) (.num 63)) 17, 0, 54), (.var 0, 7, 7), (.var 0, 0, 7)] = true := by decide +kernel
set_option maxRecDepth 100000 in
theorem yq20_0 : yzrun (fun _ _ => false) (fun _ _ _ _ _ _ _ => false) 188 yxs_11 [(.pow (.add (.var 64) (.num 63)) 17, 20, 20), (.pow (.add (.var 64) (.num 63)) 17, 0, 54), (.var 0, 7, 7), (.var 0, 0, 7)] = true := by decide +kernel
set_option maxRecDepth 100000 in
theorem yq21_0 : yzrun (fun _ _ => false) (fun _ _ _ _ _ _ _ => false) 520 yxs_11 [(.var 128, (-2147483648), 2), (.var 192, (-2147483648), 3), (.var 128, (-2147483648), 5), (.pow (.add (.var 64) (.num 63)) 17, 21, 21), (.pow (.add (.var 64) (.num 63)) 17, 0, 54), (.var 0, 7, 7), (.var 0, 0, 7)] = true := by decide +kernel
set_option maxRecDepth 100000 in
theorem yq21_1 : yzrun (fun _ _ => false) (fun _ _ _ _ _ _ _ => false) 520 yxs_11 [(.var 128, 3, 5), (.var 192, (-2147483648), 3), (.var 128, (-2147483648), 5), (.pow (.add (.var 64) (.num 63)) 17, 21, 21), (.pow (.add (.var 64) (.num 63)) 17, 0, 54), (.var 0, 7, 7), (.var 0, 0, 7)] = true := by decide +kernel
end YQ2
