noncomputable section YQ5
set_option maxRecDepth 100000 in
theorem yq26_0 : yzrun (fun _ _ => false) (fun _ _ _ _ _ _ _ => false) 211 yxs_11 [(.pow (.add (.var 64) (.num 63)) 17, 26, 26), (.pow (.add (.var 64) (.num 63)) 17, 0, 54), (.var 0, 7, 7), (.var 0, 0, 7)] = true := by decide +kernel
set_option maxRecDepth 100000 in
theorem yq27_0 : yzrun (fun _ _ => false) (fun _ _ _ _ _ _ _ => false) 284 yxs_11 [(.var 192, (-2147483648), 3), (.var 128, (-2147483648), 5), (.pow (.add (.var 64) (.num 63)) 17, 27, 27), (.pow (.add (.var 64) (.num 63)) 17, 0, 54), (.var 0, 7, 7), (.var 0, 0, 7)] = true := by decide +kernel
set_option maxRecDepth 100000 in
theorem yq27_1 : yzrun (fun _ _ => false) (fun _ _ _ _ _ _ _ => false) 284 yxs_11 [(.var 192, 4, 2147483647), (.var 128, (-2147483648), 5), (.pow (.add (.var 64) (.num 63)) 17, 27, 27), (.pow (.add (.var 64) (.num 63)) 17, 0, 54), (.var 0, 7, 7), (.var 0, 0, 7)] = true := by decide +kernel
set_option maxRecDepth 100000 in
theorem yq27_2 : yzrun (fun _ _ => false) (fun _ _ _ _ _ _ _ => false) 284 yxs_11 [(.var 192, (-2147483648), 3), (.var 128, 6, 2147483647), (.pow (.add (.var 64) (.num 63)) 17, 27, 27), (.pow (.add (.var 64) (.num 63)) 17, 0, 54), (.var 0, 7, 7), (.var 0, 0, 7)] = true := by decide +kernel
set_option maxRecDepth 100000 in
theorem yq27_3 : yzrun (fun _ _ => false) (fun _ _ _ _ _ _ _ => false) 284 yxs_11 [(.var 192, 4, 2147483647), (.var 128, 6, 2147483647), (.pow (.add (.var 64) (.num 63)) 17, 27, 27), (.pow (.add (.var 64) (.num 63)) 17, 0, 54), (.var 0, 7, 7), (.var 0, 0, 7)] = true := by decide +kernel
set_option maxRecDepth 100000 in
theorem yq28_0 : yzrun (fun _ _ => false) (fun _ _ _ _ _ _ _ => false) 163 yxs_11 [(.pow (.add (.var 64) (.num 63)) 17, 28, 28), (.pow (.add (.var 64) (.num 63)) 17, 0, 54), (.var 0, 7, 7), (.var 0, 0, 7)] = true := by decide +kernel
end YQ5
