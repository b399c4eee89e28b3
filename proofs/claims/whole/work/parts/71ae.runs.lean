noncomputable section YQ4
set_option maxRecDepth 100000 in
theorem yq21_6 : yzrun (fun _ _ => false) (fun _ _ _ _ _ _ _ => false) 520 yxs_11 [(.var 128, 6, 8), (.var 192, 4, 2147483647), (.var 128, 6, 2147483647), (.pow (.add (.var 64) (.num 63)) 17, 21, 21), (.pow (.add (.var 64) (.num 63)) 17, 0, 54), (.var 0, 7, 7), (.var 0, 0, 7)] = true := by decide +kernel
set_option maxRecDepth 100000 in
theorem yq21_7 : yzrun (fun _ _ => false) (fun _ _ _ _ _ _ _ => false) 520 yxs_11 [(.var 128, 9, 2147483647), (.var 192, 4, 2147483647), (.var 128, 6, 2147483647), (.pow (.add (.var 64) (.num 63)) 17, 21, 21), (.pow (.add (.var 64) (.num 63)) 17, 0, 54), (.var 0, 7, 7), (.var 0, 0, 7)] = true := by decide +kernel
set_option maxRecDepth 100000 in
theorem yq23_0 : yzrun (fun _ _ => false) (fun _ _ _ _ _ _ _ => false) 301 yxs_11 [(.pow (.add (.var 64) (.num 63)) 17, 23, 23), (.pow (.add (.var 64) (.num 63)) 17, 0, 54), (.var 0, 7, 7), (.var 0, 0, 7)] = true := by decide +kernel
set_option maxRecDepth 100000 in
theorem yq24_0 : yzrun (fun _ _ => false) (fun _ _ _ _ _ _ _ => false) 203 yxs_11 [(.pow (.add (.var 64) (.num 63)) 17, 24, 24), (.pow (.add (.var 64) (.num 63)) 17, 0, 54), (.var 0, 7, 7), (.var 0, 0, 7)] = true := by decide +kernel
set_option maxRecDepth 100000 in
theorem yq25_0 : yzrun (fun _ _ => false) (fun _ _ _ _ _ _ _ => false) 214 yxs_11 [(.pow (.add (.var 64) (.num 63)) 17, 25, 25), (.pow (.add (.var 64) (.num 63)) 17, 0, 54), (.var 0, 7, 7), (.var 0, 0, 7)] = true := by decide +kernel
end YQ4
noncomputable section YQ5
set_option maxRecDepth 100000 in
theorem yq26_0 : yzrun (fun _ _ => false) (fun _ _ _ _ _ _ _ => false) 211 yxs_11 [(.pow (.add (.var 64) (.num 63)) 17, 26, 26), (.pow (.add (.var 64) (.num 63)) 17, 0, 54), (.var 0, 7, 7), (.var 0, 0, 7)] = true := by decide +kernel
set_option maxRecDepth 100000 in
theorem yq27_0 : yzrun (fun _ _ => false) (fun _ _ _ _ _ _ _ => false) 284 yxs_11 [(.var 192, (-2147483648), 3), (.var 128, (-2147483648), 5), (.pow (.add (.var 64) (.num 63)) 17, 27, 27), (.pow (.add (.var 64) (.num 63)) 17, 0, 54), (.var 0, 7, 7), (.var 0, 0, 7)] = true := by decide +kernel
set_option maxRecDepth 100000 in
theorem yq27_1 : yzrun (fun _ _ => false) (fun _ _ _ _ _ _ _ => false) 284 yxs_11 [(.var 192, 4, 2147483647), (.var 128, (-2147483648), 5), (.pow (.add (.var 64) (.num 63)) 17, 27, 27), (.pow (.add (.var 64) (.num 63)) 17, 0, 54), (.var 0, 7, 7), (.var 0, 0, 7)] = true := by decide +kernel
set_option maxRecDepth 100000 in
theorem yq27_2 : yzrun (fun _ _ => false) (fun _ _ _ _ _ _ _ => false) 284 yxs_11 [(.var 192, (-2147483648), 3), (.var 128, 6, 2147483647), (.pow (.add (.var 64) (.num 63)) 17, 27, 27), (.pow (.add (.var 64) (.num 63)) 17, 0, 54), (.var 0, 7, 7), (.var 0, 0, 7)] = true := by decide +kernel
set_option maxRecDepth 100000 in
theorem yq27_3 : yzrun (fun _ _ => false) (fun _ _ _ _ _ _ _ => false) 284 yxs_11 [(.var 192, 4, 2147483647), (.var 128, 6, 2147483647), (.pow (.add (.var 64) (.num 63)) 17, 27, 27), (.pow (.add (.var 64) (.num 63)) 17, 0, 54), (.var 0, 7, 7), (.var 0, 0, 7)] = true := by decide +kernel
set_option maxRecDepth 100000 in
theorem yq28_0 : yzrun (fun _ _ => false) (fun _ _ _ _ _ _ _ => false) 163 yxs_11 [(.pow (.add (.var 64) (.num 63)) 17, 28, 28), (.pow (.add (.var 64) (.num 63)) 17, 0, 54), (.var 0, 7, 7), (.var 0, 0, 7)] = true := by decide +kernel
end YQ5
noncomputable section YQ6
set_option maxRecDepth 100000 in
theorem yq29_0 : yzrun (fun _ _ => false) (fun _ _ _ _ _ _ _ => false) 239 yxs_11 [(.pow (.add (.var 64) (.num 63)) 17, 29, 29), (.pow (.add (.var 64) (.num 63)) 17, 0, 54), (.var 0, 7, 7), (.var 0, 0, 7)] = true := by decide +kernel
set_option maxRecDepth 100000 in
theorem yq30_0 : yzrun (fun _ _ => false) (fun _ _ _ _ _ _ _ => false) 331 yxs_11 [(.var 128, (-2147483648), 5), (.pow (.add (.var 64) (.num 63)) 17, 30, 30), (.pow (.add (.var 64) (.num 63)) 17, 0, 54), (.var 0, 7, 7), (.var 0, 0, 7)] = true := by decide +kernel
set_option maxRecDepth 100000 in
theorem yq30_1 : yzrun (fun _ _ => false) (fun _ _ _ _ _ _ _ => false) 331 yxs_11 [(.var 128, 6, 2147483647), (.pow (.add (.var 64) (.num 63)) 17, 30, 30), (.pow (.add (.var 64) (.num 63)) 17, 0, 54), (.var 0, 7, 7), (.var 0, 0, 7)] = true := by decide +kernel
set_option maxRecDepth 100000 in
theorem yq31_0 : yzrun (fun _ _ => false) (fun _ _ _ _ _ _ _ => false) 381 yxs_11 [(.pow (.add (.var 64) (.num 63)) 17, 31, 31), (.pow (.add (.var 64) (.num 63)) 17, 0, 54), (.var 0, 7, 7), (.var 0, 0, 7)] = true := by decide +kernel
end YQ6
noncomputable section YQ7
set_option maxRecDepth 100000 in
theorem yq32_0 : yzrun (fun _ _ => false) (fun _ _ _ _ _ _ _ => false) 3950 yxs_11 [(.var 128, (-2147483648), 0), (.var 128, (-2147483648), 2), (.var 128, (-2147483648), 5), (.pow (.add (.var 64) (.num 63)) 17, 32, 32), (.pow (.add (.var 64) (.num 63)) 17, 0, 54), (.var 0, 7, 7), (.var 0, 0, 7)] = true := by decide +kernel
set_option maxRecDepth 100000 in
theorem yq32_1 : yzrun (fun _ _ => false) (fun _ _ _ _ _ _ _ => false) 3950 yxs_11 [(.var 128, 1, 1), (.var 128, 1, 2), (.var 128, (-2147483648), 2), (.var 128, (-2147483648), 5), (.pow (.add (.var 64) (.num 63)) 17, 32, 32), (.pow (.add (.var 64) (.num 63)) 17, 0, 54), (.var 0, 7, 7), (.var 0, 0, 7)] = true := by decide +kernel
set_option maxRecDepth 100000 in
theorem yq32_2 : yzrun (fun _ _ => false) (fun _ _ _ _ _ _ _ => false) 3950 yxs_11 [(.var 128, 2, 2), (.var 128, 1, 2), (.var 128, (-2147483648), 2), (.var 128, (-2147483648), 5), (.pow (.add (.var 64) (.num 63)) 17, 32, 32), (.pow (.add (.var 64) (.num 63)) 17, 0, 54), (.var 0, 7, 7), (.var 0, 0, 7)] = true := by decide +kernel
set_option maxRecDepth 100000 in
theorem yq32_3 : yzrun (fun _ _ => false) (fun _ _ _ _ _ _ _ => false) 3950 yxs_11 [(.var 128, 3, 3), (.var 128, 3, 5), (.var 128, (-2147483648), 5), (.pow (.add (.var 64) (.num 63)) 17, 32, 32), (.pow (.add (.var 64) (.num 63)) 17, 0, 54), (.var 0, 7, 7), (.var 0, 0, 7)] = true := by decide +kernel
end YQ7
