noncomputable section YQ0
set_option maxRecDepth 100000 in
theorem yq1_0 : yzrun (fun _ _ => false) (fun _ _ _ _ _ _ _ => false) 194 yxs_11 [(.pow (.add (.var 64) (.num 63)) 17, 1, 1), (.pow (.add (.var 64) (.num 63)) 17, 0, 54), (.var 0, 7, 7), (.var 0, 0, 7)] = true := by decide +kernel
set_option maxRecDepth 100000 in
theorem yq2_0 : yzrun (fun _ _ => false) (fun _ _ _ _ _ _ _ => false) 200 yxs_11 [(.pow (.add (.var 64) (.num 63)) 17, 2, 2), (.pow (.add (.var 64) (.num 63)) 17, 0, 54), (.var 0, 7, 7), (.var 0, 0, 7)] = true := by decide +kernel
set_option maxRecDepth 100000 in
theorem yq3_0 : yzrun (fun _ _ => false) (fun _ _ _ _ _ _ _ => false) 172 yxs_11 [(.pow (.add (.var 64) (.num 63)) 17, 3, 3), (.pow (.add (.var 64) (.num 63)) 17, 0, 54), (.var 0, 7, 7), (.var 0, 0, 7)] = true := by decide +kernel
set_option maxRecDepth 100000 in
theorem yq4_0 : yzrun (fun _ _ => false) (fun _ _ _ _ _ _ _ => false) 172 yxs_11 [(.pow (.add (.var 64) (.num 63)) 17, 4, 4), (.pow (.add (.var 64) (.num 63)) 17, 0, 54), (.var 0, 7, 7), (.var 0, 0, 7)] = true := by decide +kernel
set_option maxRecDepth 100000 in
theorem yq7_0 : yzrun (fun _ _ => false) (fun _ _ _ _ _ _ _ => false) 200 yxs_11 [(.pow (.add (.var 64) (.num 63)) 17, 7, 7), (.pow (.add (.var 64) (.num 63)) 17, 0, 54), (.var 0, 7, 7), (.var 0, 0, 7)] = true := by decide +kernel
set_option maxRecDepth 100000 in
theorem yq8_0 : yzrun (fun _ _ => false) (fun _ _ _ _ _ _ _ => false) 172 yxs_11 [(.pow (.add (.var 64) (.num 63)) 17, 8, 8), (.pow (.add (.var 64) (.num 63)) 17, 0, 54), (.var 0, 7, 7), (.var 0, 0, 7)] = true := by decide +kernel
set_option maxRecDepth 100000 in
theorem yq9_0 : yzrun (fun _ _ => false) (fun _ _ _ _ _ _ _ => false) 188 yxs_11 [(.pow (.add (.var 64) (.num 63)) 17, 9, 9), (.pow (.add (.var 64) (.num 63)) 17, 0, 54), (.var 0, 7, 7), (.var 0, 0, 7)] = true := by decide +kernel
set_option maxRecDepth 100000 in
theorem yq10_0 : yzrun (fun _ _ => false) (fun _ _ _ _ _ _ _ => false) 149 yxs_11 [(.pow (.add (.var 64) (.num 63)) 17, 10, 10), (.pow (.add (.var 64) (.num 63)) 17, 0, 54), (.var 0, 7, 7), (.var 0, 0, 7)] = true := by decide +kernel
set_option maxRecDepth 100000 in
theorem yq11_0 : yzrun (fun _ _ => false) (fun _ _ _ _ _ _ _ => false) 255 yxs_11 [(.pow (.add (.var 64) (.num 63)) 17, 11, 11), (.pow (.add (.var 64) (.num 63)) 17, 0, 54), (.var 0, 7, 7), (.var 0, 0, 7)] = true := by decide +kernel
set_option maxRecDepth 100000 in
theorem yq12_0 : yzrun (fun _ _ => false) (fun _ _ _ _ _ _ _ => false) 172 yxs_11 [(.pow (.add (.var 64) (.num 63)) 17, 12, 12), (.pow (.add (.var 64) (.num 63)) 17, 0, 54), (.var 0, 7, 7), (.var 0, 0, 7)] = true := by decide +kernel
end YQ0
noncomputable section YQ1
set_option maxRecDepth 100000 in
theorem yq13_0 : yzrun (fun _ _ => false) (fun _ _ _ _ _ _ _ => false) 174 yxs_11 [(.pow (.add (.var 64) (.num 63)) 17, 13, 13), (.pow (.add (.var 64) (.num 63)) 17, 0, 54), (.var 0, 7, 7), (.var 0, 0, 7)] = true := by decide +kernel
set_option maxRecDepth 100000 in
theorem yq14_0 : yzrun (fun _ _ => false) (fun _ _ _ _ _ _ _ => false) 194 yxs_11 [(.pow (.add (.var 64) (.num 63)) 17, 14, 14), (.pow (.add (.var 64) (.num 63)) 17, 0, 54), (.var 0, 7, 7), (.var 0, 0, 7)] = true := by decide +kernel
set_option maxRecDepth 100000 in
theorem yq15_0 : yzrun (fun _ _ => false) (fun _ _ _ _ _ _ _ => false) 384 yxs_11 [(.var 128, (-2147483648), 3), (.var 192, (-2147483648), 3), (.pow (.add (.var 64) (.num 63)) 17, 15, 15), (.pow (.add (.var 64) (.num 63)) 17, 0, 54), (.var 0, 7, 7), (.var 0, 0, 7)] = true := by decide +kernel
set_option maxRecDepth 100000 in
theorem yq15_1 : yzrun (fun _ _ => false) (fun _ _ _ _ _ _ _ => false) 384 yxs_11 [(.var 128, 4, 2147483647), (.var 192, (-2147483648), 3), (.pow (.add (.var 64) (.num 63)) 17, 15, 15), (.pow (.add (.var 64) (.num 63)) 17, 0, 54), (.var 0, 7, 7), (.var 0, 0, 7)] = true := by decide +kernel
set_option maxRecDepth 100000 in
theorem yq15_2 : yzrun (fun _ _ => false) (fun _ _ _ _ _ _ _ => false) 215 yxs_11 [(.var 192, 4, 2147483647), (.pow (.add (.var 64) (.num 63)) 17, 15, 15), (.pow (.add (.var 64) (.num 63)) 17, 0, 54), (.var 0, 7, 7), (.var 0, 0, 7)] = true := by decide +kernel
end YQ1
noncomputable section YQ2
set_option maxRecDepth 100000 in
theorem yq16_0 : yzrun (fun _ _ => false) (fun _ _ _ _ _ _ _ => false) 574 yxs_11 [(.pow (.add (.var 64) (.num 63)) 17, 16, 16), (.pow (.add (.var 64) (.num 63)) 17, 0, 54), (.var 0, 7, 7), (.var 0, 0, 7)] = true := by decide +kernel
set_option maxRecDepth 100000 in
theorem yq17_0 : yzrun (fun _ _ => false) (fun _ _ _ _ _ _ _ => false) 211 yxs_11 [(.pow (.add (.var 64) (.num 63)) 17, 17, 17), (.pow (.add (.var 64) (.num 63)) 17, 0, 54), (.var 0, 7, 7), (.var 0, 0, 7)] = true := by decide +kernel
set_option maxRecDepth 100000 in
theorem yq19_0 : yzrun (fun _ _ => false) (fun _ _ _ _ _ _ _ => false) 172 yxs_11 [(.pow (.add (.var 64) (.num 63)) 17, 19, 19), (.pow (.add (.var 64) (.num 63)) 17, 0, 54), (.var 0, 7, 7), (.var 0, 0, 7)] = true := by decide +kernel
set_option maxRecDepth 100000 in
theorem yq20_0 : yzrun (fun _ _ => false) (fun _ _ _ _ _ _ _ => false) 188 yxs_11 [(.pow (.add (.var 64) (.num 63)) 17, 20, 20), (.pow (.add (.var 64) (.num 63)) 17, 0, 54), (.var 0, 7, 7), (.var 0, 0, 7)] = true := by decide +kernel
set_option maxRecDepth 100000 in
theorem yq21_0 : yzrun (fun _ _ => false) (fun _ _ _ _ _ _ _ => false) 520 yxs_11 [(.var 128, (-2147483648), 2), (.var 192, (-2147483648), 3), (.var 128, (-2147483648), 5), (.pow (.add (.var 64) (.num 63)) 17, 21, 21), (.pow (.add (.var 64) (.num 63)) 17, 0, 54), (.var 0, 7, 7), (.var 0, 0, 7)] = true := by decide +kernel
set_option maxRecDepth 100000 in
theorem yq21_1 : yzrun (fun _ _ => false) (fun _ _ _ _ _ _ _ => false) 520 yxs_11 [(.var 128, 3, 5), (.var 192, (-2147483648), 3), (.var 128, (-2147483648), 5), (.pow (.add (.var 64) (.num 63)) 17, 21, 21), (.pow (.add (.var 64) (.num 63)) 17, 0, 54), (.var 0, 7, 7), (.var 0, 0, 7)] = true := by decide +kernel
end YQ2
noncomputable section YQ3
set_option maxRecDepth 100000 in
theorem yq21_2 : yzrun (fun _ _ => false) (fun _ _ _ _ _ _ _ => false) 520 yxs_11 [(.var 128, (-2147483648), 2), (.var 192, 4, 2147483647), (.var 128, (-2147483648), 5), (.pow (.add (.var 64) (.num 63)) 17, 21, 21), (.pow (.add (.var 64) (.num 63)) 17, 0, 54), (.var 0, 7, 7), (.var 0, 0, 7)] = true := by decide +kernel
set_option maxRecDepth 100000 in
theorem yq21_3 : yzrun (fun _ _ => false) (fun _ _ _ _ _ _ _ => false) 520 yxs_11 [(.var 128, 3, 5), (.var 192, 4, 2147483647), (.var 128, (-2147483648), 5), (.pow (.add (.var 64) (.num 63)) 17, 21, 21), (.pow (.add (.var 64) (.num 63)) 17, 0, 54), (.var 0, 7, 7), (.var 0, 0, 7)] = true := by decide +kernel
set_option maxRecDepth 100000 in
theorem yq21_4 : yzrun (fun _ _ => false) (fun _ _ _ _ _ _ _ => false) 520 yxs_11 [(.var 128, 6, 8), (.var 192, (-2147483648), 3), (.var 128, 6, 2147483647), (.pow (.add (.var 64) (.num 63)) 17, 21, 21), (.pow (.add (.var 64) (.num 63)) 17, 0, 54), (.var 0, 7, 7), (.var 0, 0, 7)] = true := by decide +kernel
set_option maxRecDepth 100000 in
theorem yq21_5 : yzrun (fun _ _ => false) (fun _ _ _ _ _ _ _ => false) 520 yxs_11 [(.var 128, 9, 2147483647), (.var 192, (-2147483648), 3), (.var 128, 6, 2147483647), (.pow (.add (.var 64) (.num 63)) 17, 21, 21), (.pow (.add (.var 64) (.num 63)) 17, 0, 54), (.var 0, 7, 7), (.var 0, 0, 7)] = true := by decide +kernel
end YQ3
