noncomputable section YQ12
set_option maxRecDepth 100000 in
theorem yq35_6 : yzrun (fun _ _ => false) (fun _ _ _ _ _ _ _ => false) 8700 yxs_11 [(.var 128, 6, 6), (.var 128, 6, 7), (.var 128, 4, 7), (.var 128, 4, 2147483647), (.pow (.add (.var 64) (.num 63)) 17, 35, 35), (.pow (.add (.var 64) (.num 63)) 17, 0, 54), (.var 0, 7, 7), (.var 0, 0, 7)] = true := by decide +kernel
set_option maxRecDepth 100000 in
theorem yq35_7 : yzrun (fun _ _ => false) (fun _ _ _ _ _ _ _ => false) 9989 yxs_11 [(.var 128, 7, 7), (.var 128, 6, 7), (.var 128, 4, 7), (.var 128, 4, 2147483647), (.pow (.add (.var 64) (.num 63)) 17, 35, 35), (.pow (.add (.var 64) (.num 63)) 17, 0, 54), (.var 0, 7, 7), (.var 0, 0, 7)] = true := by decide +kernel
set_option maxRecDepth 100000 in
theorem yq35_8 : yzrun (fun _ _ => false) (fun _ _ _ _ _ _ _ => false) 103 yxs_11 [(.var 128, 8, 2147483647), (.var 128, 4, 2147483647), (.pow (.add (.var 64) (.num 63)) 17, 35, 35), (.pow (.add (.var 64) (.num 63)) 17, 0, 54), (.var 0, 7, 7), (.var 0, 0, 7)] = true := by decide +kernel
set_option maxRecDepth 100000 in
theorem yq36_0 : yzrun (fun _ _ => false) (fun _ _ _ _ _ _ _ => false) 444 yxs_11 [(.pow (.add (.var 64) (.num 63)) 17, 36, 36), (.pow (.add (.var 64) (.num 63)) 17, 0, 54), (.var 0, 7, 7), (.var 0, 0, 7)] = true := by decide +kernel
set_option maxRecDepth 100000 in
theorem yq37_0 : yzrun (fun _ _ => false) (fun _ _ _ _ _ _ _ => false) 109 yxs_11 [(.pow (.add (.var 64) (.num 63)) 17, 37, 37), (.pow (.add (.var 64) (.num 63)) 17, 0, 54), (.var 0, 7, 7), (.var 0, 0, 7)] = true := by decide +kernel
set_option maxRecDepth 100000 in
theorem yq38_0 : yzrun (fun _ _ => false) (fun _ _ _ _ _ _ _ => false) 78 yxs_11 [(.pow (.add (.var 64) (.num 63)) 17, 38, 38), (.pow (.add (.var 64) (.num 63)) 17, 0, 54), (.var 0, 7, 7), (.var 0, 0, 7)] = true := by decide +kernel
set_option maxRecDepth 100000 in
theorem yq39_0 : yzrun (fun _ _ => false) (fun _ _ _ _ _ _ _ => false) 385 yxs_11 [(.pow (.add (.var 64) (.num 63)) 17, 39, 39), (.pow (.add (.var 64) (.num 63)) 17, 0, 54), (.var 0, 7, 7), (.var 0, 0, 7)] = true := by decide +kernel
set_option maxRecDepth 100000 in
theorem yq40_0 : yzrun (fun _ _ => false) (fun _ _ _ _ _ _ _ => false) 131 yxs_11 [(.pow (.add (.var 64) (.num 63)) 17, 40, 40), (.pow (.add (.var 64) (.num 63)) 17, 0, 54), (.var 0, 7, 7), (.var 0, 0, 7)] = true := by decide +kernel
set_option maxRecDepth 100000 in
theorem yq41_0 : yzrun (fun _ _ => false) (fun _ _ _ _ _ _ _ => false) 266 yxs_11 [(.pow (.add (.var 64) (.num 63)) 17, 41, 41), (.pow (.add (.var 64) (.num 63)) 17, 0, 54), (.var 0, 7, 7), (.var 0, 0, 7)] = true := by decide +kernel
end YQ12
noncomputable section YQ13
set_option maxRecDepth 100000 in
theorem yq43_0 : yzrun (fun _ _ => false) (fun _ _ _ _ _ _ _ => false) 1261 yxs_11 [(.var 128, (-2147483648), 5), (.pow (.add (.var 64) (.num 63)) 17, 43, 43), (.pow (.add (.var 64) (.num 63)) 17, 0, 54), (.var 0, 7, 7), (.var 0, 0, 7)] = true := by decide +kernel
set_option maxRecDepth 100000 in
theorem yq43_1 : yzrun (fun _ _ => false) (fun _ _ _ _ _ _ _ => false) 1261 yxs_11 [(.var 128, 6, 2147483647), (.pow (.add (.var 64) (.num 63)) 17, 43, 43), (.pow (.add (.var 64) (.num 63)) 17, 0, 54), (.var 0, 7, 7), (.var 0, 0, 7)] = true := by decide +kernel
set_option maxRecDepth 100000 in
theorem yq44_0 : yzrun (fun _ _ => false) (fun _ _ _ _ _ _ _ => false) 355 yxs_11 [(.pow (.add (.var 64) (.num 63)) 17, 44, 44), (.pow (.add (.var 64) (.num 63)) 17, 0, 54), (.var 0, 7, 7), (.var 0, 0, 7)] = true := by decide +kernel
set_option maxRecDepth 100000 in
theorem yq45_0 : yzrun (fun _ _ => false) (fun _ _ _ _ _ _ _ => false) 130 yxs_11 [(.pow (.add (.var 64) (.num 63)) 17, 45, 45), (.pow (.add (.var 64) (.num 63)) 17, 0, 54), (.var 0, 7, 7), (.var 0, 0, 7)] = true := by decide +kernel
set_option maxRecDepth 100000 in
theorem yq46_0 : yzrun (fun _ _ => false) (fun _ _ _ _ _ _ _ => false) 333 yxs_11 [(.pow (.add (.var 64) (.num 63)) 17, 46, 46), (.pow (.add (.var 64) (.num 63)) 17, 0, 54), (.var 0, 7, 7), (.var 0, 0, 7)] = true := by decide +kernel
set_option maxRecDepth 100000 in
theorem yq47_0 : yzrun (fun _ _ => false) (fun _ _ _ _ _ _ _ => false) 128 yxs_11 [(.pow (.add (.var 64) (.num 63)) 17, 47, 47), (.pow (.add (.var 64) (.num 63)) 17, 0, 54), (.var 0, 7, 7), (.var 0, 0, 7)] = true := by decide +kernel
set_option maxRecDepth 100000 in
theorem yq49_0 : yzrun (fun _ _ => false) (fun _ _ _ _ _ _ _ => false) 133 yxs_11 [(.pow (.add (.var 64) (.num 63)) 17, 49, 49), (.pow (.add (.var 64) (.num 63)) 17, 0, 54), (.var 0, 7, 7), (.var 0, 0, 7)] = true := by decide +kernel
set_option maxRecDepth 100000 in
theorem yq50_0 : yzrun (fun _ _ => false) (fun _ _ _ _ _ _ _ => false) 101 yxs_11 [(.pow (.add (.var 64) (.num 63)) 17, 50, 50), (.pow (.add (.var 64) (.num 63)) 17, 0, 54), (.var 0, 7, 7), (.var 0, 0, 7)] = true := by decide +kernel
set_option maxRecDepth 100000 in
theorem yq51_0 : yzrun (fun _ _ => false) (fun _ _ _ _ _ _ _ => false) 174 yxs_11 [(.pow (.add (.var 64) (.num 63)) 17, 51, 51), (.pow (.add (.var 64) (.num 63)) 17, 0, 54), (.var 0, 7, 7), (.var 0, 0, 7)] = true := by decide +kernel
set_option maxRecDepth 100000 in
theorem yq52_0 : yzrun (fun _ _ => false) (fun _ _ _ _ _ _ _ => false) 299 yxs_11 [(.var 128, (-2147483648), 0), (.var 192, (-2147483648), 0), (.var 192, (-2147483648), 1), (.pow (.add (.var 64) (.num 63)) 17, 52, 52), (.pow (.add (.var 64) (.num 63)) 17, 0, 54), (.var 0, 7, 7), (.var 0, 0, 7)] = true := by decide +kernel
set_option maxRecDepth 100000 in
theorem yq52_1 : yzrun (fun _ _ => false) (fun _ _ _ _ _ _ _ => false) 262 yxs_11 [(.var 256, (-2147483648), 1), (.var 128, 1, 1), (.var 128, 1, 2147483647), (.var 192, (-2147483648), 0), (.var 192, (-2147483648), 1), (.pow (.add (.var 64) (.num 63)) 17, 52, 52), (.pow (.add (.var 64) (.num 63)) 17, 0, 54), (.var 0, 7, 7), (.var 0, 0, 7)] = true := by decide +kernel
set_option maxRecDepth 100000 in
theorem yq52_2 : yzrun (fun _ _ => false) (fun _ _ _ _ _ _ _ => false) 182 yxs_11 [(.var 192, (-2147483648), (-1)), (.var 256, 2, 2), (.var 256, 2, 2147483647), (.var 128, 1, 1), (.var 128, 1, 2147483647), (.var 192, (-2147483648), 0), (.var 192, (-2147483648), 1), (.pow (.add (.var 64) (.num 63)) 17, 52, 52), (.pow (.add (.var 64) (.num 63)) 17, 0, 54), (.var 0, 7, 7), (.var 0, 0, 7)] = true := by decide +kernel
end YQ13
noncomputable section YQ14
set_option maxRecDepth 100000 in
theorem yq52_3 : yzrun (fun _ _ => false) (fun _ _ _ _ _ _ _ => false) 12386 yxs_11 [(.var 192, 0, 0), (.var 256, 2, 2), (.var 256, 2, 2147483647), (.var 128, 1, 1), (.var 128, 1, 2147483647), (.var 192, (-2147483648), 0), (.var 192, (-2147483648), 1), (.pow (.add (.var 64) (.num 63)) 17, 52, 52), (.pow (.add (.var 64) (.num 63)) 17, 0, 54), (.var 0, 7, 7), (.var 0, 0, 7)] = true := by decide +kernel
set_option maxRecDepth 100000 in
theorem yq52_4 : yzrun (fun _ _ => false) (fun _ _ _ _ _ _ _ => false) 207 yxs_11 [(.var 256, 3, 2147483647), (.var 256, 2, 2147483647), (.var 128, 1, 1), (.var 128, 1, 2147483647), (.var 192, (-2147483648), 0), (.var 192, (-2147483648), 1), (.pow (.add (.var 64) (.num 63)) 17, 52, 52), (.pow (.add (.var 64) (.num 63)) 17, 0, 54), (.var 0, 7, 7), (.var 0, 0, 7)] = true := by decide +kernel
set_option maxRecDepth 100000 in
theorem yq52_5 : yzrun (fun _ _ => false) (fun _ _ _ _ _ _ _ => false) 225 yxs_11 [(.var 128, 2, 2147483647), (.var 128, 1, 2147483647), (.var 192, (-2147483648), 0), (.var 192, (-2147483648), 1), (.pow (.add (.var 64) (.num 63)) 17, 52, 52), (.pow (.add (.var 64) (.num 63)) 17, 0, 54), (.var 0, 7, 7), (.var 0, 0, 7)] = true := by decide +kernel
set_option maxRecDepth 100000 in
theorem yq52_6 : yzrun (fun _ _ => false) (fun _ _ _ _ _ _ _ => false) 263 yxs_11 [(.var 256, (-2147483648), 1), (.var 192, 1, 1), (.var 192, (-2147483648), 1), (.pow (.add (.var 64) (.num 63)) 17, 52, 52), (.pow (.add (.var 64) (.num 63)) 17, 0, 54), (.var 0, 7, 7), (.var 0, 0, 7)] = true := by decide +kernel
set_option maxRecDepth 100000 in
theorem yq52_7 : yzrun (fun _ _ => false) (fun _ _ _ _ _ _ _ => false) 299 yxs_11 [(.var 128, (-2147483648), 0), (.var 256, 2, 2147483647), (.var 192, 1, 1), (.var 192, (-2147483648), 1), (.pow (.add (.var 64) (.num 63)) 17, 52, 52), (.pow (.add (.var 64) (.num 63)) 17, 0, 54), (.var 0, 7, 7), (.var 0, 0, 7)] = true := by decide +kernel
end YQ14
noncomputable section YQ15
set_option maxRecDepth 100000 in
theorem yq52_8 : yzrun (fun _ _ => false) (fun _ _ _ _ _ _ _ => false) 12386 yxs_11 [(.var 256, 2, 2), (.var 128, 1, 1), (.var 128, 1, 2147483647), (.var 256, 2, 2147483647), (.var 192, 1, 1), (.var 192, (-2147483648), 1), (.pow (.add (.var 64) (.num 63)) 17, 52, 52), (.pow (.add (.var 64) (.num 63)) 17, 0, 54), (.var 0, 7, 7), (.var 0, 0, 7)] = true := by decide +kernel
set_option maxRecDepth 100000 in
theorem yq52_9 : yzrun (fun _ _ => false) (fun _ _ _ _ _ _ _ => false) 207 yxs_11 [(.var 256, 3, 2147483647), (.var 128, 1, 1), (.var 128, 1, 2147483647), (.var 256, 2, 2147483647), (.var 192, 1, 1), (.var 192, (-2147483648), 1), (.pow (.add (.var 64) (.num 63)) 17, 52, 52), (.pow (.add (.var 64) (.num 63)) 17, 0, 54), (.var 0, 7, 7), (.var 0, 0, 7)] = true := by decide +kernel
set_option maxRecDepth 100000 in
theorem yq52_10 : yzrun (fun _ _ => false) (fun _ _ _ _ _ _ _ => false) 196 yxs_11 [(.var 128, 2, 2147483647), (.var 128, 1, 2147483647), (.var 256, 2, 2147483647), (.var 192, 1, 1), (.var 192, (-2147483648), 1), (.pow (.add (.var 64) (.num 63)) 17, 52, 52), (.pow (.add (.var 64) (.num 63)) 17, 0, 54), (.var 0, 7, 7), (.var 0, 0, 7)] = true := by decide +kernel
set_option maxRecDepth 100000 in
theorem yq52_11 : yzrun (fun _ _ => false) (fun _ _ _ _ _ _ _ => false) 263 yxs_11 [(.var 256, (-2147483648), 1), (.var 192, 2, 2), (.var 192, 2, 2147483647), (.pow (.add (.var 64) (.num 63)) 17, 52, 52), (.pow (.add (.var 64) (.num 63)) 17, 0, 54), (.var 0, 7, 7), (.var 0, 0, 7)] = true := by decide +kernel
set_option maxRecDepth 100000 in
theorem yq52_12 : yzrun (fun _ _ => false) (fun _ _ _ _ _ _ _ => false) 299 yxs_11 [(.var 128, (-2147483648), 0), (.var 256, 2, 2147483647), (.var 192, 2, 2), (.var 192, 2, 2147483647), (.pow (.add (.var 64) (.num 63)) 17, 52, 52), (.pow (.add (.var 64) (.num 63)) 17, 0, 54), (.var 0, 7, 7), (.var 0, 0, 7)] = true := by decide +kernel
end YQ15
