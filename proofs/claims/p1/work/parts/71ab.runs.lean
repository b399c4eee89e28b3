noncomputable section YQ1
set_option maxRecDepth 100000 in
theorem yq13_0 : yzrun (fun _ _ => false) (fun _ _ _ _ _ _ _ => false) 174 yxs_11 [(.pow (.add (.var 64) (.num 63)) 17, 13, 13), (.pow (.add (.var 64) (.num 63)) 17, 0, 54), (.var 0, 7, 7), (.var 0, 0, 7)] = true := by decide +kernel
set_option maxRecDepth 100000 in
theorem yq14_0 : yzrun (fun _ _ => false) (fun _ _ _ _ _ _ _ => false) 194 yxs_11 [(.pow (.add (.var 64) (.num 63)) 17, 14, 14), (.pow (.add (.var 64) (.num 63)) 17, 0, 54), (.var 0, 7, 7), (.var 0, 0, 7)] = true := by decide +kernel
set_option maxRecDepth 100000 in
theorem yq15_0 : yzrun (fun _ _ => false) (fun _ _ _ _ _ _ _ => false) 384 yxs_11 [(.var 128, (-2147483648), 3), (.var 192, (-2147483648), 3), (.pow (.add (.var 64) (.num 63)) 17, 15, 15), (.pow (.add (.var 64) (.num 63)) 17, 0, 54), (.var 0, 7, 7), (.var 0, 0, 7)] = true := by decide +kernel
set_option maxRecDepth 100000 in
theorem yq15_1 : yzrun (fun _ _ => false) (fun _ _ _ _ _ _ _ => false) 384 yxs_11 [(.var 128, 4, 2147483647), (.var 192, (-2147483648), 3), (.pow (.add (.var 64) (.num 63)) 17, 15, 15), (.pow (.add (.var 64) (.num 63)) 17, 0, 54), (.var 0, 7, 7), (.var 0, 0, 7)] = true := by decide +kernel
set_option maxRecDepth 100000 in
theorem yq15_2 : yzrun (fun _ _ => false) (fun _ _ _ _ _ _ _ => false) 215 yxs_11 [(.var 192, 4, 2147483647), (.pow (.add (.var 64) (.num 63)) 17, 15, 15), (.pow (.add (.var 64) (.num 63)) 17, 0, 54), (.var 0, 7, 7), (.var 0, 0, 7)] = true := by decide +kernel
end YQ1
