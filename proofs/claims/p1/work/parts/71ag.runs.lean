noncomputable section YQ6
set_option maxRecDepth 100000 in
theorem yq29_0 : yzrun (fun _ _ => false) (fun _ _ _ _ _ _ _ => false) 239 yxs_11 [(.pow (.add (.var 64) (.num 63)) 17, 29, 29), (.pow (.add (.var 64) (.num 63)) 17, 0, 54), (.var 0, 7, 7), (.var 0, 0, 7)] = true := by decide +kernel
set_option maxRecDepth 100000 in
theorem yq30_0 : yzrun (fun _ _ => false) (fun _ _ _ _ _ _ _ => false) 331 yxs_11 [(.var 128, (-2147483648), 5), (.pow (.add (.var 64) (.num 63)) 17, 30, 30), (.pow (.add (.var 64) (.num 63)) 17, 0, 54), (.var 0, 7, 7), (.var 0, 0, 7)] = true := by decide +kernel
set_option maxRecDepth 100000 in
theorem yq30_1 : yzrun (fun _ _ => false) (fun _ _ _ _ _ _ _ => false) 331 yxs_11 [(.var 128, 6, 2147483647), (.pow (.add (.var 64) (.num 63)) 17, 30, 30), (.pow (.add (.var 64) (.num 63)) 17, 0, 54), (.var 0, 7, 7), (.var 0, 0, 7)] = true := by decide +kernel
set_option maxRecDepth 100000 in
theorem yq31_0 : yzrun (fun _ _ => false) (fun _ _ _ _ _ _ _ => false) 381 yxs_11 [(.pow (.add (.var 64) (.num 63)) 17, 31, 31), (.pow (.add (.var 64) (.num 63)) 17, 0, 54), (.var 0, 7, 7), (.var 0, 0, 7)] = true := by decide +kernel
end YQ6
