noncomputable section YQ3
set_option maxRecDepth 100000 in
theorem yq21_2 : yzrun (fun _ _ => false) (fun _ _ _ _ _ _ _ => false) 520 yxs_11 [(.var 128, (-2147483648), 2), (.var 192, 4, 2147483647), (.var 128, (-2147483648), 5), (.pow (.add (.var 64) (.num 63)) 17, 21, 21), (.pow (.add (.var 64) (.num 63)) 17, 0, 54), (.var 0, 7, 7), (.var 0, 0, 7)] = true := by decide +kernel
set_option maxRecDepth 100000 in
theorem yq21_3 : yzrun (fun _ _ => false) (fun _ _ _ _ _ _ _ => false) 520 yxs_11 [(.var 128, 3, 5), (.var 192, 4, 2147483647), (.var 128, (-2147483648), 5), (.pow (.add (.var 64) (.num 63)) 17, 21, 21), (.pow (.add (.var 64) (.num 63)) 17, 0, 54), (.var 0, 7, 7), (.var 0, 0, 7)] = true := by decide +kernel
set_option maxRecDepth 100000 in
theorem yq21_4 : yzrun (fun _ _ => false) (fun _ _ _ _ _ _ _ => false) 520 yxs_11 [(.var 128, 6, 8), (.var 192, (-2147483648), 3), (.var 128, 6, 2147483647), (.pow (.add (.var 64) (.num 63)) 17, 21, 21), (.pow (.add (.var 64) (.num 63)) 17, 0, 54), (.var 0, 7, 7), (.var 0, 0, 7)] = true := by decide +kernel
set_option maxRecDepth 100000 in
theorem yq21_5 : yzrun (fun _ _ => false) (fun _ _ _ _ _ _ _ => false) 520 yxs_11 [(.var 128, 9, 2147483647), (.var 192, (-2147483648), 3), (.var 128, 6, 2147483647), (.pow (.add (.var 64) (.num 63)) 17, 21, 21), (.pow (.add (.var 64) (.num 63)) 17, 0, 54), (.var 0, 7, 7), (.var 0, 0, 7)] = true := by decide +kernel
end YQ3
