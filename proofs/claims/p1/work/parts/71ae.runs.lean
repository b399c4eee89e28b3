noncomputable section YQ4
set_option maxRecDepth 100000 in
theorem yq21_6 : yzrun (fun _ _ => false) (fun _ _ _ _ _ _ _ => false) 520 yxs_11 [(.var 128, 6, 8), (.var 192, 4, 2147483647), (.var 128, 6, 2147483647), (.pow (.add (.var 64) (.num 63)) 17, 21, 21), (.pow (.add (.var 64) (.num 63)) 17, 0, 54), (.var 0, 7, 7), (.var 0, 0, 7)] = true := by decide +kernel
set_option maxRecDepth 100000 in
theorem yq21_7 : yzrun (fun _ _ => false) (fun _ _ _ _ _ _ _ => false) 520 yxs_11 [(.var 128, 9, 2147483647), (.var 192, 4, 2147483647), (.var 128, 6, 2147483647), (.pow (.add (.var 64) (.num 63)) 17, 21, 21), (.pow (.add (.var 64) (.num 63)) 17, 0, 54), (.var 0, 7, 7), (.var 0, 0, 7)] = true := by decide +kernel
set_option maxRecDepth 100000 in
theorem yq23_0 : yzrun (fun _ _ => false) (fun _ _ _ _ _ _ _ => false) 301 yxs_11 [(.pow (.add (.var 64) (.num 63)) 17, 23, 23), (.pow (.add (.var 64) (.num 63)) 17, 0, 54), (.var 0, 7, 7), (.var 0, 0, 7)] = true := by decide +kernel
set_option maxRecDepth 100000 in
theorem yq24_0 : yzrun (fun _ _ => false) (fun _ _ _ _ _ _ _ => false) 203 yxs_11 [(.pow (.add (.var 64) (.num 63)) 17, 24, 24), (.pow (.add (.var 64) (.num 63)) 17, 0, 54), (.var 0, 7, 7), (.var 0, 0, 7)] = true := by decide +kernel
set_option maxRecDepth 100000 in
theorem yq25_0 : yzrun (fun _ _ => false) (fun _ _ _ _ _ _ _ => false) 214 yxs_11 [(.pow (.add (.var 64) (.num 63)) 17, 25, 25), (.pow (.add (.var 64) (.num 63)) 17, 0, 54), (.var 0, 7, 7), (.var 0, 0, 7)] = true := by decide +kernel
end YQ4
