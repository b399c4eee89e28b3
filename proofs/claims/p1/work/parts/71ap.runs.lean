noncomputable section YQ15
set_option maxRecDepth 100000 in
theorem yq52_8 : yzrun (fun _ _ => false) (fun _ _ _ _ _ _ _ => false) 12386 yxs_11 [(.var 256, 2, 2), (.var 128, 1, 1), (.var 128, 1, 2147483647), (.var 256, 2, 2147483647), (.var 192, 1, 1), (.var 192, (-2147483648), 1), (.pow (.add (.var 64) (.num 63)) 17, 52, 52), (.pow (.add (.var 64) (.num 63)) 17, 0, 54), (.var 0, 7, 7), (.var 0, 0, 7)] = true := by decide +kernel
set_option maxRecDepth 100000 in
theorem yq52_9 : yzrun (fun _ _ => false) (fun _ _ _ _ _ _ _ => false) 207 yxs_11 [(.var 256, 3, 2147483647), (.var 128, 1, 1), (.var 128, 1, 2147483647), (.var 256, 2, 2147483647), (.var 192, 1, 1), (.var 192, (-2147483648), 1), (.pow (.add (.var 64) (.num 63)) 17, 52, 52), (.pow (.add (.var 64) (.num 63)) 17, 0, 54), (.var 0, 7, 7), (.var 0, 0, 7)] = true := by decide +kernel
set_option maxRecDepth 100000 in
theorem yq52_10 : yzrun (fun _ _ => false) (fun _ _ _ _ _ _ _ => false) 196 yxs_11 [(.var 128, 2, 2147483647), (.var 128, 1, 2147483647), (.var 256, 2, 2147483647), (.var 192, 1, 1), (.var 192, (-2147483648), 1), (.pow (.add (.var 64) (.num 63)) 17, 52, 52), (.pow (.add (.var 64) (.num 63)) 17, 0, 54), (.var 0, 7, 7), (.var 0, 0, 7)] = true := by decide +kernel
set_option maxRecDepth 100000 in
theorem yq52_11 : yzrun (fun _ _ => false) (fun _ _ _ _ _ _ _ => false) 263 yxs_11 [(.var 256, (-2147483648), 1), (.var 192, 2, 2), (.var 192, 2, 2147483647), (.pow (.add (.var 64) (.num 63)) 17, 52, 52), (.pow (.add (.var 64) (.num 63)) 17, 0, 54), (.var 0, 7, 7), (.var 0, 0, 7)] = true := by decide +kernel
set_option maxRecDepth 100000 in
theorem yq52_12 : yzrun (fun _ _ => false) (fun _ _ _ _ _ _ _ => false) 299 yxs_11 [(.var 128, (-2147483648), 0), (.var 256, 2, 2147483647), (.var 192, 2, 2), (.var 192, 2, 2147483647), (.pow (.add (.var 64) (.num 63)) 17, 52, 52), (.pow (.add (.var 64) (.num 63)) 17, 0, 54), (.var 0, 7, 7), (.var 0, 0, 7)] = true := by decide +kernel
end YQ15
