noncomputable section YQ16
set_option maxRecDepth 100000 in
theorem yq52_13 : yzrun (fun _ _ => false) (fun _ _ _ _ _ _ _ => false) 12386 yxs_11 [(.var 256, 2, 2), (.var 128, 1, 1), (.var 128, 1, 2147483647), (.var 256, 2, 2147483647), (.var 192, 2, 2), (.var 192, 2, 2147483647), (.pow (.add (.var 64) (.num 63)) 17, 52, 52), (.pow (.add (.var 64) (.num 63)) 17, 0, 54), (.var 0, 7, 7), (.var 0, 0, 7)] = true := by decide +kernel
set_option maxRecDepth 100000 in
theorem yq52_14 : yzrun (fun _ _ => false) (fun _ _ _ _ _ _ _ => false) 207 yxs_11 [(.var 256, 3, 2147483647), (.var 128, 1, 1), (.var 128, 1, 2147483647), (.var 256, 2, 2147483647), (.var 192, 2, 2), (.var 192, 2, 2147483647), (.pow (.add (.var 64) (.num 63)) 17, 52, 52), (.pow (.add (.var 64) (.num 63)) 17, 0, 54), (.var 0, 7, 7), (.var 0, 0, 7)] = true := by decide +kernel
set_option maxRecDepth 100000 in
theorem yq52_15 : yzrun (fun _ _ => false) (fun _ _ _ _ _ _ _ => false) 196 yxs_11 [(.var 128, 2, 2147483647), (.var 128, 1, 2147483647), (.var 256, 2, 2147483647), (.var 192, 2, 2), (.var 192, 2, 2147483647), (.pow (.add (.var 64) (.num 63)) 17, 52, 52), (.pow (.add (.var 64) (.num 63)) 17, 0, 54), (.var 0, 7, 7), (.var 0, 0, 7)] = true := by decide +kernel
set_option maxRecDepth 100000 in
theorem yq52_16 : yzrun (fun _ _ => false) (fun _ _ _ _ _ _ _ => false) 263 yxs_11 [(.var 256, (-2147483648), 1), (.var 192, 3, 3), (.var 192, 3, 2147483647), (.var 192, 2, 2147483647), (.pow (.add (.var 64) (.num 63)) 17, 52, 52), (.pow (.add (.var 64) (.num 63)) 17, 0, 54), (.var 0, 7, 7), (.var 0, 0, 7)] = true := by decide +kernel
set_option maxRecDepth 100000 in
theorem yq52_17 : yzrun (fun _ _ => false) (fun _ _ _ _ _ _ _ => false) 299 yxs_11 [(.var 128, (-2147483648), 0), (.var 256, 2, 2147483647), (.var 192, 3, 3), (.var 192, 3, 2147483647), (.var 192, 2, 2147483647), (.pow (.add (.var 64) (.num 63)) 17, 52, 52), (.pow (.add (.var 64) (.num 63)) 17, 0, 54), (.var 0, 7, 7), (.var 0, 0, 7)] = true := by decide +kernel
end YQ16
