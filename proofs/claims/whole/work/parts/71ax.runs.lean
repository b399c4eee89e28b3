noncomputable section YQ23
set_option maxRecDepth 100000 in
theorem yq22z_5 : yzrun yct22z (xcut [yn22z_6]) 139 yn22z_5.1 yn22z_5.2.2.2.1 = true := by decide +kernel
set_option maxRecDepth 100000 in
theorem yq22z_6 : yzrun yct22z (xcut [yn22z_7]) 574 yn22z_6.1 yn22z_6.2.2.2.1 = true := by decide +kernel
set_option maxRecDepth 100000 in
theorem yq22z_7 : yzrun (fun _ _ => false) (xcut []) 2796 yn22z_7.1 yn22z_7.2.2.2.1 = true := by decide +kernel
set_option maxRecDepth 100000 in
theorem yq22b_0 : yzrun yct22b (xcut [yn22b_1]) 302 yxs_11 [(.var 192, 1, 9), (.var 192, 0, 9), (.var 192, 0, 2147483647), (.pow (.add (.var 64) (.num 63)) 17, 22, 22), (.pow (.add (.var 64) (.num 63)) 17, 0, 54), (.var 0, 7, 7), (.var 0, 0, 7)] = true := by decide +kernel
set_option maxRecDepth 100000 in
theorem yq22b_1 : yzrun yct22b (xcut [yn22b_2]) 58 yn22b_1.1 yn22b_1.2.2.2.1 = true := by decide +kernel
set_option maxRecDepth 100000 in
theorem yq22b_2 : yzrun (fun _ _ => false) (xcut [yn22b_3]) 9000 yn22b_2.1 yn22b_2.2.2.2.1 = true := by decide +kernel
end YQ23
