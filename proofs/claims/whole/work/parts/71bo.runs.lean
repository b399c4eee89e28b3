noncomputable section YQ40
set_option maxRecDepth 100000 in
theorem yq54_1 : yzrun (fun _ _ => false) (xat yn54_2.1) 9000 yn54_1.1 yn54_1.2.2.2.1 = true := by decide +kernel
set_option maxRecDepth 100000 in
theorem yq54_2 : yzrun (fun _ _ => false) (xat yn54_3.1) 9000 yn54_2.1 yn54_2.2.2.2.1 = true := by decide +kernel
end YQ40
noncomputable section YQ41
set_option maxRecDepth 100000 in
theorem yq54_3 : yzrun (fun _ _ => false) (xat yn54_4.1) 9000 yn54_3.1 yn54_3.2.2.2.1 = true := by decide +kernel
set_option maxRecDepth 100000 in
theorem yq54_4 : yzrun (fun _ _ => false) (xcut []) 1436 yn54_4.1 yn54_4.2.2.2.1 = true := by decide +kernel
set_option maxRecDepth 100000 in
theorem yq22n : yzrun (fun _ _ => false) (fun _ _ _ _ _ _ _ => false) 209 yxs_11 [(.var 192, (-2147483648), (-1)), (.pow (.add (.var 64) (.num 63)) 17, 22, 22), (.pow (.add (.var 64) (.num 63)) 17, 0, 54), (.var 0, 7, 7), (.var 0, 0, 7)] = true := by decide +kernel
set_option maxRecDepth 100000 in
theorem yq22g : yzrun (fun _ _ => false) (fun _ _ _ _ _ _ _ => false) 215 yxs_11 [(.var 192, 10, 2147483647), (.var 192, 0, 2147483647), (.pow (.add (.var 64) (.num 63)) 17, 22, 22), (.pow (.add (.var 64) (.num 63)) 17, 0, 54), (.var 0, 7, 7), (.var 0, 0, 7)] = true := by decide +kernel
set_option maxRecDepth 100000 in
theorem yq22z_0 : yzrun yct22z (xcut [yn22z_1]) 302 yxs_11 [(.var 192, 0, 0), (.var 192, 0, 9), (.var 192, 0, 2147483647), (.pow (.add (.var 64) (.num 63)) 17, 22, 22), (.pow (.add (.var 64) (.num 63)) 17, 0, 54), (.var 0, 7, 7), (.var 0, 0, 7)] = true := by decide +kernel
set_option maxRecDepth 100000 in
theorem yq22z_1 : yzrun yct22z (xcut [yn22z_2]) 58 yn22z_1.1 yn22z_1.2.2.2.1 = true := by decide +kernel
set_option maxRecDepth 100000 in
theorem yq22z_2 : yzrun yct22z (xcut [yn22z_3]) 86 yn22z_2.1 yn22z_2.2.2.2.1 = true := by decide +kernel
end YQ41
noncomputable section YQ42
set_option maxRecDepth 100000 in
theorem yq22z_3 : yzrun yct22z (xcut [yn22z_4]) 172 yn22z_3.1 yn22z_3.2.2.2.1 = true := by decide +kernel
set_option maxRecDepth 100000 in
theorem yq22z_4 : yzrun (fun _ _ => false) (xat yn22z_5.1) 2786 yn22z_4.1 yn22z_4.2.2.2.1 = true := by decide +kernel
set_option maxRecDepth 100000 in
theorem yq22z_5 : yzrun yct22z (xcut [yn22z_6]) 139 yn22z_5.1 yn22z_5.2.2.2.1 = true := by decide +kernel
set_option maxRecDepth 100000 in
theorem yq22z_6 : yzrun yct22z (xcut [yn22z_7]) 574 yn22z_6.1 yn22z_6.2.2.2.1 = true := by decide +kernel
set_option maxRecDepth 100000 in
theorem yq22z_7 : yzrun (fun _ _ => false) (xcut []) 2796 yn22z_7.1 yn22z_7.2.2.2.1 = true := by decide +kernel
set_option maxRecDepth 100000 in
theorem yq22b_0 : yzrun yct22b (xcut [yn22b_1]) 302 yxs_11 [(.var 192, 1, 9), (.var 192, 0, 9), (.var 192, 0, 2147483647), (.pow (.add (.var 64) (.num 63)) 17, 22, 22), (.pow (.add (.var 64) (.num 63)) 17, 0, 54), (.var 0, 7, 7), (.var 0, 0, 7)] = true := by decide +kernel
end YQ42
noncomputable section YQ43
set_option maxRecDepth 100000 in
theorem yq22b_1 : yzrun yct22b (xcut [yn22b_2]) 58 yn22b_1.1 yn22b_1.2.2.2.1 = true := by decide +kernel
set_option maxRecDepth 100000 in
theorem yq22b_2 : yzrun (fun _ _ => false) (xat yn22b_3.1) 9000 yn22b_2.1 yn22b_2.2.2.2.1 = true := by decide +kernel
set_option maxRecDepth 100000 in
theorem yq22b_3 : yzrun (fun _ _ => false) (xat yn22b_4.1) 9000 yn22b_3.1 yn22b_3.2.2.2.1 = true := by decide +kernel
end YQ43
