noncomputable section YQ42
set_option maxRecDepth 100000 in
theorem yq42_28b : yzrun yct42 (xcut [yc42_28b]) 470 yh42_28 ((.sub (.mul (.var 256) (.var 320)) (.var 1048576), 1, 144) :: yF42_28) = true := by decide +kernel
set_option maxRecDepth 100000 in
theorem yq42_28x : yzrun yct42 (xcut [yc42_29a]) 60 yh42_28 ((.sub (.mul (.var 256) (.var 320)) (.var 1048576), -144, 0) :: yF42_28) = true := by decide +kernel
set_option maxRecDepth 100000 in
theorem yq42_29 : yzrun yct42 (xcut [yc42_29b, yc42_30a]) 60 yh42_29 (yF42_29) = true := by decide +kernel
set_option maxRecDepth 100000 in
theorem yq42_30b : yzrun yct42 (xcut [yc42_30b]) 80 yh42_30 ((.sub (.mul (.var 256) (.var 320)) (.var 1048576), 1, 144) :: (.pow (.sub (.num 4342848) (.var 1048576)) 0, -1, -1) :: (.pow (.add (.var 1048576) (.var 256)) 23, 0, 11) :: (.pow (.add (.var 1048576) (.var 256)) 24, 0, 11) :: yF42_30) = true := by decide +kernel
set_option maxRecDepth 100000 in
theorem yq42_30x : yzrun yct42 (xcut []) 80 yh42_30 ((.sub (.mul (.var 256) (.var 320)) (.var 1048576), -144, 0) :: yF42_30) = true := by decide +kernel
set_option maxRecDepth 100000 in
theorem yq42_h27 : yzrun yct42 (xcut ([yg42_27].map (xmz yg42_27.2) ++ [ye42])) 148 yg42_27.1.1 yg42_27.1.2.2.2.1 = true := by decide +kernel
set_option maxRecDepth 100000 in
theorem yq42_h11 : yzrun yct42 (xcut ([yg42_11, yg42_19].map (xmz yg42_11.2) ++ [yg42_27.1])) 150 yg42_11.1.1 yg42_11.1.2.2.2.1 = true := by decide +kernel
set_option maxRecDepth 100000 in
theorem yq42_h19 : yzrun yct42 (xcut ([yg42_11, yg42_19].map (xmz yg42_19.2) ++ [yg42_27.1])) 150 yg42_19.1.1 yg42_19.1.2.2.2.1 = true := by decide +kernel
set_option maxRecDepth 100000 in
theorem yq42_h3 : yzrun yct42 (xcut ([yg42_3].map (xmz yg42_3.2) ++ [yg42_11.1])) 22 yg42_3.1.1 yg42_3.1.2.2.2.1 = true := by decide +kernel
set_option maxRecDepth 100000 in
theorem yq42_h12 : yzrun yct42 (xcut ([yg42_12, yg42_20].map (xmz yg42_12.2) ++ [yg42_27.1])) 150 yg42_12.1.1 yg42_12.1.2.2.2.1 = true := by decide +kernel
set_option maxRecDepth 100000 in
theorem yq42_h20 : yzrun yct42 (xcut ([yg42_12, yg42_20].map (xmz yg42_20.2) ++ [yg42_27.1])) 150 yg42_20.1.1 yg42_20.1.2.2.2.1 = true := by decide +kernel
set_option maxRecDepth 100000 in
theorem yq42_h4 : yzrun yct42 (xcut ([yg42_4].map (xmz yg42_4.2) ++ [yg42_12.1])) 22 yg42_4.1.1 yg42_4.1.2.2.2.1 = true := by decide +kernel
set_option maxRecDepth 100000 in
theorem yq42_h13 : yzrun yct42 (xcut ([yg42_13, yg42_21].map (xmz yg42_13.2) ++ [yg42_27.1])) 150 yg42_13.1.1 yg42_13.1.2.2.2.1 = true := by decide +kernel
set_option maxRecDepth 100000 in
theorem yq42_h21 : yzrun yct42 (xcut ([yg42_13, yg42_21].map (xmz yg42_21.2) ++ [yg42_27.1])) 150 yg42_21.1.1 yg42_21.1.2.2.2.1 = true := by decide +kernel
set_option maxRecDepth 100000 in
theorem yq42_h5 : yzrun yct42 (xcut ([yg42_5].map (xmz yg42_5.2) ++ [yg42_13.1])) 22 yg42_5.1.1 yg42_5.1.2.2.2.1 = true := by decide +kernel
set_option maxRecDepth 100000 in
theorem yq42_h14 : yzrun yct42 (xcut ([yg42_14, yg42_22].map (xmz yg42_14.2) ++ [yg42_27.1])) 150 yg42_14.1.1 yg42_14.1.2.2.2.1 = true := by decide +kernel
set_option maxRecDepth 100000 in
theorem yq42_h22 : yzrun yct42 (xcut ([yg42_14, yg42_22].map (xmz yg42_22.2) ++ [yg42_27.1])) 150 yg42_22.1.1 yg42_22.1.2.2.2.1 = true := by decide +kernel
set_option maxRecDepth 100000 in
theorem yq42_h6 : yzrun yct42 (xcut ([yg42_6].map (xmz yg42_6.2) ++ [yg42_14.1])) 22 yg42_6.1.1 yg42_6.1.2.2.2.1 = true := by decide +kernel
set_option maxRecDepth 100000 in
theorem yq42_h15 : yzrun yct42 (xcut ([yg42_15, yg42_23].map (xmz yg42_15.2) ++ [yg42_27.1])) 150 yg42_15.1.1 yg42_15.1.2.2.2.1 = true := by decide +kernel
set_option maxRecDepth 100000 in
theorem yq42_h23 : yzrun yct42 (xcut ([yg42_15, yg42_23].map (xmz yg42_23.2) ++ [yg42_27.1])) 150 yg42_23.1.1 yg42_23.1.2.2.2.1 = true := by decide +kernel
set_option maxRecDepth 100000 in
theorem yq42_h7 : yzrun yct42 (xcut ([yg42_7].map (xmz yg42_7.2) ++ [yg42_15.1])) 22 yg42_7.1.1 yg42_7.1.2.2.2.1 = true := by decide +kernel
set_option maxRecDepth 100000 in
theorem yq42_h16 : yzrun yct42 (xcut ([yg42_16, yg42_24].map (xmz yg42_16.2) ++ [yg42_27.1])) 150 yg42_16.1.1 yg42_16.1.2.2.2.1 = true := by decide +kernel
set_option maxRecDepth 100000 in
theorem yq42_h24 : yzrun yct42 (xcut ([yg42_16, yg42_24].map (xmz yg42_24.2) ++ [yg42_27.1])) 150 yg42_24.1.1 yg42_24.1.2.2.2.1 = true := by decide +kernel
set_option maxRecDepth 100000 in
theorem yq42_h8 : yzrun yct42 (xcut ([yg42_8].map (xmz yg42_8.2) ++ [yg42_16.1])) 22 yg42_8.1.1 yg42_8.1.2.2.2.1 = true := by decide +kernel
set_option maxRecDepth 100000 in
theorem yq42_h17 : yzrun yct42 (xcut ([yg42_17, yg42_25].map (xmz yg42_17.2) ++ [yg42_27.1])) 150 yg42_17.1.1 yg42_17.1.2.2.2.1 = true := by decide +kernel
set_option maxRecDepth 100000 in
theorem yq42_h25 : yzrun yct42 (xcut ([yg42_17, yg42_25].map (xmz yg42_25.2) ++ [yg42_27.1])) 150 yg42_25.1.1 yg42_25.1.2.2.2.1 = true := by decide +kernel
set_option maxRecDepth 100000 in
theorem yq42_h9 : yzrun yct42 (xcut ([yg42_9].map (xmz yg42_9.2) ++ [yg42_17.1])) 22 yg42_9.1.1 yg42_9.1.2.2.2.1 = true := by decide +kernel
set_option maxRecDepth 100000 in
theorem yq42_h18 : yzrun yct42 (xcut ([yg42_18, yg42_26].map (xmz yg42_18.2) ++ [yg42_27.1])) 150 yg42_18.1.1 yg42_18.1.2.2.2.1 = true := by decide +kernel
set_option maxRecDepth 100000 in
theorem yq42_h26 : yzrun yct42 (xcut ([yg42_18, yg42_26].map (xmz yg42_26.2) ++ [yg42_27.1])) 150 yg42_26.1.1 yg42_26.1.2.2.2.1 = true := by decide +kernel
set_option maxRecDepth 100000 in
theorem yq42_h10 : yzrun yct42 (xcut ([yg42_10].map (xmz yg42_10.2) ++ [yg42_18.1])) 22 yg42_10.1.1 yg42_10.1.2.2.2.1 = true := by decide +kernel
set_option maxRecDepth 100000 in
theorem yq42_h1 : yzrun yct42 (xcut ([yg42_1, yg42_2].map (xmz yg42_1.2) ++ [yg42_3.1, yg42_4.1, yg42_5.1, yg42_6.1, yg42_7.1, yg42_8.1, yg42_9.1, yg42_10.1])) 62 yg42_1.1.1 yg42_1.1.2.2.2.1 = true := by decide +kernel
set_option maxRecDepth 100000 in
theorem yq42_h2 : yzrun yct42 (xcut ([yg42_1, yg42_2].map (xmz yg42_2.2) ++ [yg42_3.1, yg42_4.1, yg42_5.1, yg42_6.1, yg42_7.1, yg42_8.1, yg42_9.1, yg42_10.1])) 62 yg42_2.1.1 yg42_2.1.2.2.2.1 = true := by decide +kernel
set_option maxRecDepth 100000 in
theorem yq42_h0 : yzrun yct42 (xcut ([yg42_0].map (xmz yg42_0.2) ++ [yg42_1.1])) 22 yg42_0.1.1 yg42_0.1.2.2.2.1 = true := by decide +kernel
set_option maxRecDepth 100000 in
theorem yq42_s : yzrun yct42 (xcut [yg42_0.1]) 271 yxs_11 [(.pow (.add (.var 64) (.num 63)) 17, 42, 42), (.pow (.add (.var 64) (.num 63)) 17, 0, 54), (.var 0, 7, 7), (.var 0, 0, 7)] = true := by decide +kernel
end YQ42
