noncomputable section YQ48a
set_option maxRecDepth 100000 in
theorem yq48_C0 : yzrun yct48_a (xcut [yc48_0]) 36 yt48_C0 ((.sub (.var 128) (.pow (.add (.pow (.add (.pow (.add (.pow (.add (.var 1048577) (.num 6364136223846793005)) 38) (.num 1442695040888963407)) 36) (.num 33)) 51) (.var 128)) 40), 1, 16) :: yF48_C0) = true := by decide +kernel
set_option maxRecDepth 100000 in
theorem yq48_W0n : yzrun yct48_a (xcut [yc48_1]) 19 yt48_W0 ((.sub (.var 1048960) (.var 1049024), (-15), (-1)) :: (.sub (.var 128) (.var 1048960), 1, 16) :: yF48_W0) = true := by decide +kernel
set_option maxRecDepth 100000 in
theorem yq48_W0t : yzrun yct48_b (xcut [yc48_2]) 95 yt48_W0 ((.pow (.sub (.num 4194310) (.var 1048960)) 0, (-1), (-1)) :: (.sub (.var 1048960) (.var 1049024), 0, 0) :: (.sub (.var 128) (.var 1048960), 1, 16) :: yF48_W0) = true := by decide +kernel
set_option maxRecDepth 100000 in
theorem yq48_W0s0 : yzrun yct48_b (xcut [yc48_3, yc48_4]) 215 yt48_W0 ((.var 4195394, 0, 0) :: (.pow (.sub (.num 4194310) (.var 1048960)) 0, 0, 0) :: (.sub (.var 1048960) (.var 1049024), 0, 0) :: (.sub (.var 128) (.var 1048960), 1, 16) :: yF48_W0) = true := by decide +kernel
set_option maxRecDepth 100000 in
theorem yq48_W0s1 : yzrun yct48_b (xcut [yc48_5, yc48_6]) 215 yt48_W0 ((.var 4195458, 0, 0) :: (.pow (.sub (.num 4194310) (.var 1048960)) 0, 1, 1) :: (.sub (.var 1048960) (.var 1049024), 0, 0) :: (.sub (.var 128) (.var 1048960), 1, 16) :: yF48_W0) = true := by decide +kernel
set_option maxRecDepth 100000 in
theorem yq48_W0s2 : yzrun yct48_b (xcut [yc48_7, yc48_8]) 215 yt48_W0 ((.var 4195522, 0, 0) :: (.pow (.sub (.num 4194310) (.var 1048960)) 0, 2, 2) :: (.sub (.var 1048960) (.var 1049024), 0, 0) :: (.sub (.var 128) (.var 1048960), 1, 16) :: yF48_W0) = true := by decide +kernel
set_option maxRecDepth 100000 in
theorem yq48_W0s3 : yzrun yct48_b (xcut [yc48_9, yc48_10]) 215 yt48_W0 ((.var 4195586, 0, 0) :: (.pow (.sub (.num 4194310) (.var 1048960)) 0, 3, 3) :: (.sub (.var 1048960) (.var 1049024), 0, 0) :: (.sub (.var 128) (.var 1048960), 1, 16) :: yF48_W0) = true := by decide +kernel
set_option maxRecDepth 100000 in
theorem yq48_W0s4 : yzrun yct48_b (xcut [yc48_11, yc48_12]) 215 yt48_W0 ((.var 4195650, 0, 0) :: (.pow (.sub (.num 4194310) (.var 1048960)) 0, 4, 4) :: (.sub (.var 1048960) (.var 1049024), 0, 0) :: (.sub (.var 128) (.var 1048960), 1, 16) :: yF48_W0) = true := by decide +kernel
set_option maxRecDepth 100000 in
theorem yq48_W0s5 : yzrun yct48_b (xcut [yc48_13, yc48_14]) 215 yt48_W0 ((.var 4195714, 0, 0) :: (.pow (.sub (.num 4194310) (.var 1048960)) 0, 5, 5) :: (.sub (.var 1048960) (.var 1049024), 0, 0) :: (.sub (.var 128) (.var 1048960), 1, 16) :: yF48_W0) = true := by decide +kernel
set_option maxRecDepth 100000 in
theorem yq48_W0s6 : yzrun yct48_b (xcut [yc48_15, yc48_16]) 215 yt48_W0 ((.var 4195778, 0, 0) :: (.pow (.sub (.num 4194310) (.var 1048960)) 0, 6, 6) :: (.sub (.var 1048960) (.var 1049024), 0, 0) :: (.sub (.var 128) (.var 1048960), 1, 16) :: yF48_W0) = true := by decide +kernel
set_option maxRecDepth 100000 in
theorem yq48_W0s7 : yzrun yct48_b (xcut [yc48_17, yc48_18]) 215 yt48_W0 ((.var 4195842, 0, 0) :: (.pow (.sub (.num 4194310) (.var 1048960)) 0, 7, 7) :: (.sub (.var 1048960) (.var 1049024), 0, 0) :: (.sub (.var 128) (.var 1048960), 1, 16) :: yF48_W0) = true := by decide +kernel
set_option maxRecDepth 100000 in
theorem yq48_C1 : yzrun yct48_a (xcut [yc48_19]) 36 yt48_C1 ((.sub (.var 128) (.pow (.add (.pow (.add (.pow (.add (.pow (.add (.var 1048577) (.num 6364136223846793005)) 38) (.num 1442695040888963407)) 36) (.num 33)) 51) (.var 128)) 40), 1, 16) :: yF48_C1) = true := by decide +kernel
set_option maxRecDepth 100000 in
theorem yq48_W1n : yzrun yct48_a (xcut [yc48_20]) 19 yt48_W1 ((.sub (.var 1048960) (.var 1049024), (-15), (-1)) :: (.sub (.var 128) (.var 1048960), 1, 16) :: yF48_W1) = true := by decide +kernel
set_option maxRecDepth 100000 in
theorem yq48_W1t : yzrun yct48_b (xcut [yc48_21]) 158 yt48_W1 ((.pow (.sub (.num 4194310) (.var 1048960)) 0, (-1), (-1)) :: (.sub (.var 1048960) (.var 1049024), 0, 0) :: (.sub (.var 128) (.var 1048960), 1, 16) :: yF48_W1) = true := by decide +kernel
set_option maxRecDepth 100000 in
theorem yq48_W1s0 : yzrun yct48_a (xcut [yc48_3, yc48_22, yc48_23]) 288 yt48_W1 ((.var 4195394, 0, 0) :: (.pow (.sub (.num 4194310) (.var 1048960)) 0, 0, 0) :: (.sub (.var 1048960) (.var 1049024), 0, 0) :: (.sub (.var 128) (.var 1048960), 1, 16) :: yF48_W1) = true := by decide +kernel
set_option maxRecDepth 100000 in
theorem yq48_W1s1 : yzrun yct48_a (xcut [yc48_5, yc48_24, yc48_25]) 288 yt48_W1 ((.var 4195458, 0, 0) :: (.pow (.sub (.num 4194310) (.var 1048960)) 0, 1, 1) :: (.sub (.var 1048960) (.var 1049024), 0, 0) :: (.sub (.var 128) (.var 1048960), 1, 16) :: yF48_W1) = true := by decide +kernel
set_option maxRecDepth 100000 in
theorem yq48_W1s2 : yzrun yct48_a (xcut [yc48_7, yc48_26, yc48_27]) 288 yt48_W1 ((.var 4195522, 0, 0) :: (.pow (.sub (.num 4194310) (.var 1048960)) 0, 2, 2) :: (.sub (.var 1048960) (.var 1049024), 0, 0) :: (.sub (.var 128) (.var 1048960), 1, 16) :: yF48_W1) = true := by decide +kernel
set_option maxRecDepth 100000 in
theorem yq48_W1s3 : yzrun yct48_a (xcut [yc48_9, yc48_28, yc48_29]) 288 yt48_W1 ((.var 4195586, 0, 0) :: (.pow (.sub (.num 4194310) (.var 1048960)) 0, 3, 3) :: (.sub (.var 1048960) (.var 1049024), 0, 0) :: (.sub (.var 128) (.var 1048960), 1, 16) :: yF48_W1) = true := by decide +kernel
set_option maxRecDepth 100000 in
theorem yq48_W1s4 : yzrun yct48_a (xcut [yc48_11, yc48_30, yc48_31]) 288 yt48_W1 ((.var 4195650, 0, 0) :: (.pow (.sub (.num 4194310) (.var 1048960)) 0, 4, 4) :: (.sub (.var 1048960) (.var 1049024), 0, 0) :: (.sub (.var 128) (.var 1048960), 1, 16) :: yF48_W1) = true := by decide +kernel
set_option maxRecDepth 100000 in
theorem yq48_W1s5 : yzrun yct48_a (xcut [yc48_13, yc48_32, yc48_33]) 288 yt48_W1 ((.var 4195714, 0, 0) :: (.pow (.sub (.num 4194310) (.var 1048960)) 0, 5, 5) :: (.sub (.var 1048960) (.var 1049024), 0, 0) :: (.sub (.var 128) (.var 1048960), 1, 16) :: yF48_W1) = true := by decide +kernel
set_option maxRecDepth 100000 in
theorem yq48_W1s6 : yzrun yct48_a (xcut [yc48_15, yc48_34, yc48_35]) 288 yt48_W1 ((.var 4195778, 0, 0) :: (.pow (.sub (.num 4194310) (.var 1048960)) 0, 6, 6) :: (.sub (.var 1048960) (.var 1049024), 0, 0) :: (.sub (.var 128) (.var 1048960), 1, 16) :: yF48_W1) = true := by decide +kernel
set_option maxRecDepth 100000 in
theorem yq48_C2 : yzrun yct48_a (xcut [yc48_36]) 36 yt48_C2 ((.sub (.var 128) (.pow (.add (.pow (.add (.pow (.add (.pow (.add (.var 1048577) (.num 6364136223846793005)) 38) (.num 1442695040888963407)) 36) (.num 33)) 51) (.var 128)) 40), 1, 16) :: yF48_C2) = true := by decide +kernel
set_option maxRecDepth 100000 in
theorem yq48_W2n : yzrun yct48_a (xcut [yc48_37]) 19 yt48_W2 ((.sub (.var 1048960) (.var 1049024), (-15), (-1)) :: (.sub (.var 128) (.var 1048960), 1, 16) :: yF48_W2) = true := by decide +kernel
end YQ48a
