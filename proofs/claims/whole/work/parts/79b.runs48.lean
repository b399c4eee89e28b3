noncomputable section YQ48b
set_option maxRecDepth 100000 in
theorem yq48_W2t : yzrun yct48_a (xcut [yc48_38, yc48_39]) 252 yt48_W2 ((.pow (.sub (.num 4194310) (.var 1048960)) 0, (-1), (-1)) :: (.sub (.var 1048960) (.var 1049024), 0, 0) :: (.sub (.var 128) (.var 1048960), 1, 16) :: yF48_W2) = true := by decide +kernel
set_option maxRecDepth 100000 in
theorem yq48_W2s0 : yzrun yct48_a (xcut [yc48_3, yc48_40, yc48_23]) 288 yt48_W2 ((.var 4195394, 0, 0) :: (.pow (.sub (.num 4194310) (.var 1048960)) 0, 0, 0) :: (.sub (.var 1048960) (.var 1049024), 0, 0) :: (.sub (.var 128) (.var 1048960), 1, 16) :: yF48_W2) = true := by decide +kernel
set_option maxRecDepth 100000 in
theorem yq48_W2s1 : yzrun yct48_a (xcut [yc48_5, yc48_41, yc48_25]) 288 yt48_W2 ((.var 4195458, 0, 0) :: (.pow (.sub (.num 4194310) (.var 1048960)) 0, 1, 1) :: (.sub (.var 1048960) (.var 1049024), 0, 0) :: (.sub (.var 128) (.var 1048960), 1, 16) :: yF48_W2) = true := by decide +kernel
set_option maxRecDepth 100000 in
theorem yq48_W2s2 : yzrun yct48_a (xcut [yc48_7, yc48_42, yc48_27]) 288 yt48_W2 ((.var 4195522, 0, 0) :: (.pow (.sub (.num 4194310) (.var 1048960)) 0, 2, 2) :: (.sub (.var 1048960) (.var 1049024), 0, 0) :: (.sub (.var 128) (.var 1048960), 1, 16) :: yF48_W2) = true := by decide +kernel
set_option maxRecDepth 100000 in
theorem yq48_W2s3 : yzrun yct48_a (xcut [yc48_9, yc48_43, yc48_29]) 288 yt48_W2 ((.var 4195586, 0, 0) :: (.pow (.sub (.num 4194310) (.var 1048960)) 0, 3, 3) :: (.sub (.var 1048960) (.var 1049024), 0, 0) :: (.sub (.var 128) (.var 1048960), 1, 16) :: yF48_W2) = true := by decide +kernel
set_option maxRecDepth 100000 in
theorem yq48_W2s4 : yzrun yct48_a (xcut [yc48_11, yc48_44, yc48_31]) 288 yt48_W2 ((.var 4195650, 0, 0) :: (.pow (.sub (.num 4194310) (.var 1048960)) 0, 4, 4) :: (.sub (.var 1048960) (.var 1049024), 0, 0) :: (.sub (.var 128) (.var 1048960), 1, 16) :: yF48_W2) = true := by decide +kernel
set_option maxRecDepth 100000 in
theorem yq48_W2s5 : yzrun yct48_a (xcut [yc48_13, yc48_45, yc48_33]) 288 yt48_W2 ((.var 4195714, 0, 0) :: (.pow (.sub (.num 4194310) (.var 1048960)) 0, 5, 5) :: (.sub (.var 1048960) (.var 1049024), 0, 0) :: (.sub (.var 128) (.var 1048960), 1, 16) :: yF48_W2) = true := by decide +kernel
set_option maxRecDepth 100000 in
theorem yq48_C3 : yzrun yct48_a (xcut [yc48_46]) 36 yt48_C3 ((.sub (.var 128) (.pow (.add (.pow (.add (.pow (.add (.pow (.add (.var 1048577) (.num 6364136223846793005)) 38) (.num 1442695040888963407)) 36) (.num 33)) 51) (.var 128)) 40), 1, 16) :: yF48_C3) = true := by decide +kernel
set_option maxRecDepth 100000 in
theorem yq48_W3n : yzrun yct48_a (xcut [yc48_47]) 19 yt48_W3 ((.sub (.var 1048960) (.var 1049024), (-15), (-1)) :: (.sub (.var 128) (.var 1048960), 1, 16) :: yF48_W3) = true := by decide +kernel
set_option maxRecDepth 100000 in
theorem yq48_W3t : yzrun yct48_a (xcut [yc48_48, yc48_49]) 273 yt48_W3 ((.pow (.sub (.num 4194310) (.var 1048960)) 0, (-1), (-1)) :: (.sub (.var 1048960) (.var 1049024), 0, 0) :: (.sub (.var 128) (.var 1048960), 1, 16) :: yF48_W3) = true := by decide +kernel
set_option maxRecDepth 100000 in
theorem yq48_W3s0 : yzrun yct48_a (xcut [yc48_3, yc48_50, yc48_23]) 288 yt48_W3 ((.var 4195394, 0, 0) :: (.pow (.sub (.num 4194310) (.var 1048960)) 0, 0, 0) :: (.sub (.var 1048960) (.var 1049024), 0, 0) :: (.sub (.var 128) (.var 1048960), 1, 16) :: yF48_W3) = true := by decide +kernel
set_option maxRecDepth 100000 in
theorem yq48_W3s1 : yzrun yct48_a (xcut [yc48_5, yc48_51, yc48_25]) 288 yt48_W3 ((.var 4195458, 0, 0) :: (.pow (.sub (.num 4194310) (.var 1048960)) 0, 1, 1) :: (.sub (.var 1048960) (.var 1049024), 0, 0) :: (.sub (.var 128) (.var 1048960), 1, 16) :: yF48_W3) = true := by decide +kernel
set_option maxRecDepth 100000 in
theorem yq48_W3s2 : yzrun yct48_a (xcut [yc48_7, yc48_52, yc48_27]) 288 yt48_W3 ((.var 4195522, 0, 0) :: (.pow (.sub (.num 4194310) (.var 1048960)) 0, 2, 2) :: (.sub (.var 1048960) (.var 1049024), 0, 0) :: (.sub (.var 128) (.var 1048960), 1, 16) :: yF48_W3) = true := by decide +kernel
set_option maxRecDepth 100000 in
theorem yq48_W3s3 : yzrun yct48_a (xcut [yc48_9, yc48_53, yc48_29]) 288 yt48_W3 ((.var 4195586, 0, 0) :: (.pow (.sub (.num 4194310) (.var 1048960)) 0, 3, 3) :: (.sub (.var 1048960) (.var 1049024), 0, 0) :: (.sub (.var 128) (.var 1048960), 1, 16) :: yF48_W3) = true := by decide +kernel
set_option maxRecDepth 100000 in
theorem yq48_W3s4 : yzrun yct48_a (xcut [yc48_11, yc48_54, yc48_31]) 288 yt48_W3 ((.var 4195650, 0, 0) :: (.pow (.sub (.num 4194310) (.var 1048960)) 0, 4, 4) :: (.sub (.var 1048960) (.var 1049024), 0, 0) :: (.sub (.var 128) (.var 1048960), 1, 16) :: yF48_W3) = true := by decide +kernel
set_option maxRecDepth 100000 in
theorem yq48_C4 : yzrun yct48_a (xcut [yc48_55]) 36 yt48_C4 ((.sub (.var 128) (.pow (.add (.pow (.add (.pow (.add (.pow (.add (.var 1048577) (.num 6364136223846793005)) 38) (.num 1442695040888963407)) 36) (.num 33)) 51) (.var 128)) 40), 1, 16) :: yF48_C4) = true := by decide +kernel
set_option maxRecDepth 100000 in
theorem yq48_W4n : yzrun yct48_a (xcut [yc48_56]) 19 yt48_W4 ((.sub (.var 1048960) (.var 1049024), (-15), (-1)) :: (.sub (.var 128) (.var 1048960), 1, 16) :: yF48_W4) = true := by decide +kernel
set_option maxRecDepth 100000 in
theorem yq48_W4t : yzrun yct48_a (xcut [yc48_57, yc48_58]) 294 yt48_W4 ((.pow (.sub (.num 4194310) (.var 1048960)) 0, (-1), (-1)) :: (.sub (.var 1048960) (.var 1049024), 0, 0) :: (.sub (.var 128) (.var 1048960), 1, 16) :: yF48_W4) = true := by decide +kernel
end YQ48b
