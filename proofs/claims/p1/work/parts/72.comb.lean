noncomputable section YP1
variable {L : Nat} {xs : Nat → Int32}
theorem yp_1 (hL : L ≤ 3584) : yzG L xs yxs_11 [(.pow (.add (.var 64) (.num 63)) 17, 1, 1), (.pow (.add (.var 64) (.num 63)) 17, 0, 54), (.var 0, 7, 7), (.var 0, 0, 7)] := yz_end hL yq1_0
theorem yp_2 (hL : L ≤ 3584) : yzG L xs yxs_11 [(.pow (.add (.var 64) (.num 63)) 17, 2, 2), (.pow (.add (.var 64) (.num 63)) 17, 0, 54), (.var 0, 7, 7), (.var 0, 0, 7)] := yz_end hL yq2_0
theorem yp_3 (hL : L ≤ 3584) : yzG L xs yxs_11 [(.pow (.add (.var 64) (.num 63)) 17, 3, 3), (.pow (.add (.var 64) (.num 63)) 17, 0, 54), (.var 0, 7, 7), (.var 0, 0, 7)] := yz_end hL yq3_0
theorem yp_4 (hL : L ≤ 3584) : yzG L xs yxs_11 [(.pow (.add (.var 64) (.num 63)) 17, 4, 4), (.pow (.add (.var 64) (.num 63)) 17, 0, 54), (.var 0, 7, 7), (.var 0, 0, 7)] := yz_end hL yq4_0
theorem yp_7 (hL : L ≤ 3584) : yzG L xs yxs_11 [(.pow (.add (.var 64) (.num 63)) 17, 7, 7), (.pow (.add (.var 64) (.num 63)) 17, 0, 54), (.var 0, 7, 7), (.var 0, 0, 7)] := yz_end hL yq7_0
theorem yp_8 (hL : L ≤ 3584) : yzG L xs yxs_11 [(.pow (.add (.var 64) (.num 63)) 17, 8, 8), (.pow (.add (.var 64) (.num 63)) 17, 0, 54), (.var 0, 7, 7), (.var 0, 0, 7)] := yz_end hL yq8_0
theorem yp_9 (hL : L ≤ 3584) : yzG L xs yxs_11 [(.pow (.add (.var 64) (.num 63)) 17, 9, 9), (.pow (.add (.var 64) (.num 63)) 17, 0, 54), (.var 0, 7, 7), (.var 0, 0, 7)] := yz_end hL yq9_0
theorem yp_10 (hL : L ≤ 3584) : yzG L xs yxs_11 [(.pow (.add (.var 64) (.num 63)) 17, 10, 10), (.pow (.add (.var 64) (.num 63)) 17, 0, 54), (.var 0, 7, 7), (.var 0, 0, 7)] := yz_end hL yq10_0
theorem yp_11 (hL : L ≤ 3584) : yzG L xs yxs_11 [(.pow (.add (.var 64) (.num 63)) 17, 11, 11), (.pow (.add (.var 64) (.num 63)) 17, 0, 54), (.var 0, 7, 7), (.var 0, 0, 7)] := yz_end hL yq11_0
theorem yp_12 (hL : L ≤ 3584) : yzG L xs yxs_11 [(.pow (.add (.var 64) (.num 63)) 17, 12, 12), (.pow (.add (.var 64) (.num 63)) 17, 0, 54), (.var 0, 7, 7), (.var 0, 0, 7)] := yz_end hL yq12_0
theorem yp_13 (hL : L ≤ 3584) : yzG L xs yxs_11 [(.pow (.add (.var 64) (.num 63)) 17, 13, 13), (.pow (.add (.var 64) (.num 63)) 17, 0, 54), (.var 0, 7, 7), (.var 0, 0, 7)] := yz_end hL yq13_0
theorem yp_14 (hL : L ≤ 3584) : yzG L xs yxs_11 [(.pow (.add (.var 64) (.num 63)) 17, 14, 14), (.pow (.add (.var 64) (.num 63)) 17, 0, 54), (.var 0, 7, 7), (.var 0, 0, 7)] := yz_end hL yq14_0
theorem yp_15 (hL : L ≤ 3584) : yzG L xs yxs_11 [(.pow (.add (.var 64) (.num 63)) 17, 15, 15), (.pow (.add (.var 64) (.num 63)) 17, 0, 54), (.var 0, 7, 7), (.var 0, 0, 7)] := yz_split (.var 192) (-2147483648) 3 2147483647 (by decide +kernel) (yz_split (.var 128) (-2147483648) 3 2147483647 (by decide +kernel) (yz_end hL yq15_0) (yz_end hL yq15_1)) (yz_end hL yq15_2)
theorem yp_16 (hL : L ≤ 3584) : yzG L xs yxs_11 [(.pow (.add (.var 64) (.num 63)) 17, 16, 16), (.pow (.add (.var 64) (.num 63)) 17, 0, 54), (.var 0, 7, 7), (.var 0, 0, 7)] := yz_end hL yq16_0
theorem yp_17 (hL : L ≤ 3584) : yzG L xs yxs_11 [(.pow (.add (.var 64) (.num 63)) 17, 17, 17), (.pow (.add (.var 64) (.num 63)) 17, 0, 54), (.var 0, 7, 7), (.var 0, 0, 7)] := yz_end hL yq17_0
theorem yp_19 (hL : L ≤ 3584) : yzG L xs yxs_11 [(.pow (.add (.var 64) (.num 63)) 17, 19, 19), (.pow (.add (.var 64) (.num 63)) 17, 0, 54), (.var 0, 7, 7), (.var 0, 0, 7)] := yz_end hL yq19_0
theorem yp_20 (hL : L ≤ 3584) : yzG L xs yxs_11 [(.pow (.add (.var 64) (.num 63)) 17, 20, 20), (.pow (.add (.var 64) (.num 63)) 17, 0, 54), (.var 0, 7, 7), (.var 0, 0, 7)] := yz_end hL yq20_0
theorem yp_21 (hL : L ≤ 3584) : yzG L xs yxs_11 [(.pow (.add (.var 64) (.num 63)) 17, 21, 21), (.pow (.add (.var 64) (.num 63)) 17, 0, 54), (.var 0, 7, 7), (.var 0, 0, 7)] := yz_split (.var 128) (-2147483648) 5 2147483647 (by decide +kernel) (yz_split (.var 192) (-2147483648) 3 2147483647 (by decide +kernel) (yz_split (.var 128) (-2147483648) 2 5 (by decide +kernel) (yz_end hL yq21_0) (yz_end hL yq21_1)) (yz_split (.var 128) (-2147483648) 2 5 (by decide +kernel) (yz_end hL yq21_2) (yz_end hL yq21_3))) (yz_split (.var 192) (-2147483648) 3 2147483647 (by decide +kernel) (yz_split (.var 128) 6 8 2147483647 (by decide +kernel) (yz_end hL yq21_4) (yz_end hL yq21_5)) (yz_split (.var 128) 6 8 2147483647 (by decide +kernel) (yz_end hL yq21_6) (yz_end hL yq21_7)))
theorem yp_23 (hL : L ≤ 3584) : yzG L xs yxs_11 [(.pow (.add (.var 64) (.num 63)) 17, 23, 23), (.pow (.add (.var 64) (.num 63)) 17, 0, 54), (.var 0, 7, 7), (.var 0, 0, 7)] := yz_end hL yq23_0
theorem yp_24 (hL : L ≤ 3584) : yzG L xs yxs_11 [(.pow (.add (.var 64) (.num 63)) 17, 24, 24), (.pow (.add (.var 64) (.num 63)) 17, 0, 54), (.var 0, 7, 7), (.var 0, 0, 7)] := yz_end hL yq24_0
theorem yp_25 (hL : L ≤ 3584) : yzG L xs yxs_11 [(.pow (.add (.var 64) (.num 63)) 17, 25, 25), (.pow (.add (.var 64) (.num 63)) 17, 0, 54), (.var 0, 7, 7), (.var 0, 0, 7)] := yz_end hL yq25_0
theorem yp_26 (hL : L ≤ 3584) : yzG L xs yxs_11 [(.pow (.add (.var 64) (.num 63)) 17, 26, 26), (.pow (.add (.var 64) (.num 63)) 17, 0, 54), (.var 0, 7, 7), (.var 0, 0, 7)] := yz_end hL yq26_0
theorem yp_27 (hL : L ≤ 3584) : yzG L xs yxs_11 [(.pow (.add (.var 64) (.num 63)) 17, 27, 27), (.pow (.add (.var 64) (.num 63)) 17, 0, 54), (.var 0, 7, 7), (.var 0, 0, 7)] := yz_split (.var 128) (-2147483648) 5 2147483647 (by decide +kernel) (yz_split (.var 192) (-2147483648) 3 2147483647 (by decide +kernel) (yz_end hL yq27_0) (yz_end hL yq27_1)) (yz_split (.var 192) (-2147483648) 3 2147483647 (by decide +kernel) (yz_end hL yq27_2) (yz_end hL yq27_3))
theorem yp_28 (hL : L ≤ 3584) : yzG L xs yxs_11 [(.pow (.add (.var 64) (.num 63)) 17, 28, 28), (.pow (.add (.var 64) (.num 63)) 17, 0, 54), (.var 0, 7, 7), (.var 0, 0, 7)] := yz_end hL yq28_0
theorem yp_29 (hL : L ≤ 3584) : yzG L xs yxs_11 [(.pow (.add (.var 64) (.num 63)) 17, 29, 29), (.pow (.add (.var 64) (.num 63)) 17, 0, 54), (.var 0, 7, 7), (.var 0, 0, 7)] := yz_end hL yq29_0
theorem yp_30 (hL : L ≤ 3584) : yzG L xs yxs_11 [(.pow (.add (.var 64) (.num 63)) 17, 30, 30), (.pow (.add (.var 64) (.num 63)) 17, 0, 54), (.var 0, 7, 7), (.var 0, 0, 7)] := yz_split (.var 128) (-2147483648) 5 2147483647 (by decide +kernel) (yz_end hL yq30_0) (yz_end hL yq30_1)
theorem yp_31 (hL : L ≤ 3584) : yzG L xs yxs_11 [(.pow (.add (.var 64) (.num 63)) 17, 31, 31), (.pow (.add (.var 64) (.num 63)) 17, 0, 54), (.var 0, 7, 7), (.var 0, 0, 7)] := yz_end hL yq31_0
theorem yp_32 (hL : L ≤ 3584) : yzG L xs yxs_11 [(.pow (.add (.var 64) (.num 63)) 17, 32, 32), (.pow (.add (.var 64) (.num 63)) 17, 0, 54), (.var 0, 7, 7), (.var 0, 0, 7)] := yz_split (.var 128) (-2147483648) 5 2147483647 (by decide +kernel) (yz_split (.var 128) (-2147483648) 2 5 (by decide +kernel) (yz_split (.var 128) (-2147483648) 0 2 (by decide +kernel) (yz_end hL yq32_0) (yz_split (.var 128) 1 1 2 (by decide +kernel) (yz_end hL yq32_1) (yz_end hL yq32_2))) (yz_split (.var 128) 3 3 5 (by decide +kernel) (yz_end hL yq32_3) (yz_split (.var 128) 4 4 5 (by decide +kernel) (yz_end hL yq32_4) (yz_end hL yq32_5)))) (yz_split (.var 128) 6 8 2147483647 (by decide +kernel) (yz_split (.var 128) 6 6 8 (by decide +kernel) (yz_end hL yq32_6) (yz_split (.var 128) 7 7 8 (by decide +kernel) (yz_end hL yq32_7) (yz_end hL yq32_8))) (yz_split (.var 128) 9 10 2147483647 (by decide +kernel) (yz_split (.var 128) 9 9 10 (by decide +kernel) (yz_end hL yq32_9) (yz_end hL yq32_10)) (yz_end hL yq32_11)))
theorem yp_33 (hL : L ≤ 3584) : yzG L xs yxs_11 [(.pow (.add (.var 64) (.num 63)) 17, 33, 33), (.pow (.add (.var 64) (.num 63)) 17, 0, 54), (.var 0, 7, 7), (.var 0, 0, 7)] := yz_end hL yq33_0
theorem yp_34 (hL : L ≤ 3584) : yzG L xs yxs_11 [(.pow (.add (.var 64) (.num 63)) 17, 34, 34), (.pow (.add (.var 64) (.num 63)) 17, 0, 54), (.var 0, 7, 7), (.var 0, 0, 7)] := yz_end hL yq34_0
theorem yp_35 (hL : L ≤ 3584) : yzG L xs yxs_11 [(.pow (.add (.var 64) (.num 63)) 17, 35, 35), (.pow (.add (.var 64) (.num 63)) 17, 0, 54), (.var 0, 7, 7), (.var 0, 0, 7)] := yz_split (.var 128) (-2147483648) 3 2147483647 (by decide +kernel) (yz_split (.var 128) (-2147483648) 1 3 (by decide +kernel) (yz_split (.var 128) (-2147483648) 0 1 (by decide +kernel) (yz_end hL yq35_0) (yz_end hL yq35_1)) (yz_split (.var 128) 2 2 3 (by decide +kernel) (yz_end hL yq35_2) (yz_end hL yq35_3))) (yz_split (.var 128) 4 7 2147483647 (by decide +kernel) (yz_split (.var 128) 4 5 7 (by decide +kernel) (yz_split (.var 128) 4 4 5 (by decide +kernel) (yz_end hL yq35_4) (yz_end hL yq35_5)) (yz_split (.var 128) 6 6 7 (by decide +kernel) (yz_end hL yq35_6) (yz_end hL yq35_7))) (yz_end hL yq35_8))
theorem yp_36 (hL : L ≤ 3584) : yzG L xs yxs_11 [(.pow (.add (.var 64) (.num 63)) 17, 36, 36), (.pow (.add (.var 64) (.num 63)) 17, 0, 54), (.var 0, 7, 7), (.var 0, 0, 7)] := yz_end hL yq36_0
theorem yp_37 (hL : L ≤ 3584) : yzG L xs yxs_11 [(.pow (.add (.var 64) (.num 63)) 17, 37, 37), (.pow (.add (.var 64) (.num 63)) 17, 0, 54), (.var 0, 7, 7), (.var 0, 0, 7)] := yz_end hL yq37_0
theorem yp_38 (hL : L ≤ 3584) : yzG L xs yxs_11 [(.pow (.add (.var 64) (.num 63)) 17, 38, 38), (.pow (.add (.var 64) (.num 63)) 17, 0, 54), (.var 0, 7, 7), (.var 0, 0, 7)] := yz_end hL yq38_0
theorem yp_39 (hL : L ≤ 3584) : yzG L xs yxs_11 [(.pow (.add (.var 64) (.num 63)) 17, 39, 39), (.pow (.add (.var 64) (.num 63)) 17, 0, 54), (.var 0, 7, 7), (.var 0, 0, 7)] := yz_end hL yq39_0
theorem yp_40 (hL : L ≤ 3584) : yzG L xs yxs_11 [(.pow (.add (.var 64) (.num 63)) 17, 40, 40), (.pow (.add (.var 64) (.num 63)) 17, 0, 54), (.var 0, 7, 7), (.var 0, 0, 7)] := yz_end hL yq40_0
theorem yp_41 (hL : L ≤ 3584) : yzG L xs yxs_11 [(.pow (.add (.var 64) (.num 63)) 17, 41, 41), (.pow (.add (.var 64) (.num 63)) 17, 0, 54), (.var 0, 7, 7), (.var 0, 0, 7)] := yz_end hL yq41_0
theorem yp_43 (hL : L ≤ 3584) : yzG L xs yxs_11 [(.pow (.add (.var 64) (.num 63)) 17, 43, 43), (.pow (.add (.var 64) (.num 63)) 17, 0, 54), (.var 0, 7, 7), (.var 0, 0, 7)] := yz_split (.var 128) (-2147483648) 5 2147483647 (by decide +kernel) (yz_end hL yq43_0) (yz_end hL yq43_1)
theorem yp_44 (hL : L ≤ 3584) : yzG L xs yxs_11 [(.pow (.add (.var 64) (.num 63)) 17, 44, 44), (.pow (.add (.var 64) (.num 63)) 17, 0, 54), (.var 0, 7, 7), (.var 0, 0, 7)] := yz_end hL yq44_0
theorem yp_45 (hL : L ≤ 3584) : yzG L xs yxs_11 [(.pow (.add (.var 64) (.num 63)) 17, 45, 45), (.pow (.add (.var 64) (.num 63)) 17, 0, 54), (.var 0, 7, 7), (.var 0, 0, 7)] := yz_end hL yq45_0
theorem yp_46 (hL : L ≤ 3584) : yzG L xs yxs_11 [(.pow (.add (.var 64) (.num 63)) 17, 46, 46), (.pow (.add (.var 64) (.num 63)) 17, 0, 54), (.var 0, 7, 7), (.var 0, 0, 7)] := yz_end hL yq46_0
theorem yp_47 (hL : L ≤ 3584) : yzG L xs yxs_11 [(.pow (.add (.var 64) (.num 63)) 17, 47, 47), (.pow (.add (.var 64) (.num 63)) 17, 0, 54), (.var 0, 7, 7), (.var 0, 0, 7)] := yz_end hL yq47_0
theorem yp_49 (hL : L ≤ 3584) : yzG L xs yxs_11 [(.pow (.add (.var 64) (.num 63)) 17, 49, 49), (.pow (.add (.var 64) (.num 63)) 17, 0, 54), (.var 0, 7, 7), (.var 0, 0, 7)] := yz_end hL yq49_0
theorem yp_50 (hL : L ≤ 3584) : yzG L xs yxs_11 [(.pow (.add (.var 64) (.num 63)) 17, 50, 50), (.pow (.add (.var 64) (.num 63)) 17, 0, 54), (.var 0, 7, 7), (.var 0, 0, 7)] := yz_end hL yq50_0
theorem yp_51 (hL : L ≤ 3584) : yzG L xs yxs_11 [(.pow (.add (.var 64) (.num 63)) 17, 51, 51), (.pow (.add (.var 64) (.num 63)) 17, 0, 54), (.var 0, 7, 7), (.var 0, 0, 7)] := yz_end hL yq51_0
theorem yp_52 (hL : L ≤ 3584) : yzG L xs yxs_11 [(.pow (.add (.var 64) (.num 63)) 17, 52, 52), (.pow (.add (.var 64) (.num 63)) 17, 0, 54), (.var 0, 7, 7), (.var 0, 0, 7)] := yz_split (.var 192) (-2147483648) 1 2147483647 (by decide +kernel) (yz_split (.var 192) (-2147483648) 0 1 (by decide +kernel) (yz_split (.var 128) (-2147483648) 0 2147483647 (by decide +kernel) (yz_end hL yq52_0) (yz_split (.var 128) 1 1 2147483647 (by decide +kernel) (yz_split (.var 256) (-2147483648) 1 2147483647 (by decide +kernel) (yz_end hL yq52_1) (yz_split (.var 256) 2 2 2147483647 (by decide +kernel) (yz_split (.var 192) (-2147483648) (-1) 0 (by decide +kernel) (yz_end hL yq52_2) (yz_end hL yq52_3)) (yz_end hL yq52_4))) (yz_end hL yq52_5))) (yz_split (.var 256) (-2147483648) 1 2147483647 (by decide +kernel) (yz_end hL yq52_6) (yz_split (.var 128) (-2147483648) 0 2147483647 (by decide +kernel) (yz_end hL yq52_7) (yz_split (.var 128) 1 1 2147483647 (by decide +kernel) (yz_split (.var 256) 2 2 2147483647 (by decide +kernel) (yz_end hL yq52_8) (yz_end hL yq52_9)) (yz_end hL yq52_10))))) (yz_split (.var 192) 2 2 2147483647 (by decide +kernel) (yz_split (.var 256) (-2147483648) 1 2147483647 (by decide +kernel) (yz_end hL yq52_11) (yz_split (.var 128) (-2147483648) 0 2147483647 (by decide +kernel) (yz_end hL yq52_12) (yz_split (.var 128) 1 1 2147483647 (by decide +kernel) (yz_split (.var 256) 2 2 2147483647 (by decide +kernel) (yz_end hL yq52_13) (yz_end hL yq52_14)) (yz_end hL yq52_15)))) (yz_split (.var 192) 3 3 2147483647 (by decide +kernel) (yz_split (.var 256) (-2147483648) 1 2147483647 (by decide +kernel) (yz_end hL yq52_16) (yz_split (.var 128) (-2147483648) 0 2147483647 (by decide +kernel) (yz_end hL yq52_17) (yz_split (.var 128) 1 1 2147483647 (by decide +kernel) (yz_split (.var 256) 2 2 2147483647 (by decide +kernel) (yz_end hL yq52_18) (yz_end hL yq52_19)) (yz_end hL yq52_20)))) (yz_end hL yq52_21)))
theorem yp_53 (hL : L ≤ 3584) : yzG L xs yxs_11 [(.pow (.add (.var 64) (.num 63)) 17, 53, 53), (.pow (.add (.var 64) (.num 63)) 17, 0, 54), (.var 0, 7, 7), (.var 0, 0, 7)] := yz_end hL yq53_0
theorem yp_55 (hL : L ≤ 3584) : yzG L xs yxs_11 [(.pow (.add (.var 64) (.num 63)) 17, 55, 63), (.var 0, 7, 7), (.var 0, 0, 7)] := yz_end hL yq55_0
theorem yp_56 (hL : L ≤ 3584) : yzG L xs yxs_11 [(.var 0, 0, 6), (.var 0, 0, 7)] := yz_end hL yq56_0
theorem yL5_0 (hL : L ≤ 3584) : ∀ g ∈ [yg5_0], yzG L xs g.1.1 g.1.2.2.2.1 := yz_loop hL (ext := []) (fun _ hc => absurd hc List.not_mem_nil) (by decide) (by
  intro g hg
  simp only [List.mem_cons, List.not_mem_nil, or_false] at hg
  rcases hg with rfl
  · exact yq5_h0)
theorem yH5_0 (hL : L ≤ 3584) : yzG L xs yg5_0.1.1 yg5_0.1.2.2.2.1 := yL5_0 hL _ List.mem_cons_self
theorem yp_5_0 (hL : L ≤ 3584) : yzG L xs yxs_11 [(.var 128, (-2147483648), (-1)), (.pow (.add (.var 64) (.num 63)) 17, 5, 5), (.pow (.add (.var 64) (.num 63)) 17, 0, 54), (.var 0, 7, 7), (.var 0, 0, 7)] := yz_to hL yq5_s0 (fun _ hc => absurd hc List.not_mem_nil)
theorem yp_5_1 (hL : L ≤ 3584) : yzG L xs yxs_11 [(.var 128, 0, 0), (.var 128, 0, 1), (.var 128, 0, 3), (.var 128, 0, 7), (.var 128, 0, 2147483647), (.pow (.add (.var 64) (.num 63)) 17, 5, 5), (.pow (.add (.var 64) (.num 63)) 17, 0, 54), (.var 0, 7, 7), (.var 0, 0, 7)] := yz_to hL yq5_s1 (by
  intro c hc
  simp only [List.mem_cons, List.not_mem_nil, or_false] at hc
  rcases hc with rfl
  · exact yH5_0 hL)
theorem yp_5_2 (hL : L ≤ 3584) : yzG L xs yxs_11 [(.var 128, 1, 1), (.var 128, 0, 1), (.var 128, 0, 3), (.var 128, 0, 7), (.var 128, 0, 2147483647), (.pow (.add (.var 64) (.num 63)) 17, 5, 5), (.pow (.add (.var 64) (.num 63)) 17, 0, 54), (.var 0, 7, 7), (.var 0, 0, 7)] := yz_to hL yq5_s2 (by
  intro c hc
  simp only [List.mem_cons, List.not_mem_nil, or_false] at hc
  rcases hc with rfl
  · exact yH5_0 hL)
theorem yp_5_3 (hL : L ≤ 3584) : yzG L xs yxs_11 [(.var 128, 2, 2), (.var 128, 2, 3), (.var 128, 0, 3), (.var 128, 0, 7), (.var 128, 0, 2147483647), (.pow (.add (.var 64) (.num 63)) 17, 5, 5), (.pow (.add (.var 64) (.num 63)) 17, 0, 54), (.var 0, 7, 7), (.var 0, 0, 7)] := yz_to hL yq5_s3 (by
  intro c hc
  simp only [List.mem_cons, List.not_mem_nil, or_false] at hc
  rcases hc with rfl
  · exact yH5_0 hL)
theorem yp_5_4 (hL : L ≤ 3584) : yzG L xs yxs_11 [(.var 128, 3, 3), (.var 128, 2, 3), (.var 128, 0, 3), (.var 128, 0, 7), (.var 128, 0, 2147483647), (.pow (.add (.var 64) (.num 63)) 17, 5, 5), (.pow (.add (.var 64) (.num 63)) 17, 0, 54), (.var 0, 7, 7), (.var 0, 0, 7)] := yz_to hL yq5_s4 (by
  intro c hc
  simp only [List.mem_cons, List.not_mem_nil, or_false] at hc
  rcases hc with rfl
  · exact yH5_0 hL)
theorem yp_5_5 (hL : L ≤ 3584) : yzG L xs yxs_11 [(.var 128, 4, 4), (.var 128, 4, 5), (.var 128, 4, 7), (.var 128, 0, 7), (.var 128, 0, 2147483647), (.pow (.add (.var 64) (.num 63)) 17, 5, 5), (.pow (.add (.var 64) (.num 63)) 17, 0, 54), (.var 0, 7, 7), (.var 0, 0, 7)] := yz_to hL yq5_s5 (by
  intro c hc
  simp only [List.mem_cons, List.not_mem_nil, or_false] at hc
  rcases hc with rfl
  · exact yH5_0 hL)
theorem yp_5_6 (hL : L ≤ 3584) : yzG L xs yxs_11 [(.var 128, 5, 5), (.var 128, 4, 5), (.var 128, 4, 7), (.var 128, 0, 7), (.var 128, 0, 2147483647), (.pow (.add (.var 64) (.num 63)) 17, 5, 5), (.pow (.add (.var 64) (.num 63)) 17, 0, 54), (.var 0, 7, 7), (.var 0, 0, 7)] := yz_to hL yq5_s6 (by
  intro c hc
  simp only [List.mem_cons, List.not_mem_nil, or_false] at hc
  rcases hc with rfl
  · exact yH5_0 hL)
theorem yp_5_7 (hL : L ≤ 3584) : yzG L xs yxs_11 [(.var 128, 6, 6), (.var 128, 6, 7), (.var 128, 4, 7), (.var 128, 0, 7), (.var 128, 0, 2147483647), (.pow (.add (.var 64) (.num 63)) 17, 5, 5), (.pow (.add (.var 64) (.num 63)) 17, 0, 54), (.var 0, 7, 7), (.var 0, 0, 7)] := yz_to hL yq5_s7 (by
  intro c hc
  simp only [List.mem_cons, List.not_mem_nil, or_false] at hc
  rcases hc with rfl
  · exact yH5_0 hL)
theorem yp_5_8 (hL : L ≤ 3584) : yzG L xs yxs_11 [(.var 128, 7, 7), (.var 128, 6, 7), (.var 128, 4, 7), (.var 128, 0, 7), (.var 128, 0, 2147483647), (.pow (.add (.var 64) (.num 63)) 17, 5, 5), (.pow (.add (.var 64) (.num 63)) 17, 0, 54), (.var 0, 7, 7), (.var 0, 0, 7)] := yz_to hL yq5_s8 (by
  intro c hc
  simp only [List.mem_cons, List.not_mem_nil, or_false] at hc
  rcases hc with rfl
  · exact yH5_0 hL)
theorem yp_5_9 (hL : L ≤ 3584) : yzG L xs yxs_11 [(.var 128, 8, 2147483647), (.var 128, 0, 2147483647), (.pow (.add (.var 64) (.num 63)) 17, 5, 5), (.pow (.add (.var 64) (.num 63)) 17, 0, 54), (.var 0, 7, 7), (.var 0, 0, 7)] := yz_to hL yq5_s9 (fun _ hc => absurd hc List.not_mem_nil)
theorem yp_5 (hL : L ≤ 3584) : yzG L xs yxs_11 [(.pow (.add (.var 64) (.num 63)) 17, 5, 5), (.pow (.add (.var 64) (.num 63)) 17, 0, 54), (.var 0, 7, 7), (.var 0, 0, 7)] := yz_split (.var 128) (-2147483648) (-1) 2147483647 (by decide +kernel) (yp_5_0 hL) (yz_split (.var 128) 0 7 2147483647 (by decide +kernel) (yz_split (.var 128) 0 3 7 (by decide +kernel) (yz_split (.var 128) 0 1 3 (by decide +kernel) (yz_split (.var 128) 0 0 1 (by decide +kernel) (yp_5_1 hL) (yp_5_2 hL)) (yz_split (.var 128) 2 2 3 (by decide +kernel) (yp_5_3 hL) (yp_5_4 hL))) (yz_split (.var 128) 4 5 7 (by decide +kernel) (yz_split (.var 128) 4 4 5 (by decide +kernel) (yp_5_5 hL) (yp_5_6 hL)) (yz_split (.var 128) 6 6 7 (by decide +kernel) (yp_5_7 hL) (yp_5_8 hL)))) (yp_5_9 hL))
theorem yL0_8 (hL : L ≤ 3584) : ∀ g ∈ [yg0_8], yzG L xs g.1.1 g.1.2.2.2.1 := yz_loop hL (ext := []) (fun _ hc => absurd hc List.not_mem_nil) (by decide) (by
  intro g hg
  simp only [List.mem_cons, List.not_mem_nil, or_false] at hg
  rcases hg with rfl
  · exact yq0_h8)
theorem yH0_8 (hL : L ≤ 3584) : yzG L xs yg0_8.1.1 yg0_8.1.2.2.2.1 := yL0_8 hL _ List.mem_cons_self
theorem yL0_0 (hL : L ≤ 3584) : ∀ g ∈ [yg0_0], yzG L xs g.1.1 g.1.2.2.2.1 := yz_loop hL (ext := [yg0_8.1]) (by
  intro c hc
  simp only [List.mem_cons, List.not_mem_nil, or_false] at hc
  rcases hc with rfl
  · exact yH0_8 hL) (by decide) (by
  intro g hg
  simp only [List.mem_cons, List.not_mem_nil, or_false] at hg
  rcases hg with rfl
  · exact yq0_h0)
theorem yH0_0 (hL : L ≤ 3584) : yzG L xs yg0_0.1.1 yg0_0.1.2.2.2.1 := yL0_0 hL _ List.mem_cons_self
theorem yL0_1 (hL : L ≤ 3584) : ∀ g ∈ [yg0_1], yzG L xs g.1.1 g.1.2.2.2.1 := yz_loop hL (ext := [yg0_8.1]) (by
  intro c hc
  simp only [List.mem_cons, List.not_mem_nil, or_false] at hc
  rcases hc with rfl
  · exact yH0_8 hL) (by decide) (by
  intro g hg
  simp only [List.mem_cons, List.not_mem_nil, or_false] at hg
  rcases hg with rfl
  · exact yq0_h1)
theorem yH0_1 (hL : L ≤ 3584) : yzG L xs yg0_1.1.1 yg0_1.1.2.2.2.1 := yL0_1 hL _ List.mem_cons_self
theorem yL0_2 (hL : L ≤ 3584) : ∀ g ∈ [yg0_2], yzG L xs g.1.1 g.1.2.2.2.1 := yz_loop hL (ext := [yg0_8.1]) (by
  intro c hc
  simp only [List.mem_cons, List.not_mem_nil, or_false] at hc
  rcases hc with rfl
  · exact yH0_8 hL) (by decide) (by
  intro g hg
  simp only [List.mem_cons, List.not_mem_nil, or_false] at hg
  rcases hg with rfl
  · exact yq0_h2)
theorem yH0_2 (hL : L ≤ 3584) : yzG L xs yg0_2.1.1 yg0_2.1.2.2.2.1 := yL0_2 hL _ List.mem_cons_self
theorem yL0_3 (hL : L ≤ 3584) : ∀ g ∈ [yg0_3], yzG L xs g.1.1 g.1.2.2.2.1 := yz_loop hL (ext := [yg0_8.1]) (by
  intro c hc
  simp only [List.mem_cons, List.not_mem_nil, or_false] at hc
  rcases hc with rfl
  · exact yH0_8 hL) (by decide) (by
  intro g hg
  simp only [List.mem_cons, List.not_mem_nil, or_false] at hg
  rcases hg with rfl
  · exact yq0_h3)
theorem yH0_3 (hL : L ≤ 3584) : yzG L xs yg0_3.1.1 yg0_3.1.2.2.2.1 := yL0_3 hL _ List.mem_cons_self
theorem yL0_4 (hL : L ≤ 3584) : ∀ g ∈ [yg0_4], yzG L xs g.1.1 g.1.2.2.2.1 := yz_loop hL (ext := [yg0_8.1]) (by
  intro c hc
  simp only [List.mem_cons, List.not_mem_nil, or_false] at hc
  rcases hc with rfl
  · exact yH0_8 hL) (by decide) (by
  intro g hg
  simp only [List.mem_cons, List.not_mem_nil, or_false] at hg
  rcases hg with rfl
  · exact yq0_h4)
theorem yH0_4 (hL : L ≤ 3584) : yzG L xs yg0_4.1.1 yg0_4.1.2.2.2.1 := yL0_4 hL _ List.mem_cons_self
theorem yL0_5 (hL : L ≤ 3584) : ∀ g ∈ [yg0_5], yzG L xs g.1.1 g.1.2.2.2.1 := yz_loop hL (ext := [yg0_8.1]) (by
  intro c hc
  simp only [List.mem_cons, List.not_mem_nil, or_false] at hc
  rcases hc with rfl
  · exact yH0_8 hL) (by decide) (by
  intro g hg
  simp only [List.mem_cons, List.not_mem_nil, or_false] at hg
  rcases hg with rfl
  · exact yq0_h5)
theorem yH0_5 (hL : L ≤ 3584) : yzG L xs yg0_5.1.1 yg0_5.1.2.2.2.1 := yL0_5 hL _ List.mem_cons_self
theorem yL0_6 (hL : L ≤ 3584) : ∀ g ∈ [yg0_6], yzG L xs g.1.1 g.1.2.2.2.1 := yz_loop hL (ext := [yg0_8.1]) (by
  intro c hc
  simp only [List.mem_cons, List.not_mem_nil, or_false] at hc
  rcases hc with rfl
  · exact yH0_8 hL) (by decide) (by
  intro g hg
  simp only [List.mem_cons, List.not_mem_nil, or_false] at hg
  rcases hg with rfl
  · exact yq0_h6)
theorem yH0_6 (hL : L ≤ 3584) : yzG L xs yg0_6.1.1 yg0_6.1.2.2.2.1 := yL0_6 hL _ List.mem_cons_self
theorem yL0_7 (hL : L ≤ 3584) : ∀ g ∈ [yg0_7], yzG L xs g.1.1 g.1.2.2.2.1 := yz_loop hL (ext := [yg0_8.1]) (by
  intro c hc
  simp only [List.mem_cons, List.not_mem_nil, or_false] at hc
  rcases hc with rfl
  · exact yH0_8 hL) (by decide) (by
  intro g hg
  simp only [List.mem_cons, List.not_mem_nil, or_false] at hg
  rcases hg with rfl
  · exact yq0_h7)
theorem yH0_7 (hL : L ≤ 3584) : yzG L xs yg0_7.1.1 yg0_7.1.2.2.2.1 := yL0_7 hL _ List.mem_cons_self
theorem yp_0_0 (hL : L ≤ 3584) : yzG L xs yxs_11 [(.pow (.add (.var 64) (.num 63)) 17, 0, 0), (.pow (.add (.var 64) (.num 63)) 17, 0, 54), (.var 0, 7, 7), (.var 0, 0, 7)] := yz_to hL yq0_s0 (by
  intro c hc
  simp only [List.mem_cons, List.not_mem_nil, or_false] at hc
  rcases hc with rfl | rfl | rfl | rfl | rfl | rfl | rfl | rfl
  · exact yH0_0 hL
  · exact yH0_1 hL
  · exact yH0_2 hL
  · exact yH0_3 hL
  · exact yH0_4 hL
  · exact yH0_5 hL
  · exact yH0_6 hL
  · exact yH0_7 hL)
theorem yp_0 (hL : L ≤ 3584) : yzG L xs yxs_11 [(.pow (.add (.var 64) (.num 63)) 17, 0, 0), (.pow (.add (.var 64) (.num 63)) 17, 0, 54), (.var 0, 7, 7), (.var 0, 0, 7)] := yp_0_0 hL
theorem yL6_4 (hL : L ≤ 3584) : ∀ g ∈ [yg6_4], yzG L xs g.1.1 g.1.2.2.2.1 := yz_loop hL (ext := []) (fun _ hc => absurd hc List.not_mem_nil) (by decide) (by
  intro g hg
  simp only [List.mem_cons, List.not_mem_nil, or_false] at hg
  rcases hg with rfl
  · exact yq6_h4)
theorem yH6_4 (hL : L ≤ 3584) : yzG L xs yg6_4.1.1 yg6_4.1.2.2.2.1 := yL6_4 hL _ List.mem_cons_self
theorem yL6_0 (hL : L ≤ 3584) : ∀ g ∈ [yg6_0], yzG L xs g.1.1 g.1.2.2.2.1 := yz_loop hL (ext := [yg6_4.1]) (by
  intro c hc
  simp only [List.mem_cons, List.not_mem_nil, or_false] at hc
  rcases hc with rfl
  · exact yH6_4 hL) (by decide) (by
  intro g hg
  simp only [List.mem_cons, List.not_mem_nil, or_false] at hg
  rcases hg with rfl
  · exact yq6_h0)
theorem yH6_0 (hL : L ≤ 3584) : yzG L xs yg6_0.1.1 yg6_0.1.2.2.2.1 := yL6_0 hL _ List.mem_cons_self
theorem yL6_1 (hL : L ≤ 3584) : ∀ g ∈ [yg6_1], yzG L xs g.1.1 g.1.2.2.2.1 := yz_loop hL (ext := [yg6_4.1]) (by
  intro c hc
  simp only [List.mem_cons, List.not_mem_nil, or_false] at hc
  rcases hc with rfl
  · exact yH6_4 hL) (by decide) (by
  intro g hg
  simp only [List.mem_cons, List.not_mem_nil, or_false] at hg
  rcases hg with rfl
  · exact yq6_h1)
theorem yH6_1 (hL : L ≤ 3584) : yzG L xs yg6_1.1.1 yg6_1.1.2.2.2.1 := yL6_1 hL _ List.mem_cons_self
theorem yL6_2 (hL : L ≤ 3584) : ∀ g ∈ [yg6_2], yzG L xs g.1.1 g.1.2.2.2.1 := yz_loop hL (ext := [yg6_4.1]) (by
  intro c hc
  simp only [List.mem_cons, List.not_mem_nil, or_false] at hc
  rcases hc with rfl
  · exact yH6_4 hL) (by decide) (by
  intro g hg
  simp only [List.mem_cons, List.not_mem_nil, or_false] at hg
  rcases hg with rfl
  · exact yq6_h2)
theorem yH6_2 (hL : L ≤ 3584) : yzG L xs yg6_2.1.1 yg6_2.1.2.2.2.1 := yL6_2 hL _ List.mem_cons_self
theorem yL6_3 (hL : L ≤ 3584) : ∀ g ∈ [yg6_3], yzG L xs g.1.1 g.1.2.2.2.1 := yz_loop hL (ext := [yg6_4.1]) (by
  intro c hc
  simp only [List.mem_cons, List.not_mem_nil, or_false] at hc
  rcases hc with rfl
  · exact yH6_4 hL) (by decide) (by
  intro g hg
  simp only [List.mem_cons, List.not_mem_nil, or_false] at hg
  rcases hg with rfl
  · exact yq6_h3)
theorem yH6_3 (hL : L ≤ 3584) : yzG L xs yg6_3.1.1 yg6_3.1.2.2.2.1 := yL6_3 hL _ List.mem_cons_self
theorem yp_6_0 (hL : L ≤ 3584) : yzG L xs yxs_11 [(.pow (.add (.var 64) (.num 63)) 17, 6, 6), (.pow (.add (.var 64) (.num 63)) 17, 0, 54), (.var 0, 7, 7), (.var 0, 0, 7)] := yz_to hL yq6_s0 (by
  intro c hc
  simp only [List.mem_cons, List.not_mem_nil, or_false] at hc
  rcases hc with rfl | rfl | rfl | rfl
  · exact yH6_0 hL
  · exact yH6_1 hL
  · exact yH6_2 hL
  · exact yH6_3 hL)
theorem yp_6 (hL : L ≤ 3584) : yzG L xs yxs_11 [(.pow (.add (.var 64) (.num 63)) 17, 6, 6), (.pow (.add (.var 64) (.num 63)) 17, 0, 54), (.var 0, 7, 7), (.var 0, 0, 7)] := yp_6_0 hL
theorem yL18_2 (hL : L ≤ 3584) : ∀ g ∈ [yg18_2], yzG L xs g.1.1 g.1.2.2.2.1 := yz_loop hL (ext := []) (fun _ hc => absurd hc List.not_mem_nil) (by decide) (by
  intro g hg
  simp only [List.mem_cons, List.not_mem_nil, or_false] at hg
  rcases hg with rfl
  · exact yq18_h2)
theorem yH18_2 (hL : L ≤ 3584) : yzG L xs yg18_2.1.1 yg18_2.1.2.2.2.1 := yL18_2 hL _ List.mem_cons_self
theorem yL18_1 (hL : L ≤ 3584) : ∀ g ∈ [yg18_1], yzG L xs g.1.1 g.1.2.2.2.1 := yz_loop hL (ext := [yg18_2.1]) (by
  intro c hc
  simp only [List.mem_cons, List.not_mem_nil, or_false] at hc
  rcases hc with rfl
  · exact yH18_2 hL) (by decide) (by
  intro g hg
  simp only [List.mem_cons, List.not_mem_nil, or_false] at hg
  rcases hg with rfl
  · exact yq18_h1)
theorem yH18_1 (hL : L ≤ 3584) : yzG L xs yg18_1.1.1 yg18_1.1.2.2.2.1 := yL18_1 hL _ List.mem_cons_self
theorem yH18_0 (hL : L ≤ 3584) : yzG L xs yg18_0.1.1 yg18_0.1.2.2.2.1 := yz_to hL yq18_h0 (by
  intro c hc
  simp only [List.mem_cons, List.not_mem_nil, or_false] at hc
  rcases hc with rfl
  · exact yH18_1 hL)
theorem yp_18_0 (hL : L ≤ 3584) : yzG L xs yxs_11 [(.var 128, (-2147483648), (-1)), (.pow (.add (.var 64) (.num 63)) 17, 18, 18), (.pow (.add (.var 64) (.num 63)) 17, 0, 54), (.var 0, 7, 7), (.var 0, 0, 7)] := yz_to hL yq18_s0 (fun _ hc => absurd hc List.not_mem_nil)
theorem yp_18_1 (hL : L ≤ 3584) : yzG L xs yxs_11 [(.var 128, 0, 0), (.var 128, 0, 1), (.var 128, 0, 2), (.var 128, 0, 5), (.var 128, 0, 11), (.var 128, 0, 2147483647), (.pow (.add (.var 64) (.num 63)) 17, 18, 18), (.pow (.add (.var 64) (.num 63)) 17, 0, 54), (.var 0, 7, 7), (.var 0, 0, 7)] := yz_to hL yq18_s1 (by
  intro c hc
  simp only [List.mem_cons, List.not_mem_nil, or_false] at hc
  rcases hc with rfl
  · exact yH18_0 hL)
theorem yp_18_2 (hL : L ≤ 3584) : yzG L xs yxs_11 [(.var 128, 1, 1), (.var 128, 0, 1), (.var 128, 0, 2), (.var 128, 0, 5), (.var 128, 0, 11), (.var 128, 0, 2147483647), (.pow (.add (.var 64) (.num 63)) 17, 18, 18), (.pow (.add (.var 64) (.num 63)) 17, 0, 54), (.var 0, 7, 7), (.var 0, 0, 7)] := yz_to hL yq18_s2 (by
  intro c hc
  simp only [List.mem_cons, List.not_mem_nil, or_false] at hc
  rcases hc with rfl
  · exact yH18_0 hL)
theorem yp_18_3 (hL : L ≤ 3584) : yzG L xs yxs_11 [(.var 128, 2, 2), (.var 128, 0, 2), (.var 128, 0, 5), (.var 128, 0, 11), (.var 128, 0, 2147483647), (.pow (.add (.var 64) (.num 63)) 17, 18, 18), (.pow (.add (.var 64) (.num 63)) 17, 0, 54), (.var 0, 7, 7), (.var 0, 0, 7)] := yz_to hL yq18_s3 (by
  intro c hc
  simp only [List.mem_cons, List.not_mem_nil, or_false] at hc
  rcases hc with rfl
  · exact yH18_0 hL)
theorem yp_18_4 (hL : L ≤ 3584) : yzG L xs yxs_11 [(.var 128, 3, 3), (.var 128, 3, 4), (.var 128, 3, 5), (.var 128, 0, 5), (.var 128, 0, 11), (.var 128, 0, 2147483647), (.pow (.add (.var 64) (.num 63)) 17, 18, 18), (.pow (.add (.var 64) (.num 63)) 17, 0, 54), (.var 0, 7, 7), (.var 0, 0, 7)] := yz_to hL yq18_s4 (by
  intro c hc
  simp only [List.mem_cons, List.not_mem_nil, or_false] at hc
  rcases hc with rfl
  · exact yH18_0 hL)
theorem yp_18_5 (hL : L ≤ 3584) : yzG L xs yxs_11 [(.var 128, 4, 4), (.var 128, 3, 4), (.var 128, 3, 5), (.var 128, 0, 5), (.var 128, 0, 11), (.var 128, 0, 2147483647), (.pow (.add (.var 64) (.num 63)) 17, 18, 18), (.pow (.add (.var 64) (.num 63)) 17, 0, 54), (.var 0, 7, 7), (.var 0, 0, 7)] := yz_to hL yq18_s5 (by
  intro c hc
  simp only [List.mem_cons, List.not_mem_nil, or_false] at hc
  rcases hc with rfl
  · exact yH18_0 hL)
theorem yp_18_6 (hL : L ≤ 3584) : yzG L xs yxs_11 [(.var 128, 5, 5), (.var 128, 3, 5), (.var 128, 0, 5), (.var 128, 0, 11), (.var 128, 0, 2147483647), (.pow (.add (.var 64) (.num 63)) 17, 18, 18), (.pow (.add (.var 64) (.num 63)) 17, 0, 54), (.var 0, 7, 7), (.var 0, 0, 7)] := yz_to hL yq18_s6 (by
  intro c hc
  simp only [List.mem_cons, List.not_mem_nil, or_false] at hc
  rcases hc with rfl
  · exact yH18_0 hL)
theorem yp_18_7 (hL : L ≤ 3584) : yzG L xs yxs_11 [(.var 128, 6, 6), (.var 128, 6, 7), (.var 128, 6, 8), (.var 128, 6, 11), (.var 128, 0, 11), (.var 128, 0, 2147483647), (.pow (.add (.var 64) (.num 63)) 17, 18, 18), (.pow (.add (.var 64) (.num 63)) 17, 0, 54), (.var 0, 7, 7), (.var 0, 0, 7)] := yz_to hL yq18_s7 (by
  intro c hc
  simp only [List.mem_cons, List.not_mem_nil, or_false] at hc
  rcases hc with rfl
  · exact yH18_0 hL)
theorem yp_18_8 (hL : L ≤ 3584) : yzG L xs yxs_11 [(.var 128, 7, 7), (.var 128, 6, 7), (.var 128, 6, 8), (.var 128, 6, 11), (.var 128, 0, 11), (.var 128, 0, 2147483647), (.pow (.add (.var 64) (.num 63)) 17, 18, 18), (.pow (.add (.var 64) (.num 63)) 17, 0, 54), (.var 0, 7, 7), (.var 0, 0, 7)] := yz_to hL yq18_s8 (by
  intro c hc
  simp only [List.mem_cons, List.not_mem_nil, or_false] at hc
  rcases hc with rfl
  · exact yH18_0 hL)
theorem yp_18_9 (hL : L ≤ 3584) : yzG L xs yxs_11 [(.var 128, 8, 8), (.var 128, 6, 8), (.var 128, 6, 11), (.var 128, 0, 11), (.var 128, 0, 2147483647), (.pow (.add (.var 64) (.num 63)) 17, 18, 18), (.pow (.add (.var 64) (.num 63)) 17, 0, 54), (.var 0, 7, 7), (.var 0, 0, 7)] := yz_to hL yq18_s9 (by
  intro c hc
  simp only [List.mem_cons, List.not_mem_nil, or_false] at hc
  rcases hc with rfl
  · exact yH18_0 hL)
theorem yp_18_10 (hL : L ≤ 3584) : yzG L xs yxs_11 [(.var 128, 9, 9), (.var 128, 9, 10), (.var 128, 9, 11), (.var 128, 6, 11), (.var 128, 0, 11), (.var 128, 0, 2147483647), (.pow (.add (.var 64) (.num 63)) 17, 18, 18), (.pow (.add (.var 64) (.num 63)) 17, 0, 54), (.var 0, 7, 7), (.var 0, 0, 7)] := yz_to hL yq18_s10 (by
  intro c hc
  simp only [List.mem_cons, List.not_mem_nil, or_false] at hc
  rcases hc with rfl
  · exact yH18_0 hL)
theorem yp_18_11 (hL : L ≤ 3584) : yzG L xs yxs_11 [(.var 128, 10, 10), (.var 128, 9, 10), (.var 128, 9, 11), (.var 128, 6, 11), (.var 128, 0, 11), (.var 128, 0, 2147483647), (.pow (.add (.var 64) (.num 63)) 17, 18, 18), (.pow (.add (.var 64) (.num 63)) 17, 0, 54), (.var 0, 7, 7), (.var 0, 0, 7)] := yz_to hL yq18_s11 (by
  intro c hc
  simp only [List.mem_cons, List.not_mem_nil, or_false] at hc
  rcases hc with rfl
  · exact yH18_0 hL)
theorem yp_18_12 (hL : L ≤ 3584) : yzG L xs yxs_11 [(.var 128, 11, 11), (.var 128, 9, 11), (.var 128, 6, 11), (.var 128, 0, 11), (.var 128, 0, 2147483647), (.pow (.add (.var 64) (.num 63)) 17, 18, 18), (.pow (.add (.var 64) (.num 63)) 17, 0, 54), (.var 0, 7, 7), (.var 0, 0, 7)] := yz_to hL yq18_s12 (by
  intro c hc
  simp only [List.mem_cons, List.not_mem_nil, or_false] at hc
  rcases hc with rfl
  · exact yH18_0 hL)
theorem yp_18_13 (hL : L ≤ 3584) : yzG L xs yxs_11 [(.var 128, 12, 2147483647), (.var 128, 0, 2147483647), (.pow (.add (.var 64) (.num 63)) 17, 18, 18), (.pow (.add (.var 64) (.num 63)) 17, 0, 54), (.var 0, 7, 7), (.var 0, 0, 7)] := yz_to hL yq18_s13 (fun _ hc => absurd hc List.not_mem_nil)
theorem yp_18 (hL : L ≤ 3584) : yzG L xs yxs_11 [(.pow (.add (.var 64) (.num 63)) 17, 18, 18), (.pow (.add (.var 64) (.num 63)) 17, 0, 54), (.var 0, 7, 7), (.var 0, 0, 7)] := yz_split (.var 128) (-2147483648) (-1) 2147483647 (by decide +kernel) (yp_18_0 hL) (yz_split (.var 128) 0 11 2147483647 (by decide +kernel) (yz_split (.var 128) 0 5 11 (by decide +kernel) (yz_split (.var 128) 0 2 5 (by decide +kernel) (yz_split (.var 128) 0 1 2 (by decide +kernel) (yz_split (.var 128) 0 0 1 (by decide +kernel) (yp_18_1 hL) (yp_18_2 hL)) (yp_18_3 hL)) (yz_split (.var 128) 3 4 5 (by decide +kernel) (yz_split (.var 128) 3 3 4 (by decide +kernel) (yp_18_4 hL) (yp_18_5 hL)) (yp_18_6 hL))) (yz_split (.var 128) 6 8 11 (by decide +kernel) (yz_split (.var 128) 6 7 8 (by decide +kernel) (yz_split (.var 128) 6 6 7 (by decide +kernel) (yp_18_7 hL) (yp_18_8 hL)) (yp_18_9 hL)) (yz_split (.var 128) 9 10 11 (by decide +kernel) (yz_split (.var 128) 9 9 10 (by decide +kernel) (yp_18_10 hL) (yp_18_11 hL)) (yp_18_12 hL)))) (yp_18_13 hL))
theorem yN54_4 (hL : L ≤ 3584) : yzG L xs yn54_4.1 yn54_4.2.2.2.1 := yz_to hL yq54_4 (fun _ hc => absurd hc List.not_mem_nil)
theorem yN54_3 (hL : L ≤ 3584) : yzG L xs yn54_3.1 yn54_3.2.2.2.1 := yz_at (F2 := yn54_4.2.2.2.1) hL yq54_3 (by decide +kernel) (yN54_4 hL)
theorem yN54_2 (hL : L ≤ 3584) : yzG L xs yn54_2.1 yn54_2.2.2.2.1 := yz_at (F2 := yn54_3.2.2.2.1) hL yq54_2 (by decide +kernel) (yN54_3 hL)
theorem yN54_1 (hL : L ≤ 3584) : yzG L xs yn54_1.1 yn54_1.2.2.2.1 := yz_at (F2 := yn54_2.2.2.2.1) hL yq54_1 (by decide +kernel) (yN54_2 hL)
theorem yN54_0 (hL : L ≤ 3584) : yzG L xs yxs_11 [(.pow (.add (.var 64) (.num 63)) 17, 54, 54), (.pow (.add (.var 64) (.num 63)) 17, 0, 54), (.var 0, 7, 7), (.var 0, 0, 7)] := yz_at (F2 := yn54_1.2.2.2.1) hL yq54_0 (by decide +kernel) (yN54_1 hL)
theorem yp_54 (hL : L ≤ 3584) : yzG L xs yxs_11 [(.pow (.add (.var 64) (.num 63)) 17, 54, 54), (.pow (.add (.var 64) (.num 63)) 17, 0, 54), (.var 0, 7, 7), (.var 0, 0, 7)] := yN54_0 hL
theorem yp_22n (hL : L ≤ 3584) : yzG L xs yxs_11 [(.var 192, (-2147483648), (-1)), (.pow (.add (.var 64) (.num 63)) 17, 22, 22), (.pow (.add (.var 64) (.num 63)) 17, 0, 54), (.var 0, 7, 7), (.var 0, 0, 7)] := yz_end hL yq22n
theorem yp_22g (hL : L ≤ 3584) : yzG L xs yxs_11 [(.var 192, 10, 2147483647), (.var 192, 0, 2147483647), (.pow (.add (.var 64) (.num 63)) 17, 22, 22), (.pow (.add (.var 64) (.num 63)) 17, 0, 54), (.var 0, 7, 7), (.var 0, 0, 7)] := yz_end hL yq22g
theorem yN22z_7 (hL : L ≤ 3584) : yzG L xs yn22z_7.1 yn22z_7.2.2.2.1 := yz_to hL yq22z_7 (fun _ hc => absurd hc List.not_mem_nil)
theorem yN22z_6 (hL : L ≤ 3584) : yzG L xs yn22z_6.1 yn22z_6.2.2.2.1 := yz_to hL yq22z_6 (by
  intro c hc
  simp only [List.mem_cons, List.not_mem_nil, or_false] at hc
  rcases hc with rfl
  · exact yN22z_7 hL)
theorem yN22z_5 (hL : L ≤ 3584) : yzG L xs yn22z_5.1 yn22z_5.2.2.2.1 := yz_to hL yq22z_5 (by
  intro c hc
  simp only [List.mem_cons, List.not_mem_nil, or_false] at hc
  rcases hc with rfl
  · exact yN22z_6 hL)
theorem yN22z_4 (hL : L ≤ 3584) : yzG L xs yn22z_4.1 yn22z_4.2.2.2.1 := yz_at (F2 := yn22z_5.2.2.2.1) hL yq22z_4 (by decide +kernel) (yN22z_5 hL)
theorem yN22z_3 (hL : L ≤ 3584) : yzG L xs yn22z_3.1 yn22z_3.2.2.2.1 := yz_to hL yq22z_3 (by
  intro c hc
  simp only [List.mem_cons, List.not_mem_nil, or_false] at hc
  rcases hc with rfl
  · exact yN22z_4 hL)
theorem yN22z_2 (hL : L ≤ 3584) : yzG L xs yn22z_2.1 yn22z_2.2.2.2.1 := yz_to hL yq22z_2 (by
  intro c hc
  simp only [List.mem_cons, List.not_mem_nil, or_false] at hc
  rcases hc with rfl
  · exact yN22z_3 hL)
theorem yN22z_1 (hL : L ≤ 3584) : yzG L xs yn22z_1.1 yn22z_1.2.2.2.1 := yz_to hL yq22z_1 (by
  intro c hc
  simp only [List.mem_cons, List.not_mem_nil, or_false] at hc
  rcases hc with rfl
  · exact yN22z_2 hL)
theorem yN22z_0 (hL : L ≤ 3584) : yzG L xs yxs_11 [(.var 192, 0, 0), (.var 192, 0, 9), (.var 192, 0, 2147483647), (.pow (.add (.var 64) (.num 63)) 17, 22, 22), (.pow (.add (.var 64) (.num 63)) 17, 0, 54), (.var 0, 7, 7), (.var 0, 0, 7)] := yz_to hL yq22z_0 (by
  intro c hc
  simp only [List.mem_cons, List.not_mem_nil, or_false] at hc
  rcases hc with rfl
  · exact yN22z_1 hL)
theorem yp_22z (hL : L ≤ 3584) : yzG L xs yxs_11 [(.var 192, 0, 0), (.var 192, 0, 9), (.var 192, 0, 2147483647), (.pow (.add (.var 64) (.num 63)) 17, 22, 22), (.pow (.add (.var 64) (.num 63)) 17, 0, 54), (.var 0, 7, 7), (.var 0, 0, 7)] := yN22z_0 hL
theorem yN22b_95 (hL : L ≤ 3584) : yzG L xs yn22b_95.1 yn22b_95.2.2.2.1 := yz_to hL yq22b_95 (fun _ hc => absurd hc List.not_mem_nil)
theorem yN22b_94 (hL : L ≤ 3584) : yzG L xs yn22b_94.1 yn22b_94.2.2.2.1 := yz_at (F2 := yn22b_95.2.2.2.1) hL yq22b_94 (by decide +kernel) (yN22b_95 hL)
theorem yN22b_93 (hL : L ≤ 3584) : yzG L xs yn22b_93.1 yn22b_93.2.2.2.1 := yz_at (F2 := yn22b_94.2.2.2.1) hL yq22b_93 (by decide +kernel) (yN22b_94 hL)
theorem yN22b_92 (hL : L ≤ 3584) : yzG L xs yn22b_92.1 yn22b_92.2.2.2.1 := yz_at (F2 := yn22b_93.2.2.2.1) hL yq22b_92 (by decide +kernel) (yN22b_93 hL)
theorem yN22b_91 (hL : L ≤ 3584) : yzG L xs yn22b_91.1 yn22b_91.2.2.2.1 := yz_at (F2 := yn22b_92.2.2.2.1) hL yq22b_91 (by decide +kernel) (yN22b_92 hL)
theorem yN22b_90 (hL : L ≤ 3584) : yzG L xs yn22b_90.1 yn22b_90.2.2.2.1 := yz_at (F2 := yn22b_91.2.2.2.1) hL yq22b_90 (by decide +kernel) (yN22b_91 hL)
theorem yN22b_79 (hL : L ≤ 3584) : yzG L xs yn22b_79.1 yn22b_79.2.2.2.1 := yz_at (F2 := yn22b_90.2.2.2.1) hL yq22b_79 (by decide +kernel) (yN22b_90 hL)
theorem yN22b_89 (hL : L ≤ 3584) : yzG L xs yn22b_89.1 yn22b_89.2.2.2.1 := yz_to hL yq22b_89 (by
  intro c hc
  simp only [List.mem_cons, List.not_mem_nil, or_false] at hc
  rcases hc with rfl
  · exact yN22b_79 hL)
theorem yN22b_88 (hL : L ≤ 3584) : yzG L xs yn22b_88.1 yn22b_88.2.2.2.1 := yz_at (F2 := yn22b_89.2.2.2.1) hL yq22b_88 (by decide +kernel) (yN22b_89 hL)
theorem yN22b_87 (hL : L ≤ 3584) : yzG L xs yn22b_87.1 yn22b_87.2.2.2.1 := yz_at (F2 := yn22b_88.2.2.2.1) hL yq22b_87 (by decide +kernel) (yN22b_88 hL)
theorem yN22b_86 (hL : L ≤ 3584) : yzG L xs yn22b_86.1 yn22b_86.2.2.2.1 := yz_at (F2 := yn22b_87.2.2.2.1) hL yq22b_86 (by decide +kernel) (yN22b_87 hL)
theorem yN22b_85 (hL : L ≤ 3584) : yzG L xs yn22b_85.1 yn22b_85.2.2.2.1 := yz_at (F2 := yn22b_86.2.2.2.1) hL yq22b_85 (by decide +kernel) (yN22b_86 hL)
theorem yN22b_84 (hL : L ≤ 3584) : yzG L xs yn22b_84.1 yn22b_84.2.2.2.1 := yz_at (F2 := yn22b_85.2.2.2.1) hL yq22b_84 (by decide +kernel) (yN22b_85 hL)
theorem yN22b_83 (hL : L ≤ 3584) : yzG L xs yn22b_83.1 yn22b_83.2.2.2.1 := yz_at (F2 := yn22b_84.2.2.2.1) hL yq22b_83 (by decide +kernel) (yN22b_84 hL)
theorem yN22b_82 (hL : L ≤ 3584) : yzG L xs yn22b_82.1 yn22b_82.2.2.2.1 := yz_at (F2 := yn22b_83.2.2.2.1) hL yq22b_82 (by decide +kernel) (yN22b_83 hL)
theorem yN22b_81 (hL : L ≤ 3584) : yzG L xs yn22b_81.1 yn22b_81.2.2.2.1 := yz_at (F2 := yn22b_82.2.2.2.1) hL yq22b_81 (by decide +kernel) (yN22b_82 hL)
theorem yN22b_80 (hL : L ≤ 3584) : yzG L xs yn22b_80.1 yn22b_80.2.2.2.1 := yz_at (F2 := yn22b_81.2.2.2.1) hL yq22b_80 (by decide +kernel) (yN22b_81 hL)
theorem yN22b_78 (hL : L ≤ 3584) : yzG L xs yn22b_78.1 yn22b_78.2.2.2.1 := yz_to hL yq22b_78 (by
  intro c hc
  simp only [List.mem_cons, List.not_mem_nil, or_false] at hc
  rcases hc with rfl | rfl
  · exact yN22b_79 hL
  · exact yN22b_80 hL)
theorem yN22b_77 (hL : L ≤ 3584) : yzG L xs yn22b_77.1 yn22b_77.2.2.2.1 := yz_at (F2 := yn22b_78.2.2.2.1) hL yq22b_77 (by decide +kernel) (yN22b_78 hL)
theorem yN22b_76 (hL : L ≤ 3584) : yzG L xs yn22b_76.1 yn22b_76.2.2.2.1 := yz_at (F2 := yn22b_77.2.2.2.1) hL yq22b_76 (by decide +kernel) (yN22b_77 hL)
theorem yN22b_75 (hL : L ≤ 3584) : yzG L xs yn22b_75.1 yn22b_75.2.2.2.1 := yz_at (F2 := yn22b_76.2.2.2.1) hL yq22b_75 (by decide +kernel) (yN22b_76 hL)
theorem yN22b_74 (hL : L ≤ 3584) : yzG L xs yn22b_74.1 yn22b_74.2.2.2.1 := yz_at (F2 := yn22b_75.2.2.2.1) hL yq22b_74 (by decide +kernel) (yN22b_75 hL)
theorem yN22b_63 (hL : L ≤ 3584) : yzG L xs yn22b_63.1 yn22b_63.2.2.2.1 := yz_at (F2 := yn22b_74.2.2.2.1) hL yq22b_63 (by decide +kernel) (yN22b_74 hL)
theorem yN22b_73 (hL : L ≤ 3584) : yzG L xs yn22b_73.1 yn22b_73.2.2.2.1 := yz_to hL yq22b_73 (by
  intro c hc
  simp only [List.mem_cons, List.not_mem_nil, or_false] at hc
  rcases hc with rfl
  · exact yN22b_63 hL)
theorem yN22b_72 (hL : L ≤ 3584) : yzG L xs yn22b_72.1 yn22b_72.2.2.2.1 := yz_at (F2 := yn22b_73.2.2.2.1) hL yq22b_72 (by decide +kernel) (yN22b_73 hL)
theorem yN22b_71 (hL : L ≤ 3584) : yzG L xs yn22b_71.1 yn22b_71.2.2.2.1 := yz_at (F2 := yn22b_72.2.2.2.1) hL yq22b_71 (by decide +kernel) (yN22b_72 hL)
theorem yN22b_70 (hL : L ≤ 3584) : yzG L xs yn22b_70.1 yn22b_70.2.2.2.1 := yz_at (F2 := yn22b_71.2.2.2.1) hL yq22b_70 (by decide +kernel) (yN22b_71 hL)
theorem yN22b_69 (hL : L ≤ 3584) : yzG L xs yn22b_69.1 yn22b_69.2.2.2.1 := yz_at (F2 := yn22b_70.2.2.2.1) hL yq22b_69 (by decide +kernel) (yN22b_70 hL)
theorem yN22b_68 (hL : L ≤ 3584) : yzG L xs yn22b_68.1 yn22b_68.2.2.2.1 := yz_at (F2 := yn22b_69.2.2.2.1) hL yq22b_68 (by decide +kernel) (yN22b_69 hL)
theorem yN22b_67 (hL : L ≤ 3584) : yzG L xs yn22b_67.1 yn22b_67.2.2.2.1 := yz_at (F2 := yn22b_68.2.2.2.1) hL yq22b_67 (by decide +kernel) (yN22b_68 hL)
theorem yN22b_66 (hL : L ≤ 3584) : yzG L xs yn22b_66.1 yn22b_66.2.2.2.1 := yz_at (F2 := yn22b_67.2.2.2.1) hL yq22b_66 (by decide +kernel) (yN22b_67 hL)
theorem yN22b_65 (hL : L ≤ 3584) : yzG L xs yn22b_65.1 yn22b_65.2.2.2.1 := yz_at (F2 := yn22b_66.2.2.2.1) hL yq22b_65 (by decide +kernel) (yN22b_66 hL)
theorem yN22b_64 (hL : L ≤ 3584) : yzG L xs yn22b_64.1 yn22b_64.2.2.2.1 := yz_at (F2 := yn22b_65.2.2.2.1) hL yq22b_64 (by decide +kernel) (yN22b_65 hL)
theorem yN22b_62 (hL : L ≤ 3584) : yzG L xs yn22b_62.1 yn22b_62.2.2.2.1 := yz_to hL yq22b_62 (by
  intro c hc
  simp only [List.mem_cons, List.not_mem_nil, or_false] at hc
  rcases hc with rfl | rfl
  · exact yN22b_63 hL
  · exact yN22b_64 hL)
theorem yN22b_61 (hL : L ≤ 3584) : yzG L xs yn22b_61.1 yn22b_61.2.2.2.1 := yz_at (F2 := yn22b_62.2.2.2.1) hL yq22b_61 (by decide +kernel) (yN22b_62 hL)
theorem yN22b_60 (hL : L ≤ 3584) : yzG L xs yn22b_60.1 yn22b_60.2.2.2.1 := yz_at (F2 := yn22b_61.2.2.2.1) hL yq22b_60 (by decide +kernel) (yN22b_61 hL)
theorem yN22b_59 (hL : L ≤ 3584) : yzG L xs yn22b_59.1 yn22b_59.2.2.2.1 := yz_at (F2 := yn22b_60.2.2.2.1) hL yq22b_59 (by decide +kernel) (yN22b_60 hL)
theorem yN22b_58 (hL : L ≤ 3584) : yzG L xs yn22b_58.1 yn22b_58.2.2.2.1 := yz_at (F2 := yn22b_59.2.2.2.1) hL yq22b_58 (by decide +kernel) (yN22b_59 hL)
theorem yN22b_57 (hL : L ≤ 3584) : yzG L xs yn22b_57.1 yn22b_57.2.2.2.1 := yz_at (F2 := yn22b_58.2.2.2.1) hL yq22b_57 (by decide +kernel) (yN22b_58 hL)
theorem yN22b_56 (hL : L ≤ 3584) : yzG L xs yn22b_56.1 yn22b_56.2.2.2.1 := yz_to hL yq22b_56 (by
  intro c hc
  simp only [List.mem_cons, List.not_mem_nil, or_false] at hc
  rcases hc with rfl
  · exact yN22b_57 hL)
theorem yN22b_55 (hL : L ≤ 3584) : yzG L xs yn22b_55.1 yn22b_55.2.2.2.1 := yz_to hL yq22b_55 (by
  intro c hc
  simp only [List.mem_cons, List.not_mem_nil, or_false] at hc
  rcases hc with rfl
  · exact yN22b_56 hL)
theorem yN22b_54 (hL : L ≤ 3584) : yzG L xs yn22b_54.1 yn22b_54.2.2.2.1 := yz_at (F2 := yn22b_55.2.2.2.1) hL yq22b_54 (by decide +kernel) (yN22b_55 hL)
theorem yN22b_38 (hL : L ≤ 3584) : yzG L xs yn22b_38.1 yn22b_38.2.2.2.1 := yz_to hL yq22b_38 (by
  intro c hc
  simp only [List.mem_cons, List.not_mem_nil, or_false] at hc
  rcases hc with rfl
  · exact yN22b_54 hL)
theorem yN22b_53 (hL : L ≤ 3584) : yzG L xs yn22b_53.1 yn22b_53.2.2.2.1 := yz_to hL yq22b_53 (by
  intro c hc
  simp only [List.mem_cons, List.not_mem_nil, or_false] at hc
  rcases hc with rfl
  · exact yN22b_38 hL)
theorem yN22b_52 (hL : L ≤ 3584) : yzG L xs yn22b_52.1 yn22b_52.2.2.2.1 := yz_at (F2 := yn22b_53.2.2.2.1) hL yq22b_52 (by decide +kernel) (yN22b_53 hL)
theorem yN22b_51 (hL : L ≤ 3584) : yzG L xs yn22b_51.1 yn22b_51.2.2.2.1 := yz_at (F2 := yn22b_52.2.2.2.1) hL yq22b_51 (by decide +kernel) (yN22b_52 hL)
theorem yN22b_50 (hL : L ≤ 3584) : yzG L xs yn22b_50.1 yn22b_50.2.2.2.1 := yz_at (F2 := yn22b_51.2.2.2.1) hL yq22b_50 (by decide +kernel) (yN22b_51 hL)
theorem yN22b_49 (hL : L ≤ 3584) : yzG L xs yn22b_49.1 yn22b_49.2.2.2.1 := yz_at (F2 := yn22b_50.2.2.2.1) hL yq22b_49 (by decide +kernel) (yN22b_50 hL)
theorem yN22b_48 (hL : L ≤ 3584) : yzG L xs yn22b_48.1 yn22b_48.2.2.2.1 := yz_at (F2 := yn22b_49.2.2.2.1) hL yq22b_48 (by decide +kernel) (yN22b_49 hL)
theorem yN22b_47 (hL : L ≤ 3584) : yzG L xs yn22b_47.1 yn22b_47.2.2.2.1 := yz_at (F2 := yn22b_48.2.2.2.1) hL yq22b_47 (by decide +kernel) (yN22b_48 hL)
theorem yN22b_46 (hL : L ≤ 3584) : yzG L xs yn22b_46.1 yn22b_46.2.2.2.1 := yz_at (F2 := yn22b_47.2.2.2.1) hL yq22b_46 (by decide +kernel) (yN22b_47 hL)
theorem yN22b_45 (hL : L ≤ 3584) : yzG L xs yn22b_45.1 yn22b_45.2.2.2.1 := yz_at (F2 := yn22b_46.2.2.2.1) hL yq22b_45 (by decide +kernel) (yN22b_46 hL)
theorem yN22b_44 (hL : L ≤ 3584) : yzG L xs yn22b_44.1 yn22b_44.2.2.2.1 := yz_at (F2 := yn22b_45.2.2.2.1) hL yq22b_44 (by decide +kernel) (yN22b_45 hL)
theorem yN22b_43 (hL : L ≤ 3584) : yzG L xs yn22b_43.1 yn22b_43.2.2.2.1 := yz_at (F2 := yn22b_44.2.2.2.1) hL yq22b_43 (by decide +kernel) (yN22b_44 hL)
theorem yN22b_42 (hL : L ≤ 3584) : yzG L xs yn22b_42.1 yn22b_42.2.2.2.1 := yz_at (F2 := yn22b_43.2.2.2.1) hL yq22b_42 (by decide +kernel) (yN22b_43 hL)
theorem yN22b_41 (hL : L ≤ 3584) : yzG L xs yn22b_41.1 yn22b_41.2.2.2.1 := yz_at (F2 := yn22b_42.2.2.2.1) hL yq22b_41 (by decide +kernel) (yN22b_42 hL)
theorem yN22b_40 (hL : L ≤ 3584) : yzG L xs yn22b_40.1 yn22b_40.2.2.2.1 := yz_at (F2 := yn22b_41.2.2.2.1) hL yq22b_40 (by decide +kernel) (yN22b_41 hL)
theorem yN22b_39 (hL : L ≤ 3584) : yzG L xs yn22b_39.1 yn22b_39.2.2.2.1 := yz_at (F2 := yn22b_40.2.2.2.1) hL yq22b_39 (by decide +kernel) (yN22b_40 hL)
theorem yN22b_37 (hL : L ≤ 3584) : yzG L xs yn22b_37.1 yn22b_37.2.2.2.1 := yz_at (F2 := yn22b_39.2.2.2.1) hL yq22b_37 (by decide +kernel) (yN22b_39 hL)
theorem yN22b_36 (hL : L ≤ 3584) : yzG L xs yn22b_36.1 yn22b_36.2.2.2.1 := yz_to hL yq22b_36 (by
  intro c hc
  simp only [List.mem_cons, List.not_mem_nil, or_false] at hc
  rcases hc with rfl | rfl
  · exact yN22b_37 hL
  · exact yN22b_38 hL)
theorem yN22b_35 (hL : L ≤ 3584) : yzG L xs yn22b_35.1 yn22b_35.2.2.2.1 := yz_at (F2 := yn22b_36.2.2.2.1) hL yq22b_35 (by decide +kernel) (yN22b_36 hL)
theorem yN22b_34 (hL : L ≤ 3584) : yzG L xs yn22b_34.1 yn22b_34.2.2.2.1 := yz_at (F2 := yn22b_35.2.2.2.1) hL yq22b_34 (by decide +kernel) (yN22b_35 hL)
theorem yN22b_33 (hL : L ≤ 3584) : yzG L xs yn22b_33.1 yn22b_33.2.2.2.1 := yz_at (F2 := yn22b_34.2.2.2.1) hL yq22b_33 (by decide +kernel) (yN22b_34 hL)
theorem yN22b_32 (hL : L ≤ 3584) : yzG L xs yn22b_32.1 yn22b_32.2.2.2.1 := yz_at (F2 := yn22b_33.2.2.2.1) hL yq22b_32 (by decide +kernel) (yN22b_33 hL)
theorem yN22b_31 (hL : L ≤ 3584) : yzG L xs yn22b_31.1 yn22b_31.2.2.2.1 := yz_at (F2 := yn22b_32.2.2.2.1) hL yq22b_31 (by decide +kernel) (yN22b_32 hL)
theorem yN22b_30 (hL : L ≤ 3584) : yzG L xs yn22b_30.1 yn22b_30.2.2.2.1 := yz_at (F2 := yn22b_31.2.2.2.1) hL yq22b_30 (by decide +kernel) (yN22b_31 hL)
theorem yN22b_29 (hL : L ≤ 3584) : yzG L xs yn22b_29.1 yn22b_29.2.2.2.1 := yz_at (F2 := yn22b_30.2.2.2.1) hL yq22b_29 (by decide +kernel) (yN22b_30 hL)
theorem yN22b_28 (hL : L ≤ 3584) : yzG L xs yn22b_28.1 yn22b_28.2.2.2.1 := yz_at (F2 := yn22b_29.2.2.2.1) hL yq22b_28 (by decide +kernel) (yN22b_29 hL)
theorem yN22b_12 (hL : L ≤ 3584) : yzG L xs yn22b_12.1 yn22b_12.2.2.2.1 := yz_to hL yq22b_12 (by
  intro c hc
  simp only [List.mem_cons, List.not_mem_nil, or_false] at hc
  rcases hc with rfl
  · exact yN22b_28 hL)
theorem yN22b_27 (hL : L ≤ 3584) : yzG L xs yn22b_27.1 yn22b_27.2.2.2.1 := yz_to hL yq22b_27 (by
  intro c hc
  simp only [List.mem_cons, List.not_mem_nil, or_false] at hc
  rcases hc with rfl
  · exact yN22b_12 hL)
theorem yN22b_26 (hL : L ≤ 3584) : yzG L xs yn22b_26.1 yn22b_26.2.2.2.1 := yz_at (F2 := yn22b_27.2.2.2.1) hL yq22b_26 (by decide +kernel) (yN22b_27 hL)
theorem yN22b_25 (hL : L ≤ 3584) : yzG L xs yn22b_25.1 yn22b_25.2.2.2.1 := yz_at (F2 := yn22b_26.2.2.2.1) hL yq22b_25 (by decide +kernel) (yN22b_26 hL)
theorem yN22b_24 (hL : L ≤ 3584) : yzG L xs yn22b_24.1 yn22b_24.2.2.2.1 := yz_at (F2 := yn22b_25.2.2.2.1) hL yq22b_24 (by decide +kernel) (yN22b_25 hL)
theorem yN22b_23 (hL : L ≤ 3584) : yzG L xs yn22b_23.1 yn22b_23.2.2.2.1 := yz_at (F2 := yn22b_24.2.2.2.1) hL yq22b_23 (by decide +kernel) (yN22b_24 hL)
theorem yN22b_22 (hL : L ≤ 3584) : yzG L xs yn22b_22.1 yn22b_22.2.2.2.1 := yz_at (F2 := yn22b_23.2.2.2.1) hL yq22b_22 (by decide +kernel) (yN22b_23 hL)
theorem yN22b_21 (hL : L ≤ 3584) : yzG L xs yn22b_21.1 yn22b_21.2.2.2.1 := yz_at (F2 := yn22b_22.2.2.2.1) hL yq22b_21 (by decide +kernel) (yN22b_22 hL)
theorem yN22b_20 (hL : L ≤ 3584) : yzG L xs yn22b_20.1 yn22b_20.2.2.2.1 := yz_at (F2 := yn22b_21.2.2.2.1) hL yq22b_20 (by decide +kernel) (yN22b_21 hL)
theorem yN22b_19 (hL : L ≤ 3584) : yzG L xs yn22b_19.1 yn22b_19.2.2.2.1 := yz_at (F2 := yn22b_20.2.2.2.1) hL yq22b_19 (by decide +kernel) (yN22b_20 hL)
theorem yN22b_18 (hL : L ≤ 3584) : yzG L xs yn22b_18.1 yn22b_18.2.2.2.1 := yz_at (F2 := yn22b_19.2.2.2.1) hL yq22b_18 (by decide +kernel) (yN22b_19 hL)
theorem yN22b_17 (hL : L ≤ 3584) : yzG L xs yn22b_17.1 yn22b_17.2.2.2.1 := yz_at (F2 := yn22b_18.2.2.2.1) hL yq22b_17 (by decide +kernel) (yN22b_18 hL)
theorem yN22b_16 (hL : L ≤ 3584) : yzG L xs yn22b_16.1 yn22b_16.2.2.2.1 := yz_at (F2 := yn22b_17.2.2.2.1) hL yq22b_16 (by decide +kernel) (yN22b_17 hL)
theorem yN22b_15 (hL : L ≤ 3584) : yzG L xs yn22b_15.1 yn22b_15.2.2.2.1 := yz_at (F2 := yn22b_16.2.2.2.1) hL yq22b_15 (by decide +kernel) (yN22b_16 hL)
theorem yN22b_14 (hL : L ≤ 3584) : yzG L xs yn22b_14.1 yn22b_14.2.2.2.1 := yz_at (F2 := yn22b_15.2.2.2.1) hL yq22b_14 (by decide +kernel) (yN22b_15 hL)
theorem yN22b_13 (hL : L ≤ 3584) : yzG L xs yn22b_13.1 yn22b_13.2.2.2.1 := yz_at (F2 := yn22b_14.2.2.2.1) hL yq22b_13 (by decide +kernel) (yN22b_14 hL)
theorem yN22b_11 (hL : L ≤ 3584) : yzG L xs yn22b_11.1 yn22b_11.2.2.2.1 := yz_at (F2 := yn22b_13.2.2.2.1) hL yq22b_11 (by decide +kernel) (yN22b_13 hL)
theorem yN22b_10 (hL : L ≤ 3584) : yzG L xs yn22b_10.1 yn22b_10.2.2.2.1 := yz_to hL yq22b_10 (by
  intro c hc
  simp only [List.mem_cons, List.not_mem_nil, or_false] at hc
  rcases hc with rfl | rfl
  · exact yN22b_11 hL
  · exact yN22b_12 hL)
theorem yN22b_9 (hL : L ≤ 3584) : yzG L xs yn22b_9.1 yn22b_9.2.2.2.1 := yz_at (F2 := yn22b_10.2.2.2.1) hL yq22b_9 (by decide +kernel) (yN22b_10 hL)
theorem yN22b_8 (hL : L ≤ 3584) : yzG L xs yn22b_8.1 yn22b_8.2.2.2.1 := yz_at (F2 := yn22b_9.2.2.2.1) hL yq22b_8 (by decide +kernel) (yN22b_9 hL)
theorem yN22b_7 (hL : L ≤ 3584) : yzG L xs yn22b_7.1 yn22b_7.2.2.2.1 := yz_at (F2 := yn22b_8.2.2.2.1) hL yq22b_7 (by decide +kernel) (yN22b_8 hL)
theorem yN22b_6 (hL : L ≤ 3584) : yzG L xs yn22b_6.1 yn22b_6.2.2.2.1 := yz_at (F2 := yn22b_7.2.2.2.1) hL yq22b_6 (by decide +kernel) (yN22b_7 hL)
theorem yN22b_5 (hL : L ≤ 3584) : yzG L xs yn22b_5.1 yn22b_5.2.2.2.1 := yz_at (F2 := yn22b_6.2.2.2.1) hL yq22b_5 (by decide +kernel) (yN22b_6 hL)
theorem yN22b_4 (hL : L ≤ 3584) : yzG L xs yn22b_4.1 yn22b_4.2.2.2.1 := yz_at (F2 := yn22b_5.2.2.2.1) hL yq22b_4 (by decide +kernel) (yN22b_5 hL)
theorem yN22b_3 (hL : L ≤ 3584) : yzG L xs yn22b_3.1 yn22b_3.2.2.2.1 := yz_at (F2 := yn22b_4.2.2.2.1) hL yq22b_3 (by decide +kernel) (yN22b_4 hL)
theorem yN22b_2 (hL : L ≤ 3584) : yzG L xs yn22b_2.1 yn22b_2.2.2.2.1 := yz_at (F2 := yn22b_3.2.2.2.1) hL yq22b_2 (by decide +kernel) (yN22b_3 hL)
theorem yN22b_1 (hL : L ≤ 3584) : yzG L xs yn22b_1.1 yn22b_1.2.2.2.1 := yz_to hL yq22b_1 (by
  intro c hc
  simp only [List.mem_cons, List.not_mem_nil, or_false] at hc
  rcases hc with rfl
  · exact yN22b_2 hL)
theorem yN22b_0 (hL : L ≤ 3584) : yzG L xs yxs_11 [(.var 192, 1, 9), (.var 192, 0, 9), (.var 192, 0, 2147483647), (.pow (.add (.var 64) (.num 63)) 17, 22, 22), (.pow (.add (.var 64) (.num 63)) 17, 0, 54), (.var 0, 7, 7), (.var 0, 0, 7)] := yz_to hL yq22b_0 (by
  intro c hc
  simp only [List.mem_cons, List.not_mem_nil, or_false] at hc
  rcases hc with rfl
  · exact yN22b_1 hL)
theorem yp_22b (hL : L ≤ 3584) : yzG L xs yxs_11 [(.var 192, 1, 9), (.var 192, 0, 9), (.var 192, 0, 2147483647), (.pow (.add (.var 64) (.num 63)) 17, 22, 22), (.pow (.add (.var 64) (.num 63)) 17, 0, 54), (.var 0, 7, 7), (.var 0, 0, 7)] := yN22b_0 hL
theorem yp_22 (hL : L ≤ 3584) : yzG L xs yxs_11 [(.pow (.add (.var 64) (.num 63)) 17, 22, 22), (.pow (.add (.var 64) (.num 63)) 17, 0, 54), (.var 0, 7, 7), (.var 0, 0, 7)] := yz_split (.var 192) (-2147483648) (-1) 2147483647 (by decide +kernel) (yp_22n hL) (yz_split (.var 192) 0 9 2147483647 (by decide +kernel) (yz_split (.var 192) 0 0 9 (by decide +kernel) (yp_22z hL) (yp_22b hL)) (yp_22g hL))
end YP1
