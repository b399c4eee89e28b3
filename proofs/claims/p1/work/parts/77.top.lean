noncomputable section YZ77
variable {L : Nat} {xs : Nat → Int32}
theorem yz_enum {s : xSt} {F : xF} (e : xjE) (n : Nat) (h0 : (xle 0 (xiv F e).1 && xle (xiv F e).2 (n : Int)) = true) (h : ∀ j : Nat, j ≤ n → yzG L xs s ((e, (j : Int), (j : Int)) :: F)) : yzG L xs s F := by
  intro r hr H
  rw [Bool.and_eq_true, xle_iff, xle_iff] at h0
  have a := xiv_s H e
  exact h (xden r e).toNat (by omega) r hr (xHc H (by omega) (by omega))
theorem yp_sw (hL : L ≤ 3584) (h48 : yzG L xs yxs_11 [(.pow (.add (.var 64) (.num 63)) 17, 48, 48), (.pow (.add (.var 64) (.num 63)) 17, 0, 54), (.var 0, 7, 7), (.var 0, 0, 7)]) : yzG L xs yxs_11 [(.pow (.add (.var 64) (.num 63)) 17, 0, 54), (.var 0, 7, 7), (.var 0, 0, 7)] := yz_enum (.pow (.add (.var 64) (.num 63)) 17) 54 (by decide +kernel) (fun j hj => by
  match j, hj with
  | 0, _ => exact yp_0 hL
  | 1, _ => exact yp_1 hL
  | 2, _ => exact yp_2 hL
  | 3, _ => exact yp_3 hL
  | 4, _ => exact yp_4 hL
  | 5, _ => exact yp_5 hL
  | 6, _ => exact yp_6 hL
  | 7, _ => exact yp_7 hL
  | 8, _ => exact yp_8 hL
  | 9, _ => exact yp_9 hL
  | 10, _ => exact yp_10 hL
  | 11, _ => exact yp_11 hL
  | 12, _ => exact yp_12 hL
  | 13, _ => exact yp_13 hL
  | 14, _ => exact yp_14 hL
  | 15, _ => exact yp_15 hL
  | 16, _ => exact yp_16 hL
  | 17, _ => exact yp_17 hL
  | 18, _ => exact yp_18 hL
  | 19, _ => exact yp_19 hL
  | 20, _ => exact yp_20 hL
  | 21, _ => exact yp_21 hL
  | 22, _ => exact yp_22 hL
  | 23, _ => exact yp_23 hL
  | 24, _ => exact yp_24 hL
  | 25, _ => exact yp_25 hL
  | 26, _ => exact yp_26 hL
  | 27, _ => exact yp_27 hL
  | 28, _ => exact yp_28 hL
  | 29, _ => exact yp_29 hL
  | 30, _ => exact yp_30 hL
  | 31, _ => exact yp_31 hL
  | 32, _ => exact yp_32 hL
  | 33, _ => exact yp_33 hL
  | 34, _ => exact yp_34 hL
  | 35, _ => exact yp_35 hL
  | 36, _ => exact yp_36 hL
  | 37, _ => exact yp_37 hL
  | 38, _ => exact yp_38 hL
  | 39, _ => exact yp_39 hL
  | 40, _ => exact yp_40 hL
  | 41, _ => exact yp_41 hL
  | 42, _ => exact yp_42 hL
  | 43, _ => exact yp_43 hL
  | 44, _ => exact yp_44 hL
  | 45, _ => exact yp_45 hL
  | 46, _ => exact yp_46 hL
  | 47, _ => exact yp_47 hL
  | 48, _ => exact h48
  | 49, _ => exact yp_49 hL
  | 50, _ => exact yp_50 hL
  | 51, _ => exact yp_51 hL
  | 52, _ => exact yp_52 hL
  | 53, _ => exact yp_53 hL
  | 54, _ => exact yp_54 hL
  | n + 55, h => exact absurd h (by omega))
theorem yp_all (hL : L ≤ 3584) (h48 : yzG L xs yxs_11 [(.pow (.add (.var 64) (.num 63)) 17, 48, 48), (.pow (.add (.var 64) (.num 63)) 17, 0, 54), (.var 0, 7, 7), (.var 0, 0, 7)]) : yzG L xs yxs_11 [(.var 0, 0, 7)] := yz_split (.var 0) 0 6 7 (by decide +kernel) (yp_56 hL) (yz_split (.pow (.add (.var 64) (.num 63)) 17) 0 54 63 (by decide +kernel) (yp_sw hL h48) (yp_55 hL))
theorem yp_start (hL : L ≤ 3584) (h48 : yzG L xs yxs_11 [(.pow (.add (.var 64) (.num 63)) 17, 48, 48), (.pow (.add (.var 64) (.num 63)) 17, 0, 54), (.var 0, 7, 7), (.var 0, 0, 7)]) : yzG L xs yxs_0 [(.var 0, 0, 7)] := yz_goes hL yxc_1 (yz_goes hL yxc_2 (yz_goes hL yxc_3 (yz_goes hL yxc_4 (yz_goes hL yxc_5 (yz_goes hL yxc_6 (yz_goes hL yxc_7 (yz_goes hL yxc_8 (yz_goes hL yxc_9 (yz_goes hL yxc_10 (yz_goes hL yxc_11 ((yp_all hL h48))))))))))))
/-- one call on the fresh object; batch is still wanting -/
theorem yp_run (hL : L ≤ 7) (h48 : yzG L xs yxs_11 [(.pow (.add (.var 64) (.num 63)) 17, 48, 48), (.pow (.add (.var 64) (.num 63)) 17, 0, 54), (.var 0, 7, 7), (.var 0, 0, 7)]) : ykRun L xs := by
  have h := yp_start (by omega) h48 (yxr L xs) (fun _ _ => rfl) ⟨yx_rok (by omega), fun q hq => by
    rw [List.mem_singleton] at hq
    subst hq
    show (0 : Int) ≤ (L : Int) ∧ (L : Int) ≤ 7
    omega⟩
  obtain ⟨k, u, hu, hP⟩ := h
  have hP : yzP (ycmore 0 0 u) := hP
  rw [yc_more0] at hP
  refine ⟨k, u, ?_, hP⟩
  have e : xdH (yfT (ykold L xs)) (yxr L xs) yxs_0.2.2.1 = ykg0 := by
    show (fun a => bif Nat.blt a 0 then _ else _, 0, true) = _
    unfold ykg0
    congr 1
  rw [e] at hu
  exact hu
end YZ77
