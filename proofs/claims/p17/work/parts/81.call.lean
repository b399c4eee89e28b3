noncomputable section EZB
/-! E2: a call by contract is sound -/
variable {Q : ezR → Prop} {T : ycT} {r s : ezR} {F : xF}
theorem ezend_r (H : ezH Q r F) {P : ycL → Prop} {E : ezEn_} {k : ezCo_} (hk : ezKok T Q r P k) {sort : Nat} {v : xV} {g : ezHp} {f : xFr} {S : List xFr} {mc ms : Nat} (h : ezend E k sort v g (f :: S) mc ms F = true) : yvS T (ezdS r (f :: S)) P (sort, ezdv r v, mc, ms, ezhp T r g) := by
  unfold ezend at h
  match sort, h with
  | 0, h =>
    simp only [Bool.and_eq_true, xfn_s] at h
    obtain ⟨n, w, c1, c2⟩ := hk _ _ _ _ _ _ _ h.2 H
    refine ⟨n, ycmore mc ms w, ?_, ?_⟩
    · show (bif Nat.beq f.2.2.2.2.1 0 then ycthen mc ms (ycrun T n f.1 (f.2.1 + 3, ezdl r f.2.2.1, f.2.2.2.1.map (ezdv r)) ((ezhp T r g).1, (ezhp T r g).2.1, (ezhp T r g).2.2 && (r.2.2 && f.2.2.2.2.2.1))) else none) = _
      have c1 : ycrun T n f.1 (f.2.1 + 3, ezdl r f.2.2.1, f.2.2.2.1.map (ezdv r)) (ezhp T r (g.1, g.2.1, g.2.2 && f.2.2.2.2.2.1)) = some w := c1
      rw [h.1, ezhp_fl, c1]; rfl
    · rw [yc_more]
      exact c2
  | 1, h =>
    simp only [Bool.and_eq_true, xfn_s] at h
    obtain ⟨n, w, c1, c2⟩ := hk _ _ _ _ _ _ _ h.2 H
    refine ⟨n, ycmore mc ms w, ?_, ?_⟩
    · show (bif Nat.beq f.2.2.2.2.1 0 then none else ycthen mc ms (ycrun T n f.1 (f.2.1 + 3, ezdl r f.2.2.1, ezdv r v :: f.2.2.2.1.map (ezdv r)) ((ezhp T r g).1, (ezhp T r g).2.1, (ezhp T r g).2.2 && (r.2.2 && f.2.2.2.2.2.1)))) = _
      have c1 : ycrun T n f.1 (f.2.1 + 3, ezdl r f.2.2.1, ezdv r v :: f.2.2.2.1.map (ezdv r)) (ezhp T r (g.1, g.2.1, g.2.2 && f.2.2.2.2.2.1)) = some w := c1
      rw [xbnot h.1, ezhp_fl, c1]; rfl
    · rw [yc_more]
      exact c2
  | k9 + 2, h => cases h
theorem ezfr_n {N : Nat} {x : Int} {n : Nat} {H : Int → Int → Int} : (ezfr r N x n H).2.1 n = H := if_pos rfl
theorem ezfr_o {N : Nat} {x : Int} {n w : Nat} {H : Int → Int → Int} (h : w ≠ n) : (ezfr r N x n H).2.1 w = r.2.1 w := if_neg h
theorem ezfr_v {N : Nat} {x : Int} {n : Nat} {H : Int → Int → Int} : (ezfr r N x n H).1 N = x := if_pos rfl
theorem ezfr_w {N i : Nat} {x : Int} {n : Nat} {H : Int → Int → Int} (h : i ≠ N) : (ezfr r N x n H).1 i = r.1 i := if_neg h
theorem ezrs_0 {l : List (Nat × xjE)} {G0 G1 : Int → Int → Int} {b : Bool} : (ezrs r l G0 G1 b).2.1 0 = G0 := by
  unfold ezrs
  rfl
theorem ezrs_1 {l : List (Nat × xjE)} {G0 G1 : Int → Int → Int} {b : Bool} : (ezrs r l G0 G1 b).2.1 1 = G1 := by
  unfold ezrs
  rfl
theorem ezrs_v {l : List (Nat × xjE)} {G0 G1 : Int → Int → Int} {b : Bool} {i : Nat} {e : xjE} (h : ezlo l i = some e) : (ezrs r l G0 G1 b).1 i = ezden r e := by
  show (match ezlo l i with | some e => ezden r e | none => r.1 i) = _
  rw [h]
theorem ezrs_n {l : List (Nat × xjE)} {G0 G1 : Int → Int → Int} {b : Bool} {i : Nat} (h : ezlo l i = none) : (ezrs r l G0 G1 b).1 i = r.1 i := by
  show (match ezlo l i with | some e => ezden r e | none => r.1 i) = _
  rw [h]
theorem ezrs_sb {l : List (Nat × xjE)} {L0 L1 : List ezLy} {b : Bool} : ezsb r (ezrs r l (ezhh r L0) (ezhh r L1) b) l L0 L1 := ⟨fun _ _ h => ezrs_v h, fun _ h _ => ezrs_n h, ezrs_0, ezrs_1⟩
set_option maxHeartbeats 4000000 in
theorem ezcc_s {P : ycL → Prop} {E : ezEn_} {k : ezCo_} (hQ : ∀ (r : ezR) (N : Nat) (x : Int) (n : Nat) (G : Int → Int → Int), 8192 ≤ N → N % 64 ≠ 0 → 2 ≤ n → Q r → Q (ezfr r N x n G)) (hol : ∀ r, Q r → ezol T r) (hE : ∀ r, ezEok T Q r P E) (hk : ∀ r, ezKok T Q r P k) {cm : Nat} {c : ezCon} (hc : ezMet T cm c) (H : ezH Q r F) {lv : List (Nat × xV)} {g : ezHp} {S : List xFr} (h : ezcc T E k c lv g S F = true) : yvG T (ezdS r S) P cm (0, ezdl r lv, []) (ezhp T r g) 0 0 := by
  unfold ezcc at h
  split at h
  · cases h
  · rename_i f S2
    split at h
    · cases h
    · rename_i l e1
      rw [Bool.and_eq_true] at h
      obtain ⟨ha, h⟩ := h
      simp only [Bool.and_eq_true] at ha
      obtain ⟨hu, hlh, hn2, hv1, hv2⟩ := ha
      have hn2 := Nat.ble_eq.mp hn2
      have hv1 := Nat.ble_eq.mp hv1
      have hv2 := Nat.ne_of_beq_eq_false (xbnot hv2)
      obtain ⟨F2, H2, h2, hpre⟩ := ezchk_s (ezrs_sb (b := r.2.2 && g.2.2)) c.2.1 H h
      rw [xfn_s, xfn_s, xfn_s, Bool.and_eq_true, Bool.and_eq_true] at h2
      obtain ⟨⟨hsc, hexc⟩, hcas⟩ := h2
      simp only [Bool.and_eq_true] at hsc
      obtain ⟨sF, sY, sW, sl⟩ := hsc
      have hl := ezpar_s H _ _ _ e1
      have hHT := ezlh_s H g.1 hlh
      have ok0 : ezrok (ezrs r l (ezhh r g.1) (ezhh r g.1) (r.2.2 && g.2.2)) := ezrs_ok H.1.1 hl hHT hHT
      have hol0 : ezol T (ezrs r l (ezhh r g.1) (ezhh r g.1) (r.2.2 && g.2.2)) := ezol_c (fun i hi => ezrs_n (ezlo_s0 hl hi)) (hol r H.1.2)
      obtain ⟨kk, u, hu1, v, G, ok1, hfr, hpost⟩ := hc _ ok0 hol0 hpre
      have eL : ezdl (ezrs r l (ezhh r g.1) (ezhh r g.1) (r.2.2 && g.2.2)) c.1 = ezdl r lv := ezpar_n H _ _ _ e1 (fun q hq => ezrs_v (ezu_s hu q hq))
      rw [eL, ezrs_0] at hu1
      refine ⟨kk, u, hu1, ?_⟩
      show yvS T (ezdS r (f :: S2)) P (ycmore 0 0 u)
      rw [yc_more0]
      have hN : (8192 + 64 * g.2.1 + c.2.2.1.2.2 % 64) % 64 = c.2.2.1.2.2 % 64 := by omega
      have ag : ezag (8192 + 64 * g.2.1) g.2.1 (ezfr r (8192 + 64 * g.2.1 + c.2.2.1.2.2 % 64) v g.2.1 G) r := ezfr_ag (by omega) (by rw [hN]; exact hv2) (Nat.le_refl _)
      have eN : (ezfr r (8192 + 64 * g.2.1 + c.2.2.1.2.2 % 64) v g.2.1 G).1 (8192 + 64 * g.2.1 + c.2.2.1.2.2 % 64) = v := if_pos rfl
      have en : (ezfr r (8192 + 64 * g.2.1 + c.2.2.1.2.2 % 64) v g.2.1 G).2.1 g.2.1 = G := if_pos rfl
      have e1v : (ezfr (ezrs r l (ezhh r g.1) (ezhh r g.1) (r.2.2 && g.2.2)) c.2.2.1.2.2 v 1 G).1 c.2.2.1.2.2 = v := if_pos rfl
      have e1n : (ezfr (ezrs r l (ezhh r g.1) (ezhh r g.1) (r.2.2 && g.2.2)) c.2.2.1.2.2 v 1 G).2.1 1 = G := ezfr_n
      have hG : ezHT G := by have := ok1.2.2 1; rw [e1n] at this; exact this
      have ok2 : ezrok (ezfr r (8192 + 64 * g.2.1 + c.2.2.1.2.2 % 64) v g.2.1 G) := by
        refine ⟨fun i => ?_, fun i => ?_, fun w => ?_⟩
        · by_cases hi : i = 8192 + 64 * g.2.1 + c.2.2.1.2.2 % 64
          · rw [hi, eN, xvr_m hN]
            have := ok1.1 c.2.2.1.2.2
            rw [e1v] at this
            exact this
          · rw [show (ezfr r (8192 + 64 * g.2.1 + c.2.2.1.2.2 % 64) v g.2.1 G).1 i = r.1 i from if_neg hi]
            exact H.1.1.1 i
        · by_cases hi : i = 8192 + 64 * g.2.1 + c.2.2.1.2.2 % 64
          · rw [hi, eN, ezDv_m hN]
            have := ok1.2.1 c.2.2.1.2.2
            rw [e1v] at this
            exact this
          · rw [show (ezfr r (8192 + 64 * g.2.1 + c.2.2.1.2.2 % 64) v g.2.1 G).1 i = r.1 i from if_neg hi]
            exact H.1.1.2.1 i
        · by_cases hw : w = g.2.1
          · rw [hw, en]; exact hG
          · rw [show (ezfr r (8192 + 64 * g.2.1 + c.2.2.1.2.2 % 64) v g.2.1 G).2.1 w = r.2.1 w from if_neg hw]
            exact H.1.1.2.2 w
      have Q2 := hQ r (8192 + 64 * g.2.1 + c.2.2.1.2.2 % 64) v g.2.1 G (by omega) (by rw [hN]; exact hv2) hn2 H.1.2
      have H3 : ezH Q (ezfr r (8192 + 64 * g.2.1 + c.2.2.1.2.2 % 64) v g.2.1 G) F2 := ⟨⟨ok2, Q2⟩, ezsF_s (ezag_s ag) sF H2.2⟩
      have eY : ezhh (ezfr r (8192 + 64 * g.2.1 + c.2.2.1.2.2 % 64) v g.2.1 G) g.1 = ezhh r g.1 := ezsY_s ag (by omega) sY
      have eW : ezdS (ezfr r (8192 + 64 * g.2.1 + c.2.2.1.2.2 % 64) v g.2.1 G) (f :: S2) = ezdS r (f :: S2) := ezsW_s ag sW
      have eH : ezhh (ezfr r (8192 + 64 * g.2.1 + c.2.2.1.2.2 % 64) v g.2.1 G) (bif Nat.beq c.2.2.2.1 0 then g.1 else (g.2.1 + 1, (.num 0, .num 0, .num 0), c.2.2.2.1) :: g.1) = G := by
        funext a j
        have hfr := hfr a j
        rw [ezrs_0] at hfr
        cases hm : Nat.beq c.2.2.2.1 0 with
        | true =>
          have e0 := Nat.eq_of_beq_eq_true hm
          show ezhh _ g.1 a j = _
          rw [eY]
          rw [e0] at hfr
          exact (hfr (Nat.zero_testBit _)).symm
        | false =>
          show (bif Nat.testBit c.2.2.2.1 (ezlc a j) then (ezfr r (8192 + 64 * g.2.1 + c.2.2.1.2.2 % 64) v g.2.1 G).2.1 g.2.1 a j else ezhh _ g.1 a j) = _
          rw [en, eY]
          cases hb : Nat.testBit c.2.2.2.1 (ezlc a j) with
          | true => rfl
          | false => exact (hfr hb).symm
      rw [← eW]
      generalize hr2 : ezfr r (8192 + 64 * g.2.1 + c.2.2.1.2.2 % 64) v g.2.1 G = r2 at *
      have hkn : r2.2.2 = r.2.2 := ag.2.2
      rcases hpost with ⟨q, hq, hue, hfa⟩ | ⟨e, he, hue⟩
      · have h5 := List.all_eq_true.mp hcas q hq
        have sb : ezsb r2 (ezfr (ezrs r l (ezhh r g.1) (ezhh r g.1) (r.2.2 && g.2.2)) c.2.2.1.2.2 v 1 G) ((c.2.2.1.2.2, .var (8192 + 64 * g.2.1 + c.2.2.1.2.2 % 64)) :: l) g.1 (bif Nat.beq c.2.2.2.1 0 then g.1 else (g.2.1 + 1, (.num 0, .num 0, .num 0), c.2.2.2.1) :: g.1) := by
          refine ⟨fun i e hi => ?_, fun i hi hlt => ?_, ?_, ?_⟩
          · have hi : (bif Nat.beq c.2.2.1.2.2 i then some (.var (8192 + 64 * g.2.1 + c.2.2.1.2.2 % 64)) else ezlo l i) = some e := hi
            cases hb : Nat.beq c.2.2.1.2.2 i with
            | true =>
              rw [hb] at hi
              cases Option.some.inj hi
              rw [← Nat.eq_of_beq_eq_true hb, e1v]
              exact eN.symm
            | false =>
              rw [hb] at hi
              have hi : ezlo l i = some e := hi
              have hne : i ≠ c.2.2.1.2.2 := fun z => by rw [z, Nat.beq_refl] at hb; cases hb
              rw [show (ezfr (ezrs r l (ezhh r g.1) (ezhh r g.1) (r.2.2 && g.2.2)) c.2.2.1.2.2 v 1 G).1 i = (ezrs r l (ezhh r g.1) (ezhh r g.1) (r.2.2 && g.2.2)).1 i from if_neg hne, ezrs_v hi]
              exact (ezsco_s ag _ (List.all_eq_true.mp sl _ (ezlo_m hi))).symm
          · have hi : (bif Nat.beq c.2.2.1.2.2 i then some (.var (8192 + 64 * g.2.1 + c.2.2.1.2.2 % 64)) else ezlo l i) = none := hi
            cases hb : Nat.beq c.2.2.1.2.2 i with
            | true => rw [hb] at hi; cases hi
            | false =>
              rw [hb] at hi
              have hi : ezlo l i = none := hi
              have hne : i ≠ c.2.2.1.2.2 := fun z => by rw [z, Nat.beq_refl] at hb; cases hb
              rw [show (ezfr (ezrs r l (ezhh r g.1) (ezhh r g.1) (r.2.2 && g.2.2)) c.2.2.1.2.2 v 1 G).1 i = (ezrs r l (ezhh r g.1) (ezhh r g.1) (r.2.2 && g.2.2)).1 i from if_neg hne, ezrs_n hi]
              exact (ag.1 i (Or.inl (by omega))).symm
          · rw [ezfr_o (by decide), ezrs_0, eY]
          · rw [e1n, eH]
        obtain ⟨F3, H4, h6⟩ := ezasm_s sb q.2 H3 hfa h5
        rw [ezctra_s H4, Bool.false_or] at h6
        have h7 := ezend_r H4 (hk r2) h6
        have eu : u = (c.2.2.1.1, ezdv r2 (bif Nat.beq c.2.2.1.1 0 then (3, .num 0) else (c.2.2.1.2.1, .var (8192 + 64 * g.2.1 + c.2.2.1.2.2 % 64))), q.1, 6 * q.1, ezhp T r2 ((bif Nat.beq c.2.2.2.1 0 then g.1 else (g.2.1 + 1, (.num 0, .num 0, .num 0), c.2.2.2.1) :: g.1), g.2.1 + 1, (g.2.2 && Nat.beq q.1 0))) := by
          rw [hue]
          have ea : (bif Nat.beq c.2.2.1.1 0 then ((3, 0) : ycV) else (c.2.2.1.2.1, v)) = ezdv r2 (bif Nat.beq c.2.2.1.1 0 then (3, .num 0) else (c.2.2.1.2.1, .var (8192 + 64 * g.2.1 + c.2.2.1.2.2 % 64))) := by
            cases Nat.beq c.2.2.1.1 0 with
            | true => rfl
            | false =>
              show (c.2.2.1.2.1, v) = (c.2.2.1.2.1, r2.1 _)
              rw [eN]
          have eb : ezhp1 T G ((ezrs r l (ezhh r g.1) (ezhh r g.1) (r.2.2 && g.2.2)).2.2 && Nat.beq q.1 0) = ezhp T r2 ((bif Nat.beq c.2.2.2.1 0 then g.1 else (g.2.1 + 1, (.num 0, .num 0, .num 0), c.2.2.2.1) :: g.1), g.2.1 + 1, (g.2.2 && Nat.beq q.1 0)) := by
            show ezhp1 T G ((r.2.2 && g.2.2) && Nat.beq q.1 0) = ezhp1 T (ezhh r2 _) (r2.2.2 && (g.2.2 && Nat.beq q.1 0))
            rw [eH, hkn, Bool.and_assoc]
          rw [ea, eb]
        rw [eu]
        exact h7
      · have h5 := List.all_eq_true.mp hexc e he
        have h7 := ezthr_s H3 (hE r2) (hk r2) (f :: S2) _ 1 6 h5
        have eu : u = (e + 2, (3, 0), 1, 6, ezhp T r2 ((bif Nat.beq c.2.2.2.1 0 then g.1 else (g.2.1 + 1, (.num 0, .num 0, .num 0), c.2.2.2.1) :: g.1), g.2.1 + 1, false)) := by
          rw [hue]
          have eb : ezhp1 T G false = ezhp T r2 ((bif Nat.beq c.2.2.2.1 0 then g.1 else (g.2.1 + 1, (.num 0, .num 0, .num 0), c.2.2.2.1) :: g.1), g.2.1 + 1, false) := by
            show ezhp1 T G false = ezhp1 T (ezhh r2 _) (r2.2.2 && false)
            rw [eH, Bool.and_false]
          rw [eb]
        rw [eu]
        exact h7
end EZB
