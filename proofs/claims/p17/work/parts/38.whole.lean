section YL1
/-! THE CLAIM OUT OF A RUN OF THE CLEAN MACHINE (the frame of this part began as kit/laws/SKELETON.whole.lean.txt) -/
def ykg0 : ycH := (fun _ => (0, 0, fun _ => (0, 0)), 0, true)
/-- the run that is owed, over a script of L ints -/
def ykRun (L : Nat) (xs : Nat → Int32) : Prop := ∃ (k : Nat) (u : ycL), ycrun (yfT (ykold L xs)) k ykmid (0, [(0, (4, 0))], []) ykg0 = some u ∧ u.1 = 1 ∧ u.2.1 = (0, 1) ∧ u.2.2.1 ≤ 601024 ∧ u.2.2.2.1 ≤ 7293034
def R_law : String := "PictureCodingHouseLaw"
def lw_P (b : Addr) (xs : List Int32) (args : Array Value) (s : State) : Prop := args = #[.ref b] ∧ s.IntsAt b xs ∧ xs.length ≤ 3584 ∧ (Jvm.Cond.and given_1 narrow_1).before args s = true
def lw_Q (_ : Array Value) (s : State) (o : Outcome) (t : State) : Prop := o = .returned (some (.int 1)) ∧ Framed s o t [] 601024 7293034
def lw_Z (below : List Frame) (a : Array Value) (s : State) : State → Prop := fun t => ∃ o, t.status = .running ∧ Ended t below o ∧ lw_Q a s o t
def lw_At (p : Program) (s : State) (m : MethodId) (meth : Method) (c : Code) (b L : Nat) (xs : Nat → Int32) : Prop :=
  p.tables.exec = Jvm.exec ∧ c.code = code ∧ meth.sig.returnType = ret ∧ c.maxLocals = 8 ∧ s.vm.findClass R_law = some m.cls ∧ (∀ w ∈ ydall9, w.before #[Value.ref b] s = true) ∧ va_X b L xs s s.heap ∧ b < s.heap.size ∧ meth.locks = false ∧ (Jvm.Cond.and given_1 narrow_1).before #[Value.ref b] s = true ∧ (∀ x ∈ c.exceptionTable.toList, False)
theorem ykm_N : (yfN ykmid).cls = R_law := by decide +kernel
theorem ykm_B : yfB ykmid = code := rfl
theorem ykm_R : yfR ykmid = ret := rfl
theorem ykm_MI : (ytMI (yfT (ykold 0 (fun _ => 0))) ykmid) = (1, 8, 2, false, 99) := by decide +kernel
theorem ykm_HD : (ytHD (yfT (ykold 0 (fun _ => 0))) ykmid) = [] := by decide +kernel
theorem ykm_RM : Nat.ble (ytRM (yfT (ykold 0 (fun _ => 0))) ykmid).1 17 && Nat.ble (ytRM (yfT (ykold 0 (fun _ => 0))) ykmid).2 698 = true := by decide +kernel
theorem ykflags : ∀ l : Launch, l.flags = flags0 → l.stackTraces = false := by
  intro l h
  unfold Launch.stackTraces
  rw [h]
  decide +kernel
set_option maxHeartbeats 4000000 in
theorem whole_start (hok : ∀ (L : Nat) (xs : Nat → Int32), ycok (yfT (ykold L xs)) ydTs yfNs yfsn yfcl yfN yfB yfR (fun _ => True)) {p : Program} {e : Env} {s : State} {m : MethodId} {below : List Frame} {meth : Method} {c : Code} (l : Launch) (hflags : l.flags = flags0) {b L : Nat} {xs : Nat → Int32} (hrun : ykRun L xs) (C0 : lw_At p s m meth c b L xs) : W p l e room_1 s m #[Value.ref b] below meth c s.heap [] 0 0 (lw_Z below #[Value.ref b] s) (entryFrame m ([Value.ref b] : List Value).toArray 8) := by
  obtain ⟨hx, hb, hr, hml, hown, hts9, hX, hbl, hlocks, hgv, htab⟩ := C0
  obtain ⟨k, u, hu, hu1, hu2, hu3, hu4⟩ := hrun
  have hts : ∀ w ∈ ydTs, w.before #[Value.ref b] s = true := fun w hw => hts9 w (List.mem_filter.mp hw).1
  have hF : ∀ w ∈ ykF, w.before #[Value.ref b] s = true := flat_of_before _ hgv
  have hA0 : ∀ a : Nat, a < s.heap.size → ¬ (fun q : Nat => s.heap.size ≤ q) a := fun a h => Nat.not_le.mpr h
  obtain ⟨t1, X1, l1, n1, Z1⟩ := ykst_s (A := fun q : Nat => s.heap.size ≤ q) ykc_1 hF (hts9 _ yks_1) (hts _ ykw_p) (by decide) hA0
  obtain ⟨t2, X2, l2, n2, Z2⟩ := ykst_s (A := fun q : Nat => s.heap.size ≤ q) ykc_2 hF (hts9 _ yks_2) (hts _ ykw_p) (by decide) hA0
  obtain ⟨t3, X3, l3, n3, Z3⟩ := ykst_s (A := fun q : Nat => s.heap.size ≤ q) ykc_3 hF (hts9 _ yks_3) (hts _ ykw_p) (by decide) hA0
  obtain ⟨t4, X4, l4, n4, Z4⟩ := ykst_s (A := fun q : Nat => s.heap.size ≤ q) ykc_4 hF (hts9 _ yks_4) (hts _ ykw_p) (by decide) hA0
  obtain ⟨t5, X5, l5, n5, Z5⟩ := ykst_s (A := fun q : Nat => s.heap.size ≤ q) ykc_5 hF (hts9 _ yks_5) (hts _ ykw_p) (by decide) hA0
  obtain ⟨oa, hoa⟩ : ∃ oa : Nat → Nat, oa 0 = b ∧ oa 1 = t1 ∧ oa 2 = t2 ∧ oa 3 = t3 ∧ oa 4 = t4 ∧ oa 5 = t5 := ⟨fun k => match k with | 0 => b | 1 => t1 | 2 => t2 | 3 => t3 | 4 => t4 | _ => t5, rfl, rfl, rfl, rfl, rfl, rfl⟩
  obtain ⟨o0, o1, o2, o3, o4, o5⟩ := hoa
  have hold : ycold (ykold L xs) oa (fun q : Nat => s.heap.size ≤ q) s s.heap := by
    intro k hk
    match k, hk with
    | 0, _ =>
      refine ⟨?_, by rw [o0]; exact hbl, by rw [o0]; exact hA0 b hbl⟩
      rw [o0]
      have e9 : (fun j => Int32.ofInt ((ykold L xs 0).2 j)) = xs := by
        funext j
        exact Int32.ofInt_toInt (xs j)
      rw [e9]
      exact hX
    | 1, _ => rw [o1]; exact ⟨X1, l1, n1⟩
    | 2, _ => rw [o2]; exact ⟨X2, l2, n2⟩
    | 3, _ => rw [o3]; exact ⟨X3, l3, n3⟩
    | 4, _ => rw [o4]; exact ⟨X4, l4, n4⟩
    | 5, _ => rw [o5]; exact ⟨X5, l5, n5⟩
    | k + 6, h => exact absurd h (by omega)
  have hZs : ∀ k, 1 ≤ k → k < 6 → va_Z (yfsn k).1 (yfsn k).2 "[I" (.ref (oa k)) (fun q : Nat => s.heap.size ≤ q) s s.heap := by
    intro k k1 k2
    match k, k1, k2 with
    | 1, _, _ => rw [o1]; exact Z1
    | 2, _, _ => rw [o2]; exact Z2
    | 3, _, _ => rw [o3]; exact Z3
    | 4, _, _ => rw [o4]; exact Z4
    | 5, _, _ => rw [o5]; exact Z5
    | k + 6, _, h => exact absurd h (by omega)
  have hE : ycEnv yfNs (ykold L xs) yfsn oa (fun q : Nat => s.heap.size ≤ q) s s.heap := by
    refine ⟨fun q hq => va_Nc.of (hF _ (of_decide_eq_true (List.all_eq_true.mp ykc_nc q hq))), hold, hZs, vx_Zqof (hts9 _ ykt_U) (hts9 _ ykt_i) ?_ hA0, vx_Zqof (hts9 _ ykt_S) (hts9 _ ykt_i) ?_ hA0⟩
    · exact hF _ (List.mem_of_getElem? (i := 4) (by decide +kernel))
    · exact hF _ (List.mem_of_getElem? (i := 5) (by decide +kernel))
  obtain ⟨D, hD1⟩ : ∃ D : va_G, ∀ (k : Nat) (q : vw_C), yfcl[k]? = some q → u_Kn s q.1 q.2.1 q.2.2 (D.1 k) (D.2 k) := by
    have h9 : ∀ k : Nat, ∃ cI : ClassId × (Nat → Nat), ∀ q : vw_C, yfcl[k]? = some q → u_Kn s q.1 q.2.1 q.2.2 cI.1 cI.2 := by
      intro k
      by_cases hk : k < 14
      · have hq : ∃ q, yeK[k]? = some q := ⟨_, List.getElem?_eq_getElem (by rw [ykc_len]; exact hk)⟩
        obtain ⟨q, hq⟩ := hq
        obtain ⟨k1, k2⟩ := yj_K yi_K hq
        obtain ⟨f1, f2, f3, f4⟩ := ydkok_s k1
        have hi := ydw_s (List.all_eq_true.mp ykc_inst k (List.mem_range.mpr hk))
        have e2 : yfk k = q := by unfold yfk; rw [hq]; rfl
        rw [e2] at hi
        obtain ⟨c0, i0, h0⟩ := u_known (C := q.1) (T := ydF q) (N := q.2.1.length) (n := q.2.1.length) hts f1 (hts _ hi)
        refine ⟨(c0, i0), fun q2 h2 => ?_⟩
        rw [k2] at h2
        cases h2
        exact h0
      · refine ⟨(0, fun _ => 0), fun q h2 => ?_⟩
        have : yfcl[k]? = none := List.getElem?_eq_none (by unfold yfcl; rw [List.length_map, ykc_len]; omega)
        rw [this] at h2
        cases h2
    obtain ⟨f, hf⟩ := Classical.axiomOfChoice h9
    exact ⟨(fun k => (f k).1, fun k => (f k).2), fun k q hq => hf k q hq⟩
  obtain ⟨c14, a14⟩ := yk_prim (Or.inl rfl) (hts _ ykw_i)
  obtain ⟨c15, a15⟩ := yk_prim (Or.inr (Or.inl rfl)) (hts _ ykw_l)
  obtain ⟨c16, a16⟩ := yk_prim (Or.inr (Or.inr rfl)) (hts _ ykw_b)
  obtain ⟨c17, a17⟩ := yk_refs (hts _ ykw_r)
  obtain ⟨c18, a18⟩ := yk_refs (hts _ ykw_g)
  obtain ⟨c19, a19⟩ := yk_arrs (hts _ ykw_ai)
  obtain ⟨c20, a20⟩ := yk_arrs (hts _ ykw_al)
  obtain ⟨tc, htc⟩ : ∃ tc : Nat → ClassId, tc 14 = c14 ∧ tc 15 = c15 ∧ tc 16 = c16 ∧ tc 17 = c17 ∧ tc 18 = c18 ∧ tc 19 = c19 ∧ tc 20 = c20 := ⟨fun k => match k with | 14 => c14 | 15 => c15 | 16 => c16 | 17 => c17 | 18 => c18 | 19 => c19 | _ => c20, rfl, rfl, rfl, rfl, rfl, rfl, rfl⟩
  obtain ⟨r14, r15, r16, r17, r18, r19, r20⟩ := htc
  subst r14 r15 r16 r17 r18 r19 r20
  have hK : va_K D yfcl (yctys tc) s := by
    refine ⟨hD1, fun k q hq => ?_⟩
    match k, hq with
    | 0, hq => cases hq; exact a14
    | 1, hq => cases hq; exact a15
    | 2, hq => cases hq; exact a16
    | 3, hq => cases hq; exact a17
    | 4, hq => cases hq; exact a18
    | 5, hq => cases hq; exact a19
    | 6, hq => cases hq; exact a20
    | k + 7, hq => cases hq
  have hRM : (ytRM (yfT (ykold L xs)) ykmid).1 ≤ 17 ∧ (ytRM (yfT (ykold L xs)) ykmid).2 ≤ 698 := by
    have := ykm_RM
    rw [Bool.and_eq_true] at this
    exact ⟨Nat.ble_eq.mp this.1, Nat.ble_eq.mp this.2⟩
  have hMI : ytMI (yfT (ykold L xs)) ykmid = (1, 8, 2, false, 99) := ykm_MI
  have hHD : ytHD (yfT (ykold L xs)) ykmid = [] := ykm_HD
  have hcx : ycCx p l e room_1 s m #[Value.ref b] meth c D yfcl tc (fun k => s.heap.size + k) oa yfNs yfsn (yfT (ykold L xs)) ydTs yfN yfB yfR (fun q : Nat => s.heap.size ≤ q) ykmid := by
    refine ⟨hx, ykflags l hflags, hb.trans ykm_B.symm, by rw [hMI]; exact hml, hr.trans ykm_R.symm, hlocks, by rw [ykm_N]; exact hown, hts, fun z => (by rw [hMI] at z; cases z), hK, fun q h => h, hE, ?_, hRM.1, hRM.2, fun k => rfl⟩
    rw [hHD]
    cases hL : c.exceptionTable.toList with
    | nil => rfl
    | cons x L9 => exact absurd (htab x (by rw [hL]; exact List.mem_cons_self)) id
  have hh := ycHold_all (l := l) (D := D) (tc := tc) (ad := fun k => s.heap.size + k) (oa := oa) (hok L xs) k p e room_1 s m #[Value.ref b] below meth c (fun q : Nat => s.heap.size ≤ q) ykmid hcx trivial u.2.2.1 u.2.2.2.1 u hu3 hu4 (0, [(0, (4, 0))], []) ykg0 u 0 0 hu ⟨rfl, rfl, rfl⟩ (Nat.zero_add _) (Nat.zero_add _)
  have hl := lv_entry ([Value.ref b]) (n := 8) (Nat.le_of_ble_eq_true rfl)
  rw [lg_entry_eq]
  have hP0 : va_P D yfcl (ycws (fun k => s.heap.size + k) oa tc ykg0.1 ykg0.2.1) s.heap := fun k q h => by cases h
  have hD0 : va_D (fun q : Nat => s.heap.size ≤ q) (ycws (fun k => s.heap.size + k) oa tc ykg0.1 ykg0.2.1) := ⟨fun i j p q h => by (cases h), fun k q h => by cases h⟩
  have hw := hh s.heap [] _ hP0 hD0 va_S.rf (fun _ => ⟨rfl, Nat.le_refl _⟩) (by rw [hMI]; rw [← o0] at hl; exact hl)
  intro T9 hT X9
  obtain ⟨t, a1, o, b1, b2, b3⟩ := hw T9 hT X9
  refine ⟨t, (by rw [← o0]; exact a1), o, b1, b2, ?_⟩
  rcases b3 with ⟨⟨-, hq, -, -⟩, L9, ⟨f1, f2, f3⟩, hL9⟩ | ⟨q9, -, E9, ce, L9, ⟨e9, h9, -⟩, -⟩
  · have ho : o = .returned (some (.int 1)) := by
      rw [hq]
      unfold ycrv
      rw [hu1, hu2]
      rfl
    refine ⟨ho, ⟨_, ho⟩, f2, ?_⟩
    exact f3.weaken (fun y hy hlt => absurd hlt (Nat.not_lt.mpr (hL9 y hy))) hu3 hu4
  · rw [hu1] at h9
    omega
end YL1
