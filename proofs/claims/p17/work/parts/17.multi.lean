section YC8
variable {p : Program} {l : Launch} {e : Env} {R : Room} {s : State} {m : MethodId} {args : Array Value} {below : List Frame} {meth : Method} {c : Code} {Q : State → Prop} {cl : List vw_C} {D : va_G} {A : Nat → Prop} {tc : Nat → ClassId} {ad oa : Nat → Nat} {nL cells slots : Nat}
variable {cc : ByteArray} {pc len : Nat} {lv : List (Nat × ycV)} {st : List ycV} {g g2 : ycH} {fr2 : ycF}
theorem yc_outer (c : ClassId) (N h0 : Nat) : ∀ i : Nat, Jvm.Free.Multi.outerC c N h0 i = arrV c N (fun j => va_rf (if j < i then some (h0 + 1 + j) else none))
  | 0 => by
    show ({ cls := c, slots := Array.replicate N .null, vm := .none } : Cell) = _
    rw [arrV_new]
    refine congrArg (arrV c N) (funext fun j => ?_)
    simp [va_rf]
  | i + 1 => by
    show (Jvm.Free.Multi.outerC c N h0 i).setSlot i (.ref (h0 + 1 + i)) = _
    rw [yc_outer c N h0 i, arrV_store]
    refine congrArg (arrV c N) (funext fun j => ?_)
    by_cases e : j = i
    · subst e
      simp [updV, va_rf]
    · by_cases h : j < i
      · simp [updV, e, h, Nat.lt_succ_of_lt h]
      · simp [updV, e, h, show ¬ j < i + 1 by omega]
theorem yc_arrV {c : ClassId} {N : Nat} {f f' : Nat → Value} (h : ∀ j, j < N → f j = f' j) : arrV c N f = arrV c N f' := by
  unfold arrV
  congr 1
  apply Array.ext
  · simp
  · intro i h1 h2
    simp only [Array.size_ofFn] at h1
    simp [h i h1]
/-- an array of N arrays of K -/
def ycmm (g : ycH) (ko ki N K : Nat) : ycH := (fun i => if i = g.2.1 then (ko, N, fun j => bif Nat.blt j N then (2, ((g.2.1 + 1 + j : Nat) : Int)) else ycadf ko) else if g.2.1 < i ∧ i ≤ g.2.1 + N then (ki, K, fun _ => ycadf ki) else g.1 i, g.2.1 + 1 + N, true)
theorem yc_adk (hadd : ∀ k, ad (k + 1) = ad k + 1) (a : Nat) : ∀ b, ad (a + b) = ad a + b
  | 0 => rfl
  | b + 1 => by rw [← Nat.add_assoc, hadd, yc_adk hadd a b]; rfl
def yckT (ki : Nat) : FieldType := bif Nat.beq ki 15 then .long else .int
theorem ycmul_s {own : String} {Ts : List Cond} {index ko ki : Nat} {n k : Int} (hexec : p.tables.exec = Jvm.exec) (hb : c.code = cc) (hown : s.vm.findClass own = some m.cls) (hts : ∀ w ∈ Ts, w.before args s = true) (hK : va_K D cl (yctys tc) s) (hA : ∀ q, s.heap.size ≤ q → A q) (hadd : ∀ k, ad (k + 1) = ad k + 1)
    (hkind : (ko = 19 ∧ ki = 14) ∨ (ko = 20 ∧ ki = 15)) (hlink : Cond.classLink own index ("[" ++ (FieldType.array (yckT ki)).toString) ∈ Ts) (hover : Cond.arrayOver (.array (yckT ki)) ∈ Ts) (harr : Cond.arrayClass (yckT ki) ∈ Ts) (hn : ycln n = true) (hk9 : ycln k = true) (hcells : cells + (1 + (y32 n).toNat) ≤ R.cells) (hslots : slots + ((y32 n).toNat + (y32 n).toNat * (y32 k).toNat) ≤ R.slots) (hg : g.2.2 = true) (hdg : decode cc pc = .ok (.multianewarray index 2, 4))
    (hk : ychold p l e R s m args below meth c Q cl D A tc ad oa nL (cells + (1 + (y32 n).toNat)) (slots + ((y32 n).toNat + (y32 n).toNat * (y32 k).toNat)) (pc + 4, lv, (2, (g.2.1 : Int)) :: st) (ycmm g ko ki (y32 n).toNat (y32 k).toNat)) : ychold p l e R s m args below meth c Q cl D A tc ad oa nL cells slots (pc, lv, (0, k) :: (0, n) :: st) g := by
  obtain ⟨n1, n2, n3⟩ := ycln_s hn
  obtain ⟨k1, k2, k3⟩ := ycln_s hk9
  intro H locs ls hP hD hS hm hl T hT X
  have hm := hm hg
  have hsz := ycsz X hT hm
  have hby : componentBytes (yckT ki) ≤ 8 := by rcases hkind with ⟨-, rfl⟩ | ⟨-, rfl⟩ <;> decide
  have hmul := Nat.mul_le_mul k3 hby
  obtain ⟨vm₁, cA, comp, -, fA, fC, hO, -, X', step⟩ := X.multianewarray2F hexec hown (hts _ hlink) (hts _ hover) (hts _ harr) (g := F0 m pc ls (Value.int (Int32.ofInt k) :: Value.int (Int32.ofInt n) :: st.map (ycv ad oa))) rfl (by rw [hb]; exact hdg) rfl n1 k1 (by rw [n2]; omega) (by rw [k2]; omega) (by rw [k2]; omega) (by rcases hkind with ⟨-, rfl⟩ | ⟨-, rfl⟩ <;> rfl) (by rcases hkind with ⟨-, rfl⟩ | ⟨-, rfl⟩ <;> rfl) (by rw [n2]; exact hcells) (by rw [n2, k2]; exact hslots)
  rw [n2, k2] at X' step
  generalize hF : Jvm.Free.Multi.fill (T.setVm vm₁) cA comp (y32 n).toNat (y32 k).toNat (defaultValue (yckT ki)) (y32 n).toNat = F at X' step
  have hTh : (T.setVm vm₁).heap = H := hT
  obtain ⟨f1, f2, -, -⟩ := Jvm.Free.Multi.fill_facts (T.setVm vm₁) cA comp (y32 n).toNat (y32 k).toNat (defaultValue (yckT ki)) (y32 n).toNat
  rw [hF, hTh] at f1 f2
  have hold : ∀ x : Nat, x < H.size → F.heap[x]? = H[x]? := fun x hx => by
    have := Jvm.Free.Multi.fill_old (T.setVm vm₁) cA comp (y32 n).toNat (y32 k).toNat (defaultValue (yckT ki)) (a := x) (by rw [hTh]; exact hx) (y32 n).toNat
    rw [hF, hTh] at this
    exact this
  have hrow : ∀ j : Nat, j < (y32 n).toNat → F.heap[H.size + 1 + j]? = some (Jvm.Free.Multi.innerC comp (y32 k).toNat (defaultValue (yckT ki))) := fun j hj => by
    have := Jvm.Free.Multi.fill_inner (T.setVm vm₁) cA comp (y32 n).toNat (y32 k).toNat (defaultValue (yckT ki)) (y32 n).toNat j hj
    rw [hF, hTh] at this
    exact this
  rw [yc_outer] at f2
  have hcA : cA = tc ko := by
    rcases hkind with ⟨rfl, rfl⟩ | ⟨rfl, rfl⟩
    · exact ycprim (hK.2 5 _ rfl).2 (Or.inr (Or.inr (Or.inr ⟨_, rfl⟩))) fA
    · exact ycprim (hK.2 6 _ rfl).2 (Or.inr (Or.inr (Or.inr ⟨_, rfl⟩))) fA
  have hcB : comp = tc ki := by
    rcases hkind with ⟨rfl, rfl⟩ | ⟨rfl, rfl⟩
    · exact Option.some.inj (fC.symm.trans (hK.2 0 _ rfl).2)
    · exact Option.some.inj (fC.symm.trans (hK.2 1 _ rfl).2)
  subst hcA
  subst hcB
  have hfsz : F.heap.size = H.size + 1 + (y32 n).toNat := f1
  have hadn : ∀ j, ad (g.2.1 + 1 + j) = H.size + 1 + j := fun j => by rw [Nat.add_assoc, yc_adk hadd, ← hsz]; omega
  have hin : ∀ i, i < g.2.1 + 1 + (y32 n).toNat → ¬ i < g.2.1 → i = g.2.1 ∨ ∃ j, j < (y32 n).toNat ∧ i = g.2.1 + 1 + j := fun i h1 h2 => by
    rcases Nat.eq_or_lt_of_not_lt h2 with z | z
    · exact Or.inl z
    · exact Or.inr ⟨i - g.2.1 - 1, by omega, by omega⟩
  have gold : ∀ i, i < g.2.1 → (ycmm g ko ki (y32 n).toNat (y32 k).toNat).1 i = g.1 i := fun i hi => by
    show (if i = g.2.1 then _ else if g.2.1 < i ∧ i ≤ g.2.1 + (y32 n).toNat then _ else g.1 i) = _
    rw [if_neg (by omega), if_neg (by omega)]
  have gout : (ycmm g ko ki (y32 n).toNat (y32 k).toNat).1 g.2.1 = (ko, (y32 n).toNat, fun j => bif Nat.blt j (y32 n).toNat then (2, ((g.2.1 + 1 + j : Nat) : Int)) else ycadf ko) := if_pos rfl
  have ginn : ∀ j, j < (y32 n).toNat → (ycmm g ko ki (y32 n).toNat (y32 k).toNat).1 (g.2.1 + 1 + j) = (ki, (y32 k).toNat, fun _ => ycadf ki) := fun j hj => by
    show (if g.2.1 + 1 + j = g.2.1 then _ else if g.2.1 < g.2.1 + 1 + j ∧ g.2.1 + 1 + j ≤ g.2.1 + (y32 n).toNat then _ else g.1 (g.2.1 + 1 + j)) = _
    rw [if_neg (by omega), if_pos ⟨by omega, by omega⟩]
  have h17 : 17 ≤ ko := by omega
  have hP1 : va_P D cl (ycws ad oa tc (ycmm g ko ki (y32 n).toNat (y32 k).toNat).1 (ycmm g ko ki (y32 n).toNat (y32 k).toNat).2.1) F.heap := by
    intro i q hq
    obtain ⟨hi, rfl⟩ := ycws_of hq
    by_cases h1 : i < g.2.1
    · rw [gold i h1]
      have h2 := hP i _ (ycws_at h1)
      exact h2.kept (hold _ h2.lt)
    · rcases hin i hi h1 with rfl | ⟨j, hj, rfl⟩
      · rw [gout, ycte_arr (by omega)]
        show F.heap[ad g.2.1]? = some (vp_cell _ _)
        rw [← hsz, f2, ycrow_r h17, vp_cell_q]
        refine congrArg some (yc_arrV fun j hj => ?_)
        rw [if_pos hj]
        show Value.ref _ = va_rf (ycro ad (bif Nat.blt j (y32 n).toNat then (2, ((g.2.1 + 1 + j : Nat) : Int)) else ycadf ko))
        rw [ycblt hj]
        show Value.ref _ = Value.ref (ad ((g.2.1 + 1 + j : Nat) : Int).toNat)
        rw [Int.toNat_natCast, hadn]
      · rw [ginn j hj, hadn]
        rcases hkind with ⟨-, rfl⟩ | ⟨-, rfl⟩
        · rw [ycte_arr (by omega)]
          show F.heap[H.size + 1 + j]? = some (vp_cell _ _)
          rw [hrow j hj, ← ycdfi]
          exact congrArg some (arrV_new _ _ _)
        · rw [ycte_arr (by omega)]
          show F.heap[H.size + 1 + j]? = some (vp_cell _ _)
          rw [hrow j hj, ← ycdfl]
          exact congrArg some (arrV_new _ _ _)
  have hadl : ∀ i, i < g.2.1 → ad i < H.size := fun i hi => (hP i _ (ycws_at hi)).lt
  have hD1 : va_D A (ycws ad oa tc (ycmm g ko ki (y32 n).toNat (y32 k).toNat).1 (ycmm g ko ki (y32 n).toNat (y32 k).toNat).2.1) := by
    have hpos : ∀ i, i < g.2.1 + 1 + (y32 n).toNat → ¬ i < g.2.1 → ad i = H.size + (i - g.2.1) := fun i h1 h2 => by
      have : i = g.2.1 + (i - g.2.1) := by omega
      rw [this, yc_adk hadd, ← hsz]
      omega
    refine ⟨fun i j x y hx hy hxy => ?_, fun i x hx => ?_⟩
    · obtain ⟨hi, rfl⟩ := ycws_of hx
      obtain ⟨hj, rfl⟩ := ycws_of hy
      have hxy : ad i = ad j := hxy
      by_cases h1 : i < g.2.1 <;> by_cases h2 : j < g.2.1
      · exact hD.1 i j _ _ (ycws_at h1) (ycws_at h2) hxy
      · have := hadl i h1
        have := hpos j hj h2
        omega
      · have := hadl j h2
        have := hpos i hi h1
        omega
      · have := hpos i hi h1
        have := hpos j hj h2
        omega
    · obtain ⟨hi, rfl⟩ := ycws_of hx
      show A (ad i)
      by_cases h1 : i < g.2.1
      · exact hD.2 i _ (ycws_at h1)
      · rw [hpos i hi h1]
        exact hA _ (Nat.le_trans hS.1 (by omega))
  have hS1 : va_S A s.heap F.heap locs := ⟨Nat.le_trans hS.1 (by omega), fun q a b => (hold q (Nat.lt_of_lt_of_le a hS.1)).trans (hS.2.1 q a b), hS.2.2⟩
  have h1 := hk F.heap locs ls hP1 hD1 hS1 (fun _ => ⟨by show ad (g.2.1 + 1 + (y32 n).toNat) = _; rw [hadn]; omega, by omega⟩) hl
  have e3 : ycv ad oa (2, (g.2.1 : Int)) = .ref (ad g.2.1) := by
    show Value.ref (ad (g.2.1 : Int).toNat) = _
    rw [Int.toNat_natCast]
  rw [List.map_cons, e3, ← hsz] at h1
  obtain ⟨t, a1, b1⟩ := h1 F rfl (by rw [show cells + (1 + (y32 n).toNat) = cells + 1 + (y32 n).toNat by omega, show slots + ((y32 n).toNat + (y32 n).toNat * (y32 k).toNat) = slots + (y32 n).toNat + (y32 n).toNat * (y32 k).toNat by omega]; exact X')
  refine ⟨t, step t ?_, b1⟩
  rw [hT]
  exact a1
end YC8
