section YK2
def ykl1 : List Int := [3, 4, 5, 6, 7, 8, 9, 10, 11, 13, 15, 17, 19, 23, 27, 31, 35, 43, 51, 59, 67, 83, 99, 115, 131, 163, 195, 227, 258]
def ykl2 : List Int := [0, 0, 0, 0, 0, 0, 0, 0, 1, 1, 1, 1, 2, 2, 2, 2, 3, 3, 3, 3, 4, 4, 4, 4, 5, 5, 5, 5, 0]
def ykl3 : List Int := [1, 2, 3, 4, 5, 7, 9, 13, 17, 25, 33, 49, 65, 97, 129, 193, 257, 385, 513, 769, 1025, 1537, 2049, 3073, 4097, 6145, 8193, 12289, 16385, 24577]
def ykl4 : List Int := [0, 0, 0, 0, 1, 1, 2, 2, 3, 3, 4, 4, 5, 5, 6, 6, 7, 7, 8, 8, 9, 9, 10, 10, 11, 11, 12, 12, 13, 13]
def ykl5 : List Int := [16, 17, 18, 0, 8, 7, 9, 6, 10, 5, 11, 4, 12, 3, 13, 2, 14, 1, 15]
/-- what stands in arrays that were there before: 0 the script, 1 .. 5 the static arrays of Packs -/
def ykold (L : Nat) (xs : Nat → Int32) : Nat → Nat × (Nat → Int)
  | 0 => (L, fun j => (xs j).toInt)
  | 1 => (29, fun j => (ykl1[j]?).getD 0)
  | 2 => (29, fun j => (ykl2[j]?).getD 0)
  | 3 => (30, fun j => (ykl3[j]?).getD 0)
  | 4 => (30, fun j => (ykl4[j]?).getD 0)
  | 5 => (19, fun j => (ykl5[j]?).getD 0)
  | _ => (0, fun _ => 0)
theorem ykold_0 {L : Nat} {xs : Nat → Int32} : ∀ k, 6 ≤ k → (ykold L xs k).1 = 0 := fun k hk => match k, hk with
  | k + 6, _ => rfl
def ykF : List Cond := flatC (Cond.and given_1 narrow_1)
def ykst (n : String) (base : Nat) (l : List Int) : Bool := decide (ykF[base + 3]? = some (Cond.arrayOf (.static "PictureCodingHouse$Packs" n "[I") .int)) && (decide (ykF[base + 4]? = some (Cond.eq (.length (.static "PictureCodingHouse$Packs" n "[I")) (.int (Int32.ofNat l.length)))) &&
  (List.range l.length).all (fun j => decide (ykF[base + 5 + j]? = some (Cond.eq (.elem (.static "PictureCodingHouse$Packs" n "[I") (.int (Int32.ofNat j))) (.int (Int32.ofInt ((l[j]?).getD 0)))))))
theorem ykst_s {args : Array Value} {s : State} {n : String} {base : Nat} {l : List Int} {A : Nat → Prop} (h : ykst n base l = true) (hF : ∀ c ∈ ykF, c.before args s = true) (hl : (Cond.laysStatic "PictureCodingHouse$Packs" n "[I").before args s = true) (hini : (Cond.initialized "PictureCodingHouse$Packs").before args s = true) (hN : l.length < 2 ^ 31) (hA : ∀ a : Nat, a < s.heap.size → ¬ A a) :
    ∃ t : Nat, va_X t l.length (fun j => Int32.ofInt ((l[j]?).getD 0)) s s.heap ∧ t < s.heap.size ∧ ¬ A t ∧ va_Z "PictureCodingHouse$Packs" n "[I" (.ref t) A s s.heap := by
  unfold ykst at h
  rw [Bool.and_eq_true, Bool.and_eq_true] at h
  obtain ⟨h1, h2, h3⟩ := h
  refine yk_static (vals := fun j => (l[j]?).getD 0) hN hl hini (hF _ (List.mem_of_getElem? (of_decide_eq_true h1))) (hF _ (List.mem_of_getElem? (of_decide_eq_true h2))) (fun j hj => ?_) hA
  exact hF _ (List.mem_of_getElem? (of_decide_eq_true (List.all_eq_true.mp h3 j (List.mem_range.mpr hj))))
set_option maxRecDepth 100000 in
theorem ykc_1 : ykst "LENGTH_BASE" 4 ykl1 = true := by decide +kernel
set_option maxRecDepth 100000 in
theorem ykc_2 : ykst "LENGTH_EXTRA" 91 ykl2 = true := by decide +kernel
set_option maxRecDepth 100000 in
theorem ykc_3 : ykst "DISTANCE_BASE" 36 ykl3 = true := by decide +kernel
set_option maxRecDepth 100000 in
theorem ykc_4 : ykst "DISTANCE_EXTRA" 123 ykl4 = true := by decide +kernel
set_option maxRecDepth 100000 in
theorem ykc_5 : ykst "LENGTHS_ORDER" 69 ykl5 = true := by decide +kernel
set_option maxRecDepth 100000 in
theorem yks_1 : Cond.laysStatic "PictureCodingHouse$Packs" "LENGTH_BASE" "[I" ∈ ydall9 := ydch_s 8 _ (List.mem_of_getElem? (i := 70) (by decide +kernel))
set_option maxRecDepth 100000 in
theorem yks_2 : Cond.laysStatic "PictureCodingHouse$Packs" "LENGTH_EXTRA" "[I" ∈ ydall9 := ydch_s 8 _ (List.mem_of_getElem? (i := 154) (by decide +kernel))
set_option maxRecDepth 100000 in
theorem yks_3 : Cond.laysStatic "PictureCodingHouse$Packs" "DISTANCE_BASE" "[I" ∈ ydall9 := ydch_s 8 _ (List.mem_of_getElem? (i := 75) (by decide +kernel))
set_option maxRecDepth 100000 in
theorem yks_4 : Cond.laysStatic "PictureCodingHouse$Packs" "DISTANCE_EXTRA" "[I" ∈ ydall9 := ydch_s 8 _ (List.mem_of_getElem? (i := 159) (by decide +kernel))
set_option maxRecDepth 100000 in
theorem yks_5 : Cond.laysStatic "PictureCodingHouse$Packs" "LENGTHS_ORDER" "[I" ∈ ydall9 := ydch_s 8 _ (List.mem_of_getElem? (i := 145) (by decide +kernel))
set_option maxRecDepth 100000 in
theorem ykt_U : Cond.laysStatic Bundle.tN "UNASSIGNED_STACK" Bundle.steD ∈ ydall9 := ydch_s 4 _ (List.mem_of_getElem? (i := 120) (by decide +kernel))
set_option maxRecDepth 100000 in
theorem ykt_S : Cond.laysStatic Bundle.tN "SUPPRESSED_SENTINEL" Bundle.listD ∈ ydall9 := ydch_s 4 _ (List.mem_of_getElem? (i := 122) (by decide +kernel))
set_option maxRecDepth 100000 in
theorem ykt_i : Cond.initialized Bundle.tN ∈ ydall9 := ydch_s 1 _ (List.mem_of_getElem? (i := 16) (by decide +kernel))
set_option maxRecDepth 100000 in
theorem ykw_p : Cond.initialized "PictureCodingHouse$Packs" ∈ ydTs := ydw_s (h := (1, 8)) (by decide +kernel)
set_option maxRecDepth 100000 in
theorem ykw_i : Cond.arrayClass .int ∈ ydTs := ydw_s (h := (1, 85)) (by decide +kernel)
set_option maxRecDepth 100000 in
theorem ykw_l : Cond.arrayClass .long ∈ ydTs := ydw_s (h := (3, 49)) (by decide +kernel)
set_option maxRecDepth 100000 in
theorem ykw_b : Cond.arrayClass .boolean ∈ ydTs := ydw_s (h := (1, 128)) (by decide +kernel)
set_option maxRecDepth 100000 in
theorem ykw_r : Cond.arrayOver (.object "PictureCodingHouse$ByteRow") ∈ ydTs := ydw_s (h := (1, 35)) (by decide +kernel)
set_option maxRecDepth 100000 in
theorem ykw_g : Cond.arrayOver (.object "PictureCodingHouse$Grid") ∈ ydTs := ydw_s (h := (1, 33)) (by decide +kernel)
set_option maxRecDepth 100000 in
theorem ykw_ai : Cond.arrayOver (.array .int) ∈ ydTs := ydw_s (h := (1, 136)) (by decide +kernel)
set_option maxRecDepth 100000 in
theorem ykw_al : Cond.arrayOver (.array .long) ∈ ydTs := ydw_s (h := (3, 132)) (by decide +kernel)
set_option maxRecDepth 100000 in
theorem ykw_oi : Cond.instanceMethod Lib.objectInit ∈ ydTs := ydw_s (h := (1, 30)) (by decide +kernel)
set_option maxRecDepth 100000 in
theorem ykw_oc : Cond.code Lib.objectInit ⟨#[0xb1]⟩ 1 none ∈ ydTs := ydw_s (h := (1, 31)) (by decide +kernel)
def ykcast : List ydP := [(4, 95), (4, 166), (4, 200), (5, 99), (5, 218)]
def ykinst : List ydP := [(3, 202), (3, 125), (3, 51), (1, 36), (1, 230), (2, 168), (1, 86), (1, 130), (2, 53), (2, 59), (2, 214), (1, 198), (1, 25), (12, 120)]
set_option maxRecDepth 100000 in
theorem ykc_cast : ∀ e, e < 5 → ydw ((ykcast[e]?).getD (0, 0)) (Cond.castable (ycXn e) (ycXn e)) = true := by decide +kernel
set_option maxRecDepth 100000 in
theorem ykc_inst : (List.range 14).all (fun k => ydw ((ykinst[k]?).getD (0, 0)) (Cond.instantiable (yfk k).1 (yfk k).2.1.length)) = true := by decide +kernel
theorem ykc_len : yeK.length = 14 := by decide +kernel
theorem ykc_k3 : (yeK[3]?).map (fun q => q.1) = some "PictureCodingHouse$ByteRow" := by decide +kernel
theorem ykc_k6 : (yeK[6]?).map (fun q => q.1) = some "PictureCodingHouse$Grid" := by decide +kernel
theorem ykc_fit : ∀ e, e < 5 → Bundle.fit (ycXn e) = true := by decide +kernel
theorem ykc_fit2 : ∀ n ∈ ycXs, Bundle.fit n = true := by decide +kernel
set_option maxRecDepth 100000 in
theorem ykc_ns0 : (List.range 5).all (fun e => (List.range 5).all fun e2 => Nat.beq e e2 || decide ((ycXn e, ycXn e2) ∈ yfNs)) = true := by decide +kernel
theorem ykc_ns : ∀ e e2, e < 5 → e2 < 5 → e ≠ e2 → (ycXn e, ycXn e2) ∈ yfNs := by
  intro e e2 h h2 hn
  have a := List.all_eq_true.mp (List.all_eq_true.mp ykc_ns0 e (List.mem_range.mpr h)) e2 (List.mem_range.mpr h2)
  rw [ycbne hn] at a
  exact of_decide_eq_true a
set_option maxRecDepth 100000 in
theorem ykc_nc : yfNs.all (fun q => decide (Cond.not (.castable q.1 q.2) ∈ ykF)) = true := by decide +kernel
theorem ykc_cl : ycclok yfcl := by
  have key : ∀ (k : Nat) (C : String), (yeK[k]?).map (fun q => q.1) = some C → ∃ T N, yfcl[k]? = some (C, T, N) := by
    intro k C h
    obtain ⟨q, hq, rfl⟩ := Option.map_eq_some_iff.mp h
    exact ⟨ydF q, q.2.1.length, by unfold yfcl; rw [List.getElem?_map, hq]; rfl⟩
  exact ⟨key 3 _ ykc_k3, key 6 _ ykc_k6⟩
def ykmid : Nat := 814
end YK2
