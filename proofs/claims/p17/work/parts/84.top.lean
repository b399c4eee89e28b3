noncomputable section EZE
/-! E2: for this claim's tables, whatever the script -/
variable {T T2 : ycT}
theorem ezthr_c (h1 : ytNX T = ytNX T2) (h2 : ytHD T = ytHD T2) (h3 : ytP T = ytP T2) (h4 : ytMI T = ytMI T2) {E : ezEn_} {k : ezCo_} {e : Nat} {F : xF} : ∀ (S : List xFr) (g : ezHp) (mc ms : Nat), ezthr T E k e F S g mc ms = ezthr T2 E k e F S g mc ms := by
  intro S
  induction S with
  | nil => intro g mc ms; rfl
  | cons f S ih =>
    intro g mc ms
    unfold ezthr
    simp only [h1, h2, h3, h4, ih]
theorem ezthrow_c (h1 : ytNX T = ytNX T2) (h2 : ytHD T = ytHD T2) (h3 : ytP T = ytP T2) (h4 : ytMI T = ytMI T2) (h5 : ytNI T = ytNI T2) (h6 : ytRM T = ytRM T2) : ezthrow T = ezthrow T2 := by
  funext E k mid i e n fr g S mc ms F
  unfold ezthrow
  simp only [ezthr_c h1 h2 h3 h4, h2, h3, h5, h6]
theorem ezmath_c (h6 : ytRM T = ytRM T2) : ezmath T = ezmath T2 := by
  funext k mid cm kind fr g S mc ms F
  unfold ezmath
  simp only [h6]
theorem ezcall_c (h4 : ytMI T = ytMI T2) (h6 : ytRM T = ytRM T2) (h7 : ytMC T = ytMC T2) : ezcall T = ezcall T2 := by
  funext k mid i kind fr g S mc ms F
  unfold ezcall
  simp only [ezmath_c h6, h4, h6, h7]
theorem ezcomp_c (h1 : ytNX T = ytNX T2) (h3 : ytP T = ytP T2) (h4 : ytMI T = ytMI T2) (hc : ezcall T = ezcall T2) (hn : ezthrow T = ezthrow T2) (hf : ytFD T = ytFD T2) (hkc : ytKC T = ytKC T2) (hkl : ytKL T = ytKL T2) (hs : ytST T = ytST T2) : ezcomp T = ezcomp T2 := by
  funext mid pc
  unfold ezcomp
  simp only [h1, h3, h4, hc, hn, hf, hkc, hkl, hs]
theorem ezcc_c (h1 : ytNX T = ytNX T2) (h2 : ytHD T = ytHD T2) (h3 : ytP T = ytP T2) (h4 : ytMI T = ytMI T2) : ezcc T = ezcc T2 := by
  funext E k c lv g S F
  unfold ezcc
  simp only [ezthr_c h1 h2 h3 h4]
theorem ezdisp_c (h : ezcc T = ezcc T2) : ezdisp T = ezdisp T2 := by
  funext C E hd W A k mid fr g S mc ms F
  unfold ezdisp
  simp only [h]
theorem ezrun_c (h : ezcomp T = ezcomp T2) (h2 : ezdisp T = ezdisp T2) (C : List (Nat × ezCon)) (E : ezEn_) (hd : Nat → Bool) (W : ezHts) (A : ezCo_) : ∀ n, ezrun T C E hd W A n = ezrun T2 C E hd W A n := by
  intro n
  induction n with
  | zero => rfl
  | succ n ih =>
    funext mid fr g S mc ms F
    show xfn mid (fun mid => xfn fr.1 (fun pc => (ezcomp T mid pc).1 E (ezdisp T C E hd W A (ezrun T C E hd W A n)) fr.2.1 fr.2.2 g S mc ms F)) = xfn mid (fun mid => xfn fr.1 (fun pc => (ezcomp T2 mid pc).1 E (ezdisp T2 C E hd W A (ezrun T2 C E hd W A n)) fr.2.1 fr.2.2 g S mc ms F))
    rw [ih, h, h2]
theorem ezmth_c (h : ezcomp T = ezcomp T2) (h2 : ezdisp T = ezdisp T2) : ezmth T = ezmth T2 := by
  funext C m c hs N W
  unfold ezmth ezent ezseg
  simp only [ezrun_c h h2, h2]
theorem ezT_mth (old : Nat → Nat × (Nat → Int)) : ezmth (yfT old) = ezmth yxT :=
  ezmth_c (ezcomp_c rfl rfl rfl (ezcall_c rfl rfl rfl) (ezthrow_c rfl rfl rfl rfl rfl rfl) rfl rfl rfl rfl) (ezdisp_c (ezcc_c rfl rfl rfl rfl))
/-- a method keeps its contract, whatever the script -/
def ezM (m : Nat) (c : ezCon) : Prop := ∀ old, ezMet (yfT old) m c
def ezMs (C : List (Nat × ezCon)) : Prop := ∀ q ∈ C, ezM q.1 q.2
theorem ezM_n : ezMs [] := fun q h => by cases h
theorem ezM_c {m : Nat} {c : ezCon} {C : List (Nat × ezCon)} (h : ezM m c) (hC : ezMs C) : ezMs ((m, c) :: C) := fun q hq => by
  rcases List.mem_cons.mp hq with e | hq
  · rw [e]; exact h
  · exact hC q hq
theorem ezM_s {C : List (Nat × ezCon)} {m : Nat} {c : ezCon} {hs : List ezHed} {N : Nat} {W : ezHts} (hC : ezMs C) (h : ezmth yxT C m c hs N W = true) : ezM m c := fun old => ezmth_s (fun q hq => hC q hq old) (by rw [ezT_mth]; exact h)
end EZE
