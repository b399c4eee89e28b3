section YM2
/-! runs of the clean machine: more locals do no harm -/
def ysub (l l2 : List (Nat × ycV)) : Prop := ∀ q ∈ l, q ∈ l2 ∧ ∀ q2 ∈ l2, q2.1 = q.1 → q2 = q
theorem ysub_get {l l2 : List (Nat × ycV)} (h : ysub l l2) {i : Nat} {v : ycV} (hg : yclget l i = some v) : yclget l2 i = some v := by
  have hm := h _ (yclget_m hg)
  obtain ⟨h1, h2⟩ := hm
  clear hg h
  revert h1 h2
  induction l2 with
  | nil => intro h1; cases h1
  | cons q l2 ih =>
    intro h1 h2
    show (bif Nat.beq q.1 i then some q.2 else yclget l2 i) = some v
    cases hb : Nat.beq q.1 i with
    | true =>
      have e := h2 q List.mem_cons_self (Nat.eq_of_beq_eq_true hb)
      rw [e]; rfl
    | false =>
      refine ih ?_ (fun q2 hq => h2 q2 (List.mem_cons_of_mem _ hq))
      rcases List.mem_cons.mp h1 with e | e
      · have := Nat.ne_of_beq_eq_false hb
        rw [← e] at this
        exact absurd rfl this
      · exact e
theorem ysub_fil {l l2 : List (Nat × ycV)} (h : ysub l l2) (p : Nat × ycV → Bool) : ysub (l.filter p) (l2.filter p) := by
  intro q hq
  obtain ⟨h1, h2⟩ := List.mem_filter.mp hq
  obtain ⟨h3, h4⟩ := h q h1
  exact ⟨List.mem_filter.mpr ⟨h3, h2⟩, fun q2 hq2 e => h4 q2 (List.mem_filter.mp hq2).1 e⟩
theorem ysub_cons {l l2 : List (Nat × ycV)} (h : ysub l l2) {i : Nat} (v : ycV) (h1 : ∀ q ∈ l, q.1 ≠ i) (h2 : ∀ q ∈ l2, q.1 ≠ i) : ysub ((i, v) :: l) ((i, v) :: l2) := by
  intro q hq
  rcases List.mem_cons.mp hq with e | e
  · subst e
    refine ⟨List.mem_cons_self, fun q2 hq2 e2 => ?_⟩
    rcases List.mem_cons.mp hq2 with e3 | e3
    · exact e3
    · exact absurd e2 (h2 q2 e3)
  · obtain ⟨a, b⟩ := h q e
    refine ⟨List.mem_cons_of_mem _ a, fun q2 hq2 e2 => ?_⟩
    rcases List.mem_cons.mp hq2 with e3 | e3
    · subst e3
      exact absurd e2.symm (h1 q e)
    · exact b q2 e3 e2
theorem ysub_ne {l : List (Nat × ycV)} {i : Nat} {p : Nat × ycV → Bool} (hp : ∀ q, p q = true → Nat.beq q.1 i = false) : ∀ q ∈ l.filter p, q.1 ≠ i := by
  intro q hq
  exact Nat.ne_of_beq_eq_false (hp q (List.mem_filter.mp hq).2)
theorem ysub_1 {l l2 : List (Nat × ycV)} (h : ysub l l2) (i : Nat) (v : ycV) : ysub (ycst1 l i v) (ycst1 l2 i v) := by
  have hp : ∀ q : Nat × ycV, (!(Nat.beq q.1 i) && !(Nat.beq (q.1 + 1) i && Nat.beq q.2.1 1)) = true → Nat.beq q.1 i = false := by
    intro q hq
    cases hb : Nat.beq q.1 i with
    | false => rfl
    | true => rw [hb] at hq; cases hq
  exact ysub_cons (ysub_fil h _) v (ysub_ne hp) (ysub_ne hp)
theorem ysub_2 {l l2 : List (Nat × ycV)} (h : ysub l l2) (i : Nat) (v : ycV) : ysub (ycst2 l i v) (ycst2 l2 i v) := by
  have hp : ∀ q : Nat × ycV, (!(Nat.beq q.1 i) && (!(Nat.beq q.1 (i + 1)) && !(Nat.beq (q.1 + 1) i && Nat.beq q.2.1 1))) = true → Nat.beq q.1 i = false := by
    intro q hq
    cases hb : Nat.beq q.1 i with
    | false => rfl
    | true => rw [hb] at hq; cases hq
  exact ysub_cons (ysub_fil h _) v (ysub_ne hp) (ysub_ne hp)
theorem ysub_d {l l2 : List (Nat × ycV)} (h : ysub l l2) (i : Nat) : ysub (ycdrop l i) (ycdrop l2 i) := ysub_fil h _
theorem ysub_r (l : List (Nat × ycV)) (h : ∀ q ∈ l, ∀ q2 ∈ l, q2.1 = q.1 → q2 = q) : ysub l l := fun q hq => ⟨hq, h q hq⟩
/-- a step with more locals -/
def ysm (R R2 : ycR) : Prop := ∀ x, R = some x → ∃ l2, ysub x.1.2.1 l2 ∧ R2 = some ((x.1.1, l2, x.1.2.2), x.2)
theorem ysm_n {R2 : ycR} : ysm none R2 := fun x h => by cases h
theorem ysm_g {l l2 : List (Nat × ycV)} (h : ysub l l2) {pc : Nat} {st : List ycV} {g : ycH} : ysm (ycgo pc l st g) (ycgo pc l2 st g) := by
  intro x hx
  have e : ((pc, l, st), g) = x := Option.some.inj hx
  subst e
  exact ⟨l2, h, rfl⟩
theorem ysm_b {c : Bool} {a b a2 b2 : ycR} (h1 : ysm a a2) (h2 : ysm b b2) : ysm (bif c then a else b) (bif c then a2 else b2) := by
  cases c
  · exact h2
  · exact h1
variable {l l2 : List (Nat × ycV)} {pc : Nat} {st : List ycV} {g : ycH}
theorem ysm_I2 (h : ysub l l2) {f : Int → Int → Int} : ysm (ycI2 f pc l st g) (ycI2 f pc l2 st g) := by
  unfold ycI2
  split <;> first | exact ysm_n | exact ysm_g h
theorem ysm_L2 (h : ysub l l2) {f : Int → Int → Int} : ysm (ycL2 f pc l st g) (ycL2 f pc l2 st g) := by
  unfold ycL2
  split <;> first | exact ysm_n | exact ysm_g h
theorem ysm_LI (h : ysub l l2) {f : Int → Int → Int} : ysm (ycLI f pc l st g) (ycLI f pc l2 st g) := by
  unfold ycLI
  split <;> first | exact ysm_n | exact ysm_g h
theorem ysm_load (h : ysub l l2) {k i : Nat} : ysm (ycload k pc i l st g) (ycload k pc i l2 st g) := by
  unfold ycload
  split
  all_goals first
    | exact ysm_n
    | (rename_i e
       rw [ysub_get h e]
       exact ysm_b (ysm_g h) ysm_n)
theorem ysm_store (h : ysub l l2) {nL k i : Nat} : ysm (ycstore nL k pc i l st g) (ycstore nL k pc i l2 st g) := by
  unfold ycstore
  split
  · exact ysm_b (ysm_g (ysub_1 h _ _)) ysm_n
  · exact ysm_b (ysm_g (ysub_2 h _ _)) ysm_n
  · exact ysm_b (ysm_g (ysub_1 h _ _)) ysm_n
  · exact ysm_b (ysm_g (ysub_1 h _ _)) ysm_n
  · exact ysm_n
theorem ysm_inc (h : ysub l l2) {nL i : Nat} {k : Int} : ysm (ycinc nL pc i k l st g) (ycinc nL pc i k l2 st g) := by
  unfold ycinc
  split
  · rename_i e
    rw [ysub_get h e]
    exact ysm_b (ysm_g (ysub_1 h _ _)) ysm_n
  · exact ysm_n
theorem ysm_div (h : ysub l l2) {k : Nat} : ysm (ycdiv k pc l st g) (ycdiv k pc l2 st g) := by
  unfold ycdiv
  split
  · exact ysm_b ysm_n (ysm_g h)
  · exact ysm_n
theorem ysm_ldiv (h : ysub l l2) {k : Nat} : ysm (ycldiv k pc l st g) (ycldiv k pc l2 st g) := by
  unfold ycldiv
  split
  · exact ysm_b ysm_n (ysm_g h)
  · exact ysm_n
theorem ysm_neg (h : ysub l l2) : ysm (ycneg pc l st g) (ycneg pc l2 st g) := by
  unfold ycneg
  split <;> first | exact ysm_n | exact ysm_g h
theorem ysm_i2l (h : ysub l l2) : ysm (yci2l pc l st g) (yci2l pc l2 st g) := by
  unfold yci2l
  split <;> first | exact ysm_n | exact ysm_g h
theorem ysm_l2i (h : ysub l l2) : ysm (ycl2i pc l st g) (ycl2i pc l2 st g) := by
  unfold ycl2i
  split <;> first | exact ysm_n | exact ysm_g h
theorem ysm_lcmp (h : ysub l l2) : ysm (yclcmp pc l st g) (yclcmp pc l2 st g) := by
  unfold yclcmp
  split <;> first | exact ysm_n | exact ysm_g h
theorem ysm_dup (h : ysub l l2) : ysm (ycdup pc l st g) (ycdup pc l2 st g) := by
  unfold ycdup
  split <;> first | exact ysm_n | exact ysm_b ysm_n (ysm_g h)
theorem ysm_dup2 (h : ysub l l2) : ysm (ycdup2 pc l st g) (ycdup2 pc l2 st g) := by
  unfold ycdup2
  split <;> first | exact ysm_n | exact ysm_b ysm_n (ysm_g h)
theorem ysm_pop (h : ysub l l2) : ysm (ycpop pc l st g) (ycpop pc l2 st g) := by
  unfold ycpop
  split <;> first | exact ysm_n | exact ysm_b ysm_n (ysm_g h)
theorem ysm_jmp (h : ysub l l2) {off : Int} : ysm (ycjmp pc off l st g) (ycjmp pc off l2 st g) := by
  unfold ycjmp
  split <;> first | exact ysm_n | exact ysm_g h
theorem ysm_fork (h : ysub l l2) {off : Int} {b : Bool} : ysm (ycfork pc off b l st g) (ycfork pc off b l2 st g) := by
  unfold ycfork
  split <;> first | exact ysm_n | exact ysm_b (ysm_g h) (ysm_g h)
theorem ysm_if (h : ysub l l2) {c : ClassFile.Cond} {off : Int} : ysm (ycif c pc off l st g) (ycif c pc off l2 st g) := by
  unfold ycif
  split <;> first | exact ysm_n | exact ysm_fork h
theorem ysm_icm (h : ysub l l2) {c : ClassFile.Cond} {off : Int} : ysm (ycicm c pc off l st g) (ycicm c pc off l2 st g) := by
  unfold ycicm
  split <;> first | exact ysm_n | exact ysm_fork h
theorem ysm_acm (h : ysub l l2) {c : ClassFile.ACond} {off : Int} : ysm (ycacm c pc off l st g) (ycacm c pc off l2 st g) := by
  unfold ycacm
  split <;> first | exact ysm_n | exact ysm_b (ysm_fork h) ysm_n
theorem ysm_tsw (h : ysub l l2) {d lo hi : Int} {offs : Array Int} : ysm (yctsw pc d lo hi offs l st g) (yctsw pc d lo hi offs l2 st g) := by
  unfold yctsw
  split
  · refine ysm_b (ysm_jmp h) ?_
    split <;> first | exact ysm_n | exact ysm_jmp h
  · exact ysm_n
theorem ysm_lsw (h : ysub l l2) {d : Int} {ps : Array (Int × Int)} : ysm (yclsw pc d ps l st g) (yclsw pc d ps l2 st g) := by
  unfold yclsw
  split <;> first | exact ysm_n | exact ysm_b (ysm_jmp h) ysm_n
theorem ysm_ald (h : ysub l l2) {old : Nat → Nat × (Nat → Int)} : ysm (ycald old pc l st g) (ycald old pc l2 st g) := by
  unfold ycald
  split
  · split <;> first | exact ysm_n | exact ysm_g h
  · split <;> first | exact ysm_n | exact ysm_g h
  · exact ysm_n
theorem ysm_bald (h : ysub l l2) : ysm (ycbald pc l st g) (ycbald pc l2 st g) := by
  unfold ycbald
  split
  · split <;> first | exact ysm_n | exact ysm_g h
  · exact ysm_n
theorem ysm_lald (h : ysub l l2) : ysm (yclald pc l st g) (yclald pc l2 st g) := by
  unfold yclald
  split
  · split <;> first | exact ysm_n | exact ysm_g h
  · exact ysm_n
theorem ysm_aald (h : ysub l l2) : ysm (ycaald pc l st g) (ycaald pc l2 st g) := by
  unfold ycaald
  split
  · refine ysm_b ?_ ysm_n
    split <;> first | exact ysm_n | exact ysm_b (ysm_g h) ysm_n
  · exact ysm_n
theorem ysm_ast (h : ysub l l2) {kind : Nat} : ysm (ycast kind pc l st g) (ycast kind pc l2 st g) := by
  unfold ycast
  split
  · refine ysm_b ?_ ysm_n
    split <;> first | exact ysm_n | exact ysm_g h
  · exact ysm_n
theorem ysm_aast (h : ysub l l2) : ysm (ycaast pc l st g) (ycaast pc l2 st g) := by
  unfold ycaast
  split
  · refine ysm_b ?_ ysm_n
    split <;> first | exact ysm_n | exact ysm_g h
  · exact ysm_n
theorem ysm_alen (h : ysub l l2) {old : Nat → Nat × (Nat → Int)} : ysm (ycalen old pc l st g) (ycalen old pc l2 st g) := by
  unfold ycalen
  split
  · split
    exact ysm_b (ysm_g h) ysm_n
  · exact ysm_b (ysm_g h) ysm_n
  · exact ysm_n
theorem ysm_getf (h : ysub l l2) {x : ycFd} : ysm (ycgetf x pc l st g) (ycgetf x pc l2 st g) := by
  unfold ycgetf
  split
  · split
    exact ysm_b (ysm_g h) ysm_n
  · exact ysm_n
theorem ysm_putf (h : ysub l l2) {x : ycFd} {ini : Bool} : ysm (ycputf x ini pc l st g) (ycputf x ini pc l2 st g) := by
  unfold ycputf
  split
  · split
    exact ysm_b (ysm_g h) ysm_n
  · exact ysm_n
set_option maxHeartbeats 4000000 in
theorem ysm_step (h : ysub l l2) {nL : Nat} {ini : Bool} {Fd : Nat → Option ycFd} {Kc Kl : Nat → Option Int} {St : Nat → Option Nat} {old : Nat → Nat × (Nat → Int)} {ins : Instr} : ysm (ycstep nL ini Fd Kc Kl St old ins pc l st g) (ycstep nL ini Fd Kc Kl St old ins pc l2 st g) := by
  unfold ycstep
  split
  all_goals first
    | exact ysm_g h
    | exact ysm_load h
    | exact ysm_store h
    | exact ysm_inc h
    | exact ysm_I2 h
    | exact ysm_div h
    | exact ysm_neg h
    | exact ysm_L2 h
    | exact ysm_ldiv h
    | exact ysm_LI h
    | exact ysm_i2l h
    | exact ysm_l2i h
    | exact ysm_lcmp h
    | exact ysm_dup h
    | exact ysm_dup2 h
    | exact ysm_pop h
    | exact ysm_if h
    | exact ysm_icm h
    | exact ysm_acm h
    | exact ysm_jmp h
    | exact ysm_tsw h
    | exact ysm_lsw h
    | exact ysm_ald h
    | exact ysm_lald h
    | exact ysm_bald h
    | exact ysm_aald h
    | exact ysm_ast h
    | exact ysm_aast h
    | exact ysm_alen h
    | exact ysm_n
    | (split <;> first | exact ysm_n | exact ysm_g h | exact ysm_getf h | exact ysm_putf h)
/-- runs with more locals -/
def yrm (f : ycRun) : Prop := ∀ mid pc l l2 st h u, ysub l l2 → f mid (pc, l, st) h = some u → f mid (pc, l2, st) h = some u
variable {T : ycT} {f : ycRun}
theorem yrm_back (hf : yrm f) (h : ysub l l2) {mid pc : Nat} {rest : List ycV} {ret : Nat} {known : Bool} {u : ycL} : ∀ w, ycback T f mid pc l rest ret known u = some w → ycback T f mid pc l2 rest ret known u = some w := by
  intro w hw
  unfold ycback at hw ⊢
  split at hw
  · exact yr_bif (yr_then (fun u hu => hf _ _ _ _ _ _ _ h hu)) w hw
  · cases hb : Nat.beq ret 0 with
    | true => rw [hb] at hw; cases hw
    | false => rw [hb] at hw; exact yr_then (fun u hu => hf _ _ _ _ _ _ _ h hu) w hw
  · split at hw
    · cases hw
    · exact hw
    · split at hw
      · exact yr_bif (yr_then (fun u hu => hf _ _ _ _ _ _ _ (ysub_d h _) hu)) w hw
      · exact yr_bif (yr_then (fun u hu => hf _ _ _ _ _ _ _ (ysub_d h _) hu)) w hw
      · cases hw
theorem yrm_math (hf : yrm f) (h : ysub l l2) {mid cm kind : Nat} : ∀ w, ycmath T f mid cm kind (pc, l, st) g = some w → ycmath T f mid cm kind (pc, l2, st) g = some w := by
  intro w hw
  unfold ycmath at hw ⊢
  dsimp only at hw ⊢
  split at hw
  · exact yr_bif (fun u hu => hf _ _ _ _ _ _ _ h hu) w hw
  · exact yr_bif (fun u hu => hf _ _ _ _ _ _ _ h hu) w hw
  · exact yr_bif (fun u hu => hf _ _ _ _ _ _ _ h hu) w hw
  · cases hw
theorem yrm_call (hf : yrm f) (h : ysub l l2) {mid i kind : Nat} : ∀ w, yccall T f mid i kind (pc, l, st) g = some w → yccall T f mid i kind (pc, l2, st) g = some w := by
  intro w hw
  unfold yccall at hw ⊢
  split at hw
  · cases hw
  · rename_i cm mode e
    cases h6 : Nat.beq mode 6 with
    | true =>
      rw [h6] at hw
      simp only [cond_true] at hw ⊢
      split at hw
      · exact yr_bif (fun u hu => hf _ _ _ _ _ _ _ h hu) w hw
      · cases hw
    | false =>
      rw [h6] at hw
      simp only [cond_false] at hw ⊢
      cases h5 : Nat.beq mode 5 with
      | true =>
        rw [h5] at hw
        exact yrm_math hf h w hw
      | false =>
        rw [h5] at hw
        simp only [cond_false] at hw ⊢
        refine yr_bif (fun u hu => ?_) w hw
        split at hu
        · cases hu
        · exact yrm_back hf h u hu
theorem yrm_body (hf : yrm f) : yrm (ycbody T f) := by
  intro mid pc l l2 st g w h hw
  unfold ycbody at hw ⊢
  change (match ytP T mid pc with | none => none | some (ins, len) => _) = some w at hw
  show (match ytP T mid pc with | none => none | some (ins, len) => _) = some w
  split at hw
  · cases hw
  · split at hw
    · exact hw
    · exact hw
    · exact hw
    · exact hw
    · exact yr_bif (fun u hu => yrm_call hf h u hu) w hw
    · exact yr_bif (fun u hu => yrm_call hf h u hu) w hw
    · exact yr_bif (fun u hu => yrm_call hf h u hu) w hw
    · refine yr_bif (fun u hu => ?_) w hw
      unfold ycnewi at hu ⊢
      split at hu
      · exact hu
      · split at hu
        · exact yr_bif (yr_then (fun u hu => hf _ _ _ _ _ _ _ h hu)) u hu
        · cases hu
    · refine yr_bif (fun u hu => ?_) w hw
      unfold ycnewa at hu ⊢
      split at hu
      · rename_i e1 e2
        have e2 : st = _ := e2
        subst e2
        simp only [e1]
        exact yr_bif (yr_then (fun u hu => hf _ _ _ _ _ _ _ h hu)) u hu
      · cases hu
    · refine yr_bif (fun u hu => ?_) w hw
      unfold ycanew at hu ⊢
      split at hu
      · rename_i e1 e2
        have e2 : st = _ := e2
        subst e2
        simp only [e1]
        exact yr_bif (yr_then (fun u hu => hf _ _ _ _ _ _ _ h hu)) u hu
      · cases hu
    · refine yr_bif (fun u hu => ?_) w hw
      unfold ycmul at hu ⊢
      split at hu
      · rename_i e1 e2
        have e2 : st = _ := e2
        subst e2
        simp only [e1]
        exact yr_bif (yr_then (fun u hu => hf _ _ _ _ _ _ _ h hu)) u hu
      · cases hu
    · refine yr_bif (fun u hu => ?_) w hw
      split at hu
      · rename_i fr2 g2 e
        obtain ⟨l3, a1, a2⟩ := ysm_step h _ e
        have a2 : ycstep (ytMI T mid).2.1 (ytMI T mid).2.2.2.1 (ytFD T mid) (ytKC T mid) (ytKL T mid) (ytST T mid) (ytOL T) _ pc l2 st g = some ((fr2.1, l3, fr2.2.2), g2) := a2
        show (match ycstep (ytMI T mid).2.1 (ytMI T mid).2.2.2.1 (ytFD T mid) (ytKC T mid) (ytKL T mid) (ytST T mid) (ytOL T) _ pc l2 st g with | some (fr2, g2) => f mid fr2 g2 | none => none) = some u
        rw [a2]
        exact hf _ _ _ _ _ _ _ a1 hu
      · cases hu
theorem yrm_run (T : ycT) : ∀ k, yrm (ycrun T k) := by
  intro k
  induction k with
  | zero => intro mid pc l l2 st h u _ hu; cases hu
  | succ k ih => exact yrm_body ih
/-- frames that wait, with more locals -/
def ysS : List yvF → List yvF → Prop
  | [], [] => True
  | f :: S, f2 :: S2 => (f.1 = f2.1 ∧ f.2.1 = f2.2.1 ∧ ysub f.2.2.1 f2.2.2.1 ∧ f.2.2.2 = f2.2.2.2) ∧ ysS S S2
  | _, _ => False
theorem yvS_m {P : ycL → Prop} : ∀ {S S2 : List yvF} {u : ycL}, ysS S S2 → yvS T S P u → yvS T S2 P u := by
  intro S
  induction S with
  | nil =>
    intro S2 u h hu
    cases S2 with
    | nil => exact hu
    | cons f S2 => exact h.elim
  | cons f S ih =>
    intro S2 u h hu
    cases S2 with
    | nil => exact h.elim
    | cons f2 S2 =>
      obtain ⟨⟨h1, h2, h3, h4⟩, h5⟩ := h
      obtain ⟨f1, fp, fl, fq⟩ := f
      obtain ⟨b1, bp, bl, bq⟩ := f2
      have h1 : f1 = b1 := h1
      have h2 : fp = bp := h2
      have h4 : fq = bq := h4
      subst h1 h2 h4
      obtain ⟨k, w, hw, hP⟩ := hu
      exact ⟨k, w, yrm_back (yrm_run T k) h3 _ hw, ih h5 hP⟩
theorem yvG_m {P : ycL → Prop} {S S2 : List yvF} {mid pc : Nat} {l l2 : List (Nat × ycV)} {st : List ycV} {g : ycH} {mc ms : Nat} (hl : ysub l l2) (hS : ysS S S2) (h : yvG T S P mid (pc, l, st) g mc ms) : yvG T S2 P mid (pc, l2, st) g mc ms := by
  obtain ⟨k, u, hu, hP⟩ := h
  exact ⟨k, u, yrm_run T k _ _ _ _ _ _ _ hl hu, yvS_m hS hP⟩
end YM2
