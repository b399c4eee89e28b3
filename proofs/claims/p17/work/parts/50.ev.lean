section YM1
/-! runs of the clean machine: more fuel does no harm; what a run comes to -/
def yrle (f g : ycRun) : Prop := ∀ mid fr h u, f mid fr h = some u → g mid fr h = some u
theorem yr_then {mc ms : Nat} {a b : Option ycL} (h : ∀ u, a = some u → b = some u) : ∀ u, ycthen mc ms a = some u → ycthen mc ms b = some u := by
  intro u hu
  cases a with
  | none => cases hu
  | some v => rw [h v rfl]; exact hu
theorem yr_bif {c : Bool} {a b : Option ycL} (h : ∀ u, a = some u → b = some u) : ∀ u, (bif c then a else none) = some u → (bif c then b else none) = some u := by
  intro u hu
  cases c with
  | true => exact h u hu
  | false => cases hu
theorem yr_back {T : ycT} {f g : ycRun} (hfg : yrle f g) {mid pc : Nat} {lv : List (Nat × ycV)} {rest : List ycV} {ret : Nat} {known : Bool} {u : ycL} : ∀ w, ycback T f mid pc lv rest ret known u = some w → ycback T g mid pc lv rest ret known u = some w := by
  intro w hw
  unfold ycback at hw ⊢
  split at hw
  · exact yr_bif (yr_then (fun u h => hfg _ _ _ _ h)) w hw
  · cases hb : Nat.beq ret 0 with
    | true => rw [hb] at hw; cases hw
    | false => rw [hb] at hw; exact yr_then (fun u h => hfg _ _ _ _ h) w hw
  · split at hw
    · cases hw
    · exact hw
    · split at hw
      · exact yr_bif (yr_then (fun u h => hfg _ _ _ _ h)) w hw
      · exact yr_bif (yr_then (fun u h => hfg _ _ _ _ h)) w hw
      · cases hw
theorem yr_math {T : ycT} {f g : ycRun} (hfg : yrle f g) {mid cm kind : Nat} {fr : ycF} {h : ycH} : ∀ w, ycmath T f mid cm kind fr h = some w → ycmath T g mid cm kind fr h = some w := by
  intro w hw
  unfold ycmath at hw ⊢
  split at hw
  · exact yr_bif (fun u h => hfg _ _ _ _ h) w hw
  · exact yr_bif (fun u h => hfg _ _ _ _ h) w hw
  · exact yr_bif (fun u h => hfg _ _ _ _ h) w hw
  · cases hw
theorem yr_call {T : ycT} {f g : ycRun} (hfg : yrle f g) {mid i kind : Nat} {fr : ycF} {h : ycH} : ∀ w, yccall T f mid i kind fr h = some w → yccall T g mid i kind fr h = some w := by
  intro w hw
  unfold yccall at hw ⊢
  split at hw
  · cases hw
  · rename_i cm mode e
    cases h6 : Nat.beq mode 6 with
    | true =>
      rw [h6] at hw
      simp only [cond_true] at hw ⊢
      split at hw
      · exact yr_bif (fun u h => hfg _ _ _ _ h) w hw
      · cases hw
    | false =>
      rw [h6] at hw
      simp only [cond_false] at hw ⊢
      cases h5 : Nat.beq mode 5 with
      | true =>
        rw [h5] at hw
        exact yr_math hfg w hw
      | false =>
        rw [h5] at hw
        simp only [cond_false] at hw ⊢
        refine yr_bif (fun u hu => ?_) w hw
        split at hu
        · cases hu
        · rename_i u2 h2
          rw [hfg _ _ _ _ h2]
          exact yr_back hfg u hu
theorem yr_body {T : ycT} {f g : ycRun} (hfg : yrle f g) {mid : Nat} {fr : ycF} {h : ycH} : ∀ w, ycbody T f mid fr h = some w → ycbody T g mid fr h = some w := by
  intro w hw
  unfold ycbody at hw ⊢
  split at hw
  · cases hw
  · split at hw
    · exact hw
    · exact hw
    · exact hw
    · exact hw
    · exact yr_bif (fun u h => yr_call hfg u h) w hw
    · exact yr_bif (fun u h => yr_call hfg u h) w hw
    · exact yr_bif (fun u h => yr_call hfg u h) w hw
    · refine yr_bif (fun u hu => ?_) w hw
      unfold ycnewi at hu ⊢
      split at hu
      · exact hu
      · split at hu
        · exact yr_bif (yr_then (fun u h => hfg _ _ _ _ h)) u hu
        · cases hu
    · refine yr_bif (fun u hu => ?_) w hw
      unfold ycnewa at hu ⊢
      split at hu
      · exact yr_bif (yr_then (fun u h => hfg _ _ _ _ h)) u hu
      · cases hu
    · refine yr_bif (fun u hu => ?_) w hw
      unfold ycanew at hu ⊢
      split at hu
      · exact yr_bif (yr_then (fun u h => hfg _ _ _ _ h)) u hu
      · cases hu
    · refine yr_bif (fun u hu => ?_) w hw
      unfold ycmul at hu ⊢
      split at hu
      · exact yr_bif (yr_then (fun u h => hfg _ _ _ _ h)) u hu
      · cases hu
    · refine yr_bif (fun u hu => ?_) w hw
      split at hu
      · exact hfg _ _ _ _ hu
      · cases hu
theorem yr_succ (T : ycT) : ∀ k, yrle (ycrun T k) (ycrun T (k + 1)) := by
  intro k
  induction k with
  | zero => intro mid fr h u hu; cases hu
  | succ k ih => intro mid fr h u hu; exact yr_body ih u hu
theorem yr_le (T : ycT) {k n : Nat} (h : k ≤ n) : yrle (ycrun T k) (ycrun T n) := by
  induction h with
  | refl => exact fun _ _ _ _ hu => hu
  | step _ ih => exact fun _ _ _ _ hu => yr_succ T _ _ _ _ _ (ih _ _ _ _ hu)
/-- a run from here comes to an end of which P holds -/
def yvE (T : ycT) (mid : Nat) (fr : ycF) (g : ycH) (P : ycL → Prop) : Prop := ∃ k u, ycrun T k mid fr g = some u ∧ P u
/-- a frame that waits: method, place of the call, locals, stack below the arguments, what the called method answers, whether the next address was known, cells and slots made before -/
abbrev yvF := Nat × Nat × List (Nat × ycV) × List ycV × Nat × Bool × Nat × Nat
/-- what the frames that wait make of an end -/
def yvS (T : ycT) : List yvF → (ycL → Prop) → ycL → Prop
  | [], P => P
  | f :: S, P => fun u => ∃ k w, ycback T (ycrun T k) f.1 f.2.1 f.2.2.1 f.2.2.2.1 f.2.2.2.2.1 f.2.2.2.2.2.1 u = some w ∧ yvS T S P (ycmore f.2.2.2.2.2.2.1 f.2.2.2.2.2.2.2 w)
/-- the whole: from this state, with what was made before in this frame, under the frames that wait -/
def yvG (T : ycT) (S : List yvF) (P : ycL → Prop) (mid : Nat) (fr : ycF) (g : ycH) (mc ms : Nat) : Prop := yvE T mid fr g (fun u => yvS T S P (ycmore mc ms u))
theorem yc_more {a b c d : Nat} {u : ycL} : ycmore a b (ycmore c d u) = ycmore (a + c) (b + d) u := by
  unfold ycmore
  simp only [Nat.add_assoc]
theorem yc_more0 {u : ycL} : ycmore 0 0 u = u := by
  unfold ycmore
  simp only [Nat.zero_add]
theorem yv_weak {T : ycT} {P Q : ycL → Prop} (h : ∀ u, P u → Q u) : ∀ (S : List yvF) u, yvS T S P u → yvS T S Q u := by
  intro S
  induction S with
  | nil => exact h
  | cons f S ih => exact fun u hu => hu.imp fun k hk => hk.imp fun w hw => ⟨hw.1, ih _ hw.2⟩
/-- a step that runs on alone -/
theorem yv_on {T : ycT} {S : List yvF} {P : ycL → Prop} {mid : Nat} {fr fr2 : ycF} {g g2 : ycH} {mc ms a b : Nat} (h : ∀ k, ycrun T (k + 1) mid fr g = ycthen a b (ycrun T k mid fr2 g2)) (h2 : yvG T S P mid fr2 g2 (mc + a) (ms + b)) : yvG T S P mid fr g mc ms := by
  obtain ⟨k, u, hu, hP⟩ := h2
  refine ⟨k + 1, ycmore a b u, ?_, ?_⟩
  · rw [h, hu]; rfl
  · show yvS T S P (ycmore mc ms (ycmore a b u))
    rw [yc_more]
    exact hP
theorem yv_on0 {T : ycT} {S : List yvF} {P : ycL → Prop} {mid : Nat} {fr fr2 : ycF} {g g2 : ycH} {mc ms : Nat} (h : ∀ k, ycrun T (k + 1) mid fr g = ycrun T k mid fr2 g2) (h2 : yvG T S P mid fr2 g2 mc ms) : yvG T S P mid fr g mc ms := by
  obtain ⟨k, u, hu, hP⟩ := h2
  exact ⟨k + 1, u, by rw [h, hu], hP⟩
/-- a call -/
theorem yv_call {T : ycT} {S : List yvF} {P : ycL → Prop} {mid cm pc : Nat} {fr fr2 : ycF} {lv : List (Nat × ycV)} {rest : List ycV} {ret : Nat} {known : Bool} {g : ycH} {mc ms : Nat}
    (h : ∀ k, ycrun T (k + 1) mid fr g = match ycrun T k cm fr2 g with | none => none | some u => ycback T (ycrun T k) mid pc lv rest ret known u)
    (h2 : yvG T ((mid, pc, lv, rest, ret, known, mc, ms) :: S) P cm fr2 g 0 0) : yvG T S P mid fr g mc ms := by
  obtain ⟨k1, u, hu, k2, w, hw, hP⟩ := h2
  rw [yc_more0] at hw
  refine ⟨max k1 k2 + 1, w, ?_, hP⟩
  rw [h, yr_le T (Nat.le_max_left k1 k2) _ _ _ _ hu]
  exact yr_back (yr_le T (Nat.le_max_right k1 k2)) _ hw
/-- an end under a frame that waits -/
theorem yv_end {T : ycT} {f : yvF} {S : List yvF} {P : ycL → Prop} {mid mid2 : Nat} {fr fr2 : ycF} {g g2 : ycH} {mc ms : Nat} {u : ycL} (h : ycrun T 1 mid fr g = some u)
    (hb : ∀ k, ycback T (ycrun T k) f.1 f.2.1 f.2.2.1 f.2.2.2.1 f.2.2.2.2.1 f.2.2.2.2.2.1 (ycmore mc ms u) = ycthen (mc + u.2.2.1) (ms + u.2.2.2.1) (ycrun T k mid2 fr2 g2))
    (h2 : yvG T S P mid2 fr2 g2 (f.2.2.2.2.2.2.1 + (mc + u.2.2.1)) (f.2.2.2.2.2.2.2 + (ms + u.2.2.2.1))) : yvG T (f :: S) P mid fr g mc ms := by
  obtain ⟨k, w, hw, hP⟩ := h2
  refine ⟨1, u, h, k, ycmore (mc + u.2.2.1) (ms + u.2.2.2.1) w, ?_, ?_⟩
  · rw [hb, hw]; rfl
  · rw [yc_more]
    exact hP
/-- an exception goes on through a frame that waits -/
theorem yv_thru {T : ycT} {f : yvF} {S : List yvF} {P : ycL → Prop} {u w : ycL} (hb : ∀ k, ycback T (ycrun T k) f.1 f.2.1 f.2.2.1 f.2.2.2.1 f.2.2.2.2.1 f.2.2.2.2.2.1 u = some w) (h2 : yvS T S P (ycmore f.2.2.2.2.2.2.1 f.2.2.2.2.2.2.2 w)) : yvS T (f :: S) P u := ⟨0, w, hb 0, h2⟩
end YM1
