section YC10
/-- words that stay true -/
def ycgw : Cond → Bool
  | .methodLinkNest _ _ _ _ => true
  | .fieldLinkNest _ _ _ _ _ _ => true
  | .castable _ _ => true
  | .arrayOver _ => true
  | .declares _ => true
  | w => goodWord w
theorem ycgw_s {w : Cond} (h : ycgw w = true) {args a' : Array Value} {s U : State} (hW : s.WarmedH U.vm) (hb : w.before args s = true) : w.before a' U = true := by
  unfold ycgw at h
  split at h
  · exact va_Nw.use rfl (va_Nw.warmM hW (va_Nw.of rfl hb))
  · exact va_Nw.use rfl (va_Nw.warmF hW (va_Nw.of rfl hb))
  · exact va_Nw.use rfl (va_Nw.warmC hW (va_Nw.of rfl hb))
  · rename_i ty
    have e := Cond.arrayOver_setVmC (args := args) hW.alike ty
    rw [hb] at e
    exact e
  · exact va_Nw.use rfl (va_Nw.warmD hW (va_Nw.of rfl hb))
  · exact word_at hW (good_of_word h) hb
def ycXn : Nat → String
  | 0 => "java/lang/IndexOutOfBoundsException"
  | 1 => "java/lang/IllegalArgumentException"
  | 2 => "java/lang/IllegalStateException"
  | 3 => "java/lang/UnsupportedOperationException"
  | _ => "java/util/NoSuchElementException"
def ycXs : List String := ["java/lang/RuntimeException", "java/lang/Exception"]
def ycrv (ad oa : Nat → Nat) (u : ycL) : Option Value := match u.1 with
  | 1 => some (ycv ad oa u.2.1)
  | _ => none
def ycB (D : va_G) (cl : List vw_C) (tc : Nat → ClassId) (ad oa : Nat → Nat) (A : Nat → Prop) (N : Nat) (g : ycH) (t : State) : Prop := va_P D cl (ycws ad oa tc g.1 g.2.1) t.heap ∧ va_D A (ycws ad oa tc g.1 g.2.1) ∧ va_K D cl (yctys tc) t ∧ (g.2.2 = true → ad g.2.1 = N ∧ N ≤ t.heap.size)
def ycQc (D : va_G) (cl : List vw_C) (tc : Nat → ClassId) (ad oa : Nat → Nat) (A : Nat → Prop) (N : Nat) (u : ycL) : Array Value → State → Outcome → State → Prop := fun _ st o t => u.1 ≤ 1 ∧ o = .returned (ycrv ad oa u) ∧ ycB D cl tc ad oa A N u.2.2.2.2 t ∧ va_F A st t
def ycXC (D : va_G) (cl : List vw_C) (tc : Nat → ClassId) (ad oa : Nat → Nat) (A : Nat → Prop) (N : Nat) (u : ycL) : String → State → State → Prop := fun E st t => ∃ e, u.1 = e + 2 ∧ e < 5 ∧ E = ycXn e ∧ ycB D cl tc ad oa A N u.2.2.2.2 t ∧ va_F A st t
/-- what stands beside the cells: classes that are none of another, static arrays, Throwable's statics -/
def ycEnv (Ns : List (String × String)) (old : Nat → Nat × (Nat → Int)) (sn : Nat → String × String) (oa : Nat → Nat) (A : Nat → Prop) (U : State) (H : Heap) : Prop :=
  (∀ q ∈ Ns, va_Nc q.1 q.2 U) ∧ ycold old oa A U H ∧ (∀ k, 1 ≤ k → k < 6 → va_Z (sn k).1 (sn k).2 "[I" (.ref (oa k)) A U H) ∧ vx_Zq Bundle.tN "UNASSIGNED_STACK" Bundle.steD A U H ∧ vx_Zq Bundle.tN "SUPPRESSED_SENTINEL" Bundle.listD A U H
theorem ycEnv_at {Ns : List (String × String)} {old : Nat → Nat × (Nat → Int)} {sn : Nat → String × String} {oa : Nat → Nat} {A B : Nat → Prop} {s U : State} {H : Heap} {locs : List Loc} (h : ycEnv Ns old sn oa A s s.heap) (hS : va_S A s.heap H locs) (hal : s.vm.Alike U.vm) (hU : U.heap = H) (hB : ∀ q, B q → A q) : ycEnv Ns old sn oa B U U.heap := by
  obtain ⟨h1, h2, h3, h4, h5⟩ := h
  rw [hU]
  refine ⟨fun q hq => va_Nc.moved hal (h1 q hq), fun k hk => ?_, fun k k1 k2 => va_Z.narrow (va_Z.moved hal ((h3 k k1 k2).kept hS.2.1)) hB, vx_Zq.narrow (vx_Zq.moved hal (h4.kept hS.2.1)) hB, vx_Zq.narrow (vx_Zq.moved hal (h5.kept hS.2.1)) hB⟩
  obtain ⟨o1, o2, o3⟩ := h2 k hk
  exact ⟨va_X.moved hal (o1.kept (hS.2.1 _ o2 o3)), Nat.lt_of_lt_of_le o2 hS.1, fun z => o3 (hB _ z)⟩
def ycPw (D : va_G) (cl : List vw_C) (tc : Nat → ClassId) (ad oa : Nat → Nat) (Ns : List (String × String)) (old : Nat → Nat × (Nat → Int)) (sn : Nat → String × String) (g : ycH) (sz : Nat) : State → Prop := fun U =>
  U.heap.size = sz ∧ va_P D cl (ycws ad oa tc g.1 g.2.1) U.heap ∧ va_D (fun _ => True) (ycws ad oa tc g.1 g.2.1) ∧ va_K D cl (yctys tc) U ∧ (g.2.2 = true → ad g.2.1 = sz) ∧ ycEnv Ns old sn oa (va_A (ycws ad oa tc g.1 g.2.1) sz) U U.heap
theorem ycPw_blind {D : va_G} {cl : List vw_C} {tc : Nat → ClassId} {ad oa : Nat → Nat} {Ns : List (String × String)} {old : Nat → Nat × (Nat → Int)} {sn : Nat → String × String} {g : ycH} {sz : Nat} {av : List Value} : FrameBlind (va_Pc av (ycPw D cl tc ad oa Ns old sn g sz)) := by
  intro a U fr mk h
  obtain ⟨h0, h1, h2, h3, h4, h5, h6⟩ := h
  refine ⟨h0, h1, h2, h3, va_K.moved (u := U) (U := U.calling fr mk a) (Vm.Alike.refl U.vm) h4, h5, ?_⟩
  exact ycEnv_at (U := U.calling fr mk a) (locs := []) h6 va_S.rf (Vm.Alike.refl U.vm) rfl (fun _ z => z)
def ycrt (n : Nat) (r : Option FieldType) : Prop := match n with
  | 0 => r = none
  | 1 => r = some .int
  | 2 => r = some .boolean
  | 3 => r = some .long
  | _ => ∃ rt, r = some rt ∧ ((∃ n, rt = .object n) ∨ ∃ t, rt = .array t)
def ycparn (y : MethodName) : Option Nat := (parseMethodDescriptor y.desc).map (fun d => d.parameters.length)
/-- a method's own words -/
def ycMth (T : ycT) (Ts : List Cond) (Ns : List (String × String)) (sn : Nat → String × String) (cl : List vw_C) (yN : Nat → MethodName) (yB : Nat → ByteArray) (yR : Nat → Option FieldType) (cm : Nat) : Prop :=
  plainName (yN cm).cls = true ∧ ((yN cm).cls ≠ "java/lang/invoke/MethodHandle" ∧ (yN cm).cls ≠ "java/lang/invoke/VarHandle") ∧ Cond.initialized (yN cm).cls ∈ Ts ∧
  (bif (ytHD T cm).isEmpty then Cond.code (yN cm) (yB cm) (ytMI T cm).2.1 (yR cm) ∈ Ts else Cond.codeWith (yN cm) (yB cm) (ytMI T cm).2.1 (yR cm) (ytHD T cm) ∈ Ts) ∧
  ycrt (ytMI T cm).2.2.1 (yR cm) ∧ ((ytMI T cm).2.2.2.1 = true → (yN cm).name = "<init>") ∧ yctsok (yN cm).cls Ts (ytKC T cm) (ytKL T cm) (ytFD T cm) cl ∧ (∀ pc q, ytP T cm pc = some q → decode (yB cm) pc = .ok q)
/-- what one entry says -/
def ycXok (T : ycT) (Ts : List Cond) (yN : Nat → MethodName) (mid : Nat) : Prop :=
  (∀ i e n, ytNX T mid i = some (e, n) → e < 5 ∧ n = 2 ∧ i ≠ 0 ∧ Cond.classLink (yN mid).cls i (ycXn e) ∈ Ts ∧ Cond.initialized (ycXn e) ∈ Ts) ∧
  (∀ j e, ytNI T mid j = some e → ∀ w ∈ vx_at0 (yN mid).cls j (ycXn e) ycXs, w ∈ Ts ∧ vx_ot w = true)
def ycNok (T : ycT) (Ts : List Cond) (cl : List vw_C) (yN : Nat → MethodName) (mid : Nat) : Prop :=
  ∀ i ci N, ytNC T mid i = some (ci, N) → ∃ (C : String) (F : u_T) (ty : Nat → FieldType), cl[ci]? = some (C, F, N) ∧ ci < 14 ∧ (∀ w ∈ u_ws C F N, w ∈ Ts) ∧ (∀ k, k < N → parseFieldDescriptor (F k).2.2.1 = some (ty k)) ∧ Cond.classLink (yN mid).cls i C ∈ Ts ∧ Cond.instantiable C N ∈ Ts ∧ Cond.initialized C ∈ Ts ∧ (∀ j, j < N → ∀ ad oa : Nat → Nat, defaultValue (ty j) = ycv ad oa (ytDF T ci j))
def ycAok (T : ycT) (Ts : List Cond) (yN : Nat → MethodName) (mid : Nat) : Prop :=
  ∀ i kind, ytNA T mid i = some kind → (kind = 17 ∨ kind = 18 → Cond.classLink (yN mid).cls i (yckC kind) ∈ Ts ∧ Cond.arrayOver (.object (yckC kind)) ∈ Ts) ∧
    (kind = 19 ∨ kind = 20 → Cond.classLink (yN mid).cls i ("[" ++ (FieldType.array (yckT (kind - 5))).toString) ∈ Ts ∧ Cond.arrayOver (.array (yckT (kind - 5))) ∈ Ts)
def ycSok (T : ycT) (Ts : List Cond) (sn : Nat → String × String) (yN : Nat → MethodName) (mid : Nat) : Prop :=
  ∀ i k, ytST T mid i = some k → 1 ≤ k ∧ k < 6 ∧ (sn k).1 = (yN mid).cls ∧ Cond.fieldLink (yN mid).cls i (yN mid).cls (sn k).2 "[I" ∈ Ts
def ycCok (T : ycT) (Ts : List Cond) (cl : List vw_C) (yN : Nat → MethodName) (mid : Nat) (M : Nat → Prop) : Prop :=
  ∀ i cm mode, ytMC T mid i = some (cm, mode) → (mode = 6 → Cond.methodLink (yN mid).cls i Lib.objectInit ∈ Ts) ∧ (mode ≠ 6 → M cm) ∧
    (mode = 5 → Cond.initialized "java/lang/Math" ∈ Ts ∧ (cm = 0 → Cond.methodLink (yN mid).cls i Lib.Math.max.name ∈ Ts ∧ Cond.static Lib.Math.max.name ∈ Ts ∧ Cond.code Lib.Math.max.name Lib.Math.max.code 2 (some .int) ∈ Ts) ∧ (cm = 1 → Cond.methodLink (yN mid).cls i Lib.Math.min.name ∈ Ts ∧ Cond.static Lib.Math.min.name ∈ Ts ∧ Cond.code Lib.Math.min.name Lib.Math.min.code 2 (some .int) ∈ Ts) ∧ (cm = 2 → Cond.methodLink (yN mid).cls i Lib.Math.abs.name ∈ Ts ∧ Cond.static Lib.Math.abs.name ∈ Ts ∧ Cond.code Lib.Math.abs.name Lib.Math.abs.code 1 (some .int) ∈ Ts)) ∧
    (mode = 0 → Cond.methodLink (yN mid).cls i (yN cm) ∈ Ts ∧ Cond.static (yN cm) ∈ Ts ∧ ycparn (yN cm) = some (ytMI T cm).1) ∧
    (mode = 1 → Cond.methodLink (yN mid).cls i (yN cm) ∈ Ts ∧ Cond.instanceMethod (yN cm) ∈ Ts ∧ Cond.selects (yN cm).cls (yN cm) (yN cm) ∈ Ts ∧ (∃ n, ycparn (yN cm) = some n ∧ (ytMI T cm).1 = n + 1) ∧ ∃ F N, cl[(ytMI T cm).2.2.2.2]? = some ((yN cm).cls, F, N) ∧ (ytMI T cm).2.2.2.2 < 14) ∧
    (mode = 2 → Cond.methodLink (yN mid).cls i (yN cm) ∈ Ts ∧ Cond.instanceMethod (yN cm) ∈ Ts ∧ (yN cm).name = "<init>" ∧ (∃ n, ycparn (yN cm) = some n ∧ (ytMI T cm).1 = n + 1) ∧ (ytHD T cm).isEmpty = true ∧ (ytMI T cm).2.2.1 = 0) ∧
    (mode = 3 → Cond.methodLinkNest (yN mid).cls i (yN cm) "PictureCodingHouse" ∈ Ts ∧ Cond.static (yN cm) ∈ Ts ∧ ycparn (yN cm) = some (ytMI T cm).1 ∧ (ytHD T cm).isEmpty = true) ∧
    (mode = 4 → Cond.methodLinkNest (yN mid).cls i (yN cm) "PictureCodingHouse" ∈ Ts ∧ Cond.instanceMethod (yN cm) ∈ Ts ∧ (yN cm).name = "<init>" ∧ (∃ n, ycparn (yN cm) = some n ∧ (ytMI T cm).1 = n + 1) ∧ (ytHD T cm).isEmpty = true ∧ (ytMI T cm).2.2.1 = 0)
/-- all that the tables say -/
def ycok (T : ycT) (Ts : List Cond) (Ns : List (String × String)) (sn : Nat → String × String) (cl : List vw_C) (yN : Nat → MethodName) (yB : Nat → ByteArray) (yR : Nat → Option FieldType) (M : Nat → Prop) : Prop :=
  (∀ w ∈ Ts, ycgw w = true) ∧ ycclok cl ∧ (∀ k, 6 ≤ k → (ytOL T k).1 = 0) ∧ (∀ e e2, e < 5 → e2 < 5 → e ≠ e2 → (ycXn e, ycXn e2) ∈ Ns) ∧ (∀ e, e < 5 → Cond.castable (ycXn e) (ycXn e) ∈ Ts) ∧
  (Cond.arrayClass .int ∈ Ts ∧ Cond.arrayClass .long ∈ Ts ∧ Cond.arrayClass .boolean ∈ Ts) ∧ (Cond.instanceMethod Lib.objectInit ∈ Ts ∧ Cond.code Lib.objectInit ⟨#[0xb1]⟩ 1 none ∈ Ts) ∧
  True ∧ (∀ e, e < 5 → Bundle.fit (ycXn e) = true) ∧ (∀ n ∈ ycXs, Bundle.fit n = true) ∧
  ∀ mid, M mid → ycMth T Ts Ns sn cl yN yB yR mid ∧ ycXok T Ts yN mid ∧ ycNok T Ts cl yN mid ∧ ycAok T Ts yN mid ∧ ycSok T Ts sn yN mid ∧ ycCok T Ts cl yN mid M
def ycwd (T : ycT) (Ts : List Cond) (yN : Nat → MethodName) (yB : Nat → ByteArray) (yR : Nat → Option FieldType) (cm : Nat) : List Cond :=
  (bif (ytHD T cm).isEmpty then Cond.code (yN cm) (yB cm) (ytMI T cm).2.1 (yR cm) else Cond.codeWith (yN cm) (yB cm) (ytMI T cm).2.1 (yR cm) (ytHD T cm)) :: Ts
def ycMet (l : Launch) (D : va_G) (cl : List vw_C) (tc : Nat → ClassId) (ad oa : Nat → Nat) (Ns : List (String × String)) (sn : Nat → String × String) (T : ycT) (Ts : List Cond) (yN : Nat → MethodName) (yB : Nat → ByteArray) (yR : Nat → Option FieldType) (cm : Nat) (As : List ycV) (g : ycH) (u : ycL) (sz : Nat) : Prop :=
  vx_Met l (yN cm) (ycwd T Ts yN yB yR cm) ({ frames := (ytRM T cm).1, locals := (ytRM T cm).2, cells := u.2.2.1, slots := u.2.2.2.1 }) (va_Pc (As.map (ycv ad oa)) (ycPw D cl tc ad oa Ns (ytOL T) sn g sz)) (ycQc D cl tc ad oa (va_A (ycws ad oa tc g.1 g.2.1) sz) (sz + u.2.2.1) u) (ycXC D cl tc ad oa (va_A (ycws ad oa tc g.1 g.2.1) sz) (sz + u.2.2.1) u) u.2.2.1 u.2.2.2.1 (va_A (ycws ad oa tc g.1 g.2.1) sz)
/-- where a body of the method mid runs -/
def ycCx (p : Program) (l : Launch) (e : Env) (R : Room) (s : State) (m : MethodId) (args : Array Value) (meth : Method) (c : Code) (D : va_G) (cl : List vw_C) (tc : Nat → ClassId) (ad oa : Nat → Nat) (Ns : List (String × String)) (sn : Nat → String × String) (T : ycT) (Ts : List Cond) (yN : Nat → MethodName) (yB : Nat → ByteArray) (yR : Nat → Option FieldType) (A : Nat → Prop) (mid : Nat) : Prop :=
  p.tables.exec = Jvm.exec ∧ l.stackTraces = false ∧ c.code = yB mid ∧ c.maxLocals = (ytMI T mid).2.1 ∧ meth.sig.returnType = yR mid ∧ meth.locks = false ∧ s.vm.findClass (yN mid).cls = some m.cls ∧ (∀ w ∈ Ts, w.before args s = true) ∧ ((ytMI T mid).2.2.2.1 = true → meth.name = "<init>") ∧ va_K D cl (yctys tc) s ∧ (∀ q, s.heap.size ≤ q → A q) ∧
  ycEnv Ns (ytOL T) sn oa A s s.heap ∧ c.exceptionTable.toList = tableOf (ytHD T mid) ∧ (ytRM T mid).1 ≤ R.frames ∧ (ytRM T mid).2 ≤ R.locals ∧ (∀ k, ad (k + 1) = ad k + 1)
end YC10
