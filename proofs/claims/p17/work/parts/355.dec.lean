section YB1
/-! the bytes of a method read along, instruction by instruction -/
theorem yb_at {b : ByteArray} {p : Nat} {x : UInt8} {r : List UInt8} (h : b.data.toList.drop p = x :: r) : ∃ hp : p < b.size, b[p] = x := by
  have h1 : b.data.toList[p]? = some x := by
    have := List.getElem?_drop (xs := b.data.toList) (i := p) (j := 0)
    rw [h] at this
    exact this.symm
  obtain ⟨hp, h2⟩ := List.getElem?_eq_some_iff.mp h1
  exact ⟨hp, h2⟩
theorem yb_tl {b : ByteArray} {p : Nat} {x : UInt8} {r : List UInt8} (h : b.data.toList.drop p = x :: r) : b.data.toList.drop (p + 1) = r := by
  rw [← List.tail_drop, h]
  rfl
theorem yb_bind {α β : Type} (m : Decoder α) (f : α → Decoder β) (b : ByteArray) (p s : Nat) (a : α) (h : m b p = .ok (a, s)) : (m >>= f) b p = f a b s := by
  show (bind (m b p) fun q => f q.1 b q.2) = _
  rw [h]
  rfl
theorem yb_map {α β : Type} (m : Decoder α) (f : α → β) (b : ByteArray) (p s : Nat) (a : α) (h : m b p = .ok (a, s)) : (f <$> m) b p = .ok (f a, s) := by
  show (f <$> m : Decoder β).run b p = _
  have e : (f <$> m : Decoder β) = m >>= fun q => pure (f q) := rfl
  rw [e]
  exact yb_bind m _ b p s a h
theorem yb_u1 {b : ByteArray} {p : Nat} {x : UInt8} {r : List UInt8} (h : b.data.toList.drop p = x :: r) : (Reader.u1 : Decoder Nat) b p = .ok (x.toNat, p + 1) := by
  obtain ⟨hp, hx⟩ := yb_at h
  have e : (Reader.u1 : Decoder Nat) b p = (if h : p < b.size then (do set (p + 1); pure b[p].toNat : Decoder Nat) else throw (HasTruncated.truncated p)) b p := rfl
  rw [e, dif_pos hp, hx]
  rfl
theorem yb_u2 {b : ByteArray} {p : Nat} {x y : UInt8} {r : List UInt8} (h : b.data.toList.drop p = x :: y :: r) : (Reader.u2 : Decoder Nat) b p = .ok (x.toNat * 256 + y.toNat, p + 2) :=
  (yb_bind Reader.u1 _ b p (p + 1) _ (yb_u1 h)).trans (yb_bind Reader.u1 _ b (p + 1) (p + 2) _ (yb_u1 (yb_tl h)))
theorem yb_s1 {b : ByteArray} {p : Nat} {x : UInt8} {r : List UInt8} (h : b.data.toList.drop p = x :: r) : (Reader.s1 : Decoder Int) b p = .ok (Reader.signed 8 x.toNat, p + 1) := yb_map Reader.u1 _ b p _ _ (yb_u1 h)
theorem yb_s2 {b : ByteArray} {p : Nat} {x y : UInt8} {r : List UInt8} (h : b.data.toList.drop p = x :: y :: r) : (Reader.s2 : Decoder Int) b p = .ok (Reader.signed 16 (x.toNat * 256 + y.toNat), p + 2) := yb_map Reader.u2 _ b p _ _ (yb_u2 h)
theorem yb_dec {b : ByteArray} {p s n : Nat} {i : Instr} (h : Decoder.instr p b p = .ok (i, s)) (hn : s = p + n) : decode b p = .ok (i, n) := by
  subst hn
  show (bind (Decoder.instr p b p) fun q => (pure (q.1, q.2 - p) : Except DecodeError (Instr × Nat))) = _
  rw [h]
  show Except.ok (i, p + n - p) = _
  rw [Nat.add_sub_cancel_left]
def yb0 (l : List UInt8) (n o : Nat) : Bool := match l with
  | x :: _ => Nat.beq x.toNat o && Nat.beq n 1
  | _ => false
def yb1 (l : List UInt8) (n o k : Nat) : Bool := match l with
  | x :: y :: _ => Nat.beq x.toNat o && (Nat.beq y.toNat k && Nat.beq n 2)
  | _ => false
def yb2 (l : List UInt8) (n o k : Nat) : Bool := match l with
  | x :: y :: z :: _ => Nat.beq x.toNat o && (Nat.beq (y.toNat * 256 + z.toNat) k && Nat.beq n 3)
  | _ => false
def yb3 (l : List UInt8) (n o : Nat) (k : Int) : Bool := match l with
  | x :: y :: _ => Nat.beq x.toNat o && (decide (Reader.signed 8 y.toNat = k) && Nat.beq n 2)
  | _ => false
def yb4 (l : List UInt8) (n o : Nat) (k : Int) : Bool := match l with
  | x :: y :: z :: _ => Nat.beq x.toNat o && (decide (Reader.signed 16 (y.toNat * 256 + z.toNat) = k) && Nat.beq n 3)
  | _ => false
def yb5 (l : List UInt8) (n o k : Nat) (d : Int) : Bool := match l with
  | x :: y :: z :: _ => Nat.beq x.toNat o && (Nat.beq y.toNat k && (decide (Reader.signed 8 z.toNat = d) && Nat.beq n 3))
  | _ => false
theorem yb0_s {b : ByteArray} {p n o : Nat} (h : yb0 (b.data.toList.drop p) n o = true) : (Reader.u1 : Decoder Nat) b p = .ok (o, p + 1) ∧ n = 1 := by
  unfold yb0 at h
  split at h
  · rename_i x r e
    rw [Bool.and_eq_true] at h
    rw [yb_u1 e, Nat.eq_of_beq_eq_true h.1]
    exact ⟨rfl, Nat.eq_of_beq_eq_true h.2⟩
  · cases h
theorem yb1_s {b : ByteArray} {p n o k : Nat} (h : yb1 (b.data.toList.drop p) n o k = true) : (Reader.u1 : Decoder Nat) b p = .ok (o, p + 1) ∧ (Reader.u1 : Decoder Nat) b (p + 1) = .ok (k, p + 2) ∧ n = 2 := by
  unfold yb1 at h
  split at h
  · rename_i x y r e
    rw [Bool.and_eq_true, Bool.and_eq_true] at h
    rw [yb_u1 e, yb_u1 (yb_tl e), Nat.eq_of_beq_eq_true h.1, Nat.eq_of_beq_eq_true h.2.1]
    exact ⟨rfl, rfl, Nat.eq_of_beq_eq_true h.2.2⟩
  · cases h
theorem yb2_s {b : ByteArray} {p n o k : Nat} (h : yb2 (b.data.toList.drop p) n o k = true) : (Reader.u1 : Decoder Nat) b p = .ok (o, p + 1) ∧ (Reader.u2 : Decoder Nat) b (p + 1) = .ok (k, p + 3) ∧ n = 3 := by
  unfold yb2 at h
  split at h
  · rename_i x y z r e
    rw [Bool.and_eq_true, Bool.and_eq_true] at h
    rw [yb_u1 e, yb_u2 (yb_tl e), Nat.eq_of_beq_eq_true h.1, Nat.eq_of_beq_eq_true h.2.1]
    exact ⟨rfl, rfl, Nat.eq_of_beq_eq_true h.2.2⟩
  · cases h
theorem yb3_s {b : ByteArray} {p n o : Nat} {k : Int} (h : yb3 (b.data.toList.drop p) n o k = true) : (Reader.u1 : Decoder Nat) b p = .ok (o, p + 1) ∧ (Reader.s1 : Decoder Int) b (p + 1) = .ok (k, p + 2) ∧ n = 2 := by
  unfold yb3 at h
  split at h
  · rename_i x y r e
    rw [Bool.and_eq_true, Bool.and_eq_true] at h
    rw [yb_u1 e, yb_s1 (yb_tl e), Nat.eq_of_beq_eq_true h.1, of_decide_eq_true h.2.1]
    exact ⟨rfl, rfl, Nat.eq_of_beq_eq_true h.2.2⟩
  · cases h
theorem yb4_s {b : ByteArray} {p n o : Nat} {k : Int} (h : yb4 (b.data.toList.drop p) n o k = true) : (Reader.u1 : Decoder Nat) b p = .ok (o, p + 1) ∧ (Reader.s2 : Decoder Int) b (p + 1) = .ok (k, p + 3) ∧ n = 3 := by
  unfold yb4 at h
  split at h
  · rename_i x y z r e
    rw [Bool.and_eq_true, Bool.and_eq_true] at h
    rw [yb_u1 e, yb_s2 (yb_tl e), Nat.eq_of_beq_eq_true h.1, of_decide_eq_true h.2.1]
    exact ⟨rfl, rfl, Nat.eq_of_beq_eq_true h.2.2⟩
  · cases h
theorem yb5_s {b : ByteArray} {p n o k : Nat} {d : Int} (h : yb5 (b.data.toList.drop p) n o k d = true) : (Reader.u1 : Decoder Nat) b p = .ok (o, p + 1) ∧ (Reader.u1 : Decoder Nat) b (p + 1) = .ok (k, p + 2) ∧ (Reader.s1 : Decoder Int) b (p + 2) = .ok (d, p + 3) ∧ n = 3 := by
  unfold yb5 at h
  split at h
  · rename_i x y z r e
    rw [Bool.and_eq_true, Bool.and_eq_true, Bool.and_eq_true] at h
    rw [yb_u1 e, yb_u1 (yb_tl e), yb_s1 (yb_tl (yb_tl e)), Nat.eq_of_beq_eq_true h.1, Nat.eq_of_beq_eq_true h.2.1, of_decide_eq_true h.2.2.1]
    exact ⟨rfl, rfl, rfl, Nat.eq_of_beq_eq_true h.2.2.2⟩
  · cases h
end YB1
section YB2
set_option maxHeartbeats 4000000 in
/-- is it this instruction that stands there -/
def ybis (l : List UInt8) (n : Nat) (i : Instr) : Bool := match i with
  | .iadd => yb0 l n 96
  | .ladd => yb0 l n 97
  | .isub => yb0 l n 100
  | .lsub => yb0 l n 101
  | .imul => yb0 l n 104
  | .lmul => yb0 l n 105
  | .idiv => yb0 l n 108
  | .ldiv => yb0 l n 109
  | .irem => yb0 l n 112
  | .lrem => yb0 l n 113
  | .ineg => yb0 l n 116
  | .ishl => yb0 l n 120
  | .lshl => yb0 l n 121
  | .ishr => yb0 l n 122
  | .lshr => yb0 l n 123
  | .iushr => yb0 l n 124
  | .lushr => yb0 l n 125
  | .iand => yb0 l n 126
  | .land => yb0 l n 127
  | .ior => yb0 l n 128
  | .lor => yb0 l n 129
  | .ixor => yb0 l n 130
  | .lxor => yb0 l n 131
  | .i2l => yb0 l n 133
  | .l2i => yb0 l n 136
  | .lcmp => yb0 l n 148
  | .iaload => yb0 l n 46
  | .laload => yb0 l n 47
  | .aaload => yb0 l n 50
  | .baload => yb0 l n 51
  | .iastore => yb0 l n 79
  | .lastore => yb0 l n 80
  | .aastore => yb0 l n 83
  | .bastore => yb0 l n 84
  | .pop => yb0 l n 87
  | .dup => yb0 l n 89
  | .dup2 => yb0 l n 92
  | .ireturn => yb0 l n 172
  | .lreturn => yb0 l n 173
  | .areturn => yb0 l n 176
  | .return_ => yb0 l n 177
  | .arraylength => yb0 l n 190
  | .athrow => yb0 l n 191
  | .ldc k => yb1 l n 18 k
  | .iload k => yb1 l n 21 k
  | .lload k => yb1 l n 22 k
  | .aload k => yb1 l n 25 k
  | .istore k => yb1 l n 54 k
  | .lstore k => yb1 l n 55 k
  | .astore k => yb1 l n 58 k
  | .ldc_w k => yb2 l n 19 k
  | .ldc2_w k => yb2 l n 20 k
  | .getstatic k => yb2 l n 178 k
  | .getfield k => yb2 l n 180 k
  | .putfield k => yb2 l n 181 k
  | .invokevirtual k => yb2 l n 182 k
  | .invokespecial k => yb2 l n 183 k
  | .invokestatic k => yb2 l n 184 k
  | .new k => yb2 l n 187 k
  | .anewarray k => yb2 l n 189 k
  | .iload_n 0 => yb0 l n 26
  | .iload_n 1 => yb0 l n 27
  | .iload_n 2 => yb0 l n 28
  | .iload_n 3 => yb0 l n 29
  | .lload_n 0 => yb0 l n 30
  | .lload_n 1 => yb0 l n 31
  | .lload_n 2 => yb0 l n 32
  | .lload_n 3 => yb0 l n 33
  | .aload_n 0 => yb0 l n 42
  | .aload_n 1 => yb0 l n 43
  | .aload_n 2 => yb0 l n 44
  | .aload_n 3 => yb0 l n 45
  | .istore_n 0 => yb0 l n 59
  | .istore_n 1 => yb0 l n 60
  | .istore_n 2 => yb0 l n 61
  | .istore_n 3 => yb0 l n 62
  | .lstore_n 0 => yb0 l n 63
  | .lstore_n 1 => yb0 l n 64
  | .lstore_n 2 => yb0 l n 65
  | .lstore_n 3 => yb0 l n 66
  | .astore_n 0 => yb0 l n 75
  | .astore_n 1 => yb0 l n 76
  | .astore_n 2 => yb0 l n 77
  | .astore_n 3 => yb0 l n 78
  | .iconst (-1) => yb0 l n 2
  | .iconst 0 => yb0 l n 3
  | .iconst 1 => yb0 l n 4
  | .iconst 2 => yb0 l n 5
  | .iconst 3 => yb0 l n 6
  | .iconst 4 => yb0 l n 7
  | .iconst 5 => yb0 l n 8
  | .lconst 0 => yb0 l n 9
  | .lconst 1 => yb0 l n 10
  | .bipush k => yb3 l n 16 k
  | .sipush k => yb4 l n 17 k
  | .goto k => yb4 l n 167 k
  | .ifCond .eq k => yb4 l n 153 k
  | .if_icmp .eq k => yb4 l n 159 k
  | .ifCond .ne k => yb4 l n 154 k
  | .if_icmp .ne k => yb4 l n 160 k
  | .ifCond .lt k => yb4 l n 155 k
  | .if_icmp .lt k => yb4 l n 161 k
  | .ifCond .ge k => yb4 l n 156 k
  | .if_icmp .ge k => yb4 l n 162 k
  | .ifCond .gt k => yb4 l n 157 k
  | .if_icmp .gt k => yb4 l n 163 k
  | .ifCond .le k => yb4 l n 158 k
  | .if_icmp .le k => yb4 l n 164 k
  | .iinc k d => yb5 l n 132 k d
  | .newarray .boolean => yb1 l n 188 4
  | .newarray .int => yb1 l n 188 10
  | .newarray .long => yb1 l n 188 11
  | _ => false
theorem ybq0 {b : ByteArray} {p n o : Nat} {i : Instr} (h : yb0 (b.data.toList.drop p) n o = true) (hf : ∀ h1 : (Reader.u1 : Decoder Nat) b p = .ok (o, p + 1), Decoder.instr p b p = .ok (i, p + 1)) : decode b p = .ok (i, n) := by
  obtain ⟨h1, hn⟩ := yb0_s h
  exact yb_dec (hf h1) (by omega)
set_option maxHeartbeats 8000000 in
theorem ybis_s {b : ByteArray} {p n : Nat} {i : Instr} (h : ybis (b.data.toList.drop p) n i = true) : decode b p = .ok (i, n) := by
  unfold ybis at h
  split at h
  · exact ybq0 h (fun h1 => (yb_bind Reader.u1 _ b p _ _ h1).trans rfl)
  · exact ybq0 h (fun h1 => (yb_bind Reader.u1 _ b p _ _ h1).trans rfl)
  · exact ybq0 h (fun h1 => (yb_bind Reader.u1 _ b p _ _ h1).trans rfl)
  · exact ybq0 h (fun h1 => (yb_bind Reader.u1 _ b p _ _ h1).trans rfl)
  · exact ybq0 h (fun h1 => (yb_bind Reader.u1 _ b p _ _ h1).trans rfl)
  · exact ybq0 h (fun h1 => (yb_bind Reader.u1 _ b p _ _ h1).trans rfl)
  · exact ybq0 h (fun h1 => (yb_bind Reader.u1 _ b p _ _ h1).trans rfl)
  · exact ybq0 h (fun h1 => (yb_bind Reader.u1 _ b p _ _ h1).trans rfl)
  · exact ybq0 h (fun h1 => (yb_bind Reader.u1 _ b p _ _ h1).trans rfl)
  · exact ybq0 h (fun h1 => (yb_bind Reader.u1 _ b p _ _ h1).trans rfl)
  · exact ybq0 h (fun h1 => (yb_bind Reader.u1 _ b p _ _ h1).trans rfl)
  · exact ybq0 h (fun h1 => (yb_bind Reader.u1 _ b p _ _ h1).trans rfl)
  · exact ybq0 h (fun h1 => (yb_bind Reader.u1 _ b p _ _ h1).trans rfl)
  · exact ybq0 h (fun h1 => (yb_bind Reader.u1 _ b p _ _ h1).trans rfl)
  · exact ybq0 h (fun h1 => (yb_bind Reader.u1 _ b p _ _ h1).trans rfl)
  · exact ybq0 h (fun h1 => (yb_bind Reader.u1 _ b p _ _ h1).trans rfl)
  · exact ybq0 h (fun h1 => (yb_bind Reader.u1 _ b p _ _ h1).trans rfl)
  · exact ybq0 h (fun h1 => (yb_bind Reader.u1 _ b p _ _ h1).trans rfl)
  · exact ybq0 h (fun h1 => (yb_bind Reader.u1 _ b p _ _ h1).trans rfl)
  · exact ybq0 h (fun h1 => (yb_bind Reader.u1 _ b p _ _ h1).trans rfl)
  · exact ybq0 h (fun h1 => (yb_bind Reader.u1 _ b p _ _ h1).trans rfl)
  · exact ybq0 h (fun h1 => (yb_bind Reader.u1 _ b p _ _ h1).trans rfl)
  · exact ybq0 h (fun h1 => (yb_bind Reader.u1 _ b p _ _ h1).trans rfl)
  · exact ybq0 h (fun h1 => (yb_bind Reader.u1 _ b p _ _ h1).trans rfl)
  · exact ybq0 h (fun h1 => (yb_bind Reader.u1 _ b p _ _ h1).trans rfl)
  · exact ybq0 h (fun h1 => (yb_bind Reader.u1 _ b p _ _ h1).trans rfl)
  · exact ybq0 h (fun h1 => (yb_bind Reader.u1 _ b p _ _ h1).trans rfl)
  · exact ybq0 h (fun h1 => (yb_bind Reader.u1 _ b p _ _ h1).trans rfl)
  · exact ybq0 h (fun h1 => (yb_bind Reader.u1 _ b p _ _ h1).trans rfl)
  · exact ybq0 h (fun h1 => (yb_bind Reader.u1 _ b p _ _ h1).trans rfl)
  · exact ybq0 h (fun h1 => (yb_bind Reader.u1 _ b p _ _ h1).trans rfl)
  · exact ybq0 h (fun h1 => (yb_bind Reader.u1 _ b p _ _ h1).trans rfl)
  · exact ybq0 h (fun h1 => (yb_bind Reader.u1 _ b p _ _ h1).trans rfl)
  · exact ybq0 h (fun h1 => (yb_bind Reader.u1 _ b p _ _ h1).trans rfl)
  · exact ybq0 h (fun h1 => (yb_bind Reader.u1 _ b p _ _ h1).trans rfl)
  · exact ybq0 h (fun h1 => (yb_bind Reader.u1 _ b p _ _ h1).trans rfl)
  · exact ybq0 h (fun h1 => (yb_bind Reader.u1 _ b p _ _ h1).trans rfl)
  · exact ybq0 h (fun h1 => (yb_bind Reader.u1 _ b p _ _ h1).trans rfl)
  · exact ybq0 h (fun h1 => (yb_bind Reader.u1 _ b p _ _ h1).trans rfl)
  · exact ybq0 h (fun h1 => (yb_bind Reader.u1 _ b p _ _ h1).trans rfl)
  · exact ybq0 h (fun h1 => (yb_bind Reader.u1 _ b p _ _ h1).trans rfl)
  · exact ybq0 h (fun h1 => (yb_bind Reader.u1 _ b p _ _ h1).trans rfl)
  · exact ybq0 h (fun h1 => (yb_bind Reader.u1 _ b p _ _ h1).trans rfl)
  · obtain ⟨h1, h2, hn⟩ := yb1_s h
    exact yb_dec (((yb_bind Reader.u1 _ b p _ _ h1).trans (yb_bind Reader.u1 _ b (p + 1) _ _ h2)).trans rfl) (by omega)
  · obtain ⟨h1, h2, hn⟩ := yb1_s h
    exact yb_dec (((yb_bind Reader.u1 _ b p _ _ h1).trans (yb_bind Reader.u1 _ b (p + 1) _ _ h2)).trans rfl) (by omega)
  · obtain ⟨h1, h2, hn⟩ := yb1_s h
    exact yb_dec (((yb_bind Reader.u1 _ b p _ _ h1).trans (yb_bind Reader.u1 _ b (p + 1) _ _ h2)).trans rfl) (by omega)
  · obtain ⟨h1, h2, hn⟩ := yb1_s h
    exact yb_dec (((yb_bind Reader.u1 _ b p _ _ h1).trans (yb_bind Reader.u1 _ b (p + 1) _ _ h2)).trans rfl) (by omega)
  · obtain ⟨h1, h2, hn⟩ := yb1_s h
    exact yb_dec (((yb_bind Reader.u1 _ b p _ _ h1).trans (yb_bind Reader.u1 _ b (p + 1) _ _ h2)).trans rfl) (by omega)
  · obtain ⟨h1, h2, hn⟩ := yb1_s h
    exact yb_dec (((yb_bind Reader.u1 _ b p _ _ h1).trans (yb_bind Reader.u1 _ b (p + 1) _ _ h2)).trans rfl) (by omega)
  · obtain ⟨h1, h2, hn⟩ := yb1_s h
    exact yb_dec (((yb_bind Reader.u1 _ b p _ _ h1).trans (yb_bind Reader.u1 _ b (p + 1) _ _ h2)).trans rfl) (by omega)
  · obtain ⟨h1, h2, hn⟩ := yb2_s h
    exact yb_dec (((yb_bind Reader.u1 _ b p _ _ h1).trans (yb_bind Reader.u2 _ b (p + 1) _ _ h2)).trans rfl) (by omega)
  · obtain ⟨h1, h2, hn⟩ := yb2_s h
    exact yb_dec (((yb_bind Reader.u1 _ b p _ _ h1).trans (yb_bind Reader.u2 _ b (p + 1) _ _ h2)).trans rfl) (by omega)
  · obtain ⟨h1, h2, hn⟩ := yb2_s h
    exact yb_dec (((yb_bind Reader.u1 _ b p _ _ h1).trans (yb_bind Reader.u2 _ b (p + 1) _ _ h2)).trans rfl) (by omega)
  · obtain ⟨h1, h2, hn⟩ := yb2_s h
    exact yb_dec (((yb_bind Reader.u1 _ b p _ _ h1).trans (yb_bind Reader.u2 _ b (p + 1) _ _ h2)).trans rfl) (by omega)
  · obtain ⟨h1, h2, hn⟩ := yb2_s h
    exact yb_dec (((yb_bind Reader.u1 _ b p _ _ h1).trans (yb_bind Reader.u2 _ b (p + 1) _ _ h2)).trans rfl) (by omega)
  · obtain ⟨h1, h2, hn⟩ := yb2_s h
    exact yb_dec (((yb_bind Reader.u1 _ b p _ _ h1).trans (yb_bind Reader.u2 _ b (p + 1) _ _ h2)).trans rfl) (by omega)
  · obtain ⟨h1, h2, hn⟩ := yb2_s h
    exact yb_dec (((yb_bind Reader.u1 _ b p _ _ h1).trans (yb_bind Reader.u2 _ b (p + 1) _ _ h2)).trans rfl) (by omega)
  · obtain ⟨h1, h2, hn⟩ := yb2_s h
    exact yb_dec (((yb_bind Reader.u1 _ b p _ _ h1).trans (yb_bind Reader.u2 _ b (p + 1) _ _ h2)).trans rfl) (by omega)
  · obtain ⟨h1, h2, hn⟩ := yb2_s h
    exact yb_dec (((yb_bind Reader.u1 _ b p _ _ h1).trans (yb_bind Reader.u2 _ b (p + 1) _ _ h2)).trans rfl) (by omega)
  · obtain ⟨h1, h2, hn⟩ := yb2_s h
    exact yb_dec (((yb_bind Reader.u1 _ b p _ _ h1).trans (yb_bind Reader.u2 _ b (p + 1) _ _ h2)).trans rfl) (by omega)
  · exact ybq0 h (fun h1 => (yb_bind Reader.u1 _ b p _ _ h1).trans rfl)
  · exact ybq0 h (fun h1 => (yb_bind Reader.u1 _ b p _ _ h1).trans rfl)
  · exact ybq0 h (fun h1 => (yb_bind Reader.u1 _ b p _ _ h1).trans rfl)
  · exact ybq0 h (fun h1 => (yb_bind Reader.u1 _ b p _ _ h1).trans rfl)
  · exact ybq0 h (fun h1 => (yb_bind Reader.u1 _ b p _ _ h1).trans rfl)
  · exact ybq0 h (fun h1 => (yb_bind Reader.u1 _ b p _ _ h1).trans rfl)
  · exact ybq0 h (fun h1 => (yb_bind Reader.u1 _ b p _ _ h1).trans rfl)
  · exact ybq0 h (fun h1 => (yb_bind Reader.u1 _ b p _ _ h1).trans rfl)
  · exact ybq0 h (fun h1 => (yb_bind Reader.u1 _ b p _ _ h1).trans rfl)
  · exact ybq0 h (fun h1 => (yb_bind Reader.u1 _ b p _ _ h1).trans rfl)
  · exact ybq0 h (fun h1 => (yb_bind Reader.u1 _ b p _ _ h1).trans rfl)
  · exact ybq0 h (fun h1 => (yb_bind Reader.u1 _ b p _ _ h1).trans rfl)
  · exact ybq0 h (fun h1 => (yb_bind Reader.u1 _ b p _ _ h1).trans rfl)
  · exact ybq0 h (fun h1 => (yb_bind Reader.u1 _ b p _ _ h1).trans rfl)
  · exact ybq0 h (fun h1 => (yb_bind Reader.u1 _ b p _ _ h1).trans rfl)
  · exact ybq0 h (fun h1 => (yb_bind Reader.u1 _ b p _ _ h1).trans rfl)
  · exact ybq0 h (fun h1 => (yb_bind Reader.u1 _ b p _ _ h1).trans rfl)
  · exact ybq0 h (fun h1 => (yb_bind Reader.u1 _ b p _ _ h1).trans rfl)
  · exact ybq0 h (fun h1 => (yb_bind Reader.u1 _ b p _ _ h1).trans rfl)
  · exact ybq0 h (fun h1 => (yb_bind Reader.u1 _ b p _ _ h1).trans rfl)
  · exact ybq0 h (fun h1 => (yb_bind Reader.u1 _ b p _ _ h1).trans rfl)
  · exact ybq0 h (fun h1 => (yb_bind Reader.u1 _ b p _ _ h1).trans rfl)
  · exact ybq0 h (fun h1 => (yb_bind Reader.u1 _ b p _ _ h1).trans rfl)
  · exact ybq0 h (fun h1 => (yb_bind Reader.u1 _ b p _ _ h1).trans rfl)
  · exact ybq0 h (fun h1 => (yb_bind Reader.u1 _ b p _ _ h1).trans rfl)
  · exact ybq0 h (fun h1 => (yb_bind Reader.u1 _ b p _ _ h1).trans rfl)
  · exact ybq0 h (fun h1 => (yb_bind Reader.u1 _ b p _ _ h1).trans rfl)
  · exact ybq0 h (fun h1 => (yb_bind Reader.u1 _ b p _ _ h1).trans rfl)
  · exact ybq0 h (fun h1 => (yb_bind Reader.u1 _ b p _ _ h1).trans rfl)
  · exact ybq0 h (fun h1 => (yb_bind Reader.u1 _ b p _ _ h1).trans rfl)
  · exact ybq0 h (fun h1 => (yb_bind Reader.u1 _ b p _ _ h1).trans rfl)
  · exact ybq0 h (fun h1 => (yb_bind Reader.u1 _ b p _ _ h1).trans rfl)
  · exact ybq0 h (fun h1 => (yb_bind Reader.u1 _ b p _ _ h1).trans rfl)
  · obtain ⟨h1, h2, hn⟩ := yb3_s h
    exact yb_dec (((yb_bind Reader.u1 _ b p _ _ h1).trans (yb_bind Reader.s1 _ b (p + 1) _ _ h2)).trans rfl) (by omega)
  · obtain ⟨h1, h2, hn⟩ := yb4_s h
    exact yb_dec (((yb_bind Reader.u1 _ b p _ _ h1).trans (yb_bind Reader.s2 _ b (p + 1) _ _ h2)).trans rfl) (by omega)
  · obtain ⟨h1, h2, hn⟩ := yb4_s h
    exact yb_dec (((yb_bind Reader.u1 _ b p _ _ h1).trans (yb_bind Reader.s2 _ b (p + 1) _ _ h2)).trans rfl) (by omega)
  · obtain ⟨h1, h2, hn⟩ := yb4_s h
    exact yb_dec (((yb_bind Reader.u1 _ b p _ _ h1).trans (yb_bind Reader.s2 _ b (p + 1) _ _ h2)).trans rfl) (by omega)
  · obtain ⟨h1, h2, hn⟩ := yb4_s h
    exact yb_dec (((yb_bind Reader.u1 _ b p _ _ h1).trans (yb_bind Reader.s2 _ b (p + 1) _ _ h2)).trans rfl) (by omega)
  · obtain ⟨h1, h2, hn⟩ := yb4_s h
    exact yb_dec (((yb_bind Reader.u1 _ b p _ _ h1).trans (yb_bind Reader.s2 _ b (p + 1) _ _ h2)).trans rfl) (by omega)
  · obtain ⟨h1, h2, hn⟩ := yb4_s h
    exact yb_dec (((yb_bind Reader.u1 _ b p _ _ h1).trans (yb_bind Reader.s2 _ b (p + 1) _ _ h2)).trans rfl) (by omega)
  · obtain ⟨h1, h2, hn⟩ := yb4_s h
    exact yb_dec (((yb_bind Reader.u1 _ b p _ _ h1).trans (yb_bind Reader.s2 _ b (p + 1) _ _ h2)).trans rfl) (by omega)
  · obtain ⟨h1, h2, hn⟩ := yb4_s h
    exact yb_dec (((yb_bind Reader.u1 _ b p _ _ h1).trans (yb_bind Reader.s2 _ b (p + 1) _ _ h2)).trans rfl) (by omega)
  · obtain ⟨h1, h2, hn⟩ := yb4_s h
    exact yb_dec (((yb_bind Reader.u1 _ b p _ _ h1).trans (yb_bind Reader.s2 _ b (p + 1) _ _ h2)).trans rfl) (by omega)
  · obtain ⟨h1, h2, hn⟩ := yb4_s h
    exact yb_dec (((yb_bind Reader.u1 _ b p _ _ h1).trans (yb_bind Reader.s2 _ b (p + 1) _ _ h2)).trans rfl) (by omega)
  · obtain ⟨h1, h2, hn⟩ := yb4_s h
    exact yb_dec (((yb_bind Reader.u1 _ b p _ _ h1).trans (yb_bind Reader.s2 _ b (p + 1) _ _ h2)).trans rfl) (by omega)
  · obtain ⟨h1, h2, hn⟩ := yb4_s h
    exact yb_dec (((yb_bind Reader.u1 _ b p _ _ h1).trans (yb_bind Reader.s2 _ b (p + 1) _ _ h2)).trans rfl) (by omega)
  · obtain ⟨h1, h2, hn⟩ := yb4_s h
    exact yb_dec (((yb_bind Reader.u1 _ b p _ _ h1).trans (yb_bind Reader.s2 _ b (p + 1) _ _ h2)).trans rfl) (by omega)
  · obtain ⟨h1, h2, hn⟩ := yb4_s h
    exact yb_dec (((yb_bind Reader.u1 _ b p _ _ h1).trans (yb_bind Reader.s2 _ b (p + 1) _ _ h2)).trans rfl) (by omega)
  · obtain ⟨h1, h2, h3, hn⟩ := yb5_s h
    exact yb_dec ((((yb_bind Reader.u1 _ b p _ _ h1).trans (yb_bind Reader.u1 _ b (p + 1) _ _ h2)).trans (yb_bind Reader.s1 _ b (p + 2) _ _ h3)).trans rfl) (by omega)
  · obtain ⟨h1, h2, hn⟩ := yb1_s h
    exact yb_dec (((yb_bind Reader.u1 _ b p _ _ h1).trans (yb_bind Reader.u1 _ b (p + 1) _ _ h2)).trans rfl) (by omega)
  · obtain ⟨h1, h2, hn⟩ := yb1_s h
    exact yb_dec (((yb_bind Reader.u1 _ b p _ _ h1).trans (yb_bind Reader.u1 _ b (p + 1) _ _ h2)).trans rfl) (by omega)
  · obtain ⟨h1, h2, hn⟩ := yb1_s h
    exact yb_dec (((yb_bind Reader.u1 _ b p _ _ h1).trans (yb_bind Reader.u1 _ b (p + 1) _ _ h2)).trans rfl) (by omega)
  · cases h
def ybone (b : ByteArray) (l : List UInt8) (p : Nat) (v : Instr × Nat) : Bool := ybis l v.2 v.1 || decide (decode b p = .ok v)
theorem ybone_s {b : ByteArray} {p : Nat} {v : Instr × Nat} (h : ybone b (b.data.toList.drop p) p v = true) : decode b p = .ok v := by
  unfold ybone at h
  rw [Bool.or_eq_true] at h
  rcases h with h | h
  · exact ybis_s h
  · exact of_decide_eq_true h
/-- through a tree in its order; (place, the bytes from there) goes along -/
def ybgo (b : ByteArray) : ydT (Instr × Nat) → Nat × List UInt8 → Option (Nat × List UInt8)
  | .leaf none, s => some s
  | .leaf (some q), s => bif Nat.ble s.1 q.1 then (bif ybone b (s.2.drop (q.1 - s.1)) q.1 q.2 then some (q.1, s.2.drop (q.1 - s.1)) else none) else none
  | .branch _ l r, s => (match ybgo b l s with
    | some s2 => ybgo b r s2
    | none => none)
theorem ybgo_s {b : ByteArray} : ∀ (t : ydT (Instr × Nat)) (s s2 : Nat × List UInt8), s.2 = b.data.toList.drop s.1 → ybgo b t s = some s2 → s2.2 = b.data.toList.drop s2.1 ∧ ydck (yh_code b) t = true := by
  intro t
  induction t with
  | leaf a =>
    intro s s2 hs h
    match a, h with
    | none, h => cases h; exact ⟨hs, rfl⟩
    | some q, h =>
      unfold ybgo at h
      cases h1 : Nat.ble s.1 q.1 with
      | false => rw [h1] at h; cases h
      | true =>
        have hle := Nat.ble_eq.mp h1
        rw [h1] at h
        have e : s.2.drop (q.1 - s.1) = b.data.toList.drop q.1 := by
          rw [hs, List.drop_drop]
          congr 1
          omega
        rw [e] at h
        cases h2 : ybone b (b.data.toList.drop q.1) q.1 q.2 with
        | false => rw [h2] at h; cases h
        | true =>
          rw [h2] at h
          cases h
          refine ⟨rfl, ?_⟩
          show yh_code b q.1 q.2 = true
          exact decide_eq_true (ybone_s h2)
  | branch p l r ihl ihr =>
    intro s s2 hs h
    unfold ybgo at h
    split at h
    · rename_i s3 h3
      obtain ⟨a1, a2⟩ := ihl s s3 hs h3
      obtain ⟨b1, b2⟩ := ihr s3 s2 a1 h
      refine ⟨b1, ?_⟩
      show (ydck (yh_code b) l && ydck (yh_code b) r) = true
      rw [a2, b2]
      rfl
    · cases h
def ybm (r : ydM) : Bool := (ybgo (ydbytes r.2.2.2.2.2.2.2.1) r.2.2.2.2.2.2.1 (0, (ydbytes r.2.2.2.2.2.2.2.1).data.toList)).isSome
theorem ybm_s {r : ydM} (h : ybm r = true) : yh_body r = true := by
  unfold ybm at h
  obtain ⟨s2, h2⟩ := Option.isSome_iff_exists.mp h
  exact (ybgo_s _ _ _ rfl h2).2
theorem ybm_all : ∀ {t : Lean.RArray ydM}, ydall ybm t = true → ydall yh_body t = true := by
  intro t
  induction t with
  | leaf a => exact fun h => ybm_s h
  | branch p l r ihl ihr =>
    intro h
    unfold ydall at h ⊢
    rw [Bool.and_eq_true] at h
    rw [ihl h.1, ihr h.2]
    rfl
end YB2
