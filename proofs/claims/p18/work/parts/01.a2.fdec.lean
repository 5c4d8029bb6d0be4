/-! a method's code, read from the front: each row of it by a look at its first bytes -/
section FDEC
/-- what r reads at q in d, r' reads at p in c -/
def fd_S {α : Type} (r r' : Reader DecodeError α) : Prop := ∀ (c d : ByteArray) (p q : Nat), (∀ (i : Nat) (b : UInt8), d[q + i]? = some b → c[p + i]? = some b) → ∀ (a : α) (m : Nat), r.runAt d q = .ok (a, m) → ∃ k, m = q + k ∧ r'.runAt c p = .ok (a, p + k)
theorem fd_pure {α : Type} (a : α) : fd_S (pure a) (pure a) := fun c d p q _ a2 m h => by
  have h : (Except.ok (a, q) : Except DecodeError (α × Nat)) = .ok (a2, m) := h
  cases h
  exact ⟨0, rfl, rfl⟩
theorem fd_bind {α β : Type} {r r' : Reader DecodeError α} {f f' : α → Reader DecodeError β} (h1 : fd_S r r') (h2 : ∀ a, fd_S (f a) (f' a)) : fd_S (r >>= f) (r' >>= f') := fun c d p q hcd a m h => by
  have e : (r >>= f).runAt d q = Except.bind (r.runAt d q) (fun x => (f x.1).runAt d x.2) := rfl
  rw [e] at h
  cases e1 : r.runAt d q with
  | error x => rw [e1] at h; cases h
  | ok x =>
    obtain ⟨b, q1⟩ := x
    rw [e1] at h
    obtain ⟨k, rfl, g1⟩ := h1 c d p q hcd b q1 e1
    obtain ⟨k2, rfl, g2⟩ := h2 b c d (p + k) (q + k) (fun i z hz => by
      have h9 := hcd (k + i) z (by rw [← Nat.add_assoc]; exact hz)
      rw [← Nat.add_assoc] at h9; exact h9) a _ h
    refine ⟨k + k2, by omega, ?_⟩
    have e2 : (r' >>= f').runAt c p = Except.bind (r'.runAt c p) (fun x => (f' x.1).runAt c x.2) := rfl
    rw [e2, g1]
    show (f' b).runAt c (p + k) = _
    rw [g2, Nat.add_assoc]
theorem fd_u1ok {d : ByteArray} {q : Nat} {b : UInt8} (h : d[q]? = some b) : (Reader.u1 : Reader DecodeError Nat).runAt d q = .ok (b.toNat, q + 1) := by
  obtain ⟨hq, e⟩ := getElem?_eq_some_iff.mp h
  show (dite (q < d.size) (fun h9 => (do set (q + 1); pure (d[q]'h9).toNat : Reader DecodeError Nat)) (fun _ => throw (HasTruncated.truncated q))) d q = _
  rw [dif_pos hq, e]
  rfl
theorem fd_u1inv {d : ByteArray} {q a m : Nat} (h : (Reader.u1 : Reader DecodeError Nat).runAt d q = .ok (a, m)) : ∃ b : UInt8, d[q]? = some b ∧ a = b.toNat ∧ m = q + 1 := by
  by_cases hq : q < d.size
  · have h1 : d[q]? = some d[q] := getElem?_eq_some_iff.mpr ⟨hq, rfl⟩
    rw [fd_u1ok h1] at h
    cases h
    exact ⟨_, h1, rfl, rfl⟩
  · have h2 : (dite (q < d.size) (fun h9 => (do set (q + 1); pure (d[q]'h9).toNat : Reader DecodeError Nat)) (fun _ => throw (HasTruncated.truncated q))) d q = .ok (a, m) := h
    rw [dif_neg hq] at h2
    cases h2
theorem fd_u1 : fd_S Reader.u1 Reader.u1 := fun c d p q hcd a m h => by
  obtain ⟨b, h1, rfl, rfl⟩ := fd_u1inv h
  exact ⟨1, rfl, fd_u1ok (hcd 0 b h1)⟩
theorem fd_u2 : fd_S Reader.u2 Reader.u2 := fd_bind fd_u1 (fun _ => fd_bind fd_u1 (fun _ => fd_pure _))
theorem fd_map {α β : Type} (f : α → β) {r r' : Reader DecodeError α} (h1 : fd_S r r') : fd_S (f <$> r) (f <$> r') := fun c d p q hcd a m h => by
  have e : ∀ (x : Reader DecodeError α) (y : ByteArray) (z : Nat), (f <$> x).runAt y z = Except.bind (x.runAt y z) (fun w => .ok (f w.1, w.2)) := fun x y z => rfl
  rw [e] at h
  cases e1 : r.runAt d q with
  | error x => rw [e1] at h; cases h
  | ok x =>
    obtain ⟨b, q1⟩ := x
    rw [e1] at h
    have h : (Except.ok (f b, q1) : Except DecodeError (β × Nat)) = .ok (a, m) := h
    cases h
    obtain ⟨k, rfl, g1⟩ := h1 c d p q hcd b _ e1
    refine ⟨k, rfl, ?_⟩
    rw [e, g1]; rfl
theorem fd_s1 : fd_S Reader.s1 Reader.s1 := fd_map _ fd_u1
theorem fd_s2 : fd_S Reader.s2 Reader.s2 := fd_map _ fd_u2
/-- the decoder behind its first byte -/
def fd_K : {K : Nat → Nat → Decoder Instr // ∀ pc, Decoder.instr pc = Reader.u1 >>= K pc} := ⟨_, fun _ => rfl⟩
def fd_ops : List Nat := [1, 2, 3, 4, 5, 6, 7, 8, 9, 10, 16, 17, 18, 19, 20, 21, 22, 25, 26, 27, 28, 29, 30, 31, 32, 33, 42, 43, 44, 45, 46, 50, 51, 54, 55, 58, 59, 60, 61, 62, 63, 64, 65, 66, 75, 76, 77, 78, 79, 83, 84, 87, 88, 89, 90, 96, 97, 100, 101, 104, 105, 108, 112, 116, 120, 121, 122, 124, 125, 126, 127, 128, 129, 132, 133, 145, 146, 148, 153, 154, 155, 156, 157, 158, 159, 160, 161, 162, 163, 164, 165, 166, 167, 172, 173, 176, 177, 178, 179, 180, 181, 182, 183, 184, 187, 189, 190, 191, 192, 193, 198, 199]
set_option maxRecDepth 40000 in
theorem fd_sim : ∀ op ∈ fd_ops, ∀ q p : Nat, fd_S (fd_K.1 q op) (fd_K.1 p op) := (List.forall_mem_cons.mpr ⟨fun q p => (fd_pure _), (List.forall_mem_cons.mpr ⟨fun q p => (fd_pure _), (List.forall_mem_cons.mpr ⟨fun q p => (fd_pure _), (List.forall_mem_cons.mpr ⟨fun q p => (fd_pure _), (List.forall_mem_cons.mpr ⟨fun q p => (fd_pure _), (List.forall_mem_cons.mpr ⟨fun q p => (fd_pure _), (List.forall_mem_cons.mpr ⟨fun q p => (fd_pure _), (List.forall_mem_cons.mpr ⟨fun q p => (fd_pure _), (List.forall_mem_cons.mpr ⟨fun q p => (fd_pure _), (List.forall_mem_cons.mpr ⟨fun q p => (fd_pure _), (List.forall_mem_cons.mpr ⟨fun q p => (fd_bind fd_s1 (fun _ => (fd_pure _))), (List.forall_mem_cons.mpr ⟨fun q p => (fd_bind fd_s2 (fun _ => (fd_pure _))), (List.forall_mem_cons.mpr ⟨fun q p => (fd_bind fd_u1 (fun _ => (fd_pure _))), (List.forall_mem_cons.mpr ⟨fun q p => (fd_bind fd_u2 (fun _ => (fd_pure _))), (List.forall_mem_cons.mpr ⟨fun q p => (fd_bind fd_u2 (fun _ => (fd_pure _))), (List.forall_mem_cons.mpr ⟨fun q p => (fd_bind fd_u1 (fun _ => (fd_pure _))), (List.forall_mem_cons.mpr ⟨fun q p => (fd_bind fd_u1 (fun _ => (fd_pure _))), (List.forall_mem_cons.mpr ⟨fun q p => (fd_bind fd_u1 (fun _ => (fd_pure _))), (List.forall_mem_cons.mpr ⟨fun q p => (fd_pure _), (List.forall_mem_cons.mpr ⟨fun q p => (fd_pure _), (List.forall_mem_cons.mpr ⟨fun q p => (fd_pure _), (List.forall_mem_cons.mpr ⟨fun q p => (fd_pure _), (List.forall_mem_cons.mpr ⟨fun q p => (fd_pure _), (List.forall_mem_cons.mpr ⟨fun q p => (fd_pure _), (List.forall_mem_cons.mpr ⟨fun q p => (fd_pure _), (List.forall_mem_cons.mpr ⟨fun q p => (fd_pure _), (List.forall_mem_cons.mpr ⟨fun q p => (fd_pure _), (List.forall_mem_cons.mpr ⟨fun q p => (fd_pure _), (List.forall_mem_cons.mpr ⟨fun q p => (fd_pure _), (List.forall_mem_cons.mpr ⟨fun q p => (fd_pure _), (List.forall_mem_cons.mpr ⟨fun q p => (fd_pure _), (List.forall_mem_cons.mpr ⟨fun q p => (fd_pure _), (List.forall_mem_cons.mpr ⟨fun q p => (fd_pure _), (List.forall_mem_cons.mpr ⟨fun q p => (fd_bind fd_u1 (fun _ => (fd_pure _))), (List.forall_mem_cons.mpr ⟨fun q p => (fd_bind fd_u1 (fun _ => (fd_pure _))), (List.forall_mem_cons.mpr ⟨fun q p => (fd_bind fd_u1 (fun _ => (fd_pure _))), (List.forall_mem_cons.mpr ⟨fun q p => (fd_pure _), (List.forall_mem_cons.mpr ⟨fun q p => (fd_pure _), (List.forall_mem_cons.mpr ⟨fun q p => (fd_pure _), (List.forall_mem_cons.mpr ⟨fun q p => (fd_pure _), (List.forall_mem_cons.mpr ⟨fun q p => (fd_pure _), (List.forall_mem_cons.mpr ⟨fun q p => (fd_pure _), (List.forall_mem_cons.mpr ⟨fun q p => (fd_pure _), (List.forall_mem_cons.mpr ⟨fun q p => (fd_pure _), (List.forall_mem_cons.mpr ⟨fun q p => (fd_pure _), (List.forall_mem_cons.mpr ⟨fun q p => (fd_pure _), (List.forall_mem_cons.mpr ⟨fun q p => (fd_pure _), (List.forall_mem_cons.mpr ⟨fun q p => (fd_pure _), (List.forall_mem_cons.mpr ⟨fun q p => (fd_pure _), (List.forall_mem_cons.mpr ⟨fun q p => (fd_pure _), (List.forall_mem_cons.mpr ⟨fun q p => (fd_pure _), (List.forall_mem_cons.mpr ⟨fun q p => (fd_pure _), (List.forall_mem_cons.mpr ⟨fun q p => (fd_pure _), (List.forall_mem_cons.mpr ⟨fun q p => (fd_pure _), (List.forall_mem_cons.mpr ⟨fun q p => (fd_pure _), (List.forall_mem_cons.mpr ⟨fun q p => (fd_pure _), (List.forall_mem_cons.mpr ⟨fun q p => (fd_pure _), (List.forall_mem_cons.mpr ⟨fun q p => (fd_pure _), (List.forall_mem_cons.mpr ⟨fun q p => (fd_pure _), (List.forall_mem_cons.mpr ⟨fun q p => (fd_pure _), (List.forall_mem_cons.mpr ⟨fun q p => (fd_pure _), (List.forall_mem_cons.mpr ⟨fun q p => (fd_pure _), (List.forall_mem_cons.mpr ⟨fun q p => (fd_pure _), (List.forall_mem_cons.mpr ⟨fun q p => (fd_pure _), (List.forall_mem_cons.mpr ⟨fun q p => (fd_pure _), (List.forall_mem_cons.mpr ⟨fun q p => (fd_pure _), (List.forall_mem_cons.mpr ⟨fun q p => (fd_pure _), (List.forall_mem_cons.mpr ⟨fun q p => (fd_pure _), (List.forall_mem_cons.mpr ⟨fun q p => (fd_pure _), (List.forall_mem_cons.mpr ⟨fun q p => (fd_pure _), (List.forall_mem_cons.mpr ⟨fun q p => (fd_pure _), (List.forall_mem_cons.mpr ⟨fun q p => (fd_pure _), (List.forall_mem_cons.mpr ⟨fun q p => (fd_pure _), (List.forall_mem_cons.mpr ⟨fun q p => (fd_bind fd_u1 (fun _ => (fd_bind fd_s1 (fun _ => (fd_pure _))))), (List.forall_mem_cons.mpr ⟨fun q p => (fd_pure _), (List.forall_mem_cons.mpr ⟨fun q p => (fd_pure _), (List.forall_mem_cons.mpr ⟨fun q p => (fd_pure _), (List.forall_mem_cons.mpr ⟨fun q p => (fd_pure _), (List.forall_mem_cons.mpr ⟨fun q p => (fd_bind fd_s2 (fun _ => (fd_pure _))), (List.forall_mem_cons.mpr ⟨fun q p => (fd_bind fd_s2 (fun _ => (fd_pure _))), (List.forall_mem_cons.mpr ⟨fun q p => (fd_bind fd_s2 (fun _ => (fd_pure _))), (List.forall_mem_cons.mpr ⟨fun q p => (fd_bind fd_s2 (fun _ => (fd_pure _))), (List.forall_mem_cons.mpr ⟨fun q p => (fd_bind fd_s2 (fun _ => (fd_pure _))), (List.forall_mem_cons.mpr ⟨fun q p => (fd_bind fd_s2 (fun _ => (fd_pure _))), (List.forall_mem_cons.mpr ⟨fun q p => (fd_bind fd_s2 (fun _ => (fd_pure _))), (List.forall_mem_cons.mpr ⟨fun q p => (fd_bind fd_s2 (fun _ => (fd_pure _))), (List.forall_mem_cons.mpr ⟨fun q p => (fd_bind fd_s2 (fun _ => (fd_pure _))), (List.forall_mem_cons.mpr ⟨fun q p => (fd_bind fd_s2 (fun _ => (fd_pure _))), (List.forall_mem_cons.mpr ⟨fun q p => (fd_bind fd_s2 (fun _ => (fd_pure _))), (List.forall_mem_cons.mpr ⟨fun q p => (fd_bind fd_s2 (fun _ => (fd_pure _))), (List.forall_mem_cons.mpr ⟨fun q p => (fd_bind fd_s2 (fun _ => (fd_pure _))), (List.forall_mem_cons.mpr ⟨fun q p => (fd_bind fd_s2 (fun _ => (fd_pure _))), (List.forall_mem_cons.mpr ⟨fun q p => (fd_bind fd_s2 (fun _ => (fd_pure _))), (List.forall_mem_cons.mpr ⟨fun q p => (fd_pure _), (List.forall_mem_cons.mpr ⟨fun q p => (fd_pure _), (List.forall_mem_cons.mpr ⟨fun q p => (fd_pure _), (List.forall_mem_cons.mpr ⟨fun q p => (fd_pure _), (List.forall_mem_cons.mpr ⟨fun q p => (fd_bind fd_u2 (fun _ => (fd_pure _))), (List.forall_mem_cons.mpr ⟨fun q p => (fd_bind fd_u2 (fun _ => (fd_pure _))), (List.forall_mem_cons.mpr ⟨fun q p => (fd_bind fd_u2 (fun _ => (fd_pure _))), (List.forall_mem_cons.mpr ⟨fun q p => (fd_bind fd_u2 (fun _ => (fd_pure _))), (List.forall_mem_cons.mpr ⟨fun q p => (fd_bind fd_u2 (fun _ => (fd_pure _))), (List.forall_mem_cons.mpr ⟨fun q p => (fd_bind fd_u2 (fun _ => (fd_pure _))), (List.forall_mem_cons.mpr ⟨fun q p => (fd_bind fd_u2 (fun _ => (fd_pure _))), (List.forall_mem_cons.mpr ⟨fun q p => (fd_bind fd_u2 (fun _ => (fd_pure _))), (List.forall_mem_cons.mpr ⟨fun q p => (fd_bind fd_u2 (fun _ => (fd_pure _))), (List.forall_mem_cons.mpr ⟨fun q p => (fd_pure _), (List.forall_mem_cons.mpr ⟨fun q p => (fd_pure _), (List.forall_mem_cons.mpr ⟨fun q p => (fd_bind fd_u2 (fun _ => (fd_pure _))), (List.forall_mem_cons.mpr ⟨fun q p => (fd_bind fd_u2 (fun _ => (fd_pure _))), (List.forall_mem_cons.mpr ⟨fun q p => (fd_bind fd_s2 (fun _ => (fd_pure _))), (List.forall_mem_cons.mpr ⟨fun q p => (fd_bind fd_s2 (fun _ => (fd_pure _))), (fun _ h => absurd h List.not_mem_nil)⟩)⟩)⟩)⟩)⟩)⟩)⟩)⟩)⟩)⟩)⟩)⟩)⟩)⟩)⟩)⟩)⟩)⟩)⟩)⟩)⟩)⟩)⟩)⟩)⟩)⟩)⟩)⟩)⟩)⟩)⟩)⟩)⟩)⟩)⟩)⟩)⟩)⟩)⟩)⟩)⟩)⟩)⟩)⟩)⟩)⟩)⟩)⟩)⟩)⟩)⟩)⟩)⟩)⟩)⟩)⟩)⟩)⟩)⟩)⟩)⟩)⟩)⟩)⟩)⟩)⟩)⟩)⟩)⟩)⟩)⟩)⟩)⟩)⟩)⟩)⟩)⟩)⟩)⟩)⟩)⟩)⟩)⟩)⟩)⟩)⟩)⟩)⟩)⟩)⟩)⟩)⟩)⟩)⟩)⟩)⟩)⟩)⟩)⟩)⟩)⟩)⟩)⟩)⟩)⟩)⟩)⟩)⟩)⟩)⟩)⟩)⟩)
theorem fd_dec {c d : ByteArray} {p q : Nat} (hcd : ∀ (i : Nat) (b : UInt8), d[q + i]? = some b → c[p + i]? = some b) {b : UInt8} (hb : d[q]? = some b) (hop : b.toNat ∈ fd_ops) {I : Instr} {n : Nat} (h : decode d q = .ok (I, n)) : decode c p = .ok (I, n) := by
  have e : ∀ (y : ByteArray) (z : Nat), decode y z = Except.bind ((Decoder.instr z).runAt y z) (fun w => .ok (w.1, w.2 - z)) := fun y z => rfl
  have e2 : ∀ (y : ByteArray) (z : Nat), (Reader.u1 >>= fd_K.1 z).runAt y z = Except.bind ((Reader.u1 : Reader DecodeError Nat).runAt y z) (fun w => (fd_K.1 z w.1).runAt y w.2) := fun y z => rfl
  rw [e, fd_K.2, e2, fd_u1ok hb] at h
  have h : Except.bind ((fd_K.1 q b.toNat).runAt d (q + 1)) (fun w => .ok (w.1, w.2 - q)) = .ok (I, n) := h
  cases e1 : (fd_K.1 q b.toNat).runAt d (q + 1) with
  | error x => rw [e1] at h; cases h
  | ok x =>
    obtain ⟨J, m⟩ := x
    rw [e1] at h
    have h : (Except.ok (J, m - q) : Except DecodeError (Instr × Nat)) = .ok (I, n) := h
    obtain ⟨k, rfl, g⟩ := fd_sim _ hop q p c d (p + 1) (q + 1) (fun i z hz => by
      have h9 := hcd (1 + i) z (by rw [← Nat.add_assoc]; exact hz)
      rw [← Nat.add_assoc] at h9; exact h9) J m e1
    rw [e, fd_K.2, e2, fd_u1ok (q := p) (show c[p]? = some b from hcd 0 b hb)]
    show Except.bind ((fd_K.1 p b.toNat).runAt c (p + 1)) (fun w => .ok (w.1, w.2 - p)) = _
    rw [g]
    show (Except.ok (J, p + 1 + k - p) : Except DecodeError (Instr × Nat)) = _
    rw [show p + 1 + k - p = q + 1 + k - q by omega]; exact h
def fd_mask (n : Nat) : Bool := Nat.beq (Nat.land (Nat.shiftRight 1229772424257498944047000676026521801950210307123495437273086 n) 1) 1
theorem fd_mask_mem : ∀ n, n < 256 → fd_mask n = true → n ∈ fd_ops := by decide +kernel
def fd_rows : List UInt8 → Nat → List (Nat × Option Instr × Nat) → Bool
  | _, _, [] => true
  | l, p, (p2, none, n) :: r => Nat.beq p2 p && fd_rows (l.drop n) (p + n) r
  | [], _, (_, some _, _) :: _ => false
  | b :: l, p, (p2, some I, n) :: r => Nat.beq p2 p && (fd_mask b.toNat && (decide (decode ⟨⟨(b :: l).take 5⟩⟩ 0 = .ok (I, n)) && fd_rows ((b :: l).drop n) (p + n) r))
theorem fd_at (c : ByteArray) (i : Nat) : c[i]? = c.data.toList[i]? := by
  rw [Array.getElem?_toList]
  rfl
theorem fd_get0 {c : ByteArray} : ∀ (rows : List (Nat × Option Instr × Nat)) (l : List UInt8) (p : Nat), l = c.data.toList.drop p → fd_rows l p rows = true → ∀ pc I n, (pc, some I, n) ∈ rows → decode c pc = .ok (I, n)
  | [], _, _, _, _, _, _, _, hm => absurd hm List.not_mem_nil
  | (p2, none, n2) :: r, l, p, hl, h, pc, I, n, hm => by
    have h : (Nat.beq p2 p && fd_rows (l.drop n2) (p + n2) r) = true := h
    rw [Bool.and_eq_true] at h
    rcases List.mem_cons.mp hm with e | hm
    · cases e
    · exact fd_get0 r (l.drop n2) (p + n2) (by rw [hl, List.drop_drop]) h.2 pc I n hm
  | (p2, some I2, n2) :: r, [], p, hl, h, pc, I, n, hm => by cases h
  | (p2, some I2, n2) :: r, b :: l, p, hl, h, pc, I, n, hm => by
    have h : (Nat.beq p2 p && (fd_mask b.toNat && (decide (decode ⟨⟨(b :: l).take 5⟩⟩ 0 = .ok (I2, n2)) && fd_rows ((b :: l).drop n2) (p + n2) r))) = true := h
    rw [Bool.and_eq_true, Bool.and_eq_true, Bool.and_eq_true] at h
    obtain ⟨h1, h2, h3, h4⟩ := h
    rcases List.mem_cons.mp hm with e | hm
    · have e9 : pc = p2 ∧ I = I2 ∧ n = n2 := by cases e; exact ⟨rfl, rfl, rfl⟩
      rw [e9.1, e9.2.1, e9.2.2, Nat.eq_of_beq_eq_true h1]
      refine fd_dec (d := ⟨⟨(b :: l).take 5⟩⟩) (q := 0) (b := b) (fun i z hz => ?_) rfl (fd_mask_mem _ (show b.toNat < 256 from b.toNat_lt) h2) (of_decide_eq_true h3)
      rw [Nat.zero_add, fd_at] at hz
      rw [fd_at, ← List.getElem?_drop, ← hl]
      have hz : ((b :: l).take 5)[i]? = some z := hz
      rw [List.getElem?_take] at hz
      split at hz
      · exact hz
      · cases hz
    · exact fd_get0 r ((b :: l).drop n2) (p + n2) (by rw [hl, List.drop_drop]) h4 pc I n hm
theorem fd_get {c : ByteArray} {rows : List (Nat × Option Instr × Nat)} {p : Nat} (h : fd_rows (c.data.toList.drop p) p rows = true) {k pc n : Nat} {I : Instr} (hk : rows[k]? = some (pc, some I, n)) : decode c pc = .ok (I, n) := fd_get0 rows _ p rfl h pc I n (List.mem_of_getElem? hk)
end FDEC
/-! words by runs -/
def tkA {α : Type} : Nat → List α → List α
  | 0, _ => []
  | _ + 1, [] => []
  | n + 1, a :: l => a :: tkA n l
def tkB {α : Type} : Nat → List α → List α
  | 0, _ => []
  | _ + 1, [] => []
  | n + 1, a :: l => a :: tkB n l
theorem tk_mem {α : Type} {p : α → Prop} : ∀ (n : Nat) (ws : List α), (∀ w ∈ tkA n ws, p w) → (∀ w ∈ ws.drop n, p w) → ∀ w ∈ ws, p w
  | 0, _, _, h2 => h2
  | _ + 1, [], _, _ => fun _ h => absurd h List.not_mem_nil
  | n + 1, a :: l, h1, h2 => fun w h => by
    rcases List.mem_cons.mp h with e | h
    · rw [e]; exact h1 a List.mem_cons_self
    · exact tk_mem n l (fun w hw => h1 w (List.mem_cons_of_mem _ hw)) h2 w h
theorem tkB_sub {α : Type} : ∀ (n : Nat) (l : List α) {w : α}, w ∈ tkB n l → w ∈ l
  | 0, _, _, h => absurd h List.not_mem_nil
  | _ + 1, [], _, h => absurd h List.not_mem_nil
  | n + 1, a :: l, w, h => by
    rcases List.mem_cons.mp h with e | h
    · rw [e]; exact List.mem_cons_self
    · exact List.mem_cons_of_mem _ (tkB_sub n l h)
theorem tkB_mem {α : Type} {l : List α} {w : α} (k n : Nat) (h : w ∈ tkB n (l.drop k)) : w ∈ l := List.mem_of_mem_drop (tkB_sub n _ h)
