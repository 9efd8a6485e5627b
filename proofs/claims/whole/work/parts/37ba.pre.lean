section
def q_ckL (mt : qMt) (nL : Nat) (b : ByteArray) (cx : Nat) (e : Nat × Instr × Nat) : Bool := decide (decode b e.1 = .ok (e.2.1, e.2.2)) && q_okI mt nL e.1 e.2.1 e.2.2 && (match e.2.1 with | .checkcast ix => Nat.beq ix cx && !(Nat.beq cx 0) | _ => true)
theorem q_sp {α : Type} {L : List α} {p : α → Bool} (a : Nat) (h1 : (L.take a).all p = true) (h2 : (L.drop a).all p = true) : L.all p = true := by
  rw [← List.take_append_drop a L, List.all_append, h1, h2]
  rfl
theorem q_lk_mem : ∀ {L : List (Nat × Instr × Nat)} {pc : Nat} {i : Instr} {n : Nat}, q_lk L pc = some (i, n) → (pc, i, n) ∈ L := by
  intro L
  induction L with
  | nil => intro pc i n h; cases h
  | cons e t ih =>
    intro pc i n h
    unfold q_lk at h
    cases hb : Nat.beq e.1 pc with
    | true =>
      rw [hb] at h
      have h1 : e.1 = pc := Nat.eq_of_beq_eq_true hb
      have h2 : e.2 = (i, n) := Option.some.inj h
      rw [← h1, ← h2]
      exact List.mem_cons_self
    | false =>
      rw [hb] at h
      exact List.mem_cons_of_mem _ (ih h)
end
