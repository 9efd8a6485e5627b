section
/-! READING A TEXT: where the next thing begins -/
def skL : List Int → Nat
  | [] => 0
  | b :: t => if b = 10 ∨ b = 32 then skL t + 1 else 0
def skp (tp : List Int) (a : Nat) : Nat := a + skL (tp.drop a)
theorem skL_le : ∀ l : List Int, skL l ≤ l.length := by
  intro l
  induction l with
  | nil => exact Nat.le_refl 0
  | cons b t ih => unfold skL; rw [List.length_cons]; split <;> omega
theorem skp_le {tp : List Int} {a : Nat} (h : a ≤ tp.length) : a ≤ skp tp a ∧ skp tp a ≤ tp.length := by
  have := skL_le (tp.drop a)
  rw [List.length_drop] at this
  unfold skp; omega
theorem drop_c {tp : List Int} {a : Nat} (h : a < tp.length) : tp.drop a = tp.getD a 0 :: tp.drop (a + 1) := by
  rw [List.drop_eq_getElem_cons h, getD_el h]
theorem skp_s {tp : List Int} {a : Nat} (h : a < tp.length) (hb : tp.getD a 0 = 10 ∨ tp.getD a 0 = 32) : skp tp a = skp tp (a + 1) := by
  unfold skp; rw [drop_c h]; show a + (if _ then _ else _) = _; rw [if_pos hb]; omega
theorem skp_n {tp : List Int} {a : Nat} (h : a < tp.length) (hb : ¬ (tp.getD a 0 = 10 ∨ tp.getD a 0 = 32)) : skp tp a = a := by
  unfold skp; rw [drop_c h]; show a + (if _ then _ else _) = _; rw [if_neg hb]; rfl
theorem skp_e {tp : List Int} {a : Nat} (h : tp.length ≤ a) : skp tp a = a := by
  unfold skp; rw [List.drop_eq_nil_of_le h]; rfl
/-- the reference reads tp, at a -/
def R_rd (tp : List Int) (a : Nat) (M : qM) : Prop := q_nm M 66 3 = tp.length ∧ q_L M 67 0 tp ∧ q_nm M 66 2 = a ∧ a ≤ tp.length ∧ tp.length ≤ 2100
theorem r_152l {d : Nat} {P : Int → qM → Prop} {tp : List Int} {a0 : Nat} {M0 : qM} {c s : Nat} (K : ∀ M', fr (fun a j => a = 66 ∧ j = 2) M0 M' → R_rd tp (skp tp a0) M' → P (tb tp (skp tp a0)) M') : ∀ (n a : Nat) (M : qM), a + n = tp.length → skp tp a = skp tp a0 → fr (fun a j => a = 66 ∧ j = 2) M0 M → q_lay M → R_rd tp a M → q_At q_m152 (q_WP q_Pr d) P 0 [(0, .inr (.inr 66))] [] M c s := by
  intro n
  induction n with
  | zero =>
    intro a M h0 hs f hl h
    have kk := K M f (by rw [← hs, skp_e (by omega)]; exact h)
    rw [← hs, skp_e (by omega), tb_out (by omega)] at kk
    refine t_152_0 hl ?_
    rw [h.1, h.2.2.1]
    exact ⟨fun _ => ⟨fun _ => kk, fun z => absurd z (by omega)⟩, fun z => absurd z (by omega)⟩
  | succ n ih =>
    intro a M h0 hs f hl h
    have ha : a < tp.length := by omega
    have h5 := h.2.2.2.2
    have eb : q_nm M 67 (a : Int) = tp.getD a 0 := by
      have e := h.2.1 a ha
      rwa [Int.zero_add] at e
    have go : (tp.getD a 0 = 10 ∨ tp.getD a 0 = 32) → ∀ M1 : qM, M1 = q_wn M 66 2 (w32 ((a : Int) + 1)) → q_lay M1 → q_At q_m152 (q_WP q_Pr d) P 0 [(0, .inr (.inr 66))] [] M1 c s := fun hb M1 e1 l1 => by
      rw [w32_id (x := (a : Int) + 1) (by omega) (by omega)] at e1
      refine ih (a + 1) M1 (by omega) ((skp_s ha hb).symm.trans hs) (fr_trans f (fr_wn e1 ⟨rfl, rfl⟩)) l1 ⟨(wn_ne e1 (by omega)).trans h.1, q_L_fr h.2.1 (fun j _ _ => wn_ne e1 (by omega)), by rw [wn_eq e1]; omega, by omega, h5⟩
    refine t_152_0 hl ?_
    rw [h.1, h.2.2.1, eb]
    refine ⟨fun z => absurd z (by omega), fun _ => ⟨by omega, fun z => go (Or.inl z), fun z => ⟨by omega, fun y => ?_, fun y => go (Or.inr y)⟩⟩⟩
    have nb : ¬ (tp.getD a 0 = 10 ∨ tp.getD a 0 = 32) := fun q => q.elim z y
    have kk := K M f (by rw [← hs, skp_n ha nb]; exact h)
    rw [← hs, skp_n ha nb, tb_in (by omega) (by omega), show ((a : Int)).toNat = a by omega] at kk
    exact ⟨fun z => absurd z (by omega), fun _ => ⟨by omega, kk⟩⟩
theorem r_152 {d : Nat} {P : Int → qM → Prop} {tp : List Int} {a : Nat} {M : qM} (hl : q_lay M) (h : R_rd tp a M) (K : ∀ M', fr (fun a j => a = 66 ∧ j = 2) M M' → R_rd tp (skp tp a) M' → P (tb tp (skp tp a)) M') : q_WP q_Pr (d + 1) 152 [.inr (.inr 66)] M P :=
  q_enter (r_152l K (tp.length - a) a M (by have := h.2.2.2.1; omega) rfl fr_rfl hl h)
end
