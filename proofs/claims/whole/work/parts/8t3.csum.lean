section
/-! THE COMPONENT READS SUMS AND TESTS -/
def cRd (tp : List Int) (r : Int) (n : Nat) (y D : Nat) (o : Int) (p : Nat → gR) : Prop := ∀ (P : Int → qM → Prop) (i : Nat) (C : List Int) (M : qM), C_go tp r n i C M → C.length < i → (∀ M', fr (Zd r) M M' → C_po tp r n C (p i) M' → P 0 M') → q_WP q_Pr D y [.inr (.inr r), .inl o] M P
def cRb (tp : List Int) (r : Int) (n : Nat) (y D : Nat) (o : Int) : Prop := ∀ (P : Int → qM → Prop) (k : Int) (i : Nat) (M : qM), C_bd tp r n k i M → (∀ M', fr (Zd r) M M' → C_bd tp r n k i M' → P 0 M') → q_WP q_Pr D y [.inr (.inr r), .inl o] M P
def lbC (s : Nat) (C : List Int) (res : gR) : Prop := ∀ j c, res = .inl (j, c) → (C ++ c).length + s < j
theorem lbC_0 {s i : Nat} {C : List Int} (h : C.length + s < i) : lbC s C (.inl (i, [])) := fun j c e => by
  obtain ⟨e1, e2⟩ := inl2 e
  rw [← e1, ← e2, List.append_nil]; exact h
theorem lbC_w {T : Nat → Int} {s : Nat} {C : List Int} {res : gR} {w : Int} (h : lbC s C res) : lbC s C (gB res fun j c => if T j = w then .inl (j + 1, c) else .inr (1, j)) := fun j c e => by
  obtain ⟨j1, c1, q1, q2⟩ := gB_inl e
  have := h j1 c1 q1
  split at q2
  · obtain ⟨e1, e2⟩ := inl2 q2
    rw [← e1, ← e2]; omega
  · exact absurd q2 (by simp)
theorem lbC_o {T : Nat → Int} {s : Nat} {C : List Int} {res : gR} {w o : Int} (h : lbC s C res) : lbC s C (gB res fun j c => if T j = w then (if o < 6 then .inl (j + 1, c) else .inr (4, j)) else .inr (1, j)) := fun j c e => by
  obtain ⟨j1, c1, q1, q2⟩ := gB_inl e
  have := h j1 c1 q1
  split at q2
  · split at q2
    · obtain ⟨e1, e2⟩ := inl2 q2
      rw [← e1, ← e2]; omega
    · exact absurd q2 (by simp)
  · exact absurd q2 (by simp)
theorem lbC_p {s : Nat} {C : List Int} {res : gR} {p : Nat → gR} (hp : gLn p) (h : lbC s C res) : lbC s C (gB res fun j c => gB (p j) fun j2 c2 => .inl (j2, c ++ c2)) := fun j c e => by
  obtain ⟨j1, c1, q1, q2⟩ := gB_inl e
  have a := h j1 c1 q1
  obtain ⟨j2, c2, q3, q4⟩ := gB_inl q2
  have b := hp _ _ _ q3
  obtain ⟨e1, e2⟩ := inl2 q4
  rw [← e1, ← e2]
  simp only [List.length_append] at a ⊢
  omega
/-- a reading behind a state, whether good or bad -/
theorem cRg {tp : List Int} {r : Int} {n y D : Nat} {o : Int} {p : Nat → gR} {P : Int → qM → Prop} {C : List Int} {res : gR} {M : qM} (h1 : (∃ j c, res = .inl (j, c)) → cRd tp r n y D o p) (h2 : cRb tp r n y D o) (hb : lbC 0 C res) (h : C_po tp r n C res M) (K : ∀ M', fr (Zd r) M M' → C_po tp r n C (gB res fun j c => gB (p j) fun j2 c2 => .inl (j2, c ++ c2)) M' → P 0 M') : q_WP q_Pr D y [.inr (.inr r), .inl o] M P := by
  cases res with
  | inl x =>
    refine h1 ⟨x.1, x.2, rfl⟩ P x.1 (C ++ x.2) M h (hb x.1 x.2 rfl) (fun M' f' h' => K M' f' ?_)
    show C_po tp r n C (gB (p x.1) fun j2 c2 => .inl (j2, x.2 ++ c2)) M'
    cases e : p x.1 with
    | inl z =>
      rw [e] at h'
      show C_go tp r n z.1 (C ++ (x.2 ++ z.2)) M'
      rw [← List.append_assoc]; exact h'
    | inr f => rw [e] at h'; exact h'
  | inr f => exact h2 P f.1 f.2 M h (fun M' f' h' => K M' f' h')
theorem C_54' {d : Nat} {P : Int → qM → Prop} {tp : List Int} {r x : Int} {n : Nat} {C : List Int} {res : gR} {M : qM} (h : C_po tp r n C res M) (hb : lbC 0 C res) (K : ∀ M', fr (Zd r) M M' → C_po tp r n C (gB res fun j c => .inl (j, c ++ [x])) M' → P 0 M') : q_WP q_Pr (d + 1) 54 [.inr (.inr (r + 1)), .inl x] M P := by
  refine C_54 h (fun j c e => ?_) K
  have a := hb j c e
  rw [e] at h
  have hh : C_go tp r n j (C ++ c) M := h
  have := hh.2.2.2.2.1
  have := hh.1.2.2.2.1.1
  omega
theorem c_52b {tp : List Int} {r : Int} {n : Nat} (d : Nat) (o : Int) : cRb tp r n 52 (d + 2) o := by
  intro P k i M h K
  have k4 := h.1.1.2.1.1
  refine q_enter (s_52_0 ⟨fun _ => ?_, fun _ => K M fr_rfl h⟩)
  rw [k4, C_bd_t h]
  refine ⟨rfl, fun z => absurd z (by decide), fun _ => ⟨rfl, fun _ => s_52_53 ?_, fun z => absurd z (by decide)⟩⟩
  rw [k4, C_bd_t h]
  exact ⟨rfl, fun _ => ⟨rfl, fun z => absurd z (by decide), fun _ => ⟨rfl, fun _ => ⟨rfl, C_42b (d := d) h (fun M' f' b' _ => s_52_161 (K M' f' b'))⟩, fun z => absurd z (by decide)⟩⟩, fun z => absurd z (by decide)⟩
theorem c_51e {P : Int → qM → Prop} {tp : List Int} {r o x2 : Int} {n d : Nat} {k : Int} {i : Nat} {M : qM} (h : C_bd tp r n k i M) (K : P 0 M) : q_At q_m51 (q_WP q_Pr d) P 7 [(0, .inr (.inr r)), (1, .inl o), (2, .inl x2)] [] M 0 0 := by
  refine s_51_7 ⟨fun _ => K, fun _ => ?_⟩
  rw [h.1.1.2.1.1, C_bd_t h]
  exact ⟨rfl, fun z => absurd z (by decide), fun _ => ⟨rfl, fun _ => K, fun z => absurd z (by decide)⟩⟩
theorem c_51b {tp : List Int} {r : Int} {n : Nat} (d : Nat) (o : Int) : cRb tp r n 51 (d + 3) o := by
  intro P k i M h K
  refine q_enter (s_51_0 ⟨h.1.1.2.1.1, c_52b d o _ k i M h (fun M' f' h' => c_51e h' (K M' f' h'))⟩)
theorem c_51l {tp : List Int} {r o : Int} {n D : Nat} {p : Nat → gR} {P : Int → qM → Prop} {C : List Int} (hl : gLn p) (hp : cRd tp r n 52 (D + 2) o p) : ∀ (fu x2 i : Nat) (c : List Int) (M : qM), x2 + fu = 2100 → C_go tp r n i (C ++ c) M → (C ++ c).length < i → (∀ M', fr (Zd r) M M' → C_po tp r n C (gLoop (yT tp) oM p fu i c) M' → P 0 M') → q_At q_m51 (q_WP q_Pr (D + 2)) P 7 [(0, .inr (.inr r)), (1, .inl o), (2, .inl (x2 : Int))] [] M 0 0 := by
  intro fu
  induction fu with
  | zero =>
    intro x2 i c M hx h hb K
    exact s_51_7 ⟨fun _ => K M fr_rfl h, fun z => absurd z (by omega)⟩
  | succ fu ih =>
    intro x2 i c M hx h hb K
    have k4 := h.1.1.2.1.1
    have go : oM (yT tp i) = true → yT tp i ≠ -1 → yT tp i ≠ -2 → q_WP q_Pr (D + 2) 43 [.inr (.inr r)] M (fun v1 M2 => (q_kd M2 r = 4 ∧ q_WP q_Pr (D + 2) 52 [.inr (.inr r), .inl o] M2 (fun v3 M4 => (q_kd M4 r = 4 ∧ (q_kd M4 (q_rf M4 r 0) = 5 ∧ q_WP q_Pr (D + 2) 54 [.inr (.inr (q_rf M4 r 0)), .inl (yT tp i)] M4 (fun v5 M6 => q_At q_m51 (q_WP q_Pr (D + 2)) P 7 [(0, .inr (.inr r)), (1, .inl o), (2, .inl (w32 ((x2 : Int) + 1)))] [] M6 0 0)))))) := fun ho n1 n2 => by
      rw [w32_id (x := (x2 : Int) + 1) (by omega) (by omega)]
      refine C_43 (d := D + 1) h n1 n2 (fun M1 f1 h1 => ⟨h1.1.1.2.1.1, hp _ (i + 1) (C ++ c) M1 h1 (by omega) (fun M2 f2 h2 => ?_)⟩)
      have hb2 : lbC 0 (C ++ c) (p (i + 1)) := fun j c2 e => by
        have := hl _ _ _ e
        rw [List.length_append]; omega
      have ss := C_po_s h2
      rw [ss.1]
      refine ⟨C_po_k h2, ss.2, C_54' (d := D + 1) h2 hb2 (fun M3 f3 h3 => ?_)⟩
      have eg : gLoop (yT tp) oM p (fu + 1) i c = gB (p (i + 1)) (fun j c2 => gLoop (yT tp) oM p fu j (c ++ c2 ++ [yT tp i])) := by
        show (if _ then _ else _) = _; rw [if_pos ho]
      rw [eg] at K
      cases e : p (i + 1) with
      | inl z =>
        rw [e] at h3 K
        have lz := hl _ _ _ (show p (i + 1) = .inl (z.1, z.2) from e)
        have h3' : C_go tp r n z.1 ((C ++ c) ++ (z.2 ++ [yT tp i])) M3 := h3
        have ea : (C ++ c) ++ (z.2 ++ [yT tp i]) = C ++ (c ++ z.2 ++ [yT tp i]) := by simp only [List.append_assoc]
        rw [ea] at h3'
        refine ih (x2 + 1) z.1 (c ++ z.2 ++ [yT tp i]) M3 (by omega) h3' (by rw [← ea]; simp only [List.length_append, List.length_cons, List.length_nil] at hb ⊢; omega) (fun M' f' h' => K M' (fr_trans f1 (fr_trans f2 (fr_trans f3 f'))) h')
      | inr f =>
        rw [e] at h3 K
        exact c_51e (show C_bd tp r n f.1 f.2 M3 from h3) (K M3 (fr_trans f1 (fr_trans f2 f3)) h3)
    refine s_51_7 ⟨fun z => absurd z (by omega), fun _ => ?_⟩
    rw [k4, h.2.2.2.1]
    have ex : oM (yT tp i) = false → P 0 M := fun ho => K M fr_rfl (by
      have eg : gLoop (yT tp) oM p (fu + 1) i c = .inl (i, c) := by
        show (if _ then _ else _) = _; rw [if_neg (by rw [ho]; decide)]
      rw [eg]; exact h)
    refine ⟨rfl, fun z => ⟨rfl, rfl, go (by rw [z]; rfl) (by omega) (by omega)⟩, fun z => ⟨rfl, fun w => ex (by unfold oM; exact decide_eq_false (fun q => q.elim z w)), fun w => ⟨rfl, rfl, go (by rw [w]; rfl) (by omega) (by omega)⟩⟩⟩
theorem c_51 {tp : List Int} {r o : Int} {n D : Nat} {p : Nat → gR} (hl : gLn p) (hp : cRd tp r n 52 (D + 2) o p) : cRd tp r n 51 (D + 3) o (gL1 (yT tp) oM p) := by
  intro P i C M h hb K
  refine q_enter (s_51_0 ⟨h.1.1.2.1.1, hp _ i C M h hb (fun M1 f1 h1 => ?_)⟩)
  unfold gL1 at K
  cases e : p i with
  | inl z =>
    rw [e] at h1 K
    have lz := hl _ _ _ (show p i = .inl (z.1, z.2) from e)
    exact c_51l (C := C) hl hp 2100 0 z.1 z.2 M1 rfl h1 (by rw [List.length_append]; omega) (fun M' f' h' => K M' (fr_trans f1 f') h')
  | inr f =>
    rw [e] at h1 K
    exact c_51e (show C_bd tp r n f.1 f.2 M1 from h1) (K M1 f1 h1)
theorem c_50e {P : Int → qM → Prop} {tp : List Int} {r o x2 : Int} {n d : Nat} {k : Int} {i : Nat} {M : qM} (h : C_bd tp r n k i M) (K : P 0 M) : q_At q_m50 (q_WP q_Pr d) P 7 [(0, .inr (.inr r)), (1, .inl o), (2, .inl x2)] [] M 0 0 := by
  refine s_50_7 ⟨fun _ => K, fun _ => ?_⟩
  rw [h.1.1.2.1.1, C_bd_t h]
  exact ⟨rfl, fun z => absurd z (by decide), fun _ => ⟨rfl, fun _ => K, fun z => absurd z (by decide)⟩⟩
theorem c_50b {tp : List Int} {r : Int} {n : Nat} (d : Nat) (o : Int) : cRb tp r n 50 (d + 4) o := by
  intro P k i M h K
  refine q_enter (s_50_0 ⟨h.1.1.2.1.1, c_51b d o _ k i M h (fun M' f' h' => c_50e h' (K M' f' h'))⟩)
theorem c_50l {tp : List Int} {r o : Int} {n D : Nat} {p : Nat → gR} {P : Int → qM → Prop} {C : List Int} (hl : gLn p) (hp : cRd tp r n 51 (D + 2) o p) : ∀ (fu x2 i : Nat) (c : List Int) (M : qM), x2 + fu = 2100 → C_go tp r n i (C ++ c) M → (C ++ c).length < i → (∀ M', fr (Zd r) M M' → C_po tp r n C (gLoop (yT tp) oA p fu i c) M' → P 0 M') → q_At q_m50 (q_WP q_Pr (D + 2)) P 7 [(0, .inr (.inr r)), (1, .inl o), (2, .inl (x2 : Int))] [] M 0 0 := by
  intro fu
  induction fu with
  | zero =>
    intro x2 i c M hx h hb K
    exact s_50_7 ⟨fun _ => K M fr_rfl h, fun z => absurd z (by omega)⟩
  | succ fu ih =>
    intro x2 i c M hx h hb K
    have k4 := h.1.1.2.1.1
    have go : oA (yT tp i) = true → yT tp i ≠ -1 → yT tp i ≠ -2 → q_WP q_Pr (D + 2) 43 [.inr (.inr r)] M (fun v1 M2 => (q_kd M2 r = 4 ∧ q_WP q_Pr (D + 2) 51 [.inr (.inr r), .inl o] M2 (fun v3 M4 => (q_kd M4 r = 4 ∧ (q_kd M4 (q_rf M4 r 0) = 5 ∧ q_WP q_Pr (D + 2) 54 [.inr (.inr (q_rf M4 r 0)), .inl (yT tp i)] M4 (fun v5 M6 => q_At q_m50 (q_WP q_Pr (D + 2)) P 7 [(0, .inr (.inr r)), (1, .inl o), (2, .inl (w32 ((x2 : Int) + 1)))] [] M6 0 0)))))) := fun ho n1 n2 => by
      rw [w32_id (x := (x2 : Int) + 1) (by omega) (by omega)]
      refine C_43 (d := D + 1) h n1 n2 (fun M1 f1 h1 => ⟨h1.1.1.2.1.1, hp _ (i + 1) (C ++ c) M1 h1 (by omega) (fun M2 f2 h2 => ?_)⟩)
      have hb2 : lbC 0 (C ++ c) (p (i + 1)) := fun j c2 e => by
        have := hl _ _ _ e
        rw [List.length_append]; omega
      have ss := C_po_s h2
      rw [ss.1]
      refine ⟨C_po_k h2, ss.2, C_54' (d := D + 1) h2 hb2 (fun M3 f3 h3 => ?_)⟩
      have eg : gLoop (yT tp) oA p (fu + 1) i c = gB (p (i + 1)) (fun j c2 => gLoop (yT tp) oA p fu j (c ++ c2 ++ [yT tp i])) := by
        show (if _ then _ else _) = _; rw [if_pos ho]
      rw [eg] at K
      cases e : p (i + 1) with
      | inl z =>
        rw [e] at h3 K
        have lz := hl _ _ _ (show p (i + 1) = .inl (z.1, z.2) from e)
        have h3' : C_go tp r n z.1 ((C ++ c) ++ (z.2 ++ [yT tp i])) M3 := h3
        have ea : (C ++ c) ++ (z.2 ++ [yT tp i]) = C ++ (c ++ z.2 ++ [yT tp i]) := by simp only [List.append_assoc]
        rw [ea] at h3'
        refine ih (x2 + 1) z.1 (c ++ z.2 ++ [yT tp i]) M3 (by omega) h3' (by rw [← ea]; simp only [List.length_append, List.length_cons, List.length_nil] at hb ⊢; omega) (fun M' f' h' => K M' (fr_trans f1 (fr_trans f2 (fr_trans f3 f'))) h')
      | inr f =>
        rw [e] at h3 K
        exact c_50e (show C_bd tp r n f.1 f.2 M3 from h3) (K M3 (fr_trans f1 (fr_trans f2 f3)) h3)
    refine s_50_7 ⟨fun z => absurd z (by omega), fun _ => ?_⟩
    rw [k4, h.2.2.2.1]
    have ex : oA (yT tp i) = false → P 0 M := fun ho => K M fr_rfl (by
      have eg : gLoop (yT tp) oA p (fu + 1) i c = .inl (i, c) := by
        show (if _ then _ else _) = _; rw [if_neg (by rw [ho]; decide)]
      rw [eg]; exact h)
    refine ⟨rfl, fun z => ⟨rfl, rfl, go (by rw [z]; rfl) (by omega) (by omega)⟩, fun z => ⟨rfl, fun w => ex (by unfold oA; exact decide_eq_false (fun q => q.elim z w)), fun w => ⟨rfl, rfl, go (by rw [w]; rfl) (by omega) (by omega)⟩⟩⟩
theorem c_50 {tp : List Int} {r o : Int} {n D : Nat} {p : Nat → gR} (hl : gLn p) (hp : cRd tp r n 51 (D + 2) o p) : cRd tp r n 50 (D + 3) o (gL1 (yT tp) oA p) := by
  intro P i C M h hb K
  refine q_enter (s_50_0 ⟨h.1.1.2.1.1, hp _ i C M h hb (fun M1 f1 h1 => ?_)⟩)
  unfold gL1 at K
  cases e : p i with
  | inl z =>
    rw [e] at h1 K
    have lz := hl _ _ _ (show p i = .inl (z.1, z.2) from e)
    exact c_50l (C := C) hl hp 2100 0 z.1 z.2 M1 rfl h1 (by rw [List.length_append]; omega) (fun M' f' h' => K M' (fr_trans f1 f') h')
  | inr f =>
    rw [e] at h1 K
    exact c_50e (show C_bd tp r n f.1 f.2 M1 from h1) (K M1 f1 h1)
end
