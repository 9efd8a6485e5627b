section
/-! THE COMPONENT READS A FACT -/
theorem lbC_r {s : Nat} {C : List Int} {f : Int × Nat} : lbC s C (.inr f) := fun j c e => absurd e (by simp)
theorem c_49b {tp : List Int} {r : Int} {n : Nat} (d : Nat) (o : Int) : cRb tp r n 49 (d + 5) o := by
  intro P k i M h K
  have k4 := h.1.1.2.1.1
  refine q_enter (s_49_0 ⟨fun _ => ?_, fun _ => K M fr_rfl h⟩)
  rw [k4, C_bd_t h]
  refine ⟨rfl, fun _ => ⟨rfl, fun _ => ⟨rfl, fun z => absurd z (by decide), fun _ => ⟨rfl, fun _ => ⟨rfl, c_50b d o _ k i M h (fun M1 f1 h1 => ?_)⟩, fun z => absurd z (by decide)⟩⟩, fun z => absurd z (by decide)⟩, fun z => absurd z (by decide)⟩
  rw [h1.1.1.2.1.1, C_bd_t h1]
  refine ⟨rfl, fun z => absurd z (by decide), fun _ => ⟨fun z => absurd z (by decide), fun _ => ⟨fun _ => ⟨rfl, C_42b (d := d + 3) h1 (fun M2 f2 h2 _ => ⟨h2.1.1.2.1.1, c_50b d o _ k i M2 h2 (fun M3 f3 h3 => ?_)⟩)⟩, fun z => absurd z (by decide)⟩⟩⟩
  have h3' : C_po tp r n [] (.inr (k, i)) M3 := h3
  have ss := C_po_s h3'
  rw [ss.1]
  exact ⟨C_po_k h3', ss.2, C_54' (d := d + 3) h3' lbC_r (fun M4 f4 h4 => K M4 (fr_trans f1 (fr_trans f2 (fr_trans f3 f4))) h4)⟩
theorem c_48e {P : Int → qM → Prop} {tp : List Int} {r o x2 : Int} {n d : Nat} {k : Int} {i : Nat} {M : qM} (h : C_bd tp r n k i M) (K : P 0 M) : q_At q_m48 (q_WP q_Pr d) P 7 [(0, .inr (.inr r)), (1, .inl o), (2, .inl x2)] [] M 0 0 := by
  refine s_48_7 ⟨fun _ => K, fun _ => ?_⟩
  rw [h.1.1.2.1.1, C_bd_t h]
  exact ⟨rfl, fun _ => K, fun z => absurd z (by decide)⟩
theorem c_48b {tp : List Int} {r : Int} {n : Nat} (d : Nat) (o : Int) : cRb tp r n 48 (d + 6) o := by
  intro P k i M h K
  refine q_enter (s_48_0 ⟨h.1.1.2.1.1, c_49b d o _ k i M h (fun M' f' h' => c_48e h' (K M' f' h'))⟩)
theorem c_48l {tp : List Int} {r o : Int} {n D : Nat} {p : Nat → gR} {P : Int → qM → Prop} {C : List Int} (hl : gLn p) (hp : cRd tp r n 49 (D + 2) o p) : ∀ (fu x2 i : Nat) (c : List Int) (M : qM), x2 + fu = 2100 → C_go tp r n i (C ++ c) M → (C ++ c).length < i → (∀ M', fr (Zd r) M M' → C_po tp r n C (gLoop (yT tp) oN p fu i c) M' → P 0 M') → q_At q_m48 (q_WP q_Pr (D + 2)) P 7 [(0, .inr (.inr r)), (1, .inl o), (2, .inl (x2 : Int))] [] M 0 0 := by
  intro fu
  induction fu with
  | zero =>
    intro x2 i c M hx h hb K
    exact s_48_7 ⟨fun _ => K M fr_rfl h, fun z => absurd z (by omega)⟩
  | succ fu ih =>
    intro x2 i c M hx h hb K
    have k4 := h.1.1.2.1.1
    have go : oN (yT tp i) = true → yT tp i ≠ -1 → yT tp i ≠ -2 → q_WP q_Pr (D + 2) 43 [.inr (.inr r)] M (fun v1 M2 => (q_kd M2 r = 4 ∧ q_WP q_Pr (D + 2) 49 [.inr (.inr r), .inl o] M2 (fun v3 M4 => (q_kd M4 r = 4 ∧ (q_kd M4 (q_rf M4 r 0) = 5 ∧ q_WP q_Pr (D + 2) 54 [.inr (.inr (q_rf M4 r 0)), .inl (yT tp i)] M4 (fun v5 M6 => q_At q_m48 (q_WP q_Pr (D + 2)) P 7 [(0, .inr (.inr r)), (1, .inl o), (2, .inl (w32 ((x2 : Int) + 1)))] [] M6 0 0)))))) := fun ho n1 n2 => by
      rw [w32_id (x := (x2 : Int) + 1) (by omega) (by omega)]
      refine C_43 (d := D + 1) h n1 n2 (fun M1 f1 h1 => ⟨h1.1.1.2.1.1, hp _ (i + 1) (C ++ c) M1 h1 (by omega) (fun M2 f2 h2 => ?_)⟩)
      have hb2 : lbC 0 (C ++ c) (p (i + 1)) := fun j c2 e => by
        have := hl _ _ _ e
        rw [List.length_append]; omega
      have ss := C_po_s h2
      rw [ss.1]
      refine ⟨C_po_k h2, ss.2, C_54' (d := D + 1) h2 hb2 (fun M3 f3 h3 => ?_)⟩
      have eg : gLoop (yT tp) oN p (fu + 1) i c = gB (p (i + 1)) (fun j c2 => gLoop (yT tp) oN p fu j (c ++ c2 ++ [yT tp i])) := by
        show (if _ then _ else _) = _; rw [if_pos ho]
      rw [eg] at K
      cases e : p (i + 1) with
      | inl z =>
        rw [e] at h3 K
        have lz := hl _ _ _ (show p (i + 1) = .inl (z.1, z.2) from e)
        have h3' : C_go tp r n z.1 ((C ++ c) ++ (z.2 ++ [yT tp i])) M3 := h3
        have ea : (C ++ c) ++ (z.2 ++ [yT tp i]) = C ++ (c ++ z.2 ++ [yT tp i]) := by simp only [List.append_assoc]
        rw [ea] at h3'
        refine ih (x2 + 1) z.1 (c ++ z.2 ++ [yT tp i]) M3 (by omega) h3' (by rw [← ea]; simp only [List.length_append, List.length_cons, List.length_nil] at hb ⊢; omega) (fun M' f' h' => K M' (fr_trans f1 (fr_trans f2 (fr_trans f3 f'))) h')
      | inr f =>
        rw [e] at h3 K
        exact c_48e (show C_bd tp r n f.1 f.2 M3 from h3) (K M3 (fr_trans f1 (fr_trans f2 f3)) h3)
    refine s_48_7 ⟨fun z => absurd z (by omega), fun _ => ?_⟩
    rw [k4, h.2.2.2.1]
    have ex : oN (yT tp i) = false → P 0 M := fun ho => K M fr_rfl (by
      have eg : gLoop (yT tp) oN p (fu + 1) i c = .inl (i, c) := by
        show (if _ then _ else _) = _; rw [if_neg (by rw [ho]; decide)]
      rw [eg]; exact h)
    refine ⟨rfl, fun z => ex (by unfold oN; exact decide_eq_false z), fun z => ⟨rfl, ?_⟩⟩
    have := go (by rw [z]; rfl) (by omega) (by omega)
    rw [z] at this
    exact this
theorem c_48 {tp : List Int} {r o : Int} {n D : Nat} {p : Nat → gR} (hl : gLn p) (hp : cRd tp r n 49 (D + 2) o p) : cRd tp r n 48 (D + 3) o (gL1 (yT tp) oN p) := by
  intro P i C M h hb K
  refine q_enter (s_48_0 ⟨h.1.1.2.1.1, hp _ i C M h hb (fun M1 f1 h1 => ?_)⟩)
  unfold gL1 at K
  cases e : p i with
  | inl z =>
    rw [e] at h1 K
    have lz := hl _ _ _ (show p i = .inl (z.1, z.2) from e)
    exact c_48l (C := C) hl hp 2100 0 z.1 z.2 M1 rfl h1 (by rw [List.length_append]; omega) (fun M' f' h' => K M' (fr_trans f1 f') h')
  | inr f =>
    rw [e] at h1 K
    exact c_48e (show C_bd tp r n f.1 f.2 M1 from h1) (K M1 f1 h1)
theorem c_47e {P : Int → qM → Prop} {tp : List Int} {r o x2 : Int} {n d : Nat} {k : Int} {i : Nat} {M : qM} (h : C_bd tp r n k i M) (K : P 0 M) : q_At q_m47 (q_WP q_Pr d) P 7 [(0, .inr (.inr r)), (1, .inl o), (2, .inl x2)] [] M 0 0 := by
  refine s_47_7 ⟨fun _ => K, fun _ => ?_⟩
  rw [h.1.1.2.1.1, C_bd_t h]
  exact ⟨rfl, fun _ => K, fun z => absurd z (by decide)⟩
theorem c_47b {tp : List Int} {r : Int} {n : Nat} (d : Nat) (o : Int) : cRb tp r n 47 (d + 7) o := by
  intro P k i M h K
  refine q_enter (s_47_0 ⟨h.1.1.2.1.1, c_48b d o _ k i M h (fun M' f' h' => c_47e h' (K M' f' h'))⟩)
theorem c_47l {tp : List Int} {r o : Int} {n D : Nat} {p : Nat → gR} {P : Int → qM → Prop} {C : List Int} (hl : gLn p) (hp : cRd tp r n 48 (D + 2) o p) : ∀ (fu x2 i : Nat) (c : List Int) (M : qM), x2 + fu = 2100 → C_go tp r n i (C ++ c) M → (C ++ c).length < i → (∀ M', fr (Zd r) M M' → C_po tp r n C (gLoop (yT tp) oO p fu i c) M' → P 0 M') → q_At q_m47 (q_WP q_Pr (D + 2)) P 7 [(0, .inr (.inr r)), (1, .inl o), (2, .inl (x2 : Int))] [] M 0 0 := by
  intro fu
  induction fu with
  | zero =>
    intro x2 i c M hx h hb K
    exact s_47_7 ⟨fun _ => K M fr_rfl h, fun z => absurd z (by omega)⟩
  | succ fu ih =>
    intro x2 i c M hx h hb K
    have k4 := h.1.1.2.1.1
    have go : oO (yT tp i) = true → yT tp i ≠ -1 → yT tp i ≠ -2 → q_WP q_Pr (D + 2) 43 [.inr (.inr r)] M (fun v1 M2 => (q_kd M2 r = 4 ∧ q_WP q_Pr (D + 2) 48 [.inr (.inr r), .inl o] M2 (fun v3 M4 => (q_kd M4 r = 4 ∧ (q_kd M4 (q_rf M4 r 0) = 5 ∧ q_WP q_Pr (D + 2) 54 [.inr (.inr (q_rf M4 r 0)), .inl (yT tp i)] M4 (fun v5 M6 => q_At q_m47 (q_WP q_Pr (D + 2)) P 7 [(0, .inr (.inr r)), (1, .inl o), (2, .inl (w32 ((x2 : Int) + 1)))] [] M6 0 0)))))) := fun ho n1 n2 => by
      rw [w32_id (x := (x2 : Int) + 1) (by omega) (by omega)]
      refine C_43 (d := D + 1) h n1 n2 (fun M1 f1 h1 => ⟨h1.1.1.2.1.1, hp _ (i + 1) (C ++ c) M1 h1 (by omega) (fun M2 f2 h2 => ?_)⟩)
      have hb2 : lbC 0 (C ++ c) (p (i + 1)) := fun j c2 e => by
        have := hl _ _ _ e
        rw [List.length_append]; omega
      have ss := C_po_s h2
      rw [ss.1]
      refine ⟨C_po_k h2, ss.2, C_54' (d := D + 1) h2 hb2 (fun M3 f3 h3 => ?_)⟩
      have eg : gLoop (yT tp) oO p (fu + 1) i c = gB (p (i + 1)) (fun j c2 => gLoop (yT tp) oO p fu j (c ++ c2 ++ [yT tp i])) := by
        show (if _ then _ else _) = _; rw [if_pos ho]
      rw [eg] at K
      cases e : p (i + 1) with
      | inl z =>
        rw [e] at h3 K
        have lz := hl _ _ _ (show p (i + 1) = .inl (z.1, z.2) from e)
        have h3' : C_go tp r n z.1 ((C ++ c) ++ (z.2 ++ [yT tp i])) M3 := h3
        have ea : (C ++ c) ++ (z.2 ++ [yT tp i]) = C ++ (c ++ z.2 ++ [yT tp i]) := by simp only [List.append_assoc]
        rw [ea] at h3'
        refine ih (x2 + 1) z.1 (c ++ z.2 ++ [yT tp i]) M3 (by omega) h3' (by rw [← ea]; simp only [List.length_append, List.length_cons, List.length_nil] at hb ⊢; omega) (fun M' f' h' => K M' (fr_trans f1 (fr_trans f2 (fr_trans f3 f'))) h')
      | inr f =>
        rw [e] at h3 K
        exact c_47e (show C_bd tp r n f.1 f.2 M3 from h3) (K M3 (fr_trans f1 (fr_trans f2 f3)) h3)
    refine s_47_7 ⟨fun z => absurd z (by omega), fun _ => ?_⟩
    rw [k4, h.2.2.2.1]
    have ex : oO (yT tp i) = false → P 0 M := fun ho => K M fr_rfl (by
      have eg : gLoop (yT tp) oO p (fu + 1) i c = .inl (i, c) := by
        show (if _ then _ else _) = _; rw [if_neg (by rw [ho]; decide)]
      rw [eg]; exact h)
    refine ⟨rfl, fun z => ex (by unfold oO; exact decide_eq_false z), fun z => ⟨rfl, ?_⟩⟩
    have := go (by rw [z]; rfl) (by omega) (by omega)
    rw [z] at this
    exact this
theorem c_47 {tp : List Int} {r o : Int} {n D : Nat} {p : Nat → gR} (hl : gLn p) (hp : cRd tp r n 48 (D + 2) o p) : cRd tp r n 47 (D + 3) o (gL1 (yT tp) oO p) := by
  intro P i C M h hb K
  refine q_enter (s_47_0 ⟨h.1.1.2.1.1, hp _ i C M h hb (fun M1 f1 h1 => ?_)⟩)
  unfold gL1 at K
  cases e : p i with
  | inl z =>
    rw [e] at h1 K
    have lz := hl _ _ _ (show p i = .inl (z.1, z.2) from e)
    exact c_47l (C := C) hl hp 2100 0 z.1 z.2 M1 rfl h1 (by rw [List.length_append]; omega) (fun M' f' h' => K M' (fr_trans f1 f') h')
  | inr f =>
    rw [e] at h1 K
    exact c_47e (show C_bd tp r n f.1 f.2 M1 from h1) (K M1 f1 h1)
theorem c_49 {tp : List Int} {r : Int} {n D o m : Nat} (ho : o + (m + 1) = 7) (h50 : cRd tp r n 50 (D + 7) (o : Int) (gSum (yT tp) (yD5 tp) (m + 1))) (h49 : o < 6 → cRd tp r n 49 (D + 7) ((o : Int) + 1) (gFact (yT tp) (yD5 tp) m)) (h47 : o < 6 → cRd tp r n 47 (D + 7) ((o : Int) + 1) (gL1 (yT tp) oO (gL1 (yT tp) oN (gFact (yT tp) (yD5 tp) m)))) : cRd tp r n 49 (D + 8) (o : Int) (gFact (yT tp) (yD5 tp) (m + 1)) := by
  intro P i C M h hb K
  have k4 := h.1.1.2.1.1
  have s1 : q_rf M r 0 = r + 1 := h.1.1.2.1.2.1
  have s2 : q_kd M (r + 1) = 5 := h.1.1.2.2.1.1.2.1
  have ww : w32 ((o : Int) + 1) = (o : Int) + 1 := w32_id (by omega) (by omega)
  have ho6 : ((o : Int) < 6) ↔ o < 6 := by omega
  have hm0 : m = 0 ↔ ¬ o < 6 := by omega
  have pl : (yT tp i = 13 ∨ yT tp i = 14) → q_WP q_Pr (D + 7) 54 [.inr (.inr (r + 1)), .inl (yT tp i)] M (fun v1 M2 => (q_kd M2 r = 4 ∧ q_WP q_Pr (D + 7) 43 [.inr (.inr r)] M2 (fun v3 M4 => (P (0 : Int) M4)))) := fun a => by
    refine C_54' (d := D + 6) (C_go_po h) (lbC_0 hb) (fun M1 f1 h1 => ?_)
    have h1' : C_go tp r n i (C ++ ([] ++ [yT tp i])) M1 := h1
    rw [List.nil_append] at h1'
    refine ⟨h1'.1.1.2.1.1, C_43 (d := D + 6) h1' (by omega) (by omega) (fun M2 f2 h2 => K M2 (fr_trans f1 f2) ?_)⟩
    rw [gFact_p a]; exact h2
  refine q_enter (s_49_0 ⟨fun _ => ?_, fun z => absurd z (by omega)⟩)
  rw [k4, s1, s2, h.2.2.2.1, ww]
  refine ⟨rfl, fun n12 => ⟨rfl, fun n91 => ⟨rfl, fun e13 => ⟨rfl, rfl, rfl, pl (Or.inl e13)⟩, fun n13 => ⟨rfl, fun n14 => ⟨rfl, ?_⟩, fun e14 => ⟨rfl, rfl, rfl, pl (Or.inr e14)⟩⟩⟩, fun e91 => ⟨rfl, ?_⟩⟩, fun e12 => ⟨rfl, ?_⟩⟩
  · -- a comparison
    have eg := gFact_s (T := yT tp) (D5 := yD5 tp) (m := m) n12 n91 (by omega)
    rw [eg] at K
    refine h50 _ i C M h hb (fun M1 f1 h1 => ?_)
    have k41 := C_po_k h1
    have bad : ∀ (k : Int) (q : Nat) (x : Int) (M2 : qM), fr (Zd r) M M2 → C_bd tp r n k q M2 → (∀ M', fr (Zd r) M M' → C_bd tp r n k q M' → P 0 M') → q_WP q_Pr (D + 7) 50 [.inr (.inr r), .inl (o : Int)] M2 (fun v21 M22 => (q_kd M22 r = 4 ∧ (q_kd M22 (q_rf M22 r 0) = 5 ∧ q_WP q_Pr (D + 7) 54 [.inr (.inr (q_rf M22 r 0)), .inl x] M22 (fun v23 M24 => (P (0 : Int) M24))))) := fun k q x M2 f2 h2 K2 => by
      refine c_50b (D + 3) (o : Int) _ k q M2 h2 (fun M3 f3 h3 => ?_)
      have h3' : C_po tp r n [] (.inr (k, q)) M3 := h3
      have ss := C_po_s h3'
      rw [ss.1]
      exact ⟨C_po_k h3', ss.2, C_54' (d := D + 6) h3' lbC_r (fun M4 f4 h4 => K2 M4 (fr_trans f2 (fr_trans f3 f4)) h4)⟩
    cases e : gSum (yT tp) (yD5 tp) (m + 1) i with
    | inr f =>
      rw [e] at h1 K
      have hh : C_bd tp r n f.1 f.2 M1 := h1
      rw [k41, C_bd_t hh]
      exact ⟨rfl, fun z => absurd z (by decide), fun _ => ⟨fun z => absurd z (by decide), fun _ => ⟨fun _ => ⟨rfl, C_42b (d := D + 6) hh (fun M2 f2 h2 _ => ⟨h2.1.1.2.1.1, bad f.1 f.2 _ M2 (fr_trans f1 f2) h2 (fun M' f' h' => K M' f' h')⟩)⟩, fun z => absurd z (by decide)⟩⟩⟩
    | inl x =>
      rw [e] at h1 K
      have hh : C_go tp r n x.1 (C ++ x.2) M1 := h1
      have lx := gSum_ln (T := yT tp) (D5 := yD5 tp) (m + 1) _ _ _ (show gSum (yT tp) (yD5 tp) (m + 1) i = .inl (x.1, x.2) from e)
      have cm : (yT tp x.1 = 60 ∨ yT tp x.1 = 61 ∨ yT tp x.1 = 62) → q_WP q_Pr (D + 7) 43 [.inr (.inr r)] M1 (fun v7 M8 => (q_kd M8 r = 4 ∧ q_WP q_Pr (D + 7) 50 [.inr (.inr r), .inl (o : Int)] M8 (fun v9 M10 => (q_kd M10 r = 4 ∧ (q_kd M10 (q_rf M10 r 0) = 5 ∧ q_WP q_Pr (D + 7) 54 [.inr (.inr (q_rf M10 r 0)), .inl (yT tp x.1)] M10 (fun v11 M12 => (P (0 : Int) M12))))))) := fun hc => by
        refine C_43 (d := D + 6) hh (by omega) (by omega) (fun M2 f2 h2 => ⟨h2.1.1.2.1.1, h50 _ (x.1 + 1) (C ++ x.2) M2 h2 (by rw [List.length_append]; omega) (fun M3 f3 h3 => ?_)⟩)
        have ss := C_po_s h3
        rw [ss.1]
        have lb : lbC 0 (C ++ x.2) (gSum (yT tp) (yD5 tp) (m + 1) (x.1 + 1)) := fun j c e2 => by
          have := gSum_ln (T := yT tp) (D5 := yD5 tp) (m + 1) _ _ _ e2
          simp only [List.length_append]; omega
        refine ⟨C_po_k h3, ss.2, C_54' (d := D + 6) h3 lb (fun M4 f4 h4 => K M4 (fr_trans f1 (fr_trans f2 (fr_trans f3 f4))) ?_)⟩
        show C_po tp r n C (if _ then _ else _) M4
        rw [if_pos hc]
        cases e2 : gSum (yT tp) (yD5 tp) (m + 1) (x.1 + 1) with
        | inr f => rw [e2] at h4; exact h4
        | inl y =>
          rw [e2] at h4
          show C_go tp r n y.1 (C ++ (x.2 ++ y.2 ++ [yT tp x.1])) M4
          have h4' : C_go tp r n y.1 ((C ++ x.2) ++ (y.2 ++ [yT tp x.1])) M4 := h4
          simp only [List.append_assoc] at h4' ⊢
          exact h4'
      rw [k41, hh.2.2.2.1]
      refine ⟨rfl, fun e60 => ⟨rfl, cm (Or.inl e60)⟩, fun n60 => ⟨fun e62 => ⟨rfl, cm (Or.inr (Or.inr e62))⟩, fun n62 => ⟨fun n61 => ⟨rfl, C_42 (d := D + 6) hh (by decide) (fun M2 f2 h2 _ => ⟨h2.1.1.2.1.1, bad 1 x.1 _ M2 (fr_trans f1 f2) h2 (fun M' f' h' => K M' f' ?_)⟩)⟩, fun e61 => ⟨rfl, cm (Or.inr (Or.inl e61))⟩⟩⟩⟩
      show C_po tp r n C (if _ then _ else _) M'
      rw [if_neg (by omega)]; exact h'
  · -- square brackets
    refine C_45 (d := D + 5) (C_go_po h) (by decide) (fun M2 f2 h2 => ⟨C_po_k h2, ?_⟩)
    have l2 := lbC_o (T := yT tp) (w := 91) (o := (o : Int)) (lbC_0 (s := 0) (i := i) (C := C) (by omega))
    refine cRg (fun q => h47 ?_) (c_47b D _) l2 h2 (fun M3 f3 h3 => ⟨C_po_k h3, C_44 (d := D + 5) h3 (by decide) (fun M4 f4 h4 => K M4 (fr_trans f2 (fr_trans f3 f4)) ?_)⟩)
    · obtain ⟨j, c, e⟩ := q
      refine Classical.byContradiction (fun no => ?_)
      have e' : (if yT tp i = 91 then (if (o : Int) < 6 then (Sum.inl (i + 1, []) : gR) else .inr (4, i)) else .inr (1, i)) = .inl (j, c) := e
      rw [if_pos e91, if_neg (by omega)] at e'
      exact absurd e' (by simp)
    · have b1 : gB (Sum.inl (i, [])) (fun j c => if yT tp j = 91 then (if (o : Int) < 6 then .inl (j + 1, c) else .inr (4, j)) else .inr (1, j)) = (if yT tp i = 91 then (if (o : Int) < 6 then (Sum.inl (i + 1, []) : gR) else .inr (4, i)) else .inr (1, i)) := rfl
      rw [b1, if_pos e91] at h4
      have eg : gFact (yT tp) (yD5 tp) (m + 1) i = if m = 0 then .inr (4, i) else gB (gL1 (yT tp) oO (gL1 (yT tp) oN (gFact (yT tp) (yD5 tp) m)) (i + 1)) fun j c => if yT tp j = 93 then .inl (j + 1, c) else .inr (1, j) := by
        rw [gFact.eq_def]; dsimp only; rw [if_neg n12, if_pos e91]
      rw [eg]
      by_cases o6 : o < 6
      · rw [if_neg (fun q => hm0.mp q o6)]
        rw [if_pos (ho6.mpr o6)] at h4
        cases e1 : gL1 (yT tp) oO (gL1 (yT tp) oN (gFact (yT tp) (yD5 tp) m)) (i + 1) with
        | inr f => simp only [gB, e1] at h4 ⊢; exact h4
        | inl x => simp only [gB, e1, List.nil_append] at h4 ⊢; exact h4
      · rw [if_pos (hm0.mpr o6)]
        rw [if_neg (fun q => o6 (ho6.mp q))] at h4
        exact h4
  · -- not
    refine C_45 (d := D + 5) (C_go_po h) (by decide) (fun M2 f2 h2 => ⟨C_po_k h2, ?_⟩)
    have l2 := lbC_o (T := yT tp) (w := 12) (o := (o : Int)) (lbC_0 (s := 0) (i := i) (C := C) (by omega))
    refine cRg (fun q => h49 ?_) (c_49b (D + 2) _) l2 h2 (fun M3 f3 h3 => ?_)
    · obtain ⟨j, c, e⟩ := q
      refine Classical.byContradiction (fun no => ?_)
      have e' : (if yT tp i = 12 then (if (o : Int) < 6 then (Sum.inl (i + 1, []) : gR) else .inr (4, i)) else .inr (1, i)) = .inl (j, c) := e
      rw [if_pos e12, if_neg (by omega)] at e'
      exact absurd e' (by simp)
    · have ss := C_po_s h3
      rw [ss.1]
      refine ⟨C_po_k h3, ss.2, C_54' (d := D + 6) h3 (lbC_p (gFact_ln m) l2) (fun M4 f4 h4 => K M4 (fr_trans f2 (fr_trans f3 f4)) ?_)⟩
      have b1 : gB (Sum.inl (i, [])) (fun j c => if yT tp j = 12 then (if (o : Int) < 6 then .inl (j + 1, c) else .inr (4, j)) else .inr (1, j)) = (if yT tp i = 12 then (if (o : Int) < 6 then (Sum.inl (i + 1, []) : gR) else .inr (4, i)) else .inr (1, i)) := rfl
      rw [b1, if_pos e12] at h4
      have eg : gFact (yT tp) (yD5 tp) (m + 1) i = if m = 0 then .inr (4, i) else gB (gFact (yT tp) (yD5 tp) m (i + 1)) fun j c => .inl (j, c ++ [12]) := by
        rw [gFact.eq_def]; dsimp only; rw [if_pos e12]
      rw [eg]
      by_cases o6 : o < 6
      · rw [if_neg (fun q => hm0.mp q o6)]
        rw [if_pos (ho6.mpr o6)] at h4
        cases e1 : gFact (yT tp) (yD5 tp) m (i + 1) with
        | inr f => simp only [gB, e1] at h4 ⊢; exact h4
        | inl x => simp only [gB, e1, List.nil_append] at h4 ⊢; exact h4
      · rw [if_pos (hm0.mpr o6)]
        rw [if_neg (fun q => o6 (ho6.mp q))] at h4
        exact h4
theorem c_49F {tp : List Int} {r : Int} {n : Nat} : ∀ m D o : Nat, o + (m + 1) = 7 → cRd tp r n 49 (D + 3 * m + 8) (o : Int) (gFact (yT tp) (yD5 tp) (m + 1)) := by
  intro m
  induction m with
  | zero =>
    intro D o ho
    exact c_49 (D := D) ho (c_50S 0 D o ho) (fun q => absurd q (by omega)) (fun q => absurd q (by omega))
  | succ m ih =>
    intro D o ho
    have a := c_50S (tp := tp) (r := r) (n := n) (m + 1) D o ho
    have b := ih (D + 2) (o + 1) (by omega)
    have c := ih D (o + 1) (by omega)
    rw [show D + 3 * (m + 1) + 7 = (D + 3 * m + 3) + 7 by omega] at a
    rw [show D + 2 + 3 * m + 8 = (D + 3 * m + 3) + 7 by omega] at b
    rw [show D + 3 * (m + 1) + 8 = (D + 3 * m + 3) + 8 by omega]
    rw [show D + 3 * m + 8 = (D + 3 * m + 6) + 2 by omega] at c
    exact c_49 (D := D + 3 * m + 3) ho a (fun _ => b) (fun _ => c_47 (D := D + 3 * m + 7) (gL1_ln (gFact_ln (m + 1))) (c_48 (D := D + 3 * m + 6) (gFact_ln (m + 1)) c))
theorem c_47T {tp : List Int} {r : Int} {n D : Nat} : cRd tp r n 47 (D + 28) 0 (gTest (yT tp) (yD5 tp) 7) :=
  c_47 (D := D + 25) (gL1_ln (gFact_ln 7)) (c_48 (D := D + 24) (gFact_ln 7) (c_49F 6 D 0 rfl))
end
