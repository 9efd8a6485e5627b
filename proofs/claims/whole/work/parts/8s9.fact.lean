section
/-! a reading moves on, a byte for each step of its code at least -/
def gLb (b : Nat → Nat) (p : Nat → gR) : Prop := ∀ i j c, p i = .inl (j, c) → b i + c.length ≤ b j
theorem gLoop_lb {T : Nat → Int} {b : Nat → Nat} {op : Int → Bool} {p : Nat → gR} (hb : ∀ i, T i ≠ -1 → b i < b (i + 1)) (ho : op (-1) = false) (hp : gLb b p) : ∀ n i c j c', gLoop T op p n i c = .inl (j, c') → b i + c'.length ≤ b j + c.length := by
  intro n
  induction n with
  | zero =>
    intro i c j c' h
    obtain ⟨e1, e2⟩ := inl2 h
    subst e1; subst e2; omega
  | succ n ih =>
    intro i c j c' h
    unfold gLoop at h
    split at h
    · rename_i hop
      obtain ⟨k, c2, q1, q2⟩ := gB_inl h
      have a := hp _ _ _ q1
      have z := ih _ _ _ _ q2
      have w := hb i (fun q => by rw [q, ho] at hop; exact absurd hop (by decide))
      simp only [List.length_append, List.length_cons, List.length_nil] at z
      omega
    · obtain ⟨e1, e2⟩ := inl2 h
      subst e1; subst e2; omega
theorem gL1_lb {T : Nat → Int} {b : Nat → Nat} {op : Int → Bool} {p : Nat → gR} (hb : ∀ i, T i ≠ -1 → b i < b (i + 1)) (ho : op (-1) = false) (hp : gLb b p) : gLb b (gL1 T op p) := by
  intro i j c h
  obtain ⟨k, c2, q1, q2⟩ := gB_inl h
  have a := hp _ _ _ q1
  have z := gLoop_lb hb ho hp _ _ _ _ _ q2
  omega
theorem gPart_lb {T : Nat → Int} {b : Nat → Nat} {D5 : Nat → Bool} {inner : Nat → gR} {full : Bool} (hb : ∀ i, T i ≠ -1 → b i < b (i + 1)) (hp : gLb b inner) : gLb b (gPart T D5 inner full) := by
  intro i j c h
  unfold gPart at h
  split at h
  · rename_i h40
    split at h
    · exact absurd h (by simp)
    · obtain ⟨k, c2, q1, q2⟩ := gB_inl h
      have a := hp _ _ _ q1
      split at q2
      · rename_i h41
        obtain ⟨e1, e2⟩ := inl2 q2
        have w1 := hb i (by rw [h40]; decide)
        have w2 := hb k (by rw [h41]; decide)
        subst e2; rw [← e1]; omega
      · exact absurd q2 (by simp)
  · split at h
    · rename_i hm
      split at h
      · rename_i h40
        split at h
        · exact absurd h (by simp)
        · obtain ⟨k, c2, q1, q2⟩ := gB_inl h
          have a := hp _ _ _ q1
          split at q2
          · rename_i h44
            obtain ⟨k3, c3, q3, q4⟩ := gB_inl q2
            have z := hp _ _ _ q3
            split at q4
            · rename_i h41
              obtain ⟨e1, e2⟩ := inl2 q4
              have w1 := hb i (by omega)
              have w2 : b (i + 1) < b (i + 2) := hb (i + 1) (by rw [h40]; decide)
              have w3 := hb k (by rw [h44]; decide)
              have w4 := hb k3 (by rw [h41]; decide)
              subst e2; rw [← e1]
              simp only [List.length_append, List.length_cons, List.length_nil]
              omega
            · exact absurd q4 (by simp)
          · exact absurd q2 (by simp)
      · exact absurd h (by simp)
    · split at h
      · obtain ⟨e1, e2⟩ := inl2 h
        have w1 := hb i (by omega)
        subst e2; rw [← e1]
        simp only [List.length_cons, List.length_nil]; omega
      · split at h
        · split at h
          · exact absurd h (by simp)
          · obtain ⟨e1, e2⟩ := inl2 h
            have w1 := hb i (by omega)
            subst e2; rw [← e1]
            simp only [List.length_cons, List.length_nil]; omega
        · exact absurd h (by simp)
theorem gSum_lb {T : Nat → Int} {b : Nat → Nat} {D5 : Nat → Bool} (hb : ∀ i, T i ≠ -1 → b i < b (i + 1)) : ∀ m, gLb b (gSum T D5 m)
  | 0 => fun i j c h => absurd h (by simp [gSum])
  | m + 1 => gL1_lb hb rfl (gL1_lb hb rfl (gPart_lb hb (gSum_lb hb m)))
end
section
/-! THE REFERENCE READS FACTS AND TESTS -/
def R_G (M0 : qM) (k : Int) (p : Nat) (M : qM) : Prop := (fr Zx M0 M ∧ q_lay M) ∧ (q_nm M 66 5 = k ∧ q_nm M 66 6 = p) ∧ k ≠ 0
theorem R_F_G {M0 : qM} {k : Int} {p : Nat} {M : qM} (h : R_F M0 k p M) : R_G M0 k p M := ⟨h.1, h.2.1, h.2.2.1⟩
theorem R_G_b {M0 : qM} {k : Int} {p : Nat} {M : qM} (h : R_G M0 k p M) : ¬ q_nm M 66 5 = 0 := by rw [h.2.1.1]; exact h.2.2
theorem R_nb_b {tp : List Int} {M0 : qM} {i : Nat} {S C : List Int} {o : Nat} {M : qM} (h : R_nb tp M0 i S C o M) : S.length + C.length ≤ 2097 := by
  obtain ⟨_, ⟨a, p⟩, _, b, _⟩ := h
  have := R_ps_len p
  have := ySq_le tp i
  omega
theorem R_nb_t {tp : List Int} {M0 : qM} {i i' a' : Nat} {S C : List Int} {o : Nat} {M M' : qM} (h : R_nb tp M0 i S C o M) (f : fr Zt M M') (l : q_lay M') (p : R_ps tp i' a' M') (hi : (ySq tp i).1 ≤ (ySq tp i').1) : R_nb tp M0 i' S C o M' :=
  ⟨⟨fr_trans h.1.1 (Zt_Zx f), l, LT_Zt h.1.2.2 f⟩, ⟨a', p⟩, R_cs_t h.2.2.1 f, Nat.le_trans h.2.2.2.1 hi, h.2.2.2.2⟩
theorem R_nb_y {tp : List Int} {M0 : qM} {i : Nat} {S C S' C' : List Int} {o o' : Nat} {M M' : qM} (h : R_nb tp M0 i S C o M) (f : fr Zy M M') (l : q_lay M') (c : R_cs S' C' o' M') (hb : S'.length + C'.length + 3 ≤ (ySq tp i).1) (ho : o' = opn S') : R_nb tp M0 i S' C' o' M' := by
  obtain ⟨⟨f0, _, t⟩, ⟨a, p⟩, _, _, _⟩ := h
  exact ⟨⟨fr_trans f0 (Zy_Zx f), l, LT_Zx t (Zy_Zx f)⟩, ⟨a, R_ps_y p f⟩, c, hb, ho⟩
theorem R_G_t {tp : List Int} {M0 : qM} {i p : Nat} {k : Int} {S C : List Int} {o : Nat} {M M' : qM} (h : R_nb tp M0 i S C o M) (f : fr Zt M M') (l : q_lay M') (b : R_bad k p M') (hk : k ≠ 0) : R_G M0 k p M' := ⟨⟨fr_trans h.1.1 (Zt_Zx f), l⟩, b, hk⟩
theorem code_x {d : Nat} {X : Int → qM → Prop} {tp : List Int} {M0 : qM} {i : Nat} {S C : List Int} {v : Int} {o : Nat} {M : qM} (h : R_nb tp M0 i S C o M) (hb : S.length + C.length + 4 ≤ (ySq tp i).1) (K : ∀ M', q_lay M' → R_nb tp M0 i S (C ++ [v]) o M' → X 0 M') : q_WP q_Pr (d + 1) 167 [.inr (.inr 66), .inl v] M X := by
  have hb1 := R_nb_b h
  exact r_167 (d := d) h.1.2.1 h.2.2.1 (by omega) (fun M' f' l' c' => K M' l' (R_nb_y h f' l' c' (by rw [List.length_append, List.length_cons, List.length_nil]; omega) h.2.2.2.2))
theorem gFact_s {T : Nat → Int} {D5 : Nat → Bool} {m i : Nat} (h12 : T i ≠ 12) (h91 : T i ≠ 91) (h13 : ¬ (T i = 13 ∨ T i = 14)) : gFact T D5 (m + 1) i = gB (gSum T D5 (m + 1) i) fun j c => if T j = 60 ∨ T j = 61 ∨ T j = 62 then gB (gSum T D5 (m + 1) (j + 1)) fun j2 c2 => .inl (j2, c ++ c2 ++ [T j]) else .inr (1, j) := by
  rw [gFact.eq_def]; dsimp only; rw [if_neg h12, if_neg h91, if_neg h13]
theorem gFact_p {T : Nat → Int} {D5 : Nat → Bool} {m i : Nat} (h13 : T i = 13 ∨ T i = 14) : gFact T D5 (m + 1) i = .inl (i + 1, [T i]) := by
  rw [gFact.eq_def]; dsimp only; rw [if_neg (by omega), if_neg (by omega), if_pos h13]
theorem r_177 {d : Nat} {X : Int → qM → Prop} {tp : List Int} {M0 : qM} {i m : Nat} {S C : List Int} {o : Nat} {M : qM} (g : G_T tp) (hS : ∀ x ∈ S, 14 ≤ x) (ho : o + (m + 1) = 7) (h12 : yT tp i ≠ 12) (h91 : yT tp i ≠ 91) (h : R_nb tp M0 i S C o M)
    (K1 : ∀ j c, gFact (yT tp) (yD5 tp) (m + 1) i = .inl (j, c) → ∀ M', R_nb tp M0 j S (C ++ c.map trc) o M' → X 0 M')
    (KF : ∀ k q, gFact (yT tp) (yD5 tp) (m + 1) i = .inr (k, q) → ∀ M', R_G M0 k (yP tp q) M' → X 0 M') : q_WP q_Pr (d + 7) 177 [.inr (.inr 66)] M X := by
  obtain ⟨a, p0⟩ := h.2.1
  have l0 := h.1.2.1
  have t0 := h.1.2.2
  have hb := h.2.2.2.1
  refine q_enter (t_177_0 l0 (r_154 (d := d + 3) (n := 13) l0 rfl (by decide) t0 p0 (fun q M1 f1 l1 p1 => ⟨l1, fun z => absurd z (by decide), fun _ => ?_⟩) (fun q13 M1 f1 l1 p1 => ⟨l1, fun _ => r_154 (d := d + 3) (n := 14) l1 rfl (by decide) (LT_Zt t0 f1) p1 (fun q M2 f2 l2 p2 => ⟨l2, fun z => absurd z (by decide), fun _ => ?_⟩) (fun q14 M2 f2 l2 p2 => ⟨l2, fun _ => ?_, fun z => absurd rfl z⟩), fun z => absurd rfl z⟩)))
  · have e : yT tp i = 13 := q
    have lt := ySq_sl g (i := i) (by rw [e]; decide)
    refine code_x (d := d + 5) (R_nb_t h f1 l1 p1 (by omega)) (by omega) (fun M' l' h' => ⟨l', K1 _ _ (gFact_p (Or.inl e)) M' ?_⟩)
    rw [e]; exact h'
  · have e : yT tp i = 14 := q
    have lt := ySq_sl g (i := i) (by rw [e]; decide)
    refine code_x (d := d + 5) (R_nb_t h (fr_trans f1 f2) l2 p2 (by omega)) (by omega) (fun M' l' h' => ⟨l', K1 _ _ (gFact_p (Or.inr e)) M' ?_⟩)
    rw [e]; exact h'
  · have n13 : yT tp i ≠ 13 := q13
    have n14 : yT tp i ≠ 14 := q14
    have eg := gFact_s (T := yT tp) (D5 := yD5 tp) (m := m) h12 h91 (by omega)
    rw [eg] at K1 KF
    refine r_176 (d := d) g hS ho (R_nb_t h (fr_trans f1 f2) l2 p2 (Nat.le_refl _)) (fun j c e1 M3 h3 => ?_) (fun k q e1 M3 r3 => ?_)
    · rw [e1] at K1 KF
      obtain ⟨a3, p3⟩ := h3.2.1
      refine ⟨h3.1.2.1, fun _ => r_152P h3.1.2.1 p3 (fun M4 f4 l4 p4 => ?_), fun z => absurd (R_ps_ok p3) z⟩
      have h4 := R_nb_t h3 f4 l4 p4 (Nat.le_refl _)
      have hb4 := h4.2.2.2.1
      have go : ∀ x : Int, (x = 60 ∨ x = 61 ∨ x = 62) → tb tp (yP tp j) = x → q_At q_m177 (q_WP q_Pr (d + 6)) X 81 [(0, .inr (.inr 66)), (1, .inl (tb tp (yP tp j)))] [] M4 0 0 := fun x hx hz => by
        have sx : ySg x := by unfold ySg; omega
        have ex : yT tp j = x := (yT_sg sx).mpr hz
        have lt := ySq_sl g (i := j) (by rw [ex]; omega)
        rw [hz]
        refine t_177_81 l4 (fun M5 e5 l5 => ?_)
        have f5 : fr Zt M4 M5 := fr_wn e5 ⟨rfl, by omega⟩
        have h5 := R_nb_t h4 f5 l5 (R_ps_step sx ex p4 e5) (by omega)
        have K1' : ∀ j2 c2, gSum (yT tp) (yD5 tp) (m + 1) (j + 1) = .inl (j2, c2) → ∀ M', R_nb tp M0 j2 S (C ++ (c ++ c2 ++ [x]).map trc) o M' → X 0 M' := fun j2 c2 e2 => K1 j2 _ (by
          show (if _ then _ else _) = _
          rw [if_pos (show yT tp j = 60 ∨ yT tp j = 61 ∨ yT tp j = 62 by omega), e2, ex]; rfl)
        have KF' : ∀ k q, gSum (yT tp) (yD5 tp) (m + 1) (j + 1) = .inr (k, q) → ∀ M', R_G M0 k (yP tp q) M' → X 0 M' := fun k q e2 => KF k q (by
          show (if _ then _ else _) = _
          rw [if_pos (show yT tp j = 60 ∨ yT tp j = 61 ∨ yT tp j = 62 by omega), e2]; rfl)
        refine r_176 (d := d) g hS ho h5 (fun j2 c2 e2 M6 h6 => ⟨h6.1.2.1, ?_⟩) (fun k q e2 M6 r6 => ⟨r6.1.2, ?_⟩)
        · have fin : ∀ v : Int, v = trc x → q_At q_m177 (q_WP q_Pr (d + 6)) X 120 [] [.inl v, .inr (.inr 66)] M6 0 0 := fun v hv => by
            refine t_177_120 h6.1.2.1 ⟨lk66 h6.1.2.1, code_x (d := d + 5) h6 ?_ (fun M7 l7 h7 => ⟨l7, K1' j2 c2 e2 M7 ?_⟩)⟩
            · have ln := gSum_lb (T := yT tp) (D5 := yD5 tp) (b := fun i => (ySq tp i).1) (fun i hi => ySq_sl g hi) (m + 1) _ _ _ e2
              dsimp only at ln
              simp only [List.length_append, List.length_map] at hb4 ⊢
              omega
            · rw [← map3, ← hv]; exact h7
          refine ⟨fun n60 => ⟨fun n62 => fin 13 (by rw [show x = 61 by omega]; rfl), fun e62 => fin 12 (by rw [e62]; rfl)⟩, fun e60 => fin 11 (by rw [e60]; rfl)⟩
        · have fin : ∀ v : Int, q_At q_m177 (q_WP q_Pr (d + 6)) X 120 [] [.inl v, .inr (.inr 66)] M6 0 0 := fun v => by
            refine t_177_120 r6.1.2 ⟨lk66 r6.1.2, r_167b (d := d + 5) r6.1.2 (by have := r6.2.2.2; omega) (fun M7 f7 l7 e7 => ⟨l7, KF' k q e2 M7 ⟨⟨fr_trans r6.1.1 (Zy_Zx f7), l7⟩, ⟨(f7.2 _ _ (by unfold Zy; omega)).trans r6.2.1.1, (f7.2 _ _ (by unfold Zy; omega)).trans r6.2.1.2⟩, r6.2.2.1⟩⟩)⟩
          exact ⟨fun _ => ⟨fun _ => fin 13, fun _ => fin 12⟩, fun _ => fin 11⟩
      refine ⟨l4, fun z => go 60 (by omega) z, fun n60 => ⟨fun z => go 62 (by omega) z, fun n62 => ⟨fun z => go 61 (by omega) z, fun n61 => ?_⟩⟩⟩
      rw [R_ps_a p4]
      refine r_149 (d := d + 5) l4 (R_ps_ok p4) (fun M5 f5 l5 b5 => ⟨l5, KF 1 j ?_ M5 (R_G_t h4 f5 l5 b5 (by decide))⟩)
      show (if _ then _ else _) = _
      rw [if_neg]
      rintro (q | q | q)
      · exact n60 ((yT_sg (by unfold ySg; omega)).mp q)
      · exact n61 ((yT_sg (by unfold ySg; omega)).mp q)
      · exact n62 ((yT_sg (by unfold ySg; omega)).mp q)
    · exact ⟨r3.1.2, fun z => absurd z (R_F_b r3), fun _ => KF k q (by rw [e1]; rfl) M3 (R_F_G r3)⟩
end
