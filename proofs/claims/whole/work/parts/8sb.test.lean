section
theorem r_180bad {d : Nat} {P : Int → qM → Prop} {x : Int} {M : qM} (hl : q_lay M) (h : ¬ q_nm M 66 5 = 0) (K : P 0 M) : q_At q_m180 (q_WP q_Pr d) P 2 [(0, .inr (.inr 66)), (1, .inl x)] [] M 0 0 := by
  have f : q_At q_m180 (q_WP q_Pr d) P 110 [(0, .inr (.inr 66))] [] M 0 0 := t_180_110 hl ⟨fun _ => K, fun z => absurd z h⟩
  exact t_180_2 hl ⟨fun _ => f, fun _ => ⟨fun _ => f, fun z => absurd z h⟩⟩
theorem r_179bad {d : Nat} {X : Int → qM → Prop} {M : qM} (hl : q_lay M) (h : ¬ q_nm M 66 5 = 0) (K : X 0 M) : q_WP q_Pr (d + 1) 179 [.inr (.inr 66)] M X :=
  q_enter (t_179_0 hl ⟨fun _ => K, fun z => absurd z h⟩)
def RTm (d : Nat) (P : Int → qM → Prop) (tp : List Int) (M0 : qM) (i : Nat) (S C : List Int) (o : Nat) : Prop := o ≤ 6 → (∀ x ∈ S, 14 ≤ x) → ∀ M, R_nb tp M0 i S C o M → q_At q_m180 (q_WP q_Pr (d + 7)) P 2 [(0, .inr (.inr 66)), (1, .inl 1)] [] M 0 0
def RHm (d : Nat) (P : Int → qM → Prop) (tp : List Int) (M0 : qM) (i : Nat) (S C : List Int) (o : Nat) : Prop := o ≤ 6 → (∀ x ∈ S, 14 ≤ x) → ∀ M, R_nb tp M0 i S C o M → q_At q_m181 (q_WP q_Pr (d + 6)) (fun v9 M10 => q_lay M10 ∧ ((v9 = 0 → (q_At q_m180 (q_WP q_Pr (d + 7)) P 2 [(0, .inr (.inr 66)), (1, .inl (0 : Int))] [] M10 0 0)) ∧ (¬ v9 = 0 → (q_At q_m180 (q_WP q_Pr (d + 7)) P 2 [(0, .inr (.inr 66)), (1, .inl (1 : Int))] [] M10 0 0)))) 0 [(0, .inr (.inr 66))] [] M 0 0
/-- a fact, and what comes behind it -/
theorem r_180f {d : Nat} {P : Int → qM → Prop} {tp : List Int} {M0 : qM} {i m : Nat} {S C : List Int} {o : Nat} (g : G_T tp) (ho : o + (m + 1) = 7) (h12 : yT tp i ≠ 12) (h91 : yT tp i ≠ 91)
    (K : (∃ j c, gFact (yT tp) (yD5 tp) (m + 1) i = .inl (j, c) ∧ hD (RHm d P tp M0) j S (C ++ c.map trc) o) ∨ (∃ k q, gFact (yT tp) (yD5 tp) (m + 1) i = .inr (k, q) ∧ ∀ M, R_G M0 k (yP tp q) M → P 0 M)) : RTm d P tp M0 i S C o := by
  intro h6 hS M h
  have s91 : ySg 91 := by unfold ySg; omega
  obtain ⟨a, p⟩ := h.2.1
  have l := h.1.2.1
  refine t_180_2 l ⟨fun z => absurd z (by decide), fun _ => ⟨fun z => absurd (R_ps_ok p) z, fun _ => r_152P l p (fun M2 f2 l2 p2 => ⟨l2, fun _ => r_153 (d := d + 5) (n := 12) l2 rfl (by decide) (LT_Zt h.1.2.2 f2) p2 (fun q => absurd q h12) (fun _ M4 f4 l4 p4 => ⟨l4, fun _ => ?_, fun z => absurd rfl z⟩), fun z => absurd ((yT_sg s91).mpr z) h91⟩)⟩⟩
  refine r_177 (d := d) g hS ho h12 h91 (R_nb_t h (fr_trans f2 f4) l4 p4 (Nat.le_refl _)) (fun j c e M5 h5 => ⟨h5.1.2.1, ?_⟩) (fun k q e M5 r5 => ⟨r5.1.2, r_179bad (d := d + 6) r5.1.2 (R_G_b r5) ⟨r5.1.2, fun _ => r_180bad r5.1.2 (R_G_b r5) ?_, fun z => absurd z (R_G_b r5)⟩⟩)
  · rcases K with ⟨j', c', e', hd⟩ | ⟨k', q', e', _⟩
    · rw [e] at e'
      obtain ⟨e1, e2⟩ := inl2 e'
      rw [← e1, ← e2] at hd
      refine q_enter (r_179l (d := d + 4) (RH := RHm d P tp M0) (S0 := S) (o0 := o) (fun S' C' o' M' a b c r => ?_) S _ o M5 (fun x hx => hx) (Nat.le_refl _) h6 hd h5)
      obtain ⟨a', p'⟩ := r.2.1
      exact ⟨r.1.2.1, fun z => absurd (R_ps_ok p') z, fun _ => q_enter (a (by omega) (fun x hx => hS x (b x hx)) M' r)⟩
    · rw [e] at e'; exact absurd e' (by simp)
  · rcases K with ⟨j', c', e', hd⟩ | ⟨k', q', e', kf⟩
    · rw [e] at e'; exact absurd e' (by simp)
    · rw [e] at e'
      obtain ⟨e1, e2⟩ := inr2 e'
      rw [← e1, ← e2] at kf
      exact kf M5 r5
theorem r_trules {d : Nat} {P : Int → qM → Prop} {tp : List Int} {M0 : qM} (g : G_T tp) : tRl (yT tp) (yD5 tp) (RTm d P tp M0) (RHm d P tp M0) (fun k q => ∀ M, R_G M0 k (yP tp q) M → P 0 M) := by
  have s91 : ySg 91 := by unfold ySg; omega
  refine ⟨?_, ?_, ?_, ?_, ?_, ?_, ?_, ?_, ?_, ?_⟩
  · intro i S C o e o6 K h6 hS M h
    have hb := R_nb_b h
    have hbd := h.2.2.2.1
    have lt := ySq_sl g (i := i) (by rw [e]; decide)
    obtain ⟨a, p⟩ := h.2.1
    have l := h.1.2.1
    refine t_180_2 l ⟨fun z => absurd z (by decide), fun _ => ⟨fun z => absurd (R_ps_ok p) z, fun _ => r_152P l p (fun M2 f2 l2 p2 => ⟨l2, fun z => absurd ((yT_sg s91).mp e) z, fun _ => ?_⟩)⟩⟩
    have h2 := R_nb_t h f2 l2 p2 (Nat.le_refl _)
    refine r_168 (d := d + 5) l2 h2.2.2.1 (R_ps_ok p2) (by omega) h6 (fun _ M3 f3 l3 c3 => ⟨l3, fun M4 e4 l4 => ?_⟩) (fun n => absurd o6 n)
    have f4 : fr Zt M3 M4 := fr_wn e4 ⟨rfl, by omega⟩
    refine K (by omega) (fun x hx => ?_) M4 ⟨⟨fr_trans h2.1.1 (fr_trans (Zy_Zx f3) (Zt_Zx f4)), l4, LT_Zt (LT_Zx h2.1.2.2 (Zy_Zx f3)) f4⟩, ⟨_, R_ps_step s91 e (R_ps_y p2 f3) e4⟩, R_cs_t c3 f4, by rw [List.length_cons]; omega, by rw [opn_c (by decide), ← h.2.2.2.2]; omega⟩
    rcases List.mem_cons.mp hx with q | q
    · rw [q]; decide
    · exact hS x q
  · intro i S C o e o6 K h6 hS M h
    have hb := R_nb_b h
    obtain ⟨a, p⟩ := h.2.1
    have l := h.1.2.1
    refine t_180_2 l ⟨fun z => absurd z (by decide), fun _ => ⟨fun z => absurd (R_ps_ok p) z, fun _ => r_152P l p (fun M2 f2 l2 p2 => ⟨l2, fun z => absurd ((yT_sg s91).mp e) z, fun _ => ?_⟩)⟩⟩
    have h2 := R_nb_t h f2 l2 p2 (Nat.le_refl _)
    rw [R_ps_a p2]
    refine r_168 (d := d + 5) l2 h2.2.2.1 (R_ps_ok p2) (by omega) h6 (fun n => absurd n o6) (fun _ M3 f3 l3 b3 => ⟨l3, fun M4 e4 l4 => ?_⟩)
    have f4 : fr Zt M3 M4 := fr_wn e4 ⟨rfl, by omega⟩
    have r4 : R_G M0 4 (yP tp i) M4 := R_G_t h2 (fr_trans f3 f4) l4 ⟨(wn_ne e4 (by omega)).trans b3.1, (wn_ne e4 (by omega)).trans b3.2⟩ (by decide)
    exact r_180bad l4 (R_G_b r4) (K M4 r4)
  · intro i S C o e o6 K h6 hS M h
    have hb := R_nb_b h
    have hbd := h.2.2.2.1
    have lt := ySq_sl g (i := i) (by rw [e]; decide)
    obtain ⟨a, p⟩ := h.2.1
    have l := h.1.2.1
    refine t_180_2 l ⟨fun z => absurd z (by decide), fun _ => ⟨fun z => absurd (R_ps_ok p) z, fun _ => r_152P l p (fun M2 f2 l2 p2 => ⟨l2, fun _ => r_153 (d := d + 5) (n := 12) l2 rfl (by decide) (LT_Zt h.1.2.2 f2) p2 (fun _ M4 f4 l4 p4 => ⟨l4, fun z => absurd z (by decide), fun _ => ?_⟩) (fun q => absurd e q), fun z => absurd ((yT_sg s91).mpr z) (by rw [e]; decide)⟩)⟩⟩
    have h4 := R_nb_t h (fr_trans f2 f4) l4 p4 (Nat.le_refl _)
    refine r_168 (d := d + 5) l4 h4.2.2.1 (R_ps_ok p4) (by omega) h6 (fun _ M5 f5 l5 c5 => ⟨l5, r_155 (d := d + 3) (n := 12) l5 rfl (by decide) (LT_Zx h4.1.2.2 (Zy_Zx f5)) (R_ps_y p4 f5) (fun _ M6 f6 l6 p6 => ⟨l6, ?_⟩) (fun q => absurd e q)⟩) (fun n => absurd o6 n)
    refine K (by omega) (fun x hx => ?_) M6 ⟨⟨fr_trans h4.1.1 (fr_trans (Zy_Zx f5) (Zt_Zx f6)), l6, LT_Zt (LT_Zx h4.1.2.2 (Zy_Zx f5)) f6⟩, ⟨_, p6⟩, R_cs_t c5 f6, by rw [List.length_cons]; omega, by rw [opn_c (by decide), ← h.2.2.2.2]; omega⟩
    rcases List.mem_cons.mp hx with q | q
    · rw [q]; decide
    · exact hS x q
  · intro i S C o e o6 K h6 hS M h
    have hb := R_nb_b h
    obtain ⟨a, p⟩ := h.2.1
    have l := h.1.2.1
    refine t_180_2 l ⟨fun z => absurd z (by decide), fun _ => ⟨fun z => absurd (R_ps_ok p) z, fun _ => r_152P l p (fun M2 f2 l2 p2 => ⟨l2, fun _ => r_153 (d := d + 5) (n := 12) l2 rfl (by decide) (LT_Zt h.1.2.2 f2) p2 (fun _ M4 f4 l4 p4 => ⟨l4, fun z => absurd z (by decide), fun _ => ?_⟩) (fun q => absurd e q), fun z => absurd ((yT_sg s91).mpr z) (by rw [e]; decide)⟩)⟩⟩
    have h4 := R_nb_t h (fr_trans f2 f4) l4 p4 (Nat.le_refl _)
    rw [R_ps_a p4]
    refine r_168 (d := d + 5) l4 h4.2.2.1 (R_ps_ok p4) (by omega) h6 (fun n => absurd n o6) (fun _ M5 f5 l5 b5 => ?_)
    have r5 : R_G M0 4 (yP tp i) M5 := R_G_t h4 f5 l5 b5 (by decide)
    exact ⟨l5, r_155b (d := d + 6) l5 (R_G_b r5) ⟨l5, r_180bad l5 (R_G_b r5) (K M5 r5)⟩⟩
  · intro i S C o e hd
    by_cases h6 : o ≤ 6
    · exact r_180f (m := 6 - o) g (by omega) (by omega) (by omega) (Or.inl ⟨_, _, gFact_p e, hd⟩)
    · exact fun q => absurd q h6
  · intro i S C m o ho h12 h91 h13
    exact ⟨fun k q e kf => r_180f g ho h12 h91 (Or.inr ⟨k, q, e, kf⟩), fun j c e hd => r_180f g ho h12 h91 (Or.inl ⟨j, c, e, hd⟩)⟩
  · intro i P' S C o e hP hd h6 hS M h
    exact r_181c (d := d + 2) (RH := RHm d P tp M0) g h6 e hP hd h (fun S' C' o' M' a b c r => a (by omega) (fun x hx => hS x (List.mem_append_right _ (List.mem_cons_of_mem _ (b x hx)))) M' r)
  · intro i P' S C o e hP hh K h6 hS M h
    refine r_181n (d := d + 2) h (Or.inl (by omega)) (fun M1 h1 => r_181t (d := d + 2) g h1 (fun _ M2 h2 hb => r_181and (d := d + 2) hh P' C M2 hP h2 hb (fun M3 h3 => ⟨h3.1.2.1, fun z => absurd z (by decide), fun _ => K h6 (fun x hx => ?_) M3 h3⟩)) (fun q => absurd e (by omega)) (fun q => absurd e q) (fun q => absurd e q))
    rcases List.mem_cons.mp hx with q | q
    · rw [q]; decide
    · exact hS x (List.mem_append_right _ q)
  · intro i P' S C o e hP hh K h6 hS M h
    refine r_181n (d := d + 2) h (Or.inl (by omega)) (fun M1 h1 => r_181t (d := d + 2) g h1 (fun q => absurd e (by omega)) (fun _ M2 h2 hb => r_181or (d := d + 2) hh P' C M2 hP h2 hb (fun M3 h3 => ⟨h3.1.2.1, fun z => absurd z (by decide), fun _ => K h6 (fun x hx => ?_) M3 h3⟩)) (fun _ q => absurd e q) (fun _ q => absurd e q))
    rcases List.mem_cons.mp hx with q | q
    · rw [q]; decide
    · exact hS x (List.mem_append_right _ q)
  · intro i P' S C o n93 n11 n10 K h6 hS M h
    exact r_181n (d := d + 2) h (Or.inl n93) (fun M1 h1 => r_181t (d := d + 2) g h1 (fun q => absurd q n11) (fun q => absurd q n10) (fun _ _ _ M2 r2 => ⟨r2.1.2, fun _ => r_180bad r2.1.2 (R_G_b r2) (K M2 r2), fun z => absurd rfl z⟩) (fun _ _ q => absurd (List.mem_append_right P' List.mem_cons_self) q))
theorem r_180e {d : Nat} {P : Int → qM → Prop} {tp : List Int} {M0 : qM} {i : Nat} {o : Nat} : ∀ (S C : List Int) (M : qM), (∀ x ∈ S, x < 16) → R_nb tp M0 i S C o M → (∀ M', R_nb tp M0 i [] (C ++ S) o M' → P 0 M') → q_At q_m180 (q_WP q_Pr (d + 7)) P 110 [(0, .inr (.inr 66))] [] M 0 0 := by
  intro S
  induction S with
  | nil =>
    intro C M hS h K
    obtain ⟨a, p⟩ := h.2.1
    refine t_180_110 h.1.2.1 ⟨fun z => absurd (R_ps_ok p) z, fun _ => ⟨fun _ => K M (by rw [List.append_nil]; exact h), fun z => ?_⟩⟩
    rw [h.2.2.1.1] at z; exact absurd z (by simp)
  | cons x S ih =>
    intro C M hS h K
    obtain ⟨a, p⟩ := h.2.1
    refine t_180_110 h.1.2.1 ⟨fun z => absurd (R_ps_ok p) z, fun _ => ⟨fun z => ?_, fun _ => drop_b (d := d + 5) (hS x List.mem_cons_self) h (fun M' l' h' => ⟨l', ih (C ++ [x]) M' (fun y hy => hS y (List.mem_cons_of_mem _ hy)) h' (fun M2 r2 => K M2 (by rw [List.append_assoc, List.singleton_append] at r2; exact r2))⟩)⟩⟩
    rw [h.2.2.1.1, List.length_cons] at z; exact absurd z (by omega)
/-- a whole test -/
theorem r_180 {d : Nat} {P : Int → qM → Prop} {tp C : List Int} {M0 : qM} {i : Nat} {M : qM} (g : G_T tp) (h : R_nb tp M0 i [] C 0 M)
    (K1 : ∀ j c, gTest (yT tp) (yD5 tp) 7 i = .inl (j, c) → ∀ M', R_nb tp M0 j [] (C ++ c.map trc) 0 M' → P 0 M')
    (KF : ∀ k q, gTest (yT tp) (yD5 tp) 7 i = .inr (k, q) → ∀ M', R_G M0 k (yP tp q) M' → P 0 M') : q_WP q_Pr (d + 8) 180 [.inr (.inr 66)] M P := by
  have rl := r_trules (d := d) (P := P) (M0 := M0) g
  have ts := gTest_M (fun i hi => yT_late g hi) rl i [] C hdN_nil
  refine q_enter (t_180_0 h.1.2.1 ?_)
  cases e : gTest (yT tp) (yD5 tp) 7 i with
  | inr f => exact ts.1 f.1 f.2 e (KF f.1 f.2 e) (by decide) (fun x hx => absurd hx List.not_mem_nil) M h
  | inl x =>
    refine ts.2 x.1 x.2 e (fun P' C' hP hC n11 n10 h6 hS M2 h2 => ?_) (by decide) (fun x hx => absurd hx List.not_mem_nil) M h
    rw [List.append_nil] at h2
    have n25 : 25 ∉ P' := fun q => by have := hP 25 q; omega
    refine r_181n (d := d + 2) h2 (Or.inr n25) (fun M3 h3 => r_181t (d := d + 2) g h3 (fun q => absurd q n11) (fun q => absurd q n10) (fun _ _ q => absurd q n25) (fun _ _ _ M4 h4 => ⟨h4.1.2.1, fun _ => ?_, fun z => absurd rfl z⟩))
    refine t_180_2 h4.1.2.1 ⟨fun _ => r_180e (d := d) P' C' M4 (fun y hy => by have := hP y hy; omega) h4 (fun M5 h5 => K1 x.1 x.2 e M5 ?_), fun z => absurd rfl z⟩
    rw [hC] at h5; exact h5
end
