section
/-! THE REFERENCE READS A SUM -/
/-- between the parts of a reading -/
def R_nb (tp : List Int) (M0 : qM) (i : Nat) (S C : List Int) (o : Nat) (M : qM) : Prop := (fr Zx M0 M ∧ q_lay M ∧ LT M) ∧ (∃ a, R_ps tp i a M) ∧ R_cs S C o M ∧ S.length + C.length + 3 ≤ (ySq tp i).1 ∧ o = opn S
theorem yT_late {tp : List Int} (g : G_T tp) {i : Nat} (h : 2100 ≤ i) : yT tp i = -1 := by
  have key : ∀ i, (ySq tp i).1 = tp.length ∨ i ≤ (ySq tp i).1 := by
    intro i
    induction i with
    | zero => exact Or.inr (Nat.zero_le _)
    | succ i ih =>
      have p := yP_le tp i
      have q := yE_le p.2
      rcases ih with e | e
      · left
        show yE tp (yP tp i) = _
        omega
      · rcases Nat.lt_or_ge (yP tp i) tp.length with z | z
        · right
          have := yE_lt z
          show i + 1 ≤ yE tp (yP tp i)
          omega
        · left
          show yE tp (yP tp i) = _
          omega
  have gl := g.1
  have p := yP_le tp i
  refine (yT_end g).mpr (tb_out ?_)
  rcases key i with e | e <;> omega
/-- the rules of the machine hold of the reference -/
theorem r_rules {d : Nat} {P : Int → qM → Prop} {tp B : List Int} {M0 : qM} {x1 : Int} (g : G_T tp) (hB : ∀ x ∈ B, 14 ≤ x) :
    mRl (yT tp) (yD5 tp)
      (fun i S C o => o ≤ 6 → ∀ M, R_ng tp B M0 i S C o M → q_At q_m174 (q_WP q_Pr (d + 4)) (fun v1 M2 => q_lay M2 ∧ ((¬ (q_nm M2 66 5) = 0 → (q_At q_m176 (q_WP q_Pr (d + 5)) P 15 [(0, .inr (.inr 66)), (1, .inl x1), (2, .inl (0 : Int))] [] M2 0 0)) ∧ ((q_nm M2 66 5) = 0 → q_WP q_Pr (d + 5) 175 [.inr (.inr 66)] M2 (fun v3 M4 => q_lay M4 ∧ ((v3 = 0 → (q_At q_m176 (q_WP q_Pr (d + 5)) P 15 [(0, .inr (.inr 66)), (1, .inl x1), (2, .inl (0 : Int))] [] M4 0 0)) ∧ (¬ v3 = 0 → (q_At q_m176 (q_WP q_Pr (d + 5)) P 15 [(0, .inr (.inr 66)), (1, .inl x1), (2, .inl (1 : Int))] [] M4 0 0))))))) 2 [(0, .inr (.inr 66)), (1, .inl 1)] [] M 0 0)
      (fun i S C o => o ≤ 6 → ∀ M, R_ng tp B M0 i S C o M → q_At q_m175 (q_WP q_Pr (d + 4)) (fun v3 M4 => q_lay M4 ∧ ((v3 = 0 → (q_At q_m176 (q_WP q_Pr (d + 5)) P 15 [(0, .inr (.inr 66)), (1, .inl x1), (2, .inl (0 : Int))] [] M4 0 0)) ∧ (¬ v3 = 0 → (q_At q_m176 (q_WP q_Pr (d + 5)) P 15 [(0, .inr (.inr 66)), (1, .inl x1), (2, .inl (1 : Int))] [] M4 0 0)))) 0 [(0, .inr (.inr 66))] [] M 0 0)
      (fun k p => ∀ M, R_F M0 k (yP tp p) M → q_At q_m176 (q_WP q_Pr (d + 5)) P 15 [(0, .inr (.inr 66)), (1, .inl x1), (2, .inl (0 : Int))] [] M 0 0) := by
  have fx : ∀ {k : Int} {p : Nat} {M : qM} {X : Prop}, R_F M0 k (yP tp p) M → (q_At q_m176 (q_WP q_Pr (d + 5)) P 15 [(0, .inr (.inr 66)), (1, .inl x1), (2, .inl (0 : Int))] [] M 0 0) → (q_lay M ∧ ((¬ (q_nm M 66 5) = 0 → (q_At q_m176 (q_WP q_Pr (d + 5)) P 15 [(0, .inr (.inr 66)), (1, .inl x1), (2, .inl (0 : Int))] [] M 0 0)) ∧ ((q_nm M 66 5) = 0 → X))) := fun r h => ⟨r.1.2, fun _ => h, fun z => absurd z (R_F_b r)⟩
  have nx : ∀ {i : Nat} {S C : List Int} {o : Nat} {M : qM}, R_ng tp B M0 i S C o M → (q_At q_m174 (q_WP q_Pr (d + 4)) (fun v1 M2 => q_lay M2 ∧ ((¬ (q_nm M2 66 5) = 0 → (q_At q_m176 (q_WP q_Pr (d + 5)) P 15 [(0, .inr (.inr 66)), (1, .inl x1), (2, .inl (0 : Int))] [] M2 0 0)) ∧ ((q_nm M2 66 5) = 0 → q_WP q_Pr (d + 5) 175 [.inr (.inr 66)] M2 (fun v3 M4 => q_lay M4 ∧ ((v3 = 0 → (q_At q_m176 (q_WP q_Pr (d + 5)) P 15 [(0, .inr (.inr 66)), (1, .inl x1), (2, .inl (0 : Int))] [] M4 0 0)) ∧ (¬ v3 = 0 → (q_At q_m176 (q_WP q_Pr (d + 5)) P 15 [(0, .inr (.inr 66)), (1, .inl x1), (2, .inl (1 : Int))] [] M4 0 0))))))) 2 [(0, .inr (.inr 66)), (1, .inl 1)] [] M 0 0) → q_At q_m176 (q_WP q_Pr (d + 5)) P 15 [(0, .inr (.inr 66)), (1, .inl x1), (2, .inl (1 : Int))] [] M 0 0 := fun {i S C o M} r h => by
    obtain ⟨a, p⟩ := r.2.1
    exact t_176_15 r.1.2.1 ⟨fun z => absurd z (by decide), fun _ => ⟨fun z => absurd (R_ps_ok p) z, fun _ => q_enter (t_174_0 r.1.2.1 h)⟩⟩
  refine ⟨?_, ?_, ?_, ?_, ?_, ?_, ?_, ?_, ?_, ?_, ?_, ?_, ?_, ?_⟩
  · intro i S C o e o6 K ho M h
    exact r_174s (d := d) g ho h (fun _ _ M' r => K (by omega) M' r) (fun _ n => absurd o6 n) (fun q => absurd e (by omega)) (fun q => absurd e (by omega)) (fun q => absurd e (by omega)) (fun q => absurd e (by omega)) (fun q => absurd e (by omega)) (fun q => absurd e q)
  · intro i S C o e o6 K ho M h
    exact r_174s (d := d) g ho h (fun _ n => absurd n o6) (fun _ _ M' r => fx r (K M' r)) (fun q => absurd e (by omega)) (fun q => absurd e (by omega)) (fun q => absurd e (by omega)) (fun q => absurd e (by omega)) (fun q => absurd e (by omega)) (fun q => absurd e q)
  · intro i S C o e e1 o6 K ho M h
    exact r_174s (d := d) g ho h (fun q => absurd e (by omega)) (fun q => absurd e (by omega)) (fun _ _ _ M' r => K (by omega) M' r) (fun _ _ n => absurd o6 n) (fun _ n => absurd e1 n) (fun q => absurd e (by omega)) (fun q => absurd e (by omega)) (fun _ q => absurd e q)
  · intro i S C o e e1 o6 K ho M h
    exact r_174s (d := d) g ho h (fun q => absurd e (by omega)) (fun q => absurd e (by omega)) (fun _ _ n => absurd n o6) (fun _ _ _ M' r => fx r (K M' r)) (fun _ n => absurd e1 n) (fun q => absurd e (by omega)) (fun q => absurd e (by omega)) (fun _ q => absurd e q)
  · intro i S C o e e1 K ho M h
    exact r_174s (d := d) g ho h (fun q => absurd e (by omega)) (fun q => absurd e (by omega)) (fun _ n => absurd n e1) (fun _ n => absurd n e1) (fun _ _ M' r => fx r (K M' r)) (fun q => absurd e (by omega)) (fun q => absurd e (by omega)) (fun _ q => absurd e q)
  · intro i S C o e K ho M h
    have e' : (15 ≤ yT tp i ∧ yT tp i ≤ 21) ∨ 1000 ≤ yT tp i := e.elim Or.inl (fun q => Or.inr q.1)
    refine r_174s (d := d) g ho h (fun q => absurd e' (by omega)) (fun q => absurd e' (by omega)) (fun q => absurd e' (by omega)) (fun q => absurd e' (by omega)) (fun q => absurd e' (by omega)) (fun _ M' r => ?_) (fun q q5 => ?_) (fun _ _ a b => absurd e' (by omega))
    · obtain ⟨a, p⟩ := r.2.1
      exact ⟨r.1.2.1, fun z => absurd (R_ps_ok p) z, fun _ => q_enter (K ho M' r)⟩
    · rcases e with e | e
      · omega
      · rw [e.2] at q5; exact absurd q5 (by decide)
  · intro i S C o e e5 K ho M h
    refine r_174s (d := d) g ho h (fun q => absurd e (by omega)) (fun q => absurd e (by omega)) (fun q => absurd e (by omega)) (fun q => absurd e (by omega)) (fun q => absurd e (by omega)) (fun q => ?_) (fun _ _ M' r => fx r (K M' r)) (fun _ _ _ b => absurd e b)
    rcases q with q | q
    · omega
    · rw [e5] at q; exact absurd q.2 (by decide)
  · intro i S C o a1 a2 a3 a4 K ho M h
    refine r_174s (d := d) g ho h (fun q => absurd q a1) (fun q => absurd q a1) (fun q => absurd q a2) (fun q => absurd q a2) (fun q => absurd q a2) (fun q => ?_) (fun q => absurd q a4) (fun _ _ _ _ M' r => fx r (K M' r))
    rcases q with q | q
    · exact absurd q a3
    · exact absurd q.1 a4
  · intro i P' m S C o e hP hm K ho M h
    exact r_175c (d := d) g ho h e hP hm (fun M' r => K (by omega) M' r)
  · intro i P' S C o e hP hS K ho M h
    refine r_175n (d := d) h (Or.inl (fun q => by rw [q] at e; exact absurd e (by decide))) (fun M' r => r_175o1 (d := d) g hB e hP hS r (fun M2 r2 => ⟨r2.1.2.1, fun z => absurd z (by decide), fun _ => nx r2 (K ho M2 r2)⟩))
  · intro i P' S C o e hP hS K ho M h
    refine r_175n (d := d) h (Or.inl (fun q => by rw [q] at e; exact absurd e (by decide))) (fun M' r => r_175o2 (d := d) g hB e hP hS r (fun M2 r2 => ⟨r2.1.2.1, fun z => absurd z (by decide), fun _ => nx r2 (K ho M2 r2)⟩))
  · intro i P' m S C o e hP hm K ho M h
    refine r_175n (d := d) h (Or.inl (by omega)) (fun M' r => r_175k (d := d) g (by omega) (by rw [e]; rfl) (by rw [e]; rfl) hP r (fun _ _ M2 r2 => ⟨r2.1.2.1, fun z => absurd z (by decide), fun _ => nx r2 (K ho M2 r2)⟩) (fun q => absurd ⟨hm, e⟩ q))
  · intro i P' m S C o e n1 n2 hP hm K ho M h
    have mk : mkO (P' ++ m :: S) = m := mkO_P hP (by omega)
    refine r_175n (d := d) h (Or.inr (by rw [mk]; omega)) (fun M' r => r_175k (d := d) g (by omega) n1 n2 hP r (fun _ q => absurd q e) (fun _ M2 r2 => ⟨r2.1.2, fun _ => K M2 r2, fun z => absurd rfl z⟩))
  · intro i P' m S C o e n1 n2 hP hm K ho M h
    refine r_175n (d := d) h (Or.inl e) (fun M' r => r_175k (d := d) g (by omega) n1 n2 hP r (fun q => absurd hm (by omega)) (fun _ M2 r2 => ⟨r2.1.2, fun _ => K M2 r2, fun z => absurd rfl z⟩))
/-- at the end all that waits goes to the codes -/
theorem r_176e {d : Nat} {P : Int → qM → Prop} {tp B : List Int} {M0 : qM} {i : Nat} {o : Nat} {x1 : Int} : ∀ (S C : List Int) (M : qM), (∀ x ∈ S, nMk x) → R_ng tp B M0 i S C o M → (∀ M', R_nb tp M0 i B (C ++ S) o M' → P 0 M') → q_At q_m176 (q_WP q_Pr (d + 5)) P 53 [(0, .inr (.inr 66)), (1, .inl x1)] [] M 0 0 := by
  intro S
  induction S with
  | nil =>
    intro C M hS h K
    obtain ⟨a, p⟩ := h.2.1
    refine t_176_53 h.1.2.1 ⟨fun z => absurd (R_ps_ok p) z, fun _ => ⟨fun _ M2 e2 l2 => ?_, fun z => ?_⟩⟩
    · have f2 : fr Zx M M2 := fr_wn e2 (by unfold Zx; omega)
      refine K M2 ⟨⟨fr_trans h.1.1 f2, l2, LT_Zx h.1.2.2 f2⟩, ⟨a, R_ps_fr p (fun j => wn_ne e2 (by omega)) (fun j _ _ => wn_ne e2 (by omega))⟩, ?_, ?_, h.2.2.2.2.2⟩
      · rw [List.append_nil]; exact R_cs_fr h.2.2.1 (fun j hj => wn_ne e2 (by omega)) (fun j => wn_ne e2 (by omega)) (fun j _ => wn_ne e2 (by omega))
      · rw [List.append_nil]; exact h.2.2.2.2.1
    · rw [h.2.2.2.1, h.2.2.1.1, List.nil_append] at z
      exact absurd z (by omega)
  | cons x S ih =>
    intro C M hS h K
    obtain ⟨a, p⟩ := h.2.1
    have hx := hS x List.mem_cons_self
    unfold nMk at hx
    refine t_176_53 h.1.2.1 ⟨fun z => absurd (R_ps_ok p) z, fun _ => ⟨fun z => ?_, fun _ => drop_x (d := d + 3) hx h (fun M' l' h' => ⟨l', ih (C ++ [x]) M' (fun y hy => hS y (List.mem_cons_of_mem _ hy)) h' (fun M2 r2 => K M2 (by rw [List.append_assoc, List.singleton_append] at r2; exact r2))⟩)⟩⟩
    rw [h.2.2.2.1, h.2.2.1.1, List.length_append, List.length_cons] at z
    exact absurd z (by omega)
theorem R_F_up {M M0 M1 : qM} {k : Int} {p : Nat} (f : fr Zx M M0) (h : R_F M0 k p M1) : R_F M k p M1 := ⟨⟨fr_trans f h.1.1, h.1.2⟩, h.2⟩
/-- a whole sum -/
theorem r_176 {d : Nat} {P : Int → qM → Prop} {tp B C : List Int} {M0 : qM} {i m o : Nat} {M : qM} (g : G_T tp) (hB : ∀ x ∈ B, 14 ≤ x) (ho : o + (m + 1) = 7) (h : R_nb tp M0 i B C o M)
    (K1 : ∀ j c, gSum (yT tp) (yD5 tp) (m + 1) i = .inl (j, c) → ∀ M', R_nb tp M0 j B (C ++ c.map trc) o M' → P 0 M')
    (KF : ∀ k q, gSum (yT tp) (yD5 tp) (m + 1) i = .inr (k, q) → ∀ M', R_F M0 k (yP tp q) M' → P 0 M') : q_WP q_Pr (d + 6) 176 [.inr (.inr 66)] M P := by
  obtain ⟨a, p⟩ := h.2.1
  refine q_enter (t_176_0 h.1.2.1 (fun M1 e1 l1 => ?_))
  have f1 : fr Zx M M1 := fr_wn e1 (by unfold Zx; omega)
  have h1 : R_ng tp B M0 i [] C o M1 := ⟨⟨fr_trans h.1.1 f1, l1, LT_Zx h.1.2.2 f1⟩, ⟨a, R_ps_fr p (fun j => wn_ne e1 (by omega)) (fun j _ _ => wn_ne e1 (by omega))⟩, R_cs_fr h.2.2.1 (fun j hj => wn_ne e1 (by omega)) (fun j => wn_ne e1 (by omega)) (fun j _ => wn_ne e1 (by omega)), by rw [wn_eq e1]; exact h.2.2.1.1, h.2.2.2.1, h.2.2.2.2⟩
  have rl := r_rules (d := d) (P := P) (M0 := M0) (x1 := q_nm M 66 54) g hB
  have sm := gSum_M (fun i hi => yT_late g hi) rl m o ho i [] C hdN_nil
  obtain ⟨a1, p1⟩ := h1.2.1
  refine t_176_15 l1 ⟨fun z => absurd z (by decide), fun _ => ⟨fun z => absurd (R_ps_ok p1) z, fun _ => q_enter (t_174_0 l1 ?_)⟩⟩
  cases e : gSum (yT tp) (yD5 tp) (m + 1) i with
  | inr f =>
    refine sm.1 f.1 f.2 e (fun M2 r2 => ?_) (by omega) M1 h1
    have fin : q_At q_m176 (q_WP q_Pr (d + 5)) P 53 [(0, .inr (.inr 66)), (1, .inl (q_nm M 66 54))] [] M2 0 0 := t_176_53 r2.1.2 ⟨fun _ M3 e3 l3 => KF f.1 f.2 e M3 ⟨⟨fr_trans r2.1.1 (fr_wn e3 (by unfold Zx; omega)), l3⟩, ⟨(wn_ne e3 (by omega)).trans r2.2.1.1, (wn_ne e3 (by omega)).trans r2.2.1.2⟩, r2.2.2.1, by rw [wn_ne e3 (by omega)]; exact r2.2.2.2⟩, fun z => absurd z (R_F_b r2)⟩
    exact t_176_15 r2.1.2 ⟨fun _ => fin, fun z => absurd rfl z⟩
  | inl x =>
    refine sm.2 x.1 x.2 e (fun P' C' hP hC n1 n2 ho M2 h2 => ?_) (by omega) M1 h1
    rw [List.append_nil] at h2
    have nP : ∀ y ∈ P', nMk y := fun y hy => iAr_nMk (hP y hy)
    have mk := mkO_N nP
    refine r_175n (d := d) h2 (Or.inr (by rw [mk]; decide)) (fun M3 h3 => r_175x (d := d) n1 n2 nP h3 (fun M4 h4 => ⟨h4.1.2.1, fun _ => ?_, fun z => absurd rfl z⟩))
    refine t_176_15 h4.1.2.1 ⟨fun _ => r_176e (d := d) P' C' M4 nP h4 (fun M5 h5 => K1 x.1 x.2 e M5 ?_), fun z => absurd rfl z⟩
    rw [hC] at h5; exact h5
end
