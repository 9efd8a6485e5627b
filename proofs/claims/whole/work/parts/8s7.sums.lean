section
/-! THE REFERENCE GOES ON BEHIND A PART -/
theorem opn_lo {P R : List Int} (h : ∀ x ∈ P, nMk x) : opn (P ++ R) = opn R := by
  induction P with
  | nil => rfl
  | cons x P ih =>
    rw [List.cons_append]
    show (if 16 ≤ x then 1 else 0) + opn (P ++ R) = _
    have q := h x List.mem_cons_self
    unfold nMk at q
    rw [if_neg (by omega), ih (fun y hy => h y (List.mem_cons_of_mem _ hy)), Nat.zero_add]
theorem opn_c {m : Int} {R : List Int} (h : 16 ≤ m) : opn (m :: R) = 1 + opn R := by
  show (if 16 ≤ m then 1 else 0) + opn R = _
  rw [if_pos h]
theorem opn_c0 {m : Int} {R : List Int} (h : m < 16) : opn (m :: R) = opn R := by
  show (if 16 ≤ m then 1 else 0) + opn R = _
  rw [if_neg (by omega), Nat.zero_add]
theorem hdN_app {q : Int → Prop} {S B : List Int} (h : hdN q S) (k : ∀ x ∈ B, ¬ q x) : hdN q (S ++ B) := by
  cases S with
  | nil => exact fun x e => k x (by
      rw [List.nil_append] at e
      exact List.mem_of_head? e)
  | cons y S => exact fun x e => h x e
theorem R_cs_53 {S C : List Int} {o : Nat} {M : qM} (h : R_cs S C o M) : q_nm M 66 53 = o := h.2.2.2.2
/-- a closing bracket that closes -/
theorem r_175c {d : Nat} {Q : Int → qM → Prop} {tp B : List Int} {M0 : qM} {i : Nat} {P S C : List Int} {m : Int} {o : Nat} {M : qM} (g : G_T tp) (ho : o + 1 ≤ 6) (h : R_ng tp B M0 i (P ++ m :: S) C (o + 1) M) (e41 : yT tp i = 41) (hP : ∀ x ∈ P, nMk x) (hm : m = 20 ∨ m = 23 ∨ m = 24)
    (K : ∀ M', R_ng tp B M0 (i + 1) S (C ++ P ++ (if m = 20 then [] else [m - 18])) o M' → q_At q_m175 (q_WP q_Pr (d + 4)) Q 0 [(0, .inr (.inr 66))] [] M' 0 0) : q_At q_m175 (q_WP q_Pr (d + 4)) Q 0 [(0, .inr (.inr 66))] [] M 0 0 := by
  have s41 : ySg 41 := by unfold ySg; omega
  have hb := R_ng_b h
  obtain ⟨a, p0⟩ := h.2.1
  have mk : mkO (P ++ m :: S) = m := mkO_P hP (by omega)
  have lt := ySq_sl g (i := i) (by rw [e41]; decide)
  have hbd := h.2.2.2.2.1
  have len : ((P ++ m :: S) ++ B).length = P.length + (S ++ B).length + 1 := by
    simp only [List.length_append, List.length_cons]; omega
  rw [len] at hb hbd
  have ope : o = opn (S ++ B) := by
    have e := h.2.2.2.2.2
    rw [List.append_assoc, opn_lo hP, List.cons_append, opn_c (by omega)] at e
    omega
  refine t_175_0 h.1.2.1 ⟨fun z => absurd (R_ps_ok p0) z, fun _ => r_152P h.1.2.1 p0 (fun M2 f2 l2 p2 => ⟨l2, fun z => absurd ((yT_sg s41).mp e41) z, fun _ => ?_⟩)⟩
  have s2 := R_ng_t h f2 l2 p2 (Nat.le_refl _)
  have go : q_At q_m175 (q_WP q_Pr (d + 4)) Q 43 [(0, .inr (.inr 66))] [] M2 0 0 := by
    refine t_175_43 l2 (fun M3 e3 l3 => ?_)
    have f3 : fr Zt M2 M3 := fr_wn e3 ⟨rfl, by omega⟩
    have p3 := R_ps_step s41 e41 p2 e3
    have c3 := R_cs_t s2.2.2.1 f3
    rw [List.append_assoc] at c3
    have b3 : q_nm M3 66 54 = B.length := (wn_ne e3 (by omega)).trans s2.2.2.2.1
    refine r_173 (d := d + 1) l3 (by omega) hP b3 c3 (by rw [← List.append_assoc, len]; omega) (fun M4 f4 l4 c4 => ⟨l4, fun M5 e5 l5 M6 e6 l6 => ?_⟩)
    have t4 := q_L_top (x := m) (R := S ++ B) c4.2.1
    have w4 : q_nm M4 66 52 = (((S ++ B).length + 1 : Nat) : Int) := c4.1
    rw [w4, w32_id (x := (((S ++ B).length + 1 : Nat) : Int) - 1) (by omega) (by omega), show (((S ++ B).length + 1 : Nat) : Int) - 1 = ((S ++ B).length : Int) by omega] at e5
    rw [wn_ne e5 (by omega), R_cs_53 c4, w32_id (x := ((o + 1 : Nat) : Int) - 1) (by omega) (by omega), show ((o + 1 : Nat) : Int) - 1 = (o : Int) by omega] at e6
    have f56 : fr Zy M4 M6 := fr_trans (fr_wn e5 (by unfold Zy; omega)) (fr_wn e6 (by unfold Zy; omega))
    have f36 : fr Zy M3 M6 := fr_trans f4 f56
    have k : ∀ a j : Int, ¬ (a = 66 ∧ (j = 52 ∨ j = 53)) → q_nm M6 a j = q_nm M4 a j := fun a j q => by rw [wn_ne e6 (by omega), wn_ne e5 (by omega)]
    have c6 : R_cs (S ++ B) (C ++ P) o M6 := ⟨by rw [wn_ne e6 (by omega), wn_eq e5], q_L_fr t4.2 (fun j _ _ => k 107 j (by omega)), (k 66 50 (by omega)).trans c4.2.2.1, q_L_fr c4.2.2.2.1 (fun j _ _ => k 106 j (by omega)), wn_eq e6⟩
    have r6 : R_ng tp B M0 (i + 1) S (C ++ P) o M6 := ⟨⟨fr_trans s2.1.1 (fr_trans (Zt_Zx f3) (Zy_Zx f36)), l6, LT_Zx (LT_Zt s2.1.2.2 f3) (Zy_Zx f36)⟩, ⟨_, R_ps_y p3 f36⟩, c6, (f36.2 _ _ (by unfold Zy; omega)).trans b3, by rw [List.length_append (as := C)]; omega, ope⟩
    have ew : q_nm M6 66 52 = ((S ++ B).length : Int) := c6.1
    have em : q_nm M6 107 ((S ++ B).length : Int) = m := (k 107 _ (by omega)).trans t4.1
    rw [ew, em]
    have fin : ∀ v : Int, v = m - 18 → m ≠ 20 → q_WP q_Pr (d + 4) 167 [.inr (.inr 66), .inl v] M6 (fun v6 M7 => q_lay M7 ∧ (q_At q_m175 (q_WP q_Pr (d + 4)) Q 0 [(0, .inr (.inr 66))] [] M7 0 0)) := fun v hv hn => by
      refine r_167 (d := d + 3) l6 c6 (by rw [List.length_append]; omega) (fun M7 f7 l7 c7 => ⟨l7, K M7 ?_⟩)
      rw [if_neg hn, ← hv]
      exact R_ng_y r6 f7 l7 c7 (by simp only [List.length_append, List.length_cons, List.length_nil] at hbd ⊢; omega) ope
    refine ⟨⟨by omega, by omega⟩, fun z => K M6 (by rw [if_pos z, List.append_nil]; exact r6), fun z => ⟨⟨by omega, by omega⟩, fun y => fin 6 (by omega) z, fun y => fin 5 (by omega) z⟩⟩
  have ln2 : ((P ++ m :: S) ++ B).length ≤ 2200 := by rw [len]; omega
  have mk3 : ∀ {X : Int → qM → Prop}, X m M2 → q_WP q_Pr (d + 4) 172 [.inr (.inr 66)] M2 X := fun hx => r_172 (d := d + 2) l2 s2.2.2.1 s2.2.2.2.1 ln2 (by rw [mk]; exact hx)
  refine mk3 ⟨l2, fun _ => go, fun n20 => mk3 ⟨l2, fun _ => go, fun n23 => mk3 ⟨l2, fun n24 => absurd n24 (by omega), fun _ => go⟩⟩⟩
/-- nothing to close -/
theorem r_175n {d : Nat} {Q : Int → qM → Prop} {tp B : List Int} {M0 : qM} {i : Nat} {S C : List Int} {o : Nat} {M : qM} (h : R_ng tp B M0 i S C o M) (hn : yT tp i ≠ 41 ∨ (mkO S ≠ 20 ∧ mkO S ≠ 23 ∧ mkO S ≠ 24))
    (K : ∀ M', R_ng tp B M0 i S C o M' → q_At q_m175 (q_WP q_Pr (d + 4)) Q 118 [(0, .inr (.inr 66))] [] M' 0 0) : q_At q_m175 (q_WP q_Pr (d + 4)) Q 0 [(0, .inr (.inr 66))] [] M 0 0 := by
  have s41 : ySg 41 := by unfold ySg; omega
  have hb := R_ng_b h
  obtain ⟨a, p0⟩ := h.2.1
  refine t_175_0 h.1.2.1 ⟨fun z => absurd (R_ps_ok p0) z, fun _ => r_152P h.1.2.1 p0 (fun M2 f2 l2 p2 => ⟨l2, fun z => K M2 (R_ng_t h f2 l2 p2 (Nat.le_refl _)), fun z => ?_⟩)⟩
  have nm := hn.resolve_left (fun q => q ((yT_sg s41).mpr z))
  have s2 := R_ng_t h f2 l2 p2 (Nat.le_refl _)
  have mk3 : ∀ {X : Int → qM → Prop}, X (mkO S) M2 → q_WP q_Pr (d + 4) 172 [.inr (.inr 66)] M2 X := fun hx => r_172 (d := d + 2) l2 s2.2.2.1 s2.2.2.2.1 (by omega) hx
  exact mk3 ⟨l2, fun q => absurd q nm.1, fun _ => mk3 ⟨l2, fun q => absurd q nm.2.1, fun _ => mk3 ⟨l2, fun _ => K M2 s2, fun q => absurd q nm.2.2⟩⟩⟩
/-- a sign is put on the pile -/
theorem push_x {d : Nat} {Q : Int → qM → Prop} {tp B : List Int} {M0 : qM} {i : Nat} {S C : List Int} {v : Int} {o : Nat} {M : qM} (hv : v < 16) (h : R_ng tp B M0 i S C o M) (hb : (S ++ B).length + C.length + 4 ≤ (ySq tp i).1) (K : ∀ M', R_ng tp B M0 i (v :: S) C o M' → Q 1 M') : ((0 ≤ (q_nm M 66 52) ∧ (q_nm M 66 52) < 2200) ∧ (∀ M7 : qM, M7 = q_wn M 107 (q_nm M 66 52) v → q_lay M7 → (∀ M8 : qM, M8 = q_wn M7 66 52 (w32 ((q_nm M7 66 52) + (1 : Int))) → q_lay M8 → (Q (1 : Int) M8)))) := by
  have hb1 := R_ng_b h
  have hc := h.2.2.1
  rw [hc.1]
  refine ⟨⟨by omega, by omega⟩, fun M7 e7 l7 M8 e8 l8 => K M8 ?_⟩
  rw [wn_ne e7 (by omega), hc.1, w32_id (x := ((S ++ B).length : Int) + 1) (by omega) (by omega)] at e8
  have f8 : fr Zy M M8 := fr_trans (fr_wn e7 (by unfold Zy; omega)) (fr_wn e8 (by unfold Zy; omega))
  refine R_ng_y h f8 l8 (R_cs_push (S := S ++ B) hc (fun a j q r => ?_) ?_ ?_ ?_) (by rw [List.cons_append, List.length_cons]; omega) (by rw [List.cons_append, opn_c0 hv]; exact h.2.2.2.2.2)
  · rw [wn_ne e8 (by omega), wn_ne e7 (by omega)]
  · rw [wn_ne e8 (by omega), wn_eq e7]
  · rw [wn_eq e8]
  · rw [wn_ne e8 (by omega), wn_ne e7 (by omega)]; exact hc.2.2.2.2
/-- the top goes to the codes -/
theorem drop_x {d : Nat} {X : Int → qM → Prop} {tp B : List Int} {M0 : qM} {i : Nat} {S C : List Int} {v : Int} {o : Nat} {M : qM} (hv : v < 16) (h : R_ng tp B M0 i (v :: S) C o M) (K : ∀ M', q_lay M' → R_ng tp B M0 i S (C ++ [v]) o M' → X 0 M') : q_WP q_Pr (d + 2) 170 [.inr (.inr 66)] M X := by
  have hb1 := R_ng_b h
  have hbd := h.2.2.2.2.1
  rw [List.cons_append, List.length_cons] at hb1 hbd
  refine r_170 (d := d) h.1.2.1 (S := S ++ B) (x := v) h.2.2.1 (by omega) (by omega) (fun M' f' l' c' => K M' l' (R_ng_y h f' l' c' ?_ ?_))
  · rw [List.length_append (as := C), List.length_cons, List.length_nil]; omega
  · have e := h.2.2.2.2.2
    rwa [List.cons_append, opn_c0 hv] at e
theorem r_175mul {d : Nat} {Q : Int → qM → Prop} {tp B : List Int} {M0 : qM} {i : Nat} {S : List Int} {v : Int} {o : Nat} (hv : v < 16) (hS : hdN iMl (S ++ B)) : ∀ (P C : List Int) (M : qM), (∀ x ∈ P, iMl x) → R_ng tp B M0 i (P ++ S) C o M → ((P ++ S) ++ B).length + C.length + 4 ≤ (ySq tp i).1 → (∀ M', R_ng tp B M0 i (v :: S) (C ++ P) o M' → Q 1 M') → q_At q_m175 (q_WP q_Pr (d + 4)) Q 158 [(0, .inr (.inr 66)), (1, .inl v)] [] M 0 0 := by
  intro P
  induction P with
  | nil =>
    intro C M hP h hb K
    have hb1 := R_ng_b h
    have l := h.1.2.1
    have hc := h.2.2.1
    refine t_175_158 l (r_169 (d := d + 3) l hc (by omega) (fun S' e => absurd (Or.inl rfl) (hS 3 (by rw [show S ++ B = 3 :: S' from e]; rfl))) (fun _ => ⟨l, fun z => absurd rfl z, fun _ => r_169 (d := d + 3) l hc (by omega) (fun S' e => absurd (Or.inr rfl) (hS 4 (by rw [show S ++ B = 4 :: S' from e]; rfl))) (fun _ => ⟨l, fun _ => push_x (d := d) hv h hb (fun M' q => K M' (by rw [List.append_nil]; exact q)), fun z => absurd rfl z⟩)⟩))
  | cons x P ih =>
    intro C M hP h hb K
    have hb1 := R_ng_b h
    have l := h.1.2.1
    have hc := h.2.2.1
    have hx := hP x List.mem_cons_self
    have dr : q_WP q_Pr (d + 4) 170 [.inr (.inr 66)] M (fun v3 M4 => q_lay M4 ∧ (q_At q_m175 (q_WP q_Pr (d + 4)) Q 158 [(0, .inr (.inr 66)), (1, .inl v)] [] M4 0 0)) := drop_x (d := d + 2) (by unfold iMl at hx; omega) h (fun M' l' h' => ⟨l', ih (C ++ [x]) M' (fun y hy => hP y (List.mem_cons_of_mem _ hy)) h' (by
      rw [List.cons_append, List.cons_append, List.length_cons] at hb
      rw [List.length_append (as := C), List.length_cons, List.length_nil]; omega) (fun M'' q => K M'' (by rw [List.append_assoc, List.singleton_append] at q; exact q))⟩)
    refine t_175_158 l (r_169 (d := d + 3) l hc (by omega) (fun S' e => ⟨l, fun _ => dr, fun z => absurd z (by decide)⟩) (fun n3 => ⟨l, fun z => absurd rfl z, fun _ => r_169 (d := d + 3) l hc (by omega) (fun S' e => ⟨l, fun z => absurd z (by decide), fun _ => dr⟩) (fun n4 => absurd hx ?_)⟩))
    have a3 := n3 x rfl
    have a4 := n4 x rfl
    unfold iMl; omega
theorem r_175add {d : Nat} {Q : Int → qM → Prop} {tp B : List Int} {M0 : qM} {i : Nat} {S : List Int} {v : Int} {o : Nat} (hv : v < 16) (hS : hdN iAr (S ++ B)) : ∀ (P C : List Int) (M : qM), (∀ x ∈ P, iAr x) → R_ng tp B M0 i (P ++ S) C o M → ((P ++ S) ++ B).length + C.length + 4 ≤ (ySq tp i).1 → (∀ M', R_ng tp B M0 i (v :: S) (C ++ P) o M' → Q 1 M') → q_At q_m175 (q_WP q_Pr (d + 4)) Q 243 [(0, .inr (.inr 66)), (1, .inl v)] [] M 0 0 := by
  intro P
  induction P with
  | nil =>
    intro C M hP h hb K
    have hb1 := R_ng_b h
    have l := h.1.2.1
    have hc := h.2.2.1
    have no : ∀ (y : Int) (S' : List Int), iAr y → S ++ B = y :: S' → False := fun y S' hy e => hS y (by rw [e]; rfl) hy
    refine t_175_243 l (r_169 (d := d + 3) l hc (by omega) (fun S' e => (no 3 S' (by unfold iAr; omega) e).elim) (fun _ => ⟨l, fun z => absurd rfl z, fun _ => r_169 (d := d + 3) l hc (by omega) (fun S' e => (no 4 S' (by unfold iAr; omega) e).elim) (fun _ => ⟨l, fun z => absurd rfl z, fun _ => r_169 (d := d + 3) l hc (by omega) (fun S' e => (no 1 S' (by unfold iAr; omega) e).elim) (fun _ => ⟨l, fun z => absurd rfl z, fun _ => r_169 (d := d + 3) l hc (by omega) (fun S' e => (no 2 S' (by unfold iAr; omega) e).elim) (fun _ => ⟨l, fun _ => push_x (d := d) hv h hb (fun M' q => K M' (by rw [List.append_nil]; exact q)), fun z => absurd rfl z⟩)⟩)⟩)⟩))
  | cons x P ih =>
    intro C M hP h hb K
    have hb1 := R_ng_b h
    have l := h.1.2.1
    have hc := h.2.2.1
    have hx := hP x List.mem_cons_self
    have dr : q_WP q_Pr (d + 4) 170 [.inr (.inr 66)] M (fun v3 M4 => q_lay M4 ∧ (q_At q_m175 (q_WP q_Pr (d + 4)) Q 243 [(0, .inr (.inr 66)), (1, .inl v)] [] M4 0 0)) := drop_x (d := d + 2) (by unfold iAr at hx; omega) h (fun M' l' h' => ⟨l', ih (C ++ [x]) M' (fun y hy => hP y (List.mem_cons_of_mem _ hy)) h' (by
      rw [List.cons_append, List.cons_append, List.length_cons] at hb
      rw [List.length_append (as := C), List.length_cons, List.length_nil]; omega) (fun M'' q => K M'' (by rw [List.append_assoc, List.singleton_append] at q; exact q))⟩)
    refine t_175_243 l (r_169 (d := d + 3) l hc (by omega) (fun S' e => ⟨l, fun _ => dr, fun z => absurd z (by decide)⟩) (fun n3 => ⟨l, fun z => absurd rfl z, fun _ => r_169 (d := d + 3) l hc (by omega) (fun S' e => ⟨l, fun _ => dr, fun z => absurd z (by decide)⟩) (fun n4 => ⟨l, fun z => absurd rfl z, fun _ => r_169 (d := d + 3) l hc (by omega) (fun S' e => ⟨l, fun _ => dr, fun z => absurd z (by decide)⟩) (fun n1 => ⟨l, fun z => absurd rfl z, fun _ => r_169 (d := d + 3) l hc (by omega) (fun S' e => ⟨l, fun z => absurd z (by decide), fun _ => dr⟩) (fun n2 => absurd hx ?_)⟩)⟩)⟩))
    have a3 := n3 x rfl
    have a4 := n4 x rfl
    have a1 := n1 x rfl
    have a2 := n2 x rfl
    unfold iAr; omega
theorem tape_at {tp : List Int} {i : Nat} {c : Int} {M : qM} {a : Nat} (hc : ySg c) (h : yT tp i = c) (p : R_ps tp (i + 1) a M) (e : q_nm M 66 2 = (yP tp i : Int) + 1) : (0 ≤ (w32 ((q_nm M 66 2) - (1 : Int))) ∧ (w32 ((q_nm M 66 2) - (1 : Int))) < 2100) ∧ q_nm M 67 (w32 ((q_nm M 66 2) - (1 : Int))) = c := by
  have h5 := R_ps_len p
  have h' := (yT_sg hc).mp h
  have lt := tb_lt (tp := tp) (p := yP tp i) (by rw [h']; unfold ySg at hc; omega)
  obtain ⟨e', g, _⟩ := p
  rw [e, w32_id (x := (yP tp i : Int) + 1 - 1) (by omega) (by omega), show (yP tp i : Int) + 1 - 1 = (yP tp i : Int) by omega]
  refine ⟨⟨by omega, by omega⟩, ?_⟩
  have q := g.1.2.1 (yP tp i) lt
  rw [Int.zero_add] at q
  rw [q, ← h', tb_in (by omega) (by omega)]
  rfl
theorem r_175o1 {d : Nat} {Q : Int → qM → Prop} {tp B : List Int} {M0 : qM} {i : Nat} {P S C : List Int} {o : Nat} {M : qM} (g : G_T tp) (hB : ∀ x ∈ B, 14 ≤ x) (ho : oM (yT tp i) = true) (hP : ∀ x ∈ P, iMl x) (hS : hdN iMl S) (h : R_ng tp B M0 i (P ++ S) C o M) (K : ∀ M', R_ng tp B M0 (i + 1) (trc (yT tp i) :: S) (C ++ P) o M' → Q 1 M') : q_At q_m175 (q_WP q_Pr (d + 4)) Q 118 [(0, .inr (.inr 66))] [] M 0 0 := by
  have hS' : hdN iMl (S ++ B) := hdN_app hS (fun x hx q => by have := hB x hx; unfold iMl at q; omega)
  have hbd := h.2.2.2.2.1
  obtain ⟨a, p0⟩ := h.2.1
  have l0 := h.1.2.1
  have lt := ySq_sl g (i := i) (by intro q; rw [q] at ho; exact absurd ho (by decide))
  unfold oM at ho
  rw [decide_eq_true_eq] at ho
  have s42 : ySg 42 := by unfold ySg; omega
  have s47 : ySg 47 := by unfold ySg; omega
  refine t_175_118 l0 (r_156P (d := d + 2) l0 s42 p0 (fun q M1 f1 l1 e1 p1 => ⟨l1, fun _ => ?_, fun z => absurd z (by decide)⟩) (fun q M1 f1 l1 p1 => ⟨l1, fun z => absurd rfl z, fun _ => r_156P (d := d + 2) l1 s47 p1 (fun q2 M2 f2 l2 e2 p2 => ⟨l2, fun z => absurd z (by decide), fun _ => ?_⟩) (fun q2 => absurd ho (by omega))⟩))
  · have t := tape_at s42 q p1 e1
    rw [t.2]
    refine ⟨t.1, fun z => absurd rfl z, fun _ => ?_⟩
    rw [q] at K
    exact r_175mul (d := d) (by decide) hS' P C M1 hP (R_ng_t h f1 l1 p1 (by omega)) (by omega) K
  · have t := tape_at s47 q2 p2 e2
    rw [t.2]
    refine ⟨t.1, fun _ => ?_, fun z => absurd z (by decide)⟩
    rw [q2] at K
    exact r_175mul (d := d) (by decide) hS' P C M2 hP (R_ng_t h (fr_trans f1 f2) l2 p2 (by omega)) (by omega) K
theorem r_175o2 {d : Nat} {Q : Int → qM → Prop} {tp B : List Int} {M0 : qM} {i : Nat} {P S C : List Int} {o : Nat} {M : qM} (g : G_T tp) (hB : ∀ x ∈ B, 14 ≤ x) (ho : oA (yT tp i) = true) (hP : ∀ x ∈ P, iAr x) (hS : hdN iAr S) (h : R_ng tp B M0 i (P ++ S) C o M) (K : ∀ M', R_ng tp B M0 (i + 1) (trc (yT tp i) :: S) (C ++ P) o M' → Q 1 M') : q_At q_m175 (q_WP q_Pr (d + 4)) Q 118 [(0, .inr (.inr 66))] [] M 0 0 := by
  have hS' : hdN iAr (S ++ B) := hdN_app hS (fun x hx q => by have := hB x hx; unfold iAr at q; omega)
  have hbd := h.2.2.2.2.1
  obtain ⟨a, p0⟩ := h.2.1
  have l0 := h.1.2.1
  have lt := ySq_sl g (i := i) (by intro q; rw [q] at ho; exact absurd ho (by decide))
  unfold oA at ho
  rw [decide_eq_true_eq] at ho
  have s42 : ySg 42 := by unfold ySg; omega
  have s47 : ySg 47 := by unfold ySg; omega
  have s43 : ySg 43 := by unfold ySg; omega
  have s45 : ySg 45 := by unfold ySg; omega
  refine t_175_118 l0 (r_156P (d := d + 2) l0 s42 p0 (fun q => absurd ho (by omega)) (fun _ M1 f1 l1 p1 => ⟨l1, fun z => absurd rfl z, fun _ => r_156P (d := d + 2) l1 s47 p1 (fun q => absurd ho (by omega)) (fun _ M2 f2 l2 p2 => ⟨l2, fun _ => r_156P (d := d + 2) l2 s43 p2 (fun q M3 f3 l3 e3 p3 => ⟨l3, fun _ => ?_, fun z => absurd z (by decide)⟩) (fun q M3 f3 l3 p3 => ⟨l3, fun z => absurd rfl z, fun _ => r_156P (d := d + 2) l3 s45 p3 (fun q4 M4 f4 l4 e4 p4 => ⟨l4, fun z => absurd z (by decide), fun _ => ?_⟩) (fun q4 => absurd ho (by omega))⟩), fun z => absurd rfl z⟩)⟩))
  · have t := tape_at s43 q p3 e3
    rw [t.2]
    refine ⟨t.1, fun z => absurd rfl z, fun _ => ?_⟩
    rw [q] at K
    exact r_175add (d := d) (by decide) hS' P C M3 hP (R_ng_t h (fr_trans f1 (fr_trans f2 f3)) l3 p3 (by omega)) (by omega) K
  · have t := tape_at s45 q4 p4 e4
    rw [t.2]
    refine ⟨t.1, fun _ => ?_, fun z => absurd z (by decide)⟩
    rw [q4] at K
    exact r_175add (d := d) (by decide) hS' P C M4 hP (R_ng_t h (fr_trans f1 (fr_trans f2 (fr_trans f3 f4))) l4 p4 (by omega)) (by omega) K
/-- no sign: a mark below -/
theorem r_175k {d : Nat} {Q : Int → qM → Prop} {tp B : List Int} {M0 : qM} {i : Nat} {P S C : List Int} {m : Int} {o : Nat} {M : qM} (g : G_T tp) (hm : 20 ≤ m ∧ m ≤ 24) (n1 : oM (yT tp i) = false) (n2 : oA (yT tp i) = false) (hP : ∀ x ∈ P, nMk x) (h : R_ng tp B M0 i (P ++ m :: S) C o M)
    (K1 : (m = 21 ∨ m = 22) → yT tp i = 44 → ∀ M', R_ng tp B M0 (i + 1) ((m + 2) :: S) (C ++ P) o M' → Q 1 M')
    (KF : ¬ ((m = 21 ∨ m = 22) ∧ yT tp i = 44) → ∀ M', R_F M0 1 (yP tp i) M' → Q 0 M') : q_At q_m175 (q_WP q_Pr (d + 4)) Q 118 [(0, .inr (.inr 66))] [] M 0 0 := by
  obtain ⟨a, p0⟩ := h.2.1
  have l0 := h.1.2.1
  have hb := R_ng_b h
  have hbd := h.2.2.2.2.1
  have mk : mkO (P ++ m :: S) = m := mkO_P hP hm
  have len : ((P ++ m :: S) ++ B).length = P.length + (S ++ B).length + 1 := by
    simp only [List.length_append, List.length_cons]; omega
  rw [len] at hb hbd
  unfold oM at n1
  unfold oA at n2
  rw [decide_eq_false_iff_not] at n1 n2
  have s42 : ySg 42 := by unfold ySg; omega
  have s47 : ySg 47 := by unfold ySg; omega
  have s43 : ySg 43 := by unfold ySg; omega
  have s45 : ySg 45 := by unfold ySg; omega
  have s44 : ySg 44 := by unfold ySg; omega
  refine t_175_118 l0 (r_156P (d := d + 2) l0 s42 p0 (fun q => absurd (Or.inl q) n1) (fun _ M1 f1 l1 p1 => ⟨l1, fun z => absurd rfl z, fun _ => r_156P (d := d + 2) l1 s47 p1 (fun q => absurd (Or.inr q) n1) (fun _ M2 f2 l2 p2 => ⟨l2, fun _ => r_156P (d := d + 2) l2 s43 p2 (fun q => absurd (Or.inl q) n2) (fun _ M3 f3 l3 p3 => ⟨l3, fun z => absurd rfl z, fun _ => r_156P (d := d + 2) l3 s45 p3 (fun q => absurd (Or.inr q) n2) (fun _ M4 f4 l4 p4 => ⟨l4, fun _ => ?_, fun z => absurd rfl z⟩)⟩), fun z => absurd rfl z⟩)⟩))
  have s4 := R_ng_t h (fr_trans f1 (fr_trans f2 (fr_trans f3 f4))) l4 p4 (Nat.le_refl _)
  have ln2 : ((P ++ m :: S) ++ B).length ≤ 2200 := by rw [len]; omega
  have mk3 : ∀ {X : Int → qM → Prop}, X m M4 → q_WP q_Pr (d + 4) 172 [.inr (.inr 66)] M4 X := fun hx => r_172 (d := d + 2) l4 s4.2.2.1 s4.2.2.2.1 ln2 (by rw [mk]; exact hx)
  have com : (m = 21 ∨ m = 22) → q_WP q_Pr (d + 4) 157 [.inr (.inr 66), .inl (44 : Int)] M4 (fun v11 M12 => q_lay M12 ∧ (((q_nm M12 66 5) = 0 → q_WP q_Pr (d + 4) 173 [.inr (.inr 66)] M12 (fun v13 M14 => q_lay M14 ∧ ((0 ≤ (w32 ((q_nm M14 66 52) - (1 : Int))) ∧ (w32 ((q_nm M14 66 52) - (1 : Int))) < 2200) ∧ ((0 ≤ (w32 ((q_nm M14 66 52) - (1 : Int))) ∧ (w32 ((q_nm M14 66 52) - (1 : Int))) < 2200) ∧ (∀ M15 : qM, M15 = q_wn M14 107 (w32 ((q_nm M14 66 52) - (1 : Int))) (w32 ((q_nm M14 107 (w32 ((q_nm M14 66 52) - (1 : Int)))) + (2 : Int))) → q_lay M15 → (Q (1 : Int) M15)))))) ∧ (¬ (q_nm M12 66 5) = 0 → (Q (0 : Int) M12)))) := fun hmm => by
    refine r_157P (d := d + 1) l4 s44 p4 (fun q M5 f5 l5 p5 => ⟨l5, fun _ => ?_, fun z => absurd (R_ps_ok p5) z⟩) (fun q M5 f5 l5 b5 => ⟨l5, fun z => ?_, fun _ => KF (fun w => q w.2) M5 (R_F_t s4 f5 l5 b5 (by decide))⟩)
    · have lt := ySq_sl g (i := i) (by rw [q]; decide)
      have c5 := R_cs_t s4.2.2.1 f5
      rw [List.append_assoc] at c5
      have b5 : q_nm M5 66 54 = B.length := (f5.2 _ _ (fun q => by have := q.2; omega)).trans s4.2.2.2.1
      refine r_173 (d := d + 1) l5 hm hP b5 c5 (by rw [← List.append_assoc, len]; omega) (fun M6 f6 l6 c6 => ?_)
      have t6 := q_L_top (x := m) (R := S ++ B) c6.2.1
      have w6 : q_nm M6 66 52 = (((S ++ B).length + 1 : Nat) : Int) := c6.1
      rw [w6, w32_id (x := (((S ++ B).length + 1 : Nat) : Int) - 1) (by omega) (by omega), show (((S ++ B).length + 1 : Nat) : Int) - 1 = ((S ++ B).length : Int) by omega, t6.1, w32_id (x := m + 2) (by omega) (by omega)]
      refine ⟨l6, ⟨by omega, by omega⟩, ⟨by omega, by omega⟩, fun M7 e7 l7 => K1 hmm q M7 ?_⟩
      have f7 : fr Zy M5 M7 := fr_trans f6 (fr_wn e7 (by unfold Zy; omega))
      have ope : o = opn ((m + 2) :: S ++ B) := by
        have e := h.2.2.2.2.2
        rw [List.append_assoc, opn_lo hP, List.cons_append, opn_c (by omega)] at e
        rw [List.cons_append, opn_c (by omega)]; exact e
      have k : ∀ j : Int, q_nm M7 66 j = q_nm M6 66 j := fun j => wn_ne e7 (by omega)
      refine ⟨⟨fr_trans s4.1.1 (fr_trans (Zt_Zx f5) (Zy_Zx f7)), l7, LT_Zx (LT_Zt s4.1.2.2 f5) (Zy_Zx f7)⟩, ⟨_, R_ps_y p5 f7⟩, ⟨?_, ?_, (k 50).trans c6.2.2.1, q_L_fr c6.2.2.2.1 (fun j _ _ => wn_ne e7 (by omega)), (k 53).trans c6.2.2.2.2⟩, (f7.2 _ _ (by unfold Zy; omega)).trans b5, ?_, ope⟩
      · rw [k, w6, List.cons_append, List.length_cons]
      · rw [List.cons_append, List.reverse_cons]
        refine q_L_snoc t6.2 (fun j a b => ?_) ?_
        · rw [List.length_reverse] at b; exact wn_ne e7 (by omega)
        · rw [List.length_reverse, Int.zero_add]; exact wn_eq e7
      · rw [List.cons_append, List.length_cons, List.length_append (as := C)]; omega
    · rw [b5.1] at z; exact absurd z (by decide)
  refine mk3 ⟨l4, fun e21 => com (Or.inl e21), fun n21 => mk3 ⟨l4, fun n22 => mk3 ⟨l4, fun z => absurd z (by omega), fun _ => ⟨fun z => absurd (R_ps_ok p4) z, fun _ => ?_⟩⟩, fun e22 => com (Or.inr e22)⟩⟩
  rw [R_ps_a p4]
  exact r_149 (d := d + 3) l4 (R_ps_ok p4) (fun M5 f5 l5 b5 => ⟨l5, KF (fun w => w.1.elim n21 n22) M5 (R_F_t s4 f5 l5 b5 (by decide))⟩)
/-- no sign, no mark: the sum ends -/
theorem r_175x {d : Nat} {Q : Int → qM → Prop} {tp B : List Int} {M0 : qM} {i : Nat} {S C : List Int} {o : Nat} {M : qM} (n1 : oM (yT tp i) = false) (n2 : oA (yT tp i) = false) (hP : ∀ x ∈ S, nMk x) (h : R_ng tp B M0 i S C o M)
    (K : ∀ M', R_ng tp B M0 i S C o M' → Q 0 M') : q_At q_m175 (q_WP q_Pr (d + 4)) Q 118 [(0, .inr (.inr 66))] [] M 0 0 := by
  obtain ⟨a, p0⟩ := h.2.1
  have l0 := h.1.2.1
  have hb := R_ng_b h
  have mk : mkO S = -1 := mkO_N hP
  unfold oM at n1
  unfold oA at n2
  rw [decide_eq_false_iff_not] at n1 n2
  have s42 : ySg 42 := by unfold ySg; omega
  have s47 : ySg 47 := by unfold ySg; omega
  have s43 : ySg 43 := by unfold ySg; omega
  have s45 : ySg 45 := by unfold ySg; omega
  refine t_175_118 l0 (r_156P (d := d + 2) l0 s42 p0 (fun q => absurd (Or.inl q) n1) (fun _ M1 f1 l1 p1 => ⟨l1, fun z => absurd rfl z, fun _ => r_156P (d := d + 2) l1 s47 p1 (fun q => absurd (Or.inr q) n1) (fun _ M2 f2 l2 p2 => ⟨l2, fun _ => r_156P (d := d + 2) l2 s43 p2 (fun q => absurd (Or.inl q) n2) (fun _ M3 f3 l3 p3 => ⟨l3, fun z => absurd rfl z, fun _ => r_156P (d := d + 2) l3 s45 p3 (fun q => absurd (Or.inr q) n2) (fun _ M4 f4 l4 p4 => ⟨l4, fun _ => ?_, fun z => absurd rfl z⟩)⟩), fun z => absurd rfl z⟩)⟩))
  have s4 := R_ng_t h (fr_trans f1 (fr_trans f2 (fr_trans f3 f4))) l4 p4 (Nat.le_refl _)
  have mk3 : ∀ {X : Int → qM → Prop}, X (-1) M4 → q_WP q_Pr (d + 4) 172 [.inr (.inr 66)] M4 X := fun hx => r_172 (d := d + 2) l4 s4.2.2.1 s4.2.2.2.1 (by omega) (by rw [mk]; exact hx)
  exact mk3 ⟨l4, fun z => absurd z (by decide), fun _ => mk3 ⟨l4, fun _ => mk3 ⟨l4, fun _ => K M4 s4, fun z => absurd rfl z⟩, fun z => absurd z (by decide)⟩⟩
end
