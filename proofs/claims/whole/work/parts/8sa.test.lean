section
/-! THE REFERENCE READS A TEST -/
theorem drop_b {d : Nat} {X : Int → qM → Prop} {tp : List Int} {M0 : qM} {i : Nat} {S C : List Int} {v : Int} {o : Nat} {M : qM} (hv : v < 16) (h : R_nb tp M0 i (v :: S) C o M) (K : ∀ M', q_lay M' → R_nb tp M0 i S (C ++ [v]) o M' → X 0 M') : q_WP q_Pr (d + 2) 170 [.inr (.inr 66)] M X := by
  have hb1 := R_nb_b h
  have hbd := h.2.2.2.1
  rw [List.length_cons] at hb1 hbd
  refine r_170 (d := d) h.1.2.1 h.2.2.1 (by omega) (by omega) (fun M' f' l' c' => K M' l' (R_nb_y h f' l' c' ?_ ?_))
  · rw [List.length_append, List.length_cons, List.length_nil]; omega
  · have e := h.2.2.2.2
    rwa [opn_c0 hv] at e
theorem push_b {Q : Int → qM → Prop} {tp : List Int} {M0 : qM} {i : Nat} {S C : List Int} {v : Int} {o : Nat} {M : qM} (hv : v < 16) (h : R_nb tp M0 i S C o M) (hb : S.length + C.length + 4 ≤ (ySq tp i).1) (K : ∀ M', R_nb tp M0 i (v :: S) C o M' → Q 1 M') : ((0 ≤ (q_nm M 66 52) ∧ (q_nm M 66 52) < 2200) ∧ (∀ M7 : qM, M7 = q_wn M 107 (q_nm M 66 52) v → q_lay M7 → (∀ M8 : qM, M8 = q_wn M7 66 52 (w32 ((q_nm M7 66 52) + (1 : Int))) → q_lay M8 → (Q (1 : Int) M8)))) := by
  have hb1 := R_nb_b h
  have hc := h.2.2.1
  rw [hc.1]
  refine ⟨⟨by omega, by omega⟩, fun M7 e7 l7 M8 e8 l8 => K M8 ?_⟩
  rw [wn_ne e7 (by omega), hc.1, w32_id (x := (S.length : Int) + 1) (by omega) (by omega)] at e8
  have f8 : fr Zy M M8 := fr_trans (fr_wn e7 (by unfold Zy; omega)) (fr_wn e8 (by unfold Zy; omega))
  refine R_nb_y h f8 l8 (R_cs_push (S := S) hc (fun a j q r => ?_) ?_ ?_ ?_) (by rw [List.length_cons]; omega) (by rw [opn_c0 hv]; exact h.2.2.2.2)
  · rw [wn_ne e8 (by omega), wn_ne e7 (by omega)]
  · rw [wn_ne e8 (by omega), wn_eq e7]
  · rw [wn_eq e8]
  · rw [wn_ne e8 (by omega), wn_ne e7 (by omega)]; exact hc.2.2.2.2
/-- NOTs go to the codes -/
theorem r_179l {d : Nat} {X : Int → qM → Prop} {tp : List Int} {M0 : qM} {i : Nat} {RH : Nat → List Int → List Int → Nat → Prop} {S0 : List Int} {o0 : Nat} (K : ∀ S' C' o' M', RH i S' C' o' → (∀ x ∈ S', x ∈ S0) → o' ≤ o0 → R_nb tp M0 i S' C' o' M' → X 0 M') : ∀ (S C : List Int) (o : Nat) (M : qM), (∀ x ∈ S, x ∈ S0) → o ≤ o0 → o ≤ 6 → hD RH i S C o → R_nb tp M0 i S C o M → q_At q_m179 (q_WP q_Pr (d + 2)) X 0 [(0, .inr (.inr 66))] [] M 0 0 := by
  intro S
  induction S with
  | nil =>
    intro C o M hS ho h6 hd h
    obtain ⟨a, p⟩ := h.2.1
    have hb := R_nb_b h
    exact t_179_0 h.1.2.1 ⟨fun z => absurd (R_ps_ok p) z, fun _ => r_169 (d := d + 1) h.1.2.1 h.2.2.1 (by omega) (fun S' e => absurd e (by simp)) (fun _ => ⟨h.1.2.1, fun _ => K _ _ _ M hd hS ho h, fun z => absurd rfl z⟩)⟩
  | cons x S ih =>
    intro C o M hS ho h6 hd h
    obtain ⟨a, p⟩ := h.2.1
    have hb := R_nb_b h
    have hbd := h.2.2.2.1
    rw [List.length_cons] at hb hbd
    have l := h.1.2.1
    refine t_179_0 l ⟨fun z => absurd (R_ps_ok p) z, fun _ => r_169 (d := d + 1) l h.2.2.1 (by rw [List.length_cons]; omega) (fun S' e => ⟨l, fun z => absurd z (by decide), fun _ M1 e1 l1 => ?_⟩) (fun n16 => ⟨l, fun _ => K _ _ _ M ?_ hS ho h, fun z => absurd rfl z⟩)⟩
    · have ex : x = 16 := (List.cons.inj e).1
      have eo := h.2.2.2.2
      rw [opn_c (by omega)] at eo
      have hd' : hD RH i S (C ++ [16]) (o - 1) := by
        have q : (if x = 16 then hD RH i S (C ++ [16]) (o - 1) else RH i (x :: S) C o) := hd
        rwa [if_pos ex] at q
      rw [R_cs_53 h.2.2.1, w32_id (x := (o : Int) - 1) (by omega) (by omega)] at e1
      have f1 : fr Zy M M1 := fr_wn e1 (by unfold Zy; omega)
      have k : ∀ a j : Int, ¬ (a = 66 ∧ j = 53) → q_nm M1 a j = q_nm M a j := fun a j q => wn_ne e1 q
      have c1 : R_cs (x :: S) C (o - 1) M1 := ⟨(k 66 52 (by omega)).trans h.2.2.1.1, q_L_fr h.2.2.1.2.1 (fun j _ _ => k 107 j (by omega)), (k 66 50 (by omega)).trans h.2.2.1.2.2.1, q_L_fr h.2.2.1.2.2.2.1 (fun j _ _ => k 106 j (by omega)), by rw [wn_eq e1]; omega⟩
      refine r_170 (d := d) l1 c1 (by omega) (by omega) (fun M2 f2 l2 c2 => ⟨l2, ih (C ++ [16]) (o - 1) M2 (fun y hy => hS y (List.mem_cons_of_mem _ hy)) (by omega) (by omega) hd' ?_⟩)
      rw [ex] at c2
      exact R_nb_y h (fr_trans f1 f2) l2 c2 (by rw [List.length_append, List.length_cons, List.length_nil]; omega) (by omega)
    · have q : (if x = 16 then hD RH i S (C ++ [16]) (o - 1) else RH i (x :: S) C o) := hd
      rwa [if_neg (n16 x rfl)] at q
/-- is a square bracket open? -/
theorem r_178l {d : Nat} {X : Int → qM → Prop} {S C : List Int} {o : Nat} {M : qM} (hl : q_lay M) (h : R_cs S C o M) (hb : S.length ≤ 2200) (K1 : 25 ∈ S → X 1 M) (K0 : 25 ∉ S → X 0 M) : ∀ n k : Nat, k + n = S.length → (∀ j, j < k → S.reverse.getD j 0 ≠ 25) → q_At q_m178 (q_WP q_Pr d) X 2 [(0, .inr (.inr 66)), (1, .inl (k : Int))] [] M 0 0 := by
  intro n
  induction n with
  | zero =>
    intro k hk hj
    refine t_178_2 hl ?_
    rw [h.1]
    refine ⟨fun _ => K0 (fun q => ?_), fun z => absurd z (by omega)⟩
    obtain ⟨j, hj1, hj2⟩ := List.mem_iff_getElem.mp (List.mem_reverse.mpr q)
    have := hj j (by rw [List.length_reverse] at hj1; omega)
    rw [getD_el hj1] at this
    exact this hj2
  | succ n ih =>
    intro k hk hj
    have e := h.2.1 k (by rw [List.length_reverse]; omega)
    rw [Int.zero_add] at e
    refine t_178_2 hl ?_
    rw [h.1, e, w32_id (x := (k : Int) + 1) (by omega) (by omega)]
    refine ⟨fun z => absurd z (by omega), fun _ => ⟨⟨by omega, by omega⟩, fun z => ?_, fun z => K1 ?_⟩⟩
    · exact ih (k + 1) (by omega) (fun j hj' => by
        by_cases q : j = k
        · rw [q]; exact z
        · exact hj j (by omega))
    · have hk' : k < S.reverse.length := by rw [List.length_reverse]; omega
      rw [getD_el hk'] at z
      exact List.mem_reverse.mp (List.mem_iff_getElem.mpr ⟨k, hk', z⟩)
theorem r_178 {d : Nat} {X : Int → qM → Prop} {S C : List Int} {o : Nat} {M : qM} (hl : q_lay M) (h : R_cs S C o M) (hb : S.length ≤ 2200) (K1 : 25 ∈ S → X 1 M) (K0 : 25 ∉ S → X 0 M) : q_WP q_Pr (d + 1) 178 [.inr (.inr 66)] M X :=
  q_enter (t_178_0 hl (r_178l hl h hb K1 K0 S.length 0 (by omega) (fun j hj => absurd hj (Nat.not_lt_zero j))))
/-- a closing square bracket that closes -/
theorem r_181sq {d : Nat} {Q : Int → qM → Prop} {tp : List Int} {M0 : qM} {i : Nat} {S : List Int} {o : Nat} {RH : Nat → List Int → List Int → Nat → Prop} (ho : o + 1 ≤ 6) (K : ∀ S' C' o' M', RH i S' C' o' → (∀ x ∈ S', x ∈ S) → o' ≤ o → R_nb tp M0 i S' C' o' M' → q_At q_m181 (q_WP q_Pr (d + 4)) Q 0 [(0, .inr (.inr 66))] [] M' 0 0) : ∀ (P C : List Int) (M : qM), (∀ x ∈ P, x = 14 ∨ x = 15) → hD RH i S (C ++ P) o → R_nb tp M0 i (P ++ 25 :: S) C (o + 1) M → q_At q_m181 (q_WP q_Pr (d + 4)) Q 33 [(0, .inr (.inr 66))] [] M 0 0 := by
  intro P
  induction P with
  | nil =>
    intro C M hP hd h
    rw [List.nil_append] at h
    rw [List.append_nil] at hd
    have hb := R_nb_b h
    have hbd := h.2.2.2.1
    rw [List.length_cons] at hb hbd
    have l := h.1.2.1
    have eo := h.2.2.2.2
    rw [opn_c (by omega)] at eo
    refine t_181_33 l (r_169 (d := d + 3) l h.2.2.1 (by rw [List.length_cons]; omega) (fun S' e => ⟨l, fun _ M1 e1 l1 M2 e2 l2 => ?_, fun z => absurd z (by decide)⟩) (fun n => absurd rfl (n 25 rfl)))
    have t := q_L_top h.2.2.1.2.1
    have w : q_nm M 66 52 = ((S.length + 1 : Nat) : Int) := h.2.2.1.1
    rw [w, w32_id (x := ((S.length + 1 : Nat) : Int) - 1) (by omega) (by omega), show ((S.length + 1 : Nat) : Int) - 1 = (S.length : Int) by omega] at e1
    rw [wn_ne e1 (by omega), R_cs_53 h.2.2.1, w32_id (x := ((o + 1 : Nat) : Int) - 1) (by omega) (by omega), show ((o + 1 : Nat) : Int) - 1 = (o : Int) by omega] at e2
    have f2 : fr Zy M M2 := fr_trans (fr_wn e1 (by unfold Zy; omega)) (fr_wn e2 (by unfold Zy; omega))
    have k : ∀ a j : Int, ¬ (a = 66 ∧ (j = 52 ∨ j = 53)) → q_nm M2 a j = q_nm M a j := fun a j q => by rw [wn_ne e2 (by omega), wn_ne e1 (by omega)]
    have c2 : R_cs S C o M2 := ⟨by rw [wn_ne e2 (by omega), wn_eq e1], q_L_fr t.2 (fun j _ _ => k 107 j (by omega)), (k 66 50 (by omega)).trans h.2.2.1.2.2.1, q_L_fr h.2.2.1.2.2.2.1 (fun j _ _ => k 106 j (by omega)), wn_eq e2⟩
    have h2 := R_nb_y h f2 l2 c2 (by omega) (by omega)
    exact q_enter (r_179l (d := d + 1) (RH := RH) (S0 := S) (o0 := o) (fun S' C' o' M' a b c r => ⟨r.1.2.1, K S' C' o' M' a b c r⟩) S C o M2 (fun x hx => hx) (Nat.le_refl _) (by omega) hd h2)
  | cons x P ih =>
    intro C M hP hd h
    rw [List.cons_append] at h
    have hb := R_nb_b h
    have l := h.1.2.1
    have hx := hP x List.mem_cons_self
    refine t_181_33 l (r_169 (d := d + 3) l h.2.2.1 (by omega) (fun S' e => absurd (List.cons.inj e).1 (by omega)) (fun n => ⟨l, fun z => absurd rfl z, fun _ => drop_b (d := d + 2) (by omega) h (fun M' l' h' => ⟨l', ih (C ++ [x]) M' (fun y hy => hP y (List.mem_cons_of_mem _ hy)) (by rw [List.append_assoc, List.singleton_append]; exact hd) h'⟩)⟩))
theorem r_181and {d : Nat} {Q : Int → qM → Prop} {tp : List Int} {M0 : qM} {i : Nat} {S : List Int} {o : Nat} (hS : hdN (fun x => x = 14) S) : ∀ (P C : List Int) (M : qM), (∀ x ∈ P, x = 14) → R_nb tp M0 i (P ++ S) C o M → (P ++ S).length + C.length + 4 ≤ (ySq tp i).1 → (∀ M', R_nb tp M0 i (14 :: S) (C ++ P) o M' → Q 1 M') → q_At q_m181 (q_WP q_Pr (d + 4)) Q 87 [(0, .inr (.inr 66))] [] M 0 0 := by
  intro P
  induction P with
  | nil =>
    intro C M hP h hb K
    rw [List.nil_append] at h hb
    have hb1 := R_nb_b h
    have l := h.1.2.1
    exact t_181_87 l (r_169 (d := d + 3) l h.2.2.1 (by omega) (fun S' e => absurd rfl (hS 14 (by rw [e]; rfl))) (fun n => ⟨l, fun _ => push_b (by decide) h hb (fun M' q => K M' (by rw [List.append_nil]; exact q)), fun z => absurd rfl z⟩))
  | cons x P ih =>
    intro C M hP h hb K
    rw [List.cons_append] at h hb
    have hb1 := R_nb_b h
    have l := h.1.2.1
    have hx := hP x List.mem_cons_self
    refine t_181_87 l (r_169 (d := d + 3) l h.2.2.1 (by omega) (fun S' e => ⟨l, fun z => absurd z (by decide), fun _ => drop_b (d := d + 2) (by omega) h (fun M' l' h' => ⟨l', ih (C ++ [x]) M' (fun y hy => hP y (List.mem_cons_of_mem _ hy)) h' (by
      rw [List.length_cons] at hb
      rw [List.length_append (as := C), List.length_cons, List.length_nil]; omega) (fun M2 q => K M2 (by rw [List.append_assoc, List.singleton_append] at q; exact q))⟩)⟩) (fun n => absurd hx (n x rfl)))
theorem r_181or {d : Nat} {Q : Int → qM → Prop} {tp : List Int} {M0 : qM} {i : Nat} {S : List Int} {o : Nat} (hS : hdN (fun x => x = 14 ∨ x = 15) S) : ∀ (P C : List Int) (M : qM), (∀ x ∈ P, x = 14 ∨ x = 15) → R_nb tp M0 i (P ++ S) C o M → (P ++ S).length + C.length + 4 ≤ (ySq tp i).1 → (∀ M', R_nb tp M0 i (15 :: S) (C ++ P) o M' → Q 1 M') → q_At q_m181 (q_WP q_Pr (d + 4)) Q 137 [(0, .inr (.inr 66))] [] M 0 0 := by
  intro P
  induction P with
  | nil =>
    intro C M hP h hb K
    rw [List.nil_append] at h hb
    have hb1 := R_nb_b h
    have l := h.1.2.1
    exact t_181_137 l (r_169 (d := d + 3) l h.2.2.1 (by omega) (fun S' e => absurd (Or.inl rfl) (hS 14 (by rw [e]; rfl))) (fun n => ⟨l, fun z => absurd rfl z, fun _ => r_169 (d := d + 3) l h.2.2.1 (by omega) (fun S' e => absurd (Or.inr rfl) (hS 15 (by rw [e]; rfl))) (fun n2 => ⟨l, fun _ => push_b (by decide) h hb (fun M' q => K M' (by rw [List.append_nil]; exact q)), fun z => absurd rfl z⟩)⟩))
  | cons x P ih =>
    intro C M hP h hb K
    rw [List.cons_append] at h hb
    have hb1 := R_nb_b h
    have l := h.1.2.1
    have hx := hP x List.mem_cons_self
    have dr : q_WP q_Pr (d + 4) 170 [.inr (.inr 66)] M (fun v3 M4 => q_lay M4 ∧ (q_At q_m181 (q_WP q_Pr (d + 4)) Q 137 [(0, .inr (.inr 66))] [] M4 0 0)) := drop_b (d := d + 2) (by omega) h (fun M' l' h' => ⟨l', ih (C ++ [x]) M' (fun y hy => hP y (List.mem_cons_of_mem _ hy)) h' (by
      rw [List.length_cons] at hb
      rw [List.length_append (as := C), List.length_cons, List.length_nil]; omega) (fun M2 q => K M2 (by rw [List.append_assoc, List.singleton_append] at q; exact q))⟩)
    exact t_181_137 l (r_169 (d := d + 3) l h.2.2.1 (by omega) (fun S' e => ⟨l, fun _ => dr, fun z => absurd z (by decide)⟩) (fun n => ⟨l, fun z => absurd rfl z, fun _ => r_169 (d := d + 3) l h.2.2.1 (by omega) (fun S' e => ⟨l, fun z => absurd z (by decide), fun _ => dr⟩) (fun n2 => absurd hx (fun q => q.elim (n x rfl) (n2 x rfl)))⟩))
theorem r_181n {d : Nat} {Q : Int → qM → Prop} {tp : List Int} {M0 : qM} {i : Nat} {S C : List Int} {o : Nat} {M : qM} (h : R_nb tp M0 i S C o M) (hn : yT tp i ≠ 93 ∨ 25 ∉ S) (K : ∀ M', R_nb tp M0 i S C o M' → q_At q_m181 (q_WP q_Pr (d + 4)) Q 76 [(0, .inr (.inr 66))] [] M' 0 0) : q_At q_m181 (q_WP q_Pr (d + 4)) Q 0 [(0, .inr (.inr 66))] [] M 0 0 := by
  have s93 : ySg 93 := by unfold ySg; omega
  have hb := R_nb_b h
  obtain ⟨a, p⟩ := h.2.1
  refine t_181_0 h.1.2.1 ⟨fun z => absurd (R_ps_ok p) z, fun _ => r_152P h.1.2.1 p (fun M2 f2 l2 p2 => ?_)⟩
  have h2 := R_nb_t h f2 l2 p2 (Nat.le_refl _)
  refine ⟨l2, fun z => K M2 h2, fun z => r_178 (d := d + 3) l2 h2.2.2.1 (by omega) (fun q => ?_) (fun q => ⟨l2, fun _ => K M2 h2, fun w => absurd rfl w⟩)⟩
  exact absurd (hn.resolve_left (fun w => w ((yT_sg s93).mpr z))) (fun w => w q)
theorem r_181c {d : Nat} {Q : Int → qM → Prop} {tp : List Int} {M0 : qM} {i : Nat} {P S C : List Int} {o : Nat} {M : qM} {RH : Nat → List Int → List Int → Nat → Prop} (g : G_T tp) (ho : o + 1 ≤ 6) (e93 : yT tp i = 93) (hP : ∀ x ∈ P, x = 14 ∨ x = 15) (hd : hD RH (i + 1) S (C ++ P) o) (h : R_nb tp M0 i (P ++ 25 :: S) C (o + 1) M) (K : ∀ S' C' o' M', RH (i + 1) S' C' o' → (∀ x ∈ S', x ∈ S) → o' ≤ o → R_nb tp M0 (i + 1) S' C' o' M' → q_At q_m181 (q_WP q_Pr (d + 4)) Q 0 [(0, .inr (.inr 66))] [] M' 0 0) : q_At q_m181 (q_WP q_Pr (d + 4)) Q 0 [(0, .inr (.inr 66))] [] M 0 0 := by
  have s93 : ySg 93 := by unfold ySg; omega
  have hb := R_nb_b h
  have lt := ySq_sl g (i := i) (by rw [e93]; decide)
  obtain ⟨a, p⟩ := h.2.1
  refine t_181_0 h.1.2.1 ⟨fun z => absurd (R_ps_ok p) z, fun _ => r_152P h.1.2.1 p (fun M2 f2 l2 p2 => ?_)⟩
  have h2 := R_nb_t h f2 l2 p2 (Nat.le_refl _)
  refine ⟨l2, fun z => absurd ((yT_sg s93).mp e93) z, fun z => r_178 (d := d + 3) l2 h2.2.2.1 (by omega) (fun q => ⟨l2, fun w => absurd w (by decide), fun _ M3 e3 l3 => ?_⟩) (fun q => absurd (List.mem_append_right P List.mem_cons_self) q)⟩
  have f3 : fr Zt M2 M3 := fr_wn e3 ⟨rfl, by omega⟩
  exact r_181sq (d := d) (RH := RH) ho K P C M3 hP hd (R_nb_t h2 f3 l3 (R_ps_step s93 e93 p2 e3) (by omega))
/-- behind the closing brackets -/
theorem r_181t {d : Nat} {Q : Int → qM → Prop} {tp : List Int} {M0 : qM} {i : Nat} {S C : List Int} {o : Nat} {M : qM} (g : G_T tp) (h : R_nb tp M0 i S C o M)
    (KA : yT tp i = 11 → ∀ M', R_nb tp M0 (i + 1) S C o M' → S.length + C.length + 4 ≤ (ySq tp (i + 1)).1 → q_At q_m181 (q_WP q_Pr (d + 4)) Q 87 [(0, .inr (.inr 66))] [] M' 0 0)
    (KO : yT tp i = 10 → ∀ M', R_nb tp M0 (i + 1) S C o M' → S.length + C.length + 4 ≤ (ySq tp (i + 1)).1 → q_At q_m181 (q_WP q_Pr (d + 4)) Q 137 [(0, .inr (.inr 66))] [] M' 0 0)
    (KF : yT tp i ≠ 11 → yT tp i ≠ 10 → 25 ∈ S → ∀ M', R_G M0 1 (yP tp i) M' → Q 0 M')
    (KX : yT tp i ≠ 11 → yT tp i ≠ 10 → 25 ∉ S → ∀ M', R_nb tp M0 i S C o M' → Q 0 M') : q_At q_m181 (q_WP q_Pr (d + 4)) Q 76 [(0, .inr (.inr 66))] [] M 0 0 := by
  have hb := R_nb_b h
  have hbd := h.2.2.2.1
  obtain ⟨a, p⟩ := h.2.1
  refine t_181_76 h.1.2.1 (r_154 (d := d + 1) (n := 11) h.1.2.1 rfl (by decide) h.1.2.2 p (fun q M1 f1 l1 p1 => ⟨l1, fun z => absurd z (by decide), fun _ => ?_⟩) (fun q11 M1 f1 l1 p1 => ⟨l1, fun _ => r_154 (d := d + 1) (n := 10) l1 rfl (by decide) (LT_Zt h.1.2.2 f1) p1 (fun q M2 f2 l2 p2 => ⟨l2, fun z => absurd z (by decide), fun _ => ?_⟩) (fun q10 M2 f2 l2 p2 => ⟨l2, fun _ => ⟨fun z => absurd (R_ps_ok p2) z, fun _ => ?_⟩, fun z => absurd rfl z⟩), fun z => absurd rfl z⟩))
  · have e : yT tp i = 11 := q
    have lt := ySq_sl g (i := i) (by rw [e]; decide)
    exact KA e M1 (R_nb_t h f1 l1 p1 (by omega)) (by omega)
  · have e : yT tp i = 10 := q
    have lt := ySq_sl g (i := i) (by rw [e]; decide)
    exact KO e M2 (R_nb_t h (fr_trans f1 f2) l2 p2 (by omega)) (by omega)
  · have h2 := R_nb_t h (fr_trans f1 f2) l2 p2 (Nat.le_refl _)
    have n11 : yT tp i ≠ 11 := q11
    have n10 : yT tp i ≠ 10 := q10
    refine r_178 (d := d + 3) l2 h2.2.2.1 (by omega) (fun q => ⟨l2, fun z => absurd z (by decide), fun _ => ?_⟩) (fun q => ⟨l2, fun _ => KX n11 n10 q M2 h2, fun z => absurd rfl z⟩)
    rw [R_ps_a p2]
    exact r_149 (d := d + 3) l2 (R_ps_ok p2) (fun M3 f3 l3 b3 => ⟨l3, KF n11 n10 q M3 (R_G_t h2 f3 l3 b3 (by decide))⟩)
end
