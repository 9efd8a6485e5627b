section
theorem c_255 {d : Nat} {P : Int → qM → Prop} {M : qM} {a b : Int} (ha : -1000000 ≤ a ∧ a ≤ 1000000) (hb : -1000000 ≤ b ∧ b ≤ 1000000) (h0 : b ≠ 0) (K : P (fl a b) M) : q_WP q_Pr (d + 1) 255 [.inr (.inl a), .inr (.inl b)] M P := by
  have tr := tdiv_rng ha h0
  have lx := q_lxor_neg (x := a) (y := b) (by omega) (by omega)
  have dm := Int.mul_tdiv_add_tmod a b
  refine q_enter (s_255_0 ?_)
  have pr : w64 (a.tdiv b * b) = a - a.tmod b := by
    have : a.tdiv b * b = a - a.tmod b := by rw [Int.mul_comm]; omega
    rw [this]
    have h1 : (a.tmod b).natAbs ≤ a.natAbs := by rw [Int.natAbs_tmod]; exact Nat.mod_le _ _
    exact w64_id (by omega) (by omega)
  rw [w64_id (x := a.tdiv b) (by omega) (by omega), pr, w64_id (x := a.tdiv b - 1) (by omega) (by omega)]
  unfold fl at K
  rw [if_neg h0] at K
  refine ⟨h0, fun z => ?_, fun z => ⟨fun y => ?_, fun y => ?_⟩⟩
  · have := q_lc_nn z
    rw [if_pos (Or.inr (by
      have q : ¬ q_lxor a b < 0 := by omega
      exact Classical.byContradiction fun w => q (lx.mpr w)))] at K; exact K
  · have := q_lc_z y
    rw [if_pos (Or.inl (by omega))] at K; exact K
  · have q1 := q_lc_nz y
    have q2 := lx.mp (q_lc_neg z)
    rw [if_neg (by rintro (w | w); · omega
                   · exact q2 w)] at K; exact K
theorem c_2 {d : Nat} {P : Int → qM → Prop} {M : qM} {t : Int} (hl : q_lay M) (K1 : (1000 ≤ t ∨ (13 ≤ t ∧ t ≤ 21)) → P 1 M) (K0 : ¬ (1000 ≤ t ∨ (13 ≤ t ∧ t ≤ 21)) → P 0 M) : q_WP q_Pr (d + 1) 2 [.inl t] M P :=
  q_enter (t_2_0 hl ⟨fun z => K1 (by omega), fun z => ⟨fun y => K0 (by omega), fun y => ⟨fun x => K0 (by omega), fun x => K1 (by omega)⟩⟩⟩)
/-- the facts stand in the machine -/
def C_F (F : Int → Int) (M : qM) : Prop := (F 13 = 1 ∧ q_nm M 16 7 = F 14) ∧ ∀ t, 15 ≤ t → t ≤ 21 → q_nm M 16 (t - 15) = F t
theorem c_3 {d : Nat} {P : Int → qM → Prop} {M : qM} {t : Int} {F : Int → Int} (hl : q_lay M) (hF : C_F F M) (ht : (1000 ≤ t ∧ t ≤ 10999) ∨ (13 ≤ t ∧ t ≤ 21)) (K : P (pv F t) M) : q_WP q_Pr (d + 1) 3 [.inr (.inr 15), .inl t] M P := by
  unfold pv at K
  refine q_enter (t_3_0 hl ⟨fun z => ⟨fun y => ⟨fun x => ?_, fun x => ?_⟩, fun y => ⟨fun x => absurd x (by omega), fun x => ?_⟩⟩, fun z => ?_⟩)
  · rw [if_neg (by omega), show t = 13 by omega, hF.1.1] at K; exact K
  · rw [if_neg (by omega), x, ← hF.1.2] at K; exact K
  · rw [if_neg (by omega), ← hF.2 t y x] at K
    rw [w32_id (x := t - 15) (by omega) (by omega)]; exact ⟨by omega, K⟩
  · rw [if_pos z] at K
    rw [w32_id (x := t - 1000) (by omega) (by omega)]; exact K
theorem mul_rng {a b : Int} (ha : -1000000 ≤ a ∧ a ≤ 1000000) (hb : -1000000 ≤ b ∧ b ≤ 1000000) : -1000000000000 ≤ a * b ∧ a * b ≤ 1000000000000 := by
  have h : (a * b).natAbs ≤ 1000000 * 1000000 := by rw [Int.natAbs_mul]; exact Nat.mul_le_mul (by omega) (by omega)
  omega
theorem c_4 {d : Nat} {P : Int → qM → Prop} {M : qM} {t a b : Int} (hl : q_lay M) (ha : -1000000 ≤ a ∧ a ≤ 1000000) (hb : -1000000 ≤ b ∧ b ≤ 1000000) (K : P (jn t a b) M) : q_WP q_Pr (d + 2) 4 [.inl t, .inr (.inl a), .inr (.inl b)] M P := by
  have mr := mul_rng ha hb
  unfold jn at K
  refine q_enter (t_4_0 hl ?_)
  rw [w64_id (x := a * b) (by omega) (by omega), w64_id (x := a + b) (by omega) (by omega), w64_id (x := a - b) (by omega) (by omega)]
  refine ⟨fun z => ?_, fun z1 => ⟨fun z => ?_, fun z2 => ⟨fun z => ?_, fun z3 => ⟨fun z => ?_, fun z4 => ⟨fun z => ?_, fun z5 => ⟨fun z => ⟨fun y => ?_, fun y => ?_⟩, fun z6 => ⟨fun z => ⟨fun y => ?_, fun y => ?_⟩, fun z7 => ⟨fun z => ⟨fun y => ?_, fun y => ?_⟩, fun z8 => ⟨fun z => ⟨fun y => ?_, fun y => ?_⟩, fun z9 => ?_⟩⟩⟩⟩⟩⟩⟩⟩⟩
  · rw [if_pos (Or.inl z)] at K; exact K
  · rw [if_pos (Or.inr z)] at K; exact K
  · rw [if_neg (by omega), if_pos z] at K; exact K
  · rw [if_neg (by omega), if_neg z3, if_pos z] at K; exact K
  · rw [if_neg (by omega), if_neg z3, if_neg z4, if_pos z] at K; exact K
  · rw [if_neg (by omega), if_neg z3, if_neg z4, if_neg z5, if_pos z] at K
    exact c_255 ha hb (q_lc_nz y) ⟨hl, K⟩
  · rw [if_neg (by omega), if_neg z3, if_neg z4, if_neg z5, if_pos z, fl, if_pos (q_lc_z y)] at K; exact K
  · rw [if_neg (by omega), if_neg z3, if_neg z4, if_neg z5, if_neg z6, if_pos z, if_neg (by have := q_lc_nn y; omega)] at K; exact K
  · rw [if_neg (by omega), if_neg z3, if_neg z4, if_neg z5, if_neg z6, if_pos z, if_pos (q_lc_neg y)] at K; exact K
  · rw [if_neg (by omega), if_neg z3, if_neg z4, if_neg z5, if_neg z6, if_neg z7, if_pos z, if_neg (q_lc_nz y)] at K; exact K
  · rw [if_neg (by omega), if_neg z3, if_neg z4, if_neg z5, if_neg z6, if_neg z7, if_pos z, if_pos (q_lc_z y)] at K; exact K
  · rw [if_neg (by omega), if_neg z3, if_neg z4, if_neg z5, if_neg z6, if_neg z7, if_neg z8, if_pos z, if_neg (by have := q_lc_le y; omega)] at K; exact K
  · rw [if_neg (by omega), if_neg z3, if_neg z4, if_neg z5, if_neg z6, if_neg z7, if_neg z8, if_pos z, if_pos (q_lc_pos y)] at K; exact K
  · rw [if_neg (by omega), if_neg z3, if_neg z4, if_neg z5, if_neg z6, if_neg z7, if_neg z8, if_neg z9] at K; exact K
/-- a stack in a cell, its top first -/
def q_stk (x : Int) (M : qM) : List Int → Prop
  | [] => True
  | v :: r => q_nm M x r.length = v ∧ q_stk x M r
theorem q_stk_fr {x : Int} {M M' : qM} : ∀ {st : List Int}, q_stk x M st → (∀ j, 0 ≤ j → j < st.length → q_nm M' x j = q_nm M x j) → q_stk x M' st
  | [], _, _ => trivial
  | v :: r, h, k => ⟨(k _ (by omega) (by rw [List.length_cons]; omega)).trans h.1, q_stk_fr h.2 (fun j a b => k j a (by rw [List.length_cons]; omega))⟩
theorem tys_cases {t : Int} {s s' : List Bool} (h : tys t s = some s') : (((1000 ≤ t ∧ t ≤ 10999) ∨ (13 ≤ t ∧ t ≤ 21))) ∨ (t = 12 ∧ ∃ r, s = true :: r) ∨ ((t = 10 ∨ t = 11 ∨ t = 22 ∨ t = 23 ∨ t = 42 ∨ t = 43 ∨ t = 45 ∨ t = 47 ∨ t = 60 ∨ t = 61 ∨ t = 62) ∧ ∃ b a r, s = b :: a :: r) := by
  unfold tys at h
  split at h
  · exact Or.inl (by omega)
  · split at h
    · exact Or.inl (by omega)
    · split at h
      · split at h
        · rename_i r; exact Or.inr (Or.inl ⟨by assumption, r, rfl⟩)
        · exact absurd h (by simp)
      · split at h
        · split at h
          · rename_i r; exact Or.inr (Or.inr ⟨by omega, true, true, r, rfl⟩)
          · exact absurd h (by simp)
        · split at h
          · split at h
            · rename_i r; exact Or.inr (Or.inr ⟨by omega, false, false, r, rfl⟩)
            · exact absurd h (by simp)
          · split at h
            · split at h
              · rename_i r; exact Or.inr (Or.inr ⟨by omega, false, false, r, rfl⟩)
              · exact absurd h (by simp)
            · exact absurd h (by simp)
theorem okV_rng {b : Bool} {x : Int} (h : okV b x) : -1000000 ≤ x ∧ x ≤ 1000000 := by
  cases b
  · exact h
  · have h1 : x = 0 ∨ x = 1 := h
    omega
theorem q_L_cons {M : qM} {a o v : Int} {l : List Int} (h : q_L M a o (v :: l)) : q_nm M a o = v ∧ q_L M a (o + 1) l := by
  refine ⟨?_, fun i hi => ?_⟩
  · have := h 0 (by simp); rwa [show o + ((0 : Nat) : Int) = o by omega] at this
  · have := h (i + 1) (by simp; omega)
    rw [show o + 1 + (i : Int) = o + ((i + 1 : Nat) : Int) by omega]; exact this
theorem c_1l {d : Nat} {P : Int → qM → Prop} {M0 : qM} {x to : Int} {F : Int → Int} {c s : Nat} (hl : q_lay M0) (hF : okF F) (hx : q_kd M0 x = 14 ∧ x ≠ 17) (ht : to ≤ q_ln M0 x) (ht2 : to ≤ 100000) (hC : C_F F M0) (sf : List Bool) (stf : List Int) (K : ∀ M', fr (fun a _ => a = 17) M0 M' → P (stf.headD 0) M') : ∀ (cd : List Int) (i : Int) (M : qM) (ty : List Bool) (st : List Int), 0 ≤ i → i + cd.length = to → fr (fun a _ => a = 17) M0 M → q_L M x i cd → stv ty st → tyr cd ty = some sf → st.length ≤ 100 → q_stk 17 M st → evs F cd st = stf → q_At q_m1 (q_WP q_Pr (d + 2)) P 10 [(0, .inr (.inr 15)), (1, .inr (.inr x)), (3, .inl to), (4, .inl (st.length : Int)), (5, .inl i)] [] M c s := by
  intro cd
  induction cd with
  | nil =>
    intro i M ty st hi he hf hL hv hty hsl hst hev
    have l := fr_lay hf hl
    refine t_1_10 (d := d + 1) l ⟨fun _ => ?_, fun z => absurd z (by rw [List.length_nil] at he; omega)⟩
    have e2 : st = stf := hev
    subst e2
    refine t_1_164 l ?_
    rw [w32_id (x := (st.length : Int) - 1) (by omega) (by omega)]
    cases st with
    | nil => exact ⟨fun z => absurd rfl z, fun _ => t_1_182 l (K M hf)⟩
    | cons v r =>
      rw [List.length_cons] at hsl ⊢
      refine ⟨fun _ => ⟨by omega, t_1_182 l ?_⟩, fun z => absurd z (by omega)⟩
      rw [show ((r.length + 1 : Nat) : Int) - 1 = r.length by omega, hst.1]
      exact K M hf
  | cons t cd ih =>
    intro i M ty st hi he hf hL hv hty hsl hst hev
    have l := fr_lay hf hl
    have hc := q_L_cons hL
    rw [List.length_cons] at he
    have len := stv_len hv
    unfold tyr at hty
    split at hty
    · exact absurd hty (by simp)
    · rename_i h100
      split at hty
      · rename_i ty' hts
        have hC' : C_F F M := ⟨⟨hC.1.1, (hf.2 16 7 (by dsimp only; omega)).trans hC.1.2⟩, fun t a b => (hf.2 16 _ (by dsimp only; omega)).trans (hC.2 t a b)⟩
        have hv' := stp_ok hF hts hv
        have hev' : evs F cd (stp F t st) = stf := hev
        -- on to the next
        have nx : ∀ (M' : qM) (h' : Int), h' = ((stp F t st).length : Int) → (stp F t st).length ≤ 100 → fr (fun a _ => a = 17) M M' → q_stk 17 M' (stp F t st) → q_lay M' → q_At q_m1 (q_WP q_Pr (d + 2)) P 158 [(0, .inr (.inr 15)), (1, .inr (.inr x)), (3, .inl to), (4, .inl h'), (5, .inl i)] [] M' c s := fun M' h' e' e100 f' q' l' => by
          refine t_1_158 l' ?_
          rw [w32_id (x := i + 1) (by omega) (by omega), e']
          exact ih (i + 1) M' ty' (stp F t st) (by omega) (by omega) (fr_trans hf f') (q_L_fr hc.2 (fun j _ _ => f'.2 x j hx.2)) hv' hty e100 q' hev'
        refine t_1_10 (d := d + 1) l ?_
        rw [hc.1, fr_kd hf, fr_ln hf, hx.1]
        refine ⟨fun z => absurd z (by omega), fun _ => ⟨by decide, fun z => absurd z (by omega), fun _ => ⟨fun z => absurd z (by omega), fun _ => ⟨⟨rfl, hi, by omega⟩, ?_⟩⟩⟩⟩
        rcases tys_cases hts with q | ⟨q, r, er⟩ | ⟨q, b', a', r', er⟩
        · refine c_2 l (fun _ => ⟨l, fun z => absurd z (by decide), fun _ => c_3 l hC' q ⟨l, by omega, fun M1 e1 l1 => ?_⟩⟩) (fun z => absurd (by omega) z)
          have es : stp F t st = pv F t :: st := by unfold stp; rw [if_pos (by omega)]
          refine nx M1 _ ?_ ?_ (fr_wn e1 rfl) ?_ l1
          · rw [es, List.length_cons, w32_id (by omega) (by omega)]; omega
          · rw [es, List.length_cons]; omega
          · rw [es]; exact ⟨wn_eq e1, q_stk_fr hst (fun j a b => wn_ne e1 (by omega))⟩
        · cases st with
          | nil => rw [er] at hv; exact absurd hv id
          | cons v r2 =>
            rw [List.length_cons] at hsl len ⊢
            refine c_2 l (fun z => absurd z (by omega)) (fun _ => ⟨l, fun _ => ⟨fun z => absurd q z, fun _ => ⟨fun z => absurd z (by omega), fun _ => ?_⟩⟩, fun z => absurd rfl z⟩)
            rw [w32_id (x := ((r2.length + 1 : Nat) : Int) - 1) (by omega) (by omega), show ((r2.length + 1 : Nat) : Int) - 1 = r2.length by omega, hst.1]
            have es : stp F t (v :: r2) = (1 - v) :: r2 := by unfold stp; rw [if_neg (by omega), if_pos q]
            rw [er] at hv
            have hv1 : v = 0 ∨ v = 1 := hv.1
            rw [w32_id (x := 1 - v) (by omega) (by omega)]
            refine ⟨by omega, by omega, fun M1 e1 l1 => nx M1 _ ?_ ?_ (fr_wn e1 rfl) ?_ l1⟩
            · rw [es, List.length_cons]
            · rw [es, List.length_cons]; omega
            · rw [es]; exact ⟨wn_eq e1, q_stk_fr hst.2 (fun j a b => wn_ne e1 (by omega))⟩
        · cases st with
          | nil => rw [er] at hv; exact absurd hv id
          | cons v r2 =>
            cases r2 with
            | nil => rw [er] at hv; exact absurd hv.2 id
            | cons u r3 =>
              rw [List.length_cons, List.length_cons] at hsl len ⊢
              rw [er] at hv
              have hv1 := okV_rng hv.1
              have hv2 := okV_rng hv.2.1
              have es : stp F t (v :: u :: r3) = clp (jn t u v) :: r3 := by unfold stp; rw [if_neg (by omega), if_neg (by omega)]
              refine c_2 l (fun z => absurd z (by omega)) (fun _ => ⟨l, fun _ => ⟨fun _ => ⟨fun z => absurd z (by omega), fun _ => ?_⟩, fun z => absurd z (by omega)⟩, fun z => absurd rfl z⟩)
              have h2 : q_nm M 17 (r3.length + 1 : Nat) = v := by have := hst.1; rwa [List.length_cons] at this
              rw [w32_id (x := ((r3.length + 1 + 1 : Nat) : Int) + -1) (by omega) (by omega), show ((r3.length + 1 + 1 : Nat) : Int) + -1 = ((r3.length + 1 : Nat) : Int) by omega, w32_id (x := ((r3.length + 1 : Nat) : Int) - 1) (by omega) (by omega), show ((r3.length + 1 : Nat) : Int) - 1 = r3.length by omega, h2, hst.2.1]
              refine ⟨by omega, by omega, c_4 l hv2 hv1 ⟨l, by omega, fun M1 e1 l1 => ?_⟩⟩
              have cr := clp_rng (jn t u v)
              have e1' : M1 = q_wn M 17 r3.length (clp (jn t u v)) := by rw [e1]; congr 1; exact w32_id (by unfold clp at cr; omega) (by unfold clp at cr; omega)
              refine nx M1 _ ?_ ?_ (fr_wn e1' rfl) ?_ l1
              · rw [es, List.length_cons]
              · rw [es, List.length_cons]; omega
              · rw [es]; exact ⟨wn_eq e1', q_stk_fr hst.2.2 (fun j a b => wn_ne e1' (by omega))⟩
      · exact absurd hty (by simp)
/-- the machine works a code out -/
theorem c_1 {d : Nat} {P : Int → qM → Prop} {M : qM} {x fm to : Int} {F : Int → Int} {cd : List Int} {sf : List Bool} (hl : q_lay M) (hF : okF F) (hx : q_kd M x = 14 ∧ x ≠ 17) (h0 : 0 ≤ fm) (he : fm + cd.length = to) (ht : to ≤ q_ln M x) (ht2 : to ≤ 100000) (hC : C_F F M) (hL : q_L M x fm cd) (hty : tyr cd [] = some sf) (K : ∀ M', fr (fun a _ => a = 17) M M' → P (ev F cd) M') : q_WP q_Pr (d + 3) 1 [.inr (.inr 15), .inr (.inr x), .inl fm, .inl to] M P := by
  refine q_enter (t_1_0 (d := d + 1) hl ?_)
  rw [show max 0 fm = fm by omega]
  exact c_1l hl hF hx ht ht2 hC sf (evs F cd []) K cd fm M [] [] h0 he fr_rfl hL trivial hty (by decide) trivial rfl
end
