section
/-- the reference's number of a step -/
def trc (t : Int) : Int := if 1000 ≤ t then t else if t = 10 then 15 else if t = 11 then 14 else if t = 12 then 16 else if t = 13 then 17 else if t = 14 then 31 else if t = 15 then 7 else if t = 16 then 8 else if t = 17 then 9 else if t = 18 then 10 else if t = 19 then 18 else if t = 20 then 19 else if t = 21 then 30 else if t = 22 then 5 else if t = 23 then 6 else if t = 42 then 3 else if t = 43 then 1 else if t = 45 then 2 else if t = 47 then 4 else if t = 60 then 11 else if t = 61 then 13 else if t = 62 then 12 else 0
theorem r_206 {d : Nat} {P : Int → qM → Prop} {M : qM} {x : Int} (hl : q_lay M) (K : P (clp x) M) : q_WP q_Pr (d + 1) 206 [.inr (.inl x)] M P := by
  refine q_enter (t_206_0 hl ⟨fun z => ⟨fun y => ?_, fun y => ?_⟩, fun z => ?_⟩)
  · have a := q_lc_le z; have b := q_lc_nn y; rw [clp_id (by omega)] at K; exact K
  · have a := q_lc_le z; have b := q_lc_neg y; rw [show clp x = -1000000 by unfold clp; omega] at K; exact K
  · have a := q_lc_pos z; rw [show clp x = 1000000 by unfold clp; omega] at K; exact K
theorem r_207 {d : Nat} {P : Int → qM → Prop} {M : qM} {a b : Int} (hl : q_lay M) (ha : -1000000 ≤ a ∧ a ≤ 1000000) (K : P (fl a b) M) : q_WP q_Pr (d + 1) 207 [.inr (.inl a), .inr (.inl b)] M P := by
  unfold fl at K
  refine q_enter (t_207_0 hl ⟨fun z => ?_, fun z => ?_⟩)
  · have hb := q_lc_nz z
    have tr := tdiv_rng ha hb
    rw [if_neg hb] at K
    rw [w64_id (x := a.tdiv b) (by omega) (by omega), w64_id (x := a.tdiv b - 1) (by omega) (by omega)]
    refine ⟨hb, hb, fun y => ?_, fun y => ⟨fun x => ⟨fun u => ⟨fun _ => ?_, fun w => absurd rfl w⟩, fun u => ⟨fun w => absurd w (by decide), fun _ => ?_⟩⟩, fun x => ⟨fun u => ⟨fun w => absurd w (by decide), fun _ => ?_⟩, fun u => ⟨fun _ => ?_, fun w => absurd rfl w⟩⟩⟩⟩
    · rw [if_pos (Or.inl (q_lc_z y))] at K; exact K
    · have p := q_lc_nn x; have q := q_lc_nn u; rw [if_pos (Or.inr (by omega))] at K; exact K
    · have p := q_lc_nn x; have q := q_lc_neg u; have r := q_lc_nz y; rw [if_neg (by omega)] at K; exact K
    · have p := q_lc_neg x; have q := q_lc_nn u; have r := q_lc_nz y; rw [if_neg (by omega)] at K; exact K
    · have p := q_lc_neg x; have q := q_lc_neg u; rw [if_pos (Or.inr (by omega))] at K; exact K
  · rw [if_pos (q_lc_z z)] at K; exact K
def Zp : Int → Int → Prop := fun a j => (a = 66 ∧ j = 69) ∨ a = 117
def R_pil (M : qM) (st : List Int) : Prop := q_nm M 66 69 = st.length ∧ q_stk 117 M st
theorem r_208 {d : Nat} {P : Int → qM → Prop} {M : qM} {x : Int} {st : List Int} (hl : q_lay M) (h : R_pil M st) (hn : st.length < 2200) (K : ∀ M', fr Zp M M' → R_pil M' (x :: st) → P 0 M') : q_WP q_Pr (d + 1) 208 [.inr (.inr 66), .inr (.inl x)] M P := by
  refine q_enter (t_208_0 hl ?_)
  rw [h.1]
  refine ⟨by omega, fun M1 e1 l1 => ?_⟩
  rw [(wn_ne e1 (by omega)).trans h.1, w32_id (x := (st.length : Int) + 1) (by omega) (by omega)]
  intro M2 e2 l2
  refine K M2 (fr_trans (fr_wn e1 (Or.inr rfl)) (fr_wn e2 (Or.inl ⟨rfl, rfl⟩))) ⟨?_, ?_, q_stk_fr h.2 (fun j _ _ => ?_)⟩
  · rw [wn_eq e2, List.length_cons]; omega
  · rw [wn_ne e2 (by omega)]; exact wn_eq e1
  · rw [wn_ne e2 (by omega), wn_ne e1 (by omega)]
theorem r_209 {d : Nat} {P : Int → qM → Prop} {M : qM} {t a b : Int} {st : List Int} (hl : q_lay M) (h : R_pil M (b :: a :: st)) (hn : st.length < 2000) (ht : t = 10 ∨ t = 11 ∨ t = 22 ∨ t = 23 ∨ t = 42 ∨ t = 43 ∨ t = 45 ∨ t = 47 ∨ t = 60 ∨ t = 61 ∨ t = 62) (ha : -1000000 ≤ a ∧ a ≤ 1000000) (hb : -1000000 ≤ b ∧ b ≤ 1000000) (hab : t = 10 ∨ t = 11 → (a = 0 ∨ a = 1) ∧ (b = 0 ∨ b = 1)) (K : ∀ M', fr Zp M M' → R_pil M' (clp (jn t a b) :: st) → P 0 M') : q_WP q_Pr (d + 2) 209 [.inr (.inr 66), .inl (trc t)] M P := by
  have mr := mul_rng ha hb
  have h1 := h.1
  rw [List.length_cons, List.length_cons] at h1
  have vb : q_nm M 117 ((st.length : Int) + 1) = b := by have := h.2.1; rwa [List.length_cons, show ((st.length + 1 : Nat) : Int) = (st.length : Int) + 1 by omega] at this
  have va : q_nm M 117 st.length = a := h.2.2.1
  refine q_enter (t_209_0 (d := d + 1) hl ?_)
  rw [h1, w32_id (x := ((st.length + 1 + 1 : Nat) : Int) - 1) (by omega) (by omega), w32_id (x := ((st.length + 1 + 1 : Nat) : Int) - 2) (by omega) (by omega), show ((st.length + 1 + 1 : Nat) : Int) - 1 = (st.length : Int) + 1 by omega, show ((st.length + 1 + 1 : Nat) : Int) - 2 = (st.length : Int) by omega, va, vb, w64_id (x := a + b) (by omega) (by omega), w64_id (x := a - b) (by omega) (by omega), w64_id (x := a * b) (by omega) (by omega)]
  refine ⟨by omega, by omega, fun M1 e1 l1 => ?_⟩
  have f1 : fr Zp M M1 := fr_wn e1 (Or.inl ⟨rfl, rfl⟩)
  have p1 : R_pil M1 st := ⟨wn_eq e1, q_stk_fr h.2.2.2 (fun j _ _ => wn_ne e1 (by omega))⟩
  have push : ∀ v : Int, v = clp (jn t a b) → q_WP q_Pr (d + 1) 208 [.inr (.inr 66), .inr (.inl v)] M1 (fun _ M5 => q_lay M5 ∧ (q_At q_m209 (q_WP q_Pr (d + 1)) P 289 [] [] M5 0 0)) := fun v hv => by
    subst hv
    exact r_208 l1 p1 (by omega) (fun M2 f2 c2 => ⟨fr_lay f2 l1, t_209_289 (fr_lay f2 l1) (K M2 (fr_trans f1 f2) c2)⟩)
  have or271 : t = 10 → q_At q_m209 (q_WP q_Pr (d + 1)) P 271 [(0, .inr (.inr 66)), (2, .inr (.inl b)), (4, .inr (.inl a))] [] M1 0 0 := fun e => by
    have hh := hab (Or.inl e)
    refine t_209_271 l1 ?_
    rw [w64_id (x := a + b) (by omega) (by omega)]
    have ej : clp (jn t a b) = max a b := by
      subst e
      show clp (max a b) = _
      rw [clp_id (by omega)]
    refine ⟨fun z => t_209_286 l1 ⟨lk66 l1, push 0 ?_⟩, fun z => t_209_286 l1 ⟨lk66 l1, push 1 ?_⟩⟩
    · have := q_lc_le z; rw [ej]; omega
    · have := q_lc_pos z; rw [ej]; omega
  have fr1 := fl_rng (b := b) ha
  rcases ht with e | e | e | e | e | e | e | e | e | e | e <;> subst e
  · have c : trc 10 = 15 := by decide
    rw [c]
    refine ⟨⟨fun z => absurd z (by decide), fun z => absurd z (by decide), fun z => absurd z (by decide), fun z => absurd z (by decide), fun z => absurd z (by decide), fun z => absurd z (by decide), fun z => absurd z (by decide), fun z => absurd z (by decide), fun z => absurd z (by decide), fun z => absurd z (by decide), fun z => absurd z (by decide), fun z => absurd z (by decide), fun z => absurd z (by decide), fun z => absurd z (by decide), trivial⟩, fun _ => or271 rfl⟩
  · have c : trc 11 = 14 := by decide
    rw [c]
    refine ⟨⟨fun z => absurd z (by decide), fun z => absurd z (by decide), fun z => absurd z (by decide), fun z => absurd z (by decide), fun z => absurd z (by decide), fun z => absurd z (by decide), fun z => absurd z (by decide), fun z => absurd z (by decide), fun z => absurd z (by decide), fun z => absurd z (by decide), fun z => absurd z (by decide), fun z => absurd z (by decide), fun z => absurd z (by decide), fun _ => push _ ?_, trivial⟩, fun z => absurd z (by decide)⟩
    show a * b = clp (min a b)
    have hh := hab (Or.inr rfl)
    rw [clp_id (by omega)]
    rcases hh.1 with p | p <;> rcases hh.2 with q | q <;> subst p <;> subst q <;> decide
  · have c : trc 22 = 5 := by decide
    rw [c]
    refine ⟨⟨fun z => absurd z (by decide), fun z => absurd z (by decide), fun z => absurd z (by decide), fun z => absurd z (by decide), fun _ => ⟨fun z => push _ ?_, fun z => push _ ?_⟩, fun z => absurd z (by decide), fun z => absurd z (by decide), fun z => absurd z (by decide), fun z => absurd z (by decide), fun z => absurd z (by decide), fun z => absurd z (by decide), fun z => absurd z (by decide), fun z => absurd z (by decide), fun z => absurd z (by decide), trivial⟩, fun z => absurd z (by decide)⟩
    · have := q_lc_nn z; show b = clp (min a b); rw [clp_id (by omega)]; omega
    · have := q_lc_neg z; show a = clp (min a b); rw [clp_id (by omega)]; omega
  · have c : trc 23 = 6 := by decide
    rw [c]
    refine ⟨⟨fun z => absurd z (by decide), fun z => absurd z (by decide), fun z => absurd z (by decide), fun z => absurd z (by decide), fun z => absurd z (by decide), fun _ => ⟨fun z => push _ ?_, fun z => push _ ?_⟩, fun z => absurd z (by decide), fun z => absurd z (by decide), fun z => absurd z (by decide), fun z => absurd z (by decide), fun z => absurd z (by decide), fun z => absurd z (by decide), fun z => absurd z (by decide), fun z => absurd z (by decide), trivial⟩, fun z => absurd z (by decide)⟩
    · have := q_lc_le z; show b = clp (max a b); rw [clp_id (by omega)]; omega
    · have := q_lc_pos z; show a = clp (max a b); rw [clp_id (by omega)]; omega
  · have c : trc 42 = 3 := by decide
    rw [c]
    exact ⟨⟨fun z => absurd z (by decide), fun z => absurd z (by decide), fun _ => r_206 l1 ⟨l1, push _ rfl⟩, fun z => absurd z (by decide), fun z => absurd z (by decide), fun z => absurd z (by decide), fun z => absurd z (by decide), fun z => absurd z (by decide), fun z => absurd z (by decide), fun z => absurd z (by decide), fun z => absurd z (by decide), fun z => absurd z (by decide), fun z => absurd z (by decide), fun z => absurd z (by decide), trivial⟩, fun z => absurd z (by decide)⟩
  · have c : trc 43 = 1 := by decide
    rw [c]
    exact ⟨⟨fun _ => r_206 l1 ⟨l1, push _ rfl⟩, fun z => absurd z (by decide), fun z => absurd z (by decide), fun z => absurd z (by decide), fun z => absurd z (by decide), fun z => absurd z (by decide), fun z => absurd z (by decide), fun z => absurd z (by decide), fun z => absurd z (by decide), fun z => absurd z (by decide), fun z => absurd z (by decide), fun z => absurd z (by decide), fun z => absurd z (by decide), fun z => absurd z (by decide), trivial⟩, fun z => absurd z (by decide)⟩
  · have c : trc 45 = 2 := by decide
    rw [c]
    exact ⟨⟨fun z => absurd z (by decide), fun _ => r_206 l1 ⟨l1, push _ rfl⟩, fun z => absurd z (by decide), fun z => absurd z (by decide), fun z => absurd z (by decide), fun z => absurd z (by decide), fun z => absurd z (by decide), fun z => absurd z (by decide), fun z => absurd z (by decide), fun z => absurd z (by decide), fun z => absurd z (by decide), fun z => absurd z (by decide), fun z => absurd z (by decide), fun z => absurd z (by decide), trivial⟩, fun z => absurd z (by decide)⟩
  · have c : trc 47 = 4 := by decide
    rw [c]
    exact ⟨⟨fun z => absurd z (by decide), fun z => absurd z (by decide), fun z => absurd z (by decide), fun _ => r_207 l1 ha ⟨l1, push _ (show fl a b = clp (fl a b) by rw [clp_id fr1])⟩, fun z => absurd z (by decide), fun z => absurd z (by decide), fun z => absurd z (by decide), fun z => absurd z (by decide), fun z => absurd z (by decide), fun z => absurd z (by decide), fun z => absurd z (by decide), fun z => absurd z (by decide), fun z => absurd z (by decide), fun z => absurd z (by decide), trivial⟩, fun z => absurd z (by decide)⟩
  · have c : trc 60 = 11 := by decide
    rw [c]
    refine ⟨⟨fun z => absurd z (by decide), fun z => absurd z (by decide), fun z => absurd z (by decide), fun z => absurd z (by decide), fun z => absurd z (by decide), fun z => absurd z (by decide), fun z => absurd z (by decide), fun z => absurd z (by decide), fun z => absurd z (by decide), fun z => absurd z (by decide), fun _ => ⟨fun z => push _ ?_, fun z => push _ ?_⟩, fun z => absurd z (by decide), fun z => absurd z (by decide), fun z => absurd z (by decide), trivial⟩, fun z => absurd z (by decide)⟩
    · have := q_lc_nn z; show 0 = clp (if a < b then 1 else 0); rw [if_neg (by omega)]; rfl
    · have := q_lc_neg z; show 1 = clp (if a < b then 1 else 0); rw [if_pos this]; rfl
  · have c : trc 61 = 13 := by decide
    rw [c]
    refine ⟨⟨fun z => absurd z (by decide), fun z => absurd z (by decide), fun z => absurd z (by decide), fun z => absurd z (by decide), fun z => absurd z (by decide), fun z => absurd z (by decide), fun z => absurd z (by decide), fun z => absurd z (by decide), fun z => absurd z (by decide), fun z => absurd z (by decide), fun z => absurd z (by decide), fun z => absurd z (by decide), fun _ => ⟨fun z => push _ ?_, fun z => push _ ?_⟩, fun z => absurd z (by decide), trivial⟩, fun z => absurd z (by decide)⟩
    · have := q_lc_nz z; show 0 = clp (if a = b then 1 else 0); rw [if_neg this]; rfl
    · have := q_lc_z z; show 1 = clp (if a = b then 1 else 0); rw [if_pos this]; rfl
  · have c : trc 62 = 12 := by decide
    rw [c]
    refine ⟨⟨fun z => absurd z (by decide), fun z => absurd z (by decide), fun z => absurd z (by decide), fun z => absurd z (by decide), fun z => absurd z (by decide), fun z => absurd z (by decide), fun z => absurd z (by decide), fun z => absurd z (by decide), fun z => absurd z (by decide), fun z => absurd z (by decide), fun z => absurd z (by decide), fun _ => ⟨fun z => push _ ?_, fun z => push _ ?_⟩, fun z => absurd z (by decide), fun z => absurd z (by decide), trivial⟩, fun z => absurd z (by decide)⟩
    · have := q_lc_le z; show 0 = clp (if a > b then 1 else 0); rw [if_neg (by omega)]; rfl
    · have := q_lc_pos z; show 1 = clp (if a > b then 1 else 0); rw [if_pos this]; rfl
/-- the reference's facts: a taking that is laid out, of a row -/
def R_fa (M : qM) (nw : Int) (WL : Int → List Int) (WS WE WO : Int → Int) (ln : List Int) (i : Int) (t : qT) : Prop := R_W nw WL WS WE WO M ∧ G_W nw WL WS WE WO ∧ G_L nw ln ∧ R_row M (q_nm M 66 56) ln ∧ R_tk1 M nw WL ln i t ∧ okT nw ln t ∧ (0 ≤ i ∧ i < 640)
theorem r_210 {d : Nat} {P : Int → qM → Prop} {M : qM} {nw i : Int} {WL : Int → List Int} {WS WE WO : Int → Int} {ln : List Int} {t : qT} (hl : q_lay M) (h : R_fa M nw WL WS WE WO ln i t) (K : P (srcT ln t) M) : q_WP q_Pr (d + 2) 210 [.inr (.inr 66), .inl i] M P := by
  obtain ⟨hW, gW, g, hr, ht, ok, hi⟩ := h
  have g6 := g.1
  obtain ⟨k, p, o⟩ := t
  have e8 : q_nm M 108 i = k := ht.1.1
  have e10 : q_nm M 110 i = o := ht.1.2.2
  unfold okT at ok; dsimp only at ok
  unfold srcT at K; dsimp only at K
  refine q_enter (t_210_0 (d := d) hl ?_)
  rw [e8, e10]
  refine ⟨hi, fun z => ?_, fun z => ⟨fun y => ⟨fun x => ⟨hi, ?_⟩, fun x => ⟨hi, ⟨hr.1, by omega⟩, ?_⟩⟩, fun y => ?_⟩⟩
  · rw [if_pos (Or.inl z)] at K; exact K
  · rw [if_neg (by omega), if_neg (by omega)] at K; exact K
  · rw [if_neg (by omega), if_pos (by omega)] at K
    rw [R_row_get hr (by omega) (by omega)]; exact K
  · rw [if_pos (Or.inr y)] at K; exact K
theorem r_211 {d : Nat} {P : Int → qM → Prop} {M : qM} {nw i x : Int} {WL : Int → List Int} {WS WE WO : Int → Int} {ln : List Int} {t : qT} (hl : q_lay M) (h : R_fa M nw WL WS WE WO ln i t) (hx : 15 ≤ x ∧ x ≤ 21) (K : P (fct nw WL WS WO ln t x) M) : q_WP q_Pr (d + 3) 211 [.inr (.inr 66), .inl (trc x), .inl i] M P := by
  have h' := h
  obtain ⟨hW, gW, g, hr, ht, ok, hi⟩ := h
  have g6 := g.1
  have gn := gW.1
  have sr := src_rng g ok
  obtain ⟨k, p, o⟩ := t
  have e8 : q_nm M 108 i = k := ht.1.1
  have e9 : q_nm M 109 i = p := ht.1.2.1
  have ok' := ok
  unfold okT at ok'; dsimp only at ok'
  -- the own word, if there is one
  have go : ∀ y0 : Int, ((k = 0 ∧ y0 = -1) ∨ (k ≠ 0 ∧ y0 = li ln p ∧ 0 ≤ y0 ∧ y0 < nw)) → q_At q_m211 (q_WP q_Pr (d + 2)) P 36 [(0, .inr (.inr 66)), (1, .inl (trc x)), (2, .inl i), (3, .inl k), (4, .inl (srcT ln (k, p, o)))] [.inl y0] M 0 0 := fun y0 hy => by
    refine t_211_36 hl ?_
    rw [ht.2.2.2.1, e9, hr.2.1]
    have cx : x = 15 ∨ x = 16 ∨ x = 17 ∨ x = 18 ∨ x = 19 ∨ x = 20 ∨ x = 21 := by omega
    have w97 : ∀ w, 0 ≤ w ∧ w < nw → q_nm M 97 w = WO w := fun w hw => (hW.2 w hw.1 hw.2).2.2.2
    have w95 : ∀ w, 0 ≤ w ∧ w < nw → q_nm M 95 w = WS w := fun w hw => (hW.2 w hw.1 hw.2).2.1
    rcases cx with c | c | c | c | c | c | c <;> subst c
    · have e : trc 15 = 7 := by decide
      rw [e]
      exact ⟨⟨fun _ => ⟨hi, K⟩, fun z => absurd z (by decide), fun z => absurd z (by decide), fun z => absurd z (by decide), fun z => absurd z (by decide), fun z => absurd z (by decide), fun z => absurd z (by decide), fun z => absurd z (by decide), fun z => absurd z (by decide), fun z => absurd z (by decide), fun z => absurd z (by decide), fun z => absurd z (by decide), fun z => absurd z (by decide), trivial⟩, fun z => absurd z (by decide)⟩
    · have e : trc 16 = 8 := by decide
      rw [e]
      have K2 : P (if k = 0 then 0 else p) M := K
      exact ⟨⟨fun z => absurd z (by decide), fun _ => ⟨fun z => ⟨hi, by rw [if_neg z] at K2; exact K2⟩, fun z => by rw [if_pos z] at K2; exact K2⟩, fun z => absurd z (by decide), fun z => absurd z (by decide), fun z => absurd z (by decide), fun z => absurd z (by decide), fun z => absurd z (by decide), fun z => absurd z (by decide), fun z => absurd z (by decide), fun z => absurd z (by decide), fun z => absurd z (by decide), fun z => absurd z (by decide), fun z => absurd z (by decide), trivial⟩, fun z => absurd z (by decide)⟩
    · have e : trc 17 = 9 := by decide
      rw [e]
      exact ⟨⟨fun z => absurd z (by decide), fun z => absurd z (by decide), fun _ => ⟨hr.1, K⟩, fun z => absurd z (by decide), fun z => absurd z (by decide), fun z => absurd z (by decide), fun z => absurd z (by decide), fun z => absurd z (by decide), fun z => absurd z (by decide), fun z => absurd z (by decide), fun z => absurd z (by decide), fun z => absurd z (by decide), fun z => absurd z (by decide), trivial⟩, fun z => absurd z (by decide)⟩
    · have e : trc 18 = 10 := by decide
      rw [e]
      have K2 : P (if srcT ln (k, p, o) = -1 then 0 else WO (srcT ln (k, p, o))) M := K
      refine ⟨⟨fun z => absurd z (by decide), fun z => absurd z (by decide), fun z => absurd z (by decide), fun _ => ⟨fun z => ⟨by omega, ?_⟩, fun z => ?_⟩, fun z => absurd z (by decide), fun z => absurd z (by decide), fun z => absurd z (by decide), fun z => absurd z (by decide), fun z => absurd z (by decide), fun z => absurd z (by decide), fun z => absurd z (by decide), fun z => absurd z (by decide), fun z => absurd z (by decide), trivial⟩, fun z => absurd z (by decide)⟩
      · rw [if_neg z, ← w97 _ (sr.resolve_left z)] at K2; exact K2
      · rw [if_pos z] at K2; exact K2
    · have e : trc 19 = 18 := by decide
      rw [e]
      have K2 : P (if k = 0 then 0 else WO (li ln p)) M := K
      refine ⟨⟨fun z => absurd z (by decide), fun z => absurd z (by decide), fun z => absurd z (by decide), fun z => absurd z (by decide), fun z => absurd z (by decide), fun z => absurd z (by decide), fun z => absurd z (by decide), fun z => absurd z (by decide), fun z => absurd z (by decide), fun z => absurd z (by decide), fun z => absurd z (by decide), fun _ => ⟨fun z => ⟨by omega, ?_⟩, fun z => ?_⟩, fun z => absurd z (by decide), trivial⟩, fun z => absurd z (by decide)⟩
      · have hy2 : k ≠ 0 ∧ y0 = li ln p ∧ 0 ≤ y0 ∧ y0 < nw := by
          rcases hy with q | q
          · exact absurd q.2 z
          · exact q
        rw [if_neg hy2.1, ← hy2.2.1, ← w97 _ hy2.2.2] at K2; exact K2
      · rw [if_pos (by omega)] at K2; exact K2
    · have e : trc 20 = 19 := by decide
      rw [e]
      have K2 : P (if srcT ln (k, p, o) = -1 then 0 else if WS (srcT ln (k, p, o)) = WS (li ln p) then 1 else 0) M := K
      refine ⟨⟨fun z => absurd z (by decide), fun z => absurd z (by decide), fun z => absurd z (by decide), fun z => absurd z (by decide), fun z => absurd z (by decide), fun z => absurd z (by decide), fun z => absurd z (by decide), fun z => absurd z (by decide), fun z => absurd z (by decide), fun z => absurd z (by decide), fun z => absurd z (by decide), fun z => absurd z (by decide), fun _ => ⟨fun z => ?_, fun z => ⟨fun y => ?_, fun y => ⟨by omega, by omega, ?_⟩⟩⟩, trivial⟩, fun z => absurd z (by decide)⟩
      · rw [if_pos z] at K2; exact K2
      · have hk0 : k = 0 := by omega
        exact absurd (by unfold srcT; dsimp only; rw [if_pos (Or.inl hk0)]) z
      · have hy2 : k ≠ 0 ∧ y0 = li ln p ∧ 0 ≤ y0 ∧ y0 < nw := by
          rcases hy with q | q
          · exact absurd q.2 y
          · exact q
        rw [if_neg z, ← hy2.2.1] at K2
        rw [w95 _ (sr.resolve_left z), w95 _ hy2.2.2]
        exact ⟨fun q => by rw [if_neg q] at K2; exact K2, fun q => by rw [if_pos q] at K2; exact K2⟩
    · have e : trc 21 = 30 := by decide
      rw [e]
      refine ⟨⟨fun z => absurd z (by decide), fun z => absurd z (by decide), fun z => absurd z (by decide), fun z => absurd z (by decide), fun z => absurd z (by decide), fun z => absurd z (by decide), fun z => absurd z (by decide), fun z => absurd z (by decide), fun z => absurd z (by decide), fun z => absurd z (by decide), fun z => absurd z (by decide), fun z => absurd z (by decide), fun z => absurd z (by decide), trivial⟩, fun _ => t_211_212 hl ⟨hi, ?_⟩⟩
      rw [ht.2.2.2.2.1]; exact K
  refine q_enter (t_211_0 (d := d + 1) hl ⟨hi, r_210 hl h' ⟨hl, ?_⟩⟩)
  rw [e8, e9]
  refine ⟨fun z => ⟨hi, ⟨hr.1, by omega⟩, ?_⟩, fun z => go (-1) (Or.inl ⟨z, rfl⟩)⟩
  have lp := li_rng g (show 0 ≤ p by omega) (show p < ln.length by omega)
  rw [R_row_get hr (by omega) (by omega)]
  exact go _ (Or.inr ⟨z, rfl, lp⟩)
end
