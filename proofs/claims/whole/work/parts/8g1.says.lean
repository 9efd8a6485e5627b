section
/-- rows, in the reference -/
def R_row (M : qM) (r : Int) (ln : List Int) : Prop := (0 ≤ r ∧ r < 12) ∧ q_nm M 98 r = ln.length ∧ q_L M 99 (6 * r) ln
theorem R_row_get {M : qM} {r : Int} {ln : List Int} (h : R_row M r ln) {a : Int} (h0 : 0 ≤ a) (h1 : a < ln.length) : q_nm M 99 (6 * r + a) = li ln a := q_L_get h.2.2 h0 h1
theorem R_row_fr {M M' : qM} {r : Int} {ln : List Int} (h : R_row M r ln) (k : ∀ a j, 98 ≤ a → a ≤ 99 → q_nm M' a j = q_nm M a j) : R_row M' r ln := ⟨h.1, (k 98 _ (by omega) (by omega)).trans h.2.1, q_L_fr h.2.2 (fun j _ _ => k 99 j (by omega) (by omega))⟩
/-- a taking stands at i -/
def R_at (M : qM) (i : Int) (t : qT) : Prop := q_nm M 108 i = t.1 ∧ q_nm M 109 i = t.2.1 ∧ q_nm M 110 i = t.2.2
theorem r_196c {d : Nat} {P : Int → qM → Prop} {M : qM} {nw r i k p o a here : Int} {WL : Int → List Int} {WS WE WO : Int → Int} {ln : List Int} {c s : Nat} (hl : q_lay M) (hW : R_W nw WL WS WE WO M) (gW : G_W nw WL WS WE WO) (hr : R_row M r ln) (g : G_L nw ln) (hi : 0 ≤ i ∧ i < 640) (hat : R_at M i (k, p, o)) (ok : okT nw ln (k, p, o)) (ha : 0 ≤ a ∧ a < ln.length) (hh : (here = 1 ∧ a = p) ∨ (here = 0 ∧ a ≠ p ∧ a = o ∧ (k = 3 ∨ k = 4))) (K : ∀ M', fr (fun a j => (a = 66 ∧ j = 65) ∨ a = 116) M M' → R_pc (pie WL ln (k, p, o) a) M' → P 0 M') : q_At q_m196 (q_WP q_Pr (d + 2)) P 81 [(0, .inr (.inr 66)), (1, .inl i), (2, .inl r), (4, .inl (li ln a)), (5, .inl k), (6, .inl here)] [] M c s := by
  have e9 : q_nm M 109 i = p := hat.2.1
  have e10 : q_nm M 110 i = o := hat.2.2
  unfold okT at ok; dsimp only at ok
  have g6 := g.1
  have wk : ∀ w, 0 ≤ w ∧ w < nw → R_ok M WL w := fun w h => R_W_ok hW gW h.1 h.2
  have la := li_rng g ha.1 ha.2
  have fin : ∀ M', fr (fun a j => (a = 66 ∧ j = 65) ∨ a = 116) M M' → R_pc (pie WL ln (k, p, o) a) M' → q_lay M' ∧ q_At q_m196 (q_WP q_Pr (d + 2)) P 207 [] [] M' c s := fun M' f1 c1 => ⟨fr_lay f1 hl, t_196_207 (fr_lay f1 hl) (K M' f1 c1)⟩
  refine t_196_81 (d := d + 1) hl ?_
  rw [e9, e10]
  refine ⟨fun k4 => ⟨fun n4 => ⟨fun n5 => ⟨fun n8 => ⟨hi, ?_⟩, fun e8 => ?_⟩, fun e5 => ⟨hi, ?_⟩⟩, fun e4 => ⟨fun z => ⟨hi, ⟨hr.1, by omega⟩, ?_⟩, fun z => ⟨hi, ⟨hr.1, by omega⟩, ?_⟩⟩⟩, fun k4 => ⟨fun z => ⟨hi, ⟨hr.1, by omega⟩, ?_⟩, fun z => ⟨hi, ⟨hr.1, by omega⟩, ?_⟩⟩⟩
  · have ep : a = p := by omega
    refine r_191 (WL := WL) hl (wk o (by omega)) (fun M' f1 c1 => fin M' f1 ?_)
    rw [ep, pie_67 (by omega) (by omega)]; exact c1
  · have ep : a = p := by omega
    refine r_190 (WL := WL) hl (Or.inl rfl) (wk _ la) (fun M' f1 c1 => fin M' f1 ?_)
    rw [ep] at c1 ⊢; rw [e8, pie_8]; exact c1
  · have ep : a = p := by omega
    refine r_190 (WL := WL) hl (Or.inr (wk _ la)) (wk o (by omega)) (fun M' f1 c1 => fin M' f1 ?_)
    rw [ep] at c1 ⊢; rw [e5, pie_5]; exact c1
  · have lp := li_rng g (show 0 ≤ p by omega) (show p < ln.length by omega)
    rw [R_row_get hr (by omega) (by omega)]
    refine r_191 (WL := WL) hl (wk _ lp) (fun M' f1 c1 => fin M' f1 ?_)
    rw [show a = o by omega, e4, pie_4o (by omega) lp.1]; exact c1
  · have lo := li_rng g (show 0 ≤ o by omega) (show o < ln.length by omega)
    rw [R_row_get hr (by omega) (by omega)]
    refine r_191 (WL := WL) hl (wk _ lo) (fun M' f1 c1 => fin M' f1 ?_)
    rw [show a = p by omega, e4, pie_4p lo.1]; exact c1
  · have lp := li_rng g (show 0 ≤ p by omega) (show p < ln.length by omega)
    rw [R_row_get hr (by omega) (by omega)]
    refine r_190 (WL := WL) hl (Or.inr (wk _ lp)) (wk _ la) (fun M' f1 c1 => fin M' f1 ?_)
    rw [show a = o by omega] at c1 ⊢; rw [show k = 3 by omega, pie_3o (by omega)]; exact c1
  · have lo := li_rng g (show 0 ≤ o by omega) (show o < ln.length by omega)
    rw [R_row_get hr (by omega) (by omega)]
    refine r_190 (WL := WL) hl (Or.inr (wk _ lo)) (wk _ la) (fun M' f1 c1 => fin M' f1 ?_)
    rw [show a = p by omega] at c1 ⊢; rw [pie_13 (by omega)]; exact c1
theorem r_196b {d : Nat} {P : Int → qM → Prop} {M : qM} {nw r i k p o a here there : Int} {WL : Int → List Int} {WS WE WO : Int → Int} {ln : List Int} {c s : Nat} (hl : q_lay M) (hW : R_W nw WL WS WE WO M) (gW : G_W nw WL WS WE WO) (hr : R_row M r ln) (g : G_L nw ln) (hi : 0 ≤ i ∧ i < 640) (hat : R_at M i (k, p, o)) (ok : okT nw ln (k, p, o)) (ha : 0 ≤ a ∧ a < ln.length) (hh : (here = 1 ∧ a = p) ∨ (here = 0 ∧ a ≠ p)) (ht : (there = 1 ∧ a = o ∧ (k = 3 ∨ k = 4)) ∨ (there = 0 ∧ ¬ (a = o ∧ (k = 3 ∨ k = 4)))) (K : ∀ M', fr (fun a j => (a = 66 ∧ j = 65) ∨ a = 116) M M' → R_pc (pie WL ln (k, p, o) a) M' → P 0 M') : q_At q_m196 (q_WP q_Pr (d + 2)) P 60 [(0, .inr (.inr 66)), (1, .inl i), (2, .inl r), (4, .inl (li ln a)), (5, .inl k), (6, .inl here)] [.inl there] M c s := by
  have la := li_rng g ha.1 ha.2
  refine t_196_60 hl ⟨fun z => r_196c hl hW gW hr g hi hat ok ha (by omega) K, fun z => ⟨fun y => r_196c hl hW gW hr g hi hat ok ha (by omega) K, fun y => ?_⟩⟩
  refine r_191 (WL := WL) hl (R_W_ok hW gW la.1 la.2) (fun M' f1 c1 => ⟨fr_lay f1 hl, t_196_207 (fr_lay f1 hl) (K M' f1 ?_)⟩)
  rw [pie_un (by omega) (by omega) la.1]; exact c1
theorem r_196 {d : Nat} {P : Int → qM → Prop} {M : qM} {nw r i a : Int} {t : qT} {WL : Int → List Int} {WS WE WO : Int → Int} {ln : List Int} (hl : q_lay M) (hW : R_W nw WL WS WE WO M) (gW : G_W nw WL WS WE WO) (hr : R_row M r ln) (g : G_L nw ln) (hi : 0 ≤ i ∧ i < 640) (hat : R_at M i t) (ok : okT nw ln t) (ha : 0 ≤ a ∧ a < ln.length) (K : ∀ M', fr (fun a j => (a = 66 ∧ j = 65) ∨ a = 116) M M' → R_pc (pie WL ln t a) M' → P 0 M') : q_WP q_Pr (d + 3) 196 [.inr (.inr 66), .inl i, .inl r, .inl a] M P := by
  obtain ⟨k, p, o⟩ := t
  have e8 : q_nm M 108 i = k := hat.1
  have e9 : q_nm M 109 i = p := hat.2.1
  have e10 : q_nm M 110 i = o := hat.2.2
  have g6 := g.1
  refine q_enter (t_196_0 (d := d + 1) hl ?_)
  rw [e8, e9, e10, R_row_get hr ha.1 ha.2]
  refine ⟨⟨hr.1, by omega⟩, hi, hi, fun z => ⟨hi, fun y => ?_, fun y => ⟨fun x => ?_, fun x => ⟨fun u => ?_, fun u => ?_⟩⟩⟩, fun z => ⟨hi, fun y => ?_, fun y => ⟨fun x => ?_, fun x => ⟨fun u => ?_, fun u => ?_⟩⟩⟩⟩ <;> exact r_196b hl hW gW hr g hi hat ok ha (by omega) (by omega) K
/-- the takings that are listed -/
def rl (b : Prop) : Int → Prop := fun v => (v = 1 ∧ b) ∨ (v = 0 ∧ ¬ b)
def R_tk1 (M : qM) (nw : Int) (WL : Int → List Int) (ln : List Int) (i : Int) (t : qT) : Prop := R_at M i t ∧ q_nm M 112 i = (txt WL ln t).length ∧ q_L M 111 (104 * i) (txt WL ln t) ∧ q_nm M 113 i = gapT t ∧ q_nm M 114 i = farT WL ln t ∧ rl (realP nw WL ln t) (q_nm M 115 i)
def R_TK (M : qM) (nw : Int) (WL : Int → List Int) (ln : List Int) (T : List qT) : Prop := q_nm M 66 55 = T.length ∧ ∀ i : Nat, i < T.length → R_tk1 M nw WL ln i (T.getD i (0, 0, 0))
theorem R_tk1_fr {M M' : qM} {nw : Int} {WL : Int → List Int} {ln : List Int} {i : Int} {t : qT} (h : R_tk1 M nw WL ln i t) (hn : (txt WL ln t).length ≤ 104) (k : ∀ a j, 108 ≤ a → a ≤ 115 → (a = 111 → 104 * i ≤ j ∧ j < 104 * i + 104) → (a ≠ 111 → j = i) → q_nm M' a j = q_nm M a j) : R_tk1 M' nw WL ln i t := by
  obtain ⟨⟨h1, h2, h3⟩, h4, h5, h6, h7, h8⟩ := h
  refine ⟨⟨(k 108 i (by omega) (by omega) (by omega) (by omega)).trans h1, (k 109 i (by omega) (by omega) (by omega) (by omega)).trans h2, (k 110 i (by omega) (by omega) (by omega) (by omega)).trans h3⟩, (k 112 i (by omega) (by omega) (by omega) (by omega)).trans h4, q_L_fr h5 (fun j p q => k 111 j (by omega) (by omega) (fun _ => by omega) (by omega)), (k 113 i (by omega) (by omega) (by omega) (by omega)).trans h6, (k 114 i (by omega) (by omega) (by omega) (by omega)).trans h7, ?_⟩
  rw [k 115 i (by omega) (by omega) (by omega) (by omega)]; exact h8
end
