section
def R_st (M : qM) (slot : Int) (i : Int) (st : qS) : Prop := q_nm M 102 (20 * slot + i) = st.1 ∧ ∃ f, 0 ≤ f ∧ q_nm M 103 (20 * slot + i) = f ∧ q_nm M 104 (20 * slot + i) = f + st.2.1.length ∧ q_nm M 105 (20 * slot + i) = f + st.2.1.length + st.2.2.length ∧ f + st.2.1.length + st.2.2.length ≤ 2100 ∧ q_L M 106 (2100 * slot + f) (st.2.1.map trc) ∧ q_L M 106 (2100 * slot + (f + st.2.1.length)) (st.2.2.map trc)
def R_sc (M : qM) (slot : Int) (sc : List qS) : Prop := q_nm M 101 slot = sc.length ∧ ∀ i : Nat, i < sc.length → R_st M slot i (sc.getD i (0, [], []))
def R_so (M : qM) (slot : Int) (so : Option (List qS)) : Prop := match so with
  | none => q_nm M 100 slot = 0
  | some sc => q_nm M 100 slot ≠ 0 ∧ R_sc M slot sc ∧ G_sc sc
theorem R_sc_fr {M M' : qM} {slot : Int} {sc : List qS} (h : R_sc M slot sc) (k : ∀ a j, 101 ≤ a → a ≤ 106 → q_nm M' a j = q_nm M a j) : R_sc M' slot sc := by
  refine ⟨(k _ _ (by omega) (by omega)).trans h.1, fun i hi => ?_⟩
  obtain ⟨h1, f, h2, h3, h4, h5, h6, h7, h8⟩ := h.2 i hi
  exact ⟨(k _ _ (by omega) (by omega)).trans h1, f, h2, (k _ _ (by omega) (by omega)).trans h3, (k _ _ (by omega) (by omega)).trans h4, (k _ _ (by omega) (by omega)).trans h5, h6, q_L_fr h7 (fun j _ _ => k 106 j (by omega) (by omega)), q_L_fr h8 (fun j _ _ => k 106 j (by omega) (by omega))⟩
theorem R_so_fr {M M' : qM} {slot : Int} {so : Option (List qS)} (h : R_so M slot so) (k : ∀ a j, 100 ≤ a → a ≤ 106 → q_nm M' a j = q_nm M a j) : R_so M' slot so := by
  cases so with
  | none => exact (k 100 _ (by omega) (by omega)).trans h
  | some sc => exact ⟨by rw [k 100 _ (by omega) (by omega)]; exact h.1, R_sc_fr h.2.1 (fun a j x y => k a j (by omega) y), h.2.2⟩
theorem r_213l {d : Nat} {P : Int → qM → Prop} {M0 : qM} {nw i slot : Int} {WL : Int → List Int} {WS WE WO : Int → Int} {ln : List Int} {t : qT} {sc : List qS} {c s : Nat} (hl : q_lay M0) (hfa : R_fa M0 nw WL WS WE WO ln i t) (hsl : 0 ≤ slot ∧ slot < 5) (hS : R_sc M0 slot sc) (g : G_sc sc) (K : ∀ M', fr Zp M0 M' → P (vals (fct nw WL WS WO ln t) t.1 sc) M') : ∀ (n j : Nat) (M : qM), j + n = sc.length → fr Zp M0 M → vals (fct nw WL WS WO ln t) t.1 (sc.drop j) = vals (fct nw WL WS WO ln t) t.1 sc → q_At q_m213 (q_WP q_Pr (d + 4)) P 2 [(0, .inr (.inr 66)), (1, .inl slot), (2, .inl i), (3, .inl (j : Int))] [] M c s := by
  have g20 := g.1
  have hi := hfa.2.2.2.2.2.2
  have fok := fct_ok hfa.2.1 hfa.2.2.1 hfa.2.2.2.2.2.1
  intro n
  induction n with
  | zero =>
    intro j M e hf hv
    have hS' := R_sc_fr hS (fun a j _ _ => hf.2 a j (by unfold Zp; omega))
    refine t_213_2 (fr_lay hf hl) ?_
    rw [hS'.1]
    rw [show j = sc.length by omega, List.drop_length] at hv
    refine ⟨by omega, fun _ => ?_, fun z => absurd z (by omega)⟩
    have := K M hf
    rw [← hv] at this
    exact this
  | succ n ih =>
    intro j M e hf hv
    have l := fr_lay hf hl
    have hS' := R_sc_fr hS (fun a j _ _ => hf.2 a j (by unfold Zp; omega))
    have hfa' := R_fa_Zp hfa hf
    obtain ⟨t1, f, t2, t3, t4, t5, t6, t7, t8⟩ := hS'.2 j (by omega)
    have gs := g.2 _ (getS_mem (show j < sc.length by omega))
    have e8 : q_nm M 108 i = t.1 := hfa'.2.2.2.2.1.1.1
    have hd := drop_cons (show j < sc.length by omega)
    have o1 := (ev_ok fok gs.2).2
    have o2 : ev (fct nw WL WS WO ln t) (sc.getD j (0, [], [])).2.2 = 0 ∨ ev (fct nw WL WS WO ln t) (sc.getD j (0, [], [])).2.2 = 1 := o1
    have nx : ∀ M', fr Zp M M' → ¬ ((sc.getD j (0, [], [])).1 = t.1 ∧ ev (fct nw WL WS WO ln t) (sc.getD j (0, [], [])).2.2 ≠ 0) → q_At q_m213 (q_WP q_Pr (d + 4)) P 2 [(0, .inr (.inr 66)), (1, .inl slot), (2, .inl i), (3, .inl (w32 ((j : Int) + 1)))] [] M' c s := fun M' f' hn => by
      rw [w32_id (x := (j : Int) + 1) (by omega) (by omega)]
      refine ih (j + 1) M' (by omega) (fr_trans hf f') ?_
      rw [hd] at hv
      rw [vals_cons, if_neg hn] at hv; exact hv
    refine t_213_2 l ?_
    rw [hS'.1, w32_id (x := 20 * slot) (by omega) (by omega), w32_id (x := 20 * slot + (j : Int)) (by omega) (by omega), t1, t4, t5, e8]
    refine ⟨by omega, fun z => absurd z (by omega), fun _ => ⟨by omega, hi, fun z => nx M fr_rfl (fun q => z q.1), fun z => ⟨by omega, by omega, ?_⟩⟩⟩
    refine r_212 (cd := (sc.getD j (0, [], [])).2.2) l hfa' hsl (by omega) rfl t6 t8 gs.2 (fun M1 f1 => ⟨fr_lay f1 l, fun y => nx M1 f1 (fun q => q_lc_nz y (by omega)), fun y => ⟨by omega, by omega, ?_⟩⟩)
    have u3 : q_nm M1 103 (20 * slot + j) = f := (f1.2 _ _ (by unfold Zp; omega)).trans t3
    have u4 : q_nm M1 104 (20 * slot + j) = f + (sc.getD j (0, [], [])).2.1.length := (f1.2 _ _ (by unfold Zp; omega)).trans t4
    rw [u3, u4]
    refine r_212 (cd := (sc.getD j (0, [], [])).2.1) (fr_lay f1 l) (R_fa_Zp hfa' f1) hsl t2 rfl (by omega) (q_L_fr t7 (fun x _ _ => f1.2 _ _ (by unfold Zp; omega))) gs.1 (fun M2 f2 => ⟨fr_lay f2 (fr_lay f1 l), ?_⟩)
    have := K M2 (fr_trans hf (fr_trans f1 f2))
    rw [← hv, hd] at this
    have y1 := q_lc_z y
    rw [vals_cons, if_pos ⟨z, by omega⟩] at this; exact this
theorem r_213 {d : Nat} {P : Int → qM → Prop} {M : qM} {nw i slot : Int} {WL : Int → List Int} {WS WE WO : Int → Int} {ln : List Int} {t : qT} {sc : List qS} (hl : q_lay M) (hfa : R_fa M nw WL WS WE WO ln i t) (hsl : 0 ≤ slot ∧ slot < 5) (hS : R_sc M slot sc) (g : G_sc sc) (K : ∀ M', fr Zp M M' → P (vals (fct nw WL WS WO ln t) t.1 sc) M') : q_WP q_Pr (d + 5) 213 [.inr (.inr 66), .inl slot, .inl i] M P :=
  q_enter (t_213_0 hl (r_213l hl hfa hsl hS g K sc.length 0 M (by omega) fr_rfl rfl))
theorem vals_rng {F : Int → Int} (hF : okF F) {k : Int} : ∀ {sc : List qS}, (∀ st ∈ sc, tyr st.2.1 [] = some [false]) → -1000000 ≤ vals F k sc ∧ vals F k sc ≤ 1000000
  | [], _ => by show -1000000 ≤ (0 : Int) ∧ (0 : Int) ≤ 1000000; omega
  | st :: r, h => by
    rw [vals_cons]
    split
    · exact (ev_ok hF (h st (List.mem_cons_self))).2
    · exact vals_rng hF (fun x hx => h x (List.mem_cons_of_mem _ hx))
theorem r_214 {d : Nat} {P : Int → qM → Prop} {M : qM} {nw i : Int} {WL : Int → List Int} {WS WE WO : Int → Int} {ln : List Int} {t : qT} {so : Option (List qS)} (hl : q_lay M) (hfa : R_fa M nw WL WS WE WO ln i t) (hS : R_so M 4 so) (K : ∀ M', fr Zp M M' → P (wT nw WL WS WO ln 4 so t) M') : q_WP q_Pr (d + 6) 214 [.inr (.inr 66), .inl i] M P := by
  have fok := fct_ok hfa.2.1 hfa.2.2.1 hfa.2.2.2.2.2.1
  refine q_enter (t_214_0 hl ⟨fun z => ?_, fun z => ?_⟩)
  · cases so with
    | none => exact absurd hS z
    | some sc =>
      refine r_213 hl hfa (by omega) hS.2.1 hS.2.2 (fun M1 f1 => ⟨fr_lay f1 hl, ?_⟩)
      have vr := vals_rng fok (k := t.1) (fun st hst => (hS.2.2.2 st hst).1)
      have k1 := K M1 f1
      have k2 : P (max 0 (min 100 (vals (fct nw WL WS WO ln t) t.1 sc))) M1 := k1
      refine ⟨fun y => ⟨fun x => ?_, fun x => ?_⟩, fun y => ?_⟩
      · have a := q_lc_nn y; have b := q_lc_le x
        rw [w32_id (by omega) (by omega)]
        rw [show max 0 (min 100 (vals (fct nw WL WS WO ln t) t.1 sc)) = vals (fct nw WL WS WO ln t) t.1 sc by omega] at k2; exact k2
      · have b := q_lc_pos x
        rw [show max 0 (min 100 (vals (fct nw WL WS WO ln t) t.1 sc)) = 100 by omega] at k2; exact k2
      · have b := q_lc_neg y
        rw [show max 0 (min 100 (vals (fct nw WL WS WO ln t) t.1 sc)) = 0 by omega] at k2; exact k2
  · cases so with
    | none => exact K M fr_rfl
    | some sc => exact absurd z hS.1
/-- all that the reference knows of words, and of a row that is laid out -/
def R_rdy (M : qM) (nw : Int) (WL : Int → List Int) (WS WE WO : Int → Int) (r : Int) (ln : List Int) : Prop := (R_W nw WL WS WE WO M ∧ G_W nw WL WS WE WO ∧ G_L nw ln) ∧ (q_nm M 66 56 = r ∧ q_nm M 66 67 = nw) ∧ R_row M r ln ∧ R_TK M nw WL ln (TK nw WL WS WE ln)
theorem R_rdy_fa {M : qM} {nw r : Int} {WL : Int → List Int} {WS WE WO : Int → Int} {ln : List Int} (h : R_rdy M nw WL WS WE WO r ln) {i : Nat} (hi : i < (TK nw WL WS WE ln).length) : R_fa M nw WL WS WE WO ln i ((TK nw WL WS WE ln).getD i (0, 0, 0)) := by
  obtain ⟨⟨hW, gW, g⟩, h56, hr, hT⟩ := h
  have tk := TK_ok gW g
  have g6 := g.1
  have m6 := mst_le g6.2
  exact ⟨hW, gW, g, by rw [h56.1]; exact hr, hT.2 i hi, tk.1 _ (getT_mem hi), by omega⟩
theorem R_rdy_fr {Z : Int → Int → Prop} {M M' : qM} {nw r : Int} {WL : Int → List Int} {WS WE WO : Int → Int} {ln : List Int} (h : R_rdy M nw WL WS WE WO r ln) (f : fr Z M M') (z : ∀ a j, Z a j → (a = 66 ∧ j ≠ 33 ∧ j ≠ 55 ∧ j ≠ 56 ∧ j ≠ 67) ∨ (a ≠ 66 ∧ (a < 92 ∨ 116 ≤ a ∨ (100 ≤ a ∧ a ≤ 107)))) : R_rdy M' nw WL WS WE WO r ln := by
  obtain ⟨⟨hW, gW, g⟩, h56, hr, hT⟩ := h
  have k : ∀ a j, ¬ ((a = 66 ∧ j ≠ 33 ∧ j ≠ 55 ∧ j ≠ 56 ∧ j ≠ 67) ∨ (a ≠ 66 ∧ (a < 92 ∨ 116 ≤ a ∨ (100 ≤ a ∧ a ≤ 107)))) → q_nm M' a j = q_nm M a j := fun a j q => f.2 a j (fun w => q (z a j w))
  have tk := TK_ok gW g
  refine ⟨⟨R_W_fr hW (k _ _ (by omega)) (fun a j _ _ => k a j (by omega)), gW, g⟩, ⟨(k _ _ (by omega)).trans h56.1, (k _ _ (by omega)).trans h56.2⟩, R_row_fr hr (fun a j _ _ => k a j (by omega)), (k _ _ (by omega)).trans hT.1, fun i hi => R_tk1_fr (hT.2 i hi) ?_ (fun a j _ _ _ _ => k a j (by omega))⟩
  exact Nat.le_trans (txt_len gW g (tk.1 _ (getT_mem hi)) ln.length (Nat.le_refl _)) (by decide)
def ZV : Int → Int → Prop := fun a j => ZY a j ∨ Zp a j ∨ a = 118
theorem r_215l {d : Nat} {P : Int → qM → Prop} {M0 : qM} {nw r slot : Int} {WL : Int → List Int} {WS WE WO : Int → Int} {ln : List Int} {sc : List qS} {c s : Nat} (hl : q_lay M0) (hR : R_rdy M0 nw WL WS WE WO r ln) (hsl : 0 ≤ slot ∧ slot < 4) (hS : R_sc M0 slot sc) (g : G_sc sc)
    (K : ∀ M', fr (fun a j => Zp a j ∨ a = 118) M0 M' → (∀ i : Nat, i < (TK nw WL WS WE ln).length → q_nm M' 118 i = wK nw WL WS WE WO ln slot (some sc) i) → P (sumN (wK nw WL WS WE WO ln slot (some sc)) (TK nw WL WS WE ln).length) M') : ∀ (n i : Nat) (M : qM), i + n = (TK nw WL WS WE ln).length → fr (fun a j => Zp a j ∨ a = 118) M0 M → (∀ j : Nat, j < i → q_nm M 118 j = wK nw WL WS WE WO ln slot (some sc) j) → q_At q_m215 (q_WP q_Pr (d + 5)) P 10 [(0, .inr (.inr 66)), (2, .inl slot), (3, .inl (sumN (wK nw WL WS WE WO ln slot (some sc)) i)), (4, .inl (i : Int))] [] M c s := by
  have tk := TK_ok hR.1.2.1 hR.1.2.2
  have m6 := mst_le hR.1.2.2.1.2
  have wr := fun i => wT_rng nw WL WS WO ln slot (some sc) ((TK nw WL WS WE ln).getD i (0, 0, 0))
  have wr' : ∀ i, 0 ≤ wK nw WL WS WE WO ln slot (some sc) i ∧ wK nw WL WS WE WO ln slot (some sc) i ≤ 1000 := wr
  intro n
  induction n with
  | zero =>
    intro i M e hf h
    have ei : i = (TK nw WL WS WE ln).length := by omega
    subst ei
    have hR' := R_rdy_fr hR hf (fun a j z => by unfold Zp at z; omega)
    refine t_215_10 (fr_lay hf hl) ?_
    rw [hR'.2.2.2.1]
    exact ⟨fun _ => K M hf h, fun z => absurd z (by omega)⟩
  | succ n ih =>
    intro i M e hf h
    have l := fr_lay hf hl
    have hR' := R_rdy_fr hR hf (fun a j z => by unfold Zp at z; omega)
    have hfa := R_rdy_fa hR' (show i < (TK nw WL WS WE ln).length by omega)
    have fok := fct_ok hfa.2.1 hfa.2.2.1 hfa.2.2.2.2.2.1
    have hS' := R_sc_fr hS (fun a j _ _ => hf.2 a j (by unfold Zp; omega))
    have sn := sumN_rng wr' i
    have wi := wr' i
    have vr := vals_rng fok (k := ((TK nw WL WS WE ln).getD i (0, 0, 0)).1) (fun st hst => (g.2 st hst).1)
    have ew : wK nw WL WS WE WO ln slot (some sc) i = max 0 (min 1000 (vals (fct nw WL WS WO ln ((TK nw WL WS WE ln).getD i (0, 0, 0))) ((TK nw WL WS WE ln).getD i (0, 0, 0)).1 sc)) := by
      show max 0 (min (mostOf slot) _) = _
      unfold mostOf; rw [if_neg (by omega)]
    refine t_215_10 l ?_
    rw [hR'.2.2.2.1]
    refine ⟨fun z => absurd z (by omega), fun _ => ?_⟩
    refine r_213 l hfa (by omega) hS' g (fun M1 f1 => ⟨fr_lay f1 l, ?_⟩)
    have fin : ∀ (v : Int) (M3 : qM), v = wK nw WL WS WE WO ln slot (some sc) i → M3 = q_wn M1 118 i v → (0 ≤ (i : Int) ∧ (i : Int) < 640) ∧ q_At q_m215 (q_WP q_Pr (d + 5)) P 10 [(0, .inr (.inr 66)), (2, .inl slot), (3, .inl (w32 (sumN (wK nw WL WS WE WO ln slot (some sc)) i + q_nm M3 118 i))), (4, .inl (w32 ((i : Int) + 1)))] [] M3 c s := fun v M3 hv e3 => by
      rw [wn_eq e3, hv, w32_id (x := sumN (wK nw WL WS WE WO ln slot (some sc)) i + wK nw WL WS WE WO ln slot (some sc) i) (by omega) (by omega), w32_id (x := (i : Int) + 1) (by omega) (by omega)]
      refine ⟨by omega, ih (i + 1) M3 (by omega) (fr_trans hf (fr_trans (fr_mono f1 (fun a j z => Or.inl z)) (fr_wn e3 (Or.inr rfl)))) (fun j hj => ?_)⟩
      by_cases ej : j = i
      · rw [ej, wn_eq e3, hv]
      · rw [wn_ne e3 (by omega), f1.2 118 _ (by unfold Zp; omega)]; exact h j (by omega)
    refine ⟨fun y => ⟨fun x => ⟨by omega, fun M3 e3 l3 => fin _ M3 ?_ e3⟩, fun x => ⟨by omega, fun M3 e3 l3 => fin _ M3 ?_ e3⟩⟩, fun y => ⟨by omega, fun M3 e3 l3 => fin _ M3 ?_ e3⟩⟩
    · have a := q_lc_nn y; have b := q_lc_le x
      rw [w32_id (by omega) (by omega), ew]; omega
    · have b := q_lc_pos x; rw [ew]; omega
    · have b := q_lc_neg y; rw [ew]; omega
theorem r_215 {d : Nat} {P : Int → qM → Prop} {M : qM} {nw nr r slot : Int} {WL : Int → List Int} {WS WE WO : Int → Int} {RL : Int → List Int} {sc : List qS} (hl : q_lay M) (hW : R_W nw WL WS WE WO M) (gW : G_W nw WL WS WE WO) (hr : R_row M r (RL r)) (g : G_L nw (RL r)) (hY : R_Y M nw nr WL WS WE RL) (h0 : 0 ≤ r ∧ r < nr) (hsl : 0 ≤ slot ∧ slot < 4) (hS : R_sc M slot sc) (gs : G_sc sc)
    (K : ∀ M', fr ZV M M' → R_rdy M' nw WL WS WE WO r (RL r) → (∀ i : Nat, i < (TK nw WL WS WE (RL r)).length → q_nm M' 118 i = wK nw WL WS WE WO (RL r) slot (some sc) i) → P (sumN (wK nw WL WS WE WO (RL r) slot (some sc)) (TK nw WL WS WE (RL r)).length) M') : q_WP q_Pr (d + 7) 215 [.inr (.inr 66), .inl r, .inl slot] M P := by
  refine q_enter (t_215_0 hl (r_201 hl hW gW hr g hY h0 (fun M1 f1 c1 c2 c3 => ⟨fr_lay f1 hl, ?_⟩)))
  have hR : R_rdy M1 nw WL WS WE WO r (RL r) := ⟨⟨R_W_fr hW (f1.2 _ _ (by unfold ZY; omega)) (fun a j _ _ => f1.2 a j (by unfold ZY; omega)), gW, g⟩, ⟨c1, c2⟩, R_row_fr hr (fun a j _ _ => f1.2 a j (by unfold ZY; omega)), c3⟩
  refine r_215l (d := d + 1) (fr_lay f1 hl) hR hsl (R_sc_fr hS (fun a j _ _ => f1.2 a j (by unfold ZY; omega))) gs (fun M2 f2 c => K M2 (fr_trans (fr_mono f1 (fun a j z => Or.inl z)) (fr_mono f2 (fun a j z => Or.inr z))) (R_rdy_fr hR f2 (fun a j z => by unfold Zp at z; omega)) c) (TK nw WL WS WE (RL r)).length 0 M1 (by omega) fr_rfl (fun j hj => absurd hj (Nat.not_lt_zero j))
end
