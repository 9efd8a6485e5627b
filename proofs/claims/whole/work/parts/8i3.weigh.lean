section
/-- a statement: its kind, its sum, its test -/
abbrev qS : Type := Int × List Int × List Int
def vals (F : Int → Int) (k : Int) : List qS → Int
  | [] => 0
  | st :: r => if st.1 = k ∧ ev F st.2.2 ≠ 0 then ev F st.2.1 else vals F k r
theorem vals_cons {F : Int → Int} {k : Int} {st : qS} {r : List qS} : vals F k (st :: r) = if st.1 = k ∧ ev F st.2.2 ≠ 0 then ev F st.2.1 else vals F k r := rfl
def G_sc (sc : List qS) : Prop := sc.length ≤ 20 ∧ ∀ st ∈ sc, (tyr st.2.1 [] = some [false] ∧ tyr st.2.2 [] = some [true])
def C_st (M : qM) (b i : Int) (st : qS) : Prop := q_nm M (b + 1) i = st.1 ∧ ∃ f, 0 ≤ f ∧ q_nm M (b + 2) i = f ∧ q_nm M (b + 3) i = f + st.2.1.length ∧ q_nm M (b + 4) i = f + st.2.1.length + st.2.2.length ∧ f + st.2.1.length + st.2.2.length ≤ q_ln M (b + 5) ∧ q_L M (b + 5) f st.2.1 ∧ q_L M (b + 5) (f + st.2.1.length) st.2.2
/-- a Script at b: its cells -/
def s_lay (M : qM) (b : Int) : Prop := 126 ≤ b ∧ q_kd M b = 5 ∧ (q_rf M b 2 = b + 1 ∧ q_kd M (b + 1) = 14 ∧ q_ln M (b + 1) = 20) ∧ (q_rf M b 3 = b + 2 ∧ q_kd M (b + 2) = 14 ∧ q_ln M (b + 2) = 20) ∧ (q_rf M b 4 = b + 3 ∧ q_kd M (b + 3) = 14 ∧ q_ln M (b + 3) = 20) ∧ (q_rf M b 5 = b + 4 ∧ q_kd M (b + 4) = 14 ∧ q_ln M (b + 4) = 20) ∧ (q_rf M b 0 = b + 5 ∧ q_kd M (b + 5) = 14 ∧ q_ln M (b + 5) ≤ 2100)
def C_sc (M : qM) (b : Int) (sc : List qS) : Prop := s_lay M b ∧ q_nm M b 6 = sc.length ∧ ∀ i : Nat, i < sc.length → C_st M b i (sc.getD i (0, [], []))
theorem s_lay_fr {Z : Int → Int → Prop} {M M' : qM} {b : Int} (h : s_lay M b) (f : fr Z M M') : s_lay M' b := by
  unfold s_lay at h ⊢
  simp only [fr_kd f, fr_ln f, fr_rf f]
  exact h
theorem C_sc_fr {Z : Int → Int → Prop} {M M' : qM} {b : Int} {sc : List qS} (h : C_sc M b sc) (f : fr Z M M') (z : ∀ a j, b ≤ a → a ≤ b + 5 → ¬ Z a j) : C_sc M' b sc := by
  refine ⟨s_lay_fr h.1 f, (f.2 _ _ (z _ _ (by omega) (by omega))).trans h.2.1, fun i hi => ?_⟩
  obtain ⟨h1, g, h2, h3, h4, h5, h6, h7, h8⟩ := h.2.2 i hi
  refine ⟨(f.2 _ _ (z _ _ (by omega) (by omega))).trans h1, g, h2, (f.2 _ _ (z _ _ (by omega) (by omega))).trans h3, (f.2 _ _ (z _ _ (by omega) (by omega))).trans h4, (f.2 _ _ (z _ _ (by omega) (by omega))).trans h5, by rw [fr_ln f]; exact h6, q_L_fr h7 (fun j _ _ => f.2 _ _ (z _ _ (by omega) (by omega))), q_L_fr h8 (fun j _ _ => f.2 _ _ (z _ _ (by omega) (by omega)))⟩
theorem drop_cons {sc : List qS} {i : Nat} (h : i < sc.length) : sc.drop i = sc.getD i (0, [], []) :: sc.drop (i + 1) := by
  rw [List.getD_eq_getElem?_getD, List.getElem?_eq_getElem h]; exact List.drop_eq_getElem_cons h
theorem getS_mem {sc : List qS} {i : Nat} (h : i < sc.length) : sc.getD i (0, [], []) ∈ sc := by
  rw [List.getD_eq_getElem?_getD, List.getElem?_eq_getElem h]; exact List.getElem_mem h
theorem c_56l {d : Nat} {P : Int → qM → Prop} {M0 : qM} {b k : Int} {sc : List qS} {F : Int → Int} {c s : Nat} (hl : q_lay M0) (hS : C_sc M0 b sc) (g : G_sc sc) (hF : okF F) (hC : C_F F M0) (K : ∀ M', fr (fun a _ => a = 17) M0 M' → P (vals F k sc) M') : ∀ (n i : Nat) (M : qM), i + n = sc.length → fr (fun a _ => a = 17) M0 M → vals F k (sc.drop i) = vals F k sc → q_At q_m56 (q_WP q_Pr (d + 3)) P 2 [(0, .inr (.inr b)), (1, .inl k), (2, .inr (.inr 15)), (3, .inl (i : Int))] [] M c s := by
  have ge := hS.1.1
  have g20 := g.1
  intro n
  induction n with
  | zero =>
    intro i M e hf hv
    have hS' := C_sc_fr hS hf (fun a j _ _ => by omega)
    refine s_56_2 ?_
    rw [hS'.2.1, hS'.1.2.1]
    rw [show i = sc.length by omega, List.drop_length] at hv
    refine ⟨rfl, fun _ => ?_, fun z => absurd z (by omega)⟩
    have := K M hf
    rw [← hv] at this
    exact this
  | succ n ih =>
    intro i M e hf hv
    have hS' := C_sc_fr hS hf (fun a j _ _ => by omega)
    obtain ⟨_, s1, s2, s3, s4, s5, s6⟩ := hS'.1
    obtain ⟨t1, f, t2, t3, t4, t5, t6, t7, t8⟩ := hS'.2.2 i (by omega)
    have gs := g.2 _ (getS_mem (show i < sc.length by omega))
    have hC' : C_F F M := ⟨⟨hC.1.1, (hf.2 16 7 (by dsimp only; omega)).trans hC.1.2⟩, fun t a b => (hf.2 16 _ (by dsimp only; omega)).trans (hC.2 t a b)⟩
    have hd := drop_cons (show i < sc.length by omega)
    have nx : ∀ M', fr (fun a _ => a = 17) M M' → ¬ ((sc.getD i (0, [], [])).1 = k ∧ ev F (sc.getD i (0, [], [])).2.2 ≠ 0) → q_At q_m56 (q_WP q_Pr (d + 3)) P 2 [(0, .inr (.inr b)), (1, .inl k), (2, .inr (.inr 15)), (3, .inl (w32 ((i : Int) + 1)))] [] M' c s := fun M' f' hn => by
      rw [w32_id (x := (i : Int) + 1) (by omega) (by omega)]
      refine ih (i + 1) M' (by omega) (fr_trans hf f') ?_
      rw [hd] at hv
      rw [vals_cons, if_neg hn] at hv; exact hv
    refine s_56_2 ?_
    rw [s1, s2.1, s4.1, s5.1, s6.1, s2.2.1, s2.2.2, s4.2.1, s4.2.2, s5.2.1, s5.2.2, hS'.2.1, t1, t4, t5]
    refine ⟨rfl, fun z => absurd z (by omega), fun _ => ⟨rfl, ⟨rfl, by omega, by omega⟩, fun z => nx M fr_rfl (fun q => z q.1), fun z => ⟨rfl, rfl, ⟨rfl, by omega, by omega⟩, rfl, ⟨rfl, by omega, by omega⟩, lk15 (fr_lay hf hl), ?_⟩⟩⟩
    refine c_1 (cd := (sc.getD i (0, [], [])).2.2) (fr_lay hf hl) hF ⟨s6.2.1, by omega⟩ (by omega) rfl t6 (by omega) hC' t8 gs.2 (fun M1 f1 => ⟨fun y => nx M1 f1 (fun q => q.2 y), fun y => ?_⟩)
    have hS1 := C_sc_fr hS (fr_trans hf f1) (fun a j _ _ => by omega)
    obtain ⟨_, r1, r2, r3, r4, r5, r6⟩ := hS1.1
    have u3 : q_nm M1 (b + 2) i = f := (f1.2 _ _ (by dsimp only; omega)).trans t3
    have u4 : q_nm M1 (b + 3) i = f + (sc.getD i (0, [], [])).2.1.length := (f1.2 _ _ (by dsimp only; omega)).trans t4
    rw [r1, r3.1, r4.1, r6.1, r3.2.1, r3.2.2, r4.2.1, r4.2.2, u3, u4]
    refine ⟨rfl, rfl, ⟨rfl, by omega, by omega⟩, rfl, ⟨rfl, by omega, by omega⟩, lk15 (fr_lay (fr_trans hf f1) hl), ?_⟩
    have hC1 : C_F F M1 := ⟨⟨hC'.1.1, (f1.2 16 7 (by dsimp only; omega)).trans hC'.1.2⟩, fun t a b => (f1.2 16 _ (by dsimp only; omega)).trans (hC'.2 t a b)⟩
    refine c_1 (cd := (sc.getD i (0, [], [])).2.1) (fr_lay (fr_trans hf f1) hl) hF ⟨r6.2.1, by omega⟩ t2 rfl (by rw [fr_ln f1]; omega) (by omega) hC1 (q_L_fr t7 (fun j _ _ => f1.2 _ _ (by dsimp only; omega))) gs.1 (fun M2 f2 => ?_)
    have := K M2 (fr_trans hf (fr_trans f1 f2))
    rw [← hv, hd] at this
    rw [vals_cons, if_pos ⟨z, y⟩] at this; exact this
theorem c_56 {d : Nat} {P : Int → qM → Prop} {M : qM} {b k : Int} {sc : List qS} {F : Int → Int} (hl : q_lay M) (hS : C_sc M b sc) (g : G_sc sc) (hF : okF F) (hC : C_F F M) (K : ∀ M', fr (fun a _ => a = 17) M M' → P (vals F k sc) M') : q_WP q_Pr (d + 4) 56 [.inr (.inr b), .inl k, .inr (.inr 15)] M P :=
  q_enter (s_56_0 (c_56l hl hS g hF hC K sc.length 0 M (by omega) fr_rfl rfl))
/-- a weight by a making (or the ear), if it is there -/
def wgt (most : Int) (so : Option (List qS)) (F : Int → Int) (k : Int) : Int := match so with
  | none => most
  | some sc => max 0 (min most (vals F k sc))
def mostOf (slot : Int) : Int := if slot = 4 then 100 else 1000
noncomputable def wT (nw : Int) (WL : Int → List Int) (WS WO : Int → Int) (ln : List Int) (slot : Int) (so : Option (List qS)) (t : qT) : Int := wgt (mostOf slot) so (fct nw WL WS WO ln t) t.1
theorem wT_rng (nw : Int) (WL : Int → List Int) (WS WO : Int → Int) (ln : List Int) (slot : Int) (so : Option (List qS)) (t : qT) : 0 ≤ wT nw WL WS WO ln slot so t ∧ wT nw WL WS WO ln slot so t ≤ 1000 := by
  unfold wT wgt mostOf
  split <;> split <;> omega
/-- a script's object, if it is there -/
def C_so (M : qM) (r : Int) (so : Option (List qS)) : Prop := match so with
  | none => r = -1
  | some sc => C_sc M r sc ∧ G_sc sc
def ZW (m slot : Int) : Int → Int → Prop := fun a _ => a = m + 13 + slot ∨ a = 16 ∨ a = 17
def sepS (m r : Int) (so : Option (List qS)) : Prop := so = none ∨ r + 6 ≤ m ∨ m + 24 ≤ r
theorem C_so_W {M M' : qM} {m r slot : Int} {so : Option (List qS)} (h : C_so M r so) (hs : sepS m r so) (hsl : 0 ≤ slot ∧ slot < 5) (f : fr (ZW m slot) M M') : C_so M' r so := by
  cases so with
  | none => exact h
  | some sc =>
    have ge := h.1.1.1
    have hs' : r + 6 ≤ m ∨ m + 24 ≤ r := hs.resolve_left (by simp)
    exact ⟨C_sc_fr h.1 f (fun a j _ _ => by unfold ZW; omega), h.2⟩
theorem c_22l {d : Nat} {P : Int → qM → Prop} {M0 : qM} {m nw r slot : Int} {WL : Int → List Int} {WS WE WO : Int → Int} {ln : List Int} {T : List qT} {so : Option (List qS)} {c s : Nat} (hc : ctx M0 m nw WL WS WE WO ln) (hT : C_TK M0 m T) (hn : T.length ≤ mst ln.length) (hok : ∀ t ∈ T, okT nw ln t) (hd : ∀ i : Nat, i < T.length → C_de M0 m nw WL WE ln i (T.getD i (0, 0, 0))) (hso : C_so M0 r so) (hs : sepS m r so) (hsl : 0 ≤ slot ∧ slot < 5)
    (K : ∀ M', fr (ZW m slot) M0 M' → (∀ i : Nat, i < T.length → q_nm M' (m + 13 + slot) i = wT nw WL WS WO ln slot so (T.getD i (0, 0, 0))) → P 0 M') : ∀ (n i : Nat) (M : qM), i + n = T.length → fr (ZW m slot) M0 M → (∀ j : Nat, j < i → q_nm M (m + 13 + slot) j = wT nw WL WS WO ln slot so (T.getD j (0, 0, 0))) → q_At q_m22 (q_WP q_Pr (d + 5)) P 18 [(0, .inr (.inr m)), (1, .inl slot), (2, .inr (.inr r)), (3, .inr (.inr 15)), (4, .inl (mostOf slot)), (5, .inl (i : Int))] [] M c s := by
  have ge := q_ml_ge hc.1.1
  have m6 := mst_le hc.2.2.2.1.2
  intro n
  induction n with
  | zero =>
    intro i M e hf h
    refine t_22_18 (d := d + 4) (q_ml_fr hf hc.1.1) ?_
    rw [hf.2 m 3 (by unfold ZW; omega), hT.1]
    exact ⟨fun _ => K M hf (fun j hj => h j (by omega)), fun z => absurd z (by omega)⟩
  | succ n ih =>
    intro i M e hf h
    have hc' : ctx M m nw WL WS WE WO ln := ctx_fr hc hf (fun j => by unfold ZW; omega) (fun a j _ _ => by unfold ZW; omega)
    have o1 := hT.2 i (by omega)
    have hat : C_at M m i (T.getD i (0, 0, 0)) := ⟨(hf.2 _ _ (by unfold ZW; omega)).trans o1.1, (hf.2 _ _ (by unfold ZW; omega)).trans o1.2.1, (hf.2 _ _ (by unfold ZW; omega)).trans o1.2.2⟩
    have hde := C_de_fr (hd i (by omega)) (fun a _ _ => hf.2 a _ (by unfold ZW; omega))
    have okt := hok _ (getT_mem (show i < T.length by omega))
    have hso' := C_so_W hso hs hsl hf
    have w := mw hc'.1.1 hsl.1 hsl.2
    have nx : ∀ (M' : qM) (v : Int), v = wT nw WL WS WO ln slot so (T.getD i (0, 0, 0)) → ∀ M'' : qM, fr (fun a _ => a = 16 ∨ a = 17) M M' → M'' = q_wn M' (m + 13 + slot) i v → q_At q_m22 (q_WP q_Pr (d + 5)) P 18 [(0, .inr (.inr m)), (1, .inl slot), (2, .inr (.inr r)), (3, .inr (.inr 15)), (4, .inl (mostOf slot)), (5, .inl (w32 ((i : Int) + 1)))] [] M'' c s := fun M' v hv M'' f' e' => by
      rw [w32_id (x := (i : Int) + 1) (by omega) (by omega)]
      refine ih (i + 1) M'' (by omega) (fr_trans hf (fr_trans (fr_mono f' (fun a j q => Or.inr q)) (fr_wn e' (Or.inl rfl)))) (fun j hj => ?_)
      by_cases ej : j = i
      · rw [ej, wn_eq e', hv]
      · rw [wn_ne e' (by omega)]
        rw [f'.2 _ _ (by dsimp only; omega)]; exact h j (by omega)
    refine t_22_18 (d := d + 4) hc'.1.1 ?_
    rw [hf.2 m 3 (by unfold ZW; omega), hT.1, w.1, w.2.1, w.2.2]
    refine ⟨fun z => absurd z (by omega), fun _ => ⟨fun z => ⟨hsl, ⟨⟨by omega, rfl⟩, by omega, by omega⟩, fun M5 e5 l5 => ?_⟩, fun z => ?_⟩⟩
    · refine nx M _ ?_ M5 fr_rfl e5
      cases so with
      | none => show max 0 (min (mostOf slot) (mostOf slot)) = mostOf slot; unfold mostOf; split <;> omega
      | some sc => have := hso'.1.1.1; omega
    · refine c_24 (d := d + 3) (t := T.getD i (0, 0, 0)) hc' (by omega) hat okt hde.1 hde.2.1 (fun M1 f1 c1 => ⟨q_ml_fr f1 hc'.1.1, by omega, ?_⟩)
      cases so with
      | none => exact absurd hso' z
      | some sc =>
        have fz1 : fr (ZW m slot) M M1 := fr_mono f1 (fun a j q => Or.inr (Or.inl q))
        have hso1 := C_so_W hso' hs hsl fz1
        rw [f1.2 (m + 4) i (by dsimp only; omega), hat.1]
        refine ⟨hso1.1.1.2.1, c_56 (F := fct nw WL WS WO ln (T.getD i (0, 0, 0))) (fr_lay f1 hc'.1.1.1) hso1.1 hso1.2 (fct_ok hc.2.2.1 hc.2.2.2 okt) c1 (fun M2 f2 => ⟨q_ml_fr f2 (q_ml_fr f1 hc'.1.1), hsl, ?_⟩)⟩
        have w2 := mw (q_ml_fr f2 (q_ml_fr f1 hc'.1.1)) hsl.1 hsl.2
        rw [w2.1, w2.2.1, w2.2.2]
        exact ⟨⟨⟨by omega, rfl⟩, by omega, by omega⟩, fun M14 e14 l14 => nx M2 _ rfl M14 (fr_trans (fr_mono f1 (fun a j q => Or.inl q)) (fr_mono f2 (fun a j q => Or.inr q))) e14⟩
end
