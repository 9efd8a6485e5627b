section
noncomputable def rlV (p : Prop) : Int := @ite Int p (Classical.propDecidable p) 1 0
theorem rlV_of {p : Prop} {v : Int} (h : rl p v) : v = rlV p := by
  unfold rlV
  rcases h with ⟨h1, h2⟩ | ⟨h1, h2⟩
  · rw [if_pos h2]; exact h1
  · rw [if_neg h2]; exact h1
theorem rlV_01 (p : Prop) : rlV p = 0 ∨ rlV p = 1 := by
  unfold rlV
  by_cases h : p
  · rw [if_pos h]; exact Or.inr rfl
  · rw [if_neg h]; exact Or.inl rfl
def srcT (ln : List Int) (t : qT) : Int := if t.1 = 0 ∨ t.1 = 8 then -1 else if t.1 < 5 then li ln t.2.2 else t.2.2
/-- the facts of a taking -/
noncomputable def fct (nw : Int) (WL : Int → List Int) (WS WO : Int → Int) (ln : List Int) (t : qT) (x : Int) : Int :=
  if x = 13 then 1 else if x = 14 then rlV (realP nw WL ln t) else if x = 15 then gapT t else if x = 16 then (if t.1 = 0 then 0 else t.2.1) else if x = 17 then ln.length
  else if x = 18 then (if srcT ln t = -1 then 0 else WO (srcT ln t)) else if x = 19 then (if t.1 = 0 then 0 else WO (li ln t.2.1)) else if x = 20 then (if srcT ln t = -1 then 0 else if WS (srcT ln t) = WS (li ln t.2.1) then 1 else 0) else farT WL ln t
theorem src_none {ln : List Int} {k p o : Int} (h : k = 0 ∨ k = 8) : srcT ln (k, p, o) = -1 := if_pos h
theorem src_rng {nw : Int} {ln : List Int} {t : qT} (g : G_L nw ln) (ok : okT nw ln t) : srcT ln t = -1 ∨ (0 ≤ srcT ln t ∧ srcT ln t < nw) := by
  obtain ⟨k, p, o⟩ := t
  unfold okT at ok; dsimp only at ok
  unfold srcT; dsimp only
  split
  · exact Or.inl rfl
  · split
    · exact Or.inr (li_rng g (by omega) (by omega))
    · exact Or.inr (by omega)
theorem far_rng {nw : Int} {WL : Int → List Int} {WS WE WO : Int → Int} (gW : G_W nw WL WS WE WO) {ln : List Int} {t : qT} (g : G_L nw ln) (ok : okT nw ln t) : 0 ≤ farT WL ln t ∧ farT WL ln t ≤ 24 := by
  unfold farT
  split
  · omega
  · rename_i h
    have hp : 0 ≤ t.2.1 ∧ t.2.1 < ln.length := by unfold okT at ok; omega
    have rp := li_rng g hp.1 hp.2
    have p8 := (G_ok8 gW rp.1 rp.2).1
    have pl := (pie_len gW g ok hp.1 hp.2).1
    have ur := unl_rng (WL (li ln t.2.1)) (pie WL ln t t.2.1)
    omega
theorem fct_ok {nw : Int} {WL : Int → List Int} {WS WE WO : Int → Int} (gW : G_W nw WL WS WE WO) {ln : List Int} {t : qT} (g : G_L nw ln) (ok : okT nw ln t) : okF (fct nw WL WS WO ln t) := by
  have g6 := g.1
  refine ⟨⟨rfl, ?_⟩, fun x h0 h1 => ?_⟩
  · show (if (14 : Int) = 13 then (1 : Int) else if (14 : Int) = 14 then rlV (realP nw WL ln t) else _) = 0 ∨ _
    exact rlV_01 _
  · have fr := far_rng gW g ok
    have sr := src_rng g ok
    unfold fct
    rw [if_neg (by omega), if_neg (by omega)]
    split
    · unfold gapT; unfold okT at ok; split <;> (try split) <;> omega
    · split
      · unfold okT at ok; split <;> omega
      · split
        · omega
        · split
          · split
            · omega
            · rename_i h
              have := (gW.2.1 _ (sr.resolve_left h).1 (sr.resolve_left h).2).2.2.2
              omega
          · split
            · split
              · omega
              · rename_i h
                have hp : 0 ≤ t.2.1 ∧ t.2.1 < ln.length := by unfold okT at ok; omega
                have rp := li_rng g hp.1 hp.2
                have := (gW.2.1 _ rp.1 rp.2).2.2.2
                omega
            · split
              · split
                · omega
                · split <;> omega
              · omega
/-- eight facts in their places -/
theorem C_F_of {nw : Int} {WL : Int → List Int} {WS WO : Int → Int} {ln : List Int} {t : qT} {M : qM} (h0 : q_nm M 16 0 = gapT t) (h1 : q_nm M 16 1 = if t.1 = 0 then 0 else t.2.1) (h2 : q_nm M 16 2 = ln.length) (h3 : q_nm M 16 3 = if srcT ln t = -1 then 0 else WO (srcT ln t)) (h4 : q_nm M 16 4 = if t.1 = 0 then 0 else WO (li ln t.2.1)) (h5 : q_nm M 16 5 = if srcT ln t = -1 then 0 else if WS (srcT ln t) = WS (li ln t.2.1) then 1 else 0) (h6 : q_nm M 16 6 = farT WL ln t) (h7 : q_nm M 16 7 = rlV (realP nw WL ln t)) : C_F (fct nw WL WS WO ln t) M := by
  refine ⟨⟨rfl, h7⟩, fun x a b => ?_⟩
  have c : x = 15 ∨ x = 16 ∨ x = 17 ∨ x = 18 ∨ x = 19 ∨ x = 20 ∨ x = 21 := by omega
  rcases c with c | c | c | c | c | c | c <;> subst c
  · exact h0
  · exact h1
  · exact h2
  · exact h3
  · exact h4
  · exact h5
  · exact h6
theorem ctx_16 {M M' : qM} {m nw : Int} {WL : Int → List Int} {WS WE WO : Int → Int} {ln : List Int} (h : ctx M m nw WL WS WE WO ln) (f : fr (fun a _ => a = 16) M M') : ctx M' m nw WL WS WE WO ln := by
  have ge := q_ml_ge h.1.1
  exact ctx_fr h f (fun j => by omega) (fun a j _ _ => by omega)
theorem C_at_16 {M M' : qM} {m i : Int} {t : qT} (hm : 126 ≤ m) (h : C_at M m i t) (f : fr (fun a _ => a = 16) M M') : C_at M' m i t := ⟨(f.2 _ _ (by dsimp only; omega)).trans h.1, (f.2 _ _ (by dsimp only; omega)).trans h.2.1, (f.2 _ _ (by dsimp only; omega)).trans h.2.2⟩
theorem c_24s {d : Nat} {P : Int → qM → Prop} {M0 M : qM} {m nw k p o x5 : Int} {WL : Int → List Int} {WS WE WO : Int → Int} {ln : List Int} {c s : Nat} (hc : ctx M m nw WL WS WE WO ln) (ok : okT nw ln (k, p, o)) (hk : k ≠ 0 ∧ k ≠ 8) (hf : fr (fun a _ => a = 16) M0 M) (hs : x5 = srcT ln (k, p, o)) (h0 : q_nm M 16 0 = gapT (k, p, o)) (h1 : q_nm M 16 1 = p) (h2 : q_nm M 16 2 = ln.length) (h4 : q_nm M 16 4 = WO (li ln p)) (h6 : q_nm M 16 6 = farT WL ln (k, p, o)) (h7 : q_nm M 16 7 = rlV (realP nw WL ln (k, p, o)))
    (K : ∀ M', fr (fun a _ => a = 16) M0 M' → C_F (fct nw WL WS WO ln (k, p, o)) M' → P 0 M') : q_At q_m24 (q_WP q_Pr d) P 127 [(0, .inr (.inr m)), (2, .inr (.inr 16)), (3, .inl p), (5, .inl x5)] [] M c s := by
  have gn := hc.2.2.1.1
  have ge := q_ml_ge hc.1.1
  have ok' := ok
  unfold okT at ok'; dsimp only at ok'
  have hp : 0 ≤ p ∧ p < ln.length := by omega
  have rp := li_rng hc.2.2.2 hp.1 hp.2
  have sne : srcT ln (k, p, o) ≠ -1 := fun e => by
    unfold srcT at e; dsimp only at e
    rw [if_neg (by omega)] at e
    split at e
    · have := li_rng hc.2.2.2 (show 0 ≤ o by omega) (show o < ln.length by omega); omega
    · omega
  have sr := (src_rng hc.2.2.2 ok).resolve_left sne
  refine t_24_127 hc.1.1 ?_
  rw [(hc.2.1.2 x5 (by omega) (by omega)).2.2.2]
  refine ⟨by omega, fun M1 e1 l1 => ?_⟩
  have f1 : fr (fun a _ => a = 16) M M1 := fr_wn e1 rfl
  have hc1 := ctx_16 hc f1
  rw [C_M_li hc1.1 hp.1 hp.2, (hc1.2.1.2 x5 (by omega) (by omega)).2.1, (hc1.2.1.2 (li ln p) rp.1 rp.2).2.1]
  have fin : ∀ v : Int, v = (if WS (srcT ln (k, p, o)) = WS (li ln p) then 1 else 0) → q_At q_m24 (q_WP q_Pr d) P 174 [] [.inl v, .inl (5 : Int), .inr (.inr 16)] M1 c s := fun v hv => by
    refine t_24_174 hc1.1.1 ?_
    rw [lk16 hc1.1.1.1, ll16 hc1.1.1.1]
    refine ⟨⟨⟨by decide, rfl⟩, by decide, by decide⟩, fun M2 e2 l2 => K M2 (fr_trans hf (fr_trans f1 (fr_wn e2 rfl))) (C_F_of ?_ ?_ ?_ ?_ ?_ ?_ ?_ ?_)⟩
    · rw [wn_ne e2 (by omega), wn_ne e1 (by omega)]; exact h0
    · rw [wn_ne e2 (by omega), wn_ne e1 (by omega), h1]; dsimp only; rw [if_neg hk.1]
    · rw [wn_ne e2 (by omega), wn_ne e1 (by omega)]; exact h2
    · rw [wn_ne e2 (by omega), wn_eq e1, if_neg sne, hs]
    · rw [wn_ne e2 (by omega), wn_ne e1 (by omega), h4]; dsimp only; rw [if_neg hk.1]
    · rw [wn_eq e2, if_neg sne]; exact hv
    · rw [wn_ne e2 (by omega), wn_ne e1 (by omega)]; exact h6
    · rw [wn_ne e2 (by omega), wn_ne e1 (by omega)]; exact h7
  rw [hs]
  exact ⟨by omega, hp, by omega, fun z => fin 0 (by rw [if_neg z]), fun z => fin 1 (by rw [if_pos z])⟩
theorem c_24t {d : Nat} {P : Int → qM → Prop} {M0 M5 : qM} {m nw i k p o : Int} {WL : Int → List Int} {WS WE WO : Int → Int} {ln : List Int} (hc : ctx M5 m nw WL WS WE WO ln) (hi : 0 ≤ i ∧ i < mst ln.length) (hat : C_at M5 m i (k, p, o)) (ok : okT nw ln (k, p, o)) (hf : fr (fun a _ => a = 16) M0 M5) (hz : ∀ j, (j = 0 ∨ j = 1 ∨ j = 3 ∨ j = 4 ∨ j = 5) → q_nm M5 16 j = 0) (h2 : q_nm M5 16 2 = ln.length) (h6 : q_nm M5 16 6 = farT WL ln (k, p, o)) (h7 : q_nm M5 16 7 = rlV (realP nw WL ln (k, p, o)))
    (K : ∀ M', fr (fun a _ => a = 16) M0 M' → C_F (fct nw WL WS WO ln (k, p, o)) M' → P 0 M') :
    ((0 ≤ i ∧ i < mst ln.length) ∧ ((¬ (q_nm M5 (m + 4) i) = 0 → ((0 ≤ i ∧ i < mst ln.length) ∧ ((0 ≤ i ∧ i < mst ln.length) ∧ (∀ M6 : qM, M6 = q_wn M5 16 (1 : Int) (q_nm M5 (m + 5) i) → q_ml M6 m ln.length (mst ln.length) → ((0 ≤ (q_nm M5 (m + 5) i) ∧ (q_nm M5 (m + 5) i) < ln.length) ∧ ((0 ≤ (q_nm M6 (m + 1) (q_nm M5 (m + 5) i)) ∧ (q_nm M6 (m + 1) (q_nm M5 (m + 5) i)) < 30) ∧ (∀ M7 : qM, M7 = q_wn M6 16 (4 : Int) (q_nm M6 9 (q_nm M6 (m + 1) (q_nm M5 (m + 5) i))) → q_ml M7 m ln.length (mst ln.length) → ((¬ (q_nm M5 (m + 6) i) = (-1 : Int) → ((0 ≤ i ∧ i < mst ln.length) ∧ (((4 : Int) < (q_nm M7 (m + 4) i) → (q_At q_m24 (q_WP q_Pr (d + 1)) P 127 [(0, .inr (.inr m)), (2, .inr (.inr 16)), (3, .inl (q_nm M5 (m + 5) i)), (5, .inl (q_nm M5 (m + 6) i))] [] M7 0 0)) ∧ ((q_nm M7 (m + 4) i) ≤ (4 : Int) → q_WP q_Pr (d + 1) 256 [.inl (w32 ((q_nm M5 (m + 6) i) - (q_nm M5 (m + 5) i)))] M7 (fun v8 M9 => q_ml M9 m ln.length (mst ln.length) ∧ (∀ M10 : qM, M10 = q_wn M9 16 (0 : Int) v8 → q_ml M10 m ln.length (mst ln.length) → ((0 ≤ (q_nm M5 (m + 6) i) ∧ (q_nm M5 (m + 6) i) < ln.length) ∧ (q_At q_m24 (q_WP q_Pr (d + 1)) P 127 [(0, .inr (.inr m)), (2, .inr (.inr 16)), (3, .inl (q_nm M5 (m + 5) i)), (5, .inl (q_nm M10 (m + 1) (q_nm M5 (m + 6) i)))] [] M10 0 0)))))))) ∧ ((q_nm M5 (m + 6) i) = (-1 : Int) → (P (0 : Int) M7)))))))))) ∧ ((q_nm M5 (m + 4) i) = 0 → (P (0 : Int) M5)))) := by
  have gn := hc.2.2.1.1
  have ge := q_ml_ge hc.1.1
  have g6 := hc.2.2.2.1
  have b4 : q_nm M5 (m + 4) i = k := hat.1
  have b5 : q_nm M5 (m + 5) i = p := hat.2.1
  have b6 : q_nm M5 (m + 6) i = o := hat.2.2
  have ok' := ok
  unfold okT at ok'; dsimp only at ok'
  rw [b4, b5, b6]
  refine ⟨hi, fun z => ⟨hi, hi, fun M6 e6 l6 => ?_⟩, fun z => ?_⟩
  · have hp : 0 ≤ p ∧ p < ln.length := by omega
    have rp := li_rng hc.2.2.2 hp.1 hp.2
    have f6 : fr (fun a _ => a = 16) M5 M6 := fr_wn e6 rfl
    have hc6 := ctx_16 hc f6
    rw [C_M_li hc6.1 hp.1 hp.2, (hc6.2.1.2 (li ln p) rp.1 rp.2).2.2.2]
    refine ⟨hp, by omega, fun M7 e7 l7 => ?_⟩
    have f7 : fr (fun a _ => a = 16) M5 M7 := fr_trans f6 (fr_wn e7 rfl)
    have hc7 := ctx_16 hc f7
    have hat7 := C_at_16 ge hat f7
    have c4 : q_nm M7 (m + 4) i = k := hat7.1
    rw [c4]
    have f07 := fr_trans hf f7
    have v : ∀ j, j ≠ 1 → j ≠ 4 → q_nm M7 16 j = q_nm M5 16 j := fun j a b => by rw [wn_ne e7 (by omega), wn_ne e6 (by omega)]
    have v1 : q_nm M7 16 1 = p := by rw [wn_ne e7 (by omega)]; exact wn_eq e6
    have v4 : q_nm M7 16 4 = WO (li ln p) := wn_eq e7
    refine ⟨fun y => ⟨hi, fun x => ?_, fun x => ?_⟩, fun y => K M7 f07 (C_F_of ?_ ?_ ?_ ?_ ?_ ?_ ?_ ?_)⟩
    · refine c_24s hc7 ok (by omega) f07 (by unfold srcT; dsimp only; rw [if_neg (by omega), if_neg (by omega)]) ?_ v1 ?_ v4 ?_ ?_ K
      · rw [v 0 (by omega) (by omega), hz 0 (by omega)]; unfold gapT; dsimp only; rw [if_neg (by omega)]
      · rw [v 2 (by omega) (by omega)]; exact h2
      · rw [v 6 (by omega) (by omega)]; exact h6
      · rw [v 7 (by omega) (by omega)]; exact h7
    · have ho : 0 ≤ o ∧ o < ln.length := by omega
      rw [w32_id (x := o - p) (by omega) (by omega)]
      have fin : ∀ gv : Int, gv = gapT (k, p, o) → ∀ M10 : qM, M10 = q_wn M7 16 (0 : Int) gv → q_ml M10 m ln.length (mst ln.length) → ((0 ≤ o ∧ o < ln.length) ∧ (q_At q_m24 (q_WP q_Pr (d + 1)) P 127 [(0, .inr (.inr m)), (2, .inr (.inr 16)), (3, .inl p), (5, .inl (q_nm M10 (m + 1) o))] [] M10 0 0)) := fun gv hg M10 e10 l10 => by
        have f10 : fr (fun a _ => a = 16) M5 M10 := fr_trans f7 (fr_wn e10 rfl)
        have hc10 := ctx_16 hc f10
        rw [C_M_li hc10.1 ho.1 ho.2]
        refine ⟨ho, c_24s hc10 ok (by omega) (fr_trans hf f10) (by unfold srcT; dsimp only; rw [if_neg (by omega), if_pos (by omega)]) ?_ ?_ ?_ ?_ ?_ ?_ K⟩
        · rw [wn_eq e10]; exact hg
        · rw [wn_ne e10 (by omega)]; exact v1
        · rw [wn_ne e10 (by omega), v 2 (by omega) (by omega)]; exact h2
        · rw [wn_ne e10 (by omega)]; exact v4
        · rw [wn_ne e10 (by omega), v 6 (by omega) (by omega)]; exact h6
        · rw [wn_ne e10 (by omega), v 7 (by omega) (by omega)]; exact h7
      refine q_enter (s_256_0 ⟨fun w => ⟨l7, fin _ ?_⟩, fun w => ⟨l7, fin _ ?_⟩⟩)
      · unfold gapT; dsimp only; rw [if_pos (by omega)]; split <;> omega
      · rw [w32_id (by omega) (by omega)]; unfold gapT; dsimp only; rw [if_pos (by omega)]; split <;> omega
    · rw [v 0 (by omega) (by omega), hz 0 (by omega)]; unfold gapT; dsimp only; rw [if_neg (by omega)]
    · rw [v1]; dsimp only; rw [if_neg z]
    · rw [v 2 (by omega) (by omega)]; exact h2
    · rw [v 3 (by omega) (by omega), hz 3 (by omega), src_none (by omega), if_pos rfl]
    · rw [v4]; dsimp only; rw [if_neg z]
    · rw [v 5 (by omega) (by omega), hz 5 (by omega), src_none (by omega), if_pos rfl]
    · rw [v 6 (by omega) (by omega)]; exact h6
    · rw [v 7 (by omega) (by omega)]; exact h7
  · refine K M5 hf (C_F_of ?_ ?_ h2 ?_ ?_ ?_ h6 h7)
    · rw [hz 0 (by omega)]; unfold gapT; dsimp only; rw [if_neg (by omega)]
    · rw [hz 1 (by omega)]; dsimp only; rw [if_pos z]
    · rw [hz 3 (by omega), src_none (Or.inl z), if_pos rfl]
    · rw [hz 4 (by omega)]; dsimp only; rw [if_pos z]
    · rw [hz 5 (by omega), src_none (Or.inl z), if_pos rfl]
theorem c_24 {d : Nat} {P : Int → qM → Prop} {M : qM} {m nw i : Int} {WL : Int → List Int} {WS WE WO : Int → Int} {ln : List Int} {t : qT} (hc : ctx M m nw WL WS WE WO ln) (hi : 0 ≤ i ∧ i < mst ln.length) (hat : C_at M m i t) (ok : okT nw ln t) (h7 : q_nm M (m + 7) i = farT WL ln t) (h8 : rl (realP nw WL ln t) (q_nm M (m + 8) i))
    (K : ∀ M', fr (fun a _ => a = 16) M M' → C_F (fct nw WL WS WO ln t) M' → P 0 M') : q_WP q_Pr (d + 2) 24 [.inr (.inr m), .inl i, .inr (.inr 16)] M P := by
  have ge := q_ml_ge hc.1.1
  have hl := hc.1.1.1
  obtain ⟨k, p, o⟩ := t
  refine q_enter (t_24_0 hc.1.1 (c_262 (n := 8) (by decide) (lk16 hl) (ll16 hl) (by decide) (by decide) (fun M1 f1 c1 => ⟨q_ml_fr f1 hc.1.1, fun M3 e3 l3 => ?_⟩)))
  have f3 : fr (fun a _ => a = 16) M M3 := fr_trans f1 (fr_wn e3 rfl)
  rw [f3.2 (m + 7) i (by dsimp only; omega), h7]
  refine ⟨hi, fun M4 e4 l4 => ?_⟩
  have f4 : fr (fun a _ => a = 16) M M4 := fr_trans f3 (fr_wn e4 rfl)
  have r8 := rlV_of h8
  rw [f4.2 (m + 8) i (by dsimp only; omega)]
  have go : ∀ M5 : qM, M5 = q_wn M4 16 7 (q_nm M (m + 8) i) → ctx M5 m nw WL WS WE WO ln ∧ C_at M5 m i (k, p, o) ∧ fr (fun a _ => a = 16) M M5 ∧ (∀ j, (j = 0 ∨ j = 1 ∨ j = 3 ∨ j = 4 ∨ j = 5) → q_nm M5 16 j = 0) ∧ q_nm M5 16 2 = ln.length ∧ q_nm M5 16 6 = farT WL ln (k, p, o) ∧ q_nm M5 16 7 = rlV (realP nw WL ln (k, p, o)) := fun M5 e5 => by
    have f5 : fr (fun a _ => a = 16) M M5 := fr_trans f4 (fr_wn e5 rfl)
    refine ⟨ctx_16 hc f5, C_at_16 ge hat f5, f5, fun j hj => ?_, ?_, ?_, ?_⟩
    · rw [wn_ne e5 (by omega), wn_ne e4 (by omega), wn_ne e3 (by omega)]; exact c1 j (by omega) (by omega)
    · rw [wn_ne e5 (by omega), wn_ne e4 (by omega)]; exact wn_eq e3
    · rw [wn_ne e5 (by omega)]; exact wn_eq e4
    · rw [wn_eq e5]; exact r8
  refine ⟨hi, fun z M5 e5 l5 => ?_, fun z M5 e5 l5 => ?_⟩
  · obtain ⟨a1, a2, a3, a4, a5, a6, a7⟩ := go M5 (by rw [z]; exact e5)
    exact c_24t a1 hi a2 ok a3 a4 a5 a6 a7 K
  · have z1 : q_nm M (m + 8) i = 1 := by
      rcases h8 with ⟨h, _⟩ | ⟨h, _⟩
      · exact h
      · exact absurd h z
    obtain ⟨a1, a2, a3, a4, a5, a6, a7⟩ := go M5 (by rw [z1]; exact e5)
    exact c_24t a1 hi a2 ok a3 a4 a5 a6 a7 K
end
