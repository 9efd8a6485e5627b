section
def or1 (WE : Int → Int) (x v : Int) : Int := if v = -1 then x else q_or x (q_shl 1 (WE v))
def senV (nw : Int) (WL : Int → List Int) (WE : Int → Int) (ln : List Int) (t : qT) (x : Int) : Prop := (t.1 = 0 → x = 0) ∧ (t.1 ≠ 0 → ∃ v1, isNum nw WL (pie WL ln t t.2.1) v1 ∧ (¬ (t.1 = 3 ∨ t.1 = 4) → x = or1 WE 0 v1) ∧ (t.1 = 3 ∨ t.1 = 4 → ∃ v2, isNum nw WL (pie WL ln t t.2.2) v2 ∧ x = or1 WE (or1 WE 0 v1) v2))
def ctx (M : qM) (m nw : Int) (WL : Int → List Int) (WS WE WO : Int → Int) (ln : List Int) : Prop := C_M M m ln ∧ C_W nw WL WS WE WO M ∧ G_W nw WL WS WE WO ∧ G_L nw ln
theorem ctx_fr {Z : Int → Int → Prop} {M M' : qM} {m nw : Int} {WL : Int → List Int} {WS WE WO : Int → Int} {ln : List Int} (h : ctx M m nw WL WS WE WO ln) (f : fr Z M M') (z1 : ∀ j, ¬ Z (m + 1) j) (z2 : ∀ a j, 3 ≤ a → a ≤ 12 → ¬ Z a j) : ctx M' m nw WL WS WE WO ln := ⟨C_M_fr h.1 f z1, C_W_fr h.2.1 (fun a j x y => f.2 a j (z2 a j x y)), h.2.2⟩
theorem ctx_fb {M : qM} {m nw : Int} {WL : Int → List Int} {WS WE WO : Int → Int} {ln : List Int} (h : ctx M m nw WL WS WE WO ln) {t : qT} (ok : okT nw ln t) {a : Int} (h0 : 0 ≤ a) (h1 : a < ln.length) : (frA ln t a = -1 ∨ C_ok M WL (frA ln t a)) ∧ C_ok M WL (bkA ln t a) := by
  have r := fb_rng h.2.2.2 ok h0 h1
  exact ⟨r.1.imp id (fun q => C_W_ok h.2.1 h.2.2.1 q.1 q.2), C_W_ok h.2.1 h.2.2.1 r.2.1 r.2.2⟩
theorem c_14 {d : Nat} {P : Int → qM → Prop} {M : qM} {m nw i a : Int} {WL : Int → List Int} {WS WE WO : Int → Int} {ln : List Int} {t : qT} (hc : ctx M m nw WL WS WE WO ln) (hi : 0 ≤ i ∧ i < mst ln.length) (hat : C_at M m i t) (ok : okT nw ln t) (ha : 0 ≤ a ∧ a < ln.length)
    (K : ∀ v M', isNum nw WL (pie WL ln t a) v → fr (fun b j => (b = m + 8 ∨ b = m + 9) ∧ j = i) M M' → q_nm M' (m + 9) i = or1 WE (q_nm M (m + 9) i) v → (v = -1 → q_nm M' (m + 8) i = 0) → (v ≠ -1 → q_nm M' (m + 8) i = q_nm M (m + 8) i) → P 0 M') : q_WP q_Pr (d + 3) 14 [.inr (.inr m), .inl i, .inl a] M P := by
  have hM := hc.1
  have r := fb_rng hc.2.2.2 ok ha.1 ha.2
  have gn := hc.2.2.1.1
  refine q_enter (t_14_0 hM.1 (c_11 hM hi hat ok ha ⟨hM.1, c_12 hM hi hat ok ha ⟨hM.1, c_88 hM.1.1 hc.2.1 hc.2.2.1 r.1 r.2 (fun v hv => ⟨hM.1, fun z => ?_, fun z => ⟨hi, fun M1 e1 l1 => ?_⟩⟩)⟩⟩))
  · have hv2 : 0 ≤ v ∧ v < nw := by
      rcases hv with ⟨h, _⟩ | ⟨h, _⟩
      · exact h
      · exact absurd h z
    rw [(hc.2.1.2 v hv2.1 hv2.2).2.2.1]
    refine ⟨hi, by omega, hi, fun M1 e1 l1 => K v M1 hv (fr_wn e1 ⟨Or.inr rfl, rfl⟩) ?_ (fun q => absurd q z) (fun _ => wn_ne e1 (by omega))⟩
    rw [wn_eq e1]; unfold or1; rw [if_neg z]
  · refine K v M1 hv (fr_wn e1 ⟨Or.inl rfl, rfl⟩) ?_ (fun _ => wn_eq e1) (fun q => absurd z q)
    rw [wn_ne e1 (by omega)]; unfold or1; rw [if_pos z]
theorem key_step (R Y W : Int) : w64 (w64 (w64 (w64 (w64 R * 37) + 27) * w64 Y) + w64 W) = w64 ((R * 37 + 27) * Y + W) := by
  have e : w64 (w64 (w64 R * 37) + 27) = w64 (R * 37 + 27) := by rw [w64_mul, w64_add]
  have e2 : w64 (w64 (R * 37) + 27) = w64 (R * 37 + 27) := w64_add _ _
  rw [e, w64_add, w64_add', w64_ma, Int.mul_comm, w64_ma, Int.mul_comm]
theorem c_15l {d : Nat} {P : Int → qM → Prop} {M : qM} {m nw i : Int} {WL : Int → List Int} {WS WE WO : Int → Int} {ln : List Int} {t : qT} {c s : Nat} (hc : ctx M m nw WL WS WE WO ln) (hi : 0 ≤ i ∧ i < mst ln.length) (hat : C_at M m i t) (ok : okT nw ln t) (K : P (w64 (rk (txt WL ln t))) M) : ∀ (n a : Nat), a + n = ln.length → q_At q_m15 (q_WP q_Pr (d + 1)) P 5 [(0, .inr (.inr m)), (1, .inl i), (2, .inr (.inl (w64 (rk (spl WL ln t a))))), (4, .inl (a : Int))] [] M c s := by
  have hM := hc.1
  have g6 := hc.2.2.2.1
  intro n
  induction n with
  | zero =>
    intro a e
    have ea : a = ln.length := by omega
    subst ea
    exact t_15_5 hM.1 ⟨fun _ => K, fun z => absurd z (by omega)⟩
  | succ n ih =>
    intro a e
    have fb := ctx_fb hc ok (a := (a : Int)) (by omega) (by omega)
    have pl := (pie_len hc.2.2.1 hc.2.2.2 ok (a := (a : Int)) (by omega) (by omega)).1
    have nx := ih (a + 1) (by omega)
    have ep : q_nm M 12 ((pie WL ln t a).length : Int) = w64 (37 ^ (pie WL ln t a).length) := hc.2.1.1.2 _ pl
    refine t_15_5 hM.1 ⟨fun z => absurd z (by omega), fun _ => c_11 hM hi hat ok (by omega) ⟨hM.1, c_12 hM hi hat ok (by omega) ⟨hM.1, fun z => c_85 (WL := WL) hM.1.1 fb.1 fb.2 ⟨hM.1, ?_⟩, fun z => c_85 (WL := WL) hM.1.1 fb.1 fb.2 ⟨hM.1, ?_⟩⟩⟩⟩
    · refine ⟨by have : (joi WL (frA ln t a) (bkA ln t a)).length ≤ 16 := pl; omega, c_86 (WL := WL) hM.1.1 hc.2.1.1.2 fb.1 fb.2 ⟨hM.1, ?_⟩⟩
      have ep' : q_nm M 12 ((joi WL (frA ln t a) (bkA ln t a)).length : Int) = w64 (37 ^ (pie WL ln t a).length) := ep
      have es : rk (spl WL ln t (a + 1)) = (rk (spl WL ln t a) * 37 + 27) * 37 ^ (pie WL ln t a).length + rk (pie WL ln t a) := by
        show rk (spl WL ln t a ++ (if a = 0 then [] else [32]) ++ pie WL ln t a) = _
        rw [if_neg (by omega), rk_app, rk_snoc]; rfl
      rw [es] at nx
      rw [ep', w32_id (x := (a : Int) + 1) (by omega) (by omega), key_step]
      exact nx
    · refine ⟨by have : (joi WL (frA ln t a) (bkA ln t a)).length ≤ 16 := pl; omega, c_86 (WL := WL) hM.1.1 hc.2.1.1.2 fb.1 fb.2 ⟨hM.1, ?_⟩⟩
      have es : rk (spl WL ln t (a + 1)) = rk (pie WL ln t a) := by
        show rk (spl WL ln t a ++ (if a = 0 then [] else [32]) ++ pie WL ln t a) = _
        have ea : a = 0 := by omega
        rw [if_pos ea, ea]; rfl
      rw [es] at nx
      rw [w32_id (x := (a : Int) + 1) (by omega) (by omega), Int.zero_mul, w64_add, w64_add', Int.zero_add]
      exact nx
theorem c_15 {d : Nat} {P : Int → qM → Prop} {M : qM} {m nw i : Int} {WL : Int → List Int} {WS WE WO : Int → Int} {ln : List Int} {t : qT} (hc : ctx M m nw WL WS WE WO ln) (hi : 0 ≤ i ∧ i < mst ln.length) (hat : C_at M m i t) (ok : okT nw ln t) (K : P (w64 (rk (txt WL ln t))) M) : q_WP q_Pr (d + 2) 15 [.inr (.inr m), .inl i] M P :=
  q_enter (t_15_0 hc.1.1 (c_15l hc hi hat ok K ln.length 0 (by omega)))
/-- what is worked out of a taking -/
def C_de (M : qM) (m nw : Int) (WL : Int → List Int) (WE : Int → Int) (ln : List Int) (i : Int) (t : qT) : Prop := q_nm M (m + 7) i = farT WL ln t ∧ rl (realP nw WL ln t) (q_nm M (m + 8) i) ∧ senV nw WL WE ln t (q_nm M (m + 9) i) ∧ q_nm M (m + 10) i = w64 (rk (txt WL ln t))
def ZD (m : Int) : Int → Int → Prop := fun a _ => m + 7 ≤ a ∧ a ≤ m + 10
def ZDi (m i : Int) : Int → Int → Prop := fun a j => (m + 7 ≤ a ∧ a ≤ m + 10) ∧ j = i
theorem ctx_Z {M M' : qM} {m nw i : Int} {WL : Int → List Int} {WS WE WO : Int → Int} {ln : List Int} (h : ctx M m nw WL WS WE WO ln) (f : fr (ZDi m i) M M') : ctx M' m nw WL WS WE WO ln := ctx_fr h f (fun j => by unfold ZDi; omega) (fun a j _ _ => by have := q_ml_ge h.1.1; unfold ZDi; omega)
theorem C_at_Z {M M' : qM} {m i k : Int} {t : qT} (h : C_at M m k t) (f : fr (ZDi m i) M M') : C_at M' m k t := ⟨(f.2 _ _ (by unfold ZDi; omega)).trans h.1, (f.2 _ _ (by unfold ZDi; omega)).trans h.2.1, (f.2 _ _ (by unfold ZDi; omega)).trans h.2.2⟩
theorem unl_rng (l m : List Int) : 0 ≤ unl l m ∧ unl l m ≤ l.length + m.length := by
  have := cntU_rng l m (min l.length m.length)
  unfold unl; omega
/-- the last step: the key -/
theorem c_13k {d : Nat} {P : Int → qM → Prop} {M0 M : qM} {m nw i : Int} {WL : Int → List Int} {WS WE WO : Int → Int} {ln : List Int} {t : qT} {c s : Nat} (hc : ctx M m nw WL WS WE WO ln) (hi : 0 ≤ i ∧ i < mst ln.length) (hat : C_at M m i t) (ok : okT nw ln t) (hf : fr (ZDi m i) M0 M) (h7 : q_nm M (m + 7) i = farT WL ln t) (h8 : rl (realP nw WL ln t) (q_nm M (m + 8) i)) (h9 : senV nw WL WE ln t (q_nm M (m + 9) i))
    (K : ∀ M', fr (ZDi m i) M0 M' → C_de M' m nw WL WE ln i t → q_At q_m13 (q_WP q_Pr (d + 2)) P 2 [(0, .inr (.inr m)), (1, .inl (w32 (i + 1)))] [] M' c s) : q_WP q_Pr (d + 2) 15 [.inr (.inr m), .inl i] M (fun v9 M10 => q_ml M10 m ln.length (mst ln.length) ∧ ((0 ≤ i ∧ i < mst ln.length) ∧ (∀ M11 : qM, M11 = q_wn M10 (m + 10) i v9 → q_ml M11 m ln.length (mst ln.length) → (q_At q_m13 (q_WP q_Pr (d + 2)) P 2 [(0, .inr (.inr m)), (1, .inl (w32 (i + 1)))] [] M11 c s)))) := by
  refine c_15 hc hi hat ok ⟨hc.1.1, hi, fun M1 e1 l1 => K M1 (fr_trans hf (fr_wn e1 (by unfold ZDi; omega))) ⟨?_, ?_, ?_, wn_eq e1⟩⟩
  · rw [wn_ne e1 (by omega)]; exact h7
  · rw [wn_ne e1 (by omega)]; exact h8
  · rw [wn_ne e1 (by omega)]; exact h9
theorem c_13s {d : Nat} {P : Int → qM → Prop} {M0 : qM} {m nw i : Int} {WL : Int → List Int} {WS WE WO : Int → Int} {ln : List Int} {t : qT} {c s : Nat} (hc : ctx M0 m nw WL WS WE WO ln) (hi : 0 ≤ i ∧ i < mst ln.length) (hat : C_at M0 m i t) (ok : okT nw ln t) (hin : i < q_nm M0 m 3)
    (K : ∀ M', fr (ZDi m i) M0 M' → C_de M' m nw WL WE ln i t → q_At q_m13 (q_WP q_Pr (d + 3)) P 2 [(0, .inr (.inr m)), (1, .inl (w32 (i + 1)))] [] M' c s) : q_At q_m13 (q_WP q_Pr (d + 3)) P 2 [(0, .inr (.inr m)), (1, .inl i)] [] M0 c s := by
  have ge := q_ml_ge hc.1.1
  obtain ⟨k, p, o⟩ := t
  have ok' := ok
  unfold okT at ok'; dsimp only at ok'
  refine t_13_2 hc.1.1 ⟨fun z => absurd z (by omega), fun _ => ⟨hi, fun M1 e1 l1 => ⟨hi, fun M2 e2 l2 => ⟨hi, fun M3 e3 l3 => ?_⟩⟩⟩⟩
  have f3 : fr (ZDi m i) M0 M3 := fr_trans (fr_wn e1 (by unfold ZDi; omega)) (fr_trans (fr_wn e2 (by unfold ZDi; omega)) (fr_wn e3 (by unfold ZDi; omega)))
  have hc3 := ctx_Z hc f3
  have hat3 := C_at_Z hat f3
  have b4 : q_nm M3 (m + 4) i = k := hat3.1
  have b5 : q_nm M3 (m + 5) i = p := hat3.2.1
  have b6 : q_nm M3 (m + 6) i = o := hat3.2.2
  have b7 : q_nm M3 (m + 7) i = 0 := by rw [wn_ne e3 (by omega), wn_ne e2 (by omega)]; exact wn_eq e1
  have b8 : q_nm M3 (m + 8) i = 1 := by rw [wn_ne e3 (by omega)]; exact wn_eq e2
  have b9 : q_nm M3 (m + 9) i = 0 := wn_eq e3
  rw [b4, b5, b6]
  refine ⟨hi, fun z => ⟨hi, fun y => absurd y (by omega), fun y => ⟨hi, fun x => ?_, fun x => absurd x (by omega)⟩⟩, fun z => ⟨hi, ?_⟩⟩
  · refine c_13k (d := d + 1) hc3 hi hat3 ok f3 ?_ ?_ ?_ K
    · rw [b7]; unfold farT; dsimp only; rw [if_pos z]
    · rw [b8]; exact Or.inl ⟨rfl, fun q => absurd z q⟩
    · rw [b9]; exact ⟨fun _ => rfl, fun q => absurd z q⟩
  · have hp : 0 ≤ p ∧ p < ln.length := by omega
    have lp := C_M_li hc3.1 hp.1 hp.2
    have rp := li_rng hc.2.2.2 hp.1 hp.2
    have fb := ctx_fb hc3 ok hp.1 hp.2
    have pl := (pie_len hc.2.2.1 hc.2.2.2 ok hp.1 hp.2).1
    rw [lp]
    refine ⟨hp, c_11 (t := (k, p, o)) hc3.1 hi hat3 ok hp ⟨hc3.1.1, c_12 (t := (k, p, o)) hc3.1 hi hat3 ok hp ⟨hc3.1.1, c_90 (WL := WL) hc3.1.1.1 (C_W_ok hc3.2.1 hc.2.2.1 rp.1 rp.2) fb.1 fb.2 ⟨hc3.1.1, hi, fun M4 e4 l4 => ?_⟩⟩⟩⟩
    have ur := unl_rng (WL (li ln p)) (joi WL (frA ln (k, p, o) p) (bkA ln (k, p, o) p))
    have p8 := (G_ok8 hc.2.2.1 rp.1 rp.2).1
    have pl' : (joi WL (frA ln (k, p, o) p) (bkA ln (k, p, o) p)).length ≤ 16 := pl
    rw [w8_id (by omega)] at e4
    have f4 : fr (ZDi m i) M0 M4 := fr_trans f3 (fr_wn e4 (by unfold ZDi; omega))
    have hc4 := ctx_Z hc f4
    have hat4 := C_at_Z hat f4
    have d7 : q_nm M4 (m + 7) i = farT WL ln (k, p, o) := by
      rw [wn_eq e4]; unfold farT; dsimp only; rw [if_neg z]; rfl
    refine c_14 (t := (k, p, o)) hc4 hi hat4 ok hp (fun v1 M5 n1 f5' g9 g8a g8b => ⟨q_ml_fr f5' hc4.1.1, hi, ?_⟩)
    have f5 : fr (ZDi m i) M4 M5 := fr_mono f5' (fun a j q => by unfold ZDi; omega)
    have f05 := fr_trans f4 f5
    have hc5 := ctx_Z hc f05
    have hat5 := C_at_Z hat f05
    have c4 : q_nm M5 (m + 4) i = k := hat5.1
    have c6 : q_nm M5 (m + 6) i = o := hat5.2.2
    have c7 : q_nm M5 (m + 7) i = farT WL ln (k, p, o) := by rw [f5'.2 _ _ (by dsimp only; omega)]; exact d7
    rw [wn_ne e4 (by omega), b9] at g9
    rw [wn_ne e4 (by omega), b8] at g8b
    rw [c4, c6]
    have two : (k = 3 ∨ k = 4) → q_WP q_Pr (d + 3) 14 [.inr (.inr m), .inl i, .inl o] M5 (fun _ M27 => q_ml M27 m ln.length (mst ln.length) ∧ q_WP q_Pr (d + 3) 15 [.inr (.inr m), .inl i] M27 (fun v28 M29 => q_ml M29 m ln.length (mst ln.length) ∧ ((0 ≤ i ∧ i < mst ln.length) ∧ (∀ M30 : qM, M30 = q_wn M29 (m + 10) i v28 → q_ml M30 m ln.length (mst ln.length) → (q_At q_m13 (q_WP q_Pr (d + 3)) P 2 [(0, .inr (.inr m)), (1, .inl (w32 (i + 1)))] [] M30 c s))))) := fun hk => by
      refine c_14 (t := (k, p, o)) hc5 hi hat5 ok (by omega) (fun v2 M6 n2 f6' w9 w8a w8b => ⟨q_ml_fr f6' hc5.1.1, ?_⟩)
      have f6 : fr (ZDi m i) M5 M6 := fr_mono f6' (fun a j q => by unfold ZDi; omega)
      have f06 := fr_trans f05 f6
      refine c_13k (d := d + 1) (ctx_Z hc f06) hi (C_at_Z hat f06) ok f06 ?_ ?_ ?_ K
      · rw [f6'.2 _ _ (by dsimp only; omega)]; exact c7
      · have i1 := isNum_W n1
        have i2 := isNum_W n2
        unfold realP; dsimp only
        by_cases q2 : v2 = -1
        · rw [w8a q2]; exact Or.inr ⟨rfl, fun r => i2.mpr ((r z).2 hk) q2⟩
        · rw [w8b q2]
          by_cases q1 : v1 = -1
          · rw [g8a q1]; exact Or.inr ⟨rfl, fun r => i1.mpr (r z).1 q1⟩
          · rw [g8b q1]; exact Or.inl ⟨rfl, fun _ => ⟨i1.mp q1, fun _ => i2.mp q2⟩⟩
      · rw [w9, g9]; exact ⟨fun q => absurd q z, fun _ => ⟨v1, n1, fun q => absurd hk q, fun _ => ⟨v2, n2, rfl⟩⟩⟩
    refine ⟨fun y => ⟨hi, two (Or.inl y)⟩, fun y => ⟨hi, fun x => ?_, fun x => ⟨hi, two (Or.inr x)⟩⟩⟩
    refine c_13k (d := d + 1) hc5 hi hat5 ok f05 c7 ?_ ?_ K
    · have i1 := isNum_W n1
      unfold realP; dsimp only
      by_cases q1 : v1 = -1
      · rw [g8a q1]; exact Or.inr ⟨rfl, fun r => i1.mpr (r z).1 q1⟩
      · rw [g8b q1]; exact Or.inl ⟨rfl, fun _ => ⟨i1.mp q1, fun q => by omega⟩⟩
    · rw [g9]; exact ⟨fun q => absurd q z, fun _ => ⟨v1, n1, fun _ => rfl, fun q => by dsimp only at q; omega⟩⟩
theorem C_de_fr {M M' : qM} {m nw i : Int} {WL : Int → List Int} {WE : Int → Int} {ln : List Int} {t : qT} (h : C_de M m nw WL WE ln i t) (k : ∀ a, m + 7 ≤ a → a ≤ m + 10 → q_nm M' a i = q_nm M a i) : C_de M' m nw WL WE ln i t := by
  obtain ⟨h1, h2, h3, h4⟩ := h
  refine ⟨(k _ (by omega) (by omega)).trans h1, ?_, ?_, (k _ (by omega) (by omega)).trans h4⟩
  · rw [k _ (by omega) (by omega)]; exact h2
  · rw [k _ (by omega) (by omega)]; exact h3
theorem c_13l {d : Nat} {P : Int → qM → Prop} {M0 : qM} {m nw : Int} {WL : Int → List Int} {WS WE WO : Int → Int} {ln : List Int} {T : List qT} {c s : Nat} (hc : ctx M0 m nw WL WS WE WO ln) (hT : C_TK M0 m T) (hn : T.length ≤ mst ln.length) (hok : ∀ t ∈ T, okT nw ln t)
    (K : ∀ M', fr (ZD m) M0 M' → (∀ i : Nat, i < T.length → C_de M' m nw WL WE ln i (T.getD i (0, 0, 0))) → P 0 M') : ∀ (n i : Nat) (M : qM), i + n = T.length → fr (ZD m) M0 M → (∀ j : Nat, j < i → C_de M m nw WL WE ln j (T.getD j (0, 0, 0))) → q_At q_m13 (q_WP q_Pr (d + 3)) P 2 [(0, .inr (.inr m)), (1, .inl (i : Int))] [] M c s := by
  have ge := q_ml_ge hc.1.1
  have g6 := hc.2.2.2.1
  have m6 := mst_le g6.2
  intro n
  induction n with
  | zero =>
    intro i M e hf h
    have ei : i = T.length := by omega
    subst ei
    refine t_13_2 (q_ml_fr hf hc.1.1) ?_
    rw [hf.2 m 3 (by unfold ZD; omega), hT.1]
    exact ⟨fun _ => K M hf h, fun z => absurd z (by omega)⟩
  | succ n ih =>
    intro i M e hf h
    have hc' : ctx M m nw WL WS WE WO ln := ctx_fr hc hf (fun j => by unfold ZD; omega) (fun a j _ _ => by unfold ZD; omega)
    have o1 := hT.2 i (by omega)
    have hat : C_at M m i (T.getD i (0, 0, 0)) := ⟨(hf.2 _ _ (by unfold ZD; omega)).trans o1.1, (hf.2 _ _ (by unfold ZD; omega)).trans o1.2.1, (hf.2 _ _ (by unfold ZD; omega)).trans o1.2.2⟩
    refine c_13s (i := (i : Int)) hc' (by omega) hat (hok _ (getT_mem (by omega))) (by rw [hf.2 m 3 (by unfold ZD; omega), hT.1]; omega) (fun M' f1 c1 => ?_)
    rw [w32_id (x := (i : Int) + 1) (by omega) (by omega)]
    refine ih (i + 1) M' (by omega) (fr_trans hf (fr_mono f1 (fun a j z => by unfold ZDi at z; unfold ZD; omega))) (fun j hj => ?_)
    by_cases ej : j = i
    · rw [ej]; exact c1
    · exact C_de_fr (h j (by omega)) (fun a _ _ => f1.2 a _ (by unfold ZDi; omega))
theorem c_13 {d : Nat} {P : Int → qM → Prop} {M : qM} {m nw : Int} {WL : Int → List Int} {WS WE WO : Int → Int} {ln : List Int} {T : List qT} (hc : ctx M m nw WL WS WE WO ln) (hT : C_TK M m T) (hn : T.length ≤ mst ln.length) (hok : ∀ t ∈ T, okT nw ln t)
    (K : ∀ M', fr (ZD m) M M' → (∀ i : Nat, i < T.length → C_de M' m nw WL WE ln i (T.getD i (0, 0, 0))) → P 0 M') : q_WP q_Pr (d + 4) 13 [.inr (.inr m)] M P :=
  q_enter (t_13_0 hc.1.1 (c_13l hc hT hn hok K T.length 0 M (by omega) fr_rfl (fun j hj => absurd hj (Nat.not_lt_zero j))))
end
