section
theorem c_58 {d : Nat} {P : Int → qM → Prop} {M : qM} {x b k : Int} {sd : List Int} (hS : isSp M x b) (hC : C_Sp x b sd M) (hg : sd.length ≤ 100) (K : P (tb sd k) M) : q_WP q_Pr (d + 1) 58 [.inr (.inr x), .inl k] M P := by
  refine q_enter (s_58_0 ?_)
  rw [hS.1, hS.2.1, hS.2.2.1, hS.2.2.2, hC.1]
  refine ⟨fun z => ?_, fun z => ⟨rfl, fun y => ?_, fun y => ⟨rfl, ⟨Or.inl rfl, z, by omega⟩, ?_⟩⟩⟩
  · rw [tb_out (by omega)] at K; exact K
  · rw [tb_out (by omega)] at K; exact K
  · rw [tb_in z y] at K; rw [q_L_get0 hC.2 z y]; exact K
theorem c_63l {d : Nat} {P : Int → qM → Prop} {M : qM} {x b : Int} {sd : List Int} {c s : Nat} (hS : isSp M x b) (hC : C_Sp x b sd M) (hg : G_S sd) (K : P (w64 (rk sd)) M) : ∀ (k : Nat) (y : Int), 0 ≤ y → y + k = sd.length → q_At q_m63 (q_WP q_Pr d) P 4 [(0, .inr (.inr x)), (1, .inr (.inl (w64 (rk (slice sd 0 y))))), (3, .inl y)] [] M c s := by
  have g1 := hg.1
  intro k
  induction k with
  | zero =>
    intro y h0 h1
    refine s_63_4 ?_
    rw [hS.1, hC.1, show y = (sd.length : Int) by omega, slice_all]
    exact ⟨rfl, fun _ => K, fun z => absurd z (by omega)⟩
  | succ k ih =>
    intro y h0 h1
    have e : q_nm M b y = tb sd y := by rw [tb_in h0 (by omega)]; exact q_L_get0 hC.2 h0 (by omega)
    have ho : okc (tb sd y) := by rw [tb_in h0 (by omega)]; exact hg.2 _ (getD_mem (by omega))
    unfold okc at ho
    have nx := ih (y + 1) (by omega) (by omega)
    rw [slice0_succ h0 (by omega), rk_snoc] at nx
    refine s_63_4 ?_
    rw [hS.1, hS.2.1, hS.2.2.1, hS.2.2.2, hC.1, e, w32_id (x := y + 1) (by omega) (by omega), w64_mul, w64_add, w64_add]
    refine ⟨rfl, fun z => absurd z (by omega), fun _ => ⟨rfl, ⟨Or.inl rfl, h0, by omega⟩, fun z => ⟨rfl, ⟨Or.inl rfl, h0, by omega⟩, ?_⟩, fun z => ?_⟩⟩
    · rw [w32_id (x := tb sd y - 96) (by omega) (by omega)]
      unfold kd1 at nx; rw [if_neg z] at nx; exact nx
    · unfold kd1 at nx; rw [if_pos z] at nx; exact nx
theorem c_63 {d : Nat} {P : Int → qM → Prop} {M : qM} {x b : Int} {sd : List Int} (hS : isSp M x b) (hC : C_Sp x b sd M) (hg : G_S sd) (K : P (w64 (rk sd)) M) : q_WP q_Pr (d + 1) 63 [.inr (.inr x)] M P := by
  have e := c_63l (d := d) (P := P) (c := 0) (s := 0) hS hC hg K sd.length 0 (Int.le_refl 0) (by omega)
  rw [slice_zero] at e
  exact q_enter (s_63_0 e)
theorem tb_app1 {l m : List Int} {i : Int} (h0 : 0 ≤ i) (h1 : i < l.length) : tb (l ++ m) i = tb l i := by
  rw [tb_in h0 h1, tb_in h0 (by rw [List.length_append]; omega), getD_app1 (by omega)]
theorem tb_app2 {l m : List Int} {i : Int} (h0 : 0 ≤ i) (h1 : i < m.length) : tb (l ++ m) (l.length + i) = tb m i := by
  rw [tb_in h0 h1, tb_in (by omega) (by rw [List.length_append]; omega), getD_app2 (by omega), show ((l.length : Int) + i).toNat - l.length = i.toNat by omega]
theorem spl_pre {WL : Int → List Int} {ln : List Int} {t : qT} : ∀ (k a : Nat), ∀ i : Int, 0 ≤ i → i < (spl WL ln t a).length → tb (spl WL ln t (a + k)) i = tb (spl WL ln t a) i ∧ (spl WL ln t a).length ≤ (spl WL ln t (a + k)).length := by
  intro k
  induction k with
  | zero => intro a i _ _; exact ⟨rfl, Nat.le_refl _⟩
  | succ k ih =>
    intro a i h0 h1
    have q := ih a i h0 h1
    have e : spl WL ln t (a + (k + 1)) = spl WL ln t (a + k) ++ ((if a + k = 0 then [] else [32]) ++ pie WL ln t ((a + k : Nat) : Int)) := by
      rw [← List.append_assoc]; rfl
    rw [e]
    refine ⟨?_, by rw [List.length_append]; omega⟩
    rw [tb_app1 h0 (by omega)]; exact q.1
/-- so far alike -/
def pfx (l sd : List Int) : Prop := ∀ i : Int, 0 ≤ i → i < l.length → tb sd i = tb l i
theorem pfx_snoc {l sd : List Int} {v : Int} (h : pfx l sd) (e : tb sd l.length = v) : pfx (l ++ [v]) sd := by
  intro i h0 h1
  rw [List.length_append, List.length_cons, List.length_nil] at h1
  by_cases c : i < l.length
  · rw [tb_app1 h0 c]; exact h i h0 c
  · have ei : i = (l.length : Int) := by omega
    rw [ei, e]
    have := tb_app2 (l := l) (m := [v]) (i := 0) (by omega) (by simp)
    rw [Int.add_zero] at this
    rw [this]; rfl
/-- what a taking says goes on so -/
theorem txt_at {WL : Int → List Int} {ln : List Int} {t : qT} {a : Nat} (ha : a < ln.length) {i : Int} (h0 : 0 ≤ i) (h1 : i < (pie WL ln t a).length) : tb (txt WL ln t) (((spl WL ln t a ++ (if a = 0 then [] else [32])).length : Int) + i) = tb (pie WL ln t a) i := by
  have e : spl WL ln t (a + 1) = (spl WL ln t a ++ (if a = 0 then [] else [32])) ++ pie WL ln t a := rfl
  have el : (spl WL ln t (a + 1)).length = (spl WL ln t a ++ (if a = 0 then [] else [32])).length + (pie WL ln t a).length := by rw [e, List.length_append]
  have q := spl_pre (WL := WL) (ln := ln) (t := t) (ln.length - (a + 1)) (a + 1) (((spl WL ln t a ++ (if a = 0 then [] else [32])).length : Int) + i) (by omega) (by omega)
  rw [show a + 1 + (ln.length - (a + 1)) = ln.length by omega, e, tb_app2 h0 h1] at q
  exact q.1
theorem txt_b {WL : Int → List Int} {ln : List Int} {t : qT} {a : Nat} (ha : a < ln.length) (hz : a ≠ 0) : tb (txt WL ln t) ((spl WL ln t a).length : Int) = 32 := by
  have e : spl WL ln t (a + 1) = spl WL ln t a ++ ([32] ++ pie WL ln t a) := by
    show spl WL ln t a ++ (if a = 0 then [] else [32]) ++ _ = _
    rw [if_neg hz, List.append_assoc]
  have q := spl_pre (WL := WL) (ln := ln) (t := t) (ln.length - (a + 1)) (a + 1) ((spl WL ln t a).length : Int) (by omega) (by rw [e, List.length_append, List.length_append, List.length_cons]; omega)
  rw [show a + 1 + (ln.length - (a + 1)) = ln.length by omega, e] at q
  have := tb_app2 (l := spl WL ln t a) (m := [32] ++ pie WL ln t a) (i := 0) (by omega) (by rw [List.length_append, List.length_cons]; omega)
  rw [Int.add_zero] at this
  have q1 := q.1
  rw [this] at q1
  have e32 : tb ([32] ++ pie WL ln t a) 0 = 32 := by rw [tb_in (by omega) (by rw [List.length_append, List.length_cons]; omega)]; rfl
  rw [e32] at q1
  exact q1
theorem c_19i {d : Nat} {P : Int → qM → Prop} {M : qM} {m nw i x b : Int} {WL : Int → List Int} {WS WE WO : Int → Int} {ln sd pre : List Int} {t : qT} {a : Nat} {c s : Nat} (hc : ctx M m nw WL WS WE WO ln) (ok : okT nw ln t) (ha : a < ln.length) (hS : isSp M x b) (hC : C_Sp x b sd M) (hg : sd.length ≤ 100) (ep : pre = spl WL ln t a ++ (if a = 0 then [] else [32])) (hpl : pre.length ≤ 100) (K0 : ¬ txt WL ln t = sd → P 0 M)
    (K : pfx (pre ++ pie WL ln t a) sd → q_At q_m19 (q_WP q_Pr (d + 1)) P 5 [(0, .inr (.inr m)), (1, .inl i), (2, .inr (.inr x)), (3, .inl ((pre.length : Int) + (pie WL ln t a).length)), (4, .inl (w32 ((a : Int) + 1)))] [] M c s) : ∀ (n : Nat) (y : Int), 0 ≤ y → y + n = (pie WL ln t a).length → pfx (pre ++ slice (pie WL ln t a) 0 y) sd → q_At q_m19 (q_WP q_Pr (d + 1)) P 69 [(0, .inr (.inr m)), (1, .inl i), (2, .inr (.inr x)), (3, .inl (pre.length : Int)), (4, .inl (a : Int)), (5, .inl (frA ln t a)), (6, .inl (bkA ln t a)), (7, .inl ((pie WL ln t a).length : Int)), (8, .inl y)] [] M c s := by
  have fb := ctx_fb hc ok (a := (a : Int)) (by omega) (by omega)
  have pl := (pie_len hc.2.2.1 hc.2.2.2 ok (a := (a : Int)) (by omega) (by omega)).1
  intro n
  induction n with
  | zero =>
    intro y h0 h1 hp
    rw [show y = ((pie WL ln t a).length : Int) by omega, slice_all] at hp
    refine t_19_69 hc.1.1 ?_
    rw [w32_id (x := (pre.length : Int) + (pie WL ln t a).length) (by omega) (by omega)]
    exact ⟨fun _ => K hp, fun z => absurd z (by omega)⟩
  | succ n ih =>
    intro y h0 h1 hp
    have hl3 := slice_len (tp := pie WL ln t a) (f := 0) (n := y) (Int.le_refl 0) h0 (by omega)
    refine t_19_69 hc.1.1 ?_
    rw [w32_id (x := (pre.length : Int) + y) (by omega) (by omega), w32_id (x := y + 1) (by omega) (by omega)]
    refine ⟨fun z => absurd z (by omega), fun _ => ⟨hS.1, c_58 hS hC hg ⟨hc.1.1, c_87 (WL := WL) hc.1.1.1 fb.1 fb.2 (show 0 ≤ y ∧ y < ((joi WL (frA ln t a) (bkA ln t a)).length : Int) from ⟨h0, by show y < ((pie WL ln t a).length : Int); omega⟩) ⟨hc.1.1, fun z => ih (y + 1) (by omega) (by omega) ?_, fun z => K0 (fun q => z ?_)⟩⟩⟩⟩
    · rw [slice0_succ h0 (by omega), ← List.append_assoc]
      refine pfx_snoc hp ?_
      rw [List.length_append, show ((pre.length + (slice (pie WL ln t a) 0 y).length : Nat) : Int) = (pre.length : Int) + y by omega]; exact z
    · rw [← q, ep]; exact txt_at ha h0 (by omega)
theorem c_19l {d : Nat} {P : Int → qM → Prop} {M : qM} {m nw i x b : Int} {WL : Int → List Int} {WS WE WO : Int → Int} {ln sd : List Int} {t : qT} {c s : Nat} (hc : ctx M m nw WL WS WE WO ln) (hi : 0 ≤ i ∧ i < mst ln.length) (hat : C_at M m i t) (ok : okT nw ln t) (hS : isSp M x b) (hC : C_Sp x b sd M) (hg : sd.length ≤ 100) (K1 : txt WL ln t = sd → P 1 M) (K0 : ¬ txt WL ln t = sd → P 0 M) : ∀ (n a : Nat), a + n = ln.length → pfx (spl WL ln t a) sd → q_At q_m19 (q_WP q_Pr (d + 1)) P 5 [(0, .inr (.inr m)), (1, .inl i), (2, .inr (.inr x)), (3, .inl ((spl WL ln t a).length : Int)), (4, .inl (a : Int))] [] M c s := by
  have g6 := hc.2.2.2.1
  intro n
  induction n with
  | zero =>
    intro a e hp
    have ea : a = ln.length := by omega
    subst ea
    refine t_19_5 hc.1.1 ?_
    rw [hC.1, hS.1]
    refine ⟨fun _ => ⟨rfl, fun z => K0 (fun q => z (by rw [← q]; rfl)), fun z => K1 ?_⟩, fun z => absurd z (by omega)⟩
    exact (tb_ext (l := sd) (m := txt WL ln t) (by show sd.length = (spl WL ln t ln.length).length; omega) (fun j h0 h1 => hp j h0 (by omega))).symm
  | succ n ih =>
    intro a e hp
    have fb := ctx_fb hc ok (a := (a : Int)) (by omega) (by omega)
    have tl := txt_len hc.2.2.1 hc.2.2.2 ok a (by omega)
    have nx : ∀ pre : List Int, pre = spl WL ln t a ++ (if a = 0 then [] else [32]) → pfx (pre ++ pie WL ln t a) sd → q_At q_m19 (q_WP q_Pr (d + 1)) P 5 [(0, .inr (.inr m)), (1, .inl i), (2, .inr (.inr x)), (3, .inl ((pre.length : Int) + (pie WL ln t a).length)), (4, .inl (w32 ((a : Int) + 1)))] [] M c s := fun pre hpre hq => by
      rw [w32_id (x := (a : Int) + 1) (by omega) (by omega)]
      have es : spl WL ln t (a + 1) = pre ++ pie WL ln t a := by rw [hpre]; rfl
      have := ih (a + 1) (by omega) (by rw [es]; exact hq)
      rw [es, List.length_append] at this
      exact this
    refine t_19_5 hc.1.1 ⟨fun z => absurd z (by omega), fun _ => ⟨fun z => ?_, fun z => ⟨hS.1, c_58 hS hC hg ⟨hc.1.1, fun y => ?_, fun y => K0 (fun q => y ?_)⟩⟩⟩⟩
    · have ea : a = 0 := by omega
      refine c_11 hc.1 hi hat ok (by omega) ⟨hc.1.1, c_12 hc.1 hi hat ok (by omega) ⟨hc.1.1, c_85 (WL := WL) hc.1.1.1 fb.1 fb.2 ⟨hc.1.1, ?_⟩⟩⟩
      have ep : spl WL ln t a = spl WL ln t a ++ (if a = 0 then [] else [32]) := by rw [if_pos ea, List.append_nil]
      exact c_19i hc ok (by omega) hS hC hg ep (by omega) K0 (nx _ ep) (pie WL ln t a).length 0 (Int.le_refl 0) (by omega) (by rw [slice_zero, List.append_nil]; exact hp)
    · rw [w32_id (x := ((spl WL ln t a).length : Int) + 1) (by omega) (by omega)]
      refine c_11 hc.1 hi hat ok (by omega) ⟨hc.1.1, c_12 hc.1 hi hat ok (by omega) ⟨hc.1.1, c_85 (WL := WL) hc.1.1.1 fb.1 fb.2 ⟨hc.1.1, ?_⟩⟩⟩
      have ep : spl WL ln t a ++ [32] = spl WL ln t a ++ (if a = 0 then [] else [32]) := by rw [if_neg (by omega)]
      have el : ((spl WL ln t a).length : Int) + 1 = ((spl WL ln t a ++ [32]).length : Int) := by rw [List.length_append]; simp
      rw [el]
      exact c_19i hc ok (by omega) hS hC hg ep (by omega) K0 (nx _ ep) (pie WL ln t a).length 0 (Int.le_refl 0) (by omega) (by rw [slice_zero, List.append_nil]; exact pfx_snoc hp y)
    · rw [← q]; exact txt_b (by omega) (by omega)
theorem c_19 {d : Nat} {P : Int → qM → Prop} {M : qM} {m nw i x b : Int} {WL : Int → List Int} {WS WE WO : Int → Int} {ln sd : List Int} {t : qT} (hc : ctx M m nw WL WS WE WO ln) (hi : 0 ≤ i ∧ i < mst ln.length) (hat : C_at M m i t) (ok : okT nw ln t) (hS : isSp M x b) (hC : C_Sp x b sd M) (hg : sd.length ≤ 100) (K1 : txt WL ln t = sd → P 1 M) (K0 : ¬ txt WL ln t = sd → P 0 M) : q_WP q_Pr (d + 2) 19 [.inr (.inr m), .inl i, .inr (.inr x)] M P :=
  q_enter (t_19_0 hc.1.1 (c_19l hc hi hat ok hS hC hg K1 K0 ln.length 0 (by omega) (fun j h0 h1 => by
    have : (spl WL ln t 0).length = 0 := rfl
    omega)))
/-- the first by which a text is said, or -1 -/
def isF (tx : Nat → List Int) (N : Nat) (sd : List Int) (v : Int) : Prop := (∃ k : Nat, k < N ∧ v = k ∧ tx k = sd ∧ ∀ j, j < k → tx j ≠ sd) ∨ (v = -1 ∧ ∀ j, j < N → tx j ≠ sd)
theorem c_20l {d : Nat} {P : Int → qM → Prop} {M : qM} {m nw x b : Int} {WL : Int → List Int} {WS WE WO : Int → Int} {ln sd : List Int} {c s : Nat} (hc : ctx M m nw WL WS WE WO ln) (hR : C_rdy M m nw WL WS WE WO ln) (hS : isSp M x b) (hC : C_Sp x b sd M) (hg : sd.length ≤ 100) (K : ∀ v, isF (txK nw WL WS WE ln) (TK nw WL WS WE ln).length sd v → P v M) : ∀ (n k : Nat), k + n = (TK nw WL WS WE ln).length → (∀ j, j < k → txK nw WL WS WE ln j ≠ sd) → q_At q_m20 (q_WP q_Pr (d + 2)) P 8 [(0, .inr (.inr m)), (1, .inr (.inr x)), (2, .inr (.inl (w64 (rk sd)))), (4, .inl (k : Int))] [] M c s := by
  have tk := TK_ok hc.2.2.1 hc.2.2.2
  have m6 := mst_le hc.2.2.2.1.2
  intro n
  induction n with
  | zero =>
    intro k e h
    refine t_20_8 hc.1.1 ?_
    rw [hR.1.1]
    exact ⟨fun _ => K _ (Or.inr ⟨rfl, fun j hj => h j (by omega)⟩), fun z => absurd z (by omega)⟩
  | succ n ih =>
    intro k e h
    have de := hR.2.1 k (by omega)
    have nx : txK nw WL WS WE ln k ≠ sd → q_At q_m20 (q_WP q_Pr (d + 2)) P 8 [(0, .inr (.inr m)), (1, .inr (.inr x)), (2, .inr (.inl (w64 (rk sd)))), (4, .inl (w32 ((k : Int) + 1)))] [] M c s := fun hn => by
      rw [w32_id (x := (k : Int) + 1) (by omega) (by omega)]
      exact ih (k + 1) (by omega) (fun j hj => by
        by_cases ej : j = k
        · rw [ej]; exact hn
        · exact h j (by omega))
    refine t_20_8 hc.1.1 ?_
    rw [hR.1.1, de.2.2.2]
    refine ⟨fun z => absurd z (by omega), fun _ => ⟨by omega, fun z => nx (fun q => q_lc_nz z ?_), fun z => ?_⟩⟩
    · have q' : txt WL ln ((TK nw WL WS WE ln).getD k (0, 0, 0)) = sd := q
      rw [q']
    · exact c_19 (t := (TK nw WL WS WE ln).getD k (0, 0, 0)) hc (by omega) (hR.1.2 k (by omega)) (tk.1 _ (getT_mem (by omega))) hS hC hg (fun q => ⟨hc.1.1, fun y => absurd y (by decide), fun _ => K k (Or.inl ⟨k, by omega, rfl, q, h⟩)⟩) (fun q => ⟨hc.1.1, fun _ => nx q, fun y => absurd rfl y⟩)
theorem c_20 {d : Nat} {P : Int → qM → Prop} {M : qM} {m nw x b : Int} {WL : Int → List Int} {WS WE WO : Int → Int} {ln sd : List Int} (hc : ctx M m nw WL WS WE WO ln) (hR : C_rdy M m nw WL WS WE WO ln) (hS : isSp M x b) (hC : C_Sp x b sd M) (hg : G_S sd) (K : ∀ v, isF (txK nw WL WS WE ln) (TK nw WL WS WE ln).length sd v → P v M) : q_WP q_Pr (d + 3) 20 [.inr (.inr m), .inr (.inr x)] M P :=
  q_enter (t_20_0 hc.1.1 ⟨hS.1, c_63 hS hC hg ⟨hc.1.1, c_20l hc hR hS hC hg.1 K (TK nw WL WS WE ln).length 0 (by omega) (fun j hj => absurd hj (Nat.not_lt_zero j))⟩⟩)
end
