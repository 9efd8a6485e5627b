section
/-! THE REFERENCE AT THE TOKENS -/
/-- the reference stands at a, before token i -/
def R_ps (tp : List Int) (i a : Nat) (M : qM) : Prop := ∃ e : Int, R_go tp a e M ∧ skp tp a = yP tp i ∧ e ≤ yP tp i ∧ (e = yP tp i ↔ yG tp i = true)
theorem R_ps_fr {tp : List Int} {i a : Nat} {M M' : qM} (h : R_ps tp i a M) (k1 : ∀ j, q_nm M' 67 j = q_nm M 67 j) (k2 : ∀ j, 2 ≤ j → j ≤ 6 → q_nm M' 66 j = q_nm M 66 j) : R_ps tp i a M' := by
  obtain ⟨e, g, s, l, x⟩ := h
  exact ⟨e, ⟨⟨(k2 _ (by omega) (by omega)).trans g.1.1, q_L_fr g.1.2.1 (fun j _ _ => k1 j), (k2 _ (by omega) (by omega)).trans g.1.2.2.1, g.1.2.2.2⟩, (k2 _ (by omega) (by omega)).trans g.2.1, ⟨(k2 _ (by omega) (by omega)).trans g.2.2.1, (k2 _ (by omega) (by omega)).trans g.2.2.2⟩⟩, s, l, x⟩
theorem R_ps_ok {tp : List Int} {i a : Nat} {M : qM} (h : R_ps tp i a M) : q_nm M 66 5 = 0 := by
  obtain ⟨e, g, _⟩ := h; exact g.2.2.1
theorem R_ps_pl {tp : List Int} {i a : Nat} {M : qM} (h : R_ps tp i a M) : q_nm M 66 6 = -1 := by
  obtain ⟨e, g, _⟩ := h; exact g.2.2.2
theorem R_ps_a {tp : List Int} {i a : Nat} {M : qM} (h : R_ps tp i a M) : q_nm M 66 2 = a := by
  obtain ⟨e, g, _⟩ := h; exact g.1.2.2.1
theorem r_152P {d : Nat} {P : Int → qM → Prop} {tp : List Int} {i a : Nat} {M : qM} (hl : q_lay M) (h : R_ps tp i a M) (K : ∀ M', fr Zt M M' → q_lay M' → R_ps tp i (yP tp i) M' → P (tb tp (yP tp i)) M') : q_WP q_Pr (d + 1) 152 [.inr (.inr 66)] M P := by
  obtain ⟨e, g, s, l, x⟩ := h
  refine r_152 hl g.1 (fun M' f r => ?_)
  rw [s] at r ⊢
  exact K M' (fr_mono f (fun a j q => ⟨q.1, by omega⟩)) (fr_lay f hl) ⟨e, R_go_look g f r, skp_idem, l, x⟩
set_option maxRecDepth 100000 in
theorem ow_layK : ((List.range 24).all fun n => decide ((68 + (n : Int), 13, ((owl.getD n []).length : Int)) ∈ q_sK)) = true := by decide +kernel
theorem ow_lay {M : qM} (hl : q_lay M) {n : Nat} (hn : n < 24) : q_kd M (68 + (n : Int)) = 13 ∧ q_ln M (68 + (n : Int)) = ((owl.getD n []).length : Int) := by
  have q := List.all_eq_true.mp ow_layK n (List.mem_range.mpr hn)
  rw [decide_eq_true_eq] at q
  exact hl.2.1 _ q
set_option maxRecDepth 100000 in
theorem ow_lenK : ((List.range 24).all fun n => decide (2 ≤ (owl.getD n []).length ∧ (owl.getD n []).length ≤ 5 ∧ (n ≤ 8 → 4 ≤ (owl.getD n []).length))) = true := by decide +kernel
theorem ow_len {n : Nat} (hn : n < 24) : 2 ≤ (owl.getD n []).length ∧ (owl.getD n []).length ≤ 5 ∧ (n ≤ 8 → 4 ≤ (owl.getD n []).length) := by
  have q := List.all_eq_true.mp ow_lenK n (List.mem_range.mpr hn)
  rwa [decide_eq_true_eq] at q
theorem ySl_len {tp : List Int} {p : Nat} : (ySl tp p).length = yLr tp p := by
  unfold ySl
  rw [List.length_take]
  have := lrL_le (tp.drop p)
  unfold yLr; omega
theorem ySl_g {tp : List Int} {p k : Nat} (h : k < yLr tp p) : (ySl tp p).getD k 0 = tb tp ((p : Int) + k) := by
  have l := lrL_le (tp.drop p)
  rw [List.length_drop] at l
  have h' : k < lrL (tp.drop p) := h
  rw [tb_drop (by omega)]
  unfold ySl
  rw [List.getD_eq_getElem?_getD, List.getD_eq_getElem?_getD, List.getElem?_take_of_lt h]
theorem getD_ext {l m : List Int} (h : l.length = m.length) (k : ∀ i, i < l.length → l.getD i 0 = m.getD i 0) : l = m := by
  refine List.ext_getElem h (fun i h1 h2 => ?_)
  have := k i h1
  rwa [getD_el h1, getD_el h2] at this
theorem r_153c {d : Nat} {P : Int → qM → Prop} {tp : List Int} {p n : Nat} {x : Int} {M : qM} {c s : Nat} (hl : q_lay M) (hx : x = 68 + (n : Int)) (hn : n < 24) (hL : LT M) (h : R_rd tp p M) (hlen : yLr tp p = (owl.getD n []).length) (K1 : ySl tp p = owl.getD n [] → P 1 M) (K0 : ySl tp p ≠ owl.getD n [] → P 0 M) : ∀ m k : Nat, k + m = yLr tp p → (∀ j, j < k → tb tp ((p : Int) + j) = (owl.getD n []).getD j 0) → q_At q_m153 (q_WP q_Pr d) P 76 [(0, .inr (.inr 66)), (1, .inr (.inr x)), (3, .inl (k : Int))] [] M c s := by
  have lay := ow_lay hl hn
  have le := yLr_le h.2.2.2.1
  have h5 := h.2.2.2.2
  intro m
  induction m with
  | zero =>
    intro k hk hj
    refine t_153_76 hl ?_
    rw [hx, lay.1, lay.2]
    refine ⟨by omega, fun _ => K1 (getD_ext (by rw [ySl_len, hlen]) (fun j hj' => ?_)), fun z => absurd z (by omega)⟩
    rw [ySl_len] at hj'
    rw [ySl_g hj']; exact hj j (by omega)
  | succ m ih =>
    intro k hk hj
    refine t_153_76 hl ?_
    rw [hx, lay.1, lay.2, h.2.2.1, w32_id (x := (p : Int) + (k : Int)) (by omega) (by omega), w32_id (x := (k : Int) + 1) (by omega) (by omega)]
    have et : q_nm M 67 ((p : Int) + (k : Int)) = tb tp ((p : Int) + (k : Int)) := by
      have e := h.2.1 (p + k) (by omega)
      rw [Int.zero_add] at e
      rw [tb_in (by omega) (by omega), show ((p : Int) + (k : Int)).toNat = p + k by omega, ← e]
      congr 1
    have ew : q_nm M (68 + (n : Int)) (k : Int) = (owl.getD n []).getD k 0 := by
      have e := hL n hn k (by omega)
      rwa [Int.zero_add] at e
    rw [et, ew]
    refine ⟨by omega, fun z => absurd z (by omega), fun _ => ⟨by omega, ⟨rfl, by omega, by omega⟩, fun z => ?_, fun z => K0 (fun q => z ?_)⟩⟩
    · have := ih (k + 1) (by omega) (fun j hj' => by
        by_cases e : j = k
        · rw [e]; exact z
        · exact hj j (by omega))
      rw [hx] at this; exact this
    · rw [← ySl_g (by omega), q]
theorem r_153b {d : Nat} {P : Int → qM → Prop} {tp : List Int} {p n : Nat} {x : Int} {M : qM} {c s : Nat} (hl : q_lay M) (hx : x = 68 + (n : Int)) (hn : n < 24) (hL : LT M) (h : R_rd tp p M) (K1 : ySl tp p = owl.getD n [] → P 1 M) (K0 : ySl tp p ≠ owl.getD n [] → P 0 M) : ∀ m k : Nat, k + m = yLr tp p → q_At q_m153 (q_WP q_Pr (d + 1)) P 35 [(0, .inr (.inr 66)), (1, .inr (.inr x)), (2, .inl ((p : Int) + (k : Int)))] [] M c s := by
  have lay := ow_lay hl hn
  have le := yLr_le h.2.2.2.1
  have h5 := h.2.2.2.2
  have et : ∀ k : Nat, p + k < tp.length → q_nm M 67 ((p : Int) + (k : Int)) = tb tp ((p : Int) + (k : Int)) := fun k hk => by
    have e := h.2.1 (p + k) (by omega)
    rw [Int.zero_add] at e
    rw [tb_in (by omega) (by omega), show ((p : Int) + (k : Int)).toNat = p + k by omega, ← e]
    congr 1
  intro m
  induction m with
  | zero =>
    intro k hk
    have fin : (((w32 ((p : Int) + (k : Int) - (p : Int))) = ((owl.getD n []).length : Int) → (q_At q_m153 (q_WP q_Pr (d + 1)) P 76 [(0, .inr (.inr 66)), (1, .inr (.inr x)), (3, .inl (0 : Int))] [] M c s)) ∧ (¬ (w32 ((p : Int) + (k : Int) - (p : Int))) = ((owl.getD n []).length : Int) → (P (0 : Int) M))) := by
      rw [w32_id (x := (p : Int) + (k : Int) - (p : Int)) (by omega) (by omega)]
      refine ⟨fun z => ?_, fun z => K0 (fun q => z ?_)⟩
      · exact r_153c (d := d + 1) hl hx hn hL h (by omega) K1 K0 (yLr tp p) 0 (by omega) (fun j hj => absurd hj (Nat.not_lt_zero j))
      · have := congrArg List.length q
        rw [ySl_len] at this
        omega
    refine t_153_35 hl ?_
    rw [h.1, h.2.2.1, show q_kd M x = 13 by rw [hx]; exact lay.1, show q_ln M x = ((owl.getD n []).length : Int) by rw [hx]; exact lay.2]
    refine ⟨fun _ => ⟨by omega, fin⟩, fun z => ⟨by omega, fun q => ?_, fun _ => ⟨by omega, fin⟩⟩⟩
    rw [et k (by omega)] at q
    have o := yLr_out (tp := tp) (p := p)
    rw [show yLr tp p = k by omega] at o
    exact absurd q o
  | succ m ih =>
    intro k hk
    have i1 := yLr_in (tp := tp) (p := p) (k := k) (by omega)
    refine t_153_35 hl ?_
    rw [h.1, et k (by omega), w32_id (x := (p : Int) + (k : Int) + 1) (by omega) (by omega)]
    refine ⟨fun z => absurd z (by omega), fun _ => ⟨by omega, fun _ => ?_, fun z => absurd i1 z⟩⟩
    have := ih (k + 1) (by omega)
    rwa [show (p : Int) + ((k + 1 : Nat) : Int) = (p : Int) + (k : Int) + 1 by omega] at this
theorem LT_Zt {M M' : qM} (h : LT M) (f : fr Zt M M') : LT M' := LT_eq h (fun a j x y => f.2 a j (fun q => by have := q.1; omega))
theorem r_153 {d : Nat} {P : Int → qM → Prop} {tp : List Int} {i a n : Nat} {x : Int} {M : qM} (hl : q_lay M) (hx : x = 68 + (n : Int)) (hn : n < 24) (hL : LT M) (h : R_ps tp i a M) (K1 : yT tp i = n → ∀ M', fr Zt M M' → q_lay M' → R_ps tp i (yP tp i) M' → P 1 M') (K0 : yT tp i ≠ n → ∀ M', fr Zt M M' → q_lay M' → R_ps tp i (yP tp i) M' → P 0 M') : q_WP q_Pr (d + 2) 153 [.inr (.inr 66), .inr (.inr x)] M P := by
  have wd := yT_wd (tp := tp) (i := i) hn
  refine q_enter (t_153_0 hl ⟨fun z => absurd (R_ps_ok h) z, fun _ => r_152P hl h (fun M2 f2 l2 p2 => ⟨l2, fun z => ⟨fun y => ?_, fun y => ?_⟩, fun z => K0 (fun q => z (wd.mp q).1) M2 f2 l2 p2⟩)⟩)
  · obtain ⟨e, g, s, l, xx⟩ := p2
    have ng : yG tp i = false := by
      cases hg : yG tp i with
      | false => rfl
      | true => exact absurd (by rw [g.1.2.2.1, g.2.1]; exact (xx.mpr hg).symm) y
    rw [g.1.2.2.1]
    have key := r_153b (d := d) (P := P) (c := 0) (s := 0) l2 hx hn (LT_Zt hL f2) g.1 (fun q => K1 (wd.mpr ⟨z, ng, q⟩) M2 f2 l2 ⟨e, g, s, l, xx⟩) (fun q => K0 (fun w => q (wd.mp w).2.2) M2 f2 l2 ⟨e, g, s, l, xx⟩) (yLr tp (yP tp i)) 0 (by omega)
    rw [show ((yP tp i : Nat) : Int) + ((0 : Nat) : Int) = ((yP tp i : Nat) : Int) by omega] at key
    exact key
  · refine K0 (fun q => ?_) M2 f2 l2 p2
    obtain ⟨e, g, s, l, xx⟩ := p2
    rw [g.1.2.2.1, g.2.1] at y
    have := (wd.mp q).2.1
    rw [xx.mp y.symm] at this
    exact absurd this (by decide)
theorem r_154 {d : Nat} {P : Int → qM → Prop} {tp : List Int} {i a n : Nat} {x : Int} {M : qM} (hl : q_lay M) (hx : x = 68 + (n : Int)) (hn : n < 24) (hL : LT M) (h : R_ps tp i a M) (K1 : yT tp i = n → ∀ M', fr Zt M M' → q_lay M' → R_ps tp (i + 1) (ySq tp (i + 1)).1 M' → P 1 M') (K0 : yT tp i ≠ n → ∀ M', fr Zt M M' → q_lay M' → R_ps tp i (yP tp i) M' → P 0 M') : q_WP q_Pr (d + 3) 154 [.inr (.inr 66), .inr (.inr x)] M P := by
  refine q_enter (t_154_0 hl (r_153 (d := d) hl hx hn hL h (fun q M2 f2 l2 p2 => ⟨l2, fun _ => ⟨?_, ?_⟩, fun z => absurd z (by decide)⟩) (fun q M2 f2 l2 p2 => ⟨l2, fun z => absurd rfl z, fun _ => K0 q M2 f2 l2 p2⟩)))
  · rw [hx, (ow_lay l2 hn).1]; omega
  · intro M3 e3 l3 M4 e4 l4
    have wd := (yT_wd hn).mp q
    have sq := ySq_wd wd.1
    have ln : yLr tp (yP tp i) = (owl.getD n []).length := by rw [← ySl_len, wd.2.2]
    have le := yLr_le (yP_le tp i).2
    obtain ⟨e, g, s, l, xx⟩ := p2
    have h5 := g.1.2.2.2.2
    rw [g.1.2.2.1, hx, (ow_lay l2 hn).2, ← ln, w32_id (x := ((yP tp i : Nat) : Int) + ((yLr tp (yP tp i) : Nat) : Int)) (by omega) (by omega)] at e3
    rw [wn_eq e3] at e4
    have pl := yP_le tp (i + 1)
    rw [sq] at pl
    refine K1 q M4 (fr_trans f2 (fr_trans (fr_wn e3 ⟨rfl, by omega⟩) (fr_wn e4 ⟨rfl, by omega⟩))) l4 ?_
    rw [sq]
    refine ⟨((yP tp i + yLr tp (yP tp i) : Nat) : Int), ⟨⟨?_, ?_, ?_, le, h5⟩, ?_, ?_⟩, ?_, by have := pl.1; omega, ?_⟩
    · rw [wn_ne e4 (by omega), wn_ne e3 (by omega)]; exact g.1.1
    · exact q_L_fr (q_L_fr g.1.2.1 (fun j _ _ => wn_ne e3 (by omega))) (fun j _ _ => wn_ne e4 (by omega))
    · rw [wn_ne e4 (by omega), wn_eq e3]; omega
    · rw [wn_eq e4]; omega
    · rw [wn_ne e4 (by omega), wn_ne e3 (by omega), wn_ne e4 (by omega), wn_ne e3 (by omega)]; exact g.2.2
    · show _ = skp tp (ySq tp (i + 1)).1; rw [sq]
    · unfold yG
      rw [sq, Bool.true_and, decide_eq_true_eq]
      omega
theorem r_155 {d : Nat} {P : Int → qM → Prop} {tp : List Int} {i a n : Nat} {x : Int} {M : qM} (hl : q_lay M) (hx : x = 68 + (n : Int)) (hn : n < 24) (hL : LT M) (h : R_ps tp i a M) (K1 : yT tp i = n → ∀ M', fr Zt M M' → q_lay M' → R_ps tp (i + 1) (ySq tp (i + 1)).1 M' → P 0 M') (K0 : yT tp i ≠ n → ∀ M', fr Zt M M' → q_lay M' → R_bad 1 (yP tp i) M' → P 0 M') : q_WP q_Pr (d + 4) 155 [.inr (.inr 66), .inr (.inr x)] M P := by
  refine q_enter (t_155_0 hl ⟨fun z => absurd (R_ps_ok h) z, fun _ => r_154 (d := d) hl hx hn hL h (fun q M2 f2 l2 p2 => ⟨l2, fun _ => K1 q M2 f2 l2 p2, fun z => absurd z (by decide)⟩) (fun q M2 f2 l2 p2 => ⟨l2, fun z => absurd rfl z, fun _ => ?_⟩)⟩)
  rw [R_ps_a p2]
  exact r_149 (d := d + 2) l2 (R_ps_ok p2) (fun M4 f4 l4 b4 => ⟨l4, K0 q M4 (fr_trans f2 f4) l4 b4⟩)
theorem r_155b {d : Nat} {P : Int → qM → Prop} {x : Int} {M : qM} (hl : q_lay M) (h : ¬ q_nm M 66 5 = 0) (K : P 0 M) : q_WP q_Pr (d + 1) 155 [.inr (.inr 66), .inr (.inr x)] M P :=
  q_enter (t_155_0 hl ⟨fun _ => K, fun z => absurd z h⟩)
theorem r_157b {d : Nat} {P : Int → qM → Prop} {x : Int} {M : qM} (hl : q_lay M) (h : ¬ q_nm M 66 5 = 0) (K : P 0 M) : q_WP q_Pr (d + 1) 157 [.inr (.inr 66), .inl x] M P :=
  q_enter (t_157_0 hl ⟨fun _ => K, fun z => absurd z h⟩)
theorem R_ps_sg {tp : List Int} {i : Nat} {e c : Int} {M : qM} (hc : ySg c) (h : yT tp i = c) (g : R_go tp (yP tp i + 1) e M) (l : e ≤ yP tp i) : R_ps tp (i + 1) (ySq tp (i + 1)).1 M := by
  have sq := ySq_sg hc h
  have pl := (yP_le tp (i + 1)).1
  rw [sq] at pl ⊢
  refine ⟨e, g, by show _ = skp tp (ySq tp (i + 1)).1; rw [sq], by omega, ?_⟩
  unfold yG
  rw [sq]
  simp only [Bool.false_and, Bool.false_eq_true, iff_false]
  omega
theorem r_156P {d : Nat} {P : Int → qM → Prop} {tp : List Int} {i a : Nat} {x : Int} {M : qM} (hl : q_lay M) (hx : ySg x) (h : R_ps tp i a M) (K1 : yT tp i = x → ∀ M', fr Zt M M' → q_lay M' → q_nm M' 66 2 = (yP tp i : Int) + 1 → R_ps tp (i + 1) (ySq tp (i + 1)).1 M' → P 1 M') (K0 : yT tp i ≠ x → ∀ M', fr Zt M M' → q_lay M' → R_ps tp i (yP tp i) M' → P 0 M') : q_WP q_Pr (d + 2) 156 [.inr (.inr 66), .inl x] M P := by
  obtain ⟨e, g, s, l, xx⟩ := h
  refine r_156 hl g (by unfold ySg at hx; omega) (fun q M' f' l' g' => ?_) (fun q M' f' l' g' => ?_)
  · rw [s] at q g'
    exact K1 ((yT_sg hx).mpr q) M' f' l' (by rw [g'.1.2.2.1]; omega) (R_ps_sg hx ((yT_sg hx).mpr q) g' l)
  · rw [s] at q g'
    exact K0 (fun w => q ((yT_sg hx).mp w)) M' f' l' ⟨e, g', skp_idem, l, xx⟩
theorem r_157P {d : Nat} {P : Int → qM → Prop} {tp : List Int} {i a : Nat} {x : Int} {M : qM} (hl : q_lay M) (hx : ySg x) (h : R_ps tp i a M) (K1 : yT tp i = x → ∀ M', fr Zt M M' → q_lay M' → R_ps tp (i + 1) (ySq tp (i + 1)).1 M' → P 0 M') (K0 : yT tp i ≠ x → ∀ M', fr Zt M M' → q_lay M' → R_bad 1 (yP tp i) M' → P 0 M') : q_WP q_Pr (d + 3) 157 [.inr (.inr 66), .inl x] M P := by
  obtain ⟨e, g, s, l, xx⟩ := h
  refine r_157 hl g (by unfold ySg at hx; omega) (fun q M' f' l' g' => ?_) (fun q M' f' l' g' => ?_)
  · rw [s] at q g'
    exact K1 ((yT_sg hx).mpr q) M' f' l' (R_ps_sg hx ((yT_sg hx).mpr q) g' l)
  · rw [s] at q g'
    exact K0 (fun w => q ((yT_sg hx).mp w)) M' f' l' g'
/-- a step over a sign, by hand -/
theorem R_ps_step {tp : List Int} {i : Nat} {c : Int} {M M' : qM} (hc : ySg c) (h : yT tp i = c) (p : R_ps tp i (yP tp i) M) (e : M' = q_wn M 66 2 (w32 (q_nm M 66 2 + 1))) : R_ps tp (i + 1) (ySq tp (i + 1)).1 M' := by
  obtain ⟨e', g, s, l, xx⟩ := p
  have lt := tb_lt (tp := tp) (p := yP tp i) (by rw [(yT_sg hc).mp h]; unfold ySg at hc; omega)
  have h5 := g.1.2.2.2.2
  rw [g.1.2.2.1, w32_id (x := ((yP tp i : Nat) : Int) + 1) (by omega) (by omega)] at e
  refine R_ps_sg hc h (e := e') ⟨⟨(wn_ne e (by omega)).trans g.1.1, q_L_fr g.1.2.1 (fun j _ _ => wn_ne e (by omega)), by rw [wn_eq e]; omega, by omega, h5⟩, (wn_ne e (by omega)).trans g.2.1, ⟨(wn_ne e (by omega)).trans g.2.2.1, (wn_ne e (by omega)).trans g.2.2.2⟩⟩ l
theorem r_158l {d : Nat} {P : Int → qM → Prop} {tp : List Int} {i : Nat} {e : Int} {M0 : qM} {c s : Nat} (h1 : 1000 ≤ yT tp i) (hle : e ≤ yP tp i) (K1 : yD5 tp i = false → ∀ M', fr Zt M0 M' → q_lay M' → R_ps tp (i + 1) (ySq tp (i + 1)).1 M' → P (yT tp i - 1000) M') (K5 : yD5 tp i = true → ∀ M', fr Zt M0 M' → q_lay M' → R_bad 1 (yP tp (i + 1)) M' → P 0 M') : ∀ (m k : Nat) (M : qM), k + m = yDr tp (yP tp i) → fr Zt M0 M → q_lay M → R_go tp (yP tp i + k) e M → q_At q_m158 (q_WP q_Pr (d + 1)) P 49 [(0, .inr (.inr 66)), (1, .inl 0), (2, .inl 9999), (3, .inl (yP tp i : Int)), (4, .inl (vl tp (yP tp i) k))] [] M c s := by
  have le := yDr_le (yP_le tp i).2
  have nm := yT_nm.mp h1
  have nv := yT_nv h1
  have sq := ySq_nm nm.1
  have pl := yP_le tp (i + 1)
  rw [sq] at pl
  intro m
  induction m with
  | zero =>
    intro k M hk f hl g
    have h5 := g.1.2.2.2.2
    have ek : k = yDr tp (yP tp i) := by omega
    have fin : ∀ M1 : qM, yD5 tp i = false → M1 = q_wn M 66 4 (q_nm M 66 2) → q_lay M1 → (((0 : Int) ≤ vl tp (yP tp i) k ∧ vl tp (yP tp i) k ≤ 9999 → (P (vl tp (yP tp i) k) M1)) ∧ (¬ ((0 : Int) ≤ vl tp (yP tp i) k ∧ vl tp (yP tp i) k ≤ 9999) → q_WP q_Pr (d + 1) 149 [.inr (.inr 66), .inl (2 : Int), .inl (yP tp i : Int)] M1 (fun v4 M5 => q_lay M5 ∧ (P (vl tp (yP tp i) k) M5)))) := fun M1 n5 e1 l1 => by
      refine ⟨fun _ => ?_, fun z => absurd (vl_dr (by omega)) z⟩
      rw [g.1.2.2.1] at e1
      have := K1 n5 M1 (fr_trans f (fr_wn e1 ⟨rfl, by omega⟩)) l1 (by
        rw [sq]
        refine ⟨((yP tp i + k : Nat) : Int), ⟨⟨(wn_ne e1 (by omega)).trans g.1.1, q_L_fr g.1.2.1 (fun j _ _ => wn_ne e1 (by omega)), by rw [wn_ne e1 (by omega), g.1.2.2.1]; omega, by omega, h5⟩, by rw [wn_eq e1], ⟨(wn_ne e1 (by omega)).trans g.2.2.1, (wn_ne e1 (by omega)).trans g.2.2.2⟩⟩, by show _ = skp tp (ySq tp (i + 1)).1; rw [sq], by have := pl.1; omega, ?_⟩
        unfold yG
        rw [sq, Bool.true_and, decide_eq_true_eq]
        omega)
      rw [nv.1, ← ek, show 1000 + vl tp (yP tp i) k - 1000 = vl tp (yP tp i) k by omega] at this
      exact this
    have n5o : tp.length ≤ yP tp i + k → yD5 tp i = false := fun z => by
      unfold yD5
      refine decide_eq_false (fun q => ?_)
      have := tb_lt (tp := tp) (p := yP tp i + 4) (by rw [show ((yP tp i + 4 : Nat) : Int) = (yP tp i : Int) + 4 by omega]; omega)
      omega
    have n5d : yP tp i + k < tp.length → ¬ (48 ≤ tb tp ((yP tp i : Int) + k) ∧ tb tp ((yP tp i : Int) + k) ≤ 57) → yD5 tp i = false := fun _ z => by
      unfold yD5
      refine decide_eq_false (fun q => z ?_)
      rw [show (k : Int) = 4 by omega]; exact q.2
    refine t_158_49 hl ?_
    rw [g.1.1, g.1.2.2.1]
    refine ⟨fun z M1 e1 l1 => fin M1 (n5o (by omega)) (by rw [g.1.2.2.1]; exact e1) l1, fun z => ⟨by omega, fun y => ⟨fun x => ?_, fun x => ?_⟩, fun y M1 e1 l1 => fin M1 ?_ (by rw [g.1.2.2.1]; exact e1) l1⟩⟩
    · rw [w32_id (x := ((yP tp i + k : Nat) : Int) - (yP tp i : Int)) (by omega) (by omega)] at x
      have et : q_nm M 67 ((yP tp i + k : Nat) : Int) = tb tp ((yP tp i : Int) + k) := by
        have e := g.1.2.1 (yP tp i + k) (by omega)
        rw [Int.zero_add] at e
        rw [tb_in (by omega) (by omega), show ((yP tp i : Int) + (k : Int)).toNat = yP tp i + k by omega, ← e]
      rw [et] at y
      have o := yDr_out (tp := tp) (p := yP tp i) (by omega)
      rw [← ek] at o
      exact absurd y o
    · rw [w32_id (x := ((yP tp i + k : Nat) : Int) - (yP tp i : Int)) (by omega) (by omega)] at x
      have et : q_nm M 67 ((yP tp i + k : Nat) : Int) = tb tp ((yP tp i : Int) + k) := by
        have e := g.1.2.1 (yP tp i + k) (by omega)
        rw [Int.zero_add] at e
        rw [tb_in (by omega) (by omega), show ((yP tp i : Int) + (k : Int)).toNat = yP tp i + k by omega, ← e]
      rw [et, show (k : Int) = 4 by omega] at y
      have d5 : yD5 tp i = true := by unfold yD5; exact decide_eq_true ⟨by omega, y⟩
      refine r_149 (d := d) hl g.2.2.1 (fun M4 f4 l4 b4 => ⟨l4, K5 d5 M4 (fr_trans f f4) l4 ?_⟩)
      rw [(yD5_sp h1 d5).1]
      rw [show k = 4 by omega] at b4
      exact b4
    · have et : q_nm M 67 ((yP tp i + k : Nat) : Int) = tb tp ((yP tp i : Int) + k) := by
        have e := g.1.2.1 (yP tp i + k) (by omega)
        rw [Int.zero_add] at e
        rw [tb_in (by omega) (by omega), show ((yP tp i : Int) + (k : Int)).toNat = yP tp i + k by omega, ← e]
      rw [et] at y
      exact n5d (by omega) y
  | succ m ih =>
    intro k M hk f hl g
    have h5 := g.1.2.2.2.2
    have i1 := yDr_in (tp := tp) (p := yP tp i) (k := k) (by omega)
    have et : q_nm M 67 ((yP tp i + k : Nat) : Int) = tb tp ((yP tp i : Int) + k) := by
      have e := g.1.2.1 (yP tp i + k) (by omega)
      rw [Int.zero_add] at e
      rw [tb_in (by omega) (by omega), show ((yP tp i : Int) + (k : Int)).toNat = yP tp i + k by omega, ← e]
    have v0 := vl_dr (tp := tp) (p := yP tp i) (k := k) (by omega)
    refine t_158_49 hl ?_
    rw [g.1.1, g.1.2.2.1, et, w32_id (x := ((yP tp i + k : Nat) : Int) - (yP tp i : Int)) (by omega) (by omega), w32_id (x := 10 * vl tp (yP tp i) k) (by omega) (by omega), w32_id (x := 10 * vl tp (yP tp i) k + tb tp ((yP tp i : Int) + k)) (by omega) (by omega), w32_id (x := 10 * vl tp (yP tp i) k + tb tp ((yP tp i : Int) + k) - 48) (by omega) (by omega), w32_id (x := ((yP tp i + k : Nat) : Int) + 1) (by omega) (by omega)]
    refine ⟨fun z => absurd z (by omega), fun z => ⟨by omega, fun y => ⟨fun x => ⟨by omega, fun M13 e13 l13 => ?_⟩, fun x => absurd x (by omega)⟩, fun y => absurd i1 y⟩⟩
    have := ih (k + 1) M13 (by omega) (fr_trans f (fr_wn e13 ⟨rfl, by omega⟩)) l13 ⟨⟨(wn_ne e13 (by omega)).trans g.1.1, q_L_fr g.1.2.1 (fun j _ _ => wn_ne e13 (by omega)), by rw [wn_eq e13]; omega, by omega, h5⟩, (wn_ne e13 (by omega)).trans g.2.1, ⟨(wn_ne e13 (by omega)).trans g.2.2.1, (wn_ne e13 (by omega)).trans g.2.2.2⟩⟩
    exact this
theorem r_158 {d : Nat} {P : Int → qM → Prop} {tp : List Int} {i a : Nat} {M : qM} (hl : q_lay M) (h : R_ps tp i a M) (K1 : 1000 ≤ yT tp i → yD5 tp i = false → ∀ M', fr Zt M M' → q_lay M' → R_ps tp (i + 1) (ySq tp (i + 1)).1 M' → P (yT tp i - 1000) M') (K5 : 1000 ≤ yT tp i → yD5 tp i = true → ∀ M', fr Zt M M' → q_lay M' → R_bad 1 (yP tp (i + 1)) M' → P 0 M') (K0 : ¬ 1000 ≤ yT tp i → ∀ M', fr Zt M M' → q_lay M' → R_bad 1 (yP tp i) M' → P 0 M') : q_WP q_Pr (d + 2) 158 [.inr (.inr 66), .inl 0, .inl 9999] M P := by
  refine q_enter (t_158_0 hl ⟨fun _ => r_152P hl h (fun M2 f2 l2 p2 => ⟨l2, fun z => ⟨fun y => ?_, fun y => ?_⟩, fun z => ?_⟩), fun z => absurd (R_ps_ok h) z⟩)
  · obtain ⟨e, g, s, l, xx⟩ := p2
    have ng : yG tp i = false := by
      cases hg : yG tp i with
      | false => rfl
      | true => exact absurd (by rw [g.1.2.2.1, g.2.1]; exact (xx.mpr hg).symm) y
    have h1 : 1000 ≤ yT tp i := yT_nm.mpr ⟨z, ng⟩
    rw [g.1.2.2.1]
    exact r_158l (d := d) (M0 := M) h1 l (K1 h1) (K5 h1) (yDr tp (yP tp i)) 0 M2 (by omega) f2 l2 g
  · rw [R_ps_a p2]
    refine r_149 (d := d) l2 (R_ps_ok p2) (fun M4 f4 l4 b4 => ⟨l4, K0 (fun q => ?_) M4 (fr_trans f2 f4) l4 b4⟩)
    obtain ⟨e, g, s, l, xx⟩ := p2
    rw [g.1.2.2.1, g.2.1] at y
    have := (yT_nm.mp q).2
    rw [xx.mp y.symm] at this
    exact absurd this (by decide)
  · rw [R_ps_a p2]
    exact r_149 (d := d) l2 (R_ps_ok p2) (fun M4 f4 l4 b4 => ⟨l4, K0 (fun q => z (yT_nm.mp q).1) M4 (fr_trans f2 f4) l4 b4⟩)
end
