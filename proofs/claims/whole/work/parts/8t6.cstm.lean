section
/-! THE COMPONENT READS STATEMENTS -/
def Ze (r : Int) : Int → Int → Prop := fun a j => Zd r a j ∨ (a = r + 1 ∧ j = 6) ∨ (r + 1 + 1 ≤ a ∧ a ≤ r + 1 + 4)
theorem Zd_Ze {r : Int} {M M' : qM} (f : fr (Zd r) M M') : fr (Ze r) M M' := fr_mono f (fun a j q => Or.inl q)
theorem C_tx_q {tp : List Int} {r : Int} {n : Nat} {M M' : qM} (h : C_tx tp r n M) (f : fr (Ze r) M M') : C_tx tp r n M' :=
  ⟨rd_fr h.1 f, fun j hj => by
    obtain ⟨a, b⟩ := h.2.1 j hj
    exact ⟨(f.2 _ _ (by unfold Ze Zd; omega)).trans a, (f.2 _ _ (by unfold Ze Zd; omega)).trans b⟩, (f.2 _ _ (by unfold Ze Zd; omega)).trans h.2.2.1, h.2.2.2⟩
/-- between the statements -/
def C_q (tp : List Int) (r : Int) (n i : Nat) (sc : List qS) (M : qM) : Prop := C_go tp r n i (flt id sc) M ∧ q_nm M (r + 1) 6 = sc.length ∧ stT M (r + 1 + 1) (r + 1 + 2) (r + 1 + 3) (r + 1 + 4) 0 sc ∧ sc.length ≤ 20 ∧ (flt id sc).length ≤ i
/-- it has failed -/
def C_fl (tp : List Int) (r : Int) (n : Nat) (k : Int) (q : Nat) (M : qM) : Prop := C_tx tp r n M ∧ (q_nm M r 1 = k ∧ k ≠ 0) ∧ q_nm M r 4 = q ∧ q_nm M r 5 = -2 ∧ q ≤ n
theorem C_44x {d : Nat} {P : Int → qM → Prop} {tp : List Int} {r w : Int} {n : Nat} {C : List Int} {res : gR} {M : qM} (h : C_po tp r n C res M) (hw : 0 ≤ w) (K : ∀ M', fr (Zd r) M M' → C_po tp r n C (gB res fun j c => if yT tp j = w then .inl (j + 1, c) else .inr (1, j)) M' → (∀ k q, (gB res fun j c => if yT tp j = w then .inl (j + 1, c) else .inr (1, j)) = .inr (k, q) → q_nm M' r 1 = k) → P 0 M') : q_WP q_Pr (d + 2) 44 [.inr (.inr r), .inl w] M P := by
  refine q_enter (s_44_0 ?_)
  have k4 := C_po_k h
  cases res with
  | inl x =>
    have hh : C_go tp r n x.1 (C ++ x.2) M := h
    rw [k4, hh.2.2.2.1]
    refine ⟨rfl, fun z => ⟨rfl, C_42 (d := d) hh (by decide) (fun M' f' b' e' => K M' f' ?_ (fun k q e => ?_))⟩, fun z => ⟨rfl, C_43 (d := d) hh (by omega) (by omega) (fun M' f' b' => K M' f' ?_ (fun k q e => ?_))⟩⟩
    · show C_po tp r n C (if _ then _ else _) M'; rw [if_neg z]; exact b'
    · have e2 : (if yT tp x.1 = w then (Sum.inl (x.1 + 1, x.2) : gR) else .inr (1, x.1)) = .inr (k, q) := e
      rw [if_neg z] at e2
      rw [e', (inr2 e2).1]
    · show C_po tp r n C (if _ then _ else _) M'; rw [if_pos z]; exact b'
    · have e2 : (if yT tp x.1 = w then (Sum.inl (x.1 + 1, x.2) : gR) else .inr (1, x.1)) = .inr (k, q) := e
      rw [if_pos z] at e2
      exact absurd e2 (by simp)
  | inr f =>
    have hh : C_bd tp r n f.1 f.2 M := h
    rw [k4, C_bd_t hh]
    refine ⟨rfl, fun z => ⟨rfl, C_42b (d := d) hh (fun M' f' b' e' => K M' f' b' (fun k q e => ?_))⟩, fun z => absurd z (by omega)⟩
    have e2 : (Sum.inr (f.1, f.2) : gR) = .inr (k, q) := e
    rw [e', (inr2 e2).1]
theorem C_55 {d : Nat} {P : Int → qM → Prop} {tp : List Int} {r x1 x2 x3 : Int} {n cn : Nat} {M : qM} (h : C_tx tp r n M) (hc : q_nm M (r + 1) 6 = cn) (h20 : cn < 20) (K : ∀ M', fr (fun a j => (a = r + 1 ∧ j = 6) ∨ ((r + 1 + 1 ≤ a ∧ a ≤ r + 1 + 4) ∧ j = cn)) M M' → q_nm M' (r + 1 + 1) cn = x1 → q_nm M' (r + 1 + 2) cn = x2 → q_nm M' (r + 1 + 3) cn = x3 → q_nm M' (r + 1 + 4) cn = q_nm M (r + 1) 1 → q_nm M' (r + 1) 6 = (cn : Int) + 1 → P 0 M') : q_WP q_Pr (d + 1) 55 [.inr (.inr (r + 1)), .inl x1, .inl x2, .inl x3] M P := by
  have rg := h.1.1
  obtain ⟨s0, s1, s2, s3, s4, s5, s6⟩ := h.1.2.2.1.1
  refine q_enter (s_55_0 ?_)
  rw [s1, hc, s2.1, s2.2.1, s2.2.2]
  refine ⟨rfl, fun z => absurd z (by omega), fun _ => ⟨rfl, rfl, ⟨⟨by omega, rfl⟩, by omega, by omega⟩, ?_⟩⟩
  intro N1
  obtain ⟨M1, e1⟩ : ∃ x, x = N1 := ⟨_, rfl⟩
  rw [← e1]
  have f1 : fr (fun a j => (a = r + 1 ∧ j = 6) ∨ ((r + 1 + 1 ≤ a ∧ a ≤ r + 1 + 4) ∧ j = cn)) M M1 := fr_wn e1 (by omega)
  rw [fr_kd f1, s1, fr_rf f1, s3.1, fr_kd f1, s3.2.1, fr_ln f1, s3.2.2, wn_ne e1 (by omega), hc]
  refine ⟨rfl, rfl, ⟨⟨by omega, rfl⟩, by omega, by omega⟩, ?_⟩
  intro N2
  obtain ⟨M2, e2⟩ : ∃ x, x = N2 := ⟨_, rfl⟩
  rw [← e2]
  have f2 : fr (fun a j => (a = r + 1 ∧ j = 6) ∨ ((r + 1 + 1 ≤ a ∧ a ≤ r + 1 + 4) ∧ j = cn)) M M2 := fr_trans f1 (fr_wn e2 (by omega))
  rw [fr_kd f2, s1, fr_rf f2, s4.1, fr_kd f2, s4.2.1, fr_ln f2, s4.2.2, wn_ne e2 (by omega), wn_ne e1 (by omega), hc]
  refine ⟨rfl, rfl, ⟨⟨by omega, rfl⟩, by omega, by omega⟩, ?_⟩
  intro N3
  obtain ⟨M3, e3⟩ : ∃ x, x = N3 := ⟨_, rfl⟩
  rw [← e3]
  have f3 : fr (fun a j => (a = r + 1 ∧ j = 6) ∨ ((r + 1 + 1 ≤ a ∧ a ≤ r + 1 + 4) ∧ j = cn)) M M3 := fr_trans f2 (fr_wn e3 (by omega))
  have k3 : ∀ j, q_nm M3 (r + 1) j = q_nm M (r + 1) j := fun j => by rw [wn_ne e3 (by omega), wn_ne e2 (by omega), wn_ne e1 (by omega)]
  rw [fr_kd f3, s1, fr_rf f3, s5.1, fr_kd f3, s5.2.1, fr_ln f3, s5.2.2, k3 6, hc, k3 1]
  refine ⟨rfl, rfl, rfl, ⟨⟨by omega, rfl⟩, by omega, by omega⟩, ?_⟩
  intro N4
  obtain ⟨M4, e4⟩ : ∃ x, x = N4 := ⟨_, rfl⟩
  rw [← e4]
  have f4 : fr (fun a j => (a = r + 1 ∧ j = 6) ∨ ((r + 1 + 1 ≤ a ∧ a ≤ r + 1 + 4) ∧ j = cn)) M M4 := fr_trans f3 (fr_wn e4 (by omega))
  rw [fr_kd f4, s1, wn_ne e4 (by omega), k3 6, hc, w32_id (x := (cn : Int) + 1) (by omega) (by omega)]
  refine ⟨rfl, rfl, ?_⟩
  intro N5
  obtain ⟨M5, e5⟩ : ∃ x, x = N5 := ⟨_, rfl⟩
  rw [← e5]
  refine K M5 (fr_trans f4 (fr_wn e5 (by omega))) ?_ ?_ ?_ ?_ (wn_eq e5)
  · rw [wn_ne e5 (by omega), wn_ne e4 (by omega), wn_ne e3 (by omega), wn_ne e2 (by omega), wn_eq e1]
  · rw [wn_ne e5 (by omega), wn_ne e4 (by omega), wn_ne e3 (by omega), wn_eq e2]
  · rw [wn_ne e5 (by omega), wn_ne e4 (by omega), wn_eq e3]
  · rw [wn_ne e5 (by omega), wn_eq e4]
theorem C_46 {d : Nat} {P : Int → qM → Prop} {tp : List Int} {r : Int} {n i : Nat} {sc : List qS} {M : qM} (h : C_q tp r n i sc M) (h20 : sc.length < 20)
    (K1 : ∀ j s, gStmt (yT tp) (yD5 tp) i = .inl (j, s) → ∀ M', fr (Ze r) M M' → C_q tp r n j (sc ++ [s]) M' → P 0 M')
    (KF : ∀ k q, gStmt (yT tp) (yD5 tp) i = .inr (k, q) → ∀ M', fr (Ze r) M M' → C_fl tp r n k q M' → P 0 M') : q_WP q_Pr (d + 29) 46 [.inr (.inr r)] M P := by
  obtain ⟨hg, hc, hst, _, hbd⟩ := h
  have k4 := hg.1.1.2.1.1
  refine q_enter (s_46_0 ?_)
  rw [k4, hg.2.2.2.1]
  refine ⟨rfl, p_134 (d := d + 27) (fun hk => ⟨fun _ => ⟨k4, C_43 (d := d + 27) hg (by omega) (by omega) (fun M1 f1 h1 => ?_)⟩, fun z => absurd z (by decide)⟩) (fun nk => ⟨fun z => absurd rfl z, fun _ => ⟨k4, C_42 (d := d + 27) hg (by decide) (fun M1 f1 h1 e1 => KF 1 i ?_ M1 (Zd_Ze f1) ⟨h1.1, ⟨e1, by decide⟩, h1.2.2.1, h1.2.2.2.1, h1.2.2.2.2.1⟩)⟩⟩)⟩
  · have s1 := h1.1.1.2.1.2.1
    rw [h1.1.1.2.1.1, s1, h1.1.1.2.2.1.1.2.1, h1.2.2.2.2.2.1]
    refine ⟨rfl, rfl, rfl, ?_⟩
    refine c_50S (tp := tp) (r := r) (n := n) 6 (d + 3) 0 rfl _ (i + 1) (flt id sc) M1 h1 (by omega) (fun M2 f2 h2 => ⟨C_po_k h2, C_44 (d := d + 26) h2 (by decide) (fun M3 f3 h3 => ?_)⟩)
    have ss3 := C_po_s h3
    rw [C_po_k h3, ss3.1, ss3.2]
    have l2 : lbC 0 (flt id sc) (gSum (yT tp) (yD5 tp) 7 (i + 1)) := fun j c e => by
      have := gSum_ln (T := yT tp) (D5 := yD5 tp) 7 _ _ _ e
      rw [List.length_append]; omega
    have l3 := lbC_w (T := yT tp) (w := 9) l2
    refine ⟨rfl, rfl, rfl, cRg (p := gTest (yT tp) (yD5 tp) 7) (fun _ => c_47T (D := d)) (c_47b (d + 21) 0) l3 h3 (fun M4 f4 h4 => ⟨C_po_k h4, C_44x (d := d + 26) h4 (by decide) (fun M5 f5 h5 x5 => ?_)⟩)⟩
    have ss5 := C_po_s h5
    rw [C_po_k h5, ss5.1]
    have f05 : fr (Zd r) M M5 := fr_trans f1 (fr_trans f2 (fr_trans f3 (fr_trans f4 f5)))
    have hc5 : q_nm M5 (r + 1) 6 = sc.length := (f05.2 _ _ (by unfold Zd; omega)).trans hc
    refine ⟨rfl, ss5.2, C_55 (d := d + 27) (C_po_tx h5) hc5 h20 (fun M6 f6 a1 a2 a3 a4 a5 => ?_)⟩
    have f6q : fr (Ze r) M5 M6 := fr_mono f6 (fun a j q => by unfold Ze; omega)
    have f06 : fr (Ze r) M M6 := fr_trans (Zd_Ze f05) f6q
    have bad : ∀ k q, (gB (gB (gB (gSum (yT tp) (yD5 tp) 7 (i + 1)) fun j c => if yT tp j = 9 then .inl (j + 1, c) else .inr (1, j)) fun j c => gB (gTest (yT tp) (yD5 tp) 7 j) fun j2 c2 => .inl (j2, c ++ c2)) fun j c => if yT tp j = 59 then .inl (j + 1, c) else .inr (1, j)) = .inr (k, q) → gStmt (yT tp) (yD5 tp) i = .inr (k, q) → P 0 M6 := fun k q e eg => by
      have kx := x5 k q e
      rw [e] at h5
      have hh : C_bd tp r n k q M5 := h5
      have kk : ∀ j, q_nm M6 r j = q_nm M5 r j := fun j => f6.2 _ _ (by omega)
      exact KF k q eg M6 f06 ⟨C_tx_q hh.1 f6q, ⟨(kk 1).trans kx, hh.2.2.2.2.2.2⟩, (kk 4).trans hh.2.2.1, (kk 5).trans hh.2.2.2.1, hh.2.2.2.2.1⟩
    have gs : gStmt (yT tp) (yD5 tp) i = (match gSum (yT tp) (yD5 tp) 7 (i + 1) with
      | .inr f => .inr f
      | .inl x => if yT tp x.1 = 9 then (match gTest (yT tp) (yD5 tp) 7 (x.1 + 1) with
        | .inr f => .inr f
        | .inl y => if yT tp y.1 = 59 then .inl (y.1 + 1, (yT tp i, x.2, y.2)) else .inr (1, y.1)) else .inr (1, x.1)) := (if_pos hk).trans rfl
    cases e1 : gSum (yT tp) (yD5 tp) 7 (i + 1) with
    | inr f =>
      rw [e1] at bad gs
      exact bad f.1 f.2 rfl gs
    | inl x =>
      by_cases e9 : yT tp x.1 = 9
      · cases e2 : gTest (yT tp) (yD5 tp) 7 (x.1 + 1) with
        | inr f =>
          refine bad f.1 f.2 ?_ ?_
          · rw [e1]
            show gB (gB (if _ then _ else _) _) _ = _
            rw [if_pos e9]
            simp only [gB, e2]
          · rw [gs, e1]
            dsimp only
            rw [if_pos e9, e2]
        | inl y =>
          by_cases e59 : yT tp y.1 = 59
          · refine K1 (y.1 + 1) (yT tp i, x.2, y.2) ?_ M6 f06 ?_
            · rw [gs, e1]
              dsimp only
              rw [if_pos e9, e2]
              dsimp only
              rw [if_pos e59]
            · have er : (gB (gB (gB (gSum (yT tp) (yD5 tp) 7 (i + 1)) fun j c => if yT tp j = 9 then .inl (j + 1, c) else .inr (1, j)) fun j c => gB (gTest (yT tp) (yD5 tp) 7 j) fun j2 c2 => .inl (j2, c ++ c2)) fun j c => if yT tp j = 59 then .inl (j + 1, c) else .inr (1, j)) = .inl (y.1 + 1, x.2 ++ y.2) := by
                rw [e1]
                show gB (gB (if _ then _ else _) _) _ = _
                rw [if_pos e9]
                simp only [gB, e2, if_pos e59]
              rw [er] at h5
              have hh : C_go tp r n (y.1 + 1) (flt id sc ++ (x.2 ++ y.2)) M5 := h5
              have ef : flt id (sc ++ [(yT tp i, x.2, y.2)]) = flt id sc ++ (x.2 ++ y.2) := by rw [flt_app, flt_one]; simp only [List.map_id]
              have e3 : (gB (gSum (yT tp) (yD5 tp) 7 (i + 1)) fun j c => if yT tp j = 9 then .inl (j + 1, c) else .inr (1, j)) = .inl (x.1 + 1, x.2) := by
                rw [e1]; show (if _ then _ else _) = _; rw [if_pos e9]
              rw [e3] at h3
              have hh3 : C_go tp r n (x.1 + 1) (flt id sc ++ x.2) M3 := h3
              have lt := gTest_ln (T := yT tp) (D5 := yD5 tp) 7 _ _ _ (show gTest (yT tp) (yD5 tp) 7 (x.1 + 1) = .inl (y.1, y.2) from e2)
              have ls := gSum_ln (T := yT tp) (D5 := yD5 tp) 7 _ _ _ (show gSum (yT tp) (yD5 tp) 7 (i + 1) = .inl (x.1, x.2) from e1)
              refine ⟨⟨C_tx_q hh.1 f6q, ?_, ?_, ?_, hh.2.2.2.2.1, ?_, ?_⟩, ?_, ?_, ?_, ?_⟩
              · rw [f6.2 _ _ (by omega)]; exact hh.2.1
              · rw [f6.2 _ _ (by omega)]; exact hh.2.2.1
              · rw [f6.2 _ _ (by omega)]; exact hh.2.2.2.1
              · rw [ef, f6.2 _ _ (by omega)]; exact hh.2.2.2.2.2.1
              · rw [ef]; exact q_L_fr hh.2.2.2.2.2.2 (fun j _ _ => f6.2 _ _ (by omega))
              · rw [a5, List.length_append]; rfl
              · refine stT_snoc hst (fun a j q u v => ?_) ?_ ?_ ?_ ?_
                · rw [f6.2 a j (by omega), f05.2 a j (by unfold Zd; omega)]
                · rw [Int.zero_add]; exact a1
                · rw [Int.zero_add]; exact a2
                · rw [Int.zero_add, a3, hh3.2.2.2.2.2.1, List.length_append]; dsimp only; omega
                · rw [Int.zero_add, a4, hh.2.2.2.2.2.1]; simp only [List.length_append]; omega
              · rw [List.length_append, List.length_cons, List.length_nil]; omega
              · rw [ef]; simp only [List.length_append]; omega
          · refine bad 1 y.1 ?_ ?_
            · rw [e1]
              show gB (gB (if _ then _ else _) _) _ = _
              rw [if_pos e9]
              simp only [gB, e2, if_neg e59]
            · rw [gs, e1]
              dsimp only
              rw [if_pos e9, e2]
              dsimp only
              rw [if_neg e59]
      · refine bad 1 x.1 ?_ ?_
        · rw [e1]
          show gB (gB (if _ then _ else _) _) _ = _
          rw [if_neg e9]; rfl
        · rw [gs, e1]
          dsimp only
          rw [if_neg e9]
  · unfold gStmt
    rw [if_neg nk]
end
