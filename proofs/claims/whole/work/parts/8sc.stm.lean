section
/-! STATEMENTS SIDE BY SIDE -/
def flt (f : Int → Int) : List qS → List Int
  | [] => []
  | s :: t => s.2.1.map f ++ s.2.2.map f ++ flt f t
def offS (sc : List qS) (k : Nat) : Nat := (flt id (sc.take k)).length
theorem flt_len {f : Int → Int} : ∀ sc : List qS, (flt f sc).length = (flt id sc).length
  | [] => rfl
  | s :: t => by
    show (s.2.1.map f ++ s.2.2.map f ++ flt f t).length = (s.2.1.map id ++ s.2.2.map id ++ flt id t).length
    simp only [List.length_append, List.length_map, flt_len t]
theorem flt_app {f : Int → Int} : ∀ a b : List qS, flt f (a ++ b) = flt f a ++ flt f b
  | [], b => rfl
  | s :: t, b => by
    show s.2.1.map f ++ s.2.2.map f ++ flt f (t ++ b) = s.2.1.map f ++ s.2.2.map f ++ flt f t ++ flt f b
    rw [flt_app t b]; simp only [List.append_assoc]
theorem flt_one {f : Int → Int} {s : qS} : flt f [s] = s.2.1.map f ++ s.2.2.map f := List.append_nil _
theorem offS_all {sc : List qS} : offS sc sc.length = (flt id sc).length := by unfold offS; rw [List.take_length]
theorem offS_app {sc b : List qS} {k : Nat} (h : k ≤ sc.length) : offS (sc ++ b) k = offS sc k := by
  unfold offS; rw [List.take_append_of_le_length h]
theorem getS_1 {a b : List qS} {k : Nat} {z : qS} (h : k < a.length) : (a ++ b).getD k z = a.getD k z := by
  rw [List.getD_eq_getElem?_getD, List.getD_eq_getElem?_getD, List.getElem?_append_left h]
theorem getS_2 {a : List qS} {s z : qS} : (a ++ [s]).getD a.length z = s := by
  rw [List.getD_eq_getElem?_getD, List.getElem?_append_right (Nat.le_refl _), Nat.sub_self]; rfl
theorem flt_at {f : Int → Int} {sc : List qS} {k : Nat} {z : qS} (h : k < sc.length) : flt f sc = flt f (sc.take k) ++ ((sc.getD k z).2.1.map f ++ (sc.getD k z).2.2.map f ++ flt f (sc.drop (k + 1))) := by
  have e : sc = sc.take k ++ (sc.getD k z :: sc.drop (k + 1)) := by
    have q := List.take_append_drop k sc
    rw [List.drop_eq_getElem_cons h] at q
    rw [List.getD_eq_getElem?_getD, List.getElem?_eq_getElem h]
    exact q.symm
  have e2 : flt f sc = flt f (sc.take k ++ (sc.getD k z :: sc.drop (k + 1))) := congrArg (flt f) e
  rw [e2, flt_app]
  rfl
theorem q_L_1 {M : qM} {a o : Int} {l m : List Int} (h : q_L M a o (l ++ m)) : q_L M a o l := fun i hi => by
  have e := h i (by rw [List.length_append]; omega)
  rwa [getD_app1 hi] at e
theorem q_L_2 {M : qM} {a o : Int} {l m : List Int} (h : q_L M a o (l ++ m)) : q_L M a (o + l.length) m := fun i hi => by
  have e := h (l.length + i) (by rw [List.length_append]; omega)
  rw [getD_app2 (by omega), Nat.add_sub_cancel_left] at e
  rw [← e]; congr 1; omega
theorem q_L_st {M : qM} {a o : Int} {f : Int → Int} {sc : List qS} {k : Nat} {z : qS} (h : q_L M a o (flt f sc)) (hk : k < sc.length) : q_L M a (o + offS sc k) ((sc.getD k z).2.1.map f) ∧ q_L M a (o + offS sc k + (sc.getD k z).2.1.length) ((sc.getD k z).2.2.map f) ∧ offS sc k + (sc.getD k z).2.1.length + (sc.getD k z).2.2.length ≤ (flt f sc).length := by
  have e := flt_at (f := f) (z := z) hk
  rw [e] at h
  have h2 := q_L_2 h
  rw [flt_len] at h2
  have h3 := q_L_1 h2
  refine ⟨q_L_1 h3, ?_, ?_⟩
  · have := q_L_2 h3
    rw [List.length_map] at this
    exact this
  · rw [e]
    simp only [List.length_append, List.length_map]
    rw [flt_len]
    unfold offS
    omega
/-- the tables of the statements -/
def stT (M : qM) (a1 a2 a3 a4 o : Int) (sc : List qS) : Prop := ∀ k : Nat, k < sc.length → (q_nm M a1 (o + k) = (sc.getD k (0, [], [])).1 ∧ q_nm M a2 (o + k) = offS sc k ∧ q_nm M a3 (o + k) = (offS sc k : Int) + (sc.getD k (0, [], [])).2.1.length ∧ q_nm M a4 (o + k) = (offS sc k : Int) + (sc.getD k (0, [], [])).2.1.length + (sc.getD k (0, [], [])).2.2.length)
theorem stT_fr {M M' : qM} {a1 a2 a3 a4 o : Int} {sc : List qS} (h : stT M a1 a2 a3 a4 o sc) (k : ∀ a j : Int, (a = a1 ∨ a = a2 ∨ a = a3 ∨ a = a4) → o ≤ j → j < o + sc.length → q_nm M' a j = q_nm M a j) : stT M' a1 a2 a3 a4 o sc := fun i hi => by
  obtain ⟨h1, h2, h3, h4⟩ := h i hi
  exact ⟨(k _ _ (Or.inl rfl) (by omega) (by omega)).trans h1, (k _ _ (Or.inr (Or.inl rfl)) (by omega) (by omega)).trans h2, (k _ _ (Or.inr (Or.inr (Or.inl rfl))) (by omega) (by omega)).trans h3, (k _ _ (Or.inr (Or.inr (Or.inr rfl))) (by omega) (by omega)).trans h4⟩
theorem stT_snoc {M M' : qM} {a1 a2 a3 a4 o : Int} {sc : List qS} {s : qS} (h : stT M a1 a2 a3 a4 o sc) (k : ∀ a j : Int, (a = a1 ∨ a = a2 ∨ a = a3 ∨ a = a4) → o ≤ j → j < o + sc.length → q_nm M' a j = q_nm M a j) (e1 : q_nm M' a1 (o + sc.length) = s.1) (e2 : q_nm M' a2 (o + sc.length) = (flt id sc).length) (e3 : q_nm M' a3 (o + sc.length) = ((flt id sc).length : Int) + s.2.1.length) (e4 : q_nm M' a4 (o + sc.length) = ((flt id sc).length : Int) + s.2.1.length + s.2.2.length) : stT M' a1 a2 a3 a4 o (sc ++ [s]) := by
  intro i hi
  rw [List.length_append, List.length_cons, List.length_nil] at hi
  by_cases q : i < sc.length
  · rw [getS_1 q, offS_app (by omega)]
    exact stT_fr h k i q
  · have e : i = sc.length := by omega
    rw [e, getS_2, offS_app (Nat.le_refl _), offS_all]
    exact ⟨e1, e2, e3, e4⟩
end
section
/-! THE REFERENCE READS A STATEMENT -/
theorem r_182 {d : Nat} {P : Int → qM → Prop} {tp : List Int} {i a : Nat} {M : qM} (hl : q_lay M) (hL : LT M) (h : R_ps tp i a M) (K1 : (0 ≤ yT tp i ∧ yT tp i ≤ 8) → ∀ M', fr Zt M M' → q_lay M' → R_ps tp (i + 1) (ySq tp (i + 1)).1 M' → P (yT tp i) M') (K0 : ¬ (0 ≤ yT tp i ∧ yT tp i ≤ 8) → ∀ M', fr Zt M M' → q_lay M' → R_ps tp i (yP tp i) M' → P (-1) M') : q_WP q_Pr (d + 4) 182 [.inr (.inr 66)] M P := by
  have fin : ∀ (v : Int) M', yT tp i = v → (0 ≤ v ∧ v ≤ 8) → fr Zt M M' → q_lay M' → R_ps tp (i + 1) (ySq tp (i + 1)).1 M' → q_At q_m182 (q_WP q_Pr (d + 3)) P 76 [(0, .inr (.inr 66))] [.inl v] M' 0 0 := fun v M' hv hr f l p => by
    refine t_182_76 l ⟨fun z => absurd z (by omega), fun _ => ?_⟩
    rw [← hv] at hr ⊢; exact K1 hr M' f l p
  have fin2 : ∀ (v : Int) M', yT tp i = v → (0 ≤ v ∧ v ≤ 8) → fr Zt M M' → R_ps tp (i + 1) (ySq tp (i + 1)).1 M' → q_lay M' → P v M' := fun v M' hv hr f p l => by
    rw [← hv] at hr ⊢; exact K1 hr M' f l p
  refine q_enter (t_182_0 hl (r_154 (d := d) (n := 0) hl rfl (by decide) hL h (fun q M1 f1 l1 p1 => ⟨l1, fun z => absurd z (by decide), fun _ => fin 0 M1 q (by decide) f1 l1 p1⟩) (fun q0 M1 f1 l1 p1 => ⟨l1, fun _ => ?_, fun z => absurd rfl z⟩)))
  refine r_154 (d := d) (n := 1) l1 rfl (by decide) (LT_Zt hL f1) p1 (fun q M2 f2 l2 p2 => ⟨l2, fun z => absurd z (by decide), fun _ => fin 1 M2 q (by decide) (fr_trans f1 f2) l2 p2⟩) (fun q1 M2 f2' l2 p2 => ⟨l2, fun _ => ?_, fun z => absurd rfl z⟩)
  have f2 := fr_trans f1 f2'
  refine r_154 (d := d) (n := 2) l2 rfl (by decide) (LT_Zt hL f2) p2 (fun q M3 f3 l3 p3 => ⟨l3, fun z => absurd z (by decide), fun _ => fin 2 M3 q (by decide) (fr_trans f2 f3) l3 p3⟩) (fun q2 M3 f3' l3 p3 => ⟨l3, fun _ => ?_, fun z => absurd rfl z⟩)
  have f3 := fr_trans f2 f3'
  refine r_154 (d := d) (n := 3) l3 rfl (by decide) (LT_Zt hL f3) p3 (fun q M4 f4 l4 p4 => ⟨l4, fun z => absurd z (by decide), fun _ => fin 3 M4 q (by decide) (fr_trans f3 f4) l4 p4⟩) (fun q3 M4 f4' l4 p4 => ⟨l4, fun _ => ?_, fun z => absurd rfl z⟩)
  have f4 := fr_trans f3 f4'
  refine r_154 (d := d) (n := 4) l4 rfl (by decide) (LT_Zt hL f4) p4 (fun q M5 f5 l5 p5 => ⟨l5, fun z => absurd z (by decide), fun _ => fin 4 M5 q (by decide) (fr_trans f4 f5) l5 p5⟩) (fun q4 M5 f5' l5 p5 => ⟨l5, fun _ => ?_, fun z => absurd rfl z⟩)
  have f5 := fr_trans f4 f5'
  refine t_182_76 l5 ⟨fun _ => ?_, fun z => absurd rfl z⟩
  refine r_154 (d := d) (n := 5) l5 rfl (by decide) (LT_Zt hL f5) p5 (fun q M6 f6 l6 p6 => ⟨l6, fun z => absurd z (by decide), fun _ => fin2 5 M6 q (by decide) (fr_trans f5 f6) p6 l6⟩) (fun q5 M6 f6' l6 p6 => ⟨l6, fun _ => ?_, fun z => absurd rfl z⟩)
  have f6 := fr_trans f5 f6'
  refine r_154 (d := d) (n := 6) l6 rfl (by decide) (LT_Zt hL f6) p6 (fun q M7 f7 l7 p7 => ⟨l7, fun z => absurd z (by decide), fun _ => fin2 6 M7 q (by decide) (fr_trans f6 f7) p7 l7⟩) (fun q6 M7 f7' l7 p7 => ⟨l7, fun _ => ?_, fun z => absurd rfl z⟩)
  have f7 := fr_trans f6 f7'
  refine r_154 (d := d) (n := 7) l7 rfl (by decide) (LT_Zt hL f7) p7 (fun q M8 f8 l8 p8 => ⟨l8, fun z => absurd z (by decide), fun _ => fin2 7 M8 q (by decide) (fr_trans f7 f8) p8 l8⟩) (fun q7 M8 f8' l8 p8 => ⟨l8, fun _ => ?_, fun z => absurd rfl z⟩)
  have f8 := fr_trans f7 f8'
  refine r_154 (d := d) (n := 8) l8 rfl (by decide) (LT_Zt hL f8) p8 (fun q M9 f9 l9 p9 => ⟨l9, fun z => absurd z (by decide), fun _ => fin2 8 M9 q (by decide) (fr_trans f8 f9) p9 l9⟩) (fun q8 M9 f9' l9 p9 => ⟨l9, fun _ => K0 (by omega) M9 (fr_trans f8 f9') l9 p9, fun z => absurd rfl z⟩)
def Zs : Int → Int → Prop := fun a j => Zx a j ∨ (a = 101 ∧ j = 5) ∨ (102 ≤ a ∧ a ≤ 105 ∧ 100 ≤ j)
theorem Zx_Zs {M M' : qM} (f : fr Zx M M') : fr Zs M M' := fr_mono f (fun a j q => Or.inl q)
/-- between the statements of a text -/
def R_q (tp : List Int) (M0 : qM) (i : Nat) (sc : List qS) (M : qM) : Prop := (fr Zs M0 M ∧ q_lay M ∧ LT M) ∧ (∃ a, R_ps tp i a M) ∧ (q_nm M 66 50 = (flt trc sc).length ∧ q_L M 106 10500 (flt trc sc)) ∧ q_nm M 101 5 = sc.length ∧ stT M 102 103 104 105 100 sc ∧ sc.length ≤ 20 ∧ (flt trc sc).length ≤ (ySq tp i).1
def R_Z (M0 : qM) (k : Int) (p : Nat) (M : qM) : Prop := (fr Zs M0 M ∧ q_lay M) ∧ (q_nm M 66 5 = k ∧ q_nm M 66 6 = p) ∧ k ≠ 0
theorem R_Z_fr {M0 : qM} {k : Int} {p : Nat} {M M' : qM} {a j v : Int} (h : R_Z M0 k p M) (e : M' = q_wn M a j v) (l : q_lay M') (z : Zs a j) (n : ¬ (a = 66 ∧ (j = 5 ∨ j = 6))) : R_Z M0 k p M' := ⟨⟨fr_trans h.1.1 (fr_wn e z), l⟩, ⟨(wn_ne e (by omega)).trans h.2.1.1, (wn_ne e (by omega)).trans h.2.1.2⟩, h.2.2⟩
theorem R_Z_b {M0 : qM} {k : Int} {p : Nat} {M : qM} (h : R_Z M0 k p M) : ¬ q_nm M 66 5 = 0 := by rw [h.2.1.1]; exact h.2.2
theorem Zs_w {r : Int} {a : Int} (h : 102 ≤ a ∧ a ≤ 105) (hr : 100 ≤ r) : Zs a r := Or.inr (Or.inr ⟨h.1, h.2, hr⟩)
/-- the end of a statement that has failed -/
theorem r_183b {d : Nat} {P : Int → qM → Prop} {M0 : qM} {k : Int} {p : Nat} {r : Int} (hr : 100 ≤ r ∧ r < 120) (K : ∀ M', R_Z M0 k p M' → P 0 M') {M : qM} (h : R_Z M0 k p M) : (0 ≤ r ∧ r < 120) ∧ (∀ M11 : qM, M11 = q_wn M 105 r (q_nm M 66 50) → q_lay M11 → q_WP q_Pr (d + 1) 157 [.inr (.inr 66), .inl (59 : Int)] M11 (fun v12 M13 => q_lay M13 ∧ (∀ M14 : qM, M14 = q_wn M13 101 (5 : Int) (w32 ((q_nm M13 101 (5 : Int)) + (1 : Int))) → q_lay M14 → (P (0 : Int) M14)))) := by
  refine ⟨⟨by omega, by omega⟩, fun M1 e1 l1 => ?_⟩
  have h1 := R_Z_fr h e1 l1 (Zs_w (by omega) (by omega)) (by omega)
  exact r_157b (d := d) l1 (R_Z_b h1) ⟨l1, fun M2 e2 l2 => K M2 (R_Z_fr h1 e2 l2 (Or.inr (Or.inl ⟨rfl, rfl⟩)) (by omega))⟩
theorem r_183 {d : Nat} {P : Int → qM → Prop} {tp : List Int} {M0 : qM} {i : Nat} {sc : List qS} {M : qM} (g : G_T tp) (ha : q_nm M 66 2 = yP tp i) (h : R_q tp M0 i sc M)
    (K1 : ∀ j s, sc.length < 20 → gStmt (yT tp) (yD5 tp) i = .inl (j, s) → ∀ M', R_q tp M0 j (sc ++ [s]) M' → P 0 M')
    (KF : ∀ k q, sc.length < 20 → gStmt (yT tp) (yD5 tp) i = .inr (k, q) → ∀ M', R_Z M0 k (yP tp q) M' → P 0 M')
    (K5 : ¬ sc.length < 20 → ∀ M', R_Z M0 5 (yP tp i) M' → P 0 M') : q_WP q_Pr (d + 9) 183 [.inr (.inr 66)] M P := by
  obtain ⟨⟨f0, l0, t0⟩, ⟨a, p0⟩, ⟨c1, c2⟩, hr, hst, h20, hbd⟩ := h
  have tl := R_ps_len p0
  have sl := ySq_le tp i
  refine q_enter (t_183_0 l0 ?_)
  rw [hr, w32_id (x := 100 + (sc.length : Int)) (by omega) (by omega)]
  refine ⟨fun n20 => ?_, fun e20 => ?_⟩
  · have lt20 : sc.length < 20 := by omega
    refine r_182 (d := d + 4) l0 t0 p0 (fun hk M2 f2 l2 p2 => ⟨l2, fun _ => ⟨⟨by omega, by omega⟩, fun M3 e3 l3 M4 e4 l4 M5 e5 l5 M6 e6 l6 => ⟨⟨by omega, by omega⟩, fun M7 e7 l7 => ?_⟩⟩, fun z => absurd z (by omega)⟩) (fun nk M2 f2 l2 p2 => ⟨l2, fun z => absurd rfl z, fun _ => ?_⟩)
    · -- the kind is there
      have b2 : (flt trc sc).length + 4 ≤ (ySq tp (i + 1)).1 := by
        obtain ⟨n, hn⟩ : ∃ n : Nat, yT tp i = n := ⟨(yT tp i).toNat, by omega⟩
        have wd := (yT_wd (tp := tp) (i := i) (n := n) (by omega)).mp hn
        have sq := ySq_wd wd.1
        have ln : yLr tp (yP tp i) = (owl.getD n []).length := by rw [← ySl_len, wd.2.2]
        have ol := (ow_len (n := n) (by omega)).2.2 (by omega)
        have pl := (yP_le tp i).1
        rw [sq]
        show _ ≤ yP tp i + yLr tp (yP tp i)
        omega
      have k27 : ∀ a j : Int, ¬ (a = 102 ∧ j = 100 + (sc.length : Int)) → ¬ (a = 103 ∧ j = 100 + (sc.length : Int)) → ¬ (a = 66 ∧ (j = 52 ∨ j = 53 ∨ j = 54)) → q_nm M7 a j = q_nm M2 a j := fun a j x y z => by rw [wn_ne e7 (by omega), wn_ne e6 (by omega), wn_ne e5 (by omega), wn_ne e4 (by omega), wn_ne e3 (by omega)]
      have k02 : ∀ a j : Int, a ≠ 66 → q_nm M2 a j = q_nm M a j := fun a j x => f2.2 a j (fun q => x q.1)
      have f27 : fr Zs M2 M7 := fr_trans (fr_wn e3 (Zs_w (by omega) (by omega))) (fr_trans (fr_wn e4 (Or.inl (by unfold Zx; omega))) (fr_trans (fr_wn e5 (Or.inl (by unfold Zx; omega))) (fr_trans (fr_wn e6 (Or.inl (by unfold Zx; omega))) (fr_wn e7 (Zs_w (by omega) (by omega))))))
      have f07 : fr Zs M0 M7 := fr_trans f0 (fr_trans (Zx_Zs (Zt_Zx f2)) f27)
      have t7 : LT M7 := LT_eq (LT_Zt t0 f2) (fun a j x y => k27 a j (by omega) (by omega) (by omega))
      have c50 : q_nm M2 66 50 = (flt trc sc).length := (f2.2 _ _ (fun q => by have := q.2; omega)).trans c1
      have p7 : R_ps tp (i + 1) (ySq tp (i + 1)).1 M7 := R_ps_fr p2 (fun j => k27 67 j (by omega) (by omega) (by omega)) (fun j _ _ => k27 66 j (by omega) (by omega) (by omega))
      have cs7 : R_cs [] (flt trc sc) 0 M7 := by
        refine ⟨?_, q_L_nil, (k27 66 50 (by omega) (by omega) (by omega)).trans c50, q_L_fr c2 (fun j _ _ => (k27 106 j (by omega) (by omega) (by omega)).trans (k02 106 j (by omega))), ?_⟩
        · rw [wn_ne e7 (by omega), wn_ne e6 (by omega), wn_ne e5 (by omega), wn_eq e4]; rfl
        · rw [wn_ne e7 (by omega), wn_ne e6 (by omega), wn_eq e5]; rfl
      have n7 : R_nb tp M7 (i + 1) [] (flt trc sc) 0 M7 := ⟨⟨fr_rfl, l7, t7⟩, ⟨_, p7⟩, cs7, by rw [List.length_nil]; omega, rfl⟩
      have v102 : q_nm M7 102 (100 + (sc.length : Int)) = yT tp i := by rw [wn_ne e7 (by omega), wn_ne e6 (by omega), wn_ne e5 (by omega), wn_ne e4 (by omega), wn_eq e3]
      have v103 : q_nm M7 103 (100 + (sc.length : Int)) = (flt trc sc).length := by rw [wn_eq e7, wn_ne e6 (by omega), wn_ne e5 (by omega), wn_ne e4 (by omega), wn_ne e3 (by omega)]; exact c50
      have hs7 : stT M7 102 103 104 105 100 sc := stT_fr hst (fun a j x y z => (k27 a j (by omega) (by omega) (by omega)).trans (k02 a j (by omega)))
      have hr7 : q_nm M7 101 5 = sc.length := (k27 101 5 (by omega) (by omega) (by omega)).trans ((k02 101 5 (by omega)).trans hr)
      refine ⟨fun z => absurd (R_ps_ok p7) z, fun _ => ?_⟩
      have Zk : ∀ {M' : qM}, fr Zx M7 M' → ∀ a j : Int, (101 ≤ a ∧ a ≤ 105) → q_nm M' a j = q_nm M7 a j := fun f a j x => f.2 a j (by unfold Zx; omega)
      refine r_176 (d := d + 2) (m := 6) g (fun x hx => absurd hx List.not_mem_nil) rfl n7 (fun j c e M8 h8 => ⟨h8.1.2.1, ⟨by omega, by omega⟩, fun M9 e9 l9 => ?_⟩) (fun k q e M8 r8 => ⟨r8.1.2, ⟨by omega, by omega⟩, fun M9 e9 l9 => ?_⟩)
      · -- a sum is read
        have cs8 := h8.2.2.1
        obtain ⟨a8, p8⟩ := h8.2.1
        have v50 : q_nm M8 66 50 = ((flt trc sc).length : Int) + c.length := by
          rw [cs8.2.2.1, List.length_append, List.length_map]; omega
        rw [v50] at e9
        have f9 : fr Zs M7 M9 := fr_trans (Zx_Zs h8.1.1) (fr_wn e9 (Zs_w (by omega) (by omega)))
        have k9 : ∀ a j : Int, ¬ (a = 104 ∧ j = 100 + (sc.length : Int)) → q_nm M9 a j = q_nm M8 a j := fun a j x => wn_ne e9 x
        have p9 : R_ps tp j a8 M9 := R_ps_fr p8 (fun j => k9 67 j (by omega)) (fun j _ _ => k9 66 j (by omega))
        have t9 : LT M9 := LT_eq h8.1.2.2 (fun a j x y => k9 a j (by omega))
        have cs9 := R_cs_fr cs8 (fun j _ => k9 66 j (by omega)) (fun j => k9 107 j (by omega)) (fun j _ => k9 106 j (by omega))
        refine r_155 (d := d + 4) (n := 9) l9 rfl (by decide) t9 p9 (fun q9 M10 f10 l10 p10 => ⟨l10, fun z => absurd (R_ps_ok p10) z, fun _ => ?_⟩) (fun n9 M10 f10 l10 b10 => ⟨l10, fun _ => ?_, fun z => absurd z (by rw [b10.1]; decide)⟩)
        · have e9t : yT tp j = 9 := q9
          have lt := ySq_sl g (i := j) (by rw [e9t]; decide)
          have bd8 := h8.2.2.2.1
          have n10 : R_nb tp M10 (j + 1) [] (flt trc sc ++ c.map trc) 0 M10 := ⟨⟨fr_rfl, l10, LT_Zt t9 f10⟩, ⟨_, p10⟩, R_cs_t cs9 f10, by omega, rfl⟩
          refine r_180 (d := d) g n10 (fun j2 c2' e2 M11 h11 => ⟨h11.1.2.1, ⟨by omega, by omega⟩, fun M12 e12 l12 => ?_⟩) (fun k q e2 M11 r11 => ⟨r11.1.2, ⟨by omega, by omega⟩, fun M12 e12 l12 => ?_⟩)
          · have cs11 := h11.2.2.1
            obtain ⟨a11, p11⟩ := h11.2.1
            have w50 : q_nm M11 66 50 = ((flt trc sc).length : Int) + c.length + c2'.length := by
              rw [cs11.2.2.1]; simp only [List.length_append, List.length_map]; omega
            rw [w50] at e12
            have k12 : ∀ a j : Int, ¬ (a = 105 ∧ j = 100 + (sc.length : Int)) → q_nm M12 a j = q_nm M11 a j := fun a j x => wn_ne e12 x
            have p12 : R_ps tp j2 a11 M12 := R_ps_fr p11 (fun j => k12 67 j (by omega)) (fun j _ _ => k12 66 j (by omega))
            have k711 : ∀ a j : Int, (101 ≤ a ∧ a ≤ 105) → ¬ (a = 104 ∧ j = 100 + (sc.length : Int)) → q_nm M11 a j = q_nm M7 a j := fun a j x y => by
              rw [h11.1.1.2 a j (by unfold Zx; omega), f10.2 a j (fun q => by have := q.1; omega), k9 a j y, Zk h8.1.1 a j x]
            have v104 : q_nm M11 104 (100 + (sc.length : Int)) = ((flt trc sc).length : Int) + c.length := by
              rw [h11.1.1.2 104 _ (by unfold Zx; omega), f10.2 104 _ (fun q => by have := q.1; omega), wn_eq e9]
            refine r_157P (d := d + 5) l12 (by unfold ySg; omega) p12 (fun q59 M13 f13 l13 p13 => ⟨l13, fun M14 e14 l14 => K1 (j2 + 1) (yT tp i, c, c2') lt20 ?_ M14 ?_⟩) (fun n59 M13 f13 l13 b13 => ⟨l13, fun M14 e14 l14 => KF 1 j2 lt20 ?_ M14 ?_⟩)
            · unfold gStmt
              rw [if_pos hk, e]
              dsimp only
              rw [if_pos e9t, e2]
              dsimp only
              rw [if_pos q59]
            · have k13 : ∀ a j : Int, a ≠ 66 → q_nm M13 a j = q_nm M12 a j := fun a j x => f13.2 a j (fun q => x q.1)
              have k14 : ∀ a j : Int, ¬ (a = 101 ∧ j = 5) → q_nm M14 a j = q_nm M13 a j := fun a j x => wn_ne e14 x
              have kk : ∀ a j : Int, (102 ≤ a ∧ a ≤ 105) → ¬ (a = 105 ∧ j = 100 + (sc.length : Int)) → q_nm M14 a j = q_nm M11 a j := fun a j x y => by rw [k14 a j (by omega), k13 a j (by omega), k12 a j y]
              have v101 : q_nm M13 101 5 = sc.length := by rw [k13 101 5 (by omega), k12 101 5 (by omega), k711 101 5 (by omega) (by omega)]; exact hr7
              rw [v101, w32_id (x := (sc.length : Int) + 1) (by omega) (by omega)] at e14
              have cs14 : R_cs [] (flt trc sc ++ c.map trc ++ c2'.map trc) 0 M14 := R_cs_fr cs11 (fun j hj => by rw [k14 66 j (by omega), f13.2 66 j (fun q => by have := q.2; omega), k12 66 j (by omega)]) (fun j => by rw [k14 107 j (by omega), k13 107 j (by omega), k12 107 j (by omega)]) (fun j _ => by rw [k14 106 j (by omega), k13 106 j (by omega), k12 106 j (by omega)])
              have ef : flt trc (sc ++ [(yT tp i, c, c2')]) = flt trc sc ++ c.map trc ++ c2'.map trc := by rw [flt_app, flt_one, ← List.append_assoc]
              have lt2 := ySq_sl g (i := j2) (by rw [q59]; decide)
              have bd11 := h11.2.2.2.1
              refine ⟨⟨?_, l14, ?_⟩, ⟨_, R_ps_fr p13 (fun j => k14 67 j (by omega)) (fun j _ _ => k14 66 j (by omega))⟩, ⟨by rw [ef]; exact cs14.2.2.1, by rw [ef]; exact cs14.2.2.2.1⟩, ?_, ?_, ?_, ?_⟩
              · exact fr_trans f07 (fr_trans f9 (fr_trans (Zx_Zs (Zt_Zx f10)) (fr_trans (Zx_Zs h11.1.1) (fr_trans (fr_wn e12 (Zs_w (by omega) (by omega))) (fr_trans (Zx_Zs (Zt_Zx f13)) (fr_wn e14 (Or.inr (Or.inl ⟨rfl, rfl⟩))))))))
              · exact LT_eq h11.1.2.2 (fun a j x y => by rw [k14 a j (by omega), k13 a j (by omega), k12 a j (by omega)])
              · rw [wn_eq e14, List.length_append]; rfl
              · have el := flt_len (f := trc) sc
                refine stT_snoc hs7 (fun a j x y z => ?_) ?_ ?_ ?_ ?_
                · rw [kk a j (by omega) (by omega), k711 a j (by omega) (by omega)]
                · rw [kk 102 _ (by omega) (by omega), k711 102 _ (by omega) (by omega)]; exact v102
                · rw [kk 103 _ (by omega) (by omega), k711 103 _ (by omega) (by omega), v103, el]
                · rw [kk 104 _ (by omega) (by omega), v104, el]
                · rw [k14 105 _ (by omega), k13 105 _ (by omega), wn_eq e12, el]
              · rw [List.length_append, List.length_cons, List.length_nil]; omega
              · rw [ef]; simp only [List.length_append, List.length_map, List.length_nil] at bd11 ⊢; omega
            · unfold gStmt
              rw [if_pos hk, e]
              dsimp only
              rw [if_pos e9t, e2]
              dsimp only
              rw [if_neg n59]
            · have z13 : R_Z M0 1 (yP tp j2) M13 := ⟨⟨fr_trans f07 (fr_trans f9 (fr_trans (Zx_Zs (Zt_Zx f10)) (fr_trans (Zx_Zs h11.1.1) (fr_trans (fr_wn e12 (Zs_w (by omega) (by omega))) (Zx_Zs (Zt_Zx f13)))))), l13⟩, b13, by decide⟩
              exact R_Z_fr z13 e14 l14 (Or.inr (Or.inl ⟨rfl, rfl⟩)) (by omega)
          · have z11 : R_Z M0 k (yP tp q) M11 := ⟨⟨fr_trans f07 (fr_trans f9 (fr_trans (Zx_Zs (Zt_Zx f10)) (Zx_Zs r11.1.1))), r11.1.2⟩, r11.2.1, r11.2.2⟩
            refine (r_183b (d := d + 7) (r := 100 + (sc.length : Int)) (by omega) (fun M' z => KF k q lt20 ?_ M' z) z11).2 M12 e12 l12
            unfold gStmt
            rw [if_pos hk, e]
            dsimp only
            rw [if_pos e9t, e2]
        · have z10 : R_Z M0 1 (yP tp j) M10 := ⟨⟨fr_trans f07 (fr_trans f9 (Zx_Zs (Zt_Zx f10))), l10⟩, b10, by decide⟩
          refine r_183b (d := d + 7) (r := 100 + (sc.length : Int)) (by omega) (fun M' z => KF 1 j lt20 ?_ M' z) z10
          unfold gStmt
          rw [if_pos hk, e]
          dsimp only
          rw [if_neg (show yT tp j ≠ 9 from n9)]
      · -- the sum has failed
        have z8 : R_Z M0 k (yP tp q) M8 := ⟨⟨fr_trans f07 (Zx_Zs r8.1.1), r8.1.2⟩, r8.2.1, r8.2.2.1⟩
        have z9 := R_Z_fr z8 e9 l9 (Zs_w (by omega) (by omega)) (by omega)
        refine r_155b (d := d + 7) l9 (R_Z_b z9) ⟨l9, fun _ => r_183b (d := d + 7) (r := 100 + (sc.length : Int)) (by omega) (fun M' z => KF k q lt20 ?_ M' z) z9, fun z => absurd z (R_Z_b z9)⟩
        unfold gStmt
        rw [if_pos hk, e]
    · -- no kind
      rw [ha]
      refine r_149 (d := d + 7) l2 (R_ps_ok p2) (fun M3 f3 l3 b3 => ⟨l3, ⟨by omega, by omega⟩, fun M4 e4 l4 M5 e5 l5 M6 e6 l6 M7 e7 l7 => ⟨⟨by omega, by omega⟩, fun M8 e8 l8 => ?_⟩⟩)
      have z3 : R_Z M0 1 (yP tp i) M3 := ⟨⟨fr_trans f0 (Zx_Zs (Zt_Zx (fr_trans f2 f3))), l3⟩, b3, by decide⟩
      have z8 := R_Z_fr (R_Z_fr (R_Z_fr (R_Z_fr (R_Z_fr z3 e4 l4 (Zs_w (by omega) (by omega)) (by omega)) e5 l5 (Or.inl (by unfold Zx; omega)) (by omega)) e6 l6 (Or.inl (by unfold Zx; omega)) (by omega)) e7 l7 (Or.inl (by unfold Zx; omega)) (by omega)) e8 l8 (Zs_w (by omega) (by omega)) (by omega)
      refine ⟨fun _ => ⟨⟨by omega, by omega⟩, fun M9 e9 l9 => ?_⟩, fun z => absurd z (R_Z_b z8)⟩
      have z9 := R_Z_fr z8 e9 l9 (Zs_w (by omega) (by omega)) (by omega)
      refine r_155b (d := d + 7) l9 (R_Z_b z9) ⟨l9, fun _ => r_183b (d := d + 7) (r := 100 + (sc.length : Int)) (by omega) (fun M' z => KF 1 i lt20 ?_ M' z) z9, fun z => absurd z (R_Z_b z9)⟩
      unfold gStmt
      rw [if_neg nk]
  · rw [ha]
    exact r_149 (d := d + 7) l0 (R_ps_ok p0) (fun M3 f3 l3 b3 => ⟨l3, K5 (by omega) M3 ⟨⟨fr_trans f0 (Zx_Zs (Zt_Zx f3)), l3⟩, b3, by decide⟩⟩)
end
