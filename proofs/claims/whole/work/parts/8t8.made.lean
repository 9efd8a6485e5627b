section
/-! A READER IS MADE -/
/-- from m on cells have come: their kinds F, references R, numbers N -/
def gw (m u : Int) (F R N : List (Int × Int × Int)) (M0 M : qM) : Prop := (q_top M = u ∧ m ≤ u) ∧ (∀ a, a < m → (q_kd M a = q_kd M0 a ∧ q_ln M a = q_ln M0 a ∧ (∀ j, q_nm M a j = q_nm M0 a j) ∧ ∀ j, q_rf M a j = q_rf M0 a j)) ∧ (∀ e ∈ F, (m ≤ e.1 ∧ e.1 < u) ∧ q_kd M e.1 = e.2.1 ∧ q_ln M e.1 = e.2.2) ∧ (∀ e ∈ R, (m ≤ e.1 ∧ e.1 < u) ∧ q_rf M e.1 e.2.1 = e.2.2) ∧ ∀ e ∈ N, (m ≤ e.1 ∧ e.1 < u) ∧ q_nm M e.1 e.2.1 = e.2.2
theorem gw0 {M : qM} : gw (q_top M) (q_top M) [] [] [] M M := ⟨⟨rfl, Int.le_refl _⟩, fun _ _ => ⟨rfl, rfl, fun _ => rfl, fun _ => rfl⟩, fun e he => absurd he List.not_mem_nil, fun e he => absurd he List.not_mem_nil, fun e he => absurd he List.not_mem_nil⟩
theorem gw_al {m u u' k n : Int} {F R N : List (Int × Int × Int)} {M0 M M' : qM} (J : List Int) (h : gw m u F R N M0 M) (e : M' = q_al M k n) (hu : u' = u + 1) : gw m u' ((u, k, n) :: F) R (J.map (fun j => (u, j, 0)) ++ N) M0 M' := by
  obtain ⟨⟨t, t2⟩, h1, h2, h3, h4⟩ := h
  have tt : M.1 = u := t
  have kk : ∀ b, b ≠ u → q_kd M' b = q_kd M b ∧ q_ln M' b = q_ln M b ∧ (∀ j, q_nm M' b j = q_nm M b j) ∧ ∀ j, q_rf M' b j = q_rf M b j := fun b hb => by
    rw [e]
    refine ⟨?_, ?_, fun j => ?_, fun j => ?_⟩
    · show (if b = M.1 then (k, n) else M.2.1 b).1 = _; rw [if_neg (by omega)]; rfl
    · show (if b = M.1 then (k, n) else M.2.1 b).2 = _; rw [if_neg (by omega)]; rfl
    · show (if b = M.1 then 0 else M.2.2.2 b j) = _; rw [if_neg (by omega)]; rfl
    · show (if b = M.1 then -1 else M.2.2.1 b j) = _; rw [if_neg (by omega)]; rfl
  have kn : q_kd M' u = k ∧ q_ln M' u = n ∧ ∀ j, q_nm M' u j = 0 := by
    rw [e]
    refine ⟨?_, ?_, fun j => ?_⟩
    · show (if u = M.1 then (k, n) else M.2.1 u).1 = _; rw [if_pos tt.symm]
    · show (if u = M.1 then (k, n) else M.2.1 u).2 = _; rw [if_pos tt.symm]
    · show (if u = M.1 then 0 else M.2.2.2 u j) = _; rw [if_pos tt.symm]
  refine ⟨⟨by rw [e]; show M.1 + 1 = u'; omega, by omega⟩, fun a ha => ?_, fun x hx => ?_, fun x hx => ?_, fun x hx => ?_⟩
  · have q := kk a (by omega)
    have p := h1 a ha
    exact ⟨q.1.trans p.1, q.2.1.trans p.2.1, fun j => (q.2.2.1 j).trans (p.2.2.1 j), fun j => (q.2.2.2 j).trans (p.2.2.2 j)⟩
  · rcases List.mem_cons.mp hx with q | q
    · rw [q]; exact ⟨⟨t2, by show u < u'; omega⟩, kn.1, kn.2.1⟩
    · have p := h2 x q
      have r := kk x.1 (by omega)
      exact ⟨by omega, r.1.trans p.2.1, r.2.1.trans p.2.2⟩
  · have p := h3 x hx
    have r := kk x.1 (by omega)
    exact ⟨by omega, (r.2.2.2 _).trans p.2⟩
  · rcases List.mem_append.mp hx with q | q
    · obtain ⟨j, _, ej⟩ := List.mem_map.mp q
      rw [← ej]; exact ⟨⟨t2, by show u < u'; omega⟩, kn.2.2 j⟩
    · have p := h4 x q
      have r := kk x.1 (by omega)
      exact ⟨by omega, (r.2.2.1 _).trans p.2⟩
theorem gw_wr {m u a f v : Int} {F R N : List (Int × Int × Int)} {M0 M M' : qM} (h : gw m u F R N M0 M) (e : M' = q_wr M a f v) (ha : m ≤ a ∧ a < u) (hf : ∀ x ∈ R, ¬ (x.1 = a ∧ x.2.1 = f)) : gw m u F ((a, f, v) :: R) N M0 M' := by
  obtain ⟨⟨t, t2⟩, h1, h2, h3, h4⟩ := h
  have kr : ∀ b j, ¬ (b = a ∧ j = f) → q_rf M' b j = q_rf M b j := fun b j hb => by rw [e]; show (if b = a ∧ j = f then v else M.2.2.1 b j) = _; rw [if_neg hb]; rfl
  refine ⟨⟨by rw [e]; exact t, t2⟩, fun b hb => ?_, fun x hx => ?_, fun x hx => ?_, fun x hx => ?_⟩
  · have p := h1 b hb
    exact ⟨by rw [e]; exact p.1, by rw [e]; exact p.2.1, fun j => by rw [e]; exact p.2.2.1 j, fun j => (kr b j (by omega)).trans (p.2.2.2 j)⟩
  · rw [e]; exact h2 x hx
  · rcases List.mem_cons.mp hx with q | q
    · rw [q]
      refine ⟨ha, ?_⟩
      rw [e]; show (if a = a ∧ f = f then v else M.2.2.1 a f) = v
      rw [if_pos ⟨rfl, rfl⟩]
    · exact ⟨(h3 x q).1, (kr _ _ (hf x q)).trans (h3 x q).2⟩
  · rw [e]; exact h4 x hx
theorem gw_wn {m u a f v : Int} {F R N : List (Int × Int × Int)} {M0 M M' : qM} (h : gw m u F R N M0 M) (e : M' = q_wn M a f v) (ha : m ≤ a ∧ a < u) (hf : ∀ x ∈ N, ¬ (x.1 = a ∧ x.2.1 = f)) : gw m u F R ((a, f, v) :: N) M0 M' := by
  obtain ⟨⟨t, t2⟩, h1, h2, h3, h4⟩ := h
  refine ⟨⟨by rw [e]; exact t, t2⟩, fun b hb => ?_, fun x hx => ?_, fun x hx => ?_, fun x hx => ?_⟩
  · have p := h1 b hb
    exact ⟨by rw [e]; exact p.1, by rw [e]; exact p.2.1, fun j => (wn_ne e (by omega)).trans (p.2.2.1 j), fun j => by rw [e]; exact p.2.2.2 j⟩
  · rw [e]; exact h2 x hx
  · rw [e]; exact h3 x hx
  · rcases List.mem_cons.mp hx with q | q
    · rw [q]; exact ⟨ha, wn_eq e⟩
    · exact ⟨(h4 x q).1, (wn_ne e (fun z => hf x q z)).trans (h4 x q).2⟩
theorem gw_lay {m u : Int} {F R N : List (Int × Int × Int)} {M0 M : qM} (h : gw m u F R N M0 M) (hl : q_lay M0) (hm : 126 ≤ m) : q_lay M := by
  refine ⟨by rw [h.1.1]; have := h.1.2; omega, fun e he => ?_, fun e he => ?_⟩
  · have q := List.all_eq_true.mp sK_lt e he
    rw [decide_eq_true_eq] at q
    have p := h.2.1 e.1 (by omega)
    have r := hl.2.1 e he
    exact ⟨p.1.trans r.1, p.2.1.trans r.2⟩
  · have q := List.all_eq_true.mp sR_lt14 e he
    rw [Bool.and_eq_true, decide_eq_true_eq, decide_eq_true_eq] at q
    have p := h.2.1 e.1 (by omega)
    exact (p.2.2.2 _).trans (hl.2.2 e he)
theorem gw_k {m u a k n : Int} {F R N : List (Int × Int × Int)} {M0 M : qM} (h : gw m u F R N M0 M) (e : (a, k, n) ∈ F) : q_kd M a = k ∧ q_ln M a = n := (h.2.2.1 _ e).2
theorem gw_r {m u a k n : Int} {F R N : List (Int × Int × Int)} {M0 M : qM} (h : gw m u F R N M0 M) (e : (a, k, n) ∈ R) : q_rf M a k = n := (h.2.2.2.1 _ e).2
theorem gw_n {m u a k n : Int} {F R N : List (Int × Int × Int)} {M0 M : qM} (h : gw m u F R N M0 M) (e : (a, k, n) ∈ N) : q_nm M a k = n := (h.2.2.2.2 _ e).2
/-- a Script's cells -/
theorem c_53 {d : Nat} {P : Int → qM → Prop} {r : Int} {n : Nat} {F N : List (Int × Int × Int)} {M0 M : qM} (hr : 126 ≤ r) (hn : n ≤ 2100) (G : gw r (r + 2) F [] N M0 M) (hF : (r + 1, 5, 7) ∈ F) (K : ∀ M', gw r (r + 7) ((r + 6, 14, (n : Int)) :: (r + 5, 14, 20) :: (r + 4, 14, 20) :: (r + 3, 14, 20) :: (r + 2, 14, 20) :: F) [(r + 1, 0, r + 6), (r + 1, 5, r + 5), (r + 1, 4, r + 4), (r + 1, 3, r + 3), (r + 1, 2, r + 2)] N M0 M' → P 0 M') : q_WP q_Pr (d + 2) 53 [.inr (.inr (r + 1)), .inl (n : Int)] M P := by
  refine q_enter (s_53_0 ?_)
  rw [(gw_k G hF).1, G.1.1]
  refine ⟨⟨by omega, by decide⟩, ⟨by decide, by decide⟩, ?_⟩
  intro N1
  obtain ⟨M1, e1⟩ : ∃ x, x = N1 := ⟨_, rfl⟩
  rw [← e1]
  have G1 := gw_al (u' := r + 3) (k := 14) [] G e1 (by omega)
  rw [(gw_k G1 (List.mem_cons_of_mem _ hF)).1]
  refine ⟨⟨by decide, by decide⟩, ⟨rfl, by omega⟩, ?_⟩
  intro N2
  obtain ⟨M2, e2⟩ : ∃ x, x = N2 := ⟨_, rfl⟩
  rw [← e2]
  have G2 := gw_wr G1 e2 (by omega) (by simp)
  rw [G2.1.1]
  refine ⟨⟨by decide, by decide⟩, ?_⟩
  intro N3
  obtain ⟨M3, e3⟩ : ∃ x, x = N3 := ⟨_, rfl⟩
  rw [← e3]
  have G3 := gw_al (u' := r + 4) (k := 14) [] G2 e3 (by omega)
  rw [(gw_k G3 (List.mem_cons_of_mem _ (List.mem_cons_of_mem _ hF))).1]
  refine ⟨⟨by decide, by decide⟩, ⟨rfl, by omega⟩, ?_⟩
  intro N4
  obtain ⟨M4, e4⟩ : ∃ x, x = N4 := ⟨_, rfl⟩
  rw [← e4]
  have G4 := gw_wr G3 e4 (by omega) (by simp)
  rw [G4.1.1]
  refine ⟨⟨by decide, by decide⟩, ?_⟩
  intro N5
  obtain ⟨M5, e5⟩ : ∃ x, x = N5 := ⟨_, rfl⟩
  rw [← e5]
  have G5 := gw_al (u' := r + 5) (k := 14) [] G4 e5 (by omega)
  rw [(gw_k G5 (List.mem_cons_of_mem _ (List.mem_cons_of_mem _ (List.mem_cons_of_mem _ hF)))).1]
  refine ⟨⟨by decide, by decide⟩, ⟨rfl, by omega⟩, ?_⟩
  intro N6
  obtain ⟨M6, e6⟩ : ∃ x, x = N6 := ⟨_, rfl⟩
  rw [← e6]
  have G6 := gw_wr G5 e6 (by omega) (by simp)
  rw [G6.1.1]
  refine ⟨⟨by decide, by decide⟩, ?_⟩
  intro N7
  obtain ⟨M7, e7⟩ : ∃ x, x = N7 := ⟨_, rfl⟩
  rw [← e7]
  have G7 := gw_al (u' := r + 6) (k := 14) [] G6 e7 (by omega)
  rw [(gw_k G7 (List.mem_cons_of_mem _ (List.mem_cons_of_mem _ (List.mem_cons_of_mem _ (List.mem_cons_of_mem _ hF))))).1]
  refine ⟨⟨by decide, by decide⟩, ⟨rfl, by omega⟩, ?_⟩
  intro N8
  obtain ⟨M8, e8⟩ : ∃ x, x = N8 := ⟨_, rfl⟩
  rw [← e8]
  have G8 := gw_wr G7 e8 (by omega) (by simp)
  refine p_258 (d := d) ?_
  rw [show max (0 : Int) (n : Int) = n by omega, G8.1.1]
  refine ⟨⟨by omega, by omega⟩, ?_⟩
  intro N9
  obtain ⟨M9, e9⟩ : ∃ x, x = N9 := ⟨_, rfl⟩
  rw [← e9]
  have G9 := gw_al (u' := r + 7) (k := 14) [] G8 e9 (by omega)
  rw [(gw_k G9 (List.mem_cons_of_mem _ (List.mem_cons_of_mem _ (List.mem_cons_of_mem _ (List.mem_cons_of_mem _ (List.mem_cons_of_mem _ hF)))))).1]
  refine ⟨⟨by decide, by simp only [Int.toNat_natCast]; have : Int.toNat 20 = 20 := rfl; omega⟩, ⟨rfl, by omega⟩, ?_⟩
  intro N10
  obtain ⟨M10, e10⟩ : ∃ x, x = N10 := ⟨_, rfl⟩
  rw [← e10]
  exact K M10 (gw_wr G9 e10 (by omega) (by simp))
theorem c_70 {d : Nat} {P : Int → qM → Prop} {r : Int} {n : Nat} {F R N : List (Int × Int × Int)} {M0 M : qM} (hl : q_lay M0) (hr : 126 ≤ r) (hn : n ≤ 2100) (h11 : q_nm M0 1 1 = n) (G : gw r (r + 8) F R N M0 M) (hF : (r + 7, 8, 4) ∈ F) (hR : ∀ x ∈ R, x.1 ≠ r + 7) (K : ∀ M', gw r (r + 10) ((r + 9, 14, (n : Int) + 1) :: (r + 8, 14, (n : Int) + 1) :: F) ((r + 7, 2, r + 9) :: (r + 7, 1, r + 8) :: (r + 7, 0, 1) :: R) N M0 M' → P 0 M') : q_WP q_Pr (d + 1) 70 [.inr (.inr (r + 7)), .inr (.inr 1)] M P := by
  have c1 : ∀ {u : Int} {F R N : List (Int × Int × Int)} {M : qM}, gw r u F R N M0 M → q_kd M 1 = 7 ∧ q_nm M 1 1 = n := fun G => ⟨(G.2.1 1 (by omega)).1.trans (lk1 hl), ((G.2.1 1 (by omega)).2.2.1 1).trans h11⟩
  refine q_enter (s_70_0 ?_)
  rw [(gw_k G hF).1]
  refine ⟨⟨by omega, by decide⟩, ⟨rfl, by decide⟩, ?_⟩
  intro N1
  obtain ⟨M1, e1⟩ : ∃ x, x = N1 := ⟨_, rfl⟩
  rw [← e1]
  have G1 := gw_wr G e1 (by omega) (fun x hx q => hR x hx q.1)
  rw [(c1 G1).1, (c1 G1).2, w32_id (x := (n : Int) + 1) (by omega) (by omega), G1.1.1]
  refine ⟨rfl, ⟨by omega, by omega⟩, ?_⟩
  intro N2
  obtain ⟨M2, e2⟩ : ∃ x, x = N2 := ⟨_, rfl⟩
  rw [← e2]
  have G2 := gw_al (u' := r + 9) (k := 14) [] G1 e2 (by omega)
  rw [(gw_k G2 (List.mem_cons_of_mem _ hF)).1]
  refine ⟨⟨by decide, by omega⟩, ⟨rfl, by omega⟩, ?_⟩
  intro N3
  obtain ⟨M3, e3⟩ : ∃ x, x = N3 := ⟨_, rfl⟩
  rw [← e3]
  have G3 := gw_wr G2 e3 (by omega) (fun x hx q => by
    rcases List.mem_cons.mp hx with z | z
    · rw [z] at q; exact absurd q.2 (by simp)
    · exact hR x z q.1)
  rw [(c1 G3).1, (c1 G3).2, w32_id (x := (n : Int) + 1) (by omega) (by omega), G3.1.1]
  refine ⟨rfl, ⟨by omega, by omega⟩, ?_⟩
  intro N4
  obtain ⟨M4, e4⟩ : ∃ x, x = N4 := ⟨_, rfl⟩
  rw [← e4]
  have G4 := gw_al (u' := r + 10) (k := 14) [] G3 e4 (by omega)
  rw [(gw_k G4 (List.mem_cons_of_mem _ (List.mem_cons_of_mem _ hF))).1]
  refine ⟨⟨by decide, by omega⟩, ⟨rfl, by omega⟩, ?_⟩
  intro N5
  obtain ⟨M5, e5⟩ : ∃ x, x = N5 := ⟨_, rfl⟩
  rw [← e5]
  refine K M5 (gw_wr G4 e5 (by omega) (fun x hx q => ?_))
  rcases List.mem_cons.mp hx with z | z
  · rw [z] at q; exact absurd q.2 (by simp)
  · rcases List.mem_cons.mp z with y | y
    · rw [y] at q; exact absurd q.2 (by simp)
    · exact hR x y q.1
theorem c_40 {d : Nat} {P : Int → qM → Prop} {r : Int} {n : Nat} {M0 M : qM} (hl : q_lay M0) (hr : 126 ≤ r) (hn : n ≤ 2100) (h11 : q_nm M0 1 1 = n) (G : gw r (r + 1) [(r, 4, 6)] [] [(r, 1, 0), (r, 4, 0)] M0 M) (K : ∀ M', q_top M' = r + 10 → (∀ a, a < r → (q_kd M' a = q_kd M0 a ∧ q_ln M' a = q_ln M0 a ∧ (∀ j, q_nm M' a j = q_nm M0 a j) ∧ ∀ j, q_rf M' a j = q_rf M0 a j)) → rd_lay M' r n → q_nm M' r 1 = 0 → q_nm M' r 2 = -1 → q_nm M' r 4 = 0 → q_nm M' (r + 1) 1 = 0 → q_nm M' (r + 1) 6 = 0 → P 0 M') : q_WP q_Pr (d + 3) 40 [.inr (.inr r), .inr (.inr 1)] M P := by
  have c1 : ∀ {u : Int} {F R N : List (Int × Int × Int)} {M : qM}, gw r u F R N M0 M → q_kd M 1 = 7 ∧ q_nm M 1 1 = n := fun G => ⟨(G.2.1 1 (by omega)).1.trans (lk1 hl), ((G.2.1 1 (by omega)).2.2.1 1).trans h11⟩
  refine q_enter (s_40_0 ?_)
  rw [(gw_k (a := r) (k := 4) (n := 6) G (by simp)).1]
  refine ⟨⟨by omega, by decide⟩, rfl, ?_⟩
  intro N1
  obtain ⟨M1, e1⟩ : ∃ x, x = N1 := ⟨_, rfl⟩
  rw [← e1]
  have G1 := gw_wn G e1 (by omega) (by simp)
  intro N2
  obtain ⟨M2, e2⟩ : ∃ x, x = N2 := ⟨_, rfl⟩
  rw [← e2]
  have G2 := gw_al (u' := r + 2) (k := 5) (n := 7) [1, 6] G1 e2 (by omega)
  rw [G1.1.1, (c1 G2).1, (c1 G2).2, (gw_k (a := r + 1) (k := 5) (n := 7) G2 (by simp)).1]
  refine ⟨⟨by decide, by decide⟩, rfl, rfl, ⟨by decide, by decide⟩, c_53 (d := d) hr hn G2 (by simp) (fun M3 G3 => ?_)⟩
  rw [(gw_k (a := r) (k := 4) (n := 6) G3 (by simp)).1]
  refine ⟨⟨rfl, by omega⟩, ?_⟩
  intro N4
  obtain ⟨M4, e4⟩ : ∃ x, x = N4 := ⟨_, rfl⟩
  rw [← e4]
  have G4 := gw_wr G3 e4 (by omega) (by simp <;> omega)
  intro N5
  obtain ⟨M5, e5⟩ : ∃ x, x = N5 := ⟨_, rfl⟩
  rw [← e5]
  have G5 := gw_al (u' := r + 8) (k := 8) (n := 4) [] G4 e5 (by omega)
  rw [G4.1.1, (gw_k (a := r + 7) (k := 8) (n := 4) G5 (by simp)).1]
  refine ⟨⟨by decide, by decide⟩, rfl, ⟨by decide, by decide⟩, c_70 (d := d + 1) hl hr hn h11 G5 (by simp) (by simp <;> omega) (fun M6 G6 => ?_)⟩
  rw [(gw_k (a := r) (k := 4) (n := 6) G6 (by simp)).1]
  refine ⟨⟨rfl, by omega⟩, ?_⟩
  intro N7
  obtain ⟨M7, e7⟩ : ∃ x, x = N7 := ⟨_, rfl⟩
  rw [← e7]
  have G7 := gw_wr G6 e7 (by omega) (by simp <;> omega)
  have kF : ∀ a k l : Int, (a, k, l) ∈ _ → q_kd M7 a = k ∧ q_ln M7 a = l := fun a k l e => gw_k G7 e
  have kR : ∀ a f v : Int, (a, f, v) ∈ _ → q_rf M7 a f = v := fun a f v e => gw_r G7 e
  have f1 := kF (r + 1) 5 7 (by simp)
  have f2 := kF (r + 2) 14 20 (by simp)
  have f3 := kF (r + 3) 14 20 (by simp)
  have f4 := kF (r + 4) 14 20 (by simp)
  have f5 := kF (r + 5) 14 20 (by simp)
  have f6 := kF (r + 6) 14 n (by simp)
  have f7 := kF (r + 7) 8 4 (by simp)
  have f8 := kF (r + 8) 14 (n + 1) (by simp)
  have f9 := kF (r + 9) 14 (n + 1) (by simp)
  have q2 : r + 1 + 1 = r + 2 := by omega
  have q3 : r + 1 + 2 = r + 3 := by omega
  have q4 : r + 1 + 3 = r + 4 := by omega
  have q5 : r + 1 + 4 = r + 5 := by omega
  have q6 : r + 1 + 5 = r + 6 := by omega
  have q8 : r + 7 + 1 = r + 8 := by omega
  have q9 : r + 7 + 2 = r + 9 := by omega
  refine K M7 G7.1.1 G7.2.1 ⟨hr, ⟨(kF r 4 6 (by simp)).1, kR r 0 (r + 1) (by simp), kR r 3 (r + 7) (by simp)⟩, ⟨⟨by omega, f1.1, ?_, ?_, ?_, ?_, ?_⟩, ?_⟩, ⟨gw_lay G7 hl hr, by omega, f7.1, ⟨kR (r + 7) 0 1 (by simp), ?_, ?_⟩, ?_, ?_⟩⟩ (gw_n G7 (by simp)) (gw_n G7 (by simp)) (gw_n G7 (by simp)) (gw_n G7 (by simp)) (gw_n G7 (by simp))
  · rw [q2]; exact ⟨kR (r + 1) 2 (r + 2) (by simp), f2⟩
  · rw [q3]; exact ⟨kR (r + 1) 3 (r + 3) (by simp), f3⟩
  · rw [q4]; exact ⟨kR (r + 1) 4 (r + 4) (by simp), f4⟩
  · rw [q5]; exact ⟨kR (r + 1) 5 (r + 5) (by simp), f5⟩
  · rw [q6]; exact ⟨kR (r + 1) 0 (r + 6) (by simp), f6.1, by rw [f6.2]; omega⟩
  · rw [q6]; exact f6.2
  · rw [q8]; exact kR (r + 7) 1 (r + 8) (by simp)
  · rw [q9]; exact kR (r + 7) 2 (r + 9) (by simp)
  · rw [q8]; exact f8
  · rw [q9]; exact f9
end
