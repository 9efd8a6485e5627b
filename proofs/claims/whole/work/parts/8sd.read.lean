section
/-! THE REFERENCE READS A TEXT -/
def ansA (r : List qS ⊕ (Int × Nat)) : Int := match r with
  | .inl sc => sc.length
  | .inr _ => -1
/-- the world behind a text for a slot -/
def nwK (W : qW) (sl : Int) (r : List qS ⊕ (Int × Nat)) : qW := match r with
  | .inl sc => w_setK W (fun x => if x = sl then some sc else w_SO W x) 0 (-1)
  | .inr f => w_setK W (w_SO W) f.1 (yP (w_tp W) f.2)
def rdA (tp : List Int) : List qS ⊕ (Int × Nat) := gAll (yT tp) (yD5 tp) 20 0
theorem R_so_x {M M' : qM} {x : Int} {so : Option (List qS)} (h : R_so M x so) (k0 : q_nm M' 100 x = q_nm M 100 x) (k1 : q_nm M' 101 x = q_nm M 101 x) (k2 : ∀ a j : Int, (102 ≤ a ∧ a ≤ 105) → 20 * x ≤ j → j < 20 * x + 20 → q_nm M' a j = q_nm M a j) (k3 : ∀ j, 2100 * x ≤ j → j < 2100 * x + 2100 → q_nm M' 106 j = q_nm M 106 j) : R_so M' x so := by
  cases so with
  | none => exact k0.trans h
  | some sc =>
    obtain ⟨h1, h2, h3⟩ := h
    have l := h3.1
    refine ⟨by rw [k0]; exact h1, ⟨k1.trans h2.1, fun i hi => ?_⟩, h3⟩
    obtain ⟨a1, f, a2, a3, a4, a5, a6, a7, a8⟩ := h2.2 i hi
    refine ⟨(k2 _ _ (by omega) (by omega) (by omega)).trans a1, f, a2, (k2 _ _ (by omega) (by omega) (by omega)).trans a3, (k2 _ _ (by omega) (by omega) (by omega)).trans a4, (k2 _ _ (by omega) (by omega) (by omega)).trans a5, a6, q_L_fr a7 (fun j x y => k3 j (by omega) ?_), q_L_fr a8 (fun j x y => k3 j (by omega) ?_)⟩
    · rw [List.length_map] at y; omega
    · rw [List.length_map] at y; omega
/-- the frame of a whole reading for the slot sl -/
def Zf : Int → Int → Prop := fun a j => Zs a j ∨ (a = 66 ∧ (j = 7 ∨ j = 8))
def Zl (sl : Int) : Int → Int → Prop := fun a j => Zs a j ∨ (a = 66 ∧ (j = 7 ∨ j = 8)) ∨ ((a = 100 ∨ a = 101) ∧ j = sl) ∨ (102 ≤ a ∧ a ≤ 105 ∧ 20 * sl ≤ j ∧ j < 20 * sl + 20) ∨ (a = 106 ∧ 2100 * sl ≤ j ∧ j < 2100 * sl + 2100)
theorem r_184f {d : Nat} {P : Int → qM → Prop} {M0 : qM} {x k : Int} {p : Nat} {M : qM} (h : R_Z M0 k p M) (K : ∀ M', fr Zf M0 M' → q_lay M' → q_nm M' 66 7 = k → q_nm M' 66 8 = p → P (-1) M') : q_At q_m184 (q_WP q_Pr d) P 45 [(0, .inr (.inr 66)), (1, .inl x)] [] M 0 0 := by
  refine t_184_45 h.1.2 ⟨fun _ M1 e1 l1 M2 e2 l2 => ?_, fun z => absurd z (R_Z_b h)⟩
  rw [h.2.1.1] at e1
  rw [wn_ne e1 (by omega), h.2.1.2] at e2
  have b2 : q_nm M2 66 5 = k := by rw [wn_ne e2 (by omega), wn_ne e1 (by omega)]; exact h.2.1.1
  rw [b2]
  refine ⟨fun z => absurd z h.2.2, fun _ => K M2 (fr_trans (fr_mono h.1.1 (fun a j q => Or.inl q)) (fr_trans (fr_wn e1 (Or.inr ⟨rfl, by omega⟩)) (fr_wn e2 (Or.inr ⟨rfl, by omega⟩)))) l2 ?_ ?_⟩
  · rw [wn_ne e2 (by omega), wn_eq e1]
  · rw [wn_eq e2]
/-- codes are copied -/
theorem r_184c {d : Nat} {P : Int → qM → Prop} {x : Int} {n : Nat} {M0 : qM} (hx : 0 ≤ x ∧ x < 5) (hn : n ≤ 2100) (K : ∀ M', fr (fun a j => a = 106 ∧ 2100 * x ≤ j ∧ j < 2100 * x + 2100) M0 M' → q_lay M' → (∀ j : Nat, j < n → q_nm M' 106 (2100 * x + j) = q_nm M0 106 (10500 + j)) → P (q_nm M' 101 x) M') : ∀ (m k : Nat) (M : qM), k + m = n → q_nm M0 66 50 = n → fr (fun a j => a = 106 ∧ 2100 * x ≤ j ∧ j < 2100 * x + 2100) M0 M → q_lay M → (∀ j : Nat, j < k → q_nm M 106 (2100 * x + j) = q_nm M0 106 (10500 + j)) → q_At q_m184 (q_WP q_Pr d) P 196 [(0, .inr (.inr 66)), (1, .inl x), (2, .inl (k : Int))] [] M 0 0 := by
  intro m
  induction m with
  | zero =>
    intro k M hk h50 f l hj
    refine t_184_196 l ?_
    rw [show q_nm M 66 50 = n from (f.2 _ _ (by omega)).trans h50]
    exact ⟨fun _ => ⟨⟨by omega, by omega⟩, K M f l (fun j hj' => hj j (by omega))⟩, fun z => absurd z (by omega)⟩
  | succ m ih =>
    intro k M hk h50 f l hj
    refine t_184_196 l ?_
    rw [show q_nm M 66 50 = n from (f.2 _ _ (by omega)).trans h50, w32_id (x := 10500 + (k : Int)) (by omega) (by omega), w32_id (x := 2100 * x) (by omega) (by omega), w32_id (x := 2100 * x + (k : Int)) (by omega) (by omega), w32_id (x := (k : Int) + 1) (by omega) (by omega)]
    refine ⟨fun z => absurd z (by omega), fun _ => ⟨⟨by omega, by omega⟩, ⟨by omega, by omega⟩, fun M1 e1 l1 => ih (k + 1) M1 (by omega) h50 (fr_trans f (fr_wn e1 (by omega))) l1 (fun j hj' => ?_)⟩⟩
    by_cases q : j = k
    · rw [q, wn_eq e1]; exact f.2 _ _ (by omega)
    · rw [wn_ne e1 (by omega)]; exact hj j (by omega)
/-- tables are copied -/
theorem r_184t {d : Nat} {P : Int → qM → Prop} {x : Int} {n : Nat} {M0 : qM} (hx : 0 ≤ x ∧ x < 5) (hn : n ≤ 20) (K : ∀ M', fr (fun a j => 102 ≤ a ∧ a ≤ 105 ∧ 20 * x ≤ j ∧ j < 20 * x + 20) M0 M' → q_lay M' → (∀ (a : Int) (j : Nat), (102 ≤ a ∧ a ≤ 105) → j < n → q_nm M' a (20 * x + j) = q_nm M0 a (100 + j)) → q_At q_m184 (q_WP q_Pr d) P 196 [(0, .inr (.inr 66)), (1, .inl x), (2, .inl ((0 : Nat) : Int))] [] M' 0 0) : ∀ (m k : Nat) (M : qM), k + m = n → q_nm M0 101 5 = n → fr (fun a j => 102 ≤ a ∧ a ≤ 105 ∧ 20 * x ≤ j ∧ j < 20 * x + 20) M0 M → q_lay M → (∀ (a : Int) (j : Nat), (102 ≤ a ∧ a ≤ 105) → j < k → q_nm M a (20 * x + j) = q_nm M0 a (100 + j)) → q_At q_m184 (q_WP q_Pr d) P 113 [(0, .inr (.inr 66)), (1, .inl x), (2, .inl (k : Int))] [] M 0 0 := by
  intro m
  induction m with
  | zero =>
    intro k M hk h5 f l hj
    refine t_184_113 l ?_
    rw [show q_nm M 101 5 = n from (f.2 _ _ (by omega)).trans h5]
    exact ⟨fun _ => K M f l (fun a j ha hj' => hj a j ha (by omega)), fun z => absurd z (by omega)⟩
  | succ m ih =>
    intro k M hk h5 f l hj
    refine t_184_113 l ?_
    rw [show q_nm M 101 5 = n from (f.2 _ _ (by omega)).trans h5, w32_id (x := 100 + (k : Int)) (by omega) (by omega), w32_id (x := 20 * x) (by omega) (by omega), w32_id (x := 20 * x + (k : Int)) (by omega) (by omega), w32_id (x := (k : Int) + 1) (by omega) (by omega)]
    refine ⟨fun z => absurd z (by omega), fun _ => ⟨⟨by omega, by omega⟩, ⟨by omega, by omega⟩, fun M1 e1 l1 => ⟨⟨by omega, by omega⟩, ⟨by omega, by omega⟩, fun M2 e2 l2 => ⟨⟨by omega, by omega⟩, ⟨by omega, by omega⟩, fun M3 e3 l3 => ⟨⟨by omega, by omega⟩, ⟨by omega, by omega⟩, fun M4 e4 l4 => ?_⟩⟩⟩⟩⟩
    refine ih (k + 1) M4 (by omega) h5 (fr_trans f (fr_trans (fr_wn e1 (by omega)) (fr_trans (fr_wn e2 (by omega)) (fr_trans (fr_wn e3 (by omega)) (fr_wn e4 (by omega)))))) l4 (fun a j ha hj' => ?_)
    by_cases q : j = k
    · rw [q]
      have c : a = 102 ∨ a = 103 ∨ a = 104 ∨ a = 105 := by omega
      rcases c with c | c | c | c
      · rw [c, wn_ne e4 (by omega), wn_ne e3 (by omega), wn_ne e2 (by omega), wn_eq e1]; exact f.2 _ _ (by omega)
      · rw [c, wn_ne e4 (by omega), wn_ne e3 (by omega), wn_eq e2, wn_ne e1 (by omega)]; exact f.2 _ _ (by omega)
      · rw [c, wn_ne e4 (by omega), wn_eq e3, wn_ne e2 (by omega), wn_ne e1 (by omega)]; exact f.2 _ _ (by omega)
      · rw [c, wn_eq e4, wn_ne e3 (by omega), wn_ne e2 (by omega), wn_ne e1 (by omega)]; exact f.2 _ _ (by omega)
    · rw [wn_ne e4 (by omega), wn_ne e3 (by omega), wn_ne e2 (by omega), wn_ne e1 (by omega)]; exact hj a j ha (by omega)
/-- the text is read: it comes into its slot -/
theorem r_184s {d : Nat} {P : Int → qM → Prop} {tp : List Int} {M0 : qM} {i : Nat} {sc : List qS} {x : Int} {M : qM} (g : G_T tp) (hx : 0 ≤ x ∧ x < 5) (e1 : yT tp i = -1) (hG : G_sc sc) (h : R_q tp M0 i sc M) (K : ∀ M', fr (Zl x) M0 M' → q_lay M' → q_nm M' 66 7 = 0 → q_nm M' 66 8 = -1 → R_so M' x (some sc) → P sc.length M') : q_At q_m184 (q_WP q_Pr (d + 9)) P 45 [(0, .inr (.inr 66)), (1, .inl x)] [] M 0 0 := by
  obtain ⟨⟨f0, l0, t0⟩, ⟨a, p0⟩, ⟨c1, c2⟩, hr, hst, h20, hbd⟩ := h
  have tl := R_ps_len p0
  have sl := ySq_le tp i
  refine t_184_45 l0 ⟨fun z => absurd (R_ps_ok p0) z, fun _ => r_152P l0 p0 (fun M2 f2 l2 p2 => ⟨l2, fun _ M3 e3 l3 M4 e4 l4 => ?_, fun z => absurd ((yT_end g).mp e1) z⟩)⟩
  rw [R_ps_ok p2] at e3
  rw [wn_ne e3 (by omega), R_ps_pl p2] at e4
  have k4 : ∀ a j : Int, ¬ (a = 66 ∧ (j = 2 ∨ j = 4 ∨ j = 5 ∨ j = 6 ∨ j = 7 ∨ j = 8)) → q_nm M4 a j = q_nm M a j := fun a j q => by
    rw [wn_ne e4 (by omega), wn_ne e3 (by omega)]; exact f2.2 a j (fun z => q ⟨z.1, by have := z.2; omega⟩)
  have b4 : q_nm M4 66 5 = 0 := by rw [wn_ne e4 (by omega), wn_ne e3 (by omega)]; exact R_ps_ok p2
  refine ⟨fun _ => ⟨⟨by omega, by omega⟩, fun M5 e5 l5 => ⟨⟨by omega, by omega⟩, fun M6 e6 l6 => ?_⟩⟩, fun z => absurd b4 z⟩
  have v5 : q_nm M5 101 5 = sc.length := by rw [wn_ne e5 (by omega), k4 101 5 (by omega)]; exact hr
  rw [v5] at e6
  have k6 : ∀ a j : Int, ¬ (a = 66 ∧ (j = 2 ∨ j = 4 ∨ j = 5 ∨ j = 6 ∨ j = 7 ∨ j = 8)) → ¬ ((a = 100 ∨ a = 101) ∧ j = x) → q_nm M6 a j = q_nm M a j := fun a j q r => by
    rw [wn_ne e6 (by omega), wn_ne e5 (by omega)]; exact k4 a j q
  have f6 : fr (Zl x) M0 M6 := fr_trans (fr_mono f0 (fun a j q => Or.inl q)) (fr_trans (fr_mono (Zx_Zs (Zt_Zx f2)) (fun a j q => Or.inl q)) (fr_trans (fr_wn e3 (Or.inr (Or.inl ⟨rfl, by omega⟩))) (fr_trans (fr_wn e4 (Or.inr (Or.inl ⟨rfl, by omega⟩))) (fr_trans (fr_wn e5 (Or.inr (Or.inr (Or.inl ⟨Or.inl rfl, rfl⟩)))) (fr_wn e6 (Or.inr (Or.inr (Or.inl ⟨Or.inr rfl, rfl⟩))))))))
  have w5 : q_nm M6 101 5 = sc.length := by rw [wn_ne e6 (by omega)]; exact v5
  refine r_184t (d := d + 9) (M0 := M6) (n := sc.length) hx h20 (fun M7 f7 l7 t7 => ?_) sc.length 0 M6 (by omega) w5 fr_rfl l6 (fun a j _ hj => absurd hj (Nat.not_lt_zero j))
  have w50 : q_nm M7 66 50 = (flt trc sc).length := by rw [f7.2 66 50 (by omega), k6 66 50 (by omega) (by omega)]; exact c1
  refine r_184c (d := d + 9) (M0 := M7) (n := (flt trc sc).length) hx (by omega) (fun M8 f8 l8 t8 => ?_) (flt trc sc).length 0 M7 (by omega) w50 fr_rfl l7 (fun j hj => absurd hj (Nat.not_lt_zero j))
  have k8 : ∀ a j : Int, a < 102 → q_nm M8 a j = q_nm M6 a j := fun a j q => by rw [f8.2 a j (by omega), f7.2 a j (by omega)]
  have v101 : q_nm M8 101 x = sc.length := by rw [k8 101 x (by omega), wn_eq e6]
  rw [v101]
  have tb8 : ∀ (a : Int) (j : Nat), (102 ≤ a ∧ a ≤ 105) → j < sc.length → q_nm M8 a (20 * x + j) = q_nm M a (100 + j) := fun a j ha hj => by
    rw [f8.2 a _ (by omega), t7 a j ha hj]; exact k6 a _ (by omega) (by omega)
  have cd8 : q_L M8 106 (2100 * x) (flt trc sc) := fun j hj => by
    rw [t8 j hj, f7.2 106 _ (by omega), k6 106 _ (by omega) (by omega)]; exact c2 j hj
  refine K M8 ?_ l8 ?_ ?_ ⟨?_, ⟨v101, fun k hk => ?_⟩, hG⟩
  · exact fr_trans f6 (fr_trans (fr_mono f7 (fun a j q => Or.inr (Or.inr (Or.inr (Or.inl q))))) (fr_mono f8 (fun a j q => Or.inr (Or.inr (Or.inr (Or.inr q))))))
  · rw [k8 66 7 (by omega), wn_ne e6 (by omega), wn_ne e5 (by omega), wn_ne e4 (by omega), wn_eq e3]
  · rw [k8 66 8 (by omega), wn_ne e6 (by omega), wn_ne e5 (by omega), wn_eq e4]
  · rw [k8 100 x (by omega), wn_ne e6 (by omega), wn_eq e5]; decide
  · obtain ⟨a1, a2, a3, a4⟩ := hst k hk
    obtain ⟨q1, q2, q3⟩ := q_L_st (z := (0, [], [])) cd8 hk
    refine ⟨(tb8 102 k (by omega) hk).trans a1, (offS sc k : Int), by omega, (tb8 103 k (by omega) hk).trans a2, (tb8 104 k (by omega) hk).trans a3, (tb8 105 k (by omega) hk).trans a4, by omega, q1, ?_⟩
    rw [← Int.add_assoc]; exact q2
theorem r_184l {d : Nat} {P : Int → qM → Prop} {tp : List Int} {M0 : qM} {x : Int} (g : G_T tp) (hx : 0 ≤ x ∧ x < 5) : ∀ (n i : Nat) (sc : List qS) (M : qM), sc.length + n = 20 → R_q tp M0 i sc M → (∀ l, gAll (yT tp) (yD5 tp) n i = .inl l → G_sc (sc ++ l) ∧ ∀ M', fr (Zl x) M0 M' → q_lay M' → q_nm M' 66 7 = 0 → q_nm M' 66 8 = -1 → R_so M' x (some (sc ++ l)) → P ((sc ++ l).length : Nat) M') → (∀ k q, gAll (yT tp) (yD5 tp) n i = .inr (k, q) → ∀ M', fr Zf M0 M' → q_lay M' → q_nm M' 66 7 = k → q_nm M' 66 8 = yP tp q → P (-1) M') → q_At q_m184 (q_WP q_Pr (d + 9)) P 45 [(0, .inr (.inr 66)), (1, .inl x)] [] M 0 0 := by
  intro n
  induction n with
  | zero =>
    intro i sc M hn h K1 KF
    by_cases e : yT tp i = -1
    · have eg : gAll (yT tp) (yD5 tp) 0 i = .inl [] := by show (if _ then _ else _) = _; rw [if_pos e]
      have k := K1 [] eg
      rw [List.append_nil] at k
      exact r_184s (d := d) g hx e k.1 h k.2
    · have eg : gAll (yT tp) (yD5 tp) 0 i = .inr (5, i) := by show (if _ then _ else _) = _; rw [if_neg e]
      obtain ⟨a, p⟩ := h.2.1
      refine t_184_45 h.1.2.1 ⟨fun z => absurd (R_ps_ok p) z, fun _ => r_152P h.1.2.1 p (fun M2 f2 l2 p2 => ⟨l2, fun z => absurd ((yT_end g).mpr z) e, fun _ => ?_⟩)⟩
      have h2 : R_q tp M0 i sc M2 := ⟨⟨fr_trans h.1.1 (Zx_Zs (Zt_Zx f2)), l2, LT_Zt h.1.2.2 f2⟩, ⟨_, p2⟩, ⟨(f2.2 _ _ (fun q => by have := q.2; omega)).trans h.2.2.1.1, q_L_fr h.2.2.1.2 (fun j _ _ => f2.2 _ _ (fun q => by have := q.1; omega))⟩, (f2.2 _ _ (fun q => by have := q.1; omega)).trans h.2.2.2.1, stT_fr h.2.2.2.2.1 (fun a j q _ _ => f2.2 _ _ (fun z => by have := z.1; omega)), h.2.2.2.2.2⟩
      exact r_183 (d := d) g (R_ps_a p2) h2 (fun j s q => absurd q (by omega)) (fun k q z => absurd z (by omega)) (fun _ M3 z3 => ⟨z3.1.2, r_184f z3 (KF 5 i eg)⟩)
  | succ n ih =>
    intro i sc M hn h K1 KF
    by_cases e : yT tp i = -1
    · have eg : gAll (yT tp) (yD5 tp) (n + 1) i = .inl [] := by show (if _ then _ else _) = _; rw [if_pos e]
      have k := K1 [] eg
      rw [List.append_nil] at k
      exact r_184s (d := d) g hx e k.1 h k.2
    · have eg : gAll (yT tp) (yD5 tp) (n + 1) i = (match gStmt (yT tp) (yD5 tp) i with
        | .inr f => .inr f
        | .inl x => (match gAll (yT tp) (yD5 tp) n x.1 with
          | .inr f => .inr f
          | .inl l => .inl (x.2 :: l))) := (if_neg e).trans rfl
      rw [eg] at K1 KF
      obtain ⟨a, p⟩ := h.2.1
      refine t_184_45 h.1.2.1 ⟨fun z => absurd (R_ps_ok p) z, fun _ => r_152P h.1.2.1 p (fun M2 f2 l2 p2 => ⟨l2, fun z => absurd ((yT_end g).mpr z) e, fun _ => ?_⟩)⟩
      have h2 : R_q tp M0 i sc M2 := ⟨⟨fr_trans h.1.1 (Zx_Zs (Zt_Zx f2)), l2, LT_Zt h.1.2.2 f2⟩, ⟨_, p2⟩, ⟨(f2.2 _ _ (fun q => by have := q.2; omega)).trans h.2.2.1.1, q_L_fr h.2.2.1.2 (fun j _ _ => f2.2 _ _ (fun q => by have := q.1; omega))⟩, (f2.2 _ _ (fun q => by have := q.1; omega)).trans h.2.2.2.1, stT_fr h.2.2.2.2.1 (fun a j q _ _ => f2.2 _ _ (fun z => by have := z.1; omega)), h.2.2.2.2.2⟩
      refine r_183 (d := d) g (R_ps_a p2) h2 (fun j s _ es M3 h3 => ⟨h3.1.2.1, ?_⟩) (fun k q _ es M3 z3 => ⟨z3.1.2, r_184f z3 (KF k q (by rw [es]))⟩) (fun q => absurd q (by omega))
      rw [es] at K1 KF
      dsimp only at K1 KF
      refine ih j (sc ++ [s]) M3 (by rw [List.length_append, List.length_cons, List.length_nil]; omega) h3 (fun l el => ?_) (fun k q el => KF k q (by rw [el]))
      have k := K1 (s :: l) (by rw [el])
      rw [List.append_assoc, List.singleton_append]
      exact k
theorem r_184 {d : Nat} {P : Int → qM → Prop} {W : qW} {x : Int} {M : qM} (hl : q_lay M) (g : WG W) (h : WR W M) (hL : LT M) (hx : 0 ≤ x ∧ x < 5) (K : ∀ M', fr Zr M M' → q_lay M' → WR (nwK W x (rdA (w_tp W))) M' → P (ansA (rdA (w_tp W))) M') : q_WP q_Pr (d + 10) 184 [.inr (.inr 66), .inl x] M P := by
  have gt := g.1
  refine q_enter (t_184_0 hl (fun M1 e1 l1 M2 e2 l2 M3 e3 l3 M4 e4 l4 M5 e5 l5 M6 e6 l6 M7 e7 l7 M8 e8 l8 => ?_))
  rw [h.1.1] at e1
  have k8 : ∀ a j : Int, ¬ (a = 66 ∧ (j = 1 ∨ j = 2 ∨ j = 3 ∨ j = 4 ∨ j = 5 ∨ j = 6 ∨ j = 50)) → ¬ (a = 101 ∧ j = 5) → q_nm M8 a j = q_nm M a j := fun a j q r => by
    rw [wn_ne e8 (by omega), wn_ne e7 (by omega), wn_ne e6 (by omega), wn_ne e5 (by omega), wn_ne e4 (by omega), wn_ne e3 (by omega), wn_ne e2 (by omega), wn_ne e1 (by omega)]
  have fz : fr (fun a j => (a = 66 ∧ (j = 1 ∨ j = 2 ∨ j = 3 ∨ j = 4 ∨ j = 5 ∨ j = 6 ∨ j = 50)) ∨ (a = 101 ∧ j = 5)) M M8 := fr_trans (fr_wn e1 (by omega)) (fr_trans (fr_wn e2 (by omega)) (fr_trans (fr_wn e3 (by omega)) (fr_trans (fr_wn e4 (by omega)) (fr_trans (fr_wn e5 (by omega)) (fr_trans (fr_wn e6 (by omega)) (fr_trans (fr_wn e7 (by omega)) (fr_wn e8 (by omega))))))))
  have q0 : R_q (w_tp W) M8 0 [] M8 := by
    refine ⟨⟨fr_rfl, l8, LT_eq hL (fun a j x y => k8 a j (by omega) (by omega))⟩, ⟨0, -1, ⟨⟨?_, q_L_fr h.1.2 (fun j _ _ => k8 67 j (by omega) (by omega)), ?_, Nat.zero_le _, gt.1⟩, ?_, ?_, ?_⟩, rfl, by omega, ?_⟩, ⟨?_, q_L_nil⟩, ?_, fun k hk => absurd hk (Nat.not_lt_zero k), Nat.zero_le _, Nat.zero_le _⟩
    · rw [wn_ne e8 (by omega), wn_ne e7 (by omega), wn_ne e6 (by omega), wn_ne e5 (by omega), wn_ne e4 (by omega), wn_ne e3 (by omega), wn_ne e2 (by omega), wn_eq e1]
    · rw [wn_ne e8 (by omega), wn_ne e7 (by omega), wn_ne e6 (by omega), wn_ne e5 (by omega), wn_ne e4 (by omega), wn_eq e3]; rfl
    · rw [wn_ne e8 (by omega), wn_ne e7 (by omega), wn_ne e6 (by omega), wn_ne e5 (by omega), wn_eq e4]
    · rw [wn_ne e8 (by omega), wn_ne e7 (by omega), wn_ne e6 (by omega), wn_eq e5]
    · rw [wn_ne e8 (by omega), wn_ne e7 (by omega), wn_eq e6]
    · constructor
      · intro z; omega
      · intro z; exact absurd z (by unfold yG; simp [ySq])
    · rw [wn_eq e8]; rfl
    · rw [wn_ne e8 (by omega), wn_eq e7]; rfl
  have fin : ∀ (M' : qM) (SO : Int → Option (List qS)) (fk fp : Int), fr (Zl x) M8 M' → q_nm M' 66 7 = fk → q_nm M' 66 8 = fp → (∀ y, 0 ≤ y → y < 5 → y ≠ x → SO y = w_SO W y) → R_so M' x (SO x) → (fr Zr M M' ∧ WR (w_setK W SO fk fp) M') := fun M' SO fk fp f h7 h8 hy hs => by
    have kz : ∀ a j : Int, ¬ Zl x a j → ¬ ((a = 66 ∧ (j = 1 ∨ j = 2 ∨ j = 3 ∨ j = 4 ∨ j = 5 ∨ j = 6 ∨ j = 50)) ∨ (a = 101 ∧ j = 5)) → q_nm M' a j = q_nm M a j := fun a j z y => (f.2 a j z).trans (fz.2 a j y)
    refine ⟨fr_trans (fr_mono fz (fun a j q => by unfold Zr; omega)) (fr_mono f (fun a j q => by unfold Zl Zs Zx at q; unfold Zr; omega)), WR_K h (fun a j q => kz a j (by unfold Zl Zs Zx; omega) (by omega)) ?_ h7 h8 (fun y y0 y5 => ?_)⟩
    · rw [f.2 66 1 (by unfold Zl Zs Zx; omega), wn_ne e8 (by omega), wn_ne e7 (by omega), wn_ne e6 (by omega), wn_ne e5 (by omega), wn_ne e4 (by omega), wn_ne e3 (by omega), wn_eq e2]
    · by_cases e : y = x
      · rw [e]; exact hs
      · rw [hy y y0 y5 e]
        exact R_so_x (h.2.2.2.1 y y0 y5) (kz 100 y (by unfold Zl Zs Zx; omega) (by omega)) (kz 101 y (by unfold Zl Zs Zx; omega) (by omega)) (fun a j ha j0 j1 => kz a j (by unfold Zl Zs Zx; omega) (by omega)) (fun j j0 j1 => kz 106 j (by unfold Zl Zs Zx; omega) (by omega))
  refine r_184l (d := d) gt hx 20 0 [] M8 rfl q0 (fun l el => ?_) (fun k q el M' f l' h7 h8 => ?_)
  · have hG : G_sc l := gAll_G (fun i => by rcases yT_all (tp := w_tp W) i with q | q | q | q | q <;> first | omega | (unfold ySg at q; omega)) el
    rw [List.nil_append]
    refine ⟨hG, fun M' f l' h7 h8 hs => ?_⟩
    have er : rdA (w_tp W) = .inl l := el
    rw [er] at K
    obtain ⟨z1, z2⟩ := fin M' (fun y => if y = x then some l else w_SO W y) 0 (-1) f h7 h8 (fun y _ _ e => if_neg e) (by rw [if_pos rfl]; exact hs)
    exact K M' z1 l' z2
  · have er : rdA (w_tp W) = .inr (k, q) := el
    rw [er] at K
    have kf : ∀ a j : Int, ¬ Zf a j → ¬ ((a = 66 ∧ (j = 1 ∨ j = 2 ∨ j = 3 ∨ j = 4 ∨ j = 5 ∨ j = 6 ∨ j = 50)) ∨ (a = 101 ∧ j = 5)) → q_nm M' a j = q_nm M a j := fun a j z y => (f.2 a j z).trans (fz.2 a j y)
    obtain ⟨z1, z2⟩ := fin M' (w_SO W) k (yP (w_tp W) q) (fr_mono f (fun a j z => z.elim Or.inl (fun y => Or.inr (Or.inl y)))) h7 h8 (fun y _ _ e => rfl) (R_so_x (h.2.2.2.1 x hx.1 hx.2) (kf 100 x (by unfold Zf Zs Zx; omega) (by omega)) (kf 101 x (by unfold Zf Zs Zx; omega) (by omega)) (fun a j ha j0 j1 => kf a j (by unfold Zf Zs Zx; omega) (by omega)) (fun j j0 j1 => kf 106 j (by unfold Zf Zs Zx; omega) (by omega)))
    exact K M' z1 l' z2
end
