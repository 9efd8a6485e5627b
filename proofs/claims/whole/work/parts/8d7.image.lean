section
theorem r_249 {d : Nat} {P : Int → qM → Prop} {M : qM} {v : Int} {pc : List Int} (hl : q_lay M) (hP : R_P pc M) (hn : pc.length < 2100) (K : ∀ M', fr (fun a j => (a = 66 ∧ j = 81) ∨ a = 125) M M' → R_P (pc ++ [v]) M' → P 0 M') : q_WP q_Pr (d + 1) 249 [.inr (.inr 66), .inl v] M P := by
  refine q_enter (t_249_0 hl ?_)
  rw [hP.1]
  refine ⟨by omega, fun M1 e1 l1 => ?_⟩
  rw [(wn_ne e1 (by omega)).trans hP.1, w32_id (x := (pc.length : Int) + 1) (by omega) (by omega)]
  intro M2 e2 l2
  refine K M2 (fr_trans (fr_wn e1 (Or.inr rfl)) (fr_wn e2 (Or.inl ⟨rfl, rfl⟩))) ⟨?_, q_L_snoc hP.2 (fun j _ z => ?_) ?_⟩
  · rw [wn_eq e2, List.length_append]; simp
  · rw [wn_ne e2 (by omega), wn_ne e1 (by omega)]
  · rw [Int.zero_add, wn_ne e2 (by omega)]; exact wn_eq e1
theorem r_250l {d : Nat} {P : Int → qM → Prop} {M : qM} {x n : Int} {pc : List Int} {c s : Nat} (hl : q_lay M) (hx : q_kd M x = 14) (hx2 : n ≤ q_ln M x) (hP : ∀ i, 0 ≤ i → i < n → q_nm M x i = tb pc i) (hb : ∀ b ∈ pc, 0 ≤ b ∧ b ≤ 255) (hn : n ≤ pc.length) (hs : n ≤ 3000) (K : P (chk (slice pc 0 n)) M) : ∀ (k : Nat) (y : Int), 0 ≤ y → y + k = n → q_At q_m250 (q_WP q_Pr d) P 5 [(0, .inr (.inr x)), (1, .inl n), (2, .inl (chk (slice pc 0 y))), (3, .inl y)] [] M c s := by
  intro k
  induction k with
  | zero =>
    intro y h0 h1
    refine t_250_5 hl ⟨fun _ => ?_, fun z => absurd z (by omega)⟩
    rw [show y = n by omega]; exact K
  | succ k ih =>
    intro y h0 h1
    refine t_250_5 hl ?_
    have c1 := chk_rng (slice pc 0 y)
    have c2 : 0 ≤ tb pc y ∧ tb pc y ≤ 255 := by rw [tb_in h0 (by omega)]; exact hb _ (getD_mem (by omega))
    rw [hP y h0 (by omega), hx, w32_id (x := y + 1) (by omega) (by omega), w32_id (x := 3 * chk (slice pc 0 y)) (by omega) (by omega), w32_id (x := 3 * chk (slice pc 0 y) + tb pc y) (by omega) (by omega), Int.tmod_eq_emod_of_nonneg (by omega), ← chk_snoc, ← slice0_succ h0 (by omega)]
    exact ⟨fun z => absurd z (by omega), fun _ => ⟨⟨rfl, h0, by omega⟩, ih (y + 1) (by omega) (by omega)⟩⟩
theorem r_250 {d : Nat} {P : Int → qM → Prop} {M : qM} {x n : Int} {pc : List Int} (hl : q_lay M) (hx : q_kd M x = 14) (hx2 : n ≤ q_ln M x) (hP : ∀ i, 0 ≤ i → i < n → q_nm M x i = tb pc i) (hb : ∀ b ∈ pc, 0 ≤ b ∧ b ≤ 255) (h0 : 0 ≤ n) (hn : n ≤ pc.length) (hs : n ≤ 3000) (K : P (chk (slice pc 0 n)) M) : q_WP q_Pr (d + 1) 250 [.inr (.inr x), .inl n] M P := by
  refine q_enter (t_250_0 hl ?_)
  have e := r_250l (d := d) (P := P) (c := 0) (s := 0) hl hx hx2 hP hb hn hs K n.toNat 0 (Int.le_refl 0) (by omega)
  rw [slice_zero, chk_nil] at e
  exact e
theorem r_251i {d : Nat} {P : Int → qM → Prop} {M0 : qM} {i : Int} {pre l : List Int} {c s : Nat} (hl : q_lay M0) (hi : 0 ≤ i ∧ i < 20) (hC : q_L M0 122 (104 * i) l) (hC2 : q_nm M0 121 i = l.length) (hg : l.length ≤ 100) (hn : pre.length + l.length < 2100) (K : ∀ M', fr (fun a j => (a = 66 ∧ j = 81) ∨ a = 125) M0 M' → R_P (pre ++ l) M' → q_At q_m251 (q_WP q_Pr (d + 1)) P 15 [(0, .inr (.inr 66)), (1, .inl (w32 (i + 1)))] [] M' c s) : ∀ (k : Nat) (y : Int) (M : qM), 0 ≤ y → y + k = l.length → fr (fun a j => (a = 66 ∧ j = 81) ∨ a = 125) M0 M → R_P (pre ++ slice l 0 y) M → q_At q_m251 (q_WP q_Pr (d + 1)) P 45 [(0, .inr (.inr 66)), (1, .inl i), (2, .inl y)] [] M c s := by
  intro k
  induction k with
  | zero =>
    intro y M h0 h1 h2 h3
    refine t_251_45 (fr_lay h2 hl) ?_
    rw [h2.2 121 i (by dsimp only; omega), hC2]
    rw [show y = (l.length : Int) by omega, slice_all] at h3
    exact ⟨by omega, fun _ => K M h2 h3, fun z => absurd z (by omega)⟩
  | succ k ih =>
    intro y M h0 h1 h2 h3
    have hl3 := slice_len (tp := l) (f := 0) (n := y) (Int.le_refl 0) h0 (by omega)
    refine t_251_45 (fr_lay h2 hl) ?_
    have e2 : q_nm M 122 (104 * i + y) = tb l y := by rw [h2.2 122 _ (by dsimp only; omega), tb_in h0 (by omega)]; exact q_L_get hC h0 (by omega)
    rw [h2.2 121 i (by dsimp only; omega), hC2, w32_id (x := y + 1) (by omega) (by omega), w32_id (x := 104 * i) (by omega) (by omega), w32_id (x := 104 * i + y) (by omega) (by omega), e2]
    refine ⟨by omega, fun z => absurd z (by omega), fun _ => ⟨by omega, ?_⟩⟩
    refine r_249 (fr_lay h2 hl) h3 (by rw [List.length_append]; omega) (fun M' f1 c1 => ⟨fr_lay (fr_trans h2 f1) hl, ih (y + 1) M' (by omega) (by omega) (fr_trans h2 f1) ?_⟩)
    rw [slice0_succ h0 (by omega), ← List.append_assoc]
    exact c1
theorem r_251o {d : Nat} {P : Int → qM → Prop} {M0 : qM} {nr nn : Int} {NR : Int → Int} {NL : Int → List Int} {c s : Nat} (hr : nr ≤ 12) (hl : q_lay M0) (hN : R_N nn NR NL M0) (g : G_N nr nn NR NL) (K : ∀ M', fr (fun a j => (a = 66 ∧ j = 81) ∨ a = 125) M0 M' → R_P (img nn NR NL) M' → P (img nn NR NL).length M') : ∀ (k i : Nat) (M : qM), (i : Int) + k = nn → fr (fun a j => (a = 66 ∧ j = 81) ∨ a = 125) M0 M → R_P (nn :: imgN NR NL i) M → q_At q_m251 (q_WP q_Pr (d + 1)) P 15 [(0, .inr (.inr 66)), (1, .inl (i : Int))] [] M c s := by
  have gn := g.1
  intro k
  induction k with
  | zero =>
    intro i M h1 h2 h3
    have hN' : R_N nn NR NL M := R_N_fr hN (h2.2 _ _ (by dsimp only; omega)) (fun a j p q => h2.2 a j (by dsimp only; omega))
    have l := fr_lay h2 hl
    refine t_251_15 l ?_
    rw [hN'.1, h3.1]
    refine ⟨fun _ => ?_, fun z => absurd z (by omega)⟩
    have e : i = nn.toNat := by omega
    subst e
    have hlen := imgN_len g nn.toNat (by omega)
    have hlen2 : (img0 nn NR NL).length < 2042 := by unfold img0; rw [List.length_cons]; omega
    have hb : ∀ b ∈ img0 nn NR NL, 0 ≤ b ∧ b ≤ 255 := fun b hb => by
      rcases List.mem_cons.mp hb with q | q
      · omega
      · exact imgN_b hr g nn.toNat (by omega) b q
    refine r_250 (pc := img0 nn NR NL) l (lk125 l) (by rw [ll125 l]; show ((img0 nn NR NL).length : Int) ≤ _; omega) (fun i h0 h1 => (q_L_get0 h3.2 h0 h1).trans (tb_in (tp := img0 nn NR NL) h0 h1).symm) hb (by omega) (Int.le_refl _) (by show ((img0 nn NR NL).length : Int) ≤ _; omega) ⟨l, ?_⟩
    refine r_249 (pc := img0 nn NR NL) l h3 (by omega) (fun M' f1 c1 => ⟨fr_lay f1 l, ?_⟩)
    have e2 : slice (img0 nn NR NL) 0 ((nn :: imgN NR NL nn.toNat).length : Int) = img0 nn NR NL := slice_all
    rw [e2] at c1
    have c2 : R_P (img nn NR NL) M' := c1
    rw [c2.1]
    exact K M' (fr_trans h2 f1) c2
  | succ k ih =>
    intro i M h1 h2 h3
    have hN' : R_N nn NR NL M := R_N_fr hN (h2.2 _ _ (by dsimp only; omega)) (fun a j p q => h2.2 a j (by dsimp only; omega))
    have l := fr_lay h2 hl
    have o := hN'.2 i (by omega) (by omega)
    have o2 := g.2 i (by omega) (by omega)
    have o3 := o2.2.2.1
    have hlen := imgN_len g i (by omega)
    refine t_251_15 l ?_
    rw [hN'.1, o.1]
    refine ⟨fun z => absurd z (by omega), fun _ => ⟨by omega, ?_⟩⟩
    refine r_249 l h3 (by rw [List.length_cons]; omega) (fun M1 f1 c1 => ⟨fr_lay f1 l, by omega, ?_⟩)
    rw [f1.2 121 (i : Int) (by dsimp only; omega), o.2.1]
    refine r_249 (fr_lay f1 l) c1 (by rw [List.length_append, List.length_cons, List.length_cons, List.length_nil]; omega) (fun M2 f2 c2 => ⟨fr_lay f2 (fr_lay f1 l), ?_⟩)
    have f12 := fr_trans f1 f2
    refine r_251i (i := (i : Int)) (l := NL i) (pre := nn :: imgN NR NL i ++ [NR i] ++ [((NL i).length : Int)]) (fr_lay f12 l) (by omega) (q_L_fr o.2.2 (fun j _ _ => f12.2 _ _ (by dsimp only; omega))) ((f12.2 _ _ (by dsimp only; omega)).trans o.2.1) o3 (by simp only [List.length_append, List.length_cons, List.length_nil]; omega) (fun M3 f3 c3 => ?_) (NL i).length 0 M2 (Int.le_refl 0) (by omega) fr_rfl (by rw [slice_zero, List.append_nil]; exact c2)
    rw [w32_id (x := (i : Int) + 1) (by omega) (by omega)]
    exact ih (i + 1) M3 (by omega) (fr_trans h2 (fr_trans f12 f3)) (by
      have e : nn :: imgN NR NL (i + 1) = nn :: imgN NR NL i ++ [NR i] ++ [((NL i).length : Int)] ++ NL i := by
        show nn :: (imgN NR NL i ++ (NR i :: ((NL i).length : Int) :: NL i)) = _
        simp
      rw [e]; exact c3)
theorem r_251 {d : Nat} {P : Int → qM → Prop} {M : qM} {nr nn : Int} {NR : Int → Int} {NL : Int → List Int} (hr : nr ≤ 12) (hl : q_lay M) (hN : R_N nn NR NL M) (g : G_N nr nn NR NL) (K : ∀ M', fr (fun a j => (a = 66 ∧ j = 81) ∨ a = 125) M M' → R_P (img nn NR NL) M' → P (img nn NR NL).length M') : q_WP q_Pr (d + 2) 251 [.inr (.inr 66)] M P := by
  have gn := g.1
  refine q_enter (t_251_0 hl (fun M1 e1 l1 => ?_))
  have f1 : fr (fun a j => (a = 66 ∧ j = 81) ∨ a = 125) M M1 := fr_wn e1 (Or.inl ⟨rfl, rfl⟩)
  rw [(wn_ne e1 (by omega)).trans hN.1]
  refine r_249 (pc := []) l1 ⟨wn_eq e1, q_L_nil⟩ (by decide) (fun M2 f2 c2 => ⟨fr_lay f2 l1, ?_⟩)
  have f12 := fr_trans f1 f2
  exact r_251o (nr := nr) hr (fr_lay f2 l1) (R_N_fr hN (f12.2 _ _ (by dsimp only; omega)) (fun a j p q => f12.2 a j (by dsimp only; omega))) g (fun M3 f3 c3 => K M3 (fr_trans f12 f3) c3) nn.toNat 0 M2 (by omega) fr_rfl c2
end
