section
def chk (l : List Int) : Int := l.foldl (fun c b => (3 * c + b) % 251) 7
theorem chk_nil : chk [] = 7 := rfl
theorem chk_snoc {l : List Int} {b : Int} : chk (l ++ [b]) = (3 * chk l + b) % 251 := by unfold chk; rw [List.foldl_append]; rfl
theorem chk_rng (l : List Int) : 0 ≤ chk l ∧ chk l ≤ 250 := by
  rcases List.eq_nil_or_concat l with h | ⟨t, b, h⟩
  · rw [h, chk_nil]; omega
  · rw [h, List.concat_eq_append, chk_snoc]; omega
def imgN (NR : Int → Int) (NL : Int → List Int) : Nat → List Int
  | 0 => []
  | k + 1 => imgN NR NL k ++ (NR k :: ((NL k).length : Int) :: NL k)
def img0 (nn : Int) (NR : Int → Int) (NL : Int → List Int) : List Int := nn :: imgN NR NL nn.toNat
def img (nn : Int) (NR : Int → Int) (NL : Int → List Int) : List Int := img0 nn NR NL ++ [chk (img0 nn NR NL)]
/-- the picture -/
def C_P (pc : List Int) (M : qM) : Prop := q_nm M 64 1 = pc.length ∧ ∀ i : Nat, i < pc.length → q_and (q_nm M 65 i) 255 = pc.getD i 0
def R_P (pc : List Int) (M : qM) : Prop := q_nm M 66 81 = pc.length ∧ q_L M 125 0 pc
def G_P (pc : List Int) : Prop := pc.length ≤ 2042
theorem imgN_len {nr nn : Int} {NR : Int → Int} {NL : Int → List Int} (g : G_N nr nn NR NL) : ∀ k : Nat, (k : Int) ≤ nn → (imgN NR NL k).length ≤ 102 * k := by
  intro k
  induction k with
  | zero => intro _; exact Nat.le_refl 0
  | succ k ih =>
    intro h
    have h1 := ih (by omega)
    have h2 := (g.2 k (by omega) (by omega)).2.2.1
    show (imgN NR NL k ++ _).length ≤ _
    rw [List.length_append, List.length_cons, List.length_cons]
    omega
theorem C_P_fr {pc : List Int} {M M' : qM} (h : C_P pc M) (k1 : q_nm M' 64 1 = q_nm M 64 1) (k2 : ∀ j, q_nm M' 65 j = q_nm M 65 j) : C_P pc M' := ⟨by rw [k1]; exact h.1, fun i hi => by rw [k2]; exact h.2 i hi⟩
theorem R_P_fr {pc : List Int} {M M' : qM} (h : R_P pc M) (k1 : q_nm M' 66 81 = q_nm M 66 81) (k2 : ∀ j, q_nm M' 125 j = q_nm M 125 j) : R_P pc M' := ⟨by rw [k1]; exact h.1, q_L_fr h.2 (fun j _ _ => k2 j)⟩
theorem c_38 {d : Nat} {P : Int → qM → Prop} {M : qM} {v : Int} {pc : List Int} (hl : q_lay M) (hP : C_P pc M) (hn : pc.length < 2042) (hv : 0 ≤ v ∧ v ≤ 255) (K : ∀ M', fr (fun a j => (a = 64 ∧ j = 1) ∨ a = 65) M M' → C_P (pc ++ [v]) M' → P 0 M') : q_WP q_Pr (d + 1) 38 [.inr (.inr 64), .inl v] M P := by
  refine q_enter (t_38_0 hl ?_)
  rw [hP.1]
  refine ⟨fun z => absurd z (by omega), fun _ => ⟨by omega, fun M1 e1 l1 => ?_⟩⟩
  rw [(wn_ne e1 (by omega)).trans hP.1, w32_id (x := (pc.length : Int) + 1) (by omega) (by omega)]
  intro M2 e2 l2
  refine K M2 (fr_trans (fr_wn e1 (Or.inr rfl)) (fr_wn e2 (Or.inl ⟨rfl, rfl⟩))) ⟨?_, fun i hi => ?_⟩
  · rw [wn_eq e2, List.length_append]; simp
  · rw [List.length_append, List.length_cons, List.length_nil] at hi
    rw [getD_snoc, wn_ne e2 (by omega)]
    by_cases e : i < pc.length
    · rw [if_pos e, wn_ne e1 (by omega)]; exact hP.2 i e
    · rw [if_neg e, if_pos (by omega), show i = pc.length by omega, wn_eq e1, q_and_w8, q_and255]; omega
theorem c_37i {d : Nat} {P : Int → qM → Prop} {M0 : qM} {i x b : Int} {pre l : List Int} {c s : Nat} (hl : q_lay M0) (hS : isSp M0 x b) (hx : x ≠ 64 ∧ x ≠ 65 ∧ b ≠ 64 ∧ b ≠ 65) (hC : C_Sp x b l M0) (hg : G_S l) (hn : pre.length + l.length < 2042) (K : ∀ M', fr (fun a j => (a = 64 ∧ j = 1) ∨ a = 65) M0 M' → C_P (pre ++ l) M' → q_At q_m37 (q_WP q_Pr (d + 1)) P 15 [(0, .inr (.inr 64)), (1, .inr (.inr 21)), (2, .inl (w32 (i + 1)))] [] M' c s) : ∀ (k : Nat) (y : Int) (M : qM), 0 ≤ y → y + k = l.length → fr (fun a j => (a = 64 ∧ j = 1) ∨ a = 65) M0 M → C_P (pre ++ slice l 0 y) M → q_At q_m37 (q_WP q_Pr (d + 1)) P 51 [(0, .inr (.inr 64)), (1, .inr (.inr 21)), (2, .inl i), (3, .inr (.inr x)), (4, .inl y)] [] M c s := by
  intro k
  have gl := hg.1
  induction k with
  | zero =>
    intro y M h0 h1 h2 h3
    have hS' := isSp_fr hS h2
    have e1 : q_nm M x 1 = l.length := (h2.2 x 1 (by dsimp only; omega)).trans hC.1
    refine t_37_51 (fr_lay h2 hl) ?_
    rw [e1, hS'.1]
    rw [show y = (l.length : Int) by omega, slice_all] at h3
    exact ⟨rfl, fun _ => K M h2 h3, fun z => absurd z (by omega)⟩
  | succ k ih =>
    intro y M h0 h1 h2 h3
    have hS' := isSp_fr hS h2
    have e1 : q_nm M x 1 = l.length := (h2.2 x 1 (by dsimp only; omega)).trans hC.1
    have e2 : q_nm M b y = tb l y := by rw [h2.2 b y (by dsimp only; omega), tb_in h0 (by omega)]; exact q_L_get0 hC.2 h0 (by omega)
    have hl3 := slice_len (tp := l) (f := 0) (n := y) (Int.le_refl 0) h0 (by omega)
    have ho : okc (tb l y) := by rw [tb_in h0 (by omega)]; exact hg.2 _ (getD_mem (by omega))
    refine t_37_51 (fr_lay h2 hl) ?_
    rw [e1, hS'.1, hS'.2.1, hS'.2.2.1, hS'.2.2.2, e2, w32_id (x := y + 1) (by omega) (by omega)]
    refine ⟨rfl, fun z => absurd z (by omega), fun _ => ⟨rfl, ⟨Or.inl rfl, h0, by omega⟩, ?_⟩⟩
    refine c_38 (fr_lay h2 hl) h3 (by rw [List.length_append]; omega) (by unfold okc at ho; omega) (fun M' f1 c1 => ⟨fr_lay (fr_trans h2 f1) hl, ih (y + 1) M' (by omega) (by omega) (fr_trans h2 f1) ?_⟩)
    rw [slice0_succ h0 (by omega), ← List.append_assoc]
    exact c1
theorem c_37c {d : Nat} {P : Int → qM → Prop} {M : qM} {pc : List Int} {c s : Nat} (hl : q_lay M) (hP : C_P pc M) (hb : ∀ b ∈ pc, 0 ≤ b ∧ b ≤ 255) (hn : pc.length < 2042) (K : ∀ M', fr (fun a j => (a = 64 ∧ j = 1) ∨ a = 65) M M' → C_P (pc ++ [chk pc]) M' → P 0 M') : ∀ (k : Nat) (y : Int), 0 ≤ y → y + k = pc.length → q_At q_m37 (q_WP q_Pr (d + 1)) P 88 [(0, .inr (.inr 64)), (2, .inl (chk (slice pc 0 y))), (3, .inl y)] [] M c s := by
  intro k
  induction k with
  | zero =>
    intro y h0 h1
    refine t_37_88 hl ?_
    rw [hP.1, show y = (pc.length : Int) by omega, slice_all]
    have := chk_rng pc
    exact ⟨fun _ => c_38 hl hP hn (by omega) (fun M' f1 c1 => ⟨fr_lay f1 hl, K M' f1 c1⟩), fun z => absurd z (by omega)⟩
  | succ k ih =>
    intro y h0 h1
    refine t_37_88 hl ?_
    have e2 : q_and (q_nm M 65 y) 255 = tb pc y := by
      rw [tb_in h0 (by omega)]
      have e := hP.2 y.toNat (by omega)
      rw [show ((y.toNat : Nat) : Int) = y by omega] at e
      exact e
    have c1 := chk_rng (slice pc 0 y)
    have c2 : 0 ≤ tb pc y ∧ tb pc y ≤ 255 := by rw [tb_in h0 (by omega)]; exact hb _ (getD_mem (by omega))
    rw [hP.1, e2, w32_id (x := y + 1) (by omega) (by omega), w32_id (x := 3 * chk (slice pc 0 y)) (by omega) (by omega), w32_id (x := 3 * chk (slice pc 0 y) + tb pc y) (by omega) (by omega), Int.tmod_eq_emod_of_nonneg (by omega), ← chk_snoc, ← slice0_succ h0 (by omega)]
    exact ⟨fun z => absurd z (by omega), fun _ => ⟨by omega, ih (y + 1) (by omega) (by omega)⟩⟩
theorem imgN_b {nr nn : Int} {NR : Int → Int} {NL : Int → List Int} (hr : nr ≤ 12) (g : G_N nr nn NR NL) : ∀ k : Nat, (k : Int) ≤ nn → ∀ b ∈ imgN NR NL k, 0 ≤ b ∧ b ≤ 255 := by
  intro k
  induction k with
  | zero => intro _ b hb; exact absurd hb (List.not_mem_nil)
  | succ k ih =>
    intro h b hb
    have h2 := g.2 k (by omega) (by omega)
    have h3 := h2.2.2.1
    rcases List.mem_append.mp hb with q | q
    · exact ih (by omega) b q
    · rcases List.mem_cons.mp q with q | q
      · rw [q]; omega
      · rcases List.mem_cons.mp q with q | q
        · rw [q]; omega
        · have := h2.2.2.2 b q; unfold okc at this; omega
theorem c_37o {d : Nat} {P : Int → qM → Prop} {M0 : qM} {nr nn : Int} {NR : Int → Int} {NL : Int → List Int} {c s : Nat} (hr : nr ≤ 12) (hl : q_lay M0) (hN : C_N nn NR NL M0) (g : G_N nr nn NR NL) (K : ∀ M', fr (fun a j => (a = 64 ∧ j = 1) ∨ a = 65) M0 M' → C_P (img nn NR NL) M' → P 0 M') : ∀ (k i : Nat) (M : qM), (i : Int) + k = nn → fr (fun a j => (a = 64 ∧ j = 1) ∨ a = 65) M0 M → C_P (nn :: imgN NR NL i) M → q_At q_m37 (q_WP q_Pr (d + 1)) P 15 [(0, .inr (.inr 64)), (1, .inr (.inr 21)), (2, .inl (i : Int))] [] M c s := by
  have gn := g.1
  intro k
  induction k with
  | zero =>
    intro i M h1 h2 h3
    have hN' : C_N nn NR NL M := C_N_fr gn.2 hN (fun a j p q => h2.2 a j (by dsimp only; omega))
    refine t_37_15 (fr_lay h2 hl) ?_
    rw [hN'.1]
    refine ⟨fun _ => ?_, fun z => absurd z (by omega)⟩
    have e : i = nn.toNat := by omega
    subst e
    have hlen := imgN_len g nn.toNat (by omega)
    refine c_37c (pc := img0 nn NR NL) (fr_lay h2 hl) h3 (fun b hb => ?_) (by unfold img0; rw [List.length_cons]; omega) (fun M' f1 c1 => K M' (fr_trans h2 f1) c1) (img0 nn NR NL).length 0 (Int.le_refl 0) (by omega)
    rcases List.mem_cons.mp hb with q | q
    · omega
    · exact imgN_b hr g nn.toNat (by omega) b q
  | succ k ih =>
    intro i M h1 h2 h3
    have hN' : C_N nn NR NL M := C_N_fr gn.2 hN (fun a j p q => h2.2 a j (by dsimp only; omega))
    have l := fr_lay h2 hl
    have o := hN'.2 i (by omega) (by omega)
    have o2 := g.2 i (by omega) (by omega)
    have o3 := o2.2.2.1
    have hlen := imgN_len g i (by omega)
    refine t_37_15 l ?_
    rw [hN'.1, (isSpN l (i := (i : Int)) (by omega) (by omega)).1, o.1]
    refine ⟨fun z => absurd z (by omega), fun _ => ⟨by omega, by omega, ?_⟩⟩
    refine c_38 l h3 (by rw [List.length_cons]; omega) (by omega) (fun M1 f1 c1 => ⟨fr_lay f1 l, (isSp_fr (isSpN l (i := (i : Int)) (by omega) (by omega)).2 f1).1, ?_⟩)
    rw [f1.2 (24 + 2 * (i : Int)) 1 (by dsimp only; omega), o.2.1]
    refine c_38 (fr_lay f1 l) c1 (by rw [List.length_append, List.length_cons, List.length_cons, List.length_nil]; omega) (by omega) (fun M2 f2 c2 => ⟨fr_lay f2 (fr_lay f1 l), ?_⟩)
    have f12 := fr_trans f1 f2
    refine c_37i (i := (i : Int)) (l := NL i) (pre := nn :: imgN NR NL i ++ [NR i] ++ [((NL i).length : Int)]) (fr_lay f12 l) (isSp_fr (isSpN l (i := (i : Int)) (by omega) (by omega)).2 f12) (by omega) (C_Sp_fr o.2 (f12.2 _ _ (by dsimp only; omega)) (fun j => f12.2 _ _ (by dsimp only; omega))) o2.2.2 (by simp only [List.length_append, List.length_cons, List.length_nil]; omega) (fun M3 f3 c3 => ?_) (NL i).length 0 M2 (Int.le_refl 0) (by omega) fr_rfl (by rw [slice_zero, List.append_nil]; exact c2)
    rw [w32_id (x := (i : Int) + 1) (by omega) (by omega)]
    have z := ih (i + 1) M3 (by omega) (fr_trans h2 (fr_trans f12 f3)) (by
      have e : nn :: imgN NR NL (i + 1) = nn :: imgN NR NL i ++ [NR i] ++ [((NL i).length : Int)] ++ NL i := by
        show nn :: (imgN NR NL i ++ (NR i :: ((NL i).length : Int) :: NL i)) = _
        simp
      rw [e]; exact c3)
    exact z
theorem c_131 {d : Nat} {P : Int → qM → Prop} {M : qM} {nr nn : Int} {NR : Int → Int} {NL : Int → List Int} (hr : nr ≤ 12) (hl : q_lay M) (hN : C_N nn NR NL M) (g : G_N nr nn NR NL) (K : ∀ M', fr (fun a j => (a = 64 ∧ j = 1) ∨ a = 65) M M' → C_P (img nn NR NL) M' → P (img nn NR NL).length M') : q_WP q_Pr (d + 3) 131 [.inr (.inr 0)] M P := by
  have gn := g.1
  refine q_enter (t_131_0 hl ?_)
  refine q_enter (t_37_0 hl (fun M1 e1 l1 => ?_))
  have f1 : fr (fun a j => (a = 64 ∧ j = 1) ∨ a = 65) M M1 := fr_wn e1 (Or.inl ⟨rfl, rfl⟩)
  rw [(wn_ne e1 (by omega)).trans hN.1]
  refine c_38 (pc := []) l1 ⟨wn_eq e1, fun i hi => absurd hi (Nat.not_lt_zero i)⟩ (by decide) (by omega) (fun M2 f2 c2 => ⟨fr_lay f2 l1, ?_⟩)
  have f12 := fr_trans f1 f2
  refine c_37o (nr := nr) hr (fr_lay f2 l1) (C_N_fr gn.2 hN (fun a j p q => f12.2 a j (by dsimp only; omega))) g (fun M3 f3 c3 => ⟨fr_lay (fr_trans f12 f3) hl, ?_⟩) nn.toNat 0 M2 (by omega) fr_rfl c2
  rw [c3.1]
  exact K M3 (fr_trans f12 f3) c3
end
