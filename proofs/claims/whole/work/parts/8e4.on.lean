section
/-! AN IMAGE ON THE TAPE -/
def npos (tp : List Int) : Nat → Int
  | 0 => 1
  | k + 1 => npos tp k + 2 + tb tp (npos tp k + 1)
def okNote (nr : Int) (tp : List Int) (p : Int) : Prop := (tb tp p ≠ -1 ∧ tb tp p < nr) ∧ okR tp (p + 2) (tb tp (p + 1))
def sound (nr : Int) (tp : List Int) : Prop := (tb tp 0 ≠ -1 ∧ tb tp 0 ≤ 20) ∧ (∀ k : Nat, (k : Int) < tb tp 0 → okNote nr tp (npos tp k)) ∧ npos tp (tb tp 0).toNat + 1 = tp.length ∧ tb tp (npos tp (tb tp 0).toNat) = chk (slice tp 0 (npos tp (tb tp 0).toNat))
def sNR (tp : List Int) (i : Int) : Int := tb tp (npos tp i.toNat)
def sNL (tp : List Int) (i : Int) : List Int := slice tp (npos tp i.toNat + 2) (tb tp (npos tp i.toNat + 1))
theorem tb_m1 {tp : List Int} (g : G_T tp) (k : Int) : tb tp k ≠ -1 ↔ (0 ≤ k ∧ k < tp.length) := by
  constructor
  · intro h
    exact Classical.byContradiction fun z => h (tb_out z)
  · intro h e
    have := tb_rng g h.1 h.2
    omega
theorem tb_all {tp : List Int} (g : G_T tp) (k : Int) : -1 ≤ tb tp k ∧ tb tp k ≤ 255 := by
  by_cases h : 0 ≤ k ∧ k < tp.length
  · have := tb_rng g h.1 h.2; omega
  · rw [tb_out h]; omega
theorem okNote_end {nr : Int} {tp : List Int} {p : Int} (h : okNote nr tp p) : (1 ≤ tb tp (p + 1) ∧ tb tp (p + 1) ≤ 100) ∧ p + 2 + tb tp (p + 1) ≤ tp.length := by
  have h1 := h.2.1
  have := okc_in (h.2.2 (p + 2 + tb tp (p + 1) - 1) (by omega) (by omega))
  omega
theorem npos_le {nr : Int} {tp : List Int} (h0 : 1 ≤ tp.length) : ∀ i : Nat, (∀ j : Nat, j < i → okNote nr tp (npos tp j)) → 1 ≤ npos tp i ∧ npos tp i ≤ tp.length := by
  intro i
  induction i with
  | zero => intro _; show (1 : Int) ≤ 1 ∧ (1 : Int) ≤ _; omega
  | succ i ih =>
    intro h
    have h1 := ih (fun j hj => h j (by omega))
    have h2 := okNote_end (h i (by omega))
    show 1 ≤ npos tp i + 2 + tb tp (npos tp i + 1) ∧ npos tp i + 2 + tb tp (npos tp i + 1) ≤ _
    omega
theorem npos_up {nr : Int} {tp : List Int} (n : Nat) (h : ∀ j : Nat, j < n → okNote nr tp (npos tp j)) : ∀ (k i : Nat), i + k = n → npos tp i ≤ npos tp n := by
  intro k
  induction k with
  | zero => intro i e; rw [show i = n by omega]; exact Int.le_refl _
  | succ k ih =>
    intro i e
    have h1 := ih (i + 1) (by omega)
    have h2 := okNote_end (h i (by omega))
    have e2 : npos tp (i + 1) = npos tp i + 2 + tb tp (npos tp i + 1) := rfl
    omega
theorem slice_mem {tp : List Int} {f n b : Int} (hf : 0 ≤ f) (hb : b ∈ slice tp f n) : ∃ i, f ≤ i ∧ i < f + n ∧ i < tp.length ∧ tb tp i = b := by
  rcases List.getElem_of_mem hb with ⟨x, hx, e⟩
  have h2 : x < n.toNat ∧ x < tp.length - f.toNat := by unfold slice at hx; rw [List.length_take, List.length_drop] at hx; omega
  refine ⟨f + x, by omega, by omega, by omega, ?_⟩
  rw [tb_in (by omega) (by omega), show (f + (x : Int)).toNat = f.toNat + x by omega, getD_el (by omega), ← e]
  simp only [slice, List.getElem_take, List.getElem_drop]
theorem sound_N {nr : Int} {tp : List Int} (g : G_T tp) (h : sound nr tp) : G_N nr (tb tp 0) (sNR tp) (sNL tp) := by
  have h0 := (tb_m1 g 0).mp h.1.1
  have hr := tb_rng g h0.1 h0.2
  refine ⟨⟨hr.1, h.1.2⟩, fun i p q => ?_⟩
  have hk := h.2.1 i.toNat (by omega)
  have he := okNote_end hk
  have hp := npos_le (nr := nr) (tp := tp) (by omega) i.toNat (fun j hj => h.2.1 j (by omega))
  have hin := (tb_m1 g _).mp hk.1.1
  have hr2 := tb_rng g hin.1 hin.2
  have hlen := slice_len (tp := tp) (f := npos tp i.toNat + 2) (n := tb tp (npos tp i.toNat + 1)) (by omega) (by omega) (by omega)
  refine ⟨⟨hr2.1, hk.1.2⟩, ?_, ?_, fun b hb => ?_⟩
  · show 1 ≤ (slice tp _ _).length; omega
  · show (slice tp _ _).length ≤ 100; omega
  · have ⟨x, h1, h2, h3, h4⟩ := slice_mem (by omega) hb
    rw [← h4]; exact hk.2.2 x h1 h2
theorem c_39c {d : Nat} {P : Int → qM → Prop} {M : qM} {tp : List Int} {p : Int} {c s : Nat} (hl : q_lay M) (hT : C_T tp M) (g : G_T tp) (hp : 0 ≤ p ∧ p ≤ tp.length) (K1 : p + 1 = tp.length ∧ tb tp p = chk (slice tp 0 p) → P 1 M) (K0 : ¬ (p + 1 = tp.length ∧ tb tp p = chk (slice tp 0 p)) → P 0 M) : ∀ (k : Nat) (y : Int), 0 ≤ y → y + k = p → q_At q_m39 (q_WP q_Pr (d + 1)) P 92 [(0, .inr (.inr 1)), (3, .inl p), (4, .inl (chk (slice tp 0 y))), (5, .inl y)] [] M c s := by
  have g1 := g.1
  intro k
  induction k with
  | zero =>
    intro y h0 h1
    refine t_39_92 hl ?_
    rw [hT.1, C_T_B hT p, w32_id (x := p + 1) (by omega) (by omega), show y = p by omega]
    exact ⟨fun _ => ⟨fun z => K0 (fun q => z q.1), fun z => ⟨by omega, fun w => K0 (fun q => w q.2), fun w => K1 ⟨z, w⟩⟩⟩, fun z => absurd z (by omega)⟩
  | succ k ih =>
    intro y h0 h1
    refine t_39_92 hl ?_
    have c1 := chk_rng (slice tp 0 y)
    have c2 := tb_rng g h0 (show y < tp.length by omega)
    rw [hT.1, C_T_B hT y, w32_id (x := y + 1) (by omega) (by omega), w32_id (x := 3 * chk (slice tp 0 y)) (by omega) (by omega), w32_id (x := 3 * chk (slice tp 0 y) + tb tp y) (by omega) (by omega), Int.tmod_eq_emod_of_nonneg (by omega), ← chk_snoc, ← slice0_succ h0 (by omega)]
    exact ⟨fun z => absurd z (by omega), fun _ => ⟨by omega, ih (y + 1) (by omega) (by omega)⟩⟩
theorem c_39l {d : Nat} {P : Int → qM → Prop} {M : qM} {tp : List Int} {nr : Int} {c s : Nat} (hl : q_lay M) (hT : C_T tp M) (g : G_T tp) (hr : 0 ≤ nr ∧ nr ≤ 12) (h0 : tb tp 0 ≠ -1 ∧ tb tp 0 ≤ 20) (K1 : sound nr tp → P 1 M) (K0 : ¬ sound nr tp → P 0 M) : ∀ (k i : Nat), (i : Int) + k = tb tp 0 → (∀ j : Nat, j < i → okNote nr tp (npos tp j)) → q_At q_m39 (q_WP q_Pr (d + 3)) P 24 [(0, .inr (.inr 1)), (1, .inl nr), (2, .inl (tb tp 0)), (3, .inl (npos tp i)), (4, .inl (i : Int))] [] M c s := by
  have g1 := g.1
  have hin := (tb_m1 g 0).mp h0.1
  intro k
  induction k with
  | zero =>
    intro i e h
    have hp := npos_le (by omega) i h
    have ei : (tb tp 0).toNat = i := by omega
    refine t_39_24 (d := d + 2) hl ⟨fun _ => ?_, fun z => absurd z (by omega)⟩
    have q := c_39c (d := d + 2) (P := P) (c := c) (s := s) (p := npos tp i) hl hT g (by omega) (fun z => K1 ⟨h0, fun j hj => h j (by omega), by rw [ei]; exact z.1, by rw [ei]; exact z.2⟩) (fun z => K0 (fun w => z (by have := w.2.2; rw [ei] at this; exact this))) (npos tp i).toNat 0 (Int.le_refl 0) (by omega)
    rw [slice_zero, chk_nil] at q
    exact q
  | succ k ih =>
    intro i e h
    have hp := npos_le (by omega) i h
    refine t_39_24 (d := d + 2) hl ?_
    have c1 := tb_all g (npos tp i + 1)
    rw [C_T_B hT, w32_id (x := npos tp i + 1) (by omega) (by omega), C_T_B hT, w32_id (x := npos tp i + 2) (by omega) (by omega), w32_id (x := 2 + tb tp (npos tp i + 1)) (by omega) (by omega), w32_id (x := npos tp i + (2 + tb tp (npos tp i + 1))) (by omega) (by omega), w32_id (x := (i : Int) + 1) (by omega) (by omega), show npos tp i + (2 + tb tp (npos tp i + 1)) = npos tp (i + 1) by show _ = npos tp i + 2 + tb tp (npos tp i + 1); omega]
    have bad : ¬ okNote nr tp (npos tp i) → P 0 M := fun z => K0 (fun w => z (w.2.1 i (by omega)))
    refine ⟨fun z => absurd z (by omega), fun _ => ⟨by rw [hT.1]; omega, by rw [hT.1]; omega, fun z => bad (fun w => w.1.1 z), fun z => ⟨fun y => bad (fun w => by have := w.1.2; omega), fun y => ?_⟩⟩⟩
    refine c_61 hl hT g (by omega) (fun q => ⟨hl, fun _ => ?_, fun x => absurd x (by decide)⟩) (fun q => ⟨hl, fun x => absurd rfl x, fun _ => bad (fun w => q w.2)⟩)
    exact ih (i + 1) (by omega) (fun j hj => by
      by_cases e : j = i
      · rw [e]; exact ⟨⟨z, y⟩, q⟩
      · exact h j (by omega))
theorem c_39 {d : Nat} {P : Int → qM → Prop} {M : qM} {tp : List Int} {nr : Int} (hl : q_lay M) (hT : C_T tp M) (g : G_T tp) (hr : 0 ≤ nr ∧ nr ≤ 12) (K1 : sound nr tp → P 1 M) (K0 : ¬ sound nr tp → P 0 M) : q_WP q_Pr (d + 4) 39 [.inr (.inr 1), .inl nr] M P := by
  refine q_enter (t_39_0 (d := d + 2) hl ?_)
  have a := tb_all g 0
  rw [C_T_B hT, hT.1]
  refine ⟨by have := g.1; omega, fun z => K0 (fun w => w.1.1 z), fun z => ⟨fun y => ?_, fun y => K0 (fun w => by have := w.1.2; omega)⟩⟩
  exact c_39l hl hT g hr ⟨z, y⟩ K1 K0 (tb tp 0).toNat 0 (by omega) (fun j hj => absurd hj (Nat.not_lt_zero j))
end
