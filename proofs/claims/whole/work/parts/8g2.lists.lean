section
theorem isNum_W {nw : Int} {WL : Int → List Int} {l : List Int} {v : Int} (h : isNum nw WL l v) : (¬ v = -1 ↔ isW nw WL l) := by
  rcases h with ⟨h1, h2⟩ | ⟨h1, h2⟩
  · exact ⟨fun _ => ⟨v, h1, h2⟩, fun _ => by omega⟩
  · exact ⟨fun z => absurd h1 z, fun ⟨w, a, b⟩ => absurd b (h2 w a.1 a.2)⟩
theorem rl_iff {a b : Prop} {v : Int} (h : rl a v) (e : a ↔ b) : rl b v := by
  rcases h with ⟨h1, h2⟩ | ⟨h1, h2⟩
  · exact Or.inl ⟨h1, e.mp h2⟩
  · exact Or.inr ⟨h1, fun z => h2 (e.mpr z)⟩
def ZT (i : Int) : Int → Int → Prop := fun a j => (a = 66 ∧ j = 65) ∨ a = 116 ∨ (a = 111 ∧ 104 * i ≤ j ∧ j < 104 * i + 104) ∨ ((a = 114 ∨ a = 115) ∧ j = i)
theorem r_198p {d : Nat} {P : Int → qM → Prop} {M0 : qM} {i x1 x2 x3 x4 a : Int} {pre l : List Int} {c s : Nat} (hl : q_lay M0) (hi : 0 ≤ i ∧ i < 640) (hP : R_pc l M0) (h16 : l.length ≤ 16) (hn : pre.length + l.length ≤ 104) (hL : q_L M0 111 (104 * i) pre) (K : ∀ M', fr (fun b j => b = 111 ∧ 104 * i ≤ j ∧ j < 104 * i + 104) M0 M' → q_L M' 111 (104 * i) (pre ++ l) → q_At q_m198 (q_WP q_Pr d) P 86 [(0, .inr (.inr 66)), (1, .inl x1), (2, .inl x2), (3, .inl x3), (4, .inl x4), (5, .inl i), (6, .inl ((pre.length : Int) + l.length)), (7, .inl (w32 (a + 1)))] [] M' c s) : ∀ (k : Nat) (y : Int) (M : qM), 0 ≤ y → y + k = l.length → fr (fun b j => b = 111 ∧ 104 * i ≤ j ∧ j < 104 * i + 104) M0 M → q_L M 111 (104 * i) (pre ++ slice l 0 y) → q_At q_m198 (q_WP q_Pr d) P 211 [(0, .inr (.inr 66)), (1, .inl x1), (2, .inl x2), (3, .inl x3), (4, .inl x4), (5, .inl i), (6, .inl (pre.length : Int)), (7, .inl a), (8, .inl y)] [] M c s := by
  intro k
  induction k with
  | zero =>
    intro y M h0 h1 h2 h3
    refine t_198_211 (fr_lay h2 hl) ?_
    rw [h2.2 66 65 (by dsimp only; omega), hP.1, w32_id (x := (pre.length : Int) + l.length) (by omega) (by omega)]
    rw [show y = (l.length : Int) by omega, slice_all] at h3
    exact ⟨fun _ => K M h2 h3, fun z => absurd z (by omega)⟩
  | succ k ih =>
    intro y M h0 h1 h2 h3
    have hl3 := slice_len (tp := l) (f := 0) (n := y) (Int.le_refl 0) h0 (by omega)
    have e : q_nm M 116 y = tb l y := by rw [h2.2 116 y (by dsimp only; omega), tb_in h0 (by omega)]; exact q_L_get0 hP.2 h0 (by omega)
    refine t_198_211 (fr_lay h2 hl) ?_
    rw [h2.2 66 65 (by dsimp only; omega), hP.1, e, w32_id (x := 104 * i) (by omega) (by omega), w32_id (x := 104 * i + (pre.length : Int)) (by omega) (by omega), w32_id (x := 104 * i + (pre.length : Int) + y) (by omega) (by omega), w32_id (x := y + 1) (by omega) (by omega)]
    refine ⟨fun z => absurd z (by omega), fun _ => ⟨by omega, by omega, fun M1 e1 l1 => ih (y + 1) M1 (by omega) (by omega) (fr_trans h2 (fr_wn e1 ⟨rfl, by omega, by omega⟩)) ?_⟩⟩
    rw [slice0_succ h0 (by omega), ← List.append_assoc]
    refine q_L_snoc h3 (fun j _ z => wn_ne e1 ?_) ?_
    · rw [List.length_append] at z; omega
    · rw [List.length_append, show 104 * i + ((pre.length + (slice l 0 y).length : Nat) : Int) = 104 * i + (pre.length : Int) + y by omega]; exact wn_eq e1
theorem r_198w {d : Nat} {P : Int → qM → Prop} {M : qM} {i x1 x2 x3 x4 x6 x7 v : Int} {b : Prop} {c s : Nat} (hl : q_lay M) (hi : 0 ≤ i ∧ i < 640) (hv : rl b v) (K : ∀ M', fr (fun a j => a = 115 ∧ j = i) M M' → rl b (q_nm M' 115 i) → q_At q_m198 (q_WP q_Pr d) P 208 [(0, .inr (.inr 66)), (1, .inl x1), (2, .inl x2), (3, .inl x3), (4, .inl x4), (5, .inl i), (6, .inl x6), (7, .inl x7)] [] M' c s) : q_At q_m198 (q_WP q_Pr d) P 207 [(0, .inr (.inr 66)), (1, .inl x1), (2, .inl x2), (3, .inl x3), (4, .inl x4), (5, .inl i), (6, .inl x6), (7, .inl x7)] [.inl v, .inl i, .inr (.inr 115)] M c s := by
  refine t_198_207 hl ?_
  rw [lk115 hl, ll115 hl, q_bs16]
  refine ⟨⟨Or.inr rfl, hi⟩, fun M1 e1 l1 => K M1 (fr_wn e1 ⟨rfl, rfl⟩) ?_⟩
  rw [wn_eq e1]
  rcases hv with ⟨h1, h2⟩ | ⟨h1, h2⟩
  · exact Or.inl ⟨by rw [h1]; rfl, h2⟩
  · exact Or.inr ⟨by rw [h1]; rfl, h2⟩
theorem r_198r {d : Nat} {P : Int → qM → Prop} {M : qM} {nw i x1 x2 x3 x4 x6 x7 : Int} {WL : Int → List Int} {WS WE WO : Int → Int} {l : List Int} {b : Prop} {c s : Nat} (hl : q_lay M) (hW : R_W nw WL WS WE WO M) (gW : G_W nw WL WS WE WO) (hi : 0 ≤ i ∧ i < 640) (hP : R_pc l M) (hb : rl b (q_nm M 115 i)) (K : ∀ M', fr (fun a j => a = 115 ∧ j = i) M M' → rl (b ∧ isW nw WL l) (q_nm M' 115 i) → q_At q_m198 (q_WP q_Pr (d + 2)) P 208 [(0, .inr (.inr 66)), (1, .inl x1), (2, .inl x2), (3, .inl x3), (4, .inl x4), (5, .inl i), (6, .inl x6), (7, .inl x7)] [] M' c s) : q_At q_m198 (q_WP q_Pr (d + 2)) P 178 [(0, .inr (.inr 66)), (1, .inl x1), (2, .inl x2), (3, .inl x3), (4, .inl x4), (5, .inl i), (6, .inl x6), (7, .inl x7)] [] M c s := by
  refine t_198_178 hl ⟨hi, fun z => r_198w (b := b ∧ isW nw WL l) hl hi (Or.inr ⟨rfl, fun q => ?_⟩) K, fun z => r_194 hl hW gW hP (fun v hv => ⟨hl, fun y => r_198w (b := b ∧ isW nw WL l) hl hi (Or.inr ⟨rfl, fun q => (isNum_W hv).mpr q.2 y⟩) K, fun y => r_198w (b := b ∧ isW nw WL l) hl hi (Or.inl ⟨rfl, ?_, (isNum_W hv).mp y⟩) K⟩)⟩
  · rcases hb with ⟨h1, h2⟩ | ⟨h1, h2⟩
    · omega
    · exact h2 q.1
  · rcases hb with ⟨h1, h2⟩ | ⟨h1, h2⟩
    · exact h2
    · omega
theorem r_198q {d : Nat} {P : Int → qM → Prop} {M : qM} {nw i k p o r x6 a : Int} {WL : Int → List Int} {WS WE WO : Int → Int} {l : List Int} {b : Prop} {c s : Nat} (hl : q_lay M) (hW : R_W nw WL WS WE WO M) (gW : G_W nw WL WS WE WO) (hi : 0 ≤ i ∧ i < 640) (hP : R_pc l M) (hb : rl b (q_nm M 115 i)) (K : ∀ M', fr (fun a j => a = 115 ∧ j = i) M M' → rl (b ∧ (a = p ∨ (a = o ∧ (k = 3 ∨ k = 4)) → isW nw WL l)) (q_nm M' 115 i) → q_At q_m198 (q_WP q_Pr (d + 2)) P 208 [(0, .inr (.inr 66)), (1, .inl k), (2, .inl p), (3, .inl o), (4, .inl r), (5, .inl i), (6, .inl x6), (7, .inl a)] [] M' c s) : q_At q_m198 (q_WP q_Pr (d + 2)) P 156 [(0, .inr (.inr 66)), (1, .inl k), (2, .inl p), (3, .inl o), (4, .inl r), (5, .inl i), (6, .inl x6), (7, .inl a)] [] M c s := by
  have yes : (a = p ∨ (a = o ∧ (k = 3 ∨ k = 4))) → q_At q_m198 (q_WP q_Pr (d + 2)) P 178 [(0, .inr (.inr 66)), (1, .inl k), (2, .inl p), (3, .inl o), (4, .inl r), (5, .inl i), (6, .inl x6), (7, .inl a)] [] M c s := fun h => r_198r hl hW gW hi hP hb (fun M' f1 c1 => K M' f1 (rl_iff c1 ⟨fun q => ⟨q.1, fun _ => q.2⟩, fun q => ⟨q.1, q.2 h⟩⟩))
  have no : ¬ (a = p ∨ (a = o ∧ (k = 3 ∨ k = 4))) → q_At q_m198 (q_WP q_Pr (d + 2)) P 208 [(0, .inr (.inr 66)), (1, .inl k), (2, .inl p), (3, .inl o), (4, .inl r), (5, .inl i), (6, .inl x6), (7, .inl a)] [] M c s := fun h => K M fr_rfl (rl_iff hb ⟨fun q => ⟨q, fun z => absurd z h⟩, fun q => q.1⟩)
  exact t_198_156 hl ⟨fun z => yes (Or.inl z), fun z => ⟨fun y => no (by omega), fun y => ⟨fun x => yes (by omega), fun x => ⟨fun u => no (by omega), fun u => yes (by omega)⟩⟩⟩⟩
def rpart (nw : Int) (WL : Int → List Int) (ln : List Int) (t : qT) (a : Int) : Prop := (0 ≤ t.2.1 → t.2.1 < a → isW nw WL (pie WL ln t t.2.1)) ∧ (t.1 = 3 ∨ t.1 = 4 → t.2.2 < a → isW nw WL (pie WL ln t t.2.2))
theorem rpart_succ {nw : Int} {WL : Int → List Int} {ln : List Int} {k p o a : Int} (ok : okT nw ln (k, p, o)) (ha : 0 ≤ a) : (rpart nw WL ln (k, p, o) a ∧ (a = p ∨ (a = o ∧ (k = 3 ∨ k = 4)) → isW nw WL (pie WL ln (k, p, o) a))) ↔ rpart nw WL ln (k, p, o) (a + 1) := by
  unfold rpart; dsimp only
  constructor
  · rintro ⟨⟨h1, h2⟩, h3⟩
    refine ⟨fun x y => ?_, fun x y => ?_⟩
    · by_cases e : p = a
      · have := h3 (Or.inl e.symm); rw [← e] at this; exact this
      · exact h1 x (by omega)
    · by_cases e : o = a
      · have := h3 (Or.inr ⟨e.symm, x⟩); rw [← e] at this; exact this
      · exact h2 x (by omega)
  · rintro ⟨h1, h2⟩
    refine ⟨⟨fun x y => h1 x (by omega), fun x y => h2 x (by omega)⟩, ?_⟩
    rintro (e | ⟨e, x⟩)
    · rw [e]; exact h1 (by omega) (by omega)
    · rw [e]; exact h2 x (by omega)
theorem rpart_all {nw : Int} {WL : Int → List Int} {ln : List Int} {t : qT} (ok : okT nw ln t) : rpart nw WL ln t ln.length ↔ realP nw WL ln t := by
  obtain ⟨k, p, o⟩ := t
  unfold okT at ok; dsimp only at ok
  unfold rpart realP; dsimp only
  constructor
  · rintro ⟨h1, h2⟩ hk; exact ⟨h1 (by omega) (by omega), fun x => h2 x (by omega)⟩
  · intro h; exact ⟨fun x y => (h (by omega)).1, fun x y => (h (by omega)).2 x⟩
def fpart (WL : Int → List Int) (ln : List Int) (t : qT) (a : Int) : Int := if 0 ≤ t.2.1 ∧ t.2.1 < a then farT WL ln t else 0
/-- one place of a taking's text -/
theorem r_198b {d : Nat} {P : Int → qM → Prop} {M : qM} {nw r i k p o : Int} {WL : Int → List Int} {WS WE WO : Int → Int} {ln pre : List Int} {a : Nat} {c s : Nat} (hl : q_lay M) (hW : R_W nw WL WS WE WO M) (gW : G_W nw WL WS WE WO) (hr : R_row M r ln) (g : G_L nw ln) (hi : 0 ≤ i ∧ i < 640) (hat : R_at M i (k, p, o)) (ok : okT nw ln (k, p, o)) (ha : a < ln.length) (hL : q_L M 111 (104 * i) pre) (hn : pre.length ≤ 80) (hf : q_nm M 114 i = fpart WL ln (k, p, o) a) (hb : rl (rpart nw WL ln (k, p, o) a) (q_nm M 115 i))
    (K : ∀ M', fr (ZT i) M M' → q_L M' 111 (104 * i) (pre ++ pie WL ln (k, p, o) a) → q_nm M' 114 i = fpart WL ln (k, p, o) ((a : Int) + 1) → rl (rpart nw WL ln (k, p, o) ((a : Int) + 1)) (q_nm M' 115 i) → q_At q_m198 (q_WP q_Pr (d + 3)) P 86 [(0, .inr (.inr 66)), (1, .inl k), (2, .inl p), (3, .inl o), (4, .inl r), (5, .inl i), (6, .inl ((pre.length : Int) + (pie WL ln (k, p, o) a).length)), (7, .inl (w32 ((a : Int) + 1)))] [] M' c s) :
    q_WP q_Pr (d + 3) 196 [.inr (.inr 66), .inl i, .inl r, .inl (a : Int)] M (fun _ M4 => q_lay M4 ∧ ((¬ (a : Int) = p → (q_At q_m198 (q_WP q_Pr (d + 3)) P 156 [(0, .inr (.inr 66)), (1, .inl k), (2, .inl p), (3, .inl o), (4, .inl r), (5, .inl i), (6, .inl (pre.length : Int)), (7, .inl (a : Int))] [] M4 c s)) ∧ ((a : Int) = p → (((0 ≤ r ∧ r < 12) ∧ 0 ≤ (a : Int) ∧ (a : Int) < 6) ∧ q_WP q_Pr (d + 3) 197 [.inr (.inr 66), .inl (q_nm M4 99 (6 * r + (a : Int)))] M4 (fun v7 M8 => q_lay M8 ∧ ((0 ≤ i ∧ i < 640) ∧ (∀ M9 : qM, M9 = q_wn M8 114 i v7 → q_lay M9 → (q_At q_m198 (q_WP q_Pr (d + 3)) P 156 [(0, .inr (.inr 66)), (1, .inl k), (2, .inl p), (3, .inl o), (4, .inl r), (5, .inl i), (6, .inl (pre.length : Int)), (7, .inl (a : Int))] [] M9 c s))))))))  := by
  have g6 := g.1
  have pl := (pie_len gW g ok (a := (a : Int)) (by omega) (by omega)).1
  have la := li_rng g (a := (a : Int)) (by omega) (by omega)
  refine r_196 hl hW gW hr g hi hat ok (by omega) (fun M1 f1 c1 => ⟨fr_lay f1 hl, ?_⟩)
  have l1 := fr_lay f1 hl
  have hW1 : R_W nw WL WS WE WO M1 := R_W_fr hW (f1.2 _ _ (by dsimp only; omega)) (fun a j _ _ => f1.2 a j (by dsimp only; omega))
  -- behind the far
  have go : ∀ M2 : qM, q_lay M2 → fr (fun a j => a = 114 ∧ j = i) M1 M2 → q_nm M2 114 i = fpart WL ln (k, p, o) ((a : Int) + 1) → q_At q_m198 (q_WP q_Pr (d + 3)) P 156 [(0, .inr (.inr 66)), (1, .inl k), (2, .inl p), (3, .inl o), (4, .inl r), (5, .inl i), (6, .inl (pre.length : Int)), (7, .inl (a : Int))] [] M2 c s := fun M2 l2 f2 h114 => by
    have hW2 : R_W nw WL WS WE WO M2 := R_W_fr hW1 (f2.2 _ _ (by dsimp only; omega)) (fun a j _ _ => f2.2 a j (by dsimp only; omega))
    have hP2 : R_pc (pie WL ln (k, p, o) a) M2 := ⟨(f2.2 66 65 (by dsimp only; omega)).trans c1.1, q_L_fr c1.2 (fun j _ _ => f2.2 116 j (by dsimp only; omega))⟩
    have hb2 : rl (rpart nw WL ln (k, p, o) a) (q_nm M2 115 i) := by rw [f2.2 115 i (by dsimp only; omega), f1.2 115 i (by dsimp only; omega)]; exact hb
    refine r_198q (d := d + 1) l2 hW2 gW hi hP2 hb2 (fun M3 f3 c3 => t_198_208 (fr_lay f3 l2) ?_)
    have hP3 : R_pc (pie WL ln (k, p, o) a) M3 := ⟨(f3.2 66 65 (by dsimp only; omega)).trans hP2.1, q_L_fr hP2.2 (fun j _ _ => f3.2 116 j (by dsimp only; omega))⟩
    have hL3 : q_L M3 111 (104 * i) pre := q_L_fr hL (fun j _ _ => by rw [f3.2 111 j (by dsimp only; omega), f2.2 111 j (by dsimp only; omega), f1.2 111 j (by dsimp only; omega)])
    refine r_198p (fr_lay f3 l2) hi hP3 pl (by omega) hL3 (fun M4 f4 c4 => K M4 ?_ c4 ?_ ?_) (pie WL ln (k, p, o) a).length 0 M3 (Int.le_refl 0) (by omega) fr_rfl (by rw [slice_zero, List.append_nil]; exact hL3)
    · refine fr_trans (fr_mono f1 (fun a j z => ?_)) (fr_trans (fr_mono f2 (fun a j z => ?_)) (fr_trans (fr_mono f3 (fun a j z => ?_)) (fr_mono f4 (fun a j z => ?_)))) <;> unfold ZT <;> omega
    · rw [f4.2 114 i (by dsimp only; omega), f3.2 114 i (by dsimp only; omega)]; exact h114
    · rw [f4.2 115 i (by dsimp only; omega)]; exact rl_iff c3 (rpart_succ ok (by omega))
  refine ⟨fun z => go M1 l1 fr_rfl ?_, fun z => ⟨⟨hr.1, by omega⟩, ?_⟩⟩
  · rw [f1.2 114 i (by dsimp only; omega), hf]
    unfold fpart; dsimp only
    by_cases e : 0 ≤ p ∧ p < a
    · rw [if_pos e, if_pos (by omega)]
    · rw [if_neg e, if_neg (by omega)]
  · have hr1 : R_row M1 r ln := R_row_fr hr (fun a j _ _ => f1.2 a j (by dsimp only; omega))
    rw [R_row_get hr1 (by omega) (by omega)]
    refine r_197 (WL := WL) l1 (R_W_ok hW1 gW la.1 la.2) c1 pl ⟨l1, hi, fun M9 e9 l9 => go M9 l9 (fr_wn e9 ⟨rfl, rfl⟩) ?_⟩
    rw [wn_eq e9]
    unfold fpart farT; dsimp only
    unfold okT at ok; dsimp only at ok
    rw [if_pos (by omega), if_neg (by omega), z]
end
