section
/-! WHAT THE REFERENCE'S WORDS ANSWER -/
def R_ok (M : qM) (WL : Int → List Int) (w : Int) : Prop := (0 ≤ w ∧ w < 30) ∧ R_W1 M w (WL w) ∧ okw (WL w)
def R_pc (l : List Int) (M : qM) : Prop := q_nm M 66 65 = l.length ∧ q_L M 116 0 l
theorem R_W_ok {nw : Int} {WL : Int → List Int} {WS WE WO : Int → Int} {M : qM} (h : R_W nw WL WS WE WO M) (g : G_W nw WL WS WE WO) {w : Int} (h0 : 0 ≤ w) (h1 : w < nw) : R_ok M WL w :=
  ⟨⟨h0, by have := g.1; omega⟩, (h.2 w h0 h1).1, (g.2.1 w h0 h1).1⟩
theorem R_ok_fr {M M' : qM} {WL : Int → List Int} {w : Int} (h : R_ok M WL w) (k : ∀ a j, 92 ≤ a → a ≤ 97 → q_nm M' a j = q_nm M a j) : R_ok M' WL w :=
  ⟨h.1, ⟨q_L_fr h.2.1.1 (fun j _ _ => k 92 j (by omega) (by omega)), (k 93 _ (by omega) (by omega)).trans h.2.1.2.1, (k 94 _ (by omega) (by omega)).trans h.2.1.2.2⟩, h.2.2⟩
theorem ons_ext {l m : List Int} (h : onsN l = onsN m) (k : ∀ i, i < onsN l → l.getD i 0 = m.getD i 0) : ons l = ons m :=
  list_ext (by rw [ons_len, ons_len]; exact h) (fun i hi => by rw [ons_len] at hi; rw [ons_get hi, ons_get (by omega)]; exact k i hi)
theorem r_189l {d : Nat} {P : Int → qM → Prop} {M : qM} {w v : Int} {WL : Int → List Int} {c s : Nat} (hl : q_lay M) (hw : R_ok M WL w) (hv : R_ok M WL v) (ho : onsN (WL w) = onsN (WL v)) (K1 : ons (WL w) = ons (WL v) → P 1 M) (K0 : ¬ ons (WL w) = ons (WL v) → P 0 M) : ∀ (k y : Nat), y + k = onsN (WL w) → (∀ i, i < y → (WL w).getD i 0 = (WL v).getD i 0) → q_At q_m189 (q_WP q_Pr d) P 19 [(0, .inr (.inr 66)), (1, .inl w), (2, .inl v), (3, .inl (y : Int))] [] M c s := by
  have w8' := hw.2.2.1
  have v8 := hv.2.2.1
  have w1 := hw.1
  have v1 := hv.1
  have ow := onsN_le (WL w)
  have ov := onsN_le (WL v)
  intro k
  induction k with
  | zero =>
    intro y e h
    refine t_189_19 hl ?_
    rw [hw.2.1.2.2]
    exact ⟨w1, fun _ => K1 (ons_ext ho (fun i hi => h i (by omega))), fun z => absurd z (by omega)⟩
  | succ k ih =>
    intro y e h
    refine t_189_19 hl ?_
    have e1 : q_nm M 92 (8 * w + (y : Int)) = (WL w).getD y 0 := hw.2.1.1 y (by omega)
    have e2 : q_nm M 92 (8 * v + (y : Int)) = (WL v).getD y 0 := hv.2.1.1 y (by omega)
    rw [hw.2.1.2.2, w32_id (x := 8 * w) (by omega) (by omega), w32_id (x := 8 * v) (by omega) (by omega), w32_id (x := 8 * w + (y : Int)) (by omega) (by omega), w32_id (x := 8 * v + (y : Int)) (by omega) (by omega), w32_id (x := (y : Int) + 1) (by omega) (by omega), e1, e2]
    refine ⟨w1, fun z => absurd z (by omega), fun _ => ⟨by omega, by omega, fun z => ih (y + 1) (by omega) (fun i hi => ?_), fun z => K0 (fun q => z ?_)⟩⟩
    · by_cases ei : i = y
      · rw [ei]; exact z
      · exact h i (by omega)
    · rw [← ons_get (l := WL w) (by omega), ← ons_get (l := WL v) (by omega), q]
theorem r_189 {d : Nat} {P : Int → qM → Prop} {M : qM} {w v : Int} {WL : Int → List Int} (hl : q_lay M) (hw : R_ok M WL w) (hv : R_ok M WL v) (K1 : ons (WL w) = ons (WL v) → P 1 M) (K0 : ¬ ons (WL w) = ons (WL v) → P 0 M) : q_WP q_Pr (d + 1) 189 [.inr (.inr 66), .inl w, .inl v] M P := by
  refine q_enter (t_189_0 hl ?_)
  rw [hw.2.1.2.2, hv.2.1.2.2]
  exact ⟨hw.1, hv.1, fun z => r_189l hl hw hv (by omega) K1 K0 (onsN (WL w)) 0 (by omega) (fun i hi => absurd hi (Nat.not_lt_zero i)), fun z => K0 (fun q => z (by rw [← ons_len (WL w), ← ons_len (WL v), q]))⟩
theorem r_192 {d : Nat} {P : Int → qM → Prop} {M : qM} {x : Int} {l : List Int} (hl : q_lay M) (hP : R_pc l M) (hn : l.length < 16) (K : ∀ M', fr (fun a j => (a = 66 ∧ j = 65) ∨ a = 116) M M' → R_pc (l ++ [x]) M' → P 0 M') : q_WP q_Pr (d + 1) 192 [.inr (.inr 66), .inl x] M P := by
  refine q_enter (t_192_0 hl ?_)
  rw [hP.1]
  refine ⟨by omega, fun M1 e1 l1 => ?_⟩
  rw [(wn_ne e1 (by omega)).trans hP.1, w32_id (x := (l.length : Int) + 1) (by omega) (by omega)]
  intro M2 e2 l2
  refine K M2 (fr_trans (fr_wn e1 (Or.inr rfl)) (fr_wn e2 (Or.inl ⟨rfl, rfl⟩))) ⟨?_, q_L_snoc hP.2 (fun j _ z => ?_) ?_⟩
  · rw [wn_eq e2, List.length_append]; simp
  · rw [wn_ne e2 (by omega), wn_ne e1 (by omega)]
  · rw [Int.zero_add, wn_ne e2 (by omega)]; exact wn_eq e1
theorem r_191l {d : Nat} {P : Int → qM → Prop} {M0 : qM} {w : Int} {WL : Int → List Int} {c s : Nat} (hl : q_lay M0) (hw : R_ok M0 WL w) (K : ∀ M', fr (fun a j => (a = 66 ∧ j = 65) ∨ a = 116) M0 M' → R_pc (WL w) M' → P 0 M') : ∀ (k : Nat) (y : Int) (M : qM), 0 ≤ y → y + k = (WL w).length → fr (fun a j => (a = 66 ∧ j = 65) ∨ a = 116) M0 M → R_pc (slice (WL w) 0 y) M → q_At q_m191 (q_WP q_Pr (d + 1)) P 7 [(0, .inr (.inr 66)), (1, .inl w), (2, .inl y)] [] M c s := by
  have w8' := hw.2.2.1
  have w1 := hw.1
  intro k
  induction k with
  | zero =>
    intro y M h0 h1 h2 h3
    have hw' : R_ok M WL w := R_ok_fr hw (fun a j _ _ => h2.2 a j (by dsimp only; omega))
    refine t_191_7 (fr_lay h2 hl) ?_
    rw [hw'.2.1.2.1]
    rw [show y = ((WL w).length : Int) by omega, slice_all] at h3
    exact ⟨w1, fun _ => K M h2 h3, fun z => absurd z (by omega)⟩
  | succ k ih =>
    intro y M h0 h1 h2 h3
    have hw' : R_ok M WL w := R_ok_fr hw (fun a j _ _ => h2.2 a j (by dsimp only; omega))
    have hl3 := slice_len (tp := WL w) (f := 0) (n := y) (Int.le_refl 0) h0 (by omega)
    have e : q_nm M 92 (8 * w + y) = tb (WL w) y := by rw [tb_in h0 (by omega)]; exact q_L_get hw'.2.1.1 h0 (by omega)
    refine t_191_7 (fr_lay h2 hl) ?_
    rw [hw'.2.1.2.1, w32_id (x := 8 * w) (by omega) (by omega), w32_id (x := 8 * w + y) (by omega) (by omega), w32_id (x := y + 1) (by omega) (by omega), e]
    refine ⟨w1, fun z => absurd z (by omega), fun _ => ⟨by omega, r_192 (fr_lay h2 hl) h3 (by omega) (fun M' f1 c1 => ⟨fr_lay (fr_trans h2 f1) hl, ih (y + 1) M' (by omega) (by omega) (fr_trans h2 f1) ?_⟩)⟩⟩
    rw [slice0_succ h0 (by omega)]; exact c1
theorem r_191 {d : Nat} {P : Int → qM → Prop} {M : qM} {w : Int} {WL : Int → List Int} (hl : q_lay M) (hw : R_ok M WL w) (K : ∀ M', fr (fun a j => (a = 66 ∧ j = 65) ∨ a = 116) M M' → R_pc (WL w) M' → P 0 M') : q_WP q_Pr (d + 2) 191 [.inr (.inr 66), .inl w] M P := by
  refine q_enter (t_191_0 hl (fun M1 e1 l1 => ?_))
  have f1 : fr (fun a j => (a = 66 ∧ j = 65) ∨ a = 116) M M1 := fr_wn e1 (Or.inl ⟨rfl, rfl⟩)
  exact r_191l l1 (R_ok_fr hw (fun a j _ _ => wn_ne e1 (by omega))) (fun M' f2 c2 => K M' (fr_trans f1 f2) c2) (WL w).length 0 M1 (Int.le_refl 0) (by omega) fr_rfl ⟨by rw [slice_zero]; exact wn_eq e1, by rw [slice_zero]; exact q_L_nil⟩
theorem r_190r {d : Nat} {P : Int → qM → Prop} {M0 : qM} {f b : Int} {WL : Int → List Int} {c s : Nat} (hl : q_lay M0) (hb : R_ok M0 WL b) (hf : (fro WL f).length ≤ 8) (K : ∀ M', fr (fun a j => (a = 66 ∧ j = 65) ∨ a = 116) M0 M' → R_pc (joi WL f b) M' → P 0 M') : ∀ (k : Nat) (y : Int) (M : qM), (onsN (WL b) : Int) ≤ y → y + k = (WL b).length → fr (fun a j => (a = 66 ∧ j = 65) ∨ a = 116) M0 M → R_pc (fro WL f ++ slice (WL b) (onsN (WL b)) (y - onsN (WL b))) M → q_At q_m190 (q_WP q_Pr (d + 1)) P 50 [(0, .inr (.inr 66)), (2, .inl b), (3, .inl y)] [] M c s := by
  have b8 := hb.2.2.1
  have b1 := hb.1
  intro k
  induction k with
  | zero =>
    intro y M h0 h1 h2 h3
    have hb' : R_ok M WL b := R_ok_fr hb (fun a j _ _ => h2.2 a j (by dsimp only; omega))
    refine t_190_50 (fr_lay h2 hl) ?_
    rw [hb'.2.1.2.1]
    rw [show y = ((WL b).length : Int) by omega, slice_rst] at h3
    exact ⟨b1, fun _ => K M h2 h3, fun z => absurd z (by omega)⟩
  | succ k ih =>
    intro y M h0 h1 h2 h3
    have hb' : R_ok M WL b := R_ok_fr hb (fun a j _ _ => h2.2 a j (by dsimp only; omega))
    have hl3 := slice_len (tp := WL b) (f := onsN (WL b)) (n := y - onsN (WL b)) (by omega) (by omega) (by omega)
    have e : q_nm M 92 (8 * b + y) = tb (WL b) y := by rw [tb_in (by omega) (by omega)]; exact q_L_get hb'.2.1.1 (by omega) (by omega)
    refine t_190_50 (fr_lay h2 hl) ?_
    rw [hb'.2.1.2.1, w32_id (x := 8 * b) (by omega) (by omega), w32_id (x := 8 * b + y) (by omega) (by omega), w32_id (x := y + 1) (by omega) (by omega), e]
    refine ⟨b1, fun z => absurd z (by omega), fun _ => ⟨by omega, r_192 (fr_lay h2 hl) h3 (by rw [List.length_append]; omega) (fun M' f1 c1 => ⟨fr_lay (fr_trans h2 f1) hl, ih (y + 1) M' (by omega) (by omega) (fr_trans h2 f1) ?_⟩)⟩⟩
    rw [show y + 1 - (onsN (WL b) : Int) = (y - onsN (WL b)) + 1 by omega, slice_succ (by omega) (by omega) (by omega), show (onsN (WL b) : Int) + (y - onsN (WL b)) = y by omega, ← List.append_assoc]
    exact c1
theorem r_190f {d : Nat} {P : Int → qM → Prop} {M0 : qM} {f b : Int} {WL : Int → List Int} {c s : Nat} (hl : q_lay M0) (hf : f = -1 ∨ R_ok M0 WL f) (hb : R_ok M0 WL b) (K : ∀ M', fr (fun a j => (a = 66 ∧ j = 65) ∨ a = 116) M0 M' → R_pc (joi WL f b) M' → P 0 M') : ∀ (k : Nat) (y : Int) (M : qM), 0 ≤ y → y + k = (fro WL f).length → fr (fun a j => (a = 66 ∧ j = 65) ∨ a = 116) M0 M → R_pc (slice (fro WL f) 0 y) M → q_At q_m190 (q_WP q_Pr (d + 1)) P 7 [(0, .inr (.inr 66)), (1, .inl f), (2, .inl b), (3, .inl y)] [] M c s := by
  have b8 := hb.2.2.1
  have b1 := hb.1
  have ob := onsN_le (WL b)
  have hf8 : (fro WL f).length ≤ 8 := by
    rcases hf with h | h
    · unfold fro; rw [if_pos h]; exact Nat.zero_le 8
    · have := fro_len (WL := WL) (f := f) (by have := h.1; omega)
      have := onsN_le (WL f)
      have := h.2.2.1
      omega
  have fin : ∀ M : qM, fr (fun a j => (a = 66 ∧ j = 65) ∨ a = 116) M0 M → R_pc (fro WL f) M → (0 ≤ b ∧ b < 30) ∧ q_At q_m190 (q_WP q_Pr (d + 1)) P 50 [(0, .inr (.inr 66)), (2, .inl b), (3, .inl (q_nm M 94 b))] [] M c s := fun M h2 h3 => by
    have hb' : R_ok M WL b := R_ok_fr hb (fun a j _ _ => h2.2 a j (by dsimp only; omega))
    rw [hb'.2.1.2.2]
    refine ⟨b1, r_190r (f := f) (fr_lay h2 hl) hb' hf8 (fun M' f2 c2 => K M' (fr_trans h2 f2) c2) ((WL b).length - onsN (WL b)) (onsN (WL b)) M (Int.le_refl _) (by omega) fr_rfl ?_⟩
    rw [Int.sub_self, slice_zero, List.append_nil]; exact h3
  intro k
  induction k with
  | zero =>
    intro y M h0 h1 h2 h3
    rw [show y = ((fro WL f).length : Int) by omega, slice_all] at h3
    refine t_190_7 (fr_lay h2 hl) ⟨fun z => fin M h2 h3, fun z => ?_⟩
    have hf' : R_ok M WL f := R_ok_fr (hf.resolve_left z) (fun a j _ _ => h2.2 a j (by dsimp only; omega))
    have := fro_len (WL := WL) z
    rw [hf'.2.1.2.2]
    exact ⟨hf'.1, fun _ => fin M h2 h3, fun x => absurd x (by omega)⟩
  | succ k ih =>
    intro y M h0 h1 h2 h3
    have z : f ≠ -1 := fun z => by
      have : (fro WL f).length = 0 := by unfold fro; rw [if_pos z]; rfl
      omega
    have hf' : R_ok M WL f := R_ok_fr (hf.resolve_left z) (fun a j _ _ => h2.2 a j (by dsimp only; omega))
    have fl := fro_len (WL := WL) z
    have f8 := hf'.2.2.1
    have f1 := hf'.1
    have of := onsN_le (WL f)
    have hl3 := slice_len (tp := fro WL f) (f := 0) (n := y) (Int.le_refl 0) h0 (by omega)
    have e : q_nm M 92 (8 * f + y) = tb (fro WL f) y := by
      rw [tb_in (by omega) (by omega)]
      rw [q_L_get hf'.2.1.1 (by omega) (by omega)]
      unfold fro; rw [if_neg z]; exact (ons_get (by omega)).symm
    refine t_190_7 (fr_lay h2 hl) ⟨fun x => absurd x z, fun _ => ?_⟩
    rw [hf'.2.1.2.2, w32_id (x := 8 * f) (by omega) (by omega), w32_id (x := 8 * f + y) (by omega) (by omega), w32_id (x := y + 1) (by omega) (by omega), e]
    refine ⟨f1, fun x => absurd x (by omega), fun _ => ⟨by omega, r_192 (fr_lay h2 hl) h3 (by omega) (fun M' f1 c1 => ⟨fr_lay (fr_trans h2 f1) hl, ih (y + 1) M' (by omega) (by omega) (fr_trans h2 f1) ?_⟩)⟩⟩
    rw [slice0_succ h0 (by omega)]; exact c1
theorem r_190 {d : Nat} {P : Int → qM → Prop} {M : qM} {f b : Int} {WL : Int → List Int} (hl : q_lay M) (hf : f = -1 ∨ R_ok M WL f) (hb : R_ok M WL b) (K : ∀ M', fr (fun a j => (a = 66 ∧ j = 65) ∨ a = 116) M M' → R_pc (joi WL f b) M' → P 0 M') : q_WP q_Pr (d + 2) 190 [.inr (.inr 66), .inl f, .inl b] M P := by
  refine q_enter (t_190_0 hl (fun M1 e1 l1 => ?_))
  have f1 : fr (fun a j => (a = 66 ∧ j = 65) ∨ a = 116) M M1 := fr_wn e1 (Or.inl ⟨rfl, rfl⟩)
  exact r_190f l1 (hf.imp id (fun h => R_ok_fr h (fun a j _ _ => wn_ne e1 (by omega)))) (R_ok_fr hb (fun a j _ _ => wn_ne e1 (by omega))) (fun M' f2 c2 => K M' (fr_trans f1 f2) c2) (fro WL f).length 0 M1 (Int.le_refl 0) (by omega) fr_rfl ⟨by rw [slice_zero]; exact wn_eq e1, by rw [slice_zero]; exact q_L_nil⟩
theorem r_193l {d : Nat} {P : Int → qM → Prop} {M : qM} {w : Int} {WL : Int → List Int} {l : List Int} {c s : Nat} (hl : q_lay M) (hw : R_ok M WL w) (hP : R_pc l M) (he : (WL w).length = l.length) (K1 : WL w = l → P 1 M) (K0 : ¬ WL w = l → P 0 M) : ∀ (k : Nat) (y : Int), 0 ≤ y → y + k = l.length → (∀ i, 0 ≤ i → i < y → tb (WL w) i = tb l i) → q_At q_m193 (q_WP q_Pr d) P 17 [(0, .inr (.inr 66)), (1, .inl w), (2, .inl y)] [] M c s := by
  have w8' := hw.2.2.1
  have w1 := hw.1
  intro k
  induction k with
  | zero =>
    intro y h0 h1 h2
    refine t_193_17 hl ?_
    rw [hP.1]
    exact ⟨fun _ => K1 (tb_ext he (fun i p q => h2 i p (by omega))), fun z => absurd z (by omega)⟩
  | succ k ih =>
    intro y h0 h1 h2
    refine t_193_17 hl ?_
    have e1 : q_nm M 92 (8 * w + y) = tb (WL w) y := by rw [tb_in h0 (by omega)]; exact q_L_get hw.2.1.1 h0 (by omega)
    have e2 : q_nm M 116 y = tb l y := by rw [tb_in h0 (by omega)]; exact q_L_get0 hP.2 h0 (by omega)
    rw [hP.1, w32_id (x := 8 * w) (by omega) (by omega), w32_id (x := 8 * w + y) (by omega) (by omega), w32_id (x := y + 1) (by omega) (by omega), e1, e2]
    refine ⟨fun z => absurd z (by omega), fun _ => ⟨by omega, by omega, fun z => ih (y + 1) (by omega) (by omega) (fun i p q => ?_), fun z => K0 (fun q => z (by rw [q]))⟩⟩
    by_cases e : i = y
    · rw [e]; exact z
    · exact h2 i p (by omega)
theorem r_193 {d : Nat} {P : Int → qM → Prop} {M : qM} {w : Int} {WL : Int → List Int} {l : List Int} (hl : q_lay M) (hw : R_ok M WL w) (hP : R_pc l M) (K1 : WL w = l → P 1 M) (K0 : ¬ WL w = l → P 0 M) : q_WP q_Pr (d + 1) 193 [.inr (.inr 66), .inl w] M P := by
  refine q_enter (t_193_0 hl ?_)
  rw [hw.2.1.2.1, hP.1]
  exact ⟨hw.1, fun z => r_193l hl hw hP (by omega) K1 K0 l.length 0 (Int.le_refl 0) (by omega) (fun i p q => absurd p (by omega)), fun z => K0 (fun q => z (by rw [q]))⟩
theorem r_194l {d : Nat} {P : Int → qM → Prop} {M : qM} {nw : Int} {WL : Int → List Int} {WS WE WO : Int → Int} {l : List Int} {c s : Nat} (hl : q_lay M) (hW : R_W nw WL WS WE WO M) (g : G_W nw WL WS WE WO) (hP : R_pc l M) (K : ∀ v, isNum nw WL l v → P v M) : ∀ (k : Nat) (y : Int), 0 ≤ y → y + k = nw → (∀ w, 0 ≤ w → w < y → WL w ≠ l) → q_At q_m194 (q_WP q_Pr (d + 1)) P 2 [(0, .inr (.inr 66)), (1, .inl y)] [] M c s := by
  have gn := g.1
  intro k
  induction k with
  | zero =>
    intro y h0 h1 h2
    refine t_194_2 hl ?_
    rw [hW.1]
    exact ⟨fun _ => K _ (Or.inr ⟨rfl, fun w p q => h2 w p (by omega)⟩), fun z => absurd z (by omega)⟩
  | succ k ih =>
    intro y h0 h1 h2
    refine t_194_2 hl ?_
    rw [hW.1, w32_id (x := y + 1) (by omega) (by omega)]
    refine ⟨fun z => absurd z (by omega), fun _ => r_193 hl (R_W_ok hW g h0 (by omega)) hP (fun q => ⟨hl, fun z => absurd z (by decide), fun _ => K y (Or.inl ⟨by omega, q⟩)⟩) (fun q => ⟨hl, fun _ => ih (y + 1) (by omega) (by omega) (fun w p r => ?_), fun z => absurd rfl z⟩)⟩
    by_cases e : w = y
    · rw [e]; exact q
    · exact h2 w p (by omega)
theorem r_194 {d : Nat} {P : Int → qM → Prop} {M : qM} {nw : Int} {WL : Int → List Int} {WS WE WO : Int → Int} {l : List Int} (hl : q_lay M) (hW : R_W nw WL WS WE WO M) (g : G_W nw WL WS WE WO) (hP : R_pc l M) (K : ∀ v, isNum nw WL l v → P v M) : q_WP q_Pr (d + 2) 194 [.inr (.inr 66)] M P :=
  q_enter (t_194_0 hl (r_194l hl hW g hP K nw.toNat 0 (Int.le_refl 0) (by have := g.1; omega) (fun w p q => absurd p (by omega))))
theorem r_197l {d : Nat} {P : Int → qM → Prop} {M : qM} {w : Int} {WL : Int → List Int} {l : List Int} {c s : Nat} (hl : q_lay M) (hw : R_ok M WL w) (hP : R_pc l M) (h16 : l.length ≤ 16) (n : Nat) (hn : n = min (WL w).length l.length) (K : P (unl (WL w) l) M) : ∀ (k y : Nat), y + k = n → q_At q_m197 (q_WP q_Pr d) P 32 [(0, .inr (.inr 66)), (1, .inl w), (2, .inl (cntU (WL w) l y)), (3, .inl (n : Int)), (4, .inl (y : Int))] [] M c s := by
  have w8' := hw.2.2.1
  have w1 := hw.1
  intro k
  induction k with
  | zero =>
    intro y e
    have cr := cntU_rng (WL w) l y
    refine t_197_32 hl ?_
    rw [hw.2.1.2.1, hP.1, w32_id (x := cntU (WL w) l y + (WL w).length) (by omega) (by omega), w32_id (x := cntU (WL w) l y + (WL w).length - n) (by omega) (by omega), w32_id (x := cntU (WL w) l y + (WL w).length - n + l.length) (by omega) (by omega), w32_id (by omega) (by omega)]
    have e2 : unl (WL w) l = cntU (WL w) l y + (WL w).length - n + l.length - n := by
      unfold unl; rw [show y = min (WL w).length l.length by omega]; omega
    rw [e2] at K
    exact ⟨fun _ => ⟨w1, K⟩, fun z => absurd z (by omega)⟩
  | succ k ih =>
    intro y e
    have cr := cntU_rng (WL w) l y
    have i := ih (y + 1) (by omega)
    refine t_197_32 hl ?_
    have e1 : q_nm M 92 (8 * w + (y : Int)) = (WL w).getD y 0 := hw.2.1.1 y (by omega)
    have e2 : q_nm M 116 (y : Int) = l.getD y 0 := by have := hP.2 y (by omega); rwa [Int.zero_add] at this
    rw [w32_id (x := 8 * w) (by omega) (by omega), w32_id (x := 8 * w + (y : Int)) (by omega) (by omega), w32_id (x := (y : Int) + 1) (by omega) (by omega), w32_id (x := cntU (WL w) l y + 1) (by omega) (by omega), e1, e2]
    refine ⟨fun z => absurd z (by omega), fun _ => ⟨by omega, by omega, fun z => ?_, fun z => ?_⟩⟩
    · unfold cntU at i; rw [if_pos z, Int.add_zero] at i; exact i
    · unfold cntU at i; rw [if_neg z] at i; exact i
theorem r_197 {d : Nat} {P : Int → qM → Prop} {M : qM} {w : Int} {WL : Int → List Int} {l : List Int} (hl : q_lay M) (hw : R_ok M WL w) (hP : R_pc l M) (h16 : l.length ≤ 16) (K : P (unl (WL w) l) M) : q_WP q_Pr (d + 1) 197 [.inr (.inr 66), .inl w] M P := by
  refine q_enter (t_197_0 hl ?_)
  rw [hw.2.1.2.1, hP.1]
  refine ⟨hw.1, fun z => ?_, fun z => ⟨hw.1, ?_⟩⟩
  · exact r_197l hl hw hP h16 l.length (by omega) K l.length 0 (by omega)
  · exact r_197l hl hw hP h16 (WL w).length (by omega) K (WL w).length 0 (by omega)
end
