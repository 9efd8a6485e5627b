section
/-! WHAT THE SPECIALISED SEGMENTS NEED -/
theorem q_lay_wn {M : qM} {a i v : Int} (h : q_lay M) : q_lay (q_wn M a i v) := h
theorem q_bs12 {x : Int} : q_bs 12 x = w8 x := rfl
theorem q_bs16 {x : Int} : q_bs 16 x = x % 2 := rfl
theorem q_bs16_0 : q_bs 16 (0 : Int) = (0 : Int) := rfl
theorem q_bs16_1 : q_bs 16 (1 : Int) = (1 : Int) := rfl
def q_vow (c : Int) : Prop := c = 97 ∨ c = 101 ∨ c = 105 ∨ c = 111 ∨ c = 117
/-- the byte at k of the tape -/
def q_B (M : qM) (k : Int) : Int := if 0 ≤ k ∧ k < q_nm M 1 1 then q_and (q_nm M 2 k) 255 else -1
theorem q_lc_neg {x y : Int} (h : q_lc x y < 0) : x < y := by
  unfold q_lc at h; split at h
  · assumption
  · split at h <;> omega
theorem q_lc_nn {x y : Int} (h : 0 ≤ q_lc x y) : y ≤ x := by
  unfold q_lc at h; split at h <;> omega
theorem q_lc_pos {x y : Int} (h : 0 < q_lc x y) : y < x := by
  unfold q_lc at h; split at h
  · omega
  · split at h <;> omega
theorem q_lc_le {x y : Int} (h : q_lc x y ≤ 0) : x ≤ y := by
  unfold q_lc at h; split at h
  · omega
  · split at h <;> omega
theorem q_lc_z {x y : Int} (h : q_lc x y = 0) : x = y := by
  unfold q_lc at h; split at h
  · omega
  · split at h <;> omega
theorem q_lc_nz {x y : Int} (h : ¬ q_lc x y = 0) : ¬ x = y := by
  unfold q_lc at h; split at h
  · omega
  · split at h <;> omega
theorem p_146 {d : Nat} {P : Int → qM → Prop} {x a b : Int} {M : qM} (h1 : a ≤ x ∧ x ≤ b → P 1 M) (h0 : ¬ (a ≤ x ∧ x ≤ b) → P 0 M) : q_WP q_Pr (d + 1) 146 [.inr (.inl x), .inr (.inl a), .inr (.inl b)] M P :=
  q_enter (s_146_0 ⟨fun g => ⟨⟨by decide, by decide⟩, h0 (by have := q_lc_neg g; omega)⟩, fun g => ⟨fun g2 => ⟨⟨by decide, by decide⟩, h0 (by have := q_lc_pos g2; omega)⟩, fun g2 => ⟨⟨by decide, by decide⟩, h1 ⟨q_lc_nn g, q_lc_le g2⟩⟩⟩⟩)
theorem p_150 {d : Nat} {P : Int → qM → Prop} {x : Int} {M : qM} (h1 : 97 ≤ x ∧ x ≤ 122 → P 1 M) (h0 : ¬ (97 ≤ x ∧ x ≤ 122) → P 0 M) : q_WP q_Pr (d + 1) 150 [.inl x] M P :=
  q_enter (s_150_0 ⟨fun g => ⟨⟨by decide, by decide⟩, h0 (by omega)⟩, fun g => ⟨fun g2 => ⟨⟨by decide, by decide⟩, h0 (by omega)⟩, fun g2 => ⟨⟨by decide, by decide⟩, h1 ⟨g, g2⟩⟩⟩⟩)
theorem p_151 {d : Nat} {P : Int → qM → Prop} {x : Int} {M : qM} (h1 : 48 ≤ x ∧ x ≤ 57 → P 1 M) (h0 : ¬ (48 ≤ x ∧ x ≤ 57) → P 0 M) : q_WP q_Pr (d + 1) 151 [.inl x] M P :=
  q_enter (s_151_0 ⟨fun g => ⟨⟨by decide, by decide⟩, h0 (by omega)⟩, fun g => ⟨fun g2 => ⟨⟨by decide, by decide⟩, h0 (by omega)⟩, fun g2 => ⟨⟨by decide, by decide⟩, h1 ⟨g, g2⟩⟩⟩⟩)
theorem p_134 {d : Nat} {P : Int → qM → Prop} {x : Int} {M : qM} (h1 : 0 ≤ x ∧ x ≤ 8 → P 1 M) (h0 : ¬ (0 ≤ x ∧ x ≤ 8) → P 0 M) : q_WP q_Pr (d + 1) 134 [.inl x] M P :=
  q_enter (s_134_0 ⟨fun g => ⟨⟨by decide, by decide⟩, h0 (by omega)⟩, fun g => ⟨fun g2 => ⟨⟨by decide, by decide⟩, h0 (by omega)⟩, fun g2 => ⟨⟨by decide, by decide⟩, h1 ⟨g, g2⟩⟩⟩⟩)
theorem p_165 {d : Nat} {P : Int → qM → Prop} {x t : Int} {M : qM} (h1 : 0 ≤ x ∧ x ≤ 8 → P 1 M) (h0 : ¬ (0 ≤ x ∧ x ≤ 8) → P 0 M) : q_WP q_Pr (d + 2) 165 [.inr (.inr t), .inl x] M P :=
  q_enter (s_165_0 (p_146 (fun g => ⟨⟨by decide, by decide⟩, h1 g⟩) (fun g => ⟨⟨by decide, by decide⟩, h0 g⟩)))
theorem p_171 {d : Nat} {P : Int → qM → Prop} {x t : Int} {M : qM} (h1 : 20 ≤ x ∧ x ≤ 24 → P 1 M) (h0 : ¬ (20 ≤ x ∧ x ≤ 24) → P 0 M) : q_WP q_Pr (d + 1) 171 [.inr (.inr t), .inl x] M P :=
  q_enter (s_171_0 ⟨fun g => ⟨⟨by decide, by decide⟩, h0 (by omega)⟩, fun g => ⟨fun g2 => ⟨⟨by decide, by decide⟩, h0 (by omega)⟩, fun g2 => ⟨⟨by decide, by decide⟩, h1 ⟨g, g2⟩⟩⟩⟩)
theorem p_159 {d : Nat} {P : Int → qM → Prop} {x : Int} {M : qM} (h1 : q_vow x → P 1 M) (h0 : ¬ q_vow x → P 0 M) : q_WP q_Pr (d + 1) 159 [.inl x] M P := by
  refine q_enter (s_159_0 ⟨fun g => ⟨⟨by decide, by decide⟩, h1 ?_⟩, fun g => ⟨fun g2 => ⟨⟨by decide, by decide⟩, h1 ?_⟩, fun g2 => ⟨fun g3 => ⟨⟨by decide, by decide⟩, h1 ?_⟩, fun g3 => ⟨fun g4 => ⟨⟨by decide, by decide⟩, h1 ?_⟩, fun g4 => ⟨fun g5 => ⟨⟨by decide, by decide⟩, h0 ?_⟩, fun g5 => ⟨⟨by decide, by decide⟩, h1 ?_⟩⟩⟩⟩⟩⟩) <;> unfold q_vow <;> omega
theorem p_83 {d : Nat} {P : Int → qM → Prop} {x : Int} {M : qM} (h1 : q_vow x → P 1 M) (h0 : ¬ q_vow x → P 0 M) : q_WP q_Pr (d + 1) 83 [.inl x] M P := by
  refine q_enter (s_83_0 ⟨fun g => ⟨⟨by decide, by decide⟩, h1 ?_⟩, fun g => ⟨fun g2 => ⟨⟨by decide, by decide⟩, h1 ?_⟩, fun g2 => ⟨fun g3 => ⟨⟨by decide, by decide⟩, h1 ?_⟩, fun g3 => ⟨fun g4 => ⟨⟨by decide, by decide⟩, h1 ?_⟩, fun g4 => ⟨fun g5 => ⟨⟨by decide, by decide⟩, h0 ?_⟩, fun g5 => ⟨⟨by decide, by decide⟩, h1 ?_⟩⟩⟩⟩⟩⟩) <;> unfold q_vow <;> omega
theorem p_258 {d : Nat} {P : Int → qM → Prop} {x y : Int} {M : qM} (h : P (max x y) M) : q_WP q_Pr (d + 1) 258 [.inl x, .inl y] M P :=
  q_enter (s_258_0 ⟨fun g => by rw [show max x y = y by omega] at h; exact h, fun g => by rw [show max x y = x by omega] at h; exact h⟩)
theorem p_259 {d : Nat} {P : Int → qM → Prop} {x y : Int} {M : qM} (h : P (max x y) M) : q_WP q_Pr (d + 1) 259 [.inr (.inl x), .inr (.inl y)] M P :=
  q_enter (s_259_0 ⟨fun g => by have := q_lc_neg g; rw [show max x y = y by omega] at h; exact h, fun g => by have := q_lc_nn g; rw [show max x y = x by omega] at h; exact h⟩)
theorem p_260 {d : Nat} {P : Int → qM → Prop} {x y : Int} {M : qM} (h : P (min x y) M) : q_WP q_Pr (d + 1) 260 [.inl x, .inl y] M P :=
  q_enter (s_260_0 ⟨fun g => by rw [show min x y = y by omega] at h; exact h, fun g => by rw [show min x y = x by omega] at h; exact h⟩)
theorem p_261 {d : Nat} {P : Int → qM → Prop} {x y : Int} {M : qM} (h : P (min x y) M) : q_WP q_Pr (d + 1) 261 [.inr (.inl x), .inr (.inl y)] M P :=
  q_enter (s_261_0 ⟨fun g => by have := q_lc_pos g; rw [show min x y = y by omega] at h; exact h, fun g => by have := q_lc_le g; rw [show min x y = x by omega] at h; exact h⟩)
theorem p_66 {d : Nat} {P : Int → qM → Prop} {k : Int} {M : qM} (hl : q_lay M) (hp : q_nm M 1 1 ≤ 2100) (h : P (q_B M k) M) : q_WP q_Pr (d + 1) 66 [.inr (.inr 1), .inl k] M P := by
  refine q_enter (s_66_0 ?_)
  rw [lk1 hl, lr1_0 hl, lk2 hl, ll2 hl]
  refine ⟨fun g => ?_, fun g => ⟨rfl, fun g2 => ?_, fun g2 => ⟨rfl, ⟨Or.inl rfl, g, by omega⟩, ?_⟩⟩⟩
  · rw [q_B, if_neg (by omega)] at h; exact h
  · rw [q_B, if_neg (by omega)] at h; exact h
  · rw [q_B, if_pos ⟨g, g2⟩] at h; exact h
theorem p_67 {d : Nat} {P : Int → qM → Prop} {k : Int} {M : qM} (hl : q_lay M) (hp : q_nm M 1 1 ≤ 2100) (h1 : 97 ≤ q_B M k ∧ q_B M k ≤ 122 → P 1 M) (h0 : ¬ (97 ≤ q_B M k ∧ q_B M k ≤ 122) → P 0 M) : q_WP q_Pr (d + 2) 67 [.inr (.inr 1), .inl k] M P :=
  q_enter (s_67_0 ⟨lk1 hl, p_66 hl hp ⟨fun g => ⟨⟨by decide, by decide⟩, h0 (by omega)⟩, fun g => ⟨fun g2 => ⟨⟨by decide, by decide⟩, h0 (by omega)⟩, fun g2 => ⟨⟨by decide, by decide⟩, h1 ⟨g, g2⟩⟩⟩⟩⟩)
theorem p_68 {d : Nat} {P : Int → qM → Prop} {k : Int} {M : qM} (hl : q_lay M) (hp : q_nm M 1 1 ≤ 2100) (h1 : 48 ≤ q_B M k ∧ q_B M k ≤ 57 → P 1 M) (h0 : ¬ (48 ≤ q_B M k ∧ q_B M k ≤ 57) → P 0 M) : q_WP q_Pr (d + 2) 68 [.inr (.inr 1), .inl k] M P :=
  q_enter (s_68_0 ⟨lk1 hl, p_66 hl hp ⟨fun g => ⟨⟨by decide, by decide⟩, h0 (by omega)⟩, fun g => ⟨fun g2 => ⟨⟨by decide, by decide⟩, h0 (by omega)⟩, fun g2 => ⟨⟨by decide, by decide⟩, h1 ⟨g, g2⟩⟩⟩⟩⟩)
theorem p_69 {d : Nat} {P : Int → qM → Prop} {k : Int} {M : qM} (hl : q_lay M) (hp : q_nm M 1 1 ≤ 2100) (h1 : q_B M k = 32 ∨ q_B M k = 10 → P 1 M) (h0 : ¬ (q_B M k = 32 ∨ q_B M k = 10) → P 0 M) : q_WP q_Pr (d + 2) 69 [.inr (.inr 1), .inl k] M P :=
  q_enter (s_69_0 ⟨lk1 hl, p_66 hl hp ⟨fun g => ⟨⟨by decide, by decide⟩, h1 (Or.inl g)⟩, fun g => ⟨fun g2 => ⟨⟨by decide, by decide⟩, h0 (by omega)⟩, fun g2 => ⟨⟨by decide, by decide⟩, h1 (Or.inr g2)⟩⟩⟩⟩)
theorem p_135 {d : Nat} {P : Int → qM → Prop} {k : Int} {M : qM} (hl : q_lay M) (h1 : 0 ≤ k ∧ k < q_nm M 0 3 → P 1 M) (h0 : ¬ (0 ≤ k ∧ k < q_nm M 0 3) → P 0 M) : q_WP q_Pr (d + 1) 135 [.inr (.inr 0), .inl k] M P :=
  q_enter (s_135_0 ⟨fun g => ⟨⟨by decide, by decide⟩, h0 (by omega)⟩, fun g => ⟨lk0 hl, fun g2 => ⟨⟨by decide, by decide⟩, h0 (by omega)⟩, fun g2 => ⟨⟨by decide, by decide⟩, h1 ⟨g, g2⟩⟩⟩⟩)
theorem p_79 {d : Nat} {P : Int → qM → Prop} {k : Int} {M : qM} (hl : q_lay M) (h1 : 0 ≤ k ∧ k < q_nm M 3 9 → P 1 M) (h0 : ¬ (0 ≤ k ∧ k < q_nm M 3 9) → P 0 M) : q_WP q_Pr (d + 1) 79 [.inr (.inr 3), .inl k] M P :=
  q_enter (s_79_0 ⟨fun g => ⟨⟨by decide, by decide⟩, h0 (by omega)⟩, fun g => ⟨lk3 hl, fun g2 => ⟨⟨by decide, by decide⟩, h0 (by omega)⟩, fun g2 => ⟨⟨by decide, by decide⟩, h1 ⟨g, g2⟩⟩⟩⟩)
theorem p_164 {d : Nat} {P : Int → qM → Prop} {k : Int} {M : qM} (hl : q_lay M) (hp : 0 ≤ q_nm M 66 40 ∧ q_nm M 66 40 ≤ 12) (h1 : 0 ≤ k ∧ k < q_nm M 66 40 → P 1 M) (h0 : ¬ (0 ≤ k ∧ k < q_nm M 66 40) → P 0 M) : q_WP q_Pr (d + 2) 164 [.inr (.inr 66), .inl k] M P := by
  refine q_enter (s_164_0 ⟨lk66 hl, ?_⟩)
  rw [w32_id (x := q_nm M 66 40 - 1) (by omega) (by omega)]
  exact p_146 (fun g => ⟨⟨by decide, by decide⟩, h1 (by omega)⟩) (fun g => ⟨⟨by decide, by decide⟩, h0 (by omega)⟩)
theorem p_216 {d : Nat} {P : Int → qM → Prop} {m : Int} {M : qM} (hl : q_lay M) (h1 : (0 ≤ m ∧ m ≤ 3) ∧ ¬ q_nm M 100 m = 0 → P 1 M) (h0 : ¬ ((0 ≤ m ∧ m ≤ 3) ∧ ¬ q_nm M 100 m = 0) → P 0 M) : q_WP q_Pr (d + 2) 216 [.inr (.inr 66), .inl m] M P := by
  refine q_enter (s_216_0 (p_146 (fun g => ⟨fun z => absurd z (by decide), fun _ => ?_⟩) (fun g => ⟨fun _ => ⟨⟨by decide, by decide⟩, h0 (fun z => g z.1)⟩, fun z => absurd rfl z⟩)))
  rw [lr66_43 hl, lk100 hl, ll100 hl]
  exact ⟨lk66 hl, ⟨Or.inr rfl, g.1, by omega⟩, fun z => ⟨⟨by decide, by decide⟩, h0 (fun w => w.2 z)⟩, fun z => ⟨⟨by decide, by decide⟩, h1 ⟨g, z⟩⟩⟩
theorem p_136 {d : Nat} {P : Int → qM → Prop} {m : Int} {M : qM} (hl : q_lay M) (h1 : (0 ≤ m ∧ m < 4) ∧ ¬ q_rf M 14 m = -1 → P 1 M) (h0 : ¬ ((0 ≤ m ∧ m < 4) ∧ ¬ q_rf M 14 m = -1) → P 0 M) : q_WP q_Pr (d + 1) 136 [.inr (.inr 0), .inl m] M P := by
  refine q_enter (s_136_0 ?_)
  rw [lr0_4 hl, lk14 hl, ll14 hl]
  exact ⟨fun g => ⟨⟨by decide, by decide⟩, h0 (fun z => by omega)⟩, fun g => ⟨fun g2 => ⟨⟨by decide, by decide⟩, h0 (fun z => by omega)⟩, fun g2 => ⟨lk0 hl, ⟨⟨by decide, by decide⟩, g, by omega⟩, fun z => ⟨⟨by decide, by decide⟩, h0 (fun w => w.2 z)⟩, fun z => ⟨⟨by decide, by decide⟩, h1 ⟨⟨g, g2⟩, z⟩⟩⟩⟩⟩
theorem p_84 {d : Nat} {P : Int → qM → Prop} {w i : Int} {M : qM} (hl : q_lay M) (hp : (0 ≤ w ∧ w < 30) ∧ 0 ≤ i ∧ i < 8) (h : P (q_nm M 4 (w * 8 + i)) M) : q_WP q_Pr (d + 1) 84 [.inr (.inr 3), .inl w, .inl i] M P := by
  refine q_enter (s_84_0 ?_)
  rw [lr3_0 hl, lk4 hl, ll4 hl, w32_id (x := w * 8) (by omega) (by omega), w32_id (x := w * 8 + i) (by omega) (by omega)]
  exact ⟨lk3 hl, ⟨Or.inl rfl, by omega, by omega⟩, h⟩
theorem p_188 {d : Nat} {P : Int → qM → Prop} {r p : Int} {M : qM} (hl : q_lay M) (hp : (0 ≤ r ∧ r < 12) ∧ 0 ≤ p ∧ p < 6) (h : P (q_nm M 99 (6 * r + p)) M) : q_WP q_Pr (d + 1) 188 [.inr (.inr 66), .inl r, .inl p] M P := by
  refine q_enter (s_188_0 ?_)
  rw [lr66_42 hl, lk99 hl, ll99 hl, w32_id (x := 6 * r) (by omega) (by omega), w32_id (x := 6 * r + p) (by omega) (by omega)]
  exact ⟨lk66 hl, ⟨rfl, by omega, by omega⟩, h⟩
end
