section
/-! KEYS: numbers in base 37 -/
def kd1 (b : Int) : Int := if b = 32 then 27 else b - 96
def rk (l : List Int) : Int := l.foldl (fun k b => k * 37 + kd1 b) 0
theorem rk_nil : rk [] = 0 := rfl
theorem rk_snoc {l : List Int} {b : Int} : rk (l ++ [b]) = rk l * 37 + kd1 b := by unfold rk; rw [List.foldl_append]; rfl
theorem rk_app (l : List Int) : ∀ m : List Int, rk (l ++ m) = rk l * 37 ^ m.length + rk m := by
  intro m
  have h : ∀ n (m : List Int), m.length = n → rk (l ++ m) = rk l * 37 ^ m.length + rk m := by
    intro n
    induction n with
    | zero => intro m hm; rw [List.length_eq_zero_iff.mp hm, List.append_nil, rk_nil]; simp
    | succ n ih =>
      intro m hm
      rcases List.eq_nil_or_concat m with h | ⟨t, b, h⟩
      · rw [h] at hm; exact absurd hm (by simp)
      · rw [h, List.concat_eq_append] at hm ⊢
        rw [List.length_append, List.length_cons, List.length_nil] at hm
        rw [← List.append_assoc, rk_snoc, rk_snoc, ih t (by omega), List.length_append, List.length_cons, List.length_nil, Int.pow_succ, Int.add_mul, Int.mul_assoc]
        omega
  exact h _ m rfl
def lets (l : List Int) : Prop := ∀ b ∈ l, 97 ≤ b ∧ b ≤ 122
theorem kd1_let {b : Int} (h : 97 ≤ b ∧ b ≤ 122) : kd1 b = b - 96 := if_neg (by omega)
theorem lets_app {l m : List Int} : lets (l ++ m) ↔ lets l ∧ lets m := by
  unfold lets; constructor
  · intro h; exact ⟨fun b hb => h b (List.mem_append.mpr (Or.inl hb)), fun b hb => h b (List.mem_append.mpr (Or.inr hb))⟩
  · rintro ⟨h1, h2⟩ b hb
    rcases List.mem_append.mp hb with q | q
    · exact h1 b q
    · exact h2 b q
theorem lets_one {b : Int} : lets [b] ↔ (97 ≤ b ∧ b ≤ 122) := by
  unfold lets; constructor
  · intro h; exact h b (List.mem_cons_self)
  · intro h c hc; rw [List.mem_singleton.mp hc]; exact h
theorem rk_lt : ∀ (n : Nat) (l : List Int), l.length = n → lets l → 0 ≤ rk l ∧ rk l < 37 ^ n ∧ (rk l = 0 → l = []) := by
  intro n
  induction n with
  | zero => intro l h _; rw [List.length_eq_zero_iff.mp h]; exact ⟨by decide, by decide, fun _ => rfl⟩
  | succ n ih =>
    intro l h hl
    rcases List.eq_nil_or_concat l with q | ⟨t, b, q⟩
    · rw [q] at h; exact absurd h (by simp)
    · rw [q, List.concat_eq_append] at h hl ⊢
      rw [List.length_append, List.length_cons, List.length_nil] at h
      have h2 := lets_app.mp hl
      have h3 := lets_one.mp h2.2
      have i := ih t (by omega) h2.1
      rw [rk_snoc, kd1_let h3, Int.pow_succ]
      refine ⟨by omega, by omega, fun z => by omega⟩
theorem rk_inj : ∀ (n : Nat) (l m : List Int), l.length = n → lets l → lets m → rk l = rk m → l = m := by
  intro n
  induction n with
  | zero =>
    intro l m h _ hm e
    have hl := List.length_eq_zero_iff.mp h
    rw [hl] at e ⊢
    exact ((rk_lt _ m rfl hm).2.2 e.symm).symm
  | succ n ih =>
    intro l m h hl hm e
    rcases List.eq_nil_or_concat l with q | ⟨t, b, q⟩
    · rw [q] at h; exact absurd h (by simp)
    · rcases List.eq_nil_or_concat m with r | ⟨u, c, r⟩
      · rw [r] at e ⊢
        exact (rk_lt _ l rfl hl).2.2 e
      · rw [q, List.concat_eq_append] at h hl e ⊢
        rw [r, List.concat_eq_append] at hm e ⊢
        rw [List.length_append, List.length_cons, List.length_nil] at h
        have h2 := lets_app.mp hl
        have h3 := lets_one.mp h2.2
        have g2 := lets_app.mp hm
        have g3 := lets_one.mp g2.2
        rw [rk_snoc, rk_snoc, kd1_let h3, kd1_let g3] at e
        rw [ih t u (by omega) h2.1 g2.1 (by omega), show b = c by omega]
theorem w64_id {x : Int} (h0 : -9223372036854775808 ≤ x) (h1 : x < 9223372036854775808) : w64 x = x := by unfold w64; omega
theorem w64_add (a b : Int) : w64 (w64 a + b) = w64 (a + b) := by unfold w64; omega
theorem w64_add' (a b : Int) : w64 (a + w64 b) = w64 (a + b) := by unfold w64; omega
theorem w64_sub (a b : Int) : w64 (w64 a - b) = w64 (a - b) := by unfold w64; omega
theorem w64_eq {a b : Int} (h : (18446744073709551616 : Int) ∣ (a - b)) : w64 a = w64 b := by unfold w64; omega
theorem w64_dvd (a : Int) : (18446744073709551616 : Int) ∣ (w64 a - a) := by unfold w64; omega
theorem w64_mul (a b : Int) : w64 (w64 a * b) = w64 (a * b) := by
  apply w64_eq
  rw [← Int.sub_mul]
  exact Int.dvd_trans (w64_dvd a) (Int.dvd_mul_right _ _)
theorem w64_mul' (a b : Int) : w64 (a * w64 b) = w64 (a * b) := by rw [Int.mul_comm, w64_mul, Int.mul_comm]
theorem rk8 {l : List Int} (h : l.length ≤ 8) (hl : lets l) : 0 ≤ rk l ∧ rk l < 3512479453921 := by
  have h1 := rk_lt _ l rfl hl
  refine ⟨h1.1, ?_⟩
  have z : ∀ n, n < 9 → (37 : Int) ^ n ≤ 3512479453921 := by decide
  have := z l.length (by omega)
  omega
theorem key_inj {l m : List Int} (h : l.length ≤ 8) (hl : lets l) (g : m.length ≤ 8) (hm : lets m) (e : w64 (rk l) = w64 (rk m)) : l = m := by
  have h1 := rk8 h hl
  have h2 := rk8 g hm
  rw [w64_id (by omega) (by omega), w64_id (by omega) (by omega)] at e
  exact rk_inj _ l m rfl hl hm e
/-- the onset: all ahead of the first vowel -/
def vowB (b : Int) : Bool := b == 97 || b == 101 || b == 105 || b == 111 || b == 117
theorem vowB_iff {b : Int} : vowB b = true ↔ q_vow b := by
  unfold vowB q_vow; simp [or_assoc]
def onsN : List Int → Nat
  | [] => 0
  | b :: t => if vowB b then 0 else onsN t + 1
theorem onsN_le : ∀ l : List Int, onsN l ≤ l.length
  | [] => Nat.le_refl 0
  | b :: t => by
    unfold onsN; split
    · exact Nat.zero_le _
    · have := onsN_le t; rw [List.length_cons]; omega
theorem onsN_uniq : ∀ (l : List Int) (n : Nat), n ≤ l.length → (∀ i, i < n → ¬ q_vow (l.getD i 0)) → (n < l.length → q_vow (l.getD n 0)) → n = onsN l
  | [], n, h, _, _ => by have : n = 0 := by simpa using h
                         rw [this]; rfl
  | b :: t, n, h, h1, h2 => by
    unfold onsN
    cases n with
    | zero =>
      have : q_vow b := h2 (by simp)
      rw [if_pos (vowB_iff.mpr this)]
    | succ n =>
      have e : ¬ q_vow b := h1 0 (by omega)
      rw [if_neg (fun z => e (vowB_iff.mp z)), ← onsN_uniq t n (by simpa using h) (fun i hi => h1 (i + 1) (by omega)) (fun hn => h2 (by rw [List.length_cons]; omega))]
def ons (l : List Int) : List Int := l.take (onsN l)
def rst (l : List Int) : List Int := l.drop (onsN l)
theorem ons_len (l : List Int) : (ons l).length = onsN l := by unfold ons; rw [List.length_take]; have := onsN_le l; omega
theorem rst_len (l : List Int) : (rst l).length = l.length - onsN l := by unfold rst; rw [List.length_drop]
theorem ons_rst (l : List Int) : ons l ++ rst l = l := List.take_append_drop _ _
theorem lets_ons {l : List Int} (h : lets l) : lets (ons l) := fun b hb => h b (List.mem_of_mem_take hb)
theorem lets_rst {l : List Int} (h : lets l) : lets (rst l) := fun b hb => h b (List.mem_of_mem_drop hb)
end
