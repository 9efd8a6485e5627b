section
/-! THE TOKENS OF A TEXT -/
def lrL : List Int → Nat
  | [] => 0
  | b :: t => if 97 ≤ b ∧ b ≤ 122 then lrL t + 1 else 0
def drL : Nat → List Int → Nat
  | 0, _ => 0
  | _ + 1, [] => 0
  | n + 1, b :: t => if 48 ≤ b ∧ b ≤ 57 then drL n t + 1 else 0
theorem lrL_le : ∀ l : List Int, lrL l ≤ l.length
  | [] => Nat.le_refl 0
  | b :: t => by
    have := lrL_le t
    unfold lrL; rw [List.length_cons]; split <;> omega
theorem lrL_in : ∀ (l : List Int) (k : Nat), k < lrL l → (97 ≤ l.getD k 0 ∧ l.getD k 0 ≤ 122)
  | [], k, h => absurd h (Nat.not_lt_zero k)
  | b :: t, k, h => by
    unfold lrL at h
    split at h
    · rename_i hb
      cases k with
      | zero => exact hb
      | succ k => exact lrL_in t k (by omega)
    · exact absurd h (Nat.not_lt_zero k)
theorem lrL_out : ∀ l : List Int, lrL l < l.length → ¬ (97 ≤ l.getD (lrL l) 0 ∧ l.getD (lrL l) 0 ≤ 122)
  | [], h => absurd h (Nat.not_lt_zero _)
  | b :: t, h => by
    unfold lrL at h ⊢
    by_cases hb : 97 ≤ b ∧ b ≤ 122
    · rw [if_pos hb] at h ⊢
      rw [List.length_cons] at h
      exact lrL_out t (by omega)
    · rw [if_neg hb]; exact hb
theorem drL_le : ∀ (n : Nat) (l : List Int), drL n l ≤ l.length ∧ drL n l ≤ n
  | 0, l => ⟨Nat.zero_le _, Nat.zero_le _⟩
  | n + 1, [] => ⟨Nat.le_refl 0, Nat.zero_le _⟩
  | n + 1, b :: t => by
    have := drL_le n t
    unfold drL; rw [List.length_cons]; split <;> omega
theorem drL_in : ∀ (n : Nat) (l : List Int) (k : Nat), k < drL n l → (48 ≤ l.getD k 0 ∧ l.getD k 0 ≤ 57)
  | 0, l, k, h => absurd h (Nat.not_lt_zero k)
  | n + 1, [], k, h => absurd h (Nat.not_lt_zero k)
  | n + 1, b :: t, k, h => by
    unfold drL at h
    split at h
    · rename_i hb
      cases k with
      | zero => exact hb
      | succ k => exact drL_in n t k (by omega)
    · exact absurd h (Nat.not_lt_zero k)
theorem drL_out : ∀ (n : Nat) (l : List Int), drL n l < l.length → drL n l < n → ¬ (48 ≤ l.getD (drL n l) 0 ∧ l.getD (drL n l) 0 ≤ 57)
  | 0, l, _, h => absurd h (Nat.not_lt_zero _)
  | n + 1, [], h, _ => absurd h (Nat.not_lt_zero _)
  | n + 1, b :: t, h, h2 => by
    unfold drL at h h2 ⊢
    by_cases hb : 48 ≤ b ∧ b ≤ 57
    · rw [if_pos hb] at h h2 ⊢
      rw [List.length_cons] at h
      exact drL_out n t (by omega) (by omega)
    · rw [if_neg hb]; exact hb
theorem tb_drop {tp : List Int} {p k : Nat} (h : p + k < tp.length) : tb tp ((p : Int) + k) = (tp.drop p).getD k 0 := by
  rw [tb_in (by omega) (by omega), show ((p : Int) + (k : Int)).toNat = p + k by omega, List.getD_eq_getElem?_getD, List.getD_eq_getElem?_getD, List.getElem?_drop]
/-- how many letters, how many digits (at most four) stand at p -/
def yLr (tp : List Int) (p : Nat) : Nat := lrL (tp.drop p)
def yDr (tp : List Int) (p : Nat) : Nat := drL 4 (tp.drop p)
theorem yLr_le {tp : List Int} {p : Nat} (h : p ≤ tp.length) : p + yLr tp p ≤ tp.length := by
  have := lrL_le (tp.drop p); rw [List.length_drop] at this; unfold yLr; omega
theorem yLr_in {tp : List Int} {p k : Nat} (h : k < yLr tp p) : 97 ≤ tb tp ((p : Int) + k) ∧ tb tp ((p : Int) + k) ≤ 122 := by
  have := lrL_le (tp.drop p); rw [List.length_drop] at this; unfold yLr at h
  rw [tb_drop (by omega)]; exact lrL_in _ k h
theorem yLr_out {tp : List Int} {p : Nat} : ¬ (97 ≤ tb tp ((p : Int) + yLr tp p) ∧ tb tp ((p : Int) + yLr tp p) ≤ 122) := by
  by_cases h : p + yLr tp p < tp.length
  · rw [tb_drop h]
    exact lrL_out _ (by rw [List.length_drop]; unfold yLr at h; omega)
  · rw [tb_out (by omega)]; omega
theorem yDr_le {tp : List Int} {p : Nat} (h : p ≤ tp.length) : p + yDr tp p ≤ tp.length ∧ yDr tp p ≤ 4 := by
  have := drL_le 4 (tp.drop p); rw [List.length_drop] at this; unfold yDr; omega
theorem yDr_in {tp : List Int} {p k : Nat} (h : k < yDr tp p) : 48 ≤ tb tp ((p : Int) + k) ∧ tb tp ((p : Int) + k) ≤ 57 := by
  have := drL_le 4 (tp.drop p); rw [List.length_drop] at this; unfold yDr at h
  rw [tb_drop (by omega)]; exact drL_in 4 _ k h
theorem yDr_out {tp : List Int} {p : Nat} (h4 : yDr tp p < 4) : ¬ (48 ≤ tb tp ((p : Int) + yDr tp p) ∧ tb tp ((p : Int) + yDr tp p) ≤ 57) := by
  by_cases h : p + yDr tp p < tp.length
  · rw [tb_drop h]
    exact drL_out 4 _ (by rw [List.length_drop]; unfold yDr at h; omega) h4
  · rw [tb_out (by omega)]; omega
theorem yLr_pos {tp : List Int} {p : Nat} (h : 97 ≤ tb tp p ∧ tb tp p ≤ 122) : 0 < yLr tp p := by
  refine Nat.pos_of_ne_zero (fun e => ?_)
  have := yLr_out (tp := tp) (p := p)
  rw [e] at this
  exact this (by simpa using h)
theorem yDr_pos {tp : List Int} {p : Nat} (h : 48 ≤ tb tp p ∧ tb tp p ≤ 57) : 0 < yDr tp p := by
  refine Nat.pos_of_ne_zero (fun e => ?_)
  have := yDr_out (tp := tp) (p := p) (by omega)
  rw [e] at this
  exact this (by simpa using h)
theorem yLr_z {tp : List Int} {p : Nat} (h : ¬ (97 ≤ tb tp p ∧ tb tp p ≤ 122)) : yLr tp p = 0 := by
  refine Classical.byContradiction (fun e => h ?_)
  have := yLr_in (tp := tp) (p := p) (k := 0) (by omega)
  simpa using this
theorem yDr_z {tp : List Int} {p : Nat} (h : ¬ (48 ≤ tb tp p ∧ tb tp p ≤ 57)) : yDr tp p = 0 := by
  refine Classical.byContradiction (fun e => h ?_)
  have := yDr_in (tp := tp) (p := p) (k := 0) (by omega)
  simpa using this
/-- which own word -/
def owF (w : List Int) : List (List Int) → Int → Int
  | [], _ => -2
  | x :: t, k => if x = w then k else owF w t (k + 1)
def own (w : List Int) : Int := owF w owl 0
theorem owF_sp (w : List Int) : ∀ (l : List (List Int)) (k : Int), (owF w l k = -2 ∧ ∀ m, m < l.length → l.getD m [] ≠ w) ∨ ∃ n : Nat, n < l.length ∧ owF w l k = k + n ∧ l.getD n [] = w
  | [], k => Or.inl ⟨rfl, fun m h => absurd h (Nat.not_lt_zero m)⟩
  | x :: t, k => by
    unfold owF
    by_cases h : x = w
    · rw [if_pos h]; exact Or.inr ⟨0, by simp, by simp, h⟩
    · rw [if_neg h]
      rcases owF_sp w t (k + 1) with q | ⟨n, q1, q2, q3⟩
      · refine Or.inl ⟨q.1, fun m hm => ?_⟩
        cases m with
        | zero => exact h
        | succ m => exact q.2 m (by rw [List.length_cons] at hm; omega)
      · exact Or.inr ⟨n + 1, by rw [List.length_cons]; omega, by rw [q2]; omega, q3⟩
theorem owl_len : owl.length = 24 := by decide
set_option maxRecDepth 100000 in
theorem owl_ne : ((List.range 24).all fun m => (List.range 24).all fun n => decide (owl.getD m [] = owl.getD n [] → m = n)) = true := by decide +kernel
theorem owl_inj {m n : Nat} (hm : m < 24) (hn : n < 24) (h : owl.getD m [] = owl.getD n []) : m = n := by
  have q := List.all_eq_true.mp (List.all_eq_true.mp owl_ne m (List.mem_range.mpr hm)) n (List.mem_range.mpr hn)
  rw [decide_eq_true_eq] at q
  exact q h
theorem own_rng (w : List Int) : own w = -2 ∨ (0 ≤ own w ∧ own w ≤ 23) := by
  have := owl_len
  rcases owF_sp w owl 0 with q | ⟨n, q1, q2, _⟩
  · exact Or.inl q.1
  · right; show 0 ≤ owF w owl 0 ∧ owF w owl 0 ≤ 23; omega
theorem own_iff {w : List Int} {n : Nat} (hn : n < 24) : own w = n ↔ owl.getD n [] = w := by
  have hl := owl_len
  rcases owF_sp w owl 0 with q | ⟨m, q1, q2, q3⟩
  · constructor
    · intro e; have := q.1; unfold own at e; omega
    · intro e; exact absurd e (q.2 n (by omega))
  · constructor
    · intro e
      have : m = n := by unfold own at e; omega
      rw [← this]; exact q3
    · intro e
      have : m = n := owl_inj (by omega) hn (q3.trans e.symm)
      unfold own; omega
abbrev ySg (b : Int) : Prop := b = 40 ∨ b = 41 ∨ b = 42 ∨ b = 43 ∨ b = 44 ∨ b = 45 ∨ b = 47 ∨ b = 59 ∨ b = 60 ∨ b = 61 ∨ b = 62 ∨ b = 91 ∨ b = 93
def vl (tp : List Int) (p : Nat) : Nat → Int
  | 0 => 0
  | k + 1 => 10 * vl tp p k + tb tp ((p : Int) + k) - 48
def yB (tp : List Int) (p : Nat) : Bool := decide ((97 ≤ tb tp p ∧ tb tp p ≤ 122) ∨ (48 ≤ tb tp p ∧ tb tp p ≤ 57))
/-- where what begins at p ends -/
def yE (tp : List Int) (p : Nat) : Nat := if 97 ≤ tb tp p ∧ tb tp p ≤ 122 then p + yLr tp p else if 48 ≤ tb tp p ∧ tb tp p ≤ 57 then p + yDr tp p else min tp.length (p + 1)
def ySq (tp : List Int) : Nat → Nat × Bool
  | 0 => (0, false)
  | i + 1 => (yE tp (skp tp (ySq tp i).1), yB tp (skp tp (ySq tp i).1))
def yP (tp : List Int) (i : Nat) : Nat := skp tp (ySq tp i).1
def yG (tp : List Int) (i : Nat) : Bool := (ySq tp i).2 && decide (yP tp i = (ySq tp i).1)
def ySl (tp : List Int) (p : Nat) : List Int := (tp.drop p).take (yLr tp p)
def yTv (tp : List Int) (p : Nat) : Int := if tp.length ≤ p then -1 else if 97 ≤ tb tp p ∧ tb tp p ≤ 122 then own (ySl tp p) else if 48 ≤ tb tp p ∧ tb tp p ≤ 57 then 1000 + vl tp p (yDr tp p) else if ySg (tb tp p) then tb tp p else -2
def yT (tp : List Int) (i : Nat) : Int := if (yG tp i && yB tp (yP tp i)) = true then -2 else yTv tp (yP tp i)
/-- a fifth digit stands behind a number -/
def yD5 (tp : List Int) (i : Nat) : Bool := decide (yDr tp (yP tp i) = 4 ∧ 48 ≤ tb tp ((yP tp i : Nat) + 4 : Int) ∧ tb tp ((yP tp i : Nat) + 4 : Int) ≤ 57)
theorem vl_rng {tp : List Int} {p : Nat} : ∀ k : Nat, (∀ j : Nat, j < k → 48 ≤ tb tp ((p : Int) + j) ∧ tb tp ((p : Int) + j) ≤ 57) → (0 ≤ vl tp p k ∧ vl tp p k < (10 : Int) ^ k)
  | 0, _ => ⟨Int.le_refl 0, by show (0 : Int) < 10 ^ 0; decide⟩
  | k + 1, h => by
    have q := vl_rng k (fun j hj => h j (by omega))
    have d := h k (by omega)
    unfold vl
    rw [Int.pow_succ]
    omega
theorem vl_dr {tp : List Int} {p k : Nat} (hk : k ≤ yDr tp p) : 0 ≤ vl tp p k ∧ vl tp p k ≤ 9999 := by
  have q := vl_rng (tp := tp) (p := p) k (fun j hj => yDr_in (by omega))
  have d : yDr tp p ≤ 4 := (drL_le 4 _).2
  have e : k = 0 ∨ k = 1 ∨ k = 2 ∨ k = 3 ∨ k = 4 := by omega
  rcases e with e | e | e | e | e <;> rw [e] at q ⊢ <;> simp at q <;> omega
theorem skp_idem {tp : List Int} {a : Nat} : skp tp (skp tp a) = skp tp a := by
  have key : ∀ (n a : Nat), a + n = tp.length → skp tp (skp tp a) = skp tp a := by
    intro n
    induction n with
    | zero => intro a h; rw [skp_e (show tp.length ≤ a by omega), skp_e (show tp.length ≤ a by omega)]
    | succ n ih =>
      intro a h
      by_cases hb : tp.getD a 0 = 10 ∨ tp.getD a 0 = 32
      · rw [skp_s (by omega) hb]; exact ih (a + 1) (by omega)
      · rw [skp_n (by omega) hb, skp_n (by omega) hb]
  rcases Nat.lt_or_ge a tp.length with h | h
  · exact key (tp.length - a) a (by omega)
  · rw [skp_e h, skp_e h]
theorem skp_nb {tp : List Int} {a : Nat} : ¬ (tb tp (skp tp a) = 10 ∨ tb tp (skp tp a) = 32) := by
  have key : ∀ (n a : Nat), a + n = tp.length → ¬ (tb tp (skp tp a) = 10 ∨ tb tp (skp tp a) = 32) := by
    intro n
    induction n with
    | zero => intro a h; rw [skp_e (show tp.length ≤ a by omega), tb_out (by omega)]; omega
    | succ n ih =>
      intro a h
      by_cases hb : tp.getD a 0 = 10 ∨ tp.getD a 0 = 32
      · rw [skp_s (by omega) hb]; exact ih (a + 1) (by omega)
      · rw [skp_n (by omega) hb, tb_in (by omega) (by omega), show ((a : Int)).toNat = a by omega]; exact hb
  rcases Nat.lt_or_ge a tp.length with h | h
  · exact key (tp.length - a) a (by omega)
  · rw [skp_e h, tb_out (by omega)]; omega
theorem skp_of_nb {tp : List Int} {a : Nat} (h : ¬ (tb tp a = 10 ∨ tb tp a = 32)) : skp tp a = a := by
  rcases Nat.lt_or_ge a tp.length with q | q
  · refine skp_n q ?_
    rw [tb_in (by omega) (by omega), show ((a : Int)).toNat = a by omega] at h; exact h
  · exact skp_e q
theorem tb_lt {tp : List Int} {p : Nat} (h : 0 ≤ tb tp p) : p < tp.length := by
  rcases Nat.lt_or_ge p tp.length with q | q
  · exact q
  · rw [tb_out (by omega)] at h; omega
theorem yE_le {tp : List Int} {p : Nat} (h : p ≤ tp.length) : p ≤ yE tp p ∧ yE tp p ≤ tp.length := by
  have := yLr_le h
  have := yDr_le h
  unfold yE; split
  · omega
  · split <;> omega
theorem ySq_le (tp : List Int) : ∀ i, (ySq tp i).1 ≤ tp.length
  | 0 => Nat.zero_le _
  | i + 1 => (yE_le (skp_le (ySq_le tp i)).2).2
theorem yP_le (tp : List Int) (i : Nat) : (ySq tp i).1 ≤ yP tp i ∧ yP tp i ≤ tp.length := skp_le (ySq_le tp i)
theorem yE_lt {tp : List Int} {p : Nat} (h : p < tp.length) : p < yE tp p := by
  unfold yE
  split
  · rename_i q; have := yLr_pos q; omega
  · split
    · rename_i q; have := yDr_pos q; omega
    · omega
theorem ySq_s (tp : List Int) (i : Nat) : ySq tp (i + 1) = (yE tp (yP tp i), yB tp (yP tp i)) := rfl
/-- the end -/
theorem yT_end {tp : List Int} {i : Nat} (g : G_T tp) : yT tp i = -1 ↔ tb tp (yP tp i) = -1 := by
  have hb := tb_all g ((yP tp i : Nat) : Int)
  have hm := tb_m1 g ((yP tp i : Nat) : Int)
  have ho := own_rng (ySl tp (yP tp i))
  constructor
  · intro h
    unfold yT at h
    split at h
    · omega
    · unfold yTv at h
      split at h
      · exact tb_out (by omega)
      · split at h
        · omega
        · split at h
          · have := vl_dr (tp := tp) (p := yP tp i) (Nat.le_refl _); omega
          · split at h
            · rename_i q; unfold ySg at q; omega
            · omega
  · intro h
    have hp : tp.length ≤ yP tp i := by
      rcases Nat.lt_or_ge (yP tp i) tp.length with q | q
      · exact absurd h (hm.mpr ⟨by omega, by omega⟩)
      · exact q
    unfold yT
    rw [if_neg]
    · unfold yTv; rw [if_pos hp]
    · unfold yB; rw [Bool.and_eq_true, decide_eq_true_eq]; omega
/-- a sign -/
theorem yT_sg {tp : List Int} {i : Nat} {c : Int} (hc : ySg c) : yT tp i = c ↔ tb tp (yP tp i) = c := by
  have ho := own_rng (ySl tp (yP tp i))
  constructor
  · intro h
    unfold yT at h
    split at h
    · unfold ySg at hc; omega
    · unfold yTv at h
      split at h
      · unfold ySg at hc; omega
      · split at h
        · unfold ySg at hc; omega
        · split at h
          · have := vl_dr (tp := tp) (p := yP tp i) (Nat.le_refl _); unfold ySg at hc; omega
          · split at h
            · exact h
            · unfold ySg at hc; omega
  · intro h
    have hp := tb_lt (tp := tp) (p := yP tp i) (by unfold ySg at hc; omega)
    have n1 : ¬ (97 ≤ c ∧ c ≤ 122) := by unfold ySg at hc; omega
    have n2 : ¬ (48 ≤ c ∧ c ≤ 57) := by unfold ySg at hc; omega
    unfold yT
    rw [if_neg]
    · unfold yTv; rw [h, if_neg (by omega), if_neg n1, if_neg n2, if_pos hc]
    · unfold yB; rw [h, Bool.and_eq_true, decide_eq_true_eq]; exact fun q => q.2.elim n1 n2
theorem ySq_sg {tp : List Int} {i : Nat} {c : Int} (hc : ySg c) (h : yT tp i = c) : ySq tp (i + 1) = (yP tp i + 1, false) := by
  have h' := (yT_sg hc).mp h
  have hp := tb_lt (tp := tp) (p := yP tp i) (by unfold ySg at hc; omega)
  have n1 : ¬ (97 ≤ c ∧ c ≤ 122) := by unfold ySg at hc; omega
  have n2 : ¬ (48 ≤ c ∧ c ≤ 57) := by unfold ySg at hc; omega
  rw [ySq_s]
  unfold yE yB
  rw [h', if_neg n1, if_neg n2, Nat.min_eq_right (by omega)]
  rw [decide_eq_false (fun q => q.elim n1 n2)]
/-- an own word -/
theorem yT_wd {tp : List Int} {i n : Nat} (hn : n < 24) : yT tp i = n ↔ ((97 ≤ tb tp (yP tp i) ∧ tb tp (yP tp i) ≤ 122) ∧ yG tp i = false ∧ ySl tp (yP tp i) = owl.getD n []) := by
  constructor
  · intro h
    unfold yT at h
    split at h
    · omega
    · rename_i q
      unfold yTv at h
      split at h
      · omega
      · split at h
        · rename_i hL
          refine ⟨hL, ?_, ((own_iff hn).mp h).symm⟩
          have hB : yB tp (yP tp i) = true := by unfold yB; exact decide_eq_true (Or.inl hL)
          rw [hB, Bool.and_true] at q
          simpa using q
        · split at h
          · have := vl_dr (tp := tp) (p := yP tp i) (Nat.le_refl _); omega
          · split at h
            · rename_i q; unfold ySg at q; omega
            · omega
  · rintro ⟨h1, h2, h3⟩
    have hp := tb_lt (tp := tp) (p := yP tp i) (by omega)
    unfold yT
    rw [h2, Bool.false_and, if_neg (by decide)]
    unfold yTv
    rw [if_neg (by omega), if_pos h1]
    exact (own_iff hn).mpr h3.symm
theorem ySq_wd {tp : List Int} {i : Nat} (h : 97 ≤ tb tp (yP tp i) ∧ tb tp (yP tp i) ≤ 122) : ySq tp (i + 1) = (yP tp i + yLr tp (yP tp i), true) := by
  rw [ySq_s]
  unfold yE yB
  rw [if_pos h, decide_eq_true (Or.inl h)]
/-- a number -/
theorem yT_nm {tp : List Int} {i : Nat} : 1000 ≤ yT tp i ↔ ((48 ≤ tb tp (yP tp i) ∧ tb tp (yP tp i) ≤ 57) ∧ yG tp i = false) := by
  have ho := own_rng (ySl tp (yP tp i))
  constructor
  · intro h
    unfold yT at h
    split at h
    · omega
    · rename_i q
      unfold yTv at h
      split at h
      · omega
      · split at h
        · omega
        · split at h
          · rename_i hL
            refine ⟨hL, ?_⟩
            have hB : yB tp (yP tp i) = true := by unfold yB; exact decide_eq_true (Or.inr hL)
            rw [hB, Bool.and_true] at q
            simpa using q
          · split at h
            · rename_i q; unfold ySg at q; omega
            · omega
  · rintro ⟨h1, h2⟩
    have hp := tb_lt (tp := tp) (p := yP tp i) (by omega)
    have := vl_dr (tp := tp) (p := yP tp i) (Nat.le_refl _)
    unfold yT
    rw [h2, Bool.false_and, if_neg (by decide)]
    unfold yTv
    rw [if_neg (by omega), if_neg (by omega), if_pos h1]
    omega
theorem yT_nv {tp : List Int} {i : Nat} (h : 1000 ≤ yT tp i) : yT tp i = 1000 + vl tp (yP tp i) (yDr tp (yP tp i)) ∧ yT tp i ≤ 10999 := by
  obtain ⟨h1, h2⟩ := yT_nm.mp h
  have hp := tb_lt (tp := tp) (p := yP tp i) (by omega)
  have := vl_dr (tp := tp) (p := yP tp i) (Nat.le_refl _)
  have e : yT tp i = 1000 + vl tp (yP tp i) (yDr tp (yP tp i)) := by
    unfold yT
    rw [h2, Bool.false_and, if_neg (by decide)]
    unfold yTv
    rw [if_neg (by omega), if_neg (by omega), if_pos h1]
  exact ⟨e, by omega⟩
theorem ySq_nm {tp : List Int} {i : Nat} (h : 48 ≤ tb tp (yP tp i) ∧ tb tp (yP tp i) ≤ 57) : ySq tp (i + 1) = (yP tp i + yDr tp (yP tp i), true) := by
  rw [ySq_s]
  unfold yE yB
  rw [if_neg (by omega), if_pos h, decide_eq_true (Or.inr h)]
theorem yD5_sp {tp : List Int} {i : Nat} (h : 1000 ≤ yT tp i) (h5 : yD5 tp i = true) : yP tp (i + 1) = yP tp i + 4 ∧ yT tp (i + 1) = -2 := by
  obtain ⟨h1, h2⟩ := yT_nm.mp h
  unfold yD5 at h5
  rw [decide_eq_true_eq] at h5
  have e := ySq_nm h1
  rw [h5.1] at e
  have c : tb tp ((yP tp i + 4 : Nat) : Int) = tb tp ((yP tp i : Nat) + 4 : Int) := by congr 1
  have ep : yP tp (i + 1) = yP tp i + 4 := by
    show skp tp (ySq tp (i + 1)).1 = _
    rw [e]
    exact skp_of_nb (by rw [c]; omega)
  refine ⟨ep, ?_⟩
  unfold yT
  rw [if_pos]
  unfold yG yB
  rw [ep, e, c]
  simp only [Bool.and_eq_true, decide_eq_true_eq]
  exact ⟨⟨trivial, trivial⟩, Or.inr h5.2⟩
/-- a token that is no end moves on -/
theorem ySq_lt {tp : List Int} {i : Nat} (g : G_T tp) (h : yT tp i ≠ -1) : yP tp i < tp.length ∧ yP tp i < (ySq tp (i + 1)).1 := by
  have hp : yP tp i < tp.length := by
    rcases Nat.lt_or_ge (yP tp i) tp.length with q | q
    · exact q
    · exact absurd ((yT_end g).mpr (tb_out (by omega))) h
  exact ⟨hp, yE_lt hp⟩
theorem yT_all {tp : List Int} (i : Nat) : yT tp i = -2 ∨ yT tp i = -1 ∨ (0 ≤ yT tp i ∧ yT tp i ≤ 23) ∨ ySg (yT tp i) ∨ (1000 ≤ yT tp i ∧ yT tp i ≤ 10999) := by
  have ho := own_rng (ySl tp (yP tp i))
  by_cases h : 1000 ≤ yT tp i
  · exact Or.inr (Or.inr (Or.inr (Or.inr ⟨h, (yT_nv h).2⟩)))
  · unfold yT at h ⊢
    split
    · exact Or.inl rfl
    · rename_i q
      rw [if_neg q] at h
      unfold yTv at h ⊢
      split
      · exact Or.inr (Or.inl rfl)
      · rename_i q1
        rw [if_neg q1] at h
        split
        · rcases ho with o | o
          · exact Or.inl o
          · exact Or.inr (Or.inr (Or.inl o))
        · rename_i q2
          rw [if_neg q2] at h
          split
          · rename_i q3
            rw [if_pos q3] at h
            have := vl_dr (tp := tp) (p := yP tp i) (Nat.le_refl _)
            omega
          · split
            · rename_i q4; exact Or.inr (Or.inr (Or.inr (Or.inl q4)))
            · exact Or.inl rfl
theorem ySq_ge {tp : List Int} (g : G_T tp) : ∀ i, (∀ j, j < i → yT tp j ≠ -1) → i ≤ (ySq tp i).1
  | 0, _ => Nat.le_refl 0
  | i + 1, h => by
    have q := ySq_ge g i (fun j hj => h j (by omega))
    have p := ySq_lt g (h i (by omega))
    have e := (yP_le tp i).1
    omega
/-- the first token that ends the text -/
theorem yN_ex {tp : List Int} (g : G_T tp) : ∃ n, n ≤ tp.length ∧ (yT tp n = -1 ∨ yT tp n = -2) ∧ ∀ j, j < n → (yT tp j ≠ -1 ∧ yT tp j ≠ -2) := by
  have key : ∀ k, k ≤ tp.length → (∃ n, n < k ∧ (yT tp n = -1 ∨ yT tp n = -2) ∧ ∀ j, j < n → (yT tp j ≠ -1 ∧ yT tp j ≠ -2)) ∨ ∀ j, j < k → (yT tp j ≠ -1 ∧ yT tp j ≠ -2) := by
    intro k
    induction k with
    | zero => intro _; exact Or.inr (fun j hj => absurd hj (Nat.not_lt_zero j))
    | succ k ih =>
      intro hk
      rcases ih (by omega) with ⟨n, a, b, c⟩ | q
      · exact Or.inl ⟨n, by omega, b, c⟩
      · by_cases e : yT tp k = -1 ∨ yT tp k = -2
        · exact Or.inl ⟨k, by omega, e, q⟩
        · refine Or.inr (fun j hj => ?_)
          by_cases ej : j = k
          · rw [ej]; omega
          · exact q j (by omega)
  rcases key tp.length (Nat.le_refl _) with ⟨n, a, b, c⟩ | q
  · exact ⟨n, by omega, b, c⟩
  · refine ⟨tp.length, Nat.le_refl _, Or.inl ?_, q⟩
    have e := ySq_ge g tp.length (fun j hj => (q j hj).1)
    have p := yP_le tp tp.length
    exact (yT_end g).mpr (tb_out (by omega))
end
