section
/-! ROWS THAT COME -/
def lead : List Int → Nat
  | [] => 0
  | x :: t => if x = -1 then 0 else lead t + 1
theorem lead_of : ∀ (L : List Int) (n : Nat), n ≤ L.length → (∀ i, i < n → L.getD i 0 ≠ -1) → (n < L.length → L.getD n 0 = -1) → lead L = n := by
  intro L
  induction L with
  | nil => intro n h _ _; show 0 = n; simp at h; omega
  | cons x t ih =>
    intro n h h1 h2
    cases n with
    | zero =>
      have e : x = -1 := h2 (by simp)
      unfold lead; rw [if_pos e]
    | succ n =>
      have e : x ≠ -1 := h1 0 (by omega)
      unfold lead; rw [if_neg e, ih n (by simp at h; omega) (fun i hi => h1 (i + 1) (by omega)) (fun hn => h2 (by simp; omega))]
def rwP (nw : Int) (L : List Int) (n : Nat) : Prop := (1 ≤ n ∧ n ≤ 6) ∧ (∀ i, i < n → 0 ≤ L.getD i 0 ∧ L.getD i 0 < nw) ∧ ∀ i, n ≤ i → i < 6 → L.getD i 0 = -1
theorem rw_lead {nw : Int} {L : List Int} {n : Nat} (hL : L.length = 6) (h : rwP nw L n) : lead L = n := by
  refine lead_of L n (by have := h.1; omega) (fun i hi => ?_) (fun hn => h.2.2 n (Nat.le_refl n) (by omega))
  have := (h.2.1 i hi).1
  omega
theorem take_getD {L : List Int} {n i : Nat} (h : i < n) : (L.take n).getD i 0 = L.getD i 0 := by
  rw [List.getD_eq_getElem?_getD, List.getD_eq_getElem?_getD, List.getElem?_take, if_pos h]
def okRw (W : qW) (L : List Int) : Prop := w_nr W < 12 ∧ ∃ n, rwP (w_nw W) L n
abbrev lnOf (L : List Int) : List Int := L.take (lead L)
theorem lnOf_len {nw : Int} {L : List Int} {n : Nat} (hL : L.length = 6) (h : rwP nw L n) : (lnOf L).length = n ∧ ∀ i, i < n → (lnOf L).getD i 0 = L.getD i 0 := by
  have e := rw_lead hL h
  have h1 := h.1
  unfold lnOf
  rw [e]
  exact ⟨by rw [List.length_take]; omega, fun i hi => take_getD hi⟩
abbrev w_addR (W : qW) (ln : List Int) : qW := (W.1, W.2.1, (w_nr W + 1, fun r => if r = w_nr W then ln else w_RL W r), W.2.2.2)
theorem addR_RL {W : qW} {ln : List Int} {r : Int} (h : r < w_nr W) : w_RL (w_addR W ln) r = w_RL W r := if_neg (by omega)
theorem addR_new {W : qW} {ln : List Int} : w_RL (w_addR W ln) (w_nr W) = ln := if_pos rfl
theorem ln_G {W : qW} {L : List Int} {n : Nat} (hL : L.length = 6) (h : rwP (w_nw W) L n) : G_L (w_nw W) (lnOf L) := by
  have q := lnOf_len hL h
  have h1 := h.1
  refine ⟨by omega, fun w hw => ?_⟩
  rcases List.getElem_of_mem hw with ⟨i, hi, e⟩
  have := h.2.1 i (by omega)
  rw [← q.2 i (by omega), getD_el hi, e] at this
  exact this
theorem addR_G {W : qW} {L : List Int} {n : Nat} (g : WG W) (h12 : w_nr W < 12) (hL : L.length = 6) (h : rwP (w_nw W) L n) : WG (w_addR W (lnOf L)) := by
  obtain ⟨g1, g2, g3, g4, g5, g6⟩ := g
  refine ⟨g1, g2, ⟨⟨by have := g3.1; show 0 ≤ w_nr W + 1; omega, by show w_nr W + 1 ≤ 12; omega⟩, fun r a b => ?_⟩, g4, ⟨g5.1, fun i a b => ?_⟩, g6⟩
  · by_cases e : r = w_nr W
    · rw [e, addR_new]; exact ln_G hL h
    · have b' : r < w_nr W + 1 := b
      rw [addR_RL (by omega)]; exact g3.2 r a (by omega)
  · have q := g5.2 i a b
    exact ⟨⟨q.1.1, by have := q.1.2; show w_NR W i < w_nr W + 1; omega⟩, q.2⟩
def Zw (nr : Int) : Int → Int → Prop := fun a j => (a = 99 ∧ 6 * nr ≤ j)
theorem r_163v {d : Nat} {P : Int → qM → Prop} {M : qM} {x1 x2 x3 x4 x5 x6 k o : Int} {i : Nat} {c s : Nat} (hl : q_lay M) (hi : i < 6) (K : q_At q_m163 (q_WP q_Pr d) P 82 [(0, .inr (.inr 66)), (1, .inl x1), (2, .inl x2), (3, .inl x3), (4, .inl x4), (5, .inl x5), (6, .inl x6), (7, .inl k), (8, .inl o), (9, .inl (i : Int))] [.inl ([x1, x2, x3, x4, x5, x6].getD i 0)] M c s) : q_At q_m163 (q_WP q_Pr d) P 22 [(0, .inr (.inr 66)), (1, .inl x1), (2, .inl x2), (3, .inl x3), (4, .inl x4), (5, .inl x5), (6, .inl x6), (7, .inl k), (8, .inl o), (9, .inl (i : Int))] [] M c s := by
  refine t_163_22 hl ⟨fun z => absurd z (by omega), fun _ => ⟨fun n0 => ⟨fun n1 => ⟨fun n2 => ⟨fun n3 => ⟨fun n4 => ?_, fun e => ?_⟩, fun e => ?_⟩, fun e => ?_⟩, fun e => ?_⟩, fun e => ?_⟩⟩
  · have q : i = 5 := by omega
    subst q; exact K
  · have q : i = 4 := by omega
    subst q; exact K
  · have q : i = 3 := by omega
    subst q; exact K
  · have q : i = 2 := by omega
    subst q; exact K
  · have q : i = 1 := by omega
    subst q; exact K
  · have q : i = 0 := by omega
    subst q; exact K
theorem r_163z {d : Nat} {P : Int → qM → Prop} {M : qM} {x1 x2 x3 x4 x5 x6 : Int} {c s : Nat} (hl : q_lay M) (K : P (-1) M) : ∀ (n i : Nat) (k : Int), i + n = 6 → q_At q_m163 (q_WP q_Pr (d + 1)) P 22 [(0, .inr (.inr 66)), (1, .inl x1), (2, .inl x2), (3, .inl x3), (4, .inl x4), (5, .inl x5), (6, .inl x6), (7, .inl k), (8, .inl (0 : Int)), (9, .inl (i : Int))] [] M c s := by
  intro n
  induction n with
  | zero =>
    intro i k h0
    exact t_163_22 hl ⟨fun _ => ⟨fun _ => K, fun z => absurd rfl z⟩, fun z => absurd z (by omega)⟩
  | succ n ih =>
    intro i k h0
    refine r_163v hl (by omega) (t_163_82 hl ⟨fun _ => ?_, fun z => absurd rfl z⟩)
    refine t_163_124 hl ⟨fun _ => t_163_160 hl ?_, fun z => absurd rfl z⟩
    rw [w32_id (x := (i : Int) + 1) (by omega) (by omega), show (i : Int) + 1 = ((i + 1 : Nat) : Int) by omega]
    exact ih (i + 1) k (by omega)
theorem r_163l {d : Nat} {P : Int → qM → Prop} {M0 : qM} {nw nr x1 x2 x3 x4 x5 x6 : Int} {c s : Nat} (hnw : 0 ≤ nw ∧ nw ≤ 30) (hnr : 0 ≤ nr ∧ nr < 12) (h40 : q_nm M0 66 40 = nr) (h33 : q_nm M0 66 33 = nw) (K1 : ∀ (n : Nat) (M M' : qM), rwP nw [x1, x2, x3, x4, x5, x6] n → fr (Zw nr) M0 M → q_lay M' → (∀ j : Nat, j < n → q_nm M 99 (6 * nr + j) = [x1, x2, x3, x4, x5, x6].getD j 0) → fr (fun a j => (a = 98 ∧ j = nr) ∨ (a = 66 ∧ j = 40)) M M' → q_nm M' 98 nr = n → q_nm M' 66 40 = nr + 1 → P nr M') (K0 : (¬ ∃ n, rwP nw [x1, x2, x3, x4, x5, x6] n) → ∀ M', fr (Zw nr) M0 M' → P (-1) M') : ∀ (n i k : Nat) (M : qM), i + n = 6 → k ≤ i → fr (Zw nr) M0 M → q_lay M → (∀ j, j < k → 0 ≤ [x1, x2, x3, x4, x5, x6].getD j 0 ∧ [x1, x2, x3, x4, x5, x6].getD j 0 < nw) → (∀ j, k ≤ j → j < i → [x1, x2, x3, x4, x5, x6].getD j 0 = -1) → (∀ j : Nat, j < k → q_nm M 99 (6 * nr + j) = [x1, x2, x3, x4, x5, x6].getD j 0) → q_At q_m163 (q_WP q_Pr (d + 1)) P 22 [(0, .inr (.inr 66)), (1, .inl x1), (2, .inl x2), (3, .inl x3), (4, .inl x4), (5, .inl x5), (6, .inl x6), (7, .inl (k : Int)), (8, .inl (1 : Int)), (9, .inl (i : Int))] [] M c s := by
  intro n
  induction n with
  | zero =>
    intro i k M h0 hk f hl h1 h2 h3
    have e40 : q_nm M 66 40 = nr := (f.2 _ _ (by unfold Zw; omega)).trans h40
    refine t_163_22 hl ⟨fun _ => ⟨fun z => absurd z (by decide), fun _ => ⟨fun z => ?_, fun z => ?_⟩⟩, fun z => absurd z (by omega)⟩
    · rw [e40]
      refine ⟨hnr, fun M1 e1 l1 M2 e2 l2 => ?_⟩
      have a1 : q_nm M1 66 40 = nr := (wn_ne e1 (by omega)).trans e40
      have a2 : q_nm M2 66 40 = nr + 1 := by rw [wn_eq e2, a1]; exact w32_id (by omega) (by omega)
      rw [a2, show nr + 1 - 1 = nr by omega, w32_id (x := nr) (by omega) (by omega)]
      have f1 : fr (fun a j => (a = 98 ∧ j = nr) ∨ (a = 66 ∧ j = 40)) M M1 := fr_wn e1 (Or.inl ⟨rfl, rfl⟩)
      have f2 : fr (fun a j => (a = 98 ∧ j = nr) ∨ (a = 66 ∧ j = 40)) M1 M2 := fr_wn e2 (Or.inr ⟨rfl, rfl⟩)
      exact K1 k M M2 ⟨by omega, h1, fun j a b => h2 j a (by omega)⟩ f l2 h3 (fr_trans f1 f2) (by rw [wn_ne e2 (by omega), wn_eq e1]) a2
    · refine K0 (fun ⟨m, q⟩ => ?_) M f
      have q1 := (q.2.1 0 (by have := q.1; omega)).1
      have := h2 0 (by omega) (by omega)
      omega
  | succ n ih =>
    intro i k M h0 hk f hl h1 h2 h3
    have e40 : q_nm M 66 40 = nr := (f.2 _ _ (by unfold Zw; omega)).trans h40
    have e33 : q_nm M 66 33 = nw := (f.2 _ _ (by unfold Zw; omega)).trans h33
    refine r_163v hl (by omega) (t_163_82 hl ⟨fun z => absurd z (by decide), fun _ => ⟨fun y => ?_, fun y => ?_⟩⟩)
    · refine t_163_124 hl ⟨fun z => absurd z (by decide), fun _ => ⟨fun z => absurd y z, fun _ => t_163_160 hl ?_⟩⟩
      rw [w32_id (x := (i : Int) + 1) (by omega) (by omega), show (i : Int) + 1 = ((i + 1 : Nat) : Int) by omega]
      refine ih (i + 1) k M (by omega) (by omega) f hl h1 (fun j a b => ?_) h3
      by_cases e : j = i
      · rw [e]; exact y
      · exact h2 j a (by omega)
    · rw [e33, w32_id (x := nw - 1) (by omega) (by omega)]
      have bad : ¬ ((0 ≤ [x1, x2, x3, x4, x5, x6].getD i 0 ∧ [x1, x2, x3, x4, x5, x6].getD i 0 < nw) ∧ k = i) → ¬ ∃ n, rwP nw [x1, x2, x3, x4, x5, x6] n := fun b ⟨m, q⟩ => by
        have mi : i < m := by
          rcases Nat.lt_or_ge i m with u | u
          · exact u
          · exact absurd (q.2.2 i u (by omega)) y
        refine b ⟨q.2.1 i mi, ?_⟩
        rcases Nat.lt_or_ge k i with u | u
        · have r1 := (q.2.1 k (by omega)).1
          have r2 := h2 k (Nat.le_refl k) u
          omega
        · omega
      have zer : ¬ ((0 ≤ [x1, x2, x3, x4, x5, x6].getD i 0 ∧ [x1, x2, x3, x4, x5, x6].getD i 0 < nw) ∧ k = i) → q_At q_m163 (q_WP q_Pr (d + 1)) P 124 [(0, .inr (.inr 66)), (1, .inl x1), (2, .inl x2), (3, .inl x3), (4, .inl x4), (5, .inl x5), (6, .inl x6), (7, .inl (k : Int)), (9, .inl (i : Int)), (10, .inl ([x1, x2, x3, x4, x5, x6].getD i 0))] [.inl (0 : Int)] M c s := fun b => by
        refine t_163_124 hl ⟨fun _ => t_163_160 hl ?_, fun z => absurd rfl z⟩
        rw [w32_id (x := (i : Int) + 1) (by omega) (by omega), show (i : Int) + 1 = ((i + 1 : Nat) : Int) by omega]
        exact r_163z hl (K0 (bad b) M f) n (i + 1) k (by omega)
      refine ⟨fun z => ⟨fun u => zer (fun b => u (by have := b.2; omega)), fun u => ?_⟩, fun z => zer (fun b => z (by have := b.1; omega))⟩
      have ek : k = i := by omega
      refine t_163_124 hl ⟨fun v => absurd v (by decide), fun _ => ⟨fun _ => ?_, fun v => absurd v y⟩⟩
      rw [e40, w32_id (x := 6 * nr) (by omega) (by omega), w32_id (x := 6 * nr + (i : Int)) (by omega) (by omega)]
      refine ⟨by omega, fun M1 e1 l1 => t_163_160 l1 ?_⟩
      rw [w32_id (x := (i : Int) + 1) (by omega) (by omega), w32_id (x := (k : Int) + 1) (by omega) (by omega), show (i : Int) + 1 = ((i + 1 : Nat) : Int) by omega, show (k : Int) + 1 = ((k + 1 : Nat) : Int) by omega]
      refine ih (i + 1) (k + 1) M1 (by omega) (by omega) (fr_trans f (fr_wn e1 ⟨rfl, by omega⟩)) l1 (fun j a => ?_) (fun j a b => absurd a (by omega)) (fun j a => ?_)
      · by_cases e : j = k
        · rw [e, ek]; omega
        · exact h1 j (by omega)
      · by_cases e : j = k
        · rw [e, ek, wn_eq e1]
        · rw [wn_ne e1 (by omega)]; exact h3 j (by omega)
end
