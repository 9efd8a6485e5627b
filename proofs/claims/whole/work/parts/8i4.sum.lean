section
theorem c_22 {d : Nat} {P : Int → qM → Prop} {M : qM} {m nw r slot : Int} {WL : Int → List Int} {WS WE WO : Int → Int} {ln : List Int} {T : List qT} {so : Option (List qS)} (hc : ctx M m nw WL WS WE WO ln) (hT : C_TK M m T) (hn : T.length ≤ mst ln.length) (hok : ∀ t ∈ T, okT nw ln t) (hd : ∀ i : Nat, i < T.length → C_de M m nw WL WE ln i (T.getD i (0, 0, 0))) (hso : C_so M r so) (hs : sepS m r so) (hsl : 0 ≤ slot ∧ slot < 5)
    (K : ∀ M', fr (ZW m slot) M M' → (∀ i : Nat, i < T.length → q_nm M' (m + 13 + slot) i = wT nw WL WS WO ln slot so (T.getD i (0, 0, 0))) → P 0 M') : q_WP q_Pr (d + 6) 22 [.inr (.inr m), .inl slot, .inr (.inr r), .inr (.inr 15)] M P := by
  have key := c_22l (d := d) (P := P) (c := 0) (s := 0) hc hT hn hok hd hso hs hsl K T.length 0 M (by omega) fr_rfl (fun j hj => absurd hj (Nat.not_lt_zero j))
  refine q_enter (t_22_0 hc.1.1 ⟨fun z => ?_, fun z => ?_⟩)
  · unfold mostOf at key; rw [if_neg z] at key; exact key
  · unfold mostOf at key; rw [if_pos z] at key; exact key
def sumN (w : Nat → Int) : Nat → Int
  | 0 => 0
  | n + 1 => sumN w n + w n
def shT (w : Nat → Int) (tx : Nat → List Int) (l : List Int) : Nat → Int
  | 0 => 0
  | n + 1 => shT w tx l n + (if tx n = l then w n else 0)
theorem sumN_rng {w : Nat → Int} (h : ∀ i, 0 ≤ w i ∧ w i ≤ 1000) : ∀ n : Nat, 0 ≤ sumN w n ∧ sumN w n ≤ 1000 * n := by
  intro n
  induction n with
  | zero => exact ⟨Int.le_refl 0, Int.le_refl 0⟩
  | succ n ih => have := h n; unfold sumN; omega
theorem shT_rng {w : Nat → Int} {tx : Nat → List Int} {l : List Int} (h : ∀ i, 0 ≤ w i ∧ w i ≤ 1000) : ∀ n : Nat, 0 ≤ shT w tx l n ∧ shT w tx l n ≤ sumN w n := by
  intro n
  induction n with
  | zero => exact ⟨Int.le_refl 0, Int.le_refl 0⟩
  | succ n ih => have := h n; unfold shT sumN; split <;> omega
theorem shT_zero {w : Nat → Int} {tx : Nat → List Int} {l : List Int} : ∀ n : Nat, (∀ j, j < n → tx j ≠ l) → shT w tx l n = 0 := by
  intro n
  induction n with
  | zero => intro _; rfl
  | succ n ih => intro h; unfold shT; rw [ih (fun j hj => h j (by omega)), if_neg (h n (by omega))]; rfl
/-- the weights by a making, their sums -/
def C_wt (M : qM) (m slot : Int) (w : Nat → Int) (tx : Nat → List Int) (n : Nat) : Prop := (∀ i : Nat, i < n → q_nm M (m + 13 + slot) i = w i) ∧ q_nm M (m + 3) slot = sumN w n ∧ ∀ i : Nat, i < n → (∀ j, j < i → tx j ≠ tx i) → q_nm M (m + 19 + slot) i = shT w tx (tx i) n
def ZS (m slot : Int) : Int → Int → Prop := fun a j => a = m + 19 + slot ∨ (a = m + 3 ∧ j = slot)
theorem c_23l {d : Nat} {P : Int → qM → Prop} {M0 : qM} {m slot : Int} {ln : List Int} {N : Nat} {w : Nat → Int} {tx : Nat → List Int} {c s : Nat} (hM : q_ml M0 m ln.length (mst ln.length)) (h6 : ln.length ≤ 6) (h3 : q_nm M0 m 3 = N) (hN : N ≤ mst ln.length) (hsl : 0 ≤ slot ∧ slot < 5) (hw : ∀ i : Nat, i < N → q_nm M0 (m + 13 + slot) i = w i) (wr : ∀ i, 0 ≤ w i ∧ w i ≤ 1000) (hL : ∀ j : Nat, j < N → ∃ l : Nat, isL tx j l ∧ q_nm M0 (m + 11) j = l)
    (K : ∀ M', fr (ZS m slot) M0 M' → C_wt M' m slot w tx N → P 0 M') : ∀ (n i : Nat) (M : qM), i + n = N → fr (ZS m slot) M0 M → q_nm M (m + 3) slot = sumN w i → (∀ a : Nat, a < i → (∀ j, j < a → tx j ≠ tx a) → q_nm M (m + 19 + slot) a = shT w tx (tx a) i) → q_At q_m23 (q_WP q_Pr d) P 9 [(0, .inr (.inr m)), (1, .inl slot), (2, .inl (i : Int))] [] M c s := by
  have ge := q_ml_ge hM
  have m6 := mst_le h6
  intro n
  induction n with
  | zero =>
    intro i M e hf ht hs
    have ei : i = N := by omega
    subst ei
    refine t_23_9 (q_ml_fr hf hM) ?_
    rw [hf.2 m 3 (by unfold ZS; omega), h3]
    exact ⟨fun _ => K M hf ⟨fun j hj => (hf.2 _ _ (by unfold ZS; omega)).trans (hw j hj), ht, hs⟩, fun z => absurd z (by omega)⟩
  | succ n ih =>
    intro i M e hf ht hs
    have hm := q_ml_fr hf hM
    have a := mw hm hsl.1 hsl.2
    have b := ms hm hsl.1 hsl.2
    obtain ⟨l, hl, el⟩ := hL i (by omega)
    have hl1 := hl.1
    refine t_23_9 hm ?_
    rw [hf.2 m 3 (by unfold ZS; omega), h3, b.1, b.2.1, b.2.2, w32_id (x := (i : Int) + 1) (by omega) (by omega)]
    refine ⟨fun z => absurd z (by omega), fun _ => ⟨hsl, ⟨⟨by omega, rfl⟩, by omega, by omega⟩, fun M1 e1 l1 => ?_⟩⟩
    have a1 := mw l1 hsl.1 hsl.2
    have b1 := ms l1 hsl.1 hsl.2
    have el1 : q_nm M1 (m + 11) i = l := by rw [wn_ne e1 (by omega), hf.2 _ _ (by unfold ZS; omega)]; exact el
    have ew1 : q_nm M1 (m + 13 + slot) i = w i := by rw [wn_ne e1 (by omega), hf.2 _ _ (by unfold ZS; omega)]; exact hw i (by omega)
    have sr := fun x => shT_rng (tx := tx) (l := x) wr i
    have sn := sumN_rng wr i
    have wi := wr i
    rw [b1.1, b1.2.1, b1.2.2, a1.1, a1.2.1, a1.2.2, el1, ew1]
    -- what stands at the leader
    have vl : q_nm M1 (m + 19 + slot) l = shT w tx (tx i) i := by
      by_cases c1 : l = i
      · rw [c1, wn_eq e1, shT_zero i (fun j hj => by have := hl.2.2 j (by omega); exact this)]
      · rw [wn_ne e1 (by omega), hs l (by omega) (fun j hj => by rw [hl.2.1]; exact hl.2.2 j hj), hl.2.1]
    have r1 := sr (tx i)
    rw [vl, w32_id (x := shT w tx (tx i) i + w i) (by omega) (by omega)]
    refine ⟨hsl, by omega, ⟨rfl, by omega, by omega⟩, hsl, ⟨rfl, by omega, by omega⟩, ⟨⟨by omega, rfl⟩, by omega, by omega⟩, fun M2 e2 l2 => ?_⟩
    have a2 := mw l2 hsl.1 hsl.2
    have ew2 : q_nm M2 (m + 13 + slot) i = w i := (wn_ne e2 (by omega)).trans ew1
    have et2 : q_nm M2 (m + 3) slot = sumN w i := by rw [wn_ne e2 (by omega), wn_ne e1 (by omega)]; exact ht
    rw [a2.1, a2.2.1, a2.2.2, ew2, et2, w32_id (x := sumN w i + w i) (by omega) (by omega)]
    refine ⟨hsl, hsl, ⟨rfl, by omega, by omega⟩, hsl, fun M3 e3 l3 => ih (i + 1) M3 (by omega) (fr_trans hf (fr_trans (fr_wn e1 (Or.inl rfl)) (fr_trans (fr_wn e2 (Or.inl rfl)) (fr_wn e3 (Or.inr ⟨rfl, rfl⟩))))) (wn_eq e3) (fun x hx hlx => ?_)⟩
    rw [wn_ne e3 (by omega)]
    have es : shT w tx (tx x) (i + 1) = shT w tx (tx x) i + (if tx i = tx x then w i else 0) := rfl
    rw [es]
    by_cases c1 : x = l
    · rw [c1, wn_eq e2, hl.2.1, if_pos rfl]
    · have ne : tx i ≠ tx x := fun q => c1 (isL_uniq (k := x) ⟨Nat.le_refl x, rfl, hlx⟩ ⟨by
          rcases Nat.lt_or_ge x l with w | w
          · exact absurd q.symm (hl.2.2 x w)
          · exact w, hl.2.1.trans q, fun y hy => by rw [← q]; exact hl.2.2 y hy⟩)
      rw [if_neg ne, wn_ne e2 (by omega)]
      by_cases c2 : x = i
      · exact absurd (by rw [c2]) ne
      · rw [wn_ne e1 (by omega), hs x (by omega) hlx]; omega
theorem c_23 {d : Nat} {P : Int → qM → Prop} {M : qM} {m slot : Int} {ln : List Int} {N : Nat} {w : Nat → Int} {tx : Nat → List Int} (hM : q_ml M m ln.length (mst ln.length)) (h6 : ln.length ≤ 6) (h3 : q_nm M m 3 = N) (hN : N ≤ mst ln.length) (hsl : 0 ≤ slot ∧ slot < 5) (hw : ∀ i : Nat, i < N → q_nm M (m + 13 + slot) i = w i) (wr : ∀ i, 0 ≤ w i ∧ w i ≤ 1000) (hL : ∀ j : Nat, j < N → ∃ l : Nat, isL tx j l ∧ q_nm M (m + 11) j = l)
    (K : ∀ M', fr (ZS m slot) M M' → C_wt M' m slot w tx N → P 0 M') : q_WP q_Pr (d + 1) 23 [.inr (.inr m), .inl slot] M P := by
  have ge := q_ml_ge hM
  refine q_enter (t_23_0 hM ⟨hsl, fun M1 e1 l1 => ?_⟩)
  have f1 : fr (ZS m slot) M M1 := fr_wn e1 (Or.inr ⟨rfl, rfl⟩)
  exact c_23l l1 h6 ((f1.2 _ _ (by unfold ZS; omega)).trans h3) hN hsl (fun i hi => (f1.2 _ _ (by unfold ZS; omega)).trans (hw i hi)) wr (fun j hj => by
    obtain ⟨l, a, b⟩ := hL j hj
    exact ⟨l, a, (f1.2 _ _ (by unfold ZS; omega)).trans b⟩) (fun M' f2 c2 => K M' (fr_trans f1 f2) c2) N 0 M1 (by omega) fr_rfl (wn_eq e1) (fun a ha => absurd ha (Nat.not_lt_zero a))
/-- all of a row that is ready -/
def C_rdy (M : qM) (m nw : Int) (WL : Int → List Int) (WS WE WO : Int → Int) (ln : List Int) : Prop :=
  C_TK M m (TK nw WL WS WE ln) ∧ (∀ i : Nat, i < (TK nw WL WS WE ln).length → C_de M m nw WL WE ln i ((TK nw WL WS WE ln).getD i (0, 0, 0))) ∧ (∀ j : Nat, j < (TK nw WL WS WE ln).length → ∃ l : Nat, isL (fun j => txt WL ln ((TK nw WL WS WE ln).getD j (0, 0, 0))) j l ∧ q_nm M (m + 11) j = l)
noncomputable def txK (nw : Int) (WL : Int → List Int) (WS WE : Int → Int) (ln : List Int) (j : Nat) : List Int := txt WL ln ((TK nw WL WS WE ln).getD j (0, 0, 0))
noncomputable def wK (nw : Int) (WL : Int → List Int) (WS WE WO : Int → Int) (ln : List Int) (slot : Int) (so : Option (List qS)) (i : Nat) : Int := wT nw WL WS WO ln slot so ((TK nw WL WS WE ln).getD i (0, 0, 0))
theorem TK_ok {nw : Int} {WL : Int → List Int} {WS WE WO : Int → Int} {ln : List Int} (gW : G_W nw WL WS WE WO) (g : G_L nw ln) : (∀ t ∈ TK nw WL WS WE ln, okT nw ln t) ∧ (TK nw WL WS WE ln).length ≤ mst ln.length := by
  have gn := gW.1
  have g6 := g.1
  refine ⟨tkK_ok gn.1 8 (Nat.le_refl 8), ?_⟩
  have h := tkK_b (WL := WL) (WS := WS) (WE := WE) gn g 8 (Nat.le_refl 8)
  have k : ∀ n, n < 7 → sK n 8 ≤ mst n := by decide
  exact Nat.le_trans h (k ln.length (by omega))
/-- a row is weighed by a slot's script -/
theorem c_142 {d : Nat} {P : Int → qM → Prop} {M : qM} {m nw slot : Int} {WL : Int → List Int} {WS WE WO : Int → Int} {ln : List Int} {so : Option (List qS)} (hc : ctx M m nw WL WS WE WO ln) (hR : C_rdy M m nw WL WS WE WO ln) (hso : C_so M (q_rf M 14 slot) so) (hs : sepS m (q_rf M 14 slot) so) (hsl : 0 ≤ slot ∧ slot < 5) (hW : q_nm M (m + 2) slot ≠ 0 → C_wt M m slot (wK nw WL WS WE WO ln slot so) (txK nw WL WS WE ln) (TK nw WL WS WE ln).length)
    (K : ∀ M', fr (fun a j => (a = m + 2 ∧ j = slot) ∨ ZW m slot a j ∨ ZS m slot a j) M M' → q_nm M' (m + 2) slot ≠ 0 → C_wt M' m slot (wK nw WL WS WE WO ln slot so) (txK nw WL WS WE ln) (TK nw WL WS WE ln).length → P 0 M') : q_WP q_Pr (d + 7) 142 [.inr (.inr 0), .inr (.inr m), .inl slot] M P := by
  have ge := q_ml_ge hc.1.1
  have g6 := hc.2.2.2.1
  have tk := TK_ok hc.2.2.1 hc.2.2.2
  have hl := hc.1.1.1
  refine q_enter (t_142_0 hl ?_)
  rw [mr12 hc.1.1, mk0 hc.1.1, mk2 hc.1.1, ml2 hc.1.1]
  refine ⟨rfl, ⟨Or.inr rfl, hsl⟩, fun z => K M fr_rfl z (hW z), fun z => ⟨rfl, ⟨Or.inr rfl, hsl⟩, fun M1 e1 l1 => ?_⟩⟩
  have f1 : fr (fun a j => (a = m + 2 ∧ j = slot) ∨ ZW m slot a j ∨ ZS m slot a j) M M1 := fr_wn e1 (Or.inl ⟨rfl, rfl⟩)
  have hc1 : ctx M1 m nw WL WS WE WO ln := ctx_fr hc f1 (fun j => by unfold ZW ZS; omega) (fun a j _ _ => by unfold ZW ZS; omega)
  have e21 : q_nm M1 (m + 2) slot = 1 := by rw [wn_eq e1]; rfl
  have hT1 : C_TK M1 m (TK nw WL WS WE ln) := ⟨(wn_ne e1 (by omega)).trans hR.1.1, fun i hi => ⟨(wn_ne e1 (by omega)).trans (hR.1.2 i hi).1, (wn_ne e1 (by omega)).trans (hR.1.2 i hi).2.1, (wn_ne e1 (by omega)).trans (hR.1.2 i hi).2.2⟩⟩
  have hso1 : C_so M1 (q_rf M 14 slot) so := by
    cases so with
    | none => exact hso
    | some sc => exact ⟨C_sc_fr hso.1 (fr_wn (Z := fun a _ => a = m + 2) e1 rfl) (fun a j _ _ => by have h2 := hs.resolve_left (by simp); omega), hso.2⟩
  have er1 : q_rf M1 14 slot = q_rf M 14 slot := fr_rf f1 _ _
  rw [er1]
  refine ⟨by omega, mk0 hc1.1.1, ?_⟩
  refine c_22 hc1 hT1 tk.2 tk.1 (fun i hi => C_de_fr (hR.2.1 i hi) (fun a _ _ => wn_ne e1 (by omega))) hso1 hs hsl (fun M2 f2 c2 => ⟨fr_lay f2 hc1.1.1.1, mk0 (q_ml_fr f2 hc1.1.1), ?_⟩)
  refine c_23 (tx := txK nw WL WS WE ln) (w := wK nw WL WS WE WO ln slot so) (N := (TK nw WL WS WE ln).length) (q_ml_fr f2 hc1.1.1) g6.2 ((f2.2 _ _ (by unfold ZW; omega)).trans hT1.1) tk.2 hsl c2 (fun i => wT_rng _ _ _ _ _ _ _ _) (fun j hj => ?_) (fun M3 f3 c3 => ⟨fr_lay f3 (fr_lay f2 hc1.1.1.1), K M3 ?_ ?_ c3⟩)
  · obtain ⟨l, a, b⟩ := hR.2.2 j hj
    refine ⟨l, a, ?_⟩
    rw [f2.2 _ _ (by unfold ZW; omega), wn_ne e1 (by omega)]; exact b
  · exact fr_trans f1 (fr_trans (fr_mono f2 (fun a j q => Or.inr (Or.inl q))) (fr_mono f3 (fun a j q => Or.inr (Or.inr q))))
  · rw [f3.2 _ _ (by unfold ZS; omega), f2.2 _ _ (by unfold ZW; omega), e21]; decide
end
