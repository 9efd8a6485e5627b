section
/-! THE TOKENS OF THE COMPONENT -/
def tk_lay (M : qM) (t n : Int) : Prop := q_lay M ∧ 126 ≤ t ∧ q_kd M t = 8 ∧ (q_rf M t 0 = 1 ∧ q_rf M t 1 = t + 1 ∧ q_rf M t 2 = t + 2) ∧ (q_kd M (t + 1) = 14 ∧ q_ln M (t + 1) = n + 1) ∧ (q_kd M (t + 2) = 14 ∧ q_ln M (t + 2) = n + 1)
theorem tk_fr {Z : Int → Int → Prop} {M M' : qM} {t n : Int} (h : tk_lay M t n) (f : fr Z M M') : tk_lay M' t n :=
  ⟨fr_lay f h.1, h.2.1, (fr_kd f _).trans h.2.2.1, ⟨(fr_rf f _ _).trans h.2.2.2.1.1, (fr_rf f _ _).trans h.2.2.2.1.2.1, (fr_rf f _ _).trans h.2.2.2.1.2.2⟩, ⟨(fr_kd f _).trans h.2.2.2.2.1.1, (fr_ln f _).trans h.2.2.2.2.1.2⟩, ⟨(fr_kd f _).trans h.2.2.2.2.2.1, (fr_ln f _).trans h.2.2.2.2.2.2⟩⟩
def cT (tp : List Int) (t : Int) (M : qM) : Prop := tk_lay M t tp.length ∧ C_T tp M ∧ tp.length ≤ 2100
theorem cT_fr {Z : Int → Int → Prop} {tp : List Int} {t : Int} {M M' : qM} (h : cT tp t M) (f : fr Z M M') (z : ∀ a j, Z a j → 126 ≤ a) : cT tp t M' :=
  ⟨tk_fr h.1 f, C_T_fr h.2.1 (fun j => ⟨f.2 _ _ (fun q => by have := z _ _ q; omega), f.2 _ _ (fun q => by have := z _ _ q; omega)⟩), h.2.2⟩
theorem cT_hp {tp : List Int} {t : Int} {M : qM} (h : cT tp t M) : q_nm M 1 1 ≤ 2100 := by rw [h.2.1.1]; have := h.2.2; omega
theorem c_66 {d : Nat} {P : Int → qM → Prop} {tp : List Int} {t k : Int} {M : qM} (h : cT tp t M) (K : P (tb tp k) M) : q_WP q_Pr (d + 1) 66 [.inr (.inr 1), .inl k] M P := p_66 h.1.1 (cT_hp h) (by rw [C_T_B h.2.1]; exact K)
theorem c_67 {d : Nat} {P : Int → qM → Prop} {tp : List Int} {t k : Int} {M : qM} (h : cT tp t M) (K1 : 97 ≤ tb tp k ∧ tb tp k ≤ 122 → P 1 M) (K0 : ¬ (97 ≤ tb tp k ∧ tb tp k ≤ 122) → P 0 M) : q_WP q_Pr (d + 2) 67 [.inr (.inr 1), .inl k] M P := p_67 h.1.1 (cT_hp h) (by rw [C_T_B h.2.1]; exact K1) (by rw [C_T_B h.2.1]; exact K0)
theorem c_68 {d : Nat} {P : Int → qM → Prop} {tp : List Int} {t k : Int} {M : qM} (h : cT tp t M) (K1 : 48 ≤ tb tp k ∧ tb tp k ≤ 57 → P 1 M) (K0 : ¬ (48 ≤ tb tp k ∧ tb tp k ≤ 57) → P 0 M) : q_WP q_Pr (d + 2) 68 [.inr (.inr 1), .inl k] M P := p_68 h.1.1 (cT_hp h) (by rw [C_T_B h.2.1]; exact K1) (by rw [C_T_B h.2.1]; exact K0)
theorem c_69 {d : Nat} {P : Int → qM → Prop} {tp : List Int} {t k : Int} {M : qM} (h : cT tp t M) (K1 : tb tp k = 32 ∨ tb tp k = 10 → P 1 M) (K0 : ¬ (tb tp k = 32 ∨ tb tp k = 10) → P 0 M) : q_WP q_Pr (d + 2) 69 [.inr (.inr 1), .inl k] M P := p_69 h.1.1 (cT_hp h) (by rw [C_T_B h.2.1]; exact K1) (by rw [C_T_B h.2.1]; exact K0)
theorem c_72a {d : Nat} {P : Int → qM → Prop} {tp : List Int} {t : Int} {p : Nat} {M : qM} (h : cT tp t M) (hp : p ≤ tp.length) (K : P ((p + yLr tp p : Nat) : Int) M) : ∀ m k : Nat, k + m = yLr tp p → q_At q_m72 (q_WP q_Pr (d + 2)) P 13 [(0, .inr (.inr t)), (2, .inl ((p + k : Nat) : Int))] [] M 0 0 := by
  have le := yLr_le hp
  have h5 := h.2.2
  intro m
  induction m with
  | zero =>
    intro k hk
    have ek : k = yLr tp p := by omega
    refine s_72_13 ?_
    rw [h.1.2.2.1, h.1.2.2.2.1.1, lk1 h.1.1, h.2.1.1, ek]
    refine ⟨rfl, rfl, fun _ => K, fun z => ⟨rfl, rfl, c_67 h (fun q => ?_) (fun q => ⟨fun _ => K, fun y => absurd rfl y⟩)⟩⟩
    have o := yLr_out (tp := tp) (p := p)
    exact absurd (by rw [show ((p + yLr tp p : Nat) : Int) = (p : Int) + (yLr tp p : Int) by omega] at q; exact q) o
  | succ m ih =>
    intro k hk
    have i1 := yLr_in (tp := tp) (p := p) (k := k) (by omega)
    refine s_72_13 ?_
    rw [h.1.2.2.1, h.1.2.2.2.1.1, lk1 h.1.1, h.2.1.1, w32_id (x := ((p + k : Nat) : Int) + 1) (by omega) (by omega)]
    refine ⟨rfl, rfl, fun z => absurd z (by omega), fun z => ⟨rfl, rfl, c_67 h (fun q => ⟨fun y => absurd y (by decide), fun _ => ih (k + 1) (by omega)⟩) (fun q => absurd ?_ q)⟩⟩
    rw [show ((p + k : Nat) : Int) = (p : Int) + (k : Int) by omega]; exact i1
theorem c_72b {d : Nat} {P : Int → qM → Prop} {tp : List Int} {t : Int} {p : Nat} {M : qM} (h : cT tp t M) (hp : p ≤ tp.length) (nl : ¬ (97 ≤ tb tp p ∧ tb tp p ≤ 122)) (K : P (yE tp p) M) : ∀ m k : Nat, k + m = yDr tp p → q_At q_m72 (q_WP q_Pr (d + 2)) P 43 [(0, .inr (.inr t)), (1, .inl (p : Int)), (2, .inl ((p + k : Nat) : Int))] [] M 0 0 := by
  have le := yDr_le hp
  have h5 := h.2.2
  intro m
  induction m with
  | zero =>
    intro k hk
    have ek : k = yDr tp p := by omega
    have K' : 0 < k → P ((p + k : Nat) : Int) M := fun z => by
      have dg := yDr_in (tp := tp) (p := p) (k := 0) (by omega)
      have : yE tp p = p + k := by
        unfold yE; rw [if_neg nl, if_pos (by simpa using dg), ek]
      rw [this] at K; exact K
    have K0 : k = 0 → P (min (tp.length : Int) ((p : Int) + 1)) M := fun z => by
      have nd : ¬ (48 ≤ tb tp p ∧ tb tp p ≤ 57) := fun q => by have := yDr_pos q; omega
      have : ((yE tp p : Nat) : Int) = min (tp.length : Int) ((p : Int) + 1) := by
        unfold yE; rw [if_neg nl, if_neg nd]; omega
      rw [this] at K; exact K
    refine s_72_43 ?_
    rw [h.1.2.2.1, h.1.2.2.2.1.1, lk1 h.1.1, h.2.1.1, w32_id (x := (p : Int) + 4) (by omega) (by omega), w32_id (x := (p : Int) + 1) (by omega) (by omega)]
    refine ⟨fun z => ⟨fun y => ⟨rfl, rfl, p_260 (K0 (by omega))⟩, fun y => K' (by omega)⟩, fun z => ⟨rfl, rfl, c_68 h (fun q => ?_) (fun q => ⟨fun _ => ⟨fun y => ⟨?_, ?_, ?_⟩, fun y => K' (by omega)⟩, fun y => absurd rfl y⟩)⟩⟩
    · have o := yDr_out (tp := tp) (p := p) (by omega)
      rw [← ek] at o
      exact absurd (by rw [show ((p + k : Nat) : Int) = (p : Int) + (k : Int) by omega] at q; exact q) o
    · exact h.1.2.2.1
    · rw [h.1.2.2.2.1.1]; exact lk1 h.1.1
    · rw [h.1.2.2.2.1.1, h.2.1.1]; exact p_260 (K0 (by omega))
  | succ m ih =>
    intro k hk
    have i1 := yDr_in (tp := tp) (p := p) (k := k) (by omega)
    refine s_72_43 ?_
    rw [h.1.2.2.1, h.1.2.2.2.1.1, lk1 h.1.1, h.2.1.1, w32_id (x := (p : Int) + 4) (by omega) (by omega), w32_id (x := ((p + k : Nat) : Int) + 1) (by omega) (by omega)]
    refine ⟨fun z => absurd z (by omega), fun z => ⟨rfl, rfl, c_68 h (fun q => ⟨fun y => absurd y (by decide), fun _ => ih (k + 1) (by omega)⟩) (fun q => absurd ?_ q)⟩⟩
    rw [show ((p + k : Nat) : Int) = (p : Int) + (k : Int) by omega]; exact i1
theorem c_72 {d : Nat} {P : Int → qM → Prop} {tp : List Int} {t : Int} {p : Nat} {M : qM} (h : cT tp t M) (hp : p ≤ tp.length) (K : P (yE tp p) M) : q_WP q_Pr (d + 3) 72 [.inr (.inr t), .inl (p : Int)] M P := by
  refine q_enter (s_72_0 ?_)
  rw [h.1.2.2.1, h.1.2.2.2.1.1, lk1 h.1.1]
  refine ⟨rfl, rfl, c_67 h (fun q => ⟨fun z => absurd z (by decide), fun _ => ?_⟩) (fun q => ⟨fun _ => ?_, fun z => absurd rfl z⟩)⟩
  · have : yE tp p = p + yLr tp p := by unfold yE; rw [if_pos q]
    rw [this] at K
    exact c_72a h hp K (yLr tp p) 0 (by omega)
  · exact c_72b h hp q K (yDr tp p) 0 (by omega)
theorem c_74 {d : Nat} {P : Int → qM → Prop} {tp : List Int} {t : Int} {p n : Nat} {M : qM} (h : cT tp t M) (hp : p + n ≤ tp.length) (hn : n ≤ yDr tp p) (K : P (vl tp p n) M) : q_WP q_Pr (d + 2) 74 [.inr (.inr t), .inl (p : Int), .inl ((p + n : Nat) : Int)] M P := by
  have h5 := h.2.2
  have key : ∀ m k : Nat, k + m = n → q_At q_m74 (q_WP q_Pr (d + 1)) P 5 [(0, .inr (.inr t)), (2, .inl ((p + n : Nat) : Int)), (3, .inl (vl tp p k)), (4, .inl ((p + k : Nat) : Int))] [] M 0 0 := by
    intro m
    induction m with
    | zero =>
      intro k hk
      have ek : k = n := by omega
      rw [ek]
      exact s_74_5 ⟨fun _ => K, fun z => absurd z (by omega)⟩
    | succ m ih =>
      intro k hk
      have i1 := yDr_in (tp := tp) (p := p) (k := k) (by omega)
      have v0 := vl_dr (tp := tp) (p := p) (k := k) (by omega)
      refine s_74_5 ?_
      rw [h.1.2.2.1, h.1.2.2.2.1.1, lk1 h.1.1, w32_id (x := 10 * vl tp p k) (by omega) (by omega), w32_id (x := ((p + k : Nat) : Int) + 1) (by omega) (by omega)]
      refine ⟨fun z => absurd z (by omega), fun z => ⟨rfl, rfl, c_66 h ?_⟩⟩
      rw [show ((p + k : Nat) : Int) = (p : Int) + (k : Int) by omega, w32_id (x := 10 * vl tp p k + tb tp ((p : Int) + (k : Int))) (by omega) (by omega), w32_id (x := 10 * vl tp p k + tb tp ((p : Int) + (k : Int)) - 48) (by omega) (by omega)]
      have := ih (k + 1) (by omega)
      rwa [show ((p + (k + 1) : Nat) : Int) = (p : Int) + (k : Int) + 1 by omega] at this
  exact q_enter (s_74_0 (key n 0 (by omega)))
theorem c_75 {d : Nat} {P : Int → qM → Prop} {x : Int} {M : qM} (K1 : ySg x → P 1 M) (K0 : ¬ ySg x → P 0 M) : q_WP q_Pr (d + 1) 75 [.inl x] M P :=
  q_enter (s_75_0 ⟨⟨fun z => s_75_232 ⟨by decide, K1 (by unfold ySg; omega)⟩, fun z => s_75_232 ⟨by decide, K1 (by unfold ySg; omega)⟩, fun z => s_75_232 ⟨by decide, K1 (by unfold ySg; omega)⟩, fun z => s_75_232 ⟨by decide, K1 (by unfold ySg; omega)⟩, fun z => s_75_232 ⟨by decide, K1 (by unfold ySg; omega)⟩, fun z => s_75_232 ⟨by decide, K1 (by unfold ySg; omega)⟩, fun z => s_75_234 ⟨by decide, K0 (by unfold ySg; omega)⟩, fun z => s_75_232 ⟨by decide, K1 (by unfold ySg; omega)⟩, fun z => s_75_234 ⟨by decide, K0 (by unfold ySg; omega)⟩, fun z => s_75_234 ⟨by decide, K0 (by unfold ySg; omega)⟩, fun z => s_75_234 ⟨by decide, K0 (by unfold ySg; omega)⟩, fun z => s_75_234 ⟨by decide, K0 (by unfold ySg; omega)⟩, fun z => s_75_234 ⟨by decide, K0 (by unfold ySg; omega)⟩, fun z => s_75_234 ⟨by decide, K0 (by unfold ySg; omega)⟩, fun z => s_75_234 ⟨by decide, K0 (by unfold ySg; omega)⟩, fun z => s_75_234 ⟨by decide, K0 (by unfold ySg; omega)⟩, fun z => s_75_234 ⟨by decide, K0 (by unfold ySg; omega)⟩, fun z => s_75_234 ⟨by decide, K0 (by unfold ySg; omega)⟩, fun z => s_75_234 ⟨by decide, K0 (by unfold ySg; omega)⟩, fun z => s_75_232 ⟨by decide, K1 (by unfold ySg; omega)⟩, fun z => s_75_232 ⟨by decide, K1 (by unfold ySg; omega)⟩, fun z => s_75_232 ⟨by decide, K1 (by unfold ySg; omega)⟩, fun z => s_75_232 ⟨by decide, K1 (by unfold ySg; omega)⟩, fun z => s_75_234 ⟨by decide, K0 (by unfold ySg; omega)⟩, fun z => s_75_234 ⟨by decide, K0 (by unfold ySg; omega)⟩, fun z => s_75_234 ⟨by decide, K0 (by unfold ySg; omega)⟩, fun z => s_75_234 ⟨by decide, K0 (by unfold ySg; omega)⟩, fun z => s_75_234 ⟨by decide, K0 (by unfold ySg; omega)⟩, fun z => s_75_234 ⟨by decide, K0 (by unfold ySg; omega)⟩, fun z => s_75_234 ⟨by decide, K0 (by unfold ySg; omega)⟩, fun z => s_75_234 ⟨by decide, K0 (by unfold ySg; omega)⟩, fun z => s_75_234 ⟨by decide, K0 (by unfold ySg; omega)⟩, fun z => s_75_234 ⟨by decide, K0 (by unfold ySg; omega)⟩, fun z => s_75_234 ⟨by decide, K0 (by unfold ySg; omega)⟩, fun z => s_75_234 ⟨by decide, K0 (by unfold ySg; omega)⟩, fun z => s_75_234 ⟨by decide, K0 (by unfold ySg; omega)⟩, fun z => s_75_234 ⟨by decide, K0 (by unfold ySg; omega)⟩, fun z => s_75_234 ⟨by decide, K0 (by unfold ySg; omega)⟩, fun z => s_75_234 ⟨by decide, K0 (by unfold ySg; omega)⟩, fun z => s_75_234 ⟨by decide, K0 (by unfold ySg; omega)⟩, fun z => s_75_234 ⟨by decide, K0 (by unfold ySg; omega)⟩, fun z => s_75_234 ⟨by decide, K0 (by unfold ySg; omega)⟩, fun z => s_75_234 ⟨by decide, K0 (by unfold ySg; omega)⟩, fun z => s_75_234 ⟨by decide, K0 (by unfold ySg; omega)⟩, fun z => s_75_234 ⟨by decide, K0 (by unfold ySg; omega)⟩, fun z => s_75_234 ⟨by decide, K0 (by unfold ySg; omega)⟩, fun z => s_75_234 ⟨by decide, K0 (by unfold ySg; omega)⟩, fun z => s_75_234 ⟨by decide, K0 (by unfold ySg; omega)⟩, fun z => s_75_234 ⟨by decide, K0 (by unfold ySg; omega)⟩, fun z => s_75_234 ⟨by decide, K0 (by unfold ySg; omega)⟩, fun z => s_75_234 ⟨by decide, K0 (by unfold ySg; omega)⟩, fun z => s_75_232 ⟨by decide, K1 (by unfold ySg; omega)⟩, fun z => s_75_234 ⟨by decide, K0 (by unfold ySg; omega)⟩, fun z => s_75_232 ⟨by decide, K1 (by unfold ySg; omega)⟩, trivial⟩, fun z => s_75_234 ⟨by decide, K0 (by unfold ySg; omega)⟩⟩)
theorem q_txt_len : q_txt.length = 117 := by decide
/-- the number of the word at k of the text constant, and where it begins -/
def txf : Nat → Nat × Nat
  | 0 => (0, 0)
  | k + 1 => if q_txt.getD k 0 = 32 then ((txf k).1 + 1, k + 1) else txf k
set_option maxRecDepth 100000 in
theorem txf_ok : ((List.range 117).all fun k => decide ((txf k).1 < 24 ∧ (txf k).2 ≤ k ∧ (q_txt.getD k 0 = 32 → owl.getD (txf k).1 [] = (q_txt.drop (txf k).2).take (k - (txf k).2)))) = true := by decide +kernel
set_option maxRecDepth 100000 in
theorem txf_end : txf 117 = (24, 117) := by decide +kernel
theorem c_77 {d : Nat} {P : Int → qM → Prop} {tp : List Int} {t : Int} {p n s : Nat} {M : qM} (h : cT tp t M) (hp : p + n ≤ tp.length) (hs : s + n ≤ 117) (K1 : (∀ j, j < n → q_txt.getD (s + j) 0 = tb tp ((p : Int) + j)) → P 1 M) (K0 : (∃ j, j < n ∧ q_txt.getD (s + j) 0 ≠ tb tp ((p : Int) + j)) → P 0 M) : q_WP q_Pr (d + 2) 77 [.inr (.inr t), .inl (s : Int), .inl (p : Int), .inl ((p + n : Nat) : Int)] M P := by
  have h5 := h.2.2
  have key : ∀ m k : Nat, k + m = n → (∀ j, j < k → q_txt.getD (s + j) 0 = tb tp ((p : Int) + j)) → q_At q_m77 (q_WP q_Pr (d + 1)) P 3 [(0, .inr (.inr t)), (1, .inl (s : Int)), (2, .inl (p : Int)), (3, .inl ((p + n : Nat) : Int)), (4, .inl ((p + k : Nat) : Int))] [] M 0 0 := by
    intro m
    induction m with
    | zero =>
      intro k hk hj
      exact s_77_3 ⟨fun _ => ⟨by decide, K1 (fun j hj' => hj j (by omega))⟩, fun z => absurd z (by omega)⟩
    | succ m ih =>
      intro k hk hj
      refine s_77_3 ?_
      rw [h.1.2.2.1, h.1.2.2.2.1.1, lk1 h.1.1, w32_id (x := (s : Int) + ((p + k : Nat) : Int)) (by omega) (by omega), w32_id (x := (s : Int) + ((p + k : Nat) : Int) - (p : Int)) (by omega) (by omega), w32_id (x := ((p + k : Nat) : Int) + 1) (by omega) (by omega), show (s : Int) + ((p + k : Nat) : Int) - (p : Int) = ((s + k : Nat) : Int) by omega, show Int.toNat ((s + k : Nat) : Int) = s + k by omega]
      refine ⟨fun z => absurd z (by omega), fun z => ⟨⟨rfl, by omega, by omega⟩, rfl, rfl, c_66 h ?_⟩⟩
      rw [show ((p + k : Nat) : Int) = (p : Int) + (k : Int) by omega]
      refine ⟨fun q => ?_, fun q => ⟨by decide, K0 ⟨k, by omega, q⟩⟩⟩
      have := ih (k + 1) (by omega) (fun j hj' => by
        by_cases e : j = k
        · rw [e]; exact q
        · exact hj j (by omega))
      rwa [show ((p + (k + 1) : Nat) : Int) = (p : Int) + (k : Int) + 1 by omega] at this
  exact q_enter (s_77_0 (key n 0 (by omega) (fun j hj => absurd hj (Nat.not_lt_zero j))))
theorem c_76 {d : Nat} {P : Int → qM → Prop} {tp : List Int} {t : Int} {p : Nat} {M : qM} (h : cT tp t M) (hp : p ≤ tp.length) (K : P (own (ySl tp p)) M) : q_WP q_Pr (d + 3) 76 [.inr (.inr t), .inl (p : Int), .inl ((p + yLr tp p : Nat) : Int)] M P := by
  have h5 := h.2.2
  have le := yLr_le hp
  have key : ∀ m k : Nat, k + m = 117 → (∀ n, n < (txf k).1 → owl.getD n [] ≠ ySl tp p) → q_At q_m76 (q_WP q_Pr (d + 2)) P 8 [(0, .inr (.inr t)), (1, .inl (p : Int)), (2, .inl ((p + yLr tp p : Nat) : Int)), (3, .inl ((txf k).1 : Int)), (4, .inl ((txf k).2 : Int)), (5, .inl (k : Int))] [] M 0 0 := by
    intro m
    induction m with
    | zero =>
      intro k hk hj
      have ek : k = 117 := by omega
      rw [ek, txf_end] at hj
      refine s_76_8 ⟨rfl, fun _ => ?_, fun z => absurd z (by omega)⟩
      have : own (ySl tp p) = -2 := by
        rcases owF_sp (ySl tp p) owl 0 with q | ⟨n, q1, q2, q3⟩
        · exact q.1
        · exact absurd q3 (hj n (by have := owl_len; show n < 24; omega))
      rw [this] at K; exact K
    | succ m ih =>
      intro k hk hj
      have tx := List.all_eq_true.mp txf_ok k (List.mem_range.mpr (by omega))
      rw [decide_eq_true_eq] at tx
      have nx : ∀ e : q_txt.getD k 0 = 32, txf (k + 1) = ((txf k).1 + 1, k + 1) := fun e => by show (if _ then _ else _) = _; rw [if_pos e]
      refine s_76_8 ⟨rfl, fun z => absurd z (by omega), fun z => ⟨⟨rfl, by omega, by omega⟩, ?_⟩⟩
      rw [show Int.toNat (k : Int) = k by omega, w32_id (x := (k : Int) + 1) (by omega) (by omega), w32_id (x := ((txf k).1 : Int) + 1) (by omega) (by omega), w32_id (x := (k : Int) - ((txf k).2 : Int)) (by omega) (by omega), w32_id (x := ((p + yLr tp p : Nat) : Int) - (p : Int)) (by omega) (by omega)]
      refine ⟨fun n32 => ?_, fun e32 => ?_⟩
      · have e : txf (k + 1) = txf k := by show (if _ then _ else _) = _; rw [if_neg n32]
        have := ih (k + 1) (by omega) (by rw [e]; exact hj)
        rw [e] at this; exact this
      · have wd := tx.2.2 e32
        have wl : (owl.getD (txf k).1 []).length = k - (txf k).2 := by
          rw [wd, List.length_take, List.length_drop, q_txt_len]; omega
        have go : owl.getD (txf k).1 [] ≠ ySl tp p → q_At q_m76 (q_WP q_Pr (d + 2)) P 8 [(0, .inr (.inr t)), (1, .inl (p : Int)), (2, .inl ((p + yLr tp p : Nat) : Int)), (3, .inl (((txf k).1 : Int) + 1)), (4, .inl ((k : Int) + 1)), (5, .inl ((k : Int) + 1))] [] M 0 0 := fun ne => by
          have := ih (k + 1) (by omega) (fun n hn => by
            rw [nx e32] at hn
            by_cases e : n = (txf k).1
            · rw [e]; exact ne
            · exact hj n (by have : n < (txf k).1 + 1 := hn; omega))
          rw [nx e32] at this
          exact this
        refine ⟨fun nl => go (fun q => nl ?_), fun el => ⟨h.1.2.2.1, c_77 (d := d) (n := yLr tp p) (s := (txf k).2) h le (by omega) (fun q => ⟨fun y => absurd y (by decide), fun _ => ?_⟩) (fun q => ⟨fun _ => go (fun e => ?_), fun y => absurd rfl y⟩)⟩⟩
        · have := congrArg List.length q
          rw [ySl_len, wl] at this
          omega
        · have e : ySl tp p = owl.getD (txf k).1 [] := by
            refine getD_ext (by rw [ySl_len, wl]; omega) (fun j hj' => ?_)
            rw [ySl_len] at hj'
            rw [ySl_g hj', ← q j hj', wd, List.getD_eq_getElem?_getD, List.getD_eq_getElem?_getD, List.getElem?_take_of_lt (by omega), List.getElem?_drop]
          have := (own_iff tx.1).mpr e.symm
          rw [this] at K; exact K
        · obtain ⟨j, hj1, hj2⟩ := q
          refine hj2 ?_
          rw [← ySl_g hj1, ← e, wd, List.getD_eq_getElem?_getD, List.getD_eq_getElem?_getD, List.getElem?_take_of_lt (by omega), List.getElem?_drop]
  exact q_enter (s_76_0 (key 117 0 (by omega) (fun n hn => absurd hn (Nat.not_lt_zero n))))
theorem c_73 {d : Nat} {P : Int → qM → Prop} {tp : List Int} {t : Int} {p : Nat} {M : qM} (h : cT tp t M) (hp : p ≤ tp.length) (K : P (yTv tp p) M) : q_WP q_Pr (d + 4) 73 [.inr (.inr t), .inl (p : Int), .inl (yE tp p : Int)] M P := by
  have h5 := h.2.2
  unfold yTv at K
  refine q_enter (s_73_0 ?_)
  rw [h.1.2.2.1, h.1.2.2.2.1.1, lk1 h.1.1, h.2.1.1]
  refine ⟨rfl, rfl, fun z => ⟨rfl, rfl, c_67 h (fun q => ⟨fun y => absurd y (by decide), fun _ => ?_⟩) (fun nq => ⟨fun _ => ?_, fun y => absurd rfl y⟩)⟩, fun z => ?_⟩
  · rw [if_neg (by omega), if_pos q] at K
    have : yE tp p = p + yLr tp p := by unfold yE; rw [if_pos q]
    rw [this]
    exact ⟨h.1.2.2.1, c_76 (d := d) h hp K⟩
  · rw [if_neg (by omega), if_neg nq] at K
    rw [h.1.2.2.1, h.1.2.2.2.1.1, lk1 h.1.1]
    refine ⟨rfl, rfl, c_68 h (fun q => ⟨fun y => absurd y (by decide), fun _ => ?_⟩) (fun nd => ⟨fun _ => ?_, fun y => absurd rfl y⟩)⟩
    · rw [if_pos q] at K
      have : yE tp p = p + yDr tp p := by unfold yE; rw [if_neg nq, if_pos q]
      have v0 := vl_dr (tp := tp) (p := p) (Nat.le_refl _)
      rw [this]
      refine ⟨h.1.2.2.1, c_74 (d := d + 1) h (yDr_le hp).1 (Nat.le_refl _) ?_⟩
      rw [w32_id (x := 1000 + vl tp p (yDr tp p)) (by omega) (by omega)]; exact K
    · rw [if_neg nd] at K
      rw [h.1.2.2.1, h.1.2.2.2.1.1, lk1 h.1.1]
      refine ⟨rfl, rfl, c_66 h (c_75 (fun sg => ⟨fun y => absurd y (by decide), fun _ => ?_⟩) (fun ns => ⟨fun _ => ?_, fun y => absurd rfl y⟩))⟩
      · rw [if_pos sg] at K
        rw [h.1.2.2.1, h.1.2.2.2.1.1, lk1 h.1.1]
        exact ⟨rfl, rfl, c_66 h K⟩
      · rw [if_neg ns] at K; exact K
  · rw [if_pos (by omega)] at K; exact K
end
