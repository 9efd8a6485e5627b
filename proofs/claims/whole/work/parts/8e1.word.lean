section
/-- the words -/
def okw (l : List Int) : Prop := (1 ≤ l.length ∧ l.length ≤ 8) ∧ lets l
def C_W1 (M : qM) (w : Int) (l : List Int) : Prop := q_L M 4 (w * 8) l ∧ q_nm M 5 w = l.length ∧ q_nm M 6 w = onsN l ∧ q_nm M 10 w = rk (ons l) ∧ q_nm M 11 w = rk (rst l)
def C_pw (M : qM) : Prop := ∀ i : Nat, i ≤ 16 → q_nm M 12 i = w64 (37 ^ i)
def C_W (nw : Int) (WL : Int → List Int) (WS WE WO : Int → Int) (M : qM) : Prop := (q_nm M 3 9 = nw ∧ C_pw M) ∧ ∀ w, 0 ≤ w → w < nw → (C_W1 M w (WL w) ∧ q_nm M 7 w = WS w ∧ q_nm M 8 w = WE w ∧ q_nm M 9 w = WO w)
def R_W1 (M : qM) (w : Int) (l : List Int) : Prop := q_L M 92 (8 * w) l ∧ q_nm M 93 w = l.length ∧ q_nm M 94 w = onsN l
def R_W (nw : Int) (WL : Int → List Int) (WS WE WO : Int → Int) (M : qM) : Prop := q_nm M 66 33 = nw ∧ ∀ w, 0 ≤ w → w < nw → (R_W1 M w (WL w) ∧ q_nm M 95 w = WS w ∧ q_nm M 96 w = WE w ∧ q_nm M 97 w = WO w)
def G_W (nw : Int) (WL : Int → List Int) (WS WE WO : Int → Int) : Prop := (0 ≤ nw ∧ nw ≤ 30) ∧ (∀ w, 0 ≤ w → w < nw → (okw (WL w) ∧ (0 ≤ WS w ∧ WS w ≤ 4) ∧ (0 ≤ WE w ∧ WE w ≤ 9) ∧ 1 ≤ WO w ∧ WO w ≤ 99)) ∧ ∀ w v, 0 ≤ w → w < nw → 0 ≤ v → v < nw → WL w = WL v → w = v
theorem C_W1_fr {M M' : qM} {w : Int} {l : List Int} (h : C_W1 M w l) (hl : l.length ≤ 8) (k4 : ∀ j, w * 8 ≤ j → j < w * 8 + 8 → q_nm M' 4 j = q_nm M 4 j) (k : ∀ a, 5 ≤ a → a ≤ 11 → q_nm M' a w = q_nm M a w) : C_W1 M' w l :=
  ⟨q_L_fr h.1 (fun j p q => k4 j p (by omega)), (k 5 (by omega) (by omega)).trans h.2.1, (k 6 (by omega) (by omega)).trans h.2.2.1, (k 10 (by omega) (by omega)).trans h.2.2.2.1, (k 11 (by omega) (by omega)).trans h.2.2.2.2⟩
theorem C_W_fr {nw : Int} {WL : Int → List Int} {WS WE WO : Int → Int} {M M' : qM} (h : C_W nw WL WS WE WO M) (k : ∀ a j, 3 ≤ a → a ≤ 12 → q_nm M' a j = q_nm M a j) : C_W nw WL WS WE WO M' :=
  ⟨⟨(k 3 9 (by omega) (by omega)).trans h.1.1, fun i hi => (k 12 _ (by omega) (by omega)).trans (h.1.2 i hi)⟩, fun w h0 h1 => by
    have o := h.2 w h0 h1
    exact ⟨⟨q_L_fr o.1.1 (fun j _ _ => k 4 j (by omega) (by omega)), (k 5 _ (by omega) (by omega)).trans o.1.2.1, (k 6 _ (by omega) (by omega)).trans o.1.2.2.1, (k 10 _ (by omega) (by omega)).trans o.1.2.2.2.1, (k 11 _ (by omega) (by omega)).trans o.1.2.2.2.2⟩, (k 7 _ (by omega) (by omega)).trans o.2.1, (k 8 _ (by omega) (by omega)).trans o.2.2.1, (k 9 _ (by omega) (by omega)).trans o.2.2.2⟩⟩
theorem R_W_fr {nw : Int} {WL : Int → List Int} {WS WE WO : Int → Int} {M M' : qM} (h : R_W nw WL WS WE WO M) (k0 : q_nm M' 66 33 = q_nm M 66 33) (k : ∀ a j, 92 ≤ a → a ≤ 97 → q_nm M' a j = q_nm M a j) : R_W nw WL WS WE WO M' :=
  ⟨k0.trans h.1, fun w h0 h1 => by
    have o := h.2 w h0 h1
    exact ⟨⟨q_L_fr o.1.1 (fun j _ _ => k 92 j (by omega) (by omega)), (k 93 _ (by omega) (by omega)).trans o.1.2.1, (k 94 _ (by omega) (by omega)).trans o.1.2.2⟩, (k 95 _ (by omega) (by omega)).trans o.2.1, (k 96 _ (by omega) (by omega)).trans o.2.2.1, (k 97 _ (by omega) (by omega)).trans o.2.2.2⟩⟩
/-- what an onset (of word f, or none) and the rest of word b say together -/
def fro (WL : Int → List Int) (f : Int) : List Int := if f = -1 then [] else ons (WL f)
def joi (WL : Int → List Int) (f b : Int) : List Int := fro WL f ++ rst (WL b)
theorem w64_ma (x y z : Int) : w64 (x * w64 y + z) = w64 (x * y + z) := by
  apply w64_eq
  rw [show x * w64 y + z - (x * y + z) = (w64 y - y) * x by rw [Int.sub_mul, Int.mul_comm x, Int.mul_comm x]; omega]
  exact Int.dvd_trans (w64_dvd y) (Int.dvd_mul_right _ _)
/-- f may stand ahead of b: f is none, or a word that is written -/
def C_ok (M : qM) (WL : Int → List Int) (f : Int) : Prop := (0 ≤ f ∧ f < 30) ∧ C_W1 M f (WL f) ∧ okw (WL f)
theorem c_85 {d : Nat} {P : Int → qM → Prop} {M : qM} {f b : Int} {WL : Int → List Int} (hl : q_lay M) (hf : f = -1 ∨ C_ok M WL f) (hb : C_ok M WL b) (K : P ((joi WL f b).length) M) : q_WP q_Pr (d + 1) 85 [.inr (.inr 3), .inl f, .inl b] M P := by
  have h1 := onsN_le (WL b)
  have h2 := hb.2.2.1
  have eb := rst_len (WL b)
  refine q_enter (t_85_0 hl ?_)
  rw [hb.2.1.2.1, hb.2.1.2.2.1]
  refine ⟨fun z => ?_, fun z => ⟨hb.1, hb.1, ?_⟩⟩
  · have hf' := hf.resolve_left z
    have h3 := onsN_le (WL f)
    have h4 := hf'.2.2.1
    have ef := ons_len (WL f)
    refine ⟨hf'.1, hb.1, hb.1, ?_⟩
    rw [hf'.2.1.2.2.1, w32_id (x := (onsN (WL f) : Int) + (WL b).length) (by omega) (by omega), w32_id (by omega) (by omega)]
    have e : ((joi WL f b).length : Int) = (onsN (WL f) : Int) + (WL b).length - onsN (WL b) := by
      unfold joi fro; rw [if_neg z, List.length_append]; omega
    rw [e] at K; exact K
  · rw [w32_id (x := (0 : Int) + (WL b).length) (by omega) (by omega), w32_id (by omega) (by omega)]
    have e : ((joi WL f b).length : Int) = (0 : Int) + (WL b).length - onsN (WL b) := by
      unfold joi fro; rw [if_pos z, List.nil_append]; omega
    rw [e] at K; exact K
theorem c_86 {d : Nat} {P : Int → qM → Prop} {M : qM} {f b : Int} {WL : Int → List Int} (hl : q_lay M) (hp : C_pw M) (hf : f = -1 ∨ C_ok M WL f) (hb : C_ok M WL b) (K : P (w64 (rk (joi WL f b))) M) : q_WP q_Pr (d + 1) 86 [.inr (.inr 3), .inl f, .inl b] M P := by
  have h1 := onsN_le (WL b)
  have h2 := hb.2.2.1
  have eb := rst_len (WL b)
  refine q_enter (t_86_0 hl ?_)
  have e12 : q_nm M 12 ((WL b).length - onsN (WL b)) = w64 (37 ^ (rst (WL b)).length) := by
    have := hp (rst (WL b)).length (by omega)
    rw [show (((rst (WL b)).length : Nat) : Int) = (WL b).length - onsN (WL b) by omega] at this
    exact this
  rw [hb.2.1.2.1, hb.2.1.2.2.1, w32_id (x := ((WL b).length : Int) - onsN (WL b)) (by omega) (by omega), e12, hb.2.1.2.2.2.2]
  refine ⟨fun z => ?_, fun z => ⟨hb.1, hb.1, by omega, hb.1, ?_⟩⟩
  · have hf' := hf.resolve_left z
    refine ⟨hf'.1, hb.1, hb.1, by omega, hb.1, ?_⟩
    rw [hf'.2.1.2.2.2.1, w64_add, w64_ma, ← rk_app]
    unfold joi fro at K; rw [if_neg z] at K; exact K
  · rw [w64_add, w64_ma, ← rk_nil, ← rk_app]
    unfold joi fro at K; rw [if_pos z] at K; exact K
/-- the key of letters from..to of a word -/
theorem c_82l {d : Nat} {P : Int → qM → Prop} {M : qM} {w t : Int} {l : List Int} {c s : Nat} (hl : q_lay M) (hw : 0 ≤ w ∧ w < 30) (hL : q_L M 4 (w * 8) l) (hk : okw l) {f : Int} (hf : 0 ≤ f) (ht : t ≤ l.length) (K : P (w64 (rk (slice l f (t - f)))) M) : ∀ (k : Nat) (y : Int), f ≤ y → y + k = t → q_At q_m82 (q_WP q_Pr (d + 1)) P 6 [(0, .inr (.inr 3)), (1, .inl w), (3, .inl t), (4, .inr (.inl (w64 (rk (slice l f (y - f)))))), (6, .inl y)] [] M c s := by
  have h8 := hk.1
  intro k
  induction k with
  | zero =>
    intro y h0 h1
    refine t_82_6 hl ⟨fun _ => ?_, fun z => absurd z (by omega)⟩
    rw [show y = t by omega]; exact K
  | succ k ih =>
    intro y h0 h1
    refine t_82_6 hl ?_
    have e : q_nm M 4 (w * 8 + y) = tb l y := by rw [tb_in (by omega) (by omega)]; exact q_L_get hL (by omega) (by omega)
    have e2 : 97 ≤ tb l y ∧ tb l y ≤ 122 := by rw [tb_in (by omega) (by omega)]; exact hk.2 _ (getD_mem (by omega))
    refine ⟨fun z => absurd z (by omega), fun _ => ⟨⟨hw, by omega, by omega⟩, ?_⟩⟩
    have q := ih (y + 1) (by omega) (by omega)
    rw [show y + 1 - f = (y - f) + 1 by omega, slice_succ hf (by omega) (by omega), show f + (y - f) = y by omega, rk_snoc, kd1_let e2] at q
    rw [e, w32_id (x := y + 1) (by omega) (by omega), w64_mul, w64_add, w64_sub, show rk (slice l f (y - f)) * 37 + tb l y - 96 = rk (slice l f (y - f)) * 37 + (tb l y - 96) by omega]
    exact q
theorem c_82 {d : Nat} {P : Int → qM → Prop} {M : qM} {w f t : Int} {l : List Int} (hl : q_lay M) (hw : 0 ≤ w ∧ w < 30) (hL : q_L M 4 (w * 8) l) (hk : okw l) (hf : 0 ≤ f ∧ f ≤ t) (ht : t ≤ l.length) (K : P (w64 (rk (slice l f (t - f)))) M) : q_WP q_Pr (d + 2) 82 [.inr (.inr 3), .inl w, .inl f, .inl t] M P := by
  refine q_enter (t_82_0 hl ?_)
  have e := c_82l (d := d) (c := 0) (s := 0) hl hw hL hk hf.1 ht K (t - f).toNat f (Int.le_refl f) (by omega)
  rw [Int.sub_self, slice_zero] at e
  exact e
theorem slice_ons (l : List Int) : slice l 0 (onsN l) = ons l := by unfold slice ons; simp
theorem slice_rst (l : List Int) : slice l (onsN l) (l.length - onsN l) = rst l := by
  unfold slice rst
  rw [show ((onsN l : Nat) : Int).toNat = onsN l by omega]
  exact List.take_of_length_le (by rw [List.length_drop]; omega)
theorem rk8' {l : List Int} (h : l.length ≤ 8) (hl : lets l) : w64 (rk l) = rk l := by
  have := rk8 h hl; exact w64_id (by omega) (by omega)
/-- where the onset ends -/
theorem c_81e {d : Nat} {P : Int → qM → Prop} {M M1 : qM} {w x : Int} {l : List Int} (l1 : q_lay M1) (e1 : M1 = q_wn M 6 w x) (hw : 0 ≤ w ∧ w < 30) (hL : q_L M 4 (w * 8) l) (hk : okw l) (h5 : q_nm M 5 w = l.length) (hx : x = onsN l) (K : ∀ M', fr (fun a j => (a = 6 ∨ a = 10 ∨ a = 11) ∧ j = w) M M' → C_W1 M' w l → P 0 M') : q_WP q_Pr (d + 2) 82 [.inr (.inr 3), .inl w, .inl 0, .inl x] M1 (fun v2 M3 => q_lay M3 ∧ ((0 ≤ w ∧ w < 30) ∧ (∀ M4 : qM, M4 = q_wn M3 10 w v2 → q_lay M4 → ((0 ≤ w ∧ w < 30) ∧ q_WP q_Pr (d + 2) 82 [.inr (.inr 3), .inl w, .inl x, .inl (q_nm M4 5 w)] M4 (fun v5 M6 => q_lay M6 ∧ ((0 ≤ w ∧ w < 30) ∧ (∀ M7 : qM, M7 = q_wn M6 11 w v5 → q_lay M7 → (P (0 : Int) M7)))))))) := by
  have h8 := hk.1
  have ho := onsN_le l
  have hol := ons_len l
  have hrl := rst_len l
  subst hx
  refine c_82 l1 hw (q_L_fr hL (fun j _ _ => wn_ne e1 (by omega))) hk (by omega) (by omega) ⟨l1, hw, fun M4 e4 l4 => ⟨hw, ?_⟩⟩
  rw [Int.sub_zero, slice_ons, rk8' (by omega) (lets_ons hk.2)] at e4
  have e5 : q_nm M4 5 w = l.length := by rw [wn_ne e4 (by omega), wn_ne e1 (by omega)]; exact h5
  rw [e5]
  refine c_82 l4 hw (q_L_fr hL (fun j _ _ => by rw [wn_ne e4 (by omega), wn_ne e1 (by omega)])) hk (by omega) (by omega) ⟨l4, hw, fun M7 e7 l7 => K M7 ?_ ?_⟩
  · exact fr_trans (fr_wn e1 ⟨Or.inl rfl, rfl⟩) (fr_trans (fr_wn e4 ⟨Or.inr (Or.inl rfl), rfl⟩) (fr_wn e7 ⟨Or.inr (Or.inr rfl), rfl⟩))
  · rw [slice_rst, rk8' (by omega) (lets_rst hk.2)] at e7
    refine ⟨q_L_fr hL (fun j _ _ => by rw [wn_ne e7 (by omega), wn_ne e4 (by omega), wn_ne e1 (by omega)]), ?_, ?_, ?_, wn_eq e7⟩
    · rw [wn_ne e7 (by omega)]; exact e5
    · rw [wn_ne e7 (by omega), wn_ne e4 (by omega)]; exact wn_eq e1
    · rw [wn_ne e7 (by omega)]; exact wn_eq e4
theorem c_81l {d : Nat} {P : Int → qM → Prop} {M : qM} {w : Int} {l : List Int} {c s : Nat} (hl : q_lay M) (hw : 0 ≤ w ∧ w < 30) (hL : q_L M 4 (w * 8) l) (hk : okw l) (h5 : q_nm M 5 w = l.length) (K : ∀ M', fr (fun a j => (a = 6 ∨ a = 10 ∨ a = 11) ∧ j = w) M M' → C_W1 M' w l → P 0 M') : ∀ (k : Nat) (y : Nat), y + k = l.length → (∀ i, i < y → ¬ q_vow (l.getD i 0)) → q_At q_m81 (q_WP q_Pr (d + 2)) P 2 [(0, .inr (.inr 3)), (1, .inl w), (2, .inl (y : Int))] [] M c s := by
  have h8 := hk.1
  intro k
  induction k with
  | zero =>
    intro y h1 h2
    refine t_81_2 (d := d + 1) hl ?_
    rw [h5]
    refine ⟨hw, fun _ => ⟨hw, fun M1 e1 l1 => ?_⟩, fun z => absurd z (by omega)⟩
    exact c_81e l1 e1 hw hL hk h5 (by rw [onsN_uniq l y (by omega) h2 (fun z => absurd z (by omega))]) K
  | succ k ih =>
    intro y h1 h2
    refine t_81_2 (d := d + 1) hl ?_
    have e : q_nm M 4 (w * 8 + (y : Int)) = l.getD y 0 := hL y (by omega)
    rw [h5, e, w32_id (x := (y : Int) + 1) (by omega) (by omega)]
    refine ⟨hw, fun z => absurd z (by omega), fun _ => ⟨⟨hw, by omega, by omega⟩, fun z => ⟨hw, fun M1 e1 l1 => ?_⟩, fun z => ?_⟩⟩
    · exact c_81e l1 e1 hw hL hk h5 (by rw [onsN_uniq l y (by omega) h2 (fun _ => z)]) K
    · have := ih (y + 1) (by omega) (fun i hi => by
        by_cases e : i = y
        · rw [e]; exact z
        · exact h2 i (by omega))
      exact this
theorem c_81 {d : Nat} {P : Int → qM → Prop} {M : qM} {w : Int} {l : List Int} (hl : q_lay M) (hw : 0 ≤ w ∧ w < 30) (hL : q_L M 4 (w * 8) l) (hk : okw l) (h5 : q_nm M 5 w = l.length) (K : ∀ M', fr (fun a j => (a = 6 ∨ a = 10 ∨ a = 11) ∧ j = w) M M' → C_W1 M' w l → P 0 M') : q_WP q_Pr (d + 3) 81 [.inr (.inr 3), .inl w] M P :=
  q_enter (t_81_0 hl (c_81l hl hw hL hk h5 K l.length 0 (by omega) (fun i hi => absurd hi (Nat.not_lt_zero i))))
end
