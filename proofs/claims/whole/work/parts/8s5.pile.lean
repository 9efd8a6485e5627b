section
/-! THE REFERENCE'S PILE AND CODES -/
def opn : List Int → Nat
  | [] => 0
  | x :: t => (if 16 ≤ x then 1 else 0) + opn t
def Zy : Int → Int → Prop := fun a j => (a = 66 ∧ (j = 50 ∨ j = 52 ∨ j = 53)) ∨ a = 107 ∨ (a = 106 ∧ 10500 ≤ j)
/-- the pile S (its top first), the codes C, so many open -/
def R_cs (S C : List Int) (o : Nat) (M : qM) : Prop := q_nm M 66 52 = S.length ∧ q_L M 107 0 S.reverse ∧ q_nm M 66 50 = C.length ∧ q_L M 106 10500 C ∧ q_nm M 66 53 = o
theorem R_cs_fr {S C : List Int} {o : Nat} {M M' : qM} (h : R_cs S C o M) (k6 : ∀ j, (j = 50 ∨ j = 52 ∨ j = 53) → q_nm M' 66 j = q_nm M 66 j) (k7 : ∀ j, q_nm M' 107 j = q_nm M 107 j) (k8 : ∀ j, 10500 ≤ j → q_nm M' 106 j = q_nm M 106 j) : R_cs S C o M' :=
  ⟨(k6 _ (by omega)).trans h.1, q_L_fr h.2.1 (fun j _ _ => k7 j), (k6 _ (by omega)).trans h.2.2.1, q_L_fr h.2.2.2.1 (fun j a _ => k8 j a), (k6 _ (by omega)).trans h.2.2.2.2⟩
theorem R_cs_t {S C : List Int} {o : Nat} {M M' : qM} (h : R_cs S C o M) (f : fr Zt M M') : R_cs S C o M' :=
  R_cs_fr h (fun j hj => f.2 _ _ (fun q => by have := q.2; omega)) (fun j => f.2 _ _ (fun q => by have := q.1; omega)) (fun j _ => f.2 _ _ (fun q => by have := q.1; omega))
theorem R_ps_y {tp : List Int} {i a : Nat} {M M' : qM} (h : R_ps tp i a M) (f : fr Zy M M') : R_ps tp i a M' :=
  R_ps_fr h (fun j => f.2 _ _ (by unfold Zy; omega)) (fun j _ _ => f.2 _ _ (by unfold Zy; omega))
theorem q_L_top {M : qM} {x : Int} {R : List Int} (h : q_L M 107 0 (x :: R).reverse) : q_nm M 107 (R.length : Int) = x ∧ q_L M 107 0 R.reverse := by
  rw [List.reverse_cons] at h
  constructor
  · have e := h R.length (by rw [List.length_append, List.length_reverse, List.length_cons]; omega)
    rw [Int.zero_add, getD_app2 (by rw [List.length_reverse]; exact Nat.le_refl _), List.length_reverse, Nat.sub_self] at e
    exact e
  · intro k hk
    have e := h k (by rw [List.length_append]; omega)
    rw [getD_app1 hk] at e
    exact e
theorem r_167 {d : Nat} {P : Int → qM → Prop} {S C : List Int} {o : Nat} {v : Int} {M : qM} (hl : q_lay M) (h : R_cs S C o M) (hb : C.length < 2100) (K : ∀ M', fr Zy M M' → q_lay M' → R_cs S (C ++ [v]) o M' → P 0 M') : q_WP q_Pr (d + 1) 167 [.inr (.inr 66), .inl v] M P := by
  refine q_enter (t_167_0 hl ?_)
  rw [h.2.2.1, w32_id (x := 10500 + (C.length : Int)) (by omega) (by omega)]
  refine ⟨⟨by omega, by omega⟩, fun M1 e1 l1 M2 e2 l2 => ?_⟩
  rw [wn_ne e1 (by omega), h.2.2.1, w32_id (x := (C.length : Int) + 1) (by omega) (by omega)] at e2
  have f1 : fr Zy M M1 := fr_wn e1 (by unfold Zy; omega)
  have f2 : fr Zy M1 M2 := fr_wn e2 (by unfold Zy; omega)
  refine K M2 (fr_trans f1 f2) l2 ⟨?_, ?_, ?_, ?_, ?_⟩
  · rw [wn_ne e2 (by omega), wn_ne e1 (by omega)]; exact h.1
  · exact q_L_fr h.2.1 (fun j _ _ => by rw [wn_ne e2 (by omega), wn_ne e1 (by omega)])
  · rw [wn_eq e2, List.length_append]; rfl
  · exact q_L_snoc h.2.2.2.1 (fun j _ _ => by rw [wn_ne e2 (by omega), wn_ne e1 (by omega)]) (by rw [wn_ne e2 (by omega), wn_eq e1])
  · rw [wn_ne e2 (by omega), wn_ne e1 (by omega)]; exact h.2.2.2.2
/-- the code of a reading that has failed -/
theorem r_167b {d : Nat} {P : Int → qM → Prop} {v : Int} {M : qM} (hl : q_lay M) (hb : 0 ≤ q_nm M 66 50 ∧ q_nm M 66 50 < 2100) (K : ∀ M', fr Zy M M' → q_lay M' → q_nm M' 66 50 = q_nm M 66 50 + 1 → P 0 M') : q_WP q_Pr (d + 1) 167 [.inr (.inr 66), .inl v] M P := by
  refine q_enter (t_167_0 hl ?_)
  rw [w32_id (x := 10500 + q_nm M 66 50) (by omega) (by omega)]
  refine ⟨⟨by omega, by omega⟩, fun M1 e1 l1 M2 e2 l2 => ?_⟩
  rw [wn_ne e1 (by omega), w32_id (x := q_nm M 66 50 + 1) (by omega) (by omega)] at e2
  exact K M2 (fr_trans (fr_wn e1 (by unfold Zy; omega)) (fr_wn e2 (by unfold Zy; omega))) l2 (wn_eq e2)
theorem R_cs_push {S C : List Int} {o o' : Nat} {x : Int} {M M1 : qM} (h : R_cs S C o M) (k : ∀ (a j : Int), ¬ (a = 66 ∧ (j = 52 ∨ j = 53)) → ¬ (a = 107 ∧ j = S.length) → q_nm M1 a j = q_nm M a j) (e1 : q_nm M1 107 S.length = x) (e2 : q_nm M1 66 52 = S.length + 1) (e3 : q_nm M1 66 53 = o') : R_cs (x :: S) C o' M1 := by
  refine ⟨by rw [e2, List.length_cons]; omega, ?_, (k 66 50 (by omega) (by omega)).trans h.2.2.1, q_L_fr h.2.2.2.1 (fun j _ _ => k 106 j (by omega) (by omega)), e3⟩
  rw [List.reverse_cons]
  refine q_L_snoc h.2.1 (fun j a b => k _ _ (by omega) ?_) ?_
  · rw [List.length_reverse] at b; omega
  · rw [List.length_reverse, Int.zero_add]; exact e1
theorem r_168 {d : Nat} {P : Int → qM → Prop} {S C : List Int} {o : Nat} {x : Int} {p : Int} {M : qM} (hl : q_lay M) (h : R_cs S C o M) (h5 : q_nm M 66 5 = 0) (hb : S.length < 2200) (ho : o ≤ 6) (K1 : o < 6 → ∀ M', fr Zy M M' → q_lay M' → R_cs (x :: S) C (o + 1) M' → P 0 M') (K0 : ¬ o < 6 → ∀ M', fr Zt M M' → q_lay M' → R_bad 4 p M' → P 0 M') : q_WP q_Pr (d + 2) 168 [.inr (.inr 66), .inl x, .inl p] M P := by
  refine q_enter (t_168_0 hl ?_)
  rw [h.2.2.2.2, w32_id (x := (o : Int) + 1) (by omega) (by omega)]
  refine ⟨fun z M1 e1 l1 => ?_, fun z => r_149 (d := d) hl h5 (fun M4 f4 l4 b4 => ⟨l4, K0 (by omega) M4 f4 l4 b4⟩)⟩
  rw [wn_ne e1 (by omega), h.1]
  refine ⟨⟨by omega, by omega⟩, fun M2 e2 l2 M3 e3 l3 => ?_⟩
  rw [wn_ne e2 (by omega), wn_ne e1 (by omega), h.1, w32_id (x := (S.length : Int) + 1) (by omega) (by omega)] at e3
  refine K1 (by omega) M3 (fr_trans (fr_wn e1 (by unfold Zy; omega)) (fr_trans (fr_wn e2 (by unfold Zy; omega)) (fr_wn e3 (by unfold Zy; omega)))) l3 (R_cs_push h (fun a j q r => ?_) ?_ ?_ ?_)
  · rw [wn_ne e3 (by omega), wn_ne e2 (by omega), wn_ne e1 (by omega)]
  · rw [wn_ne e3 (by omega), wn_eq e2]
  · rw [wn_eq e3]
  · rw [wn_ne e3 (by omega), wn_ne e2 (by omega), wn_eq e1]; omega
theorem r_169 {d : Nat} {P : Int → qM → Prop} {S C : List Int} {o : Nat} {x : Int} {M : qM} (hl : q_lay M) (h : R_cs S C o M) (hb : S.length ≤ 2200) (K1 : ∀ S', S = x :: S' → P 1 M) (K0 : hdN (fun y => y = x) S → P 0 M) : q_WP q_Pr (d + 1) 169 [.inr (.inr 66), .inl x] M P := by
  refine q_enter (t_169_0 hl ?_)
  rw [h.1]
  cases S with
  | nil => exact ⟨fun _ => K0 hdN_nil, fun z => absurd z (by simp)⟩
  | cons y S =>
    have t := (q_L_top h.2.1).1
    rw [List.length_cons] at hb ⊢
    rw [w32_id (x := ((S.length + 1 : Nat) : Int) - 1) (by omega) (by omega), show ((S.length + 1 : Nat) : Int) - 1 = (S.length : Int) by omega, t]
    exact ⟨fun z => absurd z (by omega), fun _ => ⟨⟨by omega, by omega⟩, fun z => K0 (hdN_c z), fun z => K1 S (by rw [z])⟩⟩
theorem r_170 {d : Nat} {P : Int → qM → Prop} {S C : List Int} {o : Nat} {x : Int} {M : qM} (hl : q_lay M) (h : R_cs (x :: S) C o M) (hb : S.length < 2200) (hc : C.length < 2100) (K : ∀ M', fr Zy M M' → q_lay M' → R_cs S (C ++ [x]) o M' → P 0 M') : q_WP q_Pr (d + 2) 170 [.inr (.inr 66)] M P := by
  refine q_enter (t_170_0 hl (fun M1 e1 l1 => ?_))
  have t := q_L_top h.2.1
  have hw := h.1
  rw [List.length_cons] at hw
  rw [hw, w32_id (x := ((S.length + 1 : Nat) : Int) - 1) (by omega) (by omega), show ((S.length + 1 : Nat) : Int) - 1 = (S.length : Int) by omega] at e1
  have f1 : fr Zy M M1 := fr_wn e1 (by unfold Zy; omega)
  have c1 : R_cs S C o M1 := ⟨wn_eq e1, q_L_fr t.2 (fun j _ _ => wn_ne e1 (by omega)), (wn_ne e1 (by omega)).trans h.2.2.1, q_L_fr h.2.2.2.1 (fun j _ _ => wn_ne e1 (by omega)), (wn_ne e1 (by omega)).trans h.2.2.2.2⟩
  rw [wn_eq e1, wn_ne e1 (by omega), t.1]
  exact ⟨⟨by omega, by omega⟩, r_167 (d := d) l1 c1 hc (fun M2 f2 l2 c2 => ⟨l2, K M2 (fr_trans f1 f2) l2 c2⟩)⟩
/-- the first mark, or none -/
def mkO : List Int → Int
  | [] => -1
  | x :: t => if 20 ≤ x ∧ x ≤ 24 then x else mkO t
theorem mkO_P {P S : List Int} {m : Int} (h : ∀ x ∈ P, nMk x) (hm : 20 ≤ m ∧ m ≤ 24) : mkO (P ++ m :: S) = m := by
  induction P with
  | nil => show (if _ then _ else _) = _; rw [if_pos hm]
  | cons x P ih =>
    show (if _ then _ else _) = _
    rw [if_neg (by have q := h x List.mem_cons_self; unfold nMk at q; omega)]
    exact ih (fun y hy => h y (List.mem_cons_of_mem _ hy))
theorem mkO_N {P : List Int} (h : ∀ x ∈ P, nMk x) : mkO P = -1 := by
  induction P with
  | nil => rfl
  | cons x P ih =>
    show (if _ then _ else _) = _
    rw [if_neg (by have q := h x List.mem_cons_self; unfold nMk at q; omega)]
    exact ih (fun y hy => h y (List.mem_cons_of_mem _ hy))
theorem r_172l {d : Nat} {P : Int → qM → Prop} {B : List Int} {M : qM} {c s : Nat} (hl : q_lay M) (hb : q_nm M 66 54 = B.length) : ∀ S : List Int, (S ++ B).length ≤ 2200 → q_L M 107 0 (S ++ B).reverse → P (mkO S) M → q_At q_m172 (q_WP q_Pr (d + 1)) P 7 [(0, .inr (.inr 66)), (1, .inl (((S ++ B).length : Int) - 1))] [] M c s := by
  intro S
  induction S with
  | nil =>
    intro h1 h2 K
    refine t_172_7 hl ?_
    rw [hb, List.nil_append]
    exact ⟨fun _ => ⟨fun _ => K, fun z => absurd z (by omega)⟩, fun z => absurd z (by omega)⟩
  | cons x S ih =>
    intro h1 h2 K
    rw [List.cons_append] at h1 h2 ⊢
    have t := q_L_top h2
    rw [List.length_cons] at h1 ⊢
    have le : B.length ≤ (S ++ B).length := by rw [List.length_append]; omega
    refine t_172_7 hl ?_
    rw [hb, show (((S ++ B).length + 1 : Nat) : Int) - 1 = ((S ++ B).length : Int) by omega, t.1, w32_id (x := ((S ++ B).length : Int) + (-1)) (by omega) (by omega)]
    refine ⟨fun z => absurd z (by omega), fun _ => ⟨⟨by omega, by omega⟩, fun q => ⟨fun z => absurd z (by omega), fun _ => ⟨⟨by omega, by omega⟩, ?_⟩⟩, fun q => ?_⟩⟩
    · have : mkO (x :: S) = x := by show (if _ then _ else _) = _; rw [if_pos q]
      rw [this] at K; exact K
    · have : mkO (x :: S) = mkO S := by show (if _ then _ else _) = _; rw [if_neg q]
      rw [this] at K
      exact ih (by omega) t.2 K
theorem r_172 {d : Nat} {P : Int → qM → Prop} {S B C : List Int} {o : Nat} {M : qM} (hl : q_lay M) (h : R_cs (S ++ B) C o M) (hb : q_nm M 66 54 = B.length) (h2 : (S ++ B).length ≤ 2200) (K : P (mkO S) M) : q_WP q_Pr (d + 2) 172 [.inr (.inr 66)] M P := by
  refine q_enter (t_172_0 hl ?_)
  rw [h.1, w32_id (x := ((S ++ B).length : Int) - 1) (by omega) (by omega)]
  exact r_172l (d := d) hl hb S h2 h.2.1 K
theorem r_173l {d : Nat} {Q : Int → qM → Prop} {B S : List Int} {o : Nat} {m : Int} {M0 : qM} {c s : Nat} (hm : 20 ≤ m ∧ m ≤ 24) (hb : q_nm M0 66 54 = B.length) : ∀ (P C : List Int) (M : qM), (∀ x ∈ P, nMk x) → fr Zy M0 M → q_lay M → R_cs (P ++ (m :: S ++ B)) C o M → (P ++ (m :: S ++ B)).length + C.length ≤ 2100 → (∀ M', fr Zy M0 M' → q_lay M' → R_cs (m :: S ++ B) (C ++ P) o M' → Q 0 M') → q_At q_m173 (q_WP q_Pr (d + 2)) Q 0 [(0, .inr (.inr 66))] [] M c s := by
  intro P
  induction P with
  | nil =>
    intro C M hP f hl h hn K
    refine t_173_0 hl ?_
    rw [List.nil_append] at h hn
    have t := (q_L_top (x := m) (R := S ++ B) h.2.1).1
    have hw := h.1
    rw [List.cons_append, List.length_cons] at hw hn
    have le : B.length ≤ (S ++ B).length := by rw [List.length_append]; omega
    rw [hw, show q_nm M 66 54 = B.length from (f.2 _ _ (by unfold Zy; omega)).trans hb, w32_id (x := (((S ++ B).length + 1 : Nat) : Int) - 1) (by omega) (by omega), show (((S ++ B).length + 1 : Nat) : Int) - 1 = ((S ++ B).length : Int) by omega, t]
    refine ⟨fun z => absurd z (by omega), fun _ => ⟨⟨by omega, by omega⟩, fun _ => ?_, fun z => absurd hm z⟩⟩
    exact K M f hl (by rw [List.append_nil]; exact h)
  | cons x P ih =>
    intro C M hP f hl h hn K
    refine t_173_0 hl ?_
    rw [List.cons_append] at h hn
    have t := (q_L_top h.2.1).1
    have hw := h.1
    rw [List.length_cons] at hw hn
    have le : B.length ≤ (P ++ (m :: S ++ B)).length := by rw [List.length_append, List.length_append]; omega
    rw [hw, show q_nm M 66 54 = B.length from (f.2 _ _ (by unfold Zy; omega)).trans hb, w32_id (x := (((P ++ (m :: S ++ B)).length + 1 : Nat) : Int) - 1) (by omega) (by omega), show (((P ++ (m :: S ++ B)).length + 1 : Nat) : Int) - 1 = ((P ++ (m :: S ++ B)).length : Int) by omega, t]
    refine ⟨fun z => absurd z (by omega), fun _ => ⟨⟨by omega, by omega⟩, fun z => absurd z (by have q := hP x List.mem_cons_self; unfold nMk at q; omega), fun _ => r_170 (d := d) hl h (by omega) (by omega) (fun M2 f2 l2 c2 => ⟨l2, ?_⟩)⟩⟩
    refine ih (C ++ [x]) M2 (fun y hy => hP y (List.mem_cons_of_mem _ hy)) (fr_trans f f2) l2 c2 (by rw [List.length_append (as := C), List.length_cons, List.length_nil]; omega) (fun M' f' l' c' => K M' f' l' ?_)
    rw [List.append_assoc, List.singleton_append] at c'
    exact c'
theorem r_173 {d : Nat} {Q : Int → qM → Prop} {P B S C : List Int} {o : Nat} {m : Int} {M : qM} (hl : q_lay M) (hm : 20 ≤ m ∧ m ≤ 24) (hP : ∀ x ∈ P, nMk x) (hb : q_nm M 66 54 = B.length) (h : R_cs (P ++ (m :: S ++ B)) C o M) (hn : (P ++ (m :: S ++ B)).length + C.length ≤ 2100) (K : ∀ M', fr Zy M M' → q_lay M' → R_cs (m :: S ++ B) (C ++ P) o M' → Q 0 M') : q_WP q_Pr (d + 3) 173 [.inr (.inr 66)] M Q :=
  q_enter (r_173l (d := d) hm hb P C M hP fr_rfl hl h hn K)
end
