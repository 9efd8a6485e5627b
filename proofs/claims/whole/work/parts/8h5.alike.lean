section
theorem pie_lets {nw : Int} {WL : Int → List Int} {WS WE WO : Int → Int} (gW : G_W nw WL WS WE WO) {ln : List Int} {t : qT} (g : G_L nw ln) (ok : okT nw ln t) {a : Int} (h0 : 0 ≤ a) (h1 : a < ln.length) : lets (pie WL ln t a) := by
  have r := fb_rng g ok h0 h1
  unfold pie joi
  refine lets_app.mpr ⟨?_, lets_rst (gW.2.1 _ r.2.1 r.2.2).1.2⟩
  unfold fro; split
  · exact fun b hb => absurd hb (List.not_mem_nil)
  · rename_i h
    have r1 := r.1.resolve_left h
    exact lets_ons (gW.2.1 _ r1.1 r1.2).1.2
theorem app32 : ∀ (n : Nat) (p q A B : List Int), p.length = n → lets p → lets q → A ++ [32] ++ p = B ++ [32] ++ q → A = B ∧ p = q := by
  intro n
  induction n with
  | zero =>
    intro p q A B hp _ hq e
    have ep := List.length_eq_zero_iff.mp hp
    subst ep
    rcases List.eq_nil_or_concat q with h | ⟨u, c, h⟩
    · subst h
      rw [List.append_nil, List.append_nil] at e
      exact ⟨(List.append_inj' e rfl).1, rfl⟩
    · rw [h, List.concat_eq_append] at e hq
      rw [List.append_nil, ← List.append_assoc] at e
      have := (List.append_inj' e rfl).2
      have h3 := lets_one.mp (lets_app.mp hq).2
      have : (32 : Int) = c := by simpa using this
      omega
  | succ n ih =>
    intro p q A B hp hlp hq e
    rcases List.eq_nil_or_concat p with h | ⟨t, b, h⟩
    · rw [h] at hp; exact absurd hp (by simp)
    · rw [h, List.concat_eq_append] at hp hlp e
      rw [List.length_append, List.length_cons, List.length_nil] at hp
      rw [← List.append_assoc] at e
      have l1 := lets_app.mp hlp
      rcases List.eq_nil_or_concat q with h2 | ⟨u, c, h2⟩
      · subst h2
        rw [List.append_nil] at e
        have := (List.append_inj' e rfl).2
        have h3 := lets_one.mp l1.2
        have : b = (32 : Int) := by simpa using this
        omega
      · rw [h2, List.concat_eq_append] at e hq
        rw [← List.append_assoc] at e
        have l2 := lets_app.mp hq
        have e2 := List.append_inj' e rfl
        have e3 := ih t u A B (by omega) l1.1 l2.1 e2.1
        rw [h, h2, List.concat_eq_append, List.concat_eq_append, e3.2, e2.2]
        exact ⟨e3.1, rfl⟩
theorem spl_inj {nw : Int} {WL : Int → List Int} {WS WE WO : Int → Int} (gW : G_W nw WL WS WE WO) {ln : List Int} {t u : qT} (g : G_L nw ln) (okt : okT nw ln t) (oku : okT nw ln u) : ∀ n : Nat, n ≤ ln.length → (spl WL ln t n = spl WL ln u n ↔ ∀ a : Nat, a < n → pie WL ln t a = pie WL ln u a) := by
  intro n
  induction n with
  | zero => intro _; exact ⟨fun _ a ha => absurd ha (Nat.not_lt_zero a), fun _ => rfl⟩
  | succ n ih =>
    intro hn
    have i := ih (by omega)
    have lt := pie_lets gW g okt (a := (n : Int)) (by omega) (by omega)
    have lu := pie_lets gW g oku (a := (n : Int)) (by omega) (by omega)
    constructor
    · intro e a ha
      have e' : spl WL ln t n ++ (if n = 0 then [] else [32]) ++ pie WL ln t n = spl WL ln u n ++ (if n = 0 then [] else [32]) ++ pie WL ln u n := e
      have both : spl WL ln t n = spl WL ln u n ∧ pie WL ln t n = pie WL ln u n := by
        by_cases hz : n = 0
        · subst hz
          rw [if_pos rfl] at e'
          exact ⟨rfl, e'⟩
        · rw [if_neg hz] at e'
          exact app32 _ _ _ _ _ rfl lt lu e'
      by_cases ea : a = n
      · rw [ea]; exact both.2
      · exact i.mp both.1 a (by omega)
    · intro h
      show spl WL ln t n ++ (if n = 0 then [] else [32]) ++ pie WL ln t n = spl WL ln u n ++ (if n = 0 then [] else [32]) ++ pie WL ln u n
      rw [i.mpr (fun a ha => h a (by omega)), h n (by omega)]
theorem c_17l {d : Nat} {P : Int → qM → Prop} {M : qM} {m nw i j : Int} {WL : Int → List Int} {WS WE WO : Int → Int} {ln : List Int} {t u : qT} {c s : Nat} (hc : ctx M m nw WL WS WE WO ln) (hi : 0 ≤ i ∧ i < mst ln.length) (hj : 0 ≤ j ∧ j < mst ln.length) (hat : C_at M m i t) (hau : C_at M m j u) (okt : okT nw ln t) (oku : okT nw ln u) (K1 : txt WL ln t = txt WL ln u → P 1 M) (K0 : ¬ txt WL ln t = txt WL ln u → P 0 M) : ∀ (n a : Nat), a + n = ln.length → (∀ b : Nat, b < a → pie WL ln t b = pie WL ln u b) → q_At q_m17 (q_WP q_Pr (d + 2)) P 20 [(0, .inr (.inr m)), (1, .inl i), (2, .inl j), (3, .inl (a : Int))] [] M c s := by
  have hM := hc.1
  have g6 := hc.2.2.2.1
  have inj := spl_inj hc.2.2.1 hc.2.2.2 okt oku ln.length (Nat.le_refl _)
  intro n
  induction n with
  | zero =>
    intro a e h
    have ea : a = ln.length := by omega
    subst ea
    exact t_17_20 hM.1 ⟨fun _ => K1 (inj.mpr h), fun z => absurd z (by omega)⟩
  | succ n ih =>
    intro a e h
    have f1 := ctx_fb hc okt (a := (a : Int)) (by omega) (by omega)
    have f2 := ctx_fb hc oku (a := (a : Int)) (by omega) (by omega)
    refine t_17_20 hM.1 ⟨fun z => absurd z (by omega), fun _ => c_11 hM hi hat okt (by omega) ⟨hM.1, c_12 hM hi hat okt (by omega) ⟨hM.1, c_11 hM hj hau oku (by omega) ⟨hM.1, c_12 hM hj hau oku (by omega) ⟨hM.1, c_89 (WL := WL) hM.1.1 f1.1 f1.2 f2.1 f2.2 (fun q => ⟨hM.1, fun _ => ?_, fun z => absurd z (by decide)⟩) (fun q => ⟨hM.1, fun z => absurd rfl z, fun _ => K0 (fun r => q (inj.mp r a (by omega)))⟩)⟩⟩⟩⟩⟩
    rw [w32_id (x := (a : Int) + 1) (by omega) (by omega)]
    exact ih (a + 1) (by omega) (fun b hb => by
      by_cases eb : b = a
      · rw [eb]; exact q
      · exact h b (by omega))
theorem c_17 {d : Nat} {P : Int → qM → Prop} {M : qM} {m nw i j : Int} {WL : Int → List Int} {WS WE WO : Int → Int} {ln : List Int} {t u : qT} (hc : ctx M m nw WL WS WE WO ln) (hi : 0 ≤ i ∧ i < mst ln.length) (hj : 0 ≤ j ∧ j < mst ln.length) (hat : C_at M m i t) (hau : C_at M m j u) (okt : okT nw ln t) (oku : okT nw ln u) (kt : q_nm M (m + 10) i = w64 (rk (txt WL ln t))) (ku : q_nm M (m + 10) j = w64 (rk (txt WL ln u))) (K1 : txt WL ln t = txt WL ln u → P 1 M) (K0 : ¬ txt WL ln t = txt WL ln u → P 0 M) : q_WP q_Pr (d + 3) 17 [.inr (.inr m), .inl i, .inl j] M P := by
  refine q_enter (t_17_0 hc.1.1 ?_)
  rw [kt, ku]
  exact ⟨hi, hj, fun z => c_17l hc hi hj hat hau okt oku K1 K0 ln.length 0 (by omega) (fun b hb => absurd hb (Nat.not_lt_zero b)), fun z => K0 (fun q => q_lc_nz z (by rw [q]))⟩
theorem c_262l {d : Nat} {P : Int → qM → Prop} {M0 : qM} {x v n : Int} {c s : Nat} (hx : 0 ≤ x) (hk : q_kd M0 x = 14) (hn : q_ln M0 x = n) (hs : n ≤ 100000) (K : ∀ M', fr (fun a _ => a = x) M0 M' → (∀ j, 0 ≤ j → j < n → q_nm M' x j = v) → P 0 M') : ∀ (k : Nat) (y : Int) (M : qM), 0 ≤ y → y + k = n → fr (fun a _ => a = x) M0 M → (∀ j, 0 ≤ j → j < y → q_nm M x j = v) → q_At q_m262 (q_WP q_Pr d) P 5 [(0, .inr (.inr x)), (1, .inl v), (2, .inl y), (3, .inl n)] [] M c s := by
  intro k
  induction k with
  | zero =>
    intro y M h0 h1 h2 h3
    exact s_262_5 ⟨fun _ => K M h2 (fun j a b => h3 j a (by omega)), fun z => absurd z (by omega)⟩
  | succ k ih =>
    intro y M h0 h1 h2 h3
    refine s_262_5 ?_
    rw [fr_kd h2, fr_ln h2, hk, hn, w32_id (x := y + 1) (by omega) (by omega)]
    refine ⟨fun z => absurd z (by omega), fun _ => ⟨⟨⟨hx, rfl⟩, h0, by omega⟩, ?_⟩⟩
    intro M1
    refine ih (y + 1) M1 (by omega) (by omega) (fr_trans h2 (fr_wn (M' := M1) rfl rfl)) (fun j a b => ?_)
    by_cases e : j = y
    · rw [e]; exact wn_eq (M' := M1) rfl
    · rw [wn_ne (M' := M1) rfl (by omega)]; exact h3 j a (by omega)
theorem c_262 {d : Nat} {P : Int → qM → Prop} {M : qM} {x v n : Int} (hx : 0 ≤ x) (hk : q_kd M x = 14) (hn : q_ln M x = n) (h0 : 0 ≤ n) (hs : n ≤ 100000) (K : ∀ M', fr (fun a _ => a = x) M M' → (∀ j, 0 ≤ j → j < n → q_nm M' x j = v) → P 0 M') : q_WP q_Pr (d + 1) 262 [.inr (.inr x), .inl v] M P := by
  refine q_enter (s_262_0 ?_)
  rw [hk, hn]
  exact ⟨by decide, c_262l hx hk hn hs K n.toNat 0 M (Int.le_refl 0) (by omega) fr_rfl (fun j a b => absurd a (by omega))⟩
theorem php : ∀ (b a : Nat) (f : Nat → Nat), (∀ i, i < a → f i < b) → (∀ i j, i < a → j < a → f i = f j → i = j) → a ≤ b := by
  intro b
  induction b with
  | zero =>
    intro a f h _
    cases a with
    | zero => exact Nat.le_refl 0
    | succ a => exact absurd (h 0 (by omega)) (Nat.not_lt_zero _)
  | succ b ih =>
    intro a f h k
    cases a with
    | zero => exact Nat.zero_le _
    | succ a =>
      have := ih a (fun i => if f i = b then f a else f i) (fun i hi => by
        try dsimp only
        have h1 := h i (by omega)
        have h2 := h a (by omega)
        split
        · rename_i e
          have : f a ≠ b := fun e2 => by have := k i a (by omega) (by omega) (by omega); omega
          omega
        · omega) (fun i j hi hj e => by
        try dsimp only at e
        have ki := k i a (by omega) (by omega)
        have kj := k j a (by omega) (by omega)
        have kij := k i j (by omega) (by omega)
        split at e <;> split at e <;> omega)
      omega
theorem q_and1023 (x : Int) : q_and x 1023 = x % 1024 := by
  have h : (Int32.ofInt x &&& Int32.ofInt 1023) = Int32.ofInt (x % 1024) := by
    apply Int32.toBitVec_inj.mp
    rw [Int32.toBitVec_and, Int32.toBitVec_ofInt, Int32.toBitVec_ofInt, Int32.toBitVec_ofInt]
    apply BitVec.eq_of_toNat_eq
    rw [BitVec.toNat_and, BitVec.toNat_ofInt, BitVec.toNat_ofInt, BitVec.toNat_ofInt]
    have e : ((1023 : Int) % (2 ^ 32 : Nat)).toNat = 2 ^ 10 - 1 := by decide
    rw [e, Nat.and_two_pow_sub_one_eq_mod]
    omega
  unfold q_and
  rw [h, q_t32 (by unfold q_i32; omega)]
end
