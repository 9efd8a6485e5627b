section
/-! THE COMPONENT SPLITS A TEXT INTO TOKENS -/
def Zk (t : Int) : Int → Int → Prop := fun a j => (a = t ∧ j = 3) ∨ a = t + 1 ∨ a = t + 2
/-- the tokens before i are there -/
def A_tk (tp : List Int) (t : Int) (i : Nat) (M : qM) : Prop := ∀ j : Nat, j < i → (q_nm M (t + 1) j = yT tp j ∧ q_nm M (t + 2) j = yP tp j)
def yGl (tp : List Int) (i : Nat) : Int := if (ySq tp i).2 = true then (ySq tp i).1 else -1
theorem yGl_iff {tp : List Int} {i : Nat} : (yP tp i : Int) = yGl tp i ↔ yG tp i = true := by
  unfold yGl yG
  cases h : (ySq tp i).2 with
  | false => rw [if_neg (by decide)]; simp
  | true => rw [if_pos rfl]; simp only [Bool.true_and, decide_eq_true_eq]; omega
theorem c_71t {d : Nat} {P : Int → qM → Prop} {tp : List Int} {t x2 x4 : Int} {p : Nat} {M : qM} (h : cT tp t M) (hp : p ≤ tp.length) (K : ∀ y0 : Int, y0 = (if yB tp p = true then 1 else 0) → q_At q_m71 (q_WP q_Pr (d + 3)) P 92 [(0, .inr (.inr t)), (1, .inl (p : Int)), (2, .inl x2), (4, .inl x4), (5, .inl (yE tp p : Int))] [.inl y0] M 0 0) : q_WP q_Pr (d + 3) 72 [.inr (.inr t), .inl (p : Int)] M (fun v1 M2 => (q_kd M2 t = 8 ∧ (q_kd M2 (q_rf M2 t 0) = 7 ∧ q_WP q_Pr (d + 3) 67 [.inr (.inr (q_rf M2 t 0)), .inl (p : Int)] M2 (fun v3 M4 => ((¬ v3 = 0 → q_At q_m71 (q_WP q_Pr (d + 3)) P 92 [(0, .inr (.inr t)), (1, .inl (p : Int)), (2, .inl x2), (4, .inl x4), (5, .inl v1)] [.inl (1 : Int)] M4 0 0) ∧ (v3 = 0 → (q_kd M4 t = 8 ∧ (q_kd M4 (q_rf M4 t 0) = 7 ∧ q_WP q_Pr (d + 3) 68 [.inr (.inr (q_rf M4 t 0)), .inl (p : Int)] M4 (fun v5 M6 => ((v5 = 0 → q_At q_m71 (q_WP q_Pr (d + 3)) P 92 [(0, .inr (.inr t)), (1, .inl (p : Int)), (2, .inl x2), (4, .inl x4), (5, .inl v1)] [.inl (0 : Int)] M6 0 0) ∧ (¬ v5 = 0 → q_At q_m71 (q_WP q_Pr (d + 3)) P 92 [(0, .inr (.inr t)), (1, .inl (p : Int)), (2, .inl x2), (4, .inl x4), (5, .inl v1)] [.inl (1 : Int)] M6 0 0))))))))))) := by
  refine c_72 (d := d) h hp ?_
  rw [h.1.2.2.1, h.1.2.2.2.1.1, lk1 h.1.1]
  refine ⟨rfl, rfl, c_67 (d := d + 1) h (fun q => ⟨fun _ => K 1 (by rw [if_pos]; unfold yB; exact decide_eq_true (Or.inl q)), fun z => absurd z (by decide)⟩) (fun nq => ⟨fun z => absurd rfl z, fun _ => ?_⟩)⟩
  rw [h.1.2.2.1, h.1.2.2.2.1.1, lk1 h.1.1]
  refine ⟨rfl, rfl, c_68 (d := d + 1) h (fun q => ⟨fun z => absurd z (by decide), fun _ => K 1 (by rw [if_pos]; unfold yB; exact decide_eq_true (Or.inr q))⟩) (fun nd => ⟨fun _ => K 0 (by rw [if_neg]; unfold yB; rw [decide_eq_true_eq]; exact fun q => q.elim nq nd), fun z => absurd rfl z⟩)⟩
/-- over the blanks -/
theorem c_71b {d : Nat} {P : Int → qM → Prop} {tp : List Int} {t x2 x4 : Int} {p : Nat} {M : qM} (h : cT tp t M) (hp : p ≤ tp.length) (K : ∀ y0 : Int, y0 = (if yB tp p = true then 1 else 0) → q_At q_m71 (q_WP q_Pr (d + 3)) P 92 [(0, .inr (.inr t)), (1, .inl (p : Int)), (2, .inl x2), (4, .inl x4), (5, .inl (yE tp p : Int))] [.inl y0] M 0 0) : ∀ m a : Nat, a + m = tp.length → skp tp a = p → q_At q_m71 (q_WP q_Pr (d + 3)) P 30 [(0, .inr (.inr t)), (1, .inl (a : Int)), (2, .inl x2), (4, .inl x4)] [] M 0 0 := by
  have h5 := h.2.2
  have tt := c_71t (d := d) (x2 := x2) (x4 := x4) h hp K
  intro m
  induction m with
  | zero =>
    intro a ha hs
    have ea : p = a := by rw [← hs, skp_e (by omega)]
    rw [ea] at tt
    refine s_71_30 ?_
    rw [h.1.2.2.1, h.1.2.2.2.1.1, lk1 h.1.1, h.2.1.1]
    exact ⟨rfl, rfl, fun _ => ⟨rfl, tt⟩, fun z => absurd z (by omega)⟩
  | succ m ih =>
    intro a ha hs
    refine s_71_30 ?_
    rw [h.1.2.2.1, h.1.2.2.2.1.1, lk1 h.1.1, h.2.1.1, w32_id (x := (a : Int) + 1) (by omega) (by omega)]
    have eb : tb tp (a : Int) = tp.getD a 0 := by rw [tb_in (by omega) (by omega)]; rfl
    refine ⟨rfl, rfl, fun z => absurd z (by omega), fun _ => ⟨rfl, rfl, c_69 (d := d + 1) h (fun q => ⟨fun z => absurd z (by decide), fun _ => ?_⟩) (fun q => ⟨fun _ => ⟨h.1.2.2.1, ?_⟩, fun z => absurd rfl z⟩)⟩⟩
    · rw [eb] at q
      exact ih (a + 1) (by omega) (by rw [← skp_s (by omega) (by omega)]; exact hs)
    · rw [eb] at q
      have ea : p = a := by rw [← hs, skp_n (by omega) (by omega)]
      rw [ea] at tt
      exact tt
theorem c_71w {d : Nat} {P : Int → qM → Prop} {tp : List Int} {t x1 x5 x6 y0 : Int} {i : Nat} {M : qM} (h : cT tp t M) (hi : i ≤ tp.length) (K : ∀ M', fr (Zk t) M M' → q_nm M' t 3 = (i : Int) + 1 → q_nm M' (t + 1) i = y0 → q_nm M' (t + 2) i = x1 → (∀ a j : Int, (a = t + 1 ∨ a = t + 2) → j ≠ i → q_nm M' a j = q_nm M a j) → q_At q_m71 (q_WP q_Pr (d + 3)) P 9 [(0, .inr (.inr t)), (1, .inl x5), (2, .inl (if x6 = 0 then -1 else x5)), (3, .inl y0), (4, .inl ((i : Int) + 1))] [] M' 0 0) : q_At q_m71 (q_WP q_Pr (d + 3)) P 116 [(0, .inr (.inr t)), (1, .inl x1), (4, .inl (i : Int)), (5, .inl x5), (6, .inl x6)] [.inl y0] M 0 0 := by
  have h5 := h.2.2
  have t0 := h.1.2.1
  refine s_71_116 ?_
  rw [h.1.2.2.1, h.1.2.2.2.1.2.1, h.1.2.2.2.2.1.1, h.1.2.2.2.2.1.2]
  refine ⟨rfl, ⟨⟨by omega, rfl⟩, by omega, by omega⟩, ?_⟩
  intro N1
  obtain ⟨M1, e1⟩ : ∃ x, x = N1 := ⟨_, rfl⟩
  rw [← e1]
  have f1 : fr (Zk t) M M1 := fr_wn e1 (by unfold Zk; omega)
  have h1 := cT_fr h f1 (fun a j q => by unfold Zk at q; omega)
  rw [h1.1.2.2.1, h1.1.2.2.2.1.2.2, h1.1.2.2.2.2.2.1, h1.1.2.2.2.2.2.2]
  refine ⟨rfl, ⟨⟨by omega, rfl⟩, by omega, by omega⟩, ?_⟩
  intro N2
  obtain ⟨M2, e2⟩ : ∃ x, x = N2 := ⟨_, rfl⟩
  rw [← e2]
  have f2 : fr (Zk t) M1 M2 := fr_wn e2 (by unfold Zk; omega)
  have h2 := cT_fr h1 f2 (fun a j q => by unfold Zk at q; omega)
  rw [h2.1.2.2.1, w32_id (x := (i : Int) + 1) (by omega) (by omega)]
  refine ⟨rfl, ?_⟩
  intro N3
  obtain ⟨M3, e3⟩ : ∃ x, x = N3 := ⟨_, rfl⟩
  rw [← e3]
  have k := K M3 (fr_trans f1 (fr_trans f2 (fr_wn e3 (by unfold Zk; omega)))) (wn_eq e3) (by rw [wn_ne e3 (by omega), wn_ne e2 (by omega), wn_eq e1]) (by rw [wn_ne e3 (by omega), wn_eq e2]) (fun a j q r => by rw [wn_ne e3 (by omega), wn_ne e2 (by omega), wn_ne e1 (by omega)])
  refine ⟨fun z => s_71_155 ?_, fun z => s_71_155 ?_⟩
  · rw [if_pos z] at k
    rw [w32_id (x := (i : Int) + 1) (by omega) (by omega)]; exact k
  · rw [if_neg z] at k
    rw [w32_id (x := (i : Int) + 1) (by omega) (by omega)]; exact k
theorem c_71l {d : Nat} {P : Int → qM → Prop} {tp : List Int} {t : Int} {n : Nat} {M0 : qM} (g : G_T tp) (hn : n ≤ tp.length) (hn1 : yT tp n = -1 ∨ yT tp n = -2) (hn2 : ∀ j, j < n → (yT tp j ≠ -1 ∧ yT tp j ≠ -2)) (K : ∀ M', fr (Zk t) M0 M' → A_tk tp t (n + 1) M' → q_nm M' t 3 = (n : Int) + 1 → P 0 M') : ∀ (m i : Nat) (x3 : Int) (M : qM), i + m = n + 1 → (i = 0 → x3 = 0) → (∀ j, i = j + 1 → x3 = yT tp j ∧ q_nm M t 3 = (i : Int)) → fr (Zk t) M0 M → cT tp t M → A_tk tp t i M → q_At q_m71 (q_WP q_Pr (d + 4)) P 9 [(0, .inr (.inr t)), (1, .inl ((ySq tp i).1 : Int)), (2, .inl (yGl tp i)), (3, .inl x3), (4, .inl (i : Int))] [] M 0 0 := by
  intro m
  induction m with
  | zero =>
    intro i x3 M hi h0 hs f h ha
    obtain ⟨e3, e4⟩ := hs n (by omega)
    have fin : P 0 M := K M f (by rw [show n + 1 = i by omega]; exact ha) (by rw [e4]; omega)
    refine s_71_9 ?_
    rw [h.1.2.2.1, h.1.2.2.2.1.2.1, h.1.2.2.2.2.1.1]
    refine ⟨rfl, by decide, fun _ => fin, fun _ => ⟨fun _ => fin, fun z => ⟨fun _ => fin, fun z2 => absurd hn1 (by omega)⟩⟩⟩
  | succ m ih =>
    intro i x3 M hi h0 hs f h ha
    have h5 := h.2.2
    have pl := yP_le tp i
    have x3n : ¬ x3 = -2 ∧ ¬ x3 = -1 := by
      by_cases e : i = 0
      · rw [h0 e]; decide
      · obtain ⟨j, ej⟩ : ∃ j, i = j + 1 := ⟨i - 1, by omega⟩
        have q := hn2 j (by omega)
        rw [(hs j ej).1]; exact ⟨q.2, q.1⟩
    refine s_71_9 ?_
    rw [h.1.2.2.1, h.1.2.2.2.1.2.1, h.1.2.2.2.2.1.1, h.1.2.2.2.2.1.2]
    refine ⟨rfl, by decide, fun z => absurd z (by omega), fun _ => ⟨fun z => absurd z x3n.1, fun _ => ⟨fun z => absurd z x3n.2, fun _ => ?_⟩⟩⟩
    have wr : ∀ x6 : Int, x6 = (if yB tp (yP tp i) = true then 1 else 0) → q_At q_m71 (q_WP q_Pr (d + 4)) P 116 [(0, .inr (.inr t)), (1, .inl (yP tp i : Int)), (4, .inl (i : Int)), (5, .inl (yE tp (yP tp i) : Int)), (6, .inl x6)] [.inl (yT tp i)] M 0 0 := fun x6 e6 => by
      refine c_71w (d := d + 1) h (by omega) (fun M' f' a1 a2 a3 a4 => ?_)
      have eg : (if x6 = 0 then -1 else (yE tp (yP tp i) : Int)) = yGl tp (i + 1) := by
        unfold yGl
        rw [ySq_s, e6]
        cases yB tp (yP tp i) <;> simp
      rw [eg]
      refine ih (i + 1) (yT tp i) M' (by omega) (fun z => absurd z (by omega)) (fun j ej => ?_) (fr_trans f f') (cT_fr h f' (fun a j q => by have := h.1.2.1; unfold Zk at q; omega)) (fun j hj => ?_)
      · rw [show j = i by omega]; exact ⟨rfl, by rw [a1]; omega⟩
      · by_cases e : j = i
        · rw [e]; exact ⟨a2, a3⟩
        · obtain ⟨b1, b2⟩ := ha j (by omega)
          exact ⟨(a4 _ _ (Or.inl rfl) (by omega)).trans b1, (a4 _ _ (Or.inr rfl) (by omega)).trans b2⟩
    refine c_71b (d := d + 1) h pl.2 (fun y0 ey => ?_) (tp.length - (ySq tp i).1) (ySq tp i).1 (by have := ySq_le tp i; omega) rfl
    have tv : yT tp i = yTv tp (yP tp i) ∨ (yG tp i && yB tp (yP tp i)) = true := by
      unfold yT
      by_cases q : (yG tp i && yB tp (yP tp i)) = true
      · exact Or.inr q
      · rw [if_neg q]; exact Or.inl rfl
    refine s_71_92 ⟨fun z => ⟨h.1.2.2.1, c_73 (d := d) h pl.2 ?_⟩, fun z => ⟨fun ne => ⟨h.1.2.2.1, c_73 (d := d) h pl.2 ?_⟩, fun e => ?_⟩⟩
    · have nb : yB tp (yP tp i) = false := by
        cases q : yB tp (yP tp i) with
        | false => rfl
        | true => rw [q, if_pos rfl] at ey; omega
      have e : yT tp i = yTv tp (yP tp i) := tv.resolve_right (by rw [nb, Bool.and_false]; decide)
      rw [← e]; exact wr y0 ey
    · have ng : ¬ yG tp i = true := fun q => ne (yGl_iff.mpr q)
      have e : yT tp i = yTv tp (yP tp i) := tv.resolve_right (by rw [Bool.and_eq_true]; exact fun q => ng q.1)
      rw [← e]; exact wr y0 ey
    · have gg : yG tp i = true := yGl_iff.mp e
      have bb : yB tp (yP tp i) = true := by
        cases q : yB tp (yP tp i) with
        | true => rfl
        | false => rw [q, if_neg (by decide)] at ey; exact absurd ey z
      have e2 : yT tp i = -2 := by unfold yT; rw [gg, bb]; rfl
      rw [← e2]; exact wr y0 ey
theorem c_71 {d : Nat} {P : Int → qM → Prop} {tp : List Int} {t : Int} {n : Nat} {M : qM} (g : G_T tp) (h : cT tp t M) (hn : n ≤ tp.length) (hn1 : yT tp n = -1 ∨ yT tp n = -2) (hn2 : ∀ j, j < n → (yT tp j ≠ -1 ∧ yT tp j ≠ -2)) (K : ∀ M', fr (Zk t) M M' → A_tk tp t (n + 1) M' → q_nm M' t 3 = (n : Int) + 1 → P 0 M') : q_WP q_Pr (d + 5) 71 [.inr (.inr t)] M P :=
  q_enter (s_71_0 (c_71l (d := d) (M0 := M) g hn hn1 hn2 K (n + 1) 0 0 M (by omega) (fun _ => rfl) (fun j e => absurd e (by omega)) fr_rfl h (fun j hj => absurd hj (Nat.not_lt_zero j))))
end
