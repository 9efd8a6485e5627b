section
/-! THE REFERENCE READS A PART -/
def Zx : Int → Int → Prop := fun a j => (a = 66 ∧ ((2 ≤ j ∧ j ≤ 6) ∨ j = 50 ∨ (52 ≤ j ∧ j ≤ 54))) ∨ a = 107 ∨ (a = 106 ∧ 10500 ≤ j)
theorem Zt_Zx {M M' : qM} (f : fr Zt M M') : fr Zx M M' := fr_mono f (fun a j q => by unfold Zt at q; unfold Zx; omega)
theorem Zy_Zx {M M' : qM} (f : fr Zy M M') : fr Zx M M' := fr_mono f (fun a j q => by unfold Zy at q; unfold Zx; omega)
theorem LT_Zx {M M' : qM} (h : LT M) (f : fr Zx M M') : LT M' := LT_eq h (fun a j x y => f.2 a j (by unfold Zx; omega))
/-- the reference reads: before token i, the pile S above B, codes C -/
def R_ng (tp B : List Int) (M0 : qM) (i : Nat) (S C : List Int) (o : Nat) (M : qM) : Prop := (fr Zx M0 M ∧ q_lay M ∧ LT M) ∧ (∃ a, R_ps tp i a M) ∧ R_cs (S ++ B) C o M ∧ q_nm M 66 54 = B.length ∧ (S ++ B).length + C.length + 3 ≤ (ySq tp i).1 ∧ o = opn (S ++ B)
/-- it has failed -/
def R_F (M0 : qM) (k : Int) (p : Nat) (M : qM) : Prop := (fr Zx M0 M ∧ q_lay M) ∧ (q_nm M 66 5 = k ∧ q_nm M 66 6 = p) ∧ k ≠ 0 ∧ 0 ≤ q_nm M 66 50 ∧ q_nm M 66 50 ≤ 2098
theorem R_ps_len {tp : List Int} {i a : Nat} {M : qM} (h : R_ps tp i a M) : tp.length ≤ 2100 := by
  obtain ⟨e, g, _⟩ := h; exact g.1.2.2.2.2
theorem R_ng_b {tp B : List Int} {M0 : qM} {i : Nat} {S C : List Int} {o : Nat} {M : qM} (h : R_ng tp B M0 i S C o M) : (S ++ B).length + C.length ≤ 2097 := by
  obtain ⟨_, ⟨a, p⟩, _, _, b, _⟩ := h
  have := R_ps_len p
  have := ySq_le tp i
  omega
theorem R_ng_t {tp B : List Int} {M0 : qM} {i i' a' : Nat} {S C : List Int} {o : Nat} {M M' : qM} (h : R_ng tp B M0 i S C o M) (f : fr Zt M M') (l : q_lay M') (p : R_ps tp i' a' M') (hi : (ySq tp i).1 ≤ (ySq tp i').1) : R_ng tp B M0 i' S C o M' :=
  ⟨⟨fr_trans h.1.1 (Zt_Zx f), l, LT_Zt h.1.2.2 f⟩, ⟨a', p⟩, R_cs_t h.2.2.1 f, (f.2 _ _ (fun q => by have := q.2; omega)).trans h.2.2.2.1, Nat.le_trans h.2.2.2.2.1 hi, h.2.2.2.2.2⟩
theorem R_ng_y {tp B : List Int} {M0 : qM} {i : Nat} {S C S' C' : List Int} {o o' : Nat} {M M' : qM} (h : R_ng tp B M0 i S C o M) (f : fr Zy M M') (l : q_lay M') (c : R_cs (S' ++ B) C' o' M') (hb : (S' ++ B).length + C'.length + 3 ≤ (ySq tp i).1) (ho : o' = opn (S' ++ B)) : R_ng tp B M0 i S' C' o' M' := by
  obtain ⟨⟨f0, _, t⟩, ⟨a, p⟩, _, b, _, _⟩ := h
  exact ⟨⟨fr_trans f0 (Zy_Zx f), l, LT_Zx t (Zy_Zx f)⟩, ⟨a, R_ps_y p f⟩, c, (f.2 _ _ (by unfold Zy; omega)).trans b, hb, ho⟩
/-- a fault found at the tokens -/
theorem R_F_t {tp B : List Int} {M0 : qM} {i p : Nat} {k : Int} {S C : List Int} {o : Nat} {M M' : qM} (h : R_ng tp B M0 i S C o M) (f : fr Zt M M') (l : q_lay M') (b : R_bad k p M') (hk : k ≠ 0) : R_F M0 k p M' := by
  have q := R_ng_b h
  have e : q_nm M' 66 50 = C.length := (f.2 _ _ (fun q => by have := q.2; omega)).trans h.2.2.1.2.2.1
  exact ⟨⟨fr_trans h.1.1 (Zt_Zx f), l⟩, b, hk, by omega, by omega⟩
theorem R_F_b {M0 : qM} {k : Int} {p : Nat} {M : qM} (h : R_F M0 k p M) : ¬ q_nm M 66 5 = 0 := by rw [h.2.1.1]; exact h.2.2.1
theorem r_174bad {d : Nat} {Q : Int → qM → Prop} {x : Int} {M : qM} {c s : Nat} (hl : q_lay M) (h : ¬ q_nm M 66 5 = 0) (K : Q 0 M) : q_At q_m174 (q_WP q_Pr d) Q 2 [(0, .inr (.inr 66)), (1, .inl x)] [] M c s := by
  have f : q_At q_m174 (q_WP q_Pr d) Q 146 [(0, .inr (.inr 66))] [] M c s := t_174_146 hl ⟨fun z => absurd z h, fun _ => K⟩
  exact t_174_2 hl ⟨fun _ => f, fun _ => ⟨fun _ => f, fun z => absurd z h⟩⟩
theorem ySq_sl {tp : List Int} {i : Nat} (g : G_T tp) (h : yT tp i ≠ -1) : (ySq tp i).1 < (ySq tp (i + 1)).1 := by
  have a := ySq_lt g h
  have b := (yP_le tp i).1
  omega
/-- a fact or a number -/
theorem r_174p {d : Nat} {Q : Int → qM → Prop} {tp B : List Int} {M0 : qM} {i : Nat} {S C : List Int} {o : Nat} {M : qM} (g : G_T tp) (h : R_ng tp B M0 i S C o M)
    (Kpl : ((15 ≤ yT tp i ∧ yT tp i ≤ 21) ∨ (1000 ≤ yT tp i ∧ yD5 tp i = false)) → ∀ M', R_ng tp B M0 (i + 1) S (C ++ [trc (yT tp i)]) o M' → Q 0 M')
    (K5 : 1000 ≤ yT tp i → yD5 tp i = true → ∀ M', R_F M0 1 (yP tp (i + 1)) M' → Q 0 M')
    (K0 : ¬ (15 ≤ yT tp i ∧ yT tp i ≤ 21) → ¬ 1000 ≤ yT tp i → ∀ M', R_F M0 1 (yP tp i) M' → Q 0 M') : q_At q_m174 (q_WP q_Pr (d + 3)) Q 146 [(0, .inr (.inr 66))] [] M 0 0 := by
  have hb := R_ng_b h
  have hb' : (S ++ B).length + C.length ≤ 2097 := hb
  have fin : ∀ M', ((15 ≤ yT tp i ∧ yT tp i ≤ 21) ∨ (1000 ≤ yT tp i ∧ yD5 tp i = false)) → fr Zt M M' → q_lay M' → R_ps tp (i + 1) (ySq tp (i + 1)).1 M' → q_At q_m174 (q_WP q_Pr (d + 3)) Q 290 [] [.inl (trc (yT tp i)), .inr (.inr 66)] M' 0 0 := fun M' hp f l p => by
    have lt := ySq_sl g (i := i) (by omega)
    have s1 := R_ng_t h f l p (by omega)
    refine t_174_290 l ⟨lk66 l, r_167 (d := d + 2) l s1.2.2.1 (by omega) (fun M2 f2 l2 c2 => ⟨l2, Kpl hp M2 (R_ng_y s1 f2 l2 c2 ?_ s1.2.2.2.2.2)⟩)⟩
    have := h.2.2.2.2.1
    rw [List.length_append (as := C), List.length_cons, List.length_nil]
    omega
  have fin2 : ∀ (v : Int) M', v = trc (yT tp i) → v ≠ -1 → (15 ≤ yT tp i ∧ yT tp i ≤ 21) → fr Zt M M' → q_lay M' → R_ps tp (i + 1) (ySq tp (i + 1)).1 M' → q_At q_m174 (q_WP q_Pr (d + 3)) Q 267 [(0, .inr (.inr 66))] [.inl v] M' 0 0 := fun v M' hv hn hp f l p => by
    refine t_174_267 l ⟨fun z => absurd z hn, fun _ => ?_⟩
    rw [hv]; exact fin M' (Or.inl hp) f l p
  obtain ⟨a, p0⟩ := h.2.1
  have lt0 := h.1.2.2
  refine t_174_146 h.1.2.1 ⟨fun _ => r_154 (d := d) (n := 15) h.1.2.1 rfl (by decide) lt0 p0 (fun q M1 f1 l1 p1 => ⟨l1, fun z => absurd z (by decide), fun _ => fin2 7 M1 (by rw [q]; rfl) (by decide) (by rw [q]; decide) f1 l1 p1⟩) (fun q15 M1 f1 l1 p1 => ⟨l1, fun _ => ?_, fun z => absurd rfl z⟩), fun z => absurd (R_ps_ok p0) z⟩
  refine r_154 (d := d) (n := 16) l1 rfl (by decide) (LT_Zt lt0 f1) p1 (fun q M2 f2 l2 p2 => ⟨l2, fun z => absurd z (by decide), fun _ => fin2 8 M2 (by rw [q]; rfl) (by decide) (by rw [q]; decide) (fr_trans f1 f2) l2 p2⟩) (fun q16 M2 f2' l2 p2 => ⟨l2, fun _ => ?_, fun z => absurd rfl z⟩)
  have f2 := fr_trans f1 f2'
  refine r_154 (d := d) (n := 17) l2 rfl (by decide) (LT_Zt lt0 f2) p2 (fun q M3 f3 l3 p3 => ⟨l3, fun z => absurd z (by decide), fun _ => fin2 9 M3 (by rw [q]; rfl) (by decide) (by rw [q]; decide) (fr_trans f2 f3) l3 p3⟩) (fun q17 M3 f3' l3 p3 => ⟨l3, fun _ => ?_, fun z => absurd rfl z⟩)
  have f3 := fr_trans f2 f3'
  refine r_154 (d := d) (n := 18) l3 rfl (by decide) (LT_Zt lt0 f3) p3 (fun q M4 f4 l4 p4 => ⟨l4, fun z => absurd z (by decide), fun _ => fin2 10 M4 (by rw [q]; rfl) (by decide) (by rw [q]; decide) (fr_trans f3 f4) l4 p4⟩) (fun q18 M4 f4' l4 p4 => ⟨l4, fun _ => ?_, fun z => absurd rfl z⟩)
  have f4 := fr_trans f3 f4'
  refine r_154 (d := d) (n := 19) l4 rfl (by decide) (LT_Zt lt0 f4) p4 (fun q M5 f5 l5 p5 => ⟨l5, fun z => absurd z (by decide), fun _ => fin2 18 M5 (by rw [q]; rfl) (by decide) (by rw [q]; decide) (fr_trans f4 f5) l5 p5⟩) (fun q19 M5 f5' l5 p5 => ⟨l5, fun _ => ?_, fun z => absurd rfl z⟩)
  have f5 := fr_trans f4 f5'
  refine r_154 (d := d) (n := 20) l5 rfl (by decide) (LT_Zt lt0 f5) p5 (fun q M6 f6 l6 p6 => ⟨l6, fun z => absurd z (by decide), fun _ => fin2 19 M6 (by rw [q]; rfl) (by decide) (by rw [q]; decide) (fr_trans f5 f6) l6 p6⟩) (fun q20 M6 f6' l6 p6 => ⟨l6, fun _ => ?_, fun z => absurd rfl z⟩)
  have f6 := fr_trans f5 f6'
  refine r_154 (d := d) (n := 21) l6 rfl (by decide) (LT_Zt lt0 f6) p6 (fun q M7 f7 l7 p7 => ⟨l7, fun z => absurd z (by decide), fun _ => fin2 30 M7 (by rw [q]; rfl) (by decide) (by rw [q]; decide) (fr_trans f6 f7) l7 p7⟩) (fun q21 M7 f7' l7 p7 => ⟨l7, fun _ => ?_, fun z => absurd rfl z⟩)
  have f7 := fr_trans f6 f7'
  have np : ¬ (15 ≤ yT tp i ∧ yT tp i ≤ 21) := by
    omega
  refine t_174_267 l7 ⟨fun _ => r_158 (d := d + 1) l7 p7 (fun q1 q5 M8 f8 l8 p8 => ⟨l8, ?_⟩) (fun q1 q5 M8 f8 l8 b8 => ⟨l8, ?_⟩) (fun q0 M8 f8 l8 b8 => ⟨l8, ?_⟩), fun z => absurd rfl z⟩
  · have := (yT_nv q1).2
    rw [w32_id (x := 1000 + (yT tp i - 1000)) (by omega) (by omega), show 1000 + (yT tp i - 1000) = trc (yT tp i) by unfold trc; rw [if_pos q1]; omega]
    exact fin M8 (Or.inr ⟨q1, q5⟩) (fr_trans f7 f8) l8 p8
  · have rf := R_F_t h (fr_trans f7 f8) l8 b8 (by decide)
    have e50 : q_nm M8 66 50 = C.length := ((fr_trans f7 f8).2 _ _ (fun q => by have := q.2; omega)).trans h.2.2.1.2.2.1
    refine t_174_290 l8 ⟨lk66 l8, r_167b (d := d + 2) l8 (by omega) (fun M9 f9 l9 e9 => ⟨l9, K5 q1 q5 M9 ⟨⟨fr_trans rf.1.1 (Zy_Zx f9), l9⟩, ⟨(f9.2 _ _ (by unfold Zy; omega)).trans rf.2.1.1, (f9.2 _ _ (by unfold Zy; omega)).trans rf.2.1.2⟩, by decide, by omega, by omega⟩⟩)⟩
  · have rf := R_F_t h (fr_trans f7 f8) l8 b8 (by decide)
    have e50 : q_nm M8 66 50 = C.length := ((fr_trans f7 f8).2 _ _ (fun q => by have := q.2; omega)).trans h.2.2.1.2.2.1
    refine t_174_290 l8 ⟨lk66 l8, r_167b (d := d + 2) l8 (by omega) (fun M9 f9 l9 e9 => ⟨l9, K0 np q0 M9 ⟨⟨fr_trans rf.1.1 (Zy_Zx f9), l9⟩, ⟨(f9.2 _ _ (by unfold Zy; omega)).trans rf.2.1.1, (f9.2 _ _ (by unfold Zy; omega)).trans rf.2.1.2⟩, by decide, by omega, by omega⟩⟩)⟩
/-- behind min or max -/
theorem r_174m {d : Nat} {Q : Int → qM → Prop} {tp B : List Int} {M0 : qM} {i : Nat} {S C : List Int} {o : Nat} {x3 m : Int} {M : qM} (g : G_T tp) (ho : o ≤ 6) (hm : (x3 = 0 ∧ m = 22) ∨ (x3 ≠ 0 ∧ m = 21)) (h : R_ng tp B M0 (i + 1) S C o M)
    (K1 : yT tp (i + 1) = 40 → o < 6 → ∀ M', R_ng tp B M0 (i + 2) (m :: S) C (o + 1) M' → q_At q_m174 (q_WP q_Pr (d + 3)) Q 2 [(0, .inr (.inr 66)), (1, .inl 1)] [] M' 0 0)
    (K4 : yT tp (i + 1) = 40 → ¬ o < 6 → ∀ M', R_F M0 4 (yP tp (i + 1)) M' → Q 0 M')
    (K0 : yT tp (i + 1) ≠ 40 → ∀ M', R_F M0 1 (yP tp (i + 1)) M' → Q 0 M') : q_At q_m174 (q_WP q_Pr (d + 3)) Q 90 [(0, .inr (.inr 66)), (1, .inl 1), (3, .inl x3)] [] M 0 0 := by
  have s40 : ySg 40 := Or.inl rfl
  have hb := R_ng_b h
  have hbl : (S ++ B).length + C.length ≤ 2097 := hb
  obtain ⟨a, p0⟩ := h.2.1
  refine t_174_90 h.1.2.1 (r_152P h.1.2.1 p0 (fun M2 f2 l2 p2 => ⟨l2, fun z => ?_, fun z => ?_⟩))
  · have n40 : yT tp (i + 1) ≠ 40 := fun q => z ((yT_sg s40).mp q)
    refine t_174_107 l2 ⟨fun _ => t_174_132 l2 (r_157P (d := d) l2 s40 p2 (fun q => absurd q n40) (fun _ M3 f3 l3 b3 => ⟨l3, t_174_143 l3 ?_⟩)), fun q => absurd rfl q⟩
    have rf := R_F_t h (fr_trans f2 f3) l3 b3 (by decide)
    exact r_174bad l3 (R_F_b rf) (K0 n40 M3 rf)
  · have e40 : yT tp (i + 1) = 40 := (yT_sg s40).mpr z
    have s2 := R_ng_t h f2 l2 p2 (Nat.le_refl _)
    have go : q_WP q_Pr (d + 3) 168 [.inr (.inr 66), .inl m, .inl (q_nm M2 66 2)] M2 (fun v1 M3 => q_lay M3 ∧ (q_At q_m174 (q_WP q_Pr (d + 3)) Q 132 [(0, .inr (.inr 66)), (1, .inl 1)] [] M3 0 0)) := by
      rw [R_ps_a p2]
      refine r_168 (d := d + 1) l2 s2.2.2.1 (R_ps_ok p2) (by omega) ho (fun o6 M3 f3 l3 c3 => ⟨l3, t_174_132 l3 (r_157P (d := d) l3 s40 (R_ps_y p2 f3) (fun q M4 f4 l4 p4 => ⟨l4, t_174_143 l4 (K1 e40 o6 M4 ?_)⟩) (fun q => absurd e40 q))⟩) (fun o6 M3 f3 l3 b3 => ⟨l3, ?_⟩)
      · have lt : (ySq tp (i + 1)).1 < (ySq tp (i + 2)).1 := ySq_sl g (i := i + 1) (by rw [e40]; decide)
        have := h.2.2.2.2.1
        refine ⟨⟨fr_trans s2.1.1 (fr_trans (Zy_Zx f3) (Zt_Zx f4)), l4, LT_Zt (LT_Zx s2.1.2.2 (Zy_Zx f3)) f4⟩, ⟨_, p4⟩, R_cs_t c3 f4, ((f4.2 _ _ (fun q => by have := q.2; omega)).trans (f3.2 _ _ (by unfold Zy; omega))).trans s2.2.2.2.1, ?_, ?_⟩
        · rw [List.cons_append, List.length_cons]; omega
        · rw [List.cons_append, h.2.2.2.2.2]; show _ = (if 16 ≤ m then 1 else 0) + _; rw [if_pos (by omega)]; omega
      · have rf := R_F_t s2 f3 l3 b3 (by decide)
        exact t_174_132 l3 (r_157b l3 (R_F_b rf) ⟨l3, t_174_143 l3 (r_174bad l3 (R_F_b rf) (K4 e40 o6 M3 rf))⟩)
    refine t_174_107 l2 ⟨fun q => absurd q ?_, fun _ => ⟨fun q => ?_, fun q => ?_⟩⟩
    · rw [R_ps_a p2]; omega
    · rw [show (22 : Int) = m by omega]; exact go
    · rw [show (21 : Int) = m by omega]; exact go
theorem r_174s {d : Nat} {Q : Int → qM → Prop} {tp B : List Int} {M0 : qM} {i : Nat} {S C : List Int} {o : Nat} {M : qM} (g : G_T tp) (ho : o ≤ 6) (h : R_ng tp B M0 i S C o M)
    (K40 : yT tp i = 40 → o < 6 → ∀ M', R_ng tp B M0 (i + 1) (20 :: S) C (o + 1) M' → q_At q_m174 (q_WP q_Pr (d + 4)) Q 2 [(0, .inr (.inr 66)), (1, .inl 1)] [] M' 0 0)
    (K40f : yT tp i = 40 → ¬ o < 6 → ∀ M', R_F M0 4 (yP tp i) M' → Q 0 M')
    (Km : (yT tp i = 22 ∨ yT tp i = 23) → yT tp (i + 1) = 40 → o < 6 → ∀ M', R_ng tp B M0 (i + 2) ((yT tp i - 1) :: S) C (o + 1) M' → q_At q_m174 (q_WP q_Pr (d + 4)) Q 2 [(0, .inr (.inr 66)), (1, .inl 1)] [] M' 0 0)
    (Kmf : (yT tp i = 22 ∨ yT tp i = 23) → yT tp (i + 1) = 40 → ¬ o < 6 → ∀ M', R_F M0 4 (yP tp (i + 1)) M' → Q 0 M')
    (Kmn : (yT tp i = 22 ∨ yT tp i = 23) → yT tp (i + 1) ≠ 40 → ∀ M', R_F M0 1 (yP tp (i + 1)) M' → Q 0 M')
    (Kpl : ((15 ≤ yT tp i ∧ yT tp i ≤ 21) ∨ (1000 ≤ yT tp i ∧ yD5 tp i = false)) → ∀ M', R_ng tp B M0 (i + 1) S (C ++ [trc (yT tp i)]) o M' → Q 0 M')
    (K5 : 1000 ≤ yT tp i → yD5 tp i = true → ∀ M', R_F M0 1 (yP tp (i + 1)) M' → Q 0 M')
    (K0 : yT tp i ≠ 40 → ¬ (yT tp i = 22 ∨ yT tp i = 23) → ¬ (15 ≤ yT tp i ∧ yT tp i ≤ 21) → ¬ 1000 ≤ yT tp i → ∀ M', R_F M0 1 (yP tp i) M' → Q 0 M') : q_At q_m174 (q_WP q_Pr (d + 4)) Q 2 [(0, .inr (.inr 66)), (1, .inl 1)] [] M 0 0 := by
  have s40 : ySg 40 := Or.inl rfl
  have hb := R_ng_b h
  have hbl : (S ++ B).length + C.length ≤ 2097 := hb
  obtain ⟨a, p0⟩ := h.2.1
  have lt0 := h.1.2.2
  refine t_174_2 h.1.2.1 ⟨fun z => absurd z (by decide), fun _ => ⟨fun z => absurd (R_ps_ok p0) z, fun _ => r_152P h.1.2.1 p0 (fun M2 f2 l2 p2 => ⟨l2, fun z => ?_, fun z => ?_⟩)⟩⟩
  · have n40 : yT tp i ≠ 40 := fun q => z ((yT_sg s40).mp q)
    refine r_153 (d := d + 2) (n := 22) l2 rfl (by decide) (LT_Zt lt0 f2) p2 (fun q M4 f4 l4 p4 => ⟨l4, fun _ => r_154 (d := d + 1) (n := 22) l4 rfl (by decide) (LT_Zt lt0 (fr_trans f2 f4)) p4 (fun _ M6 f6 l6 p6 => ⟨l6, fun _ => ?_, fun w => absurd w (by decide)⟩) (fun w => absurd q w), fun w => absurd w (by decide)⟩) (fun q22 M4 f4 l4 p4 => ⟨l4, fun w => absurd rfl w, fun _ => r_153 (d := d + 2) (n := 23) l4 rfl (by decide) (LT_Zt lt0 (fr_trans f2 f4)) p4 (fun q M5 f5 l5 p5 => ⟨l5, fun w => absurd w (by decide), fun _ => r_154 (d := d + 1) (n := 22) l5 rfl (by decide) (LT_Zt lt0 (fr_trans f2 (fr_trans f4 f5))) p5 (fun w => absurd w q22) (fun _ M6 f6 l6 p6 => ⟨l6, fun w => absurd rfl w, fun _ => r_155 (d := d) (n := 23) l6 rfl (by decide) (LT_Zt lt0 (fr_trans f2 (fr_trans f4 (fr_trans f5 f6)))) p6 (fun _ M7 f7 l7 p7 => ⟨l7, ?_⟩) (fun w => absurd q w)⟩)⟩) (fun q23 M5 f5 l5 p5 => ⟨l5, fun _ => ?_, fun w => absurd rfl w⟩)⟩)
    · have e : yT tp i = 22 := q
      have lt := ySq_sl g (i := i) (by rw [e]; decide)
      have s6 := R_ng_t h (fr_trans f2 (fr_trans f4 f6)) l6 p6 (by omega)
      rw [e] at Km
      exact r_174m (d := d + 1) g ho (Or.inr ⟨by decide, rfl⟩) s6 (Km (Or.inl rfl)) (Kmf (Or.inl e)) (Kmn (Or.inl e))
    · have e : yT tp i = 23 := q
      have lt := ySq_sl g (i := i) (by rw [e]; decide)
      have s7 := R_ng_t h (fr_trans f2 (fr_trans f4 (fr_trans f5 (fr_trans f6 f7)))) l7 p7 (by omega)
      rw [e] at Km
      exact r_174m (d := d + 1) g ho (Or.inl ⟨rfl, rfl⟩) s7 (Km (Or.inr rfl)) (Kmf (Or.inr e)) (Kmn (Or.inr e))
    · have n22 : yT tp i ≠ 22 := q22
      have n23 : yT tp i ≠ 23 := q23
      have s5 := R_ng_t h (fr_trans f2 (fr_trans f4 f5)) l5 p5 (Nat.le_refl _)
      refine t_174_143 l5 (t_174_2 l5 ⟨fun _ => ?_, fun w => absurd rfl w⟩)
      exact r_174p (d := d + 1) g s5 Kpl K5 (fun a b => K0 n40 (by omega) a b)
  · have e40 : yT tp i = 40 := (yT_sg s40).mpr z
    have s2 := R_ng_t h f2 l2 p2 (Nat.le_refl _)
    have lt := ySq_sl g (i := i) (by rw [e40]; decide)
    rw [R_ps_a p2]
    refine r_168 (d := d + 2) l2 s2.2.2.1 (R_ps_ok p2) (by omega) ho (fun o6 M3 f3 l3 c3 => ⟨l3, fun M4 e4 l4 => t_174_143 l4 (K40 e40 o6 M4 ?_)⟩) (fun o6 M3 f3 l3 b3 => ⟨l3, fun M4 e4 l4 => t_174_143 l4 ?_⟩)
    · have f4 : fr Zt M3 M4 := fr_wn e4 ⟨rfl, by omega⟩
      have := h.2.2.2.2.1
      refine ⟨⟨fr_trans s2.1.1 (fr_trans (Zy_Zx f3) (Zt_Zx f4)), l4, LT_Zt (LT_Zx s2.1.2.2 (Zy_Zx f3)) f4⟩, ⟨_, R_ps_step s40 e40 (R_ps_y p2 f3) e4⟩, R_cs_t c3 f4, ((f4.2 _ _ (fun q => by have := q.2; omega)).trans (f3.2 _ _ (by unfold Zy; omega))).trans s2.2.2.2.1, ?_, ?_⟩
      · rw [List.cons_append, List.length_cons]; omega
      · rw [List.cons_append, h.2.2.2.2.2]; show _ = (if (16 : Int) ≤ 20 then 1 else 0) + _; rw [if_pos (by decide)]; omega
    · have f4 : fr Zt M3 M4 := fr_wn e4 ⟨rfl, by omega⟩
      have rf := R_F_t s2 (fr_trans f3 f4) l4 (p := yP tp i) (k := 4) ⟨(wn_ne e4 (by omega)).trans b3.1, (wn_ne e4 (by omega)).trans b3.2⟩ (by decide)
      exact r_174bad l4 (R_F_b rf) (K40f e40 o6 M4 rf)
end
