section
theorem r_200q {d : Nat} {P : Int → qM → Prop} {M0 : qM} {nw r : Int} {WL : Int → List Int} {WS WE WO : Int → Int} {ln : List Int} {k p : Nat} {c s : Nat} (hl : q_lay M0) (hW : R_W nw WL WS WE WO M0) (gW : G_W nw WL WS WE WO) (hr : R_row M0 r ln) (g : G_L nw ln) (hk : k < 4) (hp : p < ln.length)
    (K : ∀ M', fr ZK M0 M' → R_TK M' nw WL ln (tkK (mayB WL WS WE ln) ln.length nw.toNat k ++ tkP (mayB WL WS WE ln) (k + 1) ln.length nw.toNat p ++ tkO (mayB WL WS WE ln) (k + 1) p ln.length) → q_At q_m200 (q_WP q_Pr (d + 4)) P 10 [(0, .inr (.inr 66)), (1, .inl ((k + 1 : Nat) : Int)), (2, .inl r), (3, .inl (ln.length : Int)), (4, .inl (w32 ((p : Int) + 1)))] [] M' c s) : ∀ (j m : Nat) (M : qM), m + j = ln.length → fr ZK M0 M → R_TK M nw WL ln (tkK (mayB WL WS WE ln) ln.length nw.toNat k ++ tkP (mayB WL WS WE ln) (k + 1) ln.length nw.toNat p ++ tkO (mayB WL WS WE ln) (k + 1) p m) → q_At q_m200 (q_WP q_Pr (d + 4)) P 119 [(0, .inr (.inr 66)), (1, .inl ((k + 1 : Nat) : Int)), (2, .inl r), (3, .inl (ln.length : Int)), (4, .inl (p : Int)), (5, .inl (li ln p)), (6, .inl (m : Int))] [] M c s := by
  have g6 := g.1
  have ho : oth (k + 1) ln.length nw.toNat = ln.length := by unfold oth; rw [if_pos (by omega)]
  intro j
  induction j with
  | zero =>
    intro m M e hf hT
    have em : m = ln.length := by omega
    subst em
    exact t_200_119 (fr_lay hf hl) ⟨fun _ => K M hf hT, fun z => absurd z (by omega)⟩
  | succ j ih =>
    intro m M e hf hT
    have l := fr_lay hf hl
    have hW' := R_W_K hW hf
    have hr' := R_row_K hr hf
    have la := li_rng g (a := (p : Int)) (by omega) (by omega)
    have lm := li_rng g (a := (m : Int)) (by omega) (by omega)
    have nx : ∀ M', fr ZK M0 M' → R_TK M' nw WL ln (tkK (mayB WL WS WE ln) ln.length nw.toNat k ++ tkP (mayB WL WS WE ln) (k + 1) ln.length nw.toNat p ++ tkO (mayB WL WS WE ln) (k + 1) p (m + 1)) → q_At q_m200 (q_WP q_Pr (d + 4)) P 222 [(0, .inr (.inr 66)), (1, .inl ((k + 1 : Nat) : Int)), (2, .inl r), (3, .inl (ln.length : Int)), (4, .inl (p : Int)), (5, .inl (li ln p)), (6, .inl (m : Int))] [] M' c s := fun M' f' h' => by
      refine t_200_222 (fr_lay f' hl) ?_
      rw [w32_id (x := (m : Int) + 1) (by omega) (by omega)]
      exact ih (m + 1) M' (by omega) f' h'
    have a205 : ∀ y : Int, ((y = 1 ∧ mayP WL WS WE ln ((k + 1 : Nat) : Int) p m) ∨ (y = 0 ∧ ¬ mayP WL WS WE ln ((k + 1 : Nat) : Int) p m)) → q_At q_m200 (q_WP q_Pr (d + 4)) P 205 [(0, .inr (.inr 66)), (1, .inl ((k + 1 : Nat) : Int)), (2, .inl r), (3, .inl (ln.length : Int)), (4, .inl (p : Int)), (5, .inl (li ln p)), (6, .inl (m : Int))] [.inl y] M c s := fun y hy => by
      refine t_200_205 l ⟨fun z => nx M hf ?_, fun z => ?_⟩
      · have hn : ¬ mayP WL WS WE ln ((k + 1 : Nat) : Int) p m := by
          rcases hy with h | h
          · omega
          · exact h.2
        rw [tkO_no (fun q => hn (mayB_iff.mp q))]; exact hT
      · have hn : mayP WL WS WE ln ((k + 1 : Nat) : Int) p m := by
          rcases hy with h | h
          · exact h.2
          · omega
        exact r_add l hW' gW hr' g (by omega) hp (by rw [ho]; omega) hT hn (m : Int) (by unfold ot; rw [if_neg (by omega)]) (fun M' f1 c1 => ⟨fr_lay f1 l, nx M' (fr_trans hf f1) c1⟩)
    have a157 : ∀ y : Int, ((y = 1 ∧ (k + 1 = 2 → m < p) ∧ (k + 1 ≠ 2 → p < m)) ∨ (y = 0 ∧ (k + 1 = 2 → p ≤ m) ∧ (k + 1 ≠ 2 → m ≤ p))) → q_At q_m200 (q_WP q_Pr (d + 4)) P 157 [(0, .inr (.inr 66)), (1, .inl ((k + 1 : Nat) : Int)), (2, .inl r), (3, .inl (ln.length : Int)), (4, .inl (p : Int)), (5, .inl (li ln p)), (6, .inl (m : Int))] [.inl y] M c s := fun y hy => by
      refine t_200_157 (d := d + 3) l ?_
      rw [R_row_get hr' (a := (m : Int)) (by omega) (by omega)]
      refine ⟨fun z => a205 0 (Or.inr ⟨rfl, fun q => by unfold mayP mayW at q; omega⟩), fun z => ⟨fun x => ⟨⟨hr.1, by omega⟩, ?_⟩, fun x => ⟨⟨hr.1, by omega⟩, fun u => a205 0 (Or.inr ⟨rfl, fun q => ?_⟩), fun u => a205 1 (Or.inl ⟨rfl, ?_⟩)⟩⟩⟩
      · refine r_189 (WL := WL) l (R_W_ok hW' gW la.1 la.2) (R_W_ok hW' gW lm.1 lm.2) (fun q => ⟨l, fun _ => a205 0 (Or.inr ⟨rfl, fun v => ?_⟩), fun v => absurd v (by decide)⟩) (fun q => ⟨l, fun v => absurd rfl v, fun _ => a205 1 (Or.inl ⟨rfl, ?_⟩)⟩)
        · unfold mayP mayW at v
          rcases v with v | v | v | v | v
          · exact v.2.2 q
          · exact v.2.2 q
          · omega
          · omega
          · omega
        · unfold mayP
          by_cases e2 : k + 1 = 2
          · exact Or.inr (Or.inl ⟨by omega, by omega, q⟩)
          · exact Or.inl ⟨by omega, by omega, q⟩
      · unfold mayP mayW at q
        rcases q with v | v | v | v | v
        · omega
        · omega
        · exact v.2.2 u.symm
        · omega
        · omega
      · exact Or.inr (Or.inr (Or.inl ⟨x, by omega, fun v => u v.symm⟩))
    exact t_200_119 l ⟨fun z => absurd z (by omega), fun _ => ⟨fun z => ⟨fun y => a157 0 (by omega), fun y => a157 1 (by omega)⟩, fun z => ⟨fun y => a157 0 (by omega), fun y => a157 1 (by omega)⟩⟩⟩
theorem r_200v {d : Nat} {P : Int → qM → Prop} {M0 : qM} {nw r : Int} {WL : Int → List Int} {WS WE WO : Int → Int} {ln : List Int} {k p : Nat} {c s : Nat} (hl : q_lay M0) (hW : R_W nw WL WS WE WO M0) (gW : G_W nw WL WS WE WO) (hr : R_row M0 r ln) (g : G_L nw ln) (hk : 4 ≤ k ∧ k < 7) (hp : p < ln.length)
    (K : ∀ M', fr ZK M0 M' → R_TK M' nw WL ln (tkK (mayB WL WS WE ln) ln.length nw.toNat k ++ tkP (mayB WL WS WE ln) (k + 1) ln.length nw.toNat p ++ tkO (mayB WL WS WE ln) (k + 1) p nw.toNat) → q_At q_m200 (q_WP q_Pr (d + 4)) P 10 [(0, .inr (.inr 66)), (1, .inl ((k + 1 : Nat) : Int)), (2, .inl r), (3, .inl (ln.length : Int)), (4, .inl (w32 ((p : Int) + 1)))] [] M' c s) : ∀ (j m : Nat) (M : qM), m + j = nw.toNat → fr ZK M0 M → R_TK M nw WL ln (tkK (mayB WL WS WE ln) ln.length nw.toNat k ++ tkP (mayB WL WS WE ln) (k + 1) ln.length nw.toNat p ++ tkO (mayB WL WS WE ln) (k + 1) p m) → q_At q_m200 (q_WP q_Pr (d + 4)) P 76 [(0, .inr (.inr 66)), (1, .inl ((k + 1 : Nat) : Int)), (2, .inl r), (3, .inl (ln.length : Int)), (4, .inl (p : Int)), (5, .inl (li ln p)), (6, .inl (m : Int))] [] M c s := by
  have g6 := g.1
  have gn := gW.1
  have ho : oth (k + 1) ln.length nw.toNat = nw.toNat := by unfold oth; rw [if_neg (by omega), if_neg (by omega)]
  intro j
  induction j with
  | zero =>
    intro m M e hf hT
    have em : m = nw.toNat := by omega
    subst em
    refine t_200_76 (fr_lay hf hl) ?_
    rw [(R_W_K hW hf).1]
    exact ⟨fun _ => K M hf hT, fun z => absurd z (by omega)⟩
  | succ j ih =>
    intro m M e hf hT
    have l := fr_lay hf hl
    have hW' := R_W_K hW hf
    have hr' := R_row_K hr hf
    have la := li_rng g (a := (p : Int)) (by omega) (by omega)
    have iff : mayW WL WS WE ((k + 1 : Nat) : Int) (li ln p) m ↔ mayP WL WS WE ln ((k + 1 : Nat) : Int) p m := by
      constructor
      · intro q; exact Or.inr (Or.inr (Or.inr (Or.inl q)))
      · intro q; unfold mayP at q
        rcases q with v | v | v | v | v
        · omega
        · omega
        · omega
        · exact v
        · omega
    refine t_200_76 l ?_
    rw [hW'.1, w32_id (x := (m : Int) + 1) (by omega) (by omega)]
    refine ⟨fun z => absurd z (by omega), fun _ => r_199 (d := d + 1) l hW' gW (by omega) la (by omega) (fun q M1 f1 => ⟨fr_lay f1 l, fun z => absurd z (by decide), fun _ => ?_⟩) (fun q M1 f1 => ⟨fr_lay f1 l, fun _ => ?_, fun z => absurd rfl z⟩)⟩
    · have fz : fr ZK M M1 := fr_mono f1 (fun a j z => by unfold ZK; omega)
      exact r_add (fr_lay f1 l) (R_W_K hW' fz) gW (R_row_K hr' fz) g (by omega) hp (by rw [ho]; omega) (R_TK_pc hT f1) (iff.mp q) (m : Int) (by unfold ot; rw [if_neg (by omega)]) (fun M' f2 c2 => ⟨fr_lay f2 (fr_lay f1 l), ih (m + 1) M' (by omega) (fr_trans hf (fr_trans fz f2)) c2⟩)
    · have fz : fr ZK M M1 := fr_mono f1 (fun a j z => by unfold ZK; omega)
      refine ih (m + 1) M1 (by omega) (fr_trans hf fz) ?_
      rw [tkO_no (fun r => q (iff.mpr (mayB_iff.mp r)))]; exact R_TK_pc hT f1
theorem r_200l {d : Nat} {P : Int → qM → Prop} {M0 : qM} {nw r : Int} {WL : Int → List Int} {WS WE WO : Int → Int} {ln : List Int} {k : Nat} {c s : Nat} (hl : q_lay M0) (hW : R_W nw WL WS WE WO M0) (gW : G_W nw WL WS WE WO) (hr : R_row M0 r ln) (g : G_L nw ln) (hk : k < 8)
    (K : ∀ M', fr ZK M0 M' → R_TK M' nw WL ln (tkK (mayB WL WS WE ln) ln.length nw.toNat (k + 1)) → P 0 M') : ∀ (j p : Nat) (M : qM), p + j = ln.length → fr ZK M0 M → R_TK M nw WL ln (tkK (mayB WL WS WE ln) ln.length nw.toNat k ++ tkP (mayB WL WS WE ln) (k + 1) ln.length nw.toNat p) → q_At q_m200 (q_WP q_Pr (d + 4)) P 10 [(0, .inr (.inr 66)), (1, .inl ((k + 1 : Nat) : Int)), (2, .inl r), (3, .inl (ln.length : Int)), (4, .inl (p : Int))] [] M c s := by
  have g6 := g.1
  have gn := gW.1
  intro j
  induction j with
  | zero =>
    intro p M e hf hT
    have ep : p = ln.length := by omega
    subst ep
    exact t_200_10 (d := d + 3) (fr_lay hf hl) ⟨fun _ => K M hf hT, fun z => absurd z (by omega)⟩
  | succ j ih =>
    intro p M e hf hT
    have l := fr_lay hf hl
    have hW' := R_W_K hW hf
    have hr' := R_row_K hr hf
    have la := li_rng g (a := (p : Int)) (by omega) (by omega)
    have hT0 : R_TK M nw WL ln (tkK (mayB WL WS WE ln) ln.length nw.toNat k ++ tkP (mayB WL WS WE ln) (k + 1) ln.length nw.toNat p ++ tkO (mayB WL WS WE ln) (k + 1) p 0) := by
      show R_TK M nw WL ln (_ ++ []); rw [List.append_nil]; exact hT
    have nx : ∀ M', fr ZK M M' → R_TK M' nw WL ln (tkK (mayB WL WS WE ln) ln.length nw.toNat k ++ tkP (mayB WL WS WE ln) (k + 1) ln.length nw.toNat p ++ tkO (mayB WL WS WE ln) (k + 1) p (oth (k + 1) ln.length nw.toNat)) → q_At q_m200 (q_WP q_Pr (d + 4)) P 10 [(0, .inr (.inr 66)), (1, .inl ((k + 1 : Nat) : Int)), (2, .inl r), (3, .inl (ln.length : Int)), (4, .inl (w32 ((p : Int) + 1)))] [] M' c s := fun M' f' h' => by
      rw [w32_id (x := (p : Int) + 1) (by omega) (by omega)]
      refine ih (p + 1) M' (by omega) (fr_trans hf f') ?_
      show R_TK M' nw WL ln (_ ++ (_ ++ _))
      rw [← List.append_assoc]; exact h'
    refine t_200_10 (d := d + 3) l ?_
    rw [R_row_get hr' (a := (p : Int)) (by omega) (by omega)]
    have kp := R_W_ok hW' gW la.1 la.2
    have ol := onsN_le (WL (li ln p))
    have o8 := kp.2.2.1
    refine ⟨fun z => absurd z (by omega), fun _ => ⟨⟨hr.1, by omega⟩, fun z => ⟨fun y => ?_, fun y => ?_⟩, fun z => ⟨kp.1, kp.1, ?_⟩⟩⟩
    · refine r_200q l hW' gW hr' g (by omega) (by omega) (fun M' f' h' => nx M' f' ?_) ln.length 0 M (by omega) fr_rfl hT0
      have ho : oth (k + 1) ln.length nw.toNat = ln.length := by unfold oth; rw [if_pos (by omega)]
      rw [ho]; exact h'
    · refine r_200v l hW' gW hr' g (by omega) (by omega) (fun M' f' h' => nx M' f' ?_) nw.toNat 0 M (by omega) fr_rfl hT0
      have ho : oth (k + 1) ln.length nw.toNat = nw.toNat := by unfold oth; rw [if_neg (by omega), if_neg (by omega)]
      rw [ho]; exact h'
    · have ho : oth (k + 1) ln.length nw.toNat = 1 := by unfold oth; rw [if_neg (by omega), if_pos (by omega)]
      have iff : lose (WL (li ln p)) ↔ mayP WL WS WE ln ((k + 1 : Nat) : Int) p (0 : Nat) := by
        constructor
        · intro q; exact Or.inr (Or.inr (Or.inr (Or.inr ⟨by omega, q⟩)))
        · intro q; unfold mayP mayW at q
          rcases q with v | v | v | v | v
          · omega
          · omega
          · omega
          · omega
          · exact v.2
      rw [kp.2.1.2.1, kp.2.1.2.2, w32_id (x := ((WL (li ln p)).length : Int) - 1) (by omega) (by omega)]
      refine ⟨fun q => ?_, fun q => nx M fr_rfl ?_⟩
      · refine r_add (m := 0) l hW' gW hr' g (by omega) (by omega) (by omega) hT0 (iff.mp ⟨by omega, by omega⟩) (-1) (by unfold ot; rw [if_pos (by omega)]) (fun M' f2 c2 => ⟨fr_lay f2 l, nx M' f2 ?_⟩)
        rw [ho]; exact c2
      · rw [ho, tkO_no (fun r => q ?_)]
        · exact hT0
        · have := iff.mpr (mayB_iff.mp r); unfold lose at this; omega
theorem r_200 {d : Nat} {P : Int → qM → Prop} {M : qM} {nw r : Int} {WL : Int → List Int} {WS WE WO : Int → Int} {ln : List Int} {k : Nat} (hl : q_lay M) (hW : R_W nw WL WS WE WO M) (gW : G_W nw WL WS WE WO) (hr : R_row M r ln) (g : G_L nw ln) (hk : k < 8) (hT : R_TK M nw WL ln (tkK (mayB WL WS WE ln) ln.length nw.toNat k))
    (K : ∀ M', fr ZK M M' → R_TK M' nw WL ln (tkK (mayB WL WS WE ln) ln.length nw.toNat (k + 1)) → P 0 M') : q_WP q_Pr (d + 5) 200 [.inr (.inr 66), .inl ((k + 1 : Nat) : Int), .inl r] M P := by
  refine q_enter (t_200_0 hl ?_)
  rw [hr.2.1]
  exact ⟨hr.1, r_200l hl hW gW hr g hk K ln.length 0 M (by omega) fr_rfl (by show R_TK M nw WL ln (_ ++ []); rw [List.append_nil]; exact hT)⟩
theorem r_201l {d : Nat} {P : Int → qM → Prop} {M0 : qM} {nw r : Int} {WL : Int → List Int} {WS WE WO : Int → Int} {ln : List Int} {c s : Nat} (hl : q_lay M0) (hW : R_W nw WL WS WE WO M0) (gW : G_W nw WL WS WE WO) (hr : R_row M0 r ln) (g : G_L nw ln)
    (K : ∀ M', fr ZK M0 M' → R_TK M' nw WL ln (TK nw WL WS WE ln) → P 0 M') : ∀ (j k : Nat) (M : qM), k + j = 8 → fr ZK M0 M → R_TK M nw WL ln (tkK (mayB WL WS WE ln) ln.length nw.toNat k) → q_At q_m201 (q_WP q_Pr (d + 5)) P 48 [(0, .inr (.inr 66)), (1, .inl r), (2, .inl ((k + 1 : Nat) : Int))] [] M c s := by
  intro j
  induction j with
  | zero =>
    intro k M e hf hT
    have ek : k = 8 := by omega
    subst ek
    exact t_201_48 (fr_lay hf hl) ⟨fun _ => K M hf hT, fun z => absurd z (by decide)⟩
  | succ j ih =>
    intro k M e hf hT
    refine t_201_48 (fr_lay hf hl) ⟨fun z => absurd z (by omega), fun _ => r_200 (fr_lay hf hl) (R_W_K hW hf) gW (R_row_K hr hf) g (by omega) hT (fun M' f1 c1 => ⟨fr_lay f1 (fr_lay hf hl), ?_⟩)⟩
    rw [w32_id (x := ((k + 1 : Nat) : Int) + 1) (by omega) (by omega)]
    have := ih (k + 1) M' (by omega) (fr_trans hf f1) c1
    exact this
def ZY : Int → Int → Prop := fun a j => (a = 66 ∧ (j = 65 ∨ j = 55 ∨ j = 56 ∨ j = 67)) ∨ (108 ≤ a ∧ a ≤ 116)
/-- what is laid out stands for a row and for so many words -/
def R_Y (M : qM) (nw nr : Int) (WL : Int → List Int) (WS WE : Int → Int) (RL : Int → List Int) : Prop := (-1 ≤ q_nm M 66 56 ∧ q_nm M 66 56 < nr ∧ q_nm M 66 67 ≤ nw) ∧ (0 ≤ q_nm M 66 56 → q_nm M 66 67 = nw → R_TK M nw WL (RL (q_nm M 66 56)) (TK nw WL WS WE (RL (q_nm M 66 56))))
theorem r_201 {d : Nat} {P : Int → qM → Prop} {M : qM} {nw nr r : Int} {WL : Int → List Int} {WS WE WO : Int → Int} {RL : Int → List Int} (hl : q_lay M) (hW : R_W nw WL WS WE WO M) (gW : G_W nw WL WS WE WO) (hr : R_row M r (RL r)) (g : G_L nw (RL r)) (hY : R_Y M nw nr WL WS WE RL) (h0 : 0 ≤ r ∧ r < nr)
    (K : ∀ M', fr ZY M M' → q_nm M' 66 56 = r → q_nm M' 66 67 = nw → R_TK M' nw WL (RL r) (TK nw WL WS WE (RL r)) → P 0 M') : q_WP q_Pr (d + 6) 201 [.inr (.inr 66), .inl r] M P := by
  have g6 := g.1
  have anew : ∀ M1 M2 M3 : qM, M1 = q_wn M 66 55 0 → M2 = q_wn M1 66 56 r → M3 = q_wn M2 66 67 (q_nm M2 66 33) → q_lay M3 → q_WP q_Pr (d + 5) 198 [.inr (.inr 66), .inl (0 : Int), .inl (-1 : Int), .inl (-1 : Int), .inl r] M3 (fun _ M5 => q_lay M5 ∧ (q_At q_m201 (q_WP q_Pr (d + 5)) P 48 [(0, .inr (.inr 66)), (1, .inl r), (2, .inl (1 : Int))] [] M5 0 0)) := fun M1 M2 M3 e1 e2 e3 l3 => by
    have e33 : q_nm M2 66 33 = nw := by rw [wn_ne e2 (by omega), wn_ne e1 (by omega)]; exact hW.1
    rw [e33] at e3
    have f3 : fr ZY M M3 := fr_trans (fr_wn e1 (by unfold ZY; omega)) (fr_trans (fr_wn e2 (by unfold ZY; omega)) (fr_wn e3 (by unfold ZY; omega)))
    have hW3 : R_W nw WL WS WE WO M3 := R_W_fr hW (f3.2 _ _ (by unfold ZY; omega)) (fun a j _ _ => f3.2 a j (by unfold ZY; omega))
    have hr3 : R_row M3 r (RL r) := R_row_fr hr (fun a j _ _ => f3.2 a j (by unfold ZY; omega))
    have e55 : q_nm M3 66 55 = 0 := by rw [wn_ne e3 (by omega), wn_ne e2 (by omega)]; exact wn_eq e1
    refine r_198 (d := d + 1) (T := []) l3 hW3 gW hr3 g ⟨e55, fun i hi => absurd hi (Nat.not_lt_zero i)⟩ (by decide) (fun t ht => absurd ht (List.not_mem_nil)) (Or.inl ⟨rfl, rfl, rfl⟩) (fun M5 f5 c5 => ⟨fr_lay f5 l3, ?_⟩)
    have f5' : fr ZK M3 M5 := f5
    refine r_201l (fr_lay f5 l3) (R_W_K hW3 f5') gW (R_row_K hr3 f5') g (fun M6 f6 c6 => K M6 ?_ ?_ ?_ c6) 8 0 M5 (by omega) fr_rfl c5
    · exact fr_trans f3 (fr_mono (fr_trans f5' f6) (fun a j z => by unfold ZK at z; unfold ZY; omega))
    · rw [(fr_trans f5' f6).2 66 56 (by unfold ZK; omega), wn_ne e3 (by omega)]; exact wn_eq e2
    · rw [(fr_trans f5' f6).2 66 67 (by unfold ZK; omega)]; exact wn_eq e3
  refine q_enter (t_201_0 hl ⟨fun z M1 e1 l1 M2 e2 l2 M3 e3 l3 => anew M1 M2 M3 e1 e2 e3 l3, fun z => ⟨fun y M1 e1 l1 M2 e2 l2 M3 e3 l3 => anew M1 M2 M3 e1 e2 e3 l3, fun y => ?_⟩⟩)
  rw [hW.1] at y
  have := hY.2 (by omega) y
  rw [z] at this
  exact K M fr_rfl z y this
end
