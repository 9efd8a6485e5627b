section
def C_TK (M : qM) (m : Int) (T : List qT) : Prop := q_nm M m 3 = T.length ∧ ∀ i : Nat, i < T.length → C_at M m i (T.getD i (0, 0, 0))
def ZM (m : Int) : Int → Int → Prop := fun a j => (a = m ∧ j = 3) ∨ (m + 4 ≤ a ∧ a ≤ m + 6)
theorem w8_id {x : Int} (h : -128 ≤ x ∧ x ≤ 127) : w8 x = x := by unfold w8; omega
theorem c_10 {d : Nat} {P : Int → qM → Prop} {M : qM} {m k p o : Int} {ln : List Int} {T : List qT} (hM : C_M M m ln) (hT : C_TK M m T) (hn : T.length < mst ln.length) (h6 : ln.length ≤ 6) (hb : (-1 ≤ k ∧ k ≤ 100) ∧ (-1 ≤ p ∧ p ≤ 100) ∧ (-1 ≤ o ∧ o ≤ 100)) (K : ∀ M', fr (ZM m) M M' → C_TK M' m (T ++ [(k, p, o)]) → P 0 M') : q_WP q_Pr (d + 1) 10 [.inr (.inr m), .inl k, .inl p, .inl o] M P := by
  have ge := q_ml_ge hM.1
  have m6 := mst_le h6
  refine q_enter (t_10_0 hM.1 ?_)
  rw [hT.1, w8_id (x := k) (by omega), w8_id (x := p) (by omega), w8_id (x := o) (by omega)]
  refine ⟨fun z => absurd z (by omega), fun _ => ⟨by omega, fun M1 e1 l1 => ?_⟩⟩
  have a1 : q_nm M1 m 3 = T.length := (wn_ne e1 (by omega)).trans hT.1
  rw [a1]
  refine ⟨by omega, fun M2 e2 l2 => ?_⟩
  have a2 : q_nm M2 m 3 = T.length := (wn_ne e2 (by omega)).trans a1
  rw [a2]
  refine ⟨by omega, fun M3 e3 l3 => ?_⟩
  have a3 : q_nm M3 m 3 = T.length := (wn_ne e3 (by omega)).trans a2
  rw [a3, w32_id (x := (T.length : Int) + 1) (by omega) (by omega)]
  intro M4 e4 l4
  have f4 : fr (ZM m) M M4 := fr_trans (fr_wn e1 (by unfold ZM; omega)) (fr_trans (fr_wn e2 (by unfold ZM; omega)) (fr_trans (fr_wn e3 (by unfold ZM; omega)) (fr_wn e4 (by unfold ZM; omega))))
  refine K M4 f4 ⟨?_, fun i hi => ?_⟩
  · rw [wn_eq e4, List.length_append]; simp
  · rw [List.length_append, List.length_cons, List.length_nil] at hi
    rw [getT_snoc]
    by_cases ei : i < T.length
    · rw [if_pos ei]
      have o1 := hT.2 i ei
      refine ⟨?_, ?_, ?_⟩
      · rw [wn_ne e4 (by omega), wn_ne e3 (by omega), wn_ne e2 (by omega), wn_ne e1 (by omega)]; exact o1.1
      · rw [wn_ne e4 (by omega), wn_ne e3 (by omega), wn_ne e2 (by omega), wn_ne e1 (by omega)]; exact o1.2.1
      · rw [wn_ne e4 (by omega), wn_ne e3 (by omega), wn_ne e2 (by omega), wn_ne e1 (by omega)]; exact o1.2.2
    · rw [if_neg ei, if_pos (by omega), show i = T.length by omega]
      refine ⟨?_, ?_, ?_⟩
      · rw [wn_ne e4 (by omega), wn_ne e3 (by omega), wn_ne e2 (by omega)]; exact wn_eq e1
      · rw [wn_ne e4 (by omega), wn_ne e3 (by omega)]; exact wn_eq e2
      · rw [wn_ne e4 (by omega)]; exact wn_eq e3
theorem C_M_Z {M M' : qM} {m : Int} {ln : List Int} (h : C_M M m ln) (f : fr (ZM m) M M') : C_M M' m ln := C_M_fr h f (fun j => by have := q_ml_ge h.1; unfold ZM; omega)
theorem C_W_M {nw m : Int} {WL : Int → List Int} {WS WE WO : Int → Int} {M M' : qM} (h : C_W nw WL WS WE WO M) (hm : 126 ≤ m) (f : fr (ZM m) M M') : C_W nw WL WS WE WO M' := C_W_fr h (fun a j _ _ => f.2 a j (by unfold ZM; omega))
theorem c_8o {d : Nat} {P : Int → qM → Prop} {M0 : qM} {m nw : Int} {WL : Int → List Int} {WS WE WO : Int → Int} {ln : List Int} {k p : Nat} {c s : Nat} (hM : C_M M0 m ln) (hW : C_W nw WL WS WE WO M0) (gW : G_W nw WL WS WE WO) (g : G_L nw ln) (hk : k < 8) (hp : p < ln.length)
    (K : ∀ M', fr (ZM m) M0 M' → C_TK M' m (tkK (mayB WL WS WE ln) ln.length nw.toNat k ++ tkP (mayB WL WS WE ln) (k + 1) ln.length nw.toNat p ++ tkO (mayB WL WS WE ln) (k + 1) p (oth (k + 1) ln.length nw.toNat)) → q_At q_m8 (q_WP q_Pr (d + 3)) P 53 [(0, .inr (.inr m)), (1, .inl ((k + 1 : Nat) : Int)), (2, .inl (oth (k + 1) ln.length nw.toNat : Int)), (3, .inl (w32 ((p : Int) + 1)))] [] M' c s) : ∀ (j q : Nat) (M : qM), q + j = oth (k + 1) ln.length nw.toNat → fr (ZM m) M0 M → C_TK M m (tkK (mayB WL WS WE ln) ln.length nw.toNat k ++ tkP (mayB WL WS WE ln) (k + 1) ln.length nw.toNat p ++ tkO (mayB WL WS WE ln) (k + 1) p q) → q_At q_m8 (q_WP q_Pr (d + 3)) P 65 [(0, .inr (.inr m)), (1, .inl ((k + 1 : Nat) : Int)), (2, .inl (oth (k + 1) ln.length nw.toNat : Int)), (3, .inl (p : Int)), (4, .inl (q : Int))] [] M c s := by
  have g6 := g.1
  have gn := gW.1
  have ge := q_ml_ge hM.1
  have hoth : (k + 1 ≤ 4 → oth (k + 1) ln.length nw.toNat = ln.length) ∧ (5 ≤ k + 1 → k + 1 ≤ 7 → oth (k + 1) ln.length nw.toNat = nw.toNat) ∧ (k + 1 = 8 → oth (k + 1) ln.length nw.toNat = 1) := by
    unfold oth; refine ⟨fun h => by rw [if_pos h], fun h1 h2 => by rw [if_neg (by omega), if_neg (by omega)], fun h => by rw [if_neg (by omega), if_pos h]⟩
  intro j
  induction j with
  | zero =>
    intro q M e hf hT
    have eq : q = oth (k + 1) ln.length nw.toNat := by omega
    subst eq
    exact t_8_65 (q_ml_fr hf hM.1) ⟨fun _ => K M hf hT, fun z => absurd z (by omega)⟩
  | succ j ih =>
    intro q M e hf hT
    have hM' := C_M_Z hM hf
    have hW' := C_W_M hW ge hf
    refine t_8_65 hM'.1 ?_
    have q31 : (q : Int) + 1 ≤ 31 := by
      have : oth (k + 1) ln.length nw.toNat ≤ 30 := by unfold oth; split <;> (try split) <;> omega
      omega
    rw [w32_id (x := (q : Int) + 1) (by omega) (by omega)]
    refine ⟨fun z => absurd z (by omega), fun _ => ?_⟩
    refine c_9 (p := (p : Int)) (o := (q : Int)) hM' hW' gW g (by omega) (by omega) (by omega) (fun r => ⟨hM'.1, fun z => absurd z (by decide), fun _ => ?_⟩) (fun r => ⟨hM'.1, fun _ => ?_, fun z => absurd rfl z⟩)
    · have hB : mayB WL WS WE ln ((k + 1 : Nat) : Int) p q = true := mayB_iff.mpr r
      have rm := tk_room gn g hk hp (show q < oth (k + 1) ln.length nw.toNat by omega) hB
      have nx : ∀ x3 : Int, x3 = ot ((k + 1 : Nat) : Int) q → q_WP q_Pr (d + 3) 10 [.inr (.inr m), .inl ((k + 1 : Nat) : Int), .inl (p : Int), .inl x3] M (fun _ M4 => q_ml M4 m ln.length (mst ln.length) ∧ (q_At q_m8 (q_WP q_Pr (d + 3)) P 65 [(0, .inr (.inr m)), (1, .inl ((k + 1 : Nat) : Int)), (2, .inl (oth (k + 1) ln.length nw.toNat : Int)), (3, .inl (p : Int)), (4, .inl ((q : Int) + 1))] [] M4 c s)) := fun x3 hx => by
        have hx3 : -1 ≤ x3 ∧ x3 ≤ 100 := by rw [hx]; unfold ot; split <;> omega
        refine c_10 hM' hT rm g6.2 (by omega) (fun M' f1 c1 => ⟨q_ml_fr f1 hM'.1, ih (q + 1) M' (by omega) (fr_trans hf f1) ?_⟩)
        have e2 : tkO (mayB WL WS WE ln) (k + 1) p (q + 1) = tkO (mayB WL WS WE ln) (k + 1) p q ++ [(((k + 1 : Nat) : Int), (p : Int), x3)] := by
          show tkO _ _ p q ++ _ = _
          rw [if_pos hB, hx]
        rw [e2, ← List.append_assoc]; exact c1
      exact ⟨fun z => nx q (by unfold ot; rw [if_neg z]), fun z => nx (-1) (by unfold ot; rw [if_pos z])⟩
    · refine ih (q + 1) M (by omega) hf ?_
      rw [tkO_no (fun z => r (mayB_iff.mp z))]; exact hT
theorem c_8p {d : Nat} {P : Int → qM → Prop} {M0 : qM} {m nw : Int} {WL : Int → List Int} {WS WE WO : Int → Int} {ln : List Int} {k : Nat} {c s : Nat} (hM : C_M M0 m ln) (hW : C_W nw WL WS WE WO M0) (gW : G_W nw WL WS WE WO) (g : G_L nw ln) (hk : k < 8)
    (K : ∀ M', fr (ZM m) M0 M' → C_TK M' m (tkK (mayB WL WS WE ln) ln.length nw.toNat (k + 1)) → q_At q_m8 (q_WP q_Pr (d + 3)) P 14 [(0, .inr (.inr m)), (1, .inl (w32 (((k + 1 : Nat) : Int) + 1)))] [] M' c s) : ∀ (j p : Nat) (M : qM), p + j = ln.length → fr (ZM m) M0 M → C_TK M m (tkK (mayB WL WS WE ln) ln.length nw.toNat k ++ tkP (mayB WL WS WE ln) (k + 1) ln.length nw.toNat p) → q_At q_m8 (q_WP q_Pr (d + 3)) P 53 [(0, .inr (.inr m)), (1, .inl ((k + 1 : Nat) : Int)), (2, .inl (oth (k + 1) ln.length nw.toNat : Int)), (3, .inl (p : Int))] [] M c s := by
  have g6 := g.1
  have ge := q_ml_ge hM.1
  intro j
  induction j with
  | zero =>
    intro p M e hf hT
    have ep : p = ln.length := by omega
    subst ep
    exact t_8_53 (q_ml_fr hf hM.1) ⟨fun _ => K M hf hT, fun z => absurd z (by omega)⟩
  | succ j ih =>
    intro p M e hf hT
    refine t_8_53 (q_ml_fr hf hM.1) ⟨fun z => absurd z (by omega), fun _ => ?_⟩
    refine c_8o (C_M_Z hM hf) (C_W_M hW ge hf) gW g hk (by omega) (fun M' f1 c1 => ?_) (oth (k + 1) ln.length nw.toNat) 0 M (by omega) fr_rfl (by show C_TK M m (_ ++ []); rw [List.append_nil]; exact hT)
    rw [w32_id (x := (p : Int) + 1) (by omega) (by omega)]
    refine ih (p + 1) M' (by omega) (fr_trans hf f1) ?_
    show C_TK M' m (_ ++ (_ ++ _))
    rw [← List.append_assoc]; exact c1
theorem c_8k {d : Nat} {P : Int → qM → Prop} {M0 : qM} {m nw : Int} {WL : Int → List Int} {WS WE WO : Int → Int} {ln : List Int} {c s : Nat} (hM : C_M M0 m ln) (hW : C_W nw WL WS WE WO M0) (gW : G_W nw WL WS WE WO) (g : G_L nw ln)
    (K : ∀ M', fr (ZM m) M0 M' → C_TK M' m (TK nw WL WS WE ln) → P 0 M') : ∀ (j k : Nat) (M : qM), k + j = 8 → fr (ZM m) M0 M → C_TK M m (tkK (mayB WL WS WE ln) ln.length nw.toNat k) → q_At q_m8 (q_WP q_Pr (d + 3)) P 14 [(0, .inr (.inr m)), (1, .inl ((k + 1 : Nat) : Int))] [] M c s := by
  have g6 := g.1
  have gn := gW.1
  have ge := q_ml_ge hM.1
  intro j
  induction j with
  | zero =>
    intro k M e hf hT
    have ek : k = 8 := by omega
    subst ek
    exact t_8_14 (q_ml_fr hf hM.1) ⟨fun _ => K M hf hT, fun z => absurd z (by decide)⟩
  | succ j ih =>
    intro k M e hf hT
    have hW' := C_W_M hW ge hf
    have go : ∀ x : Int, x = (oth (k + 1) ln.length nw.toNat : Int) → q_At q_m8 (q_WP q_Pr (d + 3)) P 53 [(0, .inr (.inr m)), (1, .inl ((k + 1 : Nat) : Int)), (2, .inl x), (3, .inl (0 : Int))] [] M c s := fun x hx => by
      subst hx
      refine c_8p (C_M_Z hM hf) hW' gW g (by omega) (fun M' f1 c1 => ?_) ln.length 0 M (by omega) fr_rfl (by show C_TK M m (_ ++ []); rw [List.append_nil]; exact hT)
      rw [w32_id (x := ((k + 1 : Nat) : Int) + 1) (by omega) (by omega)]
      exact ih (k + 1) M' (by omega) (fr_trans hf f1) c1
    refine t_8_14 (q_ml_fr hf hM.1) ?_
    rw [hW'.1.1]
    refine ⟨fun z => absurd z (by omega), fun _ => ⟨fun y => ⟨fun x => go nw ?_, fun x => go 1 ?_⟩, fun y => go ln.length ?_⟩⟩
    · unfold oth; rw [if_neg (by omega), if_neg (by omega)]; omega
    · unfold oth; rw [if_neg (by omega), if_pos (by omega)]; rfl
    · unfold oth; rw [if_pos (by omega)]
theorem c_8 {d : Nat} {P : Int → qM → Prop} {M : qM} {m nw : Int} {WL : Int → List Int} {WS WE WO : Int → Int} {ln : List Int} (hM : C_M M m ln) (hW : C_W nw WL WS WE WO M) (gW : G_W nw WL WS WE WO) (g : G_L nw ln) (K : ∀ M', fr (ZM m) M M' → C_TK M' m (TK nw WL WS WE ln) → P 0 M') : q_WP q_Pr (d + 4) 8 [.inr (.inr m)] M P := by
  have g6 := g.1
  have ge := q_ml_ge hM.1
  refine q_enter (t_8_0 hM.1 (fun M1 e1 l1 => ?_))
  have f1 : fr (ZM m) M M1 := fr_wn e1 (by unfold ZM; omega)
  have hM1 := C_M_Z hM f1
  refine c_10 (T := []) hM1 ⟨wn_eq e1, fun i hi => absurd hi (Nat.not_lt_zero i)⟩ (by unfold mst; rw [List.length_nil]; omega) g6.2 (by omega) (fun M2 f2 c2 => ⟨q_ml_fr f2 hM1.1, ?_⟩)
  have f12 := fr_trans f1 f2
  exact c_8k (C_M_Z hM f12) (C_W_M hW ge f12) gW g (fun M' f3 c3 => K M' (fr_trans f12 f3) c3) 8 0 M2 (by omega) fr_rfl c2
end
