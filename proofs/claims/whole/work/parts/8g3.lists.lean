section
def ZL (i : Int) : Int → Int → Prop := fun a j => (a = 66 ∧ (j = 65 ∨ j = 55)) ∨ a = 116 ∨ (a = 111 ∧ 104 * i ≤ j ∧ j < 104 * i + 104) ∨ ((108 ≤ a ∧ a ≤ 115 ∧ a ≠ 111) ∧ j = i)
theorem R_W_Z {nw i : Int} {WL : Int → List Int} {WS WE WO : Int → Int} {M M' : qM} (h : R_W nw WL WS WE WO M) (f : fr (ZL i) M M') : R_W nw WL WS WE WO M' := R_W_fr h (f.2 _ _ (by unfold ZL; omega)) (fun a j _ _ => f.2 a j (by unfold ZL; omega))
theorem R_row_Z {r i : Int} {ln : List Int} {M M' : qM} (h : R_row M r ln) (f : fr (ZL i) M M') : R_row M' r ln := R_row_fr h (fun a j _ _ => f.2 a j (by unfold ZL; omega))
theorem ZT_L {i a j : Int} (h : ZT i a j) : ZL i a j := by unfold ZT at h; unfold ZL; omega
theorem r_198l {d : Nat} {P : Int → qM → Prop} {M0 : qM} {nw r i k p o : Int} {WL : Int → List Int} {WS WE WO : Int → Int} {ln : List Int} {c s : Nat} (hl : q_lay M0) (hW : R_W nw WL WS WE WO M0) (gW : G_W nw WL WS WE WO) (hr : R_row M0 r ln) (g : G_L nw ln) (hi : 0 ≤ i ∧ i < 640) (hat : R_at M0 i (k, p, o)) (ok : okT nw ln (k, p, o)) (h55 : q_nm M0 66 55 = i) (h113 : q_nm M0 113 i = gapT (k, p, o))
    (K : ∀ M', fr (ZL i) M0 M' → q_nm M' 66 55 = i + 1 → R_tk1 M' nw WL ln i (k, p, o) → P 0 M') : ∀ (n a : Nat) (M : qM), a + n = ln.length → fr (ZT i) M0 M → q_L M 111 (104 * i) (spl WL ln (k, p, o) a) → q_nm M 114 i = fpart WL ln (k, p, o) a → rl (rpart nw WL ln (k, p, o) a) (q_nm M 115 i) → q_At q_m198 (q_WP q_Pr (d + 3)) P 86 [(0, .inr (.inr 66)), (1, .inl k), (2, .inl p), (3, .inl o), (4, .inl r), (5, .inl i), (6, .inl ((spl WL ln (k, p, o) a).length : Int)), (7, .inl (a : Int))] [] M c s := by
  have g6 := g.1
  intro n
  induction n with
  | zero =>
    intro a M e hf h111 h114 h115
    have ea : a = ln.length := by omega
    subst ea
    have tl := txt_len gW g ok ln.length (Nat.le_refl _)
    have hr' := R_row_Z hr (fr_mono hf (fun a j z => ZT_L z))
    refine t_198_86 (d := d + 2) (fr_lay hf hl) ?_
    rw [hr'.2.1]
    refine ⟨hr.1, fun _ => ⟨hi, fun M1 e1 l1 => ?_⟩, fun z => absurd z (by omega)⟩
    have e55 : q_nm M1 66 55 = i := by rw [wn_ne e1 (by omega), hf.2 66 55 (by unfold ZT; omega)]; exact h55
    rw [e55, w32_id (x := i + 1) (by omega) (by omega)]
    intro M2 e2 l2
    have ne : ∀ b j, ¬ (b = 112 ∧ j = i) → ¬ (b = 66 ∧ j = 55) → q_nm M2 b j = q_nm M b j := fun b j x y => by rw [wn_ne e2 y, wn_ne e1 x]
    refine K M2 (fr_trans (fr_mono hf (fun a j z => ZT_L z)) (fr_trans (fr_wn e1 (by unfold ZL; omega)) (fr_wn e2 (by unfold ZL; omega)))) (wn_eq e2) ⟨⟨?_, ?_, ?_⟩, ?_, ?_, ?_, ?_, ?_⟩
    · rw [ne 108 i (by omega) (by omega), hf.2 108 i (by unfold ZT; omega)]; exact hat.1
    · rw [ne 109 i (by omega) (by omega), hf.2 109 i (by unfold ZT; omega)]; exact hat.2.1
    · rw [ne 110 i (by omega) (by omega), hf.2 110 i (by unfold ZT; omega)]; exact hat.2.2
    · rw [wn_ne e2 (by omega)]; exact wn_eq e1
    · exact q_L_fr h111 (fun j _ _ => ne 111 j (by omega) (by omega))
    · rw [ne 113 i (by omega) (by omega), hf.2 113 i (by unfold ZT; omega)]; exact h113
    · rw [ne 114 i (by omega) (by omega), h114]
      unfold okT at ok; dsimp only at ok
      unfold fpart farT; dsimp only
      by_cases ek : k = 0
      · rw [if_neg (by omega), if_pos ek]
      · rw [if_pos (by omega)]
    · rw [ne 115 i (by omega) (by omega)]; exact rl_iff h115 (rpart_all ok)
  | succ n ih =>
    intro a M e hf h111 h114 h115
    have fz : fr (ZL i) M0 M := fr_mono hf (fun a j z => ZT_L z)
    have hr' := R_row_Z hr fz
    have hW' := R_W_Z hW fz
    have hat' : R_at M i (k, p, o) := ⟨(hf.2 108 i (by unfold ZT; omega)).trans hat.1, (hf.2 109 i (by unfold ZT; omega)).trans hat.2.1, (hf.2 110 i (by unfold ZT; omega)).trans hat.2.2⟩
    have tl := txt_len gW g ok a (by omega)
    have l := fr_lay hf hl
    refine t_198_86 (d := d + 2) l ?_
    rw [hr'.2.1]
    refine ⟨hr.1, fun z => absurd z (by omega), fun _ => ⟨fun z => ?_, fun z => ?_⟩⟩
    · have ea : a = 0 := by omega
      refine r_198b l hW' gW hr' g hi hat' ok (by omega) h111 (by omega) h114 h115 (fun M' f1 c1 c2 c3 => ?_)
      have es : spl WL ln (k, p, o) (a + 1) = spl WL ln (k, p, o) a ++ pie WL ln (k, p, o) a := by
        show spl WL ln (k, p, o) a ++ (if a = 0 then [] else [32]) ++ _ = _
        rw [if_pos ea, List.append_nil]
      have := ih (a + 1) M' (by omega) (fr_trans hf f1) (by rw [es]; exact c1) c2 c3
      rw [es, List.length_append] at this
      rw [w32_id (by omega) (by omega)]
      exact this
    · rw [w32_id (x := 104 * i) (by omega) (by omega), w32_id (x := 104 * i + ((spl WL ln (k, p, o) a).length : Int)) (by omega) (by omega), w32_id (x := ((spl WL ln (k, p, o) a).length : Int) + 1) (by omega) (by omega)]
      refine ⟨by omega, fun M1 e1 l1 => ?_⟩
      have f1 : fr (ZT i) M M1 := fr_wn e1 (by unfold ZT; omega)
      have fz1 : fr (ZL i) M M1 := fr_mono f1 (fun a j z => ZT_L z)
      have hL1 : q_L M1 111 (104 * i) (spl WL ln (k, p, o) a ++ [32]) := q_L_snoc h111 (fun j _ z => wn_ne e1 (by omega)) (wn_eq e1)
      have hat1 : R_at M1 i (k, p, o) := ⟨(wn_ne e1 (by omega)).trans hat'.1, (wn_ne e1 (by omega)).trans hat'.2.1, (wn_ne e1 (by omega)).trans hat'.2.2⟩
      have el : ((spl WL ln (k, p, o) a).length : Int) + 1 = ((spl WL ln (k, p, o) a ++ [32]).length : Int) := by rw [List.length_append]; simp
      rw [el]
      refine r_198b l1 (R_W_Z hW' fz1) gW (R_row_Z hr' fz1) g hi hat1 ok (by omega) hL1 (by omega) ((wn_ne e1 (by omega)).trans h114) (by rw [wn_ne e1 (by omega)]; exact h115) (fun M' f2 c1 c2 c3 => ?_)
      have es : spl WL ln (k, p, o) (a + 1) = spl WL ln (k, p, o) a ++ [32] ++ pie WL ln (k, p, o) a := by
        show spl WL ln (k, p, o) a ++ (if a = 0 then [] else [32]) ++ _ = _
        rw [if_neg (by omega)]
      have := ih (a + 1) M' (by omega) (fr_trans hf (fr_trans f1 f2)) (by rw [es]; exact c1) c2 c3
      rw [es, List.length_append] at this
      rw [w32_id (by omega) (by omega)]
      exact this
theorem getT_snoc (T : List qT) (t : qT) (i : Nat) : (T ++ [t]).getD i (0, 0, 0) = if i < T.length then T.getD i (0, 0, 0) else if i = T.length then t else (0, 0, 0) := by
  rw [List.getD_eq_getElem?_getD, List.getD_eq_getElem?_getD]
  by_cases h : i < T.length
  · rw [if_pos h, List.getElem?_append_left h]
  · rw [if_neg h, List.getElem?_append_right (by omega)]
    by_cases h2 : i = T.length
    · rw [if_pos h2, h2, Nat.sub_self]; rfl
    · rw [if_neg h2, List.getElem?_eq_none (by simp; omega)]; rfl
theorem getT_mem {T : List qT} {i : Nat} (h : i < T.length) : T.getD i (0, 0, 0) ∈ T := by
  rw [List.getD_eq_getElem?_getD, List.getElem?_eq_getElem h]; exact List.getElem_mem h
/-- a taking comes behind those that are listed -/
theorem r_198 {d : Nat} {P : Int → qM → Prop} {M : qM} {nw r k p o : Int} {WL : Int → List Int} {WS WE WO : Int → Int} {ln : List Int} {T : List qT} (hl : q_lay M) (hW : R_W nw WL WS WE WO M) (gW : G_W nw WL WS WE WO) (hr : R_row M r ln) (g : G_L nw ln) (hT : R_TK M nw WL ln T) (hn : T.length < 640) (hok : ∀ t ∈ T, okT nw ln t) (ok : okT nw ln (k, p, o))
    (K : ∀ M', fr (fun a j => (a = 66 ∧ (j = 65 ∨ j = 55)) ∨ (108 ≤ a ∧ a ≤ 116)) M M' → R_TK M' nw WL ln (T ++ [(k, p, o)]) → P 0 M') : q_WP q_Pr (d + 4) 198 [.inr (.inr 66), .inl k, .inl p, .inl o, .inl r] M P := by
  have g6 := g.1
  have ok' := ok
  unfold okT at ok'; dsimp only at ok'
  have hi : 0 ≤ (T.length : Int) ∧ (T.length : Int) < 640 := by omega
  refine q_enter (t_198_0 hl ?_)
  rw [hT.1]
  refine ⟨hi, fun M1 e1 l1 => ⟨hi, fun M2 e2 l2 => ⟨hi, fun M3 e3 l3 => ?_⟩⟩⟩
  have go : ∀ (gp : Int) (M4 M5 M6 : qM), gp = gapT (k, p, o) → M4 = q_wn M3 113 T.length gp → M5 = q_wn M4 114 T.length 0 → M6 = q_wn M5 115 T.length 1 → q_lay M6 → q_At q_m198 (q_WP q_Pr (d + 3)) P 86 [(0, .inr (.inr 66)), (1, .inl k), (2, .inl p), (3, .inl o), (4, .inl r), (5, .inl (T.length : Int)), (6, .inl (0 : Int)), (7, .inl (0 : Int))] [] M6 0 0 := fun gp M4 M5 M6 hg e4 e5 e6 l6 => by
    have f6 : fr (ZL T.length) M M6 := fr_trans (fr_wn e1 (by unfold ZL; omega)) (fr_trans (fr_wn e2 (by unfold ZL; omega)) (fr_trans (fr_wn e3 (by unfold ZL; omega)) (fr_trans (fr_wn e4 (by unfold ZL; omega)) (fr_trans (fr_wn e5 (by unfold ZL; omega)) (fr_wn e6 (by unfold ZL; omega))))))
    have a1 : R_at M6 T.length (k, p, o) := by
      refine ⟨?_, ?_, ?_⟩
      · rw [wn_ne e6 (by omega), wn_ne e5 (by omega), wn_ne e4 (by omega), wn_ne e3 (by omega), wn_ne e2 (by omega)]; exact wn_eq e1
      · rw [wn_ne e6 (by omega), wn_ne e5 (by omega), wn_ne e4 (by omega), wn_ne e3 (by omega)]; exact wn_eq e2
      · rw [wn_ne e6 (by omega), wn_ne e5 (by omega), wn_ne e4 (by omega)]; exact wn_eq e3
    have a55 : q_nm M6 66 55 = T.length := by
      rw [wn_ne e6 (by omega), wn_ne e5 (by omega), wn_ne e4 (by omega), wn_ne e3 (by omega), wn_ne e2 (by omega), wn_ne e1 (by omega)]; exact hT.1
    have a113 : q_nm M6 113 T.length = gapT (k, p, o) := by
      rw [wn_ne e6 (by omega), wn_ne e5 (by omega), wn_eq e4]; exact hg
    refine r_198l l6 (R_W_Z hW f6) gW (R_row_Z hr f6) g hi a1 ok a55 a113 (fun M' f7 b1 b2 => K M' ?_ ⟨?_, fun j hj => ?_⟩) ln.length 0 M6 (by omega) fr_rfl q_L_nil ?_ ?_
    · exact fr_mono (fr_trans f6 f7) (fun a j z => by unfold ZL at z; omega)
    · rw [b1, List.length_append]; simp
    · rw [List.length_append, List.length_cons, List.length_nil] at hj
      rw [getT_snoc]
      by_cases ej : j < T.length
      · rw [if_pos ej]
        refine R_tk1_fr (hT.2 j ej) (by have := txt_len gW g (hok _ (getT_mem ej)) ln.length (Nat.le_refl _); exact Nat.le_trans this (by decide)) (fun a j' x1 x2 x3 x4 => (fr_trans f6 f7).2 a j' (by unfold ZL; omega))
      · rw [if_neg ej, if_pos (by omega), show j = T.length by omega]; exact b2
    · rw [wn_ne e6 (by omega), wn_eq e5]
      unfold fpart; dsimp only; rw [if_neg (by omega)]
    · rw [wn_eq e6]
      refine Or.inl ⟨rfl, ?_, ?_⟩
      · intro x y; dsimp only at x y; omega
      · intro x y; dsimp only at x y; omega
  refine ⟨fun z => ⟨hi, fun M4 e4 l4 => ⟨hi, fun M5 e5 l5 => ⟨hi, fun M6 e6 l6 => go 0 M4 M5 M6 ?_ e4 e5 e6 l6⟩⟩⟩, fun z => ⟨fun y => ⟨hi, fun M4 e4 l4 => ⟨hi, fun M5 e5 l5 => ⟨hi, fun M6 e6 l6 => go 0 M4 M5 M6 ?_ e4 e5 e6 l6⟩⟩⟩, fun y => ⟨fun x => ⟨hi, fun M4 e4 l4 => ⟨hi, fun M5 e5 l5 => ⟨hi, fun M6 e6 l6 => go _ M4 M5 M6 ?_ e4 e5 e6 l6⟩⟩⟩, fun x => ⟨hi, fun M4 e4 l4 => ⟨hi, fun M5 e5 l5 => ⟨hi, fun M6 e6 l6 => go _ M4 M5 M6 ?_ e4 e5 e6 l6⟩⟩⟩⟩⟩⟩
  · unfold gapT; dsimp only; rw [if_neg (by omega)]
  · unfold gapT; dsimp only; rw [if_neg (by omega)]
  · unfold gapT; dsimp only; rw [if_pos (by omega), if_neg (by omega)]; exact w32_id (by omega) (by omega)
  · unfold gapT; dsimp only; rw [if_pos (by omega), if_pos (by omega)]; exact w32_id (by omega) (by omega)
end
