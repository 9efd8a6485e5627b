section
def Za (nr : Int) : Int → Int → Prop := fun a j => (a = 99 ∧ 6 * nr ≤ j) ∨ (a = 98 ∧ j = nr) ∨ (a = 66 ∧ j = 40)
theorem R_row_fa {M M' : qM} {r nr : Int} {ln : List Int} (h : R_row M r ln) (hl : ln.length ≤ 6) (hr : r < nr) (f : fr (Za nr) M M') : R_row M' r ln :=
  ⟨h.1, (f.2 _ _ (by unfold Za; omega)).trans h.2.1, q_L_fr h.2.2 (fun j a b => f.2 _ _ (by unfold Za; omega))⟩
theorem WR_rest {W : qW} {M M' : qM} {nr : Int} (h : WR W M) (f : fr (Za nr) M M') : R_T (w_tp W) M' ∧ R_W (w_nw W) (w_WL W) (w_WS W) (w_WE W) (w_WO W) M' ∧ (∀ k, 0 ≤ k → k < 5 → R_so M' k (w_SO W k)) ∧ (q_nm M' 66 7 = w_fk W ∧ q_nm M' 66 8 = w_fp W) ∧ R_S (w_sd W) M' ∧ R_N (w_nn W) (w_NR W) (w_NL W) M' ∧ R_P (w_pc W) M' ∧ (∀ nr' RL', nr' = w_nr W ∨ nr' = w_nr W + 1 → (∀ r, r < w_nr W → RL' r = w_RL W r) → R_Y M' (w_nw W) nr' (w_WL W) (w_WS W) (w_WE W) RL') := by
  have k : ∀ a j, ¬ (a = 98 ∨ a = 99 ∨ (a = 66 ∧ j = 40)) → q_nm M' a j = q_nm M a j := fun a j x => f.2 a j (fun q => by unfold Za at q; omega)
  obtain ⟨h1, h2, ⟨h3, h4, h5⟩, h6, h7, h8, h9, h10⟩ := h
  refine ⟨R_T_fr h1 (k _ _ (by omega)) (fun j => k _ _ (by omega)), R_W_fr h2 (k _ _ (by omega)) (fun a j _ _ => k _ _ (by omega)), fun j a b => R_so_fr (h6 j a b) (fun a j _ _ => k _ _ (by omega)), ⟨(k _ _ (by omega)).trans h7.1, (k _ _ (by omega)).trans h7.2⟩, ⟨(k _ _ (by omega)).trans h8.1, q_L_fr h8.2 (fun j _ _ => k _ _ (by omega))⟩, R_N_fr h9 (k _ _ (by omega)) (fun a j _ _ => k _ _ (by omega)), R_P_fr h10 (k _ _ (by omega)) (fun j => k _ _ (by omega)), fun nr' RL' e1 e2 => ?_⟩
  have u1 : q_nm M' 66 56 = q_nm M 66 56 := k _ _ (by omega)
  have u2 : q_nm M' 66 67 = q_nm M 66 67 := k _ _ (by omega)
  unfold R_Y
  rw [u1, u2, e2 _ h5.1.2.1]
  refine ⟨⟨h5.1.1, by have := h5.1.2.1; omega, h5.1.2.2⟩, fun a b => ⟨(k _ _ (by omega)).trans (h5.2 a b).1, fun i hi => ?_⟩⟩
  obtain ⟨⟨q1, q2, q3⟩, q4, q5, q6, q7, q8⟩ := (h5.2 a b).2 i hi
  refine ⟨⟨(k _ _ (by omega)).trans q1, (k _ _ (by omega)).trans q2, (k _ _ (by omega)).trans q3⟩, (k _ _ (by omega)).trans q4, q_L_fr q5 (fun j _ _ => k _ _ (by omega)), (k _ _ (by omega)).trans q6, (k _ _ (by omega)).trans q7, ?_⟩
  rw [k _ _ (by omega)]; exact q8
theorem r_163W {d : Nat} {P : Int → qM → Prop} {M : qM} {W : qW} {x1 x2 x3 x4 x5 x6 : Int} (hl : q_lay M) (g : WG W) (h : WR W M) (K1 : okRw W [x1, x2, x3, x4, x5, x6] → ∀ M', fr Zr M M' → WR (w_addR W (lnOf [x1, x2, x3, x4, x5, x6])) M' → P (w_nr W) M') (K0 : ¬ okRw W [x1, x2, x3, x4, x5, x6] → ∀ M', fr Zr M M' → WR W M' → P (-1) M') : q_WP q_Pr (d + 2) 163 [.inr (.inr 66), .inl x1, .inl x2, .inl x3, .inl x4, .inl x5, .inl x6] M P := by
  have g3 := g.2.2.1
  have gw := g.2.1.1
  refine q_enter (t_163_0 hl ?_)
  rw [h.2.2.1.1]
  refine ⟨fun z => r_163z (d := d) hl (K0 (fun q => by have := q.1; omega) M fr_rfl h) 6 0 0 (by omega), fun z => ?_⟩
  refine r_163l (d := d) (M0 := M) (nw := w_nw W) (nr := w_nr W) gw ⟨g3.1.1, z⟩ h.2.2.1.1 h.2.1.1 (fun n M1 M2 rp f1 l2 h99 f2 e98 e40 => ?_) (fun nq M1 f1 => ?_) 6 0 0 M (by omega) (Nat.le_refl 0) fr_rfl hl (fun j a => absurd a (Nat.not_lt_zero j)) (fun j a b => absurd b (Nat.not_lt_zero j)) (fun j a => absurd a (Nat.not_lt_zero j))
  · have fa : fr (Za (w_nr W)) M M2 := fr_trans (fr_mono f1 (fun a j q => Or.inl q)) (fr_mono f2 (fun a j q => Or.inr q))
    have rs := WR_rest h fa
    have ll := lnOf_len rfl rp
    refine K1 ⟨z, n, rp⟩ M2 (fr_mono fa (fun a j q => by unfold Za at q; unfold Zr; omega)) ⟨rs.1, rs.2.1, ⟨e40, fun r a b => ?_, rs.2.2.2.2.2.2.2 _ _ (Or.inr rfl) (fun r q => addR_RL q)⟩, rs.2.2.1, rs.2.2.2.1, rs.2.2.2.2.1, rs.2.2.2.2.2.1, rs.2.2.2.2.2.2.1⟩
    have b' : r < w_nr W + 1 := b
    by_cases e : r = w_nr W
    · rw [e, addR_new]
      refine ⟨by omega, by rw [e98, ll.1], fun i hi => ?_⟩
      rw [ll.1] at hi
      rw [ll.2 i hi, ← h99 i hi]
      exact f2.2 _ _ (by dsimp only; omega)
    · rw [addR_RL (by omega)]
      exact R_row_fa (h.2.2.1.2.1 r a (by omega)) (g3.2 r a (by omega)).1.2 (by omega) fa
  · have fa : fr (Za (w_nr W)) M M1 := fr_mono f1 (fun a j q => Or.inl q)
    have rs := WR_rest h fa
    refine K0 (fun q => nq q.2) M1 (fr_mono fa (fun a j q => by unfold Za at q; unfold Zr; omega)) ⟨rs.1, rs.2.1, ⟨(f1.2 _ _ (by unfold Zw; omega)).trans h.2.2.1.1, fun r a b => R_row_fa (h.2.2.1.2.1 r a b) (g3.2 r a b).1.2 b fa, rs.2.2.2.2.2.2.2 _ _ (Or.inl rfl) (fun r q => rfl)⟩, rs.2.2.1, rs.2.2.2.1, rs.2.2.2.2.1, rs.2.2.2.2.2.1, rs.2.2.2.2.2.2.1⟩
end
