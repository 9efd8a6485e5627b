section
theorem R_fa_Zp {M M' : qM} {nw i : Int} {WL : Int → List Int} {WS WE WO : Int → Int} {ln : List Int} {t : qT} (h : R_fa M nw WL WS WE WO ln i t) (f : fr Zp M M') : R_fa M' nw WL WS WE WO ln i t := by
  obtain ⟨hW, gW, g, hr, ht, ok, hi⟩ := h
  have e56 : q_nm M' 66 56 = q_nm M 66 56 := f.2 _ _ (by unfold Zp; omega)
  have tl := txt_len gW g ok ln.length (Nat.le_refl _)
  refine ⟨R_W_fr hW (f.2 _ _ (by unfold Zp; omega)) (fun a j _ _ => f.2 a j (by unfold Zp; omega)), gW, g, ?_, R_tk1_fr ht (Nat.le_trans tl (by decide)) (fun a j _ _ _ _ => f.2 a j (by unfold Zp; omega)), ok, hi⟩
  rw [e56]; exact R_row_fr hr (fun a j _ _ => f.2 a j (by unfold Zp; omega))
theorem tys_01 {t : Int} {s s' : List Bool} {b a : Int} {r : List Int} (h : tys t s = some s') (hv : stv s (b :: a :: r)) (ht : t = 10 ∨ t = 11) : (a = 0 ∨ a = 1) ∧ (b = 0 ∨ b = 1) := by
  unfold tys at h
  rw [if_neg (by omega), if_neg (by omega), if_neg (by omega), if_pos ht] at h
  split at h
  · exact ⟨hv.2.1, hv.1⟩
  · exact absurd h (by simp)
theorem r_212l {d : Nat} {P : Int → qM → Prop} {M0 : qM} {nw i slot to : Int} {WL : Int → List Int} {WS WE WO : Int → Int} {ln : List Int} {t : qT} {c s : Nat} (hl : q_lay M0) (hfa : R_fa M0 nw WL WS WE WO ln i t) (hsl : 0 ≤ slot ∧ slot < 5) (hto : to ≤ 2100) (b1 : Bool) (v1 : Int) (K : ∀ M', fr Zp M0 M' → P v1 M') : ∀ (cd : List Int) (x : Int) (M : qM) (ty : List Bool) (st : List Int), 0 ≤ x → x + cd.length = to → fr Zp M0 M → q_L M 106 (2100 * slot + x) (cd.map trc) → stv ty st → tyr cd ty = some [b1] → st.length ≤ 100 → R_pil M st → evs (fct nw WL WS WO ln t) cd st = [v1] → q_At q_m212 (q_WP q_Pr (d + 3)) P 8 [(0, .inr (.inr 66)), (1, .inl slot), (3, .inl to), (4, .inl i), (5, .inl x)] [] M c s := by
  intro cd
  induction cd with
  | nil =>
    intro x M ty st hx he hf hL hv hty hsl2 hp hev
    have e2 : st = [v1] := hev
    subst e2
    refine t_212_8 (fr_lay hf hl) ⟨fun _ => ?_, fun z => absurd z (by rw [List.length_nil] at he; omega)⟩
    have : q_nm M 117 0 = v1 := hp.2.1
    rw [this]; exact K M hf
  | cons u cd ih =>
    intro x M ty st hx he hf hL hv hty hsl2 hp hev
    have l := fr_lay hf hl
    have hfa' := R_fa_Zp hfa hf
    have fok := fct_ok hfa.2.1 hfa.2.2.1 hfa.2.2.2.2.2.1
    have hi := hfa.2.2.2.2.2.2
    rw [List.map_cons] at hL
    have hc := q_L_cons hL
    rw [List.length_cons] at he
    have len := stv_len hv
    unfold tyr at hty
    split at hty
    · exact absurd hty (by simp)
    · rename_i h100
      split at hty
      · rename_i ty' hts
        have hv' := stp_ok fok hts hv
        have hev' : evs (fct nw WL WS WO ln t) cd (stp (fct nw WL WS WO ln t) u st) = [v1] := hev
        have nx : ∀ M' : qM, fr Zp M M' → (stp (fct nw WL WS WO ln t) u st).length ≤ 100 → R_pil M' (stp (fct nw WL WS WO ln t) u st) → q_At q_m212 (q_WP q_Pr (d + 3)) P 185 [(0, .inr (.inr 66)), (1, .inl slot), (3, .inl to), (4, .inl i), (5, .inl x)] [] M' c s := fun M' f' e100 p' => by
          refine t_212_185 (fr_lay f' l) ?_
          rw [w32_id (x := x + 1) (by omega) (by omega)]
          refine ih (x + 1) M' ty' _ (by omega) (by omega) (fr_trans hf f') ?_ hv' hty e100 p' hev'
          rw [show 2100 * slot + (x + 1) = 2100 * slot + x + 1 by omega]
          exact q_L_fr hc.2 (fun j _ _ => f'.2 106 j (by unfold Zp; omega))
        have push : ∀ v : Int, stp (fct nw WL WS WO ln t) u st = v :: st → ∀ M2, fr Zp M M2 → R_pil M2 st → q_lay M2 → q_WP q_Pr (d + 3) 208 [.inr (.inr 66), .inr (.inl v)] M2 (fun _ M4 => q_lay M4 ∧ (q_At q_m212 (q_WP q_Pr (d + 3)) P 185 [(0, .inr (.inr 66)), (1, .inl slot), (3, .inl to), (4, .inl i), (5, .inl x)] [] M4 c s)) := fun v hs M2 f2 p2 l2 =>
          r_208 (d := d + 2) l2 p2 (by omega) (fun M3 f3 c3 => ⟨fr_lay f3 l2, nx M3 (fr_trans f2 f3) (by rw [hs, List.length_cons]; omega) (by rw [hs]; exact c3)⟩)
        refine t_212_8 l ?_
        rw [w32_id (x := 2100 * slot) (by omega) (by omega), w32_id (x := 2100 * slot + x) (by omega) (by omega), hc.1]
        refine ⟨fun z => absurd z (by omega), fun _ => ⟨by omega, ?_⟩⟩
        have fact : ∀ y : Int, u = y → 15 ≤ y ∧ y ≤ 21 → q_WP q_Pr (d + 3) 211 [.inr (.inr 66), .inl (trc y), .inl i] M (fun v1 M2 => q_lay M2 ∧ q_WP q_Pr (d + 3) 208 [.inr (.inr 66), .inr (.inl v1)] M2 (fun _ M4 => q_lay M4 ∧ (q_At q_m212 (q_WP q_Pr (d + 3)) P 185 [(0, .inr (.inr 66)), (1, .inl slot), (3, .inl to), (4, .inl i), (5, .inl x)] [] M4 c s))) := fun y hy hr => by
          subst hy
          refine r_211 l hfa' hr ⟨l, push _ ?_ M fr_rfl hp l⟩
          unfold stp; rw [if_pos (Or.inr (by omega))]; unfold pv; rw [if_neg (by omega)]
        rcases tys_cases hts with q | ⟨q, r, er⟩ | ⟨q, b', a', r', er⟩
        · by_cases hbig : 1000 ≤ u
          · have e : trc u = u := by unfold trc; rw [if_pos hbig]
            rw [e]
            refine ⟨fun z => absurd z (by omega), fun _ => ?_⟩
            rw [w32_id (x := u - 1000) (by omega) (by omega)]
            refine push _ ?_ M fr_rfl hp l
            unfold stp; rw [if_pos (Or.inl hbig)]; unfold pv; rw [if_pos hbig]
          · have cx : u = 13 ∨ u = 14 ∨ u = 15 ∨ u = 16 ∨ u = 17 ∨ u = 18 ∨ u = 19 ∨ u = 20 ∨ u = 21 := by omega
            rcases cx with c1 | c1 | c1 | c1 | c1 | c1 | c1 | c1 | c1
            · have e : trc u = 17 := by rw [c1]; decide
              rw [e]
              refine ⟨fun _ => ⟨fun _ => ⟨fun z => absurd rfl z, fun _ => push 1 ?_ M fr_rfl hp l⟩, fun z => absurd z (by decide)⟩, fun z => absurd z (by decide)⟩
              unfold stp; rw [if_pos (Or.inr (by omega))]; unfold pv; rw [if_neg hbig, c1]; rfl
            · have e : trc u = 31 := by rw [c1]; decide
              rw [e]
              have rl8 := rlV_of hfa'.2.2.2.2.1.2.2.2.2.2
              have es : ∀ v : Int, v = rlV (realP nw WL ln t) → stp (fct nw WL WS WO ln t) u st = v :: st := fun v hv => by
                unfold stp; rw [if_pos (Or.inr (by omega))]; unfold pv; rw [if_neg hbig, c1, hv]; rfl
              refine ⟨fun _ => ⟨fun z => absurd rfl z, fun _ => ⟨hi, fun z => push 0 (es 0 ?_) M fr_rfl hp l, fun z => push 1 (es 1 ?_) M fr_rfl hp l⟩⟩, fun z => absurd z (by decide)⟩
              · rw [← rl8]; exact z.symm
              · have := rlV_01 (realP nw WL ln t); omega
            · have e : trc u = trc 15 := by rw [c1]
              have e7 : trc 15 = 7 := by decide
              rw [e]
              rw [e7]
              refine ⟨fun _ => ⟨fun _ => ⟨fun _ => ⟨fun _ => ⟨fun z => absurd z (by decide), fun _ => ⟨fun z => absurd z (by decide), fun _ => ⟨fun z => absurd z (by decide), fun _ => ⟨fun z => absurd z (by decide), fun _ => ⟨fun z => absurd z (by decide), fun _ => ?_⟩⟩⟩⟩⟩, fun z => absurd z (by decide)⟩, fun z => absurd z (by decide)⟩, fun z => absurd z (by decide)⟩, fun z => absurd z (by decide)⟩
              rw [← e7]; exact fact 15 c1 (by omega)
            · have e : trc u = trc 16 := by rw [c1]
              have e7 : trc 16 = 8 := by decide
              rw [e]
              rw [e7]
              refine ⟨fun _ => ⟨fun _ => ⟨fun _ => ⟨fun _ => ⟨fun z => absurd z (by decide), fun _ => ⟨fun z => absurd z (by decide), fun _ => ⟨fun z => absurd z (by decide), fun _ => ⟨fun z => absurd z (by decide), fun _ => ⟨fun z => absurd z (by decide), fun _ => ?_⟩⟩⟩⟩⟩, fun z => absurd z (by decide)⟩, fun z => absurd z (by decide)⟩, fun z => absurd z (by decide)⟩, fun z => absurd z (by decide)⟩
              rw [← e7]; exact fact 16 c1 (by omega)
            · have e : trc u = trc 17 := by rw [c1]
              have e7 : trc 17 = 9 := by decide
              rw [e]
              rw [e7]
              refine ⟨fun _ => ⟨fun _ => ⟨fun _ => ⟨fun _ => ⟨fun z => absurd z (by decide), fun _ => ⟨fun z => absurd z (by decide), fun _ => ⟨fun z => absurd z (by decide), fun _ => ⟨fun z => absurd z (by decide), fun _ => ⟨fun z => absurd z (by decide), fun _ => ?_⟩⟩⟩⟩⟩, fun z => absurd z (by decide)⟩, fun z => absurd z (by decide)⟩, fun z => absurd z (by decide)⟩, fun z => absurd z (by decide)⟩
              rw [← e7]; exact fact 17 c1 (by omega)
            · have e : trc u = trc 18 := by rw [c1]
              have e7 : trc 18 = 10 := by decide
              rw [e]
              rw [e7]
              refine ⟨fun _ => ⟨fun _ => ⟨fun _ => ⟨fun _ => ⟨fun z => absurd z (by decide), fun _ => ⟨fun z => absurd z (by decide), fun _ => ⟨fun z => absurd z (by decide), fun _ => ⟨fun z => absurd z (by decide), fun _ => ⟨fun z => absurd z (by decide), fun _ => ?_⟩⟩⟩⟩⟩, fun z => absurd z (by decide)⟩, fun z => absurd z (by decide)⟩, fun z => absurd z (by decide)⟩, fun z => absurd z (by decide)⟩
              rw [← e7]; exact fact 18 c1 (by omega)
            · have e : trc u = trc 19 := by rw [c1]
              have e7 : trc 19 = 18 := by decide
              rw [e]
              rw [e7]
              refine ⟨fun _ => ⟨fun _ => ⟨fun _ => ⟨fun _ => ⟨fun z => absurd z (by decide), fun _ => ⟨fun _ => ?_, fun z => absurd rfl z⟩⟩, fun z => absurd z (by decide)⟩, fun z => absurd z (by decide)⟩, fun z => absurd z (by decide)⟩, fun z => absurd z (by decide)⟩
              rw [← e7]; exact fact 19 c1 (by omega)
            · have e : trc u = trc 20 := by rw [c1]
              have e7 : trc 20 = 19 := by decide
              rw [e]
              rw [e7]
              refine ⟨fun _ => ⟨fun _ => ⟨fun _ => ⟨fun _ => ⟨fun z => absurd z (by decide), fun _ => ⟨fun z => absurd z (by decide), fun _ => ⟨fun _ => ?_, fun z => absurd rfl z⟩⟩⟩, fun z => absurd z (by decide)⟩, fun z => absurd z (by decide)⟩, fun z => absurd z (by decide)⟩, fun z => absurd z (by decide)⟩
              rw [← e7]; exact fact 20 c1 (by omega)
            · have e : trc u = trc 21 := by rw [c1]
              have e7 : trc 21 = 30 := by decide
              rw [e]
              rw [e7]
              refine ⟨fun _ => ⟨fun _ => ⟨fun _ => ⟨fun _ => ⟨fun _ => ?_, fun z => absurd rfl z⟩, fun z => absurd z (by decide)⟩, fun z => absurd z (by decide)⟩, fun z => absurd z (by decide)⟩, fun z => absurd z (by decide)⟩
              rw [← e7]; exact fact 21 c1 (by omega)
        · cases st with
          | nil => rw [er] at hv; exact absurd hv id
          | cons v r2 =>
            have e : trc u = 16 := by rw [q]; decide
            rw [e]
            rw [er] at hv
            have hv1 : v = 0 ∨ v = 1 := hv.1
            have h1 := hp.1
            rw [List.length_cons] at h1 hsl2
            have h2 : q_nm M 117 r2.length = v := hp.2.1
            have es : stp (fct nw WL WS WO ln t) u (v :: r2) = (1 - v) :: r2 := by unfold stp; rw [if_neg (by omega), if_pos q]
            refine ⟨fun _ => ⟨fun _ => ⟨fun _ => ⟨fun z => absurd rfl z, fun _ => ?_⟩, fun z => absurd z (by decide)⟩, fun z => absurd z (by decide)⟩, fun z => absurd z (by decide)⟩
            rw [h1, w32_id (x := ((r2.length + 1 : Nat) : Int) - 1) (by omega) (by omega), show ((r2.length + 1 : Nat) : Int) - 1 = r2.length by omega, h2, w64_id (x := 1 - v) (by omega) (by omega)]
            refine ⟨by omega, by omega, fun M1 e1 l1 => nx M1 (fr_wn e1 (Or.inr rfl)) (by rw [es, List.length_cons]; omega) ?_⟩
            rw [es]
            refine ⟨?_, wn_eq e1, q_stk_fr hp.2.2 (fun j a b => wn_ne e1 (by omega))⟩
            rw [wn_ne e1 (by omega), h1, List.length_cons]
        · cases st with
          | nil => rw [er] at hv; exact absurd hv id
          | cons v r2 =>
            cases r2 with
            | nil => rw [er] at hv; exact absurd hv.2 id
            | cons w r3 =>
              have h01 := fun z => tys_01 (t := u) hts hv z
              rw [er] at hv
              have hv1 := okV_rng hv.1
              have hv2 := okV_rng hv.2.1
              rw [List.length_cons, List.length_cons] at hsl2
              have es : stp (fct nw WL WS WO ln t) u (v :: w :: r3) = clp (jn u w v) :: r3 := by unfold stp; rw [if_neg (by omega), if_neg (by omega)]
              have jo : q_WP q_Pr (d + 3) 209 [.inr (.inr 66), .inl (trc u)] M (fun _ M14 => q_lay M14 ∧ (q_At q_m212 (q_WP q_Pr (d + 3)) P 185 [(0, .inr (.inr 66)), (1, .inl slot), (3, .inl to), (4, .inl i), (5, .inl x)] [] M14 c s)) := r_209 (d := d + 1) l hp (by omega) q hv2 hv1 h01 (fun M1 f1 c1 => ⟨fr_lay f1 l, nx M1 f1 (by rw [es, List.length_cons]; omega) (by rw [es]; exact c1)⟩)
              have hu : (trc u < 7 ∨ (10 < trc u ∧ trc u < 16)) := by
                rcases q with c1 | c1 | c1 | c1 | c1 | c1 | c1 | c1 | c1 | c1 | c1 <;> subst c1 <;> decide
              refine ⟨fun _ => ⟨fun _ => ⟨fun _ => ⟨fun _ => ⟨fun z => absurd z (by omega), fun _ => ⟨fun z => absurd z (by omega), fun _ => ⟨fun z => absurd z (by omega), fun _ => ⟨fun _ => jo, fun z => ⟨fun _ => jo, fun z2 => absurd z2 (by omega)⟩⟩⟩⟩⟩, fun z => absurd z (by omega)⟩, fun z => absurd z (by omega)⟩, fun z => absurd z (by omega)⟩, fun z => absurd z (by omega)⟩
      · exact absurd hty (by simp)
theorem evs_one {F : Int → Int} (hF : okF F) {cd : List Int} : ∀ {ty : List Bool} {st : List Int} {b : Bool}, stv ty st → tyr cd ty = some [b] → ∃ v, evs F cd st = [v] ∧ okV b v := by
  induction cd with
  | nil =>
    intro ty st b hv h
    have e : ty = [b] := by simpa [tyr] using h
    subst e
    cases st with
    | nil => exact absurd hv id
    | cons v r =>
      cases r with
      | nil => exact ⟨v, rfl, hv.1⟩
      | cons _ _ => exact absurd hv.2 id
  | cons u cd ih =>
    intro ty st b hv h
    unfold tyr at h
    split at h
    · exact absurd h (by simp)
    · split at h
      · rename_i ty' hts
        exact ih (stp_ok hF hts hv) h
      · exact absurd h (by simp)
theorem ev_ok {F : Int → Int} (hF : okF F) {cd : List Int} {b : Bool} (h : tyr cd [] = some [b]) : evs F cd [] = [ev F cd] ∧ okV b (ev F cd) := by
  obtain ⟨v, e, o⟩ := evs_one hF (st := []) (ty := []) trivial h
  have : ev F cd = v := by unfold ev; rw [e]; rfl
  rw [this]; exact ⟨e, o⟩
/-- the reference works a code out -/
theorem r_212 {d : Nat} {P : Int → qM → Prop} {M : qM} {nw i slot fm to : Int} {WL : Int → List Int} {WS WE WO : Int → Int} {ln : List Int} {t : qT} {cd : List Int} {b : Bool} (hl : q_lay M) (hfa : R_fa M nw WL WS WE WO ln i t) (hsl : 0 ≤ slot ∧ slot < 5) (h0 : 0 ≤ fm) (he : fm + cd.length = to) (hto : to ≤ 2100) (hL : q_L M 106 (2100 * slot + fm) (cd.map trc)) (hty : tyr cd [] = some [b]) (K : ∀ M', fr Zp M M' → P (ev (fct nw WL WS WO ln t) cd) M') : q_WP q_Pr (d + 4) 212 [.inr (.inr 66), .inl slot, .inl fm, .inl to, .inl i] M P := by
  have fok := fct_ok hfa.2.1 hfa.2.2.1 hfa.2.2.2.2.2.1
  have e := ev_ok fok hty
  refine q_enter (t_212_0 hl (fun M1 e1 l1 => ?_))
  have f1 : fr Zp M M1 := fr_wn e1 (Or.inl ⟨rfl, rfl⟩)
  exact r_212l l1 (R_fa_Zp hfa f1) hsl hto b _ (fun M' f2 => K M' (fr_trans f1 f2)) cd fm M1 [] [] h0 he fr_rfl (q_L_fr hL (fun j _ _ => wn_ne e1 (by omega))) trivial hty (by decide) ⟨wn_eq e1, trivial⟩ e.1
end
