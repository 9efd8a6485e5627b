section
theorem tk_all {W : qW} {r : Int} (g : WG W) (hr : 0 ≤ r ∧ r < w_nr W) : (∀ t ∈ w_T W r, okT (w_nw W) (w_RL W r) t) ∧ (w_T W r).length ≤ mst (w_RL W r).length ∧ mst (w_RL W r).length ≤ 640 := by
  have gl := g.2.2.1.2 r hr.1 hr.2
  have t := TK_ok g.2.1 gl
  have m6 := mst_le gl.1.2
  exact ⟨t.1, t.2, by omega⟩
noncomputable abbrev w_t (W : qW) (r : Int) (i : Nat) : qT := (w_T W r).getD i (0, 0, 0)
theorem ok_takings' {L : Nat} {X : Int → Int} {D : Nat} : ∀ a : Int, q_i32 a → q_ok L X (INV L X) (D + 30) 105 203 [.inl a] := fun a _ =>
  q_okQ (fun W => cif (0 ≤ a ∧ a < w_nr W) ((w_T W a).length : Int) (-1)) id (fun W g => g)
    (fun W M hl g h => q_enter (t_105_0 hl (c_139W (d := D + 23) hl g h (fun hr M' f l w er cx rd e2 => ⟨l, fun _ => ⟨mk0 cx.1.1, by rw [cif_pos hr]; exact ⟨rd.1.1, kR_fr hl f, w⟩⟩, fun z => absurd z (by have := q_ml_ge cx.1.1; omega)⟩) (fun hr => ⟨hl, fun z => absurd rfl z, fun _ => ⟨(cif_neg hr).symm, kR_rfl hl, h⟩⟩))))
    (fun W M hl g h => q_enter (t_203_0 (d := D + 27) hl (by
      rw [h.2.2.1.1]
      exact ⟨g.2.2.1.1, fun hr => r_201W (d := D + 23) hl g h hr (fun M' f l w rd => ⟨l, by rw [cif_pos hr]; exact ⟨rd.2.2.2.1, f, w⟩⟩), fun hr => ⟨(cif_neg hr).symm, fr_rfl, h⟩⟩)))
/-- is there such a taking -/
theorem c_6W {d : Nat} {P : Int → qM → Prop} {M : qM} {W : qW} {m r i : Int} (cx : w_ctx W M m r) (rd : w_rdy W M m r) (K1 : (0 ≤ i ∧ i < (w_T W r).length) → P 1 M) (K0 : ¬ (0 ≤ i ∧ i < (w_T W r).length) → P 0 M) : q_WP q_Pr (d + 1) 6 [.inr (.inr m), .inl i] M P := by
  refine q_enter (t_6_0 cx.1.1 ?_)
  rw [show q_nm M m 3 = (w_T W r).length from rd.1.1]
  exact ⟨fun z => K0 (by omega), fun z => ⟨fun y => K0 (by omega), fun y => K1 ⟨z, y⟩⟩⟩
theorem r_202W {d : Nat} {P : Int → qM → Prop} {M : qM} {W : qW} {r i : Int} (hl : q_lay M) (g : WG W) (h : WR W M) (K1 : (0 ≤ r ∧ r < w_nr W) → (0 ≤ i ∧ i < (w_T W r).length) → ∀ M', fr Zr M M' → q_lay M' → WR W M' → R_rdy M' (w_nw W) (w_WL W) (w_WS W) (w_WE W) (w_WO W) r (w_RL W r) → P 1 M') (K0 : ¬ ((0 ≤ r ∧ r < w_nr W) ∧ (0 ≤ i ∧ i < (w_T W r).length)) → ∀ M', fr Zr M M' → q_lay M' → WR W M' → P 0 M') : q_WP q_Pr (d + 9) 202 [.inr (.inr 66), .inl r, .inl i] M P := by
  refine q_enter (t_202_0 (d := d + 6) hl ?_)
  rw [h.2.2.1.1]
  refine ⟨g.2.2.1.1, fun hr => r_201W (d := d + 2) hl g h hr (fun M' f l w rd => ⟨l, ?_⟩), fun hr => K0 (fun q => hr q.1) M fr_rfl hl h⟩
  have tk := tk_all g hr
  rw [show q_nm M' 66 55 = (w_T W r).length from rd.2.2.2.1, w32_id (x := ((w_T W r).length : Int) - 1) (by omega) (by omega)]
  exact ⟨fun z => K1 hr (by omega) M' f l w rd, fun z => K0 (fun q => z (by omega)) M' f l w⟩
noncomputable def tkv (W : qW) (r : Int) (i : Nat) (c : Int) : Int :=
  if c = 0 then (w_t W r i).1 else if c = 1 then (w_t W r i).2.1 else if c = 2 then (w_t W r i).2.2 else if c = 3 then cif (realP (w_nw W) (w_WL W) (w_RL W r) (w_t W r i)) 1 0 else if c = 4 then w_wt W r 4 i else if c = 5 then farT (w_WL W) (w_RL W r) (w_t W r i) else -1
theorem rl_cif {p : Prop} {v : Int} (h : rl p v) : v = cif p 1 0 := by
  rcases h with ⟨a, b⟩ | ⟨a, b⟩
  · rw [cif_pos b]; exact a
  · rw [cif_neg b]; exact a
theorem rl_nz {p : Prop} {v : Int} (h : rl p v) : ¬ v = 0 ↔ p := by
  rcases h with ⟨a, b⟩ | ⟨a, b⟩
  · exact ⟨fun _ => b, fun _ => by omega⟩
  · exact ⟨fun z => absurd a z, fun z => absurd z b⟩
theorem rl_10 {p : Prop} {v : Int} {P : Int → Prop} (h : rl p v) (K : P (cif p 1 0)) : (v = 0 → P 0) ∧ (¬ v = 0 → P 1) := by
  refine ⟨fun z => ?_, fun z => ?_⟩
  · rwa [cif_neg (fun q => (rl_nz h).mpr q z)] at K
  · rwa [cif_pos ((rl_nz h).mp z)] at K
theorem tkv0 {W : qW} {r : Int} {i : Nat} : tkv W r i 0 = (w_t W r i).1 := by unfold tkv; rw [if_pos rfl]
theorem tkv1 {W : qW} {r : Int} {i : Nat} : tkv W r i 1 = (w_t W r i).2.1 := by unfold tkv; rw [if_neg (by decide), if_pos rfl]
theorem tkv2 {W : qW} {r : Int} {i : Nat} : tkv W r i 2 = (w_t W r i).2.2 := by unfold tkv; rw [if_neg (by decide), if_neg (by decide), if_pos rfl]
theorem tkv3 {W : qW} {r : Int} {i : Nat} : tkv W r i 3 = cif (realP (w_nw W) (w_WL W) (w_RL W r) (w_t W r i)) 1 0 := by unfold tkv; rw [if_neg (by decide), if_neg (by decide), if_neg (by decide), if_pos rfl]
theorem tkv4 {W : qW} {r : Int} {i : Nat} : tkv W r i 4 = w_wt W r 4 i := by unfold tkv; rw [if_neg (by decide), if_neg (by decide), if_neg (by decide), if_neg (by decide), if_pos rfl]
theorem tkv5 {W : qW} {r : Int} {i : Nat} : tkv W r i 5 = farT (w_WL W) (w_RL W r) (w_t W r i) := by unfold tkv; rw [if_neg (by decide), if_neg (by decide), if_neg (by decide), if_neg (by decide), if_neg (by decide), if_pos rfl]
theorem tkvo {W : qW} {r c : Int} {i : Nat} (h : c < 0 ∨ 5 < c) : tkv W r i c = -1 := by unfold tkv; rw [if_neg (by omega), if_neg (by omega), if_neg (by omega), if_neg (by omega), if_neg (by omega), if_neg (by omega)]
theorem ok_taking' {L : Nat} {X : Int → Int} {D : Nat} : ∀ a b c : Int, q_i32 a → q_i32 b → q_i32 c → q_ok L X (INV L X) (D + 30) 106 204 [.inl a, .inl b, .inl c] := by
  intro a b c _ _ _
  refine q_okQ (fun W => cif ((0 ≤ a ∧ a < w_nr W) ∧ (0 ≤ b ∧ b < (w_T W a).length)) (tkv W a b.toNat c) (-1)) id (fun W g => g) (fun W M hl g h => ?_) (fun W M hl g h => ?_)
  · refine q_enter (t_106_0 hl (c_139W (d := D + 23) hl g h (fun hr M' f l w er cx rd e2 => ⟨l, fun z => absurd z (by have := q_ml_ge cx.1.1; omega), fun _ => ⟨mk0 cx.1.1, ?_⟩⟩) (fun hr => ⟨hl, fun _ => ⟨(cif_neg (fun q => hr q.1)).symm, kR_rfl hl, h⟩, fun z => absurd rfl z⟩)))
    refine c_6W (d := D + 28) cx rd (fun hi => ⟨l, fun _ => ?_, fun z => absurd z (by decide)⟩) (fun hi => ⟨l, fun z => absurd rfl z, fun _ => ⟨(cif_neg (fun q => hi q.2)).symm, kR_fr hl f, w⟩⟩)
    rw [cif_pos ⟨hr, hi⟩]
    have tk := tk_all g hr
    have hm := cx.1.1
    have hin : b.toNat < (w_T W a).length := by omega
    have eb : ((b.toNat : Nat) : Int) = b := by omega
    have at1 := rd.1.2 b.toNat hin
    have de1 := rd.2.1 b.toNat hin
    rw [eb] at at1 de1
    have kr := kR_fr hl f
    refine ⟨⟨fun e => ?_, fun e => ?_, fun e => ?_, fun e => ?_, fun e => ?_, fun e => ?_, trivial⟩, fun e => ⟨(tkvo e).symm, kr, w⟩⟩
    · rw [mr4 hm, mk4 hm, ml4 hm]; exact ⟨mk0 hm, ⟨by omega, by omega, by omega⟩, by rw [e, tkv0]; exact at1.1, kr, w⟩
    · rw [mr5 hm, mk5 hm, ml5 hm]; exact ⟨mk0 hm, ⟨by omega, by omega, by omega⟩, by rw [e, tkv1]; exact at1.2.1, kr, w⟩
    · rw [mr6 hm, mk6 hm, ml6 hm]; exact ⟨mk0 hm, ⟨by omega, by omega, by omega⟩, by rw [e, tkv2]; exact at1.2.2, kr, w⟩
    · rw [mr8 hm, mk8 hm, ml8 hm]
      refine ⟨mk0 hm, ⟨by omega, by omega, by omega⟩, rl_10 (P := fun v => v = tkv W a b.toNat c ∧ kR M M' ∧ WC W M') de1.2.1 ⟨by rw [e, tkv3], kr, w⟩⟩
    · rw [← er]
      rw [← er] at e2
      refine c_142W (d := D + 22) l g w hr (by omega) e2 (fun M2 f2 l2 w2 er2 e22 rd2 wt2 ot2 => ⟨l2, ?_⟩)
      have hm2 := (WC_ctx g w2 hr).1.1
      rw [er2] at hm2
      have q := mw hm2 (i := 4) (by decide) (by decide)
      rw [mr14 hm2, mk12 hm2, ml12 hm2, q.1, q.2.1, q.2.2]
      refine ⟨mk0 hm2, ⟨by omega, by omega, by omega⟩, ⟨rfl, by omega, by omega⟩, ?_, kR_fr hl (fr_trans f f2), w2⟩
      have := wt2.1 b.toNat hin
      rw [eb] at this
      rw [e, tkv4]; exact this
    · rw [mr7 hm, mk7 hm, ml7 hm]; exact ⟨mk0 hm, ⟨by omega, by omega, by omega⟩, by rw [e, tkv5]; exact de1.1, kr, w⟩
  · refine q_enter (t_204_0 hl (r_202W (d := D + 20) hl g h (fun hr hi M' f l w rd => ⟨l, fun _ => ?_, fun z => absurd z (by decide)⟩) (fun hn M' f l w => ⟨l, fun z => absurd rfl z, fun _ => ⟨(cif_neg hn).symm, f, w⟩⟩)))
    rw [cif_pos ⟨hr, hi⟩]
    have tk := tk_all g hr
    have hin : b.toNat < (w_T W a).length := by omega
    have eb : ((b.toNat : Nat) : Int) = b := by omega
    have t1 := rd.2.2.2.2 b.toNat hin
    rw [eb] at t1
    refine ⟨⟨fun e => ?_, fun e => ?_, fun e => ?_, fun e => ?_, fun e => ?_, fun e => ?_, trivial⟩, fun e => ⟨(tkvo e).symm, f, w⟩⟩
    · exact ⟨by omega, by rw [e, tkv0]; exact t1.1.1, f, w⟩
    · exact ⟨by omega, by rw [e, tkv1]; exact t1.1.2.1, f, w⟩
    · exact ⟨by omega, by rw [e, tkv2]; exact t1.1.2.2, f, w⟩
    · exact ⟨by omega, rl_10 (P := fun v => v = tkv W a b.toNat c ∧ fr Zr M M' ∧ WR W M') t1.2.2.2.2.2 ⟨by rw [e, tkv3], f, w⟩⟩
    · have fa := R_rdy_fa rd hin
      rw [eb] at fa
      refine r_214 (d := D + 23) l fa (w.2.2.2.1 4 (by decide) (by decide)) (fun M2 f2 => ⟨fr_lay f2 l, by rw [e, tkv4]; rfl, fr_trans f (fr_mono f2 (fun x j q => by unfold Zp at q; unfold Zr; omega)), ?_⟩)
      exact WR_Y w f2 (fun x j q => by unfold Zp at q; omega) hr ((f2.2 _ _ (by unfold Zp; omega)).trans rd.2.1.1) ((f2.2 _ _ (by unfold Zp; omega)).trans rd.2.1.2) (R_rdy_fr rd f2 (fun x j q => by unfold Zp at q; omega)).2.2.2
    · exact ⟨by omega, by rw [e, tkv5]; exact t1.2.2.2.2.1, f, w⟩
end
