section
theorem tkO_m {B : Int → Int → Int → Bool} {k p : Nat} : ∀ m, ∀ t ∈ tkO B k p m, t.1 = k ∧ t.2.1 = p ∧ ∃ o : Nat, B k p o = true ∧ t.2.2 = ot k o := by
  intro m
  induction m with
  | zero => intro t h; exact absurd h List.not_mem_nil
  | succ m ih =>
    intro t h
    have h' : t ∈ tkO B k p m ++ (if B k p m then [((k : Int), (p : Int), ot k m)] else []) := h
    rcases List.mem_append.mp h' with q | q
    · exact ih t q
    · by_cases b : B k p m = true
      · rw [if_pos b] at q
        have e := List.mem_singleton.mp q
        rw [e]; exact ⟨rfl, rfl, m, b, rfl⟩
      · rw [if_neg b] at q; exact absurd q List.not_mem_nil
theorem tkP_m {B : Int → Int → Int → Bool} {k n nw : Nat} : ∀ m, ∀ t ∈ tkP B k n nw m, t.1 = k ∧ ∃ p o : Nat, t.2.1 = p ∧ B k p o = true ∧ t.2.2 = ot k o := by
  intro m
  induction m with
  | zero => intro t h; exact absurd h List.not_mem_nil
  | succ m ih =>
    intro t h
    have h' : t ∈ tkP B k n nw m ++ tkO B k m (oth k n nw) := h
    rcases List.mem_append.mp h' with q | q
    · exact ih t q
    · obtain ⟨a, b, o, c, e⟩ := tkO_m _ t q
      exact ⟨a, m, o, b, c, e⟩
theorem tkK_m {B : Int → Int → Int → Bool} {n nw : Nat} : ∀ k, ∀ t ∈ tkK B n nw k, t = (0, -1, -1) ∨ ∃ j p o : Nat, (1 ≤ j ∧ j ≤ k) ∧ t.1 = j ∧ t.2.1 = p ∧ B j p o = true ∧ t.2.2 = ot j o := by
  intro k
  induction k with
  | zero => intro t h; exact Or.inl (List.mem_singleton.mp h)
  | succ k ih =>
    intro t h
    have h' : t ∈ tkK B n nw k ++ tkP B (k + 1) n nw n := h
    rcases List.mem_append.mp h' with q | q
    · rcases ih t q with e | ⟨j, p, o, a, b⟩
      · exact Or.inl e
      · exact Or.inr ⟨j, p, o, by omega, b⟩
    · obtain ⟨a, p, o, b, c, e⟩ := tkP_m _ t q
      exact Or.inr ⟨k + 1, p, o, by omega, a, b, c, e⟩
theorem spl_okc {nw : Int} {WL : Int → List Int} {WS WE WO : Int → Int} (gW : G_W nw WL WS WE WO) {ln : List Int} {t : qT} (g : G_L nw ln) (ok : okT nw ln t) : ∀ a : Nat, a ≤ ln.length → ∀ b ∈ spl WL ln t a, okc b := by
  intro a
  induction a with
  | zero => intro _ b h; exact absurd h List.not_mem_nil
  | succ a ih =>
    intro ha b h
    have h' : b ∈ spl WL ln t a ++ (if a = 0 then [] else [32]) ++ pie WL ln t a := h
    rcases List.mem_append.mp h' with q | q
    · rcases List.mem_append.mp q with q | q
      · exact ih (by omega) b q
      · split at q
        · exact absurd q List.not_mem_nil
        · exact Or.inl (List.mem_singleton.mp q)
    · exact Or.inr (pie_lets gW g ok (by omega) (by omega) b q)
theorem txt_ne {nw : Int} {WL : Int → List Int} {WS WE WO : Int → Int} (gW : G_W nw WL WS WE WO) {ln : List Int} (g : G_L nw ln) {t : qT} (h : t ∈ TK nw WL WS WE ln) : 0 < (txt WL ln t).length := by
  have ok := (TK_ok gW g).1 t h
  have g1 := g.1
  obtain ⟨n, en⟩ : ∃ n, ln.length = n + 1 := ⟨ln.length - 1, by omega⟩
  unfold txt
  rw [en]
  show 0 < (spl WL ln t n ++ (if n = 0 then [] else [32]) ++ pie WL ln t n).length
  rw [List.length_append, List.length_append]
  by_cases e : n = 0
  · have l0 := li_rng g (a := 0) (by omega) (by omega)
    have w0 := (gW.2.1 _ l0.1 l0.2).1.1
    have key : 0 < (pie WL ln t ((0 : Nat) : Int)).length := by
      rcases tkK_m 8 t h with q | ⟨j, p, o, j1, t1, t2, b, t3⟩
      · rw [q]
        show 0 < (pie WL ln ((0 : Int), (-1 : Int), (-1 : Int)) 0).length
        rw [pie_un (by decide) (by omega) l0.1]; omega
      · obtain ⟨k, p', o'⟩ := t
        dsimp only at t1 t2 t3
        have mp := mayB_iff.mp b
        have pz : p' = 0 := by unfold okT at ok; dsimp only at ok; omega
        have pz2 : p = 0 := by omega
        rw [pz2] at mp
        unfold okT at ok
        dsimp only at ok
        rw [pz] at ok ⊢
        rcases ok with q | q | q | q
        · omega
        · omega
        · have w1 := (gW.2.1 _ q.2.2.1 q.2.2.2).1.1
          by_cases k5 : k = 5
          · rw [k5]
            show 0 < (pie WL ln (5, 0, o') 0).length
            rw [pie_5]
            have eo : o' = o := by rw [t3]; unfold ot; rw [if_neg (by omega)]
            rw [eo]
            unfold mayP mayW at mp
            have ej : (j : Int) = 5 := by omega
            rw [ej] at mp
            rcases mp with z | z | z | (⟨_, _, z⟩ | z | z) | z
            · omega
            · omega
            · omega
            · exact z.2
            · omega
            · omega
            · omega
          · show 0 < (pie WL ln (k, 0, o') 0).length
            rw [pie_67 (by omega) (by omega)]; omega
        · rw [q.1]
          show 0 < (pie WL ln (8, 0, o') 0).length
          rw [pie_8]
          unfold mayP mayW at mp
          have ej : (j : Int) = 8 := by omega
          rw [ej] at mp
          rcases mp with z | z | z | (z | z | z) | z
          · omega
          · omega
          · omega
          · omega
          · omega
          · omega
          · have l := joi_len (WL := WL) (f := -1) (b := li ln 0)
            have z2 := z.2
            unfold lose at z2
            have z3 : onsN (WL (li ln 0)) < (WL (li ln 0)).length := z2.2
            omega
    rw [e]; omega
  · rw [if_neg e]; show 0 < _ + 1 + _; omega
theorem tx_G {W : qW} {r : Int} (g : WG W) (hr : 0 ≤ r ∧ r < w_nr W) {i : Nat} (hi : i < (w_T W r).length) : G_S (w_tx W r i) ∧ 0 < (w_tx W r i).length := by
  have gl := g.2.2.1.2 r hr.1 hr.2
  have m := getT_mem hi
  have ok := (TK_ok g.2.1 gl).1 _ m
  exact ⟨⟨Nat.le_trans (txt_len g.2.1 gl ok _ (Nat.le_refl _)) (by decide), spl_okc g.2.1 gl ok _ (Nat.le_refl _)⟩, txt_ne g.2.1 gl m⟩
theorem ok_weight' {L : Nat} {X : Int → Int} {D : Nat} : ∀ a b c : Int, q_i32 a → q_i32 b → q_i32 c → q_ok L X (INV L X) (D + 30) 107 217 [.inl a, .inl b, .inl c] := by
  intro a b c _ _ _
  refine q_okQ (fun W => cif (w_mk W c ∧ (0 ≤ a ∧ a < w_nr W)) (if b = -1 then sumN (w_wt W a c) (w_T W a).length else cif (0 ≤ b ∧ b < (w_T W a).length) (w_wt W a c b.toNat) (-1)) (-1)) id (fun W g => g) (fun W M hl g h => ?_) (fun W M hl g h => ?_)
  · refine q_enter (t_107_0 hl (c_140W (d := D + 21) hl g h (fun mk hr M' f l w cx rd wt er e2 => ⟨l, fun _ => ?_, fun z => absurd z (by have := q_ml_ge cx.1.1; omega)⟩) (fun hn => ⟨hl, fun z => absurd rfl z, fun _ => ⟨(cif_neg hn).symm, kR_rfl hl, h⟩⟩)))
    rw [cif_pos ⟨mk, hr⟩]
    have tk := tk_all g hr
    have hm := cx.1.1
    have mk1 := mk.1
    have kr := kR_fr hl f
    refine ⟨fun z => ⟨mk0 hm, ?_⟩, fun z => ?_⟩
    · rw [if_neg z]
      refine c_6W (d := D + 28) cx rd (fun hi => ⟨l, fun z => absurd z (by decide), fun _ => ⟨mk0 hm, ?_⟩⟩) (fun hi => ⟨l, fun _ => ⟨(cif_neg hi).symm, kr, w⟩, fun z => absurd rfl z⟩)
      have q := mw hm (i := c) (by omega) (by omega)
      rw [mr14 hm, mk12 hm, ml12 hm, q.1, q.2.1, q.2.2, cif_pos hi]
      have wb := wt.1 b.toNat (by omega)
      rw [show ((b.toNat : Nat) : Int) = b by omega] at wb
      exact ⟨⟨by omega, by omega, by omega⟩, ⟨rfl, by omega, by omega⟩, wb, kr, w⟩
    · rw [if_pos z, mr13 hm, mk3 hm, ml3 hm]
      exact ⟨mk0 hm, ⟨rfl, by omega, by omega⟩, wt.2.1, kr, w⟩
  · refine q_enter (t_217_0 (d := D + 27) hl ?_)
    rw [h.2.2.1.1]
    refine ⟨g.2.2.1.1, fun hr => ⟨fun z => ?_, fun z => ⟨(cif_neg (fun q => z ((R_mk h).mpr q.1))).symm, fr_rfl, h⟩⟩, fun hr => ⟨(cif_neg (fun q => hr q.2)).symm, fr_rfl, h⟩⟩
    have mk := (R_mk h).mp z
    refine r_215W (d := D + 22) hl g h hr mk (fun M' f l w rd wt => ⟨l, ?_⟩)
    rw [cif_pos ⟨mk, hr⟩]
    have tk := tk_all g hr
    rw [show q_nm M' 66 55 = (w_T W a).length from rd.2.2.2.1, w32_id (x := ((w_T W a).length : Int) - 1) (by omega) (by omega)]
    refine ⟨fun y => ?_, fun y => ⟨by rw [if_pos y], f, w⟩⟩
    rw [if_neg y]
    refine ⟨fun x => ⟨by omega, ?_, f, w⟩, fun x => ⟨(cif_neg (fun q => x (by omega))).symm, f, w⟩⟩
    rw [cif_pos (by omega)]
    have wb := wt b.toNat (by omega)
    rw [show ((b.toNat : Nat) : Int) = b by omega] at wb
    exact wb
theorem r_218l {d : Nat} {P : Int → qM → Prop} {M0 : qM} {i : Int} {sd : List Int} {c s : Nat} (hi : 0 ≤ i ∧ i < 640) (hg : sd.length ≤ 100) (ht : q_L M0 111 (104 * i) sd) (K : ∀ M', fr (fun a j => (a = 66 ∧ j = 71) ∨ a = 119) M0 M' → R_S sd M' → P sd.length M') : ∀ (n y : Nat) (M : qM), y + n = sd.length → q_lay M → fr (fun a j => (a = 66 ∧ j = 71) ∨ a = 119) M0 M → q_nm M 66 71 = sd.length → (∀ j : Nat, j < y → q_nm M 119 j = sd.getD j 0) → q_At q_m218 (q_WP q_Pr d) P 12 [(0, .inr (.inr 66)), (1, .inl i), (2, .inl (y : Int))] [] M c s := by
  intro n
  induction n with
  | zero =>
    intro y M h0 hl hf h71 hj
    refine t_218_12 hl ?_
    rw [h71]
    exact ⟨fun _ => K M hf ⟨h71, fun j hh => by rw [Int.zero_add]; exact hj j (by omega)⟩, fun z => absurd z (by omega)⟩
  | succ n ih =>
    intro y M h0 hl hf h71 hj
    refine t_218_12 hl ?_
    rw [h71, w32_id (x := 104 * i) (by omega) (by omega), w32_id (x := 104 * i + (y : Int)) (by omega) (by omega), w32_id (x := (y : Int) + 1) (by omega) (by omega)]
    refine ⟨fun z => absurd z (by omega), fun _ => ⟨by omega, by omega, fun M1 e1 l1 => ?_⟩⟩
    rw [show (y : Int) + 1 = ((y + 1 : Nat) : Int) by omega]
    refine ih (y + 1) M1 (by omega) l1 (fr_trans hf (fr_wn e1 (Or.inr rfl))) ((wn_ne e1 (by omega)).trans h71) (fun j hh => ?_)
    by_cases e : j = y
    · rw [e, wn_eq e1, hf.2 111 _ (by dsimp only; omega)]; exact ht y (by omega)
    · rw [wn_ne e1 (by omega)]; exact hj j (by omega)
theorem r_218 {d : Nat} {P : Int → qM → Prop} {M : qM} {i : Int} {sd : List Int} (hl : q_lay M) (hi : 0 ≤ i ∧ i < 640) (hg : sd.length ≤ 100) (h112 : q_nm M 112 i = sd.length) (ht : q_L M 111 (104 * i) sd) (K : ∀ M', fr (fun a j => (a = 66 ∧ j = 71) ∨ a = 119) M M' → R_S sd M' → P sd.length M') : q_WP q_Pr (d + 1) 218 [.inr (.inr 66), .inl i] M P := by
  refine q_enter (t_218_0 hl ⟨hi, fun M1 e1 l1 => ?_⟩)
  exact r_218l (sd := sd) hi hg ht K sd.length 0 M1 (by omega) l1 (fr_wn e1 (Or.inl ⟨rfl, rfl⟩)) (by rw [wn_eq e1]; exact h112) (fun j hj => absurd hj (Nat.not_lt_zero j))
theorem WG_S {W : qW} {sd : List Int} (g : WG W) (h : G_S sd) : WG (w_setS W sd) := ⟨g.1, g.2.1, g.2.2.1, h, g.2.2.2.2⟩
theorem ok_tell' {L : Nat} {X : Int → Int} {D : Nat} : ∀ a b : Int, q_i32 a → q_i32 b → q_ok L X (INV L X) (D + 30) 108 219 [.inl a, .inl b] := by
  intro a b _ _
  refine q_okQ (fun W => cif ((0 ≤ a ∧ a < w_nr W) ∧ (0 ≤ b ∧ b < (w_T W a).length)) ((w_tx W a b.toNat).length : Int) (-1)) (fun W => cif ((0 ≤ a ∧ a < w_nr W) ∧ (0 ≤ b ∧ b < (w_T W a).length)) (w_setS W (w_tx W a b.toNat)) W) (fun W g => ?_) (fun W M hl g h => ?_) (fun W M hl g h => ?_)
  · by_cases c : (0 ≤ a ∧ a < w_nr W) ∧ (0 ≤ b ∧ b < (w_T W a).length)
    · rw [cif_pos c]; exact WG_S g (tx_G g c.1 (by omega)).1
    · rw [cif_neg c]; exact g
  · refine q_enter (t_108_0 hl (c_139W (d := D + 23) hl g h (fun hr M' f l w er cx rd e2 => ⟨l, fun z => absurd z (by have := q_ml_ge cx.1.1; omega), fun _ => ⟨mk0 cx.1.1, ?_⟩⟩) (fun hr => ⟨hl, fun _ => ⟨(cif_neg (fun q => hr q.1)).symm, kR_rfl hl, by rw [cif_neg (fun q => hr q.1)]; exact h⟩, fun z => absurd rfl z⟩)))
    refine c_6W (d := D + 28) cx rd (fun hi => ⟨l, fun _ => ⟨mk0 cx.1.1, ?_⟩, fun z => absurd z (by decide)⟩) (fun hi => ⟨l, fun z => absurd rfl z, fun _ => ⟨(cif_neg (fun q => hi q.2)).symm, kR_fr hl f, by rw [cif_neg (fun q => hi q.2)]; exact w⟩⟩)
    have tk := tk_all g hr
    have hin : b.toNat < (w_T W a).length := by omega
    have at1 := rd.1.2 b.toNat hin
    rw [show ((b.toNat : Nat) : Int) = b by omega] at at1
    refine c_18 (d := D + 27) cx (by omega) at1 (tk.1 _ (getT_mem hin)) (fun M2 f2 s2 => ⟨fr_lay f2 l, ?_⟩)
    rw [cif_pos ⟨hr, hi⟩, cif_pos ⟨hr, hi⟩]
    exact ⟨s2.1, kR_fr hl (fr_trans f (fr_mono f2 (fun x j q => by unfold ZP2 at q; unfold Zc; omega))), WC_S g w f2 (fun x j q => by unfold ZP2 at q; omega) s2⟩
  · refine q_enter (t_219_0 hl (r_202W (d := D + 20) hl g h (fun hr hi M' f l w rd => ⟨l, fun z => absurd z (by decide), fun _ => ?_⟩) (fun hn M' f l w => ⟨l, fun _ => ⟨(cif_neg hn).symm, f, by rw [cif_neg hn]; exact w⟩, fun z => absurd rfl z⟩)))
    have tk := tk_all g hr
    have hin : b.toNat < (w_T W a).length := by omega
    have t1 := rd.2.2.2.2 b.toNat hin
    rw [show ((b.toNat : Nat) : Int) = b by omega] at t1
    refine r_218 (d := D + 28) (sd := w_tx W a b.toNat) l (by omega) (tx_G g hr hin).1.1 t1.2.1 t1.2.2.1 (fun M2 f2 s2 => ⟨fr_lay f2 l, ?_⟩)
    rw [cif_pos ⟨hr, hi⟩, cif_pos ⟨hr, hi⟩]
    exact ⟨rfl, fr_trans f (fr_mono f2 (fun x j q => by unfold Zr; omega)), WR_S w f2 (fun x j q => q) s2⟩
end
