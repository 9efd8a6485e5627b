section
def fup {α : Type} (f : Int → α) (n : Int) (v : α) : Int → α := fun i => if i = n then v else f i
theorem fup_eq {α : Type} {f : Int → α} {n : Int} {v : α} : fup f n v n = v := if_pos rfl
theorem fup_ne {α : Type} {f : Int → α} {n i : Int} {v : α} (h : i ≠ n) : fup f n v i = f i := if_neg h
/-- the notes -/
def C_N (nn : Int) (NR : Int → Int) (NL : Int → List Int) (M : qM) : Prop := q_nm M 21 2 = nn ∧ ∀ i, 0 ≤ i → i < nn → (q_nm M 22 i = NR i ∧ C_Sp (24 + 2 * i) (25 + 2 * i) (NL i) M)
def R_N (nn : Int) (NR : Int → Int) (NL : Int → List Int) (M : qM) : Prop := q_nm M 66 73 = nn ∧ ∀ i, 0 ≤ i → i < nn → (q_nm M 120 i = NR i ∧ q_nm M 121 i = (NL i).length ∧ q_L M 122 (104 * i) (NL i))
def G_N (nr nn : Int) (NR : Int → Int) (NL : Int → List Int) : Prop := (0 ≤ nn ∧ nn ≤ 20) ∧ ∀ i, 0 ≤ i → i < nn → ((0 ≤ NR i ∧ NR i < nr) ∧ 1 ≤ (NL i).length ∧ G_S (NL i))
theorem isSpN {M : qM} (hl : q_lay M) {i : Int} (h0 : 0 ≤ i) (h1 : i < 20) : q_rf M 23 i = 24 + 2 * i ∧ isSp M (24 + 2 * i) (25 + 2 * i) := by
  have h : i = 0 ∨ i = 1 ∨ i = 2 ∨ i = 3 ∨ i = 4 ∨ i = 5 ∨ i = 6 ∨ i = 7 ∨ i = 8 ∨ i = 9 ∨ i = 10 ∨ i = 11 ∨ i = 12 ∨ i = 13 ∨ i = 14 ∨ i = 15 ∨ i = 16 ∨ i = 17 ∨ i = 18 ∨ i = 19 := by omega
  rcases h with rfl | rfl | rfl | rfl | rfl | rfl | rfl | rfl | rfl | rfl | rfl | rfl | rfl | rfl | rfl | rfl | rfl | rfl | rfl | rfl
  · exact ⟨lr23_0 hl, lk24 hl, lr24_0 hl, lk25 hl, ll25 hl⟩
  · exact ⟨lr23_1 hl, lk26 hl, lr26_0 hl, lk27 hl, ll27 hl⟩
  · exact ⟨lr23_2 hl, lk28 hl, lr28_0 hl, lk29 hl, ll29 hl⟩
  · exact ⟨lr23_3 hl, lk30 hl, lr30_0 hl, lk31 hl, ll31 hl⟩
  · exact ⟨lr23_4 hl, lk32 hl, lr32_0 hl, lk33 hl, ll33 hl⟩
  · exact ⟨lr23_5 hl, lk34 hl, lr34_0 hl, lk35 hl, ll35 hl⟩
  · exact ⟨lr23_6 hl, lk36 hl, lr36_0 hl, lk37 hl, ll37 hl⟩
  · exact ⟨lr23_7 hl, lk38 hl, lr38_0 hl, lk39 hl, ll39 hl⟩
  · exact ⟨lr23_8 hl, lk40 hl, lr40_0 hl, lk41 hl, ll41 hl⟩
  · exact ⟨lr23_9 hl, lk42 hl, lr42_0 hl, lk43 hl, ll43 hl⟩
  · exact ⟨lr23_10 hl, lk44 hl, lr44_0 hl, lk45 hl, ll45 hl⟩
  · exact ⟨lr23_11 hl, lk46 hl, lr46_0 hl, lk47 hl, ll47 hl⟩
  · exact ⟨lr23_12 hl, lk48 hl, lr48_0 hl, lk49 hl, ll49 hl⟩
  · exact ⟨lr23_13 hl, lk50 hl, lr50_0 hl, lk51 hl, ll51 hl⟩
  · exact ⟨lr23_14 hl, lk52 hl, lr52_0 hl, lk53 hl, ll53 hl⟩
  · exact ⟨lr23_15 hl, lk54 hl, lr54_0 hl, lk55 hl, ll55 hl⟩
  · exact ⟨lr23_16 hl, lk56 hl, lr56_0 hl, lk57 hl, ll57 hl⟩
  · exact ⟨lr23_17 hl, lk58 hl, lr58_0 hl, lk59 hl, ll59 hl⟩
  · exact ⟨lr23_18 hl, lk60 hl, lr60_0 hl, lk61 hl, ll61 hl⟩
  · exact ⟨lr23_19 hl, lk62 hl, lr62_0 hl, lk63 hl, ll63 hl⟩
theorem q_cp_nm {M : qM} {a sp b dp n c j : Int} : q_nm (q_cp M a sp b dp n) c j = if c = b ∧ dp ≤ j ∧ j < dp + n then q_nm M a (sp + (j - dp)) else q_nm M c j := rfl
theorem c_60 {d : Nat} {P : Int → qM → Prop} {M : qM} {x b x1 b1 : Int} {sd : List Int} (hS : isSp M x b) (hS1 : isSp M x1 b1) (hb : b1 ≠ b) (hC : C_Sp x1 b1 sd M) (hn : sd.length ≤ 100) (K : ∀ M', fr (fun a j => (a = x ∧ j = 1) ∨ a = b) M M' → C_Sp x b sd M' → P 0 M') : q_WP q_Pr (d + 1) 60 [.inr (.inr x), .inr (.inr x1)] M P := by
  have hxb : x ≠ b := fun e => by have h1 := hS.1; have h2 := hS.2.2.1; rw [e, h2] at h1; exact absurd h1 (by decide)
  have hxb1 : x1 ≠ b := fun e => by have h1 := hS1.1; have h2 := hS.2.2.1; rw [e, h2] at h1; exact absurd h1 (by decide)
  refine q_enter (s_60_0 ?_)
  rw [hS.2.1, hS1.2.1, hS.1, hS1.1, hS.2.2.1, hS1.2.2.1, hS.2.2.2, hS1.2.2.2]
  refine ⟨rfl, rfl, ⟨Or.inl ⟨rfl, rfl⟩, hb, by decide, by decide, by decide, by decide, by decide⟩, ?_⟩
  intro M1
  refine ⟨hS1.1, hS.1, ?_⟩
  have e1 : q_nm M1 x1 1 = sd.length := by
    show q_nm (q_cp M b1 0 b 0 100) x1 1 = _
    rw [q_cp_nm, if_neg (fun z => hxb1 z.1)]; exact hC.1
  rw [e1]
  intro M2
  have f1 : fr (fun a j => (a = x ∧ j = 1) ∨ a = b) M M1 := ⟨⟨rfl, rfl, rfl⟩, fun a j z => by
    show q_nm (q_cp M b1 0 b 0 100) a j = _
    rw [q_cp_nm, if_neg (fun w => z (Or.inr w.1))]⟩
  refine K M2 (fr_trans f1 (fr_wn (M' := M2) rfl (Or.inl ⟨rfl, rfl⟩))) ⟨wn_eq (M' := M2) rfl, fun i hi => ?_⟩
  rw [wn_ne (M' := M2) rfl (fun z => hxb z.1.symm)]
  show q_nm (q_cp M b1 0 b 0 100) b (0 + i) = _
  rw [q_cp_nm, if_pos ⟨rfl, by omega, by omega⟩, show (0 : Int) + (0 + (i : Int) - 0) = 0 + (i : Int) by omega]
  exact hC.2 i hi
theorem C_Sp_fr {x b : Int} {sd : List Int} {M M' : qM} (h : C_Sp x b sd M) (k1 : q_nm M' x 1 = q_nm M x 1) (k2 : ∀ j, q_nm M' b j = q_nm M b j) : C_Sp x b sd M' := ⟨by rw [k1]; exact h.1, q_L_fr h.2 (fun j _ _ => k2 j)⟩
theorem C_N_fr {nn : Int} {NR : Int → Int} {NL : Int → List Int} {M M' : qM} (g : nn ≤ 20) (h : C_N nn NR NL M) (k : ∀ a j, 21 ≤ a → a ≤ 63 → q_nm M' a j = q_nm M a j) : C_N nn NR NL M' :=
  ⟨by rw [k 21 2 (by omega) (by omega)]; exact h.1, fun i h0 h1 => ⟨by rw [k 22 i (by omega) (by omega)]; exact (h.2 i h0 h1).1, C_Sp_fr (h.2 i h0 h1).2 (k _ _ (by omega) (by omega)) (fun j => k _ _ (by omega) (by omega))⟩⟩
theorem R_N_fr {nn : Int} {NR : Int → Int} {NL : Int → List Int} {M M' : qM} (h : R_N nn NR NL M) (k0 : q_nm M' 66 73 = q_nm M 66 73) (k : ∀ a j, 120 ≤ a → a ≤ 122 → q_nm M' a j = q_nm M a j) : R_N nn NR NL M' :=
  ⟨by rw [k0]; exact h.1, fun i h0 h1 => ⟨by rw [k 120 i (by omega) (by omega)]; exact (h.2 i h0 h1).1, by rw [k 121 i (by omega) (by omega)]; exact (h.2 i h0 h1).2.1, q_L_fr (h.2 i h0 h1).2.2 (fun j _ _ => k 122 j (by omega) (by omega))⟩⟩
theorem c_34 {d : Nat} {P : Int → qM → Prop} {M : qM} {nn r : Int} {NR : Int → Int} {NL : Int → List Int} {sd : List Int} (hl : q_lay M) (hN : C_N nn NR NL M) (hn : 0 ≤ nn ∧ nn < 20) (hS : C_Sp 19 20 sd M) (hd : sd.length ≤ 100) (K : ∀ M', fr (fun a _ => 21 ≤ a ∧ a ≤ 63) M M' → C_N (nn + 1) (fup NR nn r) (fup NL nn sd) M' → P 0 M') : q_WP q_Pr (d + 2) 34 [.inr (.inr 21), .inl r, .inr (.inr 19)] M P := by
  refine q_enter (t_34_0 hl ?_)
  rw [hN.1]
  refine ⟨fun z => absurd z (by omega), fun _ => ⟨by omega, fun M1 e1 l1 => ?_⟩⟩
  have e21 : q_nm M1 21 2 = nn := (wn_ne e1 (by omega)).trans hN.1
  rw [e21, (isSpN l1 hn.1 hn.2).1]
  refine ⟨by omega, (isSpN l1 hn.1 hn.2).2.1, ?_⟩
  have f1 : fr (fun a _ => 21 ≤ a ∧ a ≤ 63) M M1 := fr_wn e1 ⟨by omega, by omega⟩
  refine c_60 (isSpN l1 hn.1 hn.2).2 (isSp19 l1) (by omega) (C_Sp_fr hS (wn_ne e1 (by omega)) (fun j => wn_ne e1 (by omega))) hd (fun M2 f2 c2 => ⟨fr_lay f2 l1, fun M3 e3 l3 => K M3 ?_ ⟨?_, fun i h0 h1 => ?_⟩⟩)
  · exact fr_trans f1 (fr_trans (fr_mono f2 (fun a j z => by omega)) (fr_wn e3 ⟨by omega, by omega⟩))
  · rw [wn_eq e3, f2.2 21 2 (by dsimp only; omega), e21]; exact w32_id (by omega) (by omega)
  · by_cases e : i = nn
    · subst e
      rw [fup_eq, fup_eq]
      refine ⟨?_, C_Sp_fr c2 (wn_ne e3 (by omega)) (fun j => wn_ne e3 (by omega))⟩
      rw [wn_ne e3 (by omega), f2.2 22 i (by dsimp only; omega)]; exact wn_eq e1
    · rw [fup_ne e, fup_ne e]
      have o := hN.2 i h0 (by omega)
      refine ⟨?_, C_Sp_fr o.2 ?_ (fun j => ?_)⟩
      · rw [wn_ne e3 (by omega), f2.2 22 i (by dsimp only; omega), wn_ne e1 (by omega)]; exact o.1
      · rw [wn_ne e3 (by omega), f2.2 _ _ (by dsimp only; omega), wn_ne e1 (by omega)]
      · rw [wn_ne e3 (by omega), f2.2 _ _ (by dsimp only; omega), wn_ne e1 (by omega)]
theorem c_118 {d : Nat} {P : Int → qM → Prop} {M : qM} {nr nn r : Int} {NR : Int → Int} {NL : Int → List Int} {sd : List Int} (hl : q_lay M) (hr : q_nm M 0 3 = nr) (hN : C_N nn NR NL M) (hn : 0 ≤ nn ∧ nn ≤ 20) (hS : C_Sp 19 20 sd M) (hd : sd.length ≤ 100)
    (K1 : (0 ≤ r ∧ r < nr) ∧ sd.length ≠ 0 ∧ nn < 20 → ∀ M', fr (fun a _ => 21 ≤ a ∧ a ≤ 63) M M' → C_N (nn + 1) (fup NR nn r) (fup NL nn sd) M' → P (nn + 1) M')
    (K0 : ¬ ((0 ≤ r ∧ r < nr) ∧ sd.length ≠ 0 ∧ nn < 20) → P (-1) M) : q_WP q_Pr (d + 4) 118 [.inr (.inr 0), .inl r] M P := by
  refine q_enter (t_118_0 hl ?_)
  rw [hr, hN.1, hS.1]
  refine ⟨fun z => ⟨fun y => K0 (fun w => w.2.1 (by omega)), fun y => ⟨fun q => ?_, fun q => K0 (fun w => by omega)⟩⟩, fun z => K0 (fun w => z w.1)⟩
  exact c_34 hl hN ⟨hn.1, q⟩ hS hd (fun M' f1 c1 => ⟨fr_lay f1 hl, by rw [c1.1]; exact K1 ⟨z, by omega, q⟩ M' f1 c1⟩)
theorem c_120 {d : Nat} {P : Int → qM → Prop} {M : qM} {nr nn k : Int} {NR : Int → Int} {NL : Int → List Int} (hl : q_lay M) (hN : C_N nn NR NL M) (g : G_N nr nn NR NL)
    (K1 : 0 ≤ k ∧ k < nn → ∀ M', fr (fun a j => (a = 19 ∧ j = 1) ∨ a = 20) M M' → C_Sp 19 20 (NL k) M' → P (NR k) M')
    (K0 : ¬ (0 ≤ k ∧ k < nn) → P (-1) M) : q_WP q_Pr (d + 2) 120 [.inr (.inr 0), .inl k] M P := by
  have gn := g.1
  refine q_enter (t_120_0 hl ?_)
  rw [hN.1]
  refine ⟨fun z => K0 (by omega), fun z => ⟨fun y => ⟨by omega, ?_⟩, fun y => K0 (by omega)⟩⟩
  rw [(isSpN hl z (by omega)).1]
  have o := hN.2 k z y
  refine c_60 (isSp19 hl) (isSpN hl z (by omega)).2 (by omega) o.2 (g.2 k z y).2.2.1 (fun M' f1 c1 => ⟨fr_lay f1 hl, by omega, ?_⟩)
  rw [f1.2 22 k (by dsimp only; omega), o.1]
  exact K1 ⟨z, y⟩ M' f1 c1
end
