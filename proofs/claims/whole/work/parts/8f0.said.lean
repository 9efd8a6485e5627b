section
/-! WHAT THE CLASS'S WORDS ANSWER -/
theorem ons_get {l : List Int} {i : Nat} (h : i < onsN l) : (ons l).getD i 0 = l.getD i 0 := by
  unfold ons; rw [List.getD_eq_getElem?_getD, List.getD_eq_getElem?_getD, List.getElem?_take, if_pos h]
theorem rst_get {l : List Int} {i : Nat} : (rst l).getD i 0 = l.getD (onsN l + i) 0 := by
  unfold rst; rw [List.getD_eq_getElem?_getD, List.getD_eq_getElem?_getD, List.getElem?_drop]
theorem C_W_ok {nw : Int} {WL : Int → List Int} {WS WE WO : Int → Int} {M : qM} (h : C_W nw WL WS WE WO M) (g : G_W nw WL WS WE WO) {w : Int} (h0 : 0 ≤ w) (h1 : w < nw) : C_ok M WL w :=
  ⟨⟨h0, by have := g.1; omega⟩, (h.2 w h0 h1).1, (g.2.1 w h0 h1).1⟩
theorem joi_len {WL : Int → List Int} {f b : Int} : ((joi WL f b).length : Int) = (fro WL f).length + ((WL b).length - onsN (WL b)) := by
  unfold joi; rw [List.length_append, rst_len]; have := onsN_le (WL b); omega
theorem fro_len {WL : Int → List Int} {f : Int} (h : f ≠ -1) : (fro WL f).length = onsN (WL f) := by
  unfold fro; rw [if_neg h, ons_len]
theorem joi_rst {WL : Int → List Int} {f b i : Int} (h0 : (fro WL f).length ≤ i) (h1 : i < (joi WL f b).length) : tb (joi WL f b) i = (WL b).getD (onsN (WL b) + (i.toNat - (fro WL f).length)) 0 := by
  rw [tb_in (by omega) h1]; unfold joi; rw [getD_app2 (by omega), rst_get]
theorem joi_fro {WL : Int → List Int} {f b i : Int} (h : f ≠ -1) (h0 : 0 ≤ i) (h1 : i < (fro WL f).length) : tb (joi WL f b) i = (WL f).getD i.toNat 0 := by
  have e := fro_len (WL := WL) h
  rw [tb_in h0 (by rw [joi_len]; have := onsN_le (WL b); omega)]; unfold joi; rw [getD_app1 (by omega)]
  unfold fro; rw [if_neg h]; exact ons_get (by omega)
theorem c_87 {d : Nat} {P : Int → qM → Prop} {M : qM} {f b i : Int} {WL : Int → List Int} (hl : q_lay M) (hf : f = -1 ∨ C_ok M WL f) (hb : C_ok M WL b) (hi : 0 ≤ i ∧ i < (joi WL f b).length) (K : P (tb (joi WL f b) i) M) : q_WP q_Pr (d + 1) 87 [.inr (.inr 3), .inl f, .inl b, .inl i] M P := by
  have h1 := onsN_le (WL b)
  have h2 := hb.2.2.1
  have h3 := hb.1
  have jl := joi_len (WL := WL) (f := f) (b := b)
  refine q_enter (t_87_0 hl ?_)
  rw [hb.2.1.2.2.1, w32_id (x := b * 8) (by omega) (by omega), w32_id (x := b * 8 + (onsN (WL b) : Int)) (by omega) (by omega)]
  refine ⟨fun z => ?_, fun z => ?_⟩
  · have hf' := hf.resolve_left z
    have h4 := hf'.1
    have h5 := onsN_le (WL f)
    have h6 := hf'.2.2.1
    have fl := fro_len (WL := WL) z
    rw [hf'.2.1.2.2.1, w32_id (x := b * 8 + (onsN (WL b) : Int) + i) (by omega) (by omega), w32_id (x := f * 8) (by omega) (by omega)]
    refine ⟨by omega, fun y => ⟨by omega, ?_⟩, fun y => ?_⟩
    · rw [w32_id (x := b * 8 + (onsN (WL b) : Int) + i - onsN (WL f)) (by omega) (by omega)]
      refine ⟨by omega, ?_⟩
      have e := hb.2.1.1 (onsN (WL b) + (i.toNat - (fro WL f).length)) (by omega)
      rw [show b * 8 + (onsN (WL b) : Int) + i - onsN (WL f) = b * 8 + ((onsN (WL b) + (i.toNat - (fro WL f).length) : Nat) : Int) by omega, e, ← joi_rst (by omega) hi.2]
      exact K
    · rw [w32_id (x := f * 8 + i) (by omega) (by omega)]
      refine ⟨by omega, ?_⟩
      rw [joi_fro z hi.1 (by omega)] at K
      rw [q_L_get hf'.2.1.1 hi.1 (by omega)]; exact K
  · have fl : (fro WL f).length = 0 := by unfold fro; rw [if_pos z]; rfl
    rw [w32_id (x := b * 8 + (onsN (WL b) : Int) + i) (by omega) (by omega), Int.sub_zero, w32_id (x := b * 8 + (onsN (WL b) : Int) + i) (by omega) (by omega)]
    refine ⟨fun y => ⟨by omega, by omega, ?_⟩, fun y => absurd y (by omega)⟩
    have e := hb.2.1.1 (onsN (WL b) + (i.toNat - (fro WL f).length)) (by omega)
    rw [show b * 8 + (onsN (WL b) : Int) + i = b * 8 + ((onsN (WL b) + (i.toNat - (fro WL f).length) : Nat) : Int) by omega, e, ← joi_rst (by omega) hi.2]
    exact K
/-- the word's number that a list is, or -1 -/
def isNum (nw : Int) (WL : Int → List Int) (l : List Int) (v : Int) : Prop := ((0 ≤ v ∧ v < nw) ∧ WL v = l) ∨ (v = -1 ∧ ∀ w, 0 ≤ w → w < nw → WL w ≠ l)
theorem isNum_uniq {nw : Int} {WL : Int → List Int} {WS WE WO : Int → Int} (g : G_W nw WL WS WE WO) {l : List Int} {v u : Int} (h : isNum nw WL l v) (k : isNum nw WL l u) : v = u := by
  rcases h with ⟨h1, h2⟩ | ⟨h1, h2⟩ <;> rcases k with ⟨k1, k2⟩ | ⟨k1, k2⟩
  · exact g.2.2 v u h1.1 h1.2 k1.1 k1.2 (h2.trans k2.symm)
  · exact absurd h2 (k2 v h1.1 h1.2)
  · exact absurd k2 (h2 u k1.1 k1.2)
  · rw [h1, k1]
theorem joi_lets {M : qM} {WL : Int → List Int} {f b : Int} (hf : f = -1 ∨ C_ok M WL f) (hb : C_ok M WL b) : lets (joi WL f b) := by
  unfold joi
  refine lets_app.mpr ⟨?_, lets_rst hb.2.2.2⟩
  unfold fro; split
  · exact fun b hb => absurd hb (List.not_mem_nil)
  · rename_i h; exact lets_ons (hf.resolve_left h).2.2.2
theorem c_88l {d : Nat} {P : Int → qM → Prop} {M : qM} {nw : Int} {WL : Int → List Int} {WS WE WO : Int → Int} {l : List Int} {c s : Nat} (hl : q_lay M) (hW : C_W nw WL WS WE WO M) (g : G_W nw WL WS WE WO) (h8 : l.length ≤ 8) (hk : lets l) (K : ∀ v, isNum nw WL l v → P v M) : ∀ (k : Nat) (y : Int), 0 ≤ y → y + k = nw → (∀ w, 0 ≤ w → w < y → WL w ≠ l) → q_At q_m88 (q_WP q_Pr (d + 1)) P 30 [(0, .inr (.inr 3)), (3, .inr (.inl (w64 (rk l)))), (5, .inl y)] [] M c s := by
  have gn := g.1
  intro k
  induction k with
  | zero =>
    intro y h0 h1 h2
    refine t_88_30 hl ?_
    rw [hW.1.1]
    exact ⟨fun _ => K _ (Or.inr ⟨rfl, fun w p q => h2 w p (by omega)⟩), fun z => absurd z (by omega)⟩
  | succ k ih =>
    intro y h0 h1 h2
    refine t_88_30 hl ?_
    rw [hW.1.1, w32_id (x := y + 1) (by omega) (by omega)]
    have ky := C_W_ok hW g h0 (show y < nw by omega)
    have gy := (g.2.1 y h0 (by omega)).1
    refine ⟨fun z => absurd z (by omega), fun _ => c_86 (WL := WL) hl hW.1.2 (Or.inr ky) ky ⟨hl, ?_⟩⟩
    rw [joi_self h0]
    refine ⟨fun z => ih (y + 1) (by omega) (by omega) (fun w p q => ?_), fun z => K y (Or.inl ⟨by omega, key_inj gy.1.2 gy.2 h8 hk (q_lc_z z)⟩)⟩
    by_cases e : w = y
    · subst e; intro e2; rw [e2] at z; exact q_lc_nz z rfl
    · exact h2 w p (by omega)
theorem c_88 {d : Nat} {P : Int → qM → Prop} {M : qM} {nw f b : Int} {WL : Int → List Int} {WS WE WO : Int → Int} (hl : q_lay M) (hW : C_W nw WL WS WE WO M) (g : G_W nw WL WS WE WO) (hf : f = -1 ∨ (0 ≤ f ∧ f < nw)) (hb : 0 ≤ b ∧ b < nw) (K : ∀ v, isNum nw WL (joi WL f b) v → P v M) : q_WP q_Pr (d + 2) 88 [.inr (.inr 3), .inl f, .inl b] M P := by
  have gn := g.1
  have kb := C_W_ok hW g hb.1 hb.2
  have kf : f = -1 ∨ C_ok M WL f := hf.imp id (fun h => C_W_ok hW g h.1 h.2)
  refine q_enter (t_88_0 hl ⟨fun z => ?_, fun z => ?_⟩)
  · refine c_85 (WL := WL) hl kf kb ⟨hl, fun y => ?_, fun y => ?_⟩
    · refine c_86 (WL := WL) hl hW.1.2 kf kb ⟨hl, ?_⟩
      exact c_88l hl hW g (by omega) (joi_lets kf kb) K nw.toNat 0 (Int.le_refl 0) (by omega) (fun w p q => absurd p (by omega))
    · exact K _ (Or.inr ⟨rfl, fun w p q e => by have := (g.2.1 w p q).1.1; rw [e] at this; omega⟩)
  · subst z; exact K _ (Or.inl ⟨hb, (joi_self hb.1).symm⟩)
theorem c_89l {d : Nat} {P : Int → qM → Prop} {M : qM} {f b f2 b2 : Int} {WL : Int → List Int} {c s : Nat} (hl : q_lay M) (hf : f = -1 ∨ C_ok M WL f) (hb : C_ok M WL b) (hf2 : f2 = -1 ∨ C_ok M WL f2) (hb2 : C_ok M WL b2) (he : (joi WL f b).length = (joi WL f2 b2).length) (hn : (joi WL f b).length ≤ 20) (K1 : joi WL f b = joi WL f2 b2 → P 1 M) (K0 : ¬ joi WL f b = joi WL f2 b2 → P 0 M) : ∀ (k : Nat) (y : Int), 0 ≤ y → y + k = (joi WL f b).length → (∀ i, 0 ≤ i → i < y → tb (joi WL f b) i = tb (joi WL f2 b2) i) → q_At q_m89 (q_WP q_Pr (d + 1)) P 25 [(0, .inr (.inr 3)), (1, .inl f), (2, .inl b), (3, .inl f2), (4, .inl b2), (5, .inl ((joi WL f b).length : Int)), (6, .inl y)] [] M c s := by
  intro k
  induction k with
  | zero =>
    intro y h0 h1 h2
    exact t_89_25 hl ⟨fun _ => K1 (tb_ext he (fun i p q => h2 i p (by omega))), fun z => absurd z (by omega)⟩
  | succ k ih =>
    intro y h0 h1 h2
    refine t_89_25 hl ?_
    rw [w32_id (x := y + 1) (by omega) (by omega)]
    refine ⟨fun z => absurd z (by omega), fun _ => c_87 (WL := WL) hl hf hb (by omega) ⟨hl, c_87 (WL := WL) hl hf2 hb2 (by omega) ⟨hl, fun z => ih (y + 1) (by omega) (by omega) (fun i p q => ?_), fun z => K0 (fun q => z (by rw [q]))⟩⟩⟩
    by_cases e : i = y
    · rw [e]; exact z
    · exact h2 i p (by omega)
theorem joi_max {M : qM} {WL : Int → List Int} {f b : Int} (hf : f = -1 ∨ C_ok M WL f) (hb : C_ok M WL b) : (joi WL f b).length ≤ 16 := by
  have h1 := joi_len (WL := WL) (f := f) (b := b)
  have h2 := hb.2.2.1
  have h3 := onsN_le (WL b)
  rcases hf with h | h
  · have : (fro WL f).length = 0 := by unfold fro; rw [if_pos h]; rfl
    omega
  · have h4 := h.2.2.1
    have h5 := onsN_le (WL f)
    have := fro_len (WL := WL) (f := f) (by have := h.1; omega)
    omega
theorem c_89 {d : Nat} {P : Int → qM → Prop} {M : qM} {f b f2 b2 : Int} {WL : Int → List Int} (hl : q_lay M) (hf : f = -1 ∨ C_ok M WL f) (hb : C_ok M WL b) (hf2 : f2 = -1 ∨ C_ok M WL f2) (hb2 : C_ok M WL b2) (K1 : joi WL f b = joi WL f2 b2 → P 1 M) (K0 : ¬ joi WL f b = joi WL f2 b2 → P 0 M) : q_WP q_Pr (d + 2) 89 [.inr (.inr 3), .inl f, .inl b, .inl f2, .inl b2] M P := by
  have hm := joi_max hf hb
  refine q_enter (t_89_0 hl (c_85 (WL := WL) hl hf hb ⟨hl, c_85 (WL := WL) hl hf2 hb2 ⟨hl, fun z => ?_, fun z => K0 (fun q => z (by rw [q]))⟩⟩))
  exact c_89l hl hf hb hf2 hb2 (by omega) (by omega) K1 K0 (joi WL f b).length 0 (Int.le_refl 0) (by omega) (fun i p q => absurd p (by omega))
def cntU (l m : List Int) : Nat → Int
  | 0 => 0
  | k + 1 => cntU l m k + (if l.getD k 0 = m.getD k 0 then 0 else 1)
/-- in how many places two are unlike -/
def unl (l m : List Int) : Int := max (l.length : Int) m.length - min (l.length : Int) m.length + cntU l m (min l.length m.length)
theorem cntU_rng (l m : List Int) : ∀ k : Nat, 0 ≤ cntU l m k ∧ cntU l m k ≤ k := by
  intro k
  induction k with
  | zero => exact ⟨Int.le_refl 0, Int.le_refl 0⟩
  | succ k ih => unfold cntU; split <;> omega
theorem c_90l {d : Nat} {P : Int → qM → Prop} {M : qM} {w f b A : Int} {WL : Int → List Int} {c s : Nat} (hl : q_lay M) (hw : C_ok M WL w) (hf : f = -1 ∨ C_ok M WL f) (hb : C_ok M WL b) (n : Nat) (hn : n ≤ (WL w).length ∧ n ≤ (joi WL f b).length) (hA : 0 ≤ A ∧ A ≤ 100) (K : P (A + cntU (WL w) (joi WL f b) n) M) : ∀ (k y : Nat), y + k = n → q_At q_m90 (q_WP q_Pr (d + 1)) P 40 [(0, .inr (.inr 3)), (1, .inl w), (2, .inl f), (3, .inl b), (5, .inl (n : Int)), (6, .inl (A + cntU (WL w) (joi WL f b) y)), (7, .inl (y : Int))] [] M c s := by
  have h8 := hw.2.2.1
  intro k
  induction k with
  | zero =>
    intro y h1
    refine t_90_40 hl ⟨fun _ => ?_, fun z => absurd z (by omega)⟩
    rw [show y = n by omega]; exact K
  | succ k ih =>
    intro y h1
    have cr := cntU_rng (WL w) (joi WL f b) y
    have i := ih (y + 1) (by omega)
    refine t_90_40 hl ?_
    have e : q_nm M 4 (w * 8 + (y : Int)) = (WL w).getD y 0 := hw.2.1.1 y (by omega)
    rw [e, w32_id (x := (y : Int) + 1) (by omega) (by omega), w32_id (x := A + cntU (WL w) (joi WL f b) y + 1) (by omega) (by omega)]
    refine ⟨fun z => absurd z (by omega), fun _ => ⟨⟨hw.1, by omega, by omega⟩, c_87 (WL := WL) hl hf hb (by omega) ⟨hl, ?_⟩⟩⟩
    rw [tb_in (by omega) (by omega), show ((y : Int)).toNat = y by omega]
    refine ⟨fun z => ?_, fun z => ?_⟩
    · unfold cntU at i; rw [if_pos z, Int.add_zero] at i; exact i
    · unfold cntU at i; rw [if_neg z, ← Int.add_assoc] at i; exact i
theorem c_90 {d : Nat} {P : Int → qM → Prop} {M : qM} {w f b : Int} {WL : Int → List Int} (hl : q_lay M) (hw : C_ok M WL w) (hf : f = -1 ∨ C_ok M WL f) (hb : C_ok M WL b) (K : P (unl (WL w) (joi WL f b)) M) : q_WP q_Pr (d + 2) 90 [.inr (.inr 3), .inl w, .inl f, .inl b] M P := by
  have hm := joi_max hf hb
  have h8 := hw.2.2.1
  refine q_enter (t_90_0 hl (c_85 (WL := WL) hl hf hb ⟨hl, hw.1, hw.1, ?_⟩))
  rw [hw.2.1.2.1, w32_id (by omega) (by omega)]
  have q := c_90l (d := d) (c := 0) (s := 0) (A := max ((joi WL f b).length : Int) (WL w).length - min ((joi WL f b).length : Int) (WL w).length) hl hw hf hb (min (WL w).length (joi WL f b).length) (by omega) (by omega) (P := P) (by
    have e : unl (WL w) (joi WL f b) = max ((joi WL f b).length : Int) (WL w).length - min ((joi WL f b).length : Int) (WL w).length + cntU (WL w) (joi WL f b) (min (WL w).length (joi WL f b).length) := by unfold unl; omega
    rw [← e]; exact K) (min (WL w).length (joi WL f b).length) 0 (by omega)
  rw [show cntU (WL w) (joi WL f b) 0 = 0 from rfl, Int.add_zero, show ((min (WL w).length (joi WL f b).length : Nat) : Int) = min ((joi WL f b).length : Int) (WL w).length by omega] at q
  exact q
end
