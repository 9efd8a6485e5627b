section
def okR (tp : List Int) (f n : Int) : Prop := (1 ≤ n ∧ n ≤ 100) ∧ ∀ i, f ≤ i → i < f + n → okc (tb tp i)
def slice (tp : List Int) (f n : Int) : List Int := (tp.drop f.toNat).take n.toNat
theorem slice_zero {tp : List Int} {f : Int} : slice tp f 0 = [] := by unfold slice; simp
theorem slice_all {tp : List Int} : slice tp 0 tp.length = tp := by unfold slice; simp
theorem slice_len {tp : List Int} {f n : Int} (h0 : 0 ≤ f) (h1 : 0 ≤ n) (h : f + n ≤ tp.length) : ((slice tp f n).length : Int) = n := by unfold slice; simp; omega
theorem slice_succ {tp : List Int} {f m : Int} (h0 : 0 ≤ f) (h1 : 0 ≤ m) (h : f + m < tp.length) : slice tp f (m + 1) = slice tp f m ++ [tb tp (f + m)] := by
  unfold slice
  rw [tb_in (by omega) h, show (m + 1).toNat = m.toNat + 1 by omega, List.take_add_one, List.getElem?_drop, show (f + m).toNat = f.toNat + m.toNat by omega, getD_el (by omega)]
  rw [List.getElem?_eq_getElem (by omega)]
  rfl
theorem okc_in {tp : List Int} {k : Int} (h : okc (tb tp k)) : 0 ≤ k ∧ k < tp.length := by
  refine Classical.byContradiction fun g => ?_
  rw [tb_out g] at h
  unfold okc at h; omega
theorem c_59 {d : Nat} {P : Int → qM → Prop} {M : qM} {x b v : Int} {sd : List Int} (hS : isSp M x b) (hC : C_Sp x b sd M) (hn : sd.length < 100) (hv : okc v) (K : ∀ M', fr (fun a j => (a = x ∧ j = 1) ∨ a = b) M M' → C_Sp x b (sd ++ [v]) M' → P 0 M') : q_WP q_Pr (d + 1) 59 [.inr (.inr x), .inl v] M P := by
  have hxb : x ≠ b := fun e => by have h1 := hS.1; have h2 := hS.2.2.1; rw [e, h2] at h1; exact absurd h1 (by decide)
  refine q_enter (s_59_0 ?_)
  rw [hS.2.1, hS.1, hS.2.2.1, hS.2.2.2, hC.1, q_bs12, w8_w8, okc_w8 hv]
  refine ⟨rfl, fun g => absurd g (by omega), fun _ => ⟨rfl, rfl, ⟨Or.inl rfl, by omega, by omega⟩, ?_⟩⟩
  intro M1
  refine ⟨hS.1, hS.1, ?_⟩
  have e1 : q_nm M1 x 1 = sd.length := (wn_ne rfl (fun z => hxb z.1)).trans hC.1
  rw [e1, w32_id (x := (sd.length : Int) + 1) (by omega) (by omega)]
  intro M2
  refine K M2 (fr_trans (fr_wn (M' := M1) rfl (Or.inr rfl)) (fr_wn (M' := M2) rfl (Or.inl ⟨rfl, rfl⟩))) ⟨?_, ?_⟩
  · rw [List.length_append, wn_eq (M' := M2) rfl]; simp
  · refine q_L_snoc hC.2 (fun j _ g2 => ?_) ?_
    · rw [wn_ne (M' := M2) rfl (fun z => hxb z.1.symm), wn_ne (M' := M1) rfl (by omega)]
    · rw [wn_ne (M' := M2) rfl (fun z => hxb z.1.symm), Int.zero_add, wn_eq (M' := M1) rfl]
theorem c_61l {d : Nat} {P : Int → qM → Prop} {M : qM} {tp : List Int} {f n : Int} {c s : Nat} (hl : q_lay M) (hT : C_T tp M) (g : G_T tp) (hf : 0 ≤ f ∧ f ≤ 3000) (hn : 1 ≤ n ∧ n ≤ 100) (K1 : okR tp f n → P 1 M) (K0 : ¬ okR tp f n → P 0 M) : ∀ (k : Nat) (x : Int), f ≤ x → x + k = f + n → (∀ i, f ≤ i → i < x → okc (tb tp i)) → q_At q_m61 (q_WP q_Pr (d + 2)) P 15 [(0, .inr (.inr 1)), (1, .inl f), (2, .inl n), (3, .inl x)] [] M c s := by
  intro k
  induction k with
  | zero =>
    intro x h0 h1 h2
    refine t_61_15 hl ?_
    rw [w32_id (x := f + n) (by omega) (by omega)]
    exact ⟨fun _ => K1 ⟨hn, fun i a b => h2 i a (by omega)⟩, fun z => absurd z (by omega)⟩
  | succ k ih =>
    intro x h0 h1 h2
    refine t_61_15 hl ?_
    rw [w32_id (x := f + n) (by omega) (by omega), w32_id (x := x + 1) (by omega) (by omega), C_T_B hT]
    have nx : okc (tb tp x) → q_At q_m61 (q_WP q_Pr (d + 2)) P 15 [(0, .inr (.inr 1)), (1, .inl f), (2, .inl n), (3, .inl (x + 1))] [] M c s := fun ho => ih (x + 1) (by omega) (by omega) (fun i a b => by
      by_cases e : i = x
      · rw [e]; exact ho
      · exact h2 i a (by omega))
    exact ⟨fun z => absurd z (by omega), fun _ => ⟨C_T_le hT g, fun z => nx (Or.inr z), fun z => ⟨C_T_le hT g, fun y => nx (Or.inl y), fun y => K0 (fun w => by
      have := w.2 x h0 (by omega); unfold okc at this; omega)⟩⟩⟩
theorem c_61 {d : Nat} {P : Int → qM → Prop} {M : qM} {tp : List Int} {f n : Int} (hl : q_lay M) (hT : C_T tp M) (g : G_T tp) (hf : 0 ≤ f ∧ f ≤ 3000) (K1 : okR tp f n → P 1 M) (K0 : ¬ okR tp f n → P 0 M) : q_WP q_Pr (d + 3) 61 [.inr (.inr 1), .inl f, .inl n] M P := by
  refine q_enter (t_61_0 hl ⟨fun z => K0 (fun w => by have := w.1; omega), fun z => ⟨fun y => ?_, fun y => K0 (fun w => by have := w.1; omega)⟩⟩)
  exact c_61l hl hT g hf ⟨z, y⟩ K1 K0 n.toNat f (Int.le_refl f) (by omega) (fun i a b => absurd a (by omega))
theorem c_62l {d : Nat} {P : Int → qM → Prop} {M0 : qM} {tp : List Int} {x b f n : Int} {c s : Nat} (hl : q_lay M0) (hS : isSp M0 x b) (hb : b ≠ 2 ∧ b ≠ 1 ∧ x ≠ 2 ∧ x ≠ 1) (hT : C_T tp M0) (g : G_T tp) (hf : 0 ≤ f) (hr : okR tp f n) (K : ∀ M', fr (fun a j => (a = x ∧ j = 1) ∨ a = b) M0 M' → C_Sp x b (slice tp f n) M' → P 0 M') : ∀ (k : Nat) (y : Int) (M : qM), f ≤ y → y + k = f + n → fr (fun a j => (a = x ∧ j = 1) ∨ a = b) M0 M → C_Sp x b (slice tp f (y - f)) M → q_At q_m62 (q_WP q_Pr (d + 1)) P 8 [(0, .inr (.inr x)), (1, .inr (.inr 1)), (2, .inl f), (3, .inl n), (4, .inl y)] [] M c s := by
  have hin := okc_in (hr.2 (f + n - 1) (by have := hr.1; omega) (by omega))
  have hn := hr.1
  have gt := g.1
  intro k
  induction k with
  | zero =>
    intro y M h0 h1 h2 h3
    refine t_62_8 (fr_lay h2 hl) ?_
    rw [w32_id (x := f + n) (by omega) (by omega)]
    rw [show y - f = n by omega] at h3
    exact ⟨fun _ => K M h2 h3, fun z => absurd z (by omega)⟩
  | succ k ih =>
    intro y M h0 h1 h2 h3
    have hT' : C_T tp M := C_T_fr hT (fun j => ⟨h2.2 1 j (by dsimp only; omega), h2.2 2 j (by dsimp only; omega)⟩)
    refine t_62_8 (fr_lay h2 hl) ?_
    rw [w32_id (x := f + n) (by omega) (by omega), w32_id (x := y + 1) (by omega) (by omega), C_T_B hT']
    refine ⟨fun z => absurd z (by omega), fun _ => ⟨C_T_le hT' g, (isSp_fr hS h2).1, ?_⟩⟩
    have hl3 := slice_len (tp := tp) (f := f) (n := y - f) hf (by omega) (by omega)
    refine c_59 (isSp_fr hS h2) h3 (by omega) (hr.2 y h0 (by omega)) (fun M' q1 q2 => ⟨fr_lay (fr_trans h2 q1) hl, ih (y + 1) M' (by omega) (by omega) (fr_trans h2 q1) ?_⟩)
    rw [show y + 1 - f = (y - f) + 1 by omega, slice_succ hf (by omega) (by omega), show f + (y - f) = y by omega]
    exact q2
theorem c_62 {d : Nat} {P : Int → qM → Prop} {M : qM} {tp : List Int} {x b f n : Int} (hl : q_lay M) (hS : isSp M x b) (hb : b ≠ 2 ∧ b ≠ 1 ∧ x ≠ 2 ∧ x ≠ 1) (hT : C_T tp M) (g : G_T tp) (hf : 0 ≤ f) (hr : okR tp f n) (K : ∀ M', fr (fun a j => (a = x ∧ j = 1) ∨ a = b) M M' → C_Sp x b (slice tp f n) M' → P 0 M') : q_WP q_Pr (d + 2) 62 [.inr (.inr x), .inr (.inr 1), .inl f, .inl n] M P := by
  refine q_enter (t_62_0 hl ⟨hS.1, fun M1 e1 l1 => ?_⟩)
  have f1 : fr (fun a j => (a = x ∧ j = 1) ∨ a = b) M M1 := fr_wn e1 (Or.inl ⟨rfl, rfl⟩)
  refine c_62l hl hS hb hT g hf hr K n.toNat f M1 (Int.le_refl f) (by have := hr.1; omega) f1 ?_
  rw [Int.sub_self, slice_zero]
  exact ⟨wn_eq e1, q_L_nil⟩
/-- the class hears -/
theorem c_110 {d : Nat} {P : Int → qM → Prop} {M : qM} {tp : List Int} (hl : q_lay M) (hT : C_T tp M) (g : G_T tp)
    (K1 : okR tp 0 tp.length → ∀ M', fr (fun a j => (a = 19 ∧ j = 1) ∨ a = 20 ∨ (a = 1 ∧ j = 1)) M M' → C_Sp 19 20 tp M' → q_nm M' 1 1 = 0 → P 1 M')
    (K0 : ¬ okR tp 0 tp.length → ∀ M', fr (fun a j => a = 1 ∧ j = 1) M M' → q_nm M' 1 1 = 0 → P 0 M') : q_WP q_Pr (d + 4) 110 [.inr (.inr 0)] M P := by
  refine q_enter (t_110_0 hl ?_)
  rw [hT.1]
  refine c_61 hl hT g (by omega) (fun h1 => ⟨hl, ?_⟩) (fun h0 => ⟨hl, ?_⟩)
  · refine ⟨fun z => absurd z (by decide), fun _ => ?_⟩
    rw [hT.1]
    refine c_62 hl (isSp19 hl) (by omega) hT g (by omega) h1 (fun M' q1 q2 => ⟨fr_lay q1 hl, fun M2 e2 l2 => ⟨by omega, K1 h1 M2 ?_ ?_ (wn_eq e2)⟩⟩)
    · exact fr_trans (fr_mono q1 (fun a j z => z.elim Or.inl (fun w => Or.inr (Or.inl w)))) (fr_wn e2 (Or.inr (Or.inr ⟨rfl, rfl⟩)))
    · rw [slice_all] at q2
      exact ⟨(wn_ne e2 (by omega)).trans q2.1, q_L_fr q2.2 (fun j _ _ => wn_ne e2 (by omega))⟩
  · exact ⟨fun _ M2 e2 l2 => ⟨by omega, K0 h0 M2 (fr_wn e2 ⟨rfl, rfl⟩) (wn_eq e2)⟩, fun z => absurd rfl z⟩
end
