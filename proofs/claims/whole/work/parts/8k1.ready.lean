section
def ZP2 : Int → Int → Prop := fun a j => (a = 19 ∧ j = 1) ∨ a = 20
theorem ctx_P2 {M M' : qM} {m nw : Int} {WL : Int → List Int} {WS WE WO : Int → Int} {ln : List Int} (h : ctx M m nw WL WS WE WO ln) (f : fr ZP2 M M') : ctx M' m nw WL WS WE WO ln := by
  have ge := q_ml_ge h.1.1
  exact ctx_fr h f (fun j => by unfold ZP2; omega) (fun a j _ _ => by unfold ZP2; omega)
theorem C_at_P2 {M M' : qM} {m i : Int} {t : qT} (hm : 126 ≤ m) (h : C_at M m i t) (f : fr ZP2 M M') : C_at M' m i t := ⟨(f.2 _ _ (by unfold ZP2; omega)).trans h.1, (f.2 _ _ (by unfold ZP2; omega)).trans h.2.1, (f.2 _ _ (by unfold ZP2; omega)).trans h.2.2⟩
theorem c_18i {d : Nat} {P : Int → qM → Prop} {M0 : qM} {m nw i : Int} {WL : Int → List Int} {WS WE WO : Int → Int} {ln pre : List Int} {t : qT} {a : Nat} {c s : Nat} (hc : ctx M0 m nw WL WS WE WO ln) (ok : okT nw ln t) (ha : a < ln.length) (hn : pre.length + (pie WL ln t a).length ≤ 100)
    (K : ∀ M', fr ZP2 M0 M' → C_Sp 19 20 (pre ++ pie WL ln t a) M' → q_At q_m18 (q_WP q_Pr (d + 1)) P 7 [(0, .inr (.inr m)), (1, .inl i), (2, .inr (.inr 19)), (3, .inl (w32 ((a : Int) + 1)))] [] M' c s) : ∀ (n : Nat) (y : Int) (M : qM), 0 ≤ y → y + n = (pie WL ln t a).length → fr ZP2 M0 M → C_Sp 19 20 (pre ++ slice (pie WL ln t a) 0 y) M → q_At q_m18 (q_WP q_Pr (d + 1)) P 58 [(0, .inr (.inr m)), (1, .inl i), (2, .inr (.inr 19)), (3, .inl (a : Int)), (4, .inl (frA ln t a)), (5, .inl (bkA ln t a)), (6, .inl ((pie WL ln t a).length : Int)), (7, .inl y)] [] M c s := by
  have pt := pie_lets hc.2.2.1 hc.2.2.2 ok (a := (a : Int)) (by omega) (by omega)
  intro n
  induction n with
  | zero =>
    intro y M h0 h1 hf h
    rw [show y = ((pie WL ln t a).length : Int) by omega, slice_all] at h
    exact t_18_58 (ctx_P2 hc hf).1.1 ⟨fun _ => K M hf h, fun z => absurd z (by omega)⟩
  | succ n ih =>
    intro y M h0 h1 hf h
    have hc' := ctx_P2 hc hf
    have fb := ctx_fb hc' ok (a := (a : Int)) (by omega) (by omega)
    have hl3 := slice_len (tp := pie WL ln t a) (f := 0) (n := y) (Int.le_refl 0) h0 (by omega)
    have oc : okc (tb (pie WL ln t a) y) := by rw [tb_in h0 (by omega)]; exact Or.inr (pt _ (getD_mem (by omega)))
    refine t_18_58 hc'.1.1 ?_
    rw [w32_id (x := y + 1) (by omega) (by omega)]
    refine ⟨fun z => absurd z (by omega), fun _ => c_87 (WL := WL) hc'.1.1.1 fb.1 fb.2 (show 0 ≤ y ∧ y < ((joi WL (frA ln t a) (bkA ln t a)).length : Int) from ⟨h0, by show y < ((pie WL ln t a).length : Int); omega⟩) ⟨hc'.1.1, lk19 hc'.1.1.1, c_59 (isSp19 hc'.1.1.1) h (by rw [List.length_append]; omega) oc (fun M1 f1 c1 => ⟨q_ml_fr f1 hc'.1.1, ih (y + 1) M1 (by omega) (by omega) (fr_trans hf f1) ?_⟩)⟩⟩
    rw [slice0_succ h0 (by omega), ← List.append_assoc]
    exact c1
theorem c_18l {d : Nat} {P : Int → qM → Prop} {M0 : qM} {m nw i : Int} {WL : Int → List Int} {WS WE WO : Int → Int} {ln : List Int} {t : qT} {c s : Nat} (hc : ctx M0 m nw WL WS WE WO ln) (hi : 0 ≤ i ∧ i < mst ln.length) (hat : C_at M0 m i t) (ok : okT nw ln t) (K : ∀ M', fr ZP2 M0 M' → C_Sp 19 20 (txt WL ln t) M' → P 0 M') : ∀ (n a : Nat) (M : qM), a + n = ln.length → fr ZP2 M0 M → C_Sp 19 20 (spl WL ln t a) M → q_At q_m18 (q_WP q_Pr (d + 1)) P 7 [(0, .inr (.inr m)), (1, .inl i), (2, .inr (.inr 19)), (3, .inl (a : Int))] [] M c s := by
  have ge := q_ml_ge hc.1.1
  have g6 := hc.2.2.2.1
  intro n
  induction n with
  | zero =>
    intro a M e hf h
    have ea : a = ln.length := by omega
    subst ea
    exact t_18_7 (ctx_P2 hc hf).1.1 ⟨fun _ => K M hf h, fun z => absurd z (by omega)⟩
  | succ n ih =>
    intro a M e hf h
    have hc' := ctx_P2 hc hf
    have hat' := C_at_P2 ge hat hf
    have fb := ctx_fb hc' ok (a := (a : Int)) (by omega) (by omega)
    have tl := txt_len hc.2.2.1 hc.2.2.2 ok a (by omega)
    have pl := (pie_len hc.2.2.1 hc.2.2.2 ok (a := (a : Int)) (by omega) (by omega)).1
    have nx : ∀ pre : List Int, pre = spl WL ln t a ++ (if a = 0 then [] else [32]) → ∀ M', fr ZP2 M0 M' → C_Sp 19 20 (pre ++ pie WL ln t a) M' → q_At q_m18 (q_WP q_Pr (d + 1)) P 7 [(0, .inr (.inr m)), (1, .inl i), (2, .inr (.inr 19)), (3, .inl (w32 ((a : Int) + 1)))] [] M' c s := fun pre hpre M' f' h' => by
      rw [w32_id (x := (a : Int) + 1) (by omega) (by omega)]
      exact ih (a + 1) M' (by omega) f' (by rw [hpre] at h'; exact h')
    refine t_18_7 hc'.1.1 ⟨fun z => absurd z (by omega), fun _ => ⟨fun z => ?_, fun z => ⟨lk19 hc'.1.1.1, c_59 (isSp19 hc'.1.1.1) h (by omega) (Or.inl rfl) (fun M1 f1 c1 => ⟨q_ml_fr f1 hc'.1.1, ?_⟩)⟩⟩⟩
    · have ea : a = 0 := by omega
      have ep : spl WL ln t a = spl WL ln t a ++ (if a = 0 then [] else [32]) := by rw [if_pos ea, List.append_nil]
      refine c_11 hc'.1 hi hat' ok (by omega) ⟨hc'.1.1, c_12 hc'.1 hi hat' ok (by omega) ⟨hc'.1.1, c_85 (WL := WL) hc'.1.1.1 fb.1 fb.2 ⟨hc'.1.1, ?_⟩⟩⟩
      exact c_18i hc' ok (by omega) (by omega) (fun M' f' h' => nx _ ep M' (fr_trans hf f') h') (pie WL ln t a).length 0 M (Int.le_refl 0) (by omega) fr_rfl (by rw [slice_zero, List.append_nil]; exact h)
    · have f01 := fr_trans hf f1
      have hc1 := ctx_P2 hc f01
      have hat1 := C_at_P2 ge hat f01
      have fb1 := ctx_fb hc1 ok (a := (a : Int)) (by omega) (by omega)
      have ep : spl WL ln t a ++ [32] = spl WL ln t a ++ (if a = 0 then [] else [32]) := by rw [if_neg (by omega)]
      refine c_11 hc1.1 hi hat1 ok (by omega) ⟨hc1.1.1, c_12 hc1.1 hi hat1 ok (by omega) ⟨hc1.1.1, c_85 (WL := WL) hc1.1.1.1 fb1.1 fb1.2 ⟨hc1.1.1, ?_⟩⟩⟩
      exact c_18i hc1 ok (by omega) (by rw [List.length_append, List.length_cons, List.length_nil]; omega) (fun M' f' h' => nx _ ep M' (fr_trans f01 f') h') (pie WL ln t a).length 0 M1 (Int.le_refl 0) (by omega) fr_rfl (by rw [slice_zero, List.append_nil]; exact c1)
theorem c_18 {d : Nat} {P : Int → qM → Prop} {M : qM} {m nw i : Int} {WL : Int → List Int} {WS WE WO : Int → Int} {ln : List Int} {t : qT} (hc : ctx M m nw WL WS WE WO ln) (hi : 0 ≤ i ∧ i < mst ln.length) (hat : C_at M m i t) (ok : okT nw ln t) (K : ∀ M', fr ZP2 M M' → C_Sp 19 20 (txt WL ln t) M' → P 0 M') : q_WP q_Pr (d + 2) 18 [.inr (.inr m), .inl i, .inr (.inr 19)] M P := by
  have ge := q_ml_ge hc.1.1
  refine q_enter (t_18_0 hc.1.1 ⟨lk19 hc.1.1.1, fun M1 e1 l1 => ?_⟩)
  have f1 : fr ZP2 M M1 := fr_wn e1 (Or.inl ⟨rfl, rfl⟩)
  exact c_18l (ctx_P2 hc f1) hi (C_at_P2 ge hat f1) ok (fun M' f2 c2 => K M' (fr_trans f1 f2) c2) ln.length 0 M1 (by omega) fr_rfl ⟨wn_eq e1, q_L_nil⟩
theorem c_7l {d : Nat} {P : Int → qM → Prop} {M0 : qM} {m n mo : Int} {c s : Nat} (hM : q_ml M0 m n mo) (K : ∀ M', fr (fun a _ => a = m + 2) M0 M' → (∀ j, 0 ≤ j → j < 5 → q_nm M' (m + 2) j = 0) → P 0 M') : ∀ (k : Nat) (y : Int) (M : qM), 0 ≤ y → y + k = 5 → fr (fun a _ => a = m + 2) M0 M → (∀ j, 0 ≤ j → j < y → q_nm M (m + 2) j = 0) → q_At q_m7 (q_WP q_Pr d) P 2 [(0, .inr (.inr m)), (1, .inl y)] [] M c s := by
  intro k
  induction k with
  | zero =>
    intro y M h0 h1 hf h
    exact t_7_2 (q_ml_fr hf hM) ⟨fun _ => K M hf (fun j a b => h j a (by omega)), fun z => absurd z (by omega)⟩
  | succ k ih =>
    intro y M h0 h1 hf h
    refine t_7_2 (q_ml_fr hf hM) ?_
    rw [w32_id (x := y + 1) (by omega) (by omega)]
    refine ⟨fun z => absurd z (by omega), fun _ => ⟨by omega, fun M1 e1 l1 => ih (y + 1) M1 (by omega) (by omega) (fr_trans hf (fr_wn e1 rfl)) (fun j a b => ?_)⟩⟩
    by_cases ej : j = y
    · rw [ej]; exact wn_eq e1
    · rw [wn_ne e1 (by omega)]; exact h j a (by omega)
theorem c_7 {d : Nat} {P : Int → qM → Prop} {M : qM} {m n mo : Int} (hM : q_ml M m n mo) (K : ∀ M', fr (fun a _ => a = m + 2) M M' → (∀ j, 0 ≤ j → j < 5 → q_nm M' (m + 2) j = 0) → P 0 M') : q_WP q_Pr (d + 1) 7 [.inr (.inr m)] M P :=
  q_enter (t_7_0 hM (c_7l hM K 5 0 M (Int.le_refl 0) (by decide) fr_rfl (fun j a b => absurd a (by omega))))
/-- what readying a row may change -/
def ZR (m : Int) : Int → Int → Prop := fun a j => (a = m ∧ (j = 2 ∨ j = 3)) ∨ a = m + 2 ∨ (m + 4 ≤ a ∧ a ≤ m + 11) ∨ a = 18
theorem c_139 {d : Nat} {P : Int → qM → Prop} {M : qM} {m nw nr r : Int} {WL : Int → List Int} {WS WE WO : Int → Int} {ln : List Int} (hl : q_lay M) (hnr : q_nm M 0 3 = nr) (hr12 : 0 ≤ nr ∧ nr ≤ 12) (hrf : (0 ≤ r ∧ r < nr) → q_rf M 13 r = m ∧ ctx M m nw WL WS WE WO ln ∧ (q_nm M m 2 = nw → C_rdy M m nw WL WS WE WO ln))
    (K1 : (0 ≤ r ∧ r < nr) → ∀ M', fr (ZR m) M M' → C_rdy M' m nw WL WS WE WO ln → q_nm M' m 2 = nw → ((M' = M ∧ q_nm M m 2 = nw) ∨ (∀ k, 0 ≤ k → k < 5 → q_nm M' (m + 2) k = 0)) → P m M') (K0 : ¬ (0 ≤ r ∧ r < nr) → P (-1) M) : q_WP q_Pr (d + 6) 139 [.inr (.inr 0), .inl r] M P := by
  refine q_enter (t_139_0 (d := d + 4) hl ?_)
  rw [hnr]
  refine ⟨fun hr => ?_, K0⟩
  obtain ⟨er, hc, hrd⟩ := hrf hr
  have ge := q_ml_ge hc.1.1
  have k0 := mk0 hc.1.1
  rw [er, k0, hc.2.1.1.1]
  refine ⟨by omega, fun z => absurd z (by omega), fun _ => ⟨rfl, fun z => K1 hr M fr_rfl (hrd z) z (Or.inl ⟨rfl, z⟩), fun z => ⟨rfl, fun M3 e3 l3 => ?_⟩⟩⟩
  have f3 : fr (ZR m) M M3 := fr_wn e3 (by unfold ZR; omega)
  have cz : ∀ M', fr (ZR m) M M' → ctx M' m nw WL WS WE WO ln := fun M' f => ctx_fr hc f (fun j => by unfold ZR; omega) (fun a j _ _ => by unfold ZR; omega)
  have tk := TK_ok hc.2.2.1 hc.2.2.2
  have kd : ∀ M', fr (ZR m) M M' → q_kd M' m = 1 := fun M' f => mk0 (cz M' f).1.1
  refine ⟨kd M3 f3, c_7 (d := d + 4) (cz M3 f3).1.1 (fun M5 f5' c5 => ⟨fr_lay f5' l3, ?_⟩)⟩
  have f5 : fr (ZR m) M M5 := fr_trans f3 (fr_mono f5' (fun a j q => by unfold ZR; omega))
  refine ⟨kd M5 f5, c_8 (d := d + 1) (cz M5 f5).1 (cz M5 f5).2.1 hc.2.2.1 hc.2.2.2 (fun M7 f7' c7 => ⟨fr_lay f7' (cz M5 f5).1.1.1, ?_⟩)⟩
  have f7 : fr (ZR m) M M7 := fr_trans f5 (fr_mono f7' (fun a j q => by unfold ZM at q; unfold ZR; omega))
  refine ⟨kd M7 f7, c_13 (d := d + 1) (cz M7 f7) c7 tk.2 tk.1 (fun M9 f9' c9 => ⟨fr_lay f9' (cz M7 f7).1.1.1, ?_⟩)⟩
  have f9 : fr (ZR m) M M9 := fr_trans f7 (fr_mono f9' (fun a j q => by unfold ZD at q; unfold ZR; omega))
  have hT9 : C_TK M9 m (TK nw WL WS WE ln) := ⟨(f9'.2 _ _ (by unfold ZD; omega)).trans c7.1, fun i hi => ⟨(f9'.2 _ _ (by unfold ZD; omega)).trans (c7.2 i hi).1, (f9'.2 _ _ (by unfold ZD; omega)).trans (c7.2 i hi).2.1, (f9'.2 _ _ (by unfold ZD; omega)).trans (c7.2 i hi).2.2⟩⟩
  refine ⟨kd M9 f9, c_16 (d := d + 1) (cz M9 f9) hT9 tk.2 tk.1 (fun i hi => (c9 i hi).2.2.2) (fun M11 f11' c11 => ⟨fr_lay f11' (cz M9 f9).1.1.1, ?_⟩)⟩
  have f11 : fr (ZR m) M M11 := fr_trans f9 (fr_mono f11' (fun a j q => by unfold ZG at q; unfold ZR; omega))
  refine K1 hr M11 f11 ⟨C_TK_G ge hT9 f11', fun i hi => C_de_fr (c9 i hi) (fun a _ _ => f11'.2 _ _ (by unfold ZG; omega)), c11⟩ ?_ (Or.inr (fun k a b => ?_))
  · rw [f11'.2 _ _ (by unfold ZG; omega), f9'.2 _ _ (by unfold ZD; omega), f7'.2 _ _ (by unfold ZM; omega), f5'.2 _ _ (by dsimp only; omega), wn_eq e3]
  · rw [f11'.2 _ _ (by unfold ZG; omega), f9'.2 _ _ (by unfold ZD; omega), f7'.2 _ _ (by unfold ZM; omega)]; exact c5 k a b
end
