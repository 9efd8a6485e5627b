section
def C_at (M : qM) (m i : Int) (t : qT) : Prop := q_nm M (m + 4) i = t.1 ∧ q_nm M (m + 5) i = t.2.1 ∧ q_nm M (m + 6) i = t.2.2
/-- a Meant with the line ln -/
def C_M (M : qM) (m : Int) (ln : List Int) : Prop := q_ml M m ln.length (mst ln.length) ∧ q_L M (m + 1) 0 ln
theorem C_M_li {M : qM} {m : Int} {ln : List Int} (h : C_M M m ln) {a : Int} (h0 : 0 ≤ a) (h1 : a < ln.length) : q_nm M (m + 1) a = li ln a := q_L_get0 h.2 h0 h1
theorem q_ml_fr {Z : Int → Int → Prop} {M M' : qM} {m n mo : Int} (h : fr Z M M') (k : q_ml M m n mo) : q_ml M' m n mo := by
  refine ⟨fr_lay h k.1, ?_⟩
  have k2 := k.2
  unfold m_lay at k2 ⊢
  simp only [fr_kd h, fr_ln h, fr_rf h]
  exact k2
theorem C_M_fr {Z : Int → Int → Prop} {M M' : qM} {m : Int} {ln : List Int} (h : C_M M m ln) (f : fr Z M M') (z : ∀ j, ¬ Z (m + 1) j) : C_M M' m ln := ⟨q_ml_fr f h.1, q_L_fr h.2 (fun j _ _ => f.2 _ _ (z j))⟩
theorem c_11 {d : Nat} {P : Int → qM → Prop} {M : qM} {m i a nw : Int} {ln : List Int} {t : qT} (hM : C_M M m ln) (hi : 0 ≤ i ∧ i < mst ln.length) (hat : C_at M m i t) (ok : okT nw ln t) (ha : 0 ≤ a ∧ a < ln.length) (K : P (frA ln t a) M) : q_WP q_Pr (d + 1) 11 [.inr (.inr m), .inl i, .inl a] M P := by
  obtain ⟨k, p, o⟩ := t
  have e4 : q_nm M (m + 4) i = k := hat.1
  have e5 : q_nm M (m + 5) i = p := hat.2.1
  have e6 : q_nm M (m + 6) i = o := hat.2.2
  unfold okT at ok; dsimp only at ok
  have la := C_M_li hM ha.1 ha.2
  have lp : 0 ≤ p → p < ln.length → q_nm M (m + 1) p = li ln p := fun x y => C_M_li hM x y
  have lo : 0 ≤ o → o < ln.length → q_nm M (m + 1) o = li ln o := fun x y => C_M_li hM x y
  have l110 : ∀ y : Int, 0 ≤ y → y < ln.length → P (li ln y) M → q_At q_m11 (q_WP q_Pr d) P 110 [] [.inl y, .inr (.inr (m + 1))] M 0 0 := fun y x z w => by
    refine t_11_110 hM.1 ?_
    rw [mk1 hM.1, ml1 hM.1, C_M_li hM x z]
    exact ⟨⟨rfl, x, z⟩, w⟩
  refine q_enter (t_11_0 hM.1 ?_)
  rw [e4, e5, e6, la]
  unfold frA at K; dsimp only at K
  refine ⟨hi, hi, hi, ⟨fun z => ?_, fun z => ?_, fun z => ?_, fun z => ?_, fun z => ?_, fun z => ?_, fun z => ?_, fun z => ?_, trivial⟩, fun z => ?_⟩
  · rw [if_pos (by omega)] at K
    refine ⟨fun y => ⟨ha, by rw [if_neg y] at K; exact K⟩, fun y => ⟨by omega, ?_⟩⟩
    rw [if_pos y] at K; rw [lo (by omega) (by omega)]; exact K
  · rw [if_pos (by omega)] at K
    refine ⟨fun y => ⟨ha, by rw [if_neg y] at K; exact K⟩, fun y => ⟨by omega, ?_⟩⟩
    rw [if_pos y] at K; rw [lo (by omega) (by omega)]; exact K
  · rw [if_neg (by omega), if_pos (by omega)] at K
    refine ⟨fun y => ⟨fun x => l110 a ha.1 ha.2 (by rw [if_neg y, if_neg x] at K; exact K), fun x => l110 p (by omega) (by omega) (by rw [if_neg y, if_pos x] at K; exact K)⟩, fun y => l110 o (by omega) (by omega) (by rw [if_pos y] at K; exact K)⟩
  · rw [if_neg (by omega), if_pos (by omega)] at K
    refine ⟨fun y => ⟨fun x => l110 a ha.1 ha.2 (by rw [if_neg y, if_neg x] at K; exact K), fun x => l110 p (by omega) (by omega) (by rw [if_neg y, if_pos x] at K; exact K)⟩, fun y => l110 o (by omega) (by omega) (by rw [if_pos y] at K; exact K)⟩
  · rw [if_neg (by omega), if_neg (by omega), if_neg (by omega), if_neg (by omega)] at K
    exact ⟨ha, K⟩
  · rw [if_neg (by omega), if_neg (by omega), if_pos (by omega)] at K
    exact ⟨fun y => ⟨ha, by rw [if_neg y] at K; exact K⟩, fun y => by rw [if_pos y] at K; exact K⟩
  · rw [if_neg (by omega), if_neg (by omega), if_pos (by omega)] at K
    exact ⟨fun y => ⟨ha, by rw [if_neg y] at K; exact K⟩, fun y => by rw [if_pos y] at K; exact K⟩
  · rw [if_neg (by omega), if_neg (by omega), if_neg (by omega), if_pos (by omega)] at K
    exact ⟨fun y => ⟨ha, by rw [if_neg y] at K; exact K⟩, fun y => by rw [if_pos y] at K; exact K⟩
  · rw [if_neg (by omega), if_neg (by omega), if_neg (by omega), if_neg (by omega)] at K
    exact ⟨ha, K⟩
theorem c_12 {d : Nat} {P : Int → qM → Prop} {M : qM} {m i a nw : Int} {ln : List Int} {t : qT} (hM : C_M M m ln) (hi : 0 ≤ i ∧ i < mst ln.length) (hat : C_at M m i t) (ok : okT nw ln t) (ha : 0 ≤ a ∧ a < ln.length) (K : P (bkA ln t a) M) : q_WP q_Pr (d + 1) 12 [.inr (.inr m), .inl i, .inl a] M P := by
  obtain ⟨k, p, o⟩ := t
  have e4 : q_nm M (m + 4) i = k := hat.1
  have e5 : q_nm M (m + 5) i = p := hat.2.1
  have e6 : q_nm M (m + 6) i = o := hat.2.2
  unfold okT at ok; dsimp only at ok
  have la := C_M_li hM ha.1 ha.2
  have lp : 0 ≤ p → p < ln.length → q_nm M (m + 1) p = li ln p := fun x y => C_M_li hM x y
  have lo : 0 ≤ o → o < ln.length → q_nm M (m + 1) o = li ln o := fun x y => C_M_li hM x y
  refine q_enter (t_12_0 hM.1 ?_)
  rw [e4, e5, e6, la]
  unfold bkA at K; dsimp only at K
  refine ⟨hi, hi, hi, ⟨fun z => ?_, fun z => ?_, fun z => ?_, fun z => ?_, trivial⟩, fun z => ?_⟩
  · rw [if_pos (by omega)] at K
    refine ⟨fun y => ⟨fun x => ⟨ha, by rw [if_neg y, if_neg x] at K; exact K⟩, fun x => ⟨by omega, ?_⟩⟩, fun y => ⟨by omega, ?_⟩⟩
    · rw [if_neg y, if_pos x] at K; rw [lp (by omega) (by omega)]; exact K
    · rw [if_pos y] at K; rw [lo (by omega) (by omega)]; exact K
  · rw [if_neg (by omega), if_pos (by omega)] at K
    exact ⟨fun y => ⟨ha, by rw [if_neg y] at K; exact K⟩, fun y => by rw [if_pos y] at K; exact K⟩
  · rw [if_neg (by omega), if_pos (by omega)] at K
    exact ⟨fun y => ⟨ha, by rw [if_neg y] at K; exact K⟩, fun y => by rw [if_pos y] at K; exact K⟩
  · rw [if_neg (by omega), if_pos (by omega)] at K
    exact ⟨fun y => ⟨ha, by rw [if_neg y] at K; exact K⟩, fun y => by rw [if_pos y] at K; exact K⟩
  · rw [if_neg (by omega), if_neg (by omega)] at K
    exact ⟨ha, K⟩
theorem c_9 {d : Nat} {P : Int → qM → Prop} {M : qM} {m nw k p o : Int} {WL : Int → List Int} {WS WE WO : Int → Int} {ln : List Int} (hM : C_M M m ln) (hW : C_W nw WL WS WE WO M) (gW : G_W nw WL WS WE WO) (g : G_L nw ln) (hk : 1 ≤ k ∧ k ≤ 8) (hp : 0 ≤ p ∧ p < ln.length) (ho : 0 ≤ o ∧ (k ≤ 4 → o < ln.length) ∧ (5 ≤ k → k ≤ 7 → o < nw)) (K1 : mayP WL WS WE ln k p o → P 1 M) (K0 : ¬ mayP WL WS WE ln k p o → P 0 M) : q_WP q_Pr (d + 3) 9 [.inr (.inr m), .inl k, .inl p, .inl o] M P := by
  have hl := hM.1.1
  have lp := li_rng g hp.1 hp.2
  have ck : ∀ w, 0 ≤ w ∧ w < nw → C_ok M WL w := fun w h => C_W_ok hW gW h.1 h.2
  have e1 := C_M_li hM hp.1 hp.2
  have e2 : k ≤ 4 → q_nm M (m + 1) o = li ln o := fun x => C_M_li hM ho.1 (ho.2.1 x)
  have l2 : k ≤ 4 → 0 ≤ li ln o ∧ li ln o < nw := fun x => li_rng g ho.1 (ho.2.1 x)
  have l80 : ∀ y : Int, (0 ≤ y ∧ y ≤ 1) → P y M → q_At q_m9 (q_WP q_Pr (d + 2)) P 80 [] [.inl y] M 0 0 := fun y h w => t_9_80 hM.1 ⟨h, w⟩
  have no : ∀ {A : Prop}, (¬ A) → (A → mayP WL WS WE ln k p o) → (mayP WL WS WE ln k p o → A) → P 0 M := fun h _ b => K0 (fun q => h (b q))
  refine q_enter (t_9_0 hM.1 ?_)
  rw [e1]
  refine ⟨hp, ⟨fun z => ⟨fun y => l80 0 (by omega) (K0 (fun q => by unfold mayP mayW at q; omega)), fun y => ⟨⟨ho.1, ho.2.1 (by omega)⟩, ?_⟩⟩, fun z => ⟨fun y => K0 (fun q => by unfold mayP mayW at q; omega), fun y => ⟨⟨ho.1, ho.2.1 (by omega)⟩, ?_⟩⟩, fun z => ⟨fun y => l80 0 (by omega) (K0 (fun q => by unfold mayP mayW at q; omega)), fun y => ⟨⟨ho.1, ho.2.1 (by omega)⟩, ?_⟩⟩, fun z => ⟨fun y => K0 (fun q => by unfold mayP mayW at q; omega), fun y => ⟨⟨ho.1, ho.2.1 (by omega)⟩, ?_⟩⟩, fun z => ?_, fun z => ?_, fun z => ?_, trivial⟩, fun z => ?_⟩
  · rw [e2 (by omega)]
    refine c_91 (WL := WL) hl (ck _ lp) (ck _ (l2 (by omega))) (fun q => ⟨hM.1, fun v => absurd v (by decide), fun _ => l80 1 (by omega) (K1 (Or.inl ⟨by omega, by omega, q⟩))⟩) (fun q => ⟨hM.1, fun _ => l80 0 (by omega) (K0 (fun v => q ?_)), fun v => absurd rfl v⟩)
    unfold mayP mayW at v
    rcases v with v | v | v | v | v
    · exact v.2.2
    · exact v.2.2
    · omega
    · omega
    · omega
  · rw [e2 (by omega)]
    refine c_91 (WL := WL) hl (ck _ lp) (ck _ (l2 (by omega))) (fun q => ⟨hM.1, fun v => absurd v (by decide), fun _ => K1 (Or.inr (Or.inl ⟨by omega, by omega, q⟩))⟩) (fun q => ⟨hM.1, fun _ => K0 (fun v => q ?_), fun v => absurd rfl v⟩)
    unfold mayP mayW at v
    rcases v with v | v | v | v | v
    · exact v.2.2
    · exact v.2.2
    · omega
    · omega
    · omega
  · rw [e2 (by omega)]
    refine c_91 (WL := WL) hl (ck _ lp) (ck _ (l2 (by omega))) (fun q => ⟨hM.1, fun v => absurd v (by decide), fun _ => l80 1 (by omega) (K1 (Or.inl ⟨by omega, by omega, q⟩))⟩) (fun q => ⟨hM.1, fun _ => l80 0 (by omega) (K0 (fun v => q ?_)), fun v => absurd rfl v⟩)
    unfold mayP mayW at v
    rcases v with v | v | v | v | v
    · exact v.2.2
    · exact v.2.2
    · omega
    · omega
    · omega
  · rw [e2 (by omega)]
    refine ⟨fun q => K0 (fun v => ?_), fun q => K1 (Or.inr (Or.inr (Or.inl ⟨z, by omega, q⟩)))⟩
    unfold mayP mayW at v
    rcases v with v | v | v | v | v
    · omega
    · omega
    · exact v.2.2 q
    · omega
    · omega
  · have ho2 : 0 ≤ o ∧ o < nw := ⟨ho.1, ho.2.2 (by omega) (by omega)⟩
    refine c_92 hl hW gW lp ho2 (fun q => ⟨hM.1, fun v => absurd v (by decide), fun _ => ?_⟩) (fun q => ⟨hM.1, fun _ => K0 (fun v => ?_), fun v => absurd rfl v⟩)
    · refine c_93 (WL := WL) hl (ck _ lp) (ck _ ho2) (fun r => ⟨hM.1, fun v => absurd v (by decide), fun _ => K1 (Or.inr (Or.inr (Or.inr (Or.inl (Or.inl ⟨z, q, r⟩)))))⟩) (fun r => ⟨hM.1, fun _ => K0 (fun v => ?_), fun v => absurd rfl v⟩)
      unfold mayP mayW at v
      rcases v with v | v | v | v | v
      · omega
      · omega
      · omega
      · rcases v with v | v | v
        · exact r v.2.2
        · omega
        · omega
      · omega
    · unfold mayP mayW at v
      rcases v with v | v | v | v | v
      · omega
      · omega
      · omega
      · rcases v with v | v | v
        · exact q v.2.1
        · omega
        · omega
      · omega
  · have ho2 : 0 ≤ o ∧ o < nw := ⟨ho.1, ho.2.2 (by omega) (by omega)⟩
    refine c_95 hl hW gW lp ho2 (fun q => ⟨hM.1, by omega, K1 (Or.inr (Or.inr (Or.inr (Or.inl (Or.inr (Or.inl ⟨z, q⟩))))))⟩) (fun q => ⟨hM.1, by omega, K0 (fun v => ?_)⟩)
    unfold mayP mayW at v
    rcases v with v | v | v | v | v
    · omega
    · omega
    · omega
    · rcases v with v | v | v
      · omega
      · exact q v.2
      · omega
    · omega
  · have ho2 : 0 ≤ o ∧ o < nw := ⟨ho.1, ho.2.2 (by omega) (by omega)⟩
    refine c_92 hl hW gW lp ho2 (fun q => ⟨hM.1, by omega, K1 (Or.inr (Or.inr (Or.inr (Or.inl (Or.inr (Or.inr ⟨z, q⟩))))))⟩) (fun q => ⟨hM.1, by omega, K0 (fun v => ?_)⟩)
    unfold mayP mayW at v
    rcases v with v | v | v | v | v
    · omega
    · omega
    · omega
    · rcases v with v | v | v
      · omega
      · omega
      · exact q v.2
    · omega
  · refine c_94 (WL := WL) hl (ck _ lp) (fun q => ⟨hM.1, by omega, K1 (Or.inr (Or.inr (Or.inr (Or.inr ⟨by omega, q⟩))))⟩) (fun q => ⟨hM.1, by omega, K0 (fun v => ?_)⟩)
    unfold mayP mayW at v
    rcases v with v | v | v | v | v
    · omega
    · omega
    · omega
    · omega
    · exact q v.2
end
