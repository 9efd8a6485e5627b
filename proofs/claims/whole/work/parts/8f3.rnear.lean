section
theorem pref_symm {l m : List Int} {h : Int} (a : pref l m h) : pref m l h := ⟨⟨a.1.1, a.1.2.2, a.1.2.1⟩, fun i p q => (a.2.1 i p q).symm, fun p q e => a.2.2 q p e.symm⟩
theorem near_symm {l m : List Int} (a : near l m) : near m l := by
  rcases a with ⟨h, p, n⟩
  refine ⟨h, pref_symm p, ?_⟩
  rcases n with ⟨e, n⟩ | ⟨e, n⟩ | ⟨e, n⟩
  · exact Or.inl ⟨e.symm, fun i a b => (n i a (by omega)).symm⟩
  · exact Or.inr (Or.inr ⟨e, fun i a b => (n i a b).symm⟩)
  · exact Or.inr (Or.inl ⟨e, fun i a b => (n i a b).symm⟩)
theorem r_195e {P : Int → qM → Prop} {M : qM} {l m : List Int} {h t : Int} (hp : pref l m h) (hlen : (l.length : Int) ≤ m.length ∧ (m.length : Int) ≤ l.length + 1) (hne : l ≠ m) (ht : 0 ≤ t ∧ t ≤ l.length - h) (hs : ∀ j, 0 ≤ j → j < t → tb l (l.length - 1 - j) = tb m (m.length - 1 - j)) (hx : t < l.length - h → tb l (l.length - 1 - t) ≠ tb m (m.length - 1 - t)) (K1 : near l m → P 1 M) (K0 : ¬ near l m → P 0 M) :
    ((¬ (l.length : Int) = m.length → ((¬ h + t = l.length → P 0 M) ∧ (h + t = l.length → P 1 M))) ∧ ((l.length : Int) = m.length → ((¬ h + t = l.length - 1 → P 0 M) ∧ (h + t = l.length - 1 → P 1 M)))) := by
  have h1 := hp.1
  rw [near_of hp] at K1 K0
  refine ⟨fun e => ⟨fun z => K0 (fun q => ?_), fun z => K1 (Or.inr (Or.inr ⟨by omega, fun i a b => ?_⟩))⟩, fun e => ⟨fun z => K0 (fun q => ?_), fun z => K1 (Or.inl ⟨by omega, fun i a b => ?_⟩)⟩⟩
  · rcases q with ⟨q, _⟩ | ⟨q, _⟩ | ⟨q1, q⟩
    · omega
    · omega
    · apply hx (by omega)
      have := q (l.length - 1 - t) (by omega) (by omega)
      rwa [show (l.length : Int) - 1 - t + 1 = m.length - 1 - t by omega] at this
  · have := hs (l.length - 1 - i) (by omega) (by omega)
    rwa [show (l.length : Int) - 1 - (l.length - 1 - i) = i by omega, show (m.length : Int) - 1 - (l.length - 1 - i) = i + 1 by omega] at this
  · rcases q with ⟨_, q⟩ | ⟨q, _⟩ | ⟨q, _⟩
    · by_cases ef : t < l.length - h
      · apply hx ef
        rw [← e]
        exact q _ (by omega) (by omega)
      · apply hne
        refine tb_ext (by omega) (fun i p r => ?_)
        by_cases ei : i < h
        · exact hp.2.1 i p ei
        · have := hs (l.length - 1 - i) (by omega) (by omega)
          rwa [show (l.length : Int) - 1 - (l.length - 1 - i) = i by omega, show (m.length : Int) - 1 - (l.length - 1 - i) = i by omega] at this
    · omega
    · omega
  · have := hs (l.length - 1 - i) (by omega) (by omega)
    rwa [show (l.length : Int) - 1 - (l.length - 1 - i) = i by omega, show (m.length : Int) - 1 - (l.length - 1 - i) = i by omega] at this
theorem r_195t {d : Nat} {P : Int → qM → Prop} {M : qM} {w v h : Int} {WL : Int → List Int} {c s : Nat} (hl : q_lay M) (hw : R_ok M WL w) (hv : R_ok M WL v) (hp : pref (WL w) (WL v) h) (hlen : ((WL w).length : Int) ≤ (WL v).length ∧ ((WL v).length : Int) ≤ (WL w).length + 1) (hne : WL w ≠ WL v) (K1 : near (WL w) (WL v) → P 1 M) (K0 : ¬ near (WL w) (WL v) → P 0 M) : ∀ (k : Nat) (t : Int), 0 ≤ t → t + k = (WL w).length - h → (∀ j, 0 ≤ j → j < t → tb (WL w) ((WL w).length - 1 - j) = tb (WL v) ((WL v).length - 1 - j)) → q_At q_m195 (q_WP q_Pr d) P 114 [(0, .inr (.inr 66)), (3, .inl w), (4, .inl v), (5, .inl h), (6, .inl t)] [] M c s := by
  have w8' := hw.2.2.1
  have w1 := hw.1
  have v8 := hv.2.2.1
  have v1 := hv.1
  have h1 := hp.1
  intro k
  induction k with
  | zero =>
    intro t h0 ht hs
    refine t_195_114 hl ?_
    rw [hw.2.1.2.1, hv.2.1.2.1, w32_id (x := ((WL w).length : Int) - h) (by omega) (by omega), w32_id (x := h + t) (by omega) (by omega), w32_id (x := ((WL w).length : Int) - 1) (by omega) (by omega)]
    have fin := r_195e (P := P) (M := M) hp hlen hne (t := t) (by omega) hs (fun z => absurd z (by omega)) K1 K0
    exact ⟨w1, fun _ => ⟨w1, v1, fun z => ⟨w1, fin.1 z⟩, fun z => ⟨w1, fin.2 z⟩⟩, fun z => absurd z (by omega)⟩
  | succ k ih =>
    intro t h0 ht hs
    refine t_195_114 hl ?_
    have e1 : q_nm M 92 (8 * w + (WL w).length - 1 - t) = tb (WL w) ((WL w).length - 1 - t) := by
      rw [tb_in (by omega) (by omega), show 8 * w + ((WL w).length : Int) - 1 - t = 8 * w + ((WL w).length - 1 - t) by omega]; exact q_L_get hw.2.1.1 (by omega) (by omega)
    have e2 : q_nm M 92 (8 * v + (WL v).length - 1 - t) = tb (WL v) ((WL v).length - 1 - t) := by
      rw [tb_in (by omega) (by omega), show 8 * v + ((WL v).length : Int) - 1 - t = 8 * v + ((WL v).length - 1 - t) by omega]; exact q_L_get hv.2.1.1 (by omega) (by omega)
    rw [hw.2.1.2.1, hv.2.1.2.1, w32_id (x := ((WL w).length : Int) - h) (by omega) (by omega), w32_id (x := h + t) (by omega) (by omega), w32_id (x := ((WL w).length : Int) - 1) (by omega) (by omega), w32_id (x := 8 * w) (by omega) (by omega), w32_id (x := 8 * v) (by omega) (by omega), w32_id (x := 8 * w + (WL w).length) (by omega) (by omega), w32_id (x := 8 * v + (WL v).length) (by omega) (by omega), w32_id (x := 8 * w + (WL w).length - 1) (by omega) (by omega), w32_id (x := 8 * v + (WL v).length - 1) (by omega) (by omega), w32_id (x := 8 * w + (WL w).length - 1 - t) (by omega) (by omega), w32_id (x := 8 * v + (WL v).length - 1 - t) (by omega) (by omega), w32_id (x := t + 1) (by omega) (by omega), e1, e2]
    refine ⟨w1, fun z => absurd z (by omega), fun _ => ⟨w1, by omega, v1, by omega, fun z => ?_, fun z => ih (t + 1) (by omega) (by omega) (fun j p q => ?_)⟩⟩
    · have fin := r_195e (P := P) (M := M) hp hlen hne (t := t) (by omega) hs (fun _ => z) K1 K0
      exact ⟨w1, v1, fun z => ⟨w1, fin.1 z⟩, fun z => ⟨w1, fin.2 z⟩⟩
    · by_cases ej : j = t
      · rw [ej]; exact z
      · exact hs j p (by omega)
theorem r_195h {d : Nat} {P : Int → qM → Prop} {M : qM} {w v : Int} {WL : Int → List Int} {c s : Nat} (hl : q_lay M) (hw : R_ok M WL w) (hv : R_ok M WL v) (hlen : ((WL w).length : Int) ≤ (WL v).length ∧ ((WL v).length : Int) ≤ (WL w).length + 1) (hne : WL w ≠ WL v) (K1 : near (WL w) (WL v) → P 1 M) (K0 : ¬ near (WL w) (WL v) → P 0 M) : ∀ (k : Nat) (y : Int), 0 ≤ y → y + k = (WL w).length → (∀ i, 0 ≤ i → i < y → tb (WL w) i = tb (WL v) i) → q_At q_m195 (q_WP q_Pr d) P 66 [(0, .inr (.inr 66)), (3, .inl w), (4, .inl v), (5, .inl y)] [] M c s := by
  have w8' := hw.2.2.1
  have w1 := hw.1
  have v8 := hv.2.2.1
  have v1 := hv.1
  intro k
  induction k with
  | zero =>
    intro y a b e
    have hp : pref (WL w) (WL v) y := ⟨by omega, e, fun p q => by omega⟩
    refine t_195_66 hl ?_
    rw [hw.2.1.2.1]
    exact ⟨w1, fun _ => r_195t hl hw hv hp hlen hne K1 K0 ((WL w).length - y).toNat 0 (Int.le_refl 0) (by omega) (fun j p q => absurd p (by omega)), fun z => absurd z (by omega)⟩
  | succ k ih =>
    intro y a b e
    have e1 : q_nm M 92 (8 * w + y) = tb (WL w) y := by rw [tb_in (by omega) (by omega)]; exact q_L_get hw.2.1.1 (by omega) (by omega)
    have e2 : q_nm M 92 (8 * v + y) = tb (WL v) y := by rw [tb_in (by omega) (by omega)]; exact q_L_get hv.2.1.1 (by omega) (by omega)
    refine t_195_66 hl ?_
    rw [hw.2.1.2.1, w32_id (x := 8 * w) (by omega) (by omega), w32_id (x := 8 * v) (by omega) (by omega), w32_id (x := 8 * w + y) (by omega) (by omega), w32_id (x := 8 * v + y) (by omega) (by omega), w32_id (x := y + 1) (by omega) (by omega), e1, e2]
    refine ⟨w1, fun z => absurd z (by omega), fun _ => ⟨by omega, by omega, fun z => ?_, fun z => ih (y + 1) (by omega) (by omega) (fun i p q => ?_)⟩⟩
    · have hp : pref (WL w) (WL v) y := ⟨by omega, e, fun _ _ => z⟩
      exact r_195t hl hw hv hp hlen hne K1 K0 ((WL w).length - y).toNat 0 (Int.le_refl 0) (by omega) (fun j p q => absurd p (by omega))
    · by_cases ei : i = y
      · rw [ei]; exact z
      · exact e i p (by omega)
theorem r_195 {d : Nat} {P : Int → qM → Prop} {M : qM} {w v : Int} {WL : Int → List Int} (hl : q_lay M) (hw : R_ok M WL w) (hv : R_ok M WL v) (hne : WL w ≠ WL v) (K1 : near (WL w) (WL v) → P 1 M) (K0 : ¬ near (WL w) (WL v) → P 0 M) : q_WP q_Pr (d + 1) 195 [.inr (.inr 66), .inl w, .inl v] M P := by
  have w8' := hw.2.2.1
  have w1 := hw.1
  have v8 := hv.2.2.1
  have v1 := hv.1
  refine q_enter (t_195_0 hl ?_)
  rw [hw.2.1.2.1, hv.2.1.2.1, w32_id (x := ((WL w).length : Int) - (WL v).length) (by omega) (by omega), w32_id (x := ((WL v).length : Int) - (WL w).length) (by omega) (by omega)]
  refine ⟨w1, v1, fun z => ⟨w1, v1, fun _ => ⟨w1, v1, fun x => ?_, fun x => K0 (fun q => by have := near_len q; omega)⟩, fun x => absurd x (by omega)⟩, fun z => ⟨w1, v1, fun x => absurd x (by omega), fun _ => ⟨v1, w1, fun x => ?_, fun x => K0 (fun q => by have := near_len q; omega)⟩⟩⟩
  · exact r_195h hl hv hw (by omega) (fun e => hne e.symm) (fun q => K1 (near_symm q)) (fun q => K0 (fun r => q (near_symm r))) (WL v).length 0 (Int.le_refl 0) (by omega) (fun i p q => absurd p (by omega))
  · exact r_195h hl hw hv (by omega) hne K1 K0 (WL w).length 0 (Int.le_refl 0) (by omega) (fun i p q => absurd p (by omega))
end
