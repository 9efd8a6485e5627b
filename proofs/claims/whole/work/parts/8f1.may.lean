section
theorem rk_eq {l m : List Int} (hl : lets l) (hm : lets m) : rk l = rk m ↔ l = m := ⟨rk_inj _ l m rfl hl hm, fun h => by rw [h]⟩
theorem c_91 {d : Nat} {P : Int → qM → Prop} {M : qM} {w v : Int} {WL : Int → List Int} (hl : q_lay M) (hw : C_ok M WL w) (hv : C_ok M WL v) (K1 : ons (WL w) ≠ ons (WL v) → P 1 M) (K0 : ¬ ons (WL w) ≠ ons (WL v) → P 0 M) : q_WP q_Pr (d + 1) 91 [.inr (.inr 3), .inl w, .inl v] M P := by
  refine q_enter (t_91_0 hl ?_)
  rw [hw.2.1.2.2.2.1, hv.2.1.2.2.2.1]
  exact ⟨hw.1, hv.1, fun z => K0 (fun q => q (rk_inj _ _ _ rfl (lets_ons hw.2.2.2) (lets_ons hv.2.2.2) (q_lc_z z))), fun z => K1 (fun q => q_lc_nz z (by rw [q]))⟩
def akin (WS WE : Int → Int) (w v : Int) : Prop := w ≠ v ∧ WS w = WS v ∧ WE w = WE v
theorem c_92 {d : Nat} {P : Int → qM → Prop} {M : qM} {nw w v : Int} {WL : Int → List Int} {WS WE WO : Int → Int} (hl : q_lay M) (hW : C_W nw WL WS WE WO M) (g : G_W nw WL WS WE WO) (hw : 0 ≤ w ∧ w < nw) (hv : 0 ≤ v ∧ v < nw) (K1 : akin WS WE w v → P 1 M) (K0 : ¬ akin WS WE w v → P 0 M) : q_WP q_Pr (d + 1) 92 [.inr (.inr 3), .inl w, .inl v] M P := by
  have gn := g.1
  have a := hW.2 w hw.1 hw.2
  have b := hW.2 v hv.1 hv.2
  refine q_enter (t_92_0 hl ?_)
  rw [a.2.1, b.2.1, a.2.2.1, b.2.2.1]
  exact ⟨fun z => K0 (fun q => q.1 z), fun z => ⟨by omega, by omega, fun y => K0 (fun q => y q.2.1), fun y => ⟨by omega, by omega, fun x => K0 (fun q => x q.2.2), fun x => K1 ⟨z, y, x⟩⟩⟩⟩
def blen (WL : Int → List Int) (w v : Int) : Prop := rst (WL w) ≠ rst (WL v) ∧ 0 < (joi WL w v).length
theorem c_93 {d : Nat} {P : Int → qM → Prop} {M : qM} {w v : Int} {WL : Int → List Int} (hl : q_lay M) (hw : C_ok M WL w) (hv : C_ok M WL v) (K1 : blen WL w v → P 1 M) (K0 : ¬ blen WL w v → P 0 M) : q_WP q_Pr (d + 2) 93 [.inr (.inr 3), .inl w, .inl v] M P := by
  refine q_enter (t_93_0 hl ?_)
  rw [hw.2.1.2.2.2.2, hv.2.1.2.2.2.2]
  refine ⟨hw.1, hv.1, fun z => K0 (fun q => q.1 (rk_inj _ _ _ rfl (lets_rst hw.2.2.2) (lets_rst hv.2.2.2) (q_lc_z z))), fun z => ?_⟩
  exact c_85 (WL := WL) hl (Or.inr hw) hv ⟨hl, fun y => K0 (fun q => by have := q.2; omega), fun y => K1 ⟨fun q => q_lc_nz z (by rw [q]), by omega⟩⟩
def lose (l : List Int) : Prop := 0 < onsN l ∧ onsN l < l.length
theorem c_94 {d : Nat} {P : Int → qM → Prop} {M : qM} {w : Int} {WL : Int → List Int} (hl : q_lay M) (hw : C_ok M WL w) (K1 : lose (WL w) → P 1 M) (K0 : ¬ lose (WL w) → P 0 M) : q_WP q_Pr (d + 1) 94 [.inr (.inr 3), .inl w] M P := by
  refine q_enter (t_94_0 hl ?_)
  rw [hw.2.1.2.1, hw.2.1.2.2.1]
  exact ⟨hw.1, fun z => K0 (fun q => by have := q.1; omega), fun z => ⟨hw.1, hw.1, fun y => K0 (fun q => by have := q.2; omega), fun y => K1 ⟨by omega, by omega⟩⟩⟩
/-- how far two are alike from the start -/
def pref (l m : List Int) (h : Int) : Prop := (0 ≤ h ∧ h ≤ l.length ∧ h ≤ m.length) ∧ (∀ i, 0 ≤ i → i < h → tb l i = tb m i) ∧ (h < l.length → h < m.length → tb l h ≠ tb m h)
theorem pref_uniq {l m : List Int} {h k : Int} (a : pref l m h) (b : pref l m k) : h = k := by
  have a1 := a.1
  have b1 := b.1
  rcases Int.lt_trichotomy h k with c | c | c
  · exact absurd (b.2.1 h (by omega) c) (a.2.2 (by omega) (by omega))
  · exact c
  · exact absurd (a.2.1 k (by omega) c) (b.2.2 (by omega) (by omega))
/-- alike but for one sound that is another one, or one more -/
def nearH (l m : List Int) (h : Int) : Prop := (l.length = m.length ∧ ∀ i, h < i → i < l.length → tb l i = tb m i) ∨ (l.length = m.length + 1 ∧ ∀ i, h ≤ i → i < m.length → tb l (i + 1) = tb m i) ∨ (m.length = l.length + 1 ∧ ∀ i, h ≤ i → i < l.length → tb l i = tb m (i + 1))
def near (l m : List Int) : Prop := ∃ h, pref l m h ∧ nearH l m h
theorem near_of {l m : List Int} {h : Int} (a : pref l m h) : near l m ↔ nearH l m h := by
  constructor
  · rintro ⟨k, b, c⟩; rw [pref_uniq a b]; exact c
  · intro c; exact ⟨h, a, c⟩
theorem c_95t {d : Nat} {P : Int → qM → Prop} {M : qM} {w v i0 j0 : Int} {WL : Int → List Int} {c s : Nat} (hl : q_lay M) (hw : C_ok M WL w) (hv : C_ok M WL v) (K1 : (∀ t, 0 ≤ t → i0 + t < (WL w).length → j0 + t < (WL v).length → tb (WL w) (i0 + t) = tb (WL v) (j0 + t)) → P 1 M) (K0 : ¬ (∀ t, 0 ≤ t → i0 + t < (WL w).length → j0 + t < (WL v).length → tb (WL w) (i0 + t) = tb (WL v) (j0 + t)) → P 0 M) (h0 : 0 ≤ i0 ∧ 0 ≤ j0) : ∀ (k : Nat) (y : Int), 0 ≤ y → y + k = 10 → (∀ t, 0 ≤ t → t < y → i0 + t < (WL w).length → j0 + t < (WL v).length → tb (WL w) (i0 + t) = tb (WL v) (j0 + t)) → (i0 + y ≤ 20 ∧ j0 + y ≤ 20) → q_At q_m95 (q_WP q_Pr (d + 1)) P 126 [(0, .inr (.inr 3)), (1, .inl w), (2, .inl v), (6, .inl (i0 + y)), (7, .inl (j0 + y))] [] M c s := by
  have w8' := hw.2.2.1
  have v8 := hv.2.2.1
  intro k
  induction k with
  | zero =>
    intro y a b e f
    refine t_95_126 hl ?_
    rw [hw.2.1.2.1]
    exact ⟨hw.1, fun _ => K1 (fun t p q r => e t p (by omega) q r), fun z => absurd z (by omega)⟩
  | succ k ih =>
    intro y a b e f
    refine t_95_126 hl ?_
    rw [hw.2.1.2.1, hv.2.1.2.1]
    refine ⟨hw.1, fun z => K1 (fun t p q r => e t p (by omega) q r), fun z => ⟨hv.1, fun x => K1 (fun t p q r => e t p (by omega) q r), fun x => ⟨⟨hw.1, by omega, by omega⟩, ⟨hv.1, by omega, by omega⟩, ?_⟩⟩⟩
    have e1 : q_nm M 4 (w * 8 + (i0 + y)) = tb (WL w) (i0 + y) := by rw [tb_in (by omega) (by omega)]; exact q_L_get hw.2.1.1 (by omega) (by omega)
    have e2 : q_nm M 4 (v * 8 + (j0 + y)) = tb (WL v) (j0 + y) := by rw [tb_in (by omega) (by omega)]; exact q_L_get hv.2.1.1 (by omega) (by omega)
    rw [e1, e2, w32_id (x := i0 + y + 1) (by omega) (by omega), w32_id (x := j0 + y + 1) (by omega) (by omega)]
    refine ⟨fun q => ?_, fun q => K0 (fun r => q (r y a z x))⟩
    have := ih (y + 1) (by omega) (by omega) (fun t p r1 r2 r3 => by
      by_cases et : t = y
      · rw [et]; exact q
      · exact e t p (by omega) r2 r3) (by omega)
    rw [← Int.add_assoc, ← Int.add_assoc] at this
    exact this
theorem c_95h {d : Nat} {P : Int → qM → Prop} {M : qM} {w v h i0 j0 : Int} {WL : Int → List Int} {c s : Nat} (hl : q_lay M) (hw : C_ok M WL w) (hv : C_ok M WL v) (hp : pref (WL w) (WL v) h) (K1 : near (WL w) (WL v) → P 1 M) (K0 : ¬ near (WL w) (WL v) → P 0 M)
    (hij : ((WL w).length = (WL v).length ∧ i0 = h + 1 ∧ j0 = h + 1) ∨ ((WL w).length = (WL v).length + 1 ∧ i0 = h + 1 ∧ j0 = h) ∨ ((WL v).length = (WL w).length + 1 ∧ i0 = h ∧ j0 = h + 1)) : q_At q_m95 (q_WP q_Pr (d + 1)) P 126 [(0, .inr (.inr 3)), (1, .inl w), (2, .inl v), (6, .inl i0), (7, .inl j0)] [] M c s := by
  have w8' := hw.2.2.1
  have v8 := hv.2.2.1
  have h1 := hp.1
  have key : (∀ t, 0 ≤ t → i0 + t < (WL w).length → j0 + t < (WL v).length → tb (WL w) (i0 + t) = tb (WL v) (j0 + t)) ↔ near (WL w) (WL v) := by
    rw [near_of hp]
    rcases hij with ⟨a, b, e⟩ | ⟨a, b, e⟩ | ⟨a, b, e⟩ <;> subst b <;> subst e
    · constructor
      · intro q; exact Or.inl ⟨a, fun i p r => by have := q (i - (h + 1)) (by omega) (by omega) (by omega); rwa [show h + 1 + (i - (h + 1)) = i by omega] at this⟩
      · rintro (⟨_, q⟩ | ⟨q, _⟩ | ⟨q, _⟩) t p r1 r2
        · exact q _ (by omega) (by omega)
        · omega
        · omega
    · constructor
      · intro q; exact Or.inr (Or.inl ⟨a, fun i p r => by have := q (i - j0) (by omega) (by omega) (by omega); rwa [show j0 + 1 + (i - j0) = i + 1 by omega, show j0 + (i - j0) = i by omega] at this⟩)
      · rintro (⟨q, _⟩ | ⟨_, q⟩ | ⟨q, _⟩) t p r1 r2
        · omega
        · have := q (j0 + t) (by omega) (by omega); rwa [show j0 + t + 1 = j0 + 1 + t by omega] at this
        · omega
    · constructor
      · intro q; exact Or.inr (Or.inr ⟨a, fun i p r => by have := q (i - i0) (by omega) (by omega) (by omega); rwa [show i0 + 1 + (i - i0) = i + 1 by omega, show i0 + (i - i0) = i by omega] at this⟩)
      · rintro (⟨q, _⟩ | ⟨q, _⟩ | ⟨_, q⟩) t p r1 r2
        · omega
        · omega
        · have := q (i0 + t) (by omega) (by omega); rwa [show i0 + t + 1 = i0 + 1 + t by omega] at this
  have := c_95t (d := d) (P := P) (c := c) (s := s) (i0 := i0) (j0 := j0) hl hw hv (fun q => K1 (key.mp q)) (fun q => K0 (fun r => q (key.mpr r))) (by omega) 10 0 (Int.le_refl 0) (by decide) (fun t p q => absurd p (by omega)) (by omega)
  rw [Int.add_zero, Int.add_zero] at this
  exact this
theorem c_95l {d : Nat} {P : Int → qM → Prop} {M : qM} {w v : Int} {WL : Int → List Int} {c s : Nat} (hl : q_lay M) (hw : C_ok M WL w) (hv : C_ok M WL v) (hm : ((WL w).length : Int) - (WL v).length ≤ 1 ∧ -1 ≤ ((WL w).length : Int) - (WL v).length) (K1 : near (WL w) (WL v) → P 1 M) (K0 : ¬ near (WL w) (WL v) → P 0 M) : ∀ (k : Nat) (y : Int), 0 ≤ y → y + k = min ((WL w).length : Int) (WL v).length → (∀ i, 0 ≤ i → i < y → tb (WL w) i = tb (WL v) i) → q_At q_m95 (q_WP q_Pr (d + 1)) P 66 [(0, .inr (.inr 3)), (1, .inl w), (2, .inl v), (3, .inl (((WL w).length : Int) - (WL v).length)), (4, .inl y), (5, .inl (min ((WL w).length : Int) (WL v).length))] [] M c s := by
  have w8' := hw.2.2.1
  have v8 := hv.2.2.1
  intro k
  induction k with
  | zero =>
    intro y a b e
    have hp : pref (WL w) (WL v) y := ⟨by omega, e, fun p q => by omega⟩
    refine t_95_66 hl ?_
    rw [w32_id (x := y + 1) (by omega) (by omega)]
    exact ⟨fun _ => ⟨fun z1 => ⟨fun z2 => absurd z2 (by omega), fun z2 => c_95h hl hw hv hp K1 K0 (by omega)⟩, fun z1 => ⟨fun z2 => c_95h hl hw hv hp K1 K0 (by omega), fun z2 => c_95h hl hw hv hp K1 K0 (by omega)⟩⟩, fun z => absurd z (by omega)⟩
  | succ k ih =>
    intro y a b e
    have e1 : q_nm M 4 (w * 8 + y) = tb (WL w) y := by rw [tb_in (by omega) (by omega)]; exact q_L_get hw.2.1.1 (by omega) (by omega)
    have e2 : q_nm M 4 (v * 8 + y) = tb (WL v) y := by rw [tb_in (by omega) (by omega)]; exact q_L_get hv.2.1.1 (by omega) (by omega)
    refine t_95_66 hl ?_
    rw [w32_id (x := y + 1) (by omega) (by omega), e1, e2]
    refine ⟨fun z => absurd z (by omega), fun _ => ⟨⟨hw.1, by omega, by omega⟩, ⟨hv.1, by omega, by omega⟩, fun z => ?_, fun z => ih (y + 1) (by omega) (by omega) (fun i p q => ?_)⟩⟩
    · have hp : pref (WL w) (WL v) y := ⟨by omega, e, fun _ _ => z⟩
      exact ⟨fun z1 => ⟨fun z2 => absurd z2 (by omega), fun z2 => c_95h hl hw hv hp K1 K0 (by omega)⟩, fun z1 => ⟨fun z2 => c_95h hl hw hv hp K1 K0 (by omega), fun z2 => c_95h hl hw hv hp K1 K0 (by omega)⟩⟩
    · by_cases ei : i = y
      · rw [ei]; exact z
      · exact e i p (by omega)
def nearW (WL : Int → List Int) (WS : Int → Int) (w v : Int) : Prop := w ≠ v ∧ WS w = WS v ∧ near (WL w) (WL v)
theorem near_len {l m : List Int} (h : near l m) : (l.length : Int) - m.length ≤ 1 ∧ -1 ≤ (l.length : Int) - m.length := by
  rcases h with ⟨_, _, h⟩; rcases h with ⟨h, _⟩ | ⟨h, _⟩ | ⟨h, _⟩ <;> omega
theorem c_95 {d : Nat} {P : Int → qM → Prop} {M : qM} {nw w v : Int} {WL : Int → List Int} {WS WE WO : Int → Int} (hl : q_lay M) (hW : C_W nw WL WS WE WO M) (g : G_W nw WL WS WE WO) (hw : 0 ≤ w ∧ w < nw) (hv : 0 ≤ v ∧ v < nw) (K1 : nearW WL WS w v → P 1 M) (K0 : ¬ nearW WL WS w v → P 0 M) : q_WP q_Pr (d + 2) 95 [.inr (.inr 3), .inl w, .inl v] M P := by
  have gn := g.1
  have a := hW.2 w hw.1 hw.2
  have b := hW.2 v hv.1 hv.2
  have kw := C_W_ok hW g hw.1 hw.2
  have kv := C_W_ok hW g hv.1 hv.2
  have w8' := kw.2.2.1
  have v8 := kv.2.2.1
  refine q_enter (t_95_0 hl ?_)
  rw [a.2.1, b.2.1, kw.2.1.2.1, kv.2.1.2.1, w32_id (by omega) (by omega)]
  refine ⟨by omega, by omega, fun z => K0 (fun q => q.1 z), fun z => ⟨by omega, by omega, fun y => K0 (fun q => y q.2.1), fun y => ⟨fun x => K0 (fun q => by have := near_len q.2.2; omega), fun x => ⟨fun u => ⟨by omega, by omega, ?_⟩, fun u => K0 (fun q => by have := near_len q.2.2; omega)⟩⟩⟩⟩
  exact c_95l hl kw kv ⟨u, x⟩ (fun q => K1 ⟨z, y, q⟩) (fun q => K0 (fun r => q r.2.2)) (min ((WL w).length : Int) (WL v).length).toNat 0 (Int.le_refl 0) (by omega) (fun i p q => absurd p (by omega))
end
