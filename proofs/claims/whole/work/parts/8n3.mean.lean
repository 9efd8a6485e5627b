section
noncomputable def cN (p : Nat → Prop) (n : Nat) : Int := sumN (fun i => cif (p i) 1 0) n
theorem cN_rng {p : Nat → Prop} : ∀ n : Nat, 0 ≤ cN p n ∧ cN p n ≤ n := by
  intro n
  induction n with
  | zero => exact ⟨Int.le_refl 0, Int.le_refl 0⟩
  | succ n ih =>
    have e : cN p (n + 1) = cN p n + cif (p n) 1 0 := rfl
    by_cases h : p n
    · rw [cif_pos h] at e; omega
    · rw [cif_neg h] at e; omega
theorem cN_t {p : Nat → Prop} {n : Nat} (h : p n) : cN p (n + 1) = cN p n + 1 := by
  show cN p n + cif (p n) 1 0 = _; rw [cif_pos h]
theorem cN_f {p : Nat → Prop} {n : Nat} (h : ¬ p n) : cN p (n + 1) = cN p n := by
  show cN p n + cif (p n) 1 0 = _; rw [cif_neg h]; exact Int.add_zero _
theorem cN_pos {p : Nat → Prop} : ∀ n : Nat, 0 < cN p n ↔ ∃ i, i < n ∧ p i := by
  intro n
  induction n with
  | zero => exact ⟨fun h => absurd h (by show ¬ (0 : Int) < 0; omega), fun ⟨i, h, _⟩ => absurd h (Nat.not_lt_zero i)⟩
  | succ n ih =>
    have r := cN_rng (p := p) n
    by_cases h : p n
    · rw [cN_t h]; exact ⟨fun _ => ⟨n, by omega, h⟩, fun _ => by omega⟩
    · rw [cN_f h, ih]
      exact ⟨fun ⟨i, a, b⟩ => ⟨i, by omega, b⟩, fun ⟨i, a, b⟩ => ⟨i, by
        by_cases e : i = n
        · rw [e] at b; exact absurd b h
        · omega, b⟩⟩
theorem lead_iff {tx : Nat → List Int} {N i l : Nat} {sd : List Int} {v : Int} (hl : isL tx i l) (hf : isF tx N sd v) (hi : i < N) : (l : Int) = v ↔ tx i = sd := by
  obtain ⟨l1, l2, l3⟩ := hl
  rcases hf with ⟨k, k1, k2, k3, k4⟩ | ⟨k1, k2⟩
  · constructor
    · intro e
      have ek : l = k := by omega
      rw [← l2, ek]; exact k3
    · intro e
      rcases Nat.lt_trichotomy l k with q | q | q
      · exact absurd (l2.trans e) (k4 l q)
      · omega
      · exact absurd (k3.trans e.symm) (l3 k q)
  · exact ⟨fun e => by omega, fun e => absurd e (k2 i hi)⟩
theorem shT_lead {w : Nat → Int} {tx : Nat → List Int} {N : Nat} {sd : List Int} (hf : isF tx N sd (-1)) : shT w tx sd N = 0 := by
  rcases hf with ⟨k, k1, k2, _⟩ | ⟨k1, k2⟩
  · omega
  · exact shT_zero N k2
/-- a speech that stands in a cell: what is said, or a note's -/
def spk (M : qM) (x : Int) (sd : List Int) : Prop := ∃ b, isSp M x b ∧ C_Sp x b sd M ∧ G_S sd
theorem c_20W {d : Nat} {P : Int → qM → Prop} {M : qM} {W : qW} {m r x : Int} {sd : List Int} (cx : w_ctx W M m r) (rd : w_rdy W M m r) (hs : spk M x sd) (K : ∀ v, isF (w_tx W r) (w_T W r).length sd v → P v M) : q_WP q_Pr (d + 3) 20 [.inr (.inr m), .inr (.inr x)] M P := by
  obtain ⟨b, h1, h2, h3⟩ := hs
  exact c_20 cx rd h1 h2 h3 K
theorem lead_W {W : qW} {M : qM} {m r : Int} {sd : List Int} {v : Int} (rd : w_rdy W M m r) (hf : isF (w_tx W r) (w_T W r).length sd v) {i : Nat} (hi : i < (w_T W r).length) : q_nm M (m + 11) i = v ↔ w_tx W r i = sd := by
  obtain ⟨l, a, b⟩ := rd.2.2 i hi
  rw [b]; exact lead_iff a hf hi
def kdP (W : qW) (r : Int) (sd : List Int) (k : Int) (i : Nat) : Prop := w_tx W r i = sd ∧ (k = -1 ∨ (w_t W r i).1 = k)
theorem c_21l {d : Nat} {P : Int → qM → Prop} {M : qM} {W : qW} {m r v k : Int} {sd : List Int} {c s : Nat} (g : WG W) (hr : 0 ≤ r ∧ r < w_nr W) (cx : w_ctx W M m r) (rd : w_rdy W M m r) (hf : isF (w_tx W r) (w_T W r).length sd v) (K : P (cN (kdP W r sd k) (w_T W r).length) M) : ∀ (n i : Nat), i + n = (w_T W r).length → q_At q_m21 (q_WP q_Pr d) P 5 [(0, .inr (.inr m)), (1, .inl v), (2, .inl k), (3, .inl (cN (kdP W r sd k) i)), (4, .inl (i : Int))] [] M c s := by
  intro n
  induction n with
  | zero =>
    intro i h0
    refine t_21_5 cx.1.1 ?_
    rw [show q_nm M m 3 = (w_T W r).length from rd.1.1]
    rw [← show i = (w_T W r).length by omega] at K ⊢
    exact ⟨fun _ => K, fun z => absurd z (by omega)⟩
  | succ n ih =>
    intro i h0
    have tk := tk_all g hr
    have hin : i < (w_T W r).length := by omega
    have cr := cN_rng (p := kdP W r sd k) i
    have at1 := rd.1.2 i hin
    refine t_21_5 cx.1.1 ?_
    rw [show q_nm M m 3 = (w_T W r).length from rd.1.1, show q_nm M (m + 4) i = (w_t W r i).1 from at1.1, w32_id (x := cN (kdP W r sd k) i + 1) (by omega) (by omega), w32_id (x := (i : Int) + 1) (by omega) (by omega), show (i : Int) + 1 = ((i + 1 : Nat) : Int) by omega]
    have nx := ih (i + 1) (by omega)
    refine ⟨fun z => absurd z (by omega), fun _ => ⟨by omega, fun z => ?_, fun z => ⟨fun y => ?_, fun y => ⟨by omega, fun x => ?_, fun x => ?_⟩⟩⟩⟩
    · rw [cN_f (fun q => z ((lead_W rd hf hin).mpr q.1))] at nx; exact nx
    · rw [cN_t ⟨(lead_W rd hf hin).mp z, Or.inl y⟩] at nx; exact nx
    · rw [cN_f (fun q => q.2.elim y x)] at nx; exact nx
    · rw [cN_t ⟨(lead_W rd hf hin).mp z, Or.inr x⟩] at nx; exact nx
theorem c_21W {d : Nat} {P : Int → qM → Prop} {M : qM} {W : qW} {m r v k : Int} {sd : List Int} (g : WG W) (hr : 0 ≤ r ∧ r < w_nr W) (cx : w_ctx W M m r) (rd : w_rdy W M m r) (hf : isF (w_tx W r) (w_T W r).length sd v) (K : P (cN (kdP W r sd k) (w_T W r).length) M) : q_WP q_Pr (d + 1) 21 [.inr (.inr m), .inl v, .inl k] M P :=
  q_enter (t_21_0 cx.1.1 (c_21l g hr cx rd hf K (w_T W r).length 0 (by omega)))
theorem wt_sh {W : qW} {M : qM} {m r k v : Int} {sd : List Int} (wt : C_wt M m k (w_wt W r k) (w_tx W r) (w_T W r).length) (hf : isF (w_tx W r) (w_T W r).length sd v) (h : ¬ v = -1) : (0 ≤ v ∧ v < (w_T W r).length) ∧ q_nm M (m + 19 + k) v = shT (w_wt W r k) (w_tx W r) sd (w_T W r).length := by
  rcases hf with ⟨i, k1, k2, k3, k4⟩ | ⟨k1, k2⟩
  · rw [k2]
    have q := wt.2.2 i k1 (fun j hj => by rw [k3]; exact k4 j hj)
    rw [k3] at q
    exact ⟨by omega, q⟩
  · exact absurd k1 h
theorem c_27W {d : Nat} {P : Int → qM → Prop} {M : qM} {W : qW} {m r k x : Int} {sd : List Int} (g : WG W) (hr : 0 ≤ r ∧ r < w_nr W) (cx : w_ctx W M m r) (rd : w_rdy W M m r) (hk : 0 ≤ k ∧ k < 5) (wt : C_wt M m k (w_wt W r k) (w_tx W r) (w_T W r).length) (hs : spk M x sd) (K : P (shT (w_wt W r k) (w_tx W r) sd (w_T W r).length) M) : q_WP q_Pr (d + 4) 27 [.inr (.inr m), .inr (.inr x), .inl k] M P := by
  have hm := cx.1.1
  have q := ms hm (i := k) hk.1 hk.2
  have tk := tk_all g hr
  refine q_enter (t_27_0 hm (c_20W cx rd hs (fun v hf => ⟨hm, fun z => ?_, fun z => ?_⟩)))
  · have w := wt_sh wt hf z
    rw [q.1, q.2.1, q.2.2, w.2]
    exact ⟨hk, ⟨rfl, by omega, by omega⟩, K⟩
  · rw [z] at hf
    rw [shT_lead hf] at K; exact K
theorem c_26W {d : Nat} {P : Int → qM → Prop} {M : qM} {W : qW} {m r k x : Int} {sd : List Int} (g : WG W) (hr : 0 ≤ r ∧ r < w_nr W) (cx : w_ctx W M m r) (rd : w_rdy W M m r) (hk : k = -1 ∨ ((0 ≤ k ∧ k < 5) ∧ C_wt M m k (w_wt W r k) (w_tx W r) (w_T W r).length)) (hs : spk M x sd) (K1 : (∃ i, i < (w_T W r).length ∧ w_tx W r i = sd) → (k ≠ -1 → 0 < shT (w_wt W r k) (w_tx W r) sd (w_T W r).length) → P 1 M) (K0 : ¬ ((∃ i, i < (w_T W r).length ∧ w_tx W r i = sd) ∧ (k ≠ -1 → 0 < shT (w_wt W r k) (w_tx W r) sd (w_T W r).length)) → P 0 M) : q_WP q_Pr (d + 4) 26 [.inr (.inr m), .inr (.inr x), .inl k] M P := by
  have hm := cx.1.1
  have tk := tk_all g hr
  refine q_enter (t_26_0 hm (c_20W cx rd hs (fun v hf => ⟨hm, fun z => ?_, fun z => ⟨fun y => ?_, fun y => ?_⟩⟩)))
  · refine K0 (fun q => ?_)
    obtain ⟨i, a, b⟩ := q.1
    rcases hf with ⟨k, k1, k2, _⟩ | ⟨_, k2⟩
    · omega
    · exact k2 i a b
  · rcases hf with ⟨k, k1, k2, k3, _⟩ | ⟨k1, k2⟩
    · exact K1 ⟨k, k1, k3⟩ (fun q => absurd y q)
    · exact absurd k1 z
  · obtain ⟨k5, wt⟩ := hk.resolve_left y
    have q := ms hm (i := k) k5.1 k5.2
    have w := wt_sh wt hf z
    rw [q.1, q.2.1, q.2.2, w.2]
    refine ⟨k5, ⟨rfl, by omega, by omega⟩, fun x => K0 (fun q => by have := q.2 y; omega), fun x => K1 ?_ (fun _ => x)⟩
    rcases hf with ⟨k, k1, k2, k3, _⟩ | ⟨k1, k2⟩
    · exact ⟨k, k1, k3⟩
    · exact absurd k1 z
/-- a taking's text against letters in a cell -/
theorem r_223l {d : Nat} {P : Int → qM → Prop} {M : qM} {i x o : Int} {tx sd : List Int} {c s : Nat} (hl : q_lay M) (hi : 0 ≤ i ∧ i < 640) (h1 : tx.length = sd.length) (hg : sd.length ≤ 100) (ht : q_L M 111 (104 * i) tx) (hx : q_kd M x = 14) (ho : 0 ≤ o ∧ o ≤ 100000 ∧ o + sd.length ≤ q_ln M x) (hs : q_L M x o sd) (K1 : tx = sd → P 1 M) (K0 : ¬ tx = sd → P 0 M) : ∀ (n y : Nat), y + n = sd.length → (∀ j, j < y → tx.getD j 0 = sd.getD j 0) → q_At q_m223 (q_WP q_Pr d) P 16 [(0, .inr (.inr 66)), (1, .inl i), (2, .inr (.inr x)), (3, .inl o), (4, .inl (sd.length : Int)), (5, .inl (y : Int))] [] M c s := by
  intro n
  induction n with
  | zero =>
    intro y h0 hj
    exact t_223_16 hl ⟨fun _ => K1 (list_ext h1 (fun j hh => hj j (by omega))), fun z => absurd z (by omega)⟩
  | succ n ih =>
    intro y h0 hj
    refine t_223_16 hl ?_
    rw [w32_id (x := 104 * i) (by omega) (by omega), w32_id (x := 104 * i + (y : Int)) (by omega) (by omega), w32_id (x := o + (y : Int)) (by omega) (by omega), w32_id (x := (y : Int) + 1) (by omega) (by omega), ht y (by omega), hs y (by omega)]
    refine ⟨fun z => absurd z (by omega), fun _ => ⟨by omega, ⟨hx, by omega, by omega⟩, fun z => ?_, fun z => K0 (fun q => z (by rw [q]))⟩⟩
    rw [show (y : Int) + 1 = ((y + 1 : Nat) : Int) by omega]
    refine ih (y + 1) (by omega) (fun j hh => ?_)
    by_cases e : j = y
    · rw [e]; exact z
    · exact hj j (by omega)
theorem r_223 {d : Nat} {P : Int → qM → Prop} {M : qM} {i x o : Int} {tx sd : List Int} (hl : q_lay M) (hi : 0 ≤ i ∧ i < 640) (hn : q_nm M 112 i = tx.length) (hg : sd.length ≤ 100) (ht : q_L M 111 (104 * i) tx) (hx : q_kd M x = 14) (ho : 0 ≤ o ∧ o ≤ 100000 ∧ o + sd.length ≤ q_ln M x) (hs : q_L M x o sd) (K1 : tx = sd → P 1 M) (K0 : ¬ tx = sd → P 0 M) : q_WP q_Pr (d + 1) 223 [.inr (.inr 66), .inl i, .inr (.inr x), .inl o, .inl (sd.length : Int)] M P := by
  refine q_enter (t_223_0 hl ?_)
  rw [hn]
  exact ⟨hi, fun z => r_223l hl hi (by omega) hg ht hx ho hs K1 K0 sd.length 0 (by omega) (fun j h => absurd h (Nat.not_lt_zero j)), fun z => K0 (fun q => z (by rw [q]))⟩
abbrev w_rd (W : qW) (M : qM) (r : Int) : Prop := R_rdy M (w_nw W) (w_WL W) (w_WS W) (w_WE W) (w_WO W) r (w_RL W r)
theorem r_224W {d : Nat} {P : Int → qM → Prop} {M : qM} {W : qW} {r : Int} {i : Nat} (hl : q_lay M) (g : WG W) (h : WR W M) (hr : 0 ≤ r ∧ r < w_nr W) (rd : w_rd W M r) (hi : i < (w_T W r).length) (K1 : w_tx W r i = w_sd W → P 1 M) (K0 : ¬ w_tx W r i = w_sd W → P 0 M) : q_WP q_Pr (d + 2) 224 [.inr (.inr 66), .inl (i : Int)] M P := by
  have t1 := rd.2.2.2.2 i hi
  have tk := tk_all g hr
  have tg := tx_G g hr hi
  have s := h.2.2.2.2.2.1
  have gs := g.2.2.2.1.1
  refine q_enter (t_224_0 hl ?_)
  rw [s.1]
  refine ⟨fun z => K0 (fun q => by rw [← q] at z; omega), fun z => ?_⟩
  refine r_223 (tx := w_tx W r i) (sd := w_sd W) hl (by omega) t1.2.1 gs t1.2.2.1 (lk119 hl) ⟨Int.le_refl 0, by decide, by rw [ll119 hl]; omega⟩ s.2 (fun q => ⟨hl, fun z => absurd z (by decide), fun _ => K1 q⟩) (fun q => ⟨hl, fun _ => K0 q, fun z => absurd rfl z⟩)
theorem r_236W {d : Nat} {P : Int → qM → Prop} {M : qM} {W : qW} {r j : Int} {i : Nat} (hl : q_lay M) (g : WG W) (h : WR W M) (hr : 0 ≤ r ∧ r < w_nr W) (rd : w_rd W M r) (hi : i < (w_T W r).length) (hj : 0 ≤ j ∧ j < w_nn W) (K1 : w_tx W r i = w_NL W j → P 1 M) (K0 : ¬ w_tx W r i = w_NL W j → P 0 M) : q_WP q_Pr (d + 2) 236 [.inr (.inr 66), .inl (i : Int), .inl j] M P := by
  have t1 := rd.2.2.2.2 i hi
  have tk := tk_all g hr
  have nt := h.2.2.2.2.2.2.1.2 j hj.1 hj.2
  have gn := g.2.2.2.2.1
  have gj := gn.2 j hj.1 hj.2
  have gs := gj.2.2.1
  have g1 := gn.1
  refine q_enter (t_236_0 hl ?_)
  rw [nt.2.1, w32_id (x := 104 * j) (by omega) (by omega)]
  refine ⟨by omega, ?_⟩
  exact r_223 (tx := w_tx W r i) (sd := w_NL W j) hl (by omega) t1.2.1 gs t1.2.2.1 (lk122 hl) ⟨by omega, by omega, by rw [ll122 hl]; omega⟩ nt.2.2 (fun q => ⟨hl, ⟨by decide, by decide⟩, K1 q⟩) (fun q => ⟨hl, ⟨by decide, by decide⟩, K0 q⟩)
end
