section
/-- in lowest terms -/
def lowV (a b c : Int) : Int := if b ≤ 0 then -1 else w32 (Int.tdiv (if c = 0 then b else a) (Nat.gcd b.toNat a.toNat : Int))
theorem tmod_nat (a b : Nat) : Int.tmod (a : Int) (b : Int) = ((a % b : Nat) : Int) := by rw [Int.tmod_eq_emod_of_nonneg (by omega)]; omega
theorem gcd_step (a b : Nat) : Nat.gcd b (a % b) = Nat.gcd a b := by rw [Nat.gcd_comm a b, Nat.gcd_rec b a, Nat.gcd_comm]
theorem halve {a b f : Nat} (hb : 0 < b) (h : b ≤ a) (hf : a * b < 2 ^ (f + 1)) : b * (a % b) < 2 ^ f := by
  have m1 := Nat.mod_lt a hb
  have m2 := Nat.div_add_mod a b
  have m3 : 1 ≤ a / b := Nat.div_pos h hb
  have m4 : b * 1 ≤ b * (a / b) := Nat.mul_le_mul_left b m3
  have m5 : 2 * (a % b) ≤ a := by omega
  have m6 : b * (2 * (a % b)) ≤ b * a := Nat.mul_le_mul_left b m5
  rw [Nat.mul_comm a b, Nat.pow_succ] at hf
  rw [Nat.mul_left_comm] at m6
  omega
theorem c_144l {d : Nat} {P : Int → qM → Prop} {M : qM} {x0 x1 x2 : Int} {c s : Nat} (hl : q_lay M) : ∀ (f a b : Nat) (x5 : Int), 0 < a → b ≤ a → a * b < 2 ^ f → 0 ≤ x5 → x5 + f ≤ 63 → P (w32 (Int.tdiv (if x2 = 0 then x1 else x0) (Nat.gcd a b : Int))) M → q_At q_m144 (q_WP q_Pr d) P 14 [(0, .inl x0), (1, .inl x1), (2, .inl x2), (3, .inl (a : Int)), (4, .inl (b : Int)), (5, .inl x5)] [] M c s := by
  intro f
  induction f with
  | zero =>
    intro a b x5 ha hb hf h5 h6 K
    have e : b = 0 := by
      rcases Nat.eq_zero_or_pos b with q | q
      · exact q
      · have := Nat.mul_pos ha q; omega
    subst e
    rw [Nat.gcd_zero_right] at K
    refine t_144_14 hl ⟨fun z => absurd z (by omega), fun _ => ⟨fun _ => ⟨fun y => ⟨fun v => ⟨v, ?_⟩, fun v => absurd v (by omega)⟩, fun y => ⟨fun v => ⟨v, ?_⟩, fun v => absurd v (by omega)⟩⟩, fun z => absurd rfl z⟩⟩
    · rw [if_pos y] at K; exact K
    · rw [if_neg y] at K; exact K
  | succ f ih =>
    intro a b x5 ha hb hf h5 h6 K
    refine t_144_14 hl ⟨fun z => absurd z (by omega), fun _ => ⟨fun z => ?_, fun z => ⟨z, ?_⟩⟩⟩
    · have e : b = 0 := by omega
      subst e
      rw [Nat.gcd_zero_right] at K
      refine ⟨fun y => ⟨fun v => ⟨v, ?_⟩, fun v => absurd v (by omega)⟩, fun y => ⟨fun v => ⟨v, ?_⟩, fun v => absurd v (by omega)⟩⟩
      · rw [if_pos y] at K; exact K
      · rw [if_neg y] at K; exact K
    · have hb0 : 0 < b := by omega
      rw [tmod_nat, w32_id (x := x5 + 1) (by omega) (by omega)]
      refine ih b (a % b) (x5 + 1) hb0 (Nat.le_of_lt (Nat.mod_lt a hb0)) (halve hb0 hb hf) (by omega) (by omega) ?_
      rw [gcd_step]; exact K
theorem c_144 {d : Nat} {P : Int → qM → Prop} {M : qM} {a b x : Int} (hl : q_lay M) (ha : 0 ≤ a ∧ a ≤ b) (hb : b ≤ 640000000) (K : P (lowV a b x) M) : q_WP q_Pr (d + 1) 144 [.inl a, .inl b, .inl x] M P := by
  refine q_enter (t_144_0 hl ⟨fun z => ?_, fun z => ?_⟩)
  · unfold lowV at K
    rw [if_neg (by omega)] at K
    have r := c_144l (d := d) (P := P) (x0 := a) (x1 := b) (x2 := x) (c := 0) (s := 0) hl 59 b.toNat a.toNat 0 (by omega) (by omega) (by
      have : b.toNat * a.toNat ≤ 640000000 * 640000000 := Nat.mul_le_mul (by omega) (by omega)
      exact Nat.lt_of_le_of_lt this (by decide)) (by omega) (by omega) K
    rw [show ((b.toNat : Nat) : Int) = b by omega, show ((a.toNat : Nat) : Int) = a by omega] at r
    exact r
  · unfold lowV at K; rw [if_pos z] at K; exact K
theorem r_226l {d : Nat} {P : Int → qM → Prop} {M : qM} {c s : Nat} (hl : q_lay M) : ∀ (n b a : Nat), b ≤ n → P (Nat.gcd a b : Int) M → q_At q_m226 (q_WP q_Pr d) P 6 [(4, .inr (.inl (a : Int))), (6, .inr (.inl (b : Int)))] [] M c s := by
  intro n
  induction n with
  | zero =>
    intro b a hb K
    have e : b = 0 := by omega
    subst e
    rw [Nat.gcd_zero_right] at K
    exact t_226_6 hl ⟨fun _ => K, fun z => absurd (q_lc_pos z) (by omega)⟩
  | succ n ih =>
    intro b a hb K
    refine t_226_6 hl ⟨fun z => ?_, fun z => ?_⟩
    · have := q_lc_le z
      have e : b = 0 := by omega
      subst e
      rw [Nat.gcd_zero_right] at K; exact K
    · have := q_lc_pos z
      rw [tmod_nat]
      have m := Nat.mod_lt a (show 0 < b by omega)
      exact ⟨by omega, ih (a % b) b (by omega) (by rw [gcd_step]; exact K)⟩
theorem r_227 {d : Nat} {P : Int → qM → Prop} {M : qM} {a b x : Int} (hl : q_lay M) (ha : 0 ≤ a ∧ a ≤ b) (hb : 0 < b ∧ b ≤ 640000000) (K : P (lowV a b x) M) : q_WP q_Pr (d + 2) 227 [.inr (.inl a), .inr (.inl b), .inl x] M P := by
  unfold lowV at K
  rw [if_neg (by omega)] at K
  have gp : 0 < Nat.gcd b.toNat a.toNat := Nat.gcd_pos_of_pos_left _ (by omega)
  have rg : ∀ y : Int, 0 ≤ y → y ≤ 640000000 → w64 (Int.tdiv y (Nat.gcd b.toNat a.toNat : Int)) = Int.tdiv y (Nat.gcd b.toNat a.toNat : Int) := fun y h0 h1 => by
    rw [Int.tdiv_eq_ediv_of_nonneg h0]
    have q1 : 0 ≤ y / (Nat.gcd b.toNat a.toNat : Int) := Int.ediv_nonneg h0 (by omega)
    have q2 : y / (Nat.gcd b.toNat a.toNat : Int) ≤ y := Int.ediv_le_self _ h0
    exact w64_id (by omega) (by omega)
  refine q_enter (t_227_0 hl ?_)
  refine q_enter (t_226_0 hl ?_)
  have r := r_226l (d := d) (M := M) (c := 0) (s := 0) (P := fun v1 M2 => q_lay M2 ∧ ((x = 0 → ((v1 ≠ 0) ∧ (P (w32 (w64 (Int.tdiv b v1))) M2))) ∧ (¬ x = 0 → ((v1 ≠ 0) ∧ (P (w32 (w64 (Int.tdiv a v1))) M2))))) hl b.toNat b.toNat a.toNat (Nat.le_refl _) (by
    rw [Nat.gcd_comm]
    refine ⟨hl, fun z => ⟨by omega, ?_⟩, fun z => ⟨by omega, ?_⟩⟩
    · rw [if_pos z] at K; rw [rg b (by omega) (by omega)]; exact K
    · rw [if_neg z] at K; rw [rg a (by omega) (by omega)]; exact K)
  rw [show ((b.toNat : Nat) : Int) = b by omega, show ((a.toNat : Nat) : Int) = a by omega] at r
  exact r
theorem w_sh {W : qW} {r k : Int} {sd : List Int} {n : Nat} : 0 ≤ shT (w_wt W r k) (w_tx W r) sd n ∧ shT (w_wt W r k) (w_tx W r) sd n ≤ sumN (w_wt W r k) n := shT_rng (w_wt_rng W r k) n
theorem shT_t {w : Nat → Int} {tx : Nat → List Int} {l : List Int} {n : Nat} (h : tx n = l) : shT w tx l (n + 1) = shT w tx l n + w n := by
  show _ + (if _ then _ else _) = _; rw [if_pos h]
theorem shT_f {w : Nat → Int} {tx : Nat → List Int} {l : List Int} {n : Nat} (h : ¬ tx n = l) : shT w tx l (n + 1) = shT w tx l n := by
  show _ + (if _ then _ else _) = _; rw [if_neg h]; exact Int.add_zero _
theorem r_228l {d : Nat} {P : Int → qM → Prop} {M : qM} {W : qW} {r k x : Int} {c s : Nat} (hl : q_lay M) (g : WG W) (h : WR W M) (hr : 0 ≤ r ∧ r < w_nr W) (rd : w_rd W M r) (wt : ∀ i : Nat, i < (w_T W r).length → q_nm M 118 i = w_wt W r k i) (hp : ¬ sumN (w_wt W r k) (w_T W r).length = 0) (K : P (lowV (shT (w_wt W r k) (w_tx W r) (w_sd W) (w_T W r).length) (sumN (w_wt W r k) (w_T W r).length) x) M) : ∀ (n i : Nat), i + n = (w_T W r).length → q_At q_m228 (q_WP q_Pr (d + 2)) P 39 [(0, .inr (.inr 66)), (3, .inl x), (4, .inl (sumN (w_wt W r k) (w_T W r).length)), (5, .inl (shT (w_wt W r k) (w_tx W r) (w_sd W) i)), (6, .inl (i : Int))] [] M c s := by
  have sr := w_sum (k := k) g hr (n := (w_T W r).length) (Nat.le_refl _)
  intro n
  induction n with
  | zero =>
    intro i h0
    refine t_228_39 hl ?_
    rw [show q_nm M 66 55 = (w_T W r).length from rd.2.2.2.1, show i = (w_T W r).length by omega]
    exact ⟨fun _ => r_227 hl w_sh (by omega) ⟨hl, K⟩, fun z => absurd z (by omega)⟩
  | succ n ih =>
    intro i h0
    have tk := tk_all g hr
    have hin : i < (w_T W r).length := by omega
    have s1 := w_sh (W := W) (r := r) (k := k) (sd := w_sd W) (n := i + 1)
    have s2 := w_sum (k := k) g hr (n := i + 1) (by omega)
    refine t_228_39 hl ?_
    rw [show q_nm M 66 55 = (w_T W r).length from rd.2.2.2.1, w32_id (x := (i : Int) + 1) (by omega) (by omega), show (i : Int) + 1 = ((i + 1 : Nat) : Int) by omega]
    have nx := ih (i + 1) (by omega)
    refine ⟨fun z => absurd z (by omega), fun _ => ?_⟩
    refine r_224W hl g h hr rd hin (fun e => ⟨hl, fun q => absurd q (by decide), fun _ => ⟨by omega, ?_⟩⟩) (fun e => ⟨hl, fun _ => ?_, fun q => absurd rfl q⟩)
    · rw [wt i hin]
      rw [shT_t e] at nx s1
      rw [w32_id (by omega) (by omega)]; exact nx
    · rw [shT_f e] at nx; exact nx
theorem ok_odds' {L : Nat} {X : Int → Int} {D : Nat} : ∀ a b c : Int, q_i32 a → q_i32 b → q_i32 c → q_ok L X (INV L X) (D + 30) 113 228 [.inl a, .inl b, .inl c] := by
  intro a b c _ _ _
  refine q_okQ (fun W => cif (w_mk W b ∧ (0 ≤ a ∧ a < w_nr W)) (lowV (shT (w_wt W a b) (w_tx W a) (w_sd W) (w_T W a).length) (sumN (w_wt W a b) (w_T W a).length) c) (-1)) id (fun W g => g) (fun W M hl g h => ?_) (fun W M hl g h => ?_)
  · refine q_enter (t_113_0 hl (c_140W (d := D + 21) hl g h (fun mk hr M' f l w cx rd wt er e2 => ⟨l, fun _ => ⟨mk0 cx.1.1, ?_⟩, fun z => absurd z (by have := q_ml_ge cx.1.1; omega)⟩) (fun hn => ⟨hl, fun z => absurd rfl z, fun _ => ⟨(cif_neg hn).symm, kR_rfl hl, h⟩⟩)))
    have hm := cx.1.1
    have mk1 := mk.1
    have sr := w_sum (k := b) g hr (n := (w_T W a).length) (Nat.le_refl _)
    refine c_27W (d := D + 25) g hr cx rd (by omega) wt (spk19 l g w) ⟨l, mk0 hm, ?_⟩
    rw [mr13 hm, mk3 hm, ml3 hm, wt.2.1, cif_pos ⟨mk, hr⟩]
    exact ⟨⟨rfl, by omega, by omega⟩, c_144 (d := D + 28) l w_sh (by omega) ⟨l, rfl, kR_fr hl f, w⟩⟩
  · refine q_enter (t_228_0 (d := D + 27) hl ?_)
    rw [h.2.2.1.1]
    refine ⟨g.2.2.1.1, fun hr => ⟨fun z => ?_, fun z => ⟨(cif_neg (fun q => z ((R_mk h).mpr q.1))).symm, fr_rfl, h⟩⟩, fun hr => ⟨(cif_neg (fun q => hr q.2)).symm, fr_rfl, h⟩⟩
    have mk := (R_mk h).mp z
    refine r_215W (d := D + 22) hl g h hr mk (fun M' f l w rd wt => ⟨l, fun x => ?_, fun x => ⟨?_, f, w⟩⟩)
    · rw [cif_pos ⟨mk, hr⟩]
      exact r_228l (d := D + 27) l g w hr rd wt x ⟨rfl, f, w⟩ (w_T W a).length 0 (by omega)
    · rw [cif_pos ⟨mk, hr⟩]; unfold lowV; rw [if_pos (by omega)]
/-- what a kind has of what is said -/
noncomputable def tdT (W : qW) (r k kd : Int) (n : Nat) : Int := sumN (fun i => cif (w_tx W r i = w_sd W ∧ (w_t W r i).1 = kd) (w_wt W r k i) 0) n
theorem tdT_t {W : qW} {r k kd : Int} {n : Nat} (h : w_tx W r n = w_sd W ∧ (w_t W r n).1 = kd) : tdT W r k kd (n + 1) = tdT W r k kd n + w_wt W r k n := by
  show _ + cif _ _ _ = _; rw [cif_pos h]; rfl
theorem tdT_f {W : qW} {r k kd : Int} {n : Nat} (h : ¬ (w_tx W r n = w_sd W ∧ (w_t W r n).1 = kd)) : tdT W r k kd (n + 1) = tdT W r k kd n := by
  show _ + cif _ _ _ = _; rw [cif_neg h]; exact Int.add_zero _
theorem tdT_rng {W : qW} {r k kd : Int} : ∀ n : Nat, 0 ≤ tdT W r k kd n ∧ tdT W r k kd n ≤ shT (w_wt W r k) (w_tx W r) (w_sd W) n := by
  intro n
  induction n with
  | zero => exact ⟨Int.le_refl 0, Int.le_refl 0⟩
  | succ n ih =>
    have wr := w_wt_rng W r k n
    by_cases e : w_tx W r n = w_sd W
    · rw [shT_t e]
      by_cases e2 : (w_t W r n).1 = kd
      · rw [tdT_t ⟨e, e2⟩]; omega
      · rw [tdT_f (fun q => e2 q.2)]; omega
    · rw [shT_f e, tdT_f (fun q => e q.1)]; exact ih
theorem c_114l {d : Nat} {P : Int → qM → Prop} {M : qM} {W : qW} {m r k kd x v : Int} {c s : Nat} (hl : q_lay M) (g : WG W) (w : WC W M) (hr : 0 ≤ r ∧ r < w_nr W) (cx : w_ctx W M m r) (rd : w_rdy W M m r) (hk : 0 ≤ k ∧ k < 5) (wt : C_wt M m k (w_wt W r k) (w_tx W r) (w_T W r).length) (hf : isF (w_tx W r) (w_T W r).length (w_sd W) v) (K : P (lowV (tdT W r k kd (w_T W r).length) (shT (w_wt W r k) (w_tx W r) (w_sd W) (w_T W r).length) x) M) : ∀ (n i : Nat), i + n = (w_T W r).length → q_At q_m114 (q_WP q_Pr (d + 4)) P 39 [(0, .inr (.inr 0)), (2, .inl k), (3, .inl kd), (4, .inl x), (5, .inr (.inr m)), (6, .inl (tdT W r k kd i)), (7, .inl v), (8, .inl (i : Int))] [] M c s := by
  have hm := cx.1.1
  have q := mw hm (i := k) hk.1 hk.2
  have sr := w_sum (k := k) g hr (n := (w_T W r).length) (Nat.le_refl _)
  have sh := w_sh (W := W) (r := r) (k := k) (sd := w_sd W) (n := (w_T W r).length)
  intro n
  induction n with
  | zero =>
    intro i h0
    refine t_114_39 hl ?_
    rw [show q_nm M m 3 = (w_T W r).length from rd.1.1, show i = (w_T W r).length by omega]
    refine ⟨mk0 hm, fun _ => ⟨mk0 hm, ?_⟩, fun z => absurd z (by omega)⟩
    exact c_27W (d := d) g hr cx rd hk wt (spk19 hl g w) ⟨hl, c_144 (d := d + 3) hl (tdT_rng _) (by omega) ⟨hl, K⟩⟩
  | succ n ih =>
    intro i h0
    have tk := tk_all g hr
    have hin : i < (w_T W r).length := by omega
    have at1 := rd.1.2 i hin
    have s1 := tdT_rng (W := W) (r := r) (k := k) (kd := kd) (i + 1)
    have s2 := w_sh (W := W) (r := r) (k := k) (sd := w_sd W) (n := i + 1)
    have s3 := w_sum (k := k) g hr (n := i + 1) (by omega)
    have nx := ih (i + 1) (by omega)
    refine t_114_39 hl ?_
    rw [mr4 hm, mk4 hm, ml4 hm, mr11 hm, mk11 hm, ml11 hm, mr14 hm, mk12 hm, ml12 hm, q.1, q.2.1, q.2.2, show q_nm M m 3 = (w_T W r).length from rd.1.1, show q_nm M (m + 4) i = (w_t W r i).1 from at1.1, wt.1 i hin, w32_id (x := (i : Int) + 1) (by omega) (by omega), show (i : Int) + 1 = ((i + 1 : Nat) : Int) by omega]
    refine ⟨mk0 hm, fun z => absurd z (by omega), fun _ => ⟨mk0 hm, ⟨rfl, by omega, by omega⟩, fun z => ?_, fun z => ⟨mk0 hm, ⟨by omega, by omega, by omega⟩, fun y => ?_, fun y => ⟨mk0 hm, ⟨by omega, by omega, by omega⟩, ⟨rfl, by omega, by omega⟩, ?_⟩⟩⟩⟩
    · rw [tdT_f (fun q => z ((lead_W rd hf hin).mpr q.1))] at nx; exact nx
    · rw [tdT_f (fun q => y q.2)] at nx; exact nx
    · rw [tdT_t ⟨(lead_W rd hf hin).mp z, y⟩] at nx s1
      rw [w32_id (by omega) (by omega)]; exact nx
theorem r_229l {d : Nat} {P : Int → qM → Prop} {M : qM} {W : qW} {r k kd x : Int} {c s : Nat} (hl : q_lay M) (g : WG W) (h : WR W M) (hr : 0 ≤ r ∧ r < w_nr W) (rd : w_rd W M r) (wt : ∀ i : Nat, i < (w_T W r).length → q_nm M 118 i = w_wt W r k i) (K : P (lowV (tdT W r k kd (w_T W r).length) (shT (w_wt W r k) (w_tx W r) (w_sd W) (w_T W r).length) x) M) : ∀ (n i : Nat), i + n = (w_T W r).length → q_At q_m229 (q_WP q_Pr (d + 2)) P 42 [(0, .inr (.inr 66)), (3, .inl kd), (4, .inl x), (5, .inl (shT (w_wt W r k) (w_tx W r) (w_sd W) i)), (6, .inl (tdT W r k kd i)), (7, .inl (i : Int))] [] M c s := by
  have sr := w_sum (k := k) g hr (n := (w_T W r).length) (Nat.le_refl _)
  have sh := w_sh (W := W) (r := r) (k := k) (sd := w_sd W) (n := (w_T W r).length)
  intro n
  induction n with
  | zero =>
    intro i h0
    refine t_229_42 hl ?_
    rw [show q_nm M 66 55 = (w_T W r).length from rd.2.2.2.1, show i = (w_T W r).length by omega]
    refine ⟨fun _ => ⟨fun z => r_227 hl (tdT_rng _) (by omega) ⟨hl, K⟩, fun z => ?_⟩, fun z => absurd z (by omega)⟩
    unfold lowV at K; rw [if_pos (by omega)] at K; exact K
  | succ n ih =>
    intro i h0
    have tk := tk_all g hr
    have hin : i < (w_T W r).length := by omega
    have t1 := rd.2.2.2.2 i hin
    have s1 := tdT_rng (W := W) (r := r) (k := k) (kd := kd) (i + 1)
    have s2 := w_sh (W := W) (r := r) (k := k) (sd := w_sd W) (n := i + 1)
    have s3 := w_sum (k := k) g hr (n := i + 1) (by omega)
    refine t_229_42 hl ?_
    rw [show q_nm M 66 55 = (w_T W r).length from rd.2.2.2.1, w32_id (x := (i : Int) + 1) (by omega) (by omega), show (i : Int) + 1 = ((i + 1 : Nat) : Int) by omega]
    have nx := ih (i + 1) (by omega)
    refine ⟨fun z => absurd z (by omega), fun _ => ?_⟩
    refine r_224W hl g h hr rd hin (fun e => ⟨hl, fun _ => ⟨by omega, by omega, fun y => ?_, fun y => ⟨by omega, ?_⟩⟩, fun q => absurd q (by decide)⟩) (fun e => ⟨hl, fun q => absurd rfl q, fun _ => ?_⟩)
    · rw [show q_nm M 108 i = (w_t W r i).1 from t1.1.1] at y
      rw [wt i hin]
      rw [shT_t e] at nx s1 s2
      rw [tdT_f (fun q => y q.2)] at nx s1
      rw [w32_id (by omega) (by omega)]; exact nx
    · rw [show q_nm M 108 i = (w_t W r i).1 from t1.1.1] at y
      rw [wt i hin]
      rw [shT_t e] at nx s1 s2
      rw [tdT_t ⟨e, y⟩] at nx s1
      rw [w32_id (x := shT (w_wt W r k) (w_tx W r) (w_sd W) i + w_wt W r k i) (by omega) (by omega), w32_id (x := tdT W r k kd i + w_wt W r k i) (by omega) (by omega)]; exact nx
    · rw [shT_f e, tdT_f (fun q => e q.1)] at nx; exact nx
theorem ok_told' {L : Nat} {X : Int → Int} {D : Nat} : ∀ a b c e : Int, q_i32 a → q_i32 b → q_i32 c → q_i32 e → q_ok L X (INV L X) (D + 30) 114 229 [.inl a, .inl b, .inl c, .inl e] := by
  intro a b c e _ _ _ _
  refine q_okQ (fun W => cif ((w_mk W b ∧ (0 ≤ a ∧ a < w_nr W)) ∧ (0 ≤ c ∧ c ≤ 8)) (lowV (tdT W a b c (w_T W a).length) (shT (w_wt W a b) (w_tx W a) (w_sd W) (w_T W a).length) e) (-1)) id (fun W g => g) (fun W M hl g h => ?_) (fun W M hl g h => ?_)
  · refine q_enter (t_114_0 (d := D + 28) hl (c_140W (d := D + 21) hl g h (fun mk hr M' f l w cx rd wt er e2 => ⟨l, fun z => absurd z (by have := q_ml_ge cx.1.1; omega), fun _ => ⟨fun y => ⟨mk0 cx.1.1, ?_⟩, fun y => ⟨(cif_neg (fun q => y q.2)).symm, kR_fr hl f, w⟩⟩⟩) (fun hn => ⟨hl, fun _ => ⟨(cif_neg (fun q => hn q.1)).symm, kR_rfl hl, h⟩, fun z => absurd rfl z⟩)))
    have mk1 := mk.1
    rw [cif_pos ⟨⟨mk, hr⟩, y⟩]
    exact c_20W (d := D + 26) cx rd (spk19 l g w) (fun v hf => ⟨l, c_114l (d := D + 25) l g w hr cx rd (by omega) wt hf ⟨rfl, kR_fr hl f, w⟩ (w_T W a).length 0 (by omega)⟩)
  · refine q_enter (t_229_0 (d := D + 27) hl ?_)
    rw [h.2.2.1.1]
    refine ⟨g.2.2.1.1, fun hr => ⟨fun z => ⟨fun y => ?_, fun y => ⟨(cif_neg (fun q => y q.2)).symm, fr_rfl, h⟩⟩, fun z => ⟨(cif_neg (fun q => z ((R_mk h).mpr q.1.1))).symm, fr_rfl, h⟩⟩, fun hr => ⟨(cif_neg (fun q => hr q.1.2)).symm, fr_rfl, h⟩⟩
    have mk := (R_mk h).mp z
    rw [cif_pos ⟨⟨mk, hr⟩, y⟩]
    exact r_215W (d := D + 22) hl g h hr mk (fun M' f l w rd wt => ⟨l, r_229l (d := D + 27) l g w hr rd wt ⟨rfl, f, w⟩ (w_T W a).length 0 (by omega)⟩)
end
