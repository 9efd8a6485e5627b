section
/-- which makings are there (and, at 4, the ear) -/
def hc (H : Int → Bool) (k : Int) : Int := if H k then 1 else 0
def cntH (H : Int → Bool) : Int := 0 + hc H 0 + hc H 1 + hc H 2 + hc H 3
def C_H (H : Int → Bool) (M : qM) : Prop := ∀ k, 0 ≤ k → k < 5 → (q_rf M 14 k = -1 ↔ H k = false)
def R_H (H : Int → Bool) (M : qM) : Prop := ∀ k, 0 ≤ k → k < 5 → (q_nm M 100 k = 0 ↔ H k = false)
theorem hc_t {H : Int → Bool} {k : Int} (h : ¬ H k = false) : hc H k = 1 := by unfold hc; rw [if_pos]; simpa using h
theorem hc_f {H : Int → Bool} {k : Int} (h : H k = false) : hc H k = 0 := by unfold hc; rw [h]; rfl
theorem hc_rng (H : Int → Bool) (k : Int) : 0 ≤ hc H k ∧ hc H k ≤ 1 := by unfold hc; split <;> omega
theorem c_137s {d : Nat} {P : Int → qM → Prop} {M : qM} {H : Int → Bool} {x y : Int} {c s : Nat} (hl : q_lay M) (hH : C_H H M) (hy : 0 ≤ y ∧ y < 4) (hx : 0 ≤ x ∧ x ≤ 100) (K : q_At q_m137 (q_WP q_Pr d) P 4 [(0, .inr (.inr 0)), (1, .inl (x + hc H y)), (2, .inl (y + 1))] [] M c s) : q_At q_m137 (q_WP q_Pr d) P 4 [(0, .inr (.inr 0)), (1, .inl x), (2, .inl y)] [] M c s := by
  refine t_137_4 hl ?_
  rw [w32_id (x := x + 1) (by omega) (by omega), w32_id (x := y + 1) (by omega) (by omega)]
  refine ⟨fun z => absurd z (by omega), fun _ => ⟨by omega, fun z => ?_, fun z => ?_⟩⟩
  · rw [hc_f ((hH y hy.1 (by omega)).mp z), Int.add_zero] at K; exact K
  · rw [hc_t (fun w => z ((hH y hy.1 (by omega)).mpr w))] at K; exact K
theorem c_137 {d : Nat} {P : Int → qM → Prop} {M : qM} {H : Int → Bool} (hl : q_lay M) (hH : C_H H M) (K : P (cntH H) M) : q_WP q_Pr (d + 1) 137 [.inr (.inr 0)] M P := by
  refine q_enter (t_137_0 hl ?_)
  have h0 := hc_rng H 0
  have h1 := hc_rng H (0 + 1)
  have h2 := hc_rng H (0 + 1 + 1)
  refine c_137s hl hH (by omega) (by omega) (c_137s hl hH (by omega) (by omega) (c_137s hl hH (by omega) (by omega) (c_137s hl hH (by omega) (by omega) (t_137_4 hl ⟨fun _ => K, fun z => absurd z (by decide)⟩))))
theorem r_166s {d : Nat} {P : Int → qM → Prop} {M : qM} {H : Int → Bool} {x y : Int} {c s : Nat} (hl : q_lay M) (hH : R_H H M) (hy : 0 ≤ y ∧ y < 4) (hx : 0 ≤ x ∧ x ≤ 100) (K : q_At q_m166 (q_WP q_Pr d) P 52 [(0, .inr (.inr 66)), (2, .inl (x + hc H y)), (3, .inl (y + 1))] [] M c s) : q_At q_m166 (q_WP q_Pr d) P 52 [(0, .inr (.inr 66)), (2, .inl x), (3, .inl y)] [] M c s := by
  refine t_166_52 hl ?_
  rw [w32_id (x := x + 1) (by omega) (by omega), w32_id (x := y + 1) (by omega) (by omega)]
  refine ⟨fun z => absurd z (by omega), fun _ => ⟨by omega, fun z => ?_, fun z => ?_⟩⟩
  · rw [hc_f ((hH y hy.1 (by omega)).mp z), Int.add_zero] at K; exact K
  · rw [hc_t (fun w => z ((hH y hy.1 (by omega)).mpr w))] at K; exact K
theorem r_166c {d : Nat} {P : Int → qM → Prop} {M : qM} {H : Int → Bool} {c s : Nat} (hl : q_lay M) (hH : R_H H M) (K : P (cntH H) M) : q_At q_m166 (q_WP q_Pr d) P 52 [(0, .inr (.inr 66)), (2, .inl 0), (3, .inl 0)] [] M c s := by
  have h0 := hc_rng H 0
  have h1 := hc_rng H (0 + 1)
  have h2 := hc_rng H (0 + 1 + 1)
  refine r_166s hl hH (by omega) (by omega) (r_166s hl hH (by omega) (by omega) (r_166s hl hH (by omega) (by omega) (r_166s hl hH (by omega) (by omega) (t_166_52 hl ⟨fun _ => K, fun z => absurd z (by decide)⟩))))
def a_has (nw nr nn : Int) (H : Int → Bool) (sd : List Int) (x : Int) : Int := if x = 0 then nw else if x = 1 then nr else if x = 2 then cntH H else if x = 3 then nn else if x = 4 then sd.length else if x = 5 then hc H 4 else -1
theorem c_101 {d : Nat} {P : Int → qM → Prop} {M : qM} {nw nr nn x : Int} {H : Int → Bool} {sd : List Int} (hl : q_lay M) (h0 : q_nm M 3 9 = nw) (h1 : q_nm M 0 3 = nr) (h2 : C_H H M) (h3 : q_nm M 21 2 = nn) (h4 : q_nm M 19 1 = sd.length) (K : P (a_has nw nr nn H sd x) M) : q_WP q_Pr (d + 2) 101 [.inr (.inr 0), .inl x] M P := by
  refine q_enter (t_101_0 hl ?_)
  rw [h0, h1, h3, h4]
  refine ⟨⟨fun z => ?_, fun z => ?_, fun z => ?_, fun z => ?_, fun z => ?_, fun z => ⟨fun y => ?_, fun y => ?_⟩, trivial⟩, fun z => ?_⟩
  · subst z; exact K
  · subst z; exact K
  · subst z; exact c_137 hl h2 ⟨hl, K⟩
  · subst z; exact K
  · subst z; exact K
  · subst z
    have e : a_has nw nr nn H sd 5 = hc H 4 := rfl
    rw [e, hc_t (fun w => y ((h2 4 (by decide) (by decide)).mpr w))] at K; exact K
  · subst z
    have e : a_has nw nr nn H sd 5 = hc H 4 := rfl
    rw [e, hc_f ((h2 4 (by decide) (by decide)).mp y)] at K; exact K
  · unfold a_has at K
    rw [if_neg (by omega), if_neg (by omega), if_neg (by omega), if_neg (by omega), if_neg (by omega), if_neg (by omega)] at K; exact K
theorem r_166 {d : Nat} {P : Int → qM → Prop} {M : qM} {nw nr nn x : Int} {H : Int → Bool} {sd : List Int} (hl : q_lay M) (h0 : q_nm M 66 33 = nw) (h1 : q_nm M 66 40 = nr) (h2 : R_H H M) (h3 : q_nm M 66 73 = nn) (h4 : q_nm M 66 71 = sd.length) (K : P (a_has nw nr nn H sd x) M) : q_WP q_Pr (d + 1) 166 [.inr (.inr 66), .inl x] M P := by
  refine q_enter (t_166_0 hl ?_)
  rw [h0, h1, h3, h4]
  refine ⟨⟨fun z => ?_, fun z => ?_, fun z => ?_, fun z => ?_, fun z => ?_, fun z => ⟨fun y => ?_, fun y => ?_⟩, trivial⟩, fun z => ?_⟩
  · subst z; exact K
  · subst z; exact K
  · subst z; exact r_166c hl h2 K
  · subst z; exact K
  · subst z; exact K
  · subst z
    have e : a_has nw nr nn H sd 5 = hc H 4 := rfl
    rw [e, hc_f ((h2 4 (by decide) (by decide)).mp y)] at K; exact K
  · subst z
    have e : a_has nw nr nn H sd 5 = hc H 4 := rfl
    rw [e, hc_t (fun w => y ((h2 4 (by decide) (by decide)).mpr w))] at K; exact K
  · unfold a_has at K
    rw [if_neg (by omega), if_neg (by omega), if_neg (by omega), if_neg (by omega), if_neg (by omega), if_neg (by omega)] at K; exact K
end
