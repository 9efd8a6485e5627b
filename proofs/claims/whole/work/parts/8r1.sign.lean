section
/-- at a, the last word or number ended at e, no fault yet -/
def R_go (tp : List Int) (a : Nat) (e : Int) (M : qM) : Prop := R_rd tp a M ∧ q_nm M 66 4 = e ∧ (q_nm M 66 5 = 0 ∧ q_nm M 66 6 = -1)
/-- a fault of a kind at a place -/
def R_bad (k p : Int) (M : qM) : Prop := q_nm M 66 5 = k ∧ q_nm M 66 6 = p
def Zt : Int → Int → Prop := fun a j => a = 66 ∧ (j = 2 ∨ j = 4 ∨ j = 5 ∨ j = 6)
theorem R_go_look {tp : List Int} {a b : Nat} {e : Int} {M M' : qM} (h : R_go tp a e M) (f : fr (fun a j => a = 66 ∧ j = 2) M M') (r : R_rd tp b M') : R_go tp b e M' := ⟨r, (f.2 _ _ (by omega)).trans h.2.1, ⟨(f.2 _ _ (by omega)).trans h.2.2.1, (f.2 _ _ (by omega)).trans h.2.2.2⟩⟩
theorem r_149 {d : Nat} {P : Int → qM → Prop} {k p : Int} {M : qM} (hl : q_lay M) (h : q_nm M 66 5 = 0) (K : ∀ M', fr Zt M M' → q_lay M' → R_bad k p M' → P 0 M') : q_WP q_Pr (d + 1) 149 [.inr (.inr 66), .inl k, .inl p] M P := by
  refine q_enter (t_149_0 hl ⟨fun _ M1 e1 l1 M2 e2 l2 => ?_, fun z => absurd h z⟩)
  exact K M2 (fr_trans (fr_wn e1 ⟨rfl, by omega⟩) (fr_wn e2 ⟨rfl, by omega⟩)) l2 ⟨by rw [wn_ne e2 (by omega), wn_eq e1], wn_eq e2⟩
theorem r_156 {d : Nat} {P : Int → qM → Prop} {tp : List Int} {a : Nat} {e x : Int} {M : qM} (hl : q_lay M) (h : R_go tp a e M) (hx : 0 ≤ x) (K1 : tb tp (skp tp a) = x → ∀ M', fr Zt M M' → q_lay M' → R_go tp (skp tp a + 1) e M' → P 1 M') (K0 : ¬ tb tp (skp tp a) = x → ∀ M', fr Zt M M' → q_lay M' → R_go tp (skp tp a) e M' → P 0 M') : q_WP q_Pr (d + 2) 156 [.inr (.inr 66), .inl x] M P := by
  refine q_enter (t_156_0 hl ⟨fun z => absurd h.2.2.1 z, fun _ => r_152 hl h.1 (fun M2 f2 r2 => ?_)⟩)
  have l2 := fr_lay f2 hl
  have g2 := R_go_look h f2 r2
  have fz : fr Zt M M2 := fr_mono f2 (fun a j q => ⟨q.1, by omega⟩)
  refine ⟨l2, fun z M3 e3 l3 => ?_, fun z => K0 z M2 fz l2 g2⟩
  rw [r2.2.2.1] at e3
  have lt : skp tp a < tp.length := by
    rcases Nat.lt_or_ge (skp tp a) tp.length with q | q
    · exact q
    · rw [tb_out (by omega)] at z; omega
  have h5 := r2.2.2.2.2
  rw [w32_id (x := ((skp tp a : Nat) : Int) + 1) (by omega) (by omega)] at e3
  exact K1 z M3 (fr_trans fz (fr_wn e3 ⟨rfl, by omega⟩)) l3 ⟨⟨(wn_ne e3 (by omega)).trans r2.1, q_L_fr r2.2.1 (fun j _ _ => wn_ne e3 (by omega)), by rw [wn_eq e3]; omega, by omega, h5⟩, (wn_ne e3 (by omega)).trans g2.2.1, ⟨(wn_ne e3 (by omega)).trans g2.2.2.1, (wn_ne e3 (by omega)).trans g2.2.2.2⟩⟩
theorem r_157 {d : Nat} {P : Int → qM → Prop} {tp : List Int} {a : Nat} {e x : Int} {M : qM} (hl : q_lay M) (h : R_go tp a e M) (hx : 0 ≤ x) (K1 : tb tp (skp tp a) = x → ∀ M', fr Zt M M' → q_lay M' → R_go tp (skp tp a + 1) e M' → P 0 M') (K0 : ¬ tb tp (skp tp a) = x → ∀ M', fr Zt M M' → q_lay M' → R_bad 1 (skp tp a) M' → P 0 M') : q_WP q_Pr (d + 3) 157 [.inr (.inr 66), .inl x] M P := by
  refine q_enter (t_157_0 hl ⟨fun z => absurd h.2.2.1 z, fun _ => r_156 (d := d) hl h hx (fun q M2 f2 l2 g2 => ⟨l2, fun _ => K1 q M2 f2 l2 g2, fun z => absurd z (by decide)⟩) (fun q M2 f2 l2 g2 => ⟨l2, fun z => absurd rfl z, fun _ => ?_⟩)⟩)
  rw [g2.1.2.2.1]
  exact r_149 (d := d + 1) l2 g2.2.2.1 (fun M4 f4 l4 b4 => ⟨l4, K0 q M4 (fr_trans f2 f4) l4 b4⟩)
end
