section
/-! THE COMPONENT'S READER: its cells, its states, its small steps -/
def rd_lay (M : qM) (r n : Int) : Prop := 126 ≤ r ∧ (q_kd M r = 4 ∧ q_rf M r 0 = r + 1 ∧ q_rf M r 3 = r + 7) ∧ (s_lay M (r + 1) ∧ q_ln M (r + 1 + 5) = n) ∧ tk_lay M (r + 7) n
theorem rd_fr {Z : Int → Int → Prop} {M M' : qM} {r n : Int} (h : rd_lay M r n) (f : fr Z M M') : rd_lay M' r n :=
  ⟨h.1, ⟨(fr_kd f _).trans h.2.1.1, (fr_rf f _ _).trans h.2.1.2.1, (fr_rf f _ _).trans h.2.1.2.2⟩, ⟨s_lay_fr h.2.2.1.1 f, (fr_ln f _).trans h.2.2.1.2⟩, tk_fr h.2.2.2 f⟩
def Zd (r : Int) : Int → Int → Prop := fun a j => (a = r ∧ (j = 1 ∨ j = 4 ∨ j = 5)) ∨ (a = r + 1 ∧ j = 1) ∨ a = r + 1 + 5
def yN (tp : List Int) (n : Nat) : Prop := n ≤ tp.length ∧ (yT tp n = -1 ∨ yT tp n = -2) ∧ ∀ j, j < n → (yT tp j ≠ -1 ∧ yT tp j ≠ -2)
/-- the tokens are there -/
def C_tx (tp : List Int) (r : Int) (n : Nat) (M : qM) : Prop := rd_lay M r tp.length ∧ A_tk tp (r + 7) (n + 1) M ∧ q_nm M (r + 7) 3 = (n : Int) + 1 ∧ yN tp n ∧ tp.length ≤ 2100
theorem C_tx_fr {tp : List Int} {r : Int} {n : Nat} {M M' : qM} (h : C_tx tp r n M) (f : fr (Zd r) M M') : C_tx tp r n M' :=
  ⟨rd_fr h.1 f, fun j hj => by
    obtain ⟨a, b⟩ := h.2.1 j hj
    exact ⟨(f.2 _ _ (by unfold Zd; omega)).trans a, (f.2 _ _ (by unfold Zd; omega)).trans b⟩, (f.2 _ _ (by unfold Zd; omega)).trans h.2.2.1, h.2.2.2⟩
/-- it reads: at token i, with code C -/
def C_go (tp : List Int) (r : Int) (n : Nat) (i : Nat) (C : List Int) (M : qM) : Prop := C_tx tp r n M ∧ q_nm M r 1 = 0 ∧ q_nm M r 4 = i ∧ q_nm M r 5 = yT tp i ∧ i ≤ n ∧ q_nm M (r + 1) 1 = C.length ∧ q_L M (r + 1 + 5) 0 C
/-- it has failed, or stands at a bad token -/
def C_bd (tp : List Int) (r : Int) (n : Nat) (k : Int) (i : Nat) (M : qM) : Prop := C_tx tp r n M ∧ (q_nm M r 1 = k ∨ (q_nm M r 1 = 0 ∧ k = 1)) ∧ q_nm M r 4 = i ∧ q_nm M r 5 = -2 ∧ i ≤ n ∧ 0 ≤ q_nm M (r + 1) 1 ∧ k ≠ 0
def C_po (tp : List Int) (r : Int) (n : Nat) (C : List Int) (res : gR) (M : qM) : Prop := match res with
  | .inl x => C_go tp r n x.1 (C ++ x.2) M
  | .inr f => C_bd tp r n f.1 f.2 M
theorem C_po_tx {tp : List Int} {r : Int} {n : Nat} {C : List Int} {res : gR} {M : qM} (h : C_po tp r n C res M) : C_tx tp r n M := by
  cases res with
  | inl x => exact h.1
  | inr f => exact h.1
theorem C_po_k {tp : List Int} {r : Int} {n : Nat} {C : List Int} {res : gR} {M : qM} (h : C_po tp r n C res M) : q_kd M r = 4 := (C_po_tx h).1.2.1.1
theorem C_po_s {tp : List Int} {r : Int} {n : Nat} {C : List Int} {res : gR} {M : qM} (h : C_po tp r n C res M) : q_rf M r 0 = r + 1 ∧ q_kd M (r + 1) = 5 := ⟨(C_po_tx h).1.2.1.2.1, (C_po_tx h).1.2.2.1.1.2.1⟩
theorem C_go_po {tp : List Int} {r : Int} {n i : Nat} {C : List Int} {M : qM} (h : C_go tp r n i C M) : C_po tp r n C (.inl (i, [])) M := by
  show C_go tp r n i (C ++ []) M
  rw [List.append_nil]; exact h
theorem C_go_bd {tp : List Int} {r : Int} {n i : Nat} {C : List Int} {M : qM} (h : C_go tp r n i C M) (e : yT tp i = -2) : C_bd tp r n 1 i M :=
  ⟨h.1, Or.inr ⟨h.2.1, rfl⟩, h.2.2.1, h.2.2.2.1.trans e, h.2.2.2.2.1, by rw [h.2.2.2.2.2.1]; omega, by decide⟩
/-- the token at hand -/
theorem C_bd_t {tp : List Int} {r : Int} {n i : Nat} {k : Int} {M : qM} (h : C_bd tp r n k i M) : q_nm M r 5 = -2 := h.2.2.2.1
theorem C_42 {d : Nat} {P : Int → qM → Prop} {tp : List Int} {r : Int} {n i : Nat} {k : Int} {C : List Int} {M : qM} (h : C_go tp r n i C M) (hk : k ≠ 0) (K : ∀ M', fr (Zd r) M M' → C_bd tp r n k i M' → q_nm M' r 1 = k → P 0 M') : q_WP q_Pr (d + 1) 42 [.inr (.inr r), .inl k] M P := by
  refine q_enter (s_42_0 ?_)
  rw [h.1.1.2.1.1]
  refine ⟨rfl, fun z => absurd h.2.1 z, fun _ => ⟨rfl, ?_⟩⟩
  intro N1
  obtain ⟨M1, e1⟩ : ∃ x, x = N1 := ⟨_, rfl⟩
  rw [← e1]
  have f1 : fr (Zd r) M M1 := fr_wn e1 (by unfold Zd; omega)
  refine ⟨(rd_fr h.1.1 f1).2.1.1, ?_⟩
  intro N2
  obtain ⟨M2, e2⟩ : ∃ x, x = N2 := ⟨_, rfl⟩
  rw [← e2]
  have f2 : fr (Zd r) M M2 := fr_trans f1 (fr_wn e2 (by unfold Zd; omega))
  have v1 : q_nm M2 r 1 = k := by rw [wn_ne e2 (by omega), wn_eq e1]
  exact K M2 f2 ⟨C_tx_fr h.1 f2, Or.inl v1, by rw [wn_ne e2 (by omega), wn_ne e1 (by omega)]; exact h.2.2.1, wn_eq e2, h.2.2.2.2.1, by rw [wn_ne e2 (by omega), wn_ne e1 (by omega), h.2.2.2.2.2.1]; omega, hk⟩ v1
theorem C_42b {d : Nat} {P : Int → qM → Prop} {tp : List Int} {r : Int} {n i : Nat} {k : Int} {M : qM} (h : C_bd tp r n k i M) (K : ∀ M', fr (Zd r) M M' → C_bd tp r n k i M' → q_nm M' r 1 = k → P 0 M') : q_WP q_Pr (d + 1) 42 [.inr (.inr r), .inl 1] M P := by
  refine q_enter (s_42_0 ?_)
  rw [h.1.1.2.1.1]
  refine ⟨rfl, fun z => ⟨rfl, ?_⟩, fun z => ⟨rfl, ?_⟩⟩
  · intro N1
    obtain ⟨M1, e1⟩ : ∃ x, x = N1 := ⟨_, rfl⟩
    rw [← e1]
    have f1 : fr (Zd r) M M1 := fr_wn e1 (by unfold Zd; omega)
    have v1 : q_nm M1 r 1 = k := by
      rw [wn_ne e1 (by omega)]
      rcases h.2.1 with q | q
      · exact q
      · exact absurd q.1 z
    exact K M1 f1 ⟨C_tx_fr h.1 f1, Or.inl v1, by rw [wn_ne e1 (by omega)]; exact h.2.2.1, wn_eq e1, h.2.2.2.2.1, by rw [wn_ne e1 (by omega)]; exact h.2.2.2.2.2.1, h.2.2.2.2.2.2⟩ v1
  · intro N1
    obtain ⟨M1, e1⟩ : ∃ x, x = N1 := ⟨_, rfl⟩
    rw [← e1]
    have f1 : fr (Zd r) M M1 := fr_wn e1 (by unfold Zd; omega)
    refine ⟨(rd_fr h.1.1 f1).2.1.1, ?_⟩
    intro N2
    obtain ⟨M2, e2⟩ : ∃ x, x = N2 := ⟨_, rfl⟩
    rw [← e2]
    have f2 : fr (Zd r) M M2 := fr_trans f1 (fr_wn e2 (by unfold Zd; omega))
    have k1 : k = 1 := by
      rcases h.2.1 with q | q
      · exact absurd (q.symm.trans z) h.2.2.2.2.2.2
      · exact q.2
    have v1 : q_nm M2 r 1 = k := by rw [wn_ne e2 (by omega), wn_eq e1]; exact k1.symm
    exact K M2 f2 ⟨C_tx_fr h.1 f2, Or.inl v1, by rw [wn_ne e2 (by omega), wn_ne e1 (by omega)]; exact h.2.2.1, wn_eq e2, h.2.2.2.2.1, by rw [wn_ne e2 (by omega), wn_ne e1 (by omega)]; exact h.2.2.2.2.2.1, h.2.2.2.2.2.2⟩ v1
theorem C_43 {d : Nat} {P : Int → qM → Prop} {tp : List Int} {r : Int} {n i : Nat} {C : List Int} {M : qM} (h : C_go tp r n i C M) (h1 : yT tp i ≠ -1) (h2 : yT tp i ≠ -2) (K : ∀ M', fr (Zd r) M M' → C_go tp r n (i + 1) C M' → P 0 M') : q_WP q_Pr (d + 1) 43 [.inr (.inr r)] M P := by
  have hi : i < n := by
    rcases Nat.lt_or_ge i n with q | q
    · exact q
    · have e : i = n := by have := h.2.2.2.2.1; omega
      rw [e] at h1 h2
      rcases h.1.2.2.2.1.2.1 with q | q
      · exact absurd q h1
      · exact absurd q h2
  have hn := h.1.2.2.2.1.1
  have h5 := h.1.2.2.2.2
  have tk := h.1.1.2.2.2
  refine q_enter (s_43_0 ?_)
  rw [h.1.1.2.1.1, h.1.1.2.1.2.2, tk.2.2.1, h.1.2.2.1, h.2.2.1, w32_id (x := (i : Int) + 1) (by omega) (by omega)]
  refine ⟨rfl, rfl, rfl, fun z => absurd z (by omega), fun _ => ⟨rfl, rfl, ?_⟩⟩
  intro N1
  obtain ⟨M1, e1⟩ : ∃ x, x = N1 := ⟨_, rfl⟩
  rw [← e1]
  have f1 : fr (Zd r) M M1 := fr_wn e1 (by unfold Zd; omega)
  have t1 := C_tx_fr h.1 f1
  have tk1 := t1.1.2.2.2
  rw [t1.1.2.1.1, t1.1.2.1.2.2, tk1.2.2.1, tk1.2.2.2.1.2.1, tk1.2.2.2.2.1.1, tk1.2.2.2.2.1.2, wn_eq e1]
  refine ⟨rfl, rfl, rfl, ⟨rfl, by omega, by omega⟩, rfl, ?_⟩
  intro N2
  obtain ⟨M2, e2⟩ : ∃ x, x = N2 := ⟨_, rfl⟩
  rw [← e2]
  have f2 : fr (Zd r) M M2 := fr_trans f1 (fr_wn e2 (by unfold Zd; omega))
  have tv : q_nm M1 (r + 7 + 1) ((i : Int) + 1) = yT tp (i + 1) := (t1.2.1 (i + 1) (by omega)).1
  replace e2 : M2 = q_wn M1 r 5 (q_nm M1 (r + 7 + 1) ((i : Int) + 1)) := e2
  rw [tv] at e2
  refine K M2 f2 ⟨C_tx_fr h.1 f2, ?_, ?_, wn_eq e2, by omega, ?_, q_L_fr h.2.2.2.2.2.2 (fun j _ _ => ?_)⟩
  · rw [wn_ne e2 (by omega), wn_ne e1 (by omega)]; exact h.2.1
  · rw [wn_ne e2 (by omega), wn_eq e1]; omega
  · rw [wn_ne e2 (by omega), wn_ne e1 (by omega)]; exact h.2.2.2.2.2.1
  · rw [wn_ne e2 (by omega), wn_ne e1 (by omega)]
/-- a step of the code -/
theorem C_54 {d : Nat} {P : Int → qM → Prop} {tp : List Int} {r x : Int} {n : Nat} {C : List Int} {res : gR} {M : qM} (h : C_po tp r n C res M) (hb : ∀ j c, res = .inl (j, c) → (C ++ c).length < tp.length) (K : ∀ M', fr (Zd r) M M' → C_po tp r n C (gB res fun j c => .inl (j, c ++ [x])) M' → P 0 M') : q_WP q_Pr (d + 1) 54 [.inr (.inr (r + 1)), .inl x] M P := by
  have tx := C_po_tx h
  have sl := tx.1.2.2.1
  have h5 := tx.2.2.2.2
  refine q_enter (s_54_0 ?_)
  rw [sl.1.2.1, sl.1.2.2.2.2.2.2.1, sl.1.2.2.2.2.2.2.2.1, sl.2]
  have go : (∀ j c, res = .inl (j, c) → q_nm M (r + 1) 1 = (C ++ c).length) → (∀ k q, res = .inr (k, q) → 0 ≤ q_nm M (r + 1) 1) → 0 ≤ q_nm M (r + 1) 1 → q_nm M (r + 1) 1 < (tp.length : Int) → ∀ M1 M2 : qM, M1 = q_wn M (r + 1 + 5) (q_nm M (r + 1) 1) x → M2 = q_wn M1 (r + 1) 1 (w32 (q_nm M1 (r + 1) 1 + 1)) → P 0 M2 := fun a1 a2 a0 a3 M1 M2 e1 e2 => by
    have f1 : fr (Zd r) M M1 := fr_wn e1 (by unfold Zd; omega)
    have f2 : fr (Zd r) M M2 := fr_trans f1 (fr_wn e2 (by unfold Zd; omega))
    rw [wn_ne e1 (by omega), w32_id (x := q_nm M (r + 1) 1 + 1) (by omega) (by omega)] at e2
    refine K M2 f2 ?_
    cases res with
    | inl y =>
      have l := a1 y.1 y.2 rfl
      have hh : C_go tp r n y.1 (C ++ y.2) M := h
      show C_go tp r n y.1 (C ++ (y.2 ++ [x])) M2
      rw [← List.append_assoc]
      rw [l] at e1 e2
      refine ⟨C_tx_fr tx f2, ?_, ?_, ?_, hh.2.2.2.2.1, ?_, ?_⟩
      · rw [wn_ne e2 (by omega), wn_ne e1 (by omega)]; exact hh.2.1
      · rw [wn_ne e2 (by omega), wn_ne e1 (by omega)]; exact hh.2.2.1
      · rw [wn_ne e2 (by omega), wn_ne e1 (by omega)]; exact hh.2.2.2.1
      · rw [wn_eq e2, List.length_append (as := C ++ y.2)]; rfl
      · exact q_L_snoc hh.2.2.2.2.2.2 (fun j _ _ => by rw [wn_ne e2 (by omega), wn_ne e1 (by omega)]) (by rw [wn_ne e2 (by omega), Int.zero_add, wn_eq e1])
    | inr f =>
      have hh : C_bd tp r n f.1 f.2 M := h
      show C_bd tp r n f.1 f.2 M2
      refine ⟨C_tx_fr tx f2, ?_, ?_, ?_, hh.2.2.2.2.1, ?_, hh.2.2.2.2.2.2⟩
      · rw [wn_ne e2 (by omega), wn_ne e1 (by omega)]; exact hh.2.1
      · rw [wn_ne e2 (by omega), wn_ne e1 (by omega)]; exact hh.2.2.1
      · rw [wn_ne e2 (by omega), wn_ne e1 (by omega)]; exact hh.2.2.2.1
      · rw [wn_eq e2]; omega
  have a1 : ∀ j c, res = .inl (j, c) → q_nm M (r + 1) 1 = (C ++ c).length := fun j c e => by
    rw [e] at h
    exact (show C_go tp r n j (C ++ c) M from h).2.2.2.2.2.1
  have a2 : ∀ k q, res = .inr (k, q) → 0 ≤ q_nm M (r + 1) 1 := fun k q e => by
    rw [e] at h
    exact (show C_bd tp r n k q M from h).2.2.2.2.2.1
  have a0 : 0 ≤ q_nm M (r + 1) 1 := by
    cases e : res with
    | inl y => rw [a1 y.1 y.2 e]; omega
    | inr f => exact a2 f.1 f.2 e
  refine ⟨rfl, rfl, by decide, fun z => ?_, fun z => ⟨rfl, rfl, ⟨⟨by have := tx.1.1; omega, rfl⟩, a0, z⟩, ?_⟩⟩
  · cases e : res with
    | inl y => have := hb y.1 y.2 e; rw [a1 y.1 y.2 e] at z; omega
    | inr f =>
      rw [e] at h K
      exact K M fr_rfl h
  · intro N1
    obtain ⟨M1, e1⟩ : ∃ x, x = N1 := ⟨_, rfl⟩
    rw [← e1]
    have f1 : fr (Zd r) M M1 := fr_wn e1 (by unfold Zd; omega)
    refine ⟨(s_lay_fr sl.1 f1).2.1, (s_lay_fr sl.1 f1).2.1, ?_⟩
    intro N2
    obtain ⟨M2, e2⟩ : ∃ x, x = N2 := ⟨_, rfl⟩
    rw [← e2]
    exact go a1 a2 a0 z M1 M2 e1 e2
theorem C_44 {d : Nat} {P : Int → qM → Prop} {tp : List Int} {r w : Int} {n : Nat} {C : List Int} {res : gR} {M : qM} (h : C_po tp r n C res M) (hw : 0 ≤ w) (K : ∀ M', fr (Zd r) M M' → C_po tp r n C (gB res fun j c => if yT tp j = w then .inl (j + 1, c) else .inr (1, j)) M' → P 0 M') : q_WP q_Pr (d + 2) 44 [.inr (.inr r), .inl w] M P := by
  refine q_enter (s_44_0 ?_)
  have k4 := C_po_k h
  cases res with
  | inl x =>
    have hh : C_go tp r n x.1 (C ++ x.2) M := h
    rw [k4, hh.2.2.2.1]
    refine ⟨rfl, fun z => ⟨rfl, C_42 (d := d) hh (by decide) (fun M' f' b' _ => K M' f' ?_)⟩, fun z => ⟨rfl, C_43 (d := d) hh (by omega) (by omega) (fun M' f' b' => K M' f' ?_)⟩⟩
    · show C_po tp r n C (if _ then _ else _) M'; rw [if_neg z]; exact b'
    · show C_po tp r n C (if _ then _ else _) M'; rw [if_pos z]; exact b'
  | inr f =>
    have hh : C_bd tp r n f.1 f.2 M := h
    rw [k4, C_bd_t hh]
    exact ⟨rfl, fun z => ⟨rfl, C_42b (d := d) hh (fun M' f' b' _ => K M' f' b')⟩, fun z => absurd z (by omega)⟩
theorem C_45 {d : Nat} {P : Int → qM → Prop} {tp : List Int} {r w o : Int} {n : Nat} {C : List Int} {res : gR} {M : qM} (h : C_po tp r n C res M) (hw : 0 ≤ w) (K : ∀ M', fr (Zd r) M M' → C_po tp r n C (gB res fun j c => if yT tp j = w then (if o < 6 then .inl (j + 1, c) else .inr (4, j)) else .inr (1, j)) M' → P 0 M') : q_WP q_Pr (d + 2) 45 [.inr (.inr r), .inl w, .inl o] M P := by
  refine q_enter (s_45_0 ?_)
  have k4 := C_po_k h
  cases res with
  | inl x =>
    have hh : C_go tp r n x.1 (C ++ x.2) M := h
    rw [k4, hh.2.2.2.1]
    refine ⟨rfl, fun z => ⟨fun y => ⟨rfl, C_43 (d := d) hh (by omega) (by omega) (fun M' f' b' => K M' f' ?_)⟩, fun y => ⟨rfl, C_42 (d := d) hh (by decide) (fun M' f' b' _ => K M' f' ?_)⟩⟩, fun z => ⟨rfl, C_42 (d := d) hh (by decide) (fun M' f' b' _ => K M' f' ?_)⟩⟩
    · show C_po tp r n C (if _ then _ else _) M'; rw [if_pos z, if_pos y]; exact b'
    · show C_po tp r n C (if _ then _ else _) M'; rw [if_pos z, if_neg (by omega)]; exact b'
    · show C_po tp r n C (if _ then _ else _) M'; rw [if_neg z]; exact b'
  | inr f =>
    have hh : C_bd tp r n f.1 f.2 M := h
    rw [k4, C_bd_t hh]
    exact ⟨rfl, fun z => absurd z (by omega), fun z => ⟨rfl, C_42b (d := d) hh (fun M' f' b' _ => K M' f' b')⟩⟩
end
