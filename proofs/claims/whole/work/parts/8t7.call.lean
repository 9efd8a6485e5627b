section
/-! THE COMPONENT READS A TEXT -/
def Z41 (r : Int) : Int → Int → Prop := fun a _ => r ≤ a
theorem Ze_41 {r : Int} {M M' : qM} (f : fr (Ze r) M M') : fr (Z41 r) M M' := fr_mono f (fun a j q => by unfold Ze Zd at q; unfold Z41; omega)
theorem C_41f {d : Nat} {P : Int → qM → Prop} {tp : List Int} {r : Int} {n q : Nat} {k : Int} {M : qM} (h : C_fl tp r n k q M) (K : ∀ M', fr (Z41 r) M M' → q_nm M' r 1 = k → q_nm M' r 2 = yP tp q → P 0 M') : q_At q_m41 (q_WP q_Pr d) P 66 [(0, .inr (.inr r))] [] M 0 0 := by
  have tk := h.1.1.2.2.2
  have hn := h.1.2.2.2.1.1
  have qn := h.2.2.2.2
  refine s_41_66 ?_
  rw [h.1.1.2.1.1, h.2.1.1, h.1.1.2.1.2.2, tk.2.2.1, tk.2.2.2.1.2.2, tk.2.2.2.2.2.1, tk.2.2.2.2.2.2, h.2.2.1]
  refine ⟨rfl, fun z => absurd z h.2.1.2, fun _ => ⟨rfl, rfl, rfl, ⟨rfl, by omega, by omega⟩, rfl, ?_⟩⟩
  intro N1
  obtain ⟨M1, e1⟩ : ∃ x, x = N1 := ⟨_, rfl⟩
  rw [← e1]
  refine s_41_89 (K M1 (fr_wn e1 (by unfold Z41; omega)) (by rw [wn_ne e1 (by omega)]; exact h.2.1.1) ?_)
  rw [wn_eq e1]
  exact (h.1.2.1 q (by omega)).2
theorem C_41x {d : Nat} {P : Int → qM → Prop} {tp : List Int} {r : Int} {n q : Nat} {k : Int} {M : qM} (h : C_fl tp r n k q M) (K : ∀ M', fr (Z41 r) M M' → q_nm M' r 1 = k → q_nm M' r 2 = yP tp q → P 0 M') (x : Int) : q_At q_m41 (q_WP q_Pr (d + 1)) P 22 [(0, .inr (.inr r)), (1, .inl x)] [] M 0 0 := by
  have k4 := h.1.1.2.1.1
  have go : q_WP q_Pr (d + 1) 42 [.inr (.inr r), .inl (5 : Int)] M (fun v1 M2 => q_At q_m41 (q_WP q_Pr (d + 1)) P 66 [(0, .inr (.inr r))] [] M2 0 0) := by
    refine q_enter (s_42_0 ?_)
    rw [k4]
    refine ⟨rfl, fun _ => ⟨rfl, ?_⟩, fun z => absurd (h.2.1.1.symm.trans z) h.2.1.2⟩
    intro N1
    obtain ⟨M1, e1⟩ : ∃ x, x = N1 := ⟨_, rfl⟩
    rw [← e1]
    have f1 : fr (Zd r) M M1 := fr_wn e1 (by unfold Zd; omega)
    refine C_41f (d := d + 1) ⟨C_tx_fr h.1 f1, ⟨by rw [wn_ne e1 (by omega)]; exact h.2.1.1, h.2.1.2⟩, by rw [wn_ne e1 (by omega)]; exact h.2.2.1, wn_eq e1, h.2.2.2.2⟩ (fun M' f' => K M' (fr_trans (fr_wn e1 (by unfold Z41; omega)) f'))
  refine s_41_22 ?_
  rw [k4, h.2.1.1, h.2.2.2.1]
  refine ⟨fun _ => ⟨rfl, fun z => absurd z (by decide), fun _ => ⟨rfl, go⟩⟩, fun _ => ⟨rfl, fun _ => ⟨rfl, fun z => absurd z (by decide), fun _ => ⟨rfl, go⟩⟩, fun z => absurd z h.2.1.2⟩⟩
theorem C_41l {d : Nat} {P : Int → qM → Prop} {tp : List Int} {r : Int} {n : Nat} : ∀ (m i : Nat) (sc : List qS) (M : qM), sc.length + m = 20 → C_q tp r n i sc M → (∀ l, gAll (yT tp) (yD5 tp) m i = .inl l → ∀ M' i', fr (Ze r) M M' → C_q tp r n i' (sc ++ l) M' → P 0 M') → (∀ k q, gAll (yT tp) (yD5 tp) m i = .inr (k, q) → ∀ M', fr (Z41 r) M M' → q_nm M' r 1 = k → q_nm M' r 2 = yP tp q → k ≠ 0 → P 0 M') → q_At q_m41 (q_WP q_Pr (d + 29)) P 22 [(0, .inr (.inr r)), (1, .inl (sc.length : Int))] [] M 0 0 := by
  have done : ∀ {M : qM} {i : Nat} {sc : List qS}, C_q tp r n i sc M → P 0 M → q_At q_m41 (q_WP q_Pr (d + 29)) P 66 [(0, .inr (.inr r))] [] M 0 0 := fun {M i sc} h k => by
    refine s_41_66 ?_
    rw [h.1.1.1.2.1.1, h.1.2.1]
    exact ⟨rfl, fun _ => s_41_89 k, fun z => absurd rfl z⟩
  intro m
  induction m with
  | zero =>
    intro i sc M hn h K1 KF
    have k4 := h.1.1.1.2.1.1
    refine s_41_22 ?_
    rw [k4, h.1.2.1, h.1.2.2.2.1]
    refine ⟨fun _ => ⟨rfl, fun e => ?_, fun e => ⟨rfl, C_42 (d := d + 28) h.1 (by decide) (fun M1 f1 h1 e1 => ?_)⟩⟩, fun z => absurd z (by omega)⟩
    · have eg : gAll (yT tp) (yD5 tp) 0 i = .inl [] := by show (if _ then _ else _) = _; rw [if_pos e]
      exact done h (K1 [] eg M i fr_rfl (by rw [List.append_nil]; exact h))
    · have eg : gAll (yT tp) (yD5 tp) 0 i = .inr (5, i) := by show (if _ then _ else _) = _; rw [if_neg e]
      exact C_41f (d := d + 29) ⟨h1.1, ⟨e1, by decide⟩, h1.2.2.1, h1.2.2.2.1, h1.2.2.2.2.1⟩ (fun M' f' a b => KF 5 i eg M' (fr_trans (Ze_41 (Zd_Ze f1)) f') a b (by decide))
  | succ m ih =>
    intro i sc M hn h K1 KF
    have k4 := h.1.1.1.2.1.1
    refine s_41_22 ?_
    rw [k4, h.1.2.1, h.1.2.2.2.1, w32_id (x := (sc.length : Int) + 1) (by omega) (by omega)]
    refine ⟨fun z => absurd z (by omega), fun _ => ⟨rfl, fun z => absurd rfl z, fun _ => ⟨rfl, fun e => ⟨rfl, fun _ => ?_, fun z => absurd e z⟩, fun e => ⟨rfl, ?_⟩⟩⟩⟩
    · have eg : gAll (yT tp) (yD5 tp) (m + 1) i = .inl [] := by show (if _ then _ else _) = _; rw [if_pos e]
      exact done h (K1 [] eg M i fr_rfl (by rw [List.append_nil]; exact h))
    · have eg : gAll (yT tp) (yD5 tp) (m + 1) i = (match gStmt (yT tp) (yD5 tp) i with
        | .inr f => .inr f
        | .inl x => (match gAll (yT tp) (yD5 tp) m x.1 with
          | .inr f => .inr f
          | .inl l => .inl (x.2 :: l))) := (if_neg e).trans rfl
      rw [eg] at K1 KF
      refine C_46 (d := d) h (by omega) (fun j s es M1 f1 h1 => ?_) (fun k q es M1 f1 h1 => ?_)
      · rw [es] at K1 KF
        dsimp only at K1 KF
        have := ih j (sc ++ [s]) M1 (by rw [List.length_append, List.length_cons, List.length_nil]; omega) h1 (fun l el M' i' f' h' => K1 (s :: l) (by rw [el]) M' i' (fr_trans f1 f') (by rw [List.append_assoc, List.singleton_append] at h'; exact h')) (fun k q el M' f' => KF k q (by rw [el]) M' (fr_trans (Ze_41 f1) f'))
        rw [List.length_append, List.length_cons, List.length_nil] at this
        exact this
      · exact C_41x (d := d + 28) h1 (fun M' f' a b => KF k q (by rw [es]) M' (fr_trans (Ze_41 f1) f') a b h1.2.1.2) _
theorem C_q_sc {tp : List Int} {r : Int} {n i : Nat} {sc : List qS} {M : qM} (h : C_q tp r n i sc M) : C_sc M (r + 1) sc := by
  obtain ⟨hg, hc, hst, h20, hbd⟩ := h
  have sl := hg.1.1.2.2.1
  have hn := hg.1.2.2.2.1.1
  have hi := hg.2.2.2.2.1
  refine ⟨sl.1, hc, fun k hk => ?_⟩
  obtain ⟨a1, a2, a3, a4⟩ := hst k hk
  obtain ⟨q1, q2, q3⟩ := q_L_st (z := (0, [], [])) hg.2.2.2.2.2.2 hk
  rw [Int.zero_add] at a1 a2 a3 a4
  rw [Int.zero_add, List.map_id] at q1
  rw [Int.zero_add, List.map_id] at q2
  refine ⟨a1, (offS sc k : Int), by omega, a2, a3, a4, ?_, q1, q2⟩
  rw [sl.2]; omega
theorem C_41 {d : Nat} {P : Int → qM → Prop} {tp : List Int} {r : Int} {M : qM} (g : G_T tp) (hl : rd_lay M r tp.length) (hT : C_T tp M) (h1 : q_nm M r 1 = 0) (h2 : q_nm M r 2 = -1) (h4 : q_nm M r 4 = 0) (hl1 : q_nm M (r + 1) 1 = 0) (hl6 : q_nm M (r + 1) 6 = 0)
    (K1 : ∀ sc, rdA tp = .inl sc → ∀ M', fr (Z41 r) M M' → q_nm M' r 1 = 0 → q_nm M' r 2 = -1 → C_sc M' (r + 1) sc → P 0 M')
    (KF : ∀ k q, rdA tp = .inr (k, q) → ∀ M', fr (Z41 r) M M' → q_nm M' r 1 = k → q_nm M' r 2 = yP tp q → k ≠ 0 → P 0 M') : q_WP q_Pr (d + 30) 41 [.inr (.inr r)] M P := by
  obtain ⟨n, hn, hn1, hn2⟩ := yN_ex g
  have rg := hl.1
  refine q_enter (s_41_0 ?_)
  rw [hl.2.1.1, hl.2.1.2.2, hl.2.2.2.2.2.1]
  refine ⟨rfl, rfl, c_71 (d := d + 24) g ⟨hl.2.2.2, hT, g.1⟩ hn hn1 hn2 (fun M2 f2 a2 c2 => ?_)⟩
  have l2 := rd_fr hl f2
  have tk := l2.2.2.2
  rw [l2.2.1.1, l2.2.1.2.2, tk.2.2.1, tk.2.2.2.1.2.1, tk.2.2.2.2.1.1, tk.2.2.2.2.1.2]
  refine ⟨rfl, rfl, ⟨rfl, by decide, by omega⟩, rfl, ?_⟩
  intro N3
  obtain ⟨M3, e3⟩ : ∃ x, x = N3 := ⟨_, rfl⟩
  rw [← e3]
  replace e3 : M3 = q_wn M2 r 5 (q_nm M2 (r + 7 + 1) 0) := e3
  have tv : q_nm M2 (r + 7 + 1) 0 = yT tp 0 := (a2 0 (by omega)).1
  rw [tv] at e3
  have f3 : fr (Zd r) M2 M3 := fr_wn e3 (by unfold Zd; omega)
  have t2 : C_tx tp r n M2 := ⟨l2, a2, c2, ⟨hn, hn1, hn2⟩, g.1⟩
  have k : ∀ a j : Int, (a = r ∨ a = r + 1) → ¬ (a = r ∧ j = 5) → q_nm M3 a j = q_nm M a j := fun a j q z => by
    rw [wn_ne e3 (by omega)]; exact f2.2 a j (by unfold Zk; omega)
  have q0 : C_q tp r n 0 [] M3 := ⟨⟨C_tx_fr t2 f3, (k r 1 (by omega) (by omega)).trans h1, (k r 4 (by omega) (by omega)).trans h4, wn_eq e3, Nat.zero_le _, (k (r + 1) 1 (by omega) (by omega)).trans hl1, q_L_nil⟩, (k (r + 1) 6 (by omega) (by omega)).trans hl6, fun j hj => absurd hj (Nat.not_lt_zero j), Nat.zero_le _, Nat.zero_le _⟩
  have f13 : fr (Z41 r) M M3 := fr_trans (fr_mono f2 (fun a j q => by unfold Zk at q; unfold Z41; omega)) (Ze_41 (Zd_Ze f3))
  refine C_41l (d := d) 20 0 [] M3 rfl q0 (fun l el M' i' f' h' => K1 l el M' (fr_trans f13 (Ze_41 f')) h'.1.2.1 ?_ ?_) (fun kk q el M' f' => KF kk q el M' (fr_trans f13 f'))
  · rw [f'.2 _ _ (by unfold Ze Zd; omega), k r 2 (by omega) (by omega)]; exact h2
  · rw [List.nil_append] at h'; exact C_q_sc h'
end
