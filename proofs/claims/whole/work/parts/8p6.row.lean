section
def gp (M M' : qM) : Prop := q_top M ≤ q_top M' ∧ ∀ a, a < q_top M → (q_kd M' a = q_kd M a ∧ q_ln M' a = q_ln M a ∧ (∀ j, q_nm M' a j = q_nm M a j) ∧ ∀ j, q_rf M' a j = q_rf M a j)
theorem gp_trans {M M' M'' : qM} (h : gp M M') (k : gp M' M'') : gp M M'' := ⟨Int.le_trans h.1 k.1, fun a ha => by
  have p := h.2 a ha
  have q := k.2 a (by have := h.1; omega)
  exact ⟨q.1.trans p.1, q.2.1.trans p.2.1, fun j => (q.2.2.1 j).trans (p.2.2.1 j), fun j => (q.2.2.2 j).trans (p.2.2.2 j)⟩⟩
theorem gp_gx {M M' : qM} {nr : Int} (h : gp M M') : gx nr M M' := ⟨h.1, fun a ha => by
  have p := h.2 a ha
  exact ⟨p.1, p.2.1, fun j _ => p.2.2.1 j, fun j _ => p.2.2.2 j⟩⟩
theorem gp_al {M M' : qM} {k n : Int} (e : M' = q_al M k n) : gp M M' ∧ q_top M' = q_top M + 1 ∧ q_kd M' (q_top M) = k ∧ q_ln M' (q_top M) = n ∧ ∀ j, q_nm M' (q_top M) j = 0 := by
  rw [e]
  refine ⟨⟨by show M.1 ≤ M.1 + 1; omega, fun a ha => ?_⟩, rfl, ?_, ?_, fun j => ?_⟩
  · have hh : a < M.1 := ha
    refine ⟨?_, ?_, fun j => ?_, fun j => ?_⟩
    · show (if a = M.1 then (k, n) else M.2.1 a).1 = _; rw [if_neg (by omega)]; rfl
    · show (if a = M.1 then (k, n) else M.2.1 a).2 = _; rw [if_neg (by omega)]; rfl
    · show (if a = M.1 then 0 else M.2.2.2 a j) = _; rw [if_neg (by omega)]; rfl
    · show (if a = M.1 then -1 else M.2.2.1 a j) = _; rw [if_neg (by omega)]; rfl
  · show (if M.1 = M.1 then (k, n) else M.2.1 M.1).1 = _; rw [if_pos rfl]
  · show (if M.1 = M.1 then (k, n) else M.2.1 M.1).2 = _; rw [if_pos rfl]
  · show (if M.1 = M.1 then 0 else M.2.2.2 M.1 j) = _; rw [if_pos rfl]
theorem gp_fr {Z : Int → Int → Prop} {M M' M'' : qM} (h : gp M M') (f : fr Z M' M'') (z : ∀ a j, Z a j → q_top M ≤ a) : gp M M'' := ⟨by rw [fr_top f]; exact h.1, fun a ha => by
  have p := h.2 a ha
  exact ⟨(fr_kd f a).trans p.1, (fr_ln f a).trans p.2.1, fun j => (f.2 a j (fun q => by have := z a j q; omega)).trans (p.2.2.1 j), fun j => (fr_rf f a j).trans (p.2.2.2 j)⟩⟩
theorem fr_cp {M M' : qM} {a sp b dp n : Int} (e : M' = q_cp M a sp b dp n) : fr (fun x j => x = b) M M' := by
  rw [e]
  exact ⟨⟨rfl, rfl, rfl⟩, fun x j z => by show (if x = b ∧ dp ≤ j ∧ j < dp + n then _ else M.2.2.2 x j) = _; rw [if_neg (fun q => z q.1)]; rfl⟩
theorem cp_in {M M' : qM} {a b n j : Int} (e : M' = q_cp M a 0 b 0 n) (h0 : 0 ≤ j) (h1 : j < n) : q_nm M' b j = q_nm M a j := by
  rw [e]
  show (if b = b ∧ 0 ≤ j ∧ j < 0 + n then M.2.2.2 a (0 + (j - 0)) else M.2.2.2 b j) = _
  rw [if_pos ⟨rfl, h0, by omega⟩, show 0 + (j - 0) = j by omega]; rfl
theorem c_263 {d : Nat} {P : Int → qM → Prop} {M : qM} {x : Int} {n : Nat} (hx : 0 ≤ x ∧ x < q_top M) (hk : q_kd M x = 14) (hn : q_ln M x = 6) (n6 : n ≤ 6) (K : ∀ M', gp M M' → q_top M' = q_top M + 1 → q_kd M' (q_top M) = 14 → q_ln M' (q_top M) = n → (∀ j : Nat, j < n → q_nm M' (q_top M) j = q_nm M x j) → P (q_top M) M') : q_WP q_Pr (d + 2) 263 [.inr (.inr x), .inl (n : Int)] M P := by
  refine q_enter (s_263_0 ?_)
  refine ⟨by rw [hk]; decide, fun z => ⟨⟨by omega, by omega⟩, ?_⟩, fun z => ⟨⟨hx.1, hk⟩, ?_⟩⟩
  · intro N1
    obtain ⟨M1, e1⟩ : ∃ x, x = N1 := ⟨_, rfl⟩
    rw [← e1]
    have a1 := gp_al (k := 14) e1
    have px := a1.1.2 x hx.2
    refine ⟨⟨by omega, by omega⟩, by rw [px.1, hk]; decide, ?_⟩
    rw [px.2.1, hn]
    refine q_enter (s_260_0 ?_)
    have fin : (((q_kd M1 x = 12 ∧ q_kd M1 (q_top M) = 12) ∨ (0 ≤ x ∧ 0 ≤ (q_top M) ∧ q_kd M1 x = 14 ∧ q_kd M1 (q_top M) = 14)) ∧ x ≠ (q_top M) ∧ 0 ≤ (0 : Int) ∧ 0 ≤ (0 : Int) ∧ 0 ≤ (n : Int) ∧ (0 : Int) + n ≤ q_ln M1 x ∧ (0 : Int) + n ≤ q_ln M1 (q_top M)) ∧ P (q_top M) (q_cp M1 x (0 : Int) (q_top M) (0 : Int) n) := by
      refine ⟨⟨Or.inr ⟨hx.1, by omega, px.1.trans hk, a1.2.2.1⟩, by omega, by decide, by decide, by omega, by rw [px.2.1, hn]; omega, by rw [a1.2.2.2.1]; omega⟩, ?_⟩
      have f := fr_cp (M := M1) (a := x) (sp := 0) (b := q_top M) (dp := 0) (n := n) rfl
      exact K _ (gp_fr a1.1 f (fun a j q => by omega)) ((fr_top f).trans a1.2.1) ((fr_kd f _).trans a1.2.2.1) ((fr_ln f _).trans a1.2.2.2.1) (fun j hj => (cp_in rfl (by omega) (by omega)).trans (px.2.2.1 j))
    refine ⟨fun y => ?_, fun y => ?_⟩
    · first | exact fin | (have e : (n : Int) = 6 := by omega
                           rw [← e]; exact fin)
    · first | exact fin | (have e : (n : Int) = 6 := by omega
                           rw [← e]; exact fin)
  · intro N5
    obtain ⟨M5, e5⟩ : ∃ x, x = N5 := ⟨_, rfl⟩
    rw [← e5]
    have a1 := gp_al (M := M) (k := 14) (n := q_ln M x) rfl
    have px := a1.1.2 x hx.2
    have f := fr_cp e5
    have e6 : n = 6 := by omega
    refine ⟨⟨by omega, by rw [hn]; decide⟩, ⟨by omega, (fr_kd f _).trans a1.2.2.1⟩, ?_⟩
    refine K M5 (gp_fr a1.1 f (fun a j q => by omega)) ((fr_top f).trans a1.2.1) ((fr_kd f _).trans a1.2.2.1) ((fr_ln f _).trans (a1.2.2.2.1.trans z.symm)) (fun j hj => ?_)
    exact (cp_in e5 (by omega) (by omega)).trans (px.2.2.1 j)
end
