section
theorem lt_ {α : Type} {e : α} {Q : α → Prop} (h : ∀ x, x = e → Q x) : (let x := e; Q x) := h e rfl
/-- a Meant that is being made: what stands below is kept, new cells F, their references R -/
def gst (m u : Int) (F : List (Int × Int × Int)) (R : List (Int × Int × Int)) (M0 M : qM) : Prop :=
  (q_top M = u ∧ m + 2 ≤ u) ∧ (∀ a, a < m + 2 → (q_kd M a = q_kd M0 a ∧ q_ln M a = q_ln M0 a ∧ (∀ j, q_nm M a j = q_nm M0 a j) ∧ (a ≠ m → ∀ j, q_rf M a j = q_rf M0 a j))) ∧ (∀ e ∈ F, e.1 < u ∧ q_kd M e.1 = e.2.1 ∧ q_ln M e.1 = e.2.2) ∧ ∀ e ∈ R, e.1 < u ∧ q_rf M e.1 e.2.1 = e.2.2
theorem gst0 {m : Int} {M : qM} (h : q_top M = m + 2) : gst m (m + 2) [] [] M M := ⟨⟨h, Int.le_refl _⟩, fun _ _ => ⟨rfl, rfl, fun _ => rfl, fun _ _ => rfl⟩, fun e he => absurd he List.not_mem_nil, fun e he => absurd he List.not_mem_nil⟩
theorem gst_kd {m u : Int} {F R : List (Int × Int × Int)} {M0 M : qM} (h : gst m u F R M0 M) {a : Int} (ha : a < m + 2) : q_kd M a = q_kd M0 a := (h.2.1 a ha).1
theorem gst_al {m u u' k n : Int} {F R : List (Int × Int × Int)} {M0 M M' : qM} (h : gst m u F R M0 M) (e : M' = q_al M k n) (hu : u' = u + 1) : gst m u' ((u, k, n) :: F) R M0 M' := by
  obtain ⟨⟨t, t2⟩, h1, h2, h3⟩ := h
  have tt : M.1 = u := t
  have kk : ∀ b, b ≠ u → q_kd M' b = q_kd M b ∧ q_ln M' b = q_ln M b ∧ (∀ j, q_nm M' b j = q_nm M b j) ∧ ∀ j, q_rf M' b j = q_rf M b j := fun b hb => by
    rw [e]
    refine ⟨?_, ?_, fun j => ?_, fun j => ?_⟩
    · show (if b = M.1 then (k, n) else M.2.1 b).1 = _; rw [if_neg (by omega)]; rfl
    · show (if b = M.1 then (k, n) else M.2.1 b).2 = _; rw [if_neg (by omega)]; rfl
    · show (if b = M.1 then 0 else M.2.2.2 b j) = _; rw [if_neg (by omega)]; rfl
    · show (if b = M.1 then -1 else M.2.2.1 b j) = _; rw [if_neg (by omega)]; rfl
  have kn : q_kd M' u = k ∧ q_ln M' u = n := by
    rw [e]
    refine ⟨?_, ?_⟩
    · show (if u = M.1 then (k, n) else M.2.1 u).1 = _; rw [if_pos tt.symm]
    · show (if u = M.1 then (k, n) else M.2.1 u).2 = _; rw [if_pos tt.symm]
  refine ⟨⟨by rw [e]; show M.1 + 1 = u'; omega, by omega⟩, fun a ha => ?_, fun x hx => ?_, fun x hx => ?_⟩
  · have q := kk a (by omega)
    have p := h1 a ha
    exact ⟨q.1.trans p.1, q.2.1.trans p.2.1, fun j => (q.2.2.1 j).trans (p.2.2.1 j), fun hm j => (q.2.2.2 j).trans (p.2.2.2 hm j)⟩
  · rcases List.mem_cons.mp hx with q | q
    · rw [q]; exact ⟨by show u < u'; omega, kn⟩
    · have p := h2 x q
      have r := kk x.1 (by omega)
      exact ⟨by omega, r.1.trans p.2.1, r.2.1.trans p.2.2⟩
  · have p := h3 x hx
    have r := kk x.1 (by omega)
    exact ⟨by omega, (r.2.2.2 _).trans p.2⟩
theorem gst_wr {m u f v : Int} {F R : List (Int × Int × Int)} {M0 M M' : qM} (h : gst m u F R M0 M) (e : M' = q_wr M m f v) (hf : ∀ x ∈ R, ¬ (x.1 = m ∧ x.2.1 = f)) : gst m u F ((m, f, v) :: R) M0 M' := by
  obtain ⟨⟨t, t2⟩, h1, h2, h3⟩ := h
  have kr : ∀ b j, ¬ (b = m ∧ j = f) → q_rf M' b j = q_rf M b j := fun b j hb => by rw [e]; show (if b = m ∧ j = f then v else M.2.2.1 b j) = _; rw [if_neg hb]; rfl
  refine ⟨⟨by rw [e]; exact t, t2⟩, fun a ha => ?_, fun x hx => ?_, fun x hx => ?_⟩
  · have p := h1 a ha
    exact ⟨by rw [e]; exact p.1, by rw [e]; exact p.2.1, fun j => by rw [e]; exact p.2.2.1 j, fun hm j => (kr a j (fun q => hm q.1)).trans (p.2.2.2 hm j)⟩
  · rw [e]; exact h2 x hx
  · rcases List.mem_cons.mp hx with q | q
    · rw [q]
      refine ⟨by show m < u; omega, ?_⟩
      rw [e]; show (if m = m ∧ f = f then v else M.2.2.1 m f) = v
      rw [if_pos ⟨rfl, rfl⟩]
    · exact ⟨(h3 x q).1, (kr _ _ (hf x q)).trans (h3 x q).2⟩
theorem gst_mu {m u u' k : Int} {F R : List (Int × Int × Int)} {M0 M M' : qM} (h : gst m u F R M0 M) (e : M' = q_mu M 5 k) (hu : u' = u + 6) : gst m u' ((u, 20, 5) :: (u + 1, 14, k) :: (u + 2, 14, k) :: (u + 3, 14, k) :: (u + 4, 14, k) :: (u + 5, 14, k) :: F) ((u, 0, u + 1) :: (u, 1, u + 2) :: (u, 2, u + 3) :: (u, 3, u + 4) :: (u, 4, u + 5) :: R) M0 M' := by
  obtain ⟨⟨t, t2⟩, h1, h2, h3⟩ := h
  have tt : M.1 = u := t
  have kk : ∀ b, b < u → q_kd M' b = q_kd M b ∧ q_ln M' b = q_ln M b ∧ (∀ j, q_nm M' b j = q_nm M b j) ∧ ∀ j, q_rf M' b j = q_rf M b j := fun b hb => by
    rw [e]
    refine ⟨?_, ?_, fun j => ?_, fun j => ?_⟩
    · show (if b = M.1 then ((20 : Int), (5 : Int)) else if M.1 < b ∧ b ≤ M.1 + 5 then (14, k) else M.2.1 b).1 = _; rw [if_neg (by omega), if_neg (by omega)]; rfl
    · show (if b = M.1 then ((20 : Int), (5 : Int)) else if M.1 < b ∧ b ≤ M.1 + 5 then (14, k) else M.2.1 b).2 = _; rw [if_neg (by omega), if_neg (by omega)]; rfl
    · show (if M.1 ≤ b ∧ b ≤ M.1 + 5 then 0 else M.2.2.2 b j) = _; rw [if_neg (by omega)]; rfl
    · show (if b = M.1 then (if 0 ≤ j ∧ j < 5 then M.1 + 1 + j else -1) else if M.1 < b ∧ b ≤ M.1 + 5 then -1 else M.2.2.1 b j) = _; rw [if_neg (by omega), if_neg (by omega)]; rfl
  have kn : q_kd M' u = 20 ∧ q_ln M' u = 5 := by
    rw [e]
    refine ⟨?_, ?_⟩
    · show (if u = M.1 then ((20 : Int), (5 : Int)) else if M.1 < u ∧ u ≤ M.1 + 5 then (14, k) else M.2.1 u).1 = _; rw [if_pos tt.symm]
    · show (if u = M.1 then ((20 : Int), (5 : Int)) else if M.1 < u ∧ u ≤ M.1 + 5 then (14, k) else M.2.1 u).2 = _; rw [if_pos tt.symm]
  have kc : ∀ b, u < b → b ≤ u + 5 → q_kd M' b = 14 ∧ q_ln M' b = k := fun b x y => by
    rw [e]
    refine ⟨?_, ?_⟩
    · show (if b = M.1 then ((20 : Int), (5 : Int)) else if M.1 < b ∧ b ≤ M.1 + 5 then (14, k) else M.2.1 b).1 = _; rw [if_neg (by omega), if_pos (by omega)]
    · show (if b = M.1 then ((20 : Int), (5 : Int)) else if M.1 < b ∧ b ≤ M.1 + 5 then (14, k) else M.2.1 b).2 = _; rw [if_neg (by omega), if_pos (by omega)]
  have kf : ∀ j, 0 ≤ j → j < 5 → q_rf M' u j = u + 1 + j := fun j x y => by
    rw [e]
    show (if u = M.1 then (if 0 ≤ j ∧ j < 5 then M.1 + 1 + j else -1) else if M.1 < u ∧ u ≤ M.1 + 5 then -1 else M.2.2.1 u j) = _
    rw [if_pos tt.symm, if_pos ⟨x, y⟩, tt]
  refine ⟨⟨by rw [e]; show M.1 + 1 + 5 = u'; omega, by omega⟩, fun a ha => ?_, fun x hx => ?_, fun x hx => ?_⟩
  · have q := kk a (by omega)
    have p := h1 a ha
    exact ⟨q.1.trans p.1, q.2.1.trans p.2.1, fun j => (q.2.2.1 j).trans (p.2.2.1 j), fun hm j => (q.2.2.2 j).trans (p.2.2.2 hm j)⟩
  · simp only [List.mem_cons] at hx
    rcases hx with q | q | q | q | q | q | q
    · rw [q]; exact ⟨by show u < u'; omega, kn⟩
    · rw [q]; exact ⟨by show u + 1 < u'; omega, kc _ (by show u < u + 1; omega) (by show u + 1 ≤ u + 5; omega)⟩
    · rw [q]; exact ⟨by show u + 2 < u'; omega, kc _ (by show u < u + 2; omega) (by show u + 2 ≤ u + 5; omega)⟩
    · rw [q]; exact ⟨by show u + 3 < u'; omega, kc _ (by show u < u + 3; omega) (by show u + 3 ≤ u + 5; omega)⟩
    · rw [q]; exact ⟨by show u + 4 < u'; omega, kc _ (by show u < u + 4; omega) (by show u + 4 ≤ u + 5; omega)⟩
    · rw [q]; exact ⟨by show u + 5 < u'; omega, kc _ (by show u < u + 5; omega) (by show u + 5 ≤ u + 5; omega)⟩
    · have p := h2 x q
      have r := kk x.1 p.1
      exact ⟨by omega, r.1.trans p.2.1, r.2.1.trans p.2.2⟩
  · simp only [List.mem_cons] at hx
    rcases hx with q | q | q | q | q | q
    · rw [q]; exact ⟨by show u < u'; omega, (kf 0 (by decide) (by decide)).trans (by show u + 1 + 0 = u + 1; omega)⟩
    · rw [q]; exact ⟨by show u < u'; omega, (kf 1 (by decide) (by decide)).trans (by show u + 1 + 1 = u + 2; omega)⟩
    · rw [q]; exact ⟨by show u < u'; omega, (kf 2 (by decide) (by decide)).trans (by show u + 1 + 2 = u + 3; omega)⟩
    · rw [q]; exact ⟨by show u < u'; omega, (kf 3 (by decide) (by decide)).trans (by show u + 1 + 3 = u + 4; omega)⟩
    · rw [q]; exact ⟨by show u < u'; omega, (kf 4 (by decide) (by decide)).trans (by show u + 1 + 4 = u + 5; omega)⟩
    · have p := h3 x q
      exact ⟨by omega, ((kk x.1 p.1).2.2.2 _).trans p.2⟩
theorem MO_eq {n : Nat} (h : n ≤ 6) : w32 (w32 (w32 (1 + (n : Int)) + w32 (w32 (2 * (n : Int)) * w32 ((n : Int) - 1))) + w32 (w32 (3 * (n : Int)) * 29)) = (mst n : Int) := by
  have k : ∀ n : Nat, n < 7 → w32 (w32 (w32 (1 + (n : Int)) + w32 (w32 (2 * (n : Int)) * w32 ((n : Int) - 1))) + w32 (w32 (3 * (n : Int)) * 29)) = (mst n : Int) := by decide
  exact k n (by omega)
end
