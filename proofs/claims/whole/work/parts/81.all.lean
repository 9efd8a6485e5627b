section
theorem q_run_app : ∀ (l k : List qOp) (M : qM), q_run (l ++ k) M = q_run k (q_run l M)
  | [], _, _ => rfl
  | o :: t, k, M => q_run_app t k (q_op o M)
theorem q_run_kd {l : List qOp} {M : qM} {T a : Int} {r : Int × Int} {k : Int} (hT : q_top M = T) (hr : (q_kd M a, q_ln M a) = r) (h : (q_rK T l a r).1 = k) : q_kd (q_run l M) a = k := by
  have := q_run_kl l M T a r hT hr
  rw [← this] at h
  exact h
set_option maxRecDepth 100000 in
set_option maxHeartbeats 8000000 in
/-- THE WHOLE RUN OF THE LAW: what is left is a world that every call keeps, and that holds behind the constructors -/
theorem law_all {L : Nat} {xs : Nat → Int32} {Inv : qM → Prop} {d : Nat} (hL : L ≤ 3584) (hI : ∀ M, Inv M → q_scr L (fun j => (xs j.toNat).toInt) M ∧ q_kd M 0 = 10) (h0 : Inv (q_run q_oAll (q_M0 L xs))) (hA : q_okA L (fun j => (xs j.toNat).toInt) Inv (d + 3)) : q_WP q_Pr (d + 4) 264 [.inr (.inr (-3))] (q_M0 L xs) (fun v _ => v = 1) := by
  refine q_enter (s_264_0 ?_)
  have t0 : q_top (q_M0 L xs) = 0 := rfl
  simp only [t0]
  refine ⟨⟨by decide, by decide⟩, by rw [q_al_kd, t0, if_pos rfl], ⟨by decide, by decide⟩, ?_⟩
  refine c_96 (by rw [q_al_top, t0]; rfl) (by rw [q_al_kd, t0, if_pos rfl]) ?_
  have t1 : q_top (q_run q_o96 (q_al (q_M0 L xs) 10 (Int.ofNat (q_ns 10)))) = 66 := (q_run_top _ _ 1 (by rw [q_al_top, t0]; rfl)).trans (by decide +kernel)
  simp only [t1]
  refine ⟨⟨by decide, by decide⟩, by rw [q_al_kd, t1, if_pos rfl], ⟨by decide, by decide⟩, ?_⟩
  refine c_145 (by rw [q_al_top, t1]; rfl) (by rw [q_al_kd, t1, if_pos rfl]) ?_
  have e : q_run q_o145 (q_al (q_run q_o96 (q_al (q_M0 L xs) 10 (Int.ofNat (q_ns 10)))) 11 (Int.ofNat (q_ns 11))) = q_run q_oAll (q_M0 L xs) := by
    show _ = q_run (q_o96 ++ ((0, 11, 82, 0) :: q_o145)) (q_op (0, 10, 12, 0) (q_M0 L xs))
    rw [q_run_app]
    rfl
  rw [e]
  have key := law_loop (P := fun v _ => v = 1) hL (fun j => q_r32 _) hI hA (fun _ => rfl) 513 0 (q_run q_oAll (q_M0 L xs)) 172 120094 rfl (by omega) h0 (by decide) (by decide)
  exact key
end
