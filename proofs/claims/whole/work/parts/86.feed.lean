section
theorem q_apl_app (A B f : Int) : ∀ (ys zs : List Int) (n : Int) (M : qM), q_apl A B f (ys ++ zs) n M = q_apl A B f zs (n + ys.length) (q_apl A B f ys n M)
  | [], zs, n, M => by show q_apl A B f zs n M = q_apl A B f zs (n + ((0 : Nat) : Int)) M; rw [show n + ((0 : Nat) : Int) = n by omega]
  | y :: t, zs, n, M => by
    show q_apl A B f (t ++ zs) (n + 1) (q_wn (q_wn M A n y) B f (n + 1)) = q_apl A B f zs (n + ((y :: t).length : Int)) (q_apl A B f t (n + 1) (q_wn (q_wn M A n y) B f (n + 1)))
    rw [q_apl_app A B f t zs (n + 1), List.length_cons, show n + 1 + (t.length : Int) = n + ((t.length + 1 : Nat) : Int) by omega]
def q_b4 (x : Int) : List Int := [w8 (q_shr x 24), w8 (q_shr x 16), w8 (q_shr x 8), w8 (q_shr x 0)]
theorem c_65x {d : Nat} {P : Int → qM → Prop} {M : qM} {x n : Int} (hl : q_lay M) (hn : q_nm M 1 1 = n) (h0 : 0 ≤ n) (h1 : n + 4 ≤ 2100) (k : ∀ M', M' = q_apl 2 1 1 (q_b4 x) n M → q_lay M' → q_nm M' 1 1 = n + 4 → P 0 M') : q_WP q_Pr (d + 1) 65 [.inr (.inr 1), .inl x] M P :=
  c_65 hl hn h0 h1 (k _ rfl (q_apl_lay 2 1 1 (q_b4 x) n M hl) ((q_apl_nm (by decide) (q_b4 x) n M 1 1 hn).trans (by rw [if_pos ⟨rfl, rfl⟩]; rfl)))
theorem c_97 {d : Nat} {P : Int → qM → Prop} {M : qM} {x1 x2 x3 x4 x5 n : Int} (hl : q_lay M) (hn : q_nm M 1 1 = n) (h0 : 0 ≤ n) (h1 : n + 20 ≤ 2100) (hP : P (n + 20) (q_apl 2 1 1 (q_b4 x1 ++ (q_b4 x2 ++ (q_b4 x3 ++ (q_b4 x4 ++ q_b4 x5)))) n M)) : q_WP q_Pr (d + 2) 97 [.inr (.inr 0), .inl x1, .inl x2, .inl x3, .inl x4, .inl x5] M P := by
  refine q_enter (s_97_0 ?_)
  have e0 : w32 (q_nm M (q_rf M 0 0) 1 + 20) = n + 20 := by rw [lr0_0 hl, hn]; exact w32_id (by omega) (by omega)
  refine ⟨lk0 hl, by rw [lr0_0 hl]; exact lk1 hl, fun _ => ?_, fun g => absurd g (by omega)⟩
  refine c_97s hl (c_65x hl hn h0 (by omega) fun M1 e1 l1 n1 => ?_)
  refine c_97s l1 (c_65x l1 n1 (by omega) (by omega) fun M2 e2 l2 n2 => ?_)
  refine c_97s l2 (c_65x l2 n2 (by omega) (by omega) fun M3 e3 l3 n3 => ?_)
  refine c_97s l3 (c_65x l3 n3 (by omega) (by omega) fun M4 e4 l4 n4 => ?_)
  refine c_97s l4 (c_65x l4 n4 (by omega) (by omega) fun M5 e5 l5 n5 => ?_)
  refine c_97e l5 (n5.trans (show n + 4 + 4 + 4 + 4 + 4 = n + 20 by omega)) ?_
  have e : q_apl 2 1 1 (q_b4 x1 ++ (q_b4 x2 ++ (q_b4 x3 ++ (q_b4 x4 ++ q_b4 x5)))) n M = M5 := by
    rw [q_apl_app, q_apl_app, q_apl_app, q_apl_app, e5, e4, e3, e2, e1]
    rfl
  rw [e] at hP
  exact hP
end
