section
/-- numbers come behind one another in the cell A, their number stands at (B, f) -/
def q_apl (A B f : Int) : List Int → Int → qM → qM
  | [], _, M => M
  | y :: t, n, M => q_apl A B f t (n + 1) (q_wn (q_wn M A n y) B f (n + 1))
theorem q_apl_lay (A B f : Int) : ∀ (ys : List Int) (n : Int) (M : qM), q_lay M → q_lay (q_apl A B f ys n M)
  | [], _, _, h => h
  | y :: t, n, M, h => q_apl_lay A B f t (n + 1) (q_wn (q_wn M A n y) B f (n + 1)) h
theorem q_apl_nm {A B f : Int} (hAB : A ≠ B) : ∀ (ys : List Int) (n : Int) (M : qM) (a j : Int), q_nm M B f = n → q_nm (q_apl A B f ys n M) a j = if a = B ∧ j = f then n + ys.length else if a = A ∧ n ≤ j ∧ j < n + ys.length then ys.getD (j - n).toNat 0 else q_nm M a j
  | [], n, M, a, j, hn => by
    show q_nm M a j = _
    by_cases h : a = B ∧ j = f
    · rw [if_pos h, h.1, h.2, hn]; simp
    · rw [if_neg h, if_neg (by simp)]
  | y :: t, n, M, a, j, hn => by
    show q_nm (q_apl A B f t (n + 1) (q_wn (q_wn M A n y) B f (n + 1))) a j = _
    rw [q_apl_nm hAB t (n + 1) _ a j (by rw [q_wn_nm, if_pos ⟨rfl, rfl⟩])]
    by_cases h : a = B ∧ j = f
    · rw [if_pos h, if_pos h, List.length_cons]; omega
    · rw [if_neg h, if_neg h, q_wn_nm, if_neg h, q_wn_nm, List.length_cons]
      by_cases h1 : a = A ∧ j = n
      · rw [if_neg (by omega), if_pos h1, if_pos (by omega), h1.2, Int.sub_self]; rfl
      · rw [if_neg h1]
        by_cases h2 : a = A ∧ n + 1 ≤ j ∧ j < n + 1 + t.length
        · rw [if_pos h2, if_pos (by omega)]
          have e : (j - n).toNat = (j - (n + 1)).toNat + 1 := by omega
          rw [e]; rfl
        · rw [if_neg h2, if_neg (by omega)]
/-- the reference's feeding: a byte -/
theorem r_147s {d : Nat} {P : Int → qM → Prop} {M : qM} {x1 x2 x3 x4 x5 k n : Int} {c s : Nat} (hl : q_lay M) (hn : q_nm M 66 1 = n) (h0 : 0 ≤ n) (h1 : n < 2100) (hk : 0 ≤ k ∧ k < 20) {w sh : Int} (hw : w = if k < 4 then x1 else if k < 8 then x2 else if k < 12 then x3 else if k < 16 then x4 else x5) (hsh : sh = 8 * (3 - k % 4))
    (K : q_At q_m147 (q_WP q_Pr d) P 18 [(0, .inr (.inr 66)), (1, .inl x1), (2, .inl x2), (3, .inl x3), (4, .inl x4), (5, .inl x5), (6, .inl (k + 1))] [] (q_wn (q_wn M 67 n (q_and (q_shr w sh) 255)) 66 1 (n + 1)) c s) : q_At q_m147 (q_WP q_Pr d) P 18 [(0, .inr (.inr 66)), (1, .inl x1), (2, .inl x2), (3, .inl x3), (4, .inl x4), (5, .inl x5), (6, .inl k)] [] M c s := by
  refine s_147_18 ?_
  have e1 : w32 (8 * w32 (3 - Int.tmod k 4)) = sh := by
    rw [hsh, Int.tmod_eq_emod_of_nonneg hk.1, w32_id (x := 3 - k % 4) (by omega) (by omega), w32_id (by omega) (by omega)]
  have e2 : w32 (k + 1) = k + 1 := w32_id (by omega) (by omega)
  have e3 : ∀ v : Int, w32 (q_nm (q_wn M 67 n v) 66 1 + 1) = n + 1 := fun v => by
    rw [q_wn_nm, if_neg (by omega), hn]; exact w32_id (by omega) (by omega)
  rw [lr66_0 hl, hn, e1, e2]
  simp only [e3]
  have cnd : ((0 ≤ (67 : Int) ∧ q_kd M 67 = 14) ∧ 0 ≤ n ∧ n < q_ln M 67) := ⟨⟨by decide, lk67 hl⟩, h0, by rw [ll67 hl]; omega⟩
  refine ⟨fun g => absurd g (by omega), fun _ => ⟨fun g4 => ⟨fun g8 => ⟨fun g12 => ⟨fun g16 => ?_, fun g16 => ?_⟩, fun g12 => ?_⟩, fun g8 => ?_⟩, fun g4 => ?_⟩⟩
  · rw [if_neg (by omega), if_neg (by omega), if_neg (by omega), if_neg (by omega)] at hw
    rw [hw] at K
    exact ⟨lk66 hl, lk66 hl, by decide, cnd, lk66 hl, lk66 hl, K⟩
  · rw [if_neg (by omega), if_neg (by omega), if_neg (by omega), if_pos (by omega)] at hw
    rw [hw] at K
    exact ⟨lk66 hl, lk66 hl, by decide, cnd, lk66 hl, lk66 hl, K⟩
  · rw [if_neg (by omega), if_neg (by omega), if_pos (by omega)] at hw
    rw [hw] at K
    exact ⟨lk66 hl, lk66 hl, by decide, cnd, lk66 hl, lk66 hl, K⟩
  · rw [if_neg (by omega), if_pos (by omega)] at hw
    rw [hw] at K
    exact ⟨lk66 hl, lk66 hl, by decide, cnd, lk66 hl, lk66 hl, K⟩
  · rw [if_pos (by omega)] at hw
    rw [hw] at K
    exact ⟨lk66 hl, lk66 hl, by decide, cnd, lk66 hl, lk66 hl, K⟩
def q_ysF (x1 x2 x3 x4 x5 : Int) : List Int := [w8 (q_shr x1 24), w8 (q_shr x1 16), w8 (q_shr x1 8), w8 (q_shr x1 0), w8 (q_shr x2 24), w8 (q_shr x2 16), w8 (q_shr x2 8), w8 (q_shr x2 0), w8 (q_shr x3 24), w8 (q_shr x3 16), w8 (q_shr x3 8), w8 (q_shr x3 0), w8 (q_shr x4 24), w8 (q_shr x4 16), w8 (q_shr x4 8), w8 (q_shr x4 0), w8 (q_shr x5 24), w8 (q_shr x5 16), w8 (q_shr x5 8), w8 (q_shr x5 0)]
def q_zsF (x1 x2 x3 x4 x5 : Int) : List Int := [q_and (q_shr x1 24) 255, q_and (q_shr x1 16) 255, q_and (q_shr x1 8) 255, q_and (q_shr x1 0) 255, q_and (q_shr x2 24) 255, q_and (q_shr x2 16) 255, q_and (q_shr x2 8) 255, q_and (q_shr x2 0) 255, q_and (q_shr x3 24) 255, q_and (q_shr x3 16) 255, q_and (q_shr x3 8) 255, q_and (q_shr x3 0) 255, q_and (q_shr x4 24) 255, q_and (q_shr x4 16) 255, q_and (q_shr x4 8) 255, q_and (q_shr x4 0) 255, q_and (q_shr x5 24) 255, q_and (q_shr x5 16) 255, q_and (q_shr x5 8) 255, q_and (q_shr x5 0) 255]
theorem q_zysF (x1 x2 x3 x4 x5 : Int) : q_zsF x1 x2 x3 x4 x5 = (q_ysF x1 x2 x3 x4 x5).map (fun y => q_and y 255) := by
  unfold q_zsF q_ysF
  simp only [List.map_cons, List.map_nil, q_and_w8]
theorem c_97s {d : Nat} {M : qM} {x : Int} {Q : Int → qM → Prop} (hl : q_lay M) (k : q_WP q_Pr d 65 [.inr (.inr 1), .inl x] M Q) : q_kd M 0 = 10 ∧ (q_kd M (q_rf M 0 0) = 7 ∧ q_WP q_Pr d 65 [.inr (.inr (q_rf M 0 0)), .inl x] M Q) := by
  rw [lr0_0 hl]; exact ⟨lk0 hl, lk1 hl, k⟩
theorem c_97e {M : qM} {v : Int} {P : Int → qM → Prop} (hl : q_lay M) (hn : q_nm M 1 1 = v) (k : P v M) : q_kd M 0 = 10 ∧ (q_kd M (q_rf M 0 0) = 7 ∧ P (q_nm M (q_rf M 0 0) 1) M) := by
  rw [lr0_0 hl, hn]; exact ⟨lk0 hl, lk1 hl, k⟩
end
