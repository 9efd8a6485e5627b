section
/-! MEMORY BY A LIST OF MOVES, the oldest first: 0 a cell comes (kind, length), 1 a reference is written, 2 a number is written (cell, place, what) -/
abbrev qOp : Type := Nat × Int × Int × Int
def q_op (o : qOp) (M : qM) : qM := match o.1 with
  | 0 => q_al M o.2.1 o.2.2.1
  | 1 => q_wr M o.2.1 o.2.2.1 o.2.2.2
  | _ => q_wn M o.2.1 o.2.2.1 o.2.2.2
def q_run (l : List qOp) (M : qM) : qM := match l with
  | [] => M
  | o :: t => q_run t (q_op o M)
def q_rT (T : Int) (l : List qOp) : Int := match l with
  | [] => T
  | o :: t => match o.1 with
    | 0 => q_rT (T + 1) t
    | _ => q_rT T t
def q_rK (T : Int) (l : List qOp) (a : Int) (r : Int × Int) : Int × Int := match l with
  | [] => r
  | o :: t => match o.1 with
    | 0 => q_rK (T + 1) t a (if a = T then (o.2.1, o.2.2.1) else r)
    | _ => q_rK T t a r
def q_rR (T : Int) (l : List qOp) (a j r : Int) : Int := match l with
  | [] => r
  | o :: t => match o.1 with
    | 0 => q_rR (T + 1) t a j (if a = T then -1 else r)
    | 1 => q_rR T t a j (if a = o.2.1 ∧ j = o.2.2.1 then o.2.2.2 else r)
    | _ => q_rR T t a j r
def q_rN (T : Int) (l : List qOp) (a j r : Int) : Int := match l with
  | [] => r
  | o :: t => match o.1 with
    | 0 => q_rN (T + 1) t a j (if a = T then 0 else r)
    | 1 => q_rN T t a j r
    | _ => q_rN T t a j (if a = o.2.1 ∧ j = o.2.2.1 then o.2.2.2 else r)
/-- a cell's numbers are all 0: it came, and none was written -/
def q_rZ (T : Int) (l : List qOp) (a : Int) (r : Bool) : Bool := match l with
  | [] => r
  | o :: t => match o.1 with
    | 0 => q_rZ (T + 1) t a (if a = T then true else r)
    | 1 => q_rZ T t a r
    | _ => q_rZ T t a (if a = o.2.1 then false else r)
theorem q_op0 {o : qOp} (h : o.1 = 0) (M : qM) : q_op o M = q_al M o.2.1 o.2.2.1 := by unfold q_op; rw [h]; rfl
theorem q_op1 {o : qOp} (h : o.1 = 1) (M : qM) : q_op o M = q_wr M o.2.1 o.2.2.1 o.2.2.2 := by unfold q_op; rw [h]; rfl
theorem q_op2 {o : qOp} {n : Nat} (h : o.1 = n + 2) (M : qM) : q_op o M = q_wn M o.2.1 o.2.2.1 o.2.2.2 := by unfold q_op; rw [h]; rfl
theorem q_op_cases (o : qOp) : o.1 = 0 ∨ o.1 = 1 ∨ ∃ n, o.1 = n + 2 := by
  rcases h : o.1 with _ | _ | n
  · exact Or.inl rfl
  · exact Or.inr (Or.inl rfl)
  · exact Or.inr (Or.inr ⟨n, rfl⟩)
theorem q_run_top : ∀ (l : List qOp) (M : qM) (T : Int), q_top M = T → q_top (q_run l M) = q_rT T l
  | [], _, _, h => h
  | o :: t, M, T, h => by
    show q_top (q_run t (q_op o M)) = _
    rcases q_op_cases o with e | e | ⟨n, e⟩
    · rw [q_run_top t (q_op o M) (T + 1) (by rw [q_op0 e, q_al_top, h])]; unfold q_rT; rw [e]; cases t <;> rfl
    · rw [q_run_top t (q_op o M) T (by rw [q_op1 e, q_wr_top, h])]; rw [q_rT.eq_def T (o :: t)]; dsimp only; rw [e]; rfl
    · rw [q_run_top t (q_op o M) T (by rw [q_op2 e, q_wn_top, h])]; rw [q_rT.eq_def T (o :: t)]; dsimp only; rw [e]; rfl
theorem q_run_kl : ∀ (l : List qOp) (M : qM) (T a : Int) (r : Int × Int), q_top M = T → (q_kd M a, q_ln M a) = r → (q_kd (q_run l M) a, q_ln (q_run l M) a) = q_rK T l a r
  | [], _, _, _, _, _, h => h
  | o :: t, M, T, a, r, h, hr => by
    show (q_kd (q_run t (q_op o M)) a, q_ln (q_run t (q_op o M)) a) = _
    rw [q_rK.eq_def T (o :: t)]
    dsimp only
    rcases q_op_cases o with e | e | ⟨n, e⟩
    · rw [q_run_kl t (q_op o M) (T + 1) a (if a = T then (o.2.1, o.2.2.1) else r) (by rw [q_op0 e, q_al_top, h]) (by
        rw [q_op0 e, q_al_kd, q_al_ln, h]
        by_cases ha : a = T
        · rw [if_pos ha, if_pos ha, if_pos ha]
        · rw [if_neg ha, if_neg ha, if_neg ha, hr]), e]; rfl
    · rw [q_run_kl t (q_op o M) T a r (by rw [q_op1 e, q_wr_top, h]) (by rw [q_op1 e, q_wr_kd, q_wr_ln, hr]), e]; rfl
    · rw [q_run_kl t (q_op o M) T a r (by rw [q_op2 e, q_wn_top, h]) (by rw [q_op2 e, q_wn_kd, q_wn_ln, hr]), e]; rfl
theorem q_run_rf : ∀ (l : List qOp) (M : qM) (T a j r : Int), q_top M = T → q_rf M a j = r → q_rf (q_run l M) a j = q_rR T l a j r
  | [], _, _, _, _, _, _, h => h
  | o :: t, M, T, a, j, r, h, hr => by
    show q_rf (q_run t (q_op o M)) a j = _
    rw [q_rR.eq_def T (o :: t)]
    dsimp only
    rcases q_op_cases o with e | e | ⟨n, e⟩
    · rw [q_run_rf t (q_op o M) (T + 1) a j (if a = T then -1 else r) (by rw [q_op0 e, q_al_top, h]) (by rw [q_op0 e, q_al_rf, h, hr]), e]; rfl
    · rw [q_run_rf t (q_op o M) T a j (if a = o.2.1 ∧ j = o.2.2.1 then o.2.2.2 else r) (by rw [q_op1 e, q_wr_top, h]) (by rw [q_op1 e, q_wr_rf, hr]), e]; rfl
    · rw [q_run_rf t (q_op o M) T a j r (by rw [q_op2 e, q_wn_top, h]) (by rw [q_op2 e, q_wn_rf, hr]), e]; rfl
theorem q_run_nm : ∀ (l : List qOp) (M : qM) (T a j r : Int), q_top M = T → q_nm M a j = r → q_nm (q_run l M) a j = q_rN T l a j r
  | [], _, _, _, _, _, _, h => h
  | o :: t, M, T, a, j, r, h, hr => by
    show q_nm (q_run t (q_op o M)) a j = _
    rw [q_rN.eq_def T (o :: t)]
    dsimp only
    rcases q_op_cases o with e | e | ⟨n, e⟩
    · rw [q_run_nm t (q_op o M) (T + 1) a j (if a = T then 0 else r) (by rw [q_op0 e, q_al_top, h]) (by rw [q_op0 e, q_al_nm, h, hr]), e]; rfl
    · rw [q_run_nm t (q_op o M) T a j r (by rw [q_op1 e, q_wr_top, h]) (by rw [q_op1 e, q_wr_nm, hr]), e]; rfl
    · rw [q_run_nm t (q_op o M) T a j (if a = o.2.1 ∧ j = o.2.2.1 then o.2.2.2 else r) (by rw [q_op2 e, q_wn_top, h]) (by rw [q_op2 e, q_wn_nm, hr]), e]; rfl
theorem q_run_z : ∀ (l : List qOp) (M : qM) (T a : Int) (r : Bool), q_top M = T → (r = true → ∀ j, q_nm M a j = 0) → q_rZ T l a r = true → ∀ j, q_nm (q_run l M) a j = 0
  | [], _, _, _, _, _, hr, hz => hr hz
  | o :: t, M, T, a, r, h, hr, hz => by
    rw [q_rZ.eq_def T (o :: t)] at hz
    dsimp only at hz
    rcases q_op_cases o with e | e | ⟨n, e⟩
    · rw [e] at hz
      refine q_run_z t (q_op o M) (T + 1) a (if a = T then true else r) (by rw [q_op0 e, q_al_top, h]) (fun hb j => ?_) hz
      rw [q_op0 e, q_al_nm, h]
      by_cases ha : a = T
      · rw [if_pos ha]
      · rw [if_neg ha]; rw [if_neg ha] at hb; exact hr hb j
    · rw [e] at hz
      exact q_run_z t (q_op o M) T a r (by rw [q_op1 e, q_wr_top, h]) (fun hb j => by rw [q_op1 e, q_wr_nm]; exact hr hb j) hz
    · rw [e] at hz
      refine q_run_z t (q_op o M) T a (if a = o.2.1 then false else r) (by rw [q_op2 e, q_wn_top, h]) (fun hb j => ?_) hz
      by_cases ha : a = o.2.1
      · rw [if_pos ha] at hb; cases hb
      · rw [if_neg ha] at hb
        rw [q_op2 e, q_wn_nm, if_neg (fun k => ha k.1)]; exact hr hb j
end
