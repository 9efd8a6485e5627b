section
/-! THE GRAMMAR over tokens T: where it ended and its code, or a fault's kind and token -/
abbrev gR : Type := (Nat × List Int) ⊕ (Int × Nat)
def gB (r : gR) (k : Nat → List Int → gR) : gR := match r with
  | .inl x => k x.1 x.2
  | .inr f => .inr f
def gPart (T : Nat → Int) (D5 : Nat → Bool) (inner : Nat → gR) (full : Bool) (i : Nat) : gR :=
  if T i = 40 then (if full = true then .inr (4, i) else gB (inner (i + 1)) fun j c => if T j = 41 then .inl (j + 1, c) else .inr (1, j))
  else if T i = 22 ∨ T i = 23 then (if T (i + 1) = 40 then (if full = true then .inr (4, i + 1) else gB (inner (i + 2)) fun j c => if T j = 44 then gB (inner (j + 1)) fun j2 c2 => if T j2 = 41 then .inl (j2 + 1, c ++ c2 ++ [T i]) else .inr (1, j2) else .inr (1, j)) else .inr (1, i + 1))
  else if 15 ≤ T i ∧ T i ≤ 21 then .inl (i + 1, [T i])
  else if 1000 ≤ T i then (if D5 i = true then .inr (1, i + 1) else .inl (i + 1, [T i]))
  else .inr (1, i)
def gLoop (T : Nat → Int) (op : Int → Bool) (p : Nat → gR) : Nat → Nat → List Int → gR
  | 0, i, c => .inl (i, c)
  | n + 1, i, c => if op (T i) = true then gB (p (i + 1)) (fun j c2 => gLoop T op p n j (c ++ c2 ++ [T i])) else .inl (i, c)
def oM (t : Int) : Bool := decide (t = 42 ∨ t = 47)
def oA (t : Int) : Bool := decide (t = 43 ∨ t = 45)
def oN (t : Int) : Bool := decide (t = 11)
def oO (t : Int) : Bool := decide (t = 10)
def gL1 (T : Nat → Int) (op : Int → Bool) (p : Nat → gR) (i : Nat) : gR := gB (p i) (fun j c => gLoop T op p 2100 j c)
def gSum (T : Nat → Int) (D5 : Nat → Bool) : Nat → Nat → gR
  | 0, i => .inr (4, i)
  | m + 1, i => gL1 T oA (gL1 T oM (gPart T D5 (gSum T D5 m) (decide (m = 0)))) i
def gFact (T : Nat → Int) (D5 : Nat → Bool) : Nat → Nat → gR
  | 0, i => .inr (4, i)
  | m + 1, i => if T i = 12 then (if m = 0 then .inr (4, i) else gB (gFact T D5 m (i + 1)) fun j c => .inl (j, c ++ [12]))
    else if T i = 91 then (if m = 0 then .inr (4, i) else gB (gL1 T oO (gL1 T oN (gFact T D5 m)) (i + 1)) fun j c => if T j = 93 then .inl (j + 1, c) else .inr (1, j))
    else if T i = 13 ∨ T i = 14 then .inl (i + 1, [T i])
    else gB (gSum T D5 (m + 1) i) fun j c => if T j = 60 ∨ T j = 61 ∨ T j = 62 then gB (gSum T D5 (m + 1) (j + 1)) fun j2 c2 => .inl (j2, c ++ c2 ++ [T j]) else .inr (1, j)
def gTest (T : Nat → Int) (D5 : Nat → Bool) (m i : Nat) : gR := gL1 T oO (gL1 T oN (gFact T D5 m)) i
def gStmt (T : Nat → Int) (D5 : Nat → Bool) (i : Nat) : (Nat × qS) ⊕ (Int × Nat) :=
  if 0 ≤ T i ∧ T i ≤ 8 then (match gSum T D5 7 (i + 1) with
    | .inr f => .inr f
    | .inl x => if T x.1 = 9 then (match gTest T D5 7 (x.1 + 1) with
      | .inr f => .inr f
      | .inl y => if T y.1 = 59 then .inl (y.1 + 1, (T i, x.2, y.2)) else .inr (1, y.1)) else .inr (1, x.1)) else .inr (1, i)
def gAll (T : Nat → Int) (D5 : Nat → Bool) : Nat → Nat → List qS ⊕ (Int × Nat)
  | 0, i => if T i = -1 then .inl [] else .inr (5, i)
  | n + 1, i => if T i = -1 then .inl [] else (match gStmt T D5 i with
    | .inr f => .inr f
    | .inl x => (match gAll T D5 n x.1 with
      | .inr f => .inr f
      | .inl l => .inl (x.2 :: l)))
theorem gB_inl {r : gR} {k : Nat → List Int → gR} {z : Nat × List Int} (h : gB r k = .inl z) : ∃ j c, r = .inl (j, c) ∧ k j c = .inl z := by
  cases r with
  | inl x => exact ⟨x.1, x.2, rfl, h⟩
  | inr f => exact absurd h (by simp [gB])
/-- a reading moves on, a token for each step of its code at least -/
def gLn (p : Nat → gR) : Prop := ∀ i j c, p i = .inl (j, c) → (i + c.length ≤ j ∧ i < j)
theorem gLoop_ln {T : Nat → Int} {op : Int → Bool} {p : Nat → gR} (hp : gLn p) : ∀ n i c j c', gLoop T op p n i c = .inl (j, c') → (i + c'.length ≤ j + c.length ∧ i ≤ j ∧ c.length ≤ c'.length) := by
  intro n
  induction n with
  | zero =>
    intro i c j c' h
    have e : (i, c) = (j, c') := Sum.inl.inj h
    have e1 : i = j := congrArg Prod.fst e
    have e2 : c = c' := congrArg Prod.snd e
    subst e1; subst e2
    omega
  | succ n ih =>
    intro i c j c' h
    unfold gLoop at h
    split at h
    · obtain ⟨k, c2, q1, q2⟩ := gB_inl h
      have a := hp _ _ _ q1
      have b := ih _ _ _ _ q2
      simp only [List.length_append, List.length_cons, List.length_nil] at b
      omega
    · have e : (i, c) = (j, c') := Sum.inl.inj h
      have e1 : i = j := congrArg Prod.fst e
      have e2 : c = c' := congrArg Prod.snd e
      subst e1; subst e2
      omega
theorem gL1_ln {T : Nat → Int} {op : Int → Bool} {p : Nat → gR} (hp : gLn p) : gLn (gL1 T op p) := by
  intro i j c h
  obtain ⟨k, c2, q1, q2⟩ := gB_inl h
  have a := hp _ _ _ q1
  have b := gLoop_ln hp _ _ _ _ _ q2
  omega
theorem inl2 {i j : Nat} {c d : List Int} (h : (Sum.inl (i, c) : gR) = .inl (j, d)) : i = j ∧ c = d := by
  have e : (i, c) = (j, d) := Sum.inl.inj h
  exact ⟨congrArg Prod.fst e, congrArg Prod.snd e⟩
theorem gPart_ln {T : Nat → Int} {D5 : Nat → Bool} {inner : Nat → gR} {full : Bool} (hp : gLn inner) : gLn (gPart T D5 inner full) := by
  intro i j c h
  unfold gPart at h
  split at h
  · split at h
    · exact absurd h (by simp)
    · obtain ⟨k, c2, q1, q2⟩ := gB_inl h
      have a := hp _ _ _ q1
      split at q2
      · obtain ⟨e1, e2⟩ := inl2 q2
        subst e2; omega
      · exact absurd q2 (by simp)
  · split at h
    · split at h
      · split at h
        · exact absurd h (by simp)
        · obtain ⟨k, c2, q1, q2⟩ := gB_inl h
          have a := hp _ _ _ q1
          split at q2
          · obtain ⟨k3, c3, q3, q4⟩ := gB_inl q2
            have b := hp _ _ _ q3
            split at q4
            · obtain ⟨e1, e2⟩ := inl2 q4
              subst e2
              simp only [List.length_append, List.length_cons, List.length_nil]
              omega
            · exact absurd q4 (by simp)
          · exact absurd q2 (by simp)
      · exact absurd h (by simp)
    · split at h
      · obtain ⟨e1, e2⟩ := inl2 h
        subst e2
        simp only [List.length_cons, List.length_nil]; omega
      · split at h
        · split at h
          · exact absurd h (by simp)
          · obtain ⟨e1, e2⟩ := inl2 h
            subst e2
            simp only [List.length_cons, List.length_nil]; omega
        · exact absurd h (by simp)
theorem gSum_ln {T : Nat → Int} {D5 : Nat → Bool} : ∀ m, gLn (gSum T D5 m)
  | 0 => fun i j c h => absurd h (by simp [gSum])
  | m + 1 => gL1_ln (gL1_ln (gPart_ln (gSum_ln m)))
theorem gFact_ln {T : Nat → Int} {D5 : Nat → Bool} : ∀ m, gLn (gFact T D5 m)
  | 0 => fun i j c h => absurd h (by simp [gFact])
  | m + 1 => fun i j c h => by
    unfold gFact at h
    split at h
    · split at h
      · exact absurd h (by simp)
      · obtain ⟨k, c2, q1, q2⟩ := gB_inl h
        have a := gFact_ln m _ _ _ q1
        obtain ⟨e1, e2⟩ := inl2 q2
        subst e2
        simp only [List.length_append, List.length_cons, List.length_nil]; omega
    · split at h
      · split at h
        · exact absurd h (by simp)
        · obtain ⟨k, c2, q1, q2⟩ := gB_inl h
          have a := gL1_ln (gL1_ln (gFact_ln m)) _ _ _ q1
          split at q2
          · obtain ⟨e1, e2⟩ := inl2 q2
            subst e2; omega
          · exact absurd q2 (by simp)
      · split at h
        · obtain ⟨e1, e2⟩ := inl2 h
          subst e2
          simp only [List.length_cons, List.length_nil]; omega
        · obtain ⟨k, c2, q1, q2⟩ := gB_inl h
          have a := gSum_ln (m + 1) _ _ _ q1
          split at q2
          · obtain ⟨k3, c3, q3, q4⟩ := gB_inl q2
            have b := gSum_ln (m + 1) _ _ _ q3
            obtain ⟨e1, e2⟩ := inl2 q4
            subst e2
            simp only [List.length_append, List.length_cons, List.length_nil]; omega
          · exact absurd q2 (by simp)
theorem gTest_ln {T : Nat → Int} {D5 : Nat → Bool} (m : Nat) : gLn (gTest T D5 m) := gL1_ln (gL1_ln (gFact_ln m))
end
section
/-! WHAT IS READ IS WELL TYPED -/
theorem tyr_c {t : Int} {c : List Int} {s s' : List Bool} (q : ¬ 100 ≤ s.length) (e : tys t s = some s') : tyr (t :: c) s = tyr c s' := by
  show (if 100 ≤ s.length then none else (match tys t s with | some s' => tyr c s' | none => none)) = _
  rw [if_neg q, e]
theorem tyr_app : ∀ (c d : List Int) (s s1 : List Bool), tyr c s = some s1 → tyr (c ++ d) s = tyr d s1
  | [], d, s, s1, h => by
    have e : s = s1 := Option.some.inj h
    rw [e]; rfl
  | t :: c, d, s, s1, h => by
    rw [List.cons_append]
    by_cases q : 100 ≤ s.length
    · unfold tyr at h; rw [if_pos q] at h; exact absurd h (by simp)
    · cases e : tys t s with
      | none => unfold tyr at h; rw [if_neg q, e] at h; exact absurd h (by simp)
      | some s' =>
        rw [tyr_c q e] at h ⊢
        exact tyr_app c d s' s1 h
theorem tyr_one {t : Int} {s s1 : List Bool} (h : s.length < 100) (e : tys t s = some s1) : tyr [t] s = some s1 := by
  rw [tyr_c (by omega) e]; rfl
/-- a reading's code puts one value of type b on a pile that is not too high -/
def gTy (b : Bool) (h : Nat) (p : Nat → gR) : Prop := ∀ i j c, p i = .inl (j, c) → ∀ s : List Bool, s.length + h ≤ 100 → tyr c s = some (b :: s)
theorem gTy_two {b : Bool} {h : Nat} {c c2 : List Int} {t : Int} {s : List Bool} {b2 : Bool} (h1 : tyr c s = some (b :: s)) (h2 : tyr c2 (b :: s) = some (b :: b :: s)) (ht : tys t (b :: b :: s) = some (b2 :: s)) (hl : s.length + 3 ≤ 100) : tyr (c ++ c2 ++ [t]) s = some (b2 :: s) := by
  rw [List.append_assoc, tyr_app c _ s _ h1, tyr_app c2 _ _ _ h2]
  exact tyr_one (by simp only [List.length_cons]; omega) ht
theorem gLoop_ty {T : Nat → Int} {op : Int → Bool} {p : Nat → gR} {b : Bool} {h : Nat} (hh : 2 ≤ h) (hp : gTy b h p) (ho : ∀ t, op t = true → ∀ s, tys t (b :: b :: s) = some (b :: s)) : ∀ n i c j c', gLoop T op p n i c = .inl (j, c') → ∀ s : List Bool, s.length + (h + 1) ≤ 100 → tyr c s = some (b :: s) → tyr c' s = some (b :: s) := by
  intro n
  induction n with
  | zero =>
    intro i c j c' q s hs hc
    obtain ⟨e1, e2⟩ := inl2 q
    rw [← e2]; exact hc
  | succ n ih =>
    intro i c j c' q s hs hc
    unfold gLoop at q
    split at q
    · rename_i hop
      obtain ⟨k, c2, q1, q2⟩ := gB_inl q
      have h2 := hp _ _ _ q1 (b :: s) (by simp only [List.length_cons]; omega)
      exact ih _ _ _ _ q2 s hs (gTy_two (h := h) hc h2 (ho _ hop s) (by omega))
    · obtain ⟨e1, e2⟩ := inl2 q
      rw [← e2]; exact hc
theorem gL1_ty {T : Nat → Int} {op : Int → Bool} {p : Nat → gR} {b : Bool} {h : Nat} (hh : 2 ≤ h) (hp : gTy b h p) (ho : ∀ t, op t = true → ∀ s, tys t (b :: b :: s) = some (b :: s)) : gTy b (h + 1) (gL1 T op p) := by
  intro i j c q s hs
  obtain ⟨k, c2, q1, q2⟩ := gB_inl q
  exact gLoop_ty hh hp ho _ _ _ _ _ q2 s hs (hp _ _ _ q1 s (by omega))
theorem tys_ar {t : Int} (h : t = 42 ∨ t = 43 ∨ t = 45 ∨ t = 47 ∨ t = 22 ∨ t = 23) (s : List Bool) : tys t (false :: false :: s) = some (false :: s) := by
  rcases h with h | h | h | h | h | h <;> subst h <;> rfl
theorem tys_cm {t : Int} (h : t = 60 ∨ t = 61 ∨ t = 62) (s : List Bool) : tys t (false :: false :: s) = some (true :: s) := by
  rcases h with h | h | h <;> subst h <;> rfl
theorem tys_bl {t : Int} (h : t = 10 ∨ t = 11) (s : List Bool) : tys t (true :: true :: s) = some (true :: s) := by
  rcases h with h | h <;> subst h <;> rfl
theorem tys_pl {t : Int} (h : (1000 ≤ t ∧ t ≤ 10999) ∨ (15 ≤ t ∧ t ≤ 21)) (s : List Bool) : tys t s = some (false :: s) := by
  unfold tys; rw [if_pos h]
theorem tys_al {t : Int} (h : t = 13 ∨ t = 14) (s : List Bool) : tys t s = some (true :: s) := by
  rcases h with h | h <;> subst h <;> rfl
theorem gPart_ty {T : Nat → Int} {D5 : Nat → Bool} {inner : Nat → gR} {full : Bool} {h : Nat} (hT : ∀ i, T i ≤ 10999) (hh : 2 ≤ h) (hp : gTy false h inner) : gTy false (h + 1) (gPart T D5 inner full) := by
  intro i j c q s hs
  unfold gPart at q
  split at q
  · split at q
    · exact absurd q (by simp)
    · obtain ⟨k, c2, q1, q2⟩ := gB_inl q
      split at q2
      · obtain ⟨e1, e2⟩ := inl2 q2
        rw [← e2]; exact hp _ _ _ q1 s (by omega)
      · exact absurd q2 (by simp)
  · split at q
    · rename_i ht
      split at q
      · split at q
        · exact absurd q (by simp)
        · obtain ⟨k, c2, q1, q2⟩ := gB_inl q
          split at q2
          · obtain ⟨k3, c3, q3, q4⟩ := gB_inl q2
            split at q4
            · obtain ⟨e1, e2⟩ := inl2 q4
              rw [← e2]
              exact gTy_two (h := h) (hp _ _ _ q1 s (by omega)) (hp _ _ _ q3 (false :: s) (by simp only [List.length_cons]; omega)) (tys_ar (by omega) s) (by omega)
            · exact absurd q4 (by simp)
          · exact absurd q2 (by simp)
      · exact absurd q (by simp)
    · split at q
      · rename_i ht
        obtain ⟨e1, e2⟩ := inl2 q
        rw [← e2]; exact tyr_one (by omega) (tys_pl (Or.inr ht) s)
      · split at q
        · rename_i ht
          split at q
          · exact absurd q (by simp)
          · obtain ⟨e1, e2⟩ := inl2 q
            rw [← e2]; exact tyr_one (by omega) (tys_pl (Or.inl ⟨ht, hT i⟩) s)
        · exact absurd q (by simp)
theorem gSum_ty {T : Nat → Int} {D5 : Nat → Bool} (hT : ∀ i, T i ≤ 10999) : ∀ m, gTy false (3 * m + 3) (gSum T D5 m)
  | 0 => fun i j c h => absurd h (by simp [gSum])
  | m + 1 => gL1_ty (h := 3 * m + 5) (by omega) (gL1_ty (h := 3 * m + 4) (by omega) (gPart_ty hT (by omega) (gSum_ty hT m)) (fun t ht s => tys_ar (by unfold oM at ht; rw [decide_eq_true_eq] at ht; omega) s)) (fun t ht s => tys_ar (by unfold oA at ht; rw [decide_eq_true_eq] at ht; omega) s)
theorem gTestF_ty {T : Nat → Int} {h : Nat} {p : Nat → gR} (hh : 2 ≤ h) (hp : gTy true h p) : gTy true (h + 2) (gL1 T oO (gL1 T oN p)) :=
  gL1_ty (h := h + 1) (by omega) (gL1_ty hh hp (fun t ht s => tys_bl (by unfold oN at ht; rw [decide_eq_true_eq] at ht; omega) s)) (fun t ht s => tys_bl (by unfold oO at ht; rw [decide_eq_true_eq] at ht; omega) s)
theorem gFact_ty {T : Nat → Int} {D5 : Nat → Bool} (hT : ∀ i, T i ≤ 10999) : ∀ m, gTy true (5 * m + 5) (gFact T D5 m)
  | 0 => fun i j c h => absurd h (by simp [gFact])
  | m + 1 => fun i j c h s hs => by
    unfold gFact at h
    split at h
    · split at h
      · exact absurd h (by simp)
      · obtain ⟨k, c2, q1, q2⟩ := gB_inl h
        obtain ⟨e1, e2⟩ := inl2 q2
        rw [← e2, tyr_app c2 _ s _ (gFact_ty hT m _ _ _ q1 s (by omega))]
        exact tyr_one (by simp only [List.length_cons]; omega) rfl
    · split at h
      · split at h
        · exact absurd h (by simp)
        · obtain ⟨k, c2, q1, q2⟩ := gB_inl h
          split at q2
          · obtain ⟨e1, e2⟩ := inl2 q2
            rw [← e2]; exact gTestF_ty (by omega) (gFact_ty hT m) _ _ _ q1 s (by omega)
          · exact absurd q2 (by simp)
      · split at h
        · rename_i ht
          obtain ⟨e1, e2⟩ := inl2 h
          rw [← e2]; exact tyr_one (by omega) (tys_al ht s)
        · obtain ⟨k, c2, q1, q2⟩ := gB_inl h
          split at q2
          · rename_i ht
            obtain ⟨k3, c3, q3, q4⟩ := gB_inl q2
            obtain ⟨e1, e2⟩ := inl2 q4
            rw [← e2]
            exact gTy_two (h := 0) (gSum_ty hT (m + 1) _ _ _ q1 s (by omega)) (gSum_ty hT (m + 1) _ _ _ q3 (false :: s) (by simp only [List.length_cons]; omega)) (tys_cm ht s) (by omega)
          · exact absurd q2 (by simp)
theorem gStmt_inl {T : Nat → Int} {D5 : Nat → Bool} {i j : Nat} {st : qS} (h : gStmt T D5 i = .inl (j, st)) : (0 ≤ T i ∧ T i ≤ 8) ∧ ∃ x y c1 c2, gSum T D5 7 (i + 1) = .inl (x, c1) ∧ T x = 9 ∧ gTest T D5 7 (x + 1) = .inl (y, c2) ∧ T y = 59 ∧ j = y + 1 ∧ st = (T i, c1, c2) := by
  unfold gStmt at h
  split at h
  · rename_i hk
    refine ⟨hk, ?_⟩
    cases e1 : gSum T D5 7 (i + 1) with
    | inr f => rw [e1] at h; exact absurd h (by simp)
    | inl x =>
      rw [e1] at h
      dsimp only at h
      split at h
      · rename_i h9
        cases e2 : gTest T D5 7 (x.1 + 1) with
        | inr f => rw [e2] at h; exact absurd h (by simp)
        | inl y =>
          rw [e2] at h
          dsimp only at h
          split at h
          · rename_i h59
            have e : (y.1 + 1, (T i, x.2, y.2)) = (j, st) := Sum.inl.inj h
            exact ⟨x.1, y.1, x.2, y.2, rfl, h9, e2, h59, (congrArg Prod.fst e).symm, (congrArg Prod.snd e).symm⟩
          · exact absurd h (by simp)
      · exact absurd h (by simp)
  · exact absurd h (by simp)
theorem gAll_ok {T : Nat → Int} {D5 : Nat → Bool} (hT : ∀ i, T i ≤ 10999) : ∀ n i sc, gAll T D5 n i = .inl sc → (sc.length ≤ n ∧ ∀ st ∈ sc, (tyr st.2.1 [] = some [false] ∧ tyr st.2.2 [] = some [true])) := by
  intro n
  induction n with
  | zero =>
    intro i sc h
    unfold gAll at h
    split at h
    · rw [← Sum.inl.inj h]; exact ⟨Nat.le_refl _, fun st hs => absurd hs List.not_mem_nil⟩
    · exact absurd h (by simp)
  | succ n ih =>
    intro i sc h
    unfold gAll at h
    split at h
    · rw [← Sum.inl.inj h]; exact ⟨Nat.zero_le _, fun st hs => absurd hs List.not_mem_nil⟩
    · cases e1 : gStmt T D5 i with
      | inr f => rw [e1] at h; exact absurd h (by simp)
      | inl x =>
        rw [e1] at h
        dsimp only at h
        cases e2 : gAll T D5 n x.1 with
        | inr f => rw [e2] at h; exact absurd h (by simp)
        | inl l =>
          rw [e2] at h
          have e : x.2 :: l = sc := Sum.inl.inj h
          have q := ih _ _ e2
          rw [← e]
          refine ⟨by rw [List.length_cons]; omega, fun st hs => ?_⟩
          rcases List.mem_cons.mp hs with hs | hs
          · obtain ⟨_, a, b, c1, c2, p1, _, p2, _, _, p3⟩ := gStmt_inl (show gStmt T D5 i = .inl (x.1, x.2) from e1)
            rw [hs, p3]
            exact ⟨gSum_ty hT 7 _ _ _ p1 [] (by decide), gTestF_ty (by omega) (gFact_ty hT 7) _ _ _ p2 [] (by decide)⟩
          · exact q.2 st hs
theorem gAll_G {T : Nat → Int} {D5 : Nat → Bool} (hT : ∀ i, T i ≤ 10999) {i : Nat} {sc : List qS} (h : gAll T D5 20 i = .inl sc) : G_sc sc := gAll_ok hT 20 i sc h
end
