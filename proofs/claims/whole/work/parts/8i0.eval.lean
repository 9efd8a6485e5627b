section
/-! SUMS AND TESTS: what a code comes to -/
def clp (x : Int) : Int := max (-1000000) (min 1000000 x)
/-- division rounded down -/
def fl (a b : Int) : Int := if b = 0 then 0 else if a.tmod b = 0 ∨ (a < 0 ↔ b < 0) then a.tdiv b else a.tdiv b - 1
def jn (t a b : Int) : Int := if t = 11 ∨ t = 22 then min a b else if t = 42 then a * b else if t = 43 then a + b else if t = 45 then a - b else if t = 47 then fl a b else if t = 60 then (if a < b then 1 else 0) else if t = 61 then (if a = b then 1 else 0) else if t = 62 then (if a > b then 1 else 0) else max a b
def plain (t : Int) : Prop := 1000 ≤ t ∨ (13 ≤ t ∧ t ≤ 21)
def pv (F : Int → Int) (t : Int) : Int := if 1000 ≤ t then t - 1000 else F t
/-- one step; the stack's top first; types: true a test, false a number -/
def stp (F : Int → Int) (t : Int) (st : List Int) : List Int :=
  if 1000 ≤ t ∨ (13 ≤ t ∧ t ≤ 21) then pv F t :: st else if t = 12 then (match st with | x :: r => (1 - x) :: r | [] => []) else (match st with | b :: a :: r => clp (jn t a b) :: r | s => s)
def evs (F : Int → Int) (code : List Int) (st : List Int) : List Int := code.foldl (fun s t => stp F t s) st
def ev (F : Int → Int) (code : List Int) : Int := (evs F code []).headD 0
def tys (t : Int) (st : List Bool) : Option (List Bool) :=
  if (1000 ≤ t ∧ t ≤ 10999) ∨ (15 ≤ t ∧ t ≤ 21) then some (false :: st) else if t = 13 ∨ t = 14 then some (true :: st)
  else if t = 12 then (match st with | true :: r => some (true :: r) | _ => none)
  else if t = 10 ∨ t = 11 then (match st with | true :: true :: r => some (true :: r) | _ => none)
  else if t = 60 ∨ t = 61 ∨ t = 62 then (match st with | false :: false :: r => some (true :: r) | _ => none)
  else if t = 42 ∨ t = 43 ∨ t = 45 ∨ t = 47 ∨ t = 22 ∨ t = 23 then (match st with | false :: false :: r => some (false :: r) | _ => none) else none
def tyr : List Int → List Bool → Option (List Bool)
  | [], s => some s
  | t :: c, s => if 100 ≤ s.length then none else (match tys t s with | some s' => tyr c s' | none => none)
def okV (b : Bool) (x : Int) : Prop := if b then (x = 0 ∨ x = 1) else (-1000000 ≤ x ∧ x ≤ 1000000)
def stv : List Bool → List Int → Prop
  | [], [] => True
  | b :: s, x :: r => okV b x ∧ stv s r
  | _, _ => False
def okF (F : Int → Int) : Prop := (F 13 = 1 ∧ (F 14 = 0 ∨ F 14 = 1)) ∧ ∀ t, 15 ≤ t → t ≤ 21 → (-1000000 ≤ F t ∧ F t ≤ 1000000)
theorem tdiv_rng {a b : Int} (ha : -1000000 ≤ a ∧ a ≤ 1000000) (hb : b ≠ 0) : -1000000 ≤ a.tdiv b ∧ a.tdiv b ≤ 1000000 ∧ (a.tdiv b = -1000000 → a.tmod b = 0) := by
  have h1 : (a.tdiv b).natAbs = a.natAbs / b.natAbs := Int.natAbs_tdiv a b
  have h2 : a.natAbs / b.natAbs ≤ a.natAbs := Nat.div_le_self _ _
  refine ⟨by omega, by omega, fun e => ?_⟩
  have h3 : b.natAbs = 1 := by
    refine Classical.byContradiction fun h => ?_
    have h4 : 2 ≤ b.natAbs := by omega
    have h5 : a.natAbs / b.natAbs ≤ a.natAbs / 2 := Nat.div_le_div_left h4 (by decide)
    omega
  have h6 : b = 1 ∨ b = -1 := by omega
  rcases h6 with h | h
  · rw [h]; exact Int.tmod_one a
  · rw [h, Int.tmod_neg]; exact Int.tmod_one a
theorem fl_rng {a b : Int} (ha : -1000000 ≤ a ∧ a ≤ 1000000) : -1000000 ≤ fl a b ∧ fl a b ≤ 1000000 := by
  unfold fl
  split
  · omega
  · rename_i hb
    have := tdiv_rng ha hb
    split
    · omega
    · rename_i h
      have : a.tdiv b ≠ -1000000 := fun e => h (Or.inl (this.2.2 e))
      omega
theorem clp_id {x : Int} (h : -1000000 ≤ x ∧ x ≤ 1000000) : clp x = x := by unfold clp; omega
theorem clp_rng (x : Int) : -1000000 ≤ clp x ∧ clp x ≤ 1000000 := by unfold clp; omega
/-- a typed step keeps the types -/
theorem stp_ok {F : Int → Int} (hF : okF F) {t : Int} {s s' : List Bool} {st : List Int} (h : tys t s = some s') (hs : stv s st) : stv s' (stp F t st) := by
  unfold tys at h
  unfold stp
  split at h
  · rename_i c
    rw [if_pos (by omega)]
    have e : s' = false :: s := by simpa using h.symm
    rw [e]
    refine ⟨?_, hs⟩
    show -1000000 ≤ pv F t ∧ pv F t ≤ 1000000
    unfold pv
    split
    · omega
    · exact hF.2 t (by omega) (by omega)
  · split at h
    · rename_i c1 c
      rw [if_pos (by omega)]
      have e : s' = true :: s := by simpa using h.symm
      rw [e]
      refine ⟨?_, hs⟩
      show pv F t = 0 ∨ pv F t = 1
      unfold pv
      rw [if_neg (by omega)]
      rcases c with c | c
      · rw [c]; exact Or.inr hF.1.1
      · rw [c]; exact hF.1.2
    · split at h
      · rename_i c1 c2 c
        rw [if_neg (by omega), if_pos c]
        split at h
        · rename_i r
          have e : s' = true :: r := by simpa using h.symm
          rw [e]
          cases st with
          | nil => exact absurd hs id
          | cons x q =>
            have h1 : x = 0 ∨ x = 1 := hs.1
            refine ⟨?_, hs.2⟩
            show 1 - x = 0 ∨ 1 - x = 1
            omega
        · exact absurd h (by simp)
      · split at h
        · rename_i c1 c2 c3 c
          rw [if_neg (by omega), if_neg (by omega)]
          split at h
          · rename_i r
            have e : s' = true :: r := by simpa using h.symm
            rw [e]
            cases st with
            | nil => exact absurd hs id
            | cons b q =>
              cases q with
              | nil => exact absurd hs.2 id
              | cons a q =>
                have h1 : b = 0 ∨ b = 1 := hs.1
                have h2 : a = 0 ∨ a = 1 := hs.2.1
                refine ⟨?_, hs.2.2⟩
                show clp (jn t a b) = 0 ∨ clp (jn t a b) = 1
                have hj : jn t a b = 0 ∨ jn t a b = 1 := by
                  unfold jn
                  rcases c with c | c <;> subst c <;> simp <;> omega
                rw [clp_id (by omega)]; exact hj
          · exact absurd h (by simp)
        · split at h
          · rename_i c1 c2 c3 c4 c
            rw [if_neg (by omega), if_neg (by omega)]
            split at h
            · rename_i r
              have e : s' = true :: r := by simpa using h.symm
              rw [e]
              cases st with
              | nil => exact absurd hs id
              | cons b q =>
                cases q with
                | nil => exact absurd hs.2 id
                | cons a q =>
                  refine ⟨?_, hs.2.2⟩
                  show clp (jn t a b) = 0 ∨ clp (jn t a b) = 1
                  have hj : jn t a b = 0 ∨ jn t a b = 1 := by
                    unfold jn
                    rcases c with c | c | c <;> subst c <;> simp <;> omega
                  rw [clp_id (by omega)]; exact hj
            · exact absurd h (by simp)
          · split at h
            · rename_i c1 c2 c3 c4 c5 c
              rw [if_neg (by omega), if_neg (by omega)]
              split at h
              · rename_i r
                have e : s' = false :: r := by simpa using h.symm
                rw [e]
                cases st with
                | nil => exact absurd hs id
                | cons b q =>
                  cases q with
                  | nil => exact absurd hs.2 id
                  | cons a q => exact ⟨clp_rng _, hs.2.2⟩
              · exact absurd h (by simp)
            · exact absurd h (by simp)
theorem stv_len : ∀ {s : List Bool} {st : List Int}, stv s st → st.length = s.length
  | [], [], _ => rfl
  | [], _ :: _, h => absurd h id
  | _ :: _, [], h => absurd h id
  | _ :: s, _ :: r, h => by rw [List.length_cons, List.length_cons, stv_len h.2]
theorem q_lxor_neg {x y : Int} (hx : -9223372036854775808 ≤ x ∧ x < 9223372036854775808) (hy : -9223372036854775808 ≤ y ∧ y < 9223372036854775808) : (q_lxor x y < 0 ↔ ¬ (x < 0 ↔ y < 0)) := by
  have e : ∀ z : Int, -9223372036854775808 ≤ z ∧ z < 9223372036854775808 → ((BitVec.ofInt 64 z).msb = true ↔ z < 0) := fun z hz => by
    rw [BitVec.msb_eq_toInt, decide_eq_true_iff, BitVec.toInt_ofInt]
    have : z.bmod (2 ^ 64) = z := by
      rw [Int.bmod_def]; simp only [Nat.reducePow]; split <;> omega
    rw [this]
  unfold q_lxor
  show (Int64.ofInt x ^^^ Int64.ofInt y).toBitVec.toInt < 0 ↔ _
  rw [Int64.toBitVec_xor, Int64.toBitVec_ofInt, Int64.toBitVec_ofInt]
  have h : (BitVec.ofInt 64 x ^^^ BitVec.ofInt 64 y).toInt < 0 ↔ (BitVec.ofInt 64 x ^^^ BitVec.ofInt 64 y).msb = true := by
    rw [BitVec.msb_eq_toInt, decide_eq_true_iff]
  rw [h, BitVec.msb_xor]
  have e1 := e x hx
  have e2 := e y hy
  cases h1 : (BitVec.ofInt 64 x).msb <;> cases h2 : (BitVec.ofInt 64 y).msb <;> rw [h1] at e1 <;> rw [h2] at e2 <;> simp at e1 e2 ⊢ <;> omega
end
