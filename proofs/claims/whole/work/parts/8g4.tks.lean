section
/-! ALL TAKINGS OF A ROW, in their order -/
def mayW (WL : Int → List Int) (WS WE : Int → Int) (k w v : Int) : Prop := (k = 5 ∧ akin WS WE w v ∧ blen WL w v) ∨ (k = 6 ∧ nearW WL WS w v) ∨ (k = 7 ∧ akin WS WE w v)
def mayP (WL : Int → List Int) (WS WE : Int → Int) (ln : List Int) (k p o : Int) : Prop :=
  ((k = 1 ∨ k = 3) ∧ p < o ∧ ons (WL (li ln p)) ≠ ons (WL (li ln o))) ∨ (k = 2 ∧ o < p ∧ ons (WL (li ln p)) ≠ ons (WL (li ln o))) ∨ (k = 4 ∧ p < o ∧ li ln p ≠ li ln o) ∨ mayW WL WS WE k (li ln p) o ∨ (k = 8 ∧ lose (WL (li ln p)))
noncomputable def mayB (WL : Int → List Int) (WS WE : Int → Int) (ln : List Int) (k p o : Int) : Bool := @decide (mayP WL WS WE ln k p o) (Classical.propDecidable _)
theorem mayB_iff {WL : Int → List Int} {WS WE : Int → Int} {ln : List Int} {k p o : Int} : mayB WL WS WE ln k p o = true ↔ mayP WL WS WE ln k p o := by
  unfold mayB; exact @decide_eq_true_iff _ (Classical.propDecidable _)
def ot (k o : Int) : Int := if k = 8 then -1 else o
def oth (k n nw : Nat) : Nat := if k ≤ 4 then n else if k = 8 then 1 else nw
def tkO (B : Int → Int → Int → Bool) (k p : Nat) : Nat → List qT
  | 0 => []
  | m + 1 => tkO B k p m ++ (if B k p m then [((k : Int), (p : Int), ot k m)] else [])
def tkP (B : Int → Int → Int → Bool) (k n nw : Nat) : Nat → List qT
  | 0 => []
  | p + 1 => tkP B k n nw p ++ tkO B k p (oth k n nw)
def tkK (B : Int → Int → Int → Bool) (n nw : Nat) : Nat → List qT
  | 0 => [(0, -1, -1)]
  | k + 1 => tkK B n nw k ++ tkP B (k + 1) n nw n
noncomputable def TK (nw : Int) (WL : Int → List Int) (WS WE : Int → Int) (ln : List Int) : List qT := tkK (mayB WL WS WE ln) ln.length nw.toNat 8
def bO (k n p : Nat) : Nat := if k = 1 ∨ k = 3 ∨ k = 4 then n - 1 - p else if k = 2 then p else if k = 8 then 1 else 29
def sP (k n : Nat) : Nat → Nat
  | 0 => 0
  | p + 1 => sP k n p + bO k n p
def sK (n : Nat) : Nat → Nat
  | 0 => 1
  | k + 1 => sK n k + sP (k + 1) n n
def mst (n : Nat) : Nat := 1 + n + 2 * n * (n - 1) + 87 * n
theorem sK_all : ∀ n, n < 7 → ∀ k, k < 8 → ∀ p, p < n → sK n k + sP (k + 1) n p + bO (k + 1) n p ≤ mst n := by decide
theorem tkO_gt {B : Int → Int → Int → Bool} {k p : Nat} (h : ∀ o : Nat, B k p o = true → p < o) : ∀ m, (tkO B k p m).length ≤ m - (p + 1) := by
  intro m
  induction m with
  | zero => exact Nat.zero_le _
  | succ m ih =>
    show (tkO B k p m ++ _).length ≤ _
    rw [List.length_append]
    split
    · rename_i e; have := h m e; simp; omega
    · simp; omega
theorem tkO_lt {B : Int → Int → Int → Bool} {k p : Nat} (h : ∀ o : Nat, B k p o = true → o < p) : ∀ m, (tkO B k p m).length ≤ min m p := by
  intro m
  induction m with
  | zero => exact Nat.zero_le _
  | succ m ih =>
    show (tkO B k p m ++ _).length ≤ _
    rw [List.length_append]
    split
    · rename_i e; have := h m e; simp; omega
    · simp; omega
theorem tkO_ne {B : Int → Int → Int → Bool} {k p : Nat} {w : Nat} (h : ∀ o : Nat, B k p o = true → o ≠ w) : ∀ m, (tkO B k p m).length + (if w < m then 1 else 0) ≤ m := by
  intro m
  induction m with
  | zero => show 0 + _ ≤ 0; rw [if_neg (by omega)]; exact Nat.le_refl 0
  | succ m ih =>
    show (tkO B k p m ++ _).length + _ ≤ _
    rw [List.length_append]
    split at ih <;> split <;> split <;> rename_i e1 e2 e3
    all_goals first | (simp; omega) | (have := h m e2; simp; omega)
theorem tkO_le {B : Int → Int → Int → Bool} {k p : Nat} : ∀ m, (tkO B k p m).length ≤ m := by
  intro m
  induction m with
  | zero => exact Nat.le_refl 0
  | succ m ih =>
    show (tkO B k p m ++ _).length ≤ _
    rw [List.length_append]
    split <;> simp <;> omega
theorem tkO_b {nw : Int} {WL : Int → List Int} {WS WE : Int → Int} {ln : List Int} (hn : 0 ≤ nw ∧ nw ≤ 30) (g : G_L nw ln) {k p : Nat} (hk : 1 ≤ k ∧ k ≤ 8) (hp : p < ln.length) : ∀ m, m ≤ oth k ln.length nw.toNat → (tkO (mayB WL WS WE ln) k p m).length ≤ bO k ln.length p := by
  intro m hm
  have la := li_rng g (a := (p : Int)) (by omega) (by omega)
  unfold bO
  by_cases h1 : k = 1 ∨ k = 3 ∨ k = 4
  · rw [if_pos h1]
    have := tkO_gt (B := mayB WL WS WE ln) (k := k) (p := p) (fun o e => by
      have := mayB_iff.mp e; unfold mayP mayW at this; omega) m
    unfold oth at hm; rw [if_pos (by omega)] at hm; omega
  · rw [if_neg h1]
    by_cases h2 : k = 2
    · rw [if_pos h2]
      have := tkO_lt (B := mayB WL WS WE ln) (k := k) (p := p) (fun o e => by
        have := mayB_iff.mp e; unfold mayP mayW at this; omega) m
      omega
    · rw [if_neg h2]
      by_cases h8 : k = 8
      · rw [if_pos h8]
        have := tkO_le (B := mayB WL WS WE ln) (k := k) (p := p) m
        unfold oth at hm; rw [if_neg (by omega), if_pos h8] at hm; omega
      · rw [if_neg h8]
        unfold oth at hm; rw [if_neg (by omega), if_neg h8] at hm
        have := tkO_ne (B := mayB WL WS WE ln) (k := k) (p := p) (w := (li ln p).toNat) (fun o e => by
          have q := mayB_iff.mp e; unfold mayP mayW akin nearW at q; omega) m
        split at this <;> omega
theorem tkP_b {nw : Int} {WL : Int → List Int} {WS WE : Int → Int} {ln : List Int} (hn : 0 ≤ nw ∧ nw ≤ 30) (g : G_L nw ln) {k : Nat} (hk : 1 ≤ k ∧ k ≤ 8) : ∀ p, p ≤ ln.length → (tkP (mayB WL WS WE ln) k ln.length nw.toNat p).length ≤ sP k ln.length p := by
  intro p
  induction p with
  | zero => intro _; exact Nat.le_refl 0
  | succ p ih =>
    intro hp
    have := ih (by omega)
    have := tkO_b (WL := WL) (WS := WS) (WE := WE) hn g hk (show p < ln.length by omega) _ (Nat.le_refl _)
    show (tkP _ k _ _ p ++ _).length ≤ sP k _ p + _
    rw [List.length_append]; omega
theorem tkK_b {nw : Int} {WL : Int → List Int} {WS WE : Int → Int} {ln : List Int} (hn : 0 ≤ nw ∧ nw ≤ 30) (g : G_L nw ln) : ∀ k, k ≤ 8 → (tkK (mayB WL WS WE ln) ln.length nw.toNat k).length ≤ sK ln.length k := by
  intro k
  induction k with
  | zero => intro _; exact Nat.le_refl 1
  | succ k ih =>
    intro hk
    have := ih (by omega)
    have := tkP_b (WL := WL) (WS := WS) (WE := WE) hn g (k := k + 1) (by omega) _ (Nat.le_refl _)
    show (tkK _ _ _ k ++ _).length ≤ sK _ k + _
    rw [List.length_append]; omega
/-- there is room for one more -/
theorem tk_room {nw : Int} {WL : Int → List Int} {WS WE : Int → Int} {ln : List Int} (hn : 0 ≤ nw ∧ nw ≤ 30) (g : G_L nw ln) {k p m : Nat} (hk : k < 8) (hp : p < ln.length) (hm : m < oth (k + 1) ln.length nw.toNat) (hB : mayB WL WS WE ln ((k + 1 : Nat) : Int) p m = true) : (tkK (mayB WL WS WE ln) ln.length nw.toNat k ++ tkP (mayB WL WS WE ln) (k + 1) ln.length nw.toNat p ++ tkO (mayB WL WS WE ln) (k + 1) p m).length < mst ln.length := by
  have g6 := g.1
  have a := tkK_b (WL := WL) (WS := WS) (WE := WE) hn g k (by omega)
  have b := tkP_b (WL := WL) (WS := WS) (WE := WE) hn g (k := k + 1) (by omega) p (by omega)
  have c := tkO_b (WL := WL) (WS := WS) (WE := WE) hn g (k := k + 1) (by omega) hp (m + 1) (by omega)
  have e : (tkO (mayB WL WS WE ln) (k + 1) p (m + 1)).length = (tkO (mayB WL WS WE ln) (k + 1) p m).length + 1 := by
    show (tkO _ _ p m ++ _).length = _
    rw [List.length_append, if_pos hB]; rfl
  have z := sK_all ln.length (by omega) k hk p hp
  rw [List.length_append, List.length_append]; omega
theorem mst_le {n : Nat} (h : n ≤ 6) : mst n ≤ 589 := by
  have : ∀ n, n < 7 → mst n ≤ 589 := by decide
  exact this n (by omega)
theorem may_ok {nw : Int} {WL : Int → List Int} {WS WE : Int → Int} {ln : List Int} (hn : 0 ≤ nw) {k p m : Nat} (hk : 1 ≤ k ∧ k ≤ 8) (hp : p < ln.length) (hm : m < oth k ln.length nw.toNat) (h : mayP WL WS WE ln k p m) : okT nw ln (k, p, ot k m) := by
  unfold okT ot; dsimp only
  unfold mayP mayW at h
  unfold oth at hm
  split at hm
  · rw [if_neg (by omega)]; omega
  · split at hm
    · rw [if_pos (by omega)]; omega
    · rw [if_neg (by omega)]; omega
theorem tkO_ok {nw : Int} {WL : Int → List Int} {WS WE : Int → Int} {ln : List Int} (hn : 0 ≤ nw) {k p : Nat} (hk : 1 ≤ k ∧ k ≤ 8) (hp : p < ln.length) : ∀ m, m ≤ oth k ln.length nw.toNat → ∀ t ∈ tkO (mayB WL WS WE ln) k p m, okT nw ln t := by
  intro m
  induction m with
  | zero => intro _ t ht; exact absurd ht (List.not_mem_nil)
  | succ m ih =>
    intro hm t ht
    rcases List.mem_append.mp ht with q | q
    · exact ih (by omega) t q
    · split at q
      · rename_i e
        rw [List.mem_singleton.mp q]; exact may_ok hn hk hp (by omega) (mayB_iff.mp e)
      · exact absurd q (List.not_mem_nil)
theorem tkP_ok {nw : Int} {WL : Int → List Int} {WS WE : Int → Int} {ln : List Int} (hn : 0 ≤ nw) {k : Nat} (hk : 1 ≤ k ∧ k ≤ 8) : ∀ p, p ≤ ln.length → ∀ t ∈ tkP (mayB WL WS WE ln) k ln.length nw.toNat p, okT nw ln t := by
  intro p
  induction p with
  | zero => intro _ t ht; exact absurd ht (List.not_mem_nil)
  | succ p ih =>
    intro hp t ht
    rcases List.mem_append.mp ht with q | q
    · exact ih (by omega) t q
    · exact tkO_ok hn hk (by omega) _ (Nat.le_refl _) t q
theorem tkK_ok {nw : Int} {WL : Int → List Int} {WS WE : Int → Int} {ln : List Int} (hn : 0 ≤ nw) : ∀ k, k ≤ 8 → ∀ t ∈ tkK (mayB WL WS WE ln) ln.length nw.toNat k, okT nw ln t := by
  intro k
  induction k with
  | zero => intro _ t ht; rw [List.mem_singleton.mp ht]; exact Or.inl ⟨rfl, rfl, rfl⟩
  | succ k ih =>
    intro hk t ht
    rcases List.mem_append.mp ht with q | q
    · exact ih (by omega) t q
    · exact tkP_ok hn (by omega) _ (Nat.le_refl _) t q
end
