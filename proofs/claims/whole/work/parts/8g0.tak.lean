section
/-! TAKINGS: (kind, place, other) -/
abbrev qT : Type := Int × Int × Int
def li (ln : List Int) (a : Int) : Int := ln.getD a.toNat 0
def frA (ln : List Int) (t : qT) (a : Int) : Int :=
  if t.1 = 1 ∨ t.1 = 2 then (if a = t.2.1 then li ln t.2.2 else li ln a)
  else if t.1 = 3 ∨ t.1 = 4 then (if a = t.2.1 then li ln t.2.2 else if a = t.2.2 then li ln t.2.1 else li ln a)
  else if t.1 = 6 ∨ t.1 = 7 then (if a = t.2.1 then t.2.2 else li ln a)
  else if t.1 = 8 then (if a = t.2.1 then -1 else li ln a) else li ln a
def bkA (ln : List Int) (t : qT) (a : Int) : Int :=
  if t.1 = 4 then (if a = t.2.1 then li ln t.2.2 else if a = t.2.2 then li ln t.2.1 else li ln a)
  else if t.1 = 5 ∨ t.1 = 6 ∨ t.1 = 7 then (if a = t.2.1 then t.2.2 else li ln a) else li ln a
/-- what is said at a place -/
def pie (WL : Int → List Int) (ln : List Int) (t : qT) (a : Int) : List Int := joi WL (frA ln t a) (bkA ln t a)
def spl (WL : Int → List Int) (ln : List Int) (t : qT) : Nat → List Int
  | 0 => []
  | a + 1 => spl WL ln t a ++ (if a = 0 then [] else [32]) ++ pie WL ln t a
def txt (WL : Int → List Int) (ln : List Int) (t : qT) : List Int := spl WL ln t ln.length
def isW (nw : Int) (WL : Int → List Int) (l : List Int) : Prop := ∃ w, (0 ≤ w ∧ w < nw) ∧ WL w = l
def realP (nw : Int) (WL : Int → List Int) (ln : List Int) (t : qT) : Prop := t.1 ≠ 0 → (isW nw WL (pie WL ln t t.2.1) ∧ (t.1 = 3 ∨ t.1 = 4 → isW nw WL (pie WL ln t t.2.2)))
def farT (WL : Int → List Int) (ln : List Int) (t : qT) : Int := if t.1 = 0 then 0 else unl (WL (li ln t.2.1)) (pie WL ln t t.2.1)
def gapT (t : qT) : Int := if 0 < t.1 ∧ t.1 < 5 then (if t.2.2 > t.2.1 then t.2.2 - t.2.1 else t.2.1 - t.2.2) else 0
def okT (nw : Int) (ln : List Int) (t : qT) : Prop := (t.1 = 0 ∧ t.2.1 = -1 ∧ t.2.2 = -1) ∨ ((1 ≤ t.1 ∧ t.1 ≤ 4) ∧ (0 ≤ t.2.1 ∧ t.2.1 < ln.length) ∧ (0 ≤ t.2.2 ∧ t.2.2 < ln.length) ∧ t.2.1 ≠ t.2.2) ∨ ((5 ≤ t.1 ∧ t.1 ≤ 7) ∧ (0 ≤ t.2.1 ∧ t.2.1 < ln.length) ∧ (0 ≤ t.2.2 ∧ t.2.2 < nw)) ∨ (t.1 = 8 ∧ (0 ≤ t.2.1 ∧ t.2.1 < ln.length) ∧ t.2.2 = -1)
def G_L (nw : Int) (ln : List Int) : Prop := (1 ≤ ln.length ∧ ln.length ≤ 6) ∧ ∀ w ∈ ln, 0 ≤ w ∧ w < nw
theorem li_rng {nw : Int} {ln : List Int} (g : G_L nw ln) {a : Int} (h0 : 0 ≤ a) (h1 : a < ln.length) : 0 ≤ li ln a ∧ li ln a < nw := g.2 _ (getD_mem (by omega))
theorem pie_un {WL : Int → List Int} {ln : List Int} {k p o a : Int} (h1 : a ≠ p) (h2 : ¬ (a = o ∧ (k = 3 ∨ k = 4))) (h3 : 0 ≤ li ln a) : pie WL ln (k, p, o) a = WL (li ln a) := by
  have e : frA ln (k, p, o) a = li ln a ∧ bkA ln (k, p, o) a = li ln a := by
    unfold frA bkA; dsimp only
    constructor <;> repeat' split
    all_goals first | rfl | omega
  unfold pie; rw [e.1, e.2]; exact joi_self h3
theorem pie_13 {WL : Int → List Int} {ln : List Int} {k p o : Int} (hk : 1 ≤ k ∧ k ≤ 3) : pie WL ln (k, p, o) p = joi WL (li ln o) (li ln p) := by
  have e : frA ln (k, p, o) p = li ln o ∧ bkA ln (k, p, o) p = li ln p := by
    unfold frA bkA; dsimp only
    constructor <;> repeat' split
    all_goals first | rfl | omega
  unfold pie; rw [e.1, e.2]
theorem pie_3o {WL : Int → List Int} {ln : List Int} {p o : Int} (h : o ≠ p) : pie WL ln (3, p, o) o = joi WL (li ln p) (li ln o) := by
  have e : frA ln (3, p, o) o = li ln p ∧ bkA ln (3, p, o) o = li ln o := by
    unfold frA bkA; dsimp only
    constructor <;> repeat' split
    all_goals first | rfl | omega
  unfold pie; rw [e.1, e.2]
theorem pie_4p {WL : Int → List Int} {ln : List Int} {p o : Int} (h3 : 0 ≤ li ln o) : pie WL ln (4, p, o) p = WL (li ln o) := by
  have e : frA ln (4, p, o) p = li ln o ∧ bkA ln (4, p, o) p = li ln o := by
    unfold frA bkA; dsimp only
    constructor <;> repeat' split
    all_goals first | rfl | omega
  unfold pie; rw [e.1, e.2]; exact joi_self h3
theorem pie_4o {WL : Int → List Int} {ln : List Int} {p o : Int} (h : o ≠ p) (h3 : 0 ≤ li ln p) : pie WL ln (4, p, o) o = WL (li ln p) := by
  have e : frA ln (4, p, o) o = li ln p ∧ bkA ln (4, p, o) o = li ln p := by
    unfold frA bkA; dsimp only
    constructor <;> repeat' split
    all_goals first | rfl | omega
  unfold pie; rw [e.1, e.2]; exact joi_self h3
theorem pie_5 {WL : Int → List Int} {ln : List Int} {p o : Int} : pie WL ln (5, p, o) p = joi WL (li ln p) o := by
  have e : frA ln (5, p, o) p = li ln p ∧ bkA ln (5, p, o) p = o := by
    unfold frA bkA; dsimp only
    constructor <;> repeat' split
    all_goals first | rfl | omega
  unfold pie; rw [e.1, e.2]
theorem pie_67 {WL : Int → List Int} {ln : List Int} {k p o : Int} (hk : k = 6 ∨ k = 7) (h : 0 ≤ o) : pie WL ln (k, p, o) p = WL o := by
  have e : frA ln (k, p, o) p = o ∧ bkA ln (k, p, o) p = o := by
    unfold frA bkA; dsimp only
    constructor <;> repeat' split
    all_goals first | rfl | omega
  unfold pie; rw [e.1, e.2]; exact joi_self h
theorem pie_8 {WL : Int → List Int} {ln : List Int} {p o : Int} : pie WL ln (8, p, o) p = joi WL (-1) (li ln p) := by
  have e : frA ln (8, p, o) p = -1 ∧ bkA ln (8, p, o) p = li ln p := by
    unfold frA bkA; dsimp only
    constructor <;> repeat' split
    all_goals first | rfl | omega
  unfold pie; rw [e.1, e.2]
/-- fronts and backs are words, or none -/
theorem fb_rng {nw : Int} {ln : List Int} {t : qT} (g : G_L nw ln) (ok : okT nw ln t) {a : Int} (h0 : 0 ≤ a) (h1 : a < ln.length) : (frA ln t a = -1 ∨ (0 ≤ frA ln t a ∧ frA ln t a < nw)) ∧ (0 ≤ bkA ln t a ∧ bkA ln t a < nw) := by
  obtain ⟨k, p, o⟩ := t
  unfold okT at ok; dsimp only at ok
  have ra := li_rng g h0 h1
  have rp : 0 ≤ p → p < ln.length → 0 ≤ li ln p ∧ li ln p < nw := fun x y => li_rng g x y
  have ro : 0 ≤ o → o < ln.length → 0 ≤ li ln o ∧ li ln o < nw := fun x y => li_rng g x y
  unfold frA bkA; dsimp only
  constructor <;> repeat' split
  all_goals first | omega | (left; omega) | (right; omega)
theorem G_ok8 {nw : Int} {WL : Int → List Int} {WS WE WO : Int → Int} (g : G_W nw WL WS WE WO) {w : Int} (h0 : 0 ≤ w) (h1 : w < nw) : (1 ≤ (WL w).length ∧ (WL w).length ≤ 8) ∧ onsN (WL w) ≤ (WL w).length := ⟨(g.2.1 w h0 h1).1.1, onsN_le _⟩
theorem pie_len {nw : Int} {WL : Int → List Int} {WS WE WO : Int → Int} (gW : G_W nw WL WS WE WO) {ln : List Int} {t : qT} (g : G_L nw ln) (ok : okT nw ln t) {a : Int} (h0 : 0 ≤ a) (h1 : a < ln.length) : (pie WL ln t a).length ≤ 16 ∧ (a ≠ t.2.1 → a ≠ t.2.2 → (pie WL ln t a).length ≤ 8) := by
  have r := fb_rng g ok h0 h1
  have b := G_ok8 gW r.2.1 r.2.2
  have jl := joi_len (WL := WL) (f := frA ln t a) (b := bkA ln t a)
  refine ⟨?_, fun x y => ?_⟩
  · unfold pie
    rcases r.1 with h | h
    · have : (fro WL (frA ln t a)).length = 0 := by unfold fro; rw [if_pos h]; rfl
      omega
    · have := fro_len (WL := WL) (f := frA ln t a) (by omega)
      have := G_ok8 gW h.1 h.2
      omega
  · have ra := li_rng g h0 h1
    have e := pie_un (WL := WL) (ln := ln) (k := t.1) (p := t.2.1) (o := t.2.2) (a := a) x (fun z => y z.1) ra.1
    have e2 : pie WL ln t a = WL (li ln a) := e
    rw [e2]; exact (G_ok8 gW ra.1 ra.2).1.2
theorem spl_len {nw : Int} {WL : Int → List Int} {WS WE WO : Int → Int} (gW : G_W nw WL WS WE WO) {ln : List Int} {t : qT} (g : G_L nw ln) (ok : okT nw ln t) : ∀ a : Nat, a ≤ ln.length → ((spl WL ln t a).length : Int) ≤ 9 * a + 8 * (if t.2.1 < a then 1 else 0) + 8 * (if t.2.2 < a then 1 else 0) := by
  intro a
  induction a with
  | zero => intro _; show (0 : Int) ≤ _; split <;> split <;> omega
  | succ a ih =>
    intro h
    have i := ih (by omega)
    have pl := pie_len gW g ok (a := (a : Int)) (by omega) (by omega)
    have e : (spl WL ln t (a + 1)).length ≤ (spl WL ln t a).length + 1 + (pie WL ln t a).length := by
      show (spl WL ln t a ++ _ ++ _).length ≤ _
      rw [List.length_append, List.length_append]; split <;> simp <;> omega
    split at i <;> split at i <;> split <;> split <;> omega
theorem txt_len {nw : Int} {WL : Int → List Int} {WS WE WO : Int → Int} (gW : G_W nw WL WS WE WO) {ln : List Int} {t : qT} (g : G_L nw ln) (ok : okT nw ln t) (a : Nat) (h : a ≤ ln.length) : (spl WL ln t a).length ≤ 70 := by
  have i := spl_len gW g ok a h
  have := g.1
  split at i <;> split at i <;> omega
end
