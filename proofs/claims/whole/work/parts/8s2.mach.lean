section
/-! A MACHINE WITH A PILE OF WAITING SIGNS reads what the grammar reads: any E (a part is wanted), G (a part has been), F (a fault) that keep these rules -/
theorem inr2 {a k : Int} {b q : Nat} (h : (Sum.inr (a, b) : gR) = .inr (k, q)) : a = k ∧ b = q := by
  have e : (a, b) = (k, q) := Sum.inr.inj h
  exact ⟨congrArg Prod.fst e, congrArg Prod.snd e⟩
def nMk (x : Int) : Prop := x < 16
def iMl (x : Int) : Prop := x = 3 ∨ x = 4
def iAr (x : Int) : Prop := x = 3 ∨ x = 4 ∨ x = 1 ∨ x = 2
def hdN (q : Int → Prop) (S : List Int) : Prop := ∀ x, S.head? = some x → ¬ q x
theorem hdN_nil {q : Int → Prop} : hdN q [] := fun x h => absurd h (by simp)
theorem hdN_c {q : Int → Prop} {x : Int} {S : List Int} (h : ¬ q x) : hdN q (x :: S) := fun y e => by
  have : x = y := by simpa using e
  rw [← this]; exact h
def mRl (T : Nat → Int) (D5 : Nat → Bool) (RE RG : Nat → List Int → List Int → Nat → Prop) (RF : Int → Nat → Prop) : Prop :=
  (∀ i S C o, T i = 40 → o < 6 → RE (i + 1) (20 :: S) C (o + 1) → RE i S C o) ∧
  (∀ i S C o, T i = 40 → ¬ o < 6 → RF 4 i → RE i S C o) ∧
  (∀ i S C o, (T i = 22 ∨ T i = 23) → T (i + 1) = 40 → o < 6 → RE (i + 2) ((T i - 1) :: S) C (o + 1) → RE i S C o) ∧
  (∀ i S C o, (T i = 22 ∨ T i = 23) → T (i + 1) = 40 → ¬ o < 6 → RF 4 (i + 1) → RE i S C o) ∧
  (∀ i S C o, (T i = 22 ∨ T i = 23) → T (i + 1) ≠ 40 → RF 1 (i + 1) → RE i S C o) ∧
  (∀ i S C o, ((15 ≤ T i ∧ T i ≤ 21) ∨ (1000 ≤ T i ∧ D5 i = false)) → RG (i + 1) S (C ++ [trc (T i)]) o → RE i S C o) ∧
  (∀ i S C o, 1000 ≤ T i → D5 i = true → RF 1 (i + 1) → RE i S C o) ∧
  (∀ i S C o, T i ≠ 40 → ¬ (T i = 22 ∨ T i = 23) → ¬ (15 ≤ T i ∧ T i ≤ 21) → ¬ 1000 ≤ T i → RF 1 i → RE i S C o) ∧
  (∀ i P m S C o, T i = 41 → (∀ x ∈ P, nMk x) → (m = 20 ∨ m = 23 ∨ m = 24) → RG (i + 1) S (C ++ P ++ (if m = 20 then [] else [m - 18])) o → RG i (P ++ m :: S) C (o + 1)) ∧
  (∀ i P S C o, oM (T i) = true → (∀ x ∈ P, iMl x) → hdN iMl S → RE (i + 1) (trc (T i) :: S) (C ++ P) o → RG i (P ++ S) C o) ∧
  (∀ i P S C o, oA (T i) = true → (∀ x ∈ P, iAr x) → hdN iAr S → RE (i + 1) (trc (T i) :: S) (C ++ P) o → RG i (P ++ S) C o) ∧
  (∀ i P m S C o, T i = 44 → (∀ x ∈ P, nMk x) → (m = 21 ∨ m = 22) → RE (i + 1) ((m + 2) :: S) (C ++ P) o → RG i (P ++ m :: S) C o) ∧
  (∀ i P m S C o, T i ≠ 44 → oM (T i) = false → oA (T i) = false → (∀ x ∈ P, nMk x) → (m = 21 ∨ m = 22) → RF 1 i → RG i (P ++ m :: S) C o) ∧
  (∀ i P m S C o, T i ≠ 41 → oM (T i) = false → oA (T i) = false → (∀ x ∈ P, nMk x) → (m = 20 ∨ m = 23 ∨ m = 24) → RF 1 i → RG i (P ++ m :: S) C o)
/-- a part is read: the pile as it was -/
def mPart (RE RG : Nat → List Int → List Int → Nat → Prop) (RF : Int → Nat → Prop) (p : Nat → gR) (o : Nat) : Prop := ∀ i S C, (∀ k q, p i = .inr (k, q) → RF k q → RE i S C o) ∧ ∀ j c, p i = .inl (j, c) → RG j S (C ++ c.map trc) o → RE i S C o
def mProd (T : Nat → Int) (RE RG : Nat → List Int → List Int → Nat → Prop) (RF : Int → Nat → Prop) (p : Nat → gR) (o : Nat) : Prop := ∀ i S C, hdN iMl S → (∀ k q, p i = .inr (k, q) → RF k q → RE i S C o) ∧ ∀ j c, p i = .inl (j, c) → (∀ P C', (∀ x ∈ P, iMl x) → C' ++ P = C ++ c.map trc → oM (T j) = false → RG j (P ++ S) C' o) → RE i S C o
def mSum (T : Nat → Int) (RE RG : Nat → List Int → List Int → Nat → Prop) (RF : Int → Nat → Prop) (p : Nat → gR) (o : Nat) : Prop := ∀ i S C, hdN iAr S → (∀ k q, p i = .inr (k, q) → RF k q → RE i S C o) ∧ ∀ j c, p i = .inl (j, c) → (∀ P C', (∀ x ∈ P, iAr x) → C' ++ P = C ++ c.map trc → oM (T j) = false → oA (T j) = false → RG j (P ++ S) C' o) → RE i S C o
theorem trc_M {t : Int} (h : oM t = true) : iMl (trc t) := by
  unfold oM at h; rw [decide_eq_true_eq] at h
  rcases h with h | h <;> subst h
  · exact Or.inl rfl
  · exact Or.inr rfl
theorem trc_A {t : Int} (h : oA t = true) : trc t = 1 ∨ trc t = 2 := by
  unfold oA at h; rw [decide_eq_true_eq] at h
  rcases h with h | h <;> subst h
  · exact Or.inl rfl
  · exact Or.inr rfl
theorem o_end : oM (-1) = false ∧ oA (-1) = false := ⟨rfl, rfl⟩
theorem map3 {C c c2 : List Int} {t : Int} : C ++ c.map trc ++ c2.map trc ++ [trc t] = C ++ (c ++ c2 ++ [t]).map trc := by
  simp only [List.map_append, List.map_cons, List.map_nil, List.append_assoc]
theorem loopM {T : Nat → Int} {D5 : Nat → Bool} {RE RG : Nat → List Int → List Int → Nat → Prop} {RF : Int → Nat → Prop} (hN : ∀ i, 2100 ≤ i → T i = -1) (hm : mRl T D5 RE RG RF) {p : Nat → gR} {o : Nat} (hl : gLn p) (hp : mPart RE RG RF p o) {S C : List Int} (hS : hdN iMl S) : ∀ n i c P C', 2100 < n + i → (∀ x ∈ P, iMl x) → C' ++ P = C ++ c.map trc → (∀ k q, gLoop T oM p n i c = .inr (k, q) → RF k q → RG i (P ++ S) C' o) ∧ ∀ j c', gLoop T oM p n i c = .inl (j, c') → (∀ P C', (∀ x ∈ P, iMl x) → C' ++ P = C ++ c'.map trc → oM (T j) = false → RG j (P ++ S) C' o) → RG i (P ++ S) C' o := by
  intro n
  induction n with
  | zero =>
    intro i c P C' hi hP hC
    refine ⟨fun k q h => absurd h (by simp [gLoop]), fun j c' h K => ?_⟩
    obtain ⟨e1, e2⟩ := inl2 h
    rw [← e1, ← e2] at K
    exact K P C' hP hC (by rw [hN i (by omega)]; rfl)
  | succ n ih =>
    intro i c P C' hi hP hC
    by_cases ho : oM (T i) = true
    · have eg : gLoop T oM p (n + 1) i c = gB (p (i + 1)) (fun j c2 => gLoop T oM p n j (c ++ c2 ++ [T i])) := by
        show (if _ then _ else _) = _; rw [if_pos ho]
      rw [eg]
      obtain ⟨_, _, _, _, _, _, _, _, _, G2, _⟩ := hm
      cases e : p (i + 1) with
      | inr f =>
        refine ⟨fun k q h hf => G2 i P S C' o ho hP hS ((hp (i + 1) _ _).1 k q (e.trans h) hf), fun j c' h => absurd h (by simp [gB])⟩
      | inl x =>
        have lx := hl _ _ _ (show p (i + 1) = .inl (x.1, x.2) from e)
        have q := ih x.1 (c ++ x.2 ++ [T i]) [trc (T i)] (C ++ c.map trc ++ x.2.map trc) (by omega) (fun y hy => by rw [List.mem_singleton.mp hy]; exact trc_M ho) map3
        have st : ∀ (_ : RG x.1 (trc (T i) :: S) (C ++ c.map trc ++ x.2.map trc) o), RG i (P ++ S) C' o := fun h => G2 i P S C' o ho hP hS ((hp (i + 1) _ _).2 x.1 x.2 e (by rw [hC]; exact h))
        exact ⟨fun k z h hf => st (q.1 k z h hf), fun j c' h K => st (q.2 j c' h K)⟩
    · have eg : gLoop T oM p (n + 1) i c = .inl (i, c) := by
        show (if _ then _ else _) = _; rw [if_neg ho]
      rw [eg]
      refine ⟨fun k q h => absurd h (by simp), fun j c' h K => ?_⟩
      obtain ⟨e1, e2⟩ := inl2 h
      rw [← e1, ← e2] at K
      exact K P C' hP hC (by simpa using ho)
theorem prodM {T : Nat → Int} {D5 : Nat → Bool} {RE RG : Nat → List Int → List Int → Nat → Prop} {RF : Int → Nat → Prop} (hN : ∀ i, 2100 ≤ i → T i = -1) (hm : mRl T D5 RE RG RF) {p : Nat → gR} {o : Nat} (hl : gLn p) (hp : mPart RE RG RF p o) : mProd T RE RG RF (gL1 T oM p) o := by
  intro i S C hS
  unfold gL1
  cases e : p i with
  | inr f => exact ⟨fun k q h hf => (hp i S C).1 k q (e.trans h) hf, fun j c h => absurd h (by simp [gB])⟩
  | inl x =>
    have lx := hl _ _ _ (show p i = .inl (x.1, x.2) from e)
    have q := loopM hN hm hl hp hS (C := C) 2100 x.1 x.2 [] (C ++ x.2.map trc) (by omega) (fun y hy => absurd hy List.not_mem_nil) (List.append_nil _)
    exact ⟨fun k z h hf => (hp i S C).2 x.1 x.2 e (q.1 k z h hf), fun j c h K => (hp i S C).2 x.1 x.2 e (q.2 j c h K)⟩
theorem iMl_iAr {x : Int} (h : iMl x) : iAr x := by unfold iMl at h; unfold iAr; omega
theorem loopA {T : Nat → Int} {D5 : Nat → Bool} {RE RG : Nat → List Int → List Int → Nat → Prop} {RF : Int → Nat → Prop} (hN : ∀ i, 2100 ≤ i → T i = -1) (hm : mRl T D5 RE RG RF) {p : Nat → gR} {o : Nat} (hl : gLn p) (hp : mProd T RE RG RF p o) {S C : List Int} (hS : hdN iAr S) : ∀ n i c P C', 2100 < n + i → (∀ x ∈ P, iAr x) → C' ++ P = C ++ c.map trc → oM (T i) = false → (∀ k q, gLoop T oA p n i c = .inr (k, q) → RF k q → RG i (P ++ S) C' o) ∧ ∀ j c', gLoop T oA p n i c = .inl (j, c') → (∀ P C', (∀ x ∈ P, iAr x) → C' ++ P = C ++ c'.map trc → oM (T j) = false → oA (T j) = false → RG j (P ++ S) C' o) → RG i (P ++ S) C' o := by
  intro n
  induction n with
  | zero =>
    intro i c P C' hi hP hC h0
    refine ⟨fun k q h => absurd h (by simp [gLoop]), fun j c' h K => ?_⟩
    obtain ⟨e1, e2⟩ := inl2 h
    rw [← e1, ← e2] at K
    exact K P C' hP hC h0 (by rw [hN i (by omega)]; rfl)
  | succ n ih =>
    intro i c P C' hi hP hC h0
    by_cases ho : oA (T i) = true
    · have eg : gLoop T oA p (n + 1) i c = gB (p (i + 1)) (fun j c2 => gLoop T oA p n j (c ++ c2 ++ [T i])) := by
        show (if _ then _ else _) = _; rw [if_pos ho]
      rw [eg]
      obtain ⟨_, _, _, _, _, _, _, _, _, _, G3, _⟩ := hm
      have hd : hdN iMl (trc (T i) :: S) := hdN_c (by have := trc_A ho; unfold iMl; omega)
      cases e : p (i + 1) with
      | inr f =>
        refine ⟨fun k q h hf => G3 i P S C' o ho hP hS ((hp (i + 1) _ _ hd).1 k q (e.trans h) hf), fun j c' h => absurd h (by simp [gB])⟩
      | inl x =>
        have lx := hl _ _ _ (show p (i + 1) = .inl (x.1, x.2) from e)
        have st : (∀ P2 C2, (∀ y ∈ P2, iMl y) → C2 ++ P2 = C ++ c.map trc ++ x.2.map trc → oM (T x.1) = false → RG x.1 ((P2 ++ [trc (T i)]) ++ S) C2 o) → RG i (P ++ S) C' o := fun h => G3 i P S C' o ho hP hS ((hp (i + 1) _ _ hd).2 x.1 x.2 e (fun P2 C2 a b z => by
          rw [hC] at b
          have := h P2 C2 a b z
          rwa [List.append_assoc, List.singleton_append] at this))
        have q : ∀ P2 C2, (∀ y ∈ P2, iMl y) → C2 ++ P2 = C ++ c.map trc ++ x.2.map trc → oM (T x.1) = false → _ := fun P2 C2 a b z => ih x.1 (c ++ x.2 ++ [T i]) (P2 ++ [trc (T i)]) C2 (by omega) (fun y hy => by
          rcases List.mem_append.mp hy with hy | hy
          · exact iMl_iAr (a y hy)
          · rw [List.mem_singleton.mp hy]; have := trc_A ho; unfold iAr; omega) (by rw [← List.append_assoc, b, map3]) z
        exact ⟨fun k w h hf => st (fun P2 C2 a b z => (q P2 C2 a b z).1 k w h hf), fun j c' h K => st (fun P2 C2 a b z => (q P2 C2 a b z).2 j c' h K)⟩
    · have eg : gLoop T oA p (n + 1) i c = .inl (i, c) := by
        show (if _ then _ else _) = _; rw [if_neg ho]
      rw [eg]
      refine ⟨fun k q h => absurd h (by simp), fun j c' h K => ?_⟩
      obtain ⟨e1, e2⟩ := inl2 h
      rw [← e1, ← e2] at K
      exact K P C' hP hC h0 (by simpa using ho)
theorem sumM {T : Nat → Int} {D5 : Nat → Bool} {RE RG : Nat → List Int → List Int → Nat → Prop} {RF : Int → Nat → Prop} (hN : ∀ i, 2100 ≤ i → T i = -1) (hm : mRl T D5 RE RG RF) {p : Nat → gR} {o : Nat} (hl : gLn p) (hp : mProd T RE RG RF p o) : mSum T RE RG RF (gL1 T oA p) o := by
  intro i S C hS
  have hd : hdN iMl S := fun x h q => hS x h (iMl_iAr q)
  unfold gL1
  cases e : p i with
  | inr f => exact ⟨fun k q h hf => (hp i S C hd).1 k q (e.trans h) hf, fun j c h => absurd h (by simp [gB])⟩
  | inl x =>
    have lx := hl _ _ _ (show p i = .inl (x.1, x.2) from e)
    have q : ∀ P2 C2, (∀ y ∈ P2, iMl y) → C2 ++ P2 = C ++ x.2.map trc → oM (T x.1) = false → _ := fun P2 C2 a b z => loopA hN hm hl hp hS (C := C) 2100 x.1 x.2 P2 C2 (by omega) (fun y hy => iMl_iAr (a y hy)) b z
    exact ⟨fun k w h hf => (hp i S C hd).2 x.1 x.2 e (fun P2 C2 a b z => (q P2 C2 a b z).1 k w h hf), fun j c h K => (hp i S C hd).2 x.1 x.2 e (fun P2 C2 a b z => (q P2 C2 a b z).2 j c h K)⟩
theorem iAr_nMk {x : Int} (h : iAr x) : nMk x := by unfold iAr at h; unfold nMk; omega
theorem partM {T : Nat → Int} {D5 : Nat → Bool} {RE RG : Nat → List Int → List Int → Nat → Prop} {RF : Int → Nat → Prop} (hm : mRl T D5 RE RG RF) {p : Nat → gR} {o : Nat} {full : Bool} (hf : full = true ↔ ¬ o < 6) (hp : o < 6 → mSum T RE RG RF p (o + 1)) : mPart RE RG RF (gPart T D5 p full) o := by
  obtain ⟨E1, E2, E3, E4, E5, E6, E7, E8, G1, _, _, G4, G5, G6⟩ := hm
  intro i S C
  have hd : ∀ m : Int, 20 ≤ m → hdN iAr (m :: S) := fun m h => hdN_c (by unfold iAr; omega)
  unfold gPart
  by_cases h40 : T i = 40
  · rw [if_pos h40]
    by_cases hu : full = true
    · rw [if_pos hu]
      exact ⟨fun k q h z => by
        obtain ⟨ek, eq⟩ := inr2 h
        rw [← ek, ← eq] at z
        exact E2 i S C o h40 (hf.mp hu) z, fun j c h => absurd h (by simp)⟩
    · rw [if_neg hu]
      have ho : o < 6 := Classical.byContradiction (fun q => hu (hf.mpr q))
      cases e : p (i + 1) with
      | inr f => exact ⟨fun k q h z => E1 i S C o h40 ho ((hp ho (i + 1) (20 :: S) C (hd 20 (by omega))).1 k q (e.trans h) z), fun j c h => absurd h (by simp [gB])⟩
      | inl x =>
        have st : (∀ P C', (∀ y ∈ P, iAr y) → C' ++ P = C ++ x.2.map trc → oM (T x.1) = false → oA (T x.1) = false → RG x.1 (P ++ 20 :: S) C' (o + 1)) → RE i S C o := fun h => E1 i S C o h40 ho ((hp ho (i + 1) (20 :: S) C (hd 20 (by omega))).2 x.1 x.2 e h)
        show (∀ k q, (if T x.1 = 41 then (Sum.inl (x.1 + 1, x.2) : gR) else .inr (1, x.1)) = .inr (k, q) → _) ∧ (∀ j c, (if T x.1 = 41 then (Sum.inl (x.1 + 1, x.2) : gR) else .inr (1, x.1)) = .inl (j, c) → _)
        by_cases h41 : T x.1 = 41
        · rw [if_pos h41]
          refine ⟨fun k q h => absurd h (by simp), fun j c h K => st (fun P C' a b z1 z2 => ?_)⟩
          obtain ⟨e1, e2⟩ := inl2 h
          rw [← e1, ← e2] at K
          refine G1 x.1 P 20 S C' o h41 (fun y hy => iAr_nMk (a y hy)) (Or.inl rfl) ?_
          rw [if_pos rfl, List.append_nil, b]; exact K
        · rw [if_neg h41]
          refine ⟨fun k q h z => st (fun P C' a b z1 z2 => ?_), fun j c h => absurd h (by simp)⟩
          obtain ⟨ek, eq⟩ := inr2 h
          rw [← ek, ← eq] at z
          exact G6 x.1 P 20 S C' (o + 1) h41 z1 z2 (fun y hy => iAr_nMk (a y hy)) (Or.inl rfl) z
  · rw [if_neg h40]
    by_cases hmm : T i = 22 ∨ T i = 23
    · rw [if_pos hmm]
      by_cases h1 : T (i + 1) = 40
      · rw [if_pos h1]
        by_cases hu : full = true
        · rw [if_pos hu]
          exact ⟨fun k q h z => by
            obtain ⟨ek, eq⟩ := inr2 h
            rw [← ek, ← eq] at z
            exact E4 i S C o hmm h1 (hf.mp hu) z, fun j c h => absurd h (by simp)⟩
        · rw [if_neg hu]
          have ho : o < 6 := Classical.byContradiction (fun q => hu (hf.mpr q))
          have hm1 : T i - 1 = 21 ∨ T i - 1 = 22 := by omega
          cases e : p (i + 2) with
          | inr f => exact ⟨fun k q h z => E3 i S C o hmm h1 ho ((hp ho (i + 2) _ C (hd _ (by omega))).1 k q (e.trans h) z), fun j c h => absurd h (by simp [gB])⟩
          | inl x =>
            have st : (∀ P C', (∀ y ∈ P, iAr y) → C' ++ P = C ++ x.2.map trc → oM (T x.1) = false → oA (T x.1) = false → RG x.1 (P ++ (T i - 1) :: S) C' (o + 1)) → RE i S C o := fun h => E3 i S C o hmm h1 ho ((hp ho (i + 2) _ C (hd _ (by omega))).2 x.1 x.2 e h)
            by_cases h44 : T x.1 = 44
            · have eg : gB (Sum.inl x) (fun j c => if T j = 44 then gB (p (j + 1)) fun j2 c2 => if T j2 = 41 then .inl (j2 + 1, c ++ c2 ++ [T i]) else .inr (1, j2) else .inr (1, j)) = gB (p (x.1 + 1)) (fun j2 c2 => if T j2 = 41 then .inl (j2 + 1, x.2 ++ c2 ++ [T i]) else .inr (1, j2)) := by
                show (if _ then _ else _) = _; rw [if_pos h44]
              rw [eg]
              have hm3 : T i - 1 + 2 = 23 ∨ T i - 1 + 2 = 24 := by omega
              have st2 : RE (x.1 + 1) ((T i - 1 + 2) :: S) (C ++ x.2.map trc) (o + 1) → RE i S C o := fun h => st (fun P C' a b z1 z2 => G4 x.1 P (T i - 1) S C' (o + 1) h44 (fun y hy => iAr_nMk (a y hy)) hm1 (by rw [b]; exact h))
              cases e2 : p (x.1 + 1) with
              | inr f => exact ⟨fun k q h z => st2 ((hp ho (x.1 + 1) _ _ (hd _ (by omega))).1 k q (e2.trans h) z), fun j c h => absurd h (by simp [gB])⟩
              | inl y =>
                have st3 : (∀ P C', (∀ v ∈ P, iAr v) → C' ++ P = C ++ x.2.map trc ++ y.2.map trc → oM (T y.1) = false → oA (T y.1) = false → RG y.1 (P ++ (T i - 1 + 2) :: S) C' (o + 1)) → RE i S C o := fun h => st2 ((hp ho (x.1 + 1) _ _ (hd _ (by omega))).2 y.1 y.2 e2 h)
                show (∀ k q, (if T y.1 = 41 then (Sum.inl (y.1 + 1, x.2 ++ y.2 ++ [T i]) : gR) else .inr (1, y.1)) = .inr (k, q) → _) ∧ (∀ j c, (if T y.1 = 41 then (Sum.inl (y.1 + 1, x.2 ++ y.2 ++ [T i]) : gR) else .inr (1, y.1)) = .inl (j, c) → _)
                by_cases h41 : T y.1 = 41
                · rw [if_pos h41]
                  refine ⟨fun k q h => absurd h (by simp), fun j c h K => st3 (fun P C' a b z1 z2 => ?_)⟩
                  obtain ⟨e1, e2⟩ := inl2 h
                  rw [← e1, ← e2] at K
                  refine G1 y.1 P _ S C' o h41 (fun v hv => iAr_nMk (a v hv)) (Or.inr hm3) ?_
                  rw [if_neg (by omega), b]
                  have et : T i - 1 + 2 - 18 = trc (T i) := by
                    rcases hmm with q | q <;> rw [q] <;> rfl
                  rw [et, map3]; exact K
                · rw [if_neg h41]
                  refine ⟨fun k q h z => st3 (fun P C' a b z1 z2 => ?_), fun j c h => absurd h (by simp)⟩
                  obtain ⟨ek, eq⟩ := inr2 h
                  rw [← ek, ← eq] at z
                  exact G6 y.1 P _ S C' (o + 1) h41 z1 z2 (fun v hv => iAr_nMk (a v hv)) (Or.inr hm3) z
            · have eg : gB (Sum.inl x) (fun j c => if T j = 44 then gB (p (j + 1)) fun j2 c2 => if T j2 = 41 then .inl (j2 + 1, c ++ c2 ++ [T i]) else .inr (1, j2) else .inr (1, j)) = .inr (1, x.1) := by
                show (if _ then _ else _) = _; rw [if_neg h44]
              rw [eg]
              refine ⟨fun k q h z => st (fun P C' a b z1 z2 => ?_), fun j c h => absurd h (by simp)⟩
              obtain ⟨ek, eq⟩ := inr2 h
              rw [← ek, ← eq] at z
              exact G5 x.1 P _ S C' (o + 1) h44 z1 z2 (fun v hv => iAr_nMk (a v hv)) hm1 z
      · rw [if_neg h1]
        exact ⟨fun k q h z => by
          obtain ⟨ek, eq⟩ := inr2 h
          rw [← ek, ← eq] at z
          exact E5 i S C o hmm h1 z, fun j c h => absurd h (by simp)⟩
    · rw [if_neg hmm]
      by_cases hpl : 15 ≤ T i ∧ T i ≤ 21
      · rw [if_pos hpl]
        refine ⟨fun k q h => absurd h (by simp), fun j c h K => ?_⟩
        obtain ⟨e1, e2⟩ := inl2 h
        rw [← e1, ← e2] at K
        exact E6 i S C o (Or.inl hpl) K
      · rw [if_neg hpl]
        by_cases hn : 1000 ≤ T i
        · rw [if_pos hn]
          by_cases h5 : D5 i = true
          · rw [if_pos h5]
            exact ⟨fun k q h z => by
              obtain ⟨ek, eq⟩ := inr2 h
              rw [← ek, ← eq] at z
              exact E7 i S C o hn h5 z, fun j c h => absurd h (by simp)⟩
          · rw [if_neg h5]
            refine ⟨fun k q h => absurd h (by simp), fun j c h K => ?_⟩
            obtain ⟨e1, e2⟩ := inl2 h
            rw [← e1, ← e2] at K
            exact E6 i S C o (Or.inr ⟨hn, by simpa using h5⟩) K
        · rw [if_neg hn]
          exact ⟨fun k q h z => by
            obtain ⟨ek, eq⟩ := inr2 h
            rw [← ek, ← eq] at z
            exact E8 i S C o h40 hmm hpl hn z, fun j c h => absurd h (by simp)⟩
theorem gSum_M {T : Nat → Int} {D5 : Nat → Bool} {RE RG : Nat → List Int → List Int → Nat → Prop} {RF : Int → Nat → Prop} (hN : ∀ i, 2100 ≤ i → T i = -1) (hm : mRl T D5 RE RG RF) : ∀ m o, o + (m + 1) = 7 → mSum T RE RG RF (gSum T D5 (m + 1)) o := by
  intro m
  induction m with
  | zero =>
    intro o ho
    exact sumM hN hm (gL1_ln (gPart_ln (gSum_ln 0))) (prodM hN hm (gPart_ln (gSum_ln 0)) (partM hm ⟨fun _ => by omega, fun _ => rfl⟩ (fun q => absurd q (by omega))))
  | succ m ih =>
    intro o ho
    refine sumM hN hm (gL1_ln (gPart_ln (gSum_ln (m + 1)))) (prodM hN hm (gPart_ln (gSum_ln (m + 1))) (partM hm (by rw [decide_eq_true_eq]; omega) (fun _ => ih (o + 1) (by omega))))
end
