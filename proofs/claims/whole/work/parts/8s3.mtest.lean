section
/-! THE SAME FOR TESTS: RT (a fact is wanted), RH (a fact has been, no NOT on the pile) -/
def hD (RH : Nat → List Int → List Int → Nat → Prop) (i : Nat) : List Int → List Int → Nat → Prop
  | [], C, o => RH i [] C o
  | x :: S, C, o => if x = 16 then hD RH i S (C ++ [16]) (o - 1) else RH i (x :: S) C o
theorem hD_ne {RH : Nat → List Int → List Int → Nat → Prop} {i : Nat} {S C : List Int} {o : Nat} (h : hdN (fun x => x = 16) S) : hD RH i S C o = RH i S C o := by
  cases S with
  | nil => rfl
  | cons x S => show (if _ then _ else _) = _; rw [if_neg (h x rfl)]
def tRl (T : Nat → Int) (D5 : Nat → Bool) (RT RH : Nat → List Int → List Int → Nat → Prop) (RF : Int → Nat → Prop) : Prop :=
  (∀ i S C o, T i = 91 → o < 6 → RT (i + 1) (25 :: S) C (o + 1) → RT i S C o) ∧
  (∀ i S C o, T i = 91 → ¬ o < 6 → RF 4 i → RT i S C o) ∧
  (∀ i S C o, T i = 12 → o < 6 → RT (i + 1) (16 :: S) C (o + 1) → RT i S C o) ∧
  (∀ i S C o, T i = 12 → ¬ o < 6 → RF 4 i → RT i S C o) ∧
  (∀ i S C o, (T i = 13 ∨ T i = 14) → hD RH (i + 1) S (C ++ [trc (T i)]) o → RT i S C o) ∧
  (∀ i S C m o, o + (m + 1) = 7 → T i ≠ 12 → T i ≠ 91 → ¬ (T i = 13 ∨ T i = 14) → (∀ k q, gFact T D5 (m + 1) i = .inr (k, q) → RF k q → RT i S C o) ∧ ∀ j c, gFact T D5 (m + 1) i = .inl (j, c) → hD RH j S (C ++ c.map trc) o → RT i S C o) ∧
  (∀ i P S C o, T i = 93 → (∀ x ∈ P, x = 14 ∨ x = 15) → hD RH (i + 1) S (C ++ P) o → RH i (P ++ 25 :: S) C (o + 1)) ∧
  (∀ i P S C o, T i = 11 → (∀ x ∈ P, x = 14) → hdN (fun x => x = 14) S → RT (i + 1) (14 :: S) (C ++ P) o → RH i (P ++ S) C o) ∧
  (∀ i P S C o, T i = 10 → (∀ x ∈ P, x = 14 ∨ x = 15) → hdN (fun x => x = 14 ∨ x = 15) S → RT (i + 1) (15 :: S) (C ++ P) o → RH i (P ++ S) C o) ∧
  (∀ i P S C o, T i ≠ 93 → T i ≠ 11 → T i ≠ 10 → RF 1 i → RH i (P ++ 25 :: S) C o)
def mFact (RT RH : Nat → List Int → List Int → Nat → Prop) (RF : Int → Nat → Prop) (p : Nat → gR) (o : Nat) : Prop := ∀ i S C, (∀ k q, p i = .inr (k, q) → RF k q → RT i S C o) ∧ ∀ j c, p i = .inl (j, c) → hD RH j S (C ++ c.map trc) o → RT i S C o
def mBoth (T : Nat → Int) (RT RH : Nat → List Int → List Int → Nat → Prop) (RF : Int → Nat → Prop) (p : Nat → gR) (o : Nat) : Prop := ∀ i S C, hdN (fun x => x = 14 ∨ x = 16) S → (∀ k q, p i = .inr (k, q) → RF k q → RT i S C o) ∧ ∀ j c, p i = .inl (j, c) → (∀ P C', (∀ x ∈ P, x = 14) → C' ++ P = C ++ c.map trc → T j ≠ 11 → RH j (P ++ S) C' o) → RT i S C o
def mTest (T : Nat → Int) (RT RH : Nat → List Int → List Int → Nat → Prop) (RF : Int → Nat → Prop) (p : Nat → gR) (o : Nat) : Prop := ∀ i S C, hdN (fun x => x = 14 ∨ x = 15 ∨ x = 16) S → (∀ k q, p i = .inr (k, q) → RF k q → RT i S C o) ∧ ∀ j c, p i = .inl (j, c) → (∀ P C', (∀ x ∈ P, x = 14 ∨ x = 15) → C' ++ P = C ++ c.map trc → T j ≠ 11 → T j ≠ 10 → RH j (P ++ S) C' o) → RT i S C o
theorem oN_iff {t : Int} : oN t = true ↔ t = 11 := by unfold oN; exact decide_eq_true_iff
theorem oO_iff {t : Int} : oO t = true ↔ t = 10 := by unfold oO; exact decide_eq_true_iff
theorem loopN {T : Nat → Int} {D5 : Nat → Bool} {RT RH : Nat → List Int → List Int → Nat → Prop} {RF : Int → Nat → Prop} (hN : ∀ i, 2100 ≤ i → T i = -1) (hm : tRl T D5 RT RH RF) {p : Nat → gR} {o : Nat} (hl : gLn p) (hp : mFact RT RH RF p o) {S C : List Int} (hS : hdN (fun x => x = 14 ∨ x = 16) S) : ∀ n i c P C', 2100 < n + i → (∀ x ∈ P, x = 14) → C' ++ P = C ++ c.map trc → (∀ k q, gLoop T oN p n i c = .inr (k, q) → RF k q → RH i (P ++ S) C' o) ∧ ∀ j c', gLoop T oN p n i c = .inl (j, c') → (∀ P C', (∀ x ∈ P, x = 14) → C' ++ P = C ++ c'.map trc → T j ≠ 11 → RH j (P ++ S) C' o) → RH i (P ++ S) C' o := by
  have hS' : hdN (fun x => x = 14) S := fun x h q => hS x h (Or.inl q)
  intro n
  induction n with
  | zero =>
    intro i c P C' hi hP hC
    refine ⟨fun k q h => absurd h (by simp [gLoop]), fun j c' h K => ?_⟩
    obtain ⟨e1, e2⟩ := inl2 h
    rw [← e1, ← e2] at K
    exact K P C' hP hC (by rw [hN i (by omega)]; decide)
  | succ n ih =>
    intro i c P C' hi hP hC
    by_cases ho : oN (T i) = true
    · have h11 := oN_iff.mp ho
      have eg : gLoop T oN p (n + 1) i c = gB (p (i + 1)) (fun j c2 => gLoop T oN p n j (c ++ c2 ++ [T i])) := by
        show (if _ then _ else _) = _; rw [if_pos ho]
      rw [eg]
      obtain ⟨_, _, _, _, _, _, _, H2, _⟩ := hm
      cases e : p (i + 1) with
      | inr f =>
        refine ⟨fun k q h hf => H2 i P S C' o h11 hP hS' ((hp (i + 1) _ _).1 k q (e.trans h) hf), fun j c' h => absurd h (by simp [gB])⟩
      | inl x =>
        have lx := hl _ _ _ (show p (i + 1) = .inl (x.1, x.2) from e)
        have q := ih x.1 (c ++ x.2 ++ [T i]) [14] (C ++ c.map trc ++ x.2.map trc) (by omega) (fun y hy => List.mem_singleton.mp hy) (by rw [← map3, h11]; rfl)
        have st : ∀ (_ : RH x.1 (14 :: S) (C ++ c.map trc ++ x.2.map trc) o), RH i (P ++ S) C' o := fun h => H2 i P S C' o h11 hP hS' ((hp (i + 1) _ _).2 x.1 x.2 e (by rw [hC, hD_ne (hdN_c (by decide))]; exact h))
        exact ⟨fun k z h hf => st (q.1 k z h hf), fun j c' h K => st (q.2 j c' h K)⟩
    · have eg : gLoop T oN p (n + 1) i c = .inl (i, c) := by
        show (if _ then _ else _) = _; rw [if_neg ho]
      rw [eg]
      refine ⟨fun k q h => absurd h (by simp), fun j c' h K => ?_⟩
      obtain ⟨e1, e2⟩ := inl2 h
      rw [← e1, ← e2] at K
      exact K P C' hP hC (fun q => ho (oN_iff.mpr q))
theorem bothM {T : Nat → Int} {D5 : Nat → Bool} {RT RH : Nat → List Int → List Int → Nat → Prop} {RF : Int → Nat → Prop} (hN : ∀ i, 2100 ≤ i → T i = -1) (hm : tRl T D5 RT RH RF) {p : Nat → gR} {o : Nat} (hl : gLn p) (hp : mFact RT RH RF p o) : mBoth T RT RH RF (gL1 T oN p) o := by
  intro i S C hS
  unfold gL1
  cases e : p i with
  | inr f => exact ⟨fun k q h hf => (hp i S C).1 k q (e.trans h) hf, fun j c h => absurd h (by simp [gB])⟩
  | inl x =>
    have lx := hl _ _ _ (show p i = .inl (x.1, x.2) from e)
    have q := loopN hN hm hl hp hS (C := C) 2100 x.1 x.2 [] (C ++ x.2.map trc) (by omega) (fun y hy => absurd hy List.not_mem_nil) (List.append_nil _)
    have en : hD RH x.1 S (C ++ x.2.map trc) o = RH x.1 S (C ++ x.2.map trc) o := hD_ne (fun y h z => hS y h (Or.inr z))
    exact ⟨fun k z h hf => (hp i S C).2 x.1 x.2 e (by rw [en]; exact q.1 k z h hf), fun j c h K => (hp i S C).2 x.1 x.2 e (by rw [en]; exact q.2 j c h K)⟩
theorem loopO {T : Nat → Int} {D5 : Nat → Bool} {RT RH : Nat → List Int → List Int → Nat → Prop} {RF : Int → Nat → Prop} (hN : ∀ i, 2100 ≤ i → T i = -1) (hm : tRl T D5 RT RH RF) {p : Nat → gR} {o : Nat} (hl : gLn p) (hp : mBoth T RT RH RF p o) {S C : List Int} (hS : hdN (fun x => x = 14 ∨ x = 15 ∨ x = 16) S) : ∀ n i c P C', 2100 < n + i → (∀ x ∈ P, x = 14 ∨ x = 15) → C' ++ P = C ++ c.map trc → T i ≠ 11 → (∀ k q, gLoop T oO p n i c = .inr (k, q) → RF k q → RH i (P ++ S) C' o) ∧ ∀ j c', gLoop T oO p n i c = .inl (j, c') → (∀ P C', (∀ x ∈ P, x = 14 ∨ x = 15) → C' ++ P = C ++ c'.map trc → T j ≠ 11 → T j ≠ 10 → RH j (P ++ S) C' o) → RH i (P ++ S) C' o := by
  have hS' : hdN (fun x => x = 14 ∨ x = 15) S := fun x h q => hS x h (q.elim Or.inl (fun z => Or.inr (Or.inl z)))
  have hd : hdN (fun x => x = 14 ∨ x = 16) ((15 : Int) :: S) := hdN_c (by decide)
  intro n
  induction n with
  | zero =>
    intro i c P C' hi hP hC h0
    refine ⟨fun k q h => absurd h (by simp [gLoop]), fun j c' h K => ?_⟩
    obtain ⟨e1, e2⟩ := inl2 h
    rw [← e1, ← e2] at K
    exact K P C' hP hC h0 (by rw [hN i (by omega)]; decide)
  | succ n ih =>
    intro i c P C' hi hP hC h0
    by_cases ho : oO (T i) = true
    · have h10 := oO_iff.mp ho
      have eg : gLoop T oO p (n + 1) i c = gB (p (i + 1)) (fun j c2 => gLoop T oO p n j (c ++ c2 ++ [T i])) := by
        show (if _ then _ else _) = _; rw [if_pos ho]
      rw [eg]
      obtain ⟨_, _, _, _, _, _, _, _, H3, _⟩ := hm
      cases e : p (i + 1) with
      | inr f =>
        refine ⟨fun k q h hf => H3 i P S C' o h10 hP hS' ((hp (i + 1) _ _ hd).1 k q (e.trans h) hf), fun j c' h => absurd h (by simp [gB])⟩
      | inl x =>
        have lx := hl _ _ _ (show p (i + 1) = .inl (x.1, x.2) from e)
        have st : (∀ P2 C2, (∀ y ∈ P2, y = 14) → C2 ++ P2 = C ++ c.map trc ++ x.2.map trc → T x.1 ≠ 11 → RH x.1 ((P2 ++ [15]) ++ S) C2 o) → RH i (P ++ S) C' o := fun h => H3 i P S C' o h10 hP hS' ((hp (i + 1) _ _ hd).2 x.1 x.2 e (fun P2 C2 a b z => by
          rw [hC] at b
          have := h P2 C2 a b z
          rwa [List.append_assoc, List.singleton_append] at this))
        have q : ∀ P2 C2, (∀ y ∈ P2, y = 14) → C2 ++ P2 = C ++ c.map trc ++ x.2.map trc → T x.1 ≠ 11 → _ := fun P2 C2 a b z => ih x.1 (c ++ x.2 ++ [T i]) (P2 ++ [15]) C2 (by omega) (fun y hy => by
          rcases List.mem_append.mp hy with hy | hy
          · exact Or.inl (a y hy)
          · exact Or.inr (List.mem_singleton.mp hy)) (by rw [← List.append_assoc, b, ← map3, h10]; rfl) z
        exact ⟨fun k w h hf => st (fun P2 C2 a b z => (q P2 C2 a b z).1 k w h hf), fun j c' h K => st (fun P2 C2 a b z => (q P2 C2 a b z).2 j c' h K)⟩
    · have eg : gLoop T oO p (n + 1) i c = .inl (i, c) := by
        show (if _ then _ else _) = _; rw [if_neg ho]
      rw [eg]
      refine ⟨fun k q h => absurd h (by simp), fun j c' h K => ?_⟩
      obtain ⟨e1, e2⟩ := inl2 h
      rw [← e1, ← e2] at K
      exact K P C' hP hC h0 (fun q => ho (oO_iff.mpr q))
theorem testM {T : Nat → Int} {D5 : Nat → Bool} {RT RH : Nat → List Int → List Int → Nat → Prop} {RF : Int → Nat → Prop} (hN : ∀ i, 2100 ≤ i → T i = -1) (hm : tRl T D5 RT RH RF) {p : Nat → gR} {o : Nat} (hl : gLn p) (hp : mBoth T RT RH RF p o) : mTest T RT RH RF (gL1 T oO p) o := by
  intro i S C hS
  have hd : hdN (fun x => x = 14 ∨ x = 16) S := fun x h q => hS x h (q.elim Or.inl (fun z => Or.inr (Or.inr z)))
  unfold gL1
  cases e : p i with
  | inr f => exact ⟨fun k q h hf => (hp i S C hd).1 k q (e.trans h) hf, fun j c h => absurd h (by simp [gB])⟩
  | inl x =>
    have lx := hl _ _ _ (show p i = .inl (x.1, x.2) from e)
    have q : ∀ P2 C2, (∀ y ∈ P2, y = 14) → C2 ++ P2 = C ++ x.2.map trc → T x.1 ≠ 11 → _ := fun P2 C2 a b z => loopO hN hm hl hp hS (C := C) 2100 x.1 x.2 P2 C2 (by omega) (fun y hy => Or.inl (a y hy)) b z
    exact ⟨fun k w h hf => (hp i S C hd).2 x.1 x.2 e (fun P2 C2 a b z => (q P2 C2 a b z).1 k w h hf), fun j c h K => (hp i S C hd).2 x.1 x.2 e (fun P2 C2 a b z => (q P2 C2 a b z).2 j c h K)⟩
theorem factM {T : Nat → Int} {D5 : Nat → Bool} {RT RH : Nat → List Int → List Int → Nat → Prop} {RF : Int → Nat → Prop} (hN : ∀ i, 2100 ≤ i → T i = -1) (hm : tRl T D5 RT RH RF) : ∀ m o, o + (m + 1) = 7 → mFact RT RH RF (gFact T D5 (m + 1)) o := by
  intro m
  induction m with
  | zero =>
    intro o ho i S C
    obtain ⟨_, T2, _, T4, T5, T6, _⟩ := hm
    have o6 : ¬ o < 6 := by omega
    by_cases h12 : T i = 12
    · have eg : gFact T D5 (0 + 1) i = .inr (4, i) := by
        show (if _ then _ else _) = _; rw [if_pos h12, if_pos rfl]
      rw [eg]
      refine ⟨fun k q h z => ?_, fun j c h => absurd h (by simp)⟩
      obtain ⟨ek, eq⟩ := inr2 h
      rw [← ek, ← eq] at z
      exact T4 i S C o h12 o6 z
    · by_cases h91 : T i = 91
      · have eg : gFact T D5 (0 + 1) i = .inr (4, i) := by
          show (if _ then _ else _) = _; rw [if_neg h12, if_pos h91, if_pos rfl]
        rw [eg]
        refine ⟨fun k q h z => ?_, fun j c h => absurd h (by simp)⟩
        obtain ⟨ek, eq⟩ := inr2 h
        rw [← ek, ← eq] at z
        exact T2 i S C o h91 o6 z
      · by_cases h13 : T i = 13 ∨ T i = 14
        · have eg : gFact T D5 (0 + 1) i = .inl (i + 1, [T i]) := by
            show (if _ then _ else _) = _; rw [if_neg h12, if_neg h91, if_pos h13]
          rw [eg]
          refine ⟨fun k q h => absurd h (by simp), fun j c h K => ?_⟩
          obtain ⟨e1, e2⟩ := inl2 h
          rw [← e1, ← e2] at K
          exact T5 i S C o h13 K
        · exact T6 i S C 0 o ho h12 h91 h13
  | succ m ih =>
    intro o ho i S C
    have hf := ih (o + 1) (by omega)
    have ht := testM hN hm (gL1_ln (gFact_ln (T := T) (D5 := D5) (m + 1))) (bothM hN hm (gFact_ln (m + 1)) hf)
    obtain ⟨T1, _, T3, _, T5, T6, H1, _, _, H4⟩ := hm
    have o6 : o < 6 := by omega
    by_cases h12 : T i = 12
    · have eg : gFact T D5 (m + 1 + 1) i = gB (gFact T D5 (m + 1) (i + 1)) fun j c => .inl (j, c ++ [12]) := by
        rw [gFact.eq_def]; dsimp only; rw [if_pos h12, if_neg (by omega)]
      rw [eg]
      cases e : gFact T D5 (m + 1) (i + 1) with
      | inr f => exact ⟨fun k q h z => T3 i S C o h12 o6 ((hf (i + 1) (16 :: S) C).1 k q (e.trans h) z), fun j c h => absurd h (by simp [gB])⟩
      | inl x =>
        refine ⟨fun k q h => absurd h (by simp [gB]), fun j c h K => T3 i S C o h12 o6 ((hf (i + 1) (16 :: S) C).2 x.1 x.2 e ?_)⟩
        obtain ⟨e1, e2⟩ := inl2 h
        rw [← e1, ← e2, List.map_append, ← List.append_assoc] at K
        show (if _ then _ else _); rw [if_pos rfl]; exact K
    · by_cases h91 : T i = 91
      · have eg : gFact T D5 (m + 1 + 1) i = gB (gL1 T oO (gL1 T oN (gFact T D5 (m + 1))) (i + 1)) fun j c => if T j = 93 then .inl (j + 1, c) else .inr (1, j) := by
          rw [gFact.eq_def]; dsimp only; rw [if_neg h12, if_pos h91, if_neg (by omega)]
        rw [eg]
        have hd : hdN (fun x => x = 14 ∨ x = 15 ∨ x = 16) ((25 : Int) :: S) := hdN_c (by decide)
        cases e : gL1 T oO (gL1 T oN (gFact T D5 (m + 1))) (i + 1) with
        | inr f => exact ⟨fun k q h z => T1 i S C o h91 o6 ((ht (i + 1) (25 :: S) C hd).1 k q (e.trans h) z), fun j c h => absurd h (by simp [gB])⟩
        | inl x =>
          have st : (∀ P C', (∀ y ∈ P, y = 14 ∨ y = 15) → C' ++ P = C ++ x.2.map trc → T x.1 ≠ 11 → T x.1 ≠ 10 → RH x.1 (P ++ 25 :: S) C' (o + 1)) → RT i S C o := fun h => T1 i S C o h91 o6 ((ht (i + 1) (25 :: S) C hd).2 x.1 x.2 e h)
          show (∀ k q, (if T x.1 = 93 then (Sum.inl (x.1 + 1, x.2) : gR) else .inr (1, x.1)) = .inr (k, q) → _) ∧ (∀ j c, (if T x.1 = 93 then (Sum.inl (x.1 + 1, x.2) : gR) else .inr (1, x.1)) = .inl (j, c) → _)
          by_cases h93 : T x.1 = 93
          · rw [if_pos h93]
            refine ⟨fun k q h => absurd h (by simp), fun j c h K => st (fun P C' a b z1 z2 => ?_)⟩
            obtain ⟨e1, e2⟩ := inl2 h
            rw [← e1, ← e2] at K
            refine H1 x.1 P S C' o h93 a ?_
            rw [b]; exact K
          · rw [if_neg h93]
            refine ⟨fun k q h z => st (fun P C' a b z1 z2 => ?_), fun j c h => absurd h (by simp)⟩
            obtain ⟨ek, eq⟩ := inr2 h
            rw [← ek, ← eq] at z
            exact H4 x.1 P S C' (o + 1) h93 z1 z2 z
      · by_cases h13 : T i = 13 ∨ T i = 14
        · have eg : gFact T D5 (m + 1 + 1) i = .inl (i + 1, [T i]) := by
            rw [gFact.eq_def]; dsimp only; rw [if_neg h12, if_neg h91, if_pos h13]
          rw [eg]
          refine ⟨fun k q h => absurd h (by simp), fun j c h K => ?_⟩
          obtain ⟨e1, e2⟩ := inl2 h
          rw [← e1, ← e2] at K
          exact T5 i S C o h13 K
        · exact T6 i S C (m + 1) o ho h12 h91 h13
theorem gTest_M {T : Nat → Int} {D5 : Nat → Bool} {RT RH : Nat → List Int → List Int → Nat → Prop} {RF : Int → Nat → Prop} (hN : ∀ i, 2100 ≤ i → T i = -1) (hm : tRl T D5 RT RH RF) : mTest T RT RH RF (gTest T D5 7) 0 :=
  testM hN hm (gL1_ln (gFact_ln 7)) (bothM hN hm (gFact_ln 7) (factM hN hm 6 0 rfl))
end
