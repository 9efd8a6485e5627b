section
def hsK (x : Int) : Int := q_and (w32 (q_lxor x (q_lushr x 32))) 1023
theorem hsK_rng (x : Int) : 0 ≤ hsK x ∧ hsK x < 1024 := by unfold hsK; rw [q_and1023]; omega
/-- j is the first by which the same is said as by k -/
def isL (tx : Nat → List Int) (k j : Nat) : Prop := j ≤ k ∧ tx j = tx k ∧ ∀ i, i < j → tx i ≠ tx k
theorem isL_uniq {tx : Nat → List Int} {k i j : Nat} (a : isL tx k i) (b : isL tx k j) : i = j := by
  rcases Nat.lt_trichotomy i j with h | h | h
  · exact absurd a.2.1 (b.2.2 i h)
  · exact h
  · exact absurd b.2.1 (a.2.2 j h)
def hq (tx : Nat → List Int) (j : Nat) : Int := hsK (w64 (rk (tx j)))
def LI (tx : Nat → List Int) (m : Int) (k : Nat) (M : qM) : Prop :=
  (∀ s : Int, 0 ≤ s → s < 1024 → (q_nm M 18 s = 0 ∨ ∃ j : Nat, j < k ∧ q_nm M 18 s = j + 1 ∧ ∀ i, i < j → tx i ≠ tx j)) ∧
  (∀ j : Nat, j < k → (∀ i, i < j → tx i ≠ tx j) → ∃ e : Nat, e < 1024 ∧ q_nm M 18 ((hq tx j + e) % 1024) = j + 1 ∧ ∀ f : Nat, f < e → q_nm M 18 ((hq tx j + f) % 1024) ≠ 0) ∧
  (∀ s s' : Int, 0 ≤ s → s < 1024 → 0 ≤ s' → s' < 1024 → q_nm M 18 s = q_nm M 18 s' → q_nm M 18 s ≠ 0 → s = s') ∧
  (∀ j : Nat, j < k → ∃ l : Nat, isL tx j l ∧ q_nm M (m + 11) j = l)
/-- a free slot: k leads itself -/
theorem LI_new {tx : Nat → List Int} {m : Int} {k d : Nat} {M M2 M3 : qM} {s : Int} (hm : 126 ≤ m) (h : LI tx m k M) (hd : d < 1024) (es : s = (hq tx k + d) % 1024) (hz : q_nm M 18 s = 0) (hp : ∀ e : Nat, e < d → q_nm M 18 ((hq tx k + e) % 1024) ≠ 0 ∧ ∀ j : Nat, q_nm M 18 ((hq tx k + e) % 1024) = j + 1 → tx j ≠ tx k) (e2 : M2 = q_wn M 18 s ((k : Int) + 1)) (e3 : M3 = q_wn M2 (m + 11) k k) : LI tx m (k + 1) M3 := by
  obtain ⟨h1, h2, h3, h4⟩ := h
  have hr := hsK_rng (w64 (rk (tx k)))
  have hk : ∀ i, i < k → tx i ≠ tx k := fun i hi e => by
    obtain ⟨l, hl, _⟩ := h4 i hi
    have el : tx l = tx k := hl.2.1.trans e
    have eh : hq tx l = hq tx k := by unfold hq; rw [el]
    obtain ⟨e', he, q1, q2⟩ := h2 l (by have := hl.1; omega) (fun x hx => by rw [hl.2.1]; exact hl.2.2 x hx)
    rw [eh] at q1 q2
    rcases Nat.lt_trichotomy e' d with c | c | c
    · exact (hp e' c).2 l q1 el
    · rw [c, ← es, hz] at q1; omega
    · have := q2 d c; rw [← es] at this; exact this hz
  have a18 : ∀ x : Int, q_nm M3 18 x = if x = s then (k : Int) + 1 else q_nm M 18 x := fun x => by
    rw [wn_ne e3 (by omega)]
    by_cases c : x = s
    · rw [if_pos c, c]; exact wn_eq e2
    · rw [if_neg c]; exact wn_ne e2 (by omega)
  refine ⟨fun x a b => ?_, fun j hj hl => ?_, fun x y a b c e q1 q2 => ?_, fun j hj => ?_⟩
  · rw [a18]
    by_cases c : x = s
    · rw [if_pos c]; exact Or.inr ⟨k, by omega, rfl, hk⟩
    · rw [if_neg c]
      rcases h1 x a b with q | ⟨j, q1, q2, q3⟩
      · exact Or.inl q
      · exact Or.inr ⟨j, by omega, q2, q3⟩
  · by_cases c : j = k
    · subst c
      refine ⟨d, hd, ?_, fun f hf => ?_⟩
      · rw [a18, if_pos es.symm]
      · rw [a18]
        split
        · omega
        · exact (hp f hf).1
    · obtain ⟨e', he, q1, q2⟩ := h2 j (by omega) hl
      refine ⟨e', he, ?_, fun f hf => ?_⟩
      · rw [a18, if_neg (fun c2 => by rw [c2, hz] at q1; omega)]; exact q1
      · rw [a18]
        split
        · omega
        · exact q2 f hf
  · rw [a18] at q2
    rw [a18, a18] at q1
    by_cases c1 : x = s <;> by_cases c2 : y = s
    · rw [c1, c2]
    · rw [if_pos c1, if_neg c2] at q1
      rcases h1 y c e with q | ⟨j, r1, r2, _⟩ <;> omega
    · rw [if_neg c1, if_pos c2] at q1
      rcases h1 x a b with q | ⟨j, r1, r2, _⟩ <;> omega
    · rw [if_neg c1, if_neg c2] at q1
      rw [if_neg c1] at q2
      exact h3 x y a b c e q1 q2
  · by_cases c : j = k
    · subst c; exact ⟨j, ⟨Nat.le_refl j, rfl, hk⟩, wn_eq e3⟩
    · obtain ⟨l, q1, q2⟩ := h4 j (by omega)
      refine ⟨l, q1, ?_⟩
      rw [wn_ne e3 (by omega), wn_ne e2 (by omega)]; exact q2
/-- one that says the same leads k -/
theorem LI_old {tx : Nat → List Int} {m : Int} {k j : Nat} {M M2 : qM} (hm : 126 ≤ m) (h : LI tx m k M) (hj : j < k) (hl : ∀ i, i < j → tx i ≠ tx j) (ej : tx j = tx k) (e2 : M2 = q_wn M (m + 11) k j) : LI tx m (k + 1) M2 := by
  obtain ⟨h1, h2, h3, h4⟩ := h
  have a18 : ∀ x : Int, q_nm M2 18 x = q_nm M 18 x := fun x => wn_ne e2 (by omega)
  refine ⟨fun x a b => ?_, fun i hi hl' => ?_, fun x y a b c e q1 q2 => ?_, fun i hi => ?_⟩
  · rw [a18]
    rcases h1 x a b with q | ⟨j, q1, q2, q3⟩
    · exact Or.inl q
    · exact Or.inr ⟨j, by omega, q2, q3⟩
  · by_cases c : i = k
    · subst c; exact absurd ej (hl' j hj)
    · obtain ⟨e', he, q1, q2⟩ := h2 i (by omega) hl'
      exact ⟨e', he, by rw [a18]; exact q1, fun f hf => by rw [a18]; exact q2 f hf⟩
  · rw [a18] at q2; rw [a18, a18] at q1; exact h3 x y a b c e q1 q2
  · by_cases c : i = k
    · subst c; exact ⟨j, ⟨by omega, ej, fun x hx => by rw [← ej]; exact hl x hx⟩, wn_eq e2⟩
    · obtain ⟨l, q1, q2⟩ := h4 i (by omega)
      exact ⟨l, q1, by rw [wn_ne e2 (by omega)]; exact q2⟩
theorem LI_full {tx : Nat → List Int} {m : Int} {k : Nat} {M : qM} (h : LI tx m k M) (hk : k < 1024) (hp : ∀ e : Nat, e < 1024 → q_nm M 18 ((hq tx k + e) % 1024) ≠ 0) : False := by
  obtain ⟨h1, _, h3, _⟩ := h
  have hr := hsK_rng (w64 (rk (tx k)))
  have hr' : 0 ≤ hq tx k ∧ hq tx k < 1024 := hr
  have nz : ∀ s : Nat, s < 1024 → q_nm M 18 s ≠ 0 := fun s hs => by
    have := hp (((s : Int) - hq tx k) % 1024).toNat (by omega)
    rw [show (hq tx k + ((((s : Int) - hq tx k) % 1024).toNat : Int)) % 1024 = (s : Int) by omega] at this
    exact this
  have := php k 1024 (fun s => (q_nm M 18 s - 1).toNat) (fun s hs => by
    rcases h1 s (by omega) (by omega) with q | ⟨j, q1, q2, _⟩
    · exact absurd q (nz s hs)
    · show (q_nm M 18 s - 1).toNat < k
      rw [q2]; omega) (fun s s' hs hs' e => by
    have e' : (q_nm M 18 s - 1).toNat = (q_nm M 18 s' - 1).toNat := e
    have n1 := nz s hs
    have n2 := nz s' hs'
    rcases h1 s (by omega) (by omega) with q | ⟨j, q1, q2, _⟩
    · exact absurd q n1
    · rcases h1 s' (by omega) (by omega) with q | ⟨j', q1', q2', _⟩
      · exact absurd q n2
      · have := h3 s s' (by omega) (by omega) (by omega) (by omega) (by omega) n1
        omega)
  omega
def ZG (m : Int) : Int → Int → Prop := fun a _ => a = 18 ∨ a = m + 11
theorem c_16p {d : Nat} {P : Int → qM → Prop} {M : qM} {m nw : Int} {WL : Int → List Int} {WS WE WO : Int → Int} {ln : List Int} {T : List qT} {k : Nat} {c s : Nat} (hc : ctx M m nw WL WS WE WO ln) (hT : C_TK M m T) (hn : T.length ≤ mst ln.length) (hok : ∀ t ∈ T, okT nw ln t) (hkey : ∀ i : Nat, i < T.length → q_nm M (m + 10) i = w64 (rk (txt WL ln (T.getD i (0, 0, 0))))) (hk : k < T.length) (hI : LI (fun j => txt WL ln (T.getD j (0, 0, 0))) m k M)
    (K : ∀ M', fr (ZG m) M M' → LI (fun j => txt WL ln (T.getD j (0, 0, 0))) m (k + 1) M' → q_At q_m16 (q_WP q_Pr (d + 3)) P 7 [(0, .inr (.inr m)), (1, .inr (.inr 18)), (2, .inl ((k : Int) + 1))] [] M' c s) : ∀ (n e : Nat) (x : Int), e + n = 1024 → x = (hq (fun j => txt WL ln (T.getD j (0, 0, 0))) k + e) % 1024 → (∀ f : Nat, f < e → q_nm M 18 ((hq (fun j => txt WL ln (T.getD j (0, 0, 0))) k + f) % 1024) ≠ 0 ∧ ∀ j : Nat, q_nm M 18 ((hq (fun j => txt WL ln (T.getD j (0, 0, 0))) k + f) % 1024) = j + 1 → (fun j => txt WL ln (T.getD j (0, 0, 0))) j ≠ (fun j => txt WL ln (T.getD j (0, 0, 0))) k) → q_At q_m16 (q_WP q_Pr (d + 3)) P 40 [(0, .inr (.inr m)), (1, .inr (.inr 18)), (2, .inl (k : Int)), (3, .inl x), (4, .inl (e : Int))] [] M c s := by
  have ge := q_ml_ge hc.1.1
  have g6 := hc.2.2.2.1
  have m6 := mst_le g6.2
  have hm2 : 0 ≤ (k : Int) ∧ (k : Int) < mst ln.length := by omega
  intro n
  induction n with
  | zero =>
    intro e x he hx hp
    exact absurd (LI_full hI (by omega) (fun f hf => (hp f (by omega)).1)) id
  | succ n ih =>
    intro e x he hx hp
    have xr : 0 ≤ x ∧ x < 1024 := by omega
    refine t_16_40 hc.1.1 ?_
    rw [w32_id (x := (k : Int) + 1) (by omega) (by omega)]
    refine ⟨fun z => absurd z (by omega), fun _ => ⟨xr, fun z => ⟨xr, fun y => absurd z y, fun _ => ⟨xr, fun M2 e2 l2 => ⟨xr, hm2, fun M3 e3 l3 => ?_⟩⟩⟩, fun z => ⟨xr, ?_⟩⟩⟩
    · rw [wn_eq e2, w32_id (x := (k : Int) + 1 - 1) (by omega) (by omega), show (k : Int) + 1 - 1 = k by omega] at e3
      exact K M3 (fr_trans (fr_wn e2 (Or.inl rfl)) (fr_wn e3 (Or.inr rfl))) (LI_new ge hI (by omega) hx z hp e2 e3)
    · rcases hI.1 x xr.1 xr.2 with q | ⟨j, q1, q2, q3⟩
      · exact absurd q z
      · rw [q2, w32_id (x := (j : Int) + 1 - 1) (by omega) (by omega), show (j : Int) + 1 - 1 = j by omega]
        refine c_17 (t := T.getD k (0, 0, 0)) (u := T.getD j (0, 0, 0)) hc hm2 (by omega) (hT.2 k hk) (hT.2 j (by omega)) (hok _ (getT_mem hk)) (hok _ (getT_mem (by omega))) (hkey k hk) (hkey j (by omega)) (fun r => ⟨hc.1.1, fun _ => ⟨xr, fun _ => ⟨xr, hm2, fun M9 e9 l9 => ?_⟩, fun y => absurd y (by omega)⟩, fun y => absurd y (by decide)⟩) (fun r => ⟨hc.1.1, fun y => absurd rfl y, fun _ => ?_⟩)
        · rw [q2, w32_id (x := (j : Int) + 1 - 1) (by omega) (by omega), show (j : Int) + 1 - 1 = j by omega] at e9
          exact K M9 (fr_wn e9 (Or.inr rfl)) (LI_old ge hI q1 q3 r.symm e9)
        · rw [w32_id (x := x + 1) (by omega) (by omega), q_and1023, w32_id (x := (e : Int) + 1) (by omega) (by omega)]
          refine ih (e + 1) ((x + 1) % 1024) (by omega) (by omega) (fun f hf => ?_)
          by_cases ef : f = e
          · rw [ef, ← hx]
            refine ⟨z, fun i hi => ?_⟩
            rw [q2] at hi
            rw [show i = j by omega]; exact fun w => r w.symm
          · exact hp f (by omega)
theorem C_TK_G {M M' : qM} {m : Int} {T : List qT} (hm : 126 ≤ m) (h : C_TK M m T) (f : fr (ZG m) M M') : C_TK M' m T := ⟨(f.2 _ _ (by unfold ZG; omega)).trans h.1, fun i hi => by
  have o := h.2 i hi
  exact ⟨(f.2 _ _ (by unfold ZG; omega)).trans o.1, (f.2 _ _ (by unfold ZG; omega)).trans o.2.1, (f.2 _ _ (by unfold ZG; omega)).trans o.2.2⟩⟩
theorem c_16l {d : Nat} {P : Int → qM → Prop} {M0 : qM} {m nw : Int} {WL : Int → List Int} {WS WE WO : Int → Int} {ln : List Int} {T : List qT} {c s : Nat} (hc : ctx M0 m nw WL WS WE WO ln) (hT : C_TK M0 m T) (hn : T.length ≤ mst ln.length) (hok : ∀ t ∈ T, okT nw ln t) (hkey : ∀ i : Nat, i < T.length → q_nm M0 (m + 10) i = w64 (rk (txt WL ln (T.getD i (0, 0, 0)))))
    (K : ∀ M', fr (ZG m) M0 M' → (∀ j : Nat, j < T.length → ∃ l : Nat, isL (fun j => txt WL ln (T.getD j (0, 0, 0))) j l ∧ q_nm M' (m + 11) j = l) → P 0 M') : ∀ (n k : Nat) (M : qM), k + n = T.length → fr (ZG m) M0 M → LI (fun j => txt WL ln (T.getD j (0, 0, 0))) m k M → q_At q_m16 (q_WP q_Pr (d + 3)) P 7 [(0, .inr (.inr m)), (1, .inr (.inr 18)), (2, .inl (k : Int))] [] M c s := by
  have ge := q_ml_ge hc.1.1
  have g6 := hc.2.2.2.1
  have m6 := mst_le g6.2
  intro n
  induction n with
  | zero =>
    intro k M e hf hI
    have ek : k = T.length := by omega
    subst ek
    refine t_16_7 (q_ml_fr hf hc.1.1) ?_
    rw [(C_TK_G ge hT hf).1]
    exact ⟨fun _ => K M hf hI.2.2.2, fun z => absurd z (by omega)⟩
  | succ n ih =>
    intro k M e hf hI
    have hc' : ctx M m nw WL WS WE WO ln := ctx_fr hc hf (fun j => by unfold ZG; omega) (fun a j _ _ => by unfold ZG; omega)
    have hT' := C_TK_G ge hT hf
    have hkey' : ∀ i : Nat, i < T.length → q_nm M (m + 10) i = w64 (rk (txt WL ln (T.getD i (0, 0, 0)))) := fun i hi => (hf.2 _ _ (by unfold ZG; omega)).trans (hkey i hi)
    have hr := hsK_rng (w64 (rk (txt WL ln (T.getD k (0, 0, 0)))))
    refine t_16_7 hc'.1.1 ?_
    rw [hT'.1, hkey' k (by omega)]
    refine ⟨fun z => absurd z (by omega), fun _ => ⟨by omega, by omega, ?_⟩⟩
    refine c_16p hc' hT' hn hok hkey' (by omega) hI (fun M' f1 c1 => ?_) 1024 0 _ (by omega) ?_ (fun f hf => absurd hf (Nat.not_lt_zero f))
    · exact ih (k + 1) M' (by omega) (fr_trans hf f1) c1
    · show hsK (w64 (rk (txt WL ln (T.getD k (0, 0, 0))))) = (hsK (w64 (rk (txt WL ln (T.getD k (0, 0, 0))))) + 0) % 1024
      omega
theorem c_16 {d : Nat} {P : Int → qM → Prop} {M : qM} {m nw : Int} {WL : Int → List Int} {WS WE WO : Int → Int} {ln : List Int} {T : List qT} (hc : ctx M m nw WL WS WE WO ln) (hT : C_TK M m T) (hn : T.length ≤ mst ln.length) (hok : ∀ t ∈ T, okT nw ln t) (hkey : ∀ i : Nat, i < T.length → q_nm M (m + 10) i = w64 (rk (txt WL ln (T.getD i (0, 0, 0)))))
    (K : ∀ M', fr (ZG m) M M' → (∀ j : Nat, j < T.length → ∃ l : Nat, isL (fun j => txt WL ln (T.getD j (0, 0, 0))) j l ∧ q_nm M' (m + 11) j = l) → P 0 M') : q_WP q_Pr (d + 4) 16 [.inr (.inr m), .inr (.inr 18)] M P := by
  have ge := q_ml_ge hc.1.1
  have hl := hc.1.1.1
  refine q_enter (t_16_0 hc.1.1 (c_262 (n := 1024) (by decide) (lk18 hl) (ll18 hl) (by decide) (by decide) (fun M1 f1' c1 => ⟨q_ml_fr f1' hc.1.1, ?_⟩)))
  have f1 : fr (ZG m) M M1 := fr_mono f1' (fun a j z => Or.inl z)
  have hc1 : ctx M1 m nw WL WS WE WO ln := ctx_fr hc f1 (fun j => by unfold ZG; omega) (fun a j _ _ => by unfold ZG; omega)
  refine c_16l hc1 (C_TK_G ge hT f1) hn hok (fun i hi => (f1.2 _ _ (by unfold ZG; omega)).trans (hkey i hi)) (fun M' f2 c2 => K M' (fr_trans f1 f2) c2) T.length 0 M1 (by omega) fr_rfl ⟨fun x a b => Or.inl (c1 x a b), fun j hj => absurd hj (Nat.not_lt_zero j), fun x y a b _ _ _ q => absurd (c1 x a b) q, fun j hj => absurd hj (Nat.not_lt_zero j)⟩
end
