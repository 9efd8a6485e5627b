section
/-- the script lies where it lay -/
def q_scr (L : Nat) (X : Int → Int) (M : qM) : Prop := q_kd M (-3) = 14 ∧ q_ln M (-3) = L ∧ ∀ j, q_nm M (-3) j = X j
/-- a call of each side, one behind the other: like answers, and the world is kept -/
def q_ok (L : Nat) (X : Int → Int) (Inv : qM → Prop) (D yc yr : Nat) (as : List qV) : Prop := ∀ M, Inv M → q_WP q_Pr D yc (.inr (.inr 0) :: as) M (fun v M2 => (q_scr L X M2 ∧ q_kd M2 66 = 11) ∧ q_WP q_Pr D yr (.inr (.inr 66) :: as) M2 (fun w M3 => v = w ∧ Inv M3))
def q_okA (L : Nat) (X : Int → Int) (Inv : qM → Prop) (D : Nat) : Prop :=
  (∀ a0 a1 a2 a3 a4 : Int, q_i32 a0 → q_i32 a1 → q_i32 a2 → q_i32 a3 → q_i32 a4 → q_ok L X Inv D 97 147 [.inl a0, .inl a1, .inl a2, .inl a3, .inl a4]) ∧
  (∀ a0 : Int, q_i32 a0 → q_ok L X Inv D 98 148 [.inl a0]) ∧
  (∀ a0 a1 a2 : Int, q_i32 a0 → q_i32 a1 → q_i32 a2 → q_ok L X Inv D 99 162 [.inl a0, .inl a1, .inl a2]) ∧
  (∀ a0 a1 a2 a3 a4 a5 : Int, q_i32 a0 → q_i32 a1 → q_i32 a2 → q_i32 a3 → q_i32 a4 → q_i32 a5 → q_ok L X Inv D 100 163 [.inl a0, .inl a1, .inl a2, .inl a3, .inl a4, .inl a5]) ∧
  (∀ a0 : Int, q_i32 a0 → q_ok L X Inv D 101 166 [.inl a0]) ∧
  (∀ a0 : Int, q_i32 a0 → q_ok L X Inv D 102 185 [.inl a0]) ∧
  (q_ok L X Inv D 103 186 []) ∧
  (∀ a0 : Int, q_i32 a0 → q_ok L X Inv D 104 187 [.inl a0]) ∧
  (∀ a0 : Int, q_i32 a0 → q_ok L X Inv D 105 203 [.inl a0]) ∧
  (∀ a0 a1 a2 : Int, q_i32 a0 → q_i32 a1 → q_i32 a2 → q_ok L X Inv D 106 204 [.inl a0, .inl a1, .inl a2]) ∧
  (∀ a0 a1 a2 : Int, q_i32 a0 → q_i32 a1 → q_i32 a2 → q_ok L X Inv D 107 217 [.inl a0, .inl a1, .inl a2]) ∧
  (∀ a0 a1 : Int, q_i32 a0 → q_i32 a1 → q_ok L X Inv D 108 219 [.inl a0, .inl a1]) ∧
  (∀ a0 a1 a2 : Int, q_i32 a0 → q_i32 a1 → q_i32 a2 → q_ok L X Inv D 109 220 [.inl a0, .inl a1, .inl a2]) ∧
  (q_ok L X Inv D 110 221 []) ∧
  (∀ a0 : Int, q_i32 a0 → q_ok L X Inv D 111 222 [.inl a0]) ∧
  (∀ a0 a1 : Int, q_i32 a0 → q_i32 a1 → q_ok L X Inv D 112 225 [.inl a0, .inl a1]) ∧
  (∀ a0 a1 a2 : Int, q_i32 a0 → q_i32 a1 → (a2 = 0 ∨ a2 = 1) → q_ok L X Inv D 113 228 [.inl a0, .inl a1, .inl a2]) ∧
  (∀ a0 a1 a2 a3 : Int, q_i32 a0 → q_i32 a1 → q_i32 a2 → (a3 = 0 ∨ a3 = 1) → q_ok L X Inv D 114 229 [.inl a0, .inl a1, .inl a2, .inl a3]) ∧
  (∀ a0 : Int, q_i32 a0 → q_ok L X Inv D 115 230 [.inl a0]) ∧
  (∀ a0 a1 : Int, q_i32 a0 → q_i32 a1 → q_ok L X Inv D 116 231 [.inl a0, .inl a1]) ∧
  (∀ a0 a1 : Int, q_i32 a0 → q_i32 a1 → q_ok L X Inv D 117 232 [.inl a0, .inl a1]) ∧
  (∀ a0 : Int, q_i32 a0 → q_ok L X Inv D 118 233 [.inl a0]) ∧
  (q_ok L X Inv D 119 234 []) ∧
  (∀ a0 : Int, q_i32 a0 → q_ok L X Inv D 120 235 [.inl a0]) ∧
  (∀ a0 : Int, q_i32 a0 → q_ok L X Inv D 121 238 [.inl a0]) ∧
  (∀ a0 a1 : Int, q_i32 a0 → q_i32 a1 → q_ok L X Inv D 122 239 [.inl a0, .inl a1]) ∧
  (∀ a0 : Int, q_i32 a0 → q_ok L X Inv D 123 240 [.inl a0]) ∧
  (∀ a0 : Int, (a0 = 0 ∨ a0 = 1) → q_ok L X Inv D 124 241 [.inl a0]) ∧
  (∀ a0 : Int, (a0 = 0 ∨ a0 = 1) → q_ok L X Inv D 125 242 [.inl a0]) ∧
  (∀ a0 a1 a2 : Int, q_i32 a0 → q_i32 a1 → q_i32 a2 → q_ok L X Inv D 126 244 [.inl a0, .inl a1, .inl a2]) ∧
  (q_ok L X Inv D 127 245 []) ∧
  (∀ a0 a1 a2 : Int, q_i32 a0 → q_i32 a1 → (a2 = 0 ∨ a2 = 1) → q_ok L X Inv D 128 205 [.inl a0, .inl a1, .inl a2]) ∧
  (∀ a0 a1 a2 a3 : Int, q_i32 a0 → q_i32 a1 → q_i32 a2 → (a3 = 0 ∨ a3 = 1) → q_ok L X Inv D 129 247 [.inl a0, .inl a1, .inl a2, .inl a3]) ∧
  (∀ a0 a1 a2 a3 : Int, q_i32 a0 → q_i32 a1 → q_i32 a2 → (a3 = 0 ∨ a3 = 1) → q_ok L X Inv D 130 248 [.inl a0, .inl a1, .inl a2, .inl a3]) ∧
  (q_ok L X Inv D 131 251 []) ∧
  (∀ a0 : Int, q_i32 a0 → q_ok L X Inv D 132 252 [.inl a0]) ∧
  (q_ok L X Inv D 133 254 [])
theorem w32_id {x : Int} (h0 : -2147483648 ≤ x) (h1 : x ≤ 2147483647) : w32 x = x := by unfold w32; omega
set_option maxRecDepth 100000 in
set_option maxHeartbeats 8000000 in
theorem law_step {L : Nat} {X : Int → Int} {Inv : qM → Prop} {D : Nat} {P : Int → qM → Prop} (hL : L ≤ 3584) (hX : ∀ j, q_i32 (X j)) (hI : ∀ M, Inv M → q_scr L X M ∧ q_kd M 0 = 10) (hA : q_okA L X Inv D) (hP : ∀ M, P 1 M) {x : Int} {M : qM} {c s : Nat} (hx0 : 0 ≤ x) (hx1 : x ≤ 3591) (hM : Inv M) (hc : c ≤ 500000) (hs0 : s ≤ 7000000)
    (nx0 : x + 7 ≤ L → ∀ M' c' s', Inv M' → c' ≤ c + 25 → s' ≤ s + 10650 → q_At q_m264 (q_WP q_Pr D) P 18 [(0, .inr (.inr (-3))), (1, .inr (.inr 0)), (2, .inr (.inr 66)), (3, .inl (x + 7))] [] M' c' s') : q_At q_m264 (q_WP q_Pr D) P 18 [(0, .inr (.inr (-3))), (1, .inr (.inr 0)), (2, .inr (.inr 66)), (3, .inl x)] [] M c s := by
  obtain ⟨h0, h1, h2, h3, h4, h5, h6, h7, h8, h9, h10, h11, h12, h13, h14, h15, h16, h17, h18, h19, h20, h21, h22, h23, h24, h25, h26, h27, h28, h29, h30, h31, h32, h33, h34, h35, h36⟩ := hA
  obtain ⟨hs, hk0⟩ := hI M hM
  have e1 : w32 (x + 1) = x + 1 := w32_id (by omega) (by omega)
  have e2 : w32 (x + 2) = x + 2 := w32_id (by omega) (by omega)
  have e3 : w32 (x + 3) = x + 3 := w32_id (by omega) (by omega)
  have e4 : w32 (x + 4) = x + 4 := w32_id (by omega) (by omega)
  have e5 : w32 (x + 5) = x + 5 := w32_id (by omega) (by omega)
  have e6 : w32 (x + 6) = x + 6 := w32_id (by omega) (by omega)
  have e7 : w32 (x + 7) = x + 7 := w32_id (by omega) (by omega)
  have eL : w32 ((q_ln M (-3)) - 7) = L - 7 := by rw [hs.2.1]; exact w32_id (by omega) (by omega)
  refine s_264_18 ?_
  simp only [eL, hs.2.2]
  refine ⟨by rw [hs.1]; decide, fun _ => ⟨⟨by decide, by decide⟩, hP M⟩, fun hle => ?_⟩
  have cd : ∀ M' : qM, q_scr L X M' → ∀ k : Int, 0 ≤ k → k ≤ 6 → (q_kd M' (-3) = 14 ∧ 0 ≤ x + k ∧ x + k < q_ln M' (-3)) := fun M' h k k0 k1 => ⟨h.1, by omega, by rw [h.2.1]; omega⟩
  have nx : ∀ (M' : qM) (c' s' : Nat), Inv M' → c' ≤ c + 25 → s' ≤ s + 10650 → q_At q_m264 (q_WP q_Pr D) P 1471 [(0, .inr (.inr (-3))), (1, .inr (.inr 0)), (2, .inr (.inr 66)), (3, .inl x)] [] M' c' s' := fun M' c' s' h1 h2 h3 => s_264_1471 (by rw [e7]; exact nx0 (by omega) M' c' s' h1 h2 h3)
  refine ⟨⟨hs.1, hx0, by rw [hs.2.1]; omega⟩, ⟨?_, ?_, ?_, ?_, ?_, ?_, ?_, ?_, ?_, ?_, ?_, ?_, ?_, ?_, ?_, ?_, ?_, ?_, ?_, ?_, ?_, ?_, ?_, ?_, ?_, ?_, ?_, ?_, ?_, ?_, ?_, ?_, ?_, ?_, ?_, ?_, ?_, trivial⟩, fun _ => nx M _ _ hM (by omega) (by omega)⟩
  · intro _
    refine u_264_196 ?_
    try simp only [e1, e2, e3, e4, e5, e6, hs.2.2]
    refine ⟨cd M hs 1 (by decide) (by decide), cd M hs 2 (by decide) (by decide), cd M hs 3 (by decide) (by decide), cd M hs 4 (by decide) (by decide), cd M hs 5 (by decide) (by decide), hk0, q_WP_mono _ _ _ _ _ _ (fun v M2 g => ?_) (h0 _ _ _ _ _ (hX _) (hX _) (hX _) (hX _) (hX _) M hM)⟩
    try simp only [g.1.1.2.2]
    exact ⟨cd M2 g.1.1 1 (by decide) (by decide), cd M2 g.1.1 2 (by decide) (by decide), cd M2 g.1.1 3 (by decide) (by decide), cd M2 g.1.1 4 (by decide) (by decide), cd M2 g.1.1 5 (by decide) (by decide), g.1.2, q_WP_mono _ _ _ _ _ _ (fun w M3 r => ⟨fun _ => nx M3 _ _ r.2 (by omega) (by omega), fun hn => absurd r.1 hn⟩) g.2⟩
  · intro _
    refine u_264_259 ?_
    try simp only [e1, e2, e3, e4, e5, e6, hs.2.2]
    refine ⟨cd M hs 1 (by decide) (by decide), hk0, q_WP_mono _ _ _ _ _ _ (fun v M2 g => ?_) (h1 _ (hX _) M hM)⟩
    try simp only [g.1.1.2.2]
    exact ⟨cd M2 g.1.1 1 (by decide) (by decide), g.1.2, q_WP_mono _ _ _ _ _ _ (fun w M3 r => ⟨fun _ => nx M3 _ _ r.2 (by omega) (by omega), fun hn => absurd r.1 hn⟩) g.2⟩
  · intro _
    refine u_264_282 ?_
    try simp only [e1, e2, e3, e4, e5, e6, hs.2.2]
    refine ⟨cd M hs 1 (by decide) (by decide), cd M hs 2 (by decide) (by decide), cd M hs 3 (by decide) (by decide), hk0, q_WP_mono _ _ _ _ _ _ (fun v M2 g => ?_) (h2 _ _ _ (hX _) (hX _) (hX _) M hM)⟩
    try simp only [g.1.1.2.2]
    exact ⟨cd M2 g.1.1 1 (by decide) (by decide), cd M2 g.1.1 2 (by decide) (by decide), cd M2 g.1.1 3 (by decide) (by decide), g.1.2, q_WP_mono _ _ _ _ _ _ (fun w M3 r => ⟨fun _ => nx M3 _ _ r.2 (by omega) (by omega), fun hn => absurd r.1 hn⟩) g.2⟩
  · intro _
    refine u_264_325 ?_
    try simp only [e1, e2, e3, e4, e5, e6, hs.2.2]
    refine ⟨cd M hs 1 (by decide) (by decide), cd M hs 2 (by decide) (by decide), cd M hs 3 (by decide) (by decide), cd M hs 4 (by decide) (by decide), cd M hs 5 (by decide) (by decide), cd M hs 6 (by decide) (by decide), hk0, ⟨by omega, by omega⟩, q_WP_mono _ _ _ _ _ _ (fun v M2 g => ?_) (h3 _ _ _ _ _ _ (hX _) (hX _) (hX _) (hX _) (hX _) (hX _) M hM)⟩
    try simp only [g.1.1.2.2]
    exact ⟨cd M2 g.1.1 1 (by decide) (by decide), cd M2 g.1.1 2 (by decide) (by decide), cd M2 g.1.1 3 (by decide) (by decide), cd M2 g.1.1 4 (by decide) (by decide), cd M2 g.1.1 5 (by decide) (by decide), cd M2 g.1.1 6 (by decide) (by decide), g.1.2, q_WP_mono _ _ _ _ _ _ (fun w M3 r => ⟨fun _ => nx M3 _ _ r.2 (by omega) (by omega), fun hn => absurd r.1 hn⟩) g.2⟩
  · intro _
    refine u_264_400 ?_
    try simp only [e1, e2, e3, e4, e5, e6, hs.2.2]
    refine ⟨cd M hs 1 (by decide) (by decide), hk0, q_WP_mono _ _ _ _ _ _ (fun v M2 g => ?_) (h4 _ (hX _) M hM)⟩
    try simp only [g.1.1.2.2]
    exact ⟨cd M2 g.1.1 1 (by decide) (by decide), g.1.2, q_WP_mono _ _ _ _ _ _ (fun w M3 r => ⟨fun _ => nx M3 _ _ r.2 (by omega) (by omega), fun hn => absurd r.1 hn⟩) g.2⟩
  · intro _
    refine u_264_423 ?_
    try simp only [e1, e2, e3, e4, e5, e6, hs.2.2]
    refine ⟨cd M hs 1 (by decide) (by decide), hk0, ⟨by omega, by omega⟩, q_WP_mono _ _ _ _ _ _ (fun v M2 g => ?_) (h5 _ (hX _) M hM)⟩
    try simp only [g.1.1.2.2]
    exact ⟨cd M2 g.1.1 1 (by decide) (by decide), g.1.2, q_WP_mono _ _ _ _ _ _ (fun w M3 r => ⟨fun _ => nx M3 _ _ r.2 (by omega) (by omega), fun hn => absurd r.1 hn⟩) g.2⟩
  · intro _
    refine u_264_446 ?_
    try simp only [e1, e2, e3, e4, e5, e6, hs.2.2]
    refine ⟨ hk0, ⟨by omega, by omega⟩, q_WP_mono _ _ _ _ _ _ (fun v M2 g => ?_) (h6   M hM)⟩
    try simp only [g.1.1.2.2]
    exact ⟨ g.1.2, q_WP_mono _ _ _ _ _ _ (fun w M3 r => ⟨fun _ => nx M3 _ _ r.2 (by omega) (by omega), fun hn => absurd r.1 hn⟩) g.2⟩
  · intro _
    refine u_264_459 ?_
    try simp only [e1, e2, e3, e4, e5, e6, hs.2.2]
    refine ⟨cd M hs 1 (by decide) (by decide), hk0, q_WP_mono _ _ _ _ _ _ (fun v M2 g => ?_) (h7 _ (hX _) M hM)⟩
    try simp only [g.1.1.2.2]
    exact ⟨cd M2 g.1.1 1 (by decide) (by decide), g.1.2, q_WP_mono _ _ _ _ _ _ (fun w M3 r => ⟨fun _ => nx M3 _ _ r.2 (by omega) (by omega), fun hn => absurd r.1 hn⟩) g.2⟩
  · intro _
    refine u_264_482 ?_
    try simp only [e1, e2, e3, e4, e5, e6, hs.2.2]
    refine ⟨cd M hs 1 (by decide) (by decide), hk0, q_WP_mono _ _ _ _ _ _ (fun v M2 g => ?_) (h8 _ (hX _) M hM)⟩
    try simp only [g.1.1.2.2]
    exact ⟨cd M2 g.1.1 1 (by decide) (by decide), g.1.2, q_WP_mono _ _ _ _ _ _ (fun w M3 r => ⟨fun _ => nx M3 _ _ r.2 (by omega) (by omega), fun hn => absurd r.1 hn⟩) g.2⟩
  · intro _
    refine u_264_505 ?_
    try simp only [e1, e2, e3, e4, e5, e6, hs.2.2]
    refine ⟨cd M hs 1 (by decide) (by decide), cd M hs 2 (by decide) (by decide), cd M hs 3 (by decide) (by decide), hk0, q_WP_mono _ _ _ _ _ _ (fun v M2 g => ?_) (h9 _ _ _ (hX _) (hX _) (hX _) M hM)⟩
    try simp only [g.1.1.2.2]
    exact ⟨cd M2 g.1.1 1 (by decide) (by decide), cd M2 g.1.1 2 (by decide) (by decide), cd M2 g.1.1 3 (by decide) (by decide), g.1.2, q_WP_mono _ _ _ _ _ _ (fun w M3 r => ⟨fun _ => nx M3 _ _ r.2 (by omega) (by omega), fun hn => absurd r.1 hn⟩) g.2⟩
  · intro _
    refine u_264_548 ?_
    try simp only [e1, e2, e3, e4, e5, e6, hs.2.2]
    refine ⟨cd M hs 1 (by decide) (by decide), cd M hs 2 (by decide) (by decide), cd M hs 3 (by decide) (by decide), hk0, q_WP_mono _ _ _ _ _ _ (fun v M2 g => ?_) (h10 _ _ _ (hX _) (hX _) (hX _) M hM)⟩
    try simp only [g.1.1.2.2]
    exact ⟨cd M2 g.1.1 1 (by decide) (by decide), cd M2 g.1.1 2 (by decide) (by decide), cd M2 g.1.1 3 (by decide) (by decide), g.1.2, q_WP_mono _ _ _ _ _ _ (fun w M3 r => ⟨fun _ => nx M3 _ _ r.2 (by omega) (by omega), fun hn => absurd r.1 hn⟩) g.2⟩
  · intro _
    refine u_264_591 ?_
    try simp only [e1, e2, e3, e4, e5, e6, hs.2.2]
    refine ⟨cd M hs 1 (by decide) (by decide), cd M hs 2 (by decide) (by decide), hk0, q_WP_mono _ _ _ _ _ _ (fun v M2 g => ?_) (h11 _ _ (hX _) (hX _) M hM)⟩
    try simp only [g.1.1.2.2]
    exact ⟨cd M2 g.1.1 1 (by decide) (by decide), cd M2 g.1.1 2 (by decide) (by decide), g.1.2, q_WP_mono _ _ _ _ _ _ (fun w M3 r => ⟨fun _ => nx M3 _ _ r.2 (by omega) (by omega), fun hn => absurd r.1 hn⟩) g.2⟩
  · intro _
    refine u_264_624 ?_
    try simp only [e1, e2, e3, e4, e5, e6, hs.2.2]
    refine ⟨cd M hs 1 (by decide) (by decide), cd M hs 2 (by decide) (by decide), cd M hs 3 (by decide) (by decide), hk0, q_WP_mono _ _ _ _ _ _ (fun v M2 g => ?_) (h12 _ _ _ (hX _) (hX _) (hX _) M hM)⟩
    try simp only [g.1.1.2.2]
    exact ⟨cd M2 g.1.1 1 (by decide) (by decide), cd M2 g.1.1 2 (by decide) (by decide), cd M2 g.1.1 3 (by decide) (by decide), g.1.2, q_WP_mono _ _ _ _ _ _ (fun w M3 r => ⟨fun _ => nx M3 _ _ r.2 (by omega) (by omega), fun hn => absurd r.1 hn⟩) g.2⟩
  · intro _
    refine u_264_667 ?_
    try simp only [e1, e2, e3, e4, e5, e6, hs.2.2]
    refine ⟨ hk0, q_WP_mono _ _ _ _ _ _ (fun v M2 g => ?_) (h13   M hM)⟩
    try simp only [g.1.1.2.2]
    exact ⟨ g.1.2, q_WP_mono _ _ _ _ _ _ (fun w M3 r => ⟨fun _ => nx M3 _ _ r.2 (by omega) (by omega), fun hn => absurd r.1 hn⟩) g.2⟩
  · intro _
    refine u_264_680 ?_
    try simp only [e1, e2, e3, e4, e5, e6, hs.2.2]
    refine ⟨cd M hs 1 (by decide) (by decide), hk0, q_WP_mono _ _ _ _ _ _ (fun v M2 g => ?_) (h14 _ (hX _) M hM)⟩
    try simp only [g.1.1.2.2]
    exact ⟨cd M2 g.1.1 1 (by decide) (by decide), g.1.2, q_WP_mono _ _ _ _ _ _ (fun w M3 r => ⟨fun _ => nx M3 _ _ r.2 (by omega) (by omega), fun hn => absurd r.1 hn⟩) g.2⟩
  · intro _
    refine u_264_703 ?_
    try simp only [e1, e2, e3, e4, e5, e6, hs.2.2]
    refine ⟨cd M hs 1 (by decide) (by decide), cd M hs 2 (by decide) (by decide), hk0, q_WP_mono _ _ _ _ _ _ (fun v M2 g => ?_) (h15 _ _ (hX _) (hX _) M hM)⟩
    try simp only [g.1.1.2.2]
    exact ⟨cd M2 g.1.1 1 (by decide) (by decide), cd M2 g.1.1 2 (by decide) (by decide), g.1.2, q_WP_mono _ _ _ _ _ _ (fun w M3 r => ⟨fun _ => nx M3 _ _ r.2 (by omega) (by omega), fun hn => absurd r.1 hn⟩) g.2⟩
  · intro _
    refine u_264_736 ?_
    simp only [e1, e2, e3, e4, e5, e6, hs.2.2]
    refine ⟨cd M hs 1 (by decide) (by decide), cd M hs 2 (by decide) (by decide), cd M hs 3 (by decide) (by decide), ?_, ?_⟩
    · intro hb
      refine ⟨hk0, q_WP_mono _ _ _ _ _ _ (fun v M2 g => ?_) (h16 _ _ 0 (hX _) (hX _) (Or.inl rfl) M hM)⟩
      simp only [g.1.1.2.2]
      exact ⟨cd M2 g.1.1 1 (by decide) (by decide), cd M2 g.1.1 2 (by decide) (by decide), cd M2 g.1.1 3 (by decide) (by decide), fun _ => s_264_787 ⟨g.1.2, q_WP_mono _ _ _ _ _ _ (fun w M3 r => ⟨fun _ => nx M3 _ _ r.2 (by omega) (by omega), fun hn => absurd r.1 hn⟩) g.2⟩, fun hn => absurd hb hn⟩
    · intro hb
      refine ⟨hk0, q_WP_mono _ _ _ _ _ _ (fun v M2 g => ?_) (h16 _ _ 1 (hX _) (hX _) (Or.inr rfl) M hM)⟩
      simp only [g.1.1.2.2]
      exact ⟨cd M2 g.1.1 1 (by decide) (by decide), cd M2 g.1.1 2 (by decide) (by decide), cd M2 g.1.1 3 (by decide) (by decide), fun hn => absurd hn hb, fun _ => s_264_787 ⟨g.1.2, q_WP_mono _ _ _ _ _ _ (fun w M3 r => ⟨fun _ => nx M3 _ _ r.2 (by omega) (by omega), fun hn => absurd r.1 hn⟩) g.2⟩⟩
  · intro _
    refine u_264_795 ?_
    simp only [e1, e2, e3, e4, e5, e6, hs.2.2]
    refine ⟨cd M hs 1 (by decide) (by decide), cd M hs 2 (by decide) (by decide), cd M hs 3 (by decide) (by decide), cd M hs 4 (by decide) (by decide), ?_, ?_⟩
    · intro hb
      refine ⟨hk0, q_WP_mono _ _ _ _ _ _ (fun v M2 g => ?_) (h17 _ _ _ 0 (hX _) (hX _) (hX _) (Or.inl rfl) M hM)⟩
      simp only [g.1.1.2.2]
      exact ⟨cd M2 g.1.1 1 (by decide) (by decide), cd M2 g.1.1 2 (by decide) (by decide), cd M2 g.1.1 3 (by decide) (by decide), cd M2 g.1.1 4 (by decide) (by decide), fun _ => s_264_856 ⟨g.1.2, q_WP_mono _ _ _ _ _ _ (fun w M3 r => ⟨fun _ => nx M3 _ _ r.2 (by omega) (by omega), fun hn => absurd r.1 hn⟩) g.2⟩, fun hn => absurd hb hn⟩
    · intro hb
      refine ⟨hk0, q_WP_mono _ _ _ _ _ _ (fun v M2 g => ?_) (h17 _ _ _ 1 (hX _) (hX _) (hX _) (Or.inr rfl) M hM)⟩
      simp only [g.1.1.2.2]
      exact ⟨cd M2 g.1.1 1 (by decide) (by decide), cd M2 g.1.1 2 (by decide) (by decide), cd M2 g.1.1 3 (by decide) (by decide), cd M2 g.1.1 4 (by decide) (by decide), fun hn => absurd hn hb, fun _ => s_264_856 ⟨g.1.2, q_WP_mono _ _ _ _ _ _ (fun w M3 r => ⟨fun _ => nx M3 _ _ r.2 (by omega) (by omega), fun hn => absurd r.1 hn⟩) g.2⟩⟩
  · intro _
    refine u_264_864 ?_
    try simp only [e1, e2, e3, e4, e5, e6, hs.2.2]
    refine ⟨cd M hs 1 (by decide) (by decide), hk0, q_WP_mono _ _ _ _ _ _ (fun v M2 g => ?_) (h18 _ (hX _) M hM)⟩
    try simp only [g.1.1.2.2]
    exact ⟨cd M2 g.1.1 1 (by decide) (by decide), g.1.2, q_WP_mono _ _ _ _ _ _ (fun w M3 r => ⟨fun _ => nx M3 _ _ r.2 (by omega) (by omega), fun hn => absurd r.1 hn⟩) g.2⟩
  · intro _
    refine u_264_887 ?_
    try simp only [e1, e2, e3, e4, e5, e6, hs.2.2]
    refine ⟨cd M hs 1 (by decide) (by decide), cd M hs 2 (by decide) (by decide), hk0, q_WP_mono _ _ _ _ _ _ (fun v M2 g => ?_) (h19 _ _ (hX _) (hX _) M hM)⟩
    try simp only [g.1.1.2.2]
    exact ⟨cd M2 g.1.1 1 (by decide) (by decide), cd M2 g.1.1 2 (by decide) (by decide), g.1.2, q_WP_mono _ _ _ _ _ _ (fun w M3 r => ⟨fun _ => nx M3 _ _ r.2 (by omega) (by omega), fun hn => absurd r.1 hn⟩) g.2⟩
  · intro _
    refine u_264_920 ?_
    try simp only [e1, e2, e3, e4, e5, e6, hs.2.2]
    refine ⟨cd M hs 1 (by decide) (by decide), cd M hs 2 (by decide) (by decide), hk0, q_WP_mono _ _ _ _ _ _ (fun v M2 g => ?_) (h20 _ _ (hX _) (hX _) M hM)⟩
    try simp only [g.1.1.2.2]
    exact ⟨cd M2 g.1.1 1 (by decide) (by decide), cd M2 g.1.1 2 (by decide) (by decide), g.1.2, q_WP_mono _ _ _ _ _ _ (fun w M3 r => ⟨fun _ => nx M3 _ _ r.2 (by omega) (by omega), fun hn => absurd r.1 hn⟩) g.2⟩
  · intro _
    refine u_264_953 ?_
    try simp only [e1, e2, e3, e4, e5, e6, hs.2.2]
    refine ⟨cd M hs 1 (by decide) (by decide), hk0, q_WP_mono _ _ _ _ _ _ (fun v M2 g => ?_) (h21 _ (hX _) M hM)⟩
    try simp only [g.1.1.2.2]
    exact ⟨cd M2 g.1.1 1 (by decide) (by decide), g.1.2, q_WP_mono _ _ _ _ _ _ (fun w M3 r => ⟨fun _ => nx M3 _ _ r.2 (by omega) (by omega), fun hn => absurd r.1 hn⟩) g.2⟩
  · intro _
    refine u_264_976 ?_
    try simp only [e1, e2, e3, e4, e5, e6, hs.2.2]
    refine ⟨ hk0, q_WP_mono _ _ _ _ _ _ (fun v M2 g => ?_) (h22   M hM)⟩
    try simp only [g.1.1.2.2]
    exact ⟨ g.1.2, q_WP_mono _ _ _ _ _ _ (fun w M3 r => ⟨fun _ => nx M3 _ _ r.2 (by omega) (by omega), fun hn => absurd r.1 hn⟩) g.2⟩
  · intro _
    refine u_264_989 ?_
    try simp only [e1, e2, e3, e4, e5, e6, hs.2.2]
    refine ⟨cd M hs 1 (by decide) (by decide), hk0, q_WP_mono _ _ _ _ _ _ (fun v M2 g => ?_) (h23 _ (hX _) M hM)⟩
    try simp only [g.1.1.2.2]
    exact ⟨cd M2 g.1.1 1 (by decide) (by decide), g.1.2, q_WP_mono _ _ _ _ _ _ (fun w M3 r => ⟨fun _ => nx M3 _ _ r.2 (by omega) (by omega), fun hn => absurd r.1 hn⟩) g.2⟩
  · intro _
    refine u_264_1012 ?_
    try simp only [e1, e2, e3, e4, e5, e6, hs.2.2]
    refine ⟨cd M hs 1 (by decide) (by decide), hk0, q_WP_mono _ _ _ _ _ _ (fun v M2 g => ?_) (h24 _ (hX _) M hM)⟩
    try simp only [g.1.1.2.2]
    exact ⟨cd M2 g.1.1 1 (by decide) (by decide), g.1.2, q_WP_mono _ _ _ _ _ _ (fun w M3 r => ⟨fun _ => nx M3 _ _ r.2 (by omega) (by omega), fun hn => absurd r.1 hn⟩) g.2⟩
  · intro _
    refine u_264_1035 ?_
    try simp only [e1, e2, e3, e4, e5, e6, hs.2.2]
    refine ⟨cd M hs 1 (by decide) (by decide), cd M hs 2 (by decide) (by decide), hk0, q_WP_mono _ _ _ _ _ _ (fun v M2 g => ?_) (h25 _ _ (hX _) (hX _) M hM)⟩
    try simp only [g.1.1.2.2]
    exact ⟨cd M2 g.1.1 1 (by decide) (by decide), cd M2 g.1.1 2 (by decide) (by decide), g.1.2, q_WP_mono _ _ _ _ _ _ (fun w M3 r => ⟨fun _ => nx M3 _ _ r.2 (by omega) (by omega), fun hn => absurd r.1 hn⟩) g.2⟩
  · intro _
    refine u_264_1068 ?_
    try simp only [e1, e2, e3, e4, e5, e6, hs.2.2]
    refine ⟨cd M hs 1 (by decide) (by decide), hk0, q_WP_mono _ _ _ _ _ _ (fun v M2 g => ?_) (h26 _ (hX _) M hM)⟩
    try simp only [g.1.1.2.2]
    exact ⟨cd M2 g.1.1 1 (by decide) (by decide), g.1.2, q_WP_mono _ _ _ _ _ _ (fun w M3 r => ⟨fun _ => nx M3 _ _ r.2 (by omega) (by omega), fun hn => absurd r.1 hn⟩) g.2⟩
  · intro _
    refine u_264_1091 ?_
    simp only [e1, e2, e3, e4, e5, e6, hs.2.2]
    refine ⟨cd M hs 1 (by decide) (by decide), ?_, ?_⟩
    · intro hb
      refine ⟨hk0, q_WP_mono _ _ _ _ _ _ (fun v M2 g => ?_) (h27  0  (Or.inl rfl) M hM)⟩
      simp only [g.1.1.2.2]
      exact ⟨cd M2 g.1.1 1 (by decide) (by decide), fun _ => s_264_1122 ⟨g.1.2, q_WP_mono _ _ _ _ _ _ (fun w M3 r => ⟨fun _ => nx M3 _ _ r.2 (by omega) (by omega), fun hn => absurd r.1 hn⟩) g.2⟩, fun hn => absurd hb hn⟩
    · intro hb
      refine ⟨hk0, q_WP_mono _ _ _ _ _ _ (fun v M2 g => ?_) (h27  1  (Or.inr rfl) M hM)⟩
      simp only [g.1.1.2.2]
      exact ⟨cd M2 g.1.1 1 (by decide) (by decide), fun hn => absurd hn hb, fun _ => s_264_1122 ⟨g.1.2, q_WP_mono _ _ _ _ _ _ (fun w M3 r => ⟨fun _ => nx M3 _ _ r.2 (by omega) (by omega), fun hn => absurd r.1 hn⟩) g.2⟩⟩
  · intro _
    refine u_264_1130 ?_
    simp only [e1, e2, e3, e4, e5, e6, hs.2.2]
    refine ⟨cd M hs 1 (by decide) (by decide), ?_, ?_⟩
    · intro hb
      refine ⟨hk0, q_WP_mono _ _ _ _ _ _ (fun v M2 g => ?_) (h28  0  (Or.inl rfl) M hM)⟩
      simp only [g.1.1.2.2]
      exact ⟨cd M2 g.1.1 1 (by decide) (by decide), fun _ => s_264_1161 ⟨g.1.2, q_WP_mono _ _ _ _ _ _ (fun w M3 r => ⟨fun _ => nx M3 _ _ r.2 (by omega) (by omega), fun hn => absurd r.1 hn⟩) g.2⟩, fun hn => absurd hb hn⟩
    · intro hb
      refine ⟨hk0, q_WP_mono _ _ _ _ _ _ (fun v M2 g => ?_) (h28  1  (Or.inr rfl) M hM)⟩
      simp only [g.1.1.2.2]
      exact ⟨cd M2 g.1.1 1 (by decide) (by decide), fun hn => absurd hn hb, fun _ => s_264_1161 ⟨g.1.2, q_WP_mono _ _ _ _ _ _ (fun w M3 r => ⟨fun _ => nx M3 _ _ r.2 (by omega) (by omega), fun hn => absurd r.1 hn⟩) g.2⟩⟩
  · intro _
    refine u_264_1169 ?_
    try simp only [e1, e2, e3, e4, e5, e6, hs.2.2]
    refine ⟨cd M hs 1 (by decide) (by decide), cd M hs 2 (by decide) (by decide), cd M hs 3 (by decide) (by decide), hk0, q_WP_mono _ _ _ _ _ _ (fun v M2 g => ?_) (h29 _ _ _ (hX _) (hX _) (hX _) M hM)⟩
    try simp only [g.1.1.2.2]
    exact ⟨cd M2 g.1.1 1 (by decide) (by decide), cd M2 g.1.1 2 (by decide) (by decide), cd M2 g.1.1 3 (by decide) (by decide), g.1.2, q_WP_mono _ _ _ _ _ _ (fun w M3 r => ⟨fun _ => nx M3 _ _ r.2 (by omega) (by omega), fun hn => absurd r.1 hn⟩) g.2⟩
  · intro _
    refine u_264_1212 ?_
    try simp only [e1, e2, e3, e4, e5, e6, hs.2.2]
    refine ⟨ hk0, q_WP_mono _ _ _ _ _ _ (fun v M2 g => ?_) (h30   M hM)⟩
    try simp only [g.1.1.2.2]
    exact ⟨ g.1.2, q_WP_mono _ _ _ _ _ _ (fun w M3 r => ⟨fun _ => nx M3 _ _ r.2 (by omega) (by omega), fun hn => absurd r.1 hn⟩) g.2⟩
  · intro _
    refine u_264_1225 ?_
    simp only [e1, e2, e3, e4, e5, e6, hs.2.2]
    refine ⟨cd M hs 1 (by decide) (by decide), cd M hs 2 (by decide) (by decide), cd M hs 3 (by decide) (by decide), ?_, ?_⟩
    · intro hb
      refine ⟨hk0, q_WP_mono _ _ _ _ _ _ (fun v M2 g => ?_) (h31 _ _ 0 (hX _) (hX _) (Or.inl rfl) M hM)⟩
      simp only [g.1.1.2.2]
      exact ⟨cd M2 g.1.1 1 (by decide) (by decide), cd M2 g.1.1 2 (by decide) (by decide), cd M2 g.1.1 3 (by decide) (by decide), fun _ => s_264_1276 ⟨g.1.2, q_WP_mono _ _ _ _ _ _ (fun w M3 r => ⟨fun _ => nx M3 _ _ r.2 (by omega) (by omega), fun hn => absurd r.1 hn⟩) g.2⟩, fun hn => absurd hb hn⟩
    · intro hb
      refine ⟨hk0, q_WP_mono _ _ _ _ _ _ (fun v M2 g => ?_) (h31 _ _ 1 (hX _) (hX _) (Or.inr rfl) M hM)⟩
      simp only [g.1.1.2.2]
      exact ⟨cd M2 g.1.1 1 (by decide) (by decide), cd M2 g.1.1 2 (by decide) (by decide), cd M2 g.1.1 3 (by decide) (by decide), fun hn => absurd hn hb, fun _ => s_264_1276 ⟨g.1.2, q_WP_mono _ _ _ _ _ _ (fun w M3 r => ⟨fun _ => nx M3 _ _ r.2 (by omega) (by omega), fun hn => absurd r.1 hn⟩) g.2⟩⟩
  · intro _
    refine u_264_1284 ?_
    simp only [e1, e2, e3, e4, e5, e6, hs.2.2]
    refine ⟨cd M hs 1 (by decide) (by decide), cd M hs 2 (by decide) (by decide), cd M hs 3 (by decide) (by decide), cd M hs 4 (by decide) (by decide), ?_, ?_⟩
    · intro hb
      refine ⟨hk0, q_WP_mono _ _ _ _ _ _ (fun v M2 g => ?_) (h32 _ _ _ 0 (hX _) (hX _) (hX _) (Or.inl rfl) M hM)⟩
      simp only [g.1.1.2.2]
      exact ⟨cd M2 g.1.1 1 (by decide) (by decide), cd M2 g.1.1 2 (by decide) (by decide), cd M2 g.1.1 3 (by decide) (by decide), cd M2 g.1.1 4 (by decide) (by decide), fun _ => s_264_1345 ⟨g.1.2, q_WP_mono _ _ _ _ _ _ (fun w M3 r => ⟨fun _ => nx M3 _ _ r.2 (by omega) (by omega), fun hn => absurd r.1 hn⟩) g.2⟩, fun hn => absurd hb hn⟩
    · intro hb
      refine ⟨hk0, q_WP_mono _ _ _ _ _ _ (fun v M2 g => ?_) (h32 _ _ _ 1 (hX _) (hX _) (hX _) (Or.inr rfl) M hM)⟩
      simp only [g.1.1.2.2]
      exact ⟨cd M2 g.1.1 1 (by decide) (by decide), cd M2 g.1.1 2 (by decide) (by decide), cd M2 g.1.1 3 (by decide) (by decide), cd M2 g.1.1 4 (by decide) (by decide), fun hn => absurd hn hb, fun _ => s_264_1345 ⟨g.1.2, q_WP_mono _ _ _ _ _ _ (fun w M3 r => ⟨fun _ => nx M3 _ _ r.2 (by omega) (by omega), fun hn => absurd r.1 hn⟩) g.2⟩⟩
  · intro _
    refine u_264_1353 ?_
    simp only [e1, e2, e3, e4, e5, e6, hs.2.2]
    refine ⟨cd M hs 1 (by decide) (by decide), cd M hs 2 (by decide) (by decide), cd M hs 3 (by decide) (by decide), cd M hs 4 (by decide) (by decide), ?_, ?_⟩
    · intro hb
      refine ⟨hk0, q_WP_mono _ _ _ _ _ _ (fun v M2 g => ?_) (h33 _ _ _ 0 (hX _) (hX _) (hX _) (Or.inl rfl) M hM)⟩
      simp only [g.1.1.2.2]
      exact ⟨cd M2 g.1.1 1 (by decide) (by decide), cd M2 g.1.1 2 (by decide) (by decide), cd M2 g.1.1 3 (by decide) (by decide), cd M2 g.1.1 4 (by decide) (by decide), fun _ => s_264_1414 ⟨g.1.2, q_WP_mono _ _ _ _ _ _ (fun w M3 r => ⟨fun _ => nx M3 _ _ r.2 (by omega) (by omega), fun hn => absurd r.1 hn⟩) g.2⟩, fun hn => absurd hb hn⟩
    · intro hb
      refine ⟨hk0, q_WP_mono _ _ _ _ _ _ (fun v M2 g => ?_) (h33 _ _ _ 1 (hX _) (hX _) (hX _) (Or.inr rfl) M hM)⟩
      simp only [g.1.1.2.2]
      exact ⟨cd M2 g.1.1 1 (by decide) (by decide), cd M2 g.1.1 2 (by decide) (by decide), cd M2 g.1.1 3 (by decide) (by decide), cd M2 g.1.1 4 (by decide) (by decide), fun hn => absurd hn hb, fun _ => s_264_1414 ⟨g.1.2, q_WP_mono _ _ _ _ _ _ (fun w M3 r => ⟨fun _ => nx M3 _ _ r.2 (by omega) (by omega), fun hn => absurd r.1 hn⟩) g.2⟩⟩
  · intro _
    refine u_264_1422 ?_
    try simp only [e1, e2, e3, e4, e5, e6, hs.2.2]
    refine ⟨ hk0, q_WP_mono _ _ _ _ _ _ (fun v M2 g => ?_) (h34   M hM)⟩
    try simp only [g.1.1.2.2]
    exact ⟨ g.1.2, q_WP_mono _ _ _ _ _ _ (fun w M3 r => ⟨fun _ => nx M3 _ _ r.2 (by omega) (by omega), fun hn => absurd r.1 hn⟩) g.2⟩
  · intro _
    refine u_264_1435 ?_
    try simp only [e1, e2, e3, e4, e5, e6, hs.2.2]
    refine ⟨cd M hs 1 (by decide) (by decide), hk0, q_WP_mono _ _ _ _ _ _ (fun v M2 g => ?_) (h35 _ (hX _) M hM)⟩
    try simp only [g.1.1.2.2]
    exact ⟨cd M2 g.1.1 1 (by decide) (by decide), g.1.2, q_WP_mono _ _ _ _ _ _ (fun w M3 r => ⟨fun _ => nx M3 _ _ r.2 (by omega) (by omega), fun hn => absurd r.1 hn⟩) g.2⟩
  · intro _
    refine u_264_1458 ?_
    try simp only [e1, e2, e3, e4, e5, e6, hs.2.2]
    refine ⟨ hk0, q_WP_mono _ _ _ _ _ _ (fun v M2 g => ?_) (h36   M hM)⟩
    try simp only [g.1.1.2.2]
    exact ⟨ g.1.2, q_WP_mono _ _ _ _ _ _ (fun w M3 r => ⟨fun _ => nx M3 _ _ r.2 (by omega) (by omega), fun hn => absurd r.1 hn⟩) g.2⟩
set_option maxRecDepth 100000 in
/-- the loop, from any place on -/
theorem law_loop {L : Nat} {X : Int → Int} {Inv : qM → Prop} {D : Nat} {P : Int → qM → Prop} (hL : L ≤ 3584) (hX : ∀ j, q_i32 (X j)) (hI : ∀ M, Inv M → q_scr L X M ∧ q_kd M 0 = 10) (hA : q_okA L X Inv D) (hP : ∀ M, P 1 M) : ∀ (n i : Nat) (M : qM) (c s : Nat), n + i = 513 → 7 * i ≤ L → Inv M → c ≤ 172 + 25 * i → s ≤ 120094 + 10650 * i → q_At q_m264 (q_WP q_Pr D) P 18 [(0, .inr (.inr (-3))), (1, .inr (.inr 0)), (2, .inr (.inr 66)), (3, .inl (7 * (i : Int)))] [] M c s := by
  intro n
  induction n with
  | zero => intro i M c s h1 h2 hM hc hs; omega
  | succ n ih =>
    intro i M c s h1 h2 hM hc hs
    refine law_step hL hX hI hA hP (by omega) (by omega) hM (by omega) (by omega) (fun hle M' c' s' h3 h4 h5 => ?_)
    have e : 7 * (i : Int) + 7 = 7 * ((i + 1 : Nat) : Int) := by omega
    rw [e]
    exact ih (i + 1) M' c' s' (by omega) (by omega) h3 (by omega) (by omega)
end
