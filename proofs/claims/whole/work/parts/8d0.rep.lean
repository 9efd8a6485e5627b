section
/-! THE WORLD, PIECE BY PIECE: plain lists and functions; C_ what the class's cells hold of it, R_ the reference's, G_ what is known of it alone -/
/-- M' is M but for the numbers at Z -/
def fr (Z : Int → Int → Prop) (M M' : qM) : Prop := (M'.1 = M.1 ∧ M'.2.1 = M.2.1 ∧ M'.2.2.1 = M.2.2.1) ∧ ∀ a j, ¬ Z a j → q_nm M' a j = q_nm M a j
theorem fr_rfl {Z : Int → Int → Prop} {M : qM} : fr Z M M := ⟨⟨rfl, rfl, rfl⟩, fun _ _ _ => rfl⟩
theorem fr_trans {Z : Int → Int → Prop} {M M' M'' : qM} (h : fr Z M M') (k : fr Z M' M'') : fr Z M M'' := ⟨⟨k.1.1.trans h.1.1, k.1.2.1.trans h.1.2.1, k.1.2.2.trans h.1.2.2⟩, fun a j z => (k.2 a j z).trans (h.2 a j z)⟩
theorem fr_mono {Z Z' : Int → Int → Prop} {M M' : qM} (h : fr Z M M') (k : ∀ a j, Z a j → Z' a j) : fr Z' M M' := ⟨h.1, fun a j z => h.2 a j (fun w => z (k a j w))⟩
theorem fr_wn {Z : Int → Int → Prop} {M M' : qM} {a i v : Int} (h : M' = q_wn M a i v) (z : Z a i) : fr Z M M' := by
  subst h
  refine ⟨⟨rfl, rfl, rfl⟩, fun b j w => ?_⟩
  rw [q_wn_nm, if_neg]
  rintro ⟨rfl, rfl⟩
  exact w z
theorem fr_kd {Z : Int → Int → Prop} {M M' : qM} (h : fr Z M M') (a : Int) : q_kd M' a = q_kd M a := by unfold q_kd; rw [h.1.2.1]
theorem fr_ln {Z : Int → Int → Prop} {M M' : qM} (h : fr Z M M') (a : Int) : q_ln M' a = q_ln M a := by unfold q_ln; rw [h.1.2.1]
theorem fr_rf {Z : Int → Int → Prop} {M M' : qM} (h : fr Z M M') (a i : Int) : q_rf M' a i = q_rf M a i := by unfold q_rf; rw [h.1.2.2]
theorem fr_top {Z : Int → Int → Prop} {M M' : qM} (h : fr Z M M') : q_top M' = q_top M := h.1.1
theorem fr_lay {Z : Int → Int → Prop} {M M' : qM} (h : fr Z M M') (hl : q_lay M) : q_lay M' := by
  refine ⟨by rw [fr_top h]; exact hl.1, fun e he => ?_, fun e he => ?_⟩
  · rw [fr_kd h, fr_ln h]; exact hl.2.1 e he
  · rw [fr_rf h]; exact hl.2.2 e he
theorem fr_scr {Z : Int → Int → Prop} {L : Nat} {X : Int → Int} {M M' : qM} (h : fr Z M M') (z : ∀ j, ¬ Z (-3) j) (hs : q_scr L X M) : q_scr L X M' :=
  ⟨by rw [fr_kd h]; exact hs.1, by rw [fr_ln h]; exact hs.2.1, fun j => by rw [h.2 _ _ (z j)]; exact hs.2.2 j⟩
theorem wn_eq {M M' : qM} {a i v : Int} (h : M' = q_wn M a i v) : q_nm M' a i = v := by rw [h, q_wn_nm, if_pos ⟨rfl, rfl⟩]
theorem wn_ne {M M' : qM} {a i v b j : Int} (h : M' = q_wn M a i v) (k : ¬ (b = a ∧ j = i)) : q_nm M' b j = q_nm M b j := by rw [h, q_wn_nm, if_neg k]
/-- a list lies in the cell a from o on -/
def q_L (M : qM) (a o : Int) (l : List Int) : Prop := ∀ i : Nat, i < l.length → q_nm M a (o + i) = l.getD i 0
theorem q_L_nil {M : qM} {a o : Int} : q_L M a o [] := fun i h => absurd h (Nat.not_lt_zero i)
theorem q_L_fr {M M' : qM} {a o : Int} {l : List Int} (h : q_L M a o l) (k : ∀ j, o ≤ j → j < o + l.length → q_nm M' a j = q_nm M a j) : q_L M' a o l := fun i hi => by rw [k _ (by omega) (by omega)]; exact h i hi
theorem q_L_get {M : qM} {a o k : Int} {l : List Int} (h : q_L M a o l) (h0 : 0 ≤ k) (h1 : k < l.length) : q_nm M a (o + k) = l.getD k.toNat 0 := by
  have e := h k.toNat (by omega)
  rw [show o + (k.toNat : Int) = o + k by omega] at e
  exact e
theorem q_L_get0 {M : qM} {a k : Int} {l : List Int} (h : q_L M a 0 l) (h0 : 0 ≤ k) (h1 : k < l.length) : q_nm M a k = l.getD k.toNat 0 := by
  have e := q_L_get h h0 h1
  rwa [Int.zero_add] at e
theorem getD_el {l : List Int} {i : Nat} (h : i < l.length) : l.getD i 0 = l[i] := by rw [List.getD_eq_getElem?_getD, List.getElem?_eq_getElem h]; rfl
theorem getD_out {l : List Int} {i : Nat} (h : l.length ≤ i) : l.getD i 0 = 0 := by rw [List.getD_eq_getElem?_getD, List.getElem?_eq_none h]; rfl
theorem getD_app1 {l m : List Int} {i : Nat} (h : i < l.length) : (l ++ m).getD i 0 = l.getD i 0 := by rw [List.getD_eq_getElem?_getD, List.getD_eq_getElem?_getD, List.getElem?_append_left h]
theorem getD_app2 {l m : List Int} {i : Nat} (h : l.length ≤ i) : (l ++ m).getD i 0 = m.getD (i - l.length) 0 := by rw [List.getD_eq_getElem?_getD, List.getD_eq_getElem?_getD, List.getElem?_append_right h]
theorem getD_snoc (l : List Int) (v : Int) (i : Nat) : (l ++ [v]).getD i 0 = if i < l.length then l.getD i 0 else if i = l.length then v else 0 := by
  by_cases h : i < l.length
  · rw [if_pos h, getD_app1 h]
  · rw [if_neg h, getD_app2 (by omega)]
    by_cases h2 : i = l.length
    · rw [if_pos h2, h2, Nat.sub_self]; rfl
    · rw [if_neg h2, getD_out (by simp; omega)]
theorem q_L_snoc {M M' : qM} {a o v : Int} {l : List Int} (h : q_L M a o l) (k : ∀ j, o ≤ j → j < o + l.length → q_nm M' a j = q_nm M a j) (e : q_nm M' a (o + l.length) = v) : q_L M' a o (l ++ [v]) := by
  intro i hi
  rw [List.length_append] at hi
  simp only [List.length_cons, List.length_nil] at hi
  rw [getD_snoc]
  by_cases g : i < l.length
  · rw [if_pos g, k _ (by omega) (by omega)]; exact h i g
  · rw [if_neg g, if_pos (by omega), show i = l.length by omega]; exact e
/-- the tape: bytes -/
def G_T (tp : List Int) : Prop := tp.length ≤ 2100 ∧ ∀ b ∈ tp, 0 ≤ b ∧ b ≤ 255
def C_T (tp : List Int) (M : qM) : Prop := q_nm M 1 1 = tp.length ∧ ∀ i : Nat, i < tp.length → q_and (q_nm M 2 i) 255 = tp.getD i 0
def R_T (tp : List Int) (M : qM) : Prop := q_nm M 66 1 = tp.length ∧ q_L M 67 0 tp
/-- the byte at k -/
def tb (tp : List Int) (k : Int) : Int := if 0 ≤ k ∧ k < tp.length then tp.getD k.toNat 0 else -1
theorem C_T_B {tp : List Int} {M : qM} (h : C_T tp M) (k : Int) : q_B M k = tb tp k := by
  unfold q_B tb
  rw [h.1]
  by_cases g : 0 ≤ k ∧ k < tp.length
  · rw [if_pos g, if_pos g]
    have e := h.2 k.toNat (by omega)
    rw [show ((k.toNat : Nat) : Int) = k by omega] at e
    exact e
  · rw [if_neg g, if_neg g]
theorem C_T_le {tp : List Int} {M : qM} (h : C_T tp M) (g : G_T tp) : q_nm M 1 1 ≤ 2100 := by rw [h.1]; have := g.1; omega
theorem C_T_fr {tp : List Int} {M M' : qM} (h : C_T tp M) (k : ∀ j, q_nm M' 1 j = q_nm M 1 j ∧ q_nm M' 2 j = q_nm M 2 j) : C_T tp M' := ⟨by rw [(k 1).1]; exact h.1, fun i hi => by rw [(k _).2]; exact h.2 i hi⟩
theorem R_T_fr {tp : List Int} {M M' : qM} (h : R_T tp M) (k : q_nm M' 66 1 = q_nm M 66 1) (k2 : ∀ j, q_nm M' 67 j = q_nm M 67 j) : R_T tp M' := ⟨by rw [k]; exact h.1, q_L_fr h.2 (fun j _ _ => k2 j)⟩
theorem C_T_nil {M : qM} (h : q_nm M 1 1 = 0) : C_T [] M := ⟨h, fun i hi => absurd hi (Nat.not_lt_zero i)⟩
theorem R_T_nil {M : qM} (h : q_nm M 66 1 = 0) : R_T [] M := ⟨h, q_L_nil⟩
theorem tb_in {tp : List Int} {k : Int} (h0 : 0 ≤ k) (h1 : k < tp.length) : tb tp k = tp.getD k.toNat 0 := if_pos ⟨h0, h1⟩
theorem tb_out {tp : List Int} {k : Int} (h : ¬ (0 ≤ k ∧ k < tp.length)) : tb tp k = -1 := if_neg h
theorem getD_mem {l : List Int} {i : Nat} (h : i < l.length) : l.getD i 0 ∈ l := by
  rw [getD_el h]; exact List.getElem_mem h
theorem tb_rng {tp : List Int} (g : G_T tp) {k : Int} (h0 : 0 ≤ k) (h1 : k < tp.length) : 0 ≤ tb tp k ∧ tb tp k ≤ 255 := by
  rw [tb_in h0 h1]; exact g.2 _ (getD_mem (by omega))
theorem R_T_get {tp : List Int} {M : qM} (h : R_T tp M) {k : Int} (h0 : 0 ≤ k) (h1 : k < tp.length) : q_nm M 67 k = tb tp k := by
  rw [tb_in h0 h1]; exact q_L_get0 h.2 h0 h1
/-- what may be said: letters and blanks -/
def okc (b : Int) : Prop := b = 32 ∨ (97 ≤ b ∧ b ≤ 122)
def G_S (sd : List Int) : Prop := sd.length ≤ 100 ∧ ∀ b ∈ sd, okc b
/-- an object of the kind Speech at x with its bytes at b -/
def isSp (M : qM) (x b : Int) : Prop := q_kd M x = 6 ∧ q_rf M x 0 = b ∧ q_kd M b = 12 ∧ q_ln M b = 100
def C_Sp (x b : Int) (sd : List Int) (M : qM) : Prop := q_nm M x 1 = sd.length ∧ q_L M b 0 sd
def R_S (sd : List Int) (M : qM) : Prop := q_nm M 66 71 = sd.length ∧ q_L M 119 0 sd
theorem isSp_fr {Z : Int → Int → Prop} {M M' : qM} {x b : Int} (h : isSp M x b) (k : fr Z M M') : isSp M' x b := ⟨by rw [fr_kd k]; exact h.1, by rw [fr_rf k]; exact h.2.1, by rw [fr_kd k]; exact h.2.2.1, by rw [fr_ln k]; exact h.2.2.2⟩
theorem isSp19 {M : qM} (hl : q_lay M) : isSp M 19 20 := ⟨lk19 hl, lr19_0 hl, lk20 hl, ll20 hl⟩
theorem w8_small {b : Int} (h0 : 0 ≤ b) (h1 : b ≤ 127) : w8 b = b := by unfold w8; omega
theorem okc_w8 {b : Int} (h : okc b) : w8 b = b := by unfold okc at h; exact w8_small (by omega) (by omega)
end
