section
/-! HOW THE HEAP HOLDS THE PURE MEMORY. z = (the first cell's address, the text constant's, the script's) -/
def q_er (z : Nat × Nat × Nat) (x : Int) : Value := if x = -2 then .ref z.2.1 else if x = -3 then .ref z.2.2 else if x < 0 then .null else .ref (z.1 + x.toNat)
def q_ev (z : Nat × Nat × Nat) (v : qV) : Value := match v with
  | .inl x => .int (Int32.ofInt x)
  | .inr (.inl x) => .long (Int64.ofInt x)
  | .inr (.inr x) => q_er z x
def q_sv (z : Nat × Nat × Nat) (M : qM) (a : Int) (j : Nat) : Value :=
  if q_kd M a < 12 then (if (q_fr (q_kd M a)).getD j false = true then q_er z (q_rf M a j) else .int (Int32.ofInt (q_nm M a j)))
  else if q_kd M a = 15 then .long (Int64.ofInt (q_nm M a j)) else if 17 ≤ q_kd M a then q_er z (q_rf M a j) else .int (Int32.ofInt (q_nm M a j))
def q_inr (k x : Int) : Prop := if k = 12 then -128 ≤ x ∧ x ≤ 127 else if k = 13 then 0 ≤ x ∧ x ≤ 65535 else if k = 16 then 0 ≤ x ∧ x ≤ 1 else if k = 15 then q_i64 x else q_i32 x
def q_wf (M : qM) : Prop := 0 ≤ q_top M ∧ (∀ a, 0 ≤ a → a < q_top M → (0 ≤ q_kd M a ∧ q_kd M a ≤ 20) ∧ 0 ≤ q_ln M a ∧ q_ln M a ≤ 1000000) ∧ (∀ a, a < 0 ∨ q_top M ≤ a → a ≠ -3 → q_kd M a = -1) ∧ (q_kd M (-3) = 14 ∧ 0 ≤ q_ln M (-3) ∧ q_ln M (-3) ≤ 1000000) ∧ (∀ a j, -1 ≤ q_rf M a j) ∧ ∀ a j, q_inr (q_kd M a) (q_nm M a j)
def q_co (D : va_G) (cA : Nat → ClassId) (z : Nat × Nat × Nat) (M : qM) (H : Heap) (a : Int) : Prop :=
  if q_kd M a < 12 then t_OB (z.1 + a.toNat) (D.1 (q_kd M a).toNat) (q_ns (q_kd M a)) (D.2 (q_kd M a).toNat) H (q_sv z M a)
  else H[z.1 + a.toNat]? = some (arrV (cA (q_kd M a).toNat) (q_ln M a).toNat (q_sv z M a))
def q_Rep (D : va_G) (cA : Nat → ClassId) (z : Nat × Nat × Nat) (M : qM) (H : Heap) : Prop :=
  q_wf M ∧ H.size = z.1 + (q_top M).toNat ∧ ∀ a, 0 ≤ a → a < q_top M → q_co D cA z M H a
theorem q_kdin {M : qM} (h : q_wf M) {a : Int} (hk : q_kd M a ≠ -1) (h3 : a ≠ -3) : 0 ≤ a ∧ a < q_top M := by
  rcases Int.lt_or_le a 0 with h0 | h0
  · exact absurd (h.2.2.1 a (Or.inl h0) h3) hk
  · rcases Int.lt_or_le a (q_top M) with h1 | h1
    · exact ⟨h0, h1⟩
    · exact absurd (h.2.2.1 a (Or.inr h1) h3) hk
theorem q_upd {D : va_G} {cA : Nat → ClassId} {z : Nat × Nat × Nat} {M M' : qM} {H H' : Heap} {a : Int} (hR : q_Rep D cA z M H) (ha : 0 ≤ a) (ht : q_top M' = q_top M) (hk : ∀ b, q_kd M' b = q_kd M b) (hl : ∀ b, q_ln M' b = q_ln M b) (hw : q_wf M') (hv : ∀ b, b ≠ a → q_sv z M' b = q_sv z M b) (hz : H'.size = H.size) (ho : ∀ q : Nat, q ≠ z.1 + a.toNat → H'[q]? = H[q]?) (hc : q_co D cA z M' H' a) : q_Rep D cA z M' H' := by
  refine ⟨hw, by rw [hz, hR.2.1, ht], fun b h0 h1 => ?_⟩
  by_cases e : b = a
  · subst e; exact hc
  · have h2 := hR.2.2 b h0 (by rw [← ht]; exact h1)
    have h3 : H'[z.1 + b.toNat]? = H[z.1 + b.toNat]? := ho _ (by omega)
    unfold q_co at h2 ⊢
    rw [hk, hl, hv b e]
    split
    · rename_i h4
      rw [if_pos h4] at h2
      exact h2.kept h3
    · rename_i h4
      rw [if_neg h4] at h2
      rw [h3]; exact h2
theorem q_wn_top (M : qM) (a i v : Int) : q_top (q_wn M a i v) = q_top M := rfl
theorem q_wn_kd (M : qM) (a i v b : Int) : q_kd (q_wn M a i v) b = q_kd M b := rfl
theorem q_wn_ln (M : qM) (a i v b : Int) : q_ln (q_wn M a i v) b = q_ln M b := rfl
theorem q_wn_rf (M : qM) (a i v b j : Int) : q_rf (q_wn M a i v) b j = q_rf M b j := rfl
theorem q_wn_nm (M : qM) (a i v b j : Int) : q_nm (q_wn M a i v) b j = if b = a ∧ j = i then v else q_nm M b j := rfl
theorem q_wr_top (M : qM) (a i v : Int) : q_top (q_wr M a i v) = q_top M := rfl
theorem q_wr_kd (M : qM) (a i v b : Int) : q_kd (q_wr M a i v) b = q_kd M b := rfl
theorem q_wr_ln (M : qM) (a i v b : Int) : q_ln (q_wr M a i v) b = q_ln M b := rfl
theorem q_wr_rf (M : qM) (a i v b j : Int) : q_rf (q_wr M a i v) b j = if b = a ∧ j = i then v else q_rf M b j := rfl
theorem q_wr_nm (M : qM) (a i v b j : Int) : q_nm (q_wr M a i v) b j = q_nm M b j := rfl
theorem q_wf_wn {M : qM} (h : q_wf M) {a i v : Int} (hv : q_inr (q_kd M a) v) : q_wf (q_wn M a i v) := by
  refine ⟨h.1, h.2.1, h.2.2.1, h.2.2.2.1, h.2.2.2.2.1, fun b j => ?_⟩
  rw [q_wn_kd, q_wn_nm]
  split
  · rename_i e
    rw [e.1]; exact hv
  · exact h.2.2.2.2.2 b j
theorem q_wf_wr {M : qM} (h : q_wf M) {a i v : Int} (hv : -1 ≤ v) : q_wf (q_wr M a i v) := by
  refine ⟨h.1, h.2.1, h.2.2.1, h.2.2.2.1, fun b j => ?_, h.2.2.2.2.2⟩
  rw [q_wr_rf]
  split
  · exact hv
  · exact h.2.2.2.2.1 b j
theorem q_sv_wn {z : Nat × Nat × Nat} {M : qM} {a i v b : Int} (h : b ≠ a) : q_sv z (q_wn M a i v) b = q_sv z M b := by
  funext j
  unfold q_sv
  rw [q_wn_kd, q_wn_rf, q_wn_nm, if_neg (show ¬ (b = a ∧ (j : Int) = i) from fun e => h e.1)]
theorem q_sv_wr {z : Nat × Nat × Nat} {M : qM} {a i v b : Int} (h : b ≠ a) : q_sv z (q_wr M a i v) b = q_sv z M b := by
  funext j
  unfold q_sv
  rw [q_wr_kd, q_wr_rf, q_wr_nm, if_neg (show ¬ (b = a ∧ (j : Int) = i) from fun e => h e.1)]
/-- an array's number is written -/
theorem q_put_arr {D : va_G} {cA : Nat → ClassId} {z : Nat × Nat × Nat} {M : qM} {H H' : Heap} {a i v : Int} (hR : q_Rep D cA z M H) (ha : 0 ≤ a) (hk : 12 ≤ q_kd M a ∧ q_kd M a ≤ 16) (hi : 0 ≤ i) (hv : q_inr (q_kd M a) v) {w : Value} (hw : w = if q_kd M a = 15 then .long (Int64.ofInt v) else .int (Int32.ofInt v)) (hz : H'.size = H.size) (ho : ∀ q : Nat, q ≠ z.1 + a.toNat → H'[q]? = H[q]?)
    (hc : H'[z.1 + a.toNat]? = some ((arrV (cA (q_kd M a).toNat) (q_ln M a).toNat (q_sv z M a)).setSlot i.toNat w)) : q_Rep D cA z (q_wn M a i v) H' := by
  refine q_upd hR ha (q_wn_top ..) (fun _ => q_wn_kd ..) (fun _ => q_wn_ln ..) (q_wf_wn hR.1 hv) (fun b hb => q_sv_wn hb) hz ho ?_
  unfold q_co
  rw [q_wn_kd, q_wn_ln, if_neg (by omega), hc, arrV_store]
  congr 2
  funext j
  unfold updV q_sv
  rw [q_wn_kd, q_wn_rf, q_wn_nm, if_neg (show ¬ q_kd M a < 12 by omega), if_neg (show ¬ q_kd M a < 12 by omega)]
  by_cases e : j = i.toNat
  · rw [if_pos e, if_pos (show a = a ∧ (j : Int) = i from ⟨rfl, by omega⟩), hw]
    by_cases h15 : q_kd M a = 15
    · rw [if_pos h15, if_pos h15]
    · rw [if_neg h15, if_neg h15, if_neg (show ¬ 17 ≤ q_kd M a by omega)]
  · rw [if_neg e, if_neg (show ¬ (a = a ∧ (j : Int) = i) from fun h => e (by omega))]
/-- an array's reference is written -/
theorem q_put_ref {D : va_G} {cA : Nat → ClassId} {z : Nat × Nat × Nat} {M : qM} {H H' : Heap} {a i v : Int} (hR : q_Rep D cA z M H) (ha : 0 ≤ a) (hk : 17 ≤ q_kd M a ∧ q_kd M a ≤ 20) (hi : 0 ≤ i) (hv : -1 ≤ v) (hz : H'.size = H.size) (ho : ∀ q : Nat, q ≠ z.1 + a.toNat → H'[q]? = H[q]?)
    (hc : H'[z.1 + a.toNat]? = some ((arrV (cA (q_kd M a).toNat) (q_ln M a).toNat (q_sv z M a)).setSlot i.toNat (q_er z v))) : q_Rep D cA z (q_wr M a i v) H' := by
  refine q_upd hR ha (q_wr_top ..) (fun _ => q_wr_kd ..) (fun _ => q_wr_ln ..) (q_wf_wr hR.1 hv) (fun b hb => q_sv_wr hb) hz ho ?_
  unfold q_co
  rw [q_wr_kd, q_wr_ln, if_neg (by omega), hc, arrV_store]
  congr 2
  funext j
  unfold updV q_sv
  rw [q_wr_kd, q_wr_rf, q_wr_nm, if_neg (show ¬ q_kd M a < 12 by omega), if_neg (show ¬ q_kd M a < 12 by omega), if_neg (show ¬ q_kd M a = 15 by omega), if_neg (show ¬ q_kd M a = 15 by omega), if_pos hk.1, if_pos hk.1]
  by_cases e : j = i.toNat
  · rw [if_pos e, if_pos (show a = a ∧ (j : Int) = i from ⟨rfl, by omega⟩)]
  · rw [if_neg e, if_neg (show ¬ (a = a ∧ (j : Int) = i) from fun h => e (by omega))]
/-- a field is written -/
theorem q_put_fld {D : va_G} {cA : Nat → ClassId} {z : Nat × Nat × Nat} {M M' : qM} {H H' : Heap} {a : Int} {k : Nat} {v : Value} (hR : q_Rep D cA z M H) (ha : 0 ≤ a) (hk : q_kd M a < 12) (ht : q_top M' = q_top M) (hkd : ∀ b, q_kd M' b = q_kd M b) (hl : ∀ b, q_ln M' b = q_ln M b) (hw : q_wf M') (hs : ∀ b, b ≠ a → q_sv z M' b = q_sv z M b) (hsa : q_sv z M' a = updV (q_sv z M a) k v) (hz : H'.size = H.size) (ho : ∀ q : Nat, q ≠ z.1 + a.toNat → H'[q]? = H[q]?)
    (hc : t_OB (z.1 + a.toNat) (D.1 (q_kd M a).toNat) (q_ns (q_kd M a)) (D.2 (q_kd M a).toNat) H' (updV (q_sv z M a) k v)) : q_Rep D cA z M' H' := by
  refine q_upd hR ha ht hkd hl hw hs hz ho ?_
  unfold q_co
  rw [hkd, if_pos hk, hsa]
  exact hc
theorem q_sv_wn_f {z : Nat × Nat × Nat} {M : qM} {a v : Int} {k : Nat} (hk : q_kd M a < 12) (hf : (q_fr (q_kd M a)).getD k false = false) : q_sv z (q_wn M a k v) a = updV (q_sv z M a) k (.int (Int32.ofInt v)) := by
  funext j
  unfold updV q_sv
  rw [q_wn_kd, q_wn_rf, q_wn_nm, if_pos hk, if_pos hk]
  by_cases e : j = k
  · subst e
    rw [if_pos rfl, if_neg (by rw [hf]; decide), if_pos ⟨rfl, rfl⟩]
  · rw [if_neg e, if_neg (show ¬ (a = a ∧ (j : Int) = (k : Int)) from fun h => e (by omega))]
theorem q_sv_wr_f {z : Nat × Nat × Nat} {M : qM} {a v : Int} {k : Nat} (hk : q_kd M a < 12) (hf : (q_fr (q_kd M a)).getD k false = true) : q_sv z (q_wr M a k v) a = updV (q_sv z M a) k (q_er z v) := by
  funext j
  unfold updV q_sv
  rw [q_wr_kd, q_wr_rf, q_wr_nm, if_pos hk, if_pos hk]
  by_cases e : j = k
  · subst e
    rw [if_pos rfl, if_pos hf, if_pos ⟨rfl, rfl⟩]
  · rw [if_neg e, if_neg (show ¬ (a = a ∧ (j : Int) = (k : Int)) from fun h => e (by omega))]
theorem q_al_top (M : qM) (k n : Int) : q_top (q_al M k n) = q_top M + 1 := rfl
theorem q_al_kd (M : qM) (k n b : Int) : q_kd (q_al M k n) b = if b = q_top M then k else q_kd M b := by
  unfold q_kd q_al q_top
  dsimp only
  split <;> rfl
theorem q_al_ln (M : qM) (k n b : Int) : q_ln (q_al M k n) b = if b = q_top M then n else q_ln M b := by
  unfold q_ln q_al q_top
  dsimp only
  split <;> rfl
theorem q_al_rf (M : qM) (k n b j : Int) : q_rf (q_al M k n) b j = if b = q_top M then -1 else q_rf M b j := rfl
theorem q_al_nm (M : qM) (k n b j : Int) : q_nm (q_al M k n) b j = if b = q_top M then 0 else q_nm M b j := rfl
theorem q_inr0 (k : Int) : q_inr k 0 := by
  unfold q_inr q_i64 q_i32
  split <;> first | omega | (split <;> first | omega | (split <;> first | omega | (split <;> omega)))
theorem q_wf_al {M : qM} (h : q_wf M) {k n : Int} (hk : 0 ≤ k ∧ k ≤ 20) (hn : 0 ≤ n ∧ n ≤ 1000000) : q_wf (q_al M k n) := by
  have h0 := h.1
  refine ⟨by rw [q_al_top]; omega, fun a ha hb => ?_, fun a ha h3 => ?_, ?_, fun a j => ?_, fun a j => ?_⟩
  · rw [q_al_top] at hb
    rw [q_al_kd, q_al_ln]
    split
    · exact ⟨hk, hn⟩
    · exact h.2.1 a ha (by omega)
  · rw [q_al_top] at ha
    rw [q_al_kd, if_neg (by omega)]
    exact h.2.2.1 a (by omega) h3
  · rw [q_al_kd, q_al_ln, if_neg (by omega), if_neg (by omega)]
    exact h.2.2.2.1
  · rw [q_al_rf]
    split
    · omega
    · exact h.2.2.2.2.1 a j
  · rw [q_al_kd, q_al_nm]
    split
    · exact q_inr0 _
    · exact h.2.2.2.2.2 a j
theorem q_sv_al {z : Nat × Nat × Nat} {M : qM} {k n b : Int} (h : b ≠ q_top M) : q_sv z (q_al M k n) b = q_sv z M b := by
  funext j
  unfold q_sv
  rw [q_al_kd, q_al_rf, q_al_nm, if_neg h, if_neg h, if_neg h]
/-- a cell comes -/
theorem q_new {D : va_G} {cA : Nat → ClassId} {z : Nat × Nat × Nat} {M : qM} {H H' : Heap} {k n : Int} (hR : q_Rep D cA z M H) (hk : 0 ≤ k ∧ k ≤ 20) (hn : 0 ≤ n ∧ n ≤ 1000000) (hz : H'.size = H.size + 1) (ho : ∀ q : Nat, q < H.size → H'[q]? = H[q]?) (hc : q_co D cA z (q_al M k n) H' (q_top M)) : q_Rep D cA z (q_al M k n) H' := by
  have h0 := hR.1.1
  have hs := hR.2.1
  refine ⟨q_wf_al hR.1 hk hn, by rw [hz, hs, q_al_top]; omega, fun b hb h1 => ?_⟩
  rw [q_al_top] at h1
  by_cases e : b = q_top M
  · subst e; exact hc
  · have h2 := hR.2.2 b hb (by omega)
    have h3 : H'[z.1 + b.toNat]? = H[z.1 + b.toNat]? := ho _ (by omega)
    unfold q_co at h2 ⊢
    rw [q_al_kd, q_al_ln, if_neg e, if_neg e, q_sv_al e]
    split
    · rename_i h4
      rw [if_pos h4] at h2
      exact h2.kept h3
    · rename_i h4
      rw [if_neg h4] at h2
      rw [h3]; exact h2
end
