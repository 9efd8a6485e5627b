section
theorem blen_R {WL : Int → List Int} {w v : Int} (h : 0 ≤ w) : (0 < (joi WL w v).length ∧ ¬ WL w = joi WL w v) ↔ blen WL w v := by
  have e : WL w = joi WL w v ↔ rst (WL w) = rst (WL v) := by
    unfold joi fro; rw [if_neg (by omega)]
    constructor
    · intro q
      have : ons (WL w) ++ rst (WL w) = ons (WL w) ++ rst (WL v) := by rw [ons_rst]; exact q
      exact List.append_cancel_left this
    · intro q; rw [← q, ons_rst]
  unfold blen
  rw [e]
  exact ⟨fun q => ⟨q.2, q.1⟩, fun q => ⟨q.2, q.1⟩⟩
theorem r_199 {d : Nat} {P : Int → qM → Prop} {M : qM} {nw k w v : Int} {WL : Int → List Int} {WS WE WO : Int → Int} (hl : q_lay M) (hW : R_W nw WL WS WE WO M) (g : G_W nw WL WS WE WO) (hk : 5 ≤ k ∧ k ≤ 7) (hw : 0 ≤ w ∧ w < nw) (hv : 0 ≤ v ∧ v < nw)
    (K1 : mayW WL WS WE k w v → ∀ M', fr (fun a j => (a = 66 ∧ j = 65) ∨ a = 116) M M' → P 1 M') (K0 : ¬ mayW WL WS WE k w v → ∀ M', fr (fun a j => (a = 66 ∧ j = 65) ∨ a = 116) M M' → P 0 M') : q_WP q_Pr (d + 3) 199 [.inr (.inr 66), .inl k, .inl w, .inl v] M P := by
  have gn := g.1
  have a := hW.2 w hw.1 hw.2
  have b := hW.2 v hv.1 hv.2
  have kw := R_W_ok hW g hw.1 hw.2
  have kv := R_W_ok hW g hv.1 hv.2
  refine q_enter (t_199_0 hl ?_)
  rw [a.2.1, b.2.1, a.2.2.1, b.2.2.1]
  refine ⟨fun z => K0 (fun q => by unfold mayW akin nearW at q; omega) M fr_rfl, fun z => ⟨kv.1, kw.1, fun y => ⟨fun x => ⟨kv.1, kw.1, fun u => ⟨fun r => ?_, fun r => K1 (Or.inr (Or.inr ⟨r, fun e => z e.symm, y.symm, u.symm⟩)) M fr_rfl⟩, fun u => K0 (fun q => ?_) M fr_rfl⟩, fun x => ?_⟩, fun y => K0 (fun q => ?_) M fr_rfl⟩⟩
  · refine r_190 (WL := WL) hl (Or.inr kw) kv (fun M1 f1 c1 => ⟨fr_lay f1 hl, ?_⟩)
    have l1 := fr_lay f1 hl
    have ak : akin WS WE w v := ⟨fun e => z e.symm, y.symm, u.symm⟩
    have bi := blen_R (WL := WL) (w := w) (v := v) hw.1
    rw [c1.1]
    refine ⟨fun s => K0 (fun q => ?_) M1 f1, fun s => ?_⟩
    · rcases q with ⟨_, _, q⟩ | ⟨q, _⟩ | ⟨q, _⟩
      · have := q.2; omega
      · omega
      · omega
    · refine r_193 (WL := WL) l1 (R_ok_fr kw (fun a j _ _ => f1.2 a j (by dsimp only; omega))) c1 (fun q => ⟨l1, fun _ => K0 (fun p => ?_) M1 f1, fun t => absurd t (by decide)⟩) (fun q => ⟨l1, fun t => absurd rfl t, fun _ => K1 (Or.inl ⟨by omega, ak, bi.mp ⟨by omega, q⟩⟩) M1 f1⟩)
      rcases p with ⟨_, _, p⟩ | ⟨p, _⟩ | ⟨p, _⟩
      · exact (bi.mpr p).2 q
      · omega
      · omega
  · rcases q with ⟨_, q, _⟩ | ⟨q, _⟩ | ⟨_, q⟩
    · exact u q.2.2.symm
    · omega
    · exact u q.2.2.symm
  · have ne : WL w ≠ WL v := fun e => z (g.2.2 w v hw.1 hw.2 hv.1 hv.2 e).symm
    refine r_195 (WL := WL) hl kw kv ne (fun q => ⟨hl, by omega, K1 (Or.inr (Or.inl ⟨x, fun e => z e.symm, y.symm, q⟩)) M fr_rfl⟩) (fun q => ⟨hl, by omega, K0 (fun p => ?_) M fr_rfl⟩)
    rcases p with ⟨p, _⟩ | ⟨_, p⟩ | ⟨p, _⟩
    · omega
    · exact q p.2.2
    · omega
  · rcases q with ⟨_, q, _⟩ | ⟨_, q⟩ | ⟨_, q⟩
    · exact y q.2.1.symm
    · exact y q.2.1.symm
    · exact y q.2.1.symm
def ZK : Int → Int → Prop := fun a j => (a = 66 ∧ (j = 65 ∨ j = 55)) ∨ (108 ≤ a ∧ a ≤ 116)
theorem R_W_K {nw : Int} {WL : Int → List Int} {WS WE WO : Int → Int} {M M' : qM} (h : R_W nw WL WS WE WO M) (f : fr ZK M M') : R_W nw WL WS WE WO M' := R_W_fr h (f.2 _ _ (by unfold ZK; omega)) (fun a j _ _ => f.2 a j (by unfold ZK; omega))
theorem R_row_K {r : Int} {ln : List Int} {M M' : qM} (h : R_row M r ln) (f : fr ZK M M') : R_row M' r ln := R_row_fr h (fun a j _ _ => f.2 a j (by unfold ZK; omega))
theorem R_TK_pc {nw : Int} {WL : Int → List Int} {ln : List Int} {T : List qT} {M M' : qM} (h : R_TK M nw WL ln T) (f : fr (fun a j => (a = 66 ∧ j = 65) ∨ a = 116) M M') : R_TK M' nw WL ln T :=
  ⟨(f.2 66 55 (by dsimp only; omega)).trans h.1, fun i hi => by
    obtain ⟨⟨h1, h2, h3⟩, h4, h5, h6, h7, h8⟩ := h.2 i hi
    have k : ∀ a j, 108 ≤ a → a ≤ 115 → q_nm M' a j = q_nm M a j := fun a j _ _ => f.2 a j (by dsimp only; omega)
    refine ⟨⟨(k 108 _ (by omega) (by omega)).trans h1, (k 109 _ (by omega) (by omega)).trans h2, (k 110 _ (by omega) (by omega)).trans h3⟩, (k 112 _ (by omega) (by omega)).trans h4, q_L_fr h5 (fun j _ _ => k 111 j (by omega) (by omega)), (k 113 _ (by omega) (by omega)).trans h6, (k 114 _ (by omega) (by omega)).trans h7, ?_⟩
    rw [k 115 _ (by omega) (by omega)]; exact h8⟩
/-- one candidate of the list: either it comes, or it doesn't -/
theorem r_add {d : Nat} {P : Int → qM → Prop} {M : qM} {nw r : Int} {WL : Int → List Int} {WS WE WO : Int → Int} {ln : List Int} {k p m : Nat} (hl : q_lay M) (hW : R_W nw WL WS WE WO M) (gW : G_W nw WL WS WE WO) (hr : R_row M r ln) (g : G_L nw ln) (hk : k < 8) (hp : p < ln.length) (hm : m < oth (k + 1) ln.length nw.toNat) (hT : R_TK M nw WL ln (tkK (mayB WL WS WE ln) ln.length nw.toNat k ++ tkP (mayB WL WS WE ln) (k + 1) ln.length nw.toNat p ++ tkO (mayB WL WS WE ln) (k + 1) p m)) (hmay : mayP WL WS WE ln ((k + 1 : Nat) : Int) p m) (x3 : Int) (hx : x3 = ot ((k + 1 : Nat) : Int) m)
    (K : ∀ M', fr ZK M M' → R_TK M' nw WL ln (tkK (mayB WL WS WE ln) ln.length nw.toNat k ++ tkP (mayB WL WS WE ln) (k + 1) ln.length nw.toNat p ++ tkO (mayB WL WS WE ln) (k + 1) p (m + 1)) → P 0 M') : q_WP q_Pr (d + 4) 198 [.inr (.inr 66), .inl ((k + 1 : Nat) : Int), .inl (p : Int), .inl x3, .inl r] M P := by
  have gn := gW.1
  have g6 := g.1
  have hB := mayB_iff.mpr hmay
  have rm := tk_room gn g hk hp hm hB
  have m6 := mst_le g6.2
  subst hx
  refine r_198 hl hW gW hr g hT (by omega) (fun t ht => ?_) (may_ok gn.1 (by omega) hp hm hmay) (fun M' f1 c1 => K M' f1 ?_)
  · rcases List.mem_append.mp ht with q | q
    · rcases List.mem_append.mp q with q | q
      · exact tkK_ok gn.1 k (by omega) t q
      · exact tkP_ok gn.1 (by omega) p (by omega) t q
    · exact tkO_ok gn.1 (by omega) hp m (by omega) t q
  · have e : tkO (mayB WL WS WE ln) (k + 1) p (m + 1) = tkO (mayB WL WS WE ln) (k + 1) p m ++ [(((k + 1 : Nat) : Int), (p : Int), ot ((k + 1 : Nat) : Int) m)] := by
      show tkO _ _ p m ++ _ = _
      rw [if_pos hB]
    rw [e, ← List.append_assoc]; exact c1
theorem tkO_no {B : Int → Int → Int → Bool} {k p m : Nat} (h : ¬ B k p m = true) : tkO B k p (m + 1) = tkO B k p m := by
  show tkO B k p m ++ _ = _
  rw [if_neg h, List.append_nil]
end
