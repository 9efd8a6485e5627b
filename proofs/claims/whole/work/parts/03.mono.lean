section
theorem q_br_mono {c : ClassFile.Cond} {x y : Int} {A B A' B' : Prop} (ha : A → A') (hb : B → B') : q_br c x y A B → q_br c x y A' B' := by
  cases c <;> exact fun h => ⟨fun e => ha (h.1 e), fun e => hb (h.2 e)⟩
theorem q_swT_mono {k k' : Nat → Prop} (h : ∀ t, k t → k' t) {pc : Nat} {x : Int} : ∀ (offs : List Int) (v : Int), q_swT pc x v offs k → q_swT pc x v offs k' := by
  intro offs
  induction offs with
  | nil => intro v _; exact trivial
  | cons o t ih =>
    intro v hh
    exact ⟨fun e => h _ (hh.1 e), ih _ hh.2⟩
theorem q_swL_mono {k k' : Nat → Prop} (h : ∀ t, k t → k' t) {pc : Nat} {x d : Int} : ∀ (ps : List (Int × Int)), q_swL pc x ps d k → q_swL pc x ps d k' := by
  intro ps
  induction ps with
  | nil => intro hh; exact h _ hh
  | cons o t ih =>
    intro hh
    exact ⟨fun e => h _ (hh.1 e), fun e => ih (hh.2 e)⟩
theorem q_on_mono {mt : qMt} {k k' : qK} (hk : ∀ pc lv st M c s, k pc lv st M c s → k' pc lv st M c s) {pc : Nat} {lv : qLv} {st : List qV} {M : qM} {c s : Nat} {w : Option (Nat × Nat)} : q_on mt k pc lv st M c s w → q_on mt k' pc lv st M c s w := by
  cases w with
  | none => exact hk _ _ _ _ _ _
  | some e => exact fun h => ⟨h.1, hk _ _ _ _ _ _ h.2⟩
theorem q_cal_mono {mt : qMt} {call call' : qCall} {k k' : Int → qM → Nat → Nat → Prop} (hc : ∀ y a M Q Q', (∀ v M', Q v M' → Q' v M') → call y a M Q → call' y a M Q') (hk : ∀ v M c s, k v M c s → k' v M c s) {y : Nat} {args : List qV} {M : qM} {c s : Nat} {w : Option (Nat × Nat)} : q_cal mt call y args M k c s w → q_cal mt call' y args M k' c s w := by
  cases w with
  | none => exact hc _ _ _ _ _ (fun v M' => hk _ _ _ _)
  | some e => exact fun h => ⟨h.1, hc _ _ _ _ _ (fun v M' => hk _ _ _ _) h.2⟩
theorem q_call_mono {mt : qMt} {call call' : qCall} {k k' : qK} (hc : ∀ y a M Q Q', (∀ v M', Q v M' → Q' v M') → call y a M Q → call' y a M Q') (hk : ∀ pc lv st M c s, k pc lv st M c s → k' pc lv st M c s) {cl : qCl} {args rest : List qV} {lv : qLv} {M : qM} {c s pc : Nat} : q_call mt call cl args rest lv M c s pc k → q_call mt call' cl args rest lv M c s pc k' := by
  unfold q_call
  cases (Nat.ble (q_cat rest) 8 && (Nat.ble (q_cat args) cl.2.2.2.2.2.2 && Nat.beq args.length cl.2.1)) with
  | false => exact fun h => h
  | true =>
    cases Nat.ble 1000 cl.1 with
    | true =>
      dsimp only
      cases q_prim cl.1 args M with
      | none => exact fun h => h
      | some e => exact fun h => ⟨h.1, q_on_mono hk h.2⟩
    | false =>
      dsimp only
      split
      · exact q_cal_mono hc (fun _ _ _ _ => hk _ _ _ _ _ _)
      · exact fun h => ⟨h.1, q_cal_mono hc (fun _ _ _ _ => hk _ _ _ _ _ _) h.2⟩
      · exact fun h => h
theorem q_ret_mono {mt : qMt} {P P' : Int → qM → Prop} (hP : ∀ v M, P v M → P' v M) {t : Nat} {x : Int} {M : qM} : q_ret mt P t x M → q_ret mt P' t x M := by
  unfold q_ret
  split
  · exact fun h => ⟨h.1, hP _ _ h.2⟩
  · exact hP _ _
  · exact hP _ _
  · exact hP _ _
  · exact hP _ _
  · exact fun h => h
theorem q_body_mono {mt : qMt} {call call' : qCall} {P P' : Int → qM → Prop} {k k' : qK} (hc : ∀ y a M Q Q', (∀ v M', Q v M' → Q' v M') → call y a M Q → call' y a M Q') (hP : ∀ v M, P v M → P' v M) (hk : ∀ pc lv st M c s, k pc lv st M c s → k' pc lv st M c s) {i : Instr} {n pc : Nat} {lv : qLv} {st : List qV} {M : qM} {c s : Nat} : q_body mt call P k i n pc lv st M c s → q_body mt call' P' k' i n pc lv st M c s := by
  unfold q_body
  split
  · split
    · exact q_br_mono (hk _ _ _ _ _ _) (hk _ _ _ _ _ _)
    · exact fun h => h
  · split
    · exact q_br_mono (hk _ _ _ _ _ _) (hk _ _ _ _ _ _)
    · exact fun h => h
  · split
    · exact fun h => ⟨fun e => hk _ _ _ _ _ _ (h.1 e), fun e => hk _ _ _ _ _ _ (h.2 e)⟩
    · exact fun h => h
  · split
    · exact fun h => ⟨fun e => hk _ _ _ _ _ _ (h.1 e), fun e => hk _ _ _ _ _ _ (h.2 e)⟩
    · exact fun h => h
  · exact hk _ _ _ _ _ _
  · split
    · exact fun h => ⟨q_swT_mono (fun t => hk _ _ _ _ _ _) _ _ h.1, fun e => hk _ _ _ _ _ _ (h.2 e)⟩
    · exact fun h => h
  · split
    · exact fun h => q_swL_mono (fun t => hk _ _ _ _ _ _) _ h
    · exact fun h => h
  · split
    · exact fun h => h
    · exact q_call_mono hc hk
  · split
    · exact fun h => h
    · exact q_call_mono hc hk
  · split
    · exact fun h => h
    · exact q_call_mono hc hk
  · split
    · exact q_ret_mono hP
    · exact fun h => h
  · split
    · exact q_ret_mono hP
    · exact fun h => h
  · split
    · exact q_ret_mono hP
    · exact fun h => h
  · split
    · exact q_ret_mono hP
    · exact fun h => h
  · split
    · exact fun h => h
    · exact q_on_mono hk
    · exact fun h => ⟨h.1, q_on_mono hk h.2⟩
theorem q_go_mono {mt : qMt} {call call' : qCall} {P P' : Int → qM → Prop} {X X' k k' : qK} (hc : ∀ y a M Q Q', (∀ v M', Q v M' → Q' v M') → call y a M Q → call' y a M Q') (hP : ∀ v M, P v M → P' v M) (hX : ∀ pc lv st M c s, X pc lv st M c s → X' pc lv st M c s) (hk : ∀ pc lv st M c s, k pc lv st M c s → k' pc lv st M c s) {cut : Option (List Nat)} {pc : Nat} {lv : qLv} {st : List qV} {M : qM} {c s : Nat} : q_go mt call P X k cut pc lv st M c s → q_go mt call' P' X' k' cut pc lv st M c s := by
  unfold q_go
  cases cut with
  | some live => exact hX _ _ _ _ _ _
  | none =>
    dsimp only
    cases q_lk mt.1 pc with
    | none => exact fun h => h
    | some e => exact q_body_mono hc hP hk
theorem q_seg_mono {mt : qMt} {call call' : qCall} {P P' : Int → qM → Prop} {X X' : qK} (hc : ∀ y a M Q Q', (∀ v M', Q v M' → Q' v M') → call y a M Q → call' y a M Q') (hP : ∀ v M, P v M → P' v M) (hX : ∀ pc lv st M c s, X pc lv st M c s → X' pc lv st M c s) : ∀ (f : Nat) (pc : Nat) (lv : qLv) (st : List qV) (M : qM) (c s : Nat), q_seg mt call P X f pc lv st M c s → q_seg mt call' P' X' f pc lv st M c s := by
  intro f
  induction f with
  | zero => exact fun _ _ _ _ _ _ h => h
  | succ f ih => exact fun pc lv st M c s h => q_go_mono hc hP hX ih h
theorem q_from_mono {mt : qMt} {call call' : qCall} {P P' : Int → qM → Prop} {X X' : qK} (hc : ∀ y a M Q Q', (∀ v M', Q v M' → Q' v M') → call y a M Q → call' y a M Q') (hP : ∀ v M, P v M → P' v M) (hX : ∀ pc lv st M c s, X pc lv st M c s → X' pc lv st M c s) {f pc : Nat} {lv : qLv} {st : List qV} {M : qM} {c s : Nat} : q_from mt call P X f pc lv st M c s → q_from mt call' P' X' f pc lv st M c s :=
  fun h => q_go_mono hc hP hX (q_seg_mono hc hP hX f) h
theorem q_At_mono {mt : qMt} {call call' : qCall} {P P' : Int → qM → Prop} (hc : ∀ y a M Q Q', (∀ v M', Q v M' → Q' v M') → call y a M Q → call' y a M Q') (hP : ∀ v M, P v M → P' v M) {pc : Nat} {lv : qLv} {st : List qV} {M : qM} {c s : Nat} (h : q_At mt call P pc lv st M c s) : q_At mt call' P' pc lv st M c s := by
  intro X hX
  exact h X (fun pc lv st M c s ⟨f, hf⟩ => hX _ _ _ _ _ _ ⟨f, q_from_mono hc hP (fun _ _ _ _ _ _ z => z) hf⟩)
theorem q_WP_mono {Pr : Nat → qMt} : ∀ (d : Nat) (y : Nat) (a : List qV) (M : qM) (Q Q' : Int → qM → Prop), (∀ v M', Q v M' → Q' v M') → q_WP Pr d y a M Q → q_WP Pr d y a M Q' := by
  intro d
  induction d with
  | zero => exact fun _ _ _ _ _ _ h => h
  | succ d ih => exact fun y a M Q Q' hQ h => q_At_mono ih hQ h
theorem q_WP_up {Pr : Nat → qMt} : ∀ (d : Nat) (y : Nat) (a : List qV) (M : qM) (Q Q' : Int → qM → Prop), (∀ v M', Q v M' → Q' v M') → q_WP Pr d y a M Q → q_WP Pr (d + 1) y a M Q' := by
  intro d
  induction d with
  | zero => exact fun _ _ _ _ _ _ h => absurd h id
  | succ d ih => exact fun y a M Q Q' hQ h => q_At_mono ih hQ h
theorem q_fold {Pr : Nat → qMt} {d : Nat} {mt : qMt} {P : Int → qM → Prop} (f : Nat) {pc : Nat} {lv : qLv} {st : List qV} {M : qM} {c s : Nat} (h : q_from mt (q_WP Pr d) P (q_At mt (q_WP Pr d) P) f pc lv st M c s) : q_At mt (q_WP Pr d) P pc lv st M c s := by
  intro X hX
  exact hX _ _ _ _ _ _ ⟨f, q_from_mono (q_WP_mono d) (fun _ _ z => z) (fun pc lv st M c s z => z X hX) h⟩
theorem q_enter {Pr : Nat → qMt} {d y : Nat} {a : List qV} {M : qM} {P : Int → qM → Prop} (h : q_At (Pr y) (q_WP Pr d) P 0 (q_en 0 a) [] M 0 0) : q_WP Pr (d + 1) y a M P := h
end
