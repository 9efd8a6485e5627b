section
variable {p : Program} {l : Launch} {e : Env} {R : Room} {s : State} {m : MethodId} {args : Array Value} {below : List Frame} {meth : Method} {cd : Code} {cc : ByteArray} {own : String} {nL : Nat} {Ts : List Cond} {D : va_G} {cA : Nat → ClassId} {z : Nat × Nat × Nat} {H00 : Heap} {L : Nat} {xs : Nat → Int32} {Q : State → Prop}
variable {pc : Nat} {lv : qLv} {st : List qV} {M : qM} {c t : Nat}
variable {H : Heap} {locs : List Loc}
theorem q_lvargs (z : Nat × Nat × Nat) : ∀ (as : List qV) (k : Nat), lv_args k (as.map (q_ev z)) = q_elv z (q_en k as) := by
  intro as
  induction as with
  | nil => exact fun _ => rfl
  | cons v r ih =>
    intro k
    rcases v with x | x | x
    · show (k, _) :: lv_args (if (Value.int (Int32.ofInt x)).category = 2 then k + 2 else k + 1) _ = _
      rw [if_neg (show ¬ (Value.int (Int32.ofInt x)).category = 2 from (by decide : ¬ (1 : Nat) = 2)), ih (k + 1)]
      rfl
    · show (k, _) :: lv_args (if (Value.long (Int64.ofInt x)).category = 2 then k + 2 else k + 1) _ = _
      rw [if_pos (show (Value.long (Int64.ofInt x)).category = 2 from rfl), ih (k + 2)]
      rfl
    · show (k, _) :: lv_args (if (q_er z x).category = 2 then k + 2 else k + 1) _ = _
      rw [if_neg (by rw [q_er_cat]; decide), ih (k + 1)]
      rfl
theorem q_lgsl (z : Nat × Nat × Nat) : ∀ (as : List qV), (lg_sl (as.map (q_ev z))).length = q_cat as := by
  intro as
  induction as with
  | nil => rfl
  | cons v r ih =>
    unfold lg_sl at ih ⊢
    rw [List.map_cons, List.flatMap_cons, List.length_append, ih]
    rcases v with x | x | x
    · show (if (Value.int (Int32.ofInt x)).category = 2 then _ else _ : List Slot).length + _ = _
      rw [if_neg (show ¬ (Value.int (Int32.ofInt x)).category = 2 from (by decide : ¬ (1 : Nat) = 2))]
      rfl
    · show (if (Value.long (Int64.ofInt x)).category = 2 then _ else _ : List Slot).length + _ = _
      rw [if_pos (show (Value.long (Int64.ofInt x)).category = 2 from rfl)]
      rfl
    · show (if (q_er z x).category = 2 then _ else _ : List Slot).length + _ = _
      rw [if_neg (by rw [q_er_cat]; decide)]
      rfl
theorem q_en_ok : ∀ (as : List qV) (k : Nat), q_oks as → q_okl (q_en k as) := by
  intro as
  induction as with
  | nil => intro k _ q hq; cases hq
  | cons v r ih =>
    intro k h q hq
    rcases v with x | x | x
    · rcases List.mem_cons.mp hq with e | e
      · rw [e]; exact h.1
      · exact ih _ h.2 q e
    · rcases List.mem_cons.mp hq with e | e
      · rw [e]; exact h.1
      · exact ih _ h.2 q e
    · rcases List.mem_cons.mp hq with e | e
      · rw [e]; exact h.1
      · exact ih _ h.2 q e
def q_okR (r : Option FieldType) (t : Nat) : Bool := match r, t with
  | none, 0 => true
  | some .int, 1 => true
  | some .boolean, 4 => true
  | some .long, 2 => true
  | some (.object _), 3 => true
  | some (.array _), 3 => true
  | _, _ => false
theorem q_retOk (C : q_Cx p s m args cd cc own nL Ts D cA z H00 L xs) {mt : qMt} {P : Int → qM → Prop} {r : Option FieldType} (hr : meth.sig.returnType = r) (hrt : q_okR r mt.2.2.2.2.2.2.1 = true) (hlocks : meth.locks = false) (hbc : R.cells ≤ mt.2.2.2.2.2.2.2.1 ∧ R.slots ≤ mt.2.2.2.2.2.2.2.2) : q_RetOk p l e R s m args below meth cd cc nL D cA z H00 L xs (MQ below (q_Qc D cA z H00 L xs mt.2.2.2.2.2.2.1 P) args s mt.2.2.2.2.2.2.2.1 mt.2.2.2.2.2.2.2.2 (fun q => z.1 ≤ q)) mt P := by
  intro pc lv M c t x
  generalize mt.2.2.2.2.2.2.2.1 = mc at hbc ⊢
  generalize mt.2.2.2.2.2.2.2.2 = ms at hbc ⊢
  have wid : ∀ {H : Heap} {locs : List Loc} {g : JFrame} {Q : State → Prop}, (c ≤ R.cells ∧ t ≤ R.slots) → W p l e R s m args below meth cd H locs mc ms Q g → W p l e R s m args below meth cd H locs c t Q g := fun hR kk => W.widen (Nat.le_trans hR.1 hbc.1) (Nat.le_trans hR.2 hbc.2) kk
  have fin : ∀ {H : Heap} {locs : List Loc} {v : Int} {r0 : Nat} (t : State), q_St D cA z H00 L xs M H locs → t.heap = H → q_rok r0 v → P v M → q_Qc D cA z H00 L xs r0 P args s (.returned (q_ro z r0 v)) t := fun t hS ht hok hP => ⟨_, _, rfl, hok, hP, by rw [ht]; exact q_St_locs hS (fun l h => by cases h)⟩
  unfold q_ret
  generalize mt.2.2.2.2.2.2.1 = rt at hrt ⊢
  refine ⟨fun hd h => ?_, fun hd h => ?_, fun hd h => ?_, fun hd h => ?_⟩
  · intro H locs ls hS hl hlo hso hR
    refine wid hR ?_
    unfold q_okR at hrt
    split at hrt <;> first | (exact absurd h id) | skip
    · exact W.iret C.1 C.2.1 hr (fun t ht _ => fin (r0 := 1) t hS ht hso.1 h) hS.2.2.2 hd hlocks
    · refine W.zret C.1 C.2.1 hr ?_ (fun t ht _ => fin (r0 := 4) t hS ht hso.1 h.2) hS.2.2.2 hd hlocks
      have e : x % 2 = x := by have := h.1; omega
      have := q_nz hso.1
      rw [e] at this
      exact this
    · cases hrt
  · intro H locs ls hS hl hlo hso hR
    refine wid hR ?_
    unfold q_okR at hrt
    split at hrt <;> first | (exact absurd h id) | skip
    · exact W.lret C.1 C.2.1 hr (fun t ht _ => fin (r0 := 2) t hS ht hso.1 h) hS.2.2.2 hd hlocks
    · cases hrt
  · intro H locs ls hS hl hlo hso hR
    refine wid hR ?_
    unfold q_okR at hrt
    split at hrt <;> first | (exact absurd h id) | skip
    · exact W.aret C.1 C.2.1 hr (Or.inl ⟨_, rfl⟩) (q_er_cases z x) (fun t ht _ => fin (r0 := 3) t hS ht hso.1 h) hS.2.2.2 hd hlocks
    · exact W.aret C.1 C.2.1 hr (Or.inr ⟨_, rfl⟩) (q_er_cases z x) (fun t ht _ => fin (r0 := 3) t hS ht hso.1 h) hS.2.2.2 hd hlocks
    · cases hrt
  · intro H locs ls hS hl hlo hso hR
    refine wid hR ?_
    unfold q_okR at hrt
    split at hrt <;> first | (exact absurd h id) | skip
    · exact W.vret C.1 C.2.1 hr (fun t ht _ => fin (r0 := 0) t hS ht trivial h) hS.2.2.2 hd hlocks
    · cases hrt
end
theorem q_ofW {l : Launch} {y : MethodName} {ws ws' : List Cond} {rm : Room} {Pc : Array Value → State → Prop} {Qc : Array Value → State → Outcome → State → Prop} {mc ms : Nat} {free : Addr → Prop} {cc : ByteArray} {maxL : Nat} {ret : Option FieldType}
    (hy : plainFor y = true) (hw : ws = Cond.code y cc maxL ret :: ws')
    (body : ∀ p e s m args below meth c s₁, BodyLoose p l y (headSpec ws rm) cc maxL ret e s m args below meth c s₁ → c.maxLocals = maxL → Pc args s →
      W p l e (headSpec ws rm).room s m args below meth c s.heap [] 0 0 (MQ below Qc args s mc ms free) (entryFrame m args maxL)) : Met l y ws rm Pc Qc mc ms free := by
  refine MetFree.of_bodySF (code := cc) (maxLocals := maxL) (ret := ret) hy ?_ ?_
  · intro args s m h hn
    obtain ⟨meth, c, h1, h2, h3, h4, h5, h6, -, -⟩ := Cond.code_spec hn (atoms_spec (ws := ws) h _ (by rw [hw]; exact List.mem_cons_self))
    exact ⟨meth, c, h1, h2, h3, h4, h5, h6⟩
  · intro p e s m args below meth c s₁ B hml hP _
    have hh0 : s₁.heap = s.heap := by rw [B.state]; rfl
    obtain ⟨t, o, a1, b1, b2, b3⟩ := show ∃ t o, Steps p.tables e below (s₁.setTop (entryFrame m args maxL)) t ∧ t.status = .running ∧ Ended t below o ∧ _ from by
      obtain ⟨t, a1, o, b1, b2, b3⟩ := body p e s m args below meth c s₁ B hml hP s₁ hh0 (Stand.of_body B)
      exact ⟨t, o, a1, b1, b2, b3⟩
    exact ⟨t, o, a1, b1, b2, ⟨b3.1, b3.2⟩⟩
section
variable {l : Launch} {D : va_G} {cA : Nat → ClassId} {z : Nat × Nat × Nat} {H00 : Heap} {L : Nat} {xs : Nat → Int32} {SP : State → Prop} {qy : Nat → MethodName} {qb : Nat → ByteArray} {qn : Nat → Nat} {qr : Nat → Option FieldType} {qw : Nat → List Cond} {Pr : Nat → qMt} {top : Nat} {bad : List Cond}
/-- EVERY METHOD KEEPS ITS PURE PROMISE -/
theorem q_all (hbad : ∀ (s : State) (args : Array Value), SP s → ∀ w ∈ bad, w.before args s = true) (hSW : ∀ s U : State, s.WarmedH U.vm → SP s → SP U) (hSC : ∀ (U : State) (g : JFrame) (mk : MethodId) (a : Array Value), SP U → SP (U.calling g mk a))
    (hpl : ∀ y, y < top → plainFor (qy y) = true) (hws : ∀ y, y < top → ∃ ws', qw y = Cond.code (qy y) (qb y) (qn y) (qr y) :: ws') (hR : ∀ y, y < top → q_okR (qr y) (Pr y).2.2.2.2.2.2.1 = true)
    (hTab : ∀ y, y < top → ∀ (s : State) (meth : Method), SP s → meth.name = (qy y).name → q_Tab (qw y ++ bad) (qy y).cls (qb y) (qn y) z s meth qy qb qn qr qw Pr top (Pr y))
    (hStr : ∀ y, y < top → ∀ (p : Program) (e : Env) (R : Room) (s : State) (m : MethodId) (args : Array Value) (below : List Frame) (meth : Method) (cd : Code) (Q : State → Prop), q_Cx p s m args cd (qb y) (qy y).cls (qn y) (qw y ++ bad) D cA z H00 L xs → SP s → 9 ≤ R.frames → 264 ≤ R.locals → q_Str p l e R s m args below meth cd (qb y) (qn y) D cA z H00 L xs Q (Pr y)) :
    ∀ d, q_All l D cA z H00 L xs SP qy qn qw Pr top d := by
  intro d
  induction d with
  | zero => exact fun y as M P hy h => absurd h id
  | succ d ih =>
    intro y as M P hy h hoks hcat
    obtain ⟨ws', hw⟩ := hws y hy
    refine q_ofW (cc := qb y) (maxL := qn y) (ret := qr y) (hpl y hy) hw ?_
    intro p e s m args below meth c s₁ B hml hv
    obtain ⟨rfl, hSt, hK, hX, hb, hSs⟩ := hv
    have C : q_Cx p s m (as.map (q_ev z)).toArray c (qb y) (qy y).cls (qn y) (qw y ++ bad) D cA z H00 L xs := ⟨B.exec, B.bytes, hml, findClass_of_methodNamed B.named, fun w hw => (List.mem_append.mp hw).elim (atoms_spec (ws := qw y) B.pre w) (hbad s _ hSs w), hK, hX, hb⟩
    have hnm : meth.name = (qy y).name := (name_of_methodNamed B.named B.method).1
    have hroom : (headSpec (qw y) (q_rm (d + 1) (Pr y))).room = q_rm (d + 1) (Pr y) := rfl
    rw [hroom]
    have key := q_At_sound (R := q_rm (d + 1) (Pr y)) (meth := meth) (below := below) (e := e) C ih hSs (fun U hW => hSW s U hW hSs) hSC ⟨Nat.le_refl _, Nat.le_refl _⟩ ⟨Nat.le_refl _, Nat.le_refl _⟩ (hTab y hy s meth hSs hnm) (hStr y hy p e _ s m _ below meth c _ C hSs (by show 9 ≤ d + 1 + 8; omega) (by show 264 ≤ 64 * (d + 1) + 200; omega)) (q_retOk (R := q_rm (d + 1) (Pr y)) C B.returns (hR y hy) B.notSynchronized ⟨Nat.le_refl _, Nat.le_refl _⟩) h
    have hl := lv_entry (as.map (q_ev z)) (n := qn y) (by rw [q_lgsl]; exact hcat)
    rw [lg_entry_eq]
    rw [q_lvargs] at hl
    exact key s.heap [] _ hSt hl (q_en_ok as 0 hoks) trivial ⟨Nat.zero_le _, Nat.zero_le _⟩
end
