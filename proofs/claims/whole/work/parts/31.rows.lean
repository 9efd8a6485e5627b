section
def q_okv (v : qV) : Prop := match v with
  | .inl x => q_i32 x
  | .inr (.inl x) => q_i64 x
  | .inr (.inr x) => -3 ≤ x
def q_oks (st : List qV) : Prop := match st with
  | [] => True
  | v :: t => q_okv v ∧ q_oks t
def q_okl (lv : qLv) : Prop := ∀ q ∈ lv, q_okv q.2
def q_elv (z : Nat × Nat × Nat) (lv : qLv) : List (Nat × Value) := lv.map fun q => (q.1, q_ev z q.2)
def q_tys (cA : Nat → ClassId) : List (ClassId × FieldType) := [(cA 12, .byte), (cA 13, .char), (cA 14, .int), (cA 15, .long), (cA 16, .boolean), (cA 17, .object "SlipDrawer$Meant"), (cA 18, .object "SlipDrawer$Script"), (cA 19, .object "SlipDrawer$Speech"), (cA 20, .array .int)]
theorem q_get_mem : ∀ {lv : qLv} {k : Nat} {v : qV}, q_get lv k = some v → (k, v) ∈ lv := by
  intro lv
  induction lv with
  | nil => intro k v h; cases h
  | cons e t ih =>
    intro k v h
    obtain ⟨i, u⟩ := e
    unfold q_get at h
    cases hb : Nat.beq i k with
    | true =>
      rw [hb] at h
      have : i = k := Nat.eq_of_beq_eq_true hb
      subst this
      have h2 : u = v := Option.some.inj h
      subst h2
      exact List.mem_cons_self
    | false =>
      rw [hb] at h
      exact List.mem_cons_of_mem _ (ih h)
theorem q_del_mem {k : Nat} {w : Bool} : ∀ {lv : qLv} {q : Nat × qV}, q ∈ q_del k w lv → q ∈ lv ∧ q.1 ≠ k ∧ (w = true → q.1 ≠ k + 1) ∧ (∀ x, q.2 = .inr (.inl x) → q.1 + 1 ≠ k) := by
  intro lv
  induction lv with
  | nil => intro q h; cases h
  | cons e t ih =>
    intro q h
    obtain ⟨i, u⟩ := e
    unfold q_del at h
    cases hb : (Nat.beq i k || (w && Nat.beq i (k + 1)) || (Nat.beq (i + 1) k && q_lg u)) with
    | true =>
      rw [hb] at h
      obtain ⟨h1, h2⟩ := ih h
      exact ⟨List.mem_cons_of_mem _ h1, h2⟩
    | false =>
      rw [hb] at h
      rcases List.mem_cons.mp h with h | h
      · subst h
        simp only [Bool.or_eq_false_iff, Bool.and_eq_false_iff] at hb
        refine ⟨List.mem_cons_self, fun e => ?_, fun hw e => ?_, fun x hx e => ?_⟩
        · have : i = k := e
          subst this
          rw [Nat.beq_refl] at hb
          exact absurd hb.1.1 (by decide)
        · have : i = k + 1 := e
          subst this
          rw [hw, Nat.beq_refl] at hb
          rcases hb.1.2 with h | h <;> exact absurd h (by decide)
        · have h1 : u = .inr (.inl x) := hx
          have h2 : i + 1 = k := e
          subst h1; subst h2
          rw [Nat.beq_refl] at hb
          rcases hb.2 with h | h
          · exact absurd h (by decide)
          · exact Bool.noConfusion h
      · obtain ⟨h1, h2⟩ := ih h
        exact ⟨List.mem_cons_of_mem _ h1, h2⟩
theorem q_ins_mem {k : Nat} {v : qV} : ∀ {lv : qLv} {q : Nat × qV}, q ∈ q_ins k v lv → q = (k, v) ∨ q ∈ lv := by
  intro lv
  induction lv with
  | nil => intro q h; exact Or.inl (List.mem_singleton.mp h)
  | cons e t ih =>
    intro q h
    obtain ⟨i, u⟩ := e
    unfold q_ins at h
    cases hb : Nat.blt i k with
    | true =>
      rw [hb] at h
      rcases List.mem_cons.mp h with h | h
      · exact Or.inr (by rw [h]; exact List.mem_cons_self)
      · rcases ih h with h | h
        · exact Or.inl h
        · exact Or.inr (List.mem_cons_of_mem _ h)
    | false =>
      rw [hb] at h
      rcases List.mem_cons.mp h with h | h
      · exact Or.inl h
      · exact Or.inr h
theorem q_mask_mem {live : List Nat} : ∀ {lv : qLv} {q : Nat × qV}, q ∈ q_mask live lv → q ∈ lv := by
  intro lv
  induction lv with
  | nil => intro q h; cases h
  | cons e t ih =>
    intro q h
    obtain ⟨i, u⟩ := e
    unfold q_mask at h
    cases hb : q_in i live with
    | true =>
      rw [hb] at h
      rcases List.mem_cons.mp h with h | h
      · rw [h]; exact List.mem_cons_self
      · exact List.mem_cons_of_mem _ (ih h)
    | false =>
      rw [hb] at h
      exact List.mem_cons_of_mem _ (ih h)
theorem q_has_sub {ls : Array Slot} {nL : Nat} {l l' : List (Nat × Value)} (h : lv_has ls nL l) (hs : ∀ q ∈ l', q ∈ l) : lv_has ls nL l' := ⟨h.1, h.2.1, fun q hq => h.2.2 q (hs q hq)⟩
theorem q_has_mask {z : Nat × Nat × Nat} {ls : Array Slot} {nL : Nat} {lv : qLv} {live : List Nat} (h : lv_has ls nL (q_elv z lv)) : lv_has ls nL (q_elv z (q_mask live lv)) := by
  refine q_has_sub h (fun q hq => ?_)
  obtain ⟨r, hr, rfl⟩ := List.mem_map.mp hq
  exact List.mem_map.mpr ⟨r, q_mask_mem hr, rfl⟩
theorem q_has_get {z : Nat × Nat × Nat} {ls : Array Slot} {nL : Nat} {lv : qLv} {k : Nat} {v : qV} (h : lv_has ls nL (q_elv z lv)) (hg : q_get lv k = some v) : ls[k]? = some (.val (q_ev z v)) :=
  h.2.2 (k, q_ev z v) (List.mem_map.mpr ⟨(k, v), q_get_mem hg, rfl⟩)
theorem q_er_cat (z : Nat × Nat × Nat) (x : Int) : (q_er z x).category = 1 := by
  unfold q_er
  split
  · rfl
  · split
    · rfl
    · split <;> rfl
theorem q_has_st1 {z : Nat × Nat × Nat} {ls : Array Slot} {nL : Nat} {lv : qLv} {k : Nat} {v : qV} (hv : ∀ x, v ≠ .inr (.inl x)) (h : lv_has ls nL ((k, q_ev z v) :: (q_elv z lv).filter (fun q => !(q.1 == k) && !(q.1 + 1 == k && q.2.category == 2)))) : lv_has ls nL (q_elv z (q_st k v lv)) := by
  refine q_has_sub h (fun q hq => ?_)
  obtain ⟨r, hr, rfl⟩ := List.mem_map.mp hq
  rcases q_ins_mem hr with hr | hr
  · subst hr; exact List.mem_cons_self
  · obtain ⟨h1, h2, -, h4⟩ := q_del_mem hr
    refine List.mem_cons_of_mem _ (List.mem_filter.mpr ⟨List.mem_map.mpr ⟨r, h1, rfl⟩, ?_⟩)
    obtain ⟨i, u⟩ := r
    have h5 : (i == k) = false := by simpa using h2
    simp only [h5, Bool.not_false, Bool.true_and, Bool.not_eq_true', Bool.and_eq_false_iff]
    rcases u with x | x | x
    · exact Or.inr rfl
    · exact Or.inl (by simpa using h4 x rfl)
    · refine Or.inr ?_
      show ((q_er z x).category == 2) = false
      rw [q_er_cat]
      rfl
theorem q_has_st2 {z : Nat × Nat × Nat} {ls : Array Slot} {nL : Nat} {lv : qLv} {k : Nat} {x : Int} (h : lv_has ls nL ((k, q_ev z (.inr (.inl x))) :: (q_elv z lv).filter (fun q => !(q.1 == k) && (!(q.1 == k + 1) && !(q.1 + 1 == k && q.2.category == 2))))) : lv_has ls nL (q_elv z (q_st k (.inr (.inl x)) lv)) := by
  refine q_has_sub h (fun q hq => ?_)
  obtain ⟨r, hr, rfl⟩ := List.mem_map.mp hq
  rcases q_ins_mem hr with hr | hr
  · subst hr; exact List.mem_cons_self
  · obtain ⟨h1, h2, h3, h4⟩ := q_del_mem hr
    refine List.mem_cons_of_mem _ (List.mem_filter.mpr ⟨List.mem_map.mpr ⟨r, h1, rfl⟩, ?_⟩)
    obtain ⟨i, u⟩ := r
    have h5 : (i == k) = false := by simpa using h2
    have h6 : (i == k + 1) = false := by simpa using h3 rfl
    simp only [h5, h6, Bool.not_false, Bool.true_and, Bool.not_eq_true', Bool.and_eq_false_iff]
    rcases u with x | x | x
    · exact Or.inr rfl
    · exact Or.inl (by simpa using h4 x rfl)
    · refine Or.inr ?_
      show ((q_er z x).category == 2) = false
      rw [q_er_cat]
      rfl
theorem q_okl_st {lv : qLv} {k : Nat} {v : qV} (h : q_okl lv) (hv : q_okv v) : q_okl (q_st k v lv) := by
  intro q hq
  rcases q_ins_mem hq with hr | hr
  · rw [hr]; exact hv
  · exact h q (q_del_mem hr).1
theorem q_okl_get {lv : qLv} {k : Nat} {v : qV} (h : q_okl lv) (hg : q_get lv k = some v) : q_okv v := h _ (q_get_mem hg)
/-- the world: the memory, what lies below it, the script -/
def q_St (D : va_G) (cA : Nat → ClassId) (z : Nat × Nat × Nat) (H00 : Heap) (L : Nat) (xs : Nat → Int32) (M : qM) (H : Heap) (locs : List Loc) : Prop :=
  q_Rep D cA z M H ∧ (∀ q : Nat, q < z.1 → H[q]? = H00[q]?) ∧ (q_ln M (-3) = L ∧ ∀ j : Nat, j < L → xs j = Int32.ofInt (q_nm M (-3) j)) ∧ ∀ l ∈ locs, z.1 ≤ l.base
/-- the method's frame: the machine, its code, its class, the words, the kinds of cells -/
def q_Cx (p : Program) (s : State) (m : MethodId) (args : Array Value) (cd : Code) (cc : ByteArray) (own : String) (nL : Nat) (Ts : List Cond) (D : va_G) (cA : Nat → ClassId) (z : Nat × Nat × Nat) (H00 : Heap) (L : Nat) (xs : Nat → Int32) : Prop :=
  p.tables.exec = Jvm.exec ∧ cd.code = cc ∧ cd.maxLocals = nL ∧ s.vm.findClass own = some m.cls ∧ (∀ w ∈ Ts, w.before args s = true) ∧ va_K D vwCl (q_tys cA) s ∧ va_X z.2.2 L xs s H00 ∧ z.2.2 < z.1
def q_Wt (p : Program) (l : Launch) (e : Env) (R : Room) (s : State) (m : MethodId) (args : Array Value) (below : List Frame) (meth : Method) (cd : Code) (nL : Nat) (D : va_G) (cA : Nat → ClassId) (z : Nat × Nat × Nat) (H00 : Heap) (L : Nat) (xs : Nat → Int32) (Q : State → Prop) : qK := fun pc lv st M c t =>
  ∀ (H : Heap) (locs : List Loc) (ls : Array Slot), q_St D cA z H00 L xs M H locs → lv_has ls nL (q_elv z lv) → q_okl lv → q_oks st → (c ≤ R.cells ∧ t ≤ R.slots) → W p l e R s m args below meth cd H locs c t Q (F0 m pc ls (st.map (q_ev z)))
section
variable {p : Program} {l : Launch} {e : Env} {R : Room} {s : State} {m : MethodId} {args : Array Value} {below : List Frame} {meth : Method} {cd : Code} {cc : ByteArray} {own : String} {nL : Nat} {Ts : List Cond} {D : va_G} {cA : Nat → ClassId} {z : Nat × Nat × Nat} {H00 : Heap} {L : Nat} {xs : Nat → Int32} {Q : State → Prop}
variable {pc : Nat} {lv : qLv} {st : List qV} {M : qM} {c t : Nat}
theorem q_r_iconst (C : q_Cx p s m args cd cc own nL Ts D cA z H00 L xs) {v : Int} (hd : decode cc pc = .ok (.iconst v, 1)) (hv : q_i32 v) (k : q_Wt p l e R s m args below meth cd nL D cA z H00 L xs Q (pc + 1) lv (.inl v :: st) M c t) : q_Wt p l e R s m args below meth cd nL D cA z H00 L xs Q pc lv st M c t :=
  fun H locs ls hS hl hlo hso hR => lv_iconst C.1 C.2.1 hd rfl (k H locs ls hS hl hlo ⟨hv, hso⟩ hR)
theorem q_r_bipush (C : q_Cx p s m args cd cc own nL Ts D cA z H00 L xs) {v : Int} (hd : decode cc pc = .ok (.bipush v, 2)) (hv : -128 ≤ v ∧ v < 128) (k : q_Wt p l e R s m args below meth cd nL D cA z H00 L xs Q (pc + 2) lv (.inl v :: st) M c t) : q_Wt p l e R s m args below meth cd nL D cA z H00 L xs Q pc lv st M c t :=
  fun H locs ls hS hl hlo hso hR => lv_bipush C.1 C.2.1 hd (q_bi hv) (k H locs ls hS hl hlo ⟨by show q_i32 v; unfold q_i32; omega, hso⟩ hR)
theorem q_r_sipush (C : q_Cx p s m args cd cc own nL Ts D cA z H00 L xs) {v : Int} (hd : decode cc pc = .ok (.sipush v, 3)) (hv : -32768 ≤ v ∧ v < 32768) (k : q_Wt p l e R s m args below meth cd nL D cA z H00 L xs Q (pc + 3) lv (.inl v :: st) M c t) : q_Wt p l e R s m args below meth cd nL D cA z H00 L xs Q pc lv st M c t :=
  fun H locs ls hS hl hlo hso hR => lv_sipush C.1 C.2.1 hd (q_si hv) (k H locs ls hS hl hlo ⟨by show q_i32 v; unfold q_i32; omega, hso⟩ hR)
theorem q_r_lconst (C : q_Cx p s m args cd cc own nL Ts D cA z H00 L xs) {v : Fin 2} (hd : decode cc pc = .ok (.lconst v, 1)) (k : q_Wt p l e R s m args below meth cd nL D cA z H00 L xs Q (pc + 1) lv (.inr (.inl (Int.ofNat v.val)) :: st) M c t) : q_Wt p l e R s m args below meth cd nL D cA z H00 L xs Q pc lv st M c t :=
  fun H locs ls hS hl hlo hso hR => lv_lconst C.1 C.2.1 hd (v := Int64.ofInt (Int.ofNat v.val)) (by rw [← Int64.ofInt_eq_ofNat]; rfl) (k H locs ls hS hl hlo ⟨by have := v.isLt; show q_i64 ((v.val : Nat) : Int); unfold q_i64; omega, hso⟩ hR)
theorem q_r_null (C : q_Cx p s m args cd cc own nL Ts D cA z H00 L xs) (hd : decode cc pc = .ok (.aconst_null, 1)) (k : q_Wt p l e R s m args below meth cd nL D cA z H00 L xs Q (pc + 1) lv (.inr (.inr (-1)) :: st) M c t) : q_Wt p l e R s m args below meth cd nL D cA z H00 L xs Q pc lv st M c t :=
  fun H locs ls hS hl hlo hso hR => lv_null C.1 C.2.1 hd (k H locs ls hS hl hlo ⟨by show (-3 : Int) ≤ -1; omega, hso⟩ hR)
end
end
