section
variable {p : Program} {l : Launch} {e : Env} {R : Room} {s : State} {m : MethodId} {args : Array Value} {below : List Frame} {meth : Method} {cd : Code} {cc : ByteArray} {own : String} {nL : Nat} {Ts : List Cond} {D : va_G} {cA : Nat → ClassId} {z : Nat × Nat × Nat} {H00 : Heap} {L : Nat} {xs : Nat → Int32} {Q : State → Prop}
variable {pc : Nat} {lv : qLv} {st : List qV} {M : qM} {c t : Nat}
variable {H : Heap} {locs : List Loc}
section
variable {SP : State → Prop} {qy : Nat → MethodName} {qb : Nat → ByteArray} {qn : Nat → Nat} {qr : Nat → Option FieldType} {qw : Nat → List Cond} {Pr : Nat → qMt} {top d : Nat}
/-- what the words say of the natives, and what the text constant's members do -/
def q_okP (Ts : List Cond) (own : String) (ix : Nat) (cl : qCl) : Prop :=
  (cl.1 = 1000 → cl.2.2.2.1 = 0 ∧ Cond.methodLink own ix Lib.objectInit ∈ Ts ∧ Cond.instanceMethod Lib.objectInit ∈ Ts ∧ Cond.code Lib.objectInit ⟨#[0xb1]⟩ 1 none ∈ Ts) ∧
  (cl.1 = 1001 → cl.2.2.2.1 = 0 ∧ Cond.methodLink own ix arraycopyName ∈ Ts ∧ Cond.native arraycopyName ∈ Ts ∧ Cond.static arraycopyName ∈ Ts ∧ Cond.initialized "java/lang/System" ∈ Ts) ∧
  (cl.1 = 1004 → cl.2.2.2.1 = 3 ∧ Cond.methodLink own ix ⟨"[I", "clone", "()Ljava/lang/Object;"⟩ ∈ Ts ∧ Cond.sameMethod "[I" "java/lang/Object" "clone" "()Ljava/lang/Object;" ∈ Ts ∧ Cond.native ⟨"java/lang/Object", "clone", "()Ljava/lang/Object;"⟩ ∈ Ts ∧ Cond.instanceMethod ⟨"java/lang/Object", "clone", "()Ljava/lang/Object;"⟩ ∈ Ts ∧ Cond.selects "[I" ⟨"[I", "clone", "()Ljava/lang/Object;"⟩ ⟨"java/lang/Object", "clone", "()Ljava/lang/Object;"⟩ ∈ Ts ∧ Cond.castable "[I" "java/lang/Cloneable" ∈ Ts)
def q_Str (p : Program) (l : Launch) (e : Env) (R : Room) (s : State) (m : MethodId) (args : Array Value) (below : List Frame) (meth : Method) (cd : Code) (cc : ByteArray) (nL : Nat) (D : va_G) (cA : Nat → ClassId) (z : Nat × Nat × Nat) (H00 : Heap) (L : Nat) (xs : Nat → Int32) (Q : State → Prop) (mt : qMt) : Prop :=
  ∀ (ix : Nat) (cl : qCl), mt.2.2.2.1 ix = some cl → ∀ (pc : Nat) (lv : qLv) (st : List qV) (M : qM) (c t : Nat), decode cc pc = .ok (.invokevirtual ix, 3) → q_cat st ≤ 8 →
    (cl.1 = 1002 → q_Wt p l e R s m args below meth cd nL D cA z H00 L xs Q (pc + 3) lv (q_tag cl.2.2.2.1 117 st) M c t → q_Wt p l e R s m args below meth cd nL D cA z H00 L xs Q pc lv (.inr (.inr (-2)) :: st) M c t) ∧
    (cl.1 = 1003 → ∀ i : Int, 0 ≤ i → i < 117 → q_Wt p l e R s m args below meth cd nL D cA z H00 L xs Q (pc + 3) lv (q_tag cl.2.2.2.1 (q_txt.getD i.toNat 0) st) M c t → q_Wt p l e R s m args below meth cd nL D cA z H00 L xs Q pc lv (.inl i :: .inr (.inr (-2)) :: st) M c t)
theorem q_r_prim (C : q_Cx p s m args cd cc own nL Ts D cA z H00 L xs) {mt : qMt} {cl : qCl} {ix : Nat} {i : Instr} {call : qCall} (hfr : 1 ≤ R.frames ∧ 64 ≤ R.locals) (hbc : mt.2.2.2.2.2.2.2.1 ≤ R.cells ∧ mt.2.2.2.2.2.2.2.2 ≤ R.slots) (hGx : mt.2.2.2.1 ix = some cl)
    (hP : q_okP Ts own ix cl) (hStr : q_Str p l e R s m args below meth cd cc nL D cA z H00 L xs Q mt) (hge : 1000 ≤ cl.1) (hd : decode cc pc = .ok (i, 3)) (hi : (i = .invokevirtual ix ∧ q_knd cl.1 = 0) ∨ (i = .invokestatic ix ∧ q_knd cl.1 = 1) ∨ (i = .invokespecial ix ∧ q_knd cl.1 = 2))
    (h : q_call mt call cl (st.take cl.2.1).reverse (st.drop cl.2.1) lv M c t pc (q_Wt p l e R s m args below meth cd nL D cA z H00 L xs Q)) : q_Wt p l e R s m args below meth cd nL D cA z H00 L xs Q pc lv st M c t := by
  have hts := C.2.2.2.2.1
  unfold q_call at h
  cases hcat : (Nat.ble (q_cat (st.drop cl.2.1)) 8 && (Nat.ble (q_cat (st.take cl.2.1).reverse) cl.2.2.2.2.2.2 && Nat.beq (st.take cl.2.1).reverse.length cl.2.1)) with
  | false => rw [hcat] at h; exact absurd h id
  | true =>
    rw [hcat] at h
    rw [Bool.and_eq_true] at hcat
    have hc1 : q_cat (st.drop cl.2.1) ≤ 8 := Nat.le_of_ble_eq_true hcat.1
    have hyes : Nat.ble 1000 cl.1 = true := Nat.ble_eq_true_of_le hge
    dsimp only at h
    rw [hyes] at h
    dsimp only at h
    have hst : st = (st.take cl.2.1).reverse.reverse ++ st.drop cl.2.1 := by rw [List.reverse_reverse, List.take_append_drop]
    generalize (st.take cl.2.1).reverse = As at h hst
    generalize st.drop cl.2.1 = Rs at h hc1 hst
    subst hst
    obtain ⟨y, na, kc, rt, bc, bs, mx⟩ := cl
    dsimp only at h hP hge hi hc1
    have hcat9 : q_cat Rs + 20 ≤ 64 := by omega
    unfold q_prim at h
    split at h
    · exact absurd h id
    · rename_i hp
      split at hp
      · cases hp
        obtain ⟨h1, h2, h3, h4⟩ := hP.1 rfl
        dsimp only at h1
        subst h1
        rcases hi with ⟨-, hk⟩ | ⟨-, hk⟩ | ⟨rfl, -⟩
        · exact absurd hk (by decide)
        · exact absurd hk (by decide)
        · exact q_r_objInit C (hts _ h2) (hts _ h3) (hts _ h4) hd h.1.1 hfr.1 (show q_cat Rs + 12 ≤ R.locals by omega) h.2
      · cases hp
        obtain ⟨h1, h2, h3, h4, h5⟩ := hP.2.1 rfl
        dsimp only at h1
        subst h1
        obtain ⟨g1, g2, g3, g4, g5, g6, g7⟩ := h.1
        rcases hi with ⟨-, hk⟩ | ⟨rfl, -⟩ | ⟨-, hk⟩
        · exact absurd hk (by decide)
        · exact q_r_copy C (hts _ h2) (hts _ h3) (hts _ h4) (hts _ h5) hd g1 g2 g3 g4 g5 g6 g7 hfr.1 (Nat.le_trans (by show q_cat Rs + (nativeFrameWords "java/lang/System" "arraycopy" 5 + 11) ≤ q_cat Rs + 56; exact Nat.add_le_add_left (by decide) _) (Nat.le_trans (by omega) hfr.2)) h.2
        · exact absurd hk (by decide)
      · cases hp
        obtain ⟨g1, g2⟩ := h
        subst g1
        rcases hi with ⟨rfl, -⟩ | ⟨-, hk⟩ | ⟨-, hk⟩
        · exact (hStr ix _ hGx pc lv Rs M c t hd hc1).1 rfl g2
        · exact absurd hk (by decide)
        · exact absurd hk (by decide)
      · cases hp
        obtain ⟨⟨g1, g3, g4⟩, g2⟩ := h
        subst g1
        rcases hi with ⟨rfl, -⟩ | ⟨-, hk⟩ | ⟨-, hk⟩
        · exact (hStr ix _ hGx pc lv Rs M c t hd hc1).2 rfl _ g3 g4 g2
        · exact absurd hk (by decide)
        · exact absurd hk (by decide)
      · cases hp
        obtain ⟨h1, h2, h3, h4, h5, h6, h7⟩ := hP.2.2 rfl
        dsimp only at h1
        subst h1
        rcases hi with ⟨rfl, -⟩ | ⟨-, hk⟩ | ⟨-, hk⟩
        · exact q_r_clone C (hts _ h2) (hts _ h3) (hts _ h4) (hts _ h5) (hts _ h6) (hts _ h7) hd h.1.1 h.1.2 hfr.1 (show q_cat Rs + 14 ≤ R.locals by omega) ⟨Nat.le_trans h.2.1.1 hbc.1, Nat.le_trans h.2.1.2 hbc.2⟩ h.2.2
        · exact absurd hk (by decide)
        · exact absurd hk (by decide)
      · cases hp
/-- a method's frame, whole: all that its tables owe -/
def q_Tab (Ts : List Cond) (own : String) (cc : ByteArray) (nL : Nat) (z : Nat × Nat × Nat) (s : State) (meth : Method) (qy : Nat → MethodName) (qb : Nat → ByteArray) (qn : Nat → Nat) (qr : Nat → Option FieldType) (qw : Nat → List Cond) (Pr : Nat → qMt) (top : Nat) (mt : qMt) : Prop :=
  q_okW Ts ∧ (∀ ix e, mt.2.2.1.1 ix = some e → q_okF Ts own mt.2.2.2.2.1 ix e) ∧ (mt.2.2.2.2.2.1 = true → meth.name = "<init>") ∧ (∀ ix v, mt.2.2.1.2.1 ix = some v → q_okK Ts own ix v (vk_R own ix q_text z.2.1 s)) ∧ (∀ ix ci, mt.2.2.1.2.2 ix = some ci → q_okN Ts own ix ci) ∧ (∀ pc ix n, q_lk mt.1 pc = some (.checkcast ix, n) → Cond.classLink own ix "[I" ∈ Ts) ∧ (∀ ix cl, mt.2.2.2.1 ix = some cl → q_okG Ts own qy qb qn qr qw Pr top ix cl ∧ q_okP Ts own ix cl) ∧ ∀ pc i n, q_lk mt.1 pc = some (i, n) → decode cc pc = .ok (i, n) ∧ q_okI mt nL pc i n = true
def q_RetOk (p : Program) (l : Launch) (e : Env) (R : Room) (s : State) (m : MethodId) (args : Array Value) (below : List Frame) (meth : Method) (cd : Code) (cc : ByteArray) (nL : Nat) (D : va_G) (cA : Nat → ClassId) (z : Nat × Nat × Nat) (H00 : Heap) (L : Nat) (xs : Nat → Int32) (Q : State → Prop) (mt : qMt) (P : Int → qM → Prop) : Prop :=
  ∀ (pc : Nat) (lv : qLv) (M : qM) (c t : Nat) (x : Int), (decode cc pc = .ok (.ireturn, 1) → q_ret mt P 1 x M → q_Wt p l e R s m args below meth cd nL D cA z H00 L xs Q pc lv [.inl x] M c t) ∧ (decode cc pc = .ok (.lreturn, 1) → q_ret mt P 2 x M → q_Wt p l e R s m args below meth cd nL D cA z H00 L xs Q pc lv [.inr (.inl x)] M c t) ∧ (decode cc pc = .ok (.areturn, 1) → q_ret mt P 3 x M → q_Wt p l e R s m args below meth cd nL D cA z H00 L xs Q pc lv [.inr (.inr x)] M c t) ∧ (decode cc pc = .ok (.return_, 1) → q_ret mt P 0 0 M → q_Wt p l e R s m args below meth cd nL D cA z H00 L xs Q pc lv [] M c t)
theorem q_jmpE {pc : Nat} {off : Int} (h : 0 ≤ (pc : Int) + off) : (pc : Int) + off = ((q_jmp pc off : Nat) : Int) := by
  unfold q_jmp
  show (pc : Int) + off = (((pc : Int) + off).toNat : Int)
  omega
theorem q_body_sound (C : q_Cx p s m args cd cc own nL Ts D cA z H00 L xs) {mt : qMt} {P : Int → qM → Prop} {k : qK} {i : Instr} {n : Nat} (hA : q_All l D cA z H00 L xs SP qy qn qw Pr top d) (hSs : SP s) (hSW : ∀ U : State, s.WarmedH U.vm → SP U) (hSC : ∀ (U : State) (g : JFrame) (mk : MethodId) (a : Array Value), SP U → SP (U.calling g mk a)) (hfr : d + 1 + 8 ≤ R.frames ∧ 64 * (d + 1) + 200 ≤ R.locals) (hbc : mt.2.2.2.2.2.2.2.1 ≤ R.cells ∧ mt.2.2.2.2.2.2.2.2 ≤ R.slots)
    (hT : q_Tab Ts own cc nL z s meth qy qb qn qr qw Pr top mt) (hStr : q_Str p l e R s m args below meth cd cc nL D cA z H00 L xs Q mt) (hRet : q_RetOk p l e R s m args below meth cd cc nL D cA z H00 L xs Q mt P)
    (hk : ∀ pc lv st M c t, k pc lv st M c t → q_Wt p l e R s m args below meth cd nL D cA z H00 L xs Q pc lv st M c t) (hlk : q_lk mt.1 pc = some (i, n)) (h : q_body mt (q_WP Pr d) P k i n pc lv st M c t) : q_Wt p l e R s m args below meth cd nL D cA z H00 L xs Q pc lv st M c t := by
  obtain ⟨hW, hF, hini, hK, hN, hcast, hG, hL⟩ := hT
  obtain ⟨hd, hok⟩ := hL _ _ _ hlk
  have calls : ∀ (ix : Nat) (cl : qCl), n = 3 → mt.2.2.2.1 ix = some cl → ((i = .invokevirtual ix ∧ q_knd cl.1 = 0) ∨ (i = .invokestatic ix ∧ q_knd cl.1 = 1) ∨ (i = .invokespecial ix ∧ q_knd cl.1 = 2)) → q_call mt (q_WP Pr d) cl (st.take cl.2.1).reverse (st.drop cl.2.1) lv M c t pc k → q_Wt p l e R s m args below meth cd nL D cA z H00 L xs Q pc lv st M c t := by
    intro ix cl hn hcl hi hq
    subst hn
    have hq2 := q_call_mono (call' := q_WP Pr d) (q_WP_mono d) hk hq
    by_cases hge : 1000 ≤ cl.1
    · exact q_r_prim C ⟨by omega, by omega⟩ hbc hcl (hG _ _ hcl).2 hStr hge hd hi hq2
    · exact q_r_call C hA hSs hSW hSC hfr hbc (hG _ _ hcl).1 (by omega) hd hi hq2
  unfold q_body at h
  split at h
  · simp only [q_okI, Bool.and_eq_true, decide_eq_true_eq] at hok
    obtain ⟨hn, hj⟩ := hok
    have hn : n = 3 := Nat.eq_of_beq_eq_true hn
    subst hn
    have ht := q_jmpE hj
    split at h
    · rename_i cdn off w y x r
      cases cdn
      · exact q_r_icmp_eq C hd ht (fun e => hk _ _ _ _ _ _ (h.1 e)) (fun e => hk _ _ _ _ _ _ (h.2 e))
      · exact q_r_icmp_ne C hd ht (fun e => hk _ _ _ _ _ _ (h.1 e)) (fun e => hk _ _ _ _ _ _ (h.2 e))
      · exact q_r_icmp_lt C hd ht (fun e => hk _ _ _ _ _ _ (h.1 e)) (fun e => hk _ _ _ _ _ _ (h.2 e))
      · exact q_r_icmp_ge C hd ht (fun e => hk _ _ _ _ _ _ (h.1 e)) (fun e => hk _ _ _ _ _ _ (h.2 e))
      · exact q_r_icmp_gt C hd ht (fun e => hk _ _ _ _ _ _ (h.1 e)) (fun e => hk _ _ _ _ _ _ (h.2 e))
      · exact q_r_icmp_le C hd ht (fun e => hk _ _ _ _ _ _ (h.1 e)) (fun e => hk _ _ _ _ _ _ (h.2 e))
    · exact absurd h id
  · simp only [q_okI, Bool.and_eq_true, decide_eq_true_eq] at hok
    obtain ⟨hn, hj⟩ := hok
    have hn : n = 3 := Nat.eq_of_beq_eq_true hn
    subst hn
    have ht := q_jmpE hj
    split at h
    · rename_i cdn off w x r
      cases cdn
      · exact q_r_if_eq C hd ht (fun e => hk _ _ _ _ _ _ (h.1 e)) (fun e => hk _ _ _ _ _ _ (h.2 e))
      · exact q_r_if_ne C hd ht (fun e => hk _ _ _ _ _ _ (h.1 e)) (fun e => hk _ _ _ _ _ _ (h.2 e))
      · exact q_r_if_lt C hd ht (fun e => hk _ _ _ _ _ _ (h.1 e)) (fun e => hk _ _ _ _ _ _ (h.2 e))
      · exact q_r_if_ge C hd ht (fun e => hk _ _ _ _ _ _ (h.1 e)) (fun e => hk _ _ _ _ _ _ (h.2 e))
      · exact q_r_if_gt C hd ht (fun e => hk _ _ _ _ _ _ (h.1 e)) (fun e => hk _ _ _ _ _ _ (h.2 e))
      · exact q_r_if_le C hd ht (fun e => hk _ _ _ _ _ _ (h.1 e)) (fun e => hk _ _ _ _ _ _ (h.2 e))
    · exact absurd h id
  · simp only [q_okI, Bool.and_eq_true, decide_eq_true_eq] at hok
    obtain ⟨hn, hj⟩ := hok
    have hn : n = 3 := Nat.eq_of_beq_eq_true hn
    subst hn
    have ht := q_jmpE hj
    split at h
    · exact q_r_ifnull C hd ht (fun e => hk _ _ _ _ _ _ (h.1 e)) (fun e => hk _ _ _ _ _ _ (h.2 e))
    · exact absurd h id
  · simp only [q_okI, Bool.and_eq_true, decide_eq_true_eq] at hok
    obtain ⟨hn, hj⟩ := hok
    have hn : n = 3 := Nat.eq_of_beq_eq_true hn
    subst hn
    have ht := q_jmpE hj
    split at h
    · exact q_r_ifnonnull C hd ht (fun e => hk _ _ _ _ _ _ (h.1 e)) (fun e => hk _ _ _ _ _ _ (h.2 e))
    · exact absurd h id
  · simp only [q_okI, Bool.and_eq_true, decide_eq_true_eq] at hok
    obtain ⟨hn, hj⟩ := hok
    have hn : n = 3 := Nat.eq_of_beq_eq_true hn
    subst hn
    exact q_r_goto C hd (q_jmpE hj) (hk _ _ _ _ _ _ h)
  · split at h
    · simp only [q_okI, Bool.and_eq_true, decide_eq_true_eq, List.all_eq_true] at hok
      exact q_r_tsw C hd hok.1.1 ⟨hok.1.2, fun o ho => hok.2 o ho⟩ (q_swT_mono (fun tg => hk _ _ _ _ _ _) _ _ h.1) (fun e => hk _ _ _ _ _ _ (h.2 e))
    · exact absurd h id
  · split at h
    · unfold q_okI at hok
      rw [Bool.and_eq_true, Bool.and_eq_true] at hok
      exact q_r_lsw C hd hok.1.1 ⟨of_decide_eq_true hok.1.2, fun o ho => of_decide_eq_true (List.all_eq_true.mp hok.2 o ho)⟩ (q_swL_mono (fun tg => hk _ _ _ _ _ _) _ h)
    · exact absurd h id
  · split at h
    · exact absurd h id
    · rename_i ix _ cl hcl
      unfold q_okI at hok
      dsimp only at hok
      rw [hcl, Bool.and_eq_true] at hok
      exact calls ix cl (Nat.eq_of_beq_eq_true hok.1) hcl (Or.inl ⟨rfl, Nat.eq_of_beq_eq_true hok.2⟩) h
  · split at h
    · exact absurd h id
    · rename_i ix _ cl hcl
      unfold q_okI at hok
      dsimp only at hok
      rw [hcl, Bool.and_eq_true] at hok
      exact calls ix cl (Nat.eq_of_beq_eq_true hok.1) hcl (Or.inr (Or.inl ⟨rfl, Nat.eq_of_beq_eq_true hok.2⟩)) h
  · split at h
    · exact absurd h id
    · rename_i ix _ cl hcl
      unfold q_okI at hok
      dsimp only at hok
      rw [hcl, Bool.and_eq_true] at hok
      exact calls ix cl (Nat.eq_of_beq_eq_true hok.1) hcl (Or.inr (Or.inr ⟨rfl, Nat.eq_of_beq_eq_true hok.2⟩)) h
  · have hn : n = 1 := Nat.eq_of_beq_eq_true hok
    subst hn
    split at h
    · exact (hRet _ _ _ _ _ _).1 hd h
    · exact absurd h id
  · have hn : n = 1 := Nat.eq_of_beq_eq_true hok
    subst hn
    split at h
    · exact (hRet _ _ _ _ _ _).2.1 hd h
    · exact absurd h id
  · have hn : n = 1 := Nat.eq_of_beq_eq_true hok
    subst hn
    split at h
    · exact (hRet _ _ _ _ _ _).2.2.1 hd h
    · exact absurd h id
  · have hn : n = 1 := Nat.eq_of_beq_eq_true hok
    subst hn
    split at h
    · exact (hRet _ _ _ _ _ 0).2.2.2 hd h
    · exact absurd h id
  · split at h
    · exact absurd h id
    · rename_i hex
      exact q_ex_sound C hbc hd hok hW hF hini hK hN (fun ix he => hcast pc ix n (by rw [← he]; exact hlk)) hex (fun q hq => by cases hq) (q_on_mono hk h)
    · rename_i hex
      exact q_ex_sound C hbc hd hok hW hF hini hK hN (fun ix he => hcast pc ix n (by rw [← he]; exact hlk)) hex (fun q hq => by cases hq; exact h.1) (q_on_mono hk h.2)
theorem q_At_sound (C : q_Cx p s m args cd cc own nL Ts D cA z H00 L xs) {mt : qMt} {P : Int → qM → Prop} (hA : q_All l D cA z H00 L xs SP qy qn qw Pr top d) (hSs : SP s) (hSW : ∀ U : State, s.WarmedH U.vm → SP U) (hSC : ∀ (U : State) (g : JFrame) (mk : MethodId) (a : Array Value), SP U → SP (U.calling g mk a)) (hfr : d + 1 + 8 ≤ R.frames ∧ 64 * (d + 1) + 200 ≤ R.locals) (hbc : mt.2.2.2.2.2.2.2.1 ≤ R.cells ∧ mt.2.2.2.2.2.2.2.2 ≤ R.slots)
    (hT : q_Tab Ts own cc nL z s meth qy qb qn qr qw Pr top mt) (hStr : q_Str p l e R s m args below meth cd cc nL D cA z H00 L xs Q mt) (hRet : q_RetOk p l e R s m args below meth cd cc nL D cA z H00 L xs Q mt P)
    (h : q_At mt (q_WP Pr d) P pc lv st M c t) : q_Wt p l e R s m args below meth cd nL D cA z H00 L xs Q pc lv st M c t := by
  have body := fun (k : qK) (hk : ∀ pc lv st M c t, k pc lv st M c t → q_Wt p l e R s m args below meth cd nL D cA z H00 L xs Q pc lv st M c t) (pc : Nat) (lv : qLv) (st : List qV) (M : qM) (c t : Nat) (i : Instr) (n : Nat) => q_body_sound (pc := pc) (lv := lv) (st := st) (M := M) (c := c) (t := t) (k := k) (i := i) (n := n) C hA hSs hSW hSC hfr hbc hT hStr hRet hk
  have hX : ∀ f pc lv st M c t, q_seg mt (q_WP Pr d) P (q_Wt p l e R s m args below meth cd nL D cA z H00 L xs Q) f pc lv st M c t → q_Wt p l e R s m args below meth cd nL D cA z H00 L xs Q pc lv st M c t := by
    intro f
    induction f with
    | zero => exact fun _ _ _ _ _ _ h => absurd h id
    | succ f ih =>
      intro pc lv st M c t h
      have h : q_go mt (q_WP Pr d) P (q_Wt p l e R s m args below meth cd nL D cA z H00 L xs Q) (q_seg mt (q_WP Pr d) P (q_Wt p l e R s m args below meth cd nL D cA z H00 L xs Q) f) (mt.2.1 pc) pc lv st M c t := h
      unfold q_go at h
      split at h
      · intro H locs ls hS hl hlo hso hR
        exact h H locs ls hS (q_has_mask hl) (fun q hq => hlo q (q_mask_mem hq)) hso hR
      · split at h
        · exact absurd h id
        · rename_i e9 hlk
          exact body _ ih _ _ _ _ _ _ _ _ hlk h
  refine h (q_Wt p l e R s m args below meth cd nL D cA z H00 L xs Q) (fun pc lv st M c t ⟨f, hf⟩ => ?_)
  unfold q_from q_go at hf
  dsimp only at hf
  split at hf
  · exact absurd hf id
  · rename_i e9 hlk
    exact body _ (hX f) _ _ _ _ _ _ _ _ hlk hf
end
end
