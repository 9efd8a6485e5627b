section
theorem q_as_mem {α : Type} : ∀ {L : List (Nat × α)} {k : Nat} {v : α}, q_as L k = some v → (k, v) ∈ L := by
  intro L
  induction L with
  | nil => intro k v h; cases h
  | cons e t ih =>
    intro k v h
    unfold q_as at h
    cases hb : Nat.beq e.1 k with
    | true =>
      rw [hb] at h
      have h1 : e.1 = k := Nat.eq_of_beq_eq_true hb
      have h2 : e.2 = v := Option.some.inj h
      rw [← h1, ← h2]
      exact List.mem_cons_self
    | false =>
      rw [hb] at h
      exact List.mem_cons_of_mem _ (ih h)
theorem q_as_x {α : Type} {LX : List ((Nat × α) × List (Nat × Nat))} {k : Nat} {v : α} (h : q_as (LX.map Prod.fst) k = some v) : ∃ x, ((k, v), x) ∈ LX := by
  obtain ⟨⟨e, x⟩, h1, h2⟩ := List.mem_map.mp (q_as_mem h)
  dsimp only at h2
  subst h2
  exact ⟨x, h1⟩
def q_ix (x : List (Nat × Nat)) (i : Nat) : Nat × Nat := x.getD i (9, 0)
def q_ckF (own : String) (oc : Int) (e : Nat × Int × Int × Bool × Bool) (x : List (Nat × Nat)) : Bool :=
  decide (0 ≤ e.2.1) && decide (e.2.1 < 12) && decide (0 ≤ e.2.2.1) && decide (e.2.2.1.toNat < q_cNN e.2.1.toNat) && q_ck (q_ix x 0) (Cond.fieldLink own e.1 (q_cT e.2.1.toNat e.2.2.1.toNat).1 (q_cT e.2.1.toNat e.2.2.1.toNat).2.1 (q_cT e.2.1.toNat e.2.2.1.toNat).2.2.1) && ((q_fr e.2.1.toNat).getD e.2.2.1.toNat false == e.2.2.2.1) && ((q_cT e.2.1.toNat e.2.2.1.toNat).2.2.2 == e.2.2.2.2) && (!(decide (e.2.1 = oc)) || decide ((q_cT e.2.1.toNat e.2.2.1.toNat).1 = own))
theorem q_okF_of {own : String} {oc : Int} {LX : List ((Nat × Int × Int × Bool × Bool) × List (Nat × Nat))} (hck : LX.all (fun e => q_ckF own oc e.1 e.2) = true) {Ts : List Cond} (hTs : ∀ w ∈ q_tbl2, w ∈ Ts) : ∀ ix e, q_as (LX.map Prod.fst) ix = some e → q_okF Ts own oc ix e := by
  intro ix e h
  obtain ⟨x, hx⟩ := q_as_x h
  have h1 := List.all_eq_true.mp hck _ hx
  obtain ⟨ci, k, isr, fin⟩ := e
  unfold q_ckF at h1
  simp only [Bool.and_eq_true, decide_eq_true_eq, beq_iff_eq, Bool.or_eq_true, Bool.not_eq_true', decide_eq_false_iff_not] at h1
  obtain ⟨⟨⟨⟨⟨⟨⟨g1, g2⟩, g3⟩, g4⟩, g5⟩, g6⟩, g7⟩, g8⟩ := h1
  refine ⟨ci.toNat, k.toNat, q_cNN ci.toNat, q_cN ci.toNat, q_cT ci.toNat, by dsimp only; omega, by dsimp only; omega, q_ClA hTs _ (by omega), g4, g6, g7, fun he => ?_, hTs _ (q_ck_in g5)⟩
  exact g8.resolve_left (fun hn => hn (by rw [← he]; omega))
def q_ckK (own : String) (e : Nat × qV) (x : List (Nat × Nat)) : Bool := match e.2 with
  | .inl a => decide (-2147483648 ≤ a) && decide (a ≤ 2147483647) && q_ck (q_ix x 0) (Jvm.Cond.constant own e.1 (Int32.ofInt a))
  | .inr (.inl a) => decide (-9223372036854775808 ≤ a) && decide (a ≤ 9223372036854775807) && q_ck (q_ix x 0) (Jvm.Cond.constantLong own e.1 (Int64.ofInt a))
  | .inr (.inr a) => decide (a = -2) && Nat.beq e.1 66 && decide (own = "SlipDrawer$Tokens")
theorem q_okK_of {own : String} {LX : List ((Nat × qV) × List (Nat × Nat))} (hck : LX.all (fun e => q_ckK own e.1 e.2) = true) {Ts : List Cond} (hTs : ∀ w ∈ q_tbl2, w ∈ Ts) {z : Nat × Nat × Nat} {s : State} (hS : vk_R "SlipDrawer$Tokens" 66 q_text z.2.1 s) : ∀ ix v, q_as (LX.map Prod.fst) ix = some v → q_okK Ts own ix v (vk_R own ix q_text z.2.1 s) := by
  intro ix v h
  obtain ⟨x, hx⟩ := q_as_x h
  have h1 := List.all_eq_true.mp hck _ hx
  unfold q_ckK at h1
  unfold q_okK
  rcases v with a | a | a
  · simp only [Bool.and_eq_true, decide_eq_true_eq] at h1
    exact ⟨h1.1, hTs _ (q_ck_in h1.2)⟩
  · simp only [Bool.and_eq_true, decide_eq_true_eq] at h1
    exact ⟨h1.1, hTs _ (q_ck_in h1.2)⟩
  · simp only [Bool.and_eq_true, decide_eq_true_eq] at h1
    have h2 : ix = 66 := Nat.eq_of_beq_eq_true h1.1.2
    rw [h2, h1.2]
    exact ⟨h1.1.1, hS⟩
def q_ckN (own : String) (e : Nat × Int) (x : List (Nat × Nat)) : Bool :=
  bif decide (e.2 = 20) then q_ck (q_ix x 0) (Cond.classLink own e.1 ("[" ++ (FieldType.array .int).toString)) else (decide (0 ≤ e.2) && decide (e.2 < 12) && q_ck (q_ix x 0) (Cond.classLink own e.1 (q_cN e.2.toNat)) && q_ck (q_ix x 1) (Cond.instantiable (q_cN e.2.toNat) (q_cNN e.2.toNat)) && q_ck (q_ix x 2) (Cond.initialized (q_cN e.2.toNat)) && (!(q_akb e.2) || decide (q_cN e.2.toNat = q_aC e.2)))
theorem q_okN_of {own : String} {LX : List ((Nat × Int) × List (Nat × Nat))} (hck : LX.all (fun e => q_ckN own e.1 e.2) = true) {Ts : List Cond} (hTs : ∀ w ∈ q_tbl2, w ∈ Ts) : ∀ ix ci, q_as (LX.map Prod.fst) ix = some ci → q_okN Ts own ix ci := by
  intro ix ci h
  obtain ⟨x, hx⟩ := q_as_x h
  have h1 := List.all_eq_true.mp hck _ hx
  unfold q_ckN at h1
  dsimp only at h1
  by_cases h20 : ci = 20
  · rw [decide_eq_true h20] at h1
    exact ⟨fun hr => absurd h20 (by omega), fun _ => hTs _ (q_ck_in h1)⟩
  · rw [decide_eq_false h20] at h1
    simp only [cond_false, Bool.and_eq_true, decide_eq_true_eq, Bool.or_eq_true, Bool.not_eq_true'] at h1
    obtain ⟨⟨⟨⟨⟨g1, g2⟩, g3⟩, g4⟩, g5⟩, g6⟩ := h1
    refine ⟨fun _ => ⟨ci.toNat, q_cNN ci.toNat, q_cN ci.toNat, q_cT ci.toNat, by omega, q_ClA hTs _ (by omega), hTs _ (q_ck_in g3), hTs _ (q_ck_in g4), hTs _ (q_ck_in g5), fun hb => ?_⟩, fun he => absurd he h20⟩
    exact g6.resolve_left (by rw [hb]; decide)
/-- x: the link; the code; initialized; instanceMethod or static; selects -/
def q_ckG (own : String) (e : Nat × qCl) (x : List (Nat × Nat)) : Bool :=
  bif Nat.ble 1000 e.2.1 then true else
  (Nat.blt e.2.1 264 && (q_ck (q_ix x 0) (Cond.methodLink own e.1 (q_y e.2.1)) || q_ck (q_ix x 0) (Cond.methodLinkNest own e.1 (q_y e.2.1) "SlipDrawer")) && q_ck (q_ix x 2) (Cond.initialized (q_y e.2.1).cls) && decide ((q_y e.2.1).cls ≠ "java/lang/invoke/MethodHandle") && decide ((q_y e.2.1).cls ≠ "java/lang/invoke/VarHandle") && Nat.beq e.2.2.2.2.2.2.2 (q_nl e.2.1) && Nat.ble (q_nl e.2.1) 40 && Nat.beq e.2.2.2.2.1 (q_Pr e.2.1).2.2.2.2.2.2.1 && Nat.beq e.2.2.2.2.2.1 (q_Pr e.2.1).2.2.2.2.2.2.2.1 && Nat.beq e.2.2.2.2.2.2.1 (q_Pr e.2.1).2.2.2.2.2.2.2.2 && (!(Nat.beq e.2.2.2.2.2.1 0) || Nat.beq e.2.2.2.2.2.2.1 0) &&
  (match q_knd e.2.1 with
    | 0 => !(Nat.beq e.2.2.1 0) && decide ((parseMethodDescriptor (q_y e.2.1).desc).map (fun d => d.parameters.length) = some (e.2.2.1 - 1)) && q_ck (q_ix x 3) (Cond.instanceMethod (q_y e.2.1)) && q_ck (q_ix x 4) (Cond.selects (q_y e.2.1).cls (q_y e.2.1) (q_y e.2.1)) && decide (0 ≤ e.2.2.2.1) && decide (e.2.2.2.1 < 12) && decide ((q_y e.2.1).cls = q_cN e.2.2.2.1.toNat)
    | 1 => decide ((parseMethodDescriptor (q_y e.2.1).desc).map (fun d => d.parameters.length) = some e.2.2.1) && q_ck (q_ix x 3) (Cond.static (q_y e.2.1))
    | 2 => !(Nat.beq e.2.2.1 0) && decide ((parseMethodDescriptor (q_y e.2.1).desc).map (fun d => d.parameters.length) = some (e.2.2.1 - 1)) && q_ck (q_ix x 3) (Cond.instanceMethod (q_y e.2.1)) && decide ((q_y e.2.1).name = "<init>") && decide (q_rtt e.2.1 = none) && decide (0 ≤ e.2.2.2.1) && decide (e.2.2.2.1 < 12)
    | _ => false))
theorem q_okG_of {own : String} {LX : List ((Nat × qCl) × List (Nat × Nat))} (hck : LX.all (fun e => q_ckG own e.1 e.2) = true) (hcode : ∀ y, y < 264 → Cond.code (q_y y) (q_b y) (q_nl y) (q_rtt y) ∈ q_tbl) {Ts : List Cond} (hTs : ∀ w ∈ q_tbl2, w ∈ Ts) : ∀ ix cl, q_as (LX.map Prod.fst) ix = some cl → q_okG Ts own q_y q_b q_nl q_rtt q_ws q_Pr 264 ix cl := by
  intro ix cl h hlt
  obtain ⟨x, hx⟩ := q_as_x h
  have h1 := List.all_eq_true.mp hck _ hx
  unfold q_ckG at h1
  dsimp only at h1
  have hno : Nat.ble 1000 cl.1 = false := by
    cases hbb : Nat.ble 1000 cl.1 with
    | false => rfl
    | true => have := Nat.le_of_ble_eq_true hbb; omega
  rw [hno, cond_false, Bool.and_eq_true, Bool.and_eq_true, Bool.and_eq_true, Bool.and_eq_true, Bool.and_eq_true, Bool.and_eq_true, Bool.and_eq_true, Bool.and_eq_true, Bool.and_eq_true, Bool.and_eq_true, Bool.and_eq_true] at h1
  obtain ⟨⟨⟨⟨⟨⟨⟨⟨⟨⟨⟨g1, g2⟩, g4⟩, g5⟩, g6⟩, g7⟩, g8⟩, g9⟩, g10⟩, g11⟩, g12⟩, g13⟩ := h1
  have g3 := hcode cl.1 (Nat.le_of_ble_eq_true g1)
  rw [Bool.or_eq_true] at g2 g12
  refine ⟨Nat.le_of_ble_eq_true g1, fun w hw => ?_, rfl, hTs _ (q_ck_in g4), ⟨of_decide_eq_true g5, of_decide_eq_true g6⟩, Nat.eq_of_beq_eq_true g7, Nat.le_of_ble_eq_true g8, Nat.eq_of_beq_eq_true g9, Nat.eq_of_beq_eq_true g10, Nat.eq_of_beq_eq_true g11, fun h0 => ?_, ?_, fun hk => ?_, fun hk => ?_, fun hk => ?_⟩
  · rcases List.mem_cons.mp hw with e | e
    · rw [e]
      exact ⟨hTs _ (List.mem_append_left _ g3), (q_good 0 g3).2⟩
    · exact ⟨hTs _ (List.mem_append_left _ e), (q_good 0 e).2⟩
  · rcases g12 with g | g
    · rw [h0] at g
      cases g
    · exact Nat.eq_of_beq_eq_true g
  · rcases g2 with g | g
    · exact Or.inl (hTs _ (q_ck_in g))
    · exact Or.inr (hTs _ (q_ck_in g))
  · rw [hk] at g13
    simp only [Bool.and_eq_true, decide_eq_true_eq, Bool.not_eq_true'] at g13
    obtain ⟨⟨⟨⟨⟨⟨k1, k2⟩, k3⟩, k4⟩, k5⟩, k6⟩, k7⟩ := g13
    have hC := q_ClA hTs cl.2.2.1.toNat (by omega)
    refine ⟨(fun h0 => by rw [h0] at k1; cases k1), k2, hTs _ (q_ck_in k3), hTs _ (q_ck_in k4), cl.2.2.1.toNat, q_cNN cl.2.2.1.toNat, q_cT cl.2.2.1.toNat, by omega, by omega, ?_⟩
    rw [k7]
    exact hC.2.1
  · rw [hk] at g13
    simp only [Bool.and_eq_true, decide_eq_true_eq] at g13
    exact ⟨g13.1, hTs _ (q_ck_in g13.2)⟩
  · rw [hk] at g13
    simp only [Bool.and_eq_true, decide_eq_true_eq, Bool.not_eq_true'] at g13
    obtain ⟨⟨⟨⟨⟨⟨k1, k2⟩, k3⟩, k4⟩, k5⟩, k6⟩, k7⟩ := g13
    exact ⟨(fun h0 => by rw [h0] at k1; cases k1), k2, hTs _ (q_ck_in k3), ⟨k4, k5⟩, cl.2.2.1.toNat, by omega, by omega⟩
def q_ckP (own : String) (e : Nat × qCl) (x : List (Nat × Nat)) : Bool :=
  (!(Nat.beq e.2.1 1000) || (Nat.beq e.2.2.2.2.1 0 && q_ck (q_ix x 0) (Cond.methodLink own e.1 Lib.objectInit) && q_ck (q_ix x 1) (Cond.instanceMethod Lib.objectInit) && q_ck (q_ix x 2) (Cond.code Lib.objectInit ⟨#[0xb1]⟩ 1 none))) &&
  (!(Nat.beq e.2.1 1001) || (Nat.beq e.2.2.2.2.1 0 && q_ck (q_ix x 0) (Cond.methodLink own e.1 arraycopyName) && q_ck (q_ix x 1) (Cond.native arraycopyName) && q_ck (q_ix x 2) (Cond.static arraycopyName) && q_ck (q_ix x 3) (Cond.initialized "java/lang/System"))) &&
  (!(Nat.beq e.2.1 1004) || (Nat.beq e.2.2.2.2.1 3 && q_ck (q_ix x 0) (Cond.methodLink own e.1 ⟨"[I", "clone", "()Ljava/lang/Object;"⟩) && q_ck (q_ix x 1) (Cond.sameMethod "[I" "java/lang/Object" "clone" "()Ljava/lang/Object;") && q_ck (q_ix x 2) (Cond.native ⟨"java/lang/Object", "clone", "()Ljava/lang/Object;"⟩) && q_ck (q_ix x 3) (Cond.instanceMethod ⟨"java/lang/Object", "clone", "()Ljava/lang/Object;"⟩) && q_ck (q_ix x 4) (Cond.selects "[I" ⟨"[I", "clone", "()Ljava/lang/Object;"⟩ ⟨"java/lang/Object", "clone", "()Ljava/lang/Object;"⟩) && q_ck (q_ix x 5) (Cond.castable "[I" "java/lang/Cloneable")))
theorem q_okP_of {own : String} {LX : List ((Nat × qCl) × List (Nat × Nat))} (hck : LX.all (fun e => q_ckP own e.1 e.2) = true) {Ts : List Cond} (hTs : ∀ w ∈ q_tbl2, w ∈ Ts) : ∀ ix cl, q_as (LX.map Prod.fst) ix = some cl → q_okP Ts own ix cl := by
  intro ix cl h
  obtain ⟨x, hx⟩ := q_as_x h
  have h1 := List.all_eq_true.mp hck _ hx
  unfold q_ckP at h1
  simp only [Bool.and_eq_true, Bool.or_eq_true, Bool.not_eq_true'] at h1
  obtain ⟨⟨h2, h3⟩, h4⟩ := h1
  refine ⟨fun h0 => ?_, fun h0 => ?_, fun h0 => ?_⟩
  · rw [h0] at h2
    obtain ⟨⟨⟨k1, k2⟩, k3⟩, k4⟩ := h2.resolve_left (fun hb => by cases hb)
    exact ⟨Nat.eq_of_beq_eq_true k1, hTs _ (q_ck_in k2), hTs _ (q_ck_in k3), hTs _ (q_ck_in k4)⟩
  · rw [h0] at h3
    obtain ⟨⟨⟨⟨k1, k2⟩, k3⟩, k4⟩, k5⟩ := h3.resolve_left (fun hb => by cases hb)
    exact ⟨Nat.eq_of_beq_eq_true k1, hTs _ (q_ck_in k2), hTs _ (q_ck_in k3), hTs _ (q_ck_in k4), hTs _ (q_ck_in k5)⟩
  · rw [h0] at h4
    obtain ⟨⟨⟨⟨⟨⟨k1, k2⟩, k3⟩, k4⟩, k5⟩, k6⟩, k7⟩ := h4.resolve_left (fun hb => by cases hb)
    exact ⟨Nat.eq_of_beq_eq_true k1, hTs _ (q_ck_in k2), hTs _ (q_ck_in k3), hTs _ (q_ck_in k4), hTs _ (q_ck_in k5), hTs _ (q_ck_in k6), hTs _ (q_ck_in k7)⟩
theorem q_mkTab {Ts : List Cond} (hTs : ∀ w ∈ q_tbl2, w ∈ Ts) {own : String} {cc : ByteArray} {nL cx : Nat} {z : Nat × Nat × Nat} {s : State} {meth : Method} {mt : qMt} (hW : ∀ Ts, (∀ w ∈ q_tbl2, w ∈ Ts) → q_okW Ts)
    (hF : ∀ ix e, mt.2.2.1.1 ix = some e → q_okF Ts own mt.2.2.2.2.1 ix e) (hini : mt.2.2.2.2.2.1 = true → meth.name = "<init>") (hK : ∀ ix v, mt.2.2.1.2.1 ix = some v → q_okK Ts own ix v (vk_R own ix q_text z.2.1 s)) (hN : ∀ ix ci, mt.2.2.1.2.2 ix = some ci → q_okN Ts own ix ci) (hG : ∀ ix cl, mt.2.2.2.1 ix = some cl → q_okG Ts own q_y q_b q_nl q_rtt q_ws q_Pr 264 ix cl) (hP : ∀ ix cl, mt.2.2.2.1 ix = some cl → q_okP Ts own ix cl)
    (hL : mt.1.all (q_ckL mt nL cc cx) = true) (hcx : cx ≠ 0 → Cond.classLink own cx "[I" ∈ q_tbl2) : q_Tab Ts own cc nL z s meth q_y q_b q_nl q_rtt q_ws q_Pr 264 mt := by
  have hall := fun pc i n (h : q_lk mt.1 pc = some (i, n)) => List.all_eq_true.mp hL _ (q_lk_mem h)
  refine ⟨hW _ hTs, hF, hini, hK, hN, fun pc ix n h => ?_, fun ix cl h => ⟨hG ix cl h, hP ix cl h⟩, fun pc i n h => ?_⟩
  · have := hall _ _ _ h
    unfold q_ckL at this
    simp only [Bool.and_eq_true, Bool.not_eq_true'] at this
    have e1 : ix = cx := Nat.eq_of_beq_eq_true this.2.1
    rw [e1]
    refine hTs _ (hcx (fun h0 => ?_))
    have := this.2.2
    rw [h0] at this
    cases this
  · have := hall _ _ _ h
    unfold q_ckL at this
    rw [Bool.and_eq_true, Bool.and_eq_true, decide_eq_true_eq] at this
    exact this.1
theorem q_in_ws (y : Nat) : ∀ w ∈ q_tbl2, w ∈ q_ws y ++ q_bad := fun w h => (List.mem_append.mp h).elim (fun g => List.mem_append_left _ (List.mem_cons_of_mem _ g)) (fun g => List.mem_append_right _ g)
set_option maxRecDepth 100000 in
theorem q_xF0 : (([((9, 0, 0, true, true), [(1, 103)]), ((15, 0, 1, true, true), [(1, 105)])] : List ((Nat × Int × Int × Bool × Bool) × List (Nat × Nat))).all (fun e => q_ckF "SlipDrawer$Machine" (0) e.1 e.2)) = true := by decide +kernel
theorem q_hF0 {Ts : List Cond} (hTs : ∀ w ∈ q_tbl2, w ∈ Ts) : ∀ ix e, q_F0 ix = some e → q_okF Ts "SlipDrawer$Machine" (0) ix e := fun ix e h => q_okF_of q_xF0 hTs ix e h
set_option maxRecDepth 100000 in
theorem q_xK0 : (([((36, .inr (.inl (-1000000))), [(4, 35)]), ((38, .inr (.inl 1000000)), [(4, 36)])] : List ((Nat × qV) × List (Nat × Nat))).all (fun e => q_ckK "SlipDrawer$Machine" e.1 e.2)) = true := by decide +kernel
theorem q_hK0 {Ts : List Cond} (hTs : ∀ w ∈ q_tbl2, w ∈ Ts) {z : Nat × Nat × Nat} {s : State} (hS : vk_R "SlipDrawer$Tokens" 66 q_text z.2.1 s) : ∀ ix v, q_K0 ix = some v → q_okK Ts "SlipDrawer$Machine" ix v (vk_R "SlipDrawer$Machine" ix q_text z.2.1 s) := fun ix v h => q_okK_of q_xK0 hTs hS ix v h
set_option maxRecDepth 100000 in
theorem q_xN0 : (([] : List ((Nat × Int) × List (Nat × Nat))).all (fun e => q_ckN "SlipDrawer$Machine" e.1 e.2)) = true := by decide +kernel
theorem q_hN0 {Ts : List Cond} (hTs : ∀ w ∈ q_tbl2, w ∈ Ts) : ∀ ix ci, q_N0 ix = some ci → q_okN Ts "SlipDrawer$Machine" ix ci := fun ix ci h => q_okN_of q_xN0 hTs ix ci h
def q_gx0 : List ((Nat × qCl) × List (Nat × Nat)) := [((3, 1000, 1, -1, 0, 0, 0, 100), [(1, 102), (1, 26), (1, 27)]), ((18, 258, 2, -1, 1, 0, 0, 2), [(4, 15), (2, 136), (1, 11), (2, 135)]), ((24, 2, 1, -1, 4, 0, 0, 1), [(4, 16), (4, 18), (1, 4), (4, 17)]), ((28, 3, 2, 0, 1, 0, 0, 2), [(4, 19), (4, 22), (1, 4), (4, 21), (0, 31)]), ((32, 4, 3, -1, 2, 0, 0, 5), [(4, 23), (4, 25), (1, 4), (4, 24)]), ((40, 261, 2, -1, 2, 0, 0, 4), [(4, 29), (4, 31), (1, 11), (4, 30)]), ((44, 259, 2, -1, 2, 0, 0, 4), [(4, 32), (4, 34), (1, 11), (4, 33)]), ((46, 255, 2, -1, 2, 0, 0, 6), [(4, 26), (4, 28), (1, 11), (4, 27)])]
set_option maxRecDepth 100000 in
theorem q_xG0_0 : ((q_gx0).all (fun e => q_ckG "SlipDrawer$Machine" e.1 e.2)) = true := by decide +kernel
theorem q_xG0 : (q_gx0.all (fun e => q_ckG "SlipDrawer$Machine" e.1 e.2)) = true := q_xG0_0
set_option maxRecDepth 100000 in
theorem q_xP0_0 : ((q_gx0).all (fun e => q_ckP "SlipDrawer$Machine" e.1 e.2)) = true := by decide +kernel
theorem q_xP0 : (q_gx0.all (fun e => q_ckP "SlipDrawer$Machine" e.1 e.2)) = true := q_xP0_0
theorem q_hG0 {Ts : List Cond} (hTs : ∀ w ∈ q_tbl2, w ∈ Ts) : ∀ ix cl, q_G0 ix = some cl → q_okG Ts "SlipDrawer$Machine" q_y q_b q_nl q_rtt q_ws q_Pr 264 ix cl := fun ix cl h => q_okG_of q_xG0 q_cwA hTs ix cl h
theorem q_hP0 {Ts : List Cond} (hTs : ∀ w ∈ q_tbl2, w ∈ Ts) : ∀ ix cl, q_G0 ix = some cl → q_okP Ts "SlipDrawer$Machine" ix cl := fun ix cl h => q_okP_of q_xP0 hTs ix cl h
set_option maxRecDepth 100000 in
theorem q_xF1 : (([((9, 1, 12, true, true), [(2, 65)]), ((15, 1, 13, true, true), [(2, 67)]), ((19, 1, 0, true, true), [(2, 45)]), ((23, 1, 1, true, true), [(2, 46)]), ((26, 1, 4, true, true), [(2, 50)]), ((30, 1, 5, true, true), [(2, 52)]), ((33, 1, 6, true, true), [(2, 54)]), ((36, 1, 7, true, true), [(2, 56)]), ((39, 1, 8, true, true), [(2, 58)]), ((42, 1, 9, true, true), [(2, 60)]), ((45, 1, 10, true, true), [(2, 62)]), ((49, 1, 11, true, true), [(2, 63)]), ((54, 1, 14, true, true), [(2, 69)]), ((57, 1, 15, true, true), [(2, 71)]), ((60, 1, 3, false, false), [(2, 48)]), ((68, 9, 9, false, false), [(1, 68)]), ((114, 9, 4, true, true), [(1, 60)]), ((121, 9, 8, true, true), [(1, 66)]), ((144, 6, 1, false, false), [(1, 122)]), ((168, 0, 0, true, true), [(1, 104)]), ((191, 9, 5, true, true), [(1, 62)]), ((197, 9, 3, true, true), [(1, 58)])] : List ((Nat × Int × Int × Bool × Bool) × List (Nat × Nat))).all (fun e => q_ckF "SlipDrawer$Meant" (1) e.1 e.2)) = true := by decide +kernel
theorem q_hF1 {Ts : List Cond} (hTs : ∀ w ∈ q_tbl2, w ∈ Ts) : ∀ ix e, q_F1 ix = some e → q_okF Ts "SlipDrawer$Meant" (1) ix e := fun ix e h => q_okF_of q_xF1 hTs ix e h
set_option maxRecDepth 100000 in
theorem q_xK1 : (([((117, .inr (.inl 37)), [(3, 205)]), ((119, .inr (.inl 27)), [(3, 206)]), ((207, .inr (.inl 1000000)), [(4, 230)])] : List ((Nat × qV) × List (Nat × Nat))).all (fun e => q_ckK "SlipDrawer$Meant" e.1 e.2)) = true := by decide +kernel
theorem q_hK1 {Ts : List Cond} (hTs : ∀ w ∈ q_tbl2, w ∈ Ts) {z : Nat × Nat × Nat} {s : State} (hS : vk_R "SlipDrawer$Tokens" 66 q_text z.2.1 s) : ∀ ix v, q_K1 ix = some v → q_okK Ts "SlipDrawer$Meant" ix v (vk_R "SlipDrawer$Meant" ix q_text z.2.1 s) := fun ix v h => q_okK_of q_xK1 hTs hS ix v h
set_option maxRecDepth 100000 in
theorem q_xN1 : (([((52, 20), [(2, 43)])] : List ((Nat × Int) × List (Nat × Nat))).all (fun e => q_ckN "SlipDrawer$Meant" e.1 e.2)) = true := by decide +kernel
theorem q_hN1 {Ts : List Cond} (hTs : ∀ w ∈ q_tbl2, w ∈ Ts) : ∀ ix ci, q_N1 ix = some ci → q_okN Ts "SlipDrawer$Meant" ix ci := fun ix ci h => q_okN_of q_xN1 hTs ix ci h
def q_gx1 : List ((Nat × qCl) × List (Nat × Nat)) := [((3, 1000, 1, -1, 0, 0, 0, 100), [(2, 42), (1, 26), (1, 27)]), ((64, 10, 4, 1, 0, 0, 0, 4), [(3, 139), (3, 142), (1, 9), (3, 141), (0, 22)]), ((71, 9, 4, 1, 4, 0, 0, 5), [(3, 143), (3, 146), (1, 9), (3, 145), (0, 23)]), ((75, 91, 3, 9, 4, 0, 0, 3), [(3, 147), (3, 150), (1, 3), (3, 148), (3, 149)]), ((79, 92, 3, 9, 4, 0, 0, 3), [(3, 151), (3, 154), (1, 3), (3, 152), (3, 153)]), ((82, 93, 3, 9, 4, 0, 0, 3), [(3, 155), (3, 158), (1, 3), (3, 156), (3, 157)]), ((85, 95, 3, 9, 4, 0, 0, 8), [(3, 163), (3, 166), (1, 3), (3, 164), (3, 165)]), ((88, 94, 2, 9, 4, 0, 0, 2), [(3, 168), (3, 171), (1, 3), (3, 169), (3, 170)]), ((92, 11, 3, 1, 1, 0, 0, 5), [(3, 176), (3, 179), (1, 9), (3, 178), (0, 24)]), ((96, 12, 3, 1, 1, 0, 0, 5), [(3, 180), (3, 183), (1, 9), (3, 182), (0, 25)]), ((99, 90, 4, 9, 1, 0, 0, 8), [(3, 184), (3, 187), (1, 3), (3, 185), (3, 186)]), ((103, 14, 3, 1, 0, 0, 0, 4), [(3, 193), (3, 196), (1, 9), (3, 195), (0, 26)]), ((107, 15, 2, 1, 2, 0, 0, 9), [(3, 201), (3, 204), (1, 9), (3, 203), (0, 27)]), ((111, 88, 3, 9, 1, 0, 0, 6), [(3, 197), (3, 200), (1, 3), (3, 198), (3, 199)]), ((124, 85, 3, 9, 1, 0, 0, 4), [(3, 207), (3, 162), (1, 3), (3, 160), (3, 161)]), ((127, 86, 3, 9, 2, 0, 0, 5), [(3, 208), (2, 13), (1, 3), (2, 11), (2, 12)]), ((131, 262, 2, -1, 0, 0, 0, 4), [(3, 213), (3, 215), (1, 10), (3, 214)]), ((137, 17, 3, 1, 4, 0, 0, 4), [(3, 216), (3, 219), (1, 9), (3, 218), (0, 28)]), ((140, 89, 5, 9, 4, 0, 0, 7), [(3, 220), (3, 223), (1, 3), (3, 221), (3, 222)]), ((149, 59, 2, 6, 0, 0, 0, 2), [(4, 63), (4, 66), (1, 5), (4, 64), (4, 65)]), ((153, 87, 4, 9, 1, 0, 0, 5), [(4, 67), (3, 192), (1, 3), (3, 190), (3, 191)]), ((156, 58, 2, 6, 1, 0, 0, 2), [(4, 120), (4, 101), (1, 5), (4, 99), (4, 100)]), ((160, 63, 1, 6, 2, 0, 0, 4), [(4, 111), (4, 114), (1, 5), (4, 112), (4, 113)]), ((164, 19, 3, 1, 4, 0, 0, 9), [(4, 116), (4, 119), (1, 9), (4, 118), (0, 34)]), ((173, 24, 3, 1, 0, 0, 0, 6), [(4, 0), (4, 3), (1, 9), (4, 2), (0, 30)]), ((177, 56, 3, 5, 1, 0, 0, 4), [(4, 7), (4, 10), (1, 14), (4, 8), (4, 9)]), ((183, 260, 2, -1, 1, 0, 0, 2), [(4, 37), (2, 35), (1, 11), (2, 34)]), ((188, 258, 2, -1, 1, 0, 0, 2), [(4, 38), (2, 136), (1, 11), (2, 135)]), ((194, 256, 1, -1, 1, 0, 0, 1), [(4, 4), (4, 6), (1, 11), (4, 5)]), ((200, 20, 2, 1, 1, 0, 0, 5), [(4, 133), (4, 110), (1, 9), (4, 108), (4, 109)]), ((204, 257, 1, -1, 2, 0, 0, 2), [(4, 227), (4, 229), (1, 11), (4, 228)])]
set_option maxRecDepth 100000 in
theorem q_xG1_0 : (((q_gx1).take 20).all (fun e => q_ckG "SlipDrawer$Meant" e.1 e.2)) = true := by decide +kernel
set_option maxRecDepth 100000 in
theorem q_xG1_1 : (((q_gx1).drop 20).all (fun e => q_ckG "SlipDrawer$Meant" e.1 e.2)) = true := by decide +kernel
theorem q_xG1 : (q_gx1.all (fun e => q_ckG "SlipDrawer$Meant" e.1 e.2)) = true := q_sp 20 q_xG1_0 (q_xG1_1)
set_option maxRecDepth 100000 in
theorem q_xP1_0 : (((q_gx1).take 20).all (fun e => q_ckP "SlipDrawer$Meant" e.1 e.2)) = true := by decide +kernel
set_option maxRecDepth 100000 in
theorem q_xP1_1 : (((q_gx1).drop 20).all (fun e => q_ckP "SlipDrawer$Meant" e.1 e.2)) = true := by decide +kernel
theorem q_xP1 : (q_gx1.all (fun e => q_ckP "SlipDrawer$Meant" e.1 e.2)) = true := q_sp 20 q_xP1_0 (q_xP1_1)
theorem q_hG1 {Ts : List Cond} (hTs : ∀ w ∈ q_tbl2, w ∈ Ts) : ∀ ix cl, q_G1 ix = some cl → q_okG Ts "SlipDrawer$Meant" q_y q_b q_nl q_rtt q_ws q_Pr 264 ix cl := fun ix cl h => q_okG_of q_xG1 q_cwA hTs ix cl h
theorem q_hP1 {Ts : List Cond} (hTs : ∀ w ∈ q_tbl2, w ∈ Ts) : ∀ ix cl, q_G1 ix = some cl → q_okP Ts "SlipDrawer$Meant" ix cl := fun ix cl h => q_okP_of q_xP1 hTs ix cl h
set_option maxRecDepth 100000 in
theorem q_xF2 : (([((9, 2, 0, true, true), [(1, 137)]), ((17, 2, 1, true, true), [(1, 140)]), ((22, 2, 2, false, false), [(1, 143)])] : List ((Nat × Int × Int × Bool × Bool) × List (Nat × Nat))).all (fun e => q_ckF "SlipDrawer$Notes" (2) e.1 e.2)) = true := by decide +kernel
theorem q_hF2 {Ts : List Cond} (hTs : ∀ w ∈ q_tbl2, w ∈ Ts) : ∀ ix e, q_F2 ix = some e → q_okF Ts "SlipDrawer$Notes" (2) ix e := fun ix e h => q_okF_of q_xF2 hTs ix e h
set_option maxRecDepth 100000 in
theorem q_xK2 : (([] : List ((Nat × qV) × List (Nat × Nat))).all (fun e => q_ckK "SlipDrawer$Notes" e.1 e.2)) = true := by decide +kernel
theorem q_hK2 {Ts : List Cond} (hTs : ∀ w ∈ q_tbl2, w ∈ Ts) {z : Nat × Nat × Nat} {s : State} (hS : vk_R "SlipDrawer$Tokens" 66 q_text z.2.1 s) : ∀ ix v, q_K2 ix = some v → q_okK Ts "SlipDrawer$Notes" ix v (vk_R "SlipDrawer$Notes" ix q_text z.2.1 s) := fun ix v h => q_okK_of q_xK2 hTs hS ix v h
set_option maxRecDepth 100000 in
theorem q_xN2 : (([((15, 6), [(1, 134), (1, 112), (1, 5)])] : List ((Nat × Int) × List (Nat × Nat))).all (fun e => q_ckN "SlipDrawer$Notes" e.1 e.2)) = true := by decide +kernel
theorem q_hN2 {Ts : List Cond} (hTs : ∀ w ∈ q_tbl2, w ∈ Ts) : ∀ ix ci, q_N2 ix = some ci → q_okN Ts "SlipDrawer$Notes" ix ci := fun ix ci h => q_okN_of q_xN2 hTs ix ci h
def q_gx2 : List ((Nat × qCl) × List (Nat × Nat)) := [((3, 1000, 1, -1, 0, 0, 0, 100), [(1, 133), (1, 26), (1, 27)]), ((21, 57, 1, 6, 0, 1, 100, 1), [(1, 136), (1, 115), (1, 5), (1, 114)]), ((26, 60, 2, 6, 0, 0, 0, 2), [(4, 169), (4, 172), (1, 5), (4, 170), (4, 171)]), ((30, 66, 2, 7, 1, 0, 0, 2), [(5, 40), (1, 232), (1, 2), (1, 230), (1, 231)]), ((36, 260, 2, -1, 1, 0, 0, 2), [(5, 41), (2, 35), (1, 11), (2, 34)]), ((42, 258, 2, -1, 1, 0, 0, 2), [(5, 42), (2, 136), (1, 11), (2, 135)]), ((45, 62, 4, 6, 0, 0, 0, 5), [(5, 43), (4, 92), (1, 5), (4, 90), (4, 91)])]
set_option maxRecDepth 100000 in
theorem q_xG2_0 : ((q_gx2).all (fun e => q_ckG "SlipDrawer$Notes" e.1 e.2)) = true := by decide +kernel
theorem q_xG2 : (q_gx2.all (fun e => q_ckG "SlipDrawer$Notes" e.1 e.2)) = true := q_xG2_0
set_option maxRecDepth 100000 in
theorem q_xP2_0 : ((q_gx2).all (fun e => q_ckP "SlipDrawer$Notes" e.1 e.2)) = true := by decide +kernel
theorem q_xP2 : (q_gx2.all (fun e => q_ckP "SlipDrawer$Notes" e.1 e.2)) = true := q_xP2_0
theorem q_hG2 {Ts : List Cond} (hTs : ∀ w ∈ q_tbl2, w ∈ Ts) : ∀ ix cl, q_G2 ix = some cl → q_okG Ts "SlipDrawer$Notes" q_y q_b q_nl q_rtt q_ws q_Pr 264 ix cl := fun ix cl h => q_okG_of q_xG2 q_cwA hTs ix cl h
theorem q_hP2 {Ts : List Cond} (hTs : ∀ w ∈ q_tbl2, w ∈ Ts) : ∀ ix cl, q_G2 ix = some cl → q_okP Ts "SlipDrawer$Notes" ix cl := fun ix cl h => q_okP_of q_xP2 hTs ix cl h
set_option maxRecDepth 100000 in
theorem q_xF3 : (([((9, 3, 0, true, true), [(1, 159)]), ((15, 3, 1, false, false), [(1, 161)]), ((19, 2, 2, false, false), [(1, 144)]), ((28, 2, 1, true, true), [(1, 141)]), ((32, 2, 0, true, true), [(1, 138)]), ((36, 6, 1, false, false), [(1, 120)]), ((39, 6, 0, true, true), [(1, 118)]), ((52, 7, 1, false, false), [(1, 40)])] : List ((Nat × Int × Int × Bool × Bool) × List (Nat × Nat))).all (fun e => q_ckF "SlipDrawer$Picture" (3) e.1 e.2)) = true := by decide +kernel
theorem q_hF3 {Ts : List Cond} (hTs : ∀ w ∈ q_tbl2, w ∈ Ts) : ∀ ix e, q_F3 ix = some e → q_okF Ts "SlipDrawer$Picture" (3) ix e := fun ix e h => q_okF_of q_xF3 hTs ix e h
set_option maxRecDepth 100000 in
theorem q_xK3 : (([] : List ((Nat × qV) × List (Nat × Nat))).all (fun e => q_ckK "SlipDrawer$Picture" e.1 e.2)) = true := by decide +kernel
theorem q_hK3 {Ts : List Cond} (hTs : ∀ w ∈ q_tbl2, w ∈ Ts) {z : Nat × Nat × Nat} {s : State} (hS : vk_R "SlipDrawer$Tokens" 66 q_text z.2.1 s) : ∀ ix v, q_K3 ix = some v → q_okK Ts "SlipDrawer$Picture" ix v (vk_R "SlipDrawer$Picture" ix q_text z.2.1 s) := fun ix v h => q_okK_of q_xK3 hTs hS ix v h
set_option maxRecDepth 100000 in
theorem q_xN3 : (([] : List ((Nat × Int) × List (Nat × Nat))).all (fun e => q_ckN "SlipDrawer$Picture" e.1 e.2)) = true := by decide +kernel
theorem q_hN3 {Ts : List Cond} (hTs : ∀ w ∈ q_tbl2, w ∈ Ts) : ∀ ix ci, q_N3 ix = some ci → q_okN Ts "SlipDrawer$Picture" ix ci := fun ix ci h => q_okN_of q_xN3 hTs ix ci h
def q_gx3 : List ((Nat × qCl) × List (Nat × Nat)) := [((3, 1000, 1, -1, 0, 0, 0, 100), [(1, 158), (1, 26), (1, 27)]), ((24, 38, 2, 3, 0, 0, 0, 2), [(5, 19), (5, 22), (1, 7), (5, 21), (0, 37)]), ((42, 66, 2, 7, 1, 0, 0, 2), [(5, 34), (1, 232), (1, 2), (1, 230), (1, 231)]), ((48, 61, 3, -1, 4, 0, 0, 4), [(5, 35), (4, 86), (1, 5), (4, 85)])]
set_option maxRecDepth 100000 in
theorem q_xG3_0 : ((q_gx3).all (fun e => q_ckG "SlipDrawer$Picture" e.1 e.2)) = true := by decide +kernel
theorem q_xG3 : (q_gx3.all (fun e => q_ckG "SlipDrawer$Picture" e.1 e.2)) = true := q_xG3_0
set_option maxRecDepth 100000 in
theorem q_xP3_0 : ((q_gx3).all (fun e => q_ckP "SlipDrawer$Picture" e.1 e.2)) = true := by decide +kernel
theorem q_xP3 : (q_gx3.all (fun e => q_ckP "SlipDrawer$Picture" e.1 e.2)) = true := q_xP3_0
theorem q_hG3 {Ts : List Cond} (hTs : ∀ w ∈ q_tbl2, w ∈ Ts) : ∀ ix cl, q_G3 ix = some cl → q_okG Ts "SlipDrawer$Picture" q_y q_b q_nl q_rtt q_ws q_Pr 264 ix cl := fun ix cl h => q_okG_of q_xG3 q_cwA hTs ix cl h
theorem q_hP3 {Ts : List Cond} (hTs : ∀ w ∈ q_tbl2, w ∈ Ts) : ∀ ix cl, q_G3 ix = some cl → q_okP Ts "SlipDrawer$Picture" ix cl := fun ix cl h => q_okP_of q_xP3 hTs ix cl h
set_option maxRecDepth 100000 in
theorem q_xF4 : (([((9, 4, 2, false, false), [(2, 187)]), ((17, 7, 1, false, false), [(1, 36)]), ((25, 4, 0, true, true), [(2, 183)]), ((34, 4, 3, true, true), [(2, 189)]), ((41, 8, 1, true, true), [(2, 169)]), ((44, 4, 5, false, false), [(2, 191)]), ((47, 4, 1, false, false), [(2, 185)]), ((56, 8, 2, true, true), [(2, 171)]), ((59, 4, 4, false, false), [(2, 190)]), ((62, 8, 3, false, false), [(2, 173)]), ((72, 5, 1, false, false), [(2, 139)])] : List ((Nat × Int × Int × Bool × Bool) × List (Nat × Nat))).all (fun e => q_ckF "SlipDrawer$Reader" (4) e.1 e.2)) = true := by decide +kernel
theorem q_hF4 {Ts : List Cond} (hTs : ∀ w ∈ q_tbl2, w ∈ Ts) : ∀ ix e, q_F4 ix = some e → q_okF Ts "SlipDrawer$Reader" (4) ix e := fun ix e h => q_okF_of q_xF4 hTs ix e h
set_option maxRecDepth 100000 in
theorem q_xK4 : (([] : List ((Nat × qV) × List (Nat × Nat))).all (fun e => q_ckK "SlipDrawer$Reader" e.1 e.2)) = true := by decide +kernel
theorem q_hK4 {Ts : List Cond} (hTs : ∀ w ∈ q_tbl2, w ∈ Ts) {z : Nat × Nat × Nat} {s : State} (hS : vk_R "SlipDrawer$Tokens" 66 q_text z.2.1 s) : ∀ ix v, q_K4 ix = some v → q_okK Ts "SlipDrawer$Reader" ix v (vk_R "SlipDrawer$Reader" ix q_text z.2.1 s) := fun ix v h => q_okK_of q_xK4 hTs hS ix v h
set_option maxRecDepth 100000 in
theorem q_xN4 : (([((15, 5), [(2, 128), (2, 129), (1, 14)]), ((29, 8), [(2, 161), (2, 162), (1, 15)])] : List ((Nat × Int) × List (Nat × Nat))).all (fun e => q_ckN "SlipDrawer$Reader" e.1 e.2)) = true := by decide +kernel
theorem q_hN4 {Ts : List Cond} (hTs : ∀ w ∈ q_tbl2, w ∈ Ts) : ∀ ix ci, q_N4 ix = some ci → q_okN Ts "SlipDrawer$Reader" ix ci := fun ix ci h => q_okN_of q_xN4 hTs ix ci h
def q_gx4 : List ((Nat × qCl) × List (Nat × Nat)) := [((3, 1000, 1, -1, 0, 0, 0, 100), [(2, 127), (1, 26), (1, 27)]), ((22, 53, 2, 5, 0, 5, 2180, 2), [(2, 130), (2, 132), (1, 14), (2, 131)]), ((31, 70, 2, 8, 0, 2, 4202, 2), [(2, 163), (2, 165), (1, 15), (2, 164)]), ((38, 71, 1, 8, 0, 0, 0, 7), [(2, 209), (2, 212), (1, 15), (2, 210), (2, 211)]), ((50, 46, 1, 4, 0, 0, 0, 4), [(3, 56), (3, 59), (1, 13), (3, 58), (0, 9)]), ((53, 42, 2, 4, 0, 0, 0, 2), [(3, 63), (3, 66), (1, 13), (3, 65), (0, 10)]), ((65, 43, 1, 4, 0, 0, 0, 1), [(3, 67), (3, 70), (1, 13), (3, 69), (0, 11)]), ((68, 134, 1, -1, 4, 0, 0, 1), [(3, 60), (3, 62), (1, 1), (3, 61)]), ((73, 50, 2, 4, 0, 0, 0, 4), [(3, 71), (3, 74), (1, 13), (3, 73), (0, 12)]), ((76, 44, 2, 4, 0, 0, 0, 2), [(3, 91), (3, 94), (1, 13), (3, 93), (0, 16)]), ((79, 47, 2, 4, 0, 0, 0, 3), [(3, 95), (3, 98), (1, 13), (3, 97), (0, 17)]), ((82, 55, 4, 5, 0, 0, 0, 4), [(3, 107), (3, 110), (1, 14), (3, 108), (3, 109)]), ((86, 48, 2, 4, 0, 0, 0, 3), [(3, 99), (3, 102), (1, 13), (3, 101), (0, 18)]), ((89, 54, 2, 5, 0, 0, 0, 2), [(3, 83), (3, 86), (1, 14), (3, 84), (3, 85)]), ((92, 49, 2, 4, 0, 0, 0, 3), [(3, 103), (3, 106), (1, 13), (3, 105), (0, 19)]), ((95, 45, 3, 4, 0, 0, 0, 3), [(3, 87), (3, 90), (1, 13), (3, 89), (0, 15)]), ((99, 51, 2, 4, 0, 0, 0, 4), [(3, 75), (3, 78), (1, 13), (3, 77), (0, 13)]), ((102, 52, 2, 4, 0, 0, 0, 3), [(3, 79), (3, 82), (1, 13), (3, 81), (0, 14)])]
set_option maxRecDepth 100000 in
theorem q_xG4_0 : ((q_gx4).all (fun e => q_ckG "SlipDrawer$Reader" e.1 e.2)) = true := by decide +kernel
theorem q_xG4 : (q_gx4.all (fun e => q_ckG "SlipDrawer$Reader" e.1 e.2)) = true := q_xG4_0
set_option maxRecDepth 100000 in
theorem q_xP4_0 : ((q_gx4).all (fun e => q_ckP "SlipDrawer$Reader" e.1 e.2)) = true := by decide +kernel
theorem q_xP4 : (q_gx4.all (fun e => q_ckP "SlipDrawer$Reader" e.1 e.2)) = true := q_xP4_0
theorem q_hG4 {Ts : List Cond} (hTs : ∀ w ∈ q_tbl2, w ∈ Ts) : ∀ ix cl, q_G4 ix = some cl → q_okG Ts "SlipDrawer$Reader" q_y q_b q_nl q_rtt q_ws q_Pr 264 ix cl := fun ix cl h => q_okG_of q_xG4 q_cwA hTs ix cl h
theorem q_hP4 {Ts : List Cond} (hTs : ∀ w ∈ q_tbl2, w ∈ Ts) : ∀ ix cl, q_G4 ix = some cl → q_okP Ts "SlipDrawer$Reader" ix cl := fun ix cl h => q_okP_of q_xP4 hTs ix cl h
set_option maxRecDepth 100000 in
theorem q_xF5 : (([((9, 5, 2, true, true), [(2, 140)]), ((15, 5, 3, true, true), [(2, 141)]), ((18, 5, 4, true, true), [(2, 142)]), ((21, 5, 5, true, true), [(2, 143)]), ((30, 5, 0, true, true), [(2, 137)]), ((33, 5, 1, false, false), [(2, 138)]), ((37, 5, 6, false, false), [(2, 144)])] : List ((Nat × Int × Int × Bool × Bool) × List (Nat × Nat))).all (fun e => q_ckF "SlipDrawer$Script" (5) e.1 e.2)) = true := by decide +kernel
theorem q_hF5 {Ts : List Cond} (hTs : ∀ w ∈ q_tbl2, w ∈ Ts) : ∀ ix e, q_F5 ix = some e → q_okF Ts "SlipDrawer$Script" (5) ix e := fun ix e h => q_okF_of q_xF5 hTs ix e h
set_option maxRecDepth 100000 in
theorem q_xK5 : (([] : List ((Nat × qV) × List (Nat × Nat))).all (fun e => q_ckK "SlipDrawer$Script" e.1 e.2)) = true := by decide +kernel
theorem q_hK5 {Ts : List Cond} (hTs : ∀ w ∈ q_tbl2, w ∈ Ts) {z : Nat × Nat × Nat} {s : State} (hS : vk_R "SlipDrawer$Tokens" 66 q_text z.2.1 s) : ∀ ix v, q_K5 ix = some v → q_okK Ts "SlipDrawer$Script" ix v (vk_R "SlipDrawer$Script" ix q_text z.2.1 s) := fun ix v h => q_okK_of q_xK5 hTs hS ix v h
set_option maxRecDepth 100000 in
theorem q_xN5 : (([] : List ((Nat × Int) × List (Nat × Nat))).all (fun e => q_ckN "SlipDrawer$Script" e.1 e.2)) = true := by decide +kernel
theorem q_hN5 {Ts : List Cond} (hTs : ∀ w ∈ q_tbl2, w ∈ Ts) : ∀ ix ci, q_N5 ix = some ci → q_okN Ts "SlipDrawer$Script" ix ci := fun ix ci h => q_okN_of q_xN5 hTs ix ci h
def q_gx5 : List ((Nat × qCl) × List (Nat × Nat)) := [((3, 1000, 1, -1, 0, 0, 0, 100), [(2, 133), (1, 26), (1, 27)]), ((24, 258, 2, -1, 1, 0, 0, 2), [(2, 134), (2, 136), (1, 11), (2, 135)]), ((40, 1, 4, 0, 1, 0, 0, 9), [(4, 11), (4, 14), (1, 4), (4, 12), (4, 13)])]
set_option maxRecDepth 100000 in
theorem q_xG5_0 : ((q_gx5).all (fun e => q_ckG "SlipDrawer$Script" e.1 e.2)) = true := by decide +kernel
theorem q_xG5 : (q_gx5.all (fun e => q_ckG "SlipDrawer$Script" e.1 e.2)) = true := q_xG5_0
set_option maxRecDepth 100000 in
theorem q_xP5_0 : ((q_gx5).all (fun e => q_ckP "SlipDrawer$Script" e.1 e.2)) = true := by decide +kernel
theorem q_xP5 : (q_gx5.all (fun e => q_ckP "SlipDrawer$Script" e.1 e.2)) = true := q_xP5_0
theorem q_hG5 {Ts : List Cond} (hTs : ∀ w ∈ q_tbl2, w ∈ Ts) : ∀ ix cl, q_G5 ix = some cl → q_okG Ts "SlipDrawer$Script" q_y q_b q_nl q_rtt q_ws q_Pr 264 ix cl := fun ix cl h => q_okG_of q_xG5 q_cwA hTs ix cl h
theorem q_hP5 {Ts : List Cond} (hTs : ∀ w ∈ q_tbl2, w ∈ Ts) : ∀ ix cl, q_G5 ix = some cl → q_okP Ts "SlipDrawer$Script" ix cl := fun ix cl h => q_okP_of q_xP5 hTs ix cl h
set_option maxRecDepth 100000 in
theorem q_xF6 : (([((9, 6, 0, true, true), [(1, 117)]), ((15, 6, 1, false, false), [(1, 119)])] : List ((Nat × Int × Int × Bool × Bool) × List (Nat × Nat))).all (fun e => q_ckF "SlipDrawer$Speech" (6) e.1 e.2)) = true := by decide +kernel
theorem q_hF6 {Ts : List Cond} (hTs : ∀ w ∈ q_tbl2, w ∈ Ts) : ∀ ix e, q_F6 ix = some e → q_okF Ts "SlipDrawer$Speech" (6) ix e := fun ix e h => q_okF_of q_xF6 hTs ix e h
set_option maxRecDepth 100000 in
theorem q_xK6 : (([((39, .inr (.inl 37)), [(4, 115)])] : List ((Nat × qV) × List (Nat × Nat))).all (fun e => q_ckK "SlipDrawer$Speech" e.1 e.2)) = true := by decide +kernel
theorem q_hK6 {Ts : List Cond} (hTs : ∀ w ∈ q_tbl2, w ∈ Ts) {z : Nat × Nat × Nat} {s : State} (hS : vk_R "SlipDrawer$Tokens" 66 q_text z.2.1 s) : ∀ ix v, q_K6 ix = some v → q_okK Ts "SlipDrawer$Speech" ix v (vk_R "SlipDrawer$Speech" ix q_text z.2.1 s) := fun ix v h => q_okK_of q_xK6 hTs hS ix v h
set_option maxRecDepth 100000 in
theorem q_xN6 : (([] : List ((Nat × Int) × List (Nat × Nat))).all (fun e => q_ckN "SlipDrawer$Speech" e.1 e.2)) = true := by decide +kernel
theorem q_hN6 {Ts : List Cond} (hTs : ∀ w ∈ q_tbl2, w ∈ Ts) : ∀ ix ci, q_N6 ix = some ci → q_okN Ts "SlipDrawer$Speech" ix ci := fun ix ci h => q_okN_of q_xN6 hTs ix ci h
def q_gx6 : List ((Nat × qCl) × List (Nat × Nat)) := [((3, 1000, 1, -1, 0, 0, 0, 100), [(1, 116), (1, 26), (1, 27)]), ((19, 1001, 5, -1, 0, 0, 0, 100), [(4, 173), (2, 38), (2, 37), (1, 12)]), ((25, 67, 2, 7, 4, 0, 0, 3), [(4, 87), (1, 228), (1, 2), (1, 226), (1, 227)]), ((31, 66, 2, 7, 1, 0, 0, 2), [(4, 88), (1, 232), (1, 2), (1, 230), (1, 231)]), ((35, 59, 2, 6, 0, 0, 0, 2), [(4, 93), (4, 66), (1, 5), (4, 64), (4, 65)])]
set_option maxRecDepth 100000 in
theorem q_xG6_0 : ((q_gx6).all (fun e => q_ckG "SlipDrawer$Speech" e.1 e.2)) = true := by decide +kernel
theorem q_xG6 : (q_gx6.all (fun e => q_ckG "SlipDrawer$Speech" e.1 e.2)) = true := q_xG6_0
set_option maxRecDepth 100000 in
theorem q_xP6_0 : ((q_gx6).all (fun e => q_ckP "SlipDrawer$Speech" e.1 e.2)) = true := by decide +kernel
theorem q_xP6 : (q_gx6.all (fun e => q_ckP "SlipDrawer$Speech" e.1 e.2)) = true := q_xP6_0
theorem q_hG6 {Ts : List Cond} (hTs : ∀ w ∈ q_tbl2, w ∈ Ts) : ∀ ix cl, q_G6 ix = some cl → q_okG Ts "SlipDrawer$Speech" q_y q_b q_nl q_rtt q_ws q_Pr 264 ix cl := fun ix cl h => q_okG_of q_xG6 q_cwA hTs ix cl h
theorem q_hP6 {Ts : List Cond} (hTs : ∀ w ∈ q_tbl2, w ∈ Ts) : ∀ ix cl, q_G6 ix = some cl → q_okP Ts "SlipDrawer$Speech" ix cl := fun ix cl h => q_okP_of q_xP6 hTs ix cl h
set_option maxRecDepth 100000 in
theorem q_xF7 : (([((9, 7, 0, true, true), [(1, 34)]), ((15, 7, 1, false, false), [(1, 38)])] : List ((Nat × Int × Int × Bool × Bool) × List (Nat × Nat))).all (fun e => q_ckF "SlipDrawer$Tape" (7) e.1 e.2)) = true := by decide +kernel
theorem q_hF7 {Ts : List Cond} (hTs : ∀ w ∈ q_tbl2, w ∈ Ts) : ∀ ix e, q_F7 ix = some e → q_okF Ts "SlipDrawer$Tape" (7) ix e := fun ix e h => q_okF_of q_xF7 hTs ix e h
set_option maxRecDepth 100000 in
theorem q_xK7 : (([] : List ((Nat × qV) × List (Nat × Nat))).all (fun e => q_ckK "SlipDrawer$Tape" e.1 e.2)) = true := by decide +kernel
theorem q_hK7 {Ts : List Cond} (hTs : ∀ w ∈ q_tbl2, w ∈ Ts) {z : Nat × Nat × Nat} {s : State} (hS : vk_R "SlipDrawer$Tokens" 66 q_text z.2.1 s) : ∀ ix v, q_K7 ix = some v → q_okK Ts "SlipDrawer$Tape" ix v (vk_R "SlipDrawer$Tape" ix q_text z.2.1 s) := fun ix v h => q_okK_of q_xK7 hTs hS ix v h
set_option maxRecDepth 100000 in
theorem q_xN7 : (([] : List ((Nat × Int) × List (Nat × Nat))).all (fun e => q_ckN "SlipDrawer$Tape" e.1 e.2)) = true := by decide +kernel
theorem q_hN7 {Ts : List Cond} (hTs : ∀ w ∈ q_tbl2, w ∈ Ts) : ∀ ix ci, q_N7 ix = some ci → q_okN Ts "SlipDrawer$Tape" ix ci := fun ix ci h => q_okN_of q_xN7 hTs ix ci h
def q_gx7 : List ((Nat × qCl) × List (Nat × Nat)) := [((3, 1000, 1, -1, 0, 0, 0, 100), [(1, 33), (1, 26), (1, 27)]), ((19, 66, 2, 7, 1, 0, 0, 2), [(1, 229), (1, 232), (1, 2), (1, 230), (1, 231)])]
set_option maxRecDepth 100000 in
theorem q_xG7_0 : ((q_gx7).all (fun e => q_ckG "SlipDrawer$Tape" e.1 e.2)) = true := by decide +kernel
theorem q_xG7 : (q_gx7.all (fun e => q_ckG "SlipDrawer$Tape" e.1 e.2)) = true := q_xG7_0
set_option maxRecDepth 100000 in
theorem q_xP7_0 : ((q_gx7).all (fun e => q_ckP "SlipDrawer$Tape" e.1 e.2)) = true := by decide +kernel
theorem q_xP7 : (q_gx7.all (fun e => q_ckP "SlipDrawer$Tape" e.1 e.2)) = true := q_xP7_0
theorem q_hG7 {Ts : List Cond} (hTs : ∀ w ∈ q_tbl2, w ∈ Ts) : ∀ ix cl, q_G7 ix = some cl → q_okG Ts "SlipDrawer$Tape" q_y q_b q_nl q_rtt q_ws q_Pr 264 ix cl := fun ix cl h => q_okG_of q_xG7 q_cwA hTs ix cl h
theorem q_hP7 {Ts : List Cond} (hTs : ∀ w ∈ q_tbl2, w ∈ Ts) : ∀ ix cl, q_G7 ix = some cl → q_okP Ts "SlipDrawer$Tape" ix cl := fun ix cl h => q_okP_of q_xP7 hTs ix cl h
set_option maxRecDepth 100000 in
theorem q_xF8 : (([((9, 8, 0, true, true), [(2, 167)]), ((15, 7, 1, false, false), [(1, 35)]), ((21, 8, 1, true, true), [(2, 168)]), ((25, 8, 2, true, true), [(2, 170)]), ((46, 8, 3, false, false), [(2, 172)])] : List ((Nat × Int × Int × Bool × Bool) × List (Nat × Nat))).all (fun e => q_ckF "SlipDrawer$Tokens" (8) e.1 e.2)) = true := by decide +kernel
theorem q_hF8 {Ts : List Cond} (hTs : ∀ w ∈ q_tbl2, w ∈ Ts) : ∀ ix e, q_F8 ix = some e → q_okF Ts "SlipDrawer$Tokens" (8) ix e := fun ix e h => q_okF_of q_xF8 hTs ix e h
set_option maxRecDepth 100000 in
theorem q_xK8 : (([((66, .inr (.inr (-2))), [])] : List ((Nat × qV) × List (Nat × Nat))).all (fun e => q_ckK "SlipDrawer$Tokens" e.1 e.2)) = true := by decide +kernel
theorem q_hK8 {Ts : List Cond} (hTs : ∀ w ∈ q_tbl2, w ∈ Ts) {z : Nat × Nat × Nat} {s : State} (hS : vk_R "SlipDrawer$Tokens" 66 q_text z.2.1 s) : ∀ ix v, q_K8 ix = some v → q_okK Ts "SlipDrawer$Tokens" ix v (vk_R "SlipDrawer$Tokens" ix q_text z.2.1 s) := fun ix v h => q_okK_of q_xK8 hTs hS ix v h
set_option maxRecDepth 100000 in
theorem q_xN8 : (([] : List ((Nat × Int) × List (Nat × Nat))).all (fun e => q_ckN "SlipDrawer$Tokens" e.1 e.2)) = true := by decide +kernel
theorem q_hN8 {Ts : List Cond} (hTs : ∀ w ∈ q_tbl2, w ∈ Ts) : ∀ ix ci, q_N8 ix = some ci → q_okN Ts "SlipDrawer$Tokens" ix ci := fun ix ci h => q_okN_of q_xN8 hTs ix ci h
def q_gx8 : List ((Nat × qCl) × List (Nat × Nat)) := [((3, 1000, 1, -1, 0, 0, 0, 100), [(2, 166), (1, 26), (1, 27)]), ((28, 69, 2, 7, 4, 0, 0, 3), [(2, 213), (2, 216), (1, 2), (2, 214), (2, 215)]), ((32, 72, 2, 8, 1, 0, 0, 3), [(2, 217), (2, 220), (1, 15), (2, 219), (0, 4)]), ((36, 67, 2, 7, 4, 0, 0, 3), [(2, 221), (1, 228), (1, 2), (1, 226), (1, 227)]), ((39, 68, 2, 7, 4, 0, 0, 3), [(2, 222), (2, 225), (1, 2), (2, 223), (2, 224)]), ((42, 73, 3, 8, 1, 0, 0, 3), [(2, 227), (2, 230), (1, 15), (2, 229), (0, 5)]), ((49, 260, 2, -1, 1, 0, 0, 2), [(2, 226), (2, 35), (1, 11), (2, 34)]), ((54, 76, 3, 8, 1, 0, 0, 6), [(2, 231), (2, 234), (1, 15), (2, 233), (0, 6)]), ((57, 74, 3, 8, 1, 0, 0, 5), [(3, 49), (3, 52), (1, 15), (3, 51), (0, 8)]), ((60, 66, 2, 7, 1, 0, 0, 2), [(3, 48), (1, 232), (1, 2), (1, 230), (1, 231)]), ((63, 75, 1, -1, 4, 0, 0, 1), [(3, 53), (3, 55), (1, 15), (3, 54)]), ((68, 1002, 1, -1, 1, 0, 0, 100), [(2, 236)]), ((73, 1003, 2, -1, 1, 0, 0, 100), [(3, 6)]), ((77, 77, 4, 8, 4, 0, 0, 5), [(3, 44), (3, 47), (1, 15), (3, 46), (0, 7)])]
set_option maxRecDepth 100000 in
theorem q_xG8_0 : ((q_gx8).all (fun e => q_ckG "SlipDrawer$Tokens" e.1 e.2)) = true := by decide +kernel
theorem q_xG8 : (q_gx8.all (fun e => q_ckG "SlipDrawer$Tokens" e.1 e.2)) = true := q_xG8_0
set_option maxRecDepth 100000 in
theorem q_xP8_0 : ((q_gx8).all (fun e => q_ckP "SlipDrawer$Tokens" e.1 e.2)) = true := by decide +kernel
theorem q_xP8 : (q_gx8.all (fun e => q_ckP "SlipDrawer$Tokens" e.1 e.2)) = true := q_xP8_0
theorem q_hG8 {Ts : List Cond} (hTs : ∀ w ∈ q_tbl2, w ∈ Ts) : ∀ ix cl, q_G8 ix = some cl → q_okG Ts "SlipDrawer$Tokens" q_y q_b q_nl q_rtt q_ws q_Pr 264 ix cl := fun ix cl h => q_okG_of q_xG8 q_cwA hTs ix cl h
theorem q_hP8 {Ts : List Cond} (hTs : ∀ w ∈ q_tbl2, w ∈ Ts) : ∀ ix cl, q_G8 ix = some cl → q_okP Ts "SlipDrawer$Tokens" ix cl := fun ix cl h => q_okP_of q_xP8 hTs ix cl h
set_option maxRecDepth 100000 in
theorem q_xF9 : (([((9, 9, 0, true, true), [(1, 54)]), ((15, 9, 1, true, true), [(1, 55)]), ((19, 9, 2, true, true), [(1, 56)]), ((22, 9, 3, true, true), [(1, 57)]), ((25, 9, 4, true, true), [(1, 59)]), ((28, 9, 5, true, true), [(1, 61)]), ((31, 9, 6, true, true), [(1, 63)]), ((35, 9, 7, true, true), [(1, 64)]), ((38, 9, 8, true, true), [(1, 65)]), ((43, 9, 9, false, false), [(1, 67)]), ((47, 7, 1, false, false), [(1, 39)])] : List ((Nat × Int × Int × Bool × Bool) × List (Nat × Nat))).all (fun e => q_ckF "SlipDrawer$Words" (9) e.1 e.2)) = true := by decide +kernel
theorem q_hF9 {Ts : List Cond} (hTs : ∀ w ∈ q_tbl2, w ∈ Ts) : ∀ ix e, q_F9 ix = some e → q_okF Ts "SlipDrawer$Words" (9) ix e := fun ix e h => q_okF_of q_xF9 hTs ix e h
set_option maxRecDepth 100000 in
theorem q_xK9 : (([((41, .inr (.inl 37)), [(1, 53)]), ((79, .inr (.inl 96)), [(2, 9)])] : List ((Nat × qV) × List (Nat × Nat))).all (fun e => q_ckK "SlipDrawer$Words" e.1 e.2)) = true := by decide +kernel
theorem q_hK9 {Ts : List Cond} (hTs : ∀ w ∈ q_tbl2, w ∈ Ts) {z : Nat × Nat × Nat} {s : State} (hS : vk_R "SlipDrawer$Tokens" 66 q_text z.2.1 s) : ∀ ix v, q_K9 ix = some v → q_okK Ts "SlipDrawer$Words" ix v (vk_R "SlipDrawer$Words" ix q_text z.2.1 s) := fun ix v h => q_okK_of q_xK9 hTs hS ix v h
set_option maxRecDepth 100000 in
theorem q_xN9 : (([] : List ((Nat × Int) × List (Nat × Nat))).all (fun e => q_ckN "SlipDrawer$Words" e.1 e.2)) = true := by decide +kernel
theorem q_hN9 {Ts : List Cond} (hTs : ∀ w ∈ q_tbl2, w ∈ Ts) : ∀ ix ci, q_N9 ix = some ci → q_okN Ts "SlipDrawer$Words" ix ci := fun ix ci h => q_okN_of q_xN9 hTs ix ci h
def q_gx9 : List ((Nat × qCl) × List (Nat × Nat)) := [((3, 1000, 1, -1, 0, 0, 0, 100), [(1, 52), (1, 26), (1, 27)]), ((52, 67, 2, 7, 4, 0, 0, 3), [(1, 225), (1, 228), (1, 2), (1, 226), (1, 227)]), ((56, 66, 2, 7, 1, 0, 0, 2), [(1, 233), (1, 232), (1, 2), (1, 230), (1, 231)]), ((60, 81, 2, 9, 0, 0, 0, 3), [(1, 234), (1, 237), (1, 3), (1, 236), (0, 0)]), ((64, 86, 3, 9, 2, 0, 0, 5), [(2, 10), (2, 13), (1, 3), (2, 11), (2, 12)]), ((68, 84, 3, 9, 1, 0, 0, 3), [(1, 238), (2, 1), (1, 3), (1, 239), (2, 0)]), ((72, 83, 1, -1, 4, 0, 0, 1), [(2, 2), (2, 4), (1, 3), (2, 3)]), ((75, 82, 4, 9, 2, 0, 0, 7), [(2, 5), (2, 8), (1, 3), (2, 7), (0, 1)]), ((81, 85, 3, 9, 1, 0, 0, 4), [(3, 159), (3, 162), (1, 3), (3, 160), (3, 161)]), ((84, 87, 4, 9, 1, 0, 0, 5), [(3, 189), (3, 192), (1, 3), (3, 190), (3, 191)]), ((88, 260, 2, -1, 1, 0, 0, 2), [(3, 167), (2, 35), (1, 11), (2, 34)]), ((93, 258, 2, -1, 1, 0, 0, 2), [(3, 188), (2, 136), (1, 11), (2, 135)])]
set_option maxRecDepth 100000 in
theorem q_xG9_0 : ((q_gx9).all (fun e => q_ckG "SlipDrawer$Words" e.1 e.2)) = true := by decide +kernel
theorem q_xG9 : (q_gx9.all (fun e => q_ckG "SlipDrawer$Words" e.1 e.2)) = true := q_xG9_0
set_option maxRecDepth 100000 in
theorem q_xP9_0 : ((q_gx9).all (fun e => q_ckP "SlipDrawer$Words" e.1 e.2)) = true := by decide +kernel
theorem q_xP9 : (q_gx9.all (fun e => q_ckP "SlipDrawer$Words" e.1 e.2)) = true := q_xP9_0
theorem q_hG9 {Ts : List Cond} (hTs : ∀ w ∈ q_tbl2, w ∈ Ts) : ∀ ix cl, q_G9 ix = some cl → q_okG Ts "SlipDrawer$Words" q_y q_b q_nl q_rtt q_ws q_Pr 264 ix cl := fun ix cl h => q_okG_of q_xG9 q_cwA hTs ix cl h
theorem q_hP9 {Ts : List Cond} (hTs : ∀ w ∈ q_tbl2, w ∈ Ts) : ∀ ix cl, q_G9 ix = some cl → q_okP Ts "SlipDrawer$Words" ix cl := fun ix cl h => q_okP_of q_xP9 hTs ix cl h
set_option maxRecDepth 100000 in
theorem q_xF10 : (([((12, 10, 0, true, true), [(1, 168)]), ((19, 10, 1, true, true), [(1, 169)]), ((25, 10, 2, true, true), [(1, 170)]), ((31, 10, 4, true, true), [(1, 172)]), ((38, 10, 5, true, true), [(1, 173)]), ((42, 10, 6, true, true), [(1, 174)]), ((46, 10, 8, false, false), [(1, 176)]), ((53, 10, 9, true, true), [(1, 177)]), ((60, 10, 10, true, true), [(1, 178)]), ((67, 10, 11, true, true), [(1, 179)]), ((71, 7, 1, false, false), [(1, 37)]), ((86, 10, 3, false, false), [(1, 171)]), ((98, 9, 9, false, false), [(1, 69)]), ((105, 2, 2, false, false), [(1, 145)]), ((106, 6, 1, false, false), [(1, 121)]), ((111, 10, 7, false, false), [(1, 175)]), ((118, 1, 3, false, false), [(2, 49)]), ((120, 1, 4, true, true), [(2, 51)]), ((124, 1, 5, true, true), [(2, 53)]), ((127, 1, 6, true, true), [(2, 55)]), ((130, 1, 8, true, true), [(2, 59)]), ((138, 1, 14, true, true), [(2, 70)]), ((142, 1, 7, true, true), [(2, 57)]), ((149, 1, 13, true, true), [(2, 68)]), ((198, 1, 11, true, true), [(2, 64)]), ((216, 2, 1, true, true), [(1, 142)]), ((224, 2, 0, true, true), [(1, 139)]), ((248, 1, 9, true, true), [(2, 61)]), ((255, 3, 1, false, false), [(1, 162)]), ((256, 3, 0, true, true), [(1, 160)]), ((274, 4, 1, false, false), [(2, 186)]), ((275, 4, 2, false, false), [(2, 188)]), ((276, 4, 0, true, true), [(2, 184)]), ((280, 1, 12, true, true), [(2, 66)]), ((283, 5, 6, false, false), [(2, 145)]), ((284, 1, 2, false, false), [(2, 47)])] : List ((Nat × Int × Int × Bool × Bool) × List (Nat × Nat))).all (fun e => q_ckF "SlipDrawer" (10) e.1 e.2)) = true := by decide +kernel
theorem q_hF10 {Ts : List Cond} (hTs : ∀ w ∈ q_tbl2, w ∈ Ts) : ∀ ix e, q_F10 ix = some e → q_okF Ts "SlipDrawer" (10) ix e := fun ix e h => q_okF_of q_xF10 hTs ix e h
set_option maxRecDepth 100000 in
theorem q_xK10 : (([((156, .inr (.inl 1103515245)), [(4, 72)]), ((158, .inr (.inl 12345)), [(4, 73)]), ((160, .inr (.inl 2147483648)), [(4, 74)]), ((162, .inr (.inl 256)), [(4, 75)])] : List ((Nat × qV) × List (Nat × Nat))).all (fun e => q_ckK "SlipDrawer" e.1 e.2)) = true := by decide +kernel
theorem q_hK10 {Ts : List Cond} (hTs : ∀ w ∈ q_tbl2, w ∈ Ts) {z : Nat × Nat × Nat} {s : State} (hS : vk_R "SlipDrawer$Tokens" 66 q_text z.2.1 s) : ∀ ix v, q_K10 ix = some v → q_okK Ts "SlipDrawer" ix v (vk_R "SlipDrawer" ix q_text z.2.1 s) := fun ix v h => q_okK_of q_xK10 hTs hS ix v h
set_option maxRecDepth 100000 in
theorem q_xN10 : (([((9, 7), [(1, 28), (1, 29), (1, 2)]), ((16, 9), [(1, 47), (1, 48), (1, 3)]), ((23, 1), [(1, 93), (2, 22), (1, 9)]), ((29, 5), [(1, 95), (2, 129), (1, 14)]), ((35, 0), [(1, 97), (1, 98), (1, 4)]), ((50, 6), [(1, 111), (1, 112), (1, 5)]), ((57, 2), [(1, 128), (1, 129), (1, 6)]), ((64, 3), [(1, 153), (1, 154), (1, 7)]), ((267, 4), [(2, 122), (2, 123), (1, 13)])] : List ((Nat × Int) × List (Nat × Nat))).all (fun e => q_ckN "SlipDrawer" e.1 e.2)) = true := by decide +kernel
theorem q_hN10 {Ts : List Cond} (hTs : ∀ w ∈ q_tbl2, w ∈ Ts) : ∀ ix ci, q_N10 ix = some ci → q_okN Ts "SlipDrawer" ix ci := fun ix ci h => q_okN_of q_xN10 hTs ix ci h
def q_gx10 : List ((Nat × qCl) × List (Nat × Nat)) := [((3, 1000, 1, -1, 0, 0, 0, 100), [(1, 25), (1, 26), (1, 27)]), ((11, 64, 1, 7, 0, 1, 2100, 1), [(1, 30), (1, 32), (1, 2), (1, 31)]), ((18, 78, 1, 9, 0, 9, 467, 2), [(1, 49), (1, 51), (1, 3), (1, 50)]), ((37, 0, 1, 0, 0, 2, 136, 1), [(1, 99), (1, 101), (1, 4), (1, 100)]), ((52, 57, 1, 6, 0, 1, 100, 1), [(1, 113), (1, 115), (1, 5), (1, 114)]), ((59, 33, 1, 2, 0, 42, 2080, 2), [(1, 130), (1, 132), (1, 6), (1, 131)]), ((66, 36, 1, 3, 0, 1, 2042, 1), [(1, 155), (1, 157), (1, 7), (1, 156)]), ((74, 65, 2, 7, 0, 0, 0, 3), [(1, 209), (1, 212), (1, 2), (1, 210), (1, 211)]), ((78, 80, 5, 9, 1, 0, 0, 6), [(1, 221), (1, 224), (1, 3), (1, 222), (1, 223)]), ((82, 79, 2, 9, 4, 0, 0, 2), [(2, 18), (2, 21), (1, 3), (2, 19), (2, 20)]), ((89, 263, 2, -1, 3, 1, 6, 3), [(2, 23), (2, 25), (1, 10), (2, 24)]), ((95, 5, 3, 1, 0, 22, 10622, 5), [(2, 39), (2, 41), (1, 9), (2, 40)]), ((101, 137, 1, 10, 1, 0, 0, 3), [(2, 110), (2, 113), (1, 1), (2, 112), (0, 2)]), ((107, 138, 2, 10, 1, 10, 6399, 4), [(2, 118), (2, 121), (1, 1), (2, 120), (0, 3)]), ((114, 139, 2, 10, 3, 0, 0, 3), [(3, 123), (3, 126), (1, 1), (3, 125), (0, 20)]), ((119, 6, 2, 1, 4, 0, 0, 2), [(3, 228), (3, 231), (1, 9), (3, 229), (3, 230)]), ((134, 142, 3, 10, 0, 0, 0, 3), [(3, 232), (3, 235), (1, 1), (3, 234), (0, 29)]), ((145, 140, 3, 10, 3, 0, 0, 4), [(4, 47), (4, 50), (1, 1), (4, 49), (0, 32)]), ((152, 18, 3, 1, 0, 0, 0, 8), [(4, 59), (4, 62), (1, 9), (4, 60), (4, 61)]), ((164, 25, 3, 1, 1, 0, 0, 7), [(4, 76), (4, 79), (1, 9), (4, 77), (4, 78)]), ((168, 61, 3, -1, 4, 0, 0, 4), [(4, 84), (4, 86), (1, 5), (4, 85)]), ((172, 62, 4, 6, 0, 0, 0, 5), [(4, 89), (4, 92), (1, 5), (4, 90), (4, 91)]), ((176, 58, 2, 6, 1, 0, 0, 2), [(4, 98), (4, 101), (1, 5), (4, 99), (4, 100)]), ((179, 134, 1, -1, 4, 0, 0, 1), [(4, 106), (3, 62), (1, 1), (3, 61)]), ((182, 20, 2, 1, 1, 0, 0, 5), [(4, 107), (4, 110), (1, 9), (4, 108), (4, 109)]), ((186, 21, 3, 1, 1, 0, 0, 5), [(4, 121), (4, 124), (1, 9), (4, 122), (4, 123)]), ((190, 27, 3, 1, 1, 0, 0, 4), [(4, 129), (4, 132), (1, 9), (4, 130), (4, 131)]), ((194, 144, 3, -1, 1, 0, 0, 7), [(4, 134), (4, 136), (1, 1), (4, 135)]), ((201, 136, 2, 10, 4, 0, 0, 2), [(4, 51), (4, 54), (1, 1), (4, 53), (0, 33)]), ((204, 26, 3, 1, 4, 0, 0, 4), [(4, 145), (4, 148), (1, 9), (4, 146), (4, 147)]), ((208, 28, 3, 1, 1, 0, 0, 5), [(4, 157), (4, 160), (1, 9), (4, 158), (4, 159)]), ((211, 135, 2, 10, 4, 0, 0, 2), [(3, 127), (3, 130), (1, 1), (3, 129), (0, 21)]), ((214, 34, 3, 2, 0, 0, 0, 3), [(4, 165), (4, 168), (1, 6), (4, 166), (4, 167)]), ((220, 60, 2, 6, 0, 0, 0, 2), [(4, 182), (4, 172), (1, 5), (4, 170), (4, 171)]), ((227, 141, 2, 10, 3, 0, 0, 4), [(4, 191), (4, 194), (1, 1), (4, 193), (0, 35)]), ((230, 29, 4, 1, 4, 0, 0, 7), [(4, 195), (4, 198), (1, 9), (4, 196), (4, 197)]), ((234, 30, 2, 1, 1, 0, 0, 6), [(4, 207), (4, 210), (1, 9), (4, 208), (4, 209)]), ((237, 31, 3, 1, 4, 0, 0, 6), [(4, 215), (4, 218), (1, 9), (4, 216), (4, 217)]), ((241, 32, 3, 1, 1, 0, 0, 10), [(4, 223), (4, 226), (1, 9), (4, 224), (4, 225)]), ((244, 143, 2, 10, 1, 0, 0, 5), [(4, 235), (4, 238), (1, 1), (4, 237), (0, 36)]), ((251, 37, 2, 3, 0, 0, 0, 5), [(5, 15), (5, 18), (1, 7), (5, 16), (5, 17)]), ((259, 39, 2, -1, 4, 0, 0, 7), [(5, 31), (5, 33), (1, 7), (5, 32)]), ((263, 35, 2, 2, 0, 0, 0, 5), [(5, 36), (5, 39), (1, 6), (5, 37), (5, 38)]), ((269, 40, 2, 4, 0, 9, 6393, 2), [(2, 124), (2, 126), (1, 13), (2, 125)]), ((271, 41, 1, 4, 0, 0, 0, 2), [(2, 205), (2, 208), (1, 13), (2, 206), (2, 207)]), ((287, 7, 1, 1, 0, 0, 0, 2), [(3, 131), (3, 134), (1, 9), (3, 132), (3, 133)]), ((290, 8, 1, 1, 0, 0, 0, 5), [(3, 135), (3, 138), (1, 9), (3, 136), (3, 137)]), ((293, 13, 1, 1, 0, 0, 0, 3), [(3, 172), (3, 175), (1, 9), (3, 173), (3, 174)]), ((296, 16, 2, 1, 0, 0, 0, 5), [(3, 209), (3, 212), (1, 9), (3, 210), (3, 211)]), ((300, 22, 4, 1, 0, 0, 0, 7), [(3, 236), (3, 239), (1, 9), (3, 237), (3, 238)]), ((304, 23, 2, 1, 0, 0, 0, 3), [(4, 39), (4, 42), (1, 9), (4, 40), (4, 41)])]
set_option maxRecDepth 100000 in
theorem q_xG10_0 : (((q_gx10).take 20).all (fun e => q_ckG "SlipDrawer" e.1 e.2)) = true := by decide +kernel
set_option maxRecDepth 100000 in
theorem q_xG10_1 : ((((q_gx10).drop 20).take 20).all (fun e => q_ckG "SlipDrawer" e.1 e.2)) = true := by decide +kernel
set_option maxRecDepth 100000 in
theorem q_xG10_2 : ((((q_gx10).drop 20).drop 20).all (fun e => q_ckG "SlipDrawer" e.1 e.2)) = true := by decide +kernel
theorem q_xG10 : (q_gx10.all (fun e => q_ckG "SlipDrawer" e.1 e.2)) = true := q_sp 20 q_xG10_0 (q_sp 20 q_xG10_1 (q_xG10_2))
set_option maxRecDepth 100000 in
theorem q_xP10_0 : (((q_gx10).take 20).all (fun e => q_ckP "SlipDrawer" e.1 e.2)) = true := by decide +kernel
set_option maxRecDepth 100000 in
theorem q_xP10_1 : ((((q_gx10).drop 20).take 20).all (fun e => q_ckP "SlipDrawer" e.1 e.2)) = true := by decide +kernel
set_option maxRecDepth 100000 in
theorem q_xP10_2 : ((((q_gx10).drop 20).drop 20).all (fun e => q_ckP "SlipDrawer" e.1 e.2)) = true := by decide +kernel
theorem q_xP10 : (q_gx10.all (fun e => q_ckP "SlipDrawer" e.1 e.2)) = true := q_sp 20 q_xP10_0 (q_sp 20 q_xP10_1 (q_xP10_2))
theorem q_hG10 {Ts : List Cond} (hTs : ∀ w ∈ q_tbl2, w ∈ Ts) : ∀ ix cl, q_G10 ix = some cl → q_okG Ts "SlipDrawer" q_y q_b q_nl q_rtt q_ws q_Pr 264 ix cl := fun ix cl h => q_okG_of q_xG10 q_cwA hTs ix cl h
theorem q_hP10 {Ts : List Cond} (hTs : ∀ w ∈ q_tbl2, w ∈ Ts) : ∀ ix cl, q_G10 ix = some cl → q_okP Ts "SlipDrawer" ix cl := fun ix cl h => q_okP_of q_xP10 hTs ix cl h
set_option maxRecDepth 100000 in
theorem q_xF11 : (([((7, 11, 0, true, true), [(5, 51)]), ((13, 11, 8, false, false), [(5, 59)]), ((17, 11, 9, true, true), [(5, 60)]), ((21, 11, 10, true, true), [(5, 61)]), ((24, 11, 11, true, true), [(5, 62)]), ((27, 11, 12, true, true), [(5, 63)]), ((30, 11, 13, true, true), [(5, 64)]), ((33, 11, 14, true, true), [(5, 65)]), ((36, 11, 15, true, true), [(5, 66)]), ((39, 11, 16, true, true), [(5, 67)]), ((42, 11, 17, true, true), [(5, 68)]), ((45, 11, 18, true, true), [(5, 69)]), ((48, 11, 19, true, true), [(5, 70)]), ((51, 11, 20, true, true), [(5, 71)]), ((54, 11, 21, true, true), [(5, 72)]), ((57, 11, 22, true, true), [(5, 73)]), ((60, 11, 23, true, true), [(5, 74)]), ((63, 11, 24, true, true), [(5, 75)]), ((66, 11, 25, true, true), [(5, 76)]), ((69, 11, 26, true, true), [(5, 77)]), ((72, 11, 27, true, true), [(5, 78)]), ((75, 11, 28, true, true), [(5, 79)]), ((78, 11, 29, true, true), [(5, 80)]), ((81, 11, 30, true, true), [(5, 81)]), ((84, 11, 31, true, true), [(5, 82)]), ((87, 11, 32, true, true), [(5, 83)]), ((90, 11, 34, true, true), [(5, 85)]), ((93, 11, 35, true, true), [(5, 86)]), ((96, 11, 36, true, true), [(5, 87)]), ((99, 11, 37, true, true), [(5, 88)]), ((102, 11, 38, true, true), [(5, 89)]), ((105, 11, 39, true, true), [(5, 90)]), ((108, 11, 41, true, true), [(5, 92)]), ((111, 11, 42, true, true), [(5, 93)]), ((114, 11, 43, true, true), [(5, 94)]), ((118, 11, 44, true, true), [(5, 95)]), ((121, 11, 45, true, true), [(5, 96)]), ((124, 11, 46, true, true), [(5, 97)]), ((127, 11, 47, true, true), [(5, 98)]), ((130, 11, 48, true, true), [(5, 99)]), ((133, 11, 49, true, true), [(5, 100)]), ((136, 11, 51, true, true), [(5, 102)]), ((139, 11, 56, false, false), [(5, 107)]), ((142, 11, 57, true, true), [(5, 108)]), ((145, 11, 58, true, true), [(5, 109)]), ((148, 11, 59, true, true), [(5, 110)]), ((152, 11, 60, true, true), [(5, 111)]), ((155, 11, 61, true, true), [(5, 112)]), ((158, 11, 62, true, true), [(5, 113)]), ((161, 11, 63, true, true), [(5, 114)]), ((164, 11, 64, true, true), [(5, 115)]), ((167, 11, 66, true, true), [(5, 117)]), ((170, 11, 68, true, true), [(5, 119)]), ((174, 11, 70, true, true), [(5, 121)]), ((177, 11, 72, true, true), [(5, 123)]), ((180, 11, 74, true, true), [(5, 125)]), ((183, 11, 75, true, true), [(5, 126)]), ((186, 11, 76, true, true), [(5, 127)]), ((189, 11, 78, true, true), [(5, 129)]), ((192, 11, 79, true, true), [(5, 130)]), ((195, 11, 80, true, true), [(5, 131)]), ((198, 11, 1, false, false), [(5, 52)]), ((201, 11, 5, false, false), [(5, 56)]), ((204, 11, 6, false, false), [(5, 57)]), ((207, 11, 2, false, false), [(5, 53)]), ((210, 11, 3, false, false), [(5, 54)]), ((221, 11, 4, false, false), [(5, 55)]), ((260, 11, 33, false, false), [(5, 84)]), ((270, 11, 40, false, false), [(5, 91)]), ((273, 11, 73, false, false), [(5, 124)]), ((276, 11, 71, false, false), [(5, 122)]), ((279, 11, 50, false, false), [(5, 101)]), ((282, 11, 53, false, false), [(5, 104)]), ((285, 11, 52, false, false), [(5, 103)]), ((292, 11, 54, false, false), [(5, 105)]), ((355, 11, 7, false, false), [(5, 58)]), ((364, 11, 65, false, false), [(5, 116)]), ((382, 11, 55, false, false), [(5, 106)]), ((409, 11, 67, false, false), [(5, 118)]), ((434, 11, 69, false, false), [(5, 120)]), ((501, 11, 77, false, false), [(5, 128)]), ((520, 11, 81, false, false), [(5, 132)])] : List ((Nat × Int × Int × Bool × Bool) × List (Nat × Nat))).all (fun e => q_ckF "SlipDrawerModel" (11) e.1 e.2)) = true := by decide +kernel
theorem q_hF11 {Ts : List Cond} (hTs : ∀ w ∈ q_tbl2, w ∈ Ts) : ∀ ix e, q_F11 ix = some e → q_okF Ts "SlipDrawerModel" (11) ix e := fun ix e h => q_okF_of q_xF11 hTs ix e h
set_option maxRecDepth 100000 in
theorem q_xK11 : (([((151, .inl 66560), [(5, 50)]), ((245, .inr (.inl 97)), [(6, 79)]), ((247, .inr (.inl 122)), [(6, 80)]), ((249, .inr (.inl 8)), [(6, 71)]), ((254, .inr (.inl 4)), [(6, 81)]), ((256, .inr (.inl 9)), [(6, 82)]), ((258, .inr (.inl 99)), [(6, 83)]), ((358, .inr (.inl 3)), [(6, 103)]), ((430, .inr (.inl 1000000)), [(7, 85)]), ((432, .inr (.inl (-1000000))), [(7, 86)]), ((466, .inr (.inl 100)), [(7, 90)]), ((468, .inr (.inl 1000)), [(7, 111)]), ((479, .inr (.inl 1103515245)), [(7, 124)]), ((481, .inr (.inl 12345)), [(7, 125)]), ((483, .inr (.inl 2147483648)), [(7, 126)]), ((485, .inr (.inl 256)), [(7, 127)])] : List ((Nat × qV) × List (Nat × Nat))).all (fun e => q_ckK "SlipDrawerModel" e.1 e.2)) = true := by decide +kernel
theorem q_hK11 {Ts : List Cond} (hTs : ∀ w ∈ q_tbl2, w ∈ Ts) {z : Nat × Nat × Nat} {s : State} (hS : vk_R "SlipDrawer$Tokens" 66 q_text z.2.1 s) : ∀ ix v, q_K11 ix = some v → q_okK Ts "SlipDrawerModel" ix v (vk_R "SlipDrawerModel" ix q_text z.2.1 s) := fun ix v h => q_okK_of q_xK11 hTs hS ix v h
set_option maxRecDepth 100000 in
theorem q_xN11 : (([] : List ((Nat × Int) × List (Nat × Nat))).all (fun e => q_ckN "SlipDrawerModel" e.1 e.2)) = true := by decide +kernel
theorem q_hN11 {Ts : List Cond} (hTs : ∀ w ∈ q_tbl2, w ∈ Ts) : ∀ ix ci, q_N11 ix = some ci → q_okN Ts "SlipDrawerModel" ix ci := fun ix ci h => q_okN_of q_xN11 hTs ix ci h
def q_gx11 : List ((Nat × qCl) × List (Nat × Nat)) := [((1, 1000, 1, -1, 0, 0, 0, 100), [(5, 49), (1, 26), (1, 27)]), ((213, 152, 1, 11, 1, 0, 0, 1), [(6, 108), (6, 111), (1, 8), (6, 110), (0, 41)]), ((217, 150, 1, -1, 4, 0, 0, 1), [(6, 132), (6, 134), (1, 8), (6, 133)]), ((224, 153, 2, 11, 4, 0, 0, 4), [(6, 128), (6, 131), (1, 8), (6, 130), (0, 46)]), ((228, 154, 2, 11, 4, 0, 0, 2), [(6, 124), (6, 127), (1, 8), (6, 126), (0, 45)]), ((231, 149, 3, 11, 0, 0, 0, 3), [(6, 116), (6, 119), (1, 8), (6, 118), (0, 43)]), ((235, 156, 2, 11, 4, 0, 0, 2), [(6, 155), (6, 158), (1, 8), (6, 157), (0, 52)]), ((238, 151, 1, -1, 4, 0, 0, 1), [(6, 163), (6, 165), (1, 8), (6, 164)]), ((241, 146, 3, -1, 4, 0, 0, 6), [(6, 72), (6, 74), (1, 8), (6, 73)]), ((251, 160, 2, 11, 4, 0, 0, 3), [(6, 75), (6, 78), (1, 8), (6, 77), (0, 38)]), ((263, 161, 3, 11, 4, 0, 0, 4), [(6, 84), (6, 87), (1, 8), (6, 86), (0, 39)]), ((267, 159, 1, -1, 4, 0, 0, 1), [(6, 88), (6, 90), (1, 8), (6, 89)]), ((288, 167, 2, 11, 0, 0, 0, 2), [(6, 166), (6, 169), (1, 8), (6, 168), (0, 54)]), ((295, 171, 2, 11, 4, 0, 0, 2), [(6, 178), (6, 181), (1, 8), (6, 180), (0, 57)]), ((298, 170, 1, 11, 0, 0, 0, 1), [(6, 186), (6, 189), (1, 8), (6, 188), (0, 59)]), ((301, 168, 3, 11, 0, 0, 0, 3), [(6, 143), (6, 146), (1, 8), (6, 145), (0, 49)]), ((304, 155, 2, 11, 0, 0, 0, 2), [(6, 147), (6, 150), (1, 8), (6, 149), (0, 50)]), ((308, 157, 2, 11, 0, 0, 0, 2), [(6, 151), (6, 154), (1, 8), (6, 153), (0, 51)]), ((311, 158, 3, 11, 1, 0, 0, 5), [(6, 159), (6, 162), (1, 8), (6, 161), (0, 53)]), ((315, 172, 1, 11, 1, 0, 0, 2), [(6, 174), (6, 177), (1, 8), (6, 176), (0, 56)]), ((318, 173, 1, 11, 0, 0, 0, 1), [(6, 182), (6, 185), (1, 8), (6, 184), (0, 58)]), ((321, 169, 2, 11, 4, 0, 0, 2), [(6, 190), (6, 193), (1, 8), (6, 192), (0, 60)]), ((324, 174, 1, 11, 0, 0, 0, 5), [(6, 139), (6, 142), (1, 8), (6, 141), (0, 48)]), ((327, 175, 1, 11, 4, 0, 0, 2), [(6, 170), (6, 173), (1, 8), (6, 172), (0, 55)]), ((331, 176, 1, 11, 0, 0, 0, 3), [(6, 135), (6, 138), (1, 8), (6, 137), (0, 47)]), ((334, 177, 1, 11, 0, 0, 0, 2), [(6, 198), (6, 201), (1, 8), (6, 200), (0, 62)]), ((337, 179, 1, 11, 0, 0, 0, 1), [(6, 202), (6, 205), (1, 8), (6, 204), (0, 63)]), ((340, 181, 1, 11, 4, 0, 0, 1), [(6, 206), (6, 209), (1, 8), (6, 208), (0, 64)]), ((343, 178, 1, 11, 4, 0, 0, 2), [(6, 210), (6, 213), (1, 8), (6, 212), (0, 65)]), ((346, 182, 1, 11, 1, 0, 0, 2), [(6, 120), (6, 123), (1, 8), (6, 122), (0, 44)]), ((349, 180, 1, 11, 0, 0, 0, 3), [(6, 194), (6, 197), (1, 8), (6, 196), (0, 61)]), ((352, 183, 1, 11, 0, 0, 0, 4), [(6, 112), (6, 115), (1, 8), (6, 114), (0, 42)]), ((360, 184, 2, 11, 1, 0, 0, 5), [(6, 104), (6, 107), (1, 8), (6, 106), (0, 40)]), ((367, 192, 2, 11, 0, 0, 0, 2), [(7, 10), (7, 13), (1, 8), (7, 12), (0, 72)]), ((370, 193, 2, 11, 4, 0, 0, 3), [(7, 26), (7, 29), (1, 8), (7, 28), (0, 76)]), ((373, 188, 3, 11, 1, 0, 0, 3), [(7, 2), (7, 5), (1, 8), (7, 4), (0, 70)]), ((376, 191, 2, 11, 0, 0, 0, 3), [(7, 6), (7, 9), (1, 8), (7, 8), (0, 71)]), ((379, 190, 3, 11, 0, 0, 0, 4), [(7, 14), (7, 17), (1, 8), (7, 16), (0, 73)]), ((385, 196, 4, 11, 0, 0, 0, 8), [(6, 238), (7, 1), (1, 8), (7, 0), (0, 69)]), ((389, 197, 2, 11, 1, 0, 0, 5), [(7, 18), (7, 21), (1, 8), (7, 20), (0, 74)]), ((392, 194, 1, 11, 1, 0, 0, 2), [(7, 22), (7, 25), (1, 8), (7, 24), (0, 75)]), ((395, 195, 3, 11, 4, 0, 0, 7), [(7, 38), (7, 41), (1, 8), (7, 40), (0, 79)]), ((398, 198, 5, 11, 0, 0, 0, 9), [(6, 234), (6, 237), (1, 8), (6, 236), (0, 68)]), ((402, 199, 4, 11, 4, 0, 0, 4), [(7, 34), (7, 37), (1, 8), (7, 36), (0, 78)]), ((406, 189, 3, 11, 4, 0, 0, 4), [(7, 42), (7, 45), (1, 8), (7, 44), (0, 80)]), ((412, 200, 3, 11, 0, 0, 0, 8), [(7, 30), (7, 33), (1, 8), (7, 32), (0, 77)]), ((415, 164, 2, 11, 4, 0, 0, 2), [(6, 226), (6, 229), (1, 8), (6, 228), (0, 66)]), ((418, 201, 2, 11, 0, 0, 0, 3), [(6, 230), (6, 233), (1, 8), (6, 232), (0, 67)]), ((421, 202, 3, 11, 4, 0, 0, 3), [(7, 50), (7, 53), (1, 8), (7, 52), (0, 81)]), ((424, 214, 2, 11, 1, 0, 0, 4), [(7, 54), (7, 57), (1, 8), (7, 56), (0, 82)]), ((427, 165, 2, 11, 4, 0, 0, 2), [(7, 95), (7, 98), (1, 8), (7, 97), (0, 89)]), ((437, 206, 1, -1, 2, 0, 0, 2), [(7, 82), (7, 84), (1, 8), (7, 83)]), ((441, 208, 2, 11, 0, 0, 0, 3), [(7, 66), (7, 69), (1, 8), (7, 68), (0, 85)]), ((445, 207, 2, -1, 2, 0, 0, 6), [(7, 87), (7, 89), (1, 8), (7, 88)]), ((449, 210, 2, 11, 1, 0, 0, 3), [(7, 74), (7, 77), (1, 8), (7, 76), (0, 87)]), ((452, 211, 3, 11, 2, 0, 0, 6), [(7, 70), (7, 73), (1, 8), (7, 72), (0, 86)]), ((456, 209, 2, 11, 0, 0, 0, 6), [(7, 78), (7, 81), (1, 8), (7, 80), (0, 88)]), ((459, 212, 5, 11, 2, 0, 0, 7), [(7, 62), (7, 65), (1, 8), (7, 64), (0, 84)]), ((463, 213, 3, 11, 2, 0, 0, 5), [(7, 58), (7, 61), (1, 8), (7, 60), (0, 83)]), ((470, 216, 2, 11, 4, 0, 0, 2), [(7, 103), (7, 106), (1, 8), (7, 105), (0, 90)]), ((473, 215, 3, 11, 1, 0, 0, 7), [(7, 107), (7, 110), (1, 8), (7, 109), (0, 91)]), ((476, 218, 2, 11, 1, 0, 0, 3), [(7, 116), (7, 119), (1, 8), (7, 118), (0, 92)]), ((487, 223, 5, 11, 4, 0, 0, 6), [(7, 144), (7, 147), (1, 8), (7, 146), (0, 94)]), ((491, 224, 2, 11, 4, 0, 0, 2), [(7, 140), (7, 143), (1, 8), (7, 142), (0, 93)]), ((494, 226, 2, -1, 2, 0, 0, 10), [(7, 155), (7, 157), (1, 8), (7, 156)]), ((497, 227, 3, -1, 1, 0, 0, 7), [(7, 152), (7, 154), (1, 8), (7, 153)]), ((504, 236, 3, 11, 4, 0, 0, 3), [(7, 194), (7, 197), (1, 8), (7, 196), (0, 96)]), ((507, 237, 3, 11, 1, 0, 0, 5), [(7, 190), (7, 193), (1, 8), (7, 192), (0, 95)]), ((510, 243, 4, 11, 1, 0, 0, 17), [(7, 218), (7, 221), (1, 8), (7, 220), (0, 97)]), ((514, 166, 2, 11, 1, 0, 0, 4), [(7, 226), (6, 98), (1, 8), (6, 96), (6, 97)]), ((517, 246, 3, 11, 4, 0, 0, 5), [(7, 231), (7, 234), (1, 8), (7, 233), (0, 98)]), ((523, 249, 2, 11, 0, 0, 0, 2), [(8, 3), (8, 6), (1, 8), (8, 5), (0, 99)]), ((526, 250, 2, -1, 1, 0, 0, 4), [(8, 7), (8, 9), (1, 8), (8, 8)]), ((530, 253, 3, 11, 1, 0, 0, 4), [(8, 18), (8, 21), (1, 8), (8, 20), (0, 100)])]
set_option maxRecDepth 100000 in
theorem q_xG11_0 : (((q_gx11).take 20).all (fun e => q_ckG "SlipDrawerModel" e.1 e.2)) = true := by decide +kernel
set_option maxRecDepth 100000 in
theorem q_xG11_1 : ((((q_gx11).drop 20).take 20).all (fun e => q_ckG "SlipDrawerModel" e.1 e.2)) = true := by decide +kernel
set_option maxRecDepth 100000 in
theorem q_xG11_2 : (((((q_gx11).drop 20).drop 20).take 20).all (fun e => q_ckG "SlipDrawerModel" e.1 e.2)) = true := by decide +kernel
set_option maxRecDepth 100000 in
theorem q_xG11_3 : (((((q_gx11).drop 20).drop 20).drop 20).all (fun e => q_ckG "SlipDrawerModel" e.1 e.2)) = true := by decide +kernel
theorem q_xG11 : (q_gx11.all (fun e => q_ckG "SlipDrawerModel" e.1 e.2)) = true := q_sp 20 q_xG11_0 (q_sp 20 q_xG11_1 (q_sp 20 q_xG11_2 (q_xG11_3)))
set_option maxRecDepth 100000 in
theorem q_xP11_0 : (((q_gx11).take 20).all (fun e => q_ckP "SlipDrawerModel" e.1 e.2)) = true := by decide +kernel
set_option maxRecDepth 100000 in
theorem q_xP11_1 : ((((q_gx11).drop 20).take 20).all (fun e => q_ckP "SlipDrawerModel" e.1 e.2)) = true := by decide +kernel
set_option maxRecDepth 100000 in
theorem q_xP11_2 : (((((q_gx11).drop 20).drop 20).take 20).all (fun e => q_ckP "SlipDrawerModel" e.1 e.2)) = true := by decide +kernel
set_option maxRecDepth 100000 in
theorem q_xP11_3 : (((((q_gx11).drop 20).drop 20).drop 20).all (fun e => q_ckP "SlipDrawerModel" e.1 e.2)) = true := by decide +kernel
theorem q_xP11 : (q_gx11.all (fun e => q_ckP "SlipDrawerModel" e.1 e.2)) = true := q_sp 20 q_xP11_0 (q_sp 20 q_xP11_1 (q_sp 20 q_xP11_2 (q_xP11_3)))
theorem q_hG11 {Ts : List Cond} (hTs : ∀ w ∈ q_tbl2, w ∈ Ts) : ∀ ix cl, q_G11 ix = some cl → q_okG Ts "SlipDrawerModel" q_y q_b q_nl q_rtt q_ws q_Pr 264 ix cl := fun ix cl h => q_okG_of q_xG11 q_cwA hTs ix cl h
theorem q_hP11 {Ts : List Cond} (hTs : ∀ w ∈ q_tbl2, w ∈ Ts) : ∀ ix cl, q_G11 ix = some cl → q_okP Ts "SlipDrawerModel" ix cl := fun ix cl h => q_okP_of q_xP11 hTs ix cl h
set_option maxRecDepth 100000 in
theorem q_xF12 : (([] : List ((Nat × Int × Int × Bool × Bool) × List (Nat × Nat))).all (fun e => q_ckF "java/lang/Math" (-1) e.1 e.2)) = true := by decide +kernel
theorem q_hF12 {Ts : List Cond} (hTs : ∀ w ∈ q_tbl2, w ∈ Ts) : ∀ ix e, q_F12 ix = some e → q_okF Ts "java/lang/Math" (-1) ix e := fun ix e h => q_okF_of q_xF12 hTs ix e h
set_option maxRecDepth 100000 in
theorem q_xK12 : (([] : List ((Nat × qV) × List (Nat × Nat))).all (fun e => q_ckK "java/lang/Math" e.1 e.2)) = true := by decide +kernel
theorem q_hK12 {Ts : List Cond} (hTs : ∀ w ∈ q_tbl2, w ∈ Ts) {z : Nat × Nat × Nat} {s : State} (hS : vk_R "SlipDrawer$Tokens" 66 q_text z.2.1 s) : ∀ ix v, q_K12 ix = some v → q_okK Ts "java/lang/Math" ix v (vk_R "java/lang/Math" ix q_text z.2.1 s) := fun ix v h => q_okK_of q_xK12 hTs hS ix v h
set_option maxRecDepth 100000 in
theorem q_xN12 : (([] : List ((Nat × Int) × List (Nat × Nat))).all (fun e => q_ckN "java/lang/Math" e.1 e.2)) = true := by decide +kernel
theorem q_hN12 {Ts : List Cond} (hTs : ∀ w ∈ q_tbl2, w ∈ Ts) : ∀ ix ci, q_N12 ix = some ci → q_okN Ts "java/lang/Math" ix ci := fun ix ci h => q_okN_of q_xN12 hTs ix ci h
def q_gx12 : List ((Nat × qCl) × List (Nat × Nat)) := []
set_option maxRecDepth 100000 in
theorem q_xG12_0 : ((q_gx12).all (fun e => q_ckG "java/lang/Math" e.1 e.2)) = true := by decide +kernel
theorem q_xG12 : (q_gx12.all (fun e => q_ckG "java/lang/Math" e.1 e.2)) = true := q_xG12_0
set_option maxRecDepth 100000 in
theorem q_xP12_0 : ((q_gx12).all (fun e => q_ckP "java/lang/Math" e.1 e.2)) = true := by decide +kernel
theorem q_xP12 : (q_gx12.all (fun e => q_ckP "java/lang/Math" e.1 e.2)) = true := q_xP12_0
theorem q_hG12 {Ts : List Cond} (hTs : ∀ w ∈ q_tbl2, w ∈ Ts) : ∀ ix cl, q_G12 ix = some cl → q_okG Ts "java/lang/Math" q_y q_b q_nl q_rtt q_ws q_Pr 264 ix cl := fun ix cl h => q_okG_of q_xG12 q_cwA hTs ix cl h
theorem q_hP12 {Ts : List Cond} (hTs : ∀ w ∈ q_tbl2, w ∈ Ts) : ∀ ix cl, q_G12 ix = some cl → q_okP Ts "java/lang/Math" ix cl := fun ix cl h => q_okP_of q_xP12 hTs ix cl h
set_option maxRecDepth 100000 in
theorem q_xF13 : (([] : List ((Nat × Int × Int × Bool × Bool) × List (Nat × Nat))).all (fun e => q_ckF "java/util/Arrays" (-1) e.1 e.2)) = true := by decide +kernel
theorem q_hF13 {Ts : List Cond} (hTs : ∀ w ∈ q_tbl2, w ∈ Ts) : ∀ ix e, q_F13 ix = some e → q_okF Ts "java/util/Arrays" (-1) ix e := fun ix e h => q_okF_of q_xF13 hTs ix e h
set_option maxRecDepth 100000 in
theorem q_xK13 : (([] : List ((Nat × qV) × List (Nat × Nat))).all (fun e => q_ckK "java/util/Arrays" e.1 e.2)) = true := by decide +kernel
theorem q_hK13 {Ts : List Cond} (hTs : ∀ w ∈ q_tbl2, w ∈ Ts) {z : Nat × Nat × Nat} {s : State} (hS : vk_R "SlipDrawer$Tokens" 66 q_text z.2.1 s) : ∀ ix v, q_K13 ix = some v → q_okK Ts "java/util/Arrays" ix v (vk_R "java/util/Arrays" ix q_text z.2.1 s) := fun ix v h => q_okK_of q_xK13 hTs hS ix v h
set_option maxRecDepth 100000 in
theorem q_xN13 : (([] : List ((Nat × Int) × List (Nat × Nat))).all (fun e => q_ckN "java/util/Arrays" e.1 e.2)) = true := by decide +kernel
theorem q_hN13 {Ts : List Cond} (hTs : ∀ w ∈ q_tbl2, w ∈ Ts) : ∀ ix ci, q_N13 ix = some ci → q_okN Ts "java/util/Arrays" ix ci := fun ix ci h => q_okN_of q_xN13 hTs ix ci h
def q_gx13 : List ((Nat × qCl) × List (Nat × Nat)) := [((150, 1001, 5, -1, 0, 0, 0, 100), [(2, 36), (2, 38), (2, 37), (1, 12)]), ((304, 260, 2, -1, 1, 0, 0, 2), [(2, 33), (2, 35), (1, 11), (2, 34)]), ((316, 1004, 1, -1, 3, 0, 0, 100), [(2, 26), (2, 27), (2, 28), (2, 29), (2, 30), (2, 31)])]
set_option maxRecDepth 100000 in
theorem q_xG13_0 : ((q_gx13).all (fun e => q_ckG "java/util/Arrays" e.1 e.2)) = true := by decide +kernel
theorem q_xG13 : (q_gx13.all (fun e => q_ckG "java/util/Arrays" e.1 e.2)) = true := q_xG13_0
set_option maxRecDepth 100000 in
theorem q_xP13_0 : ((q_gx13).all (fun e => q_ckP "java/util/Arrays" e.1 e.2)) = true := by decide +kernel
theorem q_xP13 : (q_gx13.all (fun e => q_ckP "java/util/Arrays" e.1 e.2)) = true := q_xP13_0
theorem q_hG13 {Ts : List Cond} (hTs : ∀ w ∈ q_tbl2, w ∈ Ts) : ∀ ix cl, q_G13 ix = some cl → q_okG Ts "java/util/Arrays" q_y q_b q_nl q_rtt q_ws q_Pr 264 ix cl := fun ix cl h => q_okG_of q_xG13 q_cwA hTs ix cl h
theorem q_hP13 {Ts : List Cond} (hTs : ∀ w ∈ q_tbl2, w ∈ Ts) : ∀ ix cl, q_G13 ix = some cl → q_okP Ts "java/util/Arrays" ix cl := fun ix cl h => q_okP_of q_xP13 hTs ix cl h
set_option maxRecDepth 100000 in
theorem q_xF14 : (([] : List ((Nat × Int × Int × Bool × Bool) × List (Nat × Nat))).all (fun e => q_ckF "SlipDrawerLaw" (-1) e.1 e.2)) = true := by decide +kernel
theorem q_hF14 {Ts : List Cond} (hTs : ∀ w ∈ q_tbl2, w ∈ Ts) : ∀ ix e, q_F14 ix = some e → q_okF Ts "SlipDrawerLaw" (-1) ix e := fun ix e h => q_okF_of q_xF14 hTs ix e h
set_option maxRecDepth 100000 in
theorem q_xK14 : (([] : List ((Nat × qV) × List (Nat × Nat))).all (fun e => q_ckK "SlipDrawerLaw" e.1 e.2)) = true := by decide +kernel
theorem q_hK14 {Ts : List Cond} (hTs : ∀ w ∈ q_tbl2, w ∈ Ts) {z : Nat × Nat × Nat} {s : State} (hS : vk_R "SlipDrawer$Tokens" 66 q_text z.2.1 s) : ∀ ix v, q_K14 ix = some v → q_okK Ts "SlipDrawerLaw" ix v (vk_R "SlipDrawerLaw" ix q_text z.2.1 s) := fun ix v h => q_okK_of q_xK14 hTs hS ix v h
set_option maxRecDepth 100000 in
theorem q_xN14 : (([((7, 10), [(1, 20), (1, 21), (1, 1)]), ((10, 11), [(5, 44), (5, 45), (1, 8)])] : List ((Nat × Int) × List (Nat × Nat))).all (fun e => q_ckN "SlipDrawerLaw" e.1 e.2)) = true := by decide +kernel
theorem q_hN14 {Ts : List Cond} (hTs : ∀ w ∈ q_tbl2, w ∈ Ts) : ∀ ix ci, q_N14 ix = some ci → q_okN Ts "SlipDrawerLaw" ix ci := fun ix ci h => q_okN_of q_xN14 hTs ix ci h
def q_gx14 : List ((Nat × qCl) × List (Nat × Nat)) := [((9, 96, 1, 10, 0, 70, 10000, 1), [(1, 22), (1, 24), (1, 1), (1, 23)]), ((12, 145, 1, 11, 0, 100, 110000, 1), [(5, 46), (5, 48), (1, 8), (5, 47)]), ((13, 97, 6, 10, 1, 0, 0, 6), [(1, 205), (1, 208), (1, 1), (1, 206), (1, 207)]), ((17, 147, 6, 11, 1, 0, 0, 8), [(6, 59), (6, 62), (1, 8), (6, 60), (6, 61)]), ((18, 98, 2, 10, 4, 0, 0, 2), [(1, 213), (1, 216), (1, 1), (1, 214), (1, 215)]), ((22, 148, 2, 11, 4, 0, 0, 2), [(6, 63), (6, 66), (1, 8), (6, 64), (6, 65)]), ((23, 99, 4, 10, 1, 0, 0, 6), [(1, 217), (1, 220), (1, 1), (1, 218), (1, 219)]), ((27, 162, 4, 11, 1, 0, 0, 7), [(6, 67), (6, 70), (1, 8), (6, 68), (6, 69)]), ((28, 100, 7, 10, 1, 25, 10650, 10), [(2, 14), (2, 17), (1, 1), (2, 15), (2, 16)]), ((32, 163, 7, 11, 1, 0, 0, 11), [(6, 91), (6, 94), (1, 8), (6, 92), (6, 93)]), ((33, 101, 2, 10, 1, 0, 0, 2), [(2, 106), (2, 109), (1, 1), (2, 107), (2, 108)]), ((37, 166, 2, 11, 1, 0, 0, 4), [(6, 95), (6, 98), (1, 8), (6, 96), (6, 97)]), ((38, 102, 2, 10, 1, 10, 6399, 2), [(2, 114), (2, 117), (1, 1), (2, 115), (2, 116)]), ((41, 185, 2, 11, 1, 0, 0, 2), [(6, 99), (6, 102), (1, 8), (6, 100), (6, 101)]), ((42, 103, 1, 10, 1, 10, 6399, 1), [(3, 111), (3, 114), (1, 1), (3, 112), (3, 113)]), ((46, 186, 1, 11, 1, 0, 0, 1), [(6, 214), (6, 217), (1, 8), (6, 215), (6, 216)]), ((47, 104, 2, 10, 1, 0, 0, 2), [(3, 115), (3, 118), (1, 1), (3, 116), (3, 117)]), ((50, 187, 2, 11, 1, 0, 0, 2), [(6, 218), (6, 221), (1, 8), (6, 219), (6, 220)]), ((51, 105, 2, 10, 1, 0, 0, 3), [(3, 119), (3, 122), (1, 1), (3, 120), (3, 121)]), ((54, 203, 2, 11, 1, 0, 0, 2), [(6, 222), (6, 225), (1, 8), (6, 223), (6, 224)]), ((55, 106, 4, 10, 1, 0, 0, 5), [(3, 224), (3, 227), (1, 1), (3, 225), (3, 226)]), ((58, 204, 4, 11, 1, 0, 0, 4), [(7, 46), (7, 49), (1, 8), (7, 47), (7, 48)]), ((59, 107, 4, 10, 1, 0, 0, 5), [(4, 43), (4, 46), (1, 1), (4, 44), (4, 45)]), ((62, 217, 4, 11, 1, 0, 0, 5), [(7, 99), (7, 102), (1, 8), (7, 100), (7, 101)]), ((63, 108, 3, 10, 1, 0, 0, 4), [(4, 55), (4, 58), (1, 1), (4, 56), (4, 57)]), ((67, 219, 3, 11, 1, 0, 0, 3), [(7, 112), (7, 115), (1, 8), (7, 113), (7, 114)]), ((68, 109, 4, 10, 1, 0, 0, 8), [(4, 68), (4, 71), (1, 1), (4, 69), (4, 70)]), ((71, 220, 4, 11, 1, 0, 0, 9), [(7, 120), (7, 123), (1, 8), (7, 121), (7, 122)]), ((72, 110, 1, 10, 4, 0, 0, 2), [(4, 80), (4, 83), (1, 1), (4, 81), (4, 82)]), ((76, 221, 1, 11, 4, 0, 0, 3), [(7, 128), (7, 131), (1, 8), (7, 129), (7, 130)]), ((77, 111, 2, 10, 1, 0, 0, 2), [(4, 94), (4, 97), (1, 1), (4, 95), (4, 96)]), ((80, 222, 2, 11, 1, 0, 0, 2), [(7, 132), (7, 135), (1, 8), (7, 133), (7, 134)]), ((81, 112, 3, 10, 1, 0, 0, 4), [(4, 102), (4, 105), (1, 1), (4, 103), (4, 104)]), ((84, 225, 3, 11, 1, 0, 0, 5), [(7, 136), (7, 139), (1, 8), (7, 137), (7, 138)]), ((85, 113, 4, 10, 1, 0, 0, 5), [(4, 125), (4, 128), (1, 1), (4, 126), (4, 127)]), ((89, 228, 4, 11, 1, 0, 0, 7), [(7, 148), (7, 151), (1, 8), (7, 149), (7, 150)]), ((90, 114, 5, 10, 1, 0, 0, 9), [(4, 137), (4, 140), (1, 1), (4, 138), (4, 139)]), ((94, 229, 5, 11, 1, 0, 0, 8), [(7, 158), (7, 161), (1, 8), (7, 159), (7, 160)]), ((95, 115, 2, 10, 1, 0, 0, 5), [(4, 141), (4, 144), (1, 1), (4, 142), (4, 143)]), ((98, 230, 2, 11, 1, 0, 0, 5), [(7, 162), (7, 165), (1, 8), (7, 163), (7, 164)]), ((99, 116, 3, 10, 1, 0, 0, 7), [(4, 149), (4, 152), (1, 1), (4, 150), (4, 151)]), ((102, 231, 3, 11, 1, 0, 0, 5), [(7, 166), (7, 169), (1, 8), (7, 167), (7, 168)]), ((103, 117, 3, 10, 1, 0, 0, 5), [(4, 153), (4, 156), (1, 1), (4, 154), (4, 155)]), ((106, 232, 3, 11, 1, 0, 0, 5), [(7, 170), (7, 173), (1, 8), (7, 171), (7, 172)]), ((107, 118, 2, 10, 1, 0, 0, 2), [(4, 161), (4, 164), (1, 1), (4, 162), (4, 163)]), ((110, 233, 2, 11, 1, 0, 0, 3), [(7, 174), (7, 177), (1, 8), (7, 175), (7, 176)]), ((111, 119, 1, 10, 1, 0, 0, 1), [(4, 174), (4, 177), (1, 1), (4, 175), (4, 176)]), ((114, 234, 1, 11, 1, 0, 0, 1), [(7, 178), (7, 181), (1, 8), (7, 179), (7, 180)]), ((115, 120, 2, 10, 1, 0, 0, 2), [(4, 178), (4, 181), (1, 1), (4, 179), (4, 180)]), ((118, 235, 2, 11, 1, 0, 0, 3), [(7, 182), (7, 185), (1, 8), (7, 183), (7, 184)]), ((119, 121, 2, 10, 1, 0, 0, 4), [(4, 183), (4, 186), (1, 1), (4, 184), (4, 185)]), ((122, 238, 2, 11, 1, 0, 0, 3), [(7, 186), (7, 189), (1, 8), (7, 187), (7, 188)]), ((123, 122, 3, 10, 1, 0, 0, 6), [(4, 187), (4, 190), (1, 1), (4, 188), (4, 189)]), ((126, 239, 3, 11, 1, 0, 0, 13), [(7, 198), (7, 201), (1, 8), (7, 199), (7, 200)]), ((127, 123, 2, 10, 1, 0, 0, 5), [(4, 199), (4, 202), (1, 1), (4, 200), (4, 201)]), ((130, 240, 2, 11, 1, 0, 0, 6), [(7, 202), (7, 205), (1, 8), (7, 203), (7, 204)]), ((131, 124, 2, 10, 1, 0, 0, 7), [(4, 203), (4, 206), (1, 1), (4, 204), (4, 205)]), ((135, 241, 2, 11, 1, 0, 0, 6), [(7, 206), (7, 209), (1, 8), (7, 207), (7, 208)]), ((136, 125, 2, 10, 1, 0, 0, 5), [(4, 211), (4, 214), (1, 1), (4, 212), (4, 213)]), ((139, 242, 2, 11, 1, 0, 0, 6), [(7, 210), (7, 213), (1, 8), (7, 211), (7, 212)]), ((140, 126, 4, 10, 1, 0, 0, 5), [(4, 219), (4, 222), (1, 1), (4, 220), (4, 221)]), ((143, 244, 4, 11, 1, 0, 0, 4), [(7, 214), (7, 217), (1, 8), (7, 215), (7, 216)]), ((144, 127, 1, 10, 1, 0, 0, 6), [(4, 231), (4, 234), (1, 1), (4, 232), (4, 233)]), ((147, 245, 1, 11, 1, 0, 0, 7), [(7, 222), (7, 225), (1, 8), (7, 223), (7, 224)]), ((148, 128, 4, 10, 1, 0, 0, 7), [(4, 239), (5, 2), (1, 1), (5, 0), (5, 1)]), ((151, 205, 4, 11, 1, 0, 0, 6), [(7, 91), (7, 94), (1, 8), (7, 92), (7, 93)]), ((152, 129, 5, 10, 1, 0, 0, 8), [(5, 3), (5, 6), (1, 1), (5, 4), (5, 5)]), ((155, 247, 5, 11, 1, 0, 0, 8), [(7, 227), (7, 230), (1, 8), (7, 228), (7, 229)]), ((156, 130, 5, 10, 1, 0, 0, 10), [(5, 7), (5, 10), (1, 1), (5, 8), (5, 9)]), ((159, 248, 5, 11, 1, 0, 0, 12), [(7, 235), (7, 238), (1, 8), (7, 236), (7, 237)]), ((160, 131, 1, 10, 1, 0, 0, 1), [(5, 11), (5, 14), (1, 1), (5, 12), (5, 13)]), ((163, 251, 1, 11, 1, 0, 0, 3), [(7, 239), (8, 2), (1, 8), (8, 0), (8, 1)]), ((164, 132, 2, 10, 1, 0, 0, 2), [(5, 23), (5, 26), (1, 1), (5, 24), (5, 25)]), ((167, 252, 2, 11, 1, 0, 0, 2), [(8, 10), (8, 13), (1, 8), (8, 11), (8, 12)]), ((168, 133, 1, 10, 4, 0, 0, 2), [(5, 27), (5, 30), (1, 1), (5, 28), (5, 29)]), ((171, 254, 1, 11, 4, 0, 0, 5), [(8, 14), (8, 17), (1, 8), (8, 15), (8, 16)])]
set_option maxRecDepth 100000 in
theorem q_xG14_0 : (((q_gx14).take 20).all (fun e => q_ckG "SlipDrawerLaw" e.1 e.2)) = true := by decide +kernel
set_option maxRecDepth 100000 in
theorem q_xG14_1 : ((((q_gx14).drop 20).take 20).all (fun e => q_ckG "SlipDrawerLaw" e.1 e.2)) = true := by decide +kernel
set_option maxRecDepth 100000 in
theorem q_xG14_2 : (((((q_gx14).drop 20).drop 20).take 20).all (fun e => q_ckG "SlipDrawerLaw" e.1 e.2)) = true := by decide +kernel
set_option maxRecDepth 100000 in
theorem q_xG14_3 : (((((q_gx14).drop 20).drop 20).drop 20).all (fun e => q_ckG "SlipDrawerLaw" e.1 e.2)) = true := by decide +kernel
theorem q_xG14 : (q_gx14.all (fun e => q_ckG "SlipDrawerLaw" e.1 e.2)) = true := q_sp 20 q_xG14_0 (q_sp 20 q_xG14_1 (q_sp 20 q_xG14_2 (q_xG14_3)))
set_option maxRecDepth 100000 in
theorem q_xP14_0 : (((q_gx14).take 20).all (fun e => q_ckP "SlipDrawerLaw" e.1 e.2)) = true := by decide +kernel
set_option maxRecDepth 100000 in
theorem q_xP14_1 : ((((q_gx14).drop 20).take 20).all (fun e => q_ckP "SlipDrawerLaw" e.1 e.2)) = true := by decide +kernel
set_option maxRecDepth 100000 in
theorem q_xP14_2 : (((((q_gx14).drop 20).drop 20).take 20).all (fun e => q_ckP "SlipDrawerLaw" e.1 e.2)) = true := by decide +kernel
set_option maxRecDepth 100000 in
theorem q_xP14_3 : (((((q_gx14).drop 20).drop 20).drop 20).all (fun e => q_ckP "SlipDrawerLaw" e.1 e.2)) = true := by decide +kernel
theorem q_xP14 : (q_gx14.all (fun e => q_ckP "SlipDrawerLaw" e.1 e.2)) = true := q_sp 20 q_xP14_0 (q_sp 20 q_xP14_1 (q_sp 20 q_xP14_2 (q_xP14_3)))
theorem q_hG14 {Ts : List Cond} (hTs : ∀ w ∈ q_tbl2, w ∈ Ts) : ∀ ix cl, q_G14 ix = some cl → q_okG Ts "SlipDrawerLaw" q_y q_b q_nl q_rtt q_ws q_Pr 264 ix cl := fun ix cl h => q_okG_of q_xG14 q_cwA hTs ix cl h
theorem q_hP14 {Ts : List Cond} (hTs : ∀ w ∈ q_tbl2, w ∈ Ts) : ∀ ix cl, q_G14 ix = some cl → q_okP Ts "SlipDrawerLaw" ix cl := fun ix cl h => q_okP_of q_xP14 hTs ix cl h
set_option maxRecDepth 100000 in
theorem q_wArr : (q_ck (1, 46) (Cond.arrayClass .byte) && q_ck (6, 58) (Cond.arrayClass .char) && q_ck (1, 91) (Cond.arrayClass .int) && q_ck (1, 92) (Cond.arrayClass .long) && q_ck (2, 105) (Cond.arrayClass .boolean) && q_ck (1, 94) (Cond.arrayOver (.object "SlipDrawer$Meant")) && q_ck (1, 96) (Cond.arrayOver (.object "SlipDrawer$Script")) && q_ck (1, 135) (Cond.arrayOver (.object "SlipDrawer$Speech")) && q_ck (2, 44) (Cond.arrayOver (.array .int))) = true := by decide +kernel
theorem q_hW : ∀ Ts, (∀ w ∈ q_tbl2, w ∈ Ts) → q_okW Ts := by
  intro Ts hTs
  have h := q_wArr
  simp only [Bool.and_eq_true] at h
  obtain ⟨⟨⟨⟨⟨⟨⟨⟨h1, h2⟩, h3⟩, h4⟩, h5⟩, h6⟩, h7⟩, h8⟩, h9⟩ := h
  refine ⟨fun at_ hb => ?_, fun ci hb => ?_, hTs _ (q_ck_in h9), fun ci hci => ⟨_, _, _, q_ClA hTs ci hci, fun hb => ?_⟩⟩
  · cases at_ with
    | byte => exact hTs _ (q_ck_in h1)
    | char => exact hTs _ (q_ck_in h2)
    | int => exact hTs _ (q_ck_in h3)
    | long => exact hTs _ (q_ck_in h4)
    | boolean => exact hTs _ (q_ck_in h5)
    | _ => cases hb
  · unfold q_akb at hb
    split at hb
    · exact hTs _ (q_ck_in h6)
    · exact hTs _ (q_ck_in h7)
    · exact hTs _ (q_ck_in h8)
    · cases hb
  · have : ci = 0 ∨ ci = 1 ∨ ci = 2 ∨ ci = 3 ∨ ci = 4 ∨ ci = 5 ∨ ci = 6 ∨ ci = 7 ∨ ci = 8 ∨ ci = 9 ∨ ci = 10 ∨ ci = 11 := by omega
    rcases this with rfl | rfl | rfl | rfl | rfl | rfl | rfl | rfl | rfl | rfl | rfl | rfl <;> first | rfl | (cases hb)
set_option maxRecDepth 100000 in
theorem q_wCast : q_ck (2, 32) (Cond.classLink "java/util/Arrays" 317 "[I") = true := by decide +kernel
end
