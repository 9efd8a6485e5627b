-- ===== end of PART A; then your names; then what follows =====
/-! THE CLAIM OUT OF ONE WALK OF THE LAW'S BODY. Your part is whole_start (and what it stands on); all else here is the same for every law, but numbers. -/
def R_law : String := "SlipDrawerLaw"
def lw_P (b : Addr) (xs : List Int32) (args : Array Value) (s : State) : Prop := args = #[.ref b] ∧ s.IntsAt b xs ∧ xs.length ≤ 3584 ∧ (Jvm.Cond.and given_1 narrow_1).before args s = true
def lw_Q (_ : Array Value) (s : State) (o : Outcome) (t : State) : Prop := o = .returned (some (.int 1)) ∧ Framed s o t [] 600000 7302250
def lw_Z (below : List Frame) (a : Array Value) (s : State) : State → Prop := fun t => ∃ o, t.status = .running ∧ Ended t below o ∧ lw_Q a s o t
/-- the law's own end, with 1 on the stack, nothing written that was there before, its room as the claim has it -/
theorem lw_ret {p : Program} {l : Launch} {e : Env} {s : State} {m : MethodId} {below : List Frame} {meth : Method} {c : Code} {b : Nat} (hx : p.tables.exec = Jvm.exec) (hb : c.code = code) (hr : meth.sig.returnType = ret) (hlocks : meth.locks = false) {pc : Nat} {H : Heap} {ls : Array Slot} (hdg : decode code pc = .ok (.ireturn, 1)) : W p l e room_1 s m #[Value.ref b] below meth c H [] 600000 7302250 (lw_Z below #[Value.ref b] s) (F0 m pc ls [.int 1]) := by
  intro T hT X
  obtain ⟨fs, hret, hrun, hended, hW, hframe⟩ := X.leave (v := some (.int 1)) (hlocks := hlocks) (fun h => by rw [hr] at h; cases h)
  have hmeth' : T.vm.method? m = some meth := X.method'
  refine ⟨T.setFrames fs, ?_, .returned (some (.int 1)), hrun, hended, rfl, ⟨_, rfl⟩, hW, hframe⟩
  jvm_step X.here [X.here.top, hx, hb, hdg, hmeth', hr, ret, narrow_b1]
  (try refine ⟨rfl, ?_⟩); (try refine ⟨rfl, ?_⟩)
  first | (intro acts; rw [hret _ acts rfl rfl rfl]) | rw [hret _ _ rfl rfl rfl]
  exact Steps.refl _
/-- what holds at the law's entry: the machine, the code, the tables' words (any of lw_tbl by 'hts w (by decide +kernel)'), the script of L ints xs at the cell b, what the Statement gives of the start (any of its parts by flat_of_before) -/
def lw_At (p : Program) (s : State) (m : MethodId) (meth : Method) (c : Code) (b L : Nat) (xs : Nat → Int32) : Prop :=
  p.tables.exec = Jvm.exec ∧ c.code = code ∧ meth.sig.returnType = ret ∧ c.maxLocals = 4 ∧ s.vm.findClass R_law = some m.cls ∧ (∀ w ∈ lw_tbl, w.before #[Value.ref b] s = true) ∧ va_X b L xs s s.heap ∧ b < s.heap.size ∧ meth.locks = false ∧ (Jvm.Cond.and given_1 narrow_1).before #[Value.ref b] s = true
section
/-- the memory at the start: nothing but the script -/
def q_M0 (L : Nat) (xs : Nat → Int32) : qM := (0, (fun a => if a = -3 then (14, (L : Int)) else (-1, 0)), (fun _ _ => -1), fun a j => if a = -3 then (xs j.toNat).toInt else 0)
set_option maxRecDepth 100000 in
theorem q_bad_lw : ∀ w ∈ q_bad, w ∈ lw_tbl := by decide +kernel
theorem q_tbl2_lw : ∀ w ∈ q_tbl2, w ∈ lw_tbl := fun w h => (List.mem_append.mp h).elim (fun g => (List.mem_filter.mp g).1) (q_bad_lw w)
theorem q_wf0 {L : Nat} {xs : Nat → Int32} (hL : L ≤ 3584) : q_wf (q_M0 L xs) := by
  refine ⟨Int.le_refl 0, fun a h0 h1 => ?_, fun a _ h3 => ?_, ⟨rfl, ?_, ?_⟩, fun a j => Int.le_refl (-1), fun a j => ?_⟩
  · have h1 : a < 0 := h1
    omega
  · show (if a = -3 then ((14 : Int), (L : Int)) else (-1, 0)).1 = -1
    rw [if_neg h3]
  · show (0 : Int) ≤ (L : Int)
    omega
  · show (L : Int) ≤ 1000000
    omega
  · show q_inr (if a = -3 then ((14 : Int), (L : Int)) else (-1, 0)).1 (if a = -3 then (xs j.toNat).toInt else 0)
    by_cases h : a = -3
    · rw [if_pos h, if_pos h]
      exact q_r32 _
    · rw [if_neg h, if_neg h]
      exact q_inr0 _
set_option maxRecDepth 100000 in
theorem q_ins0 : Cond.instantiable (q_cN 0) (q_cNN 0) ∈ q_tbl2 := q_ck_in (x := (1, 98)) (by decide +kernel)
set_option maxRecDepth 100000 in
theorem q_ins1 : Cond.instantiable (q_cN 1) (q_cNN 1) ∈ q_tbl2 := q_ck_in (x := (2, 22)) (by decide +kernel)
set_option maxRecDepth 100000 in
theorem q_ins2 : Cond.instantiable (q_cN 2) (q_cNN 2) ∈ q_tbl2 := q_ck_in (x := (1, 129)) (by decide +kernel)
set_option maxRecDepth 100000 in
theorem q_ins3 : Cond.instantiable (q_cN 3) (q_cNN 3) ∈ q_tbl2 := q_ck_in (x := (1, 154)) (by decide +kernel)
set_option maxRecDepth 100000 in
theorem q_ins4 : Cond.instantiable (q_cN 4) (q_cNN 4) ∈ q_tbl2 := q_ck_in (x := (2, 123)) (by decide +kernel)
set_option maxRecDepth 100000 in
theorem q_ins5 : Cond.instantiable (q_cN 5) (q_cNN 5) ∈ q_tbl2 := q_ck_in (x := (2, 129)) (by decide +kernel)
set_option maxRecDepth 100000 in
theorem q_ins6 : Cond.instantiable (q_cN 6) (q_cNN 6) ∈ q_tbl2 := q_ck_in (x := (1, 112)) (by decide +kernel)
set_option maxRecDepth 100000 in
theorem q_ins7 : Cond.instantiable (q_cN 7) (q_cNN 7) ∈ q_tbl2 := q_ck_in (x := (1, 29)) (by decide +kernel)
set_option maxRecDepth 100000 in
theorem q_ins8 : Cond.instantiable (q_cN 8) (q_cNN 8) ∈ q_tbl2 := q_ck_in (x := (2, 162)) (by decide +kernel)
set_option maxRecDepth 100000 in
theorem q_ins9 : Cond.instantiable (q_cN 9) (q_cNN 9) ∈ q_tbl2 := q_ck_in (x := (1, 48)) (by decide +kernel)
set_option maxRecDepth 100000 in
theorem q_ins10 : Cond.instantiable (q_cN 10) (q_cNN 10) ∈ q_tbl2 := q_ck_in (x := (1, 21)) (by decide +kernel)
set_option maxRecDepth 100000 in
theorem q_ins11 : Cond.instantiable (q_cN 11) (q_cNN 11) ∈ q_tbl2 := q_ck_in (x := (5, 45)) (by decide +kernel)
theorem q_insA : ∀ ci : Nat, ci < 12 → Cond.instantiable (q_cN ci) (q_cNN ci) ∈ q_tbl2 := lt_s (lt_s (lt_s (lt_s (lt_s (lt_s (lt_s (lt_s (lt_s (lt_s (lt_s (lt_s (lt_0) q_ins0) q_ins1) q_ins2) q_ins3) q_ins4) q_ins5) q_ins6) q_ins7) q_ins8) q_ins9) q_ins10) q_ins11
theorem q_vwOut {ci : Nat} (h : ¬ ci < 12) : vwCl[ci]? = none := List.getElem?_eq_none (Nat.le_of_not_lt h)
theorem q_known {s : State} {args : Array Value} (hts : ∀ w ∈ q_tbl2, w.before args s = true) : ∃ (D : va_G) (cA : Nat → ClassId), va_K D vwCl (q_tys cA) s := by
  have h0 : ∀ ci : Nat, ∃ q : ClassId × (Nat → Nat), ∀ r : vw_C, vwCl[ci]? = some r → u_Kn s r.1 r.2.1 r.2.2 q.1 q.2 := by
    intro ci
    by_cases hci : ci < 12
    · have hC := q_ClA (Ts := q_tbl2) (fun w h => h) ci hci
      obtain ⟨cC, iS, hk⟩ := u_known (n := q_cNN ci) hts hC.2.2.2.1 (hts _ (q_insA ci hci))
      refine ⟨(cC, iS), fun r hr => ?_⟩
      have e : r = (q_cN ci, q_cT ci, q_cNN ci) := Option.some.inj (hr.symm.trans hC.2.1)
      rw [e]
      exact hk
    · exact ⟨(0, fun _ => 0), fun r hr => by rw [q_vwOut hci] at hr; cases hr⟩
  obtain ⟨ad, had⟩ := Classical.axiomOfChoice h0
  have arr : ∀ ty : FieldType, (Cond.arrayClass ty) ∈ q_tbl2 → (∀ C, ty ≠ .object C) → ∃ c : ClassId, ArrOfT s c ty ∧ va_RA s c ty := by
    intro ty hm hno
    obtain ⟨c, k, comp, h1, h2, h3⟩ := Cond.arrayClass_spec (hts _ hm)
    refine ⟨c, fun n z => ⟨fun k h => (by cases h), k, h2, comp, h3⟩, ?_⟩
    cases ty with
    | object C => exact absurd rfl (hno C)
    | _ => exact h1
  have obj : ∀ C : String, (Cond.arrayOver (.object C)) ∈ q_tbl2 → ∃ c : ClassId, ArrOfT s c (.object C) ∧ va_RA s c (.object C) := by
    intro C hm
    obtain ⟨comp, c, k, h1, -, h3, h4, h5⟩ := Cond.arrayOver_spec (hts _ hm)
    exact ⟨c, fun n z => ⟨fun k h => (by cases h), k, h3, comp, h4⟩, k, comp, h3, h4, h1, h5⟩
  have hW := q_hW q_tbl2 (fun w h => h)
  obtain ⟨c12, a12⟩ := arr .byte (hW.1 .byte rfl) (fun C h => by cases h)
  obtain ⟨c13, a13⟩ := arr .char (hW.1 .char rfl) (fun C h => by cases h)
  obtain ⟨c14, a14⟩ := arr .int (hW.1 .int rfl) (fun C h => by cases h)
  obtain ⟨c15, a15⟩ := arr .long (hW.1 .long rfl) (fun C h => by cases h)
  obtain ⟨c16, a16⟩ := arr .boolean (hW.1 .boolean rfl) (fun C h => by cases h)
  obtain ⟨c17, a17⟩ := obj "SlipDrawer$Meant" (hW.2.1 1 rfl)
  obtain ⟨c18, a18⟩ := obj "SlipDrawer$Script" (hW.2.1 5 rfl)
  obtain ⟨c19, a19⟩ := obj "SlipDrawer$Speech" (hW.2.1 6 rfl)
  have a20 : ∃ c : ClassId, ArrOfT s c (.array .int) ∧ va_RA s c (.array .int) := by
    obtain ⟨comp, c, k, h1, -, h3, h4, h5⟩ := arrayOverA_spec (hts _ hW.2.2.1)
    exact ⟨c, fun n z => ⟨fun k h => (by cases h), k, h3, comp, h4⟩, h5⟩
  obtain ⟨c20, a20⟩ := a20
  refine ⟨(fun k => (ad k).1, fun k => (ad k).2), (fun k => [c12, c13, c14, c15, c16, c17, c18, c19, c20].getD (k - 12) 0), fun ci r hr => had ci r hr, fun k q hq => ?_⟩
  rcases k with _ | _ | _ | _ | _ | _ | _ | _ | _ | k
  · cases hq; exact a12
  · cases hq; exact a13
  · cases hq; exact a14
  · cases hq; exact a15
  · cases hq; exact a16
  · cases hq; exact a17
  · cases hq; exact a18
  · cases hq; exact a19
  · cases hq; exact a20
  · have : (q_tys (fun k => [c12, c13, c14, c15, c16, c17, c18, c19, c20].getD (k - 12) 0))[k + 1 + 1 + 1 + 1 + 1 + 1 + 1 + 1 + 1]? = none := List.getElem?_eq_none (by show 9 ≤ _; omega)
    rw [this] at hq
    cases hq
def q_tmT : Term := Term.string "SlipDrawer$Tokens" 66
def q_tmV : Term := Term.field q_tmT "java/lang/String" "value" "[B"
def q_txt32 : List Int32 := q_txt.map Int32.ofInt
set_option maxRecDepth 100000 in
theorem q_f1 : Cond.exactly q_tmT "java/lang/String" ∈ flatC (Jvm.Cond.and given_1 narrow_1) := by decide +kernel
set_option maxRecDepth 100000 in
theorem q_f2 : Cond.eq (.field q_tmT "java/lang/String" "coder" "B") (.int 0) ∈ flatC (Jvm.Cond.and given_1 narrow_1) := by decide +kernel
set_option maxRecDepth 100000 in
theorem q_f3 : Cond.arrayOf q_tmV .byte ∈ flatC (Jvm.Cond.and given_1 narrow_1) := by decide +kernel
set_option maxRecDepth 100000 in
theorem q_f4 : Cond.eq (.length q_tmV) (.int 117) ∈ flatC (Jvm.Cond.and given_1 narrow_1) := by decide +kernel
set_option maxRecDepth 100000 in
theorem q_f5 : ∀ j : Nat, j < 117 → Cond.eq (.elem q_tmV (.int (Int32.ofNat j))) (.int (q_txt32.getD j 0)) ∈ flatC (Jvm.Cond.and given_1 narrow_1) := by decide +kernel
set_option maxRecDepth 100000 in
theorem q_f6 : Cond.eq (.static "java/lang/String" "COMPACT_STRINGS" "Z") (.int 1) ∈ flatC (Jvm.Cond.and given_1 narrow_1) := by decide +kernel
set_option maxRecDepth 100000 in
theorem q_f7 : Cond.isRef (.static "jdk/internal/util/Preconditions" "SIOOBE_FORMATTER" "Ljava/util/function/BiFunction;") ∈ flatC (Jvm.Cond.and given_1 narrow_1) := by decide +kernel
/-- the text constant at the start -/
theorem q_Sy0 {s : State} {args : Array Value} (hts : ∀ w ∈ lw_tbl, w.before args s = true) (hgv : (Jvm.Cond.and given_1 narrow_1).before args s = true) : ∃ sa va, q_Sy sa va (fun q => s.heap.size ≤ q) s s.heap := by
  have hs := flat_of_before _ hgv
  have hA : ∀ a : Nat, a < s.heap.size → ¬ (fun q => s.heap.size ≤ q) a := fun a h => Nat.not_le_of_lt h
  obtain ⟨adK, adV, hS, hE⟩ := vk_Sof (args := args) (s := s) (N := 1) (tm := fun _ => q_tmT) (len := [117]) (byt := [q_txt32]) (A := fun q => s.heap.size ≤ q)
    (fun i hi => by have : i = 0 := by omega
                    subst this; decide)
    (fun i hi => hs _ q_f1) (fun i hi => hs _ q_f2) (fun i hi => hs _ q_f3)
    (fun i hi => by have : i = 0 := by omega
                    subst this; exact hs _ q_f4)
    (fun i hi j hj => by have : i = 0 := by omega
                         subst this; exact hs _ (q_f5 j hj))
    (fun i j hi hj hne => absurd (show i = j by omega) hne) hA
  obtain ⟨h1, h2, h3, h4⟩ := hS.1 0 (by omega)
  refine ⟨adK 0, adV 0, vk_R.of (hts _ (q_tj_in (j := 2) (i := 235) rfl)) (hE 0 (by omega)), h1, h2, h3, ?_, va_Zof (hts _ (q_tj_in (j := 3) (i := 5) rfl)) (hts _ (q_tj_in (j := 1) (i := 16) rfl)) (va_eqi (hs _ q_f6)) hA, va_Zqof (hts _ (q_tj_in (j := 3) (i := 21) rfl)) (hts _ (q_tj_in (j := 1) (i := 18) rfl)) (hs _ q_f7) hA⟩
  have e : (fun j : Nat => (Value.int ((([q_txt32] : List (List Int32)).getD 0 []).getD j 0))) = fun j => .int (Int32.ofInt (q_txt.getD j 0)) := by
    funext j
    show Value.int (q_txt32.getD j 0) = _
    congr 1
    unfold q_txt32
    rw [List.getD_eq_getElem?_getD, List.getD_eq_getElem?_getD, List.getElem?_map]
    cases q_txt[j]? <;> rfl
  rw [← e]
  exact h4
theorem q_bad_nw {s : State} {A : Array Value} : ∀ w ∈ q_bad, w.before A s = true → va_Nw w s := by
  intro w hw h
  unfold q_bad at hw
  simp only [List.mem_cons, List.not_mem_nil, or_false] at hw
  rcases hw with rfl | rfl | rfl | rfl | rfl | rfl | rfl | rfl | rfl | rfl | rfl <;> first | exact va_Nw.of rfl h | exact h
/-- THE LAW, OUT OF ITS PURE RUN -/
theorem q_start {p : Program} {e : Env} {s : State} {m : MethodId} {below : List Frame} {meth : Method} {c : Code} (l : Launch) {b L : Nat} {xs : Nat → Int32} (hL : L ≤ 3584) {d : Nat} (hd : d ≤ 1000) (C0 : lw_At p s m meth c b L xs) (h : q_WP q_Pr (d + 1) 264 [.inr (.inr (-3))] (q_M0 L xs) (fun v _ => v = 1)) : W p l e room_1 s m #[Value.ref b] below meth c s.heap [] 0 0 (lw_Z below #[Value.ref b] s) (entryFrame m ([Value.ref b] : List Value).toArray 4) := by
  obtain ⟨hx, hb, hr, hml, hown, hts, hX, hbl, hlocks, hgv⟩ := C0
  have hts2 : ∀ w ∈ q_tbl2, w.before #[Value.ref b] s = true := fun w hw => hts w (q_tbl2_lw w hw)
  obtain ⟨D, cA, hK⟩ := q_known hts2
  obtain ⟨sa, va, hSy⟩ := q_Sy0 hts hgv
  have C : q_Cx p s m #[Value.ref b] c code "SlipDrawerLaw" 4 q_tbl2 D cA (s.heap.size, sa, b) s.heap L xs := ⟨hx, hb, hml, hown, hts2, hK, hX, hbl⟩
  have hSP : q_SP (s.heap.size, sa, b) s.heap s := ⟨⟨va, hSy⟩, fun w hw => q_bad_nw w hw (hts _ (q_bad_lw w hw))⟩
  have hTab : q_Tab q_tbl2 "SlipDrawerLaw" code 4 (s.heap.size, sa, b) s meth q_y q_b q_nl q_rtt q_ws q_Pr 264 q_m264 := q_mkTab (fun w h => h) (own := "SlipDrawerLaw") (cc := code) (nL := 4) (cx := 0) (mt := q_m264) q_hW (q_hF14 (fun w h => h)) (fun h => Bool.noConfusion h) (q_hK14 (fun w h => h) hSy.1) (q_hN14 (fun w h => h)) (q_hG14 (fun w h => h)) (q_hP14 (fun w h => h)) q_d264 (fun h => absurd rfl h)
  have hStr := q_strOf (l := l) (e := e) (R := room_1) (below := below) (meth := meth) (Q := lw_Z below #[Value.ref b] s) (mt := q_m264) C rfl (fun w h => List.mem_append_left _ h) hSP (by decide) (by decide) q_hS14
  have hRet : q_RetOk p l e room_1 s m #[Value.ref b] below meth c code 4 D cA (s.heap.size, sa, b) s.heap L xs (lw_Z below #[Value.ref b] s) q_m264 (fun v _ => v = 1) := by
    intro pc lv M c0 t x
    refine ⟨fun hd9 hr9 => ?_, fun _ h9 => absurd h9 id, fun _ h9 => absurd h9 id, fun _ h9 => absurd h9 id⟩
    have hx1 : x = 1 := hr9.2
    subst hx1
    intro H locs ls hS hl hlo hso hR
    exact va_forget hS.2.2.2 (W.widen hR.1 hR.2 (lw_ret hx hb hr hlocks hd9))
  have key := q_At_sound (R := room_1) (meth := meth) (below := below) (e := e) (l := l) (mt := q_m264) (P := fun v _ => v = 1) (d := d) C (q_allM l D cA (s.heap.size, sa, b) s.heap rfl L xs d) hSP (fun U hW => q_SP_warm s U hW hSP) q_SP_calling ⟨by show d + 1 + 8 ≤ 2048; omega, by show 64 * (d + 1) + 200 ≤ 84000; omega⟩ ⟨by decide, by decide⟩ hTab hStr hRet (show q_At q_m264 (q_WP q_Pr d) (fun v _ => v = 1) 0 (q_en 0 [.inr (.inr (-3))]) [] (q_M0 L xs) 0 0 from h)
  have hl := lv_entry (([.inr (.inr (-3))] : List qV).map (q_ev (s.heap.size, sa, b))) (n := 4) (by rw [q_lgsl]; decide)
  rw [q_lvargs] at hl
  rw [lg_entry_eq]
  refine key s.heap [] _ ⟨⟨q_wf0 hL, by rfl, fun a h0 h1 => ?_⟩, fun q _ => rfl, ⟨rfl, fun j hj => ?_⟩, fun l hl => by cases hl⟩ hl (q_en_ok _ 0 ⟨show (-3 : Int) ≤ -3 from Int.le_refl _, trivial⟩) trivial ⟨Nat.zero_le _, Nat.zero_le _⟩
  · have h1 : a < 0 := h1
    omega
  · show xs j = Int32.ofInt (xs (j : Int).toNat).toInt
    rw [Int32.ofInt_toInt]
    rfl
end
