section
variable {p : Program} {l : Launch} {e : Env} {R : Room} {s : State} {m : MethodId} {args : Array Value} {below : List Frame} {meth : Method} {cd : Code} {cc : ByteArray} {own : String} {nL : Nat} {Ts : List Cond} {D : va_G} {cA : Nat → ClassId} {z : Nat × Nat × Nat} {H00 : Heap} {L : Nat} {xs : Nat → Int32} {Q : State → Prop}
variable {pc : Nat} {lv : qLv} {st : List qV} {M : qM} {c t : Nat}
variable {H : Heap} {locs : List Loc}
/-- what the words say of a callee: its link (its own or a nest mate's), its code, how it's called -/
def q_okG (Ts : List Cond) (own : String) (qy : Nat → MethodName) (qb : Nat → ByteArray) (qn : Nat → Nat) (qr : Nat → Option FieldType) (qw : Nat → List Cond) (Pr : Nat → qMt) (top : Nat) (ix : Nat) (cl : qCl) : Prop :=
  cl.1 < 1000 → cl.1 < top ∧ GoodIn Ts (qw cl.1) ∧ qw cl.1 = Cond.code (qy cl.1) (qb cl.1) (qn cl.1) (qr cl.1) :: (qw cl.1).tail ∧ Cond.initialized (qy cl.1).cls ∈ Ts ∧ ((qy cl.1).cls ≠ "java/lang/invoke/MethodHandle" ∧ (qy cl.1).cls ≠ "java/lang/invoke/VarHandle") ∧ cl.2.2.2.2.2.2 = qn cl.1 ∧ qn cl.1 ≤ 40 ∧ cl.2.2.2.1 = (Pr cl.1).2.2.2.2.2.2.1 ∧ cl.2.2.2.2.1 = (Pr cl.1).2.2.2.2.2.2.2.1 ∧ cl.2.2.2.2.2.1 = (Pr cl.1).2.2.2.2.2.2.2.2 ∧ (cl.2.2.2.2.1 = 0 → cl.2.2.2.2.2.1 = 0) ∧
    (Cond.methodLink own ix (qy cl.1) ∈ Ts ∨ Cond.methodLinkNest own ix (qy cl.1) "SlipDrawer" ∈ Ts) ∧
    (q_knd cl.1 = 0 → cl.2.1 ≠ 0 ∧ (parseMethodDescriptor (qy cl.1).desc).map (fun d => d.parameters.length) = some (cl.2.1 - 1) ∧ Cond.instanceMethod (qy cl.1) ∈ Ts ∧ Cond.selects (qy cl.1).cls (qy cl.1) (qy cl.1) ∈ Ts ∧ ∃ (ci N : Nat) (T : u_T), cl.2.2.1 = ci ∧ ci < 12 ∧ vwCl[ci]? = some ((qy cl.1).cls, T, N)) ∧
    (q_knd cl.1 = 1 → (parseMethodDescriptor (qy cl.1).desc).map (fun d => d.parameters.length) = some cl.2.1 ∧ Cond.static (qy cl.1) ∈ Ts) ∧
    (q_knd cl.1 = 2 → cl.2.1 ≠ 0 ∧ (parseMethodDescriptor (qy cl.1).desc).map (fun d => d.parameters.length) = some (cl.2.1 - 1) ∧ Cond.instanceMethod (qy cl.1) ∈ Ts ∧ ((qy cl.1).name = "<init>" ∧ qr cl.1 = none) ∧ (∃ ci : Nat, cl.2.2.1 = ci ∧ ci < 12))
/-- a room d deep -/
def q_rm (d : Nat) (mt : qMt) : Room := { frames := d + 8, cells := mt.2.2.2.2.2.2.2.1, slots := mt.2.2.2.2.2.2.2.2, locals := 64 * d + 200 }
/-- the methods below top keep their promise, d deep -/
def q_All (l : Launch) (D : va_G) (cA : Nat → ClassId) (z : Nat × Nat × Nat) (H00 : Heap) (L : Nat) (xs : Nat → Int32) (SP : State → Prop) (qy : Nat → MethodName) (qn : Nat → Nat) (qw : Nat → List Cond) (Pr : Nat → qMt) (top d : Nat) : Prop :=
  ∀ (y : Nat) (as : List qV) (M : qM) (P : Int → qM → Prop), y < top → q_WP Pr d y as M P → q_oks as → q_cat as ≤ qn y → Met l (qy y) (qw y) (q_rm d (Pr y)) (q_Pc D cA z H00 L xs SP as M) (q_Qc D cA z H00 L xs (Pr y).2.2.2.2.2.2.1 P) (Pr y).2.2.2.2.2.2.2.1 (Pr y).2.2.2.2.2.2.2.2 (fun q => z.1 ≤ q)
theorem q_blind {SP : State → Prop} {as : List qV} (hSP : ∀ (U : State) (g : JFrame) (mk : MethodId) (a : Array Value), SP U → SP (U.calling g mk a)) : FrameBlind (q_Pc D cA z H00 L xs SP as M) := by
  intro a U g mk h
  obtain ⟨h1, h2, h3, h4, h5, h6⟩ := h
  exact ⟨h1, h2, va_K.moved (u := U) (U := U.calling g mk a) (Vm.Alike.refl _) h3, va_X.moved (u := U) (U := U.calling g mk a) (Vm.Alike.refl _) h4, h5, hSP _ _ _ _ h6⟩
theorem q_pcAt {SP : State → Prop} {as : List qV} (C : q_Cx p s m args cd cc own nL Ts D cA z H00 L xs) (hSs : SP s) (hSW : ∀ U : State, s.WarmedH U.vm → SP U) (hS : q_St D cA z H00 L xs M H locs) : ∀ U : State, U.heap = H → s.WarmedH U.vm → q_Pc D cA z H00 L xs SP as M (as.map (q_ev z)).toArray U := by
  intro U hU hW
  refine ⟨rfl, ?_, va_K.moved hW.alike C.2.2.2.2.2.1, va_X.moved hW.alike C.2.2.2.2.2.2.1, C.2.2.2.2.2.2.2, hSW U hW⟩
  rw [hU]
  exact q_St_locs hS (fun l h => by cases h)
theorem q_oks_app : ∀ {a b : List qV}, q_oks (a ++ b) ↔ q_oks a ∧ q_oks b := by
  intro a b
  induction a with
  | nil => exact ⟨fun h => ⟨trivial, h⟩, fun h => h.2⟩
  | cons v t ih => exact ⟨fun h => ⟨⟨h.1, (ih.mp h.2).1⟩, (ih.mp h.2).2⟩, fun h => ⟨h.1.1, ih.mpr ⟨h.1.2, h.2⟩⟩⟩
theorem q_oks_rev : ∀ {a : List qV}, q_oks a → q_oks a.reverse := by
  intro a
  induction a with
  | nil => exact fun h => h
  | cons v t ih =>
    intro h
    rw [List.reverse_cons]
    exact q_oks_app.mpr ⟨ih h.2, ⟨h.1, trivial⟩⟩
theorem q_take_drop {st : List qV} (n : Nat) (h : q_oks st) : q_oks (st.take n).reverse ∧ q_oks (st.drop n) := by
  have h2 : q_oks (st.take n ++ st.drop n) := by rw [List.take_append_drop]; exact h
  exact ⟨q_oks_rev (q_oks_app.mp h2).1, (q_oks_app.mp h2).2⟩
section
variable {SP : State → Prop} {qy : Nat → MethodName} {qb : Nat → ByteArray} {qn : Nat → Nat} {qr : Nat → Option FieldType} {qw : Nat → List Cond} {Pr : Nat → qMt} {top d : Nat}
/-- a call of a method -/
theorem q_r_call (C : q_Cx p s m args cd cc own nL Ts D cA z H00 L xs) {mt : qMt} {cl : qCl} {ix : Nat} {i : Instr} (hA : q_All l D cA z H00 L xs SP qy qn qw Pr top d) (hSs : SP s) (hSW : ∀ U : State, s.WarmedH U.vm → SP U) (hSC : ∀ (U : State) (g : JFrame) (mk : MethodId) (a : Array Value), SP U → SP (U.calling g mk a)) (hfr : d + 1 + 8 ≤ R.frames ∧ 64 * (d + 1) + 200 ≤ R.locals) (hbc : mt.2.2.2.2.2.2.2.1 ≤ R.cells ∧ mt.2.2.2.2.2.2.2.2 ≤ R.slots)
    (hG : q_okG Ts own qy qb qn qr qw Pr top ix cl) (hlt : cl.1 < 1000) (hd : decode cc pc = .ok (i, 3)) (hi : (i = .invokevirtual ix ∧ q_knd cl.1 = 0) ∨ (i = .invokestatic ix ∧ q_knd cl.1 = 1) ∨ (i = .invokespecial ix ∧ q_knd cl.1 = 2))
    (h : q_call mt (q_WP Pr d) cl (st.take cl.2.1).reverse (st.drop cl.2.1) lv M c t pc (q_Wt p l e R s m args below meth cd nL D cA z H00 L xs Q)) : q_Wt p l e R s m args below meth cd nL D cA z H00 L xs Q pc lv st M c t := by
  intro H locs ls hS hl hlo hso hR
  have hts := C.2.2.2.2.1
  obtain ⟨hy, hgood, hw, hini, hnd, hml, hml2, hrt, hb1, hb2, hz0, hlink, hv, hs, hsp⟩ := hG hlt
  unfold q_call at h
  cases hcat : (Nat.ble (q_cat (st.drop cl.2.1)) 8 && (Nat.ble (q_cat (st.take cl.2.1).reverse) cl.2.2.2.2.2.2 && Nat.beq (st.take cl.2.1).reverse.length cl.2.1)) with
  | false => rw [hcat] at h; exact absurd h id
  | true =>
    rw [hcat] at h
    rw [Bool.and_eq_true, Bool.and_eq_true] at hcat
    have hc1 : q_cat (st.drop cl.2.1) ≤ 8 := Nat.le_of_ble_eq_true hcat.1
    have hc2 : q_cat (st.take cl.2.1).reverse ≤ qn cl.1 := by rw [← hml]; exact Nat.le_of_ble_eq_true hcat.2.1
    have hAl0 : (st.take cl.2.1).reverse.length = cl.2.1 := Nat.eq_of_beq_eq_true hcat.2.2
    have hno : Nat.ble 1000 cl.1 = false := by
      cases hbb : Nat.ble 1000 cl.1 with
      | false => rfl
      | true => have := Nat.le_of_ble_eq_true hbb; omega
    dsimp only at h
    rw [hno] at h
    dsimp only at h
    obtain ⟨hoA, hoR⟩ := q_take_drop cl.2.1 hso
    generalize hAs : (st.take cl.2.1).reverse = As at h hc2 hoA hAl0
    generalize hRs : st.drop cl.2.1 = Rs at h hc1 hoR
    have hst : st = As.reverse ++ Rs := by rw [← hAs, ← hRs, List.reverse_reverse, List.take_append_drop]
    have hAl : As.length = cl.2.1 := hAl0
    have hstE : st.map (q_ev z) = (As.map (q_ev z)).reverse ++ Rs.map (q_ev z) := by rw [hst, List.map_append, List.map_reverse]
    -- the promise of the callee, and what comes behind
    have main : ∀ (w : Option (Nat × Nat)), w = (match cl.2.2.2.2.1 with | 0 => none | _ => some (cl.2.2.2.2.1, cl.2.2.2.2.2.1)) → q_cal mt (q_WP Pr d) cl.1 As M (fun v M' c t => q_Wt p l e R s m args below meth cd nL D cA z H00 L xs Q (pc + 3) lv (q_tag cl.2.2.2.1 v Rs) M' c t) c t w →
        W p l e R s m args below meth cd H locs c t Q (F0 m pc ls (st.map (q_ev z))) := by
      intro w hwE hWP
      have hP' : (c + (Pr cl.1).2.2.2.2.2.2.2.1 ≤ R.cells ∧ t + (Pr cl.1).2.2.2.2.2.2.2.2 ≤ R.slots) ∧ q_WP Pr d cl.1 As M (fun v M' => q_Wt p l e R s m args below meth cd nL D cA z H00 L xs Q (pc + 3) lv (q_tag cl.2.2.2.1 v Rs) M' (c + (Pr cl.1).2.2.2.2.2.2.2.1) (t + (Pr cl.1).2.2.2.2.2.2.2.2)) := by
        rw [← hb1, ← hb2]
        cases hb0 : cl.2.2.2.2.1 with
        | zero =>
          rw [hb0] at hwE
          have hwE : w = none := hwE
          subst hwE
          rw [hz0 hb0]
          exact ⟨hR, hWP⟩
        | succ n0 =>
          rw [hb0] at hwE
          have hwE : w = some (n0 + 1, cl.2.2.2.2.2.1) := hwE
          subst hwE
          exact ⟨⟨Nat.le_trans hWP.1.1 hbc.1, Nat.le_trans hWP.1.2 hbc.2⟩, hWP.2⟩
      obtain ⟨hroom, hP'⟩ := hP'
      have hM := hA cl.1 As M _ hy hP' hoA hc2
      have hcw : Cond.code (qy cl.1) (qb cl.1) (qn cl.1) (qr cl.1) ∈ qw cl.1 := by rw [hw]; exact List.mem_cons_self
      have hcode : (Cond.code (qy cl.1) (qb cl.1) (qn cl.1) (qr cl.1)).before args s = true := hts _ (hgood _ hcw).1
      have hroomL : 8 + (qn cl.1 + 11) + (q_rm d (Pr cl.1)).locals ≤ R.locals := by show 8 + (qn cl.1 + 11) + (64 * d + 200) ≤ R.locals; omega
      have hS5 : CallFix p m cd cc nL s args Ts own := ⟨C.1, C.2.1, C.2.2.1, C.2.2.2.1, hts⟩
      have hcatR : 2 * (F0 m pc ls (st.map (q_ev z))).monitorRoom + ((Rs.map (q_ev z)).map fun v => v.category).sum ≤ 8 := by rw [q_catE]; show 2 * 0 + _ ≤ 8; omega
      have fin : ∀ a : Array Value, va_Run p l e R s m args below meth cd H locs c t (Pr cl.1).2.2.2.2.2.2.2.1 (Pr cl.1).2.2.2.2.2.2.2.2 (F0 m pc ls (st.map (q_ev z))) (Rs.map (q_ev z)) (q_Qc D cA z H00 L xs (Pr cl.1).2.2.2.2.2.2.1 _ a) (fun q => z.1 ≤ q) → W p l e R s m args below meth cd H locs c t Q (F0 m pc ls (st.map (q_ev z))) := fun a hrun => q_behind hrun hS hl hlo hoR hroom (fun v M' hq => by rw [← hrt]; exact hq)
      have hpar : ∀ (np : Nat), (parseMethodDescriptor (qy cl.1).desc).map (fun d => d.parameters.length) = some np → ∀ sig, parseMethodDescriptor (qy cl.1).desc = some sig → np = sig.parameters.length := by
        intro np hnp sig hsig
        rw [hsig] at hnp
        exact (Option.some.inj hnp).symm
      rcases hi with ⟨rfl, hk⟩ | ⟨rfl, hk⟩ | ⟨rfl, hk⟩
      · obtain ⟨hn0, hnp, hinst, hsel, ci, N, T, hci, hci2, hcl⟩ := hv hk
        obtain ⟨a0, As', rfl⟩ : ∃ a0 As', As = a0 :: As' := by
          cases As with
          | nil => simp at hAl; omega
          | cons a0 As' => exact ⟨a0, As', rfl⟩
        have hkd : ∃ a : Int, a0 = .inr (.inr a) ∧ q_kd M a = ci := by
          rw [hci] at h
          rcases a0 with x | x | a
          · exact absurd h id
          · exact absurd h id
          · exact ⟨a, rfl, h.1⟩
        obtain ⟨a, rfl, hkd⟩ := hkd
        obtain ⟨ha, cellB, g1, g2, g3, -⟩ := q_cellO hS (a := a) (by omega)
        rw [hkd, Int.toNat_natCast] at g2
        have hcls := (C.2.2.2.2.2.1.1 ci _ hcl).2.1
        have hev : q_ev z (.inr (.inr a)) = .ref (z.1 + a.toNat) := q_er_pos ha
        have hPre : PreV s H (qy cl.1).cls (z.1 + a.toNat) (q_Pc D cA z H00 L xs SP (.inr (.inr a) :: As') M) (As'.map (q_ev z)) := by
          refine ⟨q_blind hSC, ⟨cellB, g1, by rw [g3]; rfl, by rw [g2]; exact hcls⟩, fun U hU hW => ?_⟩
          have := q_pcAt (as := .inr (.inr a) :: As') C hSs hSW hS U hU hW
          rw [List.map_cons, hev] at this
          exact this
        have hstk : (F0 m pc ls (st.map (q_ev z))).stack = (As'.map (q_ev z)).reverse ++ .ref (z.1 + a.toNat) :: Rs.map (q_ev z) := by
          show st.map (q_ev z) = _
          rw [hstE, List.map_cons, hev, List.reverse_cons, List.append_assoc]
          rfl
        have hlenA : (As'.map (q_ev z)).length = cl.2.1 - 1 := by rw [List.length_map]; simp at hAl; omega
        rcases hlink with hlk | hlk
        · exact fin _ (va_runV hS5 hM ⟨⟨rfl, rfl, by show d + 8 + 1 ≤ _; omega, hroomL, pay_in hts hgood, hcw, hcode, hts _ hini, hnd, hpar _ hnp, hts _ hlk⟩, hts _ hinst, hts _ hsel⟩ hPre rfl hlenA hl.1 hstk hcatR hd hroom)
        · exact fin _ (va_runVN hS5 hM ⟨⟨⟨rfl, rfl, by show d + 8 + 1 ≤ _; omega, hroomL, pay_in hts hgood, hcw⟩, hcode, hts _ hini, hnd, hpar _ hnp, hts _ hlk⟩, hts _ hinst, hts _ hsel⟩ hPre rfl hlenA hl.1 hstk hcatR hd hroom)
      · obtain ⟨hnp, hstt⟩ := hs hk
        have hPre : PreS s H (q_Pc D cA z H00 L xs SP As M) (As.map (q_ev z)) := ⟨q_blind hSC, q_pcAt C hSs hSW hS⟩
        have hlenA : (As.map (q_ev z)).length = cl.2.1 := by rw [List.length_map]; exact hAl
        rcases hlink with hlk | hlk
        · exact fin _ (va_runS hS5 hM ⟨⟨rfl, rfl, by show d + 8 + 1 ≤ _; omega, hroomL, pay_in hts hgood, hcw, hcode, hts _ hini, hnd, hpar _ hnp, hts _ hlk⟩, hts _ hstt⟩ hPre rfl hlenA hl.1 hstE hcatR hd hroom)
        · exact fin _ (va_runSN hS5 hM ⟨⟨⟨rfl, rfl, by show d + 8 + 1 ≤ _; omega, hroomL, pay_in hts hgood, hcw⟩, hcode, hts _ hini, hnd, hpar _ hnp, hts _ hlk⟩, hts _ hstt, trivial⟩ hPre rfl hlenA hl.1 hstE hcatR hd hroom)
      · obtain ⟨hn0, hnp, hinst, ⟨hnm, hret0⟩, ci, hci, hci2⟩ := hsp hk
        obtain ⟨a0, As', rfl⟩ : ∃ a0 As', As = a0 :: As' := by
          cases As with
          | nil => simp at hAl; omega
          | cons a0 As' => exact ⟨a0, As', rfl⟩
        have hkd : ∃ a : Int, a0 = .inr (.inr a) ∧ q_kd M a = ci := by
          rw [hci] at h
          rcases a0 with x | x | a
          · exact absurd h id
          · exact absurd h id
          · exact ⟨a, rfl, h.1⟩
        obtain ⟨a, rfl, hkd⟩ := hkd
        obtain ⟨ha, -⟩ := q_cellO hS (a := a) (by omega)
        have hev : q_ev z (.inr (.inr a)) = .ref (z.1 + a.toNat) := q_er_pos ha
        have hPre : PreS s H (q_Pc D cA z H00 L xs SP (.inr (.inr a) :: As') M) (.ref (z.1 + a.toNat) :: As'.map (q_ev z)) := by
          refine ⟨q_blind hSC, fun U hU hW => ?_⟩
          have := q_pcAt (as := .inr (.inr a) :: As') C hSs hSW hS U hU hW
          rw [List.map_cons, hev] at this
          exact this
        have hstk : (F0 m pc ls (st.map (q_ev z))).stack = (As'.map (q_ev z)).reverse ++ .ref (z.1 + a.toNat) :: Rs.map (q_ev z) := by
          show st.map (q_ev z) = _
          rw [hstE, List.map_cons, hev, List.reverse_cons, List.append_assoc]
          rfl
        have hlenA : (As'.map (q_ev z)).length = cl.2.1 - 1 := by rw [List.length_map]; simp at hAl; omega
        rw [hret0] at hcw hcode
        rcases hlink with hlk | hlk
        · exact fin _ (va_runI hS5 hM ⟨⟨rfl, rfl, by show d + 8 + 1 ≤ _; omega, hroomL, pay_in hts hgood, hcw, hcode, hts _ hini, hnd, hpar _ hnp, hts _ hlk⟩, hnm, hts _ hinst⟩ hPre rfl hlenA hl.1 hstk hcatR hd hroom)
        · exact fin _ (va_runIN hS5 hM ⟨⟨⟨rfl, rfl, by show d + 8 + 1 ≤ _; omega, hroomL, pay_in hts hgood, hcw⟩, hcode, hts _ hini, hnd, hpar _ hnp, hts _ hlk⟩, hnm, hts _ hinst⟩ hPre rfl hlenA hl.1 hstk hcatR hd hroom)
    split at h
    · exact main _ rfl h
    · exact main _ rfl h.2
    · exact absurd h id
end
end
