section
def qs_y_len : MethodName := ⟨"java/lang/String", "length", "()I"⟩
def qs_w_len : List Cond := Cond.code qs_y_len prog_16_method_54_code 1 (some (FieldType.int)) :: q_tbl
def qs_y_cod : MethodName := ⟨"java/lang/String", "coder", "()B"⟩
def qs_w_cod : List Cond := Cond.code qs_y_cod prog_16_method_152_code 1 (some (FieldType.byte)) :: q_tbl
def qs_y_isl : MethodName := ⟨"java/lang/String", "isLatin1", "()Z"⟩
def qs_w_isl : List Cond := Cond.code qs_y_isl prog_16_method_154_code 1 (some (FieldType.boolean)) :: q_tbl
def qs_y_chr : MethodName := ⟨"java/lang/String", "charAt", "(I)C"⟩
def qs_w_chr : List Cond := Cond.code qs_y_chr prog_16_method_56_code 2 (some (FieldType.char)) :: q_tbl
def qs_y_ckx : MethodName := ⟨"java/lang/String", "checkIndex", "(II)V"⟩
def qs_w_ckx : List Cond := Cond.code qs_y_ckx prog_16_method_155_code 2 none :: q_tbl
def qs_y_lch : MethodName := ⟨"java/lang/StringLatin1", "charAt", "([BI)C"⟩
def qs_w_lch : List Cond := Cond.code qs_y_lch prog_17_method_2_code 2 (some (FieldType.char)) :: q_tbl
def qs_y_pre : MethodName := ⟨"jdk/internal/util/Preconditions", "checkIndex", "(IILjava/util/function/BiFunction;)I"⟩
def qs_w_pre : List Cond := Cond.code qs_y_pre prog_21_method_11_code 3 (some (FieldType.int)) :: q_tbl
def q_Qr (r : Option Value) : Array Value → State → Outcome → State → Prop := fun _ st o t => o = .returned r ∧ t.heap = st.heap
/-- the text constant at sa, its bytes at va; the statics that its members read -/
def q_Sy (sa va : Nat) (A : Nat → Prop) (U : State) (H : Heap) : Prop := vk_R "SlipDrawer$Tokens" 66 q_text sa U ∧ va_O "java/lang/String" sa A U H ∧ va_OF "java/lang/String" "coder" "B" (.int 0) sa A U H ∧ va_OF "java/lang/String" "value" "[B" (.ref va) sa A U H ∧ va_T .byte va 117 (fun j => .int (Int32.ofInt (q_txt.getD j 0))) A U H ∧ va_Z "java/lang/String" "COMPACT_STRINGS" "Z" (.int 1) A U H ∧ va_Zq "jdk/internal/util/Preconditions" "SIOOBE_FORMATTER" "Ljava/util/function/BiFunction;" A U H
theorem q_Zq_kept {C n d : String} {A : Nat → Prop} {U : State} {H H1 : Heap} (h : va_Zq C n d A U H) (hq : ∀ a : Nat, a < H.size → ¬ A a → H1[a]? = H[a]?) : va_Zq C n d A U H1 := h.imp (fun g => g.kept hq) (fun ⟨t, g⟩ => ⟨t, g.kept hq⟩)
theorem q_Zq_moved {C n d : String} {A : Nat → Prop} {u U : State} {H : Heap} (hvm : u.vm.Alike U.vm) (h : va_Zq C n d A u H) : va_Zq C n d A U H := h.imp (fun g => g.moved hvm) (fun ⟨t, g⟩ => ⟨t, g.moved hvm⟩)
theorem q_Sy.kept {sa va : Nat} {A : Nat → Prop} {U : State} {H H1 : Heap} (h : q_Sy sa va A U H) (hq : ∀ a : Nat, a < H.size → ¬ A a → H1[a]? = H[a]?) : q_Sy sa va A U H1 := ⟨h.1, h.2.1.kept hq, h.2.2.1.kept hq, h.2.2.2.1.kept hq, h.2.2.2.2.1.kept hq, h.2.2.2.2.2.1.kept hq, q_Zq_kept h.2.2.2.2.2.2 hq⟩
theorem q_Sy.warm {sa va : Nat} {A : Nat → Prop} {s U : State} {H : Heap} (hW : s.WarmedH U.vm) (h : q_Sy sa va A s H) : q_Sy sa va A U H := ⟨h.1.warm hW, h.2.1.moved hW.alike, h.2.2.1.moved hW.alike, h.2.2.2.1.moved hW.alike, h.2.2.2.2.1.moved hW.alike, h.2.2.2.2.2.1.moved hW.alike, q_Zq_moved hW.alike h.2.2.2.2.2.2⟩
theorem q_Sy.calling {sa va : Nat} {A : Nat → Prop} {U : State} {H : Heap} (g : JFrame) (mk : MethodId) (a : Array Value) (h : q_Sy sa va A U H) : q_Sy sa va A (U.calling g mk a) H := ⟨vk_R.same (u := U) rfl h.1, h.2.1.moved (Vm.Alike.refl _), h.2.2.1.moved (Vm.Alike.refl _), h.2.2.2.1.moved (Vm.Alike.refl _), h.2.2.2.2.1.moved (Vm.Alike.refl _), h.2.2.2.2.2.1.moved (Vm.Alike.refl _), q_Zq_moved (Vm.Alike.refl _) h.2.2.2.2.2.2⟩
/-- a start that reads the text constant -/
def q_Sc (sa va : Nat) (A : Nat → Prop) (av : List Value) : Array Value → State → Prop := fun v U => v = av.toArray ∧ q_Sy sa va A U U.heap
theorem q_Sc.blind {sa va : Nat} {A : Nat → Prop} {av : List Value} : FrameBlind (q_Sc sa va A av) := fun a U g mk h => ⟨h.1, q_Sy.calling g mk a h.2⟩
section
variable {p : Program} {l : Launch} {e : Env} {R : Room} {s : State} {m : MethodId} {args : Array Value} {below : List Frame} {meth : Method} {c : Code} {H : Heap} {locs : List Loc} {cells slots : Nat} {Q : State → Prop} {pc : Nat} {ls : Array Slot} {rest st0 : List Value} {a : Array Value}
theorem q_rcall {r : Option Value} (hr : va_Run p l e R s m args below meth c H locs cells slots 0 0 (F0 m pc ls st0) rest (q_Qr r a) (fun _ => False)) (kk : W p l e R s m args below meth c H locs cells slots Q (F0 m (pc + 3) ls (r.toList ++ rest))) : W p l e R s m args below meth c H locs cells slots Q (F0 m pc ls st0) := by
  intro T hT X
  obtain ⟨v0, st₀, u, T', L', h0, X', hL, e1, e2, ⟨hv, hh⟩, go⟩ := hr T hT X
  have hv0 : v0 = r := Outcome.returned.inj hv
  subst hv0
  have hL0 : L' = [] := by
    cases L' with
    | nil => rfl
    | cons q t => exact absurd (hL q List.mem_cons_self) id
  subst hL0
  rw [List.append_nil] at X'
  obtain ⟨t2, a1, b1⟩ := kk T' (by rw [e1, hh, h0]) X'
  exact ⟨t2, go t2 a1, b1⟩
end
set_option maxRecDepth 100000 in
theorem qs_c_cod (l : Launch) (sa va : Nat) (A : Nat → Prop) : Met l qs_y_cod qs_w_cod ({ frames := 0, cells := 0, slots := 0, locals := 0 } : Room) (q_Sc sa va A [.ref sa]) (q_Qr (some (.int 0))) 0 0 (fun _ => False) := by
  refine Met.ofW (cc := prog_16_method_152_code) (maxL := 1) (ret := (some (FieldType.byte))) (by decide) rfl ?_
  intro p e s m args below meth c s₁ B hml hv
  obtain ⟨rfl, hR, hO, hCo, hVa, hTx, hZ, hZq⟩ := hv
  have hSy : q_Sy sa va A s s.heap := ⟨hR, hO, hCo, hVa, hTx, hZ, hZq⟩
  have hx := B.exec
  have hb := B.bytes
  have hr := B.returns
  have hlocks := B.notSynchronized
  have hts := atoms_spec (ws := qs_w_cod) B.pre
  have hown : s.vm.findClass "java/lang/String" = some m.cls := findClass_of_methodNamed B.named
  have hl := lv_entry ([.ref sa]) (n := 1) (Nat.le_of_ble_eq_true rfl)
  rw [lg_entry_eq]
  generalize (lg_sl ([.ref sa]) ++ List.replicate (1 - (lg_sl ([.ref sa])).length) Slot.unset).toArray = ls at hl ⊢
  have hl : lv_has ls 1 [(0, .ref sa)] := hl
  have hS : va_S A s.heap s.heap [] := va_S.rf
  refine va_gets hx hb hZ hS hown (hts _ (List.mem_cons_of_mem _ (q_ckg_in (x := (3, 4)) (w := Cond.fieldLink "java/lang/String" 38 "java/lang/String" "COMPACT_STRINGS" "Z") (by decide +kernel)))) (fun _ h => h) (show decode prog_16_method_152_code 0 = .ok (.getstatic 38, 3) by decide +kernel) ?_
  refine lv_if_eq (tgt := 13) hx hb (show decode prog_16_method_152_code 3 = .ok (.ifCond .eq 10, 3) by decide +kernel) (by decide) (fun h => absurd h (by decide)) (fun _ => ?_)
  refine lv_aload_n hx hb (show decode prog_16_method_152_code 6 = .ok (.aload_n 0, 1) by decide +kernel) rfl (lv_at hl 0 rfl) ?_
  refine vk_getf hx hb hCo hS hown (hts _ (List.mem_cons_of_mem _ (q_ckg_in (x := (8, 23)) (w := Cond.fieldLink "java/lang/String" 15 "java/lang/String" "coder" "B") (by decide +kernel)))) (fun _ h => h) (show decode prog_16_method_152_code 7 = .ok (.getfield 15, 3) by decide +kernel) ?_
  refine lv_goto (tgt := 14) hx hb (show decode prog_16_method_152_code 10 = .ok (.goto 4, 3) by decide +kernel) (by decide) ?_
  exact W.zret hx hb hr rfl (fun t ht _ => ⟨rfl, ht⟩) (fun q h => by cases h) (show decode prog_16_method_152_code 14 = .ok (.ireturn, 1) by decide +kernel) hlocks
set_option maxRecDepth 100000 in
theorem qs_c_isl (l : Launch) (sa va : Nat) (A : Nat → Prop) : Met l qs_y_isl qs_w_isl ({ frames := 0, cells := 0, slots := 0, locals := 0 } : Room) (q_Sc sa va A [.ref sa]) (q_Qr (some (.int 1))) 0 0 (fun _ => False) := by
  refine Met.ofW (cc := prog_16_method_154_code) (maxL := 1) (ret := (some (FieldType.boolean))) (by decide) rfl ?_
  intro p e s m args below meth c s₁ B hml hv
  obtain ⟨rfl, hR, hO, hCo, hVa, hTx, hZ, hZq⟩ := hv
  have hSy : q_Sy sa va A s s.heap := ⟨hR, hO, hCo, hVa, hTx, hZ, hZq⟩
  have hx := B.exec
  have hb := B.bytes
  have hr := B.returns
  have hlocks := B.notSynchronized
  have hts := atoms_spec (ws := qs_w_isl) B.pre
  have hown : s.vm.findClass "java/lang/String" = some m.cls := findClass_of_methodNamed B.named
  have hl := lv_entry ([.ref sa]) (n := 1) (Nat.le_of_ble_eq_true rfl)
  rw [lg_entry_eq]
  generalize (lg_sl ([.ref sa]) ++ List.replicate (1 - (lg_sl ([.ref sa])).length) Slot.unset).toArray = ls at hl ⊢
  have hl : lv_has ls 1 [(0, .ref sa)] := hl
  have hS : va_S A s.heap s.heap [] := va_S.rf
  refine va_gets hx hb hZ hS hown (hts _ (List.mem_cons_of_mem _ (q_ckg_in (x := (3, 4)) (w := Cond.fieldLink "java/lang/String" 38 "java/lang/String" "COMPACT_STRINGS" "Z") (by decide +kernel)))) (fun _ h => h) (show decode prog_16_method_154_code 0 = .ok (.getstatic 38, 3) by decide +kernel) ?_
  refine lv_if_eq (tgt := 17) hx hb (show decode prog_16_method_154_code 3 = .ok (.ifCond .eq 14, 3) by decide +kernel) (by decide) (fun h => absurd h (by decide)) (fun _ => ?_)
  refine lv_aload_n hx hb (show decode prog_16_method_154_code 6 = .ok (.aload_n 0, 1) by decide +kernel) rfl (lv_at hl 0 rfl) ?_
  refine vk_getf hx hb hCo hS hown (hts _ (List.mem_cons_of_mem _ (q_ckg_in (x := (8, 23)) (w := Cond.fieldLink "java/lang/String" 15 "java/lang/String" "coder" "B") (by decide +kernel)))) (fun _ h => h) (show decode prog_16_method_154_code 7 = .ok (.getfield 15, 3) by decide +kernel) ?_
  refine lv_if_ne (tgt := 17) hx hb (show decode prog_16_method_154_code 10 = .ok (.ifCond .ne 7, 3) by decide +kernel) (by decide) (fun h => absurd rfl h) (fun _ => ?_)
  refine lv_iconst (v := 1) hx hb (show decode prog_16_method_154_code 13 = .ok (.iconst 1, 1) by decide +kernel) (by decide) ?_
  refine lv_goto (tgt := 18) hx hb (show decode prog_16_method_154_code 14 = .ok (.goto 4, 3) by decide +kernel) (by decide) ?_
  exact W.zret hx hb hr rfl (fun t ht _ => ⟨rfl, ht⟩) (fun q h => by cases h) (show decode prog_16_method_154_code 18 = .ok (.ireturn, 1) by decide +kernel) hlocks
set_option maxRecDepth 100000 in
theorem qs_c_pre0 (l : Launch) (sa va : Nat) (A : Nat → Prop) (i n : Int32) (h0 : ¬ i < 0) (h1 : i < n) : Met l qs_y_pre qs_w_pre ({ frames := 0, cells := 0, slots := 0, locals := 0 } : Room) (q_Sc sa va A [.int i, .int n, .null]) (q_Qr (some (.int i))) 0 0 (fun _ => False) := by
  refine Met.ofW (cc := prog_21_method_11_code) (maxL := 3) (ret := (some (FieldType.int))) (by decide) rfl ?_
  intro p e s m args below meth c s₁ B hml hv
  obtain ⟨rfl, hR, hO, hCo, hVa, hTx, hZ, hZq⟩ := hv
  have hSy : q_Sy sa va A s s.heap := ⟨hR, hO, hCo, hVa, hTx, hZ, hZq⟩
  have hx := B.exec
  have hb := B.bytes
  have hr := B.returns
  have hlocks := B.notSynchronized
  have hts := atoms_spec (ws := qs_w_pre) B.pre
  have hown : s.vm.findClass "jdk/internal/util/Preconditions" = some m.cls := findClass_of_methodNamed B.named
  have hl := lv_entry ([.int i, .int n, .null]) (n := 3) (Nat.le_of_ble_eq_true rfl)
  rw [lg_entry_eq]
  generalize (lg_sl ([.int i, .int n, .null]) ++ List.replicate (3 - (lg_sl ([.int i, .int n, .null])).length) Slot.unset).toArray = ls at hl ⊢
  have hl : lv_has ls 3 [(0, .int i), (1, .int n), (2, .null)] := hl
  have hS : va_S A s.heap s.heap [] := va_S.rf
  refine lv_iload_n hx hb (show decode prog_21_method_11_code 0 = .ok (.iload_n 0, 1) by decide +kernel) rfl (lv_at hl 0 rfl) ?_
  refine lv_if_lt (tgt := 9) hx hb (show decode prog_21_method_11_code 1 = .ok (.ifCond .lt 8, 3) by decide +kernel) (by decide) (fun h => absurd h h0) (fun _ => ?_)
  refine lv_iload_n hx hb (show decode prog_21_method_11_code 4 = .ok (.iload_n 0, 1) by decide +kernel) rfl (lv_at hl 0 rfl) ?_
  refine lv_iload_n hx hb (show decode prog_21_method_11_code 5 = .ok (.iload_n 1, 1) by decide +kernel) rfl (lv_at hl 1 rfl) ?_
  refine lv_icmp_lt (tgt := 16) hx hb (show decode prog_21_method_11_code 6 = .ok (.if_icmp .lt 10, 3) by decide +kernel) (by decide) (fun _ => ?_) (fun h => absurd h1 h)
  refine lv_iload_n hx hb (show decode prog_21_method_11_code 16 = .ok (.iload_n 0, 1) by decide +kernel) rfl (lv_at hl 0 rfl) ?_
  exact W.iret hx hb hr (fun t ht _ => ⟨rfl, ht⟩) (fun q h => by cases h) (show decode prog_21_method_11_code 17 = .ok (.ireturn, 1) by decide +kernel) hlocks
set_option maxRecDepth 100000 in
theorem qs_c_pre1 (l : Launch) (sa va : Nat) (A : Nat → Prop) (i n : Int32) (w : Nat) (h0 : ¬ i < 0) (h1 : i < n) : Met l qs_y_pre qs_w_pre ({ frames := 0, cells := 0, slots := 0, locals := 0 } : Room) (q_Sc sa va A [.int i, .int n, .ref w]) (q_Qr (some (.int i))) 0 0 (fun _ => False) := by
  refine Met.ofW (cc := prog_21_method_11_code) (maxL := 3) (ret := (some (FieldType.int))) (by decide) rfl ?_
  intro p e s m args below meth c s₁ B hml hv
  obtain ⟨rfl, hR, hO, hCo, hVa, hTx, hZ, hZq⟩ := hv
  have hSy : q_Sy sa va A s s.heap := ⟨hR, hO, hCo, hVa, hTx, hZ, hZq⟩
  have hx := B.exec
  have hb := B.bytes
  have hr := B.returns
  have hlocks := B.notSynchronized
  have hts := atoms_spec (ws := qs_w_pre) B.pre
  have hown : s.vm.findClass "jdk/internal/util/Preconditions" = some m.cls := findClass_of_methodNamed B.named
  have hl := lv_entry ([.int i, .int n, .ref w]) (n := 3) (Nat.le_of_ble_eq_true rfl)
  rw [lg_entry_eq]
  generalize (lg_sl ([.int i, .int n, .ref w]) ++ List.replicate (3 - (lg_sl ([.int i, .int n, .ref w])).length) Slot.unset).toArray = ls at hl ⊢
  have hl : lv_has ls 3 [(0, .int i), (1, .int n), (2, .ref w)] := hl
  have hS : va_S A s.heap s.heap [] := va_S.rf
  refine lv_iload_n hx hb (show decode prog_21_method_11_code 0 = .ok (.iload_n 0, 1) by decide +kernel) rfl (lv_at hl 0 rfl) ?_
  refine lv_if_lt (tgt := 9) hx hb (show decode prog_21_method_11_code 1 = .ok (.ifCond .lt 8, 3) by decide +kernel) (by decide) (fun h => absurd h h0) (fun _ => ?_)
  refine lv_iload_n hx hb (show decode prog_21_method_11_code 4 = .ok (.iload_n 0, 1) by decide +kernel) rfl (lv_at hl 0 rfl) ?_
  refine lv_iload_n hx hb (show decode prog_21_method_11_code 5 = .ok (.iload_n 1, 1) by decide +kernel) rfl (lv_at hl 1 rfl) ?_
  refine lv_icmp_lt (tgt := 16) hx hb (show decode prog_21_method_11_code 6 = .ok (.if_icmp .lt 10, 3) by decide +kernel) (by decide) (fun _ => ?_) (fun h => absurd h1 h)
  refine lv_iload_n hx hb (show decode prog_21_method_11_code 16 = .ok (.iload_n 0, 1) by decide +kernel) rfl (lv_at hl 0 rfl) ?_
  exact W.iret hx hb hr (fun t ht _ => ⟨rfl, ht⟩) (fun q h => by cases h) (show decode prog_21_method_11_code 17 = .ok (.ireturn, 1) by decide +kernel) hlocks
theorem qs_good {w0 w1 : Cond} (h : w1 ∈ q_tbl) : GoodIn (w0 :: q_tbl) (w1 :: q_tbl) := fun w hw => (List.mem_cons.mp hw).elim (fun e => by rw [e]; exact ⟨List.mem_cons_of_mem _ h, (q_good 0 h).2⟩) (fun e => ⟨List.mem_cons_of_mem _ e, (q_good 0 e).2⟩)
theorem qs_pre {sa va : Nat} {A : Nat → Prop} {s : State} {av : List Value} (h : q_Sy sa va A s s.heap) : PreS s s.heap (q_Sc sa va A av) av := ⟨q_Sc.blind, fun U hU hW => ⟨rfl, by rw [hU]; exact h.warm hW⟩⟩
set_option maxRecDepth 100000 in
theorem qs_c_ckx (l : Launch) (sa va : Nat) (A : Nat → Prop) (i n : Int32) (h0 : ¬ i < 0) (h1 : i < n) : Met l qs_y_ckx qs_w_ckx ({ frames := 1, cells := 0, slots := 0, locals := 22 } : Room) (q_Sc sa va A [.int i, .int n]) (q_Qr none) 0 0 (fun _ => False) := by
  refine Met.ofW (cc := prog_16_method_155_code) (maxL := 2) (ret := none) (by decide) rfl ?_
  intro p e s m args below meth c s₁ B hml hv
  obtain ⟨rfl, hR, hO, hCo, hVa, hTx, hZ, hZq⟩ := hv
  have hSy : q_Sy sa va A s s.heap := ⟨hR, hO, hCo, hVa, hTx, hZ, hZq⟩
  have hx := B.exec
  have hb := B.bytes
  have hr := B.returns
  have hlocks := B.notSynchronized
  have hts := atoms_spec (ws := qs_w_ckx) B.pre
  have hown : s.vm.findClass "java/lang/String" = some m.cls := findClass_of_methodNamed B.named
  have hl := lv_entry ([.int i, .int n]) (n := 2) (Nat.le_of_ble_eq_true rfl)
  rw [lg_entry_eq]
  generalize (lg_sl ([.int i, .int n]) ++ List.replicate (2 - (lg_sl ([.int i, .int n])).length) Slot.unset).toArray = ls at hl ⊢
  have hl : lv_has ls 2 [(0, .int i), (1, .int n)] := hl
  have hS : va_S A s.heap s.heap [] := va_S.rf
  refine lv_iload_n hx hb (show decode prog_16_method_155_code 0 = .ok (.iload_n 0, 1) by decide +kernel) rfl (lv_at hl 0 rfl) ?_
  refine lv_iload_n hx hb (show decode prog_16_method_155_code 1 = .ok (.iload_n 1, 1) by decide +kernel) rfl (lv_at hl 1 rfl) ?_
  rcases hZq with hZ1 | ⟨w, hZ1⟩
  · refine va_gets hx hb hZ1 hS hown (hts _ (List.mem_cons_of_mem _ (q_ckg_in (x := (3, 20)) (w := Cond.fieldLink "java/lang/String" 1053 "jdk/internal/util/Preconditions" "SIOOBE_FORMATTER" "Ljava/util/function/BiFunction;") (by decide +kernel)))) (fun _ h => h) (show decode prog_16_method_155_code 2 = .ok (.getstatic 1053, 3) by decide +kernel) ?_
    refine q_rcall (va_runS (As := [.int i, .int n, .null]) (rest := []) ⟨hx, hb, hml, hown, hts⟩ (qs_c_pre0 l sa va A i n h0 h1) ⟨(callB_of 3 hts (qs_good (q_mem_rfl 3 24 rfl rfl : Cond.code qs_y_pre prog_21_method_11_code 3 (some (FieldType.int)) ∈ q_tbl)) rfl rfl rfl (hts _ (List.mem_cons_of_mem _ (q_ckg_in (x := (1, 18)) (w := Cond.initialized "jdk/internal/util/Preconditions") (by decide +kernel)))) (hts _ (List.mem_cons_of_mem _ (q_ckg_in (x := (3, 22)) (w := Cond.methodLink "java/lang/String" 1059 qs_y_pre) (by decide +kernel)))) ⟨by decide, by decide, by decide +kernel⟩ ⟨Nat.le_of_ble_eq_true rfl, Nat.le_of_ble_eq_true rfl⟩), (hts _ (List.mem_cons_of_mem _ (q_ckg_in (x := (3, 23)) (w := Cond.static qs_y_pre) (by decide +kernel))))⟩ (qs_pre hSy) rfl rfl hl.1 rfl (lv_room (Nat.le_of_ble_eq_true rfl)) (show decode prog_16_method_155_code 5 = .ok (.invokestatic 1059, 3) by decide +kernel) ⟨Nat.le_refl _, Nat.le_refl _⟩) ?_
    refine lv_pop hx hb (show decode prog_16_method_155_code 8 = .ok (.pop, 1) by decide +kernel) rfl ?_
    exact W.vret hx hb hr (fun t ht _ => ⟨rfl, ht⟩) (fun q h => by cases h) (show decode prog_16_method_155_code 9 = .ok (.return_, 1) by decide +kernel) hlocks
  · refine va_gets hx hb hZ1 hS hown (hts _ (List.mem_cons_of_mem _ (q_ckg_in (x := (3, 20)) (w := Cond.fieldLink "java/lang/String" 1053 "jdk/internal/util/Preconditions" "SIOOBE_FORMATTER" "Ljava/util/function/BiFunction;") (by decide +kernel)))) (fun _ h => h) (show decode prog_16_method_155_code 2 = .ok (.getstatic 1053, 3) by decide +kernel) ?_
    refine q_rcall (va_runS (As := [.int i, .int n, .ref w]) (rest := []) ⟨hx, hb, hml, hown, hts⟩ (qs_c_pre1 l sa va A i n w h0 h1) ⟨(callB_of 3 hts (qs_good (q_mem_rfl 3 24 rfl rfl : Cond.code qs_y_pre prog_21_method_11_code 3 (some (FieldType.int)) ∈ q_tbl)) rfl rfl rfl (hts _ (List.mem_cons_of_mem _ (q_ckg_in (x := (1, 18)) (w := Cond.initialized "jdk/internal/util/Preconditions") (by decide +kernel)))) (hts _ (List.mem_cons_of_mem _ (q_ckg_in (x := (3, 22)) (w := Cond.methodLink "java/lang/String" 1059 qs_y_pre) (by decide +kernel)))) ⟨by decide, by decide, by decide +kernel⟩ ⟨Nat.le_of_ble_eq_true rfl, Nat.le_of_ble_eq_true rfl⟩), (hts _ (List.mem_cons_of_mem _ (q_ckg_in (x := (3, 23)) (w := Cond.static qs_y_pre) (by decide +kernel))))⟩ (qs_pre hSy) rfl rfl hl.1 rfl (lv_room (Nat.le_of_ble_eq_true rfl)) (show decode prog_16_method_155_code 5 = .ok (.invokestatic 1059, 3) by decide +kernel) ⟨Nat.le_refl _, Nat.le_refl _⟩) ?_
    refine lv_pop hx hb (show decode prog_16_method_155_code 8 = .ok (.pop, 1) by decide +kernel) rfl ?_
    exact W.vret hx hb hr (fun t ht _ => ⟨rfl, ht⟩) (fun q h => by cases h) (show decode prog_16_method_155_code 9 = .ok (.return_, 1) by decide +kernel) hlocks
set_option maxRecDepth 100000 in
theorem q_txt_ok : ∀ j, j < 117 → (Int32.ofInt (q_txt.getD j 0) &&& 255 = Int32.ofInt (q_txt.getD j 0) ∧ ((Int32.ofInt (q_txt.getD j 0)).toUInt32 % 65536).toInt32 = Int32.ofInt (q_txt.getD j 0) ∧ narrow .char (.int (Int32.ofInt (q_txt.getD j 0))) = .int (Int32.ofInt (q_txt.getD j 0))) := by decide +kernel
set_option maxRecDepth 100000 in
theorem qs_c_lch (l : Launch) (sa va : Nat) (A : Nat → Prop) (i : Int32) (h0 : ¬ i < 0) (h1 : i < 117) : Met l qs_y_lch qs_w_lch ({ frames := 2, cells := 0, slots := 0, locals := 43 } : Room) (q_Sc sa va A [.ref va, .int i]) (q_Qr (some (.int (Int32.ofInt (q_txt.getD i.toNatClampNeg 0))))) 0 0 (fun _ => False) := by
  refine Met.ofW (cc := prog_17_method_2_code) (maxL := 2) (ret := (some (FieldType.char))) (by decide) rfl ?_
  intro p e s m args below meth c s₁ B hml hv
  obtain ⟨rfl, hR, hO, hCo, hVa, hTx, hZ, hZq⟩ := hv
  have hSy : q_Sy sa va A s s.heap := ⟨hR, hO, hCo, hVa, hTx, hZ, hZq⟩
  have hx := B.exec
  have hb := B.bytes
  have hr := B.returns
  have hlocks := B.notSynchronized
  have hts := atoms_spec (ws := qs_w_lch) B.pre
  have hown : s.vm.findClass "java/lang/StringLatin1" = some m.cls := findClass_of_methodNamed B.named
  have hl := lv_entry ([.ref va, .int i]) (n := 2) (Nat.le_of_ble_eq_true rfl)
  rw [lg_entry_eq]
  generalize (lg_sl ([.ref va, .int i]) ++ List.replicate (2 - (lg_sl ([.ref va, .int i])).length) Slot.unset).toArray = ls at hl ⊢
  have hl : lv_has ls 2 [(0, .ref va), (1, .int i)] := hl
  have hS : va_S A s.heap s.heap [] := va_S.rf
  have hin : vp_in i 117 := vp_in_iff.mpr ⟨by have := Int32.not_lt.mp h0; simpa using Int32.le_iff_toInt_le.mp this, by have := Int32.lt_iff_toInt_lt.mp h1; exact this⟩
  have hlt : i.toNatClampNeg < 117 := Nat.not_le.mp fun q => hin (Or.inr q)
  refine lv_iload_n hx hb (show decode prog_17_method_2_code 0 = .ok (.iload_n 1, 1) by decide +kernel) rfl (lv_at hl 1 rfl) ?_
  refine lv_aload_n hx hb (show decode prog_17_method_2_code 1 = .ok (.aload_n 0, 1) by decide +kernel) rfl (lv_at hl 0 rfl) ?_
  refine va_tlen hx hb hTx hS (v := 117) rfl (show decode prog_17_method_2_code 2 = .ok (.arraylength, 1) by decide +kernel) ?_
  refine q_rcall (va_runS (As := [.int i, .int 117]) (rest := []) ⟨hx, hb, hml, hown, hts⟩ (qs_c_ckx l sa va A i 117 h0 h1) ⟨(callB_of 2 hts (qs_good (q_mem_rfl 3 19 rfl rfl : Cond.code qs_y_ckx prog_16_method_155_code 2 none ∈ q_tbl)) rfl rfl rfl (hts _ (List.mem_cons_of_mem _ (q_ckg_in (x := (1, 16)) (w := Cond.initialized "java/lang/String") (by decide +kernel)))) (hts _ (List.mem_cons_of_mem _ (q_ckg_in (x := (3, 17)) (w := Cond.methodLink "java/lang/StringLatin1" 9 qs_y_ckx) (by decide +kernel)))) ⟨by decide, by decide, by decide +kernel⟩ ⟨Nat.le_of_ble_eq_true rfl, Nat.le_of_ble_eq_true rfl⟩), (hts _ (List.mem_cons_of_mem _ (q_ckg_in (x := (3, 18)) (w := Cond.static qs_y_ckx) (by decide +kernel))))⟩ (qs_pre hSy) rfl rfl hl.1 rfl (lv_room (Nat.le_of_ble_eq_true rfl)) (show decode prog_17_method_2_code 3 = .ok (.invokestatic 9, 3) by decide +kernel) ⟨Nat.le_refl _, Nat.le_refl _⟩) ?_
  refine lv_aload_n hx hb (show decode prog_17_method_2_code 6 = .ok (.aload_n 0, 1) by decide +kernel) rfl (lv_at hl 0 rfl) ?_
  refine lv_iload_n hx hb (show decode prog_17_method_2_code 7 = .ok (.iload_n 1, 1) by decide +kernel) rfl (lv_at hl 1 rfl) ?_
  refine va_tb hx hb hTx hS hin rfl (show decode prog_17_method_2_code 8 = .ok (.baload, 1) by decide +kernel) ?_
  refine lv_sipush (v := 255) hx hb (show decode prog_17_method_2_code 9 = .ok (.sipush 255, 3) by decide +kernel) (by decide) ?_
  refine lv_iand hx hb (show decode prog_17_method_2_code 12 = .ok (.iand, 1) by decide +kernel) ?_
  obtain ⟨g1, g2, g3⟩ := q_txt_ok i.toNatClampNeg hlt
  rw [g1]
  refine lv_i2c hx hb (show decode prog_17_method_2_code 13 = .ok (.i2c, 1) by decide +kernel) g2 ?_
  exact W.zret hx hb hr g3 (fun t ht _ => ⟨rfl, ht⟩) (fun q h => by cases h) (show decode prog_17_method_2_code 14 = .ok (.ireturn, 1) by decide +kernel) hlocks
set_option maxRecDepth 100000 in
theorem qs_c_len (l : Launch) (sa va : Nat) (A : Nat → Prop) : Met l qs_y_len qs_w_len ({ frames := 1, cells := 0, slots := 0, locals := 20 } : Room) (q_Sc sa va A [.ref sa]) (q_Qr (some (.int 117))) 0 0 (fun _ => False) := by
  refine Met.ofW (cc := prog_16_method_54_code) (maxL := 1) (ret := (some (FieldType.int))) (by decide) rfl ?_
  intro p e s m args below meth c s₁ B hml hv
  obtain ⟨rfl, hR, hO, hCo, hVa, hTx, hZ, hZq⟩ := hv
  have hSy : q_Sy sa va A s s.heap := ⟨hR, hO, hCo, hVa, hTx, hZ, hZq⟩
  have hx := B.exec
  have hb := B.bytes
  have hr := B.returns
  have hlocks := B.notSynchronized
  have hts := atoms_spec (ws := qs_w_len) B.pre
  have hown : s.vm.findClass "java/lang/String" = some m.cls := findClass_of_methodNamed B.named
  have hl := lv_entry ([.ref sa]) (n := 1) (Nat.le_of_ble_eq_true rfl)
  rw [lg_entry_eq]
  generalize (lg_sl ([.ref sa]) ++ List.replicate (1 - (lg_sl ([.ref sa])).length) Slot.unset).toArray = ls at hl ⊢
  have hl : lv_has ls 1 [(0, .ref sa)] := hl
  have hS : va_S A s.heap s.heap [] := va_S.rf
  obtain ⟨cellB, hB1, hB2, hB3, -⟩ := id hO
  refine lv_aload_n hx hb (show decode prog_16_method_54_code 0 = .ok (.aload_n 0, 1) by decide +kernel) rfl (lv_at hl 0 rfl) ?_
  refine vk_getf hx hb hVa hS hown (hts _ (List.mem_cons_of_mem _ (q_ckg_in (x := (8, 22)) (w := Cond.fieldLink "java/lang/String" 9 "java/lang/String" "value" "[B") (by decide +kernel)))) (fun _ h => h) (show decode prog_16_method_54_code 1 = .ok (.getfield 9, 3) by decide +kernel) ?_
  refine va_tlen hx hb hTx hS (v := 117) rfl (show decode prog_16_method_54_code 4 = .ok (.arraylength, 1) by decide +kernel) ?_
  refine lv_aload_n hx hb (show decode prog_16_method_54_code 5 = .ok (.aload_n 0, 1) by decide +kernel) rfl (lv_at hl 0 rfl) ?_
  refine q_rcall (va_runV (As := []) (rest := [.int 117]) ⟨hx, hb, hml, hown, hts⟩ (qs_c_cod l sa va A) ⟨(callB_of 0 hts (qs_good (q_mem_rfl 3 3 rfl rfl : Cond.code qs_y_cod prog_16_method_152_code 1 (some (FieldType.byte)) ∈ q_tbl)) rfl rfl rfl (hts _ (List.mem_cons_of_mem _ (q_ckg_in (x := (1, 16)) (w := Cond.initialized "java/lang/String") (by decide +kernel)))) (hts _ (List.mem_cons_of_mem _ (q_ckg_in (x := (3, 0)) (w := Cond.methodLink "java/lang/String" 335 qs_y_cod) (by decide +kernel)))) ⟨by decide, by decide, by decide +kernel⟩ ⟨Nat.le_of_ble_eq_true rfl, Nat.le_of_ble_eq_true rfl⟩), (hts _ (List.mem_cons_of_mem _ (q_ckg_in (x := (3, 1)) (w := Cond.instanceMethod qs_y_cod) (by decide +kernel)))), (hts _ (List.mem_cons_of_mem _ (q_ckg_in (x := (3, 2)) (w := Cond.selects "java/lang/String" qs_y_cod qs_y_cod) (by decide +kernel))))⟩ ⟨q_Sc.blind, ⟨cellB, hB1, hB2, hB3⟩, (qs_pre hSy).2⟩ rfl rfl hl.1 rfl (lv_room (Nat.le_of_ble_eq_true rfl)) (show decode prog_16_method_54_code 6 = .ok (.invokevirtual 335, 3) by decide +kernel) ⟨Nat.le_refl _, Nat.le_refl _⟩) ?_
  refine lv_ishr hx hb (show decode prog_16_method_54_code 9 = .ok (.ishr, 1) by decide +kernel) ?_
  exact W.iret (v := 117) hx hb hr (fun t ht _ => ⟨rfl, ht⟩) (fun q h => by cases h) (show decode prog_16_method_54_code 10 = .ok (.ireturn, 1) by decide +kernel) hlocks
set_option maxRecDepth 100000 in
theorem qs_c_chr (l : Launch) (sa va : Nat) (A : Nat → Prop) (i : Int32) (h0 : ¬ i < 0) (h1 : i < 117) : Met l qs_y_chr qs_w_chr ({ frames := 3, cells := 0, slots := 0, locals := 64 } : Room) (q_Sc sa va A [.ref sa, .int i]) (q_Qr (some (.int (Int32.ofInt (q_txt.getD i.toNatClampNeg 0))))) 0 0 (fun _ => False) := by
  refine Met.ofW (cc := prog_16_method_56_code) (maxL := 2) (ret := (some (FieldType.char))) (by decide) rfl ?_
  intro p e s m args below meth c s₁ B hml hv
  obtain ⟨rfl, hR, hO, hCo, hVa, hTx, hZ, hZq⟩ := hv
  have hSy : q_Sy sa va A s s.heap := ⟨hR, hO, hCo, hVa, hTx, hZ, hZq⟩
  have hx := B.exec
  have hb := B.bytes
  have hr := B.returns
  have hlocks := B.notSynchronized
  have hts := atoms_spec (ws := qs_w_chr) B.pre
  have hown : s.vm.findClass "java/lang/String" = some m.cls := findClass_of_methodNamed B.named
  have hl := lv_entry ([.ref sa, .int i]) (n := 2) (Nat.le_of_ble_eq_true rfl)
  rw [lg_entry_eq]
  generalize (lg_sl ([.ref sa, .int i]) ++ List.replicate (2 - (lg_sl ([.ref sa, .int i])).length) Slot.unset).toArray = ls at hl ⊢
  have hl : lv_has ls 2 [(0, .ref sa), (1, .int i)] := hl
  have hS : va_S A s.heap s.heap [] := va_S.rf
  have hin : vp_in i 117 := vp_in_iff.mpr ⟨by have := Int32.not_lt.mp h0; simpa using Int32.le_iff_toInt_le.mp this, by have := Int32.lt_iff_toInt_lt.mp h1; exact this⟩
  have hlt : i.toNatClampNeg < 117 := Nat.not_le.mp fun q => hin (Or.inr q)
  obtain ⟨cellB, hB1, hB2, hB3, -⟩ := id hO
  refine lv_aload_n hx hb (show decode prog_16_method_56_code 0 = .ok (.aload_n 0, 1) by decide +kernel) rfl (lv_at hl 0 rfl) ?_
  refine q_rcall (va_runV (As := []) (rest := []) ⟨hx, hb, hml, hown, hts⟩ (qs_c_isl l sa va A) ⟨(callB_of 0 hts (qs_good (q_mem_rfl 3 13 rfl rfl : Cond.code qs_y_isl prog_16_method_154_code 1 (some (FieldType.boolean)) ∈ q_tbl)) rfl rfl rfl (hts _ (List.mem_cons_of_mem _ (q_ckg_in (x := (1, 16)) (w := Cond.initialized "java/lang/String") (by decide +kernel)))) (hts _ (List.mem_cons_of_mem _ (q_ckg_in (x := (3, 10)) (w := Cond.methodLink "java/lang/String" 492 qs_y_isl) (by decide +kernel)))) ⟨by decide, by decide, by decide +kernel⟩ ⟨Nat.le_of_ble_eq_true rfl, Nat.le_of_ble_eq_true rfl⟩), (hts _ (List.mem_cons_of_mem _ (q_ckg_in (x := (3, 11)) (w := Cond.instanceMethod qs_y_isl) (by decide +kernel)))), (hts _ (List.mem_cons_of_mem _ (q_ckg_in (x := (3, 12)) (w := Cond.selects "java/lang/String" qs_y_isl qs_y_isl) (by decide +kernel))))⟩ ⟨q_Sc.blind, ⟨cellB, hB1, hB2, hB3⟩, (qs_pre hSy).2⟩ rfl rfl hl.1 rfl (lv_room (Nat.le_of_ble_eq_true rfl)) (show decode prog_16_method_56_code 1 = .ok (.invokevirtual 492, 3) by decide +kernel) ⟨Nat.le_refl _, Nat.le_refl _⟩) ?_
  refine lv_if_eq (tgt := 16) hx hb (show decode prog_16_method_56_code 4 = .ok (.ifCond .eq 12, 3) by decide +kernel) (by decide) (fun h => absurd h (by decide)) (fun _ => ?_)
  refine lv_aload_n hx hb (show decode prog_16_method_56_code 7 = .ok (.aload_n 0, 1) by decide +kernel) rfl (lv_at hl 0 rfl) ?_
  refine vk_getf hx hb hVa hS hown (hts _ (List.mem_cons_of_mem _ (q_ckg_in (x := (8, 22)) (w := Cond.fieldLink "java/lang/String" 9 "java/lang/String" "value" "[B") (by decide +kernel)))) (fun _ h => h) (show decode prog_16_method_56_code 8 = .ok (.getfield 9, 3) by decide +kernel) ?_
  refine lv_iload_n hx hb (show decode prog_16_method_56_code 11 = .ok (.iload_n 1, 1) by decide +kernel) rfl (lv_at hl 1 rfl) ?_
  refine q_rcall (va_runS (As := [.ref va, .int i]) (rest := []) ⟨hx, hb, hml, hown, hts⟩ (qs_c_lch l sa va A i h0 h1) ⟨(callB_of 2 hts (qs_good (q_mem_rfl 3 16 rfl rfl : Cond.code qs_y_lch prog_17_method_2_code 2 (some (FieldType.char)) ∈ q_tbl)) rfl rfl rfl (hts _ (List.mem_cons_of_mem _ (q_ckg_in (x := (1, 17)) (w := Cond.initialized "java/lang/StringLatin1") (by decide +kernel)))) (hts _ (List.mem_cons_of_mem _ (q_ckg_in (x := (3, 14)) (w := Cond.methodLink "java/lang/String" 495 qs_y_lch) (by decide +kernel)))) ⟨by decide, by decide, by decide +kernel⟩ ⟨Nat.le_of_ble_eq_true rfl, Nat.le_of_ble_eq_true rfl⟩), (hts _ (List.mem_cons_of_mem _ (q_ckg_in (x := (3, 15)) (w := Cond.static qs_y_lch) (by decide +kernel))))⟩ (qs_pre hSy) rfl rfl hl.1 rfl (lv_room (Nat.le_of_ble_eq_true rfl)) (show decode prog_16_method_56_code 12 = .ok (.invokestatic 495, 3) by decide +kernel) ⟨Nat.le_refl _, Nat.le_refl _⟩) ?_
  exact W.zret hx hb hr (q_txt_ok _ hlt).2.2 (fun t ht _ => ⟨rfl, ht⟩) (fun q h => by cases h) (show decode prog_16_method_56_code 15 = .ok (.ireturn, 1) by decide +kernel) hlocks
end
