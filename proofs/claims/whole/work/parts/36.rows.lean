section
variable {p : Program} {l : Launch} {e : Env} {R : Room} {s : State} {m : MethodId} {args : Array Value} {below : List Frame} {meth : Method} {cd : Code} {cc : ByteArray} {own : String} {nL : Nat} {Ts : List Cond} {D : va_G} {cA : Nat → ClassId} {z : Nat × Nat × Nat} {H00 : Heap} {L : Nat} {xs : Nat → Int32} {Q : State → Prop}
variable {pc : Nat} {lv : qLv} {st : List qV} {M : qM} {c t : Nat}
variable {H : Heap} {locs : List Loc}
theorem q_catE (z : Nat × Nat × Nat) (st : List qV) : ((st.map (q_ev z)).map fun v => v.category).sum = q_cat st := by
  induction st with
  | nil => rfl
  | cons v t ih =>
    rw [List.map_cons, List.map_cons, List.sum_cons, ih]
    rcases v with x | x | x
    · rfl
    · rfl
    · show (q_er z x).category + _ = _
      rw [q_er_cat]
      rfl
theorem q_arrV_ext {c : ClassId} {n : Nat} {f g : Nat → Value} (h : ∀ j, j < n → f j = g j) : arrV c n f = arrV c n g := by
  unfold arrV
  congr 1
  apply congrArg
  funext j
  exact h j.val j.isLt
theorem q_outer (c : ClassId) (N h0 : Nat) : ∀ i : Nat, Jvm.Free.Multi.outerC c N h0 i = arrV c N (fun j => if j < i then .ref (h0 + 1 + j) else .null)
  | 0 => by
    show ({ cls := c, slots := Array.replicate N .null, vm := .none } : Cell) = _
    rw [arrV_new]
    rfl
  | i + 1 => by
    show (Jvm.Free.Multi.outerC c N h0 i).setSlot i (.ref (h0 + 1 + i)) = _
    rw [q_outer c N h0 i, arrV_store]
    refine congrArg (arrV c N) (funext fun j => ?_)
    unfold updV
    by_cases e : j = i
    · subst e
      rw [if_pos rfl, if_pos (by omega)]
    · rw [if_neg e]
      by_cases h : j < i
      · simp [h, Nat.lt_succ_of_lt h]
      · simp [h, show ¬ j < i + 1 by omega]
theorem q_mu_top (M : qM) (n k : Int) : q_top (q_mu M n k) = q_top M + 1 + n := rfl
theorem q_mu_kd (M : qM) (n k b : Int) : q_kd (q_mu M n k) b = if b = q_top M then 20 else if q_top M < b ∧ b ≤ q_top M + n then 14 else q_kd M b := by
  unfold q_kd q_mu q_top
  dsimp only
  split
  · rfl
  · split <;> rfl
theorem q_mu_ln (M : qM) (n k b : Int) : q_ln (q_mu M n k) b = if b = q_top M then n else if q_top M < b ∧ b ≤ q_top M + n then k else q_ln M b := by
  unfold q_ln q_mu q_top
  dsimp only
  split
  · rfl
  · split <;> rfl
theorem q_mu_rf (M : qM) (n k b j : Int) : q_rf (q_mu M n k) b j = if b = q_top M then (if 0 ≤ j ∧ j < n then q_top M + 1 + j else -1) else if q_top M < b ∧ b ≤ q_top M + n then -1 else q_rf M b j := rfl
theorem q_mu_nm (M : qM) (n k b j : Int) : q_nm (q_mu M n k) b j = if q_top M ≤ b ∧ b ≤ q_top M + n then 0 else q_nm M b j := rfl
theorem q_wf_mu {M : qM} (h : q_wf M) {n k : Int} (hn : 0 ≤ n ∧ n ≤ 1000000) (hk : 0 ≤ k ∧ k ≤ 1000000) : q_wf (q_mu M n k) := by
  have h0 := h.1
  refine ⟨by rw [q_mu_top]; omega, fun a ha hb => ?_, fun a ha h3 => ?_, ?_, fun a j => ?_, fun a j => ?_⟩
  · rw [q_mu_top] at hb
    rw [q_mu_kd, q_mu_ln]
    split
    · exact ⟨by omega, hn⟩
    · split
      · exact ⟨by omega, hk⟩
      · exact h.2.1 a ha (by omega)
  · rw [q_mu_top] at ha
    rw [q_mu_kd, if_neg (by omega), if_neg (by omega)]
    exact h.2.2.1 a (by omega) h3
  · rw [q_mu_kd, q_mu_ln, if_neg (by omega), if_neg (by omega), if_neg (by omega), if_neg (by omega)]
    exact h.2.2.2.1
  · rw [q_mu_rf]
    split
    · split <;> omega
    · split
      · omega
      · exact h.2.2.2.2.1 a j
  · rw [q_mu_kd, q_mu_nm]
    by_cases e : q_top M ≤ a ∧ a ≤ q_top M + n
    · rw [if_pos e]
      exact q_inr0 _
    · rw [if_neg e, if_neg (by omega), if_neg (by omega)]
      exact h.2.2.2.2.2 a j
theorem q_r_mnew (C : q_Cx p s m args cd cc own nL Ts D cA z H00 L xs) {n k : Int} {ix : Nat} (hlk : (Cond.classLink own ix ("[" ++ (FieldType.array .int).toString)).before args s = true) (hov : (Cond.arrayOver (.array .int)).before args s = true) (harr : (Cond.arrayClass .int).before args s = true) (hd : decode cc pc = .ok (.multianewarray ix 2, 4)) (hn : 0 ≤ n ∧ n ≤ 1000000) (hk : 0 ≤ k ∧ k ≤ 1000000) (hr : c + (1 + n.toNat) ≤ R.cells ∧ t + (n.toNat + n.toNat * k.toNat) ≤ R.slots) (kk : q_Wt p l e R s m args below meth cd nL D cA z H00 L xs Q (pc + 4) lv (.inr (.inr (q_top M)) :: st) (q_mu M n k) (c + (1 + n.toNat)) (t + (n.toNat + n.toNat * k.toNat))) : q_Wt p l e R s m args below meth cd nL D cA z H00 L xs Q pc lv (.inl k :: .inl n :: st) M c t := by
  intro H locs ls hS hl hlo hso hR
  have h0 := hS.1.1.1
  have hz := hS.1.2.1
  have hki : q_i32 k := hso.1
  have hni : q_i32 n := hso.2.1
  have en := q_nc32 hn.1 hni
  have ek := q_nc32 hk.1 hki
  have hcy : s.vm.findClass (FieldType.array .int).toString = some (cA 14) := (q_arrT C (i := 2) rfl).2
  have hcz : s.vm.findClass ("[" ++ (FieldType.array .int).toString) = some (cA 20) := (q_arrT C (i := 8) rfl).2
  intro T hT Xs
  obtain ⟨vm₁, cI, comp, -, fA, fC, hO, -, X', step⟩ := Xs.multianewarray2F C.1 C.2.2.2.1 hlk hov harr (g := F0 m pc ls (.int (Int32.ofInt k) :: .int (Int32.ofInt n) :: st.map (q_ev z))) rfl (by rw [C.2.1]; exact hd) rfl (fun h => by have := (q_lt32 hni q_z32).mp h; omega) (fun h => by have := (q_lt32 hki q_z32).mp h; omega) (by rw [en]; omega) (by rw [ek]; show k.toNat * 4 ≤ _; omega) (by rw [ek]; omega) rfl rfl (by rw [en]; exact hr.1) (by rw [en, ek]; exact hr.2)
  have ec : cA 14 = comp := Option.some.inj (hcy.symm.trans fC)
  have ei : cA 20 = cI := Option.some.inj (hcz.symm.trans fA)
  subst ec; subst ei
  rw [en, ek] at X' step
  generalize hF : Jvm.Free.Multi.fill (T.setVm vm₁) (cA 20) (cA 14) n.toNat k.toNat (defaultValue .int) n.toNat = F at X' step
  have hTh : (T.setVm vm₁).heap = H := hT
  obtain ⟨f1, f2, -, -⟩ := Jvm.Free.Multi.fill_facts (T.setVm vm₁) (cA 20) (cA 14) n.toNat k.toNat (defaultValue .int) n.toNat
  rw [hF, hTh] at f1 f2
  have hold : ∀ x : Nat, x < H.size → F.heap[x]? = H[x]? := fun x hx => by
    have := Jvm.Free.Multi.fill_old (T.setVm vm₁) (cA 20) (cA 14) n.toNat k.toNat (defaultValue .int) (a := x) (by rw [hTh]; exact hx) n.toNat
    rw [hF, hTh] at this
    exact this
  have hrow : ∀ j : Nat, j < n.toNat → F.heap[H.size + 1 + j]? = some (arrV (cA 14) k.toNat (fun _ => .int 0)) := fun j hj => by
    have := Jvm.Free.Multi.fill_inner (T.setVm vm₁) (cA 20) (cA 14) n.toNat k.toNat (defaultValue .int) n.toNat j hj
    rw [hF, hTh] at this
    rw [this]
    show some ({ cls := cA 14, slots := Array.replicate k.toNat (.int 0), vm := .none } : Cell) = _
    rw [arrV_new]
  have hRep : q_Rep D cA z (q_mu M n k) F.heap := by
    refine ⟨q_wf_mu hS.1.1 hn hk, by rw [f1, hz, q_mu_top]; omega, fun b hb h1 => ?_⟩
    rw [q_mu_top] at h1
    by_cases e : b = q_top M
    · subst e
      unfold q_co
      rw [q_mu_kd, q_mu_ln, if_pos rfl, if_pos rfl, if_neg (by omega), ← hz, f2, q_outer]
      congr 2
      funext j
      have e5 : q_sv z (q_mu M n k) (q_top M) j = q_er z (q_rf (q_mu M n k) (q_top M) j) := by
        unfold q_sv
        rw [q_mu_kd, if_pos rfl]
        rfl
      rw [e5, q_mu_rf, if_pos rfl]
      by_cases hj : j < n.toNat
      · have e7 : H.size + 1 + j = z.1 + (q_top M + 1 + (j : Int)).toNat := by omega
        rw [if_pos hj, if_pos (by omega), q_er_pos (by omega), e7]
      · rw [if_neg hj, if_neg (by omega)]
        rfl
    · by_cases e2 : q_top M < b ∧ b ≤ q_top M + n
      · unfold q_co
        rw [q_mu_kd, q_mu_ln, if_neg e, if_pos e2, if_neg e, if_pos e2, if_neg (by omega)]
        have := hrow (b - q_top M - 1).toNat (by omega)
        rw [show z.1 + b.toNat = H.size + 1 + (b - q_top M - 1).toNat by omega, this]
        congr 2
        funext j
        unfold q_sv
        rw [q_mu_kd, if_neg e, if_pos e2, if_neg (by omega), if_neg (by omega), if_neg (by omega), q_mu_nm, if_pos (by omega)]
        rfl
      · have h2 := hS.1.2.2 b hb (by omega)
        have h3 : F.heap[z.1 + b.toNat]? = H[z.1 + b.toNat]? := hold _ (by omega)
        have hsv : q_sv z (q_mu M n k) b = q_sv z M b := by
          funext j
          unfold q_sv
          rw [q_mu_kd, q_mu_rf, q_mu_nm, if_neg e, if_neg e2, if_neg e, if_neg e2, if_neg (show ¬ (q_top M ≤ b ∧ b ≤ q_top M + n) by omega)]
        unfold q_co at h2 ⊢
        rw [q_mu_kd, q_mu_ln, if_neg e, if_neg e2, if_neg e, if_neg e2, hsv]
        split
        · rename_i h4
          rw [if_pos h4] at h2
          exact h2.kept h3
        · rename_i h4
          rw [if_neg h4] at h2
          rw [h3]; exact h2
  have hSt : q_St D cA z H00 L xs (q_mu M n k) F.heap locs := by
    refine ⟨hRep, fun q hq => by rw [hold q (by omega)]; exact hS.2.1 q hq, ⟨?_, fun j hj => ?_⟩, hS.2.2.2⟩
    · rw [q_mu_ln, if_neg (by omega), if_neg (by omega)]
      exact hS.2.2.1.1
    · rw [q_mu_nm, if_neg (by omega)]
      exact hS.2.2.1.2 j hj
  have hk2 := kk F.heap locs ls hSt hl hlo ⟨by show (-3 : Int) ≤ q_top M; omega, hso.2.2⟩ hr
  have he : q_ev z (.inr (.inr (q_top M))) = .ref (z.1 + (q_top M).toNat) := q_er_pos h0
  rw [List.map_cons, he, ← hz] at hk2
  rw [Nat.add_assoc c, Nat.add_assoc t] at X'
  obtain ⟨t', a1, b1⟩ := hk2 F rfl X'
  refine ⟨t', step t' ?_, b1⟩
  have e9 : T.heap.size = H.size := by rw [hT]
  rw [e9]
  exact a1
theorem q_r_copy (C : q_Cx p s m args cd cc own nL Ts D cA z H00 L xs) {a i b' j n : Int} {ix : Nat} (hlink : (Cond.methodLink own ix arraycopyName).before args s = true) (hnat : (Cond.native arraycopyName).before args s = true) (hstat : (Cond.static arraycopyName).before args s = true) (hini : (Cond.initialized "java/lang/System").before args s = true) (hd : decode cc pc = .ok (.invokestatic ix, 3))
    (hk : (q_kd M a = 12 ∧ q_kd M b' = 12) ∨ (0 ≤ a ∧ 0 ≤ b' ∧ q_kd M a = 14 ∧ q_kd M b' = 14)) (hab : a ≠ b') (hi : 0 ≤ i) (hj : 0 ≤ j) (hn : 0 ≤ n) (h4 : i + n ≤ q_ln M a) (h5 : j + n ≤ q_ln M b') (hfr : 1 ≤ R.frames) (hlo2 : q_cat st + (nativeFrameWords "java/lang/System" "arraycopy" 5 + 11) ≤ R.locals)
    (kk : q_Wt p l e R s m args below meth cd nL D cA z H00 L xs Q (pc + 3) lv st (q_cp M a i b' j n) c t) : q_Wt p l e R s m args below meth cd nL D cA z H00 L xs Q pc lv (.inl n :: .inl j :: .inr (.inr b') :: .inl i :: .inr (.inr a) :: st) M c t := by
  intro H locs ls hS hl hlo hso hR
  have hni : q_i32 n := hso.1
  have hji : q_i32 j := hso.2.1
  have hii : q_i32 i := hso.2.2.2.1
  have hko : (q_kd M a = 12 ∨ q_kd M a = 14) ∧ q_kd M b' = q_kd M a := by omega
  have ha3 : a ≠ -3 := by
    rcases hk with h | h
    · exact q_ne3 hS (by omega)
    · omega
  have hb3 : b' ≠ -3 := by
    rcases hk with h | h
    · exact q_ne3 hS (by omega)
    · omega
  obtain ⟨ha, hc0⟩ := q_cellA hS (a := a) (by omega) ha3
  obtain ⟨hb, hc1⟩ := q_cellA hS (a := b') (by omega) hb3
  rw [hko.2] at hc1
  obtain ⟨ty, hty, hfty, hpr⟩ : ∃ ty, ArrOfT s (cA (q_kd M a).toNat) ty ∧ (∀ x, q_inr (q_kd M a) x → fits ty (.int (Int32.ofInt x)) = true) ∧ refKind ty = false := by
    rcases hko.1 with h | h
    · refine ⟨.byte, by rw [h]; exact (q_arrT C (i := 0) rfl).1, fun x hx => ?_, rfl⟩
      rw [h] at hx
      have hx2 : -128 ≤ x ∧ x ≤ 127 := hx
      have h32 : q_i32 x := by unfold q_i32; omega
      show (decide (-128 ≤ Int32.ofInt x) && decide (Int32.ofInt x ≤ 127)) = true
      rw [Bool.and_eq_true, decide_eq_true_eq, decide_eq_true_eq]
      exact ⟨(q_le32 (x := -128) (by unfold q_i32; omega) h32).mpr hx2.1, (q_le32 (y := 127) h32 (by unfold q_i32; omega)).mpr hx2.2⟩
    · exact ⟨.int, by rw [h]; exact (q_arrT C (i := 2) rfl).1, fun x hx => rfl, rfl⟩
  have hva : ∀ q : Nat, q_sv z M a q = .int (Int32.ofInt (q_nm M a q)) := fun q => by
    unfold q_sv
    rw [if_neg (by omega), if_neg (by omega), if_neg (by omega)]
  show W p l e R s m args below meth cd H locs c t Q (F0 m pc ls (.int (Int32.ofInt n) :: .int (Int32.ofInt j) :: q_er z b' :: .int (Int32.ofInt i) :: q_er z a :: st.map (q_ev z)))
  rw [q_er_pos ha, q_er_pos hb]
  have en := q_nc32 hn hni
  have ej := q_nc32 hj hji
  have ei := q_nc32 hi hii
  intro T hT X
  obtain ⟨-, k0, hk0, cm0, hkk0⟩ := hty (q_ln M a).toNat (q_sv z M a)
  obtain ⟨-, k1, hk1, cm1, hkk1⟩ := hty (q_ln M b').toNat (q_sv z M b')
  obtain ⟨vm', X', step⟩ := X.arraycopy C.1 C.2.2.2.1 hlink hnat hstat hini (src := z.1 + a.toNat) (dst := z.1 + b'.toNat) (cs := arrV (cA (q_kd M a).toNat) (q_ln M a).toNat (q_sv z M a)) (cd := arrV (cA (q_kd M a).toNat) (q_ln M b').toNat (q_sv z M b')) (srcPos := Int32.ofInt i) (destPos := Int32.ofInt j) (n := Int32.ofInt n) (by rw [hT]; exact hc0) (by rw [hT]; exact hc1)
    (fun _ h => by cases h) (fun _ h => by cases h) (fun h => by cases h) (fun h => by cases h) hk0 hk1 hkk0 hkk1 (by simp [hpr]) (fun h => by have := (q_lt32 hii q_z32).mp h; omega) (fun h => by have := (q_lt32 hji q_z32).mp h; omega) (fun h => by have := (q_lt32 hni q_z32).mp h; omega)
    (by rw [q_t32 hii, q_t32 hni, arrV_size]; omega)
    (by rw [q_t32 hji, q_t32 hni, arrV_size]; omega)
    (fun vm₁ _ q hq => by
      rw [en] at hq
      have e : (arrV (cA (q_kd M a).toNat) (q_ln M a).toNat (q_sv z M a)).slots.getD ((Int32.ofInt i).toNatClampNeg + q) .null = .int (Int32.ofInt (q_nm M a ((i.toNat + q : Nat) : Int))) := by
        rw [ei, Array.getD_eq_getD_getElem?, arrV_read _ _ (by omega), Option.getD_some, hva]
      refine ⟨?_, ?_⟩
      · rw [e]
        exact hfty _ (hS.1.1.2.2.2.2.2 a _)
      · rw [e]
        exact trivial)
    (g := F0 m pc ls (.int (Int32.ofInt n) :: .int (Int32.ofInt j) :: .ref (z.1 + b'.toNat) :: .int (Int32.ofInt i) :: .ref (z.1 + a.toNat) :: st.map (q_ev z))) rfl (by rw [C.2.2.1]; exact hl.1) (rest := st.map (q_ev z)) rfl (by rw [C.2.1]; exact hd) hfr (by rw [q_catE]; show 2 * 0 + _ + _ ≤ _; omega)
  have e1 : copied (arrV (cA (q_kd M a).toNat) (q_ln M a).toNat (q_sv z M a)) (arrV (cA (q_kd M a).toNat) (q_ln M b').toNat (q_sv z M b')) (Int32.ofInt i) (Int32.ofInt j) (Int32.ofInt n) = arrV (cA (q_kd M a).toNat) (q_ln M b').toNat (va_cpy (q_sv z M a) (q_sv z M b') i.toNat j.toNat n.toNat) := by
    have h9 : copied (arrV (cA (q_kd M a).toNat) (q_ln M a).toNat (q_sv z M a)) (arrV (cA (q_kd M a).toNat) (q_ln M b').toNat (q_sv z M b')) (Int32.ofInt i) (Int32.ofInt j) (Int32.ofInt n) = arrV (cA (q_kd M a).toNat) (q_ln M b').toNat (va_cpy (q_sv z M a) (q_sv z M b') (Int32.ofInt i).toNatClampNeg (Int32.ofInt j).toNatClampNeg (Int32.ofInt n).toNatClampNeg) := va_copied (fun v => v) _ _ (q_sv z M a) (q_sv z M b') (by rw [ei, en]; omega)
    rw [ei, ej, en] at h9
    exact h9
  rw [e1] at X' step
  have hbl : z.1 + b'.toNat < H.size := (Array.getElem?_eq_some_iff.mp hc1).1
  generalize hcell : arrV (cA (q_kd M a).toNat) (q_ln M b').toNat (va_cpy (q_sv z M a) (q_sv z M b') i.toNat j.toNat n.toNat) = cellN at X' step
  have hheap : ((T.setVm vm').setCell (z.1 + b'.toNat) cellN).heap = H.setIfInBounds (z.1 + b'.toNat) cellN := by rw [← hT]; rfl
  have oq : ∀ q : Nat, q ≠ z.1 + b'.toNat → (H.setIfInBounds (z.1 + b'.toNat) cellN)[q]? = H[q]? := fun q hq => by simp [Array.getElem?_setIfInBounds, Ne.symm hq]
  have hsz : (H.setIfInBounds (z.1 + b'.toNat) cellN).size = H.size := by simp
  have hself : (H.setIfInBounds (z.1 + b'.toNat) cellN)[z.1 + b'.toNat]? = some cellN := by simp [Array.getElem?_setIfInBounds, hbl]
  have hwf : q_wf (q_cp M a i b' j n) := by
    have h := hS.1.1
    refine ⟨h.1, h.2.1, h.2.2.1, h.2.2.2.1, h.2.2.2.2.1, fun x y => ?_⟩
    show q_inr (q_kd M x) (if x = b' ∧ j ≤ y ∧ y < j + n then q_nm M a (i + (y - j)) else q_nm M x y)
    split
    · rename_i e
      rw [e.1, hko.2]
      exact h.2.2.2.2.2 a _
    · exact h.2.2.2.2.2 x y
  have hRep : q_Rep D cA z (q_cp M a i b' j n) (H.setIfInBounds (z.1 + b'.toNat) cellN) := by
    refine q_upd hS.1 hb rfl (fun _ => rfl) (fun _ => rfl) hwf (fun x hx => ?_) hsz oq ?_
    · funext y
      show (if q_kd M x < 12 then _ else _) = _
      unfold q_sv
      have : q_nm (q_cp M a i b' j n) x y = q_nm M x y := if_neg (fun e => hx e.1)
      rw [this]
      rfl
    · unfold q_co
      show (if q_kd M b' < 12 then _ else _)
      rw [if_neg (by omega), hself, ← hcell]
      show some _ = some (arrV (cA (q_kd M b').toNat) (q_ln M b').toNat (q_sv z (q_cp M a i b' j n) b'))
      rw [hko.2]
      congr 2
      funext y
      have e5 : q_sv z (q_cp M a i b' j n) b' y = .int (Int32.ofInt (q_nm (q_cp M a i b' j n) b' y)) := by
        show (if q_kd M b' < 12 then _ else if q_kd M b' = 15 then _ else if 17 ≤ q_kd M b' then _ else _) = _
        rw [if_neg (by omega), if_neg (by omega), if_neg (by omega)]
      have e6 : q_nm (q_cp M a i b' j n) b' y = if b' = b' ∧ j ≤ (y : Int) ∧ (y : Int) < j + n then q_nm M a (i + ((y : Int) - j)) else q_nm M b' y := rfl
      rw [e5, e6]
      unfold va_cpy
      by_cases hy : j.toNat ≤ y ∧ y < j.toNat + n.toNat
      · rw [if_pos hy, if_pos (by omega), hva]
        congr 3
        omega
      · rw [if_neg hy, if_neg (by omega)]
        unfold q_sv
        rw [if_neg (by omega), if_neg (by omega), if_neg (by omega)]
  have hSt : ∀ locs' : List Loc, (∀ q ∈ locs', z.1 ≤ q.base) → q_St D cA z H00 L xs (q_cp M a i b' j n) (H.setIfInBounds (z.1 + b'.toNat) cellN) locs' := by
    intro locs' hlocs
    refine ⟨hRep, fun q hq => by rw [oq q (by omega)]; exact hS.2.1 q hq, ⟨hS.2.2.1.1, fun q hq => ?_⟩, hlocs⟩
    show xs q = Int32.ofInt (if (-3 : Int) = b' ∧ _ then _ else _)
    rw [if_neg (fun e => hb3 e.1.symm)]
    exact hS.2.2.1.2 q hq
  obtain ⟨t', a1, b1⟩ := kk _ _ ls (hSt _ (fun q hq => by
      rcases List.mem_append.mp hq with h | h
      · exact hS.2.2.2 q h
      · obtain ⟨w, -, rfl⟩ := List.mem_map.mp h
        show z.1 ≤ z.1 + b'.toNat
        omega)) hl hlo hso.2.2.2.2.2 hR _ hheap X'
  exact ⟨t', step t' a1, b1⟩
theorem q_r_clone (C : q_Cx p s m args cd cc own nL Ts D cA z H00 L xs) {a : Int} {ix : Nat} (hlink : (Cond.methodLink own ix ⟨"[I", "clone", "()Ljava/lang/Object;"⟩).before args s = true) (hsame : (Cond.sameMethod "[I" "java/lang/Object" "clone" "()Ljava/lang/Object;").before args s = true)
    (hnat : (Cond.native ⟨"java/lang/Object", "clone", "()Ljava/lang/Object;"⟩).before args s = true) (hinst : (Cond.instanceMethod ⟨"java/lang/Object", "clone", "()Ljava/lang/Object;"⟩).before args s = true)
    (hsel : (Cond.selects "[I" ⟨"[I", "clone", "()Ljava/lang/Object;"⟩ ⟨"java/lang/Object", "clone", "()Ljava/lang/Object;"⟩).before args s = true) (hcl : (Cond.castable "[I" "java/lang/Cloneable").before args s = true)
    (hd : decode cc pc = .ok (.invokevirtual ix, 3)) (ha : 0 ≤ a) (hk : q_kd M a = 14) (hfr : 1 ≤ R.frames) (hlo2 : q_cat st + 14 ≤ R.locals) (hr : c + 1 ≤ R.cells ∧ t + (q_ln M a).toNat ≤ R.slots)
    (kk : q_Wt p l e R s m args below meth cd nL D cA z H00 L xs Q (pc + 3) lv (.inr (.inr (q_top M)) :: st) (q_cp (q_al M 14 (q_ln M a)) a 0 (q_top M) 0 (q_ln M a)) (c + 1) (t + (q_ln M a).toNat)) : q_Wt p l e R s m args below meth cd nL D cA z H00 L xs Q pc lv (.inr (.inr a) :: st) M c t := by
  intro H locs ls hS hl hlo hso hR
  have h0 := hS.1.1.1
  have hz := hS.1.2.1
  obtain ⟨-, hc⟩ := q_cellA hS (a := a) (by omega) (by omega)
  rw [hk] at hc
  have hc : H[z.1 + a.toNat]? = some (arrV (cA 14) (q_ln M a).toNat (q_sv z M a)) := hc
  obtain ⟨-, htop⟩ := q_kdin hS.1.1 (a := a) (by omega) (by omega)
  have hln := (hS.1.1.2.1 a ha htop).2
  have hnm : s.vm.findClass "[I" = some (cA 14) := (q_arrT C (i := 2) rfl).2
  have hat : ArrOfT s (cA 14) .int := (q_arrT C (i := 2) rfl).1
  obtain ⟨c0, t0', f1, f2, f3⟩ := Cond.castable_spec hcl
  have ecc : cA 14 = c0 := Option.some.inj (hnm.symm.trans f1)
  subst ecc
  generalize hcell : arrV (cA 14) (q_ln M a).toNat (q_sv z M a) = cellN at hc
  have hsz : cellN.slots.size = (q_ln M a).toNat := by rw [← hcell]; exact arrV_size _ _ _
  have hvm0 : cellN.vm = .none := by rw [← hcell]; rfl
  have hcl0 : cellN.cls = cA 14 := by rw [← hcell]; rfl
  have hcellE : ({ cls := cellN.cls, slots := cellN.slots } : Cell) = cellN := by rw [← hcell]; rfl
  show W p l e R s m args below meth cd H locs c t Q (F0 m pc ls (q_er z a :: st.map (q_ev z)))
  rw [q_er_pos ha]
  have hva : ∀ q : Nat, q_sv z M a q = .int (Int32.ofInt (q_nm M a q)) := fun q => by
    unfold q_sv
    rw [if_neg (by omega), if_neg (by omega), if_neg (by omega)]
  intro T hT X
  obtain ⟨-, kA, hkA, comp, hkind⟩ := State.isArrayOf_alike X.warmed.alike (hat 0 (fun _ => .null))
  obtain ⟨-, kS, hkS, compS, hkindS⟩ := hat 0 (fun _ => .null)
  obtain ⟨vm', X', st'⟩ := X.cloneArray C.1 C.2.2.2.1 hlink hsame hnat hinst hsel (a := z.1 + a.toNat) (cell := cellN) (by rw [hT]; exact hc) (fun k h => by rw [hvm0] at h; cases h) (by rw [hvm0]; exact fun h => by cases h) (by rw [hcl0]; exact hnm) f2 (by rw [hcl0]; exact f3)
    (fun i v hv => by
      rw [hcl0]
      have hk' : T.vm.classes[cA 14]? = some kA := hkA
      have hv2 : fits .int v = true := by
        rw [← hcell] at hv
        by_cases hi : i < (q_ln M a).toNat
        · rw [arrV_read _ _ hi, hva] at hv
          cases hv
          rfl
        · have : (arrV (cA 14) (q_ln M a).toNat (q_sv z M a)).slots[i]? = none := Array.getElem?_eq_none (by rw [arrV_size]; omega)
          rw [this] at hv
          cases hv
      simpa [State.fitsSlot, State.slotType?, hk', hkind] using hv2)
    (g := F0 m pc ls (.ref (z.1 + a.toNat) :: st.map (q_ev z))) rfl (by rw [C.2.2.1]; exact hl.1) rfl (by rw [C.2.1]; exact hd) hfr (by rw [q_catE]; show 2 * 0 + _ + 14 ≤ _; omega) hr.1 (by rw [hsz]; exact hr.2) (hloader := by rw [hcl0]; exact Vm.clonesLoader_of_array hkS hkindS)
  rw [hcellE, hsz] at X'
  generalize hH1 : H.push cellN = H1
  have z1 : H1.size = H.size + 1 := by rw [← hH1, Array.size_push]
  have e1 : H1[H.size]? = some cellN := by rw [← hH1, Array.getElem?_push_size]
  have o1 : ∀ q : Nat, q < H.size → H1[q]? = H[q]? := fun q hq => by rw [← hH1, Array.getElem?_push, if_neg (Nat.ne_of_lt hq)]
  have hkd : ∀ x, q_kd (q_cp (q_al M 14 (q_ln M a)) a 0 (q_top M) 0 (q_ln M a)) x = if x = q_top M then 14 else q_kd M x := fun x => q_al_kd M 14 (q_ln M a) x
  have hlnE : ∀ x, q_ln (q_cp (q_al M 14 (q_ln M a)) a 0 (q_top M) 0 (q_ln M a)) x = if x = q_top M then q_ln M a else q_ln M x := fun x => q_al_ln M 14 (q_ln M a) x
  have hrfE : ∀ x y, q_rf (q_cp (q_al M 14 (q_ln M a)) a 0 (q_top M) 0 (q_ln M a)) x y = if x = q_top M then -1 else q_rf M x y := fun x y => rfl
  have hnmE : ∀ x y, q_nm (q_cp (q_al M 14 (q_ln M a)) a 0 (q_top M) 0 (q_ln M a)) x y = if x = q_top M then (if 0 ≤ y ∧ y < q_ln M a then q_nm M a y else 0) else q_nm M x y := fun x y => by
    show (if x = q_top M ∧ 0 ≤ y ∧ y < 0 + q_ln M a then (if a = q_top M then 0 else q_nm M a (0 + (y - 0))) else (if x = q_top M then 0 else q_nm M x y)) = _
    by_cases e : x = q_top M
    · by_cases e2 : 0 ≤ y ∧ y < q_ln M a
      · rw [if_pos (by omega), if_neg (by omega), if_pos e, if_pos e2]
        congr 1
        omega
      · rw [if_neg (by omega), if_pos e, if_pos e, if_neg e2]
    · rw [if_neg (by omega), if_neg e, if_neg e]
  have htopE : q_top (q_cp (q_al M 14 (q_ln M a)) a 0 (q_top M) 0 (q_ln M a)) = q_top M + 1 := rfl
  generalize q_cp (q_al M 14 (q_ln M a)) a 0 (q_top M) 0 (q_ln M a) = M' at kk hkd hlnE hrfE hnmE htopE
  have hwf : q_wf M' := by
    have h := hS.1.1
    refine ⟨by rw [htopE]; omega, fun x hx hb => ?_, fun x hx h3 => ?_, ?_, fun x y => ?_, fun x y => ?_⟩
    · rw [htopE] at hb
      rw [hkd, hlnE]
      by_cases e : x = q_top M
      · rw [if_pos e, if_pos e]
        exact ⟨by omega, hln⟩
      · rw [if_neg e, if_neg e]
        exact h.2.1 x hx (by omega)
    · rw [htopE] at hx
      rw [hkd, if_neg (by omega)]
      exact h.2.2.1 x (by omega) h3
    · rw [hkd, hlnE, if_neg (by omega), if_neg (by omega)]
      exact h.2.2.2.1
    · rw [hrfE]
      split
      · omega
      · exact h.2.2.2.2.1 x y
    · rw [hkd, hnmE]
      by_cases e : x = q_top M
      · rw [if_pos e, if_pos e]
        by_cases e2 : 0 ≤ y ∧ y < q_ln M a
        · rw [if_pos e2]
          have := h.2.2.2.2.2 a y
          rw [hk] at this
          exact this
        · rw [if_neg e2]
          exact q_inr0 _
      · rw [if_neg e, if_neg e]
        exact h.2.2.2.2.2 x y
  have hRep : q_Rep D cA z M' H1 := by
    refine ⟨hwf, by rw [z1, hz, htopE]; omega, fun b hb h1 => ?_⟩
    rw [htopE] at h1
    by_cases e : b = q_top M
    · subst e
      unfold q_co
      rw [hkd, hlnE, if_pos rfl, if_pos rfl, if_neg (by omega), ← hz, e1, ← hcell]
      refine congrArg some (q_arrV_ext (fun y hy => ?_))
      rw [hva]
      unfold q_sv
      rw [hkd, if_pos rfl, if_neg (by omega), if_neg (by omega), if_neg (by omega), hnmE, if_pos rfl, if_pos (by omega)]
    · have h2 := hS.1.2.2 b hb (by omega)
      have h3 : H1[z.1 + b.toNat]? = H[z.1 + b.toNat]? := o1 _ (by omega)
      have hsv : q_sv z M' b = q_sv z M b := by
        funext y
        unfold q_sv
        rw [hkd, hrfE, hnmE, if_neg e, if_neg e, if_neg e]
      unfold q_co at h2 ⊢
      rw [hkd, hlnE, if_neg e, if_neg e, hsv]
      split
      · rename_i h4
        rw [if_pos h4] at h2
        exact h2.kept h3
      · rename_i h4
        rw [if_neg h4] at h2
        rw [h3]; exact h2
  have hSt : q_St D cA z H00 L xs M' H1 locs := by
    refine ⟨hRep, fun q hq => by rw [o1 q (by omega)]; exact hS.2.1 q hq, ⟨?_, fun q hq => ?_⟩, hS.2.2.2⟩
    · rw [hlnE, if_neg (by omega)]
      exact hS.2.2.1.1
    · rw [hnmE, if_neg (by omega)]
      exact hS.2.2.1.2 q hq
  have hk2 := kk H1 locs ls hSt hl hlo ⟨by show (-3 : Int) ≤ q_top M; omega, hso.2⟩ hr
  have he : q_ev z (.inr (.inr (q_top M))) = .ref (z.1 + (q_top M).toNat) := q_er_pos h0
  rw [List.map_cons, he, ← hz] at hk2
  obtain ⟨t', b1, b2⟩ := hk2 ((T.setVm vm').pushCell cellN) (by rw [← hH1, ← hT]; rfl) X'
  refine ⟨t', st' t' ?_, b2⟩
  rw [hcellE, hT]
  exact b1
theorem q_r_objInit (C : q_Cx p s m args cd cc own nL Ts D cA z H00 L xs) {a : Int} {ix : Nat} (hlink : (Cond.methodLink own ix Lib.objectInit).before args s = true) (hinst : (Cond.instanceMethod Lib.objectInit).before args s = true) (hcode : (Cond.code Lib.objectInit ⟨#[0xb1]⟩ 1 none).before args s = true) (hd : decode cc pc = .ok (.invokespecial ix, 3)) (ha : 0 ≤ a) (hfr : 1 ≤ R.frames) (hlo2 : q_cat st + 12 ≤ R.locals) (kk : q_Wt p l e R s m args below meth cd nL D cA z H00 L xs Q (pc + 3) lv st M c t) : q_Wt p l e R s m args below meth cd nL D cA z H00 L xs Q pc lv (.inr (.inr a) :: st) M c t := by
  intro H locs ls hS hl hlo hso hR
  show W p l e R s m args below meth cd H locs c t Q (F0 m pc ls (q_er z a :: st.map (q_ev z)))
  rw [q_er_pos ha]
  exact W.objInit C.1 C.2.1 C.2.2.2.1 hlink hinst hcode rfl (by rw [C.2.2.1]; exact hl.1) rfl hd hfr (by rw [q_catE]; show 2 * 0 + _ + 12 ≤ _; omega) (kk H locs ls hS hl hlo hso.2 hR)
end
