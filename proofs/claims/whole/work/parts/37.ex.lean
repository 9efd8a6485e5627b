section
variable {p : Program} {l : Launch} {e : Env} {R : Room} {s : State} {m : MethodId} {args : Array Value} {below : List Frame} {meth : Method} {cd : Code} {cc : ByteArray} {own : String} {nL : Nat} {Ts : List Cond} {D : va_G} {cA : Nat → ClassId} {z : Nat × Nat × Nat} {H00 : Heap} {L : Nat} {xs : Nat → Int32} {Q : State → Prop}
variable {pc : Nat} {lv : qLv} {st : List qV} {M : qM} {c t : Nat}
variable {H : Heap} {locs : List Loc}
/-- what a program checks of an instruction -/
def q_okI (mt : qMt) (nL pc : Nat) (i : Instr) (n : Nat) : Bool := match i with
  | .iadd => Nat.beq n 1
  | .isub => Nat.beq n 1
  | .imul => Nat.beq n 1
  | .iand => Nat.beq n 1
  | .ior => Nat.beq n 1
  | .ishl => Nat.beq n 1
  | .ishr => Nat.beq n 1
  | .idiv => Nat.beq n 1
  | .irem => Nat.beq n 1
  | .ineg => Nat.beq n 1
  | .ladd => Nat.beq n 1
  | .lsub => Nat.beq n 1
  | .lmul => Nat.beq n 1
  | .lxor => Nat.beq n 1
  | .ldiv => Nat.beq n 1
  | .lrem => Nat.beq n 1
  | .lneg => Nat.beq n 1
  | .lushr => Nat.beq n 1
  | .lcmp => Nat.beq n 1
  | .i2l => Nat.beq n 1
  | .l2i => Nat.beq n 1
  | .i2b => Nat.beq n 1
  | .dup => Nat.beq n 1
  | .dup2 => Nat.beq n 1
  | .pop => Nat.beq n 1
  | .arraylength => Nat.beq n 1
  | .iaload => Nat.beq n 1
  | .baload => Nat.beq n 1
  | .caload => Nat.beq n 1
  | .laload => Nat.beq n 1
  | .aaload => Nat.beq n 1
  | .iastore => Nat.beq n 1
  | .bastore => Nat.beq n 1
  | .castore => Nat.beq n 1
  | .lastore => Nat.beq n 1
  | .aastore => Nat.beq n 1
  | .aconst_null => Nat.beq n 1
  | .ireturn => Nat.beq n 1
  | .lreturn => Nat.beq n 1
  | .areturn => Nat.beq n 1
  | .return_ => Nat.beq n 1
  | .iconst v => Nat.beq n 1 && decide (-1 ≤ v) && decide (v ≤ 5)
  | .bipush v => Nat.beq n 2 && decide (-128 ≤ v) && decide (v < 128)
  | .sipush v => Nat.beq n 3 && decide (-32768 ≤ v) && decide (v < 32768)
  | .lconst _ => Nat.beq n 1
  | .ldc k => Nat.beq n 2 && (match mt.2.2.1.2.1 k with | some (.inl _) => true | some (.inr (.inr _)) => true | _ => false)
  | .ldc2_w k => Nat.beq n 3 && (match mt.2.2.1.2.1 k with | some (.inr (.inl _)) => true | _ => false)
  | .iload _ => Nat.beq n 2
  | .iload_n _ => Nat.beq n 1
  | .lload _ => Nat.beq n 2
  | .lload_n _ => Nat.beq n 1
  | .aload _ => Nat.beq n 2
  | .aload_n _ => Nat.beq n 1
  | .istore k => Nat.beq n 2 && Nat.blt k nL
  | .istore_n k => Nat.beq n 1 && Nat.blt k.val nL
  | .lstore k => Nat.beq n 2 && Nat.blt (k + 1) nL
  | .lstore_n k => Nat.beq n 1 && Nat.blt (k.val + 1) nL
  | .astore k => Nat.beq n 2 && Nat.blt k nL
  | .astore_n k => Nat.beq n 1 && Nat.blt k.val nL
  | .iinc k _ => Nat.beq n 3 && Nat.blt k nL
  | .checkcast _ => Nat.beq n 3
  | .getfield _ => Nat.beq n 3
  | .putfield _ => Nat.beq n 3
  | .new k => Nat.beq n 3 && (match mt.2.2.1.2.2 k with | some ci => decide (0 ≤ ci) && decide (ci < 12) | none => false)
  | .newarray _ => Nat.beq n 2
  | .anewarray k => Nat.beq n 3 && (match mt.2.2.1.2.2 k with | some ci => decide (0 ≤ ci) && decide (ci < 12) | none => false)
  | .multianewarray _ d => Nat.beq n 4 && Nat.beq d 2
  | .if_icmp _ off => Nat.beq n 3 && decide (0 ≤ (pc : Int) + off)
  | .ifCond _ off => Nat.beq n 3 && decide (0 ≤ (pc : Int) + off)
  | .ifnull off => Nat.beq n 3 && decide (0 ≤ (pc : Int) + off)
  | .ifnonnull off => Nat.beq n 3 && decide (0 ≤ (pc : Int) + off)
  | .goto off => Nat.beq n 3 && decide (0 ≤ (pc : Int) + off)
  | .tableswitch d lo hi offs => decide ((offs.size : Int) = hi - lo + 1) && decide (0 ≤ (pc : Int) + d) && offs.toList.all (fun o => decide (0 ≤ (pc : Int) + o))
  | .lookupswitch d ps => (ps.toList.zip (ps.toList.drop 1)).all (fun (a, next) => a.1 < next.1) && decide (0 ≤ (pc : Int) + d) && ps.toList.all (fun o => decide (0 ≤ (pc : Int) + o.2))
  | .invokevirtual k => Nat.beq n 3 && (match mt.2.2.2.1 k with | some cl => Nat.beq (q_knd cl.1) 0 | none => false)
  | .invokestatic k => Nat.beq n 3 && (match mt.2.2.2.1 k with | some cl => Nat.beq (q_knd cl.1) 1 | none => false)
  | .invokespecial k => Nat.beq n 3 && (match mt.2.2.2.1 k with | some cl => Nat.beq (q_knd cl.1) 2 | none => false)
  | _ => false
/-- what the tables' words say of a class's links; tx the text constant -/
def q_okF (Ts : List Cond) (own : String) (oc : Int) (ix : Nat) (e : Int × Int × Bool × Bool) : Prop := ∃ (ci k N : Nat) (Cn : String) (T : u_T), e.1 = ci ∧ e.2.1 = k ∧ q_Cl Ts ci N Cn T ∧ k < N ∧ (q_fr ci).getD k false = e.2.2.1 ∧ (T k).2.2.2 = e.2.2.2 ∧ ((ci : Int) = oc → (T k).1 = own) ∧ Cond.fieldLink own ix (T k).1 (T k).2.1 (T k).2.2.1 ∈ Ts
def q_okK (Ts : List Cond) (own : String) (ix : Nat) (v : qV) (S : Prop) : Prop := match v with
  | .inl x => q_i32 x ∧ Jvm.Cond.constant own ix (Int32.ofInt x) ∈ Ts
  | .inr (.inl x) => q_i64 x ∧ Jvm.Cond.constantLong own ix (Int64.ofInt x) ∈ Ts
  | .inr (.inr x) => x = -2 ∧ S
def q_okN (Ts : List Cond) (own : String) (ix : Nat) (ci : Int) : Prop := (0 ≤ ci ∧ ci < 12 → ∃ (c N : Nat) (Cn : String) (T : u_T), ci = c ∧ q_Cl Ts c N Cn T ∧ Cond.classLink own ix Cn ∈ Ts ∧ Cond.instantiable Cn N ∈ Ts ∧ Cond.initialized Cn ∈ Ts ∧ (q_akb ci = true → Cn = q_aC ci)) ∧ (ci = 20 → Cond.classLink own ix ("[" ++ (FieldType.array .int).toString) ∈ Ts)
def q_okW (Ts : List Cond) : Prop := (∀ at_, q_nkb at_ = true → Cond.arrayClass (newarray.typeOf at_) ∈ Ts) ∧ (∀ ci, q_akb ci = true → Cond.arrayOver (.object (q_aC ci)) ∈ Ts) ∧ Cond.arrayOver (.array .int) ∈ Ts ∧ ∀ ci : Nat, ci < 12 → ∃ (N : Nat) (Cn : String) (T : u_T), q_Cl Ts ci N Cn T ∧ (q_akb ci = true → Cn = q_aC ci)
def q_text : String := "none early late swap trade blend near sense lost when or and not all real gap place words often own sort far min max "
theorem q_ex_sound (C : q_Cx p s m args cd cc own nL Ts D cA z H00 L xs) {mt : qMt} {i : Instr} {n : Nat} {φ : Option Prop} {lv' : qLv} {st' : List qV} {M' : qM} {w : Option (Nat × Nat)} (hbc : mt.2.2.2.2.2.2.2.1 ≤ R.cells ∧ mt.2.2.2.2.2.2.2.2 ≤ R.slots) (hd : decode cc pc = .ok (i, n)) (hok : q_okI mt nL pc i n = true)
    (hW : q_okW Ts) (hF : ∀ ix e, mt.2.2.1.1 ix = some e → q_okF Ts own mt.2.2.2.2.1 ix e) (hini : mt.2.2.2.2.2.1 = true → meth.name = "<init>") (hK : ∀ ix v, mt.2.2.1.2.1 ix = some v → q_okK Ts own ix v (vk_R own ix q_text z.2.1 s)) (hN : ∀ ix ci, mt.2.2.1.2.2 ix = some ci → q_okN Ts own ix ci) (hcast : ∀ ix, i = .checkcast ix → Cond.classLink own ix "[I" ∈ Ts)
    (h : q_ex mt i lv st M = some (φ, lv', st', M', w)) (hφ : ∀ q, φ = some q → q) (k : q_on mt (q_Wt p l e R s m args below meth cd nL D cA z H00 L xs Q) (pc + n) lv' st' M' c t w) : q_Wt p l e R s m args below meth cd nL D cA z H00 L xs Q pc lv st M c t := by
  have hts := C.2.2.2.2.1
  cases i
  case iadd =>
    have hn : n = 1 := Nat.eq_of_beq_eq_true (by simpa [q_okI] using hok)
    subst hn
    unfold q_ex at h
    dsimp only at h
    split at h
    · cases h
      exact q_r_iadd C hd k
    · cases h
  case isub =>
    have hn : n = 1 := Nat.eq_of_beq_eq_true (by simpa [q_okI] using hok)
    subst hn
    unfold q_ex at h
    dsimp only at h
    split at h
    · cases h
      exact q_r_isub C hd k
    · cases h
  case imul =>
    have hn : n = 1 := Nat.eq_of_beq_eq_true (by simpa [q_okI] using hok)
    subst hn
    unfold q_ex at h
    dsimp only at h
    split at h
    · cases h
      exact q_r_imul C hd k
    · cases h
  case iand =>
    have hn : n = 1 := Nat.eq_of_beq_eq_true (by simpa [q_okI] using hok)
    subst hn
    unfold q_ex at h
    dsimp only at h
    split at h
    · cases h
      exact q_r_iand C hd k
    · cases h
  case ior =>
    have hn : n = 1 := Nat.eq_of_beq_eq_true (by simpa [q_okI] using hok)
    subst hn
    unfold q_ex at h
    dsimp only at h
    split at h
    · cases h
      exact q_r_ior C hd k
    · cases h
  case ishl =>
    have hn : n = 1 := Nat.eq_of_beq_eq_true (by simpa [q_okI] using hok)
    subst hn
    unfold q_ex at h
    dsimp only at h
    split at h
    · cases h
      exact q_r_ishl C hd k
    · cases h
  case ishr =>
    have hn : n = 1 := Nat.eq_of_beq_eq_true (by simpa [q_okI] using hok)
    subst hn
    unfold q_ex at h
    dsimp only at h
    split at h
    · cases h
      exact q_r_ishr C hd k
    · cases h
  case ineg =>
    have hn : n = 1 := Nat.eq_of_beq_eq_true (by simpa [q_okI] using hok)
    subst hn
    unfold q_ex at h
    dsimp only at h
    split at h
    · cases h
      exact q_r_ineg C hd k
    · cases h
  case ladd =>
    have hn : n = 1 := Nat.eq_of_beq_eq_true (by simpa [q_okI] using hok)
    subst hn
    unfold q_ex at h
    dsimp only at h
    split at h
    · cases h
      exact q_r_ladd C hd k
    · cases h
  case lsub =>
    have hn : n = 1 := Nat.eq_of_beq_eq_true (by simpa [q_okI] using hok)
    subst hn
    unfold q_ex at h
    dsimp only at h
    split at h
    · cases h
      exact q_r_lsub C hd k
    · cases h
  case lmul =>
    have hn : n = 1 := Nat.eq_of_beq_eq_true (by simpa [q_okI] using hok)
    subst hn
    unfold q_ex at h
    dsimp only at h
    split at h
    · cases h
      exact q_r_lmul C hd k
    · cases h
  case lxor =>
    have hn : n = 1 := Nat.eq_of_beq_eq_true (by simpa [q_okI] using hok)
    subst hn
    unfold q_ex at h
    dsimp only at h
    split at h
    · cases h
      exact q_r_lxor C hd k
    · cases h
  case lneg =>
    have hn : n = 1 := Nat.eq_of_beq_eq_true (by simpa [q_okI] using hok)
    subst hn
    unfold q_ex at h
    dsimp only at h
    split at h
    · cases h
      exact q_r_lneg C hd k
    · cases h
  case lushr =>
    have hn : n = 1 := Nat.eq_of_beq_eq_true (by simpa [q_okI] using hok)
    subst hn
    unfold q_ex at h
    dsimp only at h
    split at h
    · cases h
      exact q_r_lushr C hd k
    · cases h
  case lcmp =>
    have hn : n = 1 := Nat.eq_of_beq_eq_true (by simpa [q_okI] using hok)
    subst hn
    unfold q_ex at h
    dsimp only at h
    split at h
    · cases h
      exact q_r_lcmp C hd k
    · cases h
  case i2l =>
    have hn : n = 1 := Nat.eq_of_beq_eq_true (by simpa [q_okI] using hok)
    subst hn
    unfold q_ex at h
    dsimp only at h
    split at h
    · cases h
      exact q_r_i2l C hd k
    · cases h
  case l2i =>
    have hn : n = 1 := Nat.eq_of_beq_eq_true (by simpa [q_okI] using hok)
    subst hn
    unfold q_ex at h
    dsimp only at h
    split at h
    · cases h
      exact q_r_l2i C hd k
    · cases h
  case i2b =>
    have hn : n = 1 := Nat.eq_of_beq_eq_true (by simpa [q_okI] using hok)
    subst hn
    unfold q_ex at h
    dsimp only at h
    split at h
    · cases h
      exact q_r_i2b C hd k
    · cases h
  case idiv =>
    have hn : n = 1 := Nat.eq_of_beq_eq_true (by simpa [q_okI] using hok)
    subst hn
    unfold q_ex at h
    dsimp only at h
    split at h
    · cases h
      exact q_r_idiv C hd (hφ _ rfl) k
    · cases h
  case irem =>
    have hn : n = 1 := Nat.eq_of_beq_eq_true (by simpa [q_okI] using hok)
    subst hn
    unfold q_ex at h
    dsimp only at h
    split at h
    · cases h
      exact q_r_irem C hd (hφ _ rfl) k
    · cases h
  case ldiv =>
    have hn : n = 1 := Nat.eq_of_beq_eq_true (by simpa [q_okI] using hok)
    subst hn
    unfold q_ex at h
    dsimp only at h
    split at h
    · cases h
      exact q_r_ldiv C hd (hφ _ rfl) k
    · cases h
  case lrem =>
    have hn : n = 1 := Nat.eq_of_beq_eq_true (by simpa [q_okI] using hok)
    subst hn
    unfold q_ex at h
    dsimp only at h
    split at h
    · cases h
      exact q_r_lrem C hd (hφ _ rfl) k
    · cases h
  case aconst_null =>
    have hn : n = 1 := Nat.eq_of_beq_eq_true (by simpa [q_okI] using hok)
    subst hn
    cases h
    exact q_r_null C hd k
  case iconst v =>
    have hn : (n = 1 ∧ -1 ≤ v) ∧ v ≤ 5 := by simpa [q_okI] using hok
    obtain ⟨⟨rfl, h1⟩, h2⟩ := hn
    cases h
    exact q_r_iconst C hd (by unfold q_i32; omega) k
  case bipush v =>
    have hn : (n = 2 ∧ -128 ≤ v) ∧ v < 128 := by simpa [q_okI] using hok
    obtain ⟨⟨rfl, h1⟩, h2⟩ := hn
    cases h
    exact q_r_bipush C hd ⟨h1, h2⟩ k
  case sipush v =>
    have hn : (n = 3 ∧ -32768 ≤ v) ∧ v < 32768 := by simpa [q_okI] using hok
    obtain ⟨⟨rfl, h1⟩, h2⟩ := hn
    cases h
    exact q_r_sipush C hd ⟨h1, h2⟩ k
  case lconst v =>
    have hn : n = 1 := Nat.eq_of_beq_eq_true (by simpa [q_okI] using hok)
    subst hn
    cases h
    exact q_r_lconst C hd k
  case ldc j =>
    unfold q_okI at hok
    unfold q_ex at h
    dsimp only at h hok
    cases hv : mt.2.2.1.2.1 j with
    | none => rw [hv] at h; cases h
    | some v =>
      rw [hv] at h hok
      have hk := hK j v hv
      rw [Bool.and_eq_true] at hok
      have hn : n = 2 := Nat.eq_of_beq_eq_true hok.1
      subst hn
      cases h
      rcases v with x | x | x
      · exact q_r_ldci C (hts _ hk.2) hk.1 hd k
      · cases hok.2
      · obtain ⟨rfl, hZ⟩ := hk
        exact q_r_ldcs C hZ hd k
  case ldc2_w j =>
    unfold q_okI at hok
    unfold q_ex at h
    dsimp only at h hok
    cases hv : mt.2.2.1.2.1 j with
    | none => rw [hv] at h; cases h
    | some v =>
      rw [hv] at h hok
      have hk := hK j v hv
      rw [Bool.and_eq_true] at hok
      have hn : n = 3 := Nat.eq_of_beq_eq_true hok.1
      subst hn
      cases h
      rcases v with x | x | x
      · cases hok.2
      · exact q_r_ldcl C (hts _ hk.2) hk.1 hd k
      · cases hok.2
  case iload j =>
    have hn : n = 2 := Nat.eq_of_beq_eq_true (by simpa [q_okI] using hok)
    subst hn
    unfold q_ex at h
    dsimp only at h
    unfold q_ld at h
    split at h <;> first | (rename_i hg _; cases h; exact q_r_iload C hd hg k) | (rename_i hg; cases h; exact q_r_iload C hd hg k) | (cases h; done) | (rename_i hg he; cases he; done)
  case iload_n j =>
    have hn : n = 1 := Nat.eq_of_beq_eq_true (by simpa [q_okI] using hok)
    subst hn
    unfold q_ex at h
    dsimp only at h
    unfold q_ld at h
    split at h <;> first | (rename_i hg _; cases h; exact q_r_iload_n C hd hg k) | (rename_i hg; cases h; exact q_r_iload_n C hd hg k) | (cases h; done) | (rename_i hg he; cases he; done)
  case lload j =>
    have hn : n = 2 := Nat.eq_of_beq_eq_true (by simpa [q_okI] using hok)
    subst hn
    unfold q_ex at h
    dsimp only at h
    unfold q_ld at h
    split at h <;> first | (rename_i hg _; cases h; exact q_r_lload C hd hg k) | (rename_i hg; cases h; exact q_r_lload C hd hg k) | (cases h; done) | (rename_i hg he; cases he; done)
  case lload_n j =>
    have hn : n = 1 := Nat.eq_of_beq_eq_true (by simpa [q_okI] using hok)
    subst hn
    unfold q_ex at h
    dsimp only at h
    unfold q_ld at h
    split at h <;> first | (rename_i hg _; cases h; exact q_r_lload_n C hd hg k) | (rename_i hg; cases h; exact q_r_lload_n C hd hg k) | (cases h; done) | (rename_i hg he; cases he; done)
  case aload j =>
    have hn : n = 2 := Nat.eq_of_beq_eq_true (by simpa [q_okI] using hok)
    subst hn
    unfold q_ex at h
    dsimp only at h
    unfold q_ld at h
    split at h <;> first | (rename_i hg _; cases h; exact q_r_aload C hd hg k) | (rename_i hg; cases h; exact q_r_aload C hd hg k) | (cases h; done) | (rename_i hg he; cases he; done)
  case aload_n j =>
    have hn : n = 1 := Nat.eq_of_beq_eq_true (by simpa [q_okI] using hok)
    subst hn
    unfold q_ex at h
    dsimp only at h
    unfold q_ld at h
    split at h <;> first | (rename_i hg _; cases h; exact q_r_aload_n C hd hg k) | (rename_i hg; cases h; exact q_r_aload_n C hd hg k) | (cases h; done) | (rename_i hg he; cases he; done)
  case istore j =>
    have hn : n = 2 ∧ j < nL := by
      simp only [q_okI, Bool.and_eq_true] at hok
      exact ⟨Nat.eq_of_beq_eq_true hok.1, Nat.le_of_ble_eq_true hok.2⟩
    obtain ⟨rfl, h1⟩ := hn
    rcases st with _ | ⟨v, r⟩
    · cases h
    · rcases v with x | x | x
      · cases h; exact q_r_istore C hd h1 k
      · cases h
      · cases h
  case istore_n j =>
    have hn : n = 1 ∧ j.val < nL := by
      simp only [q_okI, Bool.and_eq_true] at hok
      exact ⟨Nat.eq_of_beq_eq_true hok.1, Nat.le_of_ble_eq_true hok.2⟩
    obtain ⟨rfl, h1⟩ := hn
    rcases st with _ | ⟨v, r⟩
    · cases h
    · rcases v with x | x | x
      · cases h; exact q_r_istore_n C hd h1 k
      · cases h
      · cases h
  case astore j =>
    have hn : n = 2 ∧ j < nL := by
      simp only [q_okI, Bool.and_eq_true] at hok
      exact ⟨Nat.eq_of_beq_eq_true hok.1, Nat.le_of_ble_eq_true hok.2⟩
    obtain ⟨rfl, h1⟩ := hn
    rcases st with _ | ⟨v, r⟩
    · cases h
    · rcases v with x | x | x
      · cases h
      · cases h
      · cases h; exact q_r_astore C hd h1 k
  case astore_n j =>
    have hn : n = 1 ∧ j.val < nL := by
      simp only [q_okI, Bool.and_eq_true] at hok
      exact ⟨Nat.eq_of_beq_eq_true hok.1, Nat.le_of_ble_eq_true hok.2⟩
    obtain ⟨rfl, h1⟩ := hn
    rcases st with _ | ⟨v, r⟩
    · cases h
    · rcases v with x | x | x
      · cases h
      · cases h
      · cases h; exact q_r_astore_n C hd h1 k
  case lstore j =>
    have hn : n = 2 ∧ j + 1 < nL := by
      simp only [q_okI, Bool.and_eq_true] at hok
      exact ⟨Nat.eq_of_beq_eq_true hok.1, Nat.le_of_ble_eq_true hok.2⟩
    obtain ⟨rfl, h1⟩ := hn
    rcases st with _ | ⟨v, r⟩
    · cases h
    · rcases v with x | x | x
      · cases h
      · cases h; exact q_r_lstore C hd h1 k
      · cases h
  case lstore_n j =>
    have hn : n = 1 ∧ j.val + 1 < nL := by
      simp only [q_okI, Bool.and_eq_true] at hok
      exact ⟨Nat.eq_of_beq_eq_true hok.1, Nat.le_of_ble_eq_true hok.2⟩
    obtain ⟨rfl, h1⟩ := hn
    rcases st with _ | ⟨v, r⟩
    · cases h
    · rcases v with x | x | x
      · cases h
      · cases h; exact q_r_lstore_n C hd h1 k
      · cases h
  case iinc j v =>
    have hn : n = 3 ∧ j < nL := by
      simp only [q_okI, Bool.and_eq_true] at hok
      exact ⟨Nat.eq_of_beq_eq_true hok.1, Nat.le_of_ble_eq_true hok.2⟩
    obtain ⟨rfl, h1⟩ := hn
    unfold q_ex at h
    dsimp only at h
    split at h
    · rename_i hg
      cases h
      exact q_r_iinc C hd hg h1 k
    · cases h
  case dup =>
    have hn : n = 1 := Nat.eq_of_beq_eq_true (by simpa [q_okI] using hok)
    subst hn
    unfold q_ex at h
    dsimp only at h
    split at h
    · cases h
      exact q_r_dup C hd rfl k
    · cases h
      exact q_r_dup C hd (q_er_cat z _) k
    · cases h
  case dup2 =>
    have hn : n = 1 := Nat.eq_of_beq_eq_true (by simpa [q_okI] using hok)
    subst hn
    unfold q_ex at h
    dsimp only at h
    split at h
    · cases h
      exact q_r_dup2 C hd rfl (q_er_cat z _) k
    · cases h
      exact q_r_dup2l C hd k
    · cases h
  case pop =>
    have hn : n = 1 := Nat.eq_of_beq_eq_true (by simpa [q_okI] using hok)
    subst hn
    unfold q_ex at h
    dsimp only at h
    split at h
    · cases h
      exact q_r_pop C hd rfl k
    · cases h
      exact q_r_pop C hd (q_er_cat z _) k
    · cases h
  case arraylength =>
    have hn : n = 1 := Nat.eq_of_beq_eq_true (by simpa [q_okI] using hok)
    subst hn
    unfold q_ex at h
    dsimp only at h
    split at h
    · cases h
      exact q_r_alen C hd (hφ _ rfl) k
    · cases h
  case iaload =>
    have hn : n = 1 := Nat.eq_of_beq_eq_true (by simpa [q_okI] using hok)
    subst hn
    unfold q_ex at h
    dsimp only at h
    split at h
    · cases h
      exact q_r_iaload C hd (hφ _ rfl).1 (hφ _ rfl).2.1 (hφ _ rfl).2.2 k
    · cases h
  case caload =>
    have hn : n = 1 := Nat.eq_of_beq_eq_true (by simpa [q_okI] using hok)
    subst hn
    unfold q_ex at h
    dsimp only at h
    split at h
    · cases h
      exact q_r_caload C hd (hφ _ rfl).1 (hφ _ rfl).2.1 (hφ _ rfl).2.2 k
    · cases h
  case laload =>
    have hn : n = 1 := Nat.eq_of_beq_eq_true (by simpa [q_okI] using hok)
    subst hn
    unfold q_ex at h
    dsimp only at h
    split at h
    · cases h
      exact q_r_laload C hd (hφ _ rfl).1 (hφ _ rfl).2.1 (hφ _ rfl).2.2 k
    · cases h
  case aaload =>
    have hn : n = 1 := Nat.eq_of_beq_eq_true (by simpa [q_okI] using hok)
    subst hn
    unfold q_ex at h
    dsimp only at h
    split at h
    · cases h
      exact q_r_aaload C hd (hφ _ rfl).1 (hφ _ rfl).2.1 (hφ _ rfl).2.2 k
    · cases h
  case baload =>
    have hn : n = 1 := Nat.eq_of_beq_eq_true (by simpa [q_okI] using hok)
    subst hn
    unfold q_ex at h
    dsimp only at h
    split at h
    · cases h
      have hq := hφ _ rfl
      rcases hq.1 with h1 | h1
      · exact q_r_baload C hd h1 hq.2.1 hq.2.2 k
      · exact q_r_zaload C hd h1 hq.2.1 hq.2.2 k
    · cases h
  case iastore =>
    have hn : n = 1 := Nat.eq_of_beq_eq_true (by simpa [q_okI] using hok)
    subst hn
    unfold q_ex at h
    dsimp only at h
    split at h
    · cases h
      exact q_r_iastore C hd (hφ _ rfl).1.1 (hφ _ rfl).1.2 (hφ _ rfl).2.1 (hφ _ rfl).2.2 k
    · cases h
  case castore =>
    have hn : n = 1 := Nat.eq_of_beq_eq_true (by simpa [q_okI] using hok)
    subst hn
    unfold q_ex at h
    dsimp only at h
    split at h
    · rename_i x i a r
      cases h
      have hq := hφ _ rfl
      intro H locs ls hS hl hlo hso hR
      have hq1 := hq.1
      obtain ⟨ha, -⟩ := q_kdin hS.1.1 (a := a) (by omega) (q_ne3 hS (by omega))
      exact q_r_castore C hd ha hq.1 hq.2.1 hq.2.2 k H locs ls hS hl hlo hso hR
    · cases h
  case lastore =>
    have hn : n = 1 := Nat.eq_of_beq_eq_true (by simpa [q_okI] using hok)
    subst hn
    unfold q_ex at h
    dsimp only at h
    split at h
    · rename_i x i a r
      cases h
      have hq := hφ _ rfl
      intro H locs ls hS hl hlo hso hR
      have hq1 := hq.1
      obtain ⟨ha, -⟩ := q_kdin hS.1.1 (a := a) (by omega) (q_ne3 hS (by omega))
      exact q_r_lastore C hd ha hq.1 hq.2.1 hq.2.2 k H locs ls hS hl hlo hso hR
    · cases h
  case bastore =>
    have hn : n = 1 := Nat.eq_of_beq_eq_true (by simpa [q_okI] using hok)
    subst hn
    unfold q_ex at h
    dsimp only at h
    split at h
    · rename_i x i a r
      cases h
      have hq := hφ _ rfl
      intro H locs ls hS hl hlo hso hR
      have hq1 := hq.1
      obtain ⟨ha, -⟩ := q_kdin hS.1.1 (a := a) (by omega) (q_ne3 hS (by omega))
      rcases hq.1 with h1 | h1
      · rw [h1] at k
        exact q_r_bastore C hd ha h1 hq.2.1 hq.2.2 k H locs ls hS hl hlo hso hR
      · rw [h1] at k
        exact q_r_zastore C hd ha h1 hq.2.1 hq.2.2 k H locs ls hS hl hlo hso hR
    · cases h
  case aastore =>
    have hn : n = 1 := Nat.eq_of_beq_eq_true (by simpa [q_okI] using hok)
    subst hn
    unfold q_ex at h
    dsimp only at h
    split at h
    · cases h
      exact q_r_aast (N := 0) (Cn := "") (T := TX0) C hW.2.2.2 hd (hφ _ rfl).1 (hφ _ rfl).2.1 (hφ _ rfl).2.2 k
    · cases h
  case checkcast j =>
    have hn : n = 3 := Nat.eq_of_beq_eq_true (by simpa [q_okI] using hok)
    subst hn
    unfold q_ex at h
    dsimp only at h
    split at h
    · cases h
      exact q_r_cast C (hts _ (hcast _ rfl)) hd (hφ _ rfl).1 (hφ _ rfl).2 k
    · cases h
  case getfield j =>
    have hn : n = 3 := Nat.eq_of_beq_eq_true (by simpa [q_okI] using hok)
    subst hn
    unfold q_ex at h
    dsimp only at h
    cases hv : mt.2.2.1.1 j with
    | none => rw [hv] at h; cases h
    | some e9 =>
      obtain ⟨ci0, j0, isr, fin⟩ := e9
      rw [hv] at h
      obtain ⟨ci, kf, N, Cn, T, e1, e2, hC, hkN, hfr, -, -, hlk⟩ := hF _ _ hv
      dsimp only at e1 e2 hfr
      subst e1; subst e2
      have hci := hC.1
      rcases st with _ | ⟨v, r⟩
      · cases isr <;> cases h
      · rcases v with x | x | a
        · cases isr <;> cases h
        · cases isr <;> cases h
        · cases isr with
          | true =>
            cases h
            have hk := hφ _ rfl
            exact q_r_getf C hC hkN (hts _ hlk) hd hk (by unfold q_sv; rw [hk, if_pos (by omega), if_pos hfr]; rfl) (fun hwf => by show (-3 : Int) ≤ q_rf M a kf; have := hwf.2.2.2.2.1 a kf; omega) k
          | false =>
            cases h
            have hk := hφ _ rfl
            exact q_r_getf C hC hkN (hts _ hlk) hd hk (by unfold q_sv; rw [hk, if_pos (by omega), if_neg (by rw [hfr]; decide)]; rfl) (fun hwf => by
              show q_i32 (q_nm M a kf)
              have h8 := hwf.2.2.2.2.2 a (kf : Int)
              rw [hk] at h8
              unfold q_inr at h8
              rw [if_neg (by omega), if_neg (by omega), if_neg (by omega), if_neg (by omega)] at h8
              exact h8) k
  case putfield j =>
    have hn : n = 3 := Nat.eq_of_beq_eq_true (by simpa [q_okI] using hok)
    subst hn
    unfold q_ex at h
    dsimp only at h
    cases hv : mt.2.2.1.1 j with
    | none => rw [hv] at h; cases h
    | some e9 =>
      obtain ⟨ci0, j0, isr, fin⟩ := e9
      rw [hv] at h
      obtain ⟨ci, kf, N, Cn, T, e1, e2, hC, hkN, hfr, hfin, hown, hlk⟩ := hF _ _ hv
      dsimp only at e1 e2 hfr hfin
      subst e1; subst e2
      have hfi : (!fin || (mt.2.2.2.2.2.1 && decide ((ci : Int) = mt.2.2.2.2.1))) = true → (T kf).2.2.2 = false ∨ (meth.name = "<init>" ∧ (T kf).1 = own) := by
        intro hb
        simp only [Bool.or_eq_true, Bool.and_eq_true, decide_eq_true_eq, Bool.not_eq_true'] at hb
        rcases hb with hb | hb
        · exact Or.inl (hfin.trans hb)
        · exact Or.inr ⟨hini hb.1, hown hb.2⟩
      rcases st with _ | ⟨v, r⟩
      · cases isr <;> cases h
      · rcases r with _ | ⟨u, r⟩
        · rcases v with x | x | x <;> cases isr <;> cases h
        · rcases u with y | y | a
          · rcases v with x | x | x <;> cases isr <;> cases h
          · rcases v with x | x | x <;> cases isr <;> cases h
          · cases isr with
            | true =>
              rcases v with x | x | x
              · cases h
              · cases h
              · dsimp only at h
                cases hb : (!fin || (mt.2.2.2.2.2.1 && decide ((ci : Int) = mt.2.2.2.2.1))) with
                | false => rw [hb] at h; cases h
                | true =>
                  rw [hb] at h
                  cases h
                  exact q_r_putf_r C hC hkN (hts _ hlk) (hfi hb) hfr hd (hφ _ rfl).1 (hφ _ rfl).2 k
            | false =>
              rcases v with x | x | x
              · dsimp only at h
                cases hb : (!fin || (mt.2.2.2.2.2.1 && decide ((ci : Int) = mt.2.2.2.2.1))) with
                | false => rw [hb] at h; cases h
                | true =>
                  rw [hb] at h
                  cases h
                  exact q_r_putf_i C hC hkN (hts _ hlk) (hfi hb) hfr hd (hφ _ rfl) k
              · cases h
              · cases h
  case new j =>
    unfold q_okI at hok
    unfold q_ex at h
    dsimp only at h hok
    cases hv : mt.2.2.1.2.2 j with
    | none => rw [hv] at h; cases h
    | some v =>
      rw [hv] at h hok
      simp only [Bool.and_eq_true, decide_eq_true_eq] at hok
      have hn : n = 3 := Nat.eq_of_beq_eq_true hok.1
      subst hn
      cases h
      obtain ⟨ci, N, Cn, T, e1, hC, h1, h2, h3, -⟩ := (hN j v hv).1 hok.2
      subst e1
      exact q_r_new C hC (hts _ h1) (hts _ h2) (hts _ h3) hd ⟨Nat.le_trans k.1.1 hbc.1, Nat.le_trans k.1.2 hbc.2⟩ k.2
  case newarray j =>
    have hn : n = 2 := Nat.eq_of_beq_eq_true (by simpa [q_okI] using hok)
    subst hn
    unfold q_ex at h
    dsimp only at h
    split at h
    · cases hb : q_nkb j with
      | false => rw [hb] at h; cases h
      | true =>
        rw [hb] at h
        cases h
        exact q_r_newarr C hb (hts _ (hW.1 _ hb)) hd (hφ _ rfl) ⟨Nat.le_trans k.1.1 hbc.1, Nat.le_trans k.1.2 hbc.2⟩ k.2
    · cases h
  case anewarray j =>
    unfold q_okI at hok
    unfold q_ex at h
    dsimp only at h hok
    split at h
    · rename_i ci _ _ hv
      cases hb : q_akb ci with
      | false => rw [hb] at h; cases h
      | true =>
        rw [hb] at h
        rw [hv] at hok
        simp only [Bool.and_eq_true, decide_eq_true_eq] at hok
        have hn : n = 3 := Nat.eq_of_beq_eq_true hok.1
        subst hn
        cases h
        obtain ⟨c0, N, Cn, T, e1, hC, h1, h2, h3, h4⟩ := (hN j ci hv).1 hok.2
        have h5 := h4 hb
        subst h5
        exact q_r_anew C hb (hts _ h1) (hts _ (hW.2.1 _ hb)) hd (hφ _ rfl) ⟨Nat.le_trans k.1.1 hbc.1, Nat.le_trans k.1.2 hbc.2⟩ k.2
    · cases h
  case multianewarray j d =>
    have hn : n = 4 ∧ d = 2 := by
      simp only [q_okI, Bool.and_eq_true] at hok
      exact ⟨Nat.eq_of_beq_eq_true hok.1, Nat.eq_of_beq_eq_true hok.2⟩
    obtain ⟨rfl, rfl⟩ := hn
    unfold q_ex at h
    dsimp only at h
    split at h
    · rename_i ci _ _ _ hv
      cases hb : (decide (ci = 20) && Nat.beq 2 2) with
      | false => rw [hb] at h; cases h
      | true =>
        rw [hb] at h
        cases h
        have h20 : ci = 20 := by simpa using hb
        exact q_r_mnew C (hts _ ((hN _ _ hv).2 h20)) (hts _ hW.2.2.1) (hts _ (hW.1 .int rfl)) hd (hφ _ rfl).1 (hφ _ rfl).2 ⟨Nat.le_trans k.1.1 hbc.1, Nat.le_trans k.1.2 hbc.2⟩ k.2
    · cases h
  all_goals (first | (exact absurd hok (by decide)) | (have h9 : (none : qEx) = some (φ, lv', st', M', w) := h; cases h9))
end
