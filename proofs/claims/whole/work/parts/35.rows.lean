section
variable {p : Program} {l : Launch} {e : Env} {R : Room} {s : State} {m : MethodId} {args : Array Value} {below : List Frame} {meth : Method} {cd : Code} {cc : ByteArray} {own : String} {nL : Nat} {Ts : List Cond} {D : va_G} {cA : Nat → ClassId} {z : Nat × Nat × Nat} {H00 : Heap} {L : Nat} {xs : Nat → Int32} {Q : State → Prop}
variable {pc : Nat} {lv : qLv} {st : List qV} {M : qM} {c t : Nat}
variable {H : Heap} {locs : List Loc}
theorem q_cb {at_ : ArrayType} : componentBytes (newarray.typeOf at_) ≤ 8 := by cases at_ <;> decide
theorem q_tyOf {at_ : ArrayType} (C : q_Cx p s m args cd cc own nL Ts D cA z H00 L xs) (h : q_nkb at_ = true) : s.vm.findClass ("[" ++ (newarray.typeOf at_).toString) = some (cA (q_nk at_).toNat) ∧ (12 ≤ q_nk at_ ∧ q_nk at_ ≤ 16) ∧ defaultValue (newarray.typeOf at_) = if q_nk at_ = 15 then .long (Int64.ofInt 0) else .int (Int32.ofInt 0) := by
  cases at_ with
  | byte => exact ⟨(q_arrT C (i := 0) rfl).2, by decide, rfl⟩
  | char => exact ⟨(q_arrT C (i := 1) rfl).2, by decide, rfl⟩
  | int => exact ⟨(q_arrT C (i := 2) rfl).2, by decide, rfl⟩
  | long => exact ⟨(q_arrT C (i := 3) rfl).2, by decide, rfl⟩
  | boolean => exact ⟨(q_arrT C (i := 4) rfl).2, by decide, rfl⟩
  | _ => cases h
theorem q_r_newarr (C : q_Cx p s m args cd cc own nL Ts D cA z H00 L xs) {at_ : ArrayType} {n : Int} (hb : q_nkb at_ = true) (harr : (Cond.arrayClass (newarray.typeOf at_)).before args s = true) (hd : decode cc pc = .ok (.newarray at_, 2)) (hn : 0 ≤ n ∧ n ≤ 1000000) (hr : c + 1 ≤ R.cells ∧ t + n.toNat ≤ R.slots) (kk : q_Wt p l e R s m args below meth cd nL D cA z H00 L xs Q (pc + 2) lv (.inr (.inr (q_top M)) :: st) (q_al M (q_nk at_) n) (c + 1) (t + n.toNat)) : q_Wt p l e R s m args below meth cd nL D cA z H00 L xs Q pc lv (.inl n :: st) M c t := by
  intro H locs ls hS hl hlo hso hR
  have h0 := hS.1.1.1
  have hz := hS.1.2.1
  have hi : q_i32 n := hso.1
  obtain ⟨hf, hk, hdv⟩ := q_tyOf C hb
  refine va_newaK (N := n.toNat) C.1 C.2.1 harr (g := F0 m pc ls (.int (Int32.ofInt n) :: st.map (q_ev z))) rfl hd rfl (fun h => by have := (q_lt32 hi q_z32).mp h; omega) (q_nc32 hn.1 hi) (Nat.le_trans (Nat.mul_le_mul_left _ q_cb) (by omega)) hr.1 hr.2 hz fun H1 cI e1 z1 o1 hAr hNm => ?_
  have ec : cI = cA (q_nk at_).toNat := Option.some.inj (hNm.symm.trans hf)
  subst ec
  have hRep : q_Rep D cA z (q_al M (q_nk at_) n) H1 := by
    refine q_new hS.1 (by omega) hn (by omega) (fun q hq => o1 q (by omega)) ?_
    unfold q_co
    rw [q_al_kd, q_al_ln, if_pos rfl, if_pos rfl, if_neg (by omega), e1]
    congr 2
    funext j
    unfold q_sv
    rw [q_al_kd, if_pos rfl, if_neg (by omega), q_al_nm, if_pos rfl, hdv, if_neg (show ¬ 17 ≤ q_nk at_ by omega)]
  have hk2 := kk H1 locs ls (q_St_al hS hRep (fun q hq => o1 q (by omega))) hl hlo ⟨by show (-3 : Int) ≤ q_top M; omega, hso.2⟩ hr
  rw [List.map_cons] at hk2
  have he : q_ev z (.inr (.inr (q_top M))) = .ref (z.1 + (q_top M).toNat) := q_er_pos h0
  rw [he] at hk2
  exact hk2
/-- the class over which a row of references goes -/
def q_aC (ci : Int) : String := match ci with
  | 1 => "SlipDrawer$Meant" | 5 => "SlipDrawer$Script" | _ => "SlipDrawer$Speech"
theorem q_raOf (C : q_Cx p s m args cd cc own nL Ts D cA z H00 L xs) {ci : Int} (h : q_akb ci = true) : (17 ≤ q_ak ci ∧ q_ak ci ≤ 19) ∧ va_RA s (cA (q_ak ci).toNat) (.object (q_aC ci)) := by
  unfold q_akb at h
  split at h
  · exact ⟨by decide, (q_arrT C (i := 5) rfl).2⟩
  · exact ⟨by decide, (q_arrT C (i := 6) rfl).2⟩
  · exact ⟨by decide, (q_arrT C (i := 7) rfl).2⟩
  · cases h
theorem q_r_anew (C : q_Cx p s m args cd cc own nL Ts D cA z H00 L xs) {ci n : Int} {ix : Nat} (hb : q_akb ci = true) (hlk : (Cond.classLink own ix (q_aC ci)).before args s = true) (hov : (Cond.arrayOver (.object (q_aC ci))).before args s = true) (hd : decode cc pc = .ok (.anewarray ix, 3)) (hn : 0 ≤ n ∧ n ≤ 1000000) (hr : c + 1 ≤ R.cells ∧ t + n.toNat ≤ R.slots) (kk : q_Wt p l e R s m args below meth cd nL D cA z H00 L xs Q (pc + 3) lv (.inr (.inr (q_top M)) :: st) (q_al M (q_ak ci) n) (c + 1) (t + n.toNat)) : q_Wt p l e R s m args below meth cd nL D cA z H00 L xs Q pc lv (.inl n :: st) M c t := by
  intro H locs ls hS hl hlo hso hR
  have h0 := hS.1.1.1
  have hz := hS.1.2.1
  have hi : q_i32 n := hso.1
  obtain ⟨hk, kA, comp, -, -, -, hf⟩ := q_raOf C hb
  have hn2 := q_nc32 hn.1 hi
  refine W.anew C.1 C.2.1 C.2.2.2.1 hlk hov (g := F0 m pc ls (.int (Int32.ofInt n) :: st.map (q_ev z))) rfl hd rfl (fun h => by have := (q_lt32 hi q_z32).mp h; omega) (by rw [hn2]; omega) hr.1 (by rw [hn2]; exact hr.2) fun cI kI cm f1 f2 f3 f4 => ?_
  rw [hn2]
  have ec : cI = cA (q_ak ci).toNat := Option.some.inj (f1.symm.trans hf)
  subst ec
  generalize hH1 : H.push ({ cls := cA (q_ak ci).toNat, slots := Array.replicate n.toNat .null, vm := .none } : Cell) = H1
  have z1 : H1.size = H.size + 1 := by rw [← hH1, Array.size_push]
  have e1 : H1[H.size]? = some (arrV (cA (q_ak ci).toNat) n.toNat (fun _ => .null)) := by rw [← hH1, Array.getElem?_push_size, ← arrV_new]
  have o1 : ∀ q : Nat, q < H.size → H1[q]? = H[q]? := fun q hq => by rw [← hH1, Array.getElem?_push, if_neg (Nat.ne_of_lt hq)]
  have hRep : q_Rep D cA z (q_al M (q_ak ci) n) H1 := by
    refine q_new hS.1 (by omega) hn z1 o1 ?_
    unfold q_co
    rw [q_al_kd, q_al_ln, if_pos rfl, if_pos rfl, if_neg (by omega), ← hz, e1]
    congr 2
    funext j
    unfold q_sv
    rw [q_al_kd, if_pos rfl, if_neg (by omega), if_neg (by omega), if_pos (by omega), q_al_rf, if_pos rfl]
    rfl
  have hk2 := kk H1 locs ls (q_St_al hS hRep o1) hl hlo ⟨by show (-3 : Int) ≤ q_top M; omega, hso.2⟩ hr
  rw [List.map_cons] at hk2
  have he : q_ev z (.inr (.inr (q_top M))) = .ref (z.1 + (q_top M).toNat) := q_er_pos h0
  rw [he, ← hz] at hk2
  exact hk2
theorem q_akK {x y : Int} (h : y = q_ak x) (hy : 12 ≤ y) : q_akb x = true := by
  unfold q_ak at h
  split at h <;> first | rfl | omega
theorem q_r_aast (C : q_Cx p s m args cd cc own nL Ts D cA z H00 L xs) {a i v : Int} {N : Nat} {Cn : String} {T : u_T} (hC : ∀ ci : Nat, ci < 12 → ∃ (N : Nat) (Cn : String) (T : u_T), q_Cl Ts ci N Cn T ∧ (q_akb ci = true → Cn = q_aC ci)) (hd : decode cc pc = .ok (.aastore, 1)) (hk : q_kd M a = q_ak (q_kd M v)) (h0 : 0 ≤ i) (h1 : i < q_ln M a) (kk : q_Wt p l e R s m args below meth cd nL D cA z H00 L xs Q (pc + 1) lv st (q_wr M a i v) c t) : q_Wt p l e R s m args below meth cd nL D cA z H00 L xs Q pc lv (.inr (.inr v) :: .inl i :: .inr (.inr a) :: st) M c t := by
  intro H locs ls hS hl hlo hso hR
  have hi : q_i32 i := hso.2.1
  have hka : q_akb (q_kd M v) = true ∧ 12 ≤ q_kd M a := by
    unfold q_ak at hk
    split at hk
    · rename_i e; rw [e]; exact ⟨rfl, by omega⟩
    · rename_i e; rw [e]; exact ⟨rfl, by omega⟩
    · rename_i e; rw [e]; exact ⟨rfl, by omega⟩
    · exfalso
      by_cases h3 : a = -3
      · rw [h3, hS.1.1.2.2.2.1.1] at hk
        omega
      · obtain ⟨g1, g2⟩ := q_kdin hS.1.1 (a := a) (by omega) h3
        have := (hS.1.1.2.1 a g1 g2).1
        omega
  obtain ⟨hkr, hRA⟩ := q_raOf C hka.1
  rw [← hk] at hkr
  have hv0 : 0 ≤ q_kd M v ∧ q_kd M v < 12 := by
    have := hka.1
    unfold q_akb at this
    split at this
    · rename_i e; omega
    · rename_i e; omega
    · rename_i e; omega
    · cases this
  obtain ⟨hvp, cellV, g1, g2, g3, -⟩ := q_cellO hS hv0
  obtain ⟨ha, hc⟩ := q_cellA hS (a := a) (by omega) (q_ne3 hS (by omega))
  obtain ⟨ci, hci⟩ : ∃ ci : Nat, q_kd M v = (ci : Int) := ⟨(q_kd M v).toNat, by omega⟩
  rw [← hk] at hRA
  rw [hci] at hRA hka g2
  rw [Int.toNat_natCast] at g2
  obtain ⟨N, Cn, T, hCl, hCn⟩ := hC ci (by omega)
  obtain ⟨-, hcl, -⟩ := hCl
  have hcls := (C.2.2.2.2.2.1.1 ci _ hcl).2
  have hCn2 := hCn hka.1
  subst hCn2
  obtain ⟨kA, comp, k1, k2, k3, -⟩ := hRA
  have hcomp : comp = D.1 ci := Option.some.inj (k3.symm.trans hcls.1)
  subst hcomp
  obtain ⟨kC, hkC, -⟩ := hcls.2
  have hx := q_in32 h0 h1 hi
  show W p l e R s m args below meth cd H locs c t Q (F0 m pc ls (q_er z v :: .int (Int32.ofInt i) :: q_er z a :: st.map (q_ev z)))
  rw [q_er_pos ha, q_er_pos hvp]
  refine W.aast C.1 C.2.1 hc (fun q h => by cases h) (fun h => by cases h) k1 k2 rfl hkC ⟨fun h => hx (Or.inl h), by rw [arrV_size]; exact Nat.not_le.mp (fun h => hx (Or.inr h))⟩ g1 (fun q h => by rw [g3] at h; cases h) (by rw [g2]; exact hkC) (by rw [g2]; exact va_assign hcls) rfl rfl hd fun H' e1 e2 e3 => ?_
  rw [q_nc32 h0 hi] at e1
  exact kk H' _ ls (q_St_wr hS ha (q_put_ref hS.1 ha (by omega) h0 (by omega) e2 e3 (by rw [q_er_pos hvp]; exact e1)) e3 (q_locs hS.2.2.2 (by omega))) hl hlo hso.2.2.2 hR
theorem q_r_cast (C : q_Cx p s m args cd cc own nL Ts D cA z H00 L xs) {a : Int} {ix : Nat} (hlk : (Cond.classLink own ix "[I").before args s = true) (hd : decode cc pc = .ok (.checkcast ix, 3)) (ha : 0 ≤ a) (hk : q_kd M a = 14) (kk : q_Wt p l e R s m args below meth cd nL D cA z H00 L xs Q (pc + 3) lv (.inr (.inr a) :: st) M c t) : q_Wt p l e R s m args below meth cd nL D cA z H00 L xs Q pc lv (.inr (.inr a) :: st) M c t := by
  intro H locs ls hS hl hlo hso hR
  obtain ⟨-, hc⟩ := q_cellA hS (a := a) (by omega) (by omega)
  rw [hk] at hc
  have hk2 := kk H locs ls hS hl hlo hso hR
  have he : q_ev z (.inr (.inr a)) = .ref (z.1 + a.toNat) := q_er_pos ha
  rw [List.map_cons, he] at hk2 ⊢
  have hnm : s.vm.findClass "[I" = some (cA 14) := (q_arrT C (i := 2) rfl).2
  intro T hT X
  obtain ⟨vm', X', st'⟩ := X.checkcastYes C.1 C.2.2.2.1 hlk (by rw [hT]; exact hc) rfl hnm (va_asg _ _) (g := F0 m pc ls (.ref (z.1 + a.toNat) :: st.map (q_ev z))) rfl rfl (by rw [C.2.1]; exact hd)
  obtain ⟨t', a1, b1⟩ := hk2 (T.setVm vm') hT X'
  exact ⟨t', st' t' a1, b1⟩
theorem q_r_ldci (C : q_Cx p s m args cd cc own nL Ts D cA z H00 L xs) {v : Int} {ix : Nat} (hlk : (Jvm.Cond.constant own ix (Int32.ofInt v)).before args s = true) (hv : q_i32 v) (hd : decode cc pc = .ok (.ldc ix, 2)) (kk : q_Wt p l e R s m args below meth cd nL D cA z H00 L xs Q (pc + 2) lv (.inl v :: st) M c t) : q_Wt p l e R s m args below meth cd nL D cA z H00 L xs Q pc lv st M c t :=
  fun H locs ls hS hl hlo hso hR => lv_ldc C.1 C.2.1 C.2.2.2.1 hlk hd (kk H locs ls hS hl hlo ⟨hv, hso⟩ hR)
theorem q_r_ldcl (C : q_Cx p s m args cd cc own nL Ts D cA z H00 L xs) {v : Int} {ix : Nat} (hlk : (Jvm.Cond.constantLong own ix (Int64.ofInt v)).before args s = true) (hv : q_i64 v) (hd : decode cc pc = .ok (.ldc2_w ix, 3)) (kk : q_Wt p l e R s m args below meth cd nL D cA z H00 L xs Q (pc + 3) lv (.inr (.inl v) :: st) M c t) : q_Wt p l e R s m args below meth cd nL D cA z H00 L xs Q pc lv st M c t :=
  fun H locs ls hS hl hlo hso hR => lv_ldc2 C.1 C.2.1 C.2.2.2.1 hlk hd (kk H locs ls hS hl hlo ⟨hv, hso⟩ hR)
theorem q_r_ldcs (C : q_Cx p s m args cd cc own nL Ts D cA z H00 L xs) {ix : Nat} {tx : String} (hZ : vk_R own ix tx z.2.1 s) (hd : decode cc pc = .ok (.ldc ix, 2)) (kk : q_Wt p l e R s m args below meth cd nL D cA z H00 L xs Q (pc + 2) lv (.inr (.inr (-2)) :: st) M c t) : q_Wt p l e R s m args below meth cd nL D cA z H00 L xs Q pc lv st M c t :=
  fun H locs ls hS hl hlo hso hR => va_ldcS C.1 C.2.1 C.2.2.2.1 hZ hd (kk H locs ls hS hl hlo ⟨by show (-3 : Int) ≤ -2; omega, hso⟩ hR)
theorem q_er_null {x : Int} (h : -3 ≤ x) (z : Nat × Nat × Nat) : (x = -1 ∧ q_er z x = .null) ∨ (x ≠ -1 ∧ ∃ a : Nat, q_er z x = .ref a) := by
  unfold q_er
  by_cases h2 : x = -2
  · exact Or.inr ⟨by omega, _, if_pos h2⟩
  · rw [if_neg h2]
    by_cases h3 : x = -3
    · exact Or.inr ⟨by omega, _, if_pos h3⟩
    · rw [if_neg h3]
      by_cases h1 : x < 0
      · exact Or.inl ⟨by omega, if_pos h1⟩
      · exact Or.inr ⟨by omega, _, if_neg h1⟩
theorem q_r_ifnull (C : q_Cx p s m args cd cc own nL Ts D cA z H00 L xs) {x off : Int} {tgt : Nat} (hd : decode cc pc = .ok (.ifnull off, 3)) (ht : (pc : Int) + off = (tgt : Int)) (k1 : x = -1 → q_Wt p l e R s m args below meth cd nL D cA z H00 L xs Q tgt lv st M c t) (k2 : ¬ x = -1 → q_Wt p l e R s m args below meth cd nL D cA z H00 L xs Q (pc + 3) lv st M c t) : q_Wt p l e R s m args below meth cd nL D cA z H00 L xs Q pc lv (.inr (.inr x) :: st) M c t := by
  intro H locs ls hS hl hlo hso hR
  show W p l e R s m args below meth cd H locs c t Q (F0 m pc ls (q_er z x :: st.map (q_ev z)))
  rcases q_er_null hso.1 z with ⟨h1, h2⟩ | ⟨h1, a, h2⟩
  · rw [h2]
    exact lv_ifnullN C.1 C.2.1 hd ht (k1 h1 H locs ls hS hl hlo hso.2 hR)
  · rw [h2]
    exact lv_ifnull C.1 C.2.1 hd (k2 h1 H locs ls hS hl hlo hso.2 hR)
theorem q_r_ifnonnull (C : q_Cx p s m args cd cc own nL Ts D cA z H00 L xs) {x off : Int} {tgt : Nat} (hd : decode cc pc = .ok (.ifnonnull off, 3)) (ht : (pc : Int) + off = (tgt : Int)) (k1 : ¬ x = -1 → q_Wt p l e R s m args below meth cd nL D cA z H00 L xs Q tgt lv st M c t) (k2 : x = -1 → q_Wt p l e R s m args below meth cd nL D cA z H00 L xs Q (pc + 3) lv st M c t) : q_Wt p l e R s m args below meth cd nL D cA z H00 L xs Q pc lv (.inr (.inr x) :: st) M c t := by
  intro H locs ls hS hl hlo hso hR
  show W p l e R s m args below meth cd H locs c t Q (F0 m pc ls (q_er z x :: st.map (q_ev z)))
  rcases q_er_null hso.1 z with ⟨h1, h2⟩ | ⟨h1, a, h2⟩
  · rw [h2]
    exact lv_ifnonnullN C.1 C.2.1 hd (k2 h1 H locs ls hS hl hlo hso.2 hR)
  · rw [h2]
    exact lv_ifnonnull C.1 C.2.1 hd ht (k1 h1 H locs ls hS hl hlo hso.2 hR)
theorem q_r_goto (C : q_Cx p s m args cd cc own nL Ts D cA z H00 L xs) {off : Int} {tgt : Nat} (hd : decode cc pc = .ok (.goto off, 3)) (ht : (pc : Int) + off = (tgt : Int)) (k : q_Wt p l e R s m args below meth cd nL D cA z H00 L xs Q tgt lv st M c t) : q_Wt p l e R s m args below meth cd nL D cA z H00 L xs Q pc lv st M c t :=
  fun H locs ls hS hl hlo hso hR => lv_goto C.1 C.2.1 hd ht (k H locs ls hS hl hlo hso hR)
theorem q_swT_at {pc : Nat} {x : Int} {k : Nat → Prop} : ∀ (offs : List Int) (v : Int) (i : Nat) (o : Int), q_swT pc x v offs k → offs[i]? = some o → x = v + i → k (q_jmp pc o) := by
  intro offs
  induction offs with
  | nil => intro v i o h hi; simp at hi
  | cons a r ih =>
    intro v i o h hi hx
    cases i with
    | zero =>
      simp at hi
      subst hi
      exact h.1 (by simpa using hx)
    | succ i => exact ih (v + 1) i o h.2 (by simpa using hi) (by rw [hx]; push_cast; omega)
theorem q_r_tsw (C : q_Cx p s m args cd cc own nL Ts D cA z H00 L xs) {x d lo hi : Int} {offs : Array Int} {n : Nat} (hd : decode cc pc = .ok (.tableswitch d lo hi offs, n)) (hsz : (offs.size : Int) = hi - lo + 1) (hj : 0 ≤ (pc : Int) + d ∧ ∀ o ∈ offs.toList, 0 ≤ (pc : Int) + o) (k1 : q_swT pc x lo offs.toList (fun tg => q_Wt p l e R s m args below meth cd nL D cA z H00 L xs Q tg lv st M c t)) (k2 : (x < lo ∨ hi < x) → q_Wt p l e R s m args below meth cd nL D cA z H00 L xs Q (q_jmp pc d) lv st M c t) : q_Wt p l e R s m args below meth cd nL D cA z H00 L xs Q pc lv (.inl x :: st) M c t := by
  intro H locs ls hS hl hlo hso hR
  have hX : q_i32 x := hso.1
  by_cases h : x < lo ∨ hi < x
  · exact lv_tableOut C.1 C.2.1 hd (tgt := q_jmp pc d) (by rw [q_t32 hX]; exact h) (by unfold q_jmp; have := hj.1; show (pc : Int) + d = (((pc : Int) + d).toNat : Int); omega) (k2 h H locs ls hS hl hlo hso.2 hR)
  · have hlt : (x - lo).toNat < offs.size := by omega
    have hm : offs[(x - lo).toNat] ∈ offs.toList := by simp
    have hj2 := hj.2 _ hm
    refine lv_tableIn C.1 C.2.1 hd (tgt := q_jmp pc offs[(x - lo).toNat]) (off := offs[(x - lo).toNat]) (by rw [q_t32 hX]; omega) (by rw [q_t32 hX]; omega) (by rw [q_t32 hX]; exact Array.getElem?_eq_getElem hlt) (by unfold q_jmp; show (pc : Int) + _ = (((pc : Int) + _).toNat : Int); omega) ?_
    exact q_swT_at offs.toList lo (x - lo).toNat _ k1 (by rw [Array.getElem?_toList]; exact Array.getElem?_eq_getElem hlt) (by omega) H locs ls hS hl hlo hso.2 hR
theorem q_swL_off {pc : Nat} {x : Int} {d : Int} {k : Nat → Prop} : ∀ (ps : List (Int × Int)), q_swL pc x ps d k → k (q_jmp pc (Op.lookupswitch.offset ps d x)) := by
  intro ps
  induction ps with
  | nil => intro h; exact h
  | cons a r ih =>
    intro h
    obtain ⟨v, o⟩ := a
    rw [Op.lookupswitch.offset_cons]
    split
    · rename_i e
      exact h.1 (by first | exact e | exact e.symm | simpa using e)
    · rename_i e
      exact ih (h.2 (by first | exact e | exact Ne.symm e | simpa using e))
theorem q_swL_in {x d : Int} {pc : Nat} : ∀ (ps : List (Int × Int)), 0 ≤ (pc : Int) + d → (∀ o ∈ ps, 0 ≤ (pc : Int) + o.2) → 0 ≤ (pc : Int) + Op.lookupswitch.offset ps d x := by
  intro ps
  induction ps with
  | nil => intro h _; exact h
  | cons a r ih =>
    intro h h2
    obtain ⟨v, o⟩ := a
    rw [Op.lookupswitch.offset_cons]
    split
    · exact h2 (v, o) List.mem_cons_self
    · exact ih h (fun o ho => h2 o (List.mem_cons_of_mem _ ho))
theorem q_r_lsw (C : q_Cx p s m args cd cc own nL Ts D cA z H00 L xs) {x d : Int} {ps : Array (Int × Int)} {n : Nat} (hd : decode cc pc = .ok (.lookupswitch d ps, n)) (hp : (ps.toList.zip (ps.toList.drop 1)).all (fun (a, next) => a.1 < next.1) = true) (hj : 0 ≤ (pc : Int) + d ∧ ∀ o ∈ ps.toList, 0 ≤ (pc : Int) + o.2) (k1 : q_swL pc x ps.toList d (fun tg => q_Wt p l e R s m args below meth cd nL D cA z H00 L xs Q tg lv st M c t)) : q_Wt p l e R s m args below meth cd nL D cA z H00 L xs Q pc lv (.inl x :: st) M c t := by
  intro H locs ls hS hl hlo hso hR
  have hX : q_i32 x := hso.1
  refine lv_lookup C.1 C.2.1 hd hp (off := Op.lookupswitch.offset ps.toList d x) (tgt := q_jmp pc (Op.lookupswitch.offset ps.toList d x)) (by rw [q_t32 hX]) ?_ (q_swL_off _ k1 H locs ls hS hl hlo hso.2 hR)
  have := q_swL_in (x := x) ps.toList hj.1 hj.2
  unfold q_jmp
  show (pc : Int) + _ = (((pc : Int) + _).toNat : Int)
  omega
end
