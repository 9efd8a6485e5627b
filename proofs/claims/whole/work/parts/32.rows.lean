section
variable {p : Program} {l : Launch} {e : Env} {R : Room} {s : State} {m : MethodId} {args : Array Value} {below : List Frame} {meth : Method} {cd : Code} {cc : ByteArray} {own : String} {nL : Nat} {Ts : List Cond} {D : va_G} {cA : Nat → ClassId} {z : Nat × Nat × Nat} {H00 : Heap} {L : Nat} {xs : Nat → Int32} {Q : State → Prop}
variable {pc : Nat} {lv : qLv} {st : List qV} {M : qM} {c t : Nat}
theorem q_r_iload (C : q_Cx p s m args cd cc own nL Ts D cA z H00 L xs) {i : Nat} {x : Int} (hd : decode cc pc = .ok (.iload i, 2)) (hg : q_get lv i = some (.inl x)) (k : q_Wt p l e R s m args below meth cd nL D cA z H00 L xs Q (pc + 2) lv (.inl x :: st) M c t) : q_Wt p l e R s m args below meth cd nL D cA z H00 L xs Q pc lv st M c t :=
  fun H locs ls hS hl hlo hso hR => lv_iload C.1 C.2.1 hd (q_has_get hl hg) (k H locs ls hS hl hlo ⟨q_okl_get hlo hg, hso⟩ hR)
theorem q_r_iload_n (C : q_Cx p s m args cd cc own nL Ts D cA z H00 L xs) {i : Fin 4} {x : Int} (hd : decode cc pc = .ok (.iload_n i, 1)) (hg : q_get lv i.val = some (.inl x)) (k : q_Wt p l e R s m args below meth cd nL D cA z H00 L xs Q (pc + 1) lv (.inl x :: st) M c t) : q_Wt p l e R s m args below meth cd nL D cA z H00 L xs Q pc lv st M c t :=
  fun H locs ls hS hl hlo hso hR => lv_iload_n C.1 C.2.1 hd rfl (q_has_get hl hg) (k H locs ls hS hl hlo ⟨q_okl_get hlo hg, hso⟩ hR)
theorem q_r_lload (C : q_Cx p s m args cd cc own nL Ts D cA z H00 L xs) {i : Nat} {x : Int} (hd : decode cc pc = .ok (.lload i, 2)) (hg : q_get lv i = some (.inr (.inl x))) (k : q_Wt p l e R s m args below meth cd nL D cA z H00 L xs Q (pc + 2) lv (.inr (.inl x) :: st) M c t) : q_Wt p l e R s m args below meth cd nL D cA z H00 L xs Q pc lv st M c t :=
  fun H locs ls hS hl hlo hso hR => lv_lload C.1 C.2.1 hd (q_has_get hl hg) (k H locs ls hS hl hlo ⟨q_okl_get hlo hg, hso⟩ hR)
theorem q_r_lload_n (C : q_Cx p s m args cd cc own nL Ts D cA z H00 L xs) {i : Fin 4} {x : Int} (hd : decode cc pc = .ok (.lload_n i, 1)) (hg : q_get lv i.val = some (.inr (.inl x))) (k : q_Wt p l e R s m args below meth cd nL D cA z H00 L xs Q (pc + 1) lv (.inr (.inl x) :: st) M c t) : q_Wt p l e R s m args below meth cd nL D cA z H00 L xs Q pc lv st M c t :=
  fun H locs ls hS hl hlo hso hR => lv_lload_n C.1 C.2.1 hd rfl (q_has_get hl hg) (k H locs ls hS hl hlo ⟨q_okl_get hlo hg, hso⟩ hR)
theorem q_er_cases (z : Nat × Nat × Nat) (x : Int) : (q_er z x = .null) ∨ ∃ a : Nat, q_er z x = .ref a := by
  unfold q_er
  split
  · exact Or.inr ⟨_, rfl⟩
  · split
    · exact Or.inr ⟨_, rfl⟩
    · split
      · exact Or.inl rfl
      · exact Or.inr ⟨_, rfl⟩
theorem q_r_aload (C : q_Cx p s m args cd cc own nL Ts D cA z H00 L xs) {i : Nat} {x : Int} (hd : decode cc pc = .ok (.aload i, 2)) (hg : q_get lv i = some (.inr (.inr x))) (k : q_Wt p l e R s m args below meth cd nL D cA z H00 L xs Q (pc + 2) lv (.inr (.inr x) :: st) M c t) : q_Wt p l e R s m args below meth cd nL D cA z H00 L xs Q pc lv st M c t := by
  intro H locs ls hS hl hlo hso hR
  have h1 : ls[i]? = some (.val (q_er z x)) := q_has_get hl hg
  have h2 : W p l e R s m args below meth cd H locs c t Q (F0 m (pc + 2) ls (q_er z x :: st.map (q_ev z))) := k H locs ls hS hl hlo ⟨q_okl_get hlo hg, hso⟩ hR
  rcases q_er_cases z x with h | ⟨a, h⟩
  · rw [h] at h1 h2
    exact lv_aloadN C.1 C.2.1 hd h1 h2
  · rw [h] at h1 h2
    exact lv_aload C.1 C.2.1 hd h1 h2
theorem q_r_aload_n (C : q_Cx p s m args cd cc own nL Ts D cA z H00 L xs) {i : Fin 4} {x : Int} (hd : decode cc pc = .ok (.aload_n i, 1)) (hg : q_get lv i.val = some (.inr (.inr x))) (k : q_Wt p l e R s m args below meth cd nL D cA z H00 L xs Q (pc + 1) lv (.inr (.inr x) :: st) M c t) : q_Wt p l e R s m args below meth cd nL D cA z H00 L xs Q pc lv st M c t := by
  intro H locs ls hS hl hlo hso hR
  have h1 : ls[i.val]? = some (.val (q_er z x)) := q_has_get hl hg
  have h2 : W p l e R s m args below meth cd H locs c t Q (F0 m (pc + 1) ls (q_er z x :: st.map (q_ev z))) := k H locs ls hS hl hlo ⟨q_okl_get hlo hg, hso⟩ hR
  rcases q_er_cases z x with h | ⟨a, h⟩
  · rw [h] at h1 h2
    exact lv_aload_nN C.1 C.2.1 hd rfl h1 h2
  · rw [h] at h1 h2
    exact lv_aload_n C.1 C.2.1 hd rfl h1 h2
theorem q_r_istore (C : q_Cx p s m args cd cc own nL Ts D cA z H00 L xs) {i : Nat} {x : Int} (hd : decode cc pc = .ok (.istore i, 2)) (hn : i < nL) (k : q_Wt p l e R s m args below meth cd nL D cA z H00 L xs Q (pc + 2) (q_st i (.inl x) lv) st M c t) : q_Wt p l e R s m args below meth cd nL D cA z H00 L xs Q pc lv (.inl x :: st) M c t :=
  fun H locs ls hS hl hlo hso hR => lv_istore C.1 C.2.1 hd hl hn rfl (fun ls' hl' => k H locs ls' hS (q_has_st1 (v := .inl x) (fun _ h => by cases h) hl') (q_okl_st hlo hso.1) hso.2 hR)
theorem q_r_istore_n (C : q_Cx p s m args cd cc own nL Ts D cA z H00 L xs) {i : Fin 4} {x : Int} (hd : decode cc pc = .ok (.istore_n i, 1)) (hn : i.val < nL) (k : q_Wt p l e R s m args below meth cd nL D cA z H00 L xs Q (pc + 1) (q_st i.val (.inl x) lv) st M c t) : q_Wt p l e R s m args below meth cd nL D cA z H00 L xs Q pc lv (.inl x :: st) M c t :=
  fun H locs ls hS hl hlo hso hR => lv_istore_n C.1 C.2.1 hd rfl hl hn rfl (fun ls' hl' => k H locs ls' hS (q_has_st1 (v := .inl x) (fun _ h => by cases h) hl') (q_okl_st hlo hso.1) hso.2 hR)
theorem q_r_lstore (C : q_Cx p s m args cd cc own nL Ts D cA z H00 L xs) {i : Nat} {x : Int} (hd : decode cc pc = .ok (.lstore i, 2)) (hn : i + 1 < nL) (k : q_Wt p l e R s m args below meth cd nL D cA z H00 L xs Q (pc + 2) (q_st i (.inr (.inl x)) lv) st M c t) : q_Wt p l e R s m args below meth cd nL D cA z H00 L xs Q pc lv (.inr (.inl x) :: st) M c t :=
  fun H locs ls hS hl hlo hso hR => lv_lstore C.1 C.2.1 hd hl hn rfl (fun ls' hl' => k H locs ls' hS (q_has_st2 hl') (q_okl_st hlo hso.1) hso.2 hR)
theorem q_r_lstore_n (C : q_Cx p s m args cd cc own nL Ts D cA z H00 L xs) {i : Fin 4} {x : Int} (hd : decode cc pc = .ok (.lstore_n i, 1)) (hn : i.val + 1 < nL) (k : q_Wt p l e R s m args below meth cd nL D cA z H00 L xs Q (pc + 1) (q_st i.val (.inr (.inl x)) lv) st M c t) : q_Wt p l e R s m args below meth cd nL D cA z H00 L xs Q pc lv (.inr (.inl x) :: st) M c t :=
  fun H locs ls hS hl hlo hso hR => lv_lstore_n C.1 C.2.1 hd rfl hl hn rfl (fun ls' hl' => k H locs ls' hS (q_has_st2 hl') (q_okl_st hlo hso.1) hso.2 hR)
theorem q_r_astore (C : q_Cx p s m args cd cc own nL Ts D cA z H00 L xs) {i : Nat} {x : Int} (hd : decode cc pc = .ok (.astore i, 2)) (hn : i < nL) (k : q_Wt p l e R s m args below meth cd nL D cA z H00 L xs Q (pc + 2) (q_st i (.inr (.inr x)) lv) st M c t) : q_Wt p l e R s m args below meth cd nL D cA z H00 L xs Q pc lv (.inr (.inr x) :: st) M c t := by
  intro H locs ls hS hl hlo hso hR
  have h3 : ∀ ls' : Array Slot, lv_has ls' nL ((i, q_er z x) :: (q_elv z lv).filter (fun q => !(q.1 == i) && !(q.1 + 1 == i && q.2.category == 2))) → W p l e R s m args below meth cd H locs c t Q (F0 m (pc + 2) ls' (st.map (q_ev z))) := fun ls' hl' => k H locs ls' hS (q_has_st1 (v := .inr (.inr x)) (fun _ h => by cases h) hl') (q_okl_st hlo hso.1) hso.2 hR
  show W p l e R s m args below meth cd H locs c t Q (F0 m pc ls (q_er z x :: st.map (q_ev z)))
  rcases q_er_cases z x with h | ⟨a, h⟩
  · rw [h] at h3 ⊢
    exact lv_astoreN C.1 C.2.1 hd hl hn rfl h3
  · rw [h] at h3 ⊢
    exact lv_astore C.1 C.2.1 hd hl hn rfl h3
theorem q_r_astore_n (C : q_Cx p s m args cd cc own nL Ts D cA z H00 L xs) {i : Fin 4} {x : Int} (hd : decode cc pc = .ok (.astore_n i, 1)) (hn : i.val < nL) (k : q_Wt p l e R s m args below meth cd nL D cA z H00 L xs Q (pc + 1) (q_st i.val (.inr (.inr x)) lv) st M c t) : q_Wt p l e R s m args below meth cd nL D cA z H00 L xs Q pc lv (.inr (.inr x) :: st) M c t := by
  intro H locs ls hS hl hlo hso hR
  have h3 : ∀ ls' : Array Slot, lv_has ls' nL ((i.val, q_er z x) :: (q_elv z lv).filter (fun q => !(q.1 == i.val) && !(q.1 + 1 == i.val && q.2.category == 2))) → W p l e R s m args below meth cd H locs c t Q (F0 m (pc + 1) ls' (st.map (q_ev z))) := fun ls' hl' => k H locs ls' hS (q_has_st1 (v := .inr (.inr x)) (fun _ h => by cases h) hl') (q_okl_st hlo hso.1) hso.2 hR
  show W p l e R s m args below meth cd H locs c t Q (F0 m pc ls (q_er z x :: st.map (q_ev z)))
  rcases q_er_cases z x with h | ⟨a, h⟩
  · rw [h] at h3 ⊢
    exact lv_astore_nN C.1 C.2.1 hd rfl hl hn rfl h3
  · rw [h] at h3 ⊢
    exact lv_astore_n C.1 C.2.1 hd rfl hl hn rfl h3
theorem q_r_iinc (C : q_Cx p s m args cd cc own nL Ts D cA z H00 L xs) {i : Nat} {w x : Int} (hd : decode cc pc = .ok (.iinc i w, 3)) (hg : q_get lv i = some (.inl x)) (hn : i < nL) (k : q_Wt p l e R s m args below meth cd nL D cA z H00 L xs Q (pc + 3) (q_st i (.inl (w32 (x + w))) lv) st M c t) : q_Wt p l e R s m args below meth cd nL D cA z H00 L xs Q pc lv st M c t := by
  intro H locs ls hS hl hlo hso hR
  obtain ⟨j, hj⟩ := List.getElem?_of_mem (show (i, q_ev z (.inl x)) ∈ q_elv z lv from List.mem_map.mpr ⟨(i, .inl x), q_get_mem hg, rfl⟩)
  exact lv_iinc (v := Int32.ofInt (w32 (x + w))) C.1 C.2.1 hd hl hj (q_add32 x w).symm hn rfl (fun ls' hl' => k H locs ls' hS (q_has_st1 (v := .inl (w32 (x + w))) (fun _ h => by cases h) hl') (q_okl_st hlo (q_w32r _)) hso hR)
theorem q_r_iadd (C : q_Cx p s m args cd cc own nL Ts D cA z H00 L xs) {x y : Int} (hd : decode cc pc = .ok (.iadd, 1)) (k : q_Wt p l e R s m args below meth cd nL D cA z H00 L xs Q (pc + 1) lv (.inl (w32 (x + y)) :: st) M c t) : q_Wt p l e R s m args below meth cd nL D cA z H00 L xs Q pc lv (.inl y :: .inl x :: st) M c t := by
  intro H locs ls hS hl hlo hso hR
  refine lv_iadd C.1 C.2.1 hd ?_
  have h := k H locs ls hS hl hlo ⟨q_w32r _, hso.2.2⟩ hR
  have h2 : q_ev z (.inl (w32 (x + y))) = _ := congrArg Value.int (q_add32 x y)
  rw [List.map_cons, h2] at h
  exact h
theorem q_r_isub (C : q_Cx p s m args cd cc own nL Ts D cA z H00 L xs) {x y : Int} (hd : decode cc pc = .ok (.isub, 1)) (k : q_Wt p l e R s m args below meth cd nL D cA z H00 L xs Q (pc + 1) lv (.inl (w32 (x - y)) :: st) M c t) : q_Wt p l e R s m args below meth cd nL D cA z H00 L xs Q pc lv (.inl y :: .inl x :: st) M c t := by
  intro H locs ls hS hl hlo hso hR
  refine lv_isub C.1 C.2.1 hd ?_
  have h := k H locs ls hS hl hlo ⟨q_w32r _, hso.2.2⟩ hR
  have h2 : q_ev z (.inl (w32 (x - y))) = _ := congrArg Value.int (q_sub32 x y)
  rw [List.map_cons, h2] at h
  exact h
theorem q_r_imul (C : q_Cx p s m args cd cc own nL Ts D cA z H00 L xs) {x y : Int} (hd : decode cc pc = .ok (.imul, 1)) (k : q_Wt p l e R s m args below meth cd nL D cA z H00 L xs Q (pc + 1) lv (.inl (w32 (x * y)) :: st) M c t) : q_Wt p l e R s m args below meth cd nL D cA z H00 L xs Q pc lv (.inl y :: .inl x :: st) M c t := by
  intro H locs ls hS hl hlo hso hR
  refine lv_imul C.1 C.2.1 hd ?_
  have h := k H locs ls hS hl hlo ⟨q_w32r _, hso.2.2⟩ hR
  have h2 : q_ev z (.inl (w32 (x * y))) = _ := congrArg Value.int (q_mul32 x y)
  rw [List.map_cons, h2] at h
  exact h
theorem q_r_iand (C : q_Cx p s m args cd cc own nL Ts D cA z H00 L xs) {x y : Int} (hd : decode cc pc = .ok (.iand, 1)) (k : q_Wt p l e R s m args below meth cd nL D cA z H00 L xs Q (pc + 1) lv (.inl (q_and x y) :: st) M c t) : q_Wt p l e R s m args below meth cd nL D cA z H00 L xs Q pc lv (.inl y :: .inl x :: st) M c t := by
  intro H locs ls hS hl hlo hso hR
  refine lv_iand C.1 C.2.1 hd ?_
  have h := k H locs ls hS hl hlo ⟨q_r32 _, hso.2.2⟩ hR
  have h2 : q_ev z (.inl (q_and x y)) = _ := congrArg Value.int (Int32.ofInt_toInt _)
  rw [List.map_cons, h2] at h
  exact h
theorem q_r_ior (C : q_Cx p s m args cd cc own nL Ts D cA z H00 L xs) {x y : Int} (hd : decode cc pc = .ok (.ior, 1)) (k : q_Wt p l e R s m args below meth cd nL D cA z H00 L xs Q (pc + 1) lv (.inl (q_or x y) :: st) M c t) : q_Wt p l e R s m args below meth cd nL D cA z H00 L xs Q pc lv (.inl y :: .inl x :: st) M c t := by
  intro H locs ls hS hl hlo hso hR
  refine lv_ior C.1 C.2.1 hd ?_
  have h := k H locs ls hS hl hlo ⟨q_r32 _, hso.2.2⟩ hR
  have h2 : q_ev z (.inl (q_or x y)) = _ := congrArg Value.int (Int32.ofInt_toInt _)
  rw [List.map_cons, h2] at h
  exact h
theorem q_r_ishl (C : q_Cx p s m args cd cc own nL Ts D cA z H00 L xs) {x y : Int} (hd : decode cc pc = .ok (.ishl, 1)) (k : q_Wt p l e R s m args below meth cd nL D cA z H00 L xs Q (pc + 1) lv (.inl (q_shl x y) :: st) M c t) : q_Wt p l e R s m args below meth cd nL D cA z H00 L xs Q pc lv (.inl y :: .inl x :: st) M c t := by
  intro H locs ls hS hl hlo hso hR
  refine lv_ishl C.1 C.2.1 hd ?_
  have h := k H locs ls hS hl hlo ⟨q_r32 _, hso.2.2⟩ hR
  have h2 : q_ev z (.inl (q_shl x y)) = _ := congrArg Value.int (Int32.ofInt_toInt _)
  rw [List.map_cons, h2] at h
  exact h
theorem q_r_ishr (C : q_Cx p s m args cd cc own nL Ts D cA z H00 L xs) {x y : Int} (hd : decode cc pc = .ok (.ishr, 1)) (k : q_Wt p l e R s m args below meth cd nL D cA z H00 L xs Q (pc + 1) lv (.inl (q_shr x y) :: st) M c t) : q_Wt p l e R s m args below meth cd nL D cA z H00 L xs Q pc lv (.inl y :: .inl x :: st) M c t := by
  intro H locs ls hS hl hlo hso hR
  refine lv_ishr C.1 C.2.1 hd ?_
  have h := k H locs ls hS hl hlo ⟨q_r32 _, hso.2.2⟩ hR
  have h2 : q_ev z (.inl (q_shr x y)) = _ := congrArg Value.int (Int32.ofInt_toInt _)
  rw [List.map_cons, h2] at h
  exact h
theorem q_r_ladd (C : q_Cx p s m args cd cc own nL Ts D cA z H00 L xs) {x y : Int} (hd : decode cc pc = .ok (.ladd, 1)) (k : q_Wt p l e R s m args below meth cd nL D cA z H00 L xs Q (pc + 1) lv (.inr (.inl (w64 (x + y))) :: st) M c t) : q_Wt p l e R s m args below meth cd nL D cA z H00 L xs Q pc lv (.inr (.inl y) :: .inr (.inl x) :: st) M c t := by
  intro H locs ls hS hl hlo hso hR
  refine lv_ladd C.1 C.2.1 hd ?_
  have h := k H locs ls hS hl hlo ⟨q_w64r _, hso.2.2⟩ hR
  have h2 : q_ev z (.inr (.inl (w64 (x + y)))) = _ := congrArg Value.long (q_add64 x y)
  rw [List.map_cons, h2] at h
  exact h
theorem q_r_lsub (C : q_Cx p s m args cd cc own nL Ts D cA z H00 L xs) {x y : Int} (hd : decode cc pc = .ok (.lsub, 1)) (k : q_Wt p l e R s m args below meth cd nL D cA z H00 L xs Q (pc + 1) lv (.inr (.inl (w64 (x - y))) :: st) M c t) : q_Wt p l e R s m args below meth cd nL D cA z H00 L xs Q pc lv (.inr (.inl y) :: .inr (.inl x) :: st) M c t := by
  intro H locs ls hS hl hlo hso hR
  refine lv_lsub C.1 C.2.1 hd ?_
  have h := k H locs ls hS hl hlo ⟨q_w64r _, hso.2.2⟩ hR
  have h2 : q_ev z (.inr (.inl (w64 (x - y)))) = _ := congrArg Value.long (q_sub64 x y)
  rw [List.map_cons, h2] at h
  exact h
theorem q_r_lmul (C : q_Cx p s m args cd cc own nL Ts D cA z H00 L xs) {x y : Int} (hd : decode cc pc = .ok (.lmul, 1)) (k : q_Wt p l e R s m args below meth cd nL D cA z H00 L xs Q (pc + 1) lv (.inr (.inl (w64 (x * y))) :: st) M c t) : q_Wt p l e R s m args below meth cd nL D cA z H00 L xs Q pc lv (.inr (.inl y) :: .inr (.inl x) :: st) M c t := by
  intro H locs ls hS hl hlo hso hR
  refine lv_lmul C.1 C.2.1 hd ?_
  have h := k H locs ls hS hl hlo ⟨q_w64r _, hso.2.2⟩ hR
  have h2 : q_ev z (.inr (.inl (w64 (x * y)))) = _ := congrArg Value.long (q_mul64 x y)
  rw [List.map_cons, h2] at h
  exact h
theorem q_r_lxor (C : q_Cx p s m args cd cc own nL Ts D cA z H00 L xs) {x y : Int} (hd : decode cc pc = .ok (.lxor, 1)) (k : q_Wt p l e R s m args below meth cd nL D cA z H00 L xs Q (pc + 1) lv (.inr (.inl (q_lxor x y)) :: st) M c t) : q_Wt p l e R s m args below meth cd nL D cA z H00 L xs Q pc lv (.inr (.inl y) :: .inr (.inl x) :: st) M c t := by
  intro H locs ls hS hl hlo hso hR
  refine lv_lxor C.1 C.2.1 hd ?_
  have h := k H locs ls hS hl hlo ⟨q_r64 _, hso.2.2⟩ hR
  have h2 : q_ev z (.inr (.inl (q_lxor x y))) = _ := congrArg Value.long (Int64.ofInt_toInt _)
  rw [List.map_cons, h2] at h
  exact h
theorem q_r_idiv (C : q_Cx p s m args cd cc own nL Ts D cA z H00 L xs) {x y : Int} (hd : decode cc pc = .ok (.idiv, 1)) (h0 : y ≠ 0) (k : q_Wt p l e R s m args below meth cd nL D cA z H00 L xs Q (pc + 1) lv (.inl (w32 (x.tdiv y)) :: st) M c t) : q_Wt p l e R s m args below meth cd nL D cA z H00 L xs Q pc lv (.inl y :: .inl x :: st) M c t := by
  intro H locs ls hS hl hlo hso hR
  refine lv_idiv C.1 C.2.1 hd (fun h => h0 ((q_eq32 hso.1 (show q_i32 0 by unfold q_i32; omega)).mp h)) ?_
  have h := k H locs ls hS hl hlo ⟨q_w32r _, hso.2.2⟩ hR
  have h2 : q_ev z (.inl (w32 (x.tdiv y))) = _ := congrArg Value.int (q_div32 hso.2.1 hso.1)
  rw [List.map_cons, h2] at h
  exact h
theorem q_r_irem (C : q_Cx p s m args cd cc own nL Ts D cA z H00 L xs) {x y : Int} (hd : decode cc pc = .ok (.irem, 1)) (h0 : y ≠ 0) (k : q_Wt p l e R s m args below meth cd nL D cA z H00 L xs Q (pc + 1) lv (.inl (x.tmod y) :: st) M c t) : q_Wt p l e R s m args below meth cd nL D cA z H00 L xs Q pc lv (.inl y :: .inl x :: st) M c t := by
  intro H locs ls hS hl hlo hso hR
  refine lv_irem C.1 C.2.1 hd (fun h => h0 ((q_eq32 hso.1 (show q_i32 0 by unfold q_i32; omega)).mp h)) ?_
  have h := k H locs ls hS hl hlo ⟨q_rem32r hso.2.1, hso.2.2⟩ hR
  have h2 : q_ev z (.inl (x.tmod y)) = _ := congrArg Value.int (q_rem32 hso.2.1 hso.1)
  rw [List.map_cons, h2] at h
  exact h
theorem q_r_ldiv (C : q_Cx p s m args cd cc own nL Ts D cA z H00 L xs) {x y : Int} (hd : decode cc pc = .ok (.ldiv, 1)) (h0 : y ≠ 0) (k : q_Wt p l e R s m args below meth cd nL D cA z H00 L xs Q (pc + 1) lv (.inr (.inl (w64 (x.tdiv y))) :: st) M c t) : q_Wt p l e R s m args below meth cd nL D cA z H00 L xs Q pc lv (.inr (.inl y) :: .inr (.inl x) :: st) M c t := by
  intro H locs ls hS hl hlo hso hR
  refine lv_ldiv C.1 C.2.1 hd (fun h => h0 ((q_eq64 hso.1 (show q_i64 0 by unfold q_i64; omega)).mp h)) ?_
  have h := k H locs ls hS hl hlo ⟨q_w64r _, hso.2.2⟩ hR
  have h2 : q_ev z (.inr (.inl (w64 (x.tdiv y)))) = _ := congrArg Value.long (q_div64 hso.2.1 hso.1)
  rw [List.map_cons, h2] at h
  exact h
theorem q_r_lrem (C : q_Cx p s m args cd cc own nL Ts D cA z H00 L xs) {x y : Int} (hd : decode cc pc = .ok (.lrem, 1)) (h0 : y ≠ 0) (k : q_Wt p l e R s m args below meth cd nL D cA z H00 L xs Q (pc + 1) lv (.inr (.inl (x.tmod y)) :: st) M c t) : q_Wt p l e R s m args below meth cd nL D cA z H00 L xs Q pc lv (.inr (.inl y) :: .inr (.inl x) :: st) M c t := by
  intro H locs ls hS hl hlo hso hR
  refine lv_lrem C.1 C.2.1 hd (fun h => h0 ((q_eq64 hso.1 (show q_i64 0 by unfold q_i64; omega)).mp h)) ?_
  have h := k H locs ls hS hl hlo ⟨q_rem64r hso.2.1, hso.2.2⟩ hR
  have h2 : q_ev z (.inr (.inl (x.tmod y))) = _ := congrArg Value.long (q_rem64 hso.2.1 hso.1)
  rw [List.map_cons, h2] at h
  exact h
theorem q_r_ineg (C : q_Cx p s m args cd cc own nL Ts D cA z H00 L xs) {x : Int} (hd : decode cc pc = .ok (.ineg, 1)) (k : q_Wt p l e R s m args below meth cd nL D cA z H00 L xs Q (pc + 1) lv (.inl (w32 (-x)) :: st) M c t) : q_Wt p l e R s m args below meth cd nL D cA z H00 L xs Q pc lv (.inl x :: st) M c t := by
  intro H locs ls hS hl hlo hso hR
  refine lv_ineg C.1 C.2.1 hd ?_
  have h := k H locs ls hS hl hlo ⟨q_w32r _, hso.2⟩ hR
  have h2 : q_ev z (.inl (w32 (-x))) = _ := congrArg Value.int (q_neg32 x)
  rw [List.map_cons, h2] at h
  exact h
theorem q_r_lneg (C : q_Cx p s m args cd cc own nL Ts D cA z H00 L xs) {x : Int} (hd : decode cc pc = .ok (.lneg, 1)) (k : q_Wt p l e R s m args below meth cd nL D cA z H00 L xs Q (pc + 1) lv (.inr (.inl (w64 (-x))) :: st) M c t) : q_Wt p l e R s m args below meth cd nL D cA z H00 L xs Q pc lv (.inr (.inl x) :: st) M c t := by
  intro H locs ls hS hl hlo hso hR
  refine lv_lneg C.1 C.2.1 hd ?_
  have h := k H locs ls hS hl hlo ⟨q_w64r _, hso.2⟩ hR
  have h2 : q_ev z (.inr (.inl (w64 (-x)))) = _ := congrArg Value.long (q_neg64 x)
  rw [List.map_cons, h2] at h
  exact h
theorem q_r_lushr (C : q_Cx p s m args cd cc own nL Ts D cA z H00 L xs) {x y : Int} (hd : decode cc pc = .ok (.lushr, 1)) (k : q_Wt p l e R s m args below meth cd nL D cA z H00 L xs Q (pc + 1) lv (.inr (.inl (q_lushr x y)) :: st) M c t) : q_Wt p l e R s m args below meth cd nL D cA z H00 L xs Q pc lv (.inl y :: .inr (.inl x) :: st) M c t := by
  intro H locs ls hS hl hlo hso hR
  exact lv_lushr C.1 C.2.1 hd (Int64.ofInt_toInt _).symm (k H locs ls hS hl hlo ⟨q_r64 _, hso.2.2⟩ hR)
theorem q_r_lcmp (C : q_Cx p s m args cd cc own nL Ts D cA z H00 L xs) {x y : Int} (hd : decode cc pc = .ok (.lcmp, 1)) (k : q_Wt p l e R s m args below meth cd nL D cA z H00 L xs Q (pc + 1) lv (.inl (q_lc x y) :: st) M c t) : q_Wt p l e R s m args below meth cd nL D cA z H00 L xs Q pc lv (.inr (.inl y) :: .inr (.inl x) :: st) M c t := by
  intro H locs ls hS hl hlo hso hR
  refine W.lcmp C.1 C.2.1 hd ?_
  have h := k H locs ls hS hl hlo ⟨q_lcr _ _, hso.2.2⟩ hR
  have h2 : q_ev z (.inl (q_lc x y)) = _ := congrArg Value.int (q_lcmp hso.2.1 hso.1).symm
  rw [List.map_cons, h2] at h
  exact h
theorem q_r_i2l (C : q_Cx p s m args cd cc own nL Ts D cA z H00 L xs) {x : Int} (hd : decode cc pc = .ok (.i2l, 1)) (k : q_Wt p l e R s m args below meth cd nL D cA z H00 L xs Q (pc + 1) lv (.inr (.inl x) :: st) M c t) : q_Wt p l e R s m args below meth cd nL D cA z H00 L xs Q pc lv (.inl x :: st) M c t := by
  intro H locs ls hS hl hlo hso hR
  have h1 : q_i32 x := hso.1
  exact lv_i2l C.1 C.2.1 hd (q_i2l h1) (k H locs ls hS hl hlo ⟨by show q_i64 x; unfold q_i32 at h1; unfold q_i64; omega, hso.2⟩ hR)
theorem q_r_l2i (C : q_Cx p s m args cd cc own nL Ts D cA z H00 L xs) {x : Int} (hd : decode cc pc = .ok (.l2i, 1)) (k : q_Wt p l e R s m args below meth cd nL D cA z H00 L xs Q (pc + 1) lv (.inl (w32 x) :: st) M c t) : q_Wt p l e R s m args below meth cd nL D cA z H00 L xs Q pc lv (.inr (.inl x) :: st) M c t :=
  fun H locs ls hS hl hlo hso hR => lv_l2i C.1 C.2.1 hd (q_l2i x) (k H locs ls hS hl hlo ⟨q_w32r _, hso.2⟩ hR)
theorem q_r_i2b (C : q_Cx p s m args cd cc own nL Ts D cA z H00 L xs) {x : Int} (hd : decode cc pc = .ok (.i2b, 1)) (k : q_Wt p l e R s m args below meth cd nL D cA z H00 L xs Q (pc + 1) lv (.inl (w8 x) :: st) M c t) : q_Wt p l e R s m args below meth cd nL D cA z H00 L xs Q pc lv (.inl x :: st) M c t :=
  fun H locs ls hS hl hlo hso hR => lv_i2b C.1 C.2.1 hd (q_i2b x) (k H locs ls hS hl hlo ⟨by show q_i32 (w8 x); unfold q_i32 w8; omega, hso.2⟩ hR)
theorem q_r_dup (C : q_Cx p s m args cd cc own nL Ts D cA z H00 L xs) {v : qV} (hd : decode cc pc = .ok (.dup, 1)) (hv : (q_ev z v).category = 1) (k : q_Wt p l e R s m args below meth cd nL D cA z H00 L xs Q (pc + 1) lv (v :: v :: st) M c t) : q_Wt p l e R s m args below meth cd nL D cA z H00 L xs Q pc lv (v :: st) M c t :=
  fun H locs ls hS hl hlo hso hR => lv_dup C.1 C.2.1 hd hv (k H locs ls hS hl hlo ⟨hso.1, hso⟩ hR)
theorem q_r_dup2 (C : q_Cx p s m args cd cc own nL Ts D cA z H00 L xs) {v w : qV} (hd : decode cc pc = .ok (.dup2, 1)) (hv : (q_ev z v).category = 1) (hw : (q_ev z w).category = 1) (k : q_Wt p l e R s m args below meth cd nL D cA z H00 L xs Q (pc + 1) lv (v :: w :: v :: w :: st) M c t) : q_Wt p l e R s m args below meth cd nL D cA z H00 L xs Q pc lv (v :: w :: st) M c t :=
  fun H locs ls hS hl hlo hso hR => lv_dup2_11 C.1 C.2.1 hd hv hw (k H locs ls hS hl hlo ⟨hso.1, hso.2.1, hso⟩ hR)
theorem q_r_dup2l (C : q_Cx p s m args cd cc own nL Ts D cA z H00 L xs) {x : Int} (hd : decode cc pc = .ok (.dup2, 1)) (k : q_Wt p l e R s m args below meth cd nL D cA z H00 L xs Q (pc + 1) lv (.inr (.inl x) :: .inr (.inl x) :: st) M c t) : q_Wt p l e R s m args below meth cd nL D cA z H00 L xs Q pc lv (.inr (.inl x) :: st) M c t :=
  fun H locs ls hS hl hlo hso hR => lv_dup2_2 C.1 C.2.1 hd rfl (k H locs ls hS hl hlo ⟨hso.1, hso⟩ hR)
theorem q_r_pop (C : q_Cx p s m args cd cc own nL Ts D cA z H00 L xs) {v : qV} (hd : decode cc pc = .ok (.pop, 1)) (hv : (q_ev z v).category = 1) (k : q_Wt p l e R s m args below meth cd nL D cA z H00 L xs Q (pc + 1) lv st M c t) : q_Wt p l e R s m args below meth cd nL D cA z H00 L xs Q pc lv (v :: st) M c t :=
  fun H locs ls hS hl hlo hso hR => lv_pop C.1 C.2.1 hd hv (k H locs ls hS hl hlo hso.2 hR)
theorem q_z32 : q_i32 0 := by unfold q_i32; omega
theorem q_r_icmp_eq (C : q_Cx p s m args cd cc own nL Ts D cA z H00 L xs) {x y off : Int} {tgt : Nat} (hd : decode cc pc = .ok (.if_icmp .eq off, 3)) (ht : (pc : Int) + off = (tgt : Int)) (k1 : x = y → q_Wt p l e R s m args below meth cd nL D cA z H00 L xs Q tgt lv st M c t) (k2 : ¬ x = y → q_Wt p l e R s m args below meth cd nL D cA z H00 L xs Q (pc + 3) lv st M c t) : q_Wt p l e R s m args below meth cd nL D cA z H00 L xs Q pc lv (.inl y :: .inl x :: st) M c t := by
  intro H locs ls hS hl hlo hso hR
  have hY : q_i32 y := hso.1
  have hX : q_i32 x := hso.2.1
  exact lv_icmp_eq C.1 C.2.1 hd ht (fun h => k1 ((q_eq32 hX hY).mp h) H locs ls hS hl hlo hso.2.2 hR) (fun h => k2 (fun e => h ((q_eq32 hX hY).mpr e)) H locs ls hS hl hlo hso.2.2 hR)
theorem q_r_if_eq (C : q_Cx p s m args cd cc own nL Ts D cA z H00 L xs) {x off : Int} {tgt : Nat} (hd : decode cc pc = .ok (.ifCond .eq off, 3)) (ht : (pc : Int) + off = (tgt : Int)) (k1 : x = 0 → q_Wt p l e R s m args below meth cd nL D cA z H00 L xs Q tgt lv st M c t) (k2 : ¬ x = 0 → q_Wt p l e R s m args below meth cd nL D cA z H00 L xs Q (pc + 3) lv st M c t) : q_Wt p l e R s m args below meth cd nL D cA z H00 L xs Q pc lv (.inl x :: st) M c t := by
  intro H locs ls hS hl hlo hso hR
  have hY := q_z32
  have hX : q_i32 x := hso.1
  exact lv_if_eq C.1 C.2.1 hd ht (fun h => k1 ((q_eq32 hX hY).mp h) H locs ls hS hl hlo hso.2 hR) (fun h => k2 (fun e => h ((q_eq32 hX hY).mpr e)) H locs ls hS hl hlo hso.2 hR)
theorem q_r_icmp_ne (C : q_Cx p s m args cd cc own nL Ts D cA z H00 L xs) {x y off : Int} {tgt : Nat} (hd : decode cc pc = .ok (.if_icmp .ne off, 3)) (ht : (pc : Int) + off = (tgt : Int)) (k1 : ¬ x = y → q_Wt p l e R s m args below meth cd nL D cA z H00 L xs Q tgt lv st M c t) (k2 : x = y → q_Wt p l e R s m args below meth cd nL D cA z H00 L xs Q (pc + 3) lv st M c t) : q_Wt p l e R s m args below meth cd nL D cA z H00 L xs Q pc lv (.inl y :: .inl x :: st) M c t := by
  intro H locs ls hS hl hlo hso hR
  have hY : q_i32 y := hso.1
  have hX : q_i32 x := hso.2.1
  exact lv_icmp_ne C.1 C.2.1 hd ht (fun h => k1 (fun e => h ((q_eq32 hX hY).mpr e)) H locs ls hS hl hlo hso.2.2 hR) (fun h => k2 ((q_eq32 hX hY).mp h) H locs ls hS hl hlo hso.2.2 hR)
theorem q_r_if_ne (C : q_Cx p s m args cd cc own nL Ts D cA z H00 L xs) {x off : Int} {tgt : Nat} (hd : decode cc pc = .ok (.ifCond .ne off, 3)) (ht : (pc : Int) + off = (tgt : Int)) (k1 : ¬ x = 0 → q_Wt p l e R s m args below meth cd nL D cA z H00 L xs Q tgt lv st M c t) (k2 : x = 0 → q_Wt p l e R s m args below meth cd nL D cA z H00 L xs Q (pc + 3) lv st M c t) : q_Wt p l e R s m args below meth cd nL D cA z H00 L xs Q pc lv (.inl x :: st) M c t := by
  intro H locs ls hS hl hlo hso hR
  have hY := q_z32
  have hX : q_i32 x := hso.1
  exact lv_if_ne C.1 C.2.1 hd ht (fun h => k1 (fun e => h ((q_eq32 hX hY).mpr e)) H locs ls hS hl hlo hso.2 hR) (fun h => k2 ((q_eq32 hX hY).mp h) H locs ls hS hl hlo hso.2 hR)
theorem q_r_icmp_lt (C : q_Cx p s m args cd cc own nL Ts D cA z H00 L xs) {x y off : Int} {tgt : Nat} (hd : decode cc pc = .ok (.if_icmp .lt off, 3)) (ht : (pc : Int) + off = (tgt : Int)) (k1 : x < y → q_Wt p l e R s m args below meth cd nL D cA z H00 L xs Q tgt lv st M c t) (k2 : y ≤ x → q_Wt p l e R s m args below meth cd nL D cA z H00 L xs Q (pc + 3) lv st M c t) : q_Wt p l e R s m args below meth cd nL D cA z H00 L xs Q pc lv (.inl y :: .inl x :: st) M c t := by
  intro H locs ls hS hl hlo hso hR
  have hY : q_i32 y := hso.1
  have hX : q_i32 x := hso.2.1
  exact lv_icmp_lt C.1 C.2.1 hd ht (fun h => k1 ((q_lt32 hX hY).mp h) H locs ls hS hl hlo hso.2.2 hR) (fun h => k2 (Int.not_lt.mp (fun e => h ((q_lt32 hX hY).mpr e))) H locs ls hS hl hlo hso.2.2 hR)
theorem q_r_if_lt (C : q_Cx p s m args cd cc own nL Ts D cA z H00 L xs) {x off : Int} {tgt : Nat} (hd : decode cc pc = .ok (.ifCond .lt off, 3)) (ht : (pc : Int) + off = (tgt : Int)) (k1 : x < 0 → q_Wt p l e R s m args below meth cd nL D cA z H00 L xs Q tgt lv st M c t) (k2 : 0 ≤ x → q_Wt p l e R s m args below meth cd nL D cA z H00 L xs Q (pc + 3) lv st M c t) : q_Wt p l e R s m args below meth cd nL D cA z H00 L xs Q pc lv (.inl x :: st) M c t := by
  intro H locs ls hS hl hlo hso hR
  have hY := q_z32
  have hX : q_i32 x := hso.1
  exact lv_if_lt C.1 C.2.1 hd ht (fun h => k1 ((q_lt32 hX hY).mp h) H locs ls hS hl hlo hso.2 hR) (fun h => k2 (Int.not_lt.mp (fun e => h ((q_lt32 hX hY).mpr e))) H locs ls hS hl hlo hso.2 hR)
theorem q_r_icmp_ge (C : q_Cx p s m args cd cc own nL Ts D cA z H00 L xs) {x y off : Int} {tgt : Nat} (hd : decode cc pc = .ok (.if_icmp .ge off, 3)) (ht : (pc : Int) + off = (tgt : Int)) (k1 : y ≤ x → q_Wt p l e R s m args below meth cd nL D cA z H00 L xs Q tgt lv st M c t) (k2 : x < y → q_Wt p l e R s m args below meth cd nL D cA z H00 L xs Q (pc + 3) lv st M c t) : q_Wt p l e R s m args below meth cd nL D cA z H00 L xs Q pc lv (.inl y :: .inl x :: st) M c t := by
  intro H locs ls hS hl hlo hso hR
  have hY : q_i32 y := hso.1
  have hX : q_i32 x := hso.2.1
  exact lv_icmp_ge C.1 C.2.1 hd ht (fun h => k1 ((q_le32 hY hX).mp h) H locs ls hS hl hlo hso.2.2 hR) (fun h => k2 (Int.not_le.mp (fun e => h ((q_le32 hY hX).mpr e))) H locs ls hS hl hlo hso.2.2 hR)
theorem q_r_if_ge (C : q_Cx p s m args cd cc own nL Ts D cA z H00 L xs) {x off : Int} {tgt : Nat} (hd : decode cc pc = .ok (.ifCond .ge off, 3)) (ht : (pc : Int) + off = (tgt : Int)) (k1 : 0 ≤ x → q_Wt p l e R s m args below meth cd nL D cA z H00 L xs Q tgt lv st M c t) (k2 : x < 0 → q_Wt p l e R s m args below meth cd nL D cA z H00 L xs Q (pc + 3) lv st M c t) : q_Wt p l e R s m args below meth cd nL D cA z H00 L xs Q pc lv (.inl x :: st) M c t := by
  intro H locs ls hS hl hlo hso hR
  have hY := q_z32
  have hX : q_i32 x := hso.1
  exact lv_if_ge C.1 C.2.1 hd ht (fun h => k1 ((q_le32 hY hX).mp h) H locs ls hS hl hlo hso.2 hR) (fun h => k2 (Int.not_le.mp (fun e => h ((q_le32 hY hX).mpr e))) H locs ls hS hl hlo hso.2 hR)
theorem q_r_icmp_gt (C : q_Cx p s m args cd cc own nL Ts D cA z H00 L xs) {x y off : Int} {tgt : Nat} (hd : decode cc pc = .ok (.if_icmp .gt off, 3)) (ht : (pc : Int) + off = (tgt : Int)) (k1 : y < x → q_Wt p l e R s m args below meth cd nL D cA z H00 L xs Q tgt lv st M c t) (k2 : x ≤ y → q_Wt p l e R s m args below meth cd nL D cA z H00 L xs Q (pc + 3) lv st M c t) : q_Wt p l e R s m args below meth cd nL D cA z H00 L xs Q pc lv (.inl y :: .inl x :: st) M c t := by
  intro H locs ls hS hl hlo hso hR
  have hY : q_i32 y := hso.1
  have hX : q_i32 x := hso.2.1
  exact lv_icmp_gt C.1 C.2.1 hd ht (fun h => k1 ((q_lt32 hY hX).mp h) H locs ls hS hl hlo hso.2.2 hR) (fun h => k2 (Int.not_lt.mp (fun e => h ((q_lt32 hY hX).mpr e))) H locs ls hS hl hlo hso.2.2 hR)
theorem q_r_if_gt (C : q_Cx p s m args cd cc own nL Ts D cA z H00 L xs) {x off : Int} {tgt : Nat} (hd : decode cc pc = .ok (.ifCond .gt off, 3)) (ht : (pc : Int) + off = (tgt : Int)) (k1 : 0 < x → q_Wt p l e R s m args below meth cd nL D cA z H00 L xs Q tgt lv st M c t) (k2 : x ≤ 0 → q_Wt p l e R s m args below meth cd nL D cA z H00 L xs Q (pc + 3) lv st M c t) : q_Wt p l e R s m args below meth cd nL D cA z H00 L xs Q pc lv (.inl x :: st) M c t := by
  intro H locs ls hS hl hlo hso hR
  have hY := q_z32
  have hX : q_i32 x := hso.1
  exact lv_if_gt C.1 C.2.1 hd ht (fun h => k1 ((q_lt32 hY hX).mp h) H locs ls hS hl hlo hso.2 hR) (fun h => k2 (Int.not_lt.mp (fun e => h ((q_lt32 hY hX).mpr e))) H locs ls hS hl hlo hso.2 hR)
theorem q_r_icmp_le (C : q_Cx p s m args cd cc own nL Ts D cA z H00 L xs) {x y off : Int} {tgt : Nat} (hd : decode cc pc = .ok (.if_icmp .le off, 3)) (ht : (pc : Int) + off = (tgt : Int)) (k1 : x ≤ y → q_Wt p l e R s m args below meth cd nL D cA z H00 L xs Q tgt lv st M c t) (k2 : y < x → q_Wt p l e R s m args below meth cd nL D cA z H00 L xs Q (pc + 3) lv st M c t) : q_Wt p l e R s m args below meth cd nL D cA z H00 L xs Q pc lv (.inl y :: .inl x :: st) M c t := by
  intro H locs ls hS hl hlo hso hR
  have hY : q_i32 y := hso.1
  have hX : q_i32 x := hso.2.1
  exact lv_icmp_le C.1 C.2.1 hd ht (fun h => k1 ((q_le32 hX hY).mp h) H locs ls hS hl hlo hso.2.2 hR) (fun h => k2 (Int.not_le.mp (fun e => h ((q_le32 hX hY).mpr e))) H locs ls hS hl hlo hso.2.2 hR)
theorem q_r_if_le (C : q_Cx p s m args cd cc own nL Ts D cA z H00 L xs) {x off : Int} {tgt : Nat} (hd : decode cc pc = .ok (.ifCond .le off, 3)) (ht : (pc : Int) + off = (tgt : Int)) (k1 : x ≤ 0 → q_Wt p l e R s m args below meth cd nL D cA z H00 L xs Q tgt lv st M c t) (k2 : 0 < x → q_Wt p l e R s m args below meth cd nL D cA z H00 L xs Q (pc + 3) lv st M c t) : q_Wt p l e R s m args below meth cd nL D cA z H00 L xs Q pc lv (.inl x :: st) M c t := by
  intro H locs ls hS hl hlo hso hR
  have hY := q_z32
  have hX : q_i32 x := hso.1
  exact lv_if_le C.1 C.2.1 hd ht (fun h => k1 ((q_le32 hX hY).mp h) H locs ls hS hl hlo hso.2 hR) (fun h => k2 (Int.not_le.mp (fun e => h ((q_le32 hX hY).mpr e))) H locs ls hS hl hlo hso.2 hR)
end
