section
variable {p : Program} {l : Launch} {e : Env} {R : Room} {s : State} {m : MethodId} {args : Array Value} {below : List Frame} {meth : Method} {cd : Code} {cc : ByteArray} {own : String} {nL : Nat} {Ts : List Cond} {D : va_G} {cA : Nat → ClassId} {z : Nat × Nat × Nat} {H00 : Heap} {L : Nat} {xs : Nat → Int32} {Q : State → Prop}
variable {pc : Nat} {lv : qLv} {st : List qV} {M : qM} {c t : Nat}
variable {H : Heap} {locs : List Loc}
theorem q_er_pos {z : Nat × Nat × Nat} {a : Int} (h : 0 ≤ a) : q_er z a = .ref (z.1 + a.toNat) := by
  unfold q_er
  rw [if_neg (by omega), if_neg (by omega), if_neg (by omega)]
theorem q_er_m3 (z : Nat × Nat × Nat) : q_er z (-3) = .ref z.2.2 := rfl
theorem q_in32 {i n : Int} (h0 : 0 ≤ i) (h1 : i < n) (hi : q_i32 i) : ¬ (Int32.ofInt i < 0 ∨ n.toNat ≤ (Int32.ofInt i).toNatClampNeg) := by
  rintro (h | h)
  · have := (q_lt32 hi q_z32).mp h
    omega
  · rw [q_nc32 h0 hi] at h
    omega
theorem q_cellA (hS : q_St D cA z H00 L xs M H locs) {a : Int} (hk : 12 ≤ q_kd M a) (h3 : a ≠ -3) : 0 ≤ a ∧ H[z.1 + a.toNat]? = some (arrV (cA (q_kd M a).toNat) (q_ln M a).toNat (q_sv z M a)) := by
  obtain ⟨h1, h2⟩ := q_kdin hS.1.1 (by omega) h3
  have h := hS.1.2.2 a h1 h2
  unfold q_co at h
  rw [if_neg (by omega)] at h
  exact ⟨h1, h⟩
theorem q_cellO (hS : q_St D cA z H00 L xs M H locs) {a : Int} (hk : 0 ≤ q_kd M a ∧ q_kd M a < 12) : 0 ≤ a ∧ t_OB (z.1 + a.toNat) (D.1 (q_kd M a).toNat) (q_ns (q_kd M a)) (D.2 (q_kd M a).toNat) H (q_sv z M a) := by
  have h3 : a ≠ -3 := by
    intro e
    rw [e, hS.1.1.2.2.2.1.1] at hk
    omega
  obtain ⟨h1, h2⟩ := q_kdin hS.1.1 (by omega) h3
  have h := hS.1.2.2 a h1 h2
  unfold q_co at h
  rw [if_pos hk.2] at h
  exact ⟨h1, h⟩
theorem q_arrT {i : Nat} {cI : ClassId} {ty : FieldType} (C : q_Cx p s m args cd cc own nL Ts D cA z H00 L xs) (h : (q_tys cA)[i]? = some (cI, ty)) : ArrOfT s cI ty ∧ va_RA s cI ty := C.2.2.2.2.2.1.2 i _ h
theorem q_arrE (C : q_Cx p s m args cd cc own nL Ts D cA z H00 L xs) {k : Int} (h : 12 ≤ k ∧ k ≤ 20) : ∃ ty, ArrOfT s (cA k.toNat) ty := by
  have : k = 12 ∨ k = 13 ∨ k = 14 ∨ k = 15 ∨ k = 16 ∨ k = 17 ∨ k = 18 ∨ k = 19 ∨ k = 20 := by omega
  rcases this with rfl | rfl | rfl | rfl | rfl | rfl | rfl | rfl | rfl
  · exact ⟨_, (q_arrT C (i := 0) rfl).1⟩
  · exact ⟨_, (q_arrT C (i := 1) rfl).1⟩
  · exact ⟨_, (q_arrT C (i := 2) rfl).1⟩
  · exact ⟨_, (q_arrT C (i := 3) rfl).1⟩
  · exact ⟨_, (q_arrT C (i := 4) rfl).1⟩
  · exact ⟨_, (q_arrT C (i := 5) rfl).1⟩
  · exact ⟨_, (q_arrT C (i := 6) rfl).1⟩
  · exact ⟨_, (q_arrT C (i := 7) rfl).1⟩
  · exact ⟨_, (q_arrT C (i := 8) rfl).1⟩
theorem q_arrR (C : q_Cx p s m args cd cc own nL Ts D cA z H00 L xs) {k : Int} (h : 17 ≤ k ∧ k ≤ 20) : ∃ ty, ArrOfT s (cA k.toNat) ty ∧ ty.isReference = true := by
  have : k = 17 ∨ k = 18 ∨ k = 19 ∨ k = 20 := by omega
  rcases this with rfl | rfl | rfl | rfl
  · exact ⟨_, (q_arrT C (i := 5) rfl).1, rfl⟩
  · exact ⟨_, (q_arrT C (i := 6) rfl).1, rfl⟩
  · exact ⟨_, (q_arrT C (i := 7) rfl).1, rfl⟩
  · exact ⟨_, (q_arrT C (i := 8) rfl).1, rfl⟩
theorem q_kd20 (hS : q_St D cA z H00 L xs M H locs) {a : Int} (hk : 12 ≤ q_kd M a) : q_kd M a ≤ 20 ∧ 0 ≤ q_ln M a ∧ q_ln M a ≤ 1000000 := by
  by_cases h3 : a = -3
  · subst h3
    have := hS.1.1.2.2.2.1
    omega
  · obtain ⟨h1, h2⟩ := q_kdin hS.1.1 (by omega) h3
    have := hS.1.1.2.1 a h1 h2
    omega
theorem q_on32 {n : Int} (h0 : 0 ≤ n) : n.toNat.toInt32 = Int32.ofInt n := by
  show Int32.ofNat n.toNat = _
  rw [← Int32.ofInt_eq_ofNat]
  congr 1
  omega
theorem q_r_alen (C : q_Cx p s m args cd cc own nL Ts D cA z H00 L xs) {a : Int} (hd : decode cc pc = .ok (.arraylength, 1)) (hk : 12 ≤ q_kd M a) (k : q_Wt p l e R s m args below meth cd nL D cA z H00 L xs Q (pc + 1) lv (.inl (q_ln M a) :: st) M c t) : q_Wt p l e R s m args below meth cd nL D cA z H00 L xs Q pc lv (.inr (.inr a) :: st) M c t := by
  intro H locs ls hS hl hlo hso hR
  obtain ⟨h20, hl0, hl1⟩ := q_kd20 hS hk
  have hk2 := k H locs ls hS hl hlo ⟨by show q_i32 _; unfold q_i32; omega, hso.2⟩ hR
  show W p l e R s m args below meth cd H locs c t Q (F0 m pc ls (q_er z a :: st.map (q_ev z)))
  by_cases h3 : a = -3
  · subst h3
    obtain ⟨scr, g1, g2, g3, g4, g5⟩ := C.2.2.2.2.2.2.1
    rw [q_er_m3]
    refine W.alen (n := Int32.ofInt (q_ln M (-3))) C.1 C.2.1 (cell := scr) (by rw [hS.2.1 _ C.2.2.2.2.2.2.2]; exact g1) g2 ?_ rfl rfl hd hk2
    rw [g4, hS.2.2.1.1]
    show Int32.ofNat L = _
    rw [← Int32.ofInt_eq_ofNat]
  · obtain ⟨h0, hc⟩ := q_cellA hS hk h3
    obtain ⟨ty, hty⟩ := q_arrE C ⟨hk, h20⟩
    rw [q_er_pos h0]
    refine W.alen (n := Int32.ofInt (q_ln M a)) C.1 C.2.1 hc (hty _ _) ?_ rfl rfl hd hk2
    rw [arrV_size, q_on32 hl0]
theorem q_ne3 (hS : q_St D cA z H00 L xs M H locs) {a : Int} (h : q_kd M a ≠ 14) : a ≠ -3 := by
  intro e
  rw [e, hS.1.1.2.2.2.1.1] at h
  exact h rfl
theorem q_r_iaload (C : q_Cx p s m args cd cc own nL Ts D cA z H00 L xs) {a i : Int} (hd : decode cc pc = .ok (.iaload, 1)) (hk : q_kd M a = 14) (h0 : 0 ≤ i) (h1 : i < q_ln M a) (k : q_Wt p l e R s m args below meth cd nL D cA z H00 L xs Q (pc + 1) lv (.inl (q_nm M a i) :: st) M c t) : q_Wt p l e R s m args below meth cd nL D cA z H00 L xs Q pc lv (.inl i :: .inr (.inr a) :: st) M c t := by
  intro H locs ls hS hl hlo hso hR
  have hi : q_i32 i := hso.1
  have hrg := hS.1.1.2.2.2.2.2 a i
  rw [hk] at hrg
  have hk2 := k H locs ls hS hl hlo ⟨by show q_i32 _; unfold q_inr at hrg; simpa using hrg, hso.2.2⟩ hR
  show W p l e R s m args below meth cd H locs c t Q (F0 m pc ls (.int (Int32.ofInt i) :: q_er z a :: st.map (q_ev z)))
  by_cases h3 : a = -3
  · subst h3
    obtain ⟨scr, g1, g2, g3, g4, g5⟩ := C.2.2.2.2.2.2.1
    obtain ⟨hL, hL2⟩ := hS.2.2.1
    have hx := q_in32 h0 h1 hi
    rw [q_er_m3]
    refine W.iald (v := q_ev z (.inl (q_nm M (-3) i))) C.1 C.2.1 (cell := scr) (by rw [hS.2.1 _ C.2.2.2.2.2.2.2]; exact g1) g2 g3 (by rw [g4]; rw [hL] at hx; exact hx) ?_ rfl rfl hd hk2
    rw [q_nc32 h0 hi, g5 _ (by omega), hL2 _ (by omega), show ((i.toNat : Nat) : Int) = i by omega]
    rfl
  · obtain ⟨ha, hc⟩ := q_cellA hS (a := a) (by omega) h3
    rw [q_er_pos ha]
    have hx := q_in32 h0 h1 hi
    refine W.iald (v := q_ev z (.inl (q_nm M a i))) C.1 C.2.1 hc (by rw [hk]; exact (q_arrT C (i := 2) rfl).1 _ _) (fun q => by cases q) (by rw [arrV_size]; exact hx) ?_ rfl rfl hd hk2
    rw [q_nc32 h0 hi, arrV_read _ _ (by omega)]
    unfold q_sv
    rw [show ((i.toNat : Nat) : Int) = i by omega]
    simp [hk, q_ev]
theorem q_r_baload (C : q_Cx p s m args cd cc own nL Ts D cA z H00 L xs) {a i : Int} (hd : decode cc pc = .ok (.baload, 1)) (hk : q_kd M a = 12) (h0 : 0 ≤ i) (h1 : i < q_ln M a) (k : q_Wt p l e R s m args below meth cd nL D cA z H00 L xs Q (pc + 1) lv (.inl (q_nm M a i) :: st) M c t) : q_Wt p l e R s m args below meth cd nL D cA z H00 L xs Q pc lv (.inl i :: .inr (.inr a) :: st) M c t := by
  intro H locs ls hS hl hlo hso hR
  have hi : q_i32 i := hso.1
  have hrg := hS.1.1.2.2.2.2.2 a i
  rw [hk] at hrg
  have hk2 := k H locs ls hS hl hlo ⟨by show q_i32 _; unfold q_inr at hrg; unfold q_i32; simp at hrg; omega, hso.2.2⟩ hR
  show W p l e R s m args below meth cd H locs c t Q (F0 m pc ls (.int (Int32.ofInt i) :: q_er z a :: st.map (q_ev z)))
  obtain ⟨ha, hc⟩ := q_cellA hS (a := a) (by omega) (q_ne3 hS (by omega))
  rw [q_er_pos ha]
  have hx := q_in32 h0 h1 hi
  refine W.bald (v := q_ev z (.inl (q_nm M a i))) C.1 C.2.1 hc (by rw [hk]; exact (q_arrT C (i := 0) rfl).1 _ _) (fun q => by cases q) (by rw [arrV_size]; exact hx) ?_ rfl rfl hd hk2
  rw [q_nc32 h0 hi, arrV_read _ _ (by omega)]
  unfold q_sv
  rw [show ((i.toNat : Nat) : Int) = i by omega]
  simp [hk, q_ev]
theorem q_r_zaload (C : q_Cx p s m args cd cc own nL Ts D cA z H00 L xs) {a i : Int} (hd : decode cc pc = .ok (.baload, 1)) (hk : q_kd M a = 16) (h0 : 0 ≤ i) (h1 : i < q_ln M a) (k : q_Wt p l e R s m args below meth cd nL D cA z H00 L xs Q (pc + 1) lv (.inl (q_nm M a i) :: st) M c t) : q_Wt p l e R s m args below meth cd nL D cA z H00 L xs Q pc lv (.inl i :: .inr (.inr a) :: st) M c t := by
  intro H locs ls hS hl hlo hso hR
  have hi : q_i32 i := hso.1
  have hrg := hS.1.1.2.2.2.2.2 a i
  rw [hk] at hrg
  have hk2 := k H locs ls hS hl hlo ⟨by show q_i32 _; unfold q_inr at hrg; unfold q_i32; simp at hrg; omega, hso.2.2⟩ hR
  show W p l e R s m args below meth cd H locs c t Q (F0 m pc ls (.int (Int32.ofInt i) :: q_er z a :: st.map (q_ev z)))
  obtain ⟨ha, hc⟩ := q_cellA hS (a := a) (by omega) (q_ne3 hS (by omega))
  rw [q_er_pos ha]
  have hx := q_in32 h0 h1 hi
  refine W.zald (v := q_ev z (.inl (q_nm M a i))) C.1 C.2.1 hc (by rw [hk]; exact (q_arrT C (i := 4) rfl).1 _ _) (fun q => by cases q) (by rw [arrV_size]; exact hx) ?_ rfl rfl hd hk2
  rw [q_nc32 h0 hi, arrV_read _ _ (by omega)]
  unfold q_sv
  rw [show ((i.toNat : Nat) : Int) = i by omega]
  simp [hk, q_ev]
theorem q_r_caload (C : q_Cx p s m args cd cc own nL Ts D cA z H00 L xs) {a i : Int} (hd : decode cc pc = .ok (.caload, 1)) (hk : q_kd M a = 13) (h0 : 0 ≤ i) (h1 : i < q_ln M a) (k : q_Wt p l e R s m args below meth cd nL D cA z H00 L xs Q (pc + 1) lv (.inl (q_nm M a i) :: st) M c t) : q_Wt p l e R s m args below meth cd nL D cA z H00 L xs Q pc lv (.inl i :: .inr (.inr a) :: st) M c t := by
  intro H locs ls hS hl hlo hso hR
  have hi : q_i32 i := hso.1
  have hrg := hS.1.1.2.2.2.2.2 a i
  rw [hk] at hrg
  have hk2 := k H locs ls hS hl hlo ⟨by show q_i32 _; unfold q_inr at hrg; unfold q_i32; simp at hrg; omega, hso.2.2⟩ hR
  show W p l e R s m args below meth cd H locs c t Q (F0 m pc ls (.int (Int32.ofInt i) :: q_er z a :: st.map (q_ev z)))
  obtain ⟨ha, hc⟩ := q_cellA hS (a := a) (by omega) (q_ne3 hS (by omega))
  rw [q_er_pos ha]
  have hx := q_in32 h0 h1 hi
  refine W.cald (v := q_ev z (.inl (q_nm M a i))) C.1 C.2.1 hc (by rw [hk]; exact (q_arrT C (i := 1) rfl).1 _ _) (fun q => by cases q) (by rw [arrV_size]; exact hx) ?_ rfl rfl hd hk2
  rw [q_nc32 h0 hi, arrV_read _ _ (by omega)]
  unfold q_sv
  rw [show ((i.toNat : Nat) : Int) = i by omega]
  simp [hk, q_ev]
theorem q_r_laload (C : q_Cx p s m args cd cc own nL Ts D cA z H00 L xs) {a i : Int} (hd : decode cc pc = .ok (.laload, 1)) (hk : q_kd M a = 15) (h0 : 0 ≤ i) (h1 : i < q_ln M a) (k : q_Wt p l e R s m args below meth cd nL D cA z H00 L xs Q (pc + 1) lv (.inr (.inl (q_nm M a i)) :: st) M c t) : q_Wt p l e R s m args below meth cd nL D cA z H00 L xs Q pc lv (.inl i :: .inr (.inr a) :: st) M c t := by
  intro H locs ls hS hl hlo hso hR
  have hi : q_i32 i := hso.1
  have hrg := hS.1.1.2.2.2.2.2 a i
  rw [hk] at hrg
  have hk2 := k H locs ls hS hl hlo ⟨by show q_i64 _; unfold q_inr at hrg; simpa using hrg, hso.2.2⟩ hR
  show W p l e R s m args below meth cd H locs c t Q (F0 m pc ls (.int (Int32.ofInt i) :: q_er z a :: st.map (q_ev z)))
  obtain ⟨ha, hc⟩ := q_cellA hS (a := a) (by omega) (q_ne3 hS (by omega))
  rw [q_er_pos ha]
  have hx := q_in32 h0 h1 hi
  refine W.lald (v := q_ev z (.inr (.inl (q_nm M a i)))) C.1 C.2.1 hc (by rw [hk]; exact (q_arrT C (i := 3) rfl).1 _ _) (fun q => by cases q) (by rw [arrV_size]; exact hx) ?_ rfl rfl hd hk2
  rw [q_nc32 h0 hi, arrV_read _ _ (by omega)]
  unfold q_sv
  rw [show ((i.toNat : Nat) : Int) = i by omega]
  simp [hk, q_ev]
theorem q_r_aaload (C : q_Cx p s m args cd cc own nL Ts D cA z H00 L xs) {a i : Int} (hd : decode cc pc = .ok (.aaload, 1)) (hk : 17 ≤ q_kd M a ∧ q_kd M a ≤ 20) (h0 : 0 ≤ i) (h1 : i < q_ln M a) (k : q_Wt p l e R s m args below meth cd nL D cA z H00 L xs Q (pc + 1) lv (.inr (.inr (q_rf M a i)) :: st) M c t) : q_Wt p l e R s m args below meth cd nL D cA z H00 L xs Q pc lv (.inl i :: .inr (.inr a) :: st) M c t := by
  intro H locs ls hS hl hlo hso hR
  have hi : q_i32 i := hso.1
  have hrf := hS.1.1.2.2.2.2.1 a i
  have hk2 := k H locs ls hS hl hlo ⟨by show (-3 : Int) ≤ _; omega, hso.2.2⟩ hR
  show W p l e R s m args below meth cd H locs c t Q (F0 m pc ls (.int (Int32.ofInt i) :: q_er z a :: st.map (q_ev z)))
  obtain ⟨ha, hc⟩ := q_cellA hS (a := a) (by omega) (q_ne3 hS (by omega))
  rw [q_er_pos ha]
  have hx := q_in32 h0 h1 hi
  obtain ⟨ty, hty, hr⟩ := q_arrR C hk
  refine W.aald (v := q_ev z (.inr (.inr (q_rf M a i)))) C.1 C.2.1 hc (hty _ _) hr (fun q => by cases q) (by rw [arrV_size]; exact hx) ?_ rfl rfl hd hk2
  rw [q_nc32 h0 hi, arrV_read _ _ (by omega)]
  unfold q_sv
  rw [show ((i.toNat : Nat) : Int) = i by omega, if_neg (by omega), if_neg (by omega), if_pos hk.1]
  rfl
theorem q_locs {locs : List Loc} {b a i : Nat} (h : ∀ l ∈ locs, b ≤ l.base) (ha : b ≤ a) : ∀ l ∈ locs ++ [⟨a, i⟩], b ≤ l.base := by
  intro l hl
  rcases List.mem_append.mp hl with h1 | h1
  · exact h l h1
  · rw [List.mem_singleton.mp h1]; exact ha
theorem q_St_wn (hS : q_St D cA z H00 L xs M H locs) {H' : Heap} {locs' : List Loc} {a i v : Int} (ha : 0 ≤ a) (hR : q_Rep D cA z (q_wn M a i v) H') (ho : ∀ q : Nat, q ≠ z.1 + a.toNat → H'[q]? = H[q]?) (hl : ∀ l ∈ locs', z.1 ≤ l.base) : q_St D cA z H00 L xs (q_wn M a i v) H' locs' := by
  refine ⟨hR, fun q hq => by rw [ho q (by omega)]; exact hS.2.1 q hq, ⟨hS.2.2.1.1, fun j hj => ?_⟩, hl⟩
  rw [q_wn_nm, if_neg (by omega)]
  exact hS.2.2.1.2 j hj
theorem q_St_wr (hS : q_St D cA z H00 L xs M H locs) {H' : Heap} {locs' : List Loc} {a i v : Int} (ha : 0 ≤ a) (hR : q_Rep D cA z (q_wr M a i v) H') (ho : ∀ q : Nat, q ≠ z.1 + a.toNat → H'[q]? = H[q]?) (hl : ∀ l ∈ locs', z.1 ≤ l.base) : q_St D cA z H00 L xs (q_wr M a i v) H' locs' :=
  ⟨hR, fun q hq => by rw [ho q (by omega)]; exact hS.2.1 q hq, hS.2.2.1, hl⟩
theorem q_nb (x : Int) : narrow .byte (.int (Int32.ofInt x)) = .int (Int32.ofInt (w8 x)) := by
  show Value.int ((Int32.ofInt x).toInt8.toInt32) = _
  rw [q_i2b]
theorem q_nz {x : Int} (h : q_i32 x) : narrow .boolean (.int (Int32.ofInt x)) = .int (Int32.ofInt (x % 2)) := by
  show Value.int (Int32.ofInt x &&& 1) = _
  congr 1
  apply Int32.toBitVec.inj
  rw [Int32.toBitVec_and]
  have h1 : (1 : Int32).toBitVec = 1#32 := rfl
  rw [h1, Int32.toBitVec_ofInt, Int32.toBitVec_ofInt]
  apply BitVec.eq_of_toNat_eq
  rw [BitVec.toNat_and, BitVec.toNat_ofInt, BitVec.toNat_ofInt]
  simp only [BitVec.toNat_ofNat]
  rw [show (1 % 2 ^ 32) = 1 from rfl, Nat.and_one_is_mod]
  omega
theorem q_nc {x : Int} (h : q_i32 x) : narrow .char (.int (Int32.ofInt x)) = .int (Int32.ofInt (x % 65536)) := by
  show Value.int (((Int32.ofInt x).toUInt32 % 65536).toInt32) = _
  congr 1
  apply Int32.toBitVec.inj
  show ((Int32.ofInt x).toBitVec % 65536#32) = _
  rw [Int32.toBitVec_ofInt, Int32.toBitVec_ofInt]
  apply BitVec.eq_of_toNat_eq
  rw [BitVec.toNat_umod, BitVec.toNat_ofInt, BitVec.toNat_ofInt]
  simp only [BitVec.toNat_ofNat]
  rw [show (65536 % 2 ^ 32 : Nat) = 65536 from rfl, show ((2 ^ 32 : Nat) : Int) = 4294967296 from rfl]
  omega
theorem q_r_iastore (C : q_Cx p s m args cd cc own nL Ts D cA z H00 L xs) {a i x : Int} (hd : decode cc pc = .ok (.iastore, 1)) (ha : 0 ≤ a) (hk : q_kd M a = 14) (h0 : 0 ≤ i) (h1 : i < q_ln M a) (k : q_Wt p l e R s m args below meth cd nL D cA z H00 L xs Q (pc + 1) lv st (q_wn M a i (x)) c t) : q_Wt p l e R s m args below meth cd nL D cA z H00 L xs Q pc lv (.inl x :: .inl i :: .inr (.inr a) :: st) M c t := by
  intro H locs ls hS hl hlo hso hR
  have hi : q_i32 i := hso.2.1
  have hx0 := hso.1
  show W p l e R s m args below meth cd H locs c t Q (F0 m pc ls (q_ev z (.inl x) :: .int (Int32.ofInt i) :: q_er z a :: st.map (q_ev z)))
  obtain ⟨-, hc⟩ := q_cellA hS (a := a) (by omega) (by omega)
  rw [q_er_pos ha]
  have hx := q_in32 h0 h1 hi
  refine W.iast C.1 C.2.1 hc (by rw [hk]; exact (q_arrT C (i := 2) rfl).1 _ _) (fun q => by cases q) (by rw [arrV_size]; exact hx) rfl rfl hd (fun H' e1 e2 e3 => ?_)
  rw [q_nc32 h0 hi] at e1
  exact k H' _ ls (q_St_wn hS ha (q_put_arr hS.1 ha (by omega) h0 (by rw [hk]; exact hx0) (by rw [hk]; rfl) e2 e3 e1) e3 (q_locs hS.2.2.2 (by omega))) hl hlo hso.2.2.2 hR
theorem q_r_bastore (C : q_Cx p s m args cd cc own nL Ts D cA z H00 L xs) {a i x : Int} (hd : decode cc pc = .ok (.bastore, 1)) (ha : 0 ≤ a) (hk : q_kd M a = 12) (h0 : 0 ≤ i) (h1 : i < q_ln M a) (k : q_Wt p l e R s m args below meth cd nL D cA z H00 L xs Q (pc + 1) lv st (q_wn M a i (w8 x)) c t) : q_Wt p l e R s m args below meth cd nL D cA z H00 L xs Q pc lv (.inl x :: .inl i :: .inr (.inr a) :: st) M c t := by
  intro H locs ls hS hl hlo hso hR
  have hi : q_i32 i := hso.2.1
  have hx0 := hso.1
  show W p l e R s m args below meth cd H locs c t Q (F0 m pc ls (q_ev z (.inl x) :: .int (Int32.ofInt i) :: q_er z a :: st.map (q_ev z)))
  obtain ⟨-, hc⟩ := q_cellA hS (a := a) (by omega) (by omega)
  rw [q_er_pos ha]
  have hx := q_in32 h0 h1 hi
  refine W.bast C.1 C.2.1 hc (by rw [hk]; exact (q_arrT C (i := 0) rfl).1 _ _) (fun q => by cases q) (by rw [arrV_size]; exact hx) rfl rfl hd (fun H' e1 e2 e3 => ?_)
  rw [q_nc32 h0 hi] at e1
  exact k H' _ ls (q_St_wn hS ha (q_put_arr hS.1 ha (by omega) h0 (by rw [hk]; show -128 ≤ w8 x ∧ w8 x ≤ 127; unfold w8; omega) (by rw [hk]; exact q_nb x) e2 e3 e1) e3 (q_locs hS.2.2.2 (by omega))) hl hlo hso.2.2.2 hR
theorem q_r_zastore (C : q_Cx p s m args cd cc own nL Ts D cA z H00 L xs) {a i x : Int} (hd : decode cc pc = .ok (.bastore, 1)) (ha : 0 ≤ a) (hk : q_kd M a = 16) (h0 : 0 ≤ i) (h1 : i < q_ln M a) (k : q_Wt p l e R s m args below meth cd nL D cA z H00 L xs Q (pc + 1) lv st (q_wn M a i (x % 2)) c t) : q_Wt p l e R s m args below meth cd nL D cA z H00 L xs Q pc lv (.inl x :: .inl i :: .inr (.inr a) :: st) M c t := by
  intro H locs ls hS hl hlo hso hR
  have hi : q_i32 i := hso.2.1
  have hx0 := hso.1
  show W p l e R s m args below meth cd H locs c t Q (F0 m pc ls (q_ev z (.inl x) :: .int (Int32.ofInt i) :: q_er z a :: st.map (q_ev z)))
  obtain ⟨-, hc⟩ := q_cellA hS (a := a) (by omega) (by omega)
  rw [q_er_pos ha]
  have hx := q_in32 h0 h1 hi
  refine W.zast C.1 C.2.1 hc (by rw [hk]; exact (q_arrT C (i := 4) rfl).1 _ _) (fun q => by cases q) (by rw [arrV_size]; exact hx) rfl rfl hd (fun H' e1 e2 e3 => ?_)
  rw [q_nc32 h0 hi] at e1
  exact k H' _ ls (q_St_wn hS ha (q_put_arr hS.1 ha (by omega) h0 (by rw [hk]; show 0 ≤ x % 2 ∧ x % 2 ≤ 1; omega) (by rw [hk]; exact q_nz hx0) e2 e3 e1) e3 (q_locs hS.2.2.2 (by omega))) hl hlo hso.2.2.2 hR
theorem q_r_castore (C : q_Cx p s m args cd cc own nL Ts D cA z H00 L xs) {a i x : Int} (hd : decode cc pc = .ok (.castore, 1)) (ha : 0 ≤ a) (hk : q_kd M a = 13) (h0 : 0 ≤ i) (h1 : i < q_ln M a) (k : q_Wt p l e R s m args below meth cd nL D cA z H00 L xs Q (pc + 1) lv st (q_wn M a i (x % 65536)) c t) : q_Wt p l e R s m args below meth cd nL D cA z H00 L xs Q pc lv (.inl x :: .inl i :: .inr (.inr a) :: st) M c t := by
  intro H locs ls hS hl hlo hso hR
  have hi : q_i32 i := hso.2.1
  have hx0 := hso.1
  show W p l e R s m args below meth cd H locs c t Q (F0 m pc ls (q_ev z (.inl x) :: .int (Int32.ofInt i) :: q_er z a :: st.map (q_ev z)))
  obtain ⟨-, hc⟩ := q_cellA hS (a := a) (by omega) (by omega)
  rw [q_er_pos ha]
  have hx := q_in32 h0 h1 hi
  refine W.cast C.1 C.2.1 hc (by rw [hk]; exact (q_arrT C (i := 1) rfl).1 _ _) (fun q => by cases q) (by rw [arrV_size]; exact hx) rfl rfl hd (fun H' e1 e2 e3 => ?_)
  rw [q_nc32 h0 hi] at e1
  exact k H' _ ls (q_St_wn hS ha (q_put_arr hS.1 ha (by omega) h0 (by rw [hk]; show 0 ≤ x % 65536 ∧ x % 65536 ≤ 65535; omega) (by rw [hk]; exact q_nc hx0) e2 e3 e1) e3 (q_locs hS.2.2.2 (by omega))) hl hlo hso.2.2.2 hR
theorem q_r_lastore (C : q_Cx p s m args cd cc own nL Ts D cA z H00 L xs) {a i x : Int} (hd : decode cc pc = .ok (.lastore, 1)) (ha : 0 ≤ a) (hk : q_kd M a = 15) (h0 : 0 ≤ i) (h1 : i < q_ln M a) (k : q_Wt p l e R s m args below meth cd nL D cA z H00 L xs Q (pc + 1) lv st (q_wn M a i (x)) c t) : q_Wt p l e R s m args below meth cd nL D cA z H00 L xs Q pc lv (.inr (.inl x) :: .inl i :: .inr (.inr a) :: st) M c t := by
  intro H locs ls hS hl hlo hso hR
  have hi : q_i32 i := hso.2.1
  have hx0 := hso.1
  show W p l e R s m args below meth cd H locs c t Q (F0 m pc ls (q_ev z (.inr (.inl x)) :: .int (Int32.ofInt i) :: q_er z a :: st.map (q_ev z)))
  obtain ⟨-, hc⟩ := q_cellA hS (a := a) (by omega) (by omega)
  rw [q_er_pos ha]
  have hx := q_in32 h0 h1 hi
  refine W.last C.1 C.2.1 hc (by rw [hk]; exact (q_arrT C (i := 3) rfl).1 _ _) (fun q => by cases q) (by rw [arrV_size]; exact hx) rfl rfl hd (fun H' e1 e2 e3 => ?_)
  rw [q_nc32 h0 hi] at e1
  exact k H' _ ls (q_St_wn hS ha (q_put_arr hS.1 ha (by omega) h0 (by rw [hk]; exact hx0) (by rw [hk]; rfl) e2 e3 e1) e3 (q_locs hS.2.2.2 (by omega))) hl hlo hso.2.2.2 hR
end
