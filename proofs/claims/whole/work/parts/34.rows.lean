section
variable {p : Program} {l : Launch} {e : Env} {R : Room} {s : State} {m : MethodId} {args : Array Value} {below : List Frame} {meth : Method} {cd : Code} {cc : ByteArray} {own : String} {nL : Nat} {Ts : List Cond} {D : va_G} {cA : Nat → ClassId} {z : Nat × Nat × Nat} {H00 : Heap} {L : Nat} {xs : Nat → Int32} {Q : State → Prop}
variable {pc : Nat} {lv : qLv} {st : List qV} {M : qM} {c t : Nat}
variable {H : Heap} {locs : List Loc}
def q_clT (ci : Nat) : Nat → FieldType := match ci with
  | 0 => tyX0 | 1 => tyX1 | 2 => tyX2 | 3 => tyX3 | 4 => tyX4 | 5 => tyX5 | 6 => tyX6 | 7 => tyX7 | 8 => tyX8 | 9 => tyX9 | 10 => tyX10 | _ => tyX11
/-- what is known of class ci: its name, its fields, their words -/
def q_Cl (Ts : List Cond) (ci : Nat) (N : Nat) (Cn : String) (T : u_T) : Prop := ci < 12 ∧ vwCl[ci]? = some (Cn, T, N) ∧ q_ns ci = N ∧ (∀ w ∈ u_ws Cn T N, w ∈ Ts) ∧ (∀ k, k < N → parseFieldDescriptor (T k).2.2.1 = some (q_clT ci k)) ∧ (∀ a, a < N → ∀ b, b < N → a ≠ b → (T a).2.1 ≠ (T b).2.1) ∧ ∀ k, k < N → ((q_fr ci).getD k false = false → q_clT ci k = .int) ∧ ((q_fr ci).getD k false = true → (q_clT ci k).isReference = true)
theorem q_r_getf (C : q_Cx p s m args cd cc own nL Ts D cA z H00 L xs) {a : Int} {ci N k ix : Nat} {Cn : String} {T : u_T} (hC : q_Cl Ts ci N Cn T) (hkN : k < N) (hlink : (Cond.fieldLink own ix (T k).1 (T k).2.1 (T k).2.2.1).before args s = true) (hd : decode cc pc = .ok (.getfield ix, 3)) (hk : q_kd M a = ci) {v : qV} (hv : q_sv z M a k = q_ev z v) (hvo : q_wf M → q_okv v) (kk : q_Wt p l e R s m args below meth cd nL D cA z H00 L xs Q (pc + 3) lv (v :: st) M c t) : q_Wt p l e R s m args below meth cd nL D cA z H00 L xs Q pc lv (.inr (.inr a) :: st) M c t := by
  intro H locs ls hS hl hlo hso hR
  obtain ⟨hci, hcl, hN, hin, -⟩ := hC
  obtain ⟨ha, hob⟩ := q_cellO hS (a := a) (by omega)
  rw [hk] at hob
  obtain ⟨cell, q1, q2, q3, q4⟩ := hob
  obtain ⟨hSl, hfc, kC, hkC, hkind⟩ := C.2.2.2.2.2.1.1 ci _ hcl
  obtain ⟨cf, kf, fi, f, hi, hsl⟩ := hSl k hkN
  have hk2 := kk H locs ls hS hl hlo ⟨hvo hS.1.1, hso.2⟩ hR
  show W p l e R s m args below meth cd H locs c t Q (F0 m pc ls (q_er z a :: st.map (q_ev z)))
  rw [q_er_pos ha]
  refine W.getf C.1 C.2.1 C.2.2.2.1 hlink hi (u_facts hfc hkC (u_lays C.2.2.2.2.1 hin hkN) hi).1 q1 (by rw [q3]; exact fun h => by cases h) (v := q_ev z v) ?_ rfl rfl hd hk2
  rw [hsl]
  have := q4 k (show k < q_ns ci by omega)
  rw [Int.toNat_natCast] at this
  rw [this, hv]
theorem q_ap (C : q_Cx p s m args cd cc own nL Ts D cA z H00 L xs) {ci N : Nat} {Cn : String} {T : u_T} (hC : q_Cl Ts ci N Cn T) : ∀ x y, x < N → y < N → x ≠ y → (D.2 ci) x ≠ (D.2 ci) y := by
  obtain ⟨hci, hcl, hN, hin, hty, hnm, -⟩ := hC
  exact va_apart (own := own) C.2.2.2.2.1 hin (q_clT ci) hty hnm C.2.2.2.2.2.1 hcl
theorem q_putf (C : q_Cx p s m args cd cc own nL Ts D cA z H00 L xs) {a : Int} {ci N k ix : Nat} {Cn : String} {T : u_T} (hC : q_Cl Ts ci N Cn T) (hkN : k < N) (hlink : (Cond.fieldLink own ix (T k).1 (T k).2.1 (T k).2.2.1).before args s = true) (hfin : (T k).2.2.2 = false ∨ (meth.name = "<init>" ∧ (T k).1 = own)) (hd : decode cc pc = .ok (.putfield ix, 3)) (hk : q_kd M a = ci) {v : Value} (hn : narrow (q_clT ci k) v = v) (hfit : fits (q_clT ci k) v = true)
    {H : Heap} {locs : List Loc} {ls : Array Slot} (hS : q_St D cA z H00 L xs M H locs) (kk : ∀ (H' : Heap) (locs' : List Loc), H'.size = H.size → (∀ q : Nat, q ≠ z.1 + a.toNat → H'[q]? = H[q]?) → t_OB (z.1 + a.toNat) (D.1 (q_kd M a).toNat) (q_ns (q_kd M a)) (D.2 (q_kd M a).toNat) H' (updV (q_sv z M a) k v) → (∀ l ∈ locs', z.1 ≤ l.base) → W p l e R s m args below meth cd H' locs' c t Q (F0 m (pc + 3) ls (st.map (q_ev z)))) : W p l e R s m args below meth cd H locs c t Q (F0 m pc ls (v :: q_er z a :: st.map (q_ev z))) := by
  have hap := q_ap C hC
  obtain ⟨hci, hcl, hN, hin, hty, hnm, -⟩ := hC
  obtain ⟨ha, hob⟩ := q_cellO hS (a := a) (by omega)
  rw [hk] at hob
  obtain ⟨cell, q1, q2, q3, q4⟩ := hob
  rw [Int.toNat_natCast] at q2 q4
  rw [hN] at q4
  obtain ⟨hSl, hfc, kC, hkC, hkind⟩ := C.2.2.2.2.2.1.1 ci _ hcl
  obtain ⟨cf, kf, fi, f, hi, hsl⟩ := hSl k hkN
  have hst := (u_facts hfc hkC (u_lays C.2.2.2.2.1 hin hkN) hi).1
  have hlay := C.2.2.2.2.1 _ (hin _ (u_in_lay hkN))
  unfold u_lay at hlay
  rw [q_er_pos ha]
  have fin : ∀ H' : Heap, H'[z.1 + a.toNat]? = some (cell.setSlot f.slot v) → H'.size = H.size → (∀ q, q ≠ z.1 + a.toNat → H'[q]? = H[q]?) → W p l e R s m args below meth cd H' (locs ++ [⟨z.1 + a.toNat, f.slot⟩]) c t Q (F0 m (pc + 3) ls (st.map (q_ev z))) := by
    intro H' e1 e2 e3
    refine kk H' _ e2 e3 ?_ (q_locs hS.2.2.2 (by omega))
    rw [hk, Int.toNat_natCast, hN]
    rw [hsl] at e1
    exact ⟨_, e1, q2, q3, t_set q4 hap hkN v⟩
  rcases Bool.eq_false_or_eq_true (T k).2.2.2 with hf | hf
  · rw [if_pos hf] at hlay
    obtain ⟨hmn, hdecl⟩ := hfin.resolve_left (by rw [hf]; decide)
    have hcf : m.cls = cf := by
      obtain ⟨_, _, c', _, _, _, -, -, hf', -, -, -, hown2, -⟩ := Cond.laysFinal_spec hlay
      have e1 : c' = cf := by have := hi.symm.trans hf'; simp at this; exact this.1.symm
      rw [hdecl] at hown2
      rw [← e1]; exact Option.some.inj (C.2.2.2.1.symm.trans hown2)
    have h6 := u_fits hfc hkC hkind (Or.inr hlay) hi (hty k hkN) hn hfit
    exact W.putFinK C.1 C.2.1 C.2.2.2.1 hlink hi hst hcf hmn (by rw [q2]; exact h6) q1 q3 (by rw [hsl]; exact k2_hasslot (q4 k hkN)) rfl rfl hd fin
  · rw [if_neg (by rw [hf]; decide)] at hlay
    have h6 := u_store hfc hkC hkind hlay hi (hty k hkN) hn hfit
    exact W.putK C.1 C.2.1 (f := f) ⟨C.2.2.2.1, hlink, ⟨_, _, _, hi⟩, hst⟩ (by rw [q2]; exact h6) q1 q3 (by rw [hsl]; exact k2_hasslot (q4 k hkN)) rfl rfl hd fin
theorem q_r_putf_i (C : q_Cx p s m args cd cc own nL Ts D cA z H00 L xs) {a v : Int} {ci N k ix : Nat} {Cn : String} {T : u_T} (hC : q_Cl Ts ci N Cn T) (hkN : k < N) (hlink : (Cond.fieldLink own ix (T k).1 (T k).2.1 (T k).2.2.1).before args s = true) (hfin : (T k).2.2.2 = false ∨ (meth.name = "<init>" ∧ (T k).1 = own)) (hfr : (q_fr ci).getD k false = false) (hd : decode cc pc = .ok (.putfield ix, 3)) (hk : q_kd M a = ci) (kk : q_Wt p l e R s m args below meth cd nL D cA z H00 L xs Q (pc + 3) lv st (q_wn M a k v) c t) : q_Wt p l e R s m args below meth cd nL D cA z H00 L xs Q pc lv (.inl v :: .inr (.inr a) :: st) M c t := by
  intro H locs ls hS hl hlo hso hR
  have hC2 := hC
  obtain ⟨hci, hcl, hN, hin, hty, hnm, hfr2⟩ := hC2
  have ht : q_clT ci k = .int := (hfr2 k hkN).1 hfr
  obtain ⟨ha, -⟩ := q_cellO hS (a := a) (by omega)
  refine q_putf C hC hkN hlink hfin hd hk (v := .int (Int32.ofInt v)) (by rw [ht]; rfl) (by rw [ht]; rfl) hS (fun H' locs' e1 e2 e3 e4 => ?_)
  refine kk H' locs' ls (q_St_wn hS ha (q_put_fld hS.1 ha (by omega) (q_wn_top ..) (fun _ => q_wn_kd ..) (fun _ => q_wn_ln ..) (q_wf_wn hS.1.1 ?_) (fun b hb => q_sv_wn hb) (q_sv_wn_f (by omega) (by rw [hk]; exact hfr)) e1 e2 e3) e2 e4) hl hlo hso.2.2 hR
  rw [hk]
  have h1 : q_i32 v := hso.1
  unfold q_inr
  rw [if_neg (by omega), if_neg (by omega), if_neg (by omega), if_neg (by omega)]
  exact h1
theorem q_er_nar {z : Nat × Nat × Nat} {v : Int} {ty : FieldType} (h : ty.isReference = true) : narrow ty (q_er z v) = q_er z v ∧ fits ty (q_er z v) = true := by
  rcases q_er_cases z v with e | ⟨a, e⟩ <;> rw [e] <;> cases ty <;> first | exact ⟨rfl, rfl⟩ | (cases h)
theorem q_r_putf_r (C : q_Cx p s m args cd cc own nL Ts D cA z H00 L xs) {a v : Int} {ci N k ix : Nat} {Cn : String} {T : u_T} (hC : q_Cl Ts ci N Cn T) (hkN : k < N) (hlink : (Cond.fieldLink own ix (T k).1 (T k).2.1 (T k).2.2.1).before args s = true) (hfin : (T k).2.2.2 = false ∨ (meth.name = "<init>" ∧ (T k).1 = own)) (hfr : (q_fr ci).getD k false = true) (hd : decode cc pc = .ok (.putfield ix, 3)) (hk : q_kd M a = ci) (hv : -1 ≤ v) (kk : q_Wt p l e R s m args below meth cd nL D cA z H00 L xs Q (pc + 3) lv st (q_wr M a k v) c t) : q_Wt p l e R s m args below meth cd nL D cA z H00 L xs Q pc lv (.inr (.inr v) :: .inr (.inr a) :: st) M c t := by
  intro H locs ls hS hl hlo hso hR
  have hC2 := hC
  obtain ⟨hci, hcl, hN, hin, hty, hnm, hfr2⟩ := hC2
  have ht := q_er_nar (z := z) (v := v) ((hfr2 k hkN).2 hfr)
  obtain ⟨ha, -⟩ := q_cellO hS (a := a) (by omega)
  refine q_putf C hC hkN hlink hfin hd hk (v := q_er z v) ht.1 ht.2 hS (fun H' locs' e1 e2 e3 e4 => ?_)
  exact kk H' locs' ls (q_St_wr hS ha (q_put_fld hS.1 ha (by omega) (q_wr_top ..) (fun _ => q_wr_kd ..) (fun _ => q_wr_ln ..) (q_wf_wr hS.1.1 hv) (fun b hb => q_sv_wr hb) (q_sv_wr_f (by omega) (by rw [hk]; exact hfr)) e1 e2 e3) e2 e4) hl hlo hso.2.2 hR
theorem q_St_al (hS : q_St D cA z H00 L xs M H locs) {H' : Heap} {k n : Int} (hR : q_Rep D cA z (q_al M k n) H') (ho : ∀ q : Nat, q < H.size → H'[q]? = H[q]?) : q_St D cA z H00 L xs (q_al M k n) H' locs := by
  have h0 := hS.1.1.1
  have hz := hS.1.2.1
  refine ⟨hR, fun q hq => by rw [ho q (by omega)]; exact hS.2.1 q hq, ⟨?_, fun j hj => ?_⟩, hS.2.2.2⟩
  · rw [q_al_ln, if_neg (by omega)]
    exact hS.2.2.1.1
  · rw [q_al_nm, if_neg (by omega)]
    exact hS.2.2.1.2 j hj
theorem q_okl_same (h : q_okl lv) : q_okl lv := h
theorem q_r_new (C : q_Cx p s m args cd cc own nL Ts D cA z H00 L xs) {ci N ix : Nat} {Cn : String} {T : u_T} (hC : q_Cl Ts ci N Cn T) (hcl2 : (Cond.classLink own ix Cn).before args s = true) (hinst : (Cond.instantiable Cn N).before args s = true) (hini : (Cond.initialized Cn).before args s = true) (hd : decode cc pc = .ok (.new ix, 3)) (hr : c + 1 ≤ R.cells ∧ t + q_ns ci ≤ R.slots) (kk : q_Wt p l e R s m args below meth cd nL D cA z H00 L xs Q (pc + 3) lv (.inr (.inr (q_top M)) :: st) (q_al M ci (Int.ofNat (q_ns ci))) (c + 1) (t + q_ns ci)) : q_Wt p l e R s m args below meth cd nL D cA z H00 L xs Q pc lv st M c t := by
  intro H locs ls hS hl hlo hso hR
  obtain ⟨hci, hcl, hN, hin, hty, hnm, hfr2⟩ := hC
  have hKn := C.2.2.2.2.2.1.1 ci _ hcl
  have h0 := hS.1.1.1
  have hz := hS.1.2.1
  rw [hN] at hr kk
  refine W.newcK C.1 C.2.1 C.2.2.2.1 hcl2 hinst hini (g := F0 m pc ls (st.map (q_ev z))) rfl hd hr.1 hr.2 hKn.2.1 hz fun H1 kC hkC e1 z1 o1 => ?_
  have hN2 : N ≤ 82 := by
    have : ci = 0 ∨ ci = 1 ∨ ci = 2 ∨ ci = 3 ∨ ci = 4 ∨ ci = 5 ∨ ci = 6 ∨ ci = 7 ∨ ci = 8 ∨ ci = 9 ∨ ci = 10 ∨ ci = 11 := by omega
    rw [← hN]
    rcases this with rfl | rfl | rfl | rfl | rfl | rfl | rfl | rfl | rfl | rfl | rfl | rfl <;> decide
  have hRep : q_Rep D cA z (q_al M ci (Int.ofNat N)) H1 := by
    refine q_new hS.1 (by omega) ⟨Int.natCast_nonneg N, by show ((N : Nat) : Int) ≤ 1000000; omega⟩ (by omega) (fun q hq => o1 q (by omega)) ?_
    have e0 := u_born (q_clT ci) C.2.2.2.2.1 hin hKn hkC e1 hty
    unfold q_co
    rw [q_al_kd, if_pos rfl, if_pos (by omega), Int.toNat_natCast, hN]
    refine e0.to (fun j hj => ?_)
    unfold q_sv
    rw [q_al_kd, if_pos rfl, if_pos (by omega), q_al_rf, if_pos rfl, q_al_nm, if_pos rfl]
    rcases Bool.eq_false_or_eq_true ((q_fr ci).getD j false) with hf | hf
    · rw [if_pos hf]
      have := (hfr2 j hj).2 hf
      show defaultValue (q_clT ci j) = .null
      generalize q_clT ci j = ty at this ⊢
      cases ty <;> first | rfl | (cases this)
    · rw [if_neg (by rw [hf]; decide), (hfr2 j hj).1 hf]
      rfl
  have hk2 := kk H1 locs ls (q_St_al hS hRep (fun q hq => o1 q (by omega))) hl hlo ⟨by show (-3 : Int) ≤ q_top M; omega, hso⟩ hr
  rw [List.map_cons] at hk2
  have he : q_ev z (.inr (.inr (q_top M))) = .ref (z.1 + (q_top M).toNat) := q_er_pos h0
  rw [he] at hk2
  exact hk2
end
