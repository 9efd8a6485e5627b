section
theorem q_AOA_moved {u U : State} (hvm : u.vm.Alike U.vm) (h : (Cond.arrayOver (.array .int)).before #[] u = true) : (Cond.arrayOver (.array .int)).before #[] U = true := by
  obtain ⟨comp, c, k, h1, h2, h3, h4, h5⟩ := arrayOverA_spec h
  obtain ⟨k', hk', he⟩ := hvm.2.2 _ _ h3
  have hi : (U.vm.classes.findIdx? fun (x : Class) => match x.kind with | .array component _ => component == comp | _ => false) = some c := by
    have hbe : U.vm.bare = u.vm.bare := by first | exact hvm.bare_eq | exact hvm.bare_eq.symm
    refine (va_idx_bare U.vm comp).symm.trans ?_
    rw [hbe]
    exact (va_idx_bare u.vm comp).trans h2
  have hkind : k'.kind = .array comp (.array .int) := by rw [he]; exact h4
  have f1 : U.vm.findClass (FieldType.array .int).toString = some comp := by rw [hvm.findClass]; exact h1
  have f2 : U.vm.findClass ("[" ++ (FieldType.array .int).toString) = some c := by rw [hvm.findClass]; exact h5
  unfold Cond.before Cond.holds
  simp only [Cond.value]
  rw [f1, Option.bind_some]
  refine (congrArg (fun o : Option Nat => (o.bind (fun c => (U.vm.classes[c]?).map fun (k : Class) => match k.kind with | .array _ ty => decide (ty = FieldType.array .int) && decide (U.vm.findClass ("[" ++ (FieldType.array .int).toString) = some c) | _ => false) == some true)) hi).trans ?_
  simp [hk', hkind, f2]
theorem q_bad_warm {s U : State} (hW : s.WarmedH U.vm) : ∀ w ∈ q_bad, va_Nw w s → va_Nw w U := by
  intro w hw h
  unfold q_bad at hw
  simp only [List.mem_cons, List.not_mem_nil, or_false] at hw
  rcases hw with rfl | rfl | rfl | rfl | rfl | rfl | rfl | rfl | rfl | rfl | rfl
  · exact va_Nw.warmM hW h
  · exact va_AO.moved hW.alike h
  · exact va_AO.moved hW.alike h
  · exact va_Nw.warmM hW h
  · exact va_Nw.warmM hW h
  · exact va_AO.moved hW.alike h
  · exact va_Nw.warmM hW h
  · exact va_Nw.warmM hW h
  · exact va_Nw.warmC hW h
  · exact q_AOA_moved hW.alike h
  · exact va_Nw.warmM hW h
theorem q_bad_use {s : State} {A : Array Value} : ∀ w ∈ q_bad, va_Nw w s → w.before A s = true := by
  intro w hw h
  unfold q_bad at hw
  simp only [List.mem_cons, List.not_mem_nil, or_false] at hw
  rcases hw with rfl | rfl | rfl | rfl | rfl | rfl | rfl | rfl | rfl | rfl | rfl
  · exact va_Nw.use rfl h
  · exact h
  · exact h
  · exact va_Nw.use rfl h
  · exact va_Nw.use rfl h
  · exact h
  · exact va_Nw.use rfl h
  · exact va_Nw.use rfl h
  · exact va_Nw.use rfl h
  · exact h
  · exact va_Nw.use rfl h
theorem q_bad_same {s U : State} (hv : s.vm = U.vm) : ∀ w ∈ q_bad, va_Nw w s → va_Nw w U := by
  intro w hw h
  unfold q_bad at hw
  simp only [List.mem_cons, List.not_mem_nil, or_false] at hw
  rcases hw with rfl | rfl | rfl | rfl | rfl | rfl | rfl | rfl | rfl | rfl | rfl
  · exact va_Nw.same rfl hv h
  · exact va_AO.moved (u := s) (U := U) (by rw [hv]; exact Vm.Alike.refl _) h
  · exact va_AO.moved (u := s) (U := U) (by rw [hv]; exact Vm.Alike.refl _) h
  · exact va_Nw.same rfl hv h
  · exact va_Nw.same rfl hv h
  · exact va_AO.moved (u := s) (U := U) (by rw [hv]; exact Vm.Alike.refl _) h
  · exact va_Nw.same rfl hv h
  · exact va_Nw.same rfl hv h
  · exact va_Nw.same rfl hv h
  · exact q_AOA_moved (u := s) (U := U) (by rw [hv]; exact Vm.Alike.refl _) h
  · exact va_Nw.same rfl hv h
def q_SP (z : Nat × Nat × Nat) (H00 : Heap) (U : State) : Prop := (∃ va, q_Sy z.2.1 va (fun q => z.1 ≤ q) U H00) ∧ ∀ w ∈ q_bad, va_Nw w U
theorem q_SP_warm {z : Nat × Nat × Nat} {H00 : Heap} (s U : State) (hW : s.WarmedH U.vm) (h : q_SP z H00 s) : q_SP z H00 U := ⟨h.1.imp fun va g => g.warm hW, fun w hw => q_bad_warm hW w hw (h.2 w hw)⟩
theorem q_SP_calling {z : Nat × Nat × Nat} {H00 : Heap} (U : State) (g : JFrame) (mk : MethodId) (a : Array Value) (h : q_SP z H00 U) : q_SP z H00 (U.calling g mk a) := ⟨h.1.imp fun va k => q_Sy.calling g mk a k, fun w hw => q_bad_same (s := U) (U := U.calling g mk a) rfl w hw (h.2 w hw)⟩
theorem qs_good2 {ws : List Cond} {w1 : Cond} (h : w1 ∈ q_tbl) (hT : ∀ w ∈ q_tbl, w ∈ ws) : GoodIn ws (w1 :: q_tbl) := fun w hw => (List.mem_cons.mp hw).elim (fun e => by rw [e]; exact ⟨hT _ h, (q_good 0 h).2⟩) (fun e => ⟨hT _ e, (q_good 0 e).2⟩)
theorem q_txt_r : ∀ j, j < 117 → (0 ≤ q_txt.getD j 0 ∧ q_txt.getD j 0 ≤ 127) := by decide +kernel
set_option maxRecDepth 100000 in
theorem q_strOf {p : Program} {l : Launch} {e : Env} {R : Room} {s : State} {m : MethodId} {args : Array Value} {below : List Frame} {meth : Method} {cd : Code} {cc : ByteArray} {own : String} {nL : Nat} {Ts : List Cond} {D : va_G} {cA : Nat → ClassId} {z : Nat × Nat × Nat} {H00 : Heap} {L : Nat} {xs : Nat → Int32} {Q : State → Prop} {mt : qMt}
    (C : q_Cx p s m args cd cc own nL Ts D cA z H00 L xs) (hz : H00.size = z.1) (hT : ∀ w ∈ q_tbl, w ∈ Ts) (hSP : q_SP z H00 s) (hfr : 9 ≤ R.frames) (hlo9 : 264 ≤ R.locals) (hS9 : q_okS own mt.2.2.2.1) : q_Str p l e R s m args below meth cd cc nL D cA z H00 L xs Q mt := by
  intro ix cl hcl pc lv st M c t hd hcat
  have hts := C.2.2.2.2.1
  obtain ⟨⟨va, hSy⟩, -⟩ := hSP
  have atH : ∀ {H : Heap} {locs : List Loc}, q_St D cA z H00 L xs M H locs → q_Sy z.2.1 va (fun q => z.1 ≤ q) s H := fun hS => hSy.kept (fun a _ h2 => hS.2.1 a (Nat.lt_of_not_le h2))
  refine ⟨fun h1 k => ?_, fun h1 i hi0 hi1 k => ?_⟩
  · obtain ⟨hrt, hlk⟩ := (hS9 ix cl hcl).1 h1
    rw [hrt] at k
    intro H locs ls hS hl hlo hso hR
    have hSyH := atH hS
    obtain ⟨cellB, hB1, hB2, hB3, -⟩ := id hSyH.2.1
    refine q_rcall (va_runV (As := []) (rest := st.map (q_ev z)) ⟨C.1, C.2.1, C.2.2.1, C.2.2.2.1, hts⟩ (qs_c_len l z.2.1 va (fun q => z.1 ≤ q)) ⟨callB_of 0 hts (qs_good2 (q_mem_rfl 2 239 rfl rfl : Cond.code qs_y_len prog_16_method_54_code 1 (some (FieldType.int)) ∈ q_tbl) hT) rfl rfl rfl (hts _ (hT _ (q_ckg_in (x := (1, 16)) (w := Cond.initialized "java/lang/String") (by decide +kernel)))) (hts _ (hT _ hlk)) ⟨by decide, by decide, by decide +kernel⟩ ⟨by show 1 + 1 ≤ R.frames; omega, by show 8 + (1 + 11) + 20 ≤ R.locals; omega⟩, hts _ (hT _ (q_ckg_in (x := (2, 237)) (w := Cond.instanceMethod qs_y_len) (by decide +kernel))), hts _ (hT _ (q_ckg_in (x := (2, 238)) (w := Cond.selects "java/lang/String" qs_y_len qs_y_len) (by decide +kernel)))⟩ ⟨q_Sc.blind, ⟨cellB, hB1, hB2, hB3⟩, fun U hU hW => ⟨rfl, by rw [hU]; exact hSyH.warm hW⟩⟩ rfl rfl hl.1 rfl (by rw [q_catE]; show 2 * 0 + _ ≤ 8; omega) hd ⟨hR.1, hR.2⟩) ?_
    exact k H locs ls hS hl hlo ⟨by show q_i32 117; unfold q_i32; omega, hso.2⟩ hR
  · obtain ⟨hrt, hlk⟩ := (hS9 ix cl hcl).2 h1
    rw [hrt] at k
    intro H locs ls hS hl hlo hso hR
    have hi32 : q_i32 i := hso.1
    have hSyH := atH hS
    obtain ⟨cellB, hB1, hB2, hB3, -⟩ := id hSyH.2.1
    have hc0 : ¬ Int32.ofInt i < 0 := fun h => by have := (q_lt32 hi32 q_z32).mp h; omega
    have hc1 : Int32.ofInt i < 117 := (q_lt32 (y := 117) hi32 (by unfold q_i32; omega)).mpr hi1
    refine q_rcall (va_runV (As := [.int (Int32.ofInt i)]) (rest := st.map (q_ev z)) ⟨C.1, C.2.1, C.2.2.1, C.2.2.2.1, hts⟩ (qs_c_chr l z.2.1 va (fun q => z.1 ≤ q) (Int32.ofInt i) hc0 hc1) ⟨callB_of 1 hts (qs_good2 (q_mem_rfl 3 9 rfl rfl : Cond.code qs_y_chr prog_16_method_56_code 2 (some (FieldType.char)) ∈ q_tbl) hT) rfl rfl rfl (hts _ (hT _ (q_ckg_in (x := (1, 16)) (w := Cond.initialized "java/lang/String") (by decide +kernel)))) (hts _ (hT _ hlk)) ⟨by decide, by decide, by decide +kernel⟩ ⟨by show 3 + 1 ≤ R.frames; omega, by show 8 + (2 + 11) + 64 ≤ R.locals; omega⟩, hts _ (hT _ (q_ckg_in (x := (3, 7)) (w := Cond.instanceMethod qs_y_chr) (by decide +kernel))), hts _ (hT _ (q_ckg_in (x := (3, 8)) (w := Cond.selects "java/lang/String" qs_y_chr qs_y_chr) (by decide +kernel)))⟩ ⟨q_Sc.blind, ⟨cellB, hB1, hB2, hB3⟩, fun U hU hW => ⟨rfl, by rw [hU]; exact hSyH.warm hW⟩⟩ rfl rfl hl.1 rfl (by rw [q_catE]; show 2 * 0 + _ ≤ 8; omega) hd ⟨hR.1, hR.2⟩) ?_
    rw [q_nc32 hi0 hi32]
    have hr9 := q_txt_r i.toNat (by omega)
    exact k H locs ls hS hl hlo ⟨by show q_i32 (q_txt.getD i.toNat 0); unfold q_i32; omega, hso.2.2⟩ hR
/-- ALL METHODS BUT THE LAW, any depth -/
theorem q_allM (l : Launch) (D : va_G) (cA : Nat → ClassId) (z : Nat × Nat × Nat) (H00 : Heap) (hz : H00.size = z.1) (L : Nat) (xs : Nat → Int32) (d : Nat) : q_All l D cA z H00 L xs (q_SP z H00) q_y q_nl q_ws q_Pr 264 d := by
  refine q_all (bad := q_bad) (qb := q_b) (qr := q_rtt) (fun s args h w hw => q_bad_use w hw (h.2 w hw)) q_SP_warm q_SP_calling (fun y hy => (q_QA y hy).1) (fun y hy => ⟨_, rfl⟩) (fun y hy => (q_QA y hy).2.2.1) (fun y hy s meth hs hn => ?_) (fun y hy p e R s m args below meth cd Q C hs h1 h2 => ?_) d
  · obtain ⟨⟨va, h1⟩, -⟩ := hs
    exact (q_QA y hy).2.2.2 z s meth h1.1 hn
  · exact q_strOf C hz (fun w h => List.mem_append_left _ (List.mem_cons_of_mem _ h)) hs h1 h2 (q_QA y hy).2.1
end
