section
variable {p : Program} {l : Launch} {e : Env} {R : Room} {s : State} {m : MethodId} {args : Array Value} {below : List Frame} {meth : Method} {cd : Code} {cc : ByteArray} {own : String} {nL : Nat} {Ts : List Cond} {D : va_G} {cA : Nat → ClassId} {z : Nat × Nat × Nat} {H00 : Heap} {L : Nat} {xs : Nat → Int32} {Q : State → Prop}
variable {pc : Nat} {lv : qLv} {st : List qV} {M : qM} {c t : Nat}
variable {H : Heap} {locs : List Loc}
/-- a state that holds the memory M; SP what is known of the text constant -/
def q_Wd (D : va_G) (cA : Nat → ClassId) (z : Nat × Nat × Nat) (H00 : Heap) (L : Nat) (xs : Nat → Int32) (SP : State → Prop) (M : qM) (U : State) : Prop := q_St D cA z H00 L xs M U.heap [] ∧ va_K D vwCl (q_tys cA) U ∧ va_X z.2.2 L xs U H00 ∧ z.2.2 < z.1 ∧ SP U
def q_Pc (D : va_G) (cA : Nat → ClassId) (z : Nat × Nat × Nat) (H00 : Heap) (L : Nat) (xs : Nat → Int32) (SP : State → Prop) (as : List qV) (M : qM) : Array Value → State → Prop := fun v U => v = (as.map (q_ev z)).toArray ∧ q_Wd D cA z H00 L xs SP M U
/-- what is answered: 0 nothing, 1, 4 an int, 2 a long, 3 a reference -/
def q_ro (z : Nat × Nat × Nat) (r : Nat) (v : Int) : Option Value := match r with
  | 0 => none
  | 2 => some (.long (Int64.ofInt v))
  | 3 => some (q_er z v)
  | _ => some (.int (Int32.ofInt v))
def q_rok (r : Nat) (v : Int) : Prop := match r with
  | 0 => True
  | 2 => q_i64 v
  | 3 => -3 ≤ v
  | _ => q_i32 v
def q_Qc (D : va_G) (cA : Nat → ClassId) (z : Nat × Nat × Nat) (H00 : Heap) (L : Nat) (xs : Nat → Int32) (r : Nat) (P : Int → qM → Prop) : Array Value → State → Outcome → State → Prop := fun _ _ o u => ∃ (v : Int) (M' : qM), o = .returned (q_ro z r v) ∧ q_rok r v ∧ P v M' ∧ q_St D cA z H00 L xs M' u.heap []
theorem q_ro_tag {z : Nat × Nat × Nat} {r : Nat} {v : Int} {st : List qV} : (q_ro z r v).toList ++ st.map (q_ev z) = (q_tag r v st).map (q_ev z) := by
  rcases r with _ | _ | _ | _ | r <;> rfl
theorem q_rok_tag {r : Nat} {v : Int} {st : List qV} (h : q_rok r v) (hs : q_oks st) : q_oks (q_tag r v st) := by
  rcases r with _ | _ | _ | _ | r
  · exact hs
  · exact ⟨h, hs⟩
  · exact ⟨h, hs⟩
  · exact ⟨h, hs⟩
  · exact ⟨h, hs⟩
theorem q_St_locs {locs' : List Loc} (h : q_St D cA z H00 L xs M H locs) (hl : ∀ l ∈ locs', z.1 ≤ l.base) : q_St D cA z H00 L xs M H locs' := ⟨h.1, h.2.1, h.2.2.1, hl⟩
/-- behind a call -/
theorem q_behind {mc ms r : Nat} {st0 : List Value} {rst : List qV} {P' : Int → qM → Prop} {a : Array Value} {ls : Array Slot} (hr : va_Run p l e R s m args below meth cd H locs c t mc ms (F0 m pc ls st0) (rst.map (q_ev z)) (q_Qc D cA z H00 L xs r P' a) (fun q => z.1 ≤ q)) (hS : q_St D cA z H00 L xs M H locs) (hl : lv_has ls nL (q_elv z lv)) (hlo : q_okl lv) (hso : q_oks rst) (hR2 : c + mc ≤ R.cells ∧ t + ms ≤ R.slots)
    (k : ∀ v M', P' v M' → q_Wt p l e R s m args below meth cd nL D cA z H00 L xs Q (pc + 3) lv (q_tag r v rst) M' (c + mc) (t + ms)) : W p l e R s m args below meth cd H locs c t Q (F0 m pc ls st0) := by
  intro T hT X
  obtain ⟨v0, st₀, u, T', L', h0, X', hL, e1, e2, ⟨v, M', hv, hok, hP, hSt⟩, go⟩ := hr T hT X
  have hv0 : v0 = q_ro z r v := Outcome.returned.inj hv
  subst hv0
  have hSt2 : q_St D cA z H00 L xs M' T'.heap (locs ++ L') := by
    rw [e1]
    exact q_St_locs hSt (fun q hq => by
      rcases List.mem_append.mp hq with h | h
      · exact hS.2.2.2 q h
      · exact hL q h)
  obtain ⟨t2, a1, b1⟩ := k v M' hP T'.heap (locs ++ L') ls hSt2 hl hlo (q_rok_tag hok hso) hR2 T' rfl X'
  refine ⟨t2, go t2 ?_, b1⟩
  have he := q_ro_tag (z := z) (r := r) (v := v) (st := rst)
  show Steps p.tables e below (T'.setTop { F0 m pc ls st0 with pc := pc + 3, stack := (q_ro z r v).toList ++ rst.map (q_ev z) }) t2
  rw [he]
  exact a1
end
