section
theorem i01 {a : Int} (h : a = 0 ∨ a = 1) : q_i32 a := by unfold q_i32; omega
/-- all calls, but for the two that take a text's rules -/
theorem all_but {L : Nat} {X : Int → Int} {D : Nat} (h6 : ∀ a0 : Int, q_i32 a0 → q_ok L X (INV L X) (D + 30) 102 185 [.inl a0]) (h7 : q_ok L X (INV L X) (D + 30) 103 186 []) : q_okA L X (INV L X) (D + 30) :=
  ⟨ok_feed', ok_end', ok_word', ok_row', ok_has', h6, h7, ok_fault', ok_takings', ok_taking', ok_weight', ok_tell', ok_say', ok_hear', ok_letter', ok_ways', fun a b c x y z => ok_odds' a b c x y (i01 z), fun a b c e x y z v => ok_told' a b c e x y z (i01 v), ok_meant', ok_mostly', ok_never', ok_note', ok_undo', ok_recall', ok_thrown', ok_better', ok_kinds', fun a x => ok_far' a (i01 x), fun a x => ok_frame' a (i01 x), ok_apart', ok_next', fun a b c x y z => ok_reals' a b c x y (i01 z), fun a b c e x y z v => ok_wish' a b c e x y z (i01 v), fun a b c e x y z v => ok_lean' a b c e x y z (i01 v), ok_image', ok_octet', ok_on'⟩
theorem law_but {L : Nat} {xs : Nat → Int32} {D : Nat} (hL : L ≤ 3584) (h6 : ∀ a0 : Int, q_i32 a0 → q_ok L (fun j => (xs j.toNat).toInt) (INV L (fun j => (xs j.toNat).toInt)) (D + 30) 102 185 [.inl a0]) (h7 : q_ok L (fun j => (xs j.toNat).toInt) (INV L (fun j => (xs j.toNat).toInt)) (D + 30) 103 186 []) : q_WP q_Pr (D + 31) 264 [.inr (.inr (-3))] (q_M0 L xs) (fun v _ => v = 1) :=
  law_all (d := D + 27) hL hI_all h0_all (all_but h6 h7)
end
