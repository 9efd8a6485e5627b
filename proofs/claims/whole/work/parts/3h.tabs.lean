section
def q_okS (own : String) (G : Nat → Option qCl) : Prop := ∀ ix cl, G ix = some cl → (cl.1 = 1002 → cl.2.2.2.1 = 1 ∧ Cond.methodLink own ix qs_y_len ∈ q_tbl) ∧ (cl.1 = 1003 → cl.2.2.2.1 = 1 ∧ Cond.methodLink own ix qs_y_chr ∈ q_tbl)
def q_ckS (own : String) (e : Nat × qCl) (x : List (Nat × Nat)) : Bool := (!(Nat.beq e.2.1 1002) || (Nat.beq e.2.2.2.2.1 1 && q_ckg (q_ix x 0) (Cond.methodLink own e.1 qs_y_len))) && (!(Nat.beq e.2.1 1003) || (Nat.beq e.2.2.2.2.1 1 && q_ckg (q_ix x 0) (Cond.methodLink own e.1 qs_y_chr)))
theorem q_okS_of {own : String} {LX : List ((Nat × qCl) × List (Nat × Nat))} (hck : LX.all (fun e => q_ckS own e.1 e.2) = true) : q_okS own (q_as (LX.map Prod.fst)) := by
  intro ix cl h
  obtain ⟨x, hx⟩ := q_as_x h
  have h1 := List.all_eq_true.mp hck _ hx
  unfold q_ckS at h1
  simp only [Bool.and_eq_true, Bool.or_eq_true, Bool.not_eq_true'] at h1
  refine ⟨fun h0 => ?_, fun h0 => ?_⟩
  · have h2 := h1.1
    rw [h0] at h2
    obtain ⟨k1, k2⟩ := h2.resolve_left (fun hb => by cases hb)
    exact ⟨Nat.eq_of_beq_eq_true k1, q_ckg_in k2⟩
  · have h2 := h1.2
    rw [h0] at h2
    obtain ⟨k1, k2⟩ := h2.resolve_left (fun hb => by cases hb)
    exact ⟨Nat.eq_of_beq_eq_true k1, q_ckg_in k2⟩
set_option maxRecDepth 100000 in
theorem q_hS0 : q_okS "SlipDrawer$Machine" q_G0 := q_okS_of (LX := q_gx0) (by decide +kernel)
set_option maxRecDepth 100000 in
theorem q_hS1 : q_okS "SlipDrawer$Meant" q_G1 := q_okS_of (LX := q_gx1) (by decide +kernel)
set_option maxRecDepth 100000 in
theorem q_hS2 : q_okS "SlipDrawer$Notes" q_G2 := q_okS_of (LX := q_gx2) (by decide +kernel)
set_option maxRecDepth 100000 in
theorem q_hS3 : q_okS "SlipDrawer$Picture" q_G3 := q_okS_of (LX := q_gx3) (by decide +kernel)
set_option maxRecDepth 100000 in
theorem q_hS4 : q_okS "SlipDrawer$Reader" q_G4 := q_okS_of (LX := q_gx4) (by decide +kernel)
set_option maxRecDepth 100000 in
theorem q_hS5 : q_okS "SlipDrawer$Script" q_G5 := q_okS_of (LX := q_gx5) (by decide +kernel)
set_option maxRecDepth 100000 in
theorem q_hS6 : q_okS "SlipDrawer$Speech" q_G6 := q_okS_of (LX := q_gx6) (by decide +kernel)
set_option maxRecDepth 100000 in
theorem q_hS7 : q_okS "SlipDrawer$Tape" q_G7 := q_okS_of (LX := q_gx7) (by decide +kernel)
set_option maxRecDepth 100000 in
theorem q_hS8 : q_okS "SlipDrawer$Tokens" q_G8 := q_okS_of (LX := q_gx8) (by decide +kernel)
set_option maxRecDepth 100000 in
theorem q_hS9 : q_okS "SlipDrawer$Words" q_G9 := q_okS_of (LX := q_gx9) (by decide +kernel)
set_option maxRecDepth 100000 in
theorem q_hS10 : q_okS "SlipDrawer" q_G10 := q_okS_of (LX := q_gx10) (by decide +kernel)
set_option maxRecDepth 100000 in
theorem q_hS11 : q_okS "SlipDrawerModel" q_G11 := q_okS_of (LX := q_gx11) (by decide +kernel)
set_option maxRecDepth 100000 in
theorem q_hS12 : q_okS "java/lang/Math" q_G12 := q_okS_of (LX := q_gx12) (by decide +kernel)
set_option maxRecDepth 100000 in
theorem q_hS13 : q_okS "java/util/Arrays" q_G13 := q_okS_of (LX := q_gx13) (by decide +kernel)
set_option maxRecDepth 100000 in
theorem q_hS14 : q_okS "SlipDrawerLaw" q_G14 := q_okS_of (LX := q_gx14) (by decide +kernel)
/-- what q_all wants of method y -/
def q_Q (y : Nat) : Prop := plainFor (q_y y) = true ∧ q_okS (q_y y).cls (q_Pr y).2.2.2.1 ∧ q_okR (q_rtt y) (q_Pr y).2.2.2.2.2.2.1 = true ∧ ∀ (z : Nat × Nat × Nat) (s : State) (meth : Method), vk_R "SlipDrawer$Tokens" 66 q_text z.2.1 s → meth.name = (q_y y).name → q_Tab (q_ws y ++ q_bad) (q_y y).cls (q_b y) (q_nl y) z s meth q_y q_b q_nl q_rtt q_ws q_Pr 264 (q_Pr y)
set_option maxRecDepth 100000 in
theorem q_Q0 : q_Q 0 := ⟨by decide +kernel, q_hS0, rfl, fun z s meth hS hnm => q_mkTab (q_in_ws 0) (own := "SlipDrawer$Machine") (cc := prog_2_method_1_code) (nL := 1) (cx := 0) (mt := q_m0) q_hW (q_hF0 (q_in_ws 0)) (fun _ => hnm) (q_hK0 (q_in_ws 0) hS) (q_hN0 (q_in_ws 0)) (q_hG0 (q_in_ws 0)) (q_hP0 (q_in_ws 0)) q_d0 (fun h => absurd rfl h)⟩
set_option maxRecDepth 100000 in
theorem q_Q1 : q_Q 1 := ⟨by decide +kernel, q_hS0, rfl, fun z s meth hS hnm => q_mkTab (q_in_ws 1) (own := "SlipDrawer$Machine") (cc := prog_2_method_2_code) (nL := 9) (cx := 0) (mt := q_m1) q_hW (q_hF0 (q_in_ws 1)) (fun h => Bool.noConfusion h) (q_hK0 (q_in_ws 1) hS) (q_hN0 (q_in_ws 1)) (q_hG0 (q_in_ws 1)) (q_hP0 (q_in_ws 1)) q_d1 (fun h => absurd rfl h)⟩
set_option maxRecDepth 100000 in
theorem q_Q2 : q_Q 2 := ⟨by decide +kernel, q_hS0, rfl, fun z s meth hS hnm => q_mkTab (q_in_ws 2) (own := "SlipDrawer$Machine") (cc := prog_2_method_3_code) (nL := 1) (cx := 0) (mt := q_m2) q_hW (q_hF0 (q_in_ws 2)) (fun h => Bool.noConfusion h) (q_hK0 (q_in_ws 2) hS) (q_hN0 (q_in_ws 2)) (q_hG0 (q_in_ws 2)) (q_hP0 (q_in_ws 2)) q_d2 (fun h => absurd rfl h)⟩
set_option maxRecDepth 100000 in
theorem q_Q3 : q_Q 3 := ⟨by decide +kernel, q_hS0, rfl, fun z s meth hS hnm => q_mkTab (q_in_ws 3) (own := "SlipDrawer$Machine") (cc := prog_2_method_4_code) (nL := 2) (cx := 0) (mt := q_m3) q_hW (q_hF0 (q_in_ws 3)) (fun h => Bool.noConfusion h) (q_hK0 (q_in_ws 3) hS) (q_hN0 (q_in_ws 3)) (q_hG0 (q_in_ws 3)) (q_hP0 (q_in_ws 3)) q_d3 (fun h => absurd rfl h)⟩
set_option maxRecDepth 100000 in
theorem q_Q4 : q_Q 4 := ⟨by decide +kernel, q_hS0, rfl, fun z s meth hS hnm => q_mkTab (q_in_ws 4) (own := "SlipDrawer$Machine") (cc := prog_2_method_5_code) (nL := 5) (cx := 0) (mt := q_m4) q_hW (q_hF0 (q_in_ws 4)) (fun h => Bool.noConfusion h) (q_hK0 (q_in_ws 4) hS) (q_hN0 (q_in_ws 4)) (q_hG0 (q_in_ws 4)) (q_hP0 (q_in_ws 4)) q_d4 (fun h => absurd rfl h)⟩
set_option maxRecDepth 100000 in
theorem q_Q5 : q_Q 5 := ⟨by decide +kernel, q_hS1, rfl, fun z s meth hS hnm => q_mkTab (q_in_ws 5) (own := "SlipDrawer$Meant") (cc := prog_3_method_1_code) (nL := 5) (cx := 0) (mt := q_m5) q_hW (q_hF1 (q_in_ws 5)) (fun _ => hnm) (q_hK1 (q_in_ws 5) hS) (q_hN1 (q_in_ws 5)) (q_hG1 (q_in_ws 5)) (q_hP1 (q_in_ws 5)) q_d5 (fun h => absurd rfl h)⟩
set_option maxRecDepth 100000 in
theorem q_Q6 : q_Q 6 := ⟨by decide +kernel, q_hS1, rfl, fun z s meth hS hnm => q_mkTab (q_in_ws 6) (own := "SlipDrawer$Meant") (cc := prog_3_method_2_code) (nL := 2) (cx := 0) (mt := q_m6) q_hW (q_hF1 (q_in_ws 6)) (fun h => Bool.noConfusion h) (q_hK1 (q_in_ws 6) hS) (q_hN1 (q_in_ws 6)) (q_hG1 (q_in_ws 6)) (q_hP1 (q_in_ws 6)) q_d6 (fun h => absurd rfl h)⟩
set_option maxRecDepth 100000 in
theorem q_Q7 : q_Q 7 := ⟨by decide +kernel, q_hS1, rfl, fun z s meth hS hnm => q_mkTab (q_in_ws 7) (own := "SlipDrawer$Meant") (cc := prog_3_method_3_code) (nL := 2) (cx := 0) (mt := q_m7) q_hW (q_hF1 (q_in_ws 7)) (fun h => Bool.noConfusion h) (q_hK1 (q_in_ws 7) hS) (q_hN1 (q_in_ws 7)) (q_hG1 (q_in_ws 7)) (q_hP1 (q_in_ws 7)) q_d7 (fun h => absurd rfl h)⟩
set_option maxRecDepth 100000 in
theorem q_Q8 : q_Q 8 := ⟨by decide +kernel, q_hS1, rfl, fun z s meth hS hnm => q_mkTab (q_in_ws 8) (own := "SlipDrawer$Meant") (cc := prog_3_method_4_code) (nL := 5) (cx := 0) (mt := q_m8) q_hW (q_hF1 (q_in_ws 8)) (fun h => Bool.noConfusion h) (q_hK1 (q_in_ws 8) hS) (q_hN1 (q_in_ws 8)) (q_hG1 (q_in_ws 8)) (q_hP1 (q_in_ws 8)) q_d8 (fun h => absurd rfl h)⟩
set_option maxRecDepth 100000 in
theorem q_Q9 : q_Q 9 := ⟨by decide +kernel, q_hS1, rfl, fun z s meth hS hnm => q_mkTab (q_in_ws 9) (own := "SlipDrawer$Meant") (cc := prog_3_method_5_code) (nL := 5) (cx := 0) (mt := q_m9) q_hW (q_hF1 (q_in_ws 9)) (fun h => Bool.noConfusion h) (q_hK1 (q_in_ws 9) hS) (q_hN1 (q_in_ws 9)) (q_hG1 (q_in_ws 9)) (q_hP1 (q_in_ws 9)) q_d9 (fun h => absurd rfl h)⟩
set_option maxRecDepth 100000 in
theorem q_Q10 : q_Q 10 := ⟨by decide +kernel, q_hS1, rfl, fun z s meth hS hnm => q_mkTab (q_in_ws 10) (own := "SlipDrawer$Meant") (cc := prog_3_method_6_code) (nL := 4) (cx := 0) (mt := q_m10) q_hW (q_hF1 (q_in_ws 10)) (fun h => Bool.noConfusion h) (q_hK1 (q_in_ws 10) hS) (q_hN1 (q_in_ws 10)) (q_hG1 (q_in_ws 10)) (q_hP1 (q_in_ws 10)) q_d10 (fun h => absurd rfl h)⟩
set_option maxRecDepth 100000 in
theorem q_Q11 : q_Q 11 := ⟨by decide +kernel, q_hS1, rfl, fun z s meth hS hnm => q_mkTab (q_in_ws 11) (own := "SlipDrawer$Meant") (cc := prog_3_method_7_code) (nL := 5) (cx := 0) (mt := q_m11) q_hW (q_hF1 (q_in_ws 11)) (fun h => Bool.noConfusion h) (q_hK1 (q_in_ws 11) hS) (q_hN1 (q_in_ws 11)) (q_hG1 (q_in_ws 11)) (q_hP1 (q_in_ws 11)) q_d11 (fun h => absurd rfl h)⟩
set_option maxRecDepth 100000 in
theorem q_Q12 : q_Q 12 := ⟨by decide +kernel, q_hS1, rfl, fun z s meth hS hnm => q_mkTab (q_in_ws 12) (own := "SlipDrawer$Meant") (cc := prog_3_method_8_code) (nL := 5) (cx := 0) (mt := q_m12) q_hW (q_hF1 (q_in_ws 12)) (fun h => Bool.noConfusion h) (q_hK1 (q_in_ws 12) hS) (q_hN1 (q_in_ws 12)) (q_hG1 (q_in_ws 12)) (q_hP1 (q_in_ws 12)) q_d12 (fun h => absurd rfl h)⟩
set_option maxRecDepth 100000 in
theorem q_Q13 : q_Q 13 := ⟨by decide +kernel, q_hS1, rfl, fun z s meth hS hnm => q_mkTab (q_in_ws 13) (own := "SlipDrawer$Meant") (cc := prog_3_method_9_code) (nL := 3) (cx := 0) (mt := q_m13) q_hW (q_hF1 (q_in_ws 13)) (fun h => Bool.noConfusion h) (q_hK1 (q_in_ws 13) hS) (q_hN1 (q_in_ws 13)) (q_hG1 (q_in_ws 13)) (q_hP1 (q_in_ws 13)) q_d13 (fun h => absurd rfl h)⟩
set_option maxRecDepth 100000 in
theorem q_Q14 : q_Q 14 := ⟨by decide +kernel, q_hS1, rfl, fun z s meth hS hnm => q_mkTab (q_in_ws 14) (own := "SlipDrawer$Meant") (cc := prog_3_method_10_code) (nL := 4) (cx := 0) (mt := q_m14) q_hW (q_hF1 (q_in_ws 14)) (fun h => Bool.noConfusion h) (q_hK1 (q_in_ws 14) hS) (q_hN1 (q_in_ws 14)) (q_hG1 (q_in_ws 14)) (q_hP1 (q_in_ws 14)) q_d14 (fun h => absurd rfl h)⟩
set_option maxRecDepth 100000 in
theorem q_Q15 : q_Q 15 := ⟨by decide +kernel, q_hS1, rfl, fun z s meth hS hnm => q_mkTab (q_in_ws 15) (own := "SlipDrawer$Meant") (cc := prog_3_method_11_code) (nL := 9) (cx := 0) (mt := q_m15) q_hW (q_hF1 (q_in_ws 15)) (fun h => Bool.noConfusion h) (q_hK1 (q_in_ws 15) hS) (q_hN1 (q_in_ws 15)) (q_hG1 (q_in_ws 15)) (q_hP1 (q_in_ws 15)) q_d15 (fun h => absurd rfl h)⟩
set_option maxRecDepth 100000 in
theorem q_Q16 : q_Q 16 := ⟨by decide +kernel, q_hS1, rfl, fun z s meth hS hnm => q_mkTab (q_in_ws 16) (own := "SlipDrawer$Meant") (cc := prog_3_method_12_code) (nL := 5) (cx := 0) (mt := q_m16) q_hW (q_hF1 (q_in_ws 16)) (fun h => Bool.noConfusion h) (q_hK1 (q_in_ws 16) hS) (q_hN1 (q_in_ws 16)) (q_hG1 (q_in_ws 16)) (q_hP1 (q_in_ws 16)) q_d16 (fun h => absurd rfl h)⟩
set_option maxRecDepth 100000 in
theorem q_Q17 : q_Q 17 := ⟨by decide +kernel, q_hS1, rfl, fun z s meth hS hnm => q_mkTab (q_in_ws 17) (own := "SlipDrawer$Meant") (cc := prog_3_method_13_code) (nL := 4) (cx := 0) (mt := q_m17) q_hW (q_hF1 (q_in_ws 17)) (fun h => Bool.noConfusion h) (q_hK1 (q_in_ws 17) hS) (q_hN1 (q_in_ws 17)) (q_hG1 (q_in_ws 17)) (q_hP1 (q_in_ws 17)) q_d17 (fun h => absurd rfl h)⟩
set_option maxRecDepth 100000 in
theorem q_Q18 : q_Q 18 := ⟨by decide +kernel, q_hS1, rfl, fun z s meth hS hnm => q_mkTab (q_in_ws 18) (own := "SlipDrawer$Meant") (cc := prog_3_method_14_code) (nL := 8) (cx := 0) (mt := q_m18) q_hW (q_hF1 (q_in_ws 18)) (fun h => Bool.noConfusion h) (q_hK1 (q_in_ws 18) hS) (q_hN1 (q_in_ws 18)) (q_hG1 (q_in_ws 18)) (q_hP1 (q_in_ws 18)) q_d18 (fun h => absurd rfl h)⟩
set_option maxRecDepth 100000 in
theorem q_Q19 : q_Q 19 := ⟨by decide +kernel, q_hS1, rfl, fun z s meth hS hnm => q_mkTab (q_in_ws 19) (own := "SlipDrawer$Meant") (cc := prog_3_method_15_code) (nL := 9) (cx := 0) (mt := q_m19) q_hW (q_hF1 (q_in_ws 19)) (fun h => Bool.noConfusion h) (q_hK1 (q_in_ws 19) hS) (q_hN1 (q_in_ws 19)) (q_hG1 (q_in_ws 19)) (q_hP1 (q_in_ws 19)) q_d19 (fun h => absurd rfl h)⟩
set_option maxRecDepth 100000 in
theorem q_Q20 : q_Q 20 := ⟨by decide +kernel, q_hS1, rfl, fun z s meth hS hnm => q_mkTab (q_in_ws 20) (own := "SlipDrawer$Meant") (cc := prog_3_method_16_code) (nL := 5) (cx := 0) (mt := q_m20) q_hW (q_hF1 (q_in_ws 20)) (fun h => Bool.noConfusion h) (q_hK1 (q_in_ws 20) hS) (q_hN1 (q_in_ws 20)) (q_hG1 (q_in_ws 20)) (q_hP1 (q_in_ws 20)) q_d20 (fun h => absurd rfl h)⟩
set_option maxRecDepth 100000 in
theorem q_Q21 : q_Q 21 := ⟨by decide +kernel, q_hS1, rfl, fun z s meth hS hnm => q_mkTab (q_in_ws 21) (own := "SlipDrawer$Meant") (cc := prog_3_method_17_code) (nL := 5) (cx := 0) (mt := q_m21) q_hW (q_hF1 (q_in_ws 21)) (fun h => Bool.noConfusion h) (q_hK1 (q_in_ws 21) hS) (q_hN1 (q_in_ws 21)) (q_hG1 (q_in_ws 21)) (q_hP1 (q_in_ws 21)) q_d21 (fun h => absurd rfl h)⟩
set_option maxRecDepth 100000 in
theorem q_Q22 : q_Q 22 := ⟨by decide +kernel, q_hS1, rfl, fun z s meth hS hnm => q_mkTab (q_in_ws 22) (own := "SlipDrawer$Meant") (cc := prog_3_method_18_code) (nL := 7) (cx := 0) (mt := q_m22) q_hW (q_hF1 (q_in_ws 22)) (fun h => Bool.noConfusion h) (q_hK1 (q_in_ws 22) hS) (q_hN1 (q_in_ws 22)) (q_hG1 (q_in_ws 22)) (q_hP1 (q_in_ws 22)) q_d22 (fun h => absurd rfl h)⟩
set_option maxRecDepth 100000 in
theorem q_Q23 : q_Q 23 := ⟨by decide +kernel, q_hS1, rfl, fun z s meth hS hnm => q_mkTab (q_in_ws 23) (own := "SlipDrawer$Meant") (cc := prog_3_method_19_code) (nL := 3) (cx := 0) (mt := q_m23) q_hW (q_hF1 (q_in_ws 23)) (fun h => Bool.noConfusion h) (q_hK1 (q_in_ws 23) hS) (q_hN1 (q_in_ws 23)) (q_hG1 (q_in_ws 23)) (q_hP1 (q_in_ws 23)) q_d23 (fun h => absurd rfl h)⟩
set_option maxRecDepth 100000 in
theorem q_Q24 : q_Q 24 := ⟨by decide +kernel, q_hS1, rfl, fun z s meth hS hnm => q_mkTab (q_in_ws 24) (own := "SlipDrawer$Meant") (cc := prog_3_method_20_code) (nL := 6) (cx := 0) (mt := q_m24) q_hW (q_hF1 (q_in_ws 24)) (fun h => Bool.noConfusion h) (q_hK1 (q_in_ws 24) hS) (q_hN1 (q_in_ws 24)) (q_hG1 (q_in_ws 24)) (q_hP1 (q_in_ws 24)) q_d24 (fun h => absurd rfl h)⟩
set_option maxRecDepth 100000 in
theorem q_Q25 : q_Q 25 := ⟨by decide +kernel, q_hS1, rfl, fun z s meth hS hnm => q_mkTab (q_in_ws 25) (own := "SlipDrawer$Meant") (cc := prog_3_method_21_code) (nL := 7) (cx := 0) (mt := q_m25) q_hW (q_hF1 (q_in_ws 25)) (fun h => Bool.noConfusion h) (q_hK1 (q_in_ws 25) hS) (q_hN1 (q_in_ws 25)) (q_hG1 (q_in_ws 25)) (q_hP1 (q_in_ws 25)) q_d25 (fun h => absurd rfl h)⟩
set_option maxRecDepth 100000 in
theorem q_Q26 : q_Q 26 := ⟨by decide +kernel, q_hS1, rfl, fun z s meth hS hnm => q_mkTab (q_in_ws 26) (own := "SlipDrawer$Meant") (cc := prog_3_method_22_code) (nL := 4) (cx := 0) (mt := q_m26) q_hW (q_hF1 (q_in_ws 26)) (fun h => Bool.noConfusion h) (q_hK1 (q_in_ws 26) hS) (q_hN1 (q_in_ws 26)) (q_hG1 (q_in_ws 26)) (q_hP1 (q_in_ws 26)) q_d26 (fun h => absurd rfl h)⟩
set_option maxRecDepth 100000 in
theorem q_Q27 : q_Q 27 := ⟨by decide +kernel, q_hS1, rfl, fun z s meth hS hnm => q_mkTab (q_in_ws 27) (own := "SlipDrawer$Meant") (cc := prog_3_method_23_code) (nL := 4) (cx := 0) (mt := q_m27) q_hW (q_hF1 (q_in_ws 27)) (fun h => Bool.noConfusion h) (q_hK1 (q_in_ws 27) hS) (q_hN1 (q_in_ws 27)) (q_hG1 (q_in_ws 27)) (q_hP1 (q_in_ws 27)) q_d27 (fun h => absurd rfl h)⟩
set_option maxRecDepth 100000 in
theorem q_Q28 : q_Q 28 := ⟨by decide +kernel, q_hS1, rfl, fun z s meth hS hnm => q_mkTab (q_in_ws 28) (own := "SlipDrawer$Meant") (cc := prog_3_method_24_code) (nL := 5) (cx := 0) (mt := q_m28) q_hW (q_hF1 (q_in_ws 28)) (fun h => Bool.noConfusion h) (q_hK1 (q_in_ws 28) hS) (q_hN1 (q_in_ws 28)) (q_hG1 (q_in_ws 28)) (q_hP1 (q_in_ws 28)) q_d28 (fun h => absurd rfl h)⟩
set_option maxRecDepth 100000 in
theorem q_Q29 : q_Q 29 := ⟨by decide +kernel, q_hS1, rfl, fun z s meth hS hnm => q_mkTab (q_in_ws 29) (own := "SlipDrawer$Meant") (cc := prog_3_method_25_code) (nL := 7) (cx := 0) (mt := q_m29) q_hW (q_hF1 (q_in_ws 29)) (fun h => Bool.noConfusion h) (q_hK1 (q_in_ws 29) hS) (q_hN1 (q_in_ws 29)) (q_hG1 (q_in_ws 29)) (q_hP1 (q_in_ws 29)) q_d29 (fun h => absurd rfl h)⟩
set_option maxRecDepth 100000 in
theorem q_Q30 : q_Q 30 := ⟨by decide +kernel, q_hS1, rfl, fun z s meth hS hnm => q_mkTab (q_in_ws 30) (own := "SlipDrawer$Meant") (cc := prog_3_method_26_code) (nL := 6) (cx := 0) (mt := q_m30) q_hW (q_hF1 (q_in_ws 30)) (fun h => Bool.noConfusion h) (q_hK1 (q_in_ws 30) hS) (q_hN1 (q_in_ws 30)) (q_hG1 (q_in_ws 30)) (q_hP1 (q_in_ws 30)) q_d30 (fun h => absurd rfl h)⟩
set_option maxRecDepth 100000 in
theorem q_Q31 : q_Q 31 := ⟨by decide +kernel, q_hS1, rfl, fun z s meth hS hnm => q_mkTab (q_in_ws 31) (own := "SlipDrawer$Meant") (cc := prog_3_method_27_code) (nL := 6) (cx := 0) (mt := q_m31) q_hW (q_hF1 (q_in_ws 31)) (fun h => Bool.noConfusion h) (q_hK1 (q_in_ws 31) hS) (q_hN1 (q_in_ws 31)) (q_hG1 (q_in_ws 31)) (q_hP1 (q_in_ws 31)) q_d31 (fun h => absurd rfl h)⟩
set_option maxRecDepth 100000 in
theorem q_Q32 : q_Q 32 := ⟨by decide +kernel, q_hS1, rfl, fun z s meth hS hnm => q_mkTab (q_in_ws 32) (own := "SlipDrawer$Meant") (cc := prog_3_method_28_code) (nL := 10) (cx := 0) (mt := q_m32) q_hW (q_hF1 (q_in_ws 32)) (fun h => Bool.noConfusion h) (q_hK1 (q_in_ws 32) hS) (q_hN1 (q_in_ws 32)) (q_hG1 (q_in_ws 32)) (q_hP1 (q_in_ws 32)) q_d32 (fun h => absurd rfl h)⟩
set_option maxRecDepth 100000 in
theorem q_Q33 : q_Q 33 := ⟨by decide +kernel, q_hS2, rfl, fun z s meth hS hnm => q_mkTab (q_in_ws 33) (own := "SlipDrawer$Notes") (cc := prog_4_method_1_code) (nL := 2) (cx := 0) (mt := q_m33) q_hW (q_hF2 (q_in_ws 33)) (fun _ => hnm) (q_hK2 (q_in_ws 33) hS) (q_hN2 (q_in_ws 33)) (q_hG2 (q_in_ws 33)) (q_hP2 (q_in_ws 33)) q_d33 (fun h => absurd rfl h)⟩
set_option maxRecDepth 100000 in
theorem q_Q34 : q_Q 34 := ⟨by decide +kernel, q_hS2, rfl, fun z s meth hS hnm => q_mkTab (q_in_ws 34) (own := "SlipDrawer$Notes") (cc := prog_4_method_2_code) (nL := 3) (cx := 0) (mt := q_m34) q_hW (q_hF2 (q_in_ws 34)) (fun h => Bool.noConfusion h) (q_hK2 (q_in_ws 34) hS) (q_hN2 (q_in_ws 34)) (q_hG2 (q_in_ws 34)) (q_hP2 (q_in_ws 34)) q_d34 (fun h => absurd rfl h)⟩
set_option maxRecDepth 100000 in
theorem q_Q35 : q_Q 35 := ⟨by decide +kernel, q_hS2, rfl, fun z s meth hS hnm => q_mkTab (q_in_ws 35) (own := "SlipDrawer$Notes") (cc := prog_4_method_3_code) (nL := 5) (cx := 0) (mt := q_m35) q_hW (q_hF2 (q_in_ws 35)) (fun h => Bool.noConfusion h) (q_hK2 (q_in_ws 35) hS) (q_hN2 (q_in_ws 35)) (q_hG2 (q_in_ws 35)) (q_hP2 (q_in_ws 35)) q_d35 (fun h => absurd rfl h)⟩
set_option maxRecDepth 100000 in
theorem q_Q36 : q_Q 36 := ⟨by decide +kernel, q_hS3, rfl, fun z s meth hS hnm => q_mkTab (q_in_ws 36) (own := "SlipDrawer$Picture") (cc := prog_5_method_1_code) (nL := 1) (cx := 0) (mt := q_m36) q_hW (q_hF3 (q_in_ws 36)) (fun _ => hnm) (q_hK3 (q_in_ws 36) hS) (q_hN3 (q_in_ws 36)) (q_hG3 (q_in_ws 36)) (q_hP3 (q_in_ws 36)) q_d36 (fun h => absurd rfl h)⟩
set_option maxRecDepth 100000 in
theorem q_Q37 : q_Q 37 := ⟨by decide +kernel, q_hS3, rfl, fun z s meth hS hnm => q_mkTab (q_in_ws 37) (own := "SlipDrawer$Picture") (cc := prog_5_method_2_code) (nL := 5) (cx := 0) (mt := q_m37) q_hW (q_hF3 (q_in_ws 37)) (fun h => Bool.noConfusion h) (q_hK3 (q_in_ws 37) hS) (q_hN3 (q_in_ws 37)) (q_hG3 (q_in_ws 37)) (q_hP3 (q_in_ws 37)) q_d37 (fun h => absurd rfl h)⟩
set_option maxRecDepth 100000 in
theorem q_Q38 : q_Q 38 := ⟨by decide +kernel, q_hS3, rfl, fun z s meth hS hnm => q_mkTab (q_in_ws 38) (own := "SlipDrawer$Picture") (cc := prog_5_method_3_code) (nL := 2) (cx := 0) (mt := q_m38) q_hW (q_hF3 (q_in_ws 38)) (fun h => Bool.noConfusion h) (q_hK3 (q_in_ws 38) hS) (q_hN3 (q_in_ws 38)) (q_hG3 (q_in_ws 38)) (q_hP3 (q_in_ws 38)) q_d38 (fun h => absurd rfl h)⟩
set_option maxRecDepth 100000 in
theorem q_Q39 : q_Q 39 := ⟨by decide +kernel, q_hS3, rfl, fun z s meth hS hnm => q_mkTab (q_in_ws 39) (own := "SlipDrawer$Picture") (cc := prog_5_method_4_code) (nL := 7) (cx := 0) (mt := q_m39) q_hW (q_hF3 (q_in_ws 39)) (fun h => Bool.noConfusion h) (q_hK3 (q_in_ws 39) hS) (q_hN3 (q_in_ws 39)) (q_hG3 (q_in_ws 39)) (q_hP3 (q_in_ws 39)) q_d39 (fun h => absurd rfl h)⟩
set_option maxRecDepth 100000 in
theorem q_Q40 : q_Q 40 := ⟨by decide +kernel, q_hS4, rfl, fun z s meth hS hnm => q_mkTab (q_in_ws 40) (own := "SlipDrawer$Reader") (cc := prog_6_method_1_code) (nL := 2) (cx := 0) (mt := q_m40) q_hW (q_hF4 (q_in_ws 40)) (fun _ => hnm) (q_hK4 (q_in_ws 40) hS) (q_hN4 (q_in_ws 40)) (q_hG4 (q_in_ws 40)) (q_hP4 (q_in_ws 40)) q_d40 (fun h => absurd rfl h)⟩
set_option maxRecDepth 100000 in
theorem q_Q41 : q_Q 41 := ⟨by decide +kernel, q_hS4, rfl, fun z s meth hS hnm => q_mkTab (q_in_ws 41) (own := "SlipDrawer$Reader") (cc := prog_6_method_2_code) (nL := 2) (cx := 0) (mt := q_m41) q_hW (q_hF4 (q_in_ws 41)) (fun h => Bool.noConfusion h) (q_hK4 (q_in_ws 41) hS) (q_hN4 (q_in_ws 41)) (q_hG4 (q_in_ws 41)) (q_hP4 (q_in_ws 41)) q_d41 (fun h => absurd rfl h)⟩
set_option maxRecDepth 100000 in
theorem q_Q42 : q_Q 42 := ⟨by decide +kernel, q_hS4, rfl, fun z s meth hS hnm => q_mkTab (q_in_ws 42) (own := "SlipDrawer$Reader") (cc := prog_6_method_3_code) (nL := 2) (cx := 0) (mt := q_m42) q_hW (q_hF4 (q_in_ws 42)) (fun h => Bool.noConfusion h) (q_hK4 (q_in_ws 42) hS) (q_hN4 (q_in_ws 42)) (q_hG4 (q_in_ws 42)) (q_hP4 (q_in_ws 42)) q_d42 (fun h => absurd rfl h)⟩
set_option maxRecDepth 100000 in
theorem q_Q43 : q_Q 43 := ⟨by decide +kernel, q_hS4, rfl, fun z s meth hS hnm => q_mkTab (q_in_ws 43) (own := "SlipDrawer$Reader") (cc := prog_6_method_4_code) (nL := 1) (cx := 0) (mt := q_m43) q_hW (q_hF4 (q_in_ws 43)) (fun h => Bool.noConfusion h) (q_hK4 (q_in_ws 43) hS) (q_hN4 (q_in_ws 43)) (q_hG4 (q_in_ws 43)) (q_hP4 (q_in_ws 43)) q_d43 (fun h => absurd rfl h)⟩
set_option maxRecDepth 100000 in
theorem q_Q44 : q_Q 44 := ⟨by decide +kernel, q_hS4, rfl, fun z s meth hS hnm => q_mkTab (q_in_ws 44) (own := "SlipDrawer$Reader") (cc := prog_6_method_5_code) (nL := 2) (cx := 0) (mt := q_m44) q_hW (q_hF4 (q_in_ws 44)) (fun h => Bool.noConfusion h) (q_hK4 (q_in_ws 44) hS) (q_hN4 (q_in_ws 44)) (q_hG4 (q_in_ws 44)) (q_hP4 (q_in_ws 44)) q_d44 (fun h => absurd rfl h)⟩
set_option maxRecDepth 100000 in
theorem q_Q45 : q_Q 45 := ⟨by decide +kernel, q_hS4, rfl, fun z s meth hS hnm => q_mkTab (q_in_ws 45) (own := "SlipDrawer$Reader") (cc := prog_6_method_6_code) (nL := 3) (cx := 0) (mt := q_m45) q_hW (q_hF4 (q_in_ws 45)) (fun h => Bool.noConfusion h) (q_hK4 (q_in_ws 45) hS) (q_hN4 (q_in_ws 45)) (q_hG4 (q_in_ws 45)) (q_hP4 (q_in_ws 45)) q_d45 (fun h => absurd rfl h)⟩
set_option maxRecDepth 100000 in
theorem q_Q46 : q_Q 46 := ⟨by decide +kernel, q_hS4, rfl, fun z s meth hS hnm => q_mkTab (q_in_ws 46) (own := "SlipDrawer$Reader") (cc := prog_6_method_7_code) (nL := 4) (cx := 0) (mt := q_m46) q_hW (q_hF4 (q_in_ws 46)) (fun h => Bool.noConfusion h) (q_hK4 (q_in_ws 46) hS) (q_hN4 (q_in_ws 46)) (q_hG4 (q_in_ws 46)) (q_hP4 (q_in_ws 46)) q_d46 (fun h => absurd rfl h)⟩
set_option maxRecDepth 100000 in
theorem q_Q47 : q_Q 47 := ⟨by decide +kernel, q_hS4, rfl, fun z s meth hS hnm => q_mkTab (q_in_ws 47) (own := "SlipDrawer$Reader") (cc := prog_6_method_8_code) (nL := 3) (cx := 0) (mt := q_m47) q_hW (q_hF4 (q_in_ws 47)) (fun h => Bool.noConfusion h) (q_hK4 (q_in_ws 47) hS) (q_hN4 (q_in_ws 47)) (q_hG4 (q_in_ws 47)) (q_hP4 (q_in_ws 47)) q_d47 (fun h => absurd rfl h)⟩
set_option maxRecDepth 100000 in
theorem q_Q48 : q_Q 48 := ⟨by decide +kernel, q_hS4, rfl, fun z s meth hS hnm => q_mkTab (q_in_ws 48) (own := "SlipDrawer$Reader") (cc := prog_6_method_9_code) (nL := 3) (cx := 0) (mt := q_m48) q_hW (q_hF4 (q_in_ws 48)) (fun h => Bool.noConfusion h) (q_hK4 (q_in_ws 48) hS) (q_hN4 (q_in_ws 48)) (q_hG4 (q_in_ws 48)) (q_hP4 (q_in_ws 48)) q_d48 (fun h => absurd rfl h)⟩
set_option maxRecDepth 100000 in
theorem q_Q49 : q_Q 49 := ⟨by decide +kernel, q_hS4, rfl, fun z s meth hS hnm => q_mkTab (q_in_ws 49) (own := "SlipDrawer$Reader") (cc := prog_6_method_10_code) (nL := 3) (cx := 0) (mt := q_m49) q_hW (q_hF4 (q_in_ws 49)) (fun h => Bool.noConfusion h) (q_hK4 (q_in_ws 49) hS) (q_hN4 (q_in_ws 49)) (q_hG4 (q_in_ws 49)) (q_hP4 (q_in_ws 49)) q_d49 (fun h => absurd rfl h)⟩
set_option maxRecDepth 100000 in
theorem q_Q50 : q_Q 50 := ⟨by decide +kernel, q_hS4, rfl, fun z s meth hS hnm => q_mkTab (q_in_ws 50) (own := "SlipDrawer$Reader") (cc := prog_6_method_11_code) (nL := 4) (cx := 0) (mt := q_m50) q_hW (q_hF4 (q_in_ws 50)) (fun h => Bool.noConfusion h) (q_hK4 (q_in_ws 50) hS) (q_hN4 (q_in_ws 50)) (q_hG4 (q_in_ws 50)) (q_hP4 (q_in_ws 50)) q_d50 (fun h => absurd rfl h)⟩
set_option maxRecDepth 100000 in
theorem q_Q51 : q_Q 51 := ⟨by decide +kernel, q_hS4, rfl, fun z s meth hS hnm => q_mkTab (q_in_ws 51) (own := "SlipDrawer$Reader") (cc := prog_6_method_12_code) (nL := 4) (cx := 0) (mt := q_m51) q_hW (q_hF4 (q_in_ws 51)) (fun h => Bool.noConfusion h) (q_hK4 (q_in_ws 51) hS) (q_hN4 (q_in_ws 51)) (q_hG4 (q_in_ws 51)) (q_hP4 (q_in_ws 51)) q_d51 (fun h => absurd rfl h)⟩
set_option maxRecDepth 100000 in
theorem q_Q52 : q_Q 52 := ⟨by decide +kernel, q_hS4, rfl, fun z s meth hS hnm => q_mkTab (q_in_ws 52) (own := "SlipDrawer$Reader") (cc := prog_6_method_13_code) (nL := 3) (cx := 0) (mt := q_m52) q_hW (q_hF4 (q_in_ws 52)) (fun h => Bool.noConfusion h) (q_hK4 (q_in_ws 52) hS) (q_hN4 (q_in_ws 52)) (q_hG4 (q_in_ws 52)) (q_hP4 (q_in_ws 52)) q_d52 (fun h => absurd rfl h)⟩
set_option maxRecDepth 100000 in
theorem q_Q53 : q_Q 53 := ⟨by decide +kernel, q_hS5, rfl, fun z s meth hS hnm => q_mkTab (q_in_ws 53) (own := "SlipDrawer$Script") (cc := prog_7_method_1_code) (nL := 2) (cx := 0) (mt := q_m53) q_hW (q_hF5 (q_in_ws 53)) (fun _ => hnm) (q_hK5 (q_in_ws 53) hS) (q_hN5 (q_in_ws 53)) (q_hG5 (q_in_ws 53)) (q_hP5 (q_in_ws 53)) q_d53 (fun h => absurd rfl h)⟩
set_option maxRecDepth 100000 in
theorem q_Q54 : q_Q 54 := ⟨by decide +kernel, q_hS5, rfl, fun z s meth hS hnm => q_mkTab (q_in_ws 54) (own := "SlipDrawer$Script") (cc := prog_7_method_2_code) (nL := 2) (cx := 0) (mt := q_m54) q_hW (q_hF5 (q_in_ws 54)) (fun h => Bool.noConfusion h) (q_hK5 (q_in_ws 54) hS) (q_hN5 (q_in_ws 54)) (q_hG5 (q_in_ws 54)) (q_hP5 (q_in_ws 54)) q_d54 (fun h => absurd rfl h)⟩
set_option maxRecDepth 100000 in
theorem q_Q55 : q_Q 55 := ⟨by decide +kernel, q_hS5, rfl, fun z s meth hS hnm => q_mkTab (q_in_ws 55) (own := "SlipDrawer$Script") (cc := prog_7_method_3_code) (nL := 4) (cx := 0) (mt := q_m55) q_hW (q_hF5 (q_in_ws 55)) (fun h => Bool.noConfusion h) (q_hK5 (q_in_ws 55) hS) (q_hN5 (q_in_ws 55)) (q_hG5 (q_in_ws 55)) (q_hP5 (q_in_ws 55)) q_d55 (fun h => absurd rfl h)⟩
set_option maxRecDepth 100000 in
theorem q_Q56 : q_Q 56 := ⟨by decide +kernel, q_hS5, rfl, fun z s meth hS hnm => q_mkTab (q_in_ws 56) (own := "SlipDrawer$Script") (cc := prog_7_method_4_code) (nL := 4) (cx := 0) (mt := q_m56) q_hW (q_hF5 (q_in_ws 56)) (fun h => Bool.noConfusion h) (q_hK5 (q_in_ws 56) hS) (q_hN5 (q_in_ws 56)) (q_hG5 (q_in_ws 56)) (q_hP5 (q_in_ws 56)) q_d56 (fun h => absurd rfl h)⟩
set_option maxRecDepth 100000 in
theorem q_Q57 : q_Q 57 := ⟨by decide +kernel, q_hS6, rfl, fun z s meth hS hnm => q_mkTab (q_in_ws 57) (own := "SlipDrawer$Speech") (cc := prog_8_method_1_code) (nL := 1) (cx := 0) (mt := q_m57) q_hW (q_hF6 (q_in_ws 57)) (fun _ => hnm) (q_hK6 (q_in_ws 57) hS) (q_hN6 (q_in_ws 57)) (q_hG6 (q_in_ws 57)) (q_hP6 (q_in_ws 57)) q_d57 (fun h => absurd rfl h)⟩
set_option maxRecDepth 100000 in
theorem q_Q58 : q_Q 58 := ⟨by decide +kernel, q_hS6, rfl, fun z s meth hS hnm => q_mkTab (q_in_ws 58) (own := "SlipDrawer$Speech") (cc := prog_8_method_2_code) (nL := 2) (cx := 0) (mt := q_m58) q_hW (q_hF6 (q_in_ws 58)) (fun h => Bool.noConfusion h) (q_hK6 (q_in_ws 58) hS) (q_hN6 (q_in_ws 58)) (q_hG6 (q_in_ws 58)) (q_hP6 (q_in_ws 58)) q_d58 (fun h => absurd rfl h)⟩
set_option maxRecDepth 100000 in
theorem q_Q59 : q_Q 59 := ⟨by decide +kernel, q_hS6, rfl, fun z s meth hS hnm => q_mkTab (q_in_ws 59) (own := "SlipDrawer$Speech") (cc := prog_8_method_3_code) (nL := 2) (cx := 0) (mt := q_m59) q_hW (q_hF6 (q_in_ws 59)) (fun h => Bool.noConfusion h) (q_hK6 (q_in_ws 59) hS) (q_hN6 (q_in_ws 59)) (q_hG6 (q_in_ws 59)) (q_hP6 (q_in_ws 59)) q_d59 (fun h => absurd rfl h)⟩
set_option maxRecDepth 100000 in
theorem q_Q60 : q_Q 60 := ⟨by decide +kernel, q_hS6, rfl, fun z s meth hS hnm => q_mkTab (q_in_ws 60) (own := "SlipDrawer$Speech") (cc := prog_8_method_4_code) (nL := 2) (cx := 0) (mt := q_m60) q_hW (q_hF6 (q_in_ws 60)) (fun h => Bool.noConfusion h) (q_hK6 (q_in_ws 60) hS) (q_hN6 (q_in_ws 60)) (q_hG6 (q_in_ws 60)) (q_hP6 (q_in_ws 60)) q_d60 (fun h => absurd rfl h)⟩
set_option maxRecDepth 100000 in
theorem q_Q61 : q_Q 61 := ⟨by decide +kernel, q_hS6, rfl, fun z s meth hS hnm => q_mkTab (q_in_ws 61) (own := "SlipDrawer$Speech") (cc := prog_8_method_5_code) (nL := 4) (cx := 0) (mt := q_m61) q_hW (q_hF6 (q_in_ws 61)) (fun h => Bool.noConfusion h) (q_hK6 (q_in_ws 61) hS) (q_hN6 (q_in_ws 61)) (q_hG6 (q_in_ws 61)) (q_hP6 (q_in_ws 61)) q_d61 (fun h => absurd rfl h)⟩
set_option maxRecDepth 100000 in
theorem q_Q62 : q_Q 62 := ⟨by decide +kernel, q_hS6, rfl, fun z s meth hS hnm => q_mkTab (q_in_ws 62) (own := "SlipDrawer$Speech") (cc := prog_8_method_6_code) (nL := 5) (cx := 0) (mt := q_m62) q_hW (q_hF6 (q_in_ws 62)) (fun h => Bool.noConfusion h) (q_hK6 (q_in_ws 62) hS) (q_hN6 (q_in_ws 62)) (q_hG6 (q_in_ws 62)) (q_hP6 (q_in_ws 62)) q_d62 (fun h => absurd rfl h)⟩
set_option maxRecDepth 100000 in
theorem q_Q63 : q_Q 63 := ⟨by decide +kernel, q_hS6, rfl, fun z s meth hS hnm => q_mkTab (q_in_ws 63) (own := "SlipDrawer$Speech") (cc := prog_8_method_7_code) (nL := 4) (cx := 0) (mt := q_m63) q_hW (q_hF6 (q_in_ws 63)) (fun h => Bool.noConfusion h) (q_hK6 (q_in_ws 63) hS) (q_hN6 (q_in_ws 63)) (q_hG6 (q_in_ws 63)) (q_hP6 (q_in_ws 63)) q_d63 (fun h => absurd rfl h)⟩
set_option maxRecDepth 100000 in
theorem q_Q64 : q_Q 64 := ⟨by decide +kernel, q_hS7, rfl, fun z s meth hS hnm => q_mkTab (q_in_ws 64) (own := "SlipDrawer$Tape") (cc := prog_9_method_1_code) (nL := 1) (cx := 0) (mt := q_m64) q_hW (q_hF7 (q_in_ws 64)) (fun _ => hnm) (q_hK7 (q_in_ws 64) hS) (q_hN7 (q_in_ws 64)) (q_hG7 (q_in_ws 64)) (q_hP7 (q_in_ws 64)) q_d64 (fun h => absurd rfl h)⟩
set_option maxRecDepth 100000 in
theorem q_Q65 : q_Q 65 := ⟨by decide +kernel, q_hS7, rfl, fun z s meth hS hnm => q_mkTab (q_in_ws 65) (own := "SlipDrawer$Tape") (cc := prog_9_method_2_code) (nL := 3) (cx := 0) (mt := q_m65) q_hW (q_hF7 (q_in_ws 65)) (fun h => Bool.noConfusion h) (q_hK7 (q_in_ws 65) hS) (q_hN7 (q_in_ws 65)) (q_hG7 (q_in_ws 65)) (q_hP7 (q_in_ws 65)) q_d65 (fun h => absurd rfl h)⟩
set_option maxRecDepth 100000 in
theorem q_Q66 : q_Q 66 := ⟨by decide +kernel, q_hS7, rfl, fun z s meth hS hnm => q_mkTab (q_in_ws 66) (own := "SlipDrawer$Tape") (cc := prog_9_method_3_code) (nL := 2) (cx := 0) (mt := q_m66) q_hW (q_hF7 (q_in_ws 66)) (fun h => Bool.noConfusion h) (q_hK7 (q_in_ws 66) hS) (q_hN7 (q_in_ws 66)) (q_hG7 (q_in_ws 66)) (q_hP7 (q_in_ws 66)) q_d66 (fun h => absurd rfl h)⟩
set_option maxRecDepth 100000 in
theorem q_Q67 : q_Q 67 := ⟨by decide +kernel, q_hS7, rfl, fun z s meth hS hnm => q_mkTab (q_in_ws 67) (own := "SlipDrawer$Tape") (cc := prog_9_method_4_code) (nL := 3) (cx := 0) (mt := q_m67) q_hW (q_hF7 (q_in_ws 67)) (fun h => Bool.noConfusion h) (q_hK7 (q_in_ws 67) hS) (q_hN7 (q_in_ws 67)) (q_hG7 (q_in_ws 67)) (q_hP7 (q_in_ws 67)) q_d67 (fun h => absurd rfl h)⟩
set_option maxRecDepth 100000 in
theorem q_Q68 : q_Q 68 := ⟨by decide +kernel, q_hS7, rfl, fun z s meth hS hnm => q_mkTab (q_in_ws 68) (own := "SlipDrawer$Tape") (cc := prog_9_method_5_code) (nL := 3) (cx := 0) (mt := q_m68) q_hW (q_hF7 (q_in_ws 68)) (fun h => Bool.noConfusion h) (q_hK7 (q_in_ws 68) hS) (q_hN7 (q_in_ws 68)) (q_hG7 (q_in_ws 68)) (q_hP7 (q_in_ws 68)) q_d68 (fun h => absurd rfl h)⟩
set_option maxRecDepth 100000 in
theorem q_Q69 : q_Q 69 := ⟨by decide +kernel, q_hS7, rfl, fun z s meth hS hnm => q_mkTab (q_in_ws 69) (own := "SlipDrawer$Tape") (cc := prog_9_method_6_code) (nL := 3) (cx := 0) (mt := q_m69) q_hW (q_hF7 (q_in_ws 69)) (fun h => Bool.noConfusion h) (q_hK7 (q_in_ws 69) hS) (q_hN7 (q_in_ws 69)) (q_hG7 (q_in_ws 69)) (q_hP7 (q_in_ws 69)) q_d69 (fun h => absurd rfl h)⟩
set_option maxRecDepth 100000 in
theorem q_Q70 : q_Q 70 := ⟨by decide +kernel, q_hS8, rfl, fun z s meth hS hnm => q_mkTab (q_in_ws 70) (own := "SlipDrawer$Tokens") (cc := prog_10_method_1_code) (nL := 2) (cx := 0) (mt := q_m70) q_hW (q_hF8 (q_in_ws 70)) (fun _ => hnm) (q_hK8 (q_in_ws 70) hS) (q_hN8 (q_in_ws 70)) (q_hG8 (q_in_ws 70)) (q_hP8 (q_in_ws 70)) q_d70 (fun h => absurd rfl h)⟩
set_option maxRecDepth 100000 in
theorem q_Q71 : q_Q 71 := ⟨by decide +kernel, q_hS8, rfl, fun z s meth hS hnm => q_mkTab (q_in_ws 71) (own := "SlipDrawer$Tokens") (cc := prog_10_method_2_code) (nL := 7) (cx := 0) (mt := q_m71) q_hW (q_hF8 (q_in_ws 71)) (fun h => Bool.noConfusion h) (q_hK8 (q_in_ws 71) hS) (q_hN8 (q_in_ws 71)) (q_hG8 (q_in_ws 71)) (q_hP8 (q_in_ws 71)) q_d71 (fun h => absurd rfl h)⟩
set_option maxRecDepth 100000 in
theorem q_Q72 : q_Q 72 := ⟨by decide +kernel, q_hS8, rfl, fun z s meth hS hnm => q_mkTab (q_in_ws 72) (own := "SlipDrawer$Tokens") (cc := prog_10_method_3_code) (nL := 3) (cx := 0) (mt := q_m72) q_hW (q_hF8 (q_in_ws 72)) (fun h => Bool.noConfusion h) (q_hK8 (q_in_ws 72) hS) (q_hN8 (q_in_ws 72)) (q_hG8 (q_in_ws 72)) (q_hP8 (q_in_ws 72)) q_d72 (fun h => absurd rfl h)⟩
set_option maxRecDepth 100000 in
theorem q_Q73 : q_Q 73 := ⟨by decide +kernel, q_hS8, rfl, fun z s meth hS hnm => q_mkTab (q_in_ws 73) (own := "SlipDrawer$Tokens") (cc := prog_10_method_4_code) (nL := 3) (cx := 0) (mt := q_m73) q_hW (q_hF8 (q_in_ws 73)) (fun h => Bool.noConfusion h) (q_hK8 (q_in_ws 73) hS) (q_hN8 (q_in_ws 73)) (q_hG8 (q_in_ws 73)) (q_hP8 (q_in_ws 73)) q_d73 (fun h => absurd rfl h)⟩
set_option maxRecDepth 100000 in
theorem q_Q74 : q_Q 74 := ⟨by decide +kernel, q_hS8, rfl, fun z s meth hS hnm => q_mkTab (q_in_ws 74) (own := "SlipDrawer$Tokens") (cc := prog_10_method_5_code) (nL := 5) (cx := 0) (mt := q_m74) q_hW (q_hF8 (q_in_ws 74)) (fun h => Bool.noConfusion h) (q_hK8 (q_in_ws 74) hS) (q_hN8 (q_in_ws 74)) (q_hG8 (q_in_ws 74)) (q_hP8 (q_in_ws 74)) q_d74 (fun h => absurd rfl h)⟩
set_option maxRecDepth 100000 in
theorem q_Q75 : q_Q 75 := ⟨by decide +kernel, q_hS8, rfl, fun z s meth hS hnm => q_mkTab (q_in_ws 75) (own := "SlipDrawer$Tokens") (cc := prog_10_method_6_code) (nL := 1) (cx := 0) (mt := q_m75) q_hW (q_hF8 (q_in_ws 75)) (fun h => Bool.noConfusion h) (q_hK8 (q_in_ws 75) hS) (q_hN8 (q_in_ws 75)) (q_hG8 (q_in_ws 75)) (q_hP8 (q_in_ws 75)) q_d75 (fun h => absurd rfl h)⟩
set_option maxRecDepth 100000 in
theorem q_Q76 : q_Q 76 := ⟨by decide +kernel, q_hS8, rfl, fun z s meth hS hnm => q_mkTab (q_in_ws 76) (own := "SlipDrawer$Tokens") (cc := prog_10_method_7_code) (nL := 6) (cx := 0) (mt := q_m76) q_hW (q_hF8 (q_in_ws 76)) (fun h => Bool.noConfusion h) (q_hK8 (q_in_ws 76) hS) (q_hN8 (q_in_ws 76)) (q_hG8 (q_in_ws 76)) (q_hP8 (q_in_ws 76)) q_d76 (fun h => absurd rfl h)⟩
set_option maxRecDepth 100000 in
theorem q_Q77 : q_Q 77 := ⟨by decide +kernel, q_hS8, rfl, fun z s meth hS hnm => q_mkTab (q_in_ws 77) (own := "SlipDrawer$Tokens") (cc := prog_10_method_8_code) (nL := 5) (cx := 0) (mt := q_m77) q_hW (q_hF8 (q_in_ws 77)) (fun h => Bool.noConfusion h) (q_hK8 (q_in_ws 77) hS) (q_hN8 (q_in_ws 77)) (q_hG8 (q_in_ws 77)) (q_hP8 (q_in_ws 77)) q_d77 (fun h => absurd rfl h)⟩
set_option maxRecDepth 100000 in
theorem q_Q78 : q_Q 78 := ⟨by decide +kernel, q_hS9, rfl, fun z s meth hS hnm => q_mkTab (q_in_ws 78) (own := "SlipDrawer$Words") (cc := prog_11_method_1_code) (nL := 2) (cx := 0) (mt := q_m78) q_hW (q_hF9 (q_in_ws 78)) (fun _ => hnm) (q_hK9 (q_in_ws 78) hS) (q_hN9 (q_in_ws 78)) (q_hG9 (q_in_ws 78)) (q_hP9 (q_in_ws 78)) q_d78 (fun h => absurd rfl h)⟩
set_option maxRecDepth 100000 in
theorem q_Q79 : q_Q 79 := ⟨by decide +kernel, q_hS9, rfl, fun z s meth hS hnm => q_mkTab (q_in_ws 79) (own := "SlipDrawer$Words") (cc := prog_11_method_2_code) (nL := 2) (cx := 0) (mt := q_m79) q_hW (q_hF9 (q_in_ws 79)) (fun h => Bool.noConfusion h) (q_hK9 (q_in_ws 79) hS) (q_hN9 (q_in_ws 79)) (q_hG9 (q_in_ws 79)) (q_hP9 (q_in_ws 79)) q_d79 (fun h => absurd rfl h)⟩
set_option maxRecDepth 100000 in
theorem q_Q80 : q_Q 80 := ⟨by decide +kernel, q_hS9, rfl, fun z s meth hS hnm => q_mkTab (q_in_ws 80) (own := "SlipDrawer$Words") (cc := prog_11_method_3_code) (nL := 6) (cx := 0) (mt := q_m80) q_hW (q_hF9 (q_in_ws 80)) (fun h => Bool.noConfusion h) (q_hK9 (q_in_ws 80) hS) (q_hN9 (q_in_ws 80)) (q_hG9 (q_in_ws 80)) (q_hP9 (q_in_ws 80)) q_d80 (fun h => absurd rfl h)⟩
set_option maxRecDepth 100000 in
theorem q_Q81 : q_Q 81 := ⟨by decide +kernel, q_hS9, rfl, fun z s meth hS hnm => q_mkTab (q_in_ws 81) (own := "SlipDrawer$Words") (cc := prog_11_method_4_code) (nL := 3) (cx := 0) (mt := q_m81) q_hW (q_hF9 (q_in_ws 81)) (fun h => Bool.noConfusion h) (q_hK9 (q_in_ws 81) hS) (q_hN9 (q_in_ws 81)) (q_hG9 (q_in_ws 81)) (q_hP9 (q_in_ws 81)) q_d81 (fun h => absurd rfl h)⟩
set_option maxRecDepth 100000 in
theorem q_Q82 : q_Q 82 := ⟨by decide +kernel, q_hS9, rfl, fun z s meth hS hnm => q_mkTab (q_in_ws 82) (own := "SlipDrawer$Words") (cc := prog_11_method_5_code) (nL := 7) (cx := 0) (mt := q_m82) q_hW (q_hF9 (q_in_ws 82)) (fun h => Bool.noConfusion h) (q_hK9 (q_in_ws 82) hS) (q_hN9 (q_in_ws 82)) (q_hG9 (q_in_ws 82)) (q_hP9 (q_in_ws 82)) q_d82 (fun h => absurd rfl h)⟩
set_option maxRecDepth 100000 in
theorem q_Q83 : q_Q 83 := ⟨by decide +kernel, q_hS9, rfl, fun z s meth hS hnm => q_mkTab (q_in_ws 83) (own := "SlipDrawer$Words") (cc := prog_11_method_6_code) (nL := 1) (cx := 0) (mt := q_m83) q_hW (q_hF9 (q_in_ws 83)) (fun h => Bool.noConfusion h) (q_hK9 (q_in_ws 83) hS) (q_hN9 (q_in_ws 83)) (q_hG9 (q_in_ws 83)) (q_hP9 (q_in_ws 83)) q_d83 (fun h => absurd rfl h)⟩
set_option maxRecDepth 100000 in
theorem q_Q84 : q_Q 84 := ⟨by decide +kernel, q_hS9, rfl, fun z s meth hS hnm => q_mkTab (q_in_ws 84) (own := "SlipDrawer$Words") (cc := prog_11_method_7_code) (nL := 3) (cx := 0) (mt := q_m84) q_hW (q_hF9 (q_in_ws 84)) (fun h => Bool.noConfusion h) (q_hK9 (q_in_ws 84) hS) (q_hN9 (q_in_ws 84)) (q_hG9 (q_in_ws 84)) (q_hP9 (q_in_ws 84)) q_d84 (fun h => absurd rfl h)⟩
set_option maxRecDepth 100000 in
theorem q_Q85 : q_Q 85 := ⟨by decide +kernel, q_hS9, rfl, fun z s meth hS hnm => q_mkTab (q_in_ws 85) (own := "SlipDrawer$Words") (cc := prog_11_method_8_code) (nL := 4) (cx := 0) (mt := q_m85) q_hW (q_hF9 (q_in_ws 85)) (fun h => Bool.noConfusion h) (q_hK9 (q_in_ws 85) hS) (q_hN9 (q_in_ws 85)) (q_hG9 (q_in_ws 85)) (q_hP9 (q_in_ws 85)) q_d85 (fun h => absurd rfl h)⟩
set_option maxRecDepth 100000 in
theorem q_Q86 : q_Q 86 := ⟨by decide +kernel, q_hS9, rfl, fun z s meth hS hnm => q_mkTab (q_in_ws 86) (own := "SlipDrawer$Words") (cc := prog_11_method_9_code) (nL := 5) (cx := 0) (mt := q_m86) q_hW (q_hF9 (q_in_ws 86)) (fun h => Bool.noConfusion h) (q_hK9 (q_in_ws 86) hS) (q_hN9 (q_in_ws 86)) (q_hG9 (q_in_ws 86)) (q_hP9 (q_in_ws 86)) q_d86 (fun h => absurd rfl h)⟩
set_option maxRecDepth 100000 in
theorem q_Q87 : q_Q 87 := ⟨by decide +kernel, q_hS9, rfl, fun z s meth hS hnm => q_mkTab (q_in_ws 87) (own := "SlipDrawer$Words") (cc := prog_11_method_10_code) (nL := 5) (cx := 0) (mt := q_m87) q_hW (q_hF9 (q_in_ws 87)) (fun h => Bool.noConfusion h) (q_hK9 (q_in_ws 87) hS) (q_hN9 (q_in_ws 87)) (q_hG9 (q_in_ws 87)) (q_hP9 (q_in_ws 87)) q_d87 (fun h => absurd rfl h)⟩
set_option maxRecDepth 100000 in
theorem q_Q88 : q_Q 88 := ⟨by decide +kernel, q_hS9, rfl, fun z s meth hS hnm => q_mkTab (q_in_ws 88) (own := "SlipDrawer$Words") (cc := prog_11_method_11_code) (nL := 6) (cx := 0) (mt := q_m88) q_hW (q_hF9 (q_in_ws 88)) (fun h => Bool.noConfusion h) (q_hK9 (q_in_ws 88) hS) (q_hN9 (q_in_ws 88)) (q_hG9 (q_in_ws 88)) (q_hP9 (q_in_ws 88)) q_d88 (fun h => absurd rfl h)⟩
set_option maxRecDepth 100000 in
theorem q_Q89 : q_Q 89 := ⟨by decide +kernel, q_hS9, rfl, fun z s meth hS hnm => q_mkTab (q_in_ws 89) (own := "SlipDrawer$Words") (cc := prog_11_method_12_code) (nL := 7) (cx := 0) (mt := q_m89) q_hW (q_hF9 (q_in_ws 89)) (fun h => Bool.noConfusion h) (q_hK9 (q_in_ws 89) hS) (q_hN9 (q_in_ws 89)) (q_hG9 (q_in_ws 89)) (q_hP9 (q_in_ws 89)) q_d89 (fun h => absurd rfl h)⟩
set_option maxRecDepth 100000 in
theorem q_Q90 : q_Q 90 := ⟨by decide +kernel, q_hS9, rfl, fun z s meth hS hnm => q_mkTab (q_in_ws 90) (own := "SlipDrawer$Words") (cc := prog_11_method_13_code) (nL := 8) (cx := 0) (mt := q_m90) q_hW (q_hF9 (q_in_ws 90)) (fun h => Bool.noConfusion h) (q_hK9 (q_in_ws 90) hS) (q_hN9 (q_in_ws 90)) (q_hG9 (q_in_ws 90)) (q_hP9 (q_in_ws 90)) q_d90 (fun h => absurd rfl h)⟩
set_option maxRecDepth 100000 in
theorem q_Q91 : q_Q 91 := ⟨by decide +kernel, q_hS9, rfl, fun z s meth hS hnm => q_mkTab (q_in_ws 91) (own := "SlipDrawer$Words") (cc := prog_11_method_14_code) (nL := 3) (cx := 0) (mt := q_m91) q_hW (q_hF9 (q_in_ws 91)) (fun h => Bool.noConfusion h) (q_hK9 (q_in_ws 91) hS) (q_hN9 (q_in_ws 91)) (q_hG9 (q_in_ws 91)) (q_hP9 (q_in_ws 91)) q_d91 (fun h => absurd rfl h)⟩
set_option maxRecDepth 100000 in
theorem q_Q92 : q_Q 92 := ⟨by decide +kernel, q_hS9, rfl, fun z s meth hS hnm => q_mkTab (q_in_ws 92) (own := "SlipDrawer$Words") (cc := prog_11_method_15_code) (nL := 3) (cx := 0) (mt := q_m92) q_hW (q_hF9 (q_in_ws 92)) (fun h => Bool.noConfusion h) (q_hK9 (q_in_ws 92) hS) (q_hN9 (q_in_ws 92)) (q_hG9 (q_in_ws 92)) (q_hP9 (q_in_ws 92)) q_d92 (fun h => absurd rfl h)⟩
set_option maxRecDepth 100000 in
theorem q_Q93 : q_Q 93 := ⟨by decide +kernel, q_hS9, rfl, fun z s meth hS hnm => q_mkTab (q_in_ws 93) (own := "SlipDrawer$Words") (cc := prog_11_method_16_code) (nL := 3) (cx := 0) (mt := q_m93) q_hW (q_hF9 (q_in_ws 93)) (fun h => Bool.noConfusion h) (q_hK9 (q_in_ws 93) hS) (q_hN9 (q_in_ws 93)) (q_hG9 (q_in_ws 93)) (q_hP9 (q_in_ws 93)) q_d93 (fun h => absurd rfl h)⟩
set_option maxRecDepth 100000 in
theorem q_Q94 : q_Q 94 := ⟨by decide +kernel, q_hS9, rfl, fun z s meth hS hnm => q_mkTab (q_in_ws 94) (own := "SlipDrawer$Words") (cc := prog_11_method_17_code) (nL := 2) (cx := 0) (mt := q_m94) q_hW (q_hF9 (q_in_ws 94)) (fun h => Bool.noConfusion h) (q_hK9 (q_in_ws 94) hS) (q_hN9 (q_in_ws 94)) (q_hG9 (q_in_ws 94)) (q_hP9 (q_in_ws 94)) q_d94 (fun h => absurd rfl h)⟩
set_option maxRecDepth 100000 in
theorem q_Q95 : q_Q 95 := ⟨by decide +kernel, q_hS9, rfl, fun z s meth hS hnm => q_mkTab (q_in_ws 95) (own := "SlipDrawer$Words") (cc := prog_11_method_18_code) (nL := 8) (cx := 0) (mt := q_m95) q_hW (q_hF9 (q_in_ws 95)) (fun h => Bool.noConfusion h) (q_hK9 (q_in_ws 95) hS) (q_hN9 (q_in_ws 95)) (q_hG9 (q_in_ws 95)) (q_hP9 (q_in_ws 95)) q_d95 (fun h => absurd rfl h)⟩
set_option maxRecDepth 100000 in
theorem q_Q96 : q_Q 96 := ⟨by decide +kernel, q_hS10, rfl, fun z s meth hS hnm => q_mkTab (q_in_ws 96) (own := "SlipDrawer") (cc := prog_1_method_1_code) (nL := 1) (cx := 0) (mt := q_m96) q_hW (q_hF10 (q_in_ws 96)) (fun _ => hnm) (q_hK10 (q_in_ws 96) hS) (q_hN10 (q_in_ws 96)) (q_hG10 (q_in_ws 96)) (q_hP10 (q_in_ws 96)) q_d96 (fun h => absurd rfl h)⟩
set_option maxRecDepth 100000 in
theorem q_Q97 : q_Q 97 := ⟨by decide +kernel, q_hS10, rfl, fun z s meth hS hnm => q_mkTab (q_in_ws 97) (own := "SlipDrawer") (cc := prog_1_method_2_code) (nL := 6) (cx := 0) (mt := q_m97) q_hW (q_hF10 (q_in_ws 97)) (fun h => Bool.noConfusion h) (q_hK10 (q_in_ws 97) hS) (q_hN10 (q_in_ws 97)) (q_hG10 (q_in_ws 97)) (q_hP10 (q_in_ws 97)) q_d97 (fun h => absurd rfl h)⟩
set_option maxRecDepth 100000 in
theorem q_Q98 : q_Q 98 := ⟨by decide +kernel, q_hS10, rfl, fun z s meth hS hnm => q_mkTab (q_in_ws 98) (own := "SlipDrawer") (cc := prog_1_method_3_code) (nL := 2) (cx := 0) (mt := q_m98) q_hW (q_hF10 (q_in_ws 98)) (fun h => Bool.noConfusion h) (q_hK10 (q_in_ws 98) hS) (q_hN10 (q_in_ws 98)) (q_hG10 (q_in_ws 98)) (q_hP10 (q_in_ws 98)) q_d98 (fun h => absurd rfl h)⟩
set_option maxRecDepth 100000 in
theorem q_Q99 : q_Q 99 := ⟨by decide +kernel, q_hS10, rfl, fun z s meth hS hnm => q_mkTab (q_in_ws 99) (own := "SlipDrawer") (cc := prog_1_method_4_code) (nL := 6) (cx := 0) (mt := q_m99) q_hW (q_hF10 (q_in_ws 99)) (fun h => Bool.noConfusion h) (q_hK10 (q_in_ws 99) hS) (q_hN10 (q_in_ws 99)) (q_hG10 (q_in_ws 99)) (q_hP10 (q_in_ws 99)) q_d99 (fun h => absurd rfl h)⟩
set_option maxRecDepth 100000 in
theorem q_Q100 : q_Q 100 := ⟨by decide +kernel, q_hS10, rfl, fun z s meth hS hnm => q_mkTab (q_in_ws 100) (own := "SlipDrawer") (cc := prog_1_method_5_code) (nL := 10) (cx := 0) (mt := q_m100) q_hW (q_hF10 (q_in_ws 100)) (fun h => Bool.noConfusion h) (q_hK10 (q_in_ws 100) hS) (q_hN10 (q_in_ws 100)) (q_hG10 (q_in_ws 100)) (q_hP10 (q_in_ws 100)) q_d100 (fun h => absurd rfl h)⟩
set_option maxRecDepth 100000 in
theorem q_Q101 : q_Q 101 := ⟨by decide +kernel, q_hS10, rfl, fun z s meth hS hnm => q_mkTab (q_in_ws 101) (own := "SlipDrawer") (cc := prog_1_method_6_code) (nL := 2) (cx := 0) (mt := q_m101) q_hW (q_hF10 (q_in_ws 101)) (fun h => Bool.noConfusion h) (q_hK10 (q_in_ws 101) hS) (q_hN10 (q_in_ws 101)) (q_hG10 (q_in_ws 101)) (q_hP10 (q_in_ws 101)) q_d101 (fun h => absurd rfl h)⟩
set_option maxRecDepth 100000 in
theorem q_Q102 : q_Q 102 := ⟨by decide +kernel, q_hS10, rfl, fun z s meth hS hnm => q_mkTab (q_in_ws 102) (own := "SlipDrawer") (cc := prog_1_method_7_code) (nL := 2) (cx := 0) (mt := q_m102) q_hW (q_hF10 (q_in_ws 102)) (fun h => Bool.noConfusion h) (q_hK10 (q_in_ws 102) hS) (q_hN10 (q_in_ws 102)) (q_hG10 (q_in_ws 102)) (q_hP10 (q_in_ws 102)) q_d102 (fun h => absurd rfl h)⟩
set_option maxRecDepth 100000 in
theorem q_Q103 : q_Q 103 := ⟨by decide +kernel, q_hS10, rfl, fun z s meth hS hnm => q_mkTab (q_in_ws 103) (own := "SlipDrawer") (cc := prog_1_method_8_code) (nL := 1) (cx := 0) (mt := q_m103) q_hW (q_hF10 (q_in_ws 103)) (fun h => Bool.noConfusion h) (q_hK10 (q_in_ws 103) hS) (q_hN10 (q_in_ws 103)) (q_hG10 (q_in_ws 103)) (q_hP10 (q_in_ws 103)) q_d103 (fun h => absurd rfl h)⟩
set_option maxRecDepth 100000 in
theorem q_Q104 : q_Q 104 := ⟨by decide +kernel, q_hS10, rfl, fun z s meth hS hnm => q_mkTab (q_in_ws 104) (own := "SlipDrawer") (cc := prog_1_method_9_code) (nL := 2) (cx := 0) (mt := q_m104) q_hW (q_hF10 (q_in_ws 104)) (fun h => Bool.noConfusion h) (q_hK10 (q_in_ws 104) hS) (q_hN10 (q_in_ws 104)) (q_hG10 (q_in_ws 104)) (q_hP10 (q_in_ws 104)) q_d104 (fun h => absurd rfl h)⟩
set_option maxRecDepth 100000 in
theorem q_Q105 : q_Q 105 := ⟨by decide +kernel, q_hS10, rfl, fun z s meth hS hnm => q_mkTab (q_in_ws 105) (own := "SlipDrawer") (cc := prog_1_method_10_code) (nL := 3) (cx := 0) (mt := q_m105) q_hW (q_hF10 (q_in_ws 105)) (fun h => Bool.noConfusion h) (q_hK10 (q_in_ws 105) hS) (q_hN10 (q_in_ws 105)) (q_hG10 (q_in_ws 105)) (q_hP10 (q_in_ws 105)) q_d105 (fun h => absurd rfl h)⟩
set_option maxRecDepth 100000 in
theorem q_Q106 : q_Q 106 := ⟨by decide +kernel, q_hS10, rfl, fun z s meth hS hnm => q_mkTab (q_in_ws 106) (own := "SlipDrawer") (cc := prog_1_method_11_code) (nL := 5) (cx := 0) (mt := q_m106) q_hW (q_hF10 (q_in_ws 106)) (fun h => Bool.noConfusion h) (q_hK10 (q_in_ws 106) hS) (q_hN10 (q_in_ws 106)) (q_hG10 (q_in_ws 106)) (q_hP10 (q_in_ws 106)) q_d106 (fun h => absurd rfl h)⟩
set_option maxRecDepth 100000 in
theorem q_Q107 : q_Q 107 := ⟨by decide +kernel, q_hS10, rfl, fun z s meth hS hnm => q_mkTab (q_in_ws 107) (own := "SlipDrawer") (cc := prog_1_method_12_code) (nL := 5) (cx := 0) (mt := q_m107) q_hW (q_hF10 (q_in_ws 107)) (fun h => Bool.noConfusion h) (q_hK10 (q_in_ws 107) hS) (q_hN10 (q_in_ws 107)) (q_hG10 (q_in_ws 107)) (q_hP10 (q_in_ws 107)) q_d107 (fun h => absurd rfl h)⟩
set_option maxRecDepth 100000 in
theorem q_Q108 : q_Q 108 := ⟨by decide +kernel, q_hS10, rfl, fun z s meth hS hnm => q_mkTab (q_in_ws 108) (own := "SlipDrawer") (cc := prog_1_method_13_code) (nL := 4) (cx := 0) (mt := q_m108) q_hW (q_hF10 (q_in_ws 108)) (fun h => Bool.noConfusion h) (q_hK10 (q_in_ws 108) hS) (q_hN10 (q_in_ws 108)) (q_hG10 (q_in_ws 108)) (q_hP10 (q_in_ws 108)) q_d108 (fun h => absurd rfl h)⟩
set_option maxRecDepth 100000 in
theorem q_Q109 : q_Q 109 := ⟨by decide +kernel, q_hS10, rfl, fun z s meth hS hnm => q_mkTab (q_in_ws 109) (own := "SlipDrawer") (cc := prog_1_method_14_code) (nL := 8) (cx := 0) (mt := q_m109) q_hW (q_hF10 (q_in_ws 109)) (fun h => Bool.noConfusion h) (q_hK10 (q_in_ws 109) hS) (q_hN10 (q_in_ws 109)) (q_hG10 (q_in_ws 109)) (q_hP10 (q_in_ws 109)) q_d109 (fun h => absurd rfl h)⟩
set_option maxRecDepth 100000 in
theorem q_Q110 : q_Q 110 := ⟨by decide +kernel, q_hS10, rfl, fun z s meth hS hnm => q_mkTab (q_in_ws 110) (own := "SlipDrawer") (cc := prog_1_method_15_code) (nL := 2) (cx := 0) (mt := q_m110) q_hW (q_hF10 (q_in_ws 110)) (fun h => Bool.noConfusion h) (q_hK10 (q_in_ws 110) hS) (q_hN10 (q_in_ws 110)) (q_hG10 (q_in_ws 110)) (q_hP10 (q_in_ws 110)) q_d110 (fun h => absurd rfl h)⟩
set_option maxRecDepth 100000 in
theorem q_Q111 : q_Q 111 := ⟨by decide +kernel, q_hS10, rfl, fun z s meth hS hnm => q_mkTab (q_in_ws 111) (own := "SlipDrawer") (cc := prog_1_method_16_code) (nL := 2) (cx := 0) (mt := q_m111) q_hW (q_hF10 (q_in_ws 111)) (fun h => Bool.noConfusion h) (q_hK10 (q_in_ws 111) hS) (q_hN10 (q_in_ws 111)) (q_hG10 (q_in_ws 111)) (q_hP10 (q_in_ws 111)) q_d111 (fun h => absurd rfl h)⟩
set_option maxRecDepth 100000 in
theorem q_Q112 : q_Q 112 := ⟨by decide +kernel, q_hS10, rfl, fun z s meth hS hnm => q_mkTab (q_in_ws 112) (own := "SlipDrawer") (cc := prog_1_method_17_code) (nL := 4) (cx := 0) (mt := q_m112) q_hW (q_hF10 (q_in_ws 112)) (fun h => Bool.noConfusion h) (q_hK10 (q_in_ws 112) hS) (q_hN10 (q_in_ws 112)) (q_hG10 (q_in_ws 112)) (q_hP10 (q_in_ws 112)) q_d112 (fun h => absurd rfl h)⟩
set_option maxRecDepth 100000 in
theorem q_Q113 : q_Q 113 := ⟨by decide +kernel, q_hS10, rfl, fun z s meth hS hnm => q_mkTab (q_in_ws 113) (own := "SlipDrawer") (cc := prog_1_method_18_code) (nL := 5) (cx := 0) (mt := q_m113) q_hW (q_hF10 (q_in_ws 113)) (fun h => Bool.noConfusion h) (q_hK10 (q_in_ws 113) hS) (q_hN10 (q_in_ws 113)) (q_hG10 (q_in_ws 113)) (q_hP10 (q_in_ws 113)) q_d113 (fun h => absurd rfl h)⟩
set_option maxRecDepth 100000 in
theorem q_Q114 : q_Q 114 := ⟨by decide +kernel, q_hS10, rfl, fun z s meth hS hnm => q_mkTab (q_in_ws 114) (own := "SlipDrawer") (cc := prog_1_method_19_code) (nL := 9) (cx := 0) (mt := q_m114) q_hW (q_hF10 (q_in_ws 114)) (fun h => Bool.noConfusion h) (q_hK10 (q_in_ws 114) hS) (q_hN10 (q_in_ws 114)) (q_hG10 (q_in_ws 114)) (q_hP10 (q_in_ws 114)) q_d114 (fun h => absurd rfl h)⟩
set_option maxRecDepth 100000 in
theorem q_Q115 : q_Q 115 := ⟨by decide +kernel, q_hS10, rfl, fun z s meth hS hnm => q_mkTab (q_in_ws 115) (own := "SlipDrawer") (cc := prog_1_method_20_code) (nL := 5) (cx := 0) (mt := q_m115) q_hW (q_hF10 (q_in_ws 115)) (fun h => Bool.noConfusion h) (q_hK10 (q_in_ws 115) hS) (q_hN10 (q_in_ws 115)) (q_hG10 (q_in_ws 115)) (q_hP10 (q_in_ws 115)) q_d115 (fun h => absurd rfl h)⟩
set_option maxRecDepth 100000 in
theorem q_Q116 : q_Q 116 := ⟨by decide +kernel, q_hS10, rfl, fun z s meth hS hnm => q_mkTab (q_in_ws 116) (own := "SlipDrawer") (cc := prog_1_method_21_code) (nL := 7) (cx := 0) (mt := q_m116) q_hW (q_hF10 (q_in_ws 116)) (fun h => Bool.noConfusion h) (q_hK10 (q_in_ws 116) hS) (q_hN10 (q_in_ws 116)) (q_hG10 (q_in_ws 116)) (q_hP10 (q_in_ws 116)) q_d116 (fun h => absurd rfl h)⟩
set_option maxRecDepth 100000 in
theorem q_Q117 : q_Q 117 := ⟨by decide +kernel, q_hS10, rfl, fun z s meth hS hnm => q_mkTab (q_in_ws 117) (own := "SlipDrawer") (cc := prog_1_method_22_code) (nL := 5) (cx := 0) (mt := q_m117) q_hW (q_hF10 (q_in_ws 117)) (fun h => Bool.noConfusion h) (q_hK10 (q_in_ws 117) hS) (q_hN10 (q_in_ws 117)) (q_hG10 (q_in_ws 117)) (q_hP10 (q_in_ws 117)) q_d117 (fun h => absurd rfl h)⟩
set_option maxRecDepth 100000 in
theorem q_Q118 : q_Q 118 := ⟨by decide +kernel, q_hS10, rfl, fun z s meth hS hnm => q_mkTab (q_in_ws 118) (own := "SlipDrawer") (cc := prog_1_method_23_code) (nL := 2) (cx := 0) (mt := q_m118) q_hW (q_hF10 (q_in_ws 118)) (fun h => Bool.noConfusion h) (q_hK10 (q_in_ws 118) hS) (q_hN10 (q_in_ws 118)) (q_hG10 (q_in_ws 118)) (q_hP10 (q_in_ws 118)) q_d118 (fun h => absurd rfl h)⟩
set_option maxRecDepth 100000 in
theorem q_Q119 : q_Q 119 := ⟨by decide +kernel, q_hS10, rfl, fun z s meth hS hnm => q_mkTab (q_in_ws 119) (own := "SlipDrawer") (cc := prog_1_method_24_code) (nL := 1) (cx := 0) (mt := q_m119) q_hW (q_hF10 (q_in_ws 119)) (fun h => Bool.noConfusion h) (q_hK10 (q_in_ws 119) hS) (q_hN10 (q_in_ws 119)) (q_hG10 (q_in_ws 119)) (q_hP10 (q_in_ws 119)) q_d119 (fun h => absurd rfl h)⟩
set_option maxRecDepth 100000 in
theorem q_Q120 : q_Q 120 := ⟨by decide +kernel, q_hS10, rfl, fun z s meth hS hnm => q_mkTab (q_in_ws 120) (own := "SlipDrawer") (cc := prog_1_method_25_code) (nL := 2) (cx := 0) (mt := q_m120) q_hW (q_hF10 (q_in_ws 120)) (fun h => Bool.noConfusion h) (q_hK10 (q_in_ws 120) hS) (q_hN10 (q_in_ws 120)) (q_hG10 (q_in_ws 120)) (q_hP10 (q_in_ws 120)) q_d120 (fun h => absurd rfl h)⟩
set_option maxRecDepth 100000 in
theorem q_Q121 : q_Q 121 := ⟨by decide +kernel, q_hS10, rfl, fun z s meth hS hnm => q_mkTab (q_in_ws 121) (own := "SlipDrawer") (cc := prog_1_method_26_code) (nL := 4) (cx := 0) (mt := q_m121) q_hW (q_hF10 (q_in_ws 121)) (fun h => Bool.noConfusion h) (q_hK10 (q_in_ws 121) hS) (q_hN10 (q_in_ws 121)) (q_hG10 (q_in_ws 121)) (q_hP10 (q_in_ws 121)) q_d121 (fun h => absurd rfl h)⟩
set_option maxRecDepth 100000 in
theorem q_Q122 : q_Q 122 := ⟨by decide +kernel, q_hS10, rfl, fun z s meth hS hnm => q_mkTab (q_in_ws 122) (own := "SlipDrawer") (cc := prog_1_method_27_code) (nL := 6) (cx := 0) (mt := q_m122) q_hW (q_hF10 (q_in_ws 122)) (fun h => Bool.noConfusion h) (q_hK10 (q_in_ws 122) hS) (q_hN10 (q_in_ws 122)) (q_hG10 (q_in_ws 122)) (q_hP10 (q_in_ws 122)) q_d122 (fun h => absurd rfl h)⟩
set_option maxRecDepth 100000 in
theorem q_Q123 : q_Q 123 := ⟨by decide +kernel, q_hS10, rfl, fun z s meth hS hnm => q_mkTab (q_in_ws 123) (own := "SlipDrawer") (cc := prog_1_method_28_code) (nL := 5) (cx := 0) (mt := q_m123) q_hW (q_hF10 (q_in_ws 123)) (fun h => Bool.noConfusion h) (q_hK10 (q_in_ws 123) hS) (q_hN10 (q_in_ws 123)) (q_hG10 (q_in_ws 123)) (q_hP10 (q_in_ws 123)) q_d123 (fun h => absurd rfl h)⟩
set_option maxRecDepth 100000 in
theorem q_Q124 : q_Q 124 := ⟨by decide +kernel, q_hS10, rfl, fun z s meth hS hnm => q_mkTab (q_in_ws 124) (own := "SlipDrawer") (cc := prog_1_method_29_code) (nL := 7) (cx := 0) (mt := q_m124) q_hW (q_hF10 (q_in_ws 124)) (fun h => Bool.noConfusion h) (q_hK10 (q_in_ws 124) hS) (q_hN10 (q_in_ws 124)) (q_hG10 (q_in_ws 124)) (q_hP10 (q_in_ws 124)) q_d124 (fun h => absurd rfl h)⟩
set_option maxRecDepth 100000 in
theorem q_Q125 : q_Q 125 := ⟨by decide +kernel, q_hS10, rfl, fun z s meth hS hnm => q_mkTab (q_in_ws 125) (own := "SlipDrawer") (cc := prog_1_method_30_code) (nL := 5) (cx := 0) (mt := q_m125) q_hW (q_hF10 (q_in_ws 125)) (fun h => Bool.noConfusion h) (q_hK10 (q_in_ws 125) hS) (q_hN10 (q_in_ws 125)) (q_hG10 (q_in_ws 125)) (q_hP10 (q_in_ws 125)) q_d125 (fun h => absurd rfl h)⟩
set_option maxRecDepth 100000 in
theorem q_Q126 : q_Q 126 := ⟨by decide +kernel, q_hS10, rfl, fun z s meth hS hnm => q_mkTab (q_in_ws 126) (own := "SlipDrawer") (cc := prog_1_method_31_code) (nL := 5) (cx := 0) (mt := q_m126) q_hW (q_hF10 (q_in_ws 126)) (fun h => Bool.noConfusion h) (q_hK10 (q_in_ws 126) hS) (q_hN10 (q_in_ws 126)) (q_hG10 (q_in_ws 126)) (q_hP10 (q_in_ws 126)) q_d126 (fun h => absurd rfl h)⟩
set_option maxRecDepth 100000 in
theorem q_Q127 : q_Q 127 := ⟨by decide +kernel, q_hS10, rfl, fun z s meth hS hnm => q_mkTab (q_in_ws 127) (own := "SlipDrawer") (cc := prog_1_method_32_code) (nL := 6) (cx := 0) (mt := q_m127) q_hW (q_hF10 (q_in_ws 127)) (fun h => Bool.noConfusion h) (q_hK10 (q_in_ws 127) hS) (q_hN10 (q_in_ws 127)) (q_hG10 (q_in_ws 127)) (q_hP10 (q_in_ws 127)) q_d127 (fun h => absurd rfl h)⟩
set_option maxRecDepth 100000 in
theorem q_Q128 : q_Q 128 := ⟨by decide +kernel, q_hS10, rfl, fun z s meth hS hnm => q_mkTab (q_in_ws 128) (own := "SlipDrawer") (cc := prog_1_method_33_code) (nL := 7) (cx := 0) (mt := q_m128) q_hW (q_hF10 (q_in_ws 128)) (fun h => Bool.noConfusion h) (q_hK10 (q_in_ws 128) hS) (q_hN10 (q_in_ws 128)) (q_hG10 (q_in_ws 128)) (q_hP10 (q_in_ws 128)) q_d128 (fun h => absurd rfl h)⟩
set_option maxRecDepth 100000 in
theorem q_Q129 : q_Q 129 := ⟨by decide +kernel, q_hS10, rfl, fun z s meth hS hnm => q_mkTab (q_in_ws 129) (own := "SlipDrawer") (cc := prog_1_method_34_code) (nL := 8) (cx := 0) (mt := q_m129) q_hW (q_hF10 (q_in_ws 129)) (fun h => Bool.noConfusion h) (q_hK10 (q_in_ws 129) hS) (q_hN10 (q_in_ws 129)) (q_hG10 (q_in_ws 129)) (q_hP10 (q_in_ws 129)) q_d129 (fun h => absurd rfl h)⟩
set_option maxRecDepth 100000 in
theorem q_Q130 : q_Q 130 := ⟨by decide +kernel, q_hS10, rfl, fun z s meth hS hnm => q_mkTab (q_in_ws 130) (own := "SlipDrawer") (cc := prog_1_method_35_code) (nL := 10) (cx := 0) (mt := q_m130) q_hW (q_hF10 (q_in_ws 130)) (fun h => Bool.noConfusion h) (q_hK10 (q_in_ws 130) hS) (q_hN10 (q_in_ws 130)) (q_hG10 (q_in_ws 130)) (q_hP10 (q_in_ws 130)) q_d130 (fun h => absurd rfl h)⟩
set_option maxRecDepth 100000 in
theorem q_Q131 : q_Q 131 := ⟨by decide +kernel, q_hS10, rfl, fun z s meth hS hnm => q_mkTab (q_in_ws 131) (own := "SlipDrawer") (cc := prog_1_method_36_code) (nL := 1) (cx := 0) (mt := q_m131) q_hW (q_hF10 (q_in_ws 131)) (fun h => Bool.noConfusion h) (q_hK10 (q_in_ws 131) hS) (q_hN10 (q_in_ws 131)) (q_hG10 (q_in_ws 131)) (q_hP10 (q_in_ws 131)) q_d131 (fun h => absurd rfl h)⟩
set_option maxRecDepth 100000 in
theorem q_Q132 : q_Q 132 := ⟨by decide +kernel, q_hS10, rfl, fun z s meth hS hnm => q_mkTab (q_in_ws 132) (own := "SlipDrawer") (cc := prog_1_method_37_code) (nL := 2) (cx := 0) (mt := q_m132) q_hW (q_hF10 (q_in_ws 132)) (fun h => Bool.noConfusion h) (q_hK10 (q_in_ws 132) hS) (q_hN10 (q_in_ws 132)) (q_hG10 (q_in_ws 132)) (q_hP10 (q_in_ws 132)) q_d132 (fun h => absurd rfl h)⟩
set_option maxRecDepth 100000 in
theorem q_Q133 : q_Q 133 := ⟨by decide +kernel, q_hS10, rfl, fun z s meth hS hnm => q_mkTab (q_in_ws 133) (own := "SlipDrawer") (cc := prog_1_method_38_code) (nL := 2) (cx := 0) (mt := q_m133) q_hW (q_hF10 (q_in_ws 133)) (fun h => Bool.noConfusion h) (q_hK10 (q_in_ws 133) hS) (q_hN10 (q_in_ws 133)) (q_hG10 (q_in_ws 133)) (q_hP10 (q_in_ws 133)) q_d133 (fun h => absurd rfl h)⟩
set_option maxRecDepth 100000 in
theorem q_Q134 : q_Q 134 := ⟨by decide +kernel, q_hS10, rfl, fun z s meth hS hnm => q_mkTab (q_in_ws 134) (own := "SlipDrawer") (cc := prog_1_method_39_code) (nL := 1) (cx := 0) (mt := q_m134) q_hW (q_hF10 (q_in_ws 134)) (fun h => Bool.noConfusion h) (q_hK10 (q_in_ws 134) hS) (q_hN10 (q_in_ws 134)) (q_hG10 (q_in_ws 134)) (q_hP10 (q_in_ws 134)) q_d134 (fun h => absurd rfl h)⟩
set_option maxRecDepth 100000 in
theorem q_Q135 : q_Q 135 := ⟨by decide +kernel, q_hS10, rfl, fun z s meth hS hnm => q_mkTab (q_in_ws 135) (own := "SlipDrawer") (cc := prog_1_method_40_code) (nL := 2) (cx := 0) (mt := q_m135) q_hW (q_hF10 (q_in_ws 135)) (fun h => Bool.noConfusion h) (q_hK10 (q_in_ws 135) hS) (q_hN10 (q_in_ws 135)) (q_hG10 (q_in_ws 135)) (q_hP10 (q_in_ws 135)) q_d135 (fun h => absurd rfl h)⟩
set_option maxRecDepth 100000 in
theorem q_Q136 : q_Q 136 := ⟨by decide +kernel, q_hS10, rfl, fun z s meth hS hnm => q_mkTab (q_in_ws 136) (own := "SlipDrawer") (cc := prog_1_method_41_code) (nL := 2) (cx := 0) (mt := q_m136) q_hW (q_hF10 (q_in_ws 136)) (fun h => Bool.noConfusion h) (q_hK10 (q_in_ws 136) hS) (q_hN10 (q_in_ws 136)) (q_hG10 (q_in_ws 136)) (q_hP10 (q_in_ws 136)) q_d136 (fun h => absurd rfl h)⟩
set_option maxRecDepth 100000 in
theorem q_Q137 : q_Q 137 := ⟨by decide +kernel, q_hS10, rfl, fun z s meth hS hnm => q_mkTab (q_in_ws 137) (own := "SlipDrawer") (cc := prog_1_method_42_code) (nL := 3) (cx := 0) (mt := q_m137) q_hW (q_hF10 (q_in_ws 137)) (fun h => Bool.noConfusion h) (q_hK10 (q_in_ws 137) hS) (q_hN10 (q_in_ws 137)) (q_hG10 (q_in_ws 137)) (q_hP10 (q_in_ws 137)) q_d137 (fun h => absurd rfl h)⟩
set_option maxRecDepth 100000 in
theorem q_Q138 : q_Q 138 := ⟨by decide +kernel, q_hS10, rfl, fun z s meth hS hnm => q_mkTab (q_in_ws 138) (own := "SlipDrawer") (cc := prog_1_method_43_code) (nL := 4) (cx := 0) (mt := q_m138) q_hW (q_hF10 (q_in_ws 138)) (fun h => Bool.noConfusion h) (q_hK10 (q_in_ws 138) hS) (q_hN10 (q_in_ws 138)) (q_hG10 (q_in_ws 138)) (q_hP10 (q_in_ws 138)) q_d138 (fun h => absurd rfl h)⟩
set_option maxRecDepth 100000 in
theorem q_Q139 : q_Q 139 := ⟨by decide +kernel, q_hS10, rfl, fun z s meth hS hnm => q_mkTab (q_in_ws 139) (own := "SlipDrawer") (cc := prog_1_method_44_code) (nL := 3) (cx := 0) (mt := q_m139) q_hW (q_hF10 (q_in_ws 139)) (fun h => Bool.noConfusion h) (q_hK10 (q_in_ws 139) hS) (q_hN10 (q_in_ws 139)) (q_hG10 (q_in_ws 139)) (q_hP10 (q_in_ws 139)) q_d139 (fun h => absurd rfl h)⟩
set_option maxRecDepth 100000 in
theorem q_Q140 : q_Q 140 := ⟨by decide +kernel, q_hS10, rfl, fun z s meth hS hnm => q_mkTab (q_in_ws 140) (own := "SlipDrawer") (cc := prog_1_method_45_code) (nL := 4) (cx := 0) (mt := q_m140) q_hW (q_hF10 (q_in_ws 140)) (fun h => Bool.noConfusion h) (q_hK10 (q_in_ws 140) hS) (q_hN10 (q_in_ws 140)) (q_hG10 (q_in_ws 140)) (q_hP10 (q_in_ws 140)) q_d140 (fun h => absurd rfl h)⟩
set_option maxRecDepth 100000 in
theorem q_Q141 : q_Q 141 := ⟨by decide +kernel, q_hS10, rfl, fun z s meth hS hnm => q_mkTab (q_in_ws 141) (own := "SlipDrawer") (cc := prog_1_method_46_code) (nL := 4) (cx := 0) (mt := q_m141) q_hW (q_hF10 (q_in_ws 141)) (fun h => Bool.noConfusion h) (q_hK10 (q_in_ws 141) hS) (q_hN10 (q_in_ws 141)) (q_hG10 (q_in_ws 141)) (q_hP10 (q_in_ws 141)) q_d141 (fun h => absurd rfl h)⟩
set_option maxRecDepth 100000 in
theorem q_Q142 : q_Q 142 := ⟨by decide +kernel, q_hS10, rfl, fun z s meth hS hnm => q_mkTab (q_in_ws 142) (own := "SlipDrawer") (cc := prog_1_method_47_code) (nL := 3) (cx := 0) (mt := q_m142) q_hW (q_hF10 (q_in_ws 142)) (fun h => Bool.noConfusion h) (q_hK10 (q_in_ws 142) hS) (q_hN10 (q_in_ws 142)) (q_hG10 (q_in_ws 142)) (q_hP10 (q_in_ws 142)) q_d142 (fun h => absurd rfl h)⟩
set_option maxRecDepth 100000 in
theorem q_Q143 : q_Q 143 := ⟨by decide +kernel, q_hS10, rfl, fun z s meth hS hnm => q_mkTab (q_in_ws 143) (own := "SlipDrawer") (cc := prog_1_method_48_code) (nL := 5) (cx := 0) (mt := q_m143) q_hW (q_hF10 (q_in_ws 143)) (fun h => Bool.noConfusion h) (q_hK10 (q_in_ws 143) hS) (q_hN10 (q_in_ws 143)) (q_hG10 (q_in_ws 143)) (q_hP10 (q_in_ws 143)) q_d143 (fun h => absurd rfl h)⟩
set_option maxRecDepth 100000 in
theorem q_Q144 : q_Q 144 := ⟨by decide +kernel, q_hS10, rfl, fun z s meth hS hnm => q_mkTab (q_in_ws 144) (own := "SlipDrawer") (cc := prog_1_method_49_code) (nL := 7) (cx := 0) (mt := q_m144) q_hW (q_hF10 (q_in_ws 144)) (fun h => Bool.noConfusion h) (q_hK10 (q_in_ws 144) hS) (q_hN10 (q_in_ws 144)) (q_hG10 (q_in_ws 144)) (q_hP10 (q_in_ws 144)) q_d144 (fun h => absurd rfl h)⟩
set_option maxRecDepth 100000 in
theorem q_Q145 : q_Q 145 := ⟨by decide +kernel, q_hS11, rfl, fun z s meth hS hnm => q_mkTab (q_in_ws 145) (own := "SlipDrawerModel") (cc := prog_13_method_1_code) (nL := 1) (cx := 0) (mt := q_m145) q_hW (q_hF11 (q_in_ws 145)) (fun _ => hnm) (q_hK11 (q_in_ws 145) hS) (q_hN11 (q_in_ws 145)) (q_hG11 (q_in_ws 145)) (q_hP11 (q_in_ws 145)) q_d145 (fun h => absurd rfl h)⟩
set_option maxRecDepth 100000 in
theorem q_Q146 : q_Q 146 := ⟨by decide +kernel, q_hS11, rfl, fun z s meth hS hnm => q_mkTab (q_in_ws 146) (own := "SlipDrawerModel") (cc := prog_13_method_2_code) (nL := 6) (cx := 0) (mt := q_m146) q_hW (q_hF11 (q_in_ws 146)) (fun h => Bool.noConfusion h) (q_hK11 (q_in_ws 146) hS) (q_hN11 (q_in_ws 146)) (q_hG11 (q_in_ws 146)) (q_hP11 (q_in_ws 146)) q_d146 (fun h => absurd rfl h)⟩
set_option maxRecDepth 100000 in
theorem q_Q147 : q_Q 147 := ⟨by decide +kernel, q_hS11, rfl, fun z s meth hS hnm => q_mkTab (q_in_ws 147) (own := "SlipDrawerModel") (cc := prog_13_method_3_code) (nL := 8) (cx := 0) (mt := q_m147) q_hW (q_hF11 (q_in_ws 147)) (fun h => Bool.noConfusion h) (q_hK11 (q_in_ws 147) hS) (q_hN11 (q_in_ws 147)) (q_hG11 (q_in_ws 147)) (q_hP11 (q_in_ws 147)) q_d147 (fun h => absurd rfl h)⟩
set_option maxRecDepth 100000 in
theorem q_Q148 : q_Q 148 := ⟨by decide +kernel, q_hS11, rfl, fun z s meth hS hnm => q_mkTab (q_in_ws 148) (own := "SlipDrawerModel") (cc := prog_13_method_4_code) (nL := 2) (cx := 0) (mt := q_m148) q_hW (q_hF11 (q_in_ws 148)) (fun h => Bool.noConfusion h) (q_hK11 (q_in_ws 148) hS) (q_hN11 (q_in_ws 148)) (q_hG11 (q_in_ws 148)) (q_hP11 (q_in_ws 148)) q_d148 (fun h => absurd rfl h)⟩
set_option maxRecDepth 100000 in
theorem q_Q149 : q_Q 149 := ⟨by decide +kernel, q_hS11, rfl, fun z s meth hS hnm => q_mkTab (q_in_ws 149) (own := "SlipDrawerModel") (cc := prog_13_method_5_code) (nL := 3) (cx := 0) (mt := q_m149) q_hW (q_hF11 (q_in_ws 149)) (fun h => Bool.noConfusion h) (q_hK11 (q_in_ws 149) hS) (q_hN11 (q_in_ws 149)) (q_hG11 (q_in_ws 149)) (q_hP11 (q_in_ws 149)) q_d149 (fun h => absurd rfl h)⟩
set_option maxRecDepth 100000 in
theorem q_Q150 : q_Q 150 := ⟨by decide +kernel, q_hS11, rfl, fun z s meth hS hnm => q_mkTab (q_in_ws 150) (own := "SlipDrawerModel") (cc := prog_13_method_6_code) (nL := 1) (cx := 0) (mt := q_m150) q_hW (q_hF11 (q_in_ws 150)) (fun h => Bool.noConfusion h) (q_hK11 (q_in_ws 150) hS) (q_hN11 (q_in_ws 150)) (q_hG11 (q_in_ws 150)) (q_hP11 (q_in_ws 150)) q_d150 (fun h => absurd rfl h)⟩
set_option maxRecDepth 100000 in
theorem q_Q151 : q_Q 151 := ⟨by decide +kernel, q_hS11, rfl, fun z s meth hS hnm => q_mkTab (q_in_ws 151) (own := "SlipDrawerModel") (cc := prog_13_method_7_code) (nL := 1) (cx := 0) (mt := q_m151) q_hW (q_hF11 (q_in_ws 151)) (fun h => Bool.noConfusion h) (q_hK11 (q_in_ws 151) hS) (q_hN11 (q_in_ws 151)) (q_hG11 (q_in_ws 151)) (q_hP11 (q_in_ws 151)) q_d151 (fun h => absurd rfl h)⟩
set_option maxRecDepth 100000 in
theorem q_Q152 : q_Q 152 := ⟨by decide +kernel, q_hS11, rfl, fun z s meth hS hnm => q_mkTab (q_in_ws 152) (own := "SlipDrawerModel") (cc := prog_13_method_8_code) (nL := 1) (cx := 0) (mt := q_m152) q_hW (q_hF11 (q_in_ws 152)) (fun h => Bool.noConfusion h) (q_hK11 (q_in_ws 152) hS) (q_hN11 (q_in_ws 152)) (q_hG11 (q_in_ws 152)) (q_hP11 (q_in_ws 152)) q_d152 (fun h => absurd rfl h)⟩
set_option maxRecDepth 100000 in
theorem q_Q153 : q_Q 153 := ⟨by decide +kernel, q_hS11, rfl, fun z s meth hS hnm => q_mkTab (q_in_ws 153) (own := "SlipDrawerModel") (cc := prog_13_method_9_code) (nL := 4) (cx := 0) (mt := q_m153) q_hW (q_hF11 (q_in_ws 153)) (fun h => Bool.noConfusion h) (q_hK11 (q_in_ws 153) hS) (q_hN11 (q_in_ws 153)) (q_hG11 (q_in_ws 153)) (q_hP11 (q_in_ws 153)) q_d153 (fun h => absurd rfl h)⟩
set_option maxRecDepth 100000 in
theorem q_Q154 : q_Q 154 := ⟨by decide +kernel, q_hS11, rfl, fun z s meth hS hnm => q_mkTab (q_in_ws 154) (own := "SlipDrawerModel") (cc := prog_13_method_10_code) (nL := 2) (cx := 0) (mt := q_m154) q_hW (q_hF11 (q_in_ws 154)) (fun h => Bool.noConfusion h) (q_hK11 (q_in_ws 154) hS) (q_hN11 (q_in_ws 154)) (q_hG11 (q_in_ws 154)) (q_hP11 (q_in_ws 154)) q_d154 (fun h => absurd rfl h)⟩
set_option maxRecDepth 100000 in
theorem q_Q155 : q_Q 155 := ⟨by decide +kernel, q_hS11, rfl, fun z s meth hS hnm => q_mkTab (q_in_ws 155) (own := "SlipDrawerModel") (cc := prog_13_method_11_code) (nL := 2) (cx := 0) (mt := q_m155) q_hW (q_hF11 (q_in_ws 155)) (fun h => Bool.noConfusion h) (q_hK11 (q_in_ws 155) hS) (q_hN11 (q_in_ws 155)) (q_hG11 (q_in_ws 155)) (q_hP11 (q_in_ws 155)) q_d155 (fun h => absurd rfl h)⟩
set_option maxRecDepth 100000 in
theorem q_Q156 : q_Q 156 := ⟨by decide +kernel, q_hS11, rfl, fun z s meth hS hnm => q_mkTab (q_in_ws 156) (own := "SlipDrawerModel") (cc := prog_13_method_12_code) (nL := 2) (cx := 0) (mt := q_m156) q_hW (q_hF11 (q_in_ws 156)) (fun h => Bool.noConfusion h) (q_hK11 (q_in_ws 156) hS) (q_hN11 (q_in_ws 156)) (q_hG11 (q_in_ws 156)) (q_hP11 (q_in_ws 156)) q_d156 (fun h => absurd rfl h)⟩
set_option maxRecDepth 100000 in
theorem q_Q157 : q_Q 157 := ⟨by decide +kernel, q_hS11, rfl, fun z s meth hS hnm => q_mkTab (q_in_ws 157) (own := "SlipDrawerModel") (cc := prog_13_method_13_code) (nL := 2) (cx := 0) (mt := q_m157) q_hW (q_hF11 (q_in_ws 157)) (fun h => Bool.noConfusion h) (q_hK11 (q_in_ws 157) hS) (q_hN11 (q_in_ws 157)) (q_hG11 (q_in_ws 157)) (q_hP11 (q_in_ws 157)) q_d157 (fun h => absurd rfl h)⟩
set_option maxRecDepth 100000 in
theorem q_Q158 : q_Q 158 := ⟨by decide +kernel, q_hS11, rfl, fun z s meth hS hnm => q_mkTab (q_in_ws 158) (own := "SlipDrawerModel") (cc := prog_13_method_14_code) (nL := 5) (cx := 0) (mt := q_m158) q_hW (q_hF11 (q_in_ws 158)) (fun h => Bool.noConfusion h) (q_hK11 (q_in_ws 158) hS) (q_hN11 (q_in_ws 158)) (q_hG11 (q_in_ws 158)) (q_hP11 (q_in_ws 158)) q_d158 (fun h => absurd rfl h)⟩
set_option maxRecDepth 100000 in
theorem q_Q159 : q_Q 159 := ⟨by decide +kernel, q_hS11, rfl, fun z s meth hS hnm => q_mkTab (q_in_ws 159) (own := "SlipDrawerModel") (cc := prog_13_method_15_code) (nL := 1) (cx := 0) (mt := q_m159) q_hW (q_hF11 (q_in_ws 159)) (fun h => Bool.noConfusion h) (q_hK11 (q_in_ws 159) hS) (q_hN11 (q_in_ws 159)) (q_hG11 (q_in_ws 159)) (q_hP11 (q_in_ws 159)) q_d159 (fun h => absurd rfl h)⟩
set_option maxRecDepth 100000 in
theorem q_Q160 : q_Q 160 := ⟨by decide +kernel, q_hS11, rfl, fun z s meth hS hnm => q_mkTab (q_in_ws 160) (own := "SlipDrawerModel") (cc := prog_13_method_16_code) (nL := 3) (cx := 0) (mt := q_m160) q_hW (q_hF11 (q_in_ws 160)) (fun h => Bool.noConfusion h) (q_hK11 (q_in_ws 160) hS) (q_hN11 (q_in_ws 160)) (q_hG11 (q_in_ws 160)) (q_hP11 (q_in_ws 160)) q_d160 (fun h => absurd rfl h)⟩
set_option maxRecDepth 100000 in
theorem q_Q161 : q_Q 161 := ⟨by decide +kernel, q_hS11, rfl, fun z s meth hS hnm => q_mkTab (q_in_ws 161) (own := "SlipDrawerModel") (cc := prog_13_method_17_code) (nL := 4) (cx := 0) (mt := q_m161) q_hW (q_hF11 (q_in_ws 161)) (fun h => Bool.noConfusion h) (q_hK11 (q_in_ws 161) hS) (q_hN11 (q_in_ws 161)) (q_hG11 (q_in_ws 161)) (q_hP11 (q_in_ws 161)) q_d161 (fun h => absurd rfl h)⟩
set_option maxRecDepth 100000 in
theorem q_Q162 : q_Q 162 := ⟨by decide +kernel, q_hS11, rfl, fun z s meth hS hnm => q_mkTab (q_in_ws 162) (own := "SlipDrawerModel") (cc := prog_13_method_18_code) (nL := 7) (cx := 0) (mt := q_m162) q_hW (q_hF11 (q_in_ws 162)) (fun h => Bool.noConfusion h) (q_hK11 (q_in_ws 162) hS) (q_hN11 (q_in_ws 162)) (q_hG11 (q_in_ws 162)) (q_hP11 (q_in_ws 162)) q_d162 (fun h => absurd rfl h)⟩
set_option maxRecDepth 100000 in
theorem q_Q163 : q_Q 163 := ⟨by decide +kernel, q_hS11, rfl, fun z s meth hS hnm => q_mkTab (q_in_ws 163) (own := "SlipDrawerModel") (cc := prog_13_method_19_code) (nL := 11) (cx := 0) (mt := q_m163) q_hW (q_hF11 (q_in_ws 163)) (fun h => Bool.noConfusion h) (q_hK11 (q_in_ws 163) hS) (q_hN11 (q_in_ws 163)) (q_hG11 (q_in_ws 163)) (q_hP11 (q_in_ws 163)) q_d163 (fun h => absurd rfl h)⟩
set_option maxRecDepth 100000 in
theorem q_Q164 : q_Q 164 := ⟨by decide +kernel, q_hS11, rfl, fun z s meth hS hnm => q_mkTab (q_in_ws 164) (own := "SlipDrawerModel") (cc := prog_13_method_20_code) (nL := 2) (cx := 0) (mt := q_m164) q_hW (q_hF11 (q_in_ws 164)) (fun h => Bool.noConfusion h) (q_hK11 (q_in_ws 164) hS) (q_hN11 (q_in_ws 164)) (q_hG11 (q_in_ws 164)) (q_hP11 (q_in_ws 164)) q_d164 (fun h => absurd rfl h)⟩
set_option maxRecDepth 100000 in
theorem q_Q165 : q_Q 165 := ⟨by decide +kernel, q_hS11, rfl, fun z s meth hS hnm => q_mkTab (q_in_ws 165) (own := "SlipDrawerModel") (cc := prog_13_method_21_code) (nL := 2) (cx := 0) (mt := q_m165) q_hW (q_hF11 (q_in_ws 165)) (fun h => Bool.noConfusion h) (q_hK11 (q_in_ws 165) hS) (q_hN11 (q_in_ws 165)) (q_hG11 (q_in_ws 165)) (q_hP11 (q_in_ws 165)) q_d165 (fun h => absurd rfl h)⟩
set_option maxRecDepth 100000 in
theorem q_Q166 : q_Q 166 := ⟨by decide +kernel, q_hS11, rfl, fun z s meth hS hnm => q_mkTab (q_in_ws 166) (own := "SlipDrawerModel") (cc := prog_13_method_22_code) (nL := 4) (cx := 0) (mt := q_m166) q_hW (q_hF11 (q_in_ws 166)) (fun h => Bool.noConfusion h) (q_hK11 (q_in_ws 166) hS) (q_hN11 (q_in_ws 166)) (q_hG11 (q_in_ws 166)) (q_hP11 (q_in_ws 166)) q_d166 (fun h => absurd rfl h)⟩
set_option maxRecDepth 100000 in
theorem q_Q167 : q_Q 167 := ⟨by decide +kernel, q_hS11, rfl, fun z s meth hS hnm => q_mkTab (q_in_ws 167) (own := "SlipDrawerModel") (cc := prog_13_method_23_code) (nL := 2) (cx := 0) (mt := q_m167) q_hW (q_hF11 (q_in_ws 167)) (fun h => Bool.noConfusion h) (q_hK11 (q_in_ws 167) hS) (q_hN11 (q_in_ws 167)) (q_hG11 (q_in_ws 167)) (q_hP11 (q_in_ws 167)) q_d167 (fun h => absurd rfl h)⟩
set_option maxRecDepth 100000 in
theorem q_Q168 : q_Q 168 := ⟨by decide +kernel, q_hS11, rfl, fun z s meth hS hnm => q_mkTab (q_in_ws 168) (own := "SlipDrawerModel") (cc := prog_13_method_24_code) (nL := 3) (cx := 0) (mt := q_m168) q_hW (q_hF11 (q_in_ws 168)) (fun h => Bool.noConfusion h) (q_hK11 (q_in_ws 168) hS) (q_hN11 (q_in_ws 168)) (q_hG11 (q_in_ws 168)) (q_hP11 (q_in_ws 168)) q_d168 (fun h => absurd rfl h)⟩
set_option maxRecDepth 100000 in
theorem q_Q169 : q_Q 169 := ⟨by decide +kernel, q_hS11, rfl, fun z s meth hS hnm => q_mkTab (q_in_ws 169) (own := "SlipDrawerModel") (cc := prog_13_method_25_code) (nL := 2) (cx := 0) (mt := q_m169) q_hW (q_hF11 (q_in_ws 169)) (fun h => Bool.noConfusion h) (q_hK11 (q_in_ws 169) hS) (q_hN11 (q_in_ws 169)) (q_hG11 (q_in_ws 169)) (q_hP11 (q_in_ws 169)) q_d169 (fun h => absurd rfl h)⟩
set_option maxRecDepth 100000 in
theorem q_Q170 : q_Q 170 := ⟨by decide +kernel, q_hS11, rfl, fun z s meth hS hnm => q_mkTab (q_in_ws 170) (own := "SlipDrawerModel") (cc := prog_13_method_26_code) (nL := 1) (cx := 0) (mt := q_m170) q_hW (q_hF11 (q_in_ws 170)) (fun h => Bool.noConfusion h) (q_hK11 (q_in_ws 170) hS) (q_hN11 (q_in_ws 170)) (q_hG11 (q_in_ws 170)) (q_hP11 (q_in_ws 170)) q_d170 (fun h => absurd rfl h)⟩
set_option maxRecDepth 100000 in
theorem q_Q171 : q_Q 171 := ⟨by decide +kernel, q_hS11, rfl, fun z s meth hS hnm => q_mkTab (q_in_ws 171) (own := "SlipDrawerModel") (cc := prog_13_method_27_code) (nL := 2) (cx := 0) (mt := q_m171) q_hW (q_hF11 (q_in_ws 171)) (fun h => Bool.noConfusion h) (q_hK11 (q_in_ws 171) hS) (q_hN11 (q_in_ws 171)) (q_hG11 (q_in_ws 171)) (q_hP11 (q_in_ws 171)) q_d171 (fun h => absurd rfl h)⟩
set_option maxRecDepth 100000 in
theorem q_Q172 : q_Q 172 := ⟨by decide +kernel, q_hS11, rfl, fun z s meth hS hnm => q_mkTab (q_in_ws 172) (own := "SlipDrawerModel") (cc := prog_13_method_28_code) (nL := 2) (cx := 0) (mt := q_m172) q_hW (q_hF11 (q_in_ws 172)) (fun h => Bool.noConfusion h) (q_hK11 (q_in_ws 172) hS) (q_hN11 (q_in_ws 172)) (q_hG11 (q_in_ws 172)) (q_hP11 (q_in_ws 172)) q_d172 (fun h => absurd rfl h)⟩
set_option maxRecDepth 100000 in
theorem q_Q173 : q_Q 173 := ⟨by decide +kernel, q_hS11, rfl, fun z s meth hS hnm => q_mkTab (q_in_ws 173) (own := "SlipDrawerModel") (cc := prog_13_method_29_code) (nL := 1) (cx := 0) (mt := q_m173) q_hW (q_hF11 (q_in_ws 173)) (fun h => Bool.noConfusion h) (q_hK11 (q_in_ws 173) hS) (q_hN11 (q_in_ws 173)) (q_hG11 (q_in_ws 173)) (q_hP11 (q_in_ws 173)) q_d173 (fun h => absurd rfl h)⟩
set_option maxRecDepth 100000 in
theorem q_Q174 : q_Q 174 := ⟨by decide +kernel, q_hS11, rfl, fun z s meth hS hnm => q_mkTab (q_in_ws 174) (own := "SlipDrawerModel") (cc := prog_13_method_30_code) (nL := 5) (cx := 0) (mt := q_m174) q_hW (q_hF11 (q_in_ws 174)) (fun h => Bool.noConfusion h) (q_hK11 (q_in_ws 174) hS) (q_hN11 (q_in_ws 174)) (q_hG11 (q_in_ws 174)) (q_hP11 (q_in_ws 174)) q_d174 (fun h => absurd rfl h)⟩
set_option maxRecDepth 100000 in
theorem q_Q175 : q_Q 175 := ⟨by decide +kernel, q_hS11, rfl, fun z s meth hS hnm => q_mkTab (q_in_ws 175) (own := "SlipDrawerModel") (cc := prog_13_method_31_code) (nL := 2) (cx := 0) (mt := q_m175) q_hW (q_hF11 (q_in_ws 175)) (fun h => Bool.noConfusion h) (q_hK11 (q_in_ws 175) hS) (q_hN11 (q_in_ws 175)) (q_hG11 (q_in_ws 175)) (q_hP11 (q_in_ws 175)) q_d175 (fun h => absurd rfl h)⟩
set_option maxRecDepth 100000 in
theorem q_Q176 : q_Q 176 := ⟨by decide +kernel, q_hS11, rfl, fun z s meth hS hnm => q_mkTab (q_in_ws 176) (own := "SlipDrawerModel") (cc := prog_13_method_32_code) (nL := 3) (cx := 0) (mt := q_m176) q_hW (q_hF11 (q_in_ws 176)) (fun h => Bool.noConfusion h) (q_hK11 (q_in_ws 176) hS) (q_hN11 (q_in_ws 176)) (q_hG11 (q_in_ws 176)) (q_hP11 (q_in_ws 176)) q_d176 (fun h => absurd rfl h)⟩
set_option maxRecDepth 100000 in
theorem q_Q177 : q_Q 177 := ⟨by decide +kernel, q_hS11, rfl, fun z s meth hS hnm => q_mkTab (q_in_ws 177) (own := "SlipDrawerModel") (cc := prog_13_method_33_code) (nL := 2) (cx := 0) (mt := q_m177) q_hW (q_hF11 (q_in_ws 177)) (fun h => Bool.noConfusion h) (q_hK11 (q_in_ws 177) hS) (q_hN11 (q_in_ws 177)) (q_hG11 (q_in_ws 177)) (q_hP11 (q_in_ws 177)) q_d177 (fun h => absurd rfl h)⟩
set_option maxRecDepth 100000 in
theorem q_Q178 : q_Q 178 := ⟨by decide +kernel, q_hS11, rfl, fun z s meth hS hnm => q_mkTab (q_in_ws 178) (own := "SlipDrawerModel") (cc := prog_13_method_34_code) (nL := 2) (cx := 0) (mt := q_m178) q_hW (q_hF11 (q_in_ws 178)) (fun h => Bool.noConfusion h) (q_hK11 (q_in_ws 178) hS) (q_hN11 (q_in_ws 178)) (q_hG11 (q_in_ws 178)) (q_hP11 (q_in_ws 178)) q_d178 (fun h => absurd rfl h)⟩
set_option maxRecDepth 100000 in
theorem q_Q179 : q_Q 179 := ⟨by decide +kernel, q_hS11, rfl, fun z s meth hS hnm => q_mkTab (q_in_ws 179) (own := "SlipDrawerModel") (cc := prog_13_method_35_code) (nL := 1) (cx := 0) (mt := q_m179) q_hW (q_hF11 (q_in_ws 179)) (fun h => Bool.noConfusion h) (q_hK11 (q_in_ws 179) hS) (q_hN11 (q_in_ws 179)) (q_hG11 (q_in_ws 179)) (q_hP11 (q_in_ws 179)) q_d179 (fun h => absurd rfl h)⟩
set_option maxRecDepth 100000 in
theorem q_Q180 : q_Q 180 := ⟨by decide +kernel, q_hS11, rfl, fun z s meth hS hnm => q_mkTab (q_in_ws 180) (own := "SlipDrawerModel") (cc := prog_13_method_36_code) (nL := 3) (cx := 0) (mt := q_m180) q_hW (q_hF11 (q_in_ws 180)) (fun h => Bool.noConfusion h) (q_hK11 (q_in_ws 180) hS) (q_hN11 (q_in_ws 180)) (q_hG11 (q_in_ws 180)) (q_hP11 (q_in_ws 180)) q_d180 (fun h => absurd rfl h)⟩
set_option maxRecDepth 100000 in
theorem q_Q181 : q_Q 181 := ⟨by decide +kernel, q_hS11, rfl, fun z s meth hS hnm => q_mkTab (q_in_ws 181) (own := "SlipDrawerModel") (cc := prog_13_method_37_code) (nL := 1) (cx := 0) (mt := q_m181) q_hW (q_hF11 (q_in_ws 181)) (fun h => Bool.noConfusion h) (q_hK11 (q_in_ws 181) hS) (q_hN11 (q_in_ws 181)) (q_hG11 (q_in_ws 181)) (q_hP11 (q_in_ws 181)) q_d181 (fun h => absurd rfl h)⟩
set_option maxRecDepth 100000 in
theorem q_Q182 : q_Q 182 := ⟨by decide +kernel, q_hS11, rfl, fun z s meth hS hnm => q_mkTab (q_in_ws 182) (own := "SlipDrawerModel") (cc := prog_13_method_38_code) (nL := 2) (cx := 0) (mt := q_m182) q_hW (q_hF11 (q_in_ws 182)) (fun h => Bool.noConfusion h) (q_hK11 (q_in_ws 182) hS) (q_hN11 (q_in_ws 182)) (q_hG11 (q_in_ws 182)) (q_hP11 (q_in_ws 182)) q_d182 (fun h => absurd rfl h)⟩
set_option maxRecDepth 100000 in
theorem q_Q183 : q_Q 183 := ⟨by decide +kernel, q_hS11, rfl, fun z s meth hS hnm => q_mkTab (q_in_ws 183) (own := "SlipDrawerModel") (cc := prog_13_method_39_code) (nL := 4) (cx := 0) (mt := q_m183) q_hW (q_hF11 (q_in_ws 183)) (fun h => Bool.noConfusion h) (q_hK11 (q_in_ws 183) hS) (q_hN11 (q_in_ws 183)) (q_hG11 (q_in_ws 183)) (q_hP11 (q_in_ws 183)) q_d183 (fun h => absurd rfl h)⟩
set_option maxRecDepth 100000 in
theorem q_Q184 : q_Q 184 := ⟨by decide +kernel, q_hS11, rfl, fun z s meth hS hnm => q_mkTab (q_in_ws 184) (own := "SlipDrawerModel") (cc := prog_13_method_40_code) (nL := 5) (cx := 0) (mt := q_m184) q_hW (q_hF11 (q_in_ws 184)) (fun h => Bool.noConfusion h) (q_hK11 (q_in_ws 184) hS) (q_hN11 (q_in_ws 184)) (q_hG11 (q_in_ws 184)) (q_hP11 (q_in_ws 184)) q_d184 (fun h => absurd rfl h)⟩
set_option maxRecDepth 100000 in
theorem q_Q185 : q_Q 185 := ⟨by decide +kernel, q_hS11, rfl, fun z s meth hS hnm => q_mkTab (q_in_ws 185) (own := "SlipDrawerModel") (cc := prog_13_method_41_code) (nL := 2) (cx := 0) (mt := q_m185) q_hW (q_hF11 (q_in_ws 185)) (fun h => Bool.noConfusion h) (q_hK11 (q_in_ws 185) hS) (q_hN11 (q_in_ws 185)) (q_hG11 (q_in_ws 185)) (q_hP11 (q_in_ws 185)) q_d185 (fun h => absurd rfl h)⟩
set_option maxRecDepth 100000 in
theorem q_Q186 : q_Q 186 := ⟨by decide +kernel, q_hS11, rfl, fun z s meth hS hnm => q_mkTab (q_in_ws 186) (own := "SlipDrawerModel") (cc := prog_13_method_42_code) (nL := 1) (cx := 0) (mt := q_m186) q_hW (q_hF11 (q_in_ws 186)) (fun h => Bool.noConfusion h) (q_hK11 (q_in_ws 186) hS) (q_hN11 (q_in_ws 186)) (q_hG11 (q_in_ws 186)) (q_hP11 (q_in_ws 186)) q_d186 (fun h => absurd rfl h)⟩
set_option maxRecDepth 100000 in
theorem q_Q187 : q_Q 187 := ⟨by decide +kernel, q_hS11, rfl, fun z s meth hS hnm => q_mkTab (q_in_ws 187) (own := "SlipDrawerModel") (cc := prog_13_method_43_code) (nL := 2) (cx := 0) (mt := q_m187) q_hW (q_hF11 (q_in_ws 187)) (fun h => Bool.noConfusion h) (q_hK11 (q_in_ws 187) hS) (q_hN11 (q_in_ws 187)) (q_hG11 (q_in_ws 187)) (q_hP11 (q_in_ws 187)) q_d187 (fun h => absurd rfl h)⟩
set_option maxRecDepth 100000 in
theorem q_Q188 : q_Q 188 := ⟨by decide +kernel, q_hS11, rfl, fun z s meth hS hnm => q_mkTab (q_in_ws 188) (own := "SlipDrawerModel") (cc := prog_13_method_44_code) (nL := 3) (cx := 0) (mt := q_m188) q_hW (q_hF11 (q_in_ws 188)) (fun h => Bool.noConfusion h) (q_hK11 (q_in_ws 188) hS) (q_hN11 (q_in_ws 188)) (q_hG11 (q_in_ws 188)) (q_hP11 (q_in_ws 188)) q_d188 (fun h => absurd rfl h)⟩
set_option maxRecDepth 100000 in
theorem q_Q189 : q_Q 189 := ⟨by decide +kernel, q_hS11, rfl, fun z s meth hS hnm => q_mkTab (q_in_ws 189) (own := "SlipDrawerModel") (cc := prog_13_method_45_code) (nL := 4) (cx := 0) (mt := q_m189) q_hW (q_hF11 (q_in_ws 189)) (fun h => Bool.noConfusion h) (q_hK11 (q_in_ws 189) hS) (q_hN11 (q_in_ws 189)) (q_hG11 (q_in_ws 189)) (q_hP11 (q_in_ws 189)) q_d189 (fun h => absurd rfl h)⟩
set_option maxRecDepth 100000 in
theorem q_Q190 : q_Q 190 := ⟨by decide +kernel, q_hS11, rfl, fun z s meth hS hnm => q_mkTab (q_in_ws 190) (own := "SlipDrawerModel") (cc := prog_13_method_46_code) (nL := 4) (cx := 0) (mt := q_m190) q_hW (q_hF11 (q_in_ws 190)) (fun h => Bool.noConfusion h) (q_hK11 (q_in_ws 190) hS) (q_hN11 (q_in_ws 190)) (q_hG11 (q_in_ws 190)) (q_hP11 (q_in_ws 190)) q_d190 (fun h => absurd rfl h)⟩
set_option maxRecDepth 100000 in
theorem q_Q191 : q_Q 191 := ⟨by decide +kernel, q_hS11, rfl, fun z s meth hS hnm => q_mkTab (q_in_ws 191) (own := "SlipDrawerModel") (cc := prog_13_method_47_code) (nL := 3) (cx := 0) (mt := q_m191) q_hW (q_hF11 (q_in_ws 191)) (fun h => Bool.noConfusion h) (q_hK11 (q_in_ws 191) hS) (q_hN11 (q_in_ws 191)) (q_hG11 (q_in_ws 191)) (q_hP11 (q_in_ws 191)) q_d191 (fun h => absurd rfl h)⟩
set_option maxRecDepth 100000 in
theorem q_Q192 : q_Q 192 := ⟨by decide +kernel, q_hS11, rfl, fun z s meth hS hnm => q_mkTab (q_in_ws 192) (own := "SlipDrawerModel") (cc := prog_13_method_48_code) (nL := 2) (cx := 0) (mt := q_m192) q_hW (q_hF11 (q_in_ws 192)) (fun h => Bool.noConfusion h) (q_hK11 (q_in_ws 192) hS) (q_hN11 (q_in_ws 192)) (q_hG11 (q_in_ws 192)) (q_hP11 (q_in_ws 192)) q_d192 (fun h => absurd rfl h)⟩
set_option maxRecDepth 100000 in
theorem q_Q193 : q_Q 193 := ⟨by decide +kernel, q_hS11, rfl, fun z s meth hS hnm => q_mkTab (q_in_ws 193) (own := "SlipDrawerModel") (cc := prog_13_method_49_code) (nL := 3) (cx := 0) (mt := q_m193) q_hW (q_hF11 (q_in_ws 193)) (fun h => Bool.noConfusion h) (q_hK11 (q_in_ws 193) hS) (q_hN11 (q_in_ws 193)) (q_hG11 (q_in_ws 193)) (q_hP11 (q_in_ws 193)) q_d193 (fun h => absurd rfl h)⟩
set_option maxRecDepth 100000 in
theorem q_Q194 : q_Q 194 := ⟨by decide +kernel, q_hS11, rfl, fun z s meth hS hnm => q_mkTab (q_in_ws 194) (own := "SlipDrawerModel") (cc := prog_13_method_50_code) (nL := 2) (cx := 0) (mt := q_m194) q_hW (q_hF11 (q_in_ws 194)) (fun h => Bool.noConfusion h) (q_hK11 (q_in_ws 194) hS) (q_hN11 (q_in_ws 194)) (q_hG11 (q_in_ws 194)) (q_hP11 (q_in_ws 194)) q_d194 (fun h => absurd rfl h)⟩
set_option maxRecDepth 100000 in
theorem q_Q195 : q_Q 195 := ⟨by decide +kernel, q_hS11, rfl, fun z s meth hS hnm => q_mkTab (q_in_ws 195) (own := "SlipDrawerModel") (cc := prog_13_method_51_code) (nL := 7) (cx := 0) (mt := q_m195) q_hW (q_hF11 (q_in_ws 195)) (fun h => Bool.noConfusion h) (q_hK11 (q_in_ws 195) hS) (q_hN11 (q_in_ws 195)) (q_hG11 (q_in_ws 195)) (q_hP11 (q_in_ws 195)) q_d195 (fun h => absurd rfl h)⟩
set_option maxRecDepth 100000 in
theorem q_Q196 : q_Q 196 := ⟨by decide +kernel, q_hS11, rfl, fun z s meth hS hnm => q_mkTab (q_in_ws 196) (own := "SlipDrawerModel") (cc := prog_13_method_52_code) (nL := 8) (cx := 0) (mt := q_m196) q_hW (q_hF11 (q_in_ws 196)) (fun h => Bool.noConfusion h) (q_hK11 (q_in_ws 196) hS) (q_hN11 (q_in_ws 196)) (q_hG11 (q_in_ws 196)) (q_hP11 (q_in_ws 196)) q_d196 (fun h => absurd rfl h)⟩
set_option maxRecDepth 100000 in
theorem q_Q197 : q_Q 197 := ⟨by decide +kernel, q_hS11, rfl, fun z s meth hS hnm => q_mkTab (q_in_ws 197) (own := "SlipDrawerModel") (cc := prog_13_method_53_code) (nL := 5) (cx := 0) (mt := q_m197) q_hW (q_hF11 (q_in_ws 197)) (fun h => Bool.noConfusion h) (q_hK11 (q_in_ws 197) hS) (q_hN11 (q_in_ws 197)) (q_hG11 (q_in_ws 197)) (q_hP11 (q_in_ws 197)) q_d197 (fun h => absurd rfl h)⟩
set_option maxRecDepth 100000 in
theorem q_Q198 : q_Q 198 := ⟨by decide +kernel, q_hS11, rfl, fun z s meth hS hnm => q_mkTab (q_in_ws 198) (own := "SlipDrawerModel") (cc := prog_13_method_54_code) (nL := 9) (cx := 0) (mt := q_m198) q_hW (q_hF11 (q_in_ws 198)) (fun h => Bool.noConfusion h) (q_hK11 (q_in_ws 198) hS) (q_hN11 (q_in_ws 198)) (q_hG11 (q_in_ws 198)) (q_hP11 (q_in_ws 198)) q_d198 (fun h => absurd rfl h)⟩
set_option maxRecDepth 100000 in
theorem q_Q199 : q_Q 199 := ⟨by decide +kernel, q_hS11, rfl, fun z s meth hS hnm => q_mkTab (q_in_ws 199) (own := "SlipDrawerModel") (cc := prog_13_method_55_code) (nL := 4) (cx := 0) (mt := q_m199) q_hW (q_hF11 (q_in_ws 199)) (fun h => Bool.noConfusion h) (q_hK11 (q_in_ws 199) hS) (q_hN11 (q_in_ws 199)) (q_hG11 (q_in_ws 199)) (q_hP11 (q_in_ws 199)) q_d199 (fun h => absurd rfl h)⟩
set_option maxRecDepth 100000 in
theorem q_Q200 : q_Q 200 := ⟨by decide +kernel, q_hS11, rfl, fun z s meth hS hnm => q_mkTab (q_in_ws 200) (own := "SlipDrawerModel") (cc := prog_13_method_56_code) (nL := 8) (cx := 0) (mt := q_m200) q_hW (q_hF11 (q_in_ws 200)) (fun h => Bool.noConfusion h) (q_hK11 (q_in_ws 200) hS) (q_hN11 (q_in_ws 200)) (q_hG11 (q_in_ws 200)) (q_hP11 (q_in_ws 200)) q_d200 (fun h => absurd rfl h)⟩
set_option maxRecDepth 100000 in
theorem q_Q201 : q_Q 201 := ⟨by decide +kernel, q_hS11, rfl, fun z s meth hS hnm => q_mkTab (q_in_ws 201) (own := "SlipDrawerModel") (cc := prog_13_method_57_code) (nL := 3) (cx := 0) (mt := q_m201) q_hW (q_hF11 (q_in_ws 201)) (fun h => Bool.noConfusion h) (q_hK11 (q_in_ws 201) hS) (q_hN11 (q_in_ws 201)) (q_hG11 (q_in_ws 201)) (q_hP11 (q_in_ws 201)) q_d201 (fun h => absurd rfl h)⟩
set_option maxRecDepth 100000 in
theorem q_Q202 : q_Q 202 := ⟨by decide +kernel, q_hS11, rfl, fun z s meth hS hnm => q_mkTab (q_in_ws 202) (own := "SlipDrawerModel") (cc := prog_13_method_58_code) (nL := 3) (cx := 0) (mt := q_m202) q_hW (q_hF11 (q_in_ws 202)) (fun h => Bool.noConfusion h) (q_hK11 (q_in_ws 202) hS) (q_hN11 (q_in_ws 202)) (q_hG11 (q_in_ws 202)) (q_hP11 (q_in_ws 202)) q_d202 (fun h => absurd rfl h)⟩
set_option maxRecDepth 100000 in
theorem q_Q203 : q_Q 203 := ⟨by decide +kernel, q_hS11, rfl, fun z s meth hS hnm => q_mkTab (q_in_ws 203) (own := "SlipDrawerModel") (cc := prog_13_method_59_code) (nL := 2) (cx := 0) (mt := q_m203) q_hW (q_hF11 (q_in_ws 203)) (fun h => Bool.noConfusion h) (q_hK11 (q_in_ws 203) hS) (q_hN11 (q_in_ws 203)) (q_hG11 (q_in_ws 203)) (q_hP11 (q_in_ws 203)) q_d203 (fun h => absurd rfl h)⟩
set_option maxRecDepth 100000 in
theorem q_Q204 : q_Q 204 := ⟨by decide +kernel, q_hS11, rfl, fun z s meth hS hnm => q_mkTab (q_in_ws 204) (own := "SlipDrawerModel") (cc := prog_13_method_60_code) (nL := 4) (cx := 0) (mt := q_m204) q_hW (q_hF11 (q_in_ws 204)) (fun h => Bool.noConfusion h) (q_hK11 (q_in_ws 204) hS) (q_hN11 (q_in_ws 204)) (q_hG11 (q_in_ws 204)) (q_hP11 (q_in_ws 204)) q_d204 (fun h => absurd rfl h)⟩
set_option maxRecDepth 100000 in
theorem q_Q205 : q_Q 205 := ⟨by decide +kernel, q_hS11, rfl, fun z s meth hS hnm => q_mkTab (q_in_ws 205) (own := "SlipDrawerModel") (cc := prog_13_method_61_code) (nL := 6) (cx := 0) (mt := q_m205) q_hW (q_hF11 (q_in_ws 205)) (fun h => Bool.noConfusion h) (q_hK11 (q_in_ws 205) hS) (q_hN11 (q_in_ws 205)) (q_hG11 (q_in_ws 205)) (q_hP11 (q_in_ws 205)) q_d205 (fun h => absurd rfl h)⟩
set_option maxRecDepth 100000 in
theorem q_Q206 : q_Q 206 := ⟨by decide +kernel, q_hS11, rfl, fun z s meth hS hnm => q_mkTab (q_in_ws 206) (own := "SlipDrawerModel") (cc := prog_13_method_62_code) (nL := 2) (cx := 0) (mt := q_m206) q_hW (q_hF11 (q_in_ws 206)) (fun h => Bool.noConfusion h) (q_hK11 (q_in_ws 206) hS) (q_hN11 (q_in_ws 206)) (q_hG11 (q_in_ws 206)) (q_hP11 (q_in_ws 206)) q_d206 (fun h => absurd rfl h)⟩
set_option maxRecDepth 100000 in
theorem q_Q207 : q_Q 207 := ⟨by decide +kernel, q_hS11, rfl, fun z s meth hS hnm => q_mkTab (q_in_ws 207) (own := "SlipDrawerModel") (cc := prog_13_method_63_code) (nL := 6) (cx := 0) (mt := q_m207) q_hW (q_hF11 (q_in_ws 207)) (fun h => Bool.noConfusion h) (q_hK11 (q_in_ws 207) hS) (q_hN11 (q_in_ws 207)) (q_hG11 (q_in_ws 207)) (q_hP11 (q_in_ws 207)) q_d207 (fun h => absurd rfl h)⟩
set_option maxRecDepth 100000 in
theorem q_Q208 : q_Q 208 := ⟨by decide +kernel, q_hS11, rfl, fun z s meth hS hnm => q_mkTab (q_in_ws 208) (own := "SlipDrawerModel") (cc := prog_13_method_64_code) (nL := 3) (cx := 0) (mt := q_m208) q_hW (q_hF11 (q_in_ws 208)) (fun h => Bool.noConfusion h) (q_hK11 (q_in_ws 208) hS) (q_hN11 (q_in_ws 208)) (q_hG11 (q_in_ws 208)) (q_hP11 (q_in_ws 208)) q_d208 (fun h => absurd rfl h)⟩
set_option maxRecDepth 100000 in
theorem q_Q209 : q_Q 209 := ⟨by decide +kernel, q_hS11, rfl, fun z s meth hS hnm => q_mkTab (q_in_ws 209) (own := "SlipDrawerModel") (cc := prog_13_method_65_code) (nL := 6) (cx := 0) (mt := q_m209) q_hW (q_hF11 (q_in_ws 209)) (fun h => Bool.noConfusion h) (q_hK11 (q_in_ws 209) hS) (q_hN11 (q_in_ws 209)) (q_hG11 (q_in_ws 209)) (q_hP11 (q_in_ws 209)) q_d209 (fun h => absurd rfl h)⟩
set_option maxRecDepth 100000 in
theorem q_Q210 : q_Q 210 := ⟨by decide +kernel, q_hS11, rfl, fun z s meth hS hnm => q_mkTab (q_in_ws 210) (own := "SlipDrawerModel") (cc := prog_13_method_66_code) (nL := 3) (cx := 0) (mt := q_m210) q_hW (q_hF11 (q_in_ws 210)) (fun h => Bool.noConfusion h) (q_hK11 (q_in_ws 210) hS) (q_hN11 (q_in_ws 210)) (q_hG11 (q_in_ws 210)) (q_hP11 (q_in_ws 210)) q_d210 (fun h => absurd rfl h)⟩
set_option maxRecDepth 100000 in
theorem q_Q211 : q_Q 211 := ⟨by decide +kernel, q_hS11, rfl, fun z s meth hS hnm => q_mkTab (q_in_ws 211) (own := "SlipDrawerModel") (cc := prog_13_method_67_code) (nL := 6) (cx := 0) (mt := q_m211) q_hW (q_hF11 (q_in_ws 211)) (fun h => Bool.noConfusion h) (q_hK11 (q_in_ws 211) hS) (q_hN11 (q_in_ws 211)) (q_hG11 (q_in_ws 211)) (q_hP11 (q_in_ws 211)) q_d211 (fun h => absurd rfl h)⟩
set_option maxRecDepth 100000 in
theorem q_Q212 : q_Q 212 := ⟨by decide +kernel, q_hS11, rfl, fun z s meth hS hnm => q_mkTab (q_in_ws 212) (own := "SlipDrawerModel") (cc := prog_13_method_68_code) (nL := 7) (cx := 0) (mt := q_m212) q_hW (q_hF11 (q_in_ws 212)) (fun h => Bool.noConfusion h) (q_hK11 (q_in_ws 212) hS) (q_hN11 (q_in_ws 212)) (q_hG11 (q_in_ws 212)) (q_hP11 (q_in_ws 212)) q_d212 (fun h => absurd rfl h)⟩
set_option maxRecDepth 100000 in
theorem q_Q213 : q_Q 213 := ⟨by decide +kernel, q_hS11, rfl, fun z s meth hS hnm => q_mkTab (q_in_ws 213) (own := "SlipDrawerModel") (cc := prog_13_method_69_code) (nL := 5) (cx := 0) (mt := q_m213) q_hW (q_hF11 (q_in_ws 213)) (fun h => Bool.noConfusion h) (q_hK11 (q_in_ws 213) hS) (q_hN11 (q_in_ws 213)) (q_hG11 (q_in_ws 213)) (q_hP11 (q_in_ws 213)) q_d213 (fun h => absurd rfl h)⟩
set_option maxRecDepth 100000 in
theorem q_Q214 : q_Q 214 := ⟨by decide +kernel, q_hS11, rfl, fun z s meth hS hnm => q_mkTab (q_in_ws 214) (own := "SlipDrawerModel") (cc := prog_13_method_70_code) (nL := 4) (cx := 0) (mt := q_m214) q_hW (q_hF11 (q_in_ws 214)) (fun h => Bool.noConfusion h) (q_hK11 (q_in_ws 214) hS) (q_hN11 (q_in_ws 214)) (q_hG11 (q_in_ws 214)) (q_hP11 (q_in_ws 214)) q_d214 (fun h => absurd rfl h)⟩
set_option maxRecDepth 100000 in
theorem q_Q215 : q_Q 215 := ⟨by decide +kernel, q_hS11, rfl, fun z s meth hS hnm => q_mkTab (q_in_ws 215) (own := "SlipDrawerModel") (cc := prog_13_method_71_code) (nL := 7) (cx := 0) (mt := q_m215) q_hW (q_hF11 (q_in_ws 215)) (fun h => Bool.noConfusion h) (q_hK11 (q_in_ws 215) hS) (q_hN11 (q_in_ws 215)) (q_hG11 (q_in_ws 215)) (q_hP11 (q_in_ws 215)) q_d215 (fun h => absurd rfl h)⟩
set_option maxRecDepth 100000 in
theorem q_Q216 : q_Q 216 := ⟨by decide +kernel, q_hS11, rfl, fun z s meth hS hnm => q_mkTab (q_in_ws 216) (own := "SlipDrawerModel") (cc := prog_13_method_72_code) (nL := 2) (cx := 0) (mt := q_m216) q_hW (q_hF11 (q_in_ws 216)) (fun h => Bool.noConfusion h) (q_hK11 (q_in_ws 216) hS) (q_hN11 (q_in_ws 216)) (q_hG11 (q_in_ws 216)) (q_hP11 (q_in_ws 216)) q_d216 (fun h => absurd rfl h)⟩
set_option maxRecDepth 100000 in
theorem q_Q217 : q_Q 217 := ⟨by decide +kernel, q_hS11, rfl, fun z s meth hS hnm => q_mkTab (q_in_ws 217) (own := "SlipDrawerModel") (cc := prog_13_method_73_code) (nL := 5) (cx := 0) (mt := q_m217) q_hW (q_hF11 (q_in_ws 217)) (fun h => Bool.noConfusion h) (q_hK11 (q_in_ws 217) hS) (q_hN11 (q_in_ws 217)) (q_hG11 (q_in_ws 217)) (q_hP11 (q_in_ws 217)) q_d217 (fun h => absurd rfl h)⟩
set_option maxRecDepth 100000 in
theorem q_Q218 : q_Q 218 := ⟨by decide +kernel, q_hS11, rfl, fun z s meth hS hnm => q_mkTab (q_in_ws 218) (own := "SlipDrawerModel") (cc := prog_13_method_74_code) (nL := 3) (cx := 0) (mt := q_m218) q_hW (q_hF11 (q_in_ws 218)) (fun h => Bool.noConfusion h) (q_hK11 (q_in_ws 218) hS) (q_hN11 (q_in_ws 218)) (q_hG11 (q_in_ws 218)) (q_hP11 (q_in_ws 218)) q_d218 (fun h => absurd rfl h)⟩
set_option maxRecDepth 100000 in
theorem q_Q219 : q_Q 219 := ⟨by decide +kernel, q_hS11, rfl, fun z s meth hS hnm => q_mkTab (q_in_ws 219) (own := "SlipDrawerModel") (cc := prog_13_method_75_code) (nL := 3) (cx := 0) (mt := q_m219) q_hW (q_hF11 (q_in_ws 219)) (fun h => Bool.noConfusion h) (q_hK11 (q_in_ws 219) hS) (q_hN11 (q_in_ws 219)) (q_hG11 (q_in_ws 219)) (q_hP11 (q_in_ws 219)) q_d219 (fun h => absurd rfl h)⟩
set_option maxRecDepth 100000 in
theorem q_Q220 : q_Q 220 := ⟨by decide +kernel, q_hS11, rfl, fun z s meth hS hnm => q_mkTab (q_in_ws 220) (own := "SlipDrawerModel") (cc := prog_13_method_76_code) (nL := 9) (cx := 0) (mt := q_m220) q_hW (q_hF11 (q_in_ws 220)) (fun h => Bool.noConfusion h) (q_hK11 (q_in_ws 220) hS) (q_hN11 (q_in_ws 220)) (q_hG11 (q_in_ws 220)) (q_hP11 (q_in_ws 220)) q_d220 (fun h => absurd rfl h)⟩
set_option maxRecDepth 100000 in
theorem q_Q221 : q_Q 221 := ⟨by decide +kernel, q_hS11, rfl, fun z s meth hS hnm => q_mkTab (q_in_ws 221) (own := "SlipDrawerModel") (cc := prog_13_method_77_code) (nL := 3) (cx := 0) (mt := q_m221) q_hW (q_hF11 (q_in_ws 221)) (fun h => Bool.noConfusion h) (q_hK11 (q_in_ws 221) hS) (q_hN11 (q_in_ws 221)) (q_hG11 (q_in_ws 221)) (q_hP11 (q_in_ws 221)) q_d221 (fun h => absurd rfl h)⟩
set_option maxRecDepth 100000 in
theorem q_Q222 : q_Q 222 := ⟨by decide +kernel, q_hS11, rfl, fun z s meth hS hnm => q_mkTab (q_in_ws 222) (own := "SlipDrawerModel") (cc := prog_13_method_78_code) (nL := 2) (cx := 0) (mt := q_m222) q_hW (q_hF11 (q_in_ws 222)) (fun h => Bool.noConfusion h) (q_hK11 (q_in_ws 222) hS) (q_hN11 (q_in_ws 222)) (q_hG11 (q_in_ws 222)) (q_hP11 (q_in_ws 222)) q_d222 (fun h => absurd rfl h)⟩
set_option maxRecDepth 100000 in
theorem q_Q223 : q_Q 223 := ⟨by decide +kernel, q_hS11, rfl, fun z s meth hS hnm => q_mkTab (q_in_ws 223) (own := "SlipDrawerModel") (cc := prog_13_method_79_code) (nL := 6) (cx := 0) (mt := q_m223) q_hW (q_hF11 (q_in_ws 223)) (fun h => Bool.noConfusion h) (q_hK11 (q_in_ws 223) hS) (q_hN11 (q_in_ws 223)) (q_hG11 (q_in_ws 223)) (q_hP11 (q_in_ws 223)) q_d223 (fun h => absurd rfl h)⟩
set_option maxRecDepth 100000 in
theorem q_Q224 : q_Q 224 := ⟨by decide +kernel, q_hS11, rfl, fun z s meth hS hnm => q_mkTab (q_in_ws 224) (own := "SlipDrawerModel") (cc := prog_13_method_80_code) (nL := 2) (cx := 0) (mt := q_m224) q_hW (q_hF11 (q_in_ws 224)) (fun h => Bool.noConfusion h) (q_hK11 (q_in_ws 224) hS) (q_hN11 (q_in_ws 224)) (q_hG11 (q_in_ws 224)) (q_hP11 (q_in_ws 224)) q_d224 (fun h => absurd rfl h)⟩
set_option maxRecDepth 100000 in
theorem q_Q225 : q_Q 225 := ⟨by decide +kernel, q_hS11, rfl, fun z s meth hS hnm => q_mkTab (q_in_ws 225) (own := "SlipDrawerModel") (cc := prog_13_method_81_code) (nL := 5) (cx := 0) (mt := q_m225) q_hW (q_hF11 (q_in_ws 225)) (fun h => Bool.noConfusion h) (q_hK11 (q_in_ws 225) hS) (q_hN11 (q_in_ws 225)) (q_hG11 (q_in_ws 225)) (q_hP11 (q_in_ws 225)) q_d225 (fun h => absurd rfl h)⟩
set_option maxRecDepth 100000 in
theorem q_Q226 : q_Q 226 := ⟨by decide +kernel, q_hS11, rfl, fun z s meth hS hnm => q_mkTab (q_in_ws 226) (own := "SlipDrawerModel") (cc := prog_13_method_82_code) (nL := 10) (cx := 0) (mt := q_m226) q_hW (q_hF11 (q_in_ws 226)) (fun h => Bool.noConfusion h) (q_hK11 (q_in_ws 226) hS) (q_hN11 (q_in_ws 226)) (q_hG11 (q_in_ws 226)) (q_hP11 (q_in_ws 226)) q_d226 (fun h => absurd rfl h)⟩
set_option maxRecDepth 100000 in
theorem q_Q227 : q_Q 227 := ⟨by decide +kernel, q_hS11, rfl, fun z s meth hS hnm => q_mkTab (q_in_ws 227) (own := "SlipDrawerModel") (cc := prog_13_method_83_code) (nL := 7) (cx := 0) (mt := q_m227) q_hW (q_hF11 (q_in_ws 227)) (fun h => Bool.noConfusion h) (q_hK11 (q_in_ws 227) hS) (q_hN11 (q_in_ws 227)) (q_hG11 (q_in_ws 227)) (q_hP11 (q_in_ws 227)) q_d227 (fun h => absurd rfl h)⟩
set_option maxRecDepth 100000 in
theorem q_Q228 : q_Q 228 := ⟨by decide +kernel, q_hS11, rfl, fun z s meth hS hnm => q_mkTab (q_in_ws 228) (own := "SlipDrawerModel") (cc := prog_13_method_84_code) (nL := 7) (cx := 0) (mt := q_m228) q_hW (q_hF11 (q_in_ws 228)) (fun h => Bool.noConfusion h) (q_hK11 (q_in_ws 228) hS) (q_hN11 (q_in_ws 228)) (q_hG11 (q_in_ws 228)) (q_hP11 (q_in_ws 228)) q_d228 (fun h => absurd rfl h)⟩
set_option maxRecDepth 100000 in
theorem q_Q229 : q_Q 229 := ⟨by decide +kernel, q_hS11, rfl, fun z s meth hS hnm => q_mkTab (q_in_ws 229) (own := "SlipDrawerModel") (cc := prog_13_method_85_code) (nL := 8) (cx := 0) (mt := q_m229) q_hW (q_hF11 (q_in_ws 229)) (fun h => Bool.noConfusion h) (q_hK11 (q_in_ws 229) hS) (q_hN11 (q_in_ws 229)) (q_hG11 (q_in_ws 229)) (q_hP11 (q_in_ws 229)) q_d229 (fun h => absurd rfl h)⟩
set_option maxRecDepth 100000 in
theorem q_Q230 : q_Q 230 := ⟨by decide +kernel, q_hS11, rfl, fun z s meth hS hnm => q_mkTab (q_in_ws 230) (own := "SlipDrawerModel") (cc := prog_13_method_86_code) (nL := 5) (cx := 0) (mt := q_m230) q_hW (q_hF11 (q_in_ws 230)) (fun h => Bool.noConfusion h) (q_hK11 (q_in_ws 230) hS) (q_hN11 (q_in_ws 230)) (q_hG11 (q_in_ws 230)) (q_hP11 (q_in_ws 230)) q_d230 (fun h => absurd rfl h)⟩
set_option maxRecDepth 100000 in
theorem q_Q231 : q_Q 231 := ⟨by decide +kernel, q_hS11, rfl, fun z s meth hS hnm => q_mkTab (q_in_ws 231) (own := "SlipDrawerModel") (cc := prog_13_method_87_code) (nL := 5) (cx := 0) (mt := q_m231) q_hW (q_hF11 (q_in_ws 231)) (fun h => Bool.noConfusion h) (q_hK11 (q_in_ws 231) hS) (q_hN11 (q_in_ws 231)) (q_hG11 (q_in_ws 231)) (q_hP11 (q_in_ws 231)) q_d231 (fun h => absurd rfl h)⟩
set_option maxRecDepth 100000 in
theorem q_Q232 : q_Q 232 := ⟨by decide +kernel, q_hS11, rfl, fun z s meth hS hnm => q_mkTab (q_in_ws 232) (own := "SlipDrawerModel") (cc := prog_13_method_88_code) (nL := 5) (cx := 0) (mt := q_m232) q_hW (q_hF11 (q_in_ws 232)) (fun h => Bool.noConfusion h) (q_hK11 (q_in_ws 232) hS) (q_hN11 (q_in_ws 232)) (q_hG11 (q_in_ws 232)) (q_hP11 (q_in_ws 232)) q_d232 (fun h => absurd rfl h)⟩
set_option maxRecDepth 100000 in
theorem q_Q233 : q_Q 233 := ⟨by decide +kernel, q_hS11, rfl, fun z s meth hS hnm => q_mkTab (q_in_ws 233) (own := "SlipDrawerModel") (cc := prog_13_method_89_code) (nL := 3) (cx := 0) (mt := q_m233) q_hW (q_hF11 (q_in_ws 233)) (fun h => Bool.noConfusion h) (q_hK11 (q_in_ws 233) hS) (q_hN11 (q_in_ws 233)) (q_hG11 (q_in_ws 233)) (q_hP11 (q_in_ws 233)) q_d233 (fun h => absurd rfl h)⟩
set_option maxRecDepth 100000 in
theorem q_Q234 : q_Q 234 := ⟨by decide +kernel, q_hS11, rfl, fun z s meth hS hnm => q_mkTab (q_in_ws 234) (own := "SlipDrawerModel") (cc := prog_13_method_90_code) (nL := 1) (cx := 0) (mt := q_m234) q_hW (q_hF11 (q_in_ws 234)) (fun h => Bool.noConfusion h) (q_hK11 (q_in_ws 234) hS) (q_hN11 (q_in_ws 234)) (q_hG11 (q_in_ws 234)) (q_hP11 (q_in_ws 234)) q_d234 (fun h => absurd rfl h)⟩
set_option maxRecDepth 100000 in
theorem q_Q235 : q_Q 235 := ⟨by decide +kernel, q_hS11, rfl, fun z s meth hS hnm => q_mkTab (q_in_ws 235) (own := "SlipDrawerModel") (cc := prog_13_method_91_code) (nL := 3) (cx := 0) (mt := q_m235) q_hW (q_hF11 (q_in_ws 235)) (fun h => Bool.noConfusion h) (q_hK11 (q_in_ws 235) hS) (q_hN11 (q_in_ws 235)) (q_hG11 (q_in_ws 235)) (q_hP11 (q_in_ws 235)) q_d235 (fun h => absurd rfl h)⟩
set_option maxRecDepth 100000 in
theorem q_Q236 : q_Q 236 := ⟨by decide +kernel, q_hS11, rfl, fun z s meth hS hnm => q_mkTab (q_in_ws 236) (own := "SlipDrawerModel") (cc := prog_13_method_92_code) (nL := 3) (cx := 0) (mt := q_m236) q_hW (q_hF11 (q_in_ws 236)) (fun h => Bool.noConfusion h) (q_hK11 (q_in_ws 236) hS) (q_hN11 (q_in_ws 236)) (q_hG11 (q_in_ws 236)) (q_hP11 (q_in_ws 236)) q_d236 (fun h => absurd rfl h)⟩
set_option maxRecDepth 100000 in
theorem q_Q237 : q_Q 237 := ⟨by decide +kernel, q_hS11, rfl, fun z s meth hS hnm => q_mkTab (q_in_ws 237) (own := "SlipDrawerModel") (cc := prog_13_method_93_code) (nL := 5) (cx := 0) (mt := q_m237) q_hW (q_hF11 (q_in_ws 237)) (fun h => Bool.noConfusion h) (q_hK11 (q_in_ws 237) hS) (q_hN11 (q_in_ws 237)) (q_hG11 (q_in_ws 237)) (q_hP11 (q_in_ws 237)) q_d237 (fun h => absurd rfl h)⟩
set_option maxRecDepth 100000 in
theorem q_Q238 : q_Q 238 := ⟨by decide +kernel, q_hS11, rfl, fun z s meth hS hnm => q_mkTab (q_in_ws 238) (own := "SlipDrawerModel") (cc := prog_13_method_94_code) (nL := 3) (cx := 0) (mt := q_m238) q_hW (q_hF11 (q_in_ws 238)) (fun h => Bool.noConfusion h) (q_hK11 (q_in_ws 238) hS) (q_hN11 (q_in_ws 238)) (q_hG11 (q_in_ws 238)) (q_hP11 (q_in_ws 238)) q_d238 (fun h => absurd rfl h)⟩
set_option maxRecDepth 100000 in
theorem q_Q239 : q_Q 239 := ⟨by decide +kernel, q_hS11, rfl, fun z s meth hS hnm => q_mkTab (q_in_ws 239) (own := "SlipDrawerModel") (cc := prog_13_method_95_code) (nL := 13) (cx := 0) (mt := q_m239) q_hW (q_hF11 (q_in_ws 239)) (fun h => Bool.noConfusion h) (q_hK11 (q_in_ws 239) hS) (q_hN11 (q_in_ws 239)) (q_hG11 (q_in_ws 239)) (q_hP11 (q_in_ws 239)) q_d239 (fun h => absurd rfl h)⟩
set_option maxRecDepth 100000 in
theorem q_Q240 : q_Q 240 := ⟨by decide +kernel, q_hS11, rfl, fun z s meth hS hnm => q_mkTab (q_in_ws 240) (own := "SlipDrawerModel") (cc := prog_13_method_96_code) (nL := 6) (cx := 0) (mt := q_m240) q_hW (q_hF11 (q_in_ws 240)) (fun h => Bool.noConfusion h) (q_hK11 (q_in_ws 240) hS) (q_hN11 (q_in_ws 240)) (q_hG11 (q_in_ws 240)) (q_hP11 (q_in_ws 240)) q_d240 (fun h => absurd rfl h)⟩
set_option maxRecDepth 100000 in
theorem q_Q241 : q_Q 241 := ⟨by decide +kernel, q_hS11, rfl, fun z s meth hS hnm => q_mkTab (q_in_ws 241) (own := "SlipDrawerModel") (cc := prog_13_method_97_code) (nL := 6) (cx := 0) (mt := q_m241) q_hW (q_hF11 (q_in_ws 241)) (fun h => Bool.noConfusion h) (q_hK11 (q_in_ws 241) hS) (q_hN11 (q_in_ws 241)) (q_hG11 (q_in_ws 241)) (q_hP11 (q_in_ws 241)) q_d241 (fun h => absurd rfl h)⟩
set_option maxRecDepth 100000 in
theorem q_Q242 : q_Q 242 := ⟨by decide +kernel, q_hS11, rfl, fun z s meth hS hnm => q_mkTab (q_in_ws 242) (own := "SlipDrawerModel") (cc := prog_13_method_98_code) (nL := 6) (cx := 0) (mt := q_m242) q_hW (q_hF11 (q_in_ws 242)) (fun h => Bool.noConfusion h) (q_hK11 (q_in_ws 242) hS) (q_hN11 (q_in_ws 242)) (q_hG11 (q_in_ws 242)) (q_hP11 (q_in_ws 242)) q_d242 (fun h => absurd rfl h)⟩
set_option maxRecDepth 100000 in
theorem q_Q243 : q_Q 243 := ⟨by decide +kernel, q_hS11, rfl, fun z s meth hS hnm => q_mkTab (q_in_ws 243) (own := "SlipDrawerModel") (cc := prog_13_method_99_code) (nL := 17) (cx := 0) (mt := q_m243) q_hW (q_hF11 (q_in_ws 243)) (fun h => Bool.noConfusion h) (q_hK11 (q_in_ws 243) hS) (q_hN11 (q_in_ws 243)) (q_hG11 (q_in_ws 243)) (q_hP11 (q_in_ws 243)) q_d243 (fun h => absurd rfl h)⟩
set_option maxRecDepth 100000 in
theorem q_Q244 : q_Q 244 := ⟨by decide +kernel, q_hS11, rfl, fun z s meth hS hnm => q_mkTab (q_in_ws 244) (own := "SlipDrawerModel") (cc := prog_13_method_100_code) (nL := 4) (cx := 0) (mt := q_m244) q_hW (q_hF11 (q_in_ws 244)) (fun h => Bool.noConfusion h) (q_hK11 (q_in_ws 244) hS) (q_hN11 (q_in_ws 244)) (q_hG11 (q_in_ws 244)) (q_hP11 (q_in_ws 244)) q_d244 (fun h => absurd rfl h)⟩
set_option maxRecDepth 100000 in
theorem q_Q245 : q_Q 245 := ⟨by decide +kernel, q_hS11, rfl, fun z s meth hS hnm => q_mkTab (q_in_ws 245) (own := "SlipDrawerModel") (cc := prog_13_method_101_code) (nL := 7) (cx := 0) (mt := q_m245) q_hW (q_hF11 (q_in_ws 245)) (fun h => Bool.noConfusion h) (q_hK11 (q_in_ws 245) hS) (q_hN11 (q_in_ws 245)) (q_hG11 (q_in_ws 245)) (q_hP11 (q_in_ws 245)) q_d245 (fun h => absurd rfl h)⟩
set_option maxRecDepth 100000 in
theorem q_Q246 : q_Q 246 := ⟨by decide +kernel, q_hS11, rfl, fun z s meth hS hnm => q_mkTab (q_in_ws 246) (own := "SlipDrawerModel") (cc := prog_13_method_102_code) (nL := 5) (cx := 0) (mt := q_m246) q_hW (q_hF11 (q_in_ws 246)) (fun h => Bool.noConfusion h) (q_hK11 (q_in_ws 246) hS) (q_hN11 (q_in_ws 246)) (q_hG11 (q_in_ws 246)) (q_hP11 (q_in_ws 246)) q_d246 (fun h => absurd rfl h)⟩
set_option maxRecDepth 100000 in
theorem q_Q247 : q_Q 247 := ⟨by decide +kernel, q_hS11, rfl, fun z s meth hS hnm => q_mkTab (q_in_ws 247) (own := "SlipDrawerModel") (cc := prog_13_method_103_code) (nL := 8) (cx := 0) (mt := q_m247) q_hW (q_hF11 (q_in_ws 247)) (fun h => Bool.noConfusion h) (q_hK11 (q_in_ws 247) hS) (q_hN11 (q_in_ws 247)) (q_hG11 (q_in_ws 247)) (q_hP11 (q_in_ws 247)) q_d247 (fun h => absurd rfl h)⟩
set_option maxRecDepth 100000 in
theorem q_Q248 : q_Q 248 := ⟨by decide +kernel, q_hS11, rfl, fun z s meth hS hnm => q_mkTab (q_in_ws 248) (own := "SlipDrawerModel") (cc := prog_13_method_104_code) (nL := 12) (cx := 0) (mt := q_m248) q_hW (q_hF11 (q_in_ws 248)) (fun h => Bool.noConfusion h) (q_hK11 (q_in_ws 248) hS) (q_hN11 (q_in_ws 248)) (q_hG11 (q_in_ws 248)) (q_hP11 (q_in_ws 248)) q_d248 (fun h => absurd rfl h)⟩
set_option maxRecDepth 100000 in
theorem q_Q249 : q_Q 249 := ⟨by decide +kernel, q_hS11, rfl, fun z s meth hS hnm => q_mkTab (q_in_ws 249) (own := "SlipDrawerModel") (cc := prog_13_method_105_code) (nL := 2) (cx := 0) (mt := q_m249) q_hW (q_hF11 (q_in_ws 249)) (fun h => Bool.noConfusion h) (q_hK11 (q_in_ws 249) hS) (q_hN11 (q_in_ws 249)) (q_hG11 (q_in_ws 249)) (q_hP11 (q_in_ws 249)) q_d249 (fun h => absurd rfl h)⟩
set_option maxRecDepth 100000 in
theorem q_Q250 : q_Q 250 := ⟨by decide +kernel, q_hS11, rfl, fun z s meth hS hnm => q_mkTab (q_in_ws 250) (own := "SlipDrawerModel") (cc := prog_13_method_106_code) (nL := 4) (cx := 0) (mt := q_m250) q_hW (q_hF11 (q_in_ws 250)) (fun h => Bool.noConfusion h) (q_hK11 (q_in_ws 250) hS) (q_hN11 (q_in_ws 250)) (q_hG11 (q_in_ws 250)) (q_hP11 (q_in_ws 250)) q_d250 (fun h => absurd rfl h)⟩
set_option maxRecDepth 100000 in
theorem q_Q251 : q_Q 251 := ⟨by decide +kernel, q_hS11, rfl, fun z s meth hS hnm => q_mkTab (q_in_ws 251) (own := "SlipDrawerModel") (cc := prog_13_method_107_code) (nL := 3) (cx := 0) (mt := q_m251) q_hW (q_hF11 (q_in_ws 251)) (fun h => Bool.noConfusion h) (q_hK11 (q_in_ws 251) hS) (q_hN11 (q_in_ws 251)) (q_hG11 (q_in_ws 251)) (q_hP11 (q_in_ws 251)) q_d251 (fun h => absurd rfl h)⟩
set_option maxRecDepth 100000 in
theorem q_Q252 : q_Q 252 := ⟨by decide +kernel, q_hS11, rfl, fun z s meth hS hnm => q_mkTab (q_in_ws 252) (own := "SlipDrawerModel") (cc := prog_13_method_108_code) (nL := 2) (cx := 0) (mt := q_m252) q_hW (q_hF11 (q_in_ws 252)) (fun h => Bool.noConfusion h) (q_hK11 (q_in_ws 252) hS) (q_hN11 (q_in_ws 252)) (q_hG11 (q_in_ws 252)) (q_hP11 (q_in_ws 252)) q_d252 (fun h => absurd rfl h)⟩
set_option maxRecDepth 100000 in
theorem q_Q253 : q_Q 253 := ⟨by decide +kernel, q_hS11, rfl, fun z s meth hS hnm => q_mkTab (q_in_ws 253) (own := "SlipDrawerModel") (cc := prog_13_method_109_code) (nL := 4) (cx := 0) (mt := q_m253) q_hW (q_hF11 (q_in_ws 253)) (fun h => Bool.noConfusion h) (q_hK11 (q_in_ws 253) hS) (q_hN11 (q_in_ws 253)) (q_hG11 (q_in_ws 253)) (q_hP11 (q_in_ws 253)) q_d253 (fun h => absurd rfl h)⟩
set_option maxRecDepth 100000 in
theorem q_Q254 : q_Q 254 := ⟨by decide +kernel, q_hS11, rfl, fun z s meth hS hnm => q_mkTab (q_in_ws 254) (own := "SlipDrawerModel") (cc := prog_13_method_110_code) (nL := 5) (cx := 0) (mt := q_m254) q_hW (q_hF11 (q_in_ws 254)) (fun h => Bool.noConfusion h) (q_hK11 (q_in_ws 254) hS) (q_hN11 (q_in_ws 254)) (q_hG11 (q_in_ws 254)) (q_hP11 (q_in_ws 254)) q_d254 (fun h => absurd rfl h)⟩
set_option maxRecDepth 100000 in
theorem q_Q255 : q_Q 255 := ⟨by decide +kernel, q_hS12, rfl, fun z s meth hS hnm => q_mkTab (q_in_ws 255) (own := "java/lang/Math") (cc := prog_15_method_49_code) (nL := 6) (cx := 0) (mt := q_m255) q_hW (q_hF12 (q_in_ws 255)) (fun h => Bool.noConfusion h) (q_hK12 (q_in_ws 255) hS) (q_hN12 (q_in_ws 255)) (q_hG12 (q_in_ws 255)) (q_hP12 (q_in_ws 255)) q_d255 (fun h => absurd rfl h)⟩
set_option maxRecDepth 100000 in
theorem q_Q256 : q_Q 256 := ⟨by decide +kernel, q_hS12, rfl, fun z s meth hS hnm => q_mkTab (q_in_ws 256) (own := "java/lang/Math") (cc := prog_15_method_59_code) (nL := 1) (cx := 0) (mt := q_m256) q_hW (q_hF12 (q_in_ws 256)) (fun h => Bool.noConfusion h) (q_hK12 (q_in_ws 256) hS) (q_hN12 (q_in_ws 256)) (q_hG12 (q_in_ws 256)) (q_hP12 (q_in_ws 256)) q_d256 (fun h => absurd rfl h)⟩
set_option maxRecDepth 100000 in
theorem q_Q257 : q_Q 257 := ⟨by decide +kernel, q_hS12, rfl, fun z s meth hS hnm => q_mkTab (q_in_ws 257) (own := "java/lang/Math") (cc := prog_15_method_61_code) (nL := 2) (cx := 0) (mt := q_m257) q_hW (q_hF12 (q_in_ws 257)) (fun h => Bool.noConfusion h) (q_hK12 (q_in_ws 257) hS) (q_hN12 (q_in_ws 257)) (q_hG12 (q_in_ws 257)) (q_hP12 (q_in_ws 257)) q_d257 (fun h => absurd rfl h)⟩
set_option maxRecDepth 100000 in
theorem q_Q258 : q_Q 258 := ⟨by decide +kernel, q_hS12, rfl, fun z s meth hS hnm => q_mkTab (q_in_ws 258) (own := "java/lang/Math") (cc := prog_15_method_65_code) (nL := 2) (cx := 0) (mt := q_m258) q_hW (q_hF12 (q_in_ws 258)) (fun h => Bool.noConfusion h) (q_hK12 (q_in_ws 258) hS) (q_hN12 (q_in_ws 258)) (q_hG12 (q_in_ws 258)) (q_hP12 (q_in_ws 258)) q_d258 (fun h => absurd rfl h)⟩
set_option maxRecDepth 100000 in
theorem q_Q259 : q_Q 259 := ⟨by decide +kernel, q_hS12, rfl, fun z s meth hS hnm => q_mkTab (q_in_ws 259) (own := "java/lang/Math") (cc := prog_15_method_66_code) (nL := 4) (cx := 0) (mt := q_m259) q_hW (q_hF12 (q_in_ws 259)) (fun h => Bool.noConfusion h) (q_hK12 (q_in_ws 259) hS) (q_hN12 (q_in_ws 259)) (q_hG12 (q_in_ws 259)) (q_hP12 (q_in_ws 259)) q_d259 (fun h => absurd rfl h)⟩
set_option maxRecDepth 100000 in
theorem q_Q260 : q_Q 260 := ⟨by decide +kernel, q_hS12, rfl, fun z s meth hS hnm => q_mkTab (q_in_ws 260) (own := "java/lang/Math") (cc := prog_15_method_69_code) (nL := 2) (cx := 0) (mt := q_m260) q_hW (q_hF12 (q_in_ws 260)) (fun h => Bool.noConfusion h) (q_hK12 (q_in_ws 260) hS) (q_hN12 (q_in_ws 260)) (q_hG12 (q_in_ws 260)) (q_hP12 (q_in_ws 260)) q_d260 (fun h => absurd rfl h)⟩
set_option maxRecDepth 100000 in
theorem q_Q261 : q_Q 261 := ⟨by decide +kernel, q_hS12, rfl, fun z s meth hS hnm => q_mkTab (q_in_ws 261) (own := "java/lang/Math") (cc := prog_15_method_70_code) (nL := 4) (cx := 0) (mt := q_m261) q_hW (q_hF12 (q_in_ws 261)) (fun h => Bool.noConfusion h) (q_hK12 (q_in_ws 261) hS) (q_hN12 (q_in_ws 261)) (q_hG12 (q_in_ws 261)) (q_hP12 (q_in_ws 261)) q_d261 (fun h => absurd rfl h)⟩
set_option maxRecDepth 100000 in
theorem q_Q262 : q_Q 262 := ⟨by decide +kernel, q_hS13, rfl, fun z s meth hS hnm => q_mkTab (q_in_ws 262) (own := "java/util/Arrays") (cc := prog_20_method_103_code) (nL := 4) (cx := 0) (mt := q_m262) q_hW (q_hF13 (q_in_ws 262)) (fun h => Bool.noConfusion h) (q_hK13 (q_in_ws 262) hS) (q_hN13 (q_in_ws 262)) (q_hG13 (q_in_ws 262)) (q_hP13 (q_in_ws 262)) q_d262 (fun h => absurd rfl h)⟩
set_option maxRecDepth 100000 in
theorem q_Q263 : q_Q 263 := ⟨by decide +kernel, q_hS13, rfl, fun z s meth hS hnm => q_mkTab (q_in_ws 263) (own := "java/util/Arrays") (cc := prog_20_method_123_code) (nL := 3) (cx := 317) (mt := q_m263) q_hW (q_hF13 (q_in_ws 263)) (fun h => Bool.noConfusion h) (q_hK13 (q_in_ws 263) hS) (q_hN13 (q_in_ws 263)) (q_hG13 (q_in_ws 263)) (q_hP13 (q_in_ws 263)) q_d263 (fun _ => q_ck_in q_wCast)⟩
set_option maxRecDepth 100000 in
theorem q_QA : ∀ y, y < 264 → q_Q y := lt_s (lt_s (lt_s (lt_s (lt_s (lt_s (lt_s (lt_s (lt_s (lt_s (lt_s (lt_s (lt_s (lt_s (lt_s (lt_s (lt_s (lt_s (lt_s (lt_s (lt_s (lt_s (lt_s (lt_s (lt_s (lt_s (lt_s (lt_s (lt_s (lt_s (lt_s (lt_s (lt_s (lt_s (lt_s (lt_s (lt_s (lt_s (lt_s (lt_s (lt_s (lt_s (lt_s (lt_s (lt_s (lt_s (lt_s (lt_s (lt_s (lt_s (lt_s (lt_s (lt_s (lt_s (lt_s (lt_s (lt_s (lt_s (lt_s (lt_s (lt_s (lt_s (lt_s (lt_s (lt_s (lt_s (lt_s (lt_s (lt_s (lt_s (lt_s (lt_s (lt_s (lt_s (lt_s (lt_s (lt_s (lt_s (lt_s (lt_s (lt_s (lt_s (lt_s (lt_s (lt_s (lt_s (lt_s (lt_s (lt_s (lt_s (lt_s (lt_s (lt_s (lt_s (lt_s (lt_s (lt_s (lt_s (lt_s (lt_s (lt_s (lt_s (lt_s (lt_s (lt_s (lt_s (lt_s (lt_s (lt_s (lt_s (lt_s (lt_s (lt_s (lt_s (lt_s (lt_s (lt_s (lt_s (lt_s (lt_s (lt_s (lt_s (lt_s (lt_s (lt_s (lt_s (lt_s (lt_s (lt_s (lt_s (lt_s (lt_s (lt_s (lt_s (lt_s (lt_s (lt_s (lt_s (lt_s (lt_s (lt_s (lt_s (lt_s (lt_s (lt_s (lt_s (lt_s (lt_s (lt_s (lt_s (lt_s (lt_s (lt_s (lt_s (lt_s (lt_s (lt_s (lt_s (lt_s (lt_s (lt_s (lt_s (lt_s (lt_s (lt_s (lt_s (lt_s (lt_s (lt_s (lt_s (lt_s (lt_s (lt_s (lt_s (lt_s (lt_s (lt_s (lt_s (lt_s (lt_s (lt_s (lt_s (lt_s (lt_s (lt_s (lt_s (lt_s (lt_s (lt_s (lt_s (lt_s (lt_s (lt_s (lt_s (lt_s (lt_s (lt_s (lt_s (lt_s (lt_s (lt_s (lt_s (lt_s (lt_s (lt_s (lt_s (lt_s (lt_s (lt_s (lt_s (lt_s (lt_s (lt_s (lt_s (lt_s (lt_s (lt_s (lt_s (lt_s (lt_s (lt_s (lt_s (lt_s (lt_s (lt_s (lt_s (lt_s (lt_s (lt_s (lt_s (lt_s (lt_s (lt_s (lt_s (lt_s (lt_s (lt_s (lt_s (lt_s (lt_s (lt_s (lt_s (lt_s (lt_s (lt_s (lt_s (lt_s (lt_s (lt_s (lt_s (lt_s (lt_s (lt_s (lt_s (lt_s (lt_s (lt_s (lt_s (lt_s (lt_s (lt_s (lt_s (lt_s (lt_s (lt_0) q_Q0) q_Q1) q_Q2) q_Q3) q_Q4) q_Q5) q_Q6) q_Q7) q_Q8) q_Q9) q_Q10) q_Q11) q_Q12) q_Q13) q_Q14) q_Q15) q_Q16) q_Q17) q_Q18) q_Q19) q_Q20) q_Q21) q_Q22) q_Q23) q_Q24) q_Q25) q_Q26) q_Q27) q_Q28) q_Q29) q_Q30) q_Q31) q_Q32) q_Q33) q_Q34) q_Q35) q_Q36) q_Q37) q_Q38) q_Q39) q_Q40) q_Q41) q_Q42) q_Q43) q_Q44) q_Q45) q_Q46) q_Q47) q_Q48) q_Q49) q_Q50) q_Q51) q_Q52) q_Q53) q_Q54) q_Q55) q_Q56) q_Q57) q_Q58) q_Q59) q_Q60) q_Q61) q_Q62) q_Q63) q_Q64) q_Q65) q_Q66) q_Q67) q_Q68) q_Q69) q_Q70) q_Q71) q_Q72) q_Q73) q_Q74) q_Q75) q_Q76) q_Q77) q_Q78) q_Q79) q_Q80) q_Q81) q_Q82) q_Q83) q_Q84) q_Q85) q_Q86) q_Q87) q_Q88) q_Q89) q_Q90) q_Q91) q_Q92) q_Q93) q_Q94) q_Q95) q_Q96) q_Q97) q_Q98) q_Q99) q_Q100) q_Q101) q_Q102) q_Q103) q_Q104) q_Q105) q_Q106) q_Q107) q_Q108) q_Q109) q_Q110) q_Q111) q_Q112) q_Q113) q_Q114) q_Q115) q_Q116) q_Q117) q_Q118) q_Q119) q_Q120) q_Q121) q_Q122) q_Q123) q_Q124) q_Q125) q_Q126) q_Q127) q_Q128) q_Q129) q_Q130) q_Q131) q_Q132) q_Q133) q_Q134) q_Q135) q_Q136) q_Q137) q_Q138) q_Q139) q_Q140) q_Q141) q_Q142) q_Q143) q_Q144) q_Q145) q_Q146) q_Q147) q_Q148) q_Q149) q_Q150) q_Q151) q_Q152) q_Q153) q_Q154) q_Q155) q_Q156) q_Q157) q_Q158) q_Q159) q_Q160) q_Q161) q_Q162) q_Q163) q_Q164) q_Q165) q_Q166) q_Q167) q_Q168) q_Q169) q_Q170) q_Q171) q_Q172) q_Q173) q_Q174) q_Q175) q_Q176) q_Q177) q_Q178) q_Q179) q_Q180) q_Q181) q_Q182) q_Q183) q_Q184) q_Q185) q_Q186) q_Q187) q_Q188) q_Q189) q_Q190) q_Q191) q_Q192) q_Q193) q_Q194) q_Q195) q_Q196) q_Q197) q_Q198) q_Q199) q_Q200) q_Q201) q_Q202) q_Q203) q_Q204) q_Q205) q_Q206) q_Q207) q_Q208) q_Q209) q_Q210) q_Q211) q_Q212) q_Q213) q_Q214) q_Q215) q_Q216) q_Q217) q_Q218) q_Q219) q_Q220) q_Q221) q_Q222) q_Q223) q_Q224) q_Q225) q_Q226) q_Q227) q_Q228) q_Q229) q_Q230) q_Q231) q_Q232) q_Q233) q_Q234) q_Q235) q_Q236) q_Q237) q_Q238) q_Q239) q_Q240) q_Q241) q_Q242) q_Q243) q_Q244) q_Q245) q_Q246) q_Q247) q_Q248) q_Q249) q_Q250) q_Q251) q_Q252) q_Q253) q_Q254) q_Q255) q_Q256) q_Q257) q_Q258) q_Q259) q_Q260) q_Q261) q_Q262) q_Q263
end
