section
theorem c_5 {d : Nat} {P : Int → qM → Prop} {M : qM} {m : Int} {n : Nat} (ht : q_top M = m + 2) (hm : 126 ≤ m) (hk : q_kd M m = 1) (hk1 : q_kd M (m + 1) = 14) (hn : q_ln M (m + 1) = (n : Int)) (n6 : n ≤ 6) (K : ∀ M', q_top M' = m + 24 → (∀ a, a < m + 2 → (q_kd M' a = q_kd M a ∧ q_ln M' a = q_ln M a ∧ (∀ j, q_nm M' a j = q_nm M a j) ∧ (a ≠ m → ∀ j, q_rf M' a j = q_rf M a j))) → m_lay M' m n (mst n) → P 0 M') : q_WP q_Pr (d + 1) 5 [.inr (.inr m), .inr (.inr 3), .inr (.inr (m + 1))] M P := by
  have hs := mst_le n6
  have D0 := gst0 (m := m) ht
  refine q_enter (s_5_0 ⟨⟨by omega, by rw [hk]; decide⟩, ⟨by decide, by decide⟩, ?_⟩)
  intro N1
  obtain ⟨M1, e1⟩ : ∃ x, x = N1 := ⟨_, rfl⟩
  rw [← e1]
  have D1 := gst_al (u' := m + 3) (k := 16) D0 e1 (by omega)
  refine ⟨⟨by omega, by omega⟩, ⟨(gst_kd D1 (by omega)).trans hk, by rw [D0.1.1]; omega⟩, ?_⟩
  intro N2
  obtain ⟨M2, e2⟩ : ∃ x, x = N2 := ⟨_, rfl⟩
  rw [← e2]
  have f2 : M2 = q_wr M1 m 12 (m + 2) := by rw [← D0.1.1]; exact e2
  have D2 := gst_wr D1 f2 (by simp)
  refine ⟨⟨by decide, by decide⟩, ?_⟩
  intro N3
  obtain ⟨M3, e3⟩ : ∃ x, x = N3 := ⟨_, rfl⟩
  rw [← e3]
  have D3 := gst_al (u' := m + 4) (k := 14) D2 e3 (by omega)
  refine ⟨⟨by omega, by omega⟩, ⟨(gst_kd D3 (by omega)).trans hk, by rw [D2.1.1]; omega⟩, ?_⟩
  intro N4
  obtain ⟨M4, e4⟩ : ∃ x, x = N4 := ⟨_, rfl⟩
  rw [← e4]
  have f4 : M4 = q_wr M3 m 13 (m + 3) := by rw [← D2.1.1]; exact e4
  have D4 := gst_wr D3 f4 (by simp)
  refine ⟨⟨(gst_kd D4 (by omega)).trans hk, by omega⟩, ?_⟩
  intro N5
  obtain ⟨M5, e5⟩ : ∃ x, x = N5 := ⟨_, rfl⟩
  rw [← e5]
  have D5 := gst_wr D4 e5 (by simp)
  refine ⟨⟨(gst_kd D5 (by omega)).trans hk, by omega⟩, ?_⟩
  intro N6
  obtain ⟨M6, e6⟩ : ∃ x, x = N6 := ⟨_, rfl⟩
  rw [← e6]
  have D6 := gst_wr D5 e6 (by simp)
  refine ⟨by rw [gst_kd D6 (by omega), hk1]; decide, ?_⟩
  rw [show q_ln M6 (m + 1) = (n : Int) from (D6.2.1 (m + 1) (by omega)).2.1.trans hn, MO_eq n6]
  refine ⟨⟨by omega, by omega⟩, ?_⟩
  intro N7
  obtain ⟨M7, e7⟩ : ∃ x, x = N7 := ⟨_, rfl⟩
  rw [← e7]
  have D7 := gst_al (u' := m + 5) (k := 12) D6 e7 (by omega)
  refine ⟨⟨by omega, by omega⟩, ⟨(gst_kd D7 (by omega)).trans hk, by rw [D6.1.1]; omega⟩, ?_⟩
  intro N8
  obtain ⟨M8, e8⟩ : ∃ x, x = N8 := ⟨_, rfl⟩
  rw [← e8]
  have f8 : M8 = q_wr M7 m 4 (m + 4) := by rw [← D6.1.1]; exact e8
  have D8 := gst_wr D7 f8 (by simp)
  refine ⟨⟨by omega, by omega⟩, ?_⟩
  intro N9
  obtain ⟨M9, e9⟩ : ∃ x, x = N9 := ⟨_, rfl⟩
  rw [← e9]
  have D9 := gst_al (u' := m + 6) (k := 12) D8 e9 (by omega)
  refine ⟨⟨by omega, by omega⟩, ⟨(gst_kd D9 (by omega)).trans hk, by rw [D8.1.1]; omega⟩, ?_⟩
  intro N10
  obtain ⟨M10, e10⟩ : ∃ x, x = N10 := ⟨_, rfl⟩
  rw [← e10]
  have f10 : M10 = q_wr M9 m 5 (m + 5) := by rw [← D8.1.1]; exact e10
  have D10 := gst_wr D9 f10 (by simp)
  refine ⟨⟨by omega, by omega⟩, ?_⟩
  intro N11
  obtain ⟨M11, e11⟩ : ∃ x, x = N11 := ⟨_, rfl⟩
  rw [← e11]
  have D11 := gst_al (u' := m + 7) (k := 12) D10 e11 (by omega)
  refine ⟨⟨by omega, by omega⟩, ⟨(gst_kd D11 (by omega)).trans hk, by rw [D10.1.1]; omega⟩, ?_⟩
  intro N12
  obtain ⟨M12, e12⟩ : ∃ x, x = N12 := ⟨_, rfl⟩
  rw [← e12]
  have f12 : M12 = q_wr M11 m 6 (m + 6) := by rw [← D10.1.1]; exact e12
  have D12 := gst_wr D11 f12 (by simp)
  refine ⟨⟨by omega, by omega⟩, ?_⟩
  intro N13
  obtain ⟨M13, e13⟩ : ∃ x, x = N13 := ⟨_, rfl⟩
  rw [← e13]
  have D13 := gst_al (u' := m + 8) (k := 12) D12 e13 (by omega)
  refine ⟨⟨by omega, by omega⟩, ⟨(gst_kd D13 (by omega)).trans hk, by rw [D12.1.1]; omega⟩, ?_⟩
  intro N14
  obtain ⟨M14, e14⟩ : ∃ x, x = N14 := ⟨_, rfl⟩
  rw [← e14]
  have f14 : M14 = q_wr M13 m 7 (m + 7) := by rw [← D12.1.1]; exact e14
  have D14 := gst_wr D13 f14 (by simp)
  refine ⟨⟨by omega, by omega⟩, ?_⟩
  intro N15
  obtain ⟨M15, e15⟩ : ∃ x, x = N15 := ⟨_, rfl⟩
  rw [← e15]
  have D15 := gst_al (u' := m + 9) (k := 16) D14 e15 (by omega)
  refine ⟨⟨by omega, by omega⟩, ⟨(gst_kd D15 (by omega)).trans hk, by rw [D14.1.1]; omega⟩, ?_⟩
  intro N16
  obtain ⟨M16, e16⟩ : ∃ x, x = N16 := ⟨_, rfl⟩
  rw [← e16]
  have f16 : M16 = q_wr M15 m 8 (m + 8) := by rw [← D14.1.1]; exact e16
  have D16 := gst_wr D15 f16 (by simp)
  refine ⟨⟨by omega, by omega⟩, ?_⟩
  intro N17
  obtain ⟨M17, e17⟩ : ∃ x, x = N17 := ⟨_, rfl⟩
  rw [← e17]
  have D17 := gst_al (u' := m + 10) (k := 14) D16 e17 (by omega)
  refine ⟨⟨by omega, by omega⟩, ⟨(gst_kd D17 (by omega)).trans hk, by rw [D16.1.1]; omega⟩, ?_⟩
  intro N18
  obtain ⟨M18, e18⟩ : ∃ x, x = N18 := ⟨_, rfl⟩
  rw [← e18]
  have f18 : M18 = q_wr M17 m 9 (m + 9) := by rw [← D16.1.1]; exact e18
  have D18 := gst_wr D17 f18 (by simp)
  refine ⟨⟨by omega, by omega⟩, ?_⟩
  intro N19
  obtain ⟨M19, e19⟩ : ∃ x, x = N19 := ⟨_, rfl⟩
  rw [← e19]
  have D19 := gst_al (u' := m + 11) (k := 15) D18 e19 (by omega)
  refine ⟨⟨by omega, by omega⟩, ⟨(gst_kd D19 (by omega)).trans hk, by rw [D18.1.1]; omega⟩, ?_⟩
  intro N20
  obtain ⟨M20, e20⟩ : ∃ x, x = N20 := ⟨_, rfl⟩
  rw [← e20]
  have f20 : M20 = q_wr M19 m 10 (m + 10) := by rw [← D18.1.1]; exact e20
  have D20 := gst_wr D19 f20 (by simp)
  refine ⟨⟨by omega, by omega⟩, ?_⟩
  intro N21
  obtain ⟨M21, e21⟩ : ∃ x, x = N21 := ⟨_, rfl⟩
  rw [← e21]
  have D21 := gst_al (u' := m + 12) (k := 14) D20 e21 (by omega)
  refine ⟨⟨by omega, by omega⟩, ⟨(gst_kd D21 (by omega)).trans hk, by rw [D20.1.1]; omega⟩, ?_⟩
  intro N22
  obtain ⟨M22, e22⟩ : ∃ x, x = N22 := ⟨_, rfl⟩
  rw [← e22]
  have f22 : M22 = q_wr M21 m 11 (m + 11) := by rw [← D20.1.1]; exact e22
  have D22 := gst_wr D21 f22 (by simp)
  refine ⟨⟨⟨by decide, by decide⟩, by omega, by omega⟩, ?_⟩
  intro N23
  obtain ⟨M23, e23⟩ : ∃ x, x = N23 := ⟨_, rfl⟩
  rw [← e23]
  have D23 := gst_mu (u' := m + 18) D22 e23 (by omega)
  refine ⟨⟨by omega, by rw [show Int.toNat (5 : Int) = 5 from rfl]; omega⟩, ⟨(gst_kd D23 (by omega)).trans hk, by rw [D22.1.1]; omega⟩, ?_⟩
  intro N24
  obtain ⟨M24, e24⟩ : ∃ x, x = N24 := ⟨_, rfl⟩
  rw [← e24]
  have f24 : M24 = q_wr M23 m 14 (m + 12) := by rw [← D22.1.1]; exact e24
  have D24 := gst_wr D23 f24 (by simp)
  refine ⟨⟨⟨by decide, by decide⟩, by omega, by omega⟩, ?_⟩
  intro N25
  obtain ⟨M25, e25⟩ : ∃ x, x = N25 := ⟨_, rfl⟩
  rw [← e25]
  have D25 := gst_mu (u' := m + 24) D24 e25 (by omega)
  refine ⟨⟨by omega, by rw [show Int.toNat (5 : Int) = 5 from rfl]; omega⟩, ⟨(gst_kd D25 (by omega)).trans hk, by rw [D24.1.1]; omega⟩, ?_⟩
  intro N26
  obtain ⟨M26, e26⟩ : ∃ x, x = N26 := ⟨_, rfl⟩
  rw [← e26]
  have f26 : M26 = q_wr M25 m 15 (m + 18) := by rw [← D24.1.1]; exact e26
  have D26 := gst_wr D25 f26 (by simp)
  refine K M26 D26.1.1 D26.2.1 ?_
  have F := D26.2.2.1
  have R := D26.2.2.2
  refine ⟨hm, ⟨(D26.2.1 m (by omega)).1.trans hk, (R (m, 0, 3) (by simp)).2⟩, ⟨(R (m, 1, m + 1) (by simp)).2, (D26.2.1 (m + 1) (by omega)).1.trans hk1, (D26.2.1 (m + 1) (by omega)).2.1.trans hn⟩, ⟨(R (m, 12, m + 2) (by simp)).2, (F (m + 2, 16, 5) (by simp)).2.1, (F (m + 2, 16, 5) (by simp)).2.2⟩, ⟨(R (m, 13, m + 3) (by simp)).2, (F (m + 3, 14, 5) (by simp)).2.1, (F (m + 3, 14, 5) (by simp)).2.2⟩, ⟨(R (m, 4, m + 4) (by simp)).2, (F (m + 4, 12, (mst n : Int)) (by simp)).2.1, (F (m + 4, 12, (mst n : Int)) (by simp)).2.2⟩, ⟨(R (m, 5, m + 5) (by simp)).2, (F (m + 5, 12, (mst n : Int)) (by simp)).2.1, (F (m + 5, 12, (mst n : Int)) (by simp)).2.2⟩, ⟨(R (m, 6, m + 6) (by simp)).2, (F (m + 6, 12, (mst n : Int)) (by simp)).2.1, (F (m + 6, 12, (mst n : Int)) (by simp)).2.2⟩, ⟨(R (m, 7, m + 7) (by simp)).2, (F (m + 7, 12, (mst n : Int)) (by simp)).2.1, (F (m + 7, 12, (mst n : Int)) (by simp)).2.2⟩, ⟨(R (m, 8, m + 8) (by simp)).2, (F (m + 8, 16, (mst n : Int)) (by simp)).2.1, (F (m + 8, 16, (mst n : Int)) (by simp)).2.2⟩, ⟨(R (m, 9, m + 9) (by simp)).2, (F (m + 9, 14, (mst n : Int)) (by simp)).2.1, (F (m + 9, 14, (mst n : Int)) (by simp)).2.2⟩, ⟨(R (m, 10, m + 10) (by simp)).2, (F (m + 10, 15, (mst n : Int)) (by simp)).2.1, (F (m + 10, 15, (mst n : Int)) (by simp)).2.2⟩, ⟨(R (m, 11, m + 11) (by simp)).2, (F (m + 11, 14, (mst n : Int)) (by simp)).2.1, (F (m + 11, 14, (mst n : Int)) (by simp)).2.2⟩, ⟨(R (m, 14, m + 12) (by simp)).2, (F (m + 12, 20, 5) (by simp)).2.1, (F (m + 12, 20, 5) (by simp)).2.2⟩, ⟨(R (m, 15, m + 18) (by simp)).2, (F (m + 18, 20, 5) (by simp)).2.1, (F (m + 18, 20, 5) (by simp)).2.2⟩, fun i a b => ?_, fun i a b => ?_⟩
  · have c : i = 0 ∨ i = 1 ∨ i = 2 ∨ i = 3 ∨ i = 4 := by omega
    rcases c with q | q | q | q | q <;> subst q
    · have r1 : q_rf M26 (m + 12) 0 = m + 12 + 1 := (R (m + 12, 0, m + 12 + 1) (by simp)).2
      have r2 : q_kd M26 (m + 12 + 1) = 14 := (F (m + 12 + 1, 14, (mst n : Int)) (by simp)).2.1
      have r3 : q_ln M26 (m + 12 + 1) = (mst n : Int) := (F (m + 12 + 1, 14, (mst n : Int)) (by simp)).2.2
      rw [show m + 13 + 0 = m + 12 + 1 by omega]; exact ⟨r1, r2, r3⟩
    · have r1 : q_rf M26 (m + 12) 1 = m + 12 + 2 := (R (m + 12, 1, m + 12 + 2) (by simp)).2
      have r2 : q_kd M26 (m + 12 + 2) = 14 := (F (m + 12 + 2, 14, (mst n : Int)) (by simp)).2.1
      have r3 : q_ln M26 (m + 12 + 2) = (mst n : Int) := (F (m + 12 + 2, 14, (mst n : Int)) (by simp)).2.2
      rw [show m + 13 + 1 = m + 12 + 2 by omega]; exact ⟨r1, r2, r3⟩
    · have r1 : q_rf M26 (m + 12) 2 = m + 12 + 3 := (R (m + 12, 2, m + 12 + 3) (by simp)).2
      have r2 : q_kd M26 (m + 12 + 3) = 14 := (F (m + 12 + 3, 14, (mst n : Int)) (by simp)).2.1
      have r3 : q_ln M26 (m + 12 + 3) = (mst n : Int) := (F (m + 12 + 3, 14, (mst n : Int)) (by simp)).2.2
      rw [show m + 13 + 2 = m + 12 + 3 by omega]; exact ⟨r1, r2, r3⟩
    · have r1 : q_rf M26 (m + 12) 3 = m + 12 + 4 := (R (m + 12, 3, m + 12 + 4) (by simp)).2
      have r2 : q_kd M26 (m + 12 + 4) = 14 := (F (m + 12 + 4, 14, (mst n : Int)) (by simp)).2.1
      have r3 : q_ln M26 (m + 12 + 4) = (mst n : Int) := (F (m + 12 + 4, 14, (mst n : Int)) (by simp)).2.2
      rw [show m + 13 + 3 = m + 12 + 4 by omega]; exact ⟨r1, r2, r3⟩
    · have r1 : q_rf M26 (m + 12) 4 = m + 12 + 5 := (R (m + 12, 4, m + 12 + 5) (by simp)).2
      have r2 : q_kd M26 (m + 12 + 5) = 14 := (F (m + 12 + 5, 14, (mst n : Int)) (by simp)).2.1
      have r3 : q_ln M26 (m + 12 + 5) = (mst n : Int) := (F (m + 12 + 5, 14, (mst n : Int)) (by simp)).2.2
      rw [show m + 13 + 4 = m + 12 + 5 by omega]; exact ⟨r1, r2, r3⟩
  · have c : i = 0 ∨ i = 1 ∨ i = 2 ∨ i = 3 ∨ i = 4 := by omega
    rcases c with q | q | q | q | q <;> subst q
    · have r1 : q_rf M26 (m + 18) 0 = m + 18 + 1 := (R (m + 18, 0, m + 18 + 1) (by simp)).2
      have r2 : q_kd M26 (m + 18 + 1) = 14 := (F (m + 18 + 1, 14, (mst n : Int)) (by simp)).2.1
      have r3 : q_ln M26 (m + 18 + 1) = (mst n : Int) := (F (m + 18 + 1, 14, (mst n : Int)) (by simp)).2.2
      rw [show m + 19 + 0 = m + 18 + 1 by omega]; exact ⟨r1, r2, r3⟩
    · have r1 : q_rf M26 (m + 18) 1 = m + 18 + 2 := (R (m + 18, 1, m + 18 + 2) (by simp)).2
      have r2 : q_kd M26 (m + 18 + 2) = 14 := (F (m + 18 + 2, 14, (mst n : Int)) (by simp)).2.1
      have r3 : q_ln M26 (m + 18 + 2) = (mst n : Int) := (F (m + 18 + 2, 14, (mst n : Int)) (by simp)).2.2
      rw [show m + 19 + 1 = m + 18 + 2 by omega]; exact ⟨r1, r2, r3⟩
    · have r1 : q_rf M26 (m + 18) 2 = m + 18 + 3 := (R (m + 18, 2, m + 18 + 3) (by simp)).2
      have r2 : q_kd M26 (m + 18 + 3) = 14 := (F (m + 18 + 3, 14, (mst n : Int)) (by simp)).2.1
      have r3 : q_ln M26 (m + 18 + 3) = (mst n : Int) := (F (m + 18 + 3, 14, (mst n : Int)) (by simp)).2.2
      rw [show m + 19 + 2 = m + 18 + 3 by omega]; exact ⟨r1, r2, r3⟩
    · have r1 : q_rf M26 (m + 18) 3 = m + 18 + 4 := (R (m + 18, 3, m + 18 + 4) (by simp)).2
      have r2 : q_kd M26 (m + 18 + 4) = 14 := (F (m + 18 + 4, 14, (mst n : Int)) (by simp)).2.1
      have r3 : q_ln M26 (m + 18 + 4) = (mst n : Int) := (F (m + 18 + 4, 14, (mst n : Int)) (by simp)).2.2
      rw [show m + 19 + 3 = m + 18 + 4 by omega]; exact ⟨r1, r2, r3⟩
    · have r1 : q_rf M26 (m + 18) 4 = m + 18 + 5 := (R (m + 18, 4, m + 18 + 5) (by simp)).2
      have r2 : q_kd M26 (m + 18 + 5) = 14 := (F (m + 18 + 5, 14, (mst n : Int)) (by simp)).2.1
      have r3 : q_ln M26 (m + 18 + 5) = (mst n : Int) := (F (m + 18 + 5, 14, (mst n : Int)) (by simp)).2.2
      rw [show m + 19 + 4 = m + 18 + 5 by omega]; exact ⟨r1, r2, r3⟩
end
