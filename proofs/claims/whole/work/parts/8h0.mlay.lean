section
/-- a Meant at m, its arrays behind it: n words in its line, mo takings at most -/
def m_lay (M : qM) (m n mo : Int) : Prop := 126 ≤ m ∧ (q_kd M m = 1 ∧ q_rf M m 0 = 3) ∧ (q_rf M m 1 = m + 1 ∧ q_kd M (m + 1) = 14 ∧ q_ln M (m + 1) = n) ∧ (q_rf M m 12 = m + 2 ∧ q_kd M (m + 2) = 16 ∧ q_ln M (m + 2) = 5) ∧ (q_rf M m 13 = m + 3 ∧ q_kd M (m + 3) = 14 ∧ q_ln M (m + 3) = 5) ∧ (q_rf M m 4 = m + 4 ∧ q_kd M (m + 4) = 12 ∧ q_ln M (m + 4) = mo) ∧ (q_rf M m 5 = m + 5 ∧ q_kd M (m + 5) = 12 ∧ q_ln M (m + 5) = mo) ∧ (q_rf M m 6 = m + 6 ∧ q_kd M (m + 6) = 12 ∧ q_ln M (m + 6) = mo) ∧ (q_rf M m 7 = m + 7 ∧ q_kd M (m + 7) = 12 ∧ q_ln M (m + 7) = mo) ∧ (q_rf M m 8 = m + 8 ∧ q_kd M (m + 8) = 16 ∧ q_ln M (m + 8) = mo) ∧ (q_rf M m 9 = m + 9 ∧ q_kd M (m + 9) = 14 ∧ q_ln M (m + 9) = mo) ∧ (q_rf M m 10 = m + 10 ∧ q_kd M (m + 10) = 15 ∧ q_ln M (m + 10) = mo) ∧ (q_rf M m 11 = m + 11 ∧ q_kd M (m + 11) = 14 ∧ q_ln M (m + 11) = mo) ∧ (q_rf M m 14 = m + 12 ∧ q_kd M (m + 12) = 20 ∧ q_ln M (m + 12) = 5) ∧ (q_rf M m 15 = m + 18 ∧ q_kd M (m + 18) = 20 ∧ q_ln M (m + 18) = 5) ∧ (∀ i, 0 ≤ i → i < 5 → (q_rf M (m + 12) i = m + 13 + i ∧ q_kd M (m + 13 + i) = 14 ∧ q_ln M (m + 13 + i) = mo)) ∧ (∀ i, 0 ≤ i → i < 5 → (q_rf M (m + 18) i = m + 19 + i ∧ q_kd M (m + 19 + i) = 14 ∧ q_ln M (m + 19 + i) = mo))
def q_ml (M : qM) (m n mo : Int) : Prop := q_lay M ∧ m_lay M m n mo
theorem q_ml_wn {M : qM} {m n mo a i v : Int} (h : q_ml M m n mo) : q_ml (q_wn M a i v) m n mo := h
theorem q_ml_ge {M : qM} {m n mo : Int} (h : q_ml M m n mo) : 126 ≤ m := h.2.1
theorem mk0 {M : qM} {m n mo : Int} (h : q_ml M m n mo) : q_kd M m = 1 := h.2.2.1.1
theorem mr0 {M : qM} {m n mo : Int} (h : q_ml M m n mo) : q_rf M m 0 = 3 := h.2.2.1.2
theorem mr1 {M : qM} {m n mo : Int} (h : q_ml M m n mo) : q_rf M m 1 = m + 1 := h.2.2.2.1.1
theorem mk1 {M : qM} {m n mo : Int} (h : q_ml M m n mo) : q_kd M (m + 1) = 14 := h.2.2.2.1.2.1
theorem ml1 {M : qM} {m n mo : Int} (h : q_ml M m n mo) : q_ln M (m + 1) = n := h.2.2.2.1.2.2
theorem mr12 {M : qM} {m n mo : Int} (h : q_ml M m n mo) : q_rf M m 12 = m + 2 := h.2.2.2.2.1.1
theorem mk2 {M : qM} {m n mo : Int} (h : q_ml M m n mo) : q_kd M (m + 2) = 16 := h.2.2.2.2.1.2.1
theorem ml2 {M : qM} {m n mo : Int} (h : q_ml M m n mo) : q_ln M (m + 2) = 5 := h.2.2.2.2.1.2.2
theorem mr13 {M : qM} {m n mo : Int} (h : q_ml M m n mo) : q_rf M m 13 = m + 3 := h.2.2.2.2.2.1.1
theorem mk3 {M : qM} {m n mo : Int} (h : q_ml M m n mo) : q_kd M (m + 3) = 14 := h.2.2.2.2.2.1.2.1
theorem ml3 {M : qM} {m n mo : Int} (h : q_ml M m n mo) : q_ln M (m + 3) = 5 := h.2.2.2.2.2.1.2.2
theorem mr4 {M : qM} {m n mo : Int} (h : q_ml M m n mo) : q_rf M m 4 = m + 4 := h.2.2.2.2.2.2.1.1
theorem mk4 {M : qM} {m n mo : Int} (h : q_ml M m n mo) : q_kd M (m + 4) = 12 := h.2.2.2.2.2.2.1.2.1
theorem ml4 {M : qM} {m n mo : Int} (h : q_ml M m n mo) : q_ln M (m + 4) = mo := h.2.2.2.2.2.2.1.2.2
theorem mr5 {M : qM} {m n mo : Int} (h : q_ml M m n mo) : q_rf M m 5 = m + 5 := h.2.2.2.2.2.2.2.1.1
theorem mk5 {M : qM} {m n mo : Int} (h : q_ml M m n mo) : q_kd M (m + 5) = 12 := h.2.2.2.2.2.2.2.1.2.1
theorem ml5 {M : qM} {m n mo : Int} (h : q_ml M m n mo) : q_ln M (m + 5) = mo := h.2.2.2.2.2.2.2.1.2.2
theorem mr6 {M : qM} {m n mo : Int} (h : q_ml M m n mo) : q_rf M m 6 = m + 6 := h.2.2.2.2.2.2.2.2.1.1
theorem mk6 {M : qM} {m n mo : Int} (h : q_ml M m n mo) : q_kd M (m + 6) = 12 := h.2.2.2.2.2.2.2.2.1.2.1
theorem ml6 {M : qM} {m n mo : Int} (h : q_ml M m n mo) : q_ln M (m + 6) = mo := h.2.2.2.2.2.2.2.2.1.2.2
theorem mr7 {M : qM} {m n mo : Int} (h : q_ml M m n mo) : q_rf M m 7 = m + 7 := h.2.2.2.2.2.2.2.2.2.1.1
theorem mk7 {M : qM} {m n mo : Int} (h : q_ml M m n mo) : q_kd M (m + 7) = 12 := h.2.2.2.2.2.2.2.2.2.1.2.1
theorem ml7 {M : qM} {m n mo : Int} (h : q_ml M m n mo) : q_ln M (m + 7) = mo := h.2.2.2.2.2.2.2.2.2.1.2.2
theorem mr8 {M : qM} {m n mo : Int} (h : q_ml M m n mo) : q_rf M m 8 = m + 8 := h.2.2.2.2.2.2.2.2.2.2.1.1
theorem mk8 {M : qM} {m n mo : Int} (h : q_ml M m n mo) : q_kd M (m + 8) = 16 := h.2.2.2.2.2.2.2.2.2.2.1.2.1
theorem ml8 {M : qM} {m n mo : Int} (h : q_ml M m n mo) : q_ln M (m + 8) = mo := h.2.2.2.2.2.2.2.2.2.2.1.2.2
theorem mr9 {M : qM} {m n mo : Int} (h : q_ml M m n mo) : q_rf M m 9 = m + 9 := h.2.2.2.2.2.2.2.2.2.2.2.1.1
theorem mk9 {M : qM} {m n mo : Int} (h : q_ml M m n mo) : q_kd M (m + 9) = 14 := h.2.2.2.2.2.2.2.2.2.2.2.1.2.1
theorem ml9 {M : qM} {m n mo : Int} (h : q_ml M m n mo) : q_ln M (m + 9) = mo := h.2.2.2.2.2.2.2.2.2.2.2.1.2.2
theorem mr10 {M : qM} {m n mo : Int} (h : q_ml M m n mo) : q_rf M m 10 = m + 10 := h.2.2.2.2.2.2.2.2.2.2.2.2.1.1
theorem mk10 {M : qM} {m n mo : Int} (h : q_ml M m n mo) : q_kd M (m + 10) = 15 := h.2.2.2.2.2.2.2.2.2.2.2.2.1.2.1
theorem ml10 {M : qM} {m n mo : Int} (h : q_ml M m n mo) : q_ln M (m + 10) = mo := h.2.2.2.2.2.2.2.2.2.2.2.2.1.2.2
theorem mr11 {M : qM} {m n mo : Int} (h : q_ml M m n mo) : q_rf M m 11 = m + 11 := h.2.2.2.2.2.2.2.2.2.2.2.2.2.1.1
theorem mk11 {M : qM} {m n mo : Int} (h : q_ml M m n mo) : q_kd M (m + 11) = 14 := h.2.2.2.2.2.2.2.2.2.2.2.2.2.1.2.1
theorem ml11 {M : qM} {m n mo : Int} (h : q_ml M m n mo) : q_ln M (m + 11) = mo := h.2.2.2.2.2.2.2.2.2.2.2.2.2.1.2.2
theorem mr14 {M : qM} {m n mo : Int} (h : q_ml M m n mo) : q_rf M m 14 = m + 12 := h.2.2.2.2.2.2.2.2.2.2.2.2.2.2.1.1
theorem mk12 {M : qM} {m n mo : Int} (h : q_ml M m n mo) : q_kd M (m + 12) = 20 := h.2.2.2.2.2.2.2.2.2.2.2.2.2.2.1.2.1
theorem ml12 {M : qM} {m n mo : Int} (h : q_ml M m n mo) : q_ln M (m + 12) = 5 := h.2.2.2.2.2.2.2.2.2.2.2.2.2.2.1.2.2
theorem mr15 {M : qM} {m n mo : Int} (h : q_ml M m n mo) : q_rf M m 15 = m + 18 := h.2.2.2.2.2.2.2.2.2.2.2.2.2.2.2.1.1
theorem mk18 {M : qM} {m n mo : Int} (h : q_ml M m n mo) : q_kd M (m + 18) = 20 := h.2.2.2.2.2.2.2.2.2.2.2.2.2.2.2.1.2.1
theorem ml18 {M : qM} {m n mo : Int} (h : q_ml M m n mo) : q_ln M (m + 18) = 5 := h.2.2.2.2.2.2.2.2.2.2.2.2.2.2.2.1.2.2
theorem mw {M : qM} {m n mo : Int} (h : q_ml M m n mo) {i : Int} (h0 : 0 ≤ i) (h1 : i < 5) : q_rf M (m + 12) i = m + 13 + i ∧ q_kd M (m + 13 + i) = 14 ∧ q_ln M (m + 13 + i) = mo := h.2.2.2.2.2.2.2.2.2.2.2.2.2.2.2.2.1 i h0 h1
theorem ms {M : qM} {m n mo : Int} (h : q_ml M m n mo) {i : Int} (h0 : 0 ≤ i) (h1 : i < 5) : q_rf M (m + 18) i = m + 19 + i ∧ q_kd M (m + 19 + i) = 14 ∧ q_ln M (m + 19 + i) = mo := h.2.2.2.2.2.2.2.2.2.2.2.2.2.2.2.2.2 i h0 h1
end
