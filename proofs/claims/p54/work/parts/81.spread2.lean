/-! the spread: one hour from one key -/
def ek_q (n : Nat) (F : Nat → Int32) (ru h : Int32) (q : Nat) : List Nat × Nat × Int32 × Int32 × Int32 := ek_ph n F ru h 9 (q % 9) (nI (q / 9))
def ek_tx (R : List Nat × Nat × Int32 × Int32 × Int32) : Nat := if R.2.2.2.1 = -1 then 0 else if R.2.2.2.2 ≤ 0 then 12 else R.2.2.2.2.toNatClampNeg
def ek_t1 (R : List Nat × Nat × Int32 × Int32 × Int32) : Nat := 9 * R.2.2.1.toNatClampNeg + R.2.1
def ek_t2 (R : List Nat × Nat × Int32 × Int32 × Int32) : Nat := 9 * R.2.2.1.toNatClampNeg + R.2.2.2.1.toNatClampNeg
def ek_th (R : List Nat × Nat × Int32 × Int32 × Int32) (w : Nat) : Nat := if R.2.2.2.1 = -2 then w * ek_tx R else 0
def ek_ta (R : List Nat × Nat × Int32 × Int32 × Int32) (w q : Nat) : Nat := (if q = ek_t1 R then w * (12 - ek_tx R) else 0) + (if q = ek_t2 R then (if R.2.2.2.1 < 0 then 0 else w * ek_tx R) else 0)
/-- what is known of an hour from a key -/
def ek_qk (n : Nat) (R : List Nat × Nat × Int32 × Int32 × Int32) : Prop :=
  R.2.1 < n ∧ (∃ c, c < 2 ^ n ∧ R.2.2.1 = nI c) ∧ (R.2.2.2.1 = -2 ∨ R.2.2.2.1 = -1 ∨ ∃ f, f < n ∧ R.2.2.2.1 = nI f) ∧ (∃ z, z ≤ 9 ∧ R.2.2.2.2 = nI z) ∧ (R.2.2.2.1 = -1 → R.2.2.2.2 = 0)
theorem ek_subn {n c : Nat} (hn : n ≤ 9) (hc : c < 2 ^ n) : ek_sub n (nI c) := by
  have h9 : 2 ^ n ≤ 512 := Nat.le_trans (Nat.pow_le_pow_right (n := 2) (by omega) hn) (by decide)
  intro i hi
  by_cases q : i < 32
  · rw [ek_btN c i q]
    exact Nat.testBit_lt_two_pow (Nat.lt_of_lt_of_le hc (Nat.pow_le_pow_right (by omega) hi))
  · exact ek_subN (show c < 512 by omega) i (by omega)
theorem ek_p9 {n : Nat} (hn : n ≤ 9) : 2 ^ n ≤ 512 := Nat.le_trans (Nat.pow_le_pow_right (n := 2) (by omega) hn) (by decide)
theorem ek_qks {n q : Nat} {F : Nat → Int32} {ru h : Int32} (hn : n ≤ 9) (hw : ∀ i, i < n → ek_wf (ek_ds F i)) (hp : q % 9 < n) (hc : q / 9 < 2 ^ n) : ek_qk n (ek_q n F ru h q) := by
  obtain ⟨b1, b2, b3, b4, b5, -⟩ := ek_phb (ru := ru) (h := h) hn hw 9 (q % 9) (nI (q / 9)) hp (ek_subn hn hc)
  exact ⟨b1, ek_small (by omega) b2, b3, b4, b5⟩
theorem ek_txle {n : Nat} {R : List Nat × Nat × Int32 × Int32 × Int32} (h : ek_qk n R) : ek_tx R ≤ 12 := by
  obtain ⟨-, -, -, ⟨z, hz, e⟩, -⟩ := h
  unfold ek_tx
  split
  · omega
  · split
    · omega
    · rw [e, nI_clamp (by omega)]; omega
theorem ek_t1lt {n : Nat} {R : List Nat × Nat × Int32 × Int32 × Int32} (hn : n ≤ 9) (h : ek_qk n R) : ek_t1 R < 4608 := by
  obtain ⟨a, ⟨c, hc, e⟩, -⟩ := h
  have := ek_p9 hn
  unfold ek_t1
  rw [e, nI_clamp (by omega)]; omega
theorem ek_t2lt {n : Nat} {R : List Nat × Nat × Int32 × Int32 × Int32} (hn : n ≤ 9) (h : ek_qk n R) : ek_t2 R < 4608 := by
  obtain ⟨a, ⟨c, hc, e⟩, b, -⟩ := h
  have := ek_p9 hn
  unfold ek_t2
  rw [e, nI_clamp (by omega)]
  have : R.2.2.2.1.toNatClampNeg < 9 := by
    rcases b with b | b | ⟨f, hf, b⟩
    · rw [b]; decide
    · rw [b]; decide
    · rw [b, nI_clamp (by omega)]; omega
  omega
/-- nothing is lost -/
theorem ek_tmass {n w : Nat} {R : List Nat × Nat × Int32 × Int32 × Int32} (hn : n ≤ 9) (h : ek_qk n R) : ek_sn (ek_ta R w) 4608 + ek_th R w = 12 * w := by
  unfold ek_ta
  rw [ek_snadd, ek_snone, ek_snone, if_pos (ek_t1lt hn h), if_pos (ek_t2lt hn h)]
  have hx := ek_txle h
  have hs : w * (12 - ek_tx R) + w * ek_tx R = 12 * w := by
    rw [← Nat.mul_add, Nat.sub_add_cancel hx, Nat.mul_comm]
  unfold ek_th
  obtain ⟨-, -, b, -⟩ := h
  rcases b with b | b | ⟨f, hf, b⟩
  · rw [if_pos (show R.2.2.2.1 < 0 by rw [b]; decide), if_pos b]; omega
  · rw [if_pos (show R.2.2.2.1 < 0 by rw [b]; decide), if_neg (show ¬ R.2.2.2.1 = -2 by rw [b]; decide)]
    have : ek_tx R = 0 := by unfold ek_tx; rw [if_pos b]
    rw [this] at hs ⊢
    omega
  · rw [if_neg (show ¬ R.2.2.2.1 < 0 by rw [b]; exact nI_pos (by omega)), if_neg (show ¬ R.2.2.2.1 = -2 by rw [b]; exact (ek_neg (z := (-2 : Int32)) (k := -2) (by decide) (by decide) (by omega)).2.2.2.2.2)]
    omega
theorem ek_ta0 {R : List Nat × Nat × Int32 × Int32 × Int32} {q : Nat} : ek_ta R 0 q = 0 := by
  unfold ek_ta; simp
theorem ek_th0 {R : List Nat × Nat × Int32 × Int32 × Int32} : ek_th R 0 = 0 := by
  unfold ek_th; simp
theorem ek_tale {n w q : Nat} {R : List Nat × Nat × Int32 × Int32 × Int32} (hn : n ≤ 9) (h : ek_qk n R) (hq : q < 4608) : ek_ta R w q ≤ 12 * w := by
  have := ek_tmass (w := w) hn h
  have := ek_snp (f := ek_ta R w) hq
  omega
/-- where it goes is where it may go -/
theorem ek_tasup {n w q : Nat} {R : List Nat × Nat × Int32 × Int32 × Int32} (hn : n ≤ 9) (h : ek_qk n R) (hp : 0 < ek_ta R w q) : q % 9 < n ∧ q / 9 < 2 ^ n := by
  obtain ⟨a, ⟨c, hc, e⟩, b, -⟩ := h
  have h9 := ek_p9 hn
  have ec : R.2.2.1.toNatClampNeg = c := by rw [e, nI_clamp (by omega)]
  unfold ek_ta at hp
  by_cases q1 : q = ek_t1 R
  · rw [q1]; unfold ek_t1; rw [ec]
    exact ⟨by omega, by omega⟩
  · rw [if_neg q1] at hp
    by_cases q2 : q = ek_t2 R
    · rw [if_pos q2] at hp
      by_cases q3 : R.2.2.2.1 < 0
      · rw [if_pos q3] at hp; omega
      · rcases b with b | b | ⟨f, hf, b⟩
        · exact absurd (show R.2.2.2.1 < 0 by rw [b]; decide) q3
        · exact absurd (show R.2.2.2.1 < 0 by rw [b]; decide) q3
        · rw [q2]; unfold ek_t2; rw [ec, b, nI_clamp (by omega)]
          exact ⟨by omega, by omega⟩
    · rw [if_neg q2] at hp; omega
theorem ek_spX {N n q w H : Nat} {F : Nat → Int32} {Pn P : Nat → Int64} {K s : Nat → Int32} {ru h a1 a2 a3 a4 a5 num : Int32} {m : Nat} {κ A : Nat → Nat} (hN : 5000 ≤ N) (hn : n ≤ 9) (hw : ∀ i, i < n → ek_wf (ek_ds F i)) (hq : q < 4608) (hp : q % 9 < n) (hc : q / 9 < 2 ^ n) (hP : Pn q = lN w) (hw2 : w < 2 ^ 50) (hS : ek_S num P K m κ A) (hA : ∀ j, j < 4608 → A j < 2 ^ 60) :
    ∃ a1' a2' a3' a4' a5' s' num' P' K' m' κ', f_X2_spread N Pn (nI n) F a1 a2 a3 a4 a5 s num (lN H) P K (nI q) h ru = some (a1', a2', a3', a4', a5', s', num', lN (H + ek_th (ek_q n F ru h q) w), P', K') ∧ ek_S num' P' K' m' κ' (fun j => A j + ek_ta (ek_q n F ru h q) w j) := by
  have hk := ek_qks (ru := ru) (h := h) hn hw hp hc
  have h9 := ek_p9 hn
  unfold f_X2_spread
  have ed : p_X8_deskOf (nI q) = nI (q % 9) := pk_rem (a := q) (d := 9) (by omega) (by omega) (by omega)
  have ec : p_X8_crossedOf (nI q) = nI (q / 9) := pk_div (a := q) (d := 9) (by omega) (by omega) (by omega)
  obtain ⟨s', e1, -⟩ := ek_phX0 (s := s) (ru := ru) (h := h) (a1 := a1) (a2 := a2) (a3 := a3) (a4 := a4) (a5 := a5) hN hn hp (ek_subn hn hc)
  rw [ed, ec, e1, bn_t, nm_t]
  have ep : p_X8_partOf Pn (nI q) = lN w := by
    unfold p_X8_partOf
    rw [if_neg (nI_pos (by omega)), if_neg (show ¬ (4608 : Int32) ≤ nI q from nI_ge (b := 4608) (by omega) (by omega)), nI_clamp (by omega), hP]
  rw [ep]
  change ek_qk n (ek_ph n F ru h 9 (q % 9) (nI (q / 9))) at hk
  have eR : ek_q n F ru h q = ek_ph n F ru h 9 (q % 9) (nI (q / 9)) := rfl
  rw [eR]
  generalize ek_ph n F ru h 9 (q % 9) (nI (q / 9)) = R at *
  have hx := ek_txle hk
  have l1 := ek_t1lt hn hk
  have l2 := ek_t2lt hn hk
  obtain ⟨b1, ⟨c, hc2, e2⟩, b3, ⟨z, hz, e4⟩, b5⟩ := id hk
  have ecl : R.2.2.1.toNatClampNeg = c := by rw [e2, nI_clamp (by omega)]
  unfold f_X2_spread_b51
  have ex : (if R.2.2.2.1 = -1 then (0 : Int32) else (if R.2.2.2.2 ≤ 0 then 12 else R.2.2.2.2)) = nI (ek_tx R) := by
    unfold ek_tx
    by_cases y : R.2.2.2.1 = -1
    · rw [if_pos y, if_pos y]; rfl
    · rw [if_neg y, if_neg y]
      by_cases y2 : R.2.2.2.2 ≤ 0
      · rw [if_pos y2, if_pos y2]; rfl
      · rw [if_neg y2, if_neg y2, e4, nI_clamp (by omega)]
  simp only [ex]
  unfold f_X2_spread_b67
  have ew : lN w * ((12 : Int32) - nI (ek_tx R)).toInt64 = lN (w * (12 - ek_tx R)) := by
    rw [show (12 : Int32) - nI (ek_tx R) = nI (12 - ek_tx R) from pk_sub (a := 12) hx, nI_l (by omega), lN_mul]
  have ew2 : lN w * (nI (ek_tx R)).toInt64 = lN (w * ek_tx R) := by rw [nI_l (by omega), lN_mul]
  have bw1 : w * (12 - ek_tx R) ≤ w * 12 := Nat.mul_le_mul_left _ (by omega)
  have bw2 : w * ek_tx R ≤ w * 12 := Nat.mul_le_mul_left _ hx
  have hA1 : ∀ j, j < 4608 → A j + (if j = ek_t1 R then w * (12 - ek_tx R) else 0) < 2 ^ 61 := by
    intro j hj
    have := hA j hj
    split <;> omega
  have t1e : ek_t1 R = 9 * c + R.2.1 := by unfold ek_t1; rw [ecl]
  obtain ⟨num1, P1, K1, m1, κ1, f1, g1⟩ := ek_Sadd (N := N) (v := w * (12 - ek_tx R)) hS (show R.2.1 < 9 by omega) (show c < 512 by omega) (by have := hA _ (show 9 * c + R.2.1 < 4608 by omega); omega) (by omega)
  rw [ew, e2, f1, bn_t, ew2]
  rw [← t1e] at g1
  rcases b3 with b | b | ⟨f, hf, b⟩
  · rw [if_pos b]
    refine ⟨nI R.1.length, nI R.2.1, nI c, R.2.2.2.1, R.2.2.2.2, s', num1, P1, K1, m1, κ1, ?_, ?_⟩
    · try simp only
      rw [lN_add]
      unfold ek_th
      rw [if_pos b]
    · unfold ek_ta
      simp only [if_pos (show R.2.2.2.1 < 0 by rw [b]; decide)]
      simpa using g1
  · rw [if_neg (show ¬ R.2.2.2.1 = -2 by rw [b]; decide), if_pos (show R.2.2.2.1 < 0 by rw [b]; decide)]
    refine ⟨nI R.1.length, nI R.2.1, nI c, R.2.2.2.1, R.2.2.2.2, s', num1, P1, K1, m1, κ1, ?_, ?_⟩
    · unfold ek_th
      rw [if_neg (show ¬ R.2.2.2.1 = -2 by rw [b]; decide)]
      rfl
    · unfold ek_ta
      simp only [if_pos (show R.2.2.2.1 < 0 by rw [b]; decide)]
      simpa using g1
  · have n2 : ¬ R.2.2.2.1 = -2 := by rw [b]; exact (ek_neg (z := (-2 : Int32)) (k := -2) (by decide) (by decide) (by omega)).2.2.2.2.2
    have n0 : ¬ R.2.2.2.1 < 0 := by rw [b]; exact nI_pos (by omega)
    rw [if_neg n2, if_neg n0]
    have t2e : ek_t2 R = 9 * c + f := by unfold ek_t2; rw [ecl, b, nI_clamp (by omega)]
    obtain ⟨num2, P2, K2, m2, κ2, f2, g2⟩ := ek_Sadd (N := N) (d := f) (c := c) (v := w * ek_tx R) g1 (by omega) (by omega) (Nat.lt_trans (hA1 (9 * c + f) (by omega)) (by omega)) (by omega)
    try simp only
    rw [b, f2, bn_t]
    refine ⟨nI R.1.length, nI R.2.1, nI c, nI f, R.2.2.2.2, s', num2, P2, K2, m2, κ2, ?_, ?_⟩
    · unfold ek_th
      rw [if_neg n2]
      rfl
    · unfold ek_ta
      simp only [if_neg n0]
      rw [← t2e] at g2
      simpa only [Nat.add_assoc] using g2
