/-! fractions; who gave nothing -/
theorem ek_half {a b k : Nat} (hbp : 0 < b) (hb : b < 2 ^ (k + 1)) (h0 : 0 < a % b) : b % (a % b) < 2 ^ k := by
  have h1 : a % b < b := Nat.mod_lt _ hbp
  have h2 : b % (a % b) < a % b := Nat.mod_lt _ h0
  have h3 : b % (a % b) ≤ b - a % b := by
    have := Nat.mod_eq_sub_mod (a := b) (b := a % b) (Nat.le_of_lt h1)
    rw [this]
    exact Nat.mod_le _ _
  rw [Nat.pow_succ] at hb
  generalize b % (a % b) = s at *
  generalize a % b = r at *
  generalize 2 ^ k = p at *
  omega
theorem ek_gcdX {N : Nat} : ∀ k a b j n', b < 2 ^ k → a < 2 ^ 62 → b < 2 ^ 62 → j + 2 * k < 100 → 2 * k < n' → f_X11_commonDivisor_b9 N n' (lN a) (lN b) (nI j) = some (lN (Nat.gcd a b)) := by
  intro k
  induction k with
  | zero =>
    intro a b j n' hb ha hb2 hj hn
    have : b = 0 := by omega
    subst this
    obtain ⟨n1, rfl⟩ : ∃ q, n' = q + 1 := ⟨n' - 1, by omega⟩
    rw [f_X11_commonDivisor_b9, if_neg (show ¬ (100 : Int32) ≤ nI j from nI_ge (b := 100) (by omega) (by omega)), if_pos (show lN 0 = 0 from rfl), Nat.gcd_zero_right]
  | succ k ih =>
    intro a b j n' hb ha hb2 hj hn
    obtain ⟨n1, rfl⟩ : ∃ q, n' = q + 1 := ⟨n' - 1, by omega⟩
    rw [f_X11_commonDivisor_b9, if_neg (show ¬ (100 : Int32) ≤ nI j from nI_ge (b := 100) (by omega) (by omega))]
    rcases Nat.eq_zero_or_pos b with e | e
    · subst e
      rw [if_pos (show lN 0 = 0 from rfl), Nat.gcd_zero_right]
    · have nb : ¬ lN b = 0 := fun q => by have := (pk_lEQ (a := b) (b := 0) (by omega) (by omega)).mp q; omega
      rw [if_neg nb, pk_lRem (by omega) e (by omega), nm_t, nI_1]
      have hg : Nat.gcd a b = Nat.gcd b (a % b) := by rw [Nat.gcd_comm a b, Nat.gcd_rec b a, Nat.gcd_comm]
      have hlt := Nat.mod_lt a e
      obtain ⟨n2, rfl⟩ : ∃ q, n1 = q + 1 := ⟨n1 - 1, by omega⟩
      rw [f_X11_commonDivisor_b9, if_neg (show ¬ (100 : Int32) ≤ nI (j + 1) from nI_ge (b := 100) (by omega) (by omega))]
      rcases Nat.eq_zero_or_pos (a % b) with e2 | e2
      · rw [e2, if_pos (show lN 0 = 0 from rfl), hg, e2, Nat.gcd_zero_right]
      · have nb2 : ¬ lN (a % b) = 0 := fun q => by have := (pk_lEQ (a := a % b) (b := 0) (by omega) (by omega)).mp q; omega
        rw [if_neg nb2, pk_lRem (by omega) e2 (by omega), nm_t, nI_1]
        have hlt2 := Nat.mod_lt b e2
        rw [ih (a % b) (b % (a % b)) (j + 1 + 1) n2 (ek_half e hb e2) (by omega) (by omega) (by omega) (by omega), hg]
        have hg2 : Nat.gcd b (a % b) = Nat.gcd (a % b) (b % (a % b)) := by rw [Nat.gcd_comm b (a % b), Nat.gcd_rec (a % b) b, Nat.gcd_comm]
        rw [hg2]
theorem ek_gcdM {N : Nat} {u l up lo : Int64} {x : Int32} : ∀ k a b n', b < 2 ^ k → a < 2 ^ 62 → b < 2 ^ 62 → 2 * k < n' → 0 < Nat.gcd a b → f_X12_part_b6 N n' u l up lo x (lN a) (lN b) = some (x, up / lN (Nat.gcd a b), lo / lN (Nat.gcd a b)) := by
  intro k
  induction k with
  | zero =>
    intro a b n' hb ha hb2 hn hg0
    have : b = 0 := by omega
    subst this
    obtain ⟨n1, rfl⟩ : ∃ q, n' = q + 1 := ⟨n' - 1, by omega⟩
    rw [Nat.gcd_zero_right] at hg0 ⊢
    have na : ¬ lN a = 0 := fun q => by have := (pk_lEQ (a := a) (b := 0) (by omega) (by omega)).mp q; omega
    rw [f_X12_part_b6, if_pos (show lN 0 = 0 from rfl), gd_t na, gd_t na]
  | succ k ih =>
    intro a b n' hb ha hb2 hn hg0
    obtain ⟨n1, rfl⟩ : ∃ q, n' = q + 1 := ⟨n' - 1, by omega⟩
    rw [f_X12_part_b6]
    rcases Nat.eq_zero_or_pos b with e | e
    · subst e
      rw [Nat.gcd_zero_right] at hg0 ⊢
      have na : ¬ lN a = 0 := fun q => by have := (pk_lEQ (a := a) (b := 0) (by omega) (by omega)).mp q; omega
      rw [if_pos (show lN 0 = 0 from rfl), gd_t na, gd_t na]
    · have nb : ¬ lN b = 0 := fun q => by have := (pk_lEQ (a := b) (b := 0) (by omega) (by omega)).mp q; omega
      rw [if_neg nb, pk_lRem (by omega) e (by omega), nm_t]
      have hg : Nat.gcd a b = Nat.gcd b (a % b) := by rw [Nat.gcd_comm a b, Nat.gcd_rec b a, Nat.gcd_comm]
      have hlt := Nat.mod_lt a e
      obtain ⟨n2, rfl⟩ : ∃ q, n1 = q + 1 := ⟨n1 - 1, by omega⟩
      rw [f_X12_part_b6]
      rcases Nat.eq_zero_or_pos (a % b) with e2 | e2
      · rw [e2, if_pos (show lN 0 = 0 from rfl), gd_t nb, gd_t nb, hg, e2, Nat.gcd_zero_right]
      · have nb2 : ¬ lN (a % b) = 0 := fun q => by have := (pk_lEQ (a := a % b) (b := 0) (by omega) (by omega)).mp q; omega
        rw [if_neg nb2, pk_lRem (by omega) e2 (by omega), nm_t]
        have hlt2 := Nat.mod_lt b e2
        have hg2 : Nat.gcd b (a % b) = Nat.gcd (a % b) (b % (a % b)) := by rw [Nat.gcd_comm b (a % b), Nat.gcd_rec (a % b) b, Nat.gcd_comm]
        rw [ih (a % b) (b % (a % b)) n2 (ek_half e hb e2) (by omega) (by omega) (by omega) (by rw [← hg2, ← hg]; exact hg0), hg, hg2]
/-- a fraction told: both sides -/
theorem ek_frac {N a b : Nat} {u l u' l' : Int64} {x : Int32} (hN : 5000 ≤ N) (hab : a ≤ b) (hb0 : 0 < b) (hb : b < 2 ^ 44) :
    ∃ p q, f_X11_tellFraction N u l (lN a) (lN b) x = some (x, p, q) ∧ f_X12_part N u' l' (lN a) (lN b) x = some (x, p, q) := by
  have hg0 : 0 < Nat.gcd a b := Nat.gcd_pos_of_pos_right _ hb0
  have hgb : Nat.gcd a b ≤ b := Nat.le_of_dvd hb0 (Nat.gcd_dvd_right a b)
  have ng : ¬ lN (Nat.gcd a b) = 0 := fun q => by have := (pk_lEQ (a := Nat.gcd a b) (b := 0) (by omega) (by omega)).mp q; omega
  refine ⟨lN a / lN (Nat.gcd a b), lN b / lN (Nat.gcd a b), ?_, ?_⟩
  · unfold f_X11_tellFraction f_X11_commonDivisor
    have := ek_gcdX (N := N) 44 a b 0 N hb (by omega) (by omega) (by omega) (by omega)
    rw [show f_X11_commonDivisor_b9 N N (lN a) (lN b) 0 = _ from this, bn_t]
    unfold f_X11_tellFraction_b23
    rw [if_neg ng, if_neg ng]
  · unfold f_X12_part
    exact ek_gcdM 44 a b N hb (by omega) (by omega) (by omega) hg0
/-! sets as numbers -/
theorem ek_btN (m i : Nat) (hi : i < 32) : ek_bt (nI m) i = m.testBit i := by
  unfold ek_bt
  show (BitVec.ofNat 32 m).getLsbD i = _
  rw [BitVec.getLsbD_ofNat]
  simp [hi]
theorem ek_nbig (m : Nat) (hm : m < 512) {i : Nat} (hi : 9 ≤ i) : m.testBit i = false := by
  apply Nat.testBit_lt_two_pow
  exact Nat.lt_of_lt_of_le hm (Nat.pow_le_pow_right (n := 2) (by omega) hi)
theorem ek_subN {m : Nat} (hm : m < 512) : ek_sub 9 (nI m) := by
  intro i hi
  rcases Nat.lt_or_ge i 32 with q | q
  · rw [ek_btN m i q]; exact ek_nbig m hm hi
  · exact ek_bbig q
theorem ek_incl {m c : Nat} (hm : m < 512) (hc : c < 512) : (nI m &&& (nI c ^^^ (-1 : Int32))) = 0 ↔ ∀ i, i < 9 → m.testBit i = true → c.testBit i = true := by
  constructor
  · intro h i hi hb
    have e : ek_bt (nI m &&& (nI c ^^^ (-1 : Int32))) i = false := by rw [h]; exact ek_b0 i
    rw [ek_band, ek_bxor, ek_bm1 i (by omega), ek_btN m i (by omega), ek_btN c i (by omega), hb] at e
    cases q : c.testBit i
    · rw [q] at e; cases e
    · rfl
  · intro h
    apply ek_ext; intro i hi
    rw [ek_band, ek_bxor, ek_bm1 i hi, ek_btN m i hi, ek_btN c i hi, ek_b0]
    rcases Nat.lt_or_ge i 9 with q | q
    · cases w : m.testBit i
      · rfl
      · rw [h i q w]; rfl
    · rw [ek_nbig m hm q]; rfl
theorem ek_incle {m c : Nat} (hm : m < 512) (hc : c < 512) (h : (nI m &&& (nI c ^^^ (-1 : Int32))) = 0) : m ≤ c := by
  have h2 := (ek_incl hm hc).mp h
  have : m &&& c = m := by
    apply Nat.eq_of_testBit_eq
    intro i
    rw [Nat.testBit_and]
    rcases Nat.lt_or_ge i 9 with q | q
    · cases w : m.testBit i
      · rfl
      · rw [h2 i q w]; rfl
    · rw [ek_nbig m hm q]; rfl
  rw [← this]
  exact Nat.and_le_right
def ek_ties (n : Nat) (F : Nat → Int32) (m : Nat) : Int32 := ek_s (fun i => if ek_bt (nI m) i then ek_ds F i 1 else 0) n
def ek_way (n : Nat) (F : Nat → Int32) (c : Int32) (v : Int32) (m : Nat) : Bool := decide ((nI m &&& (c ^^^ (-1 : Int32))) = 0) && decide (ek_ties n F m = v)
theorem ek_wayX {N n m : Nat} {F : Nat → Int32} {c v : Int32} (hN : 5000 ≤ N) (hn : n ≤ 9) : f_X11_isWay N (nI n) F c (nI m) v = some (if ek_way n F c v m then 1 else 0) := by
  unfold f_X11_isWay ek_way
  by_cases h : (nI m &&& (c ^^^ (-1 : Int32))) = 0
  · rw [if_pos h, decide_eq_true h]
    refine ek_for (fun n2 x s => f_X11_isWay_b21 N (f_X11_isWay_b61 N (nI n) F c) (nI n) F c n2 (nI m) v s x) (fun i s => s + (if ek_bt (nI m) i then ek_ds F i 1 else 0)) (fun _ _ => True) n N (by omega) ?_ 0 trivial _ ?_
    · intro n2 j s hj _
      refine ⟨?_, trivial⟩
      try simp only
      rw [f_X11_isWay_b21, if_neg (nI_ge hj (by omega)), ek_bits (nI m) (by omega), show p_X1_fact (nI n) F (nI j) 1 = ek_ds F j 1 from ek_fact F hn hj (w := 1) (by omega)]
      unfold f_X11_isWay_b55
      rw [nI_1, nm_t]
      cases ek_bt (nI m) j
      · simp
      · simp
    · intro n2 _
      try simp only
      rw [f_X11_isWay_b21, if_pos (nI_le (Nat.le_refl _) (by omega)), ek_sfo, Int32.zero_add]
      unfold f_X11_isWay_b61 ek_ties
      by_cases q : ek_s (fun i => if ek_bt (nI m) i then ek_ds F i 1 else 0) n = v
      · rw [if_pos q, decide_eq_true q]; rfl
      · rw [if_neg q, decide_eq_false q]; rfl
  · rw [if_neg h, decide_eq_false h]; rfl
def ek_o1 (one : Option Nat) (j : Nat) : Int32 := match one with
  | none => 0
  | some i => if ek_bt (nI j) i then 0 else 1
theorem ek_o1a (i j : Nat) : (if (if ek_bt (nI j) i then (1 : Int32) else 0) = 0 then (1 : Int32) else 0) = ek_o1 (some i) j := by
  show _ = if ek_bt (nI j) i then (0 : Int32) else 1
  generalize ek_bt (nI j) i = b
  cases b <;> rfl
theorem ek_o1b (i j : Nat) : ((1 : Int32) - (if ek_bt (nI j) i then (1 : Int32) else 0)) = ek_o1 (some i) j := by
  show _ = if ek_bt (nI j) i then (0 : Int32) else 1
  generalize ek_bt (nI j) i = b
  cases b <;> rfl
def ek_ws (n : Nat) (F : Nat → Int32) (c v : Int32) (one : Option Nat) (j : Nat) (s : Int32 × Int32 × Int32) : Int32 × Int32 × Int32 :=
  if ek_way n F c v j then (s.1 + 1, s.2.1 &&& (nI j ^^^ (-1 : Int32)), s.2.2 + ek_o1 one j) else s
def ek_ways (n : Nat) (F : Nat → Int32) (c v : Int32) (one : Option Nat) (m : Nat) : Int32 × Int32 × Int32 := ek_fo (ek_ws n F c v one) (0, c, 0) m
theorem ek_waysb {n : Nat} {F : Nat → Int32} {c v : Int32} {one : Option Nat} : ∀ m, ∃ a b, a ≤ m ∧ b ≤ a ∧ (ek_ways n F c v one m).1 = nI a ∧ (ek_ways n F c v one m).2.2 = nI b := by
  intro m
  induction m with
  | zero => exact ⟨0, 0, by omega, by omega, rfl, rfl⟩
  | succ m ih =>
    obtain ⟨a, b, h1, h2, h3, h4⟩ := ih
    have e : ek_ways n F c v one (m + 1) = ek_ws n F c v one m (ek_ways n F c v one m) := rfl
    rw [e]
    unfold ek_ws
    by_cases q : ek_way n F c v m = true
    · rw [if_pos q]
      have hq : ∃ x, x ≤ 1 ∧ ek_o1 one m = nI x := by
        unfold ek_o1
        cases one with
        | none => exact ⟨0, by omega, rfl⟩
        | some i =>
          simp only
          split
          · exact ⟨0, by omega, rfl⟩
          · exact ⟨1, by omega, rfl⟩
      obtain ⟨x, hx, ex⟩ := hq
      refine ⟨a + 1, b + x, by omega, by omega, ?_, ?_⟩
      · show (ek_ways n F c v one m).1 + 1 = _
        rw [h3, nI_1]
      · show (ek_ways n F c v one m).2.2 + _ = _
        rw [h4, ex, nI_add]
    · rw [if_neg q]; exact ⟨a, b, by omega, h2, h3, h4⟩
theorem ek_ways512 {n cc : Nat} {F : Nat → Int32} {v : Int32} {one : Option Nat} (hc : cc < 512) : ek_ways n F (nI cc) v one 512 = ek_ways n F (nI cc) v one (cc + 1) := by
  unfold ek_ways
  apply ek_fomore (by omega)
  intro j h1 h2 t
  unfold ek_ws
  rw [if_neg]
  intro q
  unfold ek_way at q
  rw [Bool.and_eq_true] at q
  have := ek_incle (by omega) hc (of_decide_eq_true q.1)
  omega
theorem ek_noneM {N n : Nat} {F D : Nat → Int32} {c v a1 a2 a3 x2 : Int32} {one : Option Nat} (hN : 5000 ≤ N) (hD : ek_D n F D) (h1 : (one = none ∧ x2 = -9) ∨ ∃ i, i < n ∧ one = some i ∧ x2 = nI i) :
    f_X12_setNone N (nI n) c D a1 a2 a3 v x2 = some ((ek_ways n F c v one 512).1, if (ek_ways n F c v one 512).1 = 0 then 0 else (ek_ways n F c v one 512).2.1, (ek_ways n F c v one 512).2.2) := by
  have hn := hD.1
  unfold f_X12_setNone
  refine ek_for (fun n2 x (s : Int32 × Int32 × Int32) => f_X12_setNone_b20 N (f_X12_setNone_b146 N (nI n) c D) (nI n) c D n2 s.1 s.2.1 s.2.2 v x2 x) (ek_ws n F c v one) (fun _ _ => True) 512 N (by omega) ?_ (0, c, 0) trivial _ ?_
  · intro n2 j s hj _
    refine ⟨?_, trivial⟩
    try simp only
    rw [f_X12_setNone_b20, if_neg (show ¬ (512 : Int32) ≤ nI j from nI_ge (b := 512) hj (by omega))]
    refine ek_for (fun n3 x t => f_X12_setNone_b33 N (f_X12_setNone_b73 N (f_X12_setNone_b20 N (f_X12_setNone_b146 N (nI n) c D) (nI n) c D n2) (f_X12_setNone_b146 N (nI n) c D) (nI n) c D) (nI n) c D n3 s.1 s.2.1 s.2.2 v x2 (nI j) t x) (fun i t => t + (if ek_bt (nI j) i then ek_ds F i 1 else 0)) (fun _ _ => True) n N (by omega) ?_ 0 trivial _ ?_
    · intro n3 i t hi _
      refine ⟨?_, trivial⟩
      try simp only
      rw [f_X12_setNone_b33, if_neg (nI_ge hi (by omega)), ek_has (nI j) (by omega), show f_X12_of N D (nI i) 1 = some (ek_ds F i 1) from ek_ofD hD hi (w := 1) (by omega), bn_t]
      unfold f_X12_setNone_b64
      simp only [nm_t]
      rw [nI_1]
      cases ek_bt (nI j) i
      · simp
      · simp
    · intro n3 _
      try simp only
      rw [f_X12_setNone_b33, if_pos (nI_le (Nat.le_refl _) (by omega)), ek_sfo, Int32.zero_add]
      show f_X12_setNone_b73 N _ _ (nI n) c D s.1 s.2.1 s.2.2 v x2 (nI j) (ek_ties n F j) = _
      unfold f_X12_setNone_b73 f_X12_setNone_b136 f_X12_setNone_b140 ek_ws ek_way
      rw [nI_1]
      by_cases q : (nI j &&& (c ^^^ (-1 : Int32))) = 0
      · rw [if_pos q, decide_eq_true q]
        by_cases w : ek_ties n F j = v
        · rw [if_pos w, decide_eq_true w, if_pos (show (true && true) = true from rfl)]
          rcases h1 with ⟨o, e⟩ | ⟨i, hi, o, e⟩
          · subst o e; rw [if_pos rfl]; rfl
          · subst o e
            have n9 : ¬ nI i = -9 := (ek_neg (z := (-9 : Int32)) (k := -9) (by decide) (by decide) (by omega)).2.2.2.2.2
            rw [if_neg n9, ek_has (nI j) (by omega), ek_o1a]
        · rw [if_neg w, decide_eq_false w, if_neg (show ¬ (true && false) = true by decide)]
      · rw [if_neg q, decide_eq_false q, if_neg (show ¬ (false && decide (ek_ties n F j = v)) = true by simp)]
  · intro n2 _
    try simp only
    rw [f_X12_setNone_b20, if_pos (show (512 : Int32) ≤ nI 512 from nI_le (a := 512) (Nat.le_refl _) (by omega))]
    unfold f_X12_setNone_b146 ek_ways
    by_cases q : (ek_fo (ek_ws n F c v one) (0, c, 0) 512).1 = 0
    · rw [if_pos q, if_pos q]
    · rw [if_neg q, if_neg q]
theorem r_nothing {N n : Nat} {F D : Nat → Int32} {c ak a1 a2 a3 : Int32} (hN : 5000 ≤ N) (hD : ek_D n F D) (hc : ek_sub n c) (x : Int32) :
    ∃ o o', f_X11_nothing N (nI n) F c ak x = some o ∧ f_X12_nothing N (nI n) c D ak a1 a2 a3 x = some o' ∧ o.1 = o'.1 ∧ o.2 = o'.2.1 := by
  have hn := hD.1
  rcases ek_what x 99 (by decide) 99 100 rfl rfl with ⟨f1, f2⟩ | ⟨v, hv, rfl, f1, f2, f3, f4⟩
  · apply ek_mk2
    · unfold f_X11_nothing
      rcases f2 with q | ⟨q1, q2, q3⟩
      · rw [if_pos q]
      · rw [if_neg q1, if_neg q3]
    · unfold f_X12_nothing; rw [if_pos f1]
    · exact ⟨rfl, rfl⟩
  obtain ⟨cc, hcc, rfl⟩ := ek_small (m := 9) (by omega) (ek_sub9 hn hc)
  have e1 : f_X11_nothing N (nI n) F (nI cc) ak (nI v) = some ((ek_ways n F (nI cc) (nI v) none (cc + 1)).1, if (ek_ways n F (nI cc) (nI v) none (cc + 1)).1 = 0 then 0 else (ek_ways n F (nI cc) (nI v) none (cc + 1)).2.1) := by
    unfold f_X11_nothing
    rw [if_neg f2, if_pos f4]
    refine ek_for (fun n2 y (s : Int32 × Int32 × Int32) => f_X11_nothing_b25 N (f_X11_nothing_b63 N (nI n) F (nI cc)) (nI n) F (nI cc) n2 ak (nI v) s.1 s.2.1 y) (ek_ws n F (nI cc) (nI v) none) (fun _ _ => True) (cc + 1) N (by omega) ?_ (0, nI cc, 0) trivial _ ?_
    · intro n2 j s hj _
      refine ⟨?_, trivial⟩
      try simp only
      rw [f_X11_nothing_b25, if_neg (nI_nlt (by omega) (by omega)), ek_wayX hN hn, bn_t]
      unfold f_X11_nothing_b57 ek_ws
      rw [nI_1, nm_t]
      cases ek_way n F (nI cc) (nI v) j
      · simp
      · simp
    · intro n2 _
      try simp only
      rw [f_X11_nothing_b25, if_pos (nI_lt (by omega) (by omega))]
      unfold f_X11_nothing_b63 ek_ways
      by_cases q : (ek_fo (ek_ws n F (nI cc) (nI v) none) (0, nI cc, 0) (cc + 1)).1 = 0
      · rw [if_pos q, if_pos q]; rfl
      · rw [if_neg q, if_neg q]; rfl
  apply ek_mk2
  · exact e1
  · unfold f_X12_nothing
    rw [if_neg f1, ek_noneM hN hD (Or.inl ⟨rfl, rfl⟩), bn_t, ek_ways512 hcc, nm_t]
  · exact ⟨rfl, rfl⟩
theorem r_gaveNone {N n : Nat} {F D Cn Cn' : Nat → Int32} {c l l' a1 a2 a3 : Int32} {u lo : Int64} (hN : 5000 ≤ N) (hD : ek_D n F D) (hc : ek_sub n c) (hF : ek_F l Cn l' Cn') (x y : Int32) :
    ∃ o o', f_X11_gaveNone N (nI n) F c l u lo Cn x y = some o ∧ f_X12_gaveNone N (nI n) c D l' u lo a1 a2 a3 Cn' x y = some o' ∧ o.1 = o'.1 ∧ ek_F o.2.1 o.2.2.2.2 o'.2.1 o'.2.2.2.2.2.2.2 ∧ o.2.2.1 = o'.2.2.1 ∧ o.2.2.2.1 = o'.2.2.2.1 := by
  have hn := hD.1
  rcases ek_desk x hn with ⟨d1, d2, -⟩ | ⟨i, hi, rfl, d1, d2⟩
  · apply ek_mk2
    · unfold f_X11_gaveNone; rw [if_pos d1]
    · unfold f_X12_gaveNone; rw [if_pos d2]
    · exact ⟨rfl, hF, rfl, rfl⟩
  rcases ek_what y 99 (by decide) 99 100 rfl rfl with ⟨f1, f2⟩ | ⟨v, hv, rfl, f1, f2, f3, f4⟩
  · apply ek_mk2
    · unfold f_X11_gaveNone; rw [if_neg d1]
      rcases f2 with q | ⟨q1, q2, q3⟩
      · rw [if_pos q]
      · rw [if_neg q1, if_neg q3]
    · unfold f_X12_gaveNone; rw [if_neg d2, if_pos f1]
    · exact ⟨rfl, hF, rfl, rfl⟩
  by_cases hb : ek_bt c i = true
  rotate_left
  · apply ek_mk2
    · unfold f_X11_gaveNone; rw [if_neg d1, if_neg f2, if_pos f4, ek_isC c (by omega), if_neg hb, if_pos rfl]
    · unfold f_X12_gaveNone; rw [if_neg d2, if_neg f1, ek_has c (by omega), if_neg hb, if_pos rfl]
    · exact ⟨rfl, hF, rfl, rfl⟩
  have hbx : ¬ p_X6_isCrossed c (nI i) = 0 := by rw [ek_isC c (by omega), if_pos hb]; decide
  have hbm : ¬ p_X12_has c (nI i) = 0 := by rw [ek_has c (by omega), if_pos hb]; decide
  obtain ⟨cc, hcc, rfl⟩ := ek_small (m := 9) (by omega) (ek_sub9 hn hc)
  have e1 : f_X11_gaveNone N (nI n) F (nI cc) l u lo Cn (nI i) (nI v) = f_X11_gaveNone_b89 N (nI n) F (nI cc) l u lo Cn (ek_ways n F (nI cc) (nI v) (some i) (cc + 1)).1 (ek_ways n F (nI cc) (nI v) (some i) (cc + 1)).2.2 := by
    unfold f_X11_gaveNone
    rw [if_neg d1, if_neg f2, if_pos f4, if_neg hbx]
    refine ek_for (fun n2 z (s : Int32 × Int32 × Int32) => f_X11_gaveNone_b45 N (f_X11_gaveNone_b89 N (nI n) F (nI cc)) (nI n) F (nI cc) n2 l u lo Cn (nI i) (nI v) s.1 s.2.2 z) (ek_ws n F (nI cc) (nI v) (some i)) (fun _ _ => True) (cc + 1) N (by omega) ?_ (0, nI cc, 0) trivial _ ?_
    · intro n2 j s hj _
      refine ⟨?_, trivial⟩
      try simp only
      rw [f_X11_gaveNone_b45, if_neg (nI_nlt (by omega) (by omega)), ek_wayX hN hn, bn_t, ek_bits (nI j) (by omega)]
      unfold f_X11_gaveNone_b83 ek_ws
      rw [nI_1, nm_t, ek_o1b]
      cases ek_way n F (nI cc) (nI v) j
      · simp
      · simp
    · intro n2 _
      try simp only
      rw [f_X11_gaveNone_b45, if_pos (nI_lt (by omega) (by omega))]
      rfl
  obtain ⟨a, b, h1, h2, h3, h4⟩ := ek_waysb (n := n) (F := F) (c := nI cc) (v := nI v) (one := some i) (cc + 1)
  have e2 : f_X12_setNone N (nI n) (nI cc) D a1 a2 a3 (nI v) (nI i) = some ((ek_ways n F (nI cc) (nI v) (some i) (cc + 1)).1, if (ek_ways n F (nI cc) (nI v) (some i) (cc + 1)).1 = 0 then 0 else (ek_ways n F (nI cc) (nI v) (some i) (cc + 1)).2.1, (ek_ways n F (nI cc) (nI v) (some i) (cc + 1)).2.2) := by
    rw [ek_noneM hN hD (Or.inr ⟨i, hi, rfl, rfl⟩), ek_ways512 hcc]
  rw [h3, h4] at e1
  rw [h3, h4] at e2
  by_cases h0 : nI a = 0
  · apply ek_mk2
    · rw [e1]
      unfold f_X11_gaveNone_b89
      rw [if_pos h0]
      show nm (p_X11_refuse l Cn (nI 4)) _ = _
      rw [ek_ref (by decide) (by decide)]; rfl
    · unfold f_X12_gaveNone
      rw [if_neg d2, if_neg f1, if_neg hbm, e2, bn_t, if_pos h0]
      show bn (f_X12_meet N l' Cn' (nI 4)) _ = _
      rw [ek_meet (by decide)]; rfl
    · exact ⟨rfl, ek_F_upd hF (by decide), rfl, rfl⟩
  · have ha : 0 < a := by
      rcases Nat.eq_zero_or_pos a with q | q
      · exact absurd (by rw [q]; rfl) h0
      · exact q
    obtain ⟨p, q, g1, g2⟩ := ek_frac (N := N) (a := b) (b := a) (u := u) (l := lo) (u' := u) (l' := lo) (x := nI b) hN h2 ha (by omega)
    apply ek_mk2
    · rw [e1]
      unfold f_X11_gaveNone_b89
      rw [if_neg h0, nI_l (by omega), nI_l (by omega), g1, bn_t]
    · unfold f_X12_gaveNone
      rw [if_neg d2, if_neg f1, if_neg hbm, e2, bn_t, if_neg h0]
      simp only
      rw [nI_l (by omega), nI_l (by omega), g2, bn_t]
    · exact ⟨rfl, hF, rfl, rfl⟩
