/-! the law: whom one asks; Friday -/
theorem lb_max (p : Nat → Nat) (c : Int32) : ∀ d b, ek_lb p c d = some b → ∀ k, k < d → ek_bt c k = false → p k ≤ p b := by
  intro d
  induction d with
  | zero => intro b h; cases h
  | succ d ih =>
    intro b h k hk hb
    rw [ek_lb] at h
    by_cases e : ek_bt c d = true
    · rw [if_pos e] at h
      refine ih b h k ?_ hb
      rcases Nat.lt_or_ge k d with q | q
      · exact q
      · rw [show k = d by omega, e] at hb; cases hb
    · rw [if_neg e] at h
      cases hl : ek_lb p c d with
      | none =>
        rw [hl] at h
        simp only [Option.some.injEq] at h
        rcases Nat.lt_or_ge k d with q | q
        · obtain ⟨b', hb'⟩ := ek_lbs p c hb d q
          rw [hl] at hb'; cases hb'
        · rw [show k = d by omega, h]; exact Nat.le_refl _
      | some b' =>
        rw [hl] at h
        simp only at h
        have hi := ih b' hl k
        by_cases z : p d ≤ p b'
        · rw [if_pos z] at h
          simp only [Option.some.injEq] at h
          subst h
          rcases Nat.lt_or_ge k d with q | q
          · exact hi q hb
          · rw [show k = d by omega]; exact z
        · rw [if_neg z] at h
          simp only [Option.some.injEq] at h
          subst h
          rcases Nat.lt_or_ge k d with q | q
          · have := hi q hb; omega
          · rw [show k = d by omega]; exact Nat.le_refl _
def cP (p : Nat → Nat) (n : Nat) : Nat := ek_sn (fun d => if p d = 0 then 0 else 1) n
def uP (p : Nat → Nat) (c : Int32) (n : Nat) : Nat := ek_sn (fun d => if ek_bt c d then 0 else if p d = 0 then 0 else 1) n
theorem cP_le {p : Nat → Nat} : ∀ n, cP p n ≤ n := by
  intro n
  induction n with
  | zero => exact Nat.le_refl _
  | succ n ih =>
    show cP p n + (if p n = 0 then 0 else 1) ≤ n + 1
    split <;> omega
theorem uP_ps {p : Nat → Nat} {c : Int32} {n : Nat} : (uP p c n = 0 → ek_ps p c n = ek_sn p n) ∧ (0 < uP p c n → ek_ps p c n < ek_sn p n) := by
  have e : ek_ps p c n + ek_sn (fun d => if ek_bt c d then 0 else p d) n = ek_sn p n := by
    unfold ek_ps
    rw [← ek_snadd]
    exact ek_snext (fun j _ => by cases ek_bt c j <;> simp)
  constructor
  · intro h
    have : ek_sn (fun d => if ek_bt c d then 0 else p d) n = 0 := ek_snz (fun j hj => by
      have := ek_snp (f := fun d => if ek_bt c d then 0 else if p d = 0 then 0 else 1) hj
      have h' : (if ek_bt c j then 0 else if p j = 0 then 0 else 1) ≤ 0 := Nat.le_trans this (Nat.le_of_eq h)
      by_cases a : ek_bt c j = true
      · rw [if_pos a]
      · rw [if_neg a] at h' ⊢
        by_cases b : p j = 0
        · exact b
        · rw [if_neg b] at h'; omega)
    omega
  · intro h
    have : 0 < ek_sn (fun d => if ek_bt c d then 0 else p d) n := by
      rcases Nat.eq_zero_or_pos (ek_sn (fun d => if ek_bt c d then 0 else p d) n) with q | q
      · have h0 : uP p c n = 0 := ek_snz (fun j hj => by
          have := ek_snp (f := fun d => if ek_bt c d then 0 else p d) hj
          have h' : (if ek_bt c j then 0 else p j) ≤ 0 := Nat.le_trans this (Nat.le_of_eq q)
          by_cases a : ek_bt c j = true
          · rw [if_pos a]
          · rw [if_neg a] at h' ⊢
            rw [if_pos (by omega)])
        omega
      · exact q
    omega
theorem aGu {p : Nat → Nat} {n : Nat} (hn : n ≤ 9) : ∀ j, j ≤ cP p n → uP p (aG p n j) n + j = cP p n := by
  intro j
  induction j with
  | zero =>
    intro _
    show ek_sn (fun d => if ek_bt 0 d then 0 else if p d = 0 then 0 else 1) n + 0 = _
    unfold cP
    rw [Nat.add_zero]
    exact ek_snext (fun j _ => by rw [ek_b0]; rfl)
  | succ j ih =>
    intro h
    have hi := ih (by omega)
    have hc := cP_le (p := p) n
    obtain ⟨b, b1, b2, b3, b4, b5⟩ := aGs (p := p) hn (show j < n by omega)
    have hpos : p b ≠ 0 := by
      intro q
      have : uP p (aG p n j) n = 0 := ek_snz (fun k hk => by
        by_cases a : ek_bt (aG p n j) k = true
        · rw [if_pos a]
        · have := lb_max p _ n b b3 k hk (by simpa using a)
          rw [if_neg a, if_pos (by omega)])
      omega
    have : uP p (aG p n (j + 1)) n + 1 = uP p (aG p n j) n := by
      unfold uP
      rw [← ek_snupd (p := b) b1]
      refine ek_snext (fun k hk => ?_)
      rw [b4, ek_bsg (by omega) (by omega)]
      by_cases y : b = k
      · subst y
        rw [b2]
        simp [hpos]
      · have y' : ¬ k = b := fun q => y q.symm
        cases ek_bt (aG p n j) k <;> simp [y, y']
    omega
theorem ask1 {p : Nat → Nat} {n q T : Nat} (hn : n ≤ 9) (hT : ek_sn p n = T) (hq : q ≤ n) (h1 : ∀ k, k < q → aS p n k * 1 < T * 1) (h2 : q = n ∨ T * 1 ≤ aS p n q * 1) : q = cP p n := by
  have hc := cP_le (p := p) n
  rcases Nat.lt_trichotomy q (cP p n) with a | a | a
  · have hu := aGu (p := p) hn q (by omega)
    have := (uP_ps (p := p) (c := aG p n q) (n := n)).2 (by omega)
    rcases h2 with b | b
    · omega
    · have e : aS p n q = ek_ps p (aG p n q) n := rfl
      omega
  · exact a
  · have hu := aGu (p := p) hn (cP p n) (Nat.le_refl _)
    have := (uP_ps (p := p) (c := aG p n (cP p n)) (n := n)).1 (by omega)
    have h := h1 (cP p n) a
    have e : aS p n (cP p n) = ek_ps p (aG p n (cP p n)) n := rfl
    omega
theorem cP_I {p : Nat → Nat} : ∀ n, ek_s (fun d => if p d = 0 then (0 : Int32) else 1) n = nI (cP p n) := by
  intro n
  induction n with
  | zero => rfl
  | succ n ih =>
    show ek_s (fun d => if p d = 0 then (0 : Int32) else 1) n + (if p n = 0 then (0 : Int32) else 1) = nI (cP p n + (if p n = 0 then 0 else 1))
    rw [ih]
    split
    · exact Int32.add_zero _
    · exact nI_1 _
section LAW
variable {S C TS TC F ch khs kgi kwr pu d xs : Nat → Int32} {la na li it x4 ak : Int32} {up lo : Int64} {th : TH} {s : GSt} {n s0 ru L x : Nat}
theorem L679 {cc s1 : Nat} {s2 : Int32} {s4 s5 s6 : Nat → Int32} (hy : Hy n s0 ru F la na li) (hV : GV n s0 (s1, s2, nI cc, s4, s5, s6)) (hPL : PL n s0 ru F la na li khs kgi kwr pu x4) (hx : x ≤ 6) (hc : cc < 2 ^ n) (hM : Sem S C TS TC (nI n) F (rS s0 ru la na li it 12 (s1, s2, nI cc, s4, s5, s6)) (kS s0 ru la na li khs kgi kwr) (nI 0) ch ak up lo th) :
    f_L_law_b679 5000 L xs th pu d (nI n) x4 (nI s0) (nI cc) (nI x) (nI (cP (oD n F (nI ru) 12 s1 cc s2 x s0) n)) = some 1 := by
  obtain ⟨y1, y2, y3, y4, y5, y6⟩ := id hy
  have hn9 : n ≤ 9 := by omega
  have hs1 : s1 < n := hV.1
  obtain ⟨q, th1, o1, m1, q1, q2, q3⟩ := s_ask (y := 1) (z := 1) hn9 y3 hs1 hc (show x ≤ 12 by omega) y5 (by omega) (by omega) (by omega) hM
  have htot := oDtot (x := x) (ho := 12) (ru := nI ru) (ib := s2) hn9 y3 hs1 hc y5
  have hqe := ask1 hn9 htot q1 q2 q3
  obtain ⟨g1, g2, g3⟩ := aGi (p := oD n F (nI ru) 12 s1 cc s2 x s0) hn9 q q1
  obtain ⟨r, th2, o2, m2, r1, r2, r3⟩ := s_ask (y := 0) (z := 5) hn9 y3 hs1 hc (show x ≤ 12 by omega) y5 (by omega) (by omega) (by omega) m1
  have hr0 : r = 0 := by
    rcases Nat.eq_zero_or_pos r with a | a
    · exact a
    · have := r2 0 a; omega
  obtain ⟨u, th3, o3, m3, u1, u2, u3⟩ := s_ask (y := 1) (z := 2) hn9 y3 hs1 hc (show x ≤ 12 by omega) y5 (by omega) (by omega) (by omega) m2
  have huq : u ≤ q := by
    rcases Nat.lt_or_ge q u with a | a
    · have := u2 q a
      rcases q3 with b | b <;> omega
    · exact a
  obtain ⟨x1, x2, x3, x5⟩ := aX (n := n) (c := nI cc) hn9
  have hX : (((1 : Int32) <<< (nI n &&& 31)) - (1 : Int32)) &&& (nI cc ^^^ (-1 : Int32)) = ek_all n &&& (nI cc ^^^ (-1 : Int32)) := rfl
  unfold f_L_law_b679
  rw [show o_ask th (nI x) 1 1 = _ from o1, bn_t, if_pos (show nI q = nI (cP (oD n F (nI ru) 12 s1 cc s2 x s0) n) by rw [hqe]), s_asked m1, bn_t, bits_ok (by omega), bn_t, if_pos g3]
  rw [show o_ask th1 (nI x) 0 5 = _ from o2, bn_t, if_pos (show nI r = 0 by rw [hr0]; rfl), show o_ask th2 (nI x) 1 2 = _ from o3, bn_t, if_pos (nI_le huq (by omega)), nm_t, hX, bits_ok (by omega), bn_t]
  by_cases z : ek_pc (ek_all n &&& (nI cc ^^^ (-1 : Int32))) ≤ 6
  · have h6 : (ek_el n (ek_all n &&& (nI cc ^^^ (-1 : Int32)))).length ≤ 6 := by
      rw [ek_elpc hn9 x1] at z
      have hl := ek_elle n (ek_all n &&& (nI cc ^^^ (-1 : Int32)))
      exact (nI_leI (b := 6) (by omega) (by omega)).mp z
    obtain ⟨R, th4, hR, o4, m4⟩ := s_spans hn9 hV.2.2.1.1 x1 (by show (ek_el n ((ek_all n &&& (nI cc ^^^ (-1 : Int32))) &&& (nI cc ^^^ (-1 : Int32)))).length ≤ 6; rw [x3]; exact h6) m3
    rw [if_pos z, o4, bn_t]
    refine L767 (s := (s1, s2, nI cc, s4, s5, s6)) hy hV hPL hx (Or.inr ⟨h6, R, ?_, rfl, rfl⟩) m4
    rw [← x3]
    exact hR
  · rw [if_neg z]
    exact L767 (s := (s1, s2, nI cc, s4, s5, s6)) hy hV hPL hx (Or.inl (by decide)) m3
theorem p44 : ∀ x, x ≤ 6 → 12 ^ x < 2 ^ 44 := fun x h => Nat.lt_trans (p12 x h) (by decide)
theorem L613 {cc s1 : Nat} {s2 : Int32} {s4 s5 s6 : Nat → Int32} (hy : Hy n s0 ru F la na li) (hV : GV n s0 (s1, s2, nI cc, s4, s5, s6)) (hPL : PL n s0 ru F la na li khs kgi kwr pu x4) (hx : x ≤ 6) (hc : cc < 2 ^ n) :
    ∀ r i n1 (th : TH) (v : Int32) (up lo : Int64), r + i = n → r < n1 → v = ek_s (fun d => if oD n F (nI ru) 12 s1 cc s2 x s0 d = 0 then (0 : Int32) else 1) i → Sem S C TS TC (nI n) F (rS s0 ru la na li it 12 (s1, s2, nI cc, s4, s5, s6)) (kS s0 ru la na li khs kgi kwr) (nI 0) ch ak up lo th →
      f_L_law_b613 5000 L xs (f_L_law_b679 5000 L xs) n1 th pu d (nI n) x4 (nI s0) (nI cc) (nI x) v (nI i) = some 1 := by
  obtain ⟨y1, y2, y3, y4, y5, y6⟩ := id hy
  have hn9 : n ≤ 9 := by omega
  have hs1 : s1 < n := hV.1
  intro r
  induction r with
  | zero =>
    intro i n1 th v up lo hr h1 hv hM
    obtain ⟨n1, rfl⟩ : ∃ q, n1 = q + 1 := ⟨n1 - 1, by omega⟩
    obtain rfl : i = n := by omega
    rw [f_L_law_b613, if_pos (nI_le (by omega) (by omega)), hv, cP_I]
    exact L679 hy hV hPL hx hc hM
  | succ r ih =>
    intro i n1 th v up lo hr h1 hv hM
    obtain ⟨n1, rfl⟩ : ∃ q, n1 = q + 1 := ⟨n1 - 1, by omega⟩
    have hi : i < n := by omega
    obtain ⟨th1, o1, m1⟩ := s_odds (d := i) hn9 y3 hs1 hc (show x ≤ 12 by omega) y5 hi hM
    have hle := oDle (x := x) (ho := 12) (ru := nI ru) (ib := s2) hn9 y3 hs1 hc y5 hi
    obtain ⟨f1, f2, f3⟩ := fr_ul hle (Nat.pow_pos (by omega)) (p44 x hx)
    have fp := fr_pos hle (Nat.pow_pos (by omega)) (p44 x hx)
    rw [f_L_law_b613, if_neg (nI_ge (by omega) (by omega)), o1, bn_t, if_pos (by rfl), s_upper m1, bn_t, s_lower m1, bn_t, if_neg f1, s_upper m1, bn_t, if_pos f3, s_upper m1, bn_t]
    unfold f_L_law_b670
    rw [nm_t, nI_1]
    refine ih (i + 1) n1 th1 _ _ _ (by omega) (by omega) ?_ m1
    rw [hv]
    show _ + _ = _ + (if oD n F (nI ru) 12 s1 cc s2 x s0 i = 0 then (0 : Int32) else 1)
    by_cases z : oD n F (nI ru) 12 s1 cc s2 x s0 i = 0
    · rw [if_pos (fp.mpr z), if_pos z]
    · rw [if_neg (fun q => z (fp.mp q)), if_neg z]
theorem L522 (hy : Hy n s0 ru F la na li) (hV : GV n s0 s) (hPL : PL n s0 ru F la na li khs kgi kwr pu x4) (hM : Sem S C TS TC (nI n) F (rS s0 ru la na li it 12 s) (kS s0 ru la na li khs kgi kwr) (nI 0) ch ak up lo th) :
    f_L_law_b522 5000 L xs th pu d (nI n) x4 (nI s0) s.2.2.1 = some 1 := by
  obtain ⟨y1, y2, y3, y4, y5, y6⟩ := id hy
  have hn9 : n ≤ 9 := by omega
  obtain ⟨s1, s2, s3, s4, s5, s6⟩ := s
  obtain ⟨cc, hc, c2⟩ := ek_small (m := n) (by omega) hV.2.2.1.1
  have c2 : s3 = nI cc := c2
  subst c2
  have hs1 : s1 < n := hV.1
  obtain ⟨x, hx, e0⟩ := low_ok (N := 5000) (o_cell L xs 25) (6 : Int32) 6 (by omega) (by omega) rfl
  obtain ⟨th1, o1, m1⟩ := s_friday (x := x) hn9 y3 hs1 hc (by omega) hM
  obtain ⟨th2, o2, m2⟩ := s_friday (x := x + 1) hn9 y3 hs1 hc (by omega) m1
  have h1 : oH n F (nI ru) 12 s1 cc s2 x ≤ 12 ^ x := oHle hn9 y3 hs1 hc
  have h2 : oH n F (nI ru) 12 s1 cc s2 (x + 1) ≤ 12 ^ (x + 1) := oHle hn9 y3 hs1 hc
  have h3 : 12 * oH n F (nI ru) 12 s1 cc s2 x ≤ oH n F (nI ru) 12 s1 cc s2 (x + 1) := oHgrow
  have hf := fr_le h1 h2 (Nat.pow_pos (by omega)) (Nat.pow_pos (by omega)) (p12 x (by omega)) (p12 (x + 1) (by omega)) (by
    rw [Nat.pow_succ, Nat.mul_comm (12 ^ x) 12, ← Nat.mul_assoc, Nat.mul_comm (oH n F (nI ru) 12 s1 cc s2 x) 12]
    exact Nat.mul_le_mul_right _ h3)
  unfold f_L_law_b522
  rw [e0, bn_t, o1, bn_t, if_pos (by rfl), s_upper m1, bn_t, s_lower m1, bn_t, nI_1, o2, bn_t, if_pos (by rfl), s_upper m2, bn_t, s_lower m2, bn_t, if_neg (Int64.not_lt.mpr hf), s_upper m2, bn_t, s_lower m2, bn_t]
  rw [if_pos (fr_ul h2 (Nat.pow_pos (by omega)) (p44 (x + 1) (by omega))).2.1]
  exact L613 hy hV hPL (by omega) hc n 0 5000 th2 0 _ _ (by omega) (by omega) rfl m2
end LAW
