/-! the law's end: rule, what is kept, hour by hour as at once -/
abbrev rS (s0 ru : Nat) (la na li it : Int32) (h : Nat) (s : GSt) : TRd := mR (nI s0) (nI ru) (nI s.1) s.2.1 (nI h) s.2.2.1 la na li it s.2.2.2.1 s.2.2.2.2.1 s.2.2.2.2.2
abbrev kS (s0 ru : Nat) (la na li : Int32) (khs kgi kwr : Nat → Int32) : TRd := mR (nI s0) (nI ru) (nI s0) 0 (nI 0) (nI 0) la na li 1 khs kgi kwr
def Hy (n s0 ru : Nat) (F : Nat → Int32) (la na li : Int32) : Prop := 1 ≤ n ∧ n ≤ 7 ∧ (∀ i, i < n → ek_wf (ek_ds F i)) ∧ ek_T la na li ∧ s0 < n ∧ ru < 3
def Eq9 (s t : GSt) : Prop := t.1 = s.1 ∧ t.2.1 = s.2.1 ∧ t.2.2.1 = s.2.2.1 ∧ ∀ i, i < 9 → t.2.2.2.2.1 i = s.2.2.2.2.1 i ∧ t.2.2.2.2.2 i = s.2.2.2.2.2 i ∧ t.2.2.2.1 i = s.2.2.2.1 i
theorem hGe {n s0 : Nat} {F : Nat → Int32} {ru la na li ho : Int32} {s t : GSt × Int64} (hn : n ≤ 9) (hpl : ∀ i, i < n → ¬ ek_ds F i 0 = 2) (hp : s.1.1 < n) (h : Eq9 s.1 t.1) : Eq9 (hG n F (nI s0) ru la na li ho s).1 (hG n F (nI s0) ru la na li ho t).1 := by
  obtain ⟨s1, s2⟩ := s
  obtain ⟨⟨a1, a2, a3, a4, a5, a6⟩, t2⟩ := t
  obtain ⟨h1, h2, h3, h4⟩ := h
  simp only at h1 h2 h3 h4 hp
  subst h1 h2 h3
  have y2 := (ek_phz (F := F) (ru := ru) (h := ho) hn 9 s1.1 s1.2.2.1 hp).2.1 hpl
  unfold hG
  by_cases h0 : s1.2.1 = 0
  · rw [if_pos h0, if_pos h0]
    have hR := ek_plsR (law := la) (named := na) (linked := li) (hour := ho) (F := F) hn (ek_ph n F ru ho 9 s1.1 s1.2.2.1).1 (s1.2.2.1, s1.2.2.2.2.1, s1.2.2.2.2.2, s1.2.2.2.1) (s1.2.2.1, a5, a6, a4) rfl h4
    unfold ek_hr
    simp only
    rw [if_pos y2, if_pos y2]
    exact ⟨rfl, rfl, hR.1, hR.2⟩
  · rw [if_neg h0, if_neg h0]
    exact ⟨rfl, rfl, rfl, h4⟩
theorem gIe {n s0 : Nat} {F : Nat → Int32} {ru la na li : Int32} {h0 : Nat} {s t : GSt × Int64} (hn : n ≤ 9) (hw : ∀ i, i < n → ek_wf (ek_ds F i)) (hT : ek_T la na li) (hs0 : s0 < n) (hpl : ∀ i, i < n → ¬ ek_ds F i 0 = 2) (hV : GV n s0 s.1) (h : Eq9 s.1 t.1) : ∀ k, Eq9 (gI n F (nI s0) ru la na li h0 s k).1 (gI n F (nI s0) ru la na li h0 t k).1 := by
  intro k
  induction k with
  | zero => exact h
  | succ k ih => exact hGe hn hpl (gIv hn hw hT hs0 hV k).1 ih
theorem pt0 (g : Nat → Int32) (n : Nat) : (ek_pt 0 g n).1 = 0 := by
  rw [ek_ptn (n := 0) (ek_sub0 0) g (Nat.zero_le n)]
  rfl
theorem p12 : ∀ x, x ≤ 6 → 12 ^ x < 2 ^ 31 := by decide
section LAW
variable {S C TS TC F ch khs kgi kwr pu d xs : Nat → Int32} {la na li it x4 ak : Int32} {up lo : Int64} {th : TH} {s : GSt} {n s0 ru L x : Nat}
theorem L1471 {rd : TRd} {yn : Int32} (hy : Hy n s0 ru F la na li) (hM : Sem S C TS TC (nI n) F rd (kS s0 ru la na li khs kgi kwr) yn ch ak up lo th) : f_L_law_b1471 5000 L xs th pu d = some 1 := by
  obtain ⟨r1, r2, r3, r4, r5, r6, r7, r8, r9, r10, r11, r12, r13⟩ := rd
  obtain ⟨y1, y2, y3, y4, y5, y6⟩ := hy
  obtain ⟨th1, hs1, gi1, wr1, o1, m1, -⟩ := s_on (Or.inl rfl) hM
  unfold f_L_law_b1471
  rw [o1, bn_t, if_pos (by rfl), s_count1 (n := n) (by omega) (ek_sub0 n) m1, bn_t, if_pos (show ek_pc (0 : Int32) = 0 by decide)]
  obtain ⟨th2, ak2, o2, m2⟩ := s_coins (n := n) (by omega) (ek_sub0 n) m1
  rw [o2, bn_t, if_pos (pt0 gi1 n), s_count2 m2, bn_t, if_pos (by rfl)]
theorem L1438 {k0 : TRd} {yn : Int32} (hn : n ≤ 9) (h9 : ∀ th, (∃ rd ak up lo, Sem S C TS TC (nI n) F rd k0 yn ch ak up lo th) → f_L_law_b1471 5000 L xs th pu d = some 1) {st ru' at_ ib ho cr : Int32} {hs gi wr : Nat → Int32} (hp : ∀ i, i < n → (if ek_bt cr i then gi i else -9) = pu i) :
    ∀ r i n1 (th : TH) (ak : Int32), r + i = n → r < n1 → Sem S C TS TC (nI n) F (mR st ru' at_ ib ho cr la na li it hs gi wr) k0 yn ch ak up lo th → f_L_law_b1438 5000 L xs (f_L_law_b1471 5000 L xs) n1 th pu d (nI n) (nI i) = some 1 := by
  intro r
  induction r with
  | zero =>
    intro i n1 th ak hr h1 hM
    obtain ⟨n1, rfl⟩ : ∃ q, n1 = q + 1 := ⟨n1 - 1, by omega⟩
    rw [f_L_law_b1438, if_pos (nI_le (by omega) (by omega))]
    exact h9 th ⟨_, _, _, _, hM⟩
  | succ r ih =>
    intro i n1 th ak hr h1 hM
    obtain ⟨n1, rfl⟩ : ∃ q, n1 = q + 1 := ⟨n1 - 1, by omega⟩
    obtain ⟨th1, o1, m1⟩ := s_told (w := 2) hn (show i < n by omega) (by omega) hM
    rw [f_L_law_b1438, if_neg (nI_ge (by omega) (by omega)), show o_told th (nI i) 2 = _ from o1, bn_t, gd_t (ek_inb (by omega) (by omega)), nI_clamp (by omega), s_lt1 m1]
    rw [if_neg (show ¬ (2 : Nat) = 0 by omega), if_neg (show ¬ (2 : Nat) = 1 by omega), if_pos rfl, if_pos (hp i (by omega)), nI_1]
    exact ih (i + 1) n1 th1 _ (by omega) (by omega) m1
/-- what is asked of hour by hour: at hand once no HEAP is -/
def PL (n s0 ru : Nat) (F : Nat → Int32) (la na li : Int32) (khs kgi kwr pu : Nat → Int32) (x4 : Int32) : Prop :=
  x4 = 0 ∨ ∀ hs' gi' wr' : Nat → Int32, (∀ i, i < 9 → hs' i = khs i ∧ gi' i = kgi i ∧ wr' i = kwr i) → ∀ i, i < n → (if ek_bt (gI n F (nI s0) (nI ru) la na li 0 ((s0, 0, nI 0, hs', gi', wr'), lN 77) 12).1.2.2.1 i then (gI n F (nI s0) (nI ru) la na li 0 ((s0, 0, nI 0, hs', gi', wr'), lN 77) 12).1.2.2.2.2.1 i else -9) = pu i
theorem L1288 (hy : Hy n s0 ru F la na li) (hV : GV n s0 s) (hPL : PL n s0 ru F la na li khs kgi kwr pu x4) (hx : x ≤ 6) (hM : Sem S C TS TC (nI n) F (rS s0 ru la na li it 12 s) (kS s0 ru la na li khs kgi kwr) (nI 4) ch ak up lo th) :
    f_L_law_b1288 5000 L xs th pu d (nI n) x4 (nI s0) s.2.2.1 (nI x) 0 = some 1 := by
  obtain ⟨y1, y2, y3, y4, y5, y6⟩ := id hy
  have hn9 : n ≤ 9 := by omega
  obtain ⟨v1, v2, v3, v4⟩ := hV
  unfold f_L_law_b1288
  rw [if_pos rfl]
  obtain ⟨th1, o1, m1⟩ := s_forget0 (y := 4) (by omega) hM
  rw [o1, bn_t, if_pos (by rfl)]
  obtain ⟨th2, o2, m2⟩ := s_row (k := 2) (m := 1) (by omega) (by omega) m1
  rw [show o_row th1 2 1 = _ from o2, bn_t, if_pos (by rfl)]
  have hC2 : ek_fo (fun j s => upd s (40 * 2 + j) 0) C 1 (40 * 2 + 0) = 0 := by
    show upd C (40 * 2 + 0) 0 (40 * 2 + 0) = 0
    exact pk_us
  obtain ⟨e3, ak3, th3, he3, o3, m3⟩ := s_even hn9 (by omega) pk_us hC2 m2
  obtain ⟨e4, ak4, th4, he4, o4, m4⟩ := s_even hn9 (by omega) pk_us hC2 m3
  rw [o3, bn_t, if_neg (nI_pos (by omega)), o4, bn_t, if_neg (show ¬ (2 : Int32) < nI e4 from nI_nlt (a := 2) (by omega) (by omega))]
  rw [s_count1 hn9 v3.1 m4, bn_t, bits_ok (by omega), bn_t, if_pos rfl]
  obtain ⟨v, th5, hv, o5, m5, hmax⟩ := s_rule (i := s0) hn9 y3 y5 (show x ≤ 12 by omega) m4
  rw [o5, bn_t, s_upper m5, bn_t, s_lower m5, bn_t, if_neg (nI_pos (by omega)), if_neg (show ¬ (2 : Int32) < nI v from nI_nlt (a := 2) (by omega) (by omega))]
  obtain ⟨th6, hs6, gi6, wr6, o6, m6, e6⟩ := s_on (Or.inl rfl) m5
  rw [o6, bn_t, if_pos (by rfl)]
  obtain ⟨th7, o7, m7⟩ := s_friday (c := 0) (h0 := 0) (x := x) hn9 y3 y5 (Nat.two_pow_pos n) (by omega) m6
  rw [o7, bn_t, if_pos (by rfl), s_upper m7, bn_t, s_lower m7, bn_t]
  have hle : ∀ r, oH n F (nI r) 0 s0 0 0 x ≤ 12 ^ x := fun r => oHle hn9 y3 y5 (Nat.two_pow_pos n)
  have hp := p12 x hx
  have hp0 : 0 < 12 ^ x := Nat.pow_pos (by omega)
  rw [if_pos (fr_le (hle ru) (hle v) hp0 hp0 hp hp (Nat.mul_le_mul_right _ (hmax ru y6)))]
  have hV6 : GV n s0 (s0, 0, nI 0, hs6, gi6, wr6) := ⟨y5, Or.inl rfl, ek_B0, fun q => absurd q (by simp)⟩
  obtain ⟨th8, o8, m8⟩ := s_go (s := (s0, 0, nI 0, hs6, gi6, wr6)) (h0 := 0) (x := 12) (sd := 77) hn9 y3 y4 y5 hV6 (by omega) (by omega) (by omega) (by omega) m7
  rw [show o_go th7 12 77 = _ from o8, bn_t, if_pos (by rfl)]
  rcases hPL with q | q
  · rw [if_pos q]
    exact L1471 hy m8
  · by_cases z : x4 = 0
    · rw [if_pos z]
      exact L1471 hy m8
    · rw [if_neg z]
      refine L1438 hn9 (fun th' hM' => ?_) (q hs6 gi6 wr6 e6) n 0 5000 th8 _ (by omega) (by omega) m8
      obtain ⟨_, _, _, _, hM'⟩ := hM'
      exact L1471 hy hM'
end LAW
