/-! the law: who gave nothing; orders -/
theorem wy_eq {a b : Nat} (hab : b ≤ a) (ha0 : 0 < a) (ha : a ≤ 512) : lU b a * (nI a).toInt64 = lL b a * (nI b).toInt64 := by
  obtain ⟨g, p, q, g0, e1, e2, e3, e4, l1, l2, l3⟩ := fr_val hab ha0 (show a < 2 ^ 44 by omega)
  rw [e3, e4, nI_l (by omega), nI_l (by omega), lN_mul, lN_mul, e1, e2]
  congr 1
  rw [Nat.mul_left_comm, Nat.mul_comm p q, Nat.mul_left_comm]
section LAW
variable {S C TS TC F ch khs kgi kwr pu d xs : Nat → Int32} {la na li it x4 ak : Int32} {up lo : Int64} {th : TH} {s : GSt} {n s0 ru L x : Nat}
theorem L956 {cc v s1 : Nat} {s2 W1 AK : Int32} {s4 s5 s6 : Nat → Int32} (hy : Hy n s0 ru F la na li) (hV : GV n s0 (s1, s2, nI cc, s4, s5, s6)) (hPL : PL n s0 ru F la na li khs kgi kwr pu x4) (hx : x ≤ 6) (hc : cc < 512) (hv : v ≤ 99) (hW : (wZ n F cc (nI v) none (cc + 1)).1 = W1) (hA : AK = if W1 = 0 then 0 else (wZ n F cc (nI v) none (cc + 1)).2.1) :
    ∀ r i n1 (th : TH) (ak : Int32) (up lo : Int64), r + i = n → r < n1 → Sem S C TS TC (nI n) F (rS s0 ru la na li it 12 (s1, s2, nI cc, s4, s5, s6)) (kS s0 ru la na li khs kgi kwr) (nI 0) ch ak up lo th →
      f_L_law_b956 5000 L xs (f_L_law_b1059 5000 L xs) n1 th pu d (nI n) x4 (nI s0) (nI cc) (nI x) (nI v) W1 AK (nI i) = some 1 := by
  have hn9 : n ≤ 9 := by have := hy.2.1; omega
  intro r
  induction r with
  | zero =>
    intro i n1 th ak up lo hr h1 hM
    obtain ⟨n1, rfl⟩ : ∃ q, n1 = q + 1 := ⟨n1 - 1, by omega⟩
    obtain rfl : i = n := by omega
    rw [f_L_law_b956, if_pos (nI_le (by omega) (by omega))]
    exact L1059 (s := (s1, s2, nI cc, s4, s5, s6)) hy hV hPL hx hM
  | succ r ih =>
    intro i n1 th ak up lo hr h1 hM
    obtain ⟨n1, rfl⟩ : ∃ q, n1 = q + 1 := ⟨n1 - 1, by omega⟩
    have hi : i < n := by omega
    rw [f_L_law_b956, if_neg (nI_ge (by omega) (by omega))]
    by_cases z : W1 ≤ 0
    · rw [if_pos z]
      exact L1059 (s := (s1, s2, nI cc, s4, s5, s6)) hy hV hPL hx hM
    · rw [if_neg z]
      by_cases hb : ek_bt (nI cc) i = true
      · obtain ⟨a, b, k1, k2, k3, k4, k5⟩ := wz_facts (n := n) (F := F) (v := nI v) (show i < 9 by omega) hb (cc + 1) (by omega)
        have hs := wz_same (n := n) (cc := cc) (F := F) (v := nI v) (one := some i) (cc + 1)
        have hWa : W1 = nI a := by rw [← hW, ← hs.1, k3]
        have ha0 : 0 < a := by
          rcases Nat.eq_zero_or_pos a with q | q
          · exact absurd (by rw [hWa, q]; decide) z
          · exact q
        have hAK : AK = (wZ n F cc (nI v) (some i) (cc + 1)).2.1 := by
          rw [hA, if_neg (by rw [hWa]; exact nI_ne0 ha0 (by omega)), hs.2]
        obtain ⟨th1, o1, m1⟩ := s_gaveNone hn9 hc hv hi hb k3 k4 ha0 (by omega) k2 hM
        rw [if_pos ((ek_bit1 (nI cc) (by omega)).mpr hb), o1, bn_t, if_neg (nI_pos (by omega)), if_neg (show ¬ W1 < nI b by rw [hWa]; exact nI_nlt k2 (by omega))]
        unfold f_L_law_b1016 f_L_law_b1028
        rw [if_pos (show (if ((AK >>> (nI i &&& 31)) &&& (1 : Int32)) = (1 : Int32) then (1 : Int32) else 0) = if nI b = W1 then (1 : Int32) else 0 by
          by_cases e : b = a
          · rw [if_pos ((ek_bit1 AK (by omega)).mpr (by rw [hAK]; exact k5.mpr e)), if_pos (by rw [hWa, e])]
          · rw [if_neg (fun q => e (k5.mp (by rw [← hAK]; exact (ek_bit1 AK (by omega)).mp q))), if_neg (by rw [hWa]; exact fun q => e ((nI_eq (by omega) (by omega)).mp q))])]
        rw [s_upper m1, bn_t, s_lower m1, bn_t, if_pos (show lU b a * W1.toInt64 = lL b a * (nI b).toInt64 by rw [hWa]; exact wy_eq k2 ha0 (by omega))]
        unfold f_L_law_b1053
        rw [nI_1]
        exact ih (i + 1) n1 th1 _ _ _ (by omega) (by omega) m1
      · rw [if_neg (fun q => hb ((ek_bit1 (nI cc) (by omega)).mp q))]
        unfold f_L_law_b1053
        rw [nI_1]
        exact ih (i + 1) n1 th _ _ _ (by omega) (by omega) hM
theorem L909 (hy : Hy n s0 ru F la na li) (hV : GV n s0 s) (hPL : PL n s0 ru F la na li khs kgi kwr pu x4) (hx : x ≤ 6) (hM : Sem S C TS TC (nI n) F (rS s0 ru la na li it 12 s) (kS s0 ru la na li khs kgi kwr) (nI 0) ch ak up lo th) :
    f_L_law_b909 5000 L xs th pu d (nI n) x4 (nI s0) s.2.2.1 (nI x) = some 1 := by
  obtain ⟨s1, s2, s3, s4, s5, s6⟩ := s
  have hn9 : n ≤ 9 := by have := hy.2.1; omega
  have hn7 := hy.2.1
  obtain ⟨cc, c1, c2⟩ := ek_small (m := n) (by omega) hV.2.2.1.1
  have c2 : s3 = nI cc := c2
  subst c2
  have hcc : cc < 512 := Nat.lt_of_lt_of_le c1 (Nat.pow_le_pow_right (n := 2) (by omega) (show n ≤ 9 from hn9))
  obtain ⟨v, hv, e0⟩ := low_ok (N := 5000) (o_cell L xs 27) (30 : Int32) 30 (by omega) (by omega) rfl
  obtain ⟨th1, o1, m1⟩ := s_nothing hn9 hcc (show v ≤ 99 by omega) hM
  obtain ⟨a, b, a1, a2, a3, a4⟩ := ek_waysb (n := n) (F := F) (c := nI cc) (v := nI v) (one := none) (cc + 1)
  have a3 : (wZ n F cc (nI v) none (cc + 1)).1 = nI a := a3
  unfold f_L_law_b909
  rw [e0, bn_t, o1, bn_t, s_asked m1, bn_t, if_neg (show ¬ (wZ n F cc (nI v) none (cc + 1)).1 < 0 by rw [a3]; exact nI_pos (by omega))]
  rw [if_pos (show ((if (wZ n F cc (nI v) none (cc + 1)).1 = 0 then (0 : Int32) else (wZ n F cc (nI v) none (cc + 1)).2.1) &&& (nI cc ^^^ (-1 : Int32))) = 0 by
    apply ek_ext
    intro j hj
    rw [ek_band, ek_bxor, ek_bm1 j hj, ek_b0]
    split
    · rw [ek_b0]; rfl
    · cases hb : ek_bt (nI cc) j
      · rw [wz_sub hb]; rfl
      · cases ek_bt (wZ n F cc (nI v) none (cc + 1)).2.1 j <;> rfl)]
  exact L956 hy hV hPL hx hcc (by omega) rfl rfl n 0 5000 th1 _ _ _ (by omega) (by omega) m1
theorem L890 {M k w : Nat} {x22 : Int32} (hy : Hy n s0 ru F la na li) (hV : GV n s0 s) (hPL : PL n s0 ru F la na li khs kgi kwr pu x4) (hx : x ≤ 6) (hk : (ek_pt s.2.2.1 s.2.2.2.2.1 n).1 = nI k) (hMk : M + k < 100000) (hw : x22 = 0 → w ≤ M + k) (hM : Sem S C TS TC (nI n) F (rS s0 ru la na li it 12 s) (kS s0 ru la na li khs kgi kwr) (nI 0) ch ak up lo th) :
    f_L_law_b890 5000 L xs th pu d (nI n) x4 (nI s0) s.2.2.1 (nI x) (nI M) (nI w) x22 = some 1 := by
  have hn9 : n ≤ 9 := by have := hy.2.1; omega
  unfold f_L_law_b890
  by_cases z : x22 = 0
  · obtain ⟨th1, ak1, o1, m1⟩ := s_coins hn9 hV.2.2.1.1 hM
    rw [if_pos z, o1, bn_t, if_pos (show nI w ≤ (ek_pt s.2.2.1 s.2.2.2.2.1 n).1 + nI M by rw [hk, nI_add]; exact nI_le (by have := hw z; omega) (by omega))]
    exact L909 hy hV hPL hx m1
  · rw [if_neg z]
    exact L909 hy hV hPL hx hM
theorem aX {n : Nat} {c : Int32} (hn : n ≤ 9) : ek_sub n (ek_all n &&& (c ^^^ (-1 : Int32))) ∧ (∀ i, i < n → ek_bt (ek_all n &&& (c ^^^ (-1 : Int32))) i = !ek_bt c i) ∧ (ek_all n &&& (c ^^^ (-1 : Int32))) &&& (c ^^^ (-1 : Int32)) = ek_all n &&& (c ^^^ (-1 : Int32)) ∧ ek_el n (ek_all n &&& (c ^^^ (-1 : Int32))) = (List.range n).filter fun i => !ek_bt c i := by
  have h1 : ∀ i, i < n → ek_bt (ek_all n &&& (c ^^^ (-1 : Int32))) i = !ek_bt c i := by
    intro i hi
    unfold ek_all
    rw [ek_band, ek_allb n hn i (by omega), ek_bxor, ek_bm1 i (by omega)]
    cases ek_bt c i <;> simp [hi]
  refine ⟨fun i hi => ?_, h1, ?_, ?_⟩
  · rcases Nat.lt_or_ge i 32 with q | q
    · unfold ek_all
      rw [ek_band, ek_allb n hn i q, decide_eq_false (by omega)]; rfl
    · exact ek_bbig q
  · apply ek_ext
    intro j hj
    rw [ek_band, ek_band]
    cases ek_bt (ek_all n) j <;> cases ek_bt (c ^^^ (-1 : Int32)) j <;> rfl
  · unfold ek_el
    exact List.filter_congr (fun i hi => h1 i (List.mem_range.mp hi))
theorem L767 {y0 : Int32} (hy : Hy n s0 ru F la na li) (hV : GV n s0 s) (hPL : PL n s0 ru F la na li khs kgi kwr pu x4) (hx : x ≤ 6) (h0 : y0 < 0 ∨ ((ek_el n (ek_all n &&& (s.2.2.1 ^^^ (-1 : Int32)))).length ≤ 6 ∧ ∃ R, oR n F s.2.2.1 s.2.2.2.2.1 la na li (ek_all n &&& (s.2.2.1 ^^^ (-1 : Int32))) = some R ∧ y0 = R.2.1 ∧ ak = R.1)) (hM : Sem S C TS TC (nI n) F (rS s0 ru la na li it 12 s) (kS s0 ru la na li khs kgi kwr) (nI 0) ch ak up lo th) :
    f_L_law_b767 5000 L xs th pu d (nI n) x4 (nI s0) s.2.2.1 (nI x) (ek_all n &&& (s.2.2.1 ^^^ (-1 : Int32))) y0 = some 1 := by
  have hn9 : n ≤ 9 := by have := hy.2.1; omega
  obtain ⟨q1, q2, q3, q4, q5, q6⟩ := id hy
  obtain ⟨x1, x2, x3, x5⟩ := aX (n := n) (c := s.2.2.1) hn9
  have hB := hV.2.2.1
  have hC := hB.1
  unfold f_L_law_b767
  rw [s_asked hM, bn_t]
  by_cases z : y0 < 0
  · rw [if_pos z]
    exact L909 hy hV hPL hx hM
  · rw [if_neg z]
    obtain ⟨h6, R, hR, rfl, rfl⟩ := h0.resolve_left z
    obtain ⟨r1, r2, r3, r4, r5, r6⟩ := oR_facts hR (fun i hi hb => by rw [x2 i hi] at hb; simpa using hb)
    have hRl := r2.length_eq
    have hR9 : R.2.2.length ≤ 9 := by omega
    obtain ⟨C', th1, o1, m1, c1⟩ := s_most hn9 hC x1 (by rw [x3]; exact h6) (by rw [x3]; exact hR) (by rw [x3]; exact hRl) hM
    obtain ⟨th2, o2, m2⟩ := s_order hn9 hC pk_us hR9 r3 c1 m1
    obtain ⟨b, ak3, th3, b1, o3, m3, b2⟩ := s_best hn9 q4 hC pk_us hR9 r3 c1 m2
    obtain ⟨v, hv, e0⟩ := low_ok (N := 5000) (o_cell L xs 26) (200 : Int32) 200 (by omega) (by omega) rfl
    have hmem : ∀ (Z : List Nat), Z.Perm (ek_el n (ek_all n &&& (s.2.2.1 ^^^ (-1 : Int32)))) → ∀ i, i ∈ Z → i < n := fun Z hZ i hi => (ek_elm.mp (hZ.mem_iff.mp hi)).1
    obtain ⟨k, t, k1, k2, k3, k4, k5⟩ := vl_b hn9 q4 q3 hB (hmem _ (List.Perm.refl _)) (show (ek_el n (ek_all n &&& (s.2.2.1 ^^^ (-1 : Int32)))).length ≤ 9 by omega)
    obtain ⟨k', t', l1, l2, l3, l4, l5⟩ := vl_b hn9 q4 q3 hB (hmem _ r2) hR9
    have hM' : R.1 = nI (t' - k') := r1.trans l3
    obtain ⟨th4, o4, m4⟩ := s_fill (T := t) hn9 hC (show v ≤ 999 by omega) (by rw [← x5]; exact k2) (by omega) m3
    rw [show o_most th (ek_all n &&& (s.2.2.1 ^^^ (-1 : Int32))) 0 = _ from o1, bn_t, if_pos (by rfl), show o_order th1 0 = _ from o2, bn_t, if_pos (show ek_vl la na li F (ek_pt s.2.2.1 s.2.2.2.2.1 n) R.2.2 = R.1 from r1.symm), if_neg (Int32.not_lt.mpr r6), show o_best th2 0 = _ from o3, bn_t, if_neg (nI_pos (by omega)), s_asked m3, bn_t, if_pos (show R.1 ≤ ak3 by rw [r1]; exact b2)]
    rw [e0, bn_t, o4, bn_t, if_neg (nI_pos (by omega))]
    have hk' : k = k' := (nI_eq (by omega) (by omega)).mp (k1.symm.trans l1)
    have hle : t ≤ t' := by
      have := r4
      rw [k3, hM'] at this
      have := (nI_leI (by omega) (by omega)).mp this
      omega
    by_cases z2 : nI (v - t) ≤ 0
    · rw [if_pos z2, hM']
      exact L890 hy hV hPL hx l1 (by omega) (fun _ => by
        have : ¬ 0 < v - t := fun q => nI_nle q (by omega) z2
        omega) m4
    · obtain ⟨th5, ak5, o5, m5⟩ := s_coins hn9 hC m4
      obtain ⟨th6, ak6, o6, m6⟩ := s_coins hn9 hC m5
      have hvt : t < v := by
        rcases Nat.lt_or_ge t v with q | q
        · exact q
        · exact absurd (by rw [show v - t = 0 by omega]; decide) z2
      have e9 : nI v - nI (v - t) - (ek_pt s.2.2.1 s.2.2.2.2.1 n).1 = ek_vl la na li F (ek_pt s.2.2.1 s.2.2.2.2.1 n) (ek_el n (ek_all n &&& (s.2.2.1 ^^^ (-1 : Int32)))) := by
        rw [k1, k3, ek_sb (by omega), ek_sb (by omega), show v - (v - t) = t by omega]
      rw [if_neg z2, o5, bn_t, if_neg (show ¬ nI v - nI (v - t) - (ek_pt s.2.2.1 s.2.2.2.2.1 n).1 < R.2.1 by rw [e9]; exact Int32.not_lt.mpr r5), o6, bn_t, if_neg (show ¬ R.1 < nI v - nI (v - t) - (ek_pt s.2.2.1 s.2.2.2.2.1 n).1 by rw [e9]; exact Int32.not_lt.mpr r4), hM']
      exact L890 hy hV hPL hx l1 (by omega) (fun q => absurd q (nI_ne0 (by omega) (by omega))) m6
end LAW
