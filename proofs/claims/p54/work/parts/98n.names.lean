/-! the law: years, names on a card -/
section LAW
variable {S C TS TC F ch khs kgi kwr pu d xs : Nat → Int32} {la na li it x4 ak : Int32} {up lo : Int64} {th : TH} {s : GSt} {n s0 ru L x : Nat}
theorem L1261 (hy : Hy n s0 ru F la na li) (hV : GV n s0 s) (hPL : PL n s0 ru F la na li khs kgi kwr pu x4) (hx : x ≤ 6) (hb : ek_s (fun j => ek_ba ch 4 j) n = 0) :
    ∀ r i n1 (th : TH) (ak v : Int32), r + i = n → r < n1 → v = ek_s (fun j => ek_ba ch 4 j) i → Sem S C TS TC (nI n) F (rS s0 ru la na li it 12 s) (kS s0 ru la na li khs kgi kwr) (nI 4) ch ak up lo th →
      f_L_law_b1261 5000 L xs (f_L_law_b1288 5000 L xs) n1 th pu d (nI n) x4 (nI s0) s.2.2.1 (nI x) v (nI i) = some 1 := by
  have hn9 : n ≤ 9 := by have := hy.2.1; omega
  intro r
  induction r with
  | zero =>
    intro i n1 th ak v hr h1 hv hM
    obtain ⟨n1, rfl⟩ : ∃ q, n1 = q + 1 := ⟨n1 - 1, by omega⟩
    obtain rfl : i = n := by omega
    rw [f_L_law_b1261, if_pos (nI_le (by omega) (by omega)), hv.trans hb]
    exact L1288 hy hV hPL hx hM
  | succ r ih =>
    intro i n1 th ak v hr h1 hv hM
    obtain ⟨n1, rfl⟩ : ∃ q, n1 = q + 1 := ⟨n1 - 1, by omega⟩
    obtain ⟨th1, o1, m1⟩ := s_balance (y := 4) hn9 (show i < n by omega) (by omega) hM
    rw [f_L_law_b1261, if_neg (nI_ge (by omega) (by omega)), o1, bn_t, nm_t, s_lt1 m1, nI_1]
    exact ih (i + 1) n1 th1 _ _ (by omega) (by omega) (by rw [hv]; rfl) m1
theorem L1255 (hy : Hy n s0 ru F la na li) (hV : GV n s0 s) (hPL : PL n s0 ru F la na li khs kgi kwr pu x4) (hx : x ≤ 6) (hb : ek_s (fun j => ek_ba ch 4 j) n = 0) (hM : Sem S C TS TC (nI n) F (rS s0 ru la na li it 12 s) (kS s0 ru la na li khs kgi kwr) (nI 4) ch ak up lo th) :
    f_L_law_b1255 5000 L xs th pu d (nI n) x4 (nI s0) s.2.2.1 (nI x) = some 1 := by
  unfold f_L_law_b1255
  exact L1261 hy hV hPL hx hb n 0 5000 th ak 0 (by omega) (by have := hy.2.1; omega) rfl hM
theorem L1183 (hy : Hy n s0 ru F la na li) (hV : GV n s0 s) (hPL : PL n s0 ru F la na li khs kgi kwr pu x4) (hx : x ≤ 6) :
    ∀ r y n1 (th : TH) (ak : Int32) (ch : Nat → Int32), r + y = 4 → r < n1 → ek_s (fun j => ek_ba ch y j) n = 0 → Sem S C TS TC (nI n) F (rS s0 ru la na li it 12 s) (kS s0 ru la na li khs kgi kwr) (nI y) ch ak up lo th →
      f_L_law_b1183 5000 L xs (f_L_law_b1255 5000 L xs) n1 th pu d (nI n) x4 (nI s0) s.2.2.1 (nI x) (nI y) = some 1 := by
  obtain ⟨y1, y2, y3, y4, y5, y6⟩ := id hy
  have hn9 : n ≤ 9 := by omega
  intro r
  induction r with
  | zero =>
    intro y n1 th ak ch hr h1 hb hM
    obtain ⟨n1, rfl⟩ : ∃ q, n1 = q + 1 := ⟨n1 - 1, by omega⟩
    obtain rfl : y = 4 := by omega
    rw [f_L_law_b1183, if_pos (show (4 : Int32) ≤ nI 4 by decide)]
    exact L1255 hy hV hPL hx hb hM
  | succ r ih =>
    intro y n1 th ak ch hr h1 hb hM
    obtain ⟨n1, rfl⟩ : ∃ q, n1 = q + 1 := ⟨n1 - 1, by omega⟩
    obtain ⟨i, hi, e0⟩ := low_ok (N := 5000) (o_cell L xs (33 + nI y)) (nI n) n (by omega) (by omega) rfl
    obtain ⟨th1, o1, m1⟩ := s_balance hn9 hi (show y ≤ 40 by omega) hM
    obtain ⟨ch2, th2, o2, m2, c1, c2⟩ := s_year hn9 hi (show y < 40 by omega) m1
    obtain ⟨th3, o3, m3⟩ := s_balance hn9 hi (show y + 1 ≤ 40 by omega) m2
    obtain ⟨T, G, Lk, eT, t1, t2, t3⟩ := ce_ok (i := i) hn9 y4 y3 n (Nat.le_refl n)
    have eT1 : (ek_ce la na li F i n).1 = nI T := by rw [eT]
    have hba : ∀ j, j < n → ek_ba ch2 (y + 1) j = ek_ba ch y j + ch2 (9 * y + j) := fun j hj => by rw [ba_succ, ba_ext (ch := ch) (show j < 9 by omega) c1]
    have hb2 : ek_s (fun j => ek_ba ch2 (y + 1) j) n = 0 := by
      rw [ek_sext (g := fun j => ek_ba ch y j + ch2 (9 * y + j)) hba, s_add2, hb, year0 hi (d := fun j => ch2 (9 * y + j)) c2]
      rfl
    rw [f_L_law_b1183, if_neg (show ¬ (4 : Int32) ≤ nI y from nI_ge (b := 4) (by omega) (by omega)), gd_t (show ¬ (33 : Int32) + nI y < 0 by rw [show (33 : Int32) + nI y = nI (33 + y) from nI_add 33 y]; exact nI_pos (by omega))]
    rw [e0, bn_t, o1, bn_t, nm_t, s_lt1 m1, o2, bn_t, if_neg (show ¬ (ek_ce la na li F i n).1 < 0 by rw [eT1]; exact nI_pos (by omega)), o3, bn_t, s_lt1 m3]
    rw [if_pos (show ek_ba ch2 (y + 1) i = ek_ba ch y i + (ek_ce la na li F i n).1 by rw [hba i hi, c2 i hi, if_pos rfl]), nI_1]
    exact ih (y + 1) n1 th3 _ ch2 (by omega) (by omega) hb2 m3
theorem pc5 : ∀ b, b < 32 → ¬ (5 : Int32) < ek_pc (nI b) := by decide +kernel
theorem pc1 : ∀ k, k ≤ 5 → ek_pc (nI (2 ^ k - 1)) = nI k ∧ 2 ^ k - 1 < 32 := by decide +kernel
theorem ba0 : ∀ m, ek_s (fun j => ek_ba ch 0 j) m = 0 := by
  intro m
  rw [ek_smore (n := 0) (f := fun j => ek_ba ch 0 j) (Nat.zero_le m) (fun j _ _ => rfl)]
  rfl
theorem L1115 {sz : Nat → Nat} (hy : Hy n s0 ru F la na li) (hV : GV n s0 s) (hPL : PL n s0 ru F la na li khs kgi kwr pu x4) (hx : x ≤ 6) (a : S 1 = nI 5) (hn : ∀ q, q < 5 → 1 ≤ sz q ∧ sz q ≤ 40 ∧ C (40 * 1 + q) = nI (sz q)) (hs : ∀ q, q < 8 → sz q ≤ 40) (hM : Sem S C TS TC (nI n) F (rS s0 ru la na li it 12 s) (kS s0 ru la na li khs kgi kwr) (nI 0) ch ak up lo th) :
    f_L_law_b1115 5000 L xs th pu d (nI n) x4 (nI s0) s.2.2.1 (nI x) = some 1 := by
  obtain ⟨k, ak1, th1, k5, o1, m1, hf⟩ := s_fits a hn hM
  obtain ⟨bs, th2, b1, o2, m2, g1, g2⟩ := s_room (Or.inl rfl) a hn hs m1
  obtain ⟨bt, th3, b3, o3, m3, g3, g4⟩ := s_room (Or.inr rfl) a hn hs m2
  have hk := pc1 k k5
  have hle := gL_fL (w := 14) (sz := sz) (by omega) hs k (by omega)
  have hq : gL 14 sz (2 ^ k - 1) / 64 ≤ 2 := Nat.le_trans (Nat.div_le_div_right hle) hf
  have hr := g2 (2 ^ k - 1) hk.2 hq
  rw [hk.1] at hr
  unfold f_L_law_b1115
  rw [o1, bn_t, show o_room th1 14 2 1 = _ from o2, bn_t, if_neg (nI_pos (by omega)), if_neg (Int32.not_lt.mpr hr), if_neg (pc5 bs b1), s_asked m2, bn_t, bits_ok (by omega), bn_t, if_pos rfl]
  rw [show o_room th2 14 3 1 = _ from o3, bn_t, if_pos (g4 bs b1 (by omega))]
  exact L1183 hy hV hPL hx 4 0 5000 th3 _ _ (by omega) (by omega) (ba0 n) m3
theorem L1074 (hy : Hy n s0 ru F la na li) (hV : GV n s0 s) (hPL : PL n s0 ru F la na li khs kgi kwr pu x4) (hx : x ≤ 6) (a : S 1 = nI 5) :
    ∀ r i n1 (th : TH) (ak : Int32) (C : Nat → Int32) (sz : Nat → Nat), r + i = 5 → r < n1 → (∀ q, q < i → 1 ≤ sz q ∧ sz q ≤ 40 ∧ C (40 * 1 + q) = nI (sz q)) → (∀ q, q < 8 → sz q ≤ 40) → Sem S C TS TC (nI n) F (rS s0 ru la na li it 12 s) (kS s0 ru la na li khs kgi kwr) (nI 0) ch ak up lo th →
      f_L_law_b1074 5000 L xs (f_L_law_b1115 5000 L xs) n1 th pu d (nI n) x4 (nI s0) s.2.2.1 (nI x) (nI i) = some 1 := by
  intro r
  induction r with
  | zero =>
    intro i n1 th ak C sz hr h1 hc hs hM
    obtain ⟨n1, rfl⟩ : ∃ q, n1 = q + 1 := ⟨n1 - 1, by omega⟩
    obtain rfl : i = 5 := by omega
    rw [f_L_law_b1074, if_pos (show (5 : Int32) ≤ nI 5 by decide)]
    exact L1115 hy hV hPL hx a hc hs hM
  | succ r ih =>
    intro i n1 th ak C sz hr h1 hc hs hM
    obtain ⟨n1, rfl⟩ : ∃ q, n1 = q + 1 := ⟨n1 - 1, by omega⟩
    obtain ⟨w, hw, e0⟩ := low_ok (N := 5000) (o_cell L xs (28 + nI i)) (12 : Int32) 12 (by omega) (by omega) rfl
    obtain ⟨th1, ak1, o1, m1⟩ := s_lay (k := 1) (i := i) (v := (1 : Int32) + nI w) (by omega) a (by omega) (by omega) hM
    rw [f_L_law_b1074, if_neg (show ¬ (5 : Int32) ≤ nI i from nI_ge (b := 5) (by omega) (by omega)), gd_t (show ¬ (28 : Int32) + nI i < 0 by rw [show (28 : Int32) + nI i = nI (28 + i) from nI_add 28 i]; exact nI_pos (by omega))]
    rw [e0, bn_t, show o_lay th 1 (nI i) (1 + nI w) = _ from o1, bn_t, if_pos (by rfl), nI_1]
    refine ih (i + 1) n1 th1 _ _ (fun q => if q = i then 1 + w else sz q) (by omega) (by omega) (fun q hq => ?_) (fun q hq => ?_) m1
    · by_cases e : q = i
      · subst e
        simp only [if_true]
        exact ⟨by omega, by omega, pk_us.trans (nI_add 1 w)⟩
      · simp only [if_neg e]
        obtain ⟨u1, u2, u3⟩ := hc q (by omega)
        exact ⟨u1, u2, (pk_un (by omega)).trans u3⟩
    · by_cases e : q = i
      · simp only [if_pos e]; omega
      · simp only [if_neg e]; exact hs q hq
theorem L1059 (hy : Hy n s0 ru F la na li) (hV : GV n s0 s) (hPL : PL n s0 ru F la na li khs kgi kwr pu x4) (hx : x ≤ 6) (hM : Sem S C TS TC (nI n) F (rS s0 ru la na li it 12 s) (kS s0 ru la na li khs kgi kwr) (nI 0) ch ak up lo th) :
    f_L_law_b1059 5000 L xs th pu d (nI n) x4 (nI s0) s.2.2.1 (nI x) = some 1 := by
  obtain ⟨th1, o1, m1⟩ := s_row (k := 1) (m := 5) (by omega) (by omega) hM
  unfold f_L_law_b1059
  rw [show o_row th 1 5 = _ from o1, bn_t, if_pos (by rfl)]
  exact L1074 hy hV hPL hx pk_us 5 0 5000 th1 _ _ (fun _ => 0) (by omega) (by omega) (fun q hq => absurd hq (by omega)) (fun q _ => by omega) m1
end LAW
