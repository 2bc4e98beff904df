/-! the law: HOUR by HOUR -/
theorem pt_s (c : Int32) (g : Nat → Int32) : ∀ m, (ek_pt c g m).1 = ek_s (fun k => if ek_bt c k then g k else 0) m := by
  intro m
  induction m with
  | zero => rfl
  | succ m ih =>
    show (if ek_bt c m then ek_tk (ek_pt c g m) (g m) else ek_pt c g m).1 = ek_s (fun k => if ek_bt c k then g k else 0) m + (if ek_bt c m then g m else 0)
    cases ek_bt c m
    · rw [if_neg (by decide), if_neg (by decide), ih, Int32.add_zero]
    · rw [if_pos rfl, if_pos rfl, ← ih]; rfl
theorem i10 : ¬ (1 : Int32) = 0 := by decide
theorem i01 : ¬ (0 : Int32) = 1 := by decide
section LAW
variable {S C TS TC F ch khs kgi kwr d xs : Nat → Int32} {la na li it x4 : Int32} {up lo : Int64} {s : GSt} {n s0 ru L : Nat}
theorem L279 {k0 : TRd} {yn st ru' at_ ib ho cr c x8 x11 x12 : Int32} {hs gi wr pu0 : Nat → Int32} {h : Nat} {k441 : TH → (Nat → Int32) → (Nat → Int32) → Int32 → Int32 → Int32 → Int32 → Int32 → Int32 → Int32 → Int32 → Int32 → Option (Int32)} (hn : n ≤ 9) (hB : ek_B n cr gi wr)
    (hold : ∀ i, i < n → ek_bt c i = true → ek_bt cr i = true ∧ pu0 i = gi i) (hnew : ∀ i, i < n → ek_bt c i = false → ek_bt cr i = true → hs i = nI h)
    (hE : ∀ (th : TH) (ak : Int32) (pu' : Nat → Int32), (∀ j, j < n → pu' j = if ek_bt cr j then gi j else -9) → Sem S C TS TC (nI n) F (mR st ru' at_ ib ho cr la na li it hs gi wr) k0 yn ch ak up lo th → k441 th pu' d (nI n) x4 (nI s0) x8 (nI h) x11 x12 cr (ek_pt cr gi n).1 = some 1) :
    ∀ r i n1 (th : TH) (ak : Int32) (pu : Nat → Int32) (x13 x14 : Int32), r + i = n → r < n1 → (∀ j, j < 32 → ek_bt x13 j = (decide (j < i) && ek_bt cr j)) → x14 = ek_s (fun k => if ek_bt cr k then gi k else 0) i → (∀ j, j < i → pu j = if ek_bt cr j then gi j else -9) → (∀ j, i ≤ j → pu j = pu0 j) → Sem S C TS TC (nI n) F (mR st ru' at_ ib ho cr la na li it hs gi wr) k0 yn ch ak up lo th →
      f_L_law_b279 5000 L xs k441 n1 th pu d (nI n) x4 (nI s0) c x8 (nI h) x11 x12 x13 x14 (nI i) = some 1 := by
  intro r
  induction r with
  | zero =>
    intro i n1 th ak pu x13 x14 hr h1 hb hs14 hp1 hp2 hM
    obtain ⟨n1, rfl⟩ : ∃ q, n1 = q + 1 := ⟨n1 - 1, by omega⟩
    obtain rfl : i = n := by omega
    have e13 : x13 = cr := ek_ext (fun j hj => by
      rw [hb j hj]
      rcases Nat.lt_or_ge j i with q | q
      · rw [decide_eq_true q]; rfl
      · rw [decide_eq_false (by omega), hB.1 j q]; rfl)
    rw [f_L_law_b279, if_pos (nI_le (by omega) (by omega)), e13, hs14, ← pt_s]
    exact hE th ak pu hp1 hM
  | succ r ih =>
    intro i n1 th ak pu x13 x14 hr h1 hb hs14 hp1 hp2 hM
    obtain ⟨n1, rfl⟩ : ∃ q, n1 = q + 1 := ⟨n1 - 1, by omega⟩
    have hi : i < n := by omega
    have hcl : (nI i).toNatClampNeg = i := nI_clamp (by omega)
    have hin : inb (nI i) 9 = true := ek_inb (by omega) (by omega)
    obtain ⟨th1, o1, m1⟩ := s_told (w := 0) hn hi (by omega) hM
    obtain ⟨th2, o2, m2⟩ := s_told (w := 2) hn hi (by omega) m1
    obtain ⟨th3, o3, m3⟩ := s_told (w := 1) hn hi (by omega) m2
    have a1 := s_lt1 m1
    have a2 := s_lt1 m2
    have a3 := s_lt1 m3
    rw [if_pos rfl] at a1
    rw [if_neg (show ¬ (2 : Nat) = 0 by omega), if_neg (show ¬ (2 : Nat) = 1 by omega), if_pos (show (2 : Nat) = 2 from rfl)] at a2
    rw [if_neg (show ¬ (1 : Nat) = 0 by omega), if_pos (show (1 : Nat) = 1 from rfl)] at a3
    rw [f_L_law_b279, if_neg (nI_ge (by omega) (by omega)), show o_told th (nI i) 0 = _ from o1, bn_t]
    cases hc : ek_bt cr i
    · rw [hc, if_neg (by decide)] at a1 a2
      have ho : ek_bt c i = false := by
        cases q : ek_bt c i
        · rfl
        · have := (hold i hi q).1; rw [hc] at this; cases this
      rw [a1, if_neg i01]
      unfold f_L_law_b305
      rw [show o_told th1 (nI i) 2 = _ from o2, bn_t, nm_t, a2]
      unfold f_L_law_b335
      rw [nm_t, if_pos (show (0 : Int32) = 0 from rfl), if_pos (show (0 : Int32) = 0 from rfl)]
      unfold f_L_law_b351
      rw [nm_t, if_pos (show (-9 : Int32) < 0 by decide)]
      unfold f_L_law_b366
      rw [if_pos (show (0 : Int32) = 0 from rfl), if_neg (fun q => by rw [(ek_bit0 c (i := i) (by omega)).mpr ho] at q; exact i01 q)]
      unfold f_L_law_b395
      rw [if_pos (show (0 : Int32) = 0 from rfl)]
      unfold f_L_law_b428
      rw [gd_t hin, hcl, nI_1]
      refine ih (i + 1) n1 th2 _ _ _ _ (by omega) (by omega) (fun j hj => ?_) ?_ (fun j hj => ?_) (fun j hj => ?_) m2
      · rw [Int32.or_zero, hb j hj]
        by_cases e : j = i
        · rw [e, hc, Bool.and_false, Bool.and_false]
        · rw [show decide (j < i) = decide (j < i + 1) from by simp only [decide_eq_decide]; omega]
      · rw [hs14]
        show _ + _ = _ + (if ek_bt cr i then gi i else 0)
        rw [hc, if_neg (by decide)]
      · by_cases e : j = i
        · rw [e, pk_us, hc, if_neg (by decide)]
        · rw [pk_un e]; exact hp1 j (by omega)
      · rw [pk_un (by omega)]; exact hp2 j (by omega)
    · rw [hc, if_pos rfl] at a1 a2 a3
      obtain ⟨v, v1, v2⟩ := hB.2.1 i (by omega) hc
      rw [a1, if_pos (show (1 : Int32) = 1 from rfl)]
      unfold f_L_law_b305
      rw [show o_told th1 (nI i) 2 = _ from o2, bn_t, nm_t, a2]
      unfold f_L_law_b335
      rw [nm_t, if_neg i10, if_neg i10]
      unfold f_L_law_b351
      rw [nm_t, if_neg (show ¬ gi i < 0 by rw [v2]; exact nI_pos (by omega))]
      unfold f_L_law_b366
      rw [if_pos (show (1 : Int32) = 1 from rfl)]
      have fin : ∀ (th : TH) (ak : Int32), Sem S C TS TC (nI n) F (mR st ru' at_ ib ho cr la na li it hs gi wr) k0 yn ch ak up lo th → f_L_law_b428 5000 L xs (f_L_law_b279 5000 L xs k441 n1) k441 th pu d (nI n) x4 (nI s0) c x8 (nI h) x11 x12 (x13 ||| ((1 : Int32) <<< (nI i &&& 31))) (x14 + gi i) (nI i) (gi i) = some 1 := by
        intro th' ak' hM'
        unfold f_L_law_b428
        rw [gd_t hin, hcl, nI_1]
        refine ih (i + 1) n1 th' _ _ _ _ (by omega) (by omega) (fun j hj => ?_) ?_ (fun j hj => ?_) (fun j hj => ?_) hM'
        · rw [ek_bset x13 (by omega) hj, hb j hj]
          by_cases e : i = j
          · subst e
            rw [hc, decide_eq_true (show i = i from rfl), decide_eq_true (show i < i + 1 by omega), Bool.or_true]; rfl
          · rw [decide_eq_false e, Bool.or_false, show decide (j < i) = decide (j < i + 1) from by simp only [decide_eq_decide]; omega]
        · rw [hs14]
          show _ + _ = _ + (if ek_bt cr i then gi i else 0)
          rw [hc, if_pos rfl]
        · by_cases e : j = i
          · rw [e, pk_us, hc, if_pos rfl]
          · rw [pk_un e]; exact hp1 j (by omega)
        · rw [pk_un (by omega)]; exact hp2 j (by omega)
      cases ho : ek_bt c i
      · rw [if_neg (fun q => by rw [(ek_bit0 c (i := i) (by omega)).mpr ho] at q; exact i01 q)]
        unfold f_L_law_b395
        rw [if_neg i10, if_pos ((ek_bit0 c (by omega)).mpr ho), show o_told th2 (nI i) 1 = _ from o3, bn_t, a3, if_pos (hnew i hi ho hc)]
        exact fin th3 _ m3
      · rw [if_pos ((ek_bit1 c (by omega)).mpr ho), if_neg i10, gd_t hin, hcl, if_pos (show gi i = pu i by rw [hp2 i (Nat.le_refl i)]; exact (hold i hi ho).2.symm)]
        unfold f_L_law_b395
        rw [if_neg i10, if_neg (fun q => by rw [(ek_bit1 c (i := i) (by omega)).mpr ho] at q; exact i10 q)]
        exact fin th2 _ m2
theorem L441 {k0 : TRd} {yn st ru' ib ho cr ak x8 : Int32} {hs gi wr pu : Nat → Int32} {h at_ : Nat} {th : TH} {k212 : TH → (Nat → Int32) → (Nat → Int32) → Int32 → Int32 → Int32 → Int32 → Int32 → Int32 → Option (Int32)} {k522 : TH → (Nat → Int32) → (Nat → Int32) → Int32 → Int32 → Int32 → Int32 → Option (Int32)} (hn : n ≤ 9) (hat : at_ < n) (hB : ek_sub n cr) (h8 : x8 = 0 ∨ ¬ ib = 0) (hib : ib = 0 ∨ (cr = ek_all n ∧ at_ = s0))
    (hE : ∀ (th : TH) (ak : Int32), Sem S C TS TC (nI n) F (mR st ru' (nI at_) ib ho cr la na li it hs gi wr) k0 yn ch ak up lo th → k212 th pu d (nI n) x4 (nI s0) cr ib (nI (h + 1)) = some 1)
    (hM : Sem S C TS TC (nI n) F (mR st ru' (nI at_) ib ho cr la na li it hs gi wr) k0 yn ch ak up lo th) :
    f_L_law_b441 5000 L xs k212 k522 th pu d (nI n) x4 (nI s0) x8 (nI h) (nI at_) ib cr (ek_pt cr gi n).1 = some 1 := by
  obtain ⟨th1, ak1, o1, m1⟩ := s_coins hn hB hM
  have h5 : f_L_law_b500 5000 L xs k212 k522 th1 pu d (nI n) x4 (nI s0) cr x8 (nI h) ib = some 1 := by
    unfold f_L_law_b500 f_L_law_b512
    rw [nI_1, hE th1 ak1 m1]
    rcases h8 with q | q
    · rw [if_pos q]
    · rw [if_neg q]; split <;> rfl
  unfold f_L_law_b441
  rw [if_neg (nI_pos (by omega)), if_neg (nI_ge hat (by omega)), o1, bn_t, if_pos (by rfl), s_count1 hn hB m1, bn_t, bits_ok (by omega), bn_t, if_pos (by rfl)]
  rcases hib with q | ⟨q1, q2⟩
  · rw [if_pos q]; exact h5
  · by_cases z : ib = 0
    · rw [if_pos z]; exact h5
    · rw [if_neg z, if_pos (show cr = ((1 : Int32) <<< (nI n &&& 31)) - (1 : Int32) from q1), if_pos (by rw [q2])]; exact h5
end LAW
