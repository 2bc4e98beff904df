/-! the model's odds: the hours -/
theorem ek_hrM {N n i H h0 : Nat} {F D g wr hs : Nat → Int32} {W Wn : Nat → Int64} {ru la na li ho st cr wm wt e1 e2 e3 e4 e5 x4 x5 x6 x7 : Int32} {aw : Int64} {A : Nat → Nat} (hN : 5000 ≤ N) (hD : ek_D n F D) (hr : ru = 0 ∨ ru = 1 ∨ ru = 2) (hT : ek_T la na li) (hI : ek_In n A H i) (hi : i ≤ 12) (hM : ek_M W A) (hZ : ek_M Wn (fun _ => 0)) (eh : x5 + x7 = nI (h0 + i)) (e4' : x4 = ru)
    (k : Int32 → Int32 → Int32 → Int32 → Int32 → Int32 → Int32 → Int32 → Int64 → Int64 → (Nat → Int32) → (Nat → Int32) → (Nat → Int32) → (Nat → Int64) → (Nat → Int64) → Int32 → Int32 → Int32 → Int32 → Option (Int32 × Int32 × Int32 × Int32 × Int32 × Int32 × Int32 × Int32 × Int64 × Int64 × (Nat → Int32) × (Nat → Int32) × (Nat → Int32) × (Nat → Int64) × (Nat → Int64))) :
    ∃ wm' wt' e1' e2' e3' e4' e5' Wn', f_X12_setOdds_b122 N k (nI n) la na li ho st D N cr wm wt e1 e2 e3 e4 e5 (lN (12 * H)) aw g wr hs W Wn x4 x5 x6 x7 0 = k cr wm' wt' e1' e2' e3' e4' e5' (lN (ek_Ah n F ru (nI (h0 + i)) A H)) aw g wr hs W Wn' x4 x5 x6 x7 ∧ ek_M Wn' (ek_A n F ru (nI (h0 + i)) A) := by
  have hn := hD.1
  have hb := ek_12 (show i ≤ 13 by omega)
  subst e4'
  have hinj : ∀ a b, a < 512 * n → b < 512 * n → ek_si a = ek_si b → a = b := by
    intro a b ha hb e; unfold ek_si at e; omega
  have hperm : ∀ (f : Nat → Nat), (∀ q, q < 4608 → 0 < f q → 0 < A q) → ek_sn (fun y => f (ek_si y)) (512 * n) = ek_sn f 4608 := fun f hf => ek_snperm (fun y hy => ek_silt (by omega)) hinj (fun q hq hp => by
    obtain ⟨s1, s2⟩ := hI.1 q hq (hf q hq hp)
    refine ⟨512 * (q % 9) + q / 9, by omega, ?_⟩
    unfold ek_si; omega)
  have hta : ∀ j, ek_sn (fun y => ek_ta (ek_q n F x4 (nI (h0 + i)) (ek_si y)) (A (ek_si y)) j) (512 * n) = ek_A n F x4 (nI (h0 + i)) A j := fun j => hperm (fun q => ek_ta (ek_q n F x4 (nI (h0 + i)) q) (A q) j) (fun q _ hp => by
    rcases Nat.eq_zero_or_pos (A q) with z | z
    · simp only [z, ek_ta0] at hp; omega
    · exact z)
  have hth : ek_sn (fun y => ek_th (ek_q n F x4 (nI (h0 + i)) (ek_si y)) (A (ek_si y))) (512 * n) = ek_sn (fun q => ek_th (ek_q n F x4 (nI (h0 + i)) q) (A q)) 4608 := hperm (fun q => ek_th (ek_q n F x4 (nI (h0 + i)) q) (A q)) (fun q _ hp => by
    rcases Nat.eq_zero_or_pos (A q) with z | z
    · simp only [z, ek_th0] at hp; omega
    · exact z)
  refine ek_forI (σ := Int32 × Int32 × Int32 × Int32 × Int32 × Int32 × Int32 × Int64 × (Nat → Int64)) (fun n2 y t => f_X12_setOdds_b122 N k (nI n) la na li ho st D n2 cr t.1 t.2.1 t.2.2.1 t.2.2.2.1 t.2.2.2.2.1 t.2.2.2.2.2.1 t.2.2.2.2.2.2.1 t.2.2.2.2.2.2.2.1 aw g wr hs W t.2.2.2.2.2.2.2.2 x4 x5 x6 x7 y)
    (fun j t => t.2.2.2.2.2.2.2.1 = lN (12 * H + ek_sn (fun y => ek_th (ek_q n F x4 (nI (h0 + i)) (ek_si y)) (A (ek_si y))) j) ∧ ek_M t.2.2.2.2.2.2.2.2 (fun q => ek_sn (fun y => ek_ta (ek_q n F x4 (nI (h0 + i)) (ek_si y)) (A (ek_si y)) q) j)) (512 * n) N (by omega) ?_ (wm, wt, e1, e2, e3, e4, e5, lN (12 * H), Wn) ⟨rfl, hZ⟩ (fun r => ∃ wm' wt' e1' e2' e3' e4' e5' Wn', r = k cr wm' wt' e1' e2' e3' e4' e5' (lN (ek_Ah n F x4 (nI (h0 + i)) A H)) aw g wr hs W Wn' x4 x5 x6 x7 ∧ ek_M Wn' (ek_A n F x4 (nI (h0 + i)) A)) ?_
  · intro n2 y t hy hI2
    obtain ⟨t1, t2, t3, t4, t5, t6, t7, t8, t9⟩ := t
    obtain ⟨g8, g9⟩ := hI2
    simp only at g8 g9
    try simp only
    have hyb : y < 4608 := by omega
    have hAb : A (ek_si y) ≤ 12 ^ i := by have := ek_snp (f := A) (ek_silt hyb); have := hI.2; omega
    rw [f_X12_setOdds_b122, show (512 : Int32) * nI n = nI (512 * n) from pk_mul 512 n, if_neg (nI_ge hy (by omega)), gd_t (ek_inb46 hyb), nI_clamp (show y < 2 ^ 31 by omega), hM y hyb]
    unfold f_X12_setOdds_b160
    rcases Nat.eq_zero_or_pos (A (ek_si y)) with z | z
    · rw [if_pos (show lN (A (ek_si y)) ≤ (0 : Int64) by rw [z]; exact Int64.le_refl _), nI_1]
      refine ⟨(t1, t2, t3, t4, t5, t6, t7, t8, t9), rfl, ?_, ?_⟩
      · show t8 = lN (12 * H + (ek_sn (fun y => ek_th (ek_q n F x4 (nI (h0 + i)) (ek_si y)) (A (ek_si y))) y + ek_th (ek_q n F x4 (nI (h0 + i)) (ek_si y)) (A (ek_si y))))
        rw [g8, z, ek_th0]; rfl
      · refine ek_Mext g9 (fun q _ => ?_)
        show ek_sn (fun y => ek_ta (ek_q n F x4 (nI (h0 + i)) (ek_si y)) (A (ek_si y)) q) y + ek_ta (ek_q n F x4 (nI (h0 + i)) (ek_si y)) (A (ek_si y)) q = _
        rw [z, ek_ta0]; rfl
    · obtain ⟨s1, s2⟩ := hI.1 _ (ek_silt hyb) z
      have s2' : y % 512 < 2 ^ n := by
        have : ek_si y / 9 = y % 512 := by unfold ek_si; omega
        omega
      obtain ⟨wm1, wt1, f1, f2, f3, f4, f5, Wn1, c1, c2⟩ := ek_adM (h := nI (h0 + i)) (ho := ho) (st := st) (cr := cr) (wm := t1) (wt := t2) (e1 := t3) (e2 := t4) (e3 := t5) (e4 := t6) (e5 := t7) (g := g) (wr := wr) (hs := hs) (Hb := 12 * H + ek_sn (fun y => ek_th (ek_q n F x4 (nI (h0 + i)) (ek_si y)) (A (ek_si y))) y) hN hD hr hT hy s2' (hM y hyb) g9
      rw [if_neg (show ¬ lN (A (ek_si y)) ≤ (0 : Int64) from fun q => by have := (pk_lLE (a := A (ek_si y)) (b := 0) (by omega) (by omega)).mp q; omega), eh, g8, c1, bn_t, nI_1]
      refine ⟨(wm1, wt1, f1, f2, f3, f4, f5, _, Wn1), rfl, ?_, c2⟩
      show _ = lN (12 * H + (ek_sn (fun y => ek_th (ek_q n F x4 (nI (h0 + i)) (ek_si y)) (A (ek_si y))) y + ek_th (ek_q n F x4 (nI (h0 + i)) (ek_si y)) (A (ek_si y))))
      rw [Nat.add_assoc]
  · intro n2 t hI2
    obtain ⟨t1, t2, t3, t4, t5, t6, t7, t8, t9⟩ := t
    obtain ⟨g8, g9⟩ := hI2
    simp only at g8 g9
    try simp only
    refine ⟨t1, t2, t3, t4, t5, t6, t7, t9, ?_, ek_Mext g9 (fun q _ => (hta q).symm)⟩
    rw [f_X12_setOdds_b122, show (512 : Int32) * nI n = nI (512 * n) from pk_mul 512 n, if_pos (nI_le (Nat.le_refl _) (by omega)), g8, hth]
    rfl
theorem ek_setM {N n x h0 pl c : Nat} {F D g wr hs : Nat → Int32} {W Wn : Nat → Int64} {ru la na li ho st cr wm wt e1 e2 e3 e4 e5 ib : Int32} {bw aw : Int64} (hN : 5000 ≤ N) (hD : ek_D n F D) (hr : ru = 0 ∨ ru = 1 ∨ ru = 2) (hT : ek_T la na li) (hp : pl < n) (hc : c < 2 ^ n) (hx : x ≤ 12) :
    ∃ wm' wt' e1' e2' e3' e4' e5' W' Wn', f_X12_setOdds N (nI n) la na li ho st D cr wm wt e1 e2 e3 e4 e5 bw aw g wr hs W Wn (nI pl) ib (nI c) ru (nI h0) (nI x) = some (cr, wm', wt', e1', e2', e3', e4', e5', lN (ek_it n F ru h0 (ek_A0 pl c ib) (ek_H0 ib) x).2, lN (12 ^ x), g, wr, hs, W', Wn') ∧ ek_M W' (ek_it n F ru h0 (ek_A0 pl c ib) (ek_H0 ib) x).1 := by
  have hn := hD.1
  have h9 := ek_p9 hn
  have hI0 := ek_In0 (ib := ib) hn hp hc
  unfold f_X12_setOdds
  refine ek_forI (fun n2 y W => f_X12_setOdds_b3 N (f_X12_setOdds_b25 N (nI n) la na li ho st D) (nI n) la na li ho st D n2 cr wm wt e1 e2 e3 e4 e5 bw aw g wr hs W Wn (nI pl) ib (nI c) ru (nI h0) (nI x) y) (fun j W => ∀ y, y < j → W y = 0) 4608 N (by omega) ?_ W (fun y hy => absurd hy (by omega)) (fun r => ∃ wm' wt' e1' e2' e3' e4' e5' W' Wn', r = some (cr, wm', wt', e1', e2', e3', e4', e5', lN (ek_it n F ru h0 (ek_A0 pl c ib) (ek_H0 ib) x).2, lN (12 ^ x), g, wr, hs, W', Wn') ∧ ek_M W' (ek_it n F ru h0 (ek_A0 pl c ib) (ek_H0 ib) x).1) ?_
  · intro n2 j W1 hj hI
    refine ⟨vp_updL W1 j 0, ?_, ?_⟩
    · try simp only
      rw [f_X12_setOdds_b3, if_neg (show ¬ (4608 : Int32) ≤ nI j from nI_ge (b := 4608) hj (by omega)), gd_t (ek_inb46 hj), nI_clamp (show j < 2 ^ 31 by omega), nI_1]
    · intro y hy
      by_cases e : y = j
      · rw [e, pk_uLs]
      · rw [pk_uLn e]; exact hI y (by omega)
  · intro n2 W1 hI
    try simp only
    rw [f_X12_setOdds_b3, if_pos (show (4608 : Int32) ≤ nI 4608 from Int32.le_refl _)]
    -- where it starts
    have hst : ∃ W2, f_X12_setOdds_b25 N (nI n) la na li ho st D cr wm wt e1 e2 e3 e4 e5 bw aw g wr hs W1 Wn (nI pl) ib (nI c) ru (nI h0) (nI x) = f_X12_setOdds_b60 N (nI n) la na li ho st D cr wm wt e1 e2 e3 e4 e5 (lN (ek_H0 ib)) 1 g wr hs W2 Wn ru (nI h0) (nI x) ∧ ek_M W2 (ek_A0 pl c ib) := by
      have key : 512 * nI pl + nI c = nI (512 * pl + c) := by rw [show (512 : Int32) * nI pl = nI (512 * pl) from pk_mul 512 pl, nI_add]
      unfold f_X12_setOdds_b25 f_X12_setOdds_b35 ek_H0 ek_A0
      by_cases e : ib = 0
      · refine ⟨vp_updL W1 (512 * pl + c) 1, ?_, ?_⟩
        · rw [if_pos e, if_pos e, if_pos e, key, gd_t (ek_inb46 (by omega)), nI_clamp (show 512 * pl + c < 2 ^ 31 by omega)]; rfl
        · intro y hy
          try simp only
          rw [if_pos e]
          by_cases z : y = 512 * pl + c
          · rw [if_pos ((ek_sie hy (by omega) (by omega)).mpr z), z, pk_uLs]; rfl
          · rw [if_neg (fun q => z ((ek_sie hy (by omega) (by omega)).mp q)), pk_uLn z, hI y hy]; rfl
      · refine ⟨W1, ?_, ?_⟩
        · rw [if_neg e, if_neg e, if_neg e]; rfl
        · intro y hy
          try simp only
          rw [if_neg e, hI y hy]; rfl
    obtain ⟨W2, s1, s2⟩ := hst
    rw [s1]
    unfold f_X12_setOdds_b60
    refine ek_forI (σ := Int32 × Int32 × Int32 × Int32 × Int32 × Int32 × Int32 × Int64 × Int64 × (Nat → Int64) × (Nat → Int64)) (fun n2 y t => f_X12_setOdds_b63 N (nI n) la na li ho st D n2 cr t.1 t.2.1 t.2.2.1 t.2.2.2.1 t.2.2.2.2.1 t.2.2.2.2.2.1 t.2.2.2.2.2.2.1 t.2.2.2.2.2.2.2.1 t.2.2.2.2.2.2.2.2.1 g wr hs t.2.2.2.2.2.2.2.2.2.1 t.2.2.2.2.2.2.2.2.2.2 ru (nI h0) (nI x) y)
      (fun i t => t.2.2.2.2.2.2.2.1 = lN (ek_it n F ru h0 (ek_A0 pl c ib) (ek_H0 ib) i).2 ∧ t.2.2.2.2.2.2.2.2.1 = lN (12 ^ i) ∧ ek_M t.2.2.2.2.2.2.2.2.2.1 (ek_it n F ru h0 (ek_A0 pl c ib) (ek_H0 ib) i).1) x N (by omega) ?_ (wm, wt, e1, e2, e3, e4, e5, lN (ek_H0 ib), 1, W2, Wn) ⟨rfl, rfl, s2⟩ (fun r => ∃ wm' wt' e1' e2' e3' e4' e5' W' Wn', r = some (cr, wm', wt', e1', e2', e3', e4', e5', lN (ek_it n F ru h0 (ek_A0 pl c ib) (ek_H0 ib) x).2, lN (12 ^ x), g, wr, hs, W', Wn') ∧ ek_M W' (ek_it n F ru h0 (ek_A0 pl c ib) (ek_H0 ib) x).1) ?_
    · intro n3 i t hi hI2
      obtain ⟨t1, t2, t3, t4, t5, t6, t7, t8, t9, t10, t11⟩ := t
      obtain ⟨g8, g9, g10⟩ := hI2
      simp only at g8 g9 g10
      try simp only
      rw [f_X12_setOdds_b63, if_neg (nI_ge hi (by omega))]
      have hIi := ek_Initer (ho := h0) (ru := ru) hn hD.2.2 hI0 i
      refine ek_forI (fun n2 y Wn => f_X12_setOdds_b73 N (f_X12_setOdds_b95 N (f_X12_setOdds_b63 N (nI n) la na li ho st D n3) (nI n) la na li ho st D) (nI n) la na li ho st D n2 cr t1 t2 t3 t4 t5 t6 t7 t8 t9 g wr hs t10 Wn ru (nI h0) (nI x) (nI i) y) (fun j W => ∀ y, y < j → W y = 0) 4608 N (by omega) ?_ t11 (fun y hy => absurd hy (by omega)) (fun r => ∃ s' : Int32 × Int32 × Int32 × Int32 × Int32 × Int32 × Int32 × Int64 × Int64 × (Nat → Int64) × (Nat → Int64), r = f_X12_setOdds_b63 N (nI n) la na li ho st D n3 cr s'.1 s'.2.1 s'.2.2.1 s'.2.2.2.1 s'.2.2.2.2.1 s'.2.2.2.2.2.1 s'.2.2.2.2.2.2.1 s'.2.2.2.2.2.2.2.1 s'.2.2.2.2.2.2.2.2.1 g wr hs s'.2.2.2.2.2.2.2.2.2.1 s'.2.2.2.2.2.2.2.2.2.2 ru (nI h0) (nI x) (nI (i + 1)) ∧ s'.2.2.2.2.2.2.2.1 = lN (ek_it n F ru h0 (ek_A0 pl c ib) (ek_H0 ib) (i + 1)).2 ∧ s'.2.2.2.2.2.2.2.2.1 = lN (12 ^ (i + 1)) ∧ ek_M s'.2.2.2.2.2.2.2.2.2.1 (ek_it n F ru h0 (ek_A0 pl c ib) (ek_H0 ib) (i + 1)).1) ?_
      · intro n4 j W3 hj hI3
        refine ⟨vp_updL W3 j 0, ?_, ?_⟩
        · try simp only
          rw [f_X12_setOdds_b73, if_neg (show ¬ (4608 : Int32) ≤ nI j from nI_ge (b := 4608) hj (by omega)), gd_t (ek_inb46 hj), nI_clamp (show j < 2 ^ 31 by omega), nI_1]
        · intro y hy
          by_cases e : y = j
          · rw [e, pk_uLs]
          · rw [pk_uLn e]; exact hI3 y (by omega)
      · intro n4 W3 hI3
        try simp only
        rw [f_X12_setOdds_b73, if_pos (show (4608 : Int32) ≤ nI 4608 from Int32.le_refl _)]
        unfold f_X12_setOdds_b95
        have e8 : t8 * 12 = lN (12 * (ek_it n F ru h0 (ek_A0 pl c ib) (ek_H0 ib) i).2) := by rw [g8, show (12 : Int64) = lN 12 from rfl, lN_mul, Nat.mul_comm]
        have e9 : t9 * 12 = lN (12 ^ (i + 1)) := by rw [g9, show (12 : Int64) = lN 12 from rfl, lN_mul, Nat.pow_succ]
        obtain ⟨wm1, wt1, f1, f2, f3, f4, f5, Wn1, c1, c2⟩ := ek_hrM (ho := ho) (st := st) (cr := cr) (wm := t1) (wt := t2) (e1 := t3) (e2 := t4) (e3 := t5) (e4 := t6) (e5 := t7) (g := g) (wr := wr) (hs := hs) (h0 := h0) (x5 := nI h0) (x6 := nI x) (x7 := nI i) (aw := lN (12 ^ (i + 1))) (Wn := W3) hN hD hr hT hIi (by omega) g10 (fun y hy => hI3 y hy) (nI_add h0 i) rfl (f_X12_setOdds_b166 N (f_X12_setOdds_b63 N (nI n) la na li ho st D n3) (nI n) la na li ho st D)
        rw [e8, e9, c1]
        unfold f_X12_setOdds_b166
        refine ek_forI (fun n2 y W => f_X12_setOdds_b169 N (f_X12_setOdds_b197 N (f_X12_setOdds_b63 N (nI n) la na li ho st D n3) (nI n) la na li ho st D) (nI n) la na li ho st D n2 cr wm1 wt1 f1 f2 f3 f4 f5 (lN (ek_Ah n F ru (nI (h0 + i)) (ek_it n F ru h0 (ek_A0 pl c ib) (ek_H0 ib) i).1 (ek_it n F ru h0 (ek_A0 pl c ib) (ek_H0 ib) i).2)) (lN (12 ^ (i + 1))) g wr hs W Wn1 ru (nI h0) (nI x) (nI i) y) (fun j W => ∀ y, y < j → W y = Wn1 y) 4608 N (by omega) ?_ t10 (fun y hy => absurd hy (by omega)) (fun r => ∃ s' : Int32 × Int32 × Int32 × Int32 × Int32 × Int32 × Int32 × Int64 × Int64 × (Nat → Int64) × (Nat → Int64), r = f_X12_setOdds_b63 N (nI n) la na li ho st D n3 cr s'.1 s'.2.1 s'.2.2.1 s'.2.2.2.1 s'.2.2.2.2.1 s'.2.2.2.2.2.1 s'.2.2.2.2.2.2.1 s'.2.2.2.2.2.2.2.1 s'.2.2.2.2.2.2.2.2.1 g wr hs s'.2.2.2.2.2.2.2.2.2.1 s'.2.2.2.2.2.2.2.2.2.2 ru (nI h0) (nI x) (nI (i + 1)) ∧ s'.2.2.2.2.2.2.2.1 = lN (ek_it n F ru h0 (ek_A0 pl c ib) (ek_H0 ib) (i + 1)).2 ∧ s'.2.2.2.2.2.2.2.2.1 = lN (12 ^ (i + 1)) ∧ ek_M s'.2.2.2.2.2.2.2.2.2.1 (ek_it n F ru h0 (ek_A0 pl c ib) (ek_H0 ib) (i + 1)).1) ?_
        · intro n5 j W4 hj hI4
          refine ⟨vp_updL W4 j (Wn1 j), ?_, ?_⟩
          · try simp only
            rw [f_X12_setOdds_b169, if_neg (show ¬ (4608 : Int32) ≤ nI j from nI_ge (b := 4608) hj (by omega)), gd_t (ek_inb46 hj), nI_clamp (show j < 2 ^ 31 by omega), nI_1]
          · intro y hy
            by_cases e : y = j
            · rw [e, pk_uLs]
            · rw [pk_uLn e]; exact hI4 y (by omega)
        · intro n5 W4 hI4
          try simp only
          rw [f_X12_setOdds_b169, if_pos (show (4608 : Int32) ≤ nI 4608 from Int32.le_refl _)]
          unfold f_X12_setOdds_b197
          rw [nI_1]
          refine ⟨(wm1, wt1, f1, f2, f3, f4, f5, _, _, W4, Wn1), rfl, rfl, rfl, ?_⟩
          intro y hy
          show W4 y = _
          rw [hI4 y hy]
          exact c2 y hy
    · intro n3 t hI2
      obtain ⟨t1, t2, t3, t4, t5, t6, t7, t8, t9, t10, t11⟩ := t
      obtain ⟨g8, g9, g10⟩ := hI2
      simp only at g8 g9 g10
      try simp only
      rw [f_X12_setOdds_b63, if_pos (nI_le (Nat.le_refl _) (by omega)), g8, g9]
      exact ⟨t1, t2, t3, t4, t5, t6, t7, t10, t11, rfl, g10⟩
