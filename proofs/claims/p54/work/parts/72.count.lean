/-! counts -/
theorem ek_small {c : Int32} {m : Nat} (hm : m ≤ 31) (h : ek_sub m c) : ∃ k, k < 2 ^ m ∧ c = nI k := by
  refine ⟨c.toBitVec.toNat, ?_, ?_⟩
  · apply Nat.lt_pow_two_of_testBit
    intro i hi
    exact h i hi
  · apply Int32.toBitVec_inj.mp
    show c.toBitVec = BitVec.ofNat 32 c.toBitVec.toNat
    simp
def ek_pc (c : Int32) : Int32 := ek_s (fun k => if ek_bt c k then 1 else 0) 12
theorem ek_bc512 : ∀ k, k < 512 → p_J6_bitCount_0f7a4 (nI k) = ek_pc (nI k) := by decide +kernel
theorem ek_bcX {c : Int32} (h : ek_sub 9 c) : p_J6_bitCount_0f7a4 c = ek_pc c := by
  obtain ⟨k, hk, rfl⟩ := ek_small (by omega) h
  exact ek_bc512 k hk
theorem ek_sub9 {n : Nat} {c : Int32} (hn : n ≤ 9) (h : ek_sub n c) : ek_sub 9 c := fun i hi => h i (by omega)
theorem ek_bcM {N : Nat} {c : Int32} (hN : 5000 ≤ N) : f_X12_sizeOf N c = some (ek_pc c) := by
  unfold f_X12_sizeOf ek_pc
  refine ek_for (fun n2 x s => f_X12_sizeOf_b4 N n2 c s x) (fun k s => s + (if ek_bt c k then 1 else 0)) (fun _ _ => True) 12 N (by omega) ?_ 0 trivial _ ?_
  · intro n2 j s hj _
    refine ⟨?_, trivial⟩
    try simp only
    rw [f_X12_sizeOf_b4, if_neg (show ¬ (12 : Int32) ≤ nI j from nI_ge (b := 12) hj (by omega)), nm_t, ek_bits c (by omega), nI_1]
  · intro n2 _
    try simp only
    rw [f_X12_sizeOf_b4, if_pos (show (12 : Int32) ≤ nI 12 from nI_le (a := 12) (Nat.le_refl _) (by omega)), ek_sfo, Int32.zero_add]
def ek_fl (n : Nat) (F K S' L' : Nat → Int32) (w j : Nat) : Bool := (w == 3 && decide (j < n) && (decide (ek_ds F j 0 = 4) || decide (ek_ds F j 0 = 5))) || ((w == 5 && decide (j < 3) && !decide (K (50 * j) = -9)) || ((w == 6 && decide (j < 6) && decide (0 ≤ S' j)) || (w == 7 && decide (j < 4) && !decide (L' j < 0))))
theorem ek_ctM {N n w : Nat} {F D K S' L' : Nat → Int32} {c ho ym : Int32} (hN : 5000 ≤ N) (hD : ek_D n F D) (hw : w ≤ 7) : f_X12_counts N (nI n) c ho ym S' L' D K (nI w) = f_X12_counts_b111 N (nI n) c ho ym S' L' D K (nI w) (ek_s (fun j => if ek_fl n F K S' L' w j then 1 else 0) 9) := by
  have hn := hD.1
  unfold f_X12_counts
  have w8 : w = 0 ∨ w = 1 ∨ w = 2 ∨ w = 3 ∨ w = 4 ∨ w = 5 ∨ w = 6 ∨ w = 7 := by omega
  refine ek_for (fun n2 x s => f_X12_counts_b4 N (f_X12_counts_b111 N (nI n) c ho ym S' L' D K) (nI n) c ho ym S' L' D K n2 (nI w) s x) (fun j s => s + (if ek_fl n F K S' L' w j then 1 else 0)) (fun _ _ => True) 9 N (by omega) ?_ 0 trivial _ ?_
  · intro n2 j s hj _
    refine ⟨?_, trivial⟩
    try simp only
    rw [f_X12_counts_b4, if_neg (show ¬ (9 : Int32) ≤ nI j from nI_ge (b := 9) hj (by omega))]
    unfold f_X12_counts_b33 f_X12_counts_b57 f_X12_counts_b78 f_X12_counts_b103
    simp only [nm_t]
    rw [nI_1]
    rcases w8 with rfl | rfl | rfl | rfl | rfl | rfl | rfl | rfl
    · have e : ek_fl n F K S' L' 0 j = false := by unfold ek_fl; simp
      rw [if_neg (show ¬ nI 0 = 3 by decide), if_neg (show ¬ nI 0 = 5 by decide), if_neg (show ¬ nI 0 = 6 by decide), if_neg (show ¬ nI 0 = 7 by decide), e]; rfl
    · have e : ek_fl n F K S' L' 1 j = false := by unfold ek_fl; simp
      rw [if_neg (show ¬ nI 1 = 3 by decide), if_neg (show ¬ nI 1 = 5 by decide), if_neg (show ¬ nI 1 = 6 by decide), if_neg (show ¬ nI 1 = 7 by decide), e]; rfl
    · have e : ek_fl n F K S' L' 2 j = false := by unfold ek_fl; simp
      rw [if_neg (show ¬ nI 2 = 3 by decide), if_neg (show ¬ nI 2 = 5 by decide), if_neg (show ¬ nI 2 = 6 by decide), if_neg (show ¬ nI 2 = 7 by decide), e]; rfl
    · rw [if_pos (show nI 3 = 3 from rfl), if_neg (show ¬ nI 3 = 5 by decide), if_neg (show ¬ nI 3 = 6 by decide), if_neg (show ¬ nI 3 = 7 by decide)]
      by_cases h : j < n
      · rw [if_neg (nI_ge h (by omega)), ek_isA4 hD h, bn_t]
        by_cases q : ek_ds F j 0 = 4 ∨ ek_ds F j 0 = 5
        · have e : ek_fl n F K S' L' 3 j = true := by unfold ek_fl; simp [h, q]
          rw [if_pos q, if_neg (by decide), e]; rfl
        · have e : ek_fl n F K S' L' 3 j = false := by
            unfold ek_fl
            have q1 : ¬ ek_ds F j 0 = 4 := fun z => q (Or.inl z)
            have q2 : ¬ ek_ds F j 0 = 5 := fun z => q (Or.inr z)
            simp [q1, q2]
          rw [if_neg q, if_pos rfl, e]; rfl
      · have e : ek_fl n F K S' L' 3 j = false := by unfold ek_fl; simp [h]
        rw [if_pos (nI_le (by omega) (by omega)), e]; rfl
    · have e : ek_fl n F K S' L' 4 j = false := by unfold ek_fl; simp
      rw [if_neg (show ¬ nI 4 = 3 by decide), if_neg (show ¬ nI 4 = 5 by decide), if_neg (show ¬ nI 4 = 6 by decide), if_neg (show ¬ nI 4 = 7 by decide), e]; rfl
    · rw [if_neg (show ¬ nI 5 = 3 by decide), if_pos (show nI 5 = 5 from rfl), if_neg (show ¬ nI 5 = 6 by decide), if_neg (show ¬ nI 5 = 7 by decide)]
      by_cases h : j < 3
      · rw [if_neg (show ¬ (3 : Int32) ≤ nI j from nI_ge (b := 3) h (by omega)), show (50 : Int32) * nI j = nI (50 * j) from pk_mul 50 j, gd_t (ek_inb (by omega) (by omega)), nI_clamp (by omega)]
        by_cases q : K (50 * j) = -9
        · have e : ek_fl n F K S' L' 5 j = false := by unfold ek_fl; simp [q]
          rw [if_pos q, e]; rfl
        · have e : ek_fl n F K S' L' 5 j = true := by unfold ek_fl; simp [h, q]
          rw [if_neg q, e]; rfl
      · have e : ek_fl n F K S' L' 5 j = false := by unfold ek_fl; simp [h]
        rw [if_pos (show (3 : Int32) ≤ nI j from nI_le (a := 3) (by omega) (by omega)), e]; rfl
    · rw [if_neg (show ¬ nI 6 = 3 by decide), if_neg (show ¬ nI 6 = 5 by decide), if_pos (show nI 6 = 6 from rfl), if_neg (show ¬ nI 6 = 7 by decide)]
      by_cases h : j < 6
      · rw [if_neg (show ¬ (6 : Int32) ≤ nI j from nI_ge (b := 6) h (by omega)), gd_t (ek_inb (by omega) (by omega)), nI_clamp (by omega)]
        by_cases q : 0 ≤ S' j
        · have e : ek_fl n F K S' L' 6 j = true := by unfold ek_fl; simp [h, q]
          rw [if_pos q, e]; rfl
        · have e : ek_fl n F K S' L' 6 j = false := by unfold ek_fl; simp [q]
          rw [if_neg q, e]; rfl
      · have e : ek_fl n F K S' L' 6 j = false := by unfold ek_fl; simp [h]
        rw [if_pos (show (6 : Int32) ≤ nI j from nI_le (a := 6) (by omega) (by omega)), e]; rfl
    · rw [if_neg (show ¬ nI 7 = 3 by decide), if_neg (show ¬ nI 7 = 5 by decide), if_neg (show ¬ nI 7 = 6 by decide), if_pos (show nI 7 = 7 from rfl)]
      by_cases h : j < 4
      · rw [if_neg (show ¬ (4 : Int32) ≤ nI j from nI_ge (b := 4) h (by omega)), gd_t (ek_inb (by omega) (by omega)), nI_clamp (by omega)]
        by_cases q : L' j < 0
        · have e : ek_fl n F K S' L' 7 j = false := by unfold ek_fl; simp [q]
          rw [if_pos q, e]; rfl
        · have e : ek_fl n F K S' L' 7 j = true := by unfold ek_fl; simp [h, q]
          rw [if_neg q, e]; rfl
      · have e : ek_fl n F K S' L' 7 j = false := by unfold ek_fl; simp [h]
        rw [if_pos (show (4 : Int32) ≤ nI j from nI_le (a := 4) (by omega) (by omega)), e]; rfl
  · intro n2 _
    try simp only
    rw [f_X12_counts_b4, if_pos (show (9 : Int32) ≤ nI 9 from nI_le (a := 9) (Nat.le_refl _) (by omega)), ek_sfo, Int32.zero_add]
/-- what is counted -/
def ek_ct (n : Nat) (F K S' L' : Nat → Int32) (c ho ym : Int32) (w : Nat) : Int32 := if w = 0 then nI n else if w = 1 then ek_pc c else if w = 2 then ho else if w = 4 then ym else ek_s (fun j => if ek_fl n F K S' L' w j then 1 else 0) 9
theorem ek_countM {N n w : Nat} {F D K S' L' : Nat → Int32} {c ho ym : Int32} (hN : 5000 ≤ N) (hD : ek_D n F D) (hw : w ≤ 7) : f_X12_counts N (nI n) c ho ym S' L' D K (nI w) = some (ek_ct n F K S' L' c ho ym w) := by
  rw [ek_ctM hN hD hw]
  unfold f_X12_counts_b111 ek_ct
  have w8 : w = 0 ∨ w = 1 ∨ w = 2 ∨ w = 3 ∨ w = 4 ∨ w = 5 ∨ w = 6 ∨ w = 7 := by omega
  rcases w8 with rfl | rfl | rfl | rfl | rfl | rfl | rfl | rfl
  · rfl
  · rw [if_neg (show ¬ nI 1 = 0 by decide), if_pos (show nI 1 = 1 from rfl), ek_bcM hN, bn_t]; rfl
  all_goals rfl
theorem ek_thK {N K P : Nat} {S C S' C' : Nat → Int32} {G : Nat → Bool} (hN : 5000 ≤ N) (hK : K ≤ 9) (hP : P < 1000) (hH : ek_H K P S C S' C') (hG : ∀ j, j < 9 → G j = (decide (j < K) && decide (0 ≤ S' j))) : f_X7_numberThere N K S = some (ek_s (fun j => if G j then 1 else 0) 9) := by
  unfold f_X7_numberThere
  refine ek_for (fun n2 x s => f_X7_numberThere_b4 N K S n2 s x) (fun j s => s + (if G j then 1 else 0)) (fun _ _ => True) K N (by omega) ?_ 0 trivial _ ?_
  · intro n2 j s hj _
    refine ⟨?_, trivial⟩
    try simp only
    rw [f_X7_numberThere_b4, if_neg (show ¬ Int32.ofNat K ≤ nI j from nI_ge hj (by omega)), hG j (by omega), decide_eq_true hj]
    unfold f_X7_numberThere_b24
    rw [nI_1]
    rcases hH j hj with ⟨a, b⟩ | ⟨z, hz, a, b, -⟩
    · rw [ek_missH (P := P) (C := C) (S' := S') (C' := C') a hj (by omega), if_pos rfl, b, decide_eq_false (by decide)]
      simp
    · rw [ek_thereH a (by omega) hj (by omega), if_neg (by decide), b, decide_eq_true (nI_pos' (by omega))]
      simp
  · intro n2 _
    try simp only
    rw [f_X7_numberThere_b4, if_pos (show Int32.ofNat K ≤ nI K from nI_le (Nat.le_refl _) (by omega)), ek_sfo, Int32.zero_add]
    rw [ek_smore (f := fun j => if G j then 1 else 0) hK]
    intro j h1 h2
    try simp only
    rw [hG j h2, decide_eq_false (by omega)]; rfl
theorem ek_hourK {n : Nat} {st0 ru0 at0 ib0 ho0 cr0 la0 na0 li0 th0 st1 ru1 at1 ib1 ho1 cr1 la1 na1 li1 th1 st2 ru2 at2 ib2 ho2 cr2 la2 na2 li2 th2 : Int32} {hs0 gi0 wr0 hs1 gi1 wr1 hs2 gi2 wr2 K : Nat → Int32} (h0 : ek_K1 n 0 st0 ru0 at0 ib0 ho0 cr0 la0 na0 li0 th0 hs0 gi0 wr0 K) (h1 : ek_K1 n 1 st1 ru1 at1 ib1 ho1 cr1 la1 na1 li1 th1 hs1 gi1 wr1 K) (h2 : ek_K1 n 2 st2 ru2 at2 ib2 ho2 cr2 la2 na2 li2 th2 hs2 gi2 wr2 K) :
    ∀ j, j < 3 → p_X11_hourKept ho0 th0 ho1 th1 ho2 th2 (nI j) = (if K (50 * j) = -9 then -1 else K (50 * j)) ∧ (p_X11_hourKept ho0 th0 ho1 th1 ho2 th2 (nI j) = -1 ↔ K (50 * j) = -9) := by
  have one : ∀ {k : Nat} {st ru at_ ib ho cr la na li th : Int32} {hs gi wr : Nat → Int32}, ek_K1 n k st ru at_ ib ho cr la na li th hs gi wr K → (if th = 0 then (-1 : Int32) else ho) = (if K (50 * k) = -9 then -1 else K (50 * k)) ∧ ((if th = 0 then (-1 : Int32) else ho) = -1 ↔ K (50 * k) = -9) := by
    intro k st ru at_ ib ho cr la na li th hs gi wr h
    rcases h with ⟨a, b⟩ | ⟨a, b, c, d⟩
    · rw [if_pos a, if_pos b]; exact ⟨rfl, fun _ => b, fun _ => rfl⟩
    · obtain ⟨z, hz, ez⟩ := d.2.2.2.2.1
      have e : K (50 * k) = ho := b.2.2.2.2.1
      have n9 : ¬ ho = -9 := by rw [ez]; exact (ek_neg (z := (-9 : Int32)) (k := -9) (by decide) (by decide) (by omega)).2.2.2.2.2
      have n1 : ¬ ho = -1 := by rw [ez]; exact (ek_neg ek_m1 (by decide) (by omega)).2.2.2.2.2
      rw [e, if_neg (by rw [a]; decide), if_neg n9]
      exact ⟨rfl, fun q => absurd q n1, fun q => absurd q n9⟩
  intro j hj
  unfold p_X11_hourKept
  have j3 : j = 0 ∨ j = 1 ∨ j = 2 := by omega
  rcases j3 with rfl | rfl | rfl
  · rw [if_pos (show nI 0 = 0 from rfl)]; exact one h0
  · rw [if_neg (show ¬ nI 1 = 0 by decide), if_pos (show nI 1 = 1 from rfl)]; exact one h1
  · rw [if_neg (show ¬ nI 2 = 0 by decide), if_neg (show ¬ nI 2 = 1 by decide), if_pos (show nI 2 = 2 from rfl)]; exact one h2
theorem ek_countX {N n w : Nat} {F D K S C S' C' Lx Tx L' T' : Nat → Int32} {c ho ym h0 t0 h1 t1 h2 t2 : Int32} (hN : 5000 ≤ N) (hD : ek_D n F D) (hc : ek_sub n c) (hH : ek_H 6 40 S C S' C') (hT : ek_H 4 100 Lx Tx L' T') (hK : ∀ j, j < 3 → (p_X11_hourKept h0 t0 h1 t1 h2 t2 (nI j) = -1 ↔ K (50 * j) = -9)) (hw : w ≤ 7) : f_X11_count N S Lx (nI n) F ho c h0 t0 h1 t1 h2 t2 ym (nI w) = some (ek_ct n F K S' L' c ho ym w) := by
  have hn := hD.1
  unfold f_X11_count ek_ct
  have w8 : w = 0 ∨ w = 1 ∨ w = 2 ∨ w = 3 ∨ w = 4 ∨ w = 5 ∨ w = 6 ∨ w = 7 := by omega
  rcases w8 with rfl | rfl | rfl | rfl | rfl | rfl | rfl | rfl
  · rfl
  · rw [if_neg (show ¬ nI 1 = 0 by decide), if_pos (show nI 1 = 1 from rfl), ek_bcX (ek_sub9 hn hc)]; rfl
  · rfl
  · rw [if_neg (show ¬ nI 3 = 0 by decide), if_neg (show ¬ nI 3 = 1 by decide), if_neg (show ¬ nI 3 = 2 by decide), if_pos (show nI 3 = 3 from rfl), if_neg (by decide), if_neg (by decide), if_neg (by decide), if_neg (by decide)]
    have e : f_X1_numberOfKind N (nI n) F 4 = some (ek_s (fun j => if ek_fl n F K S' L' 3 j then 1 else 0) 9) := by
      unfold f_X1_numberOfKind
      refine ek_for (fun n2 x s => f_X1_numberOfKind_b4 N (nI n) F n2 4 s x) (fun j s => s + (if ek_fl n F K S' L' 3 j then 1 else 0)) (fun _ _ => True) n N (by omega) ?_ 0 trivial _ ?_
      · intro n2 j s hj _
        refine ⟨?_, trivial⟩
        try simp only
        rw [f_X1_numberOfKind_b4, if_neg (nI_ge hj (by omega)), ek_kind4 hn hj]
        unfold f_X1_numberOfKind_b24
        rw [nI_1]
        by_cases q : ek_ds F j 0 = 4 ∨ ek_ds F j 0 = 5
        · have e : ek_fl n F K S' L' 3 j = true := by unfold ek_fl; simp [hj, q]
          rw [if_pos q, if_neg (by decide), e]; rfl
        · have e : ek_fl n F K S' L' 3 j = false := by
            unfold ek_fl
            have q1 : ¬ ek_ds F j 0 = 4 := fun z => q (Or.inl z)
            have q2 : ¬ ek_ds F j 0 = 5 := fun z => q (Or.inr z)
            simp [q1, q2]
          rw [if_neg q, if_pos rfl, e]
          simp
      · intro n2 _
        try simp only
        rw [f_X1_numberOfKind_b4, if_pos (nI_le (Nat.le_refl _) (by omega)), ek_sfo, Int32.zero_add, ek_smore (f := fun j => if ek_fl n F K S' L' 3 j then 1 else 0) hn]
        intro j h1 h2
        have e : ek_fl n F K S' L' 3 j = false := by
          unfold ek_fl
          have : ¬ j < n := by omega
          simp [this]
        try simp only
        rw [e]; rfl
    rw [e, bn_t]
  · rfl
  · rw [if_neg (show ¬ nI 5 = 0 by decide), if_neg (show ¬ nI 5 = 1 by decide), if_neg (show ¬ nI 5 = 2 by decide), if_neg (show ¬ nI 5 = 3 by decide), if_neg (show ¬ nI 5 = 4 by decide), if_pos (show nI 5 = 5 from rfl), if_neg (by decide), if_neg (by decide), if_neg (by decide), if_neg (by decide)]
    have e : f_X11_numberOfKept N h0 t0 h1 t1 h2 t2 = some (ek_s (fun j => if ek_fl n F K S' L' 5 j then 1 else 0) 9) := by
      unfold f_X11_numberOfKept
      refine ek_for (fun n2 x s => f_X11_numberOfKept_b4 N h0 t0 h1 t1 h2 t2 n2 s x) (fun j s => s + (if ek_fl n F K S' L' 5 j then 1 else 0)) (fun _ _ => True) 3 N (by omega) ?_ 0 trivial _ ?_
      · intro n2 j s hj _
        refine ⟨?_, trivial⟩
        try simp only
        rw [f_X11_numberOfKept_b4, if_neg (show ¬ (3 : Int32) ≤ nI j from nI_ge (b := 3) hj (by omega))]
        unfold f_X11_numberOfKept_b21
        rw [nI_1]
        by_cases q : K (50 * j) = -9
        · have e : ek_fl n F K S' L' 5 j = false := by unfold ek_fl; simp [q]
          rw [if_pos ((hK j hj).mpr q), e]; simp
        · have e : ek_fl n F K S' L' 5 j = true := by unfold ek_fl; simp [hj, q]
          rw [if_neg (fun z => q ((hK j hj).mp z)), e]; rfl
      · intro n2 _
        try simp only
        rw [f_X11_numberOfKept_b4, if_pos (show (3 : Int32) ≤ nI 3 from nI_le (a := 3) (Nat.le_refl _) (by omega)), ek_sfo, Int32.zero_add, ek_smore (f := fun j => if ek_fl n F K S' L' 5 j then 1 else 0) (show 3 ≤ 9 by omega)]
        intro j h1 h2
        have e : ek_fl n F K S' L' 5 j = false := by
          unfold ek_fl
          have : ¬ j < 3 := by omega
          simp [this]
        try simp only
        rw [e]; rfl
    rw [e, bn_t]
  · rw [if_neg (show ¬ nI 6 = 0 by decide), if_neg (show ¬ nI 6 = 1 by decide), if_neg (show ¬ nI 6 = 2 by decide), if_neg (show ¬ nI 6 = 3 by decide), if_neg (show ¬ nI 6 = 4 by decide), if_neg (show ¬ nI 6 = 5 by decide), if_pos (show nI 6 = 6 from rfl), if_neg (by decide), if_neg (by decide), if_neg (by decide), if_neg (by decide), ek_thK (G := fun j => ek_fl n F K S' L' 6 j) hN (by omega) (by omega) hH (fun j hj => by unfold ek_fl; simp), bn_t]
  · rw [if_neg (show ¬ nI 7 = 0 by decide), if_neg (show ¬ nI 7 = 1 by decide), if_neg (show ¬ nI 7 = 2 by decide), if_neg (show ¬ nI 7 = 3 by decide), if_neg (show ¬ nI 7 = 4 by decide), if_neg (show ¬ nI 7 = 5 by decide), if_neg (show ¬ nI 7 = 6 by decide), if_pos (show nI 7 = 7 from rfl), if_neg (by decide), if_neg (by decide), if_neg (by decide), if_neg (by decide), ek_thK (G := fun j => ek_fl n F K S' L' 7 j) hN (by omega) (by omega) hT (fun j hj => by
      unfold ek_fl
      by_cases q : L' j < 0
      · have q2 : ¬ 0 ≤ L' j := Int32.not_le.mpr q
        simp [q, q2]
      · have q2 : 0 ≤ L' j := Int32.not_lt.mp q
        simp [q, q2]), bn_t]
theorem r_count {N n : Nat} {F D K S C S' C' Lx Tx L' T' : Nat → Int32} {c ho ym h0 t0 h1 t1 h2 t2 : Int32} (hN : 5000 ≤ N) (hD : ek_D n F D) (hc : ek_sub n c) (hH : ek_H 6 40 S C S' C') (hT : ek_H 4 100 Lx Tx L' T') (hK : ∀ j, j < 3 → (p_X11_hourKept h0 t0 h1 t1 h2 t2 (nI j) = -1 ↔ K (50 * j) = -9)) (x : Int32) :
    ∃ o, f_X11_count N S Lx (nI n) F ho c h0 t0 h1 t1 h2 t2 ym x = some o ∧ f_X12_count N (nI n) c ho ym S' L' D K x = some o := by
  rcases ek_what x 7 (by decide) 7 8 rfl rfl with ⟨f1, f2⟩ | ⟨w, hw, rfl, f1, f2, f3, f4⟩
  · have hne : ∀ j, j < 8 → ¬ x = nI j := by
      intro j hj e
      subst e
      rcases f2 with q | ⟨q1, q2, q3⟩
      · exact nI_pos (by omega) q
      · exact q2 (nI_lt (b := 8) hj (by omega))
    refine ⟨-1, ?_, ?_⟩
    · unfold f_X11_count
      rw [if_neg (show ¬ x = 0 from hne 0 (by omega)), if_neg (show ¬ x = 1 from hne 1 (by omega)), if_neg (show ¬ x = 2 from hne 2 (by omega)), if_neg (show ¬ x = 3 from hne 3 (by omega)), if_neg (show ¬ x = 4 from hne 4 (by omega)), if_neg (show ¬ x = 5 from hne 5 (by omega)), if_neg (show ¬ x = 6 from hne 6 (by omega)), if_neg (show ¬ x = 7 from hne 7 (by omega))]
    · unfold f_X12_count; rw [if_pos f1]
  · refine ⟨_, ek_countX hN hD hc hH hT hK hw, ?_⟩
    unfold f_X12_count; rw [if_neg f1, ek_countM hN hD hw, bn_t]
