/-! ask: the model's likeliest desk -/
theorem ek_lbM {N n H : Nat} {D g w hs : Nat → Int32} {W Wn : Nat → Int64} {la na li ho st ru at_ ib ak cr wm wt e1 e2 e3 e4 e5 x2 x3 x5 c : Int32} {aw x6 : Int64} {A : Nat → Nat} (hN : 5000 ≤ N) (hn : n ≤ 9) (hM : ek_M W A) (hb : ∀ d, d < n → ek_pd A H st d < 2 ^ 60) :
    ∀ k150, f_X12_ask_b98 N k150 (nI n) la na li ho st ru at_ ib D N ak cr wm wt e1 e2 e3 e4 e5 (lN H) aw g w hs W Wn x2 x3 c x5 x6 (-9) 0 = k150 ak cr wm wt e1 e2 e3 e4 e5 (lN H) aw g w hs W Wn x2 x3 c x5 x6 (match ek_lb (ek_pd A H st) c n with | none => -9 | some b => nI b) := by
  intro k150
  refine ek_forI (fun n2 z (t : Int32) => f_X12_ask_b98 N k150 (nI n) la na li ho st ru at_ ib D n2 ak cr wm wt e1 e2 e3 e4 e5 (lN H) aw g w hs W Wn x2 x3 c x5 x6 t z) (fun j t => t = (match ek_lb (ek_pd A H st) c j with | none => (-9 : Int32) | some b => nI b)) n N (by omega) ?_ (-9) rfl (fun r => r = k150 ak cr wm wt e1 e2 e3 e4 e5 (lN H) aw g w hs W Wn x2 x3 c x5 x6 (match ek_lb (ek_pd A H st) c n with | none => -9 | some b => nI b)) ?_
  · intro n2 j t hj hI
    refine ⟨_, ?_, rfl⟩
    subst hI
    try simp only
    rw [f_X12_ask_b98, if_neg (nI_ge hj (by omega)), ek_has c (show j < 32 by omega)]
    unfold f_X12_ask_b140 f_X12_ask_b144
    rw [nI_1, ek_lb]
    cases e : ek_bt c j
    · simp only [Bool.false_eq_true, if_false, if_true]
      cases q : ek_lb (ek_pd A H st) c j with
      | none =>
        simp only [if_true]
      | some b =>
        have hbj := (ek_lbb _ c j b q).1
        have n9 : ¬ nI b = -9 := (ek_neg (z := (-9 : Int32)) (k := -9) (by decide) (by decide) (by omega)).2.2.2.2.2
        have hle := pk_lLE (a := ek_pd A H st j) (b := ek_pd A H st b) (Nat.lt_trans (hb j hj) (by decide)) (Nat.lt_trans (hb b (by omega)) (by decide))
        try simp only
        rw [if_neg n9, ek_partM (st := st) hN (show j < 9 by omega) hM, bn_t, ek_partM (st := st) hN (show b < 9 by omega) hM, bn_t]
        by_cases y : ek_pd A H st j ≤ ek_pd A H st b
        · have y' : lN ((if nI j = st then H else 0) + ek_pa A j) ≤ lN ((if nI b = st then H else 0) + ek_pa A b) := hle.mpr y
          rw [if_pos y', if_pos y]
        · have y' : ¬ lN ((if nI j = st then H else 0) + ek_pa A j) ≤ lN ((if nI b = st then H else 0) + ek_pa A b) := fun z => y (hle.mp z)
          rw [if_neg y', if_neg y]
    · simp only [if_true]
      rw [if_neg (show ¬ (1 : Int32) = 0 by decide)]
  · intro n2 t hI
    subst hI
    try simp only
    rw [f_X12_ask_b98, if_pos (nI_le (Nat.le_refl _) (by omega))]
