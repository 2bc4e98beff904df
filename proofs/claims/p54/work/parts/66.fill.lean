/-! fill, starts -/
theorem ek_bsg {c : Int32} {i j : Nat} (hi : i < 32) (hj : j < 32) : ek_bt (ek_sg c i) j = (ek_bt c j || decide (i = j)) := ek_bset c hi hj
theorem r_fill {N n : Nat} {F D g w hs g' w' hs' A : Nat → Int32} {la na li ho c wm wt a1 a2 a3 a4 a5 a6 : Int32} (hN : 5000 ≤ N) (hD : ek_D n F D) (hT : ek_T la na li) (hB : ek_B n c g w) (he : ∀ i, i < 9 → hs' i = hs i ∧ g' i = g i ∧ w' i = w i) (x : Int32) :
    ∃ o o', f_X11_fill N (nI n) F c la na li g a1 a2 a3 a4 a5 a6 x = some o ∧ f_X12_fill N (nI n) la na li ho D c wm wt g' w' hs' A x = some o' ∧ o.1 = o'.1 ∧ o'.2.1 = c ∧ ∀ i, i < 9 → o'.2.2.2.2.2.2.1 i = hs i ∧ o'.2.2.2.2.1 i = g i ∧ o'.2.2.2.2.2.1 i = w i := by
  have hn := hD.1
  have hB' : ek_B n c g' w' := ek_Beq hB (fun i hi => (he i hi).2)
  have hpt : ek_pt c g' n = ek_pt c g n := ek_ptext (fun k hk _ => (he k (by omega)).2.1)
  rcases ek_what x 999 (by decide) 999 1000 rfl rfl with ⟨f1, f2⟩ | ⟨v, hv, rfl, f1, f2, f3, f4⟩
  · apply ek_mk2
    · unfold f_X11_fill
      rcases f2 with q | ⟨q1, q2, q3⟩
      · rw [if_pos q]
      · rw [if_neg q1, if_neg q3]
    · unfold f_X12_fill; rw [if_pos f1]
    · exact ⟨rfl, rfl, he⟩
  obtain ⟨A2, p1, p2, p3⟩ := ek_aside (c := c) (g := g') (w := w') (h := hs') (A := A) hN
  have ex : f_X11_fill N (nI n) F c la na li g a1 a2 a3 a4 a5 a6 (nI v) = f_X11_fill_b26 N (nI n) F c la na li g N la na li (ek_pt c g n).1 (ek_pt c g n).2.1 (ek_pt c g n).2.2 (nI v) 0 := by
    unfold f_X11_fill; rw [if_neg f2, if_pos f4, ek_layX5 hN, bn_t, ek_ptn hB.1 g hn]
  have em : f_X12_fill N (nI n) la na li ho D c wm wt g' w' hs' A (nI v) = f_X12_fill_b19 N (f_X12_fill_b49 N (nI n) la na li ho D) (nI n) la na li ho D N c wm wt g' w' hs' A2 (nI v) 0 := by
    unfold f_X12_fill; rw [if_neg f1, p1, bn_t]
  rw [ex, em]
  refine ek_for2 (fun n2 y (s : Int32 × Int32 × Int32) => f_X11_fill_b26 N (nI n) F c la na li g n2 la na li s.1 s.2.1 s.2.2 (nI v) y) (fun n2 y (t : Int32 × Int32 × Int32 × (Nat → Int32) × (Nat → Int32) × (Nat → Int32)) => f_X12_fill_b19 N (f_X12_fill_b49 N (nI n) la na li ho D) (nI n) la na li ho D n2 t.1 t.2.1 t.2.2.1 t.2.2.2.1 t.2.2.2.2.1 t.2.2.2.2.2 A2 (nI v) y) (fun k s t => s = ek_pt t.1 t.2.2.2.1 n ∧ ek_B n t.1 t.2.2.2.1 t.2.2.2.2.1 ∧ ∀ i, k ≤ i → i < 9 → ek_bt t.1 i = ek_bt c i) n N (by omega) ?_ (ek_pt c g n) (c, wm, wt, g', w', hs') ⟨hpt.symm, hB', fun i _ _ => rfl⟩ (fun a b => ∃ o o', a = some o ∧ b = some o' ∧ o.1 = o'.1 ∧ o'.2.1 = c ∧ ∀ i, i < 9 → o'.2.2.2.2.2.2.1 i = hs i ∧ o'.2.2.2.2.1 i = g i ∧ o'.2.2.2.2.2.1 i = w i) ?_
  · rintro n2 k s ⟨c1, t2, t3, gg, ww, hh⟩ hk ⟨i1, i2, i3⟩
    simp only at i1 i2 i3
    subst i1
    cases hb : ek_bt c k
    · have hb1 : ek_bt c1 k = false := by rw [i3 k (Nat.le_refl _) (by omega)]; exact hb
      obtain ⟨m1, m2, e⟩ := ek_puts (N := N) (hour := ho) (a := t2) (b := t3) (hs := hh) hN hD hT i2 hk
      have hpu := ek_pu1pt (la := la) (na := na) (li := li) (ho := ho) (F := F) (s := (c1, gg, ww, hh)) hn hk hb1
      refine ⟨ek_tk (ek_pt c1 gg n) (ek_gv la na li (ek_ds F k) (ek_pt c1 gg n)), (ek_sg c1 k, m1, m2, upd gg k (ek_G n la na li F c1 gg k), upd ww k (ek_W n F c1 ww k), upd hh k ho), ?_, ?_, hpu.symm, ek_Bset hn hD.2.2 hT i2 hk, ?_⟩
      · try simp only
        rw [f_X11_fill_b26, if_neg (nI_ge hk (by omega)), ek_isC c (by omega), if_neg (show ¬ ek_bt c k = true by rw [hb]; decide), if_pos rfl, ek_gvX hn hk, bn_t, nm_t, ek_take]
        unfold f_X11_fill_b67
        rw [nI_1]
      · try simp only
        rw [f_X12_fill_b19, if_neg (nI_ge hk (by omega)), ek_has c1 (by omega), if_neg (show ¬ ek_bt c1 k = true by rw [hb1]; decide), if_pos rfl, e, bn_t]
        unfold f_X12_fill_b43
        rw [nI_1]; rfl
      · intro i hi h9
        try simp only
        rw [ek_bsg (by omega) (by omega), i3 i (by omega) h9, decide_eq_false (by omega), Bool.or_false]
    · have hb1 : ek_bt c1 k = true := by rw [i3 k (Nat.le_refl _) (by omega)]; exact hb
      refine ⟨ek_pt c1 gg n, (c1, t2, t3, gg, ww, hh), ?_, ?_, rfl, i2, fun i hi h9 => i3 i (by omega) h9⟩
      · try simp only
        rw [f_X11_fill_b26, if_neg (nI_ge hk (by omega)), ek_isC c (by omega), if_pos hb, if_neg (by decide)]
        unfold f_X11_fill_b67
        rw [nI_1]
      · try simp only
        rw [f_X12_fill_b19, if_neg (nI_ge hk (by omega)), ek_has c1 (by omega), if_pos hb1, if_neg (by decide)]
        unfold f_X12_fill_b43
        rw [nI_1]
  · rintro n2 s ⟨c1, t2, t3, gg, ww, hh⟩ ⟨i1, i2, i3⟩
    simp only at i1 i2 i3
    subst i1
    obtain ⟨g4, w4, h4, b1', b2'⟩ := ek_back (c := c1) (g := gg) (w := ww) (h := hh) (A := A2) hN
    obtain ⟨T, G, Lq, q, h1, h2, h3⟩ := ek_okpt (c := c1) (g := gg) (m := n) hn (fun k hk => i2.2.1 k (by omega))
    try simp only
    have hend : f_X12_fill_b19 N (f_X12_fill_b49 N (nI n) la na li ho D) (nI n) la na li ho D (n2 + 1) c1 t2 t3 gg ww hh A2 (nI v) (nI n) = some (if nI v ≤ nI T then 0 else nI v - nI T, A2 27, t2, t3, g4, w4, h4, A2) := by
      rw [f_X12_fill_b19, if_pos (nI_le (Nat.le_refl _) (by omega))]
      unfold f_X12_fill_b49
      rw [ek_coinsM hN hn, bn_t, b1', bn_t, q]
      try simp only
      by_cases z : nI v ≤ nI T
      · rw [if_pos z, if_pos z]
      · rw [if_neg z, if_neg z]
    rw [hend]
    apply ek_mk2
    · rw [f_X11_fill_b26, if_pos (nI_le (Nat.le_refl _) (by omega)), q]
    · rfl
    · refine ⟨?_, p2, fun i hi => ?_⟩
      · show (if (0 : Int32) < (nI v - nI T) then (nI v - nI T) else 0) = (if nI v ≤ nI T then 0 else nI v - nI T)
        have e1 := ek_subT (a := v) (b := T) (by omega) (by omega)
        by_cases z : v ≤ T
        · rw [if_pos (nI_le z (by omega)), if_neg]
          rw [Int32.lt_iff_toInt_lt, e1, show (0 : Int32).toInt = 0 from by decide]; omega
        · rw [if_neg (nI_ge (by omega) (by omega)), if_pos]
          rw [Int32.lt_iff_toInt_lt, e1, show (0 : Int32).toInt = 0 from by decide]; omega
      · obtain ⟨r1, r2, r3⟩ := b2' i hi
        obtain ⟨s1, s2, s3⟩ := p3 i hi
        obtain ⟨u1, u2, u3⟩ := he i hi
        exact ⟨r3.trans (s3.trans u1), r1.trans (s1.trans u2), r2.trans (s2.trans u3)⟩
theorem ek_cwset {n i : Nat} {c c' : Int32} {w w' : Nat → Int32} (x : Int32) (hb : ek_bt c i = false) (hi : i < n) (hn : n ≤ 9) (hc : ∀ j, j < 9 → ek_bt c' j = (ek_bt c j || decide (i = j))) (hw : ∀ j, j < 9 → j ≠ i → w' j = w j) : ek_cw c' w' n x = if w' i = x then ek_cw c w n x + 1 else ek_cw c w n x := by
  have := ek_fins (fun (s : Int32) (a : Int32) => if a = x then s + 1 else s) (fun s a b => by
    by_cases p : a = x
    · by_cases q : b = x
      · simp only [if_pos p, if_pos q]
      · simp only [if_pos p, if_neg q]
    · by_cases q : b = x
      · simp only [if_neg p, if_pos q]
      · simp only [if_neg p, if_neg q]) (c := c) (c' := c') (v := w) (v' := w') (s := (0 : Int32)) hb (m := n) hi (fun j hj => hc j (by omega)) (fun j hj => hw j (by omega))
  unfold ek_cw
  exact this
theorem ek_tadd {n i v : Nat} {c c' : Int32} {w w' t : Nat → Int32} (hv : v ≤ 9) (hb : ek_bt c i = false) (hi : i < n) (hn : n ≤ 9) (hc : ∀ j, j < 9 → ek_bt c' j = (ek_bt c j || decide (i = j))) (hw : ∀ j, j < 9 → j ≠ i → w' j = w j) (hwi : w' i = nI v) (ht : ∀ j, j < 10 → t j = ek_cw c w n (nI j)) : ∀ j, j < 10 → p_X0_add t (nI v) j = ek_cw c' w' n (nI j) := by
  intro j hj
  rw [ek_add hv, ek_cwset (nI j) hb hi hn hc hw, hwi]
  unfold upd
  by_cases e : j = v
  · subst e; rw [if_pos rfl, if_pos rfl, ht j hj]
  · rw [if_neg e, if_neg (fun q => e ((nI_eq (by omega) (by omega)).mp q).symm), ht j hj]
