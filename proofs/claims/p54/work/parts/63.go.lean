/-! go -/
theorem ek_hourM {N n pl k x n' : Nat} {F D g w hs : Nat → Int32} {st ru ho la na li c wm wt e1 e2 e3 e4 e5 : Int32} {lot : Int64} (hN : 5000 ≤ N) (hD : ek_D n F D) (hr : ru = 0 ∨ ru = 1 ∨ ru = 2) (hT : ek_T la na li) (hpl : pl < n) (hB : ek_B n c g w) (hk : k < x) (hx : x ≤ 60) {R : List Nat × Nat × Int32 × Int32 × Int32} (hR : ek_ph n F ru ho 9 pl c = R) {S : Int32 × (Nat → Int32) × (Nat → Int32) × (Nat → Int32)} (hS : ek_pls n la na li F ho R.1 (c, g, w, hs) = S) :
    ∃ wm' wt' e1' e2' e3' e4' e5', f_X12_go_b53 N (nI n) la na li st ru D (n' + 1) c wm wt ho (nI pl) 0 e1 e2 e3 e4 e5 g w hs (nI x) lot (nI k) = f_X12_go_b53 N (nI n) la na li st ru D n' S.1 wm' wt' (ho + 1) (ek_hr st lot R.2.1 R.2.2.2.1 R.2.2.2.2).2.1 (ek_hr st lot R.2.1 R.2.2.2.1 R.2.2.2.2).2.2 e1' e2' e3' e4' e5' S.2.1 S.2.2.1 S.2.2.2 (nI x) (ek_hr st lot R.2.1 R.2.2.2.1 R.2.2.2.2).1 (nI (k + 1)) := by
  have hn := hD.1
  obtain ⟨wm1, wt1, to1, S1, r1, r2, r3⟩ := ek_phM (F := F) (D := D) (ru := ru) (h := ho) (law := la) (named := na) (linked := li) (hour := ho) (began := st) (tr := 1) hN hD hr hT 9 pl c c wm wt e5 g w hs N (by omega) hpl hB.1 (ek_en9 hn hpl) (Or.inr ⟨rfl, rfl, hB⟩)
  obtain ⟨q1, q2, q3, q4, q5, q6, q7⟩ := ek_phb (F := F) (ru := ru) (h := ho) hn hD.2.2 9 pl c hpl hB.1
  rw [if_neg (by decide)] at r3
  rw [hR] at r1 r2 r3 q3 q4 q5
  obtain ⟨l, pl', c', tg, hp⟩ := R
  simp only at r1 r2 r3 q3 q4 q5 hS
  rw [hS] at r3
  subst r3
  rw [f_X12_go_b53, if_neg (nI_ge hk (by omega)), if_pos rfl]
  unfold f_X12_passHour
  rw [r1, bn_t]
  simp only
  rw [Int64.mul_comm (48271 : Int64) lot]
  have hV : ∃ V, ek_lot lot = V ∧ ((lot * (48271 : Int64)) - (lot * (48271 : Int64)) / (2147483647 : Int64) * (2147483647 : Int64)) = V := ⟨_, rfl, by unfold ek_lot; exact Eq.refl _⟩
  obtain ⟨V, hV1, hV2⟩ := hV
  unfold ek_hr
  rw [hV1, hV2, nm_t]
  clear hV1 hV2
  unfold f_X12_go_b149 f_X12_go_b171 f_X12_go_b174
  rw [nI_1]
  have h12 : ((-1 : Int32)) ≠ -2 := by decide
  by_cases h0 : hp = 0
  · subst h0
    have em : (ek_me st pl' tg 0).2.2 = 0 ∧ ((ek_me st pl' tg 0).2.1 = 0 ∨ (ek_me st pl' tg 0).2.1 = 1) ∧ ((ek_me st pl' tg 0).1, (ek_me st pl' tg 0).2.1) = ek_mv st pl' tg := by
      unfold ek_me ek_mv
      rw [if_pos rfl]
      by_cases t2 : tg = -2
      · rw [if_pos t2, if_pos t2]; exact ⟨rfl, Or.inr rfl, rfl⟩
      · rw [if_neg t2, if_neg t2]
        by_cases t1 : tg = -1
        · rw [if_pos t1, if_pos t1]; exact ⟨rfl, Or.inl rfl, rfl⟩
        · rw [if_neg t1, if_neg t1]; exact ⟨rfl, Or.inl rfl, rfl⟩
    obtain ⟨m1, m2, m3⟩ := em
    rw [gd_t m2, if_pos (show (ek_me st pl' tg 0).2.2 ≤ 0 by rw [m1]; decide), if_pos rfl, ← m3]
    exact ⟨_, _, _, _, _, _, _, rfl⟩
  · have em : ek_me st pl' tg hp = (nI pl', 0, hp) := by unfold ek_me; rw [if_neg h0]
    obtain ⟨z, hz, ez⟩ := q4
    have zp : 0 < z := by
      rcases Nat.eq_zero_or_pos z with w | w
      · exact absurd (by rw [ez, w]; rfl) h0
      · exact w
    rw [em, gd_t (Or.inl rfl), if_neg (show ¬ (nI pl', (0 : Int32), hp).2.2 ≤ 0 by rw [ez]; exact nI_nle zp (by omega)), if_neg h0, r2 h0]
    by_cases h1 : hp.toInt64 ≤ (V - V / (12 : Int64) * (12 : Int64))
    · rw [if_pos h1, if_pos h1]
      unfold ek_mv
      rw [if_neg h12, if_pos rfl]
      exact ⟨_, _, _, _, _, _, _, rfl⟩
    · rw [if_neg h1, if_neg h1]
      unfold ek_mv
      rcases q3 with t2 | t1 | ⟨f, hf, tf⟩
      · rw [if_pos t2, if_pos t2, if_pos rfl, gd_t (Or.inr rfl), if_neg (by decide)]
        exact ⟨_, _, _, _, _, _, _, rfl⟩
      · exact absurd (q5 t1) h0
      · have nf9 : ¬ nI f = -9 := (ek_neg (z := (-9 : Int32)) (k := -9) (by decide) (by decide) (by omega)).2.2.2.2.2
        have nf2 : ¬ nI f = -2 := (ek_neg (z := (-2 : Int32)) (k := -2) (by decide) (by decide) (by omega)).2.2.2.2.2
        have nf1 : ¬ nI f = -1 := (ek_neg ek_m1 (by decide) (by omega)).2.2.2.2.2
        rw [tf, if_neg nf2, if_neg nf2, if_neg nf1, if_neg nf9, gd_t (Or.inl rfl), if_pos rfl]
        exact ⟨_, _, _, _, _, _, _, rfl⟩
theorem ek_hrb {n pl : Nat} {st tg hp : Int32} {lot : Int64} (hst : ∃ i, i < n ∧ st = nI i) (hpl : pl < n) (ht : tg = -2 ∨ tg = -1 ∨ ∃ f, f < n ∧ tg = nI f) : (∃ i, i < n ∧ (ek_hr st lot pl tg hp).2.1 = nI i) ∧ ((ek_hr st lot pl tg hp).2.2 = 0 ∨ (ek_hr st lot pl tg hp).2.2 = 1) := by
  have mv : ∀ tg : Int32, (tg = -2 ∨ tg = -1 ∨ ∃ f, f < n ∧ tg = nI f) → (∃ i, i < n ∧ (ek_mv st pl tg).1 = nI i) ∧ ((ek_mv st pl tg).2 = 0 ∨ (ek_mv st pl tg).2 = 1) := by
    intro tg ht
    unfold ek_mv
    by_cases t2 : tg = -2
    · rw [if_pos t2]; exact ⟨hst, Or.inr rfl⟩
    · rw [if_neg t2]
      by_cases t1 : tg = -1
      · rw [if_pos t1]; exact ⟨⟨pl, hpl, rfl⟩, Or.inl rfl⟩
      · rw [if_neg t1]
        rcases ht with q | q | q
        · exact absurd q t2
        · exact absurd q t1
        · exact ⟨q, Or.inl rfl⟩
  unfold ek_hr
  by_cases h0 : hp = 0
  · rw [if_pos h0]; exact mv tg ht
  · rw [if_neg h0]
    generalize ek_lot lot = V
    by_cases h1 : hp.toInt64 ≤ (V - V / (12 : Int64) * (12 : Int64))
    · rw [if_pos h1]; exact mv _ (Or.inr (Or.inl rfl))
    · rw [if_neg h1]; exact mv tg ht
theorem r_go {N n : Nat} {F D hs g w hs' g' w' sg t : Nat → Int32} {st ru ho la na li at_ ib c wm wt e1 e2 e3 e4 e5 a1 a2 a3 a4 a5 b1 b2 b3 b4 b5 b6 : Int32} (hN : 5000 ≤ N) (hD : ek_D n F D) (hR : ek_RB n st ru at_ ib ho c la na li g w) (he : ∀ i, i < 9 → hs' i = hs i ∧ g' i = g i ∧ w' i = w i) (x1 x2 : Int32) :
    ∃ o o', f_X11_go N (nI n) F st ru la na li at_ ib ho c hs g w a1 a2 a3 a4 a5 sg b1 b2 b3 b4 b5 b6 t x1 x2 = some o ∧ f_X12_go N (nI n) la na li st ru D c wm wt ho at_ ib e1 e2 e3 e4 e5 g' w' hs' x1 x2 = some o' ∧ o.1 = o'.1 ∧ ek_R n st ru o.2.1 o.2.2.1 o.2.2.2.1 o.2.2.2.2.1 la na li o.2.2.2.2.2.1 o.2.2.2.2.2.2.1 o.2.2.2.2.2.2.2.1 st ru o'.2.2.2.2.2.1 o'.2.2.2.2.2.2.1 o'.2.2.2.2.1 o'.2.1 la na li o'.2.2.2.2.2.2.2.2.2.2.2.2.2.2 o'.2.2.2.2.2.2.2.2.2.2.2.2.1 o'.2.2.2.2.2.2.2.2.2.2.2.2.2.1 := by
  have hn := hD.1
  have hRR : ek_R n st ru at_ ib ho c la na li hs g w st ru at_ ib ho c la na li hs' g' w' := ⟨⟨rfl, rfl, rfl, rfl, rfl, rfl, rfl, rfl, rfl⟩, he, hR⟩
  have h2147 : (2147483647 : Int64) = lN 2147483647 := rfl
  rcases ek_what x1 60 (by decide) 60 61 rfl rfl with ⟨f1, f2⟩ | ⟨x, hx, rfl, f1, f2, f3, f4⟩
  · have h60 : x1 < 0 ∨ (¬ x1 < 0 ∧ 60 < x1) := by
      rcases f2 with q | ⟨q1, q2, q3⟩
      · exact Or.inl q
      · exact Or.inr ⟨q1, Int32.not_le.mp q3⟩
    apply ek_mk2
    · unfold f_X11_go
      rcases h60 with q | ⟨q1, q2⟩
      · rw [if_pos q]
      · rw [if_neg q1, if_pos q2]
    · unfold f_X12_go; rw [if_pos f1]
    · exact ⟨rfl, hRR⟩
  have g2 : ¬ (60 : Int32) < nI x := Int32.not_lt.mpr f4
  by_cases y1 : x2 < 1
  · apply ek_mk2
    · unfold f_X11_go; rw [if_neg f2, if_neg g2, if_pos y1]
    · unfold f_X12_go; rw [if_neg f1, if_pos (show p_X12_in x2 1 2147483646 = 0 by unfold p_X12_in; rw [if_pos y1])]
    · exact ⟨rfl, hRR⟩
  have hx2 : ∃ s, s < 2 ^ 31 ∧ x2 = nI s := by
    refine nI_of (fun q => y1 ?_)
    exact of_eq_true (ek_ng q (a := 1) (by decide)).1
  obtain ⟨sd, hsd, esd⟩ := hx2
  by_cases y2 : (x2.toInt64) < (2147483647 : Int64)
  rotate_left
  · have hb : (2147483646 : Int32) < x2 := by
      rw [esd, nI_l hsd, h2147, pk_lLT (by omega) (by omega)] at y2
      rw [esd]; exact nI_lt (a := 2147483646) (by omega) hsd
    apply ek_mk2
    · unfold f_X11_go; rw [if_neg f2, if_neg g2, if_neg y1, if_neg y2]
    · unfold f_X12_go; rw [if_neg f1, if_pos (show p_X12_in x2 1 2147483646 = 0 by unfold p_X12_in; rw [if_neg y1, if_pos hb])]
    · exact ⟨rfl, hRR⟩
  have hin : ¬ p_X12_in x2 1 2147483646 = 0 := by
    have hb : ¬ (2147483646 : Int32) < x2 := by
      rw [esd, nI_l hsd, h2147, pk_lLT (by omega) (by omega)] at y2
      rw [esd]; exact nI_nlt (a := 2147483646) (by omega) (by decide)
    unfold p_X12_in; rw [if_neg y1, if_neg hb]; decide
  by_cases h0n : nI n = 0
  · apply ek_mk2
    · unfold f_X11_go; rw [if_neg f2, if_neg g2, if_neg y1, if_pos y2, if_pos h0n]
    · unfold f_X12_go; rw [if_neg f1, if_neg hin, if_pos h0n]
    · exact ⟨rfl, hRR⟩
  have hn0 : 0 < n := by
    rcases Nat.eq_zero_or_pos n with q | q
    · exact absurd (by rw [q]; rfl) h0n
    · exact q
  by_cases hsum : ho + nI x ≤ 1000
  rotate_left
  · apply ek_mk2
    · unfold f_X11_go; rw [if_neg f2, if_neg g2, if_neg y1, if_pos y2, if_neg h0n, if_neg hsum]
    · unfold f_X12_go; rw [if_neg f1, if_neg hin, if_neg h0n, if_neg hsum]
    · exact ⟨rfl, hRR⟩
  obtain ⟨⟨i0, hi0, est, hi02⟩, hru, ⟨i1, hi1, eat, hi12⟩, hib, ⟨h0, hh0, eho⟩, hT, hB⟩ := hR
  have hst : ∃ i, i < n ∧ st = nI i := ⟨i0, by omega, est⟩
  have hx1000 : h0 + x ≤ 1000 := by
    rw [eho, nI_add] at hsum
    exact (nI_leI (a := h0 + x) (b := 1000) (by omega) (by omega)).mp hsum
  have ex : f_X11_go N (nI n) F st ru la na li at_ ib ho c hs g w a1 a2 a3 a4 a5 sg b1 b2 b3 b4 b5 b6 t (nI x) x2 = f_X11_go_b63 N (nI n) F st ru la na li N at_ ib ho c hs g w a1 a2 a3 a4 a5 sg b1 b2 b3 b4 b5 b6 t (nI x) x2.toInt64 0 := by
    unfold f_X11_go; rw [if_neg f2, if_neg g2, if_neg y1, if_pos y2, if_neg h0n, if_pos hsum, nm_t]
  have em : f_X12_go N (nI n) la na li st ru D c wm wt ho at_ ib e1 e2 e3 e4 e5 g' w' hs' (nI x) x2 = f_X12_go_b53 N (nI n) la na li st ru D N c wm wt ho at_ ib e1 e2 e3 e4 e5 g' w' hs' (nI x) x2.toInt64 0 := by
    unfold f_X12_go; rw [if_neg f1, if_neg hin, if_neg h0n, if_pos hsum, nm_t]
  rw [ex, em]
  refine ek_for2 (fun n2 y (s : Int32 × Int32 × Int32 × Int32 × (Nat → Int32) × (Nat → Int32) × (Nat → Int32) × Int32 × Int32 × Int32 × Int32 × Int32 × (Nat → Int32) × Int32 × Int32 × Int32 × Int32 × Int32 × Int32 × (Nat → Int32) × Int64) => f_X11_go_b63 N (nI n) F st ru la na li n2 s.1 s.2.1 s.2.2.1 s.2.2.2.1 s.2.2.2.2.1 s.2.2.2.2.2.1 s.2.2.2.2.2.2.1 s.2.2.2.2.2.2.2.1 s.2.2.2.2.2.2.2.2.1 s.2.2.2.2.2.2.2.2.2.1 s.2.2.2.2.2.2.2.2.2.2.1 s.2.2.2.2.2.2.2.2.2.2.2.1 s.2.2.2.2.2.2.2.2.2.2.2.2.1 s.2.2.2.2.2.2.2.2.2.2.2.2.2.1 s.2.2.2.2.2.2.2.2.2.2.2.2.2.2.1 s.2.2.2.2.2.2.2.2.2.2.2.2.2.2.2.1 s.2.2.2.2.2.2.2.2.2.2.2.2.2.2.2.2.1 s.2.2.2.2.2.2.2.2.2.2.2.2.2.2.2.2.2.1 s.2.2.2.2.2.2.2.2.2.2.2.2.2.2.2.2.2.2.1 s.2.2.2.2.2.2.2.2.2.2.2.2.2.2.2.2.2.2.2.1 (nI x) s.2.2.2.2.2.2.2.2.2.2.2.2.2.2.2.2.2.2.2.2 y) (fun n2 y (t : Int32 × Int32 × Int32 × Int32 × Int32 × Int32 × Int32 × Int32 × Int32 × Int32 × Int32 × (Nat → Int32) × (Nat → Int32) × (Nat → Int32) × Int64) => f_X12_go_b53 N (nI n) la na li st ru D n2 t.1 t.2.1 t.2.2.1 t.2.2.2.1 t.2.2.2.2.1 t.2.2.2.2.2.1 t.2.2.2.2.2.2.1 t.2.2.2.2.2.2.2.1 t.2.2.2.2.2.2.2.2.1 t.2.2.2.2.2.2.2.2.2.1 t.2.2.2.2.2.2.2.2.2.2.1 t.2.2.2.2.2.2.2.2.2.2.2.1 t.2.2.2.2.2.2.2.2.2.2.2.2.1 t.2.2.2.2.2.2.2.2.2.2.2.2.2.1 (nI x) t.2.2.2.2.2.2.2.2.2.2.2.2.2.2 y) (fun k s t => (t.2.2.2.2.2.2.2.2.2.2.2.2.2.2 = s.2.2.2.2.2.2.2.2.2.2.2.2.2.2.2.2.2.2.2.2 ∧ t.2.2.2.2.1 = s.1 ∧ t.2.2.2.2.2.1 = s.2.1 ∧ t.2.2.2.1 = s.2.2.1 ∧ t.1 = s.2.2.2.1) ∧ (∀ i, i < 9 → t.2.2.2.2.2.2.2.2.2.2.2.2.2.1 i = s.2.2.2.2.1 i ∧ t.2.2.2.2.2.2.2.2.2.2.2.1 i = s.2.2.2.2.2.1 i ∧ t.2.2.2.2.2.2.2.2.2.2.2.2.1 i = s.2.2.2.2.2.2.1 i) ∧ (∃ i, i < n ∧ s.1 = nI i) ∧ (s.2.1 = 0 ∨ s.2.1 = 1) ∧ s.2.2.1 = nI (h0 + k) ∧ ek_B n s.2.2.2.1 s.2.2.2.2.2.1 s.2.2.2.2.2.2.1) x N (by omega) ?_ (at_, ib, ho, c, hs, g, w, a1, a2, a3, a4, a5, sg, b1, b2, b3, b4, b5, b6, t, x2.toInt64) (c, wm, wt, ho, at_, ib, e1, e2, e3, e4, e5, g', w', hs', x2.toInt64) ?_ (fun a b => ∃ o o', a = some o ∧ b = some o' ∧ o.1 = o'.1 ∧ ek_R n st ru o.2.1 o.2.2.1 o.2.2.2.1 o.2.2.2.2.1 la na li o.2.2.2.2.2.1 o.2.2.2.2.2.2.1 o.2.2.2.2.2.2.2.1 st ru o'.2.2.2.2.2.1 o'.2.2.2.2.2.2.1 o'.2.2.2.2.1 o'.2.1 la na li o'.2.2.2.2.2.2.2.2.2.2.2.2.2.2 o'.2.2.2.2.2.2.2.2.2.2.2.2.1 o'.2.2.2.2.2.2.2.2.2.2.2.2.2.1) ?_
  · rintro n2 k ⟨s_at, s_ib, s_ho, s_c, s_hs, s_g, s_w, s_a1, s_a2, s_a3, s_a4, s_a5, s_sg, s_b1, s_b2, s_b3, s_b4, s_b5, s_b6, s_t, s_lot⟩ ⟨m_c, m_wm, m_wt, m_ho, m_at, m_ib, m_e1, m_e2, m_e3, m_e4, m_e5, m_g, m_w, m_hs, m_lot⟩ hk hI
    simp only at hI
    obtain ⟨⟨q1, q2, q3, q4, q5⟩, q6, ⟨p, hp, q7⟩, q8, q9, q10⟩ := hI
    subst q1 q2 q3 q4 q5
    rcases q8 with hb0 | hb1
    · subst q7 hb0
      obtain ⟨u_a1, u_a2, u_a3, u_a4, u_a5, u_sg, u_b1, u_b2, u_b3, u_b4, u_b5, u_b6, u_t, r1⟩ := ek_hourX (N := N) (F := F) (st := st) (ru := ru) (ho := m_ho) (la := la) (na := na) (li := li) (ib := 0) (hs := s_hs) (a1 := s_a1) (a2 := s_a2) (a3 := s_a3) (a4 := s_a4) (a5 := s_a5) (sg := s_sg) (b1 := s_b1) (b2 := s_b2) (b3 := s_b3) (b4 := s_b4) (b5 := s_b5) (b6 := s_b6) (t := s_t) (lot := m_lot) hN hn hD.2.2 hT hp q10 rfl rfl
      obtain ⟨v_wm, v_wt, v_e1, v_e2, v_e3, v_e4, v_e5, r2⟩ := ek_hourM (N := N) (n' := n2) (F := F) (D := D) (st := st) (ho := m_ho) (hs := m_hs) (wm := m_wm) (wt := m_wt) (e1 := m_e1) (e2 := m_e2) (e3 := m_e3) (e4 := m_e4) (e5 := m_e5) (lot := m_lot) hN hD hru hT hp (ek_Beq q10 (fun i hi => ⟨(q6 i hi).2.1, (q6 i hi).2.2⟩)) hk hx rfl rfl
      obtain ⟨z1, z2, z3, z4, z5, z6, z7⟩ := ek_phb (F := F) (ru := ru) (h := m_ho) hn hD.2.2 9 p m_c hp q10.1
      have hrb := ek_hrb (st := st) (lot := m_lot) (hp := (ek_ph n F ru m_ho 9 p m_c).2.2.2.2) hst z1 z3
      have hB2 := (ek_plsB (hour := m_ho) hn hD.2.2 hT (ek_ph n F ru m_ho 9 p m_c).1 (m_c, s_g, s_w, s_hs) z6 q10).1
      have hR2 := ek_plsR (law := la) (named := na) (linked := li) (hour := m_ho) (F := F) hn (ek_ph n F ru m_ho 9 p m_c).1 (m_c, s_g, s_w, s_hs) (m_c, m_g, m_w, m_hs) rfl (fun i hi => ⟨(q6 i hi).2.1, (q6 i hi).2.2, (q6 i hi).1⟩)
      generalize ek_ph n F ru m_ho 9 p m_c = R at *
      generalize ek_pls n la na li F m_ho R.1 (m_c, s_g, s_w, s_hs) = S at *
      generalize ek_pls n la na li F m_ho R.1 (m_c, m_g, m_w, m_hs) = S' at *
      generalize ek_hr st m_lot R.2.1 R.2.2.2.1 R.2.2.2.2 = H at *
      refine ⟨(H.2.1, H.2.2, m_ho + 1, S.1, S.2.2.2, S.2.1, S.2.2.1, u_a1, u_a2, u_a3, u_a4, u_a5, u_sg, u_b1, u_b2, u_b3, u_b4, u_b5, u_b6, u_t, H.1), (S'.1, v_wm, v_wt, m_ho + 1, H.2.1, H.2.2, v_e1, v_e2, v_e3, v_e4, v_e5, S'.2.1, S'.2.2.1, S'.2.2.2, H.1), ?_, ?_, ?_⟩
      · simp only
        rw [f_X11_go_b63, if_neg (nI_ge hk (by omega)), if_pos rfl, r1, bn_t]
        unfold f_X11_go_b85
        rw [nI_1]
      · simp only
        exact r2
      · simp only
        refine ⟨⟨trivial, trivial, trivial, trivial, hR2.1⟩, fun i hi => ⟨(hR2.2 i hi).2.2, (hR2.2 i hi).1, (hR2.2 i hi).2.1⟩, hrb.1, hrb.2, ?_, hB2⟩
        rw [q9, nI_1, Nat.add_assoc]
    · subst q7 hb1
      refine ⟨(nI p, 1, m_ho + 1, m_c, s_hs, s_g, s_w, s_a1, s_a2, s_a3, s_a4, s_a5, s_sg, s_b1, s_b2, s_b3, s_b4, s_b5, s_b6, s_t, m_lot), (m_c, m_wm, m_wt, m_ho + 1, nI p, 1, m_e1, m_e2, m_e3, m_e4, m_e5, m_g, m_w, m_hs, m_lot), ?_, ?_, ?_⟩
      · simp only
        rw [f_X11_go_b63, if_neg (nI_ge hk (by omega)), if_neg (by decide)]
        unfold f_X11_go_b85
        rw [nI_1]
      · simp only
        rw [f_X12_go_b53, if_neg (nI_ge hk (by omega)), if_neg (by decide)]
        unfold f_X12_go_b174
        rw [nI_1]
      · simp only
        refine ⟨⟨trivial, trivial, trivial, trivial, trivial⟩, q6, ⟨p, hp, rfl⟩, Or.inr (by first | rfl | trivial), ?_, q10⟩
        rw [q9, nI_1, Nat.add_assoc]
  · exact ⟨⟨rfl, rfl, rfl, rfl, rfl⟩, he, ⟨i1, by omega, eat⟩, hib, eho, hB⟩
  · rintro n2 ⟨s_at, s_ib, s_ho, s_c, s_hs, s_g, s_w, s_a1, s_a2, s_a3, s_a4, s_a5, s_sg, s_b1, s_b2, s_b3, s_b4, s_b5, s_b6, s_t, s_lot⟩ ⟨m_c, m_wm, m_wt, m_ho, m_at, m_ib, m_e1, m_e2, m_e3, m_e4, m_e5, m_g, m_w, m_hs, m_lot⟩ hI
    simp only at hI
    obtain ⟨⟨q1, q2, q3, q4, q5⟩, q6, ⟨p, hp, q7⟩, q8, q9, q10⟩ := hI
    subst q1 q2 q3 q4 q5
    simp only
    apply ek_mk2
    · rw [f_X11_go_b63, if_pos (nI_le (Nat.le_refl _) (by omega))]
    · rw [f_X12_go_b53, if_pos (nI_le (Nat.le_refl _) (by omega))]
    · exact ⟨rfl, ⟨rfl, rfl, rfl, rfl, rfl, rfl, rfl, rfl, rfl⟩, q6, ⟨i0, hi0, est, hi02⟩, hru, ⟨p, by omega, q7, Or.inl hp⟩, q8, ⟨h0 + x, by omega, q9⟩, hT, q10⟩
