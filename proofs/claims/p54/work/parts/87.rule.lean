/-! rule -/
theorem ek_anewX {N n x pl : Nat} {F : Nat → Int32} {Pn Pt : Nat → Int64} {Kn Kt s : Nat → Int32} {ru a1 a2 a3 a4 a5 nn tn : Int32} {wh ph th : Int64} (hN : 5000 ≤ N) (hn : n ≤ 9) (hw : ∀ i, i < n → ek_wf (ek_ds F i)) (hx : x ≤ 12) (hp : pl < n) (hS : ek_Sp nn Pn Kn) (hT : ek_Sp tn Pt Kt) :
    ∃ b1 b2 b3 b4 b5 s' nn' Pn' Kn' tn' th' Pt' Kt', f_X2_lookAnew N (nI n) F wh a1 a2 a3 a4 a5 s nn ph Pn Kn tn th Pt Kt (nI pl) ru (nI x) = some (lN (12 ^ x), b1, b2, b3, b4, b5, s', nn', lN (ek_it n F ru 0 (ek_A0 pl 0 0) (ek_H0 0) x).2, Pn', Kn', tn', th', Pt', Kt') ∧ (∃ m' κ', ek_S nn' Pn' Kn' m' κ' (ek_it n F ru 0 (ek_A0 pl 0 0) (ek_H0 0) x).1) ∧ ek_Sp tn' Pt' Kt' := by
  have h9 := ek_p9 hn
  have hc : 0 < 2 ^ n := Nat.two_pow_pos n
  obtain ⟨n1, P1, K1, m1, κ1, f1, f2⟩ := ek_startX (c := 0) (ib := 0) (wh := wh) (ph := ph) hN hS (show pl < 9 by omega) (show 0 < 512 by omega)
  obtain ⟨b1, b2, b3, b4, b5, s', nn', Pn', Kn', tn', th', Pt', Kt', g1, g2, g3⟩ := ek_passX (ho := 0) (ru := ru) (a1 := a1) (a2 := a2) (a3 := a3) (a4 := a4) (a5 := a5) (s := s) (th := th) hN hn hw hx (ek_In0 (ib := 0) hn hp hc) f2 hT
  refine ⟨b1, b2, b3, b4, b5, s', nn', Pn', Kn', tn', th', Pt', Kt', ?_, g2, g3⟩
  unfold f_X2_lookAnew
  have z0 : (0 : Int32) = nI 0 := rfl
  have e1 : f_X2_startFrom N wh nn ph Pn Kn (nI pl) 0 0 = f_X2_startFrom N wh nn ph Pn Kn (nI pl) (nI 0) 0 := rfl
  have e2 : ∀ y1 y2 y3 y4 y5 z, f_X2_passHours N (nI n) F y1 a1 a2 a3 a4 a5 s y2 y3 y4 y5 tn th Pt Kt 0 ru z = f_X2_passHours N (nI n) F y1 a1 a2 a3 a4 a5 s y2 y3 y4 y5 tn th Pt Kt (nI 0) ru z := fun _ _ _ _ _ _ => rfl
  rw [e1, f1, bn_t, e2, g1, bn_t]
theorem r_rule {N n : Nat} {F D g' w' hs' Kn Kt s : Nat → Int32} {Pn Pt W Wn : Nat → Int64} {st ho cr la na li a1 a2 a3 a4 a5 nn tn wm wt e1 e2 e3 e4 e5 : Int32} {wh ph th bw aw up lo : Int64} (hN : 5000 ≤ N) (hD : ek_D n F D) (hTT : ek_T la na li) (hS : ek_Sp nn Pn Kn) (hT : ek_Sp tn Pt Kt) (x y : Int32) :
    ∃ v p q wh' b1 b2 b3 b4 b5 s' nn' ph' Pn' Kn' tn' th' Pt' Kt' wm' wt' c1 c2 c3 c4 c5 bw' aw' W' Wn', f_X11_rule N (nI n) F up lo wh a1 a2 a3 a4 a5 s nn ph Pn Kn tn th Pt Kt x y = some (v, p, q, wh', b1, b2, b3, b4, b5, s', nn', ph', Pn', Kn', tn', th', Pt', Kt') ∧ f_X12_rule N (nI n) la na li ho D up lo cr wm wt st e1 e2 e3 e4 e5 bw aw g' w' hs' W Wn x y = some (v, p, q, cr, wm', wt', st, c1, c2, c3, c4, c5, bw', aw', g', w', hs', W', Wn') ∧ ek_Sp nn' Pn' Kn' ∧ ek_Sp tn' Pt' Kt' := by
  have hn := hD.1
  unfold f_X11_rule f_X12_rule
  rcases ek_desk x hn with ⟨d3, d4, -⟩ | ⟨pl, hpl, rfl, d3, d4⟩
  · rw [if_pos d3, if_pos d4]
    exact ⟨_, _, _, _, _, _, _, _, _, _, _, _, _, _, _, _, _, _, _, _, _, _, _, _, _, _, _, _, _, rfl, rfl, hS, hT⟩
  rw [if_neg d3, if_neg d4]
  rcases ek_ahd y with ⟨d1, d2⟩ | ⟨i, hi, rfl, d1, d2⟩
  · rw [if_pos d1, if_pos d2]
    exact ⟨_, _, _, _, _, _, _, _, _, _, _, _, _, _, _, _, _, _, _, _, _, _, _, _, _, _, _, _, _, rfl, rfl, hS, hT⟩
  rw [if_neg d1, if_neg d2]
  have hb44 := ek_1244 hi
  refine ek_for2 (σ := Int64 × Int32 × Int32 × Int32 × Int32 × Int32 × (Nat → Int32) × Int32 × Int64 × (Nat → Int64) × (Nat → Int32) × Int32 × Int64 × (Nat → Int64) × (Nat → Int32) × Int32 × Int64) (τ := Int32 × Int32 × Int32 × Int32 × Int32 × Int32 × Int32 × Int64 × Int64 × (Nat → Int64) × (Nat → Int64) × Int32 × Int64) (fun n2 z t => f_X11_rule_b30 N (nI n) F n2 up lo t.1 t.2.1 t.2.2.1 t.2.2.2.1 t.2.2.2.2.1 t.2.2.2.2.2.1 t.2.2.2.2.2.2.1 t.2.2.2.2.2.2.2.1 t.2.2.2.2.2.2.2.2.1 t.2.2.2.2.2.2.2.2.2.1 t.2.2.2.2.2.2.2.2.2.2.1 t.2.2.2.2.2.2.2.2.2.2.2.1 t.2.2.2.2.2.2.2.2.2.2.2.2.1 t.2.2.2.2.2.2.2.2.2.2.2.2.2.1 t.2.2.2.2.2.2.2.2.2.2.2.2.2.2.1 (nI pl) (nI i) t.2.2.2.2.2.2.2.2.2.2.2.2.2.2.2.1 t.2.2.2.2.2.2.2.2.2.2.2.2.2.2.2.2 z) (fun n2 z u => f_X12_rule_b41 N (nI n) la na li ho D n2 up lo cr u.1 u.2.1 (nI pl) u.2.2.1 u.2.2.2.1 u.2.2.2.2.1 u.2.2.2.2.2.1 u.2.2.2.2.2.2.1 u.2.2.2.2.2.2.2.1 u.2.2.2.2.2.2.2.2.1 g' w' hs' u.2.2.2.2.2.2.2.2.2.1 u.2.2.2.2.2.2.2.2.2.2.1 (nI pl) (nI i) st u.2.2.2.2.2.2.2.2.2.2.2.1 u.2.2.2.2.2.2.2.2.2.2.2.2 z) (fun j t u => ek_Sp t.2.2.2.2.2.2.2.1 t.2.2.2.2.2.2.2.2.2.1 t.2.2.2.2.2.2.2.2.2.2.1 ∧ ek_Sp t.2.2.2.2.2.2.2.2.2.2.2.1 t.2.2.2.2.2.2.2.2.2.2.2.2.2.1 t.2.2.2.2.2.2.2.2.2.2.2.2.2.2.1 ∧ t.2.2.2.2.2.2.2.2.2.2.2.2.2.2.2.1 = u.2.2.2.2.2.2.2.2.2.2.2.1 ∧ t.2.2.2.2.2.2.2.2.2.2.2.2.2.2.2.2 = u.2.2.2.2.2.2.2.2.2.2.2.2 ∧ ((j = 0 ∧ t.2.2.2.2.2.2.2.2.2.2.2.2.2.2.2.2 = -1) ∨ ∃ a, a ≤ 12 ^ i ∧ t.2.2.2.2.2.2.2.2.2.2.2.2.2.2.2.2 = lN a ∧ t.1 = lN (12 ^ i) ∧ u.2.2.2.2.2.2.2.2.1 = lN (12 ^ i))) 3 N (by omega) ?_ (wh, a1, a2, a3, a4, a5, s, nn, ph, Pn, Kn, tn, th, Pt, Kt, 0, -1) (wm, wt, e1, e2, e3, e4, e5, bw, aw, W, Wn, 0, -1) ⟨hS, hT, rfl, rfl, Or.inl ⟨rfl, rfl⟩⟩ (fun r r' => ∃ v p q wh' b1 b2 b3 b4 b5 s' nn' ph' Pn' Kn' tn' th' Pt' Kt' wm' wt' c1 c2 c3 c4 c5 bw' aw' W' Wn', r = some (v, p, q, wh', b1, b2, b3, b4, b5, s', nn', ph', Pn', Kn', tn', th', Pt', Kt') ∧ r' = some (v, p, q, cr, wm', wt', st, c1, c2, c3, c4, c5, bw', aw', g', w', hs', W', Wn') ∧ ek_Sp nn' Pn' Kn' ∧ ek_Sp tn' Pt' Kt') ?_
  · intro n2 j t u hj hI
    obtain ⟨t1, t2, t3, t4, t5, t6, t7, t8, t9, t10, t11, t12, t13, t14, t15, t16, t17⟩ := t
    obtain ⟨u1, u2, u3, u4, u5, u6, u7, u8, u9, u10, u11, u12, u13⟩ := u
    obtain ⟨hS1, hT1, i1, i2, i3⟩ := hI
    simp only at hS1 hT1 i1 i2 i3
    subst i1 i2
    try simp only
    have hru : nI j = 0 ∨ nI j = 1 ∨ nI j = 2 := by
      have : j = 0 ∨ j = 1 ∨ j = 2 := by omega
      rcases this with rfl | rfl | rfl
      · exact Or.inl rfl
      · exact Or.inr (Or.inl rfl)
      · exact Or.inr (Or.inr rfl)
    obtain ⟨b1, b2, b3, b4, b5, s', nn', Pn', Kn', tn', th', Pt', Kt', k1, ⟨m', κ', k2⟩, k3⟩ := ek_anewX (ru := nI j) (wh := t1) (a1 := t2) (a2 := t3) (a3 := t4) (a4 := t5) (a5 := t6) (s := t7) (ph := t9) (th := t13) hN hn hD.2.2 hi hpl hS1 hT1
    obtain ⟨wm', wt', c1, c2, c3, c4, c5, W', Wn', l1, l2⟩ := ek_setM (c := 0) (h0 := 0) (ru := nI j) (ib := 0) (ho := ho) (st := nI pl) (cr := cr) (wm := u1) (wt := u2) (e1 := u3) (e2 := u4) (e3 := u5) (e4 := u6) (e5 := u7) (bw := u8) (aw := u9) (g := g') (wr := w') (hs := hs') (W := u10) (Wn := u11) hN hD hru hTT hpl (Nat.two_pow_pos n) hi
    have hIi := ek_Initer (ho := 0) (ru := nI j) hn hD.2.2 (ek_In0 (c := 0) (ib := 0) hn hpl (Nat.two_pow_pos n)) i
    have hHb : (ek_it n F (nI j) 0 (ek_A0 pl 0 0) (ek_H0 0) i).2 ≤ 12 ^ i := by have := hIi.2; omega
    generalize ek_it n F (nI j) 0 (ek_A0 pl 0 0) (ek_H0 0) i = Q at *
    have l1' : f_X12_setOdds N (nI n) la na li ho (nI pl) D cr u1 u2 u3 u4 u5 u6 u7 u8 u9 g' w' hs' u10 u11 (nI pl) 0 0 (nI j) 0 (nI i) = some (cr, wm', wt', c1, c2, c3, c4, c5, lN Q.2, lN (12 ^ i), g', w', hs', W', Wn') := l1
    rw [f_X11_rule_b30, if_neg (show ¬ (3 : Int32) ≤ nI j from nI_ge (b := 3) hj (by omega)), k1, bn_t, f_X12_rule_b41, if_neg (show ¬ (3 : Int32) ≤ nI j from nI_ge (b := 3) hj (by omega)), l1', bn_t]
    unfold f_X11_rule_b76 f_X12_rule_b75 f_X12_rule_b96
    by_cases z : lN Q.2 ≤ t17
    · have z' : p_X2_partHome (lN Q.2) ≤ t17 := z
      try simp only []
      rw [if_pos z', if_pos z, if_pos z, nI_1]
      refine ⟨(_, _, _, _, _, _, _, _, _, _, _, _, _, _, _, t16, t17), (_, _, _, _, _, _, _, _, _, _, _, t16, t17), rfl, rfl, ⟨_, _, _, k2⟩, k3, rfl, rfl, ?_⟩
      rcases i3 with ⟨-, i3⟩ | ⟨a, ha, i3, -, -⟩
      · exfalso
        rw [i3] at z
        obtain ⟨k, hk, ek⟩ : ∃ k : Nat, k < 2 ^ 44 ∧ lN Q.2 = lN k := ⟨Q.2, by omega, rfl⟩
        rw [ek] at z
        have := Int64.le_iff_toInt_le.mp z
        rw [pk_lT (by omega)] at this
        have h1 : ((-1 : Int64)).toInt = -1 := by decide
        rw [h1] at this
        omega
      · exact Or.inr ⟨a, ha, i3, rfl, rfl⟩
    · have z' : ¬ p_X2_partHome (lN Q.2) ≤ t17 := z
      try simp only []
      rw [if_neg z', if_neg z, if_neg z, nI_1, nm_t]
      exact ⟨(_, _, _, _, _, _, _, _, _, _, _, _, _, _, _, nI j, lN Q.2), (_, _, _, _, _, _, _, _, _, _, _, nI j, lN Q.2), rfl, rfl, ⟨_, _, _, k2⟩, k3, rfl, rfl, Or.inr ⟨Q.2, hHb, rfl, rfl, rfl⟩⟩
  · intro n2 t u hI
    obtain ⟨t1, t2, t3, t4, t5, t6, t7, t8, t9, t10, t11, t12, t13, t14, t15, t16, t17⟩ := t
    obtain ⟨u1, u2, u3, u4, u5, u6, u7, u8, u9, u10, u11, u12, u13⟩ := u
    obtain ⟨hS1, hT1, i1, i2, i3⟩ := hI
    simp only at hS1 hT1 i1 i2 i3
    subst i1 i2
    try simp only
    rcases i3 with ⟨i3, -⟩ | ⟨a, ha, i3, i4, i5⟩
    · omega
    obtain ⟨p, q, o1, o2⟩ := ek_frac (N := N) (u := up) (l := lo) (u' := up) (l' := lo) (x := t16) hN ha (Nat.pow_pos (by omega)) hb44
    rw [f_X11_rule_b30, if_pos (show (3 : Int32) ≤ nI 3 from Int32.le_refl _), f_X12_rule_b41, if_pos (show (3 : Int32) ≤ nI 3 from Int32.le_refl _), i3, i4, i5, o1, bn_t, o2, bn_t]
    exact ⟨_, _, _, _, _, _, _, _, _, _, _, _, _, _, _, _, _, _, _, _, _, _, _, _, _, _, _, _, _, rfl, rfl, hS1, hT1⟩
