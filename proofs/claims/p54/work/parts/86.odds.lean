/-! friday, odds -/
theorem ek_1244 {x : Nat} (h : x ≤ 12) : 12 ^ x < 2 ^ 44 := Nat.lt_of_le_of_lt (Nat.pow_le_pow_right (n := 12) (by omega) h) (by decide)
theorem ek_lookX {N n x ho pl c : Nat} {F : Nat → Int32} {Pn Pt : Nat → Int64} {Kn Kt s : Nat → Int32} {ru ib a1 a2 a3 a4 a5 nn tn : Int32} {wh ph th : Int64} (hN : 5000 ≤ N) (hn : n ≤ 9) (hw : ∀ i, i < n → ek_wf (ek_ds F i)) (hx : x ≤ 12) (hp : pl < n) (hc : c < 2 ^ n) (hS : ek_Sp nn Pn Kn) (hT : ek_Sp tn Pt Kt) :
    ∃ b1 b2 b3 b4 b5 s' nn' Pn' Kn' tn' th' Pt' Kt', f_X2_look N (nI n) F ru (nI pl) ib (nI ho) (nI c) wh a1 a2 a3 a4 a5 s nn ph Pn Kn tn th Pt Kt (nI x) = some (lN (12 ^ x), b1, b2, b3, b4, b5, s', nn', lN (ek_it n F ru ho (ek_A0 pl c ib) (ek_H0 ib) x).2, Pn', Kn', tn', th', Pt', Kt') ∧ (∃ m' κ', ek_S nn' Pn' Kn' m' κ' (ek_it n F ru ho (ek_A0 pl c ib) (ek_H0 ib) x).1) ∧ ek_Sp tn' Pt' Kt' := by
  have h9 := ek_p9 hn
  obtain ⟨n1, P1, K1, m1, κ1, f1, f2⟩ := ek_startX (ib := ib) (wh := wh) (ph := ph) hN hS (show pl < 9 by omega) (show c < 512 by omega)
  obtain ⟨b1, b2, b3, b4, b5, s', nn', Pn', Kn', tn', th', Pt', Kt', g1, g2, g3⟩ := ek_passX (ho := ho) (ru := ru) (a1 := a1) (a2 := a2) (a3 := a3) (a4 := a4) (a5 := a5) (s := s) (th := th) hN hn hw hx (ek_In0 (ib := ib) hn hp hc) f2 hT
  refine ⟨b1, b2, b3, b4, b5, s', nn', Pn', Kn', tn', th', Pt', Kt', ?_, g2, g3⟩
  unfold f_X2_look
  rw [f1, bn_t, g1, bn_t]
theorem ek_ahd (x : Int32) : (p_X11_isAhead x = 0 ∧ p_X12_in x 0 12 = 0) ∨ ∃ i, i ≤ 12 ∧ x = nI i ∧ ¬ p_X11_isAhead x = 0 ∧ ¬ p_X12_in x 0 12 = 0 := by
  unfold p_X11_isAhead
  rcases ek_what x 12 (by decide) 12 13 rfl rfl with ⟨f1, f2⟩ | ⟨i, hi, e, f1, f2, f3, f4⟩
  · refine Or.inl ⟨?_, f1⟩
    rcases f2 with q | ⟨q1, q2, q3⟩
    · rw [if_pos q]
    · rw [if_neg q1, if_pos (Int32.not_le.mp q3)]
  · exact Or.inr ⟨i, hi, e, by rw [if_neg f2, if_neg (Int32.not_lt.mpr f4)]; decide, f1⟩
theorem r_friday {N n : Nat} {F D g w g' w' hs' Kn Kt s : Nat → Int32} {Pn Pt W Wn : Nat → Int64} {st ru at_ ib ho cr la na li a1 a2 a3 a4 a5 nn tn wm wt e1 e2 e3 e4 e5 : Int32} {wh ph th bw aw up lo : Int64} (hN : 5000 ≤ N) (hD : ek_D n F D) (hR : ek_RB n st ru at_ ib ho cr la na li g w) (hS : ek_Sp nn Pn Kn) (hT : ek_Sp tn Pt Kt) (x : Int32) :
    ∃ v p q wh' b1 b2 b3 b4 b5 s' nn' ph' Pn' Kn' tn' th' Pt' Kt' wm' wt' c1 c2 c3 c4 c5 bw' aw' W' Wn', f_X11_friday N (nI n) F ru at_ ib ho cr up lo wh a1 a2 a3 a4 a5 s nn ph Pn Kn tn th Pt Kt x = some (v, p, q, wh', b1, b2, b3, b4, b5, s', nn', ph', Pn', Kn', tn', th', Pt', Kt') ∧ f_X12_friday N (nI n) la na li ho st ru at_ ib D up lo cr wm wt e1 e2 e3 e4 e5 bw aw g' w' hs' W Wn x = some (v, p, q, cr, wm', wt', c1, c2, c3, c4, c5, bw', aw', g', w', hs', W', Wn') ∧ ek_Sp nn' Pn' Kn' ∧ ek_Sp tn' Pt' Kt' := by
  have hn := hD.1
  obtain ⟨-, hru, ⟨pl, hpl, rfl, hpn⟩, hib, ⟨h0, hh0, rfl⟩, hTT, hB⟩ := hR
  obtain ⟨c, hc, rfl⟩ := ek_small (by omega) hB.1
  unfold f_X11_friday f_X12_friday
  rcases ek_ahd x with ⟨d1, d2⟩ | ⟨i, hi, rfl, d1, d2⟩
  · rw [if_pos d1, if_pos d2]
    exact ⟨_, _, _, _, _, _, _, _, _, _, _, _, _, _, _, _, _, _, _, _, _, _, _, _, _, _, _, _, _, rfl, rfl, hS, hT⟩
  rw [if_neg d1, if_neg d2]
  by_cases z : nI n = 0
  · rw [if_pos z, if_pos z]
    exact ⟨_, _, _, _, _, _, _, _, _, _, _, _, _, _, _, _, _, _, _, _, _, _, _, _, _, _, _, _, _, rfl, rfl, hS, hT⟩
  rw [if_neg z, if_neg z]
  have hpn' : pl < n := by
    rcases hpn with q | q
    · exact q
    · exact absurd (show nI n = 0 by rw [q]; rfl) z
  obtain ⟨b1, b2, b3, b4, b5, s', nn', Pn', Kn', tn', th', Pt', Kt', k1, ⟨m', κ', k2⟩, k3⟩ := ek_lookX (ho := h0) (ru := ru) (ib := ib) (wh := wh) (ph := ph) (th := th) (a1 := a1) (a2 := a2) (a3 := a3) (a4 := a4) (a5 := a5) (s := s) hN hn hD.2.2 hi hpn' hc hS hT
  obtain ⟨wm', wt', c1, c2, c3, c4, c5, W', Wn', l1, l2⟩ := ek_setM (h0 := h0) (ru := ru) (ib := ib) (ho := nI h0) (st := st) (cr := nI c) (wm := wm) (wt := wt) (e1 := e1) (e2 := e2) (e3 := e3) (e4 := e4) (e5 := e5) (bw := bw) (aw := aw) (g := g') (wr := w') (hs := hs') (W := W) (Wn := Wn) hN hD hru hTT hpn' hc hi
  have hIi := ek_Initer (ho := h0) (ru := ru) hn hD.2.2 (ek_In0 (ib := ib) hn hpn' hc) i
  obtain ⟨p, q, o1, o2⟩ := ek_frac (N := N) (a := (ek_it n F ru h0 (ek_A0 pl c ib) (ek_H0 ib) i).2) (b := 12 ^ i) (u := up) (l := lo) (u' := up) (l' := lo) (x := 1) hN (by have := hIi.2; omega) (Nat.pow_pos (by omega)) (ek_1244 hi)
  rw [k1, bn_t, l1, bn_t]
  simp only [p_X2_partHome]
  rw [o1, bn_t, o2, bn_t]
  exact ⟨_, _, _, _, _, _, _, _, _, _, _, _, _, _, _, _, _, _, _, _, _, _, _, _, _, _, _, _, _, rfl, rfl, ⟨_, _, _, k2⟩, k3⟩
/-- the weight at a desk -/
theorem ek_partM {N d H : Nat} {st : Int32} {W : Nat → Int64} {A : Nat → Nat} (hN : 5000 ≤ N) (hd : d < 9) (h : ek_M W A) :
    f_X12_weightAt N st (lN H) W (nI d) = some (lN ((if nI d = st then H else 0) + ek_pa A d)) := by
  have e : ek_pa A d = ek_sn (fun c => A (9 * c + d)) 512 := by
    unfold ek_pa
    rw [← ek_snperm (m := 512) (κ := fun c => 9 * c + d) (f := fun q => if q % 9 = d then A q else 0) (fun k hk => by omega) (fun i j _ _ e => by omega) (fun q hq hp => by
      by_cases y : q % 9 = d
      · exact ⟨q / 9, by omega, by omega⟩
      · simp only [y, if_false] at hp; omega)]
    exact ek_snext (fun c _ => if_pos (by omega))
  rw [e]
  unfold f_X12_weightAt f_X12_weightAt_b16
  have e0 : (if nI d = st then lN H else (0 : Int64)) = lN (if nI d = st then H else 0) := by split <;> rfl
  rw [e0]
  generalize (if nI d = st then H else 0) = B
  exact ek_forI (fun n2 z (t : Int64) => f_X12_weightAt_b20 N st (lN H) W n2 (nI d) t z) (fun j t => t = lN (B + ek_sn (fun c => A (9 * c + d)) j)) 512 N (by omega) (by
    intro n2 j t hj hI
    refine ⟨_, ?_, rfl⟩
    subst hI
    try simp only
    have s1 : ek_si (512 * d + j) = 9 * j + d := by unfold ek_si; omega
    rw [f_X12_weightAt_b20, if_neg (show ¬ (512 : Int32) ≤ nI j from nI_ge (b := 512) hj (by omega)), show (512 : Int32) * nI d = nI (512 * d) from pk_mul 512 d, nI_add, gd_t (ek_inb46 (by omega)), nI_clamp (show 512 * d + j < 2 ^ 31 by omega), nm_t, h _ (show 512 * d + j < 4608 by omega), s1, lN_add, nI_1, Nat.add_assoc]
    rfl) (lN B) rfl (fun r => r = some (lN (B + ek_sn (fun c => A (9 * c + d)) 512))) (by
    intro n2 t hI
    subst hI
    try simp only
    rw [f_X12_weightAt_b20, if_pos (show (512 : Int32) ≤ nI 512 from Int32.le_refl _)])
theorem ek_paall {A : Nat → Nat} {d : Nat} : ek_pa A d ≤ ek_sn A 4608 := ek_snle (fun j _ => by split <;> omega)
theorem r_odds {N n : Nat} {F D g w g' w' hs' Kn Kt s : Nat → Int32} {Pn Pt W Wn : Nat → Int64} {st ru at_ ib ho cr la na li a1 a2 a3 a4 a5 nn tn wm wt e1 e2 e3 e4 e5 : Int32} {wh ph th bw aw up lo : Int64} (hN : 5000 ≤ N) (hD : ek_D n F D) (hR : ek_RB n st ru at_ ib ho cr la na li g w) (hS : ek_Sp nn Pn Kn) (hT : ek_Sp tn Pt Kt) (x y : Int32) :
    ∃ v p q wh' b1 b2 b3 b4 b5 s' nn' ph' Pn' Kn' tn' th' Pt' Kt' wm' wt' c1 c2 c3 c4 c5 bw' aw' W' Wn', f_X11_odds N (nI n) F st ru at_ ib ho cr up lo wh a1 a2 a3 a4 a5 s nn ph Pn Kn tn th Pt Kt x y = some (v, p, q, wh', b1, b2, b3, b4, b5, s', nn', ph', Pn', Kn', tn', th', Pt', Kt') ∧ f_X12_odds N (nI n) la na li ho st ru at_ ib D up lo cr wm wt e1 e2 e3 e4 e5 bw aw g' w' hs' W Wn x y = some (v, p, q, cr, wm', wt', c1, c2, c3, c4, c5, bw', aw', g', w', hs', W', Wn') ∧ ek_Sp nn' Pn' Kn' ∧ ek_Sp tn' Pt' Kt' := by
  have hn := hD.1
  obtain ⟨-, hru, ⟨pl, hpl, rfl, hpn⟩, hib, ⟨h0, hh0, rfl⟩, hTT, hB⟩ := hR
  obtain ⟨c, hc, rfl⟩ := ek_small (by omega) hB.1
  unfold f_X11_odds f_X12_odds
  rcases ek_ahd x with ⟨d1, d2⟩ | ⟨i, hi, rfl, d1, d2⟩
  · rw [if_pos d1, if_pos d2]
    exact ⟨_, _, _, _, _, _, _, _, _, _, _, _, _, _, _, _, _, _, _, _, _, _, _, _, _, _, _, _, _, rfl, rfl, hS, hT⟩
  rw [if_neg d1, if_neg d2]
  rcases ek_desk y hn with ⟨d3, d4, -⟩ | ⟨d, hd, rfl, d3, d4⟩
  · rw [if_pos d3, if_pos d4]
    exact ⟨_, _, _, _, _, _, _, _, _, _, _, _, _, _, _, _, _, _, _, _, _, _, _, _, _, _, _, _, _, rfl, rfl, hS, hT⟩
  rw [if_neg d3, if_neg d4]
  have hpn' : pl < n := by omega
  obtain ⟨b1, b2, b3, b4, b5, s', nn', Pn', Kn', tn', th', Pt', Kt', k1, ⟨m', κ', k2⟩, k3⟩ := ek_lookX (ho := h0) (ru := ru) (ib := ib) (wh := wh) (ph := ph) (th := th) (a1 := a1) (a2 := a2) (a3 := a3) (a4 := a4) (a5 := a5) (s := s) hN hn hD.2.2 hi hpn' hc hS hT
  obtain ⟨wm', wt', c1, c2, c3, c4, c5, W', Wn', l1, l2⟩ := ek_setM (h0 := h0) (ru := ru) (ib := ib) (ho := nI h0) (st := st) (cr := nI c) (wm := wm) (wt := wt) (e1 := e1) (e2 := e2) (e3 := e3) (e4 := e4) (e5 := e5) (bw := bw) (aw := aw) (g := g') (wr := w') (hs := hs') (W := W) (Wn := Wn) hN hD hru hTT hpn' hc hi
  have hIi := ek_Initer (ho := h0) (ru := ru) hn hD.2.2 (ek_In0 (ib := ib) hn hpn' hc) i
  have hle : (if nI d = st then (ek_it n F ru h0 (ek_A0 pl c ib) (ek_H0 ib) i).2 else 0) + ek_pa (ek_it n F ru h0 (ek_A0 pl c ib) (ek_H0 ib) i).1 d ≤ 12 ^ i := by
    have := hIi.2
    have := ek_paall (A := (ek_it n F ru h0 (ek_A0 pl c ib) (ek_H0 ib) i).1) (d := d)
    split <;> omega
  obtain ⟨p, q, o1, o2⟩ := ek_frac (N := N) (u := up) (l := lo) (u' := up) (l' := lo) (x := 1) hN hle (Nat.pow_pos (by omega)) (ek_1244 hi)
  rw [k1, bn_t, l1, bn_t]
  simp only []
  rw [ek_partX (st := st) hN (by omega) k2, bn_t, ek_partM (st := st) hN (by omega) l2, bn_t, o1, bn_t, o2, bn_t]
  exact ⟨_, _, _, _, _, _, _, _, _, _, _, _, _, _, _, _, _, _, _, _, _, _, _, _, _, _, _, _, _, rfl, rfl, ⟨_, _, _, k2⟩, k3⟩
