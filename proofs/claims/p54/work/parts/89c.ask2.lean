/-! ask -/
theorem ek_inP (x a b : Int32) : p_X12_in x a b = 0 ↔ (x < a ∨ ¬ x ≤ b) := by
  unfold p_X12_in
  by_cases h1 : x < a
  · simp [h1, Int32.not_le.mpr h1]
  · by_cases h2 : x ≤ b
    · simp [h1, h2, Int32.not_lt.mp h1]
    · simp [h1, h2, Int32.not_lt.mp h1]
theorem r_ask {N n : Nat} {F D g w g' w' hs' Kn Kt s : Nat → Int32} {Pn Pt W Wn : Nat → Int64} {st ru at_ ib ho cr la na li a1 a2 a3 a4 a5 nn tn wm wt e1 e2 e3 e4 e5 ak : Int32} {wh ph th bw aw : Int64} (hN : 5000 ≤ N) (hD : ek_D n F D) (hR : ek_RB n st ru at_ ib ho cr la na li g w) (hS : ek_Sp nn Pn Kn) (hT : ek_Sp tn Pt Kt) (x y z : Int32) :
    ∃ v ak' wh' b1 b2 b3 b4 b5 s' nn' ph' Pn' Kn' tn' th' Pt' Kt' wm' wt' c1 c2 c3 c4 c5 bw' aw' W' Wn', f_X11_ask N (nI n) F st ru at_ ib ho cr ak wh a1 a2 a3 a4 a5 s nn ph Pn Kn tn th Pt Kt x y z = some (v, ak', wh', b1, b2, b3, b4, b5, s', nn', ph', Pn', Kn', tn', th', Pt', Kt') ∧ f_X12_ask N (nI n) la na li ho st ru at_ ib D ak cr wm wt e1 e2 e3 e4 e5 bw aw g' w' hs' W Wn x y z = some (v, ak', cr, wm', wt', c1, c2, c3, c4, c5, bw', aw', g', w', hs', W', Wn') ∧ ek_Sp nn' Pn' Kn' ∧ ek_Sp tn' Pt' Kt' := by
  have hn := hD.1
  obtain ⟨⟨s0, hs0, rfl, hsn⟩, hru, ⟨pl, hpl, rfl, hpn⟩, hib, ⟨h0, hh0, rfl⟩, hTT, hB⟩ := hR
  obtain ⟨c, hc, rfl⟩ := ek_small (by omega) hB.1
  unfold f_X11_ask f_X12_ask
  rcases ek_ahd x with ⟨d1, d2⟩ | ⟨i, hi, rfl, d1, d2⟩
  · rw [if_pos d1, if_pos d2]
    exact ⟨_, _, _, _, _, _, _, _, _, _, _, _, _, _, _, _, _, _, _, _, _, _, _, _, _, _, _, _, rfl, rfl, hS, hT⟩
  rw [if_neg d1, if_neg d2]
  by_cases g1 : z < 1
  · rw [if_pos g1, if_pos ((ek_inP z 1 99).mpr (Or.inl g1))]
    exact ⟨_, _, _, _, _, _, _, _, _, _, _, _, _, _, _, _, _, _, _, _, _, _, _, _, _, _, _, _, rfl, rfl, hS, hT⟩
  rw [if_neg g1]
  by_cases g2 : 99 < z
  · rw [if_pos g2, if_pos ((ek_inP z 1 99).mpr (Or.inr (Int32.not_le.mpr g2)))]
    exact ⟨_, _, _, _, _, _, _, _, _, _, _, _, _, _, _, _, _, _, _, _, _, _, _, _, _, _, _, _, rfl, rfl, hS, hT⟩
  rw [if_neg g2, if_neg (show ¬ p_X12_in z 1 99 = 0 from fun q => by
    rcases (ek_inP z 1 99).mp q with q | q
    · exact g1 q
    · exact q (Int32.not_lt.mp g2))]
  by_cases g3 : y < 0
  · rw [if_pos g3, if_pos ((ek_inP y 0 z).mpr (Or.inl g3))]
    exact ⟨_, _, _, _, _, _, _, _, _, _, _, _, _, _, _, _, _, _, _, _, _, _, _, _, _, _, _, _, rfl, rfl, hS, hT⟩
  rw [if_neg g3]
  by_cases g4 : y ≤ z
  rotate_left
  · rw [if_neg g4, if_pos ((ek_inP y 0 z).mpr (Or.inr g4))]
    exact ⟨_, _, _, _, _, _, _, _, _, _, _, _, _, _, _, _, _, _, _, _, _, _, _, _, _, _, _, _, rfl, rfl, hS, hT⟩
  rw [if_pos g4, if_neg (show ¬ p_X12_in y 0 z = 0 from fun q => by
    rcases (ek_inP y 0 z).mp q with q | q
    · exact g3 q
    · exact q g4)]
  by_cases z0 : nI n = 0
  · rw [if_pos z0, if_pos z0]
    exact ⟨_, _, _, _, _, _, _, _, _, _, _, _, _, _, _, _, _, _, _, _, _, _, _, _, _, _, _, _, rfl, rfl, hS, hT⟩
  rw [if_neg z0, if_neg z0]
  have nn0 : ¬ n = 0 := fun q => z0 (by rw [q]; rfl)
  have hpn' : pl < n := by omega
  have hsn' : s0 < n := by omega
  obtain ⟨zz, hzz, rfl⟩ := nI_of (show ¬ z < 0 from fun q => g1 (of_eq_true (ek_ng q (a := 1) (by decide)).1))
  obtain ⟨yy, hyy, rfl⟩ := nI_of g3
  have hz99 : zz ≤ 99 := (nI_leI (a := zz) (b := 99) hzz (by omega)).mp (Int32.not_lt.mp g2)
  have hyz : yy ≤ zz := (nI_leI (a := yy) (b := zz) hyy hzz).mp g4
  obtain ⟨b1, b2, b3, b4, b5, s', nn', Pn', Kn', tn', th', Pt', Kt', k1, ⟨m', κ', k2⟩, k3⟩ := ek_lookX (ho := h0) (ru := ru) (ib := ib) (wh := wh) (ph := ph) (th := th) (a1 := a1) (a2 := a2) (a3 := a3) (a4 := a4) (a5 := a5) (s := s) hN hn hD.2.2 hi hpn' hc hS hT
  obtain ⟨wm', wt', c1, c2, c3, c4, c5, W', Wn', l1, l2⟩ := ek_setM (h0 := h0) (ru := ru) (ib := ib) (ho := nI h0) (st := nI s0) (cr := nI c) (wm := wm) (wt := wt) (e1 := e1) (e2 := e2) (e3 := e3) (e4 := e4) (e5 := e5) (bw := bw) (aw := aw) (g := g') (wr := w') (hs := hs') (W := W) (Wn := Wn) hN hD hru hTT hpn' hc hi
  have hIi := ek_Initer (ho := h0) (ru := ru) hn hD.2.2 (ek_In0 (ib := ib) hn hpn' hc) i
  have hu0 : ∀ m, ek_uc 0 m = m := by
    intro m
    induction m with
    | zero => rfl
    | succ m ih => show ek_uc 0 m + (if ek_bt 0 m then 0 else 1) = m + 1; rw [ih, ek_b0]; rfl
  obtain ⟨v, c', r1, r2⟩ := ek_askL (F := F) (D := D) (la := la) (na := na) (li := li) (ho := nI h0) (st := nI s0) (ru := ru) (at_ := nI pl) (ib := ib) (ak := ak) (cr := nI c) (wm := wm') (wt := wt') (e1 := c1) (e2 := c2) (e3 := c3) (e4 := c4) (e5 := c5) (a1 := b1) (a2 := b2) (a3 := b3) (a4 := b4) (a5 := b5) (s := s') (tn := tn') (th := th') (Pt := Pt') (Kt := Kt') (g := g') (w := w') (hs := hs') (Wn := Wn') hN hn k2 l2 (ek_1244 hi) (ek_ptot hn hsn' hIi) hyz hz99 n 0 0 N N (by omega) (ek_sub0 n) (hu0 n) (by decide) (by omega) (by omega)
  have e0 : ek_ps (ek_pd (ek_it n F ru h0 (ek_A0 pl c ib) (ek_H0 ib) i).1 (ek_it n F ru h0 (ek_A0 pl c ib) (ek_H0 ib) i).2 (nI s0)) 0 n = 0 := ek_snz (fun d _ => by rw [ek_b0]; rfl)
  rw [e0] at r1 r2
  rw [k1, bn_t, l1, bn_t]
  exact ⟨_, _, _, _, _, _, _, _, _, _, _, _, _, _, _, _, _, _, _, _, _, _, _, _, _, _, _, _, r1, r2, ⟨_, _, _, k2⟩, k3⟩
