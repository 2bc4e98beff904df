/-! order, best, first, fill -/
theorem ek_lsn {n : Nat} {c : Int32} {L : List Nat} (h : ek_vo n c L) : ∀ q, q < L.length → L.getD q 0 < n := fun q hq => (h.1 q hq).1
theorem r_order {N n : Nat} {F D S C S' C' g w hs g' w' hs' Cn Cn' sq A : Nat → Int32} {la na li ho c wm wt l l' ak a1 a2 a3 a4 a5 a6 b1 b2 b3 b4 b5 b6 ln mb : Int32} (hN : 5000 ≤ N) (hD : ek_D n F D) (hT : ek_T la na li) (hB : ek_B n c g w) (he : ∀ i, i < 9 → hs' i = hs i ∧ g' i = g i ∧ w' i = w i) (hH : ek_H 6 40 S C S' C') (hF : ek_F l Cn l' Cn') (x : Int32) :
    ∃ o o', f_X11_order N 40 S C (nI n) F c la na li g l a1 a2 a3 a4 a5 a6 b1 b2 b3 b4 b5 b6 ln mb sq Cn x = some o ∧ f_X12_order N (nI n) la na li ho S' C' D l' c wm wt Cn' g' w' hs' A x = some o' ∧ o.1 = o'.1 ∧ ek_F o.2.1 o.2.2.2.2.2.2.2.2.2.2.2.2.2.2.2.2.2 o'.2.1 o'.2.2.2.2.2.1 ∧ o'.2.2.1 = c ∧ ∀ i, i < 9 → o'.2.2.2.2.2.2.2.2.1 i = hs i ∧ o'.2.2.2.2.2.2.1 i = g i ∧ o'.2.2.2.2.2.2.2.1 i = w i := by
  have hn := hD.1
  have hB' : ek_B n c g' w' := ek_Beq hB (fun i hi => (he i hi).2)
  have hpt : ek_pt c g' n = ek_pt c g n := ek_ptext (fun k hk _ => (he k (by omega)).2.1)
  rcases ek_readO (ln := ln) (mb := mb) (sq := sq) hN hn hH hF hB.1 x with ⟨a, l2, ln2, mb2, sq2, Cn2, l2', Cn2', h1, h2, h3, h4, h5⟩ | ⟨k, L, mb2, sq2, hk, rfl, h1, h2, hvo, h9, hls, hmb, hS, hC⟩
  · apply ek_mk2
    · unfold f_X11_order; rw [h1, bn_t, if_neg h3]
    · unfold f_X12_order; rw [h2, bn_t, if_neg h4]
    · exact ⟨rfl, h5, rfl, he⟩
  · obtain ⟨wm', wt', g2, w2, hs2, A2, e, e2⟩ := ek_sumBy (ho := ho) (wm := wm) (wt := wt) (hs := hs') (A := A) hN hD hT hB' hk hvo (by omega) hS hC
    apply ek_mk2
    · unfold f_X11_order; rw [h1, bn_t, if_pos rfl, ek_layX5 hN, bn_t, ek_ptn hB.1 g hn]
      simp only
      rw [ek_bring hN hn (ek_lsn hvo) hls h9, bn_t]
    · unfold f_X12_order; rw [h2, bn_t, if_pos (Int32.le_refl _), e, bn_t, hpt]
    · refine ⟨rfl, hF, rfl, fun i hi => ?_⟩
      obtain ⟨p1, p2, p3⟩ := e2 i hi
      obtain ⟨q1, q2, q3⟩ := he i hi
      exact ⟨p3.trans q1, p1.trans q2, p2.trans q3⟩
theorem r_best {N n : Nat} {F D S C S' C' g w hs g' w' hs' Cn Cn' sq A : Nat → Int32} {la na li ho c wm wt l l' ak a1 a2 a3 a4 a5 a6 b1 b2 b3 b4 b5 b6 ln mb : Int32} (hN : 5000 ≤ N) (hD : ek_D n F D) (hT : ek_T la na li) (hB : ek_B n c g w) (he : ∀ i, i < 9 → hs' i = hs i ∧ g' i = g i ∧ w' i = w i) (hH : ek_H 6 40 S C S' C') (hF : ek_F l Cn l' Cn') (x : Int32) :
    ∃ o o', f_X11_best N 40 S C (nI n) F c la na li g l ak a1 a2 a3 a4 a5 a6 b1 b2 b3 b4 b5 b6 ln mb sq Cn x = some o ∧ f_X12_best N (nI n) la li ho S' C' D l' ak na c wm wt Cn' g' w' hs' A x = some o' ∧ o.1 = o'.1 ∧ ek_F o.2.1 o.2.2.2.2.2.2.2.2.2.2.2.2.2.2.2.2.2.2 o'.2.1 o'.2.2.2.2.2.2.2.1 ∧ o.2.2.1 = o'.2.2.1 ∧ o'.2.2.2.1 = na ∧ o'.2.2.2.2.1 = c ∧ ∀ i, i < 9 → o'.2.2.2.2.2.2.2.2.2.2.1 i = hs i ∧ o'.2.2.2.2.2.2.2.2.1 i = g i ∧ o'.2.2.2.2.2.2.2.2.2.1 i = w i := by
  have hn := hD.1
  rcases ek_readO (ln := ln) (mb := mb) (sq := sq) hN hn hH hF hB.1 x with ⟨a, l2, ln2, mb2, sq2, Cn2, l2', Cn2', h1, h2, h3, h4, h5⟩ | ⟨k, L, mb2, sq2, hk, rfl, h1, h2, hvo, h9, hls, hmb, hS, hC⟩
  · apply ek_mk2
    · unfold f_X11_best; rw [h1, bn_t, if_neg h3]
    · unfold f_X12_best; rw [h2, bn_t, if_neg h4]
    · exact ⟨rfl, h5, rfl, rfl, rfl, he⟩
  · have ex : f_X11_best N 40 S C (nI n) F c la na li g l ak a1 a2 a3 a4 a5 a6 b1 b2 b3 b4 b5 b6 ln mb sq Cn (nI k) = f_X11_best_b31 N 40 S C (nI n) F c la na li g N l ak la na li (ek_pt c g n).1 (ek_pt c g n).2.1 (ek_pt c g n).2.2 b1 b2 b3 b4 b5 b6 (nI L.length) mb2 sq2 Cn 0 (-1) 0 := by
      unfold f_X11_best; rw [h1, bn_t, if_pos rfl, ek_layX5 hN, bn_t, ek_ptn hB.1 g hn]
    have em : f_X12_best N (nI n) la li ho S' C' D l' ak na c wm wt Cn' g' w' hs' A (nI k) = f_X12_best_b26 N (nI n) la li ho S' C' D N l' ak na c wm wt Cn' g' w' hs' A (nI k) na 0 (-1) 0 := by
      unfold f_X12_best; rw [h2, bn_t, if_pos (Int32.le_refl _)]
    rw [ex, em]
    refine ek_for2 (fun n2 y (s : Int32 × (Int32 × Int32 × Int32 × Int32 × Int32 × Int32) × Int32 × Int32) => f_X11_best_b31 N 40 S C (nI n) F c la na li g n2 l ak la s.1 li (ek_pt c g n).1 (ek_pt c g n).2.1 (ek_pt c g n).2.2 s.2.1.1 s.2.1.2.1 s.2.1.2.2.1 s.2.1.2.2.2.1 s.2.1.2.2.2.2.1 s.2.1.2.2.2.2.2 (nI L.length) mb2 sq2 Cn s.2.2.1 s.2.2.2 y) (fun n2 y (t : Int32 × Int32 × Int32 × (Nat → Int32) × (Nat → Int32) × (Nat → Int32) × (Nat → Int32) × Int32 × Int32) => f_X12_best_b26 N (nI n) la li ho S' C' D n2 l' ak t.1 c t.2.1 t.2.2.1 Cn' t.2.2.2.1 t.2.2.2.2.1 t.2.2.2.2.2.1 t.2.2.2.2.2.2.1 (nI k) na t.2.2.2.2.2.2.2.1 t.2.2.2.2.2.2.2.2 y) (fun _ s t => s.2.2.1 = t.2.2.2.2.2.2.2.1 ∧ s.2.2.2 = t.2.2.2.2.2.2.2.2 ∧ ∀ i, i < 9 → t.2.2.2.2.2.1 i = hs i ∧ t.2.2.2.1 i = g i ∧ t.2.2.2.2.1 i = w i) 61 N (by omega) ?_ (na, (b1, b2, b3, b4, b5, b6), 0, -1) (na, wm, wt, g', w', hs', A, 0, -1) ⟨rfl, rfl, he⟩ (fun p q => ∃ o o', p = some o ∧ q = some o' ∧ o.1 = o'.1 ∧ ek_F o.2.1 o.2.2.2.2.2.2.2.2.2.2.2.2.2.2.2.2.2.2 o'.2.1 o'.2.2.2.2.2.2.2.1 ∧ o.2.2.1 = o'.2.2.1 ∧ o'.2.2.2.1 = na ∧ o'.2.2.2.2.1 = c ∧ ∀ i, i < 9 → o'.2.2.2.2.2.2.2.2.2.2.1 i = hs i ∧ o'.2.2.2.2.2.2.2.2.1 i = g i ∧ o'.2.2.2.2.2.2.2.2.2.1 i = w i) ?_
    · rintro n2 v ⟨s1, ⟨c1, c2, c3, c4, c5, c6⟩, s2, s3⟩ ⟨t1, t2, t3, gg, ww, hh, AA, t4, t5⟩ hv ⟨i1, i2, i3⟩
      simp only at i1 i2 i3
      subst i1 i2
      have hT' : ek_T la (nI v) li := ⟨hT.1, ⟨v, by omega, rfl⟩, hT.2.2⟩
      have hBg : ek_B n c gg ww := ek_Beq hB (fun i hi => (i3 i hi).2)
      have hpt : ek_pt c gg n = ek_pt c g n := ek_ptext (fun k hk _ => (i3 k (by omega)).2.1)
      obtain ⟨wm', wt', g2, w2, hs2, A2, e, e2⟩ := ek_sumBy (ho := ho) (wm := t2) (wt := t3) (hs := hh) (A := AA) hN hD hT' hBg hk hvo (by omega) hS hC
      rw [hpt] at e
      refine ⟨(nI v, (la, nI v, li, (ek_bi la (nI v) li F L (ek_pt c g n)).1, (ek_bi la (nI v) li F L (ek_pt c g n)).2.1, (ek_bi la (nI v) li F L (ek_pt c g n)).2.2), (if (ek_bi la (nI v) li F L (ek_pt c g n)).1 - (ek_pt c g n).1 ≤ s3 then s2 else nI v), (if (ek_bi la (nI v) li F L (ek_pt c g n)).1 - (ek_pt c g n).1 ≤ s3 then s3 else (ek_bi la (nI v) li F L (ek_pt c g n)).1 - (ek_pt c g n).1)), (nI v, wm', wt', g2, w2, hs2, A2, (if (ek_bi la (nI v) li F L (ek_pt c g n)).1 - (ek_pt c g n).1 ≤ s3 then s2 else nI v), (if (ek_bi la (nI v) li F L (ek_pt c g n)).1 - (ek_pt c g n).1 ≤ s3 then s3 else (ek_bi la (nI v) li F L (ek_pt c g n)).1 - (ek_pt c g n).1)), ?_, ?_, ?_⟩
      · simp only
        rw [f_X11_best_b31, if_neg (show ¬ (60 : Int32) < nI v from nI_nlt (a := 60) (by omega) (by omega)), ek_bring hN hn (ek_lsn hvo) hls h9, bn_t]
        unfold f_X11_best_b67
        rw [nI_1]
      · simp only
        rw [f_X12_best_b26, if_neg (show ¬ (60 : Int32) < nI v from nI_nlt (a := 60) (by omega) (by omega)), e, bn_t]
        unfold f_X12_best_b60 f_X12_best_b76
        rw [nI_1]
      · refine ⟨rfl, rfl, fun i hi => ?_⟩
        obtain ⟨p1, p2, p3⟩ := e2 i hi
        obtain ⟨q1, q2, q3⟩ := i3 i hi
        exact ⟨p3.trans q1, p1.trans q2, p2.trans q3⟩
    · rintro n2 ⟨s1, ⟨c1, c2, c3, c4, c5, c6⟩, s2, s3⟩ ⟨t1, t2, t3, gg, ww, hh, AA, t4, t5⟩ ⟨i1, i2, i3⟩
      simp only at i1 i2 i3
      subst i1 i2
      simp only
      apply ek_mk2
      · rw [f_X11_best_b31, if_pos (show (60 : Int32) < nI 61 from nI_lt (a := 60) (by omega) (by omega)), nm_t]
      · rw [f_X12_best_b26, if_pos (show (60 : Int32) < nI 61 from nI_lt (a := 60) (by omega) (by omega)), nm_t]
      · exact ⟨rfl, hF, rfl, rfl, rfl, i3⟩
