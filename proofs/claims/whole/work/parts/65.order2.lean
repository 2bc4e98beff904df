/-! order, best, first, fill -/
theorem ek_lsn {n : Nat} {c : Int32} {L : List Nat} (h : ek_vo n c L) : ∀ q, q < L.length → L.getD q 0 < n := fun q hq => (h.1 q hq).1
theorem r_order {N n : Nat} {F D S C S' C' g w hs g' w' hs' Cn Cn' sq A : Nat → Int32} {la na li ho c wm wt l l' ak a1 a2 a3 a4 a5 a6 b1 b2 b3 b4 b5 b6 ln mb : Int32} (hN : 5000 ≤ N) (hD : ek_D n F D) (hT : ek_T la na li) (hB : ek_B n c g w) (he : ∀ i, i < 9 → hs' i = hs i ∧ g' i = g i ∧ w' i = w i) (hH : ek_H 6 40 S C S' C') (hF : ek_F l Cn l' Cn') (x : Int32) :
    ∃ o o', f_X11_order N 40 S C (nI n) F c la na li g l a1 a2 a3 a4 a5 a6 b1 b2 b3 b4 b5 b6 ln mb sq Cn x = some o ∧ f_X12_order N (nI n) la na li ho S' C' D l' c wm wt Cn' g' w' hs' A x = some o' ∧ o.1 = o'.1 ∧ ek_F o.2.1 o.2.2.2.2.2.2.2.2.2.2.2.2.2.2.2.2.2 o'.2.1 o'.2.2.2.2.2.1 ∧ o'.2.2.1 = c ∧ ∀ i, i < 9 → o'.2.2.2.2.2.2.2.2.1 i = hs i ∧ o'.2.2.2.2.2.2.1 i = g i ∧ o'.2.2.2.2.2.2.2.1 i = w i := by
  have hn := hD.1
  have hB' : ek_B n c g' w' := ek_Beq hB (fun i hi => (he i hi).2)
  have hpt : ek_pt c g' n = ek_pt c g n := ek_ptext (fun k hk _ => (he k (by omega)).2.1)
  rcases ek_readO (ln := ln) (mb := mb) (sq := sq) hN hn hH hF hB.1 x with ⟨a, l2, ln2, mb2, sq2, Cn2, l2', Cn2', h1, h2, h3, h4, h5⟩ | ⟨k, L, mb2, sq2, hk, rfl, h1, h2, hvo, h9, hls, hmb, hS, hC⟩
  · apply ek_mk2
    · unfold f_X11_order; rw [h1, bn_t, if_neg h3]
    · unfold f_X12_order; rw [h2, bn_t, if_neg h4]
    · exact ⟨rfl, h5, rfl, he⟩
  · obtain ⟨wm', wt', g2, w2, hs2, A2, e, e2⟩ := ek_sumBy (ho := ho) (wm := wm) (wt := wt) (hs := hs') (A := A) hN hD hT hB' hk hvo (by omega) hS hC
    apply ek_mk2
    · unfold f_X11_order; rw [h1, bn_t, if_pos rfl, ek_layX5 hN, bn_t, ek_ptn hB.1 g hn]
      simp only
      rw [ek_bring hN hn (ek_lsn hvo) hls h9, bn_t]
    · unfold f_X12_order; rw [h2, bn_t, if_pos (Int32.le_refl _), e, bn_t, hpt]
    · refine ⟨rfl, hF, rfl, fun i hi => ?_⟩
      obtain ⟨p1, p2, p3⟩ := e2 i hi
      obtain ⟨q1, q2, q3⟩ := he i hi
      exact ⟨p3.trans q1, p1.trans q2, p2.trans q3⟩
theorem r_best {N n : Nat} {F D S C S' C' g w hs g' w' hs' Cn Cn' sq A : Nat → Int32} {la na li ho c wm wt l l' ak a1 a2 a3 a4 a5 a6 b1 b2 b3 b4 b5 b6 ln mb : Int32} (hN : 5000 ≤ N) (hD : ek_D n F D) (hT : ek_T la na li) (hB : ek_B n c g w) (he : ∀ i, i < 9 → hs' i = hs i ∧ g' i = g i ∧ w' i = w i) (hH : ek_H 6 40 S C S' C') (hF : ek_F l Cn l' Cn') (x : Int32) :
    ∃ o o', f_X11_best N 40 S C (nI n) F c la na li g l ak a1 a2 a3 a4 a5 a6 b1 b2 b3 b4 b5 b6 ln mb sq Cn x = some o ∧ f_X12_best N (nI n) la li ho S' C' D l' ak na c wm wt Cn' g' w' hs' A x = some o' ∧ o.1 = o'.1 ∧ ek_F o.2.1 o.2.2.2.2.2.2.2.2.2.2.2.2.2.2.2.2.2.2 o'.2.1 o'.2.2.2.2.2.2.2.1 ∧ o.2.2.1 = o'.2.2.1 ∧ o'.2.2.2.1 = na ∧ o'.2.2.2.2.1 = c ∧ ∀ i, i < 9 → o'.2.2.2.2.2.2.2.2.2.2.1 i = hs i ∧ o'.2.2.2.2.2.2.2.2.1 i = g i ∧ o'.2.2.2.2.2.2.2.2.2.1 i = w i := by
  have hn := hD.1
  rcases ek_readO (ln := ln) (mb := mb) (sq := sq) hN hn hH hF hB.1 x with ⟨a, l2, ln2, mb2, sq2, Cn2, l2', Cn2', h1, h2, h3, h4, h5⟩ | ⟨k, L, mb2, sq2, hk, rfl, h1, h2, hvo, h9, hls, hmb, hS, hC⟩
  · apply ek_mk2
    · unfold f_X11_best; rw [h1, bn_t, if_neg h3]
    · unfold f_X12_best; rw [h2, bn_t, if_neg h4]
    · exact ⟨rfl, h5, rfl, rfl, rfl, he⟩
  · have ex : f_X11_best N 40 S C (nI n) F c la na li g l ak a1 a2 a3 a4 a5 a6 b1 b2 b3 b4 b5 b6 ln mb sq Cn (nI k) = f_X11_best_b31 N 40 S C (nI n) F c la na li g N l ak la na li (ek_pt c g n).1 (ek_pt c g n).2.1 (ek_pt c g n).2.2 b1 b2 b3 b4 b5 b6 (nI L.length) mb2 sq2 Cn 0 (-1) 0 := by
      unfold f_X11_best; rw [h1, bn_t, if_pos rfl, ek_layX5 hN, bn_t, ek_ptn hB.1 g hn]
    have em : f_X12_best N (nI n) la li ho S' C' D l' ak na c wm wt Cn' g' w' hs' A (nI k) = f_X12_best_b26 N (nI n) la li ho S' C' D N l' ak na c wm wt Cn' g' w' hs' A (nI k) na 0 (-1) 0 := by
      unfold f_X12_best; rw [h2, bn_t, if_pos (Int32.le_refl _)]
    rw [ex, em]
    refine ek_for2 (fun n2 y (s : Int32 × (Int32 × Int32 × Int32 × Int32 × Int32 × Int32) × Int32 × Int32) => f_X11_best_b31 N 40 S C (nI n) F c la na li g n2 l ak la s.1 li (ek_pt c g n).1 (ek_pt c g n).2.1 (ek_pt c g n).2.2 s.2.1.1 s.2.1.2.1 s.2.1.2.2.1 s.2.1.2.2.2.1 s.2.1.2.2.2.2.1 s.2.1.2.2.2.2.2 (nI L.length) mb2 sq2 Cn s.2.2.1 s.2.2.2 y) (fun n2 y (t : Int32 × Int32 × Int32 × (Nat → Int32) × (Nat → Int32) × (Nat → Int32) × (Nat → Int32) × Int32 × Int32) => f_X12_best_b26 N (nI n) la li ho S' C' D n2 l' ak t.1 c t.2.1 t.2.2.1 Cn' t.2.2.2.1 t.2.2.2.2.1 t.2.2.2.2.2.1 t.2.2.2.2.2.2.1 (nI k) na t.2.2.2.2.2.2.2.1 t.2.2.2.2.2.2.2.2 y) (fun _ s t => s.2.2.1 = t.2.2.2.2.2.2.2.1 ∧ s.2.2.2 = t.2.2.2.2.2.2.2.2 ∧ ∀ i, i < 9 → t.2.2.2.2.2.1 i = hs i ∧ t.2.2.2.1 i = g i ∧ t.2.2.2.2.1 i = w i) 61 N (by omega) ?_ (na, (b1, b2, b3, b4, b5, b6), 0, -1) (na, wm, wt, g', w', hs', A, 0, -1) ⟨rfl, rfl, he⟩ (fun p q => ∃ o o', p = some o ∧ q = some o' ∧ o.1 = o'.1 ∧ ek_F o.2.1 o.2.2.2.2.2.2.2.2.2.2.2.2.2.2.2.2.2.2 o'.2.1 o'.2.2.2.2.2.2.2.1 ∧ o.2.2.1 = o'.2.2.1 ∧ o'.2.2.2.1 = na ∧ o'.2.2.2.2.1 = c ∧ ∀ i, i < 9 → o'.2.2.2.2.2.2.2.2.2.2.1 i = hs i ∧ o'.2.2.2.2.2.2.2.2.1 i = g i ∧ o'.2.2.2.2.2.2.2.2.2.1 i = w i) ?_
    · rintro n2 v ⟨s1, ⟨c1, c2, c3, c4, c5, c6⟩, s2, s3⟩ ⟨t1, t2, t3, gg, ww, hh, AA, t4, t5⟩ hv ⟨i1, i2, i3⟩
      simp only at i1 i2 i3
      subst i1 i2
      have hT' : ek_T la (nI v) li := ⟨hT.1, ⟨v, by omega, rfl⟩, hT.2.2⟩
      have hBg : ek_B n c gg ww := ek_Beq hB (fun i hi => (i3 i hi).2)
      have hpt : ek_pt c gg n = ek_pt c g n := ek_ptext (fun k hk _ => (i3 k (by omega)).2.1)
      obtain ⟨wm', wt', g2, w2, hs2, A2, e, e2⟩ := ek_sumBy (ho := ho) (wm := t2) (wt := t3) (hs := hh) (A := AA) hN hD hT' hBg hk hvo (by omega) hS hC
      rw [hpt] at e
      refine ⟨(nI v, (la, nI v, li, (ek_bi la (nI v) li F L (ek_pt c g n)).1, (ek_bi la (nI v) li F L (ek_pt c g n)).2.1, (ek_bi la (nI v) li F L (ek_pt c g n)).2.2), (if (ek_bi la (nI v) li F L (ek_pt c g n)).1 - (ek_pt c g n).1 ≤ s3 then s2 else nI v), (if (ek_bi la (nI v) li F L (ek_pt c g n)).1 - (ek_pt c g n).1 ≤ s3 then s3 else (ek_bi la (nI v) li F L (ek_pt c g n)).1 - (ek_pt c g n).1)), (nI v, wm', wt', g2, w2, hs2, A2, (if (ek_bi la (nI v) li F L (ek_pt c g n)).1 - (ek_pt c g n).1 ≤ s3 then s2 else nI v), (if (ek_bi la (nI v) li F L (ek_pt c g n)).1 - (ek_pt c g n).1 ≤ s3 then s3 else (ek_bi la (nI v) li F L (ek_pt c g n)).1 - (ek_pt c g n).1)), ?_, ?_, ?_⟩
      · simp only
        rw [f_X11_best_b31, if_neg (show ¬ (60 : Int32) < nI v from nI_nlt (a := 60) (by omega) (by omega)), ek_bring hN hn (ek_lsn hvo) hls h9, bn_t]
        unfold f_X11_best_b67
        rw [nI_1]
      · simp only
        rw [f_X12_best_b26, if_neg (show ¬ (60 : Int32) < nI v from nI_nlt (a := 60) (by omega) (by omega)), e, bn_t]
        unfold f_X12_best_b60 f_X12_best_b76
        rw [nI_1]
      · refine ⟨rfl, rfl, fun i hi => ?_⟩
        obtain ⟨p1, p2, p3⟩ := e2 i hi
        obtain ⟨q1, q2, q3⟩ := i3 i hi
        exact ⟨p3.trans q1, p1.trans q2, p2.trans q3⟩
    · rintro n2 ⟨s1, ⟨c1, c2, c3, c4, c5, c6⟩, s2, s3⟩ ⟨t1, t2, t3, gg, ww, hh, AA, t4, t5⟩ ⟨i1, i2, i3⟩
      simp only at i1 i2 i3
      subst i1 i2
      simp only
      apply ek_mk2
      · rw [f_X11_best_b31, if_pos (show (60 : Int32) < nI 61 from nI_lt (a := 60) (by omega) (by omega)), nm_t]
      · rw [f_X12_best_b26, if_pos (show (60 : Int32) < nI 61 from nI_lt (a := 60) (by omega) (by omega)), nm_t]
      · exact ⟨rfl, hF, rfl, rfl, rfl, i3⟩
theorem r_first {N n : Nat} {F D S C S' C' g w hs g' w' hs' Cn Cn' sq A : Nat → Int32} {la na li ho c wm wt l l' ak a1 a2 a3 a4 a5 a6 b1 b2 b3 b4 b5 b6 ln mb : Int32} (hN : 5000 ≤ N) (hD : ek_D n F D) (hT : ek_T la na li) (hB : ek_B n c g w) (he : ∀ i, i < 9 → hs' i = hs i ∧ g' i = g i ∧ w' i = w i) (hH : ek_H 6 40 S C S' C') (hF : ek_F l Cn l' Cn') (x y : Int32) :
    ∃ o o', f_X11_first N 40 S C (nI n) F c la na li g l ak a1 a2 a3 a4 a5 a6 b1 b2 b3 b4 b5 b6 ln mb sq Cn x y = some o ∧ f_X12_first N (nI n) la na li ho S' C' D l' ak c wm wt Cn' g' w' hs' A x y = some o' ∧ o.1 = o'.1 ∧ ek_F o.2.1 o.2.2.2.2.2.2.2.2.2.2.2.2.2.2.2.2.2.2 o'.2.1 o'.2.2.2.2.2.2.1 ∧ o.2.2.1 = o'.2.2.1 ∧ o'.2.2.2.1 = c ∧ ∀ i, i < 9 → o'.2.2.2.2.2.2.2.2.2.1 i = hs i ∧ o'.2.2.2.2.2.2.2.1 i = g i ∧ o'.2.2.2.2.2.2.2.2.1 i = w i := by
  have hn := hD.1
  have hB' : ek_B n c g' w' := ek_Beq hB (fun i hi => (he i hi).2)
  have hpt : ek_pt c g' n = ek_pt c g n := ek_ptext (fun k hk _ => (he k (by omega)).2.1)
  rcases ek_desk x hn with ⟨d1, d2, -⟩ | ⟨i, hi, rfl, d1, d2⟩
  · apply ek_mk2
    · unfold f_X11_first; rw [if_pos d1]
    · unfold f_X12_first; rw [if_pos d2]
    · exact ⟨rfl, hF, rfl, rfl, he⟩
  rcases ek_readO (ln := ln) (mb := mb) (sq := sq) hN hn hH hF hB.1 y with ⟨a, l2, ln2, mb2, sq2, Cn2, l2', Cn2', h1, h2, h3, h4, h5⟩ | ⟨k, L, mb2, sq2, hk, rfl, h1, h2, hvo, h9, hls, hmb, hS, hC⟩
  · apply ek_mk2
    · unfold f_X11_first; rw [if_neg d1, h1, bn_t, if_neg h3]
    · unfold f_X12_first; rw [if_neg d2, h2, bn_t, if_neg h4]
    · exact ⟨rfl, h5, rfl, rfl, he⟩
  have em : f_X12_first N (nI n) la na li ho S' C' D l' ak c wm wt Cn' g' w' hs' A (nI i) (nI k) = f_X12_first_b35 N (f_X12_first_b75 N (nI n) la na li ho S' C' D) (nI n) la na li ho S' C' D N l' ak c wm wt Cn' g' w' hs' A (nI i) (nI k) (if ek_bt c i then 1 else 0) 0 := by
    unfold f_X12_first; rw [if_neg d2, h2, bn_t, if_pos (Int32.le_refl _), nm_t, ek_has c (by omega)]
  -- the model looks for the desk in the row
  have el : ∃ b : Bool, (b = true ↔ (ek_bt c i = true ∨ ∃ q, q < L.length ∧ L.getD q 0 = i)) ∧ f_X12_first_b35 N (f_X12_first_b75 N (nI n) la na li ho S' C' D) (nI n) la na li ho S' C' D N l' ak c wm wt Cn' g' w' hs' A (nI i) (nI k) (if ek_bt c i then 1 else 0) 0 = f_X12_first_b75 N (nI n) la na li ho S' C' D l' ak c wm wt Cn' g' w' hs' A (nI i) (nI k) (if b then 1 else 0) := by
    refine ek_forI (fun n2 z (s : Bool) => f_X12_first_b35 N (f_X12_first_b75 N (nI n) la na li ho S' C' D) (nI n) la na li ho S' C' D n2 l' ak c wm wt Cn' g' w' hs' A (nI i) (nI k) (if s then 1 else 0) z) (fun j s => s = true ↔ (ek_bt c i = true ∨ ∃ q, q < j ∧ L.getD q 0 = i)) L.length N (by omega) ?_ (ek_bt c i) ?_ (fun o => ∃ b : Bool, (b = true ↔ (ek_bt c i = true ∨ ∃ q, q < L.length ∧ L.getD q 0 = i)) ∧ o = f_X12_first_b75 N (nI n) la na li ho S' C' D l' ak c wm wt Cn' g' w' hs' A (nI i) (nI k) (if b then 1 else 0)) ?_
    · intro n2 j s hj hs2
      cases s
      · refine ⟨decide (L.getD j 0 = i), ?_, ?_⟩
        · rw [f_X12_first_b35, gd_t (ek_inb hk (by decide)), nI_clamp (by omega), hS, if_neg (nI_ge hj (by omega)), if_pos (by rfl), ek_rowAt hk (by omega), bn_t, hC j hj]
          unfold f_X12_first_b67
          rw [nI_1]
          have := ek_lsn hvo j hj
          by_cases q : L.getD j 0 = i
          · rw [if_pos (by rw [q]), decide_eq_true q]; rfl
          · rw [if_neg (fun w => q ((nI_eq (by omega) (by omega)).mp w)), decide_eq_false q]; rfl
        · rw [decide_eq_true_eq]
          constructor
          · intro q; exact Or.inr ⟨j, by omega, q⟩
          · rintro (q | ⟨p, p1, p2⟩)
            · exact absurd (hs2.mpr (Or.inl q)) (by decide)
            · rcases Nat.lt_or_ge p j with w | w
              · exact absurd (hs2.mpr (Or.inr ⟨p, w, p2⟩)) (by decide)
              · have : p = j := by omega
                rw [← this]; exact p2
      · refine ⟨true, ?_, ?_⟩
        · simp only [if_true]
          rw [f_X12_first_b35, gd_t (ek_inb hk (by decide)), nI_clamp (by omega), hS, if_neg (nI_ge hj (by omega)), if_neg (by decide)]
          unfold f_X12_first_b67
          rw [nI_1]
        · constructor
          · intro _
            rcases hs2.mp rfl with q | ⟨p, p1, p2⟩
            · exact Or.inl q
            · exact Or.inr ⟨p, by omega, p2⟩
          · intro _; rfl
    · constructor
      · intro q; exact Or.inl q
      · rintro (q | ⟨p, p1, -⟩)
        · exact q
        · exact absurd p1 (by omega)
    · intro n2 s hs2
      refine ⟨s, hs2, ?_⟩
      rw [f_X12_first_b35, gd_t (ek_inb hk (by decide)), nI_clamp (by omega), hS, if_pos (nI_le (Nat.le_refl _) (by omega))]
  obtain ⟨b, hb, el⟩ := el
  rw [em, el]
  have hho : p_X3_holds mb2 (nI i) = if ek_bt mb2 i then 1 else 0 := by
    unfold p_X3_holds
    rw [if_neg (nI_pos (by omega)), if_neg (show ¬ (9 : Int32) ≤ _ from nI_ge (b := 9) (by omega) (by omega)), ek_bits mb2 (by omega)]
    cases ek_bt mb2 i <;> rfl
  cases b
  · have n1 : ¬ ek_bt c i = true := fun q => absurd (hb.mpr (Or.inl q)) (by decide)
    have n2 : ¬ ek_bt mb2 i = true := fun q => absurd (hb.mpr (Or.inr ((hmb i (by omega)).mp q))) (by decide)
    have n1' : ek_bt c i = false := by
      cases z : ek_bt c i with
      | false => rfl
      | true => exact absurd z n1
    obtain ⟨wm1, wt1, g1, w1, hs1, A1, e1, f1⟩ := ek_sumBy (ho := ho) (wm := wm) (wt := wt) (hs := hs') (A := A) hN hD hT hB' hk hvo (by omega) hS hC
    obtain ⟨A2, p1, p2, p3⟩ := ek_aside (c := c) (g := g1) (w := w1) (h := hs1) (A := A1) hN
    have hB1 : ek_B n c g1 w1 := ek_Beq hB' (fun q hq => ⟨(f1 q hq).1, (f1 q hq).2.1⟩)
    obtain ⟨m1, m2, e2⟩ := ek_puts (N := N) (hour := ho) (a := wm1) (b := wt1) (hs := hs1) hN hD hT hB1 hi
    have hB2 := ek_Bset hn hD.2.2 hT hB1 hi
    have hpt1 : ek_pt c g1 n = ek_pt c g n := ek_ptext (fun q hq _ => (f1 q (by omega)).1.trans (he q (by omega)).2.1)
    have hpt2 := ek_pu1pt (la := la) (na := na) (li := li) (ho := ho) (F := F) (s := (c, g1, w1, hs1)) hn hi n1'
    have hvo2 : ek_vo n (c ||| ((1 : Int32) <<< (nI i &&& 31))) L := by
      refine ⟨fun q hq => ⟨(hvo.1 q hq).1, ?_⟩, hvo.2⟩
      have := (hvo.1 q hq).1
      rw [ek_bset c (by omega) (by omega), (hvo.1 q hq).2, decide_eq_false (fun w => absurd (hb.mpr (Or.inr ⟨q, hq, w.symm⟩)) (by decide))]; rfl
    obtain ⟨wm3, wt3, g3, w3, hs3, c3, e3⟩ := ek_putsRow (ho := ho) (wm := m1) (wt := m2) (hs := upd hs1 i ho) hN hD hT hB2 hk hvo2 (by omega) hS hC
    obtain ⟨g4, w4, h4, b1', b2'⟩ := ek_back (c := c3) (g := g3) (w := w3) (h := hs3) (A := A2) hN
    have hP : ek_pt (c ||| ((1 : Int32) <<< (nI i &&& 31))) (upd g1 i (ek_G n la na li F c g1 i)) n = ek_tk (ek_pt c g n) (ek_gv la na li (ek_ds F i) (ek_pt c g n)) := by
      have := hpt2
      rw [hpt1] at this
      exact this
    rw [hP] at e3
    apply ek_mk2
    · unfold f_X11_first
      rw [if_neg d1, h1, bn_t, if_pos rfl, ek_isC c (by omega), if_neg n1, if_pos rfl, hho, if_neg n2, if_pos rfl, ek_layX5 hN, bn_t, ek_ptn hB.1 g hn]
      simp only
      rw [ek_bring hN hn (ek_lsn hvo) hls h9, bn_t, ek_gvX hn hi, bn_t, nm_t, ek_take]
      simp only
      rw [ek_bring hN hn (ek_lsn hvo) hls h9, bn_t, nm_t]
    · unfold f_X12_first_b75
      rw [if_pos (by rfl), e1, bn_t, p1, bn_t, e2, bn_t, e3, bn_t, b1', bn_t, p2, nm_t, hpt]
    · refine ⟨rfl, hF, rfl, rfl, fun q hq => ?_⟩
      obtain ⟨r1, r2, r3⟩ := b2' q hq
      obtain ⟨s1, s2, s3⟩ := p3 q hq
      obtain ⟨t1, t2, t3⟩ := f1 q hq
      obtain ⟨u1, u2, u3⟩ := he q hq
      exact ⟨r3.trans (s3.trans (t3.trans u1)), r1.trans (s1.trans (t1.trans u2)), r2.trans (s2.trans (t2.trans u3))⟩
  · have ref : f_X11_first N 40 S C (nI n) F c la na li g l ak a1 a2 a3 a4 a5 a6 b1 b2 b3 b4 b5 b6 ln mb sq Cn (nI i) (nI k) = some (-3, nI 3, ak, a1, a2, a3, a4, a5, a6, b1, b2, b3, b4, b5, b6, nI L.length, mb2, sq2, upd Cn 3 (Cn 3 + 1)) := by
      unfold f_X11_first
      rw [if_neg d1, h1, bn_t, if_pos rfl, ek_isC c (by omega)]
      by_cases q : ek_bt c i = true
      · rw [if_pos q, if_neg (by decide)]
        show nm (p_X11_refuse l Cn (nI 3)) _ = _
        rw [ek_ref (by decide) (by decide)]; rfl
      · rw [if_neg q, if_pos rfl, hho]
        have : ek_bt mb2 i = true := by
          rcases hb.mp rfl with w | w
          · exact absurd w q
          · exact (hmb i (by omega)).mpr w
        rw [if_pos this, if_neg (by decide)]
        show nm (p_X11_refuse l Cn (nI 3)) _ = _
        rw [ek_ref (by decide) (by decide)]; rfl
    refine ek_mk2 (b := (-3, nI 3, ak, c, wm, wt, upd Cn' 3 (Cn' 3 + 1), g', w', hs', A)) ref ?_ ?_
    · unfold f_X12_first_b75
      rw [if_neg (by decide)]
      show bn (f_X12_meet N l' Cn' (nI 3)) _ = _
      rw [ek_meet (by decide)]; rfl
    · exact ⟨rfl, ek_F_upd hF (by decide), rfl, rfl, he⟩
