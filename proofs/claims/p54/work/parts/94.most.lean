/-! most, spans -/
theorem r_spans {N n : Nat} {F D g w hs g' w' hs' A laid ml bq sq : Nat → Int32} {la na li ho c wm wt sm sl ia x ak a1 a2 a3 a4 a5 a6 b1 b2 b3 b4 b5 b6 ln mb mo le : Int32} (hN : 5000 ≤ N) (hD : ek_D n F D) (hT : ek_T la na li) (hB : ek_B n c g w) (he : ∀ i, i < 9 → hs' i = hs i ∧ g' i = g i ∧ w' i = w i) :
    ∃ an ak2 p1 p2 p3 p4 p5 p6 q1 q2 q3 q4 q5 q6 ln2 mb2 mo2 le2 sq2 bq2 wm2 wt2 sm2 sl2 ia2 g2 w2 hs2 A2 laid2 ml2, f_X11_spans N (nI n) F c la na li g ak a1 a2 a3 a4 a5 a6 b1 b2 b3 b4 b5 b6 ln mb mo le sq bq x = some (an, ak2, p1, p2, p3, p4, p5, p6, q1, q2, q3, q4, q5, q6, ln2, mb2, mo2, le2, sq2, bq2) ∧ f_X12_spans N (nI n) la na li ho D ak c wm wt sm sl ia g' w' hs' A laid ml x = some (an, ak2, c, wm2, wt2, sm2, sl2, ia2, g2, w2, hs2, A2, laid2, ml2) ∧ ∀ i, i < 9 → hs2 i = hs i ∧ g2 i = g i ∧ w2 i = w i := by
  rcases ek_spn (x := x) (A := A) (laid := laid) (ml := ml) (bq := bq) (sq := sq) (ho := ho) (wm := wm) (wt := wt) (sm := sm) (sl := sl) (ia := ia) (a1 := a1) (a2 := a2) (a3 := a3) (a4 := a4) (a5 := a5) (a6 := a6) (b1 := b1) (b2 := b2) (b3 := b3) (b4 := b4) (b5 := b5) (b6 := b6) (ln := ln) (mb := mb) (mo := mo) (le := le) hN hD hT hB he with ⟨h1, h2⟩ | ⟨h1, h2, h3⟩ | ⟨m, L, mx, mn, t1, t2, t3, t4, t5, t6, mb2, sq2, bq2, wm2, wt2, g2, w2, hs2, A2, laid2, ml2, h1, h2, h6, hlen, hpc, e1, hl1, e2, hl2, hh⟩
  · refine ⟨-1, ak, a1, a2, a3, a4, a5, a6, b1, b2, b3, b4, b5, b6, ln, mb, mo, le, sq, bq, wm, wt, sm, sl, ia, g', w', hs', A, laid, ml, ?_, ?_, he⟩
    · unfold f_X11_spans; rw [if_pos h1]
    · unfold f_X12_spans; rw [h2, bn_t, if_neg (show ¬ (0 : Int32) ≤ -1 by decide)]
  · refine ⟨-6, ak, a1, a2, a3, a4, a5, a6, b1, b2, b3, b4, b5, b6, ln, mb, mo, le, sq, bq, wm, wt, sm, sl, ia, g', w', hs', A, laid, ml, ?_, ?_, he⟩
    · unfold f_X11_spans; rw [if_neg h1, nm_t, if_neg h2]
    · unfold f_X12_spans; rw [h3, bn_t, if_neg (show ¬ (0 : Int32) ≤ -6 by decide)]
  · refine ⟨mn, mx, la, na, li, (ek_pt c g n).1, (ek_pt c g n).2.1, (ek_pt c g n).2.2, t1, t2, t3, t4, t5, t6, nI m, mb2, mx, mn, sq2, bq2, wm2, wt2, mx, mn, 1, g2, w2, hs2, A2, laid2, ml2, ?_, ?_, hh⟩
    · unfold f_X11_spans p_X11_tell
      rw [if_neg h1, nm_t, if_pos h2, e1, bn_t, nm_t]
    · unfold f_X12_spans p_X12_say
      rw [e2, bn_t, if_pos (show (0 : Int32) ≤ 0 by decide), nm_t]
theorem ek_rowM {N k m : Nat} {S C Cn : Nat → Int32} {l : Int32} (hN : 5000 ≤ N) (hk : k < 6) (hm : m ≤ 40) : f_X12_row N l Cn S C (nI k) (nI m) = some (nI m, l, Cn, upd S k (nI m), ek_fo (fun j s => upd s (40 * k + j) 0) C 40) := by
  have e2 : ¬ p_X12_isRow (nI k) = 0 := by unfold p_X12_isRow; rw [show ((5 : Int32)) = nI 5 from rfl, ek_in1 (by omega) (by decide)]; decide
  unfold f_X12_row
  rw [if_neg e2, if_pos (show nI m ≤ (40 : Int32) from nI_le (b := 40) hm (by omega)), if_pos (nI_pos' (by omega)), gd_t (ek_inb hk (by decide)), nI_clamp (by omega)]
  refine ek_for (fun n' x s => f_X12_row_b34 N n' l Cn (upd S k (nI m)) s (nI k) (nI m) x) (fun j s => upd s (40 * k + j) 0) (fun _ _ => True) 40 N (by omega) ?_ C trivial _ ?_
  · intro n' j s hj _
    refine ⟨?_, trivial⟩
    try simp only
    rw [f_X12_row_b34, if_neg (show ¬ (40 : Int32) ≤ nI j from nI_ge (b := 40) hj (by omega)), ek_setRow hk hj, bn_t, nI_1]
  · intro n' _
    try simp only
    rw [f_X12_row_b34, if_pos (show (40 : Int32) ≤ nI 40 from nI_le (a := 40) (Nat.le_refl _) (by omega))]
theorem r_most {N n : Nat} {F D S C S' C' Cn' g w hs g' w' hs' A laid ml bq sq : Nat → Int32} {la na li ho c wm wt sm sl ia x y l' a1 a2 a3 a4 a5 a6 b1 b2 b3 b4 b5 b6 ln mb mo le : Int32} (hN : 5000 ≤ N) (hD : ek_D n F D) (hT : ek_T la na li) (hB : ek_B n c g w) (he : ∀ i, i < 9 → hs' i = hs i ∧ g' i = g i ∧ w' i = w i) (hH : ek_H 6 40 S C S' C') :
    ∃ an S2 C2 p1 p2 p3 p4 p5 p6 q1 q2 q3 q4 q5 q6 ln2 mb2 mo2 le2 sq2 bq2 S2' C2' wm2 wt2 sm2 sl2 ia2 g2 w2 hs2 A2 laid2 ml2, f_X11_most N 40 (nI n) F c la na li g S C a1 a2 a3 a4 a5 a6 b1 b2 b3 b4 b5 b6 ln mb mo le sq bq x y = some (an, S2, C2, p1, p2, p3, p4, p5, p6, q1, q2, q3, q4, q5, q6, ln2, mb2, mo2, le2, sq2, bq2) ∧ f_X12_most N (nI n) la na li ho D l' c wm wt sm sl ia Cn' S' C' g' w' hs' A laid ml x y = some (an, l', c, wm2, wt2, sm2, sl2, ia2, Cn', S2', C2', g2, w2, hs2, A2, laid2, ml2) ∧ ek_H 6 40 S2 C2 S2' C2' ∧ ∀ i, i < 9 → hs2 i = hs i ∧ g2 i = g i ∧ w2 i = w i := by
  have bad : ∀ z : Int32, (f_X11_most N 40 (nI n) F c la na li g S C a1 a2 a3 a4 a5 a6 b1 b2 b3 b4 b5 b6 ln mb mo le sq bq x y = some (z, S, C, a1, a2, a3, a4, a5, a6, b1, b2, b3, b4, b5, b6, ln, mb, mo, le, sq, bq)) → (f_X12_most N (nI n) la na li ho D l' c wm wt sm sl ia Cn' S' C' g' w' hs' A laid ml x y = some (z, l', c, wm, wt, sm, sl, ia, Cn', S', C', g', w', hs', A, laid, ml)) → ∃ an S2 C2 p1 p2 p3 p4 p5 p6 q1 q2 q3 q4 q5 q6 ln2 mb2 mo2 le2 sq2 bq2 S2' C2' wm2 wt2 sm2 sl2 ia2 g2 w2 hs2 A2 laid2 ml2, f_X11_most N 40 (nI n) F c la na li g S C a1 a2 a3 a4 a5 a6 b1 b2 b3 b4 b5 b6 ln mb mo le sq bq x y = some (an, S2, C2, p1, p2, p3, p4, p5, p6, q1, q2, q3, q4, q5, q6, ln2, mb2, mo2, le2, sq2, bq2) ∧ f_X12_most N (nI n) la na li ho D l' c wm wt sm sl ia Cn' S' C' g' w' hs' A laid ml x y = some (an, l', c, wm2, wt2, sm2, sl2, ia2, Cn', S2', C2', g2, w2, hs2, A2, laid2, ml2) ∧ ek_H 6 40 S2 C2 S2' C2' ∧ ∀ i, i < 9 → hs2 i = hs i ∧ g2 i = g i ∧ w2 i = w i := by
    intro z h1 h2
    exact ⟨z, S, C, a1, a2, a3, a4, a5, a6, b1, b2, b3, b4, b5, b6, ln, mb, mo, le, sq, bq, S', C', wm, wt, sm, sl, ia, g', w', hs', A, laid, ml, h1, h2, hH, he⟩
  have badrow : (y < 0 ∨ nI 6 ≤ y) → p_X7_names 6 y = 0 ∧ p_X12_isRow y = 0 := by
    intro q
    exact ⟨ek_nam0 q, by unfold p_X12_isRow; rw [show ((5 : Int32)) = nI 5 from rfl, ek_in0 (by decide) q]⟩
  have hrow : (p_X7_names 6 y = 0 ∧ p_X12_isRow y = 0) ∨ ∃ k, k < 6 ∧ y = nI k := by
    rcases ek_ix y 6 (by omega) with q | q | q
    · exact Or.inl (badrow (Or.inl q))
    · exact Or.inl (badrow (Or.inr q))
    · exact Or.inr q
  rcases hrow with ⟨r1, r2⟩ | ⟨k, hk, rfl⟩
  · apply bad (-1)
    · unfold f_X11_most; rw [if_pos r1]
    · unfold f_X12_most; rw [if_pos r2]
  have e1 : ¬ p_X7_names 6 (nI k) = 0 := by rw [ek_nam1 hk (by decide)]; decide
  have e2 : ¬ p_X12_isRow (nI k) = 0 := by unfold p_X12_isRow; rw [show ((5 : Int32)) = nI 5 from rfl, ek_in1 (by omega) (by decide)]; decide
  rcases ek_spn (x := x) (A := A) (laid := laid) (ml := ml) (bq := bq) (sq := sq) (ho := ho) (wm := wm) (wt := wt) (sm := sm) (sl := sl) (ia := ia) (a1 := a1) (a2 := a2) (a3 := a3) (a4 := a4) (a5 := a5) (a6 := a6) (b1 := b1) (b2 := b2) (b3 := b3) (b4 := b4) (b5 := b5) (b6 := b6) (ln := ln) (mb := mb) (mo := mo) (le := le) hN hD hT hB he with ⟨h1, h2⟩ | ⟨h1, h2, h3⟩ | ⟨m, L, mx, mn, t1, t2, t3, t4, t5, t6, mb2, sq2, bq2, wm2, wt2, g2, w2, hs2, A2, laid2, ml2, h1, h2, h6, hlen, hpc, f1, hl1, f2, hl2, hh⟩
  · apply bad (-1)
    · unfold f_X11_most; rw [if_neg e1, if_pos h1]
    · unfold f_X12_most; rw [if_neg e2, h2, bn_t, if_neg (show ¬ (0 : Int32) ≤ -1 by decide)]
  · apply bad (-6)
    · unfold f_X11_most; rw [if_neg e1, if_neg h1, nm_t, if_neg h2]
    · unfold f_X12_most; rw [if_neg e2, h3, bn_t, if_neg (show ¬ (0 : Int32) ≤ -6 by decide)]
  · subst hlen
    have hX : f_X11_most N 40 (nI n) F c la na li g S C a1 a2 a3 a4 a5 a6 b1 b2 b3 b4 b5 b6 ln mb mo le sq bq x (nI k) = f_X11_most_b69 N 40 (nI n) F c la na li g N (upd S k (nI L.length)) (ek_fo (fun j s => upd s (40 * k + j) 0) C L.length) la na li (ek_pt c g n).1 (ek_pt c g n).2.1 (ek_pt c g n).2.2 t1 t2 t3 t4 t5 t6 (nI L.length) mb2 mx mn sq2 bq2 (nI k) 0 := by
      unfold f_X11_most
      rw [if_neg e1, if_neg h1, nm_t, if_pos h2, f1, bn_t]
      try simp only
      rw [show ((40 : Int32)) = nI 40 from rfl, ek_make (P := 40) hN hk (by omega) rfl (by decide) (by decide) (by decide), bn_t]
    have hM : f_X12_most N (nI n) la na li ho D l' c wm wt sm sl ia Cn' S' C' g' w' hs' A laid ml x (nI k) = f_X12_most_b45 N (nI n) la na li ho D N l' c wm2 wt2 mx mn 1 Cn' (upd S' k (nI L.length)) (ek_fo (fun j s => upd s (40 * k + j) 0) C' 40) g2 w2 hs2 A2 laid2 ml2 (nI k) (nI L.length) 0 := by
      unfold f_X12_most
      rw [if_neg e2, f2, bn_t, if_pos (show (0 : Int32) ≤ 0 by decide)]
      try simp only
      rw [ek_bcM hN, bn_t, hpc, ek_rowM hN hk (by omega), bn_t]
    have hH2 := ek_Hmake (k := k) (v := 0) hH (n := L.length) (m := 40) (by omega) (Nat.le_refl _)
    rw [hX, hM]
    refine ek_for2 (fun n2 z (s : Nat → Int32) => f_X11_most_b69 N 40 (nI n) F c la na li g n2 (upd S k (nI L.length)) s la na li (ek_pt c g n).1 (ek_pt c g n).2.1 (ek_pt c g n).2.2 t1 t2 t3 t4 t5 t6 (nI L.length) mb2 mx mn sq2 bq2 (nI k) z) (fun n2 z (t : Nat → Int32) => f_X12_most_b45 N (nI n) la na li ho D n2 l' c wm2 wt2 mx mn 1 Cn' (upd S' k (nI L.length)) t g2 w2 hs2 A2 laid2 ml2 (nI k) (nI L.length) z) (fun _ s t => ek_H 6 40 (upd S k (nI L.length)) s (upd S' k (nI L.length)) t) L.length N (by omega) ?_ _ _ hH2 (fun p q => ∃ an S2 C2 p1 p2 p3 p4 p5 p6 q1 q2 q3 q4 q5 q6 ln2 mb2 mo2 le2 sq2 bq2 S2' C2' wm2 wt2 sm2 sl2 ia2 g2 w2 hs2 A2 laid2 ml2, p = some (an, S2, C2, p1, p2, p3, p4, p5, p6, q1, q2, q3, q4, q5, q6, ln2, mb2, mo2, le2, sq2, bq2) ∧ q = some (an, l', c, wm2, wt2, sm2, sl2, ia2, Cn', S2', C2', g2, w2, hs2, A2, laid2, ml2) ∧ ek_H 6 40 S2 C2 S2' C2' ∧ ∀ i, i < 9 → hs2 i = hs i ∧ g2 i = g i ∧ w2 i = w i) ?_
    · intro n2 j s t hj hI
      have hbest : p_X3_bestAt bq2 (nI j) = ml2 j := by
        unfold p_X3_bestAt
        rw [if_neg (nI_pos (by omega)), if_neg (show ¬ (9 : Int32) ≤ _ from nI_ge (b := 9) (by omega) (by omega)), nI_clamp (by omega), hl1 j hj, hl2 j hj]
      refine ⟨upd s (40 * k + j) (ml2 j), upd t (40 * k + j) (ml2 j), ?_, ?_, hI.set _ _⟩
      · try simp only
        rw [f_X11_most_b69, if_neg (nI_ge hj (by omega)), hbest, nm_t, show ((40 : Int32)) = nI 40 from rfl, ek_setc (P := 40) s (z := L.length) pk_us hk hj (by omega) rfl (by decide) (by decide) (by decide), nI_1]
      · try simp only
        rw [f_X12_most_b45, if_neg (nI_ge hj (by omega)), gd_t (ek_inb (by omega) (by omega)), nI_clamp (by omega), ek_setRow hk (by omega), bn_t, nI_1]
    · intro n2 s t hI
      refine ⟨mx, upd S k (nI L.length), s, la, na, li, (ek_pt c g n).1, (ek_pt c g n).2.1, (ek_pt c g n).2.2, t1, t2, t3, t4, t5, t6, nI L.length, mb2, mx, mn, sq2, bq2, upd S' k (nI L.length), t, wm2, wt2, mx, mn, 1, g2, w2, hs2, A2, laid2, ml2, ?_, ?_, hI, hh⟩
      · try simp only
        rw [f_X11_most_b69, if_pos (nI_le (Nat.le_refl _) (by omega))]
      · try simp only
        rw [f_X12_most_b45, if_pos (nI_le (Nat.le_refl _) (by omega))]
