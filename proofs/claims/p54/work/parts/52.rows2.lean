/-! row, text, put, copy, mean -/
theorem ek_fill {b v : _} {C : Nat → Int32} : ∀ m p, ek_fo (fun j (s : Nat → Int32) => upd s (b + j) v) C m p = if b ≤ p ∧ p < b + m then v else C p := by
  intro m
  induction m with
  | zero => intro p; rw [if_neg (by omega)]; rfl
  | succ m ih =>
    intro p
    show (if p = b + m then v else ek_fo (fun j (s : Nat → Int32) => upd s (b + j) v) C m p) = _
    by_cases e : p = b + m
    · rw [if_pos e, if_pos (by omega)]
    · rw [if_neg e, ih p]
      by_cases q : b ≤ p ∧ p < b + m
      · rw [if_pos q, if_pos (by omega)]
      · rw [if_neg q, if_neg (by omega)]
theorem ek_make {N K P nC : Nat} {S C : Nat → Int32} {k n : Nat} {v : Int32} (hN : 5000 ≤ N) (hk : k < K) (hn : n ≤ P) (hC : K * P = nC) (hnC : nC < 1000) (hK : K < 10) (hP : P < 1000) :
    f_X7_make N K nC (nI P) S C (nI k) (nI n) v = some (upd S k (nI n), ek_fo (fun j s => upd s (P * k + j) v) C n) := by
  unfold f_X7_make
  rw [if_neg (nI_pos (by omega)), if_neg (show ¬ Int32.ofNat K ≤ nI k from nI_ge hk (by omega)), if_neg (nI_pos (by omega)), if_neg (nI_nlt hn (by omega)), nI_clamp (by omega)]
  refine ek_for (fun n' x s => f_X7_make_b35 N K nC (nI P) n' (upd S k (nI n)) s (nI k) (nI n) v x) (fun j s => upd s (P * k + j) v) (fun _ _ => True) n N (by omega) ?_ C trivial _ ?_
  · intro n' j s hj _
    refine ⟨?_, trivial⟩
    show f_X7_make_b35 N K nC (nI P) (n' + 1) _ _ _ _ _ _ = _
    rw [f_X7_make_b35, if_neg (nI_ge hj (by omega))]
    simp only [nm]
    rw [ek_setc s (z := n) (by unfold upd; rw [if_pos rfl]) hk hj hn hC hnC hK hP, nI_1]
  · intro n' _
    show f_X7_make_b35 N K nC (nI P) (n' + 1) _ _ _ _ _ _ = _
    rw [f_X7_make_b35, if_pos (nI_le (Nat.le_refl _) (by omega))]
theorem ek_blk {P k j i n : Nat} (hi : i < P) (hn : n ≤ P) (h : P * k ≤ P * j + i ∧ P * j + i < P * k + n) : j = k := by
  rcases Nat.lt_trichotomy j k with q | q | q
  · have := Nat.mul_le_mul_left P (show j + 1 ≤ k from q)
    rw [Nat.mul_add, Nat.mul_one] at this; omega
  · exact q
  · have := Nat.mul_le_mul_left P (show k + 1 ≤ j from q)
    rw [Nat.mul_add, Nat.mul_one] at this; omega
theorem ek_Hmake {K P : Nat} {S C S' C' : Nat → Int32} {k n m : Nat} {v : Int32} (h : ek_H K P S C S' C') (hn : n ≤ m) (hm : m ≤ P) :
    ek_H K P (upd S k (nI n)) (ek_fo (fun j s => upd s (P * k + j) v) C n) (upd S' k (nI n)) (ek_fo (fun j s => upd s (P * k + j) v) C' m) := by
  intro j hj
  unfold upd
  by_cases e : j = k
  · subst e
    right
    refine ⟨n, by omega, if_pos rfl, if_pos rfl, fun i hi => ?_⟩
    have a := ek_fill (b := P * j) (v := v) (C := C) n (P * j + i)
    have b := ek_fill (b := P * j) (v := v) (C := C') m (P * j + i)
    unfold upd at a b
    rw [a, b, if_pos (by omega), if_pos (by omega)]
  · simp only [if_neg e]
    rcases h j hj with a | ⟨z, hz, a, b, c⟩
    · exact Or.inl a
    · right
      refine ⟨z, hz, a, b, fun i hi => ?_⟩
      have a := ek_fill (b := P * k) (v := v) (C := C) n (P * j + i)
      have b := ek_fill (b := P * k) (v := v) (C := C') m (P * j + i)
      unfold upd at a b
      rw [a, b, if_neg (fun q => e (ek_blk (n := n) (by omega) (by omega) q)), if_neg (fun q => e (ek_blk (n := m) (by omega) hm q)), c i hi]
theorem r_row {S C S' C' : Nat → Int32} {l l' : Int32} {Cn Cn' : Nat → Int32} {N : Nat} (hN : 5000 ≤ N) (hH : ek_H 6 40 S C S' C') (hF : ek_F l Cn l' Cn') (x y : Int32) :
    ∃ o o', f_X11_row N 40 l S C Cn x y = some o ∧ f_X12_row N l' Cn' S' C' x y = some o' ∧ o.1 = o'.1 ∧ ek_F o.2.1 o.2.2.2.2 o'.2.1 o'.2.2.1 ∧ ek_H 6 40 o.2.2.1 o.2.2.2.1 o'.2.2.2.1 o'.2.2.2.2 := by
  rcases ek_ix x 6 (by omega) with q | q | ⟨k, hk, rfl⟩
  · apply ek_mk2
    · unfold f_X11_row; rw [ek_nam0 (Or.inl q), if_pos rfl]
    · unfold f_X12_row p_X12_isRow; rw [show ((5 : Int32)) = nI 5 from rfl, ek_in0 (by decide) (Or.inl q), if_pos rfl]
    · exact ⟨rfl, hF, hH⟩
  · apply ek_mk2
    · unfold f_X11_row; rw [ek_nam0 (Or.inr q), if_pos rfl]
    · unfold f_X12_row p_X12_isRow; rw [show ((5 : Int32)) = nI 5 from rfl, ek_in0 (by decide) (Or.inr q), if_pos rfl]
    · exact ⟨rfl, hF, hH⟩
  · have e1 : ¬ p_X7_names 6 (nI k) = 0 := by rw [ek_nam1 hk (by decide)]; decide
    have e2 : ¬ p_X12_isRow (nI k) = 0 := by unfold p_X12_isRow; rw [show ((5 : Int32)) = nI 5 from rfl, ek_in1 (by omega) (by decide)]; decide
    by_cases h4 : y ≤ 40
    · by_cases h0 : 0 ≤ y
      · obtain ⟨n, hn, rfl⟩ := nI_of2 (M := 40) (n := 40) rfl (kn1 h0) h4
        apply ek_mk2
        · unfold f_X11_row; rw [if_neg e1, if_pos h4, if_pos h0, show ((40 : Int32)) = nI 40 from rfl, ek_make hN hk hn rfl (by decide) (by decide) (by decide), bn_t]
        · unfold f_X12_row; rw [if_neg e2, if_pos h4, if_pos h0, gd_t (ek_inb hk (by decide)), nI_clamp (by omega)]
          refine ek_for (fun n' x s => f_X12_row_b34 N n' l' Cn' (upd S' k (nI n)) s (nI k) (nI n) x) (fun j s => upd s (40 * k + j) 0) (fun _ _ => True) 40 N (by omega) ?_ C' trivial _ ?_
          · intro n' j s hj _
            refine ⟨?_, trivial⟩
            show f_X12_row_b34 N (n' + 1) _ _ _ _ _ _ _ = _
            rw [f_X12_row_b34, if_neg (show ¬ (40 : Int32) ≤ nI j from nI_ge (b := 40) hj (by omega)), ek_setRow hk hj, bn_t, nI_1]
          · intro n' _
            show f_X12_row_b34 N (n' + 1) _ _ _ _ _ _ _ = _
            rw [f_X12_row_b34, if_pos (show (40 : Int32) ≤ nI 40 from nI_le (a := 40) (Nat.le_refl _) (by omega))]
        · exact ⟨rfl, hF, ek_Hmake hH hn (by decide)⟩
      · apply ek_mk2
        · unfold f_X11_row; rw [if_neg e1, if_pos h4, if_neg h0]
          simp only [nm]
          rw [show ((5 : Int32)) = nI 5 from rfl, ek_ref (by decide) (by decide)]
        · unfold f_X12_row; rw [if_neg e2, if_pos h4, if_neg h0, show ((5 : Int32)) = nI 5 from rfl, ek_meet (by decide), bn_t]
        · exact ⟨rfl, ek_F_upd hF (by decide), hH⟩
    · apply ek_mk2
      · unfold f_X11_row; rw [if_neg e1, if_neg h4]
      · unfold f_X12_row; rw [if_neg e2, if_neg h4]
      · exact ⟨rfl, hF, hH⟩
theorem r_text {S C S' C' : Nat → Int32} {l l' : Int32} {Cn Cn' : Nat → Int32} {N : Nat} (hN : 5000 ≤ N) (hH : ek_H 4 100 S C S' C') (hF : ek_F l Cn l' Cn') (x y : Int32) :
    ∃ o o', f_X11_text N 100 l S C Cn x y = some o ∧ f_X12_text N l' Cn' S' C' x y = some o' ∧ o.1 = o'.1 ∧ ek_F o.2.1 o.2.2.2.2 o'.2.1 o'.2.2.1 ∧ ek_H 4 100 o.2.2.1 o.2.2.2.1 o'.2.2.2.1 o'.2.2.2.2 := by
  rcases ek_ix x 4 (by omega) with q | q | ⟨k, hk, rfl⟩
  · apply ek_mk2
    · unfold f_X11_text; rw [ek_nam0 (Or.inl q), if_pos rfl]
    · unfold f_X12_text p_X12_isText; rw [show ((3 : Int32)) = nI 3 from rfl, ek_in0 (by decide) (Or.inl q), if_pos rfl]
    · exact ⟨rfl, hF, hH⟩
  · apply ek_mk2
    · unfold f_X11_text; rw [ek_nam0 (Or.inr q), if_pos rfl]
    · unfold f_X12_text p_X12_isText; rw [show ((3 : Int32)) = nI 3 from rfl, ek_in0 (by decide) (Or.inr q), if_pos rfl]
    · exact ⟨rfl, hF, hH⟩
  · have e1 : ¬ p_X7_names 4 (nI k) = 0 := by rw [ek_nam1 hk (by decide)]; decide
    have e2 : ¬ p_X12_isText (nI k) = 0 := by unfold p_X12_isText; rw [show ((3 : Int32)) = nI 3 from rfl, ek_in1 (by omega) (by decide)]; decide
    by_cases h4 : y ≤ 100
    · by_cases h0 : 0 ≤ y
      · obtain ⟨n, hn, rfl⟩ := nI_of2 (M := 100) (n := 100) rfl (kn1 h0) h4
        apply ek_mk2
        · unfold f_X11_text; rw [if_neg e1, if_pos h4, if_pos h0, show ((100 : Int32)) = nI 100 from rfl, ek_make hN hk hn rfl (by decide) (by decide) (by decide), bn_t]
        · unfold f_X12_text; rw [if_neg e2, if_pos h4, if_pos h0, gd_t (ek_inb hk (by decide)), nI_clamp (by omega)]
          refine ek_for (fun n' x s => f_X12_text_b34 N n' l' Cn' (upd S' k (nI n)) s (nI k) (nI n) x) (fun j s => upd s (100 * k + j) 32) (fun _ _ => True) 100 N (by omega) ?_ C' trivial _ ?_
          · intro n' j s hj _
            refine ⟨?_, trivial⟩
            show f_X12_text_b34 N (n' + 1) _ _ _ _ _ _ _ = _
            rw [f_X12_text_b34, if_neg (show ¬ (100 : Int32) ≤ nI j from nI_ge (b := 100) hj (by omega)), show ((100 : Int32)) = nI 100 from rfl, pk_mul, nI_add, gd_t (ek_inb (by omega) (by omega)), nI_clamp (by omega), nI_1]
          · intro n' _
            show f_X12_text_b34 N (n' + 1) _ _ _ _ _ _ _ = _
            rw [f_X12_text_b34, if_pos (show (100 : Int32) ≤ nI 100 from nI_le (a := 100) (Nat.le_refl _) (by omega))]
        · exact ⟨rfl, hF, ek_Hmake hH hn (by decide)⟩
      · apply ek_mk2
        · unfold f_X11_text; rw [if_neg e1, if_pos h4, if_neg h0]
          simp only [nm]
          rw [show ((5 : Int32)) = nI 5 from rfl, ek_ref (by decide) (by decide)]
        · unfold f_X12_text; rw [if_neg e2, if_pos h4, if_neg h0, show ((5 : Int32)) = nI 5 from rfl, ek_meet (by decide), bn_t]
        · exact ⟨rfl, ek_F_upd hF (by decide), hH⟩
    · apply ek_mk2
      · unfold f_X11_text; rw [if_neg e1, if_neg h4]
      · unfold f_X12_text; rw [if_neg e2, if_neg h4]
      · exact ⟨rfl, hF, hH⟩
theorem r_put {S C S' C' : Nat → Int32} {l l' : Int32} {Cn Cn' : Nat → Int32} {N : Nat} (hH : ek_H 4 100 S C S' C') (hF : ek_F l Cn l' Cn') (x y v : Int32) :
    ∃ o o', p_X11_put 100 S l C Cn x y v = o ∧ f_X12_put N S' l' Cn' C' x y v = some o' ∧ o.1 = o'.1 ∧ ek_F o.2.1 o.2.2.2 o'.2.1 o'.2.2.1 ∧ ek_H 4 100 S o.2.2.1 S' o'.2.2.2 := by
  rcases ek_refP (l := l) (Cn := Cn) (x := x) (y := y) hH (by decide) (by decide) with ⟨e, h⟩ | ⟨k, hk, e, a, b, h⟩ | ⟨k, z, hk, e, hz, a, b, c, q, h⟩ | ⟨k, z, i, hk, e, hz, a, b, c, hi, e2, h⟩
  · apply ek_mk
    · unfold f_X12_put; rw [ek_askText.1 h, bn_t]; rfl
    · unfold p_X11_put; rw [e]; exact ⟨rfl, hF, hH⟩
  · apply ek_mk
    · unfold f_X12_put; rw [ek_askText.2.1 k hk e b, bn_t]; rfl
    · unfold p_X11_put; rw [h]; exact ⟨rfl, ek_F_upd hF (by decide), hH⟩
  · apply ek_mk
    · unfold f_X12_put; rw [ek_askText.2.2 k z hk (by omega) e b]
      simp only [bn_t, nm, if_true, if_false, ek_00, ek_01, ek_03]
      subst e
      rw [gd_t (ek_inb hk (by omega)), nI_clamp (by omega), b, ek_inz0 (by omega) q, if_pos rfl, show ((2 : Int32)) = nI 2 from rfl, ek_meet (by decide)]; rfl
    · unfold p_X11_put; rw [h]; exact ⟨rfl, ek_F_upd hF (by decide), hH⟩
  · subst e e2
    apply ek_mk
    · unfold f_X12_put; rw [ek_askText.2.2 k z hk (by omega) rfl b]
      simp only [bn_t, nm, if_true, if_false, ek_00, ek_01, ek_03]
      rw [gd_t (ek_inb hk (by omega)), nI_clamp (by omega), b, ek_inz1 (by omega) hi, if_neg (by decide), show ((100 : Int32)) = nI 100 from rfl, pk_mul, nI_add, gd_t (ek_inb (by omega) (by omega)), nI_clamp (by omega)]
    · unfold p_X11_put; rw [h]
      simp only [nm, if_true]
      rw [show ((100 : Int32)) = nI 100 from rfl, ek_cell C a hk hi hz rfl (by decide) (by decide) (by decide), ek_setc C a hk hi hz rfl (by decide) (by decide) (by decide), c i hi]
      exact ⟨rfl, hF, ek_H.set hH _ _⟩
