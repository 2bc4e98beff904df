/-! copy -/
theorem ek_subT {a b : Nat} (ha : a < 2 ^ 31) (hb : b < 2 ^ 31) : (nI a - nI b).toInt = (a : Int) - b := by
  rw [Int32.toInt_sub, nI_toInt (by omega), nI_toInt (by omega)]
  exact Int.bmod_eq_of_le (by omega) (by omega)
theorem ek_span {K : Nat} {S : Nat → Int32} {k z n : Nat} {x : Int32} (a : S k = nI z) (hk : k < K) (hK : K < 1000) (hz : z < 1000) (hn : n < 2 ^ 31) :
    (p_X7_hasSpan K S (nI k) x (nI n) = 0 ∧ ¬ ∃ i, x = nI i ∧ i + n ≤ z) ∨ (p_X7_hasSpan K S (nI k) x (nI n) = 1 ∧ ∃ i, x = nI i ∧ i + n ≤ z) := by
  unfold p_X7_hasSpan
  rw [ek_siz S hk (by omega), a, if_neg (nI_pos hn)]
  by_cases h0 : x < 0
  · left
    refine ⟨by rw [if_pos h0], ?_⟩
    rintro ⟨i, rfl, hi⟩
    exact nI_pos (by omega) h0
  · obtain ⟨i, hi, rfl⟩ := nI_of h0
    rw [if_neg h0]
    have e := ek_subT (a := z) (b := n) (by omega) hn
    have e2 := nI_toInt hi
    by_cases q : i + n ≤ z
    · right
      refine ⟨?_, i, rfl, q⟩
      rw [if_neg]
      rw [Int32.lt_iff_toInt_lt, e, e2]; omega
    · left
      refine ⟨?_, ?_⟩
      · rw [if_pos]
        rw [Int32.lt_iff_toInt_lt, e, e2]; omega
      · rintro ⟨j, hj, hj2⟩
        have := (nI_eq hi (by omega)).mp hj
        omega
def ek_cp (C : Nat → Int32) (s d n : Nat) : Nat → Int32 := fun p => if d ≤ p ∧ p < d + n then C (s + (p - d)) else C p
theorem ek_copy {N : Nat} {S C : Nat → Int32} {r t i j n zr zt : Nat} (hN : 5000 ≤ N) (hr : r < 6) (ht : t < 6) (a : S r = nI zr) (b : S t = nI zt) (hzr : zr ≤ 40) (hzt : zt ≤ 40) (hi : i + n ≤ zr) (hj : j + n ≤ zt) :
    ∃ C2, f_X7_copySpan N 6 240 40 S C (nI r) (nI i) (nI t) (nI j) (nI n) = some C2 ∧ ∀ p, C2 p = ek_cp C (40 * r + i) (40 * t + j) n p := by
  unfold f_X7_copySpan
  by_cases hd : j ≤ i
  · rw [if_pos (nI_le hd (by omega))]
    unfold f_X7_copySpan_b11
    refine ek_forI (fun n' x s => f_X7_copySpan_b16 N 6 240 40 S n' s (nI r) (nI i) (nI t) (nI j) (nI n) 0 x) (fun k s => ∀ p, s p = ek_cp C (40 * r + i) (40 * t + j) k p) n N (by omega) ?_ C ?_ (fun o => ∃ C2, o = some C2 ∧ ∀ p, C2 p = ek_cp C (40 * r + i) (40 * t + j) n p) ?_
    · intro n' k s hk hs
      refine ⟨upd s (40 * t + (j + k)) (s (40 * r + (i + k))), ?_, ?_⟩
      · show f_X7_copySpan_b16 N 6 240 40 S (n' + 1) _ _ _ _ _ _ _ _ = _
        rw [f_X7_copySpan_b16, if_neg (nI_ge hk (by omega)), if_pos rfl]
        unfold f_X7_copySpan_b40
        simp only [nm]
        rw [nI_add, nI_add, show ((40 : Int32)) = nI 40 from rfl, ek_cell s a hr (by omega) hzr rfl (by decide) (by decide) (by decide), ek_setc s b ht (by omega) hzt rfl (by decide) (by decide) (by decide), nI_1]
      · intro p
        show (if p = 40 * t + (j + k) then s (40 * r + (i + k)) else s p) = _
        unfold ek_cp at hs ⊢
        by_cases e : p = 40 * t + (j + k)
        · rw [if_pos e, if_pos (by omega), hs, if_neg, show 40 * r + i + (p - (40 * t + j)) = 40 * r + (i + k) by omega]
          intro q; omega
        · rw [if_neg e, hs]
          by_cases q : 40 * t + j ≤ p ∧ p < 40 * t + j + k
          · rw [if_pos q, if_pos (by omega)]
          · rw [if_neg q, if_neg (by omega)]
    · intro p; unfold ek_cp; rw [if_neg (by omega)]
    · intro n' s hs
      refine ⟨s, ?_, hs⟩
      show f_X7_copySpan_b16 N 6 240 40 S (n' + 1) _ _ _ _ _ _ _ _ = _
      rw [f_X7_copySpan_b16, if_pos (nI_le (Nat.le_refl _) (by omega))]
  · rw [if_neg (nI_ge (by omega) (by omega))]
    unfold f_X7_copySpan_b11
    refine ek_forI (fun n' x s => f_X7_copySpan_b16 N 6 240 40 S n' s (nI r) (nI i) (nI t) (nI j) (nI n) 1 x) (fun k s => k ≤ n ∧ ∀ p, s p = if 40 * t + j + (n - k) ≤ p ∧ p < 40 * t + j + n then C (40 * r + i + (p - (40 * t + j))) else C p) n N (by omega) ?_ C ?_ (fun o => ∃ C2, o = some C2 ∧ ∀ p, C2 p = ek_cp C (40 * r + i) (40 * t + j) n p) ?_
    · intro n' k s hk hs
      refine ⟨upd s (40 * t + (j + (n - 1 - k))) (s (40 * r + (i + (n - 1 - k)))), ?_, by omega, ?_⟩
      · show f_X7_copySpan_b16 N 6 240 40 S (n' + 1) _ _ _ _ _ _ _ _ = _
        rw [f_X7_copySpan_b16, if_neg (nI_ge hk (by omega)), if_neg (by decide)]
        unfold f_X7_copySpan_b40
        simp only [nm]
        rw [show nI n - 1 = nI (n - 1) from pk_sub (b := 1) (by omega), pk_sub (by omega), nI_add, nI_add, show ((40 : Int32)) = nI 40 from rfl, ek_cell s a hr (by omega) hzr rfl (by decide) (by decide) (by decide), ek_setc s b ht (by omega) hzt rfl (by decide) (by decide) (by decide), nI_1]
      · intro p
        show (if p = 40 * t + (j + (n - 1 - k)) then s (40 * r + (i + (n - 1 - k))) else s p) = _
        have hs := hs.2
        by_cases e : p = 40 * t + (j + (n - 1 - k))
        · rw [if_pos e, if_pos (by omega), hs, if_neg, show 40 * r + i + (p - (40 * t + j)) = 40 * r + (i + (n - 1 - k)) by omega]
          intro q; omega
        · rw [if_neg e, hs]
          by_cases q : 40 * t + j + (n - k) ≤ p ∧ p < 40 * t + j + n
          · rw [if_pos q, if_pos (by omega)]
          · rw [if_neg q, if_neg (by omega)]
    · exact ⟨by omega, fun p => by rw [if_neg (by omega)]⟩
    · intro n' s hs
      refine ⟨s, ?_, fun p => ?_⟩
      · show f_X7_copySpan_b16 N 6 240 40 S (n' + 1) _ _ _ _ _ _ _ _ = _
        rw [f_X7_copySpan_b16, if_pos (nI_le (Nat.le_refl _) (by omega))]
      · rw [hs.2 p]; unfold ek_cp; rw [Nat.sub_self, Nat.add_zero]
theorem ek_copyM {N : Nat} {S' C' : Nat → Int32} {l' : Int32} {Cn' : Nat → Int32} {M : Nat → Int32} {r t i j n : Nat} (hN : 5000 ≤ N) (hr : r < 6) (ht : t < 6) (hi : i + n ≤ 40) (hj : j + n ≤ 40) :
    ∃ C2 M2, (f_X12_copy_b104 N (f_X12_copy_b133 N S') S' N) l' Cn' C' M (nI r) (nI i) (nI t) (nI j) (nI n) 0 = some (1, l', Cn', C2, M2) ∧ ∀ p, C2 p = ek_cp C' (40 * r + i) (40 * t + j) n p := by
  refine ek_forI (fun n' x s => f_X12_copy_b104 N (f_X12_copy_b133 N S') S' n' l' Cn' C' s (nI r) (nI i) (nI t) (nI j) (nI n) x) (fun k s => ∀ q, q < k → s q = C' (40 * r + (i + q))) n N (by omega) ?_ M (fun q hq => absurd hq (by omega)) (fun o => ∃ C2 M2, o = some (1, l', Cn', C2, M2) ∧ ∀ p, C2 p = ek_cp C' (40 * r + i) (40 * t + j) n p) ?_
  · intro n' k s hk hs
    refine ⟨upd s k (C' (40 * r + (i + k))), ?_, ?_⟩
    · show f_X12_copy_b104 N _ S' (n' + 1) _ _ _ _ _ _ _ _ _ _ = _
      rw [f_X12_copy_b104, if_neg (nI_ge hk (by omega)), nI_add, ek_rowAt hr (by omega), bn_t, gd_t (ek_inb (by omega) (by omega)), nI_clamp (by omega), nI_1]
    · intro q hq
      show (if q = k then _ else s q) = _
      by_cases e : q = k
      · rw [if_pos e, e]
      · rw [if_neg e, hs q (by omega)]
  · intro n' M2 hM
    show ∃ C2 M2', f_X12_copy_b104 N _ S' (n' + 1) _ _ _ _ _ _ _ _ _ _ = _ ∧ _
    rw [f_X12_copy_b104, if_pos (nI_le (Nat.le_refl _) (by omega))]
    unfold f_X12_copy_b133
    refine ek_forI (fun n' x s => f_X12_copy_b136 N S' n' l' Cn' s M2 (nI t) (nI j) (nI n) x) (fun k s => ∀ p, s p = ek_cp C' (40 * r + i) (40 * t + j) k p) n N (by omega) ?_ C' ?_ (fun o => ∃ C2 M2, o = some (1, l', Cn', C2, M2) ∧ ∀ p, C2 p = ek_cp C' (40 * r + i) (40 * t + j) n p) ?_
    · intro n' k s hk hs
      refine ⟨upd s (40 * t + (j + k)) (M2 k), ?_, ?_⟩
      · show f_X12_copy_b136 N S' (n' + 1) _ _ _ _ _ _ _ _ = _
        rw [f_X12_copy_b136, if_neg (nI_ge hk (by omega)), gd_t (ek_inb (by omega) (by omega)), nI_clamp (by omega), nI_add, ek_setRow ht (by omega), bn_t, nI_1]
      · intro p
        show (if p = 40 * t + (j + k) then M2 k else s p) = _
        unfold ek_cp at hs ⊢
        by_cases e : p = 40 * t + (j + k)
        · rw [if_pos e, if_pos (by omega), hM k hk, show 40 * r + i + (p - (40 * t + j)) = 40 * r + (i + k) by omega]
        · rw [if_neg e, hs]
          by_cases q : 40 * t + j ≤ p ∧ p < 40 * t + j + k
          · rw [if_pos q, if_pos (by omega)]
          · rw [if_neg q, if_neg (by omega)]
    · intro p; unfold ek_cp; rw [if_neg (by omega)]
    · intro n' s hs
      refine ⟨s, M2, ?_, hs⟩
      show f_X12_copy_b136 N S' (n' + 1) _ _ _ _ _ _ _ _ = _
      rw [f_X12_copy_b136, if_pos (nI_le (Nat.le_refl _) (by omega))]
theorem r_copy {S C S' C' M : Nat → Int32} {l l' : Int32} {Cn Cn' : Nat → Int32} {N : Nat} (hN : 5000 ≤ N) (hH : ek_H 6 40 S C S' C') (hF : ek_F l Cn l' Cn') (x1 x2 x3 x4 x5 : Int32) :
    ∃ o o', f_X11_copy N 40 S l C Cn x1 x2 x3 x4 x5 = some o ∧ f_X12_copy N S' l' Cn' C' M x1 x2 x3 x4 x5 = some o' ∧ o.1 = o'.1 ∧ ek_F o.2.1 o.2.2.2 o'.2.1 o'.2.2.1 ∧ ek_H 6 40 S o.2.2.1 S' o'.2.2.2.1 := by
  have bad : ∀ x : Int32, x < 0 ∨ nI 6 ≤ x → p_X7_names 6 x = 0 ∧ p_X12_isRow x = 0 := fun x h => ⟨ek_nam0 h, by unfold p_X12_isRow; rw [show ((5 : Int32)) = nI 5 from rfl, ek_in0 (by decide) h]⟩
  have good : ∀ k, k < 6 → ¬ p_X7_names 6 (nI k) = 0 ∧ ¬ p_X12_isRow (nI k) = 0 := fun k hk => ⟨by rw [ek_nam1 hk (by decide)]; decide, by unfold p_X12_isRow; rw [show ((5 : Int32)) = nI 5 from rfl, ek_in1 (by omega) (by decide)]; decide⟩
  have three : ∀ x : Int32, (x < 0 ∨ nI 6 ≤ x) ∨ ∃ k, k < 6 ∧ x = nI k := fun x => by
    rcases ek_ix x 6 (by omega) with q | q | q
    · exact Or.inl (Or.inl q)
    · exact Or.inl (Or.inr q)
    · exact Or.inr q
  rcases three x1 with q | ⟨r, hr, rfl⟩
  · apply ek_mk2
    · unfold f_X11_copy; rw [if_pos (bad _ q).1]
    · unfold f_X12_copy; rw [if_pos (bad _ q).2]
    · exact ⟨rfl, hF, hH⟩
  rcases three x3 with q | ⟨t, ht, rfl⟩
  · apply ek_mk2
    · unfold f_X11_copy; rw [if_neg (good r hr).1, if_pos (bad _ q).1]
    · unfold f_X12_copy; rw [if_neg (good r hr).2, if_pos (bad _ q).2]
    · exact ⟨rfl, hF, hH⟩
  by_cases h0 : 0 ≤ x5
  rotate_left
  · apply ek_mk2
    · unfold f_X11_copy; rw [if_neg (good r hr).1, if_neg (good t ht).1, if_neg h0]
      simp only [nm]
      rw [show ((5 : Int32)) = nI 5 from rfl, ek_ref (by decide) (by decide)]
    · unfold f_X12_copy; rw [if_neg (good r hr).2, if_neg (good t ht).2, if_neg h0, show ((5 : Int32)) = nI 5 from rfl, ek_meet (by decide), bn_t]
    · exact ⟨rfl, ek_F_upd hF (by decide), hH⟩
  obtain ⟨n, hn, rfl⟩ := nI_of (kn1 h0)
  rcases hH r hr with ⟨a1, a2⟩ | ⟨zr, hzr, a1, a2, a3⟩
  · apply ek_mk2
    · unfold f_X11_copy; rw [if_neg (good r hr).1, if_neg (good t ht).1, if_pos h0, ek_missH (P := 40) (C := C) (S' := S') (C' := C') a1 hr (by omega), if_pos rfl]
      simp only [nm]
      rw [show ((1 : Int32)) = nI 1 from rfl, ek_ref (by decide) (by decide)]
    · unfold f_X12_copy; rw [if_neg (good r hr).2, if_neg (good t ht).2, if_pos h0, gd_t (ek_inb hr (by omega)), nI_clamp (by omega), a2, if_pos (by decide), show ((1 : Int32)) = nI 1 from rfl, ek_meet (by decide), bn_t]
    · exact ⟨rfl, ek_F_upd hF (by decide), hH⟩
  have t1 : ¬ p_X7_isThere 6 S (nI r) = 0 := by rw [ek_thereH a1 (by omega) hr (by omega)]; decide
  rcases hH t ht with ⟨b1, b2⟩ | ⟨zt, hzt, b1, b2, b3⟩
  · apply ek_mk2
    · unfold f_X11_copy; rw [if_neg (good r hr).1, if_neg (good t ht).1, if_pos h0, if_neg t1, ek_missH (P := 40) (C := C) (S' := S') (C' := C') b1 ht (by omega), if_pos rfl]
      simp only [nm]
      rw [show ((1 : Int32)) = nI 1 from rfl, ek_ref (by decide) (by decide)]
    · unfold f_X12_copy; rw [if_neg (good r hr).2, if_neg (good t ht).2, if_pos h0, gd_t (ek_inb hr (by omega)), nI_clamp (by omega), a2, if_neg (nI_pos (by omega)), gd_t (ek_inb ht (by omega)), nI_clamp (by omega), b2, if_neg (by decide), show ((1 : Int32)) = nI 1 from rfl, ek_meet (by decide), bn_t]
    · exact ⟨rfl, ek_F_upd hF (by decide), hH⟩
  have t2 : ¬ p_X7_isThere 6 S (nI t) = 0 := by rw [ek_thereH b1 (by omega) ht (by omega)]; decide
  have mpre : ∀ o', ((if x2 < 0 then bn (f_X12_meet N l' Cn' 2) (fun z97_3 => some (z97_3.1, z97_3.2.1, z97_3.2.2, C', M)) else if x4 < 0 then bn (f_X12_meet N l' Cn' 2) (fun z97_3 => some (z97_3.1, z97_3.2.1, z97_3.2.2, C', M)) else if ((nI zr).toInt64) < ((x2.toInt64) + ((nI n).toInt64)) then bn (f_X12_meet N l' Cn' 2) (fun z97_3 => some (z97_3.1, z97_3.2.1, z97_3.2.2, C', M)) else if ((x4.toInt64) + ((nI n).toInt64)) ≤ ((nI zt).toInt64) then (f_X12_copy_b104 N (f_X12_copy_b133 N S') S' N) l' Cn' C' M (nI r) x2 (nI t) x4 (nI n) 0 else bn (f_X12_meet N l' Cn' 2) (fun z97_3 => some (z97_3.1, z97_3.2.1, z97_3.2.2, C', M))) = some o') → f_X12_copy N S' l' Cn' C' M (nI r) x2 (nI t) x4 (nI n) = some o' := by
    intro o' ho
    unfold f_X12_copy
    rw [if_neg (good r hr).2, if_neg (good t ht).2, if_pos h0, gd_t (ek_inb hr (by omega)), nI_clamp (by omega), a2, if_neg (nI_pos (by omega)), gd_t (ek_inb ht (by omega)), nI_clamp (by omega), b2, if_pos (nI_pos' (by omega))]
    exact ho
  have hm : bn (f_X12_meet N l' Cn' 2) (fun z97_3 => some (z97_3.1, z97_3.2.1, z97_3.2.2, C', M)) = some ((-3 : Int32), nI 2, upd Cn' 2 (Cn' 2 + 1), C', M) := by
    rw [show ((2 : Int32)) = nI 2 from rfl, ek_meet (by decide), bn_t]
  have lge : ∀ {a b c : Nat}, a < 2 ^ 31 → b < 2 ^ 31 → c < 2 ^ 31 → (((nI a).toInt64 + (nI b).toInt64) = lN (a + b) ∧ (nI c).toInt64 = lN c) := fun ha hb hc => ⟨by rw [nI_l ha, nI_l hb, lN_add], nI_l hc⟩
  rcases ek_span (x := x2) a1 hr (by omega) (by omega) hn with ⟨s1, s2⟩ | ⟨s1, i, rfl, s2⟩
  · apply ek_mk2
    · unfold f_X11_copy; rw [if_neg (good r hr).1, if_neg (good t ht).1, if_pos h0, if_neg t1, if_neg t2, if_pos s1]
      simp only [nm]
      rw [show ((2 : Int32)) = nI 2 from rfl, ek_ref (by decide) (by decide)]
    · apply mpre
      rw [hm]
      by_cases h2 : x2 < 0
      · rw [if_pos h2]
      · obtain ⟨i, hi, rfl⟩ := nI_of h2
        rw [if_neg h2]
        by_cases h4 : x4 < 0
        · rw [if_pos h4]
        · rw [if_neg h4, if_pos]
          rw [(lge hi hn (by omega : zr < 2 ^ 31)).1, (lge hi hn (by omega : zr < 2 ^ 31)).2, pk_lLT (by omega) (by omega)]
          rcases Nat.lt_or_ge zr (i + n) with q | q
          · exact q
          · exact absurd ⟨i, rfl, q⟩ s2
    · exact ⟨rfl, ek_F_upd hF (by decide), hH⟩
  have n1 : ¬ (nI i) < 0 := nI_pos (by omega)
  have n3 : ¬ ((nI zr).toInt64) < (((nI i).toInt64) + ((nI n).toInt64)) := by
    rw [(lge (by omega : i < 2 ^ 31) hn (by omega : zr < 2 ^ 31)).1, (lge (by omega : i < 2 ^ 31) hn (by omega : zr < 2 ^ 31)).2, pk_lLT (by omega) (by omega)]; omega
  rcases ek_span (x := x4) b1 ht (by omega) (by omega) hn with ⟨u1, u2⟩ | ⟨u1, j, rfl, u2⟩
  · apply ek_mk2
    · unfold f_X11_copy; rw [if_neg (good r hr).1, if_neg (good t ht).1, if_pos h0, if_neg t1, if_neg t2, if_neg (by rw [s1]; decide), if_pos u1]
      simp only [nm]
      rw [show ((2 : Int32)) = nI 2 from rfl, ek_ref (by decide) (by decide)]
    · apply mpre
      rw [hm, if_neg n1]
      by_cases h4 : x4 < 0
      · rw [if_pos h4]
      · obtain ⟨j, hj, rfl⟩ := nI_of h4
        rw [if_neg h4, if_neg n3, if_neg]
        rw [(lge hj hn (by omega : zt < 2 ^ 31)).1, (lge hj hn (by omega : zt < 2 ^ 31)).2, pk_lLE (by omega) (by omega)]
        intro q
        exact u2 ⟨j, rfl, q⟩
    · exact ⟨rfl, ek_F_upd hF (by decide), hH⟩
  obtain ⟨C2, e1, f1⟩ := ek_copy hN hr ht a1 b1 hzr hzt s2 u2 (C := C)
  obtain ⟨C3, M3, e2, f2⟩ := ek_copyM (S' := S') (C' := C') (l' := l') (Cn' := Cn') (M := M) hN hr ht (show i + n ≤ 40 by omega) (show j + n ≤ 40 by omega)
  apply ek_mk2
  · unfold f_X11_copy; rw [if_neg (good r hr).1, if_neg (good t ht).1, if_pos h0, if_neg t1, if_neg t2, if_neg (by rw [s1]; decide), if_neg (by rw [u1]; decide), e1, bn_t]
  · apply mpre
    rw [if_neg n1, if_neg (nI_pos (by omega)), if_neg n3, if_pos]
    · exact e2
    · rw [(lge (by omega : j < 2 ^ 31) hn (by omega : zt < 2 ^ 31)).1, (lge (by omega : j < 2 ^ 31) hn (by omega : zt < 2 ^ 31)).2, pk_lLE (by omega) (by omega)]; omega
  · refine ⟨rfl, hF, ?_⟩
    intro k hk
    rcases hH k hk with q | ⟨z, hz, q1, q2, q3⟩
    · exact Or.inl q
    · refine Or.inr ⟨z, hz, q1, q2, fun p hp => ?_⟩
      show C2 _ = C3 _
      rw [f1, f2]
      unfold ek_cp
      by_cases w : 40 * t + j ≤ 40 * k + p ∧ 40 * k + p < 40 * t + j + n
      · rw [if_pos w, if_pos w]
        have := a3 (i + (40 * k + p - (40 * t + j))) (by omega)
        rw [show 40 * r + i + (40 * k + p - (40 * t + j)) = 40 * r + (i + (40 * k + p - (40 * t + j))) by omega]
        exact this
      · rw [if_neg w, if_neg w, q3 p hp]
