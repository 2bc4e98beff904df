/-! kept rounds; fault and office -/
def ek_K1 (n k : Nat) (st ru at_ ib ho cr la na li th : Int32) (hs gi wr : Nat → Int32) (K : Nat → Int32) : Prop :=
  (th = 0 ∧ K (50 * k) = -9) ∨ (th = 1 ∧ ek_R n st ru at_ ib ho cr la na li hs gi wr (K (50 * k + 1)) (K (50 * k + 2)) (K (50 * k + 3)) (K (50 * k + 4)) (K (50 * k)) (K (50 * k + 5)) (K (50 * k + 6)) (K (50 * k + 7)) (K (50 * k + 8)) (fun i => K (50 * k + 27 + i)) (fun i => K (50 * k + 9 + i)) (fun i => K (50 * k + 18 + i)))
theorem ek_K1ext {n k : Nat} {st ru at_ ib ho cr la na li th : Int32} {hs gi wr K K' : Nat → Int32} (h : ek_K1 n k st ru at_ ib ho cr la na li th hs gi wr K) (e : ∀ q, q < 50 → K' (50 * k + q) = K (50 * k + q)) : ek_K1 n k st ru at_ ib ho cr la na li th hs gi wr K' := by
  have e0 : K' (50 * k) = K (50 * k) := e 0 (by omega)
  rcases h with ⟨h1, h2⟩ | ⟨h1, h2, h3, h4⟩
  · exact Or.inl ⟨h1, by rw [e0]; exact h2⟩
  · refine Or.inr ⟨h1, ?_, fun i hi => ?_, h4⟩
    · rw [e0, e 1 (by omega), e 2 (by omega), e 3 (by omega), e 4 (by omega), e 5 (by omega), e 6 (by omega), e 7 (by omega), e 8 (by omega)]; exact h2
    · have := h3 i hi
      simp only at this ⊢
      rw [Nat.add_assoc, Nat.add_assoc, Nat.add_assoc, e (27 + i) (by omega), e (9 + i) (by omega), e (18 + i) (by omega), ← Nat.add_assoc, ← Nat.add_assoc, ← Nat.add_assoc]
      exact this
theorem ek_cpC {N : Nat} {s b : Nat → Int32} (hN : 5000 ≤ N) : ∃ b', f_X6_copyCells N 9 9 s b = some b' ∧ ∀ k, k < 9 → b' k = s k := by
  unfold f_X6_copyCells
  refine ek_forI (fun n2 x (t : Nat → Int32) => f_X6_copyCells_b2 N 9 9 s n2 t x) (fun j t => ∀ k, k < j → t k = s k) 9 N (by omega) ?_ b (fun k hk => absurd hk (by omega)) (fun o => ∃ b', o = some b' ∧ ∀ k, k < 9 → b' k = s k) ?_
  · intro n2 j t hj h
    refine ⟨upd t j (s j), ?_, ?_⟩
    · try simp only
      rw [f_X6_copyCells_b2, if_neg (show ¬ Int32.ofNat 9 ≤ nI j from nI_ge (b := 9) hj (by omega)), if_neg (show ¬ Int32.ofNat 9 ≤ nI j from nI_ge (b := 9) hj (by omega)), gd_t (ek_inb hj (by omega)), gd_t (ek_inb hj (by omega)), nI_clamp (by omega), nI_1]
    · intro k hk
      by_cases e : k = j
      · rw [e]; exact pk_us
      · rw [pk_un e]; exact h k (by omega)
  · intro n2 t h
    refine ⟨t, ?_, h⟩
    try simp only
    rw [f_X6_copyCells_b2, if_pos (show Int32.ofNat 9 ≤ nI 9 from nI_le (a := 9) (Nat.le_refl _) (by omega))]
theorem ek_cpX6 {N : Nat} {st ru at_ ib ho cr la na li a1 a2 a3 a4 a5 a6 a7 a8 a9 : Int32} {hs gi wr h2 g2 w2 : Nat → Int32} (hN : 5000 ≤ N) (hib : ib = 0 ∨ ib = 1) :
    ∃ hs' gi' wr', f_X6_copyFrom N st ru at_ ib ho cr la na li hs gi wr a1 a2 a3 a4 a5 a6 a7 a8 a9 h2 g2 w2 = some (st, ru, at_, ib, ho, cr, la, na, li, hs', gi', wr') ∧ ∀ i, i < 9 → hs' i = hs i ∧ gi' i = gi i ∧ wr' i = wr i := by
  unfold f_X6_copyFrom
  obtain ⟨b1, e1, c1⟩ := ek_cpC (s := hs) (b := h2) hN
  obtain ⟨b2, e2, c2⟩ := ek_cpC (s := gi) (b := g2) hN
  obtain ⟨b3, e3, c3⟩ := ek_cpC (s := wr) (b := w2) hN
  refine ⟨b1, b2, b3, ?_, fun i hi => ⟨c1 i hi, c2 i hi, c3 i hi⟩⟩
  rw [e1, bn_t, e2, bn_t, e3, bn_t, gd_t hib]
theorem ek_keepM {N k : Nat} {many la na li cr ho st ru at_ ib : Int32} {g w h K : Nat → Int32} (hN : 5000 ≤ N) (hk : k < 3) (hm : ¬ many = 0) :
    ∃ K', f_X12_keep N many la na li cr ho st ru at_ ib g w h K (nI k) = some (ho, K') ∧ (K' (50 * k) = ho ∧ K' (50 * k + 1) = st ∧ K' (50 * k + 2) = ru ∧ K' (50 * k + 3) = at_ ∧ K' (50 * k + 4) = (if ib = 0 then 0 else 1) ∧ K' (50 * k + 5) = cr ∧ K' (50 * k + 6) = la ∧ K' (50 * k + 7) = na ∧ K' (50 * k + 8) = li) ∧ (∀ i, i < 9 → K' (50 * k + 27 + i) = h i ∧ K' (50 * k + 9 + i) = g i ∧ K' (50 * k + 18 + i) = w i) ∧ ∀ p, p < 50 * k ∨ 50 * k + 50 ≤ p → K' p = K p := by
  unfold f_X12_keep
  rw [if_neg (show ¬ p_X12_in (nI k) 0 2 = 0 by rw [show ((2 : Int32)) = nI 2 from rfl, ek_in1 (by omega) (by omega)]; decide), if_neg hm, show (50 : Int32) * nI k = nI (50 * k) from pk_mul 50 k, nm_t]
  have e : ∀ c : Nat, nI (50 * k) + nI c = nI (50 * k + c) := fun c => nI_add _ c
  rw [show nI (50 * k) + 1 = nI (50 * k + 1) from e 1, show nI (50 * k) + 2 = nI (50 * k + 2) from e 2, show nI (50 * k) + 3 = nI (50 * k + 3) from e 3, show nI (50 * k) + 4 = nI (50 * k + 4) from e 4, gd_t (ek_inb (by omega) (by omega)), gd_t (ek_inb (by omega) (by omega)), gd_t (ek_inb (by omega) (by omega)), gd_t (ek_inb (by omega) (by omega))]
  unfold f_X12_keep_b91
  rw [show nI (50 * k) + 5 = nI (50 * k + 5) from e 5, show nI (50 * k) + 6 = nI (50 * k + 6) from e 6, show nI (50 * k) + 7 = nI (50 * k + 7) from e 7, show nI (50 * k) + 8 = nI (50 * k + 8) from e 8, gd_t (ek_inb (by omega) (by omega)), gd_t (ek_inb (by omega) (by omega)), gd_t (ek_inb (by omega) (by omega)), gd_t (ek_inb (by omega) (by omega)), gd_t (ek_inb (by omega) (by omega))]
  rw [nI_clamp (show 50 * k < 2 ^ 31 by omega), nI_clamp (show 50 * k + 1 < 2 ^ 31 by omega), nI_clamp (show 50 * k + 2 < 2 ^ 31 by omega), nI_clamp (show 50 * k + 3 < 2 ^ 31 by omega), nI_clamp (show 50 * k + 4 < 2 ^ 31 by omega), nI_clamp (show 50 * k + 5 < 2 ^ 31 by omega), nI_clamp (show 50 * k + 6 < 2 ^ 31 by omega), nI_clamp (show 50 * k + 7 < 2 ^ 31 by omega), nI_clamp (show 50 * k + 8 < 2 ^ 31 by omega)]
  have h0 : ∃ K0, (upd (upd (upd (upd (upd (upd (upd (upd (upd K (50 * k) ho) (50 * k + 1) st) (50 * k + 2) ru) (50 * k + 3) at_) (50 * k + 4) (if ib = 0 then 0 else 1)) (50 * k + 5) cr) (50 * k + 6) la) (50 * k + 7) na) (50 * k + 8) li) = K0 ∧ (K0 (50 * k) = ho ∧ K0 (50 * k + 1) = st ∧ K0 (50 * k + 2) = ru ∧ K0 (50 * k + 3) = at_ ∧ K0 (50 * k + 4) = (if ib = 0 then 0 else 1) ∧ K0 (50 * k + 5) = cr ∧ K0 (50 * k + 6) = la ∧ K0 (50 * k + 7) = na ∧ K0 (50 * k + 8) = li) ∧ ∀ p, p < 50 * k ∨ 50 * k + 50 ≤ p → K0 p = K p := by
    refine ⟨_, rfl, ⟨?_, ?_, ?_, ?_, ?_, ?_, ?_, ?_, ?_⟩, ?_⟩
    all_goals first | (intro p hp; rw [pk_un (by omega), pk_un (by omega), pk_un (by omega), pk_un (by omega), pk_un (by omega), pk_un (by omega), pk_un (by omega), pk_un (by omega), pk_un (by omega)]) | skip
    all_goals (repeat (first | exact pk_us | rw [pk_un (by omega)]))
  obtain ⟨K0, hK0, hK1, hK2⟩ := h0
  rw [hK0]
  refine ek_forI (fun n' x s => f_X12_keep_b145 N many la na li cr ho st ru at_ ib g w h n' s (nI (50 * k)) x) (fun m s => (∀ q, q ≤ 8 → s (50 * k + q) = K0 (50 * k + q)) ∧ (∀ i, i < m → s (50 * k + 27 + i) = h i ∧ s (50 * k + 9 + i) = g i ∧ s (50 * k + 18 + i) = w i) ∧ ∀ p, p < 50 * k ∨ 50 * k + 50 ≤ p → s p = K p) 9 N (by omega) ?_ K0 ⟨fun _ _ => rfl, fun i hi => absurd hi (by omega), hK2⟩ (fun o => ∃ K', o = some (ho, K') ∧ (K' (50 * k) = ho ∧ K' (50 * k + 1) = st ∧ K' (50 * k + 2) = ru ∧ K' (50 * k + 3) = at_ ∧ K' (50 * k + 4) = (if ib = 0 then 0 else 1) ∧ K' (50 * k + 5) = cr ∧ K' (50 * k + 6) = la ∧ K' (50 * k + 7) = na ∧ K' (50 * k + 8) = li) ∧ (∀ i, i < 9 → K' (50 * k + 27 + i) = h i ∧ K' (50 * k + 9 + i) = g i ∧ K' (50 * k + 18 + i) = w i) ∧ ∀ p, p < 50 * k ∨ 50 * k + 50 ≤ p → K' p = K p) ?_
  · rintro n' m s hm ⟨i1, i2, i3⟩
    refine ⟨upd (upd (upd s (50 * k + 9 + m) (g m)) (50 * k + 18 + m) (w m)) (50 * k + 27 + m) (h m), ?_, ?_, ?_, ?_⟩
    · try simp only
      rw [f_X12_keep_b145, if_neg (show ¬ (9 : Int32) ≤ _ from nI_ge (b := 9) hm (by omega)), gd_t (ek_inb hm (by omega)), show nI (50 * k) + 9 = nI (50 * k + 9) from e 9, show nI (50 * k) + 18 = nI (50 * k + 18) from e 18, show nI (50 * k) + 27 = nI (50 * k + 27) from e 27, nI_add, nI_add, nI_add, gd_t (ek_inb (by omega) (by omega)), gd_t (ek_inb (by omega) (by omega)), gd_t (ek_inb (by omega) (by omega)), nI_clamp (show m < 2 ^ 31 by omega), nI_clamp (by omega), nI_clamp (by omega), nI_clamp (by omega), nI_1]
    · intro q hq
      rw [pk_un (by omega), pk_un (by omega), pk_un (by omega)]; exact i1 q hq
    · intro i hi
      by_cases z : i = m
      · subst z
        refine ⟨pk_us, ?_, ?_⟩
        · rw [pk_un (by omega), pk_un (by omega), pk_us]
        · rw [pk_un (by omega), pk_us]
      · rw [pk_un (by omega), pk_un (by omega), pk_un (by omega), pk_un (by omega), pk_un (by omega), pk_un (by omega), pk_un (by omega), pk_un (by omega), pk_un (by omega)]
        exact i2 i (by omega)
    · intro p hp
      rw [pk_un (by omega), pk_un (by omega), pk_un (by omega)]; exact i3 p hp
  · rintro n' s ⟨i1, i2, i3⟩
    refine ⟨s, ?_, ?_, i2, i3⟩
    · try simp only
      rw [f_X12_keep_b145, if_pos (show (9 : Int32) ≤ nI 9 from nI_le (a := 9) (Nat.le_refl _) (by omega))]
    · have j0 : s (50 * k) = K0 (50 * k) := i1 0 (by omega)
      rw [j0, i1 1 (by omega), i1 2 (by omega), i1 3 (by omega), i1 4 (by omega), i1 5 (by omega), i1 6 (by omega), i1 7 (by omega), i1 8 (by omega)]
      exact hK1
theorem ek_onM {N k : Nat} {f la na li cr ho st ru at_ ib : Int32} {C' g w h K : Nat → Int32} (hN : 5000 ≤ N) (hk : k < 3) (hK : ¬ K (50 * k) = -9) (hb : K (50 * k + 4) = 0 ∨ K (50 * k + 4) = 1) :
    ∃ g2 w2 h2, f_X12_on N K f la na li cr ho st ru at_ ib C' g w h (nI k) = some (K (50 * k), f, K (50 * k + 6), K (50 * k + 7), K (50 * k + 8), K (50 * k + 5), K (50 * k), K (50 * k + 1), K (50 * k + 2), K (50 * k + 3), K (50 * k + 4), C', g2, w2, h2) ∧ ∀ i, i < 9 → h2 i = K (50 * k + 27 + i) ∧ g2 i = K (50 * k + 9 + i) ∧ w2 i = K (50 * k + 18 + i) := by
  unfold f_X12_on
  rw [if_neg (show ¬ p_X12_in (nI k) 0 2 = 0 by rw [show ((2 : Int32)) = nI 2 from rfl, ek_in1 (by omega) (by omega)]; decide), show (50 : Int32) * nI k = nI (50 * k) from pk_mul 50 k, nm_t]
  have e : ∀ c : Nat, nI (50 * k) + nI c = nI (50 * k + c) := fun c => nI_add _ c
  rw [gd_t (ek_inb (by omega) (by omega)), nI_clamp (show 50 * k < 2 ^ 31 by omega), if_neg hK, show nI (50 * k) + 1 = nI (50 * k + 1) from e 1, show nI (50 * k) + 2 = nI (50 * k + 2) from e 2, show nI (50 * k) + 3 = nI (50 * k + 3) from e 3, show nI (50 * k) + 4 = nI (50 * k + 4) from e 4, gd_t (ek_inb (by omega) (by omega)), gd_t (ek_inb (by omega) (by omega)), gd_t (ek_inb (by omega) (by omega)), gd_t (ek_inb (by omega) (by omega))]
  unfold f_X12_on_b97
  have hy : (if K (50 * k + 4) = 1 then (1 : Int32) else 0) = K (50 * k + 4) := by
    rcases hb with q | q
    · rw [q, if_neg (by decide)]
    · rw [q, if_pos rfl]
  rw [show nI (50 * k) + 5 = nI (50 * k + 5) from e 5, show nI (50 * k) + 6 = nI (50 * k + 6) from e 6, show nI (50 * k) + 7 = nI (50 * k + 7) from e 7, show nI (50 * k) + 8 = nI (50 * k + 8) from e 8, nI_clamp (show 50 * k + 1 < 2 ^ 31 by omega), nI_clamp (show 50 * k + 2 < 2 ^ 31 by omega), nI_clamp (show 50 * k + 3 < 2 ^ 31 by omega), nI_clamp (show 50 * k + 4 < 2 ^ 31 by omega), nI_clamp (show 50 * k + 5 < 2 ^ 31 by omega), nI_clamp (show 50 * k + 6 < 2 ^ 31 by omega), nI_clamp (show 50 * k + 7 < 2 ^ 31 by omega), nI_clamp (show 50 * k + 8 < 2 ^ 31 by omega), hy, gd_t hb, gd_t (ek_inb (by omega) (by omega)), gd_t (ek_inb (by omega) (by omega)), gd_t (ek_inb (by omega) (by omega)), gd_t (ek_inb (by omega) (by omega))]
  refine ek_forI (fun n' x (s : (Nat → Int32) × (Nat → Int32) × (Nat → Int32)) => f_X12_on_b153 N K n' f (K (50 * k + 6)) (K (50 * k + 7)) (K (50 * k + 8)) (K (50 * k + 5)) (K (50 * k)) (K (50 * k + 1)) (K (50 * k + 2)) (K (50 * k + 3)) (K (50 * k + 4)) C' s.1 s.2.1 s.2.2 (nI (50 * k)) x) (fun m s => ∀ i, i < m → s.2.2 i = K (50 * k + 27 + i) ∧ s.1 i = K (50 * k + 9 + i) ∧ s.2.1 i = K (50 * k + 18 + i)) 9 N (by omega) ?_ (g, w, h) (fun i hi => absurd hi (by omega)) (fun o => ∃ g2 w2 h2, o = some (K (50 * k), f, K (50 * k + 6), K (50 * k + 7), K (50 * k + 8), K (50 * k + 5), K (50 * k), K (50 * k + 1), K (50 * k + 2), K (50 * k + 3), K (50 * k + 4), C', g2, w2, h2) ∧ ∀ i, i < 9 → h2 i = K (50 * k + 27 + i) ∧ g2 i = K (50 * k + 9 + i) ∧ w2 i = K (50 * k + 18 + i)) ?_
  · rintro n' m ⟨s1, s2, s3⟩ hm hs0
    refine ⟨(upd s1 m (K (50 * k + 9 + m)), upd s2 m (K (50 * k + 18 + m)), upd s3 m (K (50 * k + 27 + m))), ?_, ?_⟩
    · try simp only
      rw [f_X12_on_b153, if_neg (show ¬ (9 : Int32) ≤ _ from nI_ge (b := 9) hm (by omega)), show nI (50 * k) + 9 = nI (50 * k + 9) from e 9, show nI (50 * k) + 18 = nI (50 * k + 18) from e 18, show nI (50 * k) + 27 = nI (50 * k + 27) from e 27, nI_add, nI_add, nI_add, gd_t (ek_inb (by omega) (by omega)), gd_t (ek_inb hm (by omega)), gd_t (ek_inb (by omega) (by omega)), gd_t (ek_inb (by omega) (by omega)), nI_clamp (show m < 2 ^ 31 by omega), nI_clamp (by omega), nI_clamp (by omega), nI_clamp (by omega), nI_1]
    · intro i hi
      try simp only
      by_cases z : i = m
      · rw [z, pk_us, pk_us, pk_us]; exact ⟨rfl, rfl, rfl⟩
      · rw [pk_un z, pk_un z, pk_un z]; exact hs0 i (by omega)
  · rintro n' ⟨s1, s2, s3⟩ hs0
    refine ⟨s1, s2, s3, ?_, hs0⟩
    try simp only
    rw [f_X12_on_b153, if_pos (show (9 : Int32) ≤ nI 9 from nI_le (a := 9) (Nat.le_refl _) (by omega))]
theorem r_keep {N n : Nat} {st ru at_ ib ho cr la na li k0st k0ru k0at k0ib k0ho k0cr k0la k0na k0li k0th k1st k1ru k1at k1ib k1ho k1cr k1la k1na k1li k1th k2st k2ru k2at k2ib k2ho k2cr k2la k2na k2li k2th : Int32} {hs gi wr hs' gi' wr' k0hs k0gi k0wr k1hs k1gi k1wr k2hs k2gi k2wr K : Nat → Int32} (hN : 5000 ≤ N) (hn : n ≤ 9) (hR : ek_R n st ru at_ ib ho cr la na li hs gi wr st ru at_ ib ho cr la na li hs' gi' wr') (hK0 : ek_K1 n 0 k0st k0ru k0at k0ib k0ho k0cr k0la k0na k0li k0th k0hs k0gi k0wr K) (hK1 : ek_K1 n 1 k1st k1ru k1at k1ib k1ho k1cr k1la k1na k1li k1th k1hs k1gi k1wr K) (hK2 : ek_K1 n 2 k2st k2ru k2at k2ib k2ho k2cr k2la k2na k2li k2th k2hs k2gi k2wr K) (x : Int32) :
    ∃ o o', f_X11_keep N (nI n) st ru at_ ib ho cr la na li hs gi wr k0st k0ru k0at k0ib k0ho k0cr k0la k0na k0li k0th k0hs k0gi k0wr k1st k1ru k1at k1ib k1ho k1cr k1la k1na k1li k1th k1hs k1gi k1wr k2st k2ru k2at k2ib k2ho k2cr k2la k2na k2li k2th k2hs k2gi k2wr x = some o ∧ f_X12_keep N (nI n) la na li cr ho st ru at_ ib gi' wr' hs' K x = some o' ∧ o.1 = o'.1 ∧ ek_K1 n 0 o.2.1 o.2.2.1 o.2.2.2.1 o.2.2.2.2.1 o.2.2.2.2.2.1 o.2.2.2.2.2.2.1 o.2.2.2.2.2.2.2.1 o.2.2.2.2.2.2.2.2.1 o.2.2.2.2.2.2.2.2.2.1 o.2.2.2.2.2.2.2.2.2.2.1 o.2.2.2.2.2.2.2.2.2.2.2.1 o.2.2.2.2.2.2.2.2.2.2.2.2.1 o.2.2.2.2.2.2.2.2.2.2.2.2.2.1 o'.2 ∧ ek_K1 n 1 o.2.2.2.2.2.2.2.2.2.2.2.2.2.2.1 o.2.2.2.2.2.2.2.2.2.2.2.2.2.2.2.1 o.2.2.2.2.2.2.2.2.2.2.2.2.2.2.2.2.1 o.2.2.2.2.2.2.2.2.2.2.2.2.2.2.2.2.2.1 o.2.2.2.2.2.2.2.2.2.2.2.2.2.2.2.2.2.2.1 o.2.2.2.2.2.2.2.2.2.2.2.2.2.2.2.2.2.2.2.1 o.2.2.2.2.2.2.2.2.2.2.2.2.2.2.2.2.2.2.2.2.1 o.2.2.2.2.2.2.2.2.2.2.2.2.2.2.2.2.2.2.2.2.2.1 o.2.2.2.2.2.2.2.2.2.2.2.2.2.2.2.2.2.2.2.2.2.2.1 o.2.2.2.2.2.2.2.2.2.2.2.2.2.2.2.2.2.2.2.2.2.2.2.1 o.2.2.2.2.2.2.2.2.2.2.2.2.2.2.2.2.2.2.2.2.2.2.2.2.1 o.2.2.2.2.2.2.2.2.2.2.2.2.2.2.2.2.2.2.2.2.2.2.2.2.2.1 o.2.2.2.2.2.2.2.2.2.2.2.2.2.2.2.2.2.2.2.2.2.2.2.2.2.2.1 o'.2 ∧ ek_K1 n 2 o.2.2.2.2.2.2.2.2.2.2.2.2.2.2.2.2.2.2.2.2.2.2.2.2.2.2.2.1 o.2.2.2.2.2.2.2.2.2.2.2.2.2.2.2.2.2.2.2.2.2.2.2.2.2.2.2.2.1 o.2.2.2.2.2.2.2.2.2.2.2.2.2.2.2.2.2.2.2.2.2.2.2.2.2.2.2.2.2.1 o.2.2.2.2.2.2.2.2.2.2.2.2.2.2.2.2.2.2.2.2.2.2.2.2.2.2.2.2.2.2.1 o.2.2.2.2.2.2.2.2.2.2.2.2.2.2.2.2.2.2.2.2.2.2.2.2.2.2.2.2.2.2.2.1 o.2.2.2.2.2.2.2.2.2.2.2.2.2.2.2.2.2.2.2.2.2.2.2.2.2.2.2.2.2.2.2.2.1 o.2.2.2.2.2.2.2.2.2.2.2.2.2.2.2.2.2.2.2.2.2.2.2.2.2.2.2.2.2.2.2.2.2.1 o.2.2.2.2.2.2.2.2.2.2.2.2.2.2.2.2.2.2.2.2.2.2.2.2.2.2.2.2.2.2.2.2.2.2.1 o.2.2.2.2.2.2.2.2.2.2.2.2.2.2.2.2.2.2.2.2.2.2.2.2.2.2.2.2.2.2.2.2.2.2.2.1 o.2.2.2.2.2.2.2.2.2.2.2.2.2.2.2.2.2.2.2.2.2.2.2.2.2.2.2.2.2.2.2.2.2.2.2.2.1 o.2.2.2.2.2.2.2.2.2.2.2.2.2.2.2.2.2.2.2.2.2.2.2.2.2.2.2.2.2.2.2.2.2.2.2.2.2.1 o.2.2.2.2.2.2.2.2.2.2.2.2.2.2.2.2.2.2.2.2.2.2.2.2.2.2.2.2.2.2.2.2.2.2.2.2.2.2.1 o.2.2.2.2.2.2.2.2.2.2.2.2.2.2.2.2.2.2.2.2.2.2.2.2.2.2.2.2.2.2.2.2.2.2.2.2.2.2.2 o'.2 := by
  obtain ⟨hR1, hR2, hR3⟩ := hR
  have hib := hR3.2.2.2.1
  rcases ek_what x 2 (by decide) 2 3 rfl rfl with ⟨f1, f2⟩ | ⟨k, hk, rfl, f1, f2, f3, f4⟩
  · have hne : ∀ j, j < 3 → ¬ x = nI j := by
      intro j hj e
      subst e
      rcases f2 with q | ⟨q1, q2, q3⟩
      · exact nI_pos (by omega) q
      · exact q2 (nI_lt (b := 3) hj (by omega))
    apply ek_mk2
    · unfold f_X11_keep; rw [if_neg (show ¬ x = 0 from hne 0 (by omega)), if_neg (show ¬ x = 1 from hne 1 (by omega)), if_neg (show ¬ x = 2 from hne 2 (by omega))]
    · unfold f_X12_keep; rw [if_pos f1]
    · exact ⟨rfl, hK0, hK1, hK2⟩
  by_cases h0 : nI n = 0
  · have k3 : k = 0 ∨ k = 1 ∨ k = 2 := by omega
    apply ek_mk2
    · unfold f_X11_keep
      rcases k3 with rfl | rfl | rfl
      · rw [if_pos (show nI 0 = 0 from rfl), if_pos h0]
      · rw [if_neg (show ¬ nI 1 = 0 by decide), if_pos (show nI 1 = 1 from rfl), if_pos h0]
      · rw [if_neg (show ¬ nI 2 = 0 by decide), if_neg (show ¬ nI 2 = 1 by decide), if_pos (show nI 2 = 2 from rfl), if_pos h0]
    · unfold f_X12_keep; rw [if_neg f1, if_pos h0]
    · exact ⟨rfl, hK0, hK1, hK2⟩
  obtain ⟨K', m1, ⟨m2, m3, m4, m5, m6, m7, m8, m9, m10⟩, m11, m12⟩ := ek_keepM (N := N) (la := la) (na := na) (li := li) (cr := cr) (ho := ho) (st := st) (ru := ru) (at_ := at_) (ib := ib) (g := gi') (w := wr') (h := hs') (K := K) hN (show k < 3 by omega) h0
  have hib2 : (if ib = 0 then (0 : Int32) else 1) = ib := by
    rcases hib with q | q
    · rw [q]; rfl
    · rw [q]; rfl
  rw [hib2] at m6
  have hnew : ∀ (h2 g2 w2 : Nat → Int32), (∀ i, i < 9 → h2 i = hs i ∧ g2 i = gi i ∧ w2 i = wr i) → ek_K1 n k st ru at_ ib ho cr la na li 1 h2 g2 w2 K' := by
    intro h2 g2 w2 hh
    refine Or.inr ⟨rfl, ⟨m3, m4, m5, m6, m2, m7, m8, m9, m10⟩, ?_, ?_⟩
    · intro i hi
      obtain ⟨a1, a2, a3⟩ := m11 i hi
      obtain ⟨b1, b2, b3⟩ := hR2 i hi
      obtain ⟨c1, c2, c3⟩ := hh i hi
      try simp only
      rw [a1, a2, a3, b1, b2, b3, c1, c2, c3]; exact ⟨rfl, rfl, rfl⟩
    · obtain ⟨p1, p2, p3, p4, p5, p6, p7⟩ := hR3
      exact ⟨p1, p2, p3, p4, p5, p6, ek_Beq p7 (fun i hi => (hh i hi).2)⟩
  have k3 : k = 0 ∨ k = 1 ∨ k = 2 := by omega
  rcases k3 with rfl | rfl | rfl
  · obtain ⟨h2, g2, w2, e1, e2⟩ := ek_cpX6 (N := N) (st := st) (ru := ru) (at_ := at_) (ib := ib) (ho := ho) (cr := cr) (la := la) (na := na) (li := li) (hs := hs) (gi := gi) (wr := wr) (a1 := k0st) (a2 := k0ru) (a3 := k0at) (a4 := k0ib) (a5 := k0ho) (a6 := k0cr) (a7 := k0la) (a8 := k0na) (a9 := k0li) (h2 := k0hs) (g2 := k0gi) (w2 := k0wr) hN hib
    apply ek_mk2
    · unfold f_X11_keep; rw [if_pos (show nI 0 = 0 from rfl), if_neg h0, e1, bn_t]
    · exact m1
    · exact ⟨rfl, hnew h2 g2 w2 e2, ek_K1ext hK1 (fun q hq => m12 _ (by omega)), ek_K1ext hK2 (fun q hq => m12 _ (by omega))⟩
  · obtain ⟨h2, g2, w2, e1, e2⟩ := ek_cpX6 (N := N) (st := st) (ru := ru) (at_ := at_) (ib := ib) (ho := ho) (cr := cr) (la := la) (na := na) (li := li) (hs := hs) (gi := gi) (wr := wr) (a1 := k1st) (a2 := k1ru) (a3 := k1at) (a4 := k1ib) (a5 := k1ho) (a6 := k1cr) (a7 := k1la) (a8 := k1na) (a9 := k1li) (h2 := k1hs) (g2 := k1gi) (w2 := k1wr) hN hib
    apply ek_mk2
    · unfold f_X11_keep; rw [if_neg (show ¬ nI 1 = 0 by decide), if_pos (show nI 1 = 1 from rfl), if_neg h0, e1, bn_t]
    · exact m1
    · exact ⟨rfl, ek_K1ext hK0 (fun q hq => m12 _ (by omega)), hnew h2 g2 w2 e2, ek_K1ext hK2 (fun q hq => m12 _ (by omega))⟩
  · obtain ⟨h2, g2, w2, e1, e2⟩ := ek_cpX6 (N := N) (st := st) (ru := ru) (at_ := at_) (ib := ib) (ho := ho) (cr := cr) (la := la) (na := na) (li := li) (hs := hs) (gi := gi) (wr := wr) (a1 := k2st) (a2 := k2ru) (a3 := k2at) (a4 := k2ib) (a5 := k2ho) (a6 := k2cr) (a7 := k2la) (a8 := k2na) (a9 := k2li) (h2 := k2hs) (g2 := k2gi) (w2 := k2wr) hN hib
    apply ek_mk2
    · unfold f_X11_keep; rw [if_neg (show ¬ nI 2 = 0 by decide), if_neg (show ¬ nI 2 = 1 by decide), if_pos (show nI 2 = 2 from rfl), if_neg h0, e1, bn_t]
    · exact m1
    · exact ⟨rfl, ek_K1ext hK0 (fun q hq => m12 _ (by omega)), ek_K1ext hK1 (fun q hq => m12 _ (by omega)), hnew h2 g2 w2 e2⟩
theorem r_on {N n : Nat} {l l' st ru at_ ib ho cr la na li k0st k0ru k0at k0ib k0ho k0cr k0la k0na k0li k0th k1st k1ru k1at k1ib k1ho k1cr k1la k1na k1li k1th k2st k2ru k2at k2ib k2ho k2cr k2la k2na k2li k2th : Int32} {hs gi wr hs' gi' wr' Cn Cn' k0hs k0gi k0wr k1hs k1gi k1wr k2hs k2gi k2wr K : Nat → Int32} (hN : 5000 ≤ N) (hF : ek_F l Cn l' Cn') (hR : ek_R n st ru at_ ib ho cr la na li hs gi wr st ru at_ ib ho cr la na li hs' gi' wr') (hK0 : ek_K1 n 0 k0st k0ru k0at k0ib k0ho k0cr k0la k0na k0li k0th k0hs k0gi k0wr K) (hK1 : ek_K1 n 1 k1st k1ru k1at k1ib k1ho k1cr k1la k1na k1li k1th k1hs k1gi k1wr K) (hK2 : ek_K1 n 2 k2st k2ru k2at k2ib k2ho k2cr k2la k2na k2li k2th k2hs k2gi k2wr K) (x : Int32) :
    ∃ o o', f_X11_on N k0st k0ru k0at k0ib k0ho k0cr k0la k0na k0li k0th k0hs k0gi k0wr k1st k1ru k1at k1ib k1ho k1cr k1la k1na k1li k1th k1hs k1gi k1wr k2st k2ru k2at k2ib k2ho k2cr k2la k2na k2li k2th k2hs k2gi k2wr l st ru at_ ib ho cr la na li hs gi wr Cn x = some o ∧ f_X12_on N K l' la na li cr ho st ru at_ ib Cn' gi' wr' hs' x = some o' ∧ o.1 = o'.1 ∧ ek_F o.2.1 o.2.2.2.2.2.2.2.2.2.2.2.2.2.2 o'.2.1 o'.2.2.2.2.2.2.2.2.2.2.2.1 ∧ ek_R n o.2.2.1 o.2.2.2.1 o.2.2.2.2.1 o.2.2.2.2.2.1 o.2.2.2.2.2.2.1 o.2.2.2.2.2.2.2.1 o.2.2.2.2.2.2.2.2.1 o.2.2.2.2.2.2.2.2.2.1 o.2.2.2.2.2.2.2.2.2.2.1 o.2.2.2.2.2.2.2.2.2.2.2.1 o.2.2.2.2.2.2.2.2.2.2.2.2.1 o.2.2.2.2.2.2.2.2.2.2.2.2.2.1 o'.2.2.2.2.2.2.2.1 o'.2.2.2.2.2.2.2.2.1 o'.2.2.2.2.2.2.2.2.2.1 o'.2.2.2.2.2.2.2.2.2.2.1 o'.2.2.2.2.2.2.1 o'.2.2.2.2.2.1 o'.2.2.1 o'.2.2.2.1 o'.2.2.2.2.1 o'.2.2.2.2.2.2.2.2.2.2.2.2.2.2 o'.2.2.2.2.2.2.2.2.2.2.2.2.1 o'.2.2.2.2.2.2.2.2.2.2.2.2.2.1 := by
  rcases ek_what x 2 (by decide) 2 3 rfl rfl with ⟨f1, f2⟩ | ⟨k, hk, rfl, f1, f2, f3, f4⟩
  · have hne : ∀ j, j < 3 → ¬ x = nI j := by
      intro j hj e
      subst e
      rcases f2 with q | ⟨q1, q2, q3⟩
      · exact nI_pos (by omega) q
      · exact q2 (nI_lt (b := 3) hj (by omega))
    apply ek_mk2
    · unfold f_X11_on; rw [if_neg (show ¬ x = 0 from hne 0 (by omega)), if_neg (show ¬ x = 1 from hne 1 (by omega)), if_neg (show ¬ x = 2 from hne 2 (by omega))]
    · unfold f_X12_on; rw [if_pos f1]
    · exact ⟨rfl, hF, hR⟩
  have mref : K (50 * k) = -9 → f_X12_on N K l' la na li cr ho st ru at_ ib Cn' gi' wr' hs' (nI k) = some (-3, nI 1, la, na, li, cr, ho, st, ru, at_, ib, upd Cn' 1 (Cn' 1 + 1), gi', wr', hs') := by
    intro q
    unfold f_X12_on
    rw [if_neg f1, show (50 : Int32) * nI k = nI (50 * k) from pk_mul 50 k, nm_t, gd_t (ek_inb (by omega) (by omega)), nI_clamp (by omega), if_pos q]
    show bn (f_X12_meet N l' Cn' (nI 1)) _ = _
    rw [ek_meet (by decide)]; rfl
  have k3 : k = 0 ∨ k = 1 ∨ k = 2 := by omega
  rcases k3 with rfl | rfl | rfl
  · rcases hK0 with ⟨t1, t2⟩ | ⟨t1, t2, t3, t4⟩
    · apply ek_mk2
      · unfold f_X11_on; rw [if_pos (show nI 0 = 0 from rfl), if_pos t1]
        show nm (p_X11_refuse l Cn (nI 1)) _ = _
        rw [ek_ref (by decide) (by decide)]; rfl
      · exact mref t2
      · exact ⟨rfl, ek_F_upd hF (by decide), hR⟩
    · obtain ⟨h2, g2, w2, e1, e2⟩ := ek_cpX6 (N := N) (st := k0st) (ru := k0ru) (at_ := k0at) (ib := k0ib) (ho := k0ho) (cr := k0cr) (la := k0la) (na := k0na) (li := k0li) (hs := k0hs) (gi := k0gi) (wr := k0wr) (a1 := st) (a2 := ru) (a3 := at_) (a4 := ib) (a5 := ho) (a6 := cr) (a7 := la) (a8 := na) (a9 := li) (h2 := hs) (g2 := gi) (w2 := wr) hN t4.2.2.2.1
      obtain ⟨b1, b2, b3, b4, b5, b6, b7, b8, b9⟩ := t2
      have nK : ¬ K (50 * 0) = -9 := by
        obtain ⟨z, hz, ez⟩ := t4.2.2.2.2.1
        rw [b5, ez]; exact (ek_neg (z := (-9 : Int32)) (k := -9) (by decide) (by decide) (by omega)).2.2.2.2.2
      obtain ⟨g3, w3, h3, c1, c2⟩ := ek_onM (N := N) (k := 0) (f := l') (la := la) (na := na) (li := li) (cr := cr) (ho := ho) (st := st) (ru := ru) (at_ := at_) (ib := ib) (C' := Cn') (g := gi') (w := wr') (h := hs') (K := K) hN (by omega) nK (by rw [b4]; exact t4.2.2.2.1)
      apply ek_mk2
      · unfold f_X11_on; rw [if_pos (show nI 0 = 0 from rfl), if_neg (show ¬ k0th = 0 by rw [t1]; decide), e1, bn_t]
      · exact c1
      · refine ⟨b5.symm, hF, ⟨b1, b2, b3, b4, b5, b6, b7, b8, b9⟩, fun i hi => ?_, ?_⟩
        · obtain ⟨u1, u2, u3⟩ := c2 i hi
          obtain ⟨v1, v2, v3⟩ := e2 i hi
          obtain ⟨w1, w2', w3'⟩ := t3 i hi
          exact ⟨u1.trans (w1.trans v1.symm), u2.trans (w2'.trans v2.symm), u3.trans (w3'.trans v3.symm)⟩
        · obtain ⟨p1, p2, p3, p4, p5, p6, p7⟩ := t4
          exact ⟨p1, p2, p3, p4, p5, p6, ek_Beq p7 (fun i hi => (e2 i hi).2)⟩
  · rcases hK1 with ⟨t1, t2⟩ | ⟨t1, t2, t3, t4⟩
    · apply ek_mk2
      · unfold f_X11_on; rw [if_neg (show ¬ nI 1 = 0 by decide), if_pos (show nI 1 = 1 from rfl), if_pos t1]
        show nm (p_X11_refuse l Cn (nI 1)) _ = _
        rw [ek_ref (by decide) (by decide)]; rfl
      · exact mref t2
      · exact ⟨rfl, ek_F_upd hF (by decide), hR⟩
    · obtain ⟨h2, g2, w2, e1, e2⟩ := ek_cpX6 (N := N) (st := k1st) (ru := k1ru) (at_ := k1at) (ib := k1ib) (ho := k1ho) (cr := k1cr) (la := k1la) (na := k1na) (li := k1li) (hs := k1hs) (gi := k1gi) (wr := k1wr) (a1 := st) (a2 := ru) (a3 := at_) (a4 := ib) (a5 := ho) (a6 := cr) (a7 := la) (a8 := na) (a9 := li) (h2 := hs) (g2 := gi) (w2 := wr) hN t4.2.2.2.1
      obtain ⟨b1, b2, b3, b4, b5, b6, b7, b8, b9⟩ := t2
      have nK : ¬ K (50 * 1) = -9 := by
        obtain ⟨z, hz, ez⟩ := t4.2.2.2.2.1
        rw [b5, ez]; exact (ek_neg (z := (-9 : Int32)) (k := -9) (by decide) (by decide) (by omega)).2.2.2.2.2
      obtain ⟨g3, w3, h3, c1, c2⟩ := ek_onM (N := N) (k := 1) (f := l') (la := la) (na := na) (li := li) (cr := cr) (ho := ho) (st := st) (ru := ru) (at_ := at_) (ib := ib) (C' := Cn') (g := gi') (w := wr') (h := hs') (K := K) hN (by omega) nK (by rw [b4]; exact t4.2.2.2.1)
      apply ek_mk2
      · unfold f_X11_on; rw [if_neg (show ¬ nI 1 = 0 by decide), if_pos (show nI 1 = 1 from rfl), if_neg (show ¬ k1th = 0 by rw [t1]; decide), e1, bn_t]
      · exact c1
      · refine ⟨b5.symm, hF, ⟨b1, b2, b3, b4, b5, b6, b7, b8, b9⟩, fun i hi => ?_, ?_⟩
        · obtain ⟨u1, u2, u3⟩ := c2 i hi
          obtain ⟨v1, v2, v3⟩ := e2 i hi
          obtain ⟨w1, w2', w3'⟩ := t3 i hi
          exact ⟨u1.trans (w1.trans v1.symm), u2.trans (w2'.trans v2.symm), u3.trans (w3'.trans v3.symm)⟩
        · obtain ⟨p1, p2, p3, p4, p5, p6, p7⟩ := t4
          exact ⟨p1, p2, p3, p4, p5, p6, ek_Beq p7 (fun i hi => (e2 i hi).2)⟩
  · rcases hK2 with ⟨t1, t2⟩ | ⟨t1, t2, t3, t4⟩
    · apply ek_mk2
      · unfold f_X11_on; rw [if_neg (show ¬ nI 2 = 0 by decide), if_neg (show ¬ nI 2 = 1 by decide), if_pos (show nI 2 = 2 from rfl), if_pos t1]
        show nm (p_X11_refuse l Cn (nI 1)) _ = _
        rw [ek_ref (by decide) (by decide)]; rfl
      · exact mref t2
      · exact ⟨rfl, ek_F_upd hF (by decide), hR⟩
    · obtain ⟨h2, g2, w2, e1, e2⟩ := ek_cpX6 (N := N) (st := k2st) (ru := k2ru) (at_ := k2at) (ib := k2ib) (ho := k2ho) (cr := k2cr) (la := k2la) (na := k2na) (li := k2li) (hs := k2hs) (gi := k2gi) (wr := k2wr) (a1 := st) (a2 := ru) (a3 := at_) (a4 := ib) (a5 := ho) (a6 := cr) (a7 := la) (a8 := na) (a9 := li) (h2 := hs) (g2 := gi) (w2 := wr) hN t4.2.2.2.1
      obtain ⟨b1, b2, b3, b4, b5, b6, b7, b8, b9⟩ := t2
      have nK : ¬ K (50 * 2) = -9 := by
        obtain ⟨z, hz, ez⟩ := t4.2.2.2.2.1
        rw [b5, ez]; exact (ek_neg (z := (-9 : Int32)) (k := -9) (by decide) (by decide) (by omega)).2.2.2.2.2
      obtain ⟨g3, w3, h3, c1, c2⟩ := ek_onM (N := N) (k := 2) (f := l') (la := la) (na := na) (li := li) (cr := cr) (ho := ho) (st := st) (ru := ru) (at_ := at_) (ib := ib) (C' := Cn') (g := gi') (w := wr') (h := hs') (K := K) hN (by omega) nK (by rw [b4]; exact t4.2.2.2.1)
      apply ek_mk2
      · unfold f_X11_on; rw [if_neg (show ¬ nI 2 = 0 by decide), if_neg (show ¬ nI 2 = 1 by decide), if_pos (show nI 2 = 2 from rfl), if_neg (show ¬ k2th = 0 by rw [t1]; decide), e1, bn_t]
      · exact c1
      · refine ⟨b5.symm, hF, ⟨b1, b2, b3, b4, b5, b6, b7, b8, b9⟩, fun i hi => ?_, ?_⟩
        · obtain ⟨u1, u2, u3⟩ := c2 i hi
          obtain ⟨v1, v2, v3⟩ := e2 i hi
          obtain ⟨w1, w2', w3'⟩ := t3 i hi
          exact ⟨u1.trans (w1.trans v1.symm), u2.trans (w2'.trans v2.symm), u3.trans (w3'.trans v3.symm)⟩
        · obtain ⟨p1, p2, p3, p4, p5, p6, p7⟩ := t4
          exact ⟨p1, p2, p3, p4, p5, p6, ek_Beq p7 (fun i hi => (e2 i hi).2)⟩
