/-! cards: room, the call -/
theorem ek_full {N k z w h : Nat} {S C S' C' LL0 M0 U0 Cn' : Nat → Int32} {l' ak : Int32} (hN : 5000 ≤ N) (hk : k < 6) (a : S k = nI z) (b : S' k = nI z) (hz : z ≤ 8) (hw : w ≤ 40) (hh2 : h ≤ 20) (cc : ∀ i, i < z → C (40 * k + i) = C' (40 * k + i)) (hn : ∀ q, q < z → ∃ s, 1 ≤ s ∧ s ≤ 40 ∧ C (40 * k + q) = nI s) :
    ∃ bs LL M U, bs < 256 ∧ f_X4_fullestSet N 6 240 40 S C LL0 (nI k) (nI w) (nI h) = some (nI bs, LL) ∧ f_X12_room_b83 N (f_X12_room_b388 N S' C') S' C' N l' ak Cn' (upd M0 0 0) (upd U0 0 0) (nI w) (nI h) (nI k) 0 1 = f_X12_room_b388 N S' C' l' ak Cn' M U (nI bs) := by
  have hp8 : 2 ^ z ≤ 256 := Nat.le_trans (Nat.pow_le_pow_right (n := 2) (by omega) hz) (by decide)
  have hp1 := Nat.two_pow_pos z
  have hsz : (if (8 : Int32) < nI z then (8 : Int32) else nI z) = nI z := by rw [if_neg (show ¬ (8 : Int32) < nI z from nI_nlt (a := 8) hz (by omega))]
  have key : ∀ d j n1 n2 LL M U bs, d + j = 2 ^ z → 1 ≤ j → d < n1 → d < n2 → bs < 256 → (∀ q, q < j → ek_lr LL M U q) →
      ∃ bs' LL' M' U', bs' < 256 ∧ f_X4_fullestSet_b20 N 6 240 40 S C n1 LL (nI k) (nI w) (nI h) (nI (2 ^ z)) (nI bs) (nI j) = some (nI bs', LL') ∧ f_X12_room_b83 N (f_X12_room_b388 N S' C') S' C' n2 l' ak Cn' M U (nI w) (nI h) (nI k) (nI bs) (nI j) = f_X12_room_b388 N S' C' l' ak Cn' M' U' (nI bs') := by
    intro d
    induction d with
    | zero =>
      intro j n1 n2 LL M U bs hd hj1 h1 h2 hbs hr
      obtain ⟨n1, rfl⟩ : ∃ q, n1 = q + 1 := ⟨n1 - 1, by omega⟩
      obtain ⟨n2, rfl⟩ : ∃ q, n2 = q + 1 := ⟨n2 - 1, by omega⟩
      have e : j = 2 ^ z := by omega
      refine ⟨bs, LL, M, U, hbs, ?_, ?_⟩
      · rw [f_X4_fullestSet_b20, e, if_pos (nI_le (Nat.le_refl _) (by omega))]
      · rw [f_X12_room_b83, gd_t (ek_inb hk (by omega)), nI_clamp (by omega), b, ek_pow2 z (by omega), e, if_pos (nI_le (Nat.le_refl _) (by omega))]
    | succ d ih =>
      intro j n1 n2 LL M U bs hd hj1 h1 h2 hbs hr
      obtain ⟨n1, rfl⟩ : ∃ q, n1 = q + 1 := ⟨n1 - 1, by omega⟩
      obtain ⟨n2, rfl⟩ : ∃ q, n2 = q + 1 := ⟨n2 - 1, by omega⟩
      have hjz : j < 2 ^ z := by omega
      have hr2 : ∀ q, q < j → ek_lr LL (upd M j 100) (upd U j 0) q := by
        intro q hq
        obtain ⟨L, m, u, e1, e2, e3, e4⟩ := hr q hq
        exact ⟨L, m, u, e1, by rw [pk_un (by omega)]; exact e2, by rw [pk_un (by omega)]; exact e3, e4⟩
      obtain ⟨L, m, u, M2, U2, x1, x2, x3, x4, x5, x6⟩ := ek_layX (N := N) (S' := S') (C' := C') (Cn' := Cn') (l' := l') (ak := ak) (bs := nI bs) (h := nI h) hN hk a hz hjz hw hn hr2 pk_us pk_us b cc (f_X12_room_b349 N (f_X12_room_b83 N (f_X12_room_b388 N S' C') S' C' n2) (f_X12_room_b388 N S' C') S' C')
      have hLm := ek_lmL x3
      have hb1 : p_J6_bitCount_0f7a4 (nI j) = ek_pc (nI j) := ek_bcX (ek_subN (by omega))
      have hb2 : p_J6_bitCount_0f7a4 (nI bs) = ek_pc (nI bs) := ek_bcX (ek_subN (by omega))
      -- the better set
      have hbest : ∃ b2, b2 < 256 ∧ (if nI h < nI (L / 64) then nI bs else (if ek_pc (nI j) ≤ ek_pc (nI bs) then nI bs else nI j)) = nI b2 := by
        split
        · exact ⟨bs, hbs, rfl⟩
        · split
          · exact ⟨bs, hbs, rfl⟩
          · exact ⟨j, by omega, rfl⟩
      obtain ⟨b2, hb2', eb⟩ := hbest
      have hline : (nI h < nI (L / 64)) ↔ (nI h < nI m) := by
        rw [nI_ltI (by omega) (by omega), nI_ltI (by omega) (by omega)]
        rcases x3 with ⟨c1, c2, c3⟩ | ⟨c1, c2, c3, c4⟩ <;> omega
      have hX : f_X4_fullestSet_b20 N 6 240 40 S C (n1 + 1) LL (nI k) (nI w) (nI h) (nI (2 ^ z)) (nI bs) (nI j) = f_X4_fullestSet_b20 N 6 240 40 S C n1 (upd LL j (nI L)) (nI k) (nI w) (nI h) (nI (2 ^ z)) (nI b2) (nI (j + 1)) := by
        rw [f_X4_fullestSet_b20, if_neg (nI_ge hjz (by omega)), if_neg (show ¬ (256 : Int32) ≤ nI j from nI_ge (b := 256) (by omega) (by omega)), if_neg (nI_ne0 (by omega) (by omega)), x1, bn_t]
        unfold f_X4_fullestSet_b61 f_X4_fullestSet_b95
        rw [gd_t (ek_inb (by omega) (by omega)), gd_t (ek_inb (by omega) (by omega)), nI_clamp (by omega), pk_us, ek_lines L (by omega), hb1, hb2, eb, nI_1]
      have hM : f_X12_room_b83 N (f_X12_room_b388 N S' C') S' C' (n2 + 1) l' ak Cn' M U (nI w) (nI h) (nI k) (nI bs) (nI j) = f_X12_room_b83 N (f_X12_room_b388 N S' C') S' C' n2 l' ak Cn' M2 U2 (nI w) (nI h) (nI k) (nI b2) (nI (j + 1)) := by
        rw [f_X12_room_b83, gd_t (ek_inb hk (by omega)), nI_clamp (by omega), b, ek_pow2 z (by omega), if_neg (nI_ge hjz (by omega)), gd_t (ek_inb (show j < 256 by omega) (by omega)), nI_clamp (show j < 2 ^ 31 by omega)]
        rw [x2]
        unfold f_X12_room_b349 f_X12_room_b380
        rw [gd_t (ek_inb (show j < 256 by omega) (by omega)), nI_clamp (show j < 2 ^ 31 by omega), x4, ek_bcM hN, bn_t, ek_bcM hN, bn_t, nI_1, ← eb]
        by_cases y : nI h < nI m
        · rw [if_pos y, if_pos (hline.mpr y)]
        · rw [if_neg y, if_neg (fun q => y (hline.mp q))]
      rw [hX, hM]
      refine ih (j + 1) n1 n2 (upd LL j (nI L)) M2 U2 b2 (by omega) (by omega) (by omega) (by omega) hb2' ?_
      intro q hq
      by_cases y : q = j
      · subst y
        exact ⟨L, m, u, pk_us, x4, x5, x3⟩
      · obtain ⟨L', m', u', e1, e2, e3, e4⟩ := hr q (by omega)
        refine ⟨L', m', u', by rw [pk_un y]; exact e1, ?_, ?_, e4⟩
        · rw [(x6 q y).1, pk_un y]; exact e2
        · rw [(x6 q y).2, pk_un y]; exact e3
  -- the empty set first
  have h0 : f_X4_fullestSet N 6 240 40 S C LL0 (nI k) (nI w) (nI h) = f_X4_fullestSet_b20 N 6 240 40 S C (N - 1) (upd LL0 0 0) (nI k) (nI w) (nI h) (nI (2 ^ z)) (nI 0) (nI 1) := by
    unfold f_X4_fullestSet
    rw [ek_siz S hk (by decide), a, hsz, ek_pow2 z (by omega), nm_t]
    obtain ⟨N', eN⟩ : ∃ N', N = N' + 1 := ⟨N - 1, by omega⟩
    have : ∀ M, f_X4_fullestSet_b20 N 6 240 40 S C (M + 1) LL0 (nI k) (nI w) (nI h) (nI (2 ^ z)) 0 0 = f_X4_fullestSet_b20 N 6 240 40 S C M (upd LL0 0 0) (nI k) (nI w) (nI h) (nI (2 ^ z)) (nI 0) (nI 1) := by
      intro M
      rw [f_X4_fullestSet_b20, if_neg (show ¬ nI (2 ^ z) ≤ 0 from nI_nle hp1 (by omega)), if_neg (by decide), if_pos rfl]
      unfold f_X4_fullestSet_b61 f_X4_fullestSet_b95
      rw [gd_t (by decide), gd_t (by decide)]
      have e0 : (0 : Int32).toNatClampNeg = 0 := by decide
      rw [e0, pk_us]
      have e1 : ¬ nI h < p_X4_linesOf 0 := by
        rw [show p_X4_linesOf 0 = nI 0 by decide]
        exact nI_pos (by omega)
      rw [if_neg e1, if_pos (Int32.le_refl _)]
      rfl
    have := this (N - 1)
    rw [show N - 1 + 1 = N by omega] at this
    exact this
  obtain ⟨bs, LL, M, U, q1, q2, q3⟩ := key (2 ^ z - 1) 1 (N - 1) N (upd LL0 0 0) (upd M0 0 0) (upd U0 0 0) 0 (by omega) (by omega) (by omega) (by omega) (by omega) (by
    intro q hq
    have : q = 0 := by omega
    subst this
    refine ⟨0, 0, 0, pk_us, pk_us, pk_us, Or.inr ⟨?_, by omega, by omega, Or.inl ⟨rfl, rfl⟩⟩⟩
    have := ek_ucle (nI 0) 8
    omega)
  exact ⟨bs, LL, M, U, q1, h0.trans q2, q3⟩
theorem r_room {N : Nat} {S C S' C' Cn Cn' LL M U : Nat → Int32} {l l' ak : Int32} (hN : 5000 ≤ N) (hH : ek_H 6 40 S C S' C') (hF : ek_F l Cn l' Cn') (x1 x2 x : Int32) :
    ∃ o o', f_X11_room N 40 S C l ak LL Cn x1 x2 x = some o ∧ f_X12_room N S' C' l' ak Cn' M U x1 x2 x = some o' ∧ o.1 = o'.1 ∧ ek_F o.2.1 o.2.2.2.2 o'.2.1 o'.2.2.2.1 ∧ o.2.2.1 = o'.2.2.1 := by
  rcases ek_card x1 x2 with ⟨c1, c2⟩ | ⟨c1, c2, w, h, hw1, hw2, hh1, hh2, rfl, rfl⟩
  · apply ek_mk2
    · unfold f_X11_room; rw [if_pos c1]
    · unfold f_X12_room; rw [if_pos c2]
    · exact ⟨rfl, hF, rfl⟩
  have isr : ∀ k, k < 6 → ¬ p_X12_isRow (nI k) = 0 := fun k hk => by unfold p_X12_isRow; rw [show ((5 : Int32)) = nI 5 from rfl, ek_in1 (by omega) (by decide)]; decide
  rcases ek_refM (l := l) (Cn := Cn) (x := x) hH (by decide) (by decide) with ⟨e, hh⟩ | ⟨k, hk, e, a, b, hh⟩ | ⟨k, z, hk, e, hz, a, b, cc, hh⟩
  · apply ek_mk2
    · unfold f_X11_room; rw [if_neg c1, e]; rfl
    · unfold f_X12_room; rw [if_neg c2, if_pos (show p_X12_isRow x = 0 by unfold p_X12_isRow; rw [show ((5 : Int32)) = nI 5 from rfl, ek_in0 (by decide) hh])]
    · exact ⟨rfl, hF, rfl⟩
  · subst e
    apply ek_mk2
    · unfold f_X11_room; rw [if_neg c1, hh]; rfl
    · unfold f_X12_room; rw [if_neg c2, if_neg (isr k hk), ek_askRow.2.1 k hk rfl b]; rfl
    · exact ⟨rfl, ek_F_upd hF (by decide), rfl⟩
  subst e
  by_cases h8 : nI z ≤ 8
  rotate_left
  · apply ek_mk2
    · unfold f_X11_room; rw [if_neg c1, hh, nm_t, if_pos rfl, ek_siz S hk (by decide), a, if_neg h8]
      show nm (p_X11_refuse l Cn (nI 5)) _ = _
      rw [ek_ref (by decide) (by decide)]; rfl
    · unfold f_X12_room; rw [if_neg c2, if_neg (isr k hk), ek_askRow.2.2 k z hk (by omega) rfl b, bn_t, if_pos (Int32.le_refl _), gd_t (ek_inb hk (by omega)), nI_clamp (by omega), b, if_neg h8]
      show bn (f_X12_meet N l' Cn' (nI 5)) _ = _
      rw [ek_meet (by decide)]; rfl
    · exact ⟨rfl, ek_F_upd hF (by decide), rfl⟩
  have hz8 : z ≤ 8 := (nI_leI (a := z) (b := 8) (by omega) (by omega)).mp h8
  obtain ⟨p, p1, p2⟩ := ek_within (C := C) (lo := 1) (hi := 40) hN hk hz a
  obtain ⟨q, q1, q2⟩ := ek_names (C := C) hN hk hz b cc
  have hpq : p = q := by
    cases hp : p <;> cases hq : q
    · rfl
    · exact absurd (p2.mpr (q2.mp hq)) (by rw [hp]; decide)
    · exact absurd (q2.mpr (p2.mp hp)) (by rw [hq]; decide)
    · rfl
  subst hpq
  cases hp : p
  · apply ek_mk2
    · unfold f_X11_room; rw [if_neg c1, hh, nm_t, if_pos rfl, ek_siz S hk (by decide), a, if_pos h8, p1, bn_t, hp, if_pos (by rfl)]
      show nm (p_X11_refuse l Cn (nI 3)) _ = _
      rw [ek_ref (by decide) (by decide)]; rfl
    · unfold f_X12_room; rw [if_neg c2, if_neg (isr k hk), ek_askRow.2.2 k z hk (by omega) rfl b, bn_t, if_pos (Int32.le_refl _), gd_t (ek_inb hk (by omega)), nI_clamp (by omega), b, if_pos h8, q1, bn_t, hp, if_pos (by rfl)]
      show bn (f_X12_meet N l' Cn' (nI 3)) _ = _
      rw [ek_meet (by decide)]; rfl
    · exact ⟨rfl, ek_F_upd hF (by decide), rfl⟩
  have hnames : ∀ j, j < z → ∃ s, 1 ≤ s ∧ s ≤ 40 ∧ C (40 * k + j) = nI s := by
    intro j hj
    obtain ⟨r1, r2⟩ := p2.mp hp j hj
    have h0 : ¬ C (40 * k + j) < 0 := fun q => r1 (of_eq_true (ek_ng q (a := 1) (by decide)).1)
    obtain ⟨s, hs, es⟩ := nI_of h0
    refine ⟨s, ?_, ?_, es⟩
    · rcases Nat.eq_zero_or_pos s with q | q
      · subst q; rw [es] at r1; exact absurd (show nI 0 < 1 by decide) r1
      · exact q
    · rw [es] at r2; exact (nI_leI (a := s) (b := 40) hs (by omega)).mp r2
  obtain ⟨bs, LL', M', U', g1, g2, g3⟩ := ek_full (LL0 := LL) (M0 := M) (U0 := U) (Cn' := Cn') (l' := l') (ak := ak) hN hk a b hz8 hw2 hh2 cc hnames
  apply ek_mk2
  · unfold f_X11_room
    rw [if_neg c1, hh, nm_t, if_pos rfl, ek_siz S hk (by decide), a, if_pos h8, p1, bn_t, hp, if_neg (by decide), g2, bn_t, nm_t]
  · unfold f_X12_room
    rw [if_neg c2, if_neg (isr k hk), ek_askRow.2.2 k z hk (by omega) rfl b, bn_t, if_pos (Int32.le_refl _), gd_t (ek_inb hk (by omega)), nI_clamp (by omega), b, if_pos h8, q1, bn_t, hp, if_neg (by decide), show (0 : Int32).toNatClampNeg = 0 by decide]
    try simp only
    rw [g3]
    unfold f_X12_room_b388
    rw [ek_bcM hN, bn_t, nm_t]
  · refine ⟨?_, hF, rfl⟩
    show p_J6_bitCount_0f7a4 (nI bs) = ek_pc (nI bs)
    exact ek_bcX (ek_subN (by omega))
