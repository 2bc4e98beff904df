/-! fault, office -/
theorem r_fault {N n : Nat} {S C S' C' F D dF Cn Cn' : Nat → Int32} {l l' dn ra rm : Int32} (hN : 5000 ≤ N) (hH : ek_H 4 100 S C S' C') (hF : ek_F l Cn l' Cn') (hD : ek_D n F D) (x : Int32) :
    ∃ o o', f_X11_fault N 100 S C l dn dF Cn x = some o ∧ f_X12_fault N S' C' l' ra rm Cn' D x = some o' ∧ o.1 = o'.1 ∧ ek_F o.2.1 o.2.2.2.2 o'.2.1 o'.2.2.2.2.1 ∧ ek_D n F o'.2.2.2.2.2 := by
  rcases ek_refM (l := l) (Cn := Cn) (x := x) hH (by decide) (by decide) with ⟨e, h⟩ | ⟨k, hk, e, a, b, h⟩ | ⟨k, z, hk, e, hz, a, b, cc, h⟩
  · apply ek_mk2
    · unfold f_X11_fault; rw [e]; rfl
    · unfold f_X12_fault; rw [ek_askText.1 h]; rfl
    · exact ⟨rfl, hF, hD⟩
  · apply ek_mk2
    · unfold f_X11_fault; rw [h]; rfl
    · unfold f_X12_fault; rw [ek_askText.2.1 k hk e b]; rfl
    · exact ⟨rfl, ek_F_upd hF (by decide), hD⟩
  · subst e
    obtain ⟨r, m, F', D', p, e1, e2, e3, e4⟩ := ek_parse (N := N) (num := dn) (ra := ra) (rm := rm) (F0 := dF) (D0 := D) hN hk hz a b cc
    apply ek_mk2
    · unfold f_X11_fault; rw [h]; simp only [nm_t, if_true]; rw [show ((100 : Int32)) = nI 100 from rfl, e1, bn_t]
    · unfold f_X12_fault; rw [ek_askText.2.2 k z hk (by omega) rfl b, bn_t, if_pos (Int32.le_refl _), e2, bn_t]
    · refine ⟨rfl, hF, hD.1, fun i w hi hw => ?_, hD.2.2⟩
      have := hD.1
      rw [hD.2.1 i w hi hw]
      exact (e4.2.2 _ (by omega)).symm
theorem r_office {N n : Nat} {S C S' C' F D dF Cn Cn' hs gi wr hs' gi' wr' lv ch ys k0hs k0gi k0wr k1hs k1gi k1wr k2hs k2gi k2wr K : Nat → Int32} {l l' dn ra rm ym ym' st ru at_ ib ho cr la na li k0st k0ru k0at k0ib k0ho k0cr k0la k0na k0li k0th k1st k1ru k1at k1ib k1ho k1cr k1la k1na k1li k1th k2st k2ru k2at k2ib k2ho k2cr k2la k2na k2li k2th : Int32} (hN : 5000 ≤ N) (hH : ek_H 4 100 S C S' C') (hF : ek_F l Cn l' Cn') (hD : ek_D n F D) (hR : ek_R n st ru at_ ib ho cr la na li hs gi wr st ru at_ ib ho cr la na li hs' gi' wr') (hK0 : ek_K1 n 0 k0st k0ru k0at k0ib k0ho k0cr k0la k0na k0li k0th k0hs k0gi k0wr K) (hK1 : ek_K1 n 1 k1st k1ru k1at k1ib k1ho k1cr k1la k1na k1li k1th k1hs k1gi k1wr K) (hK2 : ek_K1 n 2 k2st k2ru k2at k2ib k2ho k2cr k2la k2na k2li k2th k2hs k2gi k2wr K) (hY : ek_Y n ym lv ch ym' ys) (x : Int32) :
    ∃ o o', f_X11_office N 100 S C l (nI n) F dn dF st ru at_ ib ho cr la na li k0th k1th k2th ym Cn x = some o ∧ f_X12_office N S' C' l' (nI n) la na li ra rm cr ho st ru at_ ib ym' Cn' D K x = some o' ∧ ∃ n2, o.1 = o'.1 ∧ ek_F o.2.1 o.2.2.2.2.2.2.2.2.2.2.2.2.2.2.2.2.2.2.2 o'.2.1 o'.2.2.2.2.2.2.2.2.2.2.2.2.2.2.2.1 ∧ o.2.2.1 = nI n2 ∧ o'.2.2.1 = nI n2 ∧ ek_D n2 o.2.2.2.1 o'.2.2.2.2.2.2.2.2.2.2.2.2.2.2.2.2.1 ∧ ek_R n2 o.2.2.2.2.2.2.1 o.2.2.2.2.2.2.2.1 o.2.2.2.2.2.2.2.2.1 o.2.2.2.2.2.2.2.2.2.1 o.2.2.2.2.2.2.2.2.2.2.1 o.2.2.2.2.2.2.2.2.2.2.2.1 o.2.2.2.2.2.2.2.2.2.2.2.2.1 o.2.2.2.2.2.2.2.2.2.2.2.2.2.1 o.2.2.2.2.2.2.2.2.2.2.2.2.2.2.1 hs gi wr o'.2.2.2.2.2.2.2.2.2.2.1 o'.2.2.2.2.2.2.2.2.2.2.2.1 o'.2.2.2.2.2.2.2.2.2.2.2.2.1 o'.2.2.2.2.2.2.2.2.2.2.2.2.2.1 o'.2.2.2.2.2.2.2.2.2.1 o'.2.2.2.2.2.2.2.2.1 o'.2.2.2.1 o'.2.2.2.2.1 o'.2.2.2.2.2.1 hs' gi' wr' ∧ ek_K1 n2 0 k0st k0ru k0at k0ib k0ho k0cr k0la k0na k0li o.2.2.2.2.2.2.2.2.2.2.2.2.2.2.2.1 k0hs k0gi k0wr o'.2.2.2.2.2.2.2.2.2.2.2.2.2.2.2.2.2 ∧ ek_K1 n2 1 k1st k1ru k1at k1ib k1ho k1cr k1la k1na k1li o.2.2.2.2.2.2.2.2.2.2.2.2.2.2.2.2.1 k1hs k1gi k1wr o'.2.2.2.2.2.2.2.2.2.2.2.2.2.2.2.2.2 ∧ ek_K1 n2 2 k2st k2ru k2at k2ib k2ho k2cr k2la k2na k2li o.2.2.2.2.2.2.2.2.2.2.2.2.2.2.2.2.2.1 k2hs k2gi k2wr o'.2.2.2.2.2.2.2.2.2.2.2.2.2.2.2.2.2 ∧ ek_Y n2 o.2.2.2.2.2.2.2.2.2.2.2.2.2.2.2.2.2.2.1 lv ch o'.2.2.2.2.2.2.2.2.2.2.2.2.2.2.1 ys := by
  rcases ek_refM (l := l) (Cn := Cn) (x := x) hH (by decide) (by decide) with ⟨e, h⟩ | ⟨k, hk, e, a, b, h⟩ | ⟨k, z, hk, e, hz, a, b, cc, h⟩
  · apply ek_mk2
    · unfold f_X11_office; rw [e]; rfl
    · unfold f_X12_office; rw [ek_askText.1 h]; rfl
    · exact ⟨n, rfl, hF, rfl, rfl, hD, hR, hK0, hK1, hK2, hY⟩
  · apply ek_mk2
    · unfold f_X11_office; rw [h]; rfl
    · unfold f_X12_office; rw [ek_askText.2.1 k hk e b]; rfl
    · exact ⟨n, rfl, ek_F_upd hF (by decide), rfl, rfl, hD, hR, hK0, hK1, hK2, hY⟩
  · subst e
    obtain ⟨r, m, F1, D1, p, e1, e2, e3, e4⟩ := ek_parse (N := N) (num := dn) (ra := ra) (rm := rm) (F0 := dF) (D0 := D) hN hk hz a b cc
    obtain ⟨r', m', F2, D2, p', e1', e2', e3', e4'⟩ := ek_parse (N := N) (num := nI n) (ra := ra) (rm := rm) (F0 := F) (D0 := D) hN hk hz a b cc
    rw [e2] at e2'
    have e5 := Option.some.inj e2'
    have er : r = r' := congrArg (·.1) e5
    have em : nI m = nI m' := congrArg (·.2.2.1) e5
    have eD : D1 = D2 := congrArg (·.2.2.2) e5
    have emm : m = m' := (nI_eq (by omega) (by omega)).mp em
    subst er eD emm
    have hx : f_X11_office N 100 S C l (nI n) F dn dF st ru at_ ib ho cr la na li k0th k1th k2th ym Cn (nI k) = if r = -9 then f_X11_office_b66 N 100 S C N l (nI m) F2 (nI m) F1 0 0 0 0 0 0 0 0 0 k0th k1th k2th 0 Cn 0 else some (-4, l, nI n, F, nI m, F1, st, ru, at_, ib, ho, cr, la, na, li, k0th, k1th, k2th, ym, Cn) := by
      unfold f_X11_office p_X6_reset p_X6_beginAt
      rw [h]
      simp only [nm_t, if_true]
      rw [show ((100 : Int32)) = nI 100 from rfl, e1, bn_t, e1', bn_t]
    have hm : f_X12_office N S' C' l' (nI n) la na li ra rm cr ho st ru at_ ib ym' Cn' D K (nI k) = if r = -9 then f_X12_office_b35 N (f_X12_office_b62 N S' C') S' C' N l' (nI m) la na li p (nI m) cr ho st ru at_ ib ym' Cn' D1 K 0 else some (-4, l', nI n, la, na, li, p, nI m, cr, ho, st, ru, at_, ib, ym', Cn', D1, K) := by
      unfold f_X12_office
      rw [ek_askText.2.2 k z hk (by omega) rfl b, bn_t, if_pos (Int32.le_refl _), e2, bn_t]
    rw [hx, hm]
    by_cases hr : r = -9
    rotate_left
    · rw [if_neg hr, if_neg hr]
      refine ⟨_, _, rfl, rfl, n, rfl, hF, rfl, rfl, ⟨hD.1, fun i w hi hw => ?_, hD.2.2⟩, hR, hK0, hK1, hK2, hY⟩
      have := hD.1
      show F (6 * i + w) = D1 (6 * i + w)
      rw [hD.2.1 i w hi hw]
      exact (e4.2.2 _ (by omega)).symm
    · rw [if_pos hr, if_pos hr]
      have hc : f_X11_office_b66 N 100 S C N l (nI m) F2 (nI m) F1 0 0 0 0 0 0 0 0 0 k0th k1th k2th 0 Cn 0 = some (nI m, l, nI m, F2, nI m, F1, 0, 0, 0, 0, 0, 0, 0, 0, 0, 0, 0, 0, 0, Cn) := by
        obtain ⟨M, rfl⟩ : ∃ M, N = M + 4 := ⟨N - 4, by omega⟩
        rw [f_X11_office_b66, if_neg (by decide), nm_t, f_X11_office_b66, if_neg (by decide), nm_t, f_X11_office_b66, if_neg (by decide), nm_t, f_X11_office_b66, if_pos (by decide)]
        rfl
      have hd : ∃ D3 K3, f_X12_office_b35 N (f_X12_office_b62 N S' C') S' C' N l' (nI m) la na li p (nI m) cr ho st ru at_ ib ym' Cn' D1 K 0 = some (nI m, l', nI m, 0, 0, 0, p, nI m, 0, 0, 0, 0, 0, 0, 0, Cn', D3, K3) ∧ (∀ q, q < 54 → D3 q = D1 (54 + q)) ∧ K3 0 = -9 ∧ K3 50 = -9 ∧ K3 100 = -9 := by
        refine ek_forI (fun n2 y s => f_X12_office_b35 N (f_X12_office_b62 N S' C') S' C' n2 l' (nI m) la na li p (nI m) cr ho st ru at_ ib ym' Cn' s K y) (fun j s => (∀ q, q < j → s q = D1 (54 + q)) ∧ ∀ q, 54 ≤ q → s q = D1 q) 54 N (by omega) ?_ D1 ⟨fun q hq => absurd hq (by omega), fun _ _ => rfl⟩ (fun o => ∃ D3 K3, o = some (nI m, l', nI m, 0, 0, 0, p, nI m, 0, 0, 0, 0, 0, 0, 0, Cn', D3, K3) ∧ (∀ q, q < 54 → D3 q = D1 (54 + q)) ∧ K3 0 = -9 ∧ K3 50 = -9 ∧ K3 100 = -9) ?_
        · rintro n2 j s hj ⟨i1, i2⟩
          refine ⟨upd s j (s (54 + j)), ?_, ?_, ?_⟩
          · try simp only
            rw [f_X12_office_b35, if_neg (show ¬ (54 : Int32) ≤ _ from nI_ge (b := 54) hj (by omega)), show (54 : Int32) + nI j = nI (54 + j) from nI_add 54 j, gd_t (ek_inb (by omega) (by omega)), gd_t (ek_inb (by omega) (by omega)), nI_clamp (by omega), nI_clamp (by omega), nI_1]
          · intro q hq
            by_cases y : q = j
            · rw [y, pk_us]; exact i2 _ (by omega)
            · rw [pk_un y]; exact i1 q (by omega)
          · intro q hq
            rw [pk_un (by omega)]; exact i2 q hq
        · rintro n2 s ⟨i1, i2⟩
          try simp only
          rw [f_X12_office_b35, if_pos (show (54 : Int32) ≤ nI 54 from nI_le (a := 54) (Nat.le_refl _) (by omega))]
          unfold f_X12_office_b62 p_X12_starts0
          rw [nm_t]
          have hkq : ∃ K3, f_X12_office_b90 N S' C' N l' (nI m) 0 0 0 p (nI m) 0 0 0 0 0 0 0 Cn' s K 0 = some (nI m, l', nI m, 0, 0, 0, p, nI m, 0, 0, 0, 0, 0, 0, 0, Cn', s, K3) ∧ ∀ j, j < 3 → K3 (50 * j) = -9 := by
            refine ek_forI (fun n3 y t => f_X12_office_b90 N S' C' n3 l' (nI m) 0 0 0 p (nI m) 0 0 0 0 0 0 0 Cn' s t y) (fun i t => ∀ j, j < i → t (50 * j) = -9) 3 N (by omega) ?_ K (fun j hj => absurd hj (by omega)) (fun o => ∃ K3, o = some (nI m, l', nI m, 0, 0, 0, p, nI m, 0, 0, 0, 0, 0, 0, 0, Cn', s, K3) ∧ ∀ j, j < 3 → K3 (50 * j) = -9) ?_
            · intro n3 i t hi ht
              refine ⟨upd t (50 * i) (-9), ?_, ?_⟩
              · try simp only
                rw [f_X12_office_b90, if_neg (show ¬ (3 : Int32) ≤ _ from nI_ge (b := 3) hi (by omega)), show (50 : Int32) * nI i = nI (50 * i) from pk_mul 50 i, gd_t (ek_inb (by omega) (by omega)), nI_clamp (by omega), nI_1]
              · intro j hj
                by_cases y : j = i
                · rw [y, pk_us]
                · rw [pk_un (by omega)]; exact ht j (by omega)
            · intro n3 t ht
              refine ⟨t, ?_, ht⟩
              try simp only
              rw [f_X12_office_b90, if_pos (show (3 : Int32) ≤ nI 3 from nI_le (a := 3) (Nat.le_refl _) (by omega))]
          obtain ⟨K3, q1, q2⟩ := hkq
          refine ⟨s, K3, q1, i1, q2 0 (by omega), q2 1 (by omega), q2 2 (by omega)⟩
      obtain ⟨D3, K3, d1, d2, d3, d4, d5⟩ := hd
      refine ⟨_, _, hc, d1, m, rfl, hF, rfl, rfl, ⟨e3, fun i w hi hw => ?_, e4'.2.1⟩, ⟨⟨rfl, rfl, rfl, rfl, rfl, rfl, rfl, rfl, rfl⟩, hR.2.1, ?_⟩, Or.inl ⟨rfl, d3⟩, Or.inl ⟨rfl, d4⟩, Or.inl ⟨rfl, d5⟩, ⟨0, by omega, rfl, rfl, fun q hq => absurd hq (by omega)⟩⟩
      · show F2 (6 * i + w) = D3 (6 * i + w)
        rw [d2 _ (by omega), e4'.1 i w hi hw, show 54 + (6 * i + w) = 54 + 6 * i + w by omega]
      · exact ⟨⟨0, by omega, rfl, by omega⟩, Or.inl rfl, ⟨0, by omega, rfl, by omega⟩, Or.inl rfl, ⟨0, by omega, rfl⟩, ⟨Or.inl rfl, ⟨0, by omega, rfl⟩, Or.inl rfl⟩, ek_B0⟩
