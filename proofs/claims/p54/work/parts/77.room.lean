/-! cards: room -/
def ek_lm (j L m u : Nat) : Prop := (L = 64000 ∧ m = 100 ∧ u = 0) ∨ (m + ek_uc (nI j) 8 ≤ 8 ∧ L = 64 * m + u ∧ u ≤ 40 ∧ ((m = 0 ∧ u = 0) ∨ (1 ≤ m ∧ 1 ≤ u)))
def ek_lr (LL M U : Nat → Int32) (j : Nat) : Prop := ∃ L m u, LL j = nI L ∧ M j = nI m ∧ U j = nI u ∧ ek_lm j L m u
theorem ek_ahead {j k : Nat} (hj : j < 256) (hk : k < 8) (hb : ek_bt (nI j) k = true) : ∃ j', j' < j ∧ (nI j &&& (((1 : Int32) <<< (nI k &&& 31)) ^^^ (-1 : Int32))) = nI j' ∧ ek_uc (nI j') 8 = ek_uc (nI j) 8 + 1 := by
  have hs : ek_sub 9 (nI j &&& (((1 : Int32) <<< (nI k &&& 31)) ^^^ (-1 : Int32))) := by
    intro i hi
    rw [ek_band, ek_subN (show j < 512 by omega) i hi]; rfl
  obtain ⟨j', hj', e⟩ := ek_small (m := 9) (by omega) hs
  have bits : ∀ i, i < 32 → ek_bt (nI j') i = (ek_bt (nI j) i && !decide (k = i)) := by
    intro i hi
    rw [← e, ek_bclr (nI j) (by omega) hi]
  have hkb : ek_bt (nI j') k = false := by rw [bits k (by omega), decide_eq_true rfl]; simp
  have hsg : ek_sg (nI j') k = nI j := by
    apply ek_ext; intro i hi
    rw [ek_bsg (by omega) hi, bits i hi]
    by_cases q : k = i
    · subst q; rw [hb]; simp
    · rw [decide_eq_false q]; simp
  have hle : j' ≤ j := by
    refine ek_incle (by omega) (show j < 512 by omega) ((ek_incl (by omega) (show j < 512 by omega)).mpr ?_)
    intro i hi hb2
    rw [← ek_btN j' i (by omega), bits i (by omega)] at hb2
    rw [← ek_btN j i (by omega)]
    cases q : ek_bt (nI j) i
    · rw [q] at hb2; cases hb2
    · rfl
  have hne : j' ≠ j := by
    intro q
    rw [q, hb] at hkb; cases hkb
  refine ⟨j', by omega, e, ?_⟩
  have := ek_ucsg hkb (by omega) (m := 8) (by omega) hk
  rw [hsg] at this
  omega
/-- what one more name gives, on both sides -/
theorem ek_cand {j L m u s w L2 m2 u2 j2 : Nat} (h : ek_lm j2 L2 m2 u2) (huc : ek_uc (nI j2) 8 = ek_uc (nI j) 8 + 1) (hc : ek_lm j L m u) (hs1 : 1 ≤ s) (hs : s ≤ 40) (hw : w ≤ 40) :
    (¬ (s ≤ w ∧ m2 < 100) ∧ ¬ ek_wn L2 s w < L) ∨ (s ≤ w ∧ m2 < 100 ∧ ∃ li us, (li = if 1 ≤ m2 ∧ u2 + 1 + s ≤ w then m2 else m2 + 1) ∧ (us = if 1 ≤ m2 ∧ u2 + 1 + s ≤ w then u2 + 1 + s else s) ∧ ek_lm j (64 * li + us) li us ∧ ek_wn L2 s w = 64 * li + us ∧ (64 * li + us < L ↔ (li < m ∨ (li = m ∧ us < u)))) := by
  unfold ek_wn
  by_cases hsw : s ≤ w
  · rcases h with ⟨e1, e2, e3⟩ | ⟨e1, e2, e3, e4⟩
    · left
      refine ⟨by omega, ?_⟩
      rw [if_pos (by omega)]
      rcases hc with ⟨c1, _, _⟩ | ⟨c1, c2, c3, _⟩ <;> omega
    · right
      refine ⟨hsw, by omega, (if 1 ≤ m2 ∧ u2 + 1 + s ≤ w then m2 else m2 + 1), (if 1 ≤ m2 ∧ u2 + 1 + s ≤ w then u2 + 1 + s else s), rfl, rfl, ?_⟩
      rw [if_neg (show ¬ 64000 ≤ L2 by omega), if_pos hsw]
      by_cases y : 1 ≤ m2 ∧ u2 + 1 + s ≤ w
      · rw [if_pos y, if_pos y]
        refine ⟨Or.inr ⟨by omega, rfl, by omega, by omega⟩, ?_, ?_⟩
        · rw [if_neg (by omega), if_neg (by omega)]; omega
        · rcases hc with ⟨c1, c2, c3⟩ | ⟨c1, c2, c3, c4⟩ <;> omega
      · rw [if_neg y, if_neg y]
        refine ⟨Or.inr ⟨by omega, rfl, by omega, by omega⟩, ?_, ?_⟩
        · by_cases y2 : L2 = 0
          · rw [if_pos y2]; omega
          · rw [if_neg y2, if_pos (by omega)]; omega
        · rcases hc with ⟨c1, c2, c3⟩ | ⟨c1, c2, c3, c4⟩ <;> omega
  · left
    refine ⟨by omega, ?_⟩
    have : (if 64000 ≤ L2 then 64000 else if s ≤ w then (if L2 = 0 then (L2 / 64 + 1) * 64 + s else if w < L2 % 64 + 1 + s then (L2 / 64 + 1) * 64 + s else L2 + 1 + s) else 64000) = 64000 := by
      split
      · rfl
      · first | rfl | rw [if_neg hsw]
    rw [this]
    rcases hc with ⟨c1, _, _⟩ | ⟨c1, c2, c3, _⟩ <;> omega
theorem ek_lmL {j L m u : Nat} (h : ek_lm j L m u) : L ≤ 64000 ∧ m ≤ 100 ∧ u ≤ 40 := by
  rcases h with ⟨c1, c2, c3⟩ | ⟨c1, c2, c3, c4⟩ <;> omega
theorem ek_layX {N k z j w : Nat} {S C LL M U : Nat → Int32} (hN : 5000 ≤ N) (hk : k < 6) (a : S k = nI z) (hz : z ≤ 8) (hj : j < 2 ^ z) (hw : w ≤ 40) (hn : ∀ q, q < z → ∃ s, 1 ≤ s ∧ s ≤ 40 ∧ C (40 * k + q) = nI s) (hr : ∀ q, q < j → ek_lr LL M U q) (hM : M j = nI 100) (hU : U j = nI 0) {S' C' Cn' : Nat → Int32} {l' ak bs : Int32} {h : Int32} (b : S' k = nI z) (cc : ∀ i, i < z → C (40 * k + i) = C' (40 * k + i)) (k349 : Int32 → Int32 → (Nat → Int32) → (Nat → Int32) → (Nat → Int32) → Int32 → Int32 → Int32 → Int32 → Int32 → Option (Int32 × Int32 × Int32 × (Nat → Int32) × (Nat → Int32) × (Nat → Int32))) :
    ∃ L m u M2 U2, f_X4_layLeast N 6 240 LL 40 S C (nI k) (nI j) (nI w) = some (nI L) ∧ f_X12_room_b116 N k349 S' C' N l' ak Cn' M U (nI w) h (nI k) bs (nI j) 0 = k349 l' ak Cn' M2 U2 (nI w) h (nI k) bs (nI j) ∧ ek_lm j L m u ∧ M2 j = nI m ∧ U2 j = nI u ∧ ∀ q, q ≠ j → M2 q = M q ∧ U2 q = U q := by
  have hp8 : 2 ^ z ≤ 256 := Nat.le_trans (Nat.pow_le_pow_right (n := 2) (by omega) hz) (by decide)
  have nob : ∀ q, z ≤ q → q < 8 → ek_bt (nI j) q = false := by
    intro q h1 h2
    cases e : ek_bt (nI j) q
    · rfl
    · have := ek_bitlt hj (by omega) e; omega
  -- both loops side by side over the names of the row
  have key : ∀ d q n1 n2 L m u M2 U2, d + q = z → d + (8 - z) < n1 → d < n2 → ek_lm j L m u → M2 j = nI m → U2 j = nI u → (∀ p, p ≠ j → M2 p = M p ∧ U2 p = U p) →
      ∃ L' m' u' M' U', f_X4_layLeast_b7 N 6 240 LL 40 S C n1 (nI k) (nI j) (nI w) (nI L) (nI q) = some (nI L') ∧ f_X12_room_b116 N k349 S' C' n2 l' ak Cn' M2 U2 (nI w) h (nI k) bs (nI j) (nI q) = k349 l' ak Cn' M' U' (nI w) h (nI k) bs (nI j) ∧ ek_lm j L' m' u' ∧ M' j = nI m' ∧ U' j = nI u' ∧ ∀ p, p ≠ j → M' p = M p ∧ U' p = U p := by
    intro d
    induction d with
    | zero =>
      intro q n1 n2 L m u M2 U2 hd h1 h2 hlm hm hu ho
      obtain ⟨n2, rfl⟩ : ∃ p, n2 = p + 1 := ⟨n2 - 1, by omega⟩
      have hq : q = z := by omega
      subst hq
      refine ⟨L, m, u, M2, U2, ?_, ?_, hlm, hm, hu, ho⟩
      · have rest : ∀ d p n1, d + p = 8 → q ≤ p → d < n1 → f_X4_layLeast_b7 N 6 240 LL 40 S C n1 (nI k) (nI j) (nI w) (nI L) (nI p) = some (nI L) := by
          intro d
          induction d with
          | zero =>
            intro p n1 h1 h2 h3
            obtain ⟨n1, rfl⟩ : ∃ y, n1 = y + 1 := ⟨n1 - 1, by omega⟩
            rw [f_X4_layLeast_b7, if_pos (show (8 : Int32) ≤ nI p from nI_le (a := 8) (by omega) (by omega))]
          | succ d ih =>
            intro p n1 h1 h2 h3
            obtain ⟨n1, rfl⟩ : ∃ y, n1 = y + 1 := ⟨n1 - 1, by omega⟩
            rw [f_X4_layLeast_b7, if_neg (show ¬ (8 : Int32) ≤ nI p from nI_ge (b := 8) (by omega) (by omega)), ek_bits (nI j) (by omega), nob p h2 (by omega), if_pos (by rfl)]
            unfold f_X4_layLeast_b55
            rw [nI_1]
            exact ih (p + 1) n1 (by omega) (by omega) (by omega)
        exact rest (8 - q) q n1 (by omega) (Nat.le_refl _) (by omega)
      · rw [f_X12_room_b116, gd_t (ek_inb hk (by omega)), nI_clamp (by omega), b, if_pos (nI_le (Nat.le_refl _) (by omega))]
    | succ d ih =>
      intro q n1 n2 L m u M2 U2 hd h1 h2 hlm hm hu ho
      obtain ⟨n1, rfl⟩ : ∃ p, n1 = p + 1 := ⟨n1 - 1, by omega⟩
      obtain ⟨n2, rfl⟩ : ∃ p, n2 = p + 1 := ⟨n2 - 1, by omega⟩
      have hq : q < z := by omega
      obtain ⟨s, hs1, hs2, es⟩ := hn q hq
      rw [f_X4_layLeast_b7, if_neg (show ¬ (8 : Int32) ≤ nI q from nI_ge (b := 8) (by omega) (by omega)), ek_bits (nI j) (by omega)]
      rw [f_X12_room_b116, gd_t (ek_inb hk (by omega)), nI_clamp (by omega), b, if_neg (show ¬ nI z ≤ nI q from nI_ge (by omega) (by omega)), nm_t (nI j &&& (((1 : Int32) <<< (nI q &&& 31)) ^^^ (-1 : Int32))), ek_rowAt hk (by omega), bn_t, ← cc q hq, es, ek_has (nI j) (by omega)]
      have hLb := ek_lmL hlm
      cases hb : ek_bt (nI j) q
      · rw [if_pos (show (if false = true then (1 : Int32) else 0) = 0 from rfl), if_pos (show (if false = true then (1 : Int32) else 0) = 0 from rfl)]
        unfold f_X4_layLeast_b55 f_X12_room_b343
        rw [nI_1]
        exact ih (q + 1) n1 n2 L m u M2 U2 (by omega) (by omega) (by omega) hlm hm hu ho
      · rw [if_neg (show ¬ (if true = true then (1 : Int32) else 0) = 0 by decide), if_neg (show ¬ (if true = true then (1 : Int32) else 0) = 0 by decide)]
        obtain ⟨j', hj', ej, huc⟩ := ek_ahead (show j < 256 by omega) (show q < 8 by omega) hb
        obtain ⟨L2, m2, u2, r1, r2, r3, r4⟩ := hr j' hj'
        have hb2 := ek_lmL r4
        have hle : p_X4_leastOf LL (nI j') = nI L2 := by
          unfold p_X4_leastOf
          rw [if_neg (nI_pos (by omega)), if_neg (show ¬ (256 : Int32) ≤ nI j' from nI_ge (b := 256) (by omega) (by omega)), nI_clamp (by omega), r1]
        have hwn : ek_wn L2 s w ≤ 64000 := by
          unfold ek_wn
          rcases r4 with ⟨c1, c2, c3⟩ | ⟨c1, c2, c3, c4⟩
          · rw [if_pos (by omega)]; omega
          · split
            · omega
            · split
              · split
                · omega
                · split <;> omega
              · omega
        rw [ej, hle, show ((40 : Int32)) = nI 40 from rfl, ek_cell (P := 40) C a hk hq (by omega) rfl (by decide) (by decide) (by decide), es, ek_with hb2.1 hs2 hw, nm_t, show (nI 40) = (40 : Int32) from rfl]
        have em2 : M2 j' = nI m2 ∧ U2 j' = nI u2 := by rw [(ho j' (by omega)).1, (ho j' (by omega)).2]; exact ⟨r2, r3⟩
        rw [gd_t (ek_inb (show j' < 256 by omega) (by omega)), nI_clamp (show j' < 2 ^ 31 by omega), em2.1, em2.2]
        unfold f_X4_layLeast_b55
        rw [nI_1]
        rcases ek_cand (j := j) r4 huc hlm hs1 hs2 hw with ⟨q1, q2⟩ | ⟨q1, q2, li, us, e1, e2, e3, e4, e5⟩
        · -- nothing is gained
          rw [if_neg (nI_nlt (by omega) (by omega))]
          have hskip : (if nI w < nI s then f_X12_room_b343 N (f_X12_room_b116 N k349 S' C' n2) k349 S' C' l' ak Cn' M2 U2 (nI w) h (nI k) bs (nI j) (nI q) else if (100 : Int32) ≤ nI m2 then f_X12_room_b343 N (f_X12_room_b116 N k349 S' C' n2) k349 S' C' l' ak Cn' M2 U2 (nI w) h (nI k) bs (nI j) (nI q) else f_X12_room_b206 N (f_X12_room_b116 N k349 S' C' n2) k349 S' C' l' ak Cn' M2 U2 (nI w) h (nI k) bs (nI j) (nI q) (nI j') (nI s) (if nI m2 ≤ 0 then 0 else (if nI w < ((nI u2 + 1) + nI s) then 0 else 1))) = f_X12_room_b116 N k349 S' C' n2 l' ak Cn' M2 U2 (nI w) h (nI k) bs (nI j) (nI (q + 1)) := by
            unfold f_X12_room_b343
            rw [nI_1 q]
            by_cases y : s ≤ w
            · rw [if_neg (nI_nlt y (by omega)), if_pos (show (100 : Int32) ≤ nI m2 from nI_le (a := 100) (by omega) (by omega))]
            · rw [if_pos (nI_lt (by omega) (by omega))]
          rw [hskip]
          exact ih (q + 1) n1 n2 L m u M2 U2 (by omega) (by omega) (by omega) hlm hm hu ho
        · have e3b := ek_lmL e3
          have hgo : (if nI w < nI s then f_X12_room_b343 N (f_X12_room_b116 N k349 S' C' n2) k349 S' C' l' ak Cn' M2 U2 (nI w) h (nI k) bs (nI j) (nI q) else if (100 : Int32) ≤ nI m2 then f_X12_room_b343 N (f_X12_room_b116 N k349 S' C' n2) k349 S' C' l' ak Cn' M2 U2 (nI w) h (nI k) bs (nI j) (nI q) else f_X12_room_b206 N (f_X12_room_b116 N k349 S' C' n2) k349 S' C' l' ak Cn' M2 U2 (nI w) h (nI k) bs (nI j) (nI q) (nI j') (nI s) (if nI m2 ≤ 0 then 0 else (if nI w < ((nI u2 + 1) + nI s) then 0 else 1))) = f_X12_room_b116 N k349 S' C' n2 l' ak Cn' (upd M2 j (if li < m ∨ (li = m ∧ us < u) then nI li else nI m)) (upd U2 j (if li < m ∨ (li = m ∧ us < u) then nI us else nI u)) (nI w) h (nI k) bs (nI j) (nI (q + 1)) := by
            rw [if_neg (nI_nlt q1 (by omega)), if_neg (show ¬ (100 : Int32) ≤ nI m2 from nI_ge (b := 100) (by omega) (by omega))]
            have hhere : (if nI m2 ≤ 0 then (0 : Int32) else (if nI w < ((nI u2 + 1) + nI s) then 0 else 1)) = (if 1 ≤ m2 ∧ u2 + 1 + s ≤ w then 1 else 0) := by
              rw [nI_1, nI_add]
              by_cases y : m2 = 0
              · rw [if_pos (show nI m2 ≤ 0 by rw [y]; decide), if_neg (by omega)]
              · rw [if_neg (nI_nle (by omega) (by omega))]
                by_cases y2 : u2 + 1 + s ≤ w
                · rw [if_neg (nI_nlt y2 (by omega)), if_pos (by omega)]
                · rw [if_pos (nI_lt (by omega) (by omega)), if_neg (by omega)]
            rw [hhere]
            unfold f_X12_room_b206 f_X12_room_b225
            rw [gd_t (ek_inb (show j' < 256 by omega) (by omega)), nI_clamp (show j' < 2 ^ 31 by omega), em2.1, em2.2]
            have hb250 : ∀ v y0, v = nI li → y0 = nI us → f_X12_room_b250 N (f_X12_room_b116 N k349 S' C' n2) k349 S' C' l' ak Cn' M2 U2 (nI w) h (nI k) bs (nI j) (nI q) v y0 = f_X12_room_b116 N k349 S' C' n2 l' ak Cn' (upd M2 j (if li < m ∨ (li = m ∧ us < u) then nI li else nI m)) (upd U2 j (if li < m ∨ (li = m ∧ us < u) then nI us else nI u)) (nI w) h (nI k) bs (nI j) (nI (q + 1)) := by
              intro v y0 hv hy
              subst hv hy
              unfold f_X12_room_b250 f_X12_room_b293 f_X12_room_b318 f_X12_room_b342 f_X12_room_b343
              rw [gd_t (ek_inb (show j < 256 by omega) (by omega)), nI_clamp (show j < 2 ^ 31 by omega), hm, hu, nI_1 q]
              have hless : (if nI li < nI m then (1 : Int32) else (if nI li = nI m then (if nI u ≤ nI us then 0 else 1) else 0)) = (if li < m ∨ (li = m ∧ us < u) then 1 else 0) := by
                rcases Nat.lt_trichotomy li m with y | y | y
                · rw [if_pos (nI_lt y (by omega)), if_pos (by omega)]
                · rw [if_neg (nI_nlt (by omega) (by omega)), if_pos (by rw [y])]
                  by_cases y2 : us < u
                  · rw [if_neg (nI_ge y2 (by omega)), if_pos (by omega)]
                  · rw [if_pos (nI_le (by omega) (by omega)), if_neg (by omega)]
                · rw [if_neg (nI_nlt (by omega) (by omega)), if_neg (fun z => by have := (nI_eq (by omega) (by omega)).mp z; omega), if_neg (by omega)]
              rw [hless]
              by_cases y : li < m ∨ (li = m ∧ us < u)
              · simp only [if_pos y]
                rw [if_neg (show ¬ (1 : Int32) = 0 by decide), gd_t (ek_inb (show j < 256 by omega) (by omega)), if_neg (show ¬ (1 : Int32) = 0 by decide), gd_t (ek_inb (show j < 256 by omega) (by omega))]
              · simp only [if_neg y]
                rw [if_pos trivial, gd_t (ek_inb (show j < 256 by omega) (by omega)), gd_t (ek_inb (show j < 256 by omega) (by omega)), if_pos trivial, gd_t (ek_inb (show j < 256 by omega) (by omega)), gd_t (ek_inb (show j < 256 by omega) (by omega))]
            by_cases y : 1 ≤ m2 ∧ u2 + 1 + s ≤ w
            · rw [if_pos y] at e1 e2
              rw [if_pos y, if_neg (show ¬ (1 : Int32) = 0 by decide), nm_t, if_neg (show ¬ (1 : Int32) = 0 by decide), gd_t (ek_inb (show j' < 256 by omega) (by omega))]
              exact hb250 _ _ (by rw [Int32.add_zero, e1]) (by rw [nI_1, nI_add, e2])
            · rw [if_neg y] at e1 e2
              rw [if_neg y, if_pos (show (0 : Int32) = 0 from rfl), nm_t, if_pos (show (0 : Int32) = 0 from rfl)]
              exact hb250 _ _ (by rw [nI_1, e1]) (by rw [e2])
          rw [hgo, e4]
          by_cases y : 64 * li + us < L
          · rw [if_pos (nI_lt y (by omega))]
            have y2 := e5.mp y
            rw [if_pos y2, if_pos y2]
            exact ih (q + 1) n1 n2 (64 * li + us) li us _ _ (by omega) (by omega) (by omega) e3 pk_us pk_us (fun p hp => by rw [pk_un hp, pk_un hp]; exact ho p hp)
          · rw [if_neg (nI_nlt (by omega) (by omega))]
            have y2 : ¬ (li < m ∨ (li = m ∧ us < u)) := fun z => y (e5.mpr z)
            rw [if_neg y2, if_neg y2]
            exact ih (q + 1) n1 n2 L m u _ _ (by omega) (by omega) (by omega) hlm pk_us pk_us (fun p hp => by rw [pk_un hp, pk_un hp]; exact ho p hp)
  have := key z 0 N N 64000 100 0 M U (by omega) (by omega) (by omega) (Or.inl ⟨rfl, rfl, rfl⟩) hM hU (fun p _ => ⟨rfl, rfl⟩)
  unfold f_X4_layLeast
  exact this
