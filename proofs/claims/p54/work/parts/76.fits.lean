/-! cards: fits -/
theorem ek_card (x y : Int32) : (p_X11_isCard x y = 0 ∧ p_X12_isCard x y = 0) ∨ (¬ p_X11_isCard x y = 0 ∧ ¬ p_X12_isCard x y = 0 ∧ ∃ w h, 1 ≤ w ∧ w ≤ 40 ∧ 1 ≤ h ∧ h ≤ 20 ∧ x = nI w ∧ y = nI h) := by
  have rng : ∀ (v : Int32) (m : Nat) (M : Int32), m < 1000 → nI m = M → (v < 1 ∨ (¬ v < 1 ∧ M < v)) ∨ (¬ v < 1 ∧ ¬ M < v ∧ ∃ s, 1 ≤ s ∧ s ≤ m ∧ v = nI s) := by
    intro v m M hm hM
    by_cases h1 : v < 1
    · exact Or.inl (Or.inl h1)
    · by_cases h2 : M < v
      · exact Or.inl (Or.inr ⟨h1, h2⟩)
      · right
        refine ⟨h1, h2, ?_⟩
        have h0 : ¬ v < 0 := fun q => h1 (of_eq_true (ek_ng q (a := 1) (by decide)).1)
        obtain ⟨s, hs, rfl⟩ := nI_of h0
        subst hM
        refine ⟨s, ?_, ?_, rfl⟩
        · rcases Nat.eq_zero_or_pos s with q | q
          · subst q; exact absurd (show nI 0 < 1 by decide) h1
          · exact q
        · exact (nI_leI hs (by omega)).mp (Int32.not_lt.mp h2)
  unfold p_X11_isCard p_X12_isCard p_X12_in
  rcases rng x 40 40 (by omega) rfl with (a | ⟨a, b⟩) | ⟨a, b, w, h1, h2, ew⟩
  · left; rw [if_pos a, if_pos a, if_pos rfl]; exact ⟨rfl, rfl⟩
  · left; rw [if_neg a, if_pos b, if_neg a, if_pos b, if_pos rfl]; exact ⟨rfl, rfl⟩
  · rw [if_neg a, if_neg b, if_neg a, if_neg b, if_neg (show ¬ (1 : Int32) = 0 by decide)]
    rcases rng y 20 20 (by omega) rfl with (c | ⟨c, d⟩) | ⟨c, d, h, h3, h4, eh⟩
    · left; rw [if_pos c, if_pos rfl]; exact ⟨rfl, rfl⟩
    · left; rw [if_neg c, if_pos d, if_pos rfl]; exact ⟨rfl, rfl⟩
    · right; rw [if_neg c, if_neg d, if_neg (show ¬ (1 : Int32) = 0 by decide)]
      exact ⟨by decide, by decide, w, h, h1, h2, h3, h4, ew, eh⟩
theorem ek_in140 (v : Int32) : (¬ p_X12_in v 1 40 = 0) ↔ (¬ v < 1 ∧ v ≤ 40) := by
  unfold p_X12_in
  by_cases q : v < 1
  · rw [if_pos q]; exact ⟨fun w => absurd rfl w, fun w => absurd q w.1⟩
  · rw [if_neg q]
    by_cases y : 40 < v
    · rw [if_pos y]; exact ⟨fun w => absurd rfl w, fun w => absurd y (Int32.not_lt.mpr w.2)⟩
    · rw [if_neg y]; exact ⟨fun _ => ⟨q, Int32.not_lt.mp y⟩, fun _ => by decide⟩
theorem ek_names {N k z : Nat} {S' C' C : Nat → Int32} (hN : 5000 ≤ N) (hk : k < 6) (hz : z ≤ 40) (b : S' k = nI z) (cc : ∀ i, i < z → C (40 * k + i) = C' (40 * k + i)) :
    ∃ q : Bool, f_X12_areNames N S' C' (nI k) = some (if q then 1 else 0) ∧ (q = true ↔ ∀ j, j < z → ¬ C (40 * k + j) < 1 ∧ C (40 * k + j) ≤ 40) := by
  unfold f_X12_areNames
  refine ek_forI (fun n2 x (s : Bool) => f_X12_areNames_b4 N S' C' n2 (nI k) (if s then 1 else 0) x) (fun j s => s = true ↔ ∀ q, q < j → ¬ C (40 * k + q) < 1 ∧ C (40 * k + q) ≤ 40) z N (by omega) ?_ true ⟨fun _ q hq => absurd hq (by omega), fun _ => rfl⟩ (fun o => ∃ q : Bool, o = some (if q then 1 else 0) ∧ (q = true ↔ ∀ j, j < z → ¬ C (40 * k + j) < 1 ∧ C (40 * k + j) ≤ 40)) ?_
  · intro n2 j s hj hs
    cases s
    · refine ⟨false, ?_, ?_⟩
      · rw [f_X12_areNames_b4, gd_t (ek_inb hk (by omega)), nI_clamp (by omega), b, if_neg (nI_ge hj (by omega)), if_pos (show (if false = true then (1 : Int32) else 0) = 0 from rfl)]
        unfold f_X12_areNames_b38
        rw [nI_1]; rfl
      · exact ⟨fun q => absurd q (by decide), fun q => hs.mpr (fun p hp => q p (by omega))⟩
    · by_cases hv : p_X12_in (C (40 * k + j)) 1 40 = 0
      · refine ⟨false, ?_, ?_⟩
        · rw [f_X12_areNames_b4, gd_t (ek_inb hk (by omega)), nI_clamp (by omega), b, if_neg (nI_ge hj (by omega)), if_neg (show ¬ (if true = true then (1 : Int32) else 0) = 0 by decide), ek_rowAt hk (by omega), bn_t, ← cc j hj, if_pos hv]
          unfold f_X12_areNames_b38
          rw [nI_1]; rfl
        · exact ⟨fun q => absurd q (by decide), fun q => absurd hv ((ek_in140 _).mpr (q j (by omega)))⟩
      · refine ⟨true, ?_, ?_⟩
        · rw [f_X12_areNames_b4, gd_t (ek_inb hk (by omega)), nI_clamp (by omega), b, if_neg (nI_ge hj (by omega)), if_neg (show ¬ (if true = true then (1 : Int32) else 0) = 0 by decide), ek_rowAt hk (by omega), bn_t, ← cc j hj, if_neg hv]
          unfold f_X12_areNames_b38
          rw [nI_1]; rfl
        · refine ⟨fun _ q hq => ?_, fun _ => rfl⟩
          rcases Nat.lt_or_ge q j with y | y
          · exact hs.mp rfl q y
          · have : q = j := by omega
            rw [this]; exact (ek_in140 _).mp hv
  · intro n2 s hs
    refine ⟨s, ?_, hs⟩
    rw [f_X12_areNames_b4, gd_t (ek_inb hk (by omega)), nI_clamp (by omega), b, if_pos (nI_le (Nat.le_refl _) (by omega)), gd_t]
    cases s
    · exact Or.inl rfl
    · exact Or.inr rfl
/-- a name laid behind what is laid -/
def ek_wn (L s w : Nat) : Nat := if 64000 ≤ L then 64000 else if s ≤ w then (if L = 0 then (L / 64 + 1) * 64 + s else if w < L % 64 + 1 + s then (L / 64 + 1) * 64 + s else L + 1 + s) else 64000
theorem ek_lines (L : Nat) (h : L < 100000) : p_X4_linesOf (nI L) = nI (L / 64) := by
  unfold p_X4_linesOf
  exact pk_div (a := L) (d := 64) (by omega) (by omega) (by omega)
theorem ek_with {L s w : Nat} (hL : L ≤ 64000) (hs : s ≤ 40) (hw : w ≤ 40) : p_X4_withName (nI L) (nI s) (nI w) = nI (ek_wn L s w) := by
  unfold p_X4_withName ek_wn
  by_cases h1 : 64000 ≤ L
  · rw [if_pos (show (64000 : Int32) ≤ nI L from nI_le (a := 64000) h1 (by omega)), if_pos h1]; rfl
  · rw [if_neg (show ¬ (64000 : Int32) ≤ nI L from nI_ge (b := 64000) (by omega) (by omega)), if_neg h1]
    by_cases h2 : s ≤ w
    · rw [if_pos (nI_le h2 (by omega)), if_pos h2, nm_t, ek_lines L (by omega)]
      have e1 : ((nI (L / 64) + 1) * (64 : Int32) + nI s) = nI ((L / 64 + 1) * 64 + s) := by
        rw [nI_1, show (64 : Int32) = nI 64 from rfl, pk_mul, nI_add]
      have e2 : nI L - nI L / 64 * 64 + 1 + nI s = nI (L % 64 + 1 + s) := by
        rw [show (nI L - nI L / 64 * 64 : Int32) = nI (L % 64) from pk_rem (a := L) (d := 64) (by omega) (by omega) (by omega), nI_1, nI_add]
      rw [e1, e2]
      by_cases h3 : L = 0
      · rw [if_pos (show nI L ≤ 0 by rw [h3]; decide), if_pos h3]
      · rw [if_neg (nI_nle (by omega) (by omega)), if_neg h3]
        by_cases h4 : w < L % 64 + 1 + s
        · rw [if_pos (nI_lt h4 (by omega)), if_pos h4]
        · rw [if_neg (nI_nlt (by omega) (by omega)), if_neg h4, nI_1, nI_add]
    · rw [if_neg (nI_ge (by omega) (by omega)), if_neg h2]; rfl
theorem r_fits {N : Nat} {S C S' C' Cn Cn' : Nat → Int32} {l l' ak : Int32} (hN : 5000 ≤ N) (hH : ek_H 6 40 S C S' C') (hF : ek_F l Cn l' Cn') (x1 x2 x : Int32) :
    ∃ o o', f_X11_fits N 40 S C l ak Cn x1 x2 x = some o ∧ f_X12_fits N S' C' l' ak Cn' x1 x2 x = some o' ∧ o.1 = o'.1 ∧ ek_F o.2.1 o.2.2.2 o'.2.1 o'.2.2.2 ∧ o.2.2.1 = o'.2.2.1 := by
  rcases ek_card x1 x2 with ⟨c1, c2⟩ | ⟨c1, c2, w, h, hw1, hw2, hh1, hh2, rfl, rfl⟩
  · apply ek_mk2
    · unfold f_X11_fits; rw [if_pos c1]
    · unfold f_X12_fits; rw [if_pos c2]
    · exact ⟨rfl, hF, rfl⟩
  have isr : ∀ k, k < 6 → ¬ p_X12_isRow (nI k) = 0 := fun k hk => by unfold p_X12_isRow; rw [show ((5 : Int32)) = nI 5 from rfl, ek_in1 (by omega) (by decide)]; decide
  rcases ek_refM (l := l) (Cn := Cn) (x := x) hH (by decide) (by decide) with ⟨e, hh⟩ | ⟨k, hk, e, a, b, hh⟩ | ⟨k, z, hk, e, hz, a, b, cc, hh⟩
  · apply ek_mk2
    · unfold f_X11_fits; rw [if_neg c1, e]; rfl
    · unfold f_X12_fits; rw [if_neg c2, if_pos (show p_X12_isRow x = 0 by unfold p_X12_isRow; rw [show ((5 : Int32)) = nI 5 from rfl, ek_in0 (by decide) hh])]
    · exact ⟨rfl, hF, rfl⟩
  · subst e
    apply ek_mk2
    · unfold f_X11_fits; rw [if_neg c1, hh]; rfl
    · unfold f_X12_fits; rw [if_neg c2, if_neg (isr k hk), ek_askRow.2.1 k hk rfl b]; rfl
    · exact ⟨rfl, ek_F_upd hF (by decide), rfl⟩
  subst e
  obtain ⟨p, p1, p2⟩ := ek_within (C := C) (lo := 1) (hi := 40) hN hk hz a
  obtain ⟨q, q1, q2⟩ := ek_names (C := C) hN hk hz b cc
  have hpq : p = q := by
    cases hp : p <;> cases hq : q
    · rfl
    · exact absurd (p2.mpr (q2.mp hq)) (by rw [hp]; decide)
    · exact absurd (q2.mpr (p2.mp hp)) (by rw [hq]; decide)
    · rfl
  subst hpq
  cases hp : p
  · apply ek_mk2
    · unfold f_X11_fits; rw [if_neg c1, hh, nm_t, if_pos rfl, p1, bn_t, hp, if_pos (by rfl)]
      show nm (p_X11_refuse l Cn (nI 3)) _ = _
      rw [ek_ref (by decide) (by decide)]; rfl
    · unfold f_X12_fits; rw [if_neg c2, if_neg (isr k hk), ek_askRow.2.2 k z hk (by omega) rfl b, bn_t, if_pos (Int32.le_refl _), q1, bn_t, hp, if_pos (by rfl)]
      show bn (f_X12_meet N l' Cn' (nI 3)) _ = _
      rw [ek_meet (by decide)]; rfl
    · exact ⟨rfl, ek_F_upd hF (by decide), rfl⟩
  have hnames : ∀ j, j < z → ∃ s, 1 ≤ s ∧ s ≤ 40 ∧ C (40 * k + j) = nI s := by
    intro j hj
    obtain ⟨r1, r2⟩ := p2.mp hp j hj
    have h0 : ¬ C (40 * k + j) < 0 := fun q => r1 (of_eq_true (ek_ng q (a := 1) (by decide)).1)
    obtain ⟨s, hs, es⟩ := nI_of h0
    refine ⟨s, ?_, ?_, es⟩
    · rcases Nat.eq_zero_or_pos s with q | q
      · subst q; rw [es] at r1; exact absurd (show nI 0 < 1 by decide) r1
      · exact q
    · rw [es] at r2; exact (nI_leI (a := s) (b := 40) hs (by omega)).mp r2
  have ex : f_X11_fits N 40 S C l ak Cn (nI w) (nI h) (nI k) = f_X11_fits_b58 N (f_X11_fits_b122 N 40 S C) 40 S C N l ak Cn (nI w) (nI h) (nI k) 0 0 0 := by
    unfold f_X11_fits; rw [if_neg c1, hh, nm_t, if_pos rfl, p1, bn_t, hp, if_neg (by decide)]
  have em : f_X12_fits N S' C' l' ak Cn' (nI w) (nI h) (nI k) = f_X12_fits_b55 N S' C' N l' ak Cn' (nI w) (nI h) (nI k) 0 (nI w) 0 := by
    unfold f_X12_fits; rw [if_neg c2, if_neg (isr k hk), ek_askRow.2.2 k z hk (by omega) rfl b, bn_t, if_pos (Int32.le_refl _), q1, bn_t, hp, if_neg (by decide)]
  rw [ex, em]
  have key : ∀ d j n1 n2 L li us, d + j = z → d < n1 → d < n2 → ((li = 0 ∧ L = 0 ∧ us = w) ∨ (1 ≤ li ∧ L = 64 * li + us ∧ 1 ≤ us ∧ us ≤ 40)) → li ≤ h →
      ∃ o o', f_X11_fits_b58 N (f_X11_fits_b122 N 40 S C) 40 S C n1 l ak Cn (nI w) (nI h) (nI k) (nI L) (nI j) (nI j) = some o ∧ f_X12_fits_b55 N S' C' n2 l' ak Cn' (nI w) (nI h) (nI k) (nI li) (nI us) (nI j) = some o' ∧ o.1 = o'.1 ∧ ek_F o.2.1 o.2.2.2 o'.2.1 o'.2.2.2 ∧ o.2.2.1 = o'.2.2.1 := by
    intro d
    have stop : ∀ j L li us, ((li = 0 ∧ L = 0 ∧ us = w) ∨ (1 ≤ li ∧ L = 64 * li + us ∧ 1 ≤ us ∧ us ≤ 40)) → li ≤ h → f_X11_fits_b122 N 40 S C l ak Cn (nI L) (nI j) = some (nI j, l, nI li, Cn) := by
      intro j L li us hr hli
      unfold f_X11_fits_b122
      rw [ek_lines L (by rcases hr with ⟨_, e, _⟩ | ⟨_, e, _, _⟩ <;> omega), show L / 64 = li by rcases hr with ⟨_, e, _⟩ | ⟨_, e, _, _⟩ <;> omega, nm_t]
      rfl
    induction d with
    | zero =>
      intro j n1 n2 L li us hj h1 h2 hr hli
      obtain ⟨n1, rfl⟩ : ∃ q, n1 = q + 1 := ⟨n1 - 1, by omega⟩
      obtain ⟨n2, rfl⟩ : ∃ q, n2 = q + 1 := ⟨n2 - 1, by omega⟩
      apply ek_mk2
      · rw [f_X11_fits_b58, ek_siz S hk (by decide), a, if_pos (nI_le (by omega) (by omega)), stop j L li us hr hli]
      · rw [f_X12_fits_b55, gd_t (ek_inb hk (by omega)), nI_clamp (by omega), b, if_pos (nI_le (by omega) (by omega)), nm_t]
      · exact ⟨rfl, hF, rfl⟩
    | succ d ih =>
      intro j n1 n2 L li us hj h1 h2 hr hli
      obtain ⟨n1, rfl⟩ : ∃ q, n1 = q + 1 := ⟨n1 - 1, by omega⟩
      obtain ⟨n2, rfl⟩ : ∃ q, n2 = q + 1 := ⟨n2 - 1, by omega⟩
      obtain ⟨s, hs1, hs2, es⟩ := hnames j (by omega)
      have hL : L ≤ 64000 := by rcases hr with ⟨_, e, _⟩ | ⟨_, e, _, _⟩ <;> omega
      have hwn : ek_wn L s w ≤ 64000 := by
        unfold ek_wn
        split
        · omega
        · split
          · split
            · omega
            · split
              · rcases hr with ⟨_, e, _⟩ | ⟨_, e, _, _⟩ <;> omega
              · rcases hr with ⟨_, e, _⟩ | ⟨_, e, _, _⟩ <;> omega
          · omega
      rw [f_X11_fits_b58, ek_siz S hk (by decide), a, if_neg (nI_ge (by omega) (by omega)), show ((40 : Int32)) = nI 40 from rfl, ek_cell (P := 40) C a hk (show j < z by omega) hz rfl (by decide) (by decide) (by decide), es, show (nI 40) = (40 : Int32) from rfl, nm_t, ek_with hL hs2 hw2, ek_lines _ (by omega), nI_1]
      rw [f_X12_fits_b55, gd_t (ek_inb hk (by omega)), nI_clamp (by omega), b, if_neg (show ¬ nI z ≤ nI j from nI_ge (by omega) (by omega)), ek_rowAt hk (by omega), bn_t, ← cc j (by omega), es]
      -- is it laid behind
      have hhere : (if nI li ≤ 0 then (0 : Int32) else (if nI w < ((nI us + 1) + nI s) then 0 else 1)) = (if 1 ≤ li ∧ us + 1 + s ≤ w then 1 else 0) := by
        rw [nI_1, nI_add]
        by_cases y : li = 0
        · rw [if_pos (show nI li ≤ 0 by rw [y]; decide), if_neg (by omega)]
        · rw [if_neg (nI_nle (by omega) (by omega))]
          by_cases y2 : us + 1 + s ≤ w
          · rw [if_neg (nI_nlt y2 (by omega)), if_pos (by omega)]
          · rw [if_pos (nI_lt (by omega) (by omega)), if_neg (by omega)]
      rw [hhere]
      unfold f_X12_fits_b96 f_X12_fits_b118 f_X12_fits_b130 f_X12_fits_b150
      simp only [nm_t, nI_1]
      by_cases yh : 1 ≤ li ∧ us + 1 + s ≤ w
      · have ew : ek_wn L s w = 64 * li + (us + 1 + s) := by
          rcases hr with ⟨e0, e, _⟩ | ⟨e0, e, e3, e4⟩
          · omega
          · unfold ek_wn
            rw [if_neg (by omega), if_pos (by omega), if_neg (by omega), if_neg (by omega)]; omega
        rw [ew, if_pos (show nI ((64 * li + (us + 1 + s)) / 64) ≤ nI h from nI_le (by omega) (by omega)), if_pos yh, if_neg (show ¬ (1 : Int32) = 0 by decide), if_neg (show ¬ (1 : Int32) = 0 by decide), if_neg (show ¬ (1 : Int32) = 0 by decide), Int32.add_zero, nI_add]
        exact ih (j + 1) n1 n2 (64 * li + (us + 1 + s)) li (us + 1 + s) (by omega) (by omega) (by omega) (Or.inr ⟨yh.1, rfl, by omega, by omega⟩) hli
      · rw [if_neg yh, if_pos (show (0 : Int32) = 0 from rfl), if_pos (show (0 : Int32) = 0 from rfl), if_pos (show (0 : Int32) = 0 from rfl)]
        by_cases yw : s ≤ w
        · have ew : ek_wn L s w = 64 * (li + 1) + s := by
            unfold ek_wn
            rcases hr with ⟨e0, e, _⟩ | ⟨e0, e, e3, e4⟩
            · rw [if_neg (by omega), if_pos yw, if_pos e]; omega
            · rw [if_neg (by omega), if_pos yw, if_neg (by omega), if_pos (by omega)]; omega
          rw [ew, show (64 * (li + 1) + s) / 64 = li + 1 by omega]
          by_cases yl : li = h
          · apply ek_mk2
            · rw [if_neg (nI_ge (by omega) (by omega)), stop j L li us hr hli]
            · rw [if_pos (by rw [yl])]
            · exact ⟨rfl, hF, rfl⟩
          · rw [if_pos (show nI (li + 1) ≤ nI h from nI_le (by omega) (by omega)), if_neg (fun z => yl ((nI_eq (by omega) (by omega)).mp z)), if_pos (nI_le yw (by omega)), nI_1]
            exact ih (j + 1) n1 n2 (64 * (li + 1) + s) (li + 1) s (by omega) (by omega) (by omega) (Or.inr ⟨by omega, rfl, hs1, hs2⟩) (by omega)
        · have ew : ek_wn L s w = 64000 := by
            unfold ek_wn
            rw [if_neg (by rcases hr with ⟨_, e, _⟩ | ⟨_, e, _, _⟩ <;> omega), if_neg yw]
          rw [ew]
          apply ek_mk2
          · rw [if_neg (nI_ge (by omega) (by omega)), stop j L li us hr hli]
          · by_cases yl : li = h
            · rw [if_pos (by rw [yl])]
            · rw [if_neg (fun z => yl ((nI_eq (by omega) (by omega)).mp z)), if_neg (nI_ge (by omega) (by omega))]
          · exact ⟨rfl, hF, rfl⟩
  exact key z 0 N N 0 0 w (by omega) (by omega) (by omega) (Or.inl ⟨rfl, rfl, rfl⟩) (by omega)
