/-! rows and texts: the calls of both sides -/
theorem ek_00 : ((0 : Int32) ≤ 0) = True := by decide
theorem ek_01 : ((0 : Int32) ≤ -1) = False := by decide
theorem ek_03 : ((0 : Int32) ≤ -3) = False := by decide
theorem ek_10 : ((1 : Int32) = 0) = False := by decide
theorem ek_e00 : ((0 : Int32) = 0) = True := by decide
theorem ek_mk {α β : Type} {A : α} {B : Option β} {R : α → β → Prop} {b : β} (h : B = some b) (hr : R A b) : ∃ o o', A = o ∧ B = some o' ∧ R o o' := ⟨A, b, rfl, h, hr⟩
theorem ek_mk2 {α β : Type} {A : Option α} {B : Option β} {R : α → β → Prop} {a : α} {b : β} (g : A = some a) (h : B = some b) (hr : R a b) : ∃ o o', A = some o ∧ B = some o' ∧ R o o' := ⟨a, b, g, h, hr⟩
theorem ek_inz0 {x : Int32} {z : Nat} (hz : z < 2147483648) (h : x < 0 ∨ nI z ≤ x) : p_X12_in x 0 (nI z - 1) = 0 := by
  rcases Nat.eq_zero_or_pos z with e | e
  · subst e
    unfold p_X12_in
    split
    · rfl
    · rename_i q
      rcases h with h | h
      · exact absurd h q
      · rw [if_pos]
        have k := Int32.le_iff_toInt_le.mp h
        rw [nI_toInt (by decide)] at k
        apply Int32.lt_iff_toInt_lt.mpr
        rw [show (nI 0 - 1).toInt = -1 from by decide]
        simp at k; omega
  · rw [show nI z - 1 = nI (z - 1) from pk_sub (b := 1) e]
    exact ek_in0 (by omega) (by rw [Nat.sub_add_cancel e]; exact h)
theorem ek_inz1 {i z : Nat} (hz : z < 2147483648) (h : i < z) : p_X12_in (nI i) 0 (nI z - 1) = 1 := by
  rw [show nI z - 1 = nI (z - 1) from pk_sub (b := 1) (by omega)]
  exact ek_in1 (by omega) (by omega)
theorem ek_refP {K P : Nat} {S C S' C' : Nat → Int32} {l : Int32} {Cn : Nat → Int32} {x y : Int32} (hH : ek_H K P S C S' C') (hK : K < 1000) (hP : P < 1000) :
    (p_X11_refusePlace K S l Cn x y = ((-1 : Int32), l, Cn) ∧ (x < 0 ∨ nI K ≤ x)) ∨
    (∃ k, k < K ∧ x = nI k ∧ S k = -1 ∧ S' k = -9 ∧ p_X11_refusePlace K S l Cn x y = ((-3 : Int32), nI 1, upd Cn 1 (Cn 1 + 1))) ∨
    (∃ k z, k < K ∧ x = nI k ∧ z ≤ P ∧ S k = nI z ∧ S' k = nI z ∧ (∀ i, i < z → C (P * k + i) = C' (P * k + i)) ∧ (y < 0 ∨ nI z ≤ y) ∧ p_X11_refusePlace K S l Cn x y = ((-3 : Int32), nI 2, upd Cn 2 (Cn 2 + 1))) ∨
    (∃ k z i, k < K ∧ x = nI k ∧ z ≤ P ∧ S k = nI z ∧ S' k = nI z ∧ (∀ i, i < z → C (P * k + i) = C' (P * k + i)) ∧ i < z ∧ y = nI i ∧ p_X11_refusePlace K S l Cn x y = (0, l, Cn)) := by
  rcases ek_refM (l := l) (Cn := Cn) (x := x) hH hK hP with ⟨e, h⟩ | ⟨k, hk, e, a, b, h⟩ | ⟨k, z, hk, e, hz, a, b, c, h⟩
  · left; refine ⟨?_, h⟩
    unfold p_X11_refusePlace; rw [e]; rfl
  · right; left; refine ⟨k, hk, e, a, b, ?_⟩
    unfold p_X11_refusePlace; rw [h]; rfl
  · right; right
    subst e
    rcases ek_ix y z (by omega) with q | q | ⟨i, hi, rfl⟩
    · left; refine ⟨k, z, hk, rfl, hz, a, b, c, Or.inl q, ?_⟩
      unfold p_X11_refusePlace; rw [h]; simp only [nm, if_true]
      rw [ek_pl0 a hk (by omega) (Or.inl q), if_pos rfl, show ((2 : Int32)) = nI 2 from rfl, ek_ref (by decide) (by decide)]
    · left; refine ⟨k, z, hk, rfl, hz, a, b, c, Or.inr q, ?_⟩
      unfold p_X11_refusePlace; rw [h]; simp only [nm, if_true]
      rw [ek_pl0 a hk (by omega) (Or.inr q), if_pos rfl, show ((2 : Int32)) = nI 2 from rfl, ek_ref (by decide) (by decide)]
    · right; refine ⟨k, z, i, hk, rfl, hz, a, b, c, hi, rfl, ?_⟩
      unfold p_X11_refusePlace; rw [h]; simp only [nm, if_true]
      rw [ek_pl1 a hk (by omega) hi (by omega), if_neg (by decide)]
theorem ek_row_b {k i : Nat} (hk : k < 6) (hi : i < 40) : 40 * k + i < 240 := by omega
theorem ek_rowAt {N : Nat} {R : Nat → Int32} {k i : Nat} (hk : k < 6) (hi : i < 40) : f_X12_rowAt N R (nI k) (nI i) = some (R (40 * k + i)) := by
  unfold f_X12_rowAt
  rw [show ((40 : Int32)) = nI 40 from rfl, pk_mul, nI_add, gd_t (ek_inb (by omega) (by omega)), nI_clamp (by omega)]
theorem ek_setRow {N : Nat} {R : Nat → Int32} {k i : Nat} {v : Int32} (hk : k < 6) (hi : i < 40) : f_X12_setRow N R (nI k) (nI i) v = some (upd R (40 * k + i) v) := by
  unfold f_X12_setRow
  rw [show ((40 : Int32)) = nI 40 from rfl, pk_mul, nI_add, gd_t (ek_inb (by omega) (by omega)), nI_clamp (by omega)]
theorem ek_H.set {K P : Nat} {S C S' C' : Nat → Int32} (h : ek_H K P S C S' C') (q : Nat) (v : Int32) : ek_H K P S (upd C q v) S' (upd C' q v) := by
  intro k hk
  rcases h k hk with a | ⟨z, hz, a, b, c⟩
  · exact Or.inl a
  · refine Or.inr ⟨z, hz, a, b, fun i hi => ?_⟩
    unfold upd
    rw [c i hi]
theorem r_lay {S C S' C' : Nat → Int32} {l ak l' : Int32} {Cn Cn' : Nat → Int32} {N : Nat} (hH : ek_H 6 40 S C S' C') (hF : ek_F l Cn l' Cn') (x y v : Int32) :
    ∃ o o', p_X11_lay 40 S l ak C Cn x y v = o ∧ f_X12_lay N S' l' ak Cn' C' x y v = some o' ∧ o.1 = o'.1 ∧ ek_F o.2.1 o.2.2.2.2 o'.2.1 o'.2.2.2.1 ∧ o.2.2.1 = o'.2.2.1 ∧ ek_H 6 40 S o.2.2.2.1 S' o'.2.2.2.2 := by
  rcases ek_refP (l := l) (Cn := Cn) (x := x) (y := y) hH (by decide) (by decide) with ⟨e, h⟩ | ⟨k, hk, e, a, b, h⟩ | ⟨k, z, hk, e, hz, a, b, c, q, h⟩ | ⟨k, z, i, hk, e, hz, a, b, c, hi, e2, h⟩
  · apply ek_mk
    · unfold f_X12_lay f_X12_at; rw [ek_askRow.1 h, bn_t]; rfl
    · unfold p_X11_lay; rw [e]; exact ⟨rfl, hF, rfl, hH⟩
  · apply ek_mk
    · unfold f_X12_lay f_X12_at; rw [ek_askRow.2.1 k hk e b, bn_t]; rfl
    · unfold p_X11_lay; rw [h]; exact ⟨rfl, ek_F_upd hF (by decide), rfl, hH⟩
  · apply ek_mk
    · unfold f_X12_lay f_X12_at; rw [ek_askRow.2.2 k z hk (by omega) e b]
      simp only [bn_t, nm, if_true, if_false, ek_00, ek_01, ek_03]
      subst e
      rw [gd_t (ek_inb hk (by omega)), nI_clamp (by omega), b, ek_inz0 (by omega) q, if_pos rfl, show ((2 : Int32)) = nI 2 from rfl, ek_meet (by decide)]; rfl
    · unfold p_X11_lay; rw [h]; exact ⟨rfl, ek_F_upd hF (by decide), rfl, hH⟩
  · subst e e2
    apply ek_mk
    · unfold f_X12_lay f_X12_at; rw [ek_askRow.2.2 k z hk (by omega) rfl b]
      simp only [bn_t, nm, if_true, if_false, ek_00, ek_01, ek_03]
      rw [gd_t (ek_inb hk (by omega)), nI_clamp (by omega), b, ek_inz1 (by omega) hi, if_neg (by decide), ek_rowAt hk (by omega)]
      simp only [bn_t, nm, p_X12_say]
      rw [if_pos (by decide), ek_setRow hk (by omega)]; rfl
    · unfold p_X11_lay; rw [h]
      simp only [nm, if_true]
      rw [show ((40 : Int32)) = nI 40 from rfl, ek_cell C a hk hi hz rfl (by decide) (by decide) (by decide), ek_setc C a hk hi hz rfl (by decide) (by decide) (by decide), c i hi]
      exact ⟨rfl, hF, rfl, hH.set _ _⟩
theorem ek_H.drop {K P : Nat} {S C S' C' : Nat → Int32} (h : ek_H K P S C S' C') (q : Nat) : ek_H K P (upd S q (-1)) C (upd S' q (-9)) C' := by
  intro k hk
  unfold upd
  by_cases e : k = q
  · left; simp [e]
  · simp only [if_neg e]; exact h k hk
