/-! buy -/
def ek_pr (C : Nat → Int32) (r z m : Nat) : Int32 := ek_s (fun k => if ek_bt (nI m) k then C (40 * r + k) else 0) z
def ek_tzok (j : Nat) : Bool := (List.range 12).any fun t => decide (p_J6_numberOfTrailingZeros_0f7a4 (nI j) = nI t) && (List.range 12).all fun k => if k < t then (!ek_bt (nI j) k && ek_bt (nI (j - 1)) k) else if k = t then (ek_bt (nI j) k && !ek_bt (nI (j - 1)) k) else (ek_bt (nI j) k == ek_bt (nI (j - 1)) k)
theorem ek_tzall : (List.range 4096).all (fun j => j == 0 || ek_tzok j) = true := by decide +kernel
theorem ek_tz {j : Nat} (h0 : 0 < j) (hj : j < 4096) : ∃ t, t < 12 ∧ p_J6_numberOfTrailingZeros_0f7a4 (nI j) = nI t ∧ ek_bt (nI j) t = true ∧ ek_bt (nI (j - 1)) t = false ∧ (∀ k, k < t → ek_bt (nI j) k = false ∧ ek_bt (nI (j - 1)) k = true) ∧ ∀ k, t < k → k < 12 → ek_bt (nI j) k = ek_bt (nI (j - 1)) k := by
  have a := List.all_eq_true.mp ek_tzall j (List.mem_range.mpr hj)
  rw [show (j == 0) = false from beq_eq_false_iff_ne.mpr (by omega), Bool.false_or] at a
  unfold ek_tzok at a
  obtain ⟨t, ht, b⟩ := List.any_eq_true.mp a
  rw [List.mem_range] at ht
  rw [Bool.and_eq_true] at b
  have c := List.all_eq_true.mp b.2
  have ct := c t (List.mem_range.mpr ht)
  rw [if_neg (by omega), if_pos rfl, Bool.and_eq_true, Bool.not_eq_true'] at ct
  refine ⟨t, ht, of_decide_eq_true b.1, ct.1, ct.2, fun k hk => ?_, fun k hk hk2 => ?_⟩
  · have ck := c k (List.mem_range.mpr (by omega))
    rw [if_pos hk, Bool.and_eq_true, Bool.not_eq_true'] at ck
    exact ck
  · have ck := c k (List.mem_range.mpr hk2)
    rw [if_neg (by omega), if_neg (by omega)] at ck
    exact eq_of_beq ck
theorem ek_sadd {f g : Nat → Int32} : ∀ m, ek_s (fun k => f k + g k) m = ek_s f m + ek_s g m := by
  intro m
  induction m with
  | zero => exact (Int32.add_zero 0).symm
  | succ m ih =>
    show ek_s (fun k => f k + g k) m + (f m + g m) = (ek_s f m + f m) + (ek_s g m + g m)
    rw [ih, Int32.add_assoc, Int32.add_assoc, ← Int32.add_assoc (ek_s g m), Int32.add_comm (ek_s g m) (f m), Int32.add_assoc]
/-- how the price changes -/
theorem ek_step {C : Nat → Int32} {r z j t : Nat} (hz : z ≤ 12) (ht : t < z) (h1 : ek_bt (nI j) t = true) (h2 : ek_bt (nI (j - 1)) t = false) (h3 : ∀ k, k < t → ek_bt (nI j) k = false ∧ ek_bt (nI (j - 1)) k = true) (h4 : ∀ k, t < k → k < 12 → ek_bt (nI j) k = ek_bt (nI (j - 1)) k) :
    ek_pr C r z j = ek_pr C r z (j - 1) + (C (40 * r + t) + ek_s (fun k => -C (40 * r + k)) t) := by
  have e1 : ek_pr C r z j = ek_s (fun k => (if ek_bt (nI (j - 1)) k then C (40 * r + k) else 0) + (if k < t then -C (40 * r + k) else if k = t then C (40 * r + t) else 0)) z := by
    unfold ek_pr
    apply ek_sext
    intro k hk
    try simp only
    rcases Nat.lt_trichotomy k t with q | q | q
    · rw [(h3 k q).1, (h3 k q).2, if_pos q]
      simp only [if_true, Bool.false_eq_true, if_false]
      rw [Int32.add_right_neg]
    · subst q
      rw [h1, h2, if_neg (show ¬ k < k by omega), if_pos (show k = k from rfl)]
      simp only [if_true, Bool.false_eq_true, if_false]
      rw [Int32.zero_add]
    · rw [h4 k q (by omega), if_neg (show ¬ k < t by omega), if_neg (show ¬ k = t by omega), Int32.add_zero]
  rw [e1, ek_sadd]
  have e2 : ek_s (fun k => if k < t then -C (40 * r + k) else if k = t then C (40 * r + t) else 0) z = C (40 * r + t) + ek_s (fun k => -C (40 * r + k)) t := by
    have hz0 : ∀ k, t + 1 ≤ k → k < z → (if k < t then -C (40 * r + k) else if k = t then C (40 * r + t) else 0) = 0 := by
      intro k a b
      rw [if_neg (by omega), if_neg (by omega)]
    rw [ek_smore (n := t + 1) (show t + 1 ≤ z by omega) hz0]
    show ek_s _ t + (if t < t then _ else if t = t then C (40 * r + t) else 0) = _
    rw [if_neg (show ¬ t < t by omega), if_pos (show t = t from rfl), Int32.add_comm]
    congr 1
    apply ek_sext
    intro k hk
    try simp only
    rw [if_pos hk]
  rw [e2]
  rfl
theorem ek_pow2 : ∀ z, z ≤ 12 → ((1 : Int32) <<< (nI z &&& 31)) = nI (2 ^ z) := by decide +kernel
theorem ek_bitlt {j z t : Nat} (hj : j < 2 ^ z) (ht : t < 32) (h : ek_bt (nI j) t = true) : t < z := by
  rcases Nat.lt_or_ge t z with q | q
  · exact q
  · rw [ek_btN j t ht, Nat.testBit_lt_two_pow (Nat.lt_of_lt_of_le hj (Nat.pow_le_pow_right (n := 2) (by omega) q))] at h
    cases h
theorem ek_pow12 {z : Nat} (hz : z ≤ 12) : 2 ^ z ≤ 4096 := Nat.le_trans (Nat.pow_le_pow_right (n := 2) (by omega) hz) (by decide)
theorem ek_priceX {N k z j : Nat} {S C : Nat → Int32} (hN : 5000 ≤ N) (hk : k < 6) (a : S k = nI z) (hz : z ≤ 12) (hj0 : 0 < j) (hj : j < 2 ^ z) : ∃ d, f_X11_priceStep N 40 S C (nI k) (nI j) = some d ∧ ek_pr C k z j = ek_pr C k z (j - 1) + d := by
  have h12 := ek_pow12 hz
  obtain ⟨t, ht, e1, e2, e3, e4, e5⟩ := ek_tz hj0 (show j < 4096 by omega)
  have htz := ek_bitlt hj (by omega) e2
  refine ⟨C (40 * k + t) + ek_s (fun q => -C (40 * k + q)) t, ?_, ek_step hz htz e2 e3 e4 e5⟩
  unfold f_X11_priceStep
  rw [e1, nm_t, show ((40 : Int32)) = nI 40 from rfl, ek_cell (P := 40) C a hk htz (by omega) rfl (by decide) (by decide) (by decide), nm_t]
  refine ek_for (fun n2 x s => f_X11_priceStep_b19 N (nI 40) S C n2 (nI k) (nI t) s x) (fun q s => s + -C (40 * k + q)) (fun _ _ => True) t N (by omega) ?_ _ trivial _ ?_
  · intro n2 q s hq _
    refine ⟨?_, trivial⟩
    try simp only
    rw [f_X11_priceStep_b19, if_neg (nI_ge hq (by omega)), if_neg (show ¬ (12 : Int32) ≤ nI q from nI_ge (b := 12) (by omega) (by omega)), ek_cell (P := 40) C a hk (show q < z by omega) (by omega) rfl (by decide) (by decide) (by decide), nm_t, nI_1, Int32.sub_eq_add_neg]
  · intro n2 _
    try simp only
    rw [f_X11_priceStep_b19, if_pos (nI_le (Nat.le_refl _) (by omega)), ek_sfo]
def ek_by (P : Nat → Int32) (co : Int32) (j : Nat) (s : Int32 × Int32) : Int32 × Int32 := if co < P j then s else if P j ≤ s.2 then s else (nI j, P j)
theorem r_buy {N n : Nat} {S C S' C' g g' Cn Cn' : Nat → Int32} {c la na li l l' ak a1 a2 a3 a4 a5 a6 : Int32} (hN : 5000 ≤ N) (hn : n ≤ 9) (hc : ek_sub n c) (he : ∀ i, i < 9 → g' i = g i) (hH : ek_H 6 40 S C S' C') (hF : ek_F l Cn l' Cn') (x : Int32) :
    ∃ o o', f_X11_buy N 40 S C c la na li g l ak a1 a2 a3 a4 a5 a6 Cn x = some o ∧ f_X12_buy N (nI n) c S' C' g' l' ak Cn' x = some o' ∧ o.1 = o'.1 ∧ ek_F o.2.1 o.2.2.2.2.2.2.2.2.2 o'.2.1 o'.2.2.2 ∧ o.2.2.1 = o'.2.2.1 := by
  rcases ek_refM (l := l) (Cn := Cn) (x := x) hH (by decide) (by decide) with ⟨e, h⟩ | ⟨k, hk, e, a, b, h⟩ | ⟨k, z, hk, e, hz, a, b, cc, h⟩
  · apply ek_mk2
    · unfold f_X11_buy; rw [e]; rfl
    · unfold f_X12_buy; rw [ek_askRow.1 h]; rfl
    · exact ⟨rfl, hF, rfl⟩
  · apply ek_mk2
    · unfold f_X11_buy; rw [h]; rfl
    · unfold f_X12_buy; rw [ek_askRow.2.1 k hk e b]; rfl
    · exact ⟨rfl, ek_F_upd hF (by decide), rfl⟩
  subst e
  by_cases h12 : nI z ≤ 12
  rotate_left
  · apply ek_mk2
    · unfold f_X11_buy; rw [h, nm_t, if_pos rfl, ek_siz S hk (by decide), a, if_neg h12]
      show nm (p_X11_refuse l Cn (nI 5)) _ = _
      rw [ek_ref (by decide) (by decide)]; rfl
    · unfold f_X12_buy; rw [ek_askRow.2.2 k z hk (by omega) rfl b, bn_t, if_pos (Int32.le_refl _), gd_t (ek_inb hk (by omega)), nI_clamp (by omega), b, if_neg h12]
      show bn (f_X12_meet N l' Cn' (nI 5)) _ = _
      rw [ek_meet (by decide)]; rfl
    · exact ⟨rfl, ek_F_upd hF (by decide), rfl⟩
  have hz12 : z ≤ 12 := (nI_leI (a := z) (b := 12) (by omega) (by omega)).mp h12
  have hp12 := ek_pow12 hz12
  obtain ⟨bb, w1, w2⟩ := ek_within (C := C) (lo := 0) (hi := 999) hN hk hz a
  have hin : ∀ v : Int32, (p_X12_in v 0 999 = 0) ↔ ¬ (¬ v < 0 ∧ v ≤ 999) := by
    intro v
    unfold p_X12_in
    by_cases q : v < 0
    · rw [if_pos q]; exact ⟨fun _ w => w.1 q, fun _ => rfl⟩
    · rw [if_neg q]
      by_cases y : 999 < v
      · rw [if_pos y]; exact ⟨fun _ w => absurd y (Int32.not_lt.mpr w.2), fun _ => rfl⟩
      · rw [if_neg y]; exact ⟨fun w => absurd w (by decide), fun w => absurd ⟨q, Int32.not_lt.mp y⟩ w⟩
  -- the model looks at the row
  have key : ∀ d j n', d + j = z → d < n' → ((∀ q, j ≤ q → q < z → ¬ C (40 * k + q) < 0 ∧ C (40 * k + q) ≤ 999) ∧ f_X12_buy_b31 N (f_X12_buy_b69 N (nI n) c S' C' g') (nI n) c S' C' g' n' l' ak Cn' (nI k) (nI j) = f_X12_buy_b69 N (nI n) c S' C' g' l' ak Cn' (nI k)) ∨ (¬ (∀ q, j ≤ q → q < z → ¬ C (40 * k + q) < 0 ∧ C (40 * k + q) ≤ 999) ∧ f_X12_buy_b31 N (f_X12_buy_b69 N (nI n) c S' C' g') (nI n) c S' C' g' n' l' ak Cn' (nI k) (nI j) = some (-3, nI 3, ak, upd Cn' 3 (Cn' 3 + 1))) := by
    intro d
    induction d with
    | zero =>
      intro j n' hj hn'
      obtain ⟨n2, rfl⟩ : ∃ q, n' = q + 1 := ⟨n' - 1, by omega⟩
      left
      refine ⟨fun q q1 q2 => by omega, ?_⟩
      rw [f_X12_buy_b31, gd_t (ek_inb hk (by omega)), nI_clamp (by omega), b, if_pos (nI_le (by omega) (by omega))]
    | succ d ih =>
      intro j n' hj hn'
      obtain ⟨n2, rfl⟩ : ∃ q, n' = q + 1 := ⟨n' - 1, by omega⟩
      rw [f_X12_buy_b31, gd_t (ek_inb hk (by omega)), nI_clamp (by omega), b, if_neg (nI_ge (by omega) (by omega)), ek_rowAt hk (by omega), bn_t, ← cc j (by omega)]
      by_cases hv : p_X12_in (C (40 * k + j)) 0 999 = 0
      · right
        rw [if_pos hv]
        refine ⟨fun hh => (hin _).mp hv (hh j (Nat.le_refl _) (by omega)), ?_⟩
        show bn (f_X12_meet N l' Cn' (nI 3)) _ = _
        rw [ek_meet (by decide)]; rfl
      · rw [if_neg hv, nI_1]
        rcases ih (j + 1) n2 (by omega) (by omega) with ⟨h, e⟩ | ⟨h, e⟩
        · left
          refine ⟨?_, e⟩
          intro q q1 q2
          rcases Nat.lt_or_ge j q with y | y
          · exact h q (by omega) q2
          · have : q = j := by omega
            rw [this]
            exact Decidable.byContradiction (fun w => hv ((hin _).mpr w))
        · right
          exact ⟨fun h2 => h (fun q q1 q2 => h2 q (by omega) q2), e⟩
  have em : f_X12_buy N (nI n) c S' C' g' l' ak Cn' (nI k) = f_X12_buy_b31 N (f_X12_buy_b69 N (nI n) c S' C' g') (nI n) c S' C' g' N l' ak Cn' (nI k) 0 := by
    unfold f_X12_buy; rw [ek_askRow.2.2 k z hk (by omega) rfl b, bn_t, if_pos (Int32.le_refl _), gd_t (ek_inb hk (by omega)), nI_clamp (by omega), b, if_pos h12]
  have hall : bb = true ↔ ∀ q, 0 ≤ q → q < z → ¬ C (40 * k + q) < 0 ∧ C (40 * k + q) ≤ 999 := by
    rw [w2]; exact ⟨fun h q _ hq => h q hq, fun h j hj => h j (by omega) hj⟩
  rcases key z 0 N (by omega) (by omega) with ⟨hA, e2⟩ | ⟨hA, e2⟩
  rotate_left
  · have hb : bb = false := by
      cases q : bb
      · rfl
      · exact absurd (hall.mp q) hA
    apply ek_mk2
    · unfold f_X11_buy; rw [h, nm_t, if_pos rfl, ek_siz S hk (by decide), a, if_pos h12, w1, bn_t, hb, if_pos (by rfl)]
      show nm (p_X11_refuse l Cn (nI 3)) _ = _
      rw [ek_ref (by decide) (by decide)]; rfl
    · exact em.trans e2
    · exact ⟨rfl, ek_F_upd hF (by decide), rfl⟩
  have hb : bb = true := hall.mpr hA
  -- all sets
  have eX : f_X11_buy N 40 S C c la na li g l ak a1 a2 a3 a4 a5 a6 Cn (nI k) = some ((ek_fo (ek_by (ek_pr C k z) (ek_pt c g n).1) (0, 0) (2 ^ z)).2, l, (ek_fo (ek_by (ek_pr C k z) (ek_pt c g n).1) (0, 0) (2 ^ z)).1, la, na, li, (ek_pt c g n).1, (ek_pt c g n).2.1, (ek_pt c g n).2.2, Cn) := by
    unfold f_X11_buy
    rw [h, nm_t, if_pos rfl, ek_siz S hk (by decide), a, if_pos h12, w1, bn_t, hb, if_neg (by decide), ek_layX5 hN, bn_t, ek_ptn hc g hn]
    simp only
    have kk : ∀ d j n', d + j = 2 ^ z → 1 ≤ j → d < n' → f_X11_buy_b78 N 40 S C c la na li g n' l ak la na li (ek_pt c g n).1 (ek_pt c g n).2.1 (ek_pt c g n).2.2 Cn (nI k) (ek_fo (ek_by (ek_pr C k z) (ek_pt c g n).1) (0, 0) j).1 (ek_fo (ek_by (ek_pr C k z) (ek_pt c g n).1) (0, 0) j).2 (ek_pr C k z (j - 1)) (nI j) = some ((ek_fo (ek_by (ek_pr C k z) (ek_pt c g n).1) (0, 0) (2 ^ z)).2, l, (ek_fo (ek_by (ek_pr C k z) (ek_pt c g n).1) (0, 0) (2 ^ z)).1, la, na, li, (ek_pt c g n).1, (ek_pt c g n).2.1, (ek_pt c g n).2.2, Cn) := by
      intro d
      induction d with
      | zero =>
        intro j n' hj hj1 hn'
        obtain ⟨n2, rfl⟩ : ∃ q, n' = q + 1 := ⟨n' - 1, by omega⟩
        have e : j = 2 ^ z := by omega
        rw [f_X11_buy_b78, ek_siz S hk (by decide), a, ek_pow2 z hz12, e, if_pos (nI_le (Nat.le_refl _) (by omega)), nm_t]; rfl
      | succ d ih =>
        intro j n' hj hj1 hn'
        obtain ⟨n2, rfl⟩ : ∃ q, n' = q + 1 := ⟨n' - 1, by omega⟩
        obtain ⟨dd, p1, p2⟩ := ek_priceX (N := N) (S := S) (C := C) hN hk a hz12 (show 0 < j by omega) (show j < 2 ^ z by omega)
        rw [f_X11_buy_b78, ek_siz S hk (by decide), a, ek_pow2 z hz12, if_neg (nI_ge (by omega) (by omega)), p1, bn_t, nm_t, ← p2]
        unfold f_X11_buy_b131
        rw [nI_1]
        have hs : ek_fo (ek_by (ek_pr C k z) (ek_pt c g n).1) (0, 0) (j + 1) = ek_by (ek_pr C k z) (ek_pt c g n).1 j (ek_fo (ek_by (ek_pr C k z) (ek_pt c g n).1) (0, 0) j) := rfl
        have := ih (j + 1) n2 (by omega) (by omega) (by omega)
        rw [hs, Nat.add_sub_cancel] at this
        rw [← this]
        unfold ek_by
        by_cases y1 : (ek_pt c g n).1 < ek_pr C k z j
        · rw [if_pos y1, if_pos y1, if_pos y1]
        · rw [if_neg y1, if_neg y1, if_neg y1]
          by_cases y2 : ek_pr C k z j ≤ (ek_fo (ek_by (ek_pr C k z) (ek_pt c g n).1) (0, 0) j).2
          · unfold ek_by at y2
            rw [if_pos y2, if_pos y2, if_pos y2]
          · unfold ek_by at y2
            rw [if_neg y2, if_neg y2, if_neg y2]
    have hp0 : ek_pr C k z 0 = 0 := by
      unfold ek_pr
      have hz0 : ∀ q, 0 ≤ q → q < z → (if ek_bt (nI 0) q then C (40 * k + q) else 0) = 0 := by
        intro q _ _
        rw [show nI 0 = 0 from rfl, ek_b0]; rfl
      rw [ek_smore (n := 0) (Nat.zero_le _) hz0]
      rfl
    have h1 : ek_fo (ek_by (ek_pr C k z) (ek_pt c g n).1) (0, 0) 1 = ((0 : Int32), (0 : Int32)) := by
      show ek_by _ _ 0 (0, 0) = _
      unfold ek_by
      rw [hp0]
      split
      · rfl
      · rw [if_pos (Int32.le_refl _)]
    have := kk (2 ^ z - 1) 1 N (by have := Nat.two_pow_pos z; omega) (by omega) (by omega)
    rw [h1] at this
    simp only [Nat.sub_self, hp0] at this
    exact this
  have eM : f_X12_buy N (nI n) c S' C' g' l' ak Cn' (nI k) = some ((ek_fo (ek_by (ek_pr C k z) (ek_pt c g n).1) (0, 0) (2 ^ z)).2, l', (ek_fo (ek_by (ek_pr C k z) (ek_pt c g n).1) (0, 0) (2 ^ z)).1, Cn') := by
    rw [em.trans e2]
    unfold f_X12_buy_b69
    rw [ek_coinsM hN hn, bn_t, ek_ptext (g' := g) (fun q hq _ => he q (by omega))]
    refine ek_for (fun n2 x (s : Int32 × Int32) => f_X12_buy_b83 N (nI n) c S' C' g' n2 l' ak Cn' (nI k) s.1 s.2 (ek_pt c g n).1 x) (ek_by (ek_pr C k z) (ek_pt c g n).1) (fun _ _ => True) (2 ^ z) N (by omega) ?_ (0, 0) trivial _ ?_
    · intro n2 j s hj _
      refine ⟨?_, trivial⟩
      try simp only
      rw [f_X12_buy_b83, gd_t (ek_inb hk (by omega)), nI_clamp (by omega), b, ek_pow2 z hz12, if_neg (nI_ge hj (by omega))]
      refine ek_for (fun n3 x t => f_X12_buy_b102 N (f_X12_buy_b145 N (f_X12_buy_b83 N (nI n) c S' C' g' n2) (nI n) c S' C' g') (nI n) c S' C' g' n3 l' ak Cn' (nI k) s.1 s.2 (ek_pt c g n).1 (nI j) t x) (fun q t => t + (if ek_bt (nI j) q then C (40 * k + q) else 0)) (fun _ _ => True) z N (by omega) ?_ 0 trivial _ ?_
      · intro n3 q t hq _
        refine ⟨?_, trivial⟩
        try simp only
        rw [f_X12_buy_b102, gd_t (ek_inb hk (by omega)), nI_clamp (by omega), b, if_neg (nI_ge hq (by omega)), ek_has (nI j) (by omega), ek_rowAt hk (by omega), bn_t, ← cc q hq]
        unfold f_X12_buy_b136
        simp only [nm_t]
        rw [nI_1]
        cases ek_bt (nI j) q
        · simp
        · simp
      · intro n3 _
        try simp only
        rw [f_X12_buy_b102, gd_t (ek_inb hk (by omega)), nI_clamp (by omega), b, if_pos (nI_le (Nat.le_refl _) (by omega)), ek_sfo, Int32.zero_add]
        show f_X12_buy_b145 N _ (nI n) c S' C' g' l' ak Cn' (nI k) s.1 s.2 (ek_pt c g n).1 (nI j) (ek_pr C k z j) = _
        unfold f_X12_buy_b145 f_X12_buy_b164 f_X12_buy_b177 f_X12_buy_b190 ek_by
        rw [nI_1]
        by_cases y1 : (ek_pt c g n).1 < ek_pr C k z j
        · rw [if_pos y1, if_pos y1]; rfl
        · rw [if_neg y1, if_neg y1]
          by_cases y2 : ek_pr C k z j ≤ s.2
          · rw [if_pos y2, if_pos y2]; rfl
          · rw [if_neg y2, if_neg y2]; rfl
    · intro n2 _
      try simp only
      rw [f_X12_buy_b83, gd_t (ek_inb hk (by omega)), nI_clamp (by omega), b, ek_pow2 z hz12, if_pos (nI_le (Nat.le_refl _) (by omega)), nm_t]
      rfl
  refine ⟨_, _, eX, eM, rfl, hF, rfl⟩
