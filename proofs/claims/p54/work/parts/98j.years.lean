/-! years -/
theorem s_add2 {f g : Nat → Int32} : ∀ m, ek_s (fun j => f j + g j) m = ek_s f m + ek_s g m := by
  intro m
  induction m with
  | zero => rfl
  | succ m ih =>
    show ek_s (fun j => f j + g j) m + (f m + g m) = (ek_s f m + f m) + (ek_s g m + g m)
    rw [ih, Int32.add_assoc, Int32.add_assoc, ← Int32.add_assoc (ek_s g m) (f m), Int32.add_comm (ek_s g m) (f m), Int32.add_assoc]
/-- one YEAR: what all give is what one gets -/
theorem year0 {n i : Nat} {la na li : Int32} {F d : Nat → Int32} (hi : i < n) (h : ∀ j, j < n → d j = if j = i then (ek_ce la na li F i n).1 else 0 - ek_cg la na li F i j) : ek_s d n = 0 := by
  have e1 := ek_cesum (la := la) (na := na) (li := li) (F := F) (i := i) (ys := fun j => if j = i then 0 else ek_cg la na li F i j) (m := n) (fun j _ => rfl)
  have e2 : ek_s (fun j => d j + (if j = i then 0 else ek_cg la na li F i j)) n = (ek_ce la na li F i n).1 := by
    rw [ek_sext (g := fun k => if k = i then (ek_ce la na li F i n).1 else 0) (fun j hj => by
      show d j + _ = _
      rw [h j hj]
      by_cases e : j = i
      · rw [if_pos e, if_pos e, if_pos e, Int32.add_zero]
      · rw [if_neg e, if_neg e, if_neg e, Int32.sub_add_cancel])]
    exact ek_sone hi
  rw [s_add2, e1] at e2
  have e3 : ek_s d n + (ek_ce la na li F i n).1 = 0 + (ek_ce la na li F i n).1 := by rw [e2, Int32.zero_add]
  have e4 := congrArg (fun z => z - (ek_ce la na li F i n).1) e3
  simp only [Int32.add_sub_cancel] at e4
  exact e4
theorem ba_ext {ch ch' : Nat → Int32} {y i : Nat} (hi : i < 9) (h : ∀ q j, q < y → j < 9 → ch' (9 * q + j) = ch (9 * q + j)) : ek_ba ch' y i = ek_ba ch y i := by
  unfold ek_ba
  exact ek_sext (fun q hq => h q i hq hi)
theorem ba_succ {ch : Nat → Int32} {y i : Nat} : ek_ba ch (y + 1) i = ek_ba ch y i + ch (9 * y + i) := rfl
theorem ce_ok {n i : Nat} {la na li : Int32} {F : Nat → Int32} (hn : n ≤ 9) (hT : ek_T la na li) (hw : ∀ i, i < n → ek_wf (ek_ds F i)) : ∀ j, j ≤ n → ek_ok j (ek_ce la na li F i j) := by
  intro j
  induction j with
  | zero => intro _; exact ⟨0, 0, 0, rfl, by omega, by omega, by omega⟩
  | succ j ih =>
    intro hj
    have h := ih (by omega)
    rw [ek_ce]
    split
    · obtain ⟨T, G, L, h1, h2, h3, h4⟩ := h
      exact ⟨T, G, L, h1, h2, by omega, h4⟩
    · obtain ⟨v, hv, ev⟩ := ek_gvb hT (hw j (by omega)) h (by omega)
      rw [ev]
      exact ek_oktk h hv (by omega)
section SEM
variable {S C TS TC : Nat → Int32} {F : Nat → Int32} {k0 : TRd} {ch : Nat → Int32} {ak : Int32} {up lo : Int64} {th : TH}
variable {n y i : Nat} {st ru at_ ib ho cr la na li it : Int32} {hs gi wr : Nat → Int32}
theorem s_year (hn : n ≤ 9) (hi : i < n) (hy : y < 40) (h : Sem S C TS TC (nI n) F (mR st ru at_ ib ho cr la na li it hs gi wr) k0 (nI y) ch ak up lo th) :
    ∃ ch' th', o_year th (nI i) = some ((ek_ce la na li F i n).1, th') ∧ Sem S C TS TC (nI n) F (mR st ru at_ ib ho cr la na li it hs gi wr) k0 (nI (y + 1)) ch' ak up lo th' ∧ (∀ q j, q < y → j < 9 → ch' (9 * q + j) = ch (9 * q + j)) ∧ ∀ j, j < n → ch' (9 * y + j) = if j = i then (ek_ce la na li F i n).1 else 0 - ek_cg la na li F i j := by
  obtain ⟨fi, fc, dr, k1, k2, lv, ba, wa, ly, ⟨b1, b2, b3, b4, b5, b6⟩, ca, fw, sn, s2, wh, sq, pk, rfl, hS, hT2⟩ := h
  have hz : ∃ ch1, (∀ j, j < 9 → ch1 (9 * y + j) = 0) ∧ (∀ p, p < 9 * y → ch1 p = ch p) ∧ ∀ (k60 : Int32 → (Nat → Int32) → (Nat → Int32) → Int32 → Int32 → Int32 → Int32 → Int32 → Option (Int32 × Int32 × (Nat → Int32) × (Nat → Int32) × Int32 × Int32 × Int32)), f_X10_add_b34 5000 k60 (nI n) F la na li 5000 (nI y) lv ch 0 0 0 (nI i) (nI y * (9 : Int32)) 0 = k60 (nI y) lv ch1 0 0 0 (nI i) (nI y * (9 : Int32)) := by
    refine ⟨ek_fo (fun j s => upd s (9 * y + j) 0) ch 9, ?_, ?_, ?_⟩
    · intro j hj
      rw [ek_fill (b := 9 * y) (v := 0) (C := ch) 9 (9 * y + j), if_pos (by omega)]
    · intro p hp
      rw [ek_fill (b := 9 * y) (v := 0) (C := ch) 9 p, if_neg (by omega)]
    · intro k60
      refine ek_for (fun n2 z (s : Nat → Int32) => f_X10_add_b34 5000 k60 (nI n) F la na li n2 (nI y) lv s 0 0 0 (nI i) (nI y * (9 : Int32)) z) (fun j s => upd s (9 * y + j) 0) (fun _ _ => True) 9 5000 (by omega) ?_ ch trivial _ ?_
      · intro n2 j s hj _
        refine ⟨?_, trivial⟩
        try simp only
        rw [f_X10_add_b34, if_neg (show ¬ (9 : Int32) ≤ _ from nI_ge (b := 9) hj (by omega)), nm_t, show nI y * (9 : Int32) + nI j = nI (9 * y + j) by rw [show ((9 : Int32)) = nI 9 from rfl, pk_mul, nI_add, Nat.mul_comm], ek_X10set s _ (by omega) (by omega), nI_1]
      · intro n2 _
        try simp only
        rw [f_X10_add_b34, if_pos (show (9 : Int32) ≤ nI 9 from nI_le (a := 9) (Nat.le_refl _) (by omega))]
  obtain ⟨ch1, hz1, hz2, hz3⟩ := hz
  obtain ⟨ch2, c1, c2, c3⟩ := ek_celX (N := 5000) (L := 360) (b := 9 * y) (q := ch1) (la := la) (na := na) (li := li) (t := 0) (g := 0) (l := 0) (F := F) (by omega) hn (by omega) (by omega) hi
  have e : f_X11_year 5000 (nI n) F la na li (nI y) lv ch b1 b2 b3 b4 b5 b6 (nI i) = some ((ek_ce la na li F i n).1, nI (y + 1), upd lv y (nI i), ch2, la, na, li, (ek_ce la na li F i n).1, (ek_ce la na li F i n).2.1, (ek_ce la na li F i n).2.2) := by
    unfold f_X11_year p_X5_copyTermsFrom p_X5_clear
    rw [if_neg (sr_nam hn hi)]
    simp only [nm_t]
    unfold f_X10_add
    rw [if_neg (nI_pos (by omega)), if_pos (show nI y < 40 from nI_lt (b := 40) hy (by omega)), nm_t, hz3]
    unfold f_X10_add_b60
    rw [show nI y * (9 : Int32) = nI (9 * y) by rw [show ((9 : Int32)) = nI 9 from rfl, pk_mul, Nat.mul_comm], gd_t (ek_inb (by omega) (by omega)), c1, bn_t, bn_t, nI_clamp (by omega), nI_1]
  refine ⟨ch2, _, bn_e e, ⟨_, _, _, _, _, _, _, _, _, (_, _, _, _, _, _), _, _, _, _, _, _, _, rfl, hS, hT2⟩, fun q j hq hj => ?_, fun j hj => ?_⟩
  · rw [c3 (9 * q + j) (by omega), hz2 _ (by omega)]
  · rw [c2 j hj]
    by_cases e : j = i
    · rw [if_pos e, if_pos e, hz1 i (by omega), Int32.zero_add]
    · rw [if_neg e, if_neg e, hz1 j (by omega)]
theorem s_even {yn : Int32} (hn : n ≤ 9) (hn0 : 0 < n) (a : S 2 = nI 1) (hC : C (40 * 2 + 0) = 0) (h : Sem S C TS TC (nI n) F (mR st ru at_ ib ho cr la na li it hs gi wr) k0 yn ch ak up lo th) :
    ∃ v ak' th', v < 3 ∧ o_even th 2 = some (nI v, th') ∧ Sem S C TS TC (nI n) F (mR st ru at_ ib ho cr la na li it hs gi wr) k0 yn ch ak' up lo th' := by
  obtain ⟨fi, fc, dr, k1, k2, lv, ba, wa, ly, ⟨b1, b2, b3, b4, b5, b6⟩, ca, fw, sn, s2, wh, sq, pk, rfl, hS, hT2⟩ := h
  have hLx : ∀ y, y < 1 → (fun _ : Nat => 0) y < n ∧ C (40 * 2 + y) = nI ((fun _ : Nat => 0) y) := fun y hy => by
    have : y = 0 := by omega
    subst this
    exact ⟨hn0, hC⟩
  obtain ⟨b, w1, w2⟩ := ek_within (N := 5000) (S := S) (C := C) (k := 2) (z := 1) (lo := 0) (hi := nI n - 1) (by omega) (by omega) (by omega) a
  have hb : b = true := w2.mpr (fun j hj => by
    rw [(hLx j hj).2]
    exact ⟨nI_pos (n := 0) (by omega), by rw [show (1 : Int32) = nI 1 from rfl, pk_sub hn0]; exact nI_le (a := 0) (by omega) (by omega)⟩)
  have e : ∃ v ak' B' u1 u2 u3 u4 u5 u6, v < 3 ∧ f_X11_even 5000 (40 : Int32) S C (nI n) F la na li fi ak ba b1 b2 b3 b4 b5 b6 fc 2 = some (nI v, fi, ak', B', u1, u2, u3, u4, u5, u6, fc) := by
    unfold f_X11_even p_X5_copyTermsFrom p_X5_clear
    rw [if_neg (show ¬ p_X7_names 6 2 = 0 by decide), if_neg (sr_n0 hn0 hn), if_neg (show ¬ p_X7_isThere 6 S (2 : Int32) = 0 by rw [show p_X7_isThere 6 S (2 : Int32) = 1 from ek_thereH (k := 2) a (by omega) (by omega) (by omega)]; decide), show p_X7_sizeOf 6 S (2 : Int32) = S 2 from ek_siz S (j := 2) (by omega) (by decide), a, if_pos (show nI 1 ≤ (20 : Int32) by decide), show f_X7_allWithin 5000 6 240 (40 : Int32) S C (2 : Int32) (0 : Int32) (nI n - 1) = _ from w1, bn_t, hb, if_neg (by decide)]
    simp only [nm_t]
    refine ek_forI (σ := (Nat → Int32) × (Int32 × Int32 × Int32 × Int32) × Int32 × Int32) (fun n2 z s => f_X11_even_b107 5000 (40 : Int32) S C (nI n) F la na li n2 fi ak s.1 s.2.1.1 na li s.2.1.2.1 s.2.1.2.2.1 s.2.1.2.2.2 fc 2 s.2.2.1 s.2.2.2 z) (fun j s => ∃ v, v < 3 ∧ s.2.2.1 = nI v) 3 5000 (by omega) ?_ (ba, (la, 0, 0, 0), 0, 0) ⟨0, by omega, rfl⟩ (fun r => ∃ v ak' B' u1 u2 u3 u4 u5 u6, v < 3 ∧ r = some (nI v, fi, ak', B', u1, u2, u3, u4, u5, u6, fc)) ?_
    · rintro n2 v ⟨s1, ⟨c1, c2, c3, c4⟩, s2, s3⟩ hv ⟨v0, hv0, i1⟩
      simp only at i1
      subst i1
      obtain ⟨B', p1, p2, p3, ea⟩ := ek_apX (N := 5000) (la := nI v) (na := na) (li := li) (F := F) (B := s1) (t := c2) (g := c3) (l := c4) (k := 2) (z := 1) (S := S) (C := C) (L := fun _ => 0) (by omega) hn hn0 (by omega) (by omega) a hLx
      have hbest : ∀ ap : Int32, ∃ x2 x3, (∀ (f : Int32 → Int32 → Option (Int32 × Int32 × Int32 × (Nat → Int32) × Int32 × Int32 × Int32 × Int32 × Int32 × Int32 × (Nat → Int32))), (if nI v = 0 then f (nI v) ap else if s3 ≤ ap then f (nI v0) s3 else f (nI v) ap) = f x2 x3) ∧ ∃ v', v' < 3 ∧ x2 = nI v' := by
        intro ap
        by_cases y : nI v = 0
        · exact ⟨nI v, ap, fun f => by rw [if_pos y], v, hv, rfl⟩
        · by_cases y2 : s3 ≤ ap
          · exact ⟨nI v0, s3, fun f => by rw [if_neg y, if_pos y2], v0, hv0, rfl⟩
          · exact ⟨nI v, ap, fun f => by rw [if_neg y, if_neg y2], v, hv, rfl⟩
      obtain ⟨x2, x3, y1, y2⟩ := hbest ((ek_ap (ek_ev (nI v) na li F n (fun _ => 0) 1) n).1 - (ek_ap (ek_ev (nI v) na li F n (fun _ => 0) 1) n).2)
      refine ⟨(B', (nI v, p1, p2, p3), x2, x3), ?_, y2⟩
      try simp only
      rw [f_X11_even_b107, if_neg (show ¬ (3 : Int32) ≤ nI v from nI_ge (b := 3) hv (by omega)), show f_X10_apartAfter 5000 6 240 (nI n) F (nI v) na li (40 : Int32) S C s1 c2 c3 c4 (2 : Int32) = _ from ea, bn_t]
      unfold f_X11_even_b155 f_X11_even_b161
      rw [nI_1]
      exact y1 (fun x2 x3 => f_X11_even_b107 5000 (40 : Int32) S C (nI n) F la na li n2 fi ak B' (nI v) na li p1 p2 p3 fc 2 x2 x3 (nI (v + 1)))
    · rintro n2 ⟨s1, ⟨c1, c2, c3, c4⟩, s2, s3⟩ ⟨v0, hv0, i1⟩
      simp only at i1
      subst i1
      try simp only
      rw [f_X11_even_b107, if_pos (show (3 : Int32) ≤ nI 3 from nI_le (a := 3) (Nat.le_refl _) (by omega)), nm_t]
      exact ⟨v0, _, _, _, _, _, _, _, _, hv0, rfl⟩
  obtain ⟨v, ak', B', u1, u2, u3, u4, u5, u6, hv, e⟩ := e
  exact ⟨v, ak', _, hv, bn_e e, _, _, _, _, _, _, _, _, _, (_, _, _, _, _, _), _, _, _, _, _, _, _, rfl, hS, hT2⟩
end SEM
