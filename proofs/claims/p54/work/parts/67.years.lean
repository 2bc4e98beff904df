/-! years -/
def ek_ce (la na li : Int32) (F : Nat → Int32) (i : Nat) : Nat → Int32 × Int32 × Int32
  | 0 => (0, 0, 0)
  | j + 1 => if j = i then ek_ce la na li F i j else ek_tk (ek_ce la na li F i j) (ek_gv la na li (ek_ds F j) (ek_ce la na li F i j))
def ek_cg (la na li : Int32) (F : Nat → Int32) (i j : Nat) : Int32 := ek_gv la na li (ek_ds F j) (ek_ce la na li F i j)
theorem ek_cesum {la na li : Int32} {F ys : Nat → Int32} {i : Nat} : ∀ {m : Nat}, (∀ j, j < m → ys j = if j = i then 0 else ek_cg la na li F i j) → ek_s ys m = (ek_ce la na li F i m).1 := by
  intro m
  induction m with
  | zero => intro _; rfl
  | succ m ih =>
    intro h
    show ek_s ys m + ys m = (if m = i then _ else _ : Int32 × Int32 × Int32).1
    rw [ih (fun j hj => h j (by omega)), h m (by omega)]
    by_cases e : m = i
    · rw [if_pos e, if_pos e, Int32.add_zero]
    · rw [if_neg e, if_neg e]; rfl
theorem ek_X10cell {L p : Nat} (q : Nat → Int32) (h : p < L) (hL : L < 1000) : p_X10_cell L q (nI p) = q p := by
  unfold p_X10_cell
  rw [if_neg (nI_pos (by omega)), if_neg (show ¬ Int32.ofNat L ≤ nI p from nI_ge h (by omega)), nI_clamp (by omega)]
theorem ek_X10set {L p : Nat} (q : Nat → Int32) (v : Int32) (h : p < L) (hL : L < 1000) : p_X10_setCell L q (nI p) v = upd q p v := by
  unfold p_X10_setCell
  rw [if_neg (nI_pos (by omega)), if_neg (show ¬ Int32.ofNat L ≤ nI p from nI_ge h (by omega)), nI_clamp (by omega)]
theorem ek_celX {N n L b i : Nat} {F q : Nat → Int32} {la na li t g l : Int32} (hN : 5000 ≤ N) (hn : n ≤ 9) (hL : L < 1000) (hb : b + n ≤ L) (hi : i < n) :
    ∃ q', f_X10_celebrate N L (nI n) F la na li t g l q (nI i) (nI b) = some ((ek_ce la na li F i n).1, (ek_ce la na li F i n).1, (ek_ce la na li F i n).2.1, (ek_ce la na li F i n).2.2, q') ∧ (∀ j, j < n → q' (b + j) = if j = i then q (b + i) + (ek_ce la na li F i n).1 else q (b + j) - ek_cg la na li F i j) ∧ ∀ p, p < b ∨ b + n ≤ p → q' p = q p := by
  unfold f_X10_celebrate p_X5_clear
  rw [nm_t]
  simp only
  refine ek_forI (fun n2 x (s : (Int32 × Int32 × Int32) × (Nat → Int32)) => f_X10_celebrate_b7 N L (f_X10_celebrate_b66 N L (nI n) F la na li) (nI n) F la na li n2 s.1.1 s.1.2.1 s.1.2.2 s.2 (nI i) (nI b) x) (fun k s => s.1 = ek_ce la na li F i k ∧ (∀ j, j < n → s.2 (b + j) = if j < k ∧ j ≠ i then q (b + j) - ek_cg la na li F i j else q (b + j)) ∧ ∀ p, p < b ∨ b + n ≤ p → s.2 p = q p) n N (by omega) ?_ ((0, 0, 0), q) ⟨rfl, fun j hj => by rw [if_neg (by omega)], fun _ _ => rfl⟩ (fun o => ∃ q', o = some ((ek_ce la na li F i n).1, (ek_ce la na li F i n).1, (ek_ce la na li F i n).2.1, (ek_ce la na li F i n).2.2, q') ∧ (∀ j, j < n → q' (b + j) = if j = i then q (b + i) + (ek_ce la na li F i n).1 else q (b + j) - ek_cg la na li F i j) ∧ ∀ p, p < b ∨ b + n ≤ p → q' p = q p) ?_
  · rintro n2 k ⟨s1, s2⟩ hk ⟨i1, i2, i3⟩
    simp only at i1 i2 i3
    by_cases e : k = i
    · refine ⟨(s1, s2), ?_, ?_, ?_, i3⟩
      · try simp only
        rw [f_X10_celebrate_b7, if_neg (nI_ge hk (by omega)), if_pos (by rw [e])]
        unfold f_X10_celebrate_b60
        rw [nI_1]
      · show s1 = (if k = i then _ else _)
        rw [if_pos e]; exact i1
      · intro j hj
        try simp only
        rw [i2 j hj]
        by_cases z : j < k ∧ j ≠ i
        · rw [if_pos z, if_pos (by omega)]
        · rw [if_neg z, if_neg (by omega)]
    · refine ⟨(ek_tk s1 (ek_gv la na li (ek_ds F k) s1), upd s2 (b + k) (s2 (b + k) - ek_gv la na li (ek_ds F k) s1)), ?_, ?_, ?_, ?_⟩
      · try simp only
        rw [f_X10_celebrate_b7, if_neg (nI_ge hk (by omega)), if_neg (fun z => e ((nI_eq (by omega) (by omega)).mp z)), ek_gvX hn hk, bn_t, nm_t, nm_t, ek_take, nI_add, ek_X10cell s2 (by omega) hL, ek_X10set s2 _ (by omega) hL]
        unfold f_X10_celebrate_b60
        rw [nI_1]
      · show _ = (if k = i then _ else _)
        rw [if_neg e, i1]
      · intro j hj
        show upd s2 (b + k) _ (b + j) = _
        by_cases z : j = k
        · subst z
          rw [pk_us, i2 j hj, if_neg (by omega), if_pos (by omega), i1]; rfl
        · rw [pk_un (by omega), i2 j hj]
          by_cases y : j < k ∧ j ≠ i
          · rw [if_pos y, if_pos (by omega)]
          · rw [if_neg y, if_neg (by omega)]
      · intro p hp
        show upd s2 (b + k) _ p = q p
        rw [pk_un (by omega)]; exact i3 p hp
  · rintro n2 ⟨s1, s2⟩ ⟨i1, i2, i3⟩
    simp only at i1 i2 i3
    subst i1
    refine ⟨upd s2 (b + i) (s2 (b + i) + (ek_ce la na li F i n).1), ?_, ?_, ?_⟩
    · try simp only
      rw [f_X10_celebrate_b7, if_pos (nI_le (Nat.le_refl _) (by omega))]
      unfold f_X10_celebrate_b66
      rw [nm_t, nI_add, ek_X10cell s2 (by omega) hL, ek_X10set s2 _ (by omega) hL]
    · intro j hj
      by_cases z : j = i
      · subst z
        rw [pk_us, if_pos rfl, i2 j hj, if_neg (by omega)]
      · rw [pk_un (by omega), if_neg z, i2 j hj, if_pos ⟨hj, z⟩]
    · intro p hp
      rw [pk_un (by omega)]; exact i3 p hp
theorem ek_leaves {N n L b i : Nat} {F D q g w hs A : Nat → Int32} {la na li ho c wm wt : Int32} (hN : 5000 ≤ N) (hD : ek_D n F D) (hT : ek_T la na li) (hL : L < 1000) (hb : b + n ≤ L) (hi : i < n) :
    ∃ wm' wt' g2 w2 hs2 A2 q', f_X12_leaves N L (nI n) la na li ho D c wm wt g w hs A q (nI i) (nI b) = some ((ek_ce la na li F i n).1, c, wm', wt', g2, w2, hs2, A2, q') ∧ (∀ j, j < n → q' (b + j) = if j = i then 0 else ek_cg la na li F i j) ∧ (∀ p, p < b ∨ b + n ≤ p → q' p = q p) ∧ ∀ j, j < 9 → g2 j = g j ∧ w2 j = w j ∧ hs2 j = hs j := by
  have hn := hD.1
  obtain ⟨A2, p1, p2, p3⟩ := ek_aside (c := c) (g := g) (w := w) (h := hs) (A := A) hN
  unfold f_X12_leaves
  rw [p1, bn_t]
  refine ek_forI (fun n2 x (t : Int32 × Int32 × Int32 × (Nat → Int32) × (Nat → Int32) × (Nat → Int32) × (Nat → Int32) × Int32) => f_X12_leaves_b15 N L (nI n) la na li ho D n2 t.1 t.2.1 t.2.2.1 t.2.2.2.1 t.2.2.2.2.1 t.2.2.2.2.2.1 A2 t.2.2.2.2.2.2.1 (nI i) (nI b) t.2.2.2.2.2.2.2 x) (fun k t => t.2.2.2.2.2.2.2 = (ek_ce la na li F i k).1 ∧ ek_pt t.1 t.2.2.2.1 n = ek_ce la na li F i k ∧ ek_B n t.1 t.2.2.2.1 t.2.2.2.2.1 ∧ (∀ p, k ≤ p → ek_bt t.1 p = false) ∧ (∀ j, j < k → t.2.2.2.2.2.2.1 (b + j) = if j = i then 0 else ek_cg la na li F i j) ∧ ∀ p, p < b ∨ b + n ≤ p → t.2.2.2.2.2.2.1 p = q p) n N (by omega) ?_ (0, wm, wt, g, w, hs, q, 0) ⟨rfl, ?_, ek_B0, fun p _ => ek_b0 p, fun j hj => absurd hj (by omega), fun _ _ => rfl⟩ (fun o => ∃ wm' wt' g2 w2 hs2 A2 q', o = some ((ek_ce la na li F i n).1, c, wm', wt', g2, w2, hs2, A2, q') ∧ (∀ j, j < n → q' (b + j) = if j = i then 0 else ek_cg la na li F i j) ∧ (∀ p, p < b ∨ b + n ≤ p → q' p = q p) ∧ ∀ j, j < 9 → g2 j = g j ∧ w2 j = w j ∧ hs2 j = hs j) ?_
  · rintro n2 k ⟨c1, t2, t3, gg, ww, hh, qq, x4⟩ hk ⟨i1, i2, i3, i4, i5, i6⟩
    simp only at i1 i2 i3 i4 i5 i6
    have hq : ∀ v : Int32, (∀ j, j < k + 1 → upd qq (b + k) v (b + j) = if j = k then v else if j = i then 0 else ek_cg la na li F i j) := by
      intro v j hj
      by_cases z : j = k
      · subst z; rw [pk_us, if_pos rfl]
      · rw [pk_un (by omega), if_neg z]; exact i5 j (by omega)
    by_cases e : k = i
    · refine ⟨(c1, t2, t3, gg, ww, hh, upd qq (b + k) 0, x4), ?_, ?_, ?_, i3, fun p hp => i4 p (by omega), ?_, ?_⟩
      · try simp only
        rw [f_X12_leaves_b15, if_neg (nI_ge hk (by omega)), if_pos (by rw [e])]
        unfold f_X12_leaves_b48 f_X12_leaves_b70
        rw [if_pos (by rw [e]), nI_add, gd_t (ek_inb (by omega) (by omega)), nI_clamp (by omega), nI_1]
      · show x4 = (if k = i then _ else _ : Int32 × Int32 × Int32).1
        rw [if_pos e]; exact i1
      · show _ = (if k = i then _ else _)
        rw [if_pos e]; exact i2
      · intro j hj
        have := hq 0 j hj
        try simp only
        rw [this]
        by_cases z : j = k
        · rw [if_pos z, if_pos (by omega)]
        · rw [if_neg z]
      · intro p hp
        show upd qq (b + k) 0 p = q p
        rw [pk_un (by omega)]; exact i6 p hp
    · obtain ⟨m1, m2, e2⟩ := ek_puts (N := N) (hour := ho) (a := t2) (b := t3) (hs := hh) hN hD hT i3 hk
      have hpu := ek_pu1pt (la := la) (na := na) (li := li) (ho := ho) (F := F) (s := (c1, gg, ww, hh)) hn hk (i4 k (Nat.le_refl _))
      have hG : ek_G n la na li F c1 gg k = ek_cg la na li F i k := by unfold ek_G ek_cg; rw [i2]
      refine ⟨(ek_sg c1 k, m1, m2, upd gg k (ek_G n la na li F c1 gg k), upd ww k (ek_W n F c1 ww k), upd hh k ho, upd qq (b + k) (ek_cg la na li F i k), x4 + ek_cg la na li F i k), ?_, ?_, ?_, ek_Bset hn hD.2.2 hT i3 hk, ?_, ?_, ?_⟩
      · try simp only
        rw [f_X12_leaves_b15, if_neg (nI_ge hk (by omega)), if_neg (fun z => e ((nI_eq (by omega) (by omega)).mp z)), e2, bn_t, gd_t (ek_inb (by omega) (by omega)), nm_t, nI_clamp (by omega)]
        unfold f_X12_leaves_b48 f_X12_leaves_b70
        rw [if_neg (fun z => e ((nI_eq (by omega) (by omega)).mp z)), gd_t (ek_inb (by omega) (by omega)), nI_clamp (by omega), nI_add, gd_t (ek_inb (by omega) (by omega)), nI_clamp (by omega), nI_1, hG]
        simp only [pk_us]
        rfl
      · show x4 + ek_cg la na li F i k = (if k = i then _ else _ : Int32 × Int32 × Int32).1
        rw [if_neg e, i1]; rfl
      · show ek_pt _ _ n = (if k = i then _ else _)
        rw [if_neg e, ← i2]
        exact hpu
      · intro p hp
        try simp only
        rcases Nat.lt_or_ge p 32 with y | y
        · rw [ek_bsg (by omega) y, i4 p (by omega), decide_eq_false (by omega)]; rfl
        · exact ek_bbig y
      · intro j hj
        have := hq (ek_cg la na li F i k) j hj
        try simp only
        rw [this]
        by_cases z : j = k
        · rw [if_pos z, if_neg (by omega), z]
        · rw [if_neg z]
      · intro p hp
        show upd qq (b + k) _ p = q p
        rw [pk_un (by omega)]; exact i6 p hp
  · have : ∀ m, ek_pt 0 g m = (0, 0, 0) := by
      intro m
      induction m with
      | zero => rfl
      | succ m ih => show (if ek_bt 0 m then _ else ek_pt 0 g m) = _; rw [if_neg (by rw [ek_b0]; decide)]; exact ih
    exact this n
  · rintro n2 ⟨c1, t2, t3, gg, ww, hh, qq, x4⟩ ⟨i1, i2, i3, i4, i5, i6⟩
    simp only at i1 i2 i3 i4 i5 i6
    obtain ⟨g4, w4, h4, b1', b2'⟩ := ek_back (c := c1) (g := gg) (w := ww) (h := hh) (A := A2) hN
    refine ⟨t2, t3, g4, w4, h4, A2, qq, ?_, i5, i6, fun j hj => ?_⟩
    · try simp only
      rw [f_X12_leaves_b15, if_pos (nI_le (Nat.le_refl _) (by omega)), b1', bn_t, p2, i1]
    · obtain ⟨r1, r2, r3⟩ := b2' j hj
      obtain ⟨s1, s2, s3⟩ := p3 j hj
      exact ⟨r1.trans s1, r2.trans s2, r3.trans s3⟩
def ek_Y (n : Nat) (ym : Int32) (lv ch : Nat → Int32) (ym' : Int32) (ys : Nat → Int32) : Prop :=
  ∃ y, y ≤ 40 ∧ ym = nI y ∧ ym' = nI y ∧ ∀ q, q < y → ∃ i, i < n ∧ lv q = nI i ∧ ys (10 * q) = nI i ∧ ∀ j, j < n → ch (9 * q + j) = if j = i then ek_s (fun p => ys (10 * q + 1 + p)) n else -ys (10 * q + 1 + j)
theorem r_forgetY {n : Nat} {ym ym' : Int32} {lv ch ys : Nat → Int32} (hY : ek_Y n ym lv ch ym' ys) (x : Int32) : p_X11_forget ym x = p_X12_forget ym' x ∧ ek_Y n (p_X11_forget ym x).2 lv ch (p_X12_forget ym' x).2 ys := by
  obtain ⟨y, hy, rfl, rfl, h⟩ := hY
  obtain ⟨e1, z, hz, e2⟩ := r_forget hy x
  refine ⟨e1, z, by omega, e2, by rw [← e1]; exact e2, fun q hq => h q (by omega)⟩
theorem r_year {N n : Nat} {F D g w hs g' w' hs' A lv ch ys : Nat → Int32} {la na li ho c wm wt ym ym' b1 b2 b3 b4 b5 b6 : Int32} (hN : 5000 ≤ N) (hD : ek_D n F D) (hT : ek_T la na li) (he : ∀ i, i < 9 → hs' i = hs i ∧ g' i = g i ∧ w' i = w i) (hY : ek_Y n ym lv ch ym' ys) (x : Int32) :
    ∃ o o', f_X11_year N (nI n) F la na li ym lv ch b1 b2 b3 b4 b5 b6 x = some o ∧ f_X12_year N (nI n) la na li ho D c wm wt ym' g' w' hs' A ys x = some o' ∧ o.1 = o'.1 ∧ ek_Y n o.2.1 o.2.2.1 o.2.2.2.1 o'.2.2.2.2.1 o'.2.2.2.2.2.2.2.2.2 ∧ o'.2.1 = c ∧ ∀ i, i < 9 → o'.2.2.2.2.2.2.2.1 i = hs i ∧ o'.2.2.2.2.2.1 i = g i ∧ o'.2.2.2.2.2.2.1 i = w i := by
  have hn := hD.1
  obtain ⟨y, hy, rfl, rfl, hq⟩ := hY
  rcases ek_desk x hn with ⟨d1, d2, -⟩ | ⟨i, hi, rfl, d1, d2⟩
  · apply ek_mk2
    · unfold f_X11_year; rw [if_pos d1]
    · unfold f_X12_year; rw [if_pos d2]
    · exact ⟨rfl, ⟨y, hy, rfl, rfl, hq⟩, rfl, he⟩
  by_cases h40 : y < 40
  rotate_left
  · have e40 : y = 40 := by omega
    subst e40
    apply ek_mk2
    · unfold f_X11_year p_X5_copyTermsFrom p_X5_clear
      rw [if_neg d1]
      simp only [nm_t]
      unfold f_X10_add
      rw [if_neg (show ¬ nI 40 < 0 from nI_pos (by omega)), if_neg (show ¬ nI 40 < 40 by decide), bn_t]
    · unfold f_X12_year; rw [if_neg d2, if_pos (show nI 40 = 40 from rfl)]
    · exact ⟨rfl, ⟨40, hy, rfl, rfl, hq⟩, rfl, he⟩
  -- the places of this year begin empty
  have hz : ∃ ch1, (∀ j, j < 9 → ch1 (9 * y + j) = 0) ∧ (∀ p, p < 9 * y → ch1 p = ch p) ∧ ∀ (k60 : Int32 → (Nat → Int32) → (Nat → Int32) → Int32 → Int32 → Int32 → Int32 → Int32 → Option (Int32 × Int32 × (Nat → Int32) × (Nat → Int32) × Int32 × Int32 × Int32)), f_X10_add_b34 N k60 (nI n) F la na li N (nI y) lv ch 0 0 0 (nI i) (nI y * (9 : Int32)) 0 = k60 (nI y) lv ch1 0 0 0 (nI i) (nI y * (9 : Int32)) := by
    refine ⟨ek_fo (fun j s => upd s (9 * y + j) 0) ch 9, ?_, ?_, ?_⟩
    · intro j hj
      rw [ek_fill (b := 9 * y) (v := 0) (C := ch) 9 (9 * y + j), if_pos (by omega)]
    · intro p hp
      rw [ek_fill (b := 9 * y) (v := 0) (C := ch) 9 p, if_neg (by omega)]
    · intro k60
      refine ek_for (fun n2 z (s : Nat → Int32) => f_X10_add_b34 N k60 (nI n) F la na li n2 (nI y) lv s 0 0 0 (nI i) (nI y * (9 : Int32)) z) (fun j s => upd s (9 * y + j) 0) (fun _ _ => True) 9 N (by omega) ?_ ch trivial _ ?_
      · intro n2 j s hj _
        refine ⟨?_, trivial⟩
        try simp only
        rw [f_X10_add_b34, if_neg (show ¬ (9 : Int32) ≤ _ from nI_ge (b := 9) hj (by omega)), nm_t, show nI y * (9 : Int32) + nI j = nI (9 * y + j) by rw [show ((9 : Int32)) = nI 9 from rfl, pk_mul, nI_add, Nat.mul_comm], ek_X10set s _ (by omega) (by omega), nI_1]
      · intro n2 _
        try simp only
        rw [f_X10_add_b34, if_pos (show (9 : Int32) ≤ nI 9 from nI_le (a := 9) (Nat.le_refl _) (by omega))]
  obtain ⟨ch1, hz1, hz2, hz3⟩ := hz
  obtain ⟨ch2, c1, c2, c3⟩ := ek_celX (L := 360) (b := 9 * y) (q := ch1) (la := la) (na := na) (li := li) (t := 0) (g := 0) (l := 0) (F := F) hN hn (by omega) (by omega) hi
  obtain ⟨wm', wt', g2, w2, hs2, A2, ys2, l1, l2, l3, l4⟩ := ek_leaves (L := 400) (b := 10 * y + 1) (q := ys) (g := g') (w := w') (hs := hs') (A := A) (c := c) (wm := wm) (wt := wt) (ho := ho) hN hD hT (by omega) (by omega) hi
  apply ek_mk2
  · unfold f_X11_year p_X5_copyTermsFrom p_X5_clear
    rw [if_neg d1]
    simp only [nm_t]
    unfold f_X10_add
    rw [if_neg (nI_pos (by omega)), if_pos (show nI y < 40 from nI_lt (b := 40) h40 (by omega)), nm_t, hz3]
    unfold f_X10_add_b60
    rw [show nI y * (9 : Int32) = nI (9 * y) by rw [show ((9 : Int32)) = nI 9 from rfl, pk_mul, Nat.mul_comm], gd_t (ek_inb (by omega) (by omega)), c1, bn_t, bn_t, nI_clamp (by omega), nI_1]
  · unfold f_X12_year
    rw [if_neg d2, if_neg (fun z => by have := (nI_eq (a := y) (b := 40) (by omega) (by omega)).mp z; omega), show (10 : Int32) * nI y = nI (10 * y) from pk_mul 10 y, nI_1, l1, bn_t, gd_t (ek_inb (by omega) (by omega)), nI_clamp (by omega), nI_1]
  · refine ⟨rfl, ⟨y + 1, by omega, rfl, rfl, ?_⟩, rfl, fun j hj => ?_⟩
    · intro q hq2
      try simp only
      by_cases e : q = y
      · subst e
        have eys : ∀ j, j < n → upd ys2 (10 * q) (nI i) (10 * q + 1 + j) = if j = i then 0 else ek_cg la na li F i j := by
          intro j hj
          rw [pk_un (by omega)]; exact l2 j hj
        refine ⟨i, hi, pk_us, pk_us, fun j hj => ?_⟩
        rw [c2 j hj, hz1 i (by omega), hz1 j (by omega), Int32.zero_add, Int32.zero_sub, ek_cesum (ys := fun p => upd ys2 (10 * q) (nI i) (10 * q + 1 + p)) (fun j hj => eys j hj)]
        by_cases z : j = i
        · rw [if_pos z, if_pos z]
        · rw [if_neg z, if_neg z, eys j hj, if_neg z]
      · obtain ⟨i', hi', q1, q2, q3⟩ := hq q (by omega)
        refine ⟨i', hi', ?_, ?_, fun j hj => ?_⟩
        · rw [pk_un e]; exact q1
        · rw [pk_un (by omega), l3 _ (by omega)]; exact q2
        · have hys : ∀ p, p < n → upd ys2 (10 * y) (nI i) (10 * q + 1 + p) = ys (10 * q + 1 + p) := by
            intro p hp
            rw [pk_un (by omega), l3 _ (by omega)]
          rw [c3 _ (by omega), hz2 _ (by omega), q3 j hj, ek_sext (f := fun p => upd ys2 (10 * y) (nI i) (10 * q + 1 + p)) (g := fun p => ys (10 * q + 1 + p)) hys, hys j hj]
    · obtain ⟨r1, r2, r3⟩ := l4 j hj
      obtain ⟨u1, u2, u3⟩ := he j hj
      exact ⟨r3.trans u1, r1.trans u2, r2.trans u3⟩
theorem ek_sfo {f : Nat → Int32} {x : Int32} : ∀ m, ek_fo (fun k s => s + f k) x m = x + ek_s f m := by
  intro m
  induction m with
  | zero => exact (Int32.add_zero x).symm
  | succ m ih => show ek_fo (fun k s => s + f k) x m + f m = x + (ek_s f m + f m); rw [ih, Int32.add_assoc]
theorem ek_sone {v : Int32} {i : Nat} : ∀ {m : Nat}, i < m → ek_s (fun k => if k = i then v else 0) m = v := by
  have low : ∀ m, m ≤ i → ek_s (fun k => if k = i then v else 0) m = 0 := by
    intro m
    induction m with
    | zero => intro _; rfl
    | succ m ih => intro h; show ek_s _ m + (if m = i then v else 0) = 0; rw [ih (by omega), if_neg (by omega)]; rfl
  intro m
  induction m with
  | zero => intro h; omega
  | succ m ih =>
    intro h
    show ek_s (fun k => if k = i then v else 0) m + (if m = i then v else 0) = v
    by_cases e : m = i
    · rw [if_pos e, low m (by omega), Int32.zero_add]
    · rw [if_neg e, ih (by omega), Int32.add_zero]
def ek_ba (ch : Nat → Int32) (y i : Nat) : Int32 := ek_s (fun q => ch (9 * q + i)) y
theorem ek_baX {N y i : Nat} {ch : Nat → Int32} (hN : 5000 ≤ N) (hy : y ≤ 40) (hi : i < 9) : f_X10_balanceOf N (nI y) ch (nI i) = some (ek_ba ch y i) := by
  unfold f_X10_balanceOf ek_ba
  refine ek_for (fun n2 z s => f_X10_balanceOf_b4 N (nI y) ch n2 (nI i) s z) (fun q s => s + ch (9 * q + i)) (fun _ _ => True) y N (by omega) ?_ 0 trivial _ ?_
  · intro n2 q s hq _
    refine ⟨?_, trivial⟩
    try simp only
    rw [f_X10_balanceOf_b4, if_neg (nI_ge hq (by omega)), nm_t, show nI q * (9 : Int32) + nI i = nI (9 * q + i) by rw [show ((9 : Int32)) = nI 9 from rfl, pk_mul, nI_add, Nat.mul_comm], ek_X10cell ch (by omega) (by omega), nI_1]
  · intro n2 _
    try simp only
    rw [f_X10_balanceOf_b4, if_pos (nI_le (Nat.le_refl _) (by omega)), ek_sfo, Int32.zero_add]
theorem ek_baM {N n y i : Nat} {lv ch ys : Nat → Int32} (hN : 5000 ≤ N) (hn : n ≤ 9) (hi : i < n) (hy : y ≤ 40) (hY : ∀ q, q < y → ∃ i, i < n ∧ lv q = nI i ∧ ys (10 * q) = nI i ∧ ∀ j, j < n → ch (9 * q + j) = if j = i then ek_s (fun p => ys (10 * q + 1 + p)) n else -ys (10 * q + 1 + j)) : f_X12_balanceOf N (nI n) (nI y) ys (nI i) = some (ek_ba ch y i) := by
  unfold f_X12_balanceOf ek_ba
  refine ek_for (fun n2 z s => f_X12_balanceOf_b4 N (nI n) (nI y) ys n2 (nI i) s z) (fun q s => s + ch (9 * q + i)) (fun _ _ => True) y N (by omega) ?_ 0 trivial _ ?_
  · intro n2 q s hq _
    refine ⟨?_, trivial⟩
    try simp only
    rw [f_X12_balanceOf_b4, if_neg (nI_ge hq (by omega))]
    obtain ⟨i', hi', -, q2, q3⟩ := hY q hq
    have hf : ek_s (fun k => if i' = i then ys (10 * q + 1 + k) else if k = i then -ys (10 * q + 1 + k) else 0) n = ch (9 * q + i) := by
      rw [q3 i hi]
      by_cases e : i' = i
      · rw [if_pos e.symm]
        exact ek_sext (fun j _ => by rw [if_pos e])
      · rw [if_neg (fun z => e z.symm), ek_sext (g := fun k => if k = i then -ys (10 * q + 1 + i) else 0), ek_sone hi]
        intro j _
        rw [if_neg e]
        by_cases z : j = i
        · rw [if_pos z, if_pos z, z]
        · rw [if_neg z, if_neg z]
    refine ek_for (fun n3 z t => f_X12_balanceOf_b15 N (f_X12_balanceOf_b88 N (f_X12_balanceOf_b4 N (nI n) (nI y) ys n2) (nI n) (nI y) ys) (nI n) (nI y) ys n3 (nI i) t (nI q) z) (fun k t => t + (if i' = i then ys (10 * q + 1 + k) else if k = i then -ys (10 * q + 1 + k) else 0)) (fun _ _ => True) n N (by omega) ?_ s trivial _ ?_
    · intro n3 k t hk _
      refine ⟨?_, trivial⟩
      try simp only
      rw [f_X12_balanceOf_b15, if_neg (nI_ge hk (by omega)), show (10 : Int32) * nI q = nI (10 * q) from pk_mul 10 q, gd_t (ek_inb (by omega) (by omega)), nI_clamp (by omega), q2, nI_1, nI_add, gd_t (ek_inb (by omega) (by omega)), gd_t (ek_inb (by omega) (by omega)), nI_clamp (by omega)]
      unfold f_X12_balanceOf_b80
      simp only [nm_t]
      rw [nI_1]
      by_cases e : i' = i
      · rw [if_pos (by rw [e]), if_pos e]
      · rw [if_neg (fun z => e ((nI_eq (by omega) (by omega)).mp z)), if_neg e]
        by_cases z : k = i
        · rw [if_pos (by rw [z]), if_pos z]
        · rw [if_neg (fun y => z ((nI_eq (by omega) (by omega)).mp y)), if_neg z]
    · intro n3 _
      try simp only
      rw [f_X12_balanceOf_b15, if_pos (nI_le (Nat.le_refl _) (by omega)), ek_sfo, hf]
      unfold f_X12_balanceOf_b88
      rw [nI_1]
  · intro n2 _
    try simp only
    rw [f_X12_balanceOf_b4, if_pos (nI_le (Nat.le_refl _) (by omega)), ek_sfo, Int32.zero_add]
theorem r_balance {N n : Nat} {lv ch ys : Nat → Int32} {ym ym' ak : Int32} (hN : 5000 ≤ N) (hn : n ≤ 9) (hY : ek_Y n ym lv ch ym' ys) (x : Int32) :
    ∃ o, f_X11_balance N (nI n) ym ch ak x = some o ∧ f_X12_balance N (nI n) ym' ys ak x = some o := by
  obtain ⟨y, hy, rfl, rfl, hq⟩ := hY
  unfold f_X11_balance f_X12_balance
  rcases ek_desk x hn with ⟨d1, d2, -⟩ | ⟨i, hi, rfl, d1, d2⟩
  · rw [if_pos d1, if_pos d2]; exact ⟨_, rfl, rfl⟩
  · rw [if_neg d1, if_neg d2, ek_baX hN hy (by omega), ek_baM hN hn hi hy hq, bn_t, bn_t]; exact ⟨_, rfl, rfl⟩
