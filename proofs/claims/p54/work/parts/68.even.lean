/-! even -/
theorem ek_within {N k z : Nat} {S C : Nat → Int32} {lo hi : Int32} (hN : 5000 ≤ N) (hk : k < 6) (hz : z ≤ 40) (a : S k = nI z) :
    ∃ b : Bool, f_X7_allWithin N 6 240 40 S C (nI k) lo hi = some (if b then 1 else 0) ∧ (b = true ↔ ∀ j, j < z → ¬ C (40 * k + j) < lo ∧ C (40 * k + j) ≤ hi) := by
  have key : ∀ d j n', d + j = z → d < n' → ∃ b : Bool, f_X7_allWithin_b3 N 6 240 40 S C n' (nI k) lo hi (nI j) = some (if b then 1 else 0) ∧ (b = true ↔ ∀ q, j ≤ q → q < z → ¬ C (40 * k + q) < lo ∧ C (40 * k + q) ≤ hi) := by
    intro d
    induction d with
    | zero =>
      intro j n' hj hn'
      obtain ⟨n2, rfl⟩ : ∃ q, n' = q + 1 := ⟨n' - 1, by omega⟩
      refine ⟨true, ?_, ?_⟩
      · rw [f_X7_allWithin_b3, ek_siz S hk (by decide), a, if_pos (nI_le (by omega) (by omega))]; rfl
      · exact ⟨fun _ q h1 h2 => by omega, fun _ => rfl⟩
    | succ d ih =>
      intro j n' hj hn'
      obtain ⟨n2, rfl⟩ : ∃ q, n' = q + 1 := ⟨n' - 1, by omega⟩
      rw [f_X7_allWithin_b3, ek_siz S hk (by decide), a, if_neg (nI_ge (by omega) (by omega)), show ((40 : Int32)) = nI 40 from rfl, ek_cell C a hk (show j < z by omega) hz rfl (by decide) (by decide) (by decide)]
      by_cases h1 : C (40 * k + j) < lo
      · rw [if_pos h1]
        exact ⟨false, rfl, fun q => absurd q (by decide), fun q => absurd h1 (q j (Nat.le_refl _) (by omega)).1⟩
      · rw [if_neg h1]
        by_cases h2 : C (40 * k + j) ≤ hi
        · rw [if_pos h2, nI_1]
          obtain ⟨b, e, hb⟩ := ih (j + 1) n2 (by omega) (by omega)
          refine ⟨b, e, ?_⟩
          rw [hb]
          constructor
          · intro h q q1 q2
            rcases Nat.lt_or_ge j q with y | y
            · exact h q (by omega) q2
            · have : q = j := by omega
              rw [this]; exact ⟨h1, h2⟩
          · intro h q q1 q2; exact h q (by omega) q2
        · rw [if_neg h2]
          exact ⟨false, rfl, fun q => absurd q (by decide), fun q => absurd (q j (Nat.le_refl _) (by omega)).2 h2⟩
  obtain ⟨b, e, hb⟩ := key z 0 N (by omega) (by omega)
  refine ⟨b, ?_, ?_⟩
  · unfold f_X7_allWithin; exact e
  · rw [hb]; exact ⟨fun h j hj => h j (by omega) hj, fun h j _ hj => h j hj⟩
/-- how far apart: the greatest less the least of the first n -/
def ek_ap (s : Nat → Int32) (n : Nat) : Int32 × Int32 := ek_fo (fun j (p : Int32 × Int32) => (if p.1 < s (j + 1) then s (j + 1) else p.1, if s (j + 1) < p.2 then s (j + 1) else p.2)) (s 0, s 0) (n - 1)
theorem ek_apext {s s' : Nat → Int32} {n : Nat} (hn : 0 < n) (h : ∀ j, j < n → s j = s' j) : ek_ap s n = ek_ap s' n := by
  unfold ek_ap
  rw [h 0 hn]
  apply ek_foext
  intro j hj p
  rw [h (j + 1) (by omega)]
/-- the balances behind the years of a row -/
def ek_ev (la na li : Int32) (F : Nat → Int32) (n : Nat) (L : Nat → Nat) : Nat → Nat → Int32
  | 0 => fun _ => 0
  | y + 1 => fun j => if j = L y then ek_ev la na li F n L y j + (ek_ce la na li F (L y) n).1 else ek_ev la na li F n L y j - ek_cg la na li F (L y) j
theorem ek_apX {N n k z : Nat} {F S C B : Nat → Int32} {la na li t g l : Int32} {L : Nat → Nat} (hN : 5000 ≤ N) (hn : n ≤ 9) (hn0 : 0 < n) (hk : k < 6) (hz : z ≤ 40) (a : S k = nI z) (hL : ∀ y, y < z → L y < n ∧ C (40 * k + y) = nI (L y)) :
    ∃ B' t' g' l', f_X10_apartAfter N 6 240 (nI n) F la na li 40 S C B t g l (nI k) = some ((ek_ap (ek_ev la na li F n L z) n).1 - (ek_ap (ek_ev la na li F n L z) n).2, B', t', g', l') := by
  unfold f_X10_apartAfter
  refine ek_forI (fun n2 x s => f_X10_apartAfter_b3 N 6 240 (f_X10_apartAfter_b27 N 6 240 (nI n) F la na li 40 S C) (nI n) F la na li 40 S C n2 s t g l (nI k) x) (fun m s => ∀ q, q < m → s q = 0) 9 N (by omega) ?_ B (fun q hq => absurd hq (by omega)) (fun o => ∃ B' t' g' l', o = some ((ek_ap (ek_ev la na li F n L z) n).1 - (ek_ap (ek_ev la na li F n L z) n).2, B', t', g', l')) ?_
  · intro n2 m s hm hs
    refine ⟨upd s m 0, ?_, ?_⟩
    · try simp only
      rw [f_X10_apartAfter_b3, if_neg (show ¬ (9 : Int32) ≤ _ from nI_ge (b := 9) hm (by omega)), gd_t (ek_inb hm (by omega)), nI_clamp (by omega), nI_1]
    · intro q hq
      by_cases e : q = m
      · rw [e, pk_us]
      · rw [pk_un e]; exact hs q (by omega)
  · intro n2 s hs
    try simp only
    rw [f_X10_apartAfter_b3, if_pos (show (9 : Int32) ≤ nI 9 from nI_le (a := 9) (Nat.le_refl _) (by omega))]
    unfold f_X10_apartAfter_b27
    refine ek_forI (fun n3 x (s : (Nat → Int32) × Int32 × Int32 × Int32) => f_X10_apartAfter_b30 N 6 240 (f_X10_apartAfter_b67 N 6 240 (nI n) F la na li 40 S C) (nI n) F la na li 40 S C n3 s.1 s.2.1 s.2.2.1 s.2.2.2 (nI k) x) (fun y s => ∀ j, j < n → s.1 j = ek_ev la na li F n L y j) z N (by omega) ?_ (s, t, g, l) (fun j hj => hs j (by omega)) (fun o => ∃ B' t' g' l', o = some ((ek_ap (ek_ev la na li F n L z) n).1 - (ek_ap (ek_ev la na li F n L z) n).2, B', t', g', l')) ?_
    · rintro n3 y ⟨s1, t1, g1, l1⟩ hy i1
      simp only at i1
      obtain ⟨h1, h2⟩ := hL y hy
      obtain ⟨q', c1, c2, c3⟩ := ek_celX (L := 9) (b := 0) (q := s1) (la := la) (na := na) (li := li) (t := t1) (g := g1) (l := l1) (F := F) hN hn (by omega) (by omega) h1
      refine ⟨(q', (ek_ce la na li F (L y) n).1, (ek_ce la na li F (L y) n).2.1, (ek_ce la na li F (L y) n).2.2), ?_, ?_⟩
      · try simp only
        rw [f_X10_apartAfter_b30, ek_siz S hk (by decide), a, if_neg (nI_ge hy (by omega)), show ((40 : Int32)) = nI 40 from rfl, ek_cell C a hk hy hz rfl (by decide) (by decide) (by decide), h2, show (0 : Int32) = nI 0 from rfl, c1, bn_t, nI_1]
      · intro j hj
        try simp only
        have := c2 j hj
        rw [Nat.zero_add, Nat.zero_add] at this
        rw [this]
        show _ = (if j = L y then _ else _)
        by_cases e : j = L y
        · rw [if_pos e, if_pos e, i1 (L y) h1, e]
        · rw [if_neg e, if_neg e, i1 j hj]
    · rintro n3 ⟨s1, t1, g1, l1⟩ i1
      simp only at i1
      try simp only
      rw [f_X10_apartAfter_b30, ek_siz S hk (by decide), a, if_pos (nI_le (Nat.le_refl _) (by omega))]
      unfold f_X10_apartAfter_b67
      simp only [nm_t]
      have e0 : p_X10_cell 9 s1 (0 : Int32) = s1 0 := ek_X10cell s1 (p := 0) (by omega) (by omega)
      rw [e0]
      rw [← ek_apext hn0 i1]
      have key : ∀ d m n4 (p : Int32 × Int32), d + m = n - 1 → d < n4 → ek_fo (fun j (p : Int32 × Int32) => (if p.1 < s1 (j + 1) then s1 (j + 1) else p.1, if s1 (j + 1) < p.2 then s1 (j + 1) else p.2)) (s1 0, s1 0) m = p → f_X10_apartAfter_b84 N 6 240 (nI n) F la na li 40 S C n4 s1 t1 g1 l1 p.1 p.2 (nI (m + 1)) = some ((ek_ap s1 n).1 - (ek_ap s1 n).2, s1, t1, g1, l1) := by
        intro d
        induction d with
        | zero =>
          intro m n4 p hm hn4 hp
          obtain ⟨n5, rfl⟩ : ∃ q, n4 = q + 1 := ⟨n4 - 1, by omega⟩
          rw [f_X10_apartAfter_b84, if_pos (nI_le (by omega) (by omega))]
          unfold ek_ap
          rw [show n - 1 = m by omega, hp]
        | succ d ih =>
          intro m n4 p hm hn4 hp
          obtain ⟨n5, rfl⟩ : ∃ q, n4 = q + 1 := ⟨n4 - 1, by omega⟩
          rw [f_X10_apartAfter_b84, if_neg (nI_ge (by omega) (by omega)), nm_t, nm_t, ek_X10cell s1 (p := m + 1) (by omega) (by omega), nI_1]
          exact ih (m + 1) n5 (if p.1 < s1 (m + 1) then s1 (m + 1) else p.1, if s1 (m + 1) < p.2 then s1 (m + 1) else p.2) (by omega) (by omega) (by rw [← hp]; rfl)
      have := key (n - 1) 0 N (s1 0, s1 0) (by omega) (by omega) rfl
      refine ⟨s1, t1, g1, l1, ?_⟩
      exact this
theorem ek_apM {N n k z : Nat} {F D S' C' g w hs A yg sm : Nat → Int32} {la na li ho c wm wt : Int32} {L : Nat → Nat} (hN : 5000 ≤ N) (hD : ek_D n F D) (hT : ek_T la na li) (hn0 : 0 < n) (hk : k < 6) (hz : z ≤ 40) (a : S' k = nI z) (hL : ∀ y, y < z → L y < n ∧ C' (40 * k + y) = nI (L y)) :
    ∃ wm' wt' g2 w2 hs2 A2 yg' sm', f_X12_apartBy N (nI n) la na li ho S' C' D c wm wt g w hs A yg sm (nI k) = some ((ek_ap (ek_ev la na li F n L z) n).1 - (ek_ap (ek_ev la na li F n L z) n).2, c, wm', wt', g2, w2, hs2, A2, yg', sm') ∧ ∀ j, j < 9 → g2 j = g j ∧ w2 j = w j ∧ hs2 j = hs j := by
  have hn := hD.1
  unfold f_X12_apartBy
  refine ek_forI (fun n2 x s => f_X12_apartBy_b2 N (f_X12_apartBy_b23 N (nI n) la na li ho S' C' D) (nI n) la na li ho S' C' D n2 c wm wt g w hs A yg s (nI k) x) (fun m s => ∀ q, q < m → s q = 0) n N (by omega) ?_ sm (fun q hq => absurd hq (by omega)) (fun o => ∃ wm' wt' g2 w2 hs2 A2 yg' sm', o = some ((ek_ap (ek_ev la na li F n L z) n).1 - (ek_ap (ek_ev la na li F n L z) n).2, c, wm', wt', g2, w2, hs2, A2, yg', sm') ∧ ∀ j, j < 9 → g2 j = g j ∧ w2 j = w j ∧ hs2 j = hs j) ?_
  · intro n2 m s hm hs2
    refine ⟨upd s m 0, ?_, ?_⟩
    · try simp only
      rw [f_X12_apartBy_b2, if_neg (nI_ge hm (by omega)), gd_t (ek_inb (by omega) (by omega)), nI_clamp (by omega), nI_1]
    · intro q hq
      by_cases e : q = m
      · rw [e, pk_us]
      · rw [pk_un e]; exact hs2 q (by omega)
  · intro n2 s hs0
    try simp only
    rw [f_X12_apartBy_b2, if_pos (nI_le (Nat.le_refl _) (by omega))]
    unfold f_X12_apartBy_b23
    refine ek_forI (fun n3 x (t : Int32 × Int32 × (Nat → Int32) × (Nat → Int32) × (Nat → Int32) × (Nat → Int32) × (Nat → Int32) × (Nat → Int32)) => f_X12_apartBy_b25 N (f_X12_apartBy_b107 N (nI n) la na li ho S' C' D) (nI n) la na li ho S' C' D n3 c t.1 t.2.1 t.2.2.1 t.2.2.2.1 t.2.2.2.2.1 t.2.2.2.2.2.1 t.2.2.2.2.2.2.1 t.2.2.2.2.2.2.2 (nI k) x) (fun y t => (∀ j, j < n → t.2.2.2.2.2.2.2 j = ek_ev la na li F n L y j) ∧ ∀ j, j < 9 → t.2.2.1 j = g j ∧ t.2.2.2.1 j = w j ∧ t.2.2.2.2.1 j = hs j) z N (by omega) ?_ (wm, wt, g, w, hs, A, yg, s) ⟨fun j hj => hs0 j hj, fun j _ => ⟨rfl, rfl, rfl⟩⟩ (fun o => ∃ wm' wt' g2 w2 hs2 A2 yg' sm', o = some ((ek_ap (ek_ev la na li F n L z) n).1 - (ek_ap (ek_ev la na li F n L z) n).2, c, wm', wt', g2, w2, hs2, A2, yg', sm') ∧ ∀ j, j < 9 → g2 j = g j ∧ w2 j = w j ∧ hs2 j = hs j) ?_
    · rintro n3 y ⟨t1, t2, gg, ww, hh, AA, yy, ss⟩ hy ⟨i1, i2⟩
      simp only at i1 i2
      obtain ⟨h1, h2⟩ := hL y hy
      obtain ⟨m1, m2, g2, w2, hs2, A2, q', l1, l2, l3, l4⟩ := ek_leaves (L := 9) (b := 0) (q := yy) (g := gg) (w := ww) (hs := hh) (A := AA) (c := c) (wm := t1) (wt := t2) (ho := ho) hN hD hT (by omega) (by omega) h1
      -- the sums of this year
      have hsum : ∃ ss', (∀ j, j < n → ss' j = ek_ev la na li F n L (y + 1) j) ∧ f_X12_apartBy_b57 N (f_X12_apartBy_b101 N (f_X12_apartBy_b25 N (f_X12_apartBy_b107 N (nI n) la na li ho S' C' D) (nI n) la na li ho S' C' D n3) (f_X12_apartBy_b107 N (nI n) la na li ho S' C' D) (nI n) la na li ho S' C' D) (nI n) la na li ho S' C' D N c m1 m2 g2 w2 hs2 A2 q' ss (nI k) (nI y) (nI (L y)) (ek_ce la na li F (L y) n).1 0 = f_X12_apartBy_b25 N (f_X12_apartBy_b107 N (nI n) la na li ho S' C' D) (nI n) la na li ho S' C' D n3 c m1 m2 g2 w2 hs2 A2 q' ss' (nI k) (nI (y + 1)) := by
        refine ek_forI (fun n4 x s4 => f_X12_apartBy_b57 N (f_X12_apartBy_b101 N (f_X12_apartBy_b25 N (f_X12_apartBy_b107 N (nI n) la na li ho S' C' D) (nI n) la na li ho S' C' D n3) (f_X12_apartBy_b107 N (nI n) la na li ho S' C' D) (nI n) la na li ho S' C' D) (nI n) la na li ho S' C' D n4 c m1 m2 g2 w2 hs2 A2 q' s4 (nI k) (nI y) (nI (L y)) (ek_ce la na li F (L y) n).1 x) (fun m s4 => ∀ j, j < n → s4 j = if j < m then ek_ev la na li F n L (y + 1) j else ek_ev la na li F n L y j) n N (by omega) ?_ ss (fun j hj => by rw [if_neg (by omega)]; exact i1 j hj) (fun o => ∃ ss', (∀ j, j < n → ss' j = ek_ev la na li F n L (y + 1) j) ∧ o = f_X12_apartBy_b25 N (f_X12_apartBy_b107 N (nI n) la na li ho S' C' D) (nI n) la na li ho S' C' D n3 c m1 m2 g2 w2 hs2 A2 q' ss' (nI k) (nI (y + 1))) ?_
        · intro n4 m s4 hm i4
          refine ⟨upd s4 m (s4 m + (if nI m = nI (L y) then (ek_ce la na li F (L y) n).1 else -(q' m))), ?_, ?_⟩
          · try simp only
            rw [f_X12_apartBy_b57, if_neg (nI_ge hm (by omega)), gd_t (ek_inb (by omega) (by omega)), nI_clamp (by omega)]
            unfold f_X12_apartBy_b93
            rw [gd_t (ek_inb (by omega) (by omega)), nI_clamp (by omega), nI_1]
          · intro j hj
            by_cases e : j = m
            · subst e
              rw [pk_us, if_pos (show j < j + 1 by omega), i4 j hj, if_neg (show ¬ j < j by omega)]
              show _ = (if j = L y then _ else _)
              have := l2 j hj
              rw [Nat.zero_add] at this
              by_cases e2 : j = L y
              · rw [if_pos (by rw [e2]), if_pos e2]
              · rw [if_neg (fun q => e2 ((nI_eq (by omega) (by omega)).mp q)), if_neg e2, this, if_neg e2, Int32.sub_eq_add_neg]
            · rw [pk_un e, i4 j hj]
              by_cases e2 : j < m
              · rw [if_pos e2, if_pos (by omega)]
              · rw [if_neg e2, if_neg (by omega)]
        · intro n4 s4 i4
          refine ⟨s4, fun j hj => by rw [i4 j hj, if_pos hj], ?_⟩
          try simp only
          rw [f_X12_apartBy_b57, if_pos (nI_le (Nat.le_refl _) (by omega))]
          unfold f_X12_apartBy_b101
          rw [nI_1]
      obtain ⟨ss', hs1, hs2'⟩ := hsum
      refine ⟨(m1, m2, g2, w2, hs2, A2, q', ss'), ?_, hs1, fun j hj => ?_⟩
      · try simp only
        rw [f_X12_apartBy_b25, gd_t (ek_inb hk (by omega)), nI_clamp (by omega), a, if_neg (nI_ge hy (by omega)), ek_rowAt hk (by omega), bn_t, h2, show f_X12_leaves N 9 (nI n) la na li ho D c t1 t2 gg ww hh AA yy (nI (L y)) 0 = _ from l1, bn_t]
        exact hs2'
      · obtain ⟨r1, r2, r3⟩ := l4 j hj
        obtain ⟨u1, u2, u3⟩ := i2 j hj
        exact ⟨r1.trans u1, r2.trans u2, r3.trans u3⟩
    · rintro n3 ⟨t1, t2, gg, ww, hh, AA, yy, ss⟩ ⟨i1, i2⟩
      simp only at i1 i2
      try simp only
      rw [f_X12_apartBy_b25, gd_t (ek_inb hk (by omega)), nI_clamp (by omega), a, if_pos (nI_le (Nat.le_refl _) (by omega))]
      unfold f_X12_apartBy_b107
      simp only [nm_t]
      rw [← ek_apext hn0 i1]
      have key : ∀ d m n4 (p : Int32 × Int32), d + m = n - 1 → d < n4 → ek_fo (fun j (p : Int32 × Int32) => (if p.1 < ss (j + 1) then ss (j + 1) else p.1, if ss (j + 1) < p.2 then ss (j + 1) else p.2)) (ss 0, ss 0) m = p → f_X12_apartBy_b124 N (nI n) la na li ho S' C' D n4 c t1 t2 gg ww hh AA yy ss p.1 p.2 (nI (m + 1)) = some ((ek_ap ss n).1 - (ek_ap ss n).2, c, t1, t2, gg, ww, hh, AA, yy, ss) := by
        intro d
        induction d with
        | zero =>
          intro m n4 p hm hn4 hp
          obtain ⟨n5, rfl⟩ : ∃ q, n4 = q + 1 := ⟨n4 - 1, by omega⟩
          rw [f_X12_apartBy_b124, if_pos (nI_le (by omega) (by omega))]
          unfold ek_ap
          rw [show n - 1 = m by omega, hp]
        | succ d ih =>
          intro m n4 p hm hn4 hp
          obtain ⟨n5, rfl⟩ : ∃ q, n4 = q + 1 := ⟨n4 - 1, by omega⟩
          rw [f_X12_apartBy_b124, if_neg (nI_ge (by omega) (by omega)), gd_t (ek_inb (by omega) (by omega)), nI_clamp (by omega)]
          unfold f_X12_apartBy_b155 f_X12_apartBy_b178
          rw [gd_t (ek_inb (by omega) (by omega)), nI_clamp (by omega), nI_1]
          have e1 : (if ss (m + 1) ≤ p.1 then p.1 else ss (m + 1)) = (if p.1 < ss (m + 1) then ss (m + 1) else p.1) := by
            by_cases q : ss (m + 1) ≤ p.1
            · rw [if_pos q, if_neg (Int32.not_lt.mpr q)]
            · rw [if_neg q, if_pos (Int32.not_le.mp q)]
          have e2 : (if p.2 ≤ ss (m + 1) then p.2 else ss (m + 1)) = (if ss (m + 1) < p.2 then ss (m + 1) else p.2) := by
            by_cases q : p.2 ≤ ss (m + 1)
            · rw [if_pos q, if_neg (Int32.not_lt.mpr q)]
            · rw [if_neg q, if_pos (Int32.not_le.mp q)]
          rw [e1, e2]
          exact ih (m + 1) n5 (if p.1 < ss (m + 1) then ss (m + 1) else p.1, if ss (m + 1) < p.2 then ss (m + 1) else p.2) (by omega) (by omega) (by rw [← hp]; rfl)
      have := key (n - 1) 0 N (ss 0, ss 0) (by omega) (by omega) rfl
      refine ⟨t1, t2, gg, ww, hh, AA, yy, ss, ?_, i2⟩
      exact this
theorem r_even {N n : Nat} {F D S C S' C' g w hs g' w' hs' Cn Cn' A B yg sm : Nat → Int32} {la na li ho c wm wt l l' ak b1 b2 b3 b4 b5 b6 : Int32} (hN : 5000 ≤ N) (hD : ek_D n F D) (hT : ek_T la na li) (he : ∀ i, i < 9 → hs' i = hs i ∧ g' i = g i ∧ w' i = w i) (hH : ek_H 6 40 S C S' C') (hF : ek_F l Cn l' Cn') (x : Int32) :
    ∃ o o', f_X11_even N 40 S C (nI n) F la na li l ak B b1 b2 b3 b4 b5 b6 Cn x = some o ∧ f_X12_even N (nI n) na li ho S' C' D l' ak la c wm wt Cn' g' w' hs' A yg sm x = some o' ∧ o.1 = o'.1 ∧ ek_F o.2.1 o.2.2.2.2.2.2.2.2.2.2 o'.2.1 o'.2.2.2.2.2.2.2.1 ∧ o.2.2.1 = o'.2.2.1 ∧ o'.2.2.2.1 = la ∧ o'.2.2.2.2.1 = c ∧ ∀ i, i < 9 → o'.2.2.2.2.2.2.2.2.2.2.1 i = hs i ∧ o'.2.2.2.2.2.2.2.2.1 i = g i ∧ o'.2.2.2.2.2.2.2.2.2.1 i = w i := by
  have hn := hD.1
  have three : (x < 0 ∨ nI 6 ≤ x) ∨ ∃ k, k < 6 ∧ x = nI k := by
    rcases ek_ix x 6 (by omega) with q | q | q
    · exact Or.inl (Or.inl q)
    · exact Or.inl (Or.inr q)
    · exact Or.inr q
  rcases three with q | ⟨k, hk, rfl⟩
  · apply ek_mk2
    · unfold f_X11_even; rw [if_pos (ek_nam0 q)]
    · unfold f_X12_even; rw [if_pos (show p_X12_isRow x = 0 by unfold p_X12_isRow; rw [show ((5 : Int32)) = nI 5 from rfl, ek_in0 (by decide) q])]
    · exact ⟨rfl, hF, rfl, rfl, rfl, he⟩
  have e1 : ¬ p_X7_names 6 (nI k) = 0 := by rw [ek_nam1 hk (by decide)]; decide
  have e2 : ¬ p_X12_isRow (nI k) = 0 := by unfold p_X12_isRow; rw [show ((5 : Int32)) = nI 5 from rfl, ek_in1 (by omega) (by decide)]; decide
  by_cases h0 : nI n = 0
  · apply ek_mk2
    · unfold f_X11_even; rw [if_neg e1, if_pos h0]
    · unfold f_X12_even; rw [if_neg e2, if_pos h0]
    · exact ⟨rfl, hF, rfl, rfl, rfl, he⟩
  have hn0 : 0 < n := by
    rcases Nat.eq_zero_or_pos n with q | q
    · exact absurd (by rw [q]; rfl) h0
    · exact q
  rcases hH k hk with ⟨a, b⟩ | ⟨z, hz, a, b, cc⟩
  · apply ek_mk2
    · unfold f_X11_even; rw [if_neg e1, if_neg h0, ek_missH (P := 40) (C := C) (S' := S') (C' := C') a hk (by omega), if_pos rfl, show ((1 : Int32)) = nI 1 from rfl, ek_ref (by decide) (by decide), nm_t]
    · unfold f_X12_even; rw [if_neg e2, if_neg h0, ek_askRow.2.1 k hk rfl b, bn_t, if_neg (by simp only; decide)]
    · exact ⟨rfl, ek_F_upd hF (by decide), rfl, rfl, rfl, he⟩
  have t1 : ¬ p_X7_isThere 6 S (nI k) = 0 := by rw [ek_thereH a (by omega) hk (by omega)]; decide
  by_cases h20 : nI z ≤ 20
  rotate_left
  · apply ek_mk2
    · unfold f_X11_even; rw [if_neg e1, if_neg h0, if_neg t1, ek_siz S hk (by decide), a, if_neg h20, show ((5 : Int32)) = nI 5 from rfl, ek_ref (by decide) (by decide), nm_t]
    · unfold f_X12_even; rw [if_neg e2, if_neg h0, ek_askRow.2.2 k z hk (by omega) rfl b, bn_t, if_pos (by simp only; decide), gd_t (ek_inb hk (by omega)), nI_clamp (by omega), b, if_neg h20]
      show bn (f_X12_meet N l' Cn' (nI 5)) _ = _
      rw [ek_meet (by decide)]; rfl
    · exact ⟨rfl, ek_F_upd hF (by decide), rfl, rfl, rfl, he⟩
  obtain ⟨bb, w1, w2⟩ := ek_within (C := C) (lo := 0) (hi := nI n - 1) hN hk hz a
  have hin : ∀ v : Int32, (¬ v < 0 ∧ v ≤ nI n - 1) ↔ ∃ i, i < n ∧ v = nI i := by
    intro v
    rw [show nI n - 1 = nI (n - 1) from pk_sub (b := 1) (by omega)]
    constructor
    · rintro ⟨p, q⟩
      obtain ⟨j, hj, rfl⟩ := nI_of p
      have := (nI_leI hj (by omega)).mp q
      exact ⟨j, by omega, rfl⟩
    · rintro ⟨i, hi, rfl⟩
      exact ⟨nI_pos (by omega), nI_le (by omega) (by omega)⟩
  have ex : f_X11_even N 40 S C (nI n) F la na li l ak B b1 b2 b3 b4 b5 b6 Cn (nI k) = if (if bb then (1 : Int32) else 0) = 0 then nm (p_X11_refuse l Cn (3 : Int32)) (fun z85_2 => some (z85_2.1, z85_2.2.1, ak, B, b1, b2, b3, b4, b5, b6, z85_2.2.2)) else f_X11_even_b107 N 40 S C (nI n) F la na li N l ak B la na li 0 0 0 Cn (nI k) 0 0 0 := by
    unfold f_X11_even p_X5_copyTermsFrom p_X5_clear; rw [if_neg e1, if_neg h0, if_neg t1, ek_siz S hk (by decide), a, if_pos h20, w1, bn_t]; simp only [nm_t]
  have em : f_X12_even N (nI n) na li ho S' C' D l' ak la c wm wt Cn' g' w' hs' A yg sm (nI k) = f_X12_even_b50 N (f_X12_even_b85 N (nI n) na li ho S' C' D) (nI n) na li ho S' C' D N l' ak la c wm wt Cn' g' w' hs' A yg sm (nI k) 0 := by
    unfold f_X12_even; rw [if_neg e2, if_neg h0, ek_askRow.2.2 k z hk (by omega) rfl b, bn_t, if_pos (by simp only; decide), gd_t (ek_inb hk (by omega)), nI_clamp (by omega), b, if_pos h20]
  -- the model looks at the row
  have key : ∀ d j n', d + j = z → d < n' → ((∀ q, j ≤ q → q < z → ∃ i, i < n ∧ C (40 * k + q) = nI i) ∧ f_X12_even_b50 N (f_X12_even_b85 N (nI n) na li ho S' C' D) (nI n) na li ho S' C' D n' l' ak la c wm wt Cn' g' w' hs' A yg sm (nI k) (nI j) = f_X12_even_b85 N (nI n) na li ho S' C' D l' ak la c wm wt Cn' g' w' hs' A yg sm (nI k)) ∨ (¬ (∀ q, j ≤ q → q < z → ∃ i, i < n ∧ C (40 * k + q) = nI i) ∧ f_X12_even_b50 N (f_X12_even_b85 N (nI n) na li ho S' C' D) (nI n) na li ho S' C' D n' l' ak la c wm wt Cn' g' w' hs' A yg sm (nI k) (nI j) = some (-3, nI 3, ak, la, c, wm, wt, upd Cn' 3 (Cn' 3 + 1), g', w', hs', A, yg, sm)) := by
    intro d
    induction d with
    | zero =>
      intro j n' hj hn'
      obtain ⟨n2, rfl⟩ : ∃ q, n' = q + 1 := ⟨n' - 1, by omega⟩
      left
      refine ⟨fun q q1 q2 => by omega, ?_⟩
      rw [f_X12_even_b50, gd_t (ek_inb hk (by omega)), nI_clamp (by omega), b, if_pos (nI_le (by omega) (by omega))]
    | succ d ih =>
      intro j n' hj hn'
      obtain ⟨n2, rfl⟩ : ∃ q, n' = q + 1 := ⟨n' - 1, by omega⟩
      rw [f_X12_even_b50, gd_t (ek_inb hk (by omega)), nI_clamp (by omega), b, if_neg (nI_ge (by omega) (by omega)), ek_rowAt hk (by omega), bn_t, ← cc j (by omega)]
      rcases ek_desk (C (40 * k + j)) hn with ⟨-, d2, d3⟩ | ⟨i, hi, ei, -, d2⟩
      · right
        rw [if_pos d2]
        refine ⟨?_, ?_⟩
        · intro h
          obtain ⟨i, hi, ei⟩ := h j (Nat.le_refl _) (by omega)
          rcases d3 with q | q
          · rw [ei] at q; exact nI_pos (by omega) q
          · rw [ei] at q; exact nI_ge hi (by omega) q
        · show bn (f_X12_meet N l' Cn' (nI 3)) _ = _
          rw [ek_meet (by decide)]; rfl
      · rw [if_neg d2, nI_1]
        rcases ih (j + 1) n2 (by omega) (by omega) with ⟨h, e⟩ | ⟨h, e⟩
        · left
          refine ⟨?_, e⟩
          intro q q1 q2
          rcases Nat.lt_or_ge j q with y | y
          · exact h q (by omega) q2
          · have : q = j := by omega
            rw [this]; exact ⟨i, hi, ei⟩
        · right
          exact ⟨fun h2 => h (fun q q1 q2 => h2 q (by omega) q2), e⟩
  have em2 := key z 0 N (by omega) (by omega)
  have hall : bb = true ↔ ∀ q, 0 ≤ q → q < z → ∃ i, i < n ∧ C (40 * k + q) = nI i := by
    rw [w2]
    exact ⟨fun h q _ hq => (hin _).mp (h q hq), fun h j hj => (hin _).mpr (h j (by omega) hj)⟩
  cases hbb : bb
  · have em3 : f_X12_even N (nI n) na li ho S' C' D l' ak la c wm wt Cn' g' w' hs' A yg sm (nI k) = some (-3, nI 3, ak, la, c, wm, wt, upd Cn' 3 (Cn' 3 + 1), g', w', hs', A, yg, sm) := by
      rcases em2 with ⟨h, -⟩ | ⟨-, e⟩
      · exact absurd (hall.mpr h) (by rw [hbb]; decide)
      · exact em.trans e
    rw [ex, em3, hbb]
    apply ek_mk2
    · rw [if_pos (by rfl)]
      show nm (p_X11_refuse l Cn (nI 3)) _ = _
      rw [ek_ref (by decide) (by decide)]; rfl
    · rfl
    · exact ⟨rfl, ek_F_upd hF (by decide), rfl, rfl, rfl, he⟩
  · have hA := hall.mp hbb
    have em3 : f_X12_even N (nI n) na li ho S' C' D l' ak la c wm wt Cn' g' w' hs' A yg sm (nI k) = f_X12_even_b85 N (nI n) na li ho S' C' D l' ak la c wm wt Cn' g' w' hs' A yg sm (nI k) := by
      rcases em2 with ⟨-, e⟩ | ⟨h, -⟩
      · exact em.trans e
      · exact absurd hA h
    rw [ex, em3, hbb, if_neg (by decide)]
    -- the leavers
    have hLx : ∃ L : Nat → Nat, ∀ y, y < z → L y < n ∧ C (40 * k + y) = nI (L y) := by
      refine ⟨fun y => (C (40 * k + y)).toNatClampNeg, fun y hy => ?_⟩
      obtain ⟨i, hi, ei⟩ := hA y (by omega) hy
      try simp only
      rw [ei, nI_clamp (by omega)]
      exact ⟨hi, rfl⟩
    obtain ⟨L, hLx⟩ := hLx
    have hLm : ∀ y, y < z → L y < n ∧ C' (40 * k + y) = nI (L y) := fun y hy => ⟨(hLx y hy).1, by rw [← cc y hy]; exact (hLx y hy).2⟩
    unfold f_X12_even_b85
    refine ek_for2 (fun n2 v (s : (Nat → Int32) × (Int32 × Int32 × Int32 × Int32) × Int32 × Int32) => f_X11_even_b107 N 40 S C (nI n) F la na li n2 l ak s.1 s.2.1.1 na li s.2.1.2.1 s.2.1.2.2.1 s.2.1.2.2.2 Cn (nI k) s.2.2.1 s.2.2.2 v) (fun n2 v (t : Int32 × Int32 × Int32 × (Nat → Int32) × (Nat → Int32) × (Nat → Int32) × (Nat → Int32) × (Nat → Int32) × (Nat → Int32) × Int32 × Int32) => f_X12_even_b99 N (nI n) na li ho S' C' D n2 l' ak t.1 c t.2.1 t.2.2.1 Cn' t.2.2.2.1 t.2.2.2.2.1 t.2.2.2.2.2.1 t.2.2.2.2.2.2.1 t.2.2.2.2.2.2.2.1 t.2.2.2.2.2.2.2.2.1 (nI k) la t.2.2.2.2.2.2.2.2.2.1 t.2.2.2.2.2.2.2.2.2.2 v) (fun _ s t => s.2.2.1 = t.2.2.2.2.2.2.2.2.2.1 ∧ s.2.2.2 = t.2.2.2.2.2.2.2.2.2.2 ∧ ∀ i, i < 9 → t.2.2.2.2.2.1 i = hs i ∧ t.2.2.2.1 i = g i ∧ t.2.2.2.2.1 i = w i) 3 N (by omega) ?_ (B, (la, 0, 0, 0), 0, 0) (la, wm, wt, g', w', hs', A, yg, sm, 0, 0) ⟨rfl, rfl, he⟩ (fun p q => ∃ o o', p = some o ∧ q = some o' ∧ o.1 = o'.1 ∧ ek_F o.2.1 o.2.2.2.2.2.2.2.2.2.2 o'.2.1 o'.2.2.2.2.2.2.2.1 ∧ o.2.2.1 = o'.2.2.1 ∧ o'.2.2.2.1 = la ∧ o'.2.2.2.2.1 = c ∧ ∀ i, i < 9 → o'.2.2.2.2.2.2.2.2.2.2.1 i = hs i ∧ o'.2.2.2.2.2.2.2.2.1 i = g i ∧ o'.2.2.2.2.2.2.2.2.2.1 i = w i) ?_
    · rintro n2 v ⟨s1, ⟨c1, c2, c3, c4⟩, s2, s3⟩ ⟨u1, u2, u3, gg, ww, hh, AA, yy, mm, u4, u5⟩ hv ⟨i1, i2, i3⟩
      simp only at i1 i2 i3
      subst i1 i2
      have hT' : ek_T (nI v) na li := by
        refine ⟨?_, hT.2⟩
        have : v = 0 ∨ v = 1 ∨ v = 2 := by omega
        rcases this with rfl | rfl | rfl
        · exact Or.inl rfl
        · exact Or.inr (Or.inl rfl)
        · exact Or.inr (Or.inr rfl)
      obtain ⟨B', p1, p2, p3, ea⟩ := ek_apX (la := nI v) (na := na) (li := li) (F := F) (B := s1) (t := c2) (g := c3) (l := c4) hN hn hn0 hk hz a hLx
      obtain ⟨q1, q2, g2, w2', hs2, A2, yg', sm', eb, ec⟩ := ek_apM (la := nI v) (na := na) (li := li) (F := F) (D := D) (c := c) (ho := ho) (wm := u2) (wt := u3) (g := gg) (w := ww) (hs := hh) (A := AA) (yg := yy) (sm := mm) hN hD hT' hn0 hk hz b hLm
      have hbest : ∀ ap : Int32, ∃ x2 x3, (∀ (f : Int32 → Int32 → Option (Int32 × Int32 × Int32 × (Nat → Int32) × Int32 × Int32 × Int32 × Int32 × Int32 × Int32 × (Nat → Int32))), (if nI v = 0 then f (nI v) ap else if s3 ≤ ap then f s2 s3 else f (nI v) ap) = f x2 x3) ∧ (if nI v = 0 then nI v else if s3 ≤ ap then s2 else nI v) = x2 ∧ (if nI v = 0 then ap else if s3 ≤ ap then s3 else ap) = x3 := by
        intro ap
        by_cases y : nI v = 0
        · exact ⟨nI v, ap, fun f => by rw [if_pos y], by rw [if_pos y], by rw [if_pos y]⟩
        · by_cases y2 : s3 ≤ ap
          · exact ⟨s2, s3, fun f => by rw [if_neg y, if_pos y2], by rw [if_neg y, if_pos y2], by rw [if_neg y, if_pos y2]⟩
          · exact ⟨nI v, ap, fun f => by rw [if_neg y, if_neg y2], by rw [if_neg y, if_neg y2], by rw [if_neg y, if_neg y2]⟩
      obtain ⟨x2, x3, y1, y2, y3⟩ := hbest ((ek_ap (ek_ev (nI v) na li F n L z) n).1 - (ek_ap (ek_ev (nI v) na li F n L z) n).2)
      refine ⟨(B', (nI v, p1, p2, p3), x2, x3), (nI v, q1, q2, g2, w2', hs2, A2, yg', sm', x2, x3), ?_, ?_, rfl, rfl, fun i hi => ?_⟩
      · try simp only
        rw [f_X11_even_b107, if_neg (show ¬ (3 : Int32) ≤ nI v from nI_ge (b := 3) hv (by omega)), ea, bn_t]
        unfold f_X11_even_b155 f_X11_even_b161
        rw [nI_1]
        exact y1 (fun x2 x3 => f_X11_even_b107 N 40 S C (nI n) F la na li n2 l ak B' (nI v) na li p1 p2 p3 Cn (nI k) x2 x3 (nI (v + 1)))
      · try simp only
        rw [f_X12_even_b99, if_neg (show ¬ (3 : Int32) ≤ nI v from nI_ge (b := 3) hv (by omega)), eb, bn_t]
        unfold f_X12_even_b137 f_X12_even_b158
        try simp only
        rw [y2, y3, nI_1]
      · obtain ⟨r1, r2, r3⟩ := ec i hi
        obtain ⟨v1, v2, v3⟩ := i3 i hi
        exact ⟨r3.trans v1, r1.trans v2, r2.trans v3⟩
    · rintro n2 ⟨s1, ⟨c1, c2, c3, c4⟩, s2, s3⟩ ⟨u1, u2, u3, gg, ww, hh, AA, yy, mm, u4, u5⟩ ⟨i1, i2, i3⟩
      simp only at i1 i2 i3
      subst i1 i2
      try simp only
      apply ek_mk2
      · rw [f_X11_even_b107, if_pos (show (3 : Int32) ≤ nI 3 from nI_le (a := 3) (Nat.le_refl _) (by omega)), nm_t]
      · rw [f_X12_even_b99, if_pos (show (3 : Int32) ≤ nI 3 from nI_le (a := 3) (Nat.le_refl _) (by omega)), nm_t]
      · exact ⟨rfl, hF, rfl, rfl, rfl, i3⟩
