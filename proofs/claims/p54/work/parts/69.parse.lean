/-! an office is read out of a text -/
theorem ek_figs {kd : Nat} (h : kd < 6) : p_X1_figuresOf (nI kd) = nI (if kd = 2 then 4 else if kd = 3 then 5 else 3) := by
  have : kd = 0 ∨ kd = 1 ∨ kd = 2 ∨ kd = 3 ∨ kd = 4 ∨ kd = 5 := by omega
  rcases this with rfl | rfl | rfl | rfl | rfl | rfl <;> rfl
theorem ek_sub48 (v : Int32) : (v - 48).toInt = if v.toInt < -2147483600 then v.toInt - 48 + 4294967296 else v.toInt - 48 := by
  rw [Int32.toInt_sub, show (48 : Int32).toInt = 48 from by decide]
  have h1 := Int32.le_toInt v
  have h2 := Int32.toInt_lt v
  split
  · rw [Int.bmod_def]; omega
  · exact Int.bmod_eq_of_le (by omega) (by omega)
theorem ek_fig {v : Int32} {lo : Nat} (hlo : lo ≤ 9) : (p_X12_in v (48 + nI lo) 57 = 0 ∧ (v - 48 < nI lo ∨ (¬ v - 48 < nI lo ∧ ¬ v - 48 ≤ 9))) ∨ (¬ p_X12_in v (48 + nI lo) 57 = 0 ∧ ¬ v - 48 < nI lo ∧ v - 48 ≤ 9 ∧ ∃ t, lo ≤ t ∧ t ≤ 9 ∧ v - 48 = nI t) := by
  have e := ek_sub48 v
  have h1 := Int32.le_toInt v
  have h2 := Int32.toInt_lt v
  have el := nI_toInt (n := lo) (by omega)
  have e48 : (48 + nI lo : Int32).toInt = 48 + lo := by
    rw [show (48 : Int32) + nI lo = nI (48 + lo) from nI_add 48 lo, nI_toInt (by omega)]; omega
  have e57 : (57 : Int32).toInt = 57 := by decide
  have e9 : (9 : Int32).toInt = 9 := by decide
  unfold p_X12_in
  by_cases a : v.toInt < 48 + lo
  · left
    refine ⟨by rw [if_pos (Int32.lt_iff_toInt_lt.mpr (by rw [e48]; exact a))], ?_⟩
    by_cases b : v.toInt < -2147483600
    · right
      rw [if_pos b] at e
      refine ⟨?_, ?_⟩
      · rw [Int32.lt_iff_toInt_lt, e, el]; omega
      · rw [Int32.le_iff_toInt_le, e, e9]; omega
    · left
      rw [if_neg b] at e
      rw [Int32.lt_iff_toInt_lt, e, el]; omega
  · rw [if_neg (by omega)] at e
    by_cases b : 57 < v.toInt
    · left
      refine ⟨?_, Or.inr ⟨?_, ?_⟩⟩
      · rw [if_neg (fun q => a (by have := Int32.lt_iff_toInt_lt.mp q; rw [e48] at this; exact this)), if_pos (Int32.lt_iff_toInt_lt.mpr (by rw [e57]; exact b))]
      · rw [Int32.lt_iff_toInt_lt, e, el]; omega
      · rw [Int32.le_iff_toInt_le, e, e9]; omega
    · right
      refine ⟨?_, ?_, ?_, (v.toInt - 48).toNat, by omega, by omega, ?_⟩
      · rw [if_neg (fun q => a (by have := Int32.lt_iff_toInt_lt.mp q; rw [e48] at this; exact this)), if_neg (fun q => b (by have := Int32.lt_iff_toInt_lt.mp q; rw [e57] at this; exact this))]; decide
      · rw [Int32.lt_iff_toInt_lt, e, el]; omega
      · rw [Int32.le_iff_toInt_le, e, e9]; omega
      · apply Int32.toInt_inj.mp
        rw [e, nI_toInt (by omega)]; omega
theorem ek_setF {m v : Nat} (F : Nat → Int32) (x : Int32) (hm : m < 9) (hv : v < 6) : p_X1_setFact F (nI m) (nI v) x = upd F (6 * m + v) x := by
  unfold p_X1_setFact
  rw [nm_t, show ((6 : Int32)) = nI 6 from rfl, pk_mul, nI_add, if_neg (nI_pos (by omega)), if_neg (show ¬ (54 : Int32) ≤ _ from nI_ge (b := 54) (by omega) (by omega)), nI_clamp (by omega), Nat.mul_comm]
theorem ek_here {N k z p : Nat} {S' C' : Nat → Int32} (hk : k < 4) (b : S' k = nI z) (hz : z ≤ 100) (hp : p ≤ 1000) : f_X12_here N (nI p) S' C' (nI k) = some (if z ≤ p then -9 else C' (100 * k + p)) := by
  unfold f_X12_here
  rw [gd_t (ek_inb hk (by omega)), nI_clamp (by omega), b]
  by_cases h : z ≤ p
  · rw [if_pos (nI_le h (by omega)), if_pos h]
  · rw [if_neg (nI_ge (by omega) (by omega)), if_neg h, show (100 : Int32) * nI k = nI (100 * k) from pk_mul 100 k, nI_add, gd_t (ek_inb (by omega) (by omega)), nI_clamp (by omega)]
/-- what both have read so far -/
def ek_rd (m : Nat) (F D D0 : Nat → Int32) : Prop := (∀ j v, j < m → v < 6 → F (6 * j + v) = D (54 + 6 * j + v)) ∧ (∀ j, j < m → ek_wf (ek_ds F j)) ∧ ∀ p, p < 54 → D p = D0 p
theorem ek_rdset {m v : Nat} {F D D0 : Nat → Int32} {x : Int32} (h : ek_rd m F D D0) (hv : v < 6) : ek_rd m (upd F (6 * m + v) x) (upd D (54 + 6 * m + v) x) D0 := by
  refine ⟨?_, ?_, ?_⟩
  · intro j w hj hw
    rw [pk_un (by omega), pk_un (by omega)]; exact h.1 j w hj hw
  · intro j hj
    have e : ek_ds (upd F (6 * m + v) x) j 0 = ek_ds F j 0 ∧ ek_ds (upd F (6 * m + v) x) j 1 = ek_ds F j 1 ∧ ek_ds (upd F (6 * m + v) x) j 2 = ek_ds F j 2 ∧ ek_ds (upd F (6 * m + v) x) j 3 = ek_ds F j 3 ∧ ek_ds (upd F (6 * m + v) x) j 4 = ek_ds F j 4 := by
      unfold ek_ds
      refine ⟨pk_un (by omega), pk_un (by omega), pk_un (by omega), pk_un (by omega), pk_un (by omega)⟩
    have := h.2.1 j hj
    unfold ek_wf at this ⊢
    rw [e.1, e.2.1, e.2.2.1, e.2.2.2.1, e.2.2.2.2]; exact this
  · intro p hp
    rw [pk_un (by omega)]; exact h.2.2 p hp
theorem ek_fgs {N k z m p kd : Nat} {S C S' C' D0 : Nat → Int32} (hk : k < 4) (hz : z ≤ 100) (a : S k = nI z) (b : S' k = nI z) (cc : ∀ i, i < z → C (100 * k + i) = C' (100 * k + i)) (hm : m < 9) (hkd : kd < 6) {fg : Nat} (hfg : fg = if kd = 2 then 4 else if kd = 3 then 5 else 3) :
    ∀ (d w : Nat) (F D : Nat → Int32) (bf : Int32) (n1 n2 : Nat), d + w = fg + 1 → 1 ≤ w → p + w ≤ z → d < n1 → d < n2 → ek_rd m F D D0 → (∀ v, v < 6 → (v < w ∨ 4 ≤ v) → F (6 * m + v) = D (54 + 6 * m + v)) → F (6 * m) = nI kd → (∀ v, 1 ≤ v → v < w → ∃ t, t ≤ 9 ∧ F (6 * m + v) = nI t) → (4 < w → kd = 2 → ∃ t, 1 ≤ t ∧ t ≤ 9 ∧ F (6 * m + 4) = nI t) → (w = 5 → bf = F (6 * m + 4)) →
      (∃ r F' D', f_X1_readDesk_b39 N 4 400 (nI 100) S C n1 (nI m) F (nI k) (nI p) (nI kd) bf (nI w) = some (nI r, nI m, F') ∧ f_X12_readsDesk_b98 N S' C' n2 (nI (p + w)) (nI m) D (nI k) (nI kd) (nI (54 + 6 * m)) (nI fg) (nI w) = some (0, nI r, nI m, D') ∧ r < 1000 ∧ ek_rd m F' D' D0) ∨
      (∃ F' D', f_X1_readDesk_b39 N 4 400 (nI 100) S C n1 (nI m) F (nI k) (nI p) (nI kd) bf (nI w) = some (-9, nI (m + 1), F') ∧ f_X12_readsDesk_b98 N S' C' n2 (nI (p + w)) (nI m) D (nI k) (nI kd) (nI (54 + 6 * m)) (nI fg) (nI w) = some (1, nI (p + fg + 1), nI (m + 1), D') ∧ p + fg < z ∧ ek_rd (m + 1) F' D' D0) := by
  intro d
  have hfg5 : 3 ≤ fg ∧ fg ≤ 5 ∧ (fg = 4 → kd = 2) ∧ (fg = 5 → kd = 3) ∧ (kd = 2 → fg = 4) ∧ (kd = 3 → fg = 5) := by
    rw [hfg]; split <;> (try split) <;> omega
  induction d with
  | zero =>
    intro w F D bf n1 n2 hd hw1 hpw h1 h2 hrd heq hF0 hfs hh hbf
    obtain ⟨n1, rfl⟩ : ∃ q, n1 = q + 1 := ⟨n1 - 1, by omega⟩
    obtain ⟨n2, rfl⟩ : ∃ q, n2 = q + 1 := ⟨n2 - 1, by omega⟩
    right
    refine ⟨F, D, ?_, ?_, by omega, ?_⟩
    · rw [f_X1_readDesk_b39, ek_figs hkd, ← hfg, if_pos (nI_lt (by omega) (by omega)), nI_1]
    · rw [f_X12_readsDesk_b98, if_pos (nI_lt (by omega) (by omega)), nI_1, show p + w = p + fg + 1 by omega]
    · refine ⟨?_, ?_, hrd.2.2⟩
      · intro j v hj hv
        rcases Nat.lt_or_ge j m with y | y
        · exact hrd.1 j v y hv
        · have : j = m := by omega
          subst this
          exact heq v hv (by omega)
      · intro j hj
        rcases Nat.lt_or_ge j m with y | y
        · exact hrd.2.1 j y
        · have : j = m := by omega
          subst this
          refine ⟨⟨kd, hkd, hF0⟩, hfs 1 (by omega) (by omega), hfs 2 (by omega) (by omega), hfs 3 (by omega) (by omega), ?_⟩
          intro q
          have q2 : nI kd = 2 := hF0.symm.trans q
          have : kd = 2 := (nI_eq (a := kd) (b := 2) (by omega) (by omega)).mp q2
          exact hh (by have := hfg5.2.2.2.2.1 this; omega) this
  | succ d ih =>
    intro w F D bf n1 n2 hd hw1 hpw h1 h2 hrd heq hF0 hfs hh hbf
    obtain ⟨n1, rfl⟩ : ∃ q, n1 = q + 1 := ⟨n1 - 1, by omega⟩
    obtain ⟨n2, rfl⟩ : ∃ q, n2 = q + 1 := ⟨n2 - 1, by omega⟩
    have hw5 : w ≤ 5 := by omega
    -- the least figure
    have hlow : ∃ lo, lo ≤ 9 ∧ p_X1_leastFigure (nI kd) (nI w) bf = nI lo ∧ (kd = 2 → w = 4 → lo = 1) ∧ f_X12_readsDesk_b98 N S' C' (n2 + 1) (nI (p + w)) (nI m) D (nI k) (nI kd) (nI (54 + 6 * m)) (nI fg) (nI w) = f_X12_readsDesk_b138 N (f_X12_readsDesk_b98 N S' C' n2) S' C' (nI (p + w)) (nI m) D (nI k) (nI kd) (nI (54 + 6 * m)) (nI fg) (nI w) (nI lo) := by
      rw [f_X12_readsDesk_b98, if_neg (nI_nlt (by omega) (by omega))]
      unfold p_X1_leastFigure p_X1_leastFigure_b12 f_X12_readsDesk_b120
      by_cases w4 : w = 4
      · subst w4
        rw [if_pos (show nI 4 = 4 from rfl), if_pos (show nI 4 = 4 from rfl)]
        by_cases k2 : kd = 2
        · subst k2
          refine ⟨1, by omega, by rw [if_pos (show nI 2 = 2 from rfl)]; rfl, fun _ _ => rfl, ?_⟩
          rw [if_pos (show nI 2 = 2 from rfl)]; rfl
        · have n2' : ¬ nI kd = 2 := fun q => k2 ((nI_eq (a := kd) (b := 2) (by omega) (by omega)).mp q)
          refine ⟨0, by omega, by rw [if_neg n2', if_neg (by decide)]; rfl, fun q => absurd q k2, ?_⟩
          rw [if_neg n2', if_neg (by decide)]; rfl
      · have n4 : ¬ nI w = 4 := fun q => w4 ((nI_eq (a := w) (b := 4) (by omega) (by omega)).mp q)
        rw [if_neg n4, if_neg n4]
        by_cases w5 : w = 5
        · subst w5
          obtain ⟨t, ht, et⟩ := hfs 4 (by omega) (by omega)
          refine ⟨t, ht, ?_, fun _ q => by omega, ?_⟩
          · rw [if_pos (show nI 5 = 5 from rfl), hbf rfl, et]; split <;> rfl
          · rw [if_pos (show nI 5 = 5 from rfl), show nI (54 + 6 * m) + 4 = nI (54 + 6 * m + 4) from nI_add _ 4, gd_t (ek_inb (by omega) (by omega)), nI_clamp (by omega), ← heq 4 (by omega) (by omega), et]
        · have n5 : ¬ nI w = 5 := fun q => w5 ((nI_eq (a := w) (b := 5) (by omega) (by omega)).mp q)
          refine ⟨0, by omega, ?_, fun _ q => absurd q w4, ?_⟩
          · rw [if_neg n5]; split <;> rfl
          · rw [if_neg n5]; rfl
    obtain ⟨lo, hlo, el, hlo1, em⟩ := hlow
    rw [em, f_X1_readDesk_b39, ek_figs hkd, ← hfg, if_neg (nI_nlt (by omega) (by omega)), nI_add]
    unfold f_X12_readsDesk_b138
    rw [ek_here hk b hz (by omega), bn_t]
    by_cases hin : p + w < z
    rotate_left
    · left
      refine ⟨z, F, D, ?_, ?_, by omega, hrd⟩
      · rw [ek_pl0 a hk (by omega) (Or.inr (nI_le (by omega) (by omega))), if_pos rfl, ek_siz S hk (by omega), a]
      · rw [if_pos (by omega : z ≤ p + w), if_pos (show p_X12_in (-9) (48 + nI lo) 57 = 0 by
          have : lo = 0 ∨ lo = 1 ∨ lo = 2 ∨ lo = 3 ∨ lo = 4 ∨ lo = 5 ∨ lo = 6 ∨ lo = 7 ∨ lo = 8 ∨ lo = 9 := by omega
          rcases this with rfl | rfl | rfl | rfl | rfl | rfl | rfl | rfl | rfl | rfl <;> decide), show p + w = z by omega]
    · rw [if_neg (by omega : ¬ z ≤ p + w), ek_pl1 a hk (by omega) hin (by omega), if_neg (by decide), ek_cell C a hk hin hz rfl (by decide) (by decide) (by decide), el, nm_t, ← cc _ hin]
      rcases ek_fig (v := C (100 * k + (p + w))) hlo with ⟨f1, f2⟩ | ⟨f1, f2, f3, t, ht1, ht2, et⟩
      · left
        refine ⟨p + w, F, D, ?_, ?_, by omega, hrd⟩
        · rcases f2 with q | ⟨q1, q2⟩
          · rw [if_pos q]
          · rw [if_neg q1, if_neg q2]
        · rw [if_pos f1]
      · rw [if_neg f2, if_pos f3, if_neg f1, bn_t, et, nm_t, ek_setF F _ hm (by omega), nI_add, gd_t (ek_inb (by omega) (by omega)), nI_clamp (by omega), nI_1, nI_1]
        have e1 : 54 + 6 * m + w = 54 + 6 * m + w := rfl
        refine ih (w + 1) (upd F (6 * m + w) (nI t)) (upd D (54 + 6 * m + w) (nI t)) (nI t) n1 n2 (by omega) (by omega) (by omega) (by omega) (by omega) (ek_rdset hrd (by omega)) ?_ ?_ ?_ ?_ ?_
        · intro v hv hv2
          by_cases y : v = w
          · subst y; rw [pk_us, pk_us]
          · rw [pk_un (by omega), pk_un (by omega)]; exact heq v hv (by omega)
        · rw [pk_un (by omega)]; exact hF0
        · intro v hv1 hv2
          by_cases y : v = w
          · subst y; exact ⟨t, ht2, pk_us⟩
          · rw [pk_un (by omega)]; exact hfs v hv1 (by omega)
        · intro hv k2
          by_cases y : w = 4
          · subst y; exact ⟨t, by have := hlo1 k2 rfl; omega, ht2, pk_us⟩
          · rw [pk_un (by omega)]; exact hh (by omega) k2
        · intro hv
          have : w = 4 := by omega
          subst this
          exact pk_us.symm
theorem ek_kindOf {N : Nat} (v : Int32) (hN : 5000 ≤ N) : f_X1_kindOf N v = some (p_X12_kindOf v) ∧ (p_X12_kindOf v = -9 ∨ ∃ kd, kd < 6 ∧ p_X12_kindOf v = nI kd) := by
  obtain ⟨M, rfl⟩ : ∃ M, N = M + 7 := ⟨N - 7, by omega⟩
  unfold f_X1_kindOf p_X12_kindOf
  rw [f_X1_kindOf_b2, if_neg (by decide), gd_t (by decide)]
  by_cases h0 : v = 104
  · rw [if_pos h0, if_pos (by rw [h0]; decide)]; exact ⟨rfl, Or.inr ⟨0, by omega, rfl⟩⟩
  rw [if_neg h0, if_neg (fun z => h0 (z.symm.trans (by decide)))]
  rw [f_X1_kindOf_b2, if_neg (by decide), gd_t (by decide)]
  by_cases h1 : v = 113
  · rw [if_pos h1, if_pos (by rw [h1]; decide)]; exact ⟨rfl, Or.inr ⟨1, by omega, rfl⟩⟩
  rw [if_neg h1, if_neg (fun z => h1 (z.symm.trans (by decide)))]
  rw [f_X1_kindOf_b2, if_neg (by decide), gd_t (by decide)]
  by_cases h2 : v = 112
  · rw [if_pos h2, if_pos (by rw [h2]; decide)]; exact ⟨rfl, Or.inr ⟨2, by omega, rfl⟩⟩
  rw [if_neg h2, if_neg (fun z => h2 (z.symm.trans (by decide)))]
  rw [f_X1_kindOf_b2, if_neg (by decide), gd_t (by decide)]
  by_cases h3 : v = 97
  · rw [if_pos h3, if_pos (by rw [h3]; decide)]; exact ⟨rfl, Or.inr ⟨3, by omega, rfl⟩⟩
  rw [if_neg h3, if_neg (fun z => h3 (z.symm.trans (by decide)))]
  rw [f_X1_kindOf_b2, if_neg (by decide), gd_t (by decide)]
  by_cases h4 : v = 99
  · rw [if_pos h4, if_pos (by rw [h4]; decide)]; exact ⟨rfl, Or.inr ⟨4, by omega, rfl⟩⟩
  rw [if_neg h4, if_neg (fun z => h4 (z.symm.trans (by decide)))]
  rw [f_X1_kindOf_b2, if_neg (by decide), gd_t (by decide)]
  by_cases h5 : v = 101
  · rw [if_pos h5, if_pos (by rw [h5]; decide)]; exact ⟨rfl, Or.inr ⟨5, by omega, rfl⟩⟩
  rw [if_neg h5, if_neg (fun z => h5 (z.symm.trans (by decide)))]
  rw [f_X1_kindOf_b2, if_pos (by decide)]
  exact ⟨rfl, Or.inl rfl⟩
theorem ek_parse {N k z : Nat} {S C S' C' F0 D0 : Nat → Int32} {num ra rm : Int32} (hN : 5000 ≤ N) (hk : k < 4) (hz : z ≤ 100) (a : S k = nI z) (b : S' k = nI z) (cc : ∀ i, i < z → C (100 * k + i) = C' (100 * k + i)) :
    ∃ r m F D p, f_X1_read N 4 400 (nI 100) S C num F0 (nI k) = some (r, nI m, F) ∧ f_X12_goesOn N S' C' ra rm D0 (nI k) = some (r, p, nI m, D) ∧ m ≤ 9 ∧ ek_rd m F D D0 := by
  unfold f_X1_read f_X12_goesOn
  rw [ek_siz S hk (by decide), a, nm_t]
  have key : ∀ (d p : Nat), d + p = z → ∀ (m : Nat) (F D : Nat → Int32) (n1 n2 : Nat), m ≤ 9 → ek_rd m F D D0 → d < n1 → d < n2 →
      ∃ r m' F' D' p', f_X1_read_b14 N 4 400 (nI 100) S C n1 (nI m) F (nI k) (nI z) (nI p) = some (r, nI m', F') ∧ f_X12_goesOn_b10 N S' C' n2 (nI p) (nI m) D (nI k) = some (r, p', nI m', D') ∧ m' ≤ 9 ∧ ek_rd m' F' D' D0 := by
    intro d
    induction d using Nat.strongRecOn with
    | _ d ih =>
      intro p hdp m F D n1 n2 hm hrd h1 h2
      obtain ⟨n1, rfl⟩ : ∃ q, n1 = q + 1 := ⟨n1 - 1, by omega⟩
      obtain ⟨n2, rfl⟩ : ∃ q, n2 = q + 1 := ⟨n2 - 1, by omega⟩
      rw [f_X1_read_b14, f_X12_goesOn_b10, gd_t (ek_inb hk (by omega)), nI_clamp (by omega), b]
      by_cases hpz : z ≤ p
      · rw [if_pos (nI_le hpz (by omega)), if_pos (nI_le hpz (by omega))]
        exact ⟨_, _, _, _, _, rfl, rfl, hm, hrd⟩
      · have hin : p < z := by omega
        rw [if_neg (nI_ge hin (by omega)), if_neg (nI_ge hin (by omega)), ek_here hk b hz (by omega), if_neg hpz, bn_t, ek_cell C a hk hin hz rfl (by decide) (by decide) (by decide), nm_t, ← cc p hin]
        by_cases h32 : C (100 * k + p) = 32
        · rw [if_pos h32, if_pos h32, nI_1]
          exact ih (d - 1) (by omega) (p + 1) (by omega) m F D n1 n2 hm hrd (by omega) (by omega)
        · rw [if_neg h32, if_neg h32]
          obtain ⟨k1, k2⟩ := ek_kindOf (N := N) (C (100 * k + p)) hN
          rw [k1, bn_t]
          unfold f_X12_readsDesk
          rw [ek_here hk b hz (by omega), if_neg hpz, bn_t, ← cc p hin, nm_t]
          rcases k2 with k2 | ⟨kd, hkd, k2⟩
          · rw [k2, if_pos rfl, if_pos rfl, bn_t, if_pos rfl]
            exact ⟨_, _, _, _, _, rfl, rfl, hm, hrd⟩
          · have nk : ¬ nI kd = -9 := (ek_neg (z := (-9 : Int32)) (k := -9) (by decide) (by decide) (by omega)).2.2.2.2.2
            rw [k2, if_neg nk, if_neg nk]
            by_cases m9 : m = 9
            · subst m9
              rw [if_neg (by decide), if_pos (show nI 9 = 9 from rfl), bn_t, if_pos rfl]
              exact ⟨_, _, _, _, _, rfl, rfl, hm, hrd⟩
            · have hm9 : m < 9 := by omega
              rw [if_pos (show nI m < 9 from nI_lt (b := 9) hm9 (by omega)), if_neg (show ¬ nI m = 9 from fun q => m9 ((nI_eq (a := m) (b := 9) (by omega) (by omega)).mp q)), show (54 : Int32) + 6 * nI m = nI (54 + 6 * m) by rw [show (6 : Int32) * nI m = nI (6 * m) from pk_mul 6 m]; exact nI_add 54 (6 * m)]
              rw [nm_t, gd_t (ek_inb (by omega) (by omega)), show nI (54 + 6 * m) + 4 = nI (54 + 6 * m + 4) from nI_add _ 4, show nI (54 + 6 * m) + 5 = nI (54 + 6 * m + 5) from nI_add _ 5, gd_t (ek_inb (by omega) (by omega)), gd_t (ek_inb (by omega) (by omega)), nI_clamp (by omega), nI_clamp (by omega), nI_clamp (by omega)]
              unfold f_X1_readDesk f_X12_readsDesk_b93
              rw [show (0 : Int32) = nI 0 from rfl, show (4 : Int32) = nI 4 from rfl, show (5 : Int32) = nI 5 from rfl]
              rw [ek_setF F _ hm9 (by omega), nm_t, ek_setF _ _ hm9 (by omega), nm_t, ek_setF _ _ hm9 (by omega), nm_t]
              have hfgv : (if nI kd = 2 then nI 4 else (if nI kd = 3 then nI 5 else (3 : Int32))) = nI (if kd = 2 then 4 else if kd = 3 then 5 else 3) := by
                have : kd = 0 ∨ kd = 1 ∨ kd = 2 ∨ kd = 3 ∨ kd = 4 ∨ kd = 5 := by omega
                rcases this with rfl | rfl | rfl | rfl | rfl | rfl <;> rfl
              rw [hfgv, nI_1, show (1 : Int32) = nI 1 from rfl]
              generalize hfg : (if kd = 2 then 4 else if kd = 3 then 5 else 3) = fg
              have hr1 := ek_rdset (v := 5) (x := -9) (ek_rdset (v := 4) (x := -9) (ek_rdset (v := 0) (x := nI kd) hrd (by omega)) (by omega)) (by omega)
              have hfg5 : 3 ≤ fg ∧ fg ≤ 5 := by rw [← hfg]; split <;> (try split) <;> omega
              have hq := ek_fgs (N := N) (p := p) (D0 := D0) hk hz a b cc hm9 hkd hfg.symm fg 1 (upd (upd (upd F (6 * m + 0) (nI kd)) (6 * m + 4) (-9)) (6 * m + 5) (-9)) (upd (upd (upd D (54 + 6 * m + 0) (nI kd)) (54 + 6 * m + 4) (-9)) (54 + 6 * m + 5) (-9)) (nI 0) N N (by omega) (by omega) (by omega) (by omega) (by omega) hr1 (by
                intro v hv hv2
                have : v = 0 ∨ v = 4 ∨ v = 5 := by omega
                rcases this with rfl | rfl | rfl
                · rw [pk_un (by omega), pk_un (by omega), pk_us, pk_un (by omega), pk_un (by omega), pk_us]
                · rw [pk_un (by omega), pk_us, pk_un (by omega), pk_us]
                · rw [pk_us, pk_us]) (by rw [pk_un (by omega), pk_un (by omega)]; exact pk_us) (fun v h1 h2 => by omega) (fun h _ => by omega) (fun h => by omega)
              rcases hq with ⟨r, F', D', q1, q2, q3, q4⟩ | ⟨F', D', q1, q2, q3, q4⟩
              · rw [show 54 + 6 * m + 0 = 54 + 6 * m from rfl] at q2
                rw [q1, bn_t, q2, bn_t, if_neg (show ¬ nI r = -9 from (ek_neg (z := (-9 : Int32)) (k := -9) (by decide) (by decide) (by omega)).2.2.2.2.2), if_pos (by rfl)]
                exact ⟨_, _, _, _, _, rfl, rfl, hm, q4⟩
              · rw [show 54 + 6 * m + 0 = 54 + 6 * m from rfl] at q2
                rw [q1, bn_t, q2, bn_t, if_pos rfl, if_neg (by simp only; decide), ek_figs hkd, hfg, nm_t, show nI p + (nI 1 + nI fg) = nI (p + fg + 1) by rw [nI_add, nI_add, show p + (1 + fg) = p + fg + 1 by omega]]
                exact ih (z - (p + fg + 1)) (by omega) (p + fg + 1) (by omega) (m + 1) F' D' n1 n2 (by omega) q4 (by omega) (by omega)
  exact key z 0 (by omega) 0 F0 D0 N N (by omega) ⟨fun j v hj => absurd hj (by omega), fun j hj => absurd hj (by omega), fun _ _ => rfl⟩ (by omega) (by omega)
