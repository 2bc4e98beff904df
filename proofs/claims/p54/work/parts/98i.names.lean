/-! who gave nothing; names on a card -/
def wZ (n : Nat) (F : Nat → Int32) (cc : Nat) (v : Int32) (one : Option Nat) (m : Nat) : Int32 × Int32 × Int32 := ek_ways n F (nI cc) v one m
theorem wz_same {n cc : Nat} {F : Nat → Int32} {v : Int32} {one : Option Nat} : ∀ m, (wZ n F cc v one m).1 = (wZ n F cc v none m).1 ∧ (wZ n F cc v one m).2.1 = (wZ n F cc v none m).2.1 := by
  intro m
  induction m with
  | zero => exact ⟨rfl, rfl⟩
  | succ m ih =>
    have e : ∀ o, wZ n F cc v o (m + 1) = ek_ws n F (nI cc) v o m (wZ n F cc v o m) := fun o => rfl
    rw [e, e]
    unfold ek_ws
    cases ek_way n F (nI cc) v m
    · exact ih
    · exact ⟨by show _ + 1 = _ + 1; rw [ih.1], by show _ &&& _ = _ &&& _; rw [ih.2]⟩
theorem wz_facts {n cc i : Nat} {F : Nat → Int32} {v : Int32} (hi : i < 9) (hb : ek_bt (nI cc) i = true) : ∀ m, m ≤ 512 → ∃ a b, a ≤ m ∧ b ≤ a ∧ (wZ n F cc v (some i) m).1 = nI a ∧ (wZ n F cc v (some i) m).2.2 = nI b ∧ (ek_bt (wZ n F cc v (some i) m).2.1 i = true ↔ b = a) := by
  intro m
  induction m with
  | zero => intro _; exact ⟨0, 0, Nat.le_refl _, Nat.le_refl _, rfl, rfl, ⟨fun _ => rfl, fun _ => hb⟩⟩
  | succ m ih =>
    intro hm
    obtain ⟨a, b, h1, h2, h3, h4, h5⟩ := ih (by omega)
    have e : wZ n F cc v (some i) (m + 1) = ek_ws n F (nI cc) v (some i) m (wZ n F cc v (some i) m) := rfl
    rw [e]
    unfold ek_ws
    cases hw : ek_way n F (nI cc) v m
    · exact ⟨a, b, by omega, h2, h3, h4, h5⟩
    · have ho : ek_o1 (some i) m = if ek_bt (nI m) i then 0 else 1 := by
        rw [← ek_o1a]
        cases ek_bt (nI m) i <;> rfl
      cases hj : ek_bt (nI m) i
      · refine ⟨a + 1, b + 1, by omega, by omega, by show _ + 1 = _; rw [h3, nI_1], by show _ + ek_o1 (some i) m = _; rw [ho, hj, h4]; exact nI_1 b, ?_⟩
        show ek_bt (_ &&& (nI m ^^^ (-1 : Int32))) i = true ↔ _
        rw [ek_band, ek_bxor, hj, ek_bm1 i (by omega)]
        simp only [Bool.false_bne, Bool.and_true]
        rw [h5]
        omega
      · refine ⟨a + 1, b, by omega, by omega, by show _ + 1 = _; rw [h3, nI_1], by show _ + ek_o1 (some i) m = _; rw [ho, hj, h4]; exact Int32.add_zero _, ?_⟩
        show ek_bt (_ &&& (nI m ^^^ (-1 : Int32))) i = true ↔ _
        rw [ek_band, ek_bxor, hj, ek_bm1 i (by omega)]
        simp
        omega
theorem wz_sub {n cc i : Nat} {F : Nat → Int32} {v : Int32} (h : ek_bt (nI cc) i = false) : ∀ m, ek_bt (wZ n F cc v none m).2.1 i = false := by
  intro m
  induction m with
  | zero => exact h
  | succ m ih =>
    have e : wZ n F cc v none (m + 1) = ek_ws n F (nI cc) v none m (wZ n F cc v none m) := rfl
    rw [e]
    unfold ek_ws
    cases ek_way n F (nI cc) v m
    · exact ih
    · show ek_bt (_ &&& _) i = false
      rw [ek_band, ih]; rfl
section SEM
variable {S C TS TC : Nat → Int32} {F : Nat → Int32} {k0 : TRd} {yn : Int32} {ch : Nat → Int32} {ak : Int32} {up lo : Int64} {th : TH}
variable {n cc v : Nat} {st ru at_ ib ho la na li it : Int32} {hs gi wr : Nat → Int32}
theorem s_nothing (hn : n ≤ 9) (hc : cc < 512) (hv : v ≤ 99) (h : Sem S C TS TC (nI n) F (mR st ru at_ ib ho (nI cc) la na li it hs gi wr) k0 yn ch ak up lo th) :
    ∃ th', o_nothing th (nI v) = some ((wZ n F cc (nI v) none (cc + 1)).1, th') ∧ Sem S C TS TC (nI n) F (mR st ru at_ ib ho (nI cc) la na li it hs gi wr) k0 yn ch (if (wZ n F cc (nI v) none (cc + 1)).1 = 0 then 0 else (wZ n F cc (nI v) none (cc + 1)).2.1) up lo th' := by
  obtain ⟨fi, fc, dr, k1, k2, lv, ba, wa, ly, tr, ca, fw, sn, s2, wh, sq, pk, rfl, hS, hT2⟩ := h
  have e : f_X11_nothing 5000 (nI n) F (nI cc) ak (nI v) = some ((wZ n F cc (nI v) none (cc + 1)).1, if (wZ n F cc (nI v) none (cc + 1)).1 = 0 then 0 else (wZ n F cc (nI v) none (cc + 1)).2.1) := by
    unfold f_X11_nothing
    rw [if_neg (nI_pos (by omega)), if_pos (show nI v ≤ (99 : Int32) from nI_le (b := 99) hv (by omega))]
    refine ek_for (fun n2 y (s : Int32 × Int32 × Int32) => f_X11_nothing_b25 5000 (f_X11_nothing_b63 5000 (nI n) F (nI cc)) (nI n) F (nI cc) n2 ak (nI v) s.1 s.2.1 y) (ek_ws n F (nI cc) (nI v) none) (fun _ _ => True) (cc + 1) 5000 (by omega) ?_ (0, nI cc, 0) trivial _ ?_
    · intro n2 j s hj _
      refine ⟨?_, trivial⟩
      try simp only
      rw [f_X11_nothing_b25, if_neg (nI_nlt (by omega) (by omega)), ek_wayX (by omega) hn, bn_t]
      unfold f_X11_nothing_b57 ek_ws
      rw [nI_1, nm_t]
      cases ek_way n F (nI cc) (nI v) j
      · simp
      · simp
    · intro n2 _
      try simp only
      rw [f_X11_nothing_b25, if_pos (nI_lt (by omega) (by omega))]
      unfold f_X11_nothing_b63 wZ ek_ways
      by_cases q : (ek_fo (ek_ws n F (nI cc) (nI v) none) (0, nI cc, 0) (cc + 1)).1 = 0
      · rw [if_pos q, if_pos q]; rfl
      · rw [if_neg q, if_neg q]; rfl
  exact ⟨_, bn_e e, _, _, _, _, _, _, _, _, _, _, _, _, _, _, _, _, _, rfl, hS, hT2⟩
theorem s_gaveNone {i a b : Nat} (hn : n ≤ 9) (hc : cc < 512) (hv : v ≤ 99) (hi : i < n) (hb : ek_bt (nI cc) i = true) (h1 : (wZ n F cc (nI v) (some i) (cc + 1)).1 = nI a) (h2 : (wZ n F cc (nI v) (some i) (cc + 1)).2.2 = nI b) (ha0 : 0 < a) (ha : a ≤ 512) (hba : b ≤ a) (h : Sem S C TS TC (nI n) F (mR st ru at_ ib ho (nI cc) la na li it hs gi wr) k0 yn ch ak up lo th) :
    ∃ th', o_gaveNone th (nI i) (nI v) = some (nI b, th') ∧ Sem S C TS TC (nI n) F (mR st ru at_ ib ho (nI cc) la na li it hs gi wr) k0 yn ch ak (lU b a) (lL b a) th' := by
  obtain ⟨fi, fc, dr, k1, k2, lv, ba, wa, ly, tr, ca, fw, sn, s2, wh, sq, pk, rfl, hS, hT2⟩ := h
  have hbx : ¬ p_X6_isCrossed (nI cc) (nI i) = 0 := by rw [ek_isC (nI cc) (by omega), if_pos hb]; decide
  have e : f_X11_gaveNone 5000 (nI n) F (nI cc) fi up lo fc (nI i) (nI v) = some (nI b, fi, lU b a, lL b a, fc) := by
    have e1 : f_X11_gaveNone 5000 (nI n) F (nI cc) fi up lo fc (nI i) (nI v) = f_X11_gaveNone_b89 5000 (nI n) F (nI cc) fi up lo fc (wZ n F cc (nI v) (some i) (cc + 1)).1 (wZ n F cc (nI v) (some i) (cc + 1)).2.2 := by
      unfold f_X11_gaveNone
      rw [if_neg (sr_nam hn hi), if_neg (nI_pos (by omega)), if_pos (show nI v ≤ (99 : Int32) from nI_le (b := 99) hv (by omega)), if_neg hbx]
      refine ek_for (fun n2 z (s : Int32 × Int32 × Int32) => f_X11_gaveNone_b45 5000 (f_X11_gaveNone_b89 5000 (nI n) F (nI cc)) (nI n) F (nI cc) n2 fi up lo fc (nI i) (nI v) s.1 s.2.2 z) (ek_ws n F (nI cc) (nI v) (some i)) (fun _ _ => True) (cc + 1) 5000 (by omega) ?_ (0, nI cc, 0) trivial _ ?_
      · intro n2 j s hj _
        refine ⟨?_, trivial⟩
        try simp only
        rw [f_X11_gaveNone_b45, if_neg (nI_nlt (by omega) (by omega)), ek_wayX (by omega) hn, bn_t, ek_bits (nI j) (by omega)]
        unfold f_X11_gaveNone_b83 ek_ws
        rw [nI_1, nm_t, ek_o1b]
        cases ek_way n F (nI cc) (nI v) j
        · simp
        · simp
      · intro n2 _
        try simp only
        rw [f_X11_gaveNone_b45, if_pos (nI_lt (by omega) (by omega))]
        rfl
    rw [e1, h1, h2]
    unfold f_X11_gaveNone_b89
    rw [if_neg (nI_ne0 ha0 (by omega)), nI_l (by omega), nI_l (by omega), fr_frac (by omega) hba ha0 (by omega), bn_t]
  exact ⟨_, bn_e e, _, _, _, _, _, _, _, _, _, _, _, _, _, _, _, _, _, rfl, hS, hT2⟩
end SEM
/-! names on a card: least laid, by sets -/
def layN (w : Nat) (sz : Nat → Nat) (T : Nat → Nat) (j : Nat) : Nat → Nat
  | 0 => 64000
  | q + 1 => if ek_bt (nI j) q then (if ek_wn (T (j - 2 ^ q)) (sz q) w < layN w sz T j q then ek_wn (T (j - 2 ^ q)) (sz q) w else layN w sz T j q) else layN w sz T j q
def gT (w : Nat) (sz : Nat → Nat) : Nat → (Nat → Nat)
  | 0 => fun _ => 0
  | j + 1 => fun q => if q = j then (if j = 0 then 0 else layN w sz (gT w sz j) j 8) else gT w sz j q
def gL (w : Nat) (sz : Nat → Nat) (j : Nat) : Nat := gT w sz (j + 1) j
theorem gT_lt {w : Nat} {sz : Nat → Nat} {q : Nat} : ∀ m, q < m → gT w sz m q = gL w sz q := by
  intro m
  induction m with
  | zero => intro h; omega
  | succ m ih =>
    intro h
    by_cases e : q = m
    · subst e; rfl
    · have : gT w sz (m + 1) q = gT w sz m q := if_neg e
      rw [this]; exact ih (by omega)
theorem gL0 {w : Nat} {sz : Nat → Nat} : gL w sz 0 = 0 := rfl
theorem gLS {w : Nat} {sz : Nat → Nat} {j : Nat} (h : 0 < j) : gL w sz j = layN w sz (gT w sz j) j 8 := by
  show (if j = j then (if j = 0 then 0 else layN w sz (gT w sz j) j 8) else gT w sz j j) = _
  rw [if_pos rfl, if_neg (by omega)]
theorem layN_le {w : Nat} {sz T : Nat → Nat} {j q : Nat} (hb : ek_bt (nI j) q = true) : ∀ m, q < m → layN w sz T j m ≤ ek_wn (T (j - 2 ^ q)) (sz q) w := by
  intro m
  induction m with
  | zero => intro h; omega
  | succ m ih =>
    intro h
    by_cases e : q = m
    · subst e
      rw [layN, if_pos hb]
      split <;> omega
    · have h1 := ih (by omega)
      rw [layN]
      split
      · split <;> omega
      · exact h1
def okk (k L : Nat) : Prop := L = 0 ∨ (64 ≤ L ∧ L / 64 ≤ k) ∨ L = 64000
theorem okk_wn {k L s w : Nat} (hk : k < 900) (h : okk k L) (hs : s ≤ 40) (hw : w ≤ 40) : okk (k + 1) (ek_wn L s w) := by
  unfold ek_wn okk at *
  split
  · omega
  · split
    · split
      · omega
      · split <;> omega
    · omega
theorem okk_up {k l L : Nat} (h : okk k L) (hk : k ≤ l) : okk l L := by unfold okk at *; omega
theorem layN_ok {w : Nat} {sz T : Nat → Nat} {j k : Nat} (hk : k < 900) (hw : w ≤ 40) (hs : ∀ q, q < 8 → ek_bt (nI j) q = true → sz q ≤ 40 ∧ okk k (T (j - 2 ^ q))) : ∀ m, m ≤ 8 → okk (k + 1) (layN w sz T j m) := by
  intro m
  induction m with
  | zero => intro _; exact Or.inr (Or.inr rfl)
  | succ m ih =>
    intro hm
    rw [layN]
    split
    · rename_i hb
      obtain ⟨h1, h2⟩ := hs m (by omega) hb
      split
      · exact okk_wn hk h2 h1 hw
      · exact ih (by omega)
    · exact ih (by omega)
theorem wn_mono {k L L' s w : Nat} (hk : k < 900) (h : okk k L) (h' : okk k L') (hs : s ≤ 40) (hw : w ≤ 40) (hL : L ≤ L') : ek_wn L s w ≤ ek_wn L' s w := by
  unfold ek_wn okk at *
  by_cases a1 : 64000 ≤ L
  · rw [if_pos a1, if_pos (by omega)]; exact Nat.le_refl _
  · rw [if_neg a1]
    by_cases a2 : s ≤ w
    · rw [if_pos a2]
      by_cases a3 : 64000 ≤ L'
      · rw [if_pos a3]
        split
        · omega
        · split <;> omega
      · rw [if_neg a3, if_pos a2]
        by_cases b1 : L = 0
        · rw [if_pos b1]
          split
          · omega
          · split <;> omega
        · rw [if_neg b1, if_neg (show ¬ L' = 0 by omega)]
          split
          · split <;> omega
          · split <;> omega
    · rw [if_neg a2]
      split
      · omega
      · exact Nat.le_refl _
theorem bt_clr : ∀ j, j < 256 → ∀ q, q < 8 → ek_bt (nI j) q = true → (nI j &&& (((1 : Int32) <<< (nI q &&& 31)) ^^^ (-1 : Int32))) = nI (j - 2 ^ q) ∧ 2 ^ q ≤ j := by decide +kernel
theorem gL_ok {w : Nat} {sz : Nat → Nat} (hw : w ≤ 40) (hs : ∀ q, q < 8 → sz q ≤ 40) : ∀ j, j < 256 → okk j (gL w sz j) := by
  intro j
  induction j using Nat.strongRecOn with
  | _ j ih =>
    intro hj
    rcases Nat.eq_zero_or_pos j with q | q
    · subst q; exact Or.inl rfl
    · rw [gLS q]
      have := layN_ok (k := j - 1) (w := w) (sz := sz) (T := gT w sz j) (j := j) (by omega) hw (fun q hq hb => by
        obtain ⟨-, h2⟩ := bt_clr j hj q hq hb
        have hp := Nat.two_pow_pos q
        refine ⟨hs q hq, ?_⟩
        rw [gT_lt j (by omega)]
        exact okk_up (ih (j - 2 ^ q) (by omega) (by omega)) (by omega)) 8 (Nat.le_refl _)
      exact okk_up this (by omega)
/-- as fits() lays them -/
def fL (w : Nat) (sz : Nat → Nat) : Nat → Nat
  | 0 => 0
  | k + 1 => ek_wn (fL w sz k) (sz k) w
theorem fL_ok {w : Nat} {sz : Nat → Nat} (hw : w ≤ 40) (hs : ∀ q, q < 8 → sz q ≤ 40) : ∀ k, k ≤ 8 → okk k (fL w sz k) := by
  intro k
  induction k with
  | zero => intro _; exact Or.inl rfl
  | succ k ih => intro hk; exact okk_wn (by omega) (ih (by omega)) (hs k (by omega)) hw
theorem bt_ones : ∀ k, k < 8 → ek_bt (nI (2 ^ (k + 1) - 1)) k = true ∧ 2 ^ (k + 1) - 1 - 2 ^ k = 2 ^ k - 1 ∧ 2 ^ (k + 1) - 1 < 256 ∧ 0 < 2 ^ (k + 1) - 1 := by decide +kernel
theorem gL_fL {w : Nat} {sz : Nat → Nat} (hw : w ≤ 40) (hs : ∀ q, q < 8 → sz q ≤ 40) : ∀ k, k ≤ 8 → gL w sz (2 ^ k - 1) ≤ fL w sz k := by
  intro k
  induction k with
  | zero => intro _; exact Nat.le_refl _
  | succ k ih =>
    intro hk
    obtain ⟨b1, b2, b3, b4⟩ := bt_ones k (by omega)
    have h1 := layN_le (w := w) (sz := sz) (T := gT w sz (2 ^ (k + 1) - 1)) b1 8 (by omega)
    rw [← gLS b4, b2] at h1
    have hp := Nat.two_pow_pos k
    rw [gT_lt (2 ^ (k + 1) - 1) (by omega)] at h1
    refine Nat.le_trans h1 ?_
    have k1 := gL_ok hw hs (2 ^ k - 1) (by omega)
    have k2 := fL_ok hw hs k (by omega)
    exact wn_mono (k := 300) (by omega) (okk_up k1 (by omega)) (okk_up k2 (by omega)) (hs k (by omega)) hw (ih (by omega))
theorem sr_lay {N k z j w : Nat} {S C LL : Nat → Int32} {sz : Nat → Nat} (hN : 5000 ≤ N) (hk : k < 6) (a : S k = nI z) (hz : z ≤ 8) (hj : j < 2 ^ z) (hw : w ≤ 40) (hn : ∀ q, q < z → 1 ≤ sz q ∧ sz q ≤ 40 ∧ C (40 * k + q) = nI (sz q)) (hs : ∀ q, q < 8 → sz q ≤ 40) (hL : ∀ q, q < j → LL q = nI (gL w sz q)) :
    f_X4_layLeast N 6 240 LL (40 : Int32) S C (nI k) (nI j) (nI w) = some (nI (layN w sz (gT w sz j) j 8)) := by
  have hp8 : 2 ^ z ≤ 256 := Nat.le_trans (Nat.pow_le_pow_right (n := 2) (by omega) hz) (by decide)
  unfold f_X4_layLeast
  refine ek_forI (fun n2 y s => f_X4_layLeast_b7 N 6 240 LL (40 : Int32) S C n2 (nI k) (nI j) (nI w) s y) (fun q s => s = nI (layN w sz (gT w sz j) j q)) 8 N (by omega) ?_ 64000 rfl (fun r => r = some (nI (layN w sz (gT w sz j) j 8))) ?_
  · intro n2 q s hq hI
    refine ⟨_, ?_, rfl⟩
    subst hI
    try simp only
    have hlq := layN_ok (k := 900 - 1) (w := w) (sz := sz) (T := gT w sz j) (j := j) (by omega) hw (fun q hq hb => by
      obtain ⟨-, h2⟩ := bt_clr j (by omega) q hq hb
      have hp := Nat.two_pow_pos q
      refine ⟨hs q hq, ?_⟩
      rw [gT_lt j (by omega)]
      exact okk_up (gL_ok hw hs (j - 2 ^ q) (by omega)) (by omega)) q (by omega)
    rw [f_X4_layLeast_b7, if_neg (show ¬ (8 : Int32) ≤ nI q from nI_ge (b := 8) hq (by omega)), ek_bits (nI j) (by omega), layN]
    cases hb : ek_bt (nI j) q
    · rw [if_pos (show (if false = true then (1 : Int32) else 0) = 0 from rfl), if_neg (by decide)]
      unfold f_X4_layLeast_b55
      rw [nI_1]
    · have hqz : q < z := ek_bitlt hj (by omega) hb
      obtain ⟨s1, s2, es⟩ := hn q hqz
      obtain ⟨c1, c2⟩ := bt_clr j (by omega) q hq hb
      have hp := Nat.two_pow_pos q
      have hT : gT w sz j (j - 2 ^ q) = gL w sz (j - 2 ^ q) := gT_lt j (by omega)
      have hG := gL_ok hw hs (j - 2 ^ q) (by omega)
      have hG2 : gL w sz (j - 2 ^ q) ≤ 64000 := by unfold okk at hG; omega
      have hle : p_X4_leastOf LL (nI (j - 2 ^ q)) = nI (gL w sz (j - 2 ^ q)) := by
        unfold p_X4_leastOf
        rw [if_neg (nI_pos (by omega)), if_neg (show ¬ (256 : Int32) ≤ nI (j - 2 ^ q) from nI_ge (b := 256) (by omega) (by omega)), nI_clamp (by omega), hL _ (by omega)]
      have hwn := okk_wn (k := 300) (s := sz q) (w := w) (by omega) (okk_up hG (by omega)) s2 hw
      have hwn2 : ek_wn (gL w sz (j - 2 ^ q)) (sz q) w ≤ 64000 := by unfold okk at hwn; omega
      have hlq2 : layN w sz (gT w sz j) j q ≤ 64000 := by unfold okk at hlq; omega
      rw [if_neg (show ¬ (if true = true then (1 : Int32) else 0) = 0 by decide), if_pos rfl, c1, hle, show ((40 : Int32)) = nI 40 from rfl, ek_cell (P := 40) C a hk hqz (by omega) rfl (by decide) (by decide) (by decide), es, ek_with hG2 s2 hw, hT, nm_t]
      unfold f_X4_layLeast_b55
      rw [nI_1]
      by_cases y : ek_wn (gL w sz (j - 2 ^ q)) (sz q) w < layN w sz (gT w sz j) j q
      · rw [if_pos y, if_pos (nI_lt y (by omega))]
      · rw [if_neg y, if_neg (nI_nlt (by omega) (by omega))]
  · intro n2 s hI
    subst hI
    try simp only
    rw [f_X4_layLeast_b7, if_pos (show (8 : Int32) ≤ nI 8 from nI_le (a := 8) (Nat.le_refl _) (by omega))]
theorem sr_full {N k z w h : Nat} {S C LL0 : Nat → Int32} {sz : Nat → Nat} (hN : 5000 ≤ N) (hk : k < 6) (a : S k = nI z) (hz : z ≤ 8) (hw : w ≤ 40) (hh : h ≤ 20) (hn : ∀ q, q < z → 1 ≤ sz q ∧ sz q ≤ 40 ∧ C (40 * k + q) = nI (sz q)) (hs : ∀ q, q < 8 → sz q ≤ 40) :
    ∃ bs LL, bs < 2 ^ z ∧ f_X4_fullestSet N 6 240 (40 : Int32) S C LL0 (nI k) (nI w) (nI h) = some (nI bs, LL) ∧ gL w sz bs / 64 ≤ h ∧ ∀ j, j < 2 ^ z → gL w sz j / 64 ≤ h → ek_pc (nI j) ≤ ek_pc (nI bs) := by
  have hp8 : 2 ^ z ≤ 256 := Nat.le_trans (Nat.pow_le_pow_right (n := 2) (by omega) hz) (by decide)
  have hp1 := Nat.two_pow_pos z
  have hsz : (if (8 : Int32) < nI z then (8 : Int32) else nI z) = nI z := by rw [if_neg (show ¬ (8 : Int32) < nI z from nI_nlt (a := 8) hz (by omega))]
  unfold f_X4_fullestSet
  rw [ek_siz S hk (by decide), a, hsz, ek_pow2 z (by omega), nm_t]
  refine ek_forI (σ := (Nat → Int32) × Int32) (fun n2 y s => f_X4_fullestSet_b20 N 6 240 (40 : Int32) S C n2 s.1 (nI k) (nI w) (nI h) (nI (2 ^ z)) s.2 y) (fun j s => (∀ q, q < j → s.1 q = nI (gL w sz q)) ∧ ∃ bs, bs < 2 ^ z ∧ s.2 = nI bs ∧ gL w sz bs / 64 ≤ h ∧ ∀ q, q < j → gL w sz q / 64 ≤ h → ek_pc (nI q) ≤ ek_pc (nI bs)) (2 ^ z) N (by omega) ?_ (LL0, 0) ⟨fun q hq => absurd hq (by omega), 0, hp1, rfl, by rw [gL0]; omega, fun q hq => absurd hq (by omega)⟩ (fun r => ∃ bs LL, bs < 2 ^ z ∧ r = some (nI bs, LL) ∧ gL w sz bs / 64 ≤ h ∧ ∀ j, j < 2 ^ z → gL w sz j / 64 ≤ h → ek_pc (nI j) ≤ ek_pc (nI bs)) ?_
  · rintro n2 j ⟨LL, s2⟩ hj ⟨i1, bs, hbs, i2, i3, i4⟩
    simp only at i1 i2
    subst i2
    have hG := gL_ok hw hs j (by omega)
    have hG2 : gL w sz j ≤ 64000 := by unfold okk at hG; omega
    have hb1 : p_J6_bitCount_0f7a4 (nI j) = ek_pc (nI j) := ek_bcX (ek_subN (by omega))
    have hb2 : p_J6_bitCount_0f7a4 (nI bs) = ek_pc (nI bs) := ek_bcX (ek_subN (by omega))
    have hstep : f_X4_fullestSet_b20 N 6 240 (40 : Int32) S C (n2 + 1) LL (nI k) (nI w) (nI h) (nI (2 ^ z)) (nI bs) (nI j) = f_X4_fullestSet_b20 N 6 240 (40 : Int32) S C n2 (upd LL j (nI (gL w sz j))) (nI k) (nI w) (nI h) (nI (2 ^ z)) (if nI h < nI (gL w sz j / 64) then nI bs else (if ek_pc (nI j) ≤ ek_pc (nI bs) then nI bs else nI j)) (nI (j + 1)) := by
      rcases Nat.eq_zero_or_pos j with q | q
      · subst q
        have e0 : nI 0 = 0 := rfl
        rw [f_X4_fullestSet_b20, if_neg (nI_ge hj (by omega)), if_neg (show ¬ (256 : Int32) ≤ nI 0 by decide), if_pos e0]
        unfold f_X4_fullestSet_b61 f_X4_fullestSet_b95
        rw [gd_t (ek_inb (show 0 < 256 by omega) (by omega)), gd_t (ek_inb (show 0 < 256 by omega) (by omega)), nI_clamp (by omega), pk_us, gL0]
        rw [show p_X4_linesOf 0 = nI (0 / 64) by decide, hb1, hb2, nI_1]
        rfl
      · rw [f_X4_fullestSet_b20, if_neg (nI_ge hj (by omega)), if_neg (show ¬ (256 : Int32) ≤ nI j from nI_ge (b := 256) (by omega) (by omega)), if_neg (nI_ne0 q (by omega)), sr_lay hN hk a hz hj hw hn hs i1, bn_t, ← gLS q]
        unfold f_X4_fullestSet_b61 f_X4_fullestSet_b95
        rw [gd_t (ek_inb (by omega) (by omega)), gd_t (ek_inb (by omega) (by omega)), nI_clamp (by omega), pk_us, ek_lines (gL w sz j) (by omega), hb1, hb2, nI_1]
    refine ⟨(upd LL j (nI (gL w sz j)), if nI h < nI (gL w sz j / 64) then nI bs else (if ek_pc (nI j) ≤ ek_pc (nI bs) then nI bs else nI j)), ?_, ?_, ?_⟩
    · exact hstep
    · intro q hq
      show upd LL j _ q = _
      by_cases e : q = j
      · rw [e]; exact pk_us
      · rw [pk_un e]; exact i1 q (by omega)
    · show ∃ bs', bs' < 2 ^ z ∧ (if nI h < nI (gL w sz j / 64) then nI bs else (if ek_pc (nI j) ≤ ek_pc (nI bs) then nI bs else nI j)) = nI bs' ∧ _
      by_cases y : h < gL w sz j / 64
      · rw [if_pos (nI_lt y (by omega))]
        refine ⟨bs, hbs, rfl, i3, fun q hq hl => ?_⟩
        by_cases e : q = j
        · subst e; omega
        · exact i4 q (by omega) hl
      · rw [if_neg (nI_nlt (by omega) (by omega))]
        by_cases y2 : ek_pc (nI j) ≤ ek_pc (nI bs)
        · rw [if_pos y2]
          refine ⟨bs, hbs, rfl, i3, fun q hq hl => ?_⟩
          by_cases e : q = j
          · subst e; exact y2
          · exact i4 q (by omega) hl
        · rw [if_neg y2]
          refine ⟨j, hj, rfl, by omega, fun q hq hl => ?_⟩
          by_cases e : q = j
          · subst e; exact Int32.le_refl _
          · exact Int32.le_trans (i4 q (by omega) hl) (Int32.le_of_lt (Int32.not_le.mp y2))
  · rintro n2 ⟨LL, s2⟩ ⟨i1, bs, hbs, i2, i3, i4⟩
    simp only at i1 i2
    subst i2
    try simp only
    rw [f_X4_fullestSet_b20, if_pos (nI_le (Nat.le_refl _) (by omega))]
    exact ⟨bs, LL, hbs, rfl, i3, i4⟩
section SEM
variable {S C TS TC : Nat → Int32} {nn : Int32} {F : Nat → Int32} {rd k0 : TRd} {yn : Int32} {ch : Nat → Int32} {ak : Int32} {up lo : Int64} {th : TH} {sz : Nat → Nat}
theorem sr_within {z k : Nat} (hk : k < 6) (a : S k = nI z) (hz : z ≤ 40) (hn : ∀ q, q < z → 1 ≤ sz q ∧ sz q ≤ 40 ∧ C (40 * k + q) = nI (sz q)) : f_X7_allWithin 5000 6 240 (40 : Int32) S C (nI k) (1 : Int32) (40 : Int32) = some 1 := by
  obtain ⟨b, e1, e2⟩ := ek_within (N := 5000) (S := S) (C := C) (lo := 1) (hi := 40) (by omega) hk hz a
  have hb : b = true := e2.mpr (fun j hj => by
    obtain ⟨s1, s2, s3⟩ := hn j hj
    rw [s3]
    exact ⟨nI_nlt (b := 1) s1 (by omega), nI_le (b := 40) s2 (by omega)⟩)
  rw [e1, hb]; rfl
theorem s_fits (a : S 1 = nI 5) (hn : ∀ q, q < 5 → 1 ≤ sz q ∧ sz q ≤ 40 ∧ C (40 * 1 + q) = nI (sz q)) (h : Sem S C TS TC nn F rd k0 yn ch ak up lo th) :
    ∃ k ak' th', k ≤ 5 ∧ o_fits th 14 2 1 = some (nI k, th') ∧ Sem S C TS TC nn F rd k0 yn ch ak' up lo th' ∧ fL 14 sz k / 64 ≤ 2 := by
  obtain ⟨fi, fc, dr, k1, k2, lv, ba, wa, ly, tr, ca, fw, sn, s2, wh, sq, pk, rfl, hS, hT2⟩ := h
  have e : ∃ k ak', k ≤ 5 ∧ f_X11_fits 5000 (40 : Int32) S C fi ak fc 14 2 1 = some (nI k, fi, ak', fc) ∧ fL 14 sz k / 64 ≤ 2 := by
    unfold f_X11_fits
    rw [if_neg (show ¬ p_X11_isCard 14 2 = 0 by decide), show p_X11_refuseMissing 6 S fi fc (1 : Int32) = _ from sr_miss (k := 1) (by omega) (by omega) a (by omega), nm_t, if_pos rfl, show f_X7_allWithin 5000 6 240 (40 : Int32) S C (1 : Int32) (1 : Int32) (40 : Int32) = _ from sr_within (k := 1) (by omega) a (by omega) hn, bn_t, if_neg (by decide)]
    have hend : ∀ l x, l ≤ 64000 → f_X11_fits_b122 5000 (40 : Int32) S C fi ak fc (nI l) x = some (x, fi, nI (l / 64), fc) := by
      intro l x hl
      unfold f_X11_fits_b122
      rw [ek_lines l (by omega)]
      rfl
    have hfl : ∀ k, k ≤ 5 → fL 14 sz k ≤ 64000 ∧ (∀ q, q < k → sz q ≤ 40) := by
      intro k
      induction k with
      | zero => intro _; exact ⟨Nat.zero_le _, fun q hq => absurd hq (by omega)⟩
      | succ k ih =>
        intro hk
        obtain ⟨i1, i2⟩ := ih (by omega)
        have : ∀ m, m ≤ 5 → okk m (fL 14 sz m) := by
          intro m
          induction m with
          | zero => intro _; exact Or.inl rfl
          | succ m ihm => intro hm; exact okk_wn (by omega) (ihm (by omega)) (hn m (by omega)).2.1 (by omega)
        have h2 := this (k + 1) hk
        refine ⟨by unfold okk at h2; omega, fun q hq => (hn q (by omega)).2.1⟩
    have key : ∀ d k n1, d + k = 5 → d < n1 → fL 14 sz k / 64 ≤ 2 → ∃ k' ak', k' ≤ 5 ∧ f_X11_fits_b58 5000 (f_X11_fits_b122 5000 (40 : Int32) S C) (40 : Int32) S C n1 fi ak fc 14 2 1 (nI (fL 14 sz k)) (nI k) (nI k) = some (nI k', fi, ak', fc) ∧ fL 14 sz k' / 64 ≤ 2 := by
      intro d
      induction d with
      | zero =>
        intro k n1 hd h1 hl
        obtain ⟨n1, rfl⟩ : ∃ q, n1 = q + 1 := ⟨n1 - 1, by omega⟩
        refine ⟨k, nI (fL 14 sz k / 64), by omega, ?_, hl⟩
        rw [f_X11_fits_b58, show p_X7_sizeOf 6 S (1 : Int32) = S 1 from ek_siz S (j := 1) (by omega) (by decide), a, if_pos (nI_le (by omega) (by omega)), hend _ _ (hfl k (by omega)).1]
      | succ d ih =>
        intro k n1 hd h1 hl
        obtain ⟨n1, rfl⟩ : ∃ q, n1 = q + 1 := ⟨n1 - 1, by omega⟩
        obtain ⟨s1, s2, s3⟩ := hn k (by omega)
        rw [f_X11_fits_b58, show p_X7_sizeOf 6 S (1 : Int32) = S 1 from ek_siz S (j := 1) (by omega) (by decide), a, if_neg (nI_ge (by omega) (by omega)), show ((40 : Int32)) = nI 40 from rfl, show p_X7_cell 6 240 (nI 40) S C (1 : Int32) (nI k) = _ from ek_cell (k := 1) (P := 40) C a (by omega) (show k < 5 by omega) (by omega) rfl (by decide) (by decide) (by decide), s3, show p_X4_withName (nI (fL 14 sz k)) (nI (sz k)) (14 : Int32) = _ from ek_with (w := 14) (hfl k (by omega)).1 s2 (by omega), nm_t]
        have e1 : ek_wn (fL 14 sz k) (sz k) 14 = fL 14 sz (k + 1) := rfl
        rw [e1, ek_lines _ (by have := (hfl (k + 1) (by omega)).1; omega)]
        by_cases y : fL 14 sz (k + 1) / 64 ≤ 2
        · rw [if_pos (show nI (fL 14 sz (k + 1) / 64) ≤ (2 : Int32) from nI_le (b := 2) y (by omega)), nI_1]
          exact ih (k + 1) n1 (by omega) (by omega) y
        · rw [if_neg (show ¬ nI (fL 14 sz (k + 1) / 64) ≤ (2 : Int32) from nI_ge (a := 2) (by omega) (by have := (hfl (k + 1) (by omega)).1; omega))]
          exact ⟨k, nI (fL 14 sz k / 64), by omega, hend _ _ (hfl k (by omega)).1, hl⟩
    exact key 5 0 5000 (by omega) (by omega) (by show 0 / 64 ≤ 2; decide)
  obtain ⟨k, ak', hk, e, hl⟩ := e
  exact ⟨k, ak', _, hk, bn_e e, ⟨_, _, _, _, _, _, _, _, _, _, _, _, _, _, _, _, _, rfl, hS, hT2⟩, hl⟩
theorem s_room {h : Nat} (hh : h = 2 ∨ h = 3) (a : S 1 = nI 5) (hn : ∀ q, q < 5 → 1 ≤ sz q ∧ sz q ≤ 40 ∧ C (40 * 1 + q) = nI (sz q)) (hs : ∀ q, q < 8 → sz q ≤ 40) (hM : Sem S C TS TC nn F rd k0 yn ch ak up lo th) :
    ∃ bs th', bs < 32 ∧ o_room th 14 (nI h) 1 = some (ek_pc (nI bs), th') ∧ Sem S C TS TC nn F rd k0 yn ch (nI bs) up lo th' ∧ gL 14 sz bs / 64 ≤ h ∧ ∀ j, j < 32 → gL 14 sz j / 64 ≤ h → ek_pc (nI j) ≤ ek_pc (nI bs) := by
  obtain ⟨fi, fc, dr, k1, k2, lv, ba, wa, ly, tr, ca, fw, sn, s2, wh, sq, pk, rfl, hS, hT2⟩ := hM
  obtain ⟨bs, LL, hbs, f1, f2, f3⟩ := sr_full (N := 5000) (LL0 := pk) (h := h) (by omega) (show 1 < 6 by omega) a (by omega) (show 14 ≤ 40 by omega) (by omega) hn hs
  have e : f_X11_room 5000 (40 : Int32) S C fi ak pk fc 14 (nI h) 1 = some (ek_pc (nI bs), fi, nI bs, LL, fc) := by
    unfold f_X11_room
    rw [if_neg (show ¬ p_X11_isCard 14 (nI h) = 0 by rcases hh with q | q <;> (rw [q]; decide)), show p_X11_refuseMissing 6 S fi fc (1 : Int32) = _ from sr_miss (k := 1) (by omega) (by omega) a (by omega), nm_t, if_pos rfl, show p_X7_sizeOf 6 S (1 : Int32) = S 1 from ek_siz S (j := 1) (by omega) (by decide), a, if_pos (show nI 5 ≤ (8 : Int32) by decide), show f_X7_allWithin 5000 6 240 (40 : Int32) S C (1 : Int32) (1 : Int32) (40 : Int32) = _ from sr_within (k := 1) (by omega) a (by omega) hn, bn_t, if_neg (by decide), show f_X4_fullestSet 5000 6 240 (40 : Int32) S C pk (1 : Int32) (14 : Int32) (nI h) = _ from f1, bn_t, ek_bcX (ek_subN (show bs < 512 by omega))]
    rfl
  exact ⟨bs, _, hbs, bn_e e, ⟨_, _, _, _, _, _, _, _, _, _, _, _, _, _, _, _, _, rfl, hS, hT2⟩, f2, f3⟩
end SEM
