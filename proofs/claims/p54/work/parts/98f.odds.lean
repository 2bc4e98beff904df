/-! odds: fractions, friday, odds, rule, ask -/
def lU (a b : Nat) : Int64 := lN a / lN (Nat.gcd a b)
def lL (a b : Nat) : Int64 := lN b / lN (Nat.gcd a b)
theorem fr_frac {N a b : Nat} {u l : Int64} {x : Int32} (hN : 5000 ≤ N) (hab : a ≤ b) (hb0 : 0 < b) (hb : b < 2 ^ 44) : f_X11_tellFraction N u l (lN a) (lN b) x = some (x, lU a b, lL a b) := by
  have hg0 : 0 < Nat.gcd a b := Nat.gcd_pos_of_pos_right _ hb0
  have hgb : Nat.gcd a b ≤ b := Nat.le_of_dvd hb0 (Nat.gcd_dvd_right a b)
  have ng : ¬ lN (Nat.gcd a b) = 0 := fun q => by have := (pk_lEQ (a := Nat.gcd a b) (b := 0) (by omega) (by omega)).mp q; omega
  unfold f_X11_tellFraction f_X11_commonDivisor
  have := ek_gcdX (N := N) 44 a b 0 N hb (by omega) (by omega) (by omega) (by omega)
  rw [show f_X11_commonDivisor_b9 N N (lN a) (lN b) 0 = _ from this, bn_t]
  unfold f_X11_tellFraction_b23
  rw [if_neg ng, if_neg ng]
  rfl
theorem fr_val {a b : Nat} (hab : a ≤ b) (hb0 : 0 < b) (hb : b < 2 ^ 44) : ∃ g x y, 0 < g ∧ a = g * x ∧ b = g * y ∧ lU a b = lN x ∧ lL a b = lN y ∧ x ≤ y ∧ 0 < y ∧ y ≤ b := by
  have hg0 : 0 < Nat.gcd a b := Nat.gcd_pos_of_pos_right _ hb0
  have hgb : Nat.gcd a b ≤ b := Nat.le_of_dvd hb0 (Nat.gcd_dvd_right a b)
  refine ⟨Nat.gcd a b, a / Nat.gcd a b, b / Nat.gcd a b, hg0, (Nat.mul_div_cancel' (Nat.gcd_dvd_left a b)).symm, (Nat.mul_div_cancel' (Nat.gcd_dvd_right a b)).symm, pk_lDiv (by omega) hg0 (by omega), pk_lDiv (by omega) hg0 (by omega), Nat.div_le_div_right hab, Nat.div_pos hgb hg0, Nat.div_le_self _ _⟩
theorem fr_ul {a b : Nat} (hab : a ≤ b) (hb0 : 0 < b) (hb : b < 2 ^ 44) : ¬ lL a b < lU a b ∧ lU a b ≤ lL a b ∧ (0 : Int64) ≤ lU a b := by
  obtain ⟨g, x, y, h1, h2, h3, e1, e2, h4, h5, h6⟩ := fr_val hab hb0 hb
  rw [e1, e2]
  refine ⟨fun q => ?_, (pk_lLE (by omega) (by omega)).mpr h4, ?_⟩
  · have := (pk_lLT (by omega) (by omega)).mp q; omega
  · exact (pk_lLE (a := 0) (b := x) (by omega) (by omega)).mpr (by omega)
theorem fr_pos {a b : Nat} (hab : a ≤ b) (hb0 : 0 < b) (hb : b < 2 ^ 44) : lU a b ≤ (0 : Int64) ↔ a = 0 := by
  obtain ⟨g, x, y, h1, h2, h3, e1, e2, h4, h5, h6⟩ := fr_val hab hb0 hb
  rw [e1]
  have : lN x ≤ (0 : Int64) ↔ x ≤ 0 := pk_lLE (a := x) (b := 0) (by omega) (by omega)
  rw [this, h2]
  constructor
  · intro q
    have : x = 0 := by omega
    rw [this, Nat.mul_zero]
  · intro q
    rcases Nat.mul_eq_zero.mp q with q | q
    · omega
    · omega
theorem fr_le {a1 b1 a2 b2 : Nat} (h1 : a1 ≤ b1) (h2 : a2 ≤ b2) (p1 : 0 < b1) (p2 : 0 < b2) (l1 : b1 < 2 ^ 31) (l2 : b2 < 2 ^ 31) (h : a1 * b2 ≤ a2 * b1) : lU a1 b1 * lL a2 b2 ≤ lU a2 b2 * lL a1 b1 := by
  obtain ⟨g, x, y, k1, k2, k3, e1, e2, k4, k5, k6⟩ := fr_val h1 p1 (by omega)
  obtain ⟨g', x', y', k1', k2', k3', e1', e2', k4', k5', k6'⟩ := fr_val h2 p2 (by omega)
  rw [e1, e2, e1', e2', lN_mul, lN_mul]
  have b1 : x * y' ≤ 2 ^ 31 * 2 ^ 31 := Nat.mul_le_mul (by omega) (by omega)
  have b2 : x' * y ≤ 2 ^ 31 * 2 ^ 31 := Nat.mul_le_mul (by omega) (by omega)
  refine (pk_lLE (by omega) (by omega)).mpr ?_
  rw [k2, k3', k2', k3] at h
  have e3 : g * x * (g' * y') = g * g' * (x * y') := by rw [Nat.mul_mul_mul_comm]
  have e4 : g' * x' * (g * y) = g * g' * (x' * y) := by rw [Nat.mul_mul_mul_comm, Nat.mul_comm g' g]
  rw [e3, e4] at h
  exact Nat.le_of_mul_le_mul_left h (Nat.mul_pos k1 k1')
/-! counting: weights behind x HOURS -/
def oW (n : Nat) (F : Nat → Int32) (ru : Int32) (ho pl c : Nat) (ib : Int32) (x : Nat) : (Nat → Nat) × Nat := ek_it n F ru ho (ek_A0 pl c ib) (ek_H0 ib) x
def oH (n : Nat) (F : Nat → Int32) (ru : Int32) (ho pl c : Nat) (ib : Int32) (x : Nat) : Nat := (oW n F ru ho pl c ib x).2
def oD (n : Nat) (F : Nat → Int32) (ru : Int32) (ho pl c : Nat) (ib : Int32) (x s0 d : Nat) : Nat := ek_pd (oW n F ru ho pl c ib x).1 (oW n F ru ho pl c ib x).2 (nI s0) d
theorem oI {n ho pl c x : Nat} {F : Nat → Int32} {ru ib : Int32} (hn : n ≤ 9) (hw : ∀ i, i < n → ek_wf (ek_ds F i)) (hp : pl < n) (hc : c < 2 ^ n) : ek_In n (oW n F ru ho pl c ib x).1 (oW n F ru ho pl c ib x).2 x := ek_Initer hn hw (ek_In0 hn hp hc) x
theorem oHle {n ho pl c x : Nat} {F : Nat → Int32} {ru ib : Int32} (hn : n ≤ 9) (hw : ∀ i, i < n → ek_wf (ek_ds F i)) (hp : pl < n) (hc : c < 2 ^ n) : oH n F ru ho pl c ib x ≤ 12 ^ x := by
  have := (oI (ho := ho) (ru := ru) (ib := ib) (x := x) hn hw hp hc).2
  unfold oH
  omega
theorem oHgrow {n ho pl c x : Nat} {F : Nat → Int32} {ru ib : Int32} : 12 * oH n F ru ho pl c ib x ≤ oH n F ru ho pl c ib (x + 1) := Nat.le_add_right _ _
theorem oDtot {n ho pl c x s0 : Nat} {F : Nat → Int32} {ru ib : Int32} (hn : n ≤ 9) (hw : ∀ i, i < n → ek_wf (ek_ds F i)) (hp : pl < n) (hc : c < 2 ^ n) (hs : s0 < n) : ek_sn (oD n F ru ho pl c ib x s0) n = 12 ^ x := ek_ptot hn hs (oI hn hw hp hc)
theorem oDle {n ho pl c x s0 d : Nat} {F : Nat → Int32} {ru ib : Int32} (hn : n ≤ 9) (hw : ∀ i, i < n → ek_wf (ek_ds F i)) (hp : pl < n) (hc : c < 2 ^ n) (hs : s0 < n) (hd : d < n) : oD n F ru ho pl c ib x s0 d ≤ 12 ^ x := by
  rw [← oDtot (ho := ho) (ru := ru) (ib := ib) (x := x) hn hw hp hc hs]
  exact ek_snp hd
theorem sr_ahead {i : Nat} (hi : i ≤ 12) : ¬ p_X11_isAhead (nI i) = 0 := by
  rcases ek_ahd (nI i) with ⟨d1, d2⟩ | ⟨j, hj, ej, d1, d2⟩
  · exfalso
    rw [show ((12 : Int32)) = nI 12 from rfl, ek_in1 hi (by decide)] at d2
    exact absurd d2 (by decide)
  · exact d1
theorem sr_n0 {n : Nat} (h0 : 0 < n) (hn : n ≤ 9) : ¬ nI n = 0 := nI_ne0 h0 (by omega)
section SEM
variable {S C TS TC : Nat → Int32} {nn : Int32} {F : Nat → Int32} {rd k0 : TRd} {yn : Int32} {ch : Nat → Int32} {ak : Int32} {up lo : Int64} {th : TH}
variable {n pl c h0 s0 x : Nat} {st ru ib la na li it : Int32} {hs gi wr : Nat → Int32}
theorem s_friday (hn : n ≤ 9) (hw : ∀ i, i < n → ek_wf (ek_ds F i)) (hp : pl < n) (hc : c < 2 ^ n) (hx : x ≤ 12) (h : Sem S C TS TC (nI n) F (mR st ru (nI pl) ib (nI h0) (nI c) la na li it hs gi wr) k0 yn ch ak up lo th) : ∃ th', o_friday th (nI x) = some (1, th') ∧ Sem S C TS TC (nI n) F (mR st ru (nI pl) ib (nI h0) (nI c) la na li it hs gi wr) k0 yn ch ak (lU (oH n F ru h0 pl c ib x) (12 ^ x)) (lL (oH n F ru h0 pl c ib x) (12 ^ x)) th' := by
  obtain ⟨fi, fc, dr, k1, k2, lv, ba, wa, ly, tr, ca, ⟨f1, f2, f3, f4, f5, f6⟩, ⟨n1, n2, n3, n4⟩, ⟨t1, t2, t3, t4⟩, wh, sq, pk, rfl, hS, hT⟩ := h
  obtain ⟨b1, b2, b3, b4, b5, s', nn', Pn', Kn', tn', th', Pt', Kt', g1, ⟨m', κ', g2⟩, g3⟩ := ek_lookX (N := 5000) (ho := h0) (ru := ru) (ib := ib) (wh := wh) (ph := n2) (th := t2) (a1 := f1) (a2 := f2) (a3 := f3) (a4 := f4) (a5 := f5) (s := f6) (by omega) hn hw hx hp hc hS hT
  have e : f_X11_friday 5000 (nI n) F ru (nI pl) ib (nI h0) (nI c) up lo wh f1 f2 f3 f4 f5 f6 n1 n2 n3 n4 t1 t2 t3 t4 (nI x) = some (1, lU (oH n F ru h0 pl c ib x) (12 ^ x), lL (oH n F ru h0 pl c ib x) (12 ^ x), lN (12 ^ x), b1, b2, b3, b4, b5, s', nn', lN (oH n F ru h0 pl c ib x), Pn', Kn', tn', th', Pt', Kt') := by
    unfold f_X11_friday
    rw [if_neg (sr_ahead hx), if_neg (sr_n0 (by omega) hn), g1, bn_t]
    simp only [p_X2_partHome]
    rw [show (ek_it n F ru h0 (ek_A0 pl c ib) (ek_H0 ib) x).2 = oH n F ru h0 pl c ib x from rfl, fr_frac (by omega) (oHle hn hw hp hc) (Nat.pow_pos (by omega)) (ek_1244 hx), bn_t]
  exact ⟨_, bn_e e, _, _, _, _, _, _, _, _, _, _, _, _, (_, _, _, _), (_, _, _, _), _, _, _, rfl, ⟨_, _, _, g2⟩, g3⟩
theorem s_odds {d : Nat} (hn : n ≤ 9) (hw : ∀ i, i < n → ek_wf (ek_ds F i)) (hp : pl < n) (hc : c < 2 ^ n) (hx : x ≤ 12) (hs0 : s0 < n) (hd : d < n) (h : Sem S C TS TC (nI n) F (mR (nI s0) ru (nI pl) ib (nI h0) (nI c) la na li it hs gi wr) k0 yn ch ak up lo th) : ∃ th', o_odds th (nI x) (nI d) = some (1, th') ∧ Sem S C TS TC (nI n) F (mR (nI s0) ru (nI pl) ib (nI h0) (nI c) la na li it hs gi wr) k0 yn ch ak (lU (oD n F ru h0 pl c ib x s0 d) (12 ^ x)) (lL (oD n F ru h0 pl c ib x s0 d) (12 ^ x)) th' := by
  obtain ⟨fi, fc, dr, k1, k2, lv, ba, wa, ly, tr, ca, ⟨f1, f2, f3, f4, f5, f6⟩, ⟨n1, n2, n3, n4⟩, ⟨t1, t2, t3, t4⟩, wh, sq, pk, rfl, hS, hT⟩ := h
  obtain ⟨b1, b2, b3, b4, b5, s', nn', Pn', Kn', tn', th', Pt', Kt', g1, ⟨m', κ', g2⟩, g3⟩ := ek_lookX (N := 5000) (ho := h0) (ru := ru) (ib := ib) (wh := wh) (ph := n2) (th := t2) (a1 := f1) (a2 := f2) (a3 := f3) (a4 := f4) (a5 := f5) (s := f6) (by omega) hn hw hx hp hc hS hT
  have e : f_X11_odds 5000 (nI n) F (nI s0) ru (nI pl) ib (nI h0) (nI c) up lo wh f1 f2 f3 f4 f5 f6 n1 n2 n3 n4 t1 t2 t3 t4 (nI x) (nI d) = some (1, lU (oD n F ru h0 pl c ib x s0 d) (12 ^ x), lL (oD n F ru h0 pl c ib x s0 d) (12 ^ x), lN (12 ^ x), b1, b2, b3, b4, b5, s', nn', lN (oH n F ru h0 pl c ib x), Pn', Kn', tn', th', Pt', Kt') := by
    unfold f_X11_odds
    rw [if_neg (sr_ahead hx), if_neg (sr_nam hn hd), g1, bn_t]
    simp only []
    rw [ek_partX (st := nI s0) (by omega) (by omega) g2, bn_t]
    rw [show (if nI d = nI s0 then (ek_it n F ru h0 (ek_A0 pl c ib) (ek_H0 ib) x).2 else 0) + ek_pa (ek_it n F ru h0 (ek_A0 pl c ib) (ek_H0 ib) x).1 d = oD n F ru h0 pl c ib x s0 d from rfl, fr_frac (by omega) (oDle hn hw hp hc hs0 hd) (Nat.pow_pos (by omega)) (ek_1244 hx), bn_t]
    rfl
  exact ⟨_, bn_e e, _, _, _, _, _, _, _, _, _, _, _, _, (_, _, _, _), (_, _, _, _), _, _, _, rfl, ⟨_, _, _, g2⟩, g3⟩
theorem s_rule {i : Nat} (hn : n ≤ 9) (hw : ∀ i, i < n → ek_wf (ek_ds F i)) (hp : i < n) (hx : x ≤ 12) (h : Sem S C TS TC (nI n) F rd k0 yn ch ak up lo th) : ∃ v th', v < 3 ∧ o_rule th (nI i) (nI x) = some (nI v, th') ∧ Sem S C TS TC (nI n) F rd k0 yn ch ak (lU (oH n F (nI v) 0 i 0 0 x) (12 ^ x)) (lL (oH n F (nI v) 0 i 0 0 x) (12 ^ x)) th' ∧ ∀ r, r < 3 → oH n F (nI r) 0 i 0 0 x ≤ oH n F (nI v) 0 i 0 0 x := by
  obtain ⟨fi, fc, dr, k1, k2, lv, ba, wa, ly, tr, ca, ⟨f1, f2, f3, f4, f5, f6⟩, ⟨n1, n2, n3, n4⟩, ⟨t1, t2, t3, t4⟩, wh, sq, pk, rfl, hS, hT⟩ := h
  have e : ∃ v wh' b1 b2 b3 b4 b5 s' nn' ph' Pn' Kn' tn' th' Pt' Kt', v < 3 ∧ f_X11_rule 5000 (nI n) F up lo wh f1 f2 f3 f4 f5 f6 n1 n2 n3 n4 t1 t2 t3 t4 (nI i) (nI x) = some (nI v, lU (oH n F (nI v) 0 i 0 0 x) (12 ^ x), lL (oH n F (nI v) 0 i 0 0 x) (12 ^ x), wh', b1, b2, b3, b4, b5, s', nn', ph', Pn', Kn', tn', th', Pt', Kt') ∧ ek_Sp nn' Pn' Kn' ∧ ek_Sp tn' Pt' Kt' ∧ ∀ r, r < 3 → oH n F (nI r) 0 i 0 0 x ≤ oH n F (nI v) 0 i 0 0 x := by
    unfold f_X11_rule
    rw [if_neg (sr_nam hn hp), if_neg (sr_ahead hx)]
    have hb44 := ek_1244 hx
    refine ek_forI (σ := Int64 × Int32 × Int32 × Int32 × Int32 × Int32 × (Nat → Int32) × Int32 × Int64 × (Nat → Int64) × (Nat → Int32) × Int32 × Int64 × (Nat → Int64) × (Nat → Int32) × Int32 × Int64) (fun n2 z t => f_X11_rule_b30 5000 (nI n) F n2 up lo t.1 t.2.1 t.2.2.1 t.2.2.2.1 t.2.2.2.2.1 t.2.2.2.2.2.1 t.2.2.2.2.2.2.1 t.2.2.2.2.2.2.2.1 t.2.2.2.2.2.2.2.2.1 t.2.2.2.2.2.2.2.2.2.1 t.2.2.2.2.2.2.2.2.2.2.1 t.2.2.2.2.2.2.2.2.2.2.2.1 t.2.2.2.2.2.2.2.2.2.2.2.2.1 t.2.2.2.2.2.2.2.2.2.2.2.2.2.1 t.2.2.2.2.2.2.2.2.2.2.2.2.2.2.1 (nI i) (nI x) t.2.2.2.2.2.2.2.2.2.2.2.2.2.2.2.1 t.2.2.2.2.2.2.2.2.2.2.2.2.2.2.2.2 z) (fun j t => ek_Sp t.2.2.2.2.2.2.2.1 t.2.2.2.2.2.2.2.2.2.1 t.2.2.2.2.2.2.2.2.2.2.1 ∧ ek_Sp t.2.2.2.2.2.2.2.2.2.2.2.1 t.2.2.2.2.2.2.2.2.2.2.2.2.2.1 t.2.2.2.2.2.2.2.2.2.2.2.2.2.2.1 ∧ ((j = 0 ∧ t.2.2.2.2.2.2.2.2.2.2.2.2.2.2.2.2 = -1) ∨ ∃ v, v < 3 ∧ t.2.2.2.2.2.2.2.2.2.2.2.2.2.2.2.1 = nI v ∧ t.2.2.2.2.2.2.2.2.2.2.2.2.2.2.2.2 = lN (oH n F (nI v) 0 i 0 0 x) ∧ t.1 = lN (12 ^ x) ∧ ∀ r, r < j → oH n F (nI r) 0 i 0 0 x ≤ oH n F (nI v) 0 i 0 0 x)) 3 5000 (by omega) ?_ (wh, f1, f2, f3, f4, f5, f6, n1, n2, n3, n4, t1, t2, t3, t4, 0, -1) ⟨hS, hT, Or.inl ⟨rfl, rfl⟩⟩ (fun r' => ∃ v wh' b1 b2 b3 b4 b5 s' nn' ph' Pn' Kn' tn' th' Pt' Kt', v < 3 ∧ r' = some (nI v, lU (oH n F (nI v) 0 i 0 0 x) (12 ^ x), lL (oH n F (nI v) 0 i 0 0 x) (12 ^ x), wh', b1, b2, b3, b4, b5, s', nn', ph', Pn', Kn', tn', th', Pt', Kt') ∧ ek_Sp nn' Pn' Kn' ∧ ek_Sp tn' Pt' Kt' ∧ ∀ r, r < 3 → oH n F (nI r) 0 i 0 0 x ≤ oH n F (nI v) 0 i 0 0 x) ?_
    · intro n2 j t hj hI
      obtain ⟨u1, u2, u3, u4, u5, u6, u7, u8, u9, u10, u11, u12, u13, u14, u15, u16, u17⟩ := t
      obtain ⟨hS1, hT1, i3⟩ := hI
      simp only at hS1 hT1 i3
      try simp only
      obtain ⟨b1, b2, b3, b4, b5, s', nn', Pn', Kn', tn', th', Pt', Kt', k1, ⟨m', κ', k2⟩, k3⟩ := ek_anewX (N := 5000) (ru := nI j) (wh := u1) (a1 := u2) (a2 := u3) (a3 := u4) (a4 := u5) (a5 := u6) (s := u7) (ph := u9) (th := u13) (by omega) hn hw hx hp hS1 hT1
      have hHb : oH n F (nI j) 0 i 0 0 x ≤ 12 ^ x := oHle hn hw hp (Nat.two_pow_pos n)
      rw [f_X11_rule_b30, if_neg (show ¬ (3 : Int32) ≤ nI j from nI_ge (b := 3) hj (by omega)), k1, bn_t]
      unfold f_X11_rule_b76
      rw [show (ek_it n F (nI j) 0 (ek_A0 i 0 0) (ek_H0 0) x).2 = oH n F (nI j) 0 i 0 0 x from rfl]
      by_cases z : lN (oH n F (nI j) 0 i 0 0 x) ≤ u17
      · have z' : p_X2_partHome (lN (oH n F (nI j) 0 i 0 0 x)) ≤ u17 := z
        try simp only []
        rw [if_pos z', nI_1]
        refine ⟨(_, _, _, _, _, _, _, _, _, _, _, _, _, _, _, u16, u17), rfl, ⟨_, _, _, k2⟩, k3, ?_⟩
        rcases i3 with ⟨-, i3⟩ | ⟨v, hv, i3, i4, i5, i6⟩
        · exfalso
          rw [i3] at z
          have := Int64.le_iff_toInt_le.mp z
          rw [pk_lT (by omega)] at this
          have h1 : ((-1 : Int64)).toInt = -1 := by decide
          rw [h1] at this
          omega
        · refine Or.inr ⟨v, hv, i3, i4, rfl, fun r hr => ?_⟩
          rcases Nat.lt_or_ge r j with q | q
          · exact i6 r q
          · have : r = j := by omega
            subst this
            rw [i4] at z
            exact (pk_lLE (by omega) (by have := oHle (ho := 0) (ru := nI v) (ib := 0) (x := x) hn hw hp (Nat.two_pow_pos n); omega)).mp z
      · have z' : ¬ p_X2_partHome (lN (oH n F (nI j) 0 i 0 0 x)) ≤ u17 := z
        try simp only []
        rw [if_neg z', nI_1]
        refine ⟨(_, _, _, _, _, _, _, _, _, _, _, _, _, _, _, nI j, lN (oH n F (nI j) 0 i 0 0 x)), rfl, ⟨_, _, _, k2⟩, k3, Or.inr ⟨j, hj, rfl, rfl, rfl, fun r hr => ?_⟩⟩
        rcases Nat.lt_or_ge r j with q | q
        · rcases i3 with ⟨i3, -⟩ | ⟨v, hv, i3, i4, i5, i6⟩
          · omega
          · have h1 := i6 r q
            have h2 : ¬ oH n F (nI j) 0 i 0 0 x ≤ oH n F (nI v) 0 i 0 0 x := fun y => z (by
              rw [i4]
              exact (pk_lLE (by omega) (by have := oHle (ho := 0) (ru := nI v) (ib := 0) (x := x) hn hw hp (Nat.two_pow_pos n); omega)).mpr y)
            omega
        · have : r = j := by omega
          subst this
          exact Nat.le_refl _
    · intro n2 t hI
      obtain ⟨u1, u2, u3, u4, u5, u6, u7, u8, u9, u10, u11, u12, u13, u14, u15, u16, u17⟩ := t
      obtain ⟨hS1, hT1, i3⟩ := hI
      simp only at hS1 hT1 i3
      try simp only
      rcases i3 with ⟨i3, -⟩ | ⟨v, hv, i3, i4, i5, i6⟩
      · omega
      rw [f_X11_rule_b30, if_pos (show (3 : Int32) ≤ nI 3 from Int32.le_refl _), i3, i4, i5, fr_frac (by omega) (oHle hn hw hp (Nat.two_pow_pos n)) (Nat.pow_pos (by omega)) hb44, bn_t]
      exact ⟨v, _, _, _, _, _, _, _, _, _, _, _, _, _, _, _, hv, rfl, hS1, hT1, i6⟩
  obtain ⟨v, wh', b1, b2, b3, b4, b5, s', nn', ph', Pn', Kn', tn', th', Pt', Kt', hv, e, g1, g2, g3⟩ := e
  exact ⟨v, _, hv, bn_e e, ⟨_, _, _, _, _, _, _, _, _, _, _, _, (_, _, _, _), (_, _, _, _), _, _, _, rfl, g1, g2⟩, g3⟩
/-! ask -/
def aG (p : Nat → Nat) (n : Nat) : Nat → Int32
  | 0 => 0
  | j + 1 => match ek_lb p (aG p n j) n with
    | none => aG p n j
    | some b => ek_sg (aG p n j) b
def aS (p : Nat → Nat) (n j : Nat) : Nat := ek_ps p (aG p n j) n
theorem sr_uc0 : ∀ m, ek_uc 0 m = m := by
  intro m
  induction m with
  | zero => rfl
  | succ m ih => show ek_uc 0 m + (if ek_bt 0 m then 0 else 1) = m + 1; rw [ih, ek_b0]; rfl
/-- the desks asked one behind the other: each is there, not asked yet; how many they are -/
theorem aGi {p : Nat → Nat} {n : Nat} (hn : n ≤ 9) : ∀ j, j ≤ n → ek_sub n (aG p n j) ∧ ek_uc (aG p n j) n + j = n ∧ ek_pc (aG p n j) = nI j := by
  intro j
  induction j with
  | zero => intro _; exact ⟨ek_sub0 n, by rw [Nat.add_zero]; exact sr_uc0 n, by show ek_pc 0 = nI 0; decide⟩
  | succ j ih =>
    intro hj
    obtain ⟨h1, h2, h3⟩ := ih (by omega)
    obtain ⟨k, hk, hkb⟩ := ek_unset (c := aG p n j) (n := n) (by omega)
    obtain ⟨b, eb⟩ := ek_lbs p (aG p n j) hkb n hk
    obtain ⟨b1, b2⟩ := ek_lbb _ _ n b eb
    have e : aG p n (j + 1) = ek_sg (aG p n j) b := by rw [aG, eb]
    rw [e]
    obtain ⟨c0, hc0, ec0⟩ := ek_small (show n ≤ 31 by omega) h1
    have h9 := ek_p9 hn
    refine ⟨ek_subset h1 b1 (by omega), ?_, ?_⟩
    · have := ek_ucsg b2 (show b < 32 by omega) (m := n) (by omega) b1
      omega
    · unfold ek_sg
      rw [ec0, ek_pcs c0 (by omega) b (by omega) (by rw [← ec0]; exact b2), ← ec0, h3, nI_1]
theorem aGs {p : Nat → Nat} {n j : Nat} (hn : n ≤ 9) (hj : j < n) : ∃ b, b < n ∧ ek_bt (aG p n j) b = false ∧ ek_lb p (aG p n j) n = some b ∧ aG p n (j + 1) = ek_sg (aG p n j) b ∧ aS p n (j + 1) = aS p n j + p b := by
  obtain ⟨h1, h2, h3⟩ := aGi (p := p) hn j (by omega)
  obtain ⟨k, hk, hkb⟩ := ek_unset (c := aG p n j) (n := n) (by omega)
  obtain ⟨b, eb⟩ := ek_lbs p (aG p n j) hkb n hk
  obtain ⟨b1, b2⟩ := ek_lbb _ _ n b eb
  have e : aG p n (j + 1) = ek_sg (aG p n j) b := by rw [aG, eb]
  refine ⟨b, b1, b2, eb, e, ?_⟩
  unfold aS
  rw [e]
  exact ek_psg hn b1 b2
theorem s_askL {H T y z m : Nat} {A κ : Nat → Nat} {cr at_ ho : Int32} {tph : Int64} {a1 a2 a3 a4 a5 nn' tn : Int32} {s Kn Kt : Nat → Int32} {Pn Pt : Nat → Int64} (hn : n ≤ 9) (hS : ek_S nn' Pn Kn m κ A) (hT : T < 2 ^ 44) (hp : ek_sn (ek_pd A H st) n = T) (hy : y ≤ 99) (hz : z ≤ 99) :
    ∀ r j n1, r + j = n → r < n1 → ∃ q, j ≤ q ∧ q ≤ n ∧ (∀ k, j ≤ k → k < q → aS (ek_pd A H st) n k * z < T * y) ∧ (q = n ∨ T * y ≤ aS (ek_pd A H st) n q * z) ∧ f_X11_ask_b67 5000 (f_X11_ask_b142 5000 (nI n) F st ru at_ ib ho cr) (nI n) F st ru at_ ib ho cr n1 ak (lN T) a1 a2 a3 a4 a5 s nn' (lN H) Pn Kn tn tph Pt Kt (nI y) (nI z) (aG (ek_pd A H st) n j) (lN (aS (ek_pd A H st) n j)) (nI j) = some (nI q, aG (ek_pd A H st) n q, lN T, a1, a2, a3, a4, a5, s, nn', lN H, Pn, Kn, tn, tph, Pt, Kt) := by
  have hb : ∀ d, d < n → ek_pd A H st d < 2 ^ 60 := fun d hd => by
    have := ek_snp (f := ek_pd A H st) hd; omega
  have hend : ∀ j, j ≤ n → f_X11_ask_b142 5000 (nI n) F st ru at_ ib ho cr ak (lN T) a1 a2 a3 a4 a5 s nn' (lN H) Pn Kn tn tph Pt Kt (aG (ek_pd A H st) n j) = some (nI j, aG (ek_pd A H st) n j, lN T, a1, a2, a3, a4, a5, s, nn', lN H, Pn, Kn, tn, tph, Pt, Kt) := by
    intro j hj
    obtain ⟨g1, g2, g3⟩ := aGi (p := ek_pd A H st) hn j hj
    unfold f_X11_ask_b142
    rw [ek_bcX (ek_sub9 hn g1), g3]
    rfl
  intro r
  induction r with
  | zero =>
    intro j n1 hj h1
    obtain ⟨n1, rfl⟩ : ∃ q, n1 = q + 1 := ⟨n1 - 1, by omega⟩
    refine ⟨j, Nat.le_refl _, by omega, fun k g1 g2 => by omega, Or.inl (by omega), ?_⟩
    rw [f_X11_ask_b67, if_pos (nI_le (by omega) (by omega)), hend j (by omega)]
  | succ r ih =>
    intro j n1 hj h1
    obtain ⟨n1, rfl⟩ : ∃ q, n1 = q + 1 := ⟨n1 - 1, by omega⟩
    have hle : aS (ek_pd A H st) n j ≤ T := by rw [← hp]; exact ek_psle
    have cmp : lN T * (nI y).toInt64 ≤ lN (aS (ek_pd A H st) n j) * (nI z).toInt64 ↔ T * y ≤ aS (ek_pd A H st) n j * z := by
      have b1 : T * y ≤ 2 ^ 44 * 99 := Nat.mul_le_mul (by omega) hy
      have b2 : aS (ek_pd A H st) n j * z ≤ 2 ^ 44 * 99 := Nat.mul_le_mul (by omega) hz
      rw [nI_l (by omega), nI_l (by omega), lN_mul, lN_mul]
      exact pk_lLE (by omega) (by omega)
    rw [f_X11_ask_b67, if_neg (nI_ge (by omega) (by omega))]
    by_cases q : lN T * (nI y).toInt64 ≤ lN (aS (ek_pd A H st) n j) * (nI z).toInt64
    · rw [if_pos q, hend j (by omega)]
      exact ⟨j, Nat.le_refl _, by omega, fun k g1 g2 => by omega, Or.inr (cmp.mp q), rfl⟩
    · obtain ⟨b, b1, b2, eb, e1, e2⟩ := aGs (p := ek_pd A H st) hn (show j < n by omega)
      have hlX := ek_lbX (N := 5000) (c := aG (ek_pd A H st) n j) (by omega) hn hS hb
      rw [eb] at hlX
      rw [if_neg q, hlX, bn_t, ek_partX (st := st) (by omega) (show b < 9 by omega) hS, bn_t, nm_t, nm_t, lN_add, nI_1]
      have es : aS (ek_pd A H st) n j + ((if nI b = st then H else 0) + ek_pa A b) = aS (ek_pd A H st) n (j + 1) := e2.symm
      rw [es]
      change ∃ q, _ ∧ _ ∧ _ ∧ _ ∧ f_X11_ask_b67 _ _ _ _ _ _ _ _ _ _ _ _ _ _ _ _ _ _ _ _ _ _ _ _ _ _ _ _ _ (ek_sg (aG (ek_pd A H st) n j) b) _ _ = _
      rw [← e1]
      obtain ⟨q', g1, g2, g3, g4, g5⟩ := ih (j + 1) n1 (by omega) (by omega)
      refine ⟨q', by omega, g2, fun k h1 h2 => ?_, g4, g5⟩
      rcases Nat.lt_or_ge k (j + 1) with h | h
      · have : k = j := by omega
        subst this
        exact Nat.not_le.mp (fun w => q (cmp.mpr w))
      · exact g3 k h h2
theorem s_ask {y z : Nat} (hn : n ≤ 9) (hw : ∀ i, i < n → ek_wf (ek_ds F i)) (hp : pl < n) (hc : c < 2 ^ n) (hx : x ≤ 12) (hs0 : s0 < n) (hyz : y ≤ z) (hz0 : 0 < z) (hz : z ≤ 99) (h : Sem S C TS TC (nI n) F (mR (nI s0) ru (nI pl) ib (nI h0) (nI c) la na li it hs gi wr) k0 yn ch ak up lo th) : ∃ q th', o_ask th (nI x) (nI y) (nI z) = some (nI q, th') ∧ Sem S C TS TC (nI n) F (mR (nI s0) ru (nI pl) ib (nI h0) (nI c) la na li it hs gi wr) k0 yn ch (aG (oD n F ru h0 pl c ib x s0) n q) up lo th' ∧ q ≤ n ∧ (∀ k, k < q → aS (oD n F ru h0 pl c ib x s0) n k * z < 12 ^ x * y) ∧ (q = n ∨ 12 ^ x * y ≤ aS (oD n F ru h0 pl c ib x s0) n q * z) := by
  obtain ⟨fi, fc, dr, k1, k2, lv, ba, wa, ly, tr, ca, ⟨f1, f2, f3, f4, f5, f6⟩, ⟨n1, n2, n3, n4⟩, ⟨t1, t2, t3, t4⟩, wh, sq, pk, rfl, hS, hT⟩ := h
  obtain ⟨b1, b2, b3, b4, b5, s', nn', Pn', Kn', tn', th', Pt', Kt', g1, ⟨m', κ', g2⟩, g3⟩ := ek_lookX (N := 5000) (ho := h0) (ru := ru) (ib := ib) (wh := wh) (ph := n2) (th := t2) (a1 := f1) (a2 := f2) (a3 := f3) (a4 := f4) (a5 := f5) (s := f6) (by omega) hn hw hx hp hc hS hT
  obtain ⟨q, q1, q2, q3, q4, q5⟩ := s_askL (H := (ek_it n F ru h0 (ek_A0 pl c ib) (ek_H0 ib) x).2) (F := F) (st := nI s0) (ru := ru) (ib := ib) (ak := ak) (cr := nI c) (at_ := nI pl) (ho := nI h0) (tph := th') (a1 := b1) (a2 := b2) (a3 := b3) (a4 := b4) (a5 := b5) (s := s') (tn := tn') (Pt := Pt') (Kt := Kt') hn g2 (ek_1244 hx) (oDtot hn hw hp hc hs0) (show y ≤ 99 by omega) hz n 0 5000 (by omega) (by omega)
  have e0 : aS (ek_pd (ek_it n F ru h0 (ek_A0 pl c ib) (ek_H0 ib) x).1 (ek_it n F ru h0 (ek_A0 pl c ib) (ek_H0 ib) x).2 (nI s0)) n 0 = 0 := ek_snz (fun d _ => by rw [show aG _ n 0 = 0 from rfl, ek_b0]; rfl)
  rw [e0] at q5
  have e : f_X11_ask 5000 (nI n) F (nI s0) ru (nI pl) ib (nI h0) (nI c) ak wh f1 f2 f3 f4 f5 f6 n1 n2 n3 n4 t1 t2 t3 t4 (nI x) (nI y) (nI z) = some (nI q, aG (oD n F ru h0 pl c ib x s0) n q, lN (12 ^ x), b1, b2, b3, b4, b5, s', nn', lN (oH n F ru h0 pl c ib x), Pn', Kn', tn', th', Pt', Kt') := by
    unfold f_X11_ask
    rw [if_neg (sr_ahead hx), if_neg (show ¬ nI z < 1 from nI_nlt (b := 1) hz0 (by omega)), if_neg (show ¬ (99 : Int32) < nI z from nI_nlt (a := 99) hz (by omega)), if_neg (nI_pos (by omega)), if_pos (nI_le hyz (by omega)), if_neg (sr_n0 (by omega) hn), g1, bn_t]
    exact q5
  exact ⟨q, _, bn_e e, ⟨_, _, _, _, _, _, _, _, _, _, _, _, (_, _, _, _), (_, _, _, _), _, _, _, rfl, ⟨_, _, _, g2⟩, g3⟩, q2, fun k hk => q3 k (by omega) hk, q4⟩
end SEM
