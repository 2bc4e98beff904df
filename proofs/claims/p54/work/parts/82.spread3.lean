/-! the spread: the class's hours -/
theorem ek_snmono {f : Nat → Nat} {m : Nat} : ∀ {M : Nat}, m ≤ M → ek_sn f m ≤ ek_sn f M := by
  intro M
  induction M with
  | zero => intro h; rw [Nat.le_zero.mp h]; exact Nat.le_refl _
  | succ M ih =>
    intro h
    rcases Nat.lt_or_ge M m with q | q
    · rw [show M + 1 = m by omega]; exact Nat.le_refl _
    · exact Nat.le_trans (ih q) (show ek_sn f M ≤ ek_sn f M + f M by omega)
theorem ek_snswap {f : Nat → Nat → Nat} {M : Nat} : ∀ {m : Nat}, ek_sn (fun j => ek_sn (fun q => f q j) M) m = ek_sn (fun q => ek_sn (f q) m) M := by
  intro m
  induction m with
  | zero =>
    show 0 = _
    rw [ek_snz]
    intro j _; rfl
  | succ m ih =>
    show ek_sn (fun j => ek_sn (fun q => f q j) M) m + ek_sn (fun q => f q m) M = ek_sn (fun q => ek_sn (f q) m + f q m) M
    rw [ih, ek_snadd]
theorem ek_snmul {f : Nat → Nat} {a : Nat} : ∀ {m : Nat}, ek_sn (fun j => a * f j) m = a * ek_sn f m := by
  intro m
  induction m with
  | zero => rfl
  | succ m ih => show ek_sn (fun j => a * f j) m + a * f m = a * (ek_sn f m + f m); rw [ih, Nat.mul_add]
/-- one hour of odds -/
def ek_A (n : Nat) (F : Nat → Int32) (ru h : Int32) (A : Nat → Nat) (j : Nat) : Nat := ek_sn (fun q => ek_ta (ek_q n F ru h q) (A q) j) 4608
def ek_Ah (n : Nat) (F : Nat → Int32) (ru h : Int32) (A : Nat → Nat) (H : Nat) : Nat := 12 * H + ek_sn (fun q => ek_th (ek_q n F ru h q) (A q)) 4608
def ek_it (n : Nat) (F : Nat → Int32) (ru : Int32) (ho : Nat) (A : Nat → Nat) (H : Nat) : Nat → (Nat → Nat) × Nat
  | 0 => (A, H)
  | i + 1 => (ek_A n F ru (nI (ho + i)) (ek_it n F ru ho A H i).1, ek_Ah n F ru (nI (ho + i)) (ek_it n F ru ho A H i).1 (ek_it n F ru ho A H i).2)
def ek_In (n : Nat) (A : Nat → Nat) (H i : Nat) : Prop := (∀ q, q < 4608 → 0 < A q → q % 9 < n ∧ q / 9 < 2 ^ n) ∧ ek_sn A 4608 + H = 12 ^ i
theorem ek_12 {i : Nat} (h : i ≤ 13) : 12 ^ i < 2 ^ 50 := Nat.lt_of_le_of_lt (Nat.pow_le_pow_right (n := 12) (by omega) h) (by decide)
theorem ek_Inext {n i H : Nat} {F : Nat → Int32} {ru h : Int32} {A : Nat → Nat} (hn : n ≤ 9) (hw : ∀ i, i < n → ek_wf (ek_ds F i)) (hI : ek_In n A H i) : ek_In n (ek_A n F ru h A) (ek_Ah n F ru h A H) (i + 1) := by
  obtain ⟨h1, h2⟩ := hI
  refine ⟨?_, ?_⟩
  · intro j hj hp
    by_cases e : ∃ q, q < 4608 ∧ 0 < ek_ta (ek_q n F ru h q) (A q) j
    · obtain ⟨q, hq, hp2⟩ := e
      rcases Nat.eq_zero_or_pos (A q) with z | z
      · rw [z, ek_ta0] at hp2; omega
      · obtain ⟨a, b⟩ := h1 q hq z
        exact ek_tasup hn (ek_qks hn hw a b) hp2
    · exfalso
      unfold ek_A at hp
      rw [ek_snz] at hp
      · omega
      · intro q hq
        rcases Nat.eq_zero_or_pos (ek_ta (ek_q n F ru h q) (A q) j) with z | z
        · exact z
        · exact absurd ⟨q, hq, z⟩ e
  · unfold ek_A ek_Ah
    rw [ek_snswap (f := fun q j => ek_ta (ek_q n F ru h q) (A q) j)]
    have e : ek_sn (fun q => ek_sn (ek_ta (ek_q n F ru h q) (A q)) 4608) 4608 + ek_sn (fun q => ek_th (ek_q n F ru h q) (A q)) 4608 = 12 * ek_sn A 4608 := by
      rw [← ek_snadd, ← ek_snmul]
      refine ek_snext (fun q hq => ?_)
      rcases Nat.eq_zero_or_pos (A q) with z | z
      · rw [z, ek_th0, ek_snz (fun j _ => ek_ta0)]
      · obtain ⟨a, b⟩ := h1 q hq z
        exact ek_tmass hn (ek_qks hn hw a b)
    rw [Nat.pow_succ, ← h2]
    change ek_sn (fun q => ek_sn (ek_ta (ek_q n F ru h q) (A q)) 4608) 4608 + (12 * H + ek_sn (fun q => ek_th (ek_q n F ru h q) (A q)) 4608) = _
    omega
theorem ek_Initer {n ho : Nat} {F : Nat → Int32} {ru : Int32} {A : Nat → Nat} {H : Nat} (hn : n ≤ 9) (hw : ∀ i, i < n → ek_wf (ek_ds F i)) (hI : ek_In n A H 0) : ∀ i, ek_In n (ek_it n F ru ho A H i).1 (ek_it n F ru ho A H i).2 i := by
  intro i
  induction i with
  | zero => exact hI
  | succ i ih => exact ek_Inext hn hw ih
theorem ek_Sext {num : Int32} {P : Nat → Int64} {K : Nat → Int32} {m : Nat} {κ A A' : Nat → Nat} (h : ek_S num P K m κ A) (e : ∀ q, q < 4608 → A' q = A q) : ek_S num P K m κ A' := by
  obtain ⟨h1, h2, h3, h4, h5⟩ := h
  refine ⟨h1, fun k hk => ?_, h3, fun q hq => by rw [e q hq]; exact h4 q hq, fun q hq hp => h5 q hq (by rw [← e q hq]; exact hp)⟩
  obtain ⟨a, b, g⟩ := h2 k hk
  exact ⟨a, b, by rw [e _ b]; exact g⟩
theorem ek_hrS {N n H i : Nat} {F : Nat → Int32} {Pn P : Nat → Int64} {Kn K s : Nat → Int32} {ru h x2 x4 x5 a1 a2 a3 a4 a5 nn num : Int32} {wh hn' : Int64} {m : Nat} {κ κ0 A : Nat → Nat} (hN : 5000 ≤ N) (hn : n ≤ 9) (hw : ∀ i, i < n → ek_wf (ek_ds F i)) (hS : ek_S nn Pn Kn m κ A) (hI : ek_In n A H i) (hi : i ≤ 12) (h0 : ek_S num P K 0 κ0 (fun _ => 0)) (eh : x2 + x5 = h)
    (k75 : Int64 → Int32 → Int32 → Int32 → Int32 → Int32 → (Nat → Int32) → Int32 → Int64 → (Nat → Int64) → (Nat → Int32) → Int32 → Int64 → (Nat → Int64) → (Nat → Int32) → Int32 → Int32 → Int32 → Int32 → Option (Int64 × Int32 × Int32 × Int32 × Int32 × Int32 × (Nat → Int32) × Int32 × Int64 × (Nat → Int64) × (Nat → Int32) × Int32 × Int64 × (Nat → Int64) × (Nat → Int32))) :
    ∃ b1 b2 b3 b4 b5 s' num' P' K' m' κ', f_X2_passHours_b38 N k75 (nI n) F N wh a1 a2 a3 a4 a5 s nn hn' Pn Kn num (lN (12 * H)) P K x2 ru x4 x5 0 = k75 wh b1 b2 b3 b4 b5 s' nn hn' Pn Kn num' (lN (ek_Ah n F ru h A H)) P' K' x2 ru x4 x5 ∧ ek_S num' P' K' m' κ' (ek_A n F ru h A) := by
  have hm := ek_Sm hS
  have hb := ek_12 (show i + 1 ≤ 13 by omega)
  have hb2 := ek_12 (show i ≤ 13 by omega)
  have hIn := ek_Inext (ru := ru) (h := h) hn hw hI
  -- the sum over the listed keys
  have hperm : ∀ (f : Nat → Nat), (∀ q, q < 4608 → 0 < f q → 0 < A q) → ek_sn (fun k => f (κ k)) m = ek_sn f 4608 := fun f hf => ek_snperm (fun k hk => (hS.2.1 k hk).2.1) hS.2.2.1 (fun q hq hp => hS.2.2.2.2 q hq (hf q hq hp))
  have hta : ∀ j, ek_sn (fun k => ek_ta (ek_q n F ru h (κ k)) (A (κ k)) j) m = ek_A n F ru h A j := fun j => hperm (fun q => ek_ta (ek_q n F ru h q) (A q) j) (fun q _ hp => by
    rcases Nat.eq_zero_or_pos (A q) with z | z
    · simp only [z, ek_ta0] at hp; omega
    · exact z)
  have hth : ek_sn (fun k => ek_th (ek_q n F ru h (κ k)) (A (κ k))) m = ek_sn (fun q => ek_th (ek_q n F ru h q) (A q)) 4608 := hperm (fun q => ek_th (ek_q n F ru h q) (A q)) (fun q _ hp => by
    rcases Nat.eq_zero_or_pos (A q) with z | z
    · simp only [z, ek_th0] at hp; omega
    · exact z)
  refine ek_forI (σ := Int32 × Int32 × Int32 × Int32 × Int32 × (Nat → Int32) × Int32 × Int64 × (Nat → Int64) × (Nat → Int32)) (fun n2 x t => f_X2_passHours_b38 N k75 (nI n) F n2 wh t.1 t.2.1 t.2.2.1 t.2.2.2.1 t.2.2.2.2.1 t.2.2.2.2.2.1 nn hn' Pn Kn t.2.2.2.2.2.2.1 t.2.2.2.2.2.2.2.1 t.2.2.2.2.2.2.2.2.1 t.2.2.2.2.2.2.2.2.2 x2 ru x4 x5 x)
    (fun j t => t.2.2.2.2.2.2.2.1 = lN (12 * H + ek_sn (fun k => ek_th (ek_q n F ru h (κ k)) (A (κ k))) j) ∧ ∃ m' κ', ek_S t.2.2.2.2.2.2.1 t.2.2.2.2.2.2.2.2.1 t.2.2.2.2.2.2.2.2.2 m' κ' (fun q => ek_sn (fun k => ek_ta (ek_q n F ru h (κ k)) (A (κ k)) q) j)) m N (by omega) ?_ (a1, a2, a3, a4, a5, s, num, lN (12 * H), P, K) ⟨rfl, 0, κ0, h0⟩ (fun r => ∃ b1 b2 b3 b4 b5 s' num' P' K' m' κ', r = k75 wh b1 b2 b3 b4 b5 s' nn hn' Pn Kn num' (lN (ek_Ah n F ru h A H)) P' K' x2 ru x4 x5 ∧ ek_S num' P' K' m' κ' (ek_A n F ru h A)) ?_
  · intro n2 j t hj hI2
    obtain ⟨t1, t2, t3, t4, t5, t6, t7, t8, t9, t10⟩ := t
    obtain ⟨e8, m', κ', hS'⟩ := hI2
    simp only at e8 hS'
    try simp only
    obtain ⟨g1, g2, g3⟩ := hS.2.1 j hj
    obtain ⟨s1, s2⟩ := hI.1 _ g2 g3
    have hAb : A (κ j) ≤ 12 ^ i := by have := ek_snp (f := A) g2; have := hI.2; omega
    have hbd : ∀ q, q < 4608 → ek_sn (fun k => ek_ta (ek_q n F ru h (κ k)) (A (κ k)) q) j < 2 ^ 60 := by
      intro q hq
      have c1 := ek_snmono (f := fun k => ek_ta (ek_q n F ru h (κ k)) (A (κ k)) q) (Nat.le_of_lt hj)
      rw [hta q] at c1
      have c2 := ek_snp (f := ek_A n F ru h A) hq
      have c3 := hIn.2
      omega
    obtain ⟨b1, b2, b3, b4, b5, s', num', P', K', m2, κ2, f1, f2⟩ := ek_spX (ru := ru) (h := h) (s := t6) (a1 := t1) (a2 := t2) (a3 := t3) (a4 := t4) (a5 := t5) (H := 12 * H + ek_sn (fun k => ek_th (ek_q n F ru h (κ k)) (A (κ k))) j) hN hn hw g2 s1 s2 (hS.2.2.2.1 _ g2) (by omega) hS' hbd
    refine ⟨(b1, b2, b3, b4, b5, s', num', lN (12 * H + ek_sn (fun k => ek_th (ek_q n F ru h (κ k)) (A (κ k))) j + ek_th (ek_q n F ru h (κ j)) (A (κ j))), P', K'), ?_, ?_, m2, κ2, f2⟩
    · rw [f_X2_passHours_b38, hS.1, if_neg (nI_ge hj (by omega)), ← hS.1, ek_keyAt hS hj, eh, e8, f1, bn_t, nI_1]
    · show _ = lN (12 * H + (ek_sn (fun k => ek_th (ek_q n F ru h (κ k)) (A (κ k))) j + ek_th (ek_q n F ru h (κ j)) (A (κ j))))
      rw [Nat.add_assoc]
  · intro n2 t hI2
    obtain ⟨t1, t2, t3, t4, t5, t6, t7, t8, t9, t10⟩ := t
    obtain ⟨e8, m', κ', hS'⟩ := hI2
    simp only at e8 hS'
    try simp only
    refine ⟨t1, t2, t3, t4, t5, t6, t7, t9, t10, m', κ', ?_, ek_Sext hS' (fun q _ => (hta q).symm)⟩
    rw [f_X2_passHours_b38, if_pos (show nn ≤ nI m by rw [hS.1]; exact Int32.le_refl _), e8, hth]
    rfl
