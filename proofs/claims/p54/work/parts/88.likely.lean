/-! ask: the likeliest desk -/
theorem ek_pcs : ∀ c, c < 512 → ∀ z, z < 9 → ek_bt (nI c) z = false → ek_pc (nI c ||| ((1 : Int32) <<< (nI z &&& 31))) = ek_pc (nI c) + 1 := by decide +kernel
/-- what is likely: the home's part and the parts -/
def ek_pd (A : Nat → Nat) (H : Nat) (st : Int32) (d : Nat) : Nat := (if nI d = st then H else 0) + ek_pa A d
def ek_lb (p : Nat → Nat) (c : Int32) : Nat → Option Nat
  | 0 => none
  | d + 1 => if ek_bt c d then ek_lb p c d else match ek_lb p c d with
    | none => some d
    | some b => if p d ≤ p b then some b else some d
theorem ek_lbb (p : Nat → Nat) (c : Int32) : ∀ d b, ek_lb p c d = some b → b < d ∧ ek_bt c b = false := by
  intro d
  induction d with
  | zero => intro b h; cases h
  | succ d ih =>
    intro b h
    rw [ek_lb] at h
    by_cases e : ek_bt c d = true
    · rw [if_pos e] at h
      obtain ⟨a, g⟩ := ih b h
      exact ⟨by omega, g⟩
    · rw [if_neg e] at h
      have e' : ek_bt c d = false := by cases q : ek_bt c d <;> simp_all
      cases q : ek_lb p c d with
      | none => rw [q] at h; cases h; exact ⟨by omega, e'⟩
      | some b1 =>
        rw [q] at h
        obtain ⟨a, g⟩ := ih b1 q
        by_cases r : p d ≤ p b1
        · simp only [r, if_true] at h; cases h; exact ⟨by omega, g⟩
        · simp only [r, if_false] at h; cases h; exact ⟨by omega, e'⟩
theorem ek_lbs (p : Nat → Nat) (c : Int32) {k : Nat} (hk : ek_bt c k = false) : ∀ d, k < d → ∃ b, ek_lb p c d = some b := by
  intro d
  induction d with
  | zero => intro h; omega
  | succ d ih =>
    intro h
    rw [ek_lb]
    by_cases e : ek_bt c d = true
    · rw [if_pos e]
      refine ih ?_
      rcases Nat.lt_or_ge k d with q | q
      · exact q
      · have : k = d := by omega
        rw [this] at hk; rw [hk] at e; cases e
    · rw [if_neg e]
      cases q : ek_lb p c d with
      | none => exact ⟨d, rfl⟩
      | some b1 =>
        by_cases r : p d ≤ p b1
        · exact ⟨b1, by simp only [r, if_true]⟩
        · exact ⟨d, by simp only [r, if_false]⟩
theorem ek_lbX {N n H : Nat} {num st c : Int32} {P : Nat → Int64} {K : Nat → Int32} {m : Nat} {κ A : Nat → Nat} (hN : 5000 ≤ N) (hn : n ≤ 9) (h : ek_S num P K m κ A) (hb : ∀ d, d < n → ek_pd A H st d < 2 ^ 60) :
    f_X11_likeliestBut N (nI n) st num (lN H) P K c = some (match ek_lb (ek_pd A H st) c n with | none => 0 | some b => nI b) := by
  unfold f_X11_likeliestBut
  refine ek_forI (σ := Int32 × Int64) (fun n2 z t => f_X11_likeliestBut_b9 N (nI n) st num (lN H) P K n2 c t.1 t.2 z) (fun j t => t = (match ek_lb (ek_pd A H st) c j with | none => ((0 : Int32), (-1 : Int64)) | some b => (nI b, lN (ek_pd A H st b)))) n N (by omega) ?_ (0, -1) rfl (fun r => r = some (match ek_lb (ek_pd A H st) c n with | none => 0 | some b => nI b)) ?_
  · intro n2 j t hj hI
    refine ⟨_, ?_, rfl⟩
    subst hI
    try simp only
    rw [f_X11_likeliestBut_b9, if_neg (nI_ge hj (by omega)), ek_partX (st := st) hN (show j < 9 by omega) h, bn_t, ek_bits c (show j < 32 by omega)]
    unfold f_X11_likeliestBut_b61
    rw [nI_1, ek_lb]
    change _ = f_X11_likeliestBut_b9 N (nI n) st num (lN H) P K n2 c _ _ (nI (j + 1))
    cases e : ek_bt c j
    · simp only [Bool.false_eq_true, if_false, if_true]
      cases q : ek_lb (ek_pd A H st) c j with
      | none =>
        try simp only
        have y' : ¬ lN ((if nI j = st then H else 0) + ek_pa A j) ≤ (-1 : Int64) := fun z => by
          have := Int64.le_iff_toInt_le.mp z
          change (lN (ek_pd A H st j)).toInt ≤ _ at this
          rw [pk_lT (Nat.lt_trans (hb j hj) (by decide))] at this
          have h1 : ((-1 : Int64)).toInt = -1 := by decide
          rw [h1] at this
          omega
        simp only [if_neg y']
        rfl
      | some b =>
        have hbj := (ek_lbb _ c j b q).1
        have hle := pk_lLE (a := ek_pd A H st j) (b := ek_pd A H st b) (Nat.lt_trans (hb j hj) (by decide)) (Nat.lt_trans (hb b (by omega)) (by decide))
        try simp only
        by_cases y : ek_pd A H st j ≤ ek_pd A H st b
        · have y' : lN ((if nI j = st then H else 0) + ek_pa A j) ≤ lN (ek_pd A H st b) := hle.mpr y
          simp only [if_pos y, if_pos y']
        · have y' : ¬ lN ((if nI j = st then H else 0) + ek_pa A j) ≤ lN (ek_pd A H st b) := fun z => y (hle.mp z)
          simp only [if_neg y, if_neg y']
          rfl
    · simp only [if_true]
      rw [if_neg (show ¬ (1 : Int32) = 0 by decide), if_neg (show ¬ (1 : Int32) = 0 by decide)]
  · intro n2 t hI
    subst hI
    try simp only
    rw [f_X11_likeliestBut_b9, if_pos (nI_le (Nat.le_refl _) (by omega))]
    cases ek_lb (ek_pd A H st) c n <;> rfl
