/-! the spread: sums, and the class's spread -/
def ek_sn (f : Nat → Nat) : Nat → Nat
  | 0 => 0
  | m + 1 => ek_sn f m + f m
theorem ek_snext {f g : Nat → Nat} : ∀ {m : Nat}, (∀ j, j < m → f j = g j) → ek_sn f m = ek_sn g m := by
  intro m
  induction m with
  | zero => intro _; rfl
  | succ m ih => intro h; show ek_sn f m + f m = ek_sn g m + g m; rw [ih (fun j hj => h j (by omega)), h m (by omega)]
theorem ek_snz {f : Nat → Nat} : ∀ {m : Nat}, (∀ j, j < m → f j = 0) → ek_sn f m = 0 := by
  intro m
  induction m with
  | zero => intro _; rfl
  | succ m ih => intro h; show ek_sn f m + f m = 0; rw [ih (fun j hj => h j (by omega)), h m (by omega)]
theorem ek_snadd {f g : Nat → Nat} : ∀ {m : Nat}, ek_sn (fun j => f j + g j) m = ek_sn f m + ek_sn g m := by
  intro m
  induction m with
  | zero => rfl
  | succ m ih => show ek_sn (fun j => f j + g j) m + (f m + g m) = ek_sn f m + f m + (ek_sn g m + g m); rw [ih]; omega
theorem ek_snle {f g : Nat → Nat} : ∀ {m : Nat}, (∀ j, j < m → f j ≤ g j) → ek_sn f m ≤ ek_sn g m := by
  intro m
  induction m with
  | zero => intro _; exact Nat.le_refl _
  | succ m ih => intro h; show ek_sn f m + f m ≤ ek_sn g m + g m; have := ih (fun j hj => h j (by omega)); have := h m (by omega); omega
theorem ek_snone {v p : Nat} : ∀ {m : Nat}, ek_sn (fun j => if j = p then v else 0) m = if p < m then v else 0 := by
  intro m
  induction m with
  | zero => rfl
  | succ m ih =>
    show ek_sn (fun j => if j = p then v else 0) m + (if m = p then v else 0) = _
    rw [ih]
    by_cases a : m = p
    · rw [if_neg (by omega), if_pos a, if_pos (by omega)]; omega
    · rw [if_neg a]
      by_cases b : p < m
      · rw [if_pos b, if_pos (by omega)]; omega
      · rw [if_neg b, if_neg (by omega)]
theorem ek_snupd {f : Nat → Nat} {v p m : Nat} (hp : p < m) : ek_sn (fun j => f j + (if j = p then v else 0)) m = ek_sn f m + v := by
  rw [ek_snadd, ek_snone, if_pos hp]
theorem ek_snp {f : Nat → Nat} {p m : Nat} (hp : p < m) : f p ≤ ek_sn f m := by
  have h : ek_sn (fun j => if j = p then f p else 0) m ≤ ek_sn f m := ek_snle (fun j _ => by split
                                                                                             · rename_i e; rw [e]; exact Nat.le_refl _
                                                                                             · omega)
  rw [ek_snone, if_pos hp] at h
  exact h
/-- a sum over keys that are named once each, and all that count -/
theorem ek_snperm {M : Nat} : ∀ {m : Nat} {κ f : Nat → Nat}, (∀ k, k < m → κ k < M) → (∀ i j, i < m → j < m → κ i = κ j → i = j) → (∀ q, q < M → 0 < f q → ∃ k, k < m ∧ κ k = q) → ek_sn (fun k => f (κ k)) m = ek_sn f M := by
  intro m
  induction m with
  | zero =>
    intro κ f h1 h2 h3
    rw [ek_snz (f := f)]
    · rfl
    · intro j hj
      rcases Nat.eq_zero_or_pos (f j) with e | e
      · exact e
      · obtain ⟨k, hk, -⟩ := h3 j hj e; omega
  | succ m ih =>
    intro κ f h1 h2 h3
    show ek_sn (fun k => f (κ k)) m + f (κ m) = _
    have hf : ∀ q, q < M → f q = (if q = κ m then 0 else f q) + (if q = κ m then f (κ m) else 0) := by
      intro q _
      by_cases e : q = κ m
      · rw [if_pos e, if_pos e, e]; omega
      · rw [if_neg e, if_neg e]; omega
    rw [ek_snext hf, ek_snadd, ek_snone, if_pos (h1 m (by omega))]
    congr 1
    have := ih (κ := κ) (f := fun q => if q = κ m then 0 else f q) (fun k hk => h1 k (by omega)) (fun i j hi hj => h2 i j (by omega) (by omega)) (fun q hq hp => by
      by_cases e : q = κ m
      · simp only [e, if_true] at hp; omega
      · simp only [e, if_false] at hp
        obtain ⟨k, hk, ek⟩ := h3 q hq hp
        refine ⟨k, ?_, ek⟩
        rcases Nat.lt_or_ge k m with z | z
        · exact z
        · exfalso; apply e; rw [← ek, show k = m by omega])
    rw [← this]
    refine ek_snext (fun j hj => ?_)
    rw [if_neg]
    intro e
    have := h2 j m (by omega) (by omega) e
    omega
theorem ek_sn1 : ∀ m, ek_sn (fun _ => 1) m = m := by
  intro m
  induction m with
  | zero => rfl
  | succ m ih => show ek_sn (fun _ => 1) m + 1 = m + 1; rw [ih]
/-- as many keys at most -/
theorem ek_pig {M m : Nat} {κ : Nat → Nat} (h1 : ∀ k, k < m → κ k < M) (h2 : ∀ i j, i < m → j < m → κ i = κ j → i = j) : m ≤ M := by
  have e := ek_snperm (M := M) (m := m) (κ := κ) (f := fun q => if ∃ k, k < m ∧ κ k = q then 1 else 0) h1 h2 (fun q hq hp => by
    by_cases e : ∃ k, k < m ∧ κ k = q
    · exact e
    · simp only [e, if_false] at hp; omega)
  rw [ek_snext (g := fun _ => 1) (fun j hj => if_pos ⟨j, hj, rfl⟩), ek_sn1] at e
  rw [e]
  have := ek_snle (f := fun q => if ∃ k, k < m ∧ κ k = q then 1 else 0) (g := fun _ => 1) (m := M) (fun j _ => by split <;> omega)
  rw [ek_sn1] at this
  exact this
theorem ek_pig1 {M m q0 : Nat} {κ : Nat → Nat} (h1 : ∀ k, k < m → κ k < M) (h2 : ∀ i j, i < m → j < m → κ i = κ j → i = j) (hq : q0 < M) (h3 : ∀ k, k < m → κ k ≠ q0) : m < M := by
  have := ek_pig (M := M) (m := m + 1) (κ := fun k => if k = m then q0 else κ k) (fun k hk => by
    by_cases e : k = m
    · simp only [e, if_true]; exact hq
    · simp only [e, if_false]; exact h1 k (by omega)) (fun i j hi hj e => by
    by_cases a : i = m <;> by_cases b : j = m
    · omega
    · simp only [a, b, if_true, if_false] at e; exact absurd e.symm (h3 j (by omega))
    · simp only [a, b, if_true, if_false] at e; exact absurd e (h3 i (by omega))
    · simp only [a, b, if_false] at e; exact h2 i j (by omega) (by omega) e)
  omega
/-- the class's spread -/
def ek_S (num : Int32) (P : Nat → Int64) (K : Nat → Int32) (m : Nat) (κ A : Nat → Nat) : Prop :=
  num = nI m ∧ (∀ k, k < m → K k = nI (κ k) ∧ κ k < 4608 ∧ 0 < A (κ k)) ∧ (∀ i j, i < m → j < m → κ i = κ j → i = j) ∧ (∀ q, q < 4608 → P q = lN (A q)) ∧ (∀ q, q < 4608 → 0 < A q → ∃ k, k < m ∧ κ k = q)
theorem ek_Sm {num : Int32} {P : Nat → Int64} {K : Nat → Int32} {m : Nat} {κ A : Nat → Nat} (h : ek_S num P K m κ A) : m ≤ 4608 := ek_pig (fun k hk => (h.2.1 k hk).2.1) h.2.2.1
theorem ek_keyAt {num : Int32} {P : Nat → Int64} {K : Nat → Int32} {m k : Nat} {κ A : Nat → Nat} (h : ek_S num P K m κ A) (hk : k < m) : p_X8_keyAt num K (nI k) = nI (κ k) := by
  have := ek_Sm h
  unfold p_X8_keyAt
  rw [if_neg (nI_pos (by omega)), h.1, if_neg (nI_ge hk (by omega)), if_neg (show ¬ (4608 : Int32) ≤ nI k from nI_ge (b := 4608) (by omega) (by omega)), nI_clamp (by omega), (h.2.1 k hk).1]
theorem ek_inb46 {q : Nat} (h : q < 4608) : inb (nI q) 4608 = true := ek_inb h (by omega)
/-- one part more -/
theorem ek_Sadd {N d c v : Nat} {num : Int32} {P : Nat → Int64} {K : Nat → Int32} {m : Nat} {κ A : Nat → Nat} (h : ek_S num P K m κ A) (hd : d < 9) (hc : c < 512) (hA : A (9 * c + d) < 2 ^ 62) (hv : v < 2 ^ 62) :
    ∃ num' P' K' m' κ', f_X8_add N num P K (nI d) (nI c) (lN v) = some (num', P', K') ∧ ek_S num' P' K' m' κ' (fun q => A q + (if q = 9 * c + d then v else 0)) := by
  have hm := ek_Sm h
  obtain ⟨h1, h2, h3, h4, h5⟩ := h
  have hq : 9 * c + d < 4608 := by omega
  unfold f_X8_add
  rw [show nI c * (9 : Int32) + nI d = nI (9 * c + d) by rw [show ((9 : Int32)) = nI 9 from rfl, pk_mul, nI_add, Nat.mul_comm], nm_t]
  rcases Nat.eq_zero_or_pos v with e | e
  · subst e
    rw [if_pos (show lN 0 ≤ (0 : Int64) from Int64.le_refl _)]
    refine ⟨num, P, K, m, κ, rfl, h1, ?_, h3, ?_, ?_⟩
    · intro k hk; obtain ⟨a, b, g⟩ := h2 k hk; exact ⟨a, b, by simp; exact g⟩
    · intro q hq'; rw [h4 q hq']; simp
    · intro q hq' hp; simp at hp; exact h5 q hq' hp
  · rw [if_neg (show ¬ lN v ≤ (0 : Int64) from fun z => by have := (pk_lLE (a := v) (b := 0) (by omega) (by omega)).mp z; omega), if_neg (nI_pos (by omega)), if_neg (show ¬ (4608 : Int32) ≤ nI (9 * c + d) from nI_ge (b := 4608) (by omega) (by omega)), nI_clamp (by omega), h4 _ hq]
    have hP : ∀ q, q < 4608 → vp_updL P (9 * c + d) (lN (A (9 * c + d)) + lN v) q = lN (A q + (if q = 9 * c + d then v else 0)) := by
      intro q hq'
      by_cases z : q = 9 * c + d
      · rw [z, pk_uLs, if_pos rfl, lN_add]
      · rw [pk_uLn z, if_neg z, h4 q hq', Nat.add_zero]
    rcases Nat.eq_zero_or_pos (A (9 * c + d)) with z | z
    · have hno : ∀ k, k < m → κ k ≠ 9 * c + d := by
        intro k hk y
        have := (h2 k hk).2.2
        rw [y] at this; omega
      have hm2 := ek_pig1 (fun k hk => (h2 k hk).2.1) h3 hq hno
      rw [if_pos (show lN (A (9 * c + d)) = 0 by rw [z]; rfl), h1, if_neg (show ¬ (4608 : Int32) ≤ nI m from nI_ge (b := 4608) (by omega) (by omega)), gd_t (ek_inb46 hm2), nI_clamp (by omega), nI_1]
      unfold f_X8_add_b74
      rw [gd_t (ek_inb46 hq), nI_clamp (by omega), h4 _ hq]
      refine ⟨_, _, _, m + 1, fun k => if k = m then 9 * c + d else κ k, rfl, rfl, ?_, ?_, hP, ?_⟩
      · intro k hk
        by_cases y : k = m
        · subst y
          refine ⟨?_, ?_, ?_⟩
          · rw [pk_us]; exact congrArg nI (if_pos rfl).symm
          · exact (show (if k = k then 9 * c + d else κ k) < 4608 by rw [if_pos rfl]; exact hq)
          · exact (show 0 < A (if k = k then 9 * c + d else κ k) + (if (if k = k then 9 * c + d else κ k) = 9 * c + d then v else 0) by rw [if_pos (rfl : k = k), if_pos rfl]; omega)
        · obtain ⟨a, b, g⟩ := h2 k (by omega)
          refine ⟨?_, ?_, ?_⟩
          · rw [pk_un y, a]; exact congrArg nI (if_neg y).symm
          · exact (show (if k = m then 9 * c + d else κ k) < 4608 by rw [if_neg y]; exact b)
          · exact (show 0 < A (if k = m then 9 * c + d else κ k) + (if (if k = m then 9 * c + d else κ k) = 9 * c + d then v else 0) by rw [if_neg y]; omega)
      · intro i j hi hj y
        by_cases a : i = m <;> by_cases b : j = m
        · omega
        · simp only [a, b, if_true, if_false] at y; exact absurd y.symm (hno j (by omega))
        · simp only [a, b, if_true, if_false] at y; exact absurd y (hno i (by omega))
        · simp only [a, b, if_false] at y; exact h3 i j (by omega) (by omega) y
      · intro q hq' hp
        by_cases y : q = 9 * c + d
        · exact ⟨m, by omega, by simp [y]⟩
        · simp only [y, if_false, Nat.add_zero] at hp
          obtain ⟨k, hk, g⟩ := h5 q hq' hp
          exact ⟨k, by omega, (show (if k = m then 9 * c + d else κ k) = q by rw [if_neg (by omega)]; exact g)⟩
    · rw [if_neg (show ¬ lN (A (9 * c + d)) = (0 : Int64) from fun y => by have := (pk_lEQ (a := A (9 * c + d)) (b := 0) (by omega) (by omega)).mp y; omega)]
      unfold f_X8_add_b74
      rw [gd_t (ek_inb46 hq), nI_clamp (by omega), h4 _ hq]
      refine ⟨_, _, _, m, κ, rfl, h1, ?_, h3, hP, ?_⟩
      · intro k hk
        obtain ⟨a, b, g⟩ := h2 k hk
        exact ⟨a, b, by simp only; omega⟩
      · intro q hq' hp
        by_cases y : q = 9 * c + d
        · rw [y]; exact h5 _ hq z
        · simp only [y, if_false, Nat.add_zero] at hp
          exact h5 q hq' hp
theorem ek_Sclr {N : Nat} {num : Int32} {P : Nat → Int64} {K : Nat → Int32} {m : Nat} {κ A : Nat → Nat} {ph : Int64} (hN : 5000 ≤ N) (h : ek_S num P K m κ A) :
    ∃ P', f_X8_clear N K num ph P = some (0, 0, P') ∧ ek_S 0 P' K 0 κ (fun _ => 0) := by
  have hm := ek_Sm h
  have hk := fun k hk => ek_keyAt h (k := k) hk
  obtain ⟨h1, h2, h3, h4, h5⟩ := h
  unfold f_X8_clear
  refine ek_forI (fun n2 x P => f_X8_clear_b2 N K n2 num ph P x) (fun j P' => ∀ q, q < 4608 → P' q = lN (A q) ∧ (∀ k, m ≤ k ∨ j ≤ k ∨ κ k ≠ q) ∨ P' q = 0) m N (by omega) ?_ P ?_ (fun r => ∃ P', r = some (0, 0, P') ∧ ek_S 0 P' K 0 κ (fun _ => 0)) ?_
  · intro n2 j P1 hj hI
    try simp only
    have hkj := (h2 j hj).2.1
    refine ⟨vp_updL P1 (κ j) 0, ?_, ?_⟩
    · rw [f_X8_clear_b2, h1, if_neg (nI_ge hj (by omega)), if_neg (show ¬ (4608 : Int32) ≤ nI j from nI_ge (b := 4608) (by omega) (by omega)), nm_t, ← h1, hk j hj, if_neg (nI_pos (by omega)), if_neg (show ¬ (4608 : Int32) ≤ nI (κ j) from nI_ge (b := 4608) (by omega) (by omega)), nI_clamp (by omega)]
      unfold f_X8_clear_b45
      rw [nI_1]
    · intro q hq
      by_cases e : q = κ j
      · right; rw [e, pk_uLs]
      · rw [pk_uLn e]
        rcases hI q hq with ⟨a, b⟩ | a
        · left
          refine ⟨a, fun k => ?_⟩
          rcases b k with g | g | g
          · exact Or.inl g
          · by_cases y : k = j
            · exact Or.inr (Or.inr (by rw [y]; exact fun z => e z.symm))
            · exact Or.inr (Or.inl (by omega))
          · exact Or.inr (Or.inr g)
        · exact Or.inr a
  · intro q hq
    exact Or.inl ⟨h4 q hq, fun k => Or.inr (Or.inl (by omega))⟩
  · intro n2 P1 hI
    try simp only
    refine ⟨P1, ?_, rfl, fun k hk => absurd hk (by omega), fun i j hi => absurd hi (by omega), ?_, fun q _ hp => absurd hp (by simp)⟩
    · rw [f_X8_clear_b2, h1, if_pos (nI_le (Nat.le_refl _) (by omega))]
    · intro q hq
      rcases hI q hq with ⟨a, b⟩ | a
      · rw [a]
        rcases Nat.eq_zero_or_pos (A q) with z | z
        · rw [z]
        · obtain ⟨k, hk, g⟩ := h5 q hq z
          rcases b k with y | y | y
          · omega
          · omega
          · exact absurd g y
      · rw [a]; rfl
