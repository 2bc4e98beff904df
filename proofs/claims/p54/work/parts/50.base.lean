/-! pure base: counters, bits, loops, sums -/
def ek_bt (x : Int32) (i : Nat) : Bool := x.toBitVec.getLsbD i
theorem ek_ext {x y : Int32} (h : ∀ i, i < 32 → ek_bt x i = ek_bt y i) : x = y := Int32.toBitVec_inj.mp (BitVec.eq_of_getLsbD_eq (fun i hi => h i hi))
theorem ek_bor (x y : Int32) (i : Nat) : ek_bt (x ||| y) i = (ek_bt x i || ek_bt y i) := by unfold ek_bt; rw [Int32.toBitVec_or, BitVec.getLsbD_or]
theorem ek_band (x y : Int32) (i : Nat) : ek_bt (x &&& y) i = (ek_bt x i && ek_bt y i) := by unfold ek_bt; rw [Int32.toBitVec_and, BitVec.getLsbD_and]
theorem ek_bxor (x y : Int32) (i : Nat) : ek_bt (x ^^^ y) i = (ek_bt x i ^^ ek_bt y i) := by unfold ek_bt; rw [Int32.toBitVec_xor, BitVec.getLsbD_xor]
theorem ek_bbig {x : Int32} {i : Nat} (h : 32 ≤ i) : ek_bt x i = false := BitVec.getLsbD_of_ge _ _ h
theorem ek_b0 (i : Nat) : ek_bt 0 i = false := BitVec.getLsbD_zero
theorem ek_bm1 : ∀ i, i < 32 → ek_bt (-1) i = true := by decide +kernel
theorem ek_b1 : ∀ i, i < 32 → ek_bt 1 i = decide (i = 0) := by decide +kernel
theorem ek_sl : ∀ n, n < 32 → ((nI n &&& 31).toBitVec.smod 32).toNat = n := by decide +kernel
theorem ek_bshl (n : Nat) (hn : n < 32) (x : Int32) {i : Nat} (hi : i < 32) : ek_bt (x <<< (nI n &&& 31)) i = (decide (n ≤ i) && ek_bt x (i - n)) := by
  unfold ek_bt
  rw [Int32.toBitVec_shiftLeft]
  show (x.toBitVec <<< ((nI n &&& 31).toBitVec.smod 32).toNat).getLsbD i = _
  rw [ek_sl n hn, BitVec.getLsbD_shiftLeft]
  rcases Nat.lt_or_ge i n with h | h
  · simp [h, Nat.not_le.mpr h]
  · simp [hi, h, Nat.not_lt.mpr h]
theorem ek_bsshr (n : Nat) (hn : n < 32) (x : Int32) {i : Nat} (hi : i < 32) : ek_bt (x >>> (nI n &&& 31)) i = if n + i < 32 then ek_bt x (n + i) else ek_bt x 31 := by
  unfold ek_bt
  rw [Int32.toBitVec_shiftRight]
  show (x.toBitVec.sshiftRight ((nI n &&& 31).toBitVec.smod 32).toNat).getLsbD i = _
  rw [ek_sl n hn, BitVec.getLsbD_sshiftRight]
  have h32 : ¬ 32 ≤ i := by omega
  simp [h32, BitVec.msb_eq_getLsbD_last]
theorem ek_pow (i : Nat) (hi : i < 32) : ∀ j, j < 32 → ek_bt ((1 : Int32) <<< (nI i &&& 31)) j = decide (i = j) := by
  intro j hj
  rw [ek_bshl i hi 1 hj]
  rcases Nat.lt_or_ge j i with h | h
  · rw [decide_eq_false (by omega : ¬ i ≤ j), decide_eq_false (by omega : ¬ i = j)]; rfl
  · rw [decide_eq_true h, ek_b1 _ (by omega)]
    by_cases e : i = j
    · subst e; simp
    · rw [decide_eq_false e, decide_eq_false (by omega)]; rfl
theorem ek_bit0 (c : Int32) {i : Nat} (hi : i < 32) : ((c >>> (nI i &&& 31)) &&& (1 : Int32)) = 0 ↔ ek_bt c i = false := by
  have key : ∀ j, j < 32 → ek_bt ((c >>> (nI i &&& 31)) &&& (1 : Int32)) j = (decide (j = 0) && ek_bt c i) := by
    intro j hj
    rw [ek_band, ek_b1 j hj]
    by_cases e : j = 0
    · subst e; rw [ek_bsshr i hi c (by omega)]; simp [hi]
    · simp [e]
  constructor
  · intro h
    have := key 0 (by omega)
    rw [h, ek_b0] at this
    simpa using this.symm
  · intro h
    apply ek_ext; intro j hj
    rw [key j hj, h, ek_b0]; simp
theorem ek_bit1 (c : Int32) {i : Nat} (hi : i < 32) : ((c >>> (nI i &&& 31)) &&& (1 : Int32)) = 1 ↔ ek_bt c i = true := by
  have key : ∀ j, j < 32 → ek_bt ((c >>> (nI i &&& 31)) &&& (1 : Int32)) j = (decide (j = 0) && ek_bt c i) := by
    intro j hj
    rw [ek_band, ek_b1 j hj]
    by_cases e : j = 0
    · subst e; rw [ek_bsshr i hi c (by omega)]; simp [hi]
    · simp [e]
  constructor
  · intro h
    have := key 0 (by omega)
    rw [h] at this
    have e1 := ek_b1 0 (by omega)
    rw [e1] at this
    simpa using this.symm
  · intro h
    apply ek_ext; intro j hj
    rw [key j hj, h, ek_b1 j hj]; simp
theorem ek_bits (c : Int32) {i : Nat} (hi : i < 32) : ((c >>> (nI i &&& 31)) &&& (1 : Int32)) = if ek_bt c i then 1 else 0 := by
  cases h : ek_bt c i
  · exact (ek_bit0 c hi).mpr h
  · exact (ek_bit1 c hi).mpr h
theorem ek_bset (c : Int32) {i j : Nat} (hi : i < 32) (hj : j < 32) : ek_bt (c ||| ((1 : Int32) <<< (nI i &&& 31))) j = (ek_bt c j || decide (i = j)) := by rw [ek_bor, ek_pow i hi j hj]
theorem ek_bclr (c : Int32) {i j : Nat} (hi : i < 32) (hj : j < 32) : ek_bt (c &&& (((1 : Int32) <<< (nI i &&& 31)) ^^^ (-1))) j = (ek_bt c j && !decide (i = j)) := by
  rw [ek_band, ek_bxor, ek_pow i hi j hj, ek_bm1 j hj]
  cases ek_bt c j <;> cases decide (i = j) <;> rfl
/-- the sets of the first n -/
def ek_sub (n : Nat) (c : Int32) : Prop := ∀ i, n ≤ i → ek_bt c i = false
theorem ek_sub0 (n : Nat) : ek_sub n 0 := fun i _ => ek_b0 i
theorem ek_subset {n i : Nat} {c : Int32} (hc : ek_sub n c) (hi : i < n) (hn : n < 32) : ek_sub n (c ||| ((1 : Int32) <<< (nI i &&& 31))) := by
  intro j hj
  rcases Nat.lt_or_ge j 32 with h | h
  · rw [ek_bset c (by omega) h, hc j hj]; simp; omega
  · exact ek_bbig h
theorem ek_allb : ∀ n, n ≤ 9 → ∀ i, i < 32 → ek_bt (((1 : Int32) <<< (nI n &&& 31)) - (1 : Int32)) i = decide (i < n) := by decide +kernel
theorem ek_suball {n : Nat} {c : Int32} (hn : n ≤ 9) (hc : ek_sub n c) : c &&& (((1 : Int32) <<< (nI n &&& 31)) - (1 : Int32)) = c := by
  apply ek_ext; intro i hi
  rw [ek_band, ek_allb n hn i hi]
  rcases Nat.lt_or_ge i n with h | h
  · simp [h]
  · rw [hc i h]; rfl
/-! counters -/
theorem ek_ix (x : Int32) (n : Nat) (hn : n < 2 ^ 31) : x < 0 ∨ nI n ≤ x ∨ ∃ j : Nat, j < n ∧ x = nI j := pk_ix x hn
theorem ek_inb {j n : Nat} (h : j < n) (hn : n < 2 ^ 31) : inb (nI j) n = true := by
  unfold inb
  rw [nI_toInt (by omega)]
  simp; omega
theorem ek_not_le_neg {x : Int32} (h : x < 0) (m : Int32) (hm : 0 ≤ m) : ¬ m ≤ x := by
  intro q
  exact absurd (Int32.lt_of_le_of_lt (Int32.le_trans hm q) h) (Int32.lt_irrefl)
/-! loops -/
def ek_fo {σ : Type} (g : Nat → σ → σ) (s : σ) : Nat → σ
  | 0 => s
  | m + 1 => g m (ek_fo g s m)
theorem ek_lp {σ β : Type} (F : Nat → Int32 → σ → β) (g : Nat → σ → σ) (I : Nat → σ → Prop) (m : Nat)
    (h : ∀ n j s, j < m → I j s → F (n + 1) (nI j) s = F n (nI (j + 1)) (g j s) ∧ I (j + 1) (g j s)) (s : σ) (h0 : I 0 s) :
    ∀ k, k ≤ m → ∀ n, F (n + k) 0 s = F n (nI k) (ek_fo g s k) ∧ I k (ek_fo g s k) := by
  intro k
  induction k with
  | zero => intro _ n; exact ⟨rfl, h0⟩
  | succ k ih =>
    intro hk n
    have a := ih (by omega) (n + 1)
    have b := h n k (ek_fo g s k) (by omega) a.2
    refine ⟨?_, b.2⟩
    rw [show n + (k + 1) = n + 1 + k by omega, a.1, b.1]; rfl
/-- a loop with N rounds of fuel that ends at m -/
theorem ek_for {σ β : Type} (F : Nat → Int32 → σ → β) (g : Nat → σ → σ) (I : Nat → σ → Prop) (m : Nat) (N : Nat) (hN : m < N)
    (h : ∀ n j s, j < m → I j s → F (n + 1) (nI j) s = F n (nI (j + 1)) (g j s) ∧ I (j + 1) (g j s)) (s : σ) (h0 : I 0 s) (R : β)
    (he : ∀ n, I m (ek_fo g s m) → F (n + 1) (nI m) (ek_fo g s m) = R) : F N 0 s = R := by
  have a := ek_lp F g I m h s h0 m (Nat.le_refl m) (N - m)
  rw [show N = N - m + m by omega, a.1]
  rw [show N - m = (N - m - 1) + 1 by omega]
  exact he _ a.2
/-- a loop told by an invariant alone -/
theorem ek_forI {σ β : Type} (F : Nat → Int32 → σ → β) (I : Nat → σ → Prop) (m : Nat) (N : Nat) (hN : m < N)
    (h : ∀ n j s, j < m → I j s → ∃ s', F (n + 1) (nI j) s = F n (nI (j + 1)) s' ∧ I (j + 1) s') (s : σ) (h0 : I 0 s) (P : β → Prop)
    (he : ∀ n s', I m s' → P (F (n + 1) (nI m) s')) : P (F N 0 s) := by
  have key : ∀ k, k ≤ m → ∃ s', (∀ n, n + k = N → F N 0 s = F n (nI k) s') ∧ I k s' := by
    intro k
    induction k with
    | zero => intro _; exact ⟨s, fun n hn => by rw [← hn]; rfl, h0⟩
    | succ k ih =>
      intro hk
      obtain ⟨s1, e1, i1⟩ := ih (by omega)
      obtain ⟨s2, e2, i2⟩ := h (N - k - 1) k s1 (by omega) i1
      refine ⟨s2, fun n hn => ?_, i2⟩
      rw [e1 (N - k) (by omega), show N - k = N - k - 1 + 1 by omega, e2, show N - k - 1 = n by omega]
  obtain ⟨s', e, i⟩ := key m (Nat.le_refl m)
  rw [e (N - m) (by omega), show N - m = N - m - 1 + 1 by omega]
  exact he _ _ i
theorem ek_foext {σ : Type} {g g' : Nat → σ → σ} {s : σ} : ∀ {m : Nat}, (∀ j, j < m → ∀ t, g j t = g' j t) → ek_fo g s m = ek_fo g' s m := by
  intro m
  induction m with
  | zero => intro _; rfl
  | succ m ih => intro h; show g m _ = g' m _; rw [ih (fun j hj => h j (by omega)), h m (by omega)]
theorem ek_fomore {σ : Type} {g : Nat → σ → σ} {s : σ} {n : Nat} : ∀ {m : Nat}, n ≤ m → (∀ j, n ≤ j → j < m → ∀ t, g j t = t) → ek_fo g s m = ek_fo g s n := by
  intro m
  induction m with
  | zero => intro h _; rw [Nat.le_zero.mp h]
  | succ m ih =>
    intro h hg
    rcases Nat.lt_or_ge m n with q | q
    · rw [show m + 1 = n by omega]
    · show g m _ = _; rw [hg m q (by omega), ih q (fun j a b => hg j a (by omega))]
theorem ek_forel {σ τ : Type} {g : Nat → σ → σ} {g' : Nat → τ → τ} {s : σ} {t : τ} (R : Nat → σ → τ → Prop) (h0 : R 0 s t) : ∀ {m : Nat}, (∀ j, j < m → ∀ a b, R j a b → R (j + 1) (g j a) (g' j b)) → R m (ek_fo g s m) (ek_fo g' t m) := by
  intro m
  induction m with
  | zero => intro _; exact h0
  | succ m ih => intro h; exact h m (by omega) _ _ (ih (fun j hj => h j (by omega)))
/-! sums -/
def ek_s (f : Nat → Int32) : Nat → Int32
  | 0 => 0
  | m + 1 => ek_s f m + f m
theorem ek_sext {f g : Nat → Int32} : ∀ {m : Nat}, (∀ j, j < m → f j = g j) → ek_s f m = ek_s g m := by
  intro m
  induction m with
  | zero => intro _; rfl
  | succ m ih => intro h; show ek_s f m + f m = ek_s g m + g m; rw [ih (fun j hj => h j (by omega)), h m (by omega)]
theorem ek_smore {f : Nat → Int32} {n : Nat} : ∀ {m : Nat}, n ≤ m → (∀ j, n ≤ j → j < m → f j = 0) → ek_s f m = ek_s f n := by
  intro m
  induction m with
  | zero => intro h _; rw [Nat.le_zero.mp h]
  | succ m ih =>
    intro h hg
    rcases Nat.lt_or_ge m n with q | q
    · rw [show m + 1 = n by omega]
    · show ek_s f m + f m = _; rw [hg m q (by omega), ih q (fun j a b => hg j a (by omega)), Int32.add_zero]
/-! evaluation: all numbers as nI -/
theorem ek_n0 : (0 : Int32) = nI 0 := rfl
theorem ek_n1 : (1 : Int32) = nI 1 := rfl
theorem ek_n2 : (2 : Int32) = nI 2 := rfl
theorem ek_n3 : (3 : Int32) = nI 3 := rfl
theorem ek_n4 : (4 : Int32) = nI 4 := rfl
theorem ek_n5 : (5 : Int32) = nI 5 := rfl
theorem ek_n6 : (6 : Int32) = nI 6 := rfl
theorem ek_n7 : (7 : Int32) = nI 7 := rfl
theorem ek_n8 : (8 : Int32) = nI 8 := rfl
theorem ek_n9 : (9 : Int32) = nI 9 := rfl
theorem ek_n10 : (10 : Int32) = nI 10 := rfl
theorem ek_n12 : (12 : Int32) = nI 12 := rfl
theorem ek_n20 : (20 : Int32) = nI 20 := rfl
theorem ek_n40 : (40 : Int32) = nI 40 := rfl
theorem ek_n50 : (50 : Int32) = nI 50 := rfl
theorem ek_n54 : (54 : Int32) = nI 54 := rfl
theorem ek_n60 : (60 : Int32) = nI 60 := rfl
theorem ek_n99 : (99 : Int32) = nI 99 := rfl
theorem ek_n100 : (100 : Int32) = nI 100 := rfl
theorem ek_on (n : Nat) : Int32.ofNat n = nI n := rfl
theorem ek_lt {a b : Nat} (h : a < 2147483648 ∧ b < 2147483648) : (nI a < nI b) = (a < b) := propext (nI_ltI h.1 h.2)
theorem ek_le {a b : Nat} (h : a < 2147483648 ∧ b < 2147483648) : (nI a ≤ nI b) = (a ≤ b) := propext (nI_leI h.1 h.2)
theorem ek_eq {a b : Nat} (h : a < 2147483648 ∧ b < 2147483648) : (nI a = nI b) = (a = b) := propext (nI_eq h.1 h.2)
theorem ek_cl {a : Nat} (h : a < 2147483648) : (nI a).toNatClampNeg = a := nI_clamp h
theorem ek_sb {a b : Nat} (h : b ≤ a) : nI a - nI b = nI (a - b) := pk_sub h
theorem ek_gi {α : Type} {j K : Nat} {x : Option α} (h : j < K ∧ K < 2147483648) : gd (inb (nI j) K = true) x = x := gd_t (ek_inb h.1 h.2)
theorem ek_m1 : ((-1 : Int32)).toInt = -1 := by decide
theorem ek_neg {z : Int32} {k : Int} (hz : z.toInt = k) (hk : k < 0) {a : Nat} (h : a < 2147483648) : z < nI a ∧ ¬ nI a < z ∧ z ≤ nI a ∧ ¬ nI a ≤ z ∧ z ≠ nI a ∧ nI a ≠ z := by
  have e := nI_toInt h
  have p : z < nI a := Int32.lt_iff_toInt_lt.mpr (by rw [hz, e]; omega)
  have q : ¬ nI a ≤ z := Int32.not_le.mpr p
  refine ⟨p, ?_, Int32.le_of_lt p, q, ?_, ?_⟩
  · intro r; exact q (Int32.le_of_lt r)
  · intro r; rw [r] at p; exact Int32.lt_irrefl p
  · intro r; rw [r] at p; exact Int32.lt_irrefl p
theorem ek_ng {x : Int32} (h : x < 0) {a : Nat} (ha : a < 2147483648) : (x < nI a) = True ∧ (nI a ≤ x) = False ∧ (x = nI a) = False ∧ (nI a = x) = False ∧ (nI a < x) = False ∧ (x ≤ nI a) = True := by
  have k : x.toInt < 0 := Int32.lt_iff_toInt_lt.mp h
  obtain ⟨a1, a2, a3, a4, a5, a6⟩ := ek_neg rfl k ha
  exact ⟨eq_true a1, eq_false a4, eq_false a5, eq_false a6, eq_false a2, eq_true a3⟩
theorem ek_bg {x : Int32} {b a : Nat} (h : nI b ≤ x) (hb : a < b ∧ b < 2147483648) : (x < nI a) = False ∧ (nI a < x) = True ∧ (x ≤ nI a) = False ∧ (nI a ≤ x) = True := by
  have e := nI_toInt (n := b) hb.2
  have e2 := nI_toInt (n := a) (by omega)
  have k := Int32.le_iff_toInt_le.mp h
  rw [e] at k
  have p : nI a < x := Int32.lt_iff_toInt_lt.mpr (by rw [e2]; omega)
  exact ⟨eq_false (fun q => Int32.lt_irrefl (Int32.lt_trans p q)), eq_true p, eq_false (Int32.not_le.mpr p), eq_true (Int32.le_of_lt p)⟩
theorem ek_bg0 {x : Int32} {b : Nat} (h : nI b ≤ x) (hb : b < 2147483648) : (x < nI 0) = False := by
  have e := nI_toInt (n := b) hb
  have k := Int32.le_iff_toInt_le.mp h
  rw [e] at k
  refine eq_false (fun q => ?_)
  have r := Int32.lt_iff_toInt_lt.mp q
  rw [nI_toInt (by decide)] at r
  omega
/-! the state's parts -/
def ek_F (l : Int32) (C : Nat → Int32) (l' : Int32) (C' : Nat → Int32) : Prop := l = l' ∧ ∀ j, j < 6 → C j = C' j
def ek_H (K P : Nat) (S C S' C' : Nat → Int32) : Prop := ∀ k, k < K → (S k = -1 ∧ S' k = -9) ∨ (∃ z, z ≤ P ∧ S k = nI z ∧ S' k = nI z ∧ ∀ i, i < z → C (P * k + i) = C' (P * k + i))
theorem ek_F_upd {l : Int32} {C : Nat → Int32} {l' : Int32} {C' : Nat → Int32} (h : ek_F l C l' C') {f : Nat} (hf : f < 6) : ek_F (nI f) (upd C f (C f + 1)) (nI f) (upd C' f (C' f + 1)) := by
  refine ⟨rfl, fun j hj => ?_⟩
  unfold upd
  rw [h.2 f hf, h.2 j hj]
/-- a refusal, on both sides -/
theorem ek_ref {l : Int32} {C : Nat → Int32} {f : Nat} (h : 1 ≤ f) (hf : f < 6) : p_X11_refuse l C (nI f) = ((-3 : Int32), nI f, upd C f (C f + 1)) := by
  unfold p_X11_refuse
  rw [if_neg (show ¬ nI f < 1 from nI_nlt (b := 1) h (by omega)), if_neg (show ¬ (6 : Int32) ≤ nI f from nI_ge (b := 6) hf (by omega)), nI_clamp (by omega)]
theorem ek_meet {N : Nat} {l : Int32} {C : Nat → Int32} {f : Nat} (hf : f < 6) : f_X12_meet N l C (nI f) = some ((-3 : Int32), nI f, upd C f (C f + 1)) := by
  unfold f_X12_meet
  rw [gd_t (ek_inb hf (by omega)), nI_clamp (by omega)]
theorem ek_nam0 {K : Nat} {x : Int32} (h : x < 0 ∨ nI K ≤ x) : p_X7_names K x = 0 := by
  unfold p_X7_names
  rcases h with h | h
  · rw [if_pos h]
  · split
    · rfl
    · rw [if_pos (show Int32.ofNat K ≤ x from h)]
theorem ek_nam1 {K j : Nat} (h : j < K) (hK : K < 2147483648) : p_X7_names K (nI j) = 1 := by
  unfold p_X7_names
  rw [if_neg (nI_pos (by omega)), if_neg (show ¬ Int32.ofNat K ≤ nI j from nI_ge h hK)]
theorem ek_siz {K j : Nat} (S : Nat → Int32) (h : j < K) (hK : K < 2147483648) : p_X7_sizeOf K S (nI j) = S j := by
  unfold p_X7_sizeOf
  rw [if_neg (nI_pos (by omega)), if_neg (show ¬ Int32.ofNat K ≤ nI j from nI_ge h hK), nI_clamp (by omega)]
theorem ek_in0 {x : Int32} {n : Nat} (hn : n < 2147483647) (h : x < 0 ∨ nI (n + 1) ≤ x) : p_X12_in x 0 (nI n) = 0 := by
  unfold p_X12_in
  rcases h with h | h
  · rw [if_pos h]
  · split
    · rfl
    · rw [if_pos (of_eq_true (ek_bg h ⟨by omega, by omega⟩).2.1)]
theorem ek_in1 {j n : Nat} (h : j ≤ n) (hn : n < 2147483648) : p_X12_in (nI j) 0 (nI n) = 1 := by
  unfold p_X12_in
  rw [if_neg (nI_pos (by omega)), if_neg (nI_nlt h hn)]
theorem ek_missH {K P : Nat} {S C S' C' : Nat → Int32} {k : Nat} (h : S k = -1) (hk : k < K) (hK : K < 2147483648) : p_X7_isThere K S (nI k) = 0 := by
  unfold p_X7_isThere
  rw [ek_siz S hk hK, if_pos h]
theorem ek_thereH {K : Nat} {S : Nat → Int32} {k z : Nat} (h : S k = nI z) (hz : z < 2147483648) (hk : k < K) (hK : K < 2147483648) : p_X7_isThere K S (nI k) = 1 := by
  unfold p_X7_isThere
  rw [ek_siz S hk hK, h, if_neg]
  exact (ek_neg ek_m1 (by decide) hz).2.2.2.2.2
theorem ek_pl0 {K : Nat} {S : Nat → Int32} {k z : Nat} {x : Int32} (h : S k = nI z) (hk : k < K) (hK : K < 2147483648) (hx : x < 0 ∨ nI z ≤ x) : p_X7_hasPlace K S (nI k) x = 0 := by
  unfold p_X7_hasPlace
  rw [ek_siz S hk hK, h]
  rcases hx with q | q
  · rw [if_pos q]
  · split
    · rfl
    · first | rfl | rw [if_pos q]
theorem ek_pl1 {K : Nat} {S : Nat → Int32} {k z i : Nat} (h : S k = nI z) (hk : k < K) (hK : K < 2147483648) (hi : i < z) (hz : z < 2147483648) : p_X7_hasPlace K S (nI k) (nI i) = 1 := by
  unfold p_X7_hasPlace
  rw [ek_siz S hk hK, h, if_neg (nI_pos (by omega)), if_neg (nI_ge hi hz)]
theorem ek_cell {K P nC : Nat} {S : Nat → Int32} (C : Nat → Int32) {k z i : Nat} (h : S k = nI z) (hk : k < K) (hi : i < z) (hz : z ≤ P) (hC : K * P = nC) (hn : nC < 1000) (hK : K < 10) (hP : P < 1000) : p_X7_cell K nC (nI P) S C (nI k) (nI i) = C (P * k + i) := by
  have hb : P * k + i < nC := by
    rw [← hC]
    calc P * k + i < P * k + P := by omega
      _ = P * (k + 1) := by rw [Nat.mul_add, Nat.mul_one]
      _ ≤ P * K := Nat.mul_le_mul_left _ (by omega)
      _ = K * P := Nat.mul_comm _ _
  unfold p_X7_cell
  simp only [nm]
  rw [ek_pl1 h hk (by omega) hi (by omega), pk_mul, nI_add, Nat.mul_comm k P, if_neg (by decide), if_neg (nI_pos (by omega)), if_neg (show ¬ Int32.ofNat nC ≤ _ from nI_ge hb (by omega)), nI_clamp (by omega)]
theorem ek_setc {K P nC : Nat} {S : Nat → Int32} (C : Nat → Int32) {k z i : Nat} {v : Int32} (h : S k = nI z) (hk : k < K) (hi : i < z) (hz : z ≤ P) (hC : K * P = nC) (hn : nC < 1000) (hK : K < 10) (hP : P < 1000) : p_X7_setCell K nC (nI P) S C (nI k) (nI i) v = upd C (P * k + i) v := by
  have hb : P * k + i < nC := by
    rw [← hC]
    calc P * k + i < P * k + P := by omega
      _ = P * (k + 1) := by rw [Nat.mul_add, Nat.mul_one]
      _ ≤ P * K := Nat.mul_le_mul_left _ (by omega)
      _ = K * P := Nat.mul_comm _ _
  unfold p_X7_setCell
  simp only [nm]
  rw [ek_pl1 h hk (by omega) hi (by omega), pk_mul, nI_add, Nat.mul_comm k P, if_neg (by decide), if_neg (nI_pos (by omega)), if_neg (show ¬ Int32.ofNat nC ≤ _ from nI_ge hb (by omega)), nI_clamp (by omega)]
/-- a row or text is named, and there, or not: both sides -/
theorem ek_refM {K P : Nat} {S C S' C' : Nat → Int32} {l : Int32} {Cn : Nat → Int32} {x : Int32} (hH : ek_H K P S C S' C') (hK : K < 1000) (hP : P < 1000) :
    (p_X11_refuseMissing K S l Cn x = ((-1 : Int32), l, Cn) ∧ (x < 0 ∨ nI K ≤ x)) ∨
    (∃ k, k < K ∧ x = nI k ∧ S k = -1 ∧ S' k = -9 ∧ p_X11_refuseMissing K S l Cn x = ((-3 : Int32), nI 1, upd Cn 1 (Cn 1 + 1))) ∨
    (∃ k z, k < K ∧ x = nI k ∧ z ≤ P ∧ S k = nI z ∧ S' k = nI z ∧ (∀ i, i < z → C (P * k + i) = C' (P * k + i)) ∧ p_X11_refuseMissing K S l Cn x = (0, l, Cn)) := by
  have hx := ek_ix x K (by omega)
  rcases hx with q | q | ⟨k, hk, rfl⟩
  · left; refine ⟨?_, Or.inl q⟩
    unfold p_X11_refuseMissing; rw [ek_nam0 (Or.inl q), if_pos rfl]
  · left; refine ⟨?_, Or.inr q⟩
    unfold p_X11_refuseMissing; rw [ek_nam0 (Or.inr q), if_pos rfl]
  · right
    rcases hH k hk with ⟨a, b⟩ | ⟨z, hz, a, b, c⟩
    · left; refine ⟨k, hk, rfl, a, b, ?_⟩
      unfold p_X11_refuseMissing
      rw [ek_nam1 hk (by omega), if_neg (by decide), ek_missH (P := P) (C := C) (S' := S') (C' := C') a hk (by omega), if_pos rfl]
      have e := ek_ref (l := l) (C := Cn) (f := 1) (by decide) (by decide)
      simp only [nm]
      rw [show ((1 : Int32)) = nI 1 from rfl, e]; rfl
    · right; refine ⟨k, z, hk, rfl, hz, a, b, c, ?_⟩
      unfold p_X11_refuseMissing
      rw [ek_nam1 hk (by omega), if_neg (by decide), ek_thereH a (by omega) hk (by omega), if_neg (by decide)]
theorem ek_askRow {N : Nat} {S' : Nat → Int32} {l : Int32} {Cn : Nat → Int32} {x : Int32} :
    ((x < 0 ∨ nI 6 ≤ x) → f_X12_askedRow N S' l Cn x = some ((-1 : Int32), l, Cn)) ∧
    (∀ k, k < 6 → x = nI k → S' k = -9 → f_X12_askedRow N S' l Cn x = some ((-3 : Int32), nI 1, upd Cn 1 (Cn 1 + 1))) ∧
    (∀ k z, k < 6 → z < 1000 → x = nI k → S' k = nI z → f_X12_askedRow N S' l Cn x = some (0, l, Cn)) := by
  refine ⟨fun h => ?_, fun k hk e q => ?_, fun k z hk hz e q => ?_⟩
  · unfold f_X12_askedRow p_X12_isRow
    rw [show ((5 : Int32)) = nI 5 from rfl, ek_in0 (by decide) h, if_pos rfl]
  · subst e
    unfold f_X12_askedRow p_X12_isRow
    rw [show ((5 : Int32)) = nI 5 from rfl, ek_in1 (by omega) (by decide), if_neg (by decide), gd_t (ek_inb hk (by omega)), nI_clamp (by omega), q, if_neg (by decide), show ((1 : Int32)) = nI 1 from rfl, ek_meet (by decide)]; rfl
  · subst e
    unfold f_X12_askedRow p_X12_isRow
    rw [show ((5 : Int32)) = nI 5 from rfl, ek_in1 (by omega) (by decide), if_neg (by decide), gd_t (ek_inb hk (by omega)), nI_clamp (by omega), q, if_pos (nI_pos' (by omega))]
theorem ek_askText {N : Nat} {S' : Nat → Int32} {l : Int32} {Cn : Nat → Int32} {x : Int32} :
    ((x < 0 ∨ nI 4 ≤ x) → f_X12_askedText N S' l Cn x = some ((-1 : Int32), l, Cn)) ∧
    (∀ k, k < 4 → x = nI k → S' k = -9 → f_X12_askedText N S' l Cn x = some ((-3 : Int32), nI 1, upd Cn 1 (Cn 1 + 1))) ∧
    (∀ k z, k < 4 → z < 1000 → x = nI k → S' k = nI z → f_X12_askedText N S' l Cn x = some (0, l, Cn)) := by
  refine ⟨fun h => ?_, fun k hk e q => ?_, fun k z hk hz e q => ?_⟩
  · unfold f_X12_askedText p_X12_isText
    rw [show ((3 : Int32)) = nI 3 from rfl, ek_in0 (by decide) h, if_pos rfl]
  · subst e
    unfold f_X12_askedText p_X12_isText
    rw [show ((3 : Int32)) = nI 3 from rfl, ek_in1 (by omega) (by decide), if_neg (by decide), gd_t (ek_inb hk (by omega)), nI_clamp (by omega), q, if_neg (by decide), show ((1 : Int32)) = nI 1 from rfl, ek_meet (by decide)]; rfl
  · subst e
    unfold f_X12_askedText p_X12_isText
    rw [show ((3 : Int32)) = nI 3 from rfl, ek_in1 (by omega) (by decide), if_neg (by decide), gd_t (ek_inb hk (by omega)), nI_clamp (by omega), q, if_pos (nI_pos' (by omega))]
