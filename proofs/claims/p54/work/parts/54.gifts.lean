/-! desks, pots, words: one mathematical value for both sides -/
def ek_wf (f : Nat → Int32) : Prop := (∃ k, k < 6 ∧ f 0 = nI k) ∧ (∃ t, t ≤ 9 ∧ f 1 = nI t) ∧ (∃ p, p ≤ 9 ∧ f 2 = nI p) ∧ (∃ w, w ≤ 9 ∧ f 3 = nI w) ∧ (f 0 = 2 → ∃ h, 1 ≤ h ∧ h ≤ 9 ∧ f 4 = nI h)
def ek_ds (F : Nat → Int32) (i : Nat) : Nat → Int32 := fun w => F (6 * i + w)
def ek_D (n : Nat) (F D : Nat → Int32) : Prop := n ≤ 9 ∧ (∀ i w, i < n → w < 6 → F (6 * i + w) = D (6 * i + w)) ∧ ∀ i, i < n → ek_wf (ek_ds F i)
theorem ek_fact {n : Nat} (F : Nat → Int32) {i w : Nat} (hn : n ≤ 9) (hi : i < n) (hw : w < 6) : p_X1_fact (nI n) F (nI i) (nI w) = ek_ds F i w := by
  unfold p_X1_fact
  simp only [nm]
  rw [if_neg (nI_pos (by omega)), if_neg (nI_ge hi (by omega)), if_neg (nI_pos (by omega)), if_pos (show nI w < 6 from nI_lt (b := 6) hw (by omega)), show ((6 : Int32)) = nI 6 from rfl, pk_mul, nI_add, if_neg (nI_pos (by omega)), if_neg (show ¬ (54 : Int32) ≤ _ from nI_ge (b := 54) (by omega) (by omega)), nI_clamp (by omega), Nat.mul_comm]
  rfl
theorem ek_of {N : Nat} (D : Nat → Int32) {i w : Nat} (hi : i < 18) (hw : w < 6) : f_X12_of N D (nI i) (nI w) = some (D (6 * i + w)) := by
  unfold f_X12_of
  rw [show ((6 : Int32)) = nI 6 from rfl, pk_mul, nI_add, gd_t (ek_inb (by omega) (by omega)), nI_clamp (by omega)]
theorem ek_ofD {N n : Nat} {F D : Nat → Int32} (h : ek_D n F D) {i w : Nat} (hi : i < n) (hw : w < 6) : f_X12_of N D (nI i) (nI w) = some (ek_ds F i w) := by
  rw [ek_of D (by have := h.1; omega) hw, ← h.2.1 i w hi hw]; rfl
theorem ek_isC (c : Int32) {i : Nat} (hi : i < 9) : p_X6_isCrossed c (nI i) = if ek_bt c i then 1 else 0 := by
  unfold p_X6_isCrossed
  rw [if_neg (nI_pos (by omega)), if_neg (show ¬ (9 : Int32) ≤ _ from nI_ge (b := 9) hi (by omega)), ek_bits c (by omega)]
  cases ek_bt c i <;> rfl
theorem ek_has (c : Int32) {i : Nat} (hi : i < 32) : p_X12_has c (nI i) = if ek_bt c i then 1 else 0 := by
  unfold p_X12_has
  rw [ek_bits c hi]
  cases ek_bt c i <;> rfl
theorem ek_gift {N : Nat} (c : Int32) (g : Nat → Int32) {i : Nat} (hi : i < 9) : f_X6_giftOf N c g (nI i) = some (if ek_bt c i then g i else -9) := by
  unfold f_X6_giftOf
  rw [ek_isC c hi]
  cases ek_bt c i
  · rfl
  · rw [if_neg (by decide), if_neg (show ¬ (9 : Int32) ≤ _ from nI_ge (b := 9) hi (by omega)), gd_t (ek_inb hi (by omega)), nI_clamp (by omega)]; rfl
theorem ek_word {N : Nat} (c : Int32) (g : Nat → Int32) {i : Nat} (hi : i < 9) : f_X6_wordOf N c g (nI i) = some (if ek_bt c i then g i else -9) := by
  unfold f_X6_wordOf
  rw [ek_isC c hi]
  cases ek_bt c i
  · rfl
  · rw [if_neg (by decide), if_neg (show ¬ (9 : Int32) ≤ _ from nI_ge (b := 9) hi (by omega)), gd_t (ek_inb hi (by omega)), nI_clamp (by omega)]; rfl
/-! pots -/
def ek_tk (s : Int32 × Int32 × Int32) (v : Int32) : Int32 × Int32 × Int32 := (s.1 + v, s.2.1 + 1, if v ≤ 0 then s.2.2 else if s.2.2 = 0 then v else if s.2.2 ≤ v then s.2.2 else v)
theorem ek_take (a b l v : Int32) : p_X5_take a b l v = ek_tk (a, b, l) v := by
  unfold p_X5_take ek_tk p_X5_take_b39
  simp only
  split
  · rfl
  · split
    · rfl
    · split <;> rfl
def ek_pt (c : Int32) (g : Nat → Int32) (m : Nat) : Int32 × Int32 × Int32 := ek_fo (fun k s => if ek_bt c k then ek_tk s (g k) else s) (0, 0, 0) m
theorem ek_layX5 {N : Nat} {c law named linked a1 a2 a3 a4 a5 a6 : Int32} {g : Nat → Int32} (hN : 5000 ≤ N) :
    f_X5_layFrom N c law named linked g a1 a2 a3 a4 a5 a6 = some (law, named, linked, (ek_pt c g 9).1, (ek_pt c g 9).2.1, (ek_pt c g 9).2.2) := by
  unfold f_X5_layFrom p_X5_copyTermsFrom p_X5_clear
  simp only [nm]
  refine ek_for (fun n' x (s : Int32 × Int32 × Int32) => f_X5_layFrom_b7 N c law named linked g n' law named linked s.1 s.2.1 s.2.2 x) (fun k s => if ek_bt c k then ek_tk s (g k) else s) (fun _ _ => True) 9 N (by omega) ?_ (0, 0, 0) trivial _ ?_
  · intro n' j s hj _
    refine ⟨?_, trivial⟩
    show f_X5_layFrom_b7 N c law named linked g (n' + 1) _ _ _ _ _ _ _ = _
    rw [f_X5_layFrom_b7, if_neg (show ¬ (9 : Int32) ≤ nI j from nI_ge (b := 9) hj (by omega)), ek_isC c hj]
    unfold f_X5_layFrom_b30
    cases h : ek_bt c j
    · simp only [Bool.false_eq_true, if_false, if_true]; rw [nI_1]
    · simp only [if_true]
      rw [if_neg (by decide), ek_gift c g hj, h, bn_t]
      simp only [nm, if_true]
      rw [ek_take, nI_1]
  · intro n' _
    show f_X5_layFrom_b7 N c law named linked g (n' + 1) _ _ _ _ _ _ _ = _
    rw [f_X5_layFrom_b7, if_pos (show (9 : Int32) ≤ nI 9 from nI_le (a := 9) (Nat.le_refl _) (by omega))]
    rfl
theorem ek_ptext {c : Int32} {g g' : Nat → Int32} {m : Nat} (h : ∀ k, k < m → ek_bt c k = true → g k = g' k) : ek_pt c g m = ek_pt c g' m := by
  unfold ek_pt
  apply ek_foext
  intro j hj t
  by_cases e : ek_bt c j = true
  · simp only [e, if_true]; rw [h j hj e]
  · simp only [e, Bool.false_eq_true, if_false]
theorem ek_ptn {n : Nat} {c : Int32} (hc : ek_sub n c) (g : Nat → Int32) {m : Nat} (h : n ≤ m) : ek_pt c g m = ek_pt c g n := by
  unfold ek_pt
  apply ek_fomore h
  intro j hj _ t
  simp only [hc j hj, Bool.false_eq_true, if_false]
theorem ek_fins {σ : Type} (t : σ → Int32 → σ) (hc : ∀ s a b, t (t s a) b = t (t s b) a) {c c' : Int32} {v v' : Nat → Int32} {s : σ} {i : Nat} (hni : ek_bt c i = false) :
    ∀ {m : Nat}, i < m → (∀ j, j < m → ek_bt c' j = (ek_bt c j || decide (i = j))) → (∀ j, j < m → j ≠ i → v' j = v j) →
    ek_fo (fun k s => if ek_bt c' k then t s (v' k) else s) s m = t (ek_fo (fun k s => if ek_bt c k then t s (v k) else s) s m) (v' i) := by
  have base : ∀ m, m ≤ i → (∀ j, j < m → ek_bt c' j = (ek_bt c j || decide (i = j))) → (∀ j, j < m → j ≠ i → v' j = v j) →
      ek_fo (fun k s => if ek_bt c' k then t s (v' k) else s) s m = ek_fo (fun k s => if ek_bt c k then t s (v k) else s) s m := by
    intro m hm h1 h2
    apply ek_foext
    intro j hj u
    rw [h1 j hj, h2 j hj (by omega), decide_eq_false (by omega), Bool.or_false]
  intro m
  induction m with
  | zero => intro h; omega
  | succ m ih =>
    intro hm h1 h2
    by_cases e : i = m
    · subst e
      show (if ek_bt c' i then t (ek_fo _ s i) (v' i) else ek_fo _ s i) = t (if ek_bt c i then t (ek_fo _ s i) (v i) else ek_fo _ s i) (v' i)
      rw [h1 i (by omega), hni, decide_eq_true rfl, base i (Nat.le_refl _) (fun j hj => h1 j (by omega)) (fun j hj => h2 j (by omega))]
      rfl
    · have := ih (by omega) (fun j hj => h1 j (by omega)) (fun j hj => h2 j (by omega))
      show (if ek_bt c' m then t (ek_fo _ s m) (v' m) else ek_fo _ s m) = t (if ek_bt c m then t (ek_fo _ s m) (v m) else ek_fo _ s m) (v' i)
      rw [h1 m (by omega), decide_eq_false e, Bool.or_false, this, h2 m (by omega) (by omega)]
      cases ek_bt c m
      · rfl
      · simp only [if_true]; rw [hc]
theorem ek_i3 {a b : Int32} : a = b ↔ a.toInt = b.toInt := ⟨fun h => by rw [h], fun h => Int32.toInt_inj.mp h⟩
theorem ek_tkc (s : Int32 × Int32 × Int32) (a b : Int32) : ek_tk (ek_tk s a) b = ek_tk (ek_tk s b) a := by
  obtain ⟨x, y, l⟩ := s
  unfold ek_tk
  simp only
  refine Prod.ext ?_ (Prod.ext rfl ?_)
  · show x + a + b = x + b + a
    rw [Int32.add_assoc, Int32.add_comm a b, ← Int32.add_assoc]
  · show (if b ≤ 0 then _ else _) = _
    simp only [Int32.le_iff_toInt_le, ek_i3, show (0 : Int32).toInt = 0 from by decide]
    repeat' split
    all_goals first | rfl | omega | (apply Int32.toInt_inj.mp; omega) | (exfalso; simp_all <;> omega)
theorem ek_ptset {c : Int32} {g : Nat → Int32} {i m : Nat} (v : Int32) (hni : ek_bt c i = false) (hi : i < m) (hm : m ≤ 32) :
    ek_pt (c ||| ((1 : Int32) <<< (nI i &&& 31))) (upd g i v) m = ek_tk (ek_pt c g m) v := by
  have := ek_fins ek_tk ek_tkc (c := c) (c' := c ||| ((1 : Int32) <<< (nI i &&& 31))) (v := g) (v' := upd g i v) (s := (0, 0, 0)) hni (m := m) hi
    (fun j hj => ek_bset c (by omega) (by omega)) (fun j _ hj => by unfold upd; rw [if_neg hj])
  unfold ek_pt
  rw [this]
  unfold upd
  rw [if_pos rfl]
