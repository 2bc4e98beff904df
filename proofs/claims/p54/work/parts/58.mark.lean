/-! coins, words, mark, forget -/
def ek_nv (c : Int32) (g : Nat → Int32) (m : Nat) : Int32 := ek_fo (fun k s => if ek_bt c k then (if g k ≤ 0 then s else s + 1) else s) 0 m
theorem ek_nvn {n : Nat} {c : Int32} (hc : ek_sub n c) (g : Nat → Int32) {m : Nat} (h : n ≤ m) : ek_nv c g m = ek_nv c g n := by
  unfold ek_nv
  apply ek_fomore h
  intro j hj _ t
  simp only [hc j hj, Bool.false_eq_true, if_false]
theorem ek_nvext {c : Int32} {g g' : Nat → Int32} {m : Nat} (h : ∀ k, k < m → g k = g' k) : ek_nv c g m = ek_nv c g' m := by
  unfold ek_nv
  apply ek_foext
  intro j hj t
  rw [h j hj]
theorem ek_nvX {N : Nat} {c : Int32} {g : Nat → Int32} (hN : 5000 ≤ N) : f_X6_numberOfGivers N c g = some (ek_nv c g 9) := by
  unfold f_X6_numberOfGivers
  refine ek_for (fun n' x s => f_X6_numberOfGivers_b4 N c g n' s x) (fun k s => if ek_bt c k then (if g k ≤ 0 then s else s + 1) else s) (fun _ _ => True) 9 N (by omega) ?_ 0 trivial _ ?_
  · intro n' j s hj _
    refine ⟨?_, trivial⟩
    show f_X6_numberOfGivers_b4 N c g (n' + 1) _ _ = _
    rw [f_X6_numberOfGivers_b4, if_neg (show ¬ (9 : Int32) ≤ nI j from nI_ge (b := 9) hj (by omega)), ek_gift c g hj, bn_t]
    unfold f_X6_numberOfGivers_b21
    rw [nI_1]
    cases h : ek_bt c j
    · simp only [Bool.false_eq_true, if_false]; rw [if_pos (by decide)]
    · simp only [if_true]
  · intro n' _
    show f_X6_numberOfGivers_b4 N c g (n' + 1) _ _ = _
    rw [f_X6_numberOfGivers_b4, if_pos (show (9 : Int32) ≤ nI 9 from nI_le (a := 9) (Nat.le_refl _) (by omega))]
    rfl
theorem ek_coinsM {N n : Nat} {c : Int32} {g : Nat → Int32} (hN : 5000 ≤ N) (hn : n ≤ 9) : f_X12_coinsNow N (nI n) c g = some (ek_pt c g n).1 := by
  unfold f_X12_coinsNow
  have hl : ∀ m, ek_fo (fun k (s : Int32) => if ek_bt c k then s + g k else s) 0 m = (ek_pt c g m).1 := by
    intro m
    unfold ek_pt
    refine ek_forel (s := (0 : Int32)) (t := ((0 : Int32), (0 : Int32), (0 : Int32))) (fun _ (a : Int32) (b : Int32 × Int32 × Int32) => a = b.1) rfl ?_
    intro j _ a b h
    subst h
    cases ek_bt c j <;> rfl
  refine ek_for (fun n' x s => f_X12_coinsNow_b4 N (nI n) c g n' s x) (fun k (s : Int32) => if ek_bt c k then s + g k else s) (fun _ _ => True) n N (by omega) ?_ 0 trivial _ ?_
  · intro n' j s hj _
    refine ⟨?_, trivial⟩
    show f_X12_coinsNow_b4 N _ _ _ (n' + 1) _ _ = _
    rw [f_X12_coinsNow_b4, if_neg (nI_ge hj (by omega)), ek_has c (by omega)]
    unfold f_X12_coinsNow_b34
    cases h : ek_bt c j
    · simp only [Bool.false_eq_true, if_false, if_true, nm]; rw [nI_1, Int32.add_zero]
    · simp only [if_true, nm]; rw [if_neg (by decide), gd_t (ek_inb (by omega) (by omega)), nI_clamp (by omega), nI_1]
  · intro n' _
    show f_X12_coinsNow_b4 N _ _ _ (n' + 1) _ _ = _
    rw [f_X12_coinsNow_b4, if_pos (nI_le (Nat.le_refl _) (by omega)), hl]
theorem r_coins {n N : Nat} {cr la na li ak a1 a2 a3 a4 a5 a6 : Int32} {gi gi' : Nat → Int32} (hN : 5000 ≤ N) (hn : n ≤ 9) (hc : ek_sub n cr) (he : ∀ i, i < 9 → gi' i = gi i) :
    ∃ o o', f_X11_coins N cr la na li gi ak a1 a2 a3 a4 a5 a6 = some o ∧ f_X12_coins N (nI n) cr gi' ak = some o' ∧ o.1 = o'.1 ∧ o.2.1 = o'.2 := by
  apply ek_mk2
  · unfold f_X11_coins
    rw [ek_layX5 hN, bn_t, ek_nvX hN, bn_t]; rfl
  · unfold f_X12_coins
    refine ek_for (fun n' x s => f_X12_coins_b4 N (f_X12_coins_b46 N (nI n) cr gi') (nI n) cr gi' n' ak s x) (fun k s => if ek_bt cr k then (if gi' k ≤ 0 then s else s + 1) else s) (fun _ _ => True) n N (by omega) ?_ 0 trivial (some ((ek_pt cr gi 9).1, ek_nv cr gi 9)) ?_
    · intro n' j s hj _
      refine ⟨?_, trivial⟩
      show f_X12_coins_b4 N _ _ _ _ (n' + 1) _ _ _ = _
      rw [f_X12_coins_b4, if_neg (nI_ge hj (by omega)), ek_has cr (by omega)]
      unfold f_X12_coins_b38
      cases h : ek_bt cr j
      · simp only [Bool.false_eq_true, if_false, if_true, nm]; rw [nI_1, Int32.add_zero]
      · simp only [if_true, nm]; rw [if_neg (by decide), gd_t (ek_inb (by omega) (by omega)), nI_clamp (by omega), nI_1]
        split
        · rw [Int32.add_zero]
        · rfl
    · intro n' _
      show f_X12_coins_b4 N _ _ _ _ (n' + 1) _ _ _ = _
      rw [f_X12_coins_b4, if_pos (nI_le (Nat.le_refl _) (by omega))]
      unfold f_X12_coins_b46
      rw [ek_coinsM hN hn, bn_t]
      simp only [nm, p_X12_say]
      rw [ek_ptn hc gi hn, ek_ptext (fun k hk _ => he k (by omega)), ek_nvn hc gi hn, ← ek_nvext (fun k hk => he k (by omega))]
      rfl
  · exact ⟨rfl, rfl⟩
theorem r_forget {y : Nat} (hy : y ≤ 40) (x : Int32) : p_X11_forget (nI y) x = p_X12_forget (nI y) x ∧ ∃ z, z ≤ y ∧ (p_X11_forget (nI y) x).2 = nI z := by
  unfold p_X11_forget p_X12_forget
  rcases ek_what x y (by omega) (nI y) _ rfl rfl with ⟨f1, f2⟩ | ⟨w, hw, rfl, f1, f2, f3, f4⟩
  · rw [if_pos f1]
    rcases f2 with q | ⟨q1, q2, q3⟩
    · rw [if_pos q]; exact ⟨rfl, y, Nat.le_refl _, rfl⟩
    · rw [if_neg q1, if_neg q3]; exact ⟨rfl, y, Nat.le_refl _, rfl⟩
  · rw [if_neg f1, if_neg f2, if_pos f4]; exact ⟨rfl, w, hw, rfl⟩
def ek_aw (f : Nat → Int32) (h : Int32) : Bool := decide (f 0 = 3) && (!decide (h < f 4) && !decide (f 5 < h))
theorem ek_awX {n i : Nat} {F : Nat → Int32} {h : Int32} (hn : n ≤ 9) (hi : i < n) : p_X1_isAway (nI n) F (nI i) h = if ek_aw (ek_ds F i) h then 1 else 0 := by
  unfold p_X1_isAway ek_aw
  have e0 : p_X1_fact (nI n) F (nI i) 0 = ek_ds F i 0 := ek_fact F hn hi (w := 0) (by omega)
  have e4 : p_X1_fact (nI n) F (nI i) 4 = ek_ds F i 4 := ek_fact F hn hi (w := 4) (by omega)
  have e5 : p_X1_fact (nI n) F (nI i) 5 = ek_ds F i 5 := ek_fact F hn hi (w := 5) (by omega)
  rw [e0, e4, e5]
  by_cases a : ek_ds F i 0 = 3
  · rw [if_pos a, decide_eq_true a]
    by_cases b : h < ek_ds F i 4
    · rw [if_pos b, decide_eq_true b]; rfl
    · rw [if_neg b, decide_eq_false b]
      by_cases c : ek_ds F i 5 < h
      · rw [if_pos c, decide_eq_true c]; rfl
      · rw [if_neg c, decide_eq_false c]; rfl
  · rw [if_neg a, decide_eq_false a]; rfl
theorem ek_awM {N n i : Nat} {F D : Nat → Int32} {h : Int32} (hD : ek_D n F D) (hi : i < n) : f_X12_isAway N D (nI i) h = some (if ek_aw (ek_ds F i) h then 1 else 0) := by
  unfold f_X12_isAway ek_aw p_X12_in
  have e0 : f_X12_of N D (nI i) 0 = some (ek_ds F i 0) := ek_ofD hD hi (w := 0) (by omega)
  have e4 : f_X12_of N D (nI i) 4 = some (ek_ds F i 4) := ek_ofD hD hi (w := 4) (by omega)
  have e5 : f_X12_of N D (nI i) 5 = some (ek_ds F i 5) := ek_ofD hD hi (w := 5) (by omega)
  rw [e0, e4, e5, bn_t, bn_t, bn_t]
  by_cases a : ek_ds F i 0 = 3
  · rw [if_pos a, decide_eq_true a]
    by_cases b : h < ek_ds F i 4
    · rw [if_pos b, decide_eq_true b, if_pos rfl]; rfl
    · rw [if_neg b, decide_eq_false b]
      by_cases c : ek_ds F i 5 < h
      · rw [if_pos c, decide_eq_true c, if_pos rfl]; rfl
      · rw [if_neg c, decide_eq_false c, if_neg (by decide)]; rfl
  · rw [if_neg a, decide_eq_false a]; rfl
