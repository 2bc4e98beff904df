/-! coins, words, mark, forget -/
def ek_nv (c : Int32) (g : Nat → Int32) (m : Nat) : Int32 := ek_fo (fun k s => if ek_bt c k then (if g k ≤ 0 then s else s + 1) else s) 0 m
theorem ek_nvn {n : Nat} {c : Int32} (hc : ek_sub n c) (g : Nat → Int32) {m : Nat} (h : n ≤ m) : ek_nv c g m = ek_nv c g n := by
  unfold ek_nv
  apply ek_fomore h
  intro j hj _ t
  simp only [hc j hj, Bool.false_eq_true, if_false]
theorem ek_nvext {c : Int32} {g g' : Nat → Int32} {m : Nat} (h : ∀ k, k < m → g k = g' k) : ek_nv c g m = ek_nv c g' m := by
  unfold ek_nv
  apply ek_foext
  intro j hj t
  rw [h j hj]
theorem ek_nvX {N : Nat} {c : Int32} {g : Nat → Int32} (hN : 5000 ≤ N) : f_X6_numberOfGivers N c g = some (ek_nv c g 9) := by
  unfold f_X6_numberOfGivers
  refine ek_for (fun n' x s => f_X6_numberOfGivers_b4 N c g n' s x) (fun k s => if ek_bt c k then (if g k ≤ 0 then s else s + 1) else s) (fun _ _ => True) 9 N (by omega) ?_ 0 trivial _ ?_
  · intro n' j s hj _
    refine ⟨?_, trivial⟩
    show f_X6_numberOfGivers_b4 N c g (n' + 1) _ _ = _
    rw [f_X6_numberOfGivers_b4, if_neg (show ¬ (9 : Int32) ≤ nI j from nI_ge (b := 9) hj (by omega)), ek_gift c g hj, bn_t]
    unfold f_X6_numberOfGivers_b21
    rw [nI_1]
    cases h : ek_bt c j
    · simp only [Bool.false_eq_true, if_false]; rw [if_pos (by decide)]
    · simp only [if_true]
  · intro n' _
    show f_X6_numberOfGivers_b4 N c g (n' + 1) _ _ = _
    rw [f_X6_numberOfGivers_b4, if_pos (show (9 : Int32) ≤ nI 9 from nI_le (a := 9) (Nat.le_refl _) (by omega))]
    rfl
theorem ek_coinsM {N n : Nat} {c : Int32} {g : Nat → Int32} (hN : 5000 ≤ N) (hn : n ≤ 9) : f_X12_coinsNow N (nI n) c g = some (ek_pt c g n).1 := by
  unfold f_X12_coinsNow
  have hl : ∀ m, ek_fo (fun k (s : Int32) => if ek_bt c k then s + g k else s) 0 m = (ek_pt c g m).1 := by
    intro m
    unfold ek_pt
    refine ek_forel (s := (0 : Int32)) (t := ((0 : Int32), (0 : Int32), (0 : Int32))) (fun _ (a : Int32) (b : Int32 × Int32 × Int32) => a = b.1) rfl ?_
    intro j _ a b h
    subst h
    cases ek_bt c j <;> rfl
  refine ek_for (fun n' x s => f_X12_coinsNow_b4 N (nI n) c g n' s x) (fun k (s : Int32) => if ek_bt c k then s + g k else s) (fun _ _ => True) n N (by omega) ?_ 0 trivial _ ?_
  · intro n' j s hj _
    refine ⟨?_, trivial⟩
    show f_X12_coinsNow_b4 N _ _ _ (n' + 1) _ _ = _
    rw [f_X12_coinsNow_b4, if_neg (nI_ge hj (by omega)), ek_has c (by omega)]
    unfold f_X12_coinsNow_b34
    cases h : ek_bt c j
    · simp only [Bool.false_eq_true, if_false, if_true, nm]; rw [nI_1, Int32.add_zero]
    · simp only [if_true, nm]; rw [if_neg (by decide), gd_t (ek_inb (by omega) (by omega)), nI_clamp (by omega), nI_1]
  · intro n' _
    show f_X12_coinsNow_b4 N _ _ _ (n' + 1) _ _ = _
    rw [f_X12_coinsNow_b4, if_pos (nI_le (Nat.le_refl _) (by omega)), hl]
theorem r_coins {n N : Nat} {cr la na li ak a1 a2 a3 a4 a5 a6 : Int32} {gi gi' : Nat → Int32} (hN : 5000 ≤ N) (hn : n ≤ 9) (hc : ek_sub n cr) (he : ∀ i, i < 9 → gi' i = gi i) :
    ∃ o o', f_X11_coins N cr la na li gi ak a1 a2 a3 a4 a5 a6 = some o ∧ f_X12_coins N (nI n) cr gi' ak = some o' ∧ o.1 = o'.1 ∧ o.2.1 = o'.2 := by
  apply ek_mk2
  · unfold f_X11_coins
    rw [ek_layX5 hN, bn_t, ek_nvX hN, bn_t]; rfl
  · unfold f_X12_coins
    refine ek_for (fun n' x s => f_X12_coins_b4 N (f_X12_coins_b46 N (nI n) cr gi') (nI n) cr gi' n' ak s x) (fun k s => if ek_bt cr k then (if gi' k ≤ 0 then s else s + 1) else s) (fun _ _ => True) n N (by omega) ?_ 0 trivial (some ((ek_pt cr gi 9).1, ek_nv cr gi 9)) ?_
    · intro n' j s hj _
      refine ⟨?_, trivial⟩
      show f_X12_coins_b4 N _ _ _ _ (n' + 1) _ _ _ = _
      rw [f_X12_coins_b4, if_neg (nI_ge hj (by omega)), ek_has cr (by omega)]
      unfold f_X12_coins_b38
      cases h : ek_bt cr j
      · simp only [Bool.false_eq_true, if_false, if_true, nm]; rw [nI_1, Int32.add_zero]
      · simp only [if_true, nm]; rw [if_neg (by decide), gd_t (ek_inb (by omega) (by omega)), nI_clamp (by omega), nI_1]
        split
        · rw [Int32.add_zero]
        · rfl
    · intro n' _
      show f_X12_coins_b4 N _ _ _ _ (n' + 1) _ _ _ = _
      rw [f_X12_coins_b4, if_pos (nI_le (Nat.le_refl _) (by omega))]
      unfold f_X12_coins_b46
      rw [ek_coinsM hN hn, bn_t]
      simp only [nm, p_X12_say]
      rw [ek_ptn hc gi hn, ek_ptext (fun k hk _ => he k (by omega)), ek_nvn hc gi hn, ← ek_nvext (fun k hk => he k (by omega))]
      rfl
  · exact ⟨rfl, rfl⟩
theorem ek_times {t t2 : Nat → Int32} (h : ∀ j, j < 10 → t j = t2 j) : p_X0_timesOf t (ek_mo t2).1 = (ek_mo t2).2 := by
  rcases ek_mor t2 with e | ⟨j, hj, e⟩
  · rw [e]; rfl
  · rw [e]
    unfold p_X0_timesOf
    simp only
    rw [if_neg (nI_pos (by omega)), if_neg (show ¬ (10 : Int32) ≤ nI j from nI_ge (b := 10) hj (by omega)), nI_clamp (by omega), h j hj]
theorem r_words {n N : Nat} {cr ak wm wt : Int32} {gi wr wr' t : Nat → Int32} (hN : 5000 ≤ N) (hn : n ≤ 9) (hB : ek_B n cr gi wr) (he : ∀ i, i < 9 → wr' i = wr i) :
    ∃ o o', f_X11_words N cr wr ak t = some o ∧ f_X12_words N (nI n) cr wr' ak wm wt = some o' ∧ o.1 = o'.1 ∧ o.2.1 = o'.2.1 := by
  obtain ⟨tm, h1, h2⟩ := ek_layX0 (t := t) hN hB.2.2
  have e : ∀ j, j < 10 → tm j = (fun j => ek_cw cr wr' n (nI j)) j := fun j hj => by
    rw [h2 j hj, ek_cwn hB.1 wr (nI j) hn]
    exact (ek_cwext (fun k hk _ => he k (by omega))).symm
  apply ek_mk2
  · unfold f_X11_words
    rw [h1, bn_t, ek_moX hN, bn_t, ek_moext e]
    simp only [nm, p_X11_tell]
    rw [ek_times e]
  · unfold f_X12_words
    rw [ek_cwM hN hn, bn_t]
    simp only [nm, p_X12_say]
    rfl
  · exact ⟨rfl, rfl⟩
theorem r_forget {y : Nat} (hy : y ≤ 40) (x : Int32) : p_X11_forget (nI y) x = p_X12_forget (nI y) x ∧ ∃ z, z ≤ y ∧ (p_X11_forget (nI y) x).2 = nI z := by
  unfold p_X11_forget p_X12_forget
  rcases ek_what x y (by omega) (nI y) _ rfl rfl with ⟨f1, f2⟩ | ⟨w, hw, rfl, f1, f2, f3, f4⟩
  · rw [if_pos f1]
    rcases f2 with q | ⟨q1, q2, q3⟩
    · rw [if_pos q]; exact ⟨rfl, y, Nat.le_refl _, rfl⟩
    · rw [if_neg q1, if_neg q3]; exact ⟨rfl, y, Nat.le_refl _, rfl⟩
  · rw [if_neg f1, if_neg f2, if_pos f4]; exact ⟨rfl, w, hw, rfl⟩
def ek_aw (f : Nat → Int32) (h : Int32) : Bool := decide (f 0 = 3) && (!decide (h < f 4) && !decide (f 5 < h))
theorem ek_awX {n i : Nat} {F : Nat → Int32} {h : Int32} (hn : n ≤ 9) (hi : i < n) : p_X1_isAway (nI n) F (nI i) h = if ek_aw (ek_ds F i) h then 1 else 0 := by
  unfold p_X1_isAway ek_aw
  have e0 : p_X1_fact (nI n) F (nI i) 0 = ek_ds F i 0 := ek_fact F hn hi (w := 0) (by omega)
  have e4 : p_X1_fact (nI n) F (nI i) 4 = ek_ds F i 4 := ek_fact F hn hi (w := 4) (by omega)
  have e5 : p_X1_fact (nI n) F (nI i) 5 = ek_ds F i 5 := ek_fact F hn hi (w := 5) (by omega)
  rw [e0, e4, e5]
  by_cases a : ek_ds F i 0 = 3
  · rw [if_pos a, decide_eq_true a]
    by_cases b : h < ek_ds F i 4
    · rw [if_pos b, decide_eq_true b]; rfl
    · rw [if_neg b, decide_eq_false b]
      by_cases c : ek_ds F i 5 < h
      · rw [if_pos c, decide_eq_true c]; rfl
      · rw [if_neg c, decide_eq_false c]; rfl
  · rw [if_neg a, decide_eq_false a]; rfl
theorem ek_awM {N n i : Nat} {F D : Nat → Int32} {h : Int32} (hD : ek_D n F D) (hi : i < n) : f_X12_isAway N D (nI i) h = some (if ek_aw (ek_ds F i) h then 1 else 0) := by
  unfold f_X12_isAway ek_aw p_X12_in
  have e0 : f_X12_of N D (nI i) 0 = some (ek_ds F i 0) := ek_ofD hD hi (w := 0) (by omega)
  have e4 : f_X12_of N D (nI i) 4 = some (ek_ds F i 4) := ek_ofD hD hi (w := 4) (by omega)
  have e5 : f_X12_of N D (nI i) 5 = some (ek_ds F i 5) := ek_ofD hD hi (w := 5) (by omega)
  rw [e0, e4, e5, bn_t, bn_t, bn_t]
  by_cases a : ek_ds F i 0 = 3
  · rw [if_pos a, decide_eq_true a]
    by_cases b : h < ek_ds F i 4
    · rw [if_pos b, decide_eq_true b, if_pos rfl]; rfl
    · rw [if_neg b, decide_eq_false b]
      by_cases c : ek_ds F i 5 < h
      · rw [if_pos c, decide_eq_true c, if_pos rfl]; rfl
      · rw [if_neg c, decide_eq_false c, if_neg (by decide)]; rfl
  · rw [if_neg a, decide_eq_false a]; rfl
theorem r_mark {n N : Nat} {F D : Nat → Int32} {ho cr la na li l l' wm wt a1 a2 a3 a4 a5 a6 : Int32} {gi wr gi' wr' t Cn Cn' : Nat → Int32} (hN : 5000 ≤ N) (hD : ek_D n F D) (hB : ek_B n cr gi wr) (hT : ek_T la na li) (he : ∀ i, i < 9 → gi' i = gi i ∧ wr' i = wr i) (hF : ek_F l Cn l' Cn') (x y : Int32) :
    ∃ o o', f_X11_mark N (nI n) F ho cr la na li gi wr l a1 a2 a3 a4 a5 a6 t Cn x y = some o ∧ f_X12_mark N (nI n) la na li cr ho D gi' wr' l' wm wt Cn' x y = some o' ∧ o.1 = o'.1 ∧ ek_F o.2.1 o.2.2.2.2.2.2.2.2.2 o'.2.1 o'.2.2.2.2 := by
  have hn := hD.1
  have hB' : ek_B n cr gi' wr' := ek_Beq hB he
  rcases ek_desk x hn with ⟨e1, e2, -⟩ | ⟨i, hi, rfl, e1, e2⟩
  · apply ek_mk2
    · unfold f_X11_mark; rw [if_pos e1]
    · unfold f_X12_mark; rw [if_pos e2]
    · exact ⟨rfl, hF⟩
  have bad : (y ≤ 0 ∨ (¬ y ≤ 0 ∧ ¬ y ≤ 5)) → p_X12_in y 1 5 = 0 → ∃ o o', f_X11_mark N (nI n) F ho cr la na li gi wr l a1 a2 a3 a4 a5 a6 t Cn (nI i) y = some o ∧ f_X12_mark N (nI n) la na li cr ho D gi' wr' l' wm wt Cn' (nI i) y = some o' ∧ o.1 = o'.1 ∧ ek_F o.2.1 o.2.2.2.2.2.2.2.2.2 o'.2.1 o'.2.2.2.2 := by
    intro h hin
    rcases h with h | ⟨h1, h2⟩
    · apply ek_mk2
      · unfold f_X11_mark; rw [if_neg e1, if_pos h]
      · unfold f_X12_mark; rw [if_neg e2, if_pos hin]
      · exact ⟨rfl, hF⟩
    · apply ek_mk2
      · unfold f_X11_mark; rw [if_neg e1, if_neg h1, if_neg h2]
      · unfold f_X12_mark; rw [if_neg e2, if_pos hin]
      · exact ⟨rfl, hF⟩
  rcases ek_ix y 6 (by omega) with q | q | ⟨k, hk, rfl⟩
  · refine bad (Or.inl (Int32.le_of_lt q)) ?_
    have h1 : y < 1 := of_eq_true (ek_ng q (a := 1) (by decide)).1
    unfold p_X12_in; rw [if_pos h1]
  · refine bad (Or.inr ⟨of_eq_false (ek_bg q (a := 0) (by decide)).2.2.1, of_eq_false (ek_bg q (a := 5) (by decide)).2.2.1⟩) ?_
    have h1 : ¬ y < 1 := of_eq_false (ek_bg q (a := 1) (by decide)).1
    have h2 : 5 < y := of_eq_true (ek_bg q (a := 5) (by decide)).2.1
    unfold p_X12_in; rw [if_neg h1, if_pos h2]
  have hf := hD.2.2 i hi
  have k5 : k = 0 ∨ k = 1 ∨ k = 2 ∨ k = 3 ∨ k = 4 ∨ k = 5 := by omega
  -- not of this kind
  have no : ∀ kk : Int32, ¬ kk ≤ 0 → kk ≤ 5 → ¬ p_X12_in kk 1 5 = 0 → p_X1_isOfKind (nI n) F (nI i) kk = 0 → f_X12_isA N D (nI i) kk = some 0 → ∃ o o', f_X11_mark N (nI n) F ho cr la na li gi wr l a1 a2 a3 a4 a5 a6 t Cn (nI i) kk = some o ∧ f_X12_mark N (nI n) la na li cr ho D gi' wr' l' wm wt Cn' (nI i) kk = some o' ∧ o.1 = o'.1 ∧ ek_F o.2.1 o.2.2.2.2.2.2.2.2.2 o'.2.1 o'.2.2.2.2 := by
    intro kk h0 h5 hin c1 c2
    apply ek_mk2
    · unfold f_X11_mark; rw [if_neg e1, if_neg h0, if_pos h5, if_pos c1, show ((3 : Int32)) = nI 3 from rfl, ek_ref (by decide) (by decide)]; rfl
    · unfold f_X12_mark; rw [if_neg e2, if_neg hin, c2, bn_t, if_pos rfl, show ((3 : Int32)) = nI 3 from rfl, ek_meet (by decide), bn_t]
    · exact ⟨rfl, ek_F_upd hF (by decide)⟩
  rcases k5 with rfl | rfl | rfl | rfl | rfl | rfl
  · exact bad (Or.inl (by decide)) (by decide)
  · by_cases hk : ek_ds F i 0 = 1
    · have c1 : ¬ p_X1_isOfKind (nI n) F (nI i) 1 = 0 := by rw [ek_kind5 hn hi 1 (by decide), if_pos hk]; decide
      have c2 : f_X12_isA N D (nI i) 1 = some 1 := by rw [ek_isA hD hi (by decide), if_pos hk]
      apply ek_mk2
      · unfold f_X11_mark; rw [if_neg e1, if_neg (by decide), if_pos (by decide), if_neg (show ¬ p_X1_isOfKind (nI n) F (nI i) (nI 1) = 0 from c1), if_pos (show nI 1 = 1 from rfl)]
        unfold f_X11_mark_b81
        exact (apply_ite some _ _ _).symm
      · unfold f_X12_mark; rw [if_neg e2, if_neg (by decide), show f_X12_isA N D (nI i) (nI 1) = some 1 from c2, bn_t, if_neg (by decide), if_pos (show nI 1 = 1 from rfl)]
        unfold f_X12_mark_b73
        exact (apply_ite some _ _ _).symm
      · rw [nI_1]
        rw [show nI n - 1 = nI (n - 1) from pk_sub (b := 1) (by omega)]
        by_cases z : n ≤ i + 1
        · rw [if_pos (nI_le z (by omega)), if_pos (nI_le (by omega) (by omega))]; exact ⟨rfl, hF⟩
        · rw [if_neg (nI_ge (by omega) (by omega)), if_neg (nI_ge (by omega) (by omega))]; exact ⟨rfl, hF⟩
    · exact no _ (by decide) (by decide) (by decide) (by rw [ek_kind5 hn hi (nI 1) (by decide), if_neg (show ¬ ek_ds F i 0 = nI 1 from hk)]) (by rw [ek_isA hD hi (by decide), if_neg (show ¬ ek_ds F i 0 = nI 1 from hk)])
  · by_cases hk : ek_ds F i 0 = 2
    · have c1 : ¬ p_X1_isOfKind (nI n) F (nI i) 2 = 0 := by rw [ek_kind5 hn hi 2 (by decide), if_pos hk]; decide
      have c2 : f_X12_isA N D (nI i) 2 = some 1 := by rw [ek_isA hD hi (by decide), if_pos hk]
      obtain ⟨h, h1, h9, eh⟩ := hf.2.2.2.2 hk
      have e0 : p_X1_fact (nI n) F (nI i) 0 = ek_ds F i 0 := ek_fact F hn hi (w := 0) (by omega)
      have e4 : p_X1_fact (nI n) F (nI i) 4 = ek_ds F i 4 := ek_fact F hn hi (w := 4) (by omega)
      apply ek_mk2
      · unfold f_X11_mark; rw [if_neg e1, if_neg (by decide), if_pos (by decide), if_neg (show ¬ p_X1_isOfKind (nI n) F (nI i) (nI 2) = 0 from c1), if_neg (by decide), if_pos (show nI 2 = 2 from rfl)]
        unfold f_X1_hoursInHeap p_X1_heapOf
        simp only [nm]
        rw [e0, if_pos hk, e4, eh, if_neg (nI_nle h1 (by omega)), gd_t (nI_ne0 h1 (by omega)), bn_t]
      · unfold f_X12_mark; rw [if_neg e2, if_neg (by decide), show f_X12_isA N D (nI i) (nI 2) = some 1 from c2, bn_t, if_neg (by decide), if_neg (by decide), if_pos (show nI 2 = 2 from rfl), show f_X12_of N D (nI i) 4 = some (ek_ds F i 4) from ek_ofD hD hi (w := 4) (by omega), bn_t, eh, gd_t (nI_ne0 h1 (by omega))]
      · exact ⟨rfl, hF⟩
    · exact no _ (by decide) (by decide) (by decide) (by rw [ek_kind5 hn hi (nI 2) (by decide), if_neg (show ¬ ek_ds F i 0 = nI 2 from hk)]) (by rw [ek_isA hD hi (by decide), if_neg (show ¬ ek_ds F i 0 = nI 2 from hk)])
  · by_cases hk : ek_ds F i 0 = 3
    · have c1 : ¬ p_X1_isOfKind (nI n) F (nI i) 3 = 0 := by rw [ek_kind5 hn hi 3 (by decide), if_pos hk]; decide
      have c2 : f_X12_isA N D (nI i) 3 = some 1 := by rw [ek_isA hD hi (by decide), if_pos hk]
      apply ek_mk2
      · unfold f_X11_mark; rw [if_neg e1, if_neg (by decide), if_pos (by decide), if_neg (show ¬ p_X1_isOfKind (nI n) F (nI i) (nI 3) = 0 from c1), if_neg (by decide), if_neg (by decide), if_pos (show nI 3 = 3 from rfl), ek_awX hn hi]
        exact (apply_ite some _ _ _).symm
      · unfold f_X12_mark; rw [if_neg e2, if_neg (by decide), show f_X12_isA N D (nI i) (nI 3) = some 1 from c2, bn_t, if_neg (by decide), if_neg (by decide), if_neg (by decide), if_pos (show nI 3 = 3 from rfl), ek_awM hD hi, bn_t]
        exact (apply_ite some _ _ _).symm
      · split <;> exact ⟨rfl, hF⟩
    · exact no _ (by decide) (by decide) (by decide) (by rw [ek_kind5 hn hi (nI 3) (by decide), if_neg (show ¬ ek_ds F i 0 = nI 3 from hk)]) (by rw [ek_isA hD hi (by decide), if_neg (show ¬ ek_ds F i 0 = nI 3 from hk)])
  · by_cases hk : ek_ds F i 0 = 4 ∨ ek_ds F i 0 = 5
    · have c1 : ¬ p_X1_isOfKind (nI n) F (nI i) 4 = 0 := by rw [ek_kind4 hn hi, if_pos hk]; decide
      have c2 : f_X12_isA N D (nI i) 4 = some 1 := by rw [ek_isA4 hD hi, if_pos hk]
      obtain ⟨tm, t1, t2⟩ := ek_layX0 (t := t) hN hB.2.2
      apply ek_mk2
      · unfold f_X11_mark; rw [if_neg e1, if_neg (by decide), if_pos (by decide), if_neg (show ¬ p_X1_isOfKind (nI n) F (nI i) (nI 4) = 0 from c1), if_neg (by decide), if_neg (by decide), if_neg (by decide), if_pos (show nI 4 = 4 from rfl), t1, bn_t, ek_wdX hN hn hi, bn_t]
      · unfold f_X12_mark; rw [if_neg e2, if_neg (by decide), show f_X12_isA N D (nI i) (nI 4) = some 1 from c2, bn_t, if_neg (by decide), if_neg (by decide), if_neg (by decide), if_neg (by decide), if_pos (show nI 4 = 4 from rfl), ek_wdM hN hD hi, bn_t]
      · refine ⟨?_, hF⟩
        show ek_wd _ (ek_mo tm).1 = ek_wd _ _
        rw [ek_moext t2, ek_moext (fun j _ => ek_cwn hB.1 wr (nI j) hn), ek_moext (fun j _ => ek_cwext (v := nI j) (fun k hk _ => ((he k (by omega)).2).symm))]
    · exact no _ (by decide) (by decide) (by decide) (by rw [show nI 4 = (4 : Int32) from rfl, ek_kind4 hn hi, if_neg hk]) (by rw [show nI 4 = (4 : Int32) from rfl, ek_isA4 hD hi, if_neg hk])
  · by_cases hk : ek_ds F i 0 = 5
    · have c1 : ¬ p_X1_isOfKind (nI n) F (nI i) 5 = 0 := by rw [ek_kind5 hn hi 5 (by decide), if_pos hk]; decide
      have c2 : f_X12_isA N D (nI i) 5 = some 1 := by rw [ek_isA hD hi (by decide), if_pos hk]
      have ok := ek_okpt (c := cr) (g := gi') (m := n) hn (fun k hk => hB'.2.1 k (by omega))
      have hb : ∃ G, G ≤ 9 ∧ (ek_pt cr gi' n).2.1 = nI G := by
        obtain ⟨T, G, L, q, h1, h2, h3⟩ := ok
        exact ⟨G, by omega, by rw [q]⟩
      have en : ∀ o, p_X12_namedOf na o = ek_named na o := fun o => by unfold p_X12_namedOf ek_named; rfl
      obtain ⟨v, hv, ev⟩ := ek_namedb hT.2.1 (ek_ownb (law := la) hf ok (by omega))
      apply ek_mk2
      · unfold f_X11_mark; rw [if_neg e1, if_neg (by decide), if_pos (by decide), if_neg (show ¬ p_X1_isOfKind (nI n) F (nI i) (nI 5) = 0 from c1), if_neg (by decide), if_neg (by decide), if_neg (by decide), if_neg (by decide), ek_layX5 hN, bn_t]
        simp only
        rw [ek_wouldX hn hi, bn_t]
      · unfold f_X12_mark; rw [if_neg e2, if_neg (by decide), show f_X12_isA N D (nI i) (nI 5) = some 1 from c2, bn_t, if_neg (by decide), if_neg (by decide), if_neg (by decide), if_neg (by decide), if_neg (by decide), ek_ownM hN hD hT.1 hb hi, bn_t, en, ek_lkM hN hn (by rw [ev]; exact nI_pos' (by omega)), bn_t]
      · refine ⟨?_, hF⟩
        show ek_would _ _ _ _ _ = ek_lk _ _ _
        unfold ek_would
        rw [ek_ptn hB.1 gi hn, ek_ptext (g' := gi) (fun k hk _ => (he k (by omega)).1)]
    · exact no _ (by decide) (by decide) (by decide) (by rw [ek_kind5 hn hi (nI 5) (by decide), if_neg (show ¬ ek_ds F i 0 = nI 5 from hk)]) (by rw [ek_isA hD hi (by decide), if_neg (show ¬ ek_ds F i 0 = nI 5 from hk)])
