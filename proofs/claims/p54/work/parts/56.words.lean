/-! words; who puts in: class and model -/
def ek_cw (c : Int32) (wr : Nat → Int32) (m : Nat) (v : Int32) : Int32 := ek_fo (fun k s => if ek_bt c k then (if wr k = v then s + 1 else s) else s) 0 m
def ek_mo (t : Nat → Int32) : Int32 × Int32 := ek_fo (fun j (s : Int32 × Int32) => if t j ≤ s.2 then s else (nI j, t j)) (-9, 0) 10
def ek_wd (f : Nat → Int32) (mo : Int32) : Int32 := if f 0 = 4 ∨ f 0 = 5 then (if mo = -9 then f 3 else mo) else f 3
theorem ek_moext {t t' : Nat → Int32} (h : ∀ j, j < 10 → t j = t' j) : ek_mo t = ek_mo t' := by
  unfold ek_mo
  apply ek_foext
  intro j hj s
  rw [h j hj]
theorem ek_mor (t : Nat → Int32) : ((ek_mo t) = (-9, 0)) ∨ ∃ j, j < 10 ∧ (ek_mo t) = (nI j, t j) := by
  have : ∀ m, (ek_fo (fun j (s : Int32 × Int32) => if t j ≤ s.2 then s else (nI j, t j)) (-9, 0) m = (-9, 0)) ∨ ∃ j, j < m ∧ ek_fo (fun j (s : Int32 × Int32) => if t j ≤ s.2 then s else (nI j, t j)) (-9, 0) m = (nI j, t j) := by
    intro m
    induction m with
    | zero => exact Or.inl rfl
    | succ m ih =>
      show (if t m ≤ (ek_fo (fun j (s : Int32 × Int32) => if t j ≤ s.2 then s else (nI j, t j)) (-9, 0) m).2 then _ else _) = _ ∨ ∃ j, j < m + 1 ∧ (if t m ≤ (ek_fo (fun j (s : Int32 × Int32) => if t j ≤ s.2 then s else (nI j, t j)) (-9, 0) m).2 then _ else _) = _
      split
      · rcases ih with h | ⟨j, hj, h⟩
        · exact Or.inl h
        · exact Or.inr ⟨j, by omega, h⟩
      · exact Or.inr ⟨m, by omega, rfl⟩
  exact this 10
theorem ek_cwn {n : Nat} {c : Int32} (hc : ek_sub n c) (wr : Nat → Int32) (v : Int32) {m : Nat} (h : n ≤ m) : ek_cw c wr m v = ek_cw c wr n v := by
  unfold ek_cw
  apply ek_fomore h
  intro j hj _ t
  simp only [hc j hj, Bool.false_eq_true, if_false]
theorem ek_cwext {c : Int32} {w w' : Nat → Int32} {m : Nat} {v : Int32} (h : ∀ k, k < m → ek_bt c k = true → w k = w' k) : ek_cw c w m v = ek_cw c w' m v := by
  unfold ek_cw
  apply ek_foext
  intro j hj t
  by_cases e : ek_bt c j = true
  · simp only [e, if_true]; rw [h j hj e]
  · simp only [e, Bool.false_eq_true, if_false]
theorem ek_add {t : Nat → Int32} {w : Nat} (hw : w ≤ 9) : p_X0_add t (nI w) = upd t w (t w + 1) := by
  unfold p_X0_add
  rw [if_neg (nI_pos (by omega)), if_neg (show ¬ (10 : Int32) ≤ _ from nI_ge (b := 10) (by omega) (by omega)), nI_clamp (by omega)]
theorem ek_layX0 {N : Nat} {c : Int32} {wr t : Nat → Int32} (hN : 5000 ≤ N) (hw : ∀ k, k < 9 → ek_bt c k = true → ∃ w, w ≤ 9 ∧ wr k = nI w) :
    ∃ tm, f_X0_layFrom N c wr t = some tm ∧ ∀ j, j < 10 → tm j = ek_cw c wr 9 (nI j) := by
  unfold f_X0_layFrom
  refine ek_forI (fun n' x s => f_X0_layFrom_b2 N (f_X0_layFrom_b24 N c wr) c wr n' s x) (fun k s => ∀ q, q < k → s q = 0) 10 N (by omega) ?_ t (fun q hq => absurd hq (by omega)) (fun o => ∃ tm, o = some tm ∧ ∀ j, j < 10 → tm j = ek_cw c wr 9 (nI j)) ?_
  · intro n' k s hk hs
    refine ⟨upd s k 0, ?_, ?_⟩
    · show f_X0_layFrom_b2 N _ c wr (n' + 1) _ _ = _
      rw [f_X0_layFrom_b2, if_neg (show ¬ (10 : Int32) ≤ _ from nI_ge (b := 10) hk (by omega)), gd_t (ek_inb hk (by omega)), nI_clamp (by omega), nI_1]
    · intro q hq
      show (if q = k then 0 else s q) = 0
      by_cases e : q = k
      · rw [if_pos e]
      · rw [if_neg e, hs q (by omega)]
  · intro n' s hs
    show ∃ tm, f_X0_layFrom_b2 N _ c wr (n' + 1) _ _ = some tm ∧ _
    rw [f_X0_layFrom_b2, if_pos (show (10 : Int32) ≤ nI 10 from nI_le (a := 10) (Nat.le_refl _) (by omega))]
    unfold f_X0_layFrom_b24
    refine ek_forI (fun n' x s => f_X0_layFrom_b26 N c wr n' s x) (fun k s => ∀ q, q < 10 → s q = ek_cw c wr k (nI q)) 9 N (by omega) ?_ s (fun q hq => hs q hq) (fun o => ∃ tm, o = some tm ∧ ∀ j, j < 10 → tm j = ek_cw c wr 9 (nI j)) ?_
    · intro n' k s hk hs
      by_cases e : ek_bt c k = true
      · obtain ⟨w, hw9, ew⟩ := hw k hk e
        refine ⟨upd s w (s w + 1), ?_, ?_⟩
        · show f_X0_layFrom_b26 N c wr (n' + 1) _ _ = _
          rw [f_X0_layFrom_b26, if_neg (show ¬ (9 : Int32) ≤ _ from nI_ge (b := 9) hk (by omega)), ek_isC c hk, e]
          unfold f_X0_layFrom_b49
          simp only [if_true]
          rw [if_neg (by decide), ek_word c wr hk, e, bn_t]
          simp only [nm, if_true]
          rw [ew, ek_add hw9, nI_1]
        · intro q hq
          show (if q = w then s w + 1 else s q) = (if ek_bt c k then (if wr k = nI q then ek_cw c wr k (nI q) + 1 else ek_cw c wr k (nI q)) else ek_cw c wr k (nI q))
          rw [if_pos e, ew]
          by_cases d : q = w
          · subst d; rw [if_pos rfl, if_pos rfl, hs q hq]
          · rw [if_neg d, if_neg (fun r => d ((nI_eq (by omega) (by omega)).mp r).symm), hs q hq]
      · refine ⟨s, ?_, ?_⟩
        · show f_X0_layFrom_b26 N c wr (n' + 1) _ _ = _
          rw [f_X0_layFrom_b26, if_neg (show ¬ (9 : Int32) ≤ _ from nI_ge (b := 9) hk (by omega)), ek_isC c hk, if_neg e, if_pos rfl]
          unfold f_X0_layFrom_b49
          rw [nI_1]
        · intro q hq
          show s q = (if ek_bt c k then _ else ek_cw c wr k (nI q))
          rw [if_neg e, hs q hq]
    · intro n' s hs
      refine ⟨s, ?_, hs⟩
      show f_X0_layFrom_b26 N c wr (n' + 1) _ _ = _
      rw [f_X0_layFrom_b26, if_pos (show (9 : Int32) ≤ nI 9 from nI_le (a := 9) (Nat.le_refl _) (by omega))]
theorem ek_moX {N : Nat} {t : Nat → Int32} (hN : 5000 ≤ N) : f_X0_mostOften N t = some (ek_mo t).1 := by
  unfold f_X0_mostOften
  refine ek_for (fun n' x (s : Int32 × Int32) => f_X0_mostOften_b7 N t n' s.1 s.2 x) (fun j (s : Int32 × Int32) => if t j ≤ s.2 then s else (nI j, t j)) (fun _ _ => True) 10 N (by omega) ?_ (-9, 0) trivial _ ?_
  · intro n' j s hj _
    refine ⟨?_, trivial⟩
    show f_X0_mostOften_b7 N t (n' + 1) _ _ _ = _
    rw [f_X0_mostOften_b7, if_neg (show ¬ (10 : Int32) ≤ nI j from nI_ge (b := 10) hj (by omega)), gd_t (ek_inb hj (by omega)), nI_clamp (by omega)]
    unfold f_X0_mostOften_b35
    simp only [nm]
    rw [nI_1]
    split <;> rfl
  · intro n' _
    show f_X0_mostOften_b7 N t (n' + 1) _ _ _ = _
    rw [f_X0_mostOften_b7, if_pos (show (10 : Int32) ≤ nI 10 from nI_le (a := 10) (Nat.le_refl _) (by omega))]
    rfl
theorem ek_wdX {N n i : Nat} {t F : Nat → Int32} (hN : 5000 ≤ N) (hn : n ≤ 9) (hi : i < n) : f_X0_wordBy N t (nI n) F (nI i) = some (ek_wd (ek_ds F i) (ek_mo t).1) := by
  unfold f_X0_wordBy ek_wd
  rw [ek_kind4 hn hi, ek_moX hN]
  unfold f_X0_wordBy_b18
  have e3 : p_X1_fact (nI n) F (nI i) 3 = ek_ds F i 3 := ek_fact F hn hi (w := 3) (by omega)
  rw [e3]
  by_cases h : ek_ds F i 0 = 4 ∨ ek_ds F i 0 = 5
  · rw [if_pos h, if_pos h, if_neg (by decide), bn_t]
    split <;> rfl
  · rw [if_neg h, if_neg h, if_pos rfl, if_pos rfl]
theorem ek_isA {N n i : Nat} {F D : Nat → Int32} (hD : ek_D n F D) (hi : i < n) {k : Int32} (hk : k ≠ 4) : f_X12_isA N D (nI i) k = some (if ek_ds F i 0 = k then 1 else 0) := by
  have e0 : f_X12_of N D (nI i) 0 = some (ek_ds F i 0) := ek_ofD hD hi (w := 0) (by omega)
  unfold f_X12_isA
  rw [e0, bn_t, if_neg hk]
  split <;> rfl
theorem ek_isA4 {N n i : Nat} {F D : Nat → Int32} (hD : ek_D n F D) (hi : i < n) : f_X12_isA N D (nI i) 4 = some (if ek_ds F i 0 = 4 ∨ ek_ds F i 0 = 5 then 1 else 0) := by
  have e0 : f_X12_of N D (nI i) 0 = some (ek_ds F i 0) := ek_ofD hD hi (w := 0) (by omega)
  unfold f_X12_isA
  rw [e0, bn_t, if_pos rfl, bn_t]
  by_cases h : ek_ds F i 0 = 4
  · rw [if_pos h, if_pos (Or.inl h)]
  · rw [if_neg h]
    by_cases h5 : ek_ds F i 0 = 5
    · rw [if_pos h5, if_pos (Or.inr h5)]
    · rw [if_neg h5, if_neg (fun q => q.elim h h5)]
theorem ek_cwM {N n : Nat} {c a b : Int32} {wr : Nat → Int32} (hN : 5000 ≤ N) (hn : n ≤ 9) : f_X12_countWords N (nI n) c wr a b = some (ek_mo (fun j => ek_cw c wr n (nI j))) := by
  unfold f_X12_countWords
  refine ek_for (fun n' x (s : Int32 × Int32) => f_X12_countWords_b13 N (nI n) c wr n' s.1 s.2 x) (fun j (s : Int32 × Int32) => if ek_cw c wr n (nI j) ≤ s.2 then s else (nI j, ek_cw c wr n (nI j))) (fun _ _ => True) 10 N (by omega) ?_ (-9, 0) trivial _ ?_
  · intro n' j s hj _
    refine ⟨?_, trivial⟩
    show f_X12_countWords_b13 N (nI n) c wr (n' + 1) _ _ _ = _
    rw [f_X12_countWords_b13, if_neg (show ¬ (9 : Int32) < nI j from nI_nlt (a := 9) (by omega) (by omega))]
    refine ek_for (fun n2 x (z : Int32) => f_X12_countWords_b23 N (f_X12_countWords_b66 N (f_X12_countWords_b13 N (nI n) c wr n') (nI n) c wr) (nI n) c wr n2 s.1 s.2 (nI j) z x) (fun k z => if ek_bt c k then (if wr k = nI j then z + 1 else z) else z) (fun _ _ => True) n N (by omega) ?_ 0 trivial _ ?_
    · intro n2 k z hk _
      refine ⟨?_, trivial⟩
      show f_X12_countWords_b23 N _ (nI n) c wr (n2 + 1) _ _ _ _ _ = _
      rw [f_X12_countWords_b23, if_neg (nI_ge hk (by omega)), ek_has c (by omega)]
      unfold f_X12_countWords_b58
      simp only [nm]
      cases h : ek_bt c k
      · simp only [Bool.false_eq_true, if_false, if_true]; rw [nI_1, Int32.add_zero]
      · simp only [if_true]
        rw [if_neg (by decide), gd_t (ek_inb (by omega) (by omega)), nI_clamp (by omega), nI_1]
        split
        · rfl
        · rw [Int32.add_zero]
    · intro n2 _
      show f_X12_countWords_b23 N _ (nI n) c wr (n2 + 1) _ _ _ _ _ = _
      rw [f_X12_countWords_b23, if_pos (nI_le (Nat.le_refl _) (by omega))]
      show f_X12_countWords_b66 N _ (nI n) c wr s.1 s.2 (nI j) (ek_cw c wr n (nI j)) = _
      unfold f_X12_countWords_b66 f_X12_countWords_b83 f_X12_countWords_b103
      rw [nI_1]
      split <;> rfl
  · intro n' _
    show f_X12_countWords_b13 N (nI n) c wr (n' + 1) _ _ _ = _
    rw [f_X12_countWords_b13, if_pos (show (9 : Int32) < nI 10 from nI_lt (a := 9) (by omega) (by omega))]
    have : ∀ p : Int32 × Int32, some (p.1, p.2) = some p := fun _ => rfl
    unfold ek_mo
    exact this _
theorem ek_wdM {N n i : Nat} {c a b : Int32} {wr F D : Nat → Int32} (hN : 5000 ≤ N) (hD : ek_D n F D) (hi : i < n) :
    f_X12_wordOf N (nI n) c D wr a b (nI i) = some (ek_wd (ek_ds F i) (ek_mo (fun j => ek_cw c wr n (nI j))).1, (ek_mo (fun j => ek_cw c wr n (nI j))).1, (ek_mo (fun j => ek_cw c wr n (nI j))).2) := by
  have e3 : f_X12_of N D (nI i) 3 = some (ek_ds F i 3) := ek_ofD hD hi (w := 3) (by omega)
  unfold f_X12_wordOf f_X12_wordOf_b29 ek_wd
  rw [ek_cwM hN hD.1, bn_t, ek_isA4 hD hi, bn_t, e3, bn_t]
  by_cases h : ek_ds F i 0 = 4 ∨ ek_ds F i 0 = 5
  · rw [if_pos h, if_pos h, if_neg (by decide)]
    split <;> rfl
  · rw [if_neg h, if_neg h, if_pos rfl]
theorem ek_wdb {f t : Nat → Int32} (hf : ek_wf f) : ∃ w, w ≤ 9 ∧ ek_wd f (ek_mo t).1 = nI w := by
  obtain ⟨-, -, -, ⟨w, hw, ew⟩, -⟩ := hf
  unfold ek_wd
  split
  · split
    · exact ⟨w, hw, ew⟩
    · rename_i q
      rcases ek_mor t with h | ⟨j, hj, h⟩
      · rw [h] at q; exact absurd rfl q
      · rw [h]; exact ⟨j, by omega, rfl⟩
  · exact ⟨w, hw, ew⟩
/-- the gift and the word of one, by what lies there -/
def ek_G (n : Nat) (law named linked : Int32) (F : Nat → Int32) (c : Int32) (g : Nat → Int32) (i : Nat) : Int32 := ek_gv law named linked (ek_ds F i) (ek_pt c g n)
def ek_W (n : Nat) (F : Nat → Int32) (c : Int32) (wr : Nat → Int32) (i : Nat) : Int32 := ek_wd (ek_ds F i) (ek_mo (fun j => ek_cw c wr n (nI j))).1
theorem ek_sign {N n i : Nat} {hour law named linked c a1 a2 a3 a4 a5 a6 : Int32} {F hs g wr t : Nat → Int32} (hN : 5000 ≤ N) (hn : n ≤ 9) (hB : ek_B n c g wr) (hi : i < n) :
    ∃ tm, f_X11_sign N (nI n) F hour law named linked c hs g wr a1 a2 a3 a4 a5 a6 t (nI i) = some (c ||| ((1 : Int32) <<< (nI i &&& 31)), upd hs i hour, upd g i (ek_G n law named linked F c g i), upd wr i (ek_W n F c wr i), law, named, linked, (ek_pt c g n).1, (ek_pt c g n).2.1, (ek_pt c g n).2.2, tm) := by
  obtain ⟨tm, h1, h2⟩ := ek_layX0 (t := t) hN hB.2.2
  refine ⟨tm, ?_⟩
  unfold f_X11_sign
  rw [ek_layX5 hN, bn_t, h1, bn_t]
  simp only
  rw [ek_gvX hn hi, bn_t, ek_wdX hN hn hi, bn_t]
  unfold p_X6_cross
  simp only [nm]
  rw [if_neg (nI_pos (by omega)), if_neg (show ¬ (9 : Int32) ≤ _ from nI_ge (b := 9) (by omega) (by omega)), if_neg (show ¬ (9 : Int32) ≤ _ from nI_ge (b := 9) (by omega) (by omega)), if_neg (show ¬ (9 : Int32) ≤ _ from nI_ge (b := 9) (by omega) (by omega)), nI_clamp (by omega)]
  unfold ek_G ek_W
  rw [ek_ptn hB.1 g hn, ek_moext h2, ek_moext (fun j _ => ek_cwn hB.1 wr (nI j) hn)]
theorem ek_puts {N n i : Nat} {hour law named linked c a b : Int32} {F D hs g wr : Nat → Int32} (hN : 5000 ≤ N) (hD : ek_D n F D) (hT : ek_T law named linked) (hB : ek_B n c g wr) (hi : i < n) :
    ∃ a' b', f_X12_puts N (nI n) law named linked hour D c a b g wr hs (nI i) = some (c ||| ((1 : Int32) <<< (nI i &&& 31)), a', b', upd g i (ek_G n law named linked F c g i), upd wr i (ek_W n F c wr i), upd hs i hour) := by
  have hn := hD.1
  unfold f_X12_puts
  rw [ek_gvM hN hD hT hB hi, bn_t, ek_wdM hN hD hi, bn_t, gd_t (ek_inb (by omega) (by omega)), nI_clamp (by omega)]
  exact ⟨_, _, rfl⟩
theorem ek_Bset {n i : Nat} {law named linked c : Int32} {F g wr : Nat → Int32} (hn : n ≤ 9) (hw : ∀ i, i < n → ek_wf (ek_ds F i)) (hT : ek_T law named linked) (hB : ek_B n c g wr) (hi : i < n) :
    ek_B n (c ||| ((1 : Int32) <<< (nI i &&& 31))) (upd g i (ek_G n law named linked F c g i)) (upd wr i (ek_W n F c wr i)) := by
  refine ⟨ek_subset hB.1 hi (by omega), ?_, ?_⟩
  · intro k hk hb
    unfold upd
    by_cases e : k = i
    · rw [if_pos e]
      exact ek_gvb hT (hw i hi) (ek_okpt hn (fun q hq => hB.2.1 q (by omega))) (by omega)
    · rw [if_neg e]
      rw [ek_bset c (by omega) (by omega), decide_eq_false (fun q => e q.symm), Bool.or_false] at hb
      exact hB.2.1 k hk hb
  · intro k hk hb
    unfold upd
    by_cases e : k = i
    · rw [if_pos e]
      exact ek_wdb (hw i hi)
    · rw [if_neg e]
      rw [ek_bset c (by omega) (by omega), decide_eq_false (fun q => e q.symm), Bool.or_false] at hb
      exact hB.2.2 k hk hb
/-! what is put aside -/
theorem ek_aside {N : Nat} {c : Int32} {g w h A : Nat → Int32} (hN : 5000 ≤ N) : ∃ A2, f_X12_putAside N c g w h A = some A2 ∧ A2 27 = c ∧ ∀ k, k < 9 → A2 k = g k ∧ A2 (9 + k) = w k ∧ A2 (18 + k) = h k := by
  unfold f_X12_putAside
  refine ek_forI (fun n' x s => f_X12_putAside_b13 N c g w h n' s x) (fun m s => s 27 = c ∧ ∀ k, k < m → s k = g k ∧ s (9 + k) = w k ∧ s (18 + k) = h k) 9 N (by omega) ?_ _ ?_ (fun o => ∃ A2, o = some A2 ∧ A2 27 = c ∧ ∀ k, k < 9 → A2 k = g k ∧ A2 (9 + k) = w k ∧ A2 (18 + k) = h k) ?_
  · intro n' k s hk hs
    refine ⟨upd (upd (upd s k (g k)) (9 + k) (w k)) (18 + k) (h k), ?_, ?_, ?_⟩
    · show f_X12_putAside_b13 N c g w h (n' + 1) _ _ = _
      rw [f_X12_putAside_b13, if_neg (show ¬ (9 : Int32) ≤ _ from nI_ge (b := 9) hk (by omega)), gd_t (ek_inb hk (by omega)), gd_t (ek_inb (by omega) (by omega)), show ((9 : Int32)) = nI 9 from rfl, show ((18 : Int32)) = nI 18 from rfl, nI_add, nI_add, gd_t (ek_inb (by omega) (by omega)), gd_t (ek_inb (by omega) (by omega)), nI_clamp (by omega), nI_clamp (by omega), nI_clamp (by omega), nI_1]
    · unfold upd; rw [if_neg (by omega), if_neg (by omega), if_neg (by omega)]; exact hs.1
    · intro q hq
      unfold upd
      by_cases e : q = k
      · subst e
        refine ⟨?_, ?_, ?_⟩
        · rw [if_neg (by omega), if_neg (by omega), if_pos rfl]
        · rw [if_neg (by omega), if_pos rfl]
        · rw [if_pos rfl]
      · have := hs.2 q (by omega)
        refine ⟨?_, ?_, ?_⟩
        · rw [if_neg (by omega), if_neg (by omega), if_neg (by omega)]; exact this.1
        · rw [if_neg (by omega), if_neg (by omega), if_neg (by omega)]; exact this.2.1
        · rw [if_neg (by omega), if_neg (by omega), if_neg (by omega)]; exact this.2.2
  · refine ⟨?_, fun k hk => absurd hk (by omega)⟩
    show upd A 27 c 27 = c
    unfold upd; rw [if_pos rfl]
  · intro n' s hs
    refine ⟨s, ?_, hs⟩
    show f_X12_putAside_b13 N c g w h (n' + 1) _ _ = _
    rw [f_X12_putAside_b13, if_pos (show (9 : Int32) ≤ nI 9 from nI_le (a := 9) (Nat.le_refl _) (by omega))]
theorem ek_back {N : Nat} {c : Int32} {g w h A : Nat → Int32} (hN : 5000 ≤ N) : ∃ g2 w2 h2, f_X12_comeBack N A c g w h = some (A 27, g2, w2, h2) ∧ ∀ k, k < 9 → g2 k = A k ∧ w2 k = A (9 + k) ∧ h2 k = A (18 + k) := by
  unfold f_X12_comeBack
  refine ek_forI (fun n' x (s : (Nat → Int32) × (Nat → Int32) × (Nat → Int32)) => f_X12_comeBack_b13 N A n' (A 27) s.1 s.2.1 s.2.2 x) (fun m s => ∀ k, k < m → s.1 k = A k ∧ s.2.1 k = A (9 + k) ∧ s.2.2 k = A (18 + k)) 9 N (by omega) ?_ (g, w, h) (fun k hk => absurd hk (by omega)) (fun o => ∃ g2 w2 h2, o = some (A 27, g2, w2, h2) ∧ ∀ k, k < 9 → g2 k = A k ∧ w2 k = A (9 + k) ∧ h2 k = A (18 + k)) ?_
  · intro n' k s hk hs
    refine ⟨(upd s.1 k (A k), upd s.2.1 k (A (9 + k)), upd s.2.2 k (A (18 + k))), ?_, ?_⟩
    · show f_X12_comeBack_b13 N A (n' + 1) _ _ _ _ _ = _
      rw [f_X12_comeBack_b13, if_neg (show ¬ (9 : Int32) ≤ _ from nI_ge (b := 9) hk (by omega)), gd_t (ek_inb (by omega) (by omega)), gd_t (ek_inb (by omega) (by omega)), show ((9 : Int32)) = nI 9 from rfl, show ((18 : Int32)) = nI 18 from rfl, nI_add, nI_add, gd_t (ek_inb (by omega) (by omega)), gd_t (ek_inb (by omega) (by omega)), nI_clamp (by omega), nI_clamp (by omega), nI_clamp (by omega), nI_1]
    · intro q hq
      simp only [upd]
      by_cases e : q = k
      · subst e; rw [if_pos rfl, if_pos rfl, if_pos rfl]; exact ⟨rfl, rfl, rfl⟩
      · rw [if_neg e, if_neg e, if_neg e]; exact hs q (by omega)
  · intro n' s hs
    refine ⟨s.1, s.2.1, s.2.2, ?_, hs⟩
    show f_X12_comeBack_b13 N A (n' + 1) _ _ _ _ _ = _
    rw [f_X12_comeBack_b13, if_pos (show (9 : Int32) ≤ nI 9 from nI_le (a := 9) (Nat.le_refl _) (by omega))]
