/-! what one gives; which word one writes -/
def ek_B (n : Nat) (c : Int32) (g wr : Nat → Int32) : Prop := ek_sub n c ∧ (∀ k, k < 9 → ek_bt c k = true → ∃ v, v ≤ 60 ∧ g k = nI v) ∧ (∀ k, k < 9 → ek_bt c k = true → ∃ w, w ≤ 9 ∧ wr k = nI w)
def ek_ok (m : Nat) (s : Int32 × Int32 × Int32) : Prop := ∃ T G L, s = (nI T, nI G, nI L) ∧ T ≤ 60 * G ∧ G ≤ m ∧ L ≤ 60
theorem ek_oktk {m : Nat} {s : Int32 × Int32 × Int32} (h : ek_ok m s) {v : Nat} (hv : v ≤ 60) (hm : m < 100) : ek_ok (m + 1) (ek_tk s (nI v)) := by
  obtain ⟨T, G, L, rfl, h1, h2, h3⟩ := h
  have e : ek_tk (nI T, nI G, nI L) (nI v) = (nI (T + v), nI (G + 1), if nI v ≤ 0 then nI L else if nI L = 0 then nI v else if nI L ≤ nI v then nI L else nI v) := by
    unfold ek_tk
    simp only
    rw [nI_add, nI_1]
  rw [e]
  have : ∃ L', L' ≤ 60 ∧ (if nI v ≤ 0 then nI L else if nI L = 0 then nI v else if nI L ≤ nI v then nI L else nI v) = nI L' := by
    split
    · exact ⟨L, h3, rfl⟩
    · split
      · exact ⟨v, hv, rfl⟩
      · split
        · exact ⟨L, h3, rfl⟩
        · exact ⟨v, hv, rfl⟩
  obtain ⟨L', hL, eL⟩ := this
  exact ⟨T + v, G + 1, L', by rw [eL], by omega, by omega, hL⟩
theorem ek_okpt {c : Int32} {g : Nat → Int32} : ∀ {m : Nat}, m ≤ 9 → (∀ k, k < m → ek_bt c k = true → ∃ v, v ≤ 60 ∧ g k = nI v) → ek_ok m (ek_pt c g m) := by
  intro m
  induction m with
  | zero => intro _ _; exact ⟨0, 0, 0, rfl, by omega, by omega, by omega⟩
  | succ m ih =>
    intro hm h
    have a := ih (by omega) (fun k hk => h k (by omega))
    show ek_ok (m + 1) (if ek_bt c m then ek_tk (ek_pt c g m) (g m) else ek_pt c g m)
    by_cases e : ek_bt c m = true
    · rw [if_pos e]
      obtain ⟨v, hv, ev⟩ := h m (by omega) e
      rw [ev]
      exact ek_oktk a hv (by omega)
    · rw [if_neg e]
      obtain ⟨T, G, L, q, h1, h2, h3⟩ := a
      exact ⟨T, G, L, q, h1, by omega, h3⟩
def ek_own (law : Int32) (f : Nat → Int32) (s : Int32 × Int32 × Int32) : Int32 := if law = 1 then f 1 * f 2 / 9 else if law = 2 then (if s.2.1 ≤ 0 then f 1 else (f 1 + s.1 / s.2.1) / 2) else f 1
def ek_named (named own : Int32) : Int32 := if named ≤ 0 then own else if 2 * own < named then own else named
def ek_lk (linked l v : Int32) : Int32 := if linked = 1 then (if v < l then l else v) else v
def ek_would (law named linked : Int32) (f : Nat → Int32) (s : Int32 × Int32 × Int32) : Int32 := ek_lk linked s.2.2 (ek_named named (ek_own law f s))
def ek_gv (law named linked : Int32) (f : Nat → Int32) (s : Int32 × Int32 × Int32) : Int32 := if f 0 = 5 then linked else ek_would law named linked f s
/-- the terms of a round are as they may be -/
def ek_T (law named linked : Int32) : Prop := (law = 0 ∨ law = 1 ∨ law = 2) ∧ (∃ v, v ≤ 60 ∧ named = nI v) ∧ (linked = 0 ∨ linked = 1)
theorem ek_ownb {law : Int32} {f : Nat → Int32} {m : Nat} {s : Int32 × Int32 × Int32} (hf : ek_wf f) (hs : ek_ok m s) (hm : m < 100) : ∃ v, v ≤ 60 ∧ ek_own law f s = nI v := by
  obtain ⟨-, ⟨t, ht, et⟩, ⟨p, hp, ep⟩, -, -⟩ := hf
  obtain ⟨T, G, L, rfl, h1, h2, h3⟩ := hs
  unfold ek_own
  rw [et, ep]
  have hb : t * p ≤ 9 * 9 := Nat.mul_le_mul ht hp
  split
  · refine ⟨t * p / 9, by omega, ?_⟩
    rw [pk_mul, show ((9 : Int32)) = nI 9 from rfl, pk_div (by omega) (by decide) (by decide)]
  · split
    · simp only
      split
      · exact ⟨t, by omega, rfl⟩
      · rename_i q
        have hG : 0 < G := by
          rcases Nat.eq_zero_or_pos G with e | e
          · exact absurd (by rw [e]; decide) q
          · exact e
        have hd : T / G ≤ 60 := Nat.div_le_of_le_mul (by rw [Nat.mul_comm]; exact h1)
        refine ⟨(t + T / G) / 2, by omega, ?_⟩
        rw [pk_div (by omega) hG (by omega), nI_add, show ((2 : Int32)) = nI 2 from rfl, pk_div (by omega) (by decide) (by decide)]
    · exact ⟨t, by omega, rfl⟩
theorem ek_namedb {named own : Int32} (h : ∃ v, v ≤ 60 ∧ named = nI v) (ho : ∃ v, v ≤ 60 ∧ own = nI v) : ∃ v, v ≤ 60 ∧ ek_named named own = nI v := by
  unfold ek_named
  split
  · exact ho
  · split
    · exact ho
    · exact h
theorem ek_lkb {linked l v : Int32} (h : ∃ a, a ≤ 60 ∧ l = nI a) (ho : ∃ a, a ≤ 60 ∧ v = nI a) : ∃ a, a ≤ 60 ∧ ek_lk linked l v = nI a := by
  unfold ek_lk
  split
  · split
    · exact h
    · exact ho
  · exact ho
theorem ek_okl {m : Nat} {s : Int32 × Int32 × Int32} (hs : ek_ok m s) : ∃ a, a ≤ 60 ∧ s.2.2 = nI a := by
  obtain ⟨T, G, L, rfl, h1, h2, h3⟩ := hs
  exact ⟨L, h3, rfl⟩
theorem ek_wouldb {law named linked : Int32} {f : Nat → Int32} {m : Nat} {s : Int32 × Int32 × Int32} (hT : ek_T law named linked) (hf : ek_wf f) (hs : ek_ok m s) (hm : m < 100) : ∃ v, v ≤ 60 ∧ ek_would law named linked f s = nI v :=
  ek_lkb (ek_okl hs) (ek_namedb hT.2.1 (ek_ownb hf hs hm))
theorem ek_gvb {law named linked : Int32} {f : Nat → Int32} {m : Nat} {s : Int32 × Int32 × Int32} (hT : ek_T law named linked) (hf : ek_wf f) (hs : ek_ok m s) (hm : m < 100) : ∃ v, v ≤ 60 ∧ ek_gv law named linked f s = nI v := by
  unfold ek_gv
  split
  · rcases hT.2.2 with e | e
    · exact ⟨0, by omega, e⟩
    · exact ⟨1, by omega, e⟩
  · exact ek_wouldb hT hf hs hm
/-! the class -/
theorem ek_ownX {N n i : Nat} {law : Int32} {s : Int32 × Int32 × Int32} {F : Nat → Int32} (hn : n ≤ 9) (hi : i < n) : f_X5_ownOf N law s.1 s.2.1 (nI n) F (nI i) = some (ek_own law (ek_ds F i) s) := by
  unfold f_X5_ownOf ek_own
  have e1 : p_X1_fact (nI n) F (nI i) 1 = ek_ds F i 1 := ek_fact F hn hi (w := 1) (by omega)
  have e2 : p_X1_fact (nI n) F (nI i) 2 = ek_ds F i 2 := ek_fact F hn hi (w := 2) (by omega)
  simp only [nm, e1, e2]
  split
  · rfl
  · split
    · split
      · rfl
      · rename_i q
        rw [gd_t]
        intro e; rw [e] at q; exact q (by decide)
    · rfl
theorem ek_wouldX {N n i : Nat} {law named linked : Int32} {s : Int32 × Int32 × Int32} {F : Nat → Int32} (hn : n ≤ 9) (hi : i < n) : f_X5_wouldGive N law named linked s.1 s.2.1 s.2.2 (nI n) F (nI i) = some (ek_would law named linked (ek_ds F i) s) := by
  unfold f_X5_wouldGive
  rw [ek_ownX hn hi, bn_t]
  unfold f_X5_wouldGive_b29 ek_would ek_lk ek_named
  split <;> rfl
theorem ek_kind5 {n i : Nat} {F : Nat → Int32} (hn : n ≤ 9) (hi : i < n) (k : Int32) (hk : k ≠ 4) : p_X1_isOfKind (nI n) F (nI i) k = if ek_ds F i 0 = k then 1 else 0 := by
  unfold p_X1_isOfKind
  have e1 : p_X1_fact (nI n) F (nI i) 0 = ek_ds F i 0 := ek_fact F hn hi (w := 0) (by omega)
  simp only [nm, e1]
  rw [if_neg hk]
theorem ek_kind4 {n i : Nat} {F : Nat → Int32} (hn : n ≤ 9) (hi : i < n) : p_X1_isOfKind (nI n) F (nI i) 4 = if ek_ds F i 0 = 4 ∨ ek_ds F i 0 = 5 then 1 else 0 := by
  unfold p_X1_isOfKind
  have e1 : p_X1_fact (nI n) F (nI i) 0 = ek_ds F i 0 := ek_fact F hn hi (w := 0) (by omega)
  simp only [nm, e1, if_true]
  by_cases h : ek_ds F i 0 = 4
  · rw [if_pos h, if_pos (Or.inl h)]
  · rw [if_neg h]
    by_cases h5 : ek_ds F i 0 = 5
    · rw [if_pos h5, if_pos (Or.inr h5)]
    · rw [if_neg h5, if_neg (fun q => q.elim h h5)]
theorem ek_gvX {N n i : Nat} {law named linked : Int32} {s : Int32 × Int32 × Int32} {F : Nat → Int32} (hn : n ≤ 9) (hi : i < n) : f_X5_gives N law named linked s.1 s.2.1 s.2.2 (nI n) F (nI i) = some (ek_gv law named linked (ek_ds F i) s) := by
  unfold f_X5_gives ek_gv
  rw [ek_kind5 hn hi 5 (by decide), ek_wouldX hn hi]
  by_cases h : ek_ds F i 0 = 5
  · simp only [if_pos h]; rfl
  · simp only [if_neg h]; rfl
/-! the model -/
theorem ek_cnt {c : Int32} {g : Nat → Int32} {m : Nat} : ek_fo (fun k (s : Int32 × Int32) => (s.1 + (if ek_bt c k then g k else 0), s.2 + (if ek_bt c k then 1 else 0))) (0, 0) m = ((ek_pt c g m).1, (ek_pt c g m).2.1) := by
  unfold ek_pt
  refine ek_forel (s := ((0 : Int32), (0 : Int32))) (t := ((0 : Int32), (0 : Int32), (0 : Int32))) (fun _ (a : Int32 × Int32) (b : Int32 × Int32 × Int32) => a = (b.1, b.2.1)) rfl ?_
  intro j _ a b h
  subst h
  cases ek_bt c j
  · simp only [Bool.false_eq_true, if_false]; rw [Int32.add_zero, Int32.add_zero]
  · rfl
theorem ek_ownM {N n i : Nat} {law : Int32} {c : Int32} {g F D : Nat → Int32} (hN : 5000 ≤ N) (hD : ek_D n F D) (hl : law = 0 ∨ law = 1 ∨ law = 2) (hb : ∃ G, G ≤ 9 ∧ (ek_pt c g n).2.1 = nI G) (hi : i < n) :
    f_X12_ownOf N (nI n) law c D g (nI i) = some (ek_own law (ek_ds F i) (ek_pt c g n)) := by
  have hn := hD.1
  have e1 : f_X12_of N D (nI i) 1 = some (ek_ds F i 1) := ek_ofD hD hi (w := 1) (by omega)
  have e2 : f_X12_of N D (nI i) 2 = some (ek_ds F i 2) := ek_ofD hD hi (w := 2) (by omega)
  unfold f_X12_ownOf
  rw [e1, bn_t]
  rcases hl with rfl | rfl | rfl
  · rfl
  · rw [if_neg (by decide), if_neg (by decide), e2, bn_t]; rfl
  · rw [if_pos (by decide)]
    refine ek_for (fun n' x (s : Int32 × Int32) => f_X12_ownOf_b46 N (f_X12_ownOf_b109 N (nI n) 2 c D g) (nI n) 2 c D g n' (ek_ds F i 1) s.1 s.2 x) (fun k s => (s.1 + (if ek_bt c k then g k else 0), s.2 + (if ek_bt c k then 1 else 0))) (fun _ _ => True) n N (by omega) ?_ (0, 0) trivial _ ?_
    · intro n' j s hj _
      refine ⟨?_, trivial⟩
      show f_X12_ownOf_b46 N _ _ _ _ _ _ (n' + 1) _ _ _ _ = _
      rw [f_X12_ownOf_b46, if_neg (nI_ge hj (by omega)), ek_has c (by omega)]
      unfold f_X12_ownOf_b79 f_X12_ownOf_b100
      cases h : ek_bt c j
      · simp only [Bool.false_eq_true, if_false, if_true, nm]; rw [ek_has c (by omega), h]; simp only [Bool.false_eq_true, if_false, if_true]; rw [nI_1]
      · simp only [if_true, nm]; rw [if_neg (by decide), gd_t (ek_inb (by omega) (by omega)), nI_clamp (by omega), ek_has c (by omega), h]; simp only [if_true]; rw [if_neg (by decide), nI_1]
    · intro n' _
      show f_X12_ownOf_b46 N _ _ _ _ _ _ (n' + 1) _ _ _ _ = _
      rw [f_X12_ownOf_b46, if_pos (nI_le (Nat.le_refl _) (by omega)), ek_cnt]
      unfold f_X12_ownOf_b109 ek_own
      obtain ⟨G, hG, eG⟩ := hb
      rw [if_neg (show ¬ (2 : Int32) = 1 by decide), if_pos (show (2 : Int32) = 2 from rfl)]
      simp only [eG]
      rcases Nat.eq_zero_or_pos G with q | q
      · subst q; rfl
      · rw [if_neg (nI_ne0 q (by omega)), if_neg (nI_nle q (by omega))]
theorem ek_lkM {N n : Nat} {linked c v : Int32} {g : Nat → Int32} (hN : 5000 ≤ N) (hn : n ≤ 9) (hv : 0 ≤ v) : f_X12_linkedTo N (nI n) linked c g v = some (ek_lk linked (ek_pt c g n).2.2 v) := by
  unfold f_X12_linkedTo ek_lk
  by_cases h1 : linked = 1
  · subst h1
    rw [if_pos rfl]
    have hl : ∀ m, ek_fo (fun k (s : Int32) => if ek_bt c k then (if g k ≤ 0 then s else if s = 0 then g k else if s ≤ g k then s else g k) else s) 0 m = (ek_pt c g m).2.2 := by
      intro m
      unfold ek_pt
      refine ek_forel (s := (0 : Int32)) (t := ((0 : Int32), (0 : Int32), (0 : Int32))) (fun _ (a : Int32) (b : Int32 × Int32 × Int32) => a = b.2.2) rfl ?_
      intro j _ a b h
      subst h
      cases ek_bt c j <;> rfl
    refine ek_for (fun n' x (s : Int32) => f_X12_linkedTo_b4 N (f_X12_linkedTo_b71 N (nI n) 1 c g) (nI n) 1 c g n' v s x) (fun k (s : Int32) => if ek_bt c k then (if g k ≤ 0 then s else if s = 0 then g k else if s ≤ g k then s else g k) else s) (fun _ _ => True) n N (by omega) ?_ 0 trivial _ ?_
    · intro n' j s hj _
      refine ⟨?_, trivial⟩
      show f_X12_linkedTo_b4 N _ _ _ _ _ (n' + 1) _ _ _ = _
      rw [f_X12_linkedTo_b4, if_neg (nI_ge hj (by omega)), if_pos rfl, ek_has c (by omega)]
      unfold f_X12_linkedTo_b54 f_X12_linkedTo_b64 f_X12_linkedTo_b65
      cases h : ek_bt c j
      · simp only [Bool.false_eq_true, if_false, if_true]; rw [nI_1]
      · simp only [if_true]; rw [if_neg (by decide), gd_t (ek_inb (by omega) (by omega)), gd_t (ek_inb (by omega) (by omega)), nI_clamp (by omega), nI_1]
        split
        · rfl
        · split
          · rfl
          · split <;> rfl
    · intro n' _
      show f_X12_linkedTo_b4 N _ _ _ _ _ (n' + 1) _ _ _ = _
      rw [f_X12_linkedTo_b4, if_pos (nI_le (Nat.le_refl _) (by omega)), hl]
      unfold f_X12_linkedTo_b71
      split
      · rw [if_neg]
        intro q; rename_i r
        exact Int32.lt_irrefl (Int32.lt_of_lt_of_le q r)
      · rw [if_pos]
        rename_i r
        exact Int32.not_le.mp r
  · rw [if_neg h1]
    rw [show N = (N - 1) + 1 by omega, f_X12_linkedTo_b4]
    have e : f_X12_linkedTo_b71 (N - 1 + 1) (nI n) linked c g v 0 = some v := by
      unfold f_X12_linkedTo_b71; rw [if_pos hv]
    split
    · exact e
    · exact e
theorem ek_gvM {N n i : Nat} {law named linked c : Int32} {g wr F D : Nat → Int32} (hN : 5000 ≤ N) (hD : ek_D n F D) (hT : ek_T law named linked) (hB : ek_B n c g wr) (hi : i < n) :
    f_X12_givesOf N (nI n) law named linked c D g (nI i) = some (ek_gv law named linked (ek_ds F i) (ek_pt c g n)) := by
  have hn := hD.1
  have ok := ek_okpt (c := c) (g := g) (m := n) hn (fun k hk => hB.2.1 k (by omega))
  have e0 : f_X12_of N D (nI i) 0 = some (ek_ds F i 0) := ek_ofD hD hi (w := 0) (by omega)
  unfold f_X12_givesOf ek_gv
  rw [e0, bn_t]
  by_cases h : ek_ds F i 0 = 5
  · rw [if_pos h, if_pos h]
  · rw [if_neg h, if_neg h]
    have hb : ∃ G, G ≤ 9 ∧ (ek_pt c g n).2.1 = nI G := by
      obtain ⟨T, G, L, q, h1, h2, h3⟩ := ok
      exact ⟨G, by omega, by rw [q]⟩
    rw [ek_ownM hN hD hT.1 hb hi, bn_t]
    have en : ∀ o, p_X12_namedOf named o = ek_named named o := fun o => by unfold p_X12_namedOf ek_named; rfl
    obtain ⟨v, hv, ev⟩ := ek_namedb hT.2.1 (ek_ownb (law := law) (hD.2.2 i hi) ok (by omega))
    rw [en, ek_lkM hN hn (by rw [ev]; exact nI_pos' (by omega)), bn_t]
    rfl
