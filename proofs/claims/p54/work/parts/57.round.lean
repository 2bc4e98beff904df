/-! the round, and the calls that read it -/
def ek_RB (n : Nat) (st ru at_ ib ho cr la na li : Int32) (gi wr : Nat → Int32) : Prop :=
  (∃ i, i ≤ 9 ∧ st = nI i ∧ (i < n ∨ n = 0)) ∧ (ru = 0 ∨ ru = 1 ∨ ru = 2) ∧ (∃ i, i ≤ 9 ∧ at_ = nI i ∧ (i < n ∨ n = 0)) ∧ (ib = 0 ∨ ib = 1) ∧ (∃ h, h ≤ 1000 ∧ ho = nI h) ∧ ek_T la na li ∧ ek_B n cr gi wr
def ek_R (n : Nat) (st ru at_ ib ho cr la na li : Int32) (hs gi wr : Nat → Int32) (st' ru' at' ib' ho' cr' la' na' li' : Int32) (hs' gi' wr' : Nat → Int32) : Prop :=
  (st' = st ∧ ru' = ru ∧ at' = at_ ∧ ib' = ib ∧ ho' = ho ∧ cr' = cr ∧ la' = la ∧ na' = na ∧ li' = li) ∧ (∀ i, i < 9 → hs' i = hs i ∧ gi' i = gi i ∧ wr' i = wr i) ∧ ek_RB n st ru at_ ib ho cr la na li gi wr
theorem ek_Beq {n : Nat} {c : Int32} {g wr g' wr' : Nat → Int32} (h : ek_B n c g wr) (e : ∀ i, i < 9 → g' i = g i ∧ wr' i = wr i) : ek_B n c g' wr' :=
  ⟨h.1, fun k hk hb => by rw [(e k hk).1]; exact h.2.1 k hk hb, fun k hk hb => by rw [(e k hk).2]; exact h.2.2 k hk hb⟩
theorem ek_Geq {n : Nat} {law named linked c : Int32} {F g g' : Nat → Int32} {i : Nat} (hn : n ≤ 9) (e : ∀ i, i < 9 → g' i = g i) : ek_G n law named linked F c g' i = ek_G n law named linked F c g i := by
  unfold ek_G
  rw [ek_ptext (fun k hk _ => e k (by omega))]
theorem ek_Weq {n : Nat} {c : Int32} {F w w' : Nat → Int32} {i : Nat} (hn : n ≤ 9) (e : ∀ i, i < 9 → w' i = w i) : ek_W n F c w' i = ek_W n F c w i := by
  unfold ek_W
  rw [ek_moext (fun j _ => ek_cwext (v := nI j) (fun k hk _ => e k (by omega)))]
theorem ek_desk (x : Int32) {n : Nat} (hn : n ≤ 9) : (p_X1_names (nI n) x = 0 ∧ p_X12_isDesk (nI n) x = 0 ∧ (x < 0 ∨ nI n ≤ x)) ∨ ∃ i, i < n ∧ x = nI i ∧ ¬ p_X1_names (nI n) x = 0 ∧ ¬ p_X12_isDesk (nI n) x = 0 := by
  unfold p_X1_names p_X12_isDesk
  rcases ek_ix x n (by omega) with q | q | ⟨i, hi, rfl⟩
  · exact Or.inl ⟨by rw [if_pos q], ek_inz0 (by omega) (Or.inl q), Or.inl q⟩
  · refine Or.inl ⟨?_, ek_inz0 (by omega) (Or.inr q), Or.inr q⟩
    split
    · rfl
    · first | rfl | rw [if_pos q]
  · exact Or.inr ⟨i, hi, rfl, by rw [if_neg (nI_pos (by omega)), if_neg (nI_ge hi (by omega))]; decide, by rw [ek_inz1 (by omega) hi]; decide⟩
/-- in(x, 0, n): both ways of writing it -/
theorem ek_what (x : Int32) (n : Nat) (hn : n < 1000) (k k1 : Int32) (hk : nI n = k) (hk1 : nI (n + 1) = k1) : (p_X12_in x 0 k = 0 ∧ (x < 0 ∨ (¬ x < 0 ∧ ¬ x < k1 ∧ ¬ x ≤ k))) ∨ ∃ i, i ≤ n ∧ x = nI i ∧ ¬ p_X12_in x 0 k = 0 ∧ ¬ x < 0 ∧ x < k1 ∧ x ≤ k := by
  subst hk hk1
  rcases ek_ix x (n + 1) (by omega) with q | q | ⟨i, hi, rfl⟩
  · exact Or.inl ⟨ek_in0 (by omega) (Or.inl q), Or.inl q⟩
  · refine Or.inl ⟨ek_in0 (by omega) (Or.inr q), Or.inr ⟨?_, ?_, ?_⟩⟩
    · exact of_eq_false (ek_bg0 q (by omega))
    · exact Int32.not_lt.mpr q
    · exact of_eq_false (ek_bg q (a := n) (by omega)).2.2.1
  · exact Or.inr ⟨i, by omega, rfl, by rw [ek_in1 (by omega) (by omega)]; decide, nI_pos (by omega), nI_lt hi (by omega), nI_le (by omega) (by omega)⟩
theorem r_law {la : Int32} (x : Int32) : p_X11_law la x = p_X12_law la x ∧ ((p_X11_law la x).2 = la ∨ ((p_X11_law la x).2 = 0 ∨ (p_X11_law la x).2 = 1 ∨ (p_X11_law la x).2 = 2)) := by
  unfold p_X11_law p_X12_law
  rcases ek_what x 2 (by decide) 2 3 rfl rfl with ⟨f1, f2⟩ | ⟨w, hw, rfl, f1, f2, f3, f4⟩
  · rw [if_pos f1]
    rcases f2 with q | ⟨q1, q2, q3⟩
    · rw [if_pos q]; exact ⟨rfl, Or.inl rfl⟩
    · rw [if_neg q1, if_neg q2]; exact ⟨rfl, Or.inl rfl⟩
  · rw [if_neg f1, if_neg f2, if_pos f3]
    refine ⟨rfl, Or.inr ?_⟩
    have : w = 0 ∨ w = 1 ∨ w = 2 := by omega
    rcases this with rfl | rfl | rfl
    · exact Or.inl rfl
    · exact Or.inr (Or.inl rfl)
    · exact Or.inr (Or.inr rfl)
theorem r_name {na : Int32} (x : Int32) : p_X11_name na x = p_X12_name na x ∧ ((p_X11_name na x).2 = na ∨ ∃ v, v ≤ 60 ∧ (p_X11_name na x).2 = nI v) := by
  unfold p_X11_name p_X12_name
  rcases ek_what x 60 (by decide) 60 61 rfl rfl with ⟨f1, f2⟩ | ⟨w, hw, rfl, f1, f2, f3, f4⟩
  · rw [if_pos f1]
    rcases f2 with q | ⟨q1, q2, q3⟩
    · rw [if_pos q]; exact ⟨rfl, Or.inl rfl⟩
    · rw [if_neg q1, if_neg q3]; exact ⟨rfl, Or.inl rfl⟩
  · rw [if_neg f1, if_neg f2, if_pos f4]
    exact ⟨rfl, Or.inr ⟨w, hw, rfl⟩⟩
theorem r_link {li : Int32} (x : Int32) : p_X11_link li x = p_X12_link li x ∧ ((p_X11_link li x).2 = li ∨ ((p_X11_link li x).2 = 0 ∨ (p_X11_link li x).2 = 1)) := by
  unfold p_X11_link p_X12_link
  rcases ek_what x 1 (by decide) 1 2 rfl rfl with ⟨f1, f2⟩ | ⟨w, hw, rfl, f1, f2, f3, f4⟩
  · rw [if_pos f1]
    have h0 : ¬ x = 0 := by
      intro e; subst e
      rcases f2 with q | ⟨q1, q2, q3⟩
      · exact absurd q (by decide)
      · exact q2 (by decide)
    have h1 : ¬ x = 1 := by
      intro e; subst e
      rcases f2 with q | ⟨q1, q2, q3⟩
      · exact absurd q (by decide)
      · exact q2 (by decide)
    rw [if_neg h0, if_neg h1]; exact ⟨rfl, Or.inl rfl⟩
  · rw [if_neg f1]
    have : w = 0 ∨ w = 1 := by omega
    rcases this with rfl | rfl
    · rw [if_pos (show nI 0 = 0 from rfl)]; exact ⟨rfl, Or.inr (Or.inl rfl)⟩
    · rw [if_neg (by decide), if_pos (show nI 1 = 1 from rfl)]; exact ⟨rfl, Or.inr (Or.inr rfl)⟩
theorem ek_T_law {la na li : Int32} (h : ek_T la na li) (x : Int32) : ek_T (p_X11_law la x).2 na li := by
  rcases (r_law (la := la) x).2 with e | e
  · rw [e]; exact h
  · exact ⟨e, h.2⟩
theorem ek_T_name {la na li : Int32} (h : ek_T la na li) (x : Int32) : ek_T la (p_X11_name na x).2 li := by
  rcases (r_name (na := na) x).2 with e | e
  · rw [e]; exact h
  · exact ⟨h.1, e, h.2.2⟩
theorem ek_T_link {la na li : Int32} (h : ek_T la na li) (x : Int32) : ek_T la na (p_X11_link li x).2 := by
  rcases (r_link (li := li) x).2 with e | e
  · rw [e]; exact h
  · exact ⟨h.1, h.2.1, e⟩
theorem ek_B0 {n : Nat} {g w : Nat → Int32} : ek_B n 0 g w := ⟨ek_sub0 n, fun k _ hb => by rw [ek_b0] at hb; exact absurd hb (by decide), fun k _ hb => by rw [ek_b0] at hb; exact absurd hb (by decide)⟩
theorem r_begin {n : Nat} {st ru at_ ib ho cr la na li : Int32} {gi wr : Nat → Int32} (hn : n ≤ 9) (hR : ek_RB n st ru at_ ib ho cr la na li gi wr) (x y : Int32) :
    ∃ a st2 ru2 at2 ib2 ho2 cr2, p_X11_begin (nI n) st ru at_ ib ho cr x y = (a, st2, ru2, at2, ib2, ho2, cr2) ∧ p_X12_begin (nI n) cr ho st ru at_ ib x y = (a, cr2, ho2, st2, ru2, at2, ib2) ∧ ek_RB n st2 ru2 at2 ib2 ho2 cr2 la na li gi wr := by
  unfold p_X11_begin p_X12_begin
  rcases ek_desk x hn with ⟨e1, e2, -⟩ | ⟨i, hi, rfl, e1, e2⟩
  · rw [if_pos e1, if_pos e2]
    exact ⟨_, _, _, _, _, _, _, rfl, rfl, hR⟩
  · rw [if_neg e1, if_neg e2]
    rcases ek_what y 2 (by decide) 2 3 rfl rfl with ⟨f1, f2⟩ | ⟨w, hw, rfl, f1, f2, f3, f4⟩
    · rw [if_pos f1]
      rcases f2 with q | ⟨q1, q2, q3⟩
      · rw [if_pos q]; exact ⟨_, _, _, _, _, _, _, rfl, rfl, hR⟩
      · rw [if_neg q1, if_neg q2]; exact ⟨_, _, _, _, _, _, _, rfl, rfl, hR⟩
    · rw [if_neg f1, if_neg f2, if_pos f3]
      refine ⟨_, _, _, _, _, _, _, rfl, rfl, ⟨i, by omega, rfl, Or.inl hi⟩, ?_, ⟨i, by omega, rfl, Or.inl hi⟩, Or.inl rfl, ⟨0, by omega, rfl⟩, hR.2.2.2.2.2.1, ek_B0⟩
      have : w = 0 ∨ w = 1 ∨ w = 2 := by omega
      rcases this with rfl | rfl | rfl
      · exact Or.inl rfl
      · exact Or.inr (Or.inl rfl)
      · exact Or.inr (Or.inr rfl)
theorem r_where {nu at_ ib ak : Int32} : p_X12_where nu at_ ib ak = p_X11_where nu at_ ib ak := by
  unfold p_X12_where p_X11_where p_X12_where_b25
  split
  · rfl
  · split <;> rfl
theorem ek_toldM {N : Nat} {cr : Int32} {gi wr hs : Nat → Int32} {i w : Nat} (hi : i < 9) (hw : w ≤ 3) : f_X12_toldOf N cr gi wr hs (nI i) (nI w) = some (if w = 0 then (if ek_bt cr i then 1 else 0) else if ek_bt cr i then (if w = 1 then hs i else if w = 2 then gi i else wr i) else -9) := by
  unfold f_X12_toldOf
  simp only [nm]
  rw [ek_has cr (by omega)]
  have : w = 0 ∨ w = 1 ∨ w = 2 ∨ w = 3 := by omega
  rcases this with rfl | rfl | rfl | rfl <;> cases h : ek_bt cr i
  · rfl
  · rfl
  · rfl
  · simp only [if_true]; rw [if_neg (by decide), if_neg (by decide), if_pos (show nI 1 = 1 from rfl), gd_t (ek_inb hi (by omega)), nI_clamp (by omega)]; rfl
  · rfl
  · simp only [if_true]; rw [if_neg (by decide), if_neg (by decide), if_neg (by decide), if_pos (show nI 2 = 2 from rfl), gd_t (ek_inb hi (by omega)), nI_clamp (by omega)]; rfl
  · rfl
  · simp only [if_true]; rw [if_neg (by decide), if_neg (by decide), if_neg (by decide), if_neg (by decide), gd_t (ek_inb hi (by omega)), nI_clamp (by omega)]; rfl
theorem ek_toldX {N : Nat} {cr : Int32} {gi wr hs : Nat → Int32} {i w : Nat} (hi : i < 9) (hw : w ≤ 3) : f_X6_factTold N cr hs gi wr (nI i) (nI w) = some (if w = 0 then (if ek_bt cr i then 1 else 0) else if ek_bt cr i then (if w = 1 then hs i else if w = 2 then gi i else wr i) else -9) := by
  unfold f_X6_factTold
  rw [ek_isC cr hi, ek_gift cr gi hi, ek_word cr wr hi]
  have : w = 0 ∨ w = 1 ∨ w = 2 ∨ w = 3 := by omega
  rcases this with rfl | rfl | rfl | rfl <;> cases h : ek_bt cr i
  · rfl
  · rfl
  · rfl
  · simp only [if_true]; rw [if_neg (by decide), if_pos (show nI 1 = 1 from rfl), if_neg (by decide), if_neg (show ¬ (9 : Int32) ≤ _ from nI_ge (b := 9) hi (by omega)), gd_t (ek_inb hi (by omega)), nI_clamp (by omega)]; rfl
  · rfl
  · rfl
  · rfl
  · rfl
theorem r_told {n N : Nat} {cr ak : Int32} {hs gi wr hs' gi' wr' : Nat → Int32} (hn : n ≤ 9) (he : ∀ i, i < 9 → hs' i = hs i ∧ gi' i = gi i ∧ wr' i = wr i) (x y : Int32) :
    ∃ o, f_X11_told N (nI n) cr hs gi wr ak x y = some o ∧ f_X12_told N (nI n) cr gi' wr' hs' ak x y = some o := by
  unfold f_X11_told f_X12_told
  rcases ek_desk x hn with ⟨e1, e2, -⟩ | ⟨i, hi, rfl, e1, e2⟩
  · rw [if_pos e1, if_pos e2]; exact ⟨_, rfl, rfl⟩
  · rw [if_neg e1, if_neg e2]
    rcases ek_what y 3 (by decide) 3 4 rfl rfl with ⟨f1, f2⟩ | ⟨w, hw, rfl, f1, f2, f3, f4⟩
    · rw [if_pos f1]
      rcases f2 with q | ⟨q1, q2, q3⟩
      · rw [if_pos q]; exact ⟨_, rfl, rfl⟩
      · rw [if_neg q1, if_neg q2]; exact ⟨_, rfl, rfl⟩
    · rw [if_neg f1, if_neg f2, if_pos f3, ek_toldM (by omega) hw, ek_toldX (by omega) hw]
      obtain ⟨a, b, c⟩ := he i (by omega)
      rw [a, b, c]
      exact ⟨_, rfl, rfl⟩
