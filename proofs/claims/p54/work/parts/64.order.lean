/-! orders -/
theorem ek_pu1pt {n i : Nat} {la na li ho : Int32} {F : Nat → Int32} {s : Int32 × (Nat → Int32) × (Nat → Int32) × (Nat → Int32)} (hn : n ≤ 9) (hi : i < n) (hb : ek_bt s.1 i = false) : ek_pt (ek_pu1 n la na li F ho s i).1 (ek_pu1 n la na li F ho s i).2.1 n = ek_tk (ek_pt s.1 s.2.1 n) (ek_gv la na li (ek_ds F i) (ek_pt s.1 s.2.1 n)) := by
  unfold ek_pu1 ek_sg
  exact ek_ptset _ hb hi (by omega)
def ek_bi (la na li : Int32) (F : Nat → Int32) (L : List Nat) (P : Int32 × Int32 × Int32) : Int32 × Int32 × Int32 := L.foldl (fun P i => ek_tk P (ek_gv la na li (ek_ds F i) P)) P
def ek_vo (n : Nat) (c : Int32) (L : List Nat) : Prop := (∀ q, q < L.length → L.getD q 0 < n ∧ ek_bt c (L.getD q 0) = false) ∧ (∀ p q, p < q → q < L.length → L.getD p 0 ≠ L.getD q 0)
theorem ek_deskAt {L : List Nat} {s : Nat → Int32} {k : Nat} (h : ek_ls L s) (hk : k < L.length) (h9 : L.length ≤ 9) : p_X3_deskAt s (nI k) = nI (L.getD k 0) := by
  unfold p_X3_deskAt
  rw [if_neg (nI_pos (by omega)), if_neg (show ¬ (9 : Int32) ≤ _ from nI_ge (b := 9) (by omega) (by omega)), nI_clamp (by omega), h k hk]
theorem ek_bring {N n : Nat} {F sq : Nat → Int32} {la na li a1 a2 a3 a4 a5 a6 : Int32} {P : Int32 × Int32 × Int32} {L : List Nat} (hN : 5000 ≤ N) (hn : n ≤ 9) (hL : ∀ q, q < L.length → L.getD q 0 < n) (hs : ek_ls L sq) (h9 : L.length ≤ 9) :
    f_X11_bringIn N (nI n) F la na li P.1 P.2.1 P.2.2 (nI L.length) sq a1 a2 a3 a4 a5 a6 = some ((ek_bi la na li F L P).1 - P.1, la, na, li, (ek_bi la na li F L P).1, (ek_bi la na li F L P).2.1, (ek_bi la na li F L P).2.2) := by
  unfold f_X11_bringIn p_X5_copyFrom
  rw [nm_t]
  simp only
  refine ek_forI (fun n' x (s : Int32 × Int32 × Int32) => f_X11_bringIn_b21 N (nI n) F la na li P.1 P.2.1 P.2.2 (nI L.length) sq n' la na li s.1 s.2.1 s.2.2 P.1 x) (fun k s => s = ek_bi la na li F (L.take k) P) L.length N (by omega) ?_ P rfl (fun o => o = some ((ek_bi la na li F L P).1 - P.1, la, na, li, (ek_bi la na li F L P).1, (ek_bi la na li F L P).2.1, (ek_bi la na li F L P).2.2)) ?_
  · intro n' k s hk hs2
    refine ⟨ek_tk s (ek_gv la na li (ek_ds F (L.getD k 0)) s), ?_, ?_⟩
    · rw [f_X11_bringIn_b21, if_neg (nI_ge hk (by omega)), ek_deskAt hs hk h9, ek_gvX hn (hL k hk), bn_t, nm_t, ek_take, nI_1]
    · rw [ek_take1 hk, hs2]
      unfold ek_bi
      rw [List.foldl_append]
      rfl
  · intro n' s hs2
    rw [List.take_of_length_le (Nat.le_refl _)] at hs2
    rw [f_X11_bringIn_b21, if_pos (nI_le (Nat.le_refl _) (by omega)), hs2]
/-- the model puts in for those of a row -/
theorem ek_putsRow {N n k : Nat} {F D S' C' g w hs : Nat → Int32} {la na li ho c wm wt : Int32} {L : List Nat} (hN : 5000 ≤ N) (hD : ek_D n F D) (hT : ek_T la na li) (hB : ek_B n c g w) (hk6 : k < 6) (hL : ek_vo n c L) (h40 : L.length ≤ 40) (hS : S' k = nI L.length) (hC : ∀ j, j < L.length → C' (40 * k + j) = nI (L.getD j 0)) :
    ∃ wm' wt' g2 w2 hs2 c2, f_X12_putsRow N (nI n) la na li ho S' C' D c wm wt g w hs (nI k) = some ((ek_bi la na li F L (ek_pt c g n)).1 - (ek_pt c g n).1, c2, wm', wt', g2, w2, hs2) := by
  have hn := hD.1
  unfold f_X12_putsRow
  refine ek_forI (fun n' x (s : Int32 × Int32 × Int32 × (Int32 × (Nat → Int32) × (Nat → Int32) × (Nat → Int32))) => f_X12_putsRow_b4 N (nI n) la na li ho S' C' D n' s.2.2.2.1 s.2.1 s.2.2.1 s.2.2.2.2.1 s.2.2.2.2.2.1 s.2.2.2.2.2.2 (nI k) s.1 x) (fun j s => s.1 = (ek_bi la na li F (L.take j) (ek_pt c g n)).1 - (ek_pt c g n).1 ∧ ek_pt s.2.2.2.1 s.2.2.2.2.1 n = ek_bi la na li F (L.take j) (ek_pt c g n) ∧ ek_B n s.2.2.2.1 s.2.2.2.2.1 s.2.2.2.2.2.1 ∧ ∀ q, j ≤ q → q < L.length → ek_bt s.2.2.2.1 (L.getD q 0) = false) L.length N (by omega) ?_ (0, wm, wt, (c, g, w, hs)) ?_ (fun o => ∃ wm' wt' g2 w2 hs2 c2, o = some ((ek_bi la na li F L (ek_pt c g n)).1 - (ek_pt c g n).1, c2, wm', wt', g2, w2, hs2)) ?_
  · rintro n' j ⟨x2, m1, m2, st⟩ hj ⟨i1, i2, i3, i4⟩
    simp only at i1 i2 i3 i4
    have hin := (hL.1 j hj).1
    obtain ⟨m1', m2', e⟩ := ek_puts (N := N) (hour := ho) (a := m1) (b := m2) (hs := st.2.2.2) hN hD hT i3 hin
    have hpt := ek_pu1pt (la := la) (na := na) (li := li) (ho := ho) (F := F) (s := st) hn hin (i4 j (Nat.le_refl _) hj)
    have hbi : ek_bi la na li F (L.take (j + 1)) (ek_pt c g n) = ek_tk (ek_bi la na li F (L.take j) (ek_pt c g n)) (ek_gv la na li (ek_ds F (L.getD j 0)) (ek_bi la na li F (L.take j) (ek_pt c g n))) := by
      rw [ek_take1 hj]; unfold ek_bi; rw [List.foldl_append]; rfl
    have hG : ek_G n la na li F st.1 st.2.1 (L.getD j 0) = ek_gv la na li (ek_ds F (L.getD j 0)) (ek_bi la na li F (L.take j) (ek_pt c g n)) := by unfold ek_G; rw [i2]
    refine ⟨(x2 + ek_G n la na li F st.1 st.2.1 (L.getD j 0), m1', m2', ek_pu1 n la na li F ho st (L.getD j 0)), ?_, ?_, ?_, ?_, ?_⟩
    · simp only
      rw [f_X12_putsRow_b4, gd_t (ek_inb hk6 (by decide)), nI_clamp (by omega), hS, if_neg (nI_ge hj (by omega)), ek_rowAt hk6 (by omega), bn_t, hC j hj, e, bn_t, bn_t, gd_t (ek_inb (by omega) (by omega)), nm_t, nI_clamp (by omega), nI_1]
      unfold ek_pu1 ek_sg upd
      simp only [if_pos]
    · simp only
      rw [hbi, hG, i1]
      show _ = (ek_bi la na li F (L.take j) (ek_pt c g n)).1 + _ - _
      rw [Int32.sub_eq_add_neg, Int32.sub_eq_add_neg, Int32.add_assoc, Int32.add_assoc, Int32.add_comm (-(ek_pt c g n).1)]
    · simp only
      rw [hpt, hbi, i2]
    · simp only
      exact ek_Bset hn hD.2.2 hT i3 hin
    · intro q hq hql
      simp only
      show ek_bt (ek_sg st.1 (L.getD j 0)) (L.getD q 0) = false
      unfold ek_sg
      have h1 := (hL.1 q hql).1
      rw [ek_bset st.1 (by omega) (by omega), i4 q (by omega) hql, decide_eq_false (hL.2 j q (by omega) hql)]
      rfl
  · refine ⟨?_, rfl, hB, fun q _ hq => (hL.1 q hq).2⟩
    show (0 : Int32) = (ek_pt c g n).1 - (ek_pt c g n).1
    rw [Int32.sub_self]
  · rintro n' ⟨x2, m1, m2, st⟩ ⟨i1, -, -, -⟩
    simp only at i1
    rw [List.take_of_length_le (Nat.le_refl _)] at i1
    simp only
    rw [f_X12_putsRow_b4, gd_t (ek_inb hk6 (by decide)), nI_clamp (by omega), hS, if_pos (nI_le (Nat.le_refl _) (by omega)), i1]
    exact ⟨_, _, _, _, _, _, rfl⟩
theorem ek_sumBy {N n k : Nat} {F D S' C' g w hs A : Nat → Int32} {la na li ho c wm wt : Int32} {L : List Nat} (hN : 5000 ≤ N) (hD : ek_D n F D) (hT : ek_T la na li) (hB : ek_B n c g w) (hk6 : k < 6) (hL : ek_vo n c L) (h40 : L.length ≤ 40) (hS : S' k = nI L.length) (hC : ∀ j, j < L.length → C' (40 * k + j) = nI (L.getD j 0)) :
    ∃ wm' wt' g2 w2 hs2 A2, f_X12_sumBy N (nI n) la na li ho S' C' D c wm wt g w hs A (nI k) = some ((ek_bi la na li F L (ek_pt c g n)).1 - (ek_pt c g n).1, c, wm', wt', g2, w2, hs2, A2) ∧ ∀ i, i < 9 → g2 i = g i ∧ w2 i = w i ∧ hs2 i = hs i := by
  obtain ⟨A2, a1, a2, a3⟩ := ek_aside (c := c) (g := g) (w := w) (h := hs) (A := A) hN
  obtain ⟨wm', wt', g1, w1, h1, c1, e⟩ := ek_putsRow (ho := ho) (wm := wm) (wt := wt) (hs := hs) hN hD hT hB hk6 hL h40 hS hC
  obtain ⟨g2, w2, h2, b1, b2⟩ := ek_back (c := c1) (g := g1) (w := w1) (h := h1) (A := A2) hN
  refine ⟨wm', wt', g2, w2, h2, A2, ?_, fun i hi => ?_⟩
  · unfold f_X12_sumBy
    rw [a1, bn_t, e, bn_t, b1, bn_t, a2]
  · obtain ⟨q1, q2, q3⟩ := a3 i hi
    obtain ⟨p1, p2, p3⟩ := b2 i hi
    exact ⟨p1.trans q1, p2.trans q2, p3.trans q3⟩
/-- both sides read a row as an order -/
theorem ek_readO {N n : Nat} {S C S' C' Cn Cn' sq : Nat → Int32} {l l' c ln mb : Int32} (hN : 5000 ≤ N) (hn : n ≤ 9) (hH : ek_H 6 40 S C S' C') (hF : ek_F l Cn l' Cn') (hc : ek_sub n c) (x : Int32) :
    (∃ a l2 ln2 mb2 sq2 Cn2 l2' Cn2', f_X11_readOrder N 40 S C (nI n) c l ln mb sq Cn x = some (a, l2, ln2, mb2, sq2, Cn2) ∧ f_X12_askedOrder N (nI n) c S' C' l' Cn' x = some (a, l2', Cn2') ∧ ¬ a = 0 ∧ ¬ 0 ≤ a ∧ ek_F l2 Cn2 l2' Cn2') ∨
    (∃ k L mb2 sq2, k < 6 ∧ x = nI k ∧ f_X11_readOrder N 40 S C (nI n) c l ln mb sq Cn x = some (0, l, nI L.length, mb2, sq2, Cn) ∧ f_X12_askedOrder N (nI n) c S' C' l' Cn' x = some (0, l', Cn') ∧ ek_vo n c L ∧ L.length ≤ 9 ∧ ek_ls L sq2 ∧ (∀ i, i < 9 → (ek_bt mb2 i = true ↔ ∃ q, q < L.length ∧ L.getD q 0 = i)) ∧ S' k = nI L.length ∧ (∀ j, j < L.length → C' (40 * k + j) = nI (L.getD j 0))) := by
  rcases ek_refM (l := l) (Cn := Cn) (x := x) hH (by decide) (by decide) with ⟨e, h⟩ | ⟨k, hk, e, a, b, h⟩ | ⟨k, z, hk, e, hz, a, b, cc, h⟩
  · left
    refine ⟨-1, l, ln, mb, sq, Cn, l', Cn', ?_, ?_, by decide, by decide, hF⟩
    · unfold f_X11_readOrder; rw [e]; rfl
    · unfold f_X12_askedOrder; rw [ek_askRow.1 h]; rfl
  · left
    refine ⟨-3, nI 1, ln, mb, sq, upd Cn 1 (Cn 1 + 1), nI 1, upd Cn' 1 (Cn' 1 + 1), ?_, ?_, by decide, by decide, ek_F_upd hF (by decide)⟩
    · unfold f_X11_readOrder; rw [h]; rfl
    · unfold f_X12_askedOrder; rw [ek_askRow.2.1 k hk e b]; rfl
  · subst e
    have ex : f_X11_readOrder N 40 S C (nI n) c l ln mb sq Cn (nI k) = f_X11_readOrder_b25 N 40 S C (nI n) c N l 0 0 sq Cn (nI k) 0 := by
      unfold f_X11_readOrder p_X3_clear; rw [h]; simp only [nm, if_true]
    have em : f_X12_askedOrder N (nI n) c S' C' l' Cn' (nI k) = f_X12_askedOrder_b20 N (nI n) c S' C' N l' Cn' (nI k) c 0 := by
      unfold f_X12_askedOrder; rw [ek_askRow.2.2 k z hk (by omega) rfl b]; simp only [bn_t, if_true, ek_00]
    rw [ex, em]
    -- as far as the row is an order
    have key : ∀ d j, d + j = z → ∀ (L : List Nat) (mb' sq' : _) (x3 : Int32) (n1 n2 : Nat), L.length = j → ek_vo n c L → (∀ q, q < j → C (40 * k + q) = nI (L.getD q 0)) → ek_ls L sq' → (∀ i, i < 9 → (ek_bt mb' i = true ↔ ∃ q, q < L.length ∧ L.getD q 0 = i)) → (∀ i, i < 9 → (ek_bt x3 i = true ↔ (ek_bt c i = true ∨ ∃ q, q < L.length ∧ L.getD q 0 = i))) → ek_sub n x3 → ek_uc x3 n + j = ek_uc c n → d < n1 → d < n2 →
        (∃ a l2 ln2 mb2 sq2 Cn2 l2' Cn2', f_X11_readOrder_b25 N 40 S C (nI n) c n1 l (nI j) mb' sq' Cn (nI k) (nI j) = some (a, l2, ln2, mb2, sq2, Cn2) ∧ f_X12_askedOrder_b20 N (nI n) c S' C' n2 l' Cn' (nI k) x3 (nI j) = some (a, l2', Cn2') ∧ ¬ a = 0 ∧ ¬ 0 ≤ a ∧ ek_F l2 Cn2 l2' Cn2') ∨
        (∃ L mb2 sq2, f_X11_readOrder_b25 N 40 S C (nI n) c n1 l (nI j) mb' sq' Cn (nI k) (nI j) = some (0, l, nI L.length, mb2, sq2, Cn) ∧ f_X12_askedOrder_b20 N (nI n) c S' C' n2 l' Cn' (nI k) x3 (nI j) = some (0, l', Cn') ∧ ek_vo n c L ∧ L.length ≤ 9 ∧ ek_ls L sq2 ∧ (∀ i, i < 9 → (ek_bt mb2 i = true ↔ ∃ q, q < L.length ∧ L.getD q 0 = i)) ∧ z = L.length ∧ (∀ j, j < L.length → C' (40 * k + j) = nI (L.getD j 0))) := by
      intro d
      induction d with
      | zero =>
        intro j hj L mb' sq' x3 n1 n2 hL hvo hCq hls hmb hx3 hsx huc h1 h2
        obtain ⟨n1, rfl⟩ : ∃ q, n1 = q + 1 := ⟨n1 - 1, by omega⟩
        obtain ⟨n2, rfl⟩ : ∃ q, n2 = q + 1 := ⟨n2 - 1, by omega⟩
        right
        have hjz : j = z := by omega
        subst hjz
        have h9 : L.length ≤ 9 := by have := ek_ucle c n; omega
        refine ⟨L, mb', sq', ?_, ?_, hvo, h9, hls, hmb, by omega, fun q hq => by rw [← cc q (by omega)]; exact hCq q (by omega)⟩
        · rw [f_X11_readOrder_b25, ek_siz S hk (by decide), a, if_pos (nI_le (Nat.le_refl _) (by omega)), hL]
        · rw [f_X12_askedOrder_b20, gd_t (ek_inb hk (by decide)), nI_clamp (by omega), b, if_pos (nI_le (Nat.le_refl _) (by omega))]
      | succ d ih =>
        intro j hj L mb' sq' x3 n1 n2 hL hvo hCq hls hmb hx3 hsx huc h1 h2
        obtain ⟨n1, rfl⟩ : ∃ q, n1 = q + 1 := ⟨n1 - 1, by omega⟩
        obtain ⟨n2, rfl⟩ : ∃ q, n2 = q + 1 := ⟨n2 - 1, by omega⟩
        have hjz : j < z := by omega
        rw [f_X11_readOrder_b25, ek_siz S hk (by decide), a, if_neg (nI_ge hjz (by omega)), show ((40 : Int32)) = nI 40 from rfl, ek_cell C a hk hjz hz rfl (by decide) (by decide) (by decide), nm_t]
        rw [f_X12_askedOrder_b20, gd_t (ek_inb hk (by decide)), nI_clamp (by omega), b, if_neg (nI_ge hjz (by omega)), ek_rowAt hk (by omega), bn_t, ← cc j hjz]
        have bad : ∀ P : Prop, (∃ a l2 ln2 mb2 sq2 Cn2 l2' Cn2', nm (p_X11_refuse l Cn (3 : Int32)) (fun z86_1 => some (z86_1.1, z86_1.2.1, nI j, mb', sq', z86_1.2.2)) = some (a, l2, ln2, mb2, sq2, Cn2) ∧ bn (f_X12_meet N l' Cn' (3 : Int32)) (fun z60_3 => some (z60_3.1, z60_3.2.1, z60_3.2.2)) = some (a, l2', Cn2') ∧ ¬ a = (0 : Int32) ∧ ¬ 0 ≤ a ∧ ek_F l2 Cn2 l2' Cn2') ∨ P := by
          intro P; left
          refine ⟨-3, nI 3, nI j, mb', sq', upd Cn 3 (Cn 3 + 1), nI 3, upd Cn' 3 (Cn' 3 + 1), ?_, ?_, by decide, by decide, ek_F_upd hF (by decide)⟩
          · rw [show ((3 : Int32)) = nI 3 from rfl, ek_ref (by decide) (by decide)]; rfl
          · show bn (f_X12_meet N l' Cn' (nI 3)) _ = _
            rw [ek_meet (by decide)]; rfl
        rcases ek_desk (C (40 * k + j)) hn with ⟨d1, d2, -⟩ | ⟨i, hi, ei, d1, d2⟩
        · rw [if_pos d1, if_pos d2]; exact bad _
        · rw [if_neg d1, if_neg d2, ei, ek_isC c (by omega), ek_has x3 (by omega)]
          by_cases hci : ek_bt c i = true
          · rw [if_pos hci, if_neg (by decide), if_pos ((hx3 i (by omega)).mpr (Or.inl hci)), if_neg (by decide)]; exact bad _
          · rw [if_neg hci, if_pos rfl]
            have hho : p_X3_holds mb' (nI i) = if ek_bt mb' i then 1 else 0 := by
              unfold p_X3_holds
              rw [if_neg (nI_pos (by omega)), if_neg (show ¬ (9 : Int32) ≤ _ from nI_ge (b := 9) (by omega) (by omega)), ek_bits mb' (by omega)]
              cases ek_bt mb' i <;> rfl
            rw [hho]
            by_cases hmi : ek_bt mb' i = true
            · rw [if_pos hmi, if_neg (by decide), if_pos ((hx3 i (by omega)).mpr (Or.inr ((hmb i (by omega)).mp hmi))), if_neg (by decide)]; exact bad _
            · have hx3i : ek_bt x3 i = false := by
                cases w : ek_bt x3 i
                · rfl
                · rcases (hx3 i (by omega)).mp w with q | q
                  · exact absurd q hci
                  · exact absurd ((hmb i (by omega)).mpr q) hmi
              have hpos := ek_ucpos hx3i hi
              have hle := ek_ucle c n
              rw [if_neg hmi, if_pos rfl, if_neg (show ¬ ek_bt x3 i = true by rw [hx3i]; decide), if_pos rfl]
              have hadd : f_X3_add N (nI j) mb' sq' (nI i) = some (nI (j + 1), mb' ||| ((1 : Int32) <<< (nI i &&& 31)), upd sq' j (nI i)) := by
                unfold f_X3_add
                rw [if_neg (show ¬ (9 : Int32) ≤ _ from nI_ge (b := 9) (by omega) (by omega)), if_neg (nI_pos (by omega)), if_neg (show ¬ (9 : Int32) ≤ _ from nI_ge (b := 9) (by omega) (by omega)), gd_t (ek_inb (by omega) (by omega)), nI_clamp (by omega), nI_1]
              rw [hadd, bn_t, nm_t, nI_1]
              have hgl : ∀ q, q < j → (L ++ [i]).getD q 0 = L.getD q 0 := by
                intro q hq; unfold List.getD; rw [List.getElem?_append_left (by omega)]
              have hgj : (L ++ [i]).getD j 0 = i := by
                unfold List.getD; rw [List.getElem?_append_right (by omega), hL, Nat.sub_self]; rfl
              have hlen : (L ++ [i]).length = j + 1 := by rw [List.length_append, hL]; rfl
              have hni : ∀ q, q < j → L.getD q 0 ≠ i := fun q hq w => hmi ((hmb i (by omega)).mpr ⟨q, by omega, w⟩)
              have hex : ∀ p : Nat, (∃ q, q < (L ++ [i]).length ∧ (L ++ [i]).getD q 0 = p) ↔ ((∃ q, q < L.length ∧ L.getD q 0 = p) ∨ i = p) := by
                intro p
                constructor
                · rintro ⟨q, q1, q2⟩
                  rw [hlen] at q1
                  rcases Nat.lt_or_ge q j with w | w
                  · left; exact ⟨q, by omega, by rw [← hgl q w]; exact q2⟩
                  · right; have : q = j := by omega
                    rw [this, hgj] at q2; exact q2
                · rintro (⟨q, q1, q2⟩ | q)
                  · exact ⟨q, by omega, by rw [hgl q (by omega)]; exact q2⟩
                  · exact ⟨j, by omega, by rw [hgj]; exact q⟩
              refine ih (j + 1) (by omega) (L ++ [i]) _ _ _ n1 n2 hlen ⟨?_, ?_⟩ ?_ ?_ ?_ ?_ (ek_subset hsx hi (by omega)) ?_ (by omega) (by omega)
              · intro q hq
                rw [hlen] at hq
                rcases Nat.lt_or_ge q j with w | w
                · rw [hgl q w]; exact hvo.1 q (by omega)
                · have : q = j := by omega
                  rw [this, hgj]
                  exact ⟨hi, by cases w : ek_bt c i <;> simp_all⟩
              · intro p q hpq hq
                rw [hlen] at hq
                rcases Nat.lt_or_ge q j with w | w
                · rw [hgl q w, hgl p (by omega)]; exact hvo.2 p q hpq (by omega)
                · have : q = j := by omega
                  rw [this, hgj, hgl p (by omega)]; exact hni p (by omega)
              · intro q hq
                rcases Nat.lt_or_ge q j with w | w
                · rw [hgl q w]; exact hCq q w
                · have : q = j := by omega
                  rw [this, hgj]; exact ei
              · have := ek_lsadd hls i
                rw [hL] at this; exact this
              · intro p hp
                rw [ek_bset mb' (by omega) (by omega), hex p, ← hmb p hp]
                cases ek_bt mb' p <;> simp
              · intro p hp
                rw [ek_bset x3 (by omega) (by omega), hex p, Bool.or_eq_true, hx3 p hp, decide_eq_true_eq, or_assoc]
              · have := ek_ucsg hx3i (by omega) (m := n) (by omega) hi
                unfold ek_sg at this; omega
    rcases key z 0 (by omega) [] 0 sq c N N rfl ⟨fun q hq => absurd hq (by simp), fun p q _ hq => absurd hq (by simp)⟩ (fun q hq => absurd hq (by omega)) (fun q hq => absurd hq (by simp)) (fun i _ => by rw [ek_b0]; simp) (fun i _ => by simp) hc (by omega) (by omega) (by omega) with q | ⟨L, mb2, sq2, q1, q2, q3, q4, q5, q6, q7, q8⟩
    · exact Or.inl q
    · exact Or.inr ⟨k, L, mb2, sq2, hk, rfl, q1, q2, q3, q4, q5, q6, by rw [b, q7], q8⟩
