/-! all orders: the class tries them -/
def ek_jd (val : List Nat → Int32) (st : Int32 × Int32 × List Nat) (L : List Nat) : Int32 × Int32 × List Nat :=
  (if val L ≤ st.1 then st.1 else val L, if val L < st.2.1 then val L else st.2.1, if val L ≤ st.1 then st.2.2 else L)
def ek_vl (la na li : Int32) (F : Nat → Int32) (P : Int32 × Int32 × Int32) (L : List Nat) : Int32 := (ek_bi la na li F L P).1 - P.1
theorem ek_mkb {N : Nat} {s b : Nat → Int32} (hN : 5000 ≤ N) : ∃ b', f_X3_markBest N s b = some b' ∧ ∀ k, k < 9 → b' k = s k := by
  unfold f_X3_markBest
  refine ek_forI (fun n2 x (t : Nat → Int32) => f_X3_markBest_b2 N s n2 t x) (fun j t => ∀ k, k < j → t k = s k) 9 N (by omega) ?_ b (fun k hk => absurd hk (by omega)) (fun o => ∃ b', o = some b' ∧ ∀ k, k < 9 → b' k = s k) ?_
  · intro n2 j t hj h
    refine ⟨upd t j (s j), ?_, ?_⟩
    · try simp only
      rw [f_X3_markBest_b2, if_neg (show ¬ (9 : Int32) ≤ nI j from nI_ge (b := 9) hj (by omega)), if_neg (show ¬ (9 : Int32) ≤ nI j from nI_ge (b := 9) hj (by omega)), gd_t (ek_inb hj (by omega)), nI_clamp (by omega), nI_1]
    · intro k hk
      by_cases e : k = j
      · rw [e]; exact pk_us
      · rw [pk_un e]; exact h k (by omega)
  · intro n2 t h
    refine ⟨t, ?_, h⟩
    try simp only
    rw [f_X3_markBest_b2, if_pos (show (9 : Int32) ≤ nI 9 from nI_le (a := 9) (Nat.le_refl _) (by omega))]
theorem ek_lsR {m : Nat} {v : Nat → Nat} {p : List Nat} {s : Nat → Int32} (hp : p.length = m) (ha : ∀ a, a ∈ p → a < m) (h : ek_ls (p.map v) s) : ek_qR m v (fun k => p.getD k 0) s := by
  intro k hk
  have hk2 : k < p.length := by omega
  have e : p.getD k 0 = p[k] := by rw [List.getD_eq_getElem?_getD, List.getElem?_eq_getElem hk2]; rfl
  have e2 : (p.map v).getD k 0 = v p[k] := by rw [List.getD_eq_getElem?_getD, List.getElem?_map, List.getElem?_eq_getElem hk2]; rfl
  show p.getD k 0 < m ∧ s k = nI (v (p.getD k 0))
  rw [e]
  refine ⟨ha _ (List.getElem_mem hk2), ?_⟩
  rw [h k (by rw [List.length_map]; exact hk2), e2]
theorem ek_Rls {m : Nat} {v q : Nat → Nat} {p : List Nat} {s : Nat → Int32} (hp : (List.range m).map q = p) (h : ek_qR m v q s) : ek_ls (p.map v) s := by
  subst hp
  intro k hk
  rw [List.length_map, List.length_map, List.length_range] at hk
  rw [List.getD_eq_getElem?_getD, List.getElem?_map, List.getElem?_map, List.getElem?_range hk]
  exact (h k hk).2
theorem ek_qpS {m : Nat} {p : List Nat} (h : ek_qp m p = true) : p.length = m ∧ ∀ a, a ∈ p → a < m := by
  unfold ek_qp at h
  rw [Bool.and_eq_true, beq_iff_eq, List.all_eq_true] at h
  exact ⟨h.1, fun a ha => of_decide_eq_true (h.2 a ha)⟩
theorem ek_lsn2 {m n : Nat} {v : Nat → Nat} {p : List Nat} (hv : ek_vv m n v) (hp : p.length = m) (ha : ∀ a, a ∈ p → a < m) : ∀ q, q < (p.map v).length → (p.map v).getD q 0 < n := by
  intro q hq
  rw [List.length_map] at hq
  rw [List.getD_eq_getElem?_getD, List.getElem?_map, List.getElem?_eq_getElem hq]
  exact hv.2 _ (ha _ (List.getElem_mem hq))
/-- from one order on, all that come behind it -/
theorem ek_trs {N n m : Nat} {F g : Nat → Int32} {c la na li mb : Int32} {P : Int32 × Int32 × Int32} {v : Nat → Nat} (hN : 5000 ≤ N) (hn : n ≤ 9) (hm : m ≤ 9) (hv : ek_vv m n v) : ∀ (Ps : List (List Nat)) (p : List Nat) (j n2 : Nat) (st : Int32 × Int32 × List Nat) (sq bq : Nat → Int32) (t1 t2 t3 t4 t5 t6 : Int32), ek_qc m p Ps = true → p.length = m → (∀ a, a ∈ p → a < m) → Ps.all (ek_qp m) = true → j + Ps.length ≤ 720 → Ps.length < n2 → ek_ls (p.map v) sq → st.2.2.length = m → ek_ls st.2.2 bq →
    ∃ R t1' t2' t3' t4' t5' t6' sq' bq', R = (Ps.map (List.map v)).foldl (ek_jd (ek_vl la na li F P)) st ∧ f_X11_tryAllOrders_b66 N (nI n) F c la na li g n2 la na li P.1 P.2.1 P.2.2 t1 t2 t3 t4 t5 t6 (nI m) mb st.1 st.2.1 sq bq (nI j) = some (la, na, li, P.1, P.2.1, P.2.2, t1', t2', t3', t4', t5', t6', nI m, mb, R.1, R.2.1, sq', bq') ∧ ek_ls R.2.2 bq' ∧ R.2.2.length = m := by
  intro Ps
  induction Ps with
  | nil =>
    intro p j n2 st sq bq t1 t2 t3 t4 t5 t6 hc hp ha hall hj h2 hls hlen hb
    obtain ⟨n2, rfl⟩ : ∃ z, n2 = z + 1 := ⟨n2 - 1, by omega⟩
    rw [List.length_nil] at hj
    by_cases w : 720 ≤ j
    · refine ⟨st, t1, t2, t3, t4, t5, t6, sq, bq, rfl, ?_, hb, hlen⟩
      rw [f_X11_tryAllOrders_b66, if_pos (show (720 : Int32) ≤ nI j from nI_le (a := 720) w (by omega))]
    · have hno : ek_qt m (fun k => p.getD k 0) = none := by
        unfold ek_qc at hc
        exact Option.isNone_iff_eq_none.mp hc
      have ht := (ek_turn hN hv hn hm (ek_lsR hp ha hls)).1 hno
      refine ⟨st, t1, t2, t3, t4, t5, t6, sq, bq, rfl, ?_, hb, hlen⟩
      rw [f_X11_tryAllOrders_b66, if_neg (show ¬ (720 : Int32) ≤ nI j from nI_ge (b := 720) (by omega) (by omega)), ht, bn_t, if_pos rfl]
  | cons p' Ps ih =>
    intro p j n2 st sq bq t1 t2 t3 t4 t5 t6 hc hp ha hall hj h2 hls hlen hb
    obtain ⟨n2, rfl⟩ : ∃ z, n2 = z + 1 := ⟨n2 - 1, by omega⟩
    rw [List.length_cons] at hj h2
    rw [List.all_cons, Bool.and_eq_true] at hall
    obtain ⟨hp', ha'⟩ := ek_qpS hall.1
    unfold ek_qc at hc
    rw [Bool.and_eq_true] at hc
    obtain ⟨hc1, hc2⟩ := hc
    obtain ⟨q', eq', er⟩ : ∃ q', ek_qt m (fun k => p.getD k 0) = some q' ∧ (List.range m).map q' = p' := by
      generalize ek_qt m (fun k => p.getD k 0) = o at hc1
      cases o with
      | none => exact absurd hc1 (by simp)
      | some q' => exact ⟨q', rfl, of_decide_eq_true hc1⟩
    obtain ⟨s', ht, hR'⟩ := (ek_turn hN hv hn hm (ek_lsR hp ha hls)).2 q' eq'
    have hls' := ek_Rls er hR'
    have hbr := ek_bring (N := N) (n := n) (F := F) (sq := s') (la := la) (na := na) (li := li) (a1 := t1) (a2 := t2) (a3 := t3) (a4 := t4) (a5 := t5) (a6 := t6) (P := P) (L := p'.map v) hN hn (ek_lsn2 hv hp' ha') hls' (by rw [List.length_map]; omega)
    rw [List.length_map, hp'] at hbr
    -- the judging
    have hju : ∃ b', f_X3_judge N s' st.1 st.2.1 bq (ek_vl la na li F P (p'.map v)) = some ((ek_jd (ek_vl la na li F P) st (p'.map v)).1, (ek_jd (ek_vl la na li F P) st (p'.map v)).2.1, b') ∧ ek_ls (ek_jd (ek_vl la na li F P) st (p'.map v)).2.2 b' ∧ (ek_jd (ek_vl la na li F P) st (p'.map v)).2.2.length = m := by
      unfold f_X3_judge ek_jd
      try simp only
      by_cases w : ek_vl la na li F P (p'.map v) ≤ st.1
      · simp only [if_pos w]
        exact ⟨bq, rfl, hb, hlen⟩
      · simp only [if_neg w]
        obtain ⟨b', e1, e2⟩ := ek_mkb (N := N) (s := s') (b := bq) hN
        refine ⟨b', ?_, ?_, ?_⟩
        · rw [e1, bn_t]
        · intro k hk
          rw [e2 k (by rw [List.length_map] at hk; omega)]
          exact hls' k hk
        · rw [List.length_map]; exact hp'
    obtain ⟨b', hj1, hj2, hj3⟩ := hju
    obtain ⟨R, u1, u2, u3, u4, u5, u6, sq2, bq2, hR, he, h3, h4⟩ := ih p' (j + 1) n2 (ek_jd (ek_vl la na li F P) st (p'.map v)) s' b' la na li (ek_bi la na li F (p'.map v) P).1 (ek_bi la na li F (p'.map v) P).2.1 (ek_bi la na li F (p'.map v) P).2.2 hc2 hp' ha' hall.2 (by omega) (by omega) hls' hj3 hj2
    refine ⟨R, u1, u2, u3, u4, u5, u6, sq2, bq2, ?_, ?_, h3, h4⟩
    · rw [List.map_cons, List.foldl_cons]; exact hR
    · rw [f_X11_tryAllOrders_b66, if_neg (show ¬ (720 : Int32) ≤ nI j from nI_ge (b := 720) (by omega) (by omega)), ht, bn_t, if_neg (show ¬ (1 : Int32) = 0 by decide), hbr, bn_t]
      try simp only
      unfold ek_vl at hj1 he
      rw [hj1, bn_t, nI_1]
      try simp only
      exact he
/-! the desks of a set, in their order -/
def ek_el (n : Nat) (s : Int32) : List Nat := (List.range n).filter (ek_bt s)
theorem ek_elm {n : Nat} {s : Int32} {i : Nat} : i ∈ ek_el n s ↔ i < n ∧ ek_bt s i = true := by
  unfold ek_el
  rw [List.mem_filter, List.mem_range]
theorem ek_elp (n : Nat) (s : Int32) : (ek_el n s).Pairwise (· < ·) := List.Pairwise.filter _ List.pairwise_lt_range
theorem ek_elv {n : Nat} (s : Int32) : ek_vv (ek_el n s).length n (fun k => (ek_el n s).getD k 0) := by
  have hg : ∀ a (h : a < (ek_el n s).length), (ek_el n s).getD a 0 = (ek_el n s)[a] := fun a h => by rw [List.getD_eq_getElem?_getD, List.getElem?_eq_getElem h]; rfl
  have hlt : ∀ a b, a < b → b < (ek_el n s).length → (ek_el n s).getD a 0 < (ek_el n s).getD b 0 := by
    intro a b hab hb
    rw [hg a (by omega), hg b hb]
    exact List.pairwise_iff_getElem.mp (ek_elp n s) a b _ hb hab
  refine ⟨fun a b ha hb => ⟨fun h => ?_, fun h => ?_⟩, fun a ha => ?_⟩
  · rcases Nat.lt_or_ge b a with w | w
    · have := hlt b a w ha
      simp only at h; omega
    · exact w
  · rcases Nat.lt_or_ge a b with w | w
    · exact Nat.le_of_lt (hlt a b w hb)
    · rw [show a = b by omega]; exact Nat.le_refl _
  · show (ek_el n s).getD a 0 < n
    rw [hg a ha]
    exact (ek_elm.mp (List.getElem_mem ha)).1
theorem ek_elr (n : Nat) (s : Int32) : (List.range (ek_el n s).length).map (fun k => (ek_el n s).getD k 0) = ek_el n s := by
  apply List.ext_getElem
  · rw [List.length_map, List.length_range]
  · intro k h1 h2
    rw [List.getElem_map, List.getElem_range, List.getD_eq_getElem?_getD, List.getElem?_eq_getElem h2]
    rfl
theorem ek_els (n : Nat) (s : Int32) : ek_el (n + 1) s = ek_el n s ++ (if ek_bt s n then [n] else []) := by
  unfold ek_el
  rw [List.range_succ, List.filter_append]
  congr 1
  cases h : ek_bt s n
  · rw [List.filter_cons_of_neg (by rw [h]; decide)]; rfl
  · rw [List.filter_cons_of_pos h]; rfl
theorem ek_elc {n : Nat} {s : Int32} : nI (ek_el n s).length = ek_s (fun k => if ek_bt s k then 1 else 0) n := by
  induction n with
  | zero => rfl
  | succ n ih =>
    rw [ek_els, List.length_append, ← nI_add, ih]
    show _ = ek_s _ n + (if ek_bt s n then 1 else 0)
    congr 1
    cases ek_bt s n <;> rfl
theorem ek_elpc {n : Nat} {s : Int32} (hn : n ≤ 9) (h : ek_sub n s) : ek_pc s = nI (ek_el n s).length := by
  rw [ek_elc]
  unfold ek_pc
  exact ek_smore (by omega) (fun j h1 _ => by rw [h j h1]; rfl)
theorem ek_elle (n : Nat) (s : Int32) : (ek_el n s).length ≤ n := by
  have := List.length_filter_le (ek_bt s) (List.range n)
  rw [List.length_range] at this
  exact this
