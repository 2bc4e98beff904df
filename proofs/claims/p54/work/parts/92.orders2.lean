/-! all orders: both sides -/
def ek_jo (val : List Nat → Int32) : Option (Int32 × Int32 × List Nat) → List Nat → Option (Int32 × Int32 × List Nat)
  | none, L => some (val L, val L, L)
  | some st, L => some (ek_jd val st L)
theorem ek_josome (val : List Nat → Int32) : ∀ (Ls : List (List Nat)) (st : Int32 × Int32 × List Nat), Ls.foldl (ek_jo val) (some st) = some (Ls.foldl (ek_jd val) st) := by
  intro Ls
  induction Ls with
  | nil => intro st; rfl
  | cons L Ls ih => intro st; exact ih _
/-- the class tries all orders of a set -/
theorem ek_try {N n : Nat} {F g bq sq : Nat → Int32} {c la na li x a1 a2 a3 a4 a5 a6 b1 b2 b3 b4 b5 b6 ln mb mo le : Int32} (hN : 5000 ≤ N) (hn : n ≤ 9) (hc : ek_sub n c) (h6 : (ek_el n x).length ≤ 6) :
    ∃ R t1 t2 t3 t4 t5 t6 mb' sq' bq', (ek_prm (ek_el n x).length (ek_el n x)).foldl (ek_jo (ek_vl la na li F (ek_pt c g n))) none = some R ∧ f_X11_tryAllOrders N (nI n) F c la na li g a1 a2 a3 a4 a5 a6 b1 b2 b3 b4 b5 b6 ln mb mo le sq bq x = some (la, na, li, (ek_pt c g n).1, (ek_pt c g n).2.1, (ek_pt c g n).2.2, t1, t2, t3, t4, t5, t6, nI (ek_el n x).length, mb', R.1, R.2.1, sq', bq') ∧ ek_ls R.2.2 bq' ∧ R.2.2.length = (ek_el n x).length := by
  unfold f_X11_tryAllOrders p_X3_clear
  rw [nm_t]
  try simp only
  refine ek_forI (fun n2 y (s : Int32 × Int32 × (Nat → Int32)) => f_X11_tryAllOrders_b9 N (f_X11_tryAllOrders_b42 N (nI n) F c la na li g) (nI n) F c la na li g n2 a1 a2 a3 a4 a5 a6 b1 b2 b3 b4 b5 b6 s.1 s.2.1 mo le s.2.2 bq x y) (fun j s => s.1 = nI (ek_el j x).length ∧ ek_ls (ek_el j x) s.2.2) n N (by omega) ?_ (0, 0, sq) ⟨rfl, fun q hq => absurd hq (by show ¬ q < 0; omega)⟩ (fun o => ∃ R t1 t2 t3 t4 t5 t6 mb' sq' bq', (ek_prm (ek_el n x).length (ek_el n x)).foldl (ek_jo (ek_vl la na li F (ek_pt c g n))) none = some R ∧ o = some (la, na, li, (ek_pt c g n).1, (ek_pt c g n).2.1, (ek_pt c g n).2.2, t1, t2, t3, t4, t5, t6, nI (ek_el n x).length, mb', R.1, R.2.1, sq', bq') ∧ ek_ls R.2.2 bq' ∧ R.2.2.length = (ek_el n x).length) ?_
  · rintro n2 j ⟨s1, s2, s3⟩ hj ⟨i1, i2⟩
    simp only at i1 i2
    subst i1
    have hle := ek_elle j x
    try simp only
    rw [f_X11_tryAllOrders_b9, if_neg (nI_ge hj (by omega)), ek_bits x (by omega), ek_els]
    cases hb : ek_bt x j
    · refine ⟨(nI (ek_el j x).length, s2, s3), ?_, ?_, ?_⟩
      · simp only [Bool.false_eq_true, if_false, if_true]
        unfold f_X11_tryAllOrders_b36
        rw [nI_1]
      · simp
      · simp only [Bool.false_eq_true, if_false, List.append_nil]; exact i2
    · refine ⟨(nI ((ek_el j x).length + 1), s2 ||| ((1 : Int32) <<< (nI j &&& 31)), upd s3 (ek_el j x).length (nI j)), ?_, ?_, ?_⟩
      · simp only [if_true]
        have hadd : f_X3_add N (nI (ek_el j x).length) s2 s3 (nI j) = some (nI ((ek_el j x).length + 1), s2 ||| ((1 : Int32) <<< (nI j &&& 31)), upd s3 (ek_el j x).length (nI j)) := by
          unfold f_X3_add
          rw [if_neg (show ¬ (9 : Int32) ≤ _ from nI_ge (b := 9) (by omega) (by omega)), if_neg (nI_pos (by omega)), if_neg (show ¬ (9 : Int32) ≤ _ from nI_ge (b := 9) (by omega) (by omega)), gd_t (ek_inb (by omega) (by omega)), nI_clamp (by omega), nI_1]
        rw [if_neg (show ¬ (1 : Int32) = 0 by decide), hadd, bn_t]
        unfold f_X11_tryAllOrders_b36
        rw [nI_1]
      · simp only [if_true, List.length_append]; rfl
      · simp only [if_true]; exact ek_lsadd i2 j
  · rintro n2 ⟨s1, s2, s3⟩ ⟨i1, i2⟩
    simp only at i1 i2
    subst i1
    try simp only
    rw [f_X11_tryAllOrders_b9, if_pos (nI_le (Nat.le_refl _) (by omega))]
    unfold f_X11_tryAllOrders_b42
    rw [ek_layX5 hN, bn_t, ek_ptn hc g hn]
    try simp only
    have hle := ek_elle n x
    have hv := ek_elv (n := n) x
    have hr := ek_elr n x
    generalize hm : (ek_el n x).length = m at h6 hle hv hr
    generalize (fun k => (ek_el n x).getD k 0) = v at hv hr
    generalize ek_el n x = S at hr i2 hm
    subst hr
    have hok := ek_qok m h6
    have hnat := ek_prmMap (v := v) m (List.range m) (fun a ha b hb e => by
      rw [List.mem_range] at ha hb
      have h1 := (hv.1 a b ha hb).mp (Nat.le_of_eq e)
      have h2 := (hv.1 b a hb ha).mp (Nat.le_of_eq e.symm)
      omega)
    rw [hnat]
    unfold ek_qkk at hok
    generalize ek_prm m (List.range m) = Ps at hok
    cases Ps with
    | nil => exact absurd hok (by simp)
    | cons p Ps =>
      simp only [Bool.and_eq_true, decide_eq_true_eq] at hok
      obtain ⟨hp, hq, h720, hall⟩ := hok
      have hpl : p.length = m := by rw [hp, List.length_range]
      have hpa : ∀ a, a ∈ p → a < m := fun a ha => by rw [hp, List.mem_range] at ha; exact ha
      rw [← hp] at i2
      have hbr := ek_bring (N := N) (n := n) (F := F) (sq := s3) (la := la) (na := na) (li := li) (a1 := b1) (a2 := b2) (a3 := b3) (a4 := b4) (a5 := b5) (a6 := b6) (P := ek_pt c g n) (L := p.map v) hN hn (ek_lsn2 hv hpl hpa) i2 (by rw [List.length_map]; omega)
      rw [List.length_map, hpl] at hbr
      obtain ⟨b', e1, e2⟩ := ek_mkb (N := N) (s := s3) (b := bq) hN
      have hb' : ek_ls (p.map v) b' := fun k hk => by
        rw [e2 k (by rw [List.length_map] at hk; omega)]
        exact i2 k hk
      obtain ⟨R, t1, t2, t3, t4, t5, t6, sq', bq', hR, he, h3, h4⟩ := ek_trs (N := N) (F := F) (g := g) (c := c) (la := la) (na := na) (li := li) (mb := s2) (P := ek_pt c g n) hN hn (by omega) hv Ps p 1 N (ek_vl la na li F (ek_pt c g n) (p.map v), ek_vl la na li F (ek_pt c g n) (p.map v), p.map v) s3 b' la na li (ek_bi la na li F (p.map v) (ek_pt c g n)).1 (ek_bi la na li F (p.map v) (ek_pt c g n)).2.1 (ek_bi la na li F (p.map v) (ek_pt c g n)).2.2 hq hpl hpa hall (by omega) (by omega) i2 (by simp only [List.length_map]; exact hpl) hb'
      refine ⟨R, t1, t2, t3, t4, t5, t6, s2, sq', bq', ?_, ?_, h3, h4⟩
      · rw [List.map_cons, List.foldl_cons, hR]
        exact ek_josome _ _ _
      · rw [hbr, bn_t]
        unfold f_X3_judgeFirst
        rw [e1, bn_t, bn_t]
        try simp only
        exact he
theorem ek_elx {n j : Nat} {x : Int32} (hn : n ≤ 9) (hj : j < n) : ek_el n (x &&& (((1 : Int32) <<< (nI j &&& 31)) ^^^ (-1))) = (ek_el n x).filter fun i => decide (¬ i = j) := by
  unfold ek_el
  rw [List.filter_filter]
  apply List.filter_congr
  intro i hi
  rw [List.mem_range] at hi
  rw [ek_bclr x (by omega) (by omega)]
  by_cases e : i = j
  · subst e; simp
  · have e2 : ¬ j = i := fun w => e w.symm
    rw [decide_eq_false e2, decide_eq_true e, Bool.true_and]; simp
theorem ek_el0 {n : Nat} {x : Int32} (hs : ek_sub n x) (h : ek_el n x = []) : x = 0 := by
  apply ek_ext
  intro i _
  rw [ek_b0]
  rcases Nat.lt_or_ge i n with q | q
  · cases hb : ek_bt x i
    · rfl
    · have : i ∈ ek_el n x := ek_elm.mpr ⟨q, hb⟩
      rw [h] at this
      exact absurd this (by simp)
  · exact hs i q
theorem ek_el00 (n : Nat) : ek_el n 0 = [] := by
  unfold ek_el
  apply List.filter_eq_nil_iff.mpr
  intro i _
  rw [ek_b0]; decide
def ek_RJ (ia sm sl : Int32) (ml : Nat → Int32) : Option (Int32 × Int32 × List Nat) → Prop
  | none => ia = 0
  | some st => ia = 1 ∧ sm = st.1 ∧ sl = st.2.1 ∧ ek_ls st.2.2 ml
theorem ek_cpyL {N : Nat} {K1 : Int32 → Int32 → Int32 → Int32 → Int32 → Int32 → (Nat → Int32) → (Nat → Int32) → (Nat → Int32) → (Nat → Int32) → (Nat → Int32) → Int32 → Int32 → Int32 → Option (Int32 × Int32 × Int32 × Int32 × Int32 × Int32 × (Nat → Int32) × (Nat → Int32) × (Nat → Int32) × (Nat → Int32) × (Nat → Int32))} {K2 : Int32 → Int32 → Int32 → Int32 → Int32 → Int32 → (Nat → Int32) → (Nat → Int32) → (Nat → Int32) → (Nat → Int32) → (Nat → Int32) → Int32 → Option (Int32 × Int32 × Int32 × Int32 × Int32 × Int32 × (Nat → Int32) × (Nat → Int32) × (Nat → Int32) × (Nat → Int32) × (Nat → Int32))} {q1 la na li ho c wm wt sm sl ia x3 : Int32} {D g w hs laid ml : Nat → Int32} {L : List Nat} (hN : 5000 ≤ N) (h9 : L.length ≤ 9) (hls : ek_ls L laid) :
    ∃ ml', ek_ls L ml' ∧ f_X12_orderOn_b27 N K1 K2 q1 la na li ho D N c wm wt sm sl ia g w hs laid ml (nI L.length) x3 0 = K2 c wm wt sm sl ia g w hs laid ml' x3 := by
  refine ek_forI (fun n2 y (t : Nat → Int32) => f_X12_orderOn_b27 N K1 K2 q1 la na li ho D n2 c wm wt sm sl ia g w hs laid t (nI L.length) x3 y) (fun j t => ∀ k, k < j → t k = laid k) L.length N (by omega) ?_ ml (fun k hk => absurd hk (by omega)) (fun o => ∃ ml', ek_ls L ml' ∧ o = K2 c wm wt sm sl ia g w hs laid ml' x3) ?_
  · intro n2 j t hj h
    refine ⟨upd t j (laid j), ?_, ?_⟩
    · try simp only
      rw [f_X12_orderOn_b27, if_neg (nI_ge hj (by omega)), gd_t (ek_inb (by omega) (by omega)), nI_clamp (by omega), nI_1]
    · intro k hk
      by_cases e : k = j
      · rw [e]; exact pk_us
      · rw [pk_un e]; exact h k (by omega)
  · intro n2 t h
    refine ⟨t, fun k hk => by rw [h k hk]; exact hls k hk, ?_⟩
    try simp only
    rw [f_X12_orderOn_b27, if_pos (nI_le (Nat.le_refl _) (by omega))]
theorem ek_leaf {N n : Nat} {K1 : Int32 → Int32 → Int32 → Int32 → Int32 → Int32 → (Nat → Int32) → (Nat → Int32) → (Nat → Int32) → (Nat → Int32) → (Nat → Int32) → Int32 → Int32 → Int32 → Option (Int32 × Int32 × Int32 × Int32 × Int32 × Int32 × (Nat → Int32) × (Nat → Int32) × (Nat → Int32) × (Nat → Int32) × (Nat → Int32))} {la na li ho c wm wt sm sl ia x3 : Int32} {D g w hs laid ml : Nat → Int32} {L : List Nat} {val : List Nat → Int32} {st : Option (Int32 × Int32 × List Nat)} (hN : 5000 ≤ N) (h9 : L.length ≤ 9) (hls : ek_ls L laid) (hx : x3 = val L) (hJ : ek_RJ ia sm sl ml st) :
    ∃ sm' sl' ml', f_X12_orderOn_s N K1 (nI n) la na li ho D c wm wt sm sl ia g w hs laid ml 0 (nI L.length) x3 = some (c, wm, wt, sm', sl', 1, g, w, hs, laid, ml') ∧ ek_RJ 1 sm' sl' ml' (ek_jo val st L) := by
  unfold f_X12_orderOn_s
  rw [if_pos rfl]
  obtain ⟨m1, c1, c2⟩ := ek_cpyL (N := N) (K1 := K1) (K2 := f_X12_orderOn_b53 N K1 (nI n) la na li ho D) (q1 := nI n) (la := la) (na := na) (li := li) (ho := ho) (c := c) (wm := wm) (wt := wt) (sm := x3) (sl := sl) (ia := ia) (x3 := x3) (D := D) (g := g) (w := w) (hs := hs) (laid := laid) (ml := ml) (L := L) hN h9 hls
  cases st with
  | none =>
    have h0 : ia = 0 := hJ
    rw [if_pos h0]
    refine ⟨x3, x3, m1, ?_, rfl, hx, hx, c1⟩
    unfold f_X12_orderOn_b19
    rw [c2]
    unfold f_X12_orderOn_b53
    rw [if_pos h0]
  | some st =>
    obtain ⟨h1, h2, h3, h4⟩ := hJ
    have hne : ¬ ia = 0 := by rw [h1]; decide
    have h53 : ∀ (s1 : Int32) (m2 : Nat → Int32), f_X12_orderOn_b53 N K1 (nI n) la na li ho D c wm wt s1 sl ia g w hs laid m2 x3 = some (c, wm, wt, s1, (if x3 < sl then x3 else sl), 1, g, w, hs, laid, m2) := by
      intro s1 m2
      unfold f_X12_orderOn_b53
      rw [if_neg hne]
      by_cases q : sl ≤ x3
      · rw [if_pos q, if_neg (Int32.not_lt.mpr q)]
      · rw [if_neg q, if_pos (Int32.not_le.mp q)]
    rw [if_neg hne]
    by_cases q : x3 ≤ sm
    · rw [if_pos q, h53]
      refine ⟨_, _, _, rfl, rfl, ?_, ?_, ?_⟩
      · show sm = if val L ≤ st.1 then st.1 else val L
        rw [← hx, ← h2, if_pos q]
      · show _ = if val L < st.2.1 then val L else st.2.1
        rw [← hx, ← h3]
      · show ek_ls (if val L ≤ st.1 then st.2.2 else L) ml
        rw [← hx, ← h2, if_pos q]; exact h4
    · rw [if_neg q]
      unfold f_X12_orderOn_b19
      rw [c2, h53]
      refine ⟨_, _, _, rfl, rfl, ?_, ?_, ?_⟩
      · show x3 = if val L ≤ st.1 then st.1 else val L
        rw [← hx, ← h2, if_neg q]
      · show _ = if val L < st.2.1 then val L else st.2.1
        rw [← hx, ← h3]
      · show ek_ls (if val L ≤ st.1 then st.2.2 else L) m1
        rw [← hx, ← h2, if_neg q]; exact c1
