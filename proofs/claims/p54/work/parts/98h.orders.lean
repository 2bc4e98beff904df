/-! orders: all of them, the best, the least; what the boss fills up -/
theorem jd_facts (val : List Nat → Int32) : ∀ (Ls : List (List Nat)) (st : Int32 × Int32 × List Nat), st.1 = val st.2.2 →
    (Ls.foldl (ek_jd val) st).1 = val (Ls.foldl (ek_jd val) st).2.2 ∧ st.1 ≤ (Ls.foldl (ek_jd val) st).1 ∧ (Ls.foldl (ek_jd val) st).2.1 ≤ st.2.1 ∧ (∀ L, L ∈ Ls → val L ≤ (Ls.foldl (ek_jd val) st).1 ∧ (Ls.foldl (ek_jd val) st).2.1 ≤ val L) ∧ ((Ls.foldl (ek_jd val) st).2.2 = st.2.2 ∨ (Ls.foldl (ek_jd val) st).2.2 ∈ Ls) := by
  intro Ls
  induction Ls with
  | nil => intro st h; exact ⟨h, Int32.le_refl _, Int32.le_refl _, fun L hL => absurd hL (by simp), Or.inl rfl⟩
  | cons A Ls ih =>
    intro st h
    have h1 : (ek_jd val st A).1 = val (ek_jd val st A).2.2 := by
      unfold ek_jd
      by_cases q : val A ≤ st.1
      · simp only [if_pos q]; exact h
      · simp only [if_neg q]
    obtain ⟨g1, g2, g3, g4, g5⟩ := ih (ek_jd val st A) h1
    have e : (A :: Ls).foldl (ek_jd val) st = Ls.foldl (ek_jd val) (ek_jd val st A) := rfl
    rw [e]
    have a1 : st.1 ≤ (ek_jd val st A).1 ∧ val A ≤ (ek_jd val st A).1 := by
      unfold ek_jd
      by_cases q : val A ≤ st.1
      · simp only [if_pos q]; exact ⟨Int32.le_refl _, q⟩
      · simp only [if_neg q]; exact ⟨Int32.le_of_lt (Int32.not_le.mp q), Int32.le_refl _⟩
    have a2 : (ek_jd val st A).2.1 ≤ st.2.1 ∧ (ek_jd val st A).2.1 ≤ val A := by
      unfold ek_jd
      by_cases q : val A < st.2.1
      · simp only [if_pos q]; exact ⟨Int32.le_of_lt q, Int32.le_refl _⟩
      · simp only [if_neg q]; exact ⟨Int32.le_refl _, Int32.not_lt.mp q⟩
    have a3 : (ek_jd val st A).2.2 = st.2.2 ∨ (ek_jd val st A).2.2 = A := by
      unfold ek_jd
      by_cases q : val A ≤ st.1
      · exact Or.inl (by simp only [if_pos q])
      · exact Or.inr (by simp only [if_neg q])
    refine ⟨g1, Int32.le_trans a1.1 g2, Int32.le_trans g3 a2.1, fun L hL => ?_, ?_⟩
    · rcases List.mem_cons.mp hL with q | q
      · subst q
        exact ⟨Int32.le_trans a1.2 g2, Int32.le_trans g3 a2.2⟩
      · exact g4 L q
    · rcases g5 with q | q
      · rcases a3 with w | w
        · exact Or.inl (q.trans w)
        · exact Or.inr (by rw [q, w]; simp)
      · exact Or.inr (by simp [q])
theorem jo_facts {val : List Nat → Int32} {Ls : List (List Nat)} {R : Int32 × Int32 × List Nat} (h : Ls.foldl (ek_jo val) none = some R) : R.1 = val R.2.2 ∧ R.2.2 ∈ Ls ∧ (∀ L, L ∈ Ls → val L ≤ R.1 ∧ R.2.1 ≤ val L) ∧ R.2.1 ≤ R.1 := by
  cases Ls with
  | nil => cases h
  | cons A Ls =>
    have h' : Ls.foldl (ek_jo val) (some (val A, val A, A)) = some R := h
    rw [ek_josome] at h'
    obtain ⟨g1, g2, g3, g4, g5⟩ := jd_facts val Ls (val A, val A, A) rfl
    cases h'
    refine ⟨g1, ?_, fun L hL => ?_, Int32.le_trans g3 g2⟩
    · rcases g5 with q | q
      · rw [q]; simp
      · simp [q]
    · rcases List.mem_cons.mp hL with q | q
      · subst q; exact ⟨g2, g3⟩
      · exact g4 L q
theorem prm_perm : ∀ (f : Nat) (S : List Nat), S.Nodup → S.length = f → (∀ L, L ∈ ek_prm f S → L.Perm S) ∧ S ∈ ek_prm f S := by
  intro f
  induction f with
  | zero =>
    intro S hn hl
    have : S = [] := List.length_eq_zero_iff.mp hl
    subst this
    exact ⟨fun L hL => by rw [show L = [] by simpa [ek_prm] using hL], by simp [ek_prm]⟩
  | succ f ih =>
    intro S hn hl
    have hne : S.isEmpty = false := by cases S with
      | nil => simp at hl
      | cons a T => rfl
    have key : ∀ i, i ∈ S → (S.filter fun j => decide (¬ j = i)).Nodup ∧ (S.filter fun j => decide (¬ j = i)).length = f ∧ (i :: (S.filter fun j => decide (¬ j = i))).Perm S := by
      intro i hi
      have e : (S.filter fun j => decide (¬ j = i)) = S.erase i := by
        rw [hn.erase_eq_filter]
        apply List.filter_congr
        intro j _
        by_cases q : j = i
        · simp [q]
        · simp [q]
      refine ⟨hn.filter _, ?_, ?_⟩
      · rw [e, List.length_erase_of_mem hi, hl]; rfl
      · rw [e]; exact (List.perm_cons_erase hi).symm
    constructor
    · intro L hL
      rw [ek_prm, hne] at hL
      simp only [Bool.false_eq_true, if_false, List.mem_flatMap, List.mem_map] at hL
      obtain ⟨i, hi, L', hL', rfl⟩ := hL
      obtain ⟨k1, k2, k3⟩ := key i hi
      exact (List.Perm.cons i ((ih _ k1 k2).1 L' hL')).trans k3
    · rw [ek_prm, hne]
      simp only [Bool.false_eq_true, if_false, List.mem_flatMap, List.mem_map]
      cases S with
      | nil => simp at hl
      | cons a T =>
        obtain ⟨k1, k2, k3⟩ := key a (by simp)
        have eT : ((a :: T).filter fun j => decide (¬ j = a)) = T := by
          have ha : a ∉ T := (List.nodup_cons.mp hn).1
          rw [List.filter_cons]
          simp only [not_true_eq_false, decide_false, Bool.false_eq_true, if_false]
          apply List.filter_eq_self.mpr
          intro j hj
          simp only [decide_eq_true_eq]
          intro q
          exact ha (q ▸ hj)
        rw [eT] at k1 k2
        exact ⟨a, by simp, T, by rw [eT]; exact (ih T k1 k2).2, rfl⟩
theorem el_nd (n : Nat) (x : Int32) : (ek_el n x).Nodup := (ek_elp n x).imp (fun h => Nat.ne_of_lt h)
theorem vo_of {n : Nat} {c X : Int32} {L : List Nat} (hp : L.Perm (ek_el n X)) (hX : ∀ i, i < n → ek_bt X i = true → ek_bt c i = false) : ek_vo n c L := by
  have hm : ∀ i, i ∈ L → i < n ∧ ek_bt c i = false := fun i hi => by
    obtain ⟨a, b⟩ := ek_elm.mp ((hp.mem_iff).mp hi)
    exact ⟨a, hX i a b⟩
  have hg : ∀ q (hq : q < L.length), L.getD q 0 = L[q] := fun q hq => by
    rw [List.getD_eq_getElem?_getD, List.getElem?_eq_getElem hq]; rfl
  refine ⟨fun q hq => ?_, fun p q hpq hq => ?_⟩
  · rw [hg q hq]; exact hm _ (List.getElem_mem hq)
  · have hnd : L.Nodup := (hp.nodup_iff).mpr (el_nd n X)
    rw [hg p (by omega), hg q hq]
    intro e
    exact (List.pairwise_iff_getElem.mp hnd p q (by omega) hq hpq) e
theorem bi_b {n : Nat} {F : Nat → Int32} {la na li : Int32} (hT : ek_T la na li) (hw : ∀ i, i < n → ek_wf (ek_ds F i)) : ∀ (L : List Nat) (P : Int32 × Int32 × Int32) (T0 m : Nat), P.1 = nI T0 → ek_ok m P → T0 ≤ 60 * m → (∀ i, i ∈ L → i < n) → m + L.length < 100 → ∃ T, (ek_bi la na li F L P).1 = nI T ∧ T0 ≤ T ∧ T ≤ 60 * (m + L.length) := by
  intro L
  induction L with
  | nil => intro P T0 m h1 h2 h3 _ _; exact ⟨T0, h1, Nat.le_refl _, by simpa using h3⟩
  | cons a L ih =>
    intro P T0 m h1 h2 h3 h4 h5
    simp only [List.length_cons] at h5
    obtain ⟨v, hv, ev⟩ := ek_gvb hT (hw a (h4 a (by simp))) h2 (by omega)
    have e : ek_bi la na li F (a :: L) P = ek_bi la na li F L (ek_tk P (ek_gv la na li (ek_ds F a) P)) := rfl
    rw [e, ev]
    obtain ⟨T, g1, g2, g3⟩ := ih (ek_tk P (nI v)) (T0 + v) (m + 1) (by show P.1 + nI v = _; rw [h1, nI_add]) (ek_oktk h2 hv (by omega)) (by omega) (fun i hi => h4 i (by simp [hi])) (by omega)
    exact ⟨T, g1, by omega, by simp only [List.length_cons]; omega⟩
/-- what an order brings, as a number -/
theorem vl_b {n : Nat} {F g w : Nat → Int32} {la na li c : Int32} {L : List Nat} (hn : n ≤ 9) (hT : ek_T la na li) (hw : ∀ i, i < n → ek_wf (ek_ds F i)) (hB : ek_B n c g w) (hL : ∀ i, i ∈ L → i < n) (h9 : L.length ≤ 9) : ∃ k t, (ek_pt c g n).1 = nI k ∧ (ek_bi la na li F L (ek_pt c g n)).1 = nI t ∧ ek_vl la na li F (ek_pt c g n) L = nI (t - k) ∧ k ≤ t ∧ t ≤ 1080 := by
  have hok := ek_okpt (c := c) (g := g) (m := n) hn (fun k hk => hB.2.1 k (by omega))
  obtain ⟨T, Gq, Lq, e, h1, h2, h3⟩ := id hok
  obtain ⟨t, g1, g2, g3⟩ := bi_b (n := n) (F := F) hT hw L (ek_pt c g n) T n (by rw [e]) hok (by omega) hL (by omega)
  refine ⟨T, t, by rw [e], g1, ?_, g2, by omega⟩
  unfold ek_vl
  rw [g1, e]
  exact pk_sub g2
def oR (n : Nat) (F : Nat → Int32) (c : Int32) (g : Nat → Int32) (la na li X : Int32) : Option (Int32 × Int32 × List Nat) := (ek_prm (ek_el n X).length (ek_el n X)).foldl (ek_jo (ek_vl la na li F (ek_pt c g n))) none
theorem oR_facts {n : Nat} {F g : Nat → Int32} {c la na li X : Int32} {R : Int32 × Int32 × List Nat} (h : oR n F c g la na li X = some R) (hX : ∀ i, i < n → ek_bt X i = true → ek_bt c i = false) :
    R.1 = ek_vl la na li F (ek_pt c g n) R.2.2 ∧ R.2.2.Perm (ek_el n X) ∧ ek_vo n c R.2.2 ∧ ek_vl la na li F (ek_pt c g n) (ek_el n X) ≤ R.1 ∧ R.2.1 ≤ ek_vl la na li F (ek_pt c g n) (ek_el n X) ∧ R.2.1 ≤ R.1 := by
  obtain ⟨g1, g2, g3, g4⟩ := jo_facts h
  obtain ⟨p1, p2⟩ := prm_perm _ (ek_el n X) (el_nd n X) rfl
  exact ⟨g1, p1 _ g2, vo_of (p1 _ g2) hX, (g3 _ p2).1, (g3 _ p2).2, g4⟩
theorem sr_set {n : Nat} {x : Int32} (hn : n ≤ 9) (hs : ek_sub n x) : ¬ p_X11_isSetOfDesks (nI n) x = 0 := by
  unfold p_X11_isSetOfDesks
  rw [if_pos]
  · decide
  · apply ek_ext
    intro i hi
    rw [ek_band, ek_bxor, show ek_bt (p_X1_all (nI n)) i = decide (i < n) from ek_allb n hn i hi, ek_bm1 i hi, ek_b0]
    by_cases q : i < n
    · rw [decide_eq_true q]; simp
    · rw [hs i (by omega)]; rfl
theorem sub_and {n : Nat} {x y : Int32} (hs : ek_sub n x) : ek_sub n (x &&& y) := fun i hi => by rw [ek_band, hs i hi]; rfl
theorem sr_bc {n : Nat} {X : Int32} (hn : n ≤ 9) (hs : ek_sub n X) (h6 : (ek_el n X).length ≤ 6) : p_J6_bitCount_0f7a4 X ≤ (6 : Int32) := by
  rw [ek_bcX (ek_sub9 hn hs), ek_elpc hn hs]
  exact nI_le (b := 6) h6 (by omega)
theorem sr_readO {N n k : Nat} {S C Cn sq : Nat → Int32} {l c ln mb : Int32} {L : List Nat} (hN : 5000 ≤ N) (hn : n ≤ 9) (hk : k < 6) (a : S k = nI L.length) (h9 : L.length ≤ 9) (hvo : ek_vo n c L) (hC : ∀ j, j < L.length → C (40 * k + j) = nI (L.getD j 0)) :
    ∃ mb2 sq2, f_X11_readOrder N (40 : Int32) S C (nI n) c l ln mb sq Cn (nI k) = some (0, l, nI L.length, mb2, sq2, Cn) ∧ ek_ls L sq2 := by
  have ex : f_X11_readOrder N (40 : Int32) S C (nI n) c l ln mb sq Cn (nI k) = f_X11_readOrder_b25 N (40 : Int32) S C (nI n) c N l 0 0 sq Cn (nI k) 0 := by
    unfold f_X11_readOrder p_X3_clear; rw [sr_miss hk (by omega) a (by omega)]; simp only [nm, if_true]
  rw [ex]
  refine ek_forI (σ := Int32 × Int32 × (Nat → Int32)) (fun n2 y s => f_X11_readOrder_b25 N (40 : Int32) S C (nI n) c n2 l s.1 s.2.1 s.2.2 Cn (nI k) y) (fun j s => s.1 = nI j ∧ (∀ i, i < 9 → (ek_bt s.2.1 i = true → ∃ q, q < j ∧ L.getD q 0 = i)) ∧ ∀ q, q < j → s.2.2 q = nI (L.getD q 0)) L.length N (by omega) ?_ (0, 0, sq) ⟨rfl, fun i hi h => absurd h (by rw [ek_b0]; decide), fun q h => absurd h (by omega)⟩ (fun r => ∃ mb2 sq2, r = some (0, l, nI L.length, mb2, sq2, Cn) ∧ ek_ls L sq2) ?_
  · rintro n2 j ⟨s1, s2, s3⟩ hj ⟨i1, i2, i3⟩
    simp only at i1 i2 i3
    subst i1
    obtain ⟨v1, v2⟩ := hvo.1 j hj
    refine ⟨(nI (j + 1), s2 ||| ((1 : Int32) <<< (nI (L.getD j 0) &&& 31)), upd s3 j (nI (L.getD j 0))), ?_, rfl, ?_, ?_⟩
    · try simp only
      rw [f_X11_readOrder_b25, ek_siz S hk (by decide), a, if_neg (nI_ge hj (by omega)), show ((40 : Int32)) = nI 40 from rfl, ek_cell (P := 40) C a hk hj (by omega) rfl (by decide) (by decide) (by decide), nm_t, hC j hj, if_neg (sr_nam hn v1), ek_isC c (by omega), if_neg (show ¬ ek_bt c (L.getD j 0) = true by rw [v2]; decide), if_pos rfl]
      have hho : p_X3_holds s2 (nI (L.getD j 0)) = 0 := by
        unfold p_X3_holds
        rw [if_neg (nI_pos (by omega)), if_neg (show ¬ (9 : Int32) ≤ _ from nI_ge (b := 9) (by omega) (by omega)), ek_bits s2 (by omega)]
        cases e : ek_bt s2 (L.getD j 0)
        · rfl
        · obtain ⟨q, q1, q2⟩ := i2 _ (by omega) e
          exact absurd q2 (hvo.2 q j q1 hj)
      have hadd : f_X3_add N (nI j) s2 s3 (nI (L.getD j 0)) = some (nI (j + 1), s2 ||| ((1 : Int32) <<< (nI (L.getD j 0) &&& 31)), upd s3 j (nI (L.getD j 0))) := by
        unfold f_X3_add
        rw [if_neg (show ¬ (9 : Int32) ≤ _ from nI_ge (b := 9) (by omega) (by omega)), if_neg (nI_pos (by omega)), if_neg (show ¬ (9 : Int32) ≤ _ from nI_ge (b := 9) (by omega) (by omega)), gd_t (ek_inb (by omega) (by omega)), nI_clamp (by omega), nI_1]
      rw [hho, if_pos rfl, hadd, bn_t, nI_1]
    · intro i hi h
      rw [ek_bset s2 (by omega) (by omega)] at h
      simp only [Bool.or_eq_true, decide_eq_true_eq] at h
      rcases h with h | h
      · obtain ⟨q, q1, q2⟩ := i2 i hi h
        exact ⟨q, by omega, q2⟩
      · exact ⟨j, by omega, h⟩
    · intro q hq
      show upd s3 j _ q = _
      by_cases e : q = j
      · rw [e]; exact pk_us
      · rw [pk_un e]; exact i3 q (by omega)
  · rintro n2 ⟨s1, s2, s3⟩ ⟨i1, i2, i3⟩
    simp only at i1 i2 i3
    subst i1
    try simp only
    rw [f_X11_readOrder_b25, ek_siz S hk (by decide), a, if_pos (nI_le (Nat.le_refl _) (by omega))]
    exact ⟨_, _, rfl, i3⟩
section SEM
variable {S C TS TC : Nat → Int32} {F : Nat → Int32} {k0 : TRd} {yn : Int32} {ch : Nat → Int32} {ak : Int32} {up lo : Int64} {th : TH}
variable {n : Nat} {st ru at_ ib ho cr la na li it : Int32} {hs gi wr : Nat → Int32} {x : Int32}
theorem s_spans (hn : n ≤ 9) (hc : ek_sub n cr) (hx : ek_sub n x) (h6 : (ek_el n (x &&& (cr ^^^ (-1 : Int32)))).length ≤ 6) (h : Sem S C TS TC (nI n) F (mR st ru at_ ib ho cr la na li it hs gi wr) k0 yn ch ak up lo th) :
    ∃ R th', oR n F cr gi la na li (x &&& (cr ^^^ (-1 : Int32))) = some R ∧ o_spans th x = some (R.2.1, th') ∧ Sem S C TS TC (nI n) F (mR st ru at_ ib ho cr la na li it hs gi wr) k0 yn ch R.1 up lo th' := by
  obtain ⟨fi, fc, dr, k1, k2, lv, ba, wa, ⟨a1, a2, a3, a4, a5, a6⟩, ⟨b1, b2, b3, b4, b5, b6⟩, ca, fw, sn, s2, wh, ⟨q1, q2, q3, q4, q5, q6⟩, pk, rfl, hS, hT2⟩ := h
  obtain ⟨R, t1, t2, t3, t4, t5, t6, mb', sq', bq', f1, f2, f3, f4⟩ := ek_try (N := 5000) (F := F) (g := gi) (bq := q6) (sq := q5) (c := cr) (la := la) (na := na) (li := li) (x := x &&& (cr ^^^ (-1 : Int32))) (a1 := a1) (a2 := a2) (a3 := a3) (a4 := a4) (a5 := a5) (a6 := a6) (b1 := b1) (b2 := b2) (b3 := b3) (b4 := b4) (b5 := b5) (b6 := b6) (ln := q1) (mb := q2) (mo := q3) (le := q4) (by omega) hn hc h6
  have e : f_X11_spans 5000 (nI n) F cr la na li gi ak a1 a2 a3 a4 a5 a6 b1 b2 b3 b4 b5 b6 q1 q2 q3 q4 q5 q6 x = some (R.2.1, R.1, la, na, li, (ek_pt cr gi n).1, (ek_pt cr gi n).2.1, (ek_pt cr gi n).2.2, t1, t2, t3, t4, t5, t6, nI (ek_el n (x &&& (cr ^^^ (-1 : Int32)))).length, mb', R.1, R.2.1, sq', bq') := by
    unfold f_X11_spans p_X11_tell
    rw [if_neg (sr_set hn hx), nm_t, if_pos (sr_bc hn (sub_and hx) h6), f2, bn_t, nm_t]
  exact ⟨R, _, f1, bn_e e, _, _, _, _, _, _, _, _, (_, _, _, _, _, _), (_, _, _, _, _, _), _, _, _, _, _, (_, _, _, _, _, _), _, rfl, hS, hT2⟩
theorem s_most {R : Int32 × Int32 × List Nat} (hn : n ≤ 9) (hc : ek_sub n cr) (hx : ek_sub n x) (h6 : (ek_el n (x &&& (cr ^^^ (-1 : Int32)))).length ≤ 6) (hR : oR n F cr gi la na li (x &&& (cr ^^^ (-1 : Int32))) = some R) (hRl : R.2.2.length = (ek_el n (x &&& (cr ^^^ (-1 : Int32)))).length) (h : Sem S C TS TC (nI n) F (mR st ru at_ ib ho cr la na li it hs gi wr) k0 yn ch ak up lo th) :
    ∃ C' th', o_most th x 0 = some (R.1, th') ∧ Sem (upd S 0 (nI R.2.2.length)) C' TS TC (nI n) F (mR st ru at_ ib ho cr la na li it hs gi wr) k0 yn ch ak up lo th' ∧ ∀ j, j < R.2.2.length → C' (40 * 0 + j) = nI (R.2.2.getD j 0) := by
  obtain ⟨fi, fc, dr, k1, k2, lv, ba, wa, ⟨a1, a2, a3, a4, a5, a6⟩, ⟨b1, b2, b3, b4, b5, b6⟩, ca, fw, sn, s2, wh, ⟨q1, q2, q3, q4, q5, q6⟩, pk, rfl, hS, hT2⟩ := h
  obtain ⟨R', t1, t2, t3, t4, t5, t6, mb', sq', bq', f1, f2, f3, f4⟩ := ek_try (N := 5000) (F := F) (g := gi) (bq := q6) (sq := q5) (c := cr) (la := la) (na := na) (li := li) (x := x &&& (cr ^^^ (-1 : Int32))) (a1 := a1) (a2 := a2) (a3 := a3) (a4 := a4) (a5 := a5) (a6 := a6) (b1 := b1) (b2 := b2) (b3 := b3) (b4 := b4) (b5 := b5) (b6 := b6) (ln := q1) (mb := q2) (mo := q3) (le := q4) (by omega) hn hc h6
  have eR : R' = R := Option.some.inj (f1.symm.trans hR)
  subst eR
  have e : ∃ C', f_X11_most 5000 (40 : Int32) (nI n) F cr la na li gi S C a1 a2 a3 a4 a5 a6 b1 b2 b3 b4 b5 b6 q1 q2 q3 q4 q5 q6 x 0 = some (R'.1, upd S 0 (nI R'.2.2.length), C', la, na, li, (ek_pt cr gi n).1, (ek_pt cr gi n).2.1, (ek_pt cr gi n).2.2, t1, t2, t3, t4, t5, t6, nI R'.2.2.length, mb', R'.1, R'.2.1, sq', bq') ∧ ∀ j, j < R'.2.2.length → C' (40 * 0 + j) = nI (R'.2.2.getD j 0) := by
    have hX : f_X11_most 5000 (40 : Int32) (nI n) F cr la na li gi S C a1 a2 a3 a4 a5 a6 b1 b2 b3 b4 b5 b6 q1 q2 q3 q4 q5 q6 x 0 = f_X11_most_b69 5000 (40 : Int32) (nI n) F cr la na li gi 5000 (upd S 0 (nI R'.2.2.length)) (ek_fo (fun j s => upd s (40 * 0 + j) 0) C R'.2.2.length) la na li (ek_pt cr gi n).1 (ek_pt cr gi n).2.1 (ek_pt cr gi n).2.2 t1 t2 t3 t4 t5 t6 (nI R'.2.2.length) mb' R'.1 R'.2.1 sq' bq' 0 0 := by
      unfold f_X11_most
      rw [if_neg (show ¬ p_X7_names 6 0 = 0 by rw [show (0 : Int32) = nI 0 from rfl, ek_nam1 (by omega) (by decide)]; decide), if_neg (sr_set hn hx), nm_t, if_pos (sr_bc hn (sub_and hx) h6), f2, bn_t]
      try simp only
      rw [← hRl, show ((40 : Int32)) = nI 40 from rfl, show f_X7_make 5000 6 240 (nI 40) S C (0 : Int32) (nI R'.2.2.length) 0 = _ from ek_make (k := 0) (P := 40) (by omega) (by omega) (by omega) rfl (by decide) (by decide) (by decide), bn_t]
    rw [hX]
    refine ek_forI (fun n2 z s => f_X11_most_b69 5000 (40 : Int32) (nI n) F cr la na li gi n2 (upd S 0 (nI R'.2.2.length)) s la na li (ek_pt cr gi n).1 (ek_pt cr gi n).2.1 (ek_pt cr gi n).2.2 t1 t2 t3 t4 t5 t6 (nI R'.2.2.length) mb' R'.1 R'.2.1 sq' bq' 0 z) (fun j s => ∀ q, q < j → s (40 * 0 + q) = nI (R'.2.2.getD q 0)) R'.2.2.length 5000 (by omega) ?_ (ek_fo (fun j s => upd s (40 * 0 + j) 0) C R'.2.2.length) (fun q hq => absurd hq (by omega)) (fun r => ∃ C', r = some (R'.1, upd S 0 (nI R'.2.2.length), C', la, na, li, (ek_pt cr gi n).1, (ek_pt cr gi n).2.1, (ek_pt cr gi n).2.2, t1, t2, t3, t4, t5, t6, nI R'.2.2.length, mb', R'.1, R'.2.1, sq', bq') ∧ ∀ j, j < R'.2.2.length → C' (40 * 0 + j) = nI (R'.2.2.getD j 0)) ?_
    · intro n2 j s hj hI
      have hbest : p_X3_bestAt bq' (nI j) = nI (R'.2.2.getD j 0) := by
        unfold p_X3_bestAt
        rw [if_neg (nI_pos (by omega)), if_neg (show ¬ (9 : Int32) ≤ _ from nI_ge (b := 9) (by omega) (by omega)), nI_clamp (by omega), f3 j hj]
      refine ⟨upd s (40 * 0 + j) (nI (R'.2.2.getD j 0)), ?_, ?_⟩
      · try simp only
        rw [f_X11_most_b69, if_neg (nI_ge hj (by omega)), hbest, nm_t, show ((40 : Int32)) = nI 40 from rfl, show ∀ v, p_X7_setCell 6 240 (nI 40) (upd S 0 (nI R'.2.2.length)) s (0 : Int32) (nI j) v = upd s (40 * 0 + j) v from fun v => ek_setc (k := 0) (P := 40) s (z := R'.2.2.length) pk_us (by omega) hj (by omega) rfl (by decide) (by decide) (by decide), nI_1]
      · intro q hq
        by_cases eq : q = j
        · rw [eq]; exact pk_us
        · rw [pk_un (show 40 * 0 + q ≠ 40 * 0 + j by omega)]; exact hI q (by omega)
    · intro n2 s hI
      try simp only
      rw [f_X11_most_b69, if_pos (nI_le (Nat.le_refl _) (by omega))]
      exact ⟨s, rfl, hI⟩
  obtain ⟨C', e, hC'⟩ := e
  exact ⟨C', _, bn_e e, ⟨_, _, _, _, _, _, _, _, (_, _, _, _, _, _), (_, _, _, _, _, _), _, _, _, _, _, (_, _, _, _, _, _), _, rfl, hS, hT2⟩, hC'⟩
theorem s_order {L : List Nat} (hn : n ≤ 9) (hc : ek_sub n cr) (a : S 0 = nI L.length) (h9 : L.length ≤ 9) (hvo : ek_vo n cr L) (hC : ∀ j, j < L.length → C (40 * 0 + j) = nI (L.getD j 0)) (h : Sem S C TS TC (nI n) F (mR st ru at_ ib ho cr la na li it hs gi wr) k0 yn ch ak up lo th) :
    ∃ th', o_order th 0 = some (ek_vl la na li F (ek_pt cr gi n) L, th') ∧ Sem S C TS TC (nI n) F (mR st ru at_ ib ho cr la na li it hs gi wr) k0 yn ch ak up lo th' := by
  obtain ⟨fi, fc, dr, k1, k2, lv, ba, wa, ⟨a1, a2, a3, a4, a5, a6⟩, ⟨b1, b2, b3, b4, b5, b6⟩, ca, fw, sn, s2, wh, ⟨q1, q2, q3, q4, q5, q6⟩, pk, rfl, hS, hT2⟩ := h
  obtain ⟨mb2, sq2, r1, r2⟩ := sr_readO (k := 0) (l := fi) (Cn := fc) (sq := q5) (ln := q1) (mb := q2) (N := 5000) (by omega) hn (by omega) a h9 hvo hC
  have e : f_X11_order 5000 (40 : Int32) S C (nI n) F cr la na li gi fi a1 a2 a3 a4 a5 a6 b1 b2 b3 b4 b5 b6 q1 q2 q5 fc 0 = some (ek_vl la na li F (ek_pt cr gi n) L, fi, la, na, li, (ek_pt cr gi n).1, (ek_pt cr gi n).2.1, (ek_pt cr gi n).2.2, la, na, li, (ek_bi la na li F L (ek_pt cr gi n)).1, (ek_bi la na li F L (ek_pt cr gi n)).2.1, (ek_bi la na li F L (ek_pt cr gi n)).2.2, nI L.length, mb2, sq2, fc) := by
    unfold f_X11_order
    rw [show f_X11_readOrder 5000 (40 : Int32) S C (nI n) cr fi q1 q2 q5 fc (0 : Int32) = _ from r1, bn_t, if_pos rfl, ek_layX5 (by omega), bn_t, ek_ptn hc gi hn]
    simp only
    rw [ek_bring (by omega) hn (ek_lsn hvo) r2 h9, bn_t]
    rfl
  exact ⟨_, bn_e e, _, _, _, _, _, _, _, _, (_, _, _, _, _, _), (_, _, _, _, _, _), _, _, _, _, _, (_, _, _, _, _, _), _, rfl, hS, hT2⟩
theorem s_best {L : List Nat} (hn : n ≤ 9) (hT : ek_T la na li) (hc : ek_sub n cr) (a : S 0 = nI L.length) (h9 : L.length ≤ 9) (hvo : ek_vo n cr L) (hC : ∀ j, j < L.length → C (40 * 0 + j) = nI (L.getD j 0)) (h : Sem S C TS TC (nI n) F (mR st ru at_ ib ho cr la na li it hs gi wr) k0 yn ch ak up lo th) :
    ∃ b ak' th', b ≤ 60 ∧ o_best th 0 = some (nI b, th') ∧ Sem S C TS TC (nI n) F (mR st ru at_ ib ho cr la na li it hs gi wr) k0 yn ch ak' up lo th' ∧ ek_vl la na li F (ek_pt cr gi n) L ≤ ak' := by
  obtain ⟨fi, fc, dr, k1, k2, lv, ba, wa, ⟨a1, a2, a3, a4, a5, a6⟩, ⟨b1, b2, b3, b4, b5, b6⟩, ca, fw, sn, s2, wh, ⟨q1, q2, q3, q4, q5, q6⟩, pk, rfl, hS, hT2⟩ := h
  obtain ⟨mb2, sq2, r1, r2⟩ := sr_readO (k := 0) (l := fi) (Cn := fc) (sq := q5) (ln := q1) (mb := q2) (N := 5000) (by omega) hn (by omega) a h9 hvo hC
  have e : ∃ b ak' u1 u2 u3 u4 u5 u6 v1 v2 v3 v4 v5 v6 x1 x2 x3, b ≤ 60 ∧ f_X11_best 5000 (40 : Int32) S C (nI n) F cr la na li gi fi ak a1 a2 a3 a4 a5 a6 b1 b2 b3 b4 b5 b6 q1 q2 q5 fc 0 = some (nI b, fi, ak', u1, u2, u3, u4, u5, u6, v1, v2, v3, v4, v5, v6, x1, x2, x3, fc) ∧ ek_vl la na li F (ek_pt cr gi n) L ≤ ak' := by
    have ex : f_X11_best 5000 (40 : Int32) S C (nI n) F cr la na li gi fi ak a1 a2 a3 a4 a5 a6 b1 b2 b3 b4 b5 b6 q1 q2 q5 fc 0 = f_X11_best_b31 5000 (40 : Int32) S C (nI n) F cr la na li gi 5000 fi ak la na li (ek_pt cr gi n).1 (ek_pt cr gi n).2.1 (ek_pt cr gi n).2.2 b1 b2 b3 b4 b5 b6 (nI L.length) mb2 sq2 fc 0 (-1) 0 := by
      unfold f_X11_best
      rw [show f_X11_readOrder 5000 (40 : Int32) S C (nI n) cr fi q1 q2 q5 fc (0 : Int32) = _ from r1, bn_t, if_pos rfl, ek_layX5 (by omega), bn_t, ek_ptn hc gi hn]
    rw [ex]
    refine ek_forI (σ := Int32 × (Int32 × Int32 × Int32 × Int32 × Int32 × Int32) × Int32 × Int32) (fun n2 y s => f_X11_best_b31 5000 (40 : Int32) S C (nI n) F cr la na li gi n2 fi ak la s.1 li (ek_pt cr gi n).1 (ek_pt cr gi n).2.1 (ek_pt cr gi n).2.2 s.2.1.1 s.2.1.2.1 s.2.1.2.2.1 s.2.1.2.2.2.1 s.2.1.2.2.2.2.1 s.2.1.2.2.2.2.2 (nI L.length) mb2 sq2 fc s.2.2.1 s.2.2.2 y) (fun j s => (∃ b, b ≤ 60 ∧ s.2.2.1 = nI b) ∧ ∀ v, v < j → ek_vl la (nI v) li F (ek_pt cr gi n) L ≤ s.2.2.2) 61 5000 (by omega) ?_ (na, (b1, b2, b3, b4, b5, b6), 0, -1) ⟨⟨0, by omega, rfl⟩, fun v hv => absurd hv (by omega)⟩ (fun r => ∃ b ak' u1 u2 u3 u4 u5 u6 v1 v2 v3 v4 v5 v6 x1 x2 x3, b ≤ 60 ∧ r = some (nI b, fi, ak', u1, u2, u3, u4, u5, u6, v1, v2, v3, v4, v5, v6, x1, x2, x3, fc) ∧ ek_vl la na li F (ek_pt cr gi n) L ≤ ak') ?_
    · rintro n2 v ⟨s1, ⟨c1, c2, c3, c4, c5, c6⟩, s2, s3⟩ hv ⟨⟨b, hb, i1⟩, i2⟩
      simp only at i1 i2
      subst i1
      have hbr := ek_bring (N := 5000) (F := F) (sq := sq2) (la := la) (na := nI v) (li := li) (P := ek_pt cr gi n) (L := L) (a1 := c1) (a2 := c2) (a3 := c3) (a4 := c4) (a5 := c5) (a6 := c6) (by omega) hn (ek_lsn hvo) r2 h9
      refine ⟨(nI v, (la, nI v, li, (ek_bi la (nI v) li F L (ek_pt cr gi n)).1, (ek_bi la (nI v) li F L (ek_pt cr gi n)).2.1, (ek_bi la (nI v) li F L (ek_pt cr gi n)).2.2), (if (ek_bi la (nI v) li F L (ek_pt cr gi n)).1 - (ek_pt cr gi n).1 ≤ s3 then nI b else nI v), (if (ek_bi la (nI v) li F L (ek_pt cr gi n)).1 - (ek_pt cr gi n).1 ≤ s3 then s3 else (ek_bi la (nI v) li F L (ek_pt cr gi n)).1 - (ek_pt cr gi n).1)), ?_, ?_, ?_⟩
      · simp only
        rw [f_X11_best_b31, if_neg (show ¬ (60 : Int32) < nI v from nI_nlt (a := 60) (by omega) (by omega)), hbr, bn_t]
        unfold f_X11_best_b67
        rw [nI_1]
      · simp only
        split
        · exact ⟨b, hb, rfl⟩
        · exact ⟨v, by omega, rfl⟩
      · intro v' hv'
        simp only
        have e1 : ek_vl la (nI v) li F (ek_pt cr gi n) L = (ek_bi la (nI v) li F L (ek_pt cr gi n)).1 - (ek_pt cr gi n).1 := rfl
        rcases Nat.lt_or_ge v' v with q | q
        · split
          · exact i2 v' q
          · rename_i z
            exact Int32.le_trans (i2 v' q) (Int32.le_of_lt (Int32.not_le.mp z))
        · have : v' = v := by omega
          subst this
          rw [e1]
          split
          · assumption
          · exact Int32.le_refl _
    · rintro n2 ⟨s1, ⟨c1, c2, c3, c4, c5, c6⟩, s2, s3⟩ ⟨⟨b, hb, i1⟩, i2⟩
      simp only at i1 i2
      subst i1
      try simp only
      obtain ⟨v, hv, ev⟩ := hT.2.1
      rw [f_X11_best_b31, if_pos (show (60 : Int32) < nI 61 from nI_lt (a := 60) (by omega) (by omega)), nm_t]
      exact ⟨b, _, _, _, _, _, _, _, _, _, _, _, _, _, _, _, _, hb, rfl, by rw [ev]; exact i2 v (by omega)⟩
  obtain ⟨b, ak', u1, u2, u3, u4, u5, u6, v1, v2, v3, v4, v5, v6, x1, x2, x3, hb, e, hle⟩ := e
  exact ⟨b, ak', _, hb, bn_e e, ⟨_, _, _, _, _, _, _, _, (_, _, _, _, _, _), (_, _, _, _, _, _), _, _, _, _, _, (_, _, _, _, _, _), _, rfl, hS, hT2⟩, hle⟩
/-- who is not CROSSED, by numbers -/
theorem s_fill {v T : Nat} (hn : n ≤ 9) (hc : ek_sub n cr) (hv : v ≤ 999) (hT0 : (ek_bi la na li F ((List.range n).filter fun i => !ek_bt cr i) (ek_pt cr gi n)).1 = nI T) (hT1 : T < 100000) (h : Sem S C TS TC (nI n) F (mR st ru at_ ib ho cr la na li it hs gi wr) k0 yn ch ak up lo th) :
    ∃ th', o_fill th (nI v) = some (nI (v - T), th') ∧ Sem S C TS TC (nI n) F (mR st ru at_ ib ho cr la na li it hs gi wr) k0 yn ch ak up lo th' := by
  obtain ⟨fi, fc, dr, k1, k2, lv, ba, wa, ⟨a1, a2, a3, a4, a5, a6⟩, tr, ca, fw, sn, s2, wh, sq, pk, rfl, hS, hT2⟩ := h
  have e : ∃ u4 u5 u6, f_X11_fill 5000 (nI n) F cr la na li gi a1 a2 a3 a4 a5 a6 (nI v) = some (nI (v - T), la, na, li, u4, u5, u6) := by
    have ex : f_X11_fill 5000 (nI n) F cr la na li gi a1 a2 a3 a4 a5 a6 (nI v) = f_X11_fill_b26 5000 (nI n) F cr la na li gi 5000 la na li (ek_pt cr gi n).1 (ek_pt cr gi n).2.1 (ek_pt cr gi n).2.2 (nI v) 0 := by
      unfold f_X11_fill
      rw [if_neg (nI_pos (by omega)), if_pos (show nI v ≤ (999 : Int32) from nI_le (b := 999) hv (by omega)), ek_layX5 (by omega), bn_t, ek_ptn hc gi hn]
    rw [ex]
    refine ek_forI (σ := Int32 × Int32 × Int32) (fun n2 y s => f_X11_fill_b26 5000 (nI n) F cr la na li gi n2 la na li s.1 s.2.1 s.2.2 (nI v) y) (fun j s => s = ek_bi la na li F ((List.range j).filter fun i => !ek_bt cr i) (ek_pt cr gi n)) n 5000 (by omega) ?_ (ek_pt cr gi n) rfl (fun r => ∃ u4 u5 u6, r = some (nI (v - T), la, na, li, u4, u5, u6)) ?_
    · intro n2 k s hk hI
      have e2 : ek_bi la na li F ((List.range (k + 1)).filter fun i => !ek_bt cr i) (ek_pt cr gi n) = if ek_bt cr k then s else ek_tk s (ek_gv la na li (ek_ds F k) s) := by
        rw [List.range_succ, List.filter_append]
        unfold ek_bi at hI ⊢
        rw [List.foldl_append, ← hI]
        cases hb : ek_bt cr k
        · simp [hb]
        · simp [hb]
      refine ⟨_, ?_, rfl⟩
      rw [e2]
      try simp only
      cases hb : ek_bt cr k
      · rw [f_X11_fill_b26, if_neg (nI_ge hk (by omega)), ek_isC cr (by omega), if_neg (show ¬ ek_bt cr k = true by rw [hb]; decide), if_pos rfl, ek_gvX hn hk, bn_t, nm_t, ek_take]
        unfold f_X11_fill_b67
        rw [nI_1]
        rfl
      · rw [f_X11_fill_b26, if_neg (nI_ge hk (by omega)), ek_isC cr (by omega), if_pos hb, if_neg (by decide)]
        unfold f_X11_fill_b67
        rw [nI_1]
        rfl
    · intro n2 s hI
      try simp only
      rw [f_X11_fill_b26, if_pos (nI_le (Nat.le_refl _) (by omega)), show s.1 = nI T by rw [hI]; exact hT0]
      refine ⟨nI T, s.2.1, s.2.2, ?_⟩
      rcases Nat.lt_or_ge T v with q | q
      · rw [pk_sub (by omega), if_pos (show (0 : Int32) < nI (v - T) from nI_lt (a := 0) (by omega) (by omega))]
      · rw [if_neg (show ¬ (0 : Int32) < nI v - nI T by
          rcases Nat.lt_or_ge v T with w | w
          · exact Int32.not_lt.mpr (Int32.le_of_lt (pk_sneg (by omega) w))
          · have : v = T := by omega
            rw [this, pk_sub (Nat.le_refl _), Nat.sub_self]; decide), show v - T = 0 by omega]
        rfl
  obtain ⟨u4, u5, u6, e⟩ := e
  exact ⟨_, bn_e e, _, _, _, _, _, _, _, _, (_, _, _, _, _, _), _, _, _, _, _, _, _, _, rfl, hS, hT2⟩
end SEM
