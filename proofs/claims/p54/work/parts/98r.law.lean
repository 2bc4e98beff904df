/-! the law: from its first line -/
def JJ (n s0 ru : Nat) (F : Nat → Int32) (la na li : Int32) (khs kgi kwr : Nat → Int32) (x4 : Int32) (h : Nat) (s : GSt) : Prop :=
  x4 = 0 ∨ ((∀ i, i < n → ¬ ek_ds F i 0 = 2) ∧ ∀ hs' gi' wr' : Nat → Int32, (∀ i, i < 9 → hs' i = khs i ∧ gi' i = kgi i ∧ wr' i = kwr i) → Eq9 (gI n F (nI s0) (nI ru) la na li 0 ((s0, 0, nI 0, hs', gi', wr'), lN 77) h).1 s)
theorem JJs {n s0 ru h : Nat} {F khs kgi kwr : Nat → Int32} {la na li x4 : Int32} {s : GSt} {sd : Int64} (hy : Hy n s0 ru F la na li) (hJ : JJ n s0 ru F la na li khs kgi kwr x4 h s) : JJ n s0 ru F la na li khs kgi kwr x4 (h + 1) (hG n F (nI s0) (nI ru) la na li (nI h) (s, sd)).1 := by
  obtain ⟨y1, y2, y3, y4, y5, y6⟩ := hy
  rcases hJ with q | ⟨q1, q2⟩
  · exact Or.inl q
  · refine Or.inr ⟨q1, fun hs' gi' wr' e => ?_⟩
    have hV0 : GV n s0 (s0, 0, nI 0, hs', gi', wr') := ⟨y5, Or.inl rfl, ek_B0, fun q => absurd q (by simp)⟩
    have hv := gIv (h0 := 0) (ru := nI ru) (s := ((s0, 0, nI 0, hs', gi', wr'), lN 77)) (by omega) y3 y4 y5 hV0 h
    show Eq9 (hG n F (nI s0) (nI ru) la na li (nI (0 + h)) (gI n F (nI s0) (nI ru) la na li 0 ((s0, 0, nI 0, hs', gi', wr'), lN 77) h)).1 _
    rw [Nat.zero_add]
    exact hGe (ho := nI h) (ru := nI ru) (t := (s, sd)) (show n ≤ 9 by omega) q1 hv.1 (q2 hs' gi' wr' e)
section LAW
variable {S C TS TC F ch khs kgi kwr d xs : Nat → Int32} {la na li it x4 : Int32} {up lo : Int64} {s : GSt} {n s0 ru L : Nat}
theorem L212 (hy : Hy n s0 ru F la na li) :
    ∀ r h n1 (th : TH) (ak : Int32) (pu : Nat → Int32) (s : GSt), r + h = 12 → r < n1 → GV n s0 s → JJ n s0 ru F la na li khs kgi kwr x4 h s → (∀ i, i < n → ek_bt s.2.2.1 i = true → pu i = s.2.2.2.2.1 i) → (1 ≤ h → ∀ i, i < n → pu i = if ek_bt s.2.2.1 i then s.2.2.2.2.1 i else -9) → Sem S C TS TC (nI n) F (rS s0 ru la na li it h s) (kS s0 ru la na li khs kgi kwr) (nI 0) ch ak up lo th →
      f_L_law_b212 5000 L xs (f_L_law_b522 5000 L xs) n1 th pu d (nI n) x4 (nI s0) s.2.2.1 s.2.1 (nI h) = some 1 := by
  obtain ⟨y1, y2, y3, y4, y5, y6⟩ := id hy
  have hn9 : n ≤ 9 := by omega
  intro r
  induction r with
  | zero =>
    intro h n1 th ak pu s hr h1 hV hJ hp1 hp2 hM
    obtain ⟨n1, rfl⟩ : ∃ q, n1 = q + 1 := ⟨n1 - 1, by omega⟩
    obtain rfl : h = 12 := by omega
    rw [f_L_law_b212, if_pos (show (12 : Int32) ≤ nI 12 by decide)]
    refine L522 hy hV ?_ hM
    rcases hJ with q | ⟨q1, q2⟩
    · exact Or.inl q
    · refine Or.inr (fun hs' gi' wr' e i hi => ?_)
      obtain ⟨e1, e2, e3, e4⟩ := q2 hs' gi' wr' e
      rw [hp2 (by omega) i hi, e3, (e4 i (by omega)).1]
  | succ r ih =>
    intro h n1 th ak pu s hr h1 hV hJ hp1 hp2 hM
    obtain ⟨n1, rfl⟩ : ∃ q, n1 = q + 1 := ⟨n1 - 1, by omega⟩
    obtain ⟨w, hw, e0⟩ := low_ok (N := 5000) (o_cell L xs (13 + nI h)) (100000 : Int32) 100000 (by omega) (by omega) rfl
    obtain ⟨th1, s', hs', o1, m1⟩ : ∃ th1 s', s' = (hG n F (nI s0) (nI ru) la na li (nI h) (s, lN (1 + w))).1 ∧ o_go th 1 (nI (1 + w)) = some (nI (h + 1), th1) ∧ Sem S C TS TC (nI n) F (rS s0 ru la na li it (h + 1) s') (kS s0 ru la na li khs kgi kwr) (nI 0) ch ak up lo th1 := by
      obtain ⟨th1, o1, m1⟩ := s_go (h0 := h) (x := 1) (sd := 1 + w) hn9 y3 y4 y5 hV (by omega) (by omega) (by omega) (by omega) hM
      exact ⟨th1, _, rfl, o1, m1⟩
    obtain ⟨v1, v2, v3, v4⟩ := hGv (ho := nI h) (ru := nI ru) (s := (s, lN (1 + w))) hn9 y3 y4 y5 hV
    have hJ' := JJs (sd := lN (1 + w)) hy hJ
    rw [← hs'] at v1 v2 v3 v4 hJ'
    clear hs'
    obtain ⟨p1, c1, cr, hs, gi, wr⟩ := s'
    obtain ⟨u1, u2, u3, u4⟩ := id v1
    obtain ⟨th2, o2, m2⟩ := s_where (nI_ne0 (show 0 < n by omega) (by omega)) u2 m1
    rw [f_L_law_b212, if_neg (show ¬ (12 : Int32) ≤ nI h from nI_ge (b := 12) (by omega) (by omega)), gd_t (show ¬ (13 : Int32) + nI h < 0 by rw [show (13 : Int32) + nI h = nI (13 + h) from nI_add 13 h]; exact nI_pos (by omega))]
    rw [e0, bn_t, show (1 : Int32) + nI w = nI (1 + w) from nI_add 1 w, o1, bn_t, if_pos (show nI (h + 1) = nI h + 1 from (nI_1 h).symm), o2, bn_t, s_asked m2, bn_t]
    have hc1 : (if c1 = (1 : Int32) then (1 : Int32) else 0) = c1 := by
      rcases u2 with q | q
      · have q : c1 = 0 := q
        rw [q]; rfl
      · have q : c1 = 1 := q
        rw [q]; rfl
    have hc1' : c1 = 0 ∨ c1 = 1 := u2
    unfold f_L_law_b268
    rw [show (if (c1, th2).1 = (1 : Int32) then (1 : Int32) else 0) = c1 from hc1]
    refine L279 (cr := cr) (pu0 := pu) (h := h) hn9 u3 (fun i hi hb => ⟨(v2 i hi hb).1, by rw [hp1 i hi hb]; exact (v2 i hi hb).2.symm⟩) v3 ?_ n 0 5000 th2 _ pu 0 0 (by omega) (by omega) (fun j _ => by rw [ek_b0, decide_eq_false (by omega)]; rfl) rfl (fun j hj => absurd hj (by omega)) (fun j _ => rfl) m2
    intro th3 ak3 pu3 hpu3 m3
    refine L441 hn9 u1 u3.1 ?_ ?_ (fun th4 ak4 m4 => ?_) m3
    · rcases hV.2.1 with q | q
      · exact Or.inl q
      · refine Or.inr ?_
        have : c1 = 1 := v4 q
        rw [this]; decide
    · rcases hc1' with q | q
      · exact Or.inl q
      · exact Or.inr (u4 q)
    · exact ih (h + 1) n1 th4 ak4 pu3 (p1, c1, cr, hs, gi, wr) (by omega) (by omega) v1 hJ' (fun i hi hb => by rw [hpu3 i hi, if_pos hb]) (fun _ => hpu3) m4
theorem L151 {kst kru kat kib kho kcr kla kna kli kit st ru' at_ ib ho cr : Int32} {hs gi wr : Nat → Int32} {ak : Int32} {th : TH} (hn1 : 1 ≤ n) (hn7 : n ≤ 7) (hw : ∀ i, i < n → ek_wf (ek_ds F i)) (hT : ek_T la na li) (h4 : x4 = 0 ∨ ∀ i, i < n → ¬ ek_ds F i 0 = 2) (hM : Sem S C TS TC (nI n) F (mR st ru' at_ ib ho cr la na li it hs gi wr) (mR kst kru kat kib kho kcr kla kna kli kit khs kgi kwr) (nI 0) ch ak up lo th) :
    f_L_law_b151 5000 L xs th d (nI n) x4 = some 1 := by
  have hn9 : n ≤ 9 := by omega
  obtain ⟨r, hr, e1⟩ := low_ok (N := 5000) (o_cell L xs 11) (3 : Int32) 3 (by omega) (by omega) rfl
  obtain ⟨i, hi, e2⟩ := low_ok (N := 5000) (o_cell L xs 12) (nI n) n (by omega) (by omega) rfl
  obtain ⟨th1, o1, m1⟩ := s_begin hn9 hi hr hM
  obtain ⟨th2, khs2, kgi2, kwr2, o2, m2, e9⟩ := s_keep (nI_ne0 (show 0 < n by omega) (by omega)) (Or.inl rfl) m1
  unfold f_L_law_b151
  rw [e1, bn_t, e2, bn_t, o1, bn_t, if_pos (by rfl), o2, bn_t, if_pos (by rfl)]
  have hy : Hy n i r F la na li := ⟨hn1, hn7, hw, hT, hi, hr⟩
  have hV : GV n i (i, 0, 0, hs, gi, wr) := ⟨hi, Or.inl rfl, ek_B0, fun q => absurd q (by simp)⟩
  refine L212 (s0 := i) (ru := r) (khs := khs2) (kgi := kgi2) (kwr := kwr2) hy 12 0 5000 th2 _ (fun _ => 0) (i, 0, 0, hs, gi, wr) (by omega) (by omega) hV ?_ (fun j hj hb => by rw [ek_b0] at hb; cases hb) (fun q => absurd q (by omega)) m2
  rcases h4 with q | q
  · exact Or.inl q
  · refine Or.inr ⟨q, fun hs' gi' wr' e => ⟨rfl, rfl, rfl, fun j hj => ?_⟩⟩
    obtain ⟨f1, f2, f3⟩ := e j hj
    obtain ⟨g1, g2, g3⟩ := e9 j hj
    exact ⟨(f2.trans g2).symm, (f3.trans g3).symm, (f1.trans g1).symm⟩
theorem L116 {rd k0 : TRd} {ak : Int32} {th : TH} (hn7 : n ≤ 7) (hd : ∀ i, i < n → d (6 * i) = ek_ds F i 0) (hE : ∀ x4, (x4 = 0 ∨ ∀ i, i < n → ¬ ek_ds F i 0 = 2) → f_L_law_b151 5000 L xs th d (nI n) x4 = some 1) :
    ∀ r i n1 (x4 : Int32), r + i = n → r < n1 → (x4 = 0 ∨ ∀ j, j < i → ¬ ek_ds F j 0 = 2) → f_L_law_b116 5000 L xs (f_L_law_b151 5000 L xs) n1 th d (nI n) x4 (nI i) = some 1 := by
  intro r
  induction r with
  | zero =>
    intro i n1 x4 hr h1 h4
    obtain ⟨n1, rfl⟩ : ∃ q, n1 = q + 1 := ⟨n1 - 1, by omega⟩
    obtain rfl : i = n := by omega
    rw [f_L_law_b116, if_pos (nI_le (by omega) (by omega))]
    exact hE x4 h4
  | succ r ih =>
    intro i n1 x4 hr h1 h4
    obtain ⟨n1, rfl⟩ : ∃ q, n1 = q + 1 := ⟨n1 - 1, by omega⟩
    have e6 : (6 : Int32) * nI i = nI (6 * i) := (Int32.ofNat_mul 6 i).symm
    rw [f_L_law_b116, if_neg (nI_ge (by omega) (by omega))]
    by_cases z : x4 = 0
    · rw [if_pos z]
      unfold f_L_law_b143
      rw [nI_1]
      exact ih (i + 1) n1 0 (by omega) (by omega) (Or.inl rfl)
    · rw [if_neg z, e6, gd_t (ek_inb (by omega) (by omega)), nI_clamp (by omega), hd i (by omega)]
      unfold f_L_law_b143
      rw [nI_1]
      by_cases y : ek_ds F i 0 = 2
      · rw [if_pos y]
        exact ih (i + 1) n1 0 (by omega) (by omega) (Or.inl rfl)
      · rw [if_neg y]
        refine ih (i + 1) n1 1 (by omega) (by omega) (Or.inr (fun j hj => ?_))
        by_cases e : j = i
        · rw [e]; exact y
        · exact h4.resolve_left z j (by omega)
theorem ek_S00 : ek_Sp 0 (fun _ => (0 : Int64)) (fun _ => (0 : Int32)) := ⟨0, fun _ => 0, fun _ => 0, rfl, fun k hk => absurd hk (by omega), fun i j hi => absurd hi (by omega), fun _ _ => rfl, fun q _ h => absurd h (Nat.lt_irrefl 0)⟩
theorem sem0 : ∃ S TS, Sem S (fun _ => 0) TS (fun _ => 0) 0 (fun _ => 0) (mR 0 0 0 0 0 0 0 0 0 0 (fun _ => 0) (fun _ => 0) (fun _ => 0)) (mR 0 0 0 0 0 0 0 0 0 0 (fun _ => 0) (fun _ => 0) (fun _ => 0)) 0 (fun _ => 0) 0 0 1 th0 :=
  ⟨_, _, _, _, _, _, _, _, _, _, _, _, _, _, _, _, _, _, _, rfl, ek_S00, ek_S00⟩
theorem L85 {kst kru kat kib kho kcr kla kna kli kit st ru' at_ ib ho cr : Int32} {hs gi wr : Nat → Int32} {ak : Int32} {th : TH} {w v : Nat} (hn1 : 1 ≤ n) (hn7 : n ≤ 7) (hw : ∀ i, i < n → ek_wf (ek_ds F i)) (hd : ∀ i, i < n → d (6 * i) = ek_ds F i 0) (hv : v ≤ 60) (hr : w < 3) (hM : Sem S C TS TC (nI n) F (mR st ru' at_ ib ho cr (nI w) 0 0 it hs gi wr) (mR kst kru kat kib kho kcr kla kna kli kit khs kgi kwr) (nI 0) ch ak up lo th) :
    f_L_law_b85 5000 L xs th d (nI n) (nI v) = some 1 := by
  obtain ⟨r, hr2, e1⟩ := low_ok (N := 5000) (o_cell L xs 10) (2 : Int32) 2 (by omega) (by omega) rfl
  obtain ⟨th1, o1, m1⟩ := s_name hv hM
  obtain ⟨th2, o2, m2⟩ := s_link hr2 m1
  have hT : ek_T (nI w) (nI v) (nI r) := by
    refine ⟨?_, ⟨v, hv, rfl⟩, ?_⟩
    · rcases (show w = 0 ∨ w = 1 ∨ w = 2 by omega) with rfl | rfl | rfl
      · exact Or.inl rfl
      · exact Or.inr (Or.inl rfl)
      · exact Or.inr (Or.inr rfl)
    · rcases (show r = 0 ∨ r = 1 by omega) with rfl | rfl
      · exact Or.inl rfl
      · exact Or.inr rfl
  unfold f_L_law_b85
  rw [o1, bn_t, if_pos (by rfl), e1, bn_t, o2, bn_t, if_pos (by rfl)]
  exact L116 (rd := mR st ru' at_ ib ho cr (nI w) 0 0 it hs gi wr) (k0 := mR st ru' at_ ib ho cr (nI w) 0 0 it hs gi wr) (ak := ak) hn7 hd (fun x4 h4 => L151 hn1 hn7 hw hT h4 m2) n 0 5000 1 (by omega) (by omega) (Or.inr (fun j hj => absurd hj (by omega)))
theorem law_true (hL : L ≤ 260) : f_L_law 5000 L xs th0 = some 1 := by
  obtain ⟨S, TS, hM⟩ := sem0
  obtain ⟨r, hr, e1⟩ := low_ok (N := 5000) (o_cell L xs 0) (7 : Int32) 7 (by omega) (by omega) rfl
  obtain ⟨TS', TC', F', d', th1, o1, m1, f1, f2⟩ := of_all (n := 1 + r) (L := L) (xs := xs) (by omega) hM
  obtain ⟨w, hw, e2⟩ := low_ok (N := 5000) (o_cell L xs 8) (3 : Int32) 3 (by omega) (by omega) rfl
  obtain ⟨th2, o2, m2⟩ := s_law hw m1
  obtain ⟨y, hy, e3⟩ := low_ok (N := 5000) (o_cell L xs 9) (3 : Int32) 3 (by omega) (by omega) rfl
  obtain ⟨z, hz, e4⟩ := low_ok (N := 5000) ((o_cell L xs 9) >>> ((4 : Int32) &&& 31)) (20 : Int32) 20 (by omega) (by omega) rfl
  unfold f_L_law
  rw [e1, bn_t, nm_t, show (1 : Int32) + nI r = nI (1 + r) from nI_add 1 r, o1, bn_t, if_neg (show ¬ (1 : Int32) = 0 by decide), e2, bn_t, o2, bn_t, if_pos (by rfl), e3, bn_t]
  by_cases q : nI y = 0
  · rw [if_pos q, e4, bn_t]
    exact L85 (n := 1 + r) (by omega) (by omega) f1 f2 (by omega) hw m2
  · rw [if_neg q]
    exact L85 (n := 1 + r) (v := 0) (by omega) (by omega) f1 f2 (by omega) hw m2
end LAW
