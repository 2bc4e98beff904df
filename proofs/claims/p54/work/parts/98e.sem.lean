/-! what each call does, in words of the document: the state that can be seen; the rest is hidden -/
theorem bn_e {α β : Type} {x : Option α} {z : α} {f : α → Option β} (h : x = some z) : bn x f = f z := by rw [h]; rfl
abbrev mR (st ru at_ ib ho cr la na li it : Int32) (hs gi wr : Nat → Int32) : TRd := (st, ru, at_, ib, ho, cr, la, na, li, it, hs, gi, wr)
def Sem (S C TS TC : Nat → Int32) (nn : Int32) (F : Nat → Int32) (rd k0 : TRd) (yn : Int32) (ch : Nat → Int32) (ak : Int32) (up lo : Int64) (th : TH) : Prop :=
  ∃ (fi : Int32) (fc : Nat → Int32) (dr : TDk) (k1 k2 : TRd) (lv ba : Nat → Int32) (wa : TWa) (ly tr : TPo) (ca : TFn) (fw : TWa) (sn st : TSp) (wh : TLo) (sq : TSq) (pk : TFn),
    th = ((fi, ak, up, lo, fc), ((40 : Int32), S, C), ((100 : Int32), TS, TC), (nn, F), dr, rd, k0, k1, k2, (yn, lv, ch, ba), wa, ly, tr, ca, fw, sn, st, wh, sq, pk) ∧ ek_Sp sn.1 sn.2.2.1 sn.2.2.2 ∧ ek_Sp st.1 st.2.2.1 st.2.2.2
section SEM
variable {S C TS TC : Nat → Int32} {nn : Int32} {F : Nat → Int32} {rd k0 : TRd} {yn : Int32} {ch : Nat → Int32} {ak : Int32} {up lo : Int64} {th : TH}
variable {n : Nat} {st ru at_ ib ho cr la na li it : Int32} {hs gi wr : Nat → Int32}
theorem s_asked (h : Sem S C TS TC nn F rd k0 yn ch ak up lo th) : o_asked th = some (ak, th) := by
  obtain ⟨_, _, _, _, _, _, _, _, _, _, _, _, _, _, _, _, _, rfl, -, -⟩ := h
  rfl
theorem s_upper (h : Sem S C TS TC nn F rd k0 yn ch ak up lo th) : o_upper th = some (up, th) := by
  obtain ⟨_, _, _, _, _, _, _, _, _, _, _, _, _, _, _, _, _, rfl, -, -⟩ := h
  rfl
theorem s_lower (h : Sem S C TS TC nn F rd k0 yn ch ak up lo th) : o_lower th = some (lo, th) := by
  obtain ⟨_, _, _, _, _, _, _, _, _, _, _, _, _, _, _, _, _, rfl, -, -⟩ := h
  rfl
theorem s_lt1 (h : Sem S C TS TC nn F rd k0 yn ch ak up lo th) : o_lt th 1 = ak := by
  obtain ⟨_, _, _, _, _, _, _, _, _, _, _, _, _, _, _, _, _, rfl, -, -⟩ := h
  rfl
theorem sr_miss {K z k : Nat} {Z : Nat → Int32} {l : Int32} {Cn : Nat → Int32} (hk : k < K) (hK : K < 1000) (a : Z k = nI z) (hz : z < 1000) : p_X11_refuseMissing K Z l Cn (nI k) = (0, l, Cn) := by
  unfold p_X11_refuseMissing
  rw [ek_nam1 hk (by omega), if_neg (by decide), ek_thereH a (by omega) hk (by omega), if_neg (by decide)]
theorem sr_place {K z k i : Nat} {Z : Nat → Int32} {l : Int32} {Cn : Nat → Int32} (hk : k < K) (hK : K < 1000) (a : Z k = nI z) (hz : z < 1000) (hi : i < z) : p_X11_refusePlace K Z l Cn (nI k) (nI i) = (0, l, Cn) := by
  unfold p_X11_refusePlace
  rw [sr_miss hk hK a hz]
  simp only [nm, if_true]
  rw [ek_pl1 a hk (by omega) hi (by omega), if_neg (by decide)]
/-! texts, rows -/
theorem s_text {z : Nat} (hz : z ≤ 100) (h : Sem S C TS TC nn F rd k0 yn ch ak up lo th) : ∃ th', o_text th (3 : Int32) (nI z) = some (nI z, th') ∧ Sem S C (upd TS 3 (nI z)) (ek_fo (fun j s => upd s (100 * 3 + j) 32) TC z) nn F rd k0 yn ch ak up lo th' := by
  obtain ⟨fi, fc, dr, k1, k2, lv, ba, wa, ly, tr, ca, fw, sn, st, wh, sq, pk, rfl, h1, h2⟩ := h
  have e : f_X11_text 5000 (100 : Int32) fi TS TC fc (3 : Int32) (nI z) = some (nI z, fi, upd TS 3 (nI z), ek_fo (fun j s => upd s (100 * 3 + j) 32) TC z, fc) := by
    unfold f_X11_text
    rw [show (3 : Int32) = nI 3 from rfl, ek_nam1 (show 3 < 4 by omega) (by omega), if_neg (by decide), if_pos (show nI z ≤ (100 : Int32) from nI_le (b := 100) hz (by omega)), if_pos (nI_pos' (by omega)), show ((100 : Int32)) = nI 100 from rfl, ek_make (by omega) (show 3 < 4 by omega) hz rfl (by decide) (by decide) (by decide), bn_t]
  exact ⟨_, bn_e e, _, _, _, _, _, _, _, _, _, _, _, _, _, _, _, _, _, rfl, h1, h2⟩
theorem s_put {z i : Nat} {v : Int32} (a : TS 3 = nI z) (hz : z ≤ 100) (hi : i < z) (hb : TC (100 * 3 + i) = 32) (h : Sem S C TS TC nn F rd k0 yn ch ak up lo th) : ∃ th', o_put th (3 : Int32) (nI i) v = some (1032, th') ∧ Sem S C TS (upd TC (100 * 3 + i) v.toInt8.toInt32) nn F rd k0 yn ch ak up lo th' := by
  obtain ⟨fi, fc, dr, k1, k2, lv, ba, wa, ly, tr, ca, fw, sn, st, wh, sq, pk, rfl, h1, h2⟩ := h
  have e : p_X11_put (100 : Int32) TS fi TC fc (3 : Int32) (nI i) v = (1032, fi, upd TC (100 * 3 + i) v.toInt8.toInt32, fc) := by
    unfold p_X11_put
    rw [show (3 : Int32) = nI 3 from rfl, sr_place (show 3 < 4 by omega) (by omega) a (by omega) hi]
    simp only [nm, if_true]
    rw [show ((100 : Int32)) = nI 100 from rfl, ek_cell TC a (show 3 < 4 by omega) hi hz rfl (by decide) (by decide) (by decide), ek_setc TC a (show 3 < 4 by omega) hi hz rfl (by decide) (by decide) (by decide), hb]
    rfl
  exact ⟨_, bn_e (congrArg some e), _, _, _, _, _, _, _, _, _, _, _, _, _, _, _, _, _, rfl, h1, h2⟩
theorem s_row {k m : Nat} (hk : k < 6) (hm : m ≤ 40) (h : Sem S C TS TC nn F rd k0 yn ch ak up lo th) : ∃ th', o_row th (nI k) (nI m) = some (nI m, th') ∧ Sem (upd S k (nI m)) (ek_fo (fun j s => upd s (40 * k + j) 0) C m) TS TC nn F rd k0 yn ch ak up lo th' := by
  obtain ⟨fi, fc, dr, k1, k2, lv, ba, wa, ly, tr, ca, fw, sn, st, wh, sq, pk, rfl, h1, h2⟩ := h
  have e : f_X11_row 5000 (40 : Int32) fi S C fc (nI k) (nI m) = some (nI m, fi, upd S k (nI m), ek_fo (fun j s => upd s (40 * k + j) 0) C m, fc) := by
    unfold f_X11_row
    rw [ek_nam1 hk (by omega), if_neg (by decide), if_pos (show nI m ≤ (40 : Int32) from nI_le (b := 40) hm (by omega)), if_pos (nI_pos' (by omega)), show ((40 : Int32)) = nI 40 from rfl, ek_make (by omega) hk hm rfl (by decide) (by decide) (by decide), bn_t]
  exact ⟨_, bn_e e, _, _, _, _, _, _, _, _, _, _, _, _, _, _, _, _, _, rfl, h1, h2⟩
theorem s_lay {k z i : Nat} {v : Int32} (hk : k < 6) (a : S k = nI z) (hz : z ≤ 40) (hi : i < z) (h : Sem S C TS TC nn F rd k0 yn ch ak up lo th) : ∃ th' ak', o_lay th (nI k) (nI i) v = some (1, th') ∧ Sem S (upd C (40 * k + i) v) TS TC nn F rd k0 yn ch ak' up lo th' := by
  obtain ⟨fi, fc, dr, k1, k2, lv, ba, wa, ly, tr, ca, fw, sn, st, wh, sq, pk, rfl, h1, h2⟩ := h
  have e : p_X11_lay (40 : Int32) S fi ak C fc (nI k) (nI i) v = (1, fi, C (40 * k + i), upd C (40 * k + i) v, fc) := by
    unfold p_X11_lay
    rw [sr_place hk (by omega) a (by omega) hi]
    simp only [nm, if_true]
    rw [show ((40 : Int32)) = nI 40 from rfl, ek_cell C a hk hi hz rfl (by decide) (by decide) (by decide), ek_setc C a hk hi hz rfl (by decide) (by decide) (by decide)]
    rfl
  exact ⟨_, _, bn_e (congrArg some e), _, _, _, _, _, _, _, _, _, _, _, _, _, _, _, _, _, rfl, h1, h2⟩
/-! law, name, link, begin, where, told, coins, count -/
theorem s_law {v : Nat} (hv : v < 3) (h : Sem S C TS TC nn F (mR st ru at_ ib ho cr la na li it hs gi wr) k0 yn ch ak up lo th) : ∃ th', o_law th (nI v) = some (la, th') ∧ Sem S C TS TC nn F (mR st ru at_ ib ho cr (nI v) na li it hs gi wr) k0 yn ch ak up lo th' := by
  obtain ⟨fi, fc, dr, k1, k2, lv, ba, wa, ly, tr, ca, fw, sn, st, wh, sq, pk, rfl, h1, h2⟩ := h
  have e : p_X11_law la (nI v) = (la, nI v) := by
    unfold p_X11_law
    rw [if_neg (nI_pos (by omega)), if_pos (show nI v < (3 : Int32) from nI_lt (b := 3) hv (by omega))]
  exact ⟨_, bn_e (congrArg some e), _, _, _, _, _, _, _, _, _, _, _, _, _, _, _, _, _, rfl, h1, h2⟩
theorem s_name {v : Nat} (hv : v ≤ 60) (h : Sem S C TS TC nn F (mR st ru at_ ib ho cr la na li it hs gi wr) k0 yn ch ak up lo th) : ∃ th', o_name th (nI v) = some (na, th') ∧ Sem S C TS TC nn F (mR st ru at_ ib ho cr la (nI v) li it hs gi wr) k0 yn ch ak up lo th' := by
  obtain ⟨fi, fc, dr, k1, k2, lv, ba, wa, ly, tr, ca, fw, sn, st, wh, sq, pk, rfl, h1, h2⟩ := h
  have e : p_X11_name na (nI v) = (na, nI v) := by
    unfold p_X11_name
    rw [if_neg (nI_pos (by omega)), if_pos (show nI v ≤ (60 : Int32) from nI_le (b := 60) hv (by omega))]
  exact ⟨_, bn_e (congrArg some e), _, _, _, _, _, _, _, _, _, _, _, _, _, _, _, _, _, rfl, h1, h2⟩
theorem s_link {v : Nat} (hv : v < 2) (h : Sem S C TS TC nn F (mR st ru at_ ib ho cr la na li it hs gi wr) k0 yn ch ak up lo th) : ∃ th', o_link th (nI v) = some (li, th') ∧ Sem S C TS TC nn F (mR st ru at_ ib ho cr la na (nI v) it hs gi wr) k0 yn ch ak up lo th' := by
  obtain ⟨fi, fc, dr, k1, k2, lv, ba, wa, ly, tr, ca, fw, sn, st, wh, sq, pk, rfl, h1, h2⟩ := h
  have e : p_X11_link li (nI v) = (li, nI v) := by
    rcases (show v = 0 ∨ v = 1 by omega) with rfl | rfl
    · rfl
    · rfl
  exact ⟨_, bn_e (congrArg some e), _, _, _, _, _, _, _, _, _, _, _, _, _, _, _, _, _, rfl, h1, h2⟩
theorem sr_nam {i : Nat} (hn : n ≤ 9) (hi : i < n) : ¬ p_X1_names (nI n) (nI i) = 0 := by
  unfold p_X1_names
  rw [if_neg (nI_pos (by omega)), if_neg (nI_ge hi (by omega))]
  decide
theorem s_begin {i r : Nat} (hn : n ≤ 9) (hi : i < n) (hr : r < 3) (h : Sem S C TS TC (nI n) F (mR st ru at_ ib ho cr la na li it hs gi wr) k0 yn ch ak up lo th) : ∃ th', o_begin th (nI i) (nI r) = some (nI n, th') ∧ Sem S C TS TC (nI n) F (mR (nI i) (nI r) (nI i) 0 0 0 la na li it hs gi wr) k0 yn ch ak up lo th' := by
  obtain ⟨fi, fc, dr, k1, k2, lv, ba, wa, ly, tr, ca, fw, sn, st, wh, sq, pk, rfl, h1, h2⟩ := h
  have e : ∀ st0, p_X11_begin (nI n) st0 ru at_ ib ho cr (nI i) (nI r) = (nI n, nI i, nI r, nI i, 0, 0, 0) := by
    intro st0
    unfold p_X11_begin
    rw [if_neg (sr_nam hn hi), if_neg (nI_pos (by omega)), if_pos (show nI r < (3 : Int32) from nI_lt (b := 3) hr (by omega))]
    rfl
  exact ⟨_, bn_e (congrArg some (e _)), _, _, _, _, _, _, _, _, _, _, _, _, _, _, _, _, _, rfl, h1, h2⟩
theorem s_where (h0 : ¬ nn = 0) (hib : ib = 0 ∨ ib = 1) (h : Sem S C TS TC nn F (mR st ru at_ ib ho cr la na li it hs gi wr) k0 yn ch ak up lo th) : ∃ th', o_where th = some (at_, th') ∧ Sem S C TS TC nn F (mR st ru at_ ib ho cr la na li it hs gi wr) k0 yn ch ib up lo th' := by
  obtain ⟨fi, fc, dr, k1, k2, lv, ba, wa, ly, tr, ca, fw, sn, st, wh, sq, pk, rfl, h1, h2⟩ := h
  have e : p_X11_where nn at_ ib ak = (at_, ib) := by
    unfold p_X11_where
    rw [if_neg h0]
    rcases hib with q | q
    · rw [if_pos q, q]; rfl
    · rw [if_neg (by rw [q]; decide), q]; rfl
  exact ⟨_, bn_e (congrArg some e), _, _, _, _, _, _, _, _, _, _, _, _, _, _, _, _, _, rfl, h1, h2⟩
theorem s_told {i w : Nat} (hn : n ≤ 9) (hi : i < n) (hw : w ≤ 3) (h : Sem S C TS TC (nI n) F (mR st ru at_ ib ho cr la na li it hs gi wr) k0 yn ch ak up lo th) : ∃ th', o_told th (nI i) (nI w) = some (1, th') ∧ Sem S C TS TC (nI n) F (mR st ru at_ ib ho cr la na li it hs gi wr) k0 yn ch (if w = 0 then (if ek_bt cr i then 1 else 0) else if ek_bt cr i then (if w = 1 then hs i else if w = 2 then gi i else wr i) else -9) up lo th' := by
  obtain ⟨fi, fc, dr, k1, k2, lv, ba, wa, ly, tr, ca, fw, sn, st, wh, sq, pk, rfl, h1, h2⟩ := h
  have e : f_X11_told 5000 (nI n) cr hs gi wr ak (nI i) (nI w) = some (1, if w = 0 then (if ek_bt cr i then 1 else 0) else if ek_bt cr i then (if w = 1 then hs i else if w = 2 then gi i else wr i) else -9) := by
    unfold f_X11_told
    rw [if_neg (sr_nam hn hi), if_neg (nI_pos (by omega)), if_pos (show nI w < (4 : Int32) from nI_lt (b := 4) (by omega) (by omega)), ek_toldX (by omega) hw, bn_t]
    rfl
  exact ⟨_, bn_e e, _, _, _, _, _, _, _, _, _, _, _, _, _, _, _, _, _, rfl, h1, h2⟩
theorem s_coins (hn : n ≤ 9) (hc : ek_sub n cr) (h : Sem S C TS TC nn F (mR st ru at_ ib ho cr la na li it hs gi wr) k0 yn ch ak up lo th) : ∃ th' ak', o_coins th = some ((ek_pt cr gi n).1, th') ∧ Sem S C TS TC nn F (mR st ru at_ ib ho cr la na li it hs gi wr) k0 yn ch ak' up lo th' := by
  obtain ⟨fi, fc, dr, k1, k2, lv, ba, wa, ⟨a1, a2, a3, a4, a5, a6⟩, tr, ca, fw, sn, st, wh, sq, pk, rfl, h1, h2⟩ := h
  have e : f_X11_coins 5000 cr la na li gi ak a1 a2 a3 a4 a5 a6 = some ((ek_pt cr gi n).1, ek_nv cr gi 9, la, na, li, (ek_pt cr gi 9).1, (ek_pt cr gi 9).2.1, (ek_pt cr gi 9).2.2) := by
    unfold f_X11_coins
    rw [ek_layX5 (by omega), bn_t, ek_nvX (by omega), bn_t, ← ek_ptn hc gi hn]; rfl
  exact ⟨_, _, bn_e e, _, _, _, _, _, _, _, _, _, _, _, _, _, _, _, _, _, rfl, h1, h2⟩
theorem s_count1 (hn : n ≤ 9) (hc : ek_sub n cr) (h : Sem S C TS TC nn F (mR st ru at_ ib ho cr la na li it hs gi wr) k0 yn ch ak up lo th) : o_count th 1 = some (ek_pc cr, th) := by
  obtain ⟨fi, fc, dr, k1, k2, lv, ba, wa, ly, tr, ca, fw, sn, st, wh, sq, pk, rfl, h1, h2⟩ := h
  show bn (f_X11_count 5000 S TS nn F ho cr k0.2.2.2.2.1 _ _ _ _ _ yn 1) _ = _
  unfold f_X11_count
  rw [if_neg (by decide), if_pos rfl, ek_bcX (ek_sub9 hn hc)]
  rfl
theorem s_count2 (h : Sem S C TS TC nn F (mR st ru at_ ib ho cr la na li it hs gi wr) k0 yn ch ak up lo th) : o_count th 2 = some (ho, th) := by
  obtain ⟨fi, fc, dr, k1, k2, lv, ba, wa, ly, tr, ca, fw, sn, st, wh, sq, pk, rfl, h1, h2⟩ := h
  show bn (f_X11_count 5000 S TS nn F ho cr k0.2.2.2.2.1 _ _ _ _ _ yn 2) _ = _
  unfold f_X11_count
  rw [if_neg (by decide), if_neg (by decide), if_pos rfl]
  rfl
/-! keep, on -/
theorem s_keep (h0 : ¬ nn = 0) (hib : ib = 0 ∨ ib = 1) (h : Sem S C TS TC nn F (mR st ru at_ ib ho cr la na li it hs gi wr) k0 yn ch ak up lo th) : ∃ th' hs' gi' wr', o_keep th 0 = some (ho, th') ∧ Sem S C TS TC nn F (mR st ru at_ ib ho cr la na li it hs gi wr) (mR st ru at_ ib ho cr la na li 1 hs' gi' wr') yn ch ak up lo th' ∧ ∀ i, i < 9 → hs' i = hs i ∧ gi' i = gi i ∧ wr' i = wr i := by
  obtain ⟨b1, b2, b3, b4, b5, b6, b7, b8, b9, b10, b11, b12, b13⟩ := k0
  obtain ⟨fi, fc, dr, k1, k2, lv, ba, wa, ly, tr, ca, fw, sn, s2, wh, sq, pk, rfl, h1, h2⟩ := h
  obtain ⟨hs', gi', wr', e1, e9⟩ := ek_cpX6 (N := 5000) (st := st) (ru := ru) (at_ := at_) (ho := ho) (cr := cr) (la := la) (na := na) (li := li) (hs := hs) (gi := gi) (wr := wr) (a1 := b1) (a2 := b2) (a3 := b3) (a4 := b4) (a5 := b5) (a6 := b6) (a7 := b7) (a8 := b8) (a9 := b9) (h2 := b11) (g2 := b12) (w2 := b13) (by omega) hib
  have e : f_X11_keep 5000 nn st ru at_ ib ho cr la na li hs gi wr b1 b2 b3 b4 b5 b6 b7 b8 b9 b10 b11 b12 b13 k1.1 k1.2.1 k1.2.2.1 k1.2.2.2.1 k1.2.2.2.2.1 k1.2.2.2.2.2.1 k1.2.2.2.2.2.2.1 k1.2.2.2.2.2.2.2.1 k1.2.2.2.2.2.2.2.2.1 k1.2.2.2.2.2.2.2.2.2.1 k1.2.2.2.2.2.2.2.2.2.2.1 k1.2.2.2.2.2.2.2.2.2.2.2.1 k1.2.2.2.2.2.2.2.2.2.2.2.2 k2.1 k2.2.1 k2.2.2.1 k2.2.2.2.1 k2.2.2.2.2.1 k2.2.2.2.2.2.1 k2.2.2.2.2.2.2.1 k2.2.2.2.2.2.2.2.1 k2.2.2.2.2.2.2.2.2.1 k2.2.2.2.2.2.2.2.2.2.1 k2.2.2.2.2.2.2.2.2.2.2.1 k2.2.2.2.2.2.2.2.2.2.2.2.1 k2.2.2.2.2.2.2.2.2.2.2.2.2 0 = some (ho, st, ru, at_, ib, ho, cr, la, na, li, 1, hs', gi', wr', k1.1, k1.2.1, k1.2.2.1, k1.2.2.2.1, k1.2.2.2.2.1, k1.2.2.2.2.2.1, k1.2.2.2.2.2.2.1, k1.2.2.2.2.2.2.2.1, k1.2.2.2.2.2.2.2.2.1, k1.2.2.2.2.2.2.2.2.2.1, k1.2.2.2.2.2.2.2.2.2.2.1, k1.2.2.2.2.2.2.2.2.2.2.2.1, k1.2.2.2.2.2.2.2.2.2.2.2.2, k2.1, k2.2.1, k2.2.2.1, k2.2.2.2.1, k2.2.2.2.2.1, k2.2.2.2.2.2.1, k2.2.2.2.2.2.2.1, k2.2.2.2.2.2.2.2.1, k2.2.2.2.2.2.2.2.2.1, k2.2.2.2.2.2.2.2.2.2.1, k2.2.2.2.2.2.2.2.2.2.2.1, k2.2.2.2.2.2.2.2.2.2.2.2.1, k2.2.2.2.2.2.2.2.2.2.2.2.2) := by
    unfold f_X11_keep
    rw [if_pos rfl, if_neg h0, e1, bn_t]
  exact ⟨_, _, _, _, bn_e e, ⟨_, _, _, _, _, _, _, _, _, _, _, _, _, _, _, _, _, rfl, h1, h2⟩, e9⟩
theorem s_on {kst kru kat kib kho kcr kla kna kli : Int32} {khs kgi kwr : Nat → Int32} (hib : kib = 0 ∨ kib = 1) (h : Sem S C TS TC nn F (mR st ru at_ ib ho cr la na li it hs gi wr) (mR kst kru kat kib kho kcr kla kna kli 1 khs kgi kwr) yn ch ak up lo th) : ∃ th' hs' gi' wr', o_on th 0 = some (kho, th') ∧ Sem S C TS TC nn F (mR kst kru kat kib kho kcr kla kna kli it hs' gi' wr') (mR kst kru kat kib kho kcr kla kna kli 1 khs kgi kwr) yn ch ak up lo th' ∧ ∀ i, i < 9 → hs' i = khs i ∧ gi' i = kgi i ∧ wr' i = kwr i := by
  obtain ⟨fi, fc, dr, k1, k2, lv, ba, wa, ly, tr, ca, fw, sn, s2, wh, sq, pk, rfl, h1, h2⟩ := h
  obtain ⟨hs', gi', wr', e1, e9⟩ := ek_cpX6 (N := 5000) (st := kst) (ru := kru) (at_ := kat) (ho := kho) (cr := kcr) (la := kla) (na := kna) (li := kli) (hs := khs) (gi := kgi) (wr := kwr) (a1 := st) (a2 := ru) (a3 := at_) (a4 := ib) (a5 := ho) (a6 := cr) (a7 := la) (a8 := na) (a9 := li) (h2 := hs) (g2 := gi) (w2 := wr) (by omega) hib
  have e : f_X11_on 5000 kst kru kat kib kho kcr kla kna kli 1 khs kgi kwr k1.1 k1.2.1 k1.2.2.1 k1.2.2.2.1 k1.2.2.2.2.1 k1.2.2.2.2.2.1 k1.2.2.2.2.2.2.1 k1.2.2.2.2.2.2.2.1 k1.2.2.2.2.2.2.2.2.1 k1.2.2.2.2.2.2.2.2.2.1 k1.2.2.2.2.2.2.2.2.2.2.1 k1.2.2.2.2.2.2.2.2.2.2.2.1 k1.2.2.2.2.2.2.2.2.2.2.2.2 k2.1 k2.2.1 k2.2.2.1 k2.2.2.2.1 k2.2.2.2.2.1 k2.2.2.2.2.2.1 k2.2.2.2.2.2.2.1 k2.2.2.2.2.2.2.2.1 k2.2.2.2.2.2.2.2.2.1 k2.2.2.2.2.2.2.2.2.2.1 k2.2.2.2.2.2.2.2.2.2.2.1 k2.2.2.2.2.2.2.2.2.2.2.2.1 k2.2.2.2.2.2.2.2.2.2.2.2.2 fi st ru at_ ib ho cr la na li hs gi wr fc 0 = some (kho, fi, kst, kru, kat, kib, kho, kcr, kla, kna, kli, hs', gi', wr', fc) := by
    unfold f_X11_on
    rw [if_pos rfl, if_neg (by decide), e1, bn_t]
  exact ⟨_, _, _, _, bn_e e, ⟨_, _, _, _, _, _, _, _, _, _, _, _, _, _, _, _, _, rfl, h1, h2⟩, e9⟩
/-! years -/
theorem s_forget0 {y : Nat} (hy : y ≤ 40) (h : Sem S C TS TC nn F rd k0 (nI y) ch ak up lo th) : ∃ th', o_forget th 0 = some (nI y, th') ∧ Sem S C TS TC nn F rd k0 0 ch ak up lo th' := by
  obtain ⟨fi, fc, dr, k1, k2, lv, ba, wa, ly, tr, ca, fw, sn, s2, wh, sq, pk, rfl, h1, h2⟩ := h
  have e : p_X11_forget (nI y) 0 = (nI y, 0) := by
    unfold p_X11_forget
    rw [if_neg (by decide), if_pos (nI_pos' (by omega))]
    simp only [nm]
    rw [Int32.sub_zero]
  exact ⟨_, bn_e (congrArg some e), _, _, _, _, _, _, _, _, _, _, _, _, _, _, _, _, _, rfl, h1, h2⟩
theorem s_balance {y i : Nat} (hn : n ≤ 9) (hi : i < n) (hy : y ≤ 40) (h : Sem S C TS TC (nI n) F rd k0 (nI y) ch ak up lo th) : ∃ th', o_balance th (nI i) = some (1, th') ∧ Sem S C TS TC (nI n) F rd k0 (nI y) ch (ek_ba ch y i) up lo th' := by
  obtain ⟨fi, fc, dr, k1, k2, lv, ba, wa, ly, tr, ca, fw, sn, s2, wh, sq, pk, rfl, h1, h2⟩ := h
  have e : f_X11_balance 5000 (nI n) (nI y) ch ak (nI i) = some (1, ek_ba ch y i) := by
    unfold f_X11_balance
    rw [if_neg (sr_nam hn hi), ek_baX (by omega) hy (by omega), bn_t]
    rfl
  exact ⟨_, bn_e e, _, _, _, _, _, _, _, _, _, _, _, _, _, _, _, _, _, rfl, h1, h2⟩
end SEM
