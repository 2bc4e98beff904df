/-! the law's draws; the office that it draws and tells -/
theorem low_ok {N : Nat} (x m : Int32) (k : Nat) (h0 : 0 < k) (hk : k < 2 ^ 31) (e : m = nI k) : ∃ r, r < k ∧ f_L_low N x m = some (nI r) := by
  subst e
  unfold f_L_low
  refine ⟨x.toBitVec.toNat % 2 ^ 31 % k, Nat.mod_lt _ h0, ?_⟩
  have ea : x &&& (2147483647 : Int32) = nI (x.toBitVec.toNat % 2 ^ 31) := pk_and x 31 (by decide)
  rw [gd_t (nI_ne0 h0 hk), ea, pk_rem (Nat.mod_lt _ (by decide)) h0 hk]
theorem bits_ok {N : Nat} (hN : 5000 ≤ N) (x : Int32) : f_L_bits N x = some (ek_pc x) := by
  unfold f_L_bits
  refine ek_forI (fun n2 y s => f_L_bits_b4 N n2 x s y) (fun j s => s = ek_s (fun k => if ek_bt x k then 1 else 0) j) 12 N (by omega) ?_ 0 rfl (fun r => r = some (ek_pc x)) ?_
  · intro n2 j s hj hI
    refine ⟨_, ?_, rfl⟩
    subst hI
    try simp only
    rw [f_L_bits_b4, if_neg (show ¬ (12 : Int32) ≤ nI j from nI_ge (b := 12) hj (by omega)), ek_bits x (by omega), nI_1, nm_t]
    rfl
  · intro n2 s hI
    subst hI
    try simp only
    rw [f_L_bits_b4, if_pos (show (12 : Int32) ≤ nI 12 from nI_le (a := 12) (Nat.le_refl _) (by omega))]
    rfl
theorem dk_ext {kd : Nat} {f g : Nat → Int32} (h : dkOk kd f) (e : ∀ v, v < 6 → g v = f v) : dkOk kd g := by
  obtain ⟨h1, h2, h3, h4, h5⟩ := h
  have hb := fgN_b kd
  refine ⟨h1, by rw [e 0 (by omega)]; exact h2, fun v a b => ?_, fun q => by rw [e 4 (by omega)]; exact h4 q, fun q => by rw [e 5 (by omega)]; exact h5 q⟩
  obtain ⟨t, t1, t2, t3, t4⟩ := h3 v a b
  exact ⟨t, t1, by rw [e v (by omega)]; exact t2, t3, fun x y => by rw [e 4 (by omega)]; exact t4 x y⟩
theorem tx_step {T T' d d' : Nat → Int32} {kds pos : Nat → Nat} {i kd : Nat} (h : txOk T d kds pos i) (hk : dkOk kd (ek_ds d' i)) (h1 : T' (pos i) = lettersF kd) (h2 : ∀ v, 1 ≤ v → v ≤ fgN kd → T' (pos i + v) = 48 + ek_ds d' i v) (h3 : ∀ q, q < pos i → T' q = T q) (h4 : ∀ q, q < 6 * i → d' q = d q) :
    txOk T' d' (fun j => if j = i then kd else kds j) (fun j => if j = i + 1 then pos i + (1 + fgN kd) else pos j) (i + 1) := by
  refine ⟨by show (if 0 = i + 1 then _ else pos 0) = 0; rw [if_neg (by omega)]; exact h.1, fun j hj => ?_⟩
  by_cases e : j = i
  · subst e
    simp only [if_true]
    rw [if_neg (show ¬ j = j + 1 by omega)]
    exact ⟨hk, rfl, h1, h2⟩
  · have hji : j < i := by omega
    obtain ⟨q1, q2, q3, q4⟩ := h.2 j hji
    have hm := pos_mono h (j + 1) (i - (j + 1)) (by omega)
    rw [show j + 1 + (i - (j + 1)) = i by omega] at hm
    simp only [if_neg e, if_neg (show ¬ j = i + 1 by omega), if_neg (show ¬ j + 1 = i + 1 by omega)]
    have hds : ∀ v, v < 6 → ek_ds d' j v = ek_ds d j v := fun v hv => h4 (6 * j + v) (by omega)
    have hb := fgN_b (kds j)
    refine ⟨dk_ext q1 hds, q2, by rw [h3 _ (by omega)]; exact q3, fun v v1 v2 => ?_⟩
    rw [h3 _ (by omega), hds v (by omega)]
    exact q4 v v1 v2
theorem tx_cover {T d : Nat → Int32} {kds pos : Nat → Nat} : ∀ m, txOk T d kds pos m → ∀ p, p < pos m → ∃ v, v < 128 ∧ T p = nI v := by
  intro m
  induction m with
  | zero => intro h p hp; rw [h.1] at hp; omega
  | succ m ih =>
    intro h p hp
    obtain ⟨q1, q2, q3, q4⟩ := h.2 m (by omega)
    rcases Nat.lt_or_ge p (pos m) with w | w
    · exact ih ⟨h.1, fun i hi => h.2 i (by omega)⟩ p w
    · by_cases e : p = pos m
      · rw [e, q3]
        have : kds m = 0 ∨ kds m = 1 ∨ kds m = 2 ∨ kds m = 3 ∨ kds m = 4 ∨ kds m = 5 := by have := q1.1; omega
        rcases this with k | k | k | k | k | k <;> rw [k]
        · exact ⟨104, by omega, rfl⟩
        · exact ⟨113, by omega, rfl⟩
        · exact ⟨112, by omega, rfl⟩
        · exact ⟨97, by omega, rfl⟩
        · exact ⟨99, by omega, rfl⟩
        · exact ⟨101, by omega, rfl⟩
      · obtain ⟨t, t1, t2, -⟩ := q1.2.2.1 (p - pos m) (by omega) (by omega)
        have := q4 (p - pos m) (by omega) (by omega)
        rw [show pos m + (p - pos m) = p by omega] at this
        exact ⟨48 + t, by omega, by rw [this, t2]; exact nI_add 48 t⟩
theorem byte_id : ∀ v, v < 128 → (nI v).toInt8.toInt32 = nI v := by decide +kernel
/-- the figures of one desk -/
theorem of_figs {N L p i kd : Nat} {xs : Nat → Int32} {k354 : TH → (Nat → Int32) → (Nat → Int32) → Int32 → Int32 → Int32 → Int32 → Option (Int32 × TH × (Nat → Int32))} {th : TH} {d : Nat → Int32} {x2 x3 : Int32} (hkd : kd < 6) (hp : p + 6 ≤ 60) (hi : i < 9) :
    ∀ r w (tx : Nat → Int32) n1, r + w = fgN kd + 1 → 1 ≤ w → r < n1 → ∃ tx', f_L_office_b299 N L xs k354 n1 th tx d x2 x3 (nI (p + w)) (nI i) (nI kd) (nI w) = k354 th tx' d x2 x3 (nI (p + (1 + fgN kd))) (nI i) ∧ (∀ q, q < p + w → tx' q = tx q) ∧ ∀ v, w ≤ v → v ≤ fgN kd → tx' (p + v) = 48 + ek_ds d i v := by
  have hb := fgN_b kd
  have elim : (if nI kd = (2 : Int32) then (5 : Int32) else (if nI kd = (3 : Int32) then (6 : Int32) else (4 : Int32))) = nI (fgN kd + 1) := by
    have : kd = 0 ∨ kd = 1 ∨ kd = 2 ∨ kd = 3 ∨ kd = 4 ∨ kd = 5 := by omega
    rcases this with rfl | rfl | rfl | rfl | rfl | rfl <;> decide
  intro r
  induction r with
  | zero =>
    intro w tx n1 hr hw h1
    obtain ⟨n1, rfl⟩ : ∃ q, n1 = q + 1 := ⟨n1 - 1, by omega⟩
    have : w = fgN kd + 1 := by omega
    subst this
    rw [f_L_office_b299, elim]
    unfold f_L_office_b323
    rw [if_pos (nI_le (Nat.le_refl _) (by omega)), show p + (fgN kd + 1) = p + (1 + fgN kd) by omega]
    exact ⟨tx, rfl, fun _ _ => rfl, fun v a b => by omega⟩
  | succ r ih =>
    intro w tx n1 hr hw h1
    obtain ⟨n1, rfl⟩ : ∃ q, n1 = q + 1 := ⟨n1 - 1, by omega⟩
    rw [f_L_office_b299, elim]
    unfold f_L_office_b323
    rw [if_neg (nI_ge (show w < fgN kd + 1 by omega) (by omega)), show (6 : Int32) * nI i = nI (6 * i) from pk_mul 6 i, nI_add, gd_t (ek_inb (by omega) (by omega)), gd_t (ek_inb (by omega) (by omega)), nI_clamp (by omega), nI_clamp (by omega), nI_1, nI_1]
    obtain ⟨tx', e1, e2, e3⟩ := ih (w + 1) (upd tx (p + w) (48 + d (6 * i + w))) n1 (by omega) (by omega) (by omega)
    refine ⟨tx', e1, fun q hq => ?_, fun v a b => ?_⟩
    · rw [e2 q (by omega), pk_un (by omega)]
    · by_cases e : v = w
      · rw [e, e2 (p + w) (by omega), pk_us]; rfl
      · exact e3 v (by omega) b
/-- one desk drawn -/
theorem of_desk {N L n i p n1 : Nat} {xs : Nat → Int32} {k360 : TH → (Nat → Int32) → (Nat → Int32) → Int32 → Int32 → Option (Int32 × TH × (Nat → Int32))} {th : TH} {tx d : Nat → Int32} (hN : 5000 ≤ N) (hi : i < n) (hn : n ≤ 7) (hp : p ≤ 6 * i) :
    ∃ kd tx' d', dkOk kd (ek_ds d' i) ∧ f_L_office_b12 N L xs k360 (n1 + 1) th tx d 1 (nI n) (nI p) (nI i) = f_L_office_b12 N L xs k360 n1 th tx' d' 1 (nI n) (nI (p + (1 + fgN kd))) (nI (i + 1)) ∧ tx' p = lettersF kd ∧ (∀ v, 1 ≤ v → v ≤ fgN kd → tx' (p + v) = 48 + ek_ds d' i v) ∧ (∀ q, q < p → tx' q = tx q) ∧ ∀ q, q < 6 * i → d' q = d q := by
  rw [f_L_office_b12, if_neg (nI_ge hi (by omega)), show (1 : Int32) + nI i = nI (1 + i) from nI_add 1 i, gd_t (nI_pos (by omega)), nm_t]
  generalize o_cell L xs (nI (1 + i)) = x
  have six : (6 : Int32) * nI i = nI (6 * i) := pk_mul 6 i
  have s1 : nI (6 * i) + 1 = nI (6 * i + 1) := nI_add _ 1
  have s2 : nI (6 * i) + 2 = nI (6 * i + 2) := nI_add _ 2
  have s3 : nI (6 * i) + 3 = nI (6 * i + 3) := nI_add _ 3
  have s4 : nI (6 * i) + 4 = nI (6 * i + 4) := nI_add _ 4
  have s5 : nI (6 * i) + 5 = nI (6 * i + 5) := nI_add _ 5
  obtain ⟨r8, h8, e8⟩ := low_ok (N := N) x 8 8 (by omega) (by omega) rfl
  -- the kind
  have hkind : ∃ kd, kd < 6 ∧ ∀ (K : Int32 → Option (Int32 × TH × (Nat → Int32))), bn (f_L_low N x 8) (fun z32_2 => if (2 : Int32) ≤ z32_2 then bn (f_L_low N x 8) (fun z47_3 => K (z47_3 - 2)) else K 0) = K (nI kd) := by
    by_cases q : 2 ≤ r8
    · refine ⟨r8 - 2, by omega, fun K => ?_⟩
      rw [e8, bn_t, if_pos (show (2 : Int32) ≤ nI r8 from nI_le (a := 2) q (by omega)), bn_t, show nI r8 - (2 : Int32) = nI (r8 - 2) from pk_sub (b := 2) q]
    · refine ⟨0, by omega, fun K => ?_⟩
      rw [e8, bn_t, if_neg (show ¬ (2 : Int32) ≤ nI r8 from nI_ge (b := 2) (by omega) (by omega))]
      rfl
  obtain ⟨kd, hkd, hK⟩ := hkind
  rw [hK (fun y => f_L_office_b52 N L xs (f_L_office_b12 N L xs k360 n1) k360 th tx d 1 (nI n) (nI p) (nI i) x y)]
  unfold f_L_office_b52
  obtain ⟨t1, g1, l1⟩ := low_ok (N := N) (x >>> ((3 : Int32) &&& 31)) 10 10 (by omega) (by omega) rfl
  obtain ⟨t2, g2, l2⟩ := low_ok (N := N) (x >>> ((7 : Int32) &&& 31)) 10 10 (by omega) (by omega) rfl
  obtain ⟨u3, gu, lu⟩ := low_ok (N := N) (x >>> ((24 : Int32) &&& 31)) 2 2 (by omega) (by omega) rfl
  rw [six, gd_t (ek_inb (by omega) (by omega)), l1, bn_t, s1, gd_t (ek_inb (by omega) (by omega)), l2, bn_t, s2, gd_t (ek_inb (by omega) (by omega)), lu, bn_t, nI_clamp (by omega), nI_clamp (by omega), nI_clamp (by omega), s3]
  unfold f_L_office_b135
  have hy3 : ∃ m, 0 < m ∧ m ≤ 10 ∧ (if nI u3 = 0 then (3 : Int32) else (10 : Int32)) = nI m := by
    by_cases q : nI u3 = 0
    · rw [if_pos q]; exact ⟨3, by omega, by omega, rfl⟩
    · rw [if_neg q]; exact ⟨10, by omega, by omega, rfl⟩
  obtain ⟨m3, a3, b3, c3⟩ := hy3
  obtain ⟨t3, g3, l3⟩ := low_ok (N := N) (x >>> ((11 : Int32) &&& 31)) (nI m3) m3 a3 (by omega) rfl
  obtain ⟨fi, gf, lf⟩ := low_ok (N := N) (x >>> ((14 : Int32) &&& 31)) 6 6 (by omega) (by omega) rfl
  obtain ⟨t9, g9, l9⟩ := low_ok (N := N) (x >>> ((14 : Int32) &&& 31)) 9 9 (by omega) (by omega) rfl
  rw [c3, l3, bn_t, gd_t (ek_inb (by omega) (by omega)), lf, bn_t, nI_clamp (by omega), six, s4]
  have k2e : (nI kd = (2 : Int32)) ↔ kd = 2 := nI_eq (a := kd) (b := 2) (by omega) (by omega)
  have k3e : (nI kd = (3 : Int32)) ↔ kd = 3 := nI_eq (a := kd) (b := 3) (by omega) (by omega)
  -- the fourth fact
  generalize hd3 : upd (upd (upd (upd d (6 * i) (nI kd)) (6 * i + 1) (nI t1)) (6 * i + 2) (nI t2)) (6 * i + 3) (nI t3) = d3
  have h4 : ∃ y2 : Int32, ((kd = 2 ∧ ∃ t, 1 ≤ t ∧ t ≤ 9 ∧ y2 = nI t) ∨ (kd = 3 ∧ y2 = nI fi) ∨ (kd ≠ 2 ∧ kd ≠ 3 ∧ y2 = -9)) ∧ ∀ (K : Int32 → Option (Int32 × TH × (Nat → Int32))), (if nI kd = (2 : Int32) then bn (f_L_low N (x >>> ((14 : Int32) &&& 31)) 9) (fun z174_4 => K ((1 : Int32) + z174_4)) else K (if nI kd = (3 : Int32) then nI fi else (-9 : Int32))) = K y2 := by
    by_cases q2 : kd = 2
    · refine ⟨nI (1 + t9), Or.inl ⟨q2, 1 + t9, by omega, by omega, rfl⟩, fun K => ?_⟩
      rw [if_pos (k2e.mpr q2), l9, bn_t]
      exact congrArg K (nI_add 1 t9)
    · by_cases q3 : kd = 3
      · exact ⟨nI fi, Or.inr (Or.inl ⟨q3, rfl⟩), fun K => by rw [if_neg (fun w => q2 (k2e.mp w)), if_pos (k3e.mpr q3)]⟩
      · exact ⟨-9, Or.inr (Or.inr ⟨q2, q3, rfl⟩), fun K => by rw [if_neg (fun w => q2 (k2e.mp w)), if_neg (fun w => q3 (k3e.mp w))]⟩
  obtain ⟨y4, hy4, hK4⟩ := h4
  rw [hK4 (fun y => f_L_office_b194 N L xs (f_L_office_b12 N L xs k360 n1) k360 th tx d3 1 (nI n) (nI p) (nI i) x (nI kd) (nI fi) (nI (6 * i + 4)) y)]
  unfold f_L_office_b194
  obtain ⟨t5, g5, l5⟩ := low_ok (N := N) (x >>> ((18 : Int32) &&& 31)) ((10 : Int32) - nI fi) (10 - fi) (by omega) (by omega) (pk_sub (a := 10) (by omega))
  rw [gd_t (ek_inb (by omega) (by omega)), six, s5, nI_clamp (by omega)]
  have h5 : ∃ y5 : Int32, ((kd = 3 ∧ ∃ t, fi ≤ t ∧ t ≤ 9 ∧ y5 = nI t) ∨ (kd ≠ 3 ∧ y5 = -9)) ∧ ∀ (K : Int32 → Option (Int32 × TH × (Nat → Int32))), (if nI kd = (3 : Int32) then bn (f_L_low N (x >>> ((18 : Int32) &&& 31)) ((10 : Int32) - nI fi)) (fun z222_2 => K (nI fi + z222_2)) else K (-9 : Int32)) = K y5 := by
    by_cases q3 : kd = 3
    · refine ⟨nI (fi + t5), Or.inl ⟨q3, fi + t5, by omega, by omega, rfl⟩, fun K => ?_⟩
      rw [if_pos (k3e.mpr q3), l5, bn_t, nI_add]
    · exact ⟨-9, Or.inr ⟨q3, rfl⟩, fun K => by rw [if_neg (fun w => q3 (k3e.mp w))]⟩
  obtain ⟨y5, hy5, hK5⟩ := h5
  rw [hK5 (fun y => f_L_office_b231 N L xs (f_L_office_b12 N L xs k360 n1) k360 th tx (upd d3 (6 * i + 4) y4) 1 (nI n) (nI p) (nI i) (nI kd) (nI (6 * i + 5)) y)]
  unfold f_L_office_b231
  rw [gd_t (ek_inb (by omega) (by omega)), nI_clamp (by omega)]
  have elet : (if nI kd = 0 then (104 : Int32) else (if nI kd = (1 : Int32) then (113 : Int32) else (if nI kd = (2 : Int32) then (112 : Int32) else (if nI kd = (3 : Int32) then (97 : Int32) else (if nI kd = (4 : Int32) then (99 : Int32) else (101 : Int32)))))) = lettersF kd := by
    have : kd = 0 ∨ kd = 1 ∨ kd = 2 ∨ kd = 3 ∨ kd = 4 ∨ kd = 5 := by omega
    rcases this with rfl | rfl | rfl | rfl | rfl | rfl <;> decide
  rw [elet]
  unfold f_L_office_b292
  rw [gd_t (ek_inb (by omega) (by omega)), nI_clamp (by omega), nI_1, show (1 : Int32) = nI 1 from rfl]
  generalize hd5 : upd (upd d3 (6 * i + 4) y4) (6 * i + 5) y5 = d5
  obtain ⟨tx', e1, e2, e3⟩ := of_figs (N := N) (L := L) (xs := xs) (k354 := f_L_office_b354 N L xs (f_L_office_b12 N L xs k360 n1) k360) (th := th) (d := d5) (x2 := nI 1) (x3 := nI n) hkd (show p + 6 ≤ 60 by omega) (show i < 9 by omega) (fgN kd) 1 (upd tx p (lettersF kd)) N (by omega) (by omega) (by have := fgN_b kd; omega)
  have f0 : ek_ds d5 i 0 = nI kd := by
    show d5 (6 * i + 0) = _
    rw [← hd5, ← hd3, pk_un (by omega), pk_un (by omega), pk_un (by omega), pk_un (by omega), pk_un (by omega)]; exact pk_us
  have f1 : ek_ds d5 i 1 = nI t1 := by
    show d5 (6 * i + 1) = _
    rw [← hd5, ← hd3, pk_un (by omega), pk_un (by omega), pk_un (by omega), pk_un (by omega)]; exact pk_us
  have f2 : ek_ds d5 i 2 = nI t2 := by
    show d5 (6 * i + 2) = _
    rw [← hd5, ← hd3, pk_un (by omega), pk_un (by omega), pk_un (by omega)]; exact pk_us
  have f3 : ek_ds d5 i 3 = nI t3 := by
    show d5 (6 * i + 3) = _
    rw [← hd5, ← hd3, pk_un (by omega), pk_un (by omega)]; exact pk_us
  have f4 : ek_ds d5 i 4 = y4 := by
    show d5 (6 * i + 4) = _
    rw [← hd5, pk_un (by omega)]; exact pk_us
  have f5 : ek_ds d5 i 5 = y5 := by
    show d5 (6 * i + 5) = _
    rw [← hd5]; exact pk_us
  refine ⟨kd, tx', d5, ⟨hkd, f0, fun v v1 v2 => ?_, fun q => ?_, fun q => ?_⟩, ?_, ?_, fun v v1 v2 => e3 v v1 v2, fun q hq => ?_, fun q hq => ?_⟩
  · have hb := fgN_b kd
    have hv : v = 1 ∨ v = 2 ∨ v = 3 ∨ v = 4 ∨ v = 5 := by omega
    rcases hv with rfl | rfl | rfl | rfl | rfl
    · exact ⟨t1, by omega, f1, fun _ q => by omega, fun _ q => by omega⟩
    · exact ⟨t2, by omega, f2, fun _ q => by omega, fun _ q => by omega⟩
    · exact ⟨t3, by omega, f3, fun _ q => by omega, fun _ q => by omega⟩
    · rcases hy4 with ⟨q, t, w1, w2, w3⟩ | ⟨q, w⟩ | ⟨q1, q2, -⟩
      · exact ⟨t, w2, f4.trans w3, fun _ _ => w1, fun x _ => by omega⟩
      · exact ⟨fi, by omega, f4.trans w, fun x _ => by omega, fun _ x => by omega⟩
      · exfalso; unfold fgN at v2; rw [if_neg q1, if_neg q2] at v2; omega
    · rcases hy5 with ⟨q, t, w1, w2, w3⟩ | ⟨q1, -⟩
      · refine ⟨t, w2, f5.trans w3, fun _ x => by omega, fun _ _ => ⟨fi, ?_, w1⟩⟩
        rcases hy4 with ⟨y, -⟩ | ⟨y, w⟩ | ⟨-, y, -⟩
        · omega
        · exact f4.trans w
        · exact absurd q y
      · exfalso; unfold fgN at v2; split at v2 <;> omega
  · rcases hy4 with ⟨y, -⟩ | ⟨y, -⟩ | ⟨-, -, y⟩
    · rw [y] at q; exact absurd q (by decide)
    · rw [y] at q; exact absurd q (by decide)
    · exact f4.trans y
  · rcases hy5 with ⟨y, -⟩ | ⟨-, y⟩
    · rw [y] at q; exact absurd q (by decide)
    · exact f5.trans y
  · rw [e1]
    unfold f_L_office_b354
    rw [show nI i + (1 : Int32) = nI (i + 1) from nI_1 i]
  · rw [e2 p (by omega)]; exact pk_us
  · rw [e2 q (by omega), pk_un (by omega)]
  · rw [← hd5, ← hd3, pk_un (by omega), pk_un (by omega), pk_un (by omega), pk_un (by omega), pk_un (by omega), pk_un (by omega)]
/-- the whole office: drawn, told, read -/
theorem of_all {n L : Nat} {xs S C TS TC F ch : Nat → Int32} {nn st ru at_ ib ho cr la na li it kst kru kat kib kho kcr kla kna kli kit yn ak : Int32} {hs gi wr khs kgi kwr : Nat → Int32} {up lo : Int64} {th : TH} (hn : n ≤ 7) (h : Sem S C TS TC nn F (mR st ru at_ ib ho cr la na li it hs gi wr) (mR kst kru kat kib kho kcr kla kna kli kit khs kgi kwr) yn ch ak up lo th) :
    ∃ TS' TC' F' d' th', f_L_office 5000 L xs th (fun _ => 0) 1 (nI n) = some (1, th', d') ∧ Sem S C TS' TC' (nI n) F' (mR 0 0 0 0 0 0 0 0 0 it hs gi wr) (mR kst kru kat kib kho kcr kla kna kli 0 khs kgi kwr) 0 ch ak up lo th' ∧ (∀ i, i < n → ek_wf (ek_ds F' i)) ∧ ∀ i, i < n → d' (6 * i) = ek_ds F' i 0 := by
  unfold f_L_office
  -- the desks
  have key : ∀ r i n1 (tx d : Nat → Int32) (kds pos : Nat → Nat), r + i = n → r < n1 → txOk tx d kds pos i → pos i ≤ 6 * i → ∃ tx' d' kds' pos', f_L_office_b12 5000 L xs (f_L_office_b360 5000 L xs) n1 th tx d 1 (nI n) (nI (pos i)) (nI i) = f_L_office_b360 5000 L xs th tx' d' (nI n) (nI (pos' n)) ∧ txOk tx' d' kds' pos' n ∧ pos' n ≤ 6 * n := by
    intro r
    induction r with
    | zero =>
      intro i n1 tx d kds pos hr h1 ht hp
      obtain ⟨n1, rfl⟩ : ∃ q, n1 = q + 1 := ⟨n1 - 1, by omega⟩
      have : i = n := by omega
      subst this
      rw [f_L_office_b12, if_pos (nI_le (Nat.le_refl _) (by omega))]
      exact ⟨tx, d, kds, pos, rfl, ht, hp⟩
    | succ r ih =>
      intro i n1 tx d kds pos hr h1 ht hp
      obtain ⟨n1, rfl⟩ : ∃ q, n1 = q + 1 := ⟨n1 - 1, by omega⟩
      obtain ⟨kd, tx', d', c1, c2, c3, c4, c5, c6⟩ := of_desk (N := 5000) (L := L) (n1 := n1) (xs := xs) (k360 := f_L_office_b360 5000 L xs) (th := th) (tx := tx) (d := d) (by omega) (show i < n by omega) hn hp
      rw [c2]
      have hb := fgN_b kd
      have := ih (i + 1) n1 tx' d' _ _ (by omega) (by omega) (tx_step ht c1 c3 c4 c5 c6) (by simp only [if_true]; omega)
      simp only [if_true] at this
      exact this
  obtain ⟨tx, d, kds, pos, e1, ht, hp⟩ := key n 0 5000 (fun _ => 0) (fun _ => 0) (fun _ => 0) (fun _ => 0) (by omega) (by omega) ⟨rfl, fun i hi => absurd hi (by omega)⟩ (by omega)
  rw [show f_L_office_b12 5000 L xs (f_L_office_b360 5000 L xs) 5000 th (fun _ => 0) (fun _ => 0) 1 (nI n) 0 0 = _ from e1]
  unfold f_L_office_b360
  obtain ⟨th1, o1, m1⟩ := s_text (z := pos n) (by omega) h
  rw [o1, bn_t, if_pos rfl]
  unfold f_L_office_b377
  have hfill : ∀ p, p < pos n → ek_fo (fun j s => upd s (100 * 3 + j) 32) TC (pos n) (100 * 3 + p) = 32 := fun p hp => by
    rw [ek_fill (b := 100 * 3) (v := 32) (C := TC) (pos n) (100 * 3 + p), if_pos (by omega)]
  generalize ek_fo (fun j s => upd s (100 * 3 + j) 32) TC (pos n) = TC1 at *
  -- the signs
  have puts : ∀ r j n1 th TCj, r + j = pos n → r < n1 → Sem S C (upd TS 3 (nI (pos n))) TCj nn F (mR st ru at_ ib ho cr la na li it hs gi wr) (mR kst kru kat kib kho kcr kla kna kli kit khs kgi kwr) yn ch ak up lo th → (∀ p, p < j → TCj (100 * 3 + p) = tx p) → (∀ p, j ≤ p → p < pos n → TCj (100 * 3 + p) = 32) →
      ∃ th' TC', f_L_office_b382 5000 L xs (f_L_office_b425 5000 L xs) n1 th tx d (nI n) (nI (pos n)) 1 (nI j) = f_L_office_b425 5000 L xs th' tx d (nI n) 1 ∧ Sem S C (upd TS 3 (nI (pos n))) TC' nn F (mR st ru at_ ib ho cr la na li it hs gi wr) (mR kst kru kat kib kho kcr kla kna kli kit khs kgi kwr) yn ch ak up lo th' ∧ ∀ p, p < pos n → TC' (100 * 3 + p) = tx p := by
    intro r
    induction r with
    | zero =>
      intro j n1 th TCj hr h1 hM g1 g2
      obtain ⟨n1, rfl⟩ : ∃ q, n1 = q + 1 := ⟨n1 - 1, by omega⟩
      rw [f_L_office_b382, if_pos (nI_le (by omega) (by omega))]
      exact ⟨th, TCj, rfl, hM, fun p hp => g1 p (by omega)⟩
    | succ r ih =>
      intro j n1 th TCj hr h1 hM g1 g2
      obtain ⟨n1, rfl⟩ : ∃ q, n1 = q + 1 := ⟨n1 - 1, by omega⟩
      obtain ⟨v, hv, ev⟩ := tx_cover n ht j (by omega)
      obtain ⟨th2, o2, m2⟩ := s_put (z := pos n) (i := j) (v := tx j) pk_us (by omega) (by omega) (g2 j (Nat.le_refl _) (by omega)) hM
      rw [f_L_office_b382, if_neg (nI_ge (show j < pos n by omega) (by omega)), if_neg (by decide), gd_t (ek_inb (by omega) (by omega)), nI_clamp (by omega), o2, bn_t]
      unfold f_L_office_b417
      rw [if_pos (by rfl), nI_1]
      refine ih (j + 1) n1 th2 _ (by omega) (by omega) m2 (fun p hp => ?_) (fun p a b => ?_)
      · by_cases e : p = j
        · rw [e, pk_us, ev, byte_id v hv]
        · rw [pk_un (by omega)]; exact g1 p (by omega)
      · rw [pk_un (by omega)]; exact g2 p (by omega) b
  obtain ⟨th2, TC2, e2, m2, hTC⟩ := puts (pos n) 0 5000 th1 TC1 (by omega) (by omega) m1 (fun p hp => absurd hp (by omega)) (fun p _ hp => hfill p hp)
  rw [show f_L_office_b382 5000 L xs (f_L_office_b425 5000 L xs) 5000 th1 tx d (nI n) (nI (pos n)) 1 0 = _ from e2]
  unfold f_L_office_b425
  obtain ⟨th3, o3, m3⟩ := s_fault (m := n) (z := pos n) (by omega) pk_us (by omega) ht rfl hTC m2
  obtain ⟨F', th4, o4, m4, hF⟩ := s_office (m := n) (z := pos n) (by omega) pk_us (by omega) ht rfl hTC m3
  rw [if_neg (by decide), o3, bn_t, if_pos (by rfl), o4, bn_t, if_pos (by rfl)]
  refine ⟨_, _, F', d, th4, rfl, m4, fun i hi => ?_, fun i hi => (hF i hi 0 (by omega)).symm⟩
  exact dk_wf (dk_ext (ht.2 i hi).1 (fun v hv => hF i hi v hv))
