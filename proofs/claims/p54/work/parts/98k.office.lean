/-! an office out of a text that is one -/
def fgN (kd : Nat) : Nat := if kd = 2 then 4 else if kd = 3 then 5 else 3
theorem fgN_b (kd : Nat) : 3 ≤ fgN kd ∧ fgN kd ≤ 5 := by unfold fgN; split <;> (try split) <;> omega
/-- one desk as the text tells it: its kind, its figures -/
def dkOk (kd : Nat) (f : Nat → Int32) : Prop := kd < 6 ∧ f 0 = nI kd ∧ (∀ v, 1 ≤ v → v ≤ fgN kd → ∃ t, t ≤ 9 ∧ f v = nI t ∧ (kd = 2 → v = 4 → 1 ≤ t) ∧ (kd = 3 → v = 5 → ∃ t4, f 4 = nI t4 ∧ t4 ≤ t)) ∧ (fgN kd < 4 → f 4 = -9) ∧ (fgN kd < 5 → f 5 = -9)
def txOk (T d : Nat → Int32) (kds pos : Nat → Nat) (m : Nat) : Prop := pos 0 = 0 ∧ ∀ i, i < m → dkOk (kds i) (ek_ds d i) ∧ pos (i + 1) = pos i + (1 + fgN (kds i)) ∧ T (pos i) = lettersF (kds i) ∧ ∀ v, 1 ≤ v → v ≤ fgN (kds i) → T (pos i + v) = 48 + ek_ds d i v
theorem dk_wf {kd : Nat} {f : Nat → Int32} (h : dkOk kd f) : ek_wf f := by
  obtain ⟨h1, h2, h3, h4, h5⟩ := h
  have hb := fgN_b kd
  have g : ∀ v, 1 ≤ v → v ≤ 3 → ∃ t, t ≤ 9 ∧ f v = nI t := fun v a b => by
    obtain ⟨t, t1, t2, -⟩ := h3 v a (by omega)
    exact ⟨t, t1, t2⟩
  refine ⟨⟨kd, h1, h2⟩, g 1 (by omega) (by omega), g 2 (by omega) (by omega), g 3 (by omega) (by omega), fun q => ?_⟩
  have hk : kd = 2 := by
    rw [h2] at q
    exact (nI_eq (a := kd) (b := 2) (by omega) (by omega)).mp q
  obtain ⟨t, t1, t2, t3, -⟩ := h3 4 (by omega) (by rw [hk]; decide)
  exact ⟨t, t3 hk rfl, t1, t2⟩
theorem kind_of {N kd : Nat} (hN : 5000 ≤ N) (h : kd < 6) : f_X1_kindOf N (lettersF kd) = some (nI kd) ∧ ¬ lettersF kd = 32 ∧ ¬ nI kd = -9 := by
  have h1 := (ek_kindOf (N := N) (lettersF kd) hN).1
  have : kd = 0 ∨ kd = 1 ∨ kd = 2 ∨ kd = 3 ∨ kd = 4 ∨ kd = 5 := by omega
  rcases this with rfl | rfl | rfl | rfl | rfl | rfl <;> exact ⟨h1.trans (by decide), by decide, by decide⟩
theorem least_fig {kd v t4 : Nat} (hkd : kd < 6) (hv1 : 1 ≤ v) (hv : v ≤ fgN kd) : p_X1_leastFigure (nI kd) (nI v) (nI t4) = if kd = 2 ∧ v = 4 then 1 else if kd = 3 ∧ v = 5 then nI t4 else 0 := by
  have hb := fgN_b kd
  unfold p_X1_leastFigure p_X1_leastFigure_b12
  have e2 : (nI kd = (2 : Int32)) = (kd = 2) := propext (nI_eq (a := kd) (b := 2) (by omega) (by omega))
  have e4 : (nI v = (4 : Int32)) = (v = 4) := propext (nI_eq (a := v) (b := 4) (by omega) (by omega))
  have e5 : (nI v = (5 : Int32)) = (v = 5) := propext (nI_eq (a := v) (b := 5) (by omega) (by omega))
  simp only [e2, e4, e5]
  by_cases k2 : kd = 2
  · subst k2
    have : v ≤ 4 := hv
    by_cases v4 : v = 4
    · simp [v4]
    · have : ¬ v = 5 := by omega
      simp [v4, this]
  · by_cases k3 : kd = 3
    · subst k3
      by_cases v5 : v = 5
      · simp [v5]
      · simp [v5]
    · have : fgN kd = 3 := by unfold fgN; rw [if_neg k2, if_neg k3]
      have h5 : ¬ v = 5 := by omega
      simp [k2, k3, h5]
theorem desk_ok {N k z p i kd : Nat} {S C d : Nat → Int32} (hN : 5000 ≤ N) (hk : k < 4) (hz : z ≤ 100) (a : S k = nI z) (hi : i < 9) (hd : dkOk kd (ek_ds d i)) (hp : p + (1 + fgN kd) ≤ z) (hC : ∀ v, 1 ≤ v → v ≤ fgN kd → C (100 * k + (p + v)) = 48 + ek_ds d i v) (F : Nat → Int32) :
    ∃ F', f_X1_readDesk N 4 400 (100 : Int32) S C (nI i) F (nI k) (nI p) (nI kd) = some (-9, nI (i + 1), F') ∧ (∀ v, v < 6 → F' (6 * i + v) = ek_ds d i v) ∧ ∀ q, q < 6 * i → F' q = F q := by
  obtain ⟨h1, h2, h3, h4, h5⟩ := hd
  have hb := fgN_b kd
  unfold f_X1_readDesk
  rw [show (0 : Int32) = nI 0 from rfl, show (4 : Int32) = nI 4 from rfl, show (5 : Int32) = nI 5 from rfl, ek_setF F _ hi (by omega), nm_t, ek_setF _ _ hi (by omega), nm_t, ek_setF _ _ hi (by omega), nm_t]
  have key : ∀ r w (G : Nat → Int32) (bf : Int32) n1, r + w = fgN kd + 1 → 1 ≤ w → r < n1 → (∀ v, v < 6 → v < w ∨ fgN kd < v → G (6 * i + v) = ek_ds d i v) → (∀ q, q < 6 * i → G q = F q) → (w = 1 → bf = nI 0) → (1 < w → bf = ek_ds d i (w - 1)) →
      ∃ F', f_X1_readDesk_b39 N 4 400 (100 : Int32) S C n1 (nI i) G (nI k) (nI p) (nI kd) bf (nI w) = some (-9, nI (i + 1), F') ∧ (∀ v, v < 6 → F' (6 * i + v) = ek_ds d i v) ∧ ∀ q, q < 6 * i → F' q = F q := by
    intro r
    induction r with
    | zero =>
      intro w G bf n1 hr hw h1' g1 g2 _ _
      obtain ⟨n1, rfl⟩ : ∃ q, n1 = q + 1 := ⟨n1 - 1, by omega⟩
      rw [f_X1_readDesk_b39, ek_figs h1, if_pos (show nI (if kd = 2 then 4 else if kd = 3 then 5 else 3) < nI w from nI_lt (by show fgN kd < w; omega) (by omega)), nI_1]
      exact ⟨G, rfl, fun v hv => g1 v hv (by omega), g2⟩
    | succ r ih =>
      intro w G bf n1 hr hw h1' g1 g2 b1 b2
      obtain ⟨n1, rfl⟩ : ∃ q, n1 = q + 1 := ⟨n1 - 1, by omega⟩
      obtain ⟨t, t1, t2, t3, t4⟩ := h3 w hw (by omega)
      have hbf : ∃ t4', bf = nI t4' ∧ (kd = 3 → w = 5 → t4' ≤ t) := by
        rcases Nat.lt_or_ge 1 w with q | q
        · by_cases q5 : kd = 3 ∧ w = 5
          · obtain ⟨u, u1, u2⟩ := t4 q5.1 q5.2
            refine ⟨u, ?_, fun _ _ => u2⟩
            rw [b2 q, q5.2]; exact u1
          · obtain ⟨u, u1, u2, -⟩ := h3 (w - 1) (by omega) (by omega)
            exact ⟨u, by rw [b2 q]; exact u2, fun x y => absurd ⟨x, y⟩ q5⟩
        · exact ⟨0, b1 (by omega), fun _ _ => by omega⟩
      obtain ⟨t4', eb, lb⟩ := hbf
      rw [f_X1_readDesk_b39, ek_figs h1, if_neg (show ¬ nI (if kd = 2 then 4 else if kd = 3 then 5 else 3) < nI w from nI_nlt (by show w ≤ fgN kd; omega) (by show fgN kd < _; omega)), nI_add, ek_pl1 a hk (by omega) (show p + w < z by omega) (by omega), if_neg (by decide), show ((100 : Int32)) = nI 100 from rfl, ek_cell (P := 100) C a hk (show p + w < z by omega) hz rfl (by decide) (by decide) (by decide), hC w hw (by omega), t2, show (48 : Int32) + nI t = nI (48 + t) from nI_add 48 t, show nI (48 + t) - (48 : Int32) = nI t from by rw [show (48 : Int32) = nI 48 from rfl, pk_sub (by omega)]; exact congrArg nI (by omega), nm_t, eb, least_fig h1 hw (by omega)]
      have hge : ¬ nI t < (if kd = 2 ∧ w = 4 then (1 : Int32) else if kd = 3 ∧ w = 5 then nI t4' else 0) := by
        by_cases q : kd = 2 ∧ w = 4
        · rw [if_pos q]; exact nI_nlt (b := 1) (t3 q.1 q.2) (by omega)
        · rw [if_neg q]
          by_cases q2 : kd = 3 ∧ w = 5
          · rw [if_pos q2]; exact nI_nlt (lb q2.1 q2.2) (by omega)
          · rw [if_neg q2]; exact nI_pos (by omega)
      rw [if_neg hge, if_pos (show nI t ≤ (9 : Int32) from nI_le (b := 9) t1 (by omega)), ek_setF _ _ hi (by omega), nm_t, nI_1]
      refine ih (w + 1) (upd G (6 * i + w) (nI t)) (nI t) n1 (by omega) (by omega) (by omega) ?_ ?_ (fun q => by omega) (fun _ => by rw [Nat.add_sub_cancel]; exact t2.symm)
      · intro v hv hv2
        by_cases e : v = w
        · rw [e, pk_us]; exact t2.symm
        · rw [pk_un (by omega)]; exact g1 v hv (by omega)
      · intro q hq
        rw [pk_un (by omega)]; exact g2 q hq
  refine key (fgN kd) 1 _ (nI 0) N (by omega) (by omega) (by omega) ?_ ?_ (fun _ => rfl) (fun q => by omega)
  · intro v hv hv2
    have : v = 0 ∨ v = 4 ∨ v = 5 := by omega
    rcases this with rfl | rfl | rfl
    · rw [pk_un (by omega), pk_un (by omega), pk_us]; exact h2.symm
    · rw [pk_un (by omega), pk_us]; exact (h4 (by omega)).symm
    · rw [pk_us]; exact (h5 (by omega)).symm
  · intro q hq
    rw [pk_un (by omega), pk_un (by omega), pk_un (by omega)]
theorem pos_mono {T d : Nat → Int32} {kds pos : Nat → Nat} {m : Nat} (h : txOk T d kds pos m) : ∀ i j, i + j ≤ m → pos i ≤ pos (i + j) := by
  intro i j
  induction j with
  | zero => intro _; exact Nat.le_refl _
  | succ j ih =>
    intro hj
    have := (h.2 (i + j) (by omega)).2.1
    have h2 := ih (by omega)
    rw [show i + (j + 1) = i + j + 1 from rfl, this]
    omega
theorem read_ok {N k z m : Nat} {S C T d F0 : Nat → Int32} {kds pos : Nat → Nat} {num : Int32} (hN : 5000 ≤ N) (hk : k < 4) (hz : z ≤ 100) (a : S k = nI z) (hm : m ≤ 9) (hT : txOk T d kds pos m) (hzm : pos m = z) (hC : ∀ p, p < z → C (100 * k + p) = T p) :
    ∃ F', f_X1_read N 4 400 (100 : Int32) S C num F0 (nI k) = some (-9, nI m, F') ∧ ∀ i, i < m → ∀ v, v < 6 → F' (6 * i + v) = ek_ds d i v := by
  unfold f_X1_read
  rw [ek_siz S hk (by decide), a, nm_t]
  have key : ∀ r i (G : Nat → Int32) n1, r + i = m → r < n1 → (∀ j, j < i → ∀ v, v < 6 → G (6 * j + v) = ek_ds d j v) → ∃ F', f_X1_read_b14 N 4 400 (100 : Int32) S C n1 (nI i) G (nI k) (nI z) (nI (pos i)) = some (-9, nI m, F') ∧ ∀ i, i < m → ∀ v, v < 6 → F' (6 * i + v) = ek_ds d i v := by
    intro r
    induction r with
    | zero =>
      intro i G n1 hr h1 g
      obtain ⟨n1, rfl⟩ : ∃ q, n1 = q + 1 := ⟨n1 - 1, by omega⟩
      have : i = m := by omega
      subst this
      rw [f_X1_read_b14, hzm, if_pos (nI_le (Nat.le_refl _) (by omega))]
      exact ⟨G, rfl, g⟩
    | succ r ih =>
      intro i G n1 hr h1 g
      obtain ⟨n1, rfl⟩ : ∃ q, n1 = q + 1 := ⟨n1 - 1, by omega⟩
      have hi : i < m := by omega
      obtain ⟨q1, q2, q3, q4⟩ := hT.2 i hi
      have hle := pos_mono hT (i + 1) (m - (i + 1)) (by omega)
      rw [show i + 1 + (m - (i + 1)) = m by omega, hzm] at hle
      have hb := fgN_b (kds i)
      obtain ⟨c1, c2, c3⟩ := kind_of hN q1.1
      obtain ⟨F', e1, e2, e3⟩ := desk_ok (C := C) (S := S) (p := pos i) hN hk hz a (show i < 9 by omega) q1 (by omega) (fun v hv1 hv2 => by rw [hC (pos i + v) (by omega)]; exact q4 v hv1 hv2) G
      rw [f_X1_read_b14, if_neg (nI_ge (show pos i < z by omega) (by omega)), show ((100 : Int32)) = nI 100 from rfl, ek_cell (P := 100) C a hk (show pos i < z by omega) hz rfl (by decide) (by decide) (by decide), hC _ (by omega), q3, nm_t, if_neg c2, c1, bn_t, if_neg c3, if_pos (show nI i < (9 : Int32) from nI_lt (b := 9) (by omega) (by omega)), show f_X1_readDesk N 4 400 (nI 100) S C (nI i) G (nI k) (nI (pos i)) (nI (kds i)) = _ from e1, bn_t, if_pos rfl, ek_figs q1.1]
      have e4 : nI (pos i) + ((1 : Int32) + nI (if kds i = 2 then 4 else if kds i = 3 then 5 else 3)) = nI (pos (i + 1)) := by
        rw [q2]
        show nI (pos i) + (nI 1 + nI (fgN (kds i))) = _
        rw [nI_add, nI_add]
      rw [e4, nm_t]
      refine ih (i + 1) F' n1 (by omega) (by omega) (fun j hj v hv => ?_)
      by_cases e : j = i
      · subst e; exact e2 v hv
      · rw [e3 _ (by omega)]; exact g j (by omega) v hv
  have := key m 0 F0 N (by omega) (by omega) (fun j hj => absurd hj (by omega))
  rw [hT.1] at this
  exact this
section SEM
variable {S C TS TC : Nat → Int32} {nn : Int32} {F : Nat → Int32} {yn : Int32} {ch : Nat → Int32} {ak : Int32} {up lo : Int64} {th : TH}
variable {st ru at_ ib ho cr la na li it : Int32} {hs gi wr : Nat → Int32} {T d : Nat → Int32} {kds pos : Nat → Nat} {m z : Nat}
theorem s_fault {rd k0 : TRd} (hz : z ≤ 100) (a : TS 3 = nI z) (hm : m ≤ 9) (hT : txOk T d kds pos m) (hzm : pos m = z) (hC : ∀ p, p < z → TC (100 * 3 + p) = T p) (h : Sem S C TS TC nn F rd k0 yn ch ak up lo th) :
    ∃ th', o_fault th 3 = some (-9, th') ∧ Sem S C TS TC nn F rd k0 yn ch ak up lo th' := by
  obtain ⟨fi, fc, ⟨dn, df⟩, k1, k2, lv, ba, wa, ly, tr, ca, fw, sn, s2, wh, sq, pk, rfl, hS, hT2⟩ := h
  obtain ⟨F', e1, -⟩ := read_ok (N := 5000) (S := TS) (C := TC) (F0 := df) (num := dn) (by omega) (show 3 < 4 by omega) hz a hm hT hzm hC
  have e : f_X11_fault 5000 (100 : Int32) TS TC fi dn df fc 3 = some (-9, fi, nI m, F', fc) := by
    unfold f_X11_fault
    rw [show p_X11_refuseMissing 4 TS fi fc (3 : Int32) = _ from sr_miss (k := 3) (by omega) (by omega) a (by omega), nm_t, if_pos rfl, show f_X1_read 5000 4 400 (100 : Int32) TS TC dn df (3 : Int32) = _ from e1, bn_t]
  exact ⟨_, bn_e e, _, _, (_, _), _, _, _, _, _, _, _, _, _, _, _, _, _, _, rfl, hS, hT2⟩
theorem s_office {kst kru kat kib kho kcr kla kna kli kit : Int32} {khs kgi kwr : Nat → Int32} (hz : z ≤ 100) (a : TS 3 = nI z) (hm : m ≤ 9) (hT : txOk T d kds pos m) (hzm : pos m = z) (hC : ∀ p, p < z → TC (100 * 3 + p) = T p) (h : Sem S C TS TC nn F (mR st ru at_ ib ho cr la na li it hs gi wr) (mR kst kru kat kib kho kcr kla kna kli kit khs kgi kwr) yn ch ak up lo th) :
    ∃ F' th', o_office th 3 = some (nI m, th') ∧ Sem S C TS TC (nI m) F' (mR 0 0 0 0 0 0 0 0 0 it hs gi wr) (mR kst kru kat kib kho kcr kla kna kli 0 khs kgi kwr) 0 ch ak up lo th' ∧ ∀ i, i < m → ∀ v, v < 6 → F' (6 * i + v) = ek_ds d i v := by
  obtain ⟨fi, fc, ⟨dn, df⟩, ⟨x1, x2, x3, x4, x5, x6, x7, x8, x9, x10, x11, x12, x13⟩, ⟨y1, y2, y3, y4, y5, y6, y7, y8, y9, y10, y11, y12, y13⟩, lv, ba, wa, ly, tr, ca, fw, sn, s2, wh, sq, pk, rfl, hS, hT2⟩ := h
  obtain ⟨F1, e1, -⟩ := read_ok (N := 5000) (S := TS) (C := TC) (F0 := df) (num := dn) (by omega) (show 3 < 4 by omega) hz a hm hT hzm hC
  obtain ⟨F', e2, e3⟩ := read_ok (N := 5000) (S := TS) (C := TC) (F0 := F) (num := nn) (by omega) (show 3 < 4 by omega) hz a hm hT hzm hC
  have hloop : ∀ n1, f_X11_office_b66 5000 (100 : Int32) TS TC (n1 + 1 + 1 + 1 + 1) fi (nI m) F' (nI m) F1 0 0 0 0 0 0 0 0 0 kit x10 y10 0 fc 0 = some (nI m, fi, nI m, F', nI m, F1, 0, 0, 0, 0, 0, 0, 0, 0, 0, 0, 0, 0, 0, fc) := by
    intro n1
    rw [f_X11_office_b66, if_neg (by decide), nm_t, f_X11_office_b66, if_neg (by decide), nm_t, f_X11_office_b66, if_neg (by decide), nm_t, f_X11_office_b66, if_pos (by decide)]
    rfl
  have e : f_X11_office 5000 (100 : Int32) TS TC fi nn F dn df st ru at_ ib ho cr la na li kit x10 y10 yn fc 3 = some (nI m, fi, nI m, F', nI m, F1, 0, 0, 0, 0, 0, 0, 0, 0, 0, 0, 0, 0, 0, fc) := by
    unfold f_X11_office
    rw [show p_X11_refuseMissing 4 TS fi fc (3 : Int32) = _ from sr_miss (k := 3) (by omega) (by omega) a (by omega), nm_t, if_pos rfl, show f_X1_read 5000 4 400 (100 : Int32) TS TC dn df (3 : Int32) = _ from e1, bn_t, if_pos rfl, show f_X1_read 5000 4 400 (100 : Int32) TS TC nn F (3 : Int32) = _ from e2, bn_t, nm_t]
    exact hloop 4996
  exact ⟨F', _, bn_e e, ⟨_, _, (_, _), (_, _, _, _, _, _, _, _, _, _, _, _, _), (_, _, _, _, _, _, _, _, _, _, _, _, _), _, _, _, _, _, _, _, _, _, _, _, _, rfl, hS, hT2⟩, e3⟩
end SEM
