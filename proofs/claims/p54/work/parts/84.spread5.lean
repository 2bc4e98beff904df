/-! the model's odds: one hour from one key -/
def ek_si (y : Nat) : Nat := 9 * (y % 512) + y / 512
def ek_M (W : Nat → Int64) (A : Nat → Nat) : Prop := ∀ y, y < 4608 → W y = lN (A (ek_si y))
theorem ek_silt {y : Nat} (h : y < 4608) : ek_si y < 4608 := by unfold ek_si; omega
theorem ek_sie {y p c : Nat} (h : y < 4608) (hp : p < 9) (hc : c < 512) : ek_si y = 9 * c + p ↔ y = 512 * p + c := by
  unfold ek_si
  constructor
  · intro e; omega
  · intro e; omega
theorem ek_Mup {W : Nat → Int64} {A : Nat → Nat} {p c v : Nat} (h : ek_M W A) (hp : p < 9) (hc : c < 512) : ek_M (vp_updL W (512 * p + c) (W (512 * p + c) + lN v)) (fun q => A q + (if q = 9 * c + p then v else 0)) := by
  intro y hy
  by_cases e : y = 512 * p + c
  · have e2 := (ek_sie hy hp hc).mpr e
    try simp only
    rw [if_pos e2, e, pk_uLs, h _ (by omega), lN_add]
  · have e2 : ¬ ek_si y = 9 * c + p := fun z => e ((ek_sie hy hp hc).mp z)
    try simp only
    rw [if_neg e2, pk_uLn e, h y hy, Nat.add_zero]
theorem ek_Mext {W : Nat → Int64} {A A' : Nat → Nat} (h : ek_M W A) (e : ∀ q, q < 4608 → A' q = A q) : ek_M W A' := fun y hy => by rw [e _ (ek_silt hy)]; exact h y hy
theorem ek_adM {N n x w Hb : Nat} {F D g wr hs : Nat → Int32} {W Wn : Nat → Int64} {ru h la na li ho st cr wm wt e1 e2 e3 e4 e5 : Int32} {B : Nat → Nat} (hN : 5000 ≤ N) (hD : ek_D n F D) (hr : ru = 0 ∨ ru = 1 ∨ ru = 2) (hT : ek_T la na li) (hx : x < 512 * n) (hc : x % 512 < 2 ^ n) (hW : W x = lN w) (hM : ek_M Wn B) :
    ∃ wm' wt' e1' e2' e3' e4' e5' Wn', f_X12_addHour N (nI n) la na li ho st D W cr wm wt e1 e2 e3 e4 e5 (lN Hb) g wr hs Wn (nI x) ru h = some (cr, wm', wt', e1', e2', e3', e4', e5', lN (Hb + ek_th (ek_q n F ru h (ek_si x)) w), g, wr, hs, Wn') ∧ ek_M Wn' (fun q => B q + ek_ta (ek_q n F ru h (ek_si x)) w q) := by
  have hn := hD.1
  have h9 := ek_p9 hn
  have hpl : x / 512 < n := by omega
  have s1 : ek_si x % 9 = x / 512 := by unfold ek_si; omega
  have s2 : ek_si x / 9 = x % 512 := by unfold ek_si; omega
  have hk := ek_qks (q := ek_si x) (ru := ru) (h := h) hn hD.2.2 (by omega) (by omega)
  obtain ⟨wm1, wt1, to1, S1, r1, r2, r3⟩ := ek_phM (F := F) (D := D) (ru := ru) (h := h) (law := la) (named := na) (linked := li) (hour := ho) (began := st) (tr := 0) hN hD hr hT 9 (x / 512) (nI (x % 512)) cr wm wt e5 g wr hs N (by omega) hpl (ek_subn hn hc) (ek_en9 hn hpl) (Or.inl rfl)
  rw [if_pos rfl] at r3
  subst r3
  have eR : ek_q n F ru h (ek_si x) = ek_ph n F ru h 9 (x / 512) (nI (x % 512)) := by unfold ek_q; rw [s1, s2]
  rw [eR] at hk ⊢
  generalize ek_ph n F ru h 9 (x / 512) (nI (x % 512)) = R at *
  obtain ⟨b1, ⟨c, hc2, e2⟩, b3, ⟨z, hz, e4⟩, b5⟩ := id hk
  have ecl : R.2.2.1.toNatClampNeg = c := by rw [e2, nI_clamp (by omega)]
  have t1e : ek_t1 R = 9 * c + R.2.1 := by unfold ek_t1; rw [ecl]
  unfold f_X12_addHour f_X12_passHour
  rw [show nI x / (512 : Int32) = nI (x / 512) from pk_div (a := x) (d := 512) (by omega) (by omega) (by omega), show nI x - nI (x / 512) * (512 : Int32) = nI (x % 512) by rw [← show nI x / (512 : Int32) = nI (x / 512) from pk_div (a := x) (d := 512) (by omega) (by omega) (by omega)]; exact pk_rem (a := x) (d := 512) (by omega) (by omega) (by omega), r1, bn_t]
  have xb : inb (nI x) 4608 = true := ek_inb46 (by omega)
  have xc : (nI x).toNatClampNeg = x := nI_clamp (by omega)
  have key : ∀ p, 512 * nI p + nI c = nI (512 * p + c) := fun p => by rw [show (512 : Int32) * nI p = nI (512 * p) from pk_mul 512 p, nI_add]
  unfold f_X12_addHour_b46 f_X12_addHour_b76 f_X12_addHour_b101 f_X12_addHour_b147
  have f9 : ¬ ((-9 : Int32) = 0) := by decide
  rcases Nat.eq_zero_or_pos z with z0 | z0
  · -- no heap
    subst z0
    have hp0 : R.2.2.2.2 = 0 := e4
    have me : ek_me st R.2.1 R.2.2.2.1 R.2.2.2.2 = (if R.2.2.2.1 = -2 then (st, 1, 0) else if R.2.2.2.1 = -1 then (nI R.2.1, 0, 0) else (R.2.2.2.1, 0, 0)) := by unfold ek_me; rw [if_pos hp0]
    simp only [me]
    rcases b3 with b | b | ⟨f, hf, b⟩
    · have hx12 : ek_tx R = 12 := by unfold ek_tx; rw [if_neg (by rw [b]; decide), if_pos (by rw [hp0]; decide)]
      simp only [if_pos b]
      rw [if_neg (show ¬ (if (0 : Int32) ≤ 0 then (1 : Int32) else (if to1 = -9 then 1 else 0)) = 0 by rw [if_pos (show (0 : Int32) ≤ 0 from Int32.le_refl _)]; decide), gd_t xb, xc, hW, if_pos (show (0 : Int32) ≤ 0 from Int32.le_refl _), if_pos (show (0 : Int32) ≤ 0 from Int32.le_refl _), if_neg (show ¬ (1 : Int32) = 0 by decide), if_pos (show (12 : Int64) ≤ 12 from Int64.le_refl _), show (12 : Int64) = lN 12 from rfl, lN_mul, lN_add]
      refine ⟨wm1, wt1, st, R.2.2.1, 1, 0, to1, Wn, ?_, ?_⟩
      · unfold ek_th; rw [if_pos b, hx12, Nat.mul_comm w 12]
      · refine ek_Mext hM (fun q _ => ?_)
        unfold ek_ta
        rw [hx12, if_pos (show R.2.2.2.1 < 0 by rw [b]; decide)]
        simp
    · have hx0 : ek_tx R = 0 := by unfold ek_tx; rw [if_pos b]
      have n2 : ¬ R.2.2.2.1 = -2 := by rw [b]; decide
      simp only [if_neg n2, if_pos b]
      rw [if_pos (show (if (0 : Int32) ≤ 0 then (0 : Int32) else (if to1 = -9 then 1 else 0)) = 0 by rw [if_pos (show (0 : Int32) ≤ 0 from Int32.le_refl _)]), if_pos (show (0 : Int32) ≤ 0 from Int32.le_refl _), if_pos (show (0 : Int32) ≤ 0 from Int32.le_refl _), if_true, if_neg (show ¬ (12 : Int64) ≤ 0 by decide), e2, key, gd_t (ek_inb46 (by omega)), gd_t xb, xc, hW, nI_clamp (by omega), show (12 : Int64) - 0 = lN 12 by decide, lN_mul]
      refine ⟨wm1, wt1, nI R.2.1, nI c, 0, 0, to1, _, ?_, ek_Mext (ek_Mup (v := 12 * w) hM (show R.2.1 < 9 by omega) (show c < 512 by omega)) (fun q _ => ?_)⟩
      · unfold ek_th; rw [if_neg n2, show (0 : Int64) = lN 0 from rfl, lN_add]
      · unfold ek_ta
        rw [hx0, if_pos (show R.2.2.2.1 < 0 by rw [b]; decide), t1e, Nat.mul_comm w]
        simp
    · have n2 : ¬ R.2.2.2.1 = -2 := by rw [b]; exact (ek_neg (z := (-2 : Int32)) (k := -2) (by decide) (by decide) (by omega)).2.2.2.2.2
      have n1 : ¬ R.2.2.2.1 = -1 := by rw [b]; exact (ek_neg ek_m1 (by decide) (by omega)).2.2.2.2.2
      have n0 : ¬ R.2.2.2.1 < 0 := by rw [b]; exact nI_pos (by omega)
      have hx12 : ek_tx R = 12 := by unfold ek_tx; rw [if_neg n1, if_pos (by rw [hp0]; decide)]
      have t2e : ek_t2 R = 9 * c + f := by unfold ek_t2; rw [ecl, b, nI_clamp (by omega)]
      simp only [if_neg n2, if_neg n1]
      rw [if_pos (show (if (0 : Int32) ≤ 0 then (0 : Int32) else (if to1 = -9 then 1 else 0)) = 0 by rw [if_pos (show (0 : Int32) ≤ 0 from Int32.le_refl _)]), if_pos (show (0 : Int32) ≤ 0 from Int32.le_refl _), if_pos (show (0 : Int32) ≤ 0 from Int32.le_refl _), if_true, if_neg (show ¬ (12 : Int64) ≤ 0 by decide), e2, show 512 * R.2.2.2.1 + nI c = nI (512 * f + c) by rw [b]; exact key f, gd_t (ek_inb46 (by omega)), gd_t xb, xc, hW, nI_clamp (by omega), show (12 : Int64) - 0 = lN 12 by decide, lN_mul]
      refine ⟨wm1, wt1, R.2.2.2.1, nI c, 0, 0, to1, _, ?_, ek_Mext (ek_Mup (v := 12 * w) hM (show f < 9 by omega) (show c < 512 by omega)) (fun q _ => ?_)⟩
      · unfold ek_th; rw [if_neg n2, show (0 : Int64) = lN 0 from rfl, lN_add]
      · unfold ek_ta
        rw [hx12, if_neg n0, t2e, Nat.mul_comm w 12]
        simp
  · -- under a heap
    have hpn : ¬ R.2.2.2.2 = 0 := by rw [e4]; exact nI_ne0 (by omega) (by omega)
    have hpp : ¬ R.2.2.2.2 ≤ 0 := by rw [e4]; exact nI_nle z0 (by omega)
    have n1 : ¬ R.2.2.2.1 = -1 := fun q => hpn (b5 q)
    have hxz : ek_tx R = z := by unfold ek_tx; rw [if_neg n1, if_neg hpp, e4, nI_clamp (by omega)]
    have me : ek_me st R.2.1 R.2.2.2.1 R.2.2.2.2 = (nI R.2.1, 0, R.2.2.2.2) := by unfold ek_me; rw [if_neg hpn]
    simp only [me, if_neg hpp]
    rw [r2 hpn]
    have e64 : R.2.2.2.2.toInt64 = lN z := by rw [e4, nI_l (by omega)]
    have n12 : ¬ (12 : Int64) ≤ lN z := fun q => by have := (pk_lLE (a := 12) (b := z) (by omega) (by omega)).mp q; omega
    have s12 : (12 : Int64) - lN z = lN (12 - z) := lN_sub (a := 12) (by omega)
    rw [e64]
    rcases b3 with b | b | ⟨f, hf, b⟩
    · rw [if_pos b]
      have n0 : R.2.2.2.1 < 0 := by rw [b]; decide
      rw [if_neg (show ¬ (if (-9 : Int32) = -9 then (1 : Int32) else 0) = 0 by decide), gd_t xb, xc, hW, if_neg (show ¬ (if (-9 : Int32) = -9 then (1 : Int32) else 0) = 0 by decide), if_neg n12, e2, key, gd_t (ek_inb46 (by omega)), gd_t xb, nI_clamp (by omega), s12, lN_mul, lN_mul, lN_add]
      refine ⟨wm1, wt1, nI R.2.1, nI c, 0, R.2.2.2.2, -9, _, ?_, ek_Mext (ek_Mup (v := (12 - z) * w) hM (show R.2.1 < 9 by omega) (show c < 512 by omega)) (fun q _ => ?_)⟩
      · unfold ek_th; rw [if_pos b, hxz, Nat.mul_comm w z]
      · unfold ek_ta
        rw [hxz, if_pos n0, t1e, Nat.mul_comm w]
        simp
    · exact absurd b n1
    · have n2 : ¬ R.2.2.2.1 = -2 := by rw [b]; exact (ek_neg (z := (-2 : Int32)) (k := -2) (by decide) (by decide) (by omega)).2.2.2.2.2
      have n9 : ¬ R.2.2.2.1 = -9 := by rw [b]; exact (ek_neg (z := (-9 : Int32)) (k := -9) (by decide) (by decide) (by omega)).2.2.2.2.2
      have n0 : ¬ R.2.2.2.1 < 0 := by rw [b]; exact nI_pos (by omega)
      have t2e : ek_t2 R = 9 * c + f := by unfold ek_t2; rw [ecl, b, nI_clamp (by omega)]
      rw [if_neg n2, if_neg n9, if_pos (rfl : (0 : Int32) = 0), if_pos (rfl : (0 : Int32) = 0), e2, show 512 * R.2.2.2.1 + nI c = nI (512 * f + c) by rw [b]; exact key f, gd_t (ek_inb46 (by omega)), gd_t xb, if_neg n12, key, gd_t (ek_inb46 (by omega)), gd_t xb, nI_clamp (show 512 * f + c < 2 ^ 31 by omega), nI_clamp (show 512 * R.2.1 + c < 2 ^ 31 by omega), xc, hW, s12, lN_mul, lN_mul]
      refine ⟨wm1, wt1, nI R.2.1, nI c, 0, R.2.2.2.2, R.2.2.2.1, _, ?_, ek_Mext (ek_Mup (v := (12 - z) * w) (ek_Mup (v := z * w) hM (show f < 9 by omega) (show c < 512 by omega)) (show R.2.1 < 9 by omega) (show c < 512 by omega)) (fun q _ => ?_)⟩
      · unfold ek_th; rw [if_neg n2, show (0 : Int64) = lN 0 from rfl, lN_add]
      · unfold ek_ta
        rw [hxz, if_neg n0, t1e, t2e, Nat.mul_comm w, Nat.mul_comm w]
        try simp only
        omega
