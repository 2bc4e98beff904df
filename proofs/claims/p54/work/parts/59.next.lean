/-! to whom it goes next -/
def ek_keyM (n fr : Nat) (ru : Int32) (j : Nat) : Int32 := if ru = 0 then (((nI j - nI fr) + nI n) - ((nI j - nI fr) + nI n) / nI n * nI n) else if ru = 1 then (if nI j ≤ nI fr then nI fr - nI j else nI j - nI fr) else -(if nI j ≤ nI fr then nI fr - nI j else nI j - nI fr)
def ek_rk (fr : Nat) (ru : Int32) (j : Nat) : Int32 := p_X1_rankOf (nI fr) (nI j) ru
def ek_cmp (ru : Int32) : Bool := (List.range 10).all fun n => (List.range n).all fun fr => (List.range n).all fun f => f == fr || (List.range n).all fun j => j == fr || (decide (ek_keyM n fr ru f ≤ ek_keyM n fr ru j) == decide (ek_rk fr ru f ≤ ek_rk fr ru j))
theorem ek_cmp0 : ek_cmp 0 = true := by decide +kernel
theorem ek_cmp1 : ek_cmp 1 = true := by decide +kernel
theorem ek_cmp2 : ek_cmp 2 = true := by decide +kernel
theorem ek_ord {ru : Int32} (hr : ru = 0 ∨ ru = 1 ∨ ru = 2) {n fr f j : Nat} (hn : n ≤ 9) (h1 : fr < n) (h2 : f < n) (h3 : j < n) (h4 : f ≠ fr) (h5 : j ≠ fr) : (ek_keyM n fr ru f ≤ ek_keyM n fr ru j) ↔ (ek_rk fr ru f ≤ ek_rk fr ru j) := by
  have key : ek_cmp ru = true := by
    rcases hr with rfl | rfl | rfl
    · exact ek_cmp0
    · exact ek_cmp1
    · exact ek_cmp2
  unfold ek_cmp at key
  have a := List.all_eq_true.mp key n (List.mem_range.mpr (by omega))
  have b := List.all_eq_true.mp a fr (List.mem_range.mpr h1)
  have c := List.all_eq_true.mp b f (List.mem_range.mpr h2)
  rw [show (f == fr) = false from beq_eq_false_iff_ne.mpr h4, Bool.false_or] at c
  have d := List.all_eq_true.mp c j (List.mem_range.mpr h3)
  rw [show (j == fr) = false from beq_eq_false_iff_ne.mpr h5, Bool.false_or] at d
  have e := eq_of_beq d
  constructor
  · intro h; exact of_decide_eq_true (by rw [← e]; exact decide_eq_true h)
  · intro h; exact of_decide_eq_true (by rw [e]; exact decide_eq_true h)
def ek_nxs (fr : Nat) (F : Nat → Int32) (c h ru : Int32) (j : Nat) (s : Option Nat) : Option Nat :=
  if ek_bt c j = false ∧ ek_aw (ek_ds F j) h = false then (match s with
    | none => some j
    | some f => if ek_rk fr ru f ≤ ek_rk fr ru j then some f else some j) else s
def ek_nx (n fr : Nat) (F : Nat → Int32) (c h ru : Int32) : Option Nat := ek_fo (ek_nxs fr F c h ru) none n
theorem ek_nxr (fr : Nat) (F : Nat → Int32) (c h ru : Int32) : ∀ m f, ek_fo (ek_nxs fr F c h ru) none m = some f → f < m ∧ ek_bt c f = false := by
  intro m
  induction m with
  | zero => intro f h; cases h
  | succ m ih =>
    intro f hf
    have e : ek_fo (ek_nxs fr F c h ru) none (m + 1) = ek_nxs fr F c h ru m (ek_fo (ek_nxs fr F c h ru) none m) := rfl
    rw [e] at hf
    unfold ek_nxs at hf
    split at hf
    · rename_i q
      split at hf
      · cases hf; exact ⟨by omega, q.1⟩
      · rename_i g hg
        split at hf
        · cases hf; have := ih f hg; exact ⟨by omega, this.2⟩
        · cases hf; exact ⟨by omega, q.1⟩
    · have := ih f hf; exact ⟨by omega, this.2⟩
def ek_all (n : Nat) : Int32 := ((1 : Int32) <<< (nI n &&& 31)) - (1 : Int32)
theorem ek_fullX {n : Nat} {c : Int32} (hn : n ≤ 9) (hc : ek_sub n c) : ((p_X1_all (nI n)) &&& (c ^^^ (-1 : Int32))) = 0 ↔ c = ek_all n := by
  unfold p_X1_all ek_all
  constructor
  · intro h
    apply ek_ext; intro i hi
    have e : ek_bt ((((1 : Int32) <<< (nI n &&& 31)) - (1 : Int32)) &&& (c ^^^ (-1 : Int32))) i = false := by rw [h]; exact ek_b0 i
    rw [ek_band, ek_allb n hn i hi, ek_bxor, ek_bm1 i hi] at e
    rw [ek_allb n hn i hi]
    by_cases q : i < n
    · simp [q] at e; rw [e, decide_eq_true q]
    · rw [hc i (by omega), decide_eq_false q]
  · intro h
    apply ek_ext; intro i hi
    rw [ek_band, ek_allb n hn i hi, ek_bxor, ek_bm1 i hi, h, ek_allb n hn i hi, ek_b0]
    cases decide (i < n) <;> rfl
theorem ek_nxfull {n fr : Nat} {F : Nat → Int32} {c h ru : Int32} (hn : n ≤ 9) (hf : c = ek_all n) : ek_nx n fr F c h ru = none := by
  unfold ek_nx
  have : ek_fo (ek_nxs fr F c h ru) none n = ek_fo (fun _ s => s) none n := by
    apply ek_foext
    intro j hj t
    unfold ek_nxs
    rw [if_neg]
    rintro ⟨q, -⟩
    rw [hf] at q
    unfold ek_all at q
    rw [ek_allb n hn j (by omega), decide_eq_true hj] at q
    cases q
  rw [this]
  have : ∀ m, ek_fo (fun _ (s : Option Nat) => s) none m = none := by
    intro m
    induction m with
    | zero => rfl
    | succ m ih => exact ih
  exact this n
theorem ek_nxX {N n fr : Nat} {F : Nat → Int32} {c h ru : Int32} (hN : 5000 ≤ N) (hn : n ≤ 9) (hc : ek_sub n c) :
    f_X1_nextOf N (nI n) F (nI fr) c h ru = some (if c = ek_all n then -2 else match ek_nx n fr F c (h + 1) ru with | none => -1 | some f => nI f) := by
  unfold f_X1_nextOf
  by_cases hf : c = ek_all n
  · rw [if_pos ((ek_fullX hn hc).mpr hf), if_pos hf]
  · rw [if_neg (fun q => hf ((ek_fullX hn hc).mp q)), if_neg hf]
    refine ek_forI (fun n' x (s : Int32 × Int32) => f_X1_nextOf_b23 N (nI n) F n' (nI fr) c h ru s.1 s.2 x) (fun k s => match ek_fo (ek_nxs fr F c (h + 1) ru) none k with | none => s.1 = -1 | some f => f < 2147483648 ∧ s = (nI f, ek_rk fr ru f)) n N (by omega) ?_ (-1, 0) rfl (fun o => o = some (match ek_nx n fr F c (h + 1) ru with | none => -1 | some f => nI f)) ?_
    · intro n' k s hk hs
      have hstep : f_X1_nextOf_b23 N (nI n) F (n' + 1) (nI fr) c h ru s.1 s.2 (nI k) = (if ek_bt c k = false ∧ ek_aw (ek_ds F k) (h + 1) = false then (if s.1 = -1 then f_X1_nextOf_b23 N (nI n) F n' (nI fr) c h ru (nI k) (ek_rk fr ru k) (nI (k + 1)) else if s.2 ≤ ek_rk fr ru k then f_X1_nextOf_b23 N (nI n) F n' (nI fr) c h ru s.1 s.2 (nI (k + 1)) else f_X1_nextOf_b23 N (nI n) F n' (nI fr) c h ru (nI k) (ek_rk fr ru k) (nI (k + 1))) else f_X1_nextOf_b23 N (nI n) F n' (nI fr) c h ru s.1 s.2 (nI (k + 1))) := by
        rw [f_X1_nextOf_b23, if_neg (nI_ge hk (by omega)), ek_bits c (by omega), ek_awX hn hk]
        unfold f_X1_nextOf_b76 f_X1_nextOf_b84 ek_rk
        simp only [nm]
        rw [nI_1]
        cases ek_bt c k <;> cases ek_aw (ek_ds F k) (h + 1) <;> simp
      have e : ek_fo (ek_nxs fr F c (h + 1) ru) none (k + 1) = ek_nxs fr F c (h + 1) ru k (ek_fo (ek_nxs fr F c (h + 1) ru) none k) := rfl
      by_cases q : ek_bt c k = false ∧ ek_aw (ek_ds F k) (h + 1) = false
      · rw [if_pos q] at hstep
        cases hm : ek_fo (ek_nxs fr F c (h + 1) ru) none k with
        | none =>
          rw [hm] at hs
          rw [if_pos (show s.1 = -1 from hs)] at hstep
          refine ⟨(nI k, ek_rk fr ru k), hstep, ?_⟩
          rw [e, hm]; unfold ek_nxs; rw [if_pos q]; exact ⟨by omega, rfl⟩
        | some f =>
          rw [hm] at hs
          obtain ⟨hf1, hs⟩ := hs
          rw [if_neg (show ¬ s.1 = -1 by rw [hs]; exact (ek_neg ek_m1 (by decide) hf1).2.2.2.2.2)] at hstep
          by_cases r : ek_rk fr ru f ≤ ek_rk fr ru k
          · rw [if_pos (show s.2 ≤ ek_rk fr ru k by rw [hs]; exact r)] at hstep
            refine ⟨s, hstep, ?_⟩
            rw [e, hm]; unfold ek_nxs; rw [if_pos q]; simp only; rw [if_pos r]; exact ⟨hf1, hs⟩
          · rw [if_neg (show ¬ s.2 ≤ ek_rk fr ru k by rw [hs]; exact r)] at hstep
            refine ⟨(nI k, ek_rk fr ru k), hstep, ?_⟩
            rw [e, hm]; unfold ek_nxs; rw [if_pos q]; simp only; rw [if_neg r]; exact ⟨by omega, rfl⟩
      · rw [if_neg q] at hstep
        refine ⟨s, hstep, ?_⟩
        rw [e]; unfold ek_nxs; rw [if_neg q]; exact hs
    · intro n' s hs
      show f_X1_nextOf_b23 N (nI n) F (n' + 1) (nI fr) c h ru s.1 s.2 (nI n) = _
      rw [f_X1_nextOf_b23, if_pos (nI_le (Nat.le_refl _) (by omega))]
      unfold ek_nx
      cases hm : ek_fo (ek_nxs fr F c (h + 1) ru) none n with
      | none => rw [hm] at hs; exact congrArg some hs
      | some f => rw [hm] at hs; rw [hs.2]
theorem ek_nxM {N n fr : Nat} {F D : Nat → Int32} {c h ru : Int32} (hN : 5000 ≤ N) (hD : ek_D n F D) (hr : ru = 0 ∨ ru = 1 ∨ ru = 2) (hfr : fr < n) (hfc : ek_bt c fr = true) :
    f_X12_nextOf N (nI n) D (nI fr) ru c h = some (match ek_nx n fr F c h ru with | none => -9 | some f => nI f) := by
  have hn := hD.1
  unfold f_X12_nextOf
  refine ek_forI (fun n' x (s : Int32 × Int32) => f_X12_nextOf_b10 N (nI n) D n' (nI fr) ru c h s.1 s.2 x) (fun k s => match ek_fo (ek_nxs fr F c h ru) none k with | none => s.1 = -9 | some f => f < n ∧ f ≠ fr ∧ s = (nI f, ek_keyM n fr ru f)) n N (by omega) ?_ (-9, 0) rfl (fun o => o = some (match ek_nx n fr F c h ru with | none => -9 | some f => nI f)) ?_
  · intro n' k s hk hs
    have hstep : f_X12_nextOf_b10 N (nI n) D (n' + 1) (nI fr) ru c h s.1 s.2 (nI k) = (if ek_bt c k = false ∧ ek_aw (ek_ds F k) h = false then (if s.1 = -9 then f_X12_nextOf_b10 N (nI n) D n' (nI fr) ru c h (nI k) (ek_keyM n fr ru k) (nI (k + 1)) else if s.2 ≤ ek_keyM n fr ru k then f_X12_nextOf_b10 N (nI n) D n' (nI fr) ru c h s.1 s.2 (nI (k + 1)) else f_X12_nextOf_b10 N (nI n) D n' (nI fr) ru c h (nI k) (ek_keyM n fr ru k) (nI (k + 1))) else f_X12_nextOf_b10 N (nI n) D n' (nI fr) ru c h s.1 s.2 (nI (k + 1))) := by
      rw [f_X12_nextOf_b10, if_neg (nI_ge hk (by omega)), ek_has c (by omega), ek_awM hD hk, bn_t]
      unfold f_X12_nextOf_b56 f_X12_nextOf_b92 f_X12_nextOf_b108 f_X12_nextOf_b116 ek_keyM
      rw [nI_1, gd_t (nI_ne0 (by omega) (by omega))]
      cases ek_bt c k <;> cases ek_aw (ek_ds F k) h
      · simp only [Bool.false_eq_true, if_false, if_true, and_self]
        by_cases r0 : ru = 0
        · simp only [if_pos r0]
        · simp only [if_neg r0]
      · simp
      · simp
      · simp
    have e : ek_fo (ek_nxs fr F c h ru) none (k + 1) = ek_nxs fr F c h ru k (ek_fo (ek_nxs fr F c h ru) none k) := rfl
    by_cases q : ek_bt c k = false ∧ ek_aw (ek_ds F k) h = false
    · have kf : k ≠ fr := fun w => by rw [w] at q; rw [hfc] at q; exact absurd q.1 (by decide)
      rw [if_pos q] at hstep
      cases hm : ek_fo (ek_nxs fr F c h ru) none k with
      | none =>
        rw [hm] at hs
        rw [if_pos (show s.1 = -9 from hs)] at hstep
        refine ⟨(nI k, ek_keyM n fr ru k), hstep, ?_⟩
        rw [e, hm]; unfold ek_nxs; rw [if_pos q]; exact ⟨hk, kf, rfl⟩
      | some f =>
        rw [hm] at hs
        obtain ⟨hf1, hf2, hs⟩ := hs
        have hne : ¬ s.1 = -9 := by rw [hs]; exact (ek_neg (z := (-9 : Int32)) (k := -9) (by decide) (by decide) (by omega)).2.2.2.2.2
        rw [if_neg hne] at hstep
        by_cases r : ek_rk fr ru f ≤ ek_rk fr ru k
        · rw [if_pos (show s.2 ≤ ek_keyM n fr ru k by rw [hs]; exact (ek_ord hr hn hfr hf1 hk hf2 kf).mpr r)] at hstep
          refine ⟨s, hstep, ?_⟩
          rw [e, hm]; unfold ek_nxs; rw [if_pos q]; simp only; rw [if_pos r]; exact ⟨hf1, hf2, hs⟩
        · rw [if_neg (show ¬ s.2 ≤ ek_keyM n fr ru k by rw [hs]; exact fun z => r ((ek_ord hr hn hfr hf1 hk hf2 kf).mp z))] at hstep
          refine ⟨(nI k, ek_keyM n fr ru k), hstep, ?_⟩
          rw [e, hm]; unfold ek_nxs; rw [if_pos q]; simp only; rw [if_neg r]; exact ⟨hk, kf, rfl⟩
    · rw [if_neg q] at hstep
      refine ⟨s, hstep, ?_⟩
      rw [e]; unfold ek_nxs; rw [if_neg q]; exact hs
  · intro n' s hs
    show f_X12_nextOf_b10 N (nI n) D (n' + 1) (nI fr) ru c h s.1 s.2 (nI n) = _
    rw [f_X12_nextOf_b10, if_pos (nI_le (Nat.le_refl _) (by omega))]
    unfold ek_nx
    cases hm : ek_fo (ek_nxs fr F c h ru) none n with
    | none => rw [hm] at hs; exact congrArg some hs
    | some f => rw [hm] at hs; rw [hs.2.2]
