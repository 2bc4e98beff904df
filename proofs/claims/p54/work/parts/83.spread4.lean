/-! the forecast of the class -/
def ek_Sp (num : Int32) (P : Nat → Int64) (K : Nat → Int32) : Prop := ∃ m κ A, ek_S num P K m κ A
def ek_A0 (pl c : Nat) (ib : Int32) : Nat → Nat := fun q => if ib = 0 then (if q = 9 * c + pl then 1 else 0) else 0
def ek_H0 (ib : Int32) : Nat := if ib = 0 then 0 else 1
theorem ek_In0 {n pl c : Nat} {ib : Int32} (hn : n ≤ 9) (hp : pl < n) (hc : c < 2 ^ n) : ek_In n (ek_A0 pl c ib) (ek_H0 ib) 0 := by
  have h9 := ek_p9 hn
  unfold ek_A0 ek_H0
  by_cases e : ib = 0
  · simp only [e, if_true]
    refine ⟨?_, ?_⟩
    · intro q hq h
      change 0 < (if q = 9 * c + pl then 1 else 0) at h
      by_cases y : q = 9 * c + pl
      · rw [y]; exact ⟨by omega, by omega⟩
      · rw [if_neg y] at h; omega
    · rw [ek_snone, if_pos (by omega)]
  · simp only [e, if_false]
    refine ⟨fun q _ h => absurd h (Nat.lt_irrefl 0), ?_⟩
    rw [ek_snz (fun _ _ => rfl)]
theorem ek_startX {N pl c : Nat} {num ib : Int32} {P : Nat → Int64} {K : Nat → Int32} {wh ph : Int64} (hN : 5000 ≤ N) (h : ek_Sp num P K) (hp : pl < 9) (hc : c < 512) :
    ∃ num' P' K' m' κ', f_X2_startFrom N wh num ph P K (nI pl) (nI c) ib = some (1, num', lN (ek_H0 ib), P', K') ∧ ek_S num' P' K' m' κ' (ek_A0 pl c ib) := by
  obtain ⟨m, κ, A, h⟩ := h
  obtain ⟨P1, e1, g1⟩ := ek_Sclr (ph := ph) hN h
  unfold f_X2_startFrom
  rw [e1, bn_t]
  unfold ek_A0 ek_H0
  by_cases e : ib = 0
  · simp only [e, if_true]
    obtain ⟨num2, P2, K2, m2, κ2, f2, g2⟩ := ek_Sadd (N := N) (v := 1) g1 hp hc (by simp) (by decide)
    rw [show (1 : Int64) = lN 1 from rfl, f2, bn_t]
    exact ⟨num2, P2, K2, m2, κ2, rfl, ek_Sext g2 (fun q _ => by simp)⟩
  · simp only [e, if_false]
    exact ⟨0, P1, K, 0, κ, rfl, g1⟩
theorem ek_passX {N n x ho H : Nat} {F : Nat → Int32} {Pn Pt : Nat → Int64} {Kn Kt s : Nat → Int32} {ru a1 a2 a3 a4 a5 nn tn : Int32} {th : Int64} {A : Nat → Nat} {m : Nat} {κ : Nat → Nat} (hN : 5000 ≤ N) (hn : n ≤ 9) (hw : ∀ i, i < n → ek_wf (ek_ds F i)) (hx : x ≤ 12) (hI : ek_In n A H 0) (hS : ek_S nn Pn Kn m κ A) (hT : ek_Sp tn Pt Kt) :
    ∃ b1 b2 b3 b4 b5 s' nn' Pn' Kn' tn' th' Pt' Kt', f_X2_passHours N (nI n) F 1 a1 a2 a3 a4 a5 s nn (lN H) Pn Kn tn th Pt Kt (nI ho) ru (nI x) = some (lN (12 ^ x), b1, b2, b3, b4, b5, s', nn', lN (ek_it n F ru ho A H x).2, Pn', Kn', tn', th', Pt', Kt') ∧ (∃ m' κ', ek_S nn' Pn' Kn' m' κ' (ek_it n F ru ho A H x).1) ∧ ek_Sp tn' Pt' Kt' := by
  unfold f_X2_passHours
  refine ek_forI (σ := Int64 × Int32 × Int32 × Int32 × Int32 × Int32 × (Nat → Int32) × Int32 × Int64 × (Nat → Int64) × (Nat → Int32) × Int32 × Int64 × (Nat → Int64) × (Nat → Int32)) (fun n2 z t => f_X2_passHours_b3 N (nI n) F n2 t.1 t.2.1 t.2.2.1 t.2.2.2.1 t.2.2.2.2.1 t.2.2.2.2.2.1 t.2.2.2.2.2.2.1 t.2.2.2.2.2.2.2.1 t.2.2.2.2.2.2.2.2.1 t.2.2.2.2.2.2.2.2.2.1 t.2.2.2.2.2.2.2.2.2.2.1 t.2.2.2.2.2.2.2.2.2.2.2.1 t.2.2.2.2.2.2.2.2.2.2.2.2.1 t.2.2.2.2.2.2.2.2.2.2.2.2.2.1 t.2.2.2.2.2.2.2.2.2.2.2.2.2.2 (nI ho) ru (nI x) z)
    (fun i t => t.1 = lN (12 ^ i) ∧ t.2.2.2.2.2.2.2.2.1 = lN (ek_it n F ru ho A H i).2 ∧ (∃ m' κ', ek_S t.2.2.2.2.2.2.2.1 t.2.2.2.2.2.2.2.2.2.1 t.2.2.2.2.2.2.2.2.2.2.1 m' κ' (ek_it n F ru ho A H i).1) ∧ ek_Sp t.2.2.2.2.2.2.2.2.2.2.2.1 t.2.2.2.2.2.2.2.2.2.2.2.2.2.1 t.2.2.2.2.2.2.2.2.2.2.2.2.2.2) x N (by omega) ?_ (1, a1, a2, a3, a4, a5, s, nn, lN H, Pn, Kn, tn, th, Pt, Kt) ⟨rfl, rfl, ⟨m, κ, hS⟩, hT⟩ (fun r => ∃ b1 b2 b3 b4 b5 s' nn' Pn' Kn' tn' th' Pt' Kt', r = some (lN (12 ^ x), b1, b2, b3, b4, b5, s', nn', lN (ek_it n F ru ho A H x).2, Pn', Kn', tn', th', Pt', Kt') ∧ (∃ m' κ', ek_S nn' Pn' Kn' m' κ' (ek_it n F ru ho A H x).1) ∧ ek_Sp tn' Pt' Kt') ?_
  · intro n2 i t hi hI2
    obtain ⟨t1, t2, t3, t4, t5, t6, t7, t8, t9, t10, t11, t12, t13, t14, t15⟩ := t
    obtain ⟨e1, e9, ⟨m1, κ1, g1⟩, m2, κ2, A2, g2⟩ := hI2
    simp only at e1 e9 g1 g2
    try simp only
    have hIi := ek_Initer (ho := ho) (ru := ru) hn hw hI i
    obtain ⟨P1, c1, c2⟩ := ek_Sclr (ph := t13) hN g2
    obtain ⟨b1, b2, b3, b4, b5, s', num', P', K', m', κ', f1, f2⟩ := ek_hrS (wh := t1) (x2 := nI ho) (x5 := nI i) (x4 := nI x) (ru := ru) (a1 := t2) (a2 := t3) (a3 := t4) (a4 := t5) (a5 := t6) (s := t7) (hn' := t9) hN hn hw g1 hIi (by omega) c2 (nI_add ho i) (f_X2_passHours_b75 N (f_X2_passHours_b3 N (nI n) F n2) (nI n) F)
    refine ⟨(t1 * 12, b1, b2, b3, b4, b5, s', num', lN (ek_Ah n F ru (nI (ho + i)) (ek_it n F ru ho A H i).1 (ek_it n F ru ho A H i).2), P', K', t8, t9, t10, t11), ?_, ?_, rfl, ⟨m', κ', f2⟩, m1, κ1, _, g1⟩
    · have eh : t9 * 12 = lN (12 * (ek_it n F ru ho A H i).2) := by
        rw [e9, show (12 : Int64) = lN 12 from rfl, lN_mul, Nat.mul_comm]
      rw [f_X2_passHours_b3, if_neg (nI_ge hi (by omega)), c1, bn_t, eh, f1]
      unfold f_X2_passHours_b75
      rw [nI_1]
    · show t1 * 12 = _
      rw [e1, show (12 : Int64) = lN 12 from rfl, lN_mul, Nat.pow_succ]
  · intro n2 t hI2
    obtain ⟨t1, t2, t3, t4, t5, t6, t7, t8, t9, t10, t11, t12, t13, t14, t15⟩ := t
    obtain ⟨e1, e9, g1, g2⟩ := hI2
    simp only at e1 e9 g1 g2
    try simp only
    refine ⟨t2, t3, t4, t5, t6, t7, t8, t10, t11, t12, t13, t14, t15, ?_, g1, g2⟩
    rw [f_X2_passHours_b3, if_pos (nI_le (Nat.le_refl _) (by omega)), e1, e9]
/-- the part at a desk -/
def ek_pa (A : Nat → Nat) (d : Nat) : Nat := ek_sn (fun q => if q % 9 = d then A q else 0) 4608
theorem ek_partX {N d H : Nat} {num st : Int32} {P : Nat → Int64} {K : Nat → Int32} {m : Nat} {κ A : Nat → Nat} (hN : 5000 ≤ N) (hd : d < 9) (h : ek_S num P K m κ A) :
    f_X2_partAt N num (lN H) P K (nI d) st = some (lN ((if nI d = st then H else 0) + ek_pa A d)) := by
  have hm := ek_Sm h
  have e : ek_pa A d = ek_sn (fun k => if κ k % 9 = d then A (κ k) else 0) m := by
    unfold ek_pa
    exact (ek_snperm (f := fun q => if q % 9 = d then A q else 0) (fun k hk => (h.2.1 k hk).2.1) h.2.2.1 (fun q hq hp => h.2.2.2.2 q hq (by
      by_cases y : q % 9 = d
      · simp only [y, if_true] at hp; exact hp
      · simp only [y, if_false] at hp; omega))).symm
  rw [e]
  unfold f_X2_partAt f_X2_partAt_b16
  have e0 : (if nI d = st then lN H else (0 : Int64)) = lN (if nI d = st then H else 0) := by split <;> rfl
  rw [e0]
  generalize (if nI d = st then H else 0) = B
  have key := ek_forI (fun n2 z (t : Int64) => f_X2_partAt_b20 N num (lN H) P K n2 (nI d) t z) (fun j t => t = lN (B + ek_sn (fun k => if κ k % 9 = d then A (κ k) else 0) j)) m N (by omega) (by
    intro n2 j t hj hI
    refine ⟨_, ?_, rfl⟩
    subst hI
    try simp only
    obtain ⟨g1, g2, g3⟩ := h.2.1 j hj
    have ek : p_X8_deskOf (nI (κ j)) = nI (κ j % 9) := pk_rem (a := κ j) (d := 9) (by omega) (by omega) (by omega)
    have ep : p_X8_partOf P (nI (κ j)) = lN (A (κ j)) := by
      unfold p_X8_partOf
      rw [if_neg (nI_pos (by omega)), if_neg (show ¬ (4608 : Int32) ≤ nI (κ j) from nI_ge (b := 4608) (by omega) (by omega)), nI_clamp (by omega), h.2.2.2.1 _ g2]
    rw [f_X2_partAt_b20, h.1, if_neg (nI_ge hj (by omega)), nm_t, ← h.1, ek_keyAt h hj, ek]
    unfold f_X2_partAt_b64
    by_cases y : κ j % 9 = d
    · rw [if_pos (show nI (κ j % 9) = nI d by rw [y]), nm_t, ep, lN_add, nI_1]
      show _ = f_X2_partAt_b20 N num (lN H) P K n2 (nI d) (lN (B + (ek_sn (fun k => if κ k % 9 = d then A (κ k) else 0) j + (if κ j % 9 = d then A (κ j) else 0)))) (nI (j + 1))
      rw [if_pos y, Nat.add_assoc]
    · rw [if_neg (show ¬ nI (κ j % 9) = nI d from fun z => y ((nI_eq (by omega) (by omega)).mp z)), nI_1]
      show _ = f_X2_partAt_b20 N num (lN H) P K n2 (nI d) (lN (B + (ek_sn (fun k => if κ k % 9 = d then A (κ k) else 0) j + (if κ j % 9 = d then A (κ j) else 0)))) (nI (j + 1))
      rw [if_neg y]; rfl) (lN B) rfl (fun r => r = some (lN (B + ek_sn (fun k => if κ k % 9 = d then A (κ k) else 0) m))) (by
    intro n2 t hI
    subst hI
    try simp only
    rw [f_X2_partAt_b20, h.1, if_pos (nI_le (Nat.le_refl _) (by omega))])
  exact key
