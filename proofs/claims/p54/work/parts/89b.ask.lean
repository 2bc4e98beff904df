/-! ask: both loops -/
theorem ek_askL {N n H T y z : Nat} {F D g w hs Kn Kt s : Nat → Int32} {W Wn Pn Pt : Nat → Int64} {la na li ho st ru at_ ib ak cr wm wt e1 e2 e3 e4 e5 a1 a2 a3 a4 a5 nn tn : Int32} {th : Int64} {A κ : Nat → Nat} {m : Nat} (hN : 5000 ≤ N) (hn : n ≤ 9) (hS : ek_S nn Pn Kn m κ A) (hM : ek_M W A) (hT : T < 2 ^ 44) (hp : ek_sn (ek_pd A H st) n = T) (hyz : y ≤ z) (hz : z ≤ 99) :
    ∀ r j c n1 n2, r + j = n → ek_sub n c → ek_uc c n = r → ek_pc c = nI j → r < n1 → r < n2 →
    ∃ v c', f_X11_ask_b67 N (f_X11_ask_b142 N (nI n) F st ru at_ ib ho cr) (nI n) F st ru at_ ib ho cr n1 ak (lN T) a1 a2 a3 a4 a5 s nn (lN H) Pn Kn tn th Pt Kt (nI y) (nI z) c (lN (ek_ps (ek_pd A H st) c n)) (nI j) = some (v, c', lN T, a1, a2, a3, a4, a5, s, nn, lN H, Pn, Kn, tn, th, Pt, Kt) ∧ f_X12_ask_b75 N (nI n) la na li ho st ru at_ ib D n2 ak cr wm wt e1 e2 e3 e4 e5 (lN H) (lN T) g w hs W Wn (nI y) (nI z) c (nI j) (lN (ek_ps (ek_pd A H st) c n)) = some (v, c', cr, wm, wt, e1, e2, e3, e4, e5, lN H, lN T, g, w, hs, W, Wn) := by
  have hb : ∀ d, d < n → ek_pd A H st d < 2 ^ 60 := fun d hd => by
    have := ek_snp (f := ek_pd A H st) hd; omega
  have hend : ∀ c j, ek_sub n c → ek_pc c = nI j → f_X11_ask_b142 N (nI n) F st ru at_ ib ho cr ak (lN T) a1 a2 a3 a4 a5 s nn (lN H) Pn Kn tn th Pt Kt c = some (nI j, c, lN T, a1, a2, a3, a4, a5, s, nn, lN H, Pn, Kn, tn, th, Pt, Kt) := by
    intro c j hc hj
    unfold f_X11_ask_b142
    rw [ek_bcX (ek_sub9 hn hc), hj]
    rfl
  intro r
  induction r with
  | zero =>
    intro j c n1 n2 hj hc hu hpc h1 h2
    obtain ⟨n1, rfl⟩ : ∃ q, n1 = q + 1 := ⟨n1 - 1, by omega⟩
    obtain ⟨n2, rfl⟩ : ∃ q, n2 = q + 1 := ⟨n2 - 1, by omega⟩
    refine ⟨nI j, c, ?_, ?_⟩
    · rw [f_X11_ask_b67, if_pos (nI_le (by omega) (by omega)), hend c j hc hpc]
    · rw [f_X12_ask_b75, ek_psall hn hc hu, hp, nI_l (by omega), nI_l (by omega), lN_mul, lN_mul, if_pos ((pk_lLE (by have : T * y ≤ 2 ^ 44 * 99 := Nat.mul_le_mul (by omega) (by omega); omega) (by have : T * z ≤ 2 ^ 44 * 99 := Nat.mul_le_mul (by omega) (by omega); omega)).mpr (Nat.mul_le_mul_left _ hyz))]
      rfl
  | succ r ih =>
    intro j c n1 n2 hj hc hu hpc h1 h2
    obtain ⟨n1, rfl⟩ : ∃ q, n1 = q + 1 := ⟨n1 - 1, by omega⟩
    obtain ⟨n2, rfl⟩ : ∃ q, n2 = q + 1 := ⟨n2 - 1, by omega⟩
    rw [f_X11_ask_b67, if_neg (nI_ge (by omega) (by omega)), f_X12_ask_b75]
    by_cases q : lN T * (nI y).toInt64 ≤ lN (ek_ps (ek_pd A H st) c n) * (nI z).toInt64
    · rw [if_pos q, if_pos q, hend c j hc hpc]
      exact ⟨nI j, c, rfl, rfl⟩
    · obtain ⟨k, hk, hkb⟩ := ek_unset (c := c) (n := n) (by omega)
      obtain ⟨b, eb⟩ := ek_lbs (ek_pd A H st) c hkb n hk
      obtain ⟨b1, b2⟩ := ek_lbb _ c n b eb
      have hlX := ek_lbX (c := c) hN hn hS hb
      have hlM := ek_lbM (la := la) (na := na) (li := li) (ho := ho) (ru := ru) (at_ := at_) (ib := ib) (D := D) (ak := ak) (cr := cr) (wm := wm) (wt := wt) (e1 := e1) (e2 := e2) (e3 := e3) (e4 := e4) (e5 := e5) (g := g) (w := w) (hs := hs) (Wn := Wn) (x2 := nI y) (x3 := nI z) (x5 := nI j) (c := c) (aw := lN T) (x6 := lN (ek_ps (ek_pd A H st) c n)) hN hn hM hb
      rw [eb] at hlX
      simp only [eb] at hlM
      rw [if_neg q, if_neg q, hlX, bn_t, ek_partX (st := st) hN (show b < 9 by omega) hS, bn_t, nm_t, nm_t, hlM]
      unfold f_X12_ask_b150
      rw [nm_t, ek_partM (st := st) hN (show b < 9 by omega) hM, bn_t, nm_t, lN_add, nI_1]
      have es : ek_ps (ek_pd A H st) c n + ((if nI b = st then H else 0) + ek_pa A b) = ek_ps (ek_pd A H st) (ek_sg c b) n := (ek_psg hn b1 b2).symm
      rw [es]
      obtain ⟨c0, hc0, ec0⟩ := ek_small (show n ≤ 31 by omega) hc
      have h9 := ek_p9 hn
      have hpc' : ek_pc (ek_sg c b) = nI (j + 1) := by
        unfold ek_sg
        rw [ec0, ek_pcs c0 (by omega) b (by omega) (by rw [← ec0]; exact b2), ← ec0, hpc, nI_1]
      have hu' := ek_ucsg b2 (show b < 32 by omega) (m := n) (by omega) b1
      exact ih (j + 1) (ek_sg c b) n1 n2 (by omega) (ek_subset hc b1 (by omega)) (by omega) hpc' (by omega) (by omega)
