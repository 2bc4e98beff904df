/-! digest -/
def ek_mx (h : Int64) (v : Int32) : Int64 := ((31 : Int64) * h) + v.toInt64
theorem ek_mxX (h : Int64) (v : Int32) : ((31 : Int64) * h) + v.toInt64 = ek_mx h v := rfl
theorem ek_mxM (h : Int64) (v : Int32) : p_X12_mix h v = ek_mx h v := rfl
def ek_mr (P : Nat) (S C : Nat → Int32) (k : Nat) (h : Int64) : Int64 := ek_fo (fun i s => ek_mx s (C (P * k + i))) (ek_mx h (S k)) (S k).toNatClampNeg
def ek_mt (K P : Nat) (S C : Nat → Int32) (h : Int64) : Int64 := ek_fo (ek_mr P S C) h K
theorem ek_m10 : (-1 : Int32).toNatClampNeg = 0 := by decide
theorem ek_mtX {N K P nC : Nat} {S C S' C' : Nat → Int32} (hN : 5000 ≤ N) (hK : K < 10) (hP : P < 1000) (hC : K * P = nC) (hn : nC < 1000) (hH : ek_H K P S C S' C') (h : Int64) : f_X7_mixInto N K nC (nI P) S C h = some (ek_mt K P S C h) := by
  unfold f_X7_mixInto ek_mt
  refine ek_for (fun n2 x s => f_X7_mixInto_b5 N K nC (nI P) S C n2 s x) (ek_mr P S C) (fun _ _ => True) K N (by omega) ?_ h trivial _ ?_
  · intro n2 k s hk _
    refine ⟨?_, trivial⟩
    try simp only
    rw [f_X7_mixInto_b5, if_neg (show ¬ Int32.ofNat K ≤ nI k from nI_ge hk (by omega)), ek_siz S hk (by omega), nm_t, ek_mxX]
    unfold ek_mr
    rcases hH k hk with ⟨a, b⟩ | ⟨z, hz, a, b, -⟩
    · refine ek_for (fun n3 x s => f_X7_mixInto_b32 N K nC (f_X7_mixInto_b65 N K nC (f_X7_mixInto_b5 N K nC (nI P) S C n2) (nI P) S C) (nI P) S C n3 s (nI k) x) (fun i s => ek_mx s (C (P * k + i))) (fun _ _ => True) (S k).toNatClampNeg N (by rw [a, ek_m10]; omega) ?_ _ trivial _ ?_
      · intro n3 i s hi _
        rw [a, ek_m10] at hi; omega
      · intro n3 _
        try simp only
        rw [f_X7_mixInto_b32, ek_siz S hk (by omega), if_pos (show S k ≤ nI (S k).toNatClampNeg by rw [a, ek_m10]; decide)]
        unfold f_X7_mixInto_b65
        rw [nI_1]
    · have e : (S k).toNatClampNeg = z := by rw [a, nI_clamp (by omega)]
      refine ek_for (fun n3 x s => f_X7_mixInto_b32 N K nC (f_X7_mixInto_b65 N K nC (f_X7_mixInto_b5 N K nC (nI P) S C n2) (nI P) S C) (nI P) S C n3 s (nI k) x) (fun i s => ek_mx s (C (P * k + i))) (fun _ _ => True) (S k).toNatClampNeg N (by omega) ?_ _ trivial _ ?_
      · intro n3 i s hi _
        refine ⟨?_, trivial⟩
        try simp only
        rw [f_X7_mixInto_b32, ek_siz S hk (by omega), if_neg (show ¬ S k ≤ nI i by rw [a]; exact nI_ge (by omega) (by omega)), ek_cell C a hk (by omega) hz hC hn hK hP, nm_t, ek_mxX, nI_1]
      · intro n3 _
        try simp only
        rw [f_X7_mixInto_b32, ek_siz S hk (by omega), if_pos (show S k ≤ nI (S k).toNatClampNeg by rw [e, a]; exact nI_le (Nat.le_refl _) (by omega))]
        unfold f_X7_mixInto_b65
        rw [nI_1]
  · intro n2 _
    try simp only
    rw [f_X7_mixInto_b5, if_pos (show Int32.ofNat K ≤ nI K from nI_le (Nat.le_refl _) (by omega))]
def ek_tv (cr : Int32) (hs gi wr : Nat → Int32) (i w : Nat) : Int32 := if w = 0 then (if ek_bt cr i then 1 else 0) else if ek_bt cr i then (if w = 1 then hs i else if w = 2 then gi i else wr i) else -9
def ek_dk (F : Nat → Int32) (cr : Int32) (hs gi wr ch : Nat → Int32) (y i : Nat) (h : Int64) : Int64 := ek_mx (ek_fo (fun w s => ek_mx s (ek_tv cr hs gi wr i w)) (ek_fo (fun w s => ek_mx s (ek_ds F i w)) h 6) 4) (ek_ba ch y i)
theorem ek_dkX {N n y i : Nat} {F hs gi wr ch : Nat → Int32} {cr : Int32} (hN : 5000 ≤ N) (hn : n ≤ 9) (hi : i < n) (hy : y ≤ 40) (h : Int64) : f_X11_mixDesk N (nI n) F cr hs gi wr (nI y) ch h (nI i) = some (ek_dk F cr hs gi wr ch y i h) := by
  unfold f_X11_mixDesk ek_dk
  refine ek_for (fun n2 x s => f_X11_mixDesk_b6 N (f_X11_mixDesk_b39 N (nI n) F cr hs gi wr (nI y) ch) (nI n) F cr hs gi wr (nI y) ch n2 (nI i) s x) (fun w s => ek_mx s (ek_ds F i w)) (fun _ _ => True) 6 N (by omega) ?_ h trivial _ ?_
  · intro n2 w s hw _
    refine ⟨?_, trivial⟩
    try simp only
    rw [f_X11_mixDesk_b6, if_neg (show ¬ (6 : Int32) ≤ nI w from nI_ge (b := 6) hw (by omega)), ek_fact F hn hi hw, nm_t, ek_mxX, nI_1]
  · intro n2 _
    try simp only
    rw [f_X11_mixDesk_b6, if_pos (show (6 : Int32) ≤ nI 6 from nI_le (a := 6) (Nat.le_refl _) (by omega))]
    unfold f_X11_mixDesk_b39
    refine ek_for (fun n2 x s => f_X11_mixDesk_b42 N (nI n) F cr hs gi wr (nI y) ch n2 (nI i) s x) (fun w s => ek_mx s (ek_tv cr hs gi wr i w)) (fun _ _ => True) 4 N (by omega) ?_ _ trivial _ ?_
    · intro n2 w s hw _
      refine ⟨?_, trivial⟩
      try simp only
      rw [f_X11_mixDesk_b42, if_neg (show ¬ (4 : Int32) ≤ nI w from nI_ge (b := 4) hw (by omega)), ek_toldX (show i < 9 by omega) (show w ≤ 3 by omega), bn_t, nm_t, ek_mxX, nI_1]
      rfl
    · intro n2 _
      try simp only
      rw [f_X11_mixDesk_b42, if_pos (show (4 : Int32) ≤ nI 4 from nI_le (a := 4) (Nat.le_refl _) (by omega)), ek_baX hN hy (by omega), bn_t, ek_mxX]
def ek_hd (la na li st ru at_ ib : Int32) (h : Int64) : Int64 := ek_mx (ek_mx (ek_mx (ek_mx (ek_mx (ek_mx (ek_mx h la) na) li) st) ru) at_) (if ib = 0 then 0 else 1)
theorem ek_hdX (la na li st ru at_ ib : Int32) (h : Int64) : p_X6_mixInto st ru at_ ib la na li h = ek_hd la na li st ru at_ ib h := by
  unfold p_X6_mixInto ek_hd
  rw [nm_t, ek_mxX, nm_t, ek_mxX, nm_t, ek_mxX, nm_t, ek_mxX, nm_t, ek_mxX, nm_t, ek_mxX]
  by_cases q : ib = 0
  · rw [if_pos q, if_pos q]; rfl
  · rw [if_neg q, if_neg q]; rfl
def ek_dt (F : Nat → Int32) (la na li st ru at_ ib cr : Int32) (hs gi wr lv ch : Nat → Int32) (n y : Nat) (kh : Nat → Int32) (h : Int64) : Int64 := ek_fo (fun j s => ek_mx s (kh j)) (ek_fo (fun q s => ek_mx s (lv q)) (ek_fo (ek_dk F cr hs gi wr ch y) (ek_hd la na li st ru at_ ib h) n) y) 3
theorem ek_dtM {N n y : Nat} {F D hs gi wr hs' gi' wr' lv ch ys K : Nat → Int32} {la na li st ru at_ ib cr : Int32} (hN : 5000 ≤ N) (hD : ek_D n F D) (hy : y ≤ 40) (he : ∀ i, i < 9 → hs' i = hs i ∧ gi' i = gi i ∧ wr' i = wr i) (hY : ∀ q, q < y → ∃ i, i < n ∧ lv q = nI i ∧ ys (10 * q) = nI i ∧ ∀ j, j < n → ch (9 * q + j) = if j = i then ek_s (fun p => ys (10 * q + 1 + p)) n else -ys (10 * q + 1 + j)) (h : Int64) :
    f_X12_mixOffice N (nI n) la na li cr st ru at_ ib (nI y) D gi' wr' hs' K ys h = some (ek_dt F la na li st ru at_ ib cr hs gi wr lv ch n y (fun j => if K (50 * j) = -9 then -1 else K (50 * j)) h) := by
  have hn := hD.1
  unfold f_X12_mixOffice ek_dt ek_hd
  rw [nm_t, ek_mxM, nm_t, ek_mxM, nm_t, ek_mxM, nm_t, ek_mxM, nm_t, ek_mxM, nm_t, ek_mxM]
  unfold f_X12_mixOffice_b61
  rw [nm_t, ek_mxM]
  refine ek_for (fun n2 x s => f_X12_mixOffice_b66 N (f_X12_mixOffice_b135 N (nI n) la na li cr st ru at_ ib (nI y) D gi' wr' hs' K ys) (nI n) la na li cr st ru at_ ib (nI y) D gi' wr' hs' K ys n2 s x) (ek_dk F cr hs gi wr ch y) (fun _ _ => True) n N (by omega) ?_ _ trivial _ ?_
  · intro n2 i s hi _
    refine ⟨?_, trivial⟩
    try simp only
    rw [f_X12_mixOffice_b66, if_neg (nI_ge hi (by omega))]
    unfold ek_dk
    refine ek_for (fun n3 x s => f_X12_mixOffice_b76 N (f_X12_mixOffice_b97 N (f_X12_mixOffice_b66 N (f_X12_mixOffice_b135 N (nI n) la na li cr st ru at_ ib (nI y) D gi' wr' hs' K ys) (nI n) la na li cr st ru at_ ib (nI y) D gi' wr' hs' K ys n2) (f_X12_mixOffice_b135 N (nI n) la na li cr st ru at_ ib (nI y) D gi' wr' hs' K ys) (nI n) la na li cr st ru at_ ib (nI y) D gi' wr' hs' K ys) (nI n) la na li cr st ru at_ ib (nI y) D gi' wr' hs' K ys n3 s (nI i) x) (fun w s => ek_mx s (ek_ds F i w)) (fun _ _ => True) 6 N (by omega) ?_ s trivial _ ?_
    · intro n3 w s hw _
      refine ⟨?_, trivial⟩
      try simp only
      rw [f_X12_mixOffice_b76, if_neg (show ¬ (5 : Int32) < nI w from nI_nlt (a := 5) (by omega) (by omega)), ek_ofD hD hi hw, bn_t, nm_t, ek_mxM, nI_1]
    · intro n3 _
      try simp only
      rw [f_X12_mixOffice_b76, if_pos (show (5 : Int32) < nI 6 by decide)]
      unfold f_X12_mixOffice_b97
      refine ek_for (fun n3 x s => f_X12_mixOffice_b99 N (f_X12_mixOffice_b120 N (f_X12_mixOffice_b66 N (f_X12_mixOffice_b135 N (nI n) la na li cr st ru at_ ib (nI y) D gi' wr' hs' K ys) (nI n) la na li cr st ru at_ ib (nI y) D gi' wr' hs' K ys n2) (f_X12_mixOffice_b135 N (nI n) la na li cr st ru at_ ib (nI y) D gi' wr' hs' K ys) (nI n) la na li cr st ru at_ ib (nI y) D gi' wr' hs' K ys) (nI n) la na li cr st ru at_ ib (nI y) D gi' wr' hs' K ys n3 s (nI i) x) (fun w s => ek_mx s (ek_tv cr hs gi wr i w)) (fun _ _ => True) 4 N (by omega) ?_ _ trivial _ ?_
      · intro n3 w s hw _
        refine ⟨?_, trivial⟩
        have e3 := he i (by omega)
        try simp only
        rw [f_X12_mixOffice_b99, if_neg (show ¬ (3 : Int32) < nI w from nI_nlt (a := 3) (by omega) (by omega)), ek_toldM (show i < 9 by omega) (show w ≤ 3 by omega), bn_t, nm_t, ek_mxM, nI_1, e3.1, e3.2.1, e3.2.2]
        rfl
      · intro n3 _
        try simp only
        rw [f_X12_mixOffice_b99, if_pos (show (3 : Int32) < nI 4 by decide)]
        unfold f_X12_mixOffice_b120
        rw [ek_baM hN hn hi hy hY, bn_t, nm_t, ek_mxM, nI_1]
  · intro n2 _
    try simp only
    rw [f_X12_mixOffice_b66, if_pos (nI_le (Nat.le_refl _) (by omega))]
    unfold f_X12_mixOffice_b135
    refine ek_for (fun n2 x s => f_X12_mixOffice_b137 N (f_X12_mixOffice_b164 N (nI n) la na li cr st ru at_ ib (nI y) D gi' wr' hs' K ys) (nI n) la na li cr st ru at_ ib (nI y) D gi' wr' hs' K ys n2 s x) (fun q s => ek_mx s (lv q)) (fun _ _ => True) y N (by omega) ?_ _ trivial _ ?_
    · intro n3 q s hq _
      refine ⟨?_, trivial⟩
      obtain ⟨i, -, e1, e2, -⟩ := hY q hq
      try simp only
      rw [f_X12_mixOffice_b137, if_neg (nI_ge hq (by omega)), show (10 : Int32) * nI q = nI (10 * q) from pk_mul 10 q, gd_t (ek_inb (by omega) (by omega)), nI_clamp (by omega), nm_t, ek_mxM, nI_1, e2, e1]
    · intro n3 _
      try simp only
      rw [f_X12_mixOffice_b137, if_pos (nI_le (Nat.le_refl _) (by omega))]
      unfold f_X12_mixOffice_b164
      refine ek_for (fun n2 x s => f_X12_mixOffice_b166 N (nI n) la na li cr st ru at_ ib (nI y) D gi' wr' hs' K ys n2 s x) (fun j s => ek_mx s (if K (50 * j) = -9 then -1 else K (50 * j))) (fun _ _ => True) 3 N (by omega) ?_ _ trivial _ ?_
      · intro n4 j s hj _
        refine ⟨?_, trivial⟩
        try simp only
        rw [f_X12_mixOffice_b166, if_neg (show ¬ (3 : Int32) ≤ nI j from nI_ge (b := 3) hj (by omega)), show (50 : Int32) * nI j = nI (50 * j) from pk_mul 50 j, gd_t (ek_inb (by omega) (by omega)), nI_clamp (by omega)]
        unfold f_X12_mixOffice_b199
        rw [nm_t, ek_mxM, nI_1]
      · intro n4 _
        try simp only
        rw [f_X12_mixOffice_b166, if_pos (show (3 : Int32) ≤ nI 3 from nI_le (a := 3) (Nat.le_refl _) (by omega))]
theorem ek_mtM6 {N n y : Nat} {S C S' C' L' T' D hs' gi' wr' ys K : Nat → Int32} {la na li st ru at_ ib cr ho : Int32} (hN : 5000 ≤ N) (hH : ek_H 6 40 S C S' C') (kk : Int64 → Option (Int64 × Int64)) (h : Int64) : f_X12_digest_b36 N kk (nI n) la na li cr ho st ru at_ ib (nI y) S' C' L' T' D gi' wr' hs' K ys N h 0 = kk (ek_mt 6 40 S C h) := by
  unfold ek_mt
  refine ek_for (fun n2 x s => f_X12_digest_b36 N kk (nI n) la na li cr ho st ru at_ ib (nI y) S' C' L' T' D gi' wr' hs' K ys n2 s x) (ek_mr 40 S C) (fun _ _ => True) 6 N (by omega) ?_ h trivial _ ?_
  · intro n2 k s hk _
    refine ⟨?_, trivial⟩
    try simp only
    rw [f_X12_digest_b36, if_neg (show ¬ (6 : Int32) ≤ nI k from nI_ge (b := 6) hk (by omega)), gd_t (ek_inb (by omega) (by omega)), nI_clamp (by omega)]
    unfold f_X12_digest_b62 ek_mr
    rcases hH k hk with ⟨a, b⟩ | ⟨z, hz, a, b, c⟩
    · rw [b, if_neg (show ¬ (0 : Int32) ≤ -9 by decide), nm_t, ek_mxM, ← a]
      refine ek_for (fun n3 x s => f_X12_digest_b67 N (f_X12_digest_b93 N (f_X12_digest_b36 N kk (nI n) la na li cr ho st ru at_ ib (nI y) S' C' L' T' D gi' wr' hs' K ys n2) kk (nI n) la na li cr ho st ru at_ ib (nI y) S' C' L' T' D gi' wr' hs' K ys) (nI n) la na li cr ho st ru at_ ib (nI y) S' C' L' T' D gi' wr' hs' K ys n3 s (nI k) x) (fun i s => ek_mx s (C (40 * k + i))) (fun _ _ => True) (S k).toNatClampNeg N (by rw [a, ek_m10]; omega) ?_ _ trivial _ ?_
      · intro n3 i s hi _
        rw [a, ek_m10] at hi; omega
      · intro n3 _
        try simp only
        rw [f_X12_digest_b67, gd_t (ek_inb (by omega) (by omega)), nI_clamp (by omega), if_pos (show S' k ≤ nI (S k).toNatClampNeg by rw [a, b, ek_m10]; decide)]
        unfold f_X12_digest_b93
        rw [nI_1]
    · have e : (S k).toNatClampNeg = z := by rw [a, nI_clamp (by omega)]
      rw [b, if_pos (nI_pos' (by omega)), nm_t, ek_mxM, ← a]
      refine ek_for (fun n3 x s => f_X12_digest_b67 N (f_X12_digest_b93 N (f_X12_digest_b36 N kk (nI n) la na li cr ho st ru at_ ib (nI y) S' C' L' T' D gi' wr' hs' K ys n2) kk (nI n) la na li cr ho st ru at_ ib (nI y) S' C' L' T' D gi' wr' hs' K ys) (nI n) la na li cr ho st ru at_ ib (nI y) S' C' L' T' D gi' wr' hs' K ys n3 s (nI k) x) (fun i s => ek_mx s (C (40 * k + i))) (fun _ _ => True) (S k).toNatClampNeg N (by omega) ?_ _ trivial _ ?_
      · intro n3 i s hi _
        refine ⟨?_, trivial⟩
        try simp only
        rw [f_X12_digest_b67, gd_t (ek_inb (by omega) (by omega)), nI_clamp (by omega), if_neg (show ¬ S' k ≤ nI i by rw [b]; exact nI_ge (by omega) (by omega)), ek_rowAt hk (by omega), bn_t, nm_t, ek_mxM, nI_1, c i (by omega)]
      · intro n3 _
        try simp only
        rw [f_X12_digest_b67, gd_t (ek_inb (by omega) (by omega)), nI_clamp (by omega), if_pos (show S' k ≤ nI (S k).toNatClampNeg by rw [b, e]; exact nI_le (Nat.le_refl _) (by omega))]
        unfold f_X12_digest_b93
        rw [nI_1]
  · intro n2 _
    try simp only
    rw [f_X12_digest_b36, if_pos (show (6 : Int32) ≤ nI 6 from nI_le (a := 6) (Nat.le_refl _) (by omega))]
theorem ek_mtM4 {N n y : Nat} {Lx Tx S' C' L' T' D hs' gi' wr' ys K : Nat → Int32} {la na li st ru at_ ib cr ho : Int32} (hN : 5000 ≤ N) (hH : ek_H 4 100 Lx Tx L' T') (h : Int64) : f_X12_digest_b101 N (nI n) la na li cr ho st ru at_ ib (nI y) S' C' L' T' D gi' wr' hs' K ys N h 0 = some (ek_mt 4 100 Lx Tx h, ek_mt 4 100 Lx Tx h) := by
  unfold ek_mt
  refine ek_for (fun n2 x s => f_X12_digest_b101 N (nI n) la na li cr ho st ru at_ ib (nI y) S' C' L' T' D gi' wr' hs' K ys n2 s x) (ek_mr 100 Lx Tx) (fun _ _ => True) 4 N (by omega) ?_ h trivial _ ?_
  · intro n2 k s hk _
    refine ⟨?_, trivial⟩
    try simp only
    rw [f_X12_digest_b101, if_neg (show ¬ (4 : Int32) ≤ nI k from nI_ge (b := 4) hk (by omega)), gd_t (ek_inb (by omega) (by omega)), nI_clamp (by omega)]
    unfold f_X12_digest_b126 ek_mr
    rcases hH k hk with ⟨a, b⟩ | ⟨z, hz, a, b, c⟩
    · rw [b, if_neg (show ¬ (0 : Int32) ≤ -9 by decide), nm_t, ek_mxM, ← a]
      refine ek_for (fun n3 x s => f_X12_digest_b131 N (f_X12_digest_b162 N (f_X12_digest_b101 N (nI n) la na li cr ho st ru at_ ib (nI y) S' C' L' T' D gi' wr' hs' K ys n2) (nI n) la na li cr ho st ru at_ ib (nI y) S' C' L' T' D gi' wr' hs' K ys) (nI n) la na li cr ho st ru at_ ib (nI y) S' C' L' T' D gi' wr' hs' K ys n3 s (nI k) x) (fun i s => ek_mx s (Tx (100 * k + i))) (fun _ _ => True) (Lx k).toNatClampNeg N (by rw [a, ek_m10]; omega) ?_ _ trivial _ ?_
      · intro n3 i s hi _
        rw [a, ek_m10] at hi; omega
      · intro n3 _
        try simp only
        rw [f_X12_digest_b131, gd_t (ek_inb (by omega) (by omega)), nI_clamp (by omega), if_pos (show L' k ≤ nI (Lx k).toNatClampNeg by rw [a, b, ek_m10]; decide)]
        unfold f_X12_digest_b162
        rw [nI_1]
    · have e : (Lx k).toNatClampNeg = z := by rw [a, nI_clamp (by omega)]
      rw [b, if_pos (nI_pos' (by omega)), nm_t, ek_mxM, ← a]
      refine ek_for (fun n3 x s => f_X12_digest_b131 N (f_X12_digest_b162 N (f_X12_digest_b101 N (nI n) la na li cr ho st ru at_ ib (nI y) S' C' L' T' D gi' wr' hs' K ys n2) (nI n) la na li cr ho st ru at_ ib (nI y) S' C' L' T' D gi' wr' hs' K ys) (nI n) la na li cr ho st ru at_ ib (nI y) S' C' L' T' D gi' wr' hs' K ys n3 s (nI k) x) (fun i s => ek_mx s (Tx (100 * k + i))) (fun _ _ => True) (Lx k).toNatClampNeg N (by omega) ?_ _ trivial _ ?_
      · intro n3 i s hi _
        refine ⟨?_, trivial⟩
        try simp only
        rw [f_X12_digest_b131, gd_t (ek_inb (by omega) (by omega)), nI_clamp (by omega), if_neg (show ¬ L' k ≤ nI i by rw [b]; exact nI_ge (by omega) (by omega)), show (100 : Int32) * nI k = nI (100 * k) from pk_mul 100 k, nI_add, gd_t (ek_inb (by omega) (by omega)), nI_clamp (by omega), nm_t, ek_mxM, nI_1, c i (by omega)]
      · intro n3 _
        try simp only
        rw [f_X12_digest_b131, gd_t (ek_inb (by omega) (by omega)), nI_clamp (by omega), if_pos (show L' k ≤ nI (Lx k).toNatClampNeg by rw [b, e]; exact nI_le (Nat.le_refl _) (by omega))]
        unfold f_X12_digest_b162
        rw [nI_1]
  · intro n2 _
    try simp only
    rw [f_X12_digest_b101, if_pos (show (4 : Int32) ≤ nI 4 from nI_le (a := 4) (Nat.le_refl _) (by omega))]
theorem r_digest {N n : Nat} {S C S' C' Lx Tx L' T' F D hs gi wr hs' gi' wr' lv ch ys K : Nat → Int32} {la na li st ru at_ ib cr ho ym ym' h0 t0 h1 t1 h2 t2 : Int32} {g0 : Int64} (hN : 5000 ≤ N) (hD : ek_D n F D) (hc : ek_sub n cr) (hH : ek_H 6 40 S C S' C') (hT : ek_H 4 100 Lx Tx L' T') (he : ∀ i, i < 9 → hs' i = hs i ∧ gi' i = gi i ∧ wr' i = wr i) (hY : ek_Y n ym lv ch ym' ys)
    (hK : ∀ j, j < 3 → p_X11_hourKept h0 t0 h1 t1 h2 t2 (nI j) = (if K (50 * j) = -9 then -1 else K (50 * j)) ∧ (p_X11_hourKept h0 t0 h1 t1 h2 t2 (nI j) = -1 ↔ K (50 * j) = -9)) :
    ∃ o, f_X11_digest N 40 S C 100 Lx Tx (nI n) F st ru at_ ib ho cr la na li hs gi wr h0 t0 h1 t1 h2 t2 ym lv ch = some o ∧ f_X12_digest N (nI n) la na li cr ho st ru at_ ib ym' S' C' L' T' D gi' wr' hs' K ys g0 = some (o, o) := by
  obtain ⟨y, hy, rfl, rfl, hq⟩ := hY
  have hn := hD.1
  let kh : Nat → Int32 := fun j => if K (50 * j) = -9 then -1 else K (50 * j)
  refine ⟨ek_mt 4 100 Lx Tx (ek_mt 6 40 S C (ek_dt F la na li st ru at_ ib cr hs gi wr lv ch n y kh (ek_fo (fun w s => ek_mx s (ek_ct n F K S' L' cr ho (nI y) w)) (17 : Int64) 8))), ?_, ?_⟩
  · unfold f_X11_digest
    refine ek_for (fun n2 x s => f_X11_digest_b6 N (f_X11_digest_b31 N 40 S C 100 Lx Tx (nI n) F st ru at_ ib ho cr la na li hs gi wr h0 t0 h1 t1 h2 t2 (nI y) lv ch) 40 S C 100 Lx Tx (nI n) F st ru at_ ib ho cr la na li hs gi wr h0 t0 h1 t1 h2 t2 (nI y) lv ch n2 s x) (fun w s => ek_mx s (ek_ct n F K S' L' cr ho (nI y) w)) (fun _ _ => True) 8 N (by omega) ?_ _ trivial _ ?_
    · intro n2 w s hw _
      refine ⟨?_, trivial⟩
      try simp only
      rw [f_X11_digest_b6, if_neg (show ¬ (8 : Int32) ≤ nI w from nI_ge (b := 8) hw (by omega)), ek_countX hN hD hc hH hT (fun j hj => (hK j hj).2) (show w ≤ 7 by omega), bn_t, nm_t, ek_mxX, nI_1]
    · intro n2 _
      generalize ek_fo (fun w s => ek_mx s (ek_ct n F K S' L' cr ho (nI y) w)) (17 : Int64) 8 = V
      try simp only
      rw [f_X11_digest_b6, if_pos (show (8 : Int32) ≤ nI 8 from nI_le (a := 8) (Nat.le_refl _) (by omega))]
      unfold f_X11_digest_b31
      rw [nm_t, ek_hdX]
      unfold ek_dt
      refine ek_for (fun n2 x s => f_X11_digest_b42 N (f_X11_digest_b66 N 40 S C 100 Lx Tx (nI n) F st ru at_ ib ho cr la na li hs gi wr h0 t0 h1 t1 h2 t2 (nI y) lv ch) 40 S C 100 Lx Tx (nI n) F st ru at_ ib ho cr la na li hs gi wr h0 t0 h1 t1 h2 t2 (nI y) lv ch n2 s x) (ek_dk F cr hs gi wr ch y) (fun _ _ => True) n N (by omega) ?_ _ trivial _ ?_
      · intro n3 i s hi _
        refine ⟨?_, trivial⟩
        try simp only
        rw [f_X11_digest_b42, if_neg (nI_ge hi (by omega)), ek_dkX hN hn hi hy, bn_t, nI_1]
      · intro n3 _
        try simp only
        rw [f_X11_digest_b42, if_pos (nI_le (Nat.le_refl _) (by omega))]
        unfold f_X11_digest_b66
        refine ek_for (fun n2 x s => f_X11_digest_b68 N (f_X11_digest_b101 N 40 S C 100 Lx Tx (nI n) F st ru at_ ib ho cr la na li hs gi wr h0 t0 h1 t1 h2 t2 (nI y) lv ch) 40 S C 100 Lx Tx (nI n) F st ru at_ ib ho cr la na li hs gi wr h0 t0 h1 t1 h2 t2 (nI y) lv ch n2 s x) (fun q s => ek_mx s (lv q)) (fun _ _ => True) y N (by omega) ?_ _ trivial _ ?_
        · intro n4 q s hq' _
          refine ⟨?_, trivial⟩
          try simp only
          rw [f_X11_digest_b68, if_neg (nI_ge hq' (by omega))]
          have : p_X10_leaverOf (nI y) lv (nI q) = lv q := by
            unfold p_X10_leaverOf
            rw [if_neg (nI_pos (by omega)), if_neg (nI_ge hq' (by omega)), if_neg (show ¬ (40 : Int32) ≤ nI q from nI_ge (b := 40) (by omega) (by omega)), nI_clamp (by omega)]
          rw [this, nm_t, ek_mxX, nI_1]
        · intro n4 _
          try simp only
          rw [f_X11_digest_b68, if_pos (nI_le (Nat.le_refl _) (by omega))]
          unfold f_X11_digest_b101
          refine ek_for (fun n2 x s => f_X11_digest_b103 N (f_X11_digest_b127 N 40 S C 100 Lx Tx (nI n) F st ru at_ ib ho cr la na li hs gi wr h0 t0 h1 t1 h2 t2 (nI y) lv ch) 40 S C 100 Lx Tx (nI n) F st ru at_ ib ho cr la na li hs gi wr h0 t0 h1 t1 h2 t2 (nI y) lv ch n2 s x) (fun j s => ek_mx s (kh j)) (fun _ _ => True) 3 N (by omega) ?_ _ trivial _ ?_
          · intro n5 j s hj _
            refine ⟨?_, trivial⟩
            try simp only
            rw [f_X11_digest_b103, if_neg (show ¬ (3 : Int32) ≤ nI j from nI_ge (b := 3) hj (by omega)), (hK j hj).1, nm_t, ek_mxX, nI_1]
          · intro n5 _
            try simp only
            rw [f_X11_digest_b103, if_pos (show (3 : Int32) ≤ nI 3 from nI_le (a := 3) (Nat.le_refl _) (by omega))]
            unfold f_X11_digest_b127
            have g6 := fun h => ek_mtX (nC := 240) hN (by decide) (by decide) rfl (by decide) hH h
            have g4 := fun h => ek_mtX (nC := 400) hN (by decide) (by decide) rfl (by decide) hT h
            rw [show f_X7_mixInto N 6 240 40 S C = f_X7_mixInto N 6 240 (nI 40) S C from rfl, g6, bn_t, show f_X7_mixInto N 4 400 100 Lx Tx = f_X7_mixInto N 4 400 (nI 100) Lx Tx from rfl, g4, bn_t]
  · unfold f_X12_digest
    refine ek_for (fun n2 x s => f_X12_digest_b9 N (f_X12_digest_b30 N (nI n) la na li cr ho st ru at_ ib (nI y) S' C' L' T' D gi' wr' hs' K ys) (nI n) la na li cr ho st ru at_ ib (nI y) S' C' L' T' D gi' wr' hs' K ys n2 s x) (fun w s => ek_mx s (ek_ct n F K S' L' cr ho (nI y) w)) (fun _ _ => True) 8 N (by omega) ?_ _ trivial _ ?_
    · intro n2 w s hw _
      refine ⟨?_, trivial⟩
      try simp only
      rw [f_X12_digest_b9, if_neg (show ¬ (7 : Int32) < nI w from nI_nlt (a := 7) (by omega) (by omega)), ek_countM hN hD (show w ≤ 7 by omega), bn_t, nm_t, ek_mxM, nI_1]
    · intro n2 _
      generalize ek_fo (fun w s => ek_mx s (ek_ct n F K S' L' cr ho (nI y) w)) (17 : Int64) 8 = V
      try simp only
      rw [f_X12_digest_b9, if_pos (show (7 : Int32) < nI 8 by decide)]
      unfold f_X12_digest_b30
      rw [ek_dtM hN hD hy he hq, bn_t, ek_mtM6 hN hH]
      unfold f_X12_digest_b99
      exact ek_mtM4 hN hT _
