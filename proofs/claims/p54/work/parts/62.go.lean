/-! go -/
theorem ek_for2 {σ τ β γ : Type} (F : Nat → Int32 → σ → β) (G : Nat → Int32 → τ → γ) (I : Nat → σ → τ → Prop) (m : Nat) (N : Nat) (hN : m < N)
    (h : ∀ n j s t, j < m → I j s t → ∃ s' t', F (n + 1) (nI j) s = F n (nI (j + 1)) s' ∧ G (n + 1) (nI j) t = G n (nI (j + 1)) t' ∧ I (j + 1) s' t') (s : σ) (t : τ) (h0 : I 0 s t) (P : β → γ → Prop)
    (he : ∀ n s' t', I m s' t' → P (F (n + 1) (nI m) s') (G (n + 1) (nI m) t')) : P (F N 0 s) (G N 0 t) := by
  have key : ∀ k, k ≤ m → ∃ s' t', (∀ n, n + k = N → F N 0 s = F n (nI k) s' ∧ G N 0 t = G n (nI k) t') ∧ I k s' t' := by
    intro k
    induction k with
    | zero => intro _; exact ⟨s, t, fun n hn => by rw [← hn]; exact ⟨rfl, rfl⟩, h0⟩
    | succ k ih =>
      intro hk
      obtain ⟨s1, t1, e1, i1⟩ := ih (by omega)
      obtain ⟨s2, t2, e2, e3, i2⟩ := h (N - k - 1) k s1 t1 (by omega) i1
      refine ⟨s2, t2, fun n hn => ?_, i2⟩
      have := e1 (N - k) (by omega)
      rw [this.1, this.2, show N - k = N - k - 1 + 1 by omega, e2, e3, show N - k - 1 = n by omega]
      exact ⟨rfl, rfl⟩
  obtain ⟨s', t', e, i⟩ := key m (Nat.le_refl m)
  have := e (N - m) (by omega)
  rw [this.1, this.2, show N - m = N - m - 1 + 1 by omega]
  exact he _ _ _ i
theorem ek_plsB {n : Nat} {law named linked hour : Int32} {F : Nat → Int32} (hn : n ≤ 9) (hw : ∀ i, i < n → ek_wf (ek_ds F i)) (hT : ek_T law named linked) : ∀ (l : List Nat) (s : Int32 × (Nat → Int32) × (Nat → Int32) × (Nat → Int32)), (∀ i, i ∈ l → i < n) → ek_B n s.1 s.2.1 s.2.2.1 →
    ek_B n (ek_pls n law named linked F hour l s).1 (ek_pls n law named linked F hour l s).2.1 (ek_pls n law named linked F hour l s).2.2.1 ∧ (ek_pls n law named linked F hour l s).1 = l.foldl ek_sg s.1 := by
  intro l
  induction l with
  | nil => intro s _ h; exact ⟨h, rfl⟩
  | cons i l ih =>
    intro s hl h
    exact ih (ek_pu1 n law named linked F hour s i) (fun j hj => hl j (List.mem_cons_of_mem _ hj)) (ek_Bset hn hw hT h (hl i List.mem_cons_self))
theorem ek_plsR {n : Nat} {law named linked hour : Int32} {F : Nat → Int32} (hn : n ≤ 9) : ∀ (l : List Nat) (s t : Int32 × (Nat → Int32) × (Nat → Int32) × (Nat → Int32)), t.1 = s.1 → (∀ i, i < 9 → t.2.1 i = s.2.1 i ∧ t.2.2.1 i = s.2.2.1 i ∧ t.2.2.2 i = s.2.2.2 i) →
    (ek_pls n law named linked F hour l t).1 = (ek_pls n law named linked F hour l s).1 ∧ (∀ i, i < 9 → (ek_pls n law named linked F hour l t).2.1 i = (ek_pls n law named linked F hour l s).2.1 i ∧ (ek_pls n law named linked F hour l t).2.2.1 i = (ek_pls n law named linked F hour l s).2.2.1 i ∧ (ek_pls n law named linked F hour l t).2.2.2 i = (ek_pls n law named linked F hour l s).2.2.2 i) := by
  intro l
  induction l with
  | nil => intro s t h1 h2; exact ⟨h1, h2⟩
  | cons i l ih =>
    intro s t h1 h2
    refine ih (ek_pu1 n law named linked F hour s i) (ek_pu1 n law named linked F hour t i) ?_ ?_
    · show ek_sg t.1 i = ek_sg s.1 i
      rw [h1]
    · intro j hj
      show upd t.2.1 i (ek_G n law named linked F t.1 t.2.1 i) j = upd s.2.1 i (ek_G n law named linked F s.1 s.2.1 i) j ∧ upd t.2.2.1 i (ek_W n F t.1 t.2.2.1 i) j = upd s.2.2.1 i (ek_W n F s.1 s.2.2.1 i) j ∧ upd t.2.2.2 i hour j = upd s.2.2.2 i hour j
      rw [h1, ek_Geq (F := F) hn (fun q hq => (h2 q hq).1), ek_Weq (F := F) hn (fun q hq => (h2 q hq).2.1)]
      unfold upd
      by_cases e : j = i
      · simp only [if_pos e]; exact ⟨trivial, trivial, trivial⟩
      · simp only [if_neg e]; exact h2 j hj
theorem ek_take1 {L : List Nat} {k : Nat} (h : k < L.length) : L.take (k + 1) = L.take k ++ [L.getD k 0] := by
  rw [List.take_succ, List.getElem?_eq_getElem h]
  unfold List.getD
  rw [List.getElem?_eq_getElem h]
  rfl
theorem ek_signerAt {L : List Nat} {s : Nat → Int32} {k : Nat} (h : ek_ls L s) (hk : k < L.length) (h9 : L.length ≤ 9) : p_X9_signerAt (nI L.length) s (nI k) = nI (L.getD k 0) := by
  unfold p_X9_signerAt
  rw [if_neg (nI_pos (by omega)), if_neg (nI_ge hk (by omega)), if_neg (show ¬ (9 : Int32) ≤ _ from nI_ge (b := 9) (by omega) (by omega)), nI_clamp (by omega), h k hk]
theorem ek_phlen {n : Nat} {F : Nat → Int32} {ru h : Int32} : ∀ (m pl : Nat) (c : Int32), (ek_ph n F ru h m pl c).1.length ≤ m := by
  intro m
  induction m with
  | zero => intro pl c; exact Nat.le_refl _
  | succ m ih =>
    intro pl c
    cases haw : ek_aw (ek_ds F pl) h
    · have e0 : ek_ph n F ru h (m + 1) pl c = (if (if ek_bt c pl then c else ek_sg c pl) = ek_all n then ((if ek_bt c pl then [] else [pl]), pl, (if ek_bt c pl then c else ek_sg c pl), -2, ek_hp F pl) else match ek_nx n pl F (if ek_bt c pl then c else ek_sg c pl) (h + 1) ru with
        | none => ((if ek_bt c pl then [] else [pl]), pl, (if ek_bt c pl then c else ek_sg c pl), -1, 0)
        | some f => if ek_ds F pl 0 = 1 then ((if ek_bt c pl then [] else [pl]) ++ (ek_ph n F ru h m f (if ek_bt c pl then c else ek_sg c pl)).1, (ek_ph n F ru h m f (if ek_bt c pl then c else ek_sg c pl)).2) else ((if ek_bt c pl then [] else [pl]), pl, (if ek_bt c pl then c else ek_sg c pl), nI f, ek_hp F pl)) := by
        rw [ek_ph, haw]; rfl
      have hl : (if ek_bt c pl then ([] : List Nat) else [pl]).length ≤ 1 := by cases ek_bt c pl <;> simp
      rw [e0]
      generalize (if ek_bt c pl then c else ek_sg c pl) = cc at *
      generalize (if ek_bt c pl = true then ([] : List Nat) else [pl]) = ll at *
      by_cases hf : cc = ek_all n
      · rw [if_pos hf]; show ll.length ≤ m + 1; omega
      · rw [if_neg hf]
        cases hm : ek_nx n pl F cc (h + 1) ru with
        | none => show ll.length ≤ m + 1; omega
        | some f =>
          simp only
          by_cases h1 : ek_ds F pl 0 = 1
          · rw [if_pos h1]
            have := ih f cc
            show (ll ++ _).length ≤ m + 1
            rw [List.length_append]; omega
          · rw [if_neg h1]; show ll.length ≤ m + 1; omega
    · have e0 : ek_ph n F ru h (m + 1) pl c = ([], pl, c, -1, 0) := by rw [ek_ph, haw]; simp
      rw [e0]; exact Nat.zero_le _
def ek_lot (x : Int64) : Int64 := (x * (48271 : Int64)) - (x * (48271 : Int64)) / (2147483647 : Int64) * (2147483647 : Int64)
def ek_mv (st : Int32) (pl : Nat) (tg : Int32) : Int32 × Int32 := if tg = -2 then (st, 1) else if tg = -1 then (nI pl, 0) else (tg, 0)
theorem ek_mvX {N : Nat} {st at_ ib tg : Int32} {pl : Nat} : f_X6_moveTo N st at_ ib (nI pl) tg = some (ek_mv st pl tg) := by
  unfold f_X6_moveTo f_X6_moveTo_b12 f_X6_moveTo_b43 ek_mv
  by_cases h : tg = -2
  · simp only [if_pos h]; rw [gd_t (Or.inr trivial)]
  · simp only [if_neg h]; rw [gd_t (Or.inl trivial)]
    by_cases h1 : tg = -1
    · simp only [if_pos h1]
    · simp only [if_neg h1]
/-- the lot, the place and whether it is back, behind an hour -/
def ek_hr (st : Int32) (lot : Int64) (pl : Nat) (tg hp : Int32) : Int64 × Int32 × Int32 :=
  if hp = 0 then (lot, ek_mv st pl tg) else (ek_lot lot, if hp.toInt64 ≤ (ek_lot lot - ek_lot lot / (12 : Int64) * (12 : Int64)) then ek_mv st pl (-1) else ek_mv st pl tg)

theorem ek_signs {N n : Nat} {F g w hs s' t : Nat → Int32} {st ru ho la na li at_ ib c a1 a2 a3 a4 b1 b2 b3 b4 b5 b6 : Int32} {lot : Int64} {l : List Nat} (k70 : Int32 → Int32 → Int32 → (Nat → Int32) → (Nat → Int32) → (Nat → Int32) → Int32 → Int32 → Int32 → Int32 → Int32 → (Nat → Int32) → Int32 → Int32 → Int32 → Int32 → Int32 → Int32 → (Nat → Int32) → Int64 → Option (Int64 × Int32 × Int32 × Int32 × (Nat → Int32) × (Nat → Int32) × (Nat → Int32) × Int32 × Int32 × Int32 × Int32 × Int32 × (Nat → Int32) × Int32 × Int32 × Int32 × Int32 × Int32 × Int32 × (Nat → Int32))) (hN : 5000 ≤ N) (hn : n ≤ 9) (hw : ∀ i, i < n → ek_wf (ek_ds F i)) (hT : ek_T la na li) (hB : ek_B n c g w) (hl : ∀ i, i ∈ l → i < n) (h2 : ek_ls l s') (hlen : l.length ≤ 9) :
    ∃ b1' b2' b3' b4' b5' b6' t', f_X11_passOneHour_b41 N k70 (nI n) F st ru ho la na li N at_ ib c hs g w (nI l.length) a1 a2 a3 a4 s' b1 b2 b3 b4 b5 b6 t lot 0 = k70 at_ ib (ek_pls n la na li F ho l (c, g, w, hs)).1 (ek_pls n la na li F ho l (c, g, w, hs)).2.2.2 (ek_pls n la na li F ho l (c, g, w, hs)).2.1 (ek_pls n la na li F ho l (c, g, w, hs)).2.2.1 (nI l.length) a1 a2 a3 a4 s' b1' b2' b3' b4' b5' b6' t' lot := by
  refine ek_forI (fun n' x (s : (Int32 × (Nat → Int32) × (Nat → Int32) × (Nat → Int32)) × Int32 × Int32 × Int32 × Int32 × Int32 × Int32 × (Nat → Int32)) => f_X11_passOneHour_b41 N k70 (nI n) F st ru ho la na li n' at_ ib s.1.1 s.1.2.2.2 s.1.2.1 s.1.2.2.1 (nI l.length) a1 a2 a3 a4 s' s.2.1 s.2.2.1 s.2.2.2.1 s.2.2.2.2.1 s.2.2.2.2.2.1 s.2.2.2.2.2.2.1 s.2.2.2.2.2.2.2 lot x) (fun k s => s.1 = ek_pls n la na li F ho (l.take k) (c, g, w, hs)) l.length N (by omega) ?_ ((c, g, w, hs), b1, b2, b3, b4, b5, b6, t) rfl (fun o => ∃ b1' b2' b3' b4' b5' b6' t', o = k70 at_ ib (ek_pls n la na li F ho l (c, g, w, hs)).1 (ek_pls n la na li F ho l (c, g, w, hs)).2.2.2 (ek_pls n la na li F ho l (c, g, w, hs)).2.1 (ek_pls n la na li F ho l (c, g, w, hs)).2.2.1 (nI l.length) a1 a2 a3 a4 s' b1' b2' b3' b4' b5' b6' t' lot) ?_
  · intro n' k s hk hs2
    have hin : l.getD k 0 < n := hl _ (by unfold List.getD; rw [List.getElem?_eq_getElem hk]; exact List.getElem_mem hk)
    have hBk := (ek_plsB (hour := ho) hn hw hT (l.take k) (c, g, w, hs) (fun i hi => hl i (List.mem_of_mem_take hi)) hB).1
    obtain ⟨tm, e⟩ := ek_sign (N := N) (hour := ho) (law := la) (named := na) (linked := li) (F := F) (hs := s.1.2.2.2) (a1 := s.2.1) (a2 := s.2.2.1) (a3 := s.2.2.2.1) (a4 := s.2.2.2.2.1) (a5 := s.2.2.2.2.2.1) (a6 := s.2.2.2.2.2.2.1) (t := s.2.2.2.2.2.2.2) hN hn (by rw [← hs2] at hBk; exact hBk) hin
    refine ⟨(ek_pu1 n la na li F ho s.1 (l.getD k 0), la, na, li, (ek_pt s.1.1 s.1.2.1 n).1, (ek_pt s.1.1 s.1.2.1 n).2.1, (ek_pt s.1.1 s.1.2.1 n).2.2, tm), ?_, ?_⟩
    · simp only
      rw [f_X11_passOneHour_b41, if_neg (nI_ge hk (by omega)), ek_signerAt h2 hk hlen, e, bn_t, nI_1]
      unfold ek_pu1 ek_sg
      rfl
    · show ek_pu1 n la na li F ho s.1 (l.getD k 0) = _
      rw [ek_take1 hk, hs2]
      unfold ek_pls
      rw [List.foldl_append]
      rfl
  · intro n' s hs2
    rw [List.take_of_length_le (Nat.le_refl _)] at hs2
    rw [f_X11_passOneHour_b41, if_pos (nI_le (Nat.le_refl _) (by omega)), hs2]
    exact ⟨_, _, _, _, _, _, _, rfl⟩
theorem ek_b70 {N n pl : Nat} {F hs g w sg t : Nat → Int32} {st ru ho la na li at_ ib c a1 c' tg hp b1 b2 b3 b4 b5 b6 : Int32} {lot : Int64} :
    f_X11_passOneHour_b70 N (nI n) F st ru ho la na li at_ ib c hs g w a1 (nI pl) c' tg hp sg b1 b2 b3 b4 b5 b6 t lot = some ((ek_hr st lot pl tg hp).1, (ek_hr st lot pl tg hp).2.1, (ek_hr st lot pl tg hp).2.2, c, hs, g, w, a1, nI pl, c', tg, hp, sg, b1, b2, b3, b4, b5, b6, t) := by
  unfold f_X11_passOneHour_b70 ek_hr
  rw [ek_mvX, ek_mvX]
  have hV : ∃ V, ek_lot lot = V ∧ ((lot * (48271 : Int64)) - (lot * (48271 : Int64)) / (2147483647 : Int64) * (2147483647 : Int64)) = V := ⟨_, rfl, by unfold ek_lot; exact Eq.refl _⟩
  obtain ⟨V, hV1, hV2⟩ := hV
  rw [hV1, hV2]
  clear hV1 hV2
  by_cases h0 : hp = 0
  · rw [if_pos h0, if_pos h0]; exact bn_t _ _
  · rw [if_neg h0, if_neg h0, nm_t]
    by_cases h1 : hp.toInt64 ≤ (V - V / (12 : Int64) * (12 : Int64))
    · rw [if_pos h1, if_pos h1]; exact bn_t _ _
    · rw [if_neg h1, if_neg h1]; exact bn_t _ _
theorem ek_hourX {N n pl : Nat} {F sg hs g w t : Nat → Int32} {st ru ho la na li ib c a1 a2 a3 a4 a5 b1 b2 b3 b4 b5 b6 : Int32} {lot : Int64} (hN : 5000 ≤ N) (hn : n ≤ 9) (hw : ∀ i, i < n → ek_wf (ek_ds F i)) (hT : ek_T la na li) (hpl : pl < n) (hB : ek_B n c g w) {R : List Nat × Nat × Int32 × Int32 × Int32} (hR : ek_ph n F ru ho 9 pl c = R) {S : Int32 × (Nat → Int32) × (Nat → Int32) × (Nat → Int32)} (hS : ek_pls n la na li F ho R.1 (c, g, w, hs) = S) :
    ∃ a1' a2' a3' a4' a5' sg' b1' b2' b3' b4' b5' b6' t', f_X11_passOneHour N (nI n) F st ru ho la na li (nI pl) ib c hs g w a1 a2 a3 a4 a5 sg b1 b2 b3 b4 b5 b6 t lot = some ((ek_hr st lot R.2.1 R.2.2.2.1 R.2.2.2.2).1, (ek_hr st lot R.2.1 R.2.2.2.1 R.2.2.2.2).2.1, (ek_hr st lot R.2.1 R.2.2.2.1 R.2.2.2.2).2.2, S.1, S.2.2.2, S.2.1, S.2.2.1, a1', a2', a3', a4', a5', sg', b1', b2', b3', b4', b5', b6', t') := by
  unfold f_X11_passOneHour
  obtain ⟨s', h1, h2⟩ := ek_phX0 (s := sg) (ru := ru) (h := ho) (a1 := a1) (a2 := a2) (a3 := a3) (a4 := a4) (a5 := a5) hN hn hpl hB.1
  obtain ⟨q1, q2, q3, q4, q5, q6, q7⟩ := ek_phb (F := F) (ru := ru) (h := ho) hn hw 9 pl c hpl hB.1
  have hlen := ek_phlen (n := n) (F := F) (ru := ru) (h := ho) 9 pl c
  rw [hR] at h1 h2 q6 hlen
  rw [h1, bn_t]
  obtain ⟨l, pl', c', tg, hp⟩ := R
  simp only at h1 h2 q6 hlen hS
  simp only
  obtain ⟨b1', b2', b3', b4', b5', b6', t', e⟩ := ek_signs (N := N) (n := n) (F := F) (st := st) (ru := ru) (ho := ho) (la := la) (na := na) (li := li) (at_ := nI pl) (ib := ib) (c := c) (g := g) (w := w) (hs := hs) (a1 := nI pl') (a2 := c') (a3 := tg) (a4 := hp) (b1 := b1) (b2 := b2) (b3 := b3) (b4 := b4) (b5 := b5) (b6 := b6) (t := t) (lot := lot) (f_X11_passOneHour_b70 N (nI n) F st ru ho la na li) hN hn hw hT hB q6 h2 hlen
  rw [e, ek_b70, hS]
  exact ⟨_, _, _, _, _, _, _, _, _, _, _, _, _, rfl⟩
