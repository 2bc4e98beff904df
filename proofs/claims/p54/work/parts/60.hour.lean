/-! one hour: who signs, to whom it goes -/
def ek_sg (c : Int32) (i : Nat) : Int32 := c ||| ((1 : Int32) <<< (nI i &&& 31))
def ek_hp (F : Nat → Int32) (i : Nat) : Int32 := if ek_ds F i 0 = 2 then ek_ds F i 4 else 0
def ek_ph (n : Nat) (F : Nat → Int32) (ru h : Int32) : Nat → Nat → Int32 → List Nat × Nat × Int32 × Int32 × Int32
  | 0, pl, c => ([], pl, c, -1, 0)
  | m + 1, pl, c =>
    if ek_aw (ek_ds F pl) h then ([], pl, c, -1, 0)
    else
      let l := if ek_bt c pl then [] else [pl]
      let c' := if ek_bt c pl then c else ek_sg c pl
      if c' = ek_all n then (l, pl, c', -2, ek_hp F pl)
      else match ek_nx n pl F c' (h + 1) ru with
        | none => (l, pl, c', -1, 0)
        | some f => if ek_ds F pl 0 = 1 then (l ++ (ek_ph n F ru h m f c').1, (ek_ph n F ru h m f c').2) else (l, pl, c', nI f, ek_hp F pl)
def ek_uc (c : Int32) : Nat → Nat
  | 0 => 0
  | m + 1 => ek_uc c m + (if ek_bt c m then 0 else 1)
theorem ek_ucle (c : Int32) : ∀ m, ek_uc c m ≤ m := by
  intro m
  induction m with
  | zero => exact Nat.le_refl _
  | succ m ih => show ek_uc c m + (if ek_bt c m then 0 else 1) ≤ m + 1; split <;> omega
theorem ek_ucpos {c : Int32} {i : Nat} (hi : ek_bt c i = false) : ∀ {m : Nat}, i < m → 1 ≤ ek_uc c m := by
  intro m
  induction m with
  | zero => intro h; omega
  | succ m ih =>
    intro h
    show 1 ≤ ek_uc c m + (if ek_bt c m then 0 else 1)
    by_cases w : i = m
    · subst w; rw [hi]; simp
    · have := ih (by omega); omega
theorem ek_ucsg {c : Int32} {i : Nat} (hi : ek_bt c i = false) (h32 : i < 32) : ∀ {m : Nat}, m ≤ 31 → i < m → ek_uc (ek_sg c i) m + 1 = ek_uc c m := by
  have low : ∀ m, m ≤ i → ek_uc (ek_sg c i) m = ek_uc c m := by
    intro m
    induction m with
    | zero => intro _; rfl
    | succ m ih =>
      intro hm
      show ek_uc (ek_sg c i) m + (if ek_bt (ek_sg c i) m then 0 else 1) = ek_uc c m + (if ek_bt c m then 0 else 1)
      rw [ih (by omega)]
      unfold ek_sg
      rw [ek_bset c h32 (by omega), decide_eq_false (by omega), Bool.or_false]
  intro m
  induction m with
  | zero => intro _ h; omega
  | succ m ih =>
    intro hm h
    show ek_uc (ek_sg c i) m + (if ek_bt (ek_sg c i) m then 0 else 1) + 1 = ek_uc c m + (if ek_bt c m then 0 else 1)
    by_cases e : i = m
    · subst e
      rw [low i (Nat.le_refl _), hi]
      unfold ek_sg
      rw [ek_bset c h32 (by omega), decide_eq_true rfl, Bool.or_true]
      simp
    · have := ih (by omega) (by omega)
      unfold ek_sg at this ⊢
      rw [ek_bset c h32 (by omega), decide_eq_false e, Bool.or_false]
      omega
theorem ek_uc0 {c : Int32} {n : Nat} (hn : n ≤ 9) (hc : ek_sub n c) (h : ek_uc c n = 0) : c = ek_all n := by
  apply ek_ext; intro i hi
  unfold ek_all
  rw [ek_allb n hn i hi]
  by_cases q : i < n
  · rw [decide_eq_true q]
    cases e : ek_bt c i
    · have := ek_ucpos e q; omega
    · rfl
  · rw [hc i (by omega), decide_eq_false q]
theorem ek_ucin {c : Int32} {i : Nat} (hi : ek_bt c i = true) : ∀ {m : Nat}, i < m → ek_uc c m + 1 ≤ m := by
  intro m
  induction m with
  | zero => intro h; omega
  | succ m ih =>
    intro h
    show ek_uc c m + (if ek_bt c m then 0 else 1) + 1 ≤ m + 1
    by_cases w : i = m
    · subst w; rw [hi]; have := ek_ucle c i; simp; omega
    · have := ih (by omega); split <;> omega
/-- enough rounds: at a desk that is not crossed, as many as are not crossed; at a crossed one, one more -/
def ek_en (n m pl : Nat) (c : Int32) : Prop := if ek_bt c pl then ek_uc c n + 1 ≤ m else ek_uc c n ≤ m
theorem ek_en9 {n pl : Nat} {c : Int32} (hn : n ≤ 9) (hp : pl < n) : ek_en n 9 pl c := by
  unfold ek_en
  split
  · rename_i h; have := ek_ucin h hp; omega
  · have := ek_ucle c n; omega
theorem ek_enS {n m pl f : Nat} {c : Int32} (hn : n ≤ 9) (hp : pl < n) (h : ek_en n (m + 1) pl c) (hf : ek_bt (if ek_bt c pl then c else ek_sg c pl) f = false) : ek_en n m f (if ek_bt c pl then c else ek_sg c pl) := by
  unfold ek_en at h ⊢
  rw [hf]
  cases e : ek_bt c pl
  · rw [e] at h
    have := ek_ucsg e (by omega) (m := n) (by omega) hp
    simp only [Bool.false_eq_true, if_false] at h ⊢
    omega
  · rw [e] at h
    simp only [if_true, Bool.false_eq_true, if_false] at h ⊢
    omega
theorem ek_enfull {n pl : Nat} {c : Int32} (hn : n ≤ 9) (hp : pl < n) (hc : ek_sub n c) (h : ek_en n 0 pl c) : False := by
  unfold ek_en at h
  split at h
  · omega
  · rename_i q
    have e : ek_bt c pl = false := by cases w : ek_bt c pl <;> simp_all
    have := ek_ucpos e hp; omega
/-! the class -/
def ek_ls (L : List Nat) (s : Nat → Int32) : Prop := ∀ q, q < L.length → s q = nI (L.getD q 0)
theorem ek_lsadd {L : List Nat} {s : Nat → Int32} (h : ek_ls L s) (i : Nat) : ek_ls (L ++ [i]) (upd s L.length (nI i)) := by
  intro q hq
  rw [List.length_append] at hq
  simp at hq
  unfold upd
  by_cases e : q = L.length
  · rw [if_pos e, e]; simp
  · rw [if_neg e, h q (by omega)]
    unfold List.getD
    rw [List.getElem?_append_left (by omega)]
theorem ek_hpX {n i : Nat} {F : Nat → Int32} (hn : n ≤ 9) (hi : i < n) : p_X1_heapOf (nI n) F (nI i) = ek_hp F i := by
  unfold p_X1_heapOf ek_hp
  rw [show p_X1_fact (nI n) F (nI i) 0 = ek_ds F i 0 from ek_fact F hn hi (w := 0) (by omega), show p_X1_fact (nI n) F (nI i) 4 = ek_ds F i 4 from ek_fact F hn hi (w := 4) (by omega)]
theorem ek_phX {N n : Nat} {F : Nat → Int32} {ru h : Int32} (hN : 5000 ≤ N) (hn : n ≤ 9) : ∀ (m k : Nat) (pl : Nat) (c tg hp : Int32) (L : List Nat) (s : Nat → Int32) (n' : Nat), k + m = 9 → pl < n → ek_sub n c → ek_en n m pl c → ek_ls L s → L.length + ek_uc c n ≤ 9 → m < n' → hp = 0 →
    ∃ s', f_X9_passHour_b28 N (f_X9_passHour_b97 N (nI n) F) (nI n) F n' (nI L.length) (nI pl) c tg hp s h ru (nI k) = some (nI (L.length + (ek_ph n F ru h m pl c).1.length), nI (ek_ph n F ru h m pl c).2.1, (ek_ph n F ru h m pl c).2.2.1, (ek_ph n F ru h m pl c).2.2.2.1, (ek_ph n F ru h m pl c).2.2.2.2, s') ∧ ek_ls (L ++ (ek_ph n F ru h m pl c).1) s' := by
  intro m
  induction m with
  | zero => intro k pl c tg hp L s n' _ hpl hc he; exact (ek_enfull hn hpl hc he).elim
  | succ m ih =>
    intro k pl c tg hp L s n' hk hpl hc he hL hlen hn' hp0
    subst hp0
    obtain ⟨n'', rfl⟩ : ∃ z, n' = z + 1 := ⟨n' - 1, by omega⟩
    rw [f_X9_passHour_b28, if_neg (show ¬ (9 : Int32) ≤ nI k from nI_ge (b := 9) (by omega) (by omega)), ek_awX hn hpl]
    cases haw : ek_aw (ek_ds F pl) h
    · rw [if_pos (by rfl)]
      -- it signs here
      have hsg : ∃ s1 : Nat → Int32, f_X9_signHere N (nI pl) (nI L.length) c s = some (nI (L ++ (if ek_bt c pl then [] else [pl])).length, if ek_bt c pl then c else ek_sg c pl, s1) ∧ ek_ls (L ++ (if ek_bt c pl then [] else [pl])) s1 := by
        unfold f_X9_signHere
        rw [ek_bits c (by omega)]
        cases e : ek_bt c pl
        · have := ek_ucpos e hpl
          refine ⟨upd s L.length (nI pl), ?_, ?_⟩
          · simp only [Bool.false_eq_true, if_false, if_true]
            rw [if_neg (show ¬ (9 : Int32) ≤ _ from nI_ge (b := 9) (by omega) (by omega)), gd_t (ek_inb (by omega) (by omega)), nI_clamp (by omega), nI_1, List.length_append]
            rfl
          · simp only [Bool.false_eq_true, if_false]; exact ek_lsadd hL pl
        · refine ⟨s, ?_, ?_⟩
          · simp only [if_true, List.append_nil]; rw [if_neg (by decide)]
          · simp only [if_true, List.append_nil]; exact hL
      obtain ⟨s1, hs1, hs2⟩ := hsg
      have hc' : ek_sub n (if ek_bt c pl then c else ek_sg c pl) := by
        split
        · exact hc
        · exact ek_subset hc hpl (by omega)
      rw [hs1, bn_t, ek_nxX hN hn hc', bn_t, ek_kind5 hn hpl 1 (by decide)]
      have e0 : ek_ph n F ru h (m + 1) pl c = (if (if ek_bt c pl then c else ek_sg c pl) = ek_all n then ((if ek_bt c pl then [] else [pl]), pl, (if ek_bt c pl then c else ek_sg c pl), -2, ek_hp F pl) else match ek_nx n pl F (if ek_bt c pl then c else ek_sg c pl) (h + 1) ru with
        | none => ((if ek_bt c pl then [] else [pl]), pl, (if ek_bt c pl then c else ek_sg c pl), -1, 0)
        | some f => if ek_ds F pl 0 = 1 then ((if ek_bt c pl then [] else [pl]) ++ (ek_ph n F ru h m f (if ek_bt c pl then c else ek_sg c pl)).1, (ek_ph n F ru h m f (if ek_bt c pl then c else ek_sg c pl)).2) else ((if ek_bt c pl then [] else [pl]), pl, (if ek_bt c pl then c else ek_sg c pl), nI f, ek_hp F pl)) := by
        rw [ek_ph, haw]; rfl
      rw [e0]
      have hlen2 : (L ++ (if ek_bt c pl then [] else [pl])).length + ek_uc (if ek_bt c pl then c else ek_sg c pl) n ≤ 9 := by
        cases e : ek_bt c pl
        · have := ek_ucsg e (by omega) (m := n) (by omega) hpl
          simp; omega
        · simp; omega
      generalize hcc : (if ek_bt c pl then c else ek_sg c pl) = cc at *
      generalize hll : (if ek_bt c pl = true then ([] : List Nat) else [pl]) = ll at *
      by_cases hf : cc = ek_all n
      · rw [if_pos hf, if_pos hf]
        refine ⟨s1, ?_, hs2⟩
        simp only
        rw [if_pos (by decide)]
        unfold f_X9_passHour_b97
        rw [if_neg (by decide), ek_hpX hn hpl, List.length_append]
      · rw [if_neg hf, if_neg hf]
        cases hm : ek_nx n pl F cc (h + 1) ru with
        | none =>
          refine ⟨s1, ?_, hs2⟩
          simp only
          rw [if_pos (by decide)]
          unfold f_X9_passHour_b97
          rw [if_pos rfl, List.length_append]
        | some f =>
          have hf9 := ek_nxr pl F _ _ ru n f hm
          simp only
          rw [if_neg (nI_pos (by omega))]
          by_cases hq : ek_ds F pl 0 = 1
          · rw [if_pos hq, if_pos hq, if_neg (by decide)]
            have hen : ek_en n m f cc := by
              have := ek_enS (f := f) hn hpl he (by rw [hcc]; exact hf9.2)
              rw [hcc] at this; exact this
            obtain ⟨s2, r1, r2⟩ := ih (k + 1) f cc (nI f) 0 (L ++ ll) s1 n'' (by omega) hf9.1 hc' hen hs2 hlen2 (by omega) rfl
            refine ⟨s2, ?_, ?_⟩
            · rw [nI_1, r1, List.length_append, List.length_append, Nat.add_assoc]
            · rw [← List.append_assoc]; exact r2
          · rw [if_neg hq, if_neg hq, if_pos rfl]
            refine ⟨s1, ?_, hs2⟩
            unfold f_X9_passHour_b97
            rw [if_neg (show ¬ nI f = -1 from (ek_neg ek_m1 (by decide) (by omega)).2.2.2.2.2), ek_hpX hn hpl, List.length_append]
    · rw [if_neg (by decide)]
      refine ⟨s, ?_, ?_⟩
      · rw [ek_ph, haw]; simp
      · rw [ek_ph, haw]; simp; exact hL
theorem ek_phX0 {N n pl : Nat} {F s : Nat → Int32} {ru h c a1 a2 a3 a4 a5 : Int32} (hN : 5000 ≤ N) (hn : n ≤ 9) (hpl : pl < n) (hc : ek_sub n c) :
    ∃ s', f_X9_passHour N (nI n) F a1 a2 a3 a4 a5 s (nI pl) c h ru = some (nI (ek_ph n F ru h 9 pl c).1.length, nI (ek_ph n F ru h 9 pl c).2.1, (ek_ph n F ru h 9 pl c).2.2.1, (ek_ph n F ru h 9 pl c).2.2.2.1, (ek_ph n F ru h 9 pl c).2.2.2.2, s') ∧ ek_ls (ek_ph n F ru h 9 pl c).1 s' := by
  unfold f_X9_passHour
  obtain ⟨s', h1, h2⟩ := ek_phX (ru := ru) (h := h) hN hn 9 0 pl c (-1) 0 [] s N rfl hpl hc (ek_en9 hn hpl) (fun q hq => absurd hq (by simp)) (by have := ek_ucle c n; simp; omega) (by omega) rfl
  refine ⟨s', ?_, by simpa using h2⟩
  have e : (nI ([] : List Nat).length) = 0 := rfl
  rw [e] at h1
  simp only [List.length_nil, Nat.zero_add] at h1
  exact h1
