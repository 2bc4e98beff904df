/-! one hour in the model -/
def ek_pu1 (n : Nat) (law named linked : Int32) (F : Nat → Int32) (hour : Int32) (s : Int32 × (Nat → Int32) × (Nat → Int32) × (Nat → Int32)) (i : Nat) : Int32 × (Nat → Int32) × (Nat → Int32) × (Nat → Int32) :=
  (ek_sg s.1 i, upd s.2.1 i (ek_G n law named linked F s.1 s.2.1 i), upd s.2.2.1 i (ek_W n F s.1 s.2.2.1 i), upd s.2.2.2 i hour)
def ek_pls (n : Nat) (law named linked : Int32) (F : Nat → Int32) (hour : Int32) (l : List Nat) (s : Int32 × (Nat → Int32) × (Nat → Int32) × (Nat → Int32)) : Int32 × (Nat → Int32) × (Nat → Int32) × (Nat → Int32) := l.foldl (ek_pu1 n law named linked F hour) s
/-- where it ends in the model: place, back, heap -/
def ek_me (began : Int32) (pl : Nat) (tg hp : Int32) : Int32 × Int32 × Int32 :=
  if hp = 0 then (if tg = -2 then (began, 1, 0) else if tg = -1 then (nI pl, 0, 0) else (tg, 0, 0)) else (nI pl, 0, hp)
theorem ek_phM {N n : Nat} {F D : Nat → Int32} {ru h law named linked hour began tr : Int32} (hN : 5000 ≤ N) (hD : ek_D n F D) (hr : ru = 0 ∨ ru = 1 ∨ ru = 2) (hT : ek_T law named linked) :
    ∀ (m : Nat) (pl : Nat) (c cr wm wt to : Int32) (g w hs : Nat → Int32) (n' : Nat), m + 1 < n' → pl < n → ek_sub n c → ek_en n m pl c → (tr = 0 ∨ (tr = 1 ∧ cr = c ∧ ek_B n c g w)) →
    ∃ wm' wt' to' S, f_X12_passHour_b23 N (nI n) law named linked hour began D n' cr wm wt (nI pl) c 0 0 to g w hs ru h tr 1 = some (S.1, wm', wt', (ek_me began (ek_ph n F ru h m pl c).2.1 (ek_ph n F ru h m pl c).2.2.2.1 (ek_ph n F ru h m pl c).2.2.2.2).1, (ek_ph n F ru h m pl c).2.2.1, (ek_me began (ek_ph n F ru h m pl c).2.1 (ek_ph n F ru h m pl c).2.2.2.1 (ek_ph n F ru h m pl c).2.2.2.2).2.1, (ek_me began (ek_ph n F ru h m pl c).2.1 (ek_ph n F ru h m pl c).2.2.2.1 (ek_ph n F ru h m pl c).2.2.2.2).2.2, to', S.2.1, S.2.2.1, S.2.2.2)
      ∧ (¬ (ek_ph n F ru h m pl c).2.2.2.2 = 0 → to' = if (ek_ph n F ru h m pl c).2.2.2.1 = -2 then -9 else (ek_ph n F ru h m pl c).2.2.2.1)
      ∧ S = (if tr = 0 then (cr, g, w, hs) else ek_pls n law named linked F hour (ek_ph n F ru h m pl c).1 (cr, g, w, hs)) := by
  intro m
  induction m with
  | zero => intro pl c cr wm wt to g w hs n' _ hpl hc he; exact (ek_enfull hD.1 hpl hc he).elim
  | succ m ih =>
    intro pl c cr wm wt to g w hs n' hn' hpl hc he htr
    have hn := hD.1
    obtain ⟨n'', rfl⟩ : ∃ z, n' = z + 1 := ⟨n' - 1, by omega⟩
    rw [f_X12_passHour_b23, if_neg (by decide), ek_awM hD hpl, bn_t]
    cases haw : ek_aw (ek_ds F pl) h
    · rw [if_pos (by rfl)]
      -- it signs here
      have hsg : ∃ wm1 wt1 S1, (if (p_X12_has c (nI pl)) = 0 then if tr = 0 then (f_X12_passHour_b83 N (f_X12_passHour_b23 N (nI n) law named linked hour began D n'') (nI n) law named linked hour began D) cr wm wt (nI pl) (c ||| ((1 : Int32) <<< ((nI pl) &&& 31))) 0 0 to g w hs ru h tr else bn (f_X12_puts N (nI n) law named linked hour D cr wm wt g w hs (nI pl)) (fun z80_2 => (f_X12_passHour_b83 N (f_X12_passHour_b23 N (nI n) law named linked hour began D n'') (nI n) law named linked hour began D) z80_2.1 z80_2.2.1 z80_2.2.2.1 (nI pl) (c ||| ((1 : Int32) <<< ((nI pl) &&& 31))) 0 0 to z80_2.2.2.2.1 z80_2.2.2.2.2.1 z80_2.2.2.2.2.2 ru h tr) else (f_X12_passHour_b83 N (f_X12_passHour_b23 N (nI n) law named linked hour began D n'') (nI n) law named linked hour began D) cr wm wt (nI pl) c 0 0 to g w hs ru h tr)
          = f_X12_passHour_b83 N (f_X12_passHour_b23 N (nI n) law named linked hour began D n'') (nI n) law named linked hour began D S1.1 wm1 wt1 (nI pl) (if ek_bt c pl then c else ek_sg c pl) 0 0 to S1.2.1 S1.2.2.1 S1.2.2.2 ru h tr
          ∧ S1 = (if tr = 0 then (cr, g, w, hs) else ek_pls n law named linked F hour (if ek_bt c pl then [] else [pl]) (cr, g, w, hs))
          ∧ (tr = 0 ∨ (tr = 1 ∧ S1.1 = (if ek_bt c pl then c else ek_sg c pl) ∧ ek_B n (if ek_bt c pl then c else ek_sg c pl) S1.2.1 S1.2.2.1)) := by
        rw [ek_has c (by omega)]
        cases e : ek_bt c pl
        · simp only [Bool.false_eq_true, if_false, if_true]
          rcases htr with ht | ⟨ht, hcr, hB⟩
          · rw [if_pos ht, if_pos ht]
            exact ⟨wm, wt, (cr, g, w, hs), rfl, rfl, Or.inl ht⟩
          · subst ht hcr
            rw [if_neg (by decide), if_neg (by decide)]
            obtain ⟨a, b, hp⟩ := ek_puts (hour := hour) (a := wm) (b := wt) (hs := hs) hN hD hT hB hpl
            rw [hp, bn_t]
            exact ⟨a, b, _, rfl, rfl, Or.inr ⟨rfl, rfl, ek_Bset hn hD.2.2 hT hB hpl⟩⟩
        · simp only [if_true]
          rw [if_neg (by decide)]
          refine ⟨wm, wt, (cr, g, w, hs), rfl, ?_, ?_⟩
          · split <;> rfl
          · rcases htr with ht | ⟨ht, hcr, hB⟩
            · exact Or.inl ht
            · exact Or.inr ⟨ht, hcr, hB⟩
      obtain ⟨wm1, wt1, S1, hq1, hS1, htr1⟩ := hsg
      rw [hq1]
      have hc' : ek_sub n (if ek_bt c pl then c else ek_sg c pl) := by
        split
        · exact hc
        · exact ek_subset hc hpl (by omega)
      have hcb : ek_bt (if ek_bt c pl then c else ek_sg c pl) pl = true := by
        cases e : ek_bt c pl
        · simp only [Bool.false_eq_true, if_false]; unfold ek_sg; rw [ek_bset c (by omega) (by omega), decide_eq_true rfl, Bool.or_true]
        · simp only [if_true]; exact e
      have e0 : ek_ph n F ru h (m + 1) pl c = (if (if ek_bt c pl then c else ek_sg c pl) = ek_all n then ((if ek_bt c pl then [] else [pl]), pl, (if ek_bt c pl then c else ek_sg c pl), -2, ek_hp F pl) else match ek_nx n pl F (if ek_bt c pl then c else ek_sg c pl) (h + 1) ru with
        | none => ((if ek_bt c pl then [] else [pl]), pl, (if ek_bt c pl then c else ek_sg c pl), -1, 0)
        | some f => if ek_ds F pl 0 = 1 then ((if ek_bt c pl then [] else [pl]) ++ (ek_ph n F ru h m f (if ek_bt c pl then c else ek_sg c pl)).1, (ek_ph n F ru h m f (if ek_bt c pl then c else ek_sg c pl)).2) else ((if ek_bt c pl then [] else [pl]), pl, (if ek_bt c pl then c else ek_sg c pl), nI f, ek_hp F pl)) := by
        rw [ek_ph, haw]; rfl
      rw [e0]
      have hen0 : ∀ f, ek_bt (if ek_bt c pl then c else ek_sg c pl) f = false → ek_en n m f (if ek_bt c pl then c else ek_sg c pl) := fun f hf => ek_enS hn hpl he hf
      clear e0 hq1
      generalize hcc : (if ek_bt c pl then c else ek_sg c pl) = cc at *
      generalize hll : (if ek_bt c pl = true then ([] : List Nat) else [pl]) = ll at *
      unfold f_X12_passHour_b83
      rw [ek_nxM hN hD hr hpl hcb, bn_t, show p_X12_all (nI n) = ek_all n from rfl]
      have hk0 : f_X12_of N D (nI pl) 0 = some (ek_ds F pl 0) := ek_ofD hD hpl (w := 0) (by omega)
      have hk4 : f_X12_of N D (nI pl) 4 = some (ek_ds F pl 4) := ek_ofD hD hpl (w := 4) (by omega)
      have hheap : ek_ds F pl 0 = 2 → ¬ ek_ds F pl 4 = 0 := by
        intro q
        obtain ⟨z, z1, z2, z3⟩ := (hD.2.2 pl hpl).2.2.2.2 q
        rw [z3]; exact nI_ne0 z1 (by omega)
      have n21 : ¬ (2 : Int32) = 1 := by decide
      by_cases hf : cc = ek_all n
      · rw [if_pos hf, if_pos hf, ek_nxfull hn hf]
        simp only
        unfold f_X12_passHour_b118
        rw [if_pos rfl, if_neg (by decide)]
        unfold f_X12_passHour_b133
        rw [hk0, bn_t]
        by_cases h2 : ek_ds F pl 0 = 2
        · rw [if_pos h2, hk4, bn_t]
          have eh : ek_hp F pl = ek_ds F pl 4 := by unfold ek_hp; rw [if_pos h2]
          refine ⟨wm1, wt1, -9, S1, ?_, by intro _; simp, hS1⟩
          unfold ek_me; rw [eh, if_neg (hheap h2)]
        · rw [if_neg h2, gd_t (Or.inr rfl)]
          unfold f_X12_passHour_b191 f_X12_passHour_b210
          have eh : ek_hp F pl = 0 := by unfold ek_hp; rw [if_neg h2]
          obtain ⟨n3, rfl⟩ : ∃ z, n'' = z + 1 := ⟨n'' - 1, by omega⟩
          have ex : (if ek_ds F pl 0 = 1 then (if (1 : Int32) = 0 then (1 : Int32) else 0) else 0) = 0 := by split <;> rfl
          rw [ex, f_X12_passHour_b23, if_pos rfl, if_neg (by decide)]
          refine ⟨wm1, wt1, to, S1, ?_, fun q => absurd eh q, hS1⟩
          unfold ek_me; rw [eh, if_pos rfl, if_pos rfl]
      · rw [if_neg hf, if_neg hf]
        cases hm : ek_nx n pl F cc (h + 1) ru with
        | none =>
          simp only
          unfold f_X12_passHour_b118
          rw [if_pos rfl, if_pos rfl]
          refine ⟨wm1, wt1, to, S1, ?_, by intro q; first | exact absurd rfl q | exact absurd trivial q, hS1⟩
          unfold ek_me; rw [if_pos rfl, if_neg (by decide), if_pos rfl]
        | some f =>
          have hf9 := ek_nxr pl F _ _ ru n f hm
          have nf9 : ¬ nI f = -9 := (ek_neg (z := (-9 : Int32)) (k := -9) (by decide) (by decide) (by omega)).2.2.2.2.2
          have nf2 : ¬ nI f = -2 := (ek_neg (z := (-2 : Int32)) (k := -2) (by decide) (by decide) (by omega)).2.2.2.2.2
          have nf1 : ¬ nI f = -1 := (ek_neg ek_m1 (by decide) (by omega)).2.2.2.2.2
          simp only
          unfold f_X12_passHour_b118
          rw [if_neg nf9]
          unfold f_X12_passHour_b133
          rw [hk0, bn_t]
          by_cases h2 : ek_ds F pl 0 = 2
          · have h1 : ¬ ek_ds F pl 0 = 1 := by rw [h2]; exact n21
            rw [if_pos h2, hk4, bn_t, if_neg h1]
            have eh : ek_hp F pl = ek_ds F pl 4 := by unfold ek_hp; rw [if_pos h2]
            refine ⟨wm1, wt1, nI f, S1, ?_, fun _ => by rw [if_neg nf2], hS1⟩
            unfold ek_me; rw [eh, if_neg (hheap h2)]
          · rw [if_neg h2, gd_t (Or.inl rfl)]
            unfold f_X12_passHour_b191 f_X12_passHour_b210
            have eh : ek_hp F pl = 0 := by unfold ek_hp; rw [if_neg h2]
            rw [if_pos rfl, if_pos rfl]
            by_cases h1 : ek_ds F pl 0 = 1
            · rw [if_pos h1, if_pos h1]
              have htr2 : tr = 0 ∨ (tr = 1 ∧ S1.1 = cc ∧ ek_B n cc S1.2.1 S1.2.2.1) := htr1
              obtain ⟨wm2, wt2, to2, S2, r1, r2, r3⟩ := ih f cc S1.1 wm1 wt1 to S1.2.1 S1.2.2.1 S1.2.2.2 n'' (by omega) hf9.1 hc' (hen0 f hf9.2) htr2
              refine ⟨wm2, wt2, to2, S2, r1, r2, ?_⟩
              rw [r3]
              rcases htr with ht | ⟨ht, -, -⟩
              · rw [if_pos ht, if_pos ht]; rw [if_pos ht] at hS1; exact hS1
              · have nt : ¬ tr = 0 := by rw [ht]; decide
                rw [if_neg nt, if_neg nt]; rw [if_neg nt] at hS1
                unfold ek_pls at hS1 ⊢
                rw [List.foldl_append, ← hS1]
            · rw [if_neg h1, if_neg h1]
              obtain ⟨n3, rfl⟩ : ∃ z, n'' = z + 1 := ⟨n'' - 1, by omega⟩
              rw [f_X12_passHour_b23, if_pos rfl]
              refine ⟨wm1, wt1, to, S1, ?_, fun q => absurd eh q, hS1⟩
              unfold ek_me; rw [eh, if_pos rfl, if_neg nf2, if_neg nf1]
    · rw [if_neg (by decide)]
      have e0 : ek_ph n F ru h (m + 1) pl c = ([], pl, c, -1, 0) := by rw [ek_ph, haw]; simp
      rw [e0]
      refine ⟨wm, wt, to, (cr, g, w, hs), ?_, by intro q; first | exact absurd rfl q | exact absurd trivial q, ?_⟩
      · have em : ek_me began pl (-1) 0 = (nI pl, 0, 0) := by unfold ek_me; rw [if_pos rfl, if_neg (by decide), if_pos rfl]
        simp only [em]
      · split <;> rfl
/-- bounds of what an hour gives -/
theorem ek_phb {n : Nat} {F : Nat → Int32} {ru h : Int32} (hn : n ≤ 9) (hw : ∀ i, i < n → ek_wf (ek_ds F i)) : ∀ (m pl : Nat) (c : Int32), pl < n → ek_sub n c →
    (ek_ph n F ru h m pl c).2.1 < n ∧ ek_sub n (ek_ph n F ru h m pl c).2.2.1 ∧ ((ek_ph n F ru h m pl c).2.2.2.1 = -2 ∨ (ek_ph n F ru h m pl c).2.2.2.1 = -1 ∨ ∃ f, f < n ∧ (ek_ph n F ru h m pl c).2.2.2.1 = nI f) ∧ (∃ z, z ≤ 9 ∧ (ek_ph n F ru h m pl c).2.2.2.2 = nI z) ∧ ((ek_ph n F ru h m pl c).2.2.2.1 = -1 → (ek_ph n F ru h m pl c).2.2.2.2 = 0) ∧ (∀ i, i ∈ (ek_ph n F ru h m pl c).1 → i < n) ∧ (ek_ph n F ru h m pl c).2.2.1 = (ek_ph n F ru h m pl c).1.foldl ek_sg c := by
  intro m
  induction m with
  | zero => intro pl c hpl hc; exact ⟨hpl, hc, Or.inr (Or.inl rfl), ⟨0, by omega, rfl⟩, fun _ => rfl, fun i hi => absurd hi (by simp [ek_ph]), rfl⟩
  | succ m ih =>
    intro pl c hpl hc
    cases haw : ek_aw (ek_ds F pl) h
    · have hc' : ek_sub n (if ek_bt c pl then c else ek_sg c pl) := by
        split
        · exact hc
        · exact ek_subset hc hpl (by omega)
      have e0 : ek_ph n F ru h (m + 1) pl c = (if (if ek_bt c pl then c else ek_sg c pl) = ek_all n then ((if ek_bt c pl then [] else [pl]), pl, (if ek_bt c pl then c else ek_sg c pl), -2, ek_hp F pl) else match ek_nx n pl F (if ek_bt c pl then c else ek_sg c pl) (h + 1) ru with
        | none => ((if ek_bt c pl then [] else [pl]), pl, (if ek_bt c pl then c else ek_sg c pl), -1, 0)
        | some f => if ek_ds F pl 0 = 1 then ((if ek_bt c pl then [] else [pl]) ++ (ek_ph n F ru h m f (if ek_bt c pl then c else ek_sg c pl)).1, (ek_ph n F ru h m f (if ek_bt c pl then c else ek_sg c pl)).2) else ((if ek_bt c pl then [] else [pl]), pl, (if ek_bt c pl then c else ek_sg c pl), nI f, ek_hp F pl)) := by
        rw [ek_ph, haw]; rfl
      have hl : (∀ i, i ∈ (if ek_bt c pl then ([] : List Nat) else [pl]) → i < n) ∧ (if ek_bt c pl then c else ek_sg c pl) = (if ek_bt c pl then ([] : List Nat) else [pl]).foldl ek_sg c := by
        cases ek_bt c pl
        · exact ⟨fun i hi => by simp at hi; rw [hi]; exact hpl, rfl⟩
        · exact ⟨fun i hi => absurd hi (by simp), rfl⟩
      have hhp : ∃ z, z ≤ 9 ∧ ek_hp F pl = nI z := by
        unfold ek_hp
        split
        · rename_i q
          obtain ⟨z, z1, z2, z3⟩ := (hw pl hpl).2.2.2.2 q
          exact ⟨z, z2, z3⟩
        · exact ⟨0, by omega, rfl⟩
      rw [e0]
      generalize (if ek_bt c pl then c else ek_sg c pl) = cc at *
      generalize (if ek_bt c pl = true then ([] : List Nat) else [pl]) = ll at *
      by_cases hf : cc = ek_all n
      · rw [if_pos hf]; exact ⟨hpl, hc', Or.inl rfl, hhp, fun q => absurd q (by simp only; decide), hl.1, hl.2⟩
      · rw [if_neg hf]
        cases hm : ek_nx n pl F cc (h + 1) ru with
        | none => exact ⟨hpl, hc', Or.inr (Or.inl rfl), ⟨0, by omega, rfl⟩, fun _ => rfl, hl.1, hl.2⟩
        | some f =>
          have hf9 := ek_nxr pl F _ _ ru n f hm
          simp only
          by_cases h1 : ek_ds F pl 0 = 1
          · rw [if_pos h1]
            obtain ⟨a1, a2, a3, a4, a5, a6, a7⟩ := ih f cc hf9.1 hc'
            refine ⟨a1, a2, a3, a4, a5, ?_, ?_⟩
            · intro i hi
              rcases List.mem_append.mp hi with q | q
              · exact hl.1 i q
              · exact a6 i q
            · show _ = List.foldl ek_sg c (ll ++ _)
              rw [List.foldl_append, ← hl.2]; exact a7
          · rw [if_neg h1]
            exact ⟨hpl, hc', Or.inr (Or.inr ⟨f, hf9.1, rfl⟩), hhp, fun q => absurd q (ek_neg ek_m1 (by decide) (by omega)).2.2.2.2.2, hl.1, hl.2⟩
    · have e0 : ek_ph n F ru h (m + 1) pl c = ([], pl, c, -1, 0) := by rw [ek_ph, haw]; simp
      rw [e0]
      exact ⟨hpl, hc, Or.inr (Or.inl rfl), ⟨0, by omega, rfl⟩, fun _ => rfl, fun i hi => absurd hi (by simp), rfl⟩
