/-! rounds: HOUR by HOUR -/
abbrev GSt : Type := Nat × Int32 × Int32 × (Nat → Int32) × (Nat → Int32) × (Nat → Int32)
theorem sg_bt {c : Int32} {a i : Nat} (h : ek_bt (ek_sg c a) i = false) : ek_bt c i = false := by
  rcases Nat.lt_or_ge i 32 with q | q
  · cases e : ek_bt c i
    · rfl
    · unfold ek_sg at h
      rw [ek_bor, e, Bool.true_or] at h
      exact h
  · exact ek_bbig q
theorem ek_phz {n : Nat} {F : Nat → Int32} {ru h : Int32} (hn : n ≤ 9) : ∀ (m pl : Nat) (c : Int32), pl < n →
    ((ek_ph n F ru h m pl c).2.2.2.1 = -2 → (ek_ph n F ru h m pl c).2.2.1 = ek_all n) ∧ ((∀ i, i < n → ¬ ek_ds F i 0 = 2) → (ek_ph n F ru h m pl c).2.2.2.2 = 0) ∧ (∀ i, i ∈ (ek_ph n F ru h m pl c).1 → ek_bt c i = false) := by
  intro m
  induction m with
  | zero => intro pl c hpl; exact ⟨fun q => absurd q (by show ¬ (-1 : Int32) = -2; decide), fun _ => rfl, fun i hi => absurd hi (by simp [ek_ph])⟩
  | succ m ih =>
    intro pl c hpl
    cases haw : ek_aw (ek_ds F pl) h
    · have e0 : ek_ph n F ru h (m + 1) pl c = (if (if ek_bt c pl then c else ek_sg c pl) = ek_all n then ((if ek_bt c pl then [] else [pl]), pl, (if ek_bt c pl then c else ek_sg c pl), -2, ek_hp F pl) else match ek_nx n pl F (if ek_bt c pl then c else ek_sg c pl) (h + 1) ru with
        | none => ((if ek_bt c pl then [] else [pl]), pl, (if ek_bt c pl then c else ek_sg c pl), -1, 0)
        | some f => if ek_ds F pl 0 = 1 then ((if ek_bt c pl then [] else [pl]) ++ (ek_ph n F ru h m f (if ek_bt c pl then c else ek_sg c pl)).1, (ek_ph n F ru h m f (if ek_bt c pl then c else ek_sg c pl)).2) else ((if ek_bt c pl then [] else [pl]), pl, (if ek_bt c pl then c else ek_sg c pl), nI f, ek_hp F pl)) := by
        rw [ek_ph, haw]; rfl
      have hl : ∀ i, i ∈ (if ek_bt c pl then ([] : List Nat) else [pl]) → ek_bt c i = false := by
        intro i hi
        cases e : ek_bt c pl
        · rw [e] at hi
          simp at hi
          rw [hi]; exact e
        · rw [e] at hi
          simp at hi
      have hcc : ∀ i, ek_bt (if ek_bt c pl then c else ek_sg c pl) i = false → ek_bt c i = false := by
        intro i hi
        cases e : ek_bt c pl
        · rw [e] at hi; exact sg_bt hi
        · rw [e] at hi; exact hi
      have hhp : (∀ i, i < n → ¬ ek_ds F i 0 = 2) → ek_hp F pl = 0 := by
        intro q
        unfold ek_hp
        rw [if_neg (q pl hpl)]
      rw [e0]
      generalize (if ek_bt c pl then c else ek_sg c pl) = cc at *
      generalize (if ek_bt c pl = true then ([] : List Nat) else [pl]) = ll at *
      by_cases hf : cc = ek_all n
      · rw [if_pos hf]; exact ⟨fun _ => hf, hhp, hl⟩
      · rw [if_neg hf]
        cases hm : ek_nx n pl F cc (h + 1) ru with
        | none => exact ⟨fun q => absurd q (by show ¬ (-1 : Int32) = -2; decide), fun _ => rfl, hl⟩
        | some f =>
          have hf9 := ek_nxr pl F _ _ ru n f hm
          simp only
          by_cases h1 : ek_ds F pl 0 = 1
          · rw [if_pos h1]
            obtain ⟨a1, a2, a3⟩ := ih f cc hf9.1
            refine ⟨a1, a2, fun i hi => ?_⟩
            rcases List.mem_append.mp hi with q | q
            · exact hl i q
            · exact hcc i (a3 i q)
          · rw [if_neg h1]
            refine ⟨fun q => ?_, hhp, hl⟩
            exfalso
            have q' : nI f = -2 := q
            have := congrArg Int32.toInt q'
            rw [nI_toInt (by omega), show ((-2 : Int32)).toInt = -2 by decide] at this
            omega
    · have e0 : ek_ph n F ru h (m + 1) pl c = ([], pl, c, -1, 0) := by rw [ek_ph, haw]; rfl
      rw [e0]
      exact ⟨fun q => absurd q (by show ¬ (-1 : Int32) = -2; decide), fun _ => rfl, fun i hi => absurd hi (by simp)⟩
/-- what one signer changes -/
theorem pls_mem {n : Nat} {la na li hour : Int32} {F : Nat → Int32} (hn : n ≤ 9) : ∀ (l : List Nat) (s : Int32 × (Nat → Int32) × (Nat → Int32) × (Nat → Int32)), (∀ i, i ∈ l → i < n) →
    (∀ i, i < 32 → (ek_bt (ek_pls n la na li F hour l s).1 i = true ↔ ek_bt s.1 i = true ∨ i ∈ l)) ∧ (∀ i, i ∉ l → (ek_pls n la na li F hour l s).2.1 i = s.2.1 i) ∧ (∀ i, i ∈ l → (ek_pls n la na li F hour l s).2.2.2 i = hour) ∧ (∀ i, i ∉ l → (ek_pls n la na li F hour l s).2.2.2 i = s.2.2.2 i) := by
  intro l
  induction l with
  | nil => intro s _; exact ⟨fun i _ => ⟨fun h => Or.inl h, fun h => h.elim id (fun q => absurd q (by simp))⟩, fun i _ => rfl, fun i h => absurd h (by simp), fun i _ => rfl⟩
  | cons a l ih =>
    intro s hl
    have ha : a < n := hl a (by simp)
    obtain ⟨h1, h2, h3, h4⟩ := ih (ek_pu1 n la na li F hour s a) (fun i hi => hl i (by simp [hi]))
    have e : ek_pls n la na li F hour (a :: l) s = ek_pls n la na li F hour l (ek_pu1 n la na li F hour s a) := rfl
    rw [e]
    refine ⟨fun i hi => ?_, fun i hi => ?_, fun i hi => ?_, fun i hi => ?_⟩
    · rw [h1 i hi]
      show ek_bt (ek_sg s.1 a) i = true ∨ i ∈ l ↔ _
      unfold ek_sg
      rw [ek_bset s.1 (by omega) hi]
      simp only [Bool.or_eq_true, decide_eq_true_eq, List.mem_cons]
      constructor
      · rintro ((h | h) | h)
        · exact Or.inl h
        · exact Or.inr (Or.inl h.symm)
        · exact Or.inr (Or.inr h)
      · rintro (h | h | h)
        · exact Or.inl (Or.inl h)
        · exact Or.inl (Or.inr h.symm)
        · exact Or.inr h
    · rw [h2 i (fun q => hi (by simp [q]))]
      show upd s.2.1 a _ i = s.2.1 i
      exact pk_un (fun q => hi (by simp [q]))
    · by_cases q : i ∈ l
      · exact h3 i q
      · have : i = a := by simpa [q] using hi
        rw [h4 i q]
        show upd s.2.2.2 a hour i = hour
        rw [this]
        exact pk_us
    · rw [h4 i (fun q => hi (by simp [q]))]
      show upd s.2.2.2 a hour i = s.2.2.2 i
      exact pk_un (fun q => hi (by simp [q]))
def hG (n : Nat) (F : Nat → Int32) (st ru la na li : Int32) (ho : Int32) (s : GSt × Int64) : GSt × Int64 :=
  if s.1.2.1 = 0 then
    (((ek_hr st s.2 (ek_ph n F ru ho 9 s.1.1 s.1.2.2.1).2.1 (ek_ph n F ru ho 9 s.1.1 s.1.2.2.1).2.2.2.1 (ek_ph n F ru ho 9 s.1.1 s.1.2.2.1).2.2.2.2).2.1.toNatClampNeg,
      (ek_hr st s.2 (ek_ph n F ru ho 9 s.1.1 s.1.2.2.1).2.1 (ek_ph n F ru ho 9 s.1.1 s.1.2.2.1).2.2.2.1 (ek_ph n F ru ho 9 s.1.1 s.1.2.2.1).2.2.2.2).2.2,
      (ek_pls n la na li F ho (ek_ph n F ru ho 9 s.1.1 s.1.2.2.1).1 (s.1.2.2.1, s.1.2.2.2.2.1, s.1.2.2.2.2.2, s.1.2.2.2.1)).1,
      (ek_pls n la na li F ho (ek_ph n F ru ho 9 s.1.1 s.1.2.2.1).1 (s.1.2.2.1, s.1.2.2.2.2.1, s.1.2.2.2.2.2, s.1.2.2.2.1)).2.2.2,
      (ek_pls n la na li F ho (ek_ph n F ru ho 9 s.1.1 s.1.2.2.1).1 (s.1.2.2.1, s.1.2.2.2.2.1, s.1.2.2.2.2.2, s.1.2.2.2.1)).2.1,
      (ek_pls n la na li F ho (ek_ph n F ru ho 9 s.1.1 s.1.2.2.1).1 (s.1.2.2.1, s.1.2.2.2.2.1, s.1.2.2.2.2.2, s.1.2.2.2.1)).2.2.1),
     (ek_hr st s.2 (ek_ph n F ru ho 9 s.1.1 s.1.2.2.1).2.1 (ek_ph n F ru ho 9 s.1.1 s.1.2.2.1).2.2.2.1 (ek_ph n F ru ho 9 s.1.1 s.1.2.2.1).2.2.2.2).1)
  else s
def gI (n : Nat) (F : Nat → Int32) (st ru la na li : Int32) (h0 : Nat) (s : GSt × Int64) : Nat → GSt × Int64
  | 0 => s
  | k + 1 => hG n F st ru la na li (nI (h0 + k)) (gI n F st ru la na li h0 s k)
def GV (n s0 : Nat) (s : GSt) : Prop := s.1 < n ∧ (s.2.1 = 0 ∨ s.2.1 = 1) ∧ ek_B n s.2.2.1 s.2.2.2.2.1 s.2.2.2.2.2 ∧ (s.2.1 = 1 → s.2.2.1 = ek_all n ∧ s.1 = s0)
/-- one HOUR: what stays, what is new -/
theorem hGv {n s0 : Nat} {F : Nat → Int32} {ru la na li ho : Int32} {s : GSt × Int64} (hn : n ≤ 9) (hw : ∀ i, i < n → ek_wf (ek_ds F i)) (hT : ek_T la na li) (hs0 : s0 < n) (hV : GV n s0 s.1) :
    GV n s0 (hG n F (nI s0) ru la na li ho s).1 ∧ (∀ i, i < n → ek_bt s.1.2.2.1 i = true → ek_bt (hG n F (nI s0) ru la na li ho s).1.2.2.1 i = true ∧ (hG n F (nI s0) ru la na li ho s).1.2.2.2.2.1 i = s.1.2.2.2.2.1 i) ∧ (∀ i, i < n → ek_bt s.1.2.2.1 i = false → ek_bt (hG n F (nI s0) ru la na li ho s).1.2.2.1 i = true → (hG n F (nI s0) ru la na li ho s).1.2.2.2.1 i = ho) ∧ (s.1.2.1 = 1 → (hG n F (nI s0) ru la na li ho s).1.2.1 = 1) := by
  obtain ⟨hp, hib, hB, hbk⟩ := hV
  obtain ⟨z1, z2, z3, z4, z5, z6, z7⟩ := ek_phb (F := F) (ru := ru) (h := ho) hn hw 9 s.1.1 s.1.2.2.1 hp hB.1
  obtain ⟨y1, y2, y3⟩ := ek_phz (F := F) (ru := ru) (h := ho) hn 9 s.1.1 s.1.2.2.1 hp
  have hPB := ek_plsB (hour := ho) hn hw hT (ek_ph n F ru ho 9 s.1.1 s.1.2.2.1).1 (s.1.2.2.1, s.1.2.2.2.2.1, s.1.2.2.2.2.2, s.1.2.2.2.1) z6 hB
  obtain ⟨m1, m2, m3, m4⟩ := pls_mem (la := la) (na := na) (li := li) (hour := ho) (F := F) hn (ek_ph n F ru ho 9 s.1.1 s.1.2.2.1).1 (s.1.2.2.1, s.1.2.2.2.2.1, s.1.2.2.2.2.2, s.1.2.2.2.1) z6
  have hrb := ek_hrb (st := nI s0) (lot := s.2) (hp := (ek_ph n F ru ho 9 s.1.1 s.1.2.2.1).2.2.2.2) ⟨s0, hs0, rfl⟩ z1 z3
  by_cases h0 : s.1.2.1 = 0
  · have e : hG n F (nI s0) ru la na li ho s = _ := if_pos h0
    rw [e]
    generalize ek_ph n F ru ho 9 s.1.1 s.1.2.2.1 = R at *
    generalize ek_pls n la na li F ho R.1 (s.1.2.2.1, s.1.2.2.2.2.1, s.1.2.2.2.2.2, s.1.2.2.2.1) = P at *
    have hback : (ek_hr (nI s0) s.2 R.2.1 R.2.2.2.1 R.2.2.2.2).2.2 = 1 → R.2.2.2.1 = -2 ∧ (ek_hr (nI s0) s.2 R.2.1 R.2.2.2.1 R.2.2.2.2).2.1 = nI s0 := by
      intro q
      unfold ek_hr ek_mv at q ⊢
      by_cases t2 : R.2.2.2.1 = -2
      · refine ⟨t2, ?_⟩
        rw [if_pos t2] at q ⊢
        by_cases t0 : R.2.2.2.2 = 0
        · rw [if_pos t0] at q ⊢
        · rw [if_neg t0] at q ⊢
          by_cases t3 : R.2.2.2.2.toInt64 ≤ (ek_lot s.2 - ek_lot s.2 / (12 : Int64) * (12 : Int64))
          · rw [if_pos t3] at q
            exact absurd q (by simp)
          · rw [if_neg t3]
      · exfalso
        rw [if_neg t2] at q
        by_cases t0 : R.2.2.2.2 = 0
        · rw [if_pos t0] at q
          by_cases t1 : R.2.2.2.1 = -1
          · rw [if_pos t1] at q; exact absurd q (by simp)
          · rw [if_neg t1] at q; exact absurd q (by simp)
        · rw [if_neg t0] at q
          by_cases t3 : R.2.2.2.2.toInt64 ≤ (ek_lot s.2 - ek_lot s.2 / (12 : Int64) * (12 : Int64))
          · rw [if_pos t3] at q; exact absurd q (by simp)
          · rw [if_neg t3] at q
            by_cases t1 : R.2.2.2.1 = -1
            · rw [if_pos t1] at q; exact absurd q (by simp)
            · rw [if_neg t1] at q; exact absurd q (by simp)
    obtain ⟨⟨a, ha, ea⟩, hb⟩ := hrb
    refine ⟨⟨?_, hb, hPB.1, fun q => ⟨?_, ?_⟩⟩, fun i hi hbi => ⟨?_, ?_⟩, fun i hi h1 h2 => ?_, fun q => absurd (h0.symm.trans q) (by decide)⟩
    · show (ek_hr (nI s0) s.2 R.2.1 R.2.2.2.1 R.2.2.2.2).2.1.toNatClampNeg < n
      rw [ea, nI_clamp (by omega)]; exact ha
    · show P.1 = ek_all n
      rw [hPB.2, ← z7]
      exact y1 (hback q).1
    · show (ek_hr (nI s0) s.2 R.2.1 R.2.2.2.1 R.2.2.2.2).2.1.toNatClampNeg = s0
      rw [(hback q).2, nI_clamp (by omega)]
    · exact (m1 i (by omega)).mpr (Or.inl hbi)
    · exact m2 i (fun q => by rw [y3 i q] at hbi; cases hbi)
    · rcases (m1 i (by omega)).mp h2 with q | q
      · rw [h1] at q; cases q
      · exact m3 i q
  · have e : hG n F (nI s0) ru la na li ho s = s := if_neg h0
    rw [e]
    exact ⟨⟨hp, hib, hB, hbk⟩, fun i hi hbi => ⟨hbi, rfl⟩, fun i hi h1 h2 => absurd (h1.symm.trans h2) (by decide), fun q => q⟩
/-- no HEAP: no lot tells -/
theorem hGl {n s0 : Nat} {F : Nat → Int32} {ru la na li ho : Int32} {s t : GSt × Int64} (hn : n ≤ 9) (hpl : ∀ i, i < n → ¬ ek_ds F i 0 = 2) (hp : s.1.1 < n) (h : t.1 = s.1) : (hG n F (nI s0) ru la na li ho t).1 = (hG n F (nI s0) ru la na li ho s).1 := by
  obtain ⟨s1, s2⟩ := s
  obtain ⟨t1, t2⟩ := t
  simp only at h hp
  subst h
  have y2 := (ek_phz (F := F) (ru := ru) (h := ho) hn 9 t1.1 t1.2.2.1 hp).2.1 hpl
  unfold hG
  by_cases h0 : t1.2.1 = 0
  · rw [if_pos h0, if_pos h0]
    simp only
    unfold ek_hr
    rw [if_pos y2, if_pos y2]
  · rw [if_neg h0, if_neg h0]
theorem gIv {n s0 : Nat} {F : Nat → Int32} {ru la na li : Int32} {h0 : Nat} {s : GSt × Int64} (hn : n ≤ 9) (hw : ∀ i, i < n → ek_wf (ek_ds F i)) (hT : ek_T la na li) (hs0 : s0 < n) (hV : GV n s0 s.1) : ∀ k, GV n s0 (gI n F (nI s0) ru la na li h0 s k).1 := by
  intro k
  induction k with
  | zero => exact hV
  | succ k ih => exact (hGv hn hw hT hs0 ih).1
section SEM
variable {S C TS TC : Nat → Int32} {F : Nat → Int32} {k0 : TRd} {yn : Int32} {ch : Nat → Int32} {ak : Int32} {up lo : Int64} {th : TH}
variable {n s0 h0 x sd : Nat} {ru la na li it : Int32}
theorem s_go {s : GSt} (hn : n ≤ 9) (hw : ∀ i, i < n → ek_wf (ek_ds F i)) (hT : ek_T la na li) (hs0 : s0 < n) (hV : GV n s0 s) (hx : x ≤ 60) (hx2 : h0 + x ≤ 1000) (hd1 : 1 ≤ sd) (hd2 : sd < 2147483647) (h : Sem S C TS TC (nI n) F (mR (nI s0) ru (nI s.1) s.2.1 (nI h0) s.2.2.1 la na li it s.2.2.2.1 s.2.2.2.2.1 s.2.2.2.2.2) k0 yn ch ak up lo th) :
    ∃ th', o_go th (nI x) (nI sd) = some (nI (h0 + x), th') ∧ Sem S C TS TC (nI n) F (mR (nI s0) ru (nI (gI n F (nI s0) ru la na li h0 (s, lN sd) x).1.1) (gI n F (nI s0) ru la na li h0 (s, lN sd) x).1.2.1 (nI (h0 + x)) (gI n F (nI s0) ru la na li h0 (s, lN sd) x).1.2.2.1 la na li it (gI n F (nI s0) ru la na li h0 (s, lN sd) x).1.2.2.2.1 (gI n F (nI s0) ru la na li h0 (s, lN sd) x).1.2.2.2.2.1 (gI n F (nI s0) ru la na li h0 (s, lN sd) x).1.2.2.2.2.2) k0 yn ch ak up lo th' := by
  obtain ⟨fi, fc, dr, k1, k2, lv, ba, ⟨a1, a2, a3, a4, a5, sg⟩, ⟨b1, b2, b3, b4, b5, b6⟩, tr, ca, fw, sn, s2, wh, sq, pk, rfl, hS, hT2⟩ := h
  have e : ∃ a1' a2' a3' a4' a5' sg' b1' b2' b3' b4' b5' b6' t', f_X11_go 5000 (nI n) F (nI s0) ru la na li (nI s.1) s.2.1 (nI h0) s.2.2.1 s.2.2.2.1 s.2.2.2.2.1 s.2.2.2.2.2 a1 a2 a3 a4 a5 sg b1 b2 b3 b4 b5 b6 ca (nI x) (nI sd) = some (nI (h0 + x), nI (gI n F (nI s0) ru la na li h0 (s, lN sd) x).1.1, (gI n F (nI s0) ru la na li h0 (s, lN sd) x).1.2.1, nI (h0 + x), (gI n F (nI s0) ru la na li h0 (s, lN sd) x).1.2.2.1, (gI n F (nI s0) ru la na li h0 (s, lN sd) x).1.2.2.2.1, (gI n F (nI s0) ru la na li h0 (s, lN sd) x).1.2.2.2.2.1, (gI n F (nI s0) ru la na li h0 (s, lN sd) x).1.2.2.2.2.2, a1', a2', a3', a4', a5', sg', b1', b2', b3', b4', b5', b6', t') := by
    have h2147 : (2147483647 : Int64) = lN 2147483647 := rfl
    have ex : f_X11_go 5000 (nI n) F (nI s0) ru la na li (nI s.1) s.2.1 (nI h0) s.2.2.1 s.2.2.2.1 s.2.2.2.2.1 s.2.2.2.2.2 a1 a2 a3 a4 a5 sg b1 b2 b3 b4 b5 b6 ca (nI x) (nI sd) = f_X11_go_b63 5000 (nI n) F (nI s0) ru la na li 5000 (nI s.1) s.2.1 (nI h0) s.2.2.1 s.2.2.2.1 s.2.2.2.2.1 s.2.2.2.2.2 a1 a2 a3 a4 a5 sg b1 b2 b3 b4 b5 b6 ca (nI x) (lN sd) 0 := by
      unfold f_X11_go
      rw [if_neg (nI_pos (by omega)), if_neg (show ¬ (60 : Int32) < nI x from nI_nlt (a := 60) hx (by omega)), if_neg (show ¬ nI sd < (1 : Int32) from nI_nlt (b := 1) hd1 (by omega)), nI_l (by omega), if_pos (by rw [h2147]; exact (pk_lLT (by omega) (by omega)).mpr hd2), if_neg (sr_n0 (by omega) hn), if_pos (by rw [nI_add]; exact nI_le (b := 1000) hx2 (by omega)), nm_t]
    rw [ex]
    refine ek_forI (σ := Int32 × Int32 × Int32 × Int32 × (Nat → Int32) × (Nat → Int32) × (Nat → Int32) × Int32 × Int32 × Int32 × Int32 × Int32 × (Nat → Int32) × Int32 × Int32 × Int32 × Int32 × Int32 × Int32 × (Nat → Int32) × Int64) (fun n2 y s => f_X11_go_b63 5000 (nI n) F (nI s0) ru la na li n2 s.1 s.2.1 s.2.2.1 s.2.2.2.1 s.2.2.2.2.1 s.2.2.2.2.2.1 s.2.2.2.2.2.2.1 s.2.2.2.2.2.2.2.1 s.2.2.2.2.2.2.2.2.1 s.2.2.2.2.2.2.2.2.2.1 s.2.2.2.2.2.2.2.2.2.2.1 s.2.2.2.2.2.2.2.2.2.2.2.1 s.2.2.2.2.2.2.2.2.2.2.2.2.1 s.2.2.2.2.2.2.2.2.2.2.2.2.2.1 s.2.2.2.2.2.2.2.2.2.2.2.2.2.2.1 s.2.2.2.2.2.2.2.2.2.2.2.2.2.2.2.1 s.2.2.2.2.2.2.2.2.2.2.2.2.2.2.2.2.1 s.2.2.2.2.2.2.2.2.2.2.2.2.2.2.2.2.2.1 s.2.2.2.2.2.2.2.2.2.2.2.2.2.2.2.2.2.2.1 s.2.2.2.2.2.2.2.2.2.2.2.2.2.2.2.2.2.2.2.1 (nI x) s.2.2.2.2.2.2.2.2.2.2.2.2.2.2.2.2.2.2.2.2 y) (fun j u => u.1 = nI (gI n F (nI s0) ru la na li h0 (s, lN sd) j).1.1 ∧ u.2.1 = (gI n F (nI s0) ru la na li h0 (s, lN sd) j).1.2.1 ∧ u.2.2.1 = nI (h0 + j) ∧ u.2.2.2.1 = (gI n F (nI s0) ru la na li h0 (s, lN sd) j).1.2.2.1 ∧ u.2.2.2.2.1 = (gI n F (nI s0) ru la na li h0 (s, lN sd) j).1.2.2.2.1 ∧ u.2.2.2.2.2.1 = (gI n F (nI s0) ru la na li h0 (s, lN sd) j).1.2.2.2.2.1 ∧ u.2.2.2.2.2.2.1 = (gI n F (nI s0) ru la na li h0 (s, lN sd) j).1.2.2.2.2.2 ∧ u.2.2.2.2.2.2.2.2.2.2.2.2.2.2.2.2.2.2.2.2 = (gI n F (nI s0) ru la na li h0 (s, lN sd) j).2) x 5000 (by omega) ?_ (nI s.1, s.2.1, nI h0, s.2.2.1, s.2.2.2.1, s.2.2.2.2.1, s.2.2.2.2.2, a1, a2, a3, a4, a5, sg, b1, b2, b3, b4, b5, b6, ca, lN sd) ⟨rfl, rfl, rfl, rfl, rfl, rfl, rfl, rfl⟩ (fun r => ∃ a1' a2' a3' a4' a5' sg' b1' b2' b3' b4' b5' b6' t', r = some (nI (h0 + x), nI (gI n F (nI s0) ru la na li h0 (s, lN sd) x).1.1, (gI n F (nI s0) ru la na li h0 (s, lN sd) x).1.2.1, nI (h0 + x), (gI n F (nI s0) ru la na li h0 (s, lN sd) x).1.2.2.1, (gI n F (nI s0) ru la na li h0 (s, lN sd) x).1.2.2.2.1, (gI n F (nI s0) ru la na li h0 (s, lN sd) x).1.2.2.2.2.1, (gI n F (nI s0) ru la na li h0 (s, lN sd) x).1.2.2.2.2.2, a1', a2', a3', a4', a5', sg', b1', b2', b3', b4', b5', b6', t')) ?_
    · rintro n2 j ⟨u1, u2, u3, u4, u5, u6, u7, u8, u9, u10, u11, u12, u13, u14, u15, u16, u17, u18, u19, u20, u21⟩ hj ⟨i1, i2, i3, i4, i5, i6, i7, i8⟩
      simp only at i1 i2 i3 i4 i5 i6 i7 i8
      obtain ⟨v1, v2, v3, v4⟩ := gIv (h0 := h0) (ru := ru) (s := (s, lN sd)) hn hw hT hs0 hV j
      have eN : gI n F (nI s0) ru la na li h0 (s, lN sd) (j + 1) = hG n F (nI s0) ru la na li (nI (h0 + j)) (gI n F (nI s0) ru la na li h0 (s, lN sd) j) := rfl
      have e1 : nI (h0 + j) + 1 = nI (h0 + (j + 1)) := by rw [nI_1]; rfl
      rw [eN]
      generalize gI n F (nI s0) ru la na li h0 (s, lN sd) j = g at *
      subst i1 i2 i3 i4 i5 i6 i7 i8
      by_cases hb : g.1.2.1 = 0
      · have eH : hG n F (nI s0) ru la na li (nI (h0 + j)) g = _ := if_pos hb
        obtain ⟨z1, z2, z3, z4, z5, z6, z7⟩ := ek_phb (F := F) (ru := ru) (h := nI (h0 + j)) hn hw 9 g.1.1 g.1.2.2.1 v1 v3.1
        have hrb := ek_hrb (st := nI s0) (lot := g.2) (hp := (ek_ph n F ru (nI (h0 + j)) 9 g.1.1 g.1.2.2.1).2.2.2.2) ⟨s0, hs0, rfl⟩ z1 z3
        obtain ⟨w1, w2, w3, w4, w5, wsg, x1, x2, x3, x4, x5, x6, xt, r1⟩ := ek_hourX (N := 5000) (F := F) (st := nI s0) (ru := ru) (ho := nI (h0 + j)) (la := la) (na := na) (li := li) (ib := g.1.2.1) (hs := g.1.2.2.2.1) (a1 := u8) (a2 := u9) (a3 := u10) (a4 := u11) (a5 := u12) (sg := u13) (b1 := u14) (b2 := u15) (b3 := u16) (b4 := u17) (b5 := u18) (b6 := u19) (t := u20) (lot := g.2) (by omega) hn hw hT v1 v3 rfl rfl
        rw [eH]
        obtain ⟨⟨aa, haa, eaa⟩, hbb⟩ := hrb
        clear eH
        generalize ek_ph n F ru (nI (h0 + j)) 9 g.1.1 g.1.2.2.1 = R at *
        generalize ek_pls n la na li F (nI (h0 + j)) R.1 (g.1.2.2.1, g.1.2.2.2.2.1, g.1.2.2.2.2.2, g.1.2.2.2.1) = P at *
        generalize ek_hr (nI s0) g.2 R.2.1 R.2.2.2.1 R.2.2.2.2 = E at *
        refine ⟨(E.2.1, E.2.2, nI (h0 + (j + 1)), P.1, P.2.2.2, P.2.1, P.2.2.1, w1, w2, w3, w4, w5, wsg, x1, x2, x3, x4, x5, x6, xt, E.1), ?_, ⟨?_, rfl, rfl, rfl, rfl, rfl, rfl, rfl⟩⟩
        · simp only
          rw [f_X11_go_b63, if_neg (nI_ge hj (by omega)), if_pos hb, r1, bn_t]
          unfold f_X11_go_b85
          rw [e1, nI_1]
        · simp only
          rw [eaa, nI_clamp (by omega)]
      · have eH : hG n F (nI s0) ru la na li (nI (h0 + j)) g = g := if_neg hb
        rw [eH]
        refine ⟨(nI g.1.1, g.1.2.1, nI (h0 + (j + 1)), g.1.2.2.1, g.1.2.2.2.1, g.1.2.2.2.2.1, g.1.2.2.2.2.2, u8, u9, u10, u11, u12, u13, u14, u15, u16, u17, u18, u19, u20, g.2), ?_, ⟨rfl, rfl, rfl, rfl, rfl, rfl, rfl, rfl⟩⟩
        simp only
        rw [f_X11_go_b63, if_neg (nI_ge hj (by omega)), if_neg hb]
        unfold f_X11_go_b85
        rw [e1, nI_1]
    · rintro n2 ⟨u1, u2, u3, u4, u5, u6, u7, u8, u9, u10, u11, u12, u13, u14, u15, u16, u17, u18, u19, u20, u21⟩ ⟨i1, i2, i3, i4, i5, i6, i7, i8⟩
      simp only at i1 i2 i3 i4 i5 i6 i7 i8
      subst i1 i2 i3 i4 i5 i6 i7 i8
      simp only
      rw [f_X11_go_b63, if_pos (nI_le (Nat.le_refl _) (by omega))]
      exact ⟨_, _, _, _, _, _, _, _, _, _, _, _, _, rfl⟩
  obtain ⟨w1, w2, w3, w4, w5, wsg, x1, x2, x3, x4, x5, x6, xt, e⟩ := e
  exact ⟨_, bn_e e, _, _, _, _, _, _, _, (_, _, _, _, _, _), (_, _, _, _, _, _), _, _, _, _, _, _, _, _, rfl, hS, hT2⟩
end SEM
