/-! all orders: the model -/
theorem ek_ordM {N n : Nat} {F D : Nat → Int32} {la na li ho : Int32} {P : Int32 × Int32 × Int32} (hN : 5000 ≤ N) (hD : ek_D n F D) (hT : ek_T la na li) : ∀ (f d : Nat), f < d → ∀ (x1 c wm wt sm sl ia x3 : Int32) (g w hs laid ml : Nat → Int32) (Lp : List Nat) (st : Option (Int32 × Int32 × List Nat)), ek_sub n x1 → (ek_el n x1).length ≤ f → ek_B n c g w → (∀ i, ek_bt x1 i = true → ek_bt c i = false) → ek_pt c g n = ek_bi la na li F Lp P → x3 = ek_vl la na li F P Lp → ek_ls Lp laid → Lp.length + (ek_el n x1).length ≤ 9 → ek_RJ ia sm sl ml st →
    ∃ wm' wt' sm' sl' ia' g' w' hs' laid' ml', f_X12_orderOn N (nI n) la na li ho D d c wm wt sm sl ia g w hs laid ml x1 (nI Lp.length) x3 = some (c, wm', wt', sm', sl', ia', g', w', hs', laid', ml') ∧ (∀ i, i < 9 → ek_bt c i = true → g' i = g i ∧ w' i = w i) ∧ (∀ q, q < Lp.length → laid' q = laid q) ∧ ek_RJ ia' sm' sl' ml' (((ek_prm f (ek_el n x1)).map (fun L => Lp ++ L)).foldl (ek_jo (ek_vl la na li F P)) st) := by
  have hn := hD.1
  intro f
  induction f with
  | zero =>
    intro d hd x1 c wm wt sm sl ia x3 g w hs laid ml Lp st hs1 hl hB hdis hpt hx hls h9 hJ
    obtain ⟨d, rfl⟩ : ∃ z, d = z + 1 := ⟨d - 1, by omega⟩
    have hnil : ek_el n x1 = [] := List.length_eq_zero_iff.mp (by omega)
    have h0 := ek_el0 hs1 hnil
    subst h0
    obtain ⟨sm', sl', ml', e, r⟩ := ek_leaf (N := N) (n := n) (K1 := f_X12_orderOn N (nI n) la na li ho D d) (la := la) (na := na) (li := li) (ho := ho) (c := c) (wm := wm) (wt := wt) (D := D) (g := g) (w := w) (hs := hs) (val := ek_vl la na li F P) hN (by omega) hls hx hJ
    refine ⟨wm, wt, sm', sl', 1, g, w, hs, laid, ml', ?_, fun i _ _ => ⟨rfl, rfl⟩, fun q _ => rfl, ?_⟩
    · rw [f_X12_orderOn_n]; exact e
    · show ek_RJ 1 sm' sl' ml' (ek_jo (ek_vl la na li F P) st (Lp ++ []))
      rw [List.append_nil]; exact r
  | succ f ih =>
    intro d hd x1 c wm wt sm sl ia x3 g w hs laid ml Lp st hs1 hl hB hdis hpt hx hls h9 hJ
    obtain ⟨d, rfl⟩ : ∃ z, d = z + 1 := ⟨d - 1, by omega⟩
    by_cases h0 : x1 = 0
    · subst h0
      obtain ⟨sm', sl', ml', e, r⟩ := ek_leaf (N := N) (n := n) (K1 := f_X12_orderOn N (nI n) la na li ho D d) (la := la) (na := na) (li := li) (ho := ho) (c := c) (wm := wm) (wt := wt) (D := D) (g := g) (w := w) (hs := hs) (val := ek_vl la na li F P) hN (by omega) hls hx hJ
      refine ⟨wm, wt, sm', sl', 1, g, w, hs, laid, ml', ?_, fun i _ _ => ⟨rfl, rfl⟩, fun q _ => rfl, ?_⟩
      · rw [f_X12_orderOn_n]; exact e
      · rw [ek_el00]
        show ek_RJ 1 sm' sl' ml' (ek_jo (ek_vl la na li F P) st (Lp ++ []))
        rw [List.append_nil]; exact r
    · have hne : ¬ (ek_el n x1).isEmpty = true := by
        intro q
        exact h0 (ek_el0 hs1 (List.isEmpty_iff.mp q))
      have epr : ek_prm (f + 1) (ek_el n x1) = (ek_el n x1).flatMap fun i => (ek_prm f ((ek_el n x1).filter fun j => decide (¬ j = i))).map (fun L => i :: L) := by
        show (if (ek_el n x1).isEmpty then _ else _) = _
        rw [if_neg hne]
      rw [epr, f_X12_orderOn_n]
      unfold f_X12_orderOn_s
      rw [if_neg h0]
      refine ek_forI (fun n2 y (s : Int32 × Int32 × Int32 × Int32 × Int32 × (Nat → Int32) × (Nat → Int32) × (Nat → Int32) × (Nat → Int32) × (Nat → Int32)) => f_X12_orderOn_b89 N (f_X12_orderOn N (nI n) la na li ho D d) (nI n) la na li ho D n2 c s.1 s.2.1 s.2.2.1 s.2.2.2.1 s.2.2.2.2.1 s.2.2.2.2.2.1 s.2.2.2.2.2.2.1 s.2.2.2.2.2.2.2.1 s.2.2.2.2.2.2.2.2.1 s.2.2.2.2.2.2.2.2.2 x1 (nI Lp.length) x3 y) (fun j s => (∀ i, i < 9 → ek_bt c i = true → s.2.2.2.2.2.1 i = g i ∧ s.2.2.2.2.2.2.1 i = w i) ∧ (∀ q, q < Lp.length → s.2.2.2.2.2.2.2.2.1 q = laid q) ∧ ek_RJ s.2.2.2.2.1 s.2.2.1 s.2.2.2.1 s.2.2.2.2.2.2.2.2.2 ((((ek_el j x1).flatMap fun i => (ek_prm f ((ek_el n x1).filter fun j => decide (¬ j = i))).map (fun L => i :: L)).map (fun L => Lp ++ L)).foldl (ek_jo (ek_vl la na li F P)) st)) n N (by omega) ?_ (wm, wt, sm, sl, ia, g, w, hs, laid, ml) ⟨fun i _ _ => ⟨rfl, rfl⟩, fun q _ => rfl, hJ⟩ (fun o => ∃ wm' wt' sm' sl' ia' g' w' hs' laid' ml', o = some (c, wm', wt', sm', sl', ia', g', w', hs', laid', ml') ∧ (∀ i, i < 9 → ek_bt c i = true → g' i = g i ∧ w' i = w i) ∧ (∀ q, q < Lp.length → laid' q = laid q) ∧ ek_RJ ia' sm' sl' ml' ((((ek_el n x1).flatMap fun i => (ek_prm f ((ek_el n x1).filter fun j => decide (¬ j = i))).map (fun L => i :: L)).map (fun L => Lp ++ L)).foldl (ek_jo (ek_vl la na li F P)) st)) ?_
      · rintro n2 j ⟨wm1, wt1, sm1, sl1, ia1, g1, w1, hs2, la1, ml1⟩ hj ⟨i1, i2, i3⟩
        simp only at i1 i2 i3
        try simp only
        rw [f_X12_orderOn_b89, if_neg (nI_ge hj (by omega)), ek_has x1 (by omega), ek_els]
        cases hb : ek_bt x1 j
        · refine ⟨(wm1, wt1, sm1, sl1, ia1, g1, w1, hs2, la1, ml1), ?_, i1, i2, ?_⟩
          · simp only [Bool.false_eq_true, if_false, if_true]
            unfold f_X12_orderOn_b160
            rw [nI_1]
          · simp only [Bool.false_eq_true, if_false, List.append_nil]
            exact i3
        · have hcj := hdis j hb
          have hB1 : ek_B n c g1 w1 := ⟨hB.1, fun k hk hbk => by rw [(i1 k hk hbk).1]; exact hB.2.1 k hk hbk, fun k hk hbk => by rw [(i1 k hk hbk).2]; exact hB.2.2 k hk hbk⟩
          have hpt1 : ek_pt c g1 n = ek_bi la na li F Lp P := (ek_ptext (fun k hk hbk => (i1 k (by omega) hbk).1)).trans hpt
          obtain ⟨a', b', ep⟩ := ek_puts (N := N) (hour := ho) (a := wm1) (b := wt1) (hs := hs2) hN hD hT hB1 hj
          have hG : ek_G n la na li F c g1 j = ek_gv la na li (ek_ds F j) (ek_bi la na li F Lp P) := by unfold ek_G; rw [hpt1]
          have hB2 := ek_Bset hn hD.2.2 hT hB1 hj
          have hpt2 : ek_pt (c ||| ((1 : Int32) <<< (nI j &&& 31))) (upd g1 j (ek_G n la na li F c g1 j)) n = ek_bi la na li F (Lp ++ [j]) P := by
            rw [ek_ptset _ hcj hj (by omega), hpt1, hG]
            unfold ek_bi
            rw [List.foldl_append]; rfl
          have hjm : j ∈ ek_el n x1 := ek_elm.mpr ⟨hj, hb⟩
          have hlt : ((ek_el n x1).filter fun i => decide (¬ i = j)).length < (ek_el n x1).length := List.length_filter_lt_length_iff_exists.mpr ⟨j, hjm, by simp⟩
          have hx2 : x3 + ek_G n la na li F c g1 j = ek_vl la na li F P (Lp ++ [j]) := by
            rw [hx, hG]
            show (ek_bi la na li F Lp P).1 - P.1 + _ = (ek_bi la na li F (Lp ++ [j]) P).1 - P.1
            have : (ek_bi la na li F (Lp ++ [j]) P).1 = (ek_bi la na li F Lp P).1 + ek_gv la na li (ek_ds F j) (ek_bi la na li F Lp P) := by
              unfold ek_bi
              rw [List.foldl_append]; rfl
            rw [this, Int32.sub_eq_add_neg, Int32.sub_eq_add_neg, Int32.add_assoc, Int32.add_assoc, Int32.add_comm (-P.1)]
          have hls1 : ek_ls Lp la1 := fun q hq => by rw [i2 q hq]; exact hls q hq
          have hls2 := ek_lsadd hls1 j
          have hlen2 : (Lp ++ [j]).length = Lp.length + 1 := by rw [List.length_append]; rfl
          obtain ⟨wm2, wt2, sm2, sl2, ia2, g2, w2, hs3, la2, ml2, r1, r2, r3, r4⟩ := ih d (by omega) (x1 &&& (((1 : Int32) <<< (nI j &&& 31)) ^^^ (-1))) (c ||| ((1 : Int32) <<< (nI j &&& 31))) a' b' sm1 sl1 ia1 (x3 + ek_G n la na li F c g1 j) (upd g1 j (ek_G n la na li F c g1 j)) (upd w1 j (ek_W n F c w1 j)) (upd hs2 j ho) (upd la1 Lp.length (nI j)) ml1 (Lp ++ [j]) _ (fun i hi => by rw [ek_band, hs1 i hi, Bool.false_and]) (by rw [ek_elx hn hj]; omega) hB2 (fun i hi => by
              have hx1i : ek_bt x1 i = true := by rw [ek_band, Bool.and_eq_true] at hi; exact hi.1
              have hin : i < n := by
                rcases Nat.lt_or_ge i n with q | q
                · exact q
                · rw [hs1 i q] at hx1i; exact absurd hx1i (by decide)
              rw [ek_bclr x1 (by omega) (by omega), Bool.and_eq_true] at hi
              rw [ek_bset c (by omega) (by omega), hdis i hx1i]
              have h2 := hi.2
              simp only [Bool.not_eq_true', decide_eq_false_iff_not] at h2
              rw [decide_eq_false h2]; rfl) hpt2 hx2 hls2 (by rw [hlen2, ek_elx hn hj]; omega) i3
          have hcc : (c ||| ((1 : Int32) <<< (nI j &&& 31))) &&& (((1 : Int32) <<< (nI j &&& 31)) ^^^ (-1)) = c := by
            apply ek_ext
            intro i hi
            rw [ek_bclr _ (by omega) hi, ek_bset c (by omega) hi]
            by_cases e : j = i
            · subst e; rw [hcj]; simp
            · rw [decide_eq_false e]; simp
          refine ⟨(wm2, wt2, sm2, sl2, ia2, g2, w2, hs3, la2, ml2), ?_, ?_, ?_, ?_⟩
          · simp only [if_true]
            rw [hlen2] at r1
            rw [if_neg (show ¬ (1 : Int32) = 0 by decide), ep, bn_t, gd_t (ek_inb (by omega) (by omega)), gd_t (ek_inb (by omega) (by omega)), nI_clamp (by omega), nI_clamp (by omega), nI_1]
            try simp only
            rw [pk_us, r1, bn_t]
            try simp only
            rw [hcc]
            unfold f_X12_orderOn_b160
            rw [nI_1]
          · intro i hi hbi
            have hij : i ≠ j := fun e => by rw [e, hcj] at hbi; exact absurd hbi (by decide)
            have h := r2 i hi (by rw [ek_bset c (by omega) (by omega), hbi]; rfl)
            rw [pk_un hij, pk_un hij] at h
            exact ⟨h.1.trans (i1 i hi hbi).1, h.2.trans (i1 i hi hbi).2⟩
          · intro q hq
            show la2 q = laid q
            rw [r3 q (by rw [hlen2]; omega), pk_un (by omega)]
            exact i2 q hq
          · show ek_RJ ia2 sm2 sl2 ml2 _
            simp only [if_true, List.flatMap_append, List.map_append, List.foldl_append, List.flatMap_cons, List.flatMap_nil, List.append_nil]
            rw [ek_elx hn hj] at r4
            rw [List.map_map]
            have efun : ((fun L => Lp ++ L) ∘ fun L => j :: L) = fun L => Lp ++ [j] ++ L := by
              funext L
              show Lp ++ j :: L = Lp ++ [j] ++ L
              rw [List.append_assoc]; rfl
            rw [efun]
            exact r4
      · rintro n2 ⟨wm1, wt1, sm1, sl1, ia1, g1, w1, hs2, la1, ml1⟩ ⟨i1, i2, i3⟩
        simp only at i1 i2 i3
        refine ⟨wm1, wt1, sm1, sl1, ia1, g1, w1, hs2, la1, ml1, ?_, i1, i2, i3⟩
        try simp only
        rw [f_X12_orderOn_b89, if_pos (nI_le (Nat.le_refl _) (by omega))]
theorem ek_allN : ∀ n, n ≤ 9 → p_X12_all (nI n) = nI (2 ^ n - 1) := by decide +kernel
theorem ek_setI {n : Nat} (hn : n ≤ 9) (x : Int32) : (ek_sub n x ∧ ¬ p_X11_isSetOfDesks (nI n) x = 0 ∧ ¬ p_X12_in x 0 (p_X12_all (nI n)) = 0) ∨ (p_X11_isSetOfDesks (nI n) x = 0 ∧ p_X12_in x 0 (p_X12_all (nI n)) = 0) := by
  have h512 : 2 ^ n ≤ 512 := Nat.le_trans (Nat.pow_le_pow_right (n := 2) (by omega) hn) (by decide)
  have hpos := Nat.two_pow_pos n
  have hbits : ∀ i, i < 32 → ek_bt (p_X1_all (nI n)) i = decide (i < n) := ek_allb n hn
  by_cases hs : ek_sub n x
  · left
    refine ⟨hs, ?_, ?_⟩
    · unfold p_X11_isSetOfDesks
      rw [if_pos]
      · decide
      · apply ek_ext
        intro i hi
        rw [ek_band, ek_bxor, hbits i hi, ek_bm1 i hi, ek_b0]
        by_cases q : i < n
        · rw [decide_eq_true q]; simp
        · rw [hs i (by omega)]; rfl
    · obtain ⟨k, hk, rfl⟩ := ek_small (by omega) hs
      rw [ek_allN n hn, ek_in1 (by omega) (by omega)]; decide
  · right
    constructor
    · unfold p_X11_isSetOfDesks
      rw [if_neg]
      intro h
      apply hs
      intro i hi
      rcases Nat.lt_or_ge i 32 with q | q
      · have h2 : ek_bt (x &&& (p_X1_all (nI n) ^^^ (-1 : Int32))) i = false := by rw [h]; exact ek_b0 i
        rw [ek_band, ek_bxor, hbits i q, ek_bm1 i q, decide_eq_false (by omega)] at h2
        cases w : ek_bt x i
        · rfl
        · rw [w] at h2; exact absurd h2 (by decide)
      · exact ek_bbig q
    · rw [ek_allN n hn]
      rcases ek_ix x (2 ^ n) (by omega) with q | q | ⟨k, hk, rfl⟩
      · exact ek_in0 (by omega) (Or.inl q)
      · exact ek_in0 (by omega) (Or.inr (by rw [show 2 ^ n - 1 + 1 = 2 ^ n by omega]; exact q))
      · exfalso
        apply hs
        intro i hi
        rcases Nat.lt_or_ge i 32 with q | q
        · rw [ek_btN k i q]
          exact Nat.testBit_lt_two_pow (Nat.lt_of_lt_of_le hk (Nat.pow_le_pow_right (by omega) hi))
        · exact ek_bbig q
/-- both sides try all orders -/
theorem ek_spn {N n : Nat} {F D g w hs g' w' hs' A laid ml bq sq : Nat → Int32} {la na li ho c wm wt sm sl ia x a1 a2 a3 a4 a5 a6 b1 b2 b3 b4 b5 b6 ln mb mo le : Int32} (hN : 5000 ≤ N) (hD : ek_D n F D) (hT : ek_T la na li) (hB : ek_B n c g w) (he : ∀ i, i < 9 → hs' i = hs i ∧ g' i = g i ∧ w' i = w i) :
    (p_X11_isSetOfDesks (nI n) x = 0 ∧ f_X12_setSpans N (nI n) la na li ho D c wm wt sm sl ia g' w' hs' A laid ml x = some (-1, c, wm, wt, sm, sl, ia, g', w', hs', A, laid, ml)) ∨
    (¬ p_X11_isSetOfDesks (nI n) x = 0 ∧ ¬ p_J6_bitCount_0f7a4 (x &&& (c ^^^ (-1 : Int32))) ≤ 6 ∧ f_X12_setSpans N (nI n) la na li ho D c wm wt sm sl ia g' w' hs' A laid ml x = some (-6, c, wm, wt, sm, sl, ia, g', w', hs', A, laid, ml)) ∨
    (∃ m L mx mn t1 t2 t3 t4 t5 t6 mb2 sq2 bq2 wm2 wt2 g2 w2 hs2 A2 laid2 ml2, ¬ p_X11_isSetOfDesks (nI n) x = 0 ∧ p_J6_bitCount_0f7a4 (x &&& (c ^^^ (-1 : Int32))) ≤ 6 ∧ m ≤ 6 ∧ L.length = m ∧ ek_pc (x &&& (c ^^^ (-1 : Int32))) = nI m ∧ f_X11_tryAllOrders N (nI n) F c la na li g a1 a2 a3 a4 a5 a6 b1 b2 b3 b4 b5 b6 ln mb mo le sq bq (x &&& (c ^^^ (-1 : Int32))) = some (la, na, li, (ek_pt c g n).1, (ek_pt c g n).2.1, (ek_pt c g n).2.2, t1, t2, t3, t4, t5, t6, nI m, mb2, mx, mn, sq2, bq2) ∧ ek_ls L bq2 ∧ f_X12_setSpans N (nI n) la na li ho D c wm wt sm sl ia g' w' hs' A laid ml x = some (0, c, wm2, wt2, mx, mn, 1, g2, w2, hs2, A2, laid2, ml2) ∧ ek_ls L ml2 ∧ ∀ i, i < 9 → hs2 i = hs i ∧ g2 i = g i ∧ w2 i = w i) := by
  have hn := hD.1
  rcases ek_setI hn x with ⟨hs1, h1, h2⟩ | ⟨h1, h2⟩
  · right
    have hsub : ek_sub n (x &&& (c ^^^ (-1 : Int32))) := fun i hi => by rw [ek_band, hs1 i hi, Bool.false_and]
    have hpc := ek_elpc hn hsub
    have hbc : p_J6_bitCount_0f7a4 (x &&& (c ^^^ (-1 : Int32))) = nI (ek_el n (x &&& (c ^^^ (-1 : Int32)))).length := (ek_bcX (ek_sub9 hn hsub)).trans hpc
    have hle := ek_elle n (x &&& (c ^^^ (-1 : Int32)))
    by_cases h6 : (ek_el n (x &&& (c ^^^ (-1 : Int32)))).length ≤ 6
    · right
      obtain ⟨R, t1, t2, t3, t4, t5, t6, mb2, sq2, bq2, hf, e, hl, hlen⟩ := ek_try (F := F) (g := g) (bq := bq) (sq := sq) (la := la) (na := na) (li := li) (a1 := a1) (a2 := a2) (a3 := a3) (a4 := a4) (a5 := a5) (a6 := a6) (b1 := b1) (b2 := b2) (b3 := b3) (b4 := b4) (b5 := b5) (b6 := b6) (ln := ln) (mb := mb) (mo := mo) (le := le) hN hn hB.1 h6
      obtain ⟨A2, p1, p2, p3⟩ := ek_aside (c := c) (g := g') (w := w') (h := hs') (A := A) hN
      have hB' : ek_B n c g' w' := ek_Beq hB (fun i hi => (he i hi).2)
      have hpt : ek_pt c g' n = ek_pt c g n := ek_ptext (fun k hk _ => (he k (by omega)).2.1)
      obtain ⟨wm2, wt2, sm2, sl2, ia2, g1, w1, hs3, laid2, ml2, r1, -, -, r4⟩ := ek_ordM (N := N) (ho := ho) (P := ek_pt c g n) hN hD hT (ek_el n (x &&& (c ^^^ (-1 : Int32)))).length 10 (by omega) (x &&& (c ^^^ (-1 : Int32))) c wm wt sm sl 0 0 g' w' hs' laid ml [] none hsub (Nat.le_refl _) hB' (fun i hi => by
        rw [ek_band, Bool.and_eq_true] at hi
        rcases Nat.lt_or_ge i 32 with q | q
        · rw [ek_bxor, ek_bm1 i q] at hi
          cases z : ek_bt c i
          · rfl
          · rw [z] at hi; exact absurd hi.2 (by decide)
        · exact ek_bbig q) hpt (by show (0 : Int32) = (ek_pt c g n).1 - (ek_pt c g n).1; rw [Int32.sub_self]) (fun q hq => absurd hq (by show ¬ q < 0; omega)) (by show 0 + _ ≤ 9; omega) rfl
      have emap : (ek_prm (ek_el n (x &&& (c ^^^ (-1 : Int32)))).length (ek_el n (x &&& (c ^^^ (-1 : Int32))))).map (fun L => [] ++ L) = ek_prm (ek_el n (x &&& (c ^^^ (-1 : Int32)))).length (ek_el n (x &&& (c ^^^ (-1 : Int32)))) := List.map_id' _
      rw [emap, hf] at r4
      obtain ⟨j1, j2, j3, j4⟩ := r4
      have r1' : f_X12_orderOn N (nI n) la na li ho D 10 c wm wt sm sl 0 g' w' hs' laid ml (x &&& (c ^^^ (-1 : Int32))) 0 0 = some (c, wm2, wt2, sm2, sl2, ia2, g1, w1, hs3, laid2, ml2) := r1
      obtain ⟨g2, w2, h2', q1, q2⟩ := ek_back (c := c) (g := g1) (w := w1) (h := hs3) (A := A2) hN
      refine ⟨_, R.2.2, R.1, R.2.1, t1, t2, t3, t4, t5, t6, mb2, sq2, bq2, wm2, wt2, g2, w2, h2', A2, laid2, ml2, h1, ?_, h6, hlen, hpc, e, hl, ?_, j4, ?_⟩
      · rw [hbc]; exact nI_le (b := 6) h6 (by omega)
      · unfold f_X12_setSpans
        rw [if_neg h2, ek_bcM hN, bn_t, hpc, if_pos (show nI _ ≤ (6 : Int32) from nI_le (b := 6) h6 (by omega)), p1, bn_t]
        rw [r1', bn_t]
        try simp only
        rw [q1, bn_t, p2, j1, j2, j3]
      · intro i hi
        obtain ⟨x1, x2, x3⟩ := q2 i hi
        obtain ⟨y1, y2, y3⟩ := p3 i hi
        obtain ⟨z1, z2, z3⟩ := he i hi
        exact ⟨x3.trans (y3.trans z1), x1.trans (y1.trans z2), x2.trans (y2.trans z3)⟩
    · left
      have h7 : ¬ nI (ek_el n (x &&& (c ^^^ (-1 : Int32)))).length ≤ (6 : Int32) := nI_ge (b := (ek_el n (x &&& (c ^^^ (-1 : Int32)))).length) (a := 6) (by omega) (by omega)
      refine ⟨h1, ?_, ?_⟩
      · rw [hbc]; exact h7
      · unfold f_X12_setSpans
        rw [if_neg h2, ek_bcM hN, bn_t, hpc, if_neg h7]
  · left
    refine ⟨h1, ?_⟩
    unfold f_X12_setSpans
    rw [if_pos h2]
