def p_X0_add (s_times : (Nat → Int32)) (x1 : Int32) : ((Nat → Int32)) :=
  if x1 < 0 then (s_times) else if (10 : Int32) ≤ x1 then (s_times) else ((upd s_times x1.toNatClampNeg ((s_times x1.toNatClampNeg) + (1 : Int32))))
abbrev rm_X0_add : Room := { frames := 0, cells := 0, slots := 0, locals := 0 }
set_option maxHeartbeats 4000000 in
set_option maxRecDepth 100000 in
theorem c_X0_add (l : Launch) (D : va_G) (cI cJ cR : ClassId) (ad_s ad_s_times : Nat) (s_times : (Nat → Int32)) (x1 : Int32) {o : (Nat → Int32)} (hf : p_X0_add s_times x1 = o) : kMv l D (kT cI cJ cR) yX0_add cX0_add 2 none rm_X0_add [.ref ad_s, .int x1] [(ad_s, .inr (0, [.ref ad_s_times])), (ad_s_times, .inl (cI, 10, .inl s_times))] 0 0 (fun w => w = [(ad_s, .inr (0, [.ref ad_s_times])), (ad_s_times, .inl (cI, 10, .inl o))]) := by
  apply kInV (o := o)
  · decide
  · exact Nat.le_of_ble_eq_true rfl
  intro p e s m args below meth c A ls Q hX hRet hP hD hS hl
  have hx := hX.1.1
  have hb := hX.1.2.1
  have hown := hX.1.2.2.2.1
  have hts := hX.1.2.2.2.2
  have hl : lv_has ls 2 [(0, .ref ad_s), (1, .int x1)] := hl
  unfold p_X0_add at hf
  refine lv_iload_n hx hb dX0_add_0 rfl (lv_at hl 1 rfl) ?_
  refine lv_if_lt (tgt := 23) hx hb dX0_add_1 (by decide) (fun c1 => ?_) (fun c1 => ?_)
  · replace hf := ip c1 hf
    exact hRet _ _ _ _ _ _ hf rfl hP hD hS dX0_add_23
  · replace hf := iq c1 hf
    refine lv_iload_n hx hb dX0_add_4 rfl (lv_at hl 1 rfl) ?_
    refine lv_aload_n hx hb dX0_add_5 rfl (lv_at hl 0 rfl) ?_
    refine kget hX hP (q0 := 0) rfl rfl inX0 (k := 0) (by decide) rfl wd228 rfl dX0_add_6 ?_
    refine kalen hX hP (t0 := 0) rfl (q0 := 1) rfl (v := (10 : Int32)) rfl dX0_add_9 ?_
    refine lv_icmp_ge (tgt := 23) hx hb dX0_add_10 (by decide) (fun c10 => ?_) (fun c10 => ?_)
    · replace hf := ip c10 hf
      exact hRet _ _ _ _ _ _ hf rfl hP hD hS dX0_add_23
    · replace hf := iq c10 hf
      refine lv_aload_n hx hb dX0_add_13 rfl (lv_at hl 0 rfl) ?_
      refine kget hX hP (q0 := 0) rfl rfl inX0 (k := 0) (by decide) rfl wd228 rfl dX0_add_14 ?_
      refine lv_iload_n hx hb dX0_add_17 rfl (lv_at hl 1 rfl) ?_
      refine lv_dup2_11 hx hb dX0_add_18 rfl rfl ?_
      refine kiald hX hP rfl (q0 := 1) rfl (vpi (by decide) c1 c10) dX0_add_19 ?_
      refine lv_iconst (v := 1) hx hb dX0_add_20 (by decide) ?_
      refine lv_iadd hx hb dX0_add_21 ?_
      refine kiast hX hP hD hS rfl (q0 := 1) rfl (vpi (by decide) c1 c10) dX0_add_22 (fun H locs hP hD hS => ?_)
      exact hRet _ _ _ _ _ _ hf rfl hP hD hS dX0_add_23
def p_X6_isCrossed (s_crossed : Int32) (x1 : Int32) : (Int32) :=
  if x1 < 0 then ((0 : Int32)) else if (9 : Int32) ≤ x1 then ((0 : Int32)) else if ((s_crossed >>> (x1 &&& 31)) &&& (1 : Int32)) = 0 then ((0 : Int32)) else ((1 : Int32))
theorem zb_X6_isCrossed (s_crossed : Int32) (x1 : Int32) : p_X6_isCrossed s_crossed x1 = 0 ∨ p_X6_isCrossed s_crossed x1 = 1 := by
  unfold p_X6_isCrossed
  try dsimp only [nm]
  repeat' first | apply zb_ite | exact Or.inl rfl | exact Or.inr rfl
abbrev rm_X6_isCrossed : Room := { frames := 0, cells := 0, slots := 0, locals := 0 }
set_option maxHeartbeats 4000000 in
set_option maxRecDepth 100000 in
theorem c_X6_isCrossed (l : Launch) (D : va_G) (cI cJ cR : ClassId) (ad_s ad_s_hours ad_s_gifts ad_s_written : Nat) (s_start : Int32) (s_rule : Int32) (s_at : Int32) (s_isBack : Int32) (s_hour : Int32) (s_crossed : Int32) (s_law : Int32) (s_named : Int32) (s_linked : Int32) (s_isThere : Int32) (x1 : Int32) {o : Int32} (hf : p_X6_isCrossed s_crossed x1 = o) : kMi l D (kT cI cJ cR) yX6_isCrossed cX6_isCrossed 2 (some .boolean) rm_X6_isCrossed [.ref ad_s, .int x1] [(ad_s, .inr (6, [.ref ad_s_hours, .ref ad_s_gifts, .ref ad_s_written, .int s_start, .int s_rule, .int s_at, .int s_isBack, .int s_hour, .int s_crossed, .int s_law, .int s_named, .int s_linked, .int s_isThere]))] (o) (fun w => w = [(ad_s, .inr (6, [.ref ad_s_hours, .ref ad_s_gifts, .ref ad_s_written, .int s_start, .int s_rule, .int s_at, .int s_isBack, .int s_hour, .int s_crossed, .int s_law, .int s_named, .int s_linked, .int s_isThere]))]) := by
  apply kInZ (o := o)
  · decide
  · exact Nat.le_of_ble_eq_true rfl
  intro p e s m args below meth c A ls Q hX hRet hP hD hS hl
  have hx := hX.1.1
  have hb := hX.1.2.1
  have hown := hX.1.2.2.2.1
  have hts := hX.1.2.2.2.2
  have hl : lv_has ls 2 [(0, .ref ad_s), (1, .int x1)] := hl
  unfold p_X6_isCrossed at hf
  refine lv_iload_n hx hb dX6_isCrossed_0 rfl (lv_at hl 1 rfl) ?_
  refine lv_if_lt (tgt := 25) hx hb dX6_isCrossed_1 (by decide) (fun c1 => ?_) (fun c1 => ?_)
  · replace hf := ip c1 hf
    refine lv_iconst (v := 0) hx hb dX6_isCrossed_25 (by decide) ?_
    exact hRet _ _ _ _ _ _ _ hf rfl rfl rfl hP hD hS dX6_isCrossed_26
  · replace hf := iq c1 hf
    refine lv_iload_n hx hb dX6_isCrossed_4 rfl (lv_at hl 1 rfl) ?_
    refine lv_bipush (v := 9) hx hb dX6_isCrossed_5 (by decide) ?_
    refine lv_icmp_ge (tgt := 25) hx hb dX6_isCrossed_7 (by decide) (fun c7 => ?_) (fun c7 => ?_)
    · replace hf := ip c7 hf
      refine lv_iconst (v := 0) hx hb dX6_isCrossed_25 (by decide) ?_
      exact hRet _ _ _ _ _ _ _ hf rfl rfl rfl hP hD hS dX6_isCrossed_26
    · replace hf := iq c7 hf
      refine lv_aload_n hx hb dX6_isCrossed_10 rfl (lv_at hl 0 rfl) ?_
      refine kget hX hP (q0 := 0) rfl rfl inX6 (k := 8) (by decide) rfl wd98 rfl dX6_isCrossed_11 ?_
      refine lv_iload_n hx hb dX6_isCrossed_14 rfl (lv_at hl 1 rfl) ?_
      refine lv_ishr hx hb dX6_isCrossed_15 ?_
      refine lv_iconst (v := 1) hx hb dX6_isCrossed_16 (by decide) ?_
      refine lv_iand hx hb dX6_isCrossed_17 ?_
      refine lv_if_eq (tgt := 25) hx hb dX6_isCrossed_18 (by decide) (fun c18 => ?_) (fun c18 => ?_)
      · replace hf := ip c18 hf
        refine lv_iconst (v := 0) hx hb dX6_isCrossed_25 (by decide) ?_
        exact hRet _ _ _ _ _ _ _ hf rfl rfl rfl hP hD hS dX6_isCrossed_26
      · replace hf := iq c18 hf
        refine lv_iconst (v := 1) hx hb dX6_isCrossed_21 (by decide) ?_
        refine lv_goto (tgt := 26) hx hb dX6_isCrossed_22 (by decide) ?_
        exact hRet _ _ _ _ _ _ _ hf rfl rfl rfl hP hD hS dX6_isCrossed_26
def f_X6_wordOf (N : Nat) (s_crossed : Int32) (s_written : (Nat → Int32)) (x1 : Int32) : Option (Int32) :=
  if (p_X6_isCrossed s_crossed x1) = 0 then some ((-9 : Int32)) else if (9 : Int32) ≤ x1 then some ((-9 : Int32)) else gd (inb x1 9 = true) (some ((s_written x1.toNatClampNeg)))
abbrev rm_X6_wordOf : Room := { frames := 1, cells := 0, slots := 0, locals := 21 }
set_option maxHeartbeats 4000000 in
set_option maxRecDepth 100000 in
theorem c_X6_wordOf (l : Launch) (D : va_G) (cI cJ cR : ClassId) (N : Nat) (ad_s ad_s_hours ad_s_gifts ad_s_written : Nat) (s_start : Int32) (s_rule : Int32) (s_at : Int32) (s_isBack : Int32) (s_hour : Int32) (s_crossed : Int32) (s_law : Int32) (s_named : Int32) (s_linked : Int32) (s_isThere : Int32) (s_written : (Nat → Int32)) (x1 : Int32) {o : Int32} (hf : f_X6_wordOf N s_crossed s_written x1 = some o) : kMi l D (kT cI cJ cR) yX6_wordOf cX6_wordOf 2 (some .int) rm_X6_wordOf [.ref ad_s, .int x1] [(ad_s, .inr (6, [.ref ad_s_hours, .ref ad_s_gifts, .ref ad_s_written, .int s_start, .int s_rule, .int s_at, .int s_isBack, .int s_hour, .int s_crossed, .int s_law, .int s_named, .int s_linked, .int s_isThere])), (ad_s_written, .inl (cI, 9, .inl s_written))] (o) (fun w => w = [(ad_s, .inr (6, [.ref ad_s_hours, .ref ad_s_gifts, .ref ad_s_written, .int s_start, .int s_rule, .int s_at, .int s_isBack, .int s_hour, .int s_crossed, .int s_law, .int s_named, .int s_linked, .int s_isThere])), (ad_s_written, .inl (cI, 9, .inl s_written))]) := by
  apply kInI (o := o)
  · decide
  · exact Nat.le_of_ble_eq_true rfl
  intro p e s m args below meth c A ls Q hX hRet hP hD hS hl
  have hx := hX.1.1
  have hb := hX.1.2.1
  have hown := hX.1.2.2.2.1
  have hts := hX.1.2.2.2.2
  have hl : lv_has ls 2 [(0, .ref ad_s), (1, .int x1)] := hl
  unfold f_X6_wordOf at hf
  refine lv_aload_n hx hb dX6_wordOf_0 rfl (lv_at hl 0 rfl) ?_
  refine lv_iload_n hx hb dX6_wordOf_1 rfl (lv_at hl 1 rfl) ?_
  refine kVi (rest := []) hX (c_X6_isCrossed l D cI cJ cR ad_s ad_s_hours ad_s_gifts ad_s_written s_start s_rule s_at s_isBack s_hour s_crossed s_law s_named s_linked s_isThere x1 rfl) kc_X6_isCrossed wd526 ⟨Nat.le_of_ble_eq_true rfl, Nat.le_of_ble_eq_true rfl⟩ ⟨rfl, rfl⟩ hP hD hS (ci := 6) rfl rfl (q0 := 0) rfl [0] rfl (by decide) (fun w h => by cases h; rfl) rfl rfl (Nat.le_of_ble_eq_true rfl) hl.1 ⟨Nat.zero_le _, Nat.zero_le _⟩ dX6_wordOf_2 (fun H locs w1 hw1 hP hD hS => ?_)
  cases hw1
  have hP : va_P D vwCl [(ad_s, .inr (6, [.ref ad_s_hours, .ref ad_s_gifts, .ref ad_s_written, .int s_start, .int s_rule, .int s_at, .int s_isBack, .int s_hour, .int s_crossed, .int s_law, .int s_named, .int s_linked, .int s_isThere])), (ad_s_written, .inl (cI, 9, .inl s_written))] H := hP
  have hD : va_D A [(ad_s, .inr (6, [.ref ad_s_hours, .ref ad_s_gifts, .ref ad_s_written, .int s_start, .int s_rule, .int s_at, .int s_isBack, .int s_hour, .int s_crossed, .int s_law, .int s_named, .int s_linked, .int s_isThere])), (ad_s_written, .inl (cI, 9, .inl s_written))] := hD
  refine lv_if_eq (tgt := 26) hx hb dX6_wordOf_5 (by decide) (fun c5 => ?_) (fun c5 => ?_)
  · replace hf := ip c5 hf
    refine lv_bipush (v := -9) hx hb dX6_wordOf_26 (by decide) ?_
    exact hRet _ _ _ _ _ _ _ (Option.some.inj hf) rfl rfl hP hD hS dX6_wordOf_28
  · replace hf := iq c5 hf
    refine lv_iload_n hx hb dX6_wordOf_8 rfl (lv_at hl 1 rfl) ?_
    refine lv_aload_n hx hb dX6_wordOf_9 rfl (lv_at hl 0 rfl) ?_
    refine kget hX hP (q0 := 0) rfl rfl inX6 (k := 2) (by decide) rfl wd83 rfl dX6_wordOf_10 ?_
    refine kalen hX hP (t0 := 0) rfl (q0 := 1) rfl (v := (9 : Int32)) rfl dX6_wordOf_13 ?_
    refine lv_icmp_ge (tgt := 26) hx hb dX6_wordOf_14 (by decide) (fun c14 => ?_) (fun c14 => ?_)
    · replace hf := ip c14 hf
      refine lv_bipush (v := -9) hx hb dX6_wordOf_26 (by decide) ?_
      exact hRet _ _ _ _ _ _ _ (Option.some.inj hf) rfl rfl hP hD hS dX6_wordOf_28
    · replace hf := iq c14 hf
      refine lv_aload_n hx hb dX6_wordOf_17 rfl (lv_at hl 0 rfl) ?_
      refine kget hX hP (q0 := 0) rfl rfl inX6 (k := 2) (by decide) rfl wd83 rfl dX6_wordOf_18 ?_
      refine lv_iload_n hx hb dX6_wordOf_21 rfl (lv_at hl 1 rfl) ?_
      obtain ⟨hg22_1, hf⟩ := gd_s hf
      refine kiald hX hP rfl (q0 := 1) rfl (inb_in hg22_1) dX6_wordOf_22 ?_
      refine lv_goto (tgt := 28) hx hb dX6_wordOf_23 (by decide) ?_
      exact hRet _ _ _ _ _ _ _ (Option.some.inj hf) rfl rfl hP hD hS dX6_wordOf_28
def f_X0_layFrom_b49 (N : Nat) (k26 : (Nat → Int32) → Int32 → Option ((Nat → Int32))) (q1_crossed : Int32) (q1_written : (Nat → Int32)) (s_times : (Nat → Int32)) (x2 : Int32) : Option ((Nat → Int32)) :=
  k26 s_times (x2 + (1 : Int32))
def f_X0_layFrom_b26 (N : Nat) (q1_crossed : Int32) (q1_written : (Nat → Int32)) : Nat → (Nat → Int32) → Int32 → Option ((Nat → Int32))
  | 0, _, _ => none
  | n26 + 1, s_times, x2 => if (9 : Int32) ≤ x2 then some (s_times) else if (p_X6_isCrossed q1_crossed x2) = 0 then (f_X0_layFrom_b49 N (f_X0_layFrom_b26 N q1_crossed q1_written n26) q1_crossed q1_written) s_times x2 else bn (f_X6_wordOf N q1_crossed q1_written x2) (fun z43_1 => nm (p_X0_add s_times z43_1) (fun z46_2 => (f_X0_layFrom_b49 N (f_X0_layFrom_b26 N q1_crossed q1_written n26) q1_crossed q1_written) z46_2 x2))
def f_X0_layFrom_b24 (N : Nat) (q1_crossed : Int32) (q1_written : (Nat → Int32)) (s_times : (Nat → Int32)) : Option ((Nat → Int32)) :=
  (f_X0_layFrom_b26 N q1_crossed q1_written N) s_times (0 : Int32)
def f_X0_layFrom_b2 (N : Nat) (k24 : (Nat → Int32) → Option ((Nat → Int32))) (q1_crossed : Int32) (q1_written : (Nat → Int32)) : Nat → (Nat → Int32) → Int32 → Option ((Nat → Int32))
  | 0, _, _ => none
  | n2 + 1, s_times, x2 => if (10 : Int32) ≤ x2 then k24 s_times else gd (inb x2 10 = true) ((f_X0_layFrom_b2 N k24 q1_crossed q1_written n2) (upd s_times x2.toNatClampNeg (0 : Int32)) (x2 + (1 : Int32)))
def f_X0_layFrom (N : Nat) (q1_crossed : Int32) (q1_written : (Nat → Int32)) (s_times : (Nat → Int32)) : Option ((Nat → Int32)) :=
  (f_X0_layFrom_b2 N (f_X0_layFrom_b24 N q1_crossed q1_written) q1_crossed q1_written N) s_times (0 : Int32)
abbrev rm_X0_layFrom : Room := { frames := 2, cells := 0, slots := 0, locals := 42 }
set_option maxHeartbeats 4000000 in
set_option maxRecDepth 100000 in
theorem c_X0_layFrom (l : Launch) (D : va_G) (cI cJ cR : ClassId) (N : Nat) (ad_s ad_s_times ad_q1 ad_q1_hours ad_q1_gifts ad_q1_written : Nat) (s_times : (Nat → Int32)) (q1_start : Int32) (q1_rule : Int32) (q1_at : Int32) (q1_isBack : Int32) (q1_hour : Int32) (q1_crossed : Int32) (q1_law : Int32) (q1_named : Int32) (q1_linked : Int32) (q1_isThere : Int32) (q1_written : (Nat → Int32)) {o : (Nat → Int32)} (hf : f_X0_layFrom N q1_crossed q1_written s_times = some o) : kMv l D (kT cI cJ cR) yX0_layFrom cX0_layFrom 3 none rm_X0_layFrom [.ref ad_s, .ref ad_q1] [(ad_s, .inr (0, [.ref ad_s_times])), (ad_s_times, .inl (cI, 10, .inl s_times)), (ad_q1, .inr (6, [.ref ad_q1_hours, .ref ad_q1_gifts, .ref ad_q1_written, .int q1_start, .int q1_rule, .int q1_at, .int q1_isBack, .int q1_hour, .int q1_crossed, .int q1_law, .int q1_named, .int q1_linked, .int q1_isThere])), (ad_q1_written, .inl (cI, 9, .inl q1_written))] 0 0 (fun w => w = [(ad_s, .inr (0, [.ref ad_s_times])), (ad_s_times, .inl (cI, 10, .inl o)), (ad_q1, .inr (6, [.ref ad_q1_hours, .ref ad_q1_gifts, .ref ad_q1_written, .int q1_start, .int q1_rule, .int q1_at, .int q1_isBack, .int q1_hour, .int q1_crossed, .int q1_law, .int q1_named, .int q1_linked, .int q1_isThere])), (ad_q1_written, .inl (cI, 9, .inl q1_written))]) := by
  apply kInV (o := o)
  · decide
  · exact Nat.le_of_ble_eq_true rfl
  intro p e s m args below meth c A ls Q hX hRet hP hD hS hl
  have hx := hX.1.1
  have hb := hX.1.2.1
  have hown := hX.1.2.2.2.1
  have hts := hX.1.2.2.2.2
  have hl : lv_has ls 3 [(0, .ref ad_s), (1, .ref ad_q1)] := hl
  have hb26 : ∀ n26 : Nat, ∀ (H : Heap) (locs : List Loc) (s_times : (Nat → Int32)) (x2 : Int32), va_P D vwCl [(ad_s, .inr (0, [.ref ad_s_times])), (ad_s_times, .inl (cI, 10, .inl s_times)), (ad_q1, .inr (6, [.ref ad_q1_hours, .ref ad_q1_gifts, .ref ad_q1_written, .int q1_start, .int q1_rule, .int q1_at, .int q1_isBack, .int q1_hour, .int q1_crossed, .int q1_law, .int q1_named, .int q1_linked, .int q1_isThere])), (ad_q1_written, .inl (cI, 9, .inl q1_written))] H → va_D A [(ad_s, .inr (0, [.ref ad_s_times])), (ad_s_times, .inl (cI, 10, .inl s_times)), (ad_q1, .inr (6, [.ref ad_q1_hours, .ref ad_q1_gifts, .ref ad_q1_written, .int q1_start, .int q1_rule, .int q1_at, .int q1_isBack, .int q1_hour, .int q1_crossed, .int q1_law, .int q1_named, .int q1_linked, .int q1_isThere])), (ad_q1_written, .inl (cI, 9, .inl q1_written))] → va_S A s.heap H locs → ∀ ls : Array Slot, lv_has ls 3 [(0, .ref ad_s), (1, .ref ad_q1), (2, .int x2)] → f_X0_layFrom_b26 N q1_crossed q1_written n26 s_times x2 = some o → W p l e rm_X0_layFrom s m args below meth c H locs 0 0 Q (F0 m 26 ls []) := by
    intro n26
    induction n26 with
    | zero =>
      intro H locs s_times x2 hP hD hS ls hl hf
      rw [f_X0_layFrom_b26] at hf
      cases hf
    | succ n26 ih26 =>
      have hb49 : ∀ (H : Heap) (locs : List Loc) (s_times : (Nat → Int32)) (x2 : Int32), va_P D vwCl [(ad_s, .inr (0, [.ref ad_s_times])), (ad_s_times, .inl (cI, 10, .inl s_times)), (ad_q1, .inr (6, [.ref ad_q1_hours, .ref ad_q1_gifts, .ref ad_q1_written, .int q1_start, .int q1_rule, .int q1_at, .int q1_isBack, .int q1_hour, .int q1_crossed, .int q1_law, .int q1_named, .int q1_linked, .int q1_isThere])), (ad_q1_written, .inl (cI, 9, .inl q1_written))] H → va_D A [(ad_s, .inr (0, [.ref ad_s_times])), (ad_s_times, .inl (cI, 10, .inl s_times)), (ad_q1, .inr (6, [.ref ad_q1_hours, .ref ad_q1_gifts, .ref ad_q1_written, .int q1_start, .int q1_rule, .int q1_at, .int q1_isBack, .int q1_hour, .int q1_crossed, .int q1_law, .int q1_named, .int q1_linked, .int q1_isThere])), (ad_q1_written, .inl (cI, 9, .inl q1_written))] → va_S A s.heap H locs → ∀ ls : Array Slot, lv_has ls 3 [(0, .ref ad_s), (1, .ref ad_q1), (2, .int x2)] → (f_X0_layFrom_b49 N (f_X0_layFrom_b26 N q1_crossed q1_written n26) q1_crossed q1_written) s_times x2 = some o → W p l e rm_X0_layFrom s m args below meth c H locs 0 0 Q (F0 m 49 ls []) := by
        intro H locs s_times x2 hP hD hS ls hl hf
        unfold f_X0_layFrom_b49 at hf
        refine lv_iinc (v := (x2 + (1 : Int32))) (lv' := [(2, .int (x2 + (1 : Int32))), (0, .ref ad_s), (1, .ref ad_q1)]) hx hb dX0_layFrom_49 hl (k := 2) rfl rfl (by decide) rfl (fun ls hl => ?_)
        refine lv_goto (tgt := 26) hx hb dX0_layFrom_52 (by decide) ?_
        exact ih26 _ _ s_times (x2 + (1 : Int32)) hP hD hS _ (lv_sub hl [1, 2, 0] rfl) hf
      intro H locs s_times x2 hP hD hS ls hl hf
      rw [f_X0_layFrom_b26] at hf
      refine lv_iload_n hx hb dX0_layFrom_26 rfl (lv_at hl 2 rfl) ?_
      refine lv_bipush (v := 9) hx hb dX0_layFrom_27 (by decide) ?_
      refine lv_icmp_ge (tgt := 55) hx hb dX0_layFrom_29 (by decide) (fun c29 => ?_) (fun c29 => ?_)
      · replace hf := ip c29 hf
        exact hRet _ _ _ _ _ _ (Option.some.inj hf) rfl hP hD hS dX0_layFrom_55
      · replace hf := iq c29 hf
        refine lv_aload_n hx hb dX0_layFrom_32 rfl (lv_at hl 1 rfl) ?_
        refine lv_iload_n hx hb dX0_layFrom_33 rfl (lv_at hl 2 rfl) ?_
        refine kVi (rest := []) hX (c_X6_isCrossed l D cI cJ cR ad_q1 ad_q1_hours ad_q1_gifts ad_q1_written q1_start q1_rule q1_at q1_isBack q1_hour q1_crossed q1_law q1_named q1_linked q1_isThere x2 rfl) kc_X6_isCrossed wd535 ⟨Nat.le_of_ble_eq_true rfl, Nat.le_of_ble_eq_true rfl⟩ ⟨rfl, rfl⟩ hP hD hS (ci := 6) rfl rfl (q0 := 2) rfl [2] rfl (by decide) (fun w h => by cases h; rfl) rfl rfl (Nat.le_of_ble_eq_true rfl) hl.1 ⟨Nat.zero_le _, Nat.zero_le _⟩ dX0_layFrom_34 (fun H locs w1 hw1 hP hD hS => ?_)
        cases hw1
        have hP : va_P D vwCl [(ad_s, .inr (0, [.ref ad_s_times])), (ad_s_times, .inl (cI, 10, .inl s_times)), (ad_q1, .inr (6, [.ref ad_q1_hours, .ref ad_q1_gifts, .ref ad_q1_written, .int q1_start, .int q1_rule, .int q1_at, .int q1_isBack, .int q1_hour, .int q1_crossed, .int q1_law, .int q1_named, .int q1_linked, .int q1_isThere])), (ad_q1_written, .inl (cI, 9, .inl q1_written))] H := hP
        have hD : va_D A [(ad_s, .inr (0, [.ref ad_s_times])), (ad_s_times, .inl (cI, 10, .inl s_times)), (ad_q1, .inr (6, [.ref ad_q1_hours, .ref ad_q1_gifts, .ref ad_q1_written, .int q1_start, .int q1_rule, .int q1_at, .int q1_isBack, .int q1_hour, .int q1_crossed, .int q1_law, .int q1_named, .int q1_linked, .int q1_isThere])), (ad_q1_written, .inl (cI, 9, .inl q1_written))] := hD
        refine lv_if_eq (tgt := 49) hx hb dX0_layFrom_37 (by decide) (fun c37 => ?_) (fun c37 => ?_)
        · replace hf := ip c37 hf
          exact hb49 _ _ s_times x2 hP hD hS _ (lv_sub hl [0, 1, 2] rfl) hf
        · replace hf := iq c37 hf
          refine lv_aload_n hx hb dX0_layFrom_40 rfl (lv_at hl 0 rfl) ?_
          refine lv_aload_n hx hb dX0_layFrom_41 rfl (lv_at hl 1 rfl) ?_
          refine lv_iload_n hx hb dX0_layFrom_42 rfl (lv_at hl 2 rfl) ?_
          obtain ⟨z43_1, hz43_1, hf⟩ := bn_s hf
          refine kVi (rest := [.ref ad_s]) hX (c_X6_wordOf l D cI cJ cR N ad_q1 ad_q1_hours ad_q1_gifts ad_q1_written q1_start q1_rule q1_at q1_isBack q1_hour q1_crossed q1_law q1_named q1_linked q1_isThere q1_written x2 hz43_1) kc_X6_wordOf wd536 ⟨Nat.le_of_ble_eq_true rfl, Nat.le_of_ble_eq_true rfl⟩ ⟨rfl, rfl⟩ hP hD hS (ci := 6) rfl rfl (q0 := 2) rfl [2, 3] rfl (by decide) (fun w h => by cases h; rfl) rfl rfl (Nat.le_of_ble_eq_true rfl) hl.1 ⟨Nat.zero_le _, Nat.zero_le _⟩ dX0_layFrom_43 (fun H locs w1 hw1 hP hD hS => ?_)
          cases hw1
          have hP : va_P D vwCl [(ad_s, .inr (0, [.ref ad_s_times])), (ad_s_times, .inl (cI, 10, .inl s_times)), (ad_q1, .inr (6, [.ref ad_q1_hours, .ref ad_q1_gifts, .ref ad_q1_written, .int q1_start, .int q1_rule, .int q1_at, .int q1_isBack, .int q1_hour, .int q1_crossed, .int q1_law, .int q1_named, .int q1_linked, .int q1_isThere])), (ad_q1_written, .inl (cI, 9, .inl q1_written))] H := hP
          have hD : va_D A [(ad_s, .inr (0, [.ref ad_s_times])), (ad_s_times, .inl (cI, 10, .inl s_times)), (ad_q1, .inr (6, [.ref ad_q1_hours, .ref ad_q1_gifts, .ref ad_q1_written, .int q1_start, .int q1_rule, .int q1_at, .int q1_isBack, .int q1_hour, .int q1_crossed, .int q1_law, .int q1_named, .int q1_linked, .int q1_isThere])), (ad_q1_written, .inl (cI, 9, .inl q1_written))] := hD
          obtain ⟨z46_2, hz46_2⟩ : ∃ z, z = p_X0_add s_times z43_1 := ⟨_, rfl⟩
          replace hf := nm_s hz46_2 hf
          refine kVv (rest := []) hX (c_X0_add l D cI cJ cR ad_s ad_s_times s_times z43_1 hz46_2.symm) kc_X0_add wd540 ⟨Nat.le_of_ble_eq_true rfl, Nat.le_of_ble_eq_true rfl⟩ ⟨rfl, rfl⟩ hP hD hS (ci := 0) rfl rfl (q0 := 0) rfl [0, 1] rfl (by decide) (fun w h => by cases h; rfl) rfl rfl (Nat.le_of_ble_eq_true rfl) hl.1 ⟨Nat.zero_le _, Nat.zero_le _⟩ dX0_layFrom_46 (fun H locs w1 hw1 hP hD hS => ?_)
          cases hw1
          have hP : va_P D vwCl [(ad_s, .inr (0, [.ref ad_s_times])), (ad_s_times, .inl (cI, 10, .inl z46_2)), (ad_q1, .inr (6, [.ref ad_q1_hours, .ref ad_q1_gifts, .ref ad_q1_written, .int q1_start, .int q1_rule, .int q1_at, .int q1_isBack, .int q1_hour, .int q1_crossed, .int q1_law, .int q1_named, .int q1_linked, .int q1_isThere])), (ad_q1_written, .inl (cI, 9, .inl q1_written))] H := hP
          have hD : va_D A [(ad_s, .inr (0, [.ref ad_s_times])), (ad_s_times, .inl (cI, 10, .inl z46_2)), (ad_q1, .inr (6, [.ref ad_q1_hours, .ref ad_q1_gifts, .ref ad_q1_written, .int q1_start, .int q1_rule, .int q1_at, .int q1_isBack, .int q1_hour, .int q1_crossed, .int q1_law, .int q1_named, .int q1_linked, .int q1_isThere])), (ad_q1_written, .inl (cI, 9, .inl q1_written))] := hD
          exact hb49 _ _ z46_2 x2 hP hD hS _ (lv_sub hl [0, 1, 2] rfl) hf
  have hb24 : ∀ (H : Heap) (locs : List Loc) (s_times : (Nat → Int32)), va_P D vwCl [(ad_s, .inr (0, [.ref ad_s_times])), (ad_s_times, .inl (cI, 10, .inl s_times)), (ad_q1, .inr (6, [.ref ad_q1_hours, .ref ad_q1_gifts, .ref ad_q1_written, .int q1_start, .int q1_rule, .int q1_at, .int q1_isBack, .int q1_hour, .int q1_crossed, .int q1_law, .int q1_named, .int q1_linked, .int q1_isThere])), (ad_q1_written, .inl (cI, 9, .inl q1_written))] H → va_D A [(ad_s, .inr (0, [.ref ad_s_times])), (ad_s_times, .inl (cI, 10, .inl s_times)), (ad_q1, .inr (6, [.ref ad_q1_hours, .ref ad_q1_gifts, .ref ad_q1_written, .int q1_start, .int q1_rule, .int q1_at, .int q1_isBack, .int q1_hour, .int q1_crossed, .int q1_law, .int q1_named, .int q1_linked, .int q1_isThere])), (ad_q1_written, .inl (cI, 9, .inl q1_written))] → va_S A s.heap H locs → ∀ ls : Array Slot, lv_has ls 3 [(0, .ref ad_s), (1, .ref ad_q1)] → (f_X0_layFrom_b24 N q1_crossed q1_written) s_times = some o → W p l e rm_X0_layFrom s m args below meth c H locs 0 0 Q (F0 m 24 ls []) := by
    intro H locs s_times hP hD hS ls hl hf
    unfold f_X0_layFrom_b24 at hf
    refine lv_iconst (v := 0) hx hb dX0_layFrom_24 (by decide) ?_
    refine lv_istore_n (lv' := [(2, .int (0 : Int32)), (0, .ref ad_s), (1, .ref ad_q1)]) hx hb dX0_layFrom_25 rfl hl (by decide) rfl (fun ls hl => ?_)
    exact hb26 N _ _ s_times (0 : Int32) hP hD hS _ (lv_sub hl [1, 2, 0] rfl) hf
  have hb2 : ∀ n2 : Nat, ∀ (H : Heap) (locs : List Loc) (s_times : (Nat → Int32)) (x2 : Int32), va_P D vwCl [(ad_s, .inr (0, [.ref ad_s_times])), (ad_s_times, .inl (cI, 10, .inl s_times)), (ad_q1, .inr (6, [.ref ad_q1_hours, .ref ad_q1_gifts, .ref ad_q1_written, .int q1_start, .int q1_rule, .int q1_at, .int q1_isBack, .int q1_hour, .int q1_crossed, .int q1_law, .int q1_named, .int q1_linked, .int q1_isThere])), (ad_q1_written, .inl (cI, 9, .inl q1_written))] H → va_D A [(ad_s, .inr (0, [.ref ad_s_times])), (ad_s_times, .inl (cI, 10, .inl s_times)), (ad_q1, .inr (6, [.ref ad_q1_hours, .ref ad_q1_gifts, .ref ad_q1_written, .int q1_start, .int q1_rule, .int q1_at, .int q1_isBack, .int q1_hour, .int q1_crossed, .int q1_law, .int q1_named, .int q1_linked, .int q1_isThere])), (ad_q1_written, .inl (cI, 9, .inl q1_written))] → va_S A s.heap H locs → ∀ ls : Array Slot, lv_has ls 3 [(0, .ref ad_s), (1, .ref ad_q1), (2, .int x2)] → f_X0_layFrom_b2 N (f_X0_layFrom_b24 N q1_crossed q1_written) q1_crossed q1_written n2 s_times x2 = some o → W p l e rm_X0_layFrom s m args below meth c H locs 0 0 Q (F0 m 2 ls []) := by
    intro n2
    induction n2 with
    | zero =>
      intro H locs s_times x2 hP hD hS ls hl hf
      rw [f_X0_layFrom_b2] at hf
      cases hf
    | succ n2 ih2 =>
      intro H locs s_times x2 hP hD hS ls hl hf
      rw [f_X0_layFrom_b2] at hf
      refine lv_iload_n hx hb dX0_layFrom_2 rfl (lv_at hl 2 rfl) ?_
      refine lv_aload_n hx hb dX0_layFrom_3 rfl (lv_at hl 0 rfl) ?_
      refine kget hX hP (q0 := 0) rfl rfl inX0 (k := 0) (by decide) rfl wd228 rfl dX0_layFrom_4 ?_
      refine kalen hX hP (t0 := 0) rfl (q0 := 1) rfl (v := (10 : Int32)) rfl dX0_layFrom_7 ?_
      refine lv_icmp_ge (tgt := 24) hx hb dX0_layFrom_8 (by decide) (fun c8 => ?_) (fun c8 => ?_)
      · replace hf := ip c8 hf
        exact hb24 _ _ s_times hP hD hS _ (lv_sub hl [0, 1] rfl) hf
      · replace hf := iq c8 hf
        refine lv_aload_n hx hb dX0_layFrom_11 rfl (lv_at hl 0 rfl) ?_
        refine kget hX hP (q0 := 0) rfl rfl inX0 (k := 0) (by decide) rfl wd228 rfl dX0_layFrom_12 ?_
        refine lv_iload_n hx hb dX0_layFrom_15 rfl (lv_at hl 2 rfl) ?_
        refine lv_iconst (v := 0) hx hb dX0_layFrom_16 (by decide) ?_
        obtain ⟨hg17_1, hf⟩ := gd_s hf
        refine kiast hX hP hD hS rfl (q0 := 1) rfl (inb_in hg17_1) dX0_layFrom_17 (fun H locs hP hD hS => ?_)
        refine lv_iinc (v := (x2 + (1 : Int32))) (lv' := [(2, .int (x2 + (1 : Int32))), (0, .ref ad_s), (1, .ref ad_q1)]) hx hb dX0_layFrom_18 hl (k := 2) rfl rfl (by decide) rfl (fun ls hl => ?_)
        refine lv_goto (tgt := 2) hx hb dX0_layFrom_21 (by decide) ?_
        exact ih2 _ _ (upd s_times x2.toNatClampNeg (0 : Int32)) (x2 + (1 : Int32)) hP hD hS _ (lv_sub hl [1, 2, 0] rfl) hf
  unfold f_X0_layFrom at hf
  refine lv_iconst (v := 0) hx hb dX0_layFrom_0 (by decide) ?_
  refine lv_istore_n (lv' := [(2, .int (0 : Int32)), (0, .ref ad_s), (1, .ref ad_q1)]) hx hb dX0_layFrom_1 rfl hl (by decide) rfl (fun ls hl => ?_)
  exact hb2 N _ _ s_times (0 : Int32) hP hD hS _ (lv_sub hl [1, 2, 0] rfl) hf
def f_X0_mostOften_b35 (N : Nat) (k7 : Int32 → Int32 → Int32 → Option (Int32)) (s_times : (Nat → Int32)) (x1 : Int32) (x2 : Int32) (x3 : Int32) : Option (Int32) :=
  k7 x1 x2 (x3 + (1 : Int32))
def f_X0_mostOften_b7 (N : Nat) (s_times : (Nat → Int32)) : Nat → Int32 → Int32 → Int32 → Option (Int32)
  | 0, _, _, _ => none
  | n7 + 1, x1, x2, x3 => if (10 : Int32) ≤ x3 then some (x1) else gd (inb x3 10 = true) (if (s_times x3.toNatClampNeg) ≤ x2 then (f_X0_mostOften_b35 N (f_X0_mostOften_b7 N s_times n7) s_times) x1 x2 x3 else nm (s_times x3.toNatClampNeg) (fun v34 => (f_X0_mostOften_b35 N (f_X0_mostOften_b7 N s_times n7) s_times) x3 v34 x3))
def f_X0_mostOften (N : Nat) (s_times : (Nat → Int32)) : Option (Int32) :=
  (f_X0_mostOften_b7 N s_times N) (-9 : Int32) (0 : Int32) (0 : Int32)
abbrev rm_X0_mostOften : Room := { frames := 0, cells := 0, slots := 0, locals := 0 }
set_option maxHeartbeats 4000000 in
set_option maxRecDepth 100000 in
theorem c_X0_mostOften (l : Launch) (D : va_G) (cI cJ cR : ClassId) (N : Nat) (ad_s ad_s_times : Nat) (s_times : (Nat → Int32)) {o : Int32} (hf : f_X0_mostOften N s_times = some o) : kMi l D (kT cI cJ cR) yX0_mostOften cX0_mostOften 4 (some .int) rm_X0_mostOften [.ref ad_s] [(ad_s, .inr (0, [.ref ad_s_times])), (ad_s_times, .inl (cI, 10, .inl s_times))] (o) (fun w => w = [(ad_s, .inr (0, [.ref ad_s_times])), (ad_s_times, .inl (cI, 10, .inl s_times))]) := by
  apply kInI (o := o)
  · decide
  · exact Nat.le_of_ble_eq_true rfl
  intro p e s m args below meth c A ls Q hX hRet hP hD hS hl
  have hx := hX.1.1
  have hb := hX.1.2.1
  have hown := hX.1.2.2.2.1
  have hts := hX.1.2.2.2.2
  have hl : lv_has ls 4 [(0, .ref ad_s)] := hl
  have hb7 : ∀ n7 : Nat, ∀ (H : Heap) (locs : List Loc) (x1 : Int32) (x2 : Int32) (x3 : Int32), va_P D vwCl [(ad_s, .inr (0, [.ref ad_s_times])), (ad_s_times, .inl (cI, 10, .inl s_times))] H → va_D A [(ad_s, .inr (0, [.ref ad_s_times])), (ad_s_times, .inl (cI, 10, .inl s_times))] → va_S A s.heap H locs → ∀ ls : Array Slot, lv_has ls 4 [(0, .ref ad_s), (1, .int x1), (2, .int x2), (3, .int x3)] → f_X0_mostOften_b7 N s_times n7 x1 x2 x3 = some o → W p l e rm_X0_mostOften s m args below meth c H locs 0 0 Q (F0 m 7 ls []) := by
    intro n7
    induction n7 with
    | zero =>
      intro H locs x1 x2 x3 hP hD hS ls hl hf
      rw [f_X0_mostOften_b7] at hf
      cases hf
    | succ n7 ih7 =>
      have hb35 : ∀ (H : Heap) (locs : List Loc) (x1 : Int32) (x2 : Int32) (x3 : Int32), va_P D vwCl [(ad_s, .inr (0, [.ref ad_s_times])), (ad_s_times, .inl (cI, 10, .inl s_times))] H → va_D A [(ad_s, .inr (0, [.ref ad_s_times])), (ad_s_times, .inl (cI, 10, .inl s_times))] → va_S A s.heap H locs → ∀ ls : Array Slot, lv_has ls 4 [(0, .ref ad_s), (1, .int x1), (2, .int x2), (3, .int x3)] → (f_X0_mostOften_b35 N (f_X0_mostOften_b7 N s_times n7) s_times) x1 x2 x3 = some o → W p l e rm_X0_mostOften s m args below meth c H locs 0 0 Q (F0 m 35 ls []) := by
        intro H locs x1 x2 x3 hP hD hS ls hl hf
        unfold f_X0_mostOften_b35 at hf
        refine lv_iinc (v := (x3 + (1 : Int32))) (lv' := [(3, .int (x3 + (1 : Int32))), (0, .ref ad_s), (1, .int x1), (2, .int x2)]) hx hb dX0_mostOften_35 hl (k := 3) rfl rfl (by decide) rfl (fun ls hl => ?_)
        refine lv_goto (tgt := 7) hx hb dX0_mostOften_38 (by decide) ?_
        exact ih7 _ _ x1 x2 (x3 + (1 : Int32)) hP hD hS _ (lv_sub hl [1, 2, 3, 0] rfl) hf
      intro H locs x1 x2 x3 hP hD hS ls hl hf
      rw [f_X0_mostOften_b7] at hf
      refine lv_iload_n hx hb dX0_mostOften_7 rfl (lv_at hl 3 rfl) ?_
      refine lv_aload_n hx hb dX0_mostOften_8 rfl (lv_at hl 0 rfl) ?_
      refine kget hX hP (q0 := 0) rfl rfl inX0 (k := 0) (by decide) rfl wd228 rfl dX0_mostOften_9 ?_
      refine kalen hX hP (t0 := 0) rfl (q0 := 1) rfl (v := (10 : Int32)) rfl dX0_mostOften_12 ?_
      refine lv_icmp_ge (tgt := 41) hx hb dX0_mostOften_13 (by decide) (fun c13 => ?_) (fun c13 => ?_)
      · replace hf := ip c13 hf
        refine lv_iload_n hx hb dX0_mostOften_41 rfl (lv_at hl 1 rfl) ?_
        exact hRet _ _ _ _ _ _ _ (Option.some.inj hf) rfl rfl hP hD hS dX0_mostOften_42
      · replace hf := iq c13 hf
        refine lv_aload_n hx hb dX0_mostOften_16 rfl (lv_at hl 0 rfl) ?_
        refine kget hX hP (q0 := 0) rfl rfl inX0 (k := 0) (by decide) rfl wd228 rfl dX0_mostOften_17 ?_
        refine lv_iload_n hx hb dX0_mostOften_20 rfl (lv_at hl 3 rfl) ?_
        obtain ⟨hg21_1, hf⟩ := gd_s hf
        refine kiald hX hP rfl (q0 := 1) rfl (inb_in hg21_1) dX0_mostOften_21 ?_
        refine lv_iload_n hx hb dX0_mostOften_22 rfl (lv_at hl 2 rfl) ?_
        refine lv_icmp_le (tgt := 35) hx hb dX0_mostOften_23 (by decide) (fun c23 => ?_) (fun c23 => ?_)
        · replace hf := ip c23 hf
          exact hb35 _ _ x1 x2 x3 hP hD hS _ (lv_sub hl [0, 1, 2, 3] rfl) hf
        · replace hf := iq c23 hf
          refine lv_iload_n hx hb dX0_mostOften_26 rfl (lv_at hl 3 rfl) ?_
          refine lv_istore_n (lv' := [(1, .int x3), (0, .ref ad_s), (2, .int x2), (3, .int x3)]) hx hb dX0_mostOften_27 rfl hl (by decide) rfl (fun ls hl => ?_)
          refine lv_aload_n hx hb dX0_mostOften_28 rfl (lv_at hl 1 rfl) ?_
          refine kget hX hP (q0 := 0) rfl rfl inX0 (k := 0) (by decide) rfl wd228 rfl dX0_mostOften_29 ?_
          refine lv_iload_n hx hb dX0_mostOften_32 rfl (lv_at hl 3 rfl) ?_
          refine kiald hX hP rfl (q0 := 1) rfl (inb_in hg21_1) dX0_mostOften_33 ?_
          refine lv_topi (fun v34 ev34 => ?_)
          replace hf := nm_s ev34 hf
          refine lv_istore_n (lv' := [(2, .int v34), (1, .int x3), (0, .ref ad_s), (3, .int x3)]) hx hb dX0_mostOften_34 rfl hl (by decide) rfl (fun ls hl => ?_)
          exact hb35 _ _ x3 v34 x3 hP hD hS _ (lv_sub hl [2, 1, 0, 3] rfl) hf
  unfold f_X0_mostOften at hf
  refine lv_bipush (v := -9) hx hb dX0_mostOften_0 (by decide) ?_
  refine lv_istore_n (lv' := [(1, .int (-9 : Int32)), (0, .ref ad_s)]) hx hb dX0_mostOften_2 rfl hl (by decide) rfl (fun ls hl => ?_)
  refine lv_iconst (v := 0) hx hb dX0_mostOften_3 (by decide) ?_
  refine lv_istore_n (lv' := [(2, .int (0 : Int32)), (1, .int (-9 : Int32)), (0, .ref ad_s)]) hx hb dX0_mostOften_4 rfl hl (by decide) rfl (fun ls hl => ?_)
  refine lv_iconst (v := 0) hx hb dX0_mostOften_5 (by decide) ?_
  refine lv_istore_n (lv' := [(3, .int (0 : Int32)), (2, .int (0 : Int32)), (1, .int (-9 : Int32)), (0, .ref ad_s)]) hx hb dX0_mostOften_6 rfl hl (by decide) rfl (fun ls hl => ?_)
  exact hb7 N _ _ (-9 : Int32) (0 : Int32) (0 : Int32) hP hD hS _ (lv_sub hl [3, 2, 1, 0] rfl) hf
def p_X1_fact (s_number : Int32) (s_facts : (Nat → Int32)) (x1 : Int32) (x2 : Int32) : (Int32) :=
  if x1 < 0 then ((-9 : Int32)) else if s_number ≤ x1 then ((-9 : Int32)) else if x2 < 0 then ((-9 : Int32)) else if x2 < (6 : Int32) then nm ((x1 * (6 : Int32)) + x2) (fun v31 => if v31 < 0 then ((-9 : Int32)) else if (54 : Int32) ≤ v31 then ((-9 : Int32)) else ((s_facts v31.toNatClampNeg))) else ((-9 : Int32))
abbrev rm_X1_fact : Room := { frames := 0, cells := 0, slots := 0, locals := 0 }
set_option maxHeartbeats 4000000 in
set_option maxRecDepth 100000 in
theorem c_X1_fact (l : Launch) (D : va_G) (cI cJ cR : ClassId) (ad_s ad_s_facts : Nat) (s_number : Int32) (s_facts : (Nat → Int32)) (x1 : Int32) (x2 : Int32) {o : Int32} (hf : p_X1_fact s_number s_facts x1 x2 = o) : kMi l D (kT cI cJ cR) yX1_fact cX1_fact 4 (some .int) rm_X1_fact [.ref ad_s, .int x1, .int x2] [(ad_s, .inr (1, [.ref ad_s_facts, .int s_number])), (ad_s_facts, .inl (cI, 54, .inl s_facts))] (o) (fun w => w = [(ad_s, .inr (1, [.ref ad_s_facts, .int s_number])), (ad_s_facts, .inl (cI, 54, .inl s_facts))]) := by
  apply kInI (o := o)
  · decide
  · exact Nat.le_of_ble_eq_true rfl
  intro p e s m args below meth c A ls Q hX hRet hP hD hS hl
  have hx := hX.1.1
  have hb := hX.1.2.1
  have hown := hX.1.2.2.2.1
  have hts := hX.1.2.2.2.2
  have hl : lv_has ls 4 [(0, .ref ad_s), (1, .int x1), (2, .int x2)] := hl
  unfold p_X1_fact at hf
  refine lv_iload_n hx hb dX1_fact_0 rfl (lv_at hl 1 rfl) ?_
  refine lv_if_lt (tgt := 22) hx hb dX1_fact_1 (by decide) (fun c1 => ?_) (fun c1 => ?_)
  · replace hf := ip c1 hf
    refine lv_bipush (v := -9) hx hb dX1_fact_22 (by decide) ?_
    exact hRet _ _ _ _ _ _ _ hf rfl rfl hP hD hS dX1_fact_24
  · replace hf := iq c1 hf
    refine lv_iload_n hx hb dX1_fact_4 rfl (lv_at hl 1 rfl) ?_
    refine lv_aload_n hx hb dX1_fact_5 rfl (lv_at hl 0 rfl) ?_
    refine kget hX hP (q0 := 0) rfl rfl inX1 (k := 1) (by decide) rfl wd67 rfl dX1_fact_6 ?_
    refine lv_icmp_ge (tgt := 22) hx hb dX1_fact_9 (by decide) (fun c9 => ?_) (fun c9 => ?_)
    · replace hf := ip c9 hf
      refine lv_bipush (v := -9) hx hb dX1_fact_22 (by decide) ?_
      exact hRet _ _ _ _ _ _ _ hf rfl rfl hP hD hS dX1_fact_24
    · replace hf := iq c9 hf
      refine lv_iload_n hx hb dX1_fact_12 rfl (lv_at hl 2 rfl) ?_
      refine lv_if_lt (tgt := 22) hx hb dX1_fact_13 (by decide) (fun c13 => ?_) (fun c13 => ?_)
      · replace hf := ip c13 hf
        refine lv_bipush (v := -9) hx hb dX1_fact_22 (by decide) ?_
        exact hRet _ _ _ _ _ _ _ hf rfl rfl hP hD hS dX1_fact_24
      · replace hf := iq c13 hf
        refine lv_iload_n hx hb dX1_fact_16 rfl (lv_at hl 2 rfl) ?_
        refine lv_bipush (v := 6) hx hb dX1_fact_17 (by decide) ?_
        refine lv_icmp_lt (tgt := 25) hx hb dX1_fact_19 (by decide) (fun c19 => ?_) (fun c19 => ?_)
        · replace hf := ip c19 hf
          refine lv_iload_n hx hb dX1_fact_25 rfl (lv_at hl 1 rfl) ?_
          refine lv_bipush (v := 6) hx hb dX1_fact_26 (by decide) ?_
          refine lv_imul hx hb dX1_fact_28 ?_
          refine lv_iload_n hx hb dX1_fact_29 rfl (lv_at hl 2 rfl) ?_
          refine lv_iadd hx hb dX1_fact_30 ?_
          refine lv_topi (fun v31 ev31 => ?_)
          replace hf := nm_s ev31 hf
          refine lv_istore_n (lv' := [(3, .int v31), (0, .ref ad_s), (1, .int x1), (2, .int x2)]) hx hb dX1_fact_31 rfl hl (by decide) rfl (fun ls hl => ?_)
          refine lv_iload_n hx hb dX1_fact_32 rfl (lv_at hl 0 rfl) ?_
          refine lv_if_lt (tgt := 54) hx hb dX1_fact_33 (by decide) (fun c33 => ?_) (fun c33 => ?_)
          · replace hf := ip c33 hf
            refine lv_bipush (v := -9) hx hb dX1_fact_54 (by decide) ?_
            exact hRet _ _ _ _ _ _ _ hf rfl rfl hP hD hS dX1_fact_56
          · replace hf := iq c33 hf
            refine lv_iload_n hx hb dX1_fact_36 rfl (lv_at hl 0 rfl) ?_
            refine lv_aload_n hx hb dX1_fact_37 rfl (lv_at hl 1 rfl) ?_
            refine kget hX hP (q0 := 0) rfl rfl inX1 (k := 0) (by decide) rfl wd66 rfl dX1_fact_38 ?_
            refine kalen hX hP (t0 := 0) rfl (q0 := 1) rfl (v := (54 : Int32)) rfl dX1_fact_41 ?_
            refine lv_icmp_ge (tgt := 54) hx hb dX1_fact_42 (by decide) (fun c42 => ?_) (fun c42 => ?_)
            · replace hf := ip c42 hf
              refine lv_bipush (v := -9) hx hb dX1_fact_54 (by decide) ?_
              exact hRet _ _ _ _ _ _ _ hf rfl rfl hP hD hS dX1_fact_56
            · replace hf := iq c42 hf
              refine lv_aload_n hx hb dX1_fact_45 rfl (lv_at hl 1 rfl) ?_
              refine kget hX hP (q0 := 0) rfl rfl inX1 (k := 0) (by decide) rfl wd66 rfl dX1_fact_46 ?_
              refine lv_iload_n hx hb dX1_fact_49 rfl (lv_at hl 0 rfl) ?_
              refine kiald hX hP rfl (q0 := 1) rfl (vpi (by decide) c33 c42) dX1_fact_50 ?_
              refine lv_goto (tgt := 56) hx hb dX1_fact_51 (by decide) ?_
              exact hRet _ _ _ _ _ _ _ hf rfl rfl hP hD hS dX1_fact_56
        · replace hf := iq c19 hf
          refine lv_bipush (v := -9) hx hb dX1_fact_22 (by decide) ?_
          exact hRet _ _ _ _ _ _ _ hf rfl rfl hP hD hS dX1_fact_24
def p_X1_isOfKind (s_number : Int32) (s_facts : (Nat → Int32)) (x1 : Int32) (x2 : Int32) : (Int32) :=
  nm (p_X1_fact s_number s_facts x1 (0 : Int32)) (fun v6 => if v6 = x2 then ((1 : Int32)) else if x2 = (4 : Int32) then if v6 = (5 : Int32) then ((1 : Int32)) else ((0 : Int32)) else ((0 : Int32)))
theorem zb_X1_isOfKind (s_number : Int32) (s_facts : (Nat → Int32)) (x1 : Int32) (x2 : Int32) : p_X1_isOfKind s_number s_facts x1 x2 = 0 ∨ p_X1_isOfKind s_number s_facts x1 x2 = 1 := by
  unfold p_X1_isOfKind
  try dsimp only [nm]
  repeat' first | apply zb_ite | exact Or.inl rfl | exact Or.inr rfl
abbrev rm_X1_isOfKind : Room := { frames := 1, cells := 0, slots := 0, locals := 23 }
set_option maxHeartbeats 4000000 in
set_option maxRecDepth 100000 in
theorem c_X1_isOfKind (l : Launch) (D : va_G) (cI cJ cR : ClassId) (ad_s ad_s_facts : Nat) (s_number : Int32) (s_facts : (Nat → Int32)) (x1 : Int32) (x2 : Int32) {o : Int32} (hf : p_X1_isOfKind s_number s_facts x1 x2 = o) : kMi l D (kT cI cJ cR) yX1_isOfKind cX1_isOfKind 4 (some .boolean) rm_X1_isOfKind [.ref ad_s, .int x1, .int x2] [(ad_s, .inr (1, [.ref ad_s_facts, .int s_number])), (ad_s_facts, .inl (cI, 54, .inl s_facts))] (o) (fun w => w = [(ad_s, .inr (1, [.ref ad_s_facts, .int s_number])), (ad_s_facts, .inl (cI, 54, .inl s_facts))]) := by
  apply kInZ (o := o)
  · decide
  · exact Nat.le_of_ble_eq_true rfl
  intro p e s m args below meth c A ls Q hX hRet hP hD hS hl
  have hx := hX.1.1
  have hb := hX.1.2.1
  have hown := hX.1.2.2.2.1
  have hts := hX.1.2.2.2.2
  have hl : lv_has ls 4 [(0, .ref ad_s), (1, .int x1), (2, .int x2)] := hl
  unfold p_X1_isOfKind at hf
  refine lv_aload_n hx hb dX1_isOfKind_0 rfl (lv_at hl 0 rfl) ?_
  refine lv_iload_n hx hb dX1_isOfKind_1 rfl (lv_at hl 1 rfl) ?_
  refine lv_iconst (v := 0) hx hb dX1_isOfKind_2 (by decide) ?_
  refine kVi (rest := []) hX (c_X1_fact l D cI cJ cR ad_s ad_s_facts s_number s_facts x1 (0 : Int32) rfl) kc_X1_fact wd467 ⟨Nat.le_of_ble_eq_true rfl, Nat.le_of_ble_eq_true rfl⟩ ⟨rfl, rfl⟩ hP hD hS (ci := 1) rfl rfl (q0 := 0) rfl [0, 1] rfl (by decide) (fun w h => by cases h; rfl) rfl rfl (Nat.le_of_ble_eq_true rfl) hl.1 ⟨Nat.zero_le _, Nat.zero_le _⟩ dX1_isOfKind_3 (fun H locs w1 hw1 hP hD hS => ?_)
  cases hw1
  have hP : va_P D vwCl [(ad_s, .inr (1, [.ref ad_s_facts, .int s_number])), (ad_s_facts, .inl (cI, 54, .inl s_facts))] H := hP
  have hD : va_D A [(ad_s, .inr (1, [.ref ad_s_facts, .int s_number])), (ad_s_facts, .inl (cI, 54, .inl s_facts))] := hD
  refine lv_topi (fun v6 ev6 => ?_)
  replace hf := nm_s ev6 hf
  refine lv_istore_n (lv' := [(3, .int v6), (0, .ref ad_s), (1, .int x1), (2, .int x2)]) hx hb dX1_isOfKind_6 rfl hl (by decide) rfl (fun ls hl => ?_)
  refine lv_iload_n hx hb dX1_isOfKind_7 rfl (lv_at hl 0 rfl) ?_
  refine lv_iload_n hx hb dX1_isOfKind_8 rfl (lv_at hl 3 rfl) ?_
  refine lv_icmp_eq (tgt := 22) hx hb dX1_isOfKind_9 (by decide) (fun c9 => ?_) (fun c9 => ?_)
  · replace hf := ip c9 hf
    refine lv_iconst (v := 1) hx hb dX1_isOfKind_22 (by decide) ?_
    refine lv_goto (tgt := 27) hx hb dX1_isOfKind_23 (by decide) ?_
    exact hRet _ _ _ _ _ _ _ hf rfl rfl rfl hP hD hS dX1_isOfKind_27
  · replace hf := iq c9 hf
    refine lv_iload_n hx hb dX1_isOfKind_12 rfl (lv_at hl 3 rfl) ?_
    refine lv_iconst (v := 4) hx hb dX1_isOfKind_13 (by decide) ?_
    refine lv_icmp_ne (tgt := 26) hx hb dX1_isOfKind_14 (by decide) (fun c14 => ?_) (fun c14 => ?_)
    · replace hf := iq c14 hf
      refine lv_iconst (v := 0) hx hb dX1_isOfKind_26 (by decide) ?_
      exact hRet _ _ _ _ _ _ _ hf rfl rfl rfl hP hD hS dX1_isOfKind_27
    · replace hf := ip c14 hf
      refine lv_iload_n hx hb dX1_isOfKind_17 rfl (lv_at hl 0 rfl) ?_
      refine lv_iconst (v := 5) hx hb dX1_isOfKind_18 (by decide) ?_
      refine lv_icmp_ne (tgt := 26) hx hb dX1_isOfKind_19 (by decide) (fun c19 => ?_) (fun c19 => ?_)
      · replace hf := iq c19 hf
        refine lv_iconst (v := 0) hx hb dX1_isOfKind_26 (by decide) ?_
        exact hRet _ _ _ _ _ _ _ hf rfl rfl rfl hP hD hS dX1_isOfKind_27
      · replace hf := ip c19 hf
        refine lv_iconst (v := 1) hx hb dX1_isOfKind_22 (by decide) ?_
        refine lv_goto (tgt := 27) hx hb dX1_isOfKind_23 (by decide) ?_
        exact hRet _ _ _ _ _ _ _ hf rfl rfl rfl hP hD hS dX1_isOfKind_27
def f_X0_wordBy_b18 (N : Nat) (s_times : (Nat → Int32)) (q1_number : Int32) (q1_facts : (Nat → Int32)) (x2 : Int32) (y0 : Int32) : Option (Int32) :=
  if y0 = (-9 : Int32) then some ((p_X1_fact q1_number q1_facts x2 (3 : Int32))) else some (y0)
def f_X0_wordBy (N : Nat) (s_times : (Nat → Int32)) (q1_number : Int32) (q1_facts : (Nat → Int32)) (x2 : Int32) : Option (Int32) :=
  if (p_X1_isOfKind q1_number q1_facts x2 (4 : Int32)) = 0 then (f_X0_wordBy_b18 N s_times q1_number q1_facts) x2 (-9 : Int32) else bn (f_X0_mostOften N s_times) (fun z10_1 => (f_X0_wordBy_b18 N s_times q1_number q1_facts) x2 z10_1)
abbrev rm_X0_wordBy : Room := { frames := 2, cells := 0, slots := 0, locals := 46 }
set_option maxHeartbeats 4000000 in
set_option maxRecDepth 100000 in
theorem c_X0_wordBy (l : Launch) (D : va_G) (cI cJ cR : ClassId) (N : Nat) (ad_s ad_s_times ad_q1 ad_q1_facts : Nat) (s_times : (Nat → Int32)) (q1_number : Int32) (q1_facts : (Nat → Int32)) (x2 : Int32) {o : Int32} (hf : f_X0_wordBy N s_times q1_number q1_facts x2 = some o) : kMi l D (kT cI cJ cR) yX0_wordBy cX0_wordBy 4 (some .int) rm_X0_wordBy [.ref ad_s, .ref ad_q1, .int x2] [(ad_s, .inr (0, [.ref ad_s_times])), (ad_s_times, .inl (cI, 10, .inl s_times)), (ad_q1, .inr (1, [.ref ad_q1_facts, .int q1_number])), (ad_q1_facts, .inl (cI, 54, .inl q1_facts))] (o) (fun w => w = [(ad_s, .inr (0, [.ref ad_s_times])), (ad_s_times, .inl (cI, 10, .inl s_times)), (ad_q1, .inr (1, [.ref ad_q1_facts, .int q1_number])), (ad_q1_facts, .inl (cI, 54, .inl q1_facts))]) := by
  apply kInI (o := o)
  · decide
  · exact Nat.le_of_ble_eq_true rfl
  intro p e s m args below meth c A ls Q hX hRet hP hD hS hl
  have hx := hX.1.1
  have hb := hX.1.2.1
  have hown := hX.1.2.2.2.1
  have hts := hX.1.2.2.2.2
  have hl : lv_has ls 4 [(0, .ref ad_s), (1, .ref ad_q1), (2, .int x2)] := hl
  have hb18 : ∀ (H : Heap) (locs : List Loc) (x2 : Int32) (y0 : Int32), va_P D vwCl [(ad_s, .inr (0, [.ref ad_s_times])), (ad_s_times, .inl (cI, 10, .inl s_times)), (ad_q1, .inr (1, [.ref ad_q1_facts, .int q1_number])), (ad_q1_facts, .inl (cI, 54, .inl q1_facts))] H → va_D A [(ad_s, .inr (0, [.ref ad_s_times])), (ad_s_times, .inl (cI, 10, .inl s_times)), (ad_q1, .inr (1, [.ref ad_q1_facts, .int q1_number])), (ad_q1_facts, .inl (cI, 54, .inl q1_facts))] → va_S A s.heap H locs → ∀ ls : Array Slot, lv_has ls 4 [(1, .ref ad_q1), (2, .int x2)] → (f_X0_wordBy_b18 N s_times q1_number q1_facts) x2 y0 = some o → W p l e rm_X0_wordBy s m args below meth c H locs 0 0 Q (F0 m 18 ls [.int y0]) := by
    intro H locs x2 y0 hP hD hS ls hl hf
    unfold f_X0_wordBy_b18 at hf
    refine lv_istore_n (lv' := [(3, .int y0), (1, .ref ad_q1), (2, .int x2)]) hx hb dX0_wordBy_18 rfl hl (by decide) rfl (fun ls hl => ?_)
    refine lv_iload_n hx hb dX0_wordBy_19 rfl (lv_at hl 0 rfl) ?_
    refine lv_bipush (v := -9) hx hb dX0_wordBy_20 (by decide) ?_
    refine lv_icmp_ne (tgt := 34) hx hb dX0_wordBy_22 (by decide) (fun c22 => ?_) (fun c22 => ?_)
    · replace hf := iq c22 hf
      refine lv_iload_n hx hb dX0_wordBy_34 rfl (lv_at hl 0 rfl) ?_
      exact hRet _ _ _ _ _ _ _ (Option.some.inj hf) rfl rfl hP hD hS dX0_wordBy_35
    · replace hf := ip c22 hf
      refine lv_aload_n hx hb dX0_wordBy_25 rfl (lv_at hl 1 rfl) ?_
      refine lv_iload_n hx hb dX0_wordBy_26 rfl (lv_at hl 2 rfl) ?_
      refine lv_iconst (v := 3) hx hb dX0_wordBy_27 (by decide) ?_
      refine kVi (rest := []) hX (c_X1_fact l D cI cJ cR ad_q1 ad_q1_facts q1_number q1_facts x2 (3 : Int32) rfl) kc_X1_fact wd568 ⟨Nat.le_of_ble_eq_true rfl, Nat.le_of_ble_eq_true rfl⟩ ⟨rfl, rfl⟩ hP hD hS (ci := 1) rfl rfl (q0 := 2) rfl [2, 3] rfl (by decide) (fun w h => by cases h; rfl) rfl rfl (Nat.le_of_ble_eq_true rfl) hl.1 ⟨Nat.zero_le _, Nat.zero_le _⟩ dX0_wordBy_28 (fun H locs w1 hw1 hP hD hS => ?_)
      cases hw1
      have hP : va_P D vwCl [(ad_s, .inr (0, [.ref ad_s_times])), (ad_s_times, .inl (cI, 10, .inl s_times)), (ad_q1, .inr (1, [.ref ad_q1_facts, .int q1_number])), (ad_q1_facts, .inl (cI, 54, .inl q1_facts))] H := hP
      have hD : va_D A [(ad_s, .inr (0, [.ref ad_s_times])), (ad_s_times, .inl (cI, 10, .inl s_times)), (ad_q1, .inr (1, [.ref ad_q1_facts, .int q1_number])), (ad_q1_facts, .inl (cI, 54, .inl q1_facts))] := hD
      refine lv_goto (tgt := 35) hx hb dX0_wordBy_31 (by decide) ?_
      exact hRet _ _ _ _ _ _ _ (Option.some.inj hf) rfl rfl hP hD hS dX0_wordBy_35
  unfold f_X0_wordBy at hf
  refine lv_aload_n hx hb dX0_wordBy_0 rfl (lv_at hl 1 rfl) ?_
  refine lv_iload_n hx hb dX0_wordBy_1 rfl (lv_at hl 2 rfl) ?_
  refine lv_iconst (v := 4) hx hb dX0_wordBy_2 (by decide) ?_
  refine kVi (rest := []) hX (c_X1_isOfKind l D cI cJ cR ad_q1 ad_q1_facts q1_number q1_facts x2 (4 : Int32) rfl) kc_X1_isOfKind wd563 ⟨Nat.le_of_ble_eq_true rfl, Nat.le_of_ble_eq_true rfl⟩ ⟨rfl, rfl⟩ hP hD hS (ci := 1) rfl rfl (q0 := 2) rfl [2, 3] rfl (by decide) (fun w h => by cases h; rfl) rfl rfl (Nat.le_of_ble_eq_true rfl) hl.1 ⟨Nat.zero_le _, Nat.zero_le _⟩ dX0_wordBy_3 (fun H locs w1 hw1 hP hD hS => ?_)
  cases hw1
  have hP : va_P D vwCl [(ad_s, .inr (0, [.ref ad_s_times])), (ad_s_times, .inl (cI, 10, .inl s_times)), (ad_q1, .inr (1, [.ref ad_q1_facts, .int q1_number])), (ad_q1_facts, .inl (cI, 54, .inl q1_facts))] H := hP
  have hD : va_D A [(ad_s, .inr (0, [.ref ad_s_times])), (ad_s_times, .inl (cI, 10, .inl s_times)), (ad_q1, .inr (1, [.ref ad_q1_facts, .int q1_number])), (ad_q1_facts, .inl (cI, 54, .inl q1_facts))] := hD
  refine lv_if_eq (tgt := 16) hx hb dX0_wordBy_6 (by decide) (fun c6 => ?_) (fun c6 => ?_)
  · replace hf := ip c6 hf
    refine lv_bipush (v := -9) hx hb dX0_wordBy_16 (by decide) ?_
    exact hb18 _ _ x2 (-9 : Int32) hP hD hS _ (lv_sub hl [1, 2] rfl) hf
  · replace hf := iq c6 hf
    refine lv_aload_n hx hb dX0_wordBy_9 rfl (lv_at hl 0 rfl) ?_
    obtain ⟨z10_1, hz10_1, hf⟩ := bn_s hf
    refine kVi (rest := []) hX (c_X0_mostOften l D cI cJ cR N ad_s ad_s_times s_times hz10_1) kc_X0_mostOften wd564 ⟨Nat.le_of_ble_eq_true rfl, Nat.le_of_ble_eq_true rfl⟩ ⟨rfl, rfl⟩ hP hD hS (ci := 0) rfl rfl (q0 := 0) rfl [0, 1] rfl (by decide) (fun w h => by cases h; rfl) rfl rfl (Nat.le_of_ble_eq_true rfl) hl.1 ⟨Nat.zero_le _, Nat.zero_le _⟩ dX0_wordBy_10 (fun H locs w1 hw1 hP hD hS => ?_)
    cases hw1
    have hP : va_P D vwCl [(ad_s, .inr (0, [.ref ad_s_times])), (ad_s_times, .inl (cI, 10, .inl s_times)), (ad_q1, .inr (1, [.ref ad_q1_facts, .int q1_number])), (ad_q1_facts, .inl (cI, 54, .inl q1_facts))] H := hP
    have hD : va_D A [(ad_s, .inr (0, [.ref ad_s_times])), (ad_s_times, .inl (cI, 10, .inl s_times)), (ad_q1, .inr (1, [.ref ad_q1_facts, .int q1_number])), (ad_q1_facts, .inl (cI, 54, .inl q1_facts))] := hD
    refine lv_goto (tgt := 18) hx hb dX0_wordBy_13 (by decide) ?_
    exact hb18 _ _ x2 z10_1 hP hD hS _ (lv_sub hl [1, 2] rfl) hf
def p_X1_names (s_number : Int32) (x1 : Int32) : (Int32) :=
  if x1 < 0 then ((0 : Int32)) else if s_number ≤ x1 then ((0 : Int32)) else ((1 : Int32))
theorem zb_X1_names (s_number : Int32) (x1 : Int32) : p_X1_names s_number x1 = 0 ∨ p_X1_names s_number x1 = 1 := by
  unfold p_X1_names
  try dsimp only [nm]
  repeat' first | apply zb_ite | exact Or.inl rfl | exact Or.inr rfl
abbrev rm_X1_names : Room := { frames := 0, cells := 0, slots := 0, locals := 0 }
set_option maxHeartbeats 4000000 in
set_option maxRecDepth 100000 in
theorem c_X1_names (l : Launch) (D : va_G) (cI cJ cR : ClassId) (ad_s ad_s_facts : Nat) (s_number : Int32) (x1 : Int32) {o : Int32} (hf : p_X1_names s_number x1 = o) : kMi l D (kT cI cJ cR) yX1_names cX1_names 2 (some .boolean) rm_X1_names [.ref ad_s, .int x1] [(ad_s, .inr (1, [.ref ad_s_facts, .int s_number]))] (o) (fun w => w = [(ad_s, .inr (1, [.ref ad_s_facts, .int s_number]))]) := by
  apply kInZ (o := o)
  · decide
  · exact Nat.le_of_ble_eq_true rfl
  intro p e s m args below meth c A ls Q hX hRet hP hD hS hl
  have hx := hX.1.1
  have hb := hX.1.2.1
  have hown := hX.1.2.2.2.1
  have hts := hX.1.2.2.2.2
  have hl : lv_has ls 2 [(0, .ref ad_s), (1, .int x1)] := hl
  unfold p_X1_names at hf
  refine lv_iload_n hx hb dX1_names_0 rfl (lv_at hl 1 rfl) ?_
  refine lv_if_lt (tgt := 16) hx hb dX1_names_1 (by decide) (fun c1 => ?_) (fun c1 => ?_)
  · replace hf := ip c1 hf
    refine lv_iconst (v := 0) hx hb dX1_names_16 (by decide) ?_
    exact hRet _ _ _ _ _ _ _ hf rfl rfl rfl hP hD hS dX1_names_17
  · replace hf := iq c1 hf
    refine lv_iload_n hx hb dX1_names_4 rfl (lv_at hl 1 rfl) ?_
    refine lv_aload_n hx hb dX1_names_5 rfl (lv_at hl 0 rfl) ?_
    refine kget hX hP (q0 := 0) rfl rfl inX1 (k := 1) (by decide) rfl wd67 rfl dX1_names_6 ?_
    refine lv_icmp_ge (tgt := 16) hx hb dX1_names_9 (by decide) (fun c9 => ?_) (fun c9 => ?_)
    · replace hf := ip c9 hf
      refine lv_iconst (v := 0) hx hb dX1_names_16 (by decide) ?_
      exact hRet _ _ _ _ _ _ _ hf rfl rfl rfl hP hD hS dX1_names_17
    · replace hf := iq c9 hf
      refine lv_iconst (v := 1) hx hb dX1_names_12 (by decide) ?_
      refine lv_goto (tgt := 17) hx hb dX1_names_13 (by decide) ?_
      exact hRet _ _ _ _ _ _ _ hf rfl rfl rfl hP hD hS dX1_names_17
def p_X1_all (s_number : Int32) : (Int32) :=
  ((((1 : Int32) <<< (s_number &&& 31)) - (1 : Int32)))
abbrev rm_X1_all : Room := { frames := 0, cells := 0, slots := 0, locals := 0 }
set_option maxHeartbeats 4000000 in
set_option maxRecDepth 100000 in
theorem c_X1_all (l : Launch) (D : va_G) (cI cJ cR : ClassId) (ad_s ad_s_facts : Nat) (s_number : Int32) {o : Int32} (hf : p_X1_all s_number = o) : kMi l D (kT cI cJ cR) yX1_all cX1_all 1 (some .int) rm_X1_all [.ref ad_s] [(ad_s, .inr (1, [.ref ad_s_facts, .int s_number]))] (o) (fun w => w = [(ad_s, .inr (1, [.ref ad_s_facts, .int s_number]))]) := by
  apply kInI (o := o)
  · decide
  · exact Nat.le_of_ble_eq_true rfl
  intro p e s m args below meth c A ls Q hX hRet hP hD hS hl
  have hx := hX.1.1
  have hb := hX.1.2.1
  have hown := hX.1.2.2.2.1
  have hts := hX.1.2.2.2.2
  have hl : lv_has ls 1 [(0, .ref ad_s)] := hl
  unfold p_X1_all at hf
  refine lv_iconst (v := 1) hx hb dX1_all_0 (by decide) ?_
  refine lv_aload_n hx hb dX1_all_1 rfl (lv_at hl 0 rfl) ?_
  refine kget hX hP (q0 := 0) rfl rfl inX1 (k := 1) (by decide) rfl wd67 rfl dX1_all_2 ?_
  refine lv_ishl hx hb dX1_all_5 ?_
  refine lv_iconst (v := 1) hx hb dX1_all_6 (by decide) ?_
  refine lv_isub hx hb dX1_all_7 ?_
  exact hRet _ _ _ _ _ _ _ hf rfl rfl hP hD hS dX1_all_8
def p_X1_setFact (s_facts : (Nat → Int32)) (x1 : Int32) (x2 : Int32) (x3 : Int32) : ((Nat → Int32)) :=
  nm ((x1 * (6 : Int32)) + x2) (fun v6 => if v6 < 0 then (s_facts) else if (54 : Int32) ≤ v6 then (s_facts) else ((upd s_facts v6.toNatClampNeg x3)))
abbrev rm_X1_setFact : Room := { frames := 0, cells := 0, slots := 0, locals := 0 }
set_option maxHeartbeats 4000000 in
set_option maxRecDepth 100000 in
theorem c_X1_setFact (l : Launch) (D : va_G) (cI cJ cR : ClassId) (ad_s ad_s_facts : Nat) (s_number : Int32) (s_facts : (Nat → Int32)) (x1 : Int32) (x2 : Int32) (x3 : Int32) {o : (Nat → Int32)} (hf : p_X1_setFact s_facts x1 x2 x3 = o) : kMv l D (kT cI cJ cR) yX1_setFact cX1_setFact 5 none rm_X1_setFact [.ref ad_s, .int x1, .int x2, .int x3] [(ad_s, .inr (1, [.ref ad_s_facts, .int s_number])), (ad_s_facts, .inl (cI, 54, .inl s_facts))] 0 0 (fun w => w = [(ad_s, .inr (1, [.ref ad_s_facts, .int s_number])), (ad_s_facts, .inl (cI, 54, .inl o))]) := by
  apply kInV (o := o)
  · decide
  · exact Nat.le_of_ble_eq_true rfl
  intro p e s m args below meth c A ls Q hX hRet hP hD hS hl
  have hx := hX.1.1
  have hb := hX.1.2.1
  have hown := hX.1.2.2.2.1
  have hts := hX.1.2.2.2.2
  have hl : lv_has ls 5 [(0, .ref ad_s), (1, .int x1), (2, .int x2), (3, .int x3)] := hl
  unfold p_X1_setFact at hf
  refine lv_iload_n hx hb dX1_setFact_0 rfl (lv_at hl 1 rfl) ?_
  refine lv_bipush (v := 6) hx hb dX1_setFact_1 (by decide) ?_
  refine lv_imul hx hb dX1_setFact_3 ?_
  refine lv_iload_n hx hb dX1_setFact_4 rfl (lv_at hl 2 rfl) ?_
  refine lv_iadd hx hb dX1_setFact_5 ?_
  refine lv_topi (fun v6 ev6 => ?_)
  replace hf := nm_s ev6 hf
  refine lv_istore (lv' := [(4, .int v6), (0, .ref ad_s), (1, .int x1), (2, .int x2), (3, .int x3)]) hx hb dX1_setFact_6 hl (by decide) rfl (fun ls hl => ?_)
  refine lv_iload hx hb dX1_setFact_8 (lv_at hl 0 rfl) ?_
  refine lv_if_lt (tgt := 31) hx hb dX1_setFact_10 (by decide) (fun c10 => ?_) (fun c10 => ?_)
  · replace hf := ip c10 hf
    exact hRet _ _ _ _ _ _ hf rfl hP hD hS dX1_setFact_31
  · replace hf := iq c10 hf
    refine lv_iload hx hb dX1_setFact_13 (lv_at hl 0 rfl) ?_
    refine lv_aload_n hx hb dX1_setFact_15 rfl (lv_at hl 1 rfl) ?_
    refine kget hX hP (q0 := 0) rfl rfl inX1 (k := 0) (by decide) rfl wd66 rfl dX1_setFact_16 ?_
    refine kalen hX hP (t0 := 0) rfl (q0 := 1) rfl (v := (54 : Int32)) rfl dX1_setFact_19 ?_
    refine lv_icmp_ge (tgt := 31) hx hb dX1_setFact_20 (by decide) (fun c20 => ?_) (fun c20 => ?_)
    · replace hf := ip c20 hf
      exact hRet _ _ _ _ _ _ hf rfl hP hD hS dX1_setFact_31
    · replace hf := iq c20 hf
      refine lv_aload_n hx hb dX1_setFact_23 rfl (lv_at hl 1 rfl) ?_
      refine kget hX hP (q0 := 0) rfl rfl inX1 (k := 0) (by decide) rfl wd66 rfl dX1_setFact_24 ?_
      refine lv_iload hx hb dX1_setFact_27 (lv_at hl 0 rfl) ?_
      refine lv_iload_n hx hb dX1_setFact_29 rfl (lv_at hl 4 rfl) ?_
      refine kiast hX hP hD hS rfl (q0 := 1) rfl (vpi (by decide) c10 c20) dX1_setFact_30 (fun H locs hP hD hS => ?_)
      exact hRet _ _ _ _ _ _ hf rfl hP hD hS dX1_setFact_31
def f_X1_numberOfKind_b24 (N : Nat) (k4 : Int32 → Int32 → Int32 → Option (Int32)) (s_number : Int32) (s_facts : (Nat → Int32)) (x1 : Int32) (x2 : Int32) (x3 : Int32) : Option (Int32) :=
  k4 x1 x2 (x3 + (1 : Int32))
def f_X1_numberOfKind_b4 (N : Nat) (s_number : Int32) (s_facts : (Nat → Int32)) : Nat → Int32 → Int32 → Int32 → Option (Int32)
  | 0, _, _, _ => none
  | n4 + 1, x1, x2, x3 => if s_number ≤ x3 then some (x2) else (f_X1_numberOfKind_b24 N (f_X1_numberOfKind_b4 N s_number s_facts n4) s_number s_facts) x1 (if (p_X1_isOfKind s_number s_facts x3 x1) = 0 then x2 else (x2 + (1 : Int32))) x3
def f_X1_numberOfKind (N : Nat) (s_number : Int32) (s_facts : (Nat → Int32)) (x1 : Int32) : Option (Int32) :=
  (f_X1_numberOfKind_b4 N s_number s_facts N) x1 (0 : Int32) (0 : Int32)
abbrev rm_X1_numberOfKind : Room := { frames := 2, cells := 0, slots := 0, locals := 46 }
set_option maxHeartbeats 4000000 in
set_option maxRecDepth 100000 in
theorem c_X1_numberOfKind (l : Launch) (D : va_G) (cI cJ cR : ClassId) (N : Nat) (ad_s ad_s_facts : Nat) (s_number : Int32) (s_facts : (Nat → Int32)) (x1 : Int32) {o : Int32} (hf : f_X1_numberOfKind N s_number s_facts x1 = some o) : kMi l D (kT cI cJ cR) yX1_numberOfKind cX1_numberOfKind 4 (some .int) rm_X1_numberOfKind [.ref ad_s, .int x1] [(ad_s, .inr (1, [.ref ad_s_facts, .int s_number])), (ad_s_facts, .inl (cI, 54, .inl s_facts))] (o) (fun w => w = [(ad_s, .inr (1, [.ref ad_s_facts, .int s_number])), (ad_s_facts, .inl (cI, 54, .inl s_facts))]) := by
  apply kInI (o := o)
  · decide
  · exact Nat.le_of_ble_eq_true rfl
  intro p e s m args below meth c A ls Q hX hRet hP hD hS hl
  have hx := hX.1.1
  have hb := hX.1.2.1
  have hown := hX.1.2.2.2.1
  have hts := hX.1.2.2.2.2
  have hl : lv_has ls 4 [(0, .ref ad_s), (1, .int x1)] := hl
  have hb4 : ∀ n4 : Nat, ∀ (H : Heap) (locs : List Loc) (x1 : Int32) (x2 : Int32) (x3 : Int32), va_P D vwCl [(ad_s, .inr (1, [.ref ad_s_facts, .int s_number])), (ad_s_facts, .inl (cI, 54, .inl s_facts))] H → va_D A [(ad_s, .inr (1, [.ref ad_s_facts, .int s_number])), (ad_s_facts, .inl (cI, 54, .inl s_facts))] → va_S A s.heap H locs → ∀ ls : Array Slot, lv_has ls 4 [(0, .ref ad_s), (1, .int x1), (2, .int x2), (3, .int x3)] → f_X1_numberOfKind_b4 N s_number s_facts n4 x1 x2 x3 = some o → W p l e rm_X1_numberOfKind s m args below meth c H locs 0 0 Q (F0 m 4 ls []) := by
    intro n4
    induction n4 with
    | zero =>
      intro H locs x1 x2 x3 hP hD hS ls hl hf
      rw [f_X1_numberOfKind_b4] at hf
      cases hf
    | succ n4 ih4 =>
      have hb24 : ∀ (H : Heap) (locs : List Loc) (x1 : Int32) (x2 : Int32) (x3 : Int32), va_P D vwCl [(ad_s, .inr (1, [.ref ad_s_facts, .int s_number])), (ad_s_facts, .inl (cI, 54, .inl s_facts))] H → va_D A [(ad_s, .inr (1, [.ref ad_s_facts, .int s_number])), (ad_s_facts, .inl (cI, 54, .inl s_facts))] → va_S A s.heap H locs → ∀ ls : Array Slot, lv_has ls 4 [(0, .ref ad_s), (1, .int x1), (2, .int x2), (3, .int x3)] → (f_X1_numberOfKind_b24 N (f_X1_numberOfKind_b4 N s_number s_facts n4) s_number s_facts) x1 x2 x3 = some o → W p l e rm_X1_numberOfKind s m args below meth c H locs 0 0 Q (F0 m 24 ls []) := by
        intro H locs x1 x2 x3 hP hD hS ls hl hf
        unfold f_X1_numberOfKind_b24 at hf
        refine lv_iinc (v := (x3 + (1 : Int32))) (lv' := [(3, .int (x3 + (1 : Int32))), (0, .ref ad_s), (1, .int x1), (2, .int x2)]) hx hb dX1_numberOfKind_24 hl (k := 3) rfl rfl (by decide) rfl (fun ls hl => ?_)
        refine lv_goto (tgt := 4) hx hb dX1_numberOfKind_27 (by decide) ?_
        exact ih4 _ _ x1 x2 (x3 + (1 : Int32)) hP hD hS _ (lv_sub hl [1, 2, 3, 0] rfl) hf
      intro H locs x1 x2 x3 hP hD hS ls hl hf
      rw [f_X1_numberOfKind_b4] at hf
      refine lv_iload_n hx hb dX1_numberOfKind_4 rfl (lv_at hl 3 rfl) ?_
      refine lv_aload_n hx hb dX1_numberOfKind_5 rfl (lv_at hl 0 rfl) ?_
      refine kget hX hP (q0 := 0) rfl rfl inX1 (k := 1) (by decide) rfl wd67 rfl dX1_numberOfKind_6 ?_
      refine lv_icmp_ge (tgt := 30) hx hb dX1_numberOfKind_9 (by decide) (fun c9 => ?_) (fun c9 => ?_)
      · replace hf := ip c9 hf
        refine lv_iload_n hx hb dX1_numberOfKind_30 rfl (lv_at hl 2 rfl) ?_
        exact hRet _ _ _ _ _ _ _ (Option.some.inj hf) rfl rfl hP hD hS dX1_numberOfKind_31
      · replace hf := iq c9 hf
        refine lv_aload_n hx hb dX1_numberOfKind_12 rfl (lv_at hl 0 rfl) ?_
        refine lv_iload_n hx hb dX1_numberOfKind_13 rfl (lv_at hl 3 rfl) ?_
        refine lv_iload_n hx hb dX1_numberOfKind_14 rfl (lv_at hl 1 rfl) ?_
        refine kVi (rest := []) hX (c_X1_isOfKind l D cI cJ cR ad_s ad_s_facts s_number s_facts x3 x1 rfl) kc_X1_isOfKind wd921 ⟨Nat.le_of_ble_eq_true rfl, Nat.le_of_ble_eq_true rfl⟩ ⟨rfl, rfl⟩ hP hD hS (ci := 1) rfl rfl (q0 := 0) rfl [0, 1] rfl (by decide) (fun w h => by cases h; rfl) rfl rfl (Nat.le_of_ble_eq_true rfl) hl.1 ⟨Nat.zero_le _, Nat.zero_le _⟩ dX1_numberOfKind_15 (fun H locs w1 hw1 hP hD hS => ?_)
        cases hw1
        have hP : va_P D vwCl [(ad_s, .inr (1, [.ref ad_s_facts, .int s_number])), (ad_s_facts, .inl (cI, 54, .inl s_facts))] H := hP
        have hD : va_D A [(ad_s, .inr (1, [.ref ad_s_facts, .int s_number])), (ad_s_facts, .inl (cI, 54, .inl s_facts))] := hD
        refine lv_if_eq (tgt := 24) hx hb dX1_numberOfKind_18 (by decide) (fun c18 => ?_) (fun c18 => ?_)
        · simp only [if_pos c18] at hf
          exact hb24 _ _ x1 x2 x3 hP hD hS _ (lv_sub hl [0, 1, 2, 3] rfl) hf
        · simp only [if_neg c18] at hf
          refine lv_iinc (v := (x2 + (1 : Int32))) (lv' := [(2, .int (x2 + (1 : Int32))), (0, .ref ad_s), (1, .int x1), (3, .int x3)]) hx hb dX1_numberOfKind_21 hl (k := 2) rfl rfl (by decide) rfl (fun ls hl => ?_)
          exact hb24 _ _ x1 (x2 + (1 : Int32)) x3 hP hD hS _ (lv_sub hl [1, 2, 0, 3] rfl) hf
  unfold f_X1_numberOfKind at hf
  refine lv_iconst (v := 0) hx hb dX1_numberOfKind_0 (by decide) ?_
  refine lv_istore_n (lv' := [(2, .int (0 : Int32)), (0, .ref ad_s), (1, .int x1)]) hx hb dX1_numberOfKind_1 rfl hl (by decide) rfl (fun ls hl => ?_)
  refine lv_iconst (v := 0) hx hb dX1_numberOfKind_2 (by decide) ?_
  refine lv_istore_n (lv' := [(3, .int (0 : Int32)), (2, .int (0 : Int32)), (0, .ref ad_s), (1, .int x1)]) hx hb dX1_numberOfKind_3 rfl hl (by decide) rfl (fun ls hl => ?_)
  exact hb4 N _ _ x1 (0 : Int32) (0 : Int32) hP hD hS _ (lv_sub hl [2, 3, 1, 0] rfl) hf
def p_X1_isAway (s_number : Int32) (s_facts : (Nat → Int32)) (x1 : Int32) (x2 : Int32) : (Int32) :=
  if (p_X1_fact s_number s_facts x1 (0 : Int32)) = (3 : Int32) then if x2 < (p_X1_fact s_number s_facts x1 (4 : Int32)) then ((0 : Int32)) else if (p_X1_fact s_number s_facts x1 (5 : Int32)) < x2 then ((0 : Int32)) else ((1 : Int32)) else ((0 : Int32))
theorem zb_X1_isAway (s_number : Int32) (s_facts : (Nat → Int32)) (x1 : Int32) (x2 : Int32) : p_X1_isAway s_number s_facts x1 x2 = 0 ∨ p_X1_isAway s_number s_facts x1 x2 = 1 := by
  unfold p_X1_isAway
  try dsimp only [nm]
  repeat' first | apply zb_ite | exact Or.inl rfl | exact Or.inr rfl
abbrev rm_X1_isAway : Room := { frames := 1, cells := 0, slots := 0, locals := 23 }
set_option maxHeartbeats 4000000 in
set_option maxRecDepth 100000 in
theorem c_X1_isAway (l : Launch) (D : va_G) (cI cJ cR : ClassId) (ad_s ad_s_facts : Nat) (s_number : Int32) (s_facts : (Nat → Int32)) (x1 : Int32) (x2 : Int32) {o : Int32} (hf : p_X1_isAway s_number s_facts x1 x2 = o) : kMi l D (kT cI cJ cR) yX1_isAway cX1_isAway 3 (some .boolean) rm_X1_isAway [.ref ad_s, .int x1, .int x2] [(ad_s, .inr (1, [.ref ad_s_facts, .int s_number])), (ad_s_facts, .inl (cI, 54, .inl s_facts))] (o) (fun w => w = [(ad_s, .inr (1, [.ref ad_s_facts, .int s_number])), (ad_s_facts, .inl (cI, 54, .inl s_facts))]) := by
  apply kInZ (o := o)
  · decide
  · exact Nat.le_of_ble_eq_true rfl
  intro p e s m args below meth c A ls Q hX hRet hP hD hS hl
  have hx := hX.1.1
  have hb := hX.1.2.1
  have hown := hX.1.2.2.2.1
  have hts := hX.1.2.2.2.2
  have hl : lv_has ls 3 [(0, .ref ad_s), (1, .int x1), (2, .int x2)] := hl
  unfold p_X1_isAway at hf
  refine lv_aload_n hx hb dX1_isAway_0 rfl (lv_at hl 0 rfl) ?_
  refine lv_iload_n hx hb dX1_isAway_1 rfl (lv_at hl 1 rfl) ?_
  refine lv_iconst (v := 0) hx hb dX1_isAway_2 (by decide) ?_
  refine kVi (rest := []) hX (c_X1_fact l D cI cJ cR ad_s ad_s_facts s_number s_facts x1 (0 : Int32) rfl) kc_X1_fact wd467 ⟨Nat.le_of_ble_eq_true rfl, Nat.le_of_ble_eq_true rfl⟩ ⟨rfl, rfl⟩ hP hD hS (ci := 1) rfl rfl (q0 := 0) rfl [0, 1] rfl (by decide) (fun w h => by cases h; rfl) rfl rfl (Nat.le_of_ble_eq_true rfl) hl.1 ⟨Nat.zero_le _, Nat.zero_le _⟩ dX1_isAway_3 (fun H locs w1 hw1 hP hD hS => ?_)
  cases hw1
  have hP : va_P D vwCl [(ad_s, .inr (1, [.ref ad_s_facts, .int s_number])), (ad_s_facts, .inl (cI, 54, .inl s_facts))] H := hP
  have hD : va_D A [(ad_s, .inr (1, [.ref ad_s_facts, .int s_number])), (ad_s_facts, .inl (cI, 54, .inl s_facts))] := hD
  refine lv_iconst (v := 3) hx hb dX1_isAway_6 (by decide) ?_
  refine lv_icmp_ne (tgt := 34) hx hb dX1_isAway_7 (by decide) (fun c7 => ?_) (fun c7 => ?_)
  · replace hf := iq c7 hf
    refine lv_iconst (v := 0) hx hb dX1_isAway_34 (by decide) ?_
    exact hRet _ _ _ _ _ _ _ hf rfl rfl rfl hP hD hS dX1_isAway_35
  · replace hf := ip c7 hf
    refine lv_iload_n hx hb dX1_isAway_10 rfl (lv_at hl 2 rfl) ?_
    refine lv_aload_n hx hb dX1_isAway_11 rfl (lv_at hl 0 rfl) ?_
    refine lv_iload_n hx hb dX1_isAway_12 rfl (lv_at hl 1 rfl) ?_
    refine lv_iconst (v := 4) hx hb dX1_isAway_13 (by decide) ?_
    refine kVi (rest := [.int x2]) hX (c_X1_fact l D cI cJ cR ad_s ad_s_facts s_number s_facts x1 (4 : Int32) rfl) kc_X1_fact wd467 ⟨Nat.le_of_ble_eq_true rfl, Nat.le_of_ble_eq_true rfl⟩ ⟨rfl, rfl⟩ hP hD hS (ci := 1) rfl rfl (q0 := 0) rfl [0, 1] rfl (by decide) (fun w h => by cases h; rfl) rfl rfl (Nat.le_of_ble_eq_true rfl) hl.1 ⟨Nat.zero_le _, Nat.zero_le _⟩ dX1_isAway_14 (fun H locs w1 hw1 hP hD hS => ?_)
    cases hw1
    have hP : va_P D vwCl [(ad_s, .inr (1, [.ref ad_s_facts, .int s_number])), (ad_s_facts, .inl (cI, 54, .inl s_facts))] H := hP
    have hD : va_D A [(ad_s, .inr (1, [.ref ad_s_facts, .int s_number])), (ad_s_facts, .inl (cI, 54, .inl s_facts))] := hD
    refine lv_icmp_lt (tgt := 34) hx hb dX1_isAway_17 (by decide) (fun c17 => ?_) (fun c17 => ?_)
    · replace hf := ip c17 hf
      refine lv_iconst (v := 0) hx hb dX1_isAway_34 (by decide) ?_
      exact hRet _ _ _ _ _ _ _ hf rfl rfl rfl hP hD hS dX1_isAway_35
    · replace hf := iq c17 hf
      refine lv_iload_n hx hb dX1_isAway_20 rfl (lv_at hl 2 rfl) ?_
      refine lv_aload_n hx hb dX1_isAway_21 rfl (lv_at hl 0 rfl) ?_
      refine lv_iload_n hx hb dX1_isAway_22 rfl (lv_at hl 1 rfl) ?_
      refine lv_iconst (v := 5) hx hb dX1_isAway_23 (by decide) ?_
      refine kVi (rest := [.int x2]) hX (c_X1_fact l D cI cJ cR ad_s ad_s_facts s_number s_facts x1 (5 : Int32) rfl) kc_X1_fact wd467 ⟨Nat.le_of_ble_eq_true rfl, Nat.le_of_ble_eq_true rfl⟩ ⟨rfl, rfl⟩ hP hD hS (ci := 1) rfl rfl (q0 := 0) rfl [0, 1] rfl (by decide) (fun w h => by cases h; rfl) rfl rfl (Nat.le_of_ble_eq_true rfl) hl.1 ⟨Nat.zero_le _, Nat.zero_le _⟩ dX1_isAway_24 (fun H locs w1 hw1 hP hD hS => ?_)
      cases hw1
      have hP : va_P D vwCl [(ad_s, .inr (1, [.ref ad_s_facts, .int s_number])), (ad_s_facts, .inl (cI, 54, .inl s_facts))] H := hP
      have hD : va_D A [(ad_s, .inr (1, [.ref ad_s_facts, .int s_number])), (ad_s_facts, .inl (cI, 54, .inl s_facts))] := hD
      refine lv_icmp_gt (tgt := 34) hx hb dX1_isAway_27 (by decide) (fun c27 => ?_) (fun c27 => ?_)
      · replace hf := ip c27 hf
        refine lv_iconst (v := 0) hx hb dX1_isAway_34 (by decide) ?_
        exact hRet _ _ _ _ _ _ _ hf rfl rfl rfl hP hD hS dX1_isAway_35
      · replace hf := iq c27 hf
        refine lv_iconst (v := 1) hx hb dX1_isAway_30 (by decide) ?_
        refine lv_goto (tgt := 35) hx hb dX1_isAway_31 (by decide) ?_
        exact hRet _ _ _ _ _ _ _ hf rfl rfl rfl hP hD hS dX1_isAway_35
def p_X1_heapOf (s_number : Int32) (s_facts : (Nat → Int32)) (x1 : Int32) : (Int32) :=
  if (p_X1_fact s_number s_facts x1 (0 : Int32)) = (2 : Int32) then ((p_X1_fact s_number s_facts x1 (4 : Int32))) else ((0 : Int32))
abbrev rm_X1_heapOf : Room := { frames := 1, cells := 0, slots := 0, locals := 23 }
set_option maxHeartbeats 4000000 in
set_option maxRecDepth 100000 in
theorem c_X1_heapOf (l : Launch) (D : va_G) (cI cJ cR : ClassId) (ad_s ad_s_facts : Nat) (s_number : Int32) (s_facts : (Nat → Int32)) (x1 : Int32) {o : Int32} (hf : p_X1_heapOf s_number s_facts x1 = o) : kMi l D (kT cI cJ cR) yX1_heapOf cX1_heapOf 2 (some .int) rm_X1_heapOf [.ref ad_s, .int x1] [(ad_s, .inr (1, [.ref ad_s_facts, .int s_number])), (ad_s_facts, .inl (cI, 54, .inl s_facts))] (o) (fun w => w = [(ad_s, .inr (1, [.ref ad_s_facts, .int s_number])), (ad_s_facts, .inl (cI, 54, .inl s_facts))]) := by
  apply kInI (o := o)
  · decide
  · exact Nat.le_of_ble_eq_true rfl
  intro p e s m args below meth c A ls Q hX hRet hP hD hS hl
  have hx := hX.1.1
  have hb := hX.1.2.1
  have hown := hX.1.2.2.2.1
  have hts := hX.1.2.2.2.2
  have hl : lv_has ls 2 [(0, .ref ad_s), (1, .int x1)] := hl
  unfold p_X1_heapOf at hf
  refine lv_aload_n hx hb dX1_heapOf_0 rfl (lv_at hl 0 rfl) ?_
  refine lv_iload_n hx hb dX1_heapOf_1 rfl (lv_at hl 1 rfl) ?_
  refine lv_iconst (v := 0) hx hb dX1_heapOf_2 (by decide) ?_
  refine kVi (rest := []) hX (c_X1_fact l D cI cJ cR ad_s ad_s_facts s_number s_facts x1 (0 : Int32) rfl) kc_X1_fact wd467 ⟨Nat.le_of_ble_eq_true rfl, Nat.le_of_ble_eq_true rfl⟩ ⟨rfl, rfl⟩ hP hD hS (ci := 1) rfl rfl (q0 := 0) rfl [0, 1] rfl (by decide) (fun w h => by cases h; rfl) rfl rfl (Nat.le_of_ble_eq_true rfl) hl.1 ⟨Nat.zero_le _, Nat.zero_le _⟩ dX1_heapOf_3 (fun H locs w1 hw1 hP hD hS => ?_)
  cases hw1
  have hP : va_P D vwCl [(ad_s, .inr (1, [.ref ad_s_facts, .int s_number])), (ad_s_facts, .inl (cI, 54, .inl s_facts))] H := hP
  have hD : va_D A [(ad_s, .inr (1, [.ref ad_s_facts, .int s_number])), (ad_s_facts, .inl (cI, 54, .inl s_facts))] := hD
  refine lv_iconst (v := 2) hx hb dX1_heapOf_6 (by decide) ?_
  refine lv_icmp_ne (tgt := 19) hx hb dX1_heapOf_7 (by decide) (fun c7 => ?_) (fun c7 => ?_)
  · replace hf := iq c7 hf
    refine lv_iconst (v := 0) hx hb dX1_heapOf_19 (by decide) ?_
    exact hRet _ _ _ _ _ _ _ hf rfl rfl hP hD hS dX1_heapOf_20
  · replace hf := ip c7 hf
    refine lv_aload_n hx hb dX1_heapOf_10 rfl (lv_at hl 0 rfl) ?_
    refine lv_iload_n hx hb dX1_heapOf_11 rfl (lv_at hl 1 rfl) ?_
    refine lv_iconst (v := 4) hx hb dX1_heapOf_12 (by decide) ?_
    refine kVi (rest := []) hX (c_X1_fact l D cI cJ cR ad_s ad_s_facts s_number s_facts x1 (4 : Int32) rfl) kc_X1_fact wd467 ⟨Nat.le_of_ble_eq_true rfl, Nat.le_of_ble_eq_true rfl⟩ ⟨rfl, rfl⟩ hP hD hS (ci := 1) rfl rfl (q0 := 0) rfl [0, 1] rfl (by decide) (fun w h => by cases h; rfl) rfl rfl (Nat.le_of_ble_eq_true rfl) hl.1 ⟨Nat.zero_le _, Nat.zero_le _⟩ dX1_heapOf_13 (fun H locs w1 hw1 hP hD hS => ?_)
    cases hw1
    have hP : va_P D vwCl [(ad_s, .inr (1, [.ref ad_s_facts, .int s_number])), (ad_s_facts, .inl (cI, 54, .inl s_facts))] H := hP
    have hD : va_D A [(ad_s, .inr (1, [.ref ad_s_facts, .int s_number])), (ad_s_facts, .inl (cI, 54, .inl s_facts))] := hD
    refine lv_goto (tgt := 20) hx hb dX1_heapOf_16 (by decide) ?_
    exact hRet _ _ _ _ _ _ _ hf rfl rfl hP hD hS dX1_heapOf_20
def p_X1_rankOf (x0 : Int32) (x1 : Int32) (x2 : Int32) : (Int32) :=
  if x2 = 0 then if x1 ≤ x0 then (((x1 - x0) + (9 : Int32))) else ((x1 - x0)) else nm (if 0 ≤ (x1 - x0) then (x1 - x0) else 0 - (x1 - x0)) (fun v28 => if x2 = (1 : Int32) then (v28) else ((-v28)))
abbrev rm_X1_rankOf : Room := { frames := 1, cells := 0, slots := 0, locals := 40 }
set_option maxHeartbeats 4000000 in
set_option maxRecDepth 100000 in
theorem c_X1_rankOf (l : Launch) (D : va_G) (cI cJ cR : ClassId) (x0 : Int32) (x1 : Int32) (x2 : Int32) {o : Int32} (hf : p_X1_rankOf x0 x1 x2 = o) : kMi l D (kT cI cJ cR) yX1_rankOf cX1_rankOf 4 (some .int) rm_X1_rankOf [.int x0, .int x1, .int x2] [] (o) (fun w => w = []) := by
  apply kInI (o := o)
  · decide
  · exact Nat.le_of_ble_eq_true rfl
  intro p e s m args below meth c A ls Q hX hRet hP hD hS hl
  have hx := hX.1.1
  have hb := hX.1.2.1
  have hown := hX.1.2.2.2.1
  have hts := hX.1.2.2.2.2
  have hl : lv_has ls 4 [(0, .int x0), (1, .int x1), (2, .int x2)] := hl
  unfold p_X1_rankOf at hf
  refine lv_iload_n hx hb dX1_rankOf_0 rfl (lv_at hl 2 rfl) ?_
  refine lv_if_ne (tgt := 22) hx hb dX1_rankOf_1 (by decide) (fun c1 => ?_) (fun c1 => ?_)
  · replace hf := iq c1 hf
    refine lv_iload_n hx hb dX1_rankOf_22 rfl (lv_at hl 1 rfl) ?_
    refine lv_iload_n hx hb dX1_rankOf_23 rfl (lv_at hl 0 rfl) ?_
    refine lv_isub hx hb dX1_rankOf_24 ?_
    refine va_mabs hx hb (hX.1.2.2.1.trans hl.1.symm) hown (hts _ (List.mem_cons_of_mem _ wd487)) (hts _ (List.mem_cons_of_mem _ wd488)) (hts _ (List.mem_cons_of_mem _ wd20)) (hts _ (List.mem_cons_of_mem _ wd489)) (Nat.le_of_ble_eq_true rfl) (Nat.le_of_ble_eq_true rfl) (Nat.le_of_ble_eq_true rfl) (Nat.le_of_ble_eq_true rfl) dX1_rankOf_25 ?_
    refine lv_topi (fun v28 ev28 => ?_)
    replace hf := nm_s ev28 hf
    refine lv_istore_n (lv' := [(3, .int v28), (0, .int x0), (1, .int x1), (2, .int x2)]) hx hb dX1_rankOf_28 rfl hl (by decide) rfl (fun ls hl => ?_)
    refine lv_iload_n hx hb dX1_rankOf_29 rfl (lv_at hl 3 rfl) ?_
    refine lv_iconst (v := 1) hx hb dX1_rankOf_30 (by decide) ?_
    refine lv_icmp_ne (tgt := 38) hx hb dX1_rankOf_31 (by decide) (fun c31 => ?_) (fun c31 => ?_)
    · replace hf := iq c31 hf
      refine lv_iload_n hx hb dX1_rankOf_38 rfl (lv_at hl 0 rfl) ?_
      refine lv_ineg hx hb dX1_rankOf_39 ?_
      exact hRet _ _ _ _ _ _ _ hf rfl rfl hP hD hS dX1_rankOf_40
    · replace hf := ip c31 hf
      refine lv_iload_n hx hb dX1_rankOf_34 rfl (lv_at hl 0 rfl) ?_
      refine lv_goto (tgt := 40) hx hb dX1_rankOf_35 (by decide) ?_
      exact hRet _ _ _ _ _ _ _ hf rfl rfl hP hD hS dX1_rankOf_40
  · replace hf := ip c1 hf
    refine lv_iload_n hx hb dX1_rankOf_4 rfl (lv_at hl 1 rfl) ?_
    refine lv_iload_n hx hb dX1_rankOf_5 rfl (lv_at hl 0 rfl) ?_
    refine lv_icmp_le (tgt := 15) hx hb dX1_rankOf_6 (by decide) (fun c6 => ?_) (fun c6 => ?_)
    · replace hf := ip c6 hf
      refine lv_iload_n hx hb dX1_rankOf_15 rfl (lv_at hl 1 rfl) ?_
      refine lv_iload_n hx hb dX1_rankOf_16 rfl (lv_at hl 0 rfl) ?_
      refine lv_isub hx hb dX1_rankOf_17 ?_
      refine lv_bipush (v := 9) hx hb dX1_rankOf_18 (by decide) ?_
      refine lv_iadd hx hb dX1_rankOf_20 ?_
      exact hRet _ _ _ _ _ _ _ hf rfl rfl hP hD hS dX1_rankOf_21
    · replace hf := iq c6 hf
      refine lv_iload_n hx hb dX1_rankOf_9 rfl (lv_at hl 1 rfl) ?_
      refine lv_iload_n hx hb dX1_rankOf_10 rfl (lv_at hl 0 rfl) ?_
      refine lv_isub hx hb dX1_rankOf_11 ?_
      refine lv_goto (tgt := 21) hx hb dX1_rankOf_12 (by decide) ?_
      exact hRet _ _ _ _ _ _ _ hf rfl rfl hP hD hS dX1_rankOf_21
def f_X1_nextOf_b84 (N : Nat) (k23 : Int32 → Int32 → Int32 → Int32 → Int32 → Int32 → Int32 → Option (Int32)) (s_number : Int32) (s_facts : (Nat → Int32)) (x1 : Int32) (x2 : Int32) (x3 : Int32) (x4 : Int32) (x5 : Int32) (x6 : Int32) (x7 : Int32) : Option (Int32) :=
  k23 x1 x2 x3 x4 x5 x6 (x7 + (1 : Int32))
def f_X1_nextOf_b76 (N : Nat) (k23 : Int32 → Int32 → Int32 → Int32 → Int32 → Int32 → Int32 → Option (Int32)) (s_number : Int32) (s_facts : (Nat → Int32)) (x1 : Int32) (x2 : Int32) (x3 : Int32) (x4 : Int32) (x7 : Int32) (x8 : Int32) : Option (Int32) :=
  (f_X1_nextOf_b84 N k23 s_number s_facts) x1 x2 x3 x4 x7 x8 x7
def f_X1_nextOf_b23 (N : Nat) (s_number : Int32) (s_facts : (Nat → Int32)) : Nat → Int32 → Int32 → Int32 → Int32 → Int32 → Int32 → Int32 → Option (Int32)
  | 0, _, _, _, _, _, _, _ => none
  | n23 + 1, x1, x2, x3, x4, x5, x6, x7 => if s_number ≤ x7 then some (x5) else if ((x2 >>> (x7 &&& 31)) &&& (1 : Int32)) = 0 then if (p_X1_isAway s_number s_facts x7 (x3 + (1 : Int32))) = 0 then nm (p_X1_rankOf x1 x7 x4) (fun v61 => if x5 = (-1 : Int32) then (f_X1_nextOf_b76 N (f_X1_nextOf_b23 N s_number s_facts n23) s_number s_facts) x1 x2 x3 x4 x7 v61 else if x6 ≤ v61 then (f_X1_nextOf_b84 N (f_X1_nextOf_b23 N s_number s_facts n23) s_number s_facts) x1 x2 x3 x4 x5 x6 x7 else (f_X1_nextOf_b76 N (f_X1_nextOf_b23 N s_number s_facts n23) s_number s_facts) x1 x2 x3 x4 x7 v61) else (f_X1_nextOf_b84 N (f_X1_nextOf_b23 N s_number s_facts n23) s_number s_facts) x1 x2 x3 x4 x5 x6 x7 else (f_X1_nextOf_b84 N (f_X1_nextOf_b23 N s_number s_facts n23) s_number s_facts) x1 x2 x3 x4 x5 x6 x7
def f_X1_nextOf (N : Nat) (s_number : Int32) (s_facts : (Nat → Int32)) (x1 : Int32) (x2 : Int32) (x3 : Int32) (x4 : Int32) : Option (Int32) :=
  if ((p_X1_all s_number) &&& (x2 ^^^ (-1 : Int32))) = 0 then some ((-2 : Int32)) else (f_X1_nextOf_b23 N s_number s_facts N) x1 x2 x3 x4 (-1 : Int32) (0 : Int32) (0 : Int32)
abbrev rm_X1_nextOf : Room := { frames := 2, cells := 0, slots := 0, locals := 63 }
set_option maxHeartbeats 4000000 in
set_option maxRecDepth 100000 in
theorem c_X1_nextOf (l : Launch) (D : va_G) (cI cJ cR : ClassId) (N : Nat) (ad_s ad_s_facts : Nat) (s_number : Int32) (s_facts : (Nat → Int32)) (x1 : Int32) (x2 : Int32) (x3 : Int32) (x4 : Int32) {o : Int32} (hf : f_X1_nextOf N s_number s_facts x1 x2 x3 x4 = some o) : kMi l D (kT cI cJ cR) yX1_nextOf cX1_nextOf 9 (some .int) rm_X1_nextOf [.ref ad_s, .int x1, .int x2, .int x3, .int x4] [(ad_s, .inr (1, [.ref ad_s_facts, .int s_number])), (ad_s_facts, .inl (cI, 54, .inl s_facts))] (o) (fun w => w = [(ad_s, .inr (1, [.ref ad_s_facts, .int s_number])), (ad_s_facts, .inl (cI, 54, .inl s_facts))]) := by
  apply kInI (o := o)
  · decide
  · exact Nat.le_of_ble_eq_true rfl
  intro p e s m args below meth c A ls Q hX hRet hP hD hS hl
  have hx := hX.1.1
  have hb := hX.1.2.1
  have hown := hX.1.2.2.2.1
  have hts := hX.1.2.2.2.2
  have hl : lv_has ls 9 [(0, .ref ad_s), (1, .int x1), (2, .int x2), (3, .int x3), (4, .int x4)] := hl
  have hb23 : ∀ n23 : Nat, ∀ (H : Heap) (locs : List Loc) (x1 : Int32) (x2 : Int32) (x3 : Int32) (x4 : Int32) (x5 : Int32) (x6 : Int32) (x7 : Int32), va_P D vwCl [(ad_s, .inr (1, [.ref ad_s_facts, .int s_number])), (ad_s_facts, .inl (cI, 54, .inl s_facts))] H → va_D A [(ad_s, .inr (1, [.ref ad_s_facts, .int s_number])), (ad_s_facts, .inl (cI, 54, .inl s_facts))] → va_S A s.heap H locs → ∀ ls : Array Slot, lv_has ls 9 [(0, .ref ad_s), (1, .int x1), (2, .int x2), (3, .int x3), (4, .int x4), (5, .int x5), (6, .int x6), (7, .int x7)] → f_X1_nextOf_b23 N s_number s_facts n23 x1 x2 x3 x4 x5 x6 x7 = some o → W p l e rm_X1_nextOf s m args below meth c H locs 0 0 Q (F0 m 23 ls []) := by
    intro n23
    induction n23 with
    | zero =>
      intro H locs x1 x2 x3 x4 x5 x6 x7 hP hD hS ls hl hf
      rw [f_X1_nextOf_b23] at hf
      cases hf
    | succ n23 ih23 =>
      have hb84 : ∀ (H : Heap) (locs : List Loc) (x1 : Int32) (x2 : Int32) (x3 : Int32) (x4 : Int32) (x5 : Int32) (x6 : Int32) (x7 : Int32), va_P D vwCl [(ad_s, .inr (1, [.ref ad_s_facts, .int s_number])), (ad_s_facts, .inl (cI, 54, .inl s_facts))] H → va_D A [(ad_s, .inr (1, [.ref ad_s_facts, .int s_number])), (ad_s_facts, .inl (cI, 54, .inl s_facts))] → va_S A s.heap H locs → ∀ ls : Array Slot, lv_has ls 9 [(0, .ref ad_s), (1, .int x1), (2, .int x2), (3, .int x3), (4, .int x4), (5, .int x5), (6, .int x6), (7, .int x7)] → (f_X1_nextOf_b84 N (f_X1_nextOf_b23 N s_number s_facts n23) s_number s_facts) x1 x2 x3 x4 x5 x6 x7 = some o → W p l e rm_X1_nextOf s m args below meth c H locs 0 0 Q (F0 m 84 ls []) := by
        intro H locs x1 x2 x3 x4 x5 x6 x7 hP hD hS ls hl hf
        unfold f_X1_nextOf_b84 at hf
        refine lv_iinc (v := (x7 + (1 : Int32))) (lv' := [(7, .int (x7 + (1 : Int32))), (0, .ref ad_s), (1, .int x1), (2, .int x2), (3, .int x3), (4, .int x4), (5, .int x5), (6, .int x6)]) hx hb dX1_nextOf_84 hl (k := 7) rfl rfl (by decide) rfl (fun ls hl => ?_)
        refine lv_goto (tgt := 23) hx hb dX1_nextOf_87 (by decide) ?_
        exact ih23 _ _ x1 x2 x3 x4 x5 x6 (x7 + (1 : Int32)) hP hD hS _ (lv_sub hl [1, 2, 3, 4, 5, 6, 7, 0] rfl) hf
      have hb76 : ∀ (H : Heap) (locs : List Loc) (x1 : Int32) (x2 : Int32) (x3 : Int32) (x4 : Int32) (x7 : Int32) (x8 : Int32), va_P D vwCl [(ad_s, .inr (1, [.ref ad_s_facts, .int s_number])), (ad_s_facts, .inl (cI, 54, .inl s_facts))] H → va_D A [(ad_s, .inr (1, [.ref ad_s_facts, .int s_number])), (ad_s_facts, .inl (cI, 54, .inl s_facts))] → va_S A s.heap H locs → ∀ ls : Array Slot, lv_has ls 9 [(0, .ref ad_s), (1, .int x1), (2, .int x2), (3, .int x3), (4, .int x4), (7, .int x7), (8, .int x8)] → (f_X1_nextOf_b76 N (f_X1_nextOf_b23 N s_number s_facts n23) s_number s_facts) x1 x2 x3 x4 x7 x8 = some o → W p l e rm_X1_nextOf s m args below meth c H locs 0 0 Q (F0 m 76 ls []) := by
        intro H locs x1 x2 x3 x4 x7 x8 hP hD hS ls hl hf
        unfold f_X1_nextOf_b76 at hf
        refine lv_iload hx hb dX1_nextOf_76 (lv_at hl 5 rfl) ?_
        refine lv_istore (lv' := [(5, .int x7), (0, .ref ad_s), (1, .int x1), (2, .int x2), (3, .int x3), (4, .int x4), (7, .int x7), (8, .int x8)]) hx hb dX1_nextOf_78 hl (by decide) rfl (fun ls hl => ?_)
        refine lv_iload hx hb dX1_nextOf_80 (lv_at hl 7 rfl) ?_
        refine lv_istore (lv' := [(6, .int x8), (5, .int x7), (0, .ref ad_s), (1, .int x1), (2, .int x2), (3, .int x3), (4, .int x4), (7, .int x7), (8, .int x8)]) hx hb dX1_nextOf_82 hl (by decide) rfl (fun ls hl => ?_)
        exact hb84 _ _ x1 x2 x3 x4 x7 x8 x7 hP hD hS _ (lv_sub hl [2, 3, 4, 5, 6, 1, 0, 7] rfl) hf
      intro H locs x1 x2 x3 x4 x5 x6 x7 hP hD hS ls hl hf
      rw [f_X1_nextOf_b23] at hf
      refine lv_iload hx hb dX1_nextOf_23 (lv_at hl 7 rfl) ?_
      refine lv_aload_n hx hb dX1_nextOf_25 rfl (lv_at hl 0 rfl) ?_
      refine kget hX hP (q0 := 0) rfl rfl inX1 (k := 1) (by decide) rfl wd67 rfl dX1_nextOf_26 ?_
      refine lv_icmp_ge (tgt := 90) hx hb dX1_nextOf_29 (by decide) (fun c29 => ?_) (fun c29 => ?_)
      · replace hf := ip c29 hf
        refine lv_iload hx hb dX1_nextOf_90 (lv_at hl 5 rfl) ?_
        exact hRet _ _ _ _ _ _ _ (Option.some.inj hf) rfl rfl hP hD hS dX1_nextOf_92
      · replace hf := iq c29 hf
        refine lv_iload_n hx hb dX1_nextOf_32 rfl (lv_at hl 2 rfl) ?_
        refine lv_iload hx hb dX1_nextOf_33 (lv_at hl 7 rfl) ?_
        refine lv_ishr hx hb dX1_nextOf_35 ?_
        refine lv_iconst (v := 1) hx hb dX1_nextOf_36 (by decide) ?_
        refine lv_iand hx hb dX1_nextOf_37 ?_
        refine lv_if_ne (tgt := 84) hx hb dX1_nextOf_38 (by decide) (fun c38 => ?_) (fun c38 => ?_)
        · replace hf := iq c38 hf
          exact hb84 _ _ x1 x2 x3 x4 x5 x6 x7 hP hD hS _ (lv_sub hl [0, 1, 2, 3, 4, 5, 6, 7] rfl) hf
        · replace hf := ip c38 hf
          refine lv_aload_n hx hb dX1_nextOf_41 rfl (lv_at hl 0 rfl) ?_
          refine lv_iload hx hb dX1_nextOf_42 (lv_at hl 7 rfl) ?_
          refine lv_iload_n hx hb dX1_nextOf_44 rfl (lv_at hl 3 rfl) ?_
          refine lv_iconst (v := 1) hx hb dX1_nextOf_45 (by decide) ?_
          refine lv_iadd hx hb dX1_nextOf_46 ?_
          refine kVi (rest := []) hX (c_X1_isAway l D cI cJ cR ad_s ad_s_facts s_number s_facts x7 (x3 + (1 : Int32)) rfl) kc_X1_isAway wd483 ⟨Nat.le_of_ble_eq_true rfl, Nat.le_of_ble_eq_true rfl⟩ ⟨rfl, rfl⟩ hP hD hS (ci := 1) rfl rfl (q0 := 0) rfl [0, 1] rfl (by decide) (fun w h => by cases h; rfl) rfl rfl (Nat.le_of_ble_eq_true rfl) hl.1 ⟨Nat.zero_le _, Nat.zero_le _⟩ dX1_nextOf_47 (fun H locs w1 hw1 hP hD hS => ?_)
          cases hw1
          have hP : va_P D vwCl [(ad_s, .inr (1, [.ref ad_s_facts, .int s_number])), (ad_s_facts, .inl (cI, 54, .inl s_facts))] H := hP
          have hD : va_D A [(ad_s, .inr (1, [.ref ad_s_facts, .int s_number])), (ad_s_facts, .inl (cI, 54, .inl s_facts))] := hD
          refine lv_if_ne (tgt := 84) hx hb dX1_nextOf_50 (by decide) (fun c50 => ?_) (fun c50 => ?_)
          · replace hf := iq c50 hf
            exact hb84 _ _ x1 x2 x3 x4 x5 x6 x7 hP hD hS _ (lv_sub hl [0, 1, 2, 3, 4, 5, 6, 7] rfl) hf
          · replace hf := ip c50 hf
            refine lv_iload_n hx hb dX1_nextOf_53 rfl (lv_at hl 1 rfl) ?_
            refine lv_iload hx hb dX1_nextOf_54 (lv_at hl 7 rfl) ?_
            refine lv_iload hx hb dX1_nextOf_56 (lv_at hl 4 rfl) ?_
            refine kSi (rest := []) hX (c_X1_rankOf l D cI cJ cR x1 x7 x4 rfl) kc_X1_rankOf wd484 ⟨Nat.le_of_ble_eq_true rfl, Nat.le_of_ble_eq_true rfl⟩ ⟨rfl, rfl⟩ hP hD hS [] rfl (by decide) (fun w h => by cases h; rfl) rfl rfl (Nat.le_of_ble_eq_true rfl) hl.1 ⟨Nat.zero_le _, Nat.zero_le _⟩ dX1_nextOf_58 (fun H locs w1 hw1 hP hD hS => ?_)
            cases hw1
            have hP : va_P D vwCl [(ad_s, .inr (1, [.ref ad_s_facts, .int s_number])), (ad_s_facts, .inl (cI, 54, .inl s_facts))] H := hP
            have hD : va_D A [(ad_s, .inr (1, [.ref ad_s_facts, .int s_number])), (ad_s_facts, .inl (cI, 54, .inl s_facts))] := hD
            refine lv_topi (fun v61 ev61 => ?_)
            replace hf := nm_s ev61 hf
            refine lv_istore (lv' := [(8, .int v61), (0, .ref ad_s), (1, .int x1), (2, .int x2), (3, .int x3), (4, .int x4), (5, .int x5), (6, .int x6), (7, .int x7)]) hx hb dX1_nextOf_61 hl (by decide) rfl (fun ls hl => ?_)
            refine lv_iload hx hb dX1_nextOf_63 (lv_at hl 6 rfl) ?_
            refine lv_iconst (v := -1) hx hb dX1_nextOf_65 (by decide) ?_
            refine lv_icmp_eq (tgt := 76) hx hb dX1_nextOf_66 (by decide) (fun c66 => ?_) (fun c66 => ?_)
            · replace hf := ip c66 hf
              exact hb76 _ _ x1 x2 x3 x4 x7 v61 hP hD hS _ (lv_sub hl [1, 2, 3, 4, 5, 8, 0] rfl) hf
            · replace hf := iq c66 hf
              refine lv_iload hx hb dX1_nextOf_69 (lv_at hl 0 rfl) ?_
              refine lv_iload hx hb dX1_nextOf_71 (lv_at hl 7 rfl) ?_
              refine lv_icmp_ge (tgt := 84) hx hb dX1_nextOf_73 (by decide) (fun c73 => ?_) (fun c73 => ?_)
              · replace hf := ip c73 hf
                exact hb84 _ _ x1 x2 x3 x4 x5 x6 x7 hP hD hS _ (lv_sub hl [1, 2, 3, 4, 5, 6, 7, 8] rfl) hf
              · replace hf := iq c73 hf
                exact hb76 _ _ x1 x2 x3 x4 x7 v61 hP hD hS _ (lv_sub hl [1, 2, 3, 4, 5, 8, 0] rfl) hf
  unfold f_X1_nextOf at hf
  refine lv_aload_n hx hb dX1_nextOf_0 rfl (lv_at hl 0 rfl) ?_
  refine kVi (rest := []) hX (c_X1_all l D cI cJ cR ad_s ad_s_facts s_number rfl) kc_X1_all wd479 ⟨Nat.le_of_ble_eq_true rfl, Nat.le_of_ble_eq_true rfl⟩ ⟨rfl, rfl⟩ hP hD hS (ci := 1) rfl rfl (q0 := 0) rfl [0] rfl (by decide) (fun w h => by cases h; rfl) rfl rfl (Nat.le_of_ble_eq_true rfl) hl.1 ⟨Nat.zero_le _, Nat.zero_le _⟩ dX1_nextOf_1 (fun H locs w1 hw1 hP hD hS => ?_)
  cases hw1
  have hP : va_P D vwCl [(ad_s, .inr (1, [.ref ad_s_facts, .int s_number])), (ad_s_facts, .inl (cI, 54, .inl s_facts))] H := hP
  have hD : va_D A [(ad_s, .inr (1, [.ref ad_s_facts, .int s_number])), (ad_s_facts, .inl (cI, 54, .inl s_facts))] := hD
  refine lv_iload_n hx hb dX1_nextOf_4 rfl (lv_at hl 2 rfl) ?_
  refine lv_iconst (v := -1) hx hb dX1_nextOf_5 (by decide) ?_
  refine lv_ixor hx hb dX1_nextOf_6 ?_
  refine lv_iand hx hb dX1_nextOf_7 ?_
  refine lv_if_ne (tgt := 14) hx hb dX1_nextOf_8 (by decide) (fun c8 => ?_) (fun c8 => ?_)
  · replace hf := iq c8 hf
    refine lv_iconst (v := -1) hx hb dX1_nextOf_14 (by decide) ?_
    refine lv_istore (lv' := [(5, .int (-1 : Int32)), (0, .ref ad_s), (1, .int x1), (2, .int x2), (3, .int x3), (4, .int x4)]) hx hb dX1_nextOf_15 hl (by decide) rfl (fun ls hl => ?_)
    refine lv_iconst (v := 0) hx hb dX1_nextOf_17 (by decide) ?_
    refine lv_istore (lv' := [(6, .int (0 : Int32)), (5, .int (-1 : Int32)), (0, .ref ad_s), (1, .int x1), (2, .int x2), (3, .int x3), (4, .int x4)]) hx hb dX1_nextOf_18 hl (by decide) rfl (fun ls hl => ?_)
    refine lv_iconst (v := 0) hx hb dX1_nextOf_20 (by decide) ?_
    refine lv_istore (lv' := [(7, .int (0 : Int32)), (6, .int (0 : Int32)), (5, .int (-1 : Int32)), (0, .ref ad_s), (1, .int x1), (2, .int x2), (3, .int x3), (4, .int x4)]) hx hb dX1_nextOf_21 hl (by decide) rfl (fun ls hl => ?_)
    exact hb23 N _ _ x1 x2 x3 x4 (-1 : Int32) (0 : Int32) (0 : Int32) hP hD hS _ (lv_sub hl [3, 4, 5, 6, 7, 2, 1, 0] rfl) hf
  · replace hf := ip c8 hf
    refine lv_bipush (v := -2) hx hb dX1_nextOf_11 (by decide) ?_
    exact hRet _ _ _ _ _ _ _ (Option.some.inj hf) rfl rfl hP hD hS dX1_nextOf_13
def p_X1_figuresOf (x0 : Int32) : (Int32) :=
  if x0 = (2 : Int32) then ((4 : Int32)) else if x0 = (3 : Int32) then ((5 : Int32)) else ((3 : Int32))
abbrev rm_X1_figuresOf : Room := { frames := 0, cells := 0, slots := 0, locals := 0 }
set_option maxHeartbeats 4000000 in
set_option maxRecDepth 100000 in
theorem c_X1_figuresOf (l : Launch) (D : va_G) (cI cJ cR : ClassId) (x0 : Int32) {o : Int32} (hf : p_X1_figuresOf x0 = o) : kMi l D (kT cI cJ cR) yX1_figuresOf cX1_figuresOf 1 (some .int) rm_X1_figuresOf [.int x0] [] (o) (fun w => w = []) := by
  apply kInI (o := o)
  · decide
  · exact Nat.le_of_ble_eq_true rfl
  intro p e s m args below meth c A ls Q hX hRet hP hD hS hl
  have hx := hX.1.1
  have hb := hX.1.2.1
  have hown := hX.1.2.2.2.1
  have hts := hX.1.2.2.2.2
  have hl : lv_has ls 1 [(0, .int x0)] := hl
  unfold p_X1_figuresOf at hf
  refine lv_iload_n hx hb dX1_figuresOf_0 rfl (lv_at hl 0 rfl) ?_
  refine lv_iconst (v := 2) hx hb dX1_figuresOf_1 (by decide) ?_
  refine lv_icmp_ne (tgt := 7) hx hb dX1_figuresOf_2 (by decide) (fun c2 => ?_) (fun c2 => ?_)
  · replace hf := iq c2 hf
    refine lv_iload_n hx hb dX1_figuresOf_7 rfl (lv_at hl 0 rfl) ?_
    refine lv_iconst (v := 3) hx hb dX1_figuresOf_8 (by decide) ?_
    refine lv_icmp_ne (tgt := 16) hx hb dX1_figuresOf_9 (by decide) (fun c9 => ?_) (fun c9 => ?_)
    · replace hf := iq c9 hf
      refine lv_iconst (v := 3) hx hb dX1_figuresOf_16 (by decide) ?_
      exact hRet _ _ _ _ _ _ _ hf rfl rfl hP hD hS dX1_figuresOf_17
    · replace hf := ip c9 hf
      refine lv_iconst (v := 5) hx hb dX1_figuresOf_12 (by decide) ?_
      refine lv_goto (tgt := 17) hx hb dX1_figuresOf_13 (by decide) ?_
      exact hRet _ _ _ _ _ _ _ hf rfl rfl hP hD hS dX1_figuresOf_17
  · replace hf := ip c2 hf
    refine lv_iconst (v := 4) hx hb dX1_figuresOf_5 (by decide) ?_
    exact hRet _ _ _ _ _ _ _ hf rfl rfl hP hD hS dX1_figuresOf_6
def f_X1_kindOf_b2 (N : Nat) : Nat → Int32 → Int32 → Option (Int32)
  | 0, _, _ => none
  | n2 + 1, x0, x1 => if (6 : Int32) ≤ x1 then some ((-9 : Int32)) else gd (inb x1 6 = true) (if (lettersF x1.toNatClampNeg) = x0 then some (x1) else (f_X1_kindOf_b2 N n2) x0 (x1 + (1 : Int32)))
def f_X1_kindOf (N : Nat) (x0 : Int32) : Option (Int32) :=
  (f_X1_kindOf_b2 N N) x0 (0 : Int32)
abbrev rm_X1_kindOf : Room := { frames := 0, cells := 0, slots := 0, locals := 0 }
set_option maxHeartbeats 4000000 in
set_option maxRecDepth 100000 in
theorem c_X1_kindOf (l : Launch) (D : va_G) (cI cJ cR : ClassId) (N : Nat) (x0 : Int32) {o : Int32} (hf : f_X1_kindOf N x0 = some o) : kMi l D (kT cI cJ cR) yX1_kindOf cX1_kindOf 2 (some .int) rm_X1_kindOf [.int x0] [] (o) (fun w => w = []) := by
  apply kInI (o := o)
  · decide
  · exact Nat.le_of_ble_eq_true rfl
  intro p e s m args below meth c A ls Q hX hRet hP hD hS hl
  have hx := hX.1.1
  have hb := hX.1.2.1
  have hown := hX.1.2.2.2.1
  have hts := hX.1.2.2.2.2
  have hl : lv_has ls 2 [(0, .int x0)] := hl
  have hb2 : ∀ n2 : Nat, ∀ (H : Heap) (locs : List Loc) (x0 : Int32) (x1 : Int32), va_P D vwCl [] H → va_D A [] → va_S A s.heap H locs → ∀ ls : Array Slot, lv_has ls 2 [(0, .int x0), (1, .int x1)] → f_X1_kindOf_b2 N n2 x0 x1 = some o → W p l e rm_X1_kindOf s m args below meth c H locs 0 0 Q (F0 m 2 ls []) := by
    intro n2
    induction n2 with
    | zero =>
      intro H locs x0 x1 hP hD hS ls hl hf
      rw [f_X1_kindOf_b2] at hf
      cases hf
    | succ n2 ih2 =>
      intro H locs x0 x1 hP hD hS ls hl hf
      rw [f_X1_kindOf_b2] at hf
      refine lv_iload_n hx hb dX1_kindOf_2 rfl (lv_at hl 1 rfl) ?_
      refine klet hX hS rfl dX1_kindOf_3 (fun tL hT => ?_)
      refine va_tlen hx hb hT hS (v := 6) rfl dX1_kindOf_6 ?_
      refine lv_icmp_ge (tgt := 27) hx hb dX1_kindOf_7 (by decide) (fun c7 => ?_) (fun c7 => ?_)
      · replace hf := ip c7 hf
        refine lv_bipush (v := -9) hx hb dX1_kindOf_27 (by decide) ?_
        exact hRet _ _ _ _ _ _ _ (Option.some.inj hf) rfl rfl hP hD hS dX1_kindOf_29
      · replace hf := iq c7 hf
        refine klet hX hS rfl dX1_kindOf_10 (fun tL hT => ?_)
        refine lv_iload_n hx hb dX1_kindOf_13 rfl (lv_at hl 1 rfl) ?_
        obtain ⟨hg14_1, hf⟩ := gd_s hf
        refine va_ti hx hb hT hS (inb_in hg14_1) rfl dX1_kindOf_14 ?_
        refine lv_iload_n hx hb dX1_kindOf_15 rfl (lv_at hl 0 rfl) ?_
        refine lv_icmp_ne (tgt := 21) hx hb dX1_kindOf_16 (by decide) (fun c16 => ?_) (fun c16 => ?_)
        · replace hf := iq c16 hf
          refine lv_iinc (v := (x1 + (1 : Int32))) (lv' := [(1, .int (x1 + (1 : Int32))), (0, .int x0)]) hx hb dX1_kindOf_21 hl (k := 1) rfl rfl (by decide) rfl (fun ls hl => ?_)
          refine lv_goto (tgt := 2) hx hb dX1_kindOf_24 (by decide) ?_
          exact ih2 _ _ x0 (x1 + (1 : Int32)) hP hD hS _ (lv_sub hl [1, 0] rfl) hf
        · replace hf := ip c16 hf
          refine lv_iload_n hx hb dX1_kindOf_19 rfl (lv_at hl 1 rfl) ?_
          exact hRet _ _ _ _ _ _ _ (Option.some.inj hf) rfl rfl hP hD hS dX1_kindOf_20
  unfold f_X1_kindOf at hf
  refine lv_iconst (v := 0) hx hb dX1_kindOf_0 (by decide) ?_
  refine lv_istore_n (lv' := [(1, .int (0 : Int32)), (0, .int x0)]) hx hb dX1_kindOf_1 rfl hl (by decide) rfl (fun ls hl => ?_)
  exact hb2 N _ _ x0 (0 : Int32) hP hD hS _ (lv_sub hl [1, 0] rfl) hf
def p_X1_leastFigure_b12 (x1 : Int32) (x2 : Int32) : (Int32) :=
  if x1 = (5 : Int32) then (x2) else ((0 : Int32))
def p_X1_leastFigure (x0 : Int32) (x1 : Int32) (x2 : Int32) : (Int32) :=
  if x0 = (2 : Int32) then if x1 = (4 : Int32) then ((1 : Int32)) else (p_X1_leastFigure_b12) x1 x2 else (p_X1_leastFigure_b12) x1 x2
abbrev rm_X1_leastFigure : Room := { frames := 0, cells := 0, slots := 0, locals := 0 }
set_option maxHeartbeats 4000000 in
set_option maxRecDepth 100000 in
theorem c_X1_leastFigure (l : Launch) (D : va_G) (cI cJ cR : ClassId) (x0 : Int32) (x1 : Int32) (x2 : Int32) {o : Int32} (hf : p_X1_leastFigure x0 x1 x2 = o) : kMi l D (kT cI cJ cR) yX1_leastFigure cX1_leastFigure 3 (some .int) rm_X1_leastFigure [.int x0, .int x1, .int x2] [] (o) (fun w => w = []) := by
  apply kInI (o := o)
  · decide
  · exact Nat.le_of_ble_eq_true rfl
  intro p e s m args below meth c A ls Q hX hRet hP hD hS hl
  have hx := hX.1.1
  have hb := hX.1.2.1
  have hown := hX.1.2.2.2.1
  have hts := hX.1.2.2.2.2
  have hl : lv_has ls 3 [(0, .int x0), (1, .int x1), (2, .int x2)] := hl
  have hb12 : ∀ (H : Heap) (locs : List Loc) (x1 : Int32) (x2 : Int32), va_P D vwCl [] H → va_D A [] → va_S A s.heap H locs → ∀ ls : Array Slot, lv_has ls 3 [(1, .int x1), (2, .int x2)] → (p_X1_leastFigure_b12) x1 x2 = o → W p l e rm_X1_leastFigure s m args below meth c H locs 0 0 Q (F0 m 12 ls []) := by
    intro H locs x1 x2 hP hD hS ls hl hf
    unfold p_X1_leastFigure_b12 at hf
    refine lv_iload_n hx hb dX1_leastFigure_12 rfl (lv_at hl 0 rfl) ?_
    refine lv_iconst (v := 5) hx hb dX1_leastFigure_13 (by decide) ?_
    refine lv_icmp_ne (tgt := 21) hx hb dX1_leastFigure_14 (by decide) (fun c14 => ?_) (fun c14 => ?_)
    · replace hf := iq c14 hf
      refine lv_iconst (v := 0) hx hb dX1_leastFigure_21 (by decide) ?_
      exact hRet _ _ _ _ _ _ _ hf rfl rfl hP hD hS dX1_leastFigure_22
    · replace hf := ip c14 hf
      refine lv_iload_n hx hb dX1_leastFigure_17 rfl (lv_at hl 1 rfl) ?_
      refine lv_goto (tgt := 22) hx hb dX1_leastFigure_18 (by decide) ?_
      exact hRet _ _ _ _ _ _ _ hf rfl rfl hP hD hS dX1_leastFigure_22
  unfold p_X1_leastFigure at hf
  refine lv_iload_n hx hb dX1_leastFigure_0 rfl (lv_at hl 0 rfl) ?_
  refine lv_iconst (v := 2) hx hb dX1_leastFigure_1 (by decide) ?_
  refine lv_icmp_ne (tgt := 12) hx hb dX1_leastFigure_2 (by decide) (fun c2 => ?_) (fun c2 => ?_)
  · replace hf := iq c2 hf
    exact hb12 _ _ x1 x2 hP hD hS _ (lv_sub hl [1, 2] rfl) hf
  · replace hf := ip c2 hf
    refine lv_iload_n hx hb dX1_leastFigure_5 rfl (lv_at hl 1 rfl) ?_
    refine lv_iconst (v := 4) hx hb dX1_leastFigure_6 (by decide) ?_
    refine lv_icmp_ne (tgt := 12) hx hb dX1_leastFigure_7 (by decide) (fun c7 => ?_) (fun c7 => ?_)
    · replace hf := iq c7 hf
      exact hb12 _ _ x1 x2 hP hD hS _ (lv_sub hl [1, 2] rfl) hf
    · replace hf := ip c7 hf
      refine lv_iconst (v := 1) hx hb dX1_leastFigure_10 (by decide) ?_
      exact hRet _ _ _ _ _ _ _ hf rfl rfl hP hD hS dX1_leastFigure_11
def p_X7_sizeOf (nS : Nat) (s_sizes : (Nat → Int32)) (x1 : Int32) : (Int32) :=
  if x1 < 0 then ((-1 : Int32)) else if (Int32.ofNat nS) ≤ x1 then ((-1 : Int32)) else ((s_sizes x1.toNatClampNeg))
abbrev rm_X7_sizeOf : Room := { frames := 0, cells := 0, slots := 0, locals := 0 }
set_option maxHeartbeats 4000000 in
set_option maxRecDepth 100000 in
theorem c_X7_sizeOf (l : Launch) (D : va_G) (cI cJ cR : ClassId) (ad_s ad_s_sizes ad_s_cells : Nat) (nS : Nat) (h_nS : nS < 2147483648) (s_places : Int32) (s_sizes : (Nat → Int32)) (x1 : Int32) {o : Int32} (hf : p_X7_sizeOf nS s_sizes x1 = o) : kMi l D (kT cI cJ cR) yX7_sizeOf cX7_sizeOf 2 (some .int) rm_X7_sizeOf [.ref ad_s, .int x1] [(ad_s, .inr (7, [.int s_places, .ref ad_s_sizes, .ref ad_s_cells])), (ad_s_sizes, .inl (cI, nS, .inl s_sizes))] (o) (fun w => w = [(ad_s, .inr (7, [.int s_places, .ref ad_s_sizes, .ref ad_s_cells])), (ad_s_sizes, .inl (cI, nS, .inl s_sizes))]) := by
  apply kInI (o := o)
  · decide
  · exact Nat.le_of_ble_eq_true rfl
  intro p e s m args below meth c A ls Q hX hRet hP hD hS hl
  have hx := hX.1.1
  have hb := hX.1.2.1
  have hown := hX.1.2.2.2.1
  have hts := hX.1.2.2.2.2
  have hl : lv_has ls 2 [(0, .ref ad_s), (1, .int x1)] := hl
  unfold p_X7_sizeOf at hf
  refine lv_iload_n hx hb dX7_sizeOf_0 rfl (lv_at hl 1 rfl) ?_
  refine lv_if_lt (tgt := 22) hx hb dX7_sizeOf_1 (by decide) (fun c1 => ?_) (fun c1 => ?_)
  · replace hf := ip c1 hf
    refine lv_iconst (v := -1) hx hb dX7_sizeOf_22 (by decide) ?_
    exact hRet _ _ _ _ _ _ _ hf rfl rfl hP hD hS dX7_sizeOf_23
  · replace hf := iq c1 hf
    refine lv_iload_n hx hb dX7_sizeOf_4 rfl (lv_at hl 1 rfl) ?_
    refine lv_aload_n hx hb dX7_sizeOf_5 rfl (lv_at hl 0 rfl) ?_
    refine kget hX hP (q0 := 0) rfl rfl inX7 (k := 1) (by decide) rfl wd50 rfl dX7_sizeOf_6 ?_
    refine kalen hX hP (t0 := 0) rfl (q0 := 1) rfl (v := (Int32.ofNat nS)) rfl dX7_sizeOf_9 ?_
    refine lv_icmp_ge (tgt := 22) hx hb dX7_sizeOf_10 (by decide) (fun c10 => ?_) (fun c10 => ?_)
    · replace hf := ip c10 hf
      refine lv_iconst (v := -1) hx hb dX7_sizeOf_22 (by decide) ?_
      exact hRet _ _ _ _ _ _ _ hf rfl rfl hP hD hS dX7_sizeOf_23
    · replace hf := iq c10 hf
      refine lv_aload_n hx hb dX7_sizeOf_13 rfl (lv_at hl 0 rfl) ?_
      refine kget hX hP (q0 := 0) rfl rfl inX7 (k := 1) (by decide) rfl wd50 rfl dX7_sizeOf_14 ?_
      refine lv_iload_n hx hb dX7_sizeOf_17 rfl (lv_at hl 1 rfl) ?_
      refine kiald hX hP rfl (q0 := 1) rfl (vpi h_nS c1 c10) dX7_sizeOf_18 ?_
      refine lv_goto (tgt := 23) hx hb dX7_sizeOf_19 (by decide) ?_
      exact hRet _ _ _ _ _ _ _ hf rfl rfl hP hD hS dX7_sizeOf_23
def p_X7_hasPlace (nS : Nat) (s_sizes : (Nat → Int32)) (x1 : Int32) (x2 : Int32) : (Int32) :=
  if x2 < 0 then ((0 : Int32)) else if (p_X7_sizeOf nS s_sizes x1) ≤ x2 then ((0 : Int32)) else ((1 : Int32))
theorem zb_X7_hasPlace (nS : Nat) (s_sizes : (Nat → Int32)) (x1 : Int32) (x2 : Int32) : p_X7_hasPlace nS s_sizes x1 x2 = 0 ∨ p_X7_hasPlace nS s_sizes x1 x2 = 1 := by
  unfold p_X7_hasPlace
  try dsimp only [nm]
  repeat' first | apply zb_ite | exact Or.inl rfl | exact Or.inr rfl
abbrev rm_X7_hasPlace : Room := { frames := 1, cells := 0, slots := 0, locals := 21 }
set_option maxHeartbeats 4000000 in
set_option maxRecDepth 100000 in
theorem c_X7_hasPlace (l : Launch) (D : va_G) (cI cJ cR : ClassId) (ad_s ad_s_sizes ad_s_cells : Nat) (nS : Nat) (h_nS : nS < 2147483648) (s_places : Int32) (s_sizes : (Nat → Int32)) (x1 : Int32) (x2 : Int32) {o : Int32} (hf : p_X7_hasPlace nS s_sizes x1 x2 = o) : kMi l D (kT cI cJ cR) yX7_hasPlace cX7_hasPlace 3 (some .boolean) rm_X7_hasPlace [.ref ad_s, .int x1, .int x2] [(ad_s, .inr (7, [.int s_places, .ref ad_s_sizes, .ref ad_s_cells])), (ad_s_sizes, .inl (cI, nS, .inl s_sizes))] (o) (fun w => w = [(ad_s, .inr (7, [.int s_places, .ref ad_s_sizes, .ref ad_s_cells])), (ad_s_sizes, .inl (cI, nS, .inl s_sizes))]) := by
  apply kInZ (o := o)
  · decide
  · exact Nat.le_of_ble_eq_true rfl
  intro p e s m args below meth c A ls Q hX hRet hP hD hS hl
  have hx := hX.1.1
  have hb := hX.1.2.1
  have hown := hX.1.2.2.2.1
  have hts := hX.1.2.2.2.2
  have hl : lv_has ls 3 [(0, .ref ad_s), (1, .int x1), (2, .int x2)] := hl
  unfold p_X7_hasPlace at hf
  refine lv_iload_n hx hb dX7_hasPlace_0 rfl (lv_at hl 2 rfl) ?_
  refine lv_if_lt (tgt := 17) hx hb dX7_hasPlace_1 (by decide) (fun c1 => ?_) (fun c1 => ?_)
  · replace hf := ip c1 hf
    refine lv_iconst (v := 0) hx hb dX7_hasPlace_17 (by decide) ?_
    exact hRet _ _ _ _ _ _ _ hf rfl rfl rfl hP hD hS dX7_hasPlace_18
  · replace hf := iq c1 hf
    refine lv_iload_n hx hb dX7_hasPlace_4 rfl (lv_at hl 2 rfl) ?_
    refine lv_aload_n hx hb dX7_hasPlace_5 rfl (lv_at hl 0 rfl) ?_
    refine lv_iload_n hx hb dX7_hasPlace_6 rfl (lv_at hl 1 rfl) ?_
    refine kVi (rest := [.int x2]) hX (c_X7_sizeOf l D cI cJ cR ad_s ad_s_sizes ad_s_cells nS h_nS s_places s_sizes x1 rfl) kc_X7_sizeOf wd396 ⟨Nat.le_of_ble_eq_true rfl, Nat.le_of_ble_eq_true rfl⟩ ⟨rfl, rfl⟩ hP hD hS (ci := 7) rfl rfl (q0 := 0) rfl [0, 1] rfl (by decide) (fun w h => by cases h; rfl) rfl rfl (Nat.le_of_ble_eq_true rfl) hl.1 ⟨Nat.zero_le _, Nat.zero_le _⟩ dX7_hasPlace_7 (fun H locs w1 hw1 hP hD hS => ?_)
    cases hw1
    have hP : va_P D vwCl [(ad_s, .inr (7, [.int s_places, .ref ad_s_sizes, .ref ad_s_cells])), (ad_s_sizes, .inl (cI, nS, .inl s_sizes))] H := hP
    have hD : va_D A [(ad_s, .inr (7, [.int s_places, .ref ad_s_sizes, .ref ad_s_cells])), (ad_s_sizes, .inl (cI, nS, .inl s_sizes))] := hD
    refine lv_icmp_ge (tgt := 17) hx hb dX7_hasPlace_10 (by decide) (fun c10 => ?_) (fun c10 => ?_)
    · replace hf := ip c10 hf
      refine lv_iconst (v := 0) hx hb dX7_hasPlace_17 (by decide) ?_
      exact hRet _ _ _ _ _ _ _ hf rfl rfl rfl hP hD hS dX7_hasPlace_18
    · replace hf := iq c10 hf
      refine lv_iconst (v := 1) hx hb dX7_hasPlace_13 (by decide) ?_
      refine lv_goto (tgt := 18) hx hb dX7_hasPlace_14 (by decide) ?_
      exact hRet _ _ _ _ _ _ _ hf rfl rfl rfl hP hD hS dX7_hasPlace_18
def p_X7_cell (nS : Nat) (nC : Nat) (s_places : Int32) (s_sizes : (Nat → Int32)) (s_cells : (Nat → Int32)) (x1 : Int32) (x2 : Int32) : (Int32) :=
  nm ((x1 * s_places) + x2) (fun v8 => if (p_X7_hasPlace nS s_sizes x1 x2) = 0 then ((0 : Int32)) else if v8 < 0 then ((0 : Int32)) else if (Int32.ofNat nC) ≤ v8 then ((0 : Int32)) else ((s_cells v8.toNatClampNeg)))
abbrev rm_X7_cell : Room := { frames := 2, cells := 0, slots := 0, locals := 43 }
set_option maxHeartbeats 4000000 in
set_option maxRecDepth 100000 in
theorem c_X7_cell (l : Launch) (D : va_G) (cI cJ cR : ClassId) (ad_s ad_s_sizes ad_s_cells : Nat) (nS : Nat) (nC : Nat) (h_nS : nS < 2147483648) (h_nC : nC < 2147483648) (s_places : Int32) (s_sizes : (Nat → Int32)) (s_cells : (Nat → Int32)) (x1 : Int32) (x2 : Int32) {o : Int32} (hf : p_X7_cell nS nC s_places s_sizes s_cells x1 x2 = o) : kMi l D (kT cI cJ cR) yX7_cell cX7_cell 4 (some .int) rm_X7_cell [.ref ad_s, .int x1, .int x2] [(ad_s, .inr (7, [.int s_places, .ref ad_s_sizes, .ref ad_s_cells])), (ad_s_sizes, .inl (cI, nS, .inl s_sizes)), (ad_s_cells, .inl (cI, nC, .inl s_cells))] (o) (fun w => w = [(ad_s, .inr (7, [.int s_places, .ref ad_s_sizes, .ref ad_s_cells])), (ad_s_sizes, .inl (cI, nS, .inl s_sizes)), (ad_s_cells, .inl (cI, nC, .inl s_cells))]) := by
  apply kInI (o := o)
  · decide
  · exact Nat.le_of_ble_eq_true rfl
  intro p e s m args below meth c A ls Q hX hRet hP hD hS hl
  have hx := hX.1.1
  have hb := hX.1.2.1
  have hown := hX.1.2.2.2.1
  have hts := hX.1.2.2.2.2
  have hl : lv_has ls 4 [(0, .ref ad_s), (1, .int x1), (2, .int x2)] := hl
  unfold p_X7_cell at hf
  refine lv_iload_n hx hb dX7_cell_0 rfl (lv_at hl 1 rfl) ?_
  refine lv_aload_n hx hb dX7_cell_1 rfl (lv_at hl 0 rfl) ?_
  refine kget hX hP (q0 := 0) rfl rfl inX7 (k := 0) (by decide) rfl wd49 rfl dX7_cell_2 ?_
  refine lv_imul hx hb dX7_cell_5 ?_
  refine lv_iload_n hx hb dX7_cell_6 rfl (lv_at hl 2 rfl) ?_
  refine lv_iadd hx hb dX7_cell_7 ?_
  refine lv_topi (fun v8 ev8 => ?_)
  replace hf := nm_s ev8 hf
  refine lv_istore_n (lv' := [(3, .int v8), (0, .ref ad_s), (1, .int x1), (2, .int x2)]) hx hb dX7_cell_8 rfl hl (by decide) rfl (fun ls hl => ?_)
  refine lv_aload_n hx hb dX7_cell_9 rfl (lv_at hl 1 rfl) ?_
  refine lv_iload_n hx hb dX7_cell_10 rfl (lv_at hl 2 rfl) ?_
  refine lv_iload_n hx hb dX7_cell_11 rfl (lv_at hl 3 rfl) ?_
  refine kVi (rest := []) hX (c_X7_hasPlace l D cI cJ cR ad_s ad_s_sizes ad_s_cells nS h_nS s_places s_sizes x1 x2 rfl) kc_X7_hasPlace wd392 ⟨Nat.le_of_ble_eq_true rfl, Nat.le_of_ble_eq_true rfl⟩ ⟨rfl, rfl⟩ hP hD hS (ci := 7) rfl rfl (q0 := 0) rfl [0, 1] rfl (by decide) (fun w h => by cases h; rfl) rfl rfl (Nat.le_of_ble_eq_true rfl) hl.1 ⟨Nat.zero_le _, Nat.zero_le _⟩ dX7_cell_12 (fun H locs w1 hw1 hP hD hS => ?_)
  cases hw1
  have hP : va_P D vwCl [(ad_s, .inr (7, [.int s_places, .ref ad_s_sizes, .ref ad_s_cells])), (ad_s_sizes, .inl (cI, nS, .inl s_sizes)), (ad_s_cells, .inl (cI, nC, .inl s_cells))] H := hP
  have hD : va_D A [(ad_s, .inr (7, [.int s_places, .ref ad_s_sizes, .ref ad_s_cells])), (ad_s_sizes, .inl (cI, nS, .inl s_sizes)), (ad_s_cells, .inl (cI, nC, .inl s_cells))] := hD
  refine lv_if_eq (tgt := 40) hx hb dX7_cell_15 (by decide) (fun c15 => ?_) (fun c15 => ?_)
  · replace hf := ip c15 hf
    refine lv_iconst (v := 0) hx hb dX7_cell_40 (by decide) ?_
    exact hRet _ _ _ _ _ _ _ hf rfl rfl hP hD hS dX7_cell_41
  · replace hf := iq c15 hf
    refine lv_iload_n hx hb dX7_cell_18 rfl (lv_at hl 0 rfl) ?_
    refine lv_if_lt (tgt := 40) hx hb dX7_cell_19 (by decide) (fun c19 => ?_) (fun c19 => ?_)
    · replace hf := ip c19 hf
      refine lv_iconst (v := 0) hx hb dX7_cell_40 (by decide) ?_
      exact hRet _ _ _ _ _ _ _ hf rfl rfl hP hD hS dX7_cell_41
    · replace hf := iq c19 hf
      refine lv_iload_n hx hb dX7_cell_22 rfl (lv_at hl 0 rfl) ?_
      refine lv_aload_n hx hb dX7_cell_23 rfl (lv_at hl 1 rfl) ?_
      refine kget hX hP (q0 := 0) rfl rfl inX7 (k := 2) (by decide) rfl wd51 rfl dX7_cell_24 ?_
      refine kalen hX hP (t0 := 0) rfl (q0 := 2) rfl (v := (Int32.ofNat nC)) rfl dX7_cell_27 ?_
      refine lv_icmp_ge (tgt := 40) hx hb dX7_cell_28 (by decide) (fun c28 => ?_) (fun c28 => ?_)
      · replace hf := ip c28 hf
        refine lv_iconst (v := 0) hx hb dX7_cell_40 (by decide) ?_
        exact hRet _ _ _ _ _ _ _ hf rfl rfl hP hD hS dX7_cell_41
      · replace hf := iq c28 hf
        refine lv_aload_n hx hb dX7_cell_31 rfl (lv_at hl 1 rfl) ?_
        refine kget hX hP (q0 := 0) rfl rfl inX7 (k := 2) (by decide) rfl wd51 rfl dX7_cell_32 ?_
        refine lv_iload_n hx hb dX7_cell_35 rfl (lv_at hl 0 rfl) ?_
        refine kiald hX hP rfl (q0 := 2) rfl (vpi h_nC c19 c28) dX7_cell_36 ?_
        refine lv_goto (tgt := 41) hx hb dX7_cell_37 (by decide) ?_
        exact hRet _ _ _ _ _ _ _ hf rfl rfl hP hD hS dX7_cell_41
def f_X1_readDesk_b39 (N : Nat) (nS_q1 : Nat) (nC_q1 : Nat) (q1_places : Int32) (q1_sizes : (Nat → Int32)) (q1_cells : (Nat → Int32)) : Nat → Int32 → (Nat → Int32) → Int32 → Int32 → Int32 → Int32 → Int32 → Option (Int32 × Int32 × (Nat → Int32))
  | 0, _, _, _, _, _, _, _ => none
  | n39 + 1, s_number, s_facts, x2, x3, x4, x5, x6 => if (p_X1_figuresOf x4) < x6 then some ((-9 : Int32), (s_number + (1 : Int32)), s_facts) else if (p_X7_hasPlace nS_q1 q1_sizes x2 (x3 + x6)) = 0 then some ((p_X7_sizeOf nS_q1 q1_sizes x2), s_number, s_facts) else nm ((p_X7_cell nS_q1 nC_q1 q1_places q1_sizes q1_cells x2 (x3 + x6)) - (48 : Int32)) (fun v79 => if v79 < (p_X1_leastFigure x4 x6 x5) then some ((x3 + x6), s_number, s_facts) else if v79 ≤ (9 : Int32) then nm (p_X1_setFact s_facts s_number x6 v79) (fun z116_1 => (f_X1_readDesk_b39 N nS_q1 nC_q1 q1_places q1_sizes q1_cells n39) s_number z116_1 x2 x3 x4 v79 (x6 + (1 : Int32))) else some ((x3 + x6), s_number, s_facts))
def f_X1_readDesk (N : Nat) (nS_q1 : Nat) (nC_q1 : Nat) (q1_places : Int32) (q1_sizes : (Nat → Int32)) (q1_cells : (Nat → Int32)) (s_number : Int32) (s_facts : (Nat → Int32)) (x2 : Int32) (x3 : Int32) (x4 : Int32) : Option (Int32 × Int32 × (Nat → Int32)) :=
  nm (p_X1_setFact s_facts s_number (0 : Int32) x4) (fun z8_1 => nm (p_X1_setFact z8_1 s_number (4 : Int32) (-9 : Int32)) (fun z19_2 => nm (p_X1_setFact z19_2 s_number (5 : Int32) (-9 : Int32)) (fun z30_3 => (f_X1_readDesk_b39 N nS_q1 nC_q1 q1_places q1_sizes q1_cells N) s_number z30_3 x2 x3 x4 (0 : Int32) (1 : Int32))))
abbrev rm_X1_readDesk : Room := { frames := 3, cells := 0, slots := 0, locals := 66 }
set_option maxHeartbeats 4000000 in
set_option maxRecDepth 100000 in
theorem c_X1_readDesk (l : Launch) (D : va_G) (cI cJ cR : ClassId) (N : Nat) (ad_s ad_s_facts ad_q1 ad_q1_sizes ad_q1_cells : Nat) (nS_q1 : Nat) (nC_q1 : Nat) (h_nS_q1 : nS_q1 < 2147483648) (h_nC_q1 : nC_q1 < 2147483648) (s_number : Int32) (s_facts : (Nat → Int32)) (q1_places : Int32) (q1_sizes : (Nat → Int32)) (q1_cells : (Nat → Int32)) (x2 : Int32) (x3 : Int32) (x4 : Int32) {o : Int32 × Int32 × (Nat → Int32)} (hf : f_X1_readDesk N nS_q1 nC_q1 q1_places q1_sizes q1_cells s_number s_facts x2 x3 x4 = some o) : kMi l D (kT cI cJ cR) yX1_readDesk cX1_readDesk 8 (some .int) rm_X1_readDesk [.ref ad_s, .ref ad_q1, .int x2, .int x3, .int x4] [(ad_s, .inr (1, [.ref ad_s_facts, .int s_number])), (ad_s_facts, .inl (cI, 54, .inl s_facts)), (ad_q1, .inr (7, [.int q1_places, .ref ad_q1_sizes, .ref ad_q1_cells])), (ad_q1_sizes, .inl (cI, nS_q1, .inl q1_sizes)), (ad_q1_cells, .inl (cI, nC_q1, .inl q1_cells))] (o.1) (fun w => w = [(ad_s, .inr (1, [.ref ad_s_facts, .int o.2.1])), (ad_s_facts, .inl (cI, 54, .inl o.2.2)), (ad_q1, .inr (7, [.int q1_places, .ref ad_q1_sizes, .ref ad_q1_cells])), (ad_q1_sizes, .inl (cI, nS_q1, .inl q1_sizes)), (ad_q1_cells, .inl (cI, nC_q1, .inl q1_cells))]) := by
  apply kInI (o := o)
  · decide
  · exact Nat.le_of_ble_eq_true rfl
  intro p e s m args below meth c A ls Q hX hRet hP hD hS hl
  have hx := hX.1.1
  have hb := hX.1.2.1
  have hown := hX.1.2.2.2.1
  have hts := hX.1.2.2.2.2
  have hl : lv_has ls 8 [(0, .ref ad_s), (1, .ref ad_q1), (2, .int x2), (3, .int x3), (4, .int x4)] := hl
  have hb39 : ∀ n39 : Nat, ∀ (H : Heap) (locs : List Loc) (s_number : Int32) (s_facts : (Nat → Int32)) (x2 : Int32) (x3 : Int32) (x4 : Int32) (x5 : Int32) (x6 : Int32), va_P D vwCl [(ad_s, .inr (1, [.ref ad_s_facts, .int s_number])), (ad_s_facts, .inl (cI, 54, .inl s_facts)), (ad_q1, .inr (7, [.int q1_places, .ref ad_q1_sizes, .ref ad_q1_cells])), (ad_q1_sizes, .inl (cI, nS_q1, .inl q1_sizes)), (ad_q1_cells, .inl (cI, nC_q1, .inl q1_cells))] H → va_D A [(ad_s, .inr (1, [.ref ad_s_facts, .int s_number])), (ad_s_facts, .inl (cI, 54, .inl s_facts)), (ad_q1, .inr (7, [.int q1_places, .ref ad_q1_sizes, .ref ad_q1_cells])), (ad_q1_sizes, .inl (cI, nS_q1, .inl q1_sizes)), (ad_q1_cells, .inl (cI, nC_q1, .inl q1_cells))] → va_S A s.heap H locs → ∀ ls : Array Slot, lv_has ls 8 [(0, .ref ad_s), (1, .ref ad_q1), (2, .int x2), (3, .int x3), (4, .int x4), (5, .int x5), (6, .int x6)] → f_X1_readDesk_b39 N nS_q1 nC_q1 q1_places q1_sizes q1_cells n39 s_number s_facts x2 x3 x4 x5 x6 = some o → W p l e rm_X1_readDesk s m args below meth c H locs 0 0 Q (F0 m 39 ls []) := by
    intro n39
    induction n39 with
    | zero =>
      intro H locs s_number s_facts x2 x3 x4 x5 x6 hP hD hS ls hl hf
      rw [f_X1_readDesk_b39] at hf
      cases hf
    | succ n39 ih39 =>
      intro H locs s_number s_facts x2 x3 x4 x5 x6 hP hD hS ls hl hf
      rw [f_X1_readDesk_b39] at hf
      refine lv_iload hx hb dX1_readDesk_39 (lv_at hl 6 rfl) ?_
      refine lv_iload hx hb dX1_readDesk_41 (lv_at hl 4 rfl) ?_
      refine kSi (rest := [.int x6]) hX (c_X1_figuresOf l D cI cJ cR x4 rfl) kc_X1_figuresOf wd980 ⟨Nat.le_of_ble_eq_true rfl, Nat.le_of_ble_eq_true rfl⟩ ⟨rfl, rfl⟩ hP hD hS [] rfl (by decide) (fun w h => by cases h; rfl) rfl rfl (Nat.le_of_ble_eq_true rfl) hl.1 ⟨Nat.zero_le _, Nat.zero_le _⟩ dX1_readDesk_43 (fun H locs w1 hw1 hP hD hS => ?_)
      cases hw1
      have hP : va_P D vwCl [(ad_s, .inr (1, [.ref ad_s_facts, .int s_number])), (ad_s_facts, .inl (cI, 54, .inl s_facts)), (ad_q1, .inr (7, [.int q1_places, .ref ad_q1_sizes, .ref ad_q1_cells])), (ad_q1_sizes, .inl (cI, nS_q1, .inl q1_sizes)), (ad_q1_cells, .inl (cI, nC_q1, .inl q1_cells))] H := hP
      have hD : va_D A [(ad_s, .inr (1, [.ref ad_s_facts, .int s_number])), (ad_s_facts, .inl (cI, 54, .inl s_facts)), (ad_q1, .inr (7, [.int q1_places, .ref ad_q1_sizes, .ref ad_q1_cells])), (ad_q1_sizes, .inl (cI, nS_q1, .inl q1_sizes)), (ad_q1_cells, .inl (cI, nC_q1, .inl q1_cells))] := hD
      refine lv_icmp_gt (tgt := 129) hx hb dX1_readDesk_46 (by decide) (fun c46 => ?_) (fun c46 => ?_)
      · replace hf := ip c46 hf
        refine lv_aload_n hx hb dX1_readDesk_129 rfl (lv_at hl 0 rfl) ?_
        refine lv_dup hx hb dX1_readDesk_130 rfl ?_
        refine kget hX hP (q0 := 0) rfl rfl inX1 (k := 1) (by decide) rfl wd67 rfl dX1_readDesk_131 ?_
        refine lv_iconst (v := 1) hx hb dX1_readDesk_134 (by decide) ?_
        refine lv_iadd hx hb dX1_readDesk_135 ?_
        refine kput hX hP hD hS (q0 := 0) rfl rfl inX1 tyX1_ok nmX1 (k := 1) (by decide) rfl wd67 rfl rfl (Nat.le_of_ble_eq_true rfl) dX1_readDesk_136 (fun H locs hP hD hS => ?_)
        refine lv_bipush (v := -9) hx hb dX1_readDesk_139 (by decide) ?_
        exact hRet _ _ _ _ _ _ _ (Option.some.inj hf) rfl rfl hP hD hS dX1_readDesk_141
      · replace hf := iq c46 hf
        refine lv_aload_n hx hb dX1_readDesk_49 rfl (lv_at hl 1 rfl) ?_
        refine lv_iload_n hx hb dX1_readDesk_50 rfl (lv_at hl 2 rfl) ?_
        refine lv_iload_n hx hb dX1_readDesk_51 rfl (lv_at hl 3 rfl) ?_
        refine lv_iload hx hb dX1_readDesk_52 (lv_at hl 6 rfl) ?_
        refine lv_iadd hx hb dX1_readDesk_54 ?_
        refine kVi (rest := []) hX (c_X7_hasPlace l D cI cJ cR ad_q1 ad_q1_sizes ad_q1_cells nS_q1 h_nS_q1 q1_places q1_sizes x2 (x3 + x6) rfl) kc_X7_hasPlace wd983 ⟨Nat.le_of_ble_eq_true rfl, Nat.le_of_ble_eq_true rfl⟩ ⟨rfl, rfl⟩ hP hD hS (ci := 7) rfl rfl (q0 := 2) rfl [2, 3] rfl (by decide) (fun w h => by cases h; rfl) rfl rfl (Nat.le_of_ble_eq_true rfl) hl.1 ⟨Nat.zero_le _, Nat.zero_le _⟩ dX1_readDesk_55 (fun H locs w1 hw1 hP hD hS => ?_)
        cases hw1
        have hP : va_P D vwCl [(ad_s, .inr (1, [.ref ad_s_facts, .int s_number])), (ad_s_facts, .inl (cI, 54, .inl s_facts)), (ad_q1, .inr (7, [.int q1_places, .ref ad_q1_sizes, .ref ad_q1_cells])), (ad_q1_sizes, .inl (cI, nS_q1, .inl q1_sizes)), (ad_q1_cells, .inl (cI, nC_q1, .inl q1_cells))] H := hP
        have hD : va_D A [(ad_s, .inr (1, [.ref ad_s_facts, .int s_number])), (ad_s_facts, .inl (cI, 54, .inl s_facts)), (ad_q1, .inr (7, [.int q1_places, .ref ad_q1_sizes, .ref ad_q1_cells])), (ad_q1_sizes, .inl (cI, nS_q1, .inl q1_sizes)), (ad_q1_cells, .inl (cI, nC_q1, .inl q1_cells))] := hD
        refine lv_if_ne (tgt := 67) hx hb dX1_readDesk_58 (by decide) (fun c58 => ?_) (fun c58 => ?_)
        · replace hf := iq c58 hf
          refine lv_aload_n hx hb dX1_readDesk_67 rfl (lv_at hl 1 rfl) ?_
          refine lv_iload_n hx hb dX1_readDesk_68 rfl (lv_at hl 2 rfl) ?_
          refine lv_iload_n hx hb dX1_readDesk_69 rfl (lv_at hl 3 rfl) ?_
          refine lv_iload hx hb dX1_readDesk_70 (lv_at hl 6 rfl) ?_
          refine lv_iadd hx hb dX1_readDesk_72 ?_
          refine kVi (rest := []) hX (c_X7_cell l D cI cJ cR ad_q1 ad_q1_sizes ad_q1_cells nS_q1 nC_q1 h_nS_q1 h_nC_q1 q1_places q1_sizes q1_cells x2 (x3 + x6) rfl) kc_X7_cell wd966 ⟨Nat.le_of_ble_eq_true rfl, Nat.le_of_ble_eq_true rfl⟩ ⟨rfl, rfl⟩ hP hD hS (ci := 7) rfl rfl (q0 := 2) rfl [2, 3, 4] rfl (by decide) (fun w h => by cases h; rfl) rfl rfl (Nat.le_of_ble_eq_true rfl) hl.1 ⟨Nat.zero_le _, Nat.zero_le _⟩ dX1_readDesk_73 (fun H locs w1 hw1 hP hD hS => ?_)
          cases hw1
          have hP : va_P D vwCl [(ad_s, .inr (1, [.ref ad_s_facts, .int s_number])), (ad_s_facts, .inl (cI, 54, .inl s_facts)), (ad_q1, .inr (7, [.int q1_places, .ref ad_q1_sizes, .ref ad_q1_cells])), (ad_q1_sizes, .inl (cI, nS_q1, .inl q1_sizes)), (ad_q1_cells, .inl (cI, nC_q1, .inl q1_cells))] H := hP
          have hD : va_D A [(ad_s, .inr (1, [.ref ad_s_facts, .int s_number])), (ad_s_facts, .inl (cI, 54, .inl s_facts)), (ad_q1, .inr (7, [.int q1_places, .ref ad_q1_sizes, .ref ad_q1_cells])), (ad_q1_sizes, .inl (cI, nS_q1, .inl q1_sizes)), (ad_q1_cells, .inl (cI, nC_q1, .inl q1_cells))] := hD
          refine lv_bipush (v := 48) hx hb dX1_readDesk_76 (by decide) ?_
          refine lv_isub hx hb dX1_readDesk_78 ?_
          refine lv_topi (fun v79 ev79 => ?_)
          replace hf := nm_s ev79 hf
          refine lv_istore (lv' := [(7, .int v79), (0, .ref ad_s), (1, .ref ad_q1), (2, .int x2), (3, .int x3), (4, .int x4), (5, .int x5), (6, .int x6)]) hx hb dX1_readDesk_79 hl (by decide) rfl (fun ls hl => ?_)
          refine lv_iload hx hb dX1_readDesk_81 (lv_at hl 0 rfl) ?_
          refine lv_iload hx hb dX1_readDesk_83 (lv_at hl 5 rfl) ?_
          refine lv_iload hx hb dX1_readDesk_85 (lv_at hl 7 rfl) ?_
          refine lv_iload hx hb dX1_readDesk_87 (lv_at hl 6 rfl) ?_
          refine kSi (rest := [.int v79]) hX (c_X1_leastFigure l D cI cJ cR x4 x6 x5 rfl) kc_X1_leastFigure wd984 ⟨Nat.le_of_ble_eq_true rfl, Nat.le_of_ble_eq_true rfl⟩ ⟨rfl, rfl⟩ hP hD hS [] rfl (by decide) (fun w h => by cases h; rfl) rfl rfl (Nat.le_of_ble_eq_true rfl) hl.1 ⟨Nat.zero_le _, Nat.zero_le _⟩ dX1_readDesk_89 (fun H locs w1 hw1 hP hD hS => ?_)
          cases hw1
          have hP : va_P D vwCl [(ad_s, .inr (1, [.ref ad_s_facts, .int s_number])), (ad_s_facts, .inl (cI, 54, .inl s_facts)), (ad_q1, .inr (7, [.int q1_places, .ref ad_q1_sizes, .ref ad_q1_cells])), (ad_q1_sizes, .inl (cI, nS_q1, .inl q1_sizes)), (ad_q1_cells, .inl (cI, nC_q1, .inl q1_cells))] H := hP
          have hD : va_D A [(ad_s, .inr (1, [.ref ad_s_facts, .int s_number])), (ad_s_facts, .inl (cI, 54, .inl s_facts)), (ad_q1, .inr (7, [.int q1_places, .ref ad_q1_sizes, .ref ad_q1_cells])), (ad_q1_sizes, .inl (cI, nS_q1, .inl q1_sizes)), (ad_q1_cells, .inl (cI, nC_q1, .inl q1_cells))] := hD
          refine lv_icmp_lt (tgt := 102) hx hb dX1_readDesk_92 (by decide) (fun c92 => ?_) (fun c92 => ?_)
          · replace hf := ip c92 hf
            refine lv_iload_n hx hb dX1_readDesk_102 rfl (lv_at hl 4 rfl) ?_
            refine lv_iload hx hb dX1_readDesk_103 (lv_at hl 7 rfl) ?_
            refine lv_iadd hx hb dX1_readDesk_105 ?_
            exact hRet _ _ _ _ _ _ _ (Option.some.inj hf) rfl rfl hP hD hS dX1_readDesk_106
          · replace hf := iq c92 hf
            refine lv_iload hx hb dX1_readDesk_95 (lv_at hl 0 rfl) ?_
            refine lv_bipush (v := 9) hx hb dX1_readDesk_97 (by decide) ?_
            refine lv_icmp_le (tgt := 107) hx hb dX1_readDesk_99 (by decide) (fun c99 => ?_) (fun c99 => ?_)
            · replace hf := ip c99 hf
              refine lv_aload_n hx hb dX1_readDesk_107 rfl (lv_at hl 1 rfl) ?_
              refine lv_aload_n hx hb dX1_readDesk_108 rfl (lv_at hl 1 rfl) ?_
              refine kget hX hP (q0 := 0) rfl rfl inX1 (k := 1) (by decide) rfl wd67 rfl dX1_readDesk_109 ?_
              refine lv_iload hx hb dX1_readDesk_112 (lv_at hl 7 rfl) ?_
              refine lv_iload hx hb dX1_readDesk_114 (lv_at hl 0 rfl) ?_
              obtain ⟨z116_1, hz116_1⟩ : ∃ z, z = p_X1_setFact s_facts s_number x6 v79 := ⟨_, rfl⟩
              replace hf := nm_s hz116_1 hf
              refine kVv (rest := []) hX (c_X1_setFact l D cI cJ cR ad_s ad_s_facts s_number s_facts s_number x6 v79 hz116_1.symm) kc_X1_setFact wd976 ⟨Nat.le_of_ble_eq_true rfl, Nat.le_of_ble_eq_true rfl⟩ ⟨rfl, rfl⟩ hP hD hS (ci := 1) rfl rfl (q0 := 0) rfl [0, 1] rfl (by decide) (fun w h => by cases h; rfl) rfl rfl (Nat.le_of_ble_eq_true rfl) hl.1 ⟨Nat.zero_le _, Nat.zero_le _⟩ dX1_readDesk_116 (fun H locs w1 hw1 hP hD hS => ?_)
              cases hw1
              have hP : va_P D vwCl [(ad_s, .inr (1, [.ref ad_s_facts, .int s_number])), (ad_s_facts, .inl (cI, 54, .inl z116_1)), (ad_q1, .inr (7, [.int q1_places, .ref ad_q1_sizes, .ref ad_q1_cells])), (ad_q1_sizes, .inl (cI, nS_q1, .inl q1_sizes)), (ad_q1_cells, .inl (cI, nC_q1, .inl q1_cells))] H := hP
              have hD : va_D A [(ad_s, .inr (1, [.ref ad_s_facts, .int s_number])), (ad_s_facts, .inl (cI, 54, .inl z116_1)), (ad_q1, .inr (7, [.int q1_places, .ref ad_q1_sizes, .ref ad_q1_cells])), (ad_q1_sizes, .inl (cI, nS_q1, .inl q1_sizes)), (ad_q1_cells, .inl (cI, nC_q1, .inl q1_cells))] := hD
              refine lv_iload hx hb dX1_readDesk_119 (lv_at hl 0 rfl) ?_
              refine lv_istore (lv' := [(5, .int v79), (7, .int v79), (0, .ref ad_s), (1, .ref ad_q1), (2, .int x2), (3, .int x3), (4, .int x4), (6, .int x6)]) hx hb dX1_readDesk_121 hl (by decide) rfl (fun ls hl => ?_)
              refine lv_iinc (v := (x6 + (1 : Int32))) (lv' := [(6, .int (x6 + (1 : Int32))), (5, .int v79), (7, .int v79), (0, .ref ad_s), (1, .ref ad_q1), (2, .int x2), (3, .int x3), (4, .int x4)]) hx hb dX1_readDesk_123 hl (k := 7) rfl rfl (by decide) rfl (fun ls hl => ?_)
              refine lv_goto (tgt := 39) hx hb dX1_readDesk_126 (by decide) ?_
              exact ih39 _ _ s_number z116_1 x2 x3 x4 v79 (x6 + (1 : Int32)) hP hD hS _ (lv_sub hl [3, 4, 5, 6, 7, 1, 0] rfl) hf
            · replace hf := iq c99 hf
              refine lv_iload_n hx hb dX1_readDesk_102 rfl (lv_at hl 4 rfl) ?_
              refine lv_iload hx hb dX1_readDesk_103 (lv_at hl 7 rfl) ?_
              refine lv_iadd hx hb dX1_readDesk_105 ?_
              exact hRet _ _ _ _ _ _ _ (Option.some.inj hf) rfl rfl hP hD hS dX1_readDesk_106
        · replace hf := ip c58 hf
          refine lv_aload_n hx hb dX1_readDesk_61 rfl (lv_at hl 1 rfl) ?_
          refine lv_iload_n hx hb dX1_readDesk_62 rfl (lv_at hl 2 rfl) ?_
          refine kVi (rest := []) hX (c_X7_sizeOf l D cI cJ cR ad_q1 ad_q1_sizes ad_q1_cells nS_q1 h_nS_q1 q1_places q1_sizes x2 rfl) kc_X7_sizeOf wd965 ⟨Nat.le_of_ble_eq_true rfl, Nat.le_of_ble_eq_true rfl⟩ ⟨rfl, rfl⟩ hP hD hS (ci := 7) rfl rfl (q0 := 2) rfl [2, 3] rfl (by decide) (fun w h => by cases h; rfl) rfl rfl (Nat.le_of_ble_eq_true rfl) hl.1 ⟨Nat.zero_le _, Nat.zero_le _⟩ dX1_readDesk_63 (fun H locs w1 hw1 hP hD hS => ?_)
          cases hw1
          have hP : va_P D vwCl [(ad_s, .inr (1, [.ref ad_s_facts, .int s_number])), (ad_s_facts, .inl (cI, 54, .inl s_facts)), (ad_q1, .inr (7, [.int q1_places, .ref ad_q1_sizes, .ref ad_q1_cells])), (ad_q1_sizes, .inl (cI, nS_q1, .inl q1_sizes)), (ad_q1_cells, .inl (cI, nC_q1, .inl q1_cells))] H := hP
          have hD : va_D A [(ad_s, .inr (1, [.ref ad_s_facts, .int s_number])), (ad_s_facts, .inl (cI, 54, .inl s_facts)), (ad_q1, .inr (7, [.int q1_places, .ref ad_q1_sizes, .ref ad_q1_cells])), (ad_q1_sizes, .inl (cI, nS_q1, .inl q1_sizes)), (ad_q1_cells, .inl (cI, nC_q1, .inl q1_cells))] := hD
          exact hRet _ _ _ _ _ _ _ (Option.some.inj hf) rfl rfl hP hD hS dX1_readDesk_66
  unfold f_X1_readDesk at hf
  refine lv_aload_n hx hb dX1_readDesk_0 rfl (lv_at hl 0 rfl) ?_
  refine lv_aload_n hx hb dX1_readDesk_1 rfl (lv_at hl 0 rfl) ?_
  refine kget hX hP (q0 := 0) rfl rfl inX1 (k := 1) (by decide) rfl wd67 rfl dX1_readDesk_2 ?_
  refine lv_iconst (v := 0) hx hb dX1_readDesk_5 (by decide) ?_
  refine lv_iload hx hb dX1_readDesk_6 (lv_at hl 4 rfl) ?_
  obtain ⟨z8_1, hz8_1⟩ : ∃ z, z = p_X1_setFact s_facts s_number (0 : Int32) x4 := ⟨_, rfl⟩
  replace hf := nm_s hz8_1 hf
  refine kVv (rest := []) hX (c_X1_setFact l D cI cJ cR ad_s ad_s_facts s_number s_facts s_number (0 : Int32) x4 hz8_1.symm) kc_X1_setFact wd976 ⟨Nat.le_of_ble_eq_true rfl, Nat.le_of_ble_eq_true rfl⟩ ⟨rfl, rfl⟩ hP hD hS (ci := 1) rfl rfl (q0 := 0) rfl [0, 1] rfl (by decide) (fun w h => by cases h; rfl) rfl rfl (Nat.le_of_ble_eq_true rfl) hl.1 ⟨Nat.zero_le _, Nat.zero_le _⟩ dX1_readDesk_8 (fun H locs w1 hw1 hP hD hS => ?_)
  cases hw1
  have hP : va_P D vwCl [(ad_s, .inr (1, [.ref ad_s_facts, .int s_number])), (ad_s_facts, .inl (cI, 54, .inl z8_1)), (ad_q1, .inr (7, [.int q1_places, .ref ad_q1_sizes, .ref ad_q1_cells])), (ad_q1_sizes, .inl (cI, nS_q1, .inl q1_sizes)), (ad_q1_cells, .inl (cI, nC_q1, .inl q1_cells))] H := hP
  have hD : va_D A [(ad_s, .inr (1, [.ref ad_s_facts, .int s_number])), (ad_s_facts, .inl (cI, 54, .inl z8_1)), (ad_q1, .inr (7, [.int q1_places, .ref ad_q1_sizes, .ref ad_q1_cells])), (ad_q1_sizes, .inl (cI, nS_q1, .inl q1_sizes)), (ad_q1_cells, .inl (cI, nC_q1, .inl q1_cells))] := hD
  refine lv_aload_n hx hb dX1_readDesk_11 rfl (lv_at hl 0 rfl) ?_
  refine lv_aload_n hx hb dX1_readDesk_12 rfl (lv_at hl 0 rfl) ?_
  refine kget hX hP (q0 := 0) rfl rfl inX1 (k := 1) (by decide) rfl wd67 rfl dX1_readDesk_13 ?_
  refine lv_iconst (v := 4) hx hb dX1_readDesk_16 (by decide) ?_
  refine lv_bipush (v := -9) hx hb dX1_readDesk_17 (by decide) ?_
  obtain ⟨z19_2, hz19_2⟩ : ∃ z, z = p_X1_setFact z8_1 s_number (4 : Int32) (-9 : Int32) := ⟨_, rfl⟩
  replace hf := nm_s hz19_2 hf
  refine kVv (rest := []) hX (c_X1_setFact l D cI cJ cR ad_s ad_s_facts s_number z8_1 s_number (4 : Int32) (-9 : Int32) hz19_2.symm) kc_X1_setFact wd976 ⟨Nat.le_of_ble_eq_true rfl, Nat.le_of_ble_eq_true rfl⟩ ⟨rfl, rfl⟩ hP hD hS (ci := 1) rfl rfl (q0 := 0) rfl [0, 1] rfl (by decide) (fun w h => by cases h; rfl) rfl rfl (Nat.le_of_ble_eq_true rfl) hl.1 ⟨Nat.zero_le _, Nat.zero_le _⟩ dX1_readDesk_19 (fun H locs w1 hw1 hP hD hS => ?_)
  cases hw1
  have hP : va_P D vwCl [(ad_s, .inr (1, [.ref ad_s_facts, .int s_number])), (ad_s_facts, .inl (cI, 54, .inl z19_2)), (ad_q1, .inr (7, [.int q1_places, .ref ad_q1_sizes, .ref ad_q1_cells])), (ad_q1_sizes, .inl (cI, nS_q1, .inl q1_sizes)), (ad_q1_cells, .inl (cI, nC_q1, .inl q1_cells))] H := hP
  have hD : va_D A [(ad_s, .inr (1, [.ref ad_s_facts, .int s_number])), (ad_s_facts, .inl (cI, 54, .inl z19_2)), (ad_q1, .inr (7, [.int q1_places, .ref ad_q1_sizes, .ref ad_q1_cells])), (ad_q1_sizes, .inl (cI, nS_q1, .inl q1_sizes)), (ad_q1_cells, .inl (cI, nC_q1, .inl q1_cells))] := hD
  refine lv_aload_n hx hb dX1_readDesk_22 rfl (lv_at hl 0 rfl) ?_
  refine lv_aload_n hx hb dX1_readDesk_23 rfl (lv_at hl 0 rfl) ?_
  refine kget hX hP (q0 := 0) rfl rfl inX1 (k := 1) (by decide) rfl wd67 rfl dX1_readDesk_24 ?_
  refine lv_iconst (v := 5) hx hb dX1_readDesk_27 (by decide) ?_
  refine lv_bipush (v := -9) hx hb dX1_readDesk_28 (by decide) ?_
  obtain ⟨z30_3, hz30_3⟩ : ∃ z, z = p_X1_setFact z19_2 s_number (5 : Int32) (-9 : Int32) := ⟨_, rfl⟩
  replace hf := nm_s hz30_3 hf
  refine kVv (rest := []) hX (c_X1_setFact l D cI cJ cR ad_s ad_s_facts s_number z19_2 s_number (5 : Int32) (-9 : Int32) hz30_3.symm) kc_X1_setFact wd976 ⟨Nat.le_of_ble_eq_true rfl, Nat.le_of_ble_eq_true rfl⟩ ⟨rfl, rfl⟩ hP hD hS (ci := 1) rfl rfl (q0 := 0) rfl [0, 1] rfl (by decide) (fun w h => by cases h; rfl) rfl rfl (Nat.le_of_ble_eq_true rfl) hl.1 ⟨Nat.zero_le _, Nat.zero_le _⟩ dX1_readDesk_30 (fun H locs w1 hw1 hP hD hS => ?_)
  cases hw1
  have hP : va_P D vwCl [(ad_s, .inr (1, [.ref ad_s_facts, .int s_number])), (ad_s_facts, .inl (cI, 54, .inl z30_3)), (ad_q1, .inr (7, [.int q1_places, .ref ad_q1_sizes, .ref ad_q1_cells])), (ad_q1_sizes, .inl (cI, nS_q1, .inl q1_sizes)), (ad_q1_cells, .inl (cI, nC_q1, .inl q1_cells))] H := hP
  have hD : va_D A [(ad_s, .inr (1, [.ref ad_s_facts, .int s_number])), (ad_s_facts, .inl (cI, 54, .inl z30_3)), (ad_q1, .inr (7, [.int q1_places, .ref ad_q1_sizes, .ref ad_q1_cells])), (ad_q1_sizes, .inl (cI, nS_q1, .inl q1_sizes)), (ad_q1_cells, .inl (cI, nC_q1, .inl q1_cells))] := hD
  refine lv_iconst (v := 0) hx hb dX1_readDesk_33 (by decide) ?_
  refine lv_istore (lv' := [(5, .int (0 : Int32)), (0, .ref ad_s), (1, .ref ad_q1), (2, .int x2), (3, .int x3), (4, .int x4)]) hx hb dX1_readDesk_34 hl (by decide) rfl (fun ls hl => ?_)
  refine lv_iconst (v := 1) hx hb dX1_readDesk_36 (by decide) ?_
  refine lv_istore (lv' := [(6, .int (1 : Int32)), (5, .int (0 : Int32)), (0, .ref ad_s), (1, .ref ad_q1), (2, .int x2), (3, .int x3), (4, .int x4)]) hx hb dX1_readDesk_37 hl (by decide) rfl (fun ls hl => ?_)
  exact hb39 N _ _ s_number z30_3 x2 x3 x4 (0 : Int32) (1 : Int32) hP hD hS _ (lv_sub hl [2, 3, 4, 5, 6, 1, 0] rfl) hf
def f_X1_read_b14 (N : Nat) (nS_q1 : Nat) (nC_q1 : Nat) (q1_places : Int32) (q1_sizes : (Nat → Int32)) (q1_cells : (Nat → Int32)) : Nat → Int32 → (Nat → Int32) → Int32 → Int32 → Int32 → Option (Int32 × Int32 × (Nat → Int32))
  | 0, _, _, _, _, _ => none
  | n14 + 1, s_number, s_facts, x2, x3, x4 => if x3 ≤ x4 then some ((-9 : Int32), s_number, s_facts) else nm (p_X7_cell nS_q1 nC_q1 q1_places q1_sizes q1_cells x2 x4) (fun v27 => if v27 = (32 : Int32) then (f_X1_read_b14 N nS_q1 nC_q1 q1_places q1_sizes q1_cells n14) s_number s_facts x2 x3 (x4 + (1 : Int32)) else bn (f_X1_kindOf N v27) (fun z44_1 => if z44_1 = (-9 : Int32) then some (x4, s_number, s_facts) else if s_number < (9 : Int32) then bn (f_X1_readDesk N nS_q1 nC_q1 q1_places q1_sizes q1_cells s_number s_facts x2 x4 z44_1) (fun z75_2 => if z75_2.1 = (-9 : Int32) then nm (x4 + ((1 : Int32) + (p_X1_figuresOf z44_1))) (fun v100 => (f_X1_read_b14 N nS_q1 nC_q1 q1_places q1_sizes q1_cells n14) z75_2.2.1 z75_2.2.2 x2 x3 v100) else some (z75_2.1, z75_2.2.1, z75_2.2.2)) else some (x4, s_number, s_facts)))
def f_X1_read (N : Nat) (nS_q1 : Nat) (nC_q1 : Nat) (q1_places : Int32) (q1_sizes : (Nat → Int32)) (q1_cells : (Nat → Int32)) (s_number : Int32) (s_facts : (Nat → Int32)) (x2 : Int32) : Option (Int32 × Int32 × (Nat → Int32)) :=
  nm (p_X7_sizeOf nS_q1 q1_sizes x2) (fun v10 => (f_X1_read_b14 N nS_q1 nC_q1 q1_places q1_sizes q1_cells N) (0 : Int32) s_facts x2 v10 (0 : Int32))
abbrev rm_X1_read : Room := { frames := 4, cells := 0, slots := 0, locals := 93 }
set_option maxHeartbeats 4000000 in
set_option maxRecDepth 100000 in
theorem c_X1_read (l : Launch) (D : va_G) (cI cJ cR : ClassId) (N : Nat) (ad_s ad_s_facts ad_q1 ad_q1_sizes ad_q1_cells : Nat) (nS_q1 : Nat) (nC_q1 : Nat) (h_nS_q1 : nS_q1 < 2147483648) (h_nC_q1 : nC_q1 < 2147483648) (s_number : Int32) (s_facts : (Nat → Int32)) (q1_places : Int32) (q1_sizes : (Nat → Int32)) (q1_cells : (Nat → Int32)) (x2 : Int32) {o : Int32 × Int32 × (Nat → Int32)} (hf : f_X1_read N nS_q1 nC_q1 q1_places q1_sizes q1_cells s_number s_facts x2 = some o) : kMi l D (kT cI cJ cR) yX1_read cX1_read 8 (some .int) rm_X1_read [.ref ad_s, .ref ad_q1, .int x2] [(ad_s, .inr (1, [.ref ad_s_facts, .int s_number])), (ad_s_facts, .inl (cI, 54, .inl s_facts)), (ad_q1, .inr (7, [.int q1_places, .ref ad_q1_sizes, .ref ad_q1_cells])), (ad_q1_sizes, .inl (cI, nS_q1, .inl q1_sizes)), (ad_q1_cells, .inl (cI, nC_q1, .inl q1_cells))] (o.1) (fun w => w = [(ad_s, .inr (1, [.ref ad_s_facts, .int o.2.1])), (ad_s_facts, .inl (cI, 54, .inl o.2.2)), (ad_q1, .inr (7, [.int q1_places, .ref ad_q1_sizes, .ref ad_q1_cells])), (ad_q1_sizes, .inl (cI, nS_q1, .inl q1_sizes)), (ad_q1_cells, .inl (cI, nC_q1, .inl q1_cells))]) := by
  apply kInI (o := o)
  · decide
  · exact Nat.le_of_ble_eq_true rfl
  intro p e s m args below meth c A ls Q hX hRet hP hD hS hl
  have hx := hX.1.1
  have hb := hX.1.2.1
  have hown := hX.1.2.2.2.1
  have hts := hX.1.2.2.2.2
  have hl : lv_has ls 8 [(0, .ref ad_s), (1, .ref ad_q1), (2, .int x2)] := hl
  have hb14 : ∀ n14 : Nat, ∀ (H : Heap) (locs : List Loc) (s_number : Int32) (s_facts : (Nat → Int32)) (x2 : Int32) (x3 : Int32) (x4 : Int32), va_P D vwCl [(ad_s, .inr (1, [.ref ad_s_facts, .int s_number])), (ad_s_facts, .inl (cI, 54, .inl s_facts)), (ad_q1, .inr (7, [.int q1_places, .ref ad_q1_sizes, .ref ad_q1_cells])), (ad_q1_sizes, .inl (cI, nS_q1, .inl q1_sizes)), (ad_q1_cells, .inl (cI, nC_q1, .inl q1_cells))] H → va_D A [(ad_s, .inr (1, [.ref ad_s_facts, .int s_number])), (ad_s_facts, .inl (cI, 54, .inl s_facts)), (ad_q1, .inr (7, [.int q1_places, .ref ad_q1_sizes, .ref ad_q1_cells])), (ad_q1_sizes, .inl (cI, nS_q1, .inl q1_sizes)), (ad_q1_cells, .inl (cI, nC_q1, .inl q1_cells))] → va_S A s.heap H locs → ∀ ls : Array Slot, lv_has ls 8 [(0, .ref ad_s), (1, .ref ad_q1), (2, .int x2), (3, .int x3), (4, .int x4)] → f_X1_read_b14 N nS_q1 nC_q1 q1_places q1_sizes q1_cells n14 s_number s_facts x2 x3 x4 = some o → W p l e rm_X1_read s m args below meth c H locs 0 0 Q (F0 m 14 ls []) := by
    intro n14
    induction n14 with
    | zero =>
      intro H locs s_number s_facts x2 x3 x4 hP hD hS ls hl hf
      rw [f_X1_read_b14] at hf
      cases hf
    | succ n14 ih14 =>
      intro H locs s_number s_facts x2 x3 x4 hP hD hS ls hl hf
      rw [f_X1_read_b14] at hf
      refine lv_iload hx hb dX1_read_14 (lv_at hl 4 rfl) ?_
      refine lv_iload_n hx hb dX1_read_16 rfl (lv_at hl 3 rfl) ?_
      refine lv_icmp_ge (tgt := 105) hx hb dX1_read_17 (by decide) (fun c17 => ?_) (fun c17 => ?_)
      · replace hf := ip c17 hf
        refine lv_bipush (v := -9) hx hb dX1_read_105 (by decide) ?_
        exact hRet _ _ _ _ _ _ _ (Option.some.inj hf) rfl rfl hP hD hS dX1_read_107
      · replace hf := iq c17 hf
        refine lv_aload_n hx hb dX1_read_20 rfl (lv_at hl 1 rfl) ?_
        refine lv_iload_n hx hb dX1_read_21 rfl (lv_at hl 2 rfl) ?_
        refine lv_iload hx hb dX1_read_22 (lv_at hl 4 rfl) ?_
        refine kVi (rest := []) hX (c_X7_cell l D cI cJ cR ad_q1 ad_q1_sizes ad_q1_cells nS_q1 nC_q1 h_nS_q1 h_nC_q1 q1_places q1_sizes q1_cells x2 x4 rfl) kc_X7_cell wd966 ⟨Nat.le_of_ble_eq_true rfl, Nat.le_of_ble_eq_true rfl⟩ ⟨rfl, rfl⟩ hP hD hS (ci := 7) rfl rfl (q0 := 2) rfl [2, 3, 4] rfl (by decide) (fun w h => by cases h; rfl) rfl rfl (Nat.le_of_ble_eq_true rfl) hl.1 ⟨Nat.zero_le _, Nat.zero_le _⟩ dX1_read_24 (fun H locs w1 hw1 hP hD hS => ?_)
        cases hw1
        have hP : va_P D vwCl [(ad_s, .inr (1, [.ref ad_s_facts, .int s_number])), (ad_s_facts, .inl (cI, 54, .inl s_facts)), (ad_q1, .inr (7, [.int q1_places, .ref ad_q1_sizes, .ref ad_q1_cells])), (ad_q1_sizes, .inl (cI, nS_q1, .inl q1_sizes)), (ad_q1_cells, .inl (cI, nC_q1, .inl q1_cells))] H := hP
        have hD : va_D A [(ad_s, .inr (1, [.ref ad_s_facts, .int s_number])), (ad_s_facts, .inl (cI, 54, .inl s_facts)), (ad_q1, .inr (7, [.int q1_places, .ref ad_q1_sizes, .ref ad_q1_cells])), (ad_q1_sizes, .inl (cI, nS_q1, .inl q1_sizes)), (ad_q1_cells, .inl (cI, nC_q1, .inl q1_cells))] := hD
        refine lv_topi (fun v27 ev27 => ?_)
        replace hf := nm_s ev27 hf
        refine lv_istore (lv' := [(5, .int v27), (0, .ref ad_s), (1, .ref ad_q1), (2, .int x2), (3, .int x3), (4, .int x4)]) hx hb dX1_read_27 hl (by decide) rfl (fun ls hl => ?_)
        refine lv_iload hx hb dX1_read_29 (lv_at hl 0 rfl) ?_
        refine lv_bipush (v := 32) hx hb dX1_read_31 (by decide) ?_
        refine lv_icmp_ne (tgt := 42) hx hb dX1_read_33 (by decide) (fun c33 => ?_) (fun c33 => ?_)
        · replace hf := iq c33 hf
          refine lv_iload hx hb dX1_read_42 (lv_at hl 0 rfl) ?_
          obtain ⟨z44_1, hz44_1, hf⟩ := bn_s hf
          refine kSi (rest := []) hX (c_X1_kindOf l D cI cJ cR N v27 hz44_1) kc_X1_kindOf wd967 ⟨Nat.le_of_ble_eq_true rfl, Nat.le_of_ble_eq_true rfl⟩ ⟨rfl, rfl⟩ hP hD hS [] rfl (by decide) (fun w h => by cases h; rfl) rfl rfl (Nat.le_of_ble_eq_true rfl) hl.1 ⟨Nat.zero_le _, Nat.zero_le _⟩ dX1_read_44 (fun H locs w1 hw1 hP hD hS => ?_)
          cases hw1
          have hP : va_P D vwCl [(ad_s, .inr (1, [.ref ad_s_facts, .int s_number])), (ad_s_facts, .inl (cI, 54, .inl s_facts)), (ad_q1, .inr (7, [.int q1_places, .ref ad_q1_sizes, .ref ad_q1_cells])), (ad_q1_sizes, .inl (cI, nS_q1, .inl q1_sizes)), (ad_q1_cells, .inl (cI, nC_q1, .inl q1_cells))] H := hP
          have hD : va_D A [(ad_s, .inr (1, [.ref ad_s_facts, .int s_number])), (ad_s_facts, .inl (cI, 54, .inl s_facts)), (ad_q1, .inr (7, [.int q1_places, .ref ad_q1_sizes, .ref ad_q1_cells])), (ad_q1_sizes, .inl (cI, nS_q1, .inl q1_sizes)), (ad_q1_cells, .inl (cI, nC_q1, .inl q1_cells))] := hD
          refine lv_istore (lv' := [(6, .int z44_1), (5, .int v27), (0, .ref ad_s), (1, .ref ad_q1), (2, .int x2), (3, .int x3), (4, .int x4)]) hx hb dX1_read_47 hl (by decide) rfl (fun ls hl => ?_)
          refine lv_iload hx hb dX1_read_49 (lv_at hl 0 rfl) ?_
          refine lv_bipush (v := -9) hx hb dX1_read_51 (by decide) ?_
          refine lv_icmp_eq (tgt := 65) hx hb dX1_read_53 (by decide) (fun c53 => ?_) (fun c53 => ?_)
          · replace hf := ip c53 hf
            refine lv_iload hx hb dX1_read_65 (lv_at hl 6 rfl) ?_
            exact hRet _ _ _ _ _ _ _ (Option.some.inj hf) rfl rfl hP hD hS dX1_read_67
          · replace hf := iq c53 hf
            refine lv_aload_n hx hb dX1_read_56 rfl (lv_at hl 2 rfl) ?_
            refine kget hX hP (q0 := 0) rfl rfl inX1 (k := 1) (by decide) rfl wd67 rfl dX1_read_57 ?_
            refine lv_bipush (v := 9) hx hb dX1_read_60 (by decide) ?_
            refine lv_icmp_lt (tgt := 68) hx hb dX1_read_62 (by decide) (fun c62 => ?_) (fun c62 => ?_)
            · replace hf := ip c62 hf
              refine lv_aload_n hx hb dX1_read_68 rfl (lv_at hl 2 rfl) ?_
              refine lv_aload_n hx hb dX1_read_69 rfl (lv_at hl 3 rfl) ?_
              refine lv_iload_n hx hb dX1_read_70 rfl (lv_at hl 4 rfl) ?_
              refine lv_iload hx hb dX1_read_71 (lv_at hl 6 rfl) ?_
              refine lv_iload hx hb dX1_read_73 (lv_at hl 0 rfl) ?_
              obtain ⟨z75_2, hz75_2, hf⟩ := bn_s hf
              refine kVi (rest := []) hX (c_X1_readDesk l D cI cJ cR N ad_s ad_s_facts ad_q1 ad_q1_sizes ad_q1_cells nS_q1 nC_q1 h_nS_q1 h_nC_q1 s_number s_facts q1_places q1_sizes q1_cells x2 x4 z44_1 hz75_2) kc_X1_readDesk wd972 ⟨Nat.le_of_ble_eq_true rfl, Nat.le_of_ble_eq_true rfl⟩ ⟨rfl, rfl⟩ hP hD hS (ci := 1) rfl rfl (q0 := 0) rfl [0, 1, 2, 3, 4] rfl (by decide) (fun w h => by cases h; rfl) rfl rfl (Nat.le_of_ble_eq_true rfl) hl.1 ⟨Nat.zero_le _, Nat.zero_le _⟩ dX1_read_75 (fun H locs w1 hw1 hP hD hS => ?_)
              cases hw1
              have hP : va_P D vwCl [(ad_s, .inr (1, [.ref ad_s_facts, .int z75_2.2.1])), (ad_s_facts, .inl (cI, 54, .inl z75_2.2.2)), (ad_q1, .inr (7, [.int q1_places, .ref ad_q1_sizes, .ref ad_q1_cells])), (ad_q1_sizes, .inl (cI, nS_q1, .inl q1_sizes)), (ad_q1_cells, .inl (cI, nC_q1, .inl q1_cells))] H := hP
              have hD : va_D A [(ad_s, .inr (1, [.ref ad_s_facts, .int z75_2.2.1])), (ad_s_facts, .inl (cI, 54, .inl z75_2.2.2)), (ad_q1, .inr (7, [.int q1_places, .ref ad_q1_sizes, .ref ad_q1_cells])), (ad_q1_sizes, .inl (cI, nS_q1, .inl q1_sizes)), (ad_q1_cells, .inl (cI, nC_q1, .inl q1_cells))] := hD
              refine lv_istore (lv' := [(7, .int z75_2.1), (6, .int z44_1), (5, .int v27), (0, .ref ad_s), (1, .ref ad_q1), (2, .int x2), (3, .int x3), (4, .int x4)]) hx hb dX1_read_78 hl (by decide) rfl (fun ls hl => ?_)
              refine lv_iload hx hb dX1_read_80 (lv_at hl 0 rfl) ?_
              refine lv_bipush (v := -9) hx hb dX1_read_82 (by decide) ?_
              refine lv_icmp_eq (tgt := 90) hx hb dX1_read_84 (by decide) (fun c84 => ?_) (fun c84 => ?_)
              · replace hf := ip c84 hf
                refine lv_iload hx hb dX1_read_90 (lv_at hl 7 rfl) ?_
                refine lv_iconst (v := 1) hx hb dX1_read_92 (by decide) ?_
                refine lv_iload hx hb dX1_read_93 (lv_at hl 1 rfl) ?_
                refine kSi (rest := [.int (1 : Int32), .int x4]) hX (c_X1_figuresOf l D cI cJ cR z44_1 rfl) kc_X1_figuresOf wd980 ⟨Nat.le_of_ble_eq_true rfl, Nat.le_of_ble_eq_true rfl⟩ ⟨rfl, rfl⟩ hP hD hS [] rfl (by decide) (fun w h => by cases h; rfl) rfl rfl (Nat.le_of_ble_eq_true rfl) hl.1 ⟨Nat.zero_le _, Nat.zero_le _⟩ dX1_read_95 (fun H locs w1 hw1 hP hD hS => ?_)
                cases hw1
                have hP : va_P D vwCl [(ad_s, .inr (1, [.ref ad_s_facts, .int z75_2.2.1])), (ad_s_facts, .inl (cI, 54, .inl z75_2.2.2)), (ad_q1, .inr (7, [.int q1_places, .ref ad_q1_sizes, .ref ad_q1_cells])), (ad_q1_sizes, .inl (cI, nS_q1, .inl q1_sizes)), (ad_q1_cells, .inl (cI, nC_q1, .inl q1_cells))] H := hP
                have hD : va_D A [(ad_s, .inr (1, [.ref ad_s_facts, .int z75_2.2.1])), (ad_s_facts, .inl (cI, 54, .inl z75_2.2.2)), (ad_q1, .inr (7, [.int q1_places, .ref ad_q1_sizes, .ref ad_q1_cells])), (ad_q1_sizes, .inl (cI, nS_q1, .inl q1_sizes)), (ad_q1_cells, .inl (cI, nC_q1, .inl q1_cells))] := hD
                refine lv_iadd hx hb dX1_read_98 ?_
                refine lv_iadd hx hb dX1_read_99 ?_
                refine lv_topi (fun v100 ev100 => ?_)
                replace hf := nm_s ev100 hf
                refine lv_istore (lv' := [(4, .int v100), (7, .int z75_2.1), (6, .int z44_1), (5, .int v27), (0, .ref ad_s), (1, .ref ad_q1), (2, .int x2), (3, .int x3)]) hx hb dX1_read_100 hl (by decide) rfl (fun ls hl => ?_)
                refine lv_goto (tgt := 14) hx hb dX1_read_102 (by decide) ?_
                exact ih14 _ _ z75_2.2.1 z75_2.2.2 x2 x3 v100 hP hD hS _ (lv_sub hl [4, 5, 6, 7, 0] rfl) hf
              · replace hf := iq c84 hf
                refine lv_iload hx hb dX1_read_87 (lv_at hl 0 rfl) ?_
                exact hRet _ _ _ _ _ _ _ (Option.some.inj hf) rfl rfl hP hD hS dX1_read_89
            · replace hf := iq c62 hf
              refine lv_iload hx hb dX1_read_65 (lv_at hl 6 rfl) ?_
              exact hRet _ _ _ _ _ _ _ (Option.some.inj hf) rfl rfl hP hD hS dX1_read_67
        · replace hf := ip c33 hf
          refine lv_iinc (v := (x4 + (1 : Int32))) (lv' := [(4, .int (x4 + (1 : Int32))), (5, .int v27), (0, .ref ad_s), (1, .ref ad_q1), (2, .int x2), (3, .int x3)]) hx hb dX1_read_36 hl (k := 5) rfl rfl (by decide) rfl (fun ls hl => ?_)
          refine lv_goto (tgt := 102) hx hb dX1_read_39 (by decide) ?_
          refine lv_goto (tgt := 14) hx hb dX1_read_102 (by decide) ?_
          exact ih14 _ _ s_number s_facts x2 x3 (x4 + (1 : Int32)) hP hD hS _ (lv_sub hl [2, 3, 4, 5, 0] rfl) hf
  unfold f_X1_read at hf
  refine lv_aload_n hx hb dX1_read_0 rfl (lv_at hl 0 rfl) ?_
  refine lv_iconst (v := 0) hx hb dX1_read_1 (by decide) ?_
  refine kput hX hP hD hS (q0 := 0) rfl rfl inX1 tyX1_ok nmX1 (k := 1) (by decide) rfl wd67 rfl rfl (Nat.le_of_ble_eq_true rfl) dX1_read_2 (fun H locs hP hD hS => ?_)
  refine lv_aload_n hx hb dX1_read_5 rfl (lv_at hl 1 rfl) ?_
  refine lv_iload_n hx hb dX1_read_6 rfl (lv_at hl 2 rfl) ?_
  refine kVi (rest := []) hX (c_X7_sizeOf l D cI cJ cR ad_q1 ad_q1_sizes ad_q1_cells nS_q1 h_nS_q1 q1_places q1_sizes x2 rfl) kc_X7_sizeOf wd965 ⟨Nat.le_of_ble_eq_true rfl, Nat.le_of_ble_eq_true rfl⟩ ⟨rfl, rfl⟩ hP hD hS (ci := 7) rfl rfl (q0 := 2) rfl [2, 3] rfl (by decide) (fun w h => by cases h; rfl) rfl rfl (Nat.le_of_ble_eq_true rfl) hl.1 ⟨Nat.zero_le _, Nat.zero_le _⟩ dX1_read_7 (fun H locs w1 hw1 hP hD hS => ?_)
  cases hw1
  have hP : va_P D vwCl [(ad_s, .inr (1, [.ref ad_s_facts, .int (0 : Int32)])), (ad_s_facts, .inl (cI, 54, .inl s_facts)), (ad_q1, .inr (7, [.int q1_places, .ref ad_q1_sizes, .ref ad_q1_cells])), (ad_q1_sizes, .inl (cI, nS_q1, .inl q1_sizes)), (ad_q1_cells, .inl (cI, nC_q1, .inl q1_cells))] H := hP
  have hD : va_D A [(ad_s, .inr (1, [.ref ad_s_facts, .int (0 : Int32)])), (ad_s_facts, .inl (cI, 54, .inl s_facts)), (ad_q1, .inr (7, [.int q1_places, .ref ad_q1_sizes, .ref ad_q1_cells])), (ad_q1_sizes, .inl (cI, nS_q1, .inl q1_sizes)), (ad_q1_cells, .inl (cI, nC_q1, .inl q1_cells))] := hD
  refine lv_topi (fun v10 ev10 => ?_)
  replace hf := nm_s ev10 hf
  refine lv_istore_n (lv' := [(3, .int v10), (0, .ref ad_s), (1, .ref ad_q1), (2, .int x2)]) hx hb dX1_read_10 rfl hl (by decide) rfl (fun ls hl => ?_)
  refine lv_iconst (v := 0) hx hb dX1_read_11 (by decide) ?_
  refine lv_istore (lv' := [(4, .int (0 : Int32)), (3, .int v10), (0, .ref ad_s), (1, .ref ad_q1), (2, .int x2)]) hx hb dX1_read_12 hl (by decide) rfl (fun ls hl => ?_)
  exact hb14 N _ _ (0 : Int32) s_facts x2 v10 (0 : Int32) hP hD hS _ (lv_sub hl [2, 3, 4, 1, 0] rfl) hf
def f_X8_add_b74 (N : Nat) (s_number : Int32) (s_parts : (Nat → Int64)) (s_keys : (Nat → Int32)) (x3 : Int64) (x5 : Int32) : Option (Int32 × (Nat → Int64) × (Nat → Int32)) :=
  gd (inb x5 4608 = true) (some (s_number, (vp_updL s_parts x5.toNatClampNeg ((s_parts x5.toNatClampNeg) + x3)), s_keys))
def f_X8_add (N : Nat) (s_number : Int32) (s_parts : (Nat → Int64)) (s_keys : (Nat → Int32)) (x1 : Int32) (x2 : Int32) (x3 : Int64) : Option (Int32 × (Nat → Int64) × (Nat → Int32)) :=
  nm ((x2 * (9 : Int32)) + x1) (fun v6 => if x3 ≤ (0 : Int64) then some (s_number, s_parts, s_keys) else if v6 < 0 then some (s_number, s_parts, s_keys) else if (4608 : Int32) ≤ v6 then some (s_number, s_parts, s_keys) else if (s_parts v6.toNatClampNeg) = (0 : Int64) then if (4608 : Int32) ≤ s_number then (f_X8_add_b74 N) s_number s_parts s_keys x3 v6 else gd (inb s_number 4608 = true) ((f_X8_add_b74 N) (s_number + (1 : Int32)) s_parts (upd s_keys s_number.toNatClampNeg v6) x3 v6) else (f_X8_add_b74 N) s_number s_parts s_keys x3 v6)
abbrev rm_X8_add : Room := { frames := 0, cells := 0, slots := 0, locals := 0 }
set_option maxHeartbeats 4000000 in
set_option maxRecDepth 100000 in
theorem c_X8_add (l : Launch) (D : va_G) (cI cJ cR : ClassId) (N : Nat) (ad_s ad_s_parts ad_s_keys : Nat) (s_number : Int32) (s_partHome : Int64) (s_parts : (Nat → Int64)) (s_keys : (Nat → Int32)) (x1 : Int32) (x2 : Int32) (x3 : Int64) {o : Int32 × (Nat → Int64) × (Nat → Int32)} (hf : f_X8_add N s_number s_parts s_keys x1 x2 x3 = some o) : kMv l D (kT cI cJ cR) yX8_add cX8_add 6 none rm_X8_add [.ref ad_s, .int x1, .int x2, .long x3] [(ad_s, .inr (8, [.ref ad_s_parts, .ref ad_s_keys, .int s_number, .long s_partHome])), (ad_s_parts, .inl (cJ, 4608, .inr (.inl s_parts))), (ad_s_keys, .inl (cI, 4608, .inl s_keys))] 0 0 (fun w => w = [(ad_s, .inr (8, [.ref ad_s_parts, .ref ad_s_keys, .int o.1, .long s_partHome])), (ad_s_parts, .inl (cJ, 4608, .inr (.inl o.2.1))), (ad_s_keys, .inl (cI, 4608, .inl o.2.2))]) := by
  apply kInV (o := o)
  · decide
  · exact Nat.le_of_ble_eq_true rfl
  intro p e s m args below meth c A ls Q hX hRet hP hD hS hl
  have hx := hX.1.1
  have hb := hX.1.2.1
  have hown := hX.1.2.2.2.1
  have hts := hX.1.2.2.2.2
  have hl : lv_has ls 6 [(0, .ref ad_s), (1, .int x1), (2, .int x2), (3, .long x3)] := hl
  have hb74 : ∀ (H : Heap) (locs : List Loc) (s_number : Int32) (s_parts : (Nat → Int64)) (s_keys : (Nat → Int32)) (x3 : Int64) (x5 : Int32), va_P D vwCl [(ad_s, .inr (8, [.ref ad_s_parts, .ref ad_s_keys, .int s_number, .long s_partHome])), (ad_s_parts, .inl (cJ, 4608, .inr (.inl s_parts))), (ad_s_keys, .inl (cI, 4608, .inl s_keys))] H → va_D A [(ad_s, .inr (8, [.ref ad_s_parts, .ref ad_s_keys, .int s_number, .long s_partHome])), (ad_s_parts, .inl (cJ, 4608, .inr (.inl s_parts))), (ad_s_keys, .inl (cI, 4608, .inl s_keys))] → va_S A s.heap H locs → ∀ ls : Array Slot, lv_has ls 6 [(0, .ref ad_s), (3, .long x3), (5, .int x5)] → (f_X8_add_b74 N) s_number s_parts s_keys x3 x5 = some o → W p l e rm_X8_add s m args below meth c H locs 0 0 Q (F0 m 74 ls []) := by
    intro H locs s_number s_parts s_keys x3 x5 hP hD hS ls hl hf
    unfold f_X8_add_b74 at hf
    refine lv_aload_n hx hb dX8_add_74 rfl (lv_at hl 0 rfl) ?_
    refine kget hX hP (q0 := 0) rfl rfl inX8 (k := 0) (by decide) rfl wd246 rfl dX8_add_75 ?_
    refine lv_iload hx hb dX8_add_78 (lv_at hl 2 rfl) ?_
    refine lv_dup2_11 hx hb dX8_add_80 rfl rfl ?_
    obtain ⟨hg81_1, hf⟩ := gd_s hf
    refine klald hX hP rfl (q0 := 1) rfl (inb_in hg81_1) dX8_add_81 ?_
    refine lv_lload_n hx hb dX8_add_82 rfl (lv_at hl 1 rfl) ?_
    refine lv_ladd hx hb dX8_add_83 ?_
    refine klast hX hP hD hS rfl (q0 := 1) rfl (inb_in hg81_1) dX8_add_84 (fun H locs hP hD hS => ?_)
    exact hRet _ _ _ _ _ _ (Option.some.inj hf) rfl hP hD hS dX8_add_85
  unfold f_X8_add at hf
  refine lv_iload_n hx hb dX8_add_0 rfl (lv_at hl 2 rfl) ?_
  refine lv_bipush (v := 9) hx hb dX8_add_1 (by decide) ?_
  refine lv_imul hx hb dX8_add_3 ?_
  refine lv_iload_n hx hb dX8_add_4 rfl (lv_at hl 1 rfl) ?_
  refine lv_iadd hx hb dX8_add_5 ?_
  refine lv_topi (fun v6 ev6 => ?_)
  replace hf := nm_s ev6 hf
  refine lv_istore (lv' := [(5, .int v6), (0, .ref ad_s), (1, .int x1), (2, .int x2), (3, .long x3)]) hx hb dX8_add_6 hl (by decide) rfl (fun ls hl => ?_)
  refine lv_lload_n hx hb dX8_add_8 rfl (lv_at hl 4 rfl) ?_
  refine lv_lconst (v := 0) hx hb dX8_add_9 (by decide) ?_
  refine W.lcmp hx hb dX8_add_10 ?_
  refine lv_if_le (tgt := 85) hx hb dX8_add_11 (by decide) (fun c11 => ?_) (fun c11 => ?_)
  · have c11 := (lg_cmp_le _ _).mp c11
    replace hf := ip c11 hf
    exact hRet _ _ _ _ _ _ (Option.some.inj hf) rfl hP hD hS dX8_add_85
  · have c11 := fun q => c11 ((lg_cmp_le _ _).mpr q)
    replace hf := iq c11 hf
    refine lv_iload hx hb dX8_add_14 (lv_at hl 0 rfl) ?_
    refine lv_if_lt (tgt := 85) hx hb dX8_add_16 (by decide) (fun c16 => ?_) (fun c16 => ?_)
    · replace hf := ip c16 hf
      exact hRet _ _ _ _ _ _ (Option.some.inj hf) rfl hP hD hS dX8_add_85
    · replace hf := iq c16 hf
      refine lv_iload hx hb dX8_add_19 (lv_at hl 0 rfl) ?_
      refine lv_aload_n hx hb dX8_add_21 rfl (lv_at hl 1 rfl) ?_
      refine kget hX hP (q0 := 0) rfl rfl inX8 (k := 0) (by decide) rfl wd246 rfl dX8_add_22 ?_
      refine kalen hX hP (t0 := 1) rfl (q0 := 1) rfl (v := (4608 : Int32)) rfl dX8_add_25 ?_
      refine lv_icmp_ge (tgt := 85) hx hb dX8_add_26 (by decide) (fun c26 => ?_) (fun c26 => ?_)
      · replace hf := ip c26 hf
        exact hRet _ _ _ _ _ _ (Option.some.inj hf) rfl hP hD hS dX8_add_85
      · replace hf := iq c26 hf
        refine lv_aload_n hx hb dX8_add_29 rfl (lv_at hl 1 rfl) ?_
        refine kget hX hP (q0 := 0) rfl rfl inX8 (k := 0) (by decide) rfl wd246 rfl dX8_add_30 ?_
        refine lv_iload hx hb dX8_add_33 (lv_at hl 0 rfl) ?_
        refine klald hX hP rfl (q0 := 1) rfl (vpi (by decide) c16 c26) dX8_add_35 ?_
        refine lv_lconst (v := 0) hx hb dX8_add_36 (by decide) ?_
        refine W.lcmp hx hb dX8_add_37 ?_
        refine lv_if_ne (tgt := 74) hx hb dX8_add_38 (by decide) (fun c38 => ?_) (fun c38 => ?_)
        · have c38 := fun q => c38 ((lg_cmp_eq _ _).mpr q)
          replace hf := iq c38 hf
          exact hb74 _ _ s_number s_parts s_keys x3 v6 hP hD hS _ (lv_sub hl [1, 4, 0] rfl) hf
        · have c38 := (lg_cmp_eq _ _).mp c38
          replace hf := ip c38 hf
          refine lv_aload_n hx hb dX8_add_41 rfl (lv_at hl 1 rfl) ?_
          refine kget hX hP (q0 := 0) rfl rfl inX8 (k := 2) (by decide) rfl wd248 rfl dX8_add_42 ?_
          refine lv_aload_n hx hb dX8_add_45 rfl (lv_at hl 1 rfl) ?_
          refine kget hX hP (q0 := 0) rfl rfl inX8 (k := 1) (by decide) rfl wd247 rfl dX8_add_46 ?_
          refine kalen hX hP (t0 := 0) rfl (q0 := 2) rfl (v := (4608 : Int32)) rfl dX8_add_49 ?_
          refine lv_icmp_ge (tgt := 74) hx hb dX8_add_50 (by decide) (fun c50 => ?_) (fun c50 => ?_)
          · replace hf := ip c50 hf
            exact hb74 _ _ s_number s_parts s_keys x3 v6 hP hD hS _ (lv_sub hl [1, 4, 0] rfl) hf
          · replace hf := iq c50 hf
            refine lv_aload_n hx hb dX8_add_53 rfl (lv_at hl 1 rfl) ?_
            refine kget hX hP (q0 := 0) rfl rfl inX8 (k := 1) (by decide) rfl wd247 rfl dX8_add_54 ?_
            refine lv_aload_n hx hb dX8_add_57 rfl (lv_at hl 1 rfl) ?_
            refine kget hX hP (q0 := 0) rfl rfl inX8 (k := 2) (by decide) rfl wd248 rfl dX8_add_58 ?_
            refine lv_iload hx hb dX8_add_61 (lv_at hl 0 rfl) ?_
            obtain ⟨hg63_1, hf⟩ := gd_s hf
            refine kiast hX hP hD hS rfl (q0 := 2) rfl (inb_in hg63_1) dX8_add_63 (fun H locs hP hD hS => ?_)
            refine lv_aload_n hx hb dX8_add_64 rfl (lv_at hl 1 rfl) ?_
            refine lv_dup hx hb dX8_add_65 rfl ?_
            refine kget hX hP (q0 := 0) rfl rfl inX8 (k := 2) (by decide) rfl wd248 rfl dX8_add_66 ?_
            refine lv_iconst (v := 1) hx hb dX8_add_69 (by decide) ?_
            refine lv_iadd hx hb dX8_add_70 ?_
            refine kput hX hP hD hS (q0 := 0) rfl rfl inX8 tyX8_ok nmX8 (k := 2) (by decide) rfl wd248 rfl rfl (Nat.le_of_ble_eq_true rfl) dX8_add_71 (fun H locs hP hD hS => ?_)
            exact hb74 _ _ (s_number + (1 : Int32)) s_parts (upd s_keys s_number.toNatClampNeg v6) x3 v6 hP hD hS _ (lv_sub hl [1, 4, 0] rfl) hf
def p_X8_crossedOf (x0 : Int32) : (Int32) :=
  ((x0 / (9 : Int32)))
abbrev rm_X8_crossedOf : Room := { frames := 0, cells := 0, slots := 0, locals := 0 }
set_option maxHeartbeats 4000000 in
set_option maxRecDepth 100000 in
theorem c_X8_crossedOf (l : Launch) (D : va_G) (cI cJ cR : ClassId) (x0 : Int32) {o : Int32} (hf : p_X8_crossedOf x0 = o) : kMi l D (kT cI cJ cR) yX8_crossedOf cX8_crossedOf 1 (some .int) rm_X8_crossedOf [.int x0] [] (o) (fun w => w = []) := by
  apply kInI (o := o)
  · decide
  · exact Nat.le_of_ble_eq_true rfl
  intro p e s m args below meth c A ls Q hX hRet hP hD hS hl
  have hx := hX.1.1
  have hb := hX.1.2.1
  have hown := hX.1.2.2.2.1
  have hts := hX.1.2.2.2.2
  have hl : lv_has ls 1 [(0, .int x0)] := hl
  unfold p_X8_crossedOf at hf
  refine lv_iload_n hx hb dX8_crossedOf_0 rfl (lv_at hl 0 rfl) ?_
  refine lv_bipush (v := 9) hx hb dX8_crossedOf_1 (by decide) ?_
  refine lv_idiv hx hb dX8_crossedOf_3 (by decide) ?_
  exact hRet _ _ _ _ _ _ _ hf rfl rfl hP hD hS dX8_crossedOf_4
def p_X8_deskOf (x0 : Int32) : (Int32) :=
  ((x0 - x0 / (9 : Int32) * (9 : Int32)))
abbrev rm_X8_deskOf : Room := { frames := 0, cells := 0, slots := 0, locals := 0 }
set_option maxHeartbeats 4000000 in
set_option maxRecDepth 100000 in
theorem c_X8_deskOf (l : Launch) (D : va_G) (cI cJ cR : ClassId) (x0 : Int32) {o : Int32} (hf : p_X8_deskOf x0 = o) : kMi l D (kT cI cJ cR) yX8_deskOf cX8_deskOf 1 (some .int) rm_X8_deskOf [.int x0] [] (o) (fun w => w = []) := by
  apply kInI (o := o)
  · decide
  · exact Nat.le_of_ble_eq_true rfl
  intro p e s m args below meth c A ls Q hX hRet hP hD hS hl
  have hx := hX.1.1
  have hb := hX.1.2.1
  have hown := hX.1.2.2.2.1
  have hts := hX.1.2.2.2.2
  have hl : lv_has ls 1 [(0, .int x0)] := hl
  unfold p_X8_deskOf at hf
  refine lv_iload_n hx hb dX8_deskOf_0 rfl (lv_at hl 0 rfl) ?_
  refine lv_bipush (v := 9) hx hb dX8_deskOf_1 (by decide) ?_
  refine lv_irem hx hb dX8_deskOf_3 (by decide) ?_
  exact hRet _ _ _ _ _ _ _ hf rfl rfl hP hD hS dX8_deskOf_4
def p_X8_partOf (s_parts : (Nat → Int64)) (x1 : Int32) : (Int64) :=
  if x1 < 0 then ((0 : Int64)) else if (4608 : Int32) ≤ x1 then ((0 : Int64)) else ((s_parts x1.toNatClampNeg))
abbrev rm_X8_partOf : Room := { frames := 0, cells := 0, slots := 0, locals := 0 }
set_option maxHeartbeats 4000000 in
set_option maxRecDepth 100000 in
theorem c_X8_partOf (l : Launch) (D : va_G) (cI cJ cR : ClassId) (ad_s ad_s_parts ad_s_keys : Nat) (s_number : Int32) (s_partHome : Int64) (s_parts : (Nat → Int64)) (x1 : Int32) {o : Int64} (hf : p_X8_partOf s_parts x1 = o) : kMl l D (kT cI cJ cR) yX8_partOf cX8_partOf 2 (some .long) rm_X8_partOf [.ref ad_s, .int x1] [(ad_s, .inr (8, [.ref ad_s_parts, .ref ad_s_keys, .int s_number, .long s_partHome])), (ad_s_parts, .inl (cJ, 4608, .inr (.inl s_parts)))] (o) (fun w => w = [(ad_s, .inr (8, [.ref ad_s_parts, .ref ad_s_keys, .int s_number, .long s_partHome])), (ad_s_parts, .inl (cJ, 4608, .inr (.inl s_parts)))]) := by
  apply kInL (o := o)
  · decide
  · exact Nat.le_of_ble_eq_true rfl
  intro p e s m args below meth c A ls Q hX hRet hP hD hS hl
  have hx := hX.1.1
  have hb := hX.1.2.1
  have hown := hX.1.2.2.2.1
  have hts := hX.1.2.2.2.2
  have hl : lv_has ls 2 [(0, .ref ad_s), (1, .int x1)] := hl
  unfold p_X8_partOf at hf
  refine lv_iload_n hx hb dX8_partOf_0 rfl (lv_at hl 1 rfl) ?_
  refine lv_if_lt (tgt := 22) hx hb dX8_partOf_1 (by decide) (fun c1 => ?_) (fun c1 => ?_)
  · replace hf := ip c1 hf
    refine lv_lconst (v := 0) hx hb dX8_partOf_22 (by decide) ?_
    exact hRet _ _ _ _ _ _ _ hf rfl rfl hP hD hS dX8_partOf_23
  · replace hf := iq c1 hf
    refine lv_iload_n hx hb dX8_partOf_4 rfl (lv_at hl 1 rfl) ?_
    refine lv_aload_n hx hb dX8_partOf_5 rfl (lv_at hl 0 rfl) ?_
    refine kget hX hP (q0 := 0) rfl rfl inX8 (k := 0) (by decide) rfl wd246 rfl dX8_partOf_6 ?_
    refine kalen hX hP (t0 := 1) rfl (q0 := 1) rfl (v := (4608 : Int32)) rfl dX8_partOf_9 ?_
    refine lv_icmp_ge (tgt := 22) hx hb dX8_partOf_10 (by decide) (fun c10 => ?_) (fun c10 => ?_)
    · replace hf := ip c10 hf
      refine lv_lconst (v := 0) hx hb dX8_partOf_22 (by decide) ?_
      exact hRet _ _ _ _ _ _ _ hf rfl rfl hP hD hS dX8_partOf_23
    · replace hf := iq c10 hf
      refine lv_aload_n hx hb dX8_partOf_13 rfl (lv_at hl 0 rfl) ?_
      refine kget hX hP (q0 := 0) rfl rfl inX8 (k := 0) (by decide) rfl wd246 rfl dX8_partOf_14 ?_
      refine lv_iload_n hx hb dX8_partOf_17 rfl (lv_at hl 1 rfl) ?_
      refine klald hX hP rfl (q0 := 1) rfl (vpi (by decide) c1 c10) dX8_partOf_18 ?_
      refine lv_goto (tgt := 23) hx hb dX8_partOf_19 (by decide) ?_
      exact hRet _ _ _ _ _ _ _ hf rfl rfl hP hD hS dX8_partOf_23
def f_X9_signHere (N : Nat) (s_at : Int32) (s_signed : Int32) (s_crossed : Int32) (s_signers : (Nat → Int32)) : Option (Int32 × Int32 × (Nat → Int32)) :=
  if ((s_crossed >>> (s_at &&& 31)) &&& (1 : Int32)) = 0 then if (9 : Int32) ≤ s_signed then some (s_signed, s_crossed, s_signers) else gd (inb s_signed 9 = true) (some ((s_signed + (1 : Int32)), (s_crossed ||| ((1 : Int32) <<< (s_at &&& 31))), (upd s_signers s_signed.toNatClampNeg s_at))) else some (s_signed, s_crossed, s_signers)
abbrev rm_X9_signHere : Room := { frames := 0, cells := 0, slots := 0, locals := 0 }
set_option maxHeartbeats 4000000 in
set_option maxRecDepth 100000 in
theorem c_X9_signHere (l : Launch) (D : va_G) (cI cJ cR : ClassId) (N : Nat) (ad_s ad_s_signers : Nat) (s_signed : Int32) (s_at : Int32) (s_crossed : Int32) (s_target : Int32) (s_heap : Int32) (s_signers : (Nat → Int32)) {o : Int32 × Int32 × (Nat → Int32)} (hf : f_X9_signHere N s_at s_signed s_crossed s_signers = some o) : kMv l D (kT cI cJ cR) yX9_signHere cX9_signHere 1 none rm_X9_signHere [.ref ad_s] [(ad_s, .inr (9, [.ref ad_s_signers, .int s_signed, .int s_at, .int s_crossed, .int s_target, .int s_heap])), (ad_s_signers, .inl (cI, 9, .inl s_signers))] 0 0 (fun w => w = [(ad_s, .inr (9, [.ref ad_s_signers, .int o.1, .int s_at, .int o.2.1, .int s_target, .int s_heap])), (ad_s_signers, .inl (cI, 9, .inl o.2.2))]) := by
  apply kInV (o := o)
  · decide
  · exact Nat.le_of_ble_eq_true rfl
  intro p e s m args below meth c A ls Q hX hRet hP hD hS hl
  have hx := hX.1.1
  have hb := hX.1.2.1
  have hown := hX.1.2.2.2.1
  have hts := hX.1.2.2.2.2
  have hl : lv_has ls 1 [(0, .ref ad_s)] := hl
  unfold f_X9_signHere at hf
  refine lv_aload_n hx hb dX9_signHere_0 rfl (lv_at hl 0 rfl) ?_
  refine kget hX hP (q0 := 0) rfl rfl inX9 (k := 3) (by decide) rfl wd172 rfl dX9_signHere_1 ?_
  refine lv_aload_n hx hb dX9_signHere_4 rfl (lv_at hl 0 rfl) ?_
  refine kget hX hP (q0 := 0) rfl rfl inX9 (k := 2) (by decide) rfl wd169 rfl dX9_signHere_5 ?_
  refine lv_ishr hx hb dX9_signHere_8 ?_
  refine lv_iconst (v := 1) hx hb dX9_signHere_9 (by decide) ?_
  refine lv_iand hx hb dX9_signHere_10 ?_
  refine lv_if_ne (tgt := 64) hx hb dX9_signHere_11 (by decide) (fun c11 => ?_) (fun c11 => ?_)
  · replace hf := iq c11 hf
    exact hRet _ _ _ _ _ _ (Option.some.inj hf) rfl hP hD hS dX9_signHere_64
  · replace hf := ip c11 hf
    refine lv_aload_n hx hb dX9_signHere_14 rfl (lv_at hl 0 rfl) ?_
    refine kget hX hP (q0 := 0) rfl rfl inX9 (k := 1) (by decide) rfl wd167 rfl dX9_signHere_15 ?_
    refine lv_aload_n hx hb dX9_signHere_18 rfl (lv_at hl 0 rfl) ?_
    refine kget hX hP (q0 := 0) rfl rfl inX9 (k := 0) (by decide) rfl wd166 rfl dX9_signHere_19 ?_
    refine kalen hX hP (t0 := 0) rfl (q0 := 1) rfl (v := (9 : Int32)) rfl dX9_signHere_22 ?_
    refine lv_icmp_ge (tgt := 64) hx hb dX9_signHere_23 (by decide) (fun c23 => ?_) (fun c23 => ?_)
    · replace hf := ip c23 hf
      exact hRet _ _ _ _ _ _ (Option.some.inj hf) rfl hP hD hS dX9_signHere_64
    · replace hf := iq c23 hf
      refine lv_aload_n hx hb dX9_signHere_26 rfl (lv_at hl 0 rfl) ?_
      refine kget hX hP (q0 := 0) rfl rfl inX9 (k := 0) (by decide) rfl wd166 rfl dX9_signHere_27 ?_
      refine lv_aload_n hx hb dX9_signHere_30 rfl (lv_at hl 0 rfl) ?_
      refine kget hX hP (q0 := 0) rfl rfl inX9 (k := 1) (by decide) rfl wd167 rfl dX9_signHere_31 ?_
      refine lv_aload_n hx hb dX9_signHere_34 rfl (lv_at hl 0 rfl) ?_
      refine kget hX hP (q0 := 0) rfl rfl inX9 (k := 2) (by decide) rfl wd169 rfl dX9_signHere_35 ?_
      obtain ⟨hg38_1, hf⟩ := gd_s hf
      refine kiast hX hP hD hS rfl (q0 := 1) rfl (inb_in hg38_1) dX9_signHere_38 (fun H locs hP hD hS => ?_)
      refine lv_aload_n hx hb dX9_signHere_39 rfl (lv_at hl 0 rfl) ?_
      refine lv_dup hx hb dX9_signHere_40 rfl ?_
      refine kget hX hP (q0 := 0) rfl rfl inX9 (k := 1) (by decide) rfl wd167 rfl dX9_signHere_41 ?_
      refine lv_iconst (v := 1) hx hb dX9_signHere_44 (by decide) ?_
      refine lv_iadd hx hb dX9_signHere_45 ?_
      refine kput hX hP hD hS (q0 := 0) rfl rfl inX9 tyX9_ok nmX9 (k := 1) (by decide) rfl wd167 rfl rfl (Nat.le_of_ble_eq_true rfl) dX9_signHere_46 (fun H locs hP hD hS => ?_)
      refine lv_aload_n hx hb dX9_signHere_49 rfl (lv_at hl 0 rfl) ?_
      refine lv_dup hx hb dX9_signHere_50 rfl ?_
      refine kget hX hP (q0 := 0) rfl rfl inX9 (k := 3) (by decide) rfl wd172 rfl dX9_signHere_51 ?_
      refine lv_iconst (v := 1) hx hb dX9_signHere_54 (by decide) ?_
      refine lv_aload_n hx hb dX9_signHere_55 rfl (lv_at hl 0 rfl) ?_
      refine kget hX hP (q0 := 0) rfl rfl inX9 (k := 2) (by decide) rfl wd169 rfl dX9_signHere_56 ?_
      refine lv_ishl hx hb dX9_signHere_59 ?_
      refine lv_ior hx hb dX9_signHere_60 ?_
      refine kput hX hP hD hS (q0 := 0) rfl rfl inX9 tyX9_ok nmX9 (k := 3) (by decide) rfl wd172 rfl rfl (Nat.le_of_ble_eq_true rfl) dX9_signHere_61 (fun H locs hP hD hS => ?_)
      exact hRet _ _ _ _ _ _ (Option.some.inj hf) rfl hP hD hS dX9_signHere_64
def f_X9_passHour_b97 (N : Nat) (q1_number : Int32) (q1_facts : (Nat → Int32)) (s_signed : Int32) (s_at : Int32) (s_crossed : Int32) (s_target : Int32) (s_heap : Int32) (s_signers : (Nat → Int32)) : Option (Int32 × Int32 × Int32 × Int32 × Int32 × (Nat → Int32)) :=
  if s_target = (-1 : Int32) then some (s_signed, s_at, s_crossed, s_target, (0 : Int32), s_signers) else some (s_signed, s_at, s_crossed, s_target, (p_X1_heapOf q1_number q1_facts s_at), s_signers)
def f_X9_passHour_b28 (N : Nat) (k97 : Int32 → Int32 → Int32 → Int32 → Int32 → (Nat → Int32) → Option (Int32 × Int32 × Int32 × Int32 × Int32 × (Nat → Int32))) (q1_number : Int32) (q1_facts : (Nat → Int32)) : Nat → Int32 → Int32 → Int32 → Int32 → Int32 → (Nat → Int32) → Int32 → Int32 → Int32 → Option (Int32 × Int32 × Int32 × Int32 × Int32 × (Nat → Int32))
  | 0, _, _, _, _, _, _, _, _, _ => none
  | n28 + 1, s_signed, s_at, s_crossed, s_target, s_heap, s_signers, x4, x5, x6 => if (9 : Int32) ≤ x6 then some (s_signed, s_at, s_crossed, s_target, s_heap, s_signers) else if (p_X1_isAway q1_number q1_facts s_at x4) = 0 then bn (f_X9_signHere N s_at s_signed s_crossed s_signers) (fun z55_1 => bn (f_X1_nextOf N q1_number q1_facts s_at z55_1.2.1 x4 x5) (fun z72_2 => if z72_2 < 0 then k97 z55_1.1 s_at z55_1.2.1 z72_2 s_heap z55_1.2.2 else if (p_X1_isOfKind q1_number q1_facts s_at (1 : Int32)) = 0 then k97 z55_1.1 s_at z55_1.2.1 z72_2 s_heap z55_1.2.2 else (f_X9_passHour_b28 N k97 q1_number q1_facts n28) z55_1.1 z72_2 z55_1.2.1 z72_2 s_heap z55_1.2.2 x4 x5 (x6 + (1 : Int32)))) else some (s_signed, s_at, s_crossed, (-1 : Int32), s_heap, s_signers)
def f_X9_passHour (N : Nat) (q1_number : Int32) (q1_facts : (Nat → Int32)) (s_signed : Int32) (s_at : Int32) (s_crossed : Int32) (s_target : Int32) (s_heap : Int32) (s_signers : (Nat → Int32)) (x2 : Int32) (x3 : Int32) (x4 : Int32) (x5 : Int32) : Option (Int32 × Int32 × Int32 × Int32 × Int32 × (Nat → Int32)) :=
  (f_X9_passHour_b28 N (f_X9_passHour_b97 N q1_number q1_facts) q1_number q1_facts N) (0 : Int32) x2 x3 (-1 : Int32) (0 : Int32) s_signers x4 x5 (0 : Int32)
abbrev rm_X9_passHour : Room := { frames := 3, cells := 0, slots := 0, locals := 91 }
set_option maxHeartbeats 4000000 in
set_option maxRecDepth 100000 in
theorem c_X9_passHour (l : Launch) (D : va_G) (cI cJ cR : ClassId) (N : Nat) (ad_s ad_s_signers ad_q1 ad_q1_facts : Nat) (s_signed : Int32) (s_at : Int32) (s_crossed : Int32) (s_target : Int32) (s_heap : Int32) (s_signers : (Nat → Int32)) (q1_number : Int32) (q1_facts : (Nat → Int32)) (x2 : Int32) (x3 : Int32) (x4 : Int32) (x5 : Int32) {o : Int32 × Int32 × Int32 × Int32 × Int32 × (Nat → Int32)} (hf : f_X9_passHour N q1_number q1_facts s_signed s_at s_crossed s_target s_heap s_signers x2 x3 x4 x5 = some o) : kMv l D (kT cI cJ cR) yX9_passHour cX9_passHour 7 none rm_X9_passHour [.ref ad_s, .ref ad_q1, .int x2, .int x3, .int x4, .int x5] [(ad_s, .inr (9, [.ref ad_s_signers, .int s_signed, .int s_at, .int s_crossed, .int s_target, .int s_heap])), (ad_s_signers, .inl (cI, 9, .inl s_signers)), (ad_q1, .inr (1, [.ref ad_q1_facts, .int q1_number])), (ad_q1_facts, .inl (cI, 54, .inl q1_facts))] 0 0 (fun w => w = [(ad_s, .inr (9, [.ref ad_s_signers, .int o.1, .int o.2.1, .int o.2.2.1, .int o.2.2.2.1, .int o.2.2.2.2.1])), (ad_s_signers, .inl (cI, 9, .inl o.2.2.2.2.2)), (ad_q1, .inr (1, [.ref ad_q1_facts, .int q1_number])), (ad_q1_facts, .inl (cI, 54, .inl q1_facts))]) := by
  apply kInV (o := o)
  · decide
  · exact Nat.le_of_ble_eq_true rfl
  intro p e s m args below meth c A ls Q hX hRet hP hD hS hl
  have hx := hX.1.1
  have hb := hX.1.2.1
  have hown := hX.1.2.2.2.1
  have hts := hX.1.2.2.2.2
  have hl : lv_has ls 7 [(0, .ref ad_s), (1, .ref ad_q1), (2, .int x2), (3, .int x3), (4, .int x4), (5, .int x5)] := hl
  have hb97 : ∀ (H : Heap) (locs : List Loc) (s_signed : Int32) (s_at : Int32) (s_crossed : Int32) (s_target : Int32) (s_heap : Int32) (s_signers : (Nat → Int32)), va_P D vwCl [(ad_s, .inr (9, [.ref ad_s_signers, .int s_signed, .int s_at, .int s_crossed, .int s_target, .int s_heap])), (ad_s_signers, .inl (cI, 9, .inl s_signers)), (ad_q1, .inr (1, [.ref ad_q1_facts, .int q1_number])), (ad_q1_facts, .inl (cI, 54, .inl q1_facts))] H → va_D A [(ad_s, .inr (9, [.ref ad_s_signers, .int s_signed, .int s_at, .int s_crossed, .int s_target, .int s_heap])), (ad_s_signers, .inl (cI, 9, .inl s_signers)), (ad_q1, .inr (1, [.ref ad_q1_facts, .int q1_number])), (ad_q1_facts, .inl (cI, 54, .inl q1_facts))] → va_S A s.heap H locs → ∀ ls : Array Slot, lv_has ls 7 [(0, .ref ad_s), (1, .ref ad_q1)] → (f_X9_passHour_b97 N q1_number q1_facts) s_signed s_at s_crossed s_target s_heap s_signers = some o → W p l e rm_X9_passHour s m args below meth c H locs 0 0 Q (F0 m 97 ls []) := by
    intro H locs s_signed s_at s_crossed s_target s_heap s_signers hP hD hS ls hl hf
    unfold f_X9_passHour_b97 at hf
    refine lv_aload_n hx hb dX9_passHour_97 rfl (lv_at hl 0 rfl) ?_
    refine lv_aload_n hx hb dX9_passHour_98 rfl (lv_at hl 0 rfl) ?_
    refine kget hX hP (q0 := 0) rfl rfl inX9 (k := 4) (by decide) rfl wd174 rfl dX9_passHour_99 ?_
    refine lv_iconst (v := -1) hx hb dX9_passHour_102 (by decide) ?_
    refine lv_icmp_ne (tgt := 110) hx hb dX9_passHour_103 (by decide) (fun c103 => ?_) (fun c103 => ?_)
    · replace hf := iq c103 hf
      refine lv_aload_n hx hb dX9_passHour_110 rfl (lv_at hl 1 rfl) ?_
      refine lv_aload_n hx hb dX9_passHour_111 rfl (lv_at hl 0 rfl) ?_
      refine kget hX hP (q0 := 0) rfl rfl inX9 (k := 2) (by decide) rfl wd169 rfl dX9_passHour_112 ?_
      refine kVi (rest := [.ref ad_s]) hX (c_X1_heapOf l D cI cJ cR ad_q1 ad_q1_facts q1_number q1_facts s_at rfl) kc_X1_heapOf wd494 ⟨Nat.le_of_ble_eq_true rfl, Nat.le_of_ble_eq_true rfl⟩ ⟨rfl, rfl⟩ hP hD hS (ci := 1) rfl rfl (q0 := 2) rfl [2, 3] rfl (by decide) (fun w h => by cases h; rfl) rfl rfl (Nat.le_of_ble_eq_true rfl) hl.1 ⟨Nat.zero_le _, Nat.zero_le _⟩ dX9_passHour_115 (fun H locs w1 hw1 hP hD hS => ?_)
      cases hw1
      have hP : va_P D vwCl [(ad_s, .inr (9, [.ref ad_s_signers, .int s_signed, .int s_at, .int s_crossed, .int s_target, .int s_heap])), (ad_s_signers, .inl (cI, 9, .inl s_signers)), (ad_q1, .inr (1, [.ref ad_q1_facts, .int q1_number])), (ad_q1_facts, .inl (cI, 54, .inl q1_facts))] H := hP
      have hD : va_D A [(ad_s, .inr (9, [.ref ad_s_signers, .int s_signed, .int s_at, .int s_crossed, .int s_target, .int s_heap])), (ad_s_signers, .inl (cI, 9, .inl s_signers)), (ad_q1, .inr (1, [.ref ad_q1_facts, .int q1_number])), (ad_q1_facts, .inl (cI, 54, .inl q1_facts))] := hD
      refine kput hX hP hD hS (q0 := 0) rfl rfl inX9 tyX9_ok nmX9 (k := 5) (by decide) rfl wd177 rfl rfl (Nat.le_of_ble_eq_true rfl) dX9_passHour_118 (fun H locs hP hD hS => ?_)
      exact hRet _ _ _ _ _ _ (Option.some.inj hf) rfl hP hD hS dX9_passHour_121
    · replace hf := ip c103 hf
      refine lv_iconst (v := 0) hx hb dX9_passHour_106 (by decide) ?_
      refine lv_goto (tgt := 118) hx hb dX9_passHour_107 (by decide) ?_
      refine kput hX hP hD hS (q0 := 0) rfl rfl inX9 tyX9_ok nmX9 (k := 5) (by decide) rfl wd177 rfl rfl (Nat.le_of_ble_eq_true rfl) dX9_passHour_118 (fun H locs hP hD hS => ?_)
      exact hRet _ _ _ _ _ _ (Option.some.inj hf) rfl hP hD hS dX9_passHour_121
  have hb28 : ∀ n28 : Nat, ∀ (H : Heap) (locs : List Loc) (s_signed : Int32) (s_at : Int32) (s_crossed : Int32) (s_target : Int32) (s_heap : Int32) (s_signers : (Nat → Int32)) (x4 : Int32) (x5 : Int32) (x6 : Int32), va_P D vwCl [(ad_s, .inr (9, [.ref ad_s_signers, .int s_signed, .int s_at, .int s_crossed, .int s_target, .int s_heap])), (ad_s_signers, .inl (cI, 9, .inl s_signers)), (ad_q1, .inr (1, [.ref ad_q1_facts, .int q1_number])), (ad_q1_facts, .inl (cI, 54, .inl q1_facts))] H → va_D A [(ad_s, .inr (9, [.ref ad_s_signers, .int s_signed, .int s_at, .int s_crossed, .int s_target, .int s_heap])), (ad_s_signers, .inl (cI, 9, .inl s_signers)), (ad_q1, .inr (1, [.ref ad_q1_facts, .int q1_number])), (ad_q1_facts, .inl (cI, 54, .inl q1_facts))] → va_S A s.heap H locs → ∀ ls : Array Slot, lv_has ls 7 [(0, .ref ad_s), (1, .ref ad_q1), (4, .int x4), (5, .int x5), (6, .int x6)] → f_X9_passHour_b28 N (f_X9_passHour_b97 N q1_number q1_facts) q1_number q1_facts n28 s_signed s_at s_crossed s_target s_heap s_signers x4 x5 x6 = some o → W p l e rm_X9_passHour s m args below meth c H locs 0 0 Q (F0 m 28 ls []) := by
    intro n28
    induction n28 with
    | zero =>
      intro H locs s_signed s_at s_crossed s_target s_heap s_signers x4 x5 x6 hP hD hS ls hl hf
      rw [f_X9_passHour_b28] at hf
      cases hf
    | succ n28 ih28 =>
      intro H locs s_signed s_at s_crossed s_target s_heap s_signers x4 x5 x6 hP hD hS ls hl hf
      rw [f_X9_passHour_b28] at hf
      refine lv_iload hx hb dX9_passHour_28 (lv_at hl 4 rfl) ?_
      refine lv_bipush (v := 9) hx hb dX9_passHour_30 (by decide) ?_
      refine lv_icmp_ge (tgt := 136) hx hb dX9_passHour_32 (by decide) (fun c32 => ?_) (fun c32 => ?_)
      · replace hf := ip c32 hf
        exact hRet _ _ _ _ _ _ (Option.some.inj hf) rfl hP hD hS dX9_passHour_136
      · replace hf := iq c32 hf
        refine lv_aload_n hx hb dX9_passHour_35 rfl (lv_at hl 0 rfl) ?_
        refine lv_iconst (v := -1) hx hb dX9_passHour_36 (by decide) ?_
        refine kput hX hP hD hS (q0 := 0) rfl rfl inX9 tyX9_ok nmX9 (k := 4) (by decide) rfl wd174 rfl rfl (Nat.le_of_ble_eq_true rfl) dX9_passHour_37 (fun H locs hP hD hS => ?_)
        refine lv_aload_n hx hb dX9_passHour_40 rfl (lv_at hl 1 rfl) ?_
        refine lv_aload_n hx hb dX9_passHour_41 rfl (lv_at hl 0 rfl) ?_
        refine kget hX hP (q0 := 0) rfl rfl inX9 (k := 2) (by decide) rfl wd169 rfl dX9_passHour_42 ?_
        refine lv_iload hx hb dX9_passHour_45 (lv_at hl 2 rfl) ?_
        refine kVi (rest := []) hX (c_X1_isAway l D cI cJ cR ad_q1 ad_q1_facts q1_number q1_facts s_at x4 rfl) kc_X1_isAway wd463 ⟨Nat.le_of_ble_eq_true rfl, Nat.le_of_ble_eq_true rfl⟩ ⟨rfl, rfl⟩ hP hD hS (ci := 1) rfl rfl (q0 := 2) rfl [2, 3] rfl (by decide) (fun w h => by cases h; rfl) rfl rfl (Nat.le_of_ble_eq_true rfl) hl.1 ⟨Nat.zero_le _, Nat.zero_le _⟩ dX9_passHour_47 (fun H locs w1 hw1 hP hD hS => ?_)
        cases hw1
        have hP : va_P D vwCl [(ad_s, .inr (9, [.ref ad_s_signers, .int s_signed, .int s_at, .int s_crossed, .int (-1 : Int32), .int s_heap])), (ad_s_signers, .inl (cI, 9, .inl s_signers)), (ad_q1, .inr (1, [.ref ad_q1_facts, .int q1_number])), (ad_q1_facts, .inl (cI, 54, .inl q1_facts))] H := hP
        have hD : va_D A [(ad_s, .inr (9, [.ref ad_s_signers, .int s_signed, .int s_at, .int s_crossed, .int (-1 : Int32), .int s_heap])), (ad_s_signers, .inl (cI, 9, .inl s_signers)), (ad_q1, .inr (1, [.ref ad_q1_facts, .int q1_number])), (ad_q1_facts, .inl (cI, 54, .inl q1_facts))] := hD
        refine lv_if_eq (tgt := 54) hx hb dX9_passHour_50 (by decide) (fun c50 => ?_) (fun c50 => ?_)
        · replace hf := ip c50 hf
          refine lv_aload_n hx hb dX9_passHour_54 rfl (lv_at hl 0 rfl) ?_
          obtain ⟨z55_1, hz55_1, hf⟩ := bn_s hf
          refine kVv (rest := []) hX (c_X9_signHere l D cI cJ cR N ad_s ad_s_signers s_signed s_at s_crossed (-1 : Int32) s_heap s_signers hz55_1) kc_X9_signHere wd471 ⟨Nat.le_of_ble_eq_true rfl, Nat.le_of_ble_eq_true rfl⟩ ⟨rfl, rfl⟩ hP hD hS (ci := 9) rfl rfl (q0 := 0) rfl [0, 1] rfl (by decide) (fun w h => by cases h; rfl) rfl rfl (Nat.le_of_ble_eq_true rfl) hl.1 ⟨Nat.zero_le _, Nat.zero_le _⟩ dX9_passHour_55 (fun H locs w1 hw1 hP hD hS => ?_)
          cases hw1
          have hP : va_P D vwCl [(ad_s, .inr (9, [.ref ad_s_signers, .int z55_1.1, .int s_at, .int z55_1.2.1, .int (-1 : Int32), .int s_heap])), (ad_s_signers, .inl (cI, 9, .inl z55_1.2.2)), (ad_q1, .inr (1, [.ref ad_q1_facts, .int q1_number])), (ad_q1_facts, .inl (cI, 54, .inl q1_facts))] H := hP
          have hD : va_D A [(ad_s, .inr (9, [.ref ad_s_signers, .int z55_1.1, .int s_at, .int z55_1.2.1, .int (-1 : Int32), .int s_heap])), (ad_s_signers, .inl (cI, 9, .inl z55_1.2.2)), (ad_q1, .inr (1, [.ref ad_q1_facts, .int q1_number])), (ad_q1_facts, .inl (cI, 54, .inl q1_facts))] := hD
          refine lv_aload_n hx hb dX9_passHour_58 rfl (lv_at hl 0 rfl) ?_
          refine lv_aload_n hx hb dX9_passHour_59 rfl (lv_at hl 1 rfl) ?_
          refine lv_aload_n hx hb dX9_passHour_60 rfl (lv_at hl 0 rfl) ?_
          refine kget hX hP (q0 := 0) rfl rfl inX9 (k := 2) (by decide) rfl wd169 rfl dX9_passHour_61 ?_
          refine lv_aload_n hx hb dX9_passHour_64 rfl (lv_at hl 0 rfl) ?_
          refine kget hX hP (q0 := 0) rfl rfl inX9 (k := 3) (by decide) rfl wd172 rfl dX9_passHour_65 ?_
          refine lv_iload hx hb dX9_passHour_68 (lv_at hl 2 rfl) ?_
          refine lv_iload hx hb dX9_passHour_70 (lv_at hl 3 rfl) ?_
          obtain ⟨z72_2, hz72_2, hf⟩ := bn_s hf
          refine kVi (rest := [.ref ad_s]) hX (c_X1_nextOf l D cI cJ cR N ad_q1 ad_q1_facts q1_number q1_facts s_at z55_1.2.1 x4 x5 hz72_2) kc_X1_nextOf wd475 ⟨Nat.le_of_ble_eq_true rfl, Nat.le_of_ble_eq_true rfl⟩ ⟨rfl, rfl⟩ hP hD hS (ci := 1) rfl rfl (q0 := 2) rfl [2, 3] rfl (by decide) (fun w h => by cases h; rfl) rfl rfl (Nat.le_of_ble_eq_true rfl) hl.1 ⟨Nat.zero_le _, Nat.zero_le _⟩ dX9_passHour_72 (fun H locs w1 hw1 hP hD hS => ?_)
          cases hw1
          have hP : va_P D vwCl [(ad_s, .inr (9, [.ref ad_s_signers, .int z55_1.1, .int s_at, .int z55_1.2.1, .int (-1 : Int32), .int s_heap])), (ad_s_signers, .inl (cI, 9, .inl z55_1.2.2)), (ad_q1, .inr (1, [.ref ad_q1_facts, .int q1_number])), (ad_q1_facts, .inl (cI, 54, .inl q1_facts))] H := hP
          have hD : va_D A [(ad_s, .inr (9, [.ref ad_s_signers, .int z55_1.1, .int s_at, .int z55_1.2.1, .int (-1 : Int32), .int s_heap])), (ad_s_signers, .inl (cI, 9, .inl z55_1.2.2)), (ad_q1, .inr (1, [.ref ad_q1_facts, .int q1_number])), (ad_q1_facts, .inl (cI, 54, .inl q1_facts))] := hD
          refine kput hX hP hD hS (q0 := 0) rfl rfl inX9 tyX9_ok nmX9 (k := 4) (by decide) rfl wd174 rfl rfl (Nat.le_of_ble_eq_true rfl) dX9_passHour_75 (fun H locs hP hD hS => ?_)
          refine lv_aload_n hx hb dX9_passHour_78 rfl (lv_at hl 0 rfl) ?_
          refine kget hX hP (q0 := 0) rfl rfl inX9 (k := 4) (by decide) rfl wd174 rfl dX9_passHour_79 ?_
          refine lv_if_lt (tgt := 97) hx hb dX9_passHour_82 (by decide) (fun c82 => ?_) (fun c82 => ?_)
          · replace hf := ip c82 hf
            exact hb97 _ _ z55_1.1 s_at z55_1.2.1 z72_2 s_heap z55_1.2.2 hP hD hS _ (lv_sub hl [0, 1] rfl) hf
          · replace hf := iq c82 hf
            refine lv_aload_n hx hb dX9_passHour_85 rfl (lv_at hl 1 rfl) ?_
            refine lv_aload_n hx hb dX9_passHour_86 rfl (lv_at hl 0 rfl) ?_
            refine kget hX hP (q0 := 0) rfl rfl inX9 (k := 2) (by decide) rfl wd169 rfl dX9_passHour_87 ?_
            refine lv_iconst (v := 1) hx hb dX9_passHour_90 (by decide) ?_
            refine kVi (rest := []) hX (c_X1_isOfKind l D cI cJ cR ad_q1 ad_q1_facts q1_number q1_facts s_at (1 : Int32) rfl) kc_X1_isOfKind wd490 ⟨Nat.le_of_ble_eq_true rfl, Nat.le_of_ble_eq_true rfl⟩ ⟨rfl, rfl⟩ hP hD hS (ci := 1) rfl rfl (q0 := 2) rfl [2, 3] rfl (by decide) (fun w h => by cases h; rfl) rfl rfl (Nat.le_of_ble_eq_true rfl) hl.1 ⟨Nat.zero_le _, Nat.zero_le _⟩ dX9_passHour_91 (fun H locs w1 hw1 hP hD hS => ?_)
            cases hw1
            have hP : va_P D vwCl [(ad_s, .inr (9, [.ref ad_s_signers, .int z55_1.1, .int s_at, .int z55_1.2.1, .int z72_2, .int s_heap])), (ad_s_signers, .inl (cI, 9, .inl z55_1.2.2)), (ad_q1, .inr (1, [.ref ad_q1_facts, .int q1_number])), (ad_q1_facts, .inl (cI, 54, .inl q1_facts))] H := hP
            have hD : va_D A [(ad_s, .inr (9, [.ref ad_s_signers, .int z55_1.1, .int s_at, .int z55_1.2.1, .int z72_2, .int s_heap])), (ad_s_signers, .inl (cI, 9, .inl z55_1.2.2)), (ad_q1, .inr (1, [.ref ad_q1_facts, .int q1_number])), (ad_q1_facts, .inl (cI, 54, .inl q1_facts))] := hD
            refine lv_if_ne (tgt := 122) hx hb dX9_passHour_94 (by decide) (fun c94 => ?_) (fun c94 => ?_)
            · replace hf := iq c94 hf
              refine lv_aload_n hx hb dX9_passHour_122 rfl (lv_at hl 0 rfl) ?_
              refine lv_aload_n hx hb dX9_passHour_123 rfl (lv_at hl 0 rfl) ?_
              refine kget hX hP (q0 := 0) rfl rfl inX9 (k := 4) (by decide) rfl wd174 rfl dX9_passHour_124 ?_
              refine kput hX hP hD hS (q0 := 0) rfl rfl inX9 tyX9_ok nmX9 (k := 2) (by decide) rfl wd169 rfl rfl (Nat.le_of_ble_eq_true rfl) dX9_passHour_127 (fun H locs hP hD hS => ?_)
              refine lv_iinc (v := (x6 + (1 : Int32))) (lv' := [(6, .int (x6 + (1 : Int32))), (0, .ref ad_s), (1, .ref ad_q1), (4, .int x4), (5, .int x5)]) hx hb dX9_passHour_130 hl (k := 4) rfl rfl (by decide) rfl (fun ls hl => ?_)
              refine lv_goto (tgt := 28) hx hb dX9_passHour_133 (by decide) ?_
              exact ih28 _ _ z55_1.1 z72_2 z55_1.2.1 z72_2 s_heap z55_1.2.2 x4 x5 (x6 + (1 : Int32)) hP hD hS _ (lv_sub hl [1, 2, 3, 4, 0] rfl) hf
            · replace hf := ip c94 hf
              exact hb97 _ _ z55_1.1 s_at z55_1.2.1 z72_2 s_heap z55_1.2.2 hP hD hS _ (lv_sub hl [0, 1] rfl) hf
        · replace hf := iq c50 hf
          exact hRet _ _ _ _ _ _ (Option.some.inj hf) rfl hP hD hS dX9_passHour_53
  unfold f_X9_passHour at hf
  refine lv_aload_n hx hb dX9_passHour_0 rfl (lv_at hl 0 rfl) ?_
  refine lv_iconst (v := 0) hx hb dX9_passHour_1 (by decide) ?_
  refine kput hX hP hD hS (q0 := 0) rfl rfl inX9 tyX9_ok nmX9 (k := 1) (by decide) rfl wd167 rfl rfl (Nat.le_of_ble_eq_true rfl) dX9_passHour_2 (fun H locs hP hD hS => ?_)
  refine lv_aload_n hx hb dX9_passHour_5 rfl (lv_at hl 0 rfl) ?_
  refine lv_iload_n hx hb dX9_passHour_6 rfl (lv_at hl 2 rfl) ?_
  refine kput hX hP hD hS (q0 := 0) rfl rfl inX9 tyX9_ok nmX9 (k := 2) (by decide) rfl wd169 rfl rfl (Nat.le_of_ble_eq_true rfl) dX9_passHour_7 (fun H locs hP hD hS => ?_)
  refine lv_aload_n hx hb dX9_passHour_10 rfl (lv_at hl 0 rfl) ?_
  refine lv_iload_n hx hb dX9_passHour_11 rfl (lv_at hl 3 rfl) ?_
  refine kput hX hP hD hS (q0 := 0) rfl rfl inX9 tyX9_ok nmX9 (k := 3) (by decide) rfl wd172 rfl rfl (Nat.le_of_ble_eq_true rfl) dX9_passHour_12 (fun H locs hP hD hS => ?_)
  refine lv_aload_n hx hb dX9_passHour_15 rfl (lv_at hl 0 rfl) ?_
  refine lv_iconst (v := -1) hx hb dX9_passHour_16 (by decide) ?_
  refine kput hX hP hD hS (q0 := 0) rfl rfl inX9 tyX9_ok nmX9 (k := 4) (by decide) rfl wd174 rfl rfl (Nat.le_of_ble_eq_true rfl) dX9_passHour_17 (fun H locs hP hD hS => ?_)
  refine lv_aload_n hx hb dX9_passHour_20 rfl (lv_at hl 0 rfl) ?_
  refine lv_iconst (v := 0) hx hb dX9_passHour_21 (by decide) ?_
  refine kput hX hP hD hS (q0 := 0) rfl rfl inX9 tyX9_ok nmX9 (k := 5) (by decide) rfl wd177 rfl rfl (Nat.le_of_ble_eq_true rfl) dX9_passHour_22 (fun H locs hP hD hS => ?_)
  refine lv_iconst (v := 0) hx hb dX9_passHour_25 (by decide) ?_
  refine lv_istore (lv' := [(6, .int (0 : Int32)), (0, .ref ad_s), (1, .ref ad_q1), (2, .int x2), (3, .int x3), (4, .int x4), (5, .int x5)]) hx hb dX9_passHour_26 hl (by decide) rfl (fun ls hl => ?_)
  exact hb28 N _ _ (0 : Int32) x2 x3 (-1 : Int32) (0 : Int32) s_signers x4 x5 (0 : Int32) hP hD hS _ (lv_sub hl [1, 2, 5, 6, 0] rfl) hf
def f_X2_spread_b67 (N : Nat) (s_now_parts : (Nat → Int64)) (q1_number : Int32) (q1_facts : (Nat → Int32)) (s_walk_signed : Int32) (s_walk_at : Int32) (s_walk_crossed : Int32) (s_walk_target : Int32) (s_walk_heap : Int32) (s_walk_signers : (Nat → Int32)) (s_then_number : Int32) (s_then_partHome : Int64) (s_then_parts : (Nat → Int64)) (s_then_keys : (Nat → Int32)) (x5 : Int64) (x7 : Int32) : Option (Int32 × Int32 × Int32 × Int32 × Int32 × (Nat → Int32) × Int32 × Int64 × (Nat → Int64) × (Nat → Int32)) :=
  bn (f_X8_add N s_then_number s_then_parts s_then_keys s_walk_at s_walk_crossed (x5 * (((12 : Int32) - x7).toInt64))) (fun z94_1 => if s_walk_target = (-2 : Int32) then some (s_walk_signed, s_walk_at, s_walk_crossed, s_walk_target, s_walk_heap, s_walk_signers, z94_1.1, (s_then_partHome + (x5 * (x7.toInt64))), z94_1.2.1, z94_1.2.2) else if s_walk_target < 0 then some (s_walk_signed, s_walk_at, s_walk_crossed, s_walk_target, s_walk_heap, s_walk_signers, z94_1.1, s_then_partHome, z94_1.2.1, z94_1.2.2) else bn (f_X8_add N z94_1.1 z94_1.2.1 z94_1.2.2 s_walk_target s_walk_crossed (x5 * (x7.toInt64))) (fun z164_2 => some (s_walk_signed, s_walk_at, s_walk_crossed, s_walk_target, s_walk_heap, s_walk_signers, z164_2.1, s_then_partHome, z164_2.2.1, z164_2.2.2)))
def f_X2_spread_b51 (N : Nat) (s_now_parts : (Nat → Int64)) (q1_number : Int32) (q1_facts : (Nat → Int32)) (s_walk_signed : Int32) (s_walk_at : Int32) (s_walk_crossed : Int32) (s_walk_target : Int32) (s_walk_heap : Int32) (s_walk_signers : (Nat → Int32)) (s_then_number : Int32) (s_then_partHome : Int64) (s_then_parts : (Nat → Int64)) (s_then_keys : (Nat → Int32)) (x5 : Int64) (y0 : Int32) : Option (Int32 × Int32 × Int32 × Int32 × Int32 × (Nat → Int32) × Int32 × Int64 × (Nat → Int64) × (Nat → Int32)) :=
  (f_X2_spread_b67 N s_now_parts q1_number q1_facts) s_walk_signed s_walk_at s_walk_crossed s_walk_target s_walk_heap s_walk_signers s_then_number s_then_partHome s_then_parts s_then_keys x5 (if s_walk_target = (-1 : Int32) then (0 : Int32) else y0)
def f_X2_spread (N : Nat) (s_now_parts : (Nat → Int64)) (q1_number : Int32) (q1_facts : (Nat → Int32)) (s_walk_signed : Int32) (s_walk_at : Int32) (s_walk_crossed : Int32) (s_walk_target : Int32) (s_walk_heap : Int32) (s_walk_signers : (Nat → Int32)) (s_then_number : Int32) (s_then_partHome : Int64) (s_then_parts : (Nat → Int64)) (s_then_keys : (Nat → Int32)) (x2 : Int32) (x3 : Int32) (x4 : Int32) : Option (Int32 × Int32 × Int32 × Int32 × Int32 × (Nat → Int32) × Int32 × Int64 × (Nat → Int64) × (Nat → Int32)) :=
  bn (f_X9_passHour N q1_number q1_facts s_walk_signed s_walk_at s_walk_crossed s_walk_target s_walk_heap s_walk_signers (p_X8_deskOf x2) (p_X8_crossedOf x2) x3 x4) (fun z16_1 => nm (p_X8_partOf s_now_parts x2) (fun v27 => (f_X2_spread_b51 N s_now_parts q1_number q1_facts) z16_1.1 z16_1.2.1 z16_1.2.2.1 z16_1.2.2.2.1 z16_1.2.2.2.2.1 z16_1.2.2.2.2.2 s_then_number s_then_partHome s_then_parts s_then_keys v27 (if z16_1.2.2.2.2.1 ≤ 0 then (12 : Int32) else z16_1.2.2.2.2.1)))
abbrev rm_X2_spread : Room := { frames := 4, cells := 0, slots := 0, locals := 117 }
set_option maxHeartbeats 4000000 in
set_option maxRecDepth 100000 in
theorem c_X2_spread (l : Launch) (D : va_G) (cI cJ cR : ClassId) (N : Nat) (ad_s ad_s_walk ad_s_walk_signers ad_s_now ad_s_now_parts ad_s_now_keys ad_s_then ad_s_then_parts ad_s_then_keys ad_q1 ad_q1_facts : Nat) (s_whole : Int64) (s_walk_signed : Int32) (s_walk_at : Int32) (s_walk_crossed : Int32) (s_walk_target : Int32) (s_walk_heap : Int32) (s_walk_signers : (Nat → Int32)) (s_now_number : Int32) (s_now_partHome : Int64) (s_now_parts : (Nat → Int64)) (s_then_number : Int32) (s_then_partHome : Int64) (s_then_parts : (Nat → Int64)) (s_then_keys : (Nat → Int32)) (q1_number : Int32) (q1_facts : (Nat → Int32)) (x2 : Int32) (x3 : Int32) (x4 : Int32) {o : Int32 × Int32 × Int32 × Int32 × Int32 × (Nat → Int32) × Int32 × Int64 × (Nat → Int64) × (Nat → Int32)} (hf : f_X2_spread N s_now_parts q1_number q1_facts s_walk_signed s_walk_at s_walk_crossed s_walk_target s_walk_heap s_walk_signers s_then_number s_then_partHome s_then_parts s_then_keys x2 x3 x4 = some o) : kMv l D (kT cI cJ cR) yX2_spread cX2_spread 8 none rm_X2_spread [.ref ad_s, .ref ad_q1, .int x2, .int x3, .int x4] [(ad_s, .inr (2, [.ref ad_s_walk, .ref ad_s_now, .ref ad_s_then, .long s_whole])), (ad_s_walk, .inr (9, [.ref ad_s_walk_signers, .int s_walk_signed, .int s_walk_at, .int s_walk_crossed, .int s_walk_target, .int s_walk_heap])), (ad_s_walk_signers, .inl (cI, 9, .inl s_walk_signers)), (ad_s_now, .inr (8, [.ref ad_s_now_parts, .ref ad_s_now_keys, .int s_now_number, .long s_now_partHome])), (ad_s_now_parts, .inl (cJ, 4608, .inr (.inl s_now_parts))), (ad_s_then, .inr (8, [.ref ad_s_then_parts, .ref ad_s_then_keys, .int s_then_number, .long s_then_partHome])), (ad_s_then_parts, .inl (cJ, 4608, .inr (.inl s_then_parts))), (ad_s_then_keys, .inl (cI, 4608, .inl s_then_keys)), (ad_q1, .inr (1, [.ref ad_q1_facts, .int q1_number])), (ad_q1_facts, .inl (cI, 54, .inl q1_facts))] 0 0 (fun w => w = [(ad_s, .inr (2, [.ref ad_s_walk, .ref ad_s_now, .ref ad_s_then, .long s_whole])), (ad_s_walk, .inr (9, [.ref ad_s_walk_signers, .int o.1, .int o.2.1, .int o.2.2.1, .int o.2.2.2.1, .int o.2.2.2.2.1])), (ad_s_walk_signers, .inl (cI, 9, .inl o.2.2.2.2.2.1)), (ad_s_now, .inr (8, [.ref ad_s_now_parts, .ref ad_s_now_keys, .int s_now_number, .long s_now_partHome])), (ad_s_now_parts, .inl (cJ, 4608, .inr (.inl s_now_parts))), (ad_s_then, .inr (8, [.ref ad_s_then_parts, .ref ad_s_then_keys, .int o.2.2.2.2.2.2.1, .long o.2.2.2.2.2.2.2.1])), (ad_s_then_parts, .inl (cJ, 4608, .inr (.inl o.2.2.2.2.2.2.2.2.1))), (ad_s_then_keys, .inl (cI, 4608, .inl o.2.2.2.2.2.2.2.2.2)), (ad_q1, .inr (1, [.ref ad_q1_facts, .int q1_number])), (ad_q1_facts, .inl (cI, 54, .inl q1_facts))]) := by
  apply kInV (o := o)
  · decide
  · exact Nat.le_of_ble_eq_true rfl
  intro p e s m args below meth c A ls Q hX hRet hP hD hS hl
  have hx := hX.1.1
  have hb := hX.1.2.1
  have hown := hX.1.2.2.2.1
  have hts := hX.1.2.2.2.2
  have hl : lv_has ls 8 [(0, .ref ad_s), (1, .ref ad_q1), (2, .int x2), (3, .int x3), (4, .int x4)] := hl
  have hb67 : ∀ (H : Heap) (locs : List Loc) (s_walk_signed : Int32) (s_walk_at : Int32) (s_walk_crossed : Int32) (s_walk_target : Int32) (s_walk_heap : Int32) (s_walk_signers : (Nat → Int32)) (s_then_number : Int32) (s_then_partHome : Int64) (s_then_parts : (Nat → Int64)) (s_then_keys : (Nat → Int32)) (x5 : Int64) (x7 : Int32), va_P D vwCl [(ad_s, .inr (2, [.ref ad_s_walk, .ref ad_s_now, .ref ad_s_then, .long s_whole])), (ad_s_walk, .inr (9, [.ref ad_s_walk_signers, .int s_walk_signed, .int s_walk_at, .int s_walk_crossed, .int s_walk_target, .int s_walk_heap])), (ad_s_walk_signers, .inl (cI, 9, .inl s_walk_signers)), (ad_s_now, .inr (8, [.ref ad_s_now_parts, .ref ad_s_now_keys, .int s_now_number, .long s_now_partHome])), (ad_s_now_parts, .inl (cJ, 4608, .inr (.inl s_now_parts))), (ad_s_then, .inr (8, [.ref ad_s_then_parts, .ref ad_s_then_keys, .int s_then_number, .long s_then_partHome])), (ad_s_then_parts, .inl (cJ, 4608, .inr (.inl s_then_parts))), (ad_s_then_keys, .inl (cI, 4608, .inl s_then_keys)), (ad_q1, .inr (1, [.ref ad_q1_facts, .int q1_number])), (ad_q1_facts, .inl (cI, 54, .inl q1_facts))] H → va_D A [(ad_s, .inr (2, [.ref ad_s_walk, .ref ad_s_now, .ref ad_s_then, .long s_whole])), (ad_s_walk, .inr (9, [.ref ad_s_walk_signers, .int s_walk_signed, .int s_walk_at, .int s_walk_crossed, .int s_walk_target, .int s_walk_heap])), (ad_s_walk_signers, .inl (cI, 9, .inl s_walk_signers)), (ad_s_now, .inr (8, [.ref ad_s_now_parts, .ref ad_s_now_keys, .int s_now_number, .long s_now_partHome])), (ad_s_now_parts, .inl (cJ, 4608, .inr (.inl s_now_parts))), (ad_s_then, .inr (8, [.ref ad_s_then_parts, .ref ad_s_then_keys, .int s_then_number, .long s_then_partHome])), (ad_s_then_parts, .inl (cJ, 4608, .inr (.inl s_then_parts))), (ad_s_then_keys, .inl (cI, 4608, .inl s_then_keys)), (ad_q1, .inr (1, [.ref ad_q1_facts, .int q1_number])), (ad_q1_facts, .inl (cI, 54, .inl q1_facts))] → va_S A s.heap H locs → ∀ ls : Array Slot, lv_has ls 8 [(0, .ref ad_s), (5, .long x5), (7, .int x7)] → (f_X2_spread_b67 N s_now_parts q1_number q1_facts) s_walk_signed s_walk_at s_walk_crossed s_walk_target s_walk_heap s_walk_signers s_then_number s_then_partHome s_then_parts s_then_keys x5 x7 = some o → W p l e rm_X2_spread s m args below meth c H locs 0 0 Q (F0 m 67 ls []) := by
    intro H locs s_walk_signed s_walk_at s_walk_crossed s_walk_target s_walk_heap s_walk_signers s_then_number s_then_partHome s_then_parts s_then_keys x5 x7 hP hD hS ls hl hf
    unfold f_X2_spread_b67 at hf
    refine lv_aload_n hx hb dX2_spread_67 rfl (lv_at hl 0 rfl) ?_
    refine kget hX hP (q0 := 0) rfl rfl inX2 (k := 2) (by decide) rfl wd264 rfl dX2_spread_68 ?_
    refine lv_aload_n hx hb dX2_spread_71 rfl (lv_at hl 0 rfl) ?_
    refine kget hX hP (q0 := 0) rfl rfl inX2 (k := 0) (by decide) rfl wd262 rfl dX2_spread_72 ?_
    refine kget hX hP (q0 := 1) rfl rfl inX9 (k := 2) (by decide) rfl wd170 rfl dX2_spread_75 ?_
    refine lv_aload_n hx hb dX2_spread_78 rfl (lv_at hl 0 rfl) ?_
    refine kget hX hP (q0 := 0) rfl rfl inX2 (k := 0) (by decide) rfl wd262 rfl dX2_spread_79 ?_
    refine kget hX hP (q0 := 1) rfl rfl inX9 (k := 3) (by decide) rfl wd173 rfl dX2_spread_82 ?_
    refine lv_lload hx hb dX2_spread_85 (lv_at hl 1 rfl) ?_
    refine lv_bipush (v := 12) hx hb dX2_spread_87 (by decide) ?_
    refine lv_iload hx hb dX2_spread_89 (lv_at hl 2 rfl) ?_
    refine lv_isub hx hb dX2_spread_91 ?_
    refine lv_i2l hx hb dX2_spread_92 rfl ?_
    refine lv_lmul hx hb dX2_spread_93 ?_
    obtain ⟨z94_1, hz94_1, hf⟩ := bn_s hf
    refine kVv (rest := []) hX (c_X8_add l D cI cJ cR N ad_s_then ad_s_then_parts ad_s_then_keys s_then_number s_then_partHome s_then_parts s_then_keys s_walk_at s_walk_crossed (x5 * (((12 : Int32) - x7).toInt64)) hz94_1) kc_X8_add wd643 ⟨Nat.le_of_ble_eq_true rfl, Nat.le_of_ble_eq_true rfl⟩ ⟨rfl, rfl⟩ hP hD hS (ci := 8) rfl rfl (q0 := 5) rfl [5, 6, 7] rfl (by decide) (fun w h => by cases h; rfl) rfl rfl (Nat.le_of_ble_eq_true rfl) hl.1 ⟨Nat.zero_le _, Nat.zero_le _⟩ dX2_spread_94 (fun H locs w1 hw1 hP hD hS => ?_)
    cases hw1
    have hP : va_P D vwCl [(ad_s, .inr (2, [.ref ad_s_walk, .ref ad_s_now, .ref ad_s_then, .long s_whole])), (ad_s_walk, .inr (9, [.ref ad_s_walk_signers, .int s_walk_signed, .int s_walk_at, .int s_walk_crossed, .int s_walk_target, .int s_walk_heap])), (ad_s_walk_signers, .inl (cI, 9, .inl s_walk_signers)), (ad_s_now, .inr (8, [.ref ad_s_now_parts, .ref ad_s_now_keys, .int s_now_number, .long s_now_partHome])), (ad_s_now_parts, .inl (cJ, 4608, .inr (.inl s_now_parts))), (ad_s_then, .inr (8, [.ref ad_s_then_parts, .ref ad_s_then_keys, .int z94_1.1, .long s_then_partHome])), (ad_s_then_parts, .inl (cJ, 4608, .inr (.inl z94_1.2.1))), (ad_s_then_keys, .inl (cI, 4608, .inl z94_1.2.2)), (ad_q1, .inr (1, [.ref ad_q1_facts, .int q1_number])), (ad_q1_facts, .inl (cI, 54, .inl q1_facts))] H := hP
    have hD : va_D A [(ad_s, .inr (2, [.ref ad_s_walk, .ref ad_s_now, .ref ad_s_then, .long s_whole])), (ad_s_walk, .inr (9, [.ref ad_s_walk_signers, .int s_walk_signed, .int s_walk_at, .int s_walk_crossed, .int s_walk_target, .int s_walk_heap])), (ad_s_walk_signers, .inl (cI, 9, .inl s_walk_signers)), (ad_s_now, .inr (8, [.ref ad_s_now_parts, .ref ad_s_now_keys, .int s_now_number, .long s_now_partHome])), (ad_s_now_parts, .inl (cJ, 4608, .inr (.inl s_now_parts))), (ad_s_then, .inr (8, [.ref ad_s_then_parts, .ref ad_s_then_keys, .int z94_1.1, .long s_then_partHome])), (ad_s_then_parts, .inl (cJ, 4608, .inr (.inl z94_1.2.1))), (ad_s_then_keys, .inl (cI, 4608, .inl z94_1.2.2)), (ad_q1, .inr (1, [.ref ad_q1_facts, .int q1_number])), (ad_q1_facts, .inl (cI, 54, .inl q1_facts))] := hD
    refine lv_aload_n hx hb dX2_spread_97 rfl (lv_at hl 0 rfl) ?_
    refine kget hX hP (q0 := 0) rfl rfl inX2 (k := 0) (by decide) rfl wd262 rfl dX2_spread_98 ?_
    refine kget hX hP (q0 := 1) rfl rfl inX9 (k := 4) (by decide) rfl wd175 rfl dX2_spread_101 ?_
    refine lv_bipush (v := -2) hx hb dX2_spread_104 (by decide) ?_
    refine lv_icmp_ne (tgt := 130) hx hb dX2_spread_106 (by decide) (fun c106 => ?_) (fun c106 => ?_)
    · replace hf := iq c106 hf
      refine lv_aload_n hx hb dX2_spread_130 rfl (lv_at hl 0 rfl) ?_
      refine kget hX hP (q0 := 0) rfl rfl inX2 (k := 0) (by decide) rfl wd262 rfl dX2_spread_131 ?_
      refine kget hX hP (q0 := 1) rfl rfl inX9 (k := 4) (by decide) rfl wd175 rfl dX2_spread_134 ?_
      refine lv_if_lt (tgt := 167) hx hb dX2_spread_137 (by decide) (fun c137 => ?_) (fun c137 => ?_)
      · replace hf := ip c137 hf
        exact hRet _ _ _ _ _ _ (Option.some.inj hf) rfl hP hD hS dX2_spread_167
      · replace hf := iq c137 hf
        refine lv_aload_n hx hb dX2_spread_140 rfl (lv_at hl 0 rfl) ?_
        refine kget hX hP (q0 := 0) rfl rfl inX2 (k := 2) (by decide) rfl wd264 rfl dX2_spread_141 ?_
        refine lv_aload_n hx hb dX2_spread_144 rfl (lv_at hl 0 rfl) ?_
        refine kget hX hP (q0 := 0) rfl rfl inX2 (k := 0) (by decide) rfl wd262 rfl dX2_spread_145 ?_
        refine kget hX hP (q0 := 1) rfl rfl inX9 (k := 4) (by decide) rfl wd175 rfl dX2_spread_148 ?_
        refine lv_aload_n hx hb dX2_spread_151 rfl (lv_at hl 0 rfl) ?_
        refine kget hX hP (q0 := 0) rfl rfl inX2 (k := 0) (by decide) rfl wd262 rfl dX2_spread_152 ?_
        refine kget hX hP (q0 := 1) rfl rfl inX9 (k := 3) (by decide) rfl wd173 rfl dX2_spread_155 ?_
        refine lv_lload hx hb dX2_spread_158 (lv_at hl 1 rfl) ?_
        refine lv_iload hx hb dX2_spread_160 (lv_at hl 2 rfl) ?_
        refine lv_i2l hx hb dX2_spread_162 rfl ?_
        refine lv_lmul hx hb dX2_spread_163 ?_
        obtain ⟨z164_2, hz164_2, hf⟩ := bn_s hf
        refine kVv (rest := []) hX (c_X8_add l D cI cJ cR N ad_s_then ad_s_then_parts ad_s_then_keys z94_1.1 s_then_partHome z94_1.2.1 z94_1.2.2 s_walk_target s_walk_crossed (x5 * (x7.toInt64)) hz164_2) kc_X8_add wd643 ⟨Nat.le_of_ble_eq_true rfl, Nat.le_of_ble_eq_true rfl⟩ ⟨rfl, rfl⟩ hP hD hS (ci := 8) rfl rfl (q0 := 5) rfl [5, 6, 7] rfl (by decide) (fun w h => by cases h; rfl) rfl rfl (Nat.le_of_ble_eq_true rfl) hl.1 ⟨Nat.zero_le _, Nat.zero_le _⟩ dX2_spread_164 (fun H locs w1 hw1 hP hD hS => ?_)
        cases hw1
        have hP : va_P D vwCl [(ad_s, .inr (2, [.ref ad_s_walk, .ref ad_s_now, .ref ad_s_then, .long s_whole])), (ad_s_walk, .inr (9, [.ref ad_s_walk_signers, .int s_walk_signed, .int s_walk_at, .int s_walk_crossed, .int s_walk_target, .int s_walk_heap])), (ad_s_walk_signers, .inl (cI, 9, .inl s_walk_signers)), (ad_s_now, .inr (8, [.ref ad_s_now_parts, .ref ad_s_now_keys, .int s_now_number, .long s_now_partHome])), (ad_s_now_parts, .inl (cJ, 4608, .inr (.inl s_now_parts))), (ad_s_then, .inr (8, [.ref ad_s_then_parts, .ref ad_s_then_keys, .int z164_2.1, .long s_then_partHome])), (ad_s_then_parts, .inl (cJ, 4608, .inr (.inl z164_2.2.1))), (ad_s_then_keys, .inl (cI, 4608, .inl z164_2.2.2)), (ad_q1, .inr (1, [.ref ad_q1_facts, .int q1_number])), (ad_q1_facts, .inl (cI, 54, .inl q1_facts))] H := hP
        have hD : va_D A [(ad_s, .inr (2, [.ref ad_s_walk, .ref ad_s_now, .ref ad_s_then, .long s_whole])), (ad_s_walk, .inr (9, [.ref ad_s_walk_signers, .int s_walk_signed, .int s_walk_at, .int s_walk_crossed, .int s_walk_target, .int s_walk_heap])), (ad_s_walk_signers, .inl (cI, 9, .inl s_walk_signers)), (ad_s_now, .inr (8, [.ref ad_s_now_parts, .ref ad_s_now_keys, .int s_now_number, .long s_now_partHome])), (ad_s_now_parts, .inl (cJ, 4608, .inr (.inl s_now_parts))), (ad_s_then, .inr (8, [.ref ad_s_then_parts, .ref ad_s_then_keys, .int z164_2.1, .long s_then_partHome])), (ad_s_then_parts, .inl (cJ, 4608, .inr (.inl z164_2.2.1))), (ad_s_then_keys, .inl (cI, 4608, .inl z164_2.2.2)), (ad_q1, .inr (1, [.ref ad_q1_facts, .int q1_number])), (ad_q1_facts, .inl (cI, 54, .inl q1_facts))] := hD
        exact hRet _ _ _ _ _ _ (Option.some.inj hf) rfl hP hD hS dX2_spread_167
    · replace hf := ip c106 hf
      refine lv_aload_n hx hb dX2_spread_109 rfl (lv_at hl 0 rfl) ?_
      refine kget hX hP (q0 := 0) rfl rfl inX2 (k := 2) (by decide) rfl wd264 rfl dX2_spread_110 ?_
      refine lv_dup hx hb dX2_spread_113 rfl ?_
      refine kget hX hP (q0 := 5) rfl rfl inX8 (k := 3) (by decide) rfl wd251 rfl dX2_spread_114 ?_
      refine lv_lload hx hb dX2_spread_117 (lv_at hl 1 rfl) ?_
      refine lv_iload hx hb dX2_spread_119 (lv_at hl 2 rfl) ?_
      refine lv_i2l hx hb dX2_spread_121 rfl ?_
      refine lv_lmul hx hb dX2_spread_122 ?_
      refine lv_ladd hx hb dX2_spread_123 ?_
      refine kput hX hP hD hS (q0 := 5) rfl rfl inX8 tyX8_ok nmX8 (k := 3) (by decide) rfl wd251 rfl rfl (Nat.le_of_ble_eq_true rfl) dX2_spread_124 (fun H locs hP hD hS => ?_)
      refine lv_goto (tgt := 167) hx hb dX2_spread_127 (by decide) ?_
      exact hRet _ _ _ _ _ _ (Option.some.inj hf) rfl hP hD hS dX2_spread_167
  have hb51 : ∀ (H : Heap) (locs : List Loc) (s_walk_signed : Int32) (s_walk_at : Int32) (s_walk_crossed : Int32) (s_walk_target : Int32) (s_walk_heap : Int32) (s_walk_signers : (Nat → Int32)) (s_then_number : Int32) (s_then_partHome : Int64) (s_then_parts : (Nat → Int64)) (s_then_keys : (Nat → Int32)) (x5 : Int64) (y0 : Int32), va_P D vwCl [(ad_s, .inr (2, [.ref ad_s_walk, .ref ad_s_now, .ref ad_s_then, .long s_whole])), (ad_s_walk, .inr (9, [.ref ad_s_walk_signers, .int s_walk_signed, .int s_walk_at, .int s_walk_crossed, .int s_walk_target, .int s_walk_heap])), (ad_s_walk_signers, .inl (cI, 9, .inl s_walk_signers)), (ad_s_now, .inr (8, [.ref ad_s_now_parts, .ref ad_s_now_keys, .int s_now_number, .long s_now_partHome])), (ad_s_now_parts, .inl (cJ, 4608, .inr (.inl s_now_parts))), (ad_s_then, .inr (8, [.ref ad_s_then_parts, .ref ad_s_then_keys, .int s_then_number, .long s_then_partHome])), (ad_s_then_parts, .inl (cJ, 4608, .inr (.inl s_then_parts))), (ad_s_then_keys, .inl (cI, 4608, .inl s_then_keys)), (ad_q1, .inr (1, [.ref ad_q1_facts, .int q1_number])), (ad_q1_facts, .inl (cI, 54, .inl q1_facts))] H → va_D A [(ad_s, .inr (2, [.ref ad_s_walk, .ref ad_s_now, .ref ad_s_then, .long s_whole])), (ad_s_walk, .inr (9, [.ref ad_s_walk_signers, .int s_walk_signed, .int s_walk_at, .int s_walk_crossed, .int s_walk_target, .int s_walk_heap])), (ad_s_walk_signers, .inl (cI, 9, .inl s_walk_signers)), (ad_s_now, .inr (8, [.ref ad_s_now_parts, .ref ad_s_now_keys, .int s_now_number, .long s_now_partHome])), (ad_s_now_parts, .inl (cJ, 4608, .inr (.inl s_now_parts))), (ad_s_then, .inr (8, [.ref ad_s_then_parts, .ref ad_s_then_keys, .int s_then_number, .long s_then_partHome])), (ad_s_then_parts, .inl (cJ, 4608, .inr (.inl s_then_parts))), (ad_s_then_keys, .inl (cI, 4608, .inl s_then_keys)), (ad_q1, .inr (1, [.ref ad_q1_facts, .int q1_number])), (ad_q1_facts, .inl (cI, 54, .inl q1_facts))] → va_S A s.heap H locs → ∀ ls : Array Slot, lv_has ls 8 [(0, .ref ad_s), (5, .long x5)] → (f_X2_spread_b51 N s_now_parts q1_number q1_facts) s_walk_signed s_walk_at s_walk_crossed s_walk_target s_walk_heap s_walk_signers s_then_number s_then_partHome s_then_parts s_then_keys x5 y0 = some o → W p l e rm_X2_spread s m args below meth c H locs 0 0 Q (F0 m 51 ls [.int y0]) := by
    intro H locs s_walk_signed s_walk_at s_walk_crossed s_walk_target s_walk_heap s_walk_signers s_then_number s_then_partHome s_then_parts s_then_keys x5 y0 hP hD hS ls hl hf
    unfold f_X2_spread_b51 at hf
    refine lv_istore (lv' := [(7, .int y0), (0, .ref ad_s), (5, .long x5)]) hx hb dX2_spread_51 hl (by decide) rfl (fun ls hl => ?_)
    refine lv_aload_n hx hb dX2_spread_53 rfl (lv_at hl 1 rfl) ?_
    refine kget hX hP (q0 := 0) rfl rfl inX2 (k := 0) (by decide) rfl wd262 rfl dX2_spread_54 ?_
    refine kget hX hP (q0 := 1) rfl rfl inX9 (k := 4) (by decide) rfl wd175 rfl dX2_spread_57 ?_
    refine lv_iconst (v := -1) hx hb dX2_spread_60 (by decide) ?_
    refine lv_icmp_ne (tgt := 67) hx hb dX2_spread_61 (by decide) (fun c61 => ?_) (fun c61 => ?_)
    · simp only [if_neg c61] at hf
      exact hb67 _ _ s_walk_signed s_walk_at s_walk_crossed s_walk_target s_walk_heap s_walk_signers s_then_number s_then_partHome s_then_parts s_then_keys x5 y0 hP hD hS _ (lv_sub hl [1, 2, 0] rfl) hf
    · simp only [if_pos c61] at hf
      refine lv_iconst (v := 0) hx hb dX2_spread_64 (by decide) ?_
      refine lv_istore (lv' := [(7, .int (0 : Int32)), (0, .ref ad_s), (5, .long x5)]) hx hb dX2_spread_65 hl (by decide) rfl (fun ls hl => ?_)
      exact hb67 _ _ s_walk_signed s_walk_at s_walk_crossed s_walk_target s_walk_heap s_walk_signers s_then_number s_then_partHome s_then_parts s_then_keys x5 (0 : Int32) hP hD hS _ (lv_sub hl [1, 2, 0] rfl) hf
  unfold f_X2_spread at hf
  refine lv_aload_n hx hb dX2_spread_0 rfl (lv_at hl 0 rfl) ?_
  refine kget hX hP (q0 := 0) rfl rfl inX2 (k := 0) (by decide) rfl wd262 rfl dX2_spread_1 ?_
  refine lv_aload_n hx hb dX2_spread_4 rfl (lv_at hl 1 rfl) ?_
  refine lv_iload_n hx hb dX2_spread_5 rfl (lv_at hl 2 rfl) ?_
  refine kSi (rest := [.ref ad_q1, .ref ad_s_walk]) hX (c_X8_deskOf l D cI cJ cR x2 rfl) kc_X8_deskOf wd657 ⟨Nat.le_of_ble_eq_true rfl, Nat.le_of_ble_eq_true rfl⟩ ⟨rfl, rfl⟩ hP hD hS [] rfl (by decide) (fun w h => by cases h; rfl) rfl rfl (Nat.le_of_ble_eq_true rfl) hl.1 ⟨Nat.zero_le _, Nat.zero_le _⟩ dX2_spread_6 (fun H locs w1 hw1 hP hD hS => ?_)
  cases hw1
  have hP : va_P D vwCl [(ad_s, .inr (2, [.ref ad_s_walk, .ref ad_s_now, .ref ad_s_then, .long s_whole])), (ad_s_walk, .inr (9, [.ref ad_s_walk_signers, .int s_walk_signed, .int s_walk_at, .int s_walk_crossed, .int s_walk_target, .int s_walk_heap])), (ad_s_walk_signers, .inl (cI, 9, .inl s_walk_signers)), (ad_s_now, .inr (8, [.ref ad_s_now_parts, .ref ad_s_now_keys, .int s_now_number, .long s_now_partHome])), (ad_s_now_parts, .inl (cJ, 4608, .inr (.inl s_now_parts))), (ad_s_then, .inr (8, [.ref ad_s_then_parts, .ref ad_s_then_keys, .int s_then_number, .long s_then_partHome])), (ad_s_then_parts, .inl (cJ, 4608, .inr (.inl s_then_parts))), (ad_s_then_keys, .inl (cI, 4608, .inl s_then_keys)), (ad_q1, .inr (1, [.ref ad_q1_facts, .int q1_number])), (ad_q1_facts, .inl (cI, 54, .inl q1_facts))] H := hP
  have hD : va_D A [(ad_s, .inr (2, [.ref ad_s_walk, .ref ad_s_now, .ref ad_s_then, .long s_whole])), (ad_s_walk, .inr (9, [.ref ad_s_walk_signers, .int s_walk_signed, .int s_walk_at, .int s_walk_crossed, .int s_walk_target, .int s_walk_heap])), (ad_s_walk_signers, .inl (cI, 9, .inl s_walk_signers)), (ad_s_now, .inr (8, [.ref ad_s_now_parts, .ref ad_s_now_keys, .int s_now_number, .long s_now_partHome])), (ad_s_now_parts, .inl (cJ, 4608, .inr (.inl s_now_parts))), (ad_s_then, .inr (8, [.ref ad_s_then_parts, .ref ad_s_then_keys, .int s_then_number, .long s_then_partHome])), (ad_s_then_parts, .inl (cJ, 4608, .inr (.inl s_then_parts))), (ad_s_then_keys, .inl (cI, 4608, .inl s_then_keys)), (ad_q1, .inr (1, [.ref ad_q1_facts, .int q1_number])), (ad_q1_facts, .inl (cI, 54, .inl q1_facts))] := hD
  refine lv_iload_n hx hb dX2_spread_9 rfl (lv_at hl 2 rfl) ?_
  refine kSi (rest := [.int (p_X8_deskOf x2), .ref ad_q1, .ref ad_s_walk]) hX (c_X8_crossedOf l D cI cJ cR x2 rfl) kc_X8_crossedOf wd660 ⟨Nat.le_of_ble_eq_true rfl, Nat.le_of_ble_eq_true rfl⟩ ⟨rfl, rfl⟩ hP hD hS [] rfl (by decide) (fun w h => by cases h; rfl) rfl rfl (Nat.le_of_ble_eq_true rfl) hl.1 ⟨Nat.zero_le _, Nat.zero_le _⟩ dX2_spread_10 (fun H locs w1 hw1 hP hD hS => ?_)
  cases hw1
  have hP : va_P D vwCl [(ad_s, .inr (2, [.ref ad_s_walk, .ref ad_s_now, .ref ad_s_then, .long s_whole])), (ad_s_walk, .inr (9, [.ref ad_s_walk_signers, .int s_walk_signed, .int s_walk_at, .int s_walk_crossed, .int s_walk_target, .int s_walk_heap])), (ad_s_walk_signers, .inl (cI, 9, .inl s_walk_signers)), (ad_s_now, .inr (8, [.ref ad_s_now_parts, .ref ad_s_now_keys, .int s_now_number, .long s_now_partHome])), (ad_s_now_parts, .inl (cJ, 4608, .inr (.inl s_now_parts))), (ad_s_then, .inr (8, [.ref ad_s_then_parts, .ref ad_s_then_keys, .int s_then_number, .long s_then_partHome])), (ad_s_then_parts, .inl (cJ, 4608, .inr (.inl s_then_parts))), (ad_s_then_keys, .inl (cI, 4608, .inl s_then_keys)), (ad_q1, .inr (1, [.ref ad_q1_facts, .int q1_number])), (ad_q1_facts, .inl (cI, 54, .inl q1_facts))] H := hP
  have hD : va_D A [(ad_s, .inr (2, [.ref ad_s_walk, .ref ad_s_now, .ref ad_s_then, .long s_whole])), (ad_s_walk, .inr (9, [.ref ad_s_walk_signers, .int s_walk_signed, .int s_walk_at, .int s_walk_crossed, .int s_walk_target, .int s_walk_heap])), (ad_s_walk_signers, .inl (cI, 9, .inl s_walk_signers)), (ad_s_now, .inr (8, [.ref ad_s_now_parts, .ref ad_s_now_keys, .int s_now_number, .long s_now_partHome])), (ad_s_now_parts, .inl (cJ, 4608, .inr (.inl s_now_parts))), (ad_s_then, .inr (8, [.ref ad_s_then_parts, .ref ad_s_then_keys, .int s_then_number, .long s_then_partHome])), (ad_s_then_parts, .inl (cJ, 4608, .inr (.inl s_then_parts))), (ad_s_then_keys, .inl (cI, 4608, .inl s_then_keys)), (ad_q1, .inr (1, [.ref ad_q1_facts, .int q1_number])), (ad_q1_facts, .inl (cI, 54, .inl q1_facts))] := hD
  refine lv_iload_n hx hb dX2_spread_13 rfl (lv_at hl 3 rfl) ?_
  refine lv_iload hx hb dX2_spread_14 (lv_at hl 4 rfl) ?_
  obtain ⟨z16_1, hz16_1, hf⟩ := bn_s hf
  refine kVv (rest := []) hX (c_X9_passHour l D cI cJ cR N ad_s_walk ad_s_walk_signers ad_q1 ad_q1_facts s_walk_signed s_walk_at s_walk_crossed s_walk_target s_walk_heap s_walk_signers q1_number q1_facts (p_X8_deskOf x2) (p_X8_crossedOf x2) x3 x4 hz16_1) kc_X9_passHour wd663 ⟨Nat.le_of_ble_eq_true rfl, Nat.le_of_ble_eq_true rfl⟩ ⟨rfl, rfl⟩ hP hD hS (ci := 9) rfl rfl (q0 := 1) rfl [1, 2, 8, 9] rfl (by decide) (fun w h => by cases h; rfl) rfl rfl (Nat.le_of_ble_eq_true rfl) hl.1 ⟨Nat.zero_le _, Nat.zero_le _⟩ dX2_spread_16 (fun H locs w1 hw1 hP hD hS => ?_)
  cases hw1
  have hP : va_P D vwCl [(ad_s, .inr (2, [.ref ad_s_walk, .ref ad_s_now, .ref ad_s_then, .long s_whole])), (ad_s_walk, .inr (9, [.ref ad_s_walk_signers, .int z16_1.1, .int z16_1.2.1, .int z16_1.2.2.1, .int z16_1.2.2.2.1, .int z16_1.2.2.2.2.1])), (ad_s_walk_signers, .inl (cI, 9, .inl z16_1.2.2.2.2.2)), (ad_s_now, .inr (8, [.ref ad_s_now_parts, .ref ad_s_now_keys, .int s_now_number, .long s_now_partHome])), (ad_s_now_parts, .inl (cJ, 4608, .inr (.inl s_now_parts))), (ad_s_then, .inr (8, [.ref ad_s_then_parts, .ref ad_s_then_keys, .int s_then_number, .long s_then_partHome])), (ad_s_then_parts, .inl (cJ, 4608, .inr (.inl s_then_parts))), (ad_s_then_keys, .inl (cI, 4608, .inl s_then_keys)), (ad_q1, .inr (1, [.ref ad_q1_facts, .int q1_number])), (ad_q1_facts, .inl (cI, 54, .inl q1_facts))] H := hP
  have hD : va_D A [(ad_s, .inr (2, [.ref ad_s_walk, .ref ad_s_now, .ref ad_s_then, .long s_whole])), (ad_s_walk, .inr (9, [.ref ad_s_walk_signers, .int z16_1.1, .int z16_1.2.1, .int z16_1.2.2.1, .int z16_1.2.2.2.1, .int z16_1.2.2.2.2.1])), (ad_s_walk_signers, .inl (cI, 9, .inl z16_1.2.2.2.2.2)), (ad_s_now, .inr (8, [.ref ad_s_now_parts, .ref ad_s_now_keys, .int s_now_number, .long s_now_partHome])), (ad_s_now_parts, .inl (cJ, 4608, .inr (.inl s_now_parts))), (ad_s_then, .inr (8, [.ref ad_s_then_parts, .ref ad_s_then_keys, .int s_then_number, .long s_then_partHome])), (ad_s_then_parts, .inl (cJ, 4608, .inr (.inl s_then_parts))), (ad_s_then_keys, .inl (cI, 4608, .inl s_then_keys)), (ad_q1, .inr (1, [.ref ad_q1_facts, .int q1_number])), (ad_q1_facts, .inl (cI, 54, .inl q1_facts))] := hD
  refine lv_aload_n hx hb dX2_spread_19 rfl (lv_at hl 0 rfl) ?_
  refine kget hX hP (q0 := 0) rfl rfl inX2 (k := 1) (by decide) rfl wd263 rfl dX2_spread_20 ?_
  refine lv_iload_n hx hb dX2_spread_23 rfl (lv_at hl 2 rfl) ?_
  refine kVl (rest := []) hX (c_X8_partOf l D cI cJ cR ad_s_now ad_s_now_parts ad_s_now_keys s_now_number s_now_partHome s_now_parts x2 rfl) kc_X8_partOf wd664 ⟨Nat.le_of_ble_eq_true rfl, Nat.le_of_ble_eq_true rfl⟩ ⟨rfl, rfl⟩ hP hD hS (ci := 8) rfl rfl (q0 := 3) rfl [3, 4] rfl (by decide) (fun w h => by cases h; rfl) rfl rfl (Nat.le_of_ble_eq_true rfl) hl.1 ⟨Nat.zero_le _, Nat.zero_le _⟩ dX2_spread_24 (fun H locs w1 hw1 hP hD hS => ?_)
  cases hw1
  have hP : va_P D vwCl [(ad_s, .inr (2, [.ref ad_s_walk, .ref ad_s_now, .ref ad_s_then, .long s_whole])), (ad_s_walk, .inr (9, [.ref ad_s_walk_signers, .int z16_1.1, .int z16_1.2.1, .int z16_1.2.2.1, .int z16_1.2.2.2.1, .int z16_1.2.2.2.2.1])), (ad_s_walk_signers, .inl (cI, 9, .inl z16_1.2.2.2.2.2)), (ad_s_now, .inr (8, [.ref ad_s_now_parts, .ref ad_s_now_keys, .int s_now_number, .long s_now_partHome])), (ad_s_now_parts, .inl (cJ, 4608, .inr (.inl s_now_parts))), (ad_s_then, .inr (8, [.ref ad_s_then_parts, .ref ad_s_then_keys, .int s_then_number, .long s_then_partHome])), (ad_s_then_parts, .inl (cJ, 4608, .inr (.inl s_then_parts))), (ad_s_then_keys, .inl (cI, 4608, .inl s_then_keys)), (ad_q1, .inr (1, [.ref ad_q1_facts, .int q1_number])), (ad_q1_facts, .inl (cI, 54, .inl q1_facts))] H := hP
  have hD : va_D A [(ad_s, .inr (2, [.ref ad_s_walk, .ref ad_s_now, .ref ad_s_then, .long s_whole])), (ad_s_walk, .inr (9, [.ref ad_s_walk_signers, .int z16_1.1, .int z16_1.2.1, .int z16_1.2.2.1, .int z16_1.2.2.2.1, .int z16_1.2.2.2.2.1])), (ad_s_walk_signers, .inl (cI, 9, .inl z16_1.2.2.2.2.2)), (ad_s_now, .inr (8, [.ref ad_s_now_parts, .ref ad_s_now_keys, .int s_now_number, .long s_now_partHome])), (ad_s_now_parts, .inl (cJ, 4608, .inr (.inl s_now_parts))), (ad_s_then, .inr (8, [.ref ad_s_then_parts, .ref ad_s_then_keys, .int s_then_number, .long s_then_partHome])), (ad_s_then_parts, .inl (cJ, 4608, .inr (.inl s_then_parts))), (ad_s_then_keys, .inl (cI, 4608, .inl s_then_keys)), (ad_q1, .inr (1, [.ref ad_q1_facts, .int q1_number])), (ad_q1_facts, .inl (cI, 54, .inl q1_facts))] := hD
  refine lv_topl (fun v27 ev27 => ?_)
  replace hf := nm_s ev27 hf
  refine lv_lstore (lv' := [(5, .long v27), (0, .ref ad_s), (1, .ref ad_q1), (2, .int x2), (3, .int x3), (4, .int x4)]) hx hb dX2_spread_27 hl (by decide) rfl (fun ls hl => ?_)
  refine lv_aload_n hx hb dX2_spread_29 rfl (lv_at hl 1 rfl) ?_
  refine kget hX hP (q0 := 0) rfl rfl inX2 (k := 0) (by decide) rfl wd262 rfl dX2_spread_30 ?_
  refine kget hX hP (q0 := 1) rfl rfl inX9 (k := 5) (by decide) rfl wd178 rfl dX2_spread_33 ?_
  refine lv_if_le (tgt := 49) hx hb dX2_spread_36 (by decide) (fun c36 => ?_) (fun c36 => ?_)
  · simp only [if_pos c36] at hf
    refine lv_bipush (v := 12) hx hb dX2_spread_49 (by decide) ?_
    exact hb51 _ _ z16_1.1 z16_1.2.1 z16_1.2.2.1 z16_1.2.2.2.1 z16_1.2.2.2.2.1 z16_1.2.2.2.2.2 s_then_number s_then_partHome s_then_parts s_then_keys v27 (12 : Int32) hP hD hS _ (lv_sub hl [1, 0] rfl) hf
  · simp only [if_neg c36] at hf
    refine lv_aload_n hx hb dX2_spread_39 rfl (lv_at hl 1 rfl) ?_
    refine kget hX hP (q0 := 0) rfl rfl inX2 (k := 0) (by decide) rfl wd262 rfl dX2_spread_40 ?_
    refine kget hX hP (q0 := 1) rfl rfl inX9 (k := 5) (by decide) rfl wd178 rfl dX2_spread_43 ?_
    refine lv_goto (tgt := 51) hx hb dX2_spread_46 (by decide) ?_
    exact hb51 _ _ z16_1.1 z16_1.2.1 z16_1.2.2.1 z16_1.2.2.2.1 z16_1.2.2.2.2.1 z16_1.2.2.2.2.2 s_then_number s_then_partHome s_then_parts s_then_keys v27 z16_1.2.2.2.2.1 hP hD hS _ (lv_sub hl [1, 0] rfl) hf
def p_X8_keyAt (s_number : Int32) (s_keys : (Nat → Int32)) (x1 : Int32) : (Int32) :=
  if x1 < 0 then ((0 : Int32)) else if s_number ≤ x1 then ((0 : Int32)) else if (4608 : Int32) ≤ x1 then ((0 : Int32)) else ((s_keys x1.toNatClampNeg))
abbrev rm_X8_keyAt : Room := { frames := 0, cells := 0, slots := 0, locals := 0 }
set_option maxHeartbeats 4000000 in
set_option maxRecDepth 100000 in
theorem c_X8_keyAt (l : Launch) (D : va_G) (cI cJ cR : ClassId) (ad_s ad_s_parts ad_s_keys : Nat) (s_number : Int32) (s_partHome : Int64) (s_keys : (Nat → Int32)) (x1 : Int32) {o : Int32} (hf : p_X8_keyAt s_number s_keys x1 = o) : kMi l D (kT cI cJ cR) yX8_keyAt cX8_keyAt 2 (some .int) rm_X8_keyAt [.ref ad_s, .int x1] [(ad_s, .inr (8, [.ref ad_s_parts, .ref ad_s_keys, .int s_number, .long s_partHome])), (ad_s_keys, .inl (cI, 4608, .inl s_keys))] (o) (fun w => w = [(ad_s, .inr (8, [.ref ad_s_parts, .ref ad_s_keys, .int s_number, .long s_partHome])), (ad_s_keys, .inl (cI, 4608, .inl s_keys))]) := by
  apply kInI (o := o)
  · decide
  · exact Nat.le_of_ble_eq_true rfl
  intro p e s m args below meth c A ls Q hX hRet hP hD hS hl
  have hx := hX.1.1
  have hb := hX.1.2.1
  have hown := hX.1.2.2.2.1
  have hts := hX.1.2.2.2.2
  have hl : lv_has ls 2 [(0, .ref ad_s), (1, .int x1)] := hl
  unfold p_X8_keyAt at hf
  refine lv_iload_n hx hb dX8_keyAt_0 rfl (lv_at hl 1 rfl) ?_
  refine lv_if_lt (tgt := 30) hx hb dX8_keyAt_1 (by decide) (fun c1 => ?_) (fun c1 => ?_)
  · replace hf := ip c1 hf
    refine lv_iconst (v := 0) hx hb dX8_keyAt_30 (by decide) ?_
    exact hRet _ _ _ _ _ _ _ hf rfl rfl hP hD hS dX8_keyAt_31
  · replace hf := iq c1 hf
    refine lv_iload_n hx hb dX8_keyAt_4 rfl (lv_at hl 1 rfl) ?_
    refine lv_aload_n hx hb dX8_keyAt_5 rfl (lv_at hl 0 rfl) ?_
    refine kget hX hP (q0 := 0) rfl rfl inX8 (k := 2) (by decide) rfl wd248 rfl dX8_keyAt_6 ?_
    refine lv_icmp_ge (tgt := 30) hx hb dX8_keyAt_9 (by decide) (fun c9 => ?_) (fun c9 => ?_)
    · replace hf := ip c9 hf
      refine lv_iconst (v := 0) hx hb dX8_keyAt_30 (by decide) ?_
      exact hRet _ _ _ _ _ _ _ hf rfl rfl hP hD hS dX8_keyAt_31
    · replace hf := iq c9 hf
      refine lv_iload_n hx hb dX8_keyAt_12 rfl (lv_at hl 1 rfl) ?_
      refine lv_aload_n hx hb dX8_keyAt_13 rfl (lv_at hl 0 rfl) ?_
      refine kget hX hP (q0 := 0) rfl rfl inX8 (k := 1) (by decide) rfl wd247 rfl dX8_keyAt_14 ?_
      refine kalen hX hP (t0 := 0) rfl (q0 := 1) rfl (v := (4608 : Int32)) rfl dX8_keyAt_17 ?_
      refine lv_icmp_ge (tgt := 30) hx hb dX8_keyAt_18 (by decide) (fun c18 => ?_) (fun c18 => ?_)
      · replace hf := ip c18 hf
        refine lv_iconst (v := 0) hx hb dX8_keyAt_30 (by decide) ?_
        exact hRet _ _ _ _ _ _ _ hf rfl rfl hP hD hS dX8_keyAt_31
      · replace hf := iq c18 hf
        refine lv_aload_n hx hb dX8_keyAt_21 rfl (lv_at hl 0 rfl) ?_
        refine kget hX hP (q0 := 0) rfl rfl inX8 (k := 1) (by decide) rfl wd247 rfl dX8_keyAt_22 ?_
        refine lv_iload_n hx hb dX8_keyAt_25 rfl (lv_at hl 1 rfl) ?_
        refine kiald hX hP rfl (q0 := 1) rfl (vpi (by decide) c1 c18) dX8_keyAt_26 ?_
        refine lv_goto (tgt := 31) hx hb dX8_keyAt_27 (by decide) ?_
        exact hRet _ _ _ _ _ _ _ hf rfl rfl hP hD hS dX8_keyAt_31
def f_X8_clear_b45 (N : Nat) (k2 : Int32 → Int64 → (Nat → Int64) → Int32 → Option (Int32 × Int64 × (Nat → Int64))) (s_keys : (Nat → Int32)) (s_number : Int32) (s_partHome : Int64) (s_parts : (Nat → Int64)) (x1 : Int32) : Option (Int32 × Int64 × (Nat → Int64)) :=
  k2 s_number s_partHome s_parts (x1 + (1 : Int32))
def f_X8_clear_b2 (N : Nat) (s_keys : (Nat → Int32)) : Nat → Int32 → Int64 → (Nat → Int64) → Int32 → Option (Int32 × Int64 × (Nat → Int64))
  | 0, _, _, _, _ => none
  | n2 + 1, s_number, s_partHome, s_parts, x1 => if s_number ≤ x1 then some ((0 : Int32), (0 : Int64), s_parts) else if (4608 : Int32) ≤ x1 then some ((0 : Int32), (0 : Int64), s_parts) else nm (p_X8_keyAt s_number s_keys x1) (fun v24 => (f_X8_clear_b45 N (f_X8_clear_b2 N s_keys n2) s_keys) s_number s_partHome (if v24 < 0 then s_parts else (if (4608 : Int32) ≤ v24 then s_parts else (vp_updL s_parts v24.toNatClampNeg (0 : Int64)))) x1)
def f_X8_clear (N : Nat) (s_keys : (Nat → Int32)) (s_number : Int32) (s_partHome : Int64) (s_parts : (Nat → Int64)) : Option (Int32 × Int64 × (Nat → Int64)) :=
  (f_X8_clear_b2 N s_keys N) s_number s_partHome s_parts (0 : Int32)
abbrev rm_X8_clear : Room := { frames := 1, cells := 0, slots := 0, locals := 21 }
set_option maxHeartbeats 4000000 in
set_option maxRecDepth 100000 in
theorem c_X8_clear (l : Launch) (D : va_G) (cI cJ cR : ClassId) (N : Nat) (ad_s ad_s_parts ad_s_keys : Nat) (s_number : Int32) (s_partHome : Int64) (s_parts : (Nat → Int64)) (s_keys : (Nat → Int32)) {o : Int32 × Int64 × (Nat → Int64)} (hf : f_X8_clear N s_keys s_number s_partHome s_parts = some o) : kMv l D (kT cI cJ cR) yX8_clear cX8_clear 3 none rm_X8_clear [.ref ad_s] [(ad_s, .inr (8, [.ref ad_s_parts, .ref ad_s_keys, .int s_number, .long s_partHome])), (ad_s_parts, .inl (cJ, 4608, .inr (.inl s_parts))), (ad_s_keys, .inl (cI, 4608, .inl s_keys))] 0 0 (fun w => w = [(ad_s, .inr (8, [.ref ad_s_parts, .ref ad_s_keys, .int o.1, .long o.2.1])), (ad_s_parts, .inl (cJ, 4608, .inr (.inl o.2.2))), (ad_s_keys, .inl (cI, 4608, .inl s_keys))]) := by
  apply kInV (o := o)
  · decide
  · exact Nat.le_of_ble_eq_true rfl
  intro p e s m args below meth c A ls Q hX hRet hP hD hS hl
  have hx := hX.1.1
  have hb := hX.1.2.1
  have hown := hX.1.2.2.2.1
  have hts := hX.1.2.2.2.2
  have hl : lv_has ls 3 [(0, .ref ad_s)] := hl
  have hb2 : ∀ n2 : Nat, ∀ (H : Heap) (locs : List Loc) (s_number : Int32) (s_partHome : Int64) (s_parts : (Nat → Int64)) (x1 : Int32), va_P D vwCl [(ad_s, .inr (8, [.ref ad_s_parts, .ref ad_s_keys, .int s_number, .long s_partHome])), (ad_s_parts, .inl (cJ, 4608, .inr (.inl s_parts))), (ad_s_keys, .inl (cI, 4608, .inl s_keys))] H → va_D A [(ad_s, .inr (8, [.ref ad_s_parts, .ref ad_s_keys, .int s_number, .long s_partHome])), (ad_s_parts, .inl (cJ, 4608, .inr (.inl s_parts))), (ad_s_keys, .inl (cI, 4608, .inl s_keys))] → va_S A s.heap H locs → ∀ ls : Array Slot, lv_has ls 3 [(0, .ref ad_s), (1, .int x1)] → f_X8_clear_b2 N s_keys n2 s_number s_partHome s_parts x1 = some o → W p l e rm_X8_clear s m args below meth c H locs 0 0 Q (F0 m 2 ls []) := by
    intro n2
    induction n2 with
    | zero =>
      intro H locs s_number s_partHome s_parts x1 hP hD hS ls hl hf
      rw [f_X8_clear_b2] at hf
      cases hf
    | succ n2 ih2 =>
      have hb45 : ∀ (H : Heap) (locs : List Loc) (s_number : Int32) (s_partHome : Int64) (s_parts : (Nat → Int64)) (x1 : Int32), va_P D vwCl [(ad_s, .inr (8, [.ref ad_s_parts, .ref ad_s_keys, .int s_number, .long s_partHome])), (ad_s_parts, .inl (cJ, 4608, .inr (.inl s_parts))), (ad_s_keys, .inl (cI, 4608, .inl s_keys))] H → va_D A [(ad_s, .inr (8, [.ref ad_s_parts, .ref ad_s_keys, .int s_number, .long s_partHome])), (ad_s_parts, .inl (cJ, 4608, .inr (.inl s_parts))), (ad_s_keys, .inl (cI, 4608, .inl s_keys))] → va_S A s.heap H locs → ∀ ls : Array Slot, lv_has ls 3 [(0, .ref ad_s), (1, .int x1)] → (f_X8_clear_b45 N (f_X8_clear_b2 N s_keys n2) s_keys) s_number s_partHome s_parts x1 = some o → W p l e rm_X8_clear s m args below meth c H locs 0 0 Q (F0 m 45 ls []) := by
        intro H locs s_number s_partHome s_parts x1 hP hD hS ls hl hf
        unfold f_X8_clear_b45 at hf
        refine lv_iinc (v := (x1 + (1 : Int32))) (lv' := [(1, .int (x1 + (1 : Int32))), (0, .ref ad_s)]) hx hb dX8_clear_45 hl (k := 1) rfl rfl (by decide) rfl (fun ls hl => ?_)
        refine lv_goto (tgt := 2) hx hb dX8_clear_48 (by decide) ?_
        exact ih2 _ _ s_number s_partHome s_parts (x1 + (1 : Int32)) hP hD hS _ (lv_sub hl [1, 0] rfl) hf
      intro H locs s_number s_partHome s_parts x1 hP hD hS ls hl hf
      rw [f_X8_clear_b2] at hf
      refine lv_iload_n hx hb dX8_clear_2 rfl (lv_at hl 1 rfl) ?_
      refine lv_aload_n hx hb dX8_clear_3 rfl (lv_at hl 0 rfl) ?_
      refine kget hX hP (q0 := 0) rfl rfl inX8 (k := 2) (by decide) rfl wd248 rfl dX8_clear_4 ?_
      refine lv_icmp_ge (tgt := 51) hx hb dX8_clear_7 (by decide) (fun c7 => ?_) (fun c7 => ?_)
      · replace hf := ip c7 hf
        refine lv_aload_n hx hb dX8_clear_51 rfl (lv_at hl 0 rfl) ?_
        refine lv_iconst (v := 0) hx hb dX8_clear_52 (by decide) ?_
        refine kput hX hP hD hS (q0 := 0) rfl rfl inX8 tyX8_ok nmX8 (k := 2) (by decide) rfl wd248 rfl rfl (Nat.le_of_ble_eq_true rfl) dX8_clear_53 (fun H locs hP hD hS => ?_)
        refine lv_aload_n hx hb dX8_clear_56 rfl (lv_at hl 0 rfl) ?_
        refine lv_lconst (v := 0) hx hb dX8_clear_57 (by decide) ?_
        refine kput hX hP hD hS (q0 := 0) rfl rfl inX8 tyX8_ok nmX8 (k := 3) (by decide) rfl wd250 rfl rfl (Nat.le_of_ble_eq_true rfl) dX8_clear_58 (fun H locs hP hD hS => ?_)
        exact hRet _ _ _ _ _ _ (Option.some.inj hf) rfl hP hD hS dX8_clear_61
      · replace hf := iq c7 hf
        refine lv_iload_n hx hb dX8_clear_10 rfl (lv_at hl 1 rfl) ?_
        refine lv_aload_n hx hb dX8_clear_11 rfl (lv_at hl 0 rfl) ?_
        refine kget hX hP (q0 := 0) rfl rfl inX8 (k := 1) (by decide) rfl wd247 rfl dX8_clear_12 ?_
        refine kalen hX hP (t0 := 0) rfl (q0 := 2) rfl (v := (4608 : Int32)) rfl dX8_clear_15 ?_
        refine lv_icmp_ge (tgt := 51) hx hb dX8_clear_16 (by decide) (fun c16 => ?_) (fun c16 => ?_)
        · replace hf := ip c16 hf
          refine lv_aload_n hx hb dX8_clear_51 rfl (lv_at hl 0 rfl) ?_
          refine lv_iconst (v := 0) hx hb dX8_clear_52 (by decide) ?_
          refine kput hX hP hD hS (q0 := 0) rfl rfl inX8 tyX8_ok nmX8 (k := 2) (by decide) rfl wd248 rfl rfl (Nat.le_of_ble_eq_true rfl) dX8_clear_53 (fun H locs hP hD hS => ?_)
          refine lv_aload_n hx hb dX8_clear_56 rfl (lv_at hl 0 rfl) ?_
          refine lv_lconst (v := 0) hx hb dX8_clear_57 (by decide) ?_
          refine kput hX hP hD hS (q0 := 0) rfl rfl inX8 tyX8_ok nmX8 (k := 3) (by decide) rfl wd250 rfl rfl (Nat.le_of_ble_eq_true rfl) dX8_clear_58 (fun H locs hP hD hS => ?_)
          exact hRet _ _ _ _ _ _ (Option.some.inj hf) rfl hP hD hS dX8_clear_61
        · replace hf := iq c16 hf
          refine lv_aload_n hx hb dX8_clear_19 rfl (lv_at hl 0 rfl) ?_
          refine lv_iload_n hx hb dX8_clear_20 rfl (lv_at hl 1 rfl) ?_
          refine kVi (rest := []) hX (c_X8_keyAt l D cI cJ cR ad_s ad_s_parts ad_s_keys s_number s_partHome s_keys x1 rfl) kc_X8_keyAt wd639 ⟨Nat.le_of_ble_eq_true rfl, Nat.le_of_ble_eq_true rfl⟩ ⟨rfl, rfl⟩ hP hD hS (ci := 8) rfl rfl (q0 := 0) rfl [0, 2] rfl (by decide) (fun w h => by cases h; rfl) rfl rfl (Nat.le_of_ble_eq_true rfl) hl.1 ⟨Nat.zero_le _, Nat.zero_le _⟩ dX8_clear_21 (fun H locs w1 hw1 hP hD hS => ?_)
          cases hw1
          have hP : va_P D vwCl [(ad_s, .inr (8, [.ref ad_s_parts, .ref ad_s_keys, .int s_number, .long s_partHome])), (ad_s_parts, .inl (cJ, 4608, .inr (.inl s_parts))), (ad_s_keys, .inl (cI, 4608, .inl s_keys))] H := hP
          have hD : va_D A [(ad_s, .inr (8, [.ref ad_s_parts, .ref ad_s_keys, .int s_number, .long s_partHome])), (ad_s_parts, .inl (cJ, 4608, .inr (.inl s_parts))), (ad_s_keys, .inl (cI, 4608, .inl s_keys))] := hD
          refine lv_topi (fun v24 ev24 => ?_)
          replace hf := nm_s ev24 hf
          refine lv_istore_n (lv' := [(2, .int v24), (0, .ref ad_s), (1, .int x1)]) hx hb dX8_clear_24 rfl hl (by decide) rfl (fun ls hl => ?_)
          refine lv_iload_n hx hb dX8_clear_25 rfl (lv_at hl 0 rfl) ?_
          refine lv_if_lt (tgt := 45) hx hb dX8_clear_26 (by decide) (fun c26 => ?_) (fun c26 => ?_)
          · simp only [if_pos c26] at hf
            exact hb45 _ _ s_number s_partHome s_parts x1 hP hD hS _ (lv_sub hl [1, 2] rfl) hf
          · simp only [if_neg c26] at hf
            refine lv_iload_n hx hb dX8_clear_29 rfl (lv_at hl 0 rfl) ?_
            refine lv_aload_n hx hb dX8_clear_30 rfl (lv_at hl 1 rfl) ?_
            refine kget hX hP (q0 := 0) rfl rfl inX8 (k := 0) (by decide) rfl wd246 rfl dX8_clear_31 ?_
            refine kalen hX hP (t0 := 1) rfl (q0 := 1) rfl (v := (4608 : Int32)) rfl dX8_clear_34 ?_
            refine lv_icmp_ge (tgt := 45) hx hb dX8_clear_35 (by decide) (fun c35 => ?_) (fun c35 => ?_)
            · simp only [if_pos c35] at hf
              exact hb45 _ _ s_number s_partHome s_parts x1 hP hD hS _ (lv_sub hl [1, 2] rfl) hf
            · simp only [if_neg c35] at hf
              refine lv_aload_n hx hb dX8_clear_38 rfl (lv_at hl 1 rfl) ?_
              refine kget hX hP (q0 := 0) rfl rfl inX8 (k := 0) (by decide) rfl wd246 rfl dX8_clear_39 ?_
              refine lv_iload_n hx hb dX8_clear_42 rfl (lv_at hl 0 rfl) ?_
              refine lv_lconst (v := 0) hx hb dX8_clear_43 (by decide) ?_
              refine klast hX hP hD hS rfl (q0 := 1) rfl (vpi (by decide) c26 c35) dX8_clear_44 (fun H locs hP hD hS => ?_)
              exact hb45 _ _ s_number s_partHome (vp_updL s_parts v24.toNatClampNeg (0 : Int64)) x1 hP hD hS _ (lv_sub hl [1, 2] rfl) hf
  unfold f_X8_clear at hf
  refine lv_iconst (v := 0) hx hb dX8_clear_0 (by decide) ?_
  refine lv_istore_n (lv' := [(1, .int (0 : Int32)), (0, .ref ad_s)]) hx hb dX8_clear_1 rfl hl (by decide) rfl (fun ls hl => ?_)
  exact hb2 N _ _ s_number s_partHome s_parts (0 : Int32) hP hD hS _ (lv_sub hl [1, 0] rfl) hf
def f_X2_passHours_b75 (N : Nat) (k3 : Int64 → Int32 → Int32 → Int32 → Int32 → Int32 → (Nat → Int32) → Int32 → Int64 → (Nat → Int64) → (Nat → Int32) → Int32 → Int64 → (Nat → Int64) → (Nat → Int32) → Int32 → Int32 → Int32 → Int32 → Option (Int64 × Int32 × Int32 × Int32 × Int32 × Int32 × (Nat → Int32) × Int32 × Int64 × (Nat → Int64) × (Nat → Int32) × Int32 × Int64 × (Nat → Int64) × (Nat → Int32))) (q1_number : Int32) (q1_facts : (Nat → Int32)) (s_whole : Int64) (s_walk_signed : Int32) (s_walk_at : Int32) (s_walk_crossed : Int32) (s_walk_target : Int32) (s_walk_heap : Int32) (s_walk_signers : (Nat → Int32)) (s_now_number : Int32) (s_now_partHome : Int64) (s_now_parts : (Nat → Int64)) (s_now_keys : (Nat → Int32)) (s_then_number : Int32) (s_then_partHome : Int64) (s_then_parts : (Nat → Int64)) (s_then_keys : (Nat → Int32)) (x2 : Int32) (x3 : Int32) (x4 : Int32) (x5 : Int32) : Option (Int64 × Int32 × Int32 × Int32 × Int32 × Int32 × (Nat → Int32) × Int32 × Int64 × (Nat → Int64) × (Nat → Int32) × Int32 × Int64 × (Nat → Int64) × (Nat → Int32)) :=
  k3 (s_whole * (12 : Int64)) s_walk_signed s_walk_at s_walk_crossed s_walk_target s_walk_heap s_walk_signers s_then_number s_then_partHome s_then_parts s_then_keys s_now_number s_now_partHome s_now_parts s_now_keys x2 x3 x4 (x5 + (1 : Int32))
def f_X2_passHours_b38 (N : Nat) (k75 : Int64 → Int32 → Int32 → Int32 → Int32 → Int32 → (Nat → Int32) → Int32 → Int64 → (Nat → Int64) → (Nat → Int32) → Int32 → Int64 → (Nat → Int64) → (Nat → Int32) → Int32 → Int32 → Int32 → Int32 → Option (Int64 × Int32 × Int32 × Int32 × Int32 × Int32 × (Nat → Int32) × Int32 × Int64 × (Nat → Int64) × (Nat → Int32) × Int32 × Int64 × (Nat → Int64) × (Nat → Int32))) (q1_number : Int32) (q1_facts : (Nat → Int32)) : Nat → Int64 → Int32 → Int32 → Int32 → Int32 → Int32 → (Nat → Int32) → Int32 → Int64 → (Nat → Int64) → (Nat → Int32) → Int32 → Int64 → (Nat → Int64) → (Nat → Int32) → Int32 → Int32 → Int32 → Int32 → Int32 → Option (Int64 × Int32 × Int32 × Int32 × Int32 × Int32 × (Nat → Int32) × Int32 × Int64 × (Nat → Int64) × (Nat → Int32) × Int32 × Int64 × (Nat → Int64) × (Nat → Int32))
  | 0, _, _, _, _, _, _, _, _, _, _, _, _, _, _, _, _, _, _, _, _ => none
  | n38 + 1, s_whole, s_walk_signed, s_walk_at, s_walk_crossed, s_walk_target, s_walk_heap, s_walk_signers, s_now_number, s_now_partHome, s_now_parts, s_now_keys, s_then_number, s_then_partHome, s_then_parts, s_then_keys, x2, x3, x4, x5, x6 => if s_now_number ≤ x6 then k75 s_whole s_walk_signed s_walk_at s_walk_crossed s_walk_target s_walk_heap s_walk_signers s_now_number s_now_partHome s_now_parts s_now_keys s_then_number s_then_partHome s_then_parts s_then_keys x2 x3 x4 x5 else bn (f_X2_spread N s_now_parts q1_number q1_facts s_walk_signed s_walk_at s_walk_crossed s_walk_target s_walk_heap s_walk_signers s_then_number s_then_partHome s_then_parts s_then_keys (p_X8_keyAt s_now_number s_now_keys x6) (x2 + x5) x3) (fun z66_1 => (f_X2_passHours_b38 N k75 q1_number q1_facts n38) s_whole z66_1.1 z66_1.2.1 z66_1.2.2.1 z66_1.2.2.2.1 z66_1.2.2.2.2.1 z66_1.2.2.2.2.2.1 s_now_number s_now_partHome s_now_parts s_now_keys z66_1.2.2.2.2.2.2.1 z66_1.2.2.2.2.2.2.2.1 z66_1.2.2.2.2.2.2.2.2.1 z66_1.2.2.2.2.2.2.2.2.2 x2 x3 x4 x5 (x6 + (1 : Int32)))
def f_X2_passHours_b3 (N : Nat) (q1_number : Int32) (q1_facts : (Nat → Int32)) : Nat → Int64 → Int32 → Int32 → Int32 → Int32 → Int32 → (Nat → Int32) → Int32 → Int64 → (Nat → Int64) → (Nat → Int32) → Int32 → Int64 → (Nat → Int64) → (Nat → Int32) → Int32 → Int32 → Int32 → Int32 → Option (Int64 × Int32 × Int32 × Int32 × Int32 × Int32 × (Nat → Int32) × Int32 × Int64 × (Nat → Int64) × (Nat → Int32) × Int32 × Int64 × (Nat → Int64) × (Nat → Int32))
  | 0, _, _, _, _, _, _, _, _, _, _, _, _, _, _, _, _, _, _, _ => none
  | n3 + 1, s_whole, s_walk_signed, s_walk_at, s_walk_crossed, s_walk_target, s_walk_heap, s_walk_signers, s_now_number, s_now_partHome, s_now_parts, s_now_keys, s_then_number, s_then_partHome, s_then_parts, s_then_keys, x2, x3, x4, x5 => if x4 ≤ x5 then some (s_whole, s_walk_signed, s_walk_at, s_walk_crossed, s_walk_target, s_walk_heap, s_walk_signers, s_now_number, s_now_partHome, s_now_parts, s_now_keys, s_then_number, s_then_partHome, s_then_parts, s_then_keys) else bn (f_X8_clear N s_then_keys s_then_number s_then_partHome s_then_parts) (fun z14_1 => (f_X2_passHours_b38 N (f_X2_passHours_b75 N (f_X2_passHours_b3 N q1_number q1_facts n3) q1_number q1_facts) q1_number q1_facts N) s_whole s_walk_signed s_walk_at s_walk_crossed s_walk_target s_walk_heap s_walk_signers s_now_number s_now_partHome s_now_parts s_now_keys z14_1.1 (s_now_partHome * (12 : Int64)) z14_1.2.2 s_then_keys x2 x3 x4 x5 (0 : Int32))
def f_X2_passHours (N : Nat) (q1_number : Int32) (q1_facts : (Nat → Int32)) (s_whole : Int64) (s_walk_signed : Int32) (s_walk_at : Int32) (s_walk_crossed : Int32) (s_walk_target : Int32) (s_walk_heap : Int32) (s_walk_signers : (Nat → Int32)) (s_now_number : Int32) (s_now_partHome : Int64) (s_now_parts : (Nat → Int64)) (s_now_keys : (Nat → Int32)) (s_then_number : Int32) (s_then_partHome : Int64) (s_then_parts : (Nat → Int64)) (s_then_keys : (Nat → Int32)) (x2 : Int32) (x3 : Int32) (x4 : Int32) : Option (Int64 × Int32 × Int32 × Int32 × Int32 × Int32 × (Nat → Int32) × Int32 × Int64 × (Nat → Int64) × (Nat → Int32) × Int32 × Int64 × (Nat → Int64) × (Nat → Int32)) :=
  (f_X2_passHours_b3 N q1_number q1_facts N) s_whole s_walk_signed s_walk_at s_walk_crossed s_walk_target s_walk_heap s_walk_signers s_now_number s_now_partHome s_now_parts s_now_keys s_then_number s_then_partHome s_then_parts s_then_keys x2 x3 x4 (0 : Int32)
abbrev rm_X2_passHours : Room := { frames := 5, cells := 0, slots := 0, locals := 144 }
set_option maxHeartbeats 4000000 in
set_option maxRecDepth 100000 in
theorem c_X2_passHours (l : Launch) (D : va_G) (cI cJ cR : ClassId) (N : Nat) (ad_s ad_s_walk ad_s_walk_signers ad_s_now ad_s_now_parts ad_s_now_keys ad_s_then ad_s_then_parts ad_s_then_keys ad_q1 ad_q1_facts : Nat) (s_whole : Int64) (s_walk_signed : Int32) (s_walk_at : Int32) (s_walk_crossed : Int32) (s_walk_target : Int32) (s_walk_heap : Int32) (s_walk_signers : (Nat → Int32)) (s_now_number : Int32) (s_now_partHome : Int64) (s_now_parts : (Nat → Int64)) (s_now_keys : (Nat → Int32)) (s_then_number : Int32) (s_then_partHome : Int64) (s_then_parts : (Nat → Int64)) (s_then_keys : (Nat → Int32)) (q1_number : Int32) (q1_facts : (Nat → Int32)) (x2 : Int32) (x3 : Int32) (x4 : Int32) {o : Int64 × Int32 × Int32 × Int32 × Int32 × Int32 × (Nat → Int32) × Int32 × Int64 × (Nat → Int64) × (Nat → Int32) × Int32 × Int64 × (Nat → Int64) × (Nat → Int32)} (hf : f_X2_passHours N q1_number q1_facts s_whole s_walk_signed s_walk_at s_walk_crossed s_walk_target s_walk_heap s_walk_signers s_now_number s_now_partHome s_now_parts s_now_keys s_then_number s_then_partHome s_then_parts s_then_keys x2 x3 x4 = some o) : kMv l D (kT cI cJ cR) yX2_passHours cX2_passHours 7 none rm_X2_passHours [.ref ad_s, .ref ad_q1, .int x2, .int x3, .int x4] [(ad_s, .inr (2, [.ref ad_s_walk, .ref ad_s_now, .ref ad_s_then, .long s_whole])), (ad_s_walk, .inr (9, [.ref ad_s_walk_signers, .int s_walk_signed, .int s_walk_at, .int s_walk_crossed, .int s_walk_target, .int s_walk_heap])), (ad_s_walk_signers, .inl (cI, 9, .inl s_walk_signers)), (ad_s_now, .inr (8, [.ref ad_s_now_parts, .ref ad_s_now_keys, .int s_now_number, .long s_now_partHome])), (ad_s_now_parts, .inl (cJ, 4608, .inr (.inl s_now_parts))), (ad_s_now_keys, .inl (cI, 4608, .inl s_now_keys)), (ad_s_then, .inr (8, [.ref ad_s_then_parts, .ref ad_s_then_keys, .int s_then_number, .long s_then_partHome])), (ad_s_then_parts, .inl (cJ, 4608, .inr (.inl s_then_parts))), (ad_s_then_keys, .inl (cI, 4608, .inl s_then_keys)), (ad_q1, .inr (1, [.ref ad_q1_facts, .int q1_number])), (ad_q1_facts, .inl (cI, 54, .inl q1_facts))] 0 0 (fun w => ∃ ad_s_now' ad_s_now_parts' ad_s_now_keys' ad_s_then' ad_s_then_parts' ad_s_then_keys' : Nat, w = [(ad_s, .inr (2, [.ref ad_s_walk, .ref ad_s_now', .ref ad_s_then', .long o.1])), (ad_s_walk, .inr (9, [.ref ad_s_walk_signers, .int o.2.1, .int o.2.2.1, .int o.2.2.2.1, .int o.2.2.2.2.1, .int o.2.2.2.2.2.1])), (ad_s_walk_signers, .inl (cI, 9, .inl o.2.2.2.2.2.2.1)), (ad_s_now', .inr (8, [.ref ad_s_now_parts', .ref ad_s_now_keys', .int o.2.2.2.2.2.2.2.1, .long o.2.2.2.2.2.2.2.2.1])), (ad_s_now_parts', .inl (cJ, 4608, .inr (.inl o.2.2.2.2.2.2.2.2.2.1))), (ad_s_now_keys', .inl (cI, 4608, .inl o.2.2.2.2.2.2.2.2.2.2.1)), (ad_s_then', .inr (8, [.ref ad_s_then_parts', .ref ad_s_then_keys', .int o.2.2.2.2.2.2.2.2.2.2.2.1, .long o.2.2.2.2.2.2.2.2.2.2.2.2.1])), (ad_s_then_parts', .inl (cJ, 4608, .inr (.inl o.2.2.2.2.2.2.2.2.2.2.2.2.2.1))), (ad_s_then_keys', .inl (cI, 4608, .inl o.2.2.2.2.2.2.2.2.2.2.2.2.2.2)), (ad_q1, .inr (1, [.ref ad_q1_facts, .int q1_number])), (ad_q1_facts, .inl (cI, 54, .inl q1_facts))]) := by
  apply kInV (o := o)
  · decide
  · exact Nat.le_of_ble_eq_true rfl
  intro p e s m args below meth c A ls Q hX hRet hP hD hS hl
  have hx := hX.1.1
  have hb := hX.1.2.1
  have hown := hX.1.2.2.2.1
  have hts := hX.1.2.2.2.2
  have hl : lv_has ls 7 [(0, .ref ad_s), (1, .ref ad_q1), (2, .int x2), (3, .int x3), (4, .int x4)] := hl
  have hb3 : ∀ n3 : Nat, ∀ (H : Heap) (locs : List Loc) (ad_s_now ad_s_now_parts ad_s_now_keys ad_s_then ad_s_then_parts ad_s_then_keys : Nat) (s_whole : Int64) (s_walk_signed : Int32) (s_walk_at : Int32) (s_walk_crossed : Int32) (s_walk_target : Int32) (s_walk_heap : Int32) (s_walk_signers : (Nat → Int32)) (s_now_number : Int32) (s_now_partHome : Int64) (s_now_parts : (Nat → Int64)) (s_now_keys : (Nat → Int32)) (s_then_number : Int32) (s_then_partHome : Int64) (s_then_parts : (Nat → Int64)) (s_then_keys : (Nat → Int32)) (x2 : Int32) (x3 : Int32) (x4 : Int32) (x5 : Int32), va_P D vwCl [(ad_s, .inr (2, [.ref ad_s_walk, .ref ad_s_now, .ref ad_s_then, .long s_whole])), (ad_s_walk, .inr (9, [.ref ad_s_walk_signers, .int s_walk_signed, .int s_walk_at, .int s_walk_crossed, .int s_walk_target, .int s_walk_heap])), (ad_s_walk_signers, .inl (cI, 9, .inl s_walk_signers)), (ad_s_now, .inr (8, [.ref ad_s_now_parts, .ref ad_s_now_keys, .int s_now_number, .long s_now_partHome])), (ad_s_now_parts, .inl (cJ, 4608, .inr (.inl s_now_parts))), (ad_s_now_keys, .inl (cI, 4608, .inl s_now_keys)), (ad_s_then, .inr (8, [.ref ad_s_then_parts, .ref ad_s_then_keys, .int s_then_number, .long s_then_partHome])), (ad_s_then_parts, .inl (cJ, 4608, .inr (.inl s_then_parts))), (ad_s_then_keys, .inl (cI, 4608, .inl s_then_keys)), (ad_q1, .inr (1, [.ref ad_q1_facts, .int q1_number])), (ad_q1_facts, .inl (cI, 54, .inl q1_facts))] H → va_D A [(ad_s, .inr (2, [.ref ad_s_walk, .ref ad_s_now, .ref ad_s_then, .long s_whole])), (ad_s_walk, .inr (9, [.ref ad_s_walk_signers, .int s_walk_signed, .int s_walk_at, .int s_walk_crossed, .int s_walk_target, .int s_walk_heap])), (ad_s_walk_signers, .inl (cI, 9, .inl s_walk_signers)), (ad_s_now, .inr (8, [.ref ad_s_now_parts, .ref ad_s_now_keys, .int s_now_number, .long s_now_partHome])), (ad_s_now_parts, .inl (cJ, 4608, .inr (.inl s_now_parts))), (ad_s_now_keys, .inl (cI, 4608, .inl s_now_keys)), (ad_s_then, .inr (8, [.ref ad_s_then_parts, .ref ad_s_then_keys, .int s_then_number, .long s_then_partHome])), (ad_s_then_parts, .inl (cJ, 4608, .inr (.inl s_then_parts))), (ad_s_then_keys, .inl (cI, 4608, .inl s_then_keys)), (ad_q1, .inr (1, [.ref ad_q1_facts, .int q1_number])), (ad_q1_facts, .inl (cI, 54, .inl q1_facts))] → va_S A s.heap H locs → ∀ ls : Array Slot, lv_has ls 7 [(0, .ref ad_s), (1, .ref ad_q1), (2, .int x2), (3, .int x3), (4, .int x4), (5, .int x5)] → f_X2_passHours_b3 N q1_number q1_facts n3 s_whole s_walk_signed s_walk_at s_walk_crossed s_walk_target s_walk_heap s_walk_signers s_now_number s_now_partHome s_now_parts s_now_keys s_then_number s_then_partHome s_then_parts s_then_keys x2 x3 x4 x5 = some o → W p l e rm_X2_passHours s m args below meth c H locs 0 0 Q (F0 m 3 ls []) := by
    intro n3
    induction n3 with
    | zero =>
      intro H locs ad_s_now ad_s_now_parts ad_s_now_keys ad_s_then ad_s_then_parts ad_s_then_keys s_whole s_walk_signed s_walk_at s_walk_crossed s_walk_target s_walk_heap s_walk_signers s_now_number s_now_partHome s_now_parts s_now_keys s_then_number s_then_partHome s_then_parts s_then_keys x2 x3 x4 x5 hP hD hS ls hl hf
      rw [f_X2_passHours_b3] at hf
      cases hf
    | succ n3 ih3 =>
      have hb75 : ∀ (H : Heap) (locs : List Loc) (ad_s_now ad_s_now_parts ad_s_now_keys ad_s_then ad_s_then_parts ad_s_then_keys : Nat) (s_whole : Int64) (s_walk_signed : Int32) (s_walk_at : Int32) (s_walk_crossed : Int32) (s_walk_target : Int32) (s_walk_heap : Int32) (s_walk_signers : (Nat → Int32)) (s_now_number : Int32) (s_now_partHome : Int64) (s_now_parts : (Nat → Int64)) (s_now_keys : (Nat → Int32)) (s_then_number : Int32) (s_then_partHome : Int64) (s_then_parts : (Nat → Int64)) (s_then_keys : (Nat → Int32)) (x2 : Int32) (x3 : Int32) (x4 : Int32) (x5 : Int32), va_P D vwCl [(ad_s, .inr (2, [.ref ad_s_walk, .ref ad_s_now, .ref ad_s_then, .long s_whole])), (ad_s_walk, .inr (9, [.ref ad_s_walk_signers, .int s_walk_signed, .int s_walk_at, .int s_walk_crossed, .int s_walk_target, .int s_walk_heap])), (ad_s_walk_signers, .inl (cI, 9, .inl s_walk_signers)), (ad_s_now, .inr (8, [.ref ad_s_now_parts, .ref ad_s_now_keys, .int s_now_number, .long s_now_partHome])), (ad_s_now_parts, .inl (cJ, 4608, .inr (.inl s_now_parts))), (ad_s_now_keys, .inl (cI, 4608, .inl s_now_keys)), (ad_s_then, .inr (8, [.ref ad_s_then_parts, .ref ad_s_then_keys, .int s_then_number, .long s_then_partHome])), (ad_s_then_parts, .inl (cJ, 4608, .inr (.inl s_then_parts))), (ad_s_then_keys, .inl (cI, 4608, .inl s_then_keys)), (ad_q1, .inr (1, [.ref ad_q1_facts, .int q1_number])), (ad_q1_facts, .inl (cI, 54, .inl q1_facts))] H → va_D A [(ad_s, .inr (2, [.ref ad_s_walk, .ref ad_s_now, .ref ad_s_then, .long s_whole])), (ad_s_walk, .inr (9, [.ref ad_s_walk_signers, .int s_walk_signed, .int s_walk_at, .int s_walk_crossed, .int s_walk_target, .int s_walk_heap])), (ad_s_walk_signers, .inl (cI, 9, .inl s_walk_signers)), (ad_s_now, .inr (8, [.ref ad_s_now_parts, .ref ad_s_now_keys, .int s_now_number, .long s_now_partHome])), (ad_s_now_parts, .inl (cJ, 4608, .inr (.inl s_now_parts))), (ad_s_now_keys, .inl (cI, 4608, .inl s_now_keys)), (ad_s_then, .inr (8, [.ref ad_s_then_parts, .ref ad_s_then_keys, .int s_then_number, .long s_then_partHome])), (ad_s_then_parts, .inl (cJ, 4608, .inr (.inl s_then_parts))), (ad_s_then_keys, .inl (cI, 4608, .inl s_then_keys)), (ad_q1, .inr (1, [.ref ad_q1_facts, .int q1_number])), (ad_q1_facts, .inl (cI, 54, .inl q1_facts))] → va_S A s.heap H locs → ∀ ls : Array Slot, lv_has ls 7 [(0, .ref ad_s), (1, .ref ad_q1), (2, .int x2), (3, .int x3), (4, .int x4), (5, .int x5)] → (f_X2_passHours_b75 N (f_X2_passHours_b3 N q1_number q1_facts n3) q1_number q1_facts) s_whole s_walk_signed s_walk_at s_walk_crossed s_walk_target s_walk_heap s_walk_signers s_now_number s_now_partHome s_now_parts s_now_keys s_then_number s_then_partHome s_then_parts s_then_keys x2 x3 x4 x5 = some o → W p l e rm_X2_passHours s m args below meth c H locs 0 0 Q (F0 m 75 ls []) := by
        intro H locs ad_s_now ad_s_now_parts ad_s_now_keys ad_s_then ad_s_then_parts ad_s_then_keys s_whole s_walk_signed s_walk_at s_walk_crossed s_walk_target s_walk_heap s_walk_signers s_now_number s_now_partHome s_now_parts s_now_keys s_then_number s_then_partHome s_then_parts s_then_keys x2 x3 x4 x5 hP hD hS ls hl hf
        unfold f_X2_passHours_b75 at hf
        refine lv_aload_n hx hb dX2_passHours_75 rfl (lv_at hl 0 rfl) ?_
        refine kget hX hP (q0 := 0) rfl rfl inX2 (k := 1) (by decide) rfl wd263 rfl dX2_passHours_76 ?_
        refine lv_astore (lv' := [(6, .ref ad_s_now), (0, .ref ad_s), (1, .ref ad_q1), (2, .int x2), (3, .int x3), (4, .int x4), (5, .int x5)]) hx hb dX2_passHours_79 hl (by decide) rfl (fun ls hl => ?_)
        refine lv_aload_n hx hb dX2_passHours_81 rfl (lv_at hl 1 rfl) ?_
        refine lv_aload_n hx hb dX2_passHours_82 rfl (lv_at hl 1 rfl) ?_
        refine kget hX hP (q0 := 0) rfl rfl inX2 (k := 2) (by decide) rfl wd264 rfl dX2_passHours_83 ?_
        refine kput hX hP hD hS (q0 := 0) rfl rfl inX2 tyX2_ok nmX2 (k := 1) (by decide) rfl wd263 rfl rfl (Nat.le_of_ble_eq_true rfl) dX2_passHours_86 (fun H locs hP hD hS => ?_)
        refine lv_aload_n hx hb dX2_passHours_89 rfl (lv_at hl 1 rfl) ?_
        refine lv_aload hx hb dX2_passHours_90 (lv_at hl 0 rfl) ?_
        refine kput hX hP hD hS (q0 := 0) rfl rfl inX2 tyX2_ok nmX2 (k := 2) (by decide) rfl wd264 rfl rfl (Nat.le_of_ble_eq_true rfl) dX2_passHours_92 (fun H locs hP hD hS => ?_)
        refine lv_aload_n hx hb dX2_passHours_95 rfl (lv_at hl 1 rfl) ?_
        refine lv_dup hx hb dX2_passHours_96 rfl ?_
        refine kget hX hP (q0 := 0) rfl rfl inX2 (k := 3) (by decide) rfl wd265 rfl dX2_passHours_97 ?_
        refine lv_ldc2 (v := 12) hx hb hown (hts _ (List.mem_cons_of_mem _ wd651)) dX2_passHours_100 ?_
        refine lv_lmul hx hb dX2_passHours_103 ?_
        refine kput hX hP hD hS (q0 := 0) rfl rfl inX2 tyX2_ok nmX2 (k := 3) (by decide) rfl wd265 rfl rfl (Nat.le_of_ble_eq_true rfl) dX2_passHours_104 (fun H locs hP hD hS => ?_)
        refine lv_iinc (v := (x5 + (1 : Int32))) (lv' := [(5, .int (x5 + (1 : Int32))), (6, .ref ad_s_now), (0, .ref ad_s), (1, .ref ad_q1), (2, .int x2), (3, .int x3), (4, .int x4)]) hx hb dX2_passHours_107 hl (k := 6) rfl rfl (by decide) rfl (fun ls hl => ?_)
        refine lv_goto (tgt := 3) hx hb dX2_passHours_110 (by decide) ?_
        exact ih3 _ _ ad_s_then ad_s_then_parts ad_s_then_keys ad_s_now ad_s_now_parts ad_s_now_keys (s_whole * (12 : Int64)) s_walk_signed s_walk_at s_walk_crossed s_walk_target s_walk_heap s_walk_signers s_then_number s_then_partHome s_then_parts s_then_keys s_now_number s_now_partHome s_now_parts s_now_keys x2 x3 x4 (x5 + (1 : Int32)) (hP.sub (ws' := [(ad_s, .inr (2, [.ref ad_s_walk, .ref ad_s_then, .ref ad_s_now, .long (s_whole * (12 : Int64))])), (ad_s_walk, .inr (9, [.ref ad_s_walk_signers, .int s_walk_signed, .int s_walk_at, .int s_walk_crossed, .int s_walk_target, .int s_walk_heap])), (ad_s_walk_signers, .inl (cI, 9, .inl s_walk_signers)), (ad_s_then, .inr (8, [.ref ad_s_then_parts, .ref ad_s_then_keys, .int s_then_number, .long s_then_partHome])), (ad_s_then_parts, .inl (cJ, 4608, .inr (.inl s_then_parts))), (ad_s_then_keys, .inl (cI, 4608, .inl s_then_keys)), (ad_s_now, .inr (8, [.ref ad_s_now_parts, .ref ad_s_now_keys, .int s_now_number, .long s_now_partHome])), (ad_s_now_parts, .inl (cJ, 4608, .inr (.inl s_now_parts))), (ad_s_now_keys, .inl (cI, 4608, .inl s_now_keys)), (ad_q1, .inr (1, [.ref ad_q1_facts, .int q1_number])), (ad_q1_facts, .inl (cI, 54, .inl q1_facts))]) [0, 1, 2, 6, 7, 8, 3, 4, 5, 9, 10] rfl) (hD.sub (ws' := [(ad_s, .inr (2, [.ref ad_s_walk, .ref ad_s_then, .ref ad_s_now, .long (s_whole * (12 : Int64))])), (ad_s_walk, .inr (9, [.ref ad_s_walk_signers, .int s_walk_signed, .int s_walk_at, .int s_walk_crossed, .int s_walk_target, .int s_walk_heap])), (ad_s_walk_signers, .inl (cI, 9, .inl s_walk_signers)), (ad_s_then, .inr (8, [.ref ad_s_then_parts, .ref ad_s_then_keys, .int s_then_number, .long s_then_partHome])), (ad_s_then_parts, .inl (cJ, 4608, .inr (.inl s_then_parts))), (ad_s_then_keys, .inl (cI, 4608, .inl s_then_keys)), (ad_s_now, .inr (8, [.ref ad_s_now_parts, .ref ad_s_now_keys, .int s_now_number, .long s_now_partHome])), (ad_s_now_parts, .inl (cJ, 4608, .inr (.inl s_now_parts))), (ad_s_now_keys, .inl (cI, 4608, .inl s_now_keys)), (ad_q1, .inr (1, [.ref ad_q1_facts, .int q1_number])), (ad_q1_facts, .inl (cI, 54, .inl q1_facts))]) [0, 1, 2, 6, 7, 8, 3, 4, 5, 9, 10] (by decide) rfl) hS _ (lv_sub hl [2, 3, 4, 5, 6, 0] rfl) hf
      have hb38 : ∀ n38 : Nat, ∀ (H : Heap) (locs : List Loc) (ad_s_now ad_s_now_parts ad_s_now_keys ad_s_then ad_s_then_parts ad_s_then_keys : Nat) (s_whole : Int64) (s_walk_signed : Int32) (s_walk_at : Int32) (s_walk_crossed : Int32) (s_walk_target : Int32) (s_walk_heap : Int32) (s_walk_signers : (Nat → Int32)) (s_now_number : Int32) (s_now_partHome : Int64) (s_now_parts : (Nat → Int64)) (s_now_keys : (Nat → Int32)) (s_then_number : Int32) (s_then_partHome : Int64) (s_then_parts : (Nat → Int64)) (s_then_keys : (Nat → Int32)) (x2 : Int32) (x3 : Int32) (x4 : Int32) (x5 : Int32) (x6 : Int32), va_P D vwCl [(ad_s, .inr (2, [.ref ad_s_walk, .ref ad_s_now, .ref ad_s_then, .long s_whole])), (ad_s_walk, .inr (9, [.ref ad_s_walk_signers, .int s_walk_signed, .int s_walk_at, .int s_walk_crossed, .int s_walk_target, .int s_walk_heap])), (ad_s_walk_signers, .inl (cI, 9, .inl s_walk_signers)), (ad_s_now, .inr (8, [.ref ad_s_now_parts, .ref ad_s_now_keys, .int s_now_number, .long s_now_partHome])), (ad_s_now_parts, .inl (cJ, 4608, .inr (.inl s_now_parts))), (ad_s_now_keys, .inl (cI, 4608, .inl s_now_keys)), (ad_s_then, .inr (8, [.ref ad_s_then_parts, .ref ad_s_then_keys, .int s_then_number, .long s_then_partHome])), (ad_s_then_parts, .inl (cJ, 4608, .inr (.inl s_then_parts))), (ad_s_then_keys, .inl (cI, 4608, .inl s_then_keys)), (ad_q1, .inr (1, [.ref ad_q1_facts, .int q1_number])), (ad_q1_facts, .inl (cI, 54, .inl q1_facts))] H → va_D A [(ad_s, .inr (2, [.ref ad_s_walk, .ref ad_s_now, .ref ad_s_then, .long s_whole])), (ad_s_walk, .inr (9, [.ref ad_s_walk_signers, .int s_walk_signed, .int s_walk_at, .int s_walk_crossed, .int s_walk_target, .int s_walk_heap])), (ad_s_walk_signers, .inl (cI, 9, .inl s_walk_signers)), (ad_s_now, .inr (8, [.ref ad_s_now_parts, .ref ad_s_now_keys, .int s_now_number, .long s_now_partHome])), (ad_s_now_parts, .inl (cJ, 4608, .inr (.inl s_now_parts))), (ad_s_now_keys, .inl (cI, 4608, .inl s_now_keys)), (ad_s_then, .inr (8, [.ref ad_s_then_parts, .ref ad_s_then_keys, .int s_then_number, .long s_then_partHome])), (ad_s_then_parts, .inl (cJ, 4608, .inr (.inl s_then_parts))), (ad_s_then_keys, .inl (cI, 4608, .inl s_then_keys)), (ad_q1, .inr (1, [.ref ad_q1_facts, .int q1_number])), (ad_q1_facts, .inl (cI, 54, .inl q1_facts))] → va_S A s.heap H locs → ∀ ls : Array Slot, lv_has ls 7 [(0, .ref ad_s), (1, .ref ad_q1), (2, .int x2), (3, .int x3), (4, .int x4), (5, .int x5), (6, .int x6)] → f_X2_passHours_b38 N (f_X2_passHours_b75 N (f_X2_passHours_b3 N q1_number q1_facts n3) q1_number q1_facts) q1_number q1_facts n38 s_whole s_walk_signed s_walk_at s_walk_crossed s_walk_target s_walk_heap s_walk_signers s_now_number s_now_partHome s_now_parts s_now_keys s_then_number s_then_partHome s_then_parts s_then_keys x2 x3 x4 x5 x6 = some o → W p l e rm_X2_passHours s m args below meth c H locs 0 0 Q (F0 m 38 ls []) := by
        intro n38
        induction n38 with
        | zero =>
          intro H locs ad_s_now ad_s_now_parts ad_s_now_keys ad_s_then ad_s_then_parts ad_s_then_keys s_whole s_walk_signed s_walk_at s_walk_crossed s_walk_target s_walk_heap s_walk_signers s_now_number s_now_partHome s_now_parts s_now_keys s_then_number s_then_partHome s_then_parts s_then_keys x2 x3 x4 x5 x6 hP hD hS ls hl hf
          rw [f_X2_passHours_b38] at hf
          cases hf
        | succ n38 ih38 =>
          intro H locs ad_s_now ad_s_now_parts ad_s_now_keys ad_s_then ad_s_then_parts ad_s_then_keys s_whole s_walk_signed s_walk_at s_walk_crossed s_walk_target s_walk_heap s_walk_signers s_now_number s_now_partHome s_now_parts s_now_keys s_then_number s_then_partHome s_then_parts s_then_keys x2 x3 x4 x5 x6 hP hD hS ls hl hf
          rw [f_X2_passHours_b38] at hf
          refine lv_iload hx hb dX2_passHours_38 (lv_at hl 6 rfl) ?_
          refine lv_aload_n hx hb dX2_passHours_40 rfl (lv_at hl 0 rfl) ?_
          refine kget hX hP (q0 := 0) rfl rfl inX2 (k := 1) (by decide) rfl wd263 rfl dX2_passHours_41 ?_
          refine kget hX hP (q0 := 3) rfl rfl inX8 (k := 2) (by decide) rfl wd249 rfl dX2_passHours_44 ?_
          refine lv_icmp_ge (tgt := 75) hx hb dX2_passHours_47 (by decide) (fun c47 => ?_) (fun c47 => ?_)
          · replace hf := ip c47 hf
            exact hb75 _ _ ad_s_now ad_s_now_parts ad_s_now_keys ad_s_then ad_s_then_parts ad_s_then_keys s_whole s_walk_signed s_walk_at s_walk_crossed s_walk_target s_walk_heap s_walk_signers s_now_number s_now_partHome s_now_parts s_now_keys s_then_number s_then_partHome s_then_parts s_then_keys x2 x3 x4 x5 hP hD hS _ (lv_sub hl [0, 1, 2, 3, 4, 5] rfl) hf
          · replace hf := iq c47 hf
            refine lv_aload_n hx hb dX2_passHours_50 rfl (lv_at hl 0 rfl) ?_
            refine lv_aload_n hx hb dX2_passHours_51 rfl (lv_at hl 1 rfl) ?_
            refine lv_aload_n hx hb dX2_passHours_52 rfl (lv_at hl 0 rfl) ?_
            refine kget hX hP (q0 := 0) rfl rfl inX2 (k := 1) (by decide) rfl wd263 rfl dX2_passHours_53 ?_
            refine lv_iload hx hb dX2_passHours_56 (lv_at hl 6 rfl) ?_
            refine kVi (rest := [.ref ad_q1, .ref ad_s]) hX (c_X8_keyAt l D cI cJ cR ad_s_now ad_s_now_parts ad_s_now_keys s_now_number s_now_partHome s_now_keys x6 rfl) kc_X8_keyAt wd652 ⟨Nat.le_of_ble_eq_true rfl, Nat.le_of_ble_eq_true rfl⟩ ⟨rfl, rfl⟩ hP hD hS (ci := 8) rfl rfl (q0 := 3) rfl [3, 5] rfl (by decide) (fun w h => by cases h; rfl) rfl rfl (Nat.le_of_ble_eq_true rfl) hl.1 ⟨Nat.zero_le _, Nat.zero_le _⟩ dX2_passHours_58 (fun H locs w1 hw1 hP hD hS => ?_)
            cases hw1
            have hP : va_P D vwCl [(ad_s, .inr (2, [.ref ad_s_walk, .ref ad_s_now, .ref ad_s_then, .long s_whole])), (ad_s_walk, .inr (9, [.ref ad_s_walk_signers, .int s_walk_signed, .int s_walk_at, .int s_walk_crossed, .int s_walk_target, .int s_walk_heap])), (ad_s_walk_signers, .inl (cI, 9, .inl s_walk_signers)), (ad_s_now, .inr (8, [.ref ad_s_now_parts, .ref ad_s_now_keys, .int s_now_number, .long s_now_partHome])), (ad_s_now_parts, .inl (cJ, 4608, .inr (.inl s_now_parts))), (ad_s_now_keys, .inl (cI, 4608, .inl s_now_keys)), (ad_s_then, .inr (8, [.ref ad_s_then_parts, .ref ad_s_then_keys, .int s_then_number, .long s_then_partHome])), (ad_s_then_parts, .inl (cJ, 4608, .inr (.inl s_then_parts))), (ad_s_then_keys, .inl (cI, 4608, .inl s_then_keys)), (ad_q1, .inr (1, [.ref ad_q1_facts, .int q1_number])), (ad_q1_facts, .inl (cI, 54, .inl q1_facts))] H := hP
            have hD : va_D A [(ad_s, .inr (2, [.ref ad_s_walk, .ref ad_s_now, .ref ad_s_then, .long s_whole])), (ad_s_walk, .inr (9, [.ref ad_s_walk_signers, .int s_walk_signed, .int s_walk_at, .int s_walk_crossed, .int s_walk_target, .int s_walk_heap])), (ad_s_walk_signers, .inl (cI, 9, .inl s_walk_signers)), (ad_s_now, .inr (8, [.ref ad_s_now_parts, .ref ad_s_now_keys, .int s_now_number, .long s_now_partHome])), (ad_s_now_parts, .inl (cJ, 4608, .inr (.inl s_now_parts))), (ad_s_now_keys, .inl (cI, 4608, .inl s_now_keys)), (ad_s_then, .inr (8, [.ref ad_s_then_parts, .ref ad_s_then_keys, .int s_then_number, .long s_then_partHome])), (ad_s_then_parts, .inl (cJ, 4608, .inr (.inl s_then_parts))), (ad_s_then_keys, .inl (cI, 4608, .inl s_then_keys)), (ad_q1, .inr (1, [.ref ad_q1_facts, .int q1_number])), (ad_q1_facts, .inl (cI, 54, .inl q1_facts))] := hD
            refine lv_iload_n hx hb dX2_passHours_61 rfl (lv_at hl 2 rfl) ?_
            refine lv_iload hx hb dX2_passHours_62 (lv_at hl 5 rfl) ?_
            refine lv_iadd hx hb dX2_passHours_64 ?_
            refine lv_iload_n hx hb dX2_passHours_65 rfl (lv_at hl 3 rfl) ?_
            obtain ⟨z66_1, hz66_1, hf⟩ := bn_s hf
            refine kVv (rest := []) hX (c_X2_spread l D cI cJ cR N ad_s ad_s_walk ad_s_walk_signers ad_s_now ad_s_now_parts ad_s_now_keys ad_s_then ad_s_then_parts ad_s_then_keys ad_q1 ad_q1_facts s_whole s_walk_signed s_walk_at s_walk_crossed s_walk_target s_walk_heap s_walk_signers s_now_number s_now_partHome s_now_parts s_then_number s_then_partHome s_then_parts s_then_keys q1_number q1_facts (p_X8_keyAt s_now_number s_now_keys x6) (x2 + x5) x3 hz66_1) kc_X2_spread wd653 ⟨Nat.le_of_ble_eq_true rfl, Nat.le_of_ble_eq_true rfl⟩ ⟨rfl, rfl⟩ hP hD hS (ci := 2) rfl rfl (q0 := 0) rfl [0, 1, 2, 3, 4, 6, 7, 8, 9, 10] rfl (by decide) (fun w h => by cases h; rfl) rfl rfl (Nat.le_of_ble_eq_true rfl) hl.1 ⟨Nat.zero_le _, Nat.zero_le _⟩ dX2_passHours_66 (fun H locs w1 hw1 hP hD hS => ?_)
            cases hw1
            have hP : va_P D vwCl [(ad_s, .inr (2, [.ref ad_s_walk, .ref ad_s_now, .ref ad_s_then, .long s_whole])), (ad_s_walk, .inr (9, [.ref ad_s_walk_signers, .int z66_1.1, .int z66_1.2.1, .int z66_1.2.2.1, .int z66_1.2.2.2.1, .int z66_1.2.2.2.2.1])), (ad_s_walk_signers, .inl (cI, 9, .inl z66_1.2.2.2.2.2.1)), (ad_s_now, .inr (8, [.ref ad_s_now_parts, .ref ad_s_now_keys, .int s_now_number, .long s_now_partHome])), (ad_s_now_parts, .inl (cJ, 4608, .inr (.inl s_now_parts))), (ad_s_now_keys, .inl (cI, 4608, .inl s_now_keys)), (ad_s_then, .inr (8, [.ref ad_s_then_parts, .ref ad_s_then_keys, .int z66_1.2.2.2.2.2.2.1, .long z66_1.2.2.2.2.2.2.2.1])), (ad_s_then_parts, .inl (cJ, 4608, .inr (.inl z66_1.2.2.2.2.2.2.2.2.1))), (ad_s_then_keys, .inl (cI, 4608, .inl z66_1.2.2.2.2.2.2.2.2.2)), (ad_q1, .inr (1, [.ref ad_q1_facts, .int q1_number])), (ad_q1_facts, .inl (cI, 54, .inl q1_facts))] H := hP
            have hD : va_D A [(ad_s, .inr (2, [.ref ad_s_walk, .ref ad_s_now, .ref ad_s_then, .long s_whole])), (ad_s_walk, .inr (9, [.ref ad_s_walk_signers, .int z66_1.1, .int z66_1.2.1, .int z66_1.2.2.1, .int z66_1.2.2.2.1, .int z66_1.2.2.2.2.1])), (ad_s_walk_signers, .inl (cI, 9, .inl z66_1.2.2.2.2.2.1)), (ad_s_now, .inr (8, [.ref ad_s_now_parts, .ref ad_s_now_keys, .int s_now_number, .long s_now_partHome])), (ad_s_now_parts, .inl (cJ, 4608, .inr (.inl s_now_parts))), (ad_s_now_keys, .inl (cI, 4608, .inl s_now_keys)), (ad_s_then, .inr (8, [.ref ad_s_then_parts, .ref ad_s_then_keys, .int z66_1.2.2.2.2.2.2.1, .long z66_1.2.2.2.2.2.2.2.1])), (ad_s_then_parts, .inl (cJ, 4608, .inr (.inl z66_1.2.2.2.2.2.2.2.2.1))), (ad_s_then_keys, .inl (cI, 4608, .inl z66_1.2.2.2.2.2.2.2.2.2)), (ad_q1, .inr (1, [.ref ad_q1_facts, .int q1_number])), (ad_q1_facts, .inl (cI, 54, .inl q1_facts))] := hD
            refine lv_iinc (v := (x6 + (1 : Int32))) (lv' := [(6, .int (x6 + (1 : Int32))), (0, .ref ad_s), (1, .ref ad_q1), (2, .int x2), (3, .int x3), (4, .int x4), (5, .int x5)]) hx hb dX2_passHours_69 hl (k := 6) rfl rfl (by decide) rfl (fun ls hl => ?_)
            refine lv_goto (tgt := 38) hx hb dX2_passHours_72 (by decide) ?_
            exact ih38 _ _ ad_s_now ad_s_now_parts ad_s_now_keys ad_s_then ad_s_then_parts ad_s_then_keys s_whole z66_1.1 z66_1.2.1 z66_1.2.2.1 z66_1.2.2.2.1 z66_1.2.2.2.2.1 z66_1.2.2.2.2.2.1 s_now_number s_now_partHome s_now_parts s_now_keys z66_1.2.2.2.2.2.2.1 z66_1.2.2.2.2.2.2.2.1 z66_1.2.2.2.2.2.2.2.2.1 z66_1.2.2.2.2.2.2.2.2.2 x2 x3 x4 x5 (x6 + (1 : Int32)) hP hD hS _ (lv_sub hl [1, 2, 3, 4, 5, 6, 0] rfl) hf
      intro H locs ad_s_now ad_s_now_parts ad_s_now_keys ad_s_then ad_s_then_parts ad_s_then_keys s_whole s_walk_signed s_walk_at s_walk_crossed s_walk_target s_walk_heap s_walk_signers s_now_number s_now_partHome s_now_parts s_now_keys s_then_number s_then_partHome s_then_parts s_then_keys x2 x3 x4 x5 hP hD hS ls hl hf
      rw [f_X2_passHours_b3] at hf
      refine lv_iload hx hb dX2_passHours_3 (lv_at hl 5 rfl) ?_
      refine lv_iload hx hb dX2_passHours_5 (lv_at hl 4 rfl) ?_
      refine lv_icmp_ge (tgt := 113) hx hb dX2_passHours_7 (by decide) (fun c7 => ?_) (fun c7 => ?_)
      · replace hf := ip c7 hf
        exact hRet _ _ _ _ _ _ (Option.some.inj hf) ⟨_, _, _, _, _, _, rfl⟩ hP hD hS dX2_passHours_113
      · replace hf := iq c7 hf
        refine lv_aload_n hx hb dX2_passHours_10 rfl (lv_at hl 0 rfl) ?_
        refine kget hX hP (q0 := 0) rfl rfl inX2 (k := 2) (by decide) rfl wd264 rfl dX2_passHours_11 ?_
        obtain ⟨z14_1, hz14_1, hf⟩ := bn_s hf
        refine kVv (rest := []) hX (c_X8_clear l D cI cJ cR N ad_s_then ad_s_then_parts ad_s_then_keys s_then_number s_then_partHome s_then_parts s_then_keys hz14_1) kc_X8_clear wd635 ⟨Nat.le_of_ble_eq_true rfl, Nat.le_of_ble_eq_true rfl⟩ ⟨rfl, rfl⟩ hP hD hS (ci := 8) rfl rfl (q0 := 6) rfl [6, 7, 8] rfl (by decide) (fun w h => by cases h; rfl) rfl rfl (Nat.le_of_ble_eq_true rfl) hl.1 ⟨Nat.zero_le _, Nat.zero_le _⟩ dX2_passHours_14 (fun H locs w1 hw1 hP hD hS => ?_)
        cases hw1
        have hP : va_P D vwCl [(ad_s, .inr (2, [.ref ad_s_walk, .ref ad_s_now, .ref ad_s_then, .long s_whole])), (ad_s_walk, .inr (9, [.ref ad_s_walk_signers, .int s_walk_signed, .int s_walk_at, .int s_walk_crossed, .int s_walk_target, .int s_walk_heap])), (ad_s_walk_signers, .inl (cI, 9, .inl s_walk_signers)), (ad_s_now, .inr (8, [.ref ad_s_now_parts, .ref ad_s_now_keys, .int s_now_number, .long s_now_partHome])), (ad_s_now_parts, .inl (cJ, 4608, .inr (.inl s_now_parts))), (ad_s_now_keys, .inl (cI, 4608, .inl s_now_keys)), (ad_s_then, .inr (8, [.ref ad_s_then_parts, .ref ad_s_then_keys, .int z14_1.1, .long z14_1.2.1])), (ad_s_then_parts, .inl (cJ, 4608, .inr (.inl z14_1.2.2))), (ad_s_then_keys, .inl (cI, 4608, .inl s_then_keys)), (ad_q1, .inr (1, [.ref ad_q1_facts, .int q1_number])), (ad_q1_facts, .inl (cI, 54, .inl q1_facts))] H := hP
        have hD : va_D A [(ad_s, .inr (2, [.ref ad_s_walk, .ref ad_s_now, .ref ad_s_then, .long s_whole])), (ad_s_walk, .inr (9, [.ref ad_s_walk_signers, .int s_walk_signed, .int s_walk_at, .int s_walk_crossed, .int s_walk_target, .int s_walk_heap])), (ad_s_walk_signers, .inl (cI, 9, .inl s_walk_signers)), (ad_s_now, .inr (8, [.ref ad_s_now_parts, .ref ad_s_now_keys, .int s_now_number, .long s_now_partHome])), (ad_s_now_parts, .inl (cJ, 4608, .inr (.inl s_now_parts))), (ad_s_now_keys, .inl (cI, 4608, .inl s_now_keys)), (ad_s_then, .inr (8, [.ref ad_s_then_parts, .ref ad_s_then_keys, .int z14_1.1, .long z14_1.2.1])), (ad_s_then_parts, .inl (cJ, 4608, .inr (.inl z14_1.2.2))), (ad_s_then_keys, .inl (cI, 4608, .inl s_then_keys)), (ad_q1, .inr (1, [.ref ad_q1_facts, .int q1_number])), (ad_q1_facts, .inl (cI, 54, .inl q1_facts))] := hD
        refine lv_aload_n hx hb dX2_passHours_17 rfl (lv_at hl 0 rfl) ?_
        refine kget hX hP (q0 := 0) rfl rfl inX2 (k := 2) (by decide) rfl wd264 rfl dX2_passHours_18 ?_
        refine lv_aload_n hx hb dX2_passHours_21 rfl (lv_at hl 0 rfl) ?_
        refine kget hX hP (q0 := 0) rfl rfl inX2 (k := 1) (by decide) rfl wd263 rfl dX2_passHours_22 ?_
        refine kget hX hP (q0 := 3) rfl rfl inX8 (k := 3) (by decide) rfl wd251 rfl dX2_passHours_25 ?_
        refine lv_ldc2 (v := 12) hx hb hown (hts _ (List.mem_cons_of_mem _ wd651)) dX2_passHours_28 ?_
        refine lv_lmul hx hb dX2_passHours_31 ?_
        refine kput hX hP hD hS (q0 := 6) rfl rfl inX8 tyX8_ok nmX8 (k := 3) (by decide) rfl wd251 rfl rfl (Nat.le_of_ble_eq_true rfl) dX2_passHours_32 (fun H locs hP hD hS => ?_)
        refine lv_iconst (v := 0) hx hb dX2_passHours_35 (by decide) ?_
        refine lv_istore (lv' := [(6, .int (0 : Int32)), (0, .ref ad_s), (1, .ref ad_q1), (2, .int x2), (3, .int x3), (4, .int x4), (5, .int x5)]) hx hb dX2_passHours_36 hl (by decide) rfl (fun ls hl => ?_)
        exact hb38 N _ _ ad_s_now ad_s_now_parts ad_s_now_keys ad_s_then ad_s_then_parts ad_s_then_keys s_whole s_walk_signed s_walk_at s_walk_crossed s_walk_target s_walk_heap s_walk_signers s_now_number s_now_partHome s_now_parts s_now_keys z14_1.1 (s_now_partHome * (12 : Int64)) z14_1.2.2 s_then_keys x2 x3 x4 x5 (0 : Int32) hP hD hS _ (lv_sub hl [1, 2, 3, 4, 5, 6, 0] rfl) hf
  unfold f_X2_passHours at hf
  refine lv_iconst (v := 0) hx hb dX2_passHours_0 (by decide) ?_
  refine lv_istore (lv' := [(5, .int (0 : Int32)), (0, .ref ad_s), (1, .ref ad_q1), (2, .int x2), (3, .int x3), (4, .int x4)]) hx hb dX2_passHours_1 hl (by decide) rfl (fun ls hl => ?_)
  exact hb3 N _ _ ad_s_now ad_s_now_parts ad_s_now_keys ad_s_then ad_s_then_parts ad_s_then_keys s_whole s_walk_signed s_walk_at s_walk_crossed s_walk_target s_walk_heap s_walk_signers s_now_number s_now_partHome s_now_parts s_now_keys s_then_number s_then_partHome s_then_parts s_then_keys x2 x3 x4 (0 : Int32) hP hD hS _ (lv_sub hl [1, 2, 3, 4, 5, 0] rfl) hf
def f_X2_startFrom (N : Nat) (s_whole : Int64) (s_now_number : Int32) (s_now_partHome : Int64) (s_now_parts : (Nat → Int64)) (s_now_keys : (Nat → Int32)) (x1 : Int32) (x2 : Int32) (x3 : Int32) : Option (Int64 × Int32 × Int64 × (Nat → Int64) × (Nat → Int32)) :=
  bn (f_X8_clear N s_now_keys s_now_number s_now_partHome s_now_parts) (fun z9_1 => if x3 = 0 then bn (f_X8_add N z9_1.1 z9_1.2.2 s_now_keys x1 x2 (1 : Int64)) (fun z34_2 => some ((1 : Int64), z34_2.1, z9_1.2.1, z34_2.2.1, z34_2.2.2)) else some ((1 : Int64), z9_1.1, (1 : Int64), z9_1.2.2, s_now_keys))
abbrev rm_X2_startFrom : Room := { frames := 2, cells := 0, slots := 0, locals := 43 }
set_option maxHeartbeats 4000000 in
set_option maxRecDepth 100000 in
theorem c_X2_startFrom (l : Launch) (D : va_G) (cI cJ cR : ClassId) (N : Nat) (ad_s ad_s_walk ad_s_now ad_s_now_parts ad_s_now_keys ad_s_then : Nat) (s_whole : Int64) (s_now_number : Int32) (s_now_partHome : Int64) (s_now_parts : (Nat → Int64)) (s_now_keys : (Nat → Int32)) (x1 : Int32) (x2 : Int32) (x3 : Int32) {o : Int64 × Int32 × Int64 × (Nat → Int64) × (Nat → Int32)} (hf : f_X2_startFrom N s_whole s_now_number s_now_partHome s_now_parts s_now_keys x1 x2 x3 = some o) : kMv l D (kT cI cJ cR) yX2_startFrom cX2_startFrom 4 none rm_X2_startFrom [.ref ad_s, .int x1, .int x2, .int x3] [(ad_s, .inr (2, [.ref ad_s_walk, .ref ad_s_now, .ref ad_s_then, .long s_whole])), (ad_s_now, .inr (8, [.ref ad_s_now_parts, .ref ad_s_now_keys, .int s_now_number, .long s_now_partHome])), (ad_s_now_parts, .inl (cJ, 4608, .inr (.inl s_now_parts))), (ad_s_now_keys, .inl (cI, 4608, .inl s_now_keys))] 0 0 (fun w => w = [(ad_s, .inr (2, [.ref ad_s_walk, .ref ad_s_now, .ref ad_s_then, .long o.1])), (ad_s_now, .inr (8, [.ref ad_s_now_parts, .ref ad_s_now_keys, .int o.2.1, .long o.2.2.1])), (ad_s_now_parts, .inl (cJ, 4608, .inr (.inl o.2.2.2.1))), (ad_s_now_keys, .inl (cI, 4608, .inl o.2.2.2.2))]) := by
  apply kInV (o := o)
  · decide
  · exact Nat.le_of_ble_eq_true rfl
  intro p e s m args below meth c A ls Q hX hRet hP hD hS hl
  have hx := hX.1.1
  have hb := hX.1.2.1
  have hown := hX.1.2.2.2.1
  have hts := hX.1.2.2.2.2
  have hl : lv_has ls 4 [(0, .ref ad_s), (1, .int x1), (2, .int x2), (3, .int x3)] := hl
  unfold f_X2_startFrom at hf
  refine lv_aload_n hx hb dX2_startFrom_0 rfl (lv_at hl 0 rfl) ?_
  refine lv_lconst (v := 1) hx hb dX2_startFrom_1 (by decide) ?_
  refine kput hX hP hD hS (q0 := 0) rfl rfl inX2 tyX2_ok nmX2 (k := 3) (by decide) rfl wd265 rfl rfl (Nat.le_of_ble_eq_true rfl) dX2_startFrom_2 (fun H locs hP hD hS => ?_)
  refine lv_aload_n hx hb dX2_startFrom_5 rfl (lv_at hl 0 rfl) ?_
  refine kget hX hP (q0 := 0) rfl rfl inX2 (k := 1) (by decide) rfl wd263 rfl dX2_startFrom_6 ?_
  obtain ⟨z9_1, hz9_1, hf⟩ := bn_s hf
  refine kVv (rest := []) hX (c_X8_clear l D cI cJ cR N ad_s_now ad_s_now_parts ad_s_now_keys s_now_number s_now_partHome s_now_parts s_now_keys hz9_1) kc_X8_clear wd635 ⟨Nat.le_of_ble_eq_true rfl, Nat.le_of_ble_eq_true rfl⟩ ⟨rfl, rfl⟩ hP hD hS (ci := 8) rfl rfl (q0 := 1) rfl [1, 2, 3] rfl (by decide) (fun w h => by cases h; rfl) rfl rfl (Nat.le_of_ble_eq_true rfl) hl.1 ⟨Nat.zero_le _, Nat.zero_le _⟩ dX2_startFrom_9 (fun H locs w1 hw1 hP hD hS => ?_)
  cases hw1
  have hP : va_P D vwCl [(ad_s, .inr (2, [.ref ad_s_walk, .ref ad_s_now, .ref ad_s_then, .long (1 : Int64)])), (ad_s_now, .inr (8, [.ref ad_s_now_parts, .ref ad_s_now_keys, .int z9_1.1, .long z9_1.2.1])), (ad_s_now_parts, .inl (cJ, 4608, .inr (.inl z9_1.2.2))), (ad_s_now_keys, .inl (cI, 4608, .inl s_now_keys))] H := hP
  have hD : va_D A [(ad_s, .inr (2, [.ref ad_s_walk, .ref ad_s_now, .ref ad_s_then, .long (1 : Int64)])), (ad_s_now, .inr (8, [.ref ad_s_now_parts, .ref ad_s_now_keys, .int z9_1.1, .long z9_1.2.1])), (ad_s_now_parts, .inl (cJ, 4608, .inr (.inl z9_1.2.2))), (ad_s_now_keys, .inl (cI, 4608, .inl s_now_keys))] := hD
  refine lv_iload_n hx hb dX2_startFrom_12 rfl (lv_at hl 3 rfl) ?_
  refine lv_if_eq (tgt := 27) hx hb dX2_startFrom_13 (by decide) (fun c13 => ?_) (fun c13 => ?_)
  · replace hf := ip c13 hf
    refine lv_aload_n hx hb dX2_startFrom_27 rfl (lv_at hl 0 rfl) ?_
    refine kget hX hP (q0 := 0) rfl rfl inX2 (k := 1) (by decide) rfl wd263 rfl dX2_startFrom_28 ?_
    refine lv_iload_n hx hb dX2_startFrom_31 rfl (lv_at hl 1 rfl) ?_
    refine lv_iload_n hx hb dX2_startFrom_32 rfl (lv_at hl 2 rfl) ?_
    refine lv_lconst (v := 1) hx hb dX2_startFrom_33 (by decide) ?_
    obtain ⟨z34_2, hz34_2, hf⟩ := bn_s hf
    refine kVv (rest := []) hX (c_X8_add l D cI cJ cR N ad_s_now ad_s_now_parts ad_s_now_keys z9_1.1 z9_1.2.1 z9_1.2.2 s_now_keys x1 x2 (1 : Int64) hz34_2) kc_X8_add wd643 ⟨Nat.le_of_ble_eq_true rfl, Nat.le_of_ble_eq_true rfl⟩ ⟨rfl, rfl⟩ hP hD hS (ci := 8) rfl rfl (q0 := 1) rfl [1, 2, 3] rfl (by decide) (fun w h => by cases h; rfl) rfl rfl (Nat.le_of_ble_eq_true rfl) hl.1 ⟨Nat.zero_le _, Nat.zero_le _⟩ dX2_startFrom_34 (fun H locs w1 hw1 hP hD hS => ?_)
    cases hw1
    have hP : va_P D vwCl [(ad_s, .inr (2, [.ref ad_s_walk, .ref ad_s_now, .ref ad_s_then, .long (1 : Int64)])), (ad_s_now, .inr (8, [.ref ad_s_now_parts, .ref ad_s_now_keys, .int z34_2.1, .long z9_1.2.1])), (ad_s_now_parts, .inl (cJ, 4608, .inr (.inl z34_2.2.1))), (ad_s_now_keys, .inl (cI, 4608, .inl z34_2.2.2))] H := hP
    have hD : va_D A [(ad_s, .inr (2, [.ref ad_s_walk, .ref ad_s_now, .ref ad_s_then, .long (1 : Int64)])), (ad_s_now, .inr (8, [.ref ad_s_now_parts, .ref ad_s_now_keys, .int z34_2.1, .long z9_1.2.1])), (ad_s_now_parts, .inl (cJ, 4608, .inr (.inl z34_2.2.1))), (ad_s_now_keys, .inl (cI, 4608, .inl z34_2.2.2))] := hD
    exact hRet _ _ _ _ _ _ (Option.some.inj hf) rfl hP hD hS dX2_startFrom_37
  · replace hf := iq c13 hf
    refine lv_aload_n hx hb dX2_startFrom_16 rfl (lv_at hl 0 rfl) ?_
    refine kget hX hP (q0 := 0) rfl rfl inX2 (k := 1) (by decide) rfl wd263 rfl dX2_startFrom_17 ?_
    refine lv_lconst (v := 1) hx hb dX2_startFrom_20 (by decide) ?_
    refine kput hX hP hD hS (q0 := 1) rfl rfl inX8 tyX8_ok nmX8 (k := 3) (by decide) rfl wd251 rfl rfl (Nat.le_of_ble_eq_true rfl) dX2_startFrom_21 (fun H locs hP hD hS => ?_)
    refine lv_goto (tgt := 37) hx hb dX2_startFrom_24 (by decide) ?_
    exact hRet _ _ _ _ _ _ (Option.some.inj hf) rfl hP hD hS dX2_startFrom_37
def f_X2_look (N : Nat) (q1_number : Int32) (q1_facts : (Nat → Int32)) (q2_rule : Int32) (q2_at : Int32) (q2_isBack : Int32) (q2_hour : Int32) (q2_crossed : Int32) (s_whole : Int64) (s_walk_signed : Int32) (s_walk_at : Int32) (s_walk_crossed : Int32) (s_walk_target : Int32) (s_walk_heap : Int32) (s_walk_signers : (Nat → Int32)) (s_now_number : Int32) (s_now_partHome : Int64) (s_now_parts : (Nat → Int64)) (s_now_keys : (Nat → Int32)) (s_then_number : Int32) (s_then_partHome : Int64) (s_then_parts : (Nat → Int64)) (s_then_keys : (Nat → Int32)) (x3 : Int32) : Option (Int64 × Int32 × Int32 × Int32 × Int32 × Int32 × (Nat → Int32) × Int32 × Int64 × (Nat → Int64) × (Nat → Int32) × Int32 × Int64 × (Nat → Int64) × (Nat → Int32)) :=
  bn (f_X2_startFrom N s_whole s_now_number s_now_partHome s_now_parts s_now_keys q2_at q2_crossed q2_isBack) (fun z13_1 => bn (f_X2_passHours N q1_number q1_facts z13_1.1 s_walk_signed s_walk_at s_walk_crossed s_walk_target s_walk_heap s_walk_signers z13_1.2.1 z13_1.2.2.1 z13_1.2.2.2.1 z13_1.2.2.2.2 s_then_number s_then_partHome s_then_parts s_then_keys q2_hour q2_rule x3) (fun z27_2 => some (z27_2.1, z27_2.2.1, z27_2.2.2.1, z27_2.2.2.2.1, z27_2.2.2.2.2.1, z27_2.2.2.2.2.2.1, z27_2.2.2.2.2.2.2.1, z27_2.2.2.2.2.2.2.2.1, z27_2.2.2.2.2.2.2.2.2.1, z27_2.2.2.2.2.2.2.2.2.2.1, z27_2.2.2.2.2.2.2.2.2.2.2.1, z27_2.2.2.2.2.2.2.2.2.2.2.2.1, z27_2.2.2.2.2.2.2.2.2.2.2.2.2.1, z27_2.2.2.2.2.2.2.2.2.2.2.2.2.2.1, z27_2.2.2.2.2.2.2.2.2.2.2.2.2.2.2)))
abbrev rm_X2_look : Room := { frames := 6, cells := 0, slots := 0, locals := 170 }
set_option maxHeartbeats 4000000 in
set_option maxRecDepth 100000 in
theorem c_X2_look (l : Launch) (D : va_G) (cI cJ cR : ClassId) (N : Nat) (ad_s ad_s_walk ad_s_walk_signers ad_s_now ad_s_now_parts ad_s_now_keys ad_s_then ad_s_then_parts ad_s_then_keys ad_q1 ad_q1_facts ad_q2 ad_q2_hours ad_q2_gifts ad_q2_written : Nat) (s_whole : Int64) (s_walk_signed : Int32) (s_walk_at : Int32) (s_walk_crossed : Int32) (s_walk_target : Int32) (s_walk_heap : Int32) (s_walk_signers : (Nat → Int32)) (s_now_number : Int32) (s_now_partHome : Int64) (s_now_parts : (Nat → Int64)) (s_now_keys : (Nat → Int32)) (s_then_number : Int32) (s_then_partHome : Int64) (s_then_parts : (Nat → Int64)) (s_then_keys : (Nat → Int32)) (q1_number : Int32) (q1_facts : (Nat → Int32)) (q2_start : Int32) (q2_rule : Int32) (q2_at : Int32) (q2_isBack : Int32) (q2_hour : Int32) (q2_crossed : Int32) (q2_law : Int32) (q2_named : Int32) (q2_linked : Int32) (q2_isThere : Int32) (x3 : Int32) {o : Int64 × Int32 × Int32 × Int32 × Int32 × Int32 × (Nat → Int32) × Int32 × Int64 × (Nat → Int64) × (Nat → Int32) × Int32 × Int64 × (Nat → Int64) × (Nat → Int32)} (hf : f_X2_look N q1_number q1_facts q2_rule q2_at q2_isBack q2_hour q2_crossed s_whole s_walk_signed s_walk_at s_walk_crossed s_walk_target s_walk_heap s_walk_signers s_now_number s_now_partHome s_now_parts s_now_keys s_then_number s_then_partHome s_then_parts s_then_keys x3 = some o) : kMv l D (kT cI cJ cR) yX2_look cX2_look 4 none rm_X2_look [.ref ad_s, .ref ad_q1, .ref ad_q2, .int x3] [(ad_s, .inr (2, [.ref ad_s_walk, .ref ad_s_now, .ref ad_s_then, .long s_whole])), (ad_s_walk, .inr (9, [.ref ad_s_walk_signers, .int s_walk_signed, .int s_walk_at, .int s_walk_crossed, .int s_walk_target, .int s_walk_heap])), (ad_s_walk_signers, .inl (cI, 9, .inl s_walk_signers)), (ad_s_now, .inr (8, [.ref ad_s_now_parts, .ref ad_s_now_keys, .int s_now_number, .long s_now_partHome])), (ad_s_now_parts, .inl (cJ, 4608, .inr (.inl s_now_parts))), (ad_s_now_keys, .inl (cI, 4608, .inl s_now_keys)), (ad_s_then, .inr (8, [.ref ad_s_then_parts, .ref ad_s_then_keys, .int s_then_number, .long s_then_partHome])), (ad_s_then_parts, .inl (cJ, 4608, .inr (.inl s_then_parts))), (ad_s_then_keys, .inl (cI, 4608, .inl s_then_keys)), (ad_q1, .inr (1, [.ref ad_q1_facts, .int q1_number])), (ad_q1_facts, .inl (cI, 54, .inl q1_facts)), (ad_q2, .inr (6, [.ref ad_q2_hours, .ref ad_q2_gifts, .ref ad_q2_written, .int q2_start, .int q2_rule, .int q2_at, .int q2_isBack, .int q2_hour, .int q2_crossed, .int q2_law, .int q2_named, .int q2_linked, .int q2_isThere]))] 0 0 (fun w => ∃ ad_s_now' ad_s_now_parts' ad_s_now_keys' ad_s_then' ad_s_then_parts' ad_s_then_keys' : Nat, w = [(ad_s, .inr (2, [.ref ad_s_walk, .ref ad_s_now', .ref ad_s_then', .long o.1])), (ad_s_walk, .inr (9, [.ref ad_s_walk_signers, .int o.2.1, .int o.2.2.1, .int o.2.2.2.1, .int o.2.2.2.2.1, .int o.2.2.2.2.2.1])), (ad_s_walk_signers, .inl (cI, 9, .inl o.2.2.2.2.2.2.1)), (ad_s_now', .inr (8, [.ref ad_s_now_parts', .ref ad_s_now_keys', .int o.2.2.2.2.2.2.2.1, .long o.2.2.2.2.2.2.2.2.1])), (ad_s_now_parts', .inl (cJ, 4608, .inr (.inl o.2.2.2.2.2.2.2.2.2.1))), (ad_s_now_keys', .inl (cI, 4608, .inl o.2.2.2.2.2.2.2.2.2.2.1)), (ad_s_then', .inr (8, [.ref ad_s_then_parts', .ref ad_s_then_keys', .int o.2.2.2.2.2.2.2.2.2.2.2.1, .long o.2.2.2.2.2.2.2.2.2.2.2.2.1])), (ad_s_then_parts', .inl (cJ, 4608, .inr (.inl o.2.2.2.2.2.2.2.2.2.2.2.2.2.1))), (ad_s_then_keys', .inl (cI, 4608, .inl o.2.2.2.2.2.2.2.2.2.2.2.2.2.2)), (ad_q1, .inr (1, [.ref ad_q1_facts, .int q1_number])), (ad_q1_facts, .inl (cI, 54, .inl q1_facts)), (ad_q2, .inr (6, [.ref ad_q2_hours, .ref ad_q2_gifts, .ref ad_q2_written, .int q2_start, .int q2_rule, .int q2_at, .int q2_isBack, .int q2_hour, .int q2_crossed, .int q2_law, .int q2_named, .int q2_linked, .int q2_isThere]))]) := by
  apply kInV (o := o)
  · decide
  · exact Nat.le_of_ble_eq_true rfl
  intro p e s m args below meth c A ls Q hX hRet hP hD hS hl
  have hx := hX.1.1
  have hb := hX.1.2.1
  have hown := hX.1.2.2.2.1
  have hts := hX.1.2.2.2.2
  have hl : lv_has ls 4 [(0, .ref ad_s), (1, .ref ad_q1), (2, .ref ad_q2), (3, .int x3)] := hl
  unfold f_X2_look at hf
  refine lv_aload_n hx hb dX2_look_0 rfl (lv_at hl 0 rfl) ?_
  refine lv_aload_n hx hb dX2_look_1 rfl (lv_at hl 2 rfl) ?_
  refine kget hX hP (q0 := 11) rfl rfl inX6 (k := 5) (by decide) rfl wd90 rfl dX2_look_2 ?_
  refine lv_aload_n hx hb dX2_look_5 rfl (lv_at hl 2 rfl) ?_
  refine kget hX hP (q0 := 11) rfl rfl inX6 (k := 8) (by decide) rfl wd99 rfl dX2_look_6 ?_
  refine lv_aload_n hx hb dX2_look_9 rfl (lv_at hl 2 rfl) ?_
  refine kget hX hP (q0 := 11) rfl rfl inX6 (k := 6) (by decide) rfl wd93 rfl dX2_look_10 ?_
  obtain ⟨z13_1, hz13_1, hf⟩ := bn_s hf
  refine kVv (rest := []) hX (c_X2_startFrom l D cI cJ cR N ad_s ad_s_walk ad_s_now ad_s_now_parts ad_s_now_keys ad_s_then s_whole s_now_number s_now_partHome s_now_parts s_now_keys q2_at q2_crossed q2_isBack hz13_1) kc_X2_startFrom wd631 ⟨Nat.le_of_ble_eq_true rfl, Nat.le_of_ble_eq_true rfl⟩ ⟨rfl, rfl⟩ hP hD hS (ci := 2) rfl rfl (q0 := 0) rfl [0, 3, 4, 5] rfl (by decide) (fun w h => by cases h; rfl) rfl rfl (Nat.le_of_ble_eq_true rfl) hl.1 ⟨Nat.zero_le _, Nat.zero_le _⟩ dX2_look_13 (fun H locs w1 hw1 hP hD hS => ?_)
  cases hw1
  have hP : va_P D vwCl [(ad_s, .inr (2, [.ref ad_s_walk, .ref ad_s_now, .ref ad_s_then, .long z13_1.1])), (ad_s_walk, .inr (9, [.ref ad_s_walk_signers, .int s_walk_signed, .int s_walk_at, .int s_walk_crossed, .int s_walk_target, .int s_walk_heap])), (ad_s_walk_signers, .inl (cI, 9, .inl s_walk_signers)), (ad_s_now, .inr (8, [.ref ad_s_now_parts, .ref ad_s_now_keys, .int z13_1.2.1, .long z13_1.2.2.1])), (ad_s_now_parts, .inl (cJ, 4608, .inr (.inl z13_1.2.2.2.1))), (ad_s_now_keys, .inl (cI, 4608, .inl z13_1.2.2.2.2)), (ad_s_then, .inr (8, [.ref ad_s_then_parts, .ref ad_s_then_keys, .int s_then_number, .long s_then_partHome])), (ad_s_then_parts, .inl (cJ, 4608, .inr (.inl s_then_parts))), (ad_s_then_keys, .inl (cI, 4608, .inl s_then_keys)), (ad_q1, .inr (1, [.ref ad_q1_facts, .int q1_number])), (ad_q1_facts, .inl (cI, 54, .inl q1_facts)), (ad_q2, .inr (6, [.ref ad_q2_hours, .ref ad_q2_gifts, .ref ad_q2_written, .int q2_start, .int q2_rule, .int q2_at, .int q2_isBack, .int q2_hour, .int q2_crossed, .int q2_law, .int q2_named, .int q2_linked, .int q2_isThere]))] H := hP
  have hD : va_D A [(ad_s, .inr (2, [.ref ad_s_walk, .ref ad_s_now, .ref ad_s_then, .long z13_1.1])), (ad_s_walk, .inr (9, [.ref ad_s_walk_signers, .int s_walk_signed, .int s_walk_at, .int s_walk_crossed, .int s_walk_target, .int s_walk_heap])), (ad_s_walk_signers, .inl (cI, 9, .inl s_walk_signers)), (ad_s_now, .inr (8, [.ref ad_s_now_parts, .ref ad_s_now_keys, .int z13_1.2.1, .long z13_1.2.2.1])), (ad_s_now_parts, .inl (cJ, 4608, .inr (.inl z13_1.2.2.2.1))), (ad_s_now_keys, .inl (cI, 4608, .inl z13_1.2.2.2.2)), (ad_s_then, .inr (8, [.ref ad_s_then_parts, .ref ad_s_then_keys, .int s_then_number, .long s_then_partHome])), (ad_s_then_parts, .inl (cJ, 4608, .inr (.inl s_then_parts))), (ad_s_then_keys, .inl (cI, 4608, .inl s_then_keys)), (ad_q1, .inr (1, [.ref ad_q1_facts, .int q1_number])), (ad_q1_facts, .inl (cI, 54, .inl q1_facts)), (ad_q2, .inr (6, [.ref ad_q2_hours, .ref ad_q2_gifts, .ref ad_q2_written, .int q2_start, .int q2_rule, .int q2_at, .int q2_isBack, .int q2_hour, .int q2_crossed, .int q2_law, .int q2_named, .int q2_linked, .int q2_isThere]))] := hD
  refine lv_aload_n hx hb dX2_look_16 rfl (lv_at hl 0 rfl) ?_
  refine lv_aload_n hx hb dX2_look_17 rfl (lv_at hl 1 rfl) ?_
  refine lv_aload_n hx hb dX2_look_18 rfl (lv_at hl 2 rfl) ?_
  refine kget hX hP (q0 := 11) rfl rfl inX6 (k := 7) (by decide) rfl wd96 rfl dX2_look_19 ?_
  refine lv_aload_n hx hb dX2_look_22 rfl (lv_at hl 2 rfl) ?_
  refine kget hX hP (q0 := 11) rfl rfl inX6 (k := 4) (by decide) rfl wd87 rfl dX2_look_23 ?_
  refine lv_iload_n hx hb dX2_look_26 rfl (lv_at hl 3 rfl) ?_
  obtain ⟨z27_2, hz27_2, hf⟩ := bn_s hf
  refine kVv (rest := []) hX (c_X2_passHours l D cI cJ cR N ad_s ad_s_walk ad_s_walk_signers ad_s_now ad_s_now_parts ad_s_now_keys ad_s_then ad_s_then_parts ad_s_then_keys ad_q1 ad_q1_facts z13_1.1 s_walk_signed s_walk_at s_walk_crossed s_walk_target s_walk_heap s_walk_signers z13_1.2.1 z13_1.2.2.1 z13_1.2.2.2.1 z13_1.2.2.2.2 s_then_number s_then_partHome s_then_parts s_then_keys q1_number q1_facts q2_hour q2_rule x3 hz27_2) kc_X2_passHours wd647 ⟨Nat.le_of_ble_eq_true rfl, Nat.le_of_ble_eq_true rfl⟩ ⟨rfl, rfl⟩ hP hD hS (ci := 2) rfl rfl (q0 := 0) rfl [0, 1, 2, 3, 4, 5, 6, 7, 8, 9, 10] rfl (by decide) (fun w h => by obtain ⟨_, _, _, _, _, _, rfl⟩ := h; rfl) rfl rfl (Nat.le_of_ble_eq_true rfl) hl.1 ⟨Nat.zero_le _, Nat.zero_le _⟩ dX2_look_27 (fun H locs w1 hw1 hP hD hS => ?_)
  obtain ⟨b27_3_0, b27_3_1, b27_3_2, b27_3_3, b27_3_4, b27_3_5, rfl⟩ := hw1
  have hP : va_P D vwCl [(ad_s, .inr (2, [.ref ad_s_walk, .ref b27_3_0, .ref b27_3_3, .long z27_2.1])), (ad_s_walk, .inr (9, [.ref ad_s_walk_signers, .int z27_2.2.1, .int z27_2.2.2.1, .int z27_2.2.2.2.1, .int z27_2.2.2.2.2.1, .int z27_2.2.2.2.2.2.1])), (ad_s_walk_signers, .inl (cI, 9, .inl z27_2.2.2.2.2.2.2.1)), (b27_3_0, .inr (8, [.ref b27_3_1, .ref b27_3_2, .int z27_2.2.2.2.2.2.2.2.1, .long z27_2.2.2.2.2.2.2.2.2.1])), (b27_3_1, .inl (cJ, 4608, .inr (.inl z27_2.2.2.2.2.2.2.2.2.2.1))), (b27_3_2, .inl (cI, 4608, .inl z27_2.2.2.2.2.2.2.2.2.2.2.1)), (b27_3_3, .inr (8, [.ref b27_3_4, .ref b27_3_5, .int z27_2.2.2.2.2.2.2.2.2.2.2.2.1, .long z27_2.2.2.2.2.2.2.2.2.2.2.2.2.1])), (b27_3_4, .inl (cJ, 4608, .inr (.inl z27_2.2.2.2.2.2.2.2.2.2.2.2.2.2.1))), (b27_3_5, .inl (cI, 4608, .inl z27_2.2.2.2.2.2.2.2.2.2.2.2.2.2.2)), (ad_q1, .inr (1, [.ref ad_q1_facts, .int q1_number])), (ad_q1_facts, .inl (cI, 54, .inl q1_facts)), (ad_q2, .inr (6, [.ref ad_q2_hours, .ref ad_q2_gifts, .ref ad_q2_written, .int q2_start, .int q2_rule, .int q2_at, .int q2_isBack, .int q2_hour, .int q2_crossed, .int q2_law, .int q2_named, .int q2_linked, .int q2_isThere]))] H := hP
  have hD : va_D A [(ad_s, .inr (2, [.ref ad_s_walk, .ref b27_3_0, .ref b27_3_3, .long z27_2.1])), (ad_s_walk, .inr (9, [.ref ad_s_walk_signers, .int z27_2.2.1, .int z27_2.2.2.1, .int z27_2.2.2.2.1, .int z27_2.2.2.2.2.1, .int z27_2.2.2.2.2.2.1])), (ad_s_walk_signers, .inl (cI, 9, .inl z27_2.2.2.2.2.2.2.1)), (b27_3_0, .inr (8, [.ref b27_3_1, .ref b27_3_2, .int z27_2.2.2.2.2.2.2.2.1, .long z27_2.2.2.2.2.2.2.2.2.1])), (b27_3_1, .inl (cJ, 4608, .inr (.inl z27_2.2.2.2.2.2.2.2.2.2.1))), (b27_3_2, .inl (cI, 4608, .inl z27_2.2.2.2.2.2.2.2.2.2.2.1)), (b27_3_3, .inr (8, [.ref b27_3_4, .ref b27_3_5, .int z27_2.2.2.2.2.2.2.2.2.2.2.2.1, .long z27_2.2.2.2.2.2.2.2.2.2.2.2.2.1])), (b27_3_4, .inl (cJ, 4608, .inr (.inl z27_2.2.2.2.2.2.2.2.2.2.2.2.2.2.1))), (b27_3_5, .inl (cI, 4608, .inl z27_2.2.2.2.2.2.2.2.2.2.2.2.2.2.2)), (ad_q1, .inr (1, [.ref ad_q1_facts, .int q1_number])), (ad_q1_facts, .inl (cI, 54, .inl q1_facts)), (ad_q2, .inr (6, [.ref ad_q2_hours, .ref ad_q2_gifts, .ref ad_q2_written, .int q2_start, .int q2_rule, .int q2_at, .int q2_isBack, .int q2_hour, .int q2_crossed, .int q2_law, .int q2_named, .int q2_linked, .int q2_isThere]))] := hD
  exact hRet _ _ _ _ _ _ (Option.some.inj hf) ⟨_, _, _, _, _, _, rfl⟩ hP hD hS dX2_look_30
def f_X2_lookAnew (N : Nat) (q1_number : Int32) (q1_facts : (Nat → Int32)) (s_whole : Int64) (s_walk_signed : Int32) (s_walk_at : Int32) (s_walk_crossed : Int32) (s_walk_target : Int32) (s_walk_heap : Int32) (s_walk_signers : (Nat → Int32)) (s_now_number : Int32) (s_now_partHome : Int64) (s_now_parts : (Nat → Int64)) (s_now_keys : (Nat → Int32)) (s_then_number : Int32) (s_then_partHome : Int64) (s_then_parts : (Nat → Int64)) (s_then_keys : (Nat → Int32)) (x2 : Int32) (x3 : Int32) (x4 : Int32) : Option (Int64 × Int32 × Int32 × Int32 × Int32 × Int32 × (Nat → Int32) × Int32 × Int64 × (Nat → Int64) × (Nat → Int32) × Int32 × Int64 × (Nat → Int64) × (Nat → Int32)) :=
  bn (f_X2_startFrom N s_whole s_now_number s_now_partHome s_now_parts s_now_keys x2 (0 : Int32) (0 : Int32)) (fun z4_1 => bn (f_X2_passHours N q1_number q1_facts z4_1.1 s_walk_signed s_walk_at s_walk_crossed s_walk_target s_walk_heap s_walk_signers z4_1.2.1 z4_1.2.2.1 z4_1.2.2.2.1 z4_1.2.2.2.2 s_then_number s_then_partHome s_then_parts s_then_keys (0 : Int32) x3 x4) (fun z13_2 => some (z13_2.1, z13_2.2.1, z13_2.2.2.1, z13_2.2.2.2.1, z13_2.2.2.2.2.1, z13_2.2.2.2.2.2.1, z13_2.2.2.2.2.2.2.1, z13_2.2.2.2.2.2.2.2.1, z13_2.2.2.2.2.2.2.2.2.1, z13_2.2.2.2.2.2.2.2.2.2.1, z13_2.2.2.2.2.2.2.2.2.2.2.1, z13_2.2.2.2.2.2.2.2.2.2.2.2.1, z13_2.2.2.2.2.2.2.2.2.2.2.2.2.1, z13_2.2.2.2.2.2.2.2.2.2.2.2.2.2.1, z13_2.2.2.2.2.2.2.2.2.2.2.2.2.2.2)))
abbrev rm_X2_lookAnew : Room := { frames := 6, cells := 0, slots := 0, locals := 170 }
set_option maxHeartbeats 4000000 in
set_option maxRecDepth 100000 in
theorem c_X2_lookAnew (l : Launch) (D : va_G) (cI cJ cR : ClassId) (N : Nat) (ad_s ad_s_walk ad_s_walk_signers ad_s_now ad_s_now_parts ad_s_now_keys ad_s_then ad_s_then_parts ad_s_then_keys ad_q1 ad_q1_facts : Nat) (s_whole : Int64) (s_walk_signed : Int32) (s_walk_at : Int32) (s_walk_crossed : Int32) (s_walk_target : Int32) (s_walk_heap : Int32) (s_walk_signers : (Nat → Int32)) (s_now_number : Int32) (s_now_partHome : Int64) (s_now_parts : (Nat → Int64)) (s_now_keys : (Nat → Int32)) (s_then_number : Int32) (s_then_partHome : Int64) (s_then_parts : (Nat → Int64)) (s_then_keys : (Nat → Int32)) (q1_number : Int32) (q1_facts : (Nat → Int32)) (x2 : Int32) (x3 : Int32) (x4 : Int32) {o : Int64 × Int32 × Int32 × Int32 × Int32 × Int32 × (Nat → Int32) × Int32 × Int64 × (Nat → Int64) × (Nat → Int32) × Int32 × Int64 × (Nat → Int64) × (Nat → Int32)} (hf : f_X2_lookAnew N q1_number q1_facts s_whole s_walk_signed s_walk_at s_walk_crossed s_walk_target s_walk_heap s_walk_signers s_now_number s_now_partHome s_now_parts s_now_keys s_then_number s_then_partHome s_then_parts s_then_keys x2 x3 x4 = some o) : kMv l D (kT cI cJ cR) yX2_lookAnew cX2_lookAnew 5 none rm_X2_lookAnew [.ref ad_s, .ref ad_q1, .int x2, .int x3, .int x4] [(ad_s, .inr (2, [.ref ad_s_walk, .ref ad_s_now, .ref ad_s_then, .long s_whole])), (ad_s_walk, .inr (9, [.ref ad_s_walk_signers, .int s_walk_signed, .int s_walk_at, .int s_walk_crossed, .int s_walk_target, .int s_walk_heap])), (ad_s_walk_signers, .inl (cI, 9, .inl s_walk_signers)), (ad_s_now, .inr (8, [.ref ad_s_now_parts, .ref ad_s_now_keys, .int s_now_number, .long s_now_partHome])), (ad_s_now_parts, .inl (cJ, 4608, .inr (.inl s_now_parts))), (ad_s_now_keys, .inl (cI, 4608, .inl s_now_keys)), (ad_s_then, .inr (8, [.ref ad_s_then_parts, .ref ad_s_then_keys, .int s_then_number, .long s_then_partHome])), (ad_s_then_parts, .inl (cJ, 4608, .inr (.inl s_then_parts))), (ad_s_then_keys, .inl (cI, 4608, .inl s_then_keys)), (ad_q1, .inr (1, [.ref ad_q1_facts, .int q1_number])), (ad_q1_facts, .inl (cI, 54, .inl q1_facts))] 0 0 (fun w => ∃ ad_s_now' ad_s_now_parts' ad_s_now_keys' ad_s_then' ad_s_then_parts' ad_s_then_keys' : Nat, w = [(ad_s, .inr (2, [.ref ad_s_walk, .ref ad_s_now', .ref ad_s_then', .long o.1])), (ad_s_walk, .inr (9, [.ref ad_s_walk_signers, .int o.2.1, .int o.2.2.1, .int o.2.2.2.1, .int o.2.2.2.2.1, .int o.2.2.2.2.2.1])), (ad_s_walk_signers, .inl (cI, 9, .inl o.2.2.2.2.2.2.1)), (ad_s_now', .inr (8, [.ref ad_s_now_parts', .ref ad_s_now_keys', .int o.2.2.2.2.2.2.2.1, .long o.2.2.2.2.2.2.2.2.1])), (ad_s_now_parts', .inl (cJ, 4608, .inr (.inl o.2.2.2.2.2.2.2.2.2.1))), (ad_s_now_keys', .inl (cI, 4608, .inl o.2.2.2.2.2.2.2.2.2.2.1)), (ad_s_then', .inr (8, [.ref ad_s_then_parts', .ref ad_s_then_keys', .int o.2.2.2.2.2.2.2.2.2.2.2.1, .long o.2.2.2.2.2.2.2.2.2.2.2.2.1])), (ad_s_then_parts', .inl (cJ, 4608, .inr (.inl o.2.2.2.2.2.2.2.2.2.2.2.2.2.1))), (ad_s_then_keys', .inl (cI, 4608, .inl o.2.2.2.2.2.2.2.2.2.2.2.2.2.2)), (ad_q1, .inr (1, [.ref ad_q1_facts, .int q1_number])), (ad_q1_facts, .inl (cI, 54, .inl q1_facts))]) := by
  apply kInV (o := o)
  · decide
  · exact Nat.le_of_ble_eq_true rfl
  intro p e s m args below meth c A ls Q hX hRet hP hD hS hl
  have hx := hX.1.1
  have hb := hX.1.2.1
  have hown := hX.1.2.2.2.1
  have hts := hX.1.2.2.2.2
  have hl : lv_has ls 5 [(0, .ref ad_s), (1, .ref ad_q1), (2, .int x2), (3, .int x3), (4, .int x4)] := hl
  unfold f_X2_lookAnew at hf
  refine lv_aload_n hx hb dX2_lookAnew_0 rfl (lv_at hl 0 rfl) ?_
  refine lv_iload_n hx hb dX2_lookAnew_1 rfl (lv_at hl 2 rfl) ?_
  refine lv_iconst (v := 0) hx hb dX2_lookAnew_2 (by decide) ?_
  refine lv_iconst (v := 0) hx hb dX2_lookAnew_3 (by decide) ?_
  obtain ⟨z4_1, hz4_1, hf⟩ := bn_s hf
  refine kVv (rest := []) hX (c_X2_startFrom l D cI cJ cR N ad_s ad_s_walk ad_s_now ad_s_now_parts ad_s_now_keys ad_s_then s_whole s_now_number s_now_partHome s_now_parts s_now_keys x2 (0 : Int32) (0 : Int32) hz4_1) kc_X2_startFrom wd631 ⟨Nat.le_of_ble_eq_true rfl, Nat.le_of_ble_eq_true rfl⟩ ⟨rfl, rfl⟩ hP hD hS (ci := 2) rfl rfl (q0 := 0) rfl [0, 3, 4, 5] rfl (by decide) (fun w h => by cases h; rfl) rfl rfl (Nat.le_of_ble_eq_true rfl) hl.1 ⟨Nat.zero_le _, Nat.zero_le _⟩ dX2_lookAnew_4 (fun H locs w1 hw1 hP hD hS => ?_)
  cases hw1
  have hP : va_P D vwCl [(ad_s, .inr (2, [.ref ad_s_walk, .ref ad_s_now, .ref ad_s_then, .long z4_1.1])), (ad_s_walk, .inr (9, [.ref ad_s_walk_signers, .int s_walk_signed, .int s_walk_at, .int s_walk_crossed, .int s_walk_target, .int s_walk_heap])), (ad_s_walk_signers, .inl (cI, 9, .inl s_walk_signers)), (ad_s_now, .inr (8, [.ref ad_s_now_parts, .ref ad_s_now_keys, .int z4_1.2.1, .long z4_1.2.2.1])), (ad_s_now_parts, .inl (cJ, 4608, .inr (.inl z4_1.2.2.2.1))), (ad_s_now_keys, .inl (cI, 4608, .inl z4_1.2.2.2.2)), (ad_s_then, .inr (8, [.ref ad_s_then_parts, .ref ad_s_then_keys, .int s_then_number, .long s_then_partHome])), (ad_s_then_parts, .inl (cJ, 4608, .inr (.inl s_then_parts))), (ad_s_then_keys, .inl (cI, 4608, .inl s_then_keys)), (ad_q1, .inr (1, [.ref ad_q1_facts, .int q1_number])), (ad_q1_facts, .inl (cI, 54, .inl q1_facts))] H := hP
  have hD : va_D A [(ad_s, .inr (2, [.ref ad_s_walk, .ref ad_s_now, .ref ad_s_then, .long z4_1.1])), (ad_s_walk, .inr (9, [.ref ad_s_walk_signers, .int s_walk_signed, .int s_walk_at, .int s_walk_crossed, .int s_walk_target, .int s_walk_heap])), (ad_s_walk_signers, .inl (cI, 9, .inl s_walk_signers)), (ad_s_now, .inr (8, [.ref ad_s_now_parts, .ref ad_s_now_keys, .int z4_1.2.1, .long z4_1.2.2.1])), (ad_s_now_parts, .inl (cJ, 4608, .inr (.inl z4_1.2.2.2.1))), (ad_s_now_keys, .inl (cI, 4608, .inl z4_1.2.2.2.2)), (ad_s_then, .inr (8, [.ref ad_s_then_parts, .ref ad_s_then_keys, .int s_then_number, .long s_then_partHome])), (ad_s_then_parts, .inl (cJ, 4608, .inr (.inl s_then_parts))), (ad_s_then_keys, .inl (cI, 4608, .inl s_then_keys)), (ad_q1, .inr (1, [.ref ad_q1_facts, .int q1_number])), (ad_q1_facts, .inl (cI, 54, .inl q1_facts))] := hD
  refine lv_aload_n hx hb dX2_lookAnew_7 rfl (lv_at hl 0 rfl) ?_
  refine lv_aload_n hx hb dX2_lookAnew_8 rfl (lv_at hl 1 rfl) ?_
  refine lv_iconst (v := 0) hx hb dX2_lookAnew_9 (by decide) ?_
  refine lv_iload_n hx hb dX2_lookAnew_10 rfl (lv_at hl 3 rfl) ?_
  refine lv_iload hx hb dX2_lookAnew_11 (lv_at hl 4 rfl) ?_
  obtain ⟨z13_2, hz13_2, hf⟩ := bn_s hf
  refine kVv (rest := []) hX (c_X2_passHours l D cI cJ cR N ad_s ad_s_walk ad_s_walk_signers ad_s_now ad_s_now_parts ad_s_now_keys ad_s_then ad_s_then_parts ad_s_then_keys ad_q1 ad_q1_facts z4_1.1 s_walk_signed s_walk_at s_walk_crossed s_walk_target s_walk_heap s_walk_signers z4_1.2.1 z4_1.2.2.1 z4_1.2.2.2.1 z4_1.2.2.2.2 s_then_number s_then_partHome s_then_parts s_then_keys q1_number q1_facts (0 : Int32) x3 x4 hz13_2) kc_X2_passHours wd647 ⟨Nat.le_of_ble_eq_true rfl, Nat.le_of_ble_eq_true rfl⟩ ⟨rfl, rfl⟩ hP hD hS (ci := 2) rfl rfl (q0 := 0) rfl [0, 1, 2, 3, 4, 5, 6, 7, 8, 9, 10] rfl (by decide) (fun w h => by obtain ⟨_, _, _, _, _, _, rfl⟩ := h; rfl) rfl rfl (Nat.le_of_ble_eq_true rfl) hl.1 ⟨Nat.zero_le _, Nat.zero_le _⟩ dX2_lookAnew_13 (fun H locs w1 hw1 hP hD hS => ?_)
  obtain ⟨b13_3_0, b13_3_1, b13_3_2, b13_3_3, b13_3_4, b13_3_5, rfl⟩ := hw1
  have hP : va_P D vwCl [(ad_s, .inr (2, [.ref ad_s_walk, .ref b13_3_0, .ref b13_3_3, .long z13_2.1])), (ad_s_walk, .inr (9, [.ref ad_s_walk_signers, .int z13_2.2.1, .int z13_2.2.2.1, .int z13_2.2.2.2.1, .int z13_2.2.2.2.2.1, .int z13_2.2.2.2.2.2.1])), (ad_s_walk_signers, .inl (cI, 9, .inl z13_2.2.2.2.2.2.2.1)), (b13_3_0, .inr (8, [.ref b13_3_1, .ref b13_3_2, .int z13_2.2.2.2.2.2.2.2.1, .long z13_2.2.2.2.2.2.2.2.2.1])), (b13_3_1, .inl (cJ, 4608, .inr (.inl z13_2.2.2.2.2.2.2.2.2.2.1))), (b13_3_2, .inl (cI, 4608, .inl z13_2.2.2.2.2.2.2.2.2.2.2.1)), (b13_3_3, .inr (8, [.ref b13_3_4, .ref b13_3_5, .int z13_2.2.2.2.2.2.2.2.2.2.2.2.1, .long z13_2.2.2.2.2.2.2.2.2.2.2.2.2.1])), (b13_3_4, .inl (cJ, 4608, .inr (.inl z13_2.2.2.2.2.2.2.2.2.2.2.2.2.2.1))), (b13_3_5, .inl (cI, 4608, .inl z13_2.2.2.2.2.2.2.2.2.2.2.2.2.2.2)), (ad_q1, .inr (1, [.ref ad_q1_facts, .int q1_number])), (ad_q1_facts, .inl (cI, 54, .inl q1_facts))] H := hP
  have hD : va_D A [(ad_s, .inr (2, [.ref ad_s_walk, .ref b13_3_0, .ref b13_3_3, .long z13_2.1])), (ad_s_walk, .inr (9, [.ref ad_s_walk_signers, .int z13_2.2.1, .int z13_2.2.2.1, .int z13_2.2.2.2.1, .int z13_2.2.2.2.2.1, .int z13_2.2.2.2.2.2.1])), (ad_s_walk_signers, .inl (cI, 9, .inl z13_2.2.2.2.2.2.2.1)), (b13_3_0, .inr (8, [.ref b13_3_1, .ref b13_3_2, .int z13_2.2.2.2.2.2.2.2.1, .long z13_2.2.2.2.2.2.2.2.2.1])), (b13_3_1, .inl (cJ, 4608, .inr (.inl z13_2.2.2.2.2.2.2.2.2.2.1))), (b13_3_2, .inl (cI, 4608, .inl z13_2.2.2.2.2.2.2.2.2.2.2.1)), (b13_3_3, .inr (8, [.ref b13_3_4, .ref b13_3_5, .int z13_2.2.2.2.2.2.2.2.2.2.2.2.1, .long z13_2.2.2.2.2.2.2.2.2.2.2.2.2.1])), (b13_3_4, .inl (cJ, 4608, .inr (.inl z13_2.2.2.2.2.2.2.2.2.2.2.2.2.2.1))), (b13_3_5, .inl (cI, 4608, .inl z13_2.2.2.2.2.2.2.2.2.2.2.2.2.2.2)), (ad_q1, .inr (1, [.ref ad_q1_facts, .int q1_number])), (ad_q1_facts, .inl (cI, 54, .inl q1_facts))] := hD
  exact hRet _ _ _ _ _ _ (Option.some.inj hf) ⟨_, _, _, _, _, _, rfl⟩ hP hD hS dX2_lookAnew_16
def p_X2_partHome (s_now_partHome : Int64) : (Int64) :=
  (s_now_partHome)
abbrev rm_X2_partHome : Room := { frames := 0, cells := 0, slots := 0, locals := 0 }
set_option maxHeartbeats 4000000 in
set_option maxRecDepth 100000 in
theorem c_X2_partHome (l : Launch) (D : va_G) (cI cJ cR : ClassId) (ad_s ad_s_walk ad_s_now ad_s_now_parts ad_s_now_keys ad_s_then : Nat) (s_whole : Int64) (s_now_number : Int32) (s_now_partHome : Int64) {o : Int64} (hf : p_X2_partHome s_now_partHome = o) : kMl l D (kT cI cJ cR) yX2_partHome cX2_partHome 1 (some .long) rm_X2_partHome [.ref ad_s] [(ad_s, .inr (2, [.ref ad_s_walk, .ref ad_s_now, .ref ad_s_then, .long s_whole])), (ad_s_now, .inr (8, [.ref ad_s_now_parts, .ref ad_s_now_keys, .int s_now_number, .long s_now_partHome]))] (o) (fun w => w = [(ad_s, .inr (2, [.ref ad_s_walk, .ref ad_s_now, .ref ad_s_then, .long s_whole])), (ad_s_now, .inr (8, [.ref ad_s_now_parts, .ref ad_s_now_keys, .int s_now_number, .long s_now_partHome]))]) := by
  apply kInL (o := o)
  · decide
  · exact Nat.le_of_ble_eq_true rfl
  intro p e s m args below meth c A ls Q hX hRet hP hD hS hl
  have hx := hX.1.1
  have hb := hX.1.2.1
  have hown := hX.1.2.2.2.1
  have hts := hX.1.2.2.2.2
  have hl : lv_has ls 1 [(0, .ref ad_s)] := hl
  unfold p_X2_partHome at hf
  refine lv_aload_n hx hb dX2_partHome_0 rfl (lv_at hl 0 rfl) ?_
  refine kget hX hP (q0 := 0) rfl rfl inX2 (k := 1) (by decide) rfl wd263 rfl dX2_partHome_1 ?_
  refine kget hX hP (q0 := 1) rfl rfl inX8 (k := 3) (by decide) rfl wd251 rfl dX2_partHome_4 ?_
  exact hRet _ _ _ _ _ _ _ hf rfl rfl hP hD hS dX2_partHome_7
def f_X2_partAt_b64 (N : Nat) (k20 : Int32 → Int64 → Int32 → Option (Int64)) (s_now_number : Int32) (s_now_partHome : Int64) (s_now_parts : (Nat → Int64)) (s_now_keys : (Nat → Int32)) (x1 : Int32) (x3 : Int64) (x5 : Int32) : Option (Int64) :=
  k20 x1 x3 (x5 + (1 : Int32))
def f_X2_partAt_b20 (N : Nat) (s_now_number : Int32) (s_now_partHome : Int64) (s_now_parts : (Nat → Int64)) (s_now_keys : (Nat → Int32)) : Nat → Int32 → Int64 → Int32 → Option (Int64)
  | 0, _, _, _ => none
  | n20 + 1, x1, x3, x5 => if s_now_number ≤ x5 then some (x3) else nm (p_X8_keyAt s_now_number s_now_keys x5) (fun v41 => if (p_X8_deskOf v41) = x1 then nm (x3 + (p_X8_partOf s_now_parts v41)) (fun v63 => (f_X2_partAt_b64 N (f_X2_partAt_b20 N s_now_number s_now_partHome s_now_parts s_now_keys n20) s_now_number s_now_partHome s_now_parts s_now_keys) x1 v63 x5) else (f_X2_partAt_b64 N (f_X2_partAt_b20 N s_now_number s_now_partHome s_now_parts s_now_keys n20) s_now_number s_now_partHome s_now_parts s_now_keys) x1 x3 x5)
def f_X2_partAt_b16 (N : Nat) (s_now_number : Int32) (s_now_partHome : Int64) (s_now_parts : (Nat → Int64)) (s_now_keys : (Nat → Int32)) (x1 : Int32) (y0 : Int64) : Option (Int64) :=
  (f_X2_partAt_b20 N s_now_number s_now_partHome s_now_parts s_now_keys N) x1 y0 (0 : Int32)
def f_X2_partAt (N : Nat) (s_now_number : Int32) (s_now_partHome : Int64) (s_now_parts : (Nat → Int64)) (s_now_keys : (Nat → Int32)) (x1 : Int32) (x2 : Int32) : Option (Int64) :=
  (f_X2_partAt_b16 N s_now_number s_now_partHome s_now_parts s_now_keys) x1 (if x1 = x2 then s_now_partHome else (0 : Int64))
abbrev rm_X2_partAt : Room := { frames := 1, cells := 0, slots := 0, locals := 21 }
set_option maxHeartbeats 4000000 in
set_option maxRecDepth 100000 in
theorem c_X2_partAt (l : Launch) (D : va_G) (cI cJ cR : ClassId) (N : Nat) (ad_s ad_s_walk ad_s_now ad_s_now_parts ad_s_now_keys ad_s_then : Nat) (s_whole : Int64) (s_now_number : Int32) (s_now_partHome : Int64) (s_now_parts : (Nat → Int64)) (s_now_keys : (Nat → Int32)) (x1 : Int32) (x2 : Int32) {o : Int64} (hf : f_X2_partAt N s_now_number s_now_partHome s_now_parts s_now_keys x1 x2 = some o) : kMl l D (kT cI cJ cR) yX2_partAt cX2_partAt 7 (some .long) rm_X2_partAt [.ref ad_s, .int x1, .int x2] [(ad_s, .inr (2, [.ref ad_s_walk, .ref ad_s_now, .ref ad_s_then, .long s_whole])), (ad_s_now, .inr (8, [.ref ad_s_now_parts, .ref ad_s_now_keys, .int s_now_number, .long s_now_partHome])), (ad_s_now_parts, .inl (cJ, 4608, .inr (.inl s_now_parts))), (ad_s_now_keys, .inl (cI, 4608, .inl s_now_keys))] (o) (fun w => w = [(ad_s, .inr (2, [.ref ad_s_walk, .ref ad_s_now, .ref ad_s_then, .long s_whole])), (ad_s_now, .inr (8, [.ref ad_s_now_parts, .ref ad_s_now_keys, .int s_now_number, .long s_now_partHome])), (ad_s_now_parts, .inl (cJ, 4608, .inr (.inl s_now_parts))), (ad_s_now_keys, .inl (cI, 4608, .inl s_now_keys))]) := by
  apply kInL (o := o)
  · decide
  · exact Nat.le_of_ble_eq_true rfl
  intro p e s m args below meth c A ls Q hX hRet hP hD hS hl
  have hx := hX.1.1
  have hb := hX.1.2.1
  have hown := hX.1.2.2.2.1
  have hts := hX.1.2.2.2.2
  have hl : lv_has ls 7 [(0, .ref ad_s), (1, .int x1), (2, .int x2)] := hl
  have hb20 : ∀ n20 : Nat, ∀ (H : Heap) (locs : List Loc) (x1 : Int32) (x3 : Int64) (x5 : Int32), va_P D vwCl [(ad_s, .inr (2, [.ref ad_s_walk, .ref ad_s_now, .ref ad_s_then, .long s_whole])), (ad_s_now, .inr (8, [.ref ad_s_now_parts, .ref ad_s_now_keys, .int s_now_number, .long s_now_partHome])), (ad_s_now_parts, .inl (cJ, 4608, .inr (.inl s_now_parts))), (ad_s_now_keys, .inl (cI, 4608, .inl s_now_keys))] H → va_D A [(ad_s, .inr (2, [.ref ad_s_walk, .ref ad_s_now, .ref ad_s_then, .long s_whole])), (ad_s_now, .inr (8, [.ref ad_s_now_parts, .ref ad_s_now_keys, .int s_now_number, .long s_now_partHome])), (ad_s_now_parts, .inl (cJ, 4608, .inr (.inl s_now_parts))), (ad_s_now_keys, .inl (cI, 4608, .inl s_now_keys))] → va_S A s.heap H locs → ∀ ls : Array Slot, lv_has ls 7 [(0, .ref ad_s), (1, .int x1), (3, .long x3), (5, .int x5)] → f_X2_partAt_b20 N s_now_number s_now_partHome s_now_parts s_now_keys n20 x1 x3 x5 = some o → W p l e rm_X2_partAt s m args below meth c H locs 0 0 Q (F0 m 20 ls []) := by
    intro n20
    induction n20 with
    | zero =>
      intro H locs x1 x3 x5 hP hD hS ls hl hf
      rw [f_X2_partAt_b20] at hf
      cases hf
    | succ n20 ih20 =>
      have hb64 : ∀ (H : Heap) (locs : List Loc) (x1 : Int32) (x3 : Int64) (x5 : Int32), va_P D vwCl [(ad_s, .inr (2, [.ref ad_s_walk, .ref ad_s_now, .ref ad_s_then, .long s_whole])), (ad_s_now, .inr (8, [.ref ad_s_now_parts, .ref ad_s_now_keys, .int s_now_number, .long s_now_partHome])), (ad_s_now_parts, .inl (cJ, 4608, .inr (.inl s_now_parts))), (ad_s_now_keys, .inl (cI, 4608, .inl s_now_keys))] H → va_D A [(ad_s, .inr (2, [.ref ad_s_walk, .ref ad_s_now, .ref ad_s_then, .long s_whole])), (ad_s_now, .inr (8, [.ref ad_s_now_parts, .ref ad_s_now_keys, .int s_now_number, .long s_now_partHome])), (ad_s_now_parts, .inl (cJ, 4608, .inr (.inl s_now_parts))), (ad_s_now_keys, .inl (cI, 4608, .inl s_now_keys))] → va_S A s.heap H locs → ∀ ls : Array Slot, lv_has ls 7 [(0, .ref ad_s), (1, .int x1), (3, .long x3), (5, .int x5)] → (f_X2_partAt_b64 N (f_X2_partAt_b20 N s_now_number s_now_partHome s_now_parts s_now_keys n20) s_now_number s_now_partHome s_now_parts s_now_keys) x1 x3 x5 = some o → W p l e rm_X2_partAt s m args below meth c H locs 0 0 Q (F0 m 64 ls []) := by
        intro H locs x1 x3 x5 hP hD hS ls hl hf
        unfold f_X2_partAt_b64 at hf
        refine lv_iinc (v := (x5 + (1 : Int32))) (lv' := [(5, .int (x5 + (1 : Int32))), (0, .ref ad_s), (1, .int x1), (3, .long x3)]) hx hb dX2_partAt_64 hl (k := 3) rfl rfl (by decide) rfl (fun ls hl => ?_)
        refine lv_goto (tgt := 20) hx hb dX2_partAt_67 (by decide) ?_
        exact ih20 _ _ x1 x3 (x5 + (1 : Int32)) hP hD hS _ (lv_sub hl [1, 2, 3, 0] rfl) hf
      intro H locs x1 x3 x5 hP hD hS ls hl hf
      rw [f_X2_partAt_b20] at hf
      refine lv_iload hx hb dX2_partAt_20 (lv_at hl 3 rfl) ?_
      refine lv_aload_n hx hb dX2_partAt_22 rfl (lv_at hl 0 rfl) ?_
      refine kget hX hP (q0 := 0) rfl rfl inX2 (k := 1) (by decide) rfl wd263 rfl dX2_partAt_23 ?_
      refine kget hX hP (q0 := 1) rfl rfl inX8 (k := 2) (by decide) rfl wd249 rfl dX2_partAt_26 ?_
      refine lv_icmp_ge (tgt := 70) hx hb dX2_partAt_29 (by decide) (fun c29 => ?_) (fun c29 => ?_)
      · replace hf := ip c29 hf
        refine lv_lload_n hx hb dX2_partAt_70 rfl (lv_at hl 2 rfl) ?_
        exact hRet _ _ _ _ _ _ _ (Option.some.inj hf) rfl rfl hP hD hS dX2_partAt_71
      · replace hf := iq c29 hf
        refine lv_aload_n hx hb dX2_partAt_32 rfl (lv_at hl 0 rfl) ?_
        refine kget hX hP (q0 := 0) rfl rfl inX2 (k := 1) (by decide) rfl wd263 rfl dX2_partAt_33 ?_
        refine lv_iload hx hb dX2_partAt_36 (lv_at hl 3 rfl) ?_
        refine kVi (rest := []) hX (c_X8_keyAt l D cI cJ cR ad_s_now ad_s_now_parts ad_s_now_keys s_now_number s_now_partHome s_now_keys x5 rfl) kc_X8_keyAt wd652 ⟨Nat.le_of_ble_eq_true rfl, Nat.le_of_ble_eq_true rfl⟩ ⟨rfl, rfl⟩ hP hD hS (ci := 8) rfl rfl (q0 := 1) rfl [1, 3] rfl (by decide) (fun w h => by cases h; rfl) rfl rfl (Nat.le_of_ble_eq_true rfl) hl.1 ⟨Nat.zero_le _, Nat.zero_le _⟩ dX2_partAt_38 (fun H locs w1 hw1 hP hD hS => ?_)
        cases hw1
        have hP : va_P D vwCl [(ad_s, .inr (2, [.ref ad_s_walk, .ref ad_s_now, .ref ad_s_then, .long s_whole])), (ad_s_now, .inr (8, [.ref ad_s_now_parts, .ref ad_s_now_keys, .int s_now_number, .long s_now_partHome])), (ad_s_now_parts, .inl (cJ, 4608, .inr (.inl s_now_parts))), (ad_s_now_keys, .inl (cI, 4608, .inl s_now_keys))] H := hP
        have hD : va_D A [(ad_s, .inr (2, [.ref ad_s_walk, .ref ad_s_now, .ref ad_s_then, .long s_whole])), (ad_s_now, .inr (8, [.ref ad_s_now_parts, .ref ad_s_now_keys, .int s_now_number, .long s_now_partHome])), (ad_s_now_parts, .inl (cJ, 4608, .inr (.inl s_now_parts))), (ad_s_now_keys, .inl (cI, 4608, .inl s_now_keys))] := hD
        refine lv_topi (fun v41 ev41 => ?_)
        replace hf := nm_s ev41 hf
        refine lv_istore (lv' := [(6, .int v41), (0, .ref ad_s), (1, .int x1), (3, .long x3), (5, .int x5)]) hx hb dX2_partAt_41 hl (by decide) rfl (fun ls hl => ?_)
        refine lv_iload hx hb dX2_partAt_43 (lv_at hl 0 rfl) ?_
        refine kSi (rest := []) hX (c_X8_deskOf l D cI cJ cR v41 rfl) kc_X8_deskOf wd657 ⟨Nat.le_of_ble_eq_true rfl, Nat.le_of_ble_eq_true rfl⟩ ⟨rfl, rfl⟩ hP hD hS [] rfl (by decide) (fun w h => by cases h; rfl) rfl rfl (Nat.le_of_ble_eq_true rfl) hl.1 ⟨Nat.zero_le _, Nat.zero_le _⟩ dX2_partAt_45 (fun H locs w1 hw1 hP hD hS => ?_)
        cases hw1
        have hP : va_P D vwCl [(ad_s, .inr (2, [.ref ad_s_walk, .ref ad_s_now, .ref ad_s_then, .long s_whole])), (ad_s_now, .inr (8, [.ref ad_s_now_parts, .ref ad_s_now_keys, .int s_now_number, .long s_now_partHome])), (ad_s_now_parts, .inl (cJ, 4608, .inr (.inl s_now_parts))), (ad_s_now_keys, .inl (cI, 4608, .inl s_now_keys))] H := hP
        have hD : va_D A [(ad_s, .inr (2, [.ref ad_s_walk, .ref ad_s_now, .ref ad_s_then, .long s_whole])), (ad_s_now, .inr (8, [.ref ad_s_now_parts, .ref ad_s_now_keys, .int s_now_number, .long s_now_partHome])), (ad_s_now_parts, .inl (cJ, 4608, .inr (.inl s_now_parts))), (ad_s_now_keys, .inl (cI, 4608, .inl s_now_keys))] := hD
        refine lv_iload_n hx hb dX2_partAt_48 rfl (lv_at hl 2 rfl) ?_
        refine lv_icmp_ne (tgt := 64) hx hb dX2_partAt_49 (by decide) (fun c49 => ?_) (fun c49 => ?_)
        · replace hf := iq c49 hf
          exact hb64 _ _ x1 x3 x5 hP hD hS _ (lv_sub hl [1, 2, 3, 4] rfl) hf
        · replace hf := ip c49 hf
          refine lv_lload_n hx hb dX2_partAt_52 rfl (lv_at hl 3 rfl) ?_
          refine lv_aload_n hx hb dX2_partAt_53 rfl (lv_at hl 1 rfl) ?_
          refine kget hX hP (q0 := 0) rfl rfl inX2 (k := 1) (by decide) rfl wd263 rfl dX2_partAt_54 ?_
          refine lv_iload hx hb dX2_partAt_57 (lv_at hl 0 rfl) ?_
          refine kVl (rest := [.long x3]) hX (c_X8_partOf l D cI cJ cR ad_s_now ad_s_now_parts ad_s_now_keys s_now_number s_now_partHome s_now_parts v41 rfl) kc_X8_partOf wd664 ⟨Nat.le_of_ble_eq_true rfl, Nat.le_of_ble_eq_true rfl⟩ ⟨rfl, rfl⟩ hP hD hS (ci := 8) rfl rfl (q0 := 1) rfl [1, 2] rfl (by decide) (fun w h => by cases h; rfl) rfl rfl (Nat.le_of_ble_eq_true rfl) hl.1 ⟨Nat.zero_le _, Nat.zero_le _⟩ dX2_partAt_59 (fun H locs w1 hw1 hP hD hS => ?_)
          cases hw1
          have hP : va_P D vwCl [(ad_s, .inr (2, [.ref ad_s_walk, .ref ad_s_now, .ref ad_s_then, .long s_whole])), (ad_s_now, .inr (8, [.ref ad_s_now_parts, .ref ad_s_now_keys, .int s_now_number, .long s_now_partHome])), (ad_s_now_parts, .inl (cJ, 4608, .inr (.inl s_now_parts))), (ad_s_now_keys, .inl (cI, 4608, .inl s_now_keys))] H := hP
          have hD : va_D A [(ad_s, .inr (2, [.ref ad_s_walk, .ref ad_s_now, .ref ad_s_then, .long s_whole])), (ad_s_now, .inr (8, [.ref ad_s_now_parts, .ref ad_s_now_keys, .int s_now_number, .long s_now_partHome])), (ad_s_now_parts, .inl (cJ, 4608, .inr (.inl s_now_parts))), (ad_s_now_keys, .inl (cI, 4608, .inl s_now_keys))] := hD
          refine lv_ladd hx hb dX2_partAt_62 ?_
          refine lv_topl (fun v63 ev63 => ?_)
          replace hf := nm_s ev63 hf
          refine lv_lstore_n (lv' := [(3, .long v63), (6, .int v41), (0, .ref ad_s), (1, .int x1), (5, .int x5)]) hx hb dX2_partAt_63 rfl hl (by decide) rfl (fun ls hl => ?_)
          exact hb64 _ _ x1 v63 x5 hP hD hS _ (lv_sub hl [2, 3, 0, 4] rfl) hf
  have hb16 : ∀ (H : Heap) (locs : List Loc) (x1 : Int32) (y0 : Int64), va_P D vwCl [(ad_s, .inr (2, [.ref ad_s_walk, .ref ad_s_now, .ref ad_s_then, .long s_whole])), (ad_s_now, .inr (8, [.ref ad_s_now_parts, .ref ad_s_now_keys, .int s_now_number, .long s_now_partHome])), (ad_s_now_parts, .inl (cJ, 4608, .inr (.inl s_now_parts))), (ad_s_now_keys, .inl (cI, 4608, .inl s_now_keys))] H → va_D A [(ad_s, .inr (2, [.ref ad_s_walk, .ref ad_s_now, .ref ad_s_then, .long s_whole])), (ad_s_now, .inr (8, [.ref ad_s_now_parts, .ref ad_s_now_keys, .int s_now_number, .long s_now_partHome])), (ad_s_now_parts, .inl (cJ, 4608, .inr (.inl s_now_parts))), (ad_s_now_keys, .inl (cI, 4608, .inl s_now_keys))] → va_S A s.heap H locs → ∀ ls : Array Slot, lv_has ls 7 [(0, .ref ad_s), (1, .int x1)] → (f_X2_partAt_b16 N s_now_number s_now_partHome s_now_parts s_now_keys) x1 y0 = some o → W p l e rm_X2_partAt s m args below meth c H locs 0 0 Q (F0 m 16 ls [.long y0]) := by
    intro H locs x1 y0 hP hD hS ls hl hf
    unfold f_X2_partAt_b16 at hf
    refine lv_lstore_n (lv' := [(3, .long y0), (0, .ref ad_s), (1, .int x1)]) hx hb dX2_partAt_16 rfl hl (by decide) rfl (fun ls hl => ?_)
    refine lv_iconst (v := 0) hx hb dX2_partAt_17 (by decide) ?_
    refine lv_istore (lv' := [(5, .int (0 : Int32)), (3, .long y0), (0, .ref ad_s), (1, .int x1)]) hx hb dX2_partAt_18 hl (by decide) rfl (fun ls hl => ?_)
    exact hb20 N _ _ x1 y0 (0 : Int32) hP hD hS _ (lv_sub hl [2, 3, 1, 0] rfl) hf
  unfold f_X2_partAt at hf
  refine lv_iload_n hx hb dX2_partAt_0 rfl (lv_at hl 1 rfl) ?_
  refine lv_iload_n hx hb dX2_partAt_1 rfl (lv_at hl 2 rfl) ?_
  refine lv_icmp_ne (tgt := 15) hx hb dX2_partAt_2 (by decide) (fun c2 => ?_) (fun c2 => ?_)
  · simp only [if_neg c2] at hf
    refine lv_lconst (v := 0) hx hb dX2_partAt_15 (by decide) ?_
    exact hb16 _ _ x1 (0 : Int64) hP hD hS _ (lv_sub hl [0, 1] rfl) hf
  · simp only [if_pos c2] at hf
    refine lv_aload_n hx hb dX2_partAt_5 rfl (lv_at hl 0 rfl) ?_
    refine kget hX hP (q0 := 0) rfl rfl inX2 (k := 1) (by decide) rfl wd263 rfl dX2_partAt_6 ?_
    refine kget hX hP (q0 := 1) rfl rfl inX8 (k := 3) (by decide) rfl wd251 rfl dX2_partAt_9 ?_
    refine lv_goto (tgt := 16) hx hb dX2_partAt_12 (by decide) ?_
    exact hb16 _ _ x1 s_now_partHome hP hD hS _ (lv_sub hl [0, 1] rfl) hf
def p_X3_clear (s_length : Int32) (s_members : Int32) : (Int32 × Int32) :=
  ((0 : Int32), (0 : Int32))
abbrev rm_X3_clear : Room := { frames := 0, cells := 0, slots := 0, locals := 0 }
set_option maxHeartbeats 4000000 in
set_option maxRecDepth 100000 in
theorem c_X3_clear (l : Launch) (D : va_G) (cI cJ cR : ClassId) (ad_s ad_s_sequence ad_s_bestSequence : Nat) (s_length : Int32) (s_members : Int32) (s_most : Int32) (s_least : Int32) {o : Int32 × Int32} (hf : p_X3_clear s_length s_members = o) : kMv l D (kT cI cJ cR) yX3_clear cX3_clear 1 none rm_X3_clear [.ref ad_s] [(ad_s, .inr (3, [.ref ad_s_sequence, .ref ad_s_bestSequence, .int s_length, .int s_members, .int s_most, .int s_least]))] 0 0 (fun w => w = [(ad_s, .inr (3, [.ref ad_s_sequence, .ref ad_s_bestSequence, .int o.1, .int o.2, .int s_most, .int s_least]))]) := by
  apply kInV (o := o)
  · decide
  · exact Nat.le_of_ble_eq_true rfl
  intro p e s m args below meth c A ls Q hX hRet hP hD hS hl
  have hx := hX.1.1
  have hb := hX.1.2.1
  have hown := hX.1.2.2.2.1
  have hts := hX.1.2.2.2.2
  have hl : lv_has ls 1 [(0, .ref ad_s)] := hl
  unfold p_X3_clear at hf
  refine lv_aload_n hx hb dX3_clear_0 rfl (lv_at hl 0 rfl) ?_
  refine lv_iconst (v := 0) hx hb dX3_clear_1 (by decide) ?_
  refine kput hX hP hD hS (q0 := 0) rfl rfl inX3 tyX3_ok nmX3 (k := 2) (by decide) rfl wd284 rfl rfl (Nat.le_of_ble_eq_true rfl) dX3_clear_2 (fun H locs hP hD hS => ?_)
  refine lv_aload_n hx hb dX3_clear_5 rfl (lv_at hl 0 rfl) ?_
  refine lv_iconst (v := 0) hx hb dX3_clear_6 (by decide) ?_
  refine kput hX hP hD hS (q0 := 0) rfl rfl inX3 tyX3_ok nmX3 (k := 3) (by decide) rfl wd286 rfl rfl (Nat.le_of_ble_eq_true rfl) dX3_clear_7 (fun H locs hP hD hS => ?_)
  exact hRet _ _ _ _ _ _ hf rfl hP hD hS dX3_clear_10
def f_X3_add (N : Nat) (s_length : Int32) (s_members : Int32) (s_sequence : (Nat → Int32)) (x1 : Int32) : Option (Int32 × Int32 × (Nat → Int32)) :=
  if (9 : Int32) ≤ s_length then some (s_length, s_members, s_sequence) else if x1 < 0 then some (s_length, s_members, s_sequence) else if (9 : Int32) ≤ x1 then some (s_length, s_members, s_sequence) else gd (inb s_length 9 = true) (some ((s_length + (1 : Int32)), (s_members ||| ((1 : Int32) <<< (x1 &&& 31))), (upd s_sequence s_length.toNatClampNeg x1)))
abbrev rm_X3_add : Room := { frames := 0, cells := 0, slots := 0, locals := 0 }
set_option maxHeartbeats 4000000 in
set_option maxRecDepth 100000 in
theorem c_X3_add (l : Launch) (D : va_G) (cI cJ cR : ClassId) (N : Nat) (ad_s ad_s_sequence ad_s_bestSequence : Nat) (s_length : Int32) (s_members : Int32) (s_most : Int32) (s_least : Int32) (s_sequence : (Nat → Int32)) (x1 : Int32) {o : Int32 × Int32 × (Nat → Int32)} (hf : f_X3_add N s_length s_members s_sequence x1 = some o) : kMv l D (kT cI cJ cR) yX3_add cX3_add 2 none rm_X3_add [.ref ad_s, .int x1] [(ad_s, .inr (3, [.ref ad_s_sequence, .ref ad_s_bestSequence, .int s_length, .int s_members, .int s_most, .int s_least])), (ad_s_sequence, .inl (cI, 9, .inl s_sequence))] 0 0 (fun w => w = [(ad_s, .inr (3, [.ref ad_s_sequence, .ref ad_s_bestSequence, .int o.1, .int o.2.1, .int s_most, .int s_least])), (ad_s_sequence, .inl (cI, 9, .inl o.2.2))]) := by
  apply kInV (o := o)
  · decide
  · exact Nat.le_of_ble_eq_true rfl
  intro p e s m args below meth c A ls Q hX hRet hP hD hS hl
  have hx := hX.1.1
  have hb := hX.1.2.1
  have hown := hX.1.2.2.2.1
  have hts := hX.1.2.2.2.2
  have hl : lv_has ls 2 [(0, .ref ad_s), (1, .int x1)] := hl
  unfold f_X3_add at hf
  refine lv_aload_n hx hb dX3_add_0 rfl (lv_at hl 0 rfl) ?_
  refine kget hX hP (q0 := 0) rfl rfl inX3 (k := 2) (by decide) rfl wd284 rfl dX3_add_1 ?_
  refine lv_aload_n hx hb dX3_add_4 rfl (lv_at hl 0 rfl) ?_
  refine kget hX hP (q0 := 0) rfl rfl inX3 (k := 0) (by decide) rfl wd282 rfl dX3_add_5 ?_
  refine kalen hX hP (t0 := 0) rfl (q0 := 1) rfl (v := (9 : Int32)) rfl dX3_add_8 ?_
  refine lv_icmp_ge (tgt := 54) hx hb dX3_add_9 (by decide) (fun c9 => ?_) (fun c9 => ?_)
  · replace hf := ip c9 hf
    exact hRet _ _ _ _ _ _ (Option.some.inj hf) rfl hP hD hS dX3_add_54
  · replace hf := iq c9 hf
    refine lv_iload_n hx hb dX3_add_12 rfl (lv_at hl 1 rfl) ?_
    refine lv_if_lt (tgt := 54) hx hb dX3_add_13 (by decide) (fun c13 => ?_) (fun c13 => ?_)
    · replace hf := ip c13 hf
      exact hRet _ _ _ _ _ _ (Option.some.inj hf) rfl hP hD hS dX3_add_54
    · replace hf := iq c13 hf
      refine lv_iload_n hx hb dX3_add_16 rfl (lv_at hl 1 rfl) ?_
      refine lv_bipush (v := 9) hx hb dX3_add_17 (by decide) ?_
      refine lv_icmp_ge (tgt := 54) hx hb dX3_add_19 (by decide) (fun c19 => ?_) (fun c19 => ?_)
      · replace hf := ip c19 hf
        exact hRet _ _ _ _ _ _ (Option.some.inj hf) rfl hP hD hS dX3_add_54
      · replace hf := iq c19 hf
        refine lv_aload_n hx hb dX3_add_22 rfl (lv_at hl 0 rfl) ?_
        refine kget hX hP (q0 := 0) rfl rfl inX3 (k := 0) (by decide) rfl wd282 rfl dX3_add_23 ?_
        refine lv_aload_n hx hb dX3_add_26 rfl (lv_at hl 0 rfl) ?_
        refine kget hX hP (q0 := 0) rfl rfl inX3 (k := 2) (by decide) rfl wd284 rfl dX3_add_27 ?_
        refine lv_iload_n hx hb dX3_add_30 rfl (lv_at hl 1 rfl) ?_
        obtain ⟨hg31_1, hf⟩ := gd_s hf
        refine kiast hX hP hD hS rfl (q0 := 1) rfl (inb_in hg31_1) dX3_add_31 (fun H locs hP hD hS => ?_)
        refine lv_aload_n hx hb dX3_add_32 rfl (lv_at hl 0 rfl) ?_
        refine lv_dup hx hb dX3_add_33 rfl ?_
        refine kget hX hP (q0 := 0) rfl rfl inX3 (k := 2) (by decide) rfl wd284 rfl dX3_add_34 ?_
        refine lv_iconst (v := 1) hx hb dX3_add_37 (by decide) ?_
        refine lv_iadd hx hb dX3_add_38 ?_
        refine kput hX hP hD hS (q0 := 0) rfl rfl inX3 tyX3_ok nmX3 (k := 2) (by decide) rfl wd284 rfl rfl (Nat.le_of_ble_eq_true rfl) dX3_add_39 (fun H locs hP hD hS => ?_)
        refine lv_aload_n hx hb dX3_add_42 rfl (lv_at hl 0 rfl) ?_
        refine lv_dup hx hb dX3_add_43 rfl ?_
        refine kget hX hP (q0 := 0) rfl rfl inX3 (k := 3) (by decide) rfl wd286 rfl dX3_add_44 ?_
        refine lv_iconst (v := 1) hx hb dX3_add_47 (by decide) ?_
        refine lv_iload_n hx hb dX3_add_48 rfl (lv_at hl 1 rfl) ?_
        refine lv_ishl hx hb dX3_add_49 ?_
        refine lv_ior hx hb dX3_add_50 ?_
        refine kput hX hP hD hS (q0 := 0) rfl rfl inX3 tyX3_ok nmX3 (k := 3) (by decide) rfl wd286 rfl rfl (Nat.le_of_ble_eq_true rfl) dX3_add_51 (fun H locs hP hD hS => ?_)
        exact hRet _ _ _ _ _ _ (Option.some.inj hf) rfl hP hD hS dX3_add_54
def p_X3_holds (s_members : Int32) (x1 : Int32) : (Int32) :=
  if x1 < 0 then ((0 : Int32)) else if (9 : Int32) ≤ x1 then ((0 : Int32)) else if ((s_members >>> (x1 &&& 31)) &&& (1 : Int32)) = 0 then ((0 : Int32)) else ((1 : Int32))
theorem zb_X3_holds (s_members : Int32) (x1 : Int32) : p_X3_holds s_members x1 = 0 ∨ p_X3_holds s_members x1 = 1 := by
  unfold p_X3_holds
  try dsimp only [nm]
  repeat' first | apply zb_ite | exact Or.inl rfl | exact Or.inr rfl
abbrev rm_X3_holds : Room := { frames := 0, cells := 0, slots := 0, locals := 0 }
set_option maxHeartbeats 4000000 in
set_option maxRecDepth 100000 in
theorem c_X3_holds (l : Launch) (D : va_G) (cI cJ cR : ClassId) (ad_s ad_s_sequence ad_s_bestSequence : Nat) (s_length : Int32) (s_members : Int32) (s_most : Int32) (s_least : Int32) (x1 : Int32) {o : Int32} (hf : p_X3_holds s_members x1 = o) : kMi l D (kT cI cJ cR) yX3_holds cX3_holds 2 (some .boolean) rm_X3_holds [.ref ad_s, .int x1] [(ad_s, .inr (3, [.ref ad_s_sequence, .ref ad_s_bestSequence, .int s_length, .int s_members, .int s_most, .int s_least]))] (o) (fun w => w = [(ad_s, .inr (3, [.ref ad_s_sequence, .ref ad_s_bestSequence, .int s_length, .int s_members, .int s_most, .int s_least]))]) := by
  apply kInZ (o := o)
  · decide
  · exact Nat.le_of_ble_eq_true rfl
  intro p e s m args below meth c A ls Q hX hRet hP hD hS hl
  have hx := hX.1.1
  have hb := hX.1.2.1
  have hown := hX.1.2.2.2.1
  have hts := hX.1.2.2.2.2
  have hl : lv_has ls 2 [(0, .ref ad_s), (1, .int x1)] := hl
  unfold p_X3_holds at hf
  refine lv_iload_n hx hb dX3_holds_0 rfl (lv_at hl 1 rfl) ?_
  refine lv_if_lt (tgt := 25) hx hb dX3_holds_1 (by decide) (fun c1 => ?_) (fun c1 => ?_)
  · replace hf := ip c1 hf
    refine lv_iconst (v := 0) hx hb dX3_holds_25 (by decide) ?_
    exact hRet _ _ _ _ _ _ _ hf rfl rfl rfl hP hD hS dX3_holds_26
  · replace hf := iq c1 hf
    refine lv_iload_n hx hb dX3_holds_4 rfl (lv_at hl 1 rfl) ?_
    refine lv_bipush (v := 9) hx hb dX3_holds_5 (by decide) ?_
    refine lv_icmp_ge (tgt := 25) hx hb dX3_holds_7 (by decide) (fun c7 => ?_) (fun c7 => ?_)
    · replace hf := ip c7 hf
      refine lv_iconst (v := 0) hx hb dX3_holds_25 (by decide) ?_
      exact hRet _ _ _ _ _ _ _ hf rfl rfl rfl hP hD hS dX3_holds_26
    · replace hf := iq c7 hf
      refine lv_aload_n hx hb dX3_holds_10 rfl (lv_at hl 0 rfl) ?_
      refine kget hX hP (q0 := 0) rfl rfl inX3 (k := 3) (by decide) rfl wd286 rfl dX3_holds_11 ?_
      refine lv_iload_n hx hb dX3_holds_14 rfl (lv_at hl 1 rfl) ?_
      refine lv_ishr hx hb dX3_holds_15 ?_
      refine lv_iconst (v := 1) hx hb dX3_holds_16 (by decide) ?_
      refine lv_iand hx hb dX3_holds_17 ?_
      refine lv_if_eq (tgt := 25) hx hb dX3_holds_18 (by decide) (fun c18 => ?_) (fun c18 => ?_)
      · replace hf := ip c18 hf
        refine lv_iconst (v := 0) hx hb dX3_holds_25 (by decide) ?_
        exact hRet _ _ _ _ _ _ _ hf rfl rfl rfl hP hD hS dX3_holds_26
      · replace hf := iq c18 hf
        refine lv_iconst (v := 1) hx hb dX3_holds_21 (by decide) ?_
        refine lv_goto (tgt := 26) hx hb dX3_holds_22 (by decide) ?_
        exact hRet _ _ _ _ _ _ _ hf rfl rfl rfl hP hD hS dX3_holds_26
def p_X3_deskAt (s_sequence : (Nat → Int32)) (x1 : Int32) : (Int32) :=
  if x1 < 0 then ((0 : Int32)) else if (9 : Int32) ≤ x1 then ((0 : Int32)) else ((s_sequence x1.toNatClampNeg))
abbrev rm_X3_deskAt : Room := { frames := 0, cells := 0, slots := 0, locals := 0 }
set_option maxHeartbeats 4000000 in
set_option maxRecDepth 100000 in
theorem c_X3_deskAt (l : Launch) (D : va_G) (cI cJ cR : ClassId) (ad_s ad_s_sequence ad_s_bestSequence : Nat) (s_length : Int32) (s_members : Int32) (s_most : Int32) (s_least : Int32) (s_sequence : (Nat → Int32)) (x1 : Int32) {o : Int32} (hf : p_X3_deskAt s_sequence x1 = o) : kMi l D (kT cI cJ cR) yX3_deskAt cX3_deskAt 2 (some .int) rm_X3_deskAt [.ref ad_s, .int x1] [(ad_s, .inr (3, [.ref ad_s_sequence, .ref ad_s_bestSequence, .int s_length, .int s_members, .int s_most, .int s_least])), (ad_s_sequence, .inl (cI, 9, .inl s_sequence))] (o) (fun w => w = [(ad_s, .inr (3, [.ref ad_s_sequence, .ref ad_s_bestSequence, .int s_length, .int s_members, .int s_most, .int s_least])), (ad_s_sequence, .inl (cI, 9, .inl s_sequence))]) := by
  apply kInI (o := o)
  · decide
  · exact Nat.le_of_ble_eq_true rfl
  intro p e s m args below meth c A ls Q hX hRet hP hD hS hl
  have hx := hX.1.1
  have hb := hX.1.2.1
  have hown := hX.1.2.2.2.1
  have hts := hX.1.2.2.2.2
  have hl : lv_has ls 2 [(0, .ref ad_s), (1, .int x1)] := hl
  unfold p_X3_deskAt at hf
  refine lv_iload_n hx hb dX3_deskAt_0 rfl (lv_at hl 1 rfl) ?_
  refine lv_if_lt (tgt := 22) hx hb dX3_deskAt_1 (by decide) (fun c1 => ?_) (fun c1 => ?_)
  · replace hf := ip c1 hf
    refine lv_iconst (v := 0) hx hb dX3_deskAt_22 (by decide) ?_
    exact hRet _ _ _ _ _ _ _ hf rfl rfl hP hD hS dX3_deskAt_23
  · replace hf := iq c1 hf
    refine lv_iload_n hx hb dX3_deskAt_4 rfl (lv_at hl 1 rfl) ?_
    refine lv_aload_n hx hb dX3_deskAt_5 rfl (lv_at hl 0 rfl) ?_
    refine kget hX hP (q0 := 0) rfl rfl inX3 (k := 0) (by decide) rfl wd282 rfl dX3_deskAt_6 ?_
    refine kalen hX hP (t0 := 0) rfl (q0 := 1) rfl (v := (9 : Int32)) rfl dX3_deskAt_9 ?_
    refine lv_icmp_ge (tgt := 22) hx hb dX3_deskAt_10 (by decide) (fun c10 => ?_) (fun c10 => ?_)
    · replace hf := ip c10 hf
      refine lv_iconst (v := 0) hx hb dX3_deskAt_22 (by decide) ?_
      exact hRet _ _ _ _ _ _ _ hf rfl rfl hP hD hS dX3_deskAt_23
    · replace hf := iq c10 hf
      refine lv_aload_n hx hb dX3_deskAt_13 rfl (lv_at hl 0 rfl) ?_
      refine kget hX hP (q0 := 0) rfl rfl inX3 (k := 0) (by decide) rfl wd282 rfl dX3_deskAt_14 ?_
      refine lv_iload_n hx hb dX3_deskAt_17 rfl (lv_at hl 1 rfl) ?_
      refine kiald hX hP rfl (q0 := 1) rfl (vpi (by decide) c1 c10) dX3_deskAt_18 ?_
      refine lv_goto (tgt := 23) hx hb dX3_deskAt_19 (by decide) ?_
      exact hRet _ _ _ _ _ _ _ hf rfl rfl hP hD hS dX3_deskAt_23
def p_X3_bestAt (s_bestSequence : (Nat → Int32)) (x1 : Int32) : (Int32) :=
  if x1 < 0 then ((0 : Int32)) else if (9 : Int32) ≤ x1 then ((0 : Int32)) else ((s_bestSequence x1.toNatClampNeg))
abbrev rm_X3_bestAt : Room := { frames := 0, cells := 0, slots := 0, locals := 0 }
set_option maxHeartbeats 4000000 in
set_option maxRecDepth 100000 in
theorem c_X3_bestAt (l : Launch) (D : va_G) (cI cJ cR : ClassId) (ad_s ad_s_sequence ad_s_bestSequence : Nat) (s_length : Int32) (s_members : Int32) (s_most : Int32) (s_least : Int32) (s_bestSequence : (Nat → Int32)) (x1 : Int32) {o : Int32} (hf : p_X3_bestAt s_bestSequence x1 = o) : kMi l D (kT cI cJ cR) yX3_bestAt cX3_bestAt 2 (some .int) rm_X3_bestAt [.ref ad_s, .int x1] [(ad_s, .inr (3, [.ref ad_s_sequence, .ref ad_s_bestSequence, .int s_length, .int s_members, .int s_most, .int s_least])), (ad_s_bestSequence, .inl (cI, 9, .inl s_bestSequence))] (o) (fun w => w = [(ad_s, .inr (3, [.ref ad_s_sequence, .ref ad_s_bestSequence, .int s_length, .int s_members, .int s_most, .int s_least])), (ad_s_bestSequence, .inl (cI, 9, .inl s_bestSequence))]) := by
  apply kInI (o := o)
  · decide
  · exact Nat.le_of_ble_eq_true rfl
  intro p e s m args below meth c A ls Q hX hRet hP hD hS hl
  have hx := hX.1.1
  have hb := hX.1.2.1
  have hown := hX.1.2.2.2.1
  have hts := hX.1.2.2.2.2
  have hl : lv_has ls 2 [(0, .ref ad_s), (1, .int x1)] := hl
  unfold p_X3_bestAt at hf
  refine lv_iload_n hx hb dX3_bestAt_0 rfl (lv_at hl 1 rfl) ?_
  refine lv_if_lt (tgt := 22) hx hb dX3_bestAt_1 (by decide) (fun c1 => ?_) (fun c1 => ?_)
  · replace hf := ip c1 hf
    refine lv_iconst (v := 0) hx hb dX3_bestAt_22 (by decide) ?_
    exact hRet _ _ _ _ _ _ _ hf rfl rfl hP hD hS dX3_bestAt_23
  · replace hf := iq c1 hf
    refine lv_iload_n hx hb dX3_bestAt_4 rfl (lv_at hl 1 rfl) ?_
    refine lv_aload_n hx hb dX3_bestAt_5 rfl (lv_at hl 0 rfl) ?_
    refine kget hX hP (q0 := 0) rfl rfl inX3 (k := 1) (by decide) rfl wd283 rfl dX3_bestAt_6 ?_
    refine kalen hX hP (t0 := 0) rfl (q0 := 1) rfl (v := (9 : Int32)) rfl dX3_bestAt_9 ?_
    refine lv_icmp_ge (tgt := 22) hx hb dX3_bestAt_10 (by decide) (fun c10 => ?_) (fun c10 => ?_)
    · replace hf := ip c10 hf
      refine lv_iconst (v := 0) hx hb dX3_bestAt_22 (by decide) ?_
      exact hRet _ _ _ _ _ _ _ hf rfl rfl hP hD hS dX3_bestAt_23
    · replace hf := iq c10 hf
      refine lv_aload_n hx hb dX3_bestAt_13 rfl (lv_at hl 0 rfl) ?_
      refine kget hX hP (q0 := 0) rfl rfl inX3 (k := 1) (by decide) rfl wd283 rfl dX3_bestAt_14 ?_
      refine lv_iload_n hx hb dX3_bestAt_17 rfl (lv_at hl 1 rfl) ?_
      refine kiald hX hP rfl (q0 := 1) rfl (vpi (by decide) c1 c10) dX3_bestAt_18 ?_
      refine lv_goto (tgt := 23) hx hb dX3_bestAt_19 (by decide) ?_
      exact hRet _ _ _ _ _ _ _ hf rfl rfl hP hD hS dX3_bestAt_23
def f_X3_markBest_b2 (N : Nat) (s_sequence : (Nat → Int32)) : Nat → (Nat → Int32) → Int32 → Option ((Nat → Int32))
  | 0, _, _ => none
  | n2 + 1, s_bestSequence, x1 => if (9 : Int32) ≤ x1 then some (s_bestSequence) else if (9 : Int32) ≤ x1 then some (s_bestSequence) else gd (inb x1 9 = true) ((f_X3_markBest_b2 N s_sequence n2) (upd s_bestSequence x1.toNatClampNeg (s_sequence x1.toNatClampNeg)) (x1 + (1 : Int32)))
def f_X3_markBest (N : Nat) (s_sequence : (Nat → Int32)) (s_bestSequence : (Nat → Int32)) : Option ((Nat → Int32)) :=
  (f_X3_markBest_b2 N s_sequence N) s_bestSequence (0 : Int32)
abbrev rm_X3_markBest : Room := { frames := 0, cells := 0, slots := 0, locals := 0 }
set_option maxHeartbeats 4000000 in
set_option maxRecDepth 100000 in
theorem c_X3_markBest (l : Launch) (D : va_G) (cI cJ cR : ClassId) (N : Nat) (ad_s ad_s_sequence ad_s_bestSequence : Nat) (s_length : Int32) (s_members : Int32) (s_most : Int32) (s_least : Int32) (s_sequence : (Nat → Int32)) (s_bestSequence : (Nat → Int32)) {o : (Nat → Int32)} (hf : f_X3_markBest N s_sequence s_bestSequence = some o) : kMv l D (kT cI cJ cR) yX3_markBest cX3_markBest 2 none rm_X3_markBest [.ref ad_s] [(ad_s, .inr (3, [.ref ad_s_sequence, .ref ad_s_bestSequence, .int s_length, .int s_members, .int s_most, .int s_least])), (ad_s_sequence, .inl (cI, 9, .inl s_sequence)), (ad_s_bestSequence, .inl (cI, 9, .inl s_bestSequence))] 0 0 (fun w => w = [(ad_s, .inr (3, [.ref ad_s_sequence, .ref ad_s_bestSequence, .int s_length, .int s_members, .int s_most, .int s_least])), (ad_s_sequence, .inl (cI, 9, .inl s_sequence)), (ad_s_bestSequence, .inl (cI, 9, .inl o))]) := by
  apply kInV (o := o)
  · decide
  · exact Nat.le_of_ble_eq_true rfl
  intro p e s m args below meth c A ls Q hX hRet hP hD hS hl
  have hx := hX.1.1
  have hb := hX.1.2.1
  have hown := hX.1.2.2.2.1
  have hts := hX.1.2.2.2.2
  have hl : lv_has ls 2 [(0, .ref ad_s)] := hl
  have hb2 : ∀ n2 : Nat, ∀ (H : Heap) (locs : List Loc) (s_bestSequence : (Nat → Int32)) (x1 : Int32), va_P D vwCl [(ad_s, .inr (3, [.ref ad_s_sequence, .ref ad_s_bestSequence, .int s_length, .int s_members, .int s_most, .int s_least])), (ad_s_sequence, .inl (cI, 9, .inl s_sequence)), (ad_s_bestSequence, .inl (cI, 9, .inl s_bestSequence))] H → va_D A [(ad_s, .inr (3, [.ref ad_s_sequence, .ref ad_s_bestSequence, .int s_length, .int s_members, .int s_most, .int s_least])), (ad_s_sequence, .inl (cI, 9, .inl s_sequence)), (ad_s_bestSequence, .inl (cI, 9, .inl s_bestSequence))] → va_S A s.heap H locs → ∀ ls : Array Slot, lv_has ls 2 [(0, .ref ad_s), (1, .int x1)] → f_X3_markBest_b2 N s_sequence n2 s_bestSequence x1 = some o → W p l e rm_X3_markBest s m args below meth c H locs 0 0 Q (F0 m 2 ls []) := by
    intro n2
    induction n2 with
    | zero =>
      intro H locs s_bestSequence x1 hP hD hS ls hl hf
      rw [f_X3_markBest_b2] at hf
      cases hf
    | succ n2 ih2 =>
      intro H locs s_bestSequence x1 hP hD hS ls hl hf
      rw [f_X3_markBest_b2] at hf
      refine lv_iload_n hx hb dX3_markBest_2 rfl (lv_at hl 1 rfl) ?_
      refine lv_aload_n hx hb dX3_markBest_3 rfl (lv_at hl 0 rfl) ?_
      refine kget hX hP (q0 := 0) rfl rfl inX3 (k := 0) (by decide) rfl wd282 rfl dX3_markBest_4 ?_
      refine kalen hX hP (t0 := 0) rfl (q0 := 1) rfl (v := (9 : Int32)) rfl dX3_markBest_7 ?_
      refine lv_icmp_ge (tgt := 38) hx hb dX3_markBest_8 (by decide) (fun c8 => ?_) (fun c8 => ?_)
      · replace hf := ip c8 hf
        exact hRet _ _ _ _ _ _ (Option.some.inj hf) rfl hP hD hS dX3_markBest_38
      · replace hf := iq c8 hf
        refine lv_iload_n hx hb dX3_markBest_11 rfl (lv_at hl 1 rfl) ?_
        refine lv_aload_n hx hb dX3_markBest_12 rfl (lv_at hl 0 rfl) ?_
        refine kget hX hP (q0 := 0) rfl rfl inX3 (k := 1) (by decide) rfl wd283 rfl dX3_markBest_13 ?_
        refine kalen hX hP (t0 := 0) rfl (q0 := 2) rfl (v := (9 : Int32)) rfl dX3_markBest_16 ?_
        refine lv_icmp_ge (tgt := 38) hx hb dX3_markBest_17 (by decide) (fun c17 => ?_) (fun c17 => ?_)
        · replace hf := ip c17 hf
          exact hRet _ _ _ _ _ _ (Option.some.inj hf) rfl hP hD hS dX3_markBest_38
        · replace hf := iq c17 hf
          refine lv_aload_n hx hb dX3_markBest_20 rfl (lv_at hl 0 rfl) ?_
          refine kget hX hP (q0 := 0) rfl rfl inX3 (k := 1) (by decide) rfl wd283 rfl dX3_markBest_21 ?_
          refine lv_iload_n hx hb dX3_markBest_24 rfl (lv_at hl 1 rfl) ?_
          refine lv_aload_n hx hb dX3_markBest_25 rfl (lv_at hl 0 rfl) ?_
          refine kget hX hP (q0 := 0) rfl rfl inX3 (k := 0) (by decide) rfl wd282 rfl dX3_markBest_26 ?_
          refine lv_iload_n hx hb dX3_markBest_29 rfl (lv_at hl 1 rfl) ?_
          obtain ⟨hg30_1, hf⟩ := gd_s hf
          refine kiald hX hP rfl (q0 := 1) rfl (inb_in hg30_1) dX3_markBest_30 ?_
          refine kiast hX hP hD hS rfl (q0 := 2) rfl (inb_in hg30_1) dX3_markBest_31 (fun H locs hP hD hS => ?_)
          refine lv_iinc (v := (x1 + (1 : Int32))) (lv' := [(1, .int (x1 + (1 : Int32))), (0, .ref ad_s)]) hx hb dX3_markBest_32 hl (k := 1) rfl rfl (by decide) rfl (fun ls hl => ?_)
          refine lv_goto (tgt := 2) hx hb dX3_markBest_35 (by decide) ?_
          exact ih2 _ _ (upd s_bestSequence x1.toNatClampNeg (s_sequence x1.toNatClampNeg)) (x1 + (1 : Int32)) hP hD hS _ (lv_sub hl [1, 0] rfl) hf
  unfold f_X3_markBest at hf
  refine lv_iconst (v := 0) hx hb dX3_markBest_0 (by decide) ?_
  refine lv_istore_n (lv' := [(1, .int (0 : Int32)), (0, .ref ad_s)]) hx hb dX3_markBest_1 rfl hl (by decide) rfl (fun ls hl => ?_)
  exact hb2 N _ _ s_bestSequence (0 : Int32) hP hD hS _ (lv_sub hl [1, 0] rfl) hf
def f_X3_judgeFirst (N : Nat) (s_sequence : (Nat → Int32)) (s_most : Int32) (s_least : Int32) (s_bestSequence : (Nat → Int32)) (x1 : Int32) : Option (Int32 × Int32 × (Nat → Int32)) :=
  bn (f_X3_markBest N s_sequence s_bestSequence) (fun z11_1 => some (x1, x1, z11_1))
abbrev rm_X3_judgeFirst : Room := { frames := 1, cells := 0, slots := 0, locals := 21 }
set_option maxHeartbeats 4000000 in
set_option maxRecDepth 100000 in
theorem c_X3_judgeFirst (l : Launch) (D : va_G) (cI cJ cR : ClassId) (N : Nat) (ad_s ad_s_sequence ad_s_bestSequence : Nat) (s_length : Int32) (s_members : Int32) (s_most : Int32) (s_least : Int32) (s_sequence : (Nat → Int32)) (s_bestSequence : (Nat → Int32)) (x1 : Int32) {o : Int32 × Int32 × (Nat → Int32)} (hf : f_X3_judgeFirst N s_sequence s_most s_least s_bestSequence x1 = some o) : kMv l D (kT cI cJ cR) yX3_judgeFirst cX3_judgeFirst 2 none rm_X3_judgeFirst [.ref ad_s, .int x1] [(ad_s, .inr (3, [.ref ad_s_sequence, .ref ad_s_bestSequence, .int s_length, .int s_members, .int s_most, .int s_least])), (ad_s_sequence, .inl (cI, 9, .inl s_sequence)), (ad_s_bestSequence, .inl (cI, 9, .inl s_bestSequence))] 0 0 (fun w => w = [(ad_s, .inr (3, [.ref ad_s_sequence, .ref ad_s_bestSequence, .int s_length, .int s_members, .int o.1, .int o.2.1])), (ad_s_sequence, .inl (cI, 9, .inl s_sequence)), (ad_s_bestSequence, .inl (cI, 9, .inl o.2.2))]) := by
  apply kInV (o := o)
  · decide
  · exact Nat.le_of_ble_eq_true rfl
  intro p e s m args below meth c A ls Q hX hRet hP hD hS hl
  have hx := hX.1.1
  have hb := hX.1.2.1
  have hown := hX.1.2.2.2.1
  have hts := hX.1.2.2.2.2
  have hl : lv_has ls 2 [(0, .ref ad_s), (1, .int x1)] := hl
  unfold f_X3_judgeFirst at hf
  refine lv_aload_n hx hb dX3_judgeFirst_0 rfl (lv_at hl 0 rfl) ?_
  refine lv_iload_n hx hb dX3_judgeFirst_1 rfl (lv_at hl 1 rfl) ?_
  refine kput hX hP hD hS (q0 := 0) rfl rfl inX3 tyX3_ok nmX3 (k := 5) (by decide) rfl wd289 rfl rfl (Nat.le_of_ble_eq_true rfl) dX3_judgeFirst_2 (fun H locs hP hD hS => ?_)
  refine lv_aload_n hx hb dX3_judgeFirst_5 rfl (lv_at hl 0 rfl) ?_
  refine lv_iload_n hx hb dX3_judgeFirst_6 rfl (lv_at hl 1 rfl) ?_
  refine kput hX hP hD hS (q0 := 0) rfl rfl inX3 tyX3_ok nmX3 (k := 4) (by decide) rfl wd287 rfl rfl (Nat.le_of_ble_eq_true rfl) dX3_judgeFirst_7 (fun H locs hP hD hS => ?_)
  refine lv_aload_n hx hb dX3_judgeFirst_10 rfl (lv_at hl 0 rfl) ?_
  obtain ⟨z11_1, hz11_1, hf⟩ := bn_s hf
  refine kVv (rest := []) hX (c_X3_markBest l D cI cJ cR N ad_s ad_s_sequence ad_s_bestSequence s_length s_members x1 x1 s_sequence s_bestSequence hz11_1) kc_X3_markBest wd762 ⟨Nat.le_of_ble_eq_true rfl, Nat.le_of_ble_eq_true rfl⟩ ⟨rfl, rfl⟩ hP hD hS (ci := 3) rfl rfl (q0 := 0) rfl [0, 1, 2] rfl (by decide) (fun w h => by cases h; rfl) rfl rfl (Nat.le_of_ble_eq_true rfl) hl.1 ⟨Nat.zero_le _, Nat.zero_le _⟩ dX3_judgeFirst_11 (fun H locs w1 hw1 hP hD hS => ?_)
  cases hw1
  have hP : va_P D vwCl [(ad_s, .inr (3, [.ref ad_s_sequence, .ref ad_s_bestSequence, .int s_length, .int s_members, .int x1, .int x1])), (ad_s_sequence, .inl (cI, 9, .inl s_sequence)), (ad_s_bestSequence, .inl (cI, 9, .inl z11_1))] H := hP
  have hD : va_D A [(ad_s, .inr (3, [.ref ad_s_sequence, .ref ad_s_bestSequence, .int s_length, .int s_members, .int x1, .int x1])), (ad_s_sequence, .inl (cI, 9, .inl s_sequence)), (ad_s_bestSequence, .inl (cI, 9, .inl z11_1))] := hD
  exact hRet _ _ _ _ _ _ (Option.some.inj hf) rfl hP hD hS dX3_judgeFirst_14
def f_X3_judge (N : Nat) (s_sequence : (Nat → Int32)) (s_most : Int32) (s_least : Int32) (s_bestSequence : (Nat → Int32)) (x1 : Int32) : Option (Int32 × Int32 × (Nat → Int32)) :=
  if x1 ≤ s_most then some (s_most, (if x1 < s_least then x1 else s_least), s_bestSequence) else bn (f_X3_markBest N s_sequence s_bestSequence) (fun z26_1 => some (x1, (if x1 < s_least then x1 else s_least), z26_1))
abbrev rm_X3_judge : Room := { frames := 1, cells := 0, slots := 0, locals := 40 }
set_option maxHeartbeats 4000000 in
set_option maxRecDepth 100000 in
theorem c_X3_judge (l : Launch) (D : va_G) (cI cJ cR : ClassId) (N : Nat) (ad_s ad_s_sequence ad_s_bestSequence : Nat) (s_length : Int32) (s_members : Int32) (s_most : Int32) (s_least : Int32) (s_sequence : (Nat → Int32)) (s_bestSequence : (Nat → Int32)) (x1 : Int32) {o : Int32 × Int32 × (Nat → Int32)} (hf : f_X3_judge N s_sequence s_most s_least s_bestSequence x1 = some o) : kMv l D (kT cI cJ cR) yX3_judge cX3_judge 2 none rm_X3_judge [.ref ad_s, .int x1] [(ad_s, .inr (3, [.ref ad_s_sequence, .ref ad_s_bestSequence, .int s_length, .int s_members, .int s_most, .int s_least])), (ad_s_sequence, .inl (cI, 9, .inl s_sequence)), (ad_s_bestSequence, .inl (cI, 9, .inl s_bestSequence))] 0 0 (fun w => w = [(ad_s, .inr (3, [.ref ad_s_sequence, .ref ad_s_bestSequence, .int s_length, .int s_members, .int o.1, .int o.2.1])), (ad_s_sequence, .inl (cI, 9, .inl s_sequence)), (ad_s_bestSequence, .inl (cI, 9, .inl o.2.2))]) := by
  apply kInV (o := o)
  · decide
  · exact Nat.le_of_ble_eq_true rfl
  intro p e s m args below meth c A ls Q hX hRet hP hD hS hl
  have hx := hX.1.1
  have hb := hX.1.2.1
  have hown := hX.1.2.2.2.1
  have hts := hX.1.2.2.2.2
  have hl : lv_has ls 2 [(0, .ref ad_s), (1, .int x1)] := hl
  unfold f_X3_judge at hf
  refine lv_aload_n hx hb dX3_judge_0 rfl (lv_at hl 0 rfl) ?_
  refine lv_aload_n hx hb dX3_judge_1 rfl (lv_at hl 0 rfl) ?_
  refine kget hX hP (q0 := 0) rfl rfl inX3 (k := 5) (by decide) rfl wd289 rfl dX3_judge_2 ?_
  refine lv_iload_n hx hb dX3_judge_5 rfl (lv_at hl 1 rfl) ?_
  refine va_mmin hx hb (hX.1.2.2.1.trans hl.1.symm) hown (hts _ (List.mem_cons_of_mem _ wd779)) (hts _ (List.mem_cons_of_mem _ wd780)) (hts _ (List.mem_cons_of_mem _ wd20)) (hts _ (List.mem_cons_of_mem _ wd781)) (Nat.le_of_ble_eq_true rfl) (Nat.le_of_ble_eq_true rfl) (Nat.le_of_ble_eq_true rfl) (Nat.le_of_ble_eq_true rfl) dX3_judge_6 ?_
  refine kput hX hP hD hS (q0 := 0) rfl rfl inX3 tyX3_ok nmX3 (k := 5) (by decide) rfl wd289 rfl rfl (Nat.le_of_ble_eq_true rfl) dX3_judge_9 (fun H locs hP hD hS => ?_)
  refine lv_iload_n hx hb dX3_judge_12 rfl (lv_at hl 1 rfl) ?_
  refine lv_aload_n hx hb dX3_judge_13 rfl (lv_at hl 0 rfl) ?_
  refine kget hX hP (q0 := 0) rfl rfl inX3 (k := 4) (by decide) rfl wd287 rfl dX3_judge_14 ?_
  refine lv_icmp_le (tgt := 29) hx hb dX3_judge_17 (by decide) (fun c17 => ?_) (fun c17 => ?_)
  · replace hf := ip c17 hf
    exact hRet _ _ _ _ _ _ (Option.some.inj hf) rfl hP hD hS dX3_judge_29
  · replace hf := iq c17 hf
    refine lv_aload_n hx hb dX3_judge_20 rfl (lv_at hl 0 rfl) ?_
    refine lv_iload_n hx hb dX3_judge_21 rfl (lv_at hl 1 rfl) ?_
    refine kput hX hP hD hS (q0 := 0) rfl rfl inX3 tyX3_ok nmX3 (k := 4) (by decide) rfl wd287 rfl rfl (Nat.le_of_ble_eq_true rfl) dX3_judge_22 (fun H locs hP hD hS => ?_)
    refine lv_aload_n hx hb dX3_judge_25 rfl (lv_at hl 0 rfl) ?_
    obtain ⟨z26_1, hz26_1, hf⟩ := bn_s hf
    refine kVv (rest := []) hX (c_X3_markBest l D cI cJ cR N ad_s ad_s_sequence ad_s_bestSequence s_length s_members x1 (if x1 < s_least then x1 else s_least) s_sequence s_bestSequence hz26_1) kc_X3_markBest wd762 ⟨Nat.le_of_ble_eq_true rfl, Nat.le_of_ble_eq_true rfl⟩ ⟨rfl, rfl⟩ hP hD hS (ci := 3) rfl rfl (q0 := 0) rfl [0, 1, 2] rfl (by decide) (fun w h => by cases h; rfl) rfl rfl (Nat.le_of_ble_eq_true rfl) hl.1 ⟨Nat.zero_le _, Nat.zero_le _⟩ dX3_judge_26 (fun H locs w1 hw1 hP hD hS => ?_)
    cases hw1
    have hP : va_P D vwCl [(ad_s, .inr (3, [.ref ad_s_sequence, .ref ad_s_bestSequence, .int s_length, .int s_members, .int x1, .int (if x1 < s_least then x1 else s_least)])), (ad_s_sequence, .inl (cI, 9, .inl s_sequence)), (ad_s_bestSequence, .inl (cI, 9, .inl z26_1))] H := hP
    have hD : va_D A [(ad_s, .inr (3, [.ref ad_s_sequence, .ref ad_s_bestSequence, .int s_length, .int s_members, .int x1, .int (if x1 < s_least then x1 else s_least)])), (ad_s_sequence, .inl (cI, 9, .inl s_sequence)), (ad_s_bestSequence, .inl (cI, 9, .inl z26_1))] := hD
    exact hRet _ _ _ _ _ _ (Option.some.inj hf) rfl hP hD hS dX3_judge_29
def p_X3_swap (s_sequence : (Nat → Int32)) (x1 : Int32) (x2 : Int32) : ((Nat → Int32)) :=
  if x1 < 0 then (s_sequence) else if (9 : Int32) ≤ x1 then (s_sequence) else if x2 < 0 then (s_sequence) else if (9 : Int32) ≤ x2 then (s_sequence) else nm (s_sequence x1.toNatClampNeg) (fun v32 => ((upd (upd s_sequence x1.toNatClampNeg (s_sequence x2.toNatClampNeg)) x2.toNatClampNeg v32)))
abbrev rm_X3_swap : Room := { frames := 0, cells := 0, slots := 0, locals := 0 }
set_option maxHeartbeats 4000000 in
set_option maxRecDepth 100000 in
theorem c_X3_swap (l : Launch) (D : va_G) (cI cJ cR : ClassId) (ad_s ad_s_sequence ad_s_bestSequence : Nat) (s_length : Int32) (s_members : Int32) (s_most : Int32) (s_least : Int32) (s_sequence : (Nat → Int32)) (x1 : Int32) (x2 : Int32) {o : (Nat → Int32)} (hf : p_X3_swap s_sequence x1 x2 = o) : kMv l D (kT cI cJ cR) yX3_swap cX3_swap 4 none rm_X3_swap [.ref ad_s, .int x1, .int x2] [(ad_s, .inr (3, [.ref ad_s_sequence, .ref ad_s_bestSequence, .int s_length, .int s_members, .int s_most, .int s_least])), (ad_s_sequence, .inl (cI, 9, .inl s_sequence))] 0 0 (fun w => w = [(ad_s, .inr (3, [.ref ad_s_sequence, .ref ad_s_bestSequence, .int s_length, .int s_members, .int s_most, .int s_least])), (ad_s_sequence, .inl (cI, 9, .inl o))]) := by
  apply kInV (o := o)
  · decide
  · exact Nat.le_of_ble_eq_true rfl
  intro p e s m args below meth c A ls Q hX hRet hP hD hS hl
  have hx := hX.1.1
  have hb := hX.1.2.1
  have hown := hX.1.2.2.2.1
  have hts := hX.1.2.2.2.2
  have hl : lv_has ls 4 [(0, .ref ad_s), (1, .int x1), (2, .int x2)] := hl
  unfold p_X3_swap at hf
  refine lv_iload_n hx hb dX3_swap_0 rfl (lv_at hl 1 rfl) ?_
  refine lv_if_lt (tgt := 52) hx hb dX3_swap_1 (by decide) (fun c1 => ?_) (fun c1 => ?_)
  · replace hf := ip c1 hf
    exact hRet _ _ _ _ _ _ hf rfl hP hD hS dX3_swap_52
  · replace hf := iq c1 hf
    refine lv_iload_n hx hb dX3_swap_4 rfl (lv_at hl 1 rfl) ?_
    refine lv_aload_n hx hb dX3_swap_5 rfl (lv_at hl 0 rfl) ?_
    refine kget hX hP (q0 := 0) rfl rfl inX3 (k := 0) (by decide) rfl wd282 rfl dX3_swap_6 ?_
    refine kalen hX hP (t0 := 0) rfl (q0 := 1) rfl (v := (9 : Int32)) rfl dX3_swap_9 ?_
    refine lv_icmp_ge (tgt := 52) hx hb dX3_swap_10 (by decide) (fun c10 => ?_) (fun c10 => ?_)
    · replace hf := ip c10 hf
      exact hRet _ _ _ _ _ _ hf rfl hP hD hS dX3_swap_52
    · replace hf := iq c10 hf
      refine lv_iload_n hx hb dX3_swap_13 rfl (lv_at hl 2 rfl) ?_
      refine lv_if_lt (tgt := 52) hx hb dX3_swap_14 (by decide) (fun c14 => ?_) (fun c14 => ?_)
      · replace hf := ip c14 hf
        exact hRet _ _ _ _ _ _ hf rfl hP hD hS dX3_swap_52
      · replace hf := iq c14 hf
        refine lv_iload_n hx hb dX3_swap_17 rfl (lv_at hl 2 rfl) ?_
        refine lv_aload_n hx hb dX3_swap_18 rfl (lv_at hl 0 rfl) ?_
        refine kget hX hP (q0 := 0) rfl rfl inX3 (k := 0) (by decide) rfl wd282 rfl dX3_swap_19 ?_
        refine kalen hX hP (t0 := 0) rfl (q0 := 1) rfl (v := (9 : Int32)) rfl dX3_swap_22 ?_
        refine lv_icmp_ge (tgt := 52) hx hb dX3_swap_23 (by decide) (fun c23 => ?_) (fun c23 => ?_)
        · replace hf := ip c23 hf
          exact hRet _ _ _ _ _ _ hf rfl hP hD hS dX3_swap_52
        · replace hf := iq c23 hf
          refine lv_aload_n hx hb dX3_swap_26 rfl (lv_at hl 0 rfl) ?_
          refine kget hX hP (q0 := 0) rfl rfl inX3 (k := 0) (by decide) rfl wd282 rfl dX3_swap_27 ?_
          refine lv_iload_n hx hb dX3_swap_30 rfl (lv_at hl 1 rfl) ?_
          refine kiald hX hP rfl (q0 := 1) rfl (vpi (by decide) c1 c10) dX3_swap_31 ?_
          refine lv_topi (fun v32 ev32 => ?_)
          replace hf := nm_s ev32 hf
          refine lv_istore_n (lv' := [(3, .int v32), (0, .ref ad_s), (1, .int x1), (2, .int x2)]) hx hb dX3_swap_32 rfl hl (by decide) rfl (fun ls hl => ?_)
          refine lv_aload_n hx hb dX3_swap_33 rfl (lv_at hl 1 rfl) ?_
          refine kget hX hP (q0 := 0) rfl rfl inX3 (k := 0) (by decide) rfl wd282 rfl dX3_swap_34 ?_
          refine lv_iload_n hx hb dX3_swap_37 rfl (lv_at hl 2 rfl) ?_
          refine lv_aload_n hx hb dX3_swap_38 rfl (lv_at hl 1 rfl) ?_
          refine kget hX hP (q0 := 0) rfl rfl inX3 (k := 0) (by decide) rfl wd282 rfl dX3_swap_39 ?_
          refine lv_iload_n hx hb dX3_swap_42 rfl (lv_at hl 3 rfl) ?_
          refine kiald hX hP rfl (q0 := 1) rfl (vpi (by decide) c14 c23) dX3_swap_43 ?_
          refine kiast hX hP hD hS rfl (q0 := 1) rfl (vpi (by decide) c1 c10) dX3_swap_44 (fun H locs hP hD hS => ?_)
          refine lv_aload_n hx hb dX3_swap_45 rfl (lv_at hl 1 rfl) ?_
          refine kget hX hP (q0 := 0) rfl rfl inX3 (k := 0) (by decide) rfl wd282 rfl dX3_swap_46 ?_
          refine lv_iload_n hx hb dX3_swap_49 rfl (lv_at hl 3 rfl) ?_
          refine lv_iload_n hx hb dX3_swap_50 rfl (lv_at hl 0 rfl) ?_
          refine kiast hX hP hD hS rfl (q0 := 1) rfl (vpi (by decide) c14 c23) dX3_swap_51 (fun H locs hP hD hS => ?_)
          exact hRet _ _ _ _ _ _ hf rfl hP hD hS dX3_swap_52
def f_X3_turn_b87 (N : Nat) (s_length : Int32) : Nat → (Nat → Int32) → Int32 → Int32 → Option (Int32 × (Nat → Int32))
  | 0, _, _, _ => none
  | n87 + 1, s_sequence, x3, x4 => if x4 ≤ x3 then some ((1 : Int32), s_sequence) else nm (p_X3_swap s_sequence x3 x4) (fun z97_1 => (f_X3_turn_b87 N s_length n87) z97_1 (x3 + (1 : Int32)) (x4 + (-1 : Int32)))
def f_X3_turn_b69 (N : Nat) (s_length : Int32) (s_sequence : (Nat → Int32)) (x1 : Int32) (x2 : Int32) : Option (Int32 × (Nat → Int32)) :=
  nm (p_X3_swap s_sequence x1 x2) (fun z72_1 => (f_X3_turn_b87 N s_length N) z72_1 (x1 + (1 : Int32)) (s_length - (1 : Int32)))
def f_X3_turn_b45 (N : Nat) (k69 : (Nat → Int32) → Int32 → Int32 → Option (Int32 × (Nat → Int32))) (s_length : Int32) : Nat → (Nat → Int32) → Int32 → Int32 → Option (Int32 × (Nat → Int32))
  | 0, _, _, _ => none
  | n45 + 1, s_sequence, x1, x2 => if x2 ≤ x1 then k69 s_sequence x1 x2 else if (p_X3_deskAt s_sequence x1) ≤ (p_X3_deskAt s_sequence x2) then k69 s_sequence x1 x2 else (f_X3_turn_b45 N k69 s_length n45) s_sequence x1 (x2 + (-1 : Int32))
def f_X3_turn_b32 (N : Nat) (s_length : Int32) (s_sequence : (Nat → Int32)) (x1 : Int32) : Option (Int32 × (Nat → Int32)) :=
  if 0 ≤ x1 then (f_X3_turn_b45 N (f_X3_turn_b69 N s_length) s_length N) s_sequence x1 (s_length - (1 : Int32)) else some ((0 : Int32), s_sequence)
def f_X3_turn_b7 (N : Nat) (k32 : (Nat → Int32) → Int32 → Option (Int32 × (Nat → Int32))) (s_length : Int32) : Nat → (Nat → Int32) → Int32 → Option (Int32 × (Nat → Int32))
  | 0, _, _ => none
  | n7 + 1, s_sequence, x1 => if x1 < 0 then k32 s_sequence x1 else if (p_X3_deskAt s_sequence x1) ≤ (p_X3_deskAt s_sequence (x1 + (1 : Int32))) then k32 s_sequence x1 else (f_X3_turn_b7 N k32 s_length n7) s_sequence (x1 + (-1 : Int32))
def f_X3_turn (N : Nat) (s_length : Int32) (s_sequence : (Nat → Int32)) : Option (Int32 × (Nat → Int32)) :=
  (f_X3_turn_b7 N (f_X3_turn_b32 N s_length) s_length N) s_sequence (s_length - (2 : Int32))
abbrev rm_X3_turn : Room := { frames := 1, cells := 0, slots := 0, locals := 23 }
set_option maxHeartbeats 4000000 in
set_option maxRecDepth 100000 in
theorem c_X3_turn (l : Launch) (D : va_G) (cI cJ cR : ClassId) (N : Nat) (ad_s ad_s_sequence ad_s_bestSequence : Nat) (s_length : Int32) (s_members : Int32) (s_most : Int32) (s_least : Int32) (s_sequence : (Nat → Int32)) {o : Int32 × (Nat → Int32)} (hf : f_X3_turn N s_length s_sequence = some o) : kMi l D (kT cI cJ cR) yX3_turn cX3_turn 5 (some .boolean) rm_X3_turn [.ref ad_s] [(ad_s, .inr (3, [.ref ad_s_sequence, .ref ad_s_bestSequence, .int s_length, .int s_members, .int s_most, .int s_least])), (ad_s_sequence, .inl (cI, 9, .inl s_sequence))] (o.1) (fun w => w = [(ad_s, .inr (3, [.ref ad_s_sequence, .ref ad_s_bestSequence, .int s_length, .int s_members, .int s_most, .int s_least])), (ad_s_sequence, .inl (cI, 9, .inl o.2))]) := by
  apply kInZ (o := o)
  · decide
  · exact Nat.le_of_ble_eq_true rfl
  intro p e s m args below meth c A ls Q hX hRet hP hD hS hl
  have hx := hX.1.1
  have hb := hX.1.2.1
  have hown := hX.1.2.2.2.1
  have hts := hX.1.2.2.2.2
  have hl : lv_has ls 5 [(0, .ref ad_s)] := hl
  have hb87 : ∀ n87 : Nat, ∀ (H : Heap) (locs : List Loc) (s_sequence : (Nat → Int32)) (x3 : Int32) (x4 : Int32), va_P D vwCl [(ad_s, .inr (3, [.ref ad_s_sequence, .ref ad_s_bestSequence, .int s_length, .int s_members, .int s_most, .int s_least])), (ad_s_sequence, .inl (cI, 9, .inl s_sequence))] H → va_D A [(ad_s, .inr (3, [.ref ad_s_sequence, .ref ad_s_bestSequence, .int s_length, .int s_members, .int s_most, .int s_least])), (ad_s_sequence, .inl (cI, 9, .inl s_sequence))] → va_S A s.heap H locs → ∀ ls : Array Slot, lv_has ls 5 [(0, .ref ad_s), (3, .int x3), (4, .int x4)] → f_X3_turn_b87 N s_length n87 s_sequence x3 x4 = some o → W p l e rm_X3_turn s m args below meth c H locs 0 0 Q (F0 m 87 ls []) := by
    intro n87
    induction n87 with
    | zero =>
      intro H locs s_sequence x3 x4 hP hD hS ls hl hf
      rw [f_X3_turn_b87] at hf
      cases hf
    | succ n87 ih87 =>
      intro H locs s_sequence x3 x4 hP hD hS ls hl hf
      rw [f_X3_turn_b87] at hf
      refine lv_iload_n hx hb dX3_turn_87 rfl (lv_at hl 1 rfl) ?_
      refine lv_iload hx hb dX3_turn_88 (lv_at hl 2 rfl) ?_
      refine lv_icmp_ge (tgt := 109) hx hb dX3_turn_90 (by decide) (fun c90 => ?_) (fun c90 => ?_)
      · replace hf := ip c90 hf
        refine lv_iconst (v := 1) hx hb dX3_turn_109 (by decide) ?_
        exact hRet _ _ _ _ _ _ _ (Option.some.inj hf) rfl rfl rfl hP hD hS dX3_turn_110
      · replace hf := iq c90 hf
        refine lv_aload_n hx hb dX3_turn_93 rfl (lv_at hl 0 rfl) ?_
        refine lv_iload_n hx hb dX3_turn_94 rfl (lv_at hl 1 rfl) ?_
        refine lv_iload hx hb dX3_turn_95 (lv_at hl 2 rfl) ?_
        obtain ⟨z97_1, hz97_1⟩ : ∃ z, z = p_X3_swap s_sequence x3 x4 := ⟨_, rfl⟩
        replace hf := nm_s hz97_1 hf
        refine kVv (rest := []) hX (c_X3_swap l D cI cJ cR ad_s ad_s_sequence ad_s_bestSequence s_length s_members s_most s_least s_sequence x3 x4 hz97_1.symm) kc_X3_swap wd771 ⟨Nat.le_of_ble_eq_true rfl, Nat.le_of_ble_eq_true rfl⟩ ⟨rfl, rfl⟩ hP hD hS (ci := 3) rfl rfl (q0 := 0) rfl [0, 1] rfl (by decide) (fun w h => by cases h; rfl) rfl rfl (Nat.le_of_ble_eq_true rfl) hl.1 ⟨Nat.zero_le _, Nat.zero_le _⟩ dX3_turn_97 (fun H locs w1 hw1 hP hD hS => ?_)
        cases hw1
        have hP : va_P D vwCl [(ad_s, .inr (3, [.ref ad_s_sequence, .ref ad_s_bestSequence, .int s_length, .int s_members, .int s_most, .int s_least])), (ad_s_sequence, .inl (cI, 9, .inl z97_1))] H := hP
        have hD : va_D A [(ad_s, .inr (3, [.ref ad_s_sequence, .ref ad_s_bestSequence, .int s_length, .int s_members, .int s_most, .int s_least])), (ad_s_sequence, .inl (cI, 9, .inl z97_1))] := hD
        refine lv_iinc (v := (x3 + (1 : Int32))) (lv' := [(3, .int (x3 + (1 : Int32))), (0, .ref ad_s), (4, .int x4)]) hx hb dX3_turn_100 hl (k := 1) rfl rfl (by decide) rfl (fun ls hl => ?_)
        refine lv_iinc (v := (x4 + (-1 : Int32))) (lv' := [(4, .int (x4 + (-1 : Int32))), (3, .int (x3 + (1 : Int32))), (0, .ref ad_s)]) hx hb dX3_turn_103 hl (k := 2) rfl rfl (by decide) rfl (fun ls hl => ?_)
        refine lv_goto (tgt := 87) hx hb dX3_turn_106 (by decide) ?_
        exact ih87 _ _ z97_1 (x3 + (1 : Int32)) (x4 + (-1 : Int32)) hP hD hS _ (lv_sub hl [2, 1, 0] rfl) hf
  have hb69 : ∀ (H : Heap) (locs : List Loc) (s_sequence : (Nat → Int32)) (x1 : Int32) (x2 : Int32), va_P D vwCl [(ad_s, .inr (3, [.ref ad_s_sequence, .ref ad_s_bestSequence, .int s_length, .int s_members, .int s_most, .int s_least])), (ad_s_sequence, .inl (cI, 9, .inl s_sequence))] H → va_D A [(ad_s, .inr (3, [.ref ad_s_sequence, .ref ad_s_bestSequence, .int s_length, .int s_members, .int s_most, .int s_least])), (ad_s_sequence, .inl (cI, 9, .inl s_sequence))] → va_S A s.heap H locs → ∀ ls : Array Slot, lv_has ls 5 [(0, .ref ad_s), (1, .int x1), (2, .int x2)] → (f_X3_turn_b69 N s_length) s_sequence x1 x2 = some o → W p l e rm_X3_turn s m args below meth c H locs 0 0 Q (F0 m 69 ls []) := by
    intro H locs s_sequence x1 x2 hP hD hS ls hl hf
    unfold f_X3_turn_b69 at hf
    refine lv_aload_n hx hb dX3_turn_69 rfl (lv_at hl 0 rfl) ?_
    refine lv_iload_n hx hb dX3_turn_70 rfl (lv_at hl 1 rfl) ?_
    refine lv_iload_n hx hb dX3_turn_71 rfl (lv_at hl 2 rfl) ?_
    obtain ⟨z72_1, hz72_1⟩ : ∃ z, z = p_X3_swap s_sequence x1 x2 := ⟨_, rfl⟩
    replace hf := nm_s hz72_1 hf
    refine kVv (rest := []) hX (c_X3_swap l D cI cJ cR ad_s ad_s_sequence ad_s_bestSequence s_length s_members s_most s_least s_sequence x1 x2 hz72_1.symm) kc_X3_swap wd771 ⟨Nat.le_of_ble_eq_true rfl, Nat.le_of_ble_eq_true rfl⟩ ⟨rfl, rfl⟩ hP hD hS (ci := 3) rfl rfl (q0 := 0) rfl [0, 1] rfl (by decide) (fun w h => by cases h; rfl) rfl rfl (Nat.le_of_ble_eq_true rfl) hl.1 ⟨Nat.zero_le _, Nat.zero_le _⟩ dX3_turn_72 (fun H locs w1 hw1 hP hD hS => ?_)
    cases hw1
    have hP : va_P D vwCl [(ad_s, .inr (3, [.ref ad_s_sequence, .ref ad_s_bestSequence, .int s_length, .int s_members, .int s_most, .int s_least])), (ad_s_sequence, .inl (cI, 9, .inl z72_1))] H := hP
    have hD : va_D A [(ad_s, .inr (3, [.ref ad_s_sequence, .ref ad_s_bestSequence, .int s_length, .int s_members, .int s_most, .int s_least])), (ad_s_sequence, .inl (cI, 9, .inl z72_1))] := hD
    refine lv_iload_n hx hb dX3_turn_75 rfl (lv_at hl 1 rfl) ?_
    refine lv_iconst (v := 1) hx hb dX3_turn_76 (by decide) ?_
    refine lv_iadd hx hb dX3_turn_77 ?_
    refine lv_istore_n (lv' := [(3, .int (x1 + (1 : Int32))), (0, .ref ad_s), (1, .int x1), (2, .int x2)]) hx hb dX3_turn_78 rfl hl (by decide) rfl (fun ls hl => ?_)
    refine lv_aload_n hx hb dX3_turn_79 rfl (lv_at hl 1 rfl) ?_
    refine kget hX hP (q0 := 0) rfl rfl inX3 (k := 2) (by decide) rfl wd284 rfl dX3_turn_80 ?_
    refine lv_iconst (v := 1) hx hb dX3_turn_83 (by decide) ?_
    refine lv_isub hx hb dX3_turn_84 ?_
    refine lv_istore (lv' := [(4, .int (s_length - (1 : Int32))), (3, .int (x1 + (1 : Int32))), (0, .ref ad_s), (1, .int x1), (2, .int x2)]) hx hb dX3_turn_85 hl (by decide) rfl (fun ls hl => ?_)
    exact hb87 N _ _ z72_1 (x1 + (1 : Int32)) (s_length - (1 : Int32)) hP hD hS _ (lv_sub hl [2, 1, 0] rfl) hf
  have hb45 : ∀ n45 : Nat, ∀ (H : Heap) (locs : List Loc) (s_sequence : (Nat → Int32)) (x1 : Int32) (x2 : Int32), va_P D vwCl [(ad_s, .inr (3, [.ref ad_s_sequence, .ref ad_s_bestSequence, .int s_length, .int s_members, .int s_most, .int s_least])), (ad_s_sequence, .inl (cI, 9, .inl s_sequence))] H → va_D A [(ad_s, .inr (3, [.ref ad_s_sequence, .ref ad_s_bestSequence, .int s_length, .int s_members, .int s_most, .int s_least])), (ad_s_sequence, .inl (cI, 9, .inl s_sequence))] → va_S A s.heap H locs → ∀ ls : Array Slot, lv_has ls 5 [(0, .ref ad_s), (1, .int x1), (2, .int x2)] → f_X3_turn_b45 N (f_X3_turn_b69 N s_length) s_length n45 s_sequence x1 x2 = some o → W p l e rm_X3_turn s m args below meth c H locs 0 0 Q (F0 m 45 ls []) := by
    intro n45
    induction n45 with
    | zero =>
      intro H locs s_sequence x1 x2 hP hD hS ls hl hf
      rw [f_X3_turn_b45] at hf
      cases hf
    | succ n45 ih45 =>
      intro H locs s_sequence x1 x2 hP hD hS ls hl hf
      rw [f_X3_turn_b45] at hf
      refine lv_iload_n hx hb dX3_turn_45 rfl (lv_at hl 2 rfl) ?_
      refine lv_iload_n hx hb dX3_turn_46 rfl (lv_at hl 1 rfl) ?_
      refine lv_icmp_le (tgt := 69) hx hb dX3_turn_47 (by decide) (fun c47 => ?_) (fun c47 => ?_)
      · replace hf := ip c47 hf
        exact hb69 _ _ s_sequence x1 x2 hP hD hS _ (lv_sub hl [0, 1, 2] rfl) hf
      · replace hf := iq c47 hf
        refine lv_aload_n hx hb dX3_turn_50 rfl (lv_at hl 0 rfl) ?_
        refine lv_iload_n hx hb dX3_turn_51 rfl (lv_at hl 2 rfl) ?_
        refine kVi (rest := []) hX (c_X3_deskAt l D cI cJ cR ad_s ad_s_sequence ad_s_bestSequence s_length s_members s_most s_least s_sequence x2 rfl) kc_X3_deskAt wd770 ⟨Nat.le_of_ble_eq_true rfl, Nat.le_of_ble_eq_true rfl⟩ ⟨rfl, rfl⟩ hP hD hS (ci := 3) rfl rfl (q0 := 0) rfl [0, 1] rfl (by decide) (fun w h => by cases h; rfl) rfl rfl (Nat.le_of_ble_eq_true rfl) hl.1 ⟨Nat.zero_le _, Nat.zero_le _⟩ dX3_turn_52 (fun H locs w1 hw1 hP hD hS => ?_)
        cases hw1
        have hP : va_P D vwCl [(ad_s, .inr (3, [.ref ad_s_sequence, .ref ad_s_bestSequence, .int s_length, .int s_members, .int s_most, .int s_least])), (ad_s_sequence, .inl (cI, 9, .inl s_sequence))] H := hP
        have hD : va_D A [(ad_s, .inr (3, [.ref ad_s_sequence, .ref ad_s_bestSequence, .int s_length, .int s_members, .int s_most, .int s_least])), (ad_s_sequence, .inl (cI, 9, .inl s_sequence))] := hD
        refine lv_aload_n hx hb dX3_turn_55 rfl (lv_at hl 0 rfl) ?_
        refine lv_iload_n hx hb dX3_turn_56 rfl (lv_at hl 1 rfl) ?_
        refine kVi (rest := [.int (p_X3_deskAt s_sequence x2)]) hX (c_X3_deskAt l D cI cJ cR ad_s ad_s_sequence ad_s_bestSequence s_length s_members s_most s_least s_sequence x1 rfl) kc_X3_deskAt wd770 ⟨Nat.le_of_ble_eq_true rfl, Nat.le_of_ble_eq_true rfl⟩ ⟨rfl, rfl⟩ hP hD hS (ci := 3) rfl rfl (q0 := 0) rfl [0, 1] rfl (by decide) (fun w h => by cases h; rfl) rfl rfl (Nat.le_of_ble_eq_true rfl) hl.1 ⟨Nat.zero_le _, Nat.zero_le _⟩ dX3_turn_57 (fun H locs w1 hw1 hP hD hS => ?_)
        cases hw1
        have hP : va_P D vwCl [(ad_s, .inr (3, [.ref ad_s_sequence, .ref ad_s_bestSequence, .int s_length, .int s_members, .int s_most, .int s_least])), (ad_s_sequence, .inl (cI, 9, .inl s_sequence))] H := hP
        have hD : va_D A [(ad_s, .inr (3, [.ref ad_s_sequence, .ref ad_s_bestSequence, .int s_length, .int s_members, .int s_most, .int s_least])), (ad_s_sequence, .inl (cI, 9, .inl s_sequence))] := hD
        refine lv_icmp_ge (tgt := 69) hx hb dX3_turn_60 (by decide) (fun c60 => ?_) (fun c60 => ?_)
        · replace hf := ip c60 hf
          exact hb69 _ _ s_sequence x1 x2 hP hD hS _ (lv_sub hl [0, 1, 2] rfl) hf
        · replace hf := iq c60 hf
          refine lv_iinc (v := (x2 + (-1 : Int32))) (lv' := [(2, .int (x2 + (-1 : Int32))), (0, .ref ad_s), (1, .int x1)]) hx hb dX3_turn_63 hl (k := 2) rfl rfl (by decide) rfl (fun ls hl => ?_)
          refine lv_goto (tgt := 45) hx hb dX3_turn_66 (by decide) ?_
          exact ih45 _ _ s_sequence x1 (x2 + (-1 : Int32)) hP hD hS _ (lv_sub hl [1, 2, 0] rfl) hf
  have hb32 : ∀ (H : Heap) (locs : List Loc) (s_sequence : (Nat → Int32)) (x1 : Int32), va_P D vwCl [(ad_s, .inr (3, [.ref ad_s_sequence, .ref ad_s_bestSequence, .int s_length, .int s_members, .int s_most, .int s_least])), (ad_s_sequence, .inl (cI, 9, .inl s_sequence))] H → va_D A [(ad_s, .inr (3, [.ref ad_s_sequence, .ref ad_s_bestSequence, .int s_length, .int s_members, .int s_most, .int s_least])), (ad_s_sequence, .inl (cI, 9, .inl s_sequence))] → va_S A s.heap H locs → ∀ ls : Array Slot, lv_has ls 5 [(0, .ref ad_s), (1, .int x1)] → (f_X3_turn_b32 N s_length) s_sequence x1 = some o → W p l e rm_X3_turn s m args below meth c H locs 0 0 Q (F0 m 32 ls []) := by
    intro H locs s_sequence x1 hP hD hS ls hl hf
    unfold f_X3_turn_b32 at hf
    refine lv_iload_n hx hb dX3_turn_32 rfl (lv_at hl 1 rfl) ?_
    refine lv_if_ge (tgt := 38) hx hb dX3_turn_33 (by decide) (fun c33 => ?_) (fun c33 => ?_)
    · replace hf := ip c33 hf
      refine lv_aload_n hx hb dX3_turn_38 rfl (lv_at hl 0 rfl) ?_
      refine kget hX hP (q0 := 0) rfl rfl inX3 (k := 2) (by decide) rfl wd284 rfl dX3_turn_39 ?_
      refine lv_iconst (v := 1) hx hb dX3_turn_42 (by decide) ?_
      refine lv_isub hx hb dX3_turn_43 ?_
      refine lv_istore_n (lv' := [(2, .int (s_length - (1 : Int32))), (0, .ref ad_s), (1, .int x1)]) hx hb dX3_turn_44 rfl hl (by decide) rfl (fun ls hl => ?_)
      exact hb45 N _ _ s_sequence x1 (s_length - (1 : Int32)) hP hD hS _ (lv_sub hl [1, 2, 0] rfl) hf
    · replace hf := iq c33 hf
      refine lv_iconst (v := 0) hx hb dX3_turn_36 (by decide) ?_
      exact hRet _ _ _ _ _ _ _ (Option.some.inj hf) rfl rfl rfl hP hD hS dX3_turn_37
  have hb7 : ∀ n7 : Nat, ∀ (H : Heap) (locs : List Loc) (s_sequence : (Nat → Int32)) (x1 : Int32), va_P D vwCl [(ad_s, .inr (3, [.ref ad_s_sequence, .ref ad_s_bestSequence, .int s_length, .int s_members, .int s_most, .int s_least])), (ad_s_sequence, .inl (cI, 9, .inl s_sequence))] H → va_D A [(ad_s, .inr (3, [.ref ad_s_sequence, .ref ad_s_bestSequence, .int s_length, .int s_members, .int s_most, .int s_least])), (ad_s_sequence, .inl (cI, 9, .inl s_sequence))] → va_S A s.heap H locs → ∀ ls : Array Slot, lv_has ls 5 [(0, .ref ad_s), (1, .int x1)] → f_X3_turn_b7 N (f_X3_turn_b32 N s_length) s_length n7 s_sequence x1 = some o → W p l e rm_X3_turn s m args below meth c H locs 0 0 Q (F0 m 7 ls []) := by
    intro n7
    induction n7 with
    | zero =>
      intro H locs s_sequence x1 hP hD hS ls hl hf
      rw [f_X3_turn_b7] at hf
      cases hf
    | succ n7 ih7 =>
      intro H locs s_sequence x1 hP hD hS ls hl hf
      rw [f_X3_turn_b7] at hf
      refine lv_iload_n hx hb dX3_turn_7 rfl (lv_at hl 1 rfl) ?_
      refine lv_if_lt (tgt := 32) hx hb dX3_turn_8 (by decide) (fun c8 => ?_) (fun c8 => ?_)
      · replace hf := ip c8 hf
        exact hb32 _ _ s_sequence x1 hP hD hS _ (lv_sub hl [0, 1] rfl) hf
      · replace hf := iq c8 hf
        refine lv_aload_n hx hb dX3_turn_11 rfl (lv_at hl 0 rfl) ?_
        refine lv_iload_n hx hb dX3_turn_12 rfl (lv_at hl 1 rfl) ?_
        refine kVi (rest := []) hX (c_X3_deskAt l D cI cJ cR ad_s ad_s_sequence ad_s_bestSequence s_length s_members s_most s_least s_sequence x1 rfl) kc_X3_deskAt wd770 ⟨Nat.le_of_ble_eq_true rfl, Nat.le_of_ble_eq_true rfl⟩ ⟨rfl, rfl⟩ hP hD hS (ci := 3) rfl rfl (q0 := 0) rfl [0, 1] rfl (by decide) (fun w h => by cases h; rfl) rfl rfl (Nat.le_of_ble_eq_true rfl) hl.1 ⟨Nat.zero_le _, Nat.zero_le _⟩ dX3_turn_13 (fun H locs w1 hw1 hP hD hS => ?_)
        cases hw1
        have hP : va_P D vwCl [(ad_s, .inr (3, [.ref ad_s_sequence, .ref ad_s_bestSequence, .int s_length, .int s_members, .int s_most, .int s_least])), (ad_s_sequence, .inl (cI, 9, .inl s_sequence))] H := hP
        have hD : va_D A [(ad_s, .inr (3, [.ref ad_s_sequence, .ref ad_s_bestSequence, .int s_length, .int s_members, .int s_most, .int s_least])), (ad_s_sequence, .inl (cI, 9, .inl s_sequence))] := hD
        refine lv_aload_n hx hb dX3_turn_16 rfl (lv_at hl 0 rfl) ?_
        refine lv_iload_n hx hb dX3_turn_17 rfl (lv_at hl 1 rfl) ?_
        refine lv_iconst (v := 1) hx hb dX3_turn_18 (by decide) ?_
        refine lv_iadd hx hb dX3_turn_19 ?_
        refine kVi (rest := [.int (p_X3_deskAt s_sequence x1)]) hX (c_X3_deskAt l D cI cJ cR ad_s ad_s_sequence ad_s_bestSequence s_length s_members s_most s_least s_sequence (x1 + (1 : Int32)) rfl) kc_X3_deskAt wd770 ⟨Nat.le_of_ble_eq_true rfl, Nat.le_of_ble_eq_true rfl⟩ ⟨rfl, rfl⟩ hP hD hS (ci := 3) rfl rfl (q0 := 0) rfl [0, 1] rfl (by decide) (fun w h => by cases h; rfl) rfl rfl (Nat.le_of_ble_eq_true rfl) hl.1 ⟨Nat.zero_le _, Nat.zero_le _⟩ dX3_turn_20 (fun H locs w1 hw1 hP hD hS => ?_)
        cases hw1
        have hP : va_P D vwCl [(ad_s, .inr (3, [.ref ad_s_sequence, .ref ad_s_bestSequence, .int s_length, .int s_members, .int s_most, .int s_least])), (ad_s_sequence, .inl (cI, 9, .inl s_sequence))] H := hP
        have hD : va_D A [(ad_s, .inr (3, [.ref ad_s_sequence, .ref ad_s_bestSequence, .int s_length, .int s_members, .int s_most, .int s_least])), (ad_s_sequence, .inl (cI, 9, .inl s_sequence))] := hD
        refine lv_icmp_le (tgt := 32) hx hb dX3_turn_23 (by decide) (fun c23 => ?_) (fun c23 => ?_)
        · replace hf := ip c23 hf
          exact hb32 _ _ s_sequence x1 hP hD hS _ (lv_sub hl [0, 1] rfl) hf
        · replace hf := iq c23 hf
          refine lv_iinc (v := (x1 + (-1 : Int32))) (lv' := [(1, .int (x1 + (-1 : Int32))), (0, .ref ad_s)]) hx hb dX3_turn_26 hl (k := 1) rfl rfl (by decide) rfl (fun ls hl => ?_)
          refine lv_goto (tgt := 7) hx hb dX3_turn_29 (by decide) ?_
          exact ih7 _ _ s_sequence (x1 + (-1 : Int32)) hP hD hS _ (lv_sub hl [1, 0] rfl) hf
  unfold f_X3_turn at hf
  refine lv_aload_n hx hb dX3_turn_0 rfl (lv_at hl 0 rfl) ?_
  refine kget hX hP (q0 := 0) rfl rfl inX3 (k := 2) (by decide) rfl wd284 rfl dX3_turn_1 ?_
  refine lv_iconst (v := 2) hx hb dX3_turn_4 (by decide) ?_
  refine lv_isub hx hb dX3_turn_5 ?_
  refine lv_istore_n (lv' := [(1, .int (s_length - (2 : Int32))), (0, .ref ad_s)]) hx hb dX3_turn_6 rfl hl (by decide) rfl (fun ls hl => ?_)
  exact hb7 N _ _ s_sequence (s_length - (2 : Int32)) hP hD hS _ (lv_sub hl [1, 0] rfl) hf
def p_X4_linesOf (x1 : Int32) : (Int32) :=
  ((x1 / (64 : Int32)))
abbrev rm_X4_linesOf : Room := { frames := 0, cells := 0, slots := 0, locals := 0 }
set_option maxHeartbeats 4000000 in
set_option maxRecDepth 100000 in
theorem c_X4_linesOf (l : Launch) (D : va_G) (cI cJ cR : ClassId) (ad_s : Nat) (x1 : Int32) {o : Int32} (hf : p_X4_linesOf x1 = o) : kMi l D (kT cI cJ cR) yX4_linesOf cX4_linesOf 2 (some .int) rm_X4_linesOf [.ref ad_s, .int x1] [] (o) (fun w => w = []) := by
  apply kInI (o := o)
  · decide
  · exact Nat.le_of_ble_eq_true rfl
  intro p e s m args below meth c A ls Q hX hRet hP hD hS hl
  have hx := hX.1.1
  have hb := hX.1.2.1
  have hown := hX.1.2.2.2.1
  have hts := hX.1.2.2.2.2
  have hl : lv_has ls 2 [(0, .ref ad_s), (1, .int x1)] := hl
  unfold p_X4_linesOf at hf
  refine lv_iload_n hx hb dX4_linesOf_0 rfl (lv_at hl 1 rfl) ?_
  refine lv_bipush (v := 64) hx hb dX4_linesOf_1 (by decide) ?_
  refine lv_idiv hx hb dX4_linesOf_3 (by decide) ?_
  exact hRet _ _ _ _ _ _ _ hf rfl rfl hP hD hS dX4_linesOf_4
def p_X4_withName (x1 : Int32) (x2 : Int32) (x3 : Int32) : (Int32) :=
  if (64000 : Int32) ≤ x1 then ((64000 : Int32)) else if x2 ≤ x3 then nm (x1 - x1 / (64 : Int32) * (64 : Int32)) (fun v18 => if x1 ≤ 0 then (((((p_X4_linesOf x1) + (1 : Int32)) * (64 : Int32)) + x2)) else if x3 < ((v18 + (1 : Int32)) + x2) then (((((p_X4_linesOf x1) + (1 : Int32)) * (64 : Int32)) + x2)) else (((x1 + (1 : Int32)) + x2))) else ((64000 : Int32))
abbrev rm_X4_withName : Room := { frames := 1, cells := 0, slots := 0, locals := 21 }
set_option maxHeartbeats 4000000 in
set_option maxRecDepth 100000 in
theorem c_X4_withName (l : Launch) (D : va_G) (cI cJ cR : ClassId) (ad_s ad_s_leastLaid : Nat) (x1 : Int32) (x2 : Int32) (x3 : Int32) {o : Int32} (hf : p_X4_withName x1 x2 x3 = o) : kMi l D (kT cI cJ cR) yX4_withName cX4_withName 5 (some .int) rm_X4_withName [.ref ad_s, .int x1, .int x2, .int x3] [(ad_s, .inr (4, [.ref ad_s_leastLaid]))] (o) (fun w => w = [(ad_s, .inr (4, [.ref ad_s_leastLaid]))]) := by
  apply kInI (o := o)
  · decide
  · exact Nat.le_of_ble_eq_true rfl
  intro p e s m args below meth c A ls Q hX hRet hP hD hS hl
  have hx := hX.1.1
  have hb := hX.1.2.1
  have hown := hX.1.2.2.2.1
  have hts := hX.1.2.2.2.2
  have hl : lv_has ls 5 [(0, .ref ad_s), (1, .int x1), (2, .int x2), (3, .int x3)] := hl
  unfold p_X4_withName at hf
  refine lv_iload_n hx hb dX4_withName_0 rfl (lv_at hl 1 rfl) ?_
  refine lv_ldc (v := 64000) hx hb hown (hts _ (List.mem_cons_of_mem _ wd828)) dX4_withName_1 ?_
  refine lv_icmp_ge (tgt := 11) hx hb dX4_withName_3 (by decide) (fun c3 => ?_) (fun c3 => ?_)
  · replace hf := ip c3 hf
    refine lv_ldc (v := 64000) hx hb hown (hts _ (List.mem_cons_of_mem _ wd828)) dX4_withName_11 ?_
    exact hRet _ _ _ _ _ _ _ hf rfl rfl hP hD hS dX4_withName_13
  · replace hf := iq c3 hf
    refine lv_iload_n hx hb dX4_withName_6 rfl (lv_at hl 2 rfl) ?_
    refine lv_iload_n hx hb dX4_withName_7 rfl (lv_at hl 3 rfl) ?_
    refine lv_icmp_le (tgt := 14) hx hb dX4_withName_8 (by decide) (fun c8 => ?_) (fun c8 => ?_)
    · replace hf := ip c8 hf
      refine lv_iload_n hx hb dX4_withName_14 rfl (lv_at hl 1 rfl) ?_
      refine lv_bipush (v := 64) hx hb dX4_withName_15 (by decide) ?_
      refine lv_irem hx hb dX4_withName_17 (by decide) ?_
      refine lv_topi (fun v18 ev18 => ?_)
      replace hf := nm_s ev18 hf
      refine lv_istore (lv' := [(4, .int v18), (0, .ref ad_s), (1, .int x1), (2, .int x2), (3, .int x3)]) hx hb dX4_withName_18 hl (by decide) rfl (fun ls hl => ?_)
      refine lv_iload_n hx hb dX4_withName_20 rfl (lv_at hl 2 rfl) ?_
      refine lv_if_le (tgt := 40) hx hb dX4_withName_21 (by decide) (fun c21 => ?_) (fun c21 => ?_)
      · replace hf := ip c21 hf
        refine lv_aload_n hx hb dX4_withName_40 rfl (lv_at hl 1 rfl) ?_
        refine lv_iload_n hx hb dX4_withName_41 rfl (lv_at hl 2 rfl) ?_
        refine kVi (rest := []) hX (c_X4_linesOf l D cI cJ cR ad_s x1 rfl) kc_X4_linesOf wd829 ⟨Nat.le_of_ble_eq_true rfl, Nat.le_of_ble_eq_true rfl⟩ ⟨rfl, rfl⟩ hP hD hS (ci := 4) rfl rfl (q0 := 0) rfl [] rfl (by decide) (fun w h => by cases h; rfl) rfl rfl (Nat.le_of_ble_eq_true rfl) hl.1 ⟨Nat.zero_le _, Nat.zero_le _⟩ dX4_withName_42 (fun H locs w1 hw1 hP hD hS => ?_)
        cases hw1
        have hP : va_P D vwCl [(ad_s, .inr (4, [.ref ad_s_leastLaid]))] H := hP
        have hD : va_D A [(ad_s, .inr (4, [.ref ad_s_leastLaid]))] := hD
        refine lv_iconst (v := 1) hx hb dX4_withName_45 (by decide) ?_
        refine lv_iadd hx hb dX4_withName_46 ?_
        refine lv_bipush (v := 64) hx hb dX4_withName_47 (by decide) ?_
        refine lv_imul hx hb dX4_withName_49 ?_
        refine lv_iload_n hx hb dX4_withName_50 rfl (lv_at hl 3 rfl) ?_
        refine lv_iadd hx hb dX4_withName_51 ?_
        exact hRet _ _ _ _ _ _ _ hf rfl rfl hP hD hS dX4_withName_52
      · replace hf := iq c21 hf
        refine lv_iload hx hb dX4_withName_24 (lv_at hl 0 rfl) ?_
        refine lv_iconst (v := 1) hx hb dX4_withName_26 (by decide) ?_
        refine lv_iadd hx hb dX4_withName_27 ?_
        refine lv_iload_n hx hb dX4_withName_28 rfl (lv_at hl 3 rfl) ?_
        refine lv_iadd hx hb dX4_withName_29 ?_
        refine lv_iload_n hx hb dX4_withName_30 rfl (lv_at hl 4 rfl) ?_
        refine lv_icmp_gt (tgt := 40) hx hb dX4_withName_31 (by decide) (fun c31 => ?_) (fun c31 => ?_)
        · replace hf := ip c31 hf
          refine lv_aload_n hx hb dX4_withName_40 rfl (lv_at hl 1 rfl) ?_
          refine lv_iload_n hx hb dX4_withName_41 rfl (lv_at hl 2 rfl) ?_
          refine kVi (rest := []) hX (c_X4_linesOf l D cI cJ cR ad_s x1 rfl) kc_X4_linesOf wd829 ⟨Nat.le_of_ble_eq_true rfl, Nat.le_of_ble_eq_true rfl⟩ ⟨rfl, rfl⟩ hP hD hS (ci := 4) rfl rfl (q0 := 0) rfl [] rfl (by decide) (fun w h => by cases h; rfl) rfl rfl (Nat.le_of_ble_eq_true rfl) hl.1 ⟨Nat.zero_le _, Nat.zero_le _⟩ dX4_withName_42 (fun H locs w1 hw1 hP hD hS => ?_)
          cases hw1
          have hP : va_P D vwCl [(ad_s, .inr (4, [.ref ad_s_leastLaid]))] H := hP
          have hD : va_D A [(ad_s, .inr (4, [.ref ad_s_leastLaid]))] := hD
          refine lv_iconst (v := 1) hx hb dX4_withName_45 (by decide) ?_
          refine lv_iadd hx hb dX4_withName_46 ?_
          refine lv_bipush (v := 64) hx hb dX4_withName_47 (by decide) ?_
          refine lv_imul hx hb dX4_withName_49 ?_
          refine lv_iload_n hx hb dX4_withName_50 rfl (lv_at hl 3 rfl) ?_
          refine lv_iadd hx hb dX4_withName_51 ?_
          exact hRet _ _ _ _ _ _ _ hf rfl rfl hP hD hS dX4_withName_52
        · replace hf := iq c31 hf
          refine lv_iload_n hx hb dX4_withName_34 rfl (lv_at hl 2 rfl) ?_
          refine lv_iconst (v := 1) hx hb dX4_withName_35 (by decide) ?_
          refine lv_iadd hx hb dX4_withName_36 ?_
          refine lv_iload_n hx hb dX4_withName_37 rfl (lv_at hl 3 rfl) ?_
          refine lv_iadd hx hb dX4_withName_38 ?_
          exact hRet _ _ _ _ _ _ _ hf rfl rfl hP hD hS dX4_withName_39
    · replace hf := iq c8 hf
      refine lv_ldc (v := 64000) hx hb hown (hts _ (List.mem_cons_of_mem _ wd828)) dX4_withName_11 ?_
      exact hRet _ _ _ _ _ _ _ hf rfl rfl hP hD hS dX4_withName_13
def p_X4_leastOf_b22 (s_leastLaid : (Nat → Int32)) : (Int32) :=
  ((64000 : Int32))
def p_X4_leastOf (s_leastLaid : (Nat → Int32)) (x1 : Int32) : (Int32) :=
  if x1 < 0 then (p_X4_leastOf_b22 s_leastLaid) else if (256 : Int32) ≤ x1 then (p_X4_leastOf_b22 s_leastLaid) else ((s_leastLaid x1.toNatClampNeg))
abbrev rm_X4_leastOf : Room := { frames := 0, cells := 0, slots := 0, locals := 0 }
set_option maxHeartbeats 4000000 in
set_option maxRecDepth 100000 in
theorem c_X4_leastOf (l : Launch) (D : va_G) (cI cJ cR : ClassId) (ad_s ad_s_leastLaid : Nat) (s_leastLaid : (Nat → Int32)) (x1 : Int32) {o : Int32} (hf : p_X4_leastOf s_leastLaid x1 = o) : kMi l D (kT cI cJ cR) yX4_leastOf cX4_leastOf 2 (some .int) rm_X4_leastOf [.ref ad_s, .int x1] [(ad_s, .inr (4, [.ref ad_s_leastLaid])), (ad_s_leastLaid, .inl (cI, 256, .inl s_leastLaid))] (o) (fun w => w = [(ad_s, .inr (4, [.ref ad_s_leastLaid])), (ad_s_leastLaid, .inl (cI, 256, .inl s_leastLaid))]) := by
  apply kInI (o := o)
  · decide
  · exact Nat.le_of_ble_eq_true rfl
  intro p e s m args below meth c A ls Q hX hRet hP hD hS hl
  have hx := hX.1.1
  have hb := hX.1.2.1
  have hown := hX.1.2.2.2.1
  have hts := hX.1.2.2.2.2
  have hl : lv_has ls 2 [(0, .ref ad_s), (1, .int x1)] := hl
  have hb22 : ∀ (H : Heap) (locs : List Loc), va_P D vwCl [(ad_s, .inr (4, [.ref ad_s_leastLaid])), (ad_s_leastLaid, .inl (cI, 256, .inl s_leastLaid))] H → va_D A [(ad_s, .inr (4, [.ref ad_s_leastLaid])), (ad_s_leastLaid, .inl (cI, 256, .inl s_leastLaid))] → va_S A s.heap H locs → ∀ ls : Array Slot, lv_has ls 2 [] → (p_X4_leastOf_b22 s_leastLaid)  = o → W p l e rm_X4_leastOf s m args below meth c H locs 0 0 Q (F0 m 22 ls []) := by
    intro H locs hP hD hS ls hl hf
    unfold p_X4_leastOf_b22 at hf
    refine lv_ldc (v := 64000) hx hb hown (hts _ (List.mem_cons_of_mem _ wd828)) dX4_leastOf_22 ?_
    exact hRet _ _ _ _ _ _ _ hf rfl rfl hP hD hS dX4_leastOf_24
  unfold p_X4_leastOf at hf
  refine lv_iload_n hx hb dX4_leastOf_0 rfl (lv_at hl 1 rfl) ?_
  refine lv_if_lt (tgt := 22) hx hb dX4_leastOf_1 (by decide) (fun c1 => ?_) (fun c1 => ?_)
  · replace hf := ip c1 hf
    exact hb22 _ _ hP hD hS _ (lv_sub hl [] rfl) hf
  · replace hf := iq c1 hf
    refine lv_iload_n hx hb dX4_leastOf_4 rfl (lv_at hl 1 rfl) ?_
    refine lv_aload_n hx hb dX4_leastOf_5 rfl (lv_at hl 0 rfl) ?_
    refine kget hX hP (q0 := 0) rfl rfl inX4 (k := 0) (by decide) rfl wd310 rfl dX4_leastOf_6 ?_
    refine kalen hX hP (t0 := 0) rfl (q0 := 1) rfl (v := (256 : Int32)) rfl dX4_leastOf_9 ?_
    refine lv_icmp_ge (tgt := 22) hx hb dX4_leastOf_10 (by decide) (fun c10 => ?_) (fun c10 => ?_)
    · replace hf := ip c10 hf
      exact hb22 _ _ hP hD hS _ (lv_sub hl [] rfl) hf
    · replace hf := iq c10 hf
      refine lv_aload_n hx hb dX4_leastOf_13 rfl (lv_at hl 0 rfl) ?_
      refine kget hX hP (q0 := 0) rfl rfl inX4 (k := 0) (by decide) rfl wd310 rfl dX4_leastOf_14 ?_
      refine lv_iload_n hx hb dX4_leastOf_17 rfl (lv_at hl 1 rfl) ?_
      refine kiald hX hP rfl (q0 := 1) rfl (vpi (by decide) c1 c10) dX4_leastOf_18 ?_
      refine lv_goto (tgt := 24) hx hb dX4_leastOf_19 (by decide) ?_
      exact hRet _ _ _ _ _ _ _ hf rfl rfl hP hD hS dX4_leastOf_24
def p_J6_bitCount_0f7a4 (x0 : Int32) : (Int32) :=
  nm (x0 - (((x0.toUInt32 >>> ((1 : Int32).toUInt32 &&& Int32.toUInt32 31)).toInt32) &&& (1431655765 : Int32))) (fun v9 => nm ((v9 &&& (858993459 : Int32)) + (((v9.toUInt32 >>> ((2 : Int32).toUInt32 &&& Int32.toUInt32 31)).toInt32) &&& (858993459 : Int32))) (fun v23 => nm ((v23 + ((v23.toUInt32 >>> ((4 : Int32).toUInt32 &&& Int32.toUInt32 31)).toInt32)) &&& (252645135 : Int32)) (fun v33 => nm (v33 + ((v33.toUInt32 >>> ((8 : Int32).toUInt32 &&& Int32.toUInt32 31)).toInt32)) (fun v40 => nm (v40 + ((v40.toUInt32 >>> ((16 : Int32).toUInt32 &&& Int32.toUInt32 31)).toInt32)) (fun v47 => ((v47 &&& (63 : Int32))))))))
abbrev rm_J6_bitCount_0f7a4 : Room := { frames := 0, cells := 0, slots := 0, locals := 0 }
set_option maxHeartbeats 4000000 in
set_option maxRecDepth 100000 in
theorem c_J6_bitCount_0f7a4 (l : Launch) (D : va_G) (cI cJ cR : ClassId) (x0 : Int32) {o : Int32} (hf : p_J6_bitCount_0f7a4 x0 = o) : kMi l D (kT cI cJ cR) yJ6_bitCount_0f7a4 cJ6_bitCount_0f7a4 1 (some .int) rm_J6_bitCount_0f7a4 [.int x0] [] (o) (fun w => w = []) := by
  apply kInI (o := o)
  · decide
  · exact Nat.le_of_ble_eq_true rfl
  intro p e s m args below meth c A ls Q hX hRet hP hD hS hl
  have hx := hX.1.1
  have hb := hX.1.2.1
  have hown := hX.1.2.2.2.1
  have hts := hX.1.2.2.2.2
  have hl : lv_has ls 1 [(0, .int x0)] := hl
  unfold p_J6_bitCount_0f7a4 at hf
  refine lv_iload_n hx hb dJ6_bitCount_0f7a4_0 rfl (lv_at hl 0 rfl) ?_
  refine lv_iload_n hx hb dJ6_bitCount_0f7a4_1 rfl (lv_at hl 0 rfl) ?_
  refine lv_iconst (v := 1) hx hb dJ6_bitCount_0f7a4_2 (by decide) ?_
  refine lv_iushr hx hb dJ6_bitCount_0f7a4_3 rfl ?_
  refine lv_ldcw (v := 1431655765) hx hb hown (hts _ (List.mem_cons_of_mem _ wd699)) dJ6_bitCount_0f7a4_4 ?_
  refine lv_iand hx hb dJ6_bitCount_0f7a4_7 ?_
  refine lv_isub hx hb dJ6_bitCount_0f7a4_8 ?_
  refine lv_topi (fun v9 ev9 => ?_)
  replace hf := nm_s ev9 hf
  refine lv_istore_n (lv' := [(0, .int v9)]) hx hb dJ6_bitCount_0f7a4_9 rfl hl (by decide) rfl (fun ls hl => ?_)
  refine lv_iload_n hx hb dJ6_bitCount_0f7a4_10 rfl (lv_at hl 0 rfl) ?_
  refine lv_ldcw (v := 858993459) hx hb hown (hts _ (List.mem_cons_of_mem _ wd700)) dJ6_bitCount_0f7a4_11 ?_
  refine lv_iand hx hb dJ6_bitCount_0f7a4_14 ?_
  refine lv_iload_n hx hb dJ6_bitCount_0f7a4_15 rfl (lv_at hl 0 rfl) ?_
  refine lv_iconst (v := 2) hx hb dJ6_bitCount_0f7a4_16 (by decide) ?_
  refine lv_iushr hx hb dJ6_bitCount_0f7a4_17 rfl ?_
  refine lv_ldcw (v := 858993459) hx hb hown (hts _ (List.mem_cons_of_mem _ wd700)) dJ6_bitCount_0f7a4_18 ?_
  refine lv_iand hx hb dJ6_bitCount_0f7a4_21 ?_
  refine lv_iadd hx hb dJ6_bitCount_0f7a4_22 ?_
  refine lv_topi (fun v23 ev23 => ?_)
  replace hf := nm_s ev23 hf
  refine lv_istore_n (lv' := [(0, .int v23)]) hx hb dJ6_bitCount_0f7a4_23 rfl hl (by decide) rfl (fun ls hl => ?_)
  refine lv_iload_n hx hb dJ6_bitCount_0f7a4_24 rfl (lv_at hl 0 rfl) ?_
  refine lv_iload_n hx hb dJ6_bitCount_0f7a4_25 rfl (lv_at hl 0 rfl) ?_
  refine lv_iconst (v := 4) hx hb dJ6_bitCount_0f7a4_26 (by decide) ?_
  refine lv_iushr hx hb dJ6_bitCount_0f7a4_27 rfl ?_
  refine lv_iadd hx hb dJ6_bitCount_0f7a4_28 ?_
  refine lv_ldcw (v := 252645135) hx hb hown (hts _ (List.mem_cons_of_mem _ wd701)) dJ6_bitCount_0f7a4_29 ?_
  refine lv_iand hx hb dJ6_bitCount_0f7a4_32 ?_
  refine lv_topi (fun v33 ev33 => ?_)
  replace hf := nm_s ev33 hf
  refine lv_istore_n (lv' := [(0, .int v33)]) hx hb dJ6_bitCount_0f7a4_33 rfl hl (by decide) rfl (fun ls hl => ?_)
  refine lv_iload_n hx hb dJ6_bitCount_0f7a4_34 rfl (lv_at hl 0 rfl) ?_
  refine lv_iload_n hx hb dJ6_bitCount_0f7a4_35 rfl (lv_at hl 0 rfl) ?_
  refine lv_bipush (v := 8) hx hb dJ6_bitCount_0f7a4_36 (by decide) ?_
  refine lv_iushr hx hb dJ6_bitCount_0f7a4_38 rfl ?_
  refine lv_iadd hx hb dJ6_bitCount_0f7a4_39 ?_
  refine lv_topi (fun v40 ev40 => ?_)
  replace hf := nm_s ev40 hf
  refine lv_istore_n (lv' := [(0, .int v40)]) hx hb dJ6_bitCount_0f7a4_40 rfl hl (by decide) rfl (fun ls hl => ?_)
  refine lv_iload_n hx hb dJ6_bitCount_0f7a4_41 rfl (lv_at hl 0 rfl) ?_
  refine lv_iload_n hx hb dJ6_bitCount_0f7a4_42 rfl (lv_at hl 0 rfl) ?_
  refine lv_bipush (v := 16) hx hb dJ6_bitCount_0f7a4_43 (by decide) ?_
  refine lv_iushr hx hb dJ6_bitCount_0f7a4_45 rfl ?_
  refine lv_iadd hx hb dJ6_bitCount_0f7a4_46 ?_
  refine lv_topi (fun v47 ev47 => ?_)
  replace hf := nm_s ev47 hf
  refine lv_istore_n (lv' := [(0, .int v47)]) hx hb dJ6_bitCount_0f7a4_47 rfl hl (by decide) rfl (fun ls hl => ?_)
  refine lv_iload_n hx hb dJ6_bitCount_0f7a4_48 rfl (lv_at hl 0 rfl) ?_
  refine lv_bipush (v := 63) hx hb dJ6_bitCount_0f7a4_49 (by decide) ?_
  refine lv_iand hx hb dJ6_bitCount_0f7a4_51 ?_
  exact hRet _ _ _ _ _ _ _ hf rfl rfl hP hD hS dJ6_bitCount_0f7a4_52
def f_X4_layLeast_b55 (N : Nat) (nS_q1 : Nat) (nC_q1 : Nat) (k7 : Int32 → Int32 → Int32 → Int32 → Int32 → Option (Int32)) (s_leastLaid : (Nat → Int32)) (q1_places : Int32) (q1_sizes : (Nat → Int32)) (q1_cells : (Nat → Int32)) (x2 : Int32) (x3 : Int32) (x4 : Int32) (x5 : Int32) (x6 : Int32) : Option (Int32) :=
  k7 x2 x3 x4 x5 (x6 + (1 : Int32))
def f_X4_layLeast_b7 (N : Nat) (nS_q1 : Nat) (nC_q1 : Nat) (s_leastLaid : (Nat → Int32)) (q1_places : Int32) (q1_sizes : (Nat → Int32)) (q1_cells : (Nat → Int32)) : Nat → Int32 → Int32 → Int32 → Int32 → Int32 → Option (Int32)
  | 0, _, _, _, _, _ => none
  | n7 + 1, x2, x3, x4, x5, x6 => if (8 : Int32) ≤ x6 then some (x5) else if ((x3 >>> (x6 &&& 31)) &&& (1 : Int32)) = 0 then (f_X4_layLeast_b55 N nS_q1 nC_q1 (f_X4_layLeast_b7 N nS_q1 nC_q1 s_leastLaid q1_places q1_sizes q1_cells n7) s_leastLaid q1_places q1_sizes q1_cells) x2 x3 x4 x5 x6 else nm (if (p_X4_withName (p_X4_leastOf s_leastLaid (x3 &&& (((1 : Int32) <<< (x6 &&& 31)) ^^^ (-1 : Int32)))) (p_X7_cell nS_q1 nC_q1 q1_places q1_sizes q1_cells x2 x6) x4) < x5 then (p_X4_withName (p_X4_leastOf s_leastLaid (x3 &&& (((1 : Int32) <<< (x6 &&& 31)) ^^^ (-1 : Int32)))) (p_X7_cell nS_q1 nC_q1 q1_places q1_sizes q1_cells x2 x6) x4) else x5) (fun v53 => (f_X4_layLeast_b55 N nS_q1 nC_q1 (f_X4_layLeast_b7 N nS_q1 nC_q1 s_leastLaid q1_places q1_sizes q1_cells n7) s_leastLaid q1_places q1_sizes q1_cells) x2 x3 x4 v53 x6)
def f_X4_layLeast (N : Nat) (nS_q1 : Nat) (nC_q1 : Nat) (s_leastLaid : (Nat → Int32)) (q1_places : Int32) (q1_sizes : (Nat → Int32)) (q1_cells : (Nat → Int32)) (x2 : Int32) (x3 : Int32) (x4 : Int32) : Option (Int32) :=
  (f_X4_layLeast_b7 N nS_q1 nC_q1 s_leastLaid q1_places q1_sizes q1_cells N) x2 x3 x4 (64000 : Int32) (0 : Int32)
abbrev rm_X4_layLeast : Room := { frames := 3, cells := 0, slots := 0, locals := 66 }
set_option maxHeartbeats 4000000 in
set_option maxRecDepth 100000 in
theorem c_X4_layLeast (l : Launch) (D : va_G) (cI cJ cR : ClassId) (N : Nat) (ad_s ad_s_leastLaid ad_q1 ad_q1_sizes ad_q1_cells : Nat) (nS_q1 : Nat) (nC_q1 : Nat) (h_nS_q1 : nS_q1 < 2147483648) (h_nC_q1 : nC_q1 < 2147483648) (s_leastLaid : (Nat → Int32)) (q1_places : Int32) (q1_sizes : (Nat → Int32)) (q1_cells : (Nat → Int32)) (x2 : Int32) (x3 : Int32) (x4 : Int32) {o : Int32} (hf : f_X4_layLeast N nS_q1 nC_q1 s_leastLaid q1_places q1_sizes q1_cells x2 x3 x4 = some o) : kMi l D (kT cI cJ cR) yX4_layLeast cX4_layLeast 7 (some .int) rm_X4_layLeast [.ref ad_s, .ref ad_q1, .int x2, .int x3, .int x4] [(ad_s, .inr (4, [.ref ad_s_leastLaid])), (ad_s_leastLaid, .inl (cI, 256, .inl s_leastLaid)), (ad_q1, .inr (7, [.int q1_places, .ref ad_q1_sizes, .ref ad_q1_cells])), (ad_q1_sizes, .inl (cI, nS_q1, .inl q1_sizes)), (ad_q1_cells, .inl (cI, nC_q1, .inl q1_cells))] (o) (fun w => w = [(ad_s, .inr (4, [.ref ad_s_leastLaid])), (ad_s_leastLaid, .inl (cI, 256, .inl s_leastLaid)), (ad_q1, .inr (7, [.int q1_places, .ref ad_q1_sizes, .ref ad_q1_cells])), (ad_q1_sizes, .inl (cI, nS_q1, .inl q1_sizes)), (ad_q1_cells, .inl (cI, nC_q1, .inl q1_cells))]) := by
  apply kInI (o := o)
  · decide
  · exact Nat.le_of_ble_eq_true rfl
  intro p e s m args below meth c A ls Q hX hRet hP hD hS hl
  have hx := hX.1.1
  have hb := hX.1.2.1
  have hown := hX.1.2.2.2.1
  have hts := hX.1.2.2.2.2
  have hl : lv_has ls 7 [(0, .ref ad_s), (1, .ref ad_q1), (2, .int x2), (3, .int x3), (4, .int x4)] := hl
  have hb7 : ∀ n7 : Nat, ∀ (H : Heap) (locs : List Loc) (x2 : Int32) (x3 : Int32) (x4 : Int32) (x5 : Int32) (x6 : Int32), va_P D vwCl [(ad_s, .inr (4, [.ref ad_s_leastLaid])), (ad_s_leastLaid, .inl (cI, 256, .inl s_leastLaid)), (ad_q1, .inr (7, [.int q1_places, .ref ad_q1_sizes, .ref ad_q1_cells])), (ad_q1_sizes, .inl (cI, nS_q1, .inl q1_sizes)), (ad_q1_cells, .inl (cI, nC_q1, .inl q1_cells))] H → va_D A [(ad_s, .inr (4, [.ref ad_s_leastLaid])), (ad_s_leastLaid, .inl (cI, 256, .inl s_leastLaid)), (ad_q1, .inr (7, [.int q1_places, .ref ad_q1_sizes, .ref ad_q1_cells])), (ad_q1_sizes, .inl (cI, nS_q1, .inl q1_sizes)), (ad_q1_cells, .inl (cI, nC_q1, .inl q1_cells))] → va_S A s.heap H locs → ∀ ls : Array Slot, lv_has ls 7 [(0, .ref ad_s), (1, .ref ad_q1), (2, .int x2), (3, .int x3), (4, .int x4), (5, .int x5), (6, .int x6)] → f_X4_layLeast_b7 N nS_q1 nC_q1 s_leastLaid q1_places q1_sizes q1_cells n7 x2 x3 x4 x5 x6 = some o → W p l e rm_X4_layLeast s m args below meth c H locs 0 0 Q (F0 m 7 ls []) := by
    intro n7
    induction n7 with
    | zero =>
      intro H locs x2 x3 x4 x5 x6 hP hD hS ls hl hf
      rw [f_X4_layLeast_b7] at hf
      cases hf
    | succ n7 ih7 =>
      have hb55 : ∀ (H : Heap) (locs : List Loc) (x2 : Int32) (x3 : Int32) (x4 : Int32) (x5 : Int32) (x6 : Int32), va_P D vwCl [(ad_s, .inr (4, [.ref ad_s_leastLaid])), (ad_s_leastLaid, .inl (cI, 256, .inl s_leastLaid)), (ad_q1, .inr (7, [.int q1_places, .ref ad_q1_sizes, .ref ad_q1_cells])), (ad_q1_sizes, .inl (cI, nS_q1, .inl q1_sizes)), (ad_q1_cells, .inl (cI, nC_q1, .inl q1_cells))] H → va_D A [(ad_s, .inr (4, [.ref ad_s_leastLaid])), (ad_s_leastLaid, .inl (cI, 256, .inl s_leastLaid)), (ad_q1, .inr (7, [.int q1_places, .ref ad_q1_sizes, .ref ad_q1_cells])), (ad_q1_sizes, .inl (cI, nS_q1, .inl q1_sizes)), (ad_q1_cells, .inl (cI, nC_q1, .inl q1_cells))] → va_S A s.heap H locs → ∀ ls : Array Slot, lv_has ls 7 [(0, .ref ad_s), (1, .ref ad_q1), (2, .int x2), (3, .int x3), (4, .int x4), (5, .int x5), (6, .int x6)] → (f_X4_layLeast_b55 N nS_q1 nC_q1 (f_X4_layLeast_b7 N nS_q1 nC_q1 s_leastLaid q1_places q1_sizes q1_cells n7) s_leastLaid q1_places q1_sizes q1_cells) x2 x3 x4 x5 x6 = some o → W p l e rm_X4_layLeast s m args below meth c H locs 0 0 Q (F0 m 55 ls []) := by
        intro H locs x2 x3 x4 x5 x6 hP hD hS ls hl hf
        unfold f_X4_layLeast_b55 at hf
        refine lv_iinc (v := (x6 + (1 : Int32))) (lv' := [(6, .int (x6 + (1 : Int32))), (0, .ref ad_s), (1, .ref ad_q1), (2, .int x2), (3, .int x3), (4, .int x4), (5, .int x5)]) hx hb dX4_layLeast_55 hl (k := 6) rfl rfl (by decide) rfl (fun ls hl => ?_)
        refine lv_goto (tgt := 7) hx hb dX4_layLeast_58 (by decide) ?_
        exact ih7 _ _ x2 x3 x4 x5 (x6 + (1 : Int32)) hP hD hS _ (lv_sub hl [1, 2, 3, 4, 5, 6, 0] rfl) hf
      intro H locs x2 x3 x4 x5 x6 hP hD hS ls hl hf
      rw [f_X4_layLeast_b7] at hf
      refine lv_iload hx hb dX4_layLeast_7 (lv_at hl 6 rfl) ?_
      refine lv_bipush (v := 8) hx hb dX4_layLeast_9 (by decide) ?_
      refine lv_icmp_ge (tgt := 61) hx hb dX4_layLeast_11 (by decide) (fun c11 => ?_) (fun c11 => ?_)
      · replace hf := ip c11 hf
        refine lv_iload hx hb dX4_layLeast_61 (lv_at hl 5 rfl) ?_
        exact hRet _ _ _ _ _ _ _ (Option.some.inj hf) rfl rfl hP hD hS dX4_layLeast_63
      · replace hf := iq c11 hf
        refine lv_iload_n hx hb dX4_layLeast_14 rfl (lv_at hl 3 rfl) ?_
        refine lv_iload hx hb dX4_layLeast_15 (lv_at hl 6 rfl) ?_
        refine lv_ishr hx hb dX4_layLeast_17 ?_
        refine lv_iconst (v := 1) hx hb dX4_layLeast_18 (by decide) ?_
        refine lv_iand hx hb dX4_layLeast_19 ?_
        refine lv_if_eq (tgt := 55) hx hb dX4_layLeast_20 (by decide) (fun c20 => ?_) (fun c20 => ?_)
        · replace hf := ip c20 hf
          exact hb55 _ _ x2 x3 x4 x5 x6 hP hD hS _ (lv_sub hl [0, 1, 2, 3, 4, 5, 6] rfl) hf
        · replace hf := iq c20 hf
          refine lv_iload hx hb dX4_layLeast_23 (lv_at hl 5 rfl) ?_
          refine lv_aload_n hx hb dX4_layLeast_25 rfl (lv_at hl 0 rfl) ?_
          refine lv_aload_n hx hb dX4_layLeast_26 rfl (lv_at hl 0 rfl) ?_
          refine lv_iload_n hx hb dX4_layLeast_27 rfl (lv_at hl 3 rfl) ?_
          refine lv_iconst (v := 1) hx hb dX4_layLeast_28 (by decide) ?_
          refine lv_iload hx hb dX4_layLeast_29 (lv_at hl 6 rfl) ?_
          refine lv_ishl hx hb dX4_layLeast_31 ?_
          refine lv_iconst (v := -1) hx hb dX4_layLeast_32 (by decide) ?_
          refine lv_ixor hx hb dX4_layLeast_33 ?_
          refine lv_iand hx hb dX4_layLeast_34 ?_
          refine kVi (rest := [.ref ad_s, .int x5]) hX (c_X4_leastOf l D cI cJ cR ad_s ad_s_leastLaid s_leastLaid (x3 &&& (((1 : Int32) <<< (x6 &&& 31)) ^^^ (-1 : Int32))) rfl) kc_X4_leastOf wd848 ⟨Nat.le_of_ble_eq_true rfl, Nat.le_of_ble_eq_true rfl⟩ ⟨rfl, rfl⟩ hP hD hS (ci := 4) rfl rfl (q0 := 0) rfl [0, 1] rfl (by decide) (fun w h => by cases h; rfl) rfl rfl (Nat.le_of_ble_eq_true rfl) hl.1 ⟨Nat.zero_le _, Nat.zero_le _⟩ dX4_layLeast_35 (fun H locs w1 hw1 hP hD hS => ?_)
          cases hw1
          have hP : va_P D vwCl [(ad_s, .inr (4, [.ref ad_s_leastLaid])), (ad_s_leastLaid, .inl (cI, 256, .inl s_leastLaid)), (ad_q1, .inr (7, [.int q1_places, .ref ad_q1_sizes, .ref ad_q1_cells])), (ad_q1_sizes, .inl (cI, nS_q1, .inl q1_sizes)), (ad_q1_cells, .inl (cI, nC_q1, .inl q1_cells))] H := hP
          have hD : va_D A [(ad_s, .inr (4, [.ref ad_s_leastLaid])), (ad_s_leastLaid, .inl (cI, 256, .inl s_leastLaid)), (ad_q1, .inr (7, [.int q1_places, .ref ad_q1_sizes, .ref ad_q1_cells])), (ad_q1_sizes, .inl (cI, nS_q1, .inl q1_sizes)), (ad_q1_cells, .inl (cI, nC_q1, .inl q1_cells))] := hD
          refine lv_aload_n hx hb dX4_layLeast_38 rfl (lv_at hl 1 rfl) ?_
          refine lv_iload_n hx hb dX4_layLeast_39 rfl (lv_at hl 2 rfl) ?_
          refine lv_iload hx hb dX4_layLeast_40 (lv_at hl 6 rfl) ?_
          refine kVi (rest := [.int (p_X4_leastOf s_leastLaid (x3 &&& (((1 : Int32) <<< (x6 &&& 31)) ^^^ (-1 : Int32)))), .ref ad_s, .int x5]) hX (c_X7_cell l D cI cJ cR ad_q1 ad_q1_sizes ad_q1_cells nS_q1 nC_q1 h_nS_q1 h_nC_q1 q1_places q1_sizes q1_cells x2 x6 rfl) kc_X7_cell wd852 ⟨Nat.le_of_ble_eq_true rfl, Nat.le_of_ble_eq_true rfl⟩ ⟨rfl, rfl⟩ hP hD hS (ci := 7) rfl rfl (q0 := 2) rfl [2, 3, 4] rfl (by decide) (fun w h => by cases h; rfl) rfl rfl (Nat.le_of_ble_eq_true rfl) hl.1 ⟨Nat.zero_le _, Nat.zero_le _⟩ dX4_layLeast_42 (fun H locs w1 hw1 hP hD hS => ?_)
          cases hw1
          have hP : va_P D vwCl [(ad_s, .inr (4, [.ref ad_s_leastLaid])), (ad_s_leastLaid, .inl (cI, 256, .inl s_leastLaid)), (ad_q1, .inr (7, [.int q1_places, .ref ad_q1_sizes, .ref ad_q1_cells])), (ad_q1_sizes, .inl (cI, nS_q1, .inl q1_sizes)), (ad_q1_cells, .inl (cI, nC_q1, .inl q1_cells))] H := hP
          have hD : va_D A [(ad_s, .inr (4, [.ref ad_s_leastLaid])), (ad_s_leastLaid, .inl (cI, 256, .inl s_leastLaid)), (ad_q1, .inr (7, [.int q1_places, .ref ad_q1_sizes, .ref ad_q1_cells])), (ad_q1_sizes, .inl (cI, nS_q1, .inl q1_sizes)), (ad_q1_cells, .inl (cI, nC_q1, .inl q1_cells))] := hD
          refine lv_iload hx hb dX4_layLeast_45 (lv_at hl 4 rfl) ?_
          refine kVi (rest := [.int x5]) hX (c_X4_withName l D cI cJ cR ad_s ad_s_leastLaid (p_X4_leastOf s_leastLaid (x3 &&& (((1 : Int32) <<< (x6 &&& 31)) ^^^ (-1 : Int32)))) (p_X7_cell nS_q1 nC_q1 q1_places q1_sizes q1_cells x2 x6) x4 rfl) kc_X4_withName wd853 ⟨Nat.le_of_ble_eq_true rfl, Nat.le_of_ble_eq_true rfl⟩ ⟨rfl, rfl⟩ hP hD hS (ci := 4) rfl rfl (q0 := 0) rfl [0] rfl (by decide) (fun w h => by cases h; rfl) rfl rfl (Nat.le_of_ble_eq_true rfl) hl.1 ⟨Nat.zero_le _, Nat.zero_le _⟩ dX4_layLeast_47 (fun H locs w1 hw1 hP hD hS => ?_)
          cases hw1
          have hP : va_P D vwCl [(ad_s, .inr (4, [.ref ad_s_leastLaid])), (ad_s_leastLaid, .inl (cI, 256, .inl s_leastLaid)), (ad_q1, .inr (7, [.int q1_places, .ref ad_q1_sizes, .ref ad_q1_cells])), (ad_q1_sizes, .inl (cI, nS_q1, .inl q1_sizes)), (ad_q1_cells, .inl (cI, nC_q1, .inl q1_cells))] H := hP
          have hD : va_D A [(ad_s, .inr (4, [.ref ad_s_leastLaid])), (ad_s_leastLaid, .inl (cI, 256, .inl s_leastLaid)), (ad_q1, .inr (7, [.int q1_places, .ref ad_q1_sizes, .ref ad_q1_cells])), (ad_q1_sizes, .inl (cI, nS_q1, .inl q1_sizes)), (ad_q1_cells, .inl (cI, nC_q1, .inl q1_cells))] := hD
          refine va_mmin hx hb (hX.1.2.2.1.trans hl.1.symm) hown (hts _ (List.mem_cons_of_mem _ wd843)) (hts _ (List.mem_cons_of_mem _ wd780)) (hts _ (List.mem_cons_of_mem _ wd20)) (hts _ (List.mem_cons_of_mem _ wd781)) (Nat.le_of_ble_eq_true rfl) (Nat.le_of_ble_eq_true rfl) (Nat.le_of_ble_eq_true rfl) (Nat.le_of_ble_eq_true rfl) dX4_layLeast_50 ?_
          refine lv_topi (fun v53 ev53 => ?_)
          replace hf := nm_s ev53 hf
          refine lv_istore (lv' := [(5, .int v53), (0, .ref ad_s), (1, .ref ad_q1), (2, .int x2), (3, .int x3), (4, .int x4), (6, .int x6)]) hx hb dX4_layLeast_53 hl (by decide) rfl (fun ls hl => ?_)
          exact hb55 _ _ x2 x3 x4 v53 x6 hP hD hS _ (lv_sub hl [1, 2, 3, 4, 5, 0, 6] rfl) hf
  unfold f_X4_layLeast at hf
  refine lv_ldc (v := 64000) hx hb hown (hts _ (List.mem_cons_of_mem _ wd828)) dX4_layLeast_0 ?_
  refine lv_istore (lv' := [(5, .int (64000 : Int32)), (0, .ref ad_s), (1, .ref ad_q1), (2, .int x2), (3, .int x3), (4, .int x4)]) hx hb dX4_layLeast_2 hl (by decide) rfl (fun ls hl => ?_)
  refine lv_iconst (v := 0) hx hb dX4_layLeast_4 (by decide) ?_
  refine lv_istore (lv' := [(6, .int (0 : Int32)), (5, .int (64000 : Int32)), (0, .ref ad_s), (1, .ref ad_q1), (2, .int x2), (3, .int x3), (4, .int x4)]) hx hb dX4_layLeast_5 hl (by decide) rfl (fun ls hl => ?_)
  exact hb7 N _ _ x2 x3 x4 (64000 : Int32) (0 : Int32) hP hD hS _ (lv_sub hl [2, 3, 4, 5, 6, 1, 0] rfl) hf
def f_X4_fullestSet_b95 (N : Nat) (nS_q1 : Nat) (nC_q1 : Nat) (k20 : (Nat → Int32) → Int32 → Int32 → Int32 → Int32 → Int32 → Int32 → Option (Int32 × (Nat → Int32))) (q1_places : Int32) (q1_sizes : (Nat → Int32)) (q1_cells : (Nat → Int32)) (s_leastLaid : (Nat → Int32)) (x2 : Int32) (x3 : Int32) (x4 : Int32) (x5 : Int32) (x6 : Int32) (x7 : Int32) : Option (Int32 × (Nat → Int32)) :=
  k20 s_leastLaid x2 x3 x4 x5 x6 (x7 + (1 : Int32))
def f_X4_fullestSet_b61 (N : Nat) (nS_q1 : Nat) (nC_q1 : Nat) (k20 : (Nat → Int32) → Int32 → Int32 → Int32 → Int32 → Int32 → Int32 → Option (Int32 × (Nat → Int32))) (q1_places : Int32) (q1_sizes : (Nat → Int32)) (q1_cells : (Nat → Int32)) (s_leastLaid : (Nat → Int32)) (x2 : Int32) (x3 : Int32) (x4 : Int32) (x5 : Int32) (x6 : Int32) (x7 : Int32) (y1 : Int32) (y2 : Int32) : Option (Int32 × (Nat → Int32)) :=
  gd (inb y1 256 = true) (gd (inb x7 256 = true) ((f_X4_fullestSet_b95 N nS_q1 nC_q1 k20 q1_places q1_sizes q1_cells) (upd s_leastLaid y1.toNatClampNeg y2) x2 x3 x4 x5 (if x4 < (p_X4_linesOf ((upd s_leastLaid y1.toNatClampNeg y2) x7.toNatClampNeg)) then x6 else (if (p_J6_bitCount_0f7a4 x7) ≤ (p_J6_bitCount_0f7a4 x6) then x6 else x7)) x7))
def f_X4_fullestSet_b20 (N : Nat) (nS_q1 : Nat) (nC_q1 : Nat) (q1_places : Int32) (q1_sizes : (Nat → Int32)) (q1_cells : (Nat → Int32)) : Nat → (Nat → Int32) → Int32 → Int32 → Int32 → Int32 → Int32 → Int32 → Option (Int32 × (Nat → Int32))
  | 0, _, _, _, _, _, _, _ => none
  | n20 + 1, s_leastLaid, x2, x3, x4, x5, x6, x7 => if x5 ≤ x7 then some (x6, s_leastLaid) else if (256 : Int32) ≤ x7 then some (x6, s_leastLaid) else if x7 = 0 then (f_X4_fullestSet_b61 N nS_q1 nC_q1 (f_X4_fullestSet_b20 N nS_q1 nC_q1 q1_places q1_sizes q1_cells n20) q1_places q1_sizes q1_cells) s_leastLaid x2 x3 x4 x5 x6 x7 x7 (0 : Int32) else bn (f_X4_layLeast N nS_q1 nC_q1 s_leastLaid q1_places q1_sizes q1_cells x2 x7 x3) (fun z58_1 => (f_X4_fullestSet_b61 N nS_q1 nC_q1 (f_X4_fullestSet_b20 N nS_q1 nC_q1 q1_places q1_sizes q1_cells n20) q1_places q1_sizes q1_cells) s_leastLaid x2 x3 x4 x5 x6 x7 x7 z58_1)
def f_X4_fullestSet (N : Nat) (nS_q1 : Nat) (nC_q1 : Nat) (q1_places : Int32) (q1_sizes : (Nat → Int32)) (q1_cells : (Nat → Int32)) (s_leastLaid : (Nat → Int32)) (x2 : Int32) (x3 : Int32) (x4 : Int32) : Option (Int32 × (Nat → Int32)) :=
  nm ((1 : Int32) <<< ((if (8 : Int32) < (p_X7_sizeOf nS_q1 q1_sizes x2) then (8 : Int32) else (p_X7_sizeOf nS_q1 q1_sizes x2)) &&& 31)) (fun v12 => (f_X4_fullestSet_b20 N nS_q1 nC_q1 q1_places q1_sizes q1_cells N) s_leastLaid x2 x3 x4 v12 (0 : Int32) (0 : Int32))
abbrev rm_X4_fullestSet : Room := { frames := 4, cells := 0, slots := 0, locals := 92 }
set_option maxHeartbeats 4000000 in
set_option maxRecDepth 100000 in
theorem c_X4_fullestSet (l : Launch) (D : va_G) (cI cJ cR : ClassId) (N : Nat) (ad_s ad_s_leastLaid ad_q1 ad_q1_sizes ad_q1_cells : Nat) (nS_q1 : Nat) (nC_q1 : Nat) (h_nS_q1 : nS_q1 < 2147483648) (h_nC_q1 : nC_q1 < 2147483648) (s_leastLaid : (Nat → Int32)) (q1_places : Int32) (q1_sizes : (Nat → Int32)) (q1_cells : (Nat → Int32)) (x2 : Int32) (x3 : Int32) (x4 : Int32) {o : Int32 × (Nat → Int32)} (hf : f_X4_fullestSet N nS_q1 nC_q1 q1_places q1_sizes q1_cells s_leastLaid x2 x3 x4 = some o) : kMi l D (kT cI cJ cR) yX4_fullestSet cX4_fullestSet 8 (some .int) rm_X4_fullestSet [.ref ad_s, .ref ad_q1, .int x2, .int x3, .int x4] [(ad_s, .inr (4, [.ref ad_s_leastLaid])), (ad_s_leastLaid, .inl (cI, 256, .inl s_leastLaid)), (ad_q1, .inr (7, [.int q1_places, .ref ad_q1_sizes, .ref ad_q1_cells])), (ad_q1_sizes, .inl (cI, nS_q1, .inl q1_sizes)), (ad_q1_cells, .inl (cI, nC_q1, .inl q1_cells))] (o.1) (fun w => w = [(ad_s, .inr (4, [.ref ad_s_leastLaid])), (ad_s_leastLaid, .inl (cI, 256, .inl o.2)), (ad_q1, .inr (7, [.int q1_places, .ref ad_q1_sizes, .ref ad_q1_cells])), (ad_q1_sizes, .inl (cI, nS_q1, .inl q1_sizes)), (ad_q1_cells, .inl (cI, nC_q1, .inl q1_cells))]) := by
  apply kInI (o := o)
  · decide
  · exact Nat.le_of_ble_eq_true rfl
  intro p e s m args below meth c A ls Q hX hRet hP hD hS hl
  have hx := hX.1.1
  have hb := hX.1.2.1
  have hown := hX.1.2.2.2.1
  have hts := hX.1.2.2.2.2
  have hl : lv_has ls 8 [(0, .ref ad_s), (1, .ref ad_q1), (2, .int x2), (3, .int x3), (4, .int x4)] := hl
  have hb20 : ∀ n20 : Nat, ∀ (H : Heap) (locs : List Loc) (s_leastLaid : (Nat → Int32)) (x2 : Int32) (x3 : Int32) (x4 : Int32) (x5 : Int32) (x6 : Int32) (x7 : Int32), va_P D vwCl [(ad_s, .inr (4, [.ref ad_s_leastLaid])), (ad_s_leastLaid, .inl (cI, 256, .inl s_leastLaid)), (ad_q1, .inr (7, [.int q1_places, .ref ad_q1_sizes, .ref ad_q1_cells])), (ad_q1_sizes, .inl (cI, nS_q1, .inl q1_sizes)), (ad_q1_cells, .inl (cI, nC_q1, .inl q1_cells))] H → va_D A [(ad_s, .inr (4, [.ref ad_s_leastLaid])), (ad_s_leastLaid, .inl (cI, 256, .inl s_leastLaid)), (ad_q1, .inr (7, [.int q1_places, .ref ad_q1_sizes, .ref ad_q1_cells])), (ad_q1_sizes, .inl (cI, nS_q1, .inl q1_sizes)), (ad_q1_cells, .inl (cI, nC_q1, .inl q1_cells))] → va_S A s.heap H locs → ∀ ls : Array Slot, lv_has ls 8 [(0, .ref ad_s), (1, .ref ad_q1), (2, .int x2), (3, .int x3), (4, .int x4), (5, .int x5), (6, .int x6), (7, .int x7)] → f_X4_fullestSet_b20 N nS_q1 nC_q1 q1_places q1_sizes q1_cells n20 s_leastLaid x2 x3 x4 x5 x6 x7 = some o → W p l e rm_X4_fullestSet s m args below meth c H locs 0 0 Q (F0 m 20 ls []) := by
    intro n20
    induction n20 with
    | zero =>
      intro H locs s_leastLaid x2 x3 x4 x5 x6 x7 hP hD hS ls hl hf
      rw [f_X4_fullestSet_b20] at hf
      cases hf
    | succ n20 ih20 =>
      have hb95 : ∀ (H : Heap) (locs : List Loc) (s_leastLaid : (Nat → Int32)) (x2 : Int32) (x3 : Int32) (x4 : Int32) (x5 : Int32) (x6 : Int32) (x7 : Int32), va_P D vwCl [(ad_s, .inr (4, [.ref ad_s_leastLaid])), (ad_s_leastLaid, .inl (cI, 256, .inl s_leastLaid)), (ad_q1, .inr (7, [.int q1_places, .ref ad_q1_sizes, .ref ad_q1_cells])), (ad_q1_sizes, .inl (cI, nS_q1, .inl q1_sizes)), (ad_q1_cells, .inl (cI, nC_q1, .inl q1_cells))] H → va_D A [(ad_s, .inr (4, [.ref ad_s_leastLaid])), (ad_s_leastLaid, .inl (cI, 256, .inl s_leastLaid)), (ad_q1, .inr (7, [.int q1_places, .ref ad_q1_sizes, .ref ad_q1_cells])), (ad_q1_sizes, .inl (cI, nS_q1, .inl q1_sizes)), (ad_q1_cells, .inl (cI, nC_q1, .inl q1_cells))] → va_S A s.heap H locs → ∀ ls : Array Slot, lv_has ls 8 [(0, .ref ad_s), (1, .ref ad_q1), (2, .int x2), (3, .int x3), (4, .int x4), (5, .int x5), (6, .int x6), (7, .int x7)] → (f_X4_fullestSet_b95 N nS_q1 nC_q1 (f_X4_fullestSet_b20 N nS_q1 nC_q1 q1_places q1_sizes q1_cells n20) q1_places q1_sizes q1_cells) s_leastLaid x2 x3 x4 x5 x6 x7 = some o → W p l e rm_X4_fullestSet s m args below meth c H locs 0 0 Q (F0 m 95 ls []) := by
        intro H locs s_leastLaid x2 x3 x4 x5 x6 x7 hP hD hS ls hl hf
        unfold f_X4_fullestSet_b95 at hf
        refine lv_iinc (v := (x7 + (1 : Int32))) (lv' := [(7, .int (x7 + (1 : Int32))), (0, .ref ad_s), (1, .ref ad_q1), (2, .int x2), (3, .int x3), (4, .int x4), (5, .int x5), (6, .int x6)]) hx hb dX4_fullestSet_95 hl (k := 7) rfl rfl (by decide) rfl (fun ls hl => ?_)
        refine lv_goto (tgt := 20) hx hb dX4_fullestSet_98 (by decide) ?_
        exact ih20 _ _ s_leastLaid x2 x3 x4 x5 x6 (x7 + (1 : Int32)) hP hD hS _ (lv_sub hl [1, 2, 3, 4, 5, 6, 7, 0] rfl) hf
      have hb61 : ∀ (H : Heap) (locs : List Loc) (s_leastLaid : (Nat → Int32)) (x2 : Int32) (x3 : Int32) (x4 : Int32) (x5 : Int32) (x6 : Int32) (x7 : Int32) (y1 : Int32) (y2 : Int32), va_P D vwCl [(ad_s, .inr (4, [.ref ad_s_leastLaid])), (ad_s_leastLaid, .inl (cI, 256, .inl s_leastLaid)), (ad_q1, .inr (7, [.int q1_places, .ref ad_q1_sizes, .ref ad_q1_cells])), (ad_q1_sizes, .inl (cI, nS_q1, .inl q1_sizes)), (ad_q1_cells, .inl (cI, nC_q1, .inl q1_cells))] H → va_D A [(ad_s, .inr (4, [.ref ad_s_leastLaid])), (ad_s_leastLaid, .inl (cI, 256, .inl s_leastLaid)), (ad_q1, .inr (7, [.int q1_places, .ref ad_q1_sizes, .ref ad_q1_cells])), (ad_q1_sizes, .inl (cI, nS_q1, .inl q1_sizes)), (ad_q1_cells, .inl (cI, nC_q1, .inl q1_cells))] → va_S A s.heap H locs → ∀ ls : Array Slot, lv_has ls 8 [(0, .ref ad_s), (1, .ref ad_q1), (2, .int x2), (3, .int x3), (4, .int x4), (5, .int x5), (6, .int x6), (7, .int x7)] → (f_X4_fullestSet_b61 N nS_q1 nC_q1 (f_X4_fullestSet_b20 N nS_q1 nC_q1 q1_places q1_sizes q1_cells n20) q1_places q1_sizes q1_cells) s_leastLaid x2 x3 x4 x5 x6 x7 y1 y2 = some o → W p l e rm_X4_fullestSet s m args below meth c H locs 0 0 Q (F0 m 61 ls [.int y2, .int y1, .ref ad_s_leastLaid]) := by
        intro H locs s_leastLaid x2 x3 x4 x5 x6 x7 y1 y2 hP hD hS ls hl hf
        unfold f_X4_fullestSet_b61 at hf
        obtain ⟨hg61_1, hf⟩ := gd_s hf
        refine kiast hX hP hD hS rfl (q0 := 1) rfl (inb_in hg61_1) dX4_fullestSet_61 (fun H locs hP hD hS => ?_)
        refine lv_aload_n hx hb dX4_fullestSet_62 rfl (lv_at hl 0 rfl) ?_
        refine lv_aload_n hx hb dX4_fullestSet_63 rfl (lv_at hl 0 rfl) ?_
        refine kget hX hP (q0 := 0) rfl rfl inX4 (k := 0) (by decide) rfl wd310 rfl dX4_fullestSet_64 ?_
        refine lv_iload hx hb dX4_fullestSet_67 (lv_at hl 7 rfl) ?_
        obtain ⟨hg69_2, hf⟩ := gd_s hf
        refine kiald hX hP rfl (q0 := 1) rfl (inb_in hg69_2) dX4_fullestSet_69 ?_
        refine kVi (rest := []) hX (c_X4_linesOf l D cI cJ cR ad_s ((upd s_leastLaid y1.toNatClampNeg y2) x7.toNatClampNeg) rfl) kc_X4_linesOf wd829 ⟨Nat.le_of_ble_eq_true rfl, Nat.le_of_ble_eq_true rfl⟩ ⟨rfl, rfl⟩ hP hD hS (ci := 4) rfl rfl (q0 := 0) rfl [] rfl (by decide) (fun w h => by cases h; rfl) rfl rfl (Nat.le_of_ble_eq_true rfl) hl.1 ⟨Nat.zero_le _, Nat.zero_le _⟩ dX4_fullestSet_70 (fun H locs w1 hw1 hP hD hS => ?_)
        cases hw1
        have hP : va_P D vwCl [(ad_s, .inr (4, [.ref ad_s_leastLaid])), (ad_s_leastLaid, .inl (cI, 256, .inl (upd s_leastLaid y1.toNatClampNeg y2))), (ad_q1, .inr (7, [.int q1_places, .ref ad_q1_sizes, .ref ad_q1_cells])), (ad_q1_sizes, .inl (cI, nS_q1, .inl q1_sizes)), (ad_q1_cells, .inl (cI, nC_q1, .inl q1_cells))] H := hP
        have hD : va_D A [(ad_s, .inr (4, [.ref ad_s_leastLaid])), (ad_s_leastLaid, .inl (cI, 256, .inl (upd s_leastLaid y1.toNatClampNeg y2))), (ad_q1, .inr (7, [.int q1_places, .ref ad_q1_sizes, .ref ad_q1_cells])), (ad_q1_sizes, .inl (cI, nS_q1, .inl q1_sizes)), (ad_q1_cells, .inl (cI, nC_q1, .inl q1_cells))] := hD
        refine lv_iload hx hb dX4_fullestSet_73 (lv_at hl 4 rfl) ?_
        refine lv_icmp_gt (tgt := 95) hx hb dX4_fullestSet_75 (by decide) (fun c75 => ?_) (fun c75 => ?_)
        · simp only [if_pos c75] at hf
          exact hb95 _ _ (upd s_leastLaid y1.toNatClampNeg y2) x2 x3 x4 x5 x6 x7 hP hD hS _ (lv_sub hl [0, 1, 2, 3, 4, 5, 6, 7] rfl) hf
        · simp only [if_neg c75] at hf
          refine lv_iload hx hb dX4_fullestSet_78 (lv_at hl 7 rfl) ?_
          refine kSi (rest := []) hX (c_J6_bitCount_0f7a4 l D cI cJ cR x7 rfl) kc_J6_bitCount_0f7a4 wd854 ⟨Nat.le_of_ble_eq_true rfl, Nat.le_of_ble_eq_true rfl⟩ ⟨rfl, rfl⟩ hP hD hS [] rfl (by decide) (fun w h => by cases h; rfl) rfl rfl (Nat.le_of_ble_eq_true rfl) hl.1 ⟨Nat.zero_le _, Nat.zero_le _⟩ dX4_fullestSet_80 (fun H locs w1 hw1 hP hD hS => ?_)
          cases hw1
          have hP : va_P D vwCl [(ad_s, .inr (4, [.ref ad_s_leastLaid])), (ad_s_leastLaid, .inl (cI, 256, .inl (upd s_leastLaid y1.toNatClampNeg y2))), (ad_q1, .inr (7, [.int q1_places, .ref ad_q1_sizes, .ref ad_q1_cells])), (ad_q1_sizes, .inl (cI, nS_q1, .inl q1_sizes)), (ad_q1_cells, .inl (cI, nC_q1, .inl q1_cells))] H := hP
          have hD : va_D A [(ad_s, .inr (4, [.ref ad_s_leastLaid])), (ad_s_leastLaid, .inl (cI, 256, .inl (upd s_leastLaid y1.toNatClampNeg y2))), (ad_q1, .inr (7, [.int q1_places, .ref ad_q1_sizes, .ref ad_q1_cells])), (ad_q1_sizes, .inl (cI, nS_q1, .inl q1_sizes)), (ad_q1_cells, .inl (cI, nC_q1, .inl q1_cells))] := hD
          refine lv_iload hx hb dX4_fullestSet_83 (lv_at hl 6 rfl) ?_
          refine kSi (rest := [.int (p_J6_bitCount_0f7a4 x7)]) hX (c_J6_bitCount_0f7a4 l D cI cJ cR x6 rfl) kc_J6_bitCount_0f7a4 wd854 ⟨Nat.le_of_ble_eq_true rfl, Nat.le_of_ble_eq_true rfl⟩ ⟨rfl, rfl⟩ hP hD hS [] rfl (by decide) (fun w h => by cases h; rfl) rfl rfl (Nat.le_of_ble_eq_true rfl) hl.1 ⟨Nat.zero_le _, Nat.zero_le _⟩ dX4_fullestSet_85 (fun H locs w1 hw1 hP hD hS => ?_)
          cases hw1
          have hP : va_P D vwCl [(ad_s, .inr (4, [.ref ad_s_leastLaid])), (ad_s_leastLaid, .inl (cI, 256, .inl (upd s_leastLaid y1.toNatClampNeg y2))), (ad_q1, .inr (7, [.int q1_places, .ref ad_q1_sizes, .ref ad_q1_cells])), (ad_q1_sizes, .inl (cI, nS_q1, .inl q1_sizes)), (ad_q1_cells, .inl (cI, nC_q1, .inl q1_cells))] H := hP
          have hD : va_D A [(ad_s, .inr (4, [.ref ad_s_leastLaid])), (ad_s_leastLaid, .inl (cI, 256, .inl (upd s_leastLaid y1.toNatClampNeg y2))), (ad_q1, .inr (7, [.int q1_places, .ref ad_q1_sizes, .ref ad_q1_cells])), (ad_q1_sizes, .inl (cI, nS_q1, .inl q1_sizes)), (ad_q1_cells, .inl (cI, nC_q1, .inl q1_cells))] := hD
          refine lv_icmp_le (tgt := 95) hx hb dX4_fullestSet_88 (by decide) (fun c88 => ?_) (fun c88 => ?_)
          · simp only [if_pos c88] at hf
            exact hb95 _ _ (upd s_leastLaid y1.toNatClampNeg y2) x2 x3 x4 x5 x6 x7 hP hD hS _ (lv_sub hl [0, 1, 2, 3, 4, 5, 6, 7] rfl) hf
          · simp only [if_neg c88] at hf
            refine lv_iload hx hb dX4_fullestSet_91 (lv_at hl 7 rfl) ?_
            refine lv_istore (lv' := [(6, .int x7), (0, .ref ad_s), (1, .ref ad_q1), (2, .int x2), (3, .int x3), (4, .int x4), (5, .int x5), (7, .int x7)]) hx hb dX4_fullestSet_93 hl (by decide) rfl (fun ls hl => ?_)
            exact hb95 _ _ (upd s_leastLaid y1.toNatClampNeg y2) x2 x3 x4 x5 x7 x7 hP hD hS _ (lv_sub hl [1, 2, 3, 4, 5, 6, 0, 7] rfl) hf
      intro H locs s_leastLaid x2 x3 x4 x5 x6 x7 hP hD hS ls hl hf
      rw [f_X4_fullestSet_b20] at hf
      refine lv_iload hx hb dX4_fullestSet_20 (lv_at hl 7 rfl) ?_
      refine lv_iload hx hb dX4_fullestSet_22 (lv_at hl 5 rfl) ?_
      refine lv_icmp_ge (tgt := 101) hx hb dX4_fullestSet_24 (by decide) (fun c24 => ?_) (fun c24 => ?_)
      · replace hf := ip c24 hf
        refine lv_iload hx hb dX4_fullestSet_101 (lv_at hl 6 rfl) ?_
        exact hRet _ _ _ _ _ _ _ (Option.some.inj hf) rfl rfl hP hD hS dX4_fullestSet_103
      · replace hf := iq c24 hf
        refine lv_iload hx hb dX4_fullestSet_27 (lv_at hl 7 rfl) ?_
        refine lv_aload_n hx hb dX4_fullestSet_29 rfl (lv_at hl 0 rfl) ?_
        refine kget hX hP (q0 := 0) rfl rfl inX4 (k := 0) (by decide) rfl wd310 rfl dX4_fullestSet_30 ?_
        refine kalen hX hP (t0 := 0) rfl (q0 := 1) rfl (v := (256 : Int32)) rfl dX4_fullestSet_33 ?_
        refine lv_icmp_ge (tgt := 101) hx hb dX4_fullestSet_34 (by decide) (fun c34 => ?_) (fun c34 => ?_)
        · replace hf := ip c34 hf
          refine lv_iload hx hb dX4_fullestSet_101 (lv_at hl 6 rfl) ?_
          exact hRet _ _ _ _ _ _ _ (Option.some.inj hf) rfl rfl hP hD hS dX4_fullestSet_103
        · replace hf := iq c34 hf
          refine lv_aload_n hx hb dX4_fullestSet_37 rfl (lv_at hl 0 rfl) ?_
          refine kget hX hP (q0 := 0) rfl rfl inX4 (k := 0) (by decide) rfl wd310 rfl dX4_fullestSet_38 ?_
          refine lv_iload hx hb dX4_fullestSet_41 (lv_at hl 7 rfl) ?_
          refine lv_iload hx hb dX4_fullestSet_43 (lv_at hl 7 rfl) ?_
          refine lv_if_ne (tgt := 52) hx hb dX4_fullestSet_45 (by decide) (fun c45 => ?_) (fun c45 => ?_)
          · replace hf := iq c45 hf
            refine lv_aload_n hx hb dX4_fullestSet_52 rfl (lv_at hl 0 rfl) ?_
            refine lv_aload_n hx hb dX4_fullestSet_53 rfl (lv_at hl 1 rfl) ?_
            refine lv_iload_n hx hb dX4_fullestSet_54 rfl (lv_at hl 2 rfl) ?_
            refine lv_iload hx hb dX4_fullestSet_55 (lv_at hl 7 rfl) ?_
            refine lv_iload_n hx hb dX4_fullestSet_57 rfl (lv_at hl 3 rfl) ?_
            obtain ⟨z58_1, hz58_1, hf⟩ := bn_s hf
            refine kVi (rest := [.int x7, .ref ad_s_leastLaid]) hX (c_X4_layLeast l D cI cJ cR N ad_s ad_s_leastLaid ad_q1 ad_q1_sizes ad_q1_cells nS_q1 nC_q1 h_nS_q1 h_nC_q1 s_leastLaid q1_places q1_sizes q1_cells x2 x7 x3 hz58_1) kc_X4_layLeast wd844 ⟨Nat.le_of_ble_eq_true rfl, Nat.le_of_ble_eq_true rfl⟩ ⟨rfl, rfl⟩ hP hD hS (ci := 4) rfl rfl (q0 := 0) rfl [0, 1, 2, 3, 4] rfl (by decide) (fun w h => by cases h; rfl) rfl rfl (Nat.le_of_ble_eq_true rfl) hl.1 ⟨Nat.zero_le _, Nat.zero_le _⟩ dX4_fullestSet_58 (fun H locs w1 hw1 hP hD hS => ?_)
            cases hw1
            have hP : va_P D vwCl [(ad_s, .inr (4, [.ref ad_s_leastLaid])), (ad_s_leastLaid, .inl (cI, 256, .inl s_leastLaid)), (ad_q1, .inr (7, [.int q1_places, .ref ad_q1_sizes, .ref ad_q1_cells])), (ad_q1_sizes, .inl (cI, nS_q1, .inl q1_sizes)), (ad_q1_cells, .inl (cI, nC_q1, .inl q1_cells))] H := hP
            have hD : va_D A [(ad_s, .inr (4, [.ref ad_s_leastLaid])), (ad_s_leastLaid, .inl (cI, 256, .inl s_leastLaid)), (ad_q1, .inr (7, [.int q1_places, .ref ad_q1_sizes, .ref ad_q1_cells])), (ad_q1_sizes, .inl (cI, nS_q1, .inl q1_sizes)), (ad_q1_cells, .inl (cI, nC_q1, .inl q1_cells))] := hD
            exact hb61 _ _ s_leastLaid x2 x3 x4 x5 x6 x7 x7 z58_1 hP hD hS _ (lv_sub hl [0, 1, 2, 3, 4, 5, 6, 7] rfl) hf
          · replace hf := ip c45 hf
            refine lv_iconst (v := 0) hx hb dX4_fullestSet_48 (by decide) ?_
            refine lv_goto (tgt := 61) hx hb dX4_fullestSet_49 (by decide) ?_
            exact hb61 _ _ s_leastLaid x2 x3 x4 x5 x6 x7 x7 (0 : Int32) hP hD hS _ (lv_sub hl [0, 1, 2, 3, 4, 5, 6, 7] rfl) hf
  unfold f_X4_fullestSet at hf
  refine lv_iconst (v := 1) hx hb dX4_fullestSet_0 (by decide) ?_
  refine lv_aload_n hx hb dX4_fullestSet_1 rfl (lv_at hl 1 rfl) ?_
  refine lv_iload_n hx hb dX4_fullestSet_2 rfl (lv_at hl 2 rfl) ?_
  refine kVi (rest := [.int (1 : Int32)]) hX (c_X7_sizeOf l D cI cJ cR ad_q1 ad_q1_sizes ad_q1_cells nS_q1 h_nS_q1 q1_places q1_sizes x2 rfl) kc_X7_sizeOf wd842 ⟨Nat.le_of_ble_eq_true rfl, Nat.le_of_ble_eq_true rfl⟩ ⟨rfl, rfl⟩ hP hD hS (ci := 7) rfl rfl (q0 := 2) rfl [2, 3] rfl (by decide) (fun w h => by cases h; rfl) rfl rfl (Nat.le_of_ble_eq_true rfl) hl.1 ⟨Nat.zero_le _, Nat.zero_le _⟩ dX4_fullestSet_3 (fun H locs w1 hw1 hP hD hS => ?_)
  cases hw1
  have hP : va_P D vwCl [(ad_s, .inr (4, [.ref ad_s_leastLaid])), (ad_s_leastLaid, .inl (cI, 256, .inl s_leastLaid)), (ad_q1, .inr (7, [.int q1_places, .ref ad_q1_sizes, .ref ad_q1_cells])), (ad_q1_sizes, .inl (cI, nS_q1, .inl q1_sizes)), (ad_q1_cells, .inl (cI, nC_q1, .inl q1_cells))] H := hP
  have hD : va_D A [(ad_s, .inr (4, [.ref ad_s_leastLaid])), (ad_s_leastLaid, .inl (cI, 256, .inl s_leastLaid)), (ad_q1, .inr (7, [.int q1_places, .ref ad_q1_sizes, .ref ad_q1_cells])), (ad_q1_sizes, .inl (cI, nS_q1, .inl q1_sizes)), (ad_q1_cells, .inl (cI, nC_q1, .inl q1_cells))] := hD
  refine lv_bipush (v := 8) hx hb dX4_fullestSet_6 (by decide) ?_
  refine va_mmin hx hb (hX.1.2.2.1.trans hl.1.symm) hown (hts _ (List.mem_cons_of_mem _ wd843)) (hts _ (List.mem_cons_of_mem _ wd780)) (hts _ (List.mem_cons_of_mem _ wd20)) (hts _ (List.mem_cons_of_mem _ wd781)) (Nat.le_of_ble_eq_true rfl) (Nat.le_of_ble_eq_true rfl) (Nat.le_of_ble_eq_true rfl) (Nat.le_of_ble_eq_true rfl) dX4_fullestSet_8 ?_
  refine lv_ishl hx hb dX4_fullestSet_11 ?_
  refine lv_topi (fun v12 ev12 => ?_)
  replace hf := nm_s ev12 hf
  refine lv_istore (lv' := [(5, .int v12), (0, .ref ad_s), (1, .ref ad_q1), (2, .int x2), (3, .int x3), (4, .int x4)]) hx hb dX4_fullestSet_12 hl (by decide) rfl (fun ls hl => ?_)
  refine lv_iconst (v := 0) hx hb dX4_fullestSet_14 (by decide) ?_
  refine lv_istore (lv' := [(6, .int (0 : Int32)), (5, .int v12), (0, .ref ad_s), (1, .ref ad_q1), (2, .int x2), (3, .int x3), (4, .int x4)]) hx hb dX4_fullestSet_15 hl (by decide) rfl (fun ls hl => ?_)
  refine lv_iconst (v := 0) hx hb dX4_fullestSet_17 (by decide) ?_
  refine lv_istore (lv' := [(7, .int (0 : Int32)), (6, .int (0 : Int32)), (5, .int v12), (0, .ref ad_s), (1, .ref ad_q1), (2, .int x2), (3, .int x3), (4, .int x4)]) hx hb dX4_fullestSet_18 hl (by decide) rfl (fun ls hl => ?_)
  exact hb20 N _ _ s_leastLaid x2 x3 x4 v12 (0 : Int32) (0 : Int32) hP hD hS _ (lv_sub hl [3, 4, 5, 6, 7, 2, 1, 0] rfl) hf
def p_X5_clear (s_total : Int32) (s_givers : Int32) (s_least : Int32) : (Int32 × Int32 × Int32) :=
  ((0 : Int32), (0 : Int32), (0 : Int32))
abbrev rm_X5_clear : Room := { frames := 0, cells := 0, slots := 0, locals := 0 }
set_option maxHeartbeats 4000000 in
set_option maxRecDepth 100000 in
theorem c_X5_clear (l : Launch) (D : va_G) (cI cJ cR : ClassId) (ad_s : Nat) (s_law : Int32) (s_named : Int32) (s_linked : Int32) (s_total : Int32) (s_givers : Int32) (s_least : Int32) {o : Int32 × Int32 × Int32} (hf : p_X5_clear s_total s_givers s_least = o) : kMv l D (kT cI cJ cR) yX5_clear cX5_clear 1 none rm_X5_clear [.ref ad_s] [(ad_s, .inr (5, [.int s_law, .int s_named, .int s_linked, .int s_total, .int s_givers, .int s_least]))] 0 0 (fun w => w = [(ad_s, .inr (5, [.int s_law, .int s_named, .int s_linked, .int o.1, .int o.2.1, .int o.2.2]))]) := by
  apply kInV (o := o)
  · decide
  · exact Nat.le_of_ble_eq_true rfl
  intro p e s m args below meth c A ls Q hX hRet hP hD hS hl
  have hx := hX.1.1
  have hb := hX.1.2.1
  have hown := hX.1.2.2.2.1
  have hts := hX.1.2.2.2.2
  have hl : lv_has ls 1 [(0, .ref ad_s)] := hl
  unfold p_X5_clear at hf
  refine lv_aload_n hx hb dX5_clear_0 rfl (lv_at hl 0 rfl) ?_
  refine lv_iconst (v := 0) hx hb dX5_clear_1 (by decide) ?_
  refine kput hX hP hD hS (q0 := 0) rfl rfl inX5 tyX5_ok nmX5 (k := 3) (by decide) rfl wd204 rfl rfl (Nat.le_of_ble_eq_true rfl) dX5_clear_2 (fun H locs hP hD hS => ?_)
  refine lv_aload_n hx hb dX5_clear_5 rfl (lv_at hl 0 rfl) ?_
  refine lv_iconst (v := 0) hx hb dX5_clear_6 (by decide) ?_
  refine kput hX hP hD hS (q0 := 0) rfl rfl inX5 tyX5_ok nmX5 (k := 4) (by decide) rfl wd207 rfl rfl (Nat.le_of_ble_eq_true rfl) dX5_clear_7 (fun H locs hP hD hS => ?_)
  refine lv_aload_n hx hb dX5_clear_10 rfl (lv_at hl 0 rfl) ?_
  refine lv_iconst (v := 0) hx hb dX5_clear_11 (by decide) ?_
  refine kput hX hP hD hS (q0 := 0) rfl rfl inX5 tyX5_ok nmX5 (k := 5) (by decide) rfl wd208 rfl rfl (Nat.le_of_ble_eq_true rfl) dX5_clear_12 (fun H locs hP hD hS => ?_)
  exact hRet _ _ _ _ _ _ hf rfl hP hD hS dX5_clear_15
def p_X5_copyTermsFrom (q1_law : Int32) (q1_named : Int32) (q1_linked : Int32) (s_law : Int32) (s_named : Int32) (s_linked : Int32) (s_total : Int32) (s_givers : Int32) (s_least : Int32) : (Int32 × Int32 × Int32 × Int32 × Int32 × Int32) :=
  nm (p_X5_clear s_total s_givers s_least) (fun z25_1 => (q1_law, q1_named, q1_linked, z25_1.1, z25_1.2.1, z25_1.2.2))
abbrev rm_X5_copyTermsFrom : Room := { frames := 1, cells := 0, slots := 0, locals := 20 }
set_option maxHeartbeats 4000000 in
set_option maxRecDepth 100000 in
theorem c_X5_copyTermsFrom (l : Launch) (D : va_G) (cI cJ cR : ClassId) (ad_s ad_q1 ad_q1_hours ad_q1_gifts ad_q1_written : Nat) (s_law : Int32) (s_named : Int32) (s_linked : Int32) (s_total : Int32) (s_givers : Int32) (s_least : Int32) (q1_start : Int32) (q1_rule : Int32) (q1_at : Int32) (q1_isBack : Int32) (q1_hour : Int32) (q1_crossed : Int32) (q1_law : Int32) (q1_named : Int32) (q1_linked : Int32) (q1_isThere : Int32) {o : Int32 × Int32 × Int32 × Int32 × Int32 × Int32} (hf : p_X5_copyTermsFrom q1_law q1_named q1_linked s_law s_named s_linked s_total s_givers s_least = o) : kMv l D (kT cI cJ cR) yX5_copyTermsFrom cX5_copyTermsFrom 2 none rm_X5_copyTermsFrom [.ref ad_s, .ref ad_q1] [(ad_s, .inr (5, [.int s_law, .int s_named, .int s_linked, .int s_total, .int s_givers, .int s_least])), (ad_q1, .inr (6, [.ref ad_q1_hours, .ref ad_q1_gifts, .ref ad_q1_written, .int q1_start, .int q1_rule, .int q1_at, .int q1_isBack, .int q1_hour, .int q1_crossed, .int q1_law, .int q1_named, .int q1_linked, .int q1_isThere]))] 0 0 (fun w => w = [(ad_s, .inr (5, [.int o.1, .int o.2.1, .int o.2.2.1, .int o.2.2.2.1, .int o.2.2.2.2.1, .int o.2.2.2.2.2])), (ad_q1, .inr (6, [.ref ad_q1_hours, .ref ad_q1_gifts, .ref ad_q1_written, .int q1_start, .int q1_rule, .int q1_at, .int q1_isBack, .int q1_hour, .int q1_crossed, .int q1_law, .int q1_named, .int q1_linked, .int q1_isThere]))]) := by
  apply kInV (o := o)
  · decide
  · exact Nat.le_of_ble_eq_true rfl
  intro p e s m args below meth c A ls Q hX hRet hP hD hS hl
  have hx := hX.1.1
  have hb := hX.1.2.1
  have hown := hX.1.2.2.2.1
  have hts := hX.1.2.2.2.2
  have hl : lv_has ls 2 [(0, .ref ad_s), (1, .ref ad_q1)] := hl
  unfold p_X5_copyTermsFrom at hf
  refine lv_aload_n hx hb dX5_copyTermsFrom_0 rfl (lv_at hl 0 rfl) ?_
  refine lv_aload_n hx hb dX5_copyTermsFrom_1 rfl (lv_at hl 1 rfl) ?_
  refine kget hX hP (q0 := 1) rfl rfl inX6 (k := 9) (by decide) rfl wd102 rfl dX5_copyTermsFrom_2 ?_
  refine kput hX hP hD hS (q0 := 0) rfl rfl inX5 tyX5_ok nmX5 (k := 0) (by decide) rfl wd199 rfl rfl (Nat.le_of_ble_eq_true rfl) dX5_copyTermsFrom_5 (fun H locs hP hD hS => ?_)
  refine lv_aload_n hx hb dX5_copyTermsFrom_8 rfl (lv_at hl 0 rfl) ?_
  refine lv_aload_n hx hb dX5_copyTermsFrom_9 rfl (lv_at hl 1 rfl) ?_
  refine kget hX hP (q0 := 1) rfl rfl inX6 (k := 10) (by decide) rfl wd105 rfl dX5_copyTermsFrom_10 ?_
  refine kput hX hP hD hS (q0 := 0) rfl rfl inX5 tyX5_ok nmX5 (k := 1) (by decide) rfl wd201 rfl rfl (Nat.le_of_ble_eq_true rfl) dX5_copyTermsFrom_13 (fun H locs hP hD hS => ?_)
  refine lv_aload_n hx hb dX5_copyTermsFrom_16 rfl (lv_at hl 0 rfl) ?_
  refine lv_aload_n hx hb dX5_copyTermsFrom_17 rfl (lv_at hl 1 rfl) ?_
  refine kget hX hP (q0 := 1) rfl rfl inX6 (k := 11) (by decide) rfl wd108 rfl dX5_copyTermsFrom_18 ?_
  refine kput hX hP hD hS (q0 := 0) rfl rfl inX5 tyX5_ok nmX5 (k := 2) (by decide) rfl wd203 rfl rfl (Nat.le_of_ble_eq_true rfl) dX5_copyTermsFrom_21 (fun H locs hP hD hS => ?_)
  refine lv_aload_n hx hb dX5_copyTermsFrom_24 rfl (lv_at hl 0 rfl) ?_
  obtain ⟨z25_1, hz25_1⟩ : ∃ z, z = p_X5_clear s_total s_givers s_least := ⟨_, rfl⟩
  replace hf := nm_s hz25_1 hf
  refine kVv (rest := []) hX (c_X5_clear l D cI cJ cR ad_s q1_law q1_named q1_linked s_total s_givers s_least hz25_1.symm) kc_X5_clear wd514 ⟨Nat.le_of_ble_eq_true rfl, Nat.le_of_ble_eq_true rfl⟩ ⟨rfl, rfl⟩ hP hD hS (ci := 5) rfl rfl (q0 := 0) rfl [0] rfl (by decide) (fun w h => by cases h; rfl) rfl rfl (Nat.le_of_ble_eq_true rfl) hl.1 ⟨Nat.zero_le _, Nat.zero_le _⟩ dX5_copyTermsFrom_25 (fun H locs w1 hw1 hP hD hS => ?_)
  cases hw1
  have hP : va_P D vwCl [(ad_s, .inr (5, [.int q1_law, .int q1_named, .int q1_linked, .int z25_1.1, .int z25_1.2.1, .int z25_1.2.2])), (ad_q1, .inr (6, [.ref ad_q1_hours, .ref ad_q1_gifts, .ref ad_q1_written, .int q1_start, .int q1_rule, .int q1_at, .int q1_isBack, .int q1_hour, .int q1_crossed, .int q1_law, .int q1_named, .int q1_linked, .int q1_isThere]))] H := hP
  have hD : va_D A [(ad_s, .inr (5, [.int q1_law, .int q1_named, .int q1_linked, .int z25_1.1, .int z25_1.2.1, .int z25_1.2.2])), (ad_q1, .inr (6, [.ref ad_q1_hours, .ref ad_q1_gifts, .ref ad_q1_written, .int q1_start, .int q1_rule, .int q1_at, .int q1_isBack, .int q1_hour, .int q1_crossed, .int q1_law, .int q1_named, .int q1_linked, .int q1_isThere]))] := hD
  exact hRet _ _ _ _ _ _ hf rfl hP hD hS dX5_copyTermsFrom_28
def p_X5_take_b39 (s_total : Int32) (s_givers : Int32) (s_least : Int32) (x1 : Int32) : (Int32 × Int32 × Int32) :=
  (s_total, s_givers, x1)
def p_X5_take (s_total : Int32) (s_givers : Int32) (s_least : Int32) (x1 : Int32) : (Int32 × Int32 × Int32) :=
  if x1 ≤ 0 then ((s_total + x1), (s_givers + (1 : Int32)), s_least) else if s_least = 0 then (p_X5_take_b39) (s_total + x1) (s_givers + (1 : Int32)) s_least x1 else if s_least ≤ x1 then ((s_total + x1), (s_givers + (1 : Int32)), s_least) else (p_X5_take_b39) (s_total + x1) (s_givers + (1 : Int32)) s_least x1
abbrev rm_X5_take : Room := { frames := 0, cells := 0, slots := 0, locals := 0 }
set_option maxHeartbeats 4000000 in
set_option maxRecDepth 100000 in
theorem c_X5_take (l : Launch) (D : va_G) (cI cJ cR : ClassId) (ad_s : Nat) (s_law : Int32) (s_named : Int32) (s_linked : Int32) (s_total : Int32) (s_givers : Int32) (s_least : Int32) (x1 : Int32) {o : Int32 × Int32 × Int32} (hf : p_X5_take s_total s_givers s_least x1 = o) : kMv l D (kT cI cJ cR) yX5_take cX5_take 2 none rm_X5_take [.ref ad_s, .int x1] [(ad_s, .inr (5, [.int s_law, .int s_named, .int s_linked, .int s_total, .int s_givers, .int s_least]))] 0 0 (fun w => w = [(ad_s, .inr (5, [.int s_law, .int s_named, .int s_linked, .int o.1, .int o.2.1, .int o.2.2]))]) := by
  apply kInV (o := o)
  · decide
  · exact Nat.le_of_ble_eq_true rfl
  intro p e s m args below meth c A ls Q hX hRet hP hD hS hl
  have hx := hX.1.1
  have hb := hX.1.2.1
  have hown := hX.1.2.2.2.1
  have hts := hX.1.2.2.2.2
  have hl : lv_has ls 2 [(0, .ref ad_s), (1, .int x1)] := hl
  have hb39 : ∀ (H : Heap) (locs : List Loc) (s_total : Int32) (s_givers : Int32) (s_least : Int32) (x1 : Int32), va_P D vwCl [(ad_s, .inr (5, [.int s_law, .int s_named, .int s_linked, .int s_total, .int s_givers, .int s_least]))] H → va_D A [(ad_s, .inr (5, [.int s_law, .int s_named, .int s_linked, .int s_total, .int s_givers, .int s_least]))] → va_S A s.heap H locs → ∀ ls : Array Slot, lv_has ls 2 [(0, .ref ad_s), (1, .int x1)] → (p_X5_take_b39) s_total s_givers s_least x1 = o → W p l e rm_X5_take s m args below meth c H locs 0 0 Q (F0 m 39 ls []) := by
    intro H locs s_total s_givers s_least x1 hP hD hS ls hl hf
    unfold p_X5_take_b39 at hf
    refine lv_aload_n hx hb dX5_take_39 rfl (lv_at hl 0 rfl) ?_
    refine lv_iload_n hx hb dX5_take_40 rfl (lv_at hl 1 rfl) ?_
    refine kput hX hP hD hS (q0 := 0) rfl rfl inX5 tyX5_ok nmX5 (k := 5) (by decide) rfl wd208 rfl rfl (Nat.le_of_ble_eq_true rfl) dX5_take_41 (fun H locs hP hD hS => ?_)
    exact hRet _ _ _ _ _ _ hf rfl hP hD hS dX5_take_44
  unfold p_X5_take at hf
  refine lv_aload_n hx hb dX5_take_0 rfl (lv_at hl 0 rfl) ?_
  refine lv_dup hx hb dX5_take_1 rfl ?_
  refine kget hX hP (q0 := 0) rfl rfl inX5 (k := 3) (by decide) rfl wd204 rfl dX5_take_2 ?_
  refine lv_iload_n hx hb dX5_take_5 rfl (lv_at hl 1 rfl) ?_
  refine lv_iadd hx hb dX5_take_6 ?_
  refine kput hX hP hD hS (q0 := 0) rfl rfl inX5 tyX5_ok nmX5 (k := 3) (by decide) rfl wd204 rfl rfl (Nat.le_of_ble_eq_true rfl) dX5_take_7 (fun H locs hP hD hS => ?_)
  refine lv_aload_n hx hb dX5_take_10 rfl (lv_at hl 0 rfl) ?_
  refine lv_dup hx hb dX5_take_11 rfl ?_
  refine kget hX hP (q0 := 0) rfl rfl inX5 (k := 4) (by decide) rfl wd207 rfl dX5_take_12 ?_
  refine lv_iconst (v := 1) hx hb dX5_take_15 (by decide) ?_
  refine lv_iadd hx hb dX5_take_16 ?_
  refine kput hX hP hD hS (q0 := 0) rfl rfl inX5 tyX5_ok nmX5 (k := 4) (by decide) rfl wd207 rfl rfl (Nat.le_of_ble_eq_true rfl) dX5_take_17 (fun H locs hP hD hS => ?_)
  refine lv_iload_n hx hb dX5_take_20 rfl (lv_at hl 1 rfl) ?_
  refine lv_if_le (tgt := 44) hx hb dX5_take_21 (by decide) (fun c21 => ?_) (fun c21 => ?_)
  · replace hf := ip c21 hf
    exact hRet _ _ _ _ _ _ hf rfl hP hD hS dX5_take_44
  · replace hf := iq c21 hf
    refine lv_aload_n hx hb dX5_take_24 rfl (lv_at hl 0 rfl) ?_
    refine kget hX hP (q0 := 0) rfl rfl inX5 (k := 5) (by decide) rfl wd208 rfl dX5_take_25 ?_
    refine lv_if_eq (tgt := 39) hx hb dX5_take_28 (by decide) (fun c28 => ?_) (fun c28 => ?_)
    · replace hf := ip c28 hf
      exact hb39 _ _ (s_total + x1) (s_givers + (1 : Int32)) s_least x1 hP hD hS _ (lv_sub hl [0, 1] rfl) hf
    · replace hf := iq c28 hf
      refine lv_iload_n hx hb dX5_take_31 rfl (lv_at hl 1 rfl) ?_
      refine lv_aload_n hx hb dX5_take_32 rfl (lv_at hl 0 rfl) ?_
      refine kget hX hP (q0 := 0) rfl rfl inX5 (k := 5) (by decide) rfl wd208 rfl dX5_take_33 ?_
      refine lv_icmp_ge (tgt := 44) hx hb dX5_take_36 (by decide) (fun c36 => ?_) (fun c36 => ?_)
      · replace hf := ip c36 hf
        exact hRet _ _ _ _ _ _ hf rfl hP hD hS dX5_take_44
      · replace hf := iq c36 hf
        exact hb39 _ _ (s_total + x1) (s_givers + (1 : Int32)) s_least x1 hP hD hS _ (lv_sub hl [0, 1] rfl) hf
def f_X6_giftOf (N : Nat) (s_crossed : Int32) (s_gifts : (Nat → Int32)) (x1 : Int32) : Option (Int32) :=
  if (p_X6_isCrossed s_crossed x1) = 0 then some ((-9 : Int32)) else if (9 : Int32) ≤ x1 then some ((-9 : Int32)) else gd (inb x1 9 = true) (some ((s_gifts x1.toNatClampNeg)))
abbrev rm_X6_giftOf : Room := { frames := 1, cells := 0, slots := 0, locals := 21 }
set_option maxHeartbeats 4000000 in
set_option maxRecDepth 100000 in
theorem c_X6_giftOf (l : Launch) (D : va_G) (cI cJ cR : ClassId) (N : Nat) (ad_s ad_s_hours ad_s_gifts ad_s_written : Nat) (s_start : Int32) (s_rule : Int32) (s_at : Int32) (s_isBack : Int32) (s_hour : Int32) (s_crossed : Int32) (s_law : Int32) (s_named : Int32) (s_linked : Int32) (s_isThere : Int32) (s_gifts : (Nat → Int32)) (x1 : Int32) {o : Int32} (hf : f_X6_giftOf N s_crossed s_gifts x1 = some o) : kMi l D (kT cI cJ cR) yX6_giftOf cX6_giftOf 2 (some .int) rm_X6_giftOf [.ref ad_s, .int x1] [(ad_s, .inr (6, [.ref ad_s_hours, .ref ad_s_gifts, .ref ad_s_written, .int s_start, .int s_rule, .int s_at, .int s_isBack, .int s_hour, .int s_crossed, .int s_law, .int s_named, .int s_linked, .int s_isThere])), (ad_s_gifts, .inl (cI, 9, .inl s_gifts))] (o) (fun w => w = [(ad_s, .inr (6, [.ref ad_s_hours, .ref ad_s_gifts, .ref ad_s_written, .int s_start, .int s_rule, .int s_at, .int s_isBack, .int s_hour, .int s_crossed, .int s_law, .int s_named, .int s_linked, .int s_isThere])), (ad_s_gifts, .inl (cI, 9, .inl s_gifts))]) := by
  apply kInI (o := o)
  · decide
  · exact Nat.le_of_ble_eq_true rfl
  intro p e s m args below meth c A ls Q hX hRet hP hD hS hl
  have hx := hX.1.1
  have hb := hX.1.2.1
  have hown := hX.1.2.2.2.1
  have hts := hX.1.2.2.2.2
  have hl : lv_has ls 2 [(0, .ref ad_s), (1, .int x1)] := hl
  unfold f_X6_giftOf at hf
  refine lv_aload_n hx hb dX6_giftOf_0 rfl (lv_at hl 0 rfl) ?_
  refine lv_iload_n hx hb dX6_giftOf_1 rfl (lv_at hl 1 rfl) ?_
  refine kVi (rest := []) hX (c_X6_isCrossed l D cI cJ cR ad_s ad_s_hours ad_s_gifts ad_s_written s_start s_rule s_at s_isBack s_hour s_crossed s_law s_named s_linked s_isThere x1 rfl) kc_X6_isCrossed wd526 ⟨Nat.le_of_ble_eq_true rfl, Nat.le_of_ble_eq_true rfl⟩ ⟨rfl, rfl⟩ hP hD hS (ci := 6) rfl rfl (q0 := 0) rfl [0] rfl (by decide) (fun w h => by cases h; rfl) rfl rfl (Nat.le_of_ble_eq_true rfl) hl.1 ⟨Nat.zero_le _, Nat.zero_le _⟩ dX6_giftOf_2 (fun H locs w1 hw1 hP hD hS => ?_)
  cases hw1
  have hP : va_P D vwCl [(ad_s, .inr (6, [.ref ad_s_hours, .ref ad_s_gifts, .ref ad_s_written, .int s_start, .int s_rule, .int s_at, .int s_isBack, .int s_hour, .int s_crossed, .int s_law, .int s_named, .int s_linked, .int s_isThere])), (ad_s_gifts, .inl (cI, 9, .inl s_gifts))] H := hP
  have hD : va_D A [(ad_s, .inr (6, [.ref ad_s_hours, .ref ad_s_gifts, .ref ad_s_written, .int s_start, .int s_rule, .int s_at, .int s_isBack, .int s_hour, .int s_crossed, .int s_law, .int s_named, .int s_linked, .int s_isThere])), (ad_s_gifts, .inl (cI, 9, .inl s_gifts))] := hD
  refine lv_if_eq (tgt := 26) hx hb dX6_giftOf_5 (by decide) (fun c5 => ?_) (fun c5 => ?_)
  · replace hf := ip c5 hf
    refine lv_bipush (v := -9) hx hb dX6_giftOf_26 (by decide) ?_
    exact hRet _ _ _ _ _ _ _ (Option.some.inj hf) rfl rfl hP hD hS dX6_giftOf_28
  · replace hf := iq c5 hf
    refine lv_iload_n hx hb dX6_giftOf_8 rfl (lv_at hl 1 rfl) ?_
    refine lv_aload_n hx hb dX6_giftOf_9 rfl (lv_at hl 0 rfl) ?_
    refine kget hX hP (q0 := 0) rfl rfl inX6 (k := 1) (by decide) rfl wd82 rfl dX6_giftOf_10 ?_
    refine kalen hX hP (t0 := 0) rfl (q0 := 1) rfl (v := (9 : Int32)) rfl dX6_giftOf_13 ?_
    refine lv_icmp_ge (tgt := 26) hx hb dX6_giftOf_14 (by decide) (fun c14 => ?_) (fun c14 => ?_)
    · replace hf := ip c14 hf
      refine lv_bipush (v := -9) hx hb dX6_giftOf_26 (by decide) ?_
      exact hRet _ _ _ _ _ _ _ (Option.some.inj hf) rfl rfl hP hD hS dX6_giftOf_28
    · replace hf := iq c14 hf
      refine lv_aload_n hx hb dX6_giftOf_17 rfl (lv_at hl 0 rfl) ?_
      refine kget hX hP (q0 := 0) rfl rfl inX6 (k := 1) (by decide) rfl wd82 rfl dX6_giftOf_18 ?_
      refine lv_iload_n hx hb dX6_giftOf_21 rfl (lv_at hl 1 rfl) ?_
      obtain ⟨hg22_1, hf⟩ := gd_s hf
      refine kiald hX hP rfl (q0 := 1) rfl (inb_in hg22_1) dX6_giftOf_22 ?_
      refine lv_goto (tgt := 28) hx hb dX6_giftOf_23 (by decide) ?_
      exact hRet _ _ _ _ _ _ _ (Option.some.inj hf) rfl rfl hP hD hS dX6_giftOf_28
def f_X5_layFrom_b30 (N : Nat) (k7 : Int32 → Int32 → Int32 → Int32 → Int32 → Int32 → Int32 → Option (Int32 × Int32 × Int32 × Int32 × Int32 × Int32)) (q1_crossed : Int32) (q1_law : Int32) (q1_named : Int32) (q1_linked : Int32) (q1_gifts : (Nat → Int32)) (s_law : Int32) (s_named : Int32) (s_linked : Int32) (s_total : Int32) (s_givers : Int32) (s_least : Int32) (x2 : Int32) : Option (Int32 × Int32 × Int32 × Int32 × Int32 × Int32) :=
  k7 s_law s_named s_linked s_total s_givers s_least (x2 + (1 : Int32))
def f_X5_layFrom_b7 (N : Nat) (q1_crossed : Int32) (q1_law : Int32) (q1_named : Int32) (q1_linked : Int32) (q1_gifts : (Nat → Int32)) : Nat → Int32 → Int32 → Int32 → Int32 → Int32 → Int32 → Int32 → Option (Int32 × Int32 × Int32 × Int32 × Int32 × Int32)
  | 0, _, _, _, _, _, _, _ => none
  | n7 + 1, s_law, s_named, s_linked, s_total, s_givers, s_least, x2 => if (9 : Int32) ≤ x2 then some (s_law, s_named, s_linked, s_total, s_givers, s_least) else if (p_X6_isCrossed q1_crossed x2) = 0 then (f_X5_layFrom_b30 N (f_X5_layFrom_b7 N q1_crossed q1_law q1_named q1_linked q1_gifts n7) q1_crossed q1_law q1_named q1_linked q1_gifts) s_law s_named s_linked s_total s_givers s_least x2 else bn (f_X6_giftOf N q1_crossed q1_gifts x2) (fun z24_1 => nm (p_X5_take s_total s_givers s_least z24_1) (fun z27_2 => (f_X5_layFrom_b30 N (f_X5_layFrom_b7 N q1_crossed q1_law q1_named q1_linked q1_gifts n7) q1_crossed q1_law q1_named q1_linked q1_gifts) s_law s_named s_linked z27_2.1 z27_2.2.1 z27_2.2.2 x2))
def f_X5_layFrom (N : Nat) (q1_crossed : Int32) (q1_law : Int32) (q1_named : Int32) (q1_linked : Int32) (q1_gifts : (Nat → Int32)) (s_law : Int32) (s_named : Int32) (s_linked : Int32) (s_total : Int32) (s_givers : Int32) (s_least : Int32) : Option (Int32 × Int32 × Int32 × Int32 × Int32 × Int32) :=
  nm (p_X5_copyTermsFrom q1_law q1_named q1_linked s_law s_named s_linked s_total s_givers s_least) (fun z2_1 => (f_X5_layFrom_b7 N q1_crossed q1_law q1_named q1_linked q1_gifts N) z2_1.1 z2_1.2.1 z2_1.2.2.1 z2_1.2.2.2.1 z2_1.2.2.2.2.1 z2_1.2.2.2.2.2 (0 : Int32))
abbrev rm_X5_layFrom : Room := { frames := 2, cells := 0, slots := 0, locals := 42 }
set_option maxHeartbeats 4000000 in
set_option maxRecDepth 100000 in
theorem c_X5_layFrom (l : Launch) (D : va_G) (cI cJ cR : ClassId) (N : Nat) (ad_s ad_q1 ad_q1_hours ad_q1_gifts ad_q1_written : Nat) (s_law : Int32) (s_named : Int32) (s_linked : Int32) (s_total : Int32) (s_givers : Int32) (s_least : Int32) (q1_start : Int32) (q1_rule : Int32) (q1_at : Int32) (q1_isBack : Int32) (q1_hour : Int32) (q1_crossed : Int32) (q1_law : Int32) (q1_named : Int32) (q1_linked : Int32) (q1_isThere : Int32) (q1_gifts : (Nat → Int32)) {o : Int32 × Int32 × Int32 × Int32 × Int32 × Int32} (hf : f_X5_layFrom N q1_crossed q1_law q1_named q1_linked q1_gifts s_law s_named s_linked s_total s_givers s_least = some o) : kMv l D (kT cI cJ cR) yX5_layFrom cX5_layFrom 3 none rm_X5_layFrom [.ref ad_s, .ref ad_q1] [(ad_s, .inr (5, [.int s_law, .int s_named, .int s_linked, .int s_total, .int s_givers, .int s_least])), (ad_q1, .inr (6, [.ref ad_q1_hours, .ref ad_q1_gifts, .ref ad_q1_written, .int q1_start, .int q1_rule, .int q1_at, .int q1_isBack, .int q1_hour, .int q1_crossed, .int q1_law, .int q1_named, .int q1_linked, .int q1_isThere])), (ad_q1_gifts, .inl (cI, 9, .inl q1_gifts))] 0 0 (fun w => w = [(ad_s, .inr (5, [.int o.1, .int o.2.1, .int o.2.2.1, .int o.2.2.2.1, .int o.2.2.2.2.1, .int o.2.2.2.2.2])), (ad_q1, .inr (6, [.ref ad_q1_hours, .ref ad_q1_gifts, .ref ad_q1_written, .int q1_start, .int q1_rule, .int q1_at, .int q1_isBack, .int q1_hour, .int q1_crossed, .int q1_law, .int q1_named, .int q1_linked, .int q1_isThere])), (ad_q1_gifts, .inl (cI, 9, .inl q1_gifts))]) := by
  apply kInV (o := o)
  · decide
  · exact Nat.le_of_ble_eq_true rfl
  intro p e s m args below meth c A ls Q hX hRet hP hD hS hl
  have hx := hX.1.1
  have hb := hX.1.2.1
  have hown := hX.1.2.2.2.1
  have hts := hX.1.2.2.2.2
  have hl : lv_has ls 3 [(0, .ref ad_s), (1, .ref ad_q1)] := hl
  have hb7 : ∀ n7 : Nat, ∀ (H : Heap) (locs : List Loc) (s_law : Int32) (s_named : Int32) (s_linked : Int32) (s_total : Int32) (s_givers : Int32) (s_least : Int32) (x2 : Int32), va_P D vwCl [(ad_s, .inr (5, [.int s_law, .int s_named, .int s_linked, .int s_total, .int s_givers, .int s_least])), (ad_q1, .inr (6, [.ref ad_q1_hours, .ref ad_q1_gifts, .ref ad_q1_written, .int q1_start, .int q1_rule, .int q1_at, .int q1_isBack, .int q1_hour, .int q1_crossed, .int q1_law, .int q1_named, .int q1_linked, .int q1_isThere])), (ad_q1_gifts, .inl (cI, 9, .inl q1_gifts))] H → va_D A [(ad_s, .inr (5, [.int s_law, .int s_named, .int s_linked, .int s_total, .int s_givers, .int s_least])), (ad_q1, .inr (6, [.ref ad_q1_hours, .ref ad_q1_gifts, .ref ad_q1_written, .int q1_start, .int q1_rule, .int q1_at, .int q1_isBack, .int q1_hour, .int q1_crossed, .int q1_law, .int q1_named, .int q1_linked, .int q1_isThere])), (ad_q1_gifts, .inl (cI, 9, .inl q1_gifts))] → va_S A s.heap H locs → ∀ ls : Array Slot, lv_has ls 3 [(0, .ref ad_s), (1, .ref ad_q1), (2, .int x2)] → f_X5_layFrom_b7 N q1_crossed q1_law q1_named q1_linked q1_gifts n7 s_law s_named s_linked s_total s_givers s_least x2 = some o → W p l e rm_X5_layFrom s m args below meth c H locs 0 0 Q (F0 m 7 ls []) := by
    intro n7
    induction n7 with
    | zero =>
      intro H locs s_law s_named s_linked s_total s_givers s_least x2 hP hD hS ls hl hf
      rw [f_X5_layFrom_b7] at hf
      cases hf
    | succ n7 ih7 =>
      have hb30 : ∀ (H : Heap) (locs : List Loc) (s_law : Int32) (s_named : Int32) (s_linked : Int32) (s_total : Int32) (s_givers : Int32) (s_least : Int32) (x2 : Int32), va_P D vwCl [(ad_s, .inr (5, [.int s_law, .int s_named, .int s_linked, .int s_total, .int s_givers, .int s_least])), (ad_q1, .inr (6, [.ref ad_q1_hours, .ref ad_q1_gifts, .ref ad_q1_written, .int q1_start, .int q1_rule, .int q1_at, .int q1_isBack, .int q1_hour, .int q1_crossed, .int q1_law, .int q1_named, .int q1_linked, .int q1_isThere])), (ad_q1_gifts, .inl (cI, 9, .inl q1_gifts))] H → va_D A [(ad_s, .inr (5, [.int s_law, .int s_named, .int s_linked, .int s_total, .int s_givers, .int s_least])), (ad_q1, .inr (6, [.ref ad_q1_hours, .ref ad_q1_gifts, .ref ad_q1_written, .int q1_start, .int q1_rule, .int q1_at, .int q1_isBack, .int q1_hour, .int q1_crossed, .int q1_law, .int q1_named, .int q1_linked, .int q1_isThere])), (ad_q1_gifts, .inl (cI, 9, .inl q1_gifts))] → va_S A s.heap H locs → ∀ ls : Array Slot, lv_has ls 3 [(0, .ref ad_s), (1, .ref ad_q1), (2, .int x2)] → (f_X5_layFrom_b30 N (f_X5_layFrom_b7 N q1_crossed q1_law q1_named q1_linked q1_gifts n7) q1_crossed q1_law q1_named q1_linked q1_gifts) s_law s_named s_linked s_total s_givers s_least x2 = some o → W p l e rm_X5_layFrom s m args below meth c H locs 0 0 Q (F0 m 30 ls []) := by
        intro H locs s_law s_named s_linked s_total s_givers s_least x2 hP hD hS ls hl hf
        unfold f_X5_layFrom_b30 at hf
        refine lv_iinc (v := (x2 + (1 : Int32))) (lv' := [(2, .int (x2 + (1 : Int32))), (0, .ref ad_s), (1, .ref ad_q1)]) hx hb dX5_layFrom_30 hl (k := 2) rfl rfl (by decide) rfl (fun ls hl => ?_)
        refine lv_goto (tgt := 7) hx hb dX5_layFrom_33 (by decide) ?_
        exact ih7 _ _ s_law s_named s_linked s_total s_givers s_least (x2 + (1 : Int32)) hP hD hS _ (lv_sub hl [1, 2, 0] rfl) hf
      intro H locs s_law s_named s_linked s_total s_givers s_least x2 hP hD hS ls hl hf
      rw [f_X5_layFrom_b7] at hf
      refine lv_iload_n hx hb dX5_layFrom_7 rfl (lv_at hl 2 rfl) ?_
      refine lv_bipush (v := 9) hx hb dX5_layFrom_8 (by decide) ?_
      refine lv_icmp_ge (tgt := 36) hx hb dX5_layFrom_10 (by decide) (fun c10 => ?_) (fun c10 => ?_)
      · replace hf := ip c10 hf
        exact hRet _ _ _ _ _ _ (Option.some.inj hf) rfl hP hD hS dX5_layFrom_36
      · replace hf := iq c10 hf
        refine lv_aload_n hx hb dX5_layFrom_13 rfl (lv_at hl 1 rfl) ?_
        refine lv_iload_n hx hb dX5_layFrom_14 rfl (lv_at hl 2 rfl) ?_
        refine kVi (rest := []) hX (c_X6_isCrossed l D cI cJ cR ad_q1 ad_q1_hours ad_q1_gifts ad_q1_written q1_start q1_rule q1_at q1_isBack q1_hour q1_crossed q1_law q1_named q1_linked q1_isThere x2 rfl) kc_X6_isCrossed wd518 ⟨Nat.le_of_ble_eq_true rfl, Nat.le_of_ble_eq_true rfl⟩ ⟨rfl, rfl⟩ hP hD hS (ci := 6) rfl rfl (q0 := 1) rfl [1] rfl (by decide) (fun w h => by cases h; rfl) rfl rfl (Nat.le_of_ble_eq_true rfl) hl.1 ⟨Nat.zero_le _, Nat.zero_le _⟩ dX5_layFrom_15 (fun H locs w1 hw1 hP hD hS => ?_)
        cases hw1
        have hP : va_P D vwCl [(ad_s, .inr (5, [.int s_law, .int s_named, .int s_linked, .int s_total, .int s_givers, .int s_least])), (ad_q1, .inr (6, [.ref ad_q1_hours, .ref ad_q1_gifts, .ref ad_q1_written, .int q1_start, .int q1_rule, .int q1_at, .int q1_isBack, .int q1_hour, .int q1_crossed, .int q1_law, .int q1_named, .int q1_linked, .int q1_isThere])), (ad_q1_gifts, .inl (cI, 9, .inl q1_gifts))] H := hP
        have hD : va_D A [(ad_s, .inr (5, [.int s_law, .int s_named, .int s_linked, .int s_total, .int s_givers, .int s_least])), (ad_q1, .inr (6, [.ref ad_q1_hours, .ref ad_q1_gifts, .ref ad_q1_written, .int q1_start, .int q1_rule, .int q1_at, .int q1_isBack, .int q1_hour, .int q1_crossed, .int q1_law, .int q1_named, .int q1_linked, .int q1_isThere])), (ad_q1_gifts, .inl (cI, 9, .inl q1_gifts))] := hD
        refine lv_if_eq (tgt := 30) hx hb dX5_layFrom_18 (by decide) (fun c18 => ?_) (fun c18 => ?_)
        · replace hf := ip c18 hf
          exact hb30 _ _ s_law s_named s_linked s_total s_givers s_least x2 hP hD hS _ (lv_sub hl [0, 1, 2] rfl) hf
        · replace hf := iq c18 hf
          refine lv_aload_n hx hb dX5_layFrom_21 rfl (lv_at hl 0 rfl) ?_
          refine lv_aload_n hx hb dX5_layFrom_22 rfl (lv_at hl 1 rfl) ?_
          refine lv_iload_n hx hb dX5_layFrom_23 rfl (lv_at hl 2 rfl) ?_
          obtain ⟨z24_1, hz24_1, hf⟩ := bn_s hf
          refine kVi (rest := [.ref ad_s]) hX (c_X6_giftOf l D cI cJ cR N ad_q1 ad_q1_hours ad_q1_gifts ad_q1_written q1_start q1_rule q1_at q1_isBack q1_hour q1_crossed q1_law q1_named q1_linked q1_isThere q1_gifts x2 hz24_1) kc_X6_giftOf wd522 ⟨Nat.le_of_ble_eq_true rfl, Nat.le_of_ble_eq_true rfl⟩ ⟨rfl, rfl⟩ hP hD hS (ci := 6) rfl rfl (q0 := 1) rfl [1, 2] rfl (by decide) (fun w h => by cases h; rfl) rfl rfl (Nat.le_of_ble_eq_true rfl) hl.1 ⟨Nat.zero_le _, Nat.zero_le _⟩ dX5_layFrom_24 (fun H locs w1 hw1 hP hD hS => ?_)
          cases hw1
          have hP : va_P D vwCl [(ad_s, .inr (5, [.int s_law, .int s_named, .int s_linked, .int s_total, .int s_givers, .int s_least])), (ad_q1, .inr (6, [.ref ad_q1_hours, .ref ad_q1_gifts, .ref ad_q1_written, .int q1_start, .int q1_rule, .int q1_at, .int q1_isBack, .int q1_hour, .int q1_crossed, .int q1_law, .int q1_named, .int q1_linked, .int q1_isThere])), (ad_q1_gifts, .inl (cI, 9, .inl q1_gifts))] H := hP
          have hD : va_D A [(ad_s, .inr (5, [.int s_law, .int s_named, .int s_linked, .int s_total, .int s_givers, .int s_least])), (ad_q1, .inr (6, [.ref ad_q1_hours, .ref ad_q1_gifts, .ref ad_q1_written, .int q1_start, .int q1_rule, .int q1_at, .int q1_isBack, .int q1_hour, .int q1_crossed, .int q1_law, .int q1_named, .int q1_linked, .int q1_isThere])), (ad_q1_gifts, .inl (cI, 9, .inl q1_gifts))] := hD
          obtain ⟨z27_2, hz27_2⟩ : ∃ z, z = p_X5_take s_total s_givers s_least z24_1 := ⟨_, rfl⟩
          replace hf := nm_s hz27_2 hf
          refine kVv (rest := []) hX (c_X5_take l D cI cJ cR ad_s s_law s_named s_linked s_total s_givers s_least z24_1 hz27_2.symm) kc_X5_take wd527 ⟨Nat.le_of_ble_eq_true rfl, Nat.le_of_ble_eq_true rfl⟩ ⟨rfl, rfl⟩ hP hD hS (ci := 5) rfl rfl (q0 := 0) rfl [0] rfl (by decide) (fun w h => by cases h; rfl) rfl rfl (Nat.le_of_ble_eq_true rfl) hl.1 ⟨Nat.zero_le _, Nat.zero_le _⟩ dX5_layFrom_27 (fun H locs w1 hw1 hP hD hS => ?_)
          cases hw1
          have hP : va_P D vwCl [(ad_s, .inr (5, [.int s_law, .int s_named, .int s_linked, .int z27_2.1, .int z27_2.2.1, .int z27_2.2.2])), (ad_q1, .inr (6, [.ref ad_q1_hours, .ref ad_q1_gifts, .ref ad_q1_written, .int q1_start, .int q1_rule, .int q1_at, .int q1_isBack, .int q1_hour, .int q1_crossed, .int q1_law, .int q1_named, .int q1_linked, .int q1_isThere])), (ad_q1_gifts, .inl (cI, 9, .inl q1_gifts))] H := hP
          have hD : va_D A [(ad_s, .inr (5, [.int s_law, .int s_named, .int s_linked, .int z27_2.1, .int z27_2.2.1, .int z27_2.2.2])), (ad_q1, .inr (6, [.ref ad_q1_hours, .ref ad_q1_gifts, .ref ad_q1_written, .int q1_start, .int q1_rule, .int q1_at, .int q1_isBack, .int q1_hour, .int q1_crossed, .int q1_law, .int q1_named, .int q1_linked, .int q1_isThere])), (ad_q1_gifts, .inl (cI, 9, .inl q1_gifts))] := hD
          exact hb30 _ _ s_law s_named s_linked z27_2.1 z27_2.2.1 z27_2.2.2 x2 hP hD hS _ (lv_sub hl [0, 1, 2] rfl) hf
  unfold f_X5_layFrom at hf
  refine lv_aload_n hx hb dX5_layFrom_0 rfl (lv_at hl 0 rfl) ?_
  refine lv_aload_n hx hb dX5_layFrom_1 rfl (lv_at hl 1 rfl) ?_
  obtain ⟨z2_1, hz2_1⟩ : ∃ z, z = p_X5_copyTermsFrom q1_law q1_named q1_linked s_law s_named s_linked s_total s_givers s_least := ⟨_, rfl⟩
  replace hf := nm_s hz2_1 hf
  refine kVv (rest := []) hX (c_X5_copyTermsFrom l D cI cJ cR ad_s ad_q1 ad_q1_hours ad_q1_gifts ad_q1_written s_law s_named s_linked s_total s_givers s_least q1_start q1_rule q1_at q1_isBack q1_hour q1_crossed q1_law q1_named q1_linked q1_isThere hz2_1.symm) kc_X5_copyTermsFrom wd510 ⟨Nat.le_of_ble_eq_true rfl, Nat.le_of_ble_eq_true rfl⟩ ⟨rfl, rfl⟩ hP hD hS (ci := 5) rfl rfl (q0 := 0) rfl [0, 1] rfl (by decide) (fun w h => by cases h; rfl) rfl rfl (Nat.le_of_ble_eq_true rfl) hl.1 ⟨Nat.zero_le _, Nat.zero_le _⟩ dX5_layFrom_2 (fun H locs w1 hw1 hP hD hS => ?_)
  cases hw1
  have hP : va_P D vwCl [(ad_s, .inr (5, [.int z2_1.1, .int z2_1.2.1, .int z2_1.2.2.1, .int z2_1.2.2.2.1, .int z2_1.2.2.2.2.1, .int z2_1.2.2.2.2.2])), (ad_q1, .inr (6, [.ref ad_q1_hours, .ref ad_q1_gifts, .ref ad_q1_written, .int q1_start, .int q1_rule, .int q1_at, .int q1_isBack, .int q1_hour, .int q1_crossed, .int q1_law, .int q1_named, .int q1_linked, .int q1_isThere])), (ad_q1_gifts, .inl (cI, 9, .inl q1_gifts))] H := hP
  have hD : va_D A [(ad_s, .inr (5, [.int z2_1.1, .int z2_1.2.1, .int z2_1.2.2.1, .int z2_1.2.2.2.1, .int z2_1.2.2.2.2.1, .int z2_1.2.2.2.2.2])), (ad_q1, .inr (6, [.ref ad_q1_hours, .ref ad_q1_gifts, .ref ad_q1_written, .int q1_start, .int q1_rule, .int q1_at, .int q1_isBack, .int q1_hour, .int q1_crossed, .int q1_law, .int q1_named, .int q1_linked, .int q1_isThere])), (ad_q1_gifts, .inl (cI, 9, .inl q1_gifts))] := hD
  refine lv_iconst (v := 0) hx hb dX5_layFrom_5 (by decide) ?_
  refine lv_istore_n (lv' := [(2, .int (0 : Int32)), (0, .ref ad_s), (1, .ref ad_q1)]) hx hb dX5_layFrom_6 rfl hl (by decide) rfl (fun ls hl => ?_)
  exact hb7 N _ _ z2_1.1 z2_1.2.1 z2_1.2.2.1 z2_1.2.2.2.1 z2_1.2.2.2.2.1 z2_1.2.2.2.2.2 (0 : Int32) hP hD hS _ (lv_sub hl [1, 2, 0] rfl) hf
def p_X5_copyFrom (q1_law : Int32) (q1_named : Int32) (q1_linked : Int32) (q1_total : Int32) (q1_givers : Int32) (q1_least : Int32) (s_law : Int32) (s_named : Int32) (s_linked : Int32) (s_total : Int32) (s_givers : Int32) (s_least : Int32) : (Int32 × Int32 × Int32 × Int32 × Int32 × Int32) :=
  (q1_law, q1_named, q1_linked, q1_total, q1_givers, q1_least)
abbrev rm_X5_copyFrom : Room := { frames := 0, cells := 0, slots := 0, locals := 0 }
set_option maxHeartbeats 4000000 in
set_option maxRecDepth 100000 in
theorem c_X5_copyFrom (l : Launch) (D : va_G) (cI cJ cR : ClassId) (ad_s ad_q1 : Nat) (s_law : Int32) (s_named : Int32) (s_linked : Int32) (s_total : Int32) (s_givers : Int32) (s_least : Int32) (q1_law : Int32) (q1_named : Int32) (q1_linked : Int32) (q1_total : Int32) (q1_givers : Int32) (q1_least : Int32) {o : Int32 × Int32 × Int32 × Int32 × Int32 × Int32} (hf : p_X5_copyFrom q1_law q1_named q1_linked q1_total q1_givers q1_least s_law s_named s_linked s_total s_givers s_least = o) : kMv l D (kT cI cJ cR) yX5_copyFrom cX5_copyFrom 2 none rm_X5_copyFrom [.ref ad_s, .ref ad_q1] [(ad_s, .inr (5, [.int s_law, .int s_named, .int s_linked, .int s_total, .int s_givers, .int s_least])), (ad_q1, .inr (5, [.int q1_law, .int q1_named, .int q1_linked, .int q1_total, .int q1_givers, .int q1_least]))] 0 0 (fun w => w = [(ad_s, .inr (5, [.int o.1, .int o.2.1, .int o.2.2.1, .int o.2.2.2.1, .int o.2.2.2.2.1, .int o.2.2.2.2.2])), (ad_q1, .inr (5, [.int q1_law, .int q1_named, .int q1_linked, .int q1_total, .int q1_givers, .int q1_least]))]) := by
  apply kInV (o := o)
  · decide
  · exact Nat.le_of_ble_eq_true rfl
  intro p e s m args below meth c A ls Q hX hRet hP hD hS hl
  have hx := hX.1.1
  have hb := hX.1.2.1
  have hown := hX.1.2.2.2.1
  have hts := hX.1.2.2.2.2
  have hl : lv_has ls 2 [(0, .ref ad_s), (1, .ref ad_q1)] := hl
  unfold p_X5_copyFrom at hf
  refine lv_aload_n hx hb dX5_copyFrom_0 rfl (lv_at hl 0 rfl) ?_
  refine lv_aload_n hx hb dX5_copyFrom_1 rfl (lv_at hl 1 rfl) ?_
  refine kget hX hP (q0 := 1) rfl rfl inX5 (k := 0) (by decide) rfl wd199 rfl dX5_copyFrom_2 ?_
  refine kput hX hP hD hS (q0 := 0) rfl rfl inX5 tyX5_ok nmX5 (k := 0) (by decide) rfl wd199 rfl rfl (Nat.le_of_ble_eq_true rfl) dX5_copyFrom_5 (fun H locs hP hD hS => ?_)
  refine lv_aload_n hx hb dX5_copyFrom_8 rfl (lv_at hl 0 rfl) ?_
  refine lv_aload_n hx hb dX5_copyFrom_9 rfl (lv_at hl 1 rfl) ?_
  refine kget hX hP (q0 := 1) rfl rfl inX5 (k := 1) (by decide) rfl wd201 rfl dX5_copyFrom_10 ?_
  refine kput hX hP hD hS (q0 := 0) rfl rfl inX5 tyX5_ok nmX5 (k := 1) (by decide) rfl wd201 rfl rfl (Nat.le_of_ble_eq_true rfl) dX5_copyFrom_13 (fun H locs hP hD hS => ?_)
  refine lv_aload_n hx hb dX5_copyFrom_16 rfl (lv_at hl 0 rfl) ?_
  refine lv_aload_n hx hb dX5_copyFrom_17 rfl (lv_at hl 1 rfl) ?_
  refine kget hX hP (q0 := 1) rfl rfl inX5 (k := 2) (by decide) rfl wd203 rfl dX5_copyFrom_18 ?_
  refine kput hX hP hD hS (q0 := 0) rfl rfl inX5 tyX5_ok nmX5 (k := 2) (by decide) rfl wd203 rfl rfl (Nat.le_of_ble_eq_true rfl) dX5_copyFrom_21 (fun H locs hP hD hS => ?_)
  refine lv_aload_n hx hb dX5_copyFrom_24 rfl (lv_at hl 0 rfl) ?_
  refine lv_aload_n hx hb dX5_copyFrom_25 rfl (lv_at hl 1 rfl) ?_
  refine kget hX hP (q0 := 1) rfl rfl inX5 (k := 3) (by decide) rfl wd204 rfl dX5_copyFrom_26 ?_
  refine kput hX hP hD hS (q0 := 0) rfl rfl inX5 tyX5_ok nmX5 (k := 3) (by decide) rfl wd204 rfl rfl (Nat.le_of_ble_eq_true rfl) dX5_copyFrom_29 (fun H locs hP hD hS => ?_)
  refine lv_aload_n hx hb dX5_copyFrom_32 rfl (lv_at hl 0 rfl) ?_
  refine lv_aload_n hx hb dX5_copyFrom_33 rfl (lv_at hl 1 rfl) ?_
  refine kget hX hP (q0 := 1) rfl rfl inX5 (k := 4) (by decide) rfl wd207 rfl dX5_copyFrom_34 ?_
  refine kput hX hP hD hS (q0 := 0) rfl rfl inX5 tyX5_ok nmX5 (k := 4) (by decide) rfl wd207 rfl rfl (Nat.le_of_ble_eq_true rfl) dX5_copyFrom_37 (fun H locs hP hD hS => ?_)
  refine lv_aload_n hx hb dX5_copyFrom_40 rfl (lv_at hl 0 rfl) ?_
  refine lv_aload_n hx hb dX5_copyFrom_41 rfl (lv_at hl 1 rfl) ?_
  refine kget hX hP (q0 := 1) rfl rfl inX5 (k := 5) (by decide) rfl wd208 rfl dX5_copyFrom_42 ?_
  refine kput hX hP hD hS (q0 := 0) rfl rfl inX5 tyX5_ok nmX5 (k := 5) (by decide) rfl wd208 rfl rfl (Nat.le_of_ble_eq_true rfl) dX5_copyFrom_45 (fun H locs hP hD hS => ?_)
  exact hRet _ _ _ _ _ _ hf rfl hP hD hS dX5_copyFrom_48
def f_X5_ownOf (N : Nat) (s_law : Int32) (s_total : Int32) (s_givers : Int32) (q1_number : Int32) (q1_facts : (Nat → Int32)) (x2 : Int32) : Option (Int32) :=
  nm (p_X1_fact q1_number q1_facts x2 (1 : Int32)) (fun v6 => if s_law = (1 : Int32) then some (((v6 * (p_X1_fact q1_number q1_facts x2 (2 : Int32))) / (9 : Int32))) else if s_law = (2 : Int32) then if s_givers ≤ 0 then some (v6) else gd (¬ s_givers = 0) (some (((v6 + (s_total / s_givers)) / (2 : Int32)))) else some (v6))
abbrev rm_X5_ownOf : Room := { frames := 1, cells := 0, slots := 0, locals := 23 }
set_option maxHeartbeats 4000000 in
set_option maxRecDepth 100000 in
theorem c_X5_ownOf (l : Launch) (D : va_G) (cI cJ cR : ClassId) (N : Nat) (ad_s ad_q1 ad_q1_facts : Nat) (s_law : Int32) (s_named : Int32) (s_linked : Int32) (s_total : Int32) (s_givers : Int32) (s_least : Int32) (q1_number : Int32) (q1_facts : (Nat → Int32)) (x2 : Int32) {o : Int32} (hf : f_X5_ownOf N s_law s_total s_givers q1_number q1_facts x2 = some o) : kMi l D (kT cI cJ cR) yX5_ownOf cX5_ownOf 4 (some .int) rm_X5_ownOf [.ref ad_s, .ref ad_q1, .int x2] [(ad_s, .inr (5, [.int s_law, .int s_named, .int s_linked, .int s_total, .int s_givers, .int s_least])), (ad_q1, .inr (1, [.ref ad_q1_facts, .int q1_number])), (ad_q1_facts, .inl (cI, 54, .inl q1_facts))] (o) (fun w => w = [(ad_s, .inr (5, [.int s_law, .int s_named, .int s_linked, .int s_total, .int s_givers, .int s_least])), (ad_q1, .inr (1, [.ref ad_q1_facts, .int q1_number])), (ad_q1_facts, .inl (cI, 54, .inl q1_facts))]) := by
  apply kInI (o := o)
  · decide
  · exact Nat.le_of_ble_eq_true rfl
  intro p e s m args below meth c A ls Q hX hRet hP hD hS hl
  have hx := hX.1.1
  have hb := hX.1.2.1
  have hown := hX.1.2.2.2.1
  have hts := hX.1.2.2.2.2
  have hl : lv_has ls 4 [(0, .ref ad_s), (1, .ref ad_q1), (2, .int x2)] := hl
  unfold f_X5_ownOf at hf
  refine lv_aload_n hx hb dX5_ownOf_0 rfl (lv_at hl 1 rfl) ?_
  refine lv_iload_n hx hb dX5_ownOf_1 rfl (lv_at hl 2 rfl) ?_
  refine lv_iconst (v := 1) hx hb dX5_ownOf_2 (by decide) ?_
  refine kVi (rest := []) hX (c_X1_fact l D cI cJ cR ad_q1 ad_q1_facts q1_number q1_facts x2 (1 : Int32) rfl) kc_X1_fact wd557 ⟨Nat.le_of_ble_eq_true rfl, Nat.le_of_ble_eq_true rfl⟩ ⟨rfl, rfl⟩ hP hD hS (ci := 1) rfl rfl (q0 := 1) rfl [1, 2] rfl (by decide) (fun w h => by cases h; rfl) rfl rfl (Nat.le_of_ble_eq_true rfl) hl.1 ⟨Nat.zero_le _, Nat.zero_le _⟩ dX5_ownOf_3 (fun H locs w1 hw1 hP hD hS => ?_)
  cases hw1
  have hP : va_P D vwCl [(ad_s, .inr (5, [.int s_law, .int s_named, .int s_linked, .int s_total, .int s_givers, .int s_least])), (ad_q1, .inr (1, [.ref ad_q1_facts, .int q1_number])), (ad_q1_facts, .inl (cI, 54, .inl q1_facts))] H := hP
  have hD : va_D A [(ad_s, .inr (5, [.int s_law, .int s_named, .int s_linked, .int s_total, .int s_givers, .int s_least])), (ad_q1, .inr (1, [.ref ad_q1_facts, .int q1_number])), (ad_q1_facts, .inl (cI, 54, .inl q1_facts))] := hD
  refine lv_topi (fun v6 ev6 => ?_)
  replace hf := nm_s ev6 hf
  refine lv_istore_n (lv' := [(3, .int v6), (0, .ref ad_s), (1, .ref ad_q1), (2, .int x2)]) hx hb dX5_ownOf_6 rfl hl (by decide) rfl (fun ls hl => ?_)
  refine lv_aload_n hx hb dX5_ownOf_7 rfl (lv_at hl 1 rfl) ?_
  refine kget hX hP (q0 := 0) rfl rfl inX5 (k := 0) (by decide) rfl wd199 rfl dX5_ownOf_8 ?_
  refine lv_iconst (v := 1) hx hb dX5_ownOf_11 (by decide) ?_
  refine lv_icmp_ne (tgt := 27) hx hb dX5_ownOf_12 (by decide) (fun c12 => ?_) (fun c12 => ?_)
  · replace hf := iq c12 hf
    refine lv_aload_n hx hb dX5_ownOf_27 rfl (lv_at hl 1 rfl) ?_
    refine kget hX hP (q0 := 0) rfl rfl inX5 (k := 0) (by decide) rfl wd199 rfl dX5_ownOf_28 ?_
    refine lv_iconst (v := 2) hx hb dX5_ownOf_31 (by decide) ?_
    refine lv_icmp_ne (tgt := 56) hx hb dX5_ownOf_32 (by decide) (fun c32 => ?_) (fun c32 => ?_)
    · replace hf := iq c32 hf
      refine lv_iload_n hx hb dX5_ownOf_56 rfl (lv_at hl 0 rfl) ?_
      exact hRet _ _ _ _ _ _ _ (Option.some.inj hf) rfl rfl hP hD hS dX5_ownOf_57
    · replace hf := ip c32 hf
      refine lv_aload_n hx hb dX5_ownOf_35 rfl (lv_at hl 1 rfl) ?_
      refine kget hX hP (q0 := 0) rfl rfl inX5 (k := 4) (by decide) rfl wd207 rfl dX5_ownOf_36 ?_
      refine lv_if_le (tgt := 56) hx hb dX5_ownOf_39 (by decide) (fun c39 => ?_) (fun c39 => ?_)
      · replace hf := ip c39 hf
        refine lv_iload_n hx hb dX5_ownOf_56 rfl (lv_at hl 0 rfl) ?_
        exact hRet _ _ _ _ _ _ _ (Option.some.inj hf) rfl rfl hP hD hS dX5_ownOf_57
      · replace hf := iq c39 hf
        refine lv_iload_n hx hb dX5_ownOf_42 rfl (lv_at hl 0 rfl) ?_
        refine lv_aload_n hx hb dX5_ownOf_43 rfl (lv_at hl 1 rfl) ?_
        refine kget hX hP (q0 := 0) rfl rfl inX5 (k := 3) (by decide) rfl wd204 rfl dX5_ownOf_44 ?_
        refine lv_aload_n hx hb dX5_ownOf_47 rfl (lv_at hl 1 rfl) ?_
        refine kget hX hP (q0 := 0) rfl rfl inX5 (k := 4) (by decide) rfl wd207 rfl dX5_ownOf_48 ?_
        obtain ⟨hn51_1, hf⟩ := gd_s hf
        refine lv_idiv hx hb dX5_ownOf_51 hn51_1 ?_
        refine lv_iadd hx hb dX5_ownOf_52 ?_
        refine lv_iconst (v := 2) hx hb dX5_ownOf_53 (by decide) ?_
        refine lv_idiv hx hb dX5_ownOf_54 (by decide) ?_
        exact hRet _ _ _ _ _ _ _ (Option.some.inj hf) rfl rfl hP hD hS dX5_ownOf_55
  · replace hf := ip c12 hf
    refine lv_iload_n hx hb dX5_ownOf_15 rfl (lv_at hl 0 rfl) ?_
    refine lv_aload_n hx hb dX5_ownOf_16 rfl (lv_at hl 2 rfl) ?_
    refine lv_iload_n hx hb dX5_ownOf_17 rfl (lv_at hl 3 rfl) ?_
    refine lv_iconst (v := 2) hx hb dX5_ownOf_18 (by decide) ?_
    refine kVi (rest := [.int v6]) hX (c_X1_fact l D cI cJ cR ad_q1 ad_q1_facts q1_number q1_facts x2 (2 : Int32) rfl) kc_X1_fact wd557 ⟨Nat.le_of_ble_eq_true rfl, Nat.le_of_ble_eq_true rfl⟩ ⟨rfl, rfl⟩ hP hD hS (ci := 1) rfl rfl (q0 := 1) rfl [1, 2] rfl (by decide) (fun w h => by cases h; rfl) rfl rfl (Nat.le_of_ble_eq_true rfl) hl.1 ⟨Nat.zero_le _, Nat.zero_le _⟩ dX5_ownOf_19 (fun H locs w1 hw1 hP hD hS => ?_)
    cases hw1
    have hP : va_P D vwCl [(ad_s, .inr (5, [.int s_law, .int s_named, .int s_linked, .int s_total, .int s_givers, .int s_least])), (ad_q1, .inr (1, [.ref ad_q1_facts, .int q1_number])), (ad_q1_facts, .inl (cI, 54, .inl q1_facts))] H := hP
    have hD : va_D A [(ad_s, .inr (5, [.int s_law, .int s_named, .int s_linked, .int s_total, .int s_givers, .int s_least])), (ad_q1, .inr (1, [.ref ad_q1_facts, .int q1_number])), (ad_q1_facts, .inl (cI, 54, .inl q1_facts))] := hD
    refine lv_imul hx hb dX5_ownOf_22 ?_
    refine lv_bipush (v := 9) hx hb dX5_ownOf_23 (by decide) ?_
    refine lv_idiv hx hb dX5_ownOf_25 (by decide) ?_
    exact hRet _ _ _ _ _ _ _ (Option.some.inj hf) rfl rfl hP hD hS dX5_ownOf_26
def f_X5_wouldGive_b29 (N : Nat) (s_law : Int32) (s_named : Int32) (s_linked : Int32) (s_total : Int32) (s_givers : Int32) (s_least : Int32) (q1_number : Int32) (q1_facts : (Nat → Int32)) (x3 : Int32) : Option (Int32) :=
  if s_linked = (1 : Int32) then some ((if x3 < s_least then s_least else x3)) else some (x3)
def f_X5_wouldGive (N : Nat) (s_law : Int32) (s_named : Int32) (s_linked : Int32) (s_total : Int32) (s_givers : Int32) (s_least : Int32) (q1_number : Int32) (q1_facts : (Nat → Int32)) (x2 : Int32) : Option (Int32) :=
  bn (f_X5_ownOf N s_law s_total s_givers q1_number q1_facts x2) (fun z3_1 => (f_X5_wouldGive_b29 N s_law s_named s_linked s_total s_givers s_least q1_number q1_facts) (if s_named ≤ 0 then z3_1 else (if ((2 : Int32) * z3_1) < s_named then z3_1 else s_named)))
abbrev rm_X5_wouldGive : Room := { frames := 2, cells := 0, slots := 0, locals := 46 }
set_option maxHeartbeats 4000000 in
set_option maxRecDepth 100000 in
theorem c_X5_wouldGive (l : Launch) (D : va_G) (cI cJ cR : ClassId) (N : Nat) (ad_s ad_q1 ad_q1_facts : Nat) (s_law : Int32) (s_named : Int32) (s_linked : Int32) (s_total : Int32) (s_givers : Int32) (s_least : Int32) (q1_number : Int32) (q1_facts : (Nat → Int32)) (x2 : Int32) {o : Int32} (hf : f_X5_wouldGive N s_law s_named s_linked s_total s_givers s_least q1_number q1_facts x2 = some o) : kMi l D (kT cI cJ cR) yX5_wouldGive cX5_wouldGive 4 (some .int) rm_X5_wouldGive [.ref ad_s, .ref ad_q1, .int x2] [(ad_s, .inr (5, [.int s_law, .int s_named, .int s_linked, .int s_total, .int s_givers, .int s_least])), (ad_q1, .inr (1, [.ref ad_q1_facts, .int q1_number])), (ad_q1_facts, .inl (cI, 54, .inl q1_facts))] (o) (fun w => w = [(ad_s, .inr (5, [.int s_law, .int s_named, .int s_linked, .int s_total, .int s_givers, .int s_least])), (ad_q1, .inr (1, [.ref ad_q1_facts, .int q1_number])), (ad_q1_facts, .inl (cI, 54, .inl q1_facts))]) := by
  apply kInI (o := o)
  · decide
  · exact Nat.le_of_ble_eq_true rfl
  intro p e s m args below meth c A ls Q hX hRet hP hD hS hl
  have hx := hX.1.1
  have hb := hX.1.2.1
  have hown := hX.1.2.2.2.1
  have hts := hX.1.2.2.2.2
  have hl : lv_has ls 4 [(0, .ref ad_s), (1, .ref ad_q1), (2, .int x2)] := hl
  have hb29 : ∀ (H : Heap) (locs : List Loc) (x3 : Int32), va_P D vwCl [(ad_s, .inr (5, [.int s_law, .int s_named, .int s_linked, .int s_total, .int s_givers, .int s_least])), (ad_q1, .inr (1, [.ref ad_q1_facts, .int q1_number])), (ad_q1_facts, .inl (cI, 54, .inl q1_facts))] H → va_D A [(ad_s, .inr (5, [.int s_law, .int s_named, .int s_linked, .int s_total, .int s_givers, .int s_least])), (ad_q1, .inr (1, [.ref ad_q1_facts, .int q1_number])), (ad_q1_facts, .inl (cI, 54, .inl q1_facts))] → va_S A s.heap H locs → ∀ ls : Array Slot, lv_has ls 4 [(0, .ref ad_s), (3, .int x3)] → (f_X5_wouldGive_b29 N s_law s_named s_linked s_total s_givers s_least q1_number q1_facts) x3 = some o → W p l e rm_X5_wouldGive s m args below meth c H locs 0 0 Q (F0 m 29 ls []) := by
    intro H locs x3 hP hD hS ls hl hf
    unfold f_X5_wouldGive_b29 at hf
    refine lv_aload_n hx hb dX5_wouldGive_29 rfl (lv_at hl 0 rfl) ?_
    refine kget hX hP (q0 := 0) rfl rfl inX5 (k := 2) (by decide) rfl wd203 rfl dX5_wouldGive_30 ?_
    refine lv_iconst (v := 1) hx hb dX5_wouldGive_33 (by decide) ?_
    refine lv_icmp_ne (tgt := 48) hx hb dX5_wouldGive_34 (by decide) (fun c34 => ?_) (fun c34 => ?_)
    · replace hf := iq c34 hf
      refine lv_iload_n hx hb dX5_wouldGive_48 rfl (lv_at hl 1 rfl) ?_
      exact hRet _ _ _ _ _ _ _ (Option.some.inj hf) rfl rfl hP hD hS dX5_wouldGive_49
    · replace hf := ip c34 hf
      refine lv_iload_n hx hb dX5_wouldGive_37 rfl (lv_at hl 1 rfl) ?_
      refine lv_aload_n hx hb dX5_wouldGive_38 rfl (lv_at hl 0 rfl) ?_
      refine kget hX hP (q0 := 0) rfl rfl inX5 (k := 5) (by decide) rfl wd208 rfl dX5_wouldGive_39 ?_
      refine va_mmax hx hb (hX.1.2.2.1.trans hl.1.symm) hown (hts _ (List.mem_cons_of_mem _ wd558)) (hts _ (List.mem_cons_of_mem _ wd47)) (hts _ (List.mem_cons_of_mem _ wd20)) (hts _ (List.mem_cons_of_mem _ wd48)) (Nat.le_of_ble_eq_true rfl) (Nat.le_of_ble_eq_true rfl) (Nat.le_of_ble_eq_true rfl) (Nat.le_of_ble_eq_true rfl) dX5_wouldGive_42 ?_
      refine lv_goto (tgt := 49) hx hb dX5_wouldGive_45 (by decide) ?_
      exact hRet _ _ _ _ _ _ _ (Option.some.inj hf) rfl rfl hP hD hS dX5_wouldGive_49
  unfold f_X5_wouldGive at hf
  refine lv_aload_n hx hb dX5_wouldGive_0 rfl (lv_at hl 0 rfl) ?_
  refine lv_aload_n hx hb dX5_wouldGive_1 rfl (lv_at hl 1 rfl) ?_
  refine lv_iload_n hx hb dX5_wouldGive_2 rfl (lv_at hl 2 rfl) ?_
  obtain ⟨z3_1, hz3_1, hf⟩ := bn_s hf
  refine kVi (rest := []) hX (c_X5_ownOf l D cI cJ cR N ad_s ad_q1 ad_q1_facts s_law s_named s_linked s_total s_givers s_least q1_number q1_facts x2 hz3_1) kc_X5_ownOf wd553 ⟨Nat.le_of_ble_eq_true rfl, Nat.le_of_ble_eq_true rfl⟩ ⟨rfl, rfl⟩ hP hD hS (ci := 5) rfl rfl (q0 := 0) rfl [0, 1, 2] rfl (by decide) (fun w h => by cases h; rfl) rfl rfl (Nat.le_of_ble_eq_true rfl) hl.1 ⟨Nat.zero_le _, Nat.zero_le _⟩ dX5_wouldGive_3 (fun H locs w1 hw1 hP hD hS => ?_)
  cases hw1
  have hP : va_P D vwCl [(ad_s, .inr (5, [.int s_law, .int s_named, .int s_linked, .int s_total, .int s_givers, .int s_least])), (ad_q1, .inr (1, [.ref ad_q1_facts, .int q1_number])), (ad_q1_facts, .inl (cI, 54, .inl q1_facts))] H := hP
  have hD : va_D A [(ad_s, .inr (5, [.int s_law, .int s_named, .int s_linked, .int s_total, .int s_givers, .int s_least])), (ad_q1, .inr (1, [.ref ad_q1_facts, .int q1_number])), (ad_q1_facts, .inl (cI, 54, .inl q1_facts))] := hD
  refine lv_istore_n (lv' := [(3, .int z3_1), (0, .ref ad_s), (1, .ref ad_q1), (2, .int x2)]) hx hb dX5_wouldGive_6 rfl hl (by decide) rfl (fun ls hl => ?_)
  refine lv_aload_n hx hb dX5_wouldGive_7 rfl (lv_at hl 1 rfl) ?_
  refine kget hX hP (q0 := 0) rfl rfl inX5 (k := 1) (by decide) rfl wd201 rfl dX5_wouldGive_8 ?_
  refine lv_if_le (tgt := 29) hx hb dX5_wouldGive_11 (by decide) (fun c11 => ?_) (fun c11 => ?_)
  · simp only [if_pos c11] at hf
    exact hb29 _ _ z3_1 hP hD hS _ (lv_sub hl [1, 0] rfl) hf
  · simp only [if_neg c11] at hf
    refine lv_iconst (v := 2) hx hb dX5_wouldGive_14 (by decide) ?_
    refine lv_iload_n hx hb dX5_wouldGive_15 rfl (lv_at hl 0 rfl) ?_
    refine lv_imul hx hb dX5_wouldGive_16 ?_
    refine lv_aload_n hx hb dX5_wouldGive_17 rfl (lv_at hl 1 rfl) ?_
    refine kget hX hP (q0 := 0) rfl rfl inX5 (k := 1) (by decide) rfl wd201 rfl dX5_wouldGive_18 ?_
    refine lv_icmp_lt (tgt := 29) hx hb dX5_wouldGive_21 (by decide) (fun c21 => ?_) (fun c21 => ?_)
    · simp only [if_pos c21] at hf
      exact hb29 _ _ z3_1 hP hD hS _ (lv_sub hl [1, 0] rfl) hf
    · simp only [if_neg c21] at hf
      refine lv_aload_n hx hb dX5_wouldGive_24 rfl (lv_at hl 1 rfl) ?_
      refine kget hX hP (q0 := 0) rfl rfl inX5 (k := 1) (by decide) rfl wd201 rfl dX5_wouldGive_25 ?_
      refine lv_istore_n (lv' := [(3, .int s_named), (0, .ref ad_s), (1, .ref ad_q1), (2, .int x2)]) hx hb dX5_wouldGive_28 rfl hl (by decide) rfl (fun ls hl => ?_)
      exact hb29 _ _ s_named hP hD hS _ (lv_sub hl [1, 0] rfl) hf
def f_X5_gives (N : Nat) (s_law : Int32) (s_named : Int32) (s_linked : Int32) (s_total : Int32) (s_givers : Int32) (s_least : Int32) (q1_number : Int32) (q1_facts : (Nat → Int32)) (x2 : Int32) : Option (Int32) :=
  if (p_X1_isOfKind q1_number q1_facts x2 (5 : Int32)) = 0 then bn (f_X5_wouldGive N s_law s_named s_linked s_total s_givers s_least q1_number q1_facts x2) (fun z19_1 => some (z19_1)) else some (s_linked)
abbrev rm_X5_gives : Room := { frames := 3, cells := 0, slots := 0, locals := 69 }
set_option maxHeartbeats 4000000 in
set_option maxRecDepth 100000 in
theorem c_X5_gives (l : Launch) (D : va_G) (cI cJ cR : ClassId) (N : Nat) (ad_s ad_q1 ad_q1_facts : Nat) (s_law : Int32) (s_named : Int32) (s_linked : Int32) (s_total : Int32) (s_givers : Int32) (s_least : Int32) (q1_number : Int32) (q1_facts : (Nat → Int32)) (x2 : Int32) {o : Int32} (hf : f_X5_gives N s_law s_named s_linked s_total s_givers s_least q1_number q1_facts x2 = some o) : kMi l D (kT cI cJ cR) yX5_gives cX5_gives 3 (some .int) rm_X5_gives [.ref ad_s, .ref ad_q1, .int x2] [(ad_s, .inr (5, [.int s_law, .int s_named, .int s_linked, .int s_total, .int s_givers, .int s_least])), (ad_q1, .inr (1, [.ref ad_q1_facts, .int q1_number])), (ad_q1_facts, .inl (cI, 54, .inl q1_facts))] (o) (fun w => w = [(ad_s, .inr (5, [.int s_law, .int s_named, .int s_linked, .int s_total, .int s_givers, .int s_least])), (ad_q1, .inr (1, [.ref ad_q1_facts, .int q1_number])), (ad_q1_facts, .inl (cI, 54, .inl q1_facts))]) := by
  apply kInI (o := o)
  · decide
  · exact Nat.le_of_ble_eq_true rfl
  intro p e s m args below meth c A ls Q hX hRet hP hD hS hl
  have hx := hX.1.1
  have hb := hX.1.2.1
  have hown := hX.1.2.2.2.1
  have hts := hX.1.2.2.2.2
  have hl : lv_has ls 3 [(0, .ref ad_s), (1, .ref ad_q1), (2, .int x2)] := hl
  unfold f_X5_gives at hf
  refine lv_aload_n hx hb dX5_gives_0 rfl (lv_at hl 1 rfl) ?_
  refine lv_iload_n hx hb dX5_gives_1 rfl (lv_at hl 2 rfl) ?_
  refine lv_iconst (v := 5) hx hb dX5_gives_2 (by decide) ?_
  refine kVi (rest := []) hX (c_X1_isOfKind l D cI cJ cR ad_q1 ad_q1_facts q1_number q1_facts x2 (5 : Int32) rfl) kc_X1_isOfKind wd548 ⟨Nat.le_of_ble_eq_true rfl, Nat.le_of_ble_eq_true rfl⟩ ⟨rfl, rfl⟩ hP hD hS (ci := 1) rfl rfl (q0 := 1) rfl [1, 2] rfl (by decide) (fun w h => by cases h; rfl) rfl rfl (Nat.le_of_ble_eq_true rfl) hl.1 ⟨Nat.zero_le _, Nat.zero_le _⟩ dX5_gives_3 (fun H locs w1 hw1 hP hD hS => ?_)
  cases hw1
  have hP : va_P D vwCl [(ad_s, .inr (5, [.int s_law, .int s_named, .int s_linked, .int s_total, .int s_givers, .int s_least])), (ad_q1, .inr (1, [.ref ad_q1_facts, .int q1_number])), (ad_q1_facts, .inl (cI, 54, .inl q1_facts))] H := hP
  have hD : va_D A [(ad_s, .inr (5, [.int s_law, .int s_named, .int s_linked, .int s_total, .int s_givers, .int s_least])), (ad_q1, .inr (1, [.ref ad_q1_facts, .int q1_number])), (ad_q1_facts, .inl (cI, 54, .inl q1_facts))] := hD
  refine lv_if_eq (tgt := 16) hx hb dX5_gives_6 (by decide) (fun c6 => ?_) (fun c6 => ?_)
  · replace hf := ip c6 hf
    refine lv_aload_n hx hb dX5_gives_16 rfl (lv_at hl 0 rfl) ?_
    refine lv_aload_n hx hb dX5_gives_17 rfl (lv_at hl 1 rfl) ?_
    refine lv_iload_n hx hb dX5_gives_18 rfl (lv_at hl 2 rfl) ?_
    obtain ⟨z19_1, hz19_1, hf⟩ := bn_s hf
    refine kVi (rest := []) hX (c_X5_wouldGive l D cI cJ cR N ad_s ad_q1 ad_q1_facts s_law s_named s_linked s_total s_givers s_least q1_number q1_facts x2 hz19_1) kc_X5_wouldGive wd549 ⟨Nat.le_of_ble_eq_true rfl, Nat.le_of_ble_eq_true rfl⟩ ⟨rfl, rfl⟩ hP hD hS (ci := 5) rfl rfl (q0 := 0) rfl [0, 1, 2] rfl (by decide) (fun w h => by cases h; rfl) rfl rfl (Nat.le_of_ble_eq_true rfl) hl.1 ⟨Nat.zero_le _, Nat.zero_le _⟩ dX5_gives_19 (fun H locs w1 hw1 hP hD hS => ?_)
    cases hw1
    have hP : va_P D vwCl [(ad_s, .inr (5, [.int s_law, .int s_named, .int s_linked, .int s_total, .int s_givers, .int s_least])), (ad_q1, .inr (1, [.ref ad_q1_facts, .int q1_number])), (ad_q1_facts, .inl (cI, 54, .inl q1_facts))] H := hP
    have hD : va_D A [(ad_s, .inr (5, [.int s_law, .int s_named, .int s_linked, .int s_total, .int s_givers, .int s_least])), (ad_q1, .inr (1, [.ref ad_q1_facts, .int q1_number])), (ad_q1_facts, .inl (cI, 54, .inl q1_facts))] := hD
    exact hRet _ _ _ _ _ _ _ (Option.some.inj hf) rfl rfl hP hD hS dX5_gives_22
  · replace hf := iq c6 hf
    refine lv_aload_n hx hb dX5_gives_9 rfl (lv_at hl 0 rfl) ?_
    refine kget hX hP (q0 := 0) rfl rfl inX5 (k := 2) (by decide) rfl wd203 rfl dX5_gives_10 ?_
    refine lv_goto (tgt := 22) hx hb dX5_gives_13 (by decide) ?_
    exact hRet _ _ _ _ _ _ _ (Option.some.inj hf) rfl rfl hP hD hS dX5_gives_22
def p_X6_beginAt (s_start : Int32) (s_rule : Int32) (s_at : Int32) (s_isBack : Int32) (s_hour : Int32) (s_crossed : Int32) (x1 : Int32) (x2 : Int32) : (Int32 × Int32 × Int32 × Int32 × Int32 × Int32) :=
  (x1, x2, x1, (0 : Int32), (0 : Int32), (0 : Int32))
abbrev rm_X6_beginAt : Room := { frames := 0, cells := 0, slots := 0, locals := 0 }
set_option maxHeartbeats 4000000 in
set_option maxRecDepth 100000 in
theorem c_X6_beginAt (l : Launch) (D : va_G) (cI cJ cR : ClassId) (ad_s ad_s_hours ad_s_gifts ad_s_written : Nat) (s_start : Int32) (s_rule : Int32) (s_at : Int32) (s_isBack : Int32) (s_hour : Int32) (s_crossed : Int32) (s_law : Int32) (s_named : Int32) (s_linked : Int32) (s_isThere : Int32) (x1 : Int32) (x2 : Int32) {o : Int32 × Int32 × Int32 × Int32 × Int32 × Int32} (hf : p_X6_beginAt s_start s_rule s_at s_isBack s_hour s_crossed x1 x2 = o) : kMv l D (kT cI cJ cR) yX6_beginAt cX6_beginAt 3 none rm_X6_beginAt [.ref ad_s, .int x1, .int x2] [(ad_s, .inr (6, [.ref ad_s_hours, .ref ad_s_gifts, .ref ad_s_written, .int s_start, .int s_rule, .int s_at, .int s_isBack, .int s_hour, .int s_crossed, .int s_law, .int s_named, .int s_linked, .int s_isThere]))] 0 0 (fun w => w = [(ad_s, .inr (6, [.ref ad_s_hours, .ref ad_s_gifts, .ref ad_s_written, .int o.1, .int o.2.1, .int o.2.2.1, .int o.2.2.2.1, .int o.2.2.2.2.1, .int o.2.2.2.2.2, .int s_law, .int s_named, .int s_linked, .int s_isThere]))]) := by
  apply kInV (o := o)
  · decide
  · exact Nat.le_of_ble_eq_true rfl
  intro p e s m args below meth c A ls Q hX hRet hP hD hS hl
  have hx := hX.1.1
  have hb := hX.1.2.1
  have hown := hX.1.2.2.2.1
  have hts := hX.1.2.2.2.2
  have hl : lv_has ls 3 [(0, .ref ad_s), (1, .int x1), (2, .int x2)] := hl
  unfold p_X6_beginAt at hf
  refine lv_aload_n hx hb dX6_beginAt_0 rfl (lv_at hl 0 rfl) ?_
  refine lv_iload_n hx hb dX6_beginAt_1 rfl (lv_at hl 1 rfl) ?_
  refine kput hX hP hD hS (q0 := 0) rfl rfl inX6 tyX6_ok nmX6 (k := 3) (by decide) rfl wd84 rfl rfl (Nat.le_of_ble_eq_true rfl) dX6_beginAt_2 (fun H locs hP hD hS => ?_)
  refine lv_aload_n hx hb dX6_beginAt_5 rfl (lv_at hl 0 rfl) ?_
  refine lv_iload_n hx hb dX6_beginAt_6 rfl (lv_at hl 2 rfl) ?_
  refine kput hX hP hD hS (q0 := 0) rfl rfl inX6 tyX6_ok nmX6 (k := 4) (by decide) rfl wd86 rfl rfl (Nat.le_of_ble_eq_true rfl) dX6_beginAt_7 (fun H locs hP hD hS => ?_)
  refine lv_aload_n hx hb dX6_beginAt_10 rfl (lv_at hl 0 rfl) ?_
  refine lv_iload_n hx hb dX6_beginAt_11 rfl (lv_at hl 1 rfl) ?_
  refine kput hX hP hD hS (q0 := 0) rfl rfl inX6 tyX6_ok nmX6 (k := 5) (by decide) rfl wd89 rfl rfl (Nat.le_of_ble_eq_true rfl) dX6_beginAt_12 (fun H locs hP hD hS => ?_)
  refine lv_aload_n hx hb dX6_beginAt_15 rfl (lv_at hl 0 rfl) ?_
  refine lv_iconst (v := 0) hx hb dX6_beginAt_16 (by decide) ?_
  refine kput hX hP hD hS (q0 := 0) rfl rfl inX6 tyX6_ok nmX6 (k := 6) (by decide) rfl wd92 rfl rfl (Nat.le_of_ble_eq_true rfl) dX6_beginAt_17 (fun H locs hP hD hS => ?_)
  refine lv_aload_n hx hb dX6_beginAt_20 rfl (lv_at hl 0 rfl) ?_
  refine lv_iconst (v := 0) hx hb dX6_beginAt_21 (by decide) ?_
  refine kput hX hP hD hS (q0 := 0) rfl rfl inX6 tyX6_ok nmX6 (k := 7) (by decide) rfl wd95 rfl rfl (Nat.le_of_ble_eq_true rfl) dX6_beginAt_22 (fun H locs hP hD hS => ?_)
  refine lv_aload_n hx hb dX6_beginAt_25 rfl (lv_at hl 0 rfl) ?_
  refine lv_iconst (v := 0) hx hb dX6_beginAt_26 (by decide) ?_
  refine kput hX hP hD hS (q0 := 0) rfl rfl inX6 tyX6_ok nmX6 (k := 8) (by decide) rfl wd98 rfl rfl (Nat.le_of_ble_eq_true rfl) dX6_beginAt_27 (fun H locs hP hD hS => ?_)
  exact hRet _ _ _ _ _ _ hf rfl hP hD hS dX6_beginAt_30
def p_X6_reset (s_start : Int32) (s_rule : Int32) (s_at : Int32) (s_isBack : Int32) (s_hour : Int32) (s_crossed : Int32) (s_law : Int32) (s_named : Int32) (s_linked : Int32) : (Int32 × Int32 × Int32 × Int32 × Int32 × Int32 × Int32 × Int32 × Int32) :=
  nm (p_X6_beginAt s_start s_rule s_at s_isBack s_hour s_crossed (0 : Int32) (0 : Int32)) (fun z18_1 => (z18_1.1, z18_1.2.1, z18_1.2.2.1, z18_1.2.2.2.1, z18_1.2.2.2.2.1, z18_1.2.2.2.2.2, (0 : Int32), (0 : Int32), (0 : Int32)))
abbrev rm_X6_reset : Room := { frames := 1, cells := 0, slots := 0, locals := 22 }
set_option maxHeartbeats 4000000 in
set_option maxRecDepth 100000 in
theorem c_X6_reset (l : Launch) (D : va_G) (cI cJ cR : ClassId) (ad_s ad_s_hours ad_s_gifts ad_s_written : Nat) (s_start : Int32) (s_rule : Int32) (s_at : Int32) (s_isBack : Int32) (s_hour : Int32) (s_crossed : Int32) (s_law : Int32) (s_named : Int32) (s_linked : Int32) (s_isThere : Int32) {o : Int32 × Int32 × Int32 × Int32 × Int32 × Int32 × Int32 × Int32 × Int32} (hf : p_X6_reset s_start s_rule s_at s_isBack s_hour s_crossed s_law s_named s_linked = o) : kMv l D (kT cI cJ cR) yX6_reset cX6_reset 1 none rm_X6_reset [.ref ad_s] [(ad_s, .inr (6, [.ref ad_s_hours, .ref ad_s_gifts, .ref ad_s_written, .int s_start, .int s_rule, .int s_at, .int s_isBack, .int s_hour, .int s_crossed, .int s_law, .int s_named, .int s_linked, .int s_isThere]))] 0 0 (fun w => w = [(ad_s, .inr (6, [.ref ad_s_hours, .ref ad_s_gifts, .ref ad_s_written, .int o.1, .int o.2.1, .int o.2.2.1, .int o.2.2.2.1, .int o.2.2.2.2.1, .int o.2.2.2.2.2.1, .int o.2.2.2.2.2.2.1, .int o.2.2.2.2.2.2.2.1, .int o.2.2.2.2.2.2.2.2, .int s_isThere]))]) := by
  apply kInV (o := o)
  · decide
  · exact Nat.le_of_ble_eq_true rfl
  intro p e s m args below meth c A ls Q hX hRet hP hD hS hl
  have hx := hX.1.1
  have hb := hX.1.2.1
  have hown := hX.1.2.2.2.1
  have hts := hX.1.2.2.2.2
  have hl : lv_has ls 1 [(0, .ref ad_s)] := hl
  unfold p_X6_reset at hf
  refine lv_aload_n hx hb dX6_reset_0 rfl (lv_at hl 0 rfl) ?_
  refine lv_iconst (v := 0) hx hb dX6_reset_1 (by decide) ?_
  refine kput hX hP hD hS (q0 := 0) rfl rfl inX6 tyX6_ok nmX6 (k := 9) (by decide) rfl wd101 rfl rfl (Nat.le_of_ble_eq_true rfl) dX6_reset_2 (fun H locs hP hD hS => ?_)
  refine lv_aload_n hx hb dX6_reset_5 rfl (lv_at hl 0 rfl) ?_
  refine lv_iconst (v := 0) hx hb dX6_reset_6 (by decide) ?_
  refine kput hX hP hD hS (q0 := 0) rfl rfl inX6 tyX6_ok nmX6 (k := 10) (by decide) rfl wd104 rfl rfl (Nat.le_of_ble_eq_true rfl) dX6_reset_7 (fun H locs hP hD hS => ?_)
  refine lv_aload_n hx hb dX6_reset_10 rfl (lv_at hl 0 rfl) ?_
  refine lv_iconst (v := 0) hx hb dX6_reset_11 (by decide) ?_
  refine kput hX hP hD hS (q0 := 0) rfl rfl inX6 tyX6_ok nmX6 (k := 11) (by decide) rfl wd107 rfl rfl (Nat.le_of_ble_eq_true rfl) dX6_reset_12 (fun H locs hP hD hS => ?_)
  refine lv_aload_n hx hb dX6_reset_15 rfl (lv_at hl 0 rfl) ?_
  refine lv_iconst (v := 0) hx hb dX6_reset_16 (by decide) ?_
  refine lv_iconst (v := 0) hx hb dX6_reset_17 (by decide) ?_
  obtain ⟨z18_1, hz18_1⟩ : ∃ z, z = p_X6_beginAt s_start s_rule s_at s_isBack s_hour s_crossed (0 : Int32) (0 : Int32) := ⟨_, rfl⟩
  replace hf := nm_s hz18_1 hf
  refine kVv (rest := []) hX (c_X6_beginAt l D cI cJ cR ad_s ad_s_hours ad_s_gifts ad_s_written s_start s_rule s_at s_isBack s_hour s_crossed (0 : Int32) (0 : Int32) (0 : Int32) s_isThere (0 : Int32) (0 : Int32) hz18_1.symm) kc_X6_beginAt wd995 ⟨Nat.le_of_ble_eq_true rfl, Nat.le_of_ble_eq_true rfl⟩ ⟨rfl, rfl⟩ hP hD hS (ci := 6) rfl rfl (q0 := 0) rfl [0] rfl (by decide) (fun w h => by cases h; rfl) rfl rfl (Nat.le_of_ble_eq_true rfl) hl.1 ⟨Nat.zero_le _, Nat.zero_le _⟩ dX6_reset_18 (fun H locs w1 hw1 hP hD hS => ?_)
  cases hw1
  have hP : va_P D vwCl [(ad_s, .inr (6, [.ref ad_s_hours, .ref ad_s_gifts, .ref ad_s_written, .int z18_1.1, .int z18_1.2.1, .int z18_1.2.2.1, .int z18_1.2.2.2.1, .int z18_1.2.2.2.2.1, .int z18_1.2.2.2.2.2, .int (0 : Int32), .int (0 : Int32), .int (0 : Int32), .int s_isThere]))] H := hP
  have hD : va_D A [(ad_s, .inr (6, [.ref ad_s_hours, .ref ad_s_gifts, .ref ad_s_written, .int z18_1.1, .int z18_1.2.1, .int z18_1.2.2.1, .int z18_1.2.2.2.1, .int z18_1.2.2.2.2.1, .int z18_1.2.2.2.2.2, .int (0 : Int32), .int (0 : Int32), .int (0 : Int32), .int s_isThere]))] := hD
  exact hRet _ _ _ _ _ _ hf rfl hP hD hS dX6_reset_21
def f_X6_copyCells_b2 (N : Nat) (n_q0 : Nat) (n_q1 : Nat) (q0 : (Nat → Int32)) : Nat → (Nat → Int32) → Int32 → Option ((Nat → Int32))
  | 0, _, _ => none
  | n2 + 1, q1, x2 => if (Int32.ofNat n_q0) ≤ x2 then some (q1) else if (Int32.ofNat n_q1) ≤ x2 then some (q1) else gd (inb x2 n_q0 = true) (gd (inb x2 n_q1 = true) ((f_X6_copyCells_b2 N n_q0 n_q1 q0 n2) (upd q1 x2.toNatClampNeg (q0 x2.toNatClampNeg)) (x2 + (1 : Int32))))
def f_X6_copyCells (N : Nat) (n_q0 : Nat) (n_q1 : Nat) (q0 : (Nat → Int32)) (q1 : (Nat → Int32)) : Option ((Nat → Int32)) :=
  (f_X6_copyCells_b2 N n_q0 n_q1 q0 N) q1 (0 : Int32)
abbrev rm_X6_copyCells : Room := { frames := 0, cells := 0, slots := 0, locals := 0 }
set_option maxHeartbeats 4000000 in
set_option maxRecDepth 100000 in
theorem c_X6_copyCells (l : Launch) (D : va_G) (cI cJ cR : ClassId) (N : Nat) (ad_q0 ad_q1 : Nat) (n_q0 : Nat) (n_q1 : Nat) (h_n_q0 : n_q0 < 2147483648) (h_n_q1 : n_q1 < 2147483648) (q0 : (Nat → Int32)) (q1 : (Nat → Int32)) {o : (Nat → Int32)} (hf : f_X6_copyCells N n_q0 n_q1 q0 q1 = some o) : kMv l D (kT cI cJ cR) yX6_copyCells cX6_copyCells 3 none rm_X6_copyCells [.ref ad_q0, .ref ad_q1] [(ad_q0, .inl (cI, n_q0, .inl q0)), (ad_q1, .inl (cI, n_q1, .inl q1))] 0 0 (fun w => w = [(ad_q0, .inl (cI, n_q0, .inl q0)), (ad_q1, .inl (cI, n_q1, .inl o))]) := by
  apply kInV (o := o)
  · decide
  · exact Nat.le_of_ble_eq_true rfl
  intro p e s m args below meth c A ls Q hX hRet hP hD hS hl
  have hx := hX.1.1
  have hb := hX.1.2.1
  have hown := hX.1.2.2.2.1
  have hts := hX.1.2.2.2.2
  have hl : lv_has ls 3 [(0, .ref ad_q0), (1, .ref ad_q1)] := hl
  have hb2 : ∀ n2 : Nat, ∀ (H : Heap) (locs : List Loc) (q1 : (Nat → Int32)) (x2 : Int32), va_P D vwCl [(ad_q0, .inl (cI, n_q0, .inl q0)), (ad_q1, .inl (cI, n_q1, .inl q1))] H → va_D A [(ad_q0, .inl (cI, n_q0, .inl q0)), (ad_q1, .inl (cI, n_q1, .inl q1))] → va_S A s.heap H locs → ∀ ls : Array Slot, lv_has ls 3 [(0, .ref ad_q0), (1, .ref ad_q1), (2, .int x2)] → f_X6_copyCells_b2 N n_q0 n_q1 q0 n2 q1 x2 = some o → W p l e rm_X6_copyCells s m args below meth c H locs 0 0 Q (F0 m 2 ls []) := by
    intro n2
    induction n2 with
    | zero =>
      intro H locs q1 x2 hP hD hS ls hl hf
      rw [f_X6_copyCells_b2] at hf
      cases hf
    | succ n2 ih2 =>
      intro H locs q1 x2 hP hD hS ls hl hf
      rw [f_X6_copyCells_b2] at hf
      refine lv_iload_n hx hb dX6_copyCells_2 rfl (lv_at hl 2 rfl) ?_
      refine lv_aload_n hx hb dX6_copyCells_3 rfl (lv_at hl 0 rfl) ?_
      refine kalen hX hP (t0 := 0) rfl (q0 := 0) rfl (v := (Int32.ofNat n_q0)) rfl dX6_copyCells_4 ?_
      refine lv_icmp_ge (tgt := 26) hx hb dX6_copyCells_5 (by decide) (fun c5 => ?_) (fun c5 => ?_)
      · replace hf := ip c5 hf
        exact hRet _ _ _ _ _ _ (Option.some.inj hf) rfl hP hD hS dX6_copyCells_26
      · replace hf := iq c5 hf
        refine lv_iload_n hx hb dX6_copyCells_8 rfl (lv_at hl 2 rfl) ?_
        refine lv_aload_n hx hb dX6_copyCells_9 rfl (lv_at hl 1 rfl) ?_
        refine kalen hX hP (t0 := 0) rfl (q0 := 1) rfl (v := (Int32.ofNat n_q1)) rfl dX6_copyCells_10 ?_
        refine lv_icmp_ge (tgt := 26) hx hb dX6_copyCells_11 (by decide) (fun c11 => ?_) (fun c11 => ?_)
        · replace hf := ip c11 hf
          exact hRet _ _ _ _ _ _ (Option.some.inj hf) rfl hP hD hS dX6_copyCells_26
        · replace hf := iq c11 hf
          refine lv_aload_n hx hb dX6_copyCells_14 rfl (lv_at hl 1 rfl) ?_
          refine lv_iload_n hx hb dX6_copyCells_15 rfl (lv_at hl 2 rfl) ?_
          refine lv_aload_n hx hb dX6_copyCells_16 rfl (lv_at hl 0 rfl) ?_
          refine lv_iload_n hx hb dX6_copyCells_17 rfl (lv_at hl 2 rfl) ?_
          obtain ⟨hg18_1, hf⟩ := gd_s hf
          refine kiald hX hP rfl (q0 := 0) rfl (inb_in hg18_1) dX6_copyCells_18 ?_
          obtain ⟨hg19_2, hf⟩ := gd_s hf
          refine kiast hX hP hD hS rfl (q0 := 1) rfl (inb_in hg19_2) dX6_copyCells_19 (fun H locs hP hD hS => ?_)
          refine lv_iinc (v := (x2 + (1 : Int32))) (lv' := [(2, .int (x2 + (1 : Int32))), (0, .ref ad_q0), (1, .ref ad_q1)]) hx hb dX6_copyCells_20 hl (k := 2) rfl rfl (by decide) rfl (fun ls hl => ?_)
          refine lv_goto (tgt := 2) hx hb dX6_copyCells_23 (by decide) ?_
          exact ih2 _ _ (upd q1 x2.toNatClampNeg (q0 x2.toNatClampNeg)) (x2 + (1 : Int32)) hP hD hS _ (lv_sub hl [1, 2, 0] rfl) hf
  unfold f_X6_copyCells at hf
  refine lv_iconst (v := 0) hx hb dX6_copyCells_0 (by decide) ?_
  refine lv_istore_n (lv' := [(2, .int (0 : Int32)), (0, .ref ad_q0), (1, .ref ad_q1)]) hx hb dX6_copyCells_1 rfl hl (by decide) rfl (fun ls hl => ?_)
  exact hb2 N _ _ q1 (0 : Int32) hP hD hS _ (lv_sub hl [1, 2, 0] rfl) hf
def f_X6_copyFrom (N : Nat) (q1_start : Int32) (q1_rule : Int32) (q1_at : Int32) (q1_isBack : Int32) (q1_hour : Int32) (q1_crossed : Int32) (q1_law : Int32) (q1_named : Int32) (q1_linked : Int32) (q1_hours : (Nat → Int32)) (q1_gifts : (Nat → Int32)) (q1_written : (Nat → Int32)) (s_start : Int32) (s_rule : Int32) (s_at : Int32) (s_isBack : Int32) (s_hour : Int32) (s_crossed : Int32) (s_law : Int32) (s_named : Int32) (s_linked : Int32) (s_hours : (Nat → Int32)) (s_gifts : (Nat → Int32)) (s_written : (Nat → Int32)) : Option (Int32 × Int32 × Int32 × Int32 × Int32 × Int32 × Int32 × Int32 × Int32 × (Nat → Int32) × (Nat → Int32) × (Nat → Int32)) :=
  bn (f_X6_copyCells N 9 9 q1_hours s_hours) (fun z8_1 => bn (f_X6_copyCells N 9 9 q1_gifts s_gifts) (fun z19_2 => bn (f_X6_copyCells N 9 9 q1_written s_written) (fun z30_3 => gd (q1_isBack = 0 ∨ q1_isBack = 1) (some (q1_start, q1_rule, q1_at, q1_isBack, q1_hour, q1_crossed, q1_law, q1_named, q1_linked, z8_1, z19_2, z30_3)))))
abbrev rm_X6_copyFrom : Room := { frames := 1, cells := 0, slots := 0, locals := 22 }
set_option maxHeartbeats 4000000 in
set_option maxRecDepth 100000 in
theorem c_X6_copyFrom (l : Launch) (D : va_G) (cI cJ cR : ClassId) (N : Nat) (ad_s ad_s_hours ad_s_gifts ad_s_written ad_q1 ad_q1_hours ad_q1_gifts ad_q1_written : Nat) (s_start : Int32) (s_rule : Int32) (s_at : Int32) (s_isBack : Int32) (s_hour : Int32) (s_crossed : Int32) (s_law : Int32) (s_named : Int32) (s_linked : Int32) (s_isThere : Int32) (s_hours : (Nat → Int32)) (s_gifts : (Nat → Int32)) (s_written : (Nat → Int32)) (q1_start : Int32) (q1_rule : Int32) (q1_at : Int32) (q1_isBack : Int32) (q1_hour : Int32) (q1_crossed : Int32) (q1_law : Int32) (q1_named : Int32) (q1_linked : Int32) (q1_isThere : Int32) (q1_hours : (Nat → Int32)) (q1_gifts : (Nat → Int32)) (q1_written : (Nat → Int32)) {o : Int32 × Int32 × Int32 × Int32 × Int32 × Int32 × Int32 × Int32 × Int32 × (Nat → Int32) × (Nat → Int32) × (Nat → Int32)} (hf : f_X6_copyFrom N q1_start q1_rule q1_at q1_isBack q1_hour q1_crossed q1_law q1_named q1_linked q1_hours q1_gifts q1_written s_start s_rule s_at s_isBack s_hour s_crossed s_law s_named s_linked s_hours s_gifts s_written = some o) : kMv l D (kT cI cJ cR) yX6_copyFrom cX6_copyFrom 2 none rm_X6_copyFrom [.ref ad_s, .ref ad_q1] [(ad_s, .inr (6, [.ref ad_s_hours, .ref ad_s_gifts, .ref ad_s_written, .int s_start, .int s_rule, .int s_at, .int s_isBack, .int s_hour, .int s_crossed, .int s_law, .int s_named, .int s_linked, .int s_isThere])), (ad_s_hours, .inl (cI, 9, .inl s_hours)), (ad_s_gifts, .inl (cI, 9, .inl s_gifts)), (ad_s_written, .inl (cI, 9, .inl s_written)), (ad_q1, .inr (6, [.ref ad_q1_hours, .ref ad_q1_gifts, .ref ad_q1_written, .int q1_start, .int q1_rule, .int q1_at, .int q1_isBack, .int q1_hour, .int q1_crossed, .int q1_law, .int q1_named, .int q1_linked, .int q1_isThere])), (ad_q1_hours, .inl (cI, 9, .inl q1_hours)), (ad_q1_gifts, .inl (cI, 9, .inl q1_gifts)), (ad_q1_written, .inl (cI, 9, .inl q1_written))] 0 0 (fun w => w = [(ad_s, .inr (6, [.ref ad_s_hours, .ref ad_s_gifts, .ref ad_s_written, .int o.1, .int o.2.1, .int o.2.2.1, .int o.2.2.2.1, .int o.2.2.2.2.1, .int o.2.2.2.2.2.1, .int o.2.2.2.2.2.2.1, .int o.2.2.2.2.2.2.2.1, .int o.2.2.2.2.2.2.2.2.1, .int s_isThere])), (ad_s_hours, .inl (cI, 9, .inl o.2.2.2.2.2.2.2.2.2.1)), (ad_s_gifts, .inl (cI, 9, .inl o.2.2.2.2.2.2.2.2.2.2.1)), (ad_s_written, .inl (cI, 9, .inl o.2.2.2.2.2.2.2.2.2.2.2)), (ad_q1, .inr (6, [.ref ad_q1_hours, .ref ad_q1_gifts, .ref ad_q1_written, .int q1_start, .int q1_rule, .int q1_at, .int q1_isBack, .int q1_hour, .int q1_crossed, .int q1_law, .int q1_named, .int q1_linked, .int q1_isThere])), (ad_q1_hours, .inl (cI, 9, .inl q1_hours)), (ad_q1_gifts, .inl (cI, 9, .inl q1_gifts)), (ad_q1_written, .inl (cI, 9, .inl q1_written))]) := by
  apply kInV (o := o)
  · decide
  · exact Nat.le_of_ble_eq_true rfl
  intro p e s m args below meth c A ls Q hX hRet hP hD hS hl
  have hx := hX.1.1
  have hb := hX.1.2.1
  have hown := hX.1.2.2.2.1
  have hts := hX.1.2.2.2.2
  have hl : lv_has ls 2 [(0, .ref ad_s), (1, .ref ad_q1)] := hl
  unfold f_X6_copyFrom at hf
  refine lv_aload_n hx hb dX6_copyFrom_0 rfl (lv_at hl 1 rfl) ?_
  refine kget hX hP (q0 := 4) rfl rfl inX6 (k := 0) (by decide) rfl wd81 rfl dX6_copyFrom_1 ?_
  refine lv_aload_n hx hb dX6_copyFrom_4 rfl (lv_at hl 0 rfl) ?_
  refine kget hX hP (q0 := 0) rfl rfl inX6 (k := 0) (by decide) rfl wd81 rfl dX6_copyFrom_5 ?_
  obtain ⟨z8_1, hz8_1, hf⟩ := bn_s hf
  refine kSv (rest := []) hX (c_X6_copyCells l D cI cJ cR N ad_q1_hours ad_s_hours 9 9 (by decide) (by decide) q1_hours s_hours hz8_1) kc_X6_copyCells wd613 ⟨Nat.le_of_ble_eq_true rfl, Nat.le_of_ble_eq_true rfl⟩ ⟨rfl, rfl⟩ hP hD hS [5, 1] rfl (by decide) (fun w h => by cases h; rfl) rfl rfl (Nat.le_of_ble_eq_true rfl) hl.1 ⟨Nat.zero_le _, Nat.zero_le _⟩ dX6_copyFrom_8 (fun H locs w1 hw1 hP hD hS => ?_)
  cases hw1
  have hP : va_P D vwCl [(ad_s, .inr (6, [.ref ad_s_hours, .ref ad_s_gifts, .ref ad_s_written, .int s_start, .int s_rule, .int s_at, .int s_isBack, .int s_hour, .int s_crossed, .int s_law, .int s_named, .int s_linked, .int s_isThere])), (ad_s_hours, .inl (cI, 9, .inl z8_1)), (ad_s_gifts, .inl (cI, 9, .inl s_gifts)), (ad_s_written, .inl (cI, 9, .inl s_written)), (ad_q1, .inr (6, [.ref ad_q1_hours, .ref ad_q1_gifts, .ref ad_q1_written, .int q1_start, .int q1_rule, .int q1_at, .int q1_isBack, .int q1_hour, .int q1_crossed, .int q1_law, .int q1_named, .int q1_linked, .int q1_isThere])), (ad_q1_hours, .inl (cI, 9, .inl q1_hours)), (ad_q1_gifts, .inl (cI, 9, .inl q1_gifts)), (ad_q1_written, .inl (cI, 9, .inl q1_written))] H := hP
  have hD : va_D A [(ad_s, .inr (6, [.ref ad_s_hours, .ref ad_s_gifts, .ref ad_s_written, .int s_start, .int s_rule, .int s_at, .int s_isBack, .int s_hour, .int s_crossed, .int s_law, .int s_named, .int s_linked, .int s_isThere])), (ad_s_hours, .inl (cI, 9, .inl z8_1)), (ad_s_gifts, .inl (cI, 9, .inl s_gifts)), (ad_s_written, .inl (cI, 9, .inl s_written)), (ad_q1, .inr (6, [.ref ad_q1_hours, .ref ad_q1_gifts, .ref ad_q1_written, .int q1_start, .int q1_rule, .int q1_at, .int q1_isBack, .int q1_hour, .int q1_crossed, .int q1_law, .int q1_named, .int q1_linked, .int q1_isThere])), (ad_q1_hours, .inl (cI, 9, .inl q1_hours)), (ad_q1_gifts, .inl (cI, 9, .inl q1_gifts)), (ad_q1_written, .inl (cI, 9, .inl q1_written))] := hD
  refine lv_aload_n hx hb dX6_copyFrom_11 rfl (lv_at hl 1 rfl) ?_
  refine kget hX hP (q0 := 4) rfl rfl inX6 (k := 1) (by decide) rfl wd82 rfl dX6_copyFrom_12 ?_
  refine lv_aload_n hx hb dX6_copyFrom_15 rfl (lv_at hl 0 rfl) ?_
  refine kget hX hP (q0 := 0) rfl rfl inX6 (k := 1) (by decide) rfl wd82 rfl dX6_copyFrom_16 ?_
  obtain ⟨z19_2, hz19_2, hf⟩ := bn_s hf
  refine kSv (rest := []) hX (c_X6_copyCells l D cI cJ cR N ad_q1_gifts ad_s_gifts 9 9 (by decide) (by decide) q1_gifts s_gifts hz19_2) kc_X6_copyCells wd613 ⟨Nat.le_of_ble_eq_true rfl, Nat.le_of_ble_eq_true rfl⟩ ⟨rfl, rfl⟩ hP hD hS [6, 2] rfl (by decide) (fun w h => by cases h; rfl) rfl rfl (Nat.le_of_ble_eq_true rfl) hl.1 ⟨Nat.zero_le _, Nat.zero_le _⟩ dX6_copyFrom_19 (fun H locs w1 hw1 hP hD hS => ?_)
  cases hw1
  have hP : va_P D vwCl [(ad_s, .inr (6, [.ref ad_s_hours, .ref ad_s_gifts, .ref ad_s_written, .int s_start, .int s_rule, .int s_at, .int s_isBack, .int s_hour, .int s_crossed, .int s_law, .int s_named, .int s_linked, .int s_isThere])), (ad_s_hours, .inl (cI, 9, .inl z8_1)), (ad_s_gifts, .inl (cI, 9, .inl z19_2)), (ad_s_written, .inl (cI, 9, .inl s_written)), (ad_q1, .inr (6, [.ref ad_q1_hours, .ref ad_q1_gifts, .ref ad_q1_written, .int q1_start, .int q1_rule, .int q1_at, .int q1_isBack, .int q1_hour, .int q1_crossed, .int q1_law, .int q1_named, .int q1_linked, .int q1_isThere])), (ad_q1_hours, .inl (cI, 9, .inl q1_hours)), (ad_q1_gifts, .inl (cI, 9, .inl q1_gifts)), (ad_q1_written, .inl (cI, 9, .inl q1_written))] H := hP
  have hD : va_D A [(ad_s, .inr (6, [.ref ad_s_hours, .ref ad_s_gifts, .ref ad_s_written, .int s_start, .int s_rule, .int s_at, .int s_isBack, .int s_hour, .int s_crossed, .int s_law, .int s_named, .int s_linked, .int s_isThere])), (ad_s_hours, .inl (cI, 9, .inl z8_1)), (ad_s_gifts, .inl (cI, 9, .inl z19_2)), (ad_s_written, .inl (cI, 9, .inl s_written)), (ad_q1, .inr (6, [.ref ad_q1_hours, .ref ad_q1_gifts, .ref ad_q1_written, .int q1_start, .int q1_rule, .int q1_at, .int q1_isBack, .int q1_hour, .int q1_crossed, .int q1_law, .int q1_named, .int q1_linked, .int q1_isThere])), (ad_q1_hours, .inl (cI, 9, .inl q1_hours)), (ad_q1_gifts, .inl (cI, 9, .inl q1_gifts)), (ad_q1_written, .inl (cI, 9, .inl q1_written))] := hD
  refine lv_aload_n hx hb dX6_copyFrom_22 rfl (lv_at hl 1 rfl) ?_
  refine kget hX hP (q0 := 4) rfl rfl inX6 (k := 2) (by decide) rfl wd83 rfl dX6_copyFrom_23 ?_
  refine lv_aload_n hx hb dX6_copyFrom_26 rfl (lv_at hl 0 rfl) ?_
  refine kget hX hP (q0 := 0) rfl rfl inX6 (k := 2) (by decide) rfl wd83 rfl dX6_copyFrom_27 ?_
  obtain ⟨z30_3, hz30_3, hf⟩ := bn_s hf
  refine kSv (rest := []) hX (c_X6_copyCells l D cI cJ cR N ad_q1_written ad_s_written 9 9 (by decide) (by decide) q1_written s_written hz30_3) kc_X6_copyCells wd613 ⟨Nat.le_of_ble_eq_true rfl, Nat.le_of_ble_eq_true rfl⟩ ⟨rfl, rfl⟩ hP hD hS [7, 3] rfl (by decide) (fun w h => by cases h; rfl) rfl rfl (Nat.le_of_ble_eq_true rfl) hl.1 ⟨Nat.zero_le _, Nat.zero_le _⟩ dX6_copyFrom_30 (fun H locs w1 hw1 hP hD hS => ?_)
  cases hw1
  have hP : va_P D vwCl [(ad_s, .inr (6, [.ref ad_s_hours, .ref ad_s_gifts, .ref ad_s_written, .int s_start, .int s_rule, .int s_at, .int s_isBack, .int s_hour, .int s_crossed, .int s_law, .int s_named, .int s_linked, .int s_isThere])), (ad_s_hours, .inl (cI, 9, .inl z8_1)), (ad_s_gifts, .inl (cI, 9, .inl z19_2)), (ad_s_written, .inl (cI, 9, .inl z30_3)), (ad_q1, .inr (6, [.ref ad_q1_hours, .ref ad_q1_gifts, .ref ad_q1_written, .int q1_start, .int q1_rule, .int q1_at, .int q1_isBack, .int q1_hour, .int q1_crossed, .int q1_law, .int q1_named, .int q1_linked, .int q1_isThere])), (ad_q1_hours, .inl (cI, 9, .inl q1_hours)), (ad_q1_gifts, .inl (cI, 9, .inl q1_gifts)), (ad_q1_written, .inl (cI, 9, .inl q1_written))] H := hP
  have hD : va_D A [(ad_s, .inr (6, [.ref ad_s_hours, .ref ad_s_gifts, .ref ad_s_written, .int s_start, .int s_rule, .int s_at, .int s_isBack, .int s_hour, .int s_crossed, .int s_law, .int s_named, .int s_linked, .int s_isThere])), (ad_s_hours, .inl (cI, 9, .inl z8_1)), (ad_s_gifts, .inl (cI, 9, .inl z19_2)), (ad_s_written, .inl (cI, 9, .inl z30_3)), (ad_q1, .inr (6, [.ref ad_q1_hours, .ref ad_q1_gifts, .ref ad_q1_written, .int q1_start, .int q1_rule, .int q1_at, .int q1_isBack, .int q1_hour, .int q1_crossed, .int q1_law, .int q1_named, .int q1_linked, .int q1_isThere])), (ad_q1_hours, .inl (cI, 9, .inl q1_hours)), (ad_q1_gifts, .inl (cI, 9, .inl q1_gifts)), (ad_q1_written, .inl (cI, 9, .inl q1_written))] := hD
  refine lv_aload_n hx hb dX6_copyFrom_33 rfl (lv_at hl 0 rfl) ?_
  refine lv_aload_n hx hb dX6_copyFrom_34 rfl (lv_at hl 1 rfl) ?_
  refine kget hX hP (q0 := 4) rfl rfl inX6 (k := 3) (by decide) rfl wd84 rfl dX6_copyFrom_35 ?_
  refine kput hX hP hD hS (q0 := 0) rfl rfl inX6 tyX6_ok nmX6 (k := 3) (by decide) rfl wd84 rfl rfl (Nat.le_of_ble_eq_true rfl) dX6_copyFrom_38 (fun H locs hP hD hS => ?_)
  refine lv_aload_n hx hb dX6_copyFrom_41 rfl (lv_at hl 0 rfl) ?_
  refine lv_aload_n hx hb dX6_copyFrom_42 rfl (lv_at hl 1 rfl) ?_
  refine kget hX hP (q0 := 4) rfl rfl inX6 (k := 4) (by decide) rfl wd86 rfl dX6_copyFrom_43 ?_
  refine kput hX hP hD hS (q0 := 0) rfl rfl inX6 tyX6_ok nmX6 (k := 4) (by decide) rfl wd86 rfl rfl (Nat.le_of_ble_eq_true rfl) dX6_copyFrom_46 (fun H locs hP hD hS => ?_)
  refine lv_aload_n hx hb dX6_copyFrom_49 rfl (lv_at hl 0 rfl) ?_
  refine lv_aload_n hx hb dX6_copyFrom_50 rfl (lv_at hl 1 rfl) ?_
  refine kget hX hP (q0 := 4) rfl rfl inX6 (k := 5) (by decide) rfl wd89 rfl dX6_copyFrom_51 ?_
  refine kput hX hP hD hS (q0 := 0) rfl rfl inX6 tyX6_ok nmX6 (k := 5) (by decide) rfl wd89 rfl rfl (Nat.le_of_ble_eq_true rfl) dX6_copyFrom_54 (fun H locs hP hD hS => ?_)
  refine lv_aload_n hx hb dX6_copyFrom_57 rfl (lv_at hl 0 rfl) ?_
  refine lv_aload_n hx hb dX6_copyFrom_58 rfl (lv_at hl 1 rfl) ?_
  refine kget hX hP (q0 := 4) rfl rfl inX6 (k := 6) (by decide) rfl wd92 rfl dX6_copyFrom_59 ?_
  obtain ⟨hz4, hf⟩ := gd_s hf
  refine kput hX hP hD hS (q0 := 0) rfl rfl inX6 tyX6_ok nmX6 (k := 6) (by decide) rfl wd92 (zb_n hz4) (zb_f hz4) (Nat.le_of_ble_eq_true rfl) dX6_copyFrom_62 (fun H locs hP hD hS => ?_)
  refine lv_aload_n hx hb dX6_copyFrom_65 rfl (lv_at hl 0 rfl) ?_
  refine lv_aload_n hx hb dX6_copyFrom_66 rfl (lv_at hl 1 rfl) ?_
  refine kget hX hP (q0 := 4) rfl rfl inX6 (k := 7) (by decide) rfl wd95 rfl dX6_copyFrom_67 ?_
  refine kput hX hP hD hS (q0 := 0) rfl rfl inX6 tyX6_ok nmX6 (k := 7) (by decide) rfl wd95 rfl rfl (Nat.le_of_ble_eq_true rfl) dX6_copyFrom_70 (fun H locs hP hD hS => ?_)
  refine lv_aload_n hx hb dX6_copyFrom_73 rfl (lv_at hl 0 rfl) ?_
  refine lv_aload_n hx hb dX6_copyFrom_74 rfl (lv_at hl 1 rfl) ?_
  refine kget hX hP (q0 := 4) rfl rfl inX6 (k := 8) (by decide) rfl wd98 rfl dX6_copyFrom_75 ?_
  refine kput hX hP hD hS (q0 := 0) rfl rfl inX6 tyX6_ok nmX6 (k := 8) (by decide) rfl wd98 rfl rfl (Nat.le_of_ble_eq_true rfl) dX6_copyFrom_78 (fun H locs hP hD hS => ?_)
  refine lv_aload_n hx hb dX6_copyFrom_81 rfl (lv_at hl 0 rfl) ?_
  refine lv_aload_n hx hb dX6_copyFrom_82 rfl (lv_at hl 1 rfl) ?_
  refine kget hX hP (q0 := 4) rfl rfl inX6 (k := 9) (by decide) rfl wd101 rfl dX6_copyFrom_83 ?_
  refine kput hX hP hD hS (q0 := 0) rfl rfl inX6 tyX6_ok nmX6 (k := 9) (by decide) rfl wd101 rfl rfl (Nat.le_of_ble_eq_true rfl) dX6_copyFrom_86 (fun H locs hP hD hS => ?_)
  refine lv_aload_n hx hb dX6_copyFrom_89 rfl (lv_at hl 0 rfl) ?_
  refine lv_aload_n hx hb dX6_copyFrom_90 rfl (lv_at hl 1 rfl) ?_
  refine kget hX hP (q0 := 4) rfl rfl inX6 (k := 10) (by decide) rfl wd104 rfl dX6_copyFrom_91 ?_
  refine kput hX hP hD hS (q0 := 0) rfl rfl inX6 tyX6_ok nmX6 (k := 10) (by decide) rfl wd104 rfl rfl (Nat.le_of_ble_eq_true rfl) dX6_copyFrom_94 (fun H locs hP hD hS => ?_)
  refine lv_aload_n hx hb dX6_copyFrom_97 rfl (lv_at hl 0 rfl) ?_
  refine lv_aload_n hx hb dX6_copyFrom_98 rfl (lv_at hl 1 rfl) ?_
  refine kget hX hP (q0 := 4) rfl rfl inX6 (k := 11) (by decide) rfl wd107 rfl dX6_copyFrom_99 ?_
  refine kput hX hP hD hS (q0 := 0) rfl rfl inX6 tyX6_ok nmX6 (k := 11) (by decide) rfl wd107 rfl rfl (Nat.le_of_ble_eq_true rfl) dX6_copyFrom_102 (fun H locs hP hD hS => ?_)
  exact hRet _ _ _ _ _ _ (Option.some.inj hf) rfl hP hD hS dX6_copyFrom_105
def p_X6_cross (s_hour : Int32) (s_crossed : Int32) (s_hours : (Nat → Int32)) (s_gifts : (Nat → Int32)) (s_written : (Nat → Int32)) (x1 : Int32) (x2 : Int32) (x3 : Int32) : (Int32 × (Nat → Int32) × (Nat → Int32) × (Nat → Int32)) :=
  if x1 < 0 then (s_crossed, s_hours, s_gifts, s_written) else if (9 : Int32) ≤ x1 then (s_crossed, s_hours, s_gifts, s_written) else if (9 : Int32) ≤ x1 then (s_crossed, s_hours, s_gifts, s_written) else if (9 : Int32) ≤ x1 then (s_crossed, s_hours, s_gifts, s_written) else ((s_crossed ||| ((1 : Int32) <<< (x1 &&& 31))), (upd s_hours x1.toNatClampNeg s_hour), (upd s_gifts x1.toNatClampNeg x2), (upd s_written x1.toNatClampNeg x3))
abbrev rm_X6_cross : Room := { frames := 0, cells := 0, slots := 0, locals := 0 }
set_option maxHeartbeats 4000000 in
set_option maxRecDepth 100000 in
theorem c_X6_cross (l : Launch) (D : va_G) (cI cJ cR : ClassId) (ad_s ad_s_hours ad_s_gifts ad_s_written : Nat) (s_start : Int32) (s_rule : Int32) (s_at : Int32) (s_isBack : Int32) (s_hour : Int32) (s_crossed : Int32) (s_law : Int32) (s_named : Int32) (s_linked : Int32) (s_isThere : Int32) (s_hours : (Nat → Int32)) (s_gifts : (Nat → Int32)) (s_written : (Nat → Int32)) (x1 : Int32) (x2 : Int32) (x3 : Int32) {o : Int32 × (Nat → Int32) × (Nat → Int32) × (Nat → Int32)} (hf : p_X6_cross s_hour s_crossed s_hours s_gifts s_written x1 x2 x3 = o) : kMv l D (kT cI cJ cR) yX6_cross cX6_cross 4 none rm_X6_cross [.ref ad_s, .int x1, .int x2, .int x3] [(ad_s, .inr (6, [.ref ad_s_hours, .ref ad_s_gifts, .ref ad_s_written, .int s_start, .int s_rule, .int s_at, .int s_isBack, .int s_hour, .int s_crossed, .int s_law, .int s_named, .int s_linked, .int s_isThere])), (ad_s_hours, .inl (cI, 9, .inl s_hours)), (ad_s_gifts, .inl (cI, 9, .inl s_gifts)), (ad_s_written, .inl (cI, 9, .inl s_written))] 0 0 (fun w => w = [(ad_s, .inr (6, [.ref ad_s_hours, .ref ad_s_gifts, .ref ad_s_written, .int s_start, .int s_rule, .int s_at, .int s_isBack, .int s_hour, .int o.1, .int s_law, .int s_named, .int s_linked, .int s_isThere])), (ad_s_hours, .inl (cI, 9, .inl o.2.1)), (ad_s_gifts, .inl (cI, 9, .inl o.2.2.1)), (ad_s_written, .inl (cI, 9, .inl o.2.2.2))]) := by
  apply kInV (o := o)
  · decide
  · exact Nat.le_of_ble_eq_true rfl
  intro p e s m args below meth c A ls Q hX hRet hP hD hS hl
  have hx := hX.1.1
  have hb := hX.1.2.1
  have hown := hX.1.2.2.2.1
  have hts := hX.1.2.2.2.2
  have hl : lv_has ls 4 [(0, .ref ad_s), (1, .int x1), (2, .int x2), (3, .int x3)] := hl
  unfold p_X6_cross at hf
  refine lv_iload_n hx hb dX6_cross_0 rfl (lv_at hl 1 rfl) ?_
  refine lv_if_lt (tgt := 67) hx hb dX6_cross_1 (by decide) (fun c1 => ?_) (fun c1 => ?_)
  · replace hf := ip c1 hf
    exact hRet _ _ _ _ _ _ hf rfl hP hD hS dX6_cross_67
  · replace hf := iq c1 hf
    refine lv_iload_n hx hb dX6_cross_4 rfl (lv_at hl 1 rfl) ?_
    refine lv_aload_n hx hb dX6_cross_5 rfl (lv_at hl 0 rfl) ?_
    refine kget hX hP (q0 := 0) rfl rfl inX6 (k := 0) (by decide) rfl wd81 rfl dX6_cross_6 ?_
    refine kalen hX hP (t0 := 0) rfl (q0 := 1) rfl (v := (9 : Int32)) rfl dX6_cross_9 ?_
    refine lv_icmp_ge (tgt := 67) hx hb dX6_cross_10 (by decide) (fun c10 => ?_) (fun c10 => ?_)
    · replace hf := ip c10 hf
      exact hRet _ _ _ _ _ _ hf rfl hP hD hS dX6_cross_67
    · replace hf := iq c10 hf
      refine lv_iload_n hx hb dX6_cross_13 rfl (lv_at hl 1 rfl) ?_
      refine lv_aload_n hx hb dX6_cross_14 rfl (lv_at hl 0 rfl) ?_
      refine kget hX hP (q0 := 0) rfl rfl inX6 (k := 1) (by decide) rfl wd82 rfl dX6_cross_15 ?_
      refine kalen hX hP (t0 := 0) rfl (q0 := 2) rfl (v := (9 : Int32)) rfl dX6_cross_18 ?_
      refine lv_icmp_ge (tgt := 67) hx hb dX6_cross_19 (by decide) (fun c19 => ?_) (fun c19 => ?_)
      · replace hf := ip c19 hf
        exact hRet _ _ _ _ _ _ hf rfl hP hD hS dX6_cross_67
      · replace hf := iq c19 hf
        refine lv_iload_n hx hb dX6_cross_22 rfl (lv_at hl 1 rfl) ?_
        refine lv_aload_n hx hb dX6_cross_23 rfl (lv_at hl 0 rfl) ?_
        refine kget hX hP (q0 := 0) rfl rfl inX6 (k := 2) (by decide) rfl wd83 rfl dX6_cross_24 ?_
        refine kalen hX hP (t0 := 0) rfl (q0 := 3) rfl (v := (9 : Int32)) rfl dX6_cross_27 ?_
        refine lv_icmp_ge (tgt := 67) hx hb dX6_cross_28 (by decide) (fun c28 => ?_) (fun c28 => ?_)
        · replace hf := ip c28 hf
          exact hRet _ _ _ _ _ _ hf rfl hP hD hS dX6_cross_67
        · replace hf := iq c28 hf
          refine lv_aload_n hx hb dX6_cross_31 rfl (lv_at hl 0 rfl) ?_
          refine kget hX hP (q0 := 0) rfl rfl inX6 (k := 0) (by decide) rfl wd81 rfl dX6_cross_32 ?_
          refine lv_iload_n hx hb dX6_cross_35 rfl (lv_at hl 1 rfl) ?_
          refine lv_aload_n hx hb dX6_cross_36 rfl (lv_at hl 0 rfl) ?_
          refine kget hX hP (q0 := 0) rfl rfl inX6 (k := 7) (by decide) rfl wd95 rfl dX6_cross_37 ?_
          refine kiast hX hP hD hS rfl (q0 := 1) rfl (vpi (by decide) c1 c28) dX6_cross_40 (fun H locs hP hD hS => ?_)
          refine lv_aload_n hx hb dX6_cross_41 rfl (lv_at hl 0 rfl) ?_
          refine kget hX hP (q0 := 0) rfl rfl inX6 (k := 1) (by decide) rfl wd82 rfl dX6_cross_42 ?_
          refine lv_iload_n hx hb dX6_cross_45 rfl (lv_at hl 1 rfl) ?_
          refine lv_iload_n hx hb dX6_cross_46 rfl (lv_at hl 2 rfl) ?_
          refine kiast hX hP hD hS rfl (q0 := 2) rfl (vpi (by decide) c1 c28) dX6_cross_47 (fun H locs hP hD hS => ?_)
          refine lv_aload_n hx hb dX6_cross_48 rfl (lv_at hl 0 rfl) ?_
          refine kget hX hP (q0 := 0) rfl rfl inX6 (k := 2) (by decide) rfl wd83 rfl dX6_cross_49 ?_
          refine lv_iload_n hx hb dX6_cross_52 rfl (lv_at hl 1 rfl) ?_
          refine lv_iload_n hx hb dX6_cross_53 rfl (lv_at hl 3 rfl) ?_
          refine kiast hX hP hD hS rfl (q0 := 3) rfl (vpi (by decide) c1 c28) dX6_cross_54 (fun H locs hP hD hS => ?_)
          refine lv_aload_n hx hb dX6_cross_55 rfl (lv_at hl 0 rfl) ?_
          refine lv_dup hx hb dX6_cross_56 rfl ?_
          refine kget hX hP (q0 := 0) rfl rfl inX6 (k := 8) (by decide) rfl wd98 rfl dX6_cross_57 ?_
          refine lv_iconst (v := 1) hx hb dX6_cross_60 (by decide) ?_
          refine lv_iload_n hx hb dX6_cross_61 rfl (lv_at hl 1 rfl) ?_
          refine lv_ishl hx hb dX6_cross_62 ?_
          refine lv_ior hx hb dX6_cross_63 ?_
          refine kput hX hP hD hS (q0 := 0) rfl rfl inX6 tyX6_ok nmX6 (k := 8) (by decide) rfl wd98 rfl rfl (Nat.le_of_ble_eq_true rfl) dX6_cross_64 (fun H locs hP hD hS => ?_)
          exact hRet _ _ _ _ _ _ hf rfl hP hD hS dX6_cross_67
def f_X6_moveTo_b43 (N : Nat) (s_start : Int32) (s_at : Int32) (s_isBack : Int32) (y1 : Int32) : Option (Int32 × Int32) :=
  some (y1, s_isBack)
def f_X6_moveTo_b12 (N : Nat) (s_start : Int32) (s_at : Int32) (s_isBack : Int32) (x1 : Int32) (x2 : Int32) (y1 : Int32) : Option (Int32 × Int32) :=
  gd (y1 = 0 ∨ y1 = 1) (if x2 = (-2 : Int32) then some (s_start, y1) else (f_X6_moveTo_b43 N s_start) s_at y1 (if x2 = (-1 : Int32) then x1 else x2))
def f_X6_moveTo (N : Nat) (s_start : Int32) (s_at : Int32) (s_isBack : Int32) (x1 : Int32) (x2 : Int32) : Option (Int32 × Int32) :=
  (f_X6_moveTo_b12 N s_start) s_at s_isBack x1 x2 (if x2 = (-2 : Int32) then (1 : Int32) else (0 : Int32))
abbrev rm_X6_moveTo : Room := { frames := 0, cells := 0, slots := 0, locals := 0 }
set_option maxHeartbeats 4000000 in
set_option maxRecDepth 100000 in
theorem c_X6_moveTo (l : Launch) (D : va_G) (cI cJ cR : ClassId) (N : Nat) (ad_s ad_s_hours ad_s_gifts ad_s_written : Nat) (s_start : Int32) (s_rule : Int32) (s_at : Int32) (s_isBack : Int32) (s_hour : Int32) (s_crossed : Int32) (s_law : Int32) (s_named : Int32) (s_linked : Int32) (s_isThere : Int32) (x1 : Int32) (x2 : Int32) {o : Int32 × Int32} (hf : f_X6_moveTo N s_start s_at s_isBack x1 x2 = some o) : kMv l D (kT cI cJ cR) yX6_moveTo cX6_moveTo 3 none rm_X6_moveTo [.ref ad_s, .int x1, .int x2] [(ad_s, .inr (6, [.ref ad_s_hours, .ref ad_s_gifts, .ref ad_s_written, .int s_start, .int s_rule, .int s_at, .int s_isBack, .int s_hour, .int s_crossed, .int s_law, .int s_named, .int s_linked, .int s_isThere]))] 0 0 (fun w => w = [(ad_s, .inr (6, [.ref ad_s_hours, .ref ad_s_gifts, .ref ad_s_written, .int s_start, .int s_rule, .int o.1, .int o.2, .int s_hour, .int s_crossed, .int s_law, .int s_named, .int s_linked, .int s_isThere]))]) := by
  apply kInV (o := o)
  · decide
  · exact Nat.le_of_ble_eq_true rfl
  intro p e s m args below meth c A ls Q hX hRet hP hD hS hl
  have hx := hX.1.1
  have hb := hX.1.2.1
  have hown := hX.1.2.2.2.1
  have hts := hX.1.2.2.2.2
  have hl : lv_has ls 3 [(0, .ref ad_s), (1, .int x1), (2, .int x2)] := hl
  have hb43 : ∀ (H : Heap) (locs : List Loc) (s_at : Int32) (s_isBack : Int32) (y1 : Int32), va_P D vwCl [(ad_s, .inr (6, [.ref ad_s_hours, .ref ad_s_gifts, .ref ad_s_written, .int s_start, .int s_rule, .int s_at, .int s_isBack, .int s_hour, .int s_crossed, .int s_law, .int s_named, .int s_linked, .int s_isThere]))] H → va_D A [(ad_s, .inr (6, [.ref ad_s_hours, .ref ad_s_gifts, .ref ad_s_written, .int s_start, .int s_rule, .int s_at, .int s_isBack, .int s_hour, .int s_crossed, .int s_law, .int s_named, .int s_linked, .int s_isThere]))] → va_S A s.heap H locs → ∀ ls : Array Slot, lv_has ls 3 [] → (f_X6_moveTo_b43 N s_start) s_at s_isBack y1 = some o → W p l e rm_X6_moveTo s m args below meth c H locs 0 0 Q (F0 m 43 ls [.int y1, .ref ad_s]) := by
    intro H locs s_at s_isBack y1 hP hD hS ls hl hf
    unfold f_X6_moveTo_b43 at hf
    refine kput hX hP hD hS (q0 := 0) rfl rfl inX6 tyX6_ok nmX6 (k := 5) (by decide) rfl wd89 rfl rfl (Nat.le_of_ble_eq_true rfl) dX6_moveTo_43 (fun H locs hP hD hS => ?_)
    exact hRet _ _ _ _ _ _ (Option.some.inj hf) rfl hP hD hS dX6_moveTo_46
  have hb12 : ∀ (H : Heap) (locs : List Loc) (s_at : Int32) (s_isBack : Int32) (x1 : Int32) (x2 : Int32) (y1 : Int32), va_P D vwCl [(ad_s, .inr (6, [.ref ad_s_hours, .ref ad_s_gifts, .ref ad_s_written, .int s_start, .int s_rule, .int s_at, .int s_isBack, .int s_hour, .int s_crossed, .int s_law, .int s_named, .int s_linked, .int s_isThere]))] H → va_D A [(ad_s, .inr (6, [.ref ad_s_hours, .ref ad_s_gifts, .ref ad_s_written, .int s_start, .int s_rule, .int s_at, .int s_isBack, .int s_hour, .int s_crossed, .int s_law, .int s_named, .int s_linked, .int s_isThere]))] → va_S A s.heap H locs → ∀ ls : Array Slot, lv_has ls 3 [(0, .ref ad_s), (1, .int x1), (2, .int x2)] → (f_X6_moveTo_b12 N s_start) s_at s_isBack x1 x2 y1 = some o → W p l e rm_X6_moveTo s m args below meth c H locs 0 0 Q (F0 m 12 ls [.int y1, .ref ad_s]) := by
    intro H locs s_at s_isBack x1 x2 y1 hP hD hS ls hl hf
    unfold f_X6_moveTo_b12 at hf
    obtain ⟨hz1, hf⟩ := gd_s hf
    refine kput hX hP hD hS (q0 := 0) rfl rfl inX6 tyX6_ok nmX6 (k := 6) (by decide) rfl wd92 (zb_n hz1) (zb_f hz1) (Nat.le_of_ble_eq_true rfl) dX6_moveTo_12 (fun H locs hP hD hS => ?_)
    refine lv_iload_n hx hb dX6_moveTo_15 rfl (lv_at hl 2 rfl) ?_
    refine lv_bipush (v := -2) hx hb dX6_moveTo_16 (by decide) ?_
    refine lv_icmp_ne (tgt := 32) hx hb dX6_moveTo_18 (by decide) (fun c18 => ?_) (fun c18 => ?_)
    · replace hf := iq c18 hf
      refine lv_aload_n hx hb dX6_moveTo_32 rfl (lv_at hl 0 rfl) ?_
      refine lv_iload_n hx hb dX6_moveTo_33 rfl (lv_at hl 2 rfl) ?_
      refine lv_iconst (v := -1) hx hb dX6_moveTo_34 (by decide) ?_
      refine lv_icmp_ne (tgt := 42) hx hb dX6_moveTo_35 (by decide) (fun c35 => ?_) (fun c35 => ?_)
      · simp only [if_neg c35] at hf
        refine lv_iload_n hx hb dX6_moveTo_42 rfl (lv_at hl 2 rfl) ?_
        exact hb43 _ _ s_at y1 x2 hP hD hS _ (lv_sub hl [] rfl) hf
      · simp only [if_pos c35] at hf
        refine lv_iload_n hx hb dX6_moveTo_38 rfl (lv_at hl 1 rfl) ?_
        refine lv_goto (tgt := 43) hx hb dX6_moveTo_39 (by decide) ?_
        exact hb43 _ _ s_at y1 x1 hP hD hS _ (lv_sub hl [] rfl) hf
    · replace hf := ip c18 hf
      refine lv_aload_n hx hb dX6_moveTo_21 rfl (lv_at hl 0 rfl) ?_
      refine lv_aload_n hx hb dX6_moveTo_22 rfl (lv_at hl 0 rfl) ?_
      refine kget hX hP (q0 := 0) rfl rfl inX6 (k := 3) (by decide) rfl wd84 rfl dX6_moveTo_23 ?_
      refine kput hX hP hD hS (q0 := 0) rfl rfl inX6 tyX6_ok nmX6 (k := 5) (by decide) rfl wd89 rfl rfl (Nat.le_of_ble_eq_true rfl) dX6_moveTo_26 (fun H locs hP hD hS => ?_)
      refine lv_goto (tgt := 46) hx hb dX6_moveTo_29 (by decide) ?_
      exact hRet _ _ _ _ _ _ (Option.some.inj hf) rfl hP hD hS dX6_moveTo_46
  unfold f_X6_moveTo at hf
  refine lv_aload_n hx hb dX6_moveTo_0 rfl (lv_at hl 0 rfl) ?_
  refine lv_iload_n hx hb dX6_moveTo_1 rfl (lv_at hl 2 rfl) ?_
  refine lv_bipush (v := -2) hx hb dX6_moveTo_2 (by decide) ?_
  refine lv_icmp_ne (tgt := 11) hx hb dX6_moveTo_4 (by decide) (fun c4 => ?_) (fun c4 => ?_)
  · simp only [if_neg c4] at hf
    refine lv_iconst (v := 0) hx hb dX6_moveTo_11 (by decide) ?_
    exact hb12 _ _ s_at s_isBack x1 x2 (0 : Int32) hP hD hS _ (lv_sub hl [0, 1, 2] rfl) hf
  · simp only [if_pos c4] at hf
    refine lv_iconst (v := 1) hx hb dX6_moveTo_7 (by decide) ?_
    refine lv_goto (tgt := 12) hx hb dX6_moveTo_8 (by decide) ?_
    exact hb12 _ _ s_at s_isBack x1 x2 (1 : Int32) hP hD hS _ (lv_sub hl [0, 1, 2] rfl) hf
def f_X6_factTold (N : Nat) (s_crossed : Int32) (s_hours : (Nat → Int32)) (s_gifts : (Nat → Int32)) (s_written : (Nat → Int32)) (x1 : Int32) (x2 : Int32) : Option (Int32) :=
  if x2 = 0 then if (p_X6_isCrossed s_crossed x1) = 0 then some ((0 : Int32)) else some ((1 : Int32)) else if x2 = 1 then if (p_X6_isCrossed s_crossed x1) = 0 then some ((-9 : Int32)) else if (9 : Int32) ≤ x1 then some ((-9 : Int32)) else gd (inb x1 9 = true) (some ((s_hours x1.toNatClampNeg))) else if x2 = 2 then bn (f_X6_giftOf N s_crossed s_gifts x1) (fun z77_1 => some (z77_1)) else if x2 = 3 then bn (f_X6_wordOf N s_crossed s_written x1) (fun z83_1 => some (z83_1)) else some ((-9 : Int32))
abbrev rm_X6_factTold : Room := { frames := 2, cells := 0, slots := 0, locals := 42 }
set_option maxHeartbeats 4000000 in
set_option maxRecDepth 100000 in
theorem c_X6_factTold (l : Launch) (D : va_G) (cI cJ cR : ClassId) (N : Nat) (ad_s ad_s_hours ad_s_gifts ad_s_written : Nat) (s_start : Int32) (s_rule : Int32) (s_at : Int32) (s_isBack : Int32) (s_hour : Int32) (s_crossed : Int32) (s_law : Int32) (s_named : Int32) (s_linked : Int32) (s_isThere : Int32) (s_hours : (Nat → Int32)) (s_gifts : (Nat → Int32)) (s_written : (Nat → Int32)) (x1 : Int32) (x2 : Int32) {o : Int32} (hf : f_X6_factTold N s_crossed s_hours s_gifts s_written x1 x2 = some o) : kMi l D (kT cI cJ cR) yX6_factTold cX6_factTold 3 (some .int) rm_X6_factTold [.ref ad_s, .int x1, .int x2] [(ad_s, .inr (6, [.ref ad_s_hours, .ref ad_s_gifts, .ref ad_s_written, .int s_start, .int s_rule, .int s_at, .int s_isBack, .int s_hour, .int s_crossed, .int s_law, .int s_named, .int s_linked, .int s_isThere])), (ad_s_hours, .inl (cI, 9, .inl s_hours)), (ad_s_gifts, .inl (cI, 9, .inl s_gifts)), (ad_s_written, .inl (cI, 9, .inl s_written))] (o) (fun w => w = [(ad_s, .inr (6, [.ref ad_s_hours, .ref ad_s_gifts, .ref ad_s_written, .int s_start, .int s_rule, .int s_at, .int s_isBack, .int s_hour, .int s_crossed, .int s_law, .int s_named, .int s_linked, .int s_isThere])), (ad_s_hours, .inl (cI, 9, .inl s_hours)), (ad_s_gifts, .inl (cI, 9, .inl s_gifts)), (ad_s_written, .inl (cI, 9, .inl s_written))]) := by
  apply kInI (o := o)
  · decide
  · exact Nat.le_of_ble_eq_true rfl
  intro p e s m args below meth c A ls Q hX hRet hP hD hS hl
  have hx := hX.1.1
  have hb := hX.1.2.1
  have hown := hX.1.2.2.2.1
  have hts := hX.1.2.2.2.2
  have hl : lv_has ls 3 [(0, .ref ad_s), (1, .int x1), (2, .int x2)] := hl
  unfold f_X6_factTold at hf
  refine lv_iload_n hx hb dX6_factTold_0 rfl (lv_at hl 2 rfl) ?_
  by_cases c1_0 : x2 = 0
  · replace hf := ip c1_0 hf
    refine lv_tableIn (tgt := 32) hx hb dX6_factTold_1 (by rw [c1_0]; decide) (by rw [c1_0]; decide) (by rw [c1_0]; rfl) (by decide) ?_
    refine lv_aload_n hx hb dX6_factTold_32 rfl (lv_at hl 0 rfl) ?_
    refine lv_iload_n hx hb dX6_factTold_33 rfl (lv_at hl 1 rfl) ?_
    refine kVi (rest := []) hX (c_X6_isCrossed l D cI cJ cR ad_s ad_s_hours ad_s_gifts ad_s_written s_start s_rule s_at s_isBack s_hour s_crossed s_law s_named s_linked s_isThere x1 rfl) kc_X6_isCrossed wd526 ⟨Nat.le_of_ble_eq_true rfl, Nat.le_of_ble_eq_true rfl⟩ ⟨rfl, rfl⟩ hP hD hS (ci := 6) rfl rfl (q0 := 0) rfl [0] rfl (by decide) (fun w h => by cases h; rfl) rfl rfl (Nat.le_of_ble_eq_true rfl) hl.1 ⟨Nat.zero_le _, Nat.zero_le _⟩ dX6_factTold_34 (fun H locs w1 hw1 hP hD hS => ?_)
    cases hw1
    have hP : va_P D vwCl [(ad_s, .inr (6, [.ref ad_s_hours, .ref ad_s_gifts, .ref ad_s_written, .int s_start, .int s_rule, .int s_at, .int s_isBack, .int s_hour, .int s_crossed, .int s_law, .int s_named, .int s_linked, .int s_isThere])), (ad_s_hours, .inl (cI, 9, .inl s_hours)), (ad_s_gifts, .inl (cI, 9, .inl s_gifts)), (ad_s_written, .inl (cI, 9, .inl s_written))] H := hP
    have hD : va_D A [(ad_s, .inr (6, [.ref ad_s_hours, .ref ad_s_gifts, .ref ad_s_written, .int s_start, .int s_rule, .int s_at, .int s_isBack, .int s_hour, .int s_crossed, .int s_law, .int s_named, .int s_linked, .int s_isThere])), (ad_s_hours, .inl (cI, 9, .inl s_hours)), (ad_s_gifts, .inl (cI, 9, .inl s_gifts)), (ad_s_written, .inl (cI, 9, .inl s_written))] := hD
    refine lv_if_eq (tgt := 44) hx hb dX6_factTold_37 (by decide) (fun c37 => ?_) (fun c37 => ?_)
    · replace hf := ip c37 hf
      refine lv_iconst (v := 0) hx hb dX6_factTold_44 (by decide) ?_
      exact hRet _ _ _ _ _ _ _ (Option.some.inj hf) rfl rfl hP hD hS dX6_factTold_45
    · replace hf := iq c37 hf
      refine lv_iconst (v := 1) hx hb dX6_factTold_40 (by decide) ?_
      refine lv_goto (tgt := 45) hx hb dX6_factTold_41 (by decide) ?_
      exact hRet _ _ _ _ _ _ _ (Option.some.inj hf) rfl rfl hP hD hS dX6_factTold_45
  · replace hf := iq c1_0 hf
    by_cases c1_1 : x2 = 1
    · replace hf := ip c1_1 hf
      refine lv_tableIn (tgt := 46) hx hb dX6_factTold_1 (by rw [c1_1]; decide) (by rw [c1_1]; decide) (by rw [c1_1]; rfl) (by decide) ?_
      refine lv_aload_n hx hb dX6_factTold_46 rfl (lv_at hl 0 rfl) ?_
      refine lv_iload_n hx hb dX6_factTold_47 rfl (lv_at hl 1 rfl) ?_
      refine kVi (rest := []) hX (c_X6_isCrossed l D cI cJ cR ad_s ad_s_hours ad_s_gifts ad_s_written s_start s_rule s_at s_isBack s_hour s_crossed s_law s_named s_linked s_isThere x1 rfl) kc_X6_isCrossed wd526 ⟨Nat.le_of_ble_eq_true rfl, Nat.le_of_ble_eq_true rfl⟩ ⟨rfl, rfl⟩ hP hD hS (ci := 6) rfl rfl (q0 := 0) rfl [0] rfl (by decide) (fun w h => by cases h; rfl) rfl rfl (Nat.le_of_ble_eq_true rfl) hl.1 ⟨Nat.zero_le _, Nat.zero_le _⟩ dX6_factTold_48 (fun H locs w1 hw1 hP hD hS => ?_)
      cases hw1
      have hP : va_P D vwCl [(ad_s, .inr (6, [.ref ad_s_hours, .ref ad_s_gifts, .ref ad_s_written, .int s_start, .int s_rule, .int s_at, .int s_isBack, .int s_hour, .int s_crossed, .int s_law, .int s_named, .int s_linked, .int s_isThere])), (ad_s_hours, .inl (cI, 9, .inl s_hours)), (ad_s_gifts, .inl (cI, 9, .inl s_gifts)), (ad_s_written, .inl (cI, 9, .inl s_written))] H := hP
      have hD : va_D A [(ad_s, .inr (6, [.ref ad_s_hours, .ref ad_s_gifts, .ref ad_s_written, .int s_start, .int s_rule, .int s_at, .int s_isBack, .int s_hour, .int s_crossed, .int s_law, .int s_named, .int s_linked, .int s_isThere])), (ad_s_hours, .inl (cI, 9, .inl s_hours)), (ad_s_gifts, .inl (cI, 9, .inl s_gifts)), (ad_s_written, .inl (cI, 9, .inl s_written))] := hD
      refine lv_if_eq (tgt := 72) hx hb dX6_factTold_51 (by decide) (fun c51 => ?_) (fun c51 => ?_)
      · replace hf := ip c51 hf
        refine lv_bipush (v := -9) hx hb dX6_factTold_72 (by decide) ?_
        exact hRet _ _ _ _ _ _ _ (Option.some.inj hf) rfl rfl hP hD hS dX6_factTold_74
      · replace hf := iq c51 hf
        refine lv_iload_n hx hb dX6_factTold_54 rfl (lv_at hl 1 rfl) ?_
        refine lv_aload_n hx hb dX6_factTold_55 rfl (lv_at hl 0 rfl) ?_
        refine kget hX hP (q0 := 0) rfl rfl inX6 (k := 0) (by decide) rfl wd81 rfl dX6_factTold_56 ?_
        refine kalen hX hP (t0 := 0) rfl (q0 := 1) rfl (v := (9 : Int32)) rfl dX6_factTold_59 ?_
        refine lv_icmp_ge (tgt := 72) hx hb dX6_factTold_60 (by decide) (fun c60 => ?_) (fun c60 => ?_)
        · replace hf := ip c60 hf
          refine lv_bipush (v := -9) hx hb dX6_factTold_72 (by decide) ?_
          exact hRet _ _ _ _ _ _ _ (Option.some.inj hf) rfl rfl hP hD hS dX6_factTold_74
        · replace hf := iq c60 hf
          refine lv_aload_n hx hb dX6_factTold_63 rfl (lv_at hl 0 rfl) ?_
          refine kget hX hP (q0 := 0) rfl rfl inX6 (k := 0) (by decide) rfl wd81 rfl dX6_factTold_64 ?_
          refine lv_iload_n hx hb dX6_factTold_67 rfl (lv_at hl 1 rfl) ?_
          obtain ⟨hg68_1, hf⟩ := gd_s hf
          refine kiald hX hP rfl (q0 := 1) rfl (inb_in hg68_1) dX6_factTold_68 ?_
          refine lv_goto (tgt := 74) hx hb dX6_factTold_69 (by decide) ?_
          exact hRet _ _ _ _ _ _ _ (Option.some.inj hf) rfl rfl hP hD hS dX6_factTold_74
    · replace hf := iq c1_1 hf
      by_cases c1_2 : x2 = 2
      · replace hf := ip c1_2 hf
        refine lv_tableIn (tgt := 75) hx hb dX6_factTold_1 (by rw [c1_2]; decide) (by rw [c1_2]; decide) (by rw [c1_2]; rfl) (by decide) ?_
        refine lv_aload_n hx hb dX6_factTold_75 rfl (lv_at hl 0 rfl) ?_
        refine lv_iload_n hx hb dX6_factTold_76 rfl (lv_at hl 1 rfl) ?_
        obtain ⟨z77_1, hz77_1, hf⟩ := bn_s hf
        refine kVi (rest := []) hX (c_X6_giftOf l D cI cJ cR N ad_s ad_s_hours ad_s_gifts ad_s_written s_start s_rule s_at s_isBack s_hour s_crossed s_law s_named s_linked s_isThere s_gifts x1 hz77_1) kc_X6_giftOf wd591 ⟨Nat.le_of_ble_eq_true rfl, Nat.le_of_ble_eq_true rfl⟩ ⟨rfl, rfl⟩ hP hD hS (ci := 6) rfl rfl (q0 := 0) rfl [0, 2] rfl (by decide) (fun w h => by cases h; rfl) rfl rfl (Nat.le_of_ble_eq_true rfl) hl.1 ⟨Nat.zero_le _, Nat.zero_le _⟩ dX6_factTold_77 (fun H locs w1 hw1 hP hD hS => ?_)
        cases hw1
        have hP : va_P D vwCl [(ad_s, .inr (6, [.ref ad_s_hours, .ref ad_s_gifts, .ref ad_s_written, .int s_start, .int s_rule, .int s_at, .int s_isBack, .int s_hour, .int s_crossed, .int s_law, .int s_named, .int s_linked, .int s_isThere])), (ad_s_hours, .inl (cI, 9, .inl s_hours)), (ad_s_gifts, .inl (cI, 9, .inl s_gifts)), (ad_s_written, .inl (cI, 9, .inl s_written))] H := hP
        have hD : va_D A [(ad_s, .inr (6, [.ref ad_s_hours, .ref ad_s_gifts, .ref ad_s_written, .int s_start, .int s_rule, .int s_at, .int s_isBack, .int s_hour, .int s_crossed, .int s_law, .int s_named, .int s_linked, .int s_isThere])), (ad_s_hours, .inl (cI, 9, .inl s_hours)), (ad_s_gifts, .inl (cI, 9, .inl s_gifts)), (ad_s_written, .inl (cI, 9, .inl s_written))] := hD
        exact hRet _ _ _ _ _ _ _ (Option.some.inj hf) rfl rfl hP hD hS dX6_factTold_80
      · replace hf := iq c1_2 hf
        by_cases c1_3 : x2 = 3
        · replace hf := ip c1_3 hf
          refine lv_tableIn (tgt := 81) hx hb dX6_factTold_1 (by rw [c1_3]; decide) (by rw [c1_3]; decide) (by rw [c1_3]; rfl) (by decide) ?_
          refine lv_aload_n hx hb dX6_factTold_81 rfl (lv_at hl 0 rfl) ?_
          refine lv_iload_n hx hb dX6_factTold_82 rfl (lv_at hl 1 rfl) ?_
          obtain ⟨z83_1, hz83_1, hf⟩ := bn_s hf
          refine kVi (rest := []) hX (c_X6_wordOf l D cI cJ cR N ad_s ad_s_hours ad_s_gifts ad_s_written s_start s_rule s_at s_isBack s_hour s_crossed s_law s_named s_linked s_isThere s_written x1 hz83_1) kc_X6_wordOf wd592 ⟨Nat.le_of_ble_eq_true rfl, Nat.le_of_ble_eq_true rfl⟩ ⟨rfl, rfl⟩ hP hD hS (ci := 6) rfl rfl (q0 := 0) rfl [0, 3] rfl (by decide) (fun w h => by cases h; rfl) rfl rfl (Nat.le_of_ble_eq_true rfl) hl.1 ⟨Nat.zero_le _, Nat.zero_le _⟩ dX6_factTold_83 (fun H locs w1 hw1 hP hD hS => ?_)
          cases hw1
          have hP : va_P D vwCl [(ad_s, .inr (6, [.ref ad_s_hours, .ref ad_s_gifts, .ref ad_s_written, .int s_start, .int s_rule, .int s_at, .int s_isBack, .int s_hour, .int s_crossed, .int s_law, .int s_named, .int s_linked, .int s_isThere])), (ad_s_hours, .inl (cI, 9, .inl s_hours)), (ad_s_gifts, .inl (cI, 9, .inl s_gifts)), (ad_s_written, .inl (cI, 9, .inl s_written))] H := hP
          have hD : va_D A [(ad_s, .inr (6, [.ref ad_s_hours, .ref ad_s_gifts, .ref ad_s_written, .int s_start, .int s_rule, .int s_at, .int s_isBack, .int s_hour, .int s_crossed, .int s_law, .int s_named, .int s_linked, .int s_isThere])), (ad_s_hours, .inl (cI, 9, .inl s_hours)), (ad_s_gifts, .inl (cI, 9, .inl s_gifts)), (ad_s_written, .inl (cI, 9, .inl s_written))] := hD
          exact hRet _ _ _ _ _ _ _ (Option.some.inj hf) rfl rfl hP hD hS dX6_factTold_86
        · replace hf := iq c1_3 hf
          have e0 : x2.toInt ≠ 0 := fun q => c1_0 (Int32.toInt_inj.mp (q.trans (by decide)))
          have e1 : x2.toInt ≠ 1 := fun q => c1_1 (Int32.toInt_inj.mp (q.trans (by decide)))
          have e2 : x2.toInt ≠ 2 := fun q => c1_2 (Int32.toInt_inj.mp (q.trans (by decide)))
          have e3 : x2.toInt ≠ 3 := fun q => c1_3 (Int32.toInt_inj.mp (q.trans (by decide)))
          refine lv_tableOut (tgt := 87) hx hb dX6_factTold_1 (by omega) (by decide) ?_
          refine lv_bipush (v := -9) hx hb dX6_factTold_87 (by decide) ?_
          exact hRet _ _ _ _ _ _ _ (Option.some.inj hf) rfl rfl hP hD hS dX6_factTold_89
def f_X6_numberOfGivers_b21 (N : Nat) (k4 : Int32 → Int32 → Option (Int32)) (s_crossed : Int32) (s_gifts : (Nat → Int32)) (x1 : Int32) (x2 : Int32) : Option (Int32) :=
  k4 x1 (x2 + (1 : Int32))
def f_X6_numberOfGivers_b4 (N : Nat) (s_crossed : Int32) (s_gifts : (Nat → Int32)) : Nat → Int32 → Int32 → Option (Int32)
  | 0, _, _ => none
  | n4 + 1, x1, x2 => if (9 : Int32) ≤ x2 then some (x1) else bn (f_X6_giftOf N s_crossed s_gifts x2) (fun z12_1 => (f_X6_numberOfGivers_b21 N (f_X6_numberOfGivers_b4 N s_crossed s_gifts n4) s_crossed s_gifts) (if z12_1 ≤ 0 then x1 else (x1 + (1 : Int32))) x2)
def f_X6_numberOfGivers (N : Nat) (s_crossed : Int32) (s_gifts : (Nat → Int32)) : Option (Int32) :=
  (f_X6_numberOfGivers_b4 N s_crossed s_gifts N) (0 : Int32) (0 : Int32)
abbrev rm_X6_numberOfGivers : Room := { frames := 2, cells := 0, slots := 0, locals := 42 }
set_option maxHeartbeats 4000000 in
set_option maxRecDepth 100000 in
theorem c_X6_numberOfGivers (l : Launch) (D : va_G) (cI cJ cR : ClassId) (N : Nat) (ad_s ad_s_hours ad_s_gifts ad_s_written : Nat) (s_start : Int32) (s_rule : Int32) (s_at : Int32) (s_isBack : Int32) (s_hour : Int32) (s_crossed : Int32) (s_law : Int32) (s_named : Int32) (s_linked : Int32) (s_isThere : Int32) (s_gifts : (Nat → Int32)) {o : Int32} (hf : f_X6_numberOfGivers N s_crossed s_gifts = some o) : kMi l D (kT cI cJ cR) yX6_numberOfGivers cX6_numberOfGivers 3 (some .int) rm_X6_numberOfGivers [.ref ad_s] [(ad_s, .inr (6, [.ref ad_s_hours, .ref ad_s_gifts, .ref ad_s_written, .int s_start, .int s_rule, .int s_at, .int s_isBack, .int s_hour, .int s_crossed, .int s_law, .int s_named, .int s_linked, .int s_isThere])), (ad_s_gifts, .inl (cI, 9, .inl s_gifts))] (o) (fun w => w = [(ad_s, .inr (6, [.ref ad_s_hours, .ref ad_s_gifts, .ref ad_s_written, .int s_start, .int s_rule, .int s_at, .int s_isBack, .int s_hour, .int s_crossed, .int s_law, .int s_named, .int s_linked, .int s_isThere])), (ad_s_gifts, .inl (cI, 9, .inl s_gifts))]) := by
  apply kInI (o := o)
  · decide
  · exact Nat.le_of_ble_eq_true rfl
  intro p e s m args below meth c A ls Q hX hRet hP hD hS hl
  have hx := hX.1.1
  have hb := hX.1.2.1
  have hown := hX.1.2.2.2.1
  have hts := hX.1.2.2.2.2
  have hl : lv_has ls 3 [(0, .ref ad_s)] := hl
  have hb4 : ∀ n4 : Nat, ∀ (H : Heap) (locs : List Loc) (x1 : Int32) (x2 : Int32), va_P D vwCl [(ad_s, .inr (6, [.ref ad_s_hours, .ref ad_s_gifts, .ref ad_s_written, .int s_start, .int s_rule, .int s_at, .int s_isBack, .int s_hour, .int s_crossed, .int s_law, .int s_named, .int s_linked, .int s_isThere])), (ad_s_gifts, .inl (cI, 9, .inl s_gifts))] H → va_D A [(ad_s, .inr (6, [.ref ad_s_hours, .ref ad_s_gifts, .ref ad_s_written, .int s_start, .int s_rule, .int s_at, .int s_isBack, .int s_hour, .int s_crossed, .int s_law, .int s_named, .int s_linked, .int s_isThere])), (ad_s_gifts, .inl (cI, 9, .inl s_gifts))] → va_S A s.heap H locs → ∀ ls : Array Slot, lv_has ls 3 [(0, .ref ad_s), (1, .int x1), (2, .int x2)] → f_X6_numberOfGivers_b4 N s_crossed s_gifts n4 x1 x2 = some o → W p l e rm_X6_numberOfGivers s m args below meth c H locs 0 0 Q (F0 m 4 ls []) := by
    intro n4
    induction n4 with
    | zero =>
      intro H locs x1 x2 hP hD hS ls hl hf
      rw [f_X6_numberOfGivers_b4] at hf
      cases hf
    | succ n4 ih4 =>
      have hb21 : ∀ (H : Heap) (locs : List Loc) (x1 : Int32) (x2 : Int32), va_P D vwCl [(ad_s, .inr (6, [.ref ad_s_hours, .ref ad_s_gifts, .ref ad_s_written, .int s_start, .int s_rule, .int s_at, .int s_isBack, .int s_hour, .int s_crossed, .int s_law, .int s_named, .int s_linked, .int s_isThere])), (ad_s_gifts, .inl (cI, 9, .inl s_gifts))] H → va_D A [(ad_s, .inr (6, [.ref ad_s_hours, .ref ad_s_gifts, .ref ad_s_written, .int s_start, .int s_rule, .int s_at, .int s_isBack, .int s_hour, .int s_crossed, .int s_law, .int s_named, .int s_linked, .int s_isThere])), (ad_s_gifts, .inl (cI, 9, .inl s_gifts))] → va_S A s.heap H locs → ∀ ls : Array Slot, lv_has ls 3 [(0, .ref ad_s), (1, .int x1), (2, .int x2)] → (f_X6_numberOfGivers_b21 N (f_X6_numberOfGivers_b4 N s_crossed s_gifts n4) s_crossed s_gifts) x1 x2 = some o → W p l e rm_X6_numberOfGivers s m args below meth c H locs 0 0 Q (F0 m 21 ls []) := by
        intro H locs x1 x2 hP hD hS ls hl hf
        unfold f_X6_numberOfGivers_b21 at hf
        refine lv_iinc (v := (x2 + (1 : Int32))) (lv' := [(2, .int (x2 + (1 : Int32))), (0, .ref ad_s), (1, .int x1)]) hx hb dX6_numberOfGivers_21 hl (k := 2) rfl rfl (by decide) rfl (fun ls hl => ?_)
        refine lv_goto (tgt := 4) hx hb dX6_numberOfGivers_24 (by decide) ?_
        exact ih4 _ _ x1 (x2 + (1 : Int32)) hP hD hS _ (lv_sub hl [1, 2, 0] rfl) hf
      intro H locs x1 x2 hP hD hS ls hl hf
      rw [f_X6_numberOfGivers_b4] at hf
      refine lv_iload_n hx hb dX6_numberOfGivers_4 rfl (lv_at hl 2 rfl) ?_
      refine lv_bipush (v := 9) hx hb dX6_numberOfGivers_5 (by decide) ?_
      refine lv_icmp_ge (tgt := 27) hx hb dX6_numberOfGivers_7 (by decide) (fun c7 => ?_) (fun c7 => ?_)
      · replace hf := ip c7 hf
        refine lv_iload_n hx hb dX6_numberOfGivers_27 rfl (lv_at hl 1 rfl) ?_
        exact hRet _ _ _ _ _ _ _ (Option.some.inj hf) rfl rfl hP hD hS dX6_numberOfGivers_28
      · replace hf := iq c7 hf
        refine lv_aload_n hx hb dX6_numberOfGivers_10 rfl (lv_at hl 0 rfl) ?_
        refine lv_iload_n hx hb dX6_numberOfGivers_11 rfl (lv_at hl 2 rfl) ?_
        obtain ⟨z12_1, hz12_1, hf⟩ := bn_s hf
        refine kVi (rest := []) hX (c_X6_giftOf l D cI cJ cR N ad_s ad_s_hours ad_s_gifts ad_s_written s_start s_rule s_at s_isBack s_hour s_crossed s_law s_named s_linked s_isThere s_gifts x2 hz12_1) kc_X6_giftOf wd591 ⟨Nat.le_of_ble_eq_true rfl, Nat.le_of_ble_eq_true rfl⟩ ⟨rfl, rfl⟩ hP hD hS (ci := 6) rfl rfl (q0 := 0) rfl [0, 1] rfl (by decide) (fun w h => by cases h; rfl) rfl rfl (Nat.le_of_ble_eq_true rfl) hl.1 ⟨Nat.zero_le _, Nat.zero_le _⟩ dX6_numberOfGivers_12 (fun H locs w1 hw1 hP hD hS => ?_)
        cases hw1
        have hP : va_P D vwCl [(ad_s, .inr (6, [.ref ad_s_hours, .ref ad_s_gifts, .ref ad_s_written, .int s_start, .int s_rule, .int s_at, .int s_isBack, .int s_hour, .int s_crossed, .int s_law, .int s_named, .int s_linked, .int s_isThere])), (ad_s_gifts, .inl (cI, 9, .inl s_gifts))] H := hP
        have hD : va_D A [(ad_s, .inr (6, [.ref ad_s_hours, .ref ad_s_gifts, .ref ad_s_written, .int s_start, .int s_rule, .int s_at, .int s_isBack, .int s_hour, .int s_crossed, .int s_law, .int s_named, .int s_linked, .int s_isThere])), (ad_s_gifts, .inl (cI, 9, .inl s_gifts))] := hD
        refine lv_if_le (tgt := 21) hx hb dX6_numberOfGivers_15 (by decide) (fun c15 => ?_) (fun c15 => ?_)
        · simp only [if_pos c15] at hf
          exact hb21 _ _ x1 x2 hP hD hS _ (lv_sub hl [0, 1, 2] rfl) hf
        · simp only [if_neg c15] at hf
          refine lv_iinc (v := (x1 + (1 : Int32))) (lv' := [(1, .int (x1 + (1 : Int32))), (0, .ref ad_s), (2, .int x2)]) hx hb dX6_numberOfGivers_18 hl (k := 1) rfl rfl (by decide) rfl (fun ls hl => ?_)
          exact hb21 _ _ (x1 + (1 : Int32)) x2 hP hD hS _ (lv_sub hl [1, 0, 2] rfl) hf
  unfold f_X6_numberOfGivers at hf
  refine lv_iconst (v := 0) hx hb dX6_numberOfGivers_0 (by decide) ?_
  refine lv_istore_n (lv' := [(1, .int (0 : Int32)), (0, .ref ad_s)]) hx hb dX6_numberOfGivers_1 rfl hl (by decide) rfl (fun ls hl => ?_)
  refine lv_iconst (v := 0) hx hb dX6_numberOfGivers_2 (by decide) ?_
  refine lv_istore_n (lv' := [(2, .int (0 : Int32)), (1, .int (0 : Int32)), (0, .ref ad_s)]) hx hb dX6_numberOfGivers_3 rfl hl (by decide) rfl (fun ls hl => ?_)
  exact hb4 N _ _ (0 : Int32) (0 : Int32) hP hD hS _ (lv_sub hl [2, 1, 0] rfl) hf
def p_X7_names (nS : Nat) (x1 : Int32) : (Int32) :=
  if x1 < 0 then ((0 : Int32)) else if (Int32.ofNat nS) ≤ x1 then ((0 : Int32)) else ((1 : Int32))
theorem zb_X7_names (nS : Nat) (x1 : Int32) : p_X7_names nS x1 = 0 ∨ p_X7_names nS x1 = 1 := by
  unfold p_X7_names
  try dsimp only [nm]
  repeat' first | apply zb_ite | exact Or.inl rfl | exact Or.inr rfl
abbrev rm_X7_names : Room := { frames := 0, cells := 0, slots := 0, locals := 0 }
set_option maxHeartbeats 4000000 in
set_option maxRecDepth 100000 in
theorem c_X7_names (l : Launch) (D : va_G) (cI cJ cR : ClassId) (ad_s ad_s_sizes ad_s_cells : Nat) (nS : Nat) (h_nS : nS < 2147483648) (s_places : Int32) (s_sizes : (Nat → Int32)) (x1 : Int32) {o : Int32} (hf : p_X7_names nS x1 = o) : kMi l D (kT cI cJ cR) yX7_names cX7_names 2 (some .boolean) rm_X7_names [.ref ad_s, .int x1] [(ad_s, .inr (7, [.int s_places, .ref ad_s_sizes, .ref ad_s_cells])), (ad_s_sizes, .inl (cI, nS, .inl s_sizes))] (o) (fun w => w = [(ad_s, .inr (7, [.int s_places, .ref ad_s_sizes, .ref ad_s_cells])), (ad_s_sizes, .inl (cI, nS, .inl s_sizes))]) := by
  apply kInZ (o := o)
  · decide
  · exact Nat.le_of_ble_eq_true rfl
  intro p e s m args below meth c A ls Q hX hRet hP hD hS hl
  have hx := hX.1.1
  have hb := hX.1.2.1
  have hown := hX.1.2.2.2.1
  have hts := hX.1.2.2.2.2
  have hl : lv_has ls 2 [(0, .ref ad_s), (1, .int x1)] := hl
  unfold p_X7_names at hf
  refine lv_iload_n hx hb dX7_names_0 rfl (lv_at hl 1 rfl) ?_
  refine lv_if_lt (tgt := 17) hx hb dX7_names_1 (by decide) (fun c1 => ?_) (fun c1 => ?_)
  · replace hf := ip c1 hf
    refine lv_iconst (v := 0) hx hb dX7_names_17 (by decide) ?_
    exact hRet _ _ _ _ _ _ _ hf rfl rfl rfl hP hD hS dX7_names_18
  · replace hf := iq c1 hf
    refine lv_iload_n hx hb dX7_names_4 rfl (lv_at hl 1 rfl) ?_
    refine lv_aload_n hx hb dX7_names_5 rfl (lv_at hl 0 rfl) ?_
    refine kget hX hP (q0 := 0) rfl rfl inX7 (k := 1) (by decide) rfl wd50 rfl dX7_names_6 ?_
    refine kalen hX hP (t0 := 0) rfl (q0 := 1) rfl (v := (Int32.ofNat nS)) rfl dX7_names_9 ?_
    refine lv_icmp_ge (tgt := 17) hx hb dX7_names_10 (by decide) (fun c10 => ?_) (fun c10 => ?_)
    · replace hf := ip c10 hf
      refine lv_iconst (v := 0) hx hb dX7_names_17 (by decide) ?_
      exact hRet _ _ _ _ _ _ _ hf rfl rfl rfl hP hD hS dX7_names_18
    · replace hf := iq c10 hf
      refine lv_iconst (v := 1) hx hb dX7_names_13 (by decide) ?_
      refine lv_goto (tgt := 18) hx hb dX7_names_14 (by decide) ?_
      exact hRet _ _ _ _ _ _ _ hf rfl rfl rfl hP hD hS dX7_names_18
def p_X7_isThere (nS : Nat) (s_sizes : (Nat → Int32)) (x1 : Int32) : (Int32) :=
  if (p_X7_sizeOf nS s_sizes x1) = (-1 : Int32) then ((0 : Int32)) else ((1 : Int32))
theorem zb_X7_isThere (nS : Nat) (s_sizes : (Nat → Int32)) (x1 : Int32) : p_X7_isThere nS s_sizes x1 = 0 ∨ p_X7_isThere nS s_sizes x1 = 1 := by
  unfold p_X7_isThere
  try dsimp only [nm]
  repeat' first | apply zb_ite | exact Or.inl rfl | exact Or.inr rfl
abbrev rm_X7_isThere : Room := { frames := 1, cells := 0, slots := 0, locals := 21 }
set_option maxHeartbeats 4000000 in
set_option maxRecDepth 100000 in
theorem c_X7_isThere (l : Launch) (D : va_G) (cI cJ cR : ClassId) (ad_s ad_s_sizes ad_s_cells : Nat) (nS : Nat) (h_nS : nS < 2147483648) (s_places : Int32) (s_sizes : (Nat → Int32)) (x1 : Int32) {o : Int32} (hf : p_X7_isThere nS s_sizes x1 = o) : kMi l D (kT cI cJ cR) yX7_isThere cX7_isThere 2 (some .boolean) rm_X7_isThere [.ref ad_s, .int x1] [(ad_s, .inr (7, [.int s_places, .ref ad_s_sizes, .ref ad_s_cells])), (ad_s_sizes, .inl (cI, nS, .inl s_sizes))] (o) (fun w => w = [(ad_s, .inr (7, [.int s_places, .ref ad_s_sizes, .ref ad_s_cells])), (ad_s_sizes, .inl (cI, nS, .inl s_sizes))]) := by
  apply kInZ (o := o)
  · decide
  · exact Nat.le_of_ble_eq_true rfl
  intro p e s m args below meth c A ls Q hX hRet hP hD hS hl
  have hx := hX.1.1
  have hb := hX.1.2.1
  have hown := hX.1.2.2.2.1
  have hts := hX.1.2.2.2.2
  have hl : lv_has ls 2 [(0, .ref ad_s), (1, .int x1)] := hl
  unfold p_X7_isThere at hf
  refine lv_aload_n hx hb dX7_isThere_0 rfl (lv_at hl 0 rfl) ?_
  refine lv_iload_n hx hb dX7_isThere_1 rfl (lv_at hl 1 rfl) ?_
  refine kVi (rest := []) hX (c_X7_sizeOf l D cI cJ cR ad_s ad_s_sizes ad_s_cells nS h_nS s_places s_sizes x1 rfl) kc_X7_sizeOf wd396 ⟨Nat.le_of_ble_eq_true rfl, Nat.le_of_ble_eq_true rfl⟩ ⟨rfl, rfl⟩ hP hD hS (ci := 7) rfl rfl (q0 := 0) rfl [0, 1] rfl (by decide) (fun w h => by cases h; rfl) rfl rfl (Nat.le_of_ble_eq_true rfl) hl.1 ⟨Nat.zero_le _, Nat.zero_le _⟩ dX7_isThere_2 (fun H locs w1 hw1 hP hD hS => ?_)
  cases hw1
  have hP : va_P D vwCl [(ad_s, .inr (7, [.int s_places, .ref ad_s_sizes, .ref ad_s_cells])), (ad_s_sizes, .inl (cI, nS, .inl s_sizes))] H := hP
  have hD : va_D A [(ad_s, .inr (7, [.int s_places, .ref ad_s_sizes, .ref ad_s_cells])), (ad_s_sizes, .inl (cI, nS, .inl s_sizes))] := hD
  refine lv_iconst (v := -1) hx hb dX7_isThere_5 (by decide) ?_
  refine lv_icmp_eq (tgt := 13) hx hb dX7_isThere_6 (by decide) (fun c6 => ?_) (fun c6 => ?_)
  · replace hf := ip c6 hf
    refine lv_iconst (v := 0) hx hb dX7_isThere_13 (by decide) ?_
    exact hRet _ _ _ _ _ _ _ hf rfl rfl rfl hP hD hS dX7_isThere_14
  · replace hf := iq c6 hf
    refine lv_iconst (v := 1) hx hb dX7_isThere_9 (by decide) ?_
    refine lv_goto (tgt := 14) hx hb dX7_isThere_10 (by decide) ?_
    exact hRet _ _ _ _ _ _ _ hf rfl rfl rfl hP hD hS dX7_isThere_14
def p_X7_setCell (nS : Nat) (nC : Nat) (s_places : Int32) (s_sizes : (Nat → Int32)) (s_cells : (Nat → Int32)) (x1 : Int32) (x2 : Int32) (x3 : Int32) : ((Nat → Int32)) :=
  nm ((x1 * s_places) + x2) (fun v8 => if (p_X7_hasPlace nS s_sizes x1 x2) = 0 then (s_cells) else if v8 < 0 then (s_cells) else if (Int32.ofNat nC) ≤ v8 then (s_cells) else ((upd s_cells v8.toNatClampNeg x3)))
abbrev rm_X7_setCell : Room := { frames := 2, cells := 0, slots := 0, locals := 43 }
set_option maxHeartbeats 4000000 in
set_option maxRecDepth 100000 in
theorem c_X7_setCell (l : Launch) (D : va_G) (cI cJ cR : ClassId) (ad_s ad_s_sizes ad_s_cells : Nat) (nS : Nat) (nC : Nat) (h_nS : nS < 2147483648) (h_nC : nC < 2147483648) (s_places : Int32) (s_sizes : (Nat → Int32)) (s_cells : (Nat → Int32)) (x1 : Int32) (x2 : Int32) (x3 : Int32) {o : (Nat → Int32)} (hf : p_X7_setCell nS nC s_places s_sizes s_cells x1 x2 x3 = o) : kMv l D (kT cI cJ cR) yX7_setCell cX7_setCell 5 none rm_X7_setCell [.ref ad_s, .int x1, .int x2, .int x3] [(ad_s, .inr (7, [.int s_places, .ref ad_s_sizes, .ref ad_s_cells])), (ad_s_sizes, .inl (cI, nS, .inl s_sizes)), (ad_s_cells, .inl (cI, nC, .inl s_cells))] 0 0 (fun w => w = [(ad_s, .inr (7, [.int s_places, .ref ad_s_sizes, .ref ad_s_cells])), (ad_s_sizes, .inl (cI, nS, .inl s_sizes)), (ad_s_cells, .inl (cI, nC, .inl o))]) := by
  apply kInV (o := o)
  · decide
  · exact Nat.le_of_ble_eq_true rfl
  intro p e s m args below meth c A ls Q hX hRet hP hD hS hl
  have hx := hX.1.1
  have hb := hX.1.2.1
  have hown := hX.1.2.2.2.1
  have hts := hX.1.2.2.2.2
  have hl : lv_has ls 5 [(0, .ref ad_s), (1, .int x1), (2, .int x2), (3, .int x3)] := hl
  unfold p_X7_setCell at hf
  refine lv_iload_n hx hb dX7_setCell_0 rfl (lv_at hl 1 rfl) ?_
  refine lv_aload_n hx hb dX7_setCell_1 rfl (lv_at hl 0 rfl) ?_
  refine kget hX hP (q0 := 0) rfl rfl inX7 (k := 0) (by decide) rfl wd49 rfl dX7_setCell_2 ?_
  refine lv_imul hx hb dX7_setCell_5 ?_
  refine lv_iload_n hx hb dX7_setCell_6 rfl (lv_at hl 2 rfl) ?_
  refine lv_iadd hx hb dX7_setCell_7 ?_
  refine lv_topi (fun v8 ev8 => ?_)
  replace hf := nm_s ev8 hf
  refine lv_istore (lv' := [(4, .int v8), (0, .ref ad_s), (1, .int x1), (2, .int x2), (3, .int x3)]) hx hb dX7_setCell_8 hl (by decide) rfl (fun ls hl => ?_)
  refine lv_aload_n hx hb dX7_setCell_10 rfl (lv_at hl 1 rfl) ?_
  refine lv_iload_n hx hb dX7_setCell_11 rfl (lv_at hl 2 rfl) ?_
  refine lv_iload_n hx hb dX7_setCell_12 rfl (lv_at hl 3 rfl) ?_
  refine kVi (rest := []) hX (c_X7_hasPlace l D cI cJ cR ad_s ad_s_sizes ad_s_cells nS h_nS s_places s_sizes x1 x2 rfl) kc_X7_hasPlace wd392 ⟨Nat.le_of_ble_eq_true rfl, Nat.le_of_ble_eq_true rfl⟩ ⟨rfl, rfl⟩ hP hD hS (ci := 7) rfl rfl (q0 := 0) rfl [0, 1] rfl (by decide) (fun w h => by cases h; rfl) rfl rfl (Nat.le_of_ble_eq_true rfl) hl.1 ⟨Nat.zero_le _, Nat.zero_le _⟩ dX7_setCell_13 (fun H locs w1 hw1 hP hD hS => ?_)
  cases hw1
  have hP : va_P D vwCl [(ad_s, .inr (7, [.int s_places, .ref ad_s_sizes, .ref ad_s_cells])), (ad_s_sizes, .inl (cI, nS, .inl s_sizes)), (ad_s_cells, .inl (cI, nC, .inl s_cells))] H := hP
  have hD : va_D A [(ad_s, .inr (7, [.int s_places, .ref ad_s_sizes, .ref ad_s_cells])), (ad_s_sizes, .inl (cI, nS, .inl s_sizes)), (ad_s_cells, .inl (cI, nC, .inl s_cells))] := hD
  refine lv_if_eq (tgt := 42) hx hb dX7_setCell_16 (by decide) (fun c16 => ?_) (fun c16 => ?_)
  · replace hf := ip c16 hf
    exact hRet _ _ _ _ _ _ hf rfl hP hD hS dX7_setCell_42
  · replace hf := iq c16 hf
    refine lv_iload hx hb dX7_setCell_19 (lv_at hl 0 rfl) ?_
    refine lv_if_lt (tgt := 42) hx hb dX7_setCell_21 (by decide) (fun c21 => ?_) (fun c21 => ?_)
    · replace hf := ip c21 hf
      exact hRet _ _ _ _ _ _ hf rfl hP hD hS dX7_setCell_42
    · replace hf := iq c21 hf
      refine lv_iload hx hb dX7_setCell_24 (lv_at hl 0 rfl) ?_
      refine lv_aload_n hx hb dX7_setCell_26 rfl (lv_at hl 1 rfl) ?_
      refine kget hX hP (q0 := 0) rfl rfl inX7 (k := 2) (by decide) rfl wd51 rfl dX7_setCell_27 ?_
      refine kalen hX hP (t0 := 0) rfl (q0 := 2) rfl (v := (Int32.ofNat nC)) rfl dX7_setCell_30 ?_
      refine lv_icmp_ge (tgt := 42) hx hb dX7_setCell_31 (by decide) (fun c31 => ?_) (fun c31 => ?_)
      · replace hf := ip c31 hf
        exact hRet _ _ _ _ _ _ hf rfl hP hD hS dX7_setCell_42
      · replace hf := iq c31 hf
        refine lv_aload_n hx hb dX7_setCell_34 rfl (lv_at hl 1 rfl) ?_
        refine kget hX hP (q0 := 0) rfl rfl inX7 (k := 2) (by decide) rfl wd51 rfl dX7_setCell_35 ?_
        refine lv_iload hx hb dX7_setCell_38 (lv_at hl 0 rfl) ?_
        refine lv_iload_n hx hb dX7_setCell_40 rfl (lv_at hl 4 rfl) ?_
        refine kiast hX hP hD hS rfl (q0 := 2) rfl (vpi h_nC c21 c31) dX7_setCell_41 (fun H locs hP hD hS => ?_)
        exact hRet _ _ _ _ _ _ hf rfl hP hD hS dX7_setCell_42
def f_X7_make_b35 (N : Nat) (nS : Nat) (nC : Nat) (s_places : Int32) : Nat → (Nat → Int32) → (Nat → Int32) → Int32 → Int32 → Int32 → Int32 → Option ((Nat → Int32) × (Nat → Int32))
  | 0, _, _, _, _, _, _ => none
  | n35 + 1, s_sizes, s_cells, x1, x2, x3, x4 => if x2 ≤ x4 then some (s_sizes, s_cells) else nm (p_X7_setCell nS nC s_places s_sizes s_cells x1 x4 x3) (fun z46_1 => (f_X7_make_b35 N nS nC s_places n35) s_sizes z46_1 x1 x2 x3 (x4 + (1 : Int32)))
def f_X7_make (N : Nat) (nS : Nat) (nC : Nat) (s_places : Int32) (s_sizes : (Nat → Int32)) (s_cells : (Nat → Int32)) (x1 : Int32) (x2 : Int32) (x3 : Int32) : Option ((Nat → Int32) × (Nat → Int32)) :=
  if x1 < 0 then some (s_sizes, s_cells) else if (Int32.ofNat nS) ≤ x1 then some (s_sizes, s_cells) else if x2 < 0 then some (s_sizes, s_cells) else if s_places < x2 then some (s_sizes, s_cells) else (f_X7_make_b35 N nS nC s_places N) (upd s_sizes x1.toNatClampNeg x2) s_cells x1 x2 x3 (0 : Int32)
abbrev rm_X7_make : Room := { frames := 3, cells := 0, slots := 0, locals := 67 }
set_option maxHeartbeats 4000000 in
set_option maxRecDepth 100000 in
theorem c_X7_make (l : Launch) (D : va_G) (cI cJ cR : ClassId) (N : Nat) (ad_s ad_s_sizes ad_s_cells : Nat) (nS : Nat) (nC : Nat) (h_nS : nS < 2147483648) (h_nC : nC < 2147483648) (s_places : Int32) (s_sizes : (Nat → Int32)) (s_cells : (Nat → Int32)) (x1 : Int32) (x2 : Int32) (x3 : Int32) {o : (Nat → Int32) × (Nat → Int32)} (hf : f_X7_make N nS nC s_places s_sizes s_cells x1 x2 x3 = some o) : kMv l D (kT cI cJ cR) yX7_make cX7_make 5 none rm_X7_make [.ref ad_s, .int x1, .int x2, .int x3] [(ad_s, .inr (7, [.int s_places, .ref ad_s_sizes, .ref ad_s_cells])), (ad_s_sizes, .inl (cI, nS, .inl s_sizes)), (ad_s_cells, .inl (cI, nC, .inl s_cells))] 0 0 (fun w => w = [(ad_s, .inr (7, [.int s_places, .ref ad_s_sizes, .ref ad_s_cells])), (ad_s_sizes, .inl (cI, nS, .inl o.1)), (ad_s_cells, .inl (cI, nC, .inl o.2))]) := by
  apply kInV (o := o)
  · decide
  · exact Nat.le_of_ble_eq_true rfl
  intro p e s m args below meth c A ls Q hX hRet hP hD hS hl
  have hx := hX.1.1
  have hb := hX.1.2.1
  have hown := hX.1.2.2.2.1
  have hts := hX.1.2.2.2.2
  have hl : lv_has ls 5 [(0, .ref ad_s), (1, .int x1), (2, .int x2), (3, .int x3)] := hl
  have hb35 : ∀ n35 : Nat, ∀ (H : Heap) (locs : List Loc) (s_sizes : (Nat → Int32)) (s_cells : (Nat → Int32)) (x1 : Int32) (x2 : Int32) (x3 : Int32) (x4 : Int32), va_P D vwCl [(ad_s, .inr (7, [.int s_places, .ref ad_s_sizes, .ref ad_s_cells])), (ad_s_sizes, .inl (cI, nS, .inl s_sizes)), (ad_s_cells, .inl (cI, nC, .inl s_cells))] H → va_D A [(ad_s, .inr (7, [.int s_places, .ref ad_s_sizes, .ref ad_s_cells])), (ad_s_sizes, .inl (cI, nS, .inl s_sizes)), (ad_s_cells, .inl (cI, nC, .inl s_cells))] → va_S A s.heap H locs → ∀ ls : Array Slot, lv_has ls 5 [(0, .ref ad_s), (1, .int x1), (2, .int x2), (3, .int x3), (4, .int x4)] → f_X7_make_b35 N nS nC s_places n35 s_sizes s_cells x1 x2 x3 x4 = some o → W p l e rm_X7_make s m args below meth c H locs 0 0 Q (F0 m 35 ls []) := by
    intro n35
    induction n35 with
    | zero =>
      intro H locs s_sizes s_cells x1 x2 x3 x4 hP hD hS ls hl hf
      rw [f_X7_make_b35] at hf
      cases hf
    | succ n35 ih35 =>
      intro H locs s_sizes s_cells x1 x2 x3 x4 hP hD hS ls hl hf
      rw [f_X7_make_b35] at hf
      refine lv_iload hx hb dX7_make_35 (lv_at hl 4 rfl) ?_
      refine lv_iload_n hx hb dX7_make_37 rfl (lv_at hl 2 rfl) ?_
      refine lv_icmp_ge (tgt := 55) hx hb dX7_make_38 (by decide) (fun c38 => ?_) (fun c38 => ?_)
      · replace hf := ip c38 hf
        exact hRet _ _ _ _ _ _ (Option.some.inj hf) rfl hP hD hS dX7_make_55
      · replace hf := iq c38 hf
        refine lv_aload_n hx hb dX7_make_41 rfl (lv_at hl 0 rfl) ?_
        refine lv_iload_n hx hb dX7_make_42 rfl (lv_at hl 1 rfl) ?_
        refine lv_iload hx hb dX7_make_43 (lv_at hl 4 rfl) ?_
        refine lv_iload_n hx hb dX7_make_45 rfl (lv_at hl 3 rfl) ?_
        obtain ⟨z46_1, hz46_1⟩ : ∃ z, z = p_X7_setCell nS nC s_places s_sizes s_cells x1 x4 x3 := ⟨_, rfl⟩
        replace hf := nm_s hz46_1 hf
        refine kVv (rest := []) hX (c_X7_setCell l D cI cJ cR ad_s ad_s_sizes ad_s_cells nS nC h_nS h_nC s_places s_sizes s_cells x1 x4 x3 hz46_1.symm) kc_X7_setCell wd388 ⟨Nat.le_of_ble_eq_true rfl, Nat.le_of_ble_eq_true rfl⟩ ⟨rfl, rfl⟩ hP hD hS (ci := 7) rfl rfl (q0 := 0) rfl [0, 1, 2] rfl (by decide) (fun w h => by cases h; rfl) rfl rfl (Nat.le_of_ble_eq_true rfl) hl.1 ⟨Nat.zero_le _, Nat.zero_le _⟩ dX7_make_46 (fun H locs w1 hw1 hP hD hS => ?_)
        cases hw1
        have hP : va_P D vwCl [(ad_s, .inr (7, [.int s_places, .ref ad_s_sizes, .ref ad_s_cells])), (ad_s_sizes, .inl (cI, nS, .inl s_sizes)), (ad_s_cells, .inl (cI, nC, .inl z46_1))] H := hP
        have hD : va_D A [(ad_s, .inr (7, [.int s_places, .ref ad_s_sizes, .ref ad_s_cells])), (ad_s_sizes, .inl (cI, nS, .inl s_sizes)), (ad_s_cells, .inl (cI, nC, .inl z46_1))] := hD
        refine lv_iinc (v := (x4 + (1 : Int32))) (lv' := [(4, .int (x4 + (1 : Int32))), (0, .ref ad_s), (1, .int x1), (2, .int x2), (3, .int x3)]) hx hb dX7_make_49 hl (k := 4) rfl rfl (by decide) rfl (fun ls hl => ?_)
        refine lv_goto (tgt := 35) hx hb dX7_make_52 (by decide) ?_
        exact ih35 _ _ s_sizes z46_1 x1 x2 x3 (x4 + (1 : Int32)) hP hD hS _ (lv_sub hl [1, 2, 3, 4, 0] rfl) hf
  unfold f_X7_make at hf
  refine lv_iload_n hx hb dX7_make_0 rfl (lv_at hl 1 rfl) ?_
  refine lv_if_lt (tgt := 55) hx hb dX7_make_1 (by decide) (fun c1 => ?_) (fun c1 => ?_)
  · replace hf := ip c1 hf
    exact hRet _ _ _ _ _ _ (Option.some.inj hf) rfl hP hD hS dX7_make_55
  · replace hf := iq c1 hf
    refine lv_iload_n hx hb dX7_make_4 rfl (lv_at hl 1 rfl) ?_
    refine lv_aload_n hx hb dX7_make_5 rfl (lv_at hl 0 rfl) ?_
    refine kget hX hP (q0 := 0) rfl rfl inX7 (k := 1) (by decide) rfl wd50 rfl dX7_make_6 ?_
    refine kalen hX hP (t0 := 0) rfl (q0 := 1) rfl (v := (Int32.ofNat nS)) rfl dX7_make_9 ?_
    refine lv_icmp_ge (tgt := 55) hx hb dX7_make_10 (by decide) (fun c10 => ?_) (fun c10 => ?_)
    · replace hf := ip c10 hf
      exact hRet _ _ _ _ _ _ (Option.some.inj hf) rfl hP hD hS dX7_make_55
    · replace hf := iq c10 hf
      refine lv_iload_n hx hb dX7_make_13 rfl (lv_at hl 2 rfl) ?_
      refine lv_if_lt (tgt := 55) hx hb dX7_make_14 (by decide) (fun c14 => ?_) (fun c14 => ?_)
      · replace hf := ip c14 hf
        exact hRet _ _ _ _ _ _ (Option.some.inj hf) rfl hP hD hS dX7_make_55
      · replace hf := iq c14 hf
        refine lv_iload_n hx hb dX7_make_17 rfl (lv_at hl 2 rfl) ?_
        refine lv_aload_n hx hb dX7_make_18 rfl (lv_at hl 0 rfl) ?_
        refine kget hX hP (q0 := 0) rfl rfl inX7 (k := 0) (by decide) rfl wd49 rfl dX7_make_19 ?_
        refine lv_icmp_gt (tgt := 55) hx hb dX7_make_22 (by decide) (fun c22 => ?_) (fun c22 => ?_)
        · replace hf := ip c22 hf
          exact hRet _ _ _ _ _ _ (Option.some.inj hf) rfl hP hD hS dX7_make_55
        · replace hf := iq c22 hf
          refine lv_aload_n hx hb dX7_make_25 rfl (lv_at hl 0 rfl) ?_
          refine kget hX hP (q0 := 0) rfl rfl inX7 (k := 1) (by decide) rfl wd50 rfl dX7_make_26 ?_
          refine lv_iload_n hx hb dX7_make_29 rfl (lv_at hl 1 rfl) ?_
          refine lv_iload_n hx hb dX7_make_30 rfl (lv_at hl 2 rfl) ?_
          refine kiast hX hP hD hS rfl (q0 := 1) rfl (vpi h_nS c1 c10) dX7_make_31 (fun H locs hP hD hS => ?_)
          refine lv_iconst (v := 0) hx hb dX7_make_32 (by decide) ?_
          refine lv_istore (lv' := [(4, .int (0 : Int32)), (0, .ref ad_s), (1, .int x1), (2, .int x2), (3, .int x3)]) hx hb dX7_make_33 hl (by decide) rfl (fun ls hl => ?_)
          exact hb35 N _ _ (upd s_sizes x1.toNatClampNeg x2) s_cells x1 x2 x3 (0 : Int32) hP hD hS _ (lv_sub hl [1, 2, 3, 4, 0] rfl) hf
def f_X7_allWithin_b3 (N : Nat) (nS : Nat) (nC : Nat) (s_places : Int32) (s_sizes : (Nat → Int32)) (s_cells : (Nat → Int32)) : Nat → Int32 → Int32 → Int32 → Int32 → Option (Int32)
  | 0, _, _, _, _ => none
  | n3 + 1, x1, x2, x3, x4 => if (p_X7_sizeOf nS s_sizes x1) ≤ x4 then some ((1 : Int32)) else if (p_X7_cell nS nC s_places s_sizes s_cells x1 x4) < x2 then some ((0 : Int32)) else if (p_X7_cell nS nC s_places s_sizes s_cells x1 x4) ≤ x3 then (f_X7_allWithin_b3 N nS nC s_places s_sizes s_cells n3) x1 x2 x3 (x4 + (1 : Int32)) else some ((0 : Int32))
def f_X7_allWithin (N : Nat) (nS : Nat) (nC : Nat) (s_places : Int32) (s_sizes : (Nat → Int32)) (s_cells : (Nat → Int32)) (x1 : Int32) (x2 : Int32) (x3 : Int32) : Option (Int32) :=
  (f_X7_allWithin_b3 N nS nC s_places s_sizes s_cells N) x1 x2 x3 (0 : Int32)
abbrev rm_X7_allWithin : Room := { frames := 3, cells := 0, slots := 0, locals := 66 }
set_option maxHeartbeats 4000000 in
set_option maxRecDepth 100000 in
theorem c_X7_allWithin (l : Launch) (D : va_G) (cI cJ cR : ClassId) (N : Nat) (ad_s ad_s_sizes ad_s_cells : Nat) (nS : Nat) (nC : Nat) (h_nS : nS < 2147483648) (h_nC : nC < 2147483648) (s_places : Int32) (s_sizes : (Nat → Int32)) (s_cells : (Nat → Int32)) (x1 : Int32) (x2 : Int32) (x3 : Int32) {o : Int32} (hf : f_X7_allWithin N nS nC s_places s_sizes s_cells x1 x2 x3 = some o) : kMi l D (kT cI cJ cR) yX7_allWithin cX7_allWithin 5 (some .boolean) rm_X7_allWithin [.ref ad_s, .int x1, .int x2, .int x3] [(ad_s, .inr (7, [.int s_places, .ref ad_s_sizes, .ref ad_s_cells])), (ad_s_sizes, .inl (cI, nS, .inl s_sizes)), (ad_s_cells, .inl (cI, nC, .inl s_cells))] (o) (fun w => w = [(ad_s, .inr (7, [.int s_places, .ref ad_s_sizes, .ref ad_s_cells])), (ad_s_sizes, .inl (cI, nS, .inl s_sizes)), (ad_s_cells, .inl (cI, nC, .inl s_cells))]) := by
  apply kInZ (o := o)
  · decide
  · exact Nat.le_of_ble_eq_true rfl
  intro p e s m args below meth c A ls Q hX hRet hP hD hS hl
  have hx := hX.1.1
  have hb := hX.1.2.1
  have hown := hX.1.2.2.2.1
  have hts := hX.1.2.2.2.2
  have hl : lv_has ls 5 [(0, .ref ad_s), (1, .int x1), (2, .int x2), (3, .int x3)] := hl
  have hb3 : ∀ n3 : Nat, ∀ (H : Heap) (locs : List Loc) (x1 : Int32) (x2 : Int32) (x3 : Int32) (x4 : Int32), va_P D vwCl [(ad_s, .inr (7, [.int s_places, .ref ad_s_sizes, .ref ad_s_cells])), (ad_s_sizes, .inl (cI, nS, .inl s_sizes)), (ad_s_cells, .inl (cI, nC, .inl s_cells))] H → va_D A [(ad_s, .inr (7, [.int s_places, .ref ad_s_sizes, .ref ad_s_cells])), (ad_s_sizes, .inl (cI, nS, .inl s_sizes)), (ad_s_cells, .inl (cI, nC, .inl s_cells))] → va_S A s.heap H locs → ∀ ls : Array Slot, lv_has ls 5 [(0, .ref ad_s), (1, .int x1), (2, .int x2), (3, .int x3), (4, .int x4)] → f_X7_allWithin_b3 N nS nC s_places s_sizes s_cells n3 x1 x2 x3 x4 = some o → W p l e rm_X7_allWithin s m args below meth c H locs 0 0 Q (F0 m 3 ls []) := by
    intro n3
    induction n3 with
    | zero =>
      intro H locs x1 x2 x3 x4 hP hD hS ls hl hf
      rw [f_X7_allWithin_b3] at hf
      cases hf
    | succ n3 ih3 =>
      intro H locs x1 x2 x3 x4 hP hD hS ls hl hf
      rw [f_X7_allWithin_b3] at hf
      refine lv_iload hx hb dX7_allWithin_3 (lv_at hl 4 rfl) ?_
      refine lv_aload_n hx hb dX7_allWithin_5 rfl (lv_at hl 0 rfl) ?_
      refine lv_iload_n hx hb dX7_allWithin_6 rfl (lv_at hl 1 rfl) ?_
      refine kVi (rest := [.int x4]) hX (c_X7_sizeOf l D cI cJ cR ad_s ad_s_sizes ad_s_cells nS h_nS s_places s_sizes x1 rfl) kc_X7_sizeOf wd396 ⟨Nat.le_of_ble_eq_true rfl, Nat.le_of_ble_eq_true rfl⟩ ⟨rfl, rfl⟩ hP hD hS (ci := 7) rfl rfl (q0 := 0) rfl [0, 1] rfl (by decide) (fun w h => by cases h; rfl) rfl rfl (Nat.le_of_ble_eq_true rfl) hl.1 ⟨Nat.zero_le _, Nat.zero_le _⟩ dX7_allWithin_7 (fun H locs w1 hw1 hP hD hS => ?_)
      cases hw1
      have hP : va_P D vwCl [(ad_s, .inr (7, [.int s_places, .ref ad_s_sizes, .ref ad_s_cells])), (ad_s_sizes, .inl (cI, nS, .inl s_sizes)), (ad_s_cells, .inl (cI, nC, .inl s_cells))] H := hP
      have hD : va_D A [(ad_s, .inr (7, [.int s_places, .ref ad_s_sizes, .ref ad_s_cells])), (ad_s_sizes, .inl (cI, nS, .inl s_sizes)), (ad_s_cells, .inl (cI, nC, .inl s_cells))] := hD
      refine lv_icmp_ge (tgt := 43) hx hb dX7_allWithin_10 (by decide) (fun c10 => ?_) (fun c10 => ?_)
      · replace hf := ip c10 hf
        refine lv_iconst (v := 1) hx hb dX7_allWithin_43 (by decide) ?_
        exact hRet _ _ _ _ _ _ _ (Option.some.inj hf) rfl rfl rfl hP hD hS dX7_allWithin_44
      · replace hf := iq c10 hf
        refine lv_aload_n hx hb dX7_allWithin_13 rfl (lv_at hl 0 rfl) ?_
        refine lv_iload_n hx hb dX7_allWithin_14 rfl (lv_at hl 1 rfl) ?_
        refine lv_iload hx hb dX7_allWithin_15 (lv_at hl 4 rfl) ?_
        refine kVi (rest := []) hX (c_X7_cell l D cI cJ cR ad_s ad_s_sizes ad_s_cells nS nC h_nS h_nC s_places s_sizes s_cells x1 x4 rfl) kc_X7_cell wd823 ⟨Nat.le_of_ble_eq_true rfl, Nat.le_of_ble_eq_true rfl⟩ ⟨rfl, rfl⟩ hP hD hS (ci := 7) rfl rfl (q0 := 0) rfl [0, 1, 2] rfl (by decide) (fun w h => by cases h; rfl) rfl rfl (Nat.le_of_ble_eq_true rfl) hl.1 ⟨Nat.zero_le _, Nat.zero_le _⟩ dX7_allWithin_17 (fun H locs w1 hw1 hP hD hS => ?_)
        cases hw1
        have hP : va_P D vwCl [(ad_s, .inr (7, [.int s_places, .ref ad_s_sizes, .ref ad_s_cells])), (ad_s_sizes, .inl (cI, nS, .inl s_sizes)), (ad_s_cells, .inl (cI, nC, .inl s_cells))] H := hP
        have hD : va_D A [(ad_s, .inr (7, [.int s_places, .ref ad_s_sizes, .ref ad_s_cells])), (ad_s_sizes, .inl (cI, nS, .inl s_sizes)), (ad_s_cells, .inl (cI, nC, .inl s_cells))] := hD
        refine lv_iload_n hx hb dX7_allWithin_20 rfl (lv_at hl 2 rfl) ?_
        refine lv_icmp_lt (tgt := 35) hx hb dX7_allWithin_21 (by decide) (fun c21 => ?_) (fun c21 => ?_)
        · replace hf := ip c21 hf
          refine lv_iconst (v := 0) hx hb dX7_allWithin_35 (by decide) ?_
          exact hRet _ _ _ _ _ _ _ (Option.some.inj hf) rfl rfl rfl hP hD hS dX7_allWithin_36
        · replace hf := iq c21 hf
          refine lv_aload_n hx hb dX7_allWithin_24 rfl (lv_at hl 0 rfl) ?_
          refine lv_iload_n hx hb dX7_allWithin_25 rfl (lv_at hl 1 rfl) ?_
          refine lv_iload hx hb dX7_allWithin_26 (lv_at hl 4 rfl) ?_
          refine kVi (rest := []) hX (c_X7_cell l D cI cJ cR ad_s ad_s_sizes ad_s_cells nS nC h_nS h_nC s_places s_sizes s_cells x1 x4 rfl) kc_X7_cell wd823 ⟨Nat.le_of_ble_eq_true rfl, Nat.le_of_ble_eq_true rfl⟩ ⟨rfl, rfl⟩ hP hD hS (ci := 7) rfl rfl (q0 := 0) rfl [0, 1, 2] rfl (by decide) (fun w h => by cases h; rfl) rfl rfl (Nat.le_of_ble_eq_true rfl) hl.1 ⟨Nat.zero_le _, Nat.zero_le _⟩ dX7_allWithin_28 (fun H locs w1 hw1 hP hD hS => ?_)
          cases hw1
          have hP : va_P D vwCl [(ad_s, .inr (7, [.int s_places, .ref ad_s_sizes, .ref ad_s_cells])), (ad_s_sizes, .inl (cI, nS, .inl s_sizes)), (ad_s_cells, .inl (cI, nC, .inl s_cells))] H := hP
          have hD : va_D A [(ad_s, .inr (7, [.int s_places, .ref ad_s_sizes, .ref ad_s_cells])), (ad_s_sizes, .inl (cI, nS, .inl s_sizes)), (ad_s_cells, .inl (cI, nC, .inl s_cells))] := hD
          refine lv_iload_n hx hb dX7_allWithin_31 rfl (lv_at hl 3 rfl) ?_
          refine lv_icmp_le (tgt := 37) hx hb dX7_allWithin_32 (by decide) (fun c32 => ?_) (fun c32 => ?_)
          · replace hf := ip c32 hf
            refine lv_iinc (v := (x4 + (1 : Int32))) (lv' := [(4, .int (x4 + (1 : Int32))), (0, .ref ad_s), (1, .int x1), (2, .int x2), (3, .int x3)]) hx hb dX7_allWithin_37 hl (k := 4) rfl rfl (by decide) rfl (fun ls hl => ?_)
            refine lv_goto (tgt := 3) hx hb dX7_allWithin_40 (by decide) ?_
            exact ih3 _ _ x1 x2 x3 (x4 + (1 : Int32)) hP hD hS _ (lv_sub hl [1, 2, 3, 4, 0] rfl) hf
          · replace hf := iq c32 hf
            refine lv_iconst (v := 0) hx hb dX7_allWithin_35 (by decide) ?_
            exact hRet _ _ _ _ _ _ _ (Option.some.inj hf) rfl rfl rfl hP hD hS dX7_allWithin_36
  unfold f_X7_allWithin at hf
  refine lv_iconst (v := 0) hx hb dX7_allWithin_0 (by decide) ?_
  refine lv_istore (lv' := [(4, .int (0 : Int32)), (0, .ref ad_s), (1, .int x1), (2, .int x2), (3, .int x3)]) hx hb dX7_allWithin_1 hl (by decide) rfl (fun ls hl => ?_)
  exact hb3 N _ _ x1 x2 x3 (0 : Int32) hP hD hS _ (lv_sub hl [1, 2, 3, 4, 0] rfl) hf
def f_X7_numberThere_b24 (N : Nat) (nS : Nat) (k4 : Int32 → Int32 → Option (Int32)) (s_sizes : (Nat → Int32)) (x1 : Int32) (x2 : Int32) : Option (Int32) :=
  k4 x1 (x2 + (1 : Int32))
def f_X7_numberThere_b4 (N : Nat) (nS : Nat) (s_sizes : (Nat → Int32)) : Nat → Int32 → Int32 → Option (Int32)
  | 0, _, _ => none
  | n4 + 1, x1, x2 => if (Int32.ofNat nS) ≤ x2 then some (x1) else (f_X7_numberThere_b24 N nS (f_X7_numberThere_b4 N nS s_sizes n4) s_sizes) (if (p_X7_isThere nS s_sizes x2) = 0 then x1 else (x1 + (1 : Int32))) x2
def f_X7_numberThere (N : Nat) (nS : Nat) (s_sizes : (Nat → Int32)) : Option (Int32) :=
  (f_X7_numberThere_b4 N nS s_sizes N) (0 : Int32) (0 : Int32)
abbrev rm_X7_numberThere : Room := { frames := 2, cells := 0, slots := 0, locals := 42 }
set_option maxHeartbeats 4000000 in
set_option maxRecDepth 100000 in
theorem c_X7_numberThere (l : Launch) (D : va_G) (cI cJ cR : ClassId) (N : Nat) (ad_s ad_s_sizes ad_s_cells : Nat) (nS : Nat) (h_nS : nS < 2147483648) (s_places : Int32) (s_sizes : (Nat → Int32)) {o : Int32} (hf : f_X7_numberThere N nS s_sizes = some o) : kMi l D (kT cI cJ cR) yX7_numberThere cX7_numberThere 3 (some .int) rm_X7_numberThere [.ref ad_s] [(ad_s, .inr (7, [.int s_places, .ref ad_s_sizes, .ref ad_s_cells])), (ad_s_sizes, .inl (cI, nS, .inl s_sizes))] (o) (fun w => w = [(ad_s, .inr (7, [.int s_places, .ref ad_s_sizes, .ref ad_s_cells])), (ad_s_sizes, .inl (cI, nS, .inl s_sizes))]) := by
  apply kInI (o := o)
  · decide
  · exact Nat.le_of_ble_eq_true rfl
  intro p e s m args below meth c A ls Q hX hRet hP hD hS hl
  have hx := hX.1.1
  have hb := hX.1.2.1
  have hown := hX.1.2.2.2.1
  have hts := hX.1.2.2.2.2
  have hl : lv_has ls 3 [(0, .ref ad_s)] := hl
  have hb4 : ∀ n4 : Nat, ∀ (H : Heap) (locs : List Loc) (x1 : Int32) (x2 : Int32), va_P D vwCl [(ad_s, .inr (7, [.int s_places, .ref ad_s_sizes, .ref ad_s_cells])), (ad_s_sizes, .inl (cI, nS, .inl s_sizes))] H → va_D A [(ad_s, .inr (7, [.int s_places, .ref ad_s_sizes, .ref ad_s_cells])), (ad_s_sizes, .inl (cI, nS, .inl s_sizes))] → va_S A s.heap H locs → ∀ ls : Array Slot, lv_has ls 3 [(0, .ref ad_s), (1, .int x1), (2, .int x2)] → f_X7_numberThere_b4 N nS s_sizes n4 x1 x2 = some o → W p l e rm_X7_numberThere s m args below meth c H locs 0 0 Q (F0 m 4 ls []) := by
    intro n4
    induction n4 with
    | zero =>
      intro H locs x1 x2 hP hD hS ls hl hf
      rw [f_X7_numberThere_b4] at hf
      cases hf
    | succ n4 ih4 =>
      have hb24 : ∀ (H : Heap) (locs : List Loc) (x1 : Int32) (x2 : Int32), va_P D vwCl [(ad_s, .inr (7, [.int s_places, .ref ad_s_sizes, .ref ad_s_cells])), (ad_s_sizes, .inl (cI, nS, .inl s_sizes))] H → va_D A [(ad_s, .inr (7, [.int s_places, .ref ad_s_sizes, .ref ad_s_cells])), (ad_s_sizes, .inl (cI, nS, .inl s_sizes))] → va_S A s.heap H locs → ∀ ls : Array Slot, lv_has ls 3 [(0, .ref ad_s), (1, .int x1), (2, .int x2)] → (f_X7_numberThere_b24 N nS (f_X7_numberThere_b4 N nS s_sizes n4) s_sizes) x1 x2 = some o → W p l e rm_X7_numberThere s m args below meth c H locs 0 0 Q (F0 m 24 ls []) := by
        intro H locs x1 x2 hP hD hS ls hl hf
        unfold f_X7_numberThere_b24 at hf
        refine lv_iinc (v := (x2 + (1 : Int32))) (lv' := [(2, .int (x2 + (1 : Int32))), (0, .ref ad_s), (1, .int x1)]) hx hb dX7_numberThere_24 hl (k := 2) rfl rfl (by decide) rfl (fun ls hl => ?_)
        refine lv_goto (tgt := 4) hx hb dX7_numberThere_27 (by decide) ?_
        exact ih4 _ _ x1 (x2 + (1 : Int32)) hP hD hS _ (lv_sub hl [1, 2, 0] rfl) hf
      intro H locs x1 x2 hP hD hS ls hl hf
      rw [f_X7_numberThere_b4] at hf
      refine lv_iload_n hx hb dX7_numberThere_4 rfl (lv_at hl 2 rfl) ?_
      refine lv_aload_n hx hb dX7_numberThere_5 rfl (lv_at hl 0 rfl) ?_
      refine kget hX hP (q0 := 0) rfl rfl inX7 (k := 1) (by decide) rfl wd50 rfl dX7_numberThere_6 ?_
      refine kalen hX hP (t0 := 0) rfl (q0 := 1) rfl (v := (Int32.ofNat nS)) rfl dX7_numberThere_9 ?_
      refine lv_icmp_ge (tgt := 30) hx hb dX7_numberThere_10 (by decide) (fun c10 => ?_) (fun c10 => ?_)
      · replace hf := ip c10 hf
        refine lv_iload_n hx hb dX7_numberThere_30 rfl (lv_at hl 1 rfl) ?_
        exact hRet _ _ _ _ _ _ _ (Option.some.inj hf) rfl rfl hP hD hS dX7_numberThere_31
      · replace hf := iq c10 hf
        refine lv_aload_n hx hb dX7_numberThere_13 rfl (lv_at hl 0 rfl) ?_
        refine lv_iload_n hx hb dX7_numberThere_14 rfl (lv_at hl 2 rfl) ?_
        refine kVi (rest := []) hX (c_X7_isThere l D cI cJ cR ad_s ad_s_sizes ad_s_cells nS h_nS s_places s_sizes x2 rfl) kc_X7_isThere wd934 ⟨Nat.le_of_ble_eq_true rfl, Nat.le_of_ble_eq_true rfl⟩ ⟨rfl, rfl⟩ hP hD hS (ci := 7) rfl rfl (q0 := 0) rfl [0, 1] rfl (by decide) (fun w h => by cases h; rfl) rfl rfl (Nat.le_of_ble_eq_true rfl) hl.1 ⟨Nat.zero_le _, Nat.zero_le _⟩ dX7_numberThere_15 (fun H locs w1 hw1 hP hD hS => ?_)
        cases hw1
        have hP : va_P D vwCl [(ad_s, .inr (7, [.int s_places, .ref ad_s_sizes, .ref ad_s_cells])), (ad_s_sizes, .inl (cI, nS, .inl s_sizes))] H := hP
        have hD : va_D A [(ad_s, .inr (7, [.int s_places, .ref ad_s_sizes, .ref ad_s_cells])), (ad_s_sizes, .inl (cI, nS, .inl s_sizes))] := hD
        refine lv_if_eq (tgt := 24) hx hb dX7_numberThere_18 (by decide) (fun c18 => ?_) (fun c18 => ?_)
        · simp only [if_pos c18] at hf
          exact hb24 _ _ x1 x2 hP hD hS _ (lv_sub hl [0, 1, 2] rfl) hf
        · simp only [if_neg c18] at hf
          refine lv_iinc (v := (x1 + (1 : Int32))) (lv' := [(1, .int (x1 + (1 : Int32))), (0, .ref ad_s), (2, .int x2)]) hx hb dX7_numberThere_21 hl (k := 1) rfl rfl (by decide) rfl (fun ls hl => ?_)
          exact hb24 _ _ (x1 + (1 : Int32)) x2 hP hD hS _ (lv_sub hl [1, 0, 2] rfl) hf
  unfold f_X7_numberThere at hf
  refine lv_iconst (v := 0) hx hb dX7_numberThere_0 (by decide) ?_
  refine lv_istore_n (lv' := [(1, .int (0 : Int32)), (0, .ref ad_s)]) hx hb dX7_numberThere_1 rfl hl (by decide) rfl (fun ls hl => ?_)
  refine lv_iconst (v := 0) hx hb dX7_numberThere_2 (by decide) ?_
  refine lv_istore_n (lv' := [(2, .int (0 : Int32)), (1, .int (0 : Int32)), (0, .ref ad_s)]) hx hb dX7_numberThere_3 rfl hl (by decide) rfl (fun ls hl => ?_)
  exact hb4 N _ _ (0 : Int32) (0 : Int32) hP hD hS _ (lv_sub hl [2, 1, 0] rfl) hf
def p_X9_signerAt (s_signed : Int32) (s_signers : (Nat → Int32)) (x1 : Int32) : (Int32) :=
  if x1 < 0 then ((0 : Int32)) else if s_signed ≤ x1 then ((0 : Int32)) else if (9 : Int32) ≤ x1 then ((0 : Int32)) else ((s_signers x1.toNatClampNeg))
abbrev rm_X9_signerAt : Room := { frames := 0, cells := 0, slots := 0, locals := 0 }
set_option maxHeartbeats 4000000 in
set_option maxRecDepth 100000 in
theorem c_X9_signerAt (l : Launch) (D : va_G) (cI cJ cR : ClassId) (ad_s ad_s_signers : Nat) (s_signed : Int32) (s_at : Int32) (s_crossed : Int32) (s_target : Int32) (s_heap : Int32) (s_signers : (Nat → Int32)) (x1 : Int32) {o : Int32} (hf : p_X9_signerAt s_signed s_signers x1 = o) : kMi l D (kT cI cJ cR) yX9_signerAt cX9_signerAt 2 (some .int) rm_X9_signerAt [.ref ad_s, .int x1] [(ad_s, .inr (9, [.ref ad_s_signers, .int s_signed, .int s_at, .int s_crossed, .int s_target, .int s_heap])), (ad_s_signers, .inl (cI, 9, .inl s_signers))] (o) (fun w => w = [(ad_s, .inr (9, [.ref ad_s_signers, .int s_signed, .int s_at, .int s_crossed, .int s_target, .int s_heap])), (ad_s_signers, .inl (cI, 9, .inl s_signers))]) := by
  apply kInI (o := o)
  · decide
  · exact Nat.le_of_ble_eq_true rfl
  intro p e s m args below meth c A ls Q hX hRet hP hD hS hl
  have hx := hX.1.1
  have hb := hX.1.2.1
  have hown := hX.1.2.2.2.1
  have hts := hX.1.2.2.2.2
  have hl : lv_has ls 2 [(0, .ref ad_s), (1, .int x1)] := hl
  unfold p_X9_signerAt at hf
  refine lv_iload_n hx hb dX9_signerAt_0 rfl (lv_at hl 1 rfl) ?_
  refine lv_if_lt (tgt := 30) hx hb dX9_signerAt_1 (by decide) (fun c1 => ?_) (fun c1 => ?_)
  · replace hf := ip c1 hf
    refine lv_iconst (v := 0) hx hb dX9_signerAt_30 (by decide) ?_
    exact hRet _ _ _ _ _ _ _ hf rfl rfl hP hD hS dX9_signerAt_31
  · replace hf := iq c1 hf
    refine lv_iload_n hx hb dX9_signerAt_4 rfl (lv_at hl 1 rfl) ?_
    refine lv_aload_n hx hb dX9_signerAt_5 rfl (lv_at hl 0 rfl) ?_
    refine kget hX hP (q0 := 0) rfl rfl inX9 (k := 1) (by decide) rfl wd167 rfl dX9_signerAt_6 ?_
    refine lv_icmp_ge (tgt := 30) hx hb dX9_signerAt_9 (by decide) (fun c9 => ?_) (fun c9 => ?_)
    · replace hf := ip c9 hf
      refine lv_iconst (v := 0) hx hb dX9_signerAt_30 (by decide) ?_
      exact hRet _ _ _ _ _ _ _ hf rfl rfl hP hD hS dX9_signerAt_31
    · replace hf := iq c9 hf
      refine lv_iload_n hx hb dX9_signerAt_12 rfl (lv_at hl 1 rfl) ?_
      refine lv_aload_n hx hb dX9_signerAt_13 rfl (lv_at hl 0 rfl) ?_
      refine kget hX hP (q0 := 0) rfl rfl inX9 (k := 0) (by decide) rfl wd166 rfl dX9_signerAt_14 ?_
      refine kalen hX hP (t0 := 0) rfl (q0 := 1) rfl (v := (9 : Int32)) rfl dX9_signerAt_17 ?_
      refine lv_icmp_ge (tgt := 30) hx hb dX9_signerAt_18 (by decide) (fun c18 => ?_) (fun c18 => ?_)
      · replace hf := ip c18 hf
        refine lv_iconst (v := 0) hx hb dX9_signerAt_30 (by decide) ?_
        exact hRet _ _ _ _ _ _ _ hf rfl rfl hP hD hS dX9_signerAt_31
      · replace hf := iq c18 hf
        refine lv_aload_n hx hb dX9_signerAt_21 rfl (lv_at hl 0 rfl) ?_
        refine kget hX hP (q0 := 0) rfl rfl inX9 (k := 0) (by decide) rfl wd166 rfl dX9_signerAt_22 ?_
        refine lv_iload_n hx hb dX9_signerAt_25 rfl (lv_at hl 1 rfl) ?_
        refine kiald hX hP rfl (q0 := 1) rfl (vpi (by decide) c1 c18) dX9_signerAt_26 ?_
        refine lv_goto (tgt := 31) hx hb dX9_signerAt_27 (by decide) ?_
        exact hRet _ _ _ _ _ _ _ hf rfl rfl hP hD hS dX9_signerAt_31
def p_X10_cell (n_q0 : Nat) (q0 : (Nat → Int32)) (x1 : Int32) : (Int32) :=
  if x1 < 0 then ((0 : Int32)) else if (Int32.ofNat n_q0) ≤ x1 then ((0 : Int32)) else ((q0 x1.toNatClampNeg))
abbrev rm_X10_cell : Room := { frames := 0, cells := 0, slots := 0, locals := 0 }
set_option maxHeartbeats 4000000 in
set_option maxRecDepth 100000 in
theorem c_X10_cell (l : Launch) (D : va_G) (cI cJ cR : ClassId) (ad_q0 : Nat) (n_q0 : Nat) (h_n_q0 : n_q0 < 2147483648) (q0 : (Nat → Int32)) (x1 : Int32) {o : Int32} (hf : p_X10_cell n_q0 q0 x1 = o) : kMi l D (kT cI cJ cR) yX10_cell cX10_cell 2 (some .int) rm_X10_cell [.ref ad_q0, .int x1] [(ad_q0, .inl (cI, n_q0, .inl q0))] (o) (fun w => w = [(ad_q0, .inl (cI, n_q0, .inl q0))]) := by
  apply kInI (o := o)
  · decide
  · exact Nat.le_of_ble_eq_true rfl
  intro p e s m args below meth c A ls Q hX hRet hP hD hS hl
  have hx := hX.1.1
  have hb := hX.1.2.1
  have hown := hX.1.2.2.2.1
  have hts := hX.1.2.2.2.2
  have hl : lv_has ls 2 [(0, .ref ad_q0), (1, .int x1)] := hl
  unfold p_X10_cell at hf
  refine lv_iload_n hx hb dX10_cell_0 rfl (lv_at hl 1 rfl) ?_
  refine lv_if_lt (tgt := 16) hx hb dX10_cell_1 (by decide) (fun c1 => ?_) (fun c1 => ?_)
  · replace hf := ip c1 hf
    refine lv_iconst (v := 0) hx hb dX10_cell_16 (by decide) ?_
    exact hRet _ _ _ _ _ _ _ hf rfl rfl hP hD hS dX10_cell_17
  · replace hf := iq c1 hf
    refine lv_iload_n hx hb dX10_cell_4 rfl (lv_at hl 1 rfl) ?_
    refine lv_aload_n hx hb dX10_cell_5 rfl (lv_at hl 0 rfl) ?_
    refine kalen hX hP (t0 := 0) rfl (q0 := 0) rfl (v := (Int32.ofNat n_q0)) rfl dX10_cell_6 ?_
    refine lv_icmp_ge (tgt := 16) hx hb dX10_cell_7 (by decide) (fun c7 => ?_) (fun c7 => ?_)
    · replace hf := ip c7 hf
      refine lv_iconst (v := 0) hx hb dX10_cell_16 (by decide) ?_
      exact hRet _ _ _ _ _ _ _ hf rfl rfl hP hD hS dX10_cell_17
    · replace hf := iq c7 hf
      refine lv_aload_n hx hb dX10_cell_10 rfl (lv_at hl 0 rfl) ?_
      refine lv_iload_n hx hb dX10_cell_11 rfl (lv_at hl 1 rfl) ?_
      refine kiald hX hP rfl (q0 := 0) rfl (vpi h_n_q0 c1 c7) dX10_cell_12 ?_
      refine lv_goto (tgt := 17) hx hb dX10_cell_13 (by decide) ?_
      exact hRet _ _ _ _ _ _ _ hf rfl rfl hP hD hS dX10_cell_17
def p_X10_setCell (n_q0 : Nat) (q0 : (Nat → Int32)) (x1 : Int32) (x2 : Int32) : ((Nat → Int32)) :=
  if x1 < 0 then (q0) else if (Int32.ofNat n_q0) ≤ x1 then (q0) else ((upd q0 x1.toNatClampNeg x2))
abbrev rm_X10_setCell : Room := { frames := 0, cells := 0, slots := 0, locals := 0 }
set_option maxHeartbeats 4000000 in
set_option maxRecDepth 100000 in
theorem c_X10_setCell (l : Launch) (D : va_G) (cI cJ cR : ClassId) (ad_q0 : Nat) (n_q0 : Nat) (h_n_q0 : n_q0 < 2147483648) (q0 : (Nat → Int32)) (x1 : Int32) (x2 : Int32) {o : (Nat → Int32)} (hf : p_X10_setCell n_q0 q0 x1 x2 = o) : kMv l D (kT cI cJ cR) yX10_setCell cX10_setCell 3 none rm_X10_setCell [.ref ad_q0, .int x1, .int x2] [(ad_q0, .inl (cI, n_q0, .inl q0))] 0 0 (fun w => w = [(ad_q0, .inl (cI, n_q0, .inl o))]) := by
  apply kInV (o := o)
  · decide
  · exact Nat.le_of_ble_eq_true rfl
  intro p e s m args below meth c A ls Q hX hRet hP hD hS hl
  have hx := hX.1.1
  have hb := hX.1.2.1
  have hown := hX.1.2.2.2.1
  have hts := hX.1.2.2.2.2
  have hl : lv_has ls 3 [(0, .ref ad_q0), (1, .int x1), (2, .int x2)] := hl
  unfold p_X10_setCell at hf
  refine lv_iload_n hx hb dX10_setCell_0 rfl (lv_at hl 1 rfl) ?_
  refine lv_if_lt (tgt := 14) hx hb dX10_setCell_1 (by decide) (fun c1 => ?_) (fun c1 => ?_)
  · replace hf := ip c1 hf
    exact hRet _ _ _ _ _ _ hf rfl hP hD hS dX10_setCell_14
  · replace hf := iq c1 hf
    refine lv_iload_n hx hb dX10_setCell_4 rfl (lv_at hl 1 rfl) ?_
    refine lv_aload_n hx hb dX10_setCell_5 rfl (lv_at hl 0 rfl) ?_
    refine kalen hX hP (t0 := 0) rfl (q0 := 0) rfl (v := (Int32.ofNat n_q0)) rfl dX10_setCell_6 ?_
    refine lv_icmp_ge (tgt := 14) hx hb dX10_setCell_7 (by decide) (fun c7 => ?_) (fun c7 => ?_)
    · replace hf := ip c7 hf
      exact hRet _ _ _ _ _ _ hf rfl hP hD hS dX10_setCell_14
    · replace hf := iq c7 hf
      refine lv_aload_n hx hb dX10_setCell_10 rfl (lv_at hl 0 rfl) ?_
      refine lv_iload_n hx hb dX10_setCell_11 rfl (lv_at hl 1 rfl) ?_
      refine lv_iload_n hx hb dX10_setCell_12 rfl (lv_at hl 2 rfl) ?_
      refine kiast hX hP hD hS rfl (q0 := 0) rfl (vpi h_n_q0 c1 c7) dX10_setCell_13 (fun H locs hP hD hS => ?_)
      exact hRet _ _ _ _ _ _ hf rfl hP hD hS dX10_setCell_14
def f_X10_celebrate_b66 (N : Nat) (n_q4 : Nat) (q1_number : Int32) (q1_facts : (Nat → Int32)) (q2_law : Int32) (q2_named : Int32) (q2_linked : Int32) (q2_total : Int32) (q2_givers : Int32) (q2_least : Int32) (q4 : (Nat → Int32)) (x3 : Int32) (x5 : Int32) : Option (Int32 × Int32 × Int32 × Int32 × (Nat → Int32)) :=
  nm (p_X10_setCell n_q4 q4 (x5 + x3) ((p_X10_cell n_q4 q4 (x5 + x3)) + q2_total)) (fun z86_1 => some (q2_total, q2_total, q2_givers, q2_least, z86_1))
def f_X10_celebrate_b60 (N : Nat) (n_q4 : Nat) (k7 : Int32 → Int32 → Int32 → (Nat → Int32) → Int32 → Int32 → Int32 → Option (Int32 × Int32 × Int32 × Int32 × (Nat → Int32))) (k66 : Int32 → Int32 → Int32 → (Nat → Int32) → Int32 → Int32 → Option (Int32 × Int32 × Int32 × Int32 × (Nat → Int32))) (q1_number : Int32) (q1_facts : (Nat → Int32)) (q2_law : Int32) (q2_named : Int32) (q2_linked : Int32) (q2_total : Int32) (q2_givers : Int32) (q2_least : Int32) (q4 : (Nat → Int32)) (x3 : Int32) (x5 : Int32) (x6 : Int32) : Option (Int32 × Int32 × Int32 × Int32 × (Nat → Int32)) :=
  k7 q2_total q2_givers q2_least q4 x3 x5 (x6 + (1 : Int32))
def f_X10_celebrate_b7 (N : Nat) (n_q4 : Nat) (k66 : Int32 → Int32 → Int32 → (Nat → Int32) → Int32 → Int32 → Option (Int32 × Int32 × Int32 × Int32 × (Nat → Int32))) (q1_number : Int32) (q1_facts : (Nat → Int32)) (q2_law : Int32) (q2_named : Int32) (q2_linked : Int32) : Nat → Int32 → Int32 → Int32 → (Nat → Int32) → Int32 → Int32 → Int32 → Option (Int32 × Int32 × Int32 × Int32 × (Nat → Int32))
  | 0, _, _, _, _, _, _, _ => none
  | n7 + 1, q2_total, q2_givers, q2_least, q4, x3, x5, x6 => if q1_number ≤ x6 then k66 q2_total q2_givers q2_least q4 x3 x5 else if x6 = x3 then (f_X10_celebrate_b60 N n_q4 (f_X10_celebrate_b7 N n_q4 k66 q1_number q1_facts q2_law q2_named q2_linked n7) k66 q1_number q1_facts q2_law q2_named q2_linked) q2_total q2_givers q2_least q4 x3 x5 x6 else bn (f_X5_gives N q2_law q2_named q2_linked q2_total q2_givers q2_least q1_number q1_facts x6) (fun z26_1 => nm (p_X5_take q2_total q2_givers q2_least z26_1) (fun z34_2 => nm (p_X10_setCell n_q4 q4 (x5 + x6) ((p_X10_cell n_q4 q4 (x5 + x6)) - z26_1)) (fun z57_3 => (f_X10_celebrate_b60 N n_q4 (f_X10_celebrate_b7 N n_q4 k66 q1_number q1_facts q2_law q2_named q2_linked n7) k66 q1_number q1_facts q2_law q2_named q2_linked) z34_2.1 z34_2.2.1 z34_2.2.2 z57_3 x3 x5 x6)))
def f_X10_celebrate (N : Nat) (n_q4 : Nat) (q1_number : Int32) (q1_facts : (Nat → Int32)) (q2_law : Int32) (q2_named : Int32) (q2_linked : Int32) (q2_total : Int32) (q2_givers : Int32) (q2_least : Int32) (q4 : (Nat → Int32)) (x3 : Int32) (x5 : Int32) : Option (Int32 × Int32 × Int32 × Int32 × (Nat → Int32)) :=
  nm (p_X5_clear q2_total q2_givers q2_least) (fun z1_1 => (f_X10_celebrate_b7 N n_q4 (f_X10_celebrate_b66 N n_q4 q1_number q1_facts q2_law q2_named q2_linked) q1_number q1_facts q2_law q2_named q2_linked N) z1_1.1 z1_1.2.1 z1_1.2.2 q4 x3 x5 (0 : Int32))
abbrev rm_X10_celebrate : Room := { frames := 4, cells := 0, slots := 0, locals := 91 }
set_option maxHeartbeats 4000000 in
set_option maxRecDepth 100000 in
theorem c_X10_celebrate (l : Launch) (D : va_G) (cI cJ cR : ClassId) (N : Nat) (ad_s ad_q1 ad_q1_facts ad_q2 ad_q4 : Nat) (n_q4 : Nat) (h_n_q4 : n_q4 < 2147483648) (q1_number : Int32) (q1_facts : (Nat → Int32)) (q2_law : Int32) (q2_named : Int32) (q2_linked : Int32) (q2_total : Int32) (q2_givers : Int32) (q2_least : Int32) (q4 : (Nat → Int32)) (x3 : Int32) (x5 : Int32) {o : Int32 × Int32 × Int32 × Int32 × (Nat → Int32)} (hf : f_X10_celebrate N n_q4 q1_number q1_facts q2_law q2_named q2_linked q2_total q2_givers q2_least q4 x3 x5 = some o) : kMi l D (kT cI cJ cR) yX10_celebrate cX10_celebrate 8 (some .int) rm_X10_celebrate [.ref ad_s, .ref ad_q1, .ref ad_q2, .int x3, .ref ad_q4, .int x5] [(ad_q1, .inr (1, [.ref ad_q1_facts, .int q1_number])), (ad_q1_facts, .inl (cI, 54, .inl q1_facts)), (ad_q2, .inr (5, [.int q2_law, .int q2_named, .int q2_linked, .int q2_total, .int q2_givers, .int q2_least])), (ad_q4, .inl (cI, n_q4, .inl q4))] (o.1) (fun w => w = [(ad_q1, .inr (1, [.ref ad_q1_facts, .int q1_number])), (ad_q1_facts, .inl (cI, 54, .inl q1_facts)), (ad_q2, .inr (5, [.int q2_law, .int q2_named, .int q2_linked, .int o.2.1, .int o.2.2.1, .int o.2.2.2.1])), (ad_q4, .inl (cI, n_q4, .inl o.2.2.2.2))]) := by
  apply kInI (o := o)
  · decide
  · exact Nat.le_of_ble_eq_true rfl
  intro p e s m args below meth c A ls Q hX hRet hP hD hS hl
  have hx := hX.1.1
  have hb := hX.1.2.1
  have hown := hX.1.2.2.2.1
  have hts := hX.1.2.2.2.2
  have hl : lv_has ls 8 [(0, .ref ad_s), (1, .ref ad_q1), (2, .ref ad_q2), (3, .int x3), (4, .ref ad_q4), (5, .int x5)] := hl
  have hb66 : ∀ (H : Heap) (locs : List Loc) (q2_total : Int32) (q2_givers : Int32) (q2_least : Int32) (q4 : (Nat → Int32)) (x3 : Int32) (x5 : Int32), va_P D vwCl [(ad_q1, .inr (1, [.ref ad_q1_facts, .int q1_number])), (ad_q1_facts, .inl (cI, 54, .inl q1_facts)), (ad_q2, .inr (5, [.int q2_law, .int q2_named, .int q2_linked, .int q2_total, .int q2_givers, .int q2_least])), (ad_q4, .inl (cI, n_q4, .inl q4))] H → va_D A [(ad_q1, .inr (1, [.ref ad_q1_facts, .int q1_number])), (ad_q1_facts, .inl (cI, 54, .inl q1_facts)), (ad_q2, .inr (5, [.int q2_law, .int q2_named, .int q2_linked, .int q2_total, .int q2_givers, .int q2_least])), (ad_q4, .inl (cI, n_q4, .inl q4))] → va_S A s.heap H locs → ∀ ls : Array Slot, lv_has ls 8 [(2, .ref ad_q2), (3, .int x3), (4, .ref ad_q4), (5, .int x5)] → (f_X10_celebrate_b66 N n_q4 q1_number q1_facts q2_law q2_named q2_linked) q2_total q2_givers q2_least q4 x3 x5 = some o → W p l e rm_X10_celebrate s m args below meth c H locs 0 0 Q (F0 m 66 ls []) := by
    intro H locs q2_total q2_givers q2_least q4 x3 x5 hP hD hS ls hl hf
    unfold f_X10_celebrate_b66 at hf
    refine lv_aload hx hb dX10_celebrate_66 (lv_at hl 2 rfl) ?_
    refine lv_iload hx hb dX10_celebrate_68 (lv_at hl 3 rfl) ?_
    refine lv_iload_n hx hb dX10_celebrate_70 rfl (lv_at hl 1 rfl) ?_
    refine lv_iadd hx hb dX10_celebrate_71 ?_
    refine lv_aload hx hb dX10_celebrate_72 (lv_at hl 2 rfl) ?_
    refine lv_iload hx hb dX10_celebrate_74 (lv_at hl 3 rfl) ?_
    refine lv_iload_n hx hb dX10_celebrate_76 rfl (lv_at hl 1 rfl) ?_
    refine lv_iadd hx hb dX10_celebrate_77 ?_
    refine kSi (rest := [.int (x5 + x3), .ref ad_q4]) hX (c_X10_cell l D cI cJ cR ad_q4 n_q4 h_n_q4 q4 (x5 + x3) rfl) kc_X10_cell wd874 ⟨Nat.le_of_ble_eq_true rfl, Nat.le_of_ble_eq_true rfl⟩ ⟨rfl, rfl⟩ hP hD hS [3] rfl (by decide) (fun w h => by cases h; rfl) rfl rfl (Nat.le_of_ble_eq_true rfl) hl.1 ⟨Nat.zero_le _, Nat.zero_le _⟩ dX10_celebrate_78 (fun H locs w1 hw1 hP hD hS => ?_)
    cases hw1
    have hP : va_P D vwCl [(ad_q1, .inr (1, [.ref ad_q1_facts, .int q1_number])), (ad_q1_facts, .inl (cI, 54, .inl q1_facts)), (ad_q2, .inr (5, [.int q2_law, .int q2_named, .int q2_linked, .int q2_total, .int q2_givers, .int q2_least])), (ad_q4, .inl (cI, n_q4, .inl q4))] H := hP
    have hD : va_D A [(ad_q1, .inr (1, [.ref ad_q1_facts, .int q1_number])), (ad_q1_facts, .inl (cI, 54, .inl q1_facts)), (ad_q2, .inr (5, [.int q2_law, .int q2_named, .int q2_linked, .int q2_total, .int q2_givers, .int q2_least])), (ad_q4, .inl (cI, n_q4, .inl q4))] := hD
    refine lv_aload_n hx hb dX10_celebrate_81 rfl (lv_at hl 0 rfl) ?_
    refine kget hX hP (q0 := 2) rfl rfl inX5 (k := 3) (by decide) rfl wd205 rfl dX10_celebrate_82 ?_
    refine lv_iadd hx hb dX10_celebrate_85 ?_
    obtain ⟨z86_1, hz86_1⟩ : ∃ z, z = p_X10_setCell n_q4 q4 (x5 + x3) ((p_X10_cell n_q4 q4 (x5 + x3)) + q2_total) := ⟨_, rfl⟩
    replace hf := nm_s hz86_1 hf
    refine kSv (rest := []) hX (c_X10_setCell l D cI cJ cR ad_q4 n_q4 h_n_q4 q4 (x5 + x3) ((p_X10_cell n_q4 q4 (x5 + x3)) + q2_total) hz86_1.symm) kc_X10_setCell wd864 ⟨Nat.le_of_ble_eq_true rfl, Nat.le_of_ble_eq_true rfl⟩ ⟨rfl, rfl⟩ hP hD hS [3] rfl (by decide) (fun w h => by cases h; rfl) rfl rfl (Nat.le_of_ble_eq_true rfl) hl.1 ⟨Nat.zero_le _, Nat.zero_le _⟩ dX10_celebrate_86 (fun H locs w1 hw1 hP hD hS => ?_)
    cases hw1
    have hP : va_P D vwCl [(ad_q1, .inr (1, [.ref ad_q1_facts, .int q1_number])), (ad_q1_facts, .inl (cI, 54, .inl q1_facts)), (ad_q2, .inr (5, [.int q2_law, .int q2_named, .int q2_linked, .int q2_total, .int q2_givers, .int q2_least])), (ad_q4, .inl (cI, n_q4, .inl z86_1))] H := hP
    have hD : va_D A [(ad_q1, .inr (1, [.ref ad_q1_facts, .int q1_number])), (ad_q1_facts, .inl (cI, 54, .inl q1_facts)), (ad_q2, .inr (5, [.int q2_law, .int q2_named, .int q2_linked, .int q2_total, .int q2_givers, .int q2_least])), (ad_q4, .inl (cI, n_q4, .inl z86_1))] := hD
    refine lv_aload_n hx hb dX10_celebrate_89 rfl (lv_at hl 0 rfl) ?_
    refine kget hX hP (q0 := 2) rfl rfl inX5 (k := 3) (by decide) rfl wd205 rfl dX10_celebrate_90 ?_
    exact hRet _ _ _ _ _ _ _ (Option.some.inj hf) rfl rfl hP hD hS dX10_celebrate_93
  have hb7 : ∀ n7 : Nat, ∀ (H : Heap) (locs : List Loc) (q2_total : Int32) (q2_givers : Int32) (q2_least : Int32) (q4 : (Nat → Int32)) (x3 : Int32) (x5 : Int32) (x6 : Int32), va_P D vwCl [(ad_q1, .inr (1, [.ref ad_q1_facts, .int q1_number])), (ad_q1_facts, .inl (cI, 54, .inl q1_facts)), (ad_q2, .inr (5, [.int q2_law, .int q2_named, .int q2_linked, .int q2_total, .int q2_givers, .int q2_least])), (ad_q4, .inl (cI, n_q4, .inl q4))] H → va_D A [(ad_q1, .inr (1, [.ref ad_q1_facts, .int q1_number])), (ad_q1_facts, .inl (cI, 54, .inl q1_facts)), (ad_q2, .inr (5, [.int q2_law, .int q2_named, .int q2_linked, .int q2_total, .int q2_givers, .int q2_least])), (ad_q4, .inl (cI, n_q4, .inl q4))] → va_S A s.heap H locs → ∀ ls : Array Slot, lv_has ls 8 [(1, .ref ad_q1), (2, .ref ad_q2), (3, .int x3), (4, .ref ad_q4), (5, .int x5), (6, .int x6)] → f_X10_celebrate_b7 N n_q4 (f_X10_celebrate_b66 N n_q4 q1_number q1_facts q2_law q2_named q2_linked) q1_number q1_facts q2_law q2_named q2_linked n7 q2_total q2_givers q2_least q4 x3 x5 x6 = some o → W p l e rm_X10_celebrate s m args below meth c H locs 0 0 Q (F0 m 7 ls []) := by
    intro n7
    induction n7 with
    | zero =>
      intro H locs q2_total q2_givers q2_least q4 x3 x5 x6 hP hD hS ls hl hf
      rw [f_X10_celebrate_b7] at hf
      cases hf
    | succ n7 ih7 =>
      have hb60 : ∀ (H : Heap) (locs : List Loc) (q2_total : Int32) (q2_givers : Int32) (q2_least : Int32) (q4 : (Nat → Int32)) (x3 : Int32) (x5 : Int32) (x6 : Int32), va_P D vwCl [(ad_q1, .inr (1, [.ref ad_q1_facts, .int q1_number])), (ad_q1_facts, .inl (cI, 54, .inl q1_facts)), (ad_q2, .inr (5, [.int q2_law, .int q2_named, .int q2_linked, .int q2_total, .int q2_givers, .int q2_least])), (ad_q4, .inl (cI, n_q4, .inl q4))] H → va_D A [(ad_q1, .inr (1, [.ref ad_q1_facts, .int q1_number])), (ad_q1_facts, .inl (cI, 54, .inl q1_facts)), (ad_q2, .inr (5, [.int q2_law, .int q2_named, .int q2_linked, .int q2_total, .int q2_givers, .int q2_least])), (ad_q4, .inl (cI, n_q4, .inl q4))] → va_S A s.heap H locs → ∀ ls : Array Slot, lv_has ls 8 [(1, .ref ad_q1), (2, .ref ad_q2), (3, .int x3), (4, .ref ad_q4), (5, .int x5), (6, .int x6)] → (f_X10_celebrate_b60 N n_q4 (f_X10_celebrate_b7 N n_q4 (f_X10_celebrate_b66 N n_q4 q1_number q1_facts q2_law q2_named q2_linked) q1_number q1_facts q2_law q2_named q2_linked n7) (f_X10_celebrate_b66 N n_q4 q1_number q1_facts q2_law q2_named q2_linked) q1_number q1_facts q2_law q2_named q2_linked) q2_total q2_givers q2_least q4 x3 x5 x6 = some o → W p l e rm_X10_celebrate s m args below meth c H locs 0 0 Q (F0 m 60 ls []) := by
        intro H locs q2_total q2_givers q2_least q4 x3 x5 x6 hP hD hS ls hl hf
        unfold f_X10_celebrate_b60 at hf
        refine lv_iinc (v := (x6 + (1 : Int32))) (lv' := [(6, .int (x6 + (1 : Int32))), (1, .ref ad_q1), (2, .ref ad_q2), (3, .int x3), (4, .ref ad_q4), (5, .int x5)]) hx hb dX10_celebrate_60 hl (k := 5) rfl rfl (by decide) rfl (fun ls hl => ?_)
        refine lv_goto (tgt := 7) hx hb dX10_celebrate_63 (by decide) ?_
        exact ih7 _ _ q2_total q2_givers q2_least q4 x3 x5 (x6 + (1 : Int32)) hP hD hS _ (lv_sub hl [1, 2, 3, 4, 5, 0] rfl) hf
      intro H locs q2_total q2_givers q2_least q4 x3 x5 x6 hP hD hS ls hl hf
      rw [f_X10_celebrate_b7] at hf
      refine lv_iload hx hb dX10_celebrate_7 (lv_at hl 5 rfl) ?_
      refine lv_aload_n hx hb dX10_celebrate_9 rfl (lv_at hl 0 rfl) ?_
      refine kget hX hP (q0 := 0) rfl rfl inX1 (k := 1) (by decide) rfl wd68 rfl dX10_celebrate_10 ?_
      refine lv_icmp_ge (tgt := 66) hx hb dX10_celebrate_13 (by decide) (fun c13 => ?_) (fun c13 => ?_)
      · replace hf := ip c13 hf
        exact hb66 _ _ q2_total q2_givers q2_least q4 x3 x5 hP hD hS _ (lv_sub hl [1, 2, 3, 4] rfl) hf
      · replace hf := iq c13 hf
        refine lv_iload hx hb dX10_celebrate_16 (lv_at hl 5 rfl) ?_
        refine lv_iload_n hx hb dX10_celebrate_18 rfl (lv_at hl 2 rfl) ?_
        refine lv_icmp_eq (tgt := 60) hx hb dX10_celebrate_19 (by decide) (fun c19 => ?_) (fun c19 => ?_)
        · replace hf := ip c19 hf
          exact hb60 _ _ q2_total q2_givers q2_least q4 x3 x5 x6 hP hD hS _ (lv_sub hl [0, 1, 2, 3, 4, 5] rfl) hf
        · replace hf := iq c19 hf
          refine lv_aload_n hx hb dX10_celebrate_22 rfl (lv_at hl 1 rfl) ?_
          refine lv_aload_n hx hb dX10_celebrate_23 rfl (lv_at hl 0 rfl) ?_
          refine lv_iload hx hb dX10_celebrate_24 (lv_at hl 5 rfl) ?_
          obtain ⟨z26_1, hz26_1, hf⟩ := bn_s hf
          refine kVi (rest := []) hX (c_X5_gives l D cI cJ cR N ad_q2 ad_q1 ad_q1_facts q2_law q2_named q2_linked q2_total q2_givers q2_least q1_number q1_facts x6 hz26_1) kc_X5_gives wd872 ⟨Nat.le_of_ble_eq_true rfl, Nat.le_of_ble_eq_true rfl⟩ ⟨rfl, rfl⟩ hP hD hS (ci := 5) rfl rfl (q0 := 2) rfl [2, 0, 1] rfl (by decide) (fun w h => by cases h; rfl) rfl rfl (Nat.le_of_ble_eq_true rfl) hl.1 ⟨Nat.zero_le _, Nat.zero_le _⟩ dX10_celebrate_26 (fun H locs w1 hw1 hP hD hS => ?_)
          cases hw1
          have hP : va_P D vwCl [(ad_q1, .inr (1, [.ref ad_q1_facts, .int q1_number])), (ad_q1_facts, .inl (cI, 54, .inl q1_facts)), (ad_q2, .inr (5, [.int q2_law, .int q2_named, .int q2_linked, .int q2_total, .int q2_givers, .int q2_least])), (ad_q4, .inl (cI, n_q4, .inl q4))] H := hP
          have hD : va_D A [(ad_q1, .inr (1, [.ref ad_q1_facts, .int q1_number])), (ad_q1_facts, .inl (cI, 54, .inl q1_facts)), (ad_q2, .inr (5, [.int q2_law, .int q2_named, .int q2_linked, .int q2_total, .int q2_givers, .int q2_least])), (ad_q4, .inl (cI, n_q4, .inl q4))] := hD
          refine lv_istore (lv' := [(7, .int z26_1), (1, .ref ad_q1), (2, .ref ad_q2), (3, .int x3), (4, .ref ad_q4), (5, .int x5), (6, .int x6)]) hx hb dX10_celebrate_29 hl (by decide) rfl (fun ls hl => ?_)
          refine lv_aload_n hx hb dX10_celebrate_31 rfl (lv_at hl 2 rfl) ?_
          refine lv_iload hx hb dX10_celebrate_32 (lv_at hl 0 rfl) ?_
          obtain ⟨z34_2, hz34_2⟩ : ∃ z, z = p_X5_take q2_total q2_givers q2_least z26_1 := ⟨_, rfl⟩
          replace hf := nm_s hz34_2 hf
          refine kVv (rest := []) hX (c_X5_take l D cI cJ cR ad_q2 q2_law q2_named q2_linked q2_total q2_givers q2_least z26_1 hz34_2.symm) kc_X5_take wd873 ⟨Nat.le_of_ble_eq_true rfl, Nat.le_of_ble_eq_true rfl⟩ ⟨rfl, rfl⟩ hP hD hS (ci := 5) rfl rfl (q0 := 2) rfl [2] rfl (by decide) (fun w h => by cases h; rfl) rfl rfl (Nat.le_of_ble_eq_true rfl) hl.1 ⟨Nat.zero_le _, Nat.zero_le _⟩ dX10_celebrate_34 (fun H locs w1 hw1 hP hD hS => ?_)
          cases hw1
          have hP : va_P D vwCl [(ad_q1, .inr (1, [.ref ad_q1_facts, .int q1_number])), (ad_q1_facts, .inl (cI, 54, .inl q1_facts)), (ad_q2, .inr (5, [.int q2_law, .int q2_named, .int q2_linked, .int z34_2.1, .int z34_2.2.1, .int z34_2.2.2])), (ad_q4, .inl (cI, n_q4, .inl q4))] H := hP
          have hD : va_D A [(ad_q1, .inr (1, [.ref ad_q1_facts, .int q1_number])), (ad_q1_facts, .inl (cI, 54, .inl q1_facts)), (ad_q2, .inr (5, [.int q2_law, .int q2_named, .int q2_linked, .int z34_2.1, .int z34_2.2.1, .int z34_2.2.2])), (ad_q4, .inl (cI, n_q4, .inl q4))] := hD
          refine lv_aload hx hb dX10_celebrate_37 (lv_at hl 4 rfl) ?_
          refine lv_iload hx hb dX10_celebrate_39 (lv_at hl 5 rfl) ?_
          refine lv_iload hx hb dX10_celebrate_41 (lv_at hl 6 rfl) ?_
          refine lv_iadd hx hb dX10_celebrate_43 ?_
          refine lv_aload hx hb dX10_celebrate_44 (lv_at hl 4 rfl) ?_
          refine lv_iload hx hb dX10_celebrate_46 (lv_at hl 5 rfl) ?_
          refine lv_iload hx hb dX10_celebrate_48 (lv_at hl 6 rfl) ?_
          refine lv_iadd hx hb dX10_celebrate_50 ?_
          refine kSi (rest := [.int (x5 + x6), .ref ad_q4]) hX (c_X10_cell l D cI cJ cR ad_q4 n_q4 h_n_q4 q4 (x5 + x6) rfl) kc_X10_cell wd874 ⟨Nat.le_of_ble_eq_true rfl, Nat.le_of_ble_eq_true rfl⟩ ⟨rfl, rfl⟩ hP hD hS [3] rfl (by decide) (fun w h => by cases h; rfl) rfl rfl (Nat.le_of_ble_eq_true rfl) hl.1 ⟨Nat.zero_le _, Nat.zero_le _⟩ dX10_celebrate_51 (fun H locs w1 hw1 hP hD hS => ?_)
          cases hw1
          have hP : va_P D vwCl [(ad_q1, .inr (1, [.ref ad_q1_facts, .int q1_number])), (ad_q1_facts, .inl (cI, 54, .inl q1_facts)), (ad_q2, .inr (5, [.int q2_law, .int q2_named, .int q2_linked, .int z34_2.1, .int z34_2.2.1, .int z34_2.2.2])), (ad_q4, .inl (cI, n_q4, .inl q4))] H := hP
          have hD : va_D A [(ad_q1, .inr (1, [.ref ad_q1_facts, .int q1_number])), (ad_q1_facts, .inl (cI, 54, .inl q1_facts)), (ad_q2, .inr (5, [.int q2_law, .int q2_named, .int q2_linked, .int z34_2.1, .int z34_2.2.1, .int z34_2.2.2])), (ad_q4, .inl (cI, n_q4, .inl q4))] := hD
          refine lv_iload hx hb dX10_celebrate_54 (lv_at hl 0 rfl) ?_
          refine lv_isub hx hb dX10_celebrate_56 ?_
          obtain ⟨z57_3, hz57_3⟩ : ∃ z, z = p_X10_setCell n_q4 q4 (x5 + x6) ((p_X10_cell n_q4 q4 (x5 + x6)) - z26_1) := ⟨_, rfl⟩
          replace hf := nm_s hz57_3 hf
          refine kSv (rest := []) hX (c_X10_setCell l D cI cJ cR ad_q4 n_q4 h_n_q4 q4 (x5 + x6) ((p_X10_cell n_q4 q4 (x5 + x6)) - z26_1) hz57_3.symm) kc_X10_setCell wd864 ⟨Nat.le_of_ble_eq_true rfl, Nat.le_of_ble_eq_true rfl⟩ ⟨rfl, rfl⟩ hP hD hS [3] rfl (by decide) (fun w h => by cases h; rfl) rfl rfl (Nat.le_of_ble_eq_true rfl) hl.1 ⟨Nat.zero_le _, Nat.zero_le _⟩ dX10_celebrate_57 (fun H locs w1 hw1 hP hD hS => ?_)
          cases hw1
          have hP : va_P D vwCl [(ad_q1, .inr (1, [.ref ad_q1_facts, .int q1_number])), (ad_q1_facts, .inl (cI, 54, .inl q1_facts)), (ad_q2, .inr (5, [.int q2_law, .int q2_named, .int q2_linked, .int z34_2.1, .int z34_2.2.1, .int z34_2.2.2])), (ad_q4, .inl (cI, n_q4, .inl z57_3))] H := hP
          have hD : va_D A [(ad_q1, .inr (1, [.ref ad_q1_facts, .int q1_number])), (ad_q1_facts, .inl (cI, 54, .inl q1_facts)), (ad_q2, .inr (5, [.int q2_law, .int q2_named, .int q2_linked, .int z34_2.1, .int z34_2.2.1, .int z34_2.2.2])), (ad_q4, .inl (cI, n_q4, .inl z57_3))] := hD
          exact hb60 _ _ z34_2.1 z34_2.2.1 z34_2.2.2 z57_3 x3 x5 x6 hP hD hS _ (lv_sub hl [1, 2, 3, 4, 5, 6] rfl) hf
  unfold f_X10_celebrate at hf
  refine lv_aload_n hx hb dX10_celebrate_0 rfl (lv_at hl 2 rfl) ?_
  obtain ⟨z1_1, hz1_1⟩ : ∃ z, z = p_X5_clear q2_total q2_givers q2_least := ⟨_, rfl⟩
  replace hf := nm_s hz1_1 hf
  refine kVv (rest := []) hX (c_X5_clear l D cI cJ cR ad_q2 q2_law q2_named q2_linked q2_total q2_givers q2_least hz1_1.symm) kc_X5_clear wd871 ⟨Nat.le_of_ble_eq_true rfl, Nat.le_of_ble_eq_true rfl⟩ ⟨rfl, rfl⟩ hP hD hS (ci := 5) rfl rfl (q0 := 2) rfl [2] rfl (by decide) (fun w h => by cases h; rfl) rfl rfl (Nat.le_of_ble_eq_true rfl) hl.1 ⟨Nat.zero_le _, Nat.zero_le _⟩ dX10_celebrate_1 (fun H locs w1 hw1 hP hD hS => ?_)
  cases hw1
  have hP : va_P D vwCl [(ad_q1, .inr (1, [.ref ad_q1_facts, .int q1_number])), (ad_q1_facts, .inl (cI, 54, .inl q1_facts)), (ad_q2, .inr (5, [.int q2_law, .int q2_named, .int q2_linked, .int z1_1.1, .int z1_1.2.1, .int z1_1.2.2])), (ad_q4, .inl (cI, n_q4, .inl q4))] H := hP
  have hD : va_D A [(ad_q1, .inr (1, [.ref ad_q1_facts, .int q1_number])), (ad_q1_facts, .inl (cI, 54, .inl q1_facts)), (ad_q2, .inr (5, [.int q2_law, .int q2_named, .int q2_linked, .int z1_1.1, .int z1_1.2.1, .int z1_1.2.2])), (ad_q4, .inl (cI, n_q4, .inl q4))] := hD
  refine lv_iconst (v := 0) hx hb dX10_celebrate_4 (by decide) ?_
  refine lv_istore (lv' := [(6, .int (0 : Int32)), (0, .ref ad_s), (1, .ref ad_q1), (2, .ref ad_q2), (3, .int x3), (4, .ref ad_q4), (5, .int x5)]) hx hb dX10_celebrate_5 hl (by decide) rfl (fun ls hl => ?_)
  exact hb7 N _ _ z1_1.1 z1_1.2.1 z1_1.2.2 q4 x3 x5 (0 : Int32) hP hD hS _ (lv_sub hl [2, 3, 4, 5, 6, 0] rfl) hf
def f_X10_add_b60 (N : Nat) (q1_number : Int32) (q1_facts : (Nat → Int32)) (q2_law : Int32) (q2_named : Int32) (q2_linked : Int32) (s_number : Int32) (s_leavers : (Nat → Int32)) (s_changes : (Nat → Int32)) (q2_total : Int32) (q2_givers : Int32) (q2_least : Int32) (x3 : Int32) (x4 : Int32) : Option (Int32 × Int32 × (Nat → Int32) × (Nat → Int32) × Int32 × Int32 × Int32) :=
  gd (inb s_number 40 = true) (bn (f_X10_celebrate N 360 q1_number q1_facts q2_law q2_named q2_linked q2_total q2_givers q2_least s_changes x3 x4) (fun z90_2 => some (z90_2.1, (s_number + (1 : Int32)), (upd s_leavers s_number.toNatClampNeg x3), z90_2.2.2.2.2, z90_2.2.1, z90_2.2.2.1, z90_2.2.2.2.1)))
def f_X10_add_b34 (N : Nat) (k60 : Int32 → (Nat → Int32) → (Nat → Int32) → Int32 → Int32 → Int32 → Int32 → Int32 → Option (Int32 × Int32 × (Nat → Int32) × (Nat → Int32) × Int32 × Int32 × Int32)) (q1_number : Int32) (q1_facts : (Nat → Int32)) (q2_law : Int32) (q2_named : Int32) (q2_linked : Int32) : Nat → Int32 → (Nat → Int32) → (Nat → Int32) → Int32 → Int32 → Int32 → Int32 → Int32 → Int32 → Option (Int32 × Int32 × (Nat → Int32) × (Nat → Int32) × Int32 × Int32 × Int32)
  | 0, _, _, _, _, _, _, _, _, _ => none
  | n34 + 1, s_number, s_leavers, s_changes, q2_total, q2_givers, q2_least, x3, x4, x5 => if (9 : Int32) ≤ x5 then k60 s_number s_leavers s_changes q2_total q2_givers q2_least x3 x4 else nm (p_X10_setCell 360 s_changes (x4 + x5) (0 : Int32)) (fun z51_1 => (f_X10_add_b34 N k60 q1_number q1_facts q2_law q2_named q2_linked n34) s_number s_leavers z51_1 q2_total q2_givers q2_least x3 x4 (x5 + (1 : Int32)))
def f_X10_add (N : Nat) (q1_number : Int32) (q1_facts : (Nat → Int32)) (q2_law : Int32) (q2_named : Int32) (q2_linked : Int32) (s_number : Int32) (s_leavers : (Nat → Int32)) (s_changes : (Nat → Int32)) (q2_total : Int32) (q2_givers : Int32) (q2_least : Int32) (x3 : Int32) : Option (Int32 × Int32 × (Nat → Int32) × (Nat → Int32) × Int32 × Int32 × Int32) :=
  if s_number < 0 then some ((-2 : Int32), s_number, s_leavers, s_changes, q2_total, q2_givers, q2_least) else if s_number < (40 : Int32) then nm (s_number * (9 : Int32)) (fun v29 => (f_X10_add_b34 N (f_X10_add_b60 N q1_number q1_facts q2_law q2_named q2_linked) q1_number q1_facts q2_law q2_named q2_linked N) s_number s_leavers s_changes q2_total q2_givers q2_least x3 v29 (0 : Int32)) else some ((-2 : Int32), s_number, s_leavers, s_changes, q2_total, q2_givers, q2_least)
abbrev rm_X10_add : Room := { frames := 5, cells := 0, slots := 0, locals := 118 }
set_option maxHeartbeats 4000000 in
set_option maxRecDepth 100000 in
theorem c_X10_add (l : Launch) (D : va_G) (cI cJ cR : ClassId) (N : Nat) (ad_s ad_s_leavers ad_s_changes ad_s_balances ad_q1 ad_q1_facts ad_q2 : Nat) (s_number : Int32) (s_leavers : (Nat → Int32)) (s_changes : (Nat → Int32)) (q1_number : Int32) (q1_facts : (Nat → Int32)) (q2_law : Int32) (q2_named : Int32) (q2_linked : Int32) (q2_total : Int32) (q2_givers : Int32) (q2_least : Int32) (x3 : Int32) {o : Int32 × Int32 × (Nat → Int32) × (Nat → Int32) × Int32 × Int32 × Int32} (hf : f_X10_add N q1_number q1_facts q2_law q2_named q2_linked s_number s_leavers s_changes q2_total q2_givers q2_least x3 = some o) : kMi l D (kT cI cJ cR) yX10_add cX10_add 6 (some .int) rm_X10_add [.ref ad_s, .ref ad_q1, .ref ad_q2, .int x3] [(ad_s, .inr (10, [.ref ad_s_leavers, .ref ad_s_changes, .ref ad_s_balances, .int s_number])), (ad_s_leavers, .inl (cI, 40, .inl s_leavers)), (ad_s_changes, .inl (cI, 360, .inl s_changes)), (ad_q1, .inr (1, [.ref ad_q1_facts, .int q1_number])), (ad_q1_facts, .inl (cI, 54, .inl q1_facts)), (ad_q2, .inr (5, [.int q2_law, .int q2_named, .int q2_linked, .int q2_total, .int q2_givers, .int q2_least]))] (o.1) (fun w => w = [(ad_s, .inr (10, [.ref ad_s_leavers, .ref ad_s_changes, .ref ad_s_balances, .int o.2.1])), (ad_s_leavers, .inl (cI, 40, .inl o.2.2.1)), (ad_s_changes, .inl (cI, 360, .inl o.2.2.2.1)), (ad_q1, .inr (1, [.ref ad_q1_facts, .int q1_number])), (ad_q1_facts, .inl (cI, 54, .inl q1_facts)), (ad_q2, .inr (5, [.int q2_law, .int q2_named, .int q2_linked, .int o.2.2.2.2.1, .int o.2.2.2.2.2.1, .int o.2.2.2.2.2.2]))]) := by
  apply kInI (o := o)
  · decide
  · exact Nat.le_of_ble_eq_true rfl
  intro p e s m args below meth c A ls Q hX hRet hP hD hS hl
  have hx := hX.1.1
  have hb := hX.1.2.1
  have hown := hX.1.2.2.2.1
  have hts := hX.1.2.2.2.2
  have hl : lv_has ls 6 [(0, .ref ad_s), (1, .ref ad_q1), (2, .ref ad_q2), (3, .int x3)] := hl
  have hb60 : ∀ (H : Heap) (locs : List Loc) (s_number : Int32) (s_leavers : (Nat → Int32)) (s_changes : (Nat → Int32)) (q2_total : Int32) (q2_givers : Int32) (q2_least : Int32) (x3 : Int32) (x4 : Int32), va_P D vwCl [(ad_s, .inr (10, [.ref ad_s_leavers, .ref ad_s_changes, .ref ad_s_balances, .int s_number])), (ad_s_leavers, .inl (cI, 40, .inl s_leavers)), (ad_s_changes, .inl (cI, 360, .inl s_changes)), (ad_q1, .inr (1, [.ref ad_q1_facts, .int q1_number])), (ad_q1_facts, .inl (cI, 54, .inl q1_facts)), (ad_q2, .inr (5, [.int q2_law, .int q2_named, .int q2_linked, .int q2_total, .int q2_givers, .int q2_least]))] H → va_D A [(ad_s, .inr (10, [.ref ad_s_leavers, .ref ad_s_changes, .ref ad_s_balances, .int s_number])), (ad_s_leavers, .inl (cI, 40, .inl s_leavers)), (ad_s_changes, .inl (cI, 360, .inl s_changes)), (ad_q1, .inr (1, [.ref ad_q1_facts, .int q1_number])), (ad_q1_facts, .inl (cI, 54, .inl q1_facts)), (ad_q2, .inr (5, [.int q2_law, .int q2_named, .int q2_linked, .int q2_total, .int q2_givers, .int q2_least]))] → va_S A s.heap H locs → ∀ ls : Array Slot, lv_has ls 6 [(0, .ref ad_s), (1, .ref ad_q1), (2, .ref ad_q2), (3, .int x3), (4, .int x4)] → (f_X10_add_b60 N q1_number q1_facts q2_law q2_named q2_linked) s_number s_leavers s_changes q2_total q2_givers q2_least x3 x4 = some o → W p l e rm_X10_add s m args below meth c H locs 0 0 Q (F0 m 60 ls []) := by
    intro H locs s_number s_leavers s_changes q2_total q2_givers q2_least x3 x4 hP hD hS ls hl hf
    unfold f_X10_add_b60 at hf
    refine lv_aload_n hx hb dX10_add_60 rfl (lv_at hl 0 rfl) ?_
    refine kget hX hP (q0 := 0) rfl rfl inX10 (k := 0) (by decide) rfl wd146 rfl dX10_add_61 ?_
    refine lv_aload_n hx hb dX10_add_64 rfl (lv_at hl 0 rfl) ?_
    refine kget hX hP (q0 := 0) rfl rfl inX10 (k := 3) (by decide) rfl wd149 rfl dX10_add_65 ?_
    refine lv_iload_n hx hb dX10_add_68 rfl (lv_at hl 3 rfl) ?_
    obtain ⟨hg69_1, hf⟩ := gd_s hf
    refine kiast hX hP hD hS rfl (q0 := 1) rfl (inb_in hg69_1) dX10_add_69 (fun H locs hP hD hS => ?_)
    refine lv_aload_n hx hb dX10_add_70 rfl (lv_at hl 0 rfl) ?_
    refine lv_dup hx hb dX10_add_71 rfl ?_
    refine kget hX hP (q0 := 0) rfl rfl inX10 (k := 3) (by decide) rfl wd149 rfl dX10_add_72 ?_
    refine lv_iconst (v := 1) hx hb dX10_add_75 (by decide) ?_
    refine lv_iadd hx hb dX10_add_76 ?_
    refine kput hX hP hD hS (q0 := 0) rfl rfl inX10 tyX10_ok nmX10 (k := 3) (by decide) rfl wd149 rfl rfl (Nat.le_of_ble_eq_true rfl) dX10_add_77 (fun H locs hP hD hS => ?_)
    refine lv_aload_n hx hb dX10_add_80 rfl (lv_at hl 0 rfl) ?_
    refine lv_aload_n hx hb dX10_add_81 rfl (lv_at hl 1 rfl) ?_
    refine lv_aload_n hx hb dX10_add_82 rfl (lv_at hl 2 rfl) ?_
    refine lv_iload_n hx hb dX10_add_83 rfl (lv_at hl 3 rfl) ?_
    refine lv_aload_n hx hb dX10_add_84 rfl (lv_at hl 0 rfl) ?_
    refine kget hX hP (q0 := 0) rfl rfl inX10 (k := 1) (by decide) rfl wd147 rfl dX10_add_85 ?_
    refine lv_iload hx hb dX10_add_88 (lv_at hl 4 rfl) ?_
    obtain ⟨z90_2, hz90_2, hf⟩ := bn_s hf
    refine kVi (rest := []) hX (c_X10_celebrate l D cI cJ cR N ad_s ad_q1 ad_q1_facts ad_q2 ad_s_changes 360 (by decide) q1_number q1_facts q2_law q2_named q2_linked q2_total q2_givers q2_least s_changes x3 x4 hz90_2) kc_X10_celebrate wd867 ⟨Nat.le_of_ble_eq_true rfl, Nat.le_of_ble_eq_true rfl⟩ ⟨rfl, rfl⟩ hP hD hS (ci := 10) rfl rfl (q0 := 0) rfl [3, 4, 5, 2] rfl (by decide) (fun w h => by cases h; rfl) rfl rfl (Nat.le_of_ble_eq_true rfl) hl.1 ⟨Nat.zero_le _, Nat.zero_le _⟩ dX10_add_90 (fun H locs w1 hw1 hP hD hS => ?_)
    cases hw1
    have hP : va_P D vwCl [(ad_s, .inr (10, [.ref ad_s_leavers, .ref ad_s_changes, .ref ad_s_balances, .int (s_number + (1 : Int32))])), (ad_s_leavers, .inl (cI, 40, .inl (upd s_leavers s_number.toNatClampNeg x3))), (ad_s_changes, .inl (cI, 360, .inl z90_2.2.2.2.2)), (ad_q1, .inr (1, [.ref ad_q1_facts, .int q1_number])), (ad_q1_facts, .inl (cI, 54, .inl q1_facts)), (ad_q2, .inr (5, [.int q2_law, .int q2_named, .int q2_linked, .int z90_2.2.1, .int z90_2.2.2.1, .int z90_2.2.2.2.1]))] H := hP
    have hD : va_D A [(ad_s, .inr (10, [.ref ad_s_leavers, .ref ad_s_changes, .ref ad_s_balances, .int (s_number + (1 : Int32))])), (ad_s_leavers, .inl (cI, 40, .inl (upd s_leavers s_number.toNatClampNeg x3))), (ad_s_changes, .inl (cI, 360, .inl z90_2.2.2.2.2)), (ad_q1, .inr (1, [.ref ad_q1_facts, .int q1_number])), (ad_q1_facts, .inl (cI, 54, .inl q1_facts)), (ad_q2, .inr (5, [.int q2_law, .int q2_named, .int q2_linked, .int z90_2.2.1, .int z90_2.2.2.1, .int z90_2.2.2.2.1]))] := hD
    exact hRet _ _ _ _ _ _ _ (Option.some.inj hf) rfl rfl hP hD hS dX10_add_93
  have hb34 : ∀ n34 : Nat, ∀ (H : Heap) (locs : List Loc) (s_number : Int32) (s_leavers : (Nat → Int32)) (s_changes : (Nat → Int32)) (q2_total : Int32) (q2_givers : Int32) (q2_least : Int32) (x3 : Int32) (x4 : Int32) (x5 : Int32), va_P D vwCl [(ad_s, .inr (10, [.ref ad_s_leavers, .ref ad_s_changes, .ref ad_s_balances, .int s_number])), (ad_s_leavers, .inl (cI, 40, .inl s_leavers)), (ad_s_changes, .inl (cI, 360, .inl s_changes)), (ad_q1, .inr (1, [.ref ad_q1_facts, .int q1_number])), (ad_q1_facts, .inl (cI, 54, .inl q1_facts)), (ad_q2, .inr (5, [.int q2_law, .int q2_named, .int q2_linked, .int q2_total, .int q2_givers, .int q2_least]))] H → va_D A [(ad_s, .inr (10, [.ref ad_s_leavers, .ref ad_s_changes, .ref ad_s_balances, .int s_number])), (ad_s_leavers, .inl (cI, 40, .inl s_leavers)), (ad_s_changes, .inl (cI, 360, .inl s_changes)), (ad_q1, .inr (1, [.ref ad_q1_facts, .int q1_number])), (ad_q1_facts, .inl (cI, 54, .inl q1_facts)), (ad_q2, .inr (5, [.int q2_law, .int q2_named, .int q2_linked, .int q2_total, .int q2_givers, .int q2_least]))] → va_S A s.heap H locs → ∀ ls : Array Slot, lv_has ls 6 [(0, .ref ad_s), (1, .ref ad_q1), (2, .ref ad_q2), (3, .int x3), (4, .int x4), (5, .int x5)] → f_X10_add_b34 N (f_X10_add_b60 N q1_number q1_facts q2_law q2_named q2_linked) q1_number q1_facts q2_law q2_named q2_linked n34 s_number s_leavers s_changes q2_total q2_givers q2_least x3 x4 x5 = some o → W p l e rm_X10_add s m args below meth c H locs 0 0 Q (F0 m 34 ls []) := by
    intro n34
    induction n34 with
    | zero =>
      intro H locs s_number s_leavers s_changes q2_total q2_givers q2_least x3 x4 x5 hP hD hS ls hl hf
      rw [f_X10_add_b34] at hf
      cases hf
    | succ n34 ih34 =>
      intro H locs s_number s_leavers s_changes q2_total q2_givers q2_least x3 x4 x5 hP hD hS ls hl hf
      rw [f_X10_add_b34] at hf
      refine lv_iload hx hb dX10_add_34 (lv_at hl 5 rfl) ?_
      refine lv_bipush (v := 9) hx hb dX10_add_36 (by decide) ?_
      refine lv_icmp_ge (tgt := 60) hx hb dX10_add_38 (by decide) (fun c38 => ?_) (fun c38 => ?_)
      · replace hf := ip c38 hf
        exact hb60 _ _ s_number s_leavers s_changes q2_total q2_givers q2_least x3 x4 hP hD hS _ (lv_sub hl [0, 1, 2, 3, 4] rfl) hf
      · replace hf := iq c38 hf
        refine lv_aload_n hx hb dX10_add_41 rfl (lv_at hl 0 rfl) ?_
        refine kget hX hP (q0 := 0) rfl rfl inX10 (k := 1) (by decide) rfl wd147 rfl dX10_add_42 ?_
        refine lv_iload hx hb dX10_add_45 (lv_at hl 4 rfl) ?_
        refine lv_iload hx hb dX10_add_47 (lv_at hl 5 rfl) ?_
        refine lv_iadd hx hb dX10_add_49 ?_
        refine lv_iconst (v := 0) hx hb dX10_add_50 (by decide) ?_
        obtain ⟨z51_1, hz51_1⟩ : ∃ z, z = p_X10_setCell 360 s_changes (x4 + x5) (0 : Int32) := ⟨_, rfl⟩
        replace hf := nm_s hz51_1 hf
        refine kSv (rest := []) hX (c_X10_setCell l D cI cJ cR ad_s_changes 360 (by decide) s_changes (x4 + x5) (0 : Int32) hz51_1.symm) kc_X10_setCell wd864 ⟨Nat.le_of_ble_eq_true rfl, Nat.le_of_ble_eq_true rfl⟩ ⟨rfl, rfl⟩ hP hD hS [2] rfl (by decide) (fun w h => by cases h; rfl) rfl rfl (Nat.le_of_ble_eq_true rfl) hl.1 ⟨Nat.zero_le _, Nat.zero_le _⟩ dX10_add_51 (fun H locs w1 hw1 hP hD hS => ?_)
        cases hw1
        have hP : va_P D vwCl [(ad_s, .inr (10, [.ref ad_s_leavers, .ref ad_s_changes, .ref ad_s_balances, .int s_number])), (ad_s_leavers, .inl (cI, 40, .inl s_leavers)), (ad_s_changes, .inl (cI, 360, .inl z51_1)), (ad_q1, .inr (1, [.ref ad_q1_facts, .int q1_number])), (ad_q1_facts, .inl (cI, 54, .inl q1_facts)), (ad_q2, .inr (5, [.int q2_law, .int q2_named, .int q2_linked, .int q2_total, .int q2_givers, .int q2_least]))] H := hP
        have hD : va_D A [(ad_s, .inr (10, [.ref ad_s_leavers, .ref ad_s_changes, .ref ad_s_balances, .int s_number])), (ad_s_leavers, .inl (cI, 40, .inl s_leavers)), (ad_s_changes, .inl (cI, 360, .inl z51_1)), (ad_q1, .inr (1, [.ref ad_q1_facts, .int q1_number])), (ad_q1_facts, .inl (cI, 54, .inl q1_facts)), (ad_q2, .inr (5, [.int q2_law, .int q2_named, .int q2_linked, .int q2_total, .int q2_givers, .int q2_least]))] := hD
        refine lv_iinc (v := (x5 + (1 : Int32))) (lv' := [(5, .int (x5 + (1 : Int32))), (0, .ref ad_s), (1, .ref ad_q1), (2, .ref ad_q2), (3, .int x3), (4, .int x4)]) hx hb dX10_add_54 hl (k := 5) rfl rfl (by decide) rfl (fun ls hl => ?_)
        refine lv_goto (tgt := 34) hx hb dX10_add_57 (by decide) ?_
        exact ih34 _ _ s_number s_leavers z51_1 q2_total q2_givers q2_least x3 x4 (x5 + (1 : Int32)) hP hD hS _ (lv_sub hl [1, 2, 3, 4, 5, 0] rfl) hf
  unfold f_X10_add at hf
  refine lv_aload_n hx hb dX10_add_0 rfl (lv_at hl 0 rfl) ?_
  refine kget hX hP (q0 := 0) rfl rfl inX10 (k := 3) (by decide) rfl wd149 rfl dX10_add_1 ?_
  refine lv_if_lt (tgt := 19) hx hb dX10_add_4 (by decide) (fun c4 => ?_) (fun c4 => ?_)
  · replace hf := ip c4 hf
    refine lv_bipush (v := -2) hx hb dX10_add_19 (by decide) ?_
    exact hRet _ _ _ _ _ _ _ (Option.some.inj hf) rfl rfl hP hD hS dX10_add_21
  · replace hf := iq c4 hf
    refine lv_aload_n hx hb dX10_add_7 rfl (lv_at hl 0 rfl) ?_
    refine kget hX hP (q0 := 0) rfl rfl inX10 (k := 3) (by decide) rfl wd149 rfl dX10_add_8 ?_
    refine lv_aload_n hx hb dX10_add_11 rfl (lv_at hl 0 rfl) ?_
    refine kget hX hP (q0 := 0) rfl rfl inX10 (k := 0) (by decide) rfl wd146 rfl dX10_add_12 ?_
    refine kalen hX hP (t0 := 0) rfl (q0 := 1) rfl (v := (40 : Int32)) rfl dX10_add_15 ?_
    refine lv_icmp_lt (tgt := 22) hx hb dX10_add_16 (by decide) (fun c16 => ?_) (fun c16 => ?_)
    · replace hf := ip c16 hf
      refine lv_aload_n hx hb dX10_add_22 rfl (lv_at hl 0 rfl) ?_
      refine kget hX hP (q0 := 0) rfl rfl inX10 (k := 3) (by decide) rfl wd149 rfl dX10_add_23 ?_
      refine lv_bipush (v := 9) hx hb dX10_add_26 (by decide) ?_
      refine lv_imul hx hb dX10_add_28 ?_
      refine lv_topi (fun v29 ev29 => ?_)
      replace hf := nm_s ev29 hf
      refine lv_istore (lv' := [(4, .int v29), (0, .ref ad_s), (1, .ref ad_q1), (2, .ref ad_q2), (3, .int x3)]) hx hb dX10_add_29 hl (by decide) rfl (fun ls hl => ?_)
      refine lv_iconst (v := 0) hx hb dX10_add_31 (by decide) ?_
      refine lv_istore (lv' := [(5, .int (0 : Int32)), (4, .int v29), (0, .ref ad_s), (1, .ref ad_q1), (2, .ref ad_q2), (3, .int x3)]) hx hb dX10_add_32 hl (by decide) rfl (fun ls hl => ?_)
      exact hb34 N _ _ s_number s_leavers s_changes q2_total q2_givers q2_least x3 v29 (0 : Int32) hP hD hS _ (lv_sub hl [2, 3, 4, 5, 1, 0] rfl) hf
    · replace hf := iq c16 hf
      refine lv_bipush (v := -2) hx hb dX10_add_19 (by decide) ?_
      exact hRet _ _ _ _ _ _ _ (Option.some.inj hf) rfl rfl hP hD hS dX10_add_21
def f_X10_balanceOf_b4 (N : Nat) (s_number : Int32) (s_changes : (Nat → Int32)) : Nat → Int32 → Int32 → Int32 → Option (Int32)
  | 0, _, _, _ => none
  | n4 + 1, x1, x2, x3 => if s_number ≤ x3 then some (x2) else nm (x2 + (p_X10_cell 360 s_changes ((x3 * (9 : Int32)) + x1))) (fun v27 => (f_X10_balanceOf_b4 N s_number s_changes n4) x1 v27 (x3 + (1 : Int32)))
def f_X10_balanceOf (N : Nat) (s_number : Int32) (s_changes : (Nat → Int32)) (x1 : Int32) : Option (Int32) :=
  (f_X10_balanceOf_b4 N s_number s_changes N) x1 (0 : Int32) (0 : Int32)
abbrev rm_X10_balanceOf : Room := { frames := 1, cells := 0, slots := 0, locals := 21 }
set_option maxHeartbeats 4000000 in
set_option maxRecDepth 100000 in
theorem c_X10_balanceOf (l : Launch) (D : va_G) (cI cJ cR : ClassId) (N : Nat) (ad_s ad_s_leavers ad_s_changes ad_s_balances : Nat) (s_number : Int32) (s_changes : (Nat → Int32)) (x1 : Int32) {o : Int32} (hf : f_X10_balanceOf N s_number s_changes x1 = some o) : kMi l D (kT cI cJ cR) yX10_balanceOf cX10_balanceOf 4 (some .int) rm_X10_balanceOf [.ref ad_s, .int x1] [(ad_s, .inr (10, [.ref ad_s_leavers, .ref ad_s_changes, .ref ad_s_balances, .int s_number])), (ad_s_changes, .inl (cI, 360, .inl s_changes))] (o) (fun w => w = [(ad_s, .inr (10, [.ref ad_s_leavers, .ref ad_s_changes, .ref ad_s_balances, .int s_number])), (ad_s_changes, .inl (cI, 360, .inl s_changes))]) := by
  apply kInI (o := o)
  · decide
  · exact Nat.le_of_ble_eq_true rfl
  intro p e s m args below meth c A ls Q hX hRet hP hD hS hl
  have hx := hX.1.1
  have hb := hX.1.2.1
  have hown := hX.1.2.2.2.1
  have hts := hX.1.2.2.2.2
  have hl : lv_has ls 4 [(0, .ref ad_s), (1, .int x1)] := hl
  have hb4 : ∀ n4 : Nat, ∀ (H : Heap) (locs : List Loc) (x1 : Int32) (x2 : Int32) (x3 : Int32), va_P D vwCl [(ad_s, .inr (10, [.ref ad_s_leavers, .ref ad_s_changes, .ref ad_s_balances, .int s_number])), (ad_s_changes, .inl (cI, 360, .inl s_changes))] H → va_D A [(ad_s, .inr (10, [.ref ad_s_leavers, .ref ad_s_changes, .ref ad_s_balances, .int s_number])), (ad_s_changes, .inl (cI, 360, .inl s_changes))] → va_S A s.heap H locs → ∀ ls : Array Slot, lv_has ls 4 [(0, .ref ad_s), (1, .int x1), (2, .int x2), (3, .int x3)] → f_X10_balanceOf_b4 N s_number s_changes n4 x1 x2 x3 = some o → W p l e rm_X10_balanceOf s m args below meth c H locs 0 0 Q (F0 m 4 ls []) := by
    intro n4
    induction n4 with
    | zero =>
      intro H locs x1 x2 x3 hP hD hS ls hl hf
      rw [f_X10_balanceOf_b4] at hf
      cases hf
    | succ n4 ih4 =>
      intro H locs x1 x2 x3 hP hD hS ls hl hf
      rw [f_X10_balanceOf_b4] at hf
      refine lv_iload_n hx hb dX10_balanceOf_4 rfl (lv_at hl 3 rfl) ?_
      refine lv_aload_n hx hb dX10_balanceOf_5 rfl (lv_at hl 0 rfl) ?_
      refine kget hX hP (q0 := 0) rfl rfl inX10 (k := 3) (by decide) rfl wd149 rfl dX10_balanceOf_6 ?_
      refine lv_icmp_ge (tgt := 34) hx hb dX10_balanceOf_9 (by decide) (fun c9 => ?_) (fun c9 => ?_)
      · replace hf := ip c9 hf
        refine lv_iload_n hx hb dX10_balanceOf_34 rfl (lv_at hl 2 rfl) ?_
        exact hRet _ _ _ _ _ _ _ (Option.some.inj hf) rfl rfl hP hD hS dX10_balanceOf_35
      · replace hf := iq c9 hf
        refine lv_iload_n hx hb dX10_balanceOf_12 rfl (lv_at hl 2 rfl) ?_
        refine lv_aload_n hx hb dX10_balanceOf_13 rfl (lv_at hl 0 rfl) ?_
        refine kget hX hP (q0 := 0) rfl rfl inX10 (k := 1) (by decide) rfl wd147 rfl dX10_balanceOf_14 ?_
        refine lv_iload_n hx hb dX10_balanceOf_17 rfl (lv_at hl 3 rfl) ?_
        refine lv_bipush (v := 9) hx hb dX10_balanceOf_18 (by decide) ?_
        refine lv_imul hx hb dX10_balanceOf_20 ?_
        refine lv_iload_n hx hb dX10_balanceOf_21 rfl (lv_at hl 1 rfl) ?_
        refine lv_iadd hx hb dX10_balanceOf_22 ?_
        refine kSi (rest := [.int x2]) hX (c_X10_cell l D cI cJ cR ad_s_changes 360 (by decide) s_changes ((x3 * (9 : Int32)) + x1) rfl) kc_X10_cell wd874 ⟨Nat.le_of_ble_eq_true rfl, Nat.le_of_ble_eq_true rfl⟩ ⟨rfl, rfl⟩ hP hD hS [1] rfl (by decide) (fun w h => by cases h; rfl) rfl rfl (Nat.le_of_ble_eq_true rfl) hl.1 ⟨Nat.zero_le _, Nat.zero_le _⟩ dX10_balanceOf_23 (fun H locs w1 hw1 hP hD hS => ?_)
        cases hw1
        have hP : va_P D vwCl [(ad_s, .inr (10, [.ref ad_s_leavers, .ref ad_s_changes, .ref ad_s_balances, .int s_number])), (ad_s_changes, .inl (cI, 360, .inl s_changes))] H := hP
        have hD : va_D A [(ad_s, .inr (10, [.ref ad_s_leavers, .ref ad_s_changes, .ref ad_s_balances, .int s_number])), (ad_s_changes, .inl (cI, 360, .inl s_changes))] := hD
        refine lv_iadd hx hb dX10_balanceOf_26 ?_
        refine lv_topi (fun v27 ev27 => ?_)
        replace hf := nm_s ev27 hf
        refine lv_istore_n (lv' := [(2, .int v27), (0, .ref ad_s), (1, .int x1), (3, .int x3)]) hx hb dX10_balanceOf_27 rfl hl (by decide) rfl (fun ls hl => ?_)
        refine lv_iinc (v := (x3 + (1 : Int32))) (lv' := [(3, .int (x3 + (1 : Int32))), (2, .int v27), (0, .ref ad_s), (1, .int x1)]) hx hb dX10_balanceOf_28 hl (k := 3) rfl rfl (by decide) rfl (fun ls hl => ?_)
        refine lv_goto (tgt := 4) hx hb dX10_balanceOf_31 (by decide) ?_
        exact ih4 _ _ x1 v27 (x3 + (1 : Int32)) hP hD hS _ (lv_sub hl [2, 3, 1, 0] rfl) hf
  unfold f_X10_balanceOf at hf
  refine lv_iconst (v := 0) hx hb dX10_balanceOf_0 (by decide) ?_
  refine lv_istore_n (lv' := [(2, .int (0 : Int32)), (0, .ref ad_s), (1, .int x1)]) hx hb dX10_balanceOf_1 rfl hl (by decide) rfl (fun ls hl => ?_)
  refine lv_iconst (v := 0) hx hb dX10_balanceOf_2 (by decide) ?_
  refine lv_istore_n (lv' := [(3, .int (0 : Int32)), (2, .int (0 : Int32)), (0, .ref ad_s), (1, .int x1)]) hx hb dX10_balanceOf_3 rfl hl (by decide) rfl (fun ls hl => ?_)
  exact hb4 N _ _ x1 (0 : Int32) (0 : Int32) hP hD hS _ (lv_sub hl [2, 3, 1, 0] rfl) hf
def f_X10_apartAfter_b84 (N : Nat) (nS_q3 : Nat) (nC_q3 : Nat) (q1_number : Int32) (q1_facts : (Nat → Int32)) (q2_law : Int32) (q2_named : Int32) (q2_linked : Int32) (q3_places : Int32) (q3_sizes : (Nat → Int32)) (q3_cells : (Nat → Int32)) : Nat → (Nat → Int32) → Int32 → Int32 → Int32 → Int32 → Int32 → Int32 → Option (Int32 × (Nat → Int32) × Int32 × Int32 × Int32)
  | 0, _, _, _, _, _, _, _ => none
  | n84 + 1, s_balances, q2_total, q2_givers, q2_least, x5, x6, x7 => if q1_number ≤ x7 then some ((x5 - x6), s_balances, q2_total, q2_givers, q2_least) else nm (if x5 < (p_X10_cell 9 s_balances x7) then (p_X10_cell 9 s_balances x7) else x5) (fun v107 => nm (if (p_X10_cell 9 s_balances x7) < x6 then (p_X10_cell 9 s_balances x7) else x6) (fun v123 => (f_X10_apartAfter_b84 N nS_q3 nC_q3 q1_number q1_facts q2_law q2_named q2_linked q3_places q3_sizes q3_cells n84) s_balances q2_total q2_givers q2_least v107 v123 (x7 + (1 : Int32))))
def f_X10_apartAfter_b67 (N : Nat) (nS_q3 : Nat) (nC_q3 : Nat) (q1_number : Int32) (q1_facts : (Nat → Int32)) (q2_law : Int32) (q2_named : Int32) (q2_linked : Int32) (q3_places : Int32) (q3_sizes : (Nat → Int32)) (q3_cells : (Nat → Int32)) (s_balances : (Nat → Int32)) (q2_total : Int32) (q2_givers : Int32) (q2_least : Int32) : Option (Int32 × (Nat → Int32) × Int32 × Int32 × Int32) :=
  nm (p_X10_cell 9 s_balances (0 : Int32)) (fun v75 => (f_X10_apartAfter_b84 N nS_q3 nC_q3 q1_number q1_facts q2_law q2_named q2_linked q3_places q3_sizes q3_cells N) s_balances q2_total q2_givers q2_least v75 v75 (1 : Int32))
def f_X10_apartAfter_b30 (N : Nat) (nS_q3 : Nat) (nC_q3 : Nat) (k67 : (Nat → Int32) → Int32 → Int32 → Int32 → Option (Int32 × (Nat → Int32) × Int32 × Int32 × Int32)) (q1_number : Int32) (q1_facts : (Nat → Int32)) (q2_law : Int32) (q2_named : Int32) (q2_linked : Int32) (q3_places : Int32) (q3_sizes : (Nat → Int32)) (q3_cells : (Nat → Int32)) : Nat → (Nat → Int32) → Int32 → Int32 → Int32 → Int32 → Int32 → Option (Int32 × (Nat → Int32) × Int32 × Int32 × Int32)
  | 0, _, _, _, _, _, _ => none
  | n30 + 1, s_balances, q2_total, q2_givers, q2_least, x4, x5 => if (p_X7_sizeOf nS_q3 q3_sizes x4) ≤ x5 then k67 s_balances q2_total q2_givers q2_least else bn (f_X10_celebrate N 9 q1_number q1_facts q2_law q2_named q2_linked q2_total q2_givers q2_least s_balances (p_X7_cell nS_q3 nC_q3 q3_places q3_sizes q3_cells x4 x5) (0 : Int32)) (fun z57_1 => (f_X10_apartAfter_b30 N nS_q3 nC_q3 k67 q1_number q1_facts q2_law q2_named q2_linked q3_places q3_sizes q3_cells n30) z57_1.2.2.2.2 z57_1.2.1 z57_1.2.2.1 z57_1.2.2.2.1 x4 (x5 + (1 : Int32)))
def f_X10_apartAfter_b27 (N : Nat) (nS_q3 : Nat) (nC_q3 : Nat) (q1_number : Int32) (q1_facts : (Nat → Int32)) (q2_law : Int32) (q2_named : Int32) (q2_linked : Int32) (q3_places : Int32) (q3_sizes : (Nat → Int32)) (q3_cells : (Nat → Int32)) (s_balances : (Nat → Int32)) (q2_total : Int32) (q2_givers : Int32) (q2_least : Int32) (x4 : Int32) : Option (Int32 × (Nat → Int32) × Int32 × Int32 × Int32) :=
  (f_X10_apartAfter_b30 N nS_q3 nC_q3 (f_X10_apartAfter_b67 N nS_q3 nC_q3 q1_number q1_facts q2_law q2_named q2_linked q3_places q3_sizes q3_cells) q1_number q1_facts q2_law q2_named q2_linked q3_places q3_sizes q3_cells N) s_balances q2_total q2_givers q2_least x4 (0 : Int32)
def f_X10_apartAfter_b3 (N : Nat) (nS_q3 : Nat) (nC_q3 : Nat) (k27 : (Nat → Int32) → Int32 → Int32 → Int32 → Int32 → Option (Int32 × (Nat → Int32) × Int32 × Int32 × Int32)) (q1_number : Int32) (q1_facts : (Nat → Int32)) (q2_law : Int32) (q2_named : Int32) (q2_linked : Int32) (q3_places : Int32) (q3_sizes : (Nat → Int32)) (q3_cells : (Nat → Int32)) : Nat → (Nat → Int32) → Int32 → Int32 → Int32 → Int32 → Int32 → Option (Int32 × (Nat → Int32) × Int32 × Int32 × Int32)
  | 0, _, _, _, _, _, _ => none
  | n3 + 1, s_balances, q2_total, q2_givers, q2_least, x4, x5 => if (9 : Int32) ≤ x5 then k27 s_balances q2_total q2_givers q2_least x4 else gd (inb x5 9 = true) ((f_X10_apartAfter_b3 N nS_q3 nC_q3 k27 q1_number q1_facts q2_law q2_named q2_linked q3_places q3_sizes q3_cells n3) (upd s_balances x5.toNatClampNeg (0 : Int32)) q2_total q2_givers q2_least x4 (x5 + (1 : Int32)))
def f_X10_apartAfter (N : Nat) (nS_q3 : Nat) (nC_q3 : Nat) (q1_number : Int32) (q1_facts : (Nat → Int32)) (q2_law : Int32) (q2_named : Int32) (q2_linked : Int32) (q3_places : Int32) (q3_sizes : (Nat → Int32)) (q3_cells : (Nat → Int32)) (s_balances : (Nat → Int32)) (q2_total : Int32) (q2_givers : Int32) (q2_least : Int32) (x4 : Int32) : Option (Int32 × (Nat → Int32) × Int32 × Int32 × Int32) :=
  (f_X10_apartAfter_b3 N nS_q3 nC_q3 (f_X10_apartAfter_b27 N nS_q3 nC_q3 q1_number q1_facts q2_law q2_named q2_linked q3_places q3_sizes q3_cells) q1_number q1_facts q2_law q2_named q2_linked q3_places q3_sizes q3_cells N) s_balances q2_total q2_givers q2_least x4 (0 : Int32)
abbrev rm_X10_apartAfter : Room := { frames := 5, cells := 0, slots := 0, locals := 118 }
set_option maxHeartbeats 4000000 in
set_option maxRecDepth 100000 in
theorem c_X10_apartAfter (l : Launch) (D : va_G) (cI cJ cR : ClassId) (N : Nat) (ad_s ad_s_leavers ad_s_changes ad_s_balances ad_q1 ad_q1_facts ad_q2 ad_q3 ad_q3_sizes ad_q3_cells : Nat) (nS_q3 : Nat) (nC_q3 : Nat) (h_nS_q3 : nS_q3 < 2147483648) (h_nC_q3 : nC_q3 < 2147483648) (s_number : Int32) (s_balances : (Nat → Int32)) (q1_number : Int32) (q1_facts : (Nat → Int32)) (q2_law : Int32) (q2_named : Int32) (q2_linked : Int32) (q2_total : Int32) (q2_givers : Int32) (q2_least : Int32) (q3_places : Int32) (q3_sizes : (Nat → Int32)) (q3_cells : (Nat → Int32)) (x4 : Int32) {o : Int32 × (Nat → Int32) × Int32 × Int32 × Int32} (hf : f_X10_apartAfter N nS_q3 nC_q3 q1_number q1_facts q2_law q2_named q2_linked q3_places q3_sizes q3_cells s_balances q2_total q2_givers q2_least x4 = some o) : kMi l D (kT cI cJ cR) yX10_apartAfter cX10_apartAfter 8 (some .int) rm_X10_apartAfter [.ref ad_s, .ref ad_q1, .ref ad_q2, .ref ad_q3, .int x4] [(ad_s, .inr (10, [.ref ad_s_leavers, .ref ad_s_changes, .ref ad_s_balances, .int s_number])), (ad_s_balances, .inl (cI, 9, .inl s_balances)), (ad_q1, .inr (1, [.ref ad_q1_facts, .int q1_number])), (ad_q1_facts, .inl (cI, 54, .inl q1_facts)), (ad_q2, .inr (5, [.int q2_law, .int q2_named, .int q2_linked, .int q2_total, .int q2_givers, .int q2_least])), (ad_q3, .inr (7, [.int q3_places, .ref ad_q3_sizes, .ref ad_q3_cells])), (ad_q3_sizes, .inl (cI, nS_q3, .inl q3_sizes)), (ad_q3_cells, .inl (cI, nC_q3, .inl q3_cells))] (o.1) (fun w => w = [(ad_s, .inr (10, [.ref ad_s_leavers, .ref ad_s_changes, .ref ad_s_balances, .int s_number])), (ad_s_balances, .inl (cI, 9, .inl o.2.1)), (ad_q1, .inr (1, [.ref ad_q1_facts, .int q1_number])), (ad_q1_facts, .inl (cI, 54, .inl q1_facts)), (ad_q2, .inr (5, [.int q2_law, .int q2_named, .int q2_linked, .int o.2.2.1, .int o.2.2.2.1, .int o.2.2.2.2])), (ad_q3, .inr (7, [.int q3_places, .ref ad_q3_sizes, .ref ad_q3_cells])), (ad_q3_sizes, .inl (cI, nS_q3, .inl q3_sizes)), (ad_q3_cells, .inl (cI, nC_q3, .inl q3_cells))]) := by
  apply kInI (o := o)
  · decide
  · exact Nat.le_of_ble_eq_true rfl
  intro p e s m args below meth c A ls Q hX hRet hP hD hS hl
  have hx := hX.1.1
  have hb := hX.1.2.1
  have hown := hX.1.2.2.2.1
  have hts := hX.1.2.2.2.2
  have hl : lv_has ls 8 [(0, .ref ad_s), (1, .ref ad_q1), (2, .ref ad_q2), (3, .ref ad_q3), (4, .int x4)] := hl
  have hb84 : ∀ n84 : Nat, ∀ (H : Heap) (locs : List Loc) (s_balances : (Nat → Int32)) (q2_total : Int32) (q2_givers : Int32) (q2_least : Int32) (x5 : Int32) (x6 : Int32) (x7 : Int32), va_P D vwCl [(ad_s, .inr (10, [.ref ad_s_leavers, .ref ad_s_changes, .ref ad_s_balances, .int s_number])), (ad_s_balances, .inl (cI, 9, .inl s_balances)), (ad_q1, .inr (1, [.ref ad_q1_facts, .int q1_number])), (ad_q1_facts, .inl (cI, 54, .inl q1_facts)), (ad_q2, .inr (5, [.int q2_law, .int q2_named, .int q2_linked, .int q2_total, .int q2_givers, .int q2_least])), (ad_q3, .inr (7, [.int q3_places, .ref ad_q3_sizes, .ref ad_q3_cells])), (ad_q3_sizes, .inl (cI, nS_q3, .inl q3_sizes)), (ad_q3_cells, .inl (cI, nC_q3, .inl q3_cells))] H → va_D A [(ad_s, .inr (10, [.ref ad_s_leavers, .ref ad_s_changes, .ref ad_s_balances, .int s_number])), (ad_s_balances, .inl (cI, 9, .inl s_balances)), (ad_q1, .inr (1, [.ref ad_q1_facts, .int q1_number])), (ad_q1_facts, .inl (cI, 54, .inl q1_facts)), (ad_q2, .inr (5, [.int q2_law, .int q2_named, .int q2_linked, .int q2_total, .int q2_givers, .int q2_least])), (ad_q3, .inr (7, [.int q3_places, .ref ad_q3_sizes, .ref ad_q3_cells])), (ad_q3_sizes, .inl (cI, nS_q3, .inl q3_sizes)), (ad_q3_cells, .inl (cI, nC_q3, .inl q3_cells))] → va_S A s.heap H locs → ∀ ls : Array Slot, lv_has ls 8 [(0, .ref ad_s), (1, .ref ad_q1), (5, .int x5), (6, .int x6), (7, .int x7)] → f_X10_apartAfter_b84 N nS_q3 nC_q3 q1_number q1_facts q2_law q2_named q2_linked q3_places q3_sizes q3_cells n84 s_balances q2_total q2_givers q2_least x5 x6 x7 = some o → W p l e rm_X10_apartAfter s m args below meth c H locs 0 0 Q (F0 m 84 ls []) := by
    intro n84
    induction n84 with
    | zero =>
      intro H locs s_balances q2_total q2_givers q2_least x5 x6 x7 hP hD hS ls hl hf
      rw [f_X10_apartAfter_b84] at hf
      cases hf
    | succ n84 ih84 =>
      intro H locs s_balances q2_total q2_givers q2_least x5 x6 x7 hP hD hS ls hl hf
      rw [f_X10_apartAfter_b84] at hf
      refine lv_iload hx hb dX10_apartAfter_84 (lv_at hl 4 rfl) ?_
      refine lv_aload_n hx hb dX10_apartAfter_86 rfl (lv_at hl 1 rfl) ?_
      refine kget hX hP (q0 := 2) rfl rfl inX1 (k := 1) (by decide) rfl wd68 rfl dX10_apartAfter_87 ?_
      refine lv_icmp_ge (tgt := 131) hx hb dX10_apartAfter_90 (by decide) (fun c90 => ?_) (fun c90 => ?_)
      · replace hf := ip c90 hf
        refine lv_iload hx hb dX10_apartAfter_131 (lv_at hl 2 rfl) ?_
        refine lv_iload hx hb dX10_apartAfter_133 (lv_at hl 3 rfl) ?_
        refine lv_isub hx hb dX10_apartAfter_135 ?_
        exact hRet _ _ _ _ _ _ _ (Option.some.inj hf) rfl rfl hP hD hS dX10_apartAfter_136
      · replace hf := iq c90 hf
        refine lv_iload hx hb dX10_apartAfter_93 (lv_at hl 2 rfl) ?_
        refine lv_aload_n hx hb dX10_apartAfter_95 rfl (lv_at hl 0 rfl) ?_
        refine kget hX hP (q0 := 0) rfl rfl inX10 (k := 2) (by decide) rfl wd148 rfl dX10_apartAfter_96 ?_
        refine lv_iload hx hb dX10_apartAfter_99 (lv_at hl 4 rfl) ?_
        refine kSi (rest := [.int x5]) hX (c_X10_cell l D cI cJ cR ad_s_balances 9 (by decide) s_balances x7 rfl) kc_X10_cell wd874 ⟨Nat.le_of_ble_eq_true rfl, Nat.le_of_ble_eq_true rfl⟩ ⟨rfl, rfl⟩ hP hD hS [1] rfl (by decide) (fun w h => by cases h; rfl) rfl rfl (Nat.le_of_ble_eq_true rfl) hl.1 ⟨Nat.zero_le _, Nat.zero_le _⟩ dX10_apartAfter_101 (fun H locs w1 hw1 hP hD hS => ?_)
        cases hw1
        have hP : va_P D vwCl [(ad_s, .inr (10, [.ref ad_s_leavers, .ref ad_s_changes, .ref ad_s_balances, .int s_number])), (ad_s_balances, .inl (cI, 9, .inl s_balances)), (ad_q1, .inr (1, [.ref ad_q1_facts, .int q1_number])), (ad_q1_facts, .inl (cI, 54, .inl q1_facts)), (ad_q2, .inr (5, [.int q2_law, .int q2_named, .int q2_linked, .int q2_total, .int q2_givers, .int q2_least])), (ad_q3, .inr (7, [.int q3_places, .ref ad_q3_sizes, .ref ad_q3_cells])), (ad_q3_sizes, .inl (cI, nS_q3, .inl q3_sizes)), (ad_q3_cells, .inl (cI, nC_q3, .inl q3_cells))] H := hP
        have hD : va_D A [(ad_s, .inr (10, [.ref ad_s_leavers, .ref ad_s_changes, .ref ad_s_balances, .int s_number])), (ad_s_balances, .inl (cI, 9, .inl s_balances)), (ad_q1, .inr (1, [.ref ad_q1_facts, .int q1_number])), (ad_q1_facts, .inl (cI, 54, .inl q1_facts)), (ad_q2, .inr (5, [.int q2_law, .int q2_named, .int q2_linked, .int q2_total, .int q2_givers, .int q2_least])), (ad_q3, .inr (7, [.int q3_places, .ref ad_q3_sizes, .ref ad_q3_cells])), (ad_q3_sizes, .inl (cI, nS_q3, .inl q3_sizes)), (ad_q3_cells, .inl (cI, nC_q3, .inl q3_cells))] := hD
        refine va_mmax hx hb (hX.1.2.2.1.trans hl.1.symm) hown (hts _ (List.mem_cons_of_mem _ wd899)) (hts _ (List.mem_cons_of_mem _ wd47)) (hts _ (List.mem_cons_of_mem _ wd20)) (hts _ (List.mem_cons_of_mem _ wd48)) (Nat.le_of_ble_eq_true rfl) (Nat.le_of_ble_eq_true rfl) (Nat.le_of_ble_eq_true rfl) (Nat.le_of_ble_eq_true rfl) dX10_apartAfter_104 ?_
        refine lv_topi (fun v107 ev107 => ?_)
        replace hf := nm_s ev107 hf
        refine lv_istore (lv' := [(5, .int v107), (0, .ref ad_s), (1, .ref ad_q1), (6, .int x6), (7, .int x7)]) hx hb dX10_apartAfter_107 hl (by decide) rfl (fun ls hl => ?_)
        refine lv_iload hx hb dX10_apartAfter_109 (lv_at hl 3 rfl) ?_
        refine lv_aload_n hx hb dX10_apartAfter_111 rfl (lv_at hl 1 rfl) ?_
        refine kget hX hP (q0 := 0) rfl rfl inX10 (k := 2) (by decide) rfl wd148 rfl dX10_apartAfter_112 ?_
        refine lv_iload hx hb dX10_apartAfter_115 (lv_at hl 4 rfl) ?_
        refine kSi (rest := [.int x6]) hX (c_X10_cell l D cI cJ cR ad_s_balances 9 (by decide) s_balances x7 rfl) kc_X10_cell wd874 ⟨Nat.le_of_ble_eq_true rfl, Nat.le_of_ble_eq_true rfl⟩ ⟨rfl, rfl⟩ hP hD hS [1] rfl (by decide) (fun w h => by cases h; rfl) rfl rfl (Nat.le_of_ble_eq_true rfl) hl.1 ⟨Nat.zero_le _, Nat.zero_le _⟩ dX10_apartAfter_117 (fun H locs w1 hw1 hP hD hS => ?_)
        cases hw1
        have hP : va_P D vwCl [(ad_s, .inr (10, [.ref ad_s_leavers, .ref ad_s_changes, .ref ad_s_balances, .int s_number])), (ad_s_balances, .inl (cI, 9, .inl s_balances)), (ad_q1, .inr (1, [.ref ad_q1_facts, .int q1_number])), (ad_q1_facts, .inl (cI, 54, .inl q1_facts)), (ad_q2, .inr (5, [.int q2_law, .int q2_named, .int q2_linked, .int q2_total, .int q2_givers, .int q2_least])), (ad_q3, .inr (7, [.int q3_places, .ref ad_q3_sizes, .ref ad_q3_cells])), (ad_q3_sizes, .inl (cI, nS_q3, .inl q3_sizes)), (ad_q3_cells, .inl (cI, nC_q3, .inl q3_cells))] H := hP
        have hD : va_D A [(ad_s, .inr (10, [.ref ad_s_leavers, .ref ad_s_changes, .ref ad_s_balances, .int s_number])), (ad_s_balances, .inl (cI, 9, .inl s_balances)), (ad_q1, .inr (1, [.ref ad_q1_facts, .int q1_number])), (ad_q1_facts, .inl (cI, 54, .inl q1_facts)), (ad_q2, .inr (5, [.int q2_law, .int q2_named, .int q2_linked, .int q2_total, .int q2_givers, .int q2_least])), (ad_q3, .inr (7, [.int q3_places, .ref ad_q3_sizes, .ref ad_q3_cells])), (ad_q3_sizes, .inl (cI, nS_q3, .inl q3_sizes)), (ad_q3_cells, .inl (cI, nC_q3, .inl q3_cells))] := hD
        refine va_mmin hx hb (hX.1.2.2.1.trans hl.1.symm) hown (hts _ (List.mem_cons_of_mem _ wd900)) (hts _ (List.mem_cons_of_mem _ wd780)) (hts _ (List.mem_cons_of_mem _ wd20)) (hts _ (List.mem_cons_of_mem _ wd781)) (Nat.le_of_ble_eq_true rfl) (Nat.le_of_ble_eq_true rfl) (Nat.le_of_ble_eq_true rfl) (Nat.le_of_ble_eq_true rfl) dX10_apartAfter_120 ?_
        refine lv_topi (fun v123 ev123 => ?_)
        replace hf := nm_s ev123 hf
        refine lv_istore (lv' := [(6, .int v123), (5, .int v107), (0, .ref ad_s), (1, .ref ad_q1), (7, .int x7)]) hx hb dX10_apartAfter_123 hl (by decide) rfl (fun ls hl => ?_)
        refine lv_iinc (v := (x7 + (1 : Int32))) (lv' := [(7, .int (x7 + (1 : Int32))), (6, .int v123), (5, .int v107), (0, .ref ad_s), (1, .ref ad_q1)]) hx hb dX10_apartAfter_125 hl (k := 4) rfl rfl (by decide) rfl (fun ls hl => ?_)
        refine lv_goto (tgt := 84) hx hb dX10_apartAfter_128 (by decide) ?_
        exact ih84 _ _ s_balances q2_total q2_givers q2_least v107 v123 (x7 + (1 : Int32)) hP hD hS _ (lv_sub hl [3, 4, 2, 1, 0] rfl) hf
  have hb67 : ∀ (H : Heap) (locs : List Loc) (s_balances : (Nat → Int32)) (q2_total : Int32) (q2_givers : Int32) (q2_least : Int32), va_P D vwCl [(ad_s, .inr (10, [.ref ad_s_leavers, .ref ad_s_changes, .ref ad_s_balances, .int s_number])), (ad_s_balances, .inl (cI, 9, .inl s_balances)), (ad_q1, .inr (1, [.ref ad_q1_facts, .int q1_number])), (ad_q1_facts, .inl (cI, 54, .inl q1_facts)), (ad_q2, .inr (5, [.int q2_law, .int q2_named, .int q2_linked, .int q2_total, .int q2_givers, .int q2_least])), (ad_q3, .inr (7, [.int q3_places, .ref ad_q3_sizes, .ref ad_q3_cells])), (ad_q3_sizes, .inl (cI, nS_q3, .inl q3_sizes)), (ad_q3_cells, .inl (cI, nC_q3, .inl q3_cells))] H → va_D A [(ad_s, .inr (10, [.ref ad_s_leavers, .ref ad_s_changes, .ref ad_s_balances, .int s_number])), (ad_s_balances, .inl (cI, 9, .inl s_balances)), (ad_q1, .inr (1, [.ref ad_q1_facts, .int q1_number])), (ad_q1_facts, .inl (cI, 54, .inl q1_facts)), (ad_q2, .inr (5, [.int q2_law, .int q2_named, .int q2_linked, .int q2_total, .int q2_givers, .int q2_least])), (ad_q3, .inr (7, [.int q3_places, .ref ad_q3_sizes, .ref ad_q3_cells])), (ad_q3_sizes, .inl (cI, nS_q3, .inl q3_sizes)), (ad_q3_cells, .inl (cI, nC_q3, .inl q3_cells))] → va_S A s.heap H locs → ∀ ls : Array Slot, lv_has ls 8 [(0, .ref ad_s), (1, .ref ad_q1)] → (f_X10_apartAfter_b67 N nS_q3 nC_q3 q1_number q1_facts q2_law q2_named q2_linked q3_places q3_sizes q3_cells) s_balances q2_total q2_givers q2_least = some o → W p l e rm_X10_apartAfter s m args below meth c H locs 0 0 Q (F0 m 67 ls []) := by
    intro H locs s_balances q2_total q2_givers q2_least hP hD hS ls hl hf
    unfold f_X10_apartAfter_b67 at hf
    refine lv_aload_n hx hb dX10_apartAfter_67 rfl (lv_at hl 0 rfl) ?_
    refine kget hX hP (q0 := 0) rfl rfl inX10 (k := 2) (by decide) rfl wd148 rfl dX10_apartAfter_68 ?_
    refine lv_iconst (v := 0) hx hb dX10_apartAfter_71 (by decide) ?_
    refine kSi (rest := []) hX (c_X10_cell l D cI cJ cR ad_s_balances 9 (by decide) s_balances (0 : Int32) rfl) kc_X10_cell wd874 ⟨Nat.le_of_ble_eq_true rfl, Nat.le_of_ble_eq_true rfl⟩ ⟨rfl, rfl⟩ hP hD hS [1] rfl (by decide) (fun w h => by cases h; rfl) rfl rfl (Nat.le_of_ble_eq_true rfl) hl.1 ⟨Nat.zero_le _, Nat.zero_le _⟩ dX10_apartAfter_72 (fun H locs w1 hw1 hP hD hS => ?_)
    cases hw1
    have hP : va_P D vwCl [(ad_s, .inr (10, [.ref ad_s_leavers, .ref ad_s_changes, .ref ad_s_balances, .int s_number])), (ad_s_balances, .inl (cI, 9, .inl s_balances)), (ad_q1, .inr (1, [.ref ad_q1_facts, .int q1_number])), (ad_q1_facts, .inl (cI, 54, .inl q1_facts)), (ad_q2, .inr (5, [.int q2_law, .int q2_named, .int q2_linked, .int q2_total, .int q2_givers, .int q2_least])), (ad_q3, .inr (7, [.int q3_places, .ref ad_q3_sizes, .ref ad_q3_cells])), (ad_q3_sizes, .inl (cI, nS_q3, .inl q3_sizes)), (ad_q3_cells, .inl (cI, nC_q3, .inl q3_cells))] H := hP
    have hD : va_D A [(ad_s, .inr (10, [.ref ad_s_leavers, .ref ad_s_changes, .ref ad_s_balances, .int s_number])), (ad_s_balances, .inl (cI, 9, .inl s_balances)), (ad_q1, .inr (1, [.ref ad_q1_facts, .int q1_number])), (ad_q1_facts, .inl (cI, 54, .inl q1_facts)), (ad_q2, .inr (5, [.int q2_law, .int q2_named, .int q2_linked, .int q2_total, .int q2_givers, .int q2_least])), (ad_q3, .inr (7, [.int q3_places, .ref ad_q3_sizes, .ref ad_q3_cells])), (ad_q3_sizes, .inl (cI, nS_q3, .inl q3_sizes)), (ad_q3_cells, .inl (cI, nC_q3, .inl q3_cells))] := hD
    refine lv_topi (fun v75 ev75 => ?_)
    replace hf := nm_s ev75 hf
    refine lv_istore (lv' := [(5, .int v75), (0, .ref ad_s), (1, .ref ad_q1)]) hx hb dX10_apartAfter_75 hl (by decide) rfl (fun ls hl => ?_)
    refine lv_iload hx hb dX10_apartAfter_77 (lv_at hl 0 rfl) ?_
    refine lv_istore (lv' := [(6, .int v75), (5, .int v75), (0, .ref ad_s), (1, .ref ad_q1)]) hx hb dX10_apartAfter_79 hl (by decide) rfl (fun ls hl => ?_)
    refine lv_iconst (v := 1) hx hb dX10_apartAfter_81 (by decide) ?_
    refine lv_istore (lv' := [(7, .int (1 : Int32)), (6, .int v75), (5, .int v75), (0, .ref ad_s), (1, .ref ad_q1)]) hx hb dX10_apartAfter_82 hl (by decide) rfl (fun ls hl => ?_)
    exact hb84 N _ _ s_balances q2_total q2_givers q2_least v75 v75 (1 : Int32) hP hD hS _ (lv_sub hl [3, 4, 2, 1, 0] rfl) hf
  have hb30 : ∀ n30 : Nat, ∀ (H : Heap) (locs : List Loc) (s_balances : (Nat → Int32)) (q2_total : Int32) (q2_givers : Int32) (q2_least : Int32) (x4 : Int32) (x5 : Int32), va_P D vwCl [(ad_s, .inr (10, [.ref ad_s_leavers, .ref ad_s_changes, .ref ad_s_balances, .int s_number])), (ad_s_balances, .inl (cI, 9, .inl s_balances)), (ad_q1, .inr (1, [.ref ad_q1_facts, .int q1_number])), (ad_q1_facts, .inl (cI, 54, .inl q1_facts)), (ad_q2, .inr (5, [.int q2_law, .int q2_named, .int q2_linked, .int q2_total, .int q2_givers, .int q2_least])), (ad_q3, .inr (7, [.int q3_places, .ref ad_q3_sizes, .ref ad_q3_cells])), (ad_q3_sizes, .inl (cI, nS_q3, .inl q3_sizes)), (ad_q3_cells, .inl (cI, nC_q3, .inl q3_cells))] H → va_D A [(ad_s, .inr (10, [.ref ad_s_leavers, .ref ad_s_changes, .ref ad_s_balances, .int s_number])), (ad_s_balances, .inl (cI, 9, .inl s_balances)), (ad_q1, .inr (1, [.ref ad_q1_facts, .int q1_number])), (ad_q1_facts, .inl (cI, 54, .inl q1_facts)), (ad_q2, .inr (5, [.int q2_law, .int q2_named, .int q2_linked, .int q2_total, .int q2_givers, .int q2_least])), (ad_q3, .inr (7, [.int q3_places, .ref ad_q3_sizes, .ref ad_q3_cells])), (ad_q3_sizes, .inl (cI, nS_q3, .inl q3_sizes)), (ad_q3_cells, .inl (cI, nC_q3, .inl q3_cells))] → va_S A s.heap H locs → ∀ ls : Array Slot, lv_has ls 8 [(0, .ref ad_s), (1, .ref ad_q1), (2, .ref ad_q2), (3, .ref ad_q3), (4, .int x4), (5, .int x5)] → f_X10_apartAfter_b30 N nS_q3 nC_q3 (f_X10_apartAfter_b67 N nS_q3 nC_q3 q1_number q1_facts q2_law q2_named q2_linked q3_places q3_sizes q3_cells) q1_number q1_facts q2_law q2_named q2_linked q3_places q3_sizes q3_cells n30 s_balances q2_total q2_givers q2_least x4 x5 = some o → W p l e rm_X10_apartAfter s m args below meth c H locs 0 0 Q (F0 m 30 ls []) := by
    intro n30
    induction n30 with
    | zero =>
      intro H locs s_balances q2_total q2_givers q2_least x4 x5 hP hD hS ls hl hf
      rw [f_X10_apartAfter_b30] at hf
      cases hf
    | succ n30 ih30 =>
      intro H locs s_balances q2_total q2_givers q2_least x4 x5 hP hD hS ls hl hf
      rw [f_X10_apartAfter_b30] at hf
      refine lv_iload hx hb dX10_apartAfter_30 (lv_at hl 5 rfl) ?_
      refine lv_aload_n hx hb dX10_apartAfter_32 rfl (lv_at hl 3 rfl) ?_
      refine lv_iload hx hb dX10_apartAfter_33 (lv_at hl 4 rfl) ?_
      refine kVi (rest := [.int x5]) hX (c_X7_sizeOf l D cI cJ cR ad_q3 ad_q3_sizes ad_q3_cells nS_q3 h_nS_q3 q3_places q3_sizes x4 rfl) kc_X7_sizeOf wd897 ⟨Nat.le_of_ble_eq_true rfl, Nat.le_of_ble_eq_true rfl⟩ ⟨rfl, rfl⟩ hP hD hS (ci := 7) rfl rfl (q0 := 5) rfl [5, 6] rfl (by decide) (fun w h => by cases h; rfl) rfl rfl (Nat.le_of_ble_eq_true rfl) hl.1 ⟨Nat.zero_le _, Nat.zero_le _⟩ dX10_apartAfter_35 (fun H locs w1 hw1 hP hD hS => ?_)
      cases hw1
      have hP : va_P D vwCl [(ad_s, .inr (10, [.ref ad_s_leavers, .ref ad_s_changes, .ref ad_s_balances, .int s_number])), (ad_s_balances, .inl (cI, 9, .inl s_balances)), (ad_q1, .inr (1, [.ref ad_q1_facts, .int q1_number])), (ad_q1_facts, .inl (cI, 54, .inl q1_facts)), (ad_q2, .inr (5, [.int q2_law, .int q2_named, .int q2_linked, .int q2_total, .int q2_givers, .int q2_least])), (ad_q3, .inr (7, [.int q3_places, .ref ad_q3_sizes, .ref ad_q3_cells])), (ad_q3_sizes, .inl (cI, nS_q3, .inl q3_sizes)), (ad_q3_cells, .inl (cI, nC_q3, .inl q3_cells))] H := hP
      have hD : va_D A [(ad_s, .inr (10, [.ref ad_s_leavers, .ref ad_s_changes, .ref ad_s_balances, .int s_number])), (ad_s_balances, .inl (cI, 9, .inl s_balances)), (ad_q1, .inr (1, [.ref ad_q1_facts, .int q1_number])), (ad_q1_facts, .inl (cI, 54, .inl q1_facts)), (ad_q2, .inr (5, [.int q2_law, .int q2_named, .int q2_linked, .int q2_total, .int q2_givers, .int q2_least])), (ad_q3, .inr (7, [.int q3_places, .ref ad_q3_sizes, .ref ad_q3_cells])), (ad_q3_sizes, .inl (cI, nS_q3, .inl q3_sizes)), (ad_q3_cells, .inl (cI, nC_q3, .inl q3_cells))] := hD
      refine lv_icmp_ge (tgt := 67) hx hb dX10_apartAfter_38 (by decide) (fun c38 => ?_) (fun c38 => ?_)
      · replace hf := ip c38 hf
        exact hb67 _ _ s_balances q2_total q2_givers q2_least hP hD hS _ (lv_sub hl [0, 1] rfl) hf
      · replace hf := iq c38 hf
        refine lv_aload_n hx hb dX10_apartAfter_41 rfl (lv_at hl 0 rfl) ?_
        refine lv_aload_n hx hb dX10_apartAfter_42 rfl (lv_at hl 1 rfl) ?_
        refine lv_aload_n hx hb dX10_apartAfter_43 rfl (lv_at hl 2 rfl) ?_
        refine lv_aload_n hx hb dX10_apartAfter_44 rfl (lv_at hl 3 rfl) ?_
        refine lv_iload hx hb dX10_apartAfter_45 (lv_at hl 4 rfl) ?_
        refine lv_iload hx hb dX10_apartAfter_47 (lv_at hl 5 rfl) ?_
        refine kVi (rest := [.ref ad_q2, .ref ad_q1, .ref ad_s]) hX (c_X7_cell l D cI cJ cR ad_q3 ad_q3_sizes ad_q3_cells nS_q3 nC_q3 h_nS_q3 h_nC_q3 q3_places q3_sizes q3_cells x4 x5 rfl) kc_X7_cell wd898 ⟨Nat.le_of_ble_eq_true rfl, Nat.le_of_ble_eq_true rfl⟩ ⟨rfl, rfl⟩ hP hD hS (ci := 7) rfl rfl (q0 := 5) rfl [5, 6, 7] rfl (by decide) (fun w h => by cases h; rfl) rfl rfl (Nat.le_of_ble_eq_true rfl) hl.1 ⟨Nat.zero_le _, Nat.zero_le _⟩ dX10_apartAfter_49 (fun H locs w1 hw1 hP hD hS => ?_)
        cases hw1
        have hP : va_P D vwCl [(ad_s, .inr (10, [.ref ad_s_leavers, .ref ad_s_changes, .ref ad_s_balances, .int s_number])), (ad_s_balances, .inl (cI, 9, .inl s_balances)), (ad_q1, .inr (1, [.ref ad_q1_facts, .int q1_number])), (ad_q1_facts, .inl (cI, 54, .inl q1_facts)), (ad_q2, .inr (5, [.int q2_law, .int q2_named, .int q2_linked, .int q2_total, .int q2_givers, .int q2_least])), (ad_q3, .inr (7, [.int q3_places, .ref ad_q3_sizes, .ref ad_q3_cells])), (ad_q3_sizes, .inl (cI, nS_q3, .inl q3_sizes)), (ad_q3_cells, .inl (cI, nC_q3, .inl q3_cells))] H := hP
        have hD : va_D A [(ad_s, .inr (10, [.ref ad_s_leavers, .ref ad_s_changes, .ref ad_s_balances, .int s_number])), (ad_s_balances, .inl (cI, 9, .inl s_balances)), (ad_q1, .inr (1, [.ref ad_q1_facts, .int q1_number])), (ad_q1_facts, .inl (cI, 54, .inl q1_facts)), (ad_q2, .inr (5, [.int q2_law, .int q2_named, .int q2_linked, .int q2_total, .int q2_givers, .int q2_least])), (ad_q3, .inr (7, [.int q3_places, .ref ad_q3_sizes, .ref ad_q3_cells])), (ad_q3_sizes, .inl (cI, nS_q3, .inl q3_sizes)), (ad_q3_cells, .inl (cI, nC_q3, .inl q3_cells))] := hD
        refine lv_aload_n hx hb dX10_apartAfter_52 rfl (lv_at hl 0 rfl) ?_
        refine kget hX hP (q0 := 0) rfl rfl inX10 (k := 2) (by decide) rfl wd148 rfl dX10_apartAfter_53 ?_
        refine lv_iconst (v := 0) hx hb dX10_apartAfter_56 (by decide) ?_
        obtain ⟨z57_1, hz57_1, hf⟩ := bn_s hf
        refine kVi (rest := []) hX (c_X10_celebrate l D cI cJ cR N ad_s ad_q1 ad_q1_facts ad_q2 ad_s_balances 9 (by decide) q1_number q1_facts q2_law q2_named q2_linked q2_total q2_givers q2_least s_balances (p_X7_cell nS_q3 nC_q3 q3_places q3_sizes q3_cells x4 x5) (0 : Int32) hz57_1) kc_X10_celebrate wd867 ⟨Nat.le_of_ble_eq_true rfl, Nat.le_of_ble_eq_true rfl⟩ ⟨rfl, rfl⟩ hP hD hS (ci := 10) rfl rfl (q0 := 0) rfl [2, 3, 4, 1] rfl (by decide) (fun w h => by cases h; rfl) rfl rfl (Nat.le_of_ble_eq_true rfl) hl.1 ⟨Nat.zero_le _, Nat.zero_le _⟩ dX10_apartAfter_57 (fun H locs w1 hw1 hP hD hS => ?_)
        cases hw1
        have hP : va_P D vwCl [(ad_s, .inr (10, [.ref ad_s_leavers, .ref ad_s_changes, .ref ad_s_balances, .int s_number])), (ad_s_balances, .inl (cI, 9, .inl z57_1.2.2.2.2)), (ad_q1, .inr (1, [.ref ad_q1_facts, .int q1_number])), (ad_q1_facts, .inl (cI, 54, .inl q1_facts)), (ad_q2, .inr (5, [.int q2_law, .int q2_named, .int q2_linked, .int z57_1.2.1, .int z57_1.2.2.1, .int z57_1.2.2.2.1])), (ad_q3, .inr (7, [.int q3_places, .ref ad_q3_sizes, .ref ad_q3_cells])), (ad_q3_sizes, .inl (cI, nS_q3, .inl q3_sizes)), (ad_q3_cells, .inl (cI, nC_q3, .inl q3_cells))] H := hP
        have hD : va_D A [(ad_s, .inr (10, [.ref ad_s_leavers, .ref ad_s_changes, .ref ad_s_balances, .int s_number])), (ad_s_balances, .inl (cI, 9, .inl z57_1.2.2.2.2)), (ad_q1, .inr (1, [.ref ad_q1_facts, .int q1_number])), (ad_q1_facts, .inl (cI, 54, .inl q1_facts)), (ad_q2, .inr (5, [.int q2_law, .int q2_named, .int q2_linked, .int z57_1.2.1, .int z57_1.2.2.1, .int z57_1.2.2.2.1])), (ad_q3, .inr (7, [.int q3_places, .ref ad_q3_sizes, .ref ad_q3_cells])), (ad_q3_sizes, .inl (cI, nS_q3, .inl q3_sizes)), (ad_q3_cells, .inl (cI, nC_q3, .inl q3_cells))] := hD
        refine lv_pop hx hb dX10_apartAfter_60 rfl ?_
        refine lv_iinc (v := (x5 + (1 : Int32))) (lv' := [(5, .int (x5 + (1 : Int32))), (0, .ref ad_s), (1, .ref ad_q1), (2, .ref ad_q2), (3, .ref ad_q3), (4, .int x4)]) hx hb dX10_apartAfter_61 hl (k := 5) rfl rfl (by decide) rfl (fun ls hl => ?_)
        refine lv_goto (tgt := 30) hx hb dX10_apartAfter_64 (by decide) ?_
        exact ih30 _ _ z57_1.2.2.2.2 z57_1.2.1 z57_1.2.2.1 z57_1.2.2.2.1 x4 (x5 + (1 : Int32)) hP hD hS _ (lv_sub hl [1, 2, 3, 4, 5, 0] rfl) hf
  have hb27 : ∀ (H : Heap) (locs : List Loc) (s_balances : (Nat → Int32)) (q2_total : Int32) (q2_givers : Int32) (q2_least : Int32) (x4 : Int32), va_P D vwCl [(ad_s, .inr (10, [.ref ad_s_leavers, .ref ad_s_changes, .ref ad_s_balances, .int s_number])), (ad_s_balances, .inl (cI, 9, .inl s_balances)), (ad_q1, .inr (1, [.ref ad_q1_facts, .int q1_number])), (ad_q1_facts, .inl (cI, 54, .inl q1_facts)), (ad_q2, .inr (5, [.int q2_law, .int q2_named, .int q2_linked, .int q2_total, .int q2_givers, .int q2_least])), (ad_q3, .inr (7, [.int q3_places, .ref ad_q3_sizes, .ref ad_q3_cells])), (ad_q3_sizes, .inl (cI, nS_q3, .inl q3_sizes)), (ad_q3_cells, .inl (cI, nC_q3, .inl q3_cells))] H → va_D A [(ad_s, .inr (10, [.ref ad_s_leavers, .ref ad_s_changes, .ref ad_s_balances, .int s_number])), (ad_s_balances, .inl (cI, 9, .inl s_balances)), (ad_q1, .inr (1, [.ref ad_q1_facts, .int q1_number])), (ad_q1_facts, .inl (cI, 54, .inl q1_facts)), (ad_q2, .inr (5, [.int q2_law, .int q2_named, .int q2_linked, .int q2_total, .int q2_givers, .int q2_least])), (ad_q3, .inr (7, [.int q3_places, .ref ad_q3_sizes, .ref ad_q3_cells])), (ad_q3_sizes, .inl (cI, nS_q3, .inl q3_sizes)), (ad_q3_cells, .inl (cI, nC_q3, .inl q3_cells))] → va_S A s.heap H locs → ∀ ls : Array Slot, lv_has ls 8 [(0, .ref ad_s), (1, .ref ad_q1), (2, .ref ad_q2), (3, .ref ad_q3), (4, .int x4)] → (f_X10_apartAfter_b27 N nS_q3 nC_q3 q1_number q1_facts q2_law q2_named q2_linked q3_places q3_sizes q3_cells) s_balances q2_total q2_givers q2_least x4 = some o → W p l e rm_X10_apartAfter s m args below meth c H locs 0 0 Q (F0 m 27 ls []) := by
    intro H locs s_balances q2_total q2_givers q2_least x4 hP hD hS ls hl hf
    unfold f_X10_apartAfter_b27 at hf
    refine lv_iconst (v := 0) hx hb dX10_apartAfter_27 (by decide) ?_
    refine lv_istore (lv' := [(5, .int (0 : Int32)), (0, .ref ad_s), (1, .ref ad_q1), (2, .ref ad_q2), (3, .ref ad_q3), (4, .int x4)]) hx hb dX10_apartAfter_28 hl (by decide) rfl (fun ls hl => ?_)
    exact hb30 N _ _ s_balances q2_total q2_givers q2_least x4 (0 : Int32) hP hD hS _ (lv_sub hl [1, 2, 3, 4, 5, 0] rfl) hf
  have hb3 : ∀ n3 : Nat, ∀ (H : Heap) (locs : List Loc) (s_balances : (Nat → Int32)) (q2_total : Int32) (q2_givers : Int32) (q2_least : Int32) (x4 : Int32) (x5 : Int32), va_P D vwCl [(ad_s, .inr (10, [.ref ad_s_leavers, .ref ad_s_changes, .ref ad_s_balances, .int s_number])), (ad_s_balances, .inl (cI, 9, .inl s_balances)), (ad_q1, .inr (1, [.ref ad_q1_facts, .int q1_number])), (ad_q1_facts, .inl (cI, 54, .inl q1_facts)), (ad_q2, .inr (5, [.int q2_law, .int q2_named, .int q2_linked, .int q2_total, .int q2_givers, .int q2_least])), (ad_q3, .inr (7, [.int q3_places, .ref ad_q3_sizes, .ref ad_q3_cells])), (ad_q3_sizes, .inl (cI, nS_q3, .inl q3_sizes)), (ad_q3_cells, .inl (cI, nC_q3, .inl q3_cells))] H → va_D A [(ad_s, .inr (10, [.ref ad_s_leavers, .ref ad_s_changes, .ref ad_s_balances, .int s_number])), (ad_s_balances, .inl (cI, 9, .inl s_balances)), (ad_q1, .inr (1, [.ref ad_q1_facts, .int q1_number])), (ad_q1_facts, .inl (cI, 54, .inl q1_facts)), (ad_q2, .inr (5, [.int q2_law, .int q2_named, .int q2_linked, .int q2_total, .int q2_givers, .int q2_least])), (ad_q3, .inr (7, [.int q3_places, .ref ad_q3_sizes, .ref ad_q3_cells])), (ad_q3_sizes, .inl (cI, nS_q3, .inl q3_sizes)), (ad_q3_cells, .inl (cI, nC_q3, .inl q3_cells))] → va_S A s.heap H locs → ∀ ls : Array Slot, lv_has ls 8 [(0, .ref ad_s), (1, .ref ad_q1), (2, .ref ad_q2), (3, .ref ad_q3), (4, .int x4), (5, .int x5)] → f_X10_apartAfter_b3 N nS_q3 nC_q3 (f_X10_apartAfter_b27 N nS_q3 nC_q3 q1_number q1_facts q2_law q2_named q2_linked q3_places q3_sizes q3_cells) q1_number q1_facts q2_law q2_named q2_linked q3_places q3_sizes q3_cells n3 s_balances q2_total q2_givers q2_least x4 x5 = some o → W p l e rm_X10_apartAfter s m args below meth c H locs 0 0 Q (F0 m 3 ls []) := by
    intro n3
    induction n3 with
    | zero =>
      intro H locs s_balances q2_total q2_givers q2_least x4 x5 hP hD hS ls hl hf
      rw [f_X10_apartAfter_b3] at hf
      cases hf
    | succ n3 ih3 =>
      intro H locs s_balances q2_total q2_givers q2_least x4 x5 hP hD hS ls hl hf
      rw [f_X10_apartAfter_b3] at hf
      refine lv_iload hx hb dX10_apartAfter_3 (lv_at hl 5 rfl) ?_
      refine lv_aload_n hx hb dX10_apartAfter_5 rfl (lv_at hl 0 rfl) ?_
      refine kget hX hP (q0 := 0) rfl rfl inX10 (k := 2) (by decide) rfl wd148 rfl dX10_apartAfter_6 ?_
      refine kalen hX hP (t0 := 0) rfl (q0 := 1) rfl (v := (9 : Int32)) rfl dX10_apartAfter_9 ?_
      refine lv_icmp_ge (tgt := 27) hx hb dX10_apartAfter_10 (by decide) (fun c10 => ?_) (fun c10 => ?_)
      · replace hf := ip c10 hf
        exact hb27 _ _ s_balances q2_total q2_givers q2_least x4 hP hD hS _ (lv_sub hl [0, 1, 2, 3, 4] rfl) hf
      · replace hf := iq c10 hf
        refine lv_aload_n hx hb dX10_apartAfter_13 rfl (lv_at hl 0 rfl) ?_
        refine kget hX hP (q0 := 0) rfl rfl inX10 (k := 2) (by decide) rfl wd148 rfl dX10_apartAfter_14 ?_
        refine lv_iload hx hb dX10_apartAfter_17 (lv_at hl 5 rfl) ?_
        refine lv_iconst (v := 0) hx hb dX10_apartAfter_19 (by decide) ?_
        obtain ⟨hg20_1, hf⟩ := gd_s hf
        refine kiast hX hP hD hS rfl (q0 := 1) rfl (inb_in hg20_1) dX10_apartAfter_20 (fun H locs hP hD hS => ?_)
        refine lv_iinc (v := (x5 + (1 : Int32))) (lv' := [(5, .int (x5 + (1 : Int32))), (0, .ref ad_s), (1, .ref ad_q1), (2, .ref ad_q2), (3, .ref ad_q3), (4, .int x4)]) hx hb dX10_apartAfter_21 hl (k := 5) rfl rfl (by decide) rfl (fun ls hl => ?_)
        refine lv_goto (tgt := 3) hx hb dX10_apartAfter_24 (by decide) ?_
        exact ih3 _ _ (upd s_balances x5.toNatClampNeg (0 : Int32)) q2_total q2_givers q2_least x4 (x5 + (1 : Int32)) hP hD hS _ (lv_sub hl [1, 2, 3, 4, 5, 0] rfl) hf
  unfold f_X10_apartAfter at hf
  refine lv_iconst (v := 0) hx hb dX10_apartAfter_0 (by decide) ?_
  refine lv_istore (lv' := [(5, .int (0 : Int32)), (0, .ref ad_s), (1, .ref ad_q1), (2, .ref ad_q2), (3, .ref ad_q3), (4, .int x4)]) hx hb dX10_apartAfter_1 hl (by decide) rfl (fun ls hl => ?_)
  exact hb3 N _ _ s_balances q2_total q2_givers q2_least x4 (0 : Int32) hP hD hS _ (lv_sub hl [1, 2, 3, 4, 5, 0] rfl) hf
