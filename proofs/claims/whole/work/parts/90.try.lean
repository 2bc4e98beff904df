def p_X7_sizeOf (nS : Nat) (s_sizes : (Nat → Int32)) (x1 : Int32) : (Int32) :=
  if x1 < 0 then ((-1 : Int32)) else if (Int32.ofNat nS) ≤ x1 then ((-1 : Int32)) else ((s_sizes x1.toNatClampNeg))
abbrev rm_X7_sizeOf : Room := { frames := 0, cells := 0, slots := 0, locals := 0 }
set_option maxHeartbeats 4000000 in
set_option maxRecDepth 100000 in
theorem c_X7_sizeOf (l : Launch) (D : va_G) (cI cJ cR : ClassId) (ad_s ad_s_sizes ad_s_cells : Nat) (nS : Nat) (h_nS : nS < 2147483648) (s_places : Int32) (s_sizes : (Nat → Int32)) (x1 : Int32) {o : Int32} (hf : p_X7_sizeOf nS s_sizes x1 = o) : kMi l D (kT cI cJ cR) yX7_sizeOf cX7_sizeOf 2 (some .int) rm_X7_sizeOf [.ref ad_s, .int x1] [(ad_s, .inr (7, [.int s_places, .ref ad_s_sizes, .ref ad_s_cells])), (ad_s_sizes, .inl (cI, nS, .inl s_sizes))] (o) (fun w => w = [(ad_s, .inr (7, [.int s_places, .ref ad_s_sizes, .ref ad_s_cells])), (ad_s_sizes, .inl (cI, nS, .inl s_sizes))]) := by
  apply kInI (o := o)
  · decide
  · exact Nat.le_of_ble_eq_true rfl
  intro p e s m args below meth c A ls Q hX hRet hP hD hS hl
  have hx := hX.1.1
  have hb := hX.1.2.1
  have hown := hX.1.2.2.2.1
  have hts := hX.1.2.2.2.2
  have hl : lv_has ls 2 [(0, .ref ad_s), (1, .int x1)] := hl
  unfold p_X7_sizeOf at hf
  refine lv_iload_n hx hb dX7_sizeOf_0 rfl (lv_at hl 1 rfl) ?_
  refine lv_if_lt (tgt := 22) hx hb dX7_sizeOf_1 (by decide) (fun c1 => ?_) (fun c1 => ?_)
  · replace hf := ip c1 hf
    refine lv_iconst (v := -1) hx hb dX7_sizeOf_22 (by decide) ?_
    exact hRet _ _ _ _ _ _ _ hf rfl rfl hP hD hS dX7_sizeOf_23
  · replace hf := iq c1 hf
    refine lv_iload_n hx hb dX7_sizeOf_4 rfl (lv_at hl 1 rfl) ?_
    refine lv_aload_n hx hb dX7_sizeOf_5 rfl (lv_at hl 0 rfl) ?_
    refine kget hX hP (q0 := 0) rfl rfl inX7 (k := 1) (by decide) rfl wd98 rfl dX7_sizeOf_6 ?_
    refine kalen hX hP (t0 := 0) rfl (q0 := 1) rfl (v := (Int32.ofNat nS)) rfl dX7_sizeOf_9 ?_
    refine lv_icmp_ge (tgt := 22) hx hb dX7_sizeOf_10 (by decide) (fun c10 => ?_) (fun c10 => ?_)
    · replace hf := ip c10 hf
      refine lv_iconst (v := -1) hx hb dX7_sizeOf_22 (by decide) ?_
      exact hRet _ _ _ _ _ _ _ hf rfl rfl hP hD hS dX7_sizeOf_23
    · replace hf := iq c10 hf
      refine lv_aload_n hx hb dX7_sizeOf_13 rfl (lv_at hl 0 rfl) ?_
      refine kget hX hP (q0 := 0) rfl rfl inX7 (k := 1) (by decide) rfl wd98 rfl dX7_sizeOf_14 ?_
      refine lv_iload_n hx hb dX7_sizeOf_17 rfl (lv_at hl 1 rfl) ?_
      refine kiald hX hP rfl (q0 := 1) rfl (vpi h_nS c1 c10) dX7_sizeOf_18 ?_
      refine lv_goto (tgt := 23) hx hb dX7_sizeOf_19 (by decide) ?_
      exact hRet _ _ _ _ _ _ _ hf rfl rfl hP hD hS dX7_sizeOf_23
def p_X7_hasPlace (nS : Nat) (s_sizes : (Nat → Int32)) (x1 : Int32) (x2 : Int32) : (Int32) :=
  if x2 < 0 then ((0 : Int32)) else if (p_X7_sizeOf nS s_sizes x1) ≤ x2 then ((0 : Int32)) else ((1 : Int32))
theorem zb_X7_hasPlace (nS : Nat) (s_sizes : (Nat → Int32)) (x1 : Int32) (x2 : Int32) : p_X7_hasPlace nS s_sizes x1 x2 = 0 ∨ p_X7_hasPlace nS s_sizes x1 x2 = 1 := by
  unfold p_X7_hasPlace
  try dsimp only [nm]
  repeat' first | apply zb_ite | exact Or.inl rfl | exact Or.inr rfl
abbrev rm_X7_hasPlace : Room := { frames := 1, cells := 0, slots := 0, locals := 21 }
set_option maxHeartbeats 4000000 in
set_option maxRecDepth 100000 in
theorem c_X7_hasPlace (l : Launch) (D : va_G) (cI cJ cR : ClassId) (ad_s ad_s_sizes ad_s_cells : Nat) (nS : Nat) (h_nS : nS < 2147483648) (s_places : Int32) (s_sizes : (Nat → Int32)) (x1 : Int32) (x2 : Int32) {o : Int32} (hf : p_X7_hasPlace nS s_sizes x1 x2 = o) : kMi l D (kT cI cJ cR) yX7_hasPlace cX7_hasPlace 3 (some .boolean) rm_X7_hasPlace [.ref ad_s, .int x1, .int x2] [(ad_s, .inr (7, [.int s_places, .ref ad_s_sizes, .ref ad_s_cells])), (ad_s_sizes, .inl (cI, nS, .inl s_sizes))] (o) (fun w => w = [(ad_s, .inr (7, [.int s_places, .ref ad_s_sizes, .ref ad_s_cells])), (ad_s_sizes, .inl (cI, nS, .inl s_sizes))]) := by
  apply kInZ (o := o)
  · decide
  · exact Nat.le_of_ble_eq_true rfl
  intro p e s m args below meth c A ls Q hX hRet hP hD hS hl
  have hx := hX.1.1
  have hb := hX.1.2.1
  have hown := hX.1.2.2.2.1
  have hts := hX.1.2.2.2.2
  have hl : lv_has ls 3 [(0, .ref ad_s), (1, .int x1), (2, .int x2)] := hl
  unfold p_X7_hasPlace at hf
  refine lv_iload_n hx hb dX7_hasPlace_0 rfl (lv_at hl 2 rfl) ?_
  refine lv_if_lt (tgt := 17) hx hb dX7_hasPlace_1 (by decide) (fun c1 => ?_) (fun c1 => ?_)
  · replace hf := ip c1 hf
    refine lv_iconst (v := 0) hx hb dX7_hasPlace_17 (by decide) ?_
    exact hRet _ _ _ _ _ _ _ hf rfl rfl rfl hP hD hS dX7_hasPlace_18
  · replace hf := iq c1 hf
    refine lv_iload_n hx hb dX7_hasPlace_4 rfl (lv_at hl 2 rfl) ?_
    refine lv_aload_n hx hb dX7_hasPlace_5 rfl (lv_at hl 0 rfl) ?_
    refine lv_iload_n hx hb dX7_hasPlace_6 rfl (lv_at hl 1 rfl) ?_
    refine kVi (rest := [.int x2]) hX (c_X7_sizeOf l D cI cJ cR ad_s ad_s_sizes ad_s_cells nS h_nS s_places s_sizes x1 rfl) kc_X7_sizeOf wd444 ⟨Nat.le_of_ble_eq_true rfl, Nat.le_of_ble_eq_true rfl⟩ ⟨rfl, rfl⟩ hP hD hS (ci := 7) rfl rfl (q0 := 0) rfl [0, 1] rfl (by decide) (fun w h => by cases h; rfl) rfl rfl (Nat.le_of_ble_eq_true rfl) hl.1 ⟨Nat.zero_le _, Nat.zero_le _⟩ dX7_hasPlace_7 (fun H locs w1 hw1 hP hD hS => ?_)
    cases hw1
    refine lv_icmp_ge (tgt := 17) hx hb dX7_hasPlace_10 (by decide) (fun c10 => ?_) (fun c10 => ?_)
    · replace hf := ip c10 hf
      refine lv_iconst (v := 0) hx hb dX7_hasPlace_17 (by decide) ?_
      exact hRet _ _ _ _ _ _ _ hf rfl rfl rfl hP hD hS dX7_hasPlace_18
    · replace hf := iq c10 hf
      refine lv_iconst (v := 1) hx hb dX7_hasPlace_13 (by decide) ?_
      refine lv_goto (tgt := 18) hx hb dX7_hasPlace_14 (by decide) ?_
      exact hRet _ _ _ _ _ _ _ hf rfl rfl rfl hP hD hS dX7_hasPlace_18
def p_X7_cell (nS : Nat) (nC : Nat) (s_places : Int32) (s_sizes : (Nat → Int32)) (s_cells : (Nat → Int32)) (x1 : Int32) (x2 : Int32) : (Int32) :=
  nm ((x1 * s_places) + x2) (fun v8 => if (p_X7_hasPlace nS s_sizes x1 x2) = 0 then ((0 : Int32)) else if v8 < 0 then ((0 : Int32)) else if (Int32.ofNat nC) ≤ v8 then ((0 : Int32)) else ((s_cells v8.toNatClampNeg)))
abbrev rm_X7_cell : Room := { frames := 2, cells := 0, slots := 0, locals := 43 }
set_option maxHeartbeats 4000000 in
set_option maxRecDepth 100000 in
theorem c_X7_cell (l : Launch) (D : va_G) (cI cJ cR : ClassId) (ad_s ad_s_sizes ad_s_cells : Nat) (nS : Nat) (nC : Nat) (h_nS : nS < 2147483648) (h_nC : nC < 2147483648) (s_places : Int32) (s_sizes : (Nat → Int32)) (s_cells : (Nat → Int32)) (x1 : Int32) (x2 : Int32) {o : Int32} (hf : p_X7_cell nS nC s_places s_sizes s_cells x1 x2 = o) : kMi l D (kT cI cJ cR) yX7_cell cX7_cell 4 (some .int) rm_X7_cell [.ref ad_s, .int x1, .int x2] [(ad_s, .inr (7, [.int s_places, .ref ad_s_sizes, .ref ad_s_cells])), (ad_s_sizes, .inl (cI, nS, .inl s_sizes)), (ad_s_cells, .inl (cI, nC, .inl s_cells))] (o) (fun w => w = [(ad_s, .inr (7, [.int s_places, .ref ad_s_sizes, .ref ad_s_cells])), (ad_s_sizes, .inl (cI, nS, .inl s_sizes)), (ad_s_cells, .inl (cI, nC, .inl s_cells))]) := by
  apply kInI (o := o)
  · decide
  · exact Nat.le_of_ble_eq_true rfl
  intro p e s m args below meth c A ls Q hX hRet hP hD hS hl
  have hx := hX.1.1
  have hb := hX.1.2.1
  have hown := hX.1.2.2.2.1
  have hts := hX.1.2.2.2.2
  have hl : lv_has ls 4 [(0, .ref ad_s), (1, .int x1), (2, .int x2)] := hl
  unfold p_X7_cell at hf
  refine lv_iload_n hx hb dX7_cell_0 rfl (lv_at hl 1 rfl) ?_
  refine lv_aload_n hx hb dX7_cell_1 rfl (lv_at hl 0 rfl) ?_
  refine kget hX hP (q0 := 0) rfl rfl inX7 (k := 0) (by decide) rfl wd97 rfl dX7_cell_2 ?_
  refine lv_imul hx hb dX7_cell_5 ?_
  refine lv_iload_n hx hb dX7_cell_6 rfl (lv_at hl 2 rfl) ?_
  refine lv_iadd hx hb dX7_cell_7 ?_
  refine lv_topi (fun v8 ev8 => ?_)
  replace hf := nm_s ev8 hf
  refine lv_istore_n (lv' := [(3, .int v8), (0, .ref ad_s), (1, .int x1), (2, .int x2)]) hx hb dX7_cell_8 rfl hl (by decide) rfl (fun ls hl => ?_)
  refine lv_aload_n hx hb dX7_cell_9 rfl (lv_at hl 1 rfl) ?_
  refine lv_iload_n hx hb dX7_cell_10 rfl (lv_at hl 2 rfl) ?_
  refine lv_iload_n hx hb dX7_cell_11 rfl (lv_at hl 3 rfl) ?_
  refine kVi (rest := []) hX (c_X7_hasPlace l D cI cJ cR ad_s ad_s_sizes ad_s_cells nS h_nS s_places s_sizes x1 x2 rfl) kc_X7_hasPlace wd440 ⟨Nat.le_of_ble_eq_true rfl, Nat.le_of_ble_eq_true rfl⟩ ⟨rfl, rfl⟩ hP hD hS (ci := 7) rfl rfl (q0 := 0) rfl [0, 1] rfl (by decide) (fun w h => by cases h; rfl) rfl rfl (Nat.le_of_ble_eq_true rfl) hl.1 ⟨Nat.zero_le _, Nat.zero_le _⟩ dX7_cell_12 (fun H locs w1 hw1 hP hD hS => ?_)
  cases hw1
  refine lv_if_eq (tgt := 40) hx hb dX7_cell_15 (by decide) (fun c15 => ?_) (fun c15 => ?_)
  · replace hf := ip c15 hf
    refine lv_iconst (v := 0) hx hb dX7_cell_40 (by decide) ?_
    exact hRet _ _ _ _ _ _ _ hf rfl rfl hP hD hS dX7_cell_41
  · replace hf := iq c15 hf
    refine lv_iload_n hx hb dX7_cell_18 rfl (lv_at hl 0 rfl) ?_
    refine lv_if_lt (tgt := 40) hx hb dX7_cell_19 (by decide) (fun c19 => ?_) (fun c19 => ?_)
    · replace hf := ip c19 hf
      refine lv_iconst (v := 0) hx hb dX7_cell_40 (by decide) ?_
      exact hRet _ _ _ _ _ _ _ hf rfl rfl hP hD hS dX7_cell_41
    · replace hf := iq c19 hf
      refine lv_iload_n hx hb dX7_cell_22 rfl (lv_at hl 0 rfl) ?_
      refine lv_aload_n hx hb dX7_cell_23 rfl (lv_at hl 1 rfl) ?_
      refine kget hX hP (q0 := 0) rfl rfl inX7 (k := 2) (by decide) rfl wd99 rfl dX7_cell_24 ?_
      refine kalen hX hP (t0 := 0) rfl (q0 := 2) rfl (v := (Int32.ofNat nC)) rfl dX7_cell_27 ?_
      refine lv_icmp_ge (tgt := 40) hx hb dX7_cell_28 (by decide) (fun c28 => ?_) (fun c28 => ?_)
      · replace hf := ip c28 hf
        refine lv_iconst (v := 0) hx hb dX7_cell_40 (by decide) ?_
        exact hRet _ _ _ _ _ _ _ hf rfl rfl hP hD hS dX7_cell_41
      · replace hf := iq c28 hf
        refine lv_aload_n hx hb dX7_cell_31 rfl (lv_at hl 1 rfl) ?_
        refine kget hX hP (q0 := 0) rfl rfl inX7 (k := 2) (by decide) rfl wd99 rfl dX7_cell_32 ?_
        refine lv_iload_n hx hb dX7_cell_35 rfl (lv_at hl 0 rfl) ?_
        refine kiald hX hP rfl (q0 := 2) rfl (vpi h_nC c19 c28) dX7_cell_36 ?_
        refine lv_goto (tgt := 41) hx hb dX7_cell_37 (by decide) ?_
        exact hRet _ _ _ _ _ _ _ hf rfl rfl hP hD hS dX7_cell_41
def p_X7_names (nS : Nat) (x1 : Int32) : (Int32) :=
  if x1 < 0 then ((0 : Int32)) else if (Int32.ofNat nS) ≤ x1 then ((0 : Int32)) else ((1 : Int32))
theorem zb_X7_names (nS : Nat) (x1 : Int32) : p_X7_names nS x1 = 0 ∨ p_X7_names nS x1 = 1 := by
  unfold p_X7_names
  try dsimp only [nm]
  repeat' first | apply zb_ite | exact Or.inl rfl | exact Or.inr rfl
abbrev rm_X7_names : Room := { frames := 0, cells := 0, slots := 0, locals := 0 }
set_option maxHeartbeats 4000000 in
set_option maxRecDepth 100000 in
theorem c_X7_names (l : Launch) (D : va_G) (cI cJ cR : ClassId) (ad_s ad_s_sizes ad_s_cells : Nat) (nS : Nat) (h_nS : nS < 2147483648) (s_places : Int32) (s_sizes : (Nat → Int32)) (x1 : Int32) {o : Int32} (hf : p_X7_names nS x1 = o) : kMi l D (kT cI cJ cR) yX7_names cX7_names 2 (some .boolean) rm_X7_names [.ref ad_s, .int x1] [(ad_s, .inr (7, [.int s_places, .ref ad_s_sizes, .ref ad_s_cells])), (ad_s_sizes, .inl (cI, nS, .inl s_sizes))] (o) (fun w => w = [(ad_s, .inr (7, [.int s_places, .ref ad_s_sizes, .ref ad_s_cells])), (ad_s_sizes, .inl (cI, nS, .inl s_sizes))]) := by
  apply kInZ (o := o)
  · decide
  · exact Nat.le_of_ble_eq_true rfl
  intro p e s m args below meth c A ls Q hX hRet hP hD hS hl
  have hx := hX.1.1
  have hb := hX.1.2.1
  have hown := hX.1.2.2.2.1
  have hts := hX.1.2.2.2.2
  have hl : lv_has ls 2 [(0, .ref ad_s), (1, .int x1)] := hl
  unfold p_X7_names at hf
  refine lv_iload_n hx hb dX7_names_0 rfl (lv_at hl 1 rfl) ?_
  refine lv_if_lt (tgt := 17) hx hb dX7_names_1 (by decide) (fun c1 => ?_) (fun c1 => ?_)
  · replace hf := ip c1 hf
    refine lv_iconst (v := 0) hx hb dX7_names_17 (by decide) ?_
    exact hRet _ _ _ _ _ _ _ hf rfl rfl rfl hP hD hS dX7_names_18
  · replace hf := iq c1 hf
    refine lv_iload_n hx hb dX7_names_4 rfl (lv_at hl 1 rfl) ?_
    refine lv_aload_n hx hb dX7_names_5 rfl (lv_at hl 0 rfl) ?_
    refine kget hX hP (q0 := 0) rfl rfl inX7 (k := 1) (by decide) rfl wd98 rfl dX7_names_6 ?_
    refine kalen hX hP (t0 := 0) rfl (q0 := 1) rfl (v := (Int32.ofNat nS)) rfl dX7_names_9 ?_
    refine lv_icmp_ge (tgt := 17) hx hb dX7_names_10 (by decide) (fun c10 => ?_) (fun c10 => ?_)
    · replace hf := ip c10 hf
      refine lv_iconst (v := 0) hx hb dX7_names_17 (by decide) ?_
      exact hRet _ _ _ _ _ _ _ hf rfl rfl rfl hP hD hS dX7_names_18
    · replace hf := iq c10 hf
      refine lv_iconst (v := 1) hx hb dX7_names_13 (by decide) ?_
      refine lv_goto (tgt := 18) hx hb dX7_names_14 (by decide) ?_
      exact hRet _ _ _ _ _ _ _ hf rfl rfl rfl hP hD hS dX7_names_18
def p_X7_isThere (nS : Nat) (s_sizes : (Nat → Int32)) (x1 : Int32) : (Int32) :=
  if (p_X7_sizeOf nS s_sizes x1) = (-1 : Int32) then ((0 : Int32)) else ((1 : Int32))
theorem zb_X7_isThere (nS : Nat) (s_sizes : (Nat → Int32)) (x1 : Int32) : p_X7_isThere nS s_sizes x1 = 0 ∨ p_X7_isThere nS s_sizes x1 = 1 := by
  unfold p_X7_isThere
  try dsimp only [nm]
  repeat' first | apply zb_ite | exact Or.inl rfl | exact Or.inr rfl
abbrev rm_X7_isThere : Room := { frames := 1, cells := 0, slots := 0, locals := 21 }
set_option maxHeartbeats 4000000 in
set_option maxRecDepth 100000 in
theorem c_X7_isThere (l : Launch) (D : va_G) (cI cJ cR : ClassId) (ad_s ad_s_sizes ad_s_cells : Nat) (nS : Nat) (h_nS : nS < 2147483648) (s_places : Int32) (s_sizes : (Nat → Int32)) (x1 : Int32) {o : Int32} (hf : p_X7_isThere nS s_sizes x1 = o) : kMi l D (kT cI cJ cR) yX7_isThere cX7_isThere 2 (some .boolean) rm_X7_isThere [.ref ad_s, .int x1] [(ad_s, .inr (7, [.int s_places, .ref ad_s_sizes, .ref ad_s_cells])), (ad_s_sizes, .inl (cI, nS, .inl s_sizes))] (o) (fun w => w = [(ad_s, .inr (7, [.int s_places, .ref ad_s_sizes, .ref ad_s_cells])), (ad_s_sizes, .inl (cI, nS, .inl s_sizes))]) := by
  apply kInZ (o := o)
  · decide
  · exact Nat.le_of_ble_eq_true rfl
  intro p e s m args below meth c A ls Q hX hRet hP hD hS hl
  have hx := hX.1.1
  have hb := hX.1.2.1
  have hown := hX.1.2.2.2.1
  have hts := hX.1.2.2.2.2
  have hl : lv_has ls 2 [(0, .ref ad_s), (1, .int x1)] := hl
  unfold p_X7_isThere at hf
  refine lv_aload_n hx hb dX7_isThere_0 rfl (lv_at hl 0 rfl) ?_
  refine lv_iload_n hx hb dX7_isThere_1 rfl (lv_at hl 1 rfl) ?_
  refine kVi (rest := []) hX (c_X7_sizeOf l D cI cJ cR ad_s ad_s_sizes ad_s_cells nS h_nS s_places s_sizes x1 rfl) kc_X7_sizeOf wd444 ⟨Nat.le_of_ble_eq_true rfl, Nat.le_of_ble_eq_true rfl⟩ ⟨rfl, rfl⟩ hP hD hS (ci := 7) rfl rfl (q0 := 0) rfl [0, 1] rfl (by decide) (fun w h => by cases h; rfl) rfl rfl (Nat.le_of_ble_eq_true rfl) hl.1 ⟨Nat.zero_le _, Nat.zero_le _⟩ dX7_isThere_2 (fun H locs w1 hw1 hP hD hS => ?_)
  cases hw1
  refine lv_iconst (v := -1) hx hb dX7_isThere_5 (by decide) ?_
  refine lv_icmp_eq (tgt := 13) hx hb dX7_isThere_6 (by decide) (fun c6 => ?_) (fun c6 => ?_)
  · replace hf := ip c6 hf
    refine lv_iconst (v := 0) hx hb dX7_isThere_13 (by decide) ?_
    exact hRet _ _ _ _ _ _ _ hf rfl rfl rfl hP hD hS dX7_isThere_14
  · replace hf := iq c6 hf
    refine lv_iconst (v := 1) hx hb dX7_isThere_9 (by decide) ?_
    refine lv_goto (tgt := 14) hx hb dX7_isThere_10 (by decide) ?_
    exact hRet _ _ _ _ _ _ _ hf rfl rfl rfl hP hD hS dX7_isThere_14
def p_X7_hasSpan (nS : Nat) (s_sizes : (Nat → Int32)) (x1 : Int32) (x2 : Int32) (x3 : Int32) : (Int32) :=
  if x3 < 0 then ((0 : Int32)) else if x2 < 0 then ((0 : Int32)) else if ((p_X7_sizeOf nS s_sizes x1) - x3) < x2 then ((0 : Int32)) else ((1 : Int32))
theorem zb_X7_hasSpan (nS : Nat) (s_sizes : (Nat → Int32)) (x1 : Int32) (x2 : Int32) (x3 : Int32) : p_X7_hasSpan nS s_sizes x1 x2 x3 = 0 ∨ p_X7_hasSpan nS s_sizes x1 x2 x3 = 1 := by
  unfold p_X7_hasSpan
  try dsimp only [nm]
  repeat' first | apply zb_ite | exact Or.inl rfl | exact Or.inr rfl
abbrev rm_X7_hasSpan : Room := { frames := 1, cells := 0, slots := 0, locals := 21 }
set_option maxHeartbeats 4000000 in
set_option maxRecDepth 100000 in
theorem c_X7_hasSpan (l : Launch) (D : va_G) (cI cJ cR : ClassId) (ad_s ad_s_sizes ad_s_cells : Nat) (nS : Nat) (h_nS : nS < 2147483648) (s_places : Int32) (s_sizes : (Nat → Int32)) (x1 : Int32) (x2 : Int32) (x3 : Int32) {o : Int32} (hf : p_X7_hasSpan nS s_sizes x1 x2 x3 = o) : kMi l D (kT cI cJ cR) yX7_hasSpan cX7_hasSpan 4 (some .boolean) rm_X7_hasSpan [.ref ad_s, .int x1, .int x2, .int x3] [(ad_s, .inr (7, [.int s_places, .ref ad_s_sizes, .ref ad_s_cells])), (ad_s_sizes, .inl (cI, nS, .inl s_sizes))] (o) (fun w => w = [(ad_s, .inr (7, [.int s_places, .ref ad_s_sizes, .ref ad_s_cells])), (ad_s_sizes, .inl (cI, nS, .inl s_sizes))]) := by
  apply kInZ (o := o)
  · decide
  · exact Nat.le_of_ble_eq_true rfl
  intro p e s m args below meth c A ls Q hX hRet hP hD hS hl
  have hx := hX.1.1
  have hb := hX.1.2.1
  have hown := hX.1.2.2.2.1
  have hts := hX.1.2.2.2.2
  have hl : lv_has ls 4 [(0, .ref ad_s), (1, .int x1), (2, .int x2), (3, .int x3)] := hl
  unfold p_X7_hasSpan at hf
  refine lv_iload_n hx hb dX7_hasSpan_0 rfl (lv_at hl 3 rfl) ?_
  refine lv_if_lt (tgt := 23) hx hb dX7_hasSpan_1 (by decide) (fun c1 => ?_) (fun c1 => ?_)
  · replace hf := ip c1 hf
    refine lv_iconst (v := 0) hx hb dX7_hasSpan_23 (by decide) ?_
    exact hRet _ _ _ _ _ _ _ hf rfl rfl rfl hP hD hS dX7_hasSpan_24
  · replace hf := iq c1 hf
    refine lv_iload_n hx hb dX7_hasSpan_4 rfl (lv_at hl 2 rfl) ?_
    refine lv_if_lt (tgt := 23) hx hb dX7_hasSpan_5 (by decide) (fun c5 => ?_) (fun c5 => ?_)
    · replace hf := ip c5 hf
      refine lv_iconst (v := 0) hx hb dX7_hasSpan_23 (by decide) ?_
      exact hRet _ _ _ _ _ _ _ hf rfl rfl rfl hP hD hS dX7_hasSpan_24
    · replace hf := iq c5 hf
      refine lv_iload_n hx hb dX7_hasSpan_8 rfl (lv_at hl 2 rfl) ?_
      refine lv_aload_n hx hb dX7_hasSpan_9 rfl (lv_at hl 0 rfl) ?_
      refine lv_iload_n hx hb dX7_hasSpan_10 rfl (lv_at hl 1 rfl) ?_
      refine kVi (rest := [.int x2]) hX (c_X7_sizeOf l D cI cJ cR ad_s ad_s_sizes ad_s_cells nS h_nS s_places s_sizes x1 rfl) kc_X7_sizeOf wd444 ⟨Nat.le_of_ble_eq_true rfl, Nat.le_of_ble_eq_true rfl⟩ ⟨rfl, rfl⟩ hP hD hS (ci := 7) rfl rfl (q0 := 0) rfl [0, 1] rfl (by decide) (fun w h => by cases h; rfl) rfl rfl (Nat.le_of_ble_eq_true rfl) hl.1 ⟨Nat.zero_le _, Nat.zero_le _⟩ dX7_hasSpan_11 (fun H locs w1 hw1 hP hD hS => ?_)
      cases hw1
      refine lv_iload_n hx hb dX7_hasSpan_14 rfl (lv_at hl 3 rfl) ?_
      refine lv_isub hx hb dX7_hasSpan_15 ?_
      refine lv_icmp_gt (tgt := 23) hx hb dX7_hasSpan_16 (by decide) (fun c16 => ?_) (fun c16 => ?_)
      · replace hf := ip c16 hf
        refine lv_iconst (v := 0) hx hb dX7_hasSpan_23 (by decide) ?_
        exact hRet _ _ _ _ _ _ _ hf rfl rfl rfl hP hD hS dX7_hasSpan_24
      · replace hf := iq c16 hf
        refine lv_iconst (v := 1) hx hb dX7_hasSpan_19 (by decide) ?_
        refine lv_goto (tgt := 24) hx hb dX7_hasSpan_20 (by decide) ?_
        exact hRet _ _ _ _ _ _ _ hf rfl rfl rfl hP hD hS dX7_hasSpan_24
def p_X7_setCell (nS : Nat) (nC : Nat) (s_places : Int32) (s_sizes : (Nat → Int32)) (s_cells : (Nat → Int32)) (x1 : Int32) (x2 : Int32) (x3 : Int32) : ((Nat → Int32)) :=
  nm ((x1 * s_places) + x2) (fun v8 => if (p_X7_hasPlace nS s_sizes x1 x2) = 0 then (s_cells) else if v8 < 0 then (s_cells) else if (Int32.ofNat nC) ≤ v8 then (s_cells) else ((upd s_cells v8.toNatClampNeg x3)))
abbrev rm_X7_setCell : Room := { frames := 2, cells := 0, slots := 0, locals := 43 }
set_option maxHeartbeats 4000000 in
set_option maxRecDepth 100000 in
theorem c_X7_setCell (l : Launch) (D : va_G) (cI cJ cR : ClassId) (ad_s ad_s_sizes ad_s_cells : Nat) (nS : Nat) (nC : Nat) (h_nS : nS < 2147483648) (h_nC : nC < 2147483648) (s_places : Int32) (s_sizes : (Nat → Int32)) (s_cells : (Nat → Int32)) (x1 : Int32) (x2 : Int32) (x3 : Int32) {o : (Nat → Int32)} (hf : p_X7_setCell nS nC s_places s_sizes s_cells x1 x2 x3 = o) : kMv l D (kT cI cJ cR) yX7_setCell cX7_setCell 5 none rm_X7_setCell [.ref ad_s, .int x1, .int x2, .int x3] [(ad_s, .inr (7, [.int s_places, .ref ad_s_sizes, .ref ad_s_cells])), (ad_s_sizes, .inl (cI, nS, .inl s_sizes)), (ad_s_cells, .inl (cI, nC, .inl s_cells))] 0 0 (fun w => w = [(ad_s, .inr (7, [.int s_places, .ref ad_s_sizes, .ref ad_s_cells])), (ad_s_sizes, .inl (cI, nS, .inl s_sizes)), (ad_s_cells, .inl (cI, nC, .inl o))]) := by
  apply kInV (o := o)
  · decide
  · exact Nat.le_of_ble_eq_true rfl
  intro p e s m args below meth c A ls Q hX hRet hP hD hS hl
  have hx := hX.1.1
  have hb := hX.1.2.1
  have hown := hX.1.2.2.2.1
  have hts := hX.1.2.2.2.2
  have hl : lv_has ls 5 [(0, .ref ad_s), (1, .int x1), (2, .int x2), (3, .int x3)] := hl
  unfold p_X7_setCell at hf
  refine lv_iload_n hx hb dX7_setCell_0 rfl (lv_at hl 1 rfl) ?_
  refine lv_aload_n hx hb dX7_setCell_1 rfl (lv_at hl 0 rfl) ?_
  refine kget hX hP (q0 := 0) rfl rfl inX7 (k := 0) (by decide) rfl wd97 rfl dX7_setCell_2 ?_
  refine lv_imul hx hb dX7_setCell_5 ?_
  refine lv_iload_n hx hb dX7_setCell_6 rfl (lv_at hl 2 rfl) ?_
  refine lv_iadd hx hb dX7_setCell_7 ?_
  refine lv_topi (fun v8 ev8 => ?_)
  replace hf := nm_s ev8 hf
  refine lv_istore (lv' := [(4, .int v8), (0, .ref ad_s), (1, .int x1), (2, .int x2), (3, .int x3)]) hx hb dX7_setCell_8 hl (by decide) rfl (fun ls hl => ?_)
  refine lv_aload_n hx hb dX7_setCell_10 rfl (lv_at hl 1 rfl) ?_
  refine lv_iload_n hx hb dX7_setCell_11 rfl (lv_at hl 2 rfl) ?_
  refine lv_iload_n hx hb dX7_setCell_12 rfl (lv_at hl 3 rfl) ?_
  refine kVi (rest := []) hX (c_X7_hasPlace l D cI cJ cR ad_s ad_s_sizes ad_s_cells nS h_nS s_places s_sizes x1 x2 rfl) kc_X7_hasPlace wd440 ⟨Nat.le_of_ble_eq_true rfl, Nat.le_of_ble_eq_true rfl⟩ ⟨rfl, rfl⟩ hP hD hS (ci := 7) rfl rfl (q0 := 0) rfl [0, 1] rfl (by decide) (fun w h => by cases h; rfl) rfl rfl (Nat.le_of_ble_eq_true rfl) hl.1 ⟨Nat.zero_le _, Nat.zero_le _⟩ dX7_setCell_13 (fun H locs w1 hw1 hP hD hS => ?_)
  cases hw1
  refine lv_if_eq (tgt := 42) hx hb dX7_setCell_16 (by decide) (fun c16 => ?_) (fun c16 => ?_)
  · replace hf := ip c16 hf
    exact hRet _ _ _ _ _ _ hf rfl hP hD hS dX7_setCell_42
  · replace hf := iq c16 hf
    refine lv_iload hx hb dX7_setCell_19 (lv_at hl 0 rfl) ?_
    refine lv_if_lt (tgt := 42) hx hb dX7_setCell_21 (by decide) (fun c21 => ?_) (fun c21 => ?_)
    · replace hf := ip c21 hf
      exact hRet _ _ _ _ _ _ hf rfl hP hD hS dX7_setCell_42
    · replace hf := iq c21 hf
      refine lv_iload hx hb dX7_setCell_24 (lv_at hl 0 rfl) ?_
      refine lv_aload_n hx hb dX7_setCell_26 rfl (lv_at hl 1 rfl) ?_
      refine kget hX hP (q0 := 0) rfl rfl inX7 (k := 2) (by decide) rfl wd99 rfl dX7_setCell_27 ?_
      refine kalen hX hP (t0 := 0) rfl (q0 := 2) rfl (v := (Int32.ofNat nC)) rfl dX7_setCell_30 ?_
      refine lv_icmp_ge (tgt := 42) hx hb dX7_setCell_31 (by decide) (fun c31 => ?_) (fun c31 => ?_)
      · replace hf := ip c31 hf
        exact hRet _ _ _ _ _ _ hf rfl hP hD hS dX7_setCell_42
      · replace hf := iq c31 hf
        refine lv_aload_n hx hb dX7_setCell_34 rfl (lv_at hl 1 rfl) ?_
        refine kget hX hP (q0 := 0) rfl rfl inX7 (k := 2) (by decide) rfl wd99 rfl dX7_setCell_35 ?_
        refine lv_iload hx hb dX7_setCell_38 (lv_at hl 0 rfl) ?_
        refine lv_iload_n hx hb dX7_setCell_40 rfl (lv_at hl 4 rfl) ?_
        refine kiast hX hP hD hS rfl (q0 := 2) rfl (vpi h_nC c21 c31) dX7_setCell_41 (fun H locs hP hD hS => ?_)
        exact hRet _ _ _ _ _ _ hf rfl hP hD hS dX7_setCell_42
def f_X7_make_b35 (N : Nat) (nS : Nat) (nC : Nat) (s_places : Int32) : Nat → (Nat → Int32) → (Nat → Int32) → Int32 → Int32 → Int32 → Int32 → Option ((Nat → Int32) × (Nat → Int32))
  | 0, _, _, _, _, _, _ => none
  | n35 + 1, s_sizes, s_cells, x1, x2, x3, x4 => if x2 ≤ x4 then some (s_sizes, s_cells) else nm (p_X7_setCell nS nC s_places s_sizes s_cells x1 x4 x3) (fun z46_1 => (f_X7_make_b35 N nS nC s_places n35) s_sizes z46_1 x1 x2 x3 (x4 + (1 : Int32)))
def f_X7_make (N : Nat) (nS : Nat) (nC : Nat) (s_places : Int32) (s_sizes : (Nat → Int32)) (s_cells : (Nat → Int32)) (x1 : Int32) (x2 : Int32) (x3 : Int32) : Option ((Nat → Int32) × (Nat → Int32)) :=
  if x1 < 0 then some (s_sizes, s_cells) else if (Int32.ofNat nS) ≤ x1 then some (s_sizes, s_cells) else if x2 < 0 then some (s_sizes, s_cells) else if s_places < x2 then some (s_sizes, s_cells) else (f_X7_make_b35 N nS nC s_places N) (upd s_sizes x1.toNatClampNeg x2) s_cells x1 x2 x3 (0 : Int32)
abbrev rm_X7_make : Room := { frames := 3, cells := 0, slots := 0, locals := 67 }
set_option maxHeartbeats 4000000 in
set_option maxRecDepth 100000 in
theorem c_X7_make (l : Launch) (D : va_G) (cI cJ cR : ClassId) (N : Nat) (ad_s ad_s_sizes ad_s_cells : Nat) (nS : Nat) (nC : Nat) (h_nS : nS < 2147483648) (h_nC : nC < 2147483648) (s_places : Int32) (s_sizes : (Nat → Int32)) (s_cells : (Nat → Int32)) (x1 : Int32) (x2 : Int32) (x3 : Int32) {o : (Nat → Int32) × (Nat → Int32)} (hf : f_X7_make N nS nC s_places s_sizes s_cells x1 x2 x3 = some o) : kMv l D (kT cI cJ cR) yX7_make cX7_make 5 none rm_X7_make [.ref ad_s, .int x1, .int x2, .int x3] [(ad_s, .inr (7, [.int s_places, .ref ad_s_sizes, .ref ad_s_cells])), (ad_s_sizes, .inl (cI, nS, .inl s_sizes)), (ad_s_cells, .inl (cI, nC, .inl s_cells))] 0 0 (fun w => w = [(ad_s, .inr (7, [.int s_places, .ref ad_s_sizes, .ref ad_s_cells])), (ad_s_sizes, .inl (cI, nS, .inl o.1)), (ad_s_cells, .inl (cI, nC, .inl o.2))]) := by
  apply kInV (o := o)
  · decide
  · exact Nat.le_of_ble_eq_true rfl
  intro p e s m args below meth c A ls Q hX hRet hP hD hS hl
  have hx := hX.1.1
  have hb := hX.1.2.1
  have hown := hX.1.2.2.2.1
  have hts := hX.1.2.2.2.2
  have hl : lv_has ls 5 [(0, .ref ad_s), (1, .int x1), (2, .int x2), (3, .int x3)] := hl
  have hb35 : ∀ n35 : Nat, ∀ (H : Heap) (locs : List Loc) (s_sizes : (Nat → Int32)) (s_cells : (Nat → Int32)) (x1 : Int32) (x2 : Int32) (x3 : Int32) (x4 : Int32), va_P D vwCl [(ad_s, .inr (7, [.int s_places, .ref ad_s_sizes, .ref ad_s_cells])), (ad_s_sizes, .inl (cI, nS, .inl s_sizes)), (ad_s_cells, .inl (cI, nC, .inl s_cells))] H → va_D A [(ad_s, .inr (7, [.int s_places, .ref ad_s_sizes, .ref ad_s_cells])), (ad_s_sizes, .inl (cI, nS, .inl s_sizes)), (ad_s_cells, .inl (cI, nC, .inl s_cells))] → va_S A s.heap H locs → ∀ ls : Array Slot, lv_has ls 5 [(0, .ref ad_s), (1, .int x1), (2, .int x2), (3, .int x3), (4, .int x4)] → f_X7_make_b35 N nS nC s_places n35 s_sizes s_cells x1 x2 x3 x4 = some o → W p l e rm_X7_make s m args below meth c H locs 0 0 Q (F0 m 35 ls []) := by
    intro n35
    induction n35 with
    | zero =>
      intro H locs s_sizes s_cells x1 x2 x3 x4 hP hD hS ls hl hf
      rw [f_X7_make_b35] at hf
      cases hf
    | succ n35 ih35 =>
      intro H locs s_sizes s_cells x1 x2 x3 x4 hP hD hS ls hl hf
      rw [f_X7_make_b35] at hf
      refine lv_iload hx hb dX7_make_35 (lv_at hl 4 rfl) ?_
      refine lv_iload_n hx hb dX7_make_37 rfl (lv_at hl 2 rfl) ?_
      refine lv_icmp_ge (tgt := 55) hx hb dX7_make_38 (by decide) (fun c38 => ?_) (fun c38 => ?_)
      · replace hf := ip c38 hf
        exact hRet _ _ _ _ _ _ (Option.some.inj hf) rfl hP hD hS dX7_make_55
      · replace hf := iq c38 hf
        refine lv_aload_n hx hb dX7_make_41 rfl (lv_at hl 0 rfl) ?_
        refine lv_iload_n hx hb dX7_make_42 rfl (lv_at hl 1 rfl) ?_
        refine lv_iload hx hb dX7_make_43 (lv_at hl 4 rfl) ?_
        refine lv_iload_n hx hb dX7_make_45 rfl (lv_at hl 3 rfl) ?_
        obtain ⟨z46_1, hz46_1⟩ : ∃ z, z = p_X7_setCell nS nC s_places s_sizes s_cells x1 x4 x3 := ⟨_, rfl⟩
        replace hf := nm_s hz46_1 hf
        refine kVv (rest := []) hX (c_X7_setCell l D cI cJ cR ad_s ad_s_sizes ad_s_cells nS nC h_nS h_nC s_places s_sizes s_cells x1 x4 x3 hz46_1.symm) kc_X7_setCell wd436 ⟨Nat.le_of_ble_eq_true rfl, Nat.le_of_ble_eq_true rfl⟩ ⟨rfl, rfl⟩ hP hD hS (ci := 7) rfl rfl (q0 := 0) rfl [0, 1, 2] rfl (by decide) (fun w h => by cases h; rfl) rfl rfl (Nat.le_of_ble_eq_true rfl) hl.1 ⟨Nat.zero_le _, Nat.zero_le _⟩ dX7_make_46 (fun H locs w1 hw1 hP hD hS => ?_)
        cases hw1
        refine lv_iinc (v := (x4 + (1 : Int32))) (lv' := [(4, .int (x4 + (1 : Int32))), (0, .ref ad_s), (1, .int x1), (2, .int x2), (3, .int x3)]) hx hb dX7_make_49 hl (k := 4) rfl rfl (by decide) rfl (fun ls hl => ?_)
        refine lv_goto (tgt := 35) hx hb dX7_make_52 (by decide) ?_
        exact ih35 _ _ s_sizes z46_1 x1 x2 x3 (x4 + (1 : Int32)) hP hD hS _ (lv_sub hl [1, 2, 3, 4, 0] rfl) hf
  unfold f_X7_make at hf
  refine lv_iload_n hx hb dX7_make_0 rfl (lv_at hl 1 rfl) ?_
  refine lv_if_lt (tgt := 55) hx hb dX7_make_1 (by decide) (fun c1 => ?_) (fun c1 => ?_)
  · replace hf := ip c1 hf
    exact hRet _ _ _ _ _ _ (Option.some.inj hf) rfl hP hD hS dX7_make_55
  · replace hf := iq c1 hf
    refine lv_iload_n hx hb dX7_make_4 rfl (lv_at hl 1 rfl) ?_
    refine lv_aload_n hx hb dX7_make_5 rfl (lv_at hl 0 rfl) ?_
    refine kget hX hP (q0 := 0) rfl rfl inX7 (k := 1) (by decide) rfl wd98 rfl dX7_make_6 ?_
    refine kalen hX hP (t0 := 0) rfl (q0 := 1) rfl (v := (Int32.ofNat nS)) rfl dX7_make_9 ?_
    refine lv_icmp_ge (tgt := 55) hx hb dX7_make_10 (by decide) (fun c10 => ?_) (fun c10 => ?_)
    · replace hf := ip c10 hf
      exact hRet _ _ _ _ _ _ (Option.some.inj hf) rfl hP hD hS dX7_make_55
    · replace hf := iq c10 hf
      refine lv_iload_n hx hb dX7_make_13 rfl (lv_at hl 2 rfl) ?_
      refine lv_if_lt (tgt := 55) hx hb dX7_make_14 (by decide) (fun c14 => ?_) (fun c14 => ?_)
      · replace hf := ip c14 hf
        exact hRet _ _ _ _ _ _ (Option.some.inj hf) rfl hP hD hS dX7_make_55
      · replace hf := iq c14 hf
        refine lv_iload_n hx hb dX7_make_17 rfl (lv_at hl 2 rfl) ?_
        refine lv_aload_n hx hb dX7_make_18 rfl (lv_at hl 0 rfl) ?_
        refine kget hX hP (q0 := 0) rfl rfl inX7 (k := 0) (by decide) rfl wd97 rfl dX7_make_19 ?_
        refine lv_icmp_gt (tgt := 55) hx hb dX7_make_22 (by decide) (fun c22 => ?_) (fun c22 => ?_)
        · replace hf := ip c22 hf
          exact hRet _ _ _ _ _ _ (Option.some.inj hf) rfl hP hD hS dX7_make_55
        · replace hf := iq c22 hf
          refine lv_aload_n hx hb dX7_make_25 rfl (lv_at hl 0 rfl) ?_
          refine kget hX hP (q0 := 0) rfl rfl inX7 (k := 1) (by decide) rfl wd98 rfl dX7_make_26 ?_
          refine lv_iload_n hx hb dX7_make_29 rfl (lv_at hl 1 rfl) ?_
          refine lv_iload_n hx hb dX7_make_30 rfl (lv_at hl 2 rfl) ?_
          refine kiast hX hP hD hS rfl (q0 := 1) rfl (vpi h_nS c1 c10) dX7_make_31 (fun H locs hP hD hS => ?_)
          refine lv_iconst (v := 0) hx hb dX7_make_32 (by decide) ?_
          refine lv_istore (lv' := [(4, .int (0 : Int32)), (0, .ref ad_s), (1, .int x1), (2, .int x2), (3, .int x3)]) hx hb dX7_make_33 hl (by decide) rfl (fun ls hl => ?_)
          exact hb35 N _ _ (upd s_sizes x1.toNatClampNeg x2) s_cells x1 x2 x3 (0 : Int32) hP hD hS _ (lv_sub hl [1, 2, 3, 4, 0] rfl) hf
def p_X7_drop (nS : Nat) (s_sizes : (Nat → Int32)) (x1 : Int32) : ((Nat → Int32)) :=
  if x1 < 0 then (s_sizes) else if (Int32.ofNat nS) ≤ x1 then (s_sizes) else ((upd s_sizes x1.toNatClampNeg (-1 : Int32)))
abbrev rm_X7_drop : Room := { frames := 0, cells := 0, slots := 0, locals := 0 }
set_option maxHeartbeats 4000000 in
set_option maxRecDepth 100000 in
theorem c_X7_drop (l : Launch) (D : va_G) (cI cJ cR : ClassId) (ad_s ad_s_sizes ad_s_cells : Nat) (nS : Nat) (h_nS : nS < 2147483648) (s_places : Int32) (s_sizes : (Nat → Int32)) (x1 : Int32) {o : (Nat → Int32)} (hf : p_X7_drop nS s_sizes x1 = o) : kMv l D (kT cI cJ cR) yX7_drop cX7_drop 2 none rm_X7_drop [.ref ad_s, .int x1] [(ad_s, .inr (7, [.int s_places, .ref ad_s_sizes, .ref ad_s_cells])), (ad_s_sizes, .inl (cI, nS, .inl s_sizes))] 0 0 (fun w => w = [(ad_s, .inr (7, [.int s_places, .ref ad_s_sizes, .ref ad_s_cells])), (ad_s_sizes, .inl (cI, nS, .inl o))]) := by
  apply kInV (o := o)
  · decide
  · exact Nat.le_of_ble_eq_true rfl
  intro p e s m args below meth c A ls Q hX hRet hP hD hS hl
  have hx := hX.1.1
  have hb := hX.1.2.1
  have hown := hX.1.2.2.2.1
  have hts := hX.1.2.2.2.2
  have hl : lv_has ls 2 [(0, .ref ad_s), (1, .int x1)] := hl
  unfold p_X7_drop at hf
  refine lv_iload_n hx hb dX7_drop_0 rfl (lv_at hl 1 rfl) ?_
  refine lv_if_lt (tgt := 20) hx hb dX7_drop_1 (by decide) (fun c1 => ?_) (fun c1 => ?_)
  · replace hf := ip c1 hf
    exact hRet _ _ _ _ _ _ hf rfl hP hD hS dX7_drop_20
  · replace hf := iq c1 hf
    refine lv_iload_n hx hb dX7_drop_4 rfl (lv_at hl 1 rfl) ?_
    refine lv_aload_n hx hb dX7_drop_5 rfl (lv_at hl 0 rfl) ?_
    refine kget hX hP (q0 := 0) rfl rfl inX7 (k := 1) (by decide) rfl wd98 rfl dX7_drop_6 ?_
    refine kalen hX hP (t0 := 0) rfl (q0 := 1) rfl (v := (Int32.ofNat nS)) rfl dX7_drop_9 ?_
    refine lv_icmp_ge (tgt := 20) hx hb dX7_drop_10 (by decide) (fun c10 => ?_) (fun c10 => ?_)
    · replace hf := ip c10 hf
      exact hRet _ _ _ _ _ _ hf rfl hP hD hS dX7_drop_20
    · replace hf := iq c10 hf
      refine lv_aload_n hx hb dX7_drop_13 rfl (lv_at hl 0 rfl) ?_
      refine kget hX hP (q0 := 0) rfl rfl inX7 (k := 1) (by decide) rfl wd98 rfl dX7_drop_14 ?_
      refine lv_iload_n hx hb dX7_drop_17 rfl (lv_at hl 1 rfl) ?_
      refine lv_iconst (v := -1) hx hb dX7_drop_18 (by decide) ?_
      refine kiast hX hP hD hS rfl (q0 := 1) rfl (vpi h_nS c1 c10) dX7_drop_19 (fun H locs hP hD hS => ?_)
      exact hRet _ _ _ _ _ _ hf rfl hP hD hS dX7_drop_20
def f_X7_copySpan_b40 (N : Nat) (nS : Nat) (nC : Nat) (k16 : (Nat → Int32) → Int32 → Int32 → Int32 → Int32 → Int32 → Int32 → Int32 → Option ((Nat → Int32))) (s_places : Int32) (s_sizes : (Nat → Int32)) (s_cells : (Nat → Int32)) (x1 : Int32) (x2 : Int32) (x3 : Int32) (x4 : Int32) (x5 : Int32) (x6 : Int32) (x7 : Int32) (y0 : Int32) : Option ((Nat → Int32)) :=
  nm (p_X7_setCell nS nC s_places s_sizes s_cells x3 (x4 + y0) (p_X7_cell nS nC s_places s_sizes s_cells x1 (x2 + y0))) (fun z58_1 => k16 z58_1 x1 x2 x3 x4 x5 x6 (x7 + (1 : Int32)))
def f_X7_copySpan_b16 (N : Nat) (nS : Nat) (nC : Nat) (s_places : Int32) (s_sizes : (Nat → Int32)) : Nat → (Nat → Int32) → Int32 → Int32 → Int32 → Int32 → Int32 → Int32 → Int32 → Option ((Nat → Int32))
  | 0, _, _, _, _, _, _, _, _ => none
  | n16 + 1, s_cells, x1, x2, x3, x4, x5, x6, x7 => if x5 ≤ x7 then some (s_cells) else (f_X7_copySpan_b40 N nS nC (f_X7_copySpan_b16 N nS nC s_places s_sizes n16) s_places s_sizes) s_cells x1 x2 x3 x4 x5 x6 x7 (if x6 = 0 then x7 else ((x5 - (1 : Int32)) - x7))
def f_X7_copySpan_b11 (N : Nat) (nS : Nat) (nC : Nat) (s_places : Int32) (s_sizes : (Nat → Int32)) (s_cells : (Nat → Int32)) (x1 : Int32) (x2 : Int32) (x3 : Int32) (x4 : Int32) (x5 : Int32) (y0 : Int32) : Option ((Nat → Int32)) :=
  (f_X7_copySpan_b16 N nS nC s_places s_sizes N) s_cells x1 x2 x3 x4 x5 y0 (0 : Int32)
def f_X7_copySpan (N : Nat) (nS : Nat) (nC : Nat) (s_places : Int32) (s_sizes : (Nat → Int32)) (s_cells : (Nat → Int32)) (x1 : Int32) (x2 : Int32) (x3 : Int32) (x4 : Int32) (x5 : Int32) : Option ((Nat → Int32)) :=
  (f_X7_copySpan_b11 N nS nC s_places s_sizes) s_cells x1 x2 x3 x4 x5 (if x4 ≤ x2 then (0 : Int32) else (1 : Int32))
abbrev rm_X7_copySpan : Room := { frames := 3, cells := 0, slots := 0, locals := 67 }
set_option maxHeartbeats 4000000 in
set_option maxRecDepth 100000 in
theorem c_X7_copySpan (l : Launch) (D : va_G) (cI cJ cR : ClassId) (N : Nat) (ad_s ad_s_sizes ad_s_cells : Nat) (nS : Nat) (nC : Nat) (h_nS : nS < 2147483648) (h_nC : nC < 2147483648) (s_places : Int32) (s_sizes : (Nat → Int32)) (s_cells : (Nat → Int32)) (x1 : Int32) (x2 : Int32) (x3 : Int32) (x4 : Int32) (x5 : Int32) {o : (Nat → Int32)} (hf : f_X7_copySpan N nS nC s_places s_sizes s_cells x1 x2 x3 x4 x5 = some o) : kMv l D (kT cI cJ cR) yX7_copySpan cX7_copySpan 9 none rm_X7_copySpan [.ref ad_s, .int x1, .int x2, .int x3, .int x4, .int x5] [(ad_s, .inr (7, [.int s_places, .ref ad_s_sizes, .ref ad_s_cells])), (ad_s_sizes, .inl (cI, nS, .inl s_sizes)), (ad_s_cells, .inl (cI, nC, .inl s_cells))] 0 0 (fun w => w = [(ad_s, .inr (7, [.int s_places, .ref ad_s_sizes, .ref ad_s_cells])), (ad_s_sizes, .inl (cI, nS, .inl s_sizes)), (ad_s_cells, .inl (cI, nC, .inl o))]) := by
  apply kInV (o := o)
  · decide
  · exact Nat.le_of_ble_eq_true rfl
  intro p e s m args below meth c A ls Q hX hRet hP hD hS hl
  have hx := hX.1.1
  have hb := hX.1.2.1
  have hown := hX.1.2.2.2.1
  have hts := hX.1.2.2.2.2
  have hl : lv_has ls 9 [(0, .ref ad_s), (1, .int x1), (2, .int x2), (3, .int x3), (4, .int x4), (5, .int x5)] := hl
  have hb16 : ∀ n16 : Nat, ∀ (H : Heap) (locs : List Loc) (s_cells : (Nat → Int32)) (x1 : Int32) (x2 : Int32) (x3 : Int32) (x4 : Int32) (x5 : Int32) (x6 : Int32) (x7 : Int32), va_P D vwCl [(ad_s, .inr (7, [.int s_places, .ref ad_s_sizes, .ref ad_s_cells])), (ad_s_sizes, .inl (cI, nS, .inl s_sizes)), (ad_s_cells, .inl (cI, nC, .inl s_cells))] H → va_D A [(ad_s, .inr (7, [.int s_places, .ref ad_s_sizes, .ref ad_s_cells])), (ad_s_sizes, .inl (cI, nS, .inl s_sizes)), (ad_s_cells, .inl (cI, nC, .inl s_cells))] → va_S A s.heap H locs → ∀ ls : Array Slot, lv_has ls 9 [(0, .ref ad_s), (1, .int x1), (2, .int x2), (3, .int x3), (4, .int x4), (5, .int x5), (6, .int x6), (7, .int x7)] → f_X7_copySpan_b16 N nS nC s_places s_sizes n16 s_cells x1 x2 x3 x4 x5 x6 x7 = some o → W p l e rm_X7_copySpan s m args below meth c H locs 0 0 Q (F0 m 16 ls []) := by
    intro n16
    induction n16 with
    | zero =>
      intro H locs s_cells x1 x2 x3 x4 x5 x6 x7 hP hD hS ls hl hf
      rw [f_X7_copySpan_b16] at hf
      cases hf
    | succ n16 ih16 =>
      have hb40 : ∀ (H : Heap) (locs : List Loc) (s_cells : (Nat → Int32)) (x1 : Int32) (x2 : Int32) (x3 : Int32) (x4 : Int32) (x5 : Int32) (x6 : Int32) (x7 : Int32) (y0 : Int32), va_P D vwCl [(ad_s, .inr (7, [.int s_places, .ref ad_s_sizes, .ref ad_s_cells])), (ad_s_sizes, .inl (cI, nS, .inl s_sizes)), (ad_s_cells, .inl (cI, nC, .inl s_cells))] H → va_D A [(ad_s, .inr (7, [.int s_places, .ref ad_s_sizes, .ref ad_s_cells])), (ad_s_sizes, .inl (cI, nS, .inl s_sizes)), (ad_s_cells, .inl (cI, nC, .inl s_cells))] → va_S A s.heap H locs → ∀ ls : Array Slot, lv_has ls 9 [(0, .ref ad_s), (1, .int x1), (2, .int x2), (3, .int x3), (4, .int x4), (5, .int x5), (6, .int x6), (7, .int x7)] → (f_X7_copySpan_b40 N nS nC (f_X7_copySpan_b16 N nS nC s_places s_sizes n16) s_places s_sizes) s_cells x1 x2 x3 x4 x5 x6 x7 y0 = some o → W p l e rm_X7_copySpan s m args below meth c H locs 0 0 Q (F0 m 40 ls [.int y0]) := by
        intro H locs s_cells x1 x2 x3 x4 x5 x6 x7 y0 hP hD hS ls hl hf
        unfold f_X7_copySpan_b40 at hf
        refine lv_istore (lv' := [(8, .int y0), (0, .ref ad_s), (1, .int x1), (2, .int x2), (3, .int x3), (4, .int x4), (5, .int x5), (6, .int x6), (7, .int x7)]) hx hb dX7_copySpan_40 hl (by decide) rfl (fun ls hl => ?_)
        refine lv_aload_n hx hb dX7_copySpan_42 rfl (lv_at hl 1 rfl) ?_
        refine lv_iload_n hx hb dX7_copySpan_43 rfl (lv_at hl 4 rfl) ?_
        refine lv_iload hx hb dX7_copySpan_44 (lv_at hl 5 rfl) ?_
        refine lv_iload hx hb dX7_copySpan_46 (lv_at hl 0 rfl) ?_
        refine lv_iadd hx hb dX7_copySpan_48 ?_
        refine lv_aload_n hx hb dX7_copySpan_49 rfl (lv_at hl 1 rfl) ?_
        refine lv_iload_n hx hb dX7_copySpan_50 rfl (lv_at hl 2 rfl) ?_
        refine lv_iload_n hx hb dX7_copySpan_51 rfl (lv_at hl 3 rfl) ?_
        refine lv_iload hx hb dX7_copySpan_52 (lv_at hl 0 rfl) ?_
        refine lv_iadd hx hb dX7_copySpan_54 ?_
        refine kVi (rest := [.int (x4 + y0), .int x3, .ref ad_s]) hX (c_X7_cell l D cI cJ cR ad_s ad_s_sizes ad_s_cells nS nC h_nS h_nC s_places s_sizes s_cells x1 (x2 + y0) rfl) kc_X7_cell wd498 ⟨Nat.le_of_ble_eq_true rfl, Nat.le_of_ble_eq_true rfl⟩ ⟨rfl, rfl⟩ hP hD hS (ci := 7) rfl rfl (q0 := 0) rfl [0, 1, 2] rfl (by decide) (fun w h => by cases h; rfl) rfl rfl (Nat.le_of_ble_eq_true rfl) hl.1 ⟨Nat.zero_le _, Nat.zero_le _⟩ dX7_copySpan_55 (fun H locs w1 hw1 hP hD hS => ?_)
        cases hw1
        obtain ⟨z58_1, hz58_1⟩ : ∃ z, z = p_X7_setCell nS nC s_places s_sizes s_cells x3 (x4 + y0) (p_X7_cell nS nC s_places s_sizes s_cells x1 (x2 + y0)) := ⟨_, rfl⟩
        replace hf := nm_s hz58_1 hf
        refine kVv (rest := []) hX (c_X7_setCell l D cI cJ cR ad_s ad_s_sizes ad_s_cells nS nC h_nS h_nC s_places s_sizes s_cells x3 (x4 + y0) (p_X7_cell nS nC s_places s_sizes s_cells x1 (x2 + y0)) hz58_1.symm) kc_X7_setCell wd436 ⟨Nat.le_of_ble_eq_true rfl, Nat.le_of_ble_eq_true rfl⟩ ⟨rfl, rfl⟩ hP hD hS (ci := 7) rfl rfl (q0 := 0) rfl [0, 1, 2] rfl (by decide) (fun w h => by cases h; rfl) rfl rfl (Nat.le_of_ble_eq_true rfl) hl.1 ⟨Nat.zero_le _, Nat.zero_le _⟩ dX7_copySpan_58 (fun H locs w1 hw1 hP hD hS => ?_)
        cases hw1
        refine lv_iinc (v := (x7 + (1 : Int32))) (lv' := [(7, .int (x7 + (1 : Int32))), (8, .int y0), (0, .ref ad_s), (1, .int x1), (2, .int x2), (3, .int x3), (4, .int x4), (5, .int x5), (6, .int x6)]) hx hb dX7_copySpan_61 hl (k := 8) rfl rfl (by decide) rfl (fun ls hl => ?_)
        refine lv_goto (tgt := 16) hx hb dX7_copySpan_64 (by decide) ?_
        exact ih16 _ _ z58_1 x1 x2 x3 x4 x5 x6 (x7 + (1 : Int32)) hP hD hS _ (lv_sub hl [2, 3, 4, 5, 6, 7, 8, 0] rfl) hf
      intro H locs s_cells x1 x2 x3 x4 x5 x6 x7 hP hD hS ls hl hf
      rw [f_X7_copySpan_b16] at hf
      refine lv_iload hx hb dX7_copySpan_16 (lv_at hl 7 rfl) ?_
      refine lv_iload hx hb dX7_copySpan_18 (lv_at hl 5 rfl) ?_
      refine lv_icmp_ge (tgt := 67) hx hb dX7_copySpan_20 (by decide) (fun c20 => ?_) (fun c20 => ?_)
      · replace hf := ip c20 hf
        exact hRet _ _ _ _ _ _ (Option.some.inj hf) rfl hP hD hS dX7_copySpan_67
      · replace hf := iq c20 hf
        refine lv_iload hx hb dX7_copySpan_23 (lv_at hl 6 rfl) ?_
        refine lv_if_eq (tgt := 38) hx hb dX7_copySpan_25 (by decide) (fun c25 => ?_) (fun c25 => ?_)
        · simp only [if_pos c25] at hf
          refine lv_iload hx hb dX7_copySpan_38 (lv_at hl 7 rfl) ?_
          exact hb40 _ _ s_cells x1 x2 x3 x4 x5 x6 x7 x7 hP hD hS _ (lv_sub hl [0, 1, 2, 3, 4, 5, 6, 7] rfl) hf
        · simp only [if_neg c25] at hf
          refine lv_iload hx hb dX7_copySpan_28 (lv_at hl 5 rfl) ?_
          refine lv_iconst (v := 1) hx hb dX7_copySpan_30 (by decide) ?_
          refine lv_isub hx hb dX7_copySpan_31 ?_
          refine lv_iload hx hb dX7_copySpan_32 (lv_at hl 7 rfl) ?_
          refine lv_isub hx hb dX7_copySpan_34 ?_
          refine lv_goto (tgt := 40) hx hb dX7_copySpan_35 (by decide) ?_
          exact hb40 _ _ s_cells x1 x2 x3 x4 x5 x6 x7 ((x5 - (1 : Int32)) - x7) hP hD hS _ (lv_sub hl [0, 1, 2, 3, 4, 5, 6, 7] rfl) hf
  have hb11 : ∀ (H : Heap) (locs : List Loc) (s_cells : (Nat → Int32)) (x1 : Int32) (x2 : Int32) (x3 : Int32) (x4 : Int32) (x5 : Int32) (y0 : Int32), va_P D vwCl [(ad_s, .inr (7, [.int s_places, .ref ad_s_sizes, .ref ad_s_cells])), (ad_s_sizes, .inl (cI, nS, .inl s_sizes)), (ad_s_cells, .inl (cI, nC, .inl s_cells))] H → va_D A [(ad_s, .inr (7, [.int s_places, .ref ad_s_sizes, .ref ad_s_cells])), (ad_s_sizes, .inl (cI, nS, .inl s_sizes)), (ad_s_cells, .inl (cI, nC, .inl s_cells))] → va_S A s.heap H locs → ∀ ls : Array Slot, lv_has ls 9 [(0, .ref ad_s), (1, .int x1), (2, .int x2), (3, .int x3), (4, .int x4), (5, .int x5)] → (f_X7_copySpan_b11 N nS nC s_places s_sizes) s_cells x1 x2 x3 x4 x5 y0 = some o → W p l e rm_X7_copySpan s m args below meth c H locs 0 0 Q (F0 m 11 ls [.int y0]) := by
    intro H locs s_cells x1 x2 x3 x4 x5 y0 hP hD hS ls hl hf
    unfold f_X7_copySpan_b11 at hf
    refine lv_istore (lv' := [(6, .int y0), (0, .ref ad_s), (1, .int x1), (2, .int x2), (3, .int x3), (4, .int x4), (5, .int x5)]) hx hb dX7_copySpan_11 hl (by decide) rfl (fun ls hl => ?_)
    refine lv_iconst (v := 0) hx hb dX7_copySpan_13 (by decide) ?_
    refine lv_istore (lv' := [(7, .int (0 : Int32)), (6, .int y0), (0, .ref ad_s), (1, .int x1), (2, .int x2), (3, .int x3), (4, .int x4), (5, .int x5)]) hx hb dX7_copySpan_14 hl (by decide) rfl (fun ls hl => ?_)
    exact hb16 N _ _ s_cells x1 x2 x3 x4 x5 y0 (0 : Int32) hP hD hS _ (lv_sub hl [2, 3, 4, 5, 6, 7, 1, 0] rfl) hf
  unfold f_X7_copySpan at hf
  refine lv_iload_n hx hb dX7_copySpan_0 rfl (lv_at hl 2 rfl) ?_
  refine lv_iload hx hb dX7_copySpan_1 (lv_at hl 4 rfl) ?_
  refine lv_icmp_ge (tgt := 10) hx hb dX7_copySpan_3 (by decide) (fun c3 => ?_) (fun c3 => ?_)
  · simp only [if_pos c3] at hf
    refine lv_iconst (v := 0) hx hb dX7_copySpan_10 (by decide) ?_
    exact hb11 _ _ s_cells x1 x2 x3 x4 x5 (0 : Int32) hP hD hS _ (lv_sub hl [0, 1, 2, 3, 4, 5] rfl) hf
  · simp only [if_neg c3] at hf
    refine lv_iconst (v := 1) hx hb dX7_copySpan_6 (by decide) ?_
    refine lv_goto (tgt := 11) hx hb dX7_copySpan_7 (by decide) ?_
    exact hb11 _ _ s_cells x1 x2 x3 x4 x5 (1 : Int32) hP hD hS _ (lv_sub hl [0, 1, 2, 3, 4, 5] rfl) hf
def f_X7_allWithin_b3 (N : Nat) (nS : Nat) (nC : Nat) (s_places : Int32) (s_sizes : (Nat → Int32)) (s_cells : (Nat → Int32)) : Nat → Int32 → Int32 → Int32 → Int32 → Option (Int32)
  | 0, _, _, _, _ => none
  | n3 + 1, x1, x2, x3, x4 => if (p_X7_sizeOf nS s_sizes x1) ≤ x4 then some ((1 : Int32)) else if (p_X7_cell nS nC s_places s_sizes s_cells x1 x4) < x2 then some ((0 : Int32)) else if (p_X7_cell nS nC s_places s_sizes s_cells x1 x4) ≤ x3 then (f_X7_allWithin_b3 N nS nC s_places s_sizes s_cells n3) x1 x2 x3 (x4 + (1 : Int32)) else some ((0 : Int32))
def f_X7_allWithin (N : Nat) (nS : Nat) (nC : Nat) (s_places : Int32) (s_sizes : (Nat → Int32)) (s_cells : (Nat → Int32)) (x1 : Int32) (x2 : Int32) (x3 : Int32) : Option (Int32) :=
  (f_X7_allWithin_b3 N nS nC s_places s_sizes s_cells N) x1 x2 x3 (0 : Int32)
abbrev rm_X7_allWithin : Room := { frames := 3, cells := 0, slots := 0, locals := 66 }
set_option maxHeartbeats 4000000 in
set_option maxRecDepth 100000 in
theorem c_X7_allWithin (l : Launch) (D : va_G) (cI cJ cR : ClassId) (N : Nat) (ad_s ad_s_sizes ad_s_cells : Nat) (nS : Nat) (nC : Nat) (h_nS : nS < 2147483648) (h_nC : nC < 2147483648) (s_places : Int32) (s_sizes : (Nat → Int32)) (s_cells : (Nat → Int32)) (x1 : Int32) (x2 : Int32) (x3 : Int32) {o : Int32} (hf : f_X7_allWithin N nS nC s_places s_sizes s_cells x1 x2 x3 = some o) : kMi l D (kT cI cJ cR) yX7_allWithin cX7_allWithin 5 (some .boolean) rm_X7_allWithin [.ref ad_s, .int x1, .int x2, .int x3] [(ad_s, .inr (7, [.int s_places, .ref ad_s_sizes, .ref ad_s_cells])), (ad_s_sizes, .inl (cI, nS, .inl s_sizes)), (ad_s_cells, .inl (cI, nC, .inl s_cells))] (o) (fun w => w = [(ad_s, .inr (7, [.int s_places, .ref ad_s_sizes, .ref ad_s_cells])), (ad_s_sizes, .inl (cI, nS, .inl s_sizes)), (ad_s_cells, .inl (cI, nC, .inl s_cells))]) := by
  apply kInZ (o := o)
  · decide
  · exact Nat.le_of_ble_eq_true rfl
  intro p e s m args below meth c A ls Q hX hRet hP hD hS hl
  have hx := hX.1.1
  have hb := hX.1.2.1
  have hown := hX.1.2.2.2.1
  have hts := hX.1.2.2.2.2
  have hl : lv_has ls 5 [(0, .ref ad_s), (1, .int x1), (2, .int x2), (3, .int x3)] := hl
  have hb3 : ∀ n3 : Nat, ∀ (H : Heap) (locs : List Loc) (x1 : Int32) (x2 : Int32) (x3 : Int32) (x4 : Int32), va_P D vwCl [(ad_s, .inr (7, [.int s_places, .ref ad_s_sizes, .ref ad_s_cells])), (ad_s_sizes, .inl (cI, nS, .inl s_sizes)), (ad_s_cells, .inl (cI, nC, .inl s_cells))] H → va_D A [(ad_s, .inr (7, [.int s_places, .ref ad_s_sizes, .ref ad_s_cells])), (ad_s_sizes, .inl (cI, nS, .inl s_sizes)), (ad_s_cells, .inl (cI, nC, .inl s_cells))] → va_S A s.heap H locs → ∀ ls : Array Slot, lv_has ls 5 [(0, .ref ad_s), (1, .int x1), (2, .int x2), (3, .int x3), (4, .int x4)] → f_X7_allWithin_b3 N nS nC s_places s_sizes s_cells n3 x1 x2 x3 x4 = some o → W p l e rm_X7_allWithin s m args below meth c H locs 0 0 Q (F0 m 3 ls []) := by
    intro n3
    induction n3 with
    | zero =>
      intro H locs x1 x2 x3 x4 hP hD hS ls hl hf
      rw [f_X7_allWithin_b3] at hf
      cases hf
    | succ n3 ih3 =>
      intro H locs x1 x2 x3 x4 hP hD hS ls hl hf
      rw [f_X7_allWithin_b3] at hf
      refine lv_iload hx hb dX7_allWithin_3 (lv_at hl 4 rfl) ?_
      refine lv_aload_n hx hb dX7_allWithin_5 rfl (lv_at hl 0 rfl) ?_
      refine lv_iload_n hx hb dX7_allWithin_6 rfl (lv_at hl 1 rfl) ?_
      refine kVi (rest := [.int x4]) hX (c_X7_sizeOf l D cI cJ cR ad_s ad_s_sizes ad_s_cells nS h_nS s_places s_sizes x1 rfl) kc_X7_sizeOf wd444 ⟨Nat.le_of_ble_eq_true rfl, Nat.le_of_ble_eq_true rfl⟩ ⟨rfl, rfl⟩ hP hD hS (ci := 7) rfl rfl (q0 := 0) rfl [0, 1] rfl (by decide) (fun w h => by cases h; rfl) rfl rfl (Nat.le_of_ble_eq_true rfl) hl.1 ⟨Nat.zero_le _, Nat.zero_le _⟩ dX7_allWithin_7 (fun H locs w1 hw1 hP hD hS => ?_)
      cases hw1
      refine lv_icmp_ge (tgt := 43) hx hb dX7_allWithin_10 (by decide) (fun c10 => ?_) (fun c10 => ?_)
      · replace hf := ip c10 hf
        refine lv_iconst (v := 1) hx hb dX7_allWithin_43 (by decide) ?_
        exact hRet _ _ _ _ _ _ _ (Option.some.inj hf) rfl rfl rfl hP hD hS dX7_allWithin_44
      · replace hf := iq c10 hf
        refine lv_aload_n hx hb dX7_allWithin_13 rfl (lv_at hl 0 rfl) ?_
        refine lv_iload_n hx hb dX7_allWithin_14 rfl (lv_at hl 1 rfl) ?_
        refine lv_iload hx hb dX7_allWithin_15 (lv_at hl 4 rfl) ?_
        refine kVi (rest := []) hX (c_X7_cell l D cI cJ cR ad_s ad_s_sizes ad_s_cells nS nC h_nS h_nC s_places s_sizes s_cells x1 x4 rfl) kc_X7_cell wd498 ⟨Nat.le_of_ble_eq_true rfl, Nat.le_of_ble_eq_true rfl⟩ ⟨rfl, rfl⟩ hP hD hS (ci := 7) rfl rfl (q0 := 0) rfl [0, 1, 2] rfl (by decide) (fun w h => by cases h; rfl) rfl rfl (Nat.le_of_ble_eq_true rfl) hl.1 ⟨Nat.zero_le _, Nat.zero_le _⟩ dX7_allWithin_17 (fun H locs w1 hw1 hP hD hS => ?_)
        cases hw1
        refine lv_iload_n hx hb dX7_allWithin_20 rfl (lv_at hl 2 rfl) ?_
        refine lv_icmp_lt (tgt := 35) hx hb dX7_allWithin_21 (by decide) (fun c21 => ?_) (fun c21 => ?_)
        · replace hf := ip c21 hf
          refine lv_iconst (v := 0) hx hb dX7_allWithin_35 (by decide) ?_
          exact hRet _ _ _ _ _ _ _ (Option.some.inj hf) rfl rfl rfl hP hD hS dX7_allWithin_36
        · replace hf := iq c21 hf
          refine lv_aload_n hx hb dX7_allWithin_24 rfl (lv_at hl 0 rfl) ?_
          refine lv_iload_n hx hb dX7_allWithin_25 rfl (lv_at hl 1 rfl) ?_
          refine lv_iload hx hb dX7_allWithin_26 (lv_at hl 4 rfl) ?_
          refine kVi (rest := []) hX (c_X7_cell l D cI cJ cR ad_s ad_s_sizes ad_s_cells nS nC h_nS h_nC s_places s_sizes s_cells x1 x4 rfl) kc_X7_cell wd498 ⟨Nat.le_of_ble_eq_true rfl, Nat.le_of_ble_eq_true rfl⟩ ⟨rfl, rfl⟩ hP hD hS (ci := 7) rfl rfl (q0 := 0) rfl [0, 1, 2] rfl (by decide) (fun w h => by cases h; rfl) rfl rfl (Nat.le_of_ble_eq_true rfl) hl.1 ⟨Nat.zero_le _, Nat.zero_le _⟩ dX7_allWithin_28 (fun H locs w1 hw1 hP hD hS => ?_)
          cases hw1
          refine lv_iload_n hx hb dX7_allWithin_31 rfl (lv_at hl 3 rfl) ?_
          refine lv_icmp_le (tgt := 37) hx hb dX7_allWithin_32 (by decide) (fun c32 => ?_) (fun c32 => ?_)
          · replace hf := ip c32 hf
            refine lv_iinc (v := (x4 + (1 : Int32))) (lv' := [(4, .int (x4 + (1 : Int32))), (0, .ref ad_s), (1, .int x1), (2, .int x2), (3, .int x3)]) hx hb dX7_allWithin_37 hl (k := 4) rfl rfl (by decide) rfl (fun ls hl => ?_)
            refine lv_goto (tgt := 3) hx hb dX7_allWithin_40 (by decide) ?_
            exact ih3 _ _ x1 x2 x3 (x4 + (1 : Int32)) hP hD hS _ (lv_sub hl [1, 2, 3, 4, 0] rfl) hf
          · replace hf := iq c32 hf
            refine lv_iconst (v := 0) hx hb dX7_allWithin_35 (by decide) ?_
            exact hRet _ _ _ _ _ _ _ (Option.some.inj hf) rfl rfl rfl hP hD hS dX7_allWithin_36
  unfold f_X7_allWithin at hf
  refine lv_iconst (v := 0) hx hb dX7_allWithin_0 (by decide) ?_
  refine lv_istore (lv' := [(4, .int (0 : Int32)), (0, .ref ad_s), (1, .int x1), (2, .int x2), (3, .int x3)]) hx hb dX7_allWithin_1 hl (by decide) rfl (fun ls hl => ?_)
  exact hb3 N _ _ x1 x2 x3 (0 : Int32) hP hD hS _ (lv_sub hl [1, 2, 3, 4, 0] rfl) hf
def f_X7_numberThere_b24 (N : Nat) (nS : Nat) (k4 : Int32 → Int32 → Option (Int32)) (s_sizes : (Nat → Int32)) (x1 : Int32) (x2 : Int32) : Option (Int32) :=
  k4 x1 (x2 + (1 : Int32))
def f_X7_numberThere_b4 (N : Nat) (nS : Nat) (s_sizes : (Nat → Int32)) : Nat → Int32 → Int32 → Option (Int32)
  | 0, _, _ => none
  | n4 + 1, x1, x2 => if (Int32.ofNat nS) ≤ x2 then some (x1) else (f_X7_numberThere_b24 N nS (f_X7_numberThere_b4 N nS s_sizes n4) s_sizes) (if (p_X7_isThere nS s_sizes x2) = 0 then x1 else (x1 + (1 : Int32))) x2
def f_X7_numberThere (N : Nat) (nS : Nat) (s_sizes : (Nat → Int32)) : Option (Int32) :=
  (f_X7_numberThere_b4 N nS s_sizes N) (0 : Int32) (0 : Int32)
abbrev rm_X7_numberThere : Room := { frames := 2, cells := 0, slots := 0, locals := 42 }
set_option maxHeartbeats 4000000 in
set_option maxRecDepth 100000 in
theorem c_X7_numberThere (l : Launch) (D : va_G) (cI cJ cR : ClassId) (N : Nat) (ad_s ad_s_sizes ad_s_cells : Nat) (nS : Nat) (h_nS : nS < 2147483648) (s_places : Int32) (s_sizes : (Nat → Int32)) {o : Int32} (hf : f_X7_numberThere N nS s_sizes = some o) : kMi l D (kT cI cJ cR) yX7_numberThere cX7_numberThere 3 (some .int) rm_X7_numberThere [.ref ad_s] [(ad_s, .inr (7, [.int s_places, .ref ad_s_sizes, .ref ad_s_cells])), (ad_s_sizes, .inl (cI, nS, .inl s_sizes))] (o) (fun w => w = [(ad_s, .inr (7, [.int s_places, .ref ad_s_sizes, .ref ad_s_cells])), (ad_s_sizes, .inl (cI, nS, .inl s_sizes))]) := by
  apply kInI (o := o)
  · decide
  · exact Nat.le_of_ble_eq_true rfl
  intro p e s m args below meth c A ls Q hX hRet hP hD hS hl
  have hx := hX.1.1
  have hb := hX.1.2.1
  have hown := hX.1.2.2.2.1
  have hts := hX.1.2.2.2.2
  have hl : lv_has ls 3 [(0, .ref ad_s)] := hl
  have hb4 : ∀ n4 : Nat, ∀ (H : Heap) (locs : List Loc) (x1 : Int32) (x2 : Int32), va_P D vwCl [(ad_s, .inr (7, [.int s_places, .ref ad_s_sizes, .ref ad_s_cells])), (ad_s_sizes, .inl (cI, nS, .inl s_sizes))] H → va_D A [(ad_s, .inr (7, [.int s_places, .ref ad_s_sizes, .ref ad_s_cells])), (ad_s_sizes, .inl (cI, nS, .inl s_sizes))] → va_S A s.heap H locs → ∀ ls : Array Slot, lv_has ls 3 [(0, .ref ad_s), (1, .int x1), (2, .int x2)] → f_X7_numberThere_b4 N nS s_sizes n4 x1 x2 = some o → W p l e rm_X7_numberThere s m args below meth c H locs 0 0 Q (F0 m 4 ls []) := by
    intro n4
    induction n4 with
    | zero =>
      intro H locs x1 x2 hP hD hS ls hl hf
      rw [f_X7_numberThere_b4] at hf
      cases hf
    | succ n4 ih4 =>
      have hb24 : ∀ (H : Heap) (locs : List Loc) (x1 : Int32) (x2 : Int32), va_P D vwCl [(ad_s, .inr (7, [.int s_places, .ref ad_s_sizes, .ref ad_s_cells])), (ad_s_sizes, .inl (cI, nS, .inl s_sizes))] H → va_D A [(ad_s, .inr (7, [.int s_places, .ref ad_s_sizes, .ref ad_s_cells])), (ad_s_sizes, .inl (cI, nS, .inl s_sizes))] → va_S A s.heap H locs → ∀ ls : Array Slot, lv_has ls 3 [(0, .ref ad_s), (1, .int x1), (2, .int x2)] → (f_X7_numberThere_b24 N nS (f_X7_numberThere_b4 N nS s_sizes n4) s_sizes) x1 x2 = some o → W p l e rm_X7_numberThere s m args below meth c H locs 0 0 Q (F0 m 24 ls []) := by
        intro H locs x1 x2 hP hD hS ls hl hf
        unfold f_X7_numberThere_b24 at hf
        refine lv_iinc (v := (x2 + (1 : Int32))) (lv' := [(2, .int (x2 + (1 : Int32))), (0, .ref ad_s), (1, .int x1)]) hx hb dX7_numberThere_24 hl (k := 2) rfl rfl (by decide) rfl (fun ls hl => ?_)
        refine lv_goto (tgt := 4) hx hb dX7_numberThere_27 (by decide) ?_
        exact ih4 _ _ x1 (x2 + (1 : Int32)) hP hD hS _ (lv_sub hl [1, 2, 0] rfl) hf
      intro H locs x1 x2 hP hD hS ls hl hf
      rw [f_X7_numberThere_b4] at hf
      refine lv_iload_n hx hb dX7_numberThere_4 rfl (lv_at hl 2 rfl) ?_
      refine lv_aload_n hx hb dX7_numberThere_5 rfl (lv_at hl 0 rfl) ?_
      refine kget hX hP (q0 := 0) rfl rfl inX7 (k := 1) (by decide) rfl wd98 rfl dX7_numberThere_6 ?_
      refine kalen hX hP (t0 := 0) rfl (q0 := 1) rfl (v := (Int32.ofNat nS)) rfl dX7_numberThere_9 ?_
      refine lv_icmp_ge (tgt := 30) hx hb dX7_numberThere_10 (by decide) (fun c10 => ?_) (fun c10 => ?_)
      · replace hf := ip c10 hf
        refine lv_iload_n hx hb dX7_numberThere_30 rfl (lv_at hl 1 rfl) ?_
        exact hRet _ _ _ _ _ _ _ (Option.some.inj hf) rfl rfl hP hD hS dX7_numberThere_31
      · replace hf := iq c10 hf
        refine lv_aload_n hx hb dX7_numberThere_13 rfl (lv_at hl 0 rfl) ?_
        refine lv_iload_n hx hb dX7_numberThere_14 rfl (lv_at hl 2 rfl) ?_
        refine kVi (rest := []) hX (c_X7_isThere l D cI cJ cR ad_s ad_s_sizes ad_s_cells nS h_nS s_places s_sizes x2 rfl) kc_X7_isThere wd1109 ⟨Nat.le_of_ble_eq_true rfl, Nat.le_of_ble_eq_true rfl⟩ ⟨rfl, rfl⟩ hP hD hS (ci := 7) rfl rfl (q0 := 0) rfl [0, 1] rfl (by decide) (fun w h => by cases h; rfl) rfl rfl (Nat.le_of_ble_eq_true rfl) hl.1 ⟨Nat.zero_le _, Nat.zero_le _⟩ dX7_numberThere_15 (fun H locs w1 hw1 hP hD hS => ?_)
        cases hw1
        refine lv_if_eq (tgt := 24) hx hb dX7_numberThere_18 (by decide) (fun c18 => ?_) (fun c18 => ?_)
        · simp only [if_pos c18] at hf
          exact hb24 _ _ x1 x2 hP hD hS _ (lv_sub hl [0, 1, 2] rfl) hf
        · simp only [if_neg c18] at hf
          refine lv_iinc (v := (x1 + (1 : Int32))) (lv' := [(1, .int (x1 + (1 : Int32))), (0, .ref ad_s), (2, .int x2)]) hx hb dX7_numberThere_21 hl (k := 1) rfl rfl (by decide) rfl (fun ls hl => ?_)
          exact hb24 _ _ (x1 + (1 : Int32)) x2 hP hD hS _ (lv_sub hl [1, 0, 2] rfl) hf
  unfold f_X7_numberThere at hf
  refine lv_iconst (v := 0) hx hb dX7_numberThere_0 (by decide) ?_
  refine lv_istore_n (lv' := [(1, .int (0 : Int32)), (0, .ref ad_s)]) hx hb dX7_numberThere_1 rfl hl (by decide) rfl (fun ls hl => ?_)
  refine lv_iconst (v := 0) hx hb dX7_numberThere_2 (by decide) ?_
  refine lv_istore_n (lv' := [(2, .int (0 : Int32)), (1, .int (0 : Int32)), (0, .ref ad_s)]) hx hb dX7_numberThere_3 rfl hl (by decide) rfl (fun ls hl => ?_)
  exact hb4 N _ _ (0 : Int32) (0 : Int32) hP hD hS _ (lv_sub hl [2, 1, 0] rfl) hf
def f_X7_mixInto_b65 (N : Nat) (nS : Nat) (nC : Nat) (k5 : Int64 → Int32 → Option (Int64)) (s_places : Int32) (s_sizes : (Nat → Int32)) (s_cells : (Nat → Int32)) (x3 : Int64) (x5 : Int32) : Option (Int64) :=
  k5 x3 (x5 + (1 : Int32))
def f_X7_mixInto_b32 (N : Nat) (nS : Nat) (nC : Nat) (k65 : Int64 → Int32 → Option (Int64)) (s_places : Int32) (s_sizes : (Nat → Int32)) (s_cells : (Nat → Int32)) : Nat → Int64 → Int32 → Int32 → Option (Int64)
  | 0, _, _, _ => none
  | n32 + 1, x3, x5, x6 => if (p_X7_sizeOf nS s_sizes x5) ≤ x6 then k65 x3 x5 else nm (((31 : Int64) * x3) + ((p_X7_cell nS nC s_places s_sizes s_cells x5 x6).toInt64)) (fun v58 => (f_X7_mixInto_b32 N nS nC k65 s_places s_sizes s_cells n32) v58 x5 (x6 + (1 : Int32)))
def f_X7_mixInto_b5 (N : Nat) (nS : Nat) (nC : Nat) (s_places : Int32) (s_sizes : (Nat → Int32)) (s_cells : (Nat → Int32)) : Nat → Int64 → Int32 → Option (Int64)
  | 0, _, _ => none
  | n5 + 1, x3, x5 => if (Int32.ofNat nS) ≤ x5 then some (x3) else nm (((31 : Int64) * x3) + ((p_X7_sizeOf nS s_sizes x5).toInt64)) (fun v28 => (f_X7_mixInto_b32 N nS nC (f_X7_mixInto_b65 N nS nC (f_X7_mixInto_b5 N nS nC s_places s_sizes s_cells n5) s_places s_sizes s_cells) s_places s_sizes s_cells N) v28 x5 (0 : Int32))
def f_X7_mixInto (N : Nat) (nS : Nat) (nC : Nat) (s_places : Int32) (s_sizes : (Nat → Int32)) (s_cells : (Nat → Int32)) (x1 : Int64) : Option (Int64) :=
  (f_X7_mixInto_b5 N nS nC s_places s_sizes s_cells N) x1 (0 : Int32)
abbrev rm_X7_mixInto : Room := { frames := 3, cells := 0, slots := 0, locals := 66 }
set_option maxHeartbeats 4000000 in
set_option maxRecDepth 100000 in
theorem c_X7_mixInto (l : Launch) (D : va_G) (cI cJ cR : ClassId) (N : Nat) (ad_s ad_s_sizes ad_s_cells : Nat) (nS : Nat) (nC : Nat) (h_nS : nS < 2147483648) (h_nC : nC < 2147483648) (s_places : Int32) (s_sizes : (Nat → Int32)) (s_cells : (Nat → Int32)) (x1 : Int64) {o : Int64} (hf : f_X7_mixInto N nS nC s_places s_sizes s_cells x1 = some o) : kMl l D (kT cI cJ cR) yX7_mixInto cX7_mixInto 7 (some .long) rm_X7_mixInto [.ref ad_s, .long x1] [(ad_s, .inr (7, [.int s_places, .ref ad_s_sizes, .ref ad_s_cells])), (ad_s_sizes, .inl (cI, nS, .inl s_sizes)), (ad_s_cells, .inl (cI, nC, .inl s_cells))] (o) (fun w => w = [(ad_s, .inr (7, [.int s_places, .ref ad_s_sizes, .ref ad_s_cells])), (ad_s_sizes, .inl (cI, nS, .inl s_sizes)), (ad_s_cells, .inl (cI, nC, .inl s_cells))]) := by
  apply kInL (o := o)
  · decide
  · exact Nat.le_of_ble_eq_true rfl
  intro p e s m args below meth c A ls Q hX hRet hP hD hS hl
  have hx := hX.1.1
  have hb := hX.1.2.1
  have hown := hX.1.2.2.2.1
  have hts := hX.1.2.2.2.2
  have hl : lv_has ls 7 [(0, .ref ad_s), (1, .long x1)] := hl
  have hb5 : ∀ n5 : Nat, ∀ (H : Heap) (locs : List Loc) (x3 : Int64) (x5 : Int32), va_P D vwCl [(ad_s, .inr (7, [.int s_places, .ref ad_s_sizes, .ref ad_s_cells])), (ad_s_sizes, .inl (cI, nS, .inl s_sizes)), (ad_s_cells, .inl (cI, nC, .inl s_cells))] H → va_D A [(ad_s, .inr (7, [.int s_places, .ref ad_s_sizes, .ref ad_s_cells])), (ad_s_sizes, .inl (cI, nS, .inl s_sizes)), (ad_s_cells, .inl (cI, nC, .inl s_cells))] → va_S A s.heap H locs → ∀ ls : Array Slot, lv_has ls 7 [(0, .ref ad_s), (3, .long x3), (5, .int x5)] → f_X7_mixInto_b5 N nS nC s_places s_sizes s_cells n5 x3 x5 = some o → W p l e rm_X7_mixInto s m args below meth c H locs 0 0 Q (F0 m 5 ls []) := by
    intro n5
    induction n5 with
    | zero =>
      intro H locs x3 x5 hP hD hS ls hl hf
      rw [f_X7_mixInto_b5] at hf
      cases hf
    | succ n5 ih5 =>
      have hb65 : ∀ (H : Heap) (locs : List Loc) (x3 : Int64) (x5 : Int32), va_P D vwCl [(ad_s, .inr (7, [.int s_places, .ref ad_s_sizes, .ref ad_s_cells])), (ad_s_sizes, .inl (cI, nS, .inl s_sizes)), (ad_s_cells, .inl (cI, nC, .inl s_cells))] H → va_D A [(ad_s, .inr (7, [.int s_places, .ref ad_s_sizes, .ref ad_s_cells])), (ad_s_sizes, .inl (cI, nS, .inl s_sizes)), (ad_s_cells, .inl (cI, nC, .inl s_cells))] → va_S A s.heap H locs → ∀ ls : Array Slot, lv_has ls 7 [(0, .ref ad_s), (3, .long x3), (5, .int x5)] → (f_X7_mixInto_b65 N nS nC (f_X7_mixInto_b5 N nS nC s_places s_sizes s_cells n5) s_places s_sizes s_cells) x3 x5 = some o → W p l e rm_X7_mixInto s m args below meth c H locs 0 0 Q (F0 m 65 ls []) := by
        intro H locs x3 x5 hP hD hS ls hl hf
        unfold f_X7_mixInto_b65 at hf
        refine lv_iinc (v := (x5 + (1 : Int32))) (lv' := [(5, .int (x5 + (1 : Int32))), (0, .ref ad_s), (3, .long x3)]) hx hb dX7_mixInto_65 hl (k := 2) rfl rfl (by decide) rfl (fun ls hl => ?_)
        refine lv_goto (tgt := 5) hx hb dX7_mixInto_68 (by decide) ?_
        exact ih5 _ _ x3 (x5 + (1 : Int32)) hP hD hS _ (lv_sub hl [1, 2, 0] rfl) hf
      have hb32 : ∀ n32 : Nat, ∀ (H : Heap) (locs : List Loc) (x3 : Int64) (x5 : Int32) (x6 : Int32), va_P D vwCl [(ad_s, .inr (7, [.int s_places, .ref ad_s_sizes, .ref ad_s_cells])), (ad_s_sizes, .inl (cI, nS, .inl s_sizes)), (ad_s_cells, .inl (cI, nC, .inl s_cells))] H → va_D A [(ad_s, .inr (7, [.int s_places, .ref ad_s_sizes, .ref ad_s_cells])), (ad_s_sizes, .inl (cI, nS, .inl s_sizes)), (ad_s_cells, .inl (cI, nC, .inl s_cells))] → va_S A s.heap H locs → ∀ ls : Array Slot, lv_has ls 7 [(0, .ref ad_s), (3, .long x3), (5, .int x5), (6, .int x6)] → f_X7_mixInto_b32 N nS nC (f_X7_mixInto_b65 N nS nC (f_X7_mixInto_b5 N nS nC s_places s_sizes s_cells n5) s_places s_sizes s_cells) s_places s_sizes s_cells n32 x3 x5 x6 = some o → W p l e rm_X7_mixInto s m args below meth c H locs 0 0 Q (F0 m 32 ls []) := by
        intro n32
        induction n32 with
        | zero =>
          intro H locs x3 x5 x6 hP hD hS ls hl hf
          rw [f_X7_mixInto_b32] at hf
          cases hf
        | succ n32 ih32 =>
          intro H locs x3 x5 x6 hP hD hS ls hl hf
          rw [f_X7_mixInto_b32] at hf
          refine lv_iload hx hb dX7_mixInto_32 (lv_at hl 3 rfl) ?_
          refine lv_aload_n hx hb dX7_mixInto_34 rfl (lv_at hl 0 rfl) ?_
          refine lv_iload hx hb dX7_mixInto_35 (lv_at hl 2 rfl) ?_
          refine kVi (rest := [.int x6]) hX (c_X7_sizeOf l D cI cJ cR ad_s ad_s_sizes ad_s_cells nS h_nS s_places s_sizes x5 rfl) kc_X7_sizeOf wd444 ⟨Nat.le_of_ble_eq_true rfl, Nat.le_of_ble_eq_true rfl⟩ ⟨rfl, rfl⟩ hP hD hS (ci := 7) rfl rfl (q0 := 0) rfl [0, 1] rfl (by decide) (fun w h => by cases h; rfl) rfl rfl (Nat.le_of_ble_eq_true rfl) hl.1 ⟨Nat.zero_le _, Nat.zero_le _⟩ dX7_mixInto_37 (fun H locs w1 hw1 hP hD hS => ?_)
          cases hw1
          refine lv_icmp_ge (tgt := 65) hx hb dX7_mixInto_40 (by decide) (fun c40 => ?_) (fun c40 => ?_)
          · replace hf := ip c40 hf
            exact hb65 _ _ x3 x5 hP hD hS _ (lv_sub hl [0, 1, 2] rfl) hf
          · replace hf := iq c40 hf
            refine lv_ldc2 (v := 31) hx hb hown (hts _ (List.mem_cons_of_mem _ wd1142)) dX7_mixInto_43 ?_
            refine lv_lload_n hx hb dX7_mixInto_46 rfl (lv_at hl 1 rfl) ?_
            refine lv_lmul hx hb dX7_mixInto_47 ?_
            refine lv_aload_n hx hb dX7_mixInto_48 rfl (lv_at hl 0 rfl) ?_
            refine lv_iload hx hb dX7_mixInto_49 (lv_at hl 2 rfl) ?_
            refine lv_iload hx hb dX7_mixInto_51 (lv_at hl 3 rfl) ?_
            refine kVi (rest := [.long ((31 : Int64) * x3)]) hX (c_X7_cell l D cI cJ cR ad_s ad_s_sizes ad_s_cells nS nC h_nS h_nC s_places s_sizes s_cells x5 x6 rfl) kc_X7_cell wd498 ⟨Nat.le_of_ble_eq_true rfl, Nat.le_of_ble_eq_true rfl⟩ ⟨rfl, rfl⟩ hP hD hS (ci := 7) rfl rfl (q0 := 0) rfl [0, 1, 2] rfl (by decide) (fun w h => by cases h; rfl) rfl rfl (Nat.le_of_ble_eq_true rfl) hl.1 ⟨Nat.zero_le _, Nat.zero_le _⟩ dX7_mixInto_53 (fun H locs w1 hw1 hP hD hS => ?_)
            cases hw1
            refine lv_i2l hx hb dX7_mixInto_56 rfl ?_
            refine lv_ladd hx hb dX7_mixInto_57 ?_
            refine lv_topl (fun v58 ev58 => ?_)
            replace hf := nm_s ev58 hf
            refine lv_lstore_n (lv' := [(3, .long v58), (0, .ref ad_s), (5, .int x5), (6, .int x6)]) hx hb dX7_mixInto_58 rfl hl (by decide) rfl (fun ls hl => ?_)
            refine lv_iinc (v := (x6 + (1 : Int32))) (lv' := [(6, .int (x6 + (1 : Int32))), (3, .long v58), (0, .ref ad_s), (5, .int x5)]) hx hb dX7_mixInto_59 hl (k := 3) rfl rfl (by decide) rfl (fun ls hl => ?_)
            refine lv_goto (tgt := 32) hx hb dX7_mixInto_62 (by decide) ?_
            exact ih32 _ _ v58 x5 (x6 + (1 : Int32)) hP hD hS _ (lv_sub hl [2, 1, 3, 0] rfl) hf
      intro H locs x3 x5 hP hD hS ls hl hf
      rw [f_X7_mixInto_b5] at hf
      refine lv_iload hx hb dX7_mixInto_5 (lv_at hl 2 rfl) ?_
      refine lv_aload_n hx hb dX7_mixInto_7 rfl (lv_at hl 0 rfl) ?_
      refine kget hX hP (q0 := 0) rfl rfl inX7 (k := 1) (by decide) rfl wd98 rfl dX7_mixInto_8 ?_
      refine kalen hX hP (t0 := 0) rfl (q0 := 1) rfl (v := (Int32.ofNat nS)) rfl dX7_mixInto_11 ?_
      refine lv_icmp_ge (tgt := 71) hx hb dX7_mixInto_12 (by decide) (fun c12 => ?_) (fun c12 => ?_)
      · replace hf := ip c12 hf
        refine lv_lload_n hx hb dX7_mixInto_71 rfl (lv_at hl 1 rfl) ?_
        exact hRet _ _ _ _ _ _ _ (Option.some.inj hf) rfl rfl hP hD hS dX7_mixInto_72
      · replace hf := iq c12 hf
        refine lv_ldc2 (v := 31) hx hb hown (hts _ (List.mem_cons_of_mem _ wd1142)) dX7_mixInto_15 ?_
        refine lv_lload_n hx hb dX7_mixInto_18 rfl (lv_at hl 1 rfl) ?_
        refine lv_lmul hx hb dX7_mixInto_19 ?_
        refine lv_aload_n hx hb dX7_mixInto_20 rfl (lv_at hl 0 rfl) ?_
        refine lv_iload hx hb dX7_mixInto_21 (lv_at hl 2 rfl) ?_
        refine kVi (rest := [.long ((31 : Int64) * x3)]) hX (c_X7_sizeOf l D cI cJ cR ad_s ad_s_sizes ad_s_cells nS h_nS s_places s_sizes x5 rfl) kc_X7_sizeOf wd444 ⟨Nat.le_of_ble_eq_true rfl, Nat.le_of_ble_eq_true rfl⟩ ⟨rfl, rfl⟩ hP hD hS (ci := 7) rfl rfl (q0 := 0) rfl [0, 1] rfl (by decide) (fun w h => by cases h; rfl) rfl rfl (Nat.le_of_ble_eq_true rfl) hl.1 ⟨Nat.zero_le _, Nat.zero_le _⟩ dX7_mixInto_23 (fun H locs w1 hw1 hP hD hS => ?_)
        cases hw1
        refine lv_i2l hx hb dX7_mixInto_26 rfl ?_
        refine lv_ladd hx hb dX7_mixInto_27 ?_
        refine lv_topl (fun v28 ev28 => ?_)
        replace hf := nm_s ev28 hf
        refine lv_lstore_n (lv' := [(3, .long v28), (0, .ref ad_s), (5, .int x5)]) hx hb dX7_mixInto_28 rfl hl (by decide) rfl (fun ls hl => ?_)
        refine lv_iconst (v := 0) hx hb dX7_mixInto_29 (by decide) ?_
        refine lv_istore (lv' := [(6, .int (0 : Int32)), (3, .long v28), (0, .ref ad_s), (5, .int x5)]) hx hb dX7_mixInto_30 hl (by decide) rfl (fun ls hl => ?_)
        exact hb32 N _ _ v28 x5 (0 : Int32) hP hD hS _ (lv_sub hl [2, 1, 3, 0] rfl) hf
  unfold f_X7_mixInto at hf
  refine lv_lload_n hx hb dX7_mixInto_0 rfl (lv_at hl 1 rfl) ?_
  refine lv_lstore_n (lv' := [(3, .long x1), (0, .ref ad_s), (1, .long x1)]) hx hb dX7_mixInto_1 rfl hl (by decide) rfl (fun ls hl => ?_)
  refine lv_iconst (v := 0) hx hb dX7_mixInto_2 (by decide) ?_
  refine lv_istore (lv' := [(5, .int (0 : Int32)), (3, .long x1), (0, .ref ad_s), (1, .long x1)]) hx hb dX7_mixInto_3 hl (by decide) rfl (fun ls hl => ?_)
  exact hb5 N _ _ x1 (0 : Int32) hP hD hS _ (lv_sub hl [2, 1, 0] rfl) hf
