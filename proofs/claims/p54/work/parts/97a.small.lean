/-! the law's own small methods -/
theorem kc_L_low : kCalS yL_low cL_low 2 (some .int) 2 := ⟨wd936, wd17, wd937, by decide +kernel, by decide +kernel, by decide +kernel⟩
def f_L_low (N : Nat) (x0 : Int32) (x1 : Int32) : Option (Int32) :=
  gd (¬ x1 = 0) (some (((x0 &&& (2147483647 : Int32)) - (x0 &&& (2147483647 : Int32)) / x1 * x1)))
abbrev rm_L_low : Room := { frames := 0, cells := 0, slots := 0, locals := 0 }
set_option maxHeartbeats 4000000 in
set_option maxRecDepth 100000 in
theorem c_L_low (l : Launch) (D : va_G) (cI cJ cR : ClassId) (N : Nat) (x0 : Int32) (x1 : Int32) {o : Int32} (hf : f_L_low N x0 x1 = some o) : kMi l D (kT cI cJ cR) yL_low cL_low 2 (some .int) rm_L_low [.int x0, .int x1] [] (o) (fun w => w = []) := by
  apply kInI (o := o)
  · decide
  · exact Nat.le_of_ble_eq_true rfl
  intro p e s m args below meth c A ls Q hX hRet hP hD hS hl
  have hx := hX.1.1
  have hb := hX.1.2.1
  have hown := hX.1.2.2.2.1
  have hts := hX.1.2.2.2.2
  have hl : lv_has ls 2 [(0, .int x0), (1, .int x1)] := hl
  unfold f_L_low at hf
  refine lv_iload_n hx hb dL_low_0 rfl (lv_at hl 0 rfl) ?_
  refine lv_ldc (v := 2147483647) hx hb hown (hts _ (List.mem_cons_of_mem _ wd938)) dL_low_1 ?_
  refine lv_iand hx hb dL_low_3 ?_
  refine lv_iload_n hx hb dL_low_4 rfl (lv_at hl 1 rfl) ?_
  obtain ⟨hn5_1, hf⟩ := gd_s hf
  refine lv_irem hx hb dL_low_5 hn5_1 ?_
  exact hRet _ _ _ _ _ _ _ (Option.some.inj hf) rfl rfl hP hD hS dL_low_6

theorem kc_L_bits : kCalS yL_bits cL_bits 3 (some .int) 1 := ⟨wd1001, wd17, wd1002, by decide +kernel, by decide +kernel, by decide +kernel⟩
def f_L_bits_b4 (N : Nat) : Nat → Int32 → Int32 → Int32 → Option (Int32)
  | 0, _, _, _ => none
  | n4 + 1, x0, x1, x2 => if (12 : Int32) ≤ x2 then some (x1) else nm (x1 + ((x0 >>> (x2 &&& 31)) &&& (1 : Int32))) (fun v17 => (f_L_bits_b4 N n4) x0 v17 (x2 + (1 : Int32)))
def f_L_bits (N : Nat) (x0 : Int32) : Option (Int32) :=
  (f_L_bits_b4 N N) x0 (0 : Int32) (0 : Int32)
abbrev rm_L_bits : Room := { frames := 0, cells := 0, slots := 0, locals := 0 }
set_option maxHeartbeats 4000000 in
set_option maxRecDepth 100000 in
theorem c_L_bits (l : Launch) (D : va_G) (cI cJ cR : ClassId) (N : Nat) (x0 : Int32) {o : Int32} (hf : f_L_bits N x0 = some o) : kMi l D (kT cI cJ cR) yL_bits cL_bits 3 (some .int) rm_L_bits [.int x0] [] (o) (fun w => w = []) := by
  apply kInI (o := o)
  · decide
  · exact Nat.le_of_ble_eq_true rfl
  intro p e s m args below meth c A ls Q hX hRet hP hD hS hl
  have hx := hX.1.1
  have hb := hX.1.2.1
  have hown := hX.1.2.2.2.1
  have hts := hX.1.2.2.2.2
  have hl : lv_has ls 3 [(0, .int x0)] := hl
  have hb4 : ∀ n4 : Nat, ∀ (H : Heap) (locs : List Loc) (x0 : Int32) (x1 : Int32) (x2 : Int32), va_P D vwCl [] H → va_D A [] → va_S A s.heap H locs → ∀ ls : Array Slot, lv_has ls 3 [(0, .int x0), (1, .int x1), (2, .int x2)] → f_L_bits_b4 N n4 x0 x1 x2 = some o → W p l e rm_L_bits s m args below meth c H locs 0 0 Q (F0 m 4 ls []) := by
    intro n4
    induction n4 with
    | zero =>
      intro H locs x0 x1 x2 hP hD hS ls hl hf
      rw [f_L_bits_b4] at hf
      cases hf
    | succ n4 ih4 =>
      intro H locs x0 x1 x2 hP hD hS ls hl hf
      rw [f_L_bits_b4] at hf
      refine lv_iload_n hx hb dL_bits_4 rfl (lv_at hl 2 rfl) ?_
      refine lv_bipush (v := 12) hx hb dL_bits_5 (by decide) ?_
      refine lv_icmp_ge (tgt := 24) hx hb dL_bits_7 (by decide) (fun c7 => ?_) (fun c7 => ?_)
      · replace hf := ip c7 hf
        refine lv_iload_n hx hb dL_bits_24 rfl (lv_at hl 1 rfl) ?_
        exact hRet _ _ _ _ _ _ _ (Option.some.inj hf) rfl rfl hP hD hS dL_bits_25
      · replace hf := iq c7 hf
        refine lv_iload_n hx hb dL_bits_10 rfl (lv_at hl 1 rfl) ?_
        refine lv_iload_n hx hb dL_bits_11 rfl (lv_at hl 0 rfl) ?_
        refine lv_iload_n hx hb dL_bits_12 rfl (lv_at hl 2 rfl) ?_
        refine lv_ishr hx hb dL_bits_13 ?_
        refine lv_iconst (v := 1) hx hb dL_bits_14 (by decide) ?_
        refine lv_iand hx hb dL_bits_15 ?_
        refine lv_iadd hx hb dL_bits_16 ?_
        refine lv_topi (fun v17 ev17 => ?_)
        replace hf := nm_s ev17 hf
        refine lv_istore_n (lv' := [(1, .int v17), (0, .int x0), (2, .int x2)]) hx hb dL_bits_17 rfl hl (by decide) rfl (fun ls hl => ?_)
        refine lv_iinc (v := (x2 + (1 : Int32))) (lv' := [(2, .int (x2 + (1 : Int32))), (1, .int v17), (0, .int x0)]) hx hb dL_bits_18 hl (k := 2) rfl rfl (by decide) rfl (fun ls hl => ?_)
        refine lv_goto (tgt := 4) hx hb dL_bits_21 (by decide) ?_
        exact ih4 _ _ x0 v17 (x2 + (1 : Int32)) hP hD hS _ (lv_sub hl [2, 1, 0] rfl) hf
  unfold f_L_bits at hf
  refine lv_iconst (v := 0) hx hb dL_bits_0 (by decide) ?_
  refine lv_istore_n (lv' := [(1, .int (0 : Int32)), (0, .int x0)]) hx hb dL_bits_1 rfl hl (by decide) rfl (fun ls hl => ?_)
  refine lv_iconst (v := 0) hx hb dL_bits_2 (by decide) ?_
  refine lv_istore_n (lv' := [(2, .int (0 : Int32)), (1, .int (0 : Int32)), (0, .int x0)]) hx hb dL_bits_3 rfl hl (by decide) rfl (fun ls hl => ?_)
  exact hb4 N _ _ x0 (0 : Int32) (0 : Int32) hP hD hS _ (lv_sub hl [2, 1, 0] rfl) hf

theorem kc_L_cell : kCalS yL_cell cL_cell 2 (some .int) 2 := ⟨wd940, wd17, wd941, by decide +kernel, by decide +kernel, by decide +kernel⟩
theorem kc_L_told : kCalS yL_told cL_told 2 (some .int) 2 := ⟨wd944, wd17, wd945, by decide +kernel, by decide +kernel, by decide +kernel⟩
theorem kc_L_office : kCalS yL_office cL_office 12 (some .boolean) 5 := ⟨wd947, wd17, wd948, by decide +kernel, by decide +kernel, by decide +kernel⟩
def o_cell (L : Nat) (xs : Nat → Int32) (k : Int32) : Int32 := if k < Int32.ofNat L then xs k.toNatClampNeg else (40503 : Int32) * k + (977 : Int32)
abbrev rm_L_cell : Room := { frames := 0, cells := 0, slots := 0, locals := 0 }
theorem kdropP {D : va_G} {cl : List vw_C} {a : Nat × va_E} {ws w : va_W} {H : Heap} (h : va_P D cl ((a :: ws) ++ w) H) : va_P D cl (ws ++ w) H := fun k q hk => h (k + 1) q hk
theorem kdropD {A : Nat → Prop} {a : Nat × va_E} {ws w : va_W} (h : va_D A ((a :: ws) ++ w)) : va_D A (ws ++ w) := ⟨fun i j p q hp hq e => by have := h.1 (i + 1) (j + 1) p q hp hq e; omega, fun k q hk => h.2 (k + 1) q hk⟩
theorem c_L_cell (l : Launch) (D : va_G) (cI cJ cR : ClassId) (bs L : Nat) (xs : Nat → Int32) (hL : L < 2147483648) (x1 : Int32) (h1 : ¬ x1 < 0) : kMs l D (kT cI cJ cR) bs L xs yL_cell cL_cell 2 (some .int) rm_L_cell [.ref bs, .int x1] [] (o_cell L xs x1) 0 0 (fun w => w = []) := by
  refine kInS (o := ()) (Rf := fun _ => o_cell L xs x1) (WS := fun _ w => w = []) (Or.inl rfl) (by decide) (Nat.le_of_ble_eq_true rfl) ?_
  intro p e s m args below meth c A ls Q hX hsc hRet hP hD hS hl
  have hx := hX.1.1
  have hb := hX.1.2.1
  have hown := hX.1.2.2.2.1
  have hts := hX.1.2.2.2.2
  have hl : lv_has ls 2 [(0, .ref bs), (1, .int x1)] := hl
  refine lv_iload_n hx hb dL_cell_0 rfl (lv_at hl 1 rfl) ?_
  refine lv_aload_n hx hb dL_cell_1 rfl (lv_at hl 0 rfl) ?_
  refine va_slen hx hb hsc.1 hsc.2.1 hsc.2.2 hS dL_cell_2 ?_
  refine lv_icmp_ge (tgt := 12) hx hb dL_cell_3 (by decide) (fun c1 => ?_) (fun c1 => ?_)
  · refine lv_ldc (v := 40503) hx hb hown (hts _ (List.mem_cons_of_mem _ wd942)) dL_cell_12 ?_
    refine lv_iload_n hx hb dL_cell_14 rfl (lv_at hl 1 rfl) ?_
    refine lv_imul hx hb dL_cell_15 ?_
    refine lv_sipush (v := 977) hx hb dL_cell_16 (by decide) ?_
    refine lv_iadd hx hb dL_cell_19 ?_
    refine hRet () _ _ _ _ _ _ _ _ (Nat.le_refl _) (Nat.le_refl _) rfl ?_ (fun q => by cases q) rfl hP hD hS dL_cell_20
    show _ = o_cell L xs x1
    unfold o_cell
    rw [if_neg (Int32.not_lt.mpr c1)]
  · refine lv_aload_n hx hb dL_cell_6 rfl (lv_at hl 0 rfl) ?_
    refine lv_iload_n hx hb dL_cell_7 rfl (lv_at hl 1 rfl) ?_
    refine va_sld hx hb hsc.1 hsc.2.1 hsc.2.2 hS (vpi hL h1 c1) dL_cell_8 ?_
    refine lv_goto (tgt := 20) hx hb dL_cell_9 (by decide) ?_
    refine hRet () _ _ _ _ _ _ _ _ (Nat.le_refl _) (Nat.le_refl _) rfl ?_ (fun q => by cases q) rfl hP hD hS dL_cell_20
    show _ = o_cell L xs x1
    unfold o_cell
    rw [if_pos (Int32.not_le.mp c1)]
theorem q_cell {p : Program} {l : Launch} {e : Env} {R : Room} {s : State} {m : MethodId} {args : Array Value} {below : List Frame} {meth : Method} {c : Code} {H : Heap} {locs : List Loc} {cells slots : Nat} {Q : State → Prop} {D : va_G} {cI cJ cR : ClassId} {A : Nat → Prop} {cc : ByteArray} {nL pc idx : Nat} {Ts : List Cond} {own : String} {ls : Array Slot} {rest st0 : List Value} {ws : va_W} {bs L : Nat} {xs : Nat → Int32} {x1 : Int32} (hX : kX l D (kT cI cJ cR) A p m c cc nL s args Ts own) (hsc : kSc A bs L xs s) (h1 : ¬ x1 < 0) (hL : L < 2147483648) (hlink : Cond.methodLink own idx yL_cell ∈ lw_ok) (hR : rm_L_cell.frames + 1 ≤ R.frames ∧ 8 + (2 + 11) + rm_L_cell.locals ≤ R.locals) (hP : va_P D vwCl ws H) (hD : va_D A ws) (hS : va_S A s.heap H locs) (hst : st0 = .int x1 :: .ref bs :: rest) (hcat : (rest.map fun v => v.category).sum ≤ 8) (hsz : ls.size = nL) (hcs : cells ≤ R.cells ∧ slots ≤ R.slots) (hdg : decode cc pc = .ok (.invokestatic idx, 3))
    (kk : ∀ (H1 : Heap) (locs1 : List Loc), va_P D vwCl ws H1 → va_D A ws → va_S A s.heap H1 locs1 → W p l e R s m args below meth c H1 locs1 cells slots Q (F0 m (pc + 3) ls (.int (o_cell L xs x1) :: rest))) : W p l e R s m args below meth c H locs cells slots Q (F0 m pc ls st0) := by
  refine kSs (rest := rest) hX hsc (c_L_cell l D cI cJ cR bs L xs hL x1 h1) kc_L_cell hlink hR ⟨rfl, rfl⟩ hP hD hS [] rfl rfl (fun w h => by rw [h]; rfl) rfl hst hcat hsz hcs hdg (fun H locs w1 hw1 hP hD hS => ?_)
  cases hw1
  exact kk H locs hP hD hS
def o_lt (th : TH) (x : Int32) : Int32 := if x = (1 : Int32) then th.1.2.1 else (-7777 : Int32)
theorem o_asked_eq (th : TH) : o_asked th = some (th.1.2.1, th) := rfl
abbrev rm_L_told : Room := { frames := 1, cells := 0, slots := 0, locals := 20 }
theorem c_L_told (l : Launch) (D : va_G) (cI cJ cR : ClassId) (b : Nat) (th : TH) (x1 : Int32) (pre w : va_W) (hw : Ob cI cJ cR b th w) : kMi l D (kT cI cJ cR) yL_told cL_told 2 (some .int) rm_L_told [.ref b, .int x1] (pre ++ w) (o_lt th x1) (fun w' => ∃ w1, Ob cI cJ cR b th w1 ∧ w' = pre ++ w1) := by
  refine kInI (o := ()) (Rf := fun _ => o_lt th x1) (WS := fun _ w' => ∃ w1, Ob cI cJ cR b th w1 ∧ w' = pre ++ w1) (by decide) (Nat.le_of_ble_eq_true rfl) ?_
  intro p e s m args below meth c A ls Q hX hRet hP hD hS hl
  have hx := hX.1.1
  have hb := hX.1.2.1
  have hl : lv_has ls 2 [(0, .ref b), (1, .int x1)] := hl
  refine lv_iload_n hx hb dL_told_0 rfl (lv_at hl 1 rfl) ?_
  refine lv_iconst (v := 1) hx hb dL_told_1 (by decide) ?_
  refine lv_icmp_ne (tgt := 12) hx hb dL_told_2 (by decide) (fun c1 => ?_) (fun c1 => ?_)
  · refine lv_sipush (v := -7777) hx hb dL_told_12 (by decide) ?_
    refine hRet () _ _ _ _ _ _ rfl ?_ ⟨w, hw, rfl⟩ hP hD hS dL_told_15
    show _ = o_lt th x1
    unfold o_lt
    rw [if_neg c1]
  · refine lv_aload_n hx hb dL_told_5 rfl (lv_at hl 0 rfl) ?_
    refine q_asked pre (rest := []) hX hw (o_asked_eq th) wd901 ⟨Nat.le_of_ble_eq_true rfl, Nat.le_of_ble_eq_true rfl⟩ hP hD hS rfl (Nat.le_of_ble_eq_true rfl) hl.1 ⟨Nat.le_of_ble_eq_true rfl, Nat.le_of_ble_eq_true rfl⟩ dL_told_6 (fun H locs w hw hP hD hS => ?_)
    refine lv_goto (tgt := 15) hx hb dL_told_9 (by decide) ?_
    refine hRet () _ _ _ _ _ _ rfl ?_ ⟨w, hw, rfl⟩ hP hD hS dL_told_15
    show _ = o_lt th x1
    unfold o_lt
    rw [if_pos c1]
theorem q_lt {p : Program} {l : Launch} {e : Env} {R : Room} {s : State} {m : MethodId} {args : Array Value} {below : List Frame} {meth : Method} {c : Code} {H : Heap} {locs : List Loc} {cells slots : Nat} {Q : State → Prop} {D : va_G} {cI cJ cR : ClassId} {A : Nat → Prop} {cc : ByteArray} {nL pc idx b : Nat} {Ts : List Cond} {own : String} {ls : Array Slot} {rest st0 : List Value} {w : va_W} {th : TH} {x1 : Int32} (pre : va_W) (hX : kX l D (kT cI cJ cR) A p m c cc nL s args Ts own) (hw : Ob cI cJ cR b th w) (hlink : Cond.methodLink own idx yL_told ∈ lw_ok) (hR : rm_L_told.frames + 1 ≤ R.frames ∧ 8 + (2 + 11) + rm_L_told.locals ≤ R.locals) (hP : va_P D vwCl (pre ++ w) H) (hD : va_D A (pre ++ w)) (hS : va_S A s.heap H locs) (hst : st0 = .int x1 :: .ref b :: rest) (hcat : (rest.map fun v => v.category).sum ≤ 8) (hsz : ls.size = nL) (hcs : cells ≤ R.cells ∧ slots ≤ R.slots) (hdg : decode cc pc = .ok (.invokestatic idx, 3))
    (kk : ∀ (H1 : Heap) (locs1 : List Loc) (w1 : va_W), Ob cI cJ cR b th w1 → va_P D vwCl (pre ++ w1) H1 → va_D A (pre ++ w1) → va_S A s.heap H1 locs1 → W p l e R s m args below meth c H1 locs1 cells slots Q (F0 m (pc + 3) ls (.int (o_lt th x1) :: rest))) : W p l e R s m args below meth c H locs cells slots Q (F0 m pc ls st0) := by
  have h53 := Ob_len hw
  have hlen : ∀ w', (∃ w1, Ob cI cJ cR b th w1 ∧ w' = pre ++ w1) → w'.length = (List.range (pre ++ w).length).length := by
    rintro w' ⟨w1, h1, rfl⟩
    simp [Ob_len h1, h53]
  refine kSi (rest := rest) hX (c_L_told l D cI cJ cR b th x1 pre w hw) kc_L_told hlink hR ⟨rfl, rfl⟩ hP hD hS (List.range (pre ++ w).length) (krange _) (va_nd_of List.nodup_range) hlen rfl hst hcat hsz hcs hdg (fun H locs w1 hw1 hP hD hS => ?_)
  have hl1 := hlen w1 hw1
  rw [List.length_range] at hl1
  rw [kset_all _ _ hl1] at hP hD
  obtain ⟨w2, h2, rfl⟩ := hw1
  exact kk H locs w2 h2 hP hD hS
