def f_L_office_b425 (N L : Nat) (xs : Nat → Int32) (th : TH) (tx : (Nat → Int32)) (d : (Nat → Int32)) (x3 : Int32) (x7 : Int32) : Option (Int32 × TH × (Nat → Int32)) :=
  if x7 = 0 then some ((0 : Int32), th, d) else bn (o_fault th (3 : Int32)) (fun z432_1 => if z432_1.1 = (-9 : Int32) then bn (o_office z432_1.2 (3 : Int32)) (fun z442_2 => if z442_2.1 = x3 then some ((1 : Int32), z442_2.2, d) else some ((0 : Int32), z442_2.2, d)) else some ((0 : Int32), z432_1.2, d))
def f_L_office_b417 (N L : Nat) (xs : Nat → Int32) (k382 : TH → (Nat → Int32) → (Nat → Int32) → Int32 → Int32 → Int32 → Int32 → Option (Int32 × TH × (Nat → Int32))) (k425 : TH → (Nat → Int32) → (Nat → Int32) → Int32 → Int32 → Option (Int32 × TH × (Nat → Int32))) (th : TH) (tx : (Nat → Int32)) (d : (Nat → Int32)) (x3 : Int32) (x6 : Int32) (x8 : Int32) (y0 : Int32) : Option (Int32 × TH × (Nat → Int32)) :=
  k382 th tx d x3 x6 y0 (x8 + (1 : Int32))
def f_L_office_b382 (N L : Nat) (xs : Nat → Int32) (k425 : TH → (Nat → Int32) → (Nat → Int32) → Int32 → Int32 → Option (Int32 × TH × (Nat → Int32))) : Nat → TH → (Nat → Int32) → (Nat → Int32) → Int32 → Int32 → Int32 → Int32 → Option (Int32 × TH × (Nat → Int32))
  | 0, _, _, _, _, _, _, _ => none
  | n382 + 1, th, tx, d, x3, x6, x7, x8 => if x6 ≤ x8 then k425 th tx d x3 x7 else if x7 = 0 then k425 th tx d x3 x7 else gd (inb x8 60 = true) (bn (o_put th (3 : Int32) x8 (tx x8.toNatClampNeg)) (fun z403_2 => (f_L_office_b417 N L xs (f_L_office_b382 N L xs k425 n382) k425) z403_2.2 tx d x3 x6 x8 (if z403_2.1 = (1032 : Int32) then (1 : Int32) else (0 : Int32))))
def f_L_office_b377 (N L : Nat) (xs : Nat → Int32) (th : TH) (tx : (Nat → Int32)) (d : (Nat → Int32)) (x3 : Int32) (x6 : Int32) (y0 : Int32) : Option (Int32 × TH × (Nat → Int32)) :=
  (f_L_office_b382 N L xs (f_L_office_b425 N L xs) N) th tx d x3 x6 y0 (0 : Int32)
def f_L_office_b360 (N L : Nat) (xs : Nat → Int32) (th : TH) (tx : (Nat → Int32)) (d : (Nat → Int32)) (x3 : Int32) (x6 : Int32) : Option (Int32 × TH × (Nat → Int32)) :=
  bn (o_text th (3 : Int32) x6) (fun z364_1 => (f_L_office_b377 N L xs) z364_1.2 tx d x3 x6 (if z364_1.1 = x6 then (1 : Int32) else (0 : Int32)))
def f_L_office_b354 (N L : Nat) (xs : Nat → Int32) (k12 : TH → (Nat → Int32) → (Nat → Int32) → Int32 → Int32 → Int32 → Int32 → Option (Int32 × TH × (Nat → Int32))) (k360 : TH → (Nat → Int32) → (Nat → Int32) → Int32 → Int32 → Option (Int32 × TH × (Nat → Int32))) (th : TH) (tx : (Nat → Int32)) (d : (Nat → Int32)) (x2 : Int32) (x3 : Int32) (x6 : Int32) (x7 : Int32) : Option (Int32 × TH × (Nat → Int32)) :=
  k12 th tx d x2 x3 x6 (x7 + (1 : Int32))
def f_L_office_b323 (N L : Nat) (xs : Nat → Int32) (k299 : TH → (Nat → Int32) → (Nat → Int32) → Int32 → Int32 → Int32 → Int32 → Int32 → Int32 → Option (Int32 × TH × (Nat → Int32))) (k354 : TH → (Nat → Int32) → (Nat → Int32) → Int32 → Int32 → Int32 → Int32 → Option (Int32 × TH × (Nat → Int32))) (th : TH) (tx : (Nat → Int32)) (d : (Nat → Int32)) (x2 : Int32) (x3 : Int32) (x6 : Int32) (x7 : Int32) (x9 : Int32) (x11 : Int32) (y0 : Int32) (y1 : Int32) : Option (Int32 × TH × (Nat → Int32)) :=
  if y1 ≤ y0 then k354 th tx d x2 x3 x6 x7 else gd (inb (((6 : Int32) * x7) + x11) 54 = true) (gd (inb x6 60 = true) (k299 th (upd tx x6.toNatClampNeg ((48 : Int32) + (d (((6 : Int32) * x7) + x11).toNatClampNeg))) d x2 x3 (x6 + (1 : Int32)) x7 x9 (x11 + (1 : Int32))))
def f_L_office_b299 (N L : Nat) (xs : Nat → Int32) (k354 : TH → (Nat → Int32) → (Nat → Int32) → Int32 → Int32 → Int32 → Int32 → Option (Int32 × TH × (Nat → Int32))) : Nat → TH → (Nat → Int32) → (Nat → Int32) → Int32 → Int32 → Int32 → Int32 → Int32 → Int32 → Option (Int32 × TH × (Nat → Int32))
  | 0, _, _, _, _, _, _, _, _, _ => none
  | n299 + 1, th, tx, d, x2, x3, x6, x7, x9, x11 => (f_L_office_b323 N L xs (f_L_office_b299 N L xs k354 n299) k354) th tx d x2 x3 x6 x7 x9 x11 x11 (if x9 = (2 : Int32) then (5 : Int32) else (if x9 = (3 : Int32) then (6 : Int32) else (4 : Int32)))
def f_L_office_b292 (N L : Nat) (xs : Nat → Int32) (k12 : TH → (Nat → Int32) → (Nat → Int32) → Int32 → Int32 → Int32 → Int32 → Option (Int32 × TH × (Nat → Int32))) (k360 : TH → (Nat → Int32) → (Nat → Int32) → Int32 → Int32 → Option (Int32 × TH × (Nat → Int32))) (th : TH) (tx : (Nat → Int32)) (d : (Nat → Int32)) (x2 : Int32) (x3 : Int32) (x6 : Int32) (x7 : Int32) (x9 : Int32) (y1 : Int32) (y2 : Int32) : Option (Int32 × TH × (Nat → Int32)) :=
  gd (inb y1 60 = true) ((f_L_office_b299 N L xs (f_L_office_b354 N L xs k12 k360) N) th (upd tx y1.toNatClampNeg y2) d x2 x3 (x6 + (1 : Int32)) x7 x9 (1 : Int32))
def f_L_office_b231 (N L : Nat) (xs : Nat → Int32) (k12 : TH → (Nat → Int32) → (Nat → Int32) → Int32 → Int32 → Int32 → Int32 → Option (Int32 × TH × (Nat → Int32))) (k360 : TH → (Nat → Int32) → (Nat → Int32) → Int32 → Int32 → Option (Int32 × TH × (Nat → Int32))) (th : TH) (tx : (Nat → Int32)) (d : (Nat → Int32)) (x2 : Int32) (x3 : Int32) (x6 : Int32) (x7 : Int32) (x9 : Int32) (y1 : Int32) (y2 : Int32) : Option (Int32 × TH × (Nat → Int32)) :=
  gd (inb y1 54 = true) ((f_L_office_b292 N L xs k12 k360) th tx (upd d y1.toNatClampNeg y2) x2 x3 x6 x7 x9 x6 (if x9 = 0 then (104 : Int32) else (if x9 = (1 : Int32) then (113 : Int32) else (if x9 = (2 : Int32) then (112 : Int32) else (if x9 = (3 : Int32) then (97 : Int32) else (if x9 = (4 : Int32) then (99 : Int32) else (101 : Int32)))))))
def f_L_office_b194 (N L : Nat) (xs : Nat → Int32) (k12 : TH → (Nat → Int32) → (Nat → Int32) → Int32 → Int32 → Int32 → Int32 → Option (Int32 × TH × (Nat → Int32))) (k360 : TH → (Nat → Int32) → (Nat → Int32) → Int32 → Int32 → Option (Int32 × TH × (Nat → Int32))) (th : TH) (tx : (Nat → Int32)) (d : (Nat → Int32)) (x2 : Int32) (x3 : Int32) (x6 : Int32) (x7 : Int32) (x8 : Int32) (x9 : Int32) (x10 : Int32) (y1 : Int32) (y2 : Int32) : Option (Int32 × TH × (Nat → Int32)) :=
  gd (inb y1 54 = true) (if x9 = (3 : Int32) then bn (f_L_low N (x8 >>> ((18 : Int32) &&& 31)) ((10 : Int32) - x10)) (fun z222_2 => (f_L_office_b231 N L xs k12 k360) th tx (upd d y1.toNatClampNeg y2) x2 x3 x6 x7 x9 (((6 : Int32) * x7) + (5 : Int32)) (x10 + z222_2)) else (f_L_office_b231 N L xs k12 k360) th tx (upd d y1.toNatClampNeg y2) x2 x3 x6 x7 x9 (((6 : Int32) * x7) + (5 : Int32)) (-9 : Int32))
def f_L_office_b135 (N L : Nat) (xs : Nat → Int32) (k12 : TH → (Nat → Int32) → (Nat → Int32) → Int32 → Int32 → Int32 → Int32 → Option (Int32 × TH × (Nat → Int32))) (k360 : TH → (Nat → Int32) → (Nat → Int32) → Int32 → Int32 → Option (Int32 × TH × (Nat → Int32))) (th : TH) (tx : (Nat → Int32)) (d : (Nat → Int32)) (x2 : Int32) (x3 : Int32) (x6 : Int32) (x7 : Int32) (x8 : Int32) (x9 : Int32) (y1 : Int32) (y2 : Int32) (y3 : Int32) : Option (Int32 × TH × (Nat → Int32)) :=
  bn (f_L_low N y2 y3) (fun z135_1 => gd (inb y1 54 = true) (bn (f_L_low N (x8 >>> ((14 : Int32) &&& 31)) (6 : Int32)) (fun z146_3 => if x9 = (2 : Int32) then bn (f_L_low N (x8 >>> ((14 : Int32) &&& 31)) (9 : Int32)) (fun z174_4 => (f_L_office_b194 N L xs k12 k360) th tx (upd d y1.toNatClampNeg z135_1) x2 x3 x6 x7 x8 x9 z146_3 (((6 : Int32) * x7) + (4 : Int32)) ((1 : Int32) + z174_4)) else (f_L_office_b194 N L xs k12 k360) th tx (upd d y1.toNatClampNeg z135_1) x2 x3 x6 x7 x8 x9 z146_3 (((6 : Int32) * x7) + (4 : Int32)) (if x9 = (3 : Int32) then z146_3 else (-9 : Int32)))))
def f_L_office_b52 (N L : Nat) (xs : Nat → Int32) (k12 : TH → (Nat → Int32) → (Nat → Int32) → Int32 → Int32 → Int32 → Int32 → Option (Int32 × TH × (Nat → Int32))) (k360 : TH → (Nat → Int32) → (Nat → Int32) → Int32 → Int32 → Option (Int32 × TH × (Nat → Int32))) (th : TH) (tx : (Nat → Int32)) (d : (Nat → Int32)) (x2 : Int32) (x3 : Int32) (x6 : Int32) (x7 : Int32) (x8 : Int32) (y0 : Int32) : Option (Int32 × TH × (Nat → Int32)) :=
  gd (inb ((6 : Int32) * x7) 54 = true) (bn (f_L_low N (x8 >>> ((3 : Int32) &&& 31)) (10 : Int32)) (fun z79_2 => gd (inb (((6 : Int32) * x7) + (1 : Int32)) 54 = true) (bn (f_L_low N (x8 >>> ((7 : Int32) &&& 31)) (10 : Int32)) (fun z99_4 => gd (inb (((6 : Int32) * x7) + (2 : Int32)) 54 = true) (bn (f_L_low N (x8 >>> ((24 : Int32) &&& 31)) (2 : Int32)) (fun z123_6 => (f_L_office_b135 N L xs k12 k360) th tx (upd (upd (upd d ((6 : Int32) * x7).toNatClampNeg y0) (((6 : Int32) * x7) + (1 : Int32)).toNatClampNeg z79_2) (((6 : Int32) * x7) + (2 : Int32)).toNatClampNeg z99_4) x2 x3 x6 x7 x8 y0 (((6 : Int32) * x7) + (3 : Int32)) (x8 >>> ((11 : Int32) &&& 31)) (if z123_6 = 0 then (3 : Int32) else (10 : Int32))))))))
def f_L_office_b12 (N L : Nat) (xs : Nat → Int32) (k360 : TH → (Nat → Int32) → (Nat → Int32) → Int32 → Int32 → Option (Int32 × TH × (Nat → Int32))) : Nat → TH → (Nat → Int32) → (Nat → Int32) → Int32 → Int32 → Int32 → Int32 → Option (Int32 × TH × (Nat → Int32))
  | 0, _, _, _, _, _, _, _ => none
  | n12 + 1, th, tx, d, x2, x3, x6, x7 => if x3 ≤ x7 then k360 th tx d x3 x6 else gd (¬ (x2 + x7) < 0) (nm (o_cell L xs (x2 + x7)) (fun v26 => bn (f_L_low N v26 (8 : Int32)) (fun z32_2 => if (2 : Int32) ≤ z32_2 then bn (f_L_low N v26 (8 : Int32)) (fun z47_3 => (f_L_office_b52 N L xs (f_L_office_b12 N L xs k360 n12) k360) th tx d x2 x3 x6 x7 v26 (z47_3 - (2 : Int32))) else (f_L_office_b52 N L xs (f_L_office_b12 N L xs k360 n12) k360) th tx d x2 x3 x6 x7 v26 (0 : Int32))))
def f_L_office (N L : Nat) (xs : Nat → Int32) (th : TH) (d : (Nat → Int32)) (x2 : Int32) (x3 : Int32) : Option (Int32 × TH × (Nat → Int32)) :=
  (f_L_office_b12 N L xs (f_L_office_b360 N L xs) N) th (fun _ => 0) d x2 x3 (0 : Int32) (0 : Int32)
abbrev rm_L_office : Room := { frames := 6, cells := 1, slots := 60, locals := 143 }
set_option maxHeartbeats 8000000 in
set_option maxRecDepth 100000 in
theorem c_L_office (l : Launch) (D : va_G) (cI cJ cR : ClassId) (bs : Nat) (N L : Nat) (xs : Nat → Int32) (hL : L < 2147483648) (ad_o ad_d : Nat) (th : TH) (d : Nat → Int32) (x2 x3 : Int32) (w : va_W) (hw : Ob cI cJ cR ad_o th w) {o : Int32 × TH × (Nat → Int32)} (hf : f_L_office N L xs th d x2 x3 = some o) : kMs l D (kT cI cJ cR) bs L xs yL_office cL_office 12 (some .boolean) rm_L_office [.ref ad_o, .ref bs, .int x2, .int x3, .ref ad_d] ([(ad_d, .inl (cI, 54, .inl d))] ++ w) o.1 1 60 (fun w' => ∃ w1, Ob cI cJ cR ad_o o.2.1 w1 ∧ w' = [(ad_d, .inl (cI, 54, .inl o.2.2))] ++ w1) := by
  refine kInS (y := yL_office) (n := 12) (av := [.ref ad_o, .ref bs, .int x2, .int x3, .ref ad_d]) (w0 := [(ad_d, .inl (cI, 54, .inl d))] ++ w) (o := o) (Rf := fun o => o.1) (WS := fun o w' => ∃ w1, Ob cI cJ cR ad_o o.2.1 w1 ∧ w' = [(ad_d, .inl (cI, 54, .inl o.2.2))] ++ w1) (Or.inr rfl) (by decide) (Nat.le_of_ble_eq_true rfl) ?_
  intro p e s m args below meth c A ls Q hX hsc hRet hP hD hS hl
  have hx := hX.1.1
  have hb := hX.1.2.1
  have hown := hX.1.2.2.2.1
  have hts := hX.1.2.2.2.2
  have hl : lv_has ls 12 [(0, .ref ad_o), (1, .ref bs), (2, .int x2), (3, .int x3), (4, .ref ad_d)] := hl
  have hb425 : ∀ (H : Heap) (locs : List Loc) (w : va_W) (ad_t : Nat) (th : TH) (tx : (Nat → Int32)) (d : (Nat → Int32)) (x3 : Int32) (x7 : Int32), Ob cI cJ cR ad_o th w → va_P D vwCl ([(ad_t, .inl (cI, 60, .inl tx)), (ad_d, .inl (cI, 54, .inl d))] ++ w) H → va_D A ([(ad_t, .inl (cI, 60, .inl tx)), (ad_d, .inl (cI, 54, .inl d))] ++ w) → va_S A s.heap H locs → ∀ ls : Array Slot, lv_has ls 12 [(0, .ref ad_o), (3, .int x3), (7, .int x7)] → (f_L_office_b425 N L xs) th tx d x3 x7 = some o → W p l e rm_L_office s m args below meth c H locs 1 60 Q (F0 m 425 ls []) := by
    intro H locs w ad_t th tx d x3 x7 hw hP hD hS ls hl hf
    unfold f_L_office_b425 at hf
    refine lv_iload hx hb dL_office_425 (lv_at hl 2 rfl) ?_
    refine lv_if_eq (tgt := 453) hx hb dL_office_427 (by decide) (fun c427 => ?_) (fun c427 => ?_)
    · replace hf := ip c427 hf
      refine lv_iconst (v := 0) hx hb dL_office_453 (by decide) ?_
      exact hRet _ _ _ _ _ _ _ _ _ (Nat.le_of_ble_eq_true rfl) (Nat.le_of_ble_eq_true rfl) (Option.some.inj hf) rfl (fun _ => rfl) ⟨_, hw, rfl⟩ (kdropP hP) (kdropD hD) hS dL_office_454
    · replace hf := iq c427 hf
      refine lv_aload_n hx hb dL_office_430 rfl (lv_at hl 0 rfl) ?_
      refine lv_iconst (v := 3) hx hb dL_office_431 (by decide) ?_
      obtain ⟨z432_1, hz432_1, hf⟩ := bn_s hf
      refine q_fault [(ad_t, .inl (cI, 60, .inl tx)), (ad_d, .inl (cI, 54, .inl d))] (rest := []) hX hw hz432_1 wd957 ⟨Nat.le_of_ble_eq_true rfl, Nat.le_of_ble_eq_true rfl⟩ hP hD hS rfl (Nat.le_of_ble_eq_true rfl) hl.1 ⟨Nat.le_of_ble_eq_true rfl, Nat.le_of_ble_eq_true rfl⟩ dL_office_432 (fun H locs w hw hP hD hS => ?_)
      refine lv_bipush (v := -9) hx hb dL_office_435 (by decide) ?_
      refine lv_icmp_ne (tgt := 453) hx hb dL_office_437 (by decide) (fun c437 => ?_) (fun c437 => ?_)
      · replace hf := iq c437 hf
        refine lv_iconst (v := 0) hx hb dL_office_453 (by decide) ?_
        exact hRet _ _ _ _ _ _ _ _ _ (Nat.le_of_ble_eq_true rfl) (Nat.le_of_ble_eq_true rfl) (Option.some.inj hf) rfl (fun _ => rfl) ⟨_, hw, rfl⟩ (kdropP hP) (kdropD hD) hS dL_office_454
      · replace hf := ip c437 hf
        refine lv_aload_n hx hb dL_office_440 rfl (lv_at hl 0 rfl) ?_
        refine lv_iconst (v := 3) hx hb dL_office_441 (by decide) ?_
        obtain ⟨z442_2, hz442_2, hf⟩ := bn_s hf
        refine q_office [(ad_t, .inl (cI, 60, .inl tx)), (ad_d, .inl (cI, 54, .inl d))] (rest := []) hX hw hz442_2 wd987 ⟨Nat.le_of_ble_eq_true rfl, Nat.le_of_ble_eq_true rfl⟩ hP hD hS rfl (Nat.le_of_ble_eq_true rfl) hl.1 ⟨Nat.le_of_ble_eq_true rfl, Nat.le_of_ble_eq_true rfl⟩ dL_office_442 (fun H locs w hw hP hD hS => ?_)
        refine lv_iload_n hx hb dL_office_445 rfl (lv_at hl 1 rfl) ?_
        refine lv_icmp_ne (tgt := 453) hx hb dL_office_446 (by decide) (fun c446 => ?_) (fun c446 => ?_)
        · replace hf := iq c446 hf
          refine lv_iconst (v := 0) hx hb dL_office_453 (by decide) ?_
          exact hRet _ _ _ _ _ _ _ _ _ (Nat.le_of_ble_eq_true rfl) (Nat.le_of_ble_eq_true rfl) (Option.some.inj hf) rfl (fun _ => rfl) ⟨_, hw, rfl⟩ (kdropP hP) (kdropD hD) hS dL_office_454
        · replace hf := ip c446 hf
          refine lv_iconst (v := 1) hx hb dL_office_449 (by decide) ?_
          refine lv_goto (tgt := 454) hx hb dL_office_450 (by decide) ?_
          exact hRet _ _ _ _ _ _ _ _ _ (Nat.le_of_ble_eq_true rfl) (Nat.le_of_ble_eq_true rfl) (Option.some.inj hf) rfl (fun _ => rfl) ⟨_, hw, rfl⟩ (kdropP hP) (kdropD hD) hS dL_office_454
  have hb382 : ∀ n382 : Nat, ∀ (H : Heap) (locs : List Loc) (w : va_W) (ad_t : Nat) (th : TH) (tx : (Nat → Int32)) (d : (Nat → Int32)) (x3 : Int32) (x6 : Int32) (x7 : Int32) (x8 : Int32), Ob cI cJ cR ad_o th w → va_P D vwCl ([(ad_t, .inl (cI, 60, .inl tx)), (ad_d, .inl (cI, 54, .inl d))] ++ w) H → va_D A ([(ad_t, .inl (cI, 60, .inl tx)), (ad_d, .inl (cI, 54, .inl d))] ++ w) → va_S A s.heap H locs → ∀ ls : Array Slot, lv_has ls 12 [(0, .ref ad_o), (3, .int x3), (5, .ref ad_t), (6, .int x6), (7, .int x7), (8, .int x8)] → f_L_office_b382 N L xs (f_L_office_b425 N L xs) n382 th tx d x3 x6 x7 x8 = some o → W p l e rm_L_office s m args below meth c H locs 1 60 Q (F0 m 382 ls []) := by
    intro n382
    induction n382 with
    | zero =>
      intro H locs w ad_t th tx d x3 x6 x7 x8 hw hP hD hS ls hl hf
      rw [f_L_office_b382] at hf
      cases hf
    | succ n382 ih382 =>
      have hb417 : ∀ (H : Heap) (locs : List Loc) (w : va_W) (ad_t : Nat) (th : TH) (tx : (Nat → Int32)) (d : (Nat → Int32)) (x3 : Int32) (x6 : Int32) (x8 : Int32) (y0 : Int32), Ob cI cJ cR ad_o th w → va_P D vwCl ([(ad_t, .inl (cI, 60, .inl tx)), (ad_d, .inl (cI, 54, .inl d))] ++ w) H → va_D A ([(ad_t, .inl (cI, 60, .inl tx)), (ad_d, .inl (cI, 54, .inl d))] ++ w) → va_S A s.heap H locs → ∀ ls : Array Slot, lv_has ls 12 [(0, .ref ad_o), (3, .int x3), (5, .ref ad_t), (6, .int x6), (8, .int x8)] → (f_L_office_b417 N L xs (f_L_office_b382 N L xs (f_L_office_b425 N L xs) n382) (f_L_office_b425 N L xs)) th tx d x3 x6 x8 y0 = some o → W p l e rm_L_office s m args below meth c H locs 1 60 Q (F0 m 417 ls [.int y0]) := by
        intro H locs w ad_t th tx d x3 x6 x8 y0 hw hP hD hS ls hl hf
        unfold f_L_office_b417 at hf
        refine lv_istore (lv' := [(7, .int y0), (0, .ref ad_o), (3, .int x3), (5, .ref ad_t), (6, .int x6), (8, .int x8)]) hx hb dL_office_417 hl (by decide) rfl (fun ls hl => ?_)
        refine lv_iinc (v := (x8 + (1 : Int32))) (lv' := [(8, .int (x8 + (1 : Int32))), (7, .int y0), (0, .ref ad_o), (3, .int x3), (5, .ref ad_t), (6, .int x6)]) hx hb dL_office_419 hl (k := 5) rfl rfl (by decide) rfl (fun ls hl => ?_)
        refine lv_goto (tgt := 382) hx hb dL_office_422 (by decide) ?_
        exact ih382 _ _ w ad_t th tx d x3 x6 y0 (x8 + (1 : Int32)) hw hP hD hS _ (lv_sub hl [2, 3, 4, 5, 1, 0] rfl) hf
      intro H locs w ad_t th tx d x3 x6 x7 x8 hw hP hD hS ls hl hf
      rw [f_L_office_b382] at hf
      refine lv_iload hx hb dL_office_382 (lv_at hl 5 rfl) ?_
      refine lv_iload hx hb dL_office_384 (lv_at hl 3 rfl) ?_
      refine lv_icmp_ge (tgt := 425) hx hb dL_office_386 (by decide) (fun c386 => ?_) (fun c386 => ?_)
      · replace hf := ip c386 hf
        exact hb425 _ _ w ad_t th tx d x3 x7 hw hP hD hS _ (lv_sub hl [0, 1, 4] rfl) hf
      · replace hf := iq c386 hf
        refine lv_iload hx hb dL_office_389 (lv_at hl 4 rfl) ?_
        refine lv_if_eq (tgt := 425) hx hb dL_office_391 (by decide) (fun c391 => ?_) (fun c391 => ?_)
        · replace hf := ip c391 hf
          exact hb425 _ _ w ad_t th tx d x3 x7 hw hP hD hS _ (lv_sub hl [0, 1, 4] rfl) hf
        · replace hf := iq c391 hf
          refine lv_aload_n hx hb dL_office_394 rfl (lv_at hl 0 rfl) ?_
          refine lv_iconst (v := 3) hx hb dL_office_395 (by decide) ?_
          refine lv_iload hx hb dL_office_396 (lv_at hl 5 rfl) ?_
          refine lv_aload hx hb dL_office_398 (lv_at hl 2 rfl) ?_
          refine lv_iload hx hb dL_office_400 (lv_at hl 5 rfl) ?_
          obtain ⟨hg402_1, hf⟩ := gd_s hf
          refine kiald hX hP rfl (q0 := 0) rfl (inb_in hg402_1) dL_office_402 ?_
          obtain ⟨z403_2, hz403_2, hf⟩ := bn_s hf
          refine q_put [(ad_t, .inl (cI, 60, .inl tx)), (ad_d, .inl (cI, 54, .inl d))] (rest := []) hX hw hz403_2 wd953 ⟨Nat.le_of_ble_eq_true rfl, Nat.le_of_ble_eq_true rfl⟩ hP hD hS rfl (Nat.le_of_ble_eq_true rfl) hl.1 ⟨Nat.le_of_ble_eq_true rfl, Nat.le_of_ble_eq_true rfl⟩ dL_office_403 (fun H locs w hw hP hD hS => ?_)
          refine lv_sipush (v := 1032) hx hb dL_office_406 (by decide) ?_
          refine lv_icmp_ne (tgt := 416) hx hb dL_office_409 (by decide) (fun c409 => ?_) (fun c409 => ?_)
          · simp only [if_neg c409] at hf
            refine lv_iconst (v := 0) hx hb dL_office_416 (by decide) ?_
            exact hb417 _ _ w ad_t z403_2.2 tx d x3 x6 x8 (0 : Int32) hw hP hD hS _ (lv_sub hl [0, 1, 2, 3, 5] rfl) hf
          · simp only [if_pos c409] at hf
            refine lv_iconst (v := 1) hx hb dL_office_412 (by decide) ?_
            refine lv_goto (tgt := 417) hx hb dL_office_413 (by decide) ?_
            exact hb417 _ _ w ad_t z403_2.2 tx d x3 x6 x8 (1 : Int32) hw hP hD hS _ (lv_sub hl [0, 1, 2, 3, 5] rfl) hf
  have hb377 : ∀ (H : Heap) (locs : List Loc) (w : va_W) (ad_t : Nat) (th : TH) (tx : (Nat → Int32)) (d : (Nat → Int32)) (x3 : Int32) (x6 : Int32) (y0 : Int32), Ob cI cJ cR ad_o th w → va_P D vwCl ([(ad_t, .inl (cI, 60, .inl tx)), (ad_d, .inl (cI, 54, .inl d))] ++ w) H → va_D A ([(ad_t, .inl (cI, 60, .inl tx)), (ad_d, .inl (cI, 54, .inl d))] ++ w) → va_S A s.heap H locs → ∀ ls : Array Slot, lv_has ls 12 [(0, .ref ad_o), (3, .int x3), (5, .ref ad_t), (6, .int x6)] → (f_L_office_b377 N L xs) th tx d x3 x6 y0 = some o → W p l e rm_L_office s m args below meth c H locs 1 60 Q (F0 m 377 ls [.int y0]) := by
    intro H locs w ad_t th tx d x3 x6 y0 hw hP hD hS ls hl hf
    unfold f_L_office_b377 at hf
    refine lv_istore (lv' := [(7, .int y0), (0, .ref ad_o), (3, .int x3), (5, .ref ad_t), (6, .int x6)]) hx hb dL_office_377 hl (by decide) rfl (fun ls hl => ?_)
    refine lv_iconst (v := 0) hx hb dL_office_379 (by decide) ?_
    refine lv_istore (lv' := [(8, .int (0 : Int32)), (7, .int y0), (0, .ref ad_o), (3, .int x3), (5, .ref ad_t), (6, .int x6)]) hx hb dL_office_380 hl (by decide) rfl (fun ls hl => ?_)
    exact hb382 N _ _ w ad_t th tx d x3 x6 y0 (0 : Int32) hw hP hD hS _ (lv_sub hl [2, 3, 4, 5, 1, 0] rfl) hf
  have hb360 : ∀ (H : Heap) (locs : List Loc) (w : va_W) (ad_t : Nat) (th : TH) (tx : (Nat → Int32)) (d : (Nat → Int32)) (x3 : Int32) (x6 : Int32), Ob cI cJ cR ad_o th w → va_P D vwCl ([(ad_t, .inl (cI, 60, .inl tx)), (ad_d, .inl (cI, 54, .inl d))] ++ w) H → va_D A ([(ad_t, .inl (cI, 60, .inl tx)), (ad_d, .inl (cI, 54, .inl d))] ++ w) → va_S A s.heap H locs → ∀ ls : Array Slot, lv_has ls 12 [(0, .ref ad_o), (3, .int x3), (5, .ref ad_t), (6, .int x6)] → (f_L_office_b360 N L xs) th tx d x3 x6 = some o → W p l e rm_L_office s m args below meth c H locs 1 60 Q (F0 m 360 ls []) := by
    intro H locs w ad_t th tx d x3 x6 hw hP hD hS ls hl hf
    unfold f_L_office_b360 at hf
    refine lv_aload_n hx hb dL_office_360 rfl (lv_at hl 0 rfl) ?_
    refine lv_iconst (v := 3) hx hb dL_office_361 (by decide) ?_
    refine lv_iload hx hb dL_office_362 (lv_at hl 3 rfl) ?_
    obtain ⟨z364_1, hz364_1, hf⟩ := bn_s hf
    refine q_text [(ad_t, .inl (cI, 60, .inl tx)), (ad_d, .inl (cI, 54, .inl d))] (rest := []) hX hw hz364_1 wd949 ⟨Nat.le_of_ble_eq_true rfl, Nat.le_of_ble_eq_true rfl⟩ hP hD hS rfl (Nat.le_of_ble_eq_true rfl) hl.1 ⟨Nat.le_of_ble_eq_true rfl, Nat.le_of_ble_eq_true rfl⟩ dL_office_364 (fun H locs w hw hP hD hS => ?_)
    refine lv_iload hx hb dL_office_367 (lv_at hl 3 rfl) ?_
    refine lv_icmp_ne (tgt := 376) hx hb dL_office_369 (by decide) (fun c369 => ?_) (fun c369 => ?_)
    · simp only [if_neg c369] at hf
      refine lv_iconst (v := 0) hx hb dL_office_376 (by decide) ?_
      exact hb377 _ _ w ad_t z364_1.2 tx d x3 x6 (0 : Int32) hw hP hD hS _ (lv_sub hl [0, 1, 2, 3] rfl) hf
    · simp only [if_pos c369] at hf
      refine lv_iconst (v := 1) hx hb dL_office_372 (by decide) ?_
      refine lv_goto (tgt := 377) hx hb dL_office_373 (by decide) ?_
      exact hb377 _ _ w ad_t z364_1.2 tx d x3 x6 (1 : Int32) hw hP hD hS _ (lv_sub hl [0, 1, 2, 3] rfl) hf
  have hb12 : ∀ n12 : Nat, ∀ (H : Heap) (locs : List Loc) (w : va_W) (ad_t : Nat) (th : TH) (tx : (Nat → Int32)) (d : (Nat → Int32)) (x2 : Int32) (x3 : Int32) (x6 : Int32) (x7 : Int32), Ob cI cJ cR ad_o th w → va_P D vwCl ([(ad_t, .inl (cI, 60, .inl tx)), (ad_d, .inl (cI, 54, .inl d))] ++ w) H → va_D A ([(ad_t, .inl (cI, 60, .inl tx)), (ad_d, .inl (cI, 54, .inl d))] ++ w) → va_S A s.heap H locs → ∀ ls : Array Slot, lv_has ls 12 [(0, .ref ad_o), (1, .ref bs), (2, .int x2), (3, .int x3), (4, .ref ad_d), (5, .ref ad_t), (6, .int x6), (7, .int x7)] → f_L_office_b12 N L xs (f_L_office_b360 N L xs) n12 th tx d x2 x3 x6 x7 = some o → W p l e rm_L_office s m args below meth c H locs 1 60 Q (F0 m 12 ls []) := by
    intro n12
    induction n12 with
    | zero =>
      intro H locs w ad_t th tx d x2 x3 x6 x7 hw hP hD hS ls hl hf
      rw [f_L_office_b12] at hf
      cases hf
    | succ n12 ih12 =>
      have hb354 : ∀ (H : Heap) (locs : List Loc) (w : va_W) (ad_t : Nat) (th : TH) (tx : (Nat → Int32)) (d : (Nat → Int32)) (x2 : Int32) (x3 : Int32) (x6 : Int32) (x7 : Int32), Ob cI cJ cR ad_o th w → va_P D vwCl ([(ad_t, .inl (cI, 60, .inl tx)), (ad_d, .inl (cI, 54, .inl d))] ++ w) H → va_D A ([(ad_t, .inl (cI, 60, .inl tx)), (ad_d, .inl (cI, 54, .inl d))] ++ w) → va_S A s.heap H locs → ∀ ls : Array Slot, lv_has ls 12 [(0, .ref ad_o), (1, .ref bs), (2, .int x2), (3, .int x3), (4, .ref ad_d), (5, .ref ad_t), (6, .int x6), (7, .int x7)] → (f_L_office_b354 N L xs (f_L_office_b12 N L xs (f_L_office_b360 N L xs) n12) (f_L_office_b360 N L xs)) th tx d x2 x3 x6 x7 = some o → W p l e rm_L_office s m args below meth c H locs 1 60 Q (F0 m 354 ls []) := by
        intro H locs w ad_t th tx d x2 x3 x6 x7 hw hP hD hS ls hl hf
        unfold f_L_office_b354 at hf
        refine lv_iinc (v := (x7 + (1 : Int32))) (lv' := [(7, .int (x7 + (1 : Int32))), (0, .ref ad_o), (1, .ref bs), (2, .int x2), (3, .int x3), (4, .ref ad_d), (5, .ref ad_t), (6, .int x6)]) hx hb dL_office_354 hl (k := 7) rfl rfl (by decide) rfl (fun ls hl => ?_)
        refine lv_goto (tgt := 12) hx hb dL_office_357 (by decide) ?_
        exact ih12 _ _ w ad_t th tx d x2 x3 x6 (x7 + (1 : Int32)) hw hP hD hS _ (lv_sub hl [1, 2, 3, 4, 5, 6, 7, 0] rfl) hf
      have hb299 : ∀ n299 : Nat, ∀ (H : Heap) (locs : List Loc) (w : va_W) (ad_t : Nat) (th : TH) (tx : (Nat → Int32)) (d : (Nat → Int32)) (x2 : Int32) (x3 : Int32) (x6 : Int32) (x7 : Int32) (x9 : Int32) (x11 : Int32), Ob cI cJ cR ad_o th w → va_P D vwCl ([(ad_t, .inl (cI, 60, .inl tx)), (ad_d, .inl (cI, 54, .inl d))] ++ w) H → va_D A ([(ad_t, .inl (cI, 60, .inl tx)), (ad_d, .inl (cI, 54, .inl d))] ++ w) → va_S A s.heap H locs → ∀ ls : Array Slot, lv_has ls 12 [(0, .ref ad_o), (1, .ref bs), (2, .int x2), (3, .int x3), (4, .ref ad_d), (5, .ref ad_t), (6, .int x6), (7, .int x7), (9, .int x9), (11, .int x11)] → f_L_office_b299 N L xs (f_L_office_b354 N L xs (f_L_office_b12 N L xs (f_L_office_b360 N L xs) n12) (f_L_office_b360 N L xs)) n299 th tx d x2 x3 x6 x7 x9 x11 = some o → W p l e rm_L_office s m args below meth c H locs 1 60 Q (F0 m 299 ls []) := by
        intro n299
        induction n299 with
        | zero =>
          intro H locs w ad_t th tx d x2 x3 x6 x7 x9 x11 hw hP hD hS ls hl hf
          rw [f_L_office_b299] at hf
          cases hf
        | succ n299 ih299 =>
          have hb323 : ∀ (H : Heap) (locs : List Loc) (w : va_W) (ad_t : Nat) (th : TH) (tx : (Nat → Int32)) (d : (Nat → Int32)) (x2 : Int32) (x3 : Int32) (x6 : Int32) (x7 : Int32) (x9 : Int32) (x11 : Int32) (y0 : Int32) (y1 : Int32), Ob cI cJ cR ad_o th w → va_P D vwCl ([(ad_t, .inl (cI, 60, .inl tx)), (ad_d, .inl (cI, 54, .inl d))] ++ w) H → va_D A ([(ad_t, .inl (cI, 60, .inl tx)), (ad_d, .inl (cI, 54, .inl d))] ++ w) → va_S A s.heap H locs → ∀ ls : Array Slot, lv_has ls 12 [(0, .ref ad_o), (1, .ref bs), (2, .int x2), (3, .int x3), (4, .ref ad_d), (5, .ref ad_t), (6, .int x6), (7, .int x7), (9, .int x9), (11, .int x11)] → (f_L_office_b323 N L xs (f_L_office_b299 N L xs (f_L_office_b354 N L xs (f_L_office_b12 N L xs (f_L_office_b360 N L xs) n12) (f_L_office_b360 N L xs)) n299) (f_L_office_b354 N L xs (f_L_office_b12 N L xs (f_L_office_b360 N L xs) n12) (f_L_office_b360 N L xs))) th tx d x2 x3 x6 x7 x9 x11 y0 y1 = some o → W p l e rm_L_office s m args below meth c H locs 1 60 Q (F0 m 323 ls [.int y1, .int y0]) := by
            intro H locs w ad_t th tx d x2 x3 x6 x7 x9 x11 y0 y1 hw hP hD hS ls hl hf
            unfold f_L_office_b323 at hf
            refine lv_icmp_ge (tgt := 354) hx hb dL_office_323 (by decide) (fun c323 => ?_) (fun c323 => ?_)
            · replace hf := ip c323 hf
              exact hb354 _ _ w ad_t th tx d x2 x3 x6 x7 hw hP hD hS _ (lv_sub hl [0, 1, 2, 3, 4, 5, 6, 7] rfl) hf
            · replace hf := iq c323 hf
              refine lv_aload hx hb dL_office_326 (lv_at hl 5 rfl) ?_
              refine lv_iload hx hb dL_office_328 (lv_at hl 6 rfl) ?_
              refine lv_bipush (v := 48) hx hb dL_office_330 (by decide) ?_
              refine lv_aload hx hb dL_office_332 (lv_at hl 4 rfl) ?_
              refine lv_bipush (v := 6) hx hb dL_office_334 (by decide) ?_
              refine lv_iload hx hb dL_office_336 (lv_at hl 7 rfl) ?_
              refine lv_imul hx hb dL_office_338 ?_
              refine lv_iload hx hb dL_office_339 (lv_at hl 9 rfl) ?_
              refine lv_iadd hx hb dL_office_341 ?_
              obtain ⟨hg342_1, hf⟩ := gd_s hf
              refine kiald hX hP rfl (q0 := 1) rfl (inb_in hg342_1) dL_office_342 ?_
              refine lv_iadd hx hb dL_office_343 ?_
              obtain ⟨hg344_2, hf⟩ := gd_s hf
              refine kiast hX hP hD hS rfl (q0 := 0) rfl (inb_in hg344_2) dL_office_344 (fun H locs hP hD hS => ?_)
              have hP : va_P D vwCl ([(ad_t, .inl (cI, 60, .inl (upd tx x6.toNatClampNeg ((48 : Int32) + (d (((6 : Int32) * x7) + x11).toNatClampNeg))))), (ad_d, .inl (cI, 54, .inl d))] ++ w) H := hP
              have hD : va_D A ([(ad_t, .inl (cI, 60, .inl (upd tx x6.toNatClampNeg ((48 : Int32) + (d (((6 : Int32) * x7) + x11).toNatClampNeg))))), (ad_d, .inl (cI, 54, .inl d))] ++ w) := hD
              refine lv_iinc (v := (x6 + (1 : Int32))) (lv' := [(6, .int (x6 + (1 : Int32))), (0, .ref ad_o), (1, .ref bs), (2, .int x2), (3, .int x3), (4, .ref ad_d), (5, .ref ad_t), (7, .int x7), (9, .int x9), (11, .int x11)]) hx hb dL_office_345 hl (k := 6) rfl rfl (by decide) rfl (fun ls hl => ?_)
              refine lv_iinc (v := (x11 + (1 : Int32))) (lv' := [(11, .int (x11 + (1 : Int32))), (6, .int (x6 + (1 : Int32))), (0, .ref ad_o), (1, .ref bs), (2, .int x2), (3, .int x3), (4, .ref ad_d), (5, .ref ad_t), (7, .int x7), (9, .int x9)]) hx hb dL_office_348 hl (k := 9) rfl rfl (by decide) rfl (fun ls hl => ?_)
              refine lv_goto (tgt := 299) hx hb dL_office_351 (by decide) ?_
              exact ih299 _ _ w ad_t th (upd tx x6.toNatClampNeg ((48 : Int32) + (d (((6 : Int32) * x7) + x11).toNatClampNeg))) d x2 x3 (x6 + (1 : Int32)) x7 x9 (x11 + (1 : Int32)) hw hP hD hS _ (lv_sub hl [2, 3, 4, 5, 6, 7, 1, 8, 9, 0] rfl) hf
          intro H locs w ad_t th tx d x2 x3 x6 x7 x9 x11 hw hP hD hS ls hl hf
          rw [f_L_office_b299] at hf
          refine lv_iload hx hb dL_office_299 (lv_at hl 9 rfl) ?_
          refine lv_iload hx hb dL_office_301 (lv_at hl 8 rfl) ?_
          refine lv_iconst (v := 2) hx hb dL_office_303 (by decide) ?_
          refine lv_icmp_ne (tgt := 311) hx hb dL_office_304 (by decide) (fun c304 => ?_) (fun c304 => ?_)
          · simp only [if_neg c304] at hf
            refine lv_iload hx hb dL_office_311 (lv_at hl 8 rfl) ?_
            refine lv_iconst (v := 3) hx hb dL_office_313 (by decide) ?_
            refine lv_icmp_ne (tgt := 322) hx hb dL_office_314 (by decide) (fun c314 => ?_) (fun c314 => ?_)
            · simp only [if_neg c314] at hf
              refine lv_iconst (v := 4) hx hb dL_office_322 (by decide) ?_
              exact hb323 _ _ w ad_t th tx d x2 x3 x6 x7 x9 x11 x11 (4 : Int32) hw hP hD hS _ (lv_sub hl [0, 1, 2, 3, 4, 5, 6, 7, 8, 9] rfl) hf
            · simp only [if_pos c314] at hf
              refine lv_bipush (v := 6) hx hb dL_office_317 (by decide) ?_
              refine lv_goto (tgt := 323) hx hb dL_office_319 (by decide) ?_
              exact hb323 _ _ w ad_t th tx d x2 x3 x6 x7 x9 x11 x11 (6 : Int32) hw hP hD hS _ (lv_sub hl [0, 1, 2, 3, 4, 5, 6, 7, 8, 9] rfl) hf
          · simp only [if_pos c304] at hf
            refine lv_iconst (v := 5) hx hb dL_office_307 (by decide) ?_
            refine lv_goto (tgt := 323) hx hb dL_office_308 (by decide) ?_
            exact hb323 _ _ w ad_t th tx d x2 x3 x6 x7 x9 x11 x11 (5 : Int32) hw hP hD hS _ (lv_sub hl [0, 1, 2, 3, 4, 5, 6, 7, 8, 9] rfl) hf
      have hb292 : ∀ (H : Heap) (locs : List Loc) (w : va_W) (ad_t : Nat) (th : TH) (tx : (Nat → Int32)) (d : (Nat → Int32)) (x2 : Int32) (x3 : Int32) (x6 : Int32) (x7 : Int32) (x9 : Int32) (y1 : Int32) (y2 : Int32), Ob cI cJ cR ad_o th w → va_P D vwCl ([(ad_t, .inl (cI, 60, .inl tx)), (ad_d, .inl (cI, 54, .inl d))] ++ w) H → va_D A ([(ad_t, .inl (cI, 60, .inl tx)), (ad_d, .inl (cI, 54, .inl d))] ++ w) → va_S A s.heap H locs → ∀ ls : Array Slot, lv_has ls 12 [(0, .ref ad_o), (1, .ref bs), (2, .int x2), (3, .int x3), (4, .ref ad_d), (5, .ref ad_t), (6, .int x6), (7, .int x7), (9, .int x9)] → (f_L_office_b292 N L xs (f_L_office_b12 N L xs (f_L_office_b360 N L xs) n12) (f_L_office_b360 N L xs)) th tx d x2 x3 x6 x7 x9 y1 y2 = some o → W p l e rm_L_office s m args below meth c H locs 1 60 Q (F0 m 292 ls [.int y2, .int y1, .ref ad_t]) := by
        intro H locs w ad_t th tx d x2 x3 x6 x7 x9 y1 y2 hw hP hD hS ls hl hf
        unfold f_L_office_b292 at hf
        obtain ⟨hg292_1, hf⟩ := gd_s hf
        refine kiast hX hP hD hS rfl (q0 := 0) rfl (inb_in hg292_1) dL_office_292 (fun H locs hP hD hS => ?_)
        have hP : va_P D vwCl ([(ad_t, .inl (cI, 60, .inl (upd tx y1.toNatClampNeg y2))), (ad_d, .inl (cI, 54, .inl d))] ++ w) H := hP
        have hD : va_D A ([(ad_t, .inl (cI, 60, .inl (upd tx y1.toNatClampNeg y2))), (ad_d, .inl (cI, 54, .inl d))] ++ w) := hD
        refine lv_iinc (v := (x6 + (1 : Int32))) (lv' := [(6, .int (x6 + (1 : Int32))), (0, .ref ad_o), (1, .ref bs), (2, .int x2), (3, .int x3), (4, .ref ad_d), (5, .ref ad_t), (7, .int x7), (9, .int x9)]) hx hb dL_office_293 hl (k := 6) rfl rfl (by decide) rfl (fun ls hl => ?_)
        refine lv_iconst (v := 1) hx hb dL_office_296 (by decide) ?_
        refine lv_istore (lv' := [(11, .int (1 : Int32)), (6, .int (x6 + (1 : Int32))), (0, .ref ad_o), (1, .ref bs), (2, .int x2), (3, .int x3), (4, .ref ad_d), (5, .ref ad_t), (7, .int x7), (9, .int x9)]) hx hb dL_office_297 hl (by decide) rfl (fun ls hl => ?_)
        exact hb299 N _ _ w ad_t th (upd tx y1.toNatClampNeg y2) d x2 x3 (x6 + (1 : Int32)) x7 x9 (1 : Int32) hw hP hD hS _ (lv_sub hl [2, 3, 4, 5, 6, 7, 1, 8, 9, 0] rfl) hf
      have hb231 : ∀ (H : Heap) (locs : List Loc) (w : va_W) (ad_t : Nat) (th : TH) (tx : (Nat → Int32)) (d : (Nat → Int32)) (x2 : Int32) (x3 : Int32) (x6 : Int32) (x7 : Int32) (x9 : Int32) (y1 : Int32) (y2 : Int32), Ob cI cJ cR ad_o th w → va_P D vwCl ([(ad_t, .inl (cI, 60, .inl tx)), (ad_d, .inl (cI, 54, .inl d))] ++ w) H → va_D A ([(ad_t, .inl (cI, 60, .inl tx)), (ad_d, .inl (cI, 54, .inl d))] ++ w) → va_S A s.heap H locs → ∀ ls : Array Slot, lv_has ls 12 [(0, .ref ad_o), (1, .ref bs), (2, .int x2), (3, .int x3), (4, .ref ad_d), (5, .ref ad_t), (6, .int x6), (7, .int x7), (9, .int x9)] → (f_L_office_b231 N L xs (f_L_office_b12 N L xs (f_L_office_b360 N L xs) n12) (f_L_office_b360 N L xs)) th tx d x2 x3 x6 x7 x9 y1 y2 = some o → W p l e rm_L_office s m args below meth c H locs 1 60 Q (F0 m 231 ls [.int y2, .int y1, .ref ad_d]) := by
        intro H locs w ad_t th tx d x2 x3 x6 x7 x9 y1 y2 hw hP hD hS ls hl hf
        unfold f_L_office_b231 at hf
        obtain ⟨hg231_1, hf⟩ := gd_s hf
        refine kiast hX hP hD hS rfl (q0 := 1) rfl (inb_in hg231_1) dL_office_231 (fun H locs hP hD hS => ?_)
        have hP : va_P D vwCl ([(ad_t, .inl (cI, 60, .inl tx)), (ad_d, .inl (cI, 54, .inl (upd d y1.toNatClampNeg y2)))] ++ w) H := hP
        have hD : va_D A ([(ad_t, .inl (cI, 60, .inl tx)), (ad_d, .inl (cI, 54, .inl (upd d y1.toNatClampNeg y2)))] ++ w) := hD
        refine lv_aload hx hb dL_office_232 (lv_at hl 5 rfl) ?_
        refine lv_iload hx hb dL_office_234 (lv_at hl 6 rfl) ?_
        refine lv_iload hx hb dL_office_236 (lv_at hl 8 rfl) ?_
        refine lv_if_ne (tgt := 246) hx hb dL_office_238 (by decide) (fun c238 => ?_) (fun c238 => ?_)
        · simp only [if_neg c238] at hf
          refine lv_iload hx hb dL_office_246 (lv_at hl 8 rfl) ?_
          refine lv_iconst (v := 1) hx hb dL_office_248 (by decide) ?_
          refine lv_icmp_ne (tgt := 257) hx hb dL_office_249 (by decide) (fun c249 => ?_) (fun c249 => ?_)
          · simp only [if_neg c249] at hf
            refine lv_iload hx hb dL_office_257 (lv_at hl 8 rfl) ?_
            refine lv_iconst (v := 2) hx hb dL_office_259 (by decide) ?_
            refine lv_icmp_ne (tgt := 268) hx hb dL_office_260 (by decide) (fun c260 => ?_) (fun c260 => ?_)
            · simp only [if_neg c260] at hf
              refine lv_iload hx hb dL_office_268 (lv_at hl 8 rfl) ?_
              refine lv_iconst (v := 3) hx hb dL_office_270 (by decide) ?_
              refine lv_icmp_ne (tgt := 279) hx hb dL_office_271 (by decide) (fun c271 => ?_) (fun c271 => ?_)
              · simp only [if_neg c271] at hf
                refine lv_iload hx hb dL_office_279 (lv_at hl 8 rfl) ?_
                refine lv_iconst (v := 4) hx hb dL_office_281 (by decide) ?_
                refine lv_icmp_ne (tgt := 290) hx hb dL_office_282 (by decide) (fun c282 => ?_) (fun c282 => ?_)
                · simp only [if_neg c282] at hf
                  refine lv_bipush (v := 101) hx hb dL_office_290 (by decide) ?_
                  exact hb292 _ _ w ad_t th tx (upd d y1.toNatClampNeg y2) x2 x3 x6 x7 x9 x6 (101 : Int32) hw hP hD hS _ (lv_sub hl [0, 1, 2, 3, 4, 5, 6, 7, 8] rfl) hf
                · simp only [if_pos c282] at hf
                  refine lv_bipush (v := 99) hx hb dL_office_285 (by decide) ?_
                  refine lv_goto (tgt := 292) hx hb dL_office_287 (by decide) ?_
                  exact hb292 _ _ w ad_t th tx (upd d y1.toNatClampNeg y2) x2 x3 x6 x7 x9 x6 (99 : Int32) hw hP hD hS _ (lv_sub hl [0, 1, 2, 3, 4, 5, 6, 7, 8] rfl) hf
              · simp only [if_pos c271] at hf
                refine lv_bipush (v := 97) hx hb dL_office_274 (by decide) ?_
                refine lv_goto (tgt := 292) hx hb dL_office_276 (by decide) ?_
                exact hb292 _ _ w ad_t th tx (upd d y1.toNatClampNeg y2) x2 x3 x6 x7 x9 x6 (97 : Int32) hw hP hD hS _ (lv_sub hl [0, 1, 2, 3, 4, 5, 6, 7, 8] rfl) hf
            · simp only [if_pos c260] at hf
              refine lv_bipush (v := 112) hx hb dL_office_263 (by decide) ?_
              refine lv_goto (tgt := 292) hx hb dL_office_265 (by decide) ?_
              exact hb292 _ _ w ad_t th tx (upd d y1.toNatClampNeg y2) x2 x3 x6 x7 x9 x6 (112 : Int32) hw hP hD hS _ (lv_sub hl [0, 1, 2, 3, 4, 5, 6, 7, 8] rfl) hf
          · simp only [if_pos c249] at hf
            refine lv_bipush (v := 113) hx hb dL_office_252 (by decide) ?_
            refine lv_goto (tgt := 292) hx hb dL_office_254 (by decide) ?_
            exact hb292 _ _ w ad_t th tx (upd d y1.toNatClampNeg y2) x2 x3 x6 x7 x9 x6 (113 : Int32) hw hP hD hS _ (lv_sub hl [0, 1, 2, 3, 4, 5, 6, 7, 8] rfl) hf
        · simp only [if_pos c238] at hf
          refine lv_bipush (v := 104) hx hb dL_office_241 (by decide) ?_
          refine lv_goto (tgt := 292) hx hb dL_office_243 (by decide) ?_
          exact hb292 _ _ w ad_t th tx (upd d y1.toNatClampNeg y2) x2 x3 x6 x7 x9 x6 (104 : Int32) hw hP hD hS _ (lv_sub hl [0, 1, 2, 3, 4, 5, 6, 7, 8] rfl) hf
      have hb194 : ∀ (H : Heap) (locs : List Loc) (w : va_W) (ad_t : Nat) (th : TH) (tx : (Nat → Int32)) (d : (Nat → Int32)) (x2 : Int32) (x3 : Int32) (x6 : Int32) (x7 : Int32) (x8 : Int32) (x9 : Int32) (x10 : Int32) (y1 : Int32) (y2 : Int32), Ob cI cJ cR ad_o th w → va_P D vwCl ([(ad_t, .inl (cI, 60, .inl tx)), (ad_d, .inl (cI, 54, .inl d))] ++ w) H → va_D A ([(ad_t, .inl (cI, 60, .inl tx)), (ad_d, .inl (cI, 54, .inl d))] ++ w) → va_S A s.heap H locs → ∀ ls : Array Slot, lv_has ls 12 [(0, .ref ad_o), (1, .ref bs), (2, .int x2), (3, .int x3), (4, .ref ad_d), (5, .ref ad_t), (6, .int x6), (7, .int x7), (8, .int x8), (9, .int x9), (10, .int x10)] → (f_L_office_b194 N L xs (f_L_office_b12 N L xs (f_L_office_b360 N L xs) n12) (f_L_office_b360 N L xs)) th tx d x2 x3 x6 x7 x8 x9 x10 y1 y2 = some o → W p l e rm_L_office s m args below meth c H locs 1 60 Q (F0 m 194 ls [.int y2, .int y1, .ref ad_d]) := by
        intro H locs w ad_t th tx d x2 x3 x6 x7 x8 x9 x10 y1 y2 hw hP hD hS ls hl hf
        unfold f_L_office_b194 at hf
        obtain ⟨hg194_1, hf⟩ := gd_s hf
        refine kiast hX hP hD hS rfl (q0 := 1) rfl (inb_in hg194_1) dL_office_194 (fun H locs hP hD hS => ?_)
        have hP : va_P D vwCl ([(ad_t, .inl (cI, 60, .inl tx)), (ad_d, .inl (cI, 54, .inl (upd d y1.toNatClampNeg y2)))] ++ w) H := hP
        have hD : va_D A ([(ad_t, .inl (cI, 60, .inl tx)), (ad_d, .inl (cI, 54, .inl (upd d y1.toNatClampNeg y2)))] ++ w) := hD
        refine lv_aload hx hb dL_office_195 (lv_at hl 4 rfl) ?_
        refine lv_bipush (v := 6) hx hb dL_office_197 (by decide) ?_
        refine lv_iload hx hb dL_office_199 (lv_at hl 7 rfl) ?_
        refine lv_imul hx hb dL_office_201 ?_
        refine lv_iconst (v := 5) hx hb dL_office_202 (by decide) ?_
        refine lv_iadd hx hb dL_office_203 ?_
        refine lv_iload hx hb dL_office_204 (lv_at hl 9 rfl) ?_
        refine lv_iconst (v := 3) hx hb dL_office_206 (by decide) ?_
        refine lv_icmp_ne (tgt := 229) hx hb dL_office_207 (by decide) (fun c207 => ?_) (fun c207 => ?_)
        · replace hf := iq c207 hf
          refine lv_bipush (v := -9) hx hb dL_office_229 (by decide) ?_
          exact hb231 _ _ w ad_t th tx (upd d y1.toNatClampNeg y2) x2 x3 x6 x7 x9 (((6 : Int32) * x7) + (5 : Int32)) (-9 : Int32) hw hP hD hS _ (lv_sub hl [0, 1, 2, 3, 4, 5, 6, 7, 9] rfl) hf
        · replace hf := ip c207 hf
          refine lv_iload hx hb dL_office_210 (lv_at hl 10 rfl) ?_
          refine lv_iload hx hb dL_office_212 (lv_at hl 8 rfl) ?_
          refine lv_bipush (v := 18) hx hb dL_office_214 (by decide) ?_
          refine lv_ishr hx hb dL_office_216 ?_
          refine lv_bipush (v := 10) hx hb dL_office_217 (by decide) ?_
          refine lv_iload hx hb dL_office_219 (lv_at hl 10 rfl) ?_
          refine lv_isub hx hb dL_office_221 ?_
          obtain ⟨z222_2, hz222_2, hf⟩ := bn_s hf
          refine kSi (rest := [.int x10, .int (((6 : Int32) * x7) + (5 : Int32)), .ref ad_d]) hX (c_L_low l D cI cJ cR N (x8 >>> ((18 : Int32) &&& 31)) ((10 : Int32) - x10) hz222_2) kc_L_low wd935 ⟨Nat.le_of_ble_eq_true rfl, Nat.le_of_ble_eq_true rfl⟩ ⟨rfl, rfl⟩ hP hD hS [] rfl (by decide) (fun w h => by cases h; rfl) rfl rfl (Nat.le_of_ble_eq_true rfl) hl.1 ⟨Nat.le_of_ble_eq_true rfl, Nat.le_of_ble_eq_true rfl⟩ dL_office_222 (fun H locs w1 hw1 hP hD hS => ?_)
          cases hw1
          have hP : va_P D vwCl ([(ad_t, .inl (cI, 60, .inl tx)), (ad_d, .inl (cI, 54, .inl (upd d y1.toNatClampNeg y2)))] ++ w) H := hP
          have hD : va_D A ([(ad_t, .inl (cI, 60, .inl tx)), (ad_d, .inl (cI, 54, .inl (upd d y1.toNatClampNeg y2)))] ++ w) := hD
          refine lv_iadd hx hb dL_office_225 ?_
          refine lv_goto (tgt := 231) hx hb dL_office_226 (by decide) ?_
          exact hb231 _ _ w ad_t th tx (upd d y1.toNatClampNeg y2) x2 x3 x6 x7 x9 (((6 : Int32) * x7) + (5 : Int32)) (x10 + z222_2) hw hP hD hS _ (lv_sub hl [0, 1, 2, 3, 4, 5, 6, 7, 9] rfl) hf
      have hb135 : ∀ (H : Heap) (locs : List Loc) (w : va_W) (ad_t : Nat) (th : TH) (tx : (Nat → Int32)) (d : (Nat → Int32)) (x2 : Int32) (x3 : Int32) (x6 : Int32) (x7 : Int32) (x8 : Int32) (x9 : Int32) (y1 : Int32) (y2 : Int32) (y3 : Int32), Ob cI cJ cR ad_o th w → va_P D vwCl ([(ad_t, .inl (cI, 60, .inl tx)), (ad_d, .inl (cI, 54, .inl d))] ++ w) H → va_D A ([(ad_t, .inl (cI, 60, .inl tx)), (ad_d, .inl (cI, 54, .inl d))] ++ w) → va_S A s.heap H locs → ∀ ls : Array Slot, lv_has ls 12 [(0, .ref ad_o), (1, .ref bs), (2, .int x2), (3, .int x3), (4, .ref ad_d), (5, .ref ad_t), (6, .int x6), (7, .int x7), (8, .int x8), (9, .int x9)] → (f_L_office_b135 N L xs (f_L_office_b12 N L xs (f_L_office_b360 N L xs) n12) (f_L_office_b360 N L xs)) th tx d x2 x3 x6 x7 x8 x9 y1 y2 y3 = some o → W p l e rm_L_office s m args below meth c H locs 1 60 Q (F0 m 135 ls [.int y3, .int y2, .int y1, .ref ad_d]) := by
        intro H locs w ad_t th tx d x2 x3 x6 x7 x8 x9 y1 y2 y3 hw hP hD hS ls hl hf
        unfold f_L_office_b135 at hf
        obtain ⟨z135_1, hz135_1, hf⟩ := bn_s hf
        refine kSi (rest := [.int y1, .ref ad_d]) hX (c_L_low l D cI cJ cR N y2 y3 hz135_1) kc_L_low wd935 ⟨Nat.le_of_ble_eq_true rfl, Nat.le_of_ble_eq_true rfl⟩ ⟨rfl, rfl⟩ hP hD hS [] rfl (by decide) (fun w h => by cases h; rfl) rfl rfl (Nat.le_of_ble_eq_true rfl) hl.1 ⟨Nat.le_of_ble_eq_true rfl, Nat.le_of_ble_eq_true rfl⟩ dL_office_135 (fun H locs w1 hw1 hP hD hS => ?_)
        cases hw1
        have hP : va_P D vwCl ([(ad_t, .inl (cI, 60, .inl tx)), (ad_d, .inl (cI, 54, .inl d))] ++ w) H := hP
        have hD : va_D A ([(ad_t, .inl (cI, 60, .inl tx)), (ad_d, .inl (cI, 54, .inl d))] ++ w) := hD
        obtain ⟨hg138_2, hf⟩ := gd_s hf
        refine kiast hX hP hD hS rfl (q0 := 1) rfl (inb_in hg138_2) dL_office_138 (fun H locs hP hD hS => ?_)
        have hP : va_P D vwCl ([(ad_t, .inl (cI, 60, .inl tx)), (ad_d, .inl (cI, 54, .inl (upd d y1.toNatClampNeg z135_1)))] ++ w) H := hP
        have hD : va_D A ([(ad_t, .inl (cI, 60, .inl tx)), (ad_d, .inl (cI, 54, .inl (upd d y1.toNatClampNeg z135_1)))] ++ w) := hD
        refine lv_iload hx hb dL_office_139 (lv_at hl 8 rfl) ?_
        refine lv_bipush (v := 14) hx hb dL_office_141 (by decide) ?_
        refine lv_ishr hx hb dL_office_143 ?_
        refine lv_bipush (v := 6) hx hb dL_office_144 (by decide) ?_
        obtain ⟨z146_3, hz146_3, hf⟩ := bn_s hf
        refine kSi (rest := []) hX (c_L_low l D cI cJ cR N (x8 >>> ((14 : Int32) &&& 31)) (6 : Int32) hz146_3) kc_L_low wd935 ⟨Nat.le_of_ble_eq_true rfl, Nat.le_of_ble_eq_true rfl⟩ ⟨rfl, rfl⟩ hP hD hS [] rfl (by decide) (fun w h => by cases h; rfl) rfl rfl (Nat.le_of_ble_eq_true rfl) hl.1 ⟨Nat.le_of_ble_eq_true rfl, Nat.le_of_ble_eq_true rfl⟩ dL_office_146 (fun H locs w1 hw1 hP hD hS => ?_)
        cases hw1
        have hP : va_P D vwCl ([(ad_t, .inl (cI, 60, .inl tx)), (ad_d, .inl (cI, 54, .inl (upd d y1.toNatClampNeg z135_1)))] ++ w) H := hP
        have hD : va_D A ([(ad_t, .inl (cI, 60, .inl tx)), (ad_d, .inl (cI, 54, .inl (upd d y1.toNatClampNeg z135_1)))] ++ w) := hD
        refine lv_istore (lv' := [(10, .int z146_3), (0, .ref ad_o), (1, .ref bs), (2, .int x2), (3, .int x3), (4, .ref ad_d), (5, .ref ad_t), (6, .int x6), (7, .int x7), (8, .int x8), (9, .int x9)]) hx hb dL_office_149 hl (by decide) rfl (fun ls hl => ?_)
        refine lv_aload hx hb dL_office_151 (lv_at hl 5 rfl) ?_
        refine lv_bipush (v := 6) hx hb dL_office_153 (by decide) ?_
        refine lv_iload hx hb dL_office_155 (lv_at hl 8 rfl) ?_
        refine lv_imul hx hb dL_office_157 ?_
        refine lv_iconst (v := 4) hx hb dL_office_158 (by decide) ?_
        refine lv_iadd hx hb dL_office_159 ?_
        refine lv_iload hx hb dL_office_160 (lv_at hl 10 rfl) ?_
        refine lv_iconst (v := 2) hx hb dL_office_162 (by decide) ?_
        refine lv_icmp_ne (tgt := 181) hx hb dL_office_163 (by decide) (fun c163 => ?_) (fun c163 => ?_)
        · replace hf := iq c163 hf
          refine lv_iload hx hb dL_office_181 (lv_at hl 10 rfl) ?_
          refine lv_iconst (v := 3) hx hb dL_office_183 (by decide) ?_
          refine lv_icmp_ne (tgt := 192) hx hb dL_office_184 (by decide) (fun c184 => ?_) (fun c184 => ?_)
          · simp only [if_neg c184] at hf
            refine lv_bipush (v := -9) hx hb dL_office_192 (by decide) ?_
            exact hb194 _ _ w ad_t th tx (upd d y1.toNatClampNeg z135_1) x2 x3 x6 x7 x8 x9 z146_3 (((6 : Int32) * x7) + (4 : Int32)) (-9 : Int32) hw hP hD hS _ (lv_sub hl [1, 2, 3, 4, 5, 6, 7, 8, 9, 10, 0] rfl) hf
          · simp only [if_pos c184] at hf
            refine lv_iload hx hb dL_office_187 (lv_at hl 0 rfl) ?_
            refine lv_goto (tgt := 194) hx hb dL_office_189 (by decide) ?_
            exact hb194 _ _ w ad_t th tx (upd d y1.toNatClampNeg z135_1) x2 x3 x6 x7 x8 x9 z146_3 (((6 : Int32) * x7) + (4 : Int32)) z146_3 hw hP hD hS _ (lv_sub hl [1, 2, 3, 4, 5, 6, 7, 8, 9, 10, 0] rfl) hf
        · replace hf := ip c163 hf
          refine lv_iconst (v := 1) hx hb dL_office_166 (by decide) ?_
          refine lv_iload hx hb dL_office_167 (lv_at hl 9 rfl) ?_
          refine lv_bipush (v := 14) hx hb dL_office_169 (by decide) ?_
          refine lv_ishr hx hb dL_office_171 ?_
          refine lv_bipush (v := 9) hx hb dL_office_172 (by decide) ?_
          obtain ⟨z174_4, hz174_4, hf⟩ := bn_s hf
          refine kSi (rest := [.int (1 : Int32), .int (((6 : Int32) * x7) + (4 : Int32)), .ref ad_d]) hX (c_L_low l D cI cJ cR N (x8 >>> ((14 : Int32) &&& 31)) (9 : Int32) hz174_4) kc_L_low wd935 ⟨Nat.le_of_ble_eq_true rfl, Nat.le_of_ble_eq_true rfl⟩ ⟨rfl, rfl⟩ hP hD hS [] rfl (by decide) (fun w h => by cases h; rfl) rfl rfl (Nat.le_of_ble_eq_true rfl) hl.1 ⟨Nat.le_of_ble_eq_true rfl, Nat.le_of_ble_eq_true rfl⟩ dL_office_174 (fun H locs w1 hw1 hP hD hS => ?_)
          cases hw1
          have hP : va_P D vwCl ([(ad_t, .inl (cI, 60, .inl tx)), (ad_d, .inl (cI, 54, .inl (upd d y1.toNatClampNeg z135_1)))] ++ w) H := hP
          have hD : va_D A ([(ad_t, .inl (cI, 60, .inl tx)), (ad_d, .inl (cI, 54, .inl (upd d y1.toNatClampNeg z135_1)))] ++ w) := hD
          refine lv_iadd hx hb dL_office_177 ?_
          refine lv_goto (tgt := 194) hx hb dL_office_178 (by decide) ?_
          exact hb194 _ _ w ad_t th tx (upd d y1.toNatClampNeg z135_1) x2 x3 x6 x7 x8 x9 z146_3 (((6 : Int32) * x7) + (4 : Int32)) ((1 : Int32) + z174_4) hw hP hD hS _ (lv_sub hl [1, 2, 3, 4, 5, 6, 7, 8, 9, 10, 0] rfl) hf
      have hb52 : ∀ (H : Heap) (locs : List Loc) (w : va_W) (ad_t : Nat) (th : TH) (tx : (Nat → Int32)) (d : (Nat → Int32)) (x2 : Int32) (x3 : Int32) (x6 : Int32) (x7 : Int32) (x8 : Int32) (y0 : Int32), Ob cI cJ cR ad_o th w → va_P D vwCl ([(ad_t, .inl (cI, 60, .inl tx)), (ad_d, .inl (cI, 54, .inl d))] ++ w) H → va_D A ([(ad_t, .inl (cI, 60, .inl tx)), (ad_d, .inl (cI, 54, .inl d))] ++ w) → va_S A s.heap H locs → ∀ ls : Array Slot, lv_has ls 12 [(0, .ref ad_o), (1, .ref bs), (2, .int x2), (3, .int x3), (4, .ref ad_d), (5, .ref ad_t), (6, .int x6), (7, .int x7), (8, .int x8)] → (f_L_office_b52 N L xs (f_L_office_b12 N L xs (f_L_office_b360 N L xs) n12) (f_L_office_b360 N L xs)) th tx d x2 x3 x6 x7 x8 y0 = some o → W p l e rm_L_office s m args below meth c H locs 1 60 Q (F0 m 52 ls [.int y0]) := by
        intro H locs w ad_t th tx d x2 x3 x6 x7 x8 y0 hw hP hD hS ls hl hf
        unfold f_L_office_b52 at hf
        refine lv_istore (lv' := [(9, .int y0), (0, .ref ad_o), (1, .ref bs), (2, .int x2), (3, .int x3), (4, .ref ad_d), (5, .ref ad_t), (6, .int x6), (7, .int x7), (8, .int x8)]) hx hb dL_office_52 hl (by decide) rfl (fun ls hl => ?_)
        refine lv_aload hx hb dL_office_54 (lv_at hl 5 rfl) ?_
        refine lv_bipush (v := 6) hx hb dL_office_56 (by decide) ?_
        refine lv_iload hx hb dL_office_58 (lv_at hl 8 rfl) ?_
        refine lv_imul hx hb dL_office_60 ?_
        refine lv_iload hx hb dL_office_61 (lv_at hl 0 rfl) ?_
        obtain ⟨hg63_1, hf⟩ := gd_s hf
        refine kiast hX hP hD hS rfl (q0 := 1) rfl (inb_in hg63_1) dL_office_63 (fun H locs hP hD hS => ?_)
        have hP : va_P D vwCl ([(ad_t, .inl (cI, 60, .inl tx)), (ad_d, .inl (cI, 54, .inl (upd d ((6 : Int32) * x7).toNatClampNeg y0)))] ++ w) H := hP
        have hD : va_D A ([(ad_t, .inl (cI, 60, .inl tx)), (ad_d, .inl (cI, 54, .inl (upd d ((6 : Int32) * x7).toNatClampNeg y0)))] ++ w) := hD
        refine lv_aload hx hb dL_office_64 (lv_at hl 5 rfl) ?_
        refine lv_bipush (v := 6) hx hb dL_office_66 (by decide) ?_
        refine lv_iload hx hb dL_office_68 (lv_at hl 8 rfl) ?_
        refine lv_imul hx hb dL_office_70 ?_
        refine lv_iconst (v := 1) hx hb dL_office_71 (by decide) ?_
        refine lv_iadd hx hb dL_office_72 ?_
        refine lv_iload hx hb dL_office_73 (lv_at hl 9 rfl) ?_
        refine lv_iconst (v := 3) hx hb dL_office_75 (by decide) ?_
        refine lv_ishr hx hb dL_office_76 ?_
        refine lv_bipush (v := 10) hx hb dL_office_77 (by decide) ?_
        obtain ⟨z79_2, hz79_2, hf⟩ := bn_s hf
        refine kSi (rest := [.int (((6 : Int32) * x7) + (1 : Int32)), .ref ad_d]) hX (c_L_low l D cI cJ cR N (x8 >>> ((3 : Int32) &&& 31)) (10 : Int32) hz79_2) kc_L_low wd935 ⟨Nat.le_of_ble_eq_true rfl, Nat.le_of_ble_eq_true rfl⟩ ⟨rfl, rfl⟩ hP hD hS [] rfl (by decide) (fun w h => by cases h; rfl) rfl rfl (Nat.le_of_ble_eq_true rfl) hl.1 ⟨Nat.le_of_ble_eq_true rfl, Nat.le_of_ble_eq_true rfl⟩ dL_office_79 (fun H locs w1 hw1 hP hD hS => ?_)
        cases hw1
        have hP : va_P D vwCl ([(ad_t, .inl (cI, 60, .inl tx)), (ad_d, .inl (cI, 54, .inl (upd d ((6 : Int32) * x7).toNatClampNeg y0)))] ++ w) H := hP
        have hD : va_D A ([(ad_t, .inl (cI, 60, .inl tx)), (ad_d, .inl (cI, 54, .inl (upd d ((6 : Int32) * x7).toNatClampNeg y0)))] ++ w) := hD
        obtain ⟨hg82_3, hf⟩ := gd_s hf
        refine kiast hX hP hD hS rfl (q0 := 1) rfl (inb_in hg82_3) dL_office_82 (fun H locs hP hD hS => ?_)
        have hP : va_P D vwCl ([(ad_t, .inl (cI, 60, .inl tx)), (ad_d, .inl (cI, 54, .inl (upd (upd d ((6 : Int32) * x7).toNatClampNeg y0) (((6 : Int32) * x7) + (1 : Int32)).toNatClampNeg z79_2)))] ++ w) H := hP
        have hD : va_D A ([(ad_t, .inl (cI, 60, .inl tx)), (ad_d, .inl (cI, 54, .inl (upd (upd d ((6 : Int32) * x7).toNatClampNeg y0) (((6 : Int32) * x7) + (1 : Int32)).toNatClampNeg z79_2)))] ++ w) := hD
        refine lv_aload hx hb dL_office_83 (lv_at hl 5 rfl) ?_
        refine lv_bipush (v := 6) hx hb dL_office_85 (by decide) ?_
        refine lv_iload hx hb dL_office_87 (lv_at hl 8 rfl) ?_
        refine lv_imul hx hb dL_office_89 ?_
        refine lv_iconst (v := 2) hx hb dL_office_90 (by decide) ?_
        refine lv_iadd hx hb dL_office_91 ?_
        refine lv_iload hx hb dL_office_92 (lv_at hl 9 rfl) ?_
        refine lv_bipush (v := 7) hx hb dL_office_94 (by decide) ?_
        refine lv_ishr hx hb dL_office_96 ?_
        refine lv_bipush (v := 10) hx hb dL_office_97 (by decide) ?_
        obtain ⟨z99_4, hz99_4, hf⟩ := bn_s hf
        refine kSi (rest := [.int (((6 : Int32) * x7) + (2 : Int32)), .ref ad_d]) hX (c_L_low l D cI cJ cR N (x8 >>> ((7 : Int32) &&& 31)) (10 : Int32) hz99_4) kc_L_low wd935 ⟨Nat.le_of_ble_eq_true rfl, Nat.le_of_ble_eq_true rfl⟩ ⟨rfl, rfl⟩ hP hD hS [] rfl (by decide) (fun w h => by cases h; rfl) rfl rfl (Nat.le_of_ble_eq_true rfl) hl.1 ⟨Nat.le_of_ble_eq_true rfl, Nat.le_of_ble_eq_true rfl⟩ dL_office_99 (fun H locs w1 hw1 hP hD hS => ?_)
        cases hw1
        have hP : va_P D vwCl ([(ad_t, .inl (cI, 60, .inl tx)), (ad_d, .inl (cI, 54, .inl (upd (upd d ((6 : Int32) * x7).toNatClampNeg y0) (((6 : Int32) * x7) + (1 : Int32)).toNatClampNeg z79_2)))] ++ w) H := hP
        have hD : va_D A ([(ad_t, .inl (cI, 60, .inl tx)), (ad_d, .inl (cI, 54, .inl (upd (upd d ((6 : Int32) * x7).toNatClampNeg y0) (((6 : Int32) * x7) + (1 : Int32)).toNatClampNeg z79_2)))] ++ w) := hD
        obtain ⟨hg102_5, hf⟩ := gd_s hf
        refine kiast hX hP hD hS rfl (q0 := 1) rfl (inb_in hg102_5) dL_office_102 (fun H locs hP hD hS => ?_)
        have hP : va_P D vwCl ([(ad_t, .inl (cI, 60, .inl tx)), (ad_d, .inl (cI, 54, .inl (upd (upd (upd d ((6 : Int32) * x7).toNatClampNeg y0) (((6 : Int32) * x7) + (1 : Int32)).toNatClampNeg z79_2) (((6 : Int32) * x7) + (2 : Int32)).toNatClampNeg z99_4)))] ++ w) H := hP
        have hD : va_D A ([(ad_t, .inl (cI, 60, .inl tx)), (ad_d, .inl (cI, 54, .inl (upd (upd (upd d ((6 : Int32) * x7).toNatClampNeg y0) (((6 : Int32) * x7) + (1 : Int32)).toNatClampNeg z79_2) (((6 : Int32) * x7) + (2 : Int32)).toNatClampNeg z99_4)))] ++ w) := hD
        refine lv_aload hx hb dL_office_103 (lv_at hl 5 rfl) ?_
        refine lv_bipush (v := 6) hx hb dL_office_105 (by decide) ?_
        refine lv_iload hx hb dL_office_107 (lv_at hl 8 rfl) ?_
        refine lv_imul hx hb dL_office_109 ?_
        refine lv_iconst (v := 3) hx hb dL_office_110 (by decide) ?_
        refine lv_iadd hx hb dL_office_111 ?_
        refine lv_iload hx hb dL_office_112 (lv_at hl 9 rfl) ?_
        refine lv_bipush (v := 11) hx hb dL_office_114 (by decide) ?_
        refine lv_ishr hx hb dL_office_116 ?_
        refine lv_iload hx hb dL_office_117 (lv_at hl 9 rfl) ?_
        refine lv_bipush (v := 24) hx hb dL_office_119 (by decide) ?_
        refine lv_ishr hx hb dL_office_121 ?_
        refine lv_iconst (v := 2) hx hb dL_office_122 (by decide) ?_
        obtain ⟨z123_6, hz123_6, hf⟩ := bn_s hf
        refine kSi (rest := [.int (x8 >>> ((11 : Int32) &&& 31)), .int (((6 : Int32) * x7) + (3 : Int32)), .ref ad_d]) hX (c_L_low l D cI cJ cR N (x8 >>> ((24 : Int32) &&& 31)) (2 : Int32) hz123_6) kc_L_low wd935 ⟨Nat.le_of_ble_eq_true rfl, Nat.le_of_ble_eq_true rfl⟩ ⟨rfl, rfl⟩ hP hD hS [] rfl (by decide) (fun w h => by cases h; rfl) rfl rfl (Nat.le_of_ble_eq_true rfl) hl.1 ⟨Nat.le_of_ble_eq_true rfl, Nat.le_of_ble_eq_true rfl⟩ dL_office_123 (fun H locs w1 hw1 hP hD hS => ?_)
        cases hw1
        have hP : va_P D vwCl ([(ad_t, .inl (cI, 60, .inl tx)), (ad_d, .inl (cI, 54, .inl (upd (upd (upd d ((6 : Int32) * x7).toNatClampNeg y0) (((6 : Int32) * x7) + (1 : Int32)).toNatClampNeg z79_2) (((6 : Int32) * x7) + (2 : Int32)).toNatClampNeg z99_4)))] ++ w) H := hP
        have hD : va_D A ([(ad_t, .inl (cI, 60, .inl tx)), (ad_d, .inl (cI, 54, .inl (upd (upd (upd d ((6 : Int32) * x7).toNatClampNeg y0) (((6 : Int32) * x7) + (1 : Int32)).toNatClampNeg z79_2) (((6 : Int32) * x7) + (2 : Int32)).toNatClampNeg z99_4)))] ++ w) := hD
        refine lv_if_ne (tgt := 133) hx hb dL_office_126 (by decide) (fun c126 => ?_) (fun c126 => ?_)
        · simp only [if_neg c126] at hf
          refine lv_bipush (v := 10) hx hb dL_office_133 (by decide) ?_
          exact hb135 _ _ w ad_t th tx (upd (upd (upd d ((6 : Int32) * x7).toNatClampNeg y0) (((6 : Int32) * x7) + (1 : Int32)).toNatClampNeg z79_2) (((6 : Int32) * x7) + (2 : Int32)).toNatClampNeg z99_4) x2 x3 x6 x7 x8 y0 (((6 : Int32) * x7) + (3 : Int32)) (x8 >>> ((11 : Int32) &&& 31)) (10 : Int32) hw hP hD hS _ (lv_sub hl [1, 2, 3, 4, 5, 6, 7, 8, 9, 0] rfl) hf
        · simp only [if_pos c126] at hf
          refine lv_iconst (v := 3) hx hb dL_office_129 (by decide) ?_
          refine lv_goto (tgt := 135) hx hb dL_office_130 (by decide) ?_
          exact hb135 _ _ w ad_t th tx (upd (upd (upd d ((6 : Int32) * x7).toNatClampNeg y0) (((6 : Int32) * x7) + (1 : Int32)).toNatClampNeg z79_2) (((6 : Int32) * x7) + (2 : Int32)).toNatClampNeg z99_4) x2 x3 x6 x7 x8 y0 (((6 : Int32) * x7) + (3 : Int32)) (x8 >>> ((11 : Int32) &&& 31)) (3 : Int32) hw hP hD hS _ (lv_sub hl [1, 2, 3, 4, 5, 6, 7, 8, 9, 0] rfl) hf
      intro H locs w ad_t th tx d x2 x3 x6 x7 hw hP hD hS ls hl hf
      rw [f_L_office_b12] at hf
      refine lv_iload hx hb dL_office_12 (lv_at hl 7 rfl) ?_
      refine lv_iload_n hx hb dL_office_14 rfl (lv_at hl 3 rfl) ?_
      refine lv_icmp_ge (tgt := 360) hx hb dL_office_15 (by decide) (fun c15 => ?_) (fun c15 => ?_)
      · replace hf := ip c15 hf
        exact hb360 _ _ w ad_t th tx d x3 x6 hw hP hD hS _ (lv_sub hl [0, 3, 5, 6] rfl) hf
      · replace hf := iq c15 hf
        refine lv_aload_n hx hb dL_office_18 rfl (lv_at hl 1 rfl) ?_
        refine lv_iload_n hx hb dL_office_19 rfl (lv_at hl 2 rfl) ?_
        refine lv_iload hx hb dL_office_20 (lv_at hl 7 rfl) ?_
        refine lv_iadd hx hb dL_office_22 ?_
        obtain ⟨hk23_1, hf⟩ := gd_s hf
        refine q_cell (rest := []) hX hsc hk23_1 hL wd939 ⟨Nat.le_of_ble_eq_true rfl, Nat.le_of_ble_eq_true rfl⟩ hP hD hS rfl (Nat.le_of_ble_eq_true rfl) hl.1 ⟨Nat.le_of_ble_eq_true rfl, Nat.le_of_ble_eq_true rfl⟩ dL_office_23 (fun H locs hP hD hS => ?_)
        refine lv_topi (fun v26 ev26 => ?_)
        replace hf := nm_s ev26 hf
        refine lv_istore (lv' := [(8, .int v26), (0, .ref ad_o), (1, .ref bs), (2, .int x2), (3, .int x3), (4, .ref ad_d), (5, .ref ad_t), (6, .int x6), (7, .int x7)]) hx hb dL_office_26 hl (by decide) rfl (fun ls hl => ?_)
        refine lv_iload hx hb dL_office_28 (lv_at hl 0 rfl) ?_
        refine lv_bipush (v := 8) hx hb dL_office_30 (by decide) ?_
        obtain ⟨z32_2, hz32_2, hf⟩ := bn_s hf
        refine kSi (rest := []) hX (c_L_low l D cI cJ cR N v26 (8 : Int32) hz32_2) kc_L_low wd935 ⟨Nat.le_of_ble_eq_true rfl, Nat.le_of_ble_eq_true rfl⟩ ⟨rfl, rfl⟩ hP hD hS [] rfl (by decide) (fun w h => by cases h; rfl) rfl rfl (Nat.le_of_ble_eq_true rfl) hl.1 ⟨Nat.le_of_ble_eq_true rfl, Nat.le_of_ble_eq_true rfl⟩ dL_office_32 (fun H locs w1 hw1 hP hD hS => ?_)
        cases hw1
        have hP : va_P D vwCl ([(ad_t, .inl (cI, 60, .inl tx)), (ad_d, .inl (cI, 54, .inl d))] ++ w) H := hP
        have hD : va_D A ([(ad_t, .inl (cI, 60, .inl tx)), (ad_d, .inl (cI, 54, .inl d))] ++ w) := hD
        refine lv_iconst (v := 2) hx hb dL_office_35 (by decide) ?_
        refine lv_icmp_ge (tgt := 43) hx hb dL_office_36 (by decide) (fun c36 => ?_) (fun c36 => ?_)
        · replace hf := ip c36 hf
          refine lv_iload hx hb dL_office_43 (lv_at hl 0 rfl) ?_
          refine lv_bipush (v := 8) hx hb dL_office_45 (by decide) ?_
          obtain ⟨z47_3, hz47_3, hf⟩ := bn_s hf
          refine kSi (rest := []) hX (c_L_low l D cI cJ cR N v26 (8 : Int32) hz47_3) kc_L_low wd935 ⟨Nat.le_of_ble_eq_true rfl, Nat.le_of_ble_eq_true rfl⟩ ⟨rfl, rfl⟩ hP hD hS [] rfl (by decide) (fun w h => by cases h; rfl) rfl rfl (Nat.le_of_ble_eq_true rfl) hl.1 ⟨Nat.le_of_ble_eq_true rfl, Nat.le_of_ble_eq_true rfl⟩ dL_office_47 (fun H locs w1 hw1 hP hD hS => ?_)
          cases hw1
          have hP : va_P D vwCl ([(ad_t, .inl (cI, 60, .inl tx)), (ad_d, .inl (cI, 54, .inl d))] ++ w) H := hP
          have hD : va_D A ([(ad_t, .inl (cI, 60, .inl tx)), (ad_d, .inl (cI, 54, .inl d))] ++ w) := hD
          refine lv_iconst (v := 2) hx hb dL_office_50 (by decide) ?_
          refine lv_isub hx hb dL_office_51 ?_
          exact hb52 _ _ w ad_t th tx d x2 x3 x6 x7 v26 (z47_3 - (2 : Int32)) hw hP hD hS _ (lv_sub hl [1, 2, 3, 4, 5, 6, 7, 8, 0] rfl) hf
        · replace hf := iq c36 hf
          refine lv_iconst (v := 0) hx hb dL_office_39 (by decide) ?_
          refine lv_goto (tgt := 52) hx hb dL_office_40 (by decide) ?_
          exact hb52 _ _ w ad_t th tx d x2 x3 x6 x7 v26 (0 : Int32) hw hP hD hS _ (lv_sub hl [1, 2, 3, 4, 5, 6, 7, 8, 0] rfl) hf
  unfold f_L_office at hf
  refine lv_bipush (v := 60) hx hb dL_office_0 (by decide) ?_
  refine knewi (N' := 60) hX hP hD hS wd59 (by decide) (by decide +kernel) (Nat.le_of_ble_eq_true rfl) (Nat.le_of_ble_eq_true rfl) (Nat.le_of_ble_eq_true rfl) dL_office_2 (fun ad_t H hP hD hS => ?_)
  replace hP := kcommP hP
  replace hD := kcommD hD
  have hP : va_P D vwCl ([(ad_t, .inl (cI, 60, .inl (fun _ => 0))), (ad_d, .inl (cI, 54, .inl d))] ++ w) H := hP
  have hD : va_D A ([(ad_t, .inl (cI, 60, .inl (fun _ => 0))), (ad_d, .inl (cI, 54, .inl d))] ++ w) := hD
  refine lv_astore (lv' := [(5, .ref ad_t), (0, .ref ad_o), (1, .ref bs), (2, .int x2), (3, .int x3), (4, .ref ad_d)]) hx hb dL_office_4 hl (by decide) rfl (fun ls hl => ?_)
  refine lv_iconst (v := 0) hx hb dL_office_6 (by decide) ?_
  refine lv_istore (lv' := [(6, .int (0 : Int32)), (5, .ref ad_t), (0, .ref ad_o), (1, .ref bs), (2, .int x2), (3, .int x3), (4, .ref ad_d)]) hx hb dL_office_7 hl (by decide) rfl (fun ls hl => ?_)
  refine lv_iconst (v := 0) hx hb dL_office_9 (by decide) ?_
  refine lv_istore (lv' := [(7, .int (0 : Int32)), (6, .int (0 : Int32)), (5, .ref ad_t), (0, .ref ad_o), (1, .ref bs), (2, .int x2), (3, .int x3), (4, .ref ad_d)]) hx hb dL_office_10 hl (by decide) rfl (fun ls hl => ?_)
  exact hb12 N _ _ w ad_t th (fun _ => 0) d x2 x3 (0 : Int32) (0 : Int32) hw hP hD hS _ (lv_sub hl [3, 4, 5, 6, 7, 2, 1, 0] rfl) hf
theorem q_lof {p : Program} {l : Launch} {e : Env} {R : Room} {s : State} {m : MethodId} {args : Array Value} {below : List Frame} {meth : Method} {c : Code} {H : Heap} {locs : List Loc} {cells slots : Nat} {Q : State → Prop} {D : va_G} {cI cJ cR : ClassId} {A : Nat → Prop} {cc : ByteArray} {nL pc idx ad_o ad_d : Nat} {Ts : List Cond} {own : String} {ls : Array Slot} {rest st0 : List Value} {w : va_W} {th : TH} {d : Nat → Int32} {N bs L : Nat} {xs : Nat → Int32} {x2 x3 : Int32} {z : Int32 × TH × (Nat → Int32)} (hX : kX l D (kT cI cJ cR) A p m c cc nL s args Ts own) (hsc : kSc A bs L xs s) (hL : L < 2147483648) (hw : Ob cI cJ cR ad_o th w) (hf : f_L_office N L xs th d x2 x3 = some z) (hlink : Cond.methodLink own idx yL_office ∈ lw_ok) (hR : rm_L_office.frames + 1 ≤ R.frames ∧ 8 + (12 + 11) + rm_L_office.locals ≤ R.locals) (hP : va_P D vwCl ([(ad_d, .inl (cI, 54, .inl d))] ++ w) H) (hD : va_D A ([(ad_d, .inl (cI, 54, .inl d))] ++ w)) (hS : va_S A s.heap H locs) (hst : st0 = .ref ad_d :: .int x3 :: .int x2 :: .ref bs :: .ref ad_o :: rest) (hcat : (rest.map fun v => v.category).sum ≤ 8) (hsz : ls.size = nL) (hcs : cells + 1 ≤ R.cells ∧ slots + 60 ≤ R.slots) (hdg : decode cc pc = .ok (.invokestatic idx, 3))
    (kk : ∀ (H1 : Heap) (locs1 : List Loc) (w1 : va_W), Ob cI cJ cR ad_o z.2.1 w1 → va_P D vwCl ([(ad_d, .inl (cI, 54, .inl z.2.2))] ++ w1) H1 → va_D A ([(ad_d, .inl (cI, 54, .inl z.2.2))] ++ w1) → va_S A s.heap H1 locs1 → W p l e R s m args below meth c H1 locs1 (cells + 1) (slots + 60) Q (F0 m (pc + 3) ls (.int z.1 :: rest))) : W p l e R s m args below meth c H locs cells slots Q (F0 m pc ls st0) := by
  have h53 := Ob_len hw
  have hlen : ∀ w', (∃ w1, Ob cI cJ cR ad_o z.2.1 w1 ∧ w' = [(ad_d, .inl (cI, 54, .inl z.2.2))] ++ w1) → w'.length = (List.range ([(ad_d, (Sum.inl (cI, 54, .inl d) : va_E))] ++ w).length).length := by
    rintro w' ⟨w1, h1, rfl⟩
    simp [Ob_len h1, h53]
  refine kSs (rest := rest) hX hsc (c_L_office l D cI cJ cR bs N L xs hL ad_o ad_d th d x2 x3 w hw hf) kc_L_office hlink hR ⟨rfl, rfl⟩ hP hD hS (List.range ([(ad_d, (Sum.inl (cI, 54, .inl d) : va_E))] ++ w).length) (krange _) (va_nd_of List.nodup_range) hlen rfl hst hcat hsz hcs hdg (fun H locs w1 hw1 hP hD hS => ?_)
  have hl1 := hlen w1 hw1
  rw [List.length_range] at hl1
  rw [kset_all _ _ hl1] at hP hD
  obtain ⟨w2, h2, rfl⟩ := hw1
  exact kk H locs w2 h2 hP hD hS
