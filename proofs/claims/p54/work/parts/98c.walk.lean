/-! the walk of the law -/
set_option maxHeartbeats 20000000 in
set_option maxRecDepth 100000 in
theorem w_L_law {p : Program} {l : Launch} {e : Env} {s : State} {m : MethodId} {args : Array Value} {below : List Frame} {meth : Method} {c : Code} {Q : State → Prop} {D : va_G} {cI cJ cR : ClassId} {A : Nat → Prop} {Ts : List Cond} {bs N L ad_o : Nat} {xs : Nat → Int32} (hX : kX l D (kT cI cJ cR) A p m c cL_law 30 s args Ts RL) (hsc : kSc A bs L xs s) (hL : L < 2147483648) {o : Int32}
    (hRet : ∀ (v : Int32) (H : Heap) (locs : List Loc) (cells slots pc : Nat) (ls : Array Slot), cells ≤ 600000 → slots ≤ 7302250 → v = o → va_S A s.heap H locs → decode cL_law pc = .ok (.ireturn, 1) → W p l e room_1 s m args below meth c H locs cells slots Q (F0 m pc ls [.int v])) :
    ∀ (H : Heap) (locs : List Loc) (w : va_W) (th : TH), Ob cI cJ cR ad_o th w → va_P D vwCl ([] ++ w) H → va_D A ([] ++ w) → va_S A s.heap H locs → ∀ ls : Array Slot, lv_has ls 30 [(0, .ref bs), (1, .ref ad_o)] → f_L_law N L xs th = some o → W p l e room_1 s m args below meth c H locs 53 20147 Q (F0 m 8 ls []) := by
  have hx := hX.1.1
  have hb := hX.1.2.1
  have hown := hX.1.2.2.2.1
  have hts := hX.1.2.2.2.2
  have hb1471 : ∀ (H : Heap) (locs : List Loc) (w : va_W) (ad_p : Nat) (ad_d : Nat) (th : TH) (pu : (Nat → Int32)) (d : (Nat → Int32)), Ob cI cJ cR ad_o th w → va_P D vwCl ([(ad_p, .inl (cI, 9, .inl pu)), (ad_d, .inl (cI, 54, .inl d))] ++ w) H → va_D A ([(ad_p, .inl (cI, 9, .inl pu)), (ad_d, .inl (cI, 54, .inl d))] ++ w) → va_S A s.heap H locs → ∀ ls : Array Slot, lv_has ls 30 [(1, .ref ad_o)] → (f_L_law_b1471 N L xs) th pu d = some o → W p l e room_1 s m args below meth c H locs 56 20270 Q (F0 m 1471 ls []) := by
    intro H locs w ad_p ad_d th pu d hw hP hD hS ls hl hf
    unfold f_L_law_b1471 at hf
    refine lv_aload_n hx hb dL_law_1471 rfl (lv_at hl 0 rfl) ?_
    refine lv_iconst (v := 0) hx hb dL_law_1472 (by decide) ?_
    obtain ⟨z1473_1, hz1473_1, hf⟩ := bn_s hf
    refine q_on [(ad_p, .inl (cI, 9, .inl pu)), (ad_d, .inl (cI, 54, .inl d))] (rest := []) hX hw hz1473_1 wd616 ⟨Nat.le_of_ble_eq_true rfl, Nat.le_of_ble_eq_true rfl⟩ hP hD hS rfl (Nat.le_of_ble_eq_true rfl) hl.1 ⟨Nat.le_of_ble_eq_true rfl, Nat.le_of_ble_eq_true rfl⟩ dL_law_1473 (fun H locs w hw hP hD hS => ?_)
    refine lv_if_ne (tgt := 1506) hx hb dL_law_1476 (by decide) (fun c1476 => ?_) (fun c1476 => ?_)
    · replace hf := iq c1476 hf
      refine lv_iconst (v := 0) hx hb dL_law_1506 (by decide) ?_
      exact hRet _ _ _ _ _ _ _ (Nat.le_of_ble_eq_true rfl) (Nat.le_of_ble_eq_true rfl) (Option.some.inj hf) hS dL_law_1507
    · replace hf := ip c1476 hf
      refine lv_aload_n hx hb dL_law_1479 rfl (lv_at hl 0 rfl) ?_
      refine lv_iconst (v := 1) hx hb dL_law_1480 (by decide) ?_
      obtain ⟨z1481_2, hz1481_2, hf⟩ := bn_s hf
      refine q_count [(ad_p, .inl (cI, 9, .inl pu)), (ad_d, .inl (cI, 54, .inl d))] (rest := []) hX hw hz1481_2 wd913 ⟨Nat.le_of_ble_eq_true rfl, Nat.le_of_ble_eq_true rfl⟩ hP hD hS rfl (Nat.le_of_ble_eq_true rfl) hl.1 ⟨Nat.le_of_ble_eq_true rfl, Nat.le_of_ble_eq_true rfl⟩ dL_law_1481 (fun H locs w hw hP hD hS => ?_)
      refine lv_if_ne (tgt := 1506) hx hb dL_law_1484 (by decide) (fun c1484 => ?_) (fun c1484 => ?_)
      · replace hf := iq c1484 hf
        refine lv_iconst (v := 0) hx hb dL_law_1506 (by decide) ?_
        exact hRet _ _ _ _ _ _ _ (Nat.le_of_ble_eq_true rfl) (Nat.le_of_ble_eq_true rfl) (Option.some.inj hf) hS dL_law_1507
      · replace hf := ip c1484 hf
        refine lv_aload_n hx hb dL_law_1487 rfl (lv_at hl 0 rfl) ?_
        obtain ⟨z1488_3, hz1488_3, hf⟩ := bn_s hf
        refine q_coins [(ad_p, .inl (cI, 9, .inl pu)), (ad_d, .inl (cI, 54, .inl d))] (rest := []) hX hw hz1488_3 wd593 ⟨Nat.le_of_ble_eq_true rfl, Nat.le_of_ble_eq_true rfl⟩ hP hD hS rfl (Nat.le_of_ble_eq_true rfl) hl.1 ⟨Nat.le_of_ble_eq_true rfl, Nat.le_of_ble_eq_true rfl⟩ dL_law_1488 (fun H locs w hw hP hD hS => ?_)
        refine lv_if_ne (tgt := 1506) hx hb dL_law_1491 (by decide) (fun c1491 => ?_) (fun c1491 => ?_)
        · replace hf := iq c1491 hf
          refine lv_iconst (v := 0) hx hb dL_law_1506 (by decide) ?_
          exact hRet _ _ _ _ _ _ _ (Nat.le_of_ble_eq_true rfl) (Nat.le_of_ble_eq_true rfl) (Option.some.inj hf) hS dL_law_1507
        · replace hf := ip c1491 hf
          refine lv_aload_n hx hb dL_law_1494 rfl (lv_at hl 0 rfl) ?_
          refine lv_iconst (v := 2) hx hb dL_law_1495 (by decide) ?_
          obtain ⟨z1496_4, hz1496_4, hf⟩ := bn_s hf
          refine q_count [(ad_p, .inl (cI, 9, .inl pu)), (ad_d, .inl (cI, 54, .inl d))] (rest := []) hX hw hz1496_4 wd913 ⟨Nat.le_of_ble_eq_true rfl, Nat.le_of_ble_eq_true rfl⟩ hP hD hS rfl (Nat.le_of_ble_eq_true rfl) hl.1 ⟨Nat.le_of_ble_eq_true rfl, Nat.le_of_ble_eq_true rfl⟩ dL_law_1496 (fun H locs w hw hP hD hS => ?_)
          refine lv_if_ne (tgt := 1506) hx hb dL_law_1499 (by decide) (fun c1499 => ?_) (fun c1499 => ?_)
          · replace hf := iq c1499 hf
            refine lv_iconst (v := 0) hx hb dL_law_1506 (by decide) ?_
            exact hRet _ _ _ _ _ _ _ (Nat.le_of_ble_eq_true rfl) (Nat.le_of_ble_eq_true rfl) (Option.some.inj hf) hS dL_law_1507
          · replace hf := ip c1499 hf
            refine lv_iconst (v := 1) hx hb dL_law_1502 (by decide) ?_
            refine lv_goto (tgt := 1507) hx hb dL_law_1503 (by decide) ?_
            exact hRet _ _ _ _ _ _ _ (Nat.le_of_ble_eq_true rfl) (Nat.le_of_ble_eq_true rfl) (Option.some.inj hf) hS dL_law_1507
  have hb1438 : ∀ n1438 : Nat, ∀ (H : Heap) (locs : List Loc) (w : va_W) (ad_p : Nat) (ad_d : Nat) (th : TH) (pu : (Nat → Int32)) (d : (Nat → Int32)) (x2 : Int32) (x28 : Int32), Ob cI cJ cR ad_o th w → va_P D vwCl ([(ad_p, .inl (cI, 9, .inl pu)), (ad_d, .inl (cI, 54, .inl d))] ++ w) H → va_D A ([(ad_p, .inl (cI, 9, .inl pu)), (ad_d, .inl (cI, 54, .inl d))] ++ w) → va_S A s.heap H locs → ∀ ls : Array Slot, lv_has ls 30 [(1, .ref ad_o), (2, .int x2), (9, .ref ad_p), (28, .int x28)] → f_L_law_b1438 N L xs (f_L_law_b1471 N L xs) n1438 th pu d x2 x28 = some o → W p l e room_1 s m args below meth c H locs 56 20270 Q (F0 m 1438 ls []) := by
    intro n1438
    induction n1438 with
    | zero =>
      intro H locs w ad_p ad_d th pu d x2 x28 hw hP hD hS ls hl hf
      rw [f_L_law_b1438] at hf
      cases hf
    | succ n1438 ih1438 =>
      intro H locs w ad_p ad_d th pu d x2 x28 hw hP hD hS ls hl hf
      rw [f_L_law_b1438] at hf
      refine lv_iload hx hb dL_law_1438 (lv_at hl 3 rfl) ?_
      refine lv_iload_n hx hb dL_law_1440 rfl (lv_at hl 1 rfl) ?_
      refine lv_icmp_ge (tgt := 1471) hx hb dL_law_1441 (by decide) (fun c1441 => ?_) (fun c1441 => ?_)
      · replace hf := ip c1441 hf
        exact hb1471 _ _ w ad_p ad_d th pu d hw hP hD hS _ (lv_sub hl [0] rfl) hf
      · replace hf := iq c1441 hf
        refine lv_aload_n hx hb dL_law_1444 rfl (lv_at hl 0 rfl) ?_
        refine lv_aload_n hx hb dL_law_1445 rfl (lv_at hl 0 rfl) ?_
        refine lv_iload hx hb dL_law_1446 (lv_at hl 3 rfl) ?_
        refine lv_iconst (v := 2) hx hb dL_law_1448 (by decide) ?_
        obtain ⟨z1449_1, hz1449_1, hf⟩ := bn_s hf
        refine q_told [(ad_p, .inl (cI, 9, .inl pu)), (ad_d, .inl (cI, 54, .inl d))] (rest := [.ref ad_o]) hX hw hz1449_1 wd583 ⟨Nat.le_of_ble_eq_true rfl, Nat.le_of_ble_eq_true rfl⟩ hP hD hS rfl (Nat.le_of_ble_eq_true rfl) hl.1 ⟨Nat.le_of_ble_eq_true rfl, Nat.le_of_ble_eq_true rfl⟩ dL_law_1449 (fun H locs w hw hP hD hS => ?_)
        refine q_lt [(ad_p, .inl (cI, 9, .inl pu)), (ad_d, .inl (cI, 54, .inl d))] (rest := []) hX hw wd943 ⟨Nat.le_of_ble_eq_true rfl, Nat.le_of_ble_eq_true rfl⟩ hP hD hS rfl (Nat.le_of_ble_eq_true rfl) hl.1 ⟨Nat.le_of_ble_eq_true rfl, Nat.le_of_ble_eq_true rfl⟩ dL_law_1452 (fun H locs w hw hP hD hS => ?_)
        refine lv_aload hx hb dL_law_1455 (lv_at hl 2 rfl) ?_
        refine lv_iload hx hb dL_law_1457 (lv_at hl 3 rfl) ?_
        obtain ⟨hg1459_2, hf⟩ := gd_s hf
        refine kiald hX hP rfl (q0 := 0) rfl (inb_in hg1459_2) dL_law_1459 ?_
        refine lv_icmp_eq (tgt := 1465) hx hb dL_law_1460 (by decide) (fun c1460 => ?_) (fun c1460 => ?_)
        · replace hf := ip c1460 hf
          refine lv_iinc (v := (x28 + (1 : Int32))) (lv' := [(28, .int (x28 + (1 : Int32))), (1, .ref ad_o), (2, .int x2), (9, .ref ad_p)]) hx hb dL_law_1465 hl (k := 3) rfl rfl (by decide) rfl (fun ls hl => ?_)
          refine lv_goto (tgt := 1438) hx hb dL_law_1468 (by decide) ?_
          exact ih1438 _ _ w ad_p ad_d z1449_1.2 pu d x2 (x28 + (1 : Int32)) hw hP hD hS _ (lv_sub hl [1, 2, 3, 0] rfl) hf
        · replace hf := iq c1460 hf
          refine lv_iconst (v := 0) hx hb dL_law_1463 (by decide) ?_
          exact hRet _ _ _ _ _ _ _ (Nat.le_of_ble_eq_true rfl) (Nat.le_of_ble_eq_true rfl) (Option.some.inj hf) hS dL_law_1464
  have hb1288 : ∀ (H : Heap) (locs : List Loc) (w : va_W) (ad_p : Nat) (ad_d : Nat) (th : TH) (pu : (Nat → Int32)) (d : (Nat → Int32)) (x2 : Int32) (x4 : Int32) (x6 : Int32) (x10 : Int32) (x11 : Int32) (x26 : Int32), Ob cI cJ cR ad_o th w → va_P D vwCl ([(ad_p, .inl (cI, 9, .inl pu)), (ad_d, .inl (cI, 54, .inl d))] ++ w) H → va_D A ([(ad_p, .inl (cI, 9, .inl pu)), (ad_d, .inl (cI, 54, .inl d))] ++ w) → va_S A s.heap H locs → ∀ ls : Array Slot, lv_has ls 30 [(1, .ref ad_o), (2, .int x2), (4, .int x4), (6, .int x6), (9, .ref ad_p), (10, .int x10), (11, .int x11), (26, .int x26)] → (f_L_law_b1288 N L xs) th pu d x2 x4 x6 x10 x11 x26 = some o → W p l e room_1 s m args below meth c H locs 56 20270 Q (F0 m 1288 ls []) := by
    intro H locs w ad_p ad_d th pu d x2 x4 x6 x10 x11 x26 hw hP hD hS ls hl hf
    unfold f_L_law_b1288 at hf
    refine lv_iload hx hb dL_law_1288 (lv_at hl 7 rfl) ?_
    refine lv_if_ne (tgt := 1342) hx hb dL_law_1290 (by decide) (fun c1290 => ?_) (fun c1290 => ?_)
    · replace hf := iq c1290 hf
      refine lv_iconst (v := 0) hx hb dL_law_1342 (by decide) ?_
      exact hRet _ _ _ _ _ _ _ (Nat.le_of_ble_eq_true rfl) (Nat.le_of_ble_eq_true rfl) (Option.some.inj hf) hS dL_law_1343
    · replace hf := ip c1290 hf
      refine lv_aload_n hx hb dL_law_1293 rfl (lv_at hl 0 rfl) ?_
      refine lv_iconst (v := 0) hx hb dL_law_1294 (by decide) ?_
      obtain ⟨z1295_1, hz1295_1, hf⟩ := bn_s hf
      refine q_forget [(ad_p, .inl (cI, 9, .inl pu)), (ad_d, .inl (cI, 54, .inl d))] (rest := []) hX hw hz1295_1 wd885 ⟨Nat.le_of_ble_eq_true rfl, Nat.le_of_ble_eq_true rfl⟩ hP hD hS rfl (Nat.le_of_ble_eq_true rfl) hl.1 ⟨Nat.le_of_ble_eq_true rfl, Nat.le_of_ble_eq_true rfl⟩ dL_law_1295 (fun H locs w hw hP hD hS => ?_)
      refine lv_iconst (v := 4) hx hb dL_law_1298 (by decide) ?_
      refine lv_icmp_ne (tgt := 1342) hx hb dL_law_1299 (by decide) (fun c1299 => ?_) (fun c1299 => ?_)
      · replace hf := iq c1299 hf
        refine lv_iconst (v := 0) hx hb dL_law_1342 (by decide) ?_
        exact hRet _ _ _ _ _ _ _ (Nat.le_of_ble_eq_true rfl) (Nat.le_of_ble_eq_true rfl) (Option.some.inj hf) hS dL_law_1343
      · replace hf := ip c1299 hf
        refine lv_aload_n hx hb dL_law_1302 rfl (lv_at hl 0 rfl) ?_
        refine lv_iconst (v := 2) hx hb dL_law_1303 (by decide) ?_
        refine lv_iconst (v := 1) hx hb dL_law_1304 (by decide) ?_
        obtain ⟨z1305_2, hz1305_2, hf⟩ := bn_s hf
        refine q_row [(ad_p, .inl (cI, 9, .inl pu)), (ad_d, .inl (cI, 54, .inl d))] (rest := []) hX hw hz1305_2 wd372 ⟨Nat.le_of_ble_eq_true rfl, Nat.le_of_ble_eq_true rfl⟩ hP hD hS rfl (Nat.le_of_ble_eq_true rfl) hl.1 ⟨Nat.le_of_ble_eq_true rfl, Nat.le_of_ble_eq_true rfl⟩ dL_law_1305 (fun H locs w hw hP hD hS => ?_)
        refine lv_iconst (v := 1) hx hb dL_law_1308 (by decide) ?_
        refine lv_icmp_ne (tgt := 1342) hx hb dL_law_1309 (by decide) (fun c1309 => ?_) (fun c1309 => ?_)
        · replace hf := iq c1309 hf
          refine lv_iconst (v := 0) hx hb dL_law_1342 (by decide) ?_
          exact hRet _ _ _ _ _ _ _ (Nat.le_of_ble_eq_true rfl) (Nat.le_of_ble_eq_true rfl) (Option.some.inj hf) hS dL_law_1343
        · replace hf := ip c1309 hf
          refine lv_aload_n hx hb dL_law_1312 rfl (lv_at hl 0 rfl) ?_
          refine lv_iconst (v := 2) hx hb dL_law_1313 (by decide) ?_
          obtain ⟨z1314_3, hz1314_3, hf⟩ := bn_s hf
          refine q_even [(ad_p, .inl (cI, 9, .inl pu)), (ad_d, .inl (cI, 54, .inl d))] (rest := []) hX hw hz1314_3 wd889 ⟨Nat.le_of_ble_eq_true rfl, Nat.le_of_ble_eq_true rfl⟩ hP hD hS rfl (Nat.le_of_ble_eq_true rfl) hl.1 ⟨Nat.le_of_ble_eq_true rfl, Nat.le_of_ble_eq_true rfl⟩ dL_law_1314 (fun H locs w hw hP hD hS => ?_)
          refine lv_if_lt (tgt := 1342) hx hb dL_law_1317 (by decide) (fun c1317 => ?_) (fun c1317 => ?_)
          · replace hf := ip c1317 hf
            refine lv_iconst (v := 0) hx hb dL_law_1342 (by decide) ?_
            exact hRet _ _ _ _ _ _ _ (Nat.le_of_ble_eq_true rfl) (Nat.le_of_ble_eq_true rfl) (Option.some.inj hf) hS dL_law_1343
          · replace hf := iq c1317 hf
            refine lv_aload_n hx hb dL_law_1320 rfl (lv_at hl 0 rfl) ?_
            refine lv_iconst (v := 2) hx hb dL_law_1321 (by decide) ?_
            obtain ⟨z1322_4, hz1322_4, hf⟩ := bn_s hf
            refine q_even [(ad_p, .inl (cI, 9, .inl pu)), (ad_d, .inl (cI, 54, .inl d))] (rest := []) hX hw hz1322_4 wd889 ⟨Nat.le_of_ble_eq_true rfl, Nat.le_of_ble_eq_true rfl⟩ hP hD hS rfl (Nat.le_of_ble_eq_true rfl) hl.1 ⟨Nat.le_of_ble_eq_true rfl, Nat.le_of_ble_eq_true rfl⟩ dL_law_1322 (fun H locs w hw hP hD hS => ?_)
            refine lv_iconst (v := 2) hx hb dL_law_1325 (by decide) ?_
            refine lv_icmp_gt (tgt := 1342) hx hb dL_law_1326 (by decide) (fun c1326 => ?_) (fun c1326 => ?_)
            · replace hf := ip c1326 hf
              refine lv_iconst (v := 0) hx hb dL_law_1342 (by decide) ?_
              exact hRet _ _ _ _ _ _ _ (Nat.le_of_ble_eq_true rfl) (Nat.le_of_ble_eq_true rfl) (Option.some.inj hf) hS dL_law_1343
            · replace hf := iq c1326 hf
              refine lv_aload_n hx hb dL_law_1329 rfl (lv_at hl 0 rfl) ?_
              refine lv_iconst (v := 1) hx hb dL_law_1330 (by decide) ?_
              obtain ⟨z1331_5, hz1331_5, hf⟩ := bn_s hf
              refine q_count [(ad_p, .inl (cI, 9, .inl pu)), (ad_d, .inl (cI, 54, .inl d))] (rest := []) hX hw hz1331_5 wd913 ⟨Nat.le_of_ble_eq_true rfl, Nat.le_of_ble_eq_true rfl⟩ hP hD hS rfl (Nat.le_of_ble_eq_true rfl) hl.1 ⟨Nat.le_of_ble_eq_true rfl, Nat.le_of_ble_eq_true rfl⟩ dL_law_1331 (fun H locs w hw hP hD hS => ?_)
              refine lv_iload hx hb dL_law_1334 (lv_at hl 5 rfl) ?_
              obtain ⟨z1336_6, hz1336_6, hf⟩ := bn_s hf
              refine kSi (rest := [.int z1331_5.1]) hX (c_L_bits l D cI cJ cR N x10 hz1336_6) kc_L_bits wd1000 ⟨Nat.le_of_ble_eq_true rfl, Nat.le_of_ble_eq_true rfl⟩ ⟨rfl, rfl⟩ hP hD hS [] rfl (by decide) (fun w h => by cases h; rfl) rfl rfl (Nat.le_of_ble_eq_true rfl) hl.1 ⟨Nat.le_of_ble_eq_true rfl, Nat.le_of_ble_eq_true rfl⟩ dL_law_1336 (fun H locs w1 hw1 hP hD hS => ?_)
              cases hw1
              have hP : va_P D vwCl ([(ad_p, .inl (cI, 9, .inl pu)), (ad_d, .inl (cI, 54, .inl d))] ++ w) H := hP
              have hD : va_D A ([(ad_p, .inl (cI, 9, .inl pu)), (ad_d, .inl (cI, 54, .inl d))] ++ w) := hD
              refine lv_icmp_eq (tgt := 1344) hx hb dL_law_1339 (by decide) (fun c1339 => ?_) (fun c1339 => ?_)
              · replace hf := ip c1339 hf
                refine lv_aload_n hx hb dL_law_1344 rfl (lv_at hl 0 rfl) ?_
                refine lv_iload hx hb dL_law_1345 (lv_at hl 3 rfl) ?_
                refine lv_iload hx hb dL_law_1347 (lv_at hl 6 rfl) ?_
                obtain ⟨z1349_7, hz1349_7, hf⟩ := bn_s hf
                refine q_rule [(ad_p, .inl (cI, 9, .inl pu)), (ad_d, .inl (cI, 54, .inl d))] (rest := []) hX hw hz1349_7 wd702 ⟨Nat.le_of_ble_eq_true rfl, Nat.le_of_ble_eq_true rfl⟩ hP hD hS rfl (Nat.le_of_ble_eq_true rfl) hl.1 ⟨Nat.le_of_ble_eq_true rfl, Nat.le_of_ble_eq_true rfl⟩ dL_law_1349 (fun H locs w hw hP hD hS => ?_)
                refine lv_istore (lv' := [(27, .int z1349_7.1), (1, .ref ad_o), (2, .int x2), (4, .int x4), (6, .int x6), (9, .ref ad_p), (10, .int x10), (11, .int x11), (26, .int x26)]) hx hb dL_law_1352 hl (by decide) rfl (fun ls hl => ?_)
                refine lv_aload_n hx hb dL_law_1354 rfl (lv_at hl 1 rfl) ?_
                obtain ⟨z1355_8, hz1355_8, hf⟩ := bn_s hf
                refine q_upper [(ad_p, .inl (cI, 9, .inl pu)), (ad_d, .inl (cI, 54, .inl d))] (rest := []) hX hw hz1355_8 wd905 ⟨Nat.le_of_ble_eq_true rfl, Nat.le_of_ble_eq_true rfl⟩ hP hD hS rfl (Nat.le_of_ble_eq_true rfl) hl.1 ⟨Nat.le_of_ble_eq_true rfl, Nat.le_of_ble_eq_true rfl⟩ dL_law_1355 (fun H locs w hw hP hD hS => ?_)
                refine lv_lstore (lv' := [(12, .long z1355_8.1), (27, .int z1349_7.1), (1, .ref ad_o), (2, .int x2), (4, .int x4), (6, .int x6), (9, .ref ad_p), (10, .int x10), (11, .int x11), (26, .int x26)]) hx hb dL_law_1358 hl (by decide) rfl (fun ls hl => ?_)
                refine lv_aload_n hx hb dL_law_1360 rfl (lv_at hl 2 rfl) ?_
                obtain ⟨z1361_9, hz1361_9, hf⟩ := bn_s hf
                refine q_lower [(ad_p, .inl (cI, 9, .inl pu)), (ad_d, .inl (cI, 54, .inl d))] (rest := []) hX hw hz1361_9 wd909 ⟨Nat.le_of_ble_eq_true rfl, Nat.le_of_ble_eq_true rfl⟩ hP hD hS rfl (Nat.le_of_ble_eq_true rfl) hl.1 ⟨Nat.le_of_ble_eq_true rfl, Nat.le_of_ble_eq_true rfl⟩ dL_law_1361 (fun H locs w hw hP hD hS => ?_)
                refine lv_lstore (lv' := [(14, .long z1361_9.1), (12, .long z1355_8.1), (27, .int z1349_7.1), (1, .ref ad_o), (2, .int x2), (4, .int x4), (6, .int x6), (9, .ref ad_p), (10, .int x10), (11, .int x11), (26, .int x26)]) hx hb dL_law_1364 hl (by decide) rfl (fun ls hl => ?_)
                refine lv_iload hx hb dL_law_1366 (lv_at hl 2 rfl) ?_
                refine lv_if_lt (tgt := 1413) hx hb dL_law_1368 (by decide) (fun c1368 => ?_) (fun c1368 => ?_)
                · replace hf := ip c1368 hf
                  refine lv_iconst (v := 0) hx hb dL_law_1413 (by decide) ?_
                  exact hRet _ _ _ _ _ _ _ (Nat.le_of_ble_eq_true rfl) (Nat.le_of_ble_eq_true rfl) (Option.some.inj hf) hS dL_law_1414
                · replace hf := iq c1368 hf
                  refine lv_iload hx hb dL_law_1371 (lv_at hl 2 rfl) ?_
                  refine lv_iconst (v := 2) hx hb dL_law_1373 (by decide) ?_
                  refine lv_icmp_gt (tgt := 1413) hx hb dL_law_1374 (by decide) (fun c1374 => ?_) (fun c1374 => ?_)
                  · replace hf := ip c1374 hf
                    refine lv_iconst (v := 0) hx hb dL_law_1413 (by decide) ?_
                    exact hRet _ _ _ _ _ _ _ (Nat.le_of_ble_eq_true rfl) (Nat.le_of_ble_eq_true rfl) (Option.some.inj hf) hS dL_law_1414
                  · replace hf := iq c1374 hf
                    refine lv_aload_n hx hb dL_law_1377 rfl (lv_at hl 3 rfl) ?_
                    refine lv_iconst (v := 0) hx hb dL_law_1378 (by decide) ?_
                    obtain ⟨z1379_10, hz1379_10, hf⟩ := bn_s hf
                    refine q_on [(ad_p, .inl (cI, 9, .inl pu)), (ad_d, .inl (cI, 54, .inl d))] (rest := []) hX hw hz1379_10 wd616 ⟨Nat.le_of_ble_eq_true rfl, Nat.le_of_ble_eq_true rfl⟩ hP hD hS rfl (Nat.le_of_ble_eq_true rfl) hl.1 ⟨Nat.le_of_ble_eq_true rfl, Nat.le_of_ble_eq_true rfl⟩ dL_law_1379 (fun H locs w hw hP hD hS => ?_)
                    refine lv_if_ne (tgt := 1413) hx hb dL_law_1382 (by decide) (fun c1382 => ?_) (fun c1382 => ?_)
                    · replace hf := iq c1382 hf
                      refine lv_iconst (v := 0) hx hb dL_law_1413 (by decide) ?_
                      exact hRet _ _ _ _ _ _ _ (Nat.le_of_ble_eq_true rfl) (Nat.le_of_ble_eq_true rfl) (Option.some.inj hf) hS dL_law_1414
                    · replace hf := ip c1382 hf
                      refine lv_aload_n hx hb dL_law_1385 rfl (lv_at hl 3 rfl) ?_
                      refine lv_iload hx hb dL_law_1386 (lv_at hl 9 rfl) ?_
                      obtain ⟨z1388_11, hz1388_11, hf⟩ := bn_s hf
                      refine q_friday [(ad_p, .inl (cI, 9, .inl pu)), (ad_d, .inl (cI, 54, .inl d))] (rest := []) hX hw hz1388_11 wd620 ⟨Nat.le_of_ble_eq_true rfl, Nat.le_of_ble_eq_true rfl⟩ hP hD hS rfl (Nat.le_of_ble_eq_true rfl) hl.1 ⟨Nat.le_of_ble_eq_true rfl, Nat.le_of_ble_eq_true rfl⟩ dL_law_1388 (fun H locs w hw hP hD hS => ?_)
                      refine lv_iconst (v := 1) hx hb dL_law_1391 (by decide) ?_
                      refine lv_icmp_ne (tgt := 1413) hx hb dL_law_1392 (by decide) (fun c1392 => ?_) (fun c1392 => ?_)
                      · replace hf := iq c1392 hf
                        refine lv_iconst (v := 0) hx hb dL_law_1413 (by decide) ?_
                        exact hRet _ _ _ _ _ _ _ (Nat.le_of_ble_eq_true rfl) (Nat.le_of_ble_eq_true rfl) (Option.some.inj hf) hS dL_law_1414
                      · replace hf := ip c1392 hf
                        refine lv_aload_n hx hb dL_law_1395 rfl (lv_at hl 3 rfl) ?_
                        obtain ⟨z1396_12, hz1396_12, hf⟩ := bn_s hf
                        refine q_upper [(ad_p, .inl (cI, 9, .inl pu)), (ad_d, .inl (cI, 54, .inl d))] (rest := []) hX hw hz1396_12 wd905 ⟨Nat.le_of_ble_eq_true rfl, Nat.le_of_ble_eq_true rfl⟩ hP hD hS rfl (Nat.le_of_ble_eq_true rfl) hl.1 ⟨Nat.le_of_ble_eq_true rfl, Nat.le_of_ble_eq_true rfl⟩ dL_law_1396 (fun H locs w hw hP hD hS => ?_)
                        refine lv_lload hx hb dL_law_1399 (lv_at hl 0 rfl) ?_
                        refine lv_lmul hx hb dL_law_1401 ?_
                        refine lv_lload hx hb dL_law_1402 (lv_at hl 1 rfl) ?_
                        refine lv_aload_n hx hb dL_law_1404 rfl (lv_at hl 3 rfl) ?_
                        obtain ⟨z1405_13, hz1405_13, hf⟩ := bn_s hf
                        refine q_lower [(ad_p, .inl (cI, 9, .inl pu)), (ad_d, .inl (cI, 54, .inl d))] (rest := [.long z1355_8.1, .long (z1396_12.1 * z1361_9.1)]) hX hw hz1405_13 wd909 ⟨Nat.le_of_ble_eq_true rfl, Nat.le_of_ble_eq_true rfl⟩ hP hD hS rfl (Nat.le_of_ble_eq_true rfl) hl.1 ⟨Nat.le_of_ble_eq_true rfl, Nat.le_of_ble_eq_true rfl⟩ dL_law_1405 (fun H locs w hw hP hD hS => ?_)
                        refine lv_lmul hx hb dL_law_1408 ?_
                        refine W.lcmp hx hb dL_law_1409 ?_
                        refine lv_if_le (tgt := 1415) hx hb dL_law_1410 (by decide) (fun c1410 => ?_) (fun c1410 => ?_)
                        · have c1410 := (lg_cmp_le _ _).mp c1410
                          replace hf := ip c1410 hf
                          refine lv_aload_n hx hb dL_law_1415 rfl (lv_at hl 3 rfl) ?_
                          refine lv_bipush (v := 12) hx hb dL_law_1416 (by decide) ?_
                          refine lv_bipush (v := 77) hx hb dL_law_1418 (by decide) ?_
                          obtain ⟨z1420_14, hz1420_14, hf⟩ := bn_s hf
                          refine q_go [(ad_p, .inl (cI, 9, .inl pu)), (ad_d, .inl (cI, 54, .inl d))] (rest := []) hX hw hz1420_14 wd450 ⟨Nat.le_of_ble_eq_true rfl, Nat.le_of_ble_eq_true rfl⟩ hP hD hS rfl (Nat.le_of_ble_eq_true rfl) hl.1 ⟨Nat.le_of_ble_eq_true rfl, Nat.le_of_ble_eq_true rfl⟩ dL_law_1420 (fun H locs w hw hP hD hS => ?_)
                          refine lv_bipush (v := 12) hx hb dL_law_1423 (by decide) ?_
                          refine lv_icmp_eq (tgt := 1430) hx hb dL_law_1425 (by decide) (fun c1425 => ?_) (fun c1425 => ?_)
                          · replace hf := ip c1425 hf
                            refine lv_iload hx hb dL_law_1430 (lv_at hl 5 rfl) ?_
                            refine lv_if_eq (tgt := 1471) hx hb dL_law_1432 (by decide) (fun c1432 => ?_) (fun c1432 => ?_)
                            · replace hf := ip c1432 hf
                              exact hb1471 _ _ w ad_p ad_d z1420_14.2 pu d hw hP hD hS _ (lv_sub hl [3] rfl) hf
                            · replace hf := iq c1432 hf
                              refine lv_iconst (v := 0) hx hb dL_law_1435 (by decide) ?_
                              refine lv_istore (lv' := [(28, .int (0 : Int32)), (14, .long z1361_9.1), (12, .long z1355_8.1), (27, .int z1349_7.1), (1, .ref ad_o), (2, .int x2), (4, .int x4), (6, .int x6), (9, .ref ad_p), (10, .int x10), (11, .int x11), (26, .int x26)]) hx hb dL_law_1436 hl (by decide) rfl (fun ls hl => ?_)
                              exact hb1438 N _ _ w ad_p ad_d z1420_14.2 pu d x2 (0 : Int32) hw hP hD hS _ (lv_sub hl [4, 5, 8, 0] rfl) hf
                          · replace hf := iq c1425 hf
                            refine lv_iconst (v := 0) hx hb dL_law_1428 (by decide) ?_
                            exact hRet _ _ _ _ _ _ _ (Nat.le_of_ble_eq_true rfl) (Nat.le_of_ble_eq_true rfl) (Option.some.inj hf) hS dL_law_1429
                        · have c1410 := fun q => c1410 ((lg_cmp_le _ _).mpr q)
                          replace hf := iq c1410 hf
                          refine lv_iconst (v := 0) hx hb dL_law_1413 (by decide) ?_
                          exact hRet _ _ _ _ _ _ _ (Nat.le_of_ble_eq_true rfl) (Nat.le_of_ble_eq_true rfl) (Option.some.inj hf) hS dL_law_1414
              · replace hf := iq c1339 hf
                refine lv_iconst (v := 0) hx hb dL_law_1342 (by decide) ?_
                exact hRet _ _ _ _ _ _ _ (Nat.le_of_ble_eq_true rfl) (Nat.le_of_ble_eq_true rfl) (Option.some.inj hf) hS dL_law_1343
  have hb1261 : ∀ n1261 : Nat, ∀ (H : Heap) (locs : List Loc) (w : va_W) (ad_p : Nat) (ad_d : Nat) (th : TH) (pu : (Nat → Int32)) (d : (Nat → Int32)) (x2 : Int32) (x4 : Int32) (x6 : Int32) (x10 : Int32) (x11 : Int32) (x26 : Int32) (x27 : Int32), Ob cI cJ cR ad_o th w → va_P D vwCl ([(ad_p, .inl (cI, 9, .inl pu)), (ad_d, .inl (cI, 54, .inl d))] ++ w) H → va_D A ([(ad_p, .inl (cI, 9, .inl pu)), (ad_d, .inl (cI, 54, .inl d))] ++ w) → va_S A s.heap H locs → ∀ ls : Array Slot, lv_has ls 30 [(1, .ref ad_o), (2, .int x2), (4, .int x4), (6, .int x6), (9, .ref ad_p), (10, .int x10), (11, .int x11), (26, .int x26), (27, .int x27)] → f_L_law_b1261 N L xs (f_L_law_b1288 N L xs) n1261 th pu d x2 x4 x6 x10 x11 x26 x27 = some o → W p l e room_1 s m args below meth c H locs 56 20270 Q (F0 m 1261 ls []) := by
    intro n1261
    induction n1261 with
    | zero =>
      intro H locs w ad_p ad_d th pu d x2 x4 x6 x10 x11 x26 x27 hw hP hD hS ls hl hf
      rw [f_L_law_b1261] at hf
      cases hf
    | succ n1261 ih1261 =>
      intro H locs w ad_p ad_d th pu d x2 x4 x6 x10 x11 x26 x27 hw hP hD hS ls hl hf
      rw [f_L_law_b1261] at hf
      refine lv_iload hx hb dL_law_1261 (lv_at hl 8 rfl) ?_
      refine lv_iload_n hx hb dL_law_1263 rfl (lv_at hl 1 rfl) ?_
      refine lv_icmp_ge (tgt := 1288) hx hb dL_law_1264 (by decide) (fun c1264 => ?_) (fun c1264 => ?_)
      · replace hf := ip c1264 hf
        exact hb1288 _ _ w ad_p ad_d th pu d x2 x4 x6 x10 x11 x26 hw hP hD hS _ (lv_sub hl [0, 1, 2, 3, 4, 5, 6, 7] rfl) hf
      · replace hf := iq c1264 hf
        refine lv_iload hx hb dL_law_1267 (lv_at hl 7 rfl) ?_
        refine lv_aload_n hx hb dL_law_1269 rfl (lv_at hl 0 rfl) ?_
        refine lv_aload_n hx hb dL_law_1270 rfl (lv_at hl 0 rfl) ?_
        refine lv_iload hx hb dL_law_1271 (lv_at hl 8 rfl) ?_
        obtain ⟨z1273_1, hz1273_1, hf⟩ := bn_s hf
        refine q_balance [(ad_p, .inl (cI, 9, .inl pu)), (ad_d, .inl (cI, 54, .inl d))] (rest := [.ref ad_o, .int x26]) hX hw hz1273_1 wd877 ⟨Nat.le_of_ble_eq_true rfl, Nat.le_of_ble_eq_true rfl⟩ hP hD hS rfl (Nat.le_of_ble_eq_true rfl) hl.1 ⟨Nat.le_of_ble_eq_true rfl, Nat.le_of_ble_eq_true rfl⟩ dL_law_1273 (fun H locs w hw hP hD hS => ?_)
        refine q_lt [(ad_p, .inl (cI, 9, .inl pu)), (ad_d, .inl (cI, 54, .inl d))] (rest := [.int x26]) hX hw wd943 ⟨Nat.le_of_ble_eq_true rfl, Nat.le_of_ble_eq_true rfl⟩ hP hD hS rfl (Nat.le_of_ble_eq_true rfl) hl.1 ⟨Nat.le_of_ble_eq_true rfl, Nat.le_of_ble_eq_true rfl⟩ dL_law_1276 (fun H locs w hw hP hD hS => ?_)
        refine lv_iadd hx hb dL_law_1279 ?_
        refine lv_topi (fun v1280 ev1280 => ?_)
        replace hf := nm_s ev1280 hf
        refine lv_istore (lv' := [(26, .int v1280), (1, .ref ad_o), (2, .int x2), (4, .int x4), (6, .int x6), (9, .ref ad_p), (10, .int x10), (11, .int x11), (27, .int x27)]) hx hb dL_law_1280 hl (by decide) rfl (fun ls hl => ?_)
        refine lv_iinc (v := (x27 + (1 : Int32))) (lv' := [(27, .int (x27 + (1 : Int32))), (26, .int v1280), (1, .ref ad_o), (2, .int x2), (4, .int x4), (6, .int x6), (9, .ref ad_p), (10, .int x10), (11, .int x11)]) hx hb dL_law_1282 hl (k := 8) rfl rfl (by decide) rfl (fun ls hl => ?_)
        refine lv_goto (tgt := 1261) hx hb dL_law_1285 (by decide) ?_
        exact ih1261 _ _ w ad_p ad_d z1273_1.2 pu d x2 x4 x6 x10 x11 v1280 (x27 + (1 : Int32)) hw hP hD hS _ (lv_sub hl [2, 3, 4, 5, 6, 7, 8, 1, 0] rfl) hf
  have hb1255 : ∀ (H : Heap) (locs : List Loc) (w : va_W) (ad_p : Nat) (ad_d : Nat) (th : TH) (pu : (Nat → Int32)) (d : (Nat → Int32)) (x2 : Int32) (x4 : Int32) (x6 : Int32) (x10 : Int32) (x11 : Int32), Ob cI cJ cR ad_o th w → va_P D vwCl ([(ad_p, .inl (cI, 9, .inl pu)), (ad_d, .inl (cI, 54, .inl d))] ++ w) H → va_D A ([(ad_p, .inl (cI, 9, .inl pu)), (ad_d, .inl (cI, 54, .inl d))] ++ w) → va_S A s.heap H locs → ∀ ls : Array Slot, lv_has ls 30 [(1, .ref ad_o), (2, .int x2), (4, .int x4), (6, .int x6), (9, .ref ad_p), (10, .int x10), (11, .int x11)] → (f_L_law_b1255 N L xs) th pu d x2 x4 x6 x10 x11 = some o → W p l e room_1 s m args below meth c H locs 56 20270 Q (F0 m 1255 ls []) := by
    intro H locs w ad_p ad_d th pu d x2 x4 x6 x10 x11 hw hP hD hS ls hl hf
    unfold f_L_law_b1255 at hf
    refine lv_iconst (v := 0) hx hb dL_law_1255 (by decide) ?_
    refine lv_istore (lv' := [(26, .int (0 : Int32)), (1, .ref ad_o), (2, .int x2), (4, .int x4), (6, .int x6), (9, .ref ad_p), (10, .int x10), (11, .int x11)]) hx hb dL_law_1256 hl (by decide) rfl (fun ls hl => ?_)
    refine lv_iconst (v := 0) hx hb dL_law_1258 (by decide) ?_
    refine lv_istore (lv' := [(27, .int (0 : Int32)), (26, .int (0 : Int32)), (1, .ref ad_o), (2, .int x2), (4, .int x4), (6, .int x6), (9, .ref ad_p), (10, .int x10), (11, .int x11)]) hx hb dL_law_1259 hl (by decide) rfl (fun ls hl => ?_)
    exact hb1261 N _ _ w ad_p ad_d th pu d x2 x4 x6 x10 x11 (0 : Int32) (0 : Int32) hw hP hD hS _ (lv_sub hl [2, 3, 4, 5, 6, 7, 8, 1, 0] rfl) hf
  have hb1183 : ∀ n1183 : Nat, ∀ (H : Heap) (locs : List Loc) (w : va_W) (ad_p : Nat) (ad_d : Nat) (th : TH) (pu : (Nat → Int32)) (d : (Nat → Int32)) (x2 : Int32) (x4 : Int32) (x6 : Int32) (x10 : Int32) (x11 : Int32) (x26 : Int32), Ob cI cJ cR ad_o th w → va_P D vwCl ([(ad_p, .inl (cI, 9, .inl pu)), (ad_d, .inl (cI, 54, .inl d))] ++ w) H → va_D A ([(ad_p, .inl (cI, 9, .inl pu)), (ad_d, .inl (cI, 54, .inl d))] ++ w) → va_S A s.heap H locs → ∀ ls : Array Slot, lv_has ls 30 [(0, .ref bs), (1, .ref ad_o), (2, .int x2), (4, .int x4), (6, .int x6), (9, .ref ad_p), (10, .int x10), (11, .int x11), (26, .int x26)] → f_L_law_b1183 N L xs (f_L_law_b1255 N L xs) n1183 th pu d x2 x4 x6 x10 x11 x26 = some o → W p l e room_1 s m args below meth c H locs 56 20270 Q (F0 m 1183 ls []) := by
    intro n1183
    induction n1183 with
    | zero =>
      intro H locs w ad_p ad_d th pu d x2 x4 x6 x10 x11 x26 hw hP hD hS ls hl hf
      rw [f_L_law_b1183] at hf
      cases hf
    | succ n1183 ih1183 =>
      intro H locs w ad_p ad_d th pu d x2 x4 x6 x10 x11 x26 hw hP hD hS ls hl hf
      rw [f_L_law_b1183] at hf
      refine lv_iload hx hb dL_law_1183 (lv_at hl 8 rfl) ?_
      refine lv_iconst (v := 4) hx hb dL_law_1185 (by decide) ?_
      refine lv_icmp_ge (tgt := 1255) hx hb dL_law_1186 (by decide) (fun c1186 => ?_) (fun c1186 => ?_)
      · replace hf := ip c1186 hf
        exact hb1255 _ _ w ad_p ad_d th pu d x2 x4 x6 x10 x11 hw hP hD hS _ (lv_sub hl [1, 2, 3, 4, 5, 6, 7] rfl) hf
      · replace hf := iq c1186 hf
        refine lv_aload_n hx hb dL_law_1189 rfl (lv_at hl 0 rfl) ?_
        refine lv_bipush (v := 33) hx hb dL_law_1190 (by decide) ?_
        refine lv_iload hx hb dL_law_1192 (lv_at hl 8 rfl) ?_
        refine lv_iadd hx hb dL_law_1194 ?_
        obtain ⟨hk1195_1, hf⟩ := gd_s hf
        refine q_cell (rest := []) hX hsc hk1195_1 hL wd939 ⟨Nat.le_of_ble_eq_true rfl, Nat.le_of_ble_eq_true rfl⟩ hP hD hS rfl (Nat.le_of_ble_eq_true rfl) hl.1 ⟨Nat.le_of_ble_eq_true rfl, Nat.le_of_ble_eq_true rfl⟩ dL_law_1195 (fun H locs hP hD hS => ?_)
        refine lv_iload_n hx hb dL_law_1198 rfl (lv_at hl 2 rfl) ?_
        obtain ⟨z1199_2, hz1199_2, hf⟩ := bn_s hf
        refine kSi (rest := []) hX (c_L_low l D cI cJ cR N (o_cell L xs ((33 : Int32) + x26)) x2 hz1199_2) kc_L_low wd935 ⟨Nat.le_of_ble_eq_true rfl, Nat.le_of_ble_eq_true rfl⟩ ⟨rfl, rfl⟩ hP hD hS [] rfl (by decide) (fun w h => by cases h; rfl) rfl rfl (Nat.le_of_ble_eq_true rfl) hl.1 ⟨Nat.le_of_ble_eq_true rfl, Nat.le_of_ble_eq_true rfl⟩ dL_law_1199 (fun H locs w1 hw1 hP hD hS => ?_)
        cases hw1
        have hP : va_P D vwCl ([(ad_p, .inl (cI, 9, .inl pu)), (ad_d, .inl (cI, 54, .inl d))] ++ w) H := hP
        have hD : va_D A ([(ad_p, .inl (cI, 9, .inl pu)), (ad_d, .inl (cI, 54, .inl d))] ++ w) := hD
        refine lv_istore (lv' := [(27, .int z1199_2), (0, .ref bs), (1, .ref ad_o), (2, .int x2), (4, .int x4), (6, .int x6), (9, .ref ad_p), (10, .int x10), (11, .int x11), (26, .int x26)]) hx hb dL_law_1202 hl (by decide) rfl (fun ls hl => ?_)
        refine lv_aload_n hx hb dL_law_1204 rfl (lv_at hl 2 rfl) ?_
        refine lv_aload_n hx hb dL_law_1205 rfl (lv_at hl 2 rfl) ?_
        refine lv_iload hx hb dL_law_1206 (lv_at hl 0 rfl) ?_
        obtain ⟨z1208_3, hz1208_3, hf⟩ := bn_s hf
        refine q_balance [(ad_p, .inl (cI, 9, .inl pu)), (ad_d, .inl (cI, 54, .inl d))] (rest := [.ref ad_o]) hX hw hz1208_3 wd877 ⟨Nat.le_of_ble_eq_true rfl, Nat.le_of_ble_eq_true rfl⟩ hP hD hS rfl (Nat.le_of_ble_eq_true rfl) hl.1 ⟨Nat.le_of_ble_eq_true rfl, Nat.le_of_ble_eq_true rfl⟩ dL_law_1208 (fun H locs w hw hP hD hS => ?_)
        refine q_lt [(ad_p, .inl (cI, 9, .inl pu)), (ad_d, .inl (cI, 54, .inl d))] (rest := []) hX hw wd943 ⟨Nat.le_of_ble_eq_true rfl, Nat.le_of_ble_eq_true rfl⟩ hP hD hS rfl (Nat.le_of_ble_eq_true rfl) hl.1 ⟨Nat.le_of_ble_eq_true rfl, Nat.le_of_ble_eq_true rfl⟩ dL_law_1211 (fun H locs w hw hP hD hS => ?_)
        refine lv_topi (fun v1214 ev1214 => ?_)
        replace hf := nm_s ev1214 hf
        refine lv_istore (lv' := [(28, .int v1214), (27, .int z1199_2), (0, .ref bs), (1, .ref ad_o), (2, .int x2), (4, .int x4), (6, .int x6), (9, .ref ad_p), (10, .int x10), (11, .int x11), (26, .int x26)]) hx hb dL_law_1214 hl (by decide) rfl (fun ls hl => ?_)
        refine lv_aload_n hx hb dL_law_1216 rfl (lv_at hl 3 rfl) ?_
        refine lv_iload hx hb dL_law_1217 (lv_at hl 1 rfl) ?_
        obtain ⟨z1219_4, hz1219_4, hf⟩ := bn_s hf
        refine q_year [(ad_p, .inl (cI, 9, .inl pu)), (ad_d, .inl (cI, 54, .inl d))] (rest := []) hX hw hz1219_4 wd855 ⟨Nat.le_of_ble_eq_true rfl, Nat.le_of_ble_eq_true rfl⟩ hP hD hS rfl (Nat.le_of_ble_eq_true rfl) hl.1 ⟨Nat.le_of_ble_eq_true rfl, Nat.le_of_ble_eq_true rfl⟩ dL_law_1219 (fun H locs w hw hP hD hS => ?_)
        refine lv_istore (lv' := [(29, .int z1219_4.1), (28, .int v1214), (27, .int z1199_2), (0, .ref bs), (1, .ref ad_o), (2, .int x2), (4, .int x4), (6, .int x6), (9, .ref ad_p), (10, .int x10), (11, .int x11), (26, .int x26)]) hx hb dL_law_1222 hl (by decide) rfl (fun ls hl => ?_)
        refine lv_iload hx hb dL_law_1224 (lv_at hl 0 rfl) ?_
        refine lv_if_lt (tgt := 1247) hx hb dL_law_1226 (by decide) (fun c1226 => ?_) (fun c1226 => ?_)
        · replace hf := ip c1226 hf
          refine lv_iconst (v := 0) hx hb dL_law_1247 (by decide) ?_
          exact hRet _ _ _ _ _ _ _ (Nat.le_of_ble_eq_true rfl) (Nat.le_of_ble_eq_true rfl) (Option.some.inj hf) hS dL_law_1248
        · replace hf := iq c1226 hf
          refine lv_aload_n hx hb dL_law_1229 rfl (lv_at hl 4 rfl) ?_
          refine lv_aload_n hx hb dL_law_1230 rfl (lv_at hl 4 rfl) ?_
          refine lv_iload hx hb dL_law_1231 (lv_at hl 2 rfl) ?_
          obtain ⟨z1233_5, hz1233_5, hf⟩ := bn_s hf
          refine q_balance [(ad_p, .inl (cI, 9, .inl pu)), (ad_d, .inl (cI, 54, .inl d))] (rest := [.ref ad_o]) hX hw hz1233_5 wd877 ⟨Nat.le_of_ble_eq_true rfl, Nat.le_of_ble_eq_true rfl⟩ hP hD hS rfl (Nat.le_of_ble_eq_true rfl) hl.1 ⟨Nat.le_of_ble_eq_true rfl, Nat.le_of_ble_eq_true rfl⟩ dL_law_1233 (fun H locs w hw hP hD hS => ?_)
          refine q_lt [(ad_p, .inl (cI, 9, .inl pu)), (ad_d, .inl (cI, 54, .inl d))] (rest := []) hX hw wd943 ⟨Nat.le_of_ble_eq_true rfl, Nat.le_of_ble_eq_true rfl⟩ hP hD hS rfl (Nat.le_of_ble_eq_true rfl) hl.1 ⟨Nat.le_of_ble_eq_true rfl, Nat.le_of_ble_eq_true rfl⟩ dL_law_1236 (fun H locs w hw hP hD hS => ?_)
          refine lv_iload hx hb dL_law_1239 (lv_at hl 1 rfl) ?_
          refine lv_iload hx hb dL_law_1241 (lv_at hl 0 rfl) ?_
          refine lv_iadd hx hb dL_law_1243 ?_
          refine lv_icmp_eq (tgt := 1249) hx hb dL_law_1244 (by decide) (fun c1244 => ?_) (fun c1244 => ?_)
          · replace hf := ip c1244 hf
            refine lv_iinc (v := (x26 + (1 : Int32))) (lv' := [(26, .int (x26 + (1 : Int32))), (29, .int z1219_4.1), (28, .int v1214), (27, .int z1199_2), (0, .ref bs), (1, .ref ad_o), (2, .int x2), (4, .int x4), (6, .int x6), (9, .ref ad_p), (10, .int x10), (11, .int x11)]) hx hb dL_law_1249 hl (k := 11) rfl rfl (by decide) rfl (fun ls hl => ?_)
            refine lv_goto (tgt := 1183) hx hb dL_law_1252 (by decide) ?_
            exact ih1183 _ _ w ad_p ad_d z1233_5.2 pu d x2 x4 x6 x10 x11 (x26 + (1 : Int32)) hw hP hD hS _ (lv_sub hl [4, 5, 6, 7, 8, 9, 10, 11, 0] rfl) hf
          · replace hf := iq c1244 hf
            refine lv_iconst (v := 0) hx hb dL_law_1247 (by decide) ?_
            exact hRet _ _ _ _ _ _ _ (Nat.le_of_ble_eq_true rfl) (Nat.le_of_ble_eq_true rfl) (Option.some.inj hf) hS dL_law_1248
  have hb1115 : ∀ (H : Heap) (locs : List Loc) (w : va_W) (ad_p : Nat) (ad_d : Nat) (th : TH) (pu : (Nat → Int32)) (d : (Nat → Int32)) (x2 : Int32) (x4 : Int32) (x6 : Int32) (x10 : Int32) (x11 : Int32), Ob cI cJ cR ad_o th w → va_P D vwCl ([(ad_p, .inl (cI, 9, .inl pu)), (ad_d, .inl (cI, 54, .inl d))] ++ w) H → va_D A ([(ad_p, .inl (cI, 9, .inl pu)), (ad_d, .inl (cI, 54, .inl d))] ++ w) → va_S A s.heap H locs → ∀ ls : Array Slot, lv_has ls 30 [(0, .ref bs), (1, .ref ad_o), (2, .int x2), (4, .int x4), (6, .int x6), (9, .ref ad_p), (10, .int x10), (11, .int x11)] → (f_L_law_b1115 N L xs) th pu d x2 x4 x6 x10 x11 = some o → W p l e room_1 s m args below meth c H locs 56 20270 Q (F0 m 1115 ls []) := by
    intro H locs w ad_p ad_d th pu d x2 x4 x6 x10 x11 hw hP hD hS ls hl hf
    unfold f_L_law_b1115 at hf
    refine lv_aload_n hx hb dL_law_1115 rfl (lv_at hl 1 rfl) ?_
    refine lv_bipush (v := 14) hx hb dL_law_1116 (by decide) ?_
    refine lv_iconst (v := 2) hx hb dL_law_1118 (by decide) ?_
    refine lv_iconst (v := 1) hx hb dL_law_1119 (by decide) ?_
    obtain ⟨z1120_1, hz1120_1, hf⟩ := bn_s hf
    refine q_fits [(ad_p, .inl (cI, 9, .inl pu)), (ad_d, .inl (cI, 54, .inl d))] (rest := []) hX hw hz1120_1 wd812 ⟨Nat.le_of_ble_eq_true rfl, Nat.le_of_ble_eq_true rfl⟩ hP hD hS rfl (Nat.le_of_ble_eq_true rfl) hl.1 ⟨Nat.le_of_ble_eq_true rfl, Nat.le_of_ble_eq_true rfl⟩ dL_law_1120 (fun H locs w hw hP hD hS => ?_)
    refine lv_istore (lv' := [(24, .int z1120_1.1), (0, .ref bs), (1, .ref ad_o), (2, .int x2), (4, .int x4), (6, .int x6), (9, .ref ad_p), (10, .int x10), (11, .int x11)]) hx hb dL_law_1123 hl (by decide) rfl (fun ls hl => ?_)
    refine lv_aload_n hx hb dL_law_1125 rfl (lv_at hl 2 rfl) ?_
    refine lv_bipush (v := 14) hx hb dL_law_1126 (by decide) ?_
    refine lv_iconst (v := 2) hx hb dL_law_1128 (by decide) ?_
    refine lv_iconst (v := 1) hx hb dL_law_1129 (by decide) ?_
    obtain ⟨z1130_2, hz1130_2, hf⟩ := bn_s hf
    refine q_room [(ad_p, .inl (cI, 9, .inl pu)), (ad_d, .inl (cI, 54, .inl d))] (rest := []) hX hw hz1130_2 wd834 ⟨Nat.le_of_ble_eq_true rfl, Nat.le_of_ble_eq_true rfl⟩ hP hD hS rfl (Nat.le_of_ble_eq_true rfl) hl.1 ⟨Nat.le_of_ble_eq_true rfl, Nat.le_of_ble_eq_true rfl⟩ dL_law_1130 (fun H locs w hw hP hD hS => ?_)
    refine lv_istore (lv' := [(25, .int z1130_2.1), (24, .int z1120_1.1), (0, .ref bs), (1, .ref ad_o), (2, .int x2), (4, .int x4), (6, .int x6), (9, .ref ad_p), (10, .int x10), (11, .int x11)]) hx hb dL_law_1133 hl (by decide) rfl (fun ls hl => ?_)
    refine lv_iload hx hb dL_law_1135 (lv_at hl 1 rfl) ?_
    refine lv_if_lt (tgt := 1178) hx hb dL_law_1137 (by decide) (fun c1137 => ?_) (fun c1137 => ?_)
    · replace hf := ip c1137 hf
      refine lv_iconst (v := 0) hx hb dL_law_1178 (by decide) ?_
      exact hRet _ _ _ _ _ _ _ (Nat.le_of_ble_eq_true rfl) (Nat.le_of_ble_eq_true rfl) (Option.some.inj hf) hS dL_law_1179
    · replace hf := iq c1137 hf
      refine lv_iload hx hb dL_law_1140 (lv_at hl 0 rfl) ?_
      refine lv_iload hx hb dL_law_1142 (lv_at hl 1 rfl) ?_
      refine lv_icmp_lt (tgt := 1178) hx hb dL_law_1144 (by decide) (fun c1144 => ?_) (fun c1144 => ?_)
      · replace hf := ip c1144 hf
        refine lv_iconst (v := 0) hx hb dL_law_1178 (by decide) ?_
        exact hRet _ _ _ _ _ _ _ (Nat.le_of_ble_eq_true rfl) (Nat.le_of_ble_eq_true rfl) (Option.some.inj hf) hS dL_law_1179
      · replace hf := iq c1144 hf
        refine lv_iload hx hb dL_law_1147 (lv_at hl 0 rfl) ?_
        refine lv_iconst (v := 5) hx hb dL_law_1149 (by decide) ?_
        refine lv_icmp_gt (tgt := 1178) hx hb dL_law_1150 (by decide) (fun c1150 => ?_) (fun c1150 => ?_)
        · replace hf := ip c1150 hf
          refine lv_iconst (v := 0) hx hb dL_law_1178 (by decide) ?_
          exact hRet _ _ _ _ _ _ _ (Nat.le_of_ble_eq_true rfl) (Nat.le_of_ble_eq_true rfl) (Option.some.inj hf) hS dL_law_1179
        · replace hf := iq c1150 hf
          refine lv_aload_n hx hb dL_law_1153 rfl (lv_at hl 3 rfl) ?_
          obtain ⟨z1154_3, hz1154_3, hf⟩ := bn_s hf
          refine q_asked [(ad_p, .inl (cI, 9, .inl pu)), (ad_d, .inl (cI, 54, .inl d))] (rest := []) hX hw hz1154_3 wd901 ⟨Nat.le_of_ble_eq_true rfl, Nat.le_of_ble_eq_true rfl⟩ hP hD hS rfl (Nat.le_of_ble_eq_true rfl) hl.1 ⟨Nat.le_of_ble_eq_true rfl, Nat.le_of_ble_eq_true rfl⟩ dL_law_1154 (fun H locs w hw hP hD hS => ?_)
          obtain ⟨z1157_4, hz1157_4, hf⟩ := bn_s hf
          refine kSi (rest := []) hX (c_L_bits l D cI cJ cR N z1154_3.1 hz1157_4) kc_L_bits wd1000 ⟨Nat.le_of_ble_eq_true rfl, Nat.le_of_ble_eq_true rfl⟩ ⟨rfl, rfl⟩ hP hD hS [] rfl (by decide) (fun w h => by cases h; rfl) rfl rfl (Nat.le_of_ble_eq_true rfl) hl.1 ⟨Nat.le_of_ble_eq_true rfl, Nat.le_of_ble_eq_true rfl⟩ dL_law_1157 (fun H locs w1 hw1 hP hD hS => ?_)
          cases hw1
          have hP : va_P D vwCl ([(ad_p, .inl (cI, 9, .inl pu)), (ad_d, .inl (cI, 54, .inl d))] ++ w) H := hP
          have hD : va_D A ([(ad_p, .inl (cI, 9, .inl pu)), (ad_d, .inl (cI, 54, .inl d))] ++ w) := hD
          refine lv_iload hx hb dL_law_1160 (lv_at hl 0 rfl) ?_
          refine lv_icmp_ne (tgt := 1178) hx hb dL_law_1162 (by decide) (fun c1162 => ?_) (fun c1162 => ?_)
          · replace hf := iq c1162 hf
            refine lv_iconst (v := 0) hx hb dL_law_1178 (by decide) ?_
            exact hRet _ _ _ _ _ _ _ (Nat.le_of_ble_eq_true rfl) (Nat.le_of_ble_eq_true rfl) (Option.some.inj hf) hS dL_law_1179
          · replace hf := ip c1162 hf
            refine lv_aload_n hx hb dL_law_1165 rfl (lv_at hl 3 rfl) ?_
            refine lv_bipush (v := 14) hx hb dL_law_1166 (by decide) ?_
            refine lv_iconst (v := 3) hx hb dL_law_1168 (by decide) ?_
            refine lv_iconst (v := 1) hx hb dL_law_1169 (by decide) ?_
            obtain ⟨z1170_5, hz1170_5, hf⟩ := bn_s hf
            refine q_room [(ad_p, .inl (cI, 9, .inl pu)), (ad_d, .inl (cI, 54, .inl d))] (rest := []) hX hw hz1170_5 wd834 ⟨Nat.le_of_ble_eq_true rfl, Nat.le_of_ble_eq_true rfl⟩ hP hD hS rfl (Nat.le_of_ble_eq_true rfl) hl.1 ⟨Nat.le_of_ble_eq_true rfl, Nat.le_of_ble_eq_true rfl⟩ dL_law_1170 (fun H locs w hw hP hD hS => ?_)
            refine lv_iload hx hb dL_law_1173 (lv_at hl 0 rfl) ?_
            refine lv_icmp_ge (tgt := 1180) hx hb dL_law_1175 (by decide) (fun c1175 => ?_) (fun c1175 => ?_)
            · replace hf := ip c1175 hf
              refine lv_iconst (v := 0) hx hb dL_law_1180 (by decide) ?_
              refine lv_istore (lv' := [(26, .int (0 : Int32)), (25, .int z1130_2.1), (24, .int z1120_1.1), (0, .ref bs), (1, .ref ad_o), (2, .int x2), (4, .int x4), (6, .int x6), (9, .ref ad_p), (10, .int x10), (11, .int x11)]) hx hb dL_law_1181 hl (by decide) rfl (fun ls hl => ?_)
              exact hb1183 N _ _ w ad_p ad_d z1170_5.2 pu d x2 x4 x6 x10 x11 (0 : Int32) hw hP hD hS _ (lv_sub hl [3, 4, 5, 6, 7, 8, 9, 10, 0] rfl) hf
            · replace hf := iq c1175 hf
              refine lv_iconst (v := 0) hx hb dL_law_1178 (by decide) ?_
              exact hRet _ _ _ _ _ _ _ (Nat.le_of_ble_eq_true rfl) (Nat.le_of_ble_eq_true rfl) (Option.some.inj hf) hS dL_law_1179
  have hb1074 : ∀ n1074 : Nat, ∀ (H : Heap) (locs : List Loc) (w : va_W) (ad_p : Nat) (ad_d : Nat) (th : TH) (pu : (Nat → Int32)) (d : (Nat → Int32)) (x2 : Int32) (x4 : Int32) (x6 : Int32) (x10 : Int32) (x11 : Int32) (x24 : Int32), Ob cI cJ cR ad_o th w → va_P D vwCl ([(ad_p, .inl (cI, 9, .inl pu)), (ad_d, .inl (cI, 54, .inl d))] ++ w) H → va_D A ([(ad_p, .inl (cI, 9, .inl pu)), (ad_d, .inl (cI, 54, .inl d))] ++ w) → va_S A s.heap H locs → ∀ ls : Array Slot, lv_has ls 30 [(0, .ref bs), (1, .ref ad_o), (2, .int x2), (4, .int x4), (6, .int x6), (9, .ref ad_p), (10, .int x10), (11, .int x11), (24, .int x24)] → f_L_law_b1074 N L xs (f_L_law_b1115 N L xs) n1074 th pu d x2 x4 x6 x10 x11 x24 = some o → W p l e room_1 s m args below meth c H locs 56 20270 Q (F0 m 1074 ls []) := by
    intro n1074
    induction n1074 with
    | zero =>
      intro H locs w ad_p ad_d th pu d x2 x4 x6 x10 x11 x24 hw hP hD hS ls hl hf
      rw [f_L_law_b1074] at hf
      cases hf
    | succ n1074 ih1074 =>
      intro H locs w ad_p ad_d th pu d x2 x4 x6 x10 x11 x24 hw hP hD hS ls hl hf
      rw [f_L_law_b1074] at hf
      refine lv_iload hx hb dL_law_1074 (lv_at hl 8 rfl) ?_
      refine lv_iconst (v := 5) hx hb dL_law_1076 (by decide) ?_
      refine lv_icmp_ge (tgt := 1115) hx hb dL_law_1077 (by decide) (fun c1077 => ?_) (fun c1077 => ?_)
      · replace hf := ip c1077 hf
        exact hb1115 _ _ w ad_p ad_d th pu d x2 x4 x6 x10 x11 hw hP hD hS _ (lv_sub hl [0, 1, 2, 3, 4, 5, 6, 7] rfl) hf
      · replace hf := iq c1077 hf
        refine lv_aload_n hx hb dL_law_1080 rfl (lv_at hl 1 rfl) ?_
        refine lv_iconst (v := 1) hx hb dL_law_1081 (by decide) ?_
        refine lv_iload hx hb dL_law_1082 (lv_at hl 8 rfl) ?_
        refine lv_iconst (v := 1) hx hb dL_law_1084 (by decide) ?_
        refine lv_aload_n hx hb dL_law_1085 rfl (lv_at hl 0 rfl) ?_
        refine lv_bipush (v := 28) hx hb dL_law_1086 (by decide) ?_
        refine lv_iload hx hb dL_law_1088 (lv_at hl 8 rfl) ?_
        refine lv_iadd hx hb dL_law_1090 ?_
        obtain ⟨hk1091_1, hf⟩ := gd_s hf
        refine q_cell (rest := [.int (1 : Int32), .int x24, .int (1 : Int32), .ref ad_o]) hX hsc hk1091_1 hL wd939 ⟨Nat.le_of_ble_eq_true rfl, Nat.le_of_ble_eq_true rfl⟩ hP hD hS rfl (Nat.le_of_ble_eq_true rfl) hl.1 ⟨Nat.le_of_ble_eq_true rfl, Nat.le_of_ble_eq_true rfl⟩ dL_law_1091 (fun H locs hP hD hS => ?_)
        refine lv_bipush (v := 12) hx hb dL_law_1094 (by decide) ?_
        obtain ⟨z1096_2, hz1096_2, hf⟩ := bn_s hf
        refine kSi (rest := [.int (1 : Int32), .int x24, .int (1 : Int32), .ref ad_o]) hX (c_L_low l D cI cJ cR N (o_cell L xs ((28 : Int32) + x24)) (12 : Int32) hz1096_2) kc_L_low wd935 ⟨Nat.le_of_ble_eq_true rfl, Nat.le_of_ble_eq_true rfl⟩ ⟨rfl, rfl⟩ hP hD hS [] rfl (by decide) (fun w h => by cases h; rfl) rfl rfl (Nat.le_of_ble_eq_true rfl) hl.1 ⟨Nat.le_of_ble_eq_true rfl, Nat.le_of_ble_eq_true rfl⟩ dL_law_1096 (fun H locs w1 hw1 hP hD hS => ?_)
        cases hw1
        have hP : va_P D vwCl ([(ad_p, .inl (cI, 9, .inl pu)), (ad_d, .inl (cI, 54, .inl d))] ++ w) H := hP
        have hD : va_D A ([(ad_p, .inl (cI, 9, .inl pu)), (ad_d, .inl (cI, 54, .inl d))] ++ w) := hD
        refine lv_iadd hx hb dL_law_1099 ?_
        obtain ⟨z1100_3, hz1100_3, hf⟩ := bn_s hf
        refine q_lay [(ad_p, .inl (cI, 9, .inl pu)), (ad_d, .inl (cI, 54, .inl d))] (rest := []) hX hw hz1100_3 wd400 ⟨Nat.le_of_ble_eq_true rfl, Nat.le_of_ble_eq_true rfl⟩ hP hD hS rfl (Nat.le_of_ble_eq_true rfl) hl.1 ⟨Nat.le_of_ble_eq_true rfl, Nat.le_of_ble_eq_true rfl⟩ dL_law_1100 (fun H locs w hw hP hD hS => ?_)
        refine lv_iconst (v := 1) hx hb dL_law_1103 (by decide) ?_
        refine lv_icmp_eq (tgt := 1109) hx hb dL_law_1104 (by decide) (fun c1104 => ?_) (fun c1104 => ?_)
        · replace hf := ip c1104 hf
          refine lv_iinc (v := (x24 + (1 : Int32))) (lv' := [(24, .int (x24 + (1 : Int32))), (0, .ref bs), (1, .ref ad_o), (2, .int x2), (4, .int x4), (6, .int x6), (9, .ref ad_p), (10, .int x10), (11, .int x11)]) hx hb dL_law_1109 hl (k := 8) rfl rfl (by decide) rfl (fun ls hl => ?_)
          refine lv_goto (tgt := 1074) hx hb dL_law_1112 (by decide) ?_
          exact ih1074 _ _ w ad_p ad_d z1100_3.2 pu d x2 x4 x6 x10 x11 (x24 + (1 : Int32)) hw hP hD hS _ (lv_sub hl [1, 2, 3, 4, 5, 6, 7, 8, 0] rfl) hf
        · replace hf := iq c1104 hf
          refine lv_iconst (v := 0) hx hb dL_law_1107 (by decide) ?_
          exact hRet _ _ _ _ _ _ _ (Nat.le_of_ble_eq_true rfl) (Nat.le_of_ble_eq_true rfl) (Option.some.inj hf) hS dL_law_1108
  have hb1059 : ∀ (H : Heap) (locs : List Loc) (w : va_W) (ad_p : Nat) (ad_d : Nat) (th : TH) (pu : (Nat → Int32)) (d : (Nat → Int32)) (x2 : Int32) (x4 : Int32) (x6 : Int32) (x10 : Int32) (x11 : Int32), Ob cI cJ cR ad_o th w → va_P D vwCl ([(ad_p, .inl (cI, 9, .inl pu)), (ad_d, .inl (cI, 54, .inl d))] ++ w) H → va_D A ([(ad_p, .inl (cI, 9, .inl pu)), (ad_d, .inl (cI, 54, .inl d))] ++ w) → va_S A s.heap H locs → ∀ ls : Array Slot, lv_has ls 30 [(0, .ref bs), (1, .ref ad_o), (2, .int x2), (4, .int x4), (6, .int x6), (9, .ref ad_p), (10, .int x10), (11, .int x11)] → (f_L_law_b1059 N L xs) th pu d x2 x4 x6 x10 x11 = some o → W p l e room_1 s m args below meth c H locs 56 20270 Q (F0 m 1059 ls []) := by
    intro H locs w ad_p ad_d th pu d x2 x4 x6 x10 x11 hw hP hD hS ls hl hf
    unfold f_L_law_b1059 at hf
    refine lv_aload_n hx hb dL_law_1059 rfl (lv_at hl 1 rfl) ?_
    refine lv_iconst (v := 1) hx hb dL_law_1060 (by decide) ?_
    refine lv_iconst (v := 5) hx hb dL_law_1061 (by decide) ?_
    obtain ⟨z1062_1, hz1062_1, hf⟩ := bn_s hf
    refine q_row [(ad_p, .inl (cI, 9, .inl pu)), (ad_d, .inl (cI, 54, .inl d))] (rest := []) hX hw hz1062_1 wd372 ⟨Nat.le_of_ble_eq_true rfl, Nat.le_of_ble_eq_true rfl⟩ hP hD hS rfl (Nat.le_of_ble_eq_true rfl) hl.1 ⟨Nat.le_of_ble_eq_true rfl, Nat.le_of_ble_eq_true rfl⟩ dL_law_1062 (fun H locs w hw hP hD hS => ?_)
    refine lv_iconst (v := 5) hx hb dL_law_1065 (by decide) ?_
    refine lv_icmp_eq (tgt := 1071) hx hb dL_law_1066 (by decide) (fun c1066 => ?_) (fun c1066 => ?_)
    · replace hf := ip c1066 hf
      refine lv_iconst (v := 0) hx hb dL_law_1071 (by decide) ?_
      refine lv_istore (lv' := [(24, .int (0 : Int32)), (0, .ref bs), (1, .ref ad_o), (2, .int x2), (4, .int x4), (6, .int x6), (9, .ref ad_p), (10, .int x10), (11, .int x11)]) hx hb dL_law_1072 hl (by decide) rfl (fun ls hl => ?_)
      exact hb1074 N _ _ w ad_p ad_d z1062_1.2 pu d x2 x4 x6 x10 x11 (0 : Int32) hw hP hD hS _ (lv_sub hl [1, 2, 3, 4, 5, 6, 7, 8, 0] rfl) hf
    · replace hf := iq c1066 hf
      refine lv_iconst (v := 0) hx hb dL_law_1069 (by decide) ?_
      exact hRet _ _ _ _ _ _ _ (Nat.le_of_ble_eq_true rfl) (Nat.le_of_ble_eq_true rfl) (Option.some.inj hf) hS dL_law_1070
  have hb956 : ∀ n956 : Nat, ∀ (H : Heap) (locs : List Loc) (w : va_W) (ad_p : Nat) (ad_d : Nat) (th : TH) (pu : (Nat → Int32)) (d : (Nat → Int32)) (x2 : Int32) (x4 : Int32) (x6 : Int32) (x10 : Int32) (x11 : Int32) (x21 : Int32) (x22 : Int32) (x23 : Int32) (x24 : Int32), Ob cI cJ cR ad_o th w → va_P D vwCl ([(ad_p, .inl (cI, 9, .inl pu)), (ad_d, .inl (cI, 54, .inl d))] ++ w) H → va_D A ([(ad_p, .inl (cI, 9, .inl pu)), (ad_d, .inl (cI, 54, .inl d))] ++ w) → va_S A s.heap H locs → ∀ ls : Array Slot, lv_has ls 30 [(0, .ref bs), (1, .ref ad_o), (2, .int x2), (4, .int x4), (6, .int x6), (9, .ref ad_p), (10, .int x10), (11, .int x11), (21, .int x21), (22, .int x22), (23, .int x23), (24, .int x24)] → f_L_law_b956 N L xs (f_L_law_b1059 N L xs) n956 th pu d x2 x4 x6 x10 x11 x21 x22 x23 x24 = some o → W p l e room_1 s m args below meth c H locs 56 20270 Q (F0 m 956 ls []) := by
    intro n956
    induction n956 with
    | zero =>
      intro H locs w ad_p ad_d th pu d x2 x4 x6 x10 x11 x21 x22 x23 x24 hw hP hD hS ls hl hf
      rw [f_L_law_b956] at hf
      cases hf
    | succ n956 ih956 =>
      have hb1053 : ∀ (H : Heap) (locs : List Loc) (w : va_W) (ad_p : Nat) (ad_d : Nat) (th : TH) (pu : (Nat → Int32)) (d : (Nat → Int32)) (x2 : Int32) (x4 : Int32) (x6 : Int32) (x10 : Int32) (x11 : Int32) (x21 : Int32) (x22 : Int32) (x23 : Int32) (x24 : Int32), Ob cI cJ cR ad_o th w → va_P D vwCl ([(ad_p, .inl (cI, 9, .inl pu)), (ad_d, .inl (cI, 54, .inl d))] ++ w) H → va_D A ([(ad_p, .inl (cI, 9, .inl pu)), (ad_d, .inl (cI, 54, .inl d))] ++ w) → va_S A s.heap H locs → ∀ ls : Array Slot, lv_has ls 30 [(0, .ref bs), (1, .ref ad_o), (2, .int x2), (4, .int x4), (6, .int x6), (9, .ref ad_p), (10, .int x10), (11, .int x11), (21, .int x21), (22, .int x22), (23, .int x23), (24, .int x24)] → (f_L_law_b1053 N L xs (f_L_law_b956 N L xs (f_L_law_b1059 N L xs) n956) (f_L_law_b1059 N L xs)) th pu d x2 x4 x6 x10 x11 x21 x22 x23 x24 = some o → W p l e room_1 s m args below meth c H locs 56 20270 Q (F0 m 1053 ls []) := by
        intro H locs w ad_p ad_d th pu d x2 x4 x6 x10 x11 x21 x22 x23 x24 hw hP hD hS ls hl hf
        unfold f_L_law_b1053 at hf
        refine lv_iinc (v := (x24 + (1 : Int32))) (lv' := [(24, .int (x24 + (1 : Int32))), (0, .ref bs), (1, .ref ad_o), (2, .int x2), (4, .int x4), (6, .int x6), (9, .ref ad_p), (10, .int x10), (11, .int x11), (21, .int x21), (22, .int x22), (23, .int x23)]) hx hb dL_law_1053 hl (k := 11) rfl rfl (by decide) rfl (fun ls hl => ?_)
        refine lv_goto (tgt := 956) hx hb dL_law_1056 (by decide) ?_
        exact ih956 _ _ w ad_p ad_d th pu d x2 x4 x6 x10 x11 x21 x22 x23 (x24 + (1 : Int32)) hw hP hD hS _ (lv_sub hl [1, 2, 3, 4, 5, 6, 7, 8, 9, 10, 11, 0] rfl) hf
      have hb1028 : ∀ (H : Heap) (locs : List Loc) (w : va_W) (ad_p : Nat) (ad_d : Nat) (th : TH) (pu : (Nat → Int32)) (d : (Nat → Int32)) (x2 : Int32) (x4 : Int32) (x6 : Int32) (x10 : Int32) (x11 : Int32) (x21 : Int32) (x22 : Int32) (x23 : Int32) (x24 : Int32) (x25 : Int32) (y0 : Int32) (y1 : Int32), Ob cI cJ cR ad_o th w → va_P D vwCl ([(ad_p, .inl (cI, 9, .inl pu)), (ad_d, .inl (cI, 54, .inl d))] ++ w) H → va_D A ([(ad_p, .inl (cI, 9, .inl pu)), (ad_d, .inl (cI, 54, .inl d))] ++ w) → va_S A s.heap H locs → ∀ ls : Array Slot, lv_has ls 30 [(0, .ref bs), (1, .ref ad_o), (2, .int x2), (4, .int x4), (6, .int x6), (9, .ref ad_p), (10, .int x10), (11, .int x11), (21, .int x21), (22, .int x22), (23, .int x23), (24, .int x24), (25, .int x25)] → (f_L_law_b1028 N L xs (f_L_law_b956 N L xs (f_L_law_b1059 N L xs) n956) (f_L_law_b1059 N L xs)) th pu d x2 x4 x6 x10 x11 x21 x22 x23 x24 x25 y0 y1 = some o → W p l e room_1 s m args below meth c H locs 56 20270 Q (F0 m 1028 ls [.int y1, .int y0]) := by
        intro H locs w ad_p ad_d th pu d x2 x4 x6 x10 x11 x21 x22 x23 x24 x25 y0 y1 hw hP hD hS ls hl hf
        unfold f_L_law_b1028 at hf
        refine lv_icmp_ne (tgt := 1051) hx hb dL_law_1028 (by decide) (fun c1028 => ?_) (fun c1028 => ?_)
        · replace hf := iq c1028 hf
          refine lv_iconst (v := 0) hx hb dL_law_1051 (by decide) ?_
          exact hRet _ _ _ _ _ _ _ (Nat.le_of_ble_eq_true rfl) (Nat.le_of_ble_eq_true rfl) (Option.some.inj hf) hS dL_law_1052
        · replace hf := ip c1028 hf
          refine lv_aload_n hx hb dL_law_1031 rfl (lv_at hl 1 rfl) ?_
          obtain ⟨z1032_1, hz1032_1, hf⟩ := bn_s hf
          refine q_upper [(ad_p, .inl (cI, 9, .inl pu)), (ad_d, .inl (cI, 54, .inl d))] (rest := []) hX hw hz1032_1 wd905 ⟨Nat.le_of_ble_eq_true rfl, Nat.le_of_ble_eq_true rfl⟩ hP hD hS rfl (Nat.le_of_ble_eq_true rfl) hl.1 ⟨Nat.le_of_ble_eq_true rfl, Nat.le_of_ble_eq_true rfl⟩ dL_law_1032 (fun H locs w hw hP hD hS => ?_)
          refine lv_iload hx hb dL_law_1035 (lv_at hl 9 rfl) ?_
          refine lv_i2l hx hb dL_law_1037 rfl ?_
          refine lv_lmul hx hb dL_law_1038 ?_
          refine lv_aload_n hx hb dL_law_1039 rfl (lv_at hl 1 rfl) ?_
          obtain ⟨z1040_2, hz1040_2, hf⟩ := bn_s hf
          refine q_lower [(ad_p, .inl (cI, 9, .inl pu)), (ad_d, .inl (cI, 54, .inl d))] (rest := [.long (z1032_1.1 * (x22.toInt64))]) hX hw hz1040_2 wd909 ⟨Nat.le_of_ble_eq_true rfl, Nat.le_of_ble_eq_true rfl⟩ hP hD hS rfl (Nat.le_of_ble_eq_true rfl) hl.1 ⟨Nat.le_of_ble_eq_true rfl, Nat.le_of_ble_eq_true rfl⟩ dL_law_1040 (fun H locs w hw hP hD hS => ?_)
          refine lv_iload hx hb dL_law_1043 (lv_at hl 12 rfl) ?_
          refine lv_i2l hx hb dL_law_1045 rfl ?_
          refine lv_lmul hx hb dL_law_1046 ?_
          refine W.lcmp hx hb dL_law_1047 ?_
          refine lv_if_eq (tgt := 1053) hx hb dL_law_1048 (by decide) (fun c1048 => ?_) (fun c1048 => ?_)
          · have c1048 := (lg_cmp_eq _ _).mp c1048
            replace hf := ip c1048 hf
            exact hb1053 _ _ w ad_p ad_d z1040_2.2 pu d x2 x4 x6 x10 x11 x21 x22 x23 x24 hw hP hD hS _ (lv_sub hl [0, 1, 2, 3, 4, 5, 6, 7, 8, 9, 10, 11] rfl) hf
          · have c1048 := fun q => c1048 ((lg_cmp_eq _ _).mpr q)
            replace hf := iq c1048 hf
            refine lv_iconst (v := 0) hx hb dL_law_1051 (by decide) ?_
            exact hRet _ _ _ _ _ _ _ (Nat.le_of_ble_eq_true rfl) (Nat.le_of_ble_eq_true rfl) (Option.some.inj hf) hS dL_law_1052
      have hb1016 : ∀ (H : Heap) (locs : List Loc) (w : va_W) (ad_p : Nat) (ad_d : Nat) (th : TH) (pu : (Nat → Int32)) (d : (Nat → Int32)) (x2 : Int32) (x4 : Int32) (x6 : Int32) (x10 : Int32) (x11 : Int32) (x21 : Int32) (x22 : Int32) (x23 : Int32) (x24 : Int32) (x25 : Int32) (y0 : Int32), Ob cI cJ cR ad_o th w → va_P D vwCl ([(ad_p, .inl (cI, 9, .inl pu)), (ad_d, .inl (cI, 54, .inl d))] ++ w) H → va_D A ([(ad_p, .inl (cI, 9, .inl pu)), (ad_d, .inl (cI, 54, .inl d))] ++ w) → va_S A s.heap H locs → ∀ ls : Array Slot, lv_has ls 30 [(0, .ref bs), (1, .ref ad_o), (2, .int x2), (4, .int x4), (6, .int x6), (9, .ref ad_p), (10, .int x10), (11, .int x11), (21, .int x21), (22, .int x22), (23, .int x23), (24, .int x24), (25, .int x25)] → (f_L_law_b1016 N L xs (f_L_law_b956 N L xs (f_L_law_b1059 N L xs) n956) (f_L_law_b1059 N L xs)) th pu d x2 x4 x6 x10 x11 x21 x22 x23 x24 x25 y0 = some o → W p l e room_1 s m args below meth c H locs 56 20270 Q (F0 m 1016 ls [.int y0]) := by
        intro H locs w ad_p ad_d th pu d x2 x4 x6 x10 x11 x21 x22 x23 x24 x25 y0 hw hP hD hS ls hl hf
        unfold f_L_law_b1016 at hf
        refine lv_iload hx hb dL_law_1016 (lv_at hl 12 rfl) ?_
        refine lv_iload hx hb dL_law_1018 (lv_at hl 9 rfl) ?_
        refine lv_icmp_ne (tgt := 1027) hx hb dL_law_1020 (by decide) (fun c1020 => ?_) (fun c1020 => ?_)
        · simp only [if_neg c1020] at hf
          refine lv_iconst (v := 0) hx hb dL_law_1027 (by decide) ?_
          exact hb1028 _ _ w ad_p ad_d th pu d x2 x4 x6 x10 x11 x21 x22 x23 x24 x25 y0 (0 : Int32) hw hP hD hS _ (lv_sub hl [0, 1, 2, 3, 4, 5, 6, 7, 8, 9, 10, 11, 12] rfl) hf
        · simp only [if_pos c1020] at hf
          refine lv_iconst (v := 1) hx hb dL_law_1023 (by decide) ?_
          refine lv_goto (tgt := 1028) hx hb dL_law_1024 (by decide) ?_
          exact hb1028 _ _ w ad_p ad_d th pu d x2 x4 x6 x10 x11 x21 x22 x23 x24 x25 y0 (1 : Int32) hw hP hD hS _ (lv_sub hl [0, 1, 2, 3, 4, 5, 6, 7, 8, 9, 10, 11, 12] rfl) hf
      intro H locs w ad_p ad_d th pu d x2 x4 x6 x10 x11 x21 x22 x23 x24 hw hP hD hS ls hl hf
      rw [f_L_law_b956] at hf
      refine lv_iload hx hb dL_law_956 (lv_at hl 11 rfl) ?_
      refine lv_iload_n hx hb dL_law_958 rfl (lv_at hl 2 rfl) ?_
      refine lv_icmp_ge (tgt := 1059) hx hb dL_law_959 (by decide) (fun c959 => ?_) (fun c959 => ?_)
      · replace hf := ip c959 hf
        exact hb1059 _ _ w ad_p ad_d th pu d x2 x4 x6 x10 x11 hw hP hD hS _ (lv_sub hl [0, 1, 2, 3, 4, 5, 6, 7] rfl) hf
      · replace hf := iq c959 hf
        refine lv_iload hx hb dL_law_962 (lv_at hl 9 rfl) ?_
        refine lv_if_le (tgt := 1059) hx hb dL_law_964 (by decide) (fun c964 => ?_) (fun c964 => ?_)
        · replace hf := ip c964 hf
          exact hb1059 _ _ w ad_p ad_d th pu d x2 x4 x6 x10 x11 hw hP hD hS _ (lv_sub hl [0, 1, 2, 3, 4, 5, 6, 7] rfl) hf
        · replace hf := iq c964 hf
          refine lv_iload hx hb dL_law_967 (lv_at hl 6 rfl) ?_
          refine lv_iload hx hb dL_law_969 (lv_at hl 11 rfl) ?_
          refine lv_ishr hx hb dL_law_971 ?_
          refine lv_iconst (v := 1) hx hb dL_law_972 (by decide) ?_
          refine lv_iand hx hb dL_law_973 ?_
          refine lv_iconst (v := 1) hx hb dL_law_974 (by decide) ?_
          refine lv_icmp_ne (tgt := 1053) hx hb dL_law_975 (by decide) (fun c975 => ?_) (fun c975 => ?_)
          · replace hf := iq c975 hf
            exact hb1053 _ _ w ad_p ad_d th pu d x2 x4 x6 x10 x11 x21 x22 x23 x24 hw hP hD hS _ (lv_sub hl [0, 1, 2, 3, 4, 5, 6, 7, 8, 9, 10, 11] rfl) hf
          · replace hf := ip c975 hf
            refine lv_aload_n hx hb dL_law_978 rfl (lv_at hl 1 rfl) ?_
            refine lv_iload hx hb dL_law_979 (lv_at hl 11 rfl) ?_
            refine lv_iload hx hb dL_law_981 (lv_at hl 8 rfl) ?_
            obtain ⟨z983_1, hz983_1, hf⟩ := bn_s hf
            refine q_gaveNone [(ad_p, .inl (cI, 9, .inl pu)), (ad_d, .inl (cI, 54, .inl d))] (rest := []) hX hw hz983_1 wd808 ⟨Nat.le_of_ble_eq_true rfl, Nat.le_of_ble_eq_true rfl⟩ hP hD hS rfl (Nat.le_of_ble_eq_true rfl) hl.1 ⟨Nat.le_of_ble_eq_true rfl, Nat.le_of_ble_eq_true rfl⟩ dL_law_983 (fun H locs w hw hP hD hS => ?_)
            refine lv_istore (lv' := [(25, .int z983_1.1), (0, .ref bs), (1, .ref ad_o), (2, .int x2), (4, .int x4), (6, .int x6), (9, .ref ad_p), (10, .int x10), (11, .int x11), (21, .int x21), (22, .int x22), (23, .int x23), (24, .int x24)]) hx hb dL_law_986 hl (by decide) rfl (fun ls hl => ?_)
            refine lv_iload hx hb dL_law_988 (lv_at hl 0 rfl) ?_
            refine lv_if_lt (tgt := 1051) hx hb dL_law_990 (by decide) (fun c990 => ?_) (fun c990 => ?_)
            · replace hf := ip c990 hf
              refine lv_iconst (v := 0) hx hb dL_law_1051 (by decide) ?_
              exact hRet _ _ _ _ _ _ _ (Nat.le_of_ble_eq_true rfl) (Nat.le_of_ble_eq_true rfl) (Option.some.inj hf) hS dL_law_1052
            · replace hf := iq c990 hf
              refine lv_iload hx hb dL_law_993 (lv_at hl 0 rfl) ?_
              refine lv_iload hx hb dL_law_995 (lv_at hl 10 rfl) ?_
              refine lv_icmp_gt (tgt := 1051) hx hb dL_law_997 (by decide) (fun c997 => ?_) (fun c997 => ?_)
              · replace hf := ip c997 hf
                refine lv_iconst (v := 0) hx hb dL_law_1051 (by decide) ?_
                exact hRet _ _ _ _ _ _ _ (Nat.le_of_ble_eq_true rfl) (Nat.le_of_ble_eq_true rfl) (Option.some.inj hf) hS dL_law_1052
              · replace hf := iq c997 hf
                refine lv_iload hx hb dL_law_1000 (lv_at hl 11 rfl) ?_
                refine lv_iload hx hb dL_law_1002 (lv_at hl 12 rfl) ?_
                refine lv_ishr hx hb dL_law_1004 ?_
                refine lv_iconst (v := 1) hx hb dL_law_1005 (by decide) ?_
                refine lv_iand hx hb dL_law_1006 ?_
                refine lv_iconst (v := 1) hx hb dL_law_1007 (by decide) ?_
                refine lv_icmp_ne (tgt := 1015) hx hb dL_law_1008 (by decide) (fun c1008 => ?_) (fun c1008 => ?_)
                · simp only [if_neg c1008] at hf
                  refine lv_iconst (v := 0) hx hb dL_law_1015 (by decide) ?_
                  exact hb1016 _ _ w ad_p ad_d z983_1.2 pu d x2 x4 x6 x10 x11 x21 x22 x23 x24 z983_1.1 (0 : Int32) hw hP hD hS _ (lv_sub hl [1, 2, 3, 4, 5, 6, 7, 8, 9, 10, 11, 12, 0] rfl) hf
                · simp only [if_pos c1008] at hf
                  refine lv_iconst (v := 1) hx hb dL_law_1011 (by decide) ?_
                  refine lv_goto (tgt := 1016) hx hb dL_law_1012 (by decide) ?_
                  exact hb1016 _ _ w ad_p ad_d z983_1.2 pu d x2 x4 x6 x10 x11 x21 x22 x23 x24 z983_1.1 (1 : Int32) hw hP hD hS _ (lv_sub hl [1, 2, 3, 4, 5, 6, 7, 8, 9, 10, 11, 12, 0] rfl) hf
  have hb909 : ∀ (H : Heap) (locs : List Loc) (w : va_W) (ad_p : Nat) (ad_d : Nat) (th : TH) (pu : (Nat → Int32)) (d : (Nat → Int32)) (x2 : Int32) (x4 : Int32) (x6 : Int32) (x10 : Int32) (x11 : Int32), Ob cI cJ cR ad_o th w → va_P D vwCl ([(ad_p, .inl (cI, 9, .inl pu)), (ad_d, .inl (cI, 54, .inl d))] ++ w) H → va_D A ([(ad_p, .inl (cI, 9, .inl pu)), (ad_d, .inl (cI, 54, .inl d))] ++ w) → va_S A s.heap H locs → ∀ ls : Array Slot, lv_has ls 30 [(0, .ref bs), (1, .ref ad_o), (2, .int x2), (4, .int x4), (6, .int x6), (9, .ref ad_p), (10, .int x10), (11, .int x11)] → (f_L_law_b909 N L xs) th pu d x2 x4 x6 x10 x11 = some o → W p l e room_1 s m args below meth c H locs 56 20270 Q (F0 m 909 ls []) := by
    intro H locs w ad_p ad_d th pu d x2 x4 x6 x10 x11 hw hP hD hS ls hl hf
    unfold f_L_law_b909 at hf
    refine lv_aload_n hx hb dL_law_909 rfl (lv_at hl 0 rfl) ?_
    refine lv_bipush (v := 27) hx hb dL_law_910 (by decide) ?_
    refine q_cell (rest := []) hX hsc (by decide) hL wd939 ⟨Nat.le_of_ble_eq_true rfl, Nat.le_of_ble_eq_true rfl⟩ hP hD hS rfl (Nat.le_of_ble_eq_true rfl) hl.1 ⟨Nat.le_of_ble_eq_true rfl, Nat.le_of_ble_eq_true rfl⟩ dL_law_912 (fun H locs hP hD hS => ?_)
    refine lv_bipush (v := 30) hx hb dL_law_915 (by decide) ?_
    obtain ⟨z917_1, hz917_1, hf⟩ := bn_s hf
    refine kSi (rest := []) hX (c_L_low l D cI cJ cR N (o_cell L xs (27 : Int32)) (30 : Int32) hz917_1) kc_L_low wd935 ⟨Nat.le_of_ble_eq_true rfl, Nat.le_of_ble_eq_true rfl⟩ ⟨rfl, rfl⟩ hP hD hS [] rfl (by decide) (fun w h => by cases h; rfl) rfl rfl (Nat.le_of_ble_eq_true rfl) hl.1 ⟨Nat.le_of_ble_eq_true rfl, Nat.le_of_ble_eq_true rfl⟩ dL_law_917 (fun H locs w1 hw1 hP hD hS => ?_)
    cases hw1
    have hP : va_P D vwCl ([(ad_p, .inl (cI, 9, .inl pu)), (ad_d, .inl (cI, 54, .inl d))] ++ w) H := hP
    have hD : va_D A ([(ad_p, .inl (cI, 9, .inl pu)), (ad_d, .inl (cI, 54, .inl d))] ++ w) := hD
    refine lv_istore (lv' := [(21, .int z917_1), (0, .ref bs), (1, .ref ad_o), (2, .int x2), (4, .int x4), (6, .int x6), (9, .ref ad_p), (10, .int x10), (11, .int x11)]) hx hb dL_law_920 hl (by decide) rfl (fun ls hl => ?_)
    refine lv_aload_n hx hb dL_law_922 rfl (lv_at hl 2 rfl) ?_
    refine lv_iload hx hb dL_law_923 (lv_at hl 0 rfl) ?_
    obtain ⟨z925_2, hz925_2, hf⟩ := bn_s hf
    refine q_nothing [(ad_p, .inl (cI, 9, .inl pu)), (ad_d, .inl (cI, 54, .inl d))] (rest := []) hX hw hz925_2 wd799 ⟨Nat.le_of_ble_eq_true rfl, Nat.le_of_ble_eq_true rfl⟩ hP hD hS rfl (Nat.le_of_ble_eq_true rfl) hl.1 ⟨Nat.le_of_ble_eq_true rfl, Nat.le_of_ble_eq_true rfl⟩ dL_law_925 (fun H locs w hw hP hD hS => ?_)
    refine lv_istore (lv' := [(22, .int z925_2.1), (21, .int z917_1), (0, .ref bs), (1, .ref ad_o), (2, .int x2), (4, .int x4), (6, .int x6), (9, .ref ad_p), (10, .int x10), (11, .int x11)]) hx hb dL_law_928 hl (by decide) rfl (fun ls hl => ?_)
    refine lv_aload_n hx hb dL_law_930 rfl (lv_at hl 3 rfl) ?_
    obtain ⟨z931_3, hz931_3, hf⟩ := bn_s hf
    refine q_asked [(ad_p, .inl (cI, 9, .inl pu)), (ad_d, .inl (cI, 54, .inl d))] (rest := []) hX hw hz931_3 wd901 ⟨Nat.le_of_ble_eq_true rfl, Nat.le_of_ble_eq_true rfl⟩ hP hD hS rfl (Nat.le_of_ble_eq_true rfl) hl.1 ⟨Nat.le_of_ble_eq_true rfl, Nat.le_of_ble_eq_true rfl⟩ dL_law_931 (fun H locs w hw hP hD hS => ?_)
    refine lv_istore (lv' := [(23, .int z931_3.1), (22, .int z925_2.1), (21, .int z917_1), (0, .ref bs), (1, .ref ad_o), (2, .int x2), (4, .int x4), (6, .int x6), (9, .ref ad_p), (10, .int x10), (11, .int x11)]) hx hb dL_law_934 hl (by decide) rfl (fun ls hl => ?_)
    refine lv_iload hx hb dL_law_936 (lv_at hl 1 rfl) ?_
    refine lv_if_lt (tgt := 951) hx hb dL_law_938 (by decide) (fun c938 => ?_) (fun c938 => ?_)
    · replace hf := ip c938 hf
      refine lv_iconst (v := 0) hx hb dL_law_951 (by decide) ?_
      exact hRet _ _ _ _ _ _ _ (Nat.le_of_ble_eq_true rfl) (Nat.le_of_ble_eq_true rfl) (Option.some.inj hf) hS dL_law_952
    · replace hf := iq c938 hf
      refine lv_iload hx hb dL_law_941 (lv_at hl 0 rfl) ?_
      refine lv_iload hx hb dL_law_943 (lv_at hl 9 rfl) ?_
      refine lv_iconst (v := -1) hx hb dL_law_945 (by decide) ?_
      refine lv_ixor hx hb dL_law_946 ?_
      refine lv_iand hx hb dL_law_947 ?_
      refine lv_if_eq (tgt := 953) hx hb dL_law_948 (by decide) (fun c948 => ?_) (fun c948 => ?_)
      · replace hf := ip c948 hf
        refine lv_iconst (v := 0) hx hb dL_law_953 (by decide) ?_
        refine lv_istore (lv' := [(24, .int (0 : Int32)), (23, .int z931_3.1), (22, .int z925_2.1), (21, .int z917_1), (0, .ref bs), (1, .ref ad_o), (2, .int x2), (4, .int x4), (6, .int x6), (9, .ref ad_p), (10, .int x10), (11, .int x11)]) hx hb dL_law_954 hl (by decide) rfl (fun ls hl => ?_)
        exact hb956 N _ _ w ad_p ad_d z931_3.2 pu d x2 x4 x6 x10 x11 z917_1 z925_2.1 z931_3.1 (0 : Int32) hw hP hD hS _ (lv_sub hl [4, 5, 6, 7, 8, 9, 10, 11, 3, 2, 1, 0] rfl) hf
      · replace hf := iq c948 hf
        refine lv_iconst (v := 0) hx hb dL_law_951 (by decide) ?_
        exact hRet _ _ _ _ _ _ _ (Nat.le_of_ble_eq_true rfl) (Nat.le_of_ble_eq_true rfl) (Option.some.inj hf) hS dL_law_952
  have hb890 : ∀ (H : Heap) (locs : List Loc) (w : va_W) (ad_p : Nat) (ad_d : Nat) (th : TH) (pu : (Nat → Int32)) (d : (Nat → Int32)) (x2 : Int32) (x4 : Int32) (x6 : Int32) (x10 : Int32) (x11 : Int32) (x20 : Int32) (x21 : Int32) (x22 : Int32), Ob cI cJ cR ad_o th w → va_P D vwCl ([(ad_p, .inl (cI, 9, .inl pu)), (ad_d, .inl (cI, 54, .inl d))] ++ w) H → va_D A ([(ad_p, .inl (cI, 9, .inl pu)), (ad_d, .inl (cI, 54, .inl d))] ++ w) → va_S A s.heap H locs → ∀ ls : Array Slot, lv_has ls 30 [(0, .ref bs), (1, .ref ad_o), (2, .int x2), (4, .int x4), (6, .int x6), (9, .ref ad_p), (10, .int x10), (11, .int x11), (20, .int x20), (21, .int x21), (22, .int x22)] → (f_L_law_b890 N L xs) th pu d x2 x4 x6 x10 x11 x20 x21 x22 = some o → W p l e room_1 s m args below meth c H locs 56 20270 Q (F0 m 890 ls []) := by
    intro H locs w ad_p ad_d th pu d x2 x4 x6 x10 x11 x20 x21 x22 hw hP hD hS ls hl hf
    unfold f_L_law_b890 at hf
    refine lv_iload hx hb dL_law_890 (lv_at hl 10 rfl) ?_
    refine lv_if_ne (tgt := 909) hx hb dL_law_892 (by decide) (fun c892 => ?_) (fun c892 => ?_)
    · replace hf := iq c892 hf
      exact hb909 _ _ w ad_p ad_d th pu d x2 x4 x6 x10 x11 hw hP hD hS _ (lv_sub hl [0, 1, 2, 3, 4, 5, 6, 7] rfl) hf
    · replace hf := ip c892 hf
      refine lv_iload hx hb dL_law_895 (lv_at hl 9 rfl) ?_
      refine lv_aload_n hx hb dL_law_897 rfl (lv_at hl 1 rfl) ?_
      obtain ⟨z898_1, hz898_1, hf⟩ := bn_s hf
      refine q_coins [(ad_p, .inl (cI, 9, .inl pu)), (ad_d, .inl (cI, 54, .inl d))] (rest := [.int x21]) hX hw hz898_1 wd593 ⟨Nat.le_of_ble_eq_true rfl, Nat.le_of_ble_eq_true rfl⟩ hP hD hS rfl (Nat.le_of_ble_eq_true rfl) hl.1 ⟨Nat.le_of_ble_eq_true rfl, Nat.le_of_ble_eq_true rfl⟩ dL_law_898 (fun H locs w hw hP hD hS => ?_)
      refine lv_iload hx hb dL_law_901 (lv_at hl 8 rfl) ?_
      refine lv_iadd hx hb dL_law_903 ?_
      refine lv_icmp_le (tgt := 909) hx hb dL_law_904 (by decide) (fun c904 => ?_) (fun c904 => ?_)
      · replace hf := ip c904 hf
        exact hb909 _ _ w ad_p ad_d z898_1.2 pu d x2 x4 x6 x10 x11 hw hP hD hS _ (lv_sub hl [0, 1, 2, 3, 4, 5, 6, 7] rfl) hf
      · replace hf := iq c904 hf
        refine lv_iconst (v := 0) hx hb dL_law_907 (by decide) ?_
        exact hRet _ _ _ _ _ _ _ (Nat.le_of_ble_eq_true rfl) (Nat.le_of_ble_eq_true rfl) (Option.some.inj hf) hS dL_law_908
  have hb767 : ∀ (H : Heap) (locs : List Loc) (w : va_W) (ad_p : Nat) (ad_d : Nat) (th : TH) (pu : (Nat → Int32)) (d : (Nat → Int32)) (x2 : Int32) (x4 : Int32) (x6 : Int32) (x10 : Int32) (x11 : Int32) (x18 : Int32) (y0 : Int32), Ob cI cJ cR ad_o th w → va_P D vwCl ([(ad_p, .inl (cI, 9, .inl pu)), (ad_d, .inl (cI, 54, .inl d))] ++ w) H → va_D A ([(ad_p, .inl (cI, 9, .inl pu)), (ad_d, .inl (cI, 54, .inl d))] ++ w) → va_S A s.heap H locs → ∀ ls : Array Slot, lv_has ls 30 [(0, .ref bs), (1, .ref ad_o), (2, .int x2), (4, .int x4), (6, .int x6), (9, .ref ad_p), (10, .int x10), (11, .int x11), (18, .int x18)] → (f_L_law_b767 N L xs) th pu d x2 x4 x6 x10 x11 x18 y0 = some o → W p l e room_1 s m args below meth c H locs 56 20270 Q (F0 m 767 ls [.int y0]) := by
    intro H locs w ad_p ad_d th pu d x2 x4 x6 x10 x11 x18 y0 hw hP hD hS ls hl hf
    unfold f_L_law_b767 at hf
    refine lv_istore (lv' := [(19, .int y0), (0, .ref bs), (1, .ref ad_o), (2, .int x2), (4, .int x4), (6, .int x6), (9, .ref ad_p), (10, .int x10), (11, .int x11), (18, .int x18)]) hx hb dL_law_767 hl (by decide) rfl (fun ls hl => ?_)
    refine lv_aload_n hx hb dL_law_769 rfl (lv_at hl 2 rfl) ?_
    obtain ⟨z770_1, hz770_1, hf⟩ := bn_s hf
    refine q_asked [(ad_p, .inl (cI, 9, .inl pu)), (ad_d, .inl (cI, 54, .inl d))] (rest := []) hX hw hz770_1 wd901 ⟨Nat.le_of_ble_eq_true rfl, Nat.le_of_ble_eq_true rfl⟩ hP hD hS rfl (Nat.le_of_ble_eq_true rfl) hl.1 ⟨Nat.le_of_ble_eq_true rfl, Nat.le_of_ble_eq_true rfl⟩ dL_law_770 (fun H locs w hw hP hD hS => ?_)
    refine lv_istore (lv' := [(20, .int z770_1.1), (19, .int y0), (0, .ref bs), (1, .ref ad_o), (2, .int x2), (4, .int x4), (6, .int x6), (9, .ref ad_p), (10, .int x10), (11, .int x11), (18, .int x18)]) hx hb dL_law_773 hl (by decide) rfl (fun ls hl => ?_)
    refine lv_iload hx hb dL_law_775 (lv_at hl 1 rfl) ?_
    refine lv_if_lt (tgt := 909) hx hb dL_law_777 (by decide) (fun c777 => ?_) (fun c777 => ?_)
    · replace hf := ip c777 hf
      exact hb909 _ _ w ad_p ad_d z770_1.2 pu d x2 x4 x6 x10 x11 hw hP hD hS _ (lv_sub hl [2, 3, 4, 5, 6, 7, 8, 9] rfl) hf
    · replace hf := iq c777 hf
      refine lv_aload_n hx hb dL_law_780 rfl (lv_at hl 3 rfl) ?_
      refine lv_iload hx hb dL_law_781 (lv_at hl 10 rfl) ?_
      refine lv_iconst (v := 0) hx hb dL_law_783 (by decide) ?_
      obtain ⟨z784_2, hz784_2, hf⟩ := bn_s hf
      refine q_most [(ad_p, .inl (cI, 9, .inl pu)), (ad_d, .inl (cI, 54, .inl d))] (rest := []) hX hw hz784_2 wd745 ⟨Nat.le_of_ble_eq_true rfl, Nat.le_of_ble_eq_true rfl⟩ hP hD hS rfl (Nat.le_of_ble_eq_true rfl) hl.1 ⟨Nat.le_of_ble_eq_true rfl, Nat.le_of_ble_eq_true rfl⟩ dL_law_784 (fun H locs w hw hP hD hS => ?_)
      refine lv_iload hx hb dL_law_787 (lv_at hl 0 rfl) ?_
      refine lv_icmp_ne (tgt := 826) hx hb dL_law_789 (by decide) (fun c789 => ?_) (fun c789 => ?_)
      · replace hf := iq c789 hf
        refine lv_iconst (v := 0) hx hb dL_law_826 (by decide) ?_
        exact hRet _ _ _ _ _ _ _ (Nat.le_of_ble_eq_true rfl) (Nat.le_of_ble_eq_true rfl) (Option.some.inj hf) hS dL_law_827
      · replace hf := ip c789 hf
        refine lv_aload_n hx hb dL_law_792 rfl (lv_at hl 3 rfl) ?_
        refine lv_iconst (v := 0) hx hb dL_law_793 (by decide) ?_
        obtain ⟨z794_3, hz794_3, hf⟩ := bn_s hf
        refine q_order [(ad_p, .inl (cI, 9, .inl pu)), (ad_d, .inl (cI, 54, .inl d))] (rest := []) hX hw hz794_3 wd710 ⟨Nat.le_of_ble_eq_true rfl, Nat.le_of_ble_eq_true rfl⟩ hP hD hS rfl (Nat.le_of_ble_eq_true rfl) hl.1 ⟨Nat.le_of_ble_eq_true rfl, Nat.le_of_ble_eq_true rfl⟩ dL_law_794 (fun H locs w hw hP hD hS => ?_)
        refine lv_iload hx hb dL_law_797 (lv_at hl 0 rfl) ?_
        refine lv_icmp_ne (tgt := 826) hx hb dL_law_799 (by decide) (fun c799 => ?_) (fun c799 => ?_)
        · replace hf := iq c799 hf
          refine lv_iconst (v := 0) hx hb dL_law_826 (by decide) ?_
          exact hRet _ _ _ _ _ _ _ (Nat.le_of_ble_eq_true rfl) (Nat.le_of_ble_eq_true rfl) (Option.some.inj hf) hS dL_law_827
        · replace hf := ip c799 hf
          refine lv_iload hx hb dL_law_802 (lv_at hl 1 rfl) ?_
          refine lv_iload hx hb dL_law_804 (lv_at hl 0 rfl) ?_
          refine lv_icmp_gt (tgt := 826) hx hb dL_law_806 (by decide) (fun c806 => ?_) (fun c806 => ?_)
          · replace hf := ip c806 hf
            refine lv_iconst (v := 0) hx hb dL_law_826 (by decide) ?_
            exact hRet _ _ _ _ _ _ _ (Nat.le_of_ble_eq_true rfl) (Nat.le_of_ble_eq_true rfl) (Option.some.inj hf) hS dL_law_827
          · replace hf := iq c806 hf
            refine lv_aload_n hx hb dL_law_809 rfl (lv_at hl 3 rfl) ?_
            refine lv_iconst (v := 0) hx hb dL_law_810 (by decide) ?_
            obtain ⟨z811_4, hz811_4, hf⟩ := bn_s hf
            refine q_best [(ad_p, .inl (cI, 9, .inl pu)), (ad_d, .inl (cI, 54, .inl d))] (rest := []) hX hw hz811_4 wd790 ⟨Nat.le_of_ble_eq_true rfl, Nat.le_of_ble_eq_true rfl⟩ hP hD hS rfl (Nat.le_of_ble_eq_true rfl) hl.1 ⟨Nat.le_of_ble_eq_true rfl, Nat.le_of_ble_eq_true rfl⟩ dL_law_811 (fun H locs w hw hP hD hS => ?_)
            refine lv_if_lt (tgt := 826) hx hb dL_law_814 (by decide) (fun c814 => ?_) (fun c814 => ?_)
            · replace hf := ip c814 hf
              refine lv_iconst (v := 0) hx hb dL_law_826 (by decide) ?_
              exact hRet _ _ _ _ _ _ _ (Nat.le_of_ble_eq_true rfl) (Nat.le_of_ble_eq_true rfl) (Option.some.inj hf) hS dL_law_827
            · replace hf := iq c814 hf
              refine lv_aload_n hx hb dL_law_817 rfl (lv_at hl 3 rfl) ?_
              obtain ⟨z818_5, hz818_5, hf⟩ := bn_s hf
              refine q_asked [(ad_p, .inl (cI, 9, .inl pu)), (ad_d, .inl (cI, 54, .inl d))] (rest := []) hX hw hz818_5 wd901 ⟨Nat.le_of_ble_eq_true rfl, Nat.le_of_ble_eq_true rfl⟩ hP hD hS rfl (Nat.le_of_ble_eq_true rfl) hl.1 ⟨Nat.le_of_ble_eq_true rfl, Nat.le_of_ble_eq_true rfl⟩ dL_law_818 (fun H locs w hw hP hD hS => ?_)
              refine lv_iload hx hb dL_law_821 (lv_at hl 0 rfl) ?_
              refine lv_icmp_ge (tgt := 828) hx hb dL_law_823 (by decide) (fun c823 => ?_) (fun c823 => ?_)
              · replace hf := ip c823 hf
                refine lv_aload_n hx hb dL_law_828 rfl (lv_at hl 2 rfl) ?_
                refine lv_bipush (v := 26) hx hb dL_law_829 (by decide) ?_
                refine q_cell (rest := []) hX hsc (by decide) hL wd939 ⟨Nat.le_of_ble_eq_true rfl, Nat.le_of_ble_eq_true rfl⟩ hP hD hS rfl (Nat.le_of_ble_eq_true rfl) hl.1 ⟨Nat.le_of_ble_eq_true rfl, Nat.le_of_ble_eq_true rfl⟩ dL_law_831 (fun H locs hP hD hS => ?_)
                refine lv_sipush (v := 200) hx hb dL_law_834 (by decide) ?_
                obtain ⟨z837_6, hz837_6, hf⟩ := bn_s hf
                refine kSi (rest := []) hX (c_L_low l D cI cJ cR N (o_cell L xs (26 : Int32)) (200 : Int32) hz837_6) kc_L_low wd935 ⟨Nat.le_of_ble_eq_true rfl, Nat.le_of_ble_eq_true rfl⟩ ⟨rfl, rfl⟩ hP hD hS [] rfl (by decide) (fun w h => by cases h; rfl) rfl rfl (Nat.le_of_ble_eq_true rfl) hl.1 ⟨Nat.le_of_ble_eq_true rfl, Nat.le_of_ble_eq_true rfl⟩ dL_law_837 (fun H locs w1 hw1 hP hD hS => ?_)
                cases hw1
                have hP : va_P D vwCl ([(ad_p, .inl (cI, 9, .inl pu)), (ad_d, .inl (cI, 54, .inl d))] ++ w) H := hP
                have hD : va_D A ([(ad_p, .inl (cI, 9, .inl pu)), (ad_d, .inl (cI, 54, .inl d))] ++ w) := hD
                refine lv_istore (lv' := [(21, .int z837_6), (20, .int z770_1.1), (19, .int y0), (0, .ref bs), (1, .ref ad_o), (2, .int x2), (4, .int x4), (6, .int x6), (9, .ref ad_p), (10, .int x10), (11, .int x11), (18, .int x18)]) hx hb dL_law_840 hl (by decide) rfl (fun ls hl => ?_)
                refine lv_aload_n hx hb dL_law_842 rfl (lv_at hl 4 rfl) ?_
                refine lv_iload hx hb dL_law_843 (lv_at hl 0 rfl) ?_
                obtain ⟨z845_7, hz845_7, hf⟩ := bn_s hf
                refine q_fill [(ad_p, .inl (cI, 9, .inl pu)), (ad_d, .inl (cI, 54, .inl d))] (rest := []) hX hw hz845_7 wd794 ⟨Nat.le_of_ble_eq_true rfl, Nat.le_of_ble_eq_true rfl⟩ hP hD hS rfl (Nat.le_of_ble_eq_true rfl) hl.1 ⟨Nat.le_of_ble_eq_true rfl, Nat.le_of_ble_eq_true rfl⟩ dL_law_845 (fun H locs w hw hP hD hS => ?_)
                refine lv_istore (lv' := [(22, .int z845_7.1), (21, .int z837_6), (20, .int z770_1.1), (19, .int y0), (0, .ref bs), (1, .ref ad_o), (2, .int x2), (4, .int x4), (6, .int x6), (9, .ref ad_p), (10, .int x10), (11, .int x11), (18, .int x18)]) hx hb dL_law_848 hl (by decide) rfl (fun ls hl => ?_)
                refine lv_iload hx hb dL_law_850 (lv_at hl 0 rfl) ?_
                refine lv_if_lt (tgt := 907) hx hb dL_law_852 (by decide) (fun c852 => ?_) (fun c852 => ?_)
                · replace hf := ip c852 hf
                  refine lv_iconst (v := 0) hx hb dL_law_907 (by decide) ?_
                  exact hRet _ _ _ _ _ _ _ (Nat.le_of_ble_eq_true rfl) (Nat.le_of_ble_eq_true rfl) (Option.some.inj hf) hS dL_law_908
                · replace hf := iq c852 hf
                  refine lv_iload hx hb dL_law_855 (lv_at hl 0 rfl) ?_
                  refine lv_if_le (tgt := 890) hx hb dL_law_857 (by decide) (fun c857 => ?_) (fun c857 => ?_)
                  · replace hf := ip c857 hf
                    exact hb890 _ _ w ad_p ad_d z845_7.2 pu d x2 x4 x6 x10 x11 z770_1.1 z837_6 z845_7.1 hw hP hD hS _ (lv_sub hl [4, 5, 6, 7, 8, 9, 10, 11, 2, 1, 0] rfl) hf
                  · replace hf := iq c857 hf
                    refine lv_iload hx hb dL_law_860 (lv_at hl 1 rfl) ?_
                    refine lv_iload hx hb dL_law_862 (lv_at hl 0 rfl) ?_
                    refine lv_isub hx hb dL_law_864 ?_
                    refine lv_aload_n hx hb dL_law_865 rfl (lv_at hl 5 rfl) ?_
                    obtain ⟨z866_8, hz866_8, hf⟩ := bn_s hf
                    refine q_coins [(ad_p, .inl (cI, 9, .inl pu)), (ad_d, .inl (cI, 54, .inl d))] (rest := [.int (z837_6 - z845_7.1)]) hX hw hz866_8 wd593 ⟨Nat.le_of_ble_eq_true rfl, Nat.le_of_ble_eq_true rfl⟩ hP hD hS rfl (Nat.le_of_ble_eq_true rfl) hl.1 ⟨Nat.le_of_ble_eq_true rfl, Nat.le_of_ble_eq_true rfl⟩ dL_law_866 (fun H locs w hw hP hD hS => ?_)
                    refine lv_isub hx hb dL_law_869 ?_
                    refine lv_iload hx hb dL_law_870 (lv_at hl 3 rfl) ?_
                    refine lv_icmp_lt (tgt := 907) hx hb dL_law_872 (by decide) (fun c872 => ?_) (fun c872 => ?_)
                    · replace hf := ip c872 hf
                      refine lv_iconst (v := 0) hx hb dL_law_907 (by decide) ?_
                      exact hRet _ _ _ _ _ _ _ (Nat.le_of_ble_eq_true rfl) (Nat.le_of_ble_eq_true rfl) (Option.some.inj hf) hS dL_law_908
                    · replace hf := iq c872 hf
                      refine lv_iload hx hb dL_law_875 (lv_at hl 1 rfl) ?_
                      refine lv_iload hx hb dL_law_877 (lv_at hl 0 rfl) ?_
                      refine lv_isub hx hb dL_law_879 ?_
                      refine lv_aload_n hx hb dL_law_880 rfl (lv_at hl 5 rfl) ?_
                      obtain ⟨z881_9, hz881_9, hf⟩ := bn_s hf
                      refine q_coins [(ad_p, .inl (cI, 9, .inl pu)), (ad_d, .inl (cI, 54, .inl d))] (rest := [.int (z837_6 - z845_7.1)]) hX hw hz881_9 wd593 ⟨Nat.le_of_ble_eq_true rfl, Nat.le_of_ble_eq_true rfl⟩ hP hD hS rfl (Nat.le_of_ble_eq_true rfl) hl.1 ⟨Nat.le_of_ble_eq_true rfl, Nat.le_of_ble_eq_true rfl⟩ dL_law_881 (fun H locs w hw hP hD hS => ?_)
                      refine lv_isub hx hb dL_law_884 ?_
                      refine lv_iload hx hb dL_law_885 (lv_at hl 2 rfl) ?_
                      refine lv_icmp_gt (tgt := 907) hx hb dL_law_887 (by decide) (fun c887 => ?_) (fun c887 => ?_)
                      · replace hf := ip c887 hf
                        refine lv_iconst (v := 0) hx hb dL_law_907 (by decide) ?_
                        exact hRet _ _ _ _ _ _ _ (Nat.le_of_ble_eq_true rfl) (Nat.le_of_ble_eq_true rfl) (Option.some.inj hf) hS dL_law_908
                      · replace hf := iq c887 hf
                        exact hb890 _ _ w ad_p ad_d z881_9.2 pu d x2 x4 x6 x10 x11 z770_1.1 z837_6 z845_7.1 hw hP hD hS _ (lv_sub hl [4, 5, 6, 7, 8, 9, 10, 11, 2, 1, 0] rfl) hf
              · replace hf := iq c823 hf
                refine lv_iconst (v := 0) hx hb dL_law_826 (by decide) ?_
                exact hRet _ _ _ _ _ _ _ (Nat.le_of_ble_eq_true rfl) (Nat.le_of_ble_eq_true rfl) (Option.some.inj hf) hS dL_law_827
  have hb679 : ∀ (H : Heap) (locs : List Loc) (w : va_W) (ad_p : Nat) (ad_d : Nat) (th : TH) (pu : (Nat → Int32)) (d : (Nat → Int32)) (x2 : Int32) (x4 : Int32) (x6 : Int32) (x10 : Int32) (x11 : Int32) (x16 : Int32), Ob cI cJ cR ad_o th w → va_P D vwCl ([(ad_p, .inl (cI, 9, .inl pu)), (ad_d, .inl (cI, 54, .inl d))] ++ w) H → va_D A ([(ad_p, .inl (cI, 9, .inl pu)), (ad_d, .inl (cI, 54, .inl d))] ++ w) → va_S A s.heap H locs → ∀ ls : Array Slot, lv_has ls 30 [(0, .ref bs), (1, .ref ad_o), (2, .int x2), (4, .int x4), (6, .int x6), (9, .ref ad_p), (10, .int x10), (11, .int x11), (16, .int x16)] → (f_L_law_b679 N L xs) th pu d x2 x4 x6 x10 x11 x16 = some o → W p l e room_1 s m args below meth c H locs 56 20270 Q (F0 m 679 ls []) := by
    intro H locs w ad_p ad_d th pu d x2 x4 x6 x10 x11 x16 hw hP hD hS ls hl hf
    unfold f_L_law_b679 at hf
    refine lv_aload_n hx hb dL_law_679 rfl (lv_at hl 1 rfl) ?_
    refine lv_iload hx hb dL_law_680 (lv_at hl 7 rfl) ?_
    refine lv_iconst (v := 1) hx hb dL_law_682 (by decide) ?_
    refine lv_iconst (v := 1) hx hb dL_law_683 (by decide) ?_
    obtain ⟨z684_1, hz684_1, hf⟩ := bn_s hf
    refine q_ask [(ad_p, .inl (cI, 9, .inl pu)), (ad_d, .inl (cI, 54, .inl d))] (rest := []) hX hw hz684_1 wd687 ⟨Nat.le_of_ble_eq_true rfl, Nat.le_of_ble_eq_true rfl⟩ hP hD hS rfl (Nat.le_of_ble_eq_true rfl) hl.1 ⟨Nat.le_of_ble_eq_true rfl, Nat.le_of_ble_eq_true rfl⟩ dL_law_684 (fun H locs w hw hP hD hS => ?_)
    refine lv_istore (lv' := [(17, .int z684_1.1), (0, .ref bs), (1, .ref ad_o), (2, .int x2), (4, .int x4), (6, .int x6), (9, .ref ad_p), (10, .int x10), (11, .int x11), (16, .int x16)]) hx hb dL_law_687 hl (by decide) rfl (fun ls hl => ?_)
    refine lv_iload hx hb dL_law_689 (lv_at hl 0 rfl) ?_
    refine lv_iload hx hb dL_law_691 (lv_at hl 9 rfl) ?_
    refine lv_icmp_ne (tgt := 732) hx hb dL_law_693 (by decide) (fun c693 => ?_) (fun c693 => ?_)
    · replace hf := iq c693 hf
      refine lv_iconst (v := 0) hx hb dL_law_732 (by decide) ?_
      exact hRet _ _ _ _ _ _ _ (Nat.le_of_ble_eq_true rfl) (Nat.le_of_ble_eq_true rfl) (Option.some.inj hf) hS dL_law_733
    · replace hf := ip c693 hf
      refine lv_aload_n hx hb dL_law_696 rfl (lv_at hl 2 rfl) ?_
      obtain ⟨z697_2, hz697_2, hf⟩ := bn_s hf
      refine q_asked [(ad_p, .inl (cI, 9, .inl pu)), (ad_d, .inl (cI, 54, .inl d))] (rest := []) hX hw hz697_2 wd901 ⟨Nat.le_of_ble_eq_true rfl, Nat.le_of_ble_eq_true rfl⟩ hP hD hS rfl (Nat.le_of_ble_eq_true rfl) hl.1 ⟨Nat.le_of_ble_eq_true rfl, Nat.le_of_ble_eq_true rfl⟩ dL_law_697 (fun H locs w hw hP hD hS => ?_)
      obtain ⟨z700_3, hz700_3, hf⟩ := bn_s hf
      refine kSi (rest := []) hX (c_L_bits l D cI cJ cR N z697_2.1 hz700_3) kc_L_bits wd1000 ⟨Nat.le_of_ble_eq_true rfl, Nat.le_of_ble_eq_true rfl⟩ ⟨rfl, rfl⟩ hP hD hS [] rfl (by decide) (fun w h => by cases h; rfl) rfl rfl (Nat.le_of_ble_eq_true rfl) hl.1 ⟨Nat.le_of_ble_eq_true rfl, Nat.le_of_ble_eq_true rfl⟩ dL_law_700 (fun H locs w1 hw1 hP hD hS => ?_)
      cases hw1
      have hP : va_P D vwCl ([(ad_p, .inl (cI, 9, .inl pu)), (ad_d, .inl (cI, 54, .inl d))] ++ w) H := hP
      have hD : va_D A ([(ad_p, .inl (cI, 9, .inl pu)), (ad_d, .inl (cI, 54, .inl d))] ++ w) := hD
      refine lv_iload hx hb dL_law_703 (lv_at hl 0 rfl) ?_
      refine lv_icmp_ne (tgt := 732) hx hb dL_law_705 (by decide) (fun c705 => ?_) (fun c705 => ?_)
      · replace hf := iq c705 hf
        refine lv_iconst (v := 0) hx hb dL_law_732 (by decide) ?_
        exact hRet _ _ _ _ _ _ _ (Nat.le_of_ble_eq_true rfl) (Nat.le_of_ble_eq_true rfl) (Option.some.inj hf) hS dL_law_733
      · replace hf := ip c705 hf
        refine lv_aload_n hx hb dL_law_708 rfl (lv_at hl 2 rfl) ?_
        refine lv_iload hx hb dL_law_709 (lv_at hl 8 rfl) ?_
        refine lv_iconst (v := 0) hx hb dL_law_711 (by decide) ?_
        refine lv_iconst (v := 5) hx hb dL_law_712 (by decide) ?_
        obtain ⟨z713_4, hz713_4, hf⟩ := bn_s hf
        refine q_ask [(ad_p, .inl (cI, 9, .inl pu)), (ad_d, .inl (cI, 54, .inl d))] (rest := []) hX hw hz713_4 wd687 ⟨Nat.le_of_ble_eq_true rfl, Nat.le_of_ble_eq_true rfl⟩ hP hD hS rfl (Nat.le_of_ble_eq_true rfl) hl.1 ⟨Nat.le_of_ble_eq_true rfl, Nat.le_of_ble_eq_true rfl⟩ dL_law_713 (fun H locs w hw hP hD hS => ?_)
        refine lv_if_ne (tgt := 732) hx hb dL_law_716 (by decide) (fun c716 => ?_) (fun c716 => ?_)
        · replace hf := iq c716 hf
          refine lv_iconst (v := 0) hx hb dL_law_732 (by decide) ?_
          exact hRet _ _ _ _ _ _ _ (Nat.le_of_ble_eq_true rfl) (Nat.le_of_ble_eq_true rfl) (Option.some.inj hf) hS dL_law_733
        · replace hf := ip c716 hf
          refine lv_aload_n hx hb dL_law_719 rfl (lv_at hl 2 rfl) ?_
          refine lv_iload hx hb dL_law_720 (lv_at hl 8 rfl) ?_
          refine lv_iconst (v := 1) hx hb dL_law_722 (by decide) ?_
          refine lv_iconst (v := 2) hx hb dL_law_723 (by decide) ?_
          obtain ⟨z724_5, hz724_5, hf⟩ := bn_s hf
          refine q_ask [(ad_p, .inl (cI, 9, .inl pu)), (ad_d, .inl (cI, 54, .inl d))] (rest := []) hX hw hz724_5 wd687 ⟨Nat.le_of_ble_eq_true rfl, Nat.le_of_ble_eq_true rfl⟩ hP hD hS rfl (Nat.le_of_ble_eq_true rfl) hl.1 ⟨Nat.le_of_ble_eq_true rfl, Nat.le_of_ble_eq_true rfl⟩ dL_law_724 (fun H locs w hw hP hD hS => ?_)
          refine lv_iload hx hb dL_law_727 (lv_at hl 0 rfl) ?_
          refine lv_icmp_le (tgt := 734) hx hb dL_law_729 (by decide) (fun c729 => ?_) (fun c729 => ?_)
          · replace hf := ip c729 hf
            refine lv_iconst (v := 1) hx hb dL_law_734 (by decide) ?_
            refine lv_iload_n hx hb dL_law_735 rfl (lv_at hl 3 rfl) ?_
            refine lv_ishl hx hb dL_law_736 ?_
            refine lv_iconst (v := 1) hx hb dL_law_737 (by decide) ?_
            refine lv_isub hx hb dL_law_738 ?_
            refine lv_iload hx hb dL_law_739 (lv_at hl 7 rfl) ?_
            refine lv_iconst (v := -1) hx hb dL_law_741 (by decide) ?_
            refine lv_ixor hx hb dL_law_742 ?_
            refine lv_iand hx hb dL_law_743 ?_
            refine lv_topi (fun v744 ev744 => ?_)
            replace hf := nm_s ev744 hf
            refine lv_istore (lv' := [(18, .int v744), (17, .int z684_1.1), (0, .ref bs), (1, .ref ad_o), (2, .int x2), (4, .int x4), (6, .int x6), (9, .ref ad_p), (10, .int x10), (11, .int x11), (16, .int x16)]) hx hb dL_law_744 hl (by decide) rfl (fun ls hl => ?_)
            refine lv_iload hx hb dL_law_746 (lv_at hl 0 rfl) ?_
            obtain ⟨z748_6, hz748_6, hf⟩ := bn_s hf
            refine kSi (rest := []) hX (c_L_bits l D cI cJ cR N v744 hz748_6) kc_L_bits wd1000 ⟨Nat.le_of_ble_eq_true rfl, Nat.le_of_ble_eq_true rfl⟩ ⟨rfl, rfl⟩ hP hD hS [] rfl (by decide) (fun w h => by cases h; rfl) rfl rfl (Nat.le_of_ble_eq_true rfl) hl.1 ⟨Nat.le_of_ble_eq_true rfl, Nat.le_of_ble_eq_true rfl⟩ dL_law_748 (fun H locs w1 hw1 hP hD hS => ?_)
            cases hw1
            have hP : va_P D vwCl ([(ad_p, .inl (cI, 9, .inl pu)), (ad_d, .inl (cI, 54, .inl d))] ++ w) H := hP
            have hD : va_D A ([(ad_p, .inl (cI, 9, .inl pu)), (ad_d, .inl (cI, 54, .inl d))] ++ w) := hD
            refine lv_bipush (v := 6) hx hb dL_law_751 (by decide) ?_
            refine lv_icmp_le (tgt := 761) hx hb dL_law_753 (by decide) (fun c753 => ?_) (fun c753 => ?_)
            · replace hf := ip c753 hf
              refine lv_aload_n hx hb dL_law_761 rfl (lv_at hl 3 rfl) ?_
              refine lv_iload hx hb dL_law_762 (lv_at hl 0 rfl) ?_
              obtain ⟨z764_7, hz764_7, hf⟩ := bn_s hf
              refine q_spans [(ad_p, .inl (cI, 9, .inl pu)), (ad_d, .inl (cI, 54, .inl d))] (rest := []) hX hw hz764_7 wd786 ⟨Nat.le_of_ble_eq_true rfl, Nat.le_of_ble_eq_true rfl⟩ hP hD hS rfl (Nat.le_of_ble_eq_true rfl) hl.1 ⟨Nat.le_of_ble_eq_true rfl, Nat.le_of_ble_eq_true rfl⟩ dL_law_764 (fun H locs w hw hP hD hS => ?_)
              exact hb767 _ _ w ad_p ad_d z764_7.2 pu d x2 x4 x6 x10 x11 v744 z764_7.1 hw hP hD hS _ (lv_sub hl [2, 3, 4, 5, 6, 7, 8, 9, 0] rfl) hf
            · replace hf := iq c753 hf
              refine lv_bipush (v := -6) hx hb dL_law_756 (by decide) ?_
              refine lv_goto (tgt := 767) hx hb dL_law_758 (by decide) ?_
              exact hb767 _ _ w ad_p ad_d z724_5.2 pu d x2 x4 x6 x10 x11 v744 (-6 : Int32) hw hP hD hS _ (lv_sub hl [2, 3, 4, 5, 6, 7, 8, 9, 0] rfl) hf
          · replace hf := iq c729 hf
            refine lv_iconst (v := 0) hx hb dL_law_732 (by decide) ?_
            exact hRet _ _ _ _ _ _ _ (Nat.le_of_ble_eq_true rfl) (Nat.le_of_ble_eq_true rfl) (Option.some.inj hf) hS dL_law_733
  have hb613 : ∀ n613 : Nat, ∀ (H : Heap) (locs : List Loc) (w : va_W) (ad_p : Nat) (ad_d : Nat) (th : TH) (pu : (Nat → Int32)) (d : (Nat → Int32)) (x2 : Int32) (x4 : Int32) (x6 : Int32) (x10 : Int32) (x11 : Int32) (x16 : Int32) (x17 : Int32), Ob cI cJ cR ad_o th w → va_P D vwCl ([(ad_p, .inl (cI, 9, .inl pu)), (ad_d, .inl (cI, 54, .inl d))] ++ w) H → va_D A ([(ad_p, .inl (cI, 9, .inl pu)), (ad_d, .inl (cI, 54, .inl d))] ++ w) → va_S A s.heap H locs → ∀ ls : Array Slot, lv_has ls 30 [(0, .ref bs), (1, .ref ad_o), (2, .int x2), (4, .int x4), (6, .int x6), (9, .ref ad_p), (10, .int x10), (11, .int x11), (16, .int x16), (17, .int x17)] → f_L_law_b613 N L xs (f_L_law_b679 N L xs) n613 th pu d x2 x4 x6 x10 x11 x16 x17 = some o → W p l e room_1 s m args below meth c H locs 56 20270 Q (F0 m 613 ls []) := by
    intro n613
    induction n613 with
    | zero =>
      intro H locs w ad_p ad_d th pu d x2 x4 x6 x10 x11 x16 x17 hw hP hD hS ls hl hf
      rw [f_L_law_b613] at hf
      cases hf
    | succ n613 ih613 =>
      have hb670 : ∀ (H : Heap) (locs : List Loc) (w : va_W) (ad_p : Nat) (ad_d : Nat) (th : TH) (pu : (Nat → Int32)) (d : (Nat → Int32)) (x2 : Int32) (x4 : Int32) (x6 : Int32) (x10 : Int32) (x11 : Int32) (x17 : Int32) (y0 : Int32) (y1 : Int32), Ob cI cJ cR ad_o th w → va_P D vwCl ([(ad_p, .inl (cI, 9, .inl pu)), (ad_d, .inl (cI, 54, .inl d))] ++ w) H → va_D A ([(ad_p, .inl (cI, 9, .inl pu)), (ad_d, .inl (cI, 54, .inl d))] ++ w) → va_S A s.heap H locs → ∀ ls : Array Slot, lv_has ls 30 [(0, .ref bs), (1, .ref ad_o), (2, .int x2), (4, .int x4), (6, .int x6), (9, .ref ad_p), (10, .int x10), (11, .int x11), (17, .int x17)] → (f_L_law_b670 N L xs (f_L_law_b613 N L xs (f_L_law_b679 N L xs) n613) (f_L_law_b679 N L xs)) th pu d x2 x4 x6 x10 x11 x17 y0 y1 = some o → W p l e room_1 s m args below meth c H locs 56 20270 Q (F0 m 670 ls [.int y1, .int y0]) := by
        intro H locs w ad_p ad_d th pu d x2 x4 x6 x10 x11 x17 y0 y1 hw hP hD hS ls hl hf
        unfold f_L_law_b670 at hf
        refine lv_iadd hx hb dL_law_670 ?_
        refine lv_topi (fun v671 ev671 => ?_)
        replace hf := nm_s ev671 hf
        refine lv_istore (lv' := [(16, .int v671), (0, .ref bs), (1, .ref ad_o), (2, .int x2), (4, .int x4), (6, .int x6), (9, .ref ad_p), (10, .int x10), (11, .int x11), (17, .int x17)]) hx hb dL_law_671 hl (by decide) rfl (fun ls hl => ?_)
        refine lv_iinc (v := (x17 + (1 : Int32))) (lv' := [(17, .int (x17 + (1 : Int32))), (16, .int v671), (0, .ref bs), (1, .ref ad_o), (2, .int x2), (4, .int x4), (6, .int x6), (9, .ref ad_p), (10, .int x10), (11, .int x11)]) hx hb dL_law_673 hl (k := 9) rfl rfl (by decide) rfl (fun ls hl => ?_)
        refine lv_goto (tgt := 613) hx hb dL_law_676 (by decide) ?_
        exact ih613 _ _ w ad_p ad_d th pu d x2 x4 x6 x10 x11 v671 (x17 + (1 : Int32)) hw hP hD hS _ (lv_sub hl [2, 3, 4, 5, 6, 7, 8, 9, 1, 0] rfl) hf
      intro H locs w ad_p ad_d th pu d x2 x4 x6 x10 x11 x16 x17 hw hP hD hS ls hl hf
      rw [f_L_law_b613] at hf
      refine lv_iload hx hb dL_law_613 (lv_at hl 9 rfl) ?_
      refine lv_iload_n hx hb dL_law_615 rfl (lv_at hl 2 rfl) ?_
      refine lv_icmp_ge (tgt := 679) hx hb dL_law_616 (by decide) (fun c616 => ?_) (fun c616 => ?_)
      · replace hf := ip c616 hf
        exact hb679 _ _ w ad_p ad_d th pu d x2 x4 x6 x10 x11 x16 hw hP hD hS _ (lv_sub hl [0, 1, 2, 3, 4, 5, 6, 7, 8] rfl) hf
      · replace hf := iq c616 hf
        refine lv_aload_n hx hb dL_law_619 rfl (lv_at hl 1 rfl) ?_
        refine lv_iload hx hb dL_law_620 (lv_at hl 7 rfl) ?_
        refine lv_iload hx hb dL_law_622 (lv_at hl 9 rfl) ?_
        obtain ⟨z624_1, hz624_1, hf⟩ := bn_s hf
        refine q_odds [(ad_p, .inl (cI, 9, .inl pu)), (ad_d, .inl (cI, 54, .inl d))] (rest := []) hX hw hz624_1 wd679 ⟨Nat.le_of_ble_eq_true rfl, Nat.le_of_ble_eq_true rfl⟩ hP hD hS rfl (Nat.le_of_ble_eq_true rfl) hl.1 ⟨Nat.le_of_ble_eq_true rfl, Nat.le_of_ble_eq_true rfl⟩ dL_law_624 (fun H locs w hw hP hD hS => ?_)
        refine lv_iconst (v := 1) hx hb dL_law_627 (by decide) ?_
        refine lv_icmp_ne (tgt := 652) hx hb dL_law_628 (by decide) (fun c628 => ?_) (fun c628 => ?_)
        · replace hf := iq c628 hf
          refine lv_iconst (v := 0) hx hb dL_law_652 (by decide) ?_
          exact hRet _ _ _ _ _ _ _ (Nat.le_of_ble_eq_true rfl) (Nat.le_of_ble_eq_true rfl) (Option.some.inj hf) hS dL_law_653
        · replace hf := ip c628 hf
          refine lv_aload_n hx hb dL_law_631 rfl (lv_at hl 1 rfl) ?_
          obtain ⟨z632_2, hz632_2, hf⟩ := bn_s hf
          refine q_upper [(ad_p, .inl (cI, 9, .inl pu)), (ad_d, .inl (cI, 54, .inl d))] (rest := []) hX hw hz632_2 wd905 ⟨Nat.le_of_ble_eq_true rfl, Nat.le_of_ble_eq_true rfl⟩ hP hD hS rfl (Nat.le_of_ble_eq_true rfl) hl.1 ⟨Nat.le_of_ble_eq_true rfl, Nat.le_of_ble_eq_true rfl⟩ dL_law_632 (fun H locs w hw hP hD hS => ?_)
          refine lv_aload_n hx hb dL_law_635 rfl (lv_at hl 1 rfl) ?_
          obtain ⟨z636_3, hz636_3, hf⟩ := bn_s hf
          refine q_lower [(ad_p, .inl (cI, 9, .inl pu)), (ad_d, .inl (cI, 54, .inl d))] (rest := [.long z632_2.1]) hX hw hz636_3 wd909 ⟨Nat.le_of_ble_eq_true rfl, Nat.le_of_ble_eq_true rfl⟩ hP hD hS rfl (Nat.le_of_ble_eq_true rfl) hl.1 ⟨Nat.le_of_ble_eq_true rfl, Nat.le_of_ble_eq_true rfl⟩ dL_law_636 (fun H locs w hw hP hD hS => ?_)
          refine W.lcmp hx hb dL_law_639 ?_
          refine lv_if_gt (tgt := 652) hx hb dL_law_640 (by decide) (fun c640 => ?_) (fun c640 => ?_)
          · have c640 := (lg_cmp_gt _ _).mp c640
            replace hf := ip c640 hf
            refine lv_iconst (v := 0) hx hb dL_law_652 (by decide) ?_
            exact hRet _ _ _ _ _ _ _ (Nat.le_of_ble_eq_true rfl) (Nat.le_of_ble_eq_true rfl) (Option.some.inj hf) hS dL_law_653
          · have c640 := fun q => c640 ((lg_cmp_gt _ _).mpr q)
            replace hf := iq c640 hf
            refine lv_aload_n hx hb dL_law_643 rfl (lv_at hl 1 rfl) ?_
            obtain ⟨z644_4, hz644_4, hf⟩ := bn_s hf
            refine q_upper [(ad_p, .inl (cI, 9, .inl pu)), (ad_d, .inl (cI, 54, .inl d))] (rest := []) hX hw hz644_4 wd905 ⟨Nat.le_of_ble_eq_true rfl, Nat.le_of_ble_eq_true rfl⟩ hP hD hS rfl (Nat.le_of_ble_eq_true rfl) hl.1 ⟨Nat.le_of_ble_eq_true rfl, Nat.le_of_ble_eq_true rfl⟩ dL_law_644 (fun H locs w hw hP hD hS => ?_)
            refine lv_lconst (v := 0) hx hb dL_law_647 (by decide) ?_
            refine W.lcmp hx hb dL_law_648 ?_
            refine lv_if_ge (tgt := 654) hx hb dL_law_649 (by decide) (fun c649 => ?_) (fun c649 => ?_)
            · have c649 := (lg_cmp_ge _ _).mp c649
              replace hf := ip c649 hf
              refine lv_iload hx hb dL_law_654 (lv_at hl 8 rfl) ?_
              refine lv_aload_n hx hb dL_law_656 rfl (lv_at hl 1 rfl) ?_
              obtain ⟨z657_5, hz657_5, hf⟩ := bn_s hf
              refine q_upper [(ad_p, .inl (cI, 9, .inl pu)), (ad_d, .inl (cI, 54, .inl d))] (rest := [.int x16]) hX hw hz657_5 wd905 ⟨Nat.le_of_ble_eq_true rfl, Nat.le_of_ble_eq_true rfl⟩ hP hD hS rfl (Nat.le_of_ble_eq_true rfl) hl.1 ⟨Nat.le_of_ble_eq_true rfl, Nat.le_of_ble_eq_true rfl⟩ dL_law_657 (fun H locs w hw hP hD hS => ?_)
              refine lv_lconst (v := 0) hx hb dL_law_660 (by decide) ?_
              refine W.lcmp hx hb dL_law_661 ?_
              refine lv_if_le (tgt := 669) hx hb dL_law_662 (by decide) (fun c662 => ?_) (fun c662 => ?_)
              · have c662 := (lg_cmp_le _ _).mp c662
                simp only [if_pos c662] at hf
                refine lv_iconst (v := 0) hx hb dL_law_669 (by decide) ?_
                exact hb670 _ _ w ad_p ad_d z657_5.2 pu d x2 x4 x6 x10 x11 x17 x16 (0 : Int32) hw hP hD hS _ (lv_sub hl [0, 1, 2, 3, 4, 5, 6, 7, 9] rfl) hf
              · have c662 := fun q => c662 ((lg_cmp_le _ _).mpr q)
                simp only [if_neg c662] at hf
                refine lv_iconst (v := 1) hx hb dL_law_665 (by decide) ?_
                refine lv_goto (tgt := 670) hx hb dL_law_666 (by decide) ?_
                exact hb670 _ _ w ad_p ad_d z657_5.2 pu d x2 x4 x6 x10 x11 x17 x16 (1 : Int32) hw hP hD hS _ (lv_sub hl [0, 1, 2, 3, 4, 5, 6, 7, 9] rfl) hf
            · have c649 := fun q => c649 ((lg_cmp_ge _ _).mpr q)
              replace hf := iq c649 hf
              refine lv_iconst (v := 0) hx hb dL_law_652 (by decide) ?_
              exact hRet _ _ _ _ _ _ _ (Nat.le_of_ble_eq_true rfl) (Nat.le_of_ble_eq_true rfl) (Option.some.inj hf) hS dL_law_653
  have hb522 : ∀ (H : Heap) (locs : List Loc) (w : va_W) (ad_p : Nat) (ad_d : Nat) (th : TH) (pu : (Nat → Int32)) (d : (Nat → Int32)) (x2 : Int32) (x4 : Int32) (x6 : Int32) (x7 : Int32), Ob cI cJ cR ad_o th w → va_P D vwCl ([(ad_p, .inl (cI, 9, .inl pu)), (ad_d, .inl (cI, 54, .inl d))] ++ w) H → va_D A ([(ad_p, .inl (cI, 9, .inl pu)), (ad_d, .inl (cI, 54, .inl d))] ++ w) → va_S A s.heap H locs → ∀ ls : Array Slot, lv_has ls 30 [(0, .ref bs), (1, .ref ad_o), (2, .int x2), (4, .int x4), (6, .int x6), (7, .int x7), (9, .ref ad_p)] → (f_L_law_b522 N L xs) th pu d x2 x4 x6 x7 = some o → W p l e room_1 s m args below meth c H locs 56 20270 Q (F0 m 522 ls []) := by
    intro H locs w ad_p ad_d th pu d x2 x4 x6 x7 hw hP hD hS ls hl hf
    unfold f_L_law_b522 at hf
    refine lv_iload hx hb dL_law_522 (lv_at hl 5 rfl) ?_
    refine lv_istore (lv' := [(10, .int x7), (0, .ref bs), (1, .ref ad_o), (2, .int x2), (4, .int x4), (6, .int x6), (7, .int x7), (9, .ref ad_p)]) hx hb dL_law_524 hl (by decide) rfl (fun ls hl => ?_)
    refine lv_aload_n hx hb dL_law_526 rfl (lv_at hl 1 rfl) ?_
    refine lv_bipush (v := 25) hx hb dL_law_527 (by decide) ?_
    refine q_cell (rest := []) hX hsc (by decide) hL wd939 ⟨Nat.le_of_ble_eq_true rfl, Nat.le_of_ble_eq_true rfl⟩ hP hD hS rfl (Nat.le_of_ble_eq_true rfl) hl.1 ⟨Nat.le_of_ble_eq_true rfl, Nat.le_of_ble_eq_true rfl⟩ dL_law_529 (fun H locs hP hD hS => ?_)
    refine lv_bipush (v := 6) hx hb dL_law_532 (by decide) ?_
    obtain ⟨z534_1, hz534_1, hf⟩ := bn_s hf
    refine kSi (rest := []) hX (c_L_low l D cI cJ cR N (o_cell L xs (25 : Int32)) (6 : Int32) hz534_1) kc_L_low wd935 ⟨Nat.le_of_ble_eq_true rfl, Nat.le_of_ble_eq_true rfl⟩ ⟨rfl, rfl⟩ hP hD hS [] rfl (by decide) (fun w h => by cases h; rfl) rfl rfl (Nat.le_of_ble_eq_true rfl) hl.1 ⟨Nat.le_of_ble_eq_true rfl, Nat.le_of_ble_eq_true rfl⟩ dL_law_534 (fun H locs w1 hw1 hP hD hS => ?_)
    cases hw1
    have hP : va_P D vwCl ([(ad_p, .inl (cI, 9, .inl pu)), (ad_d, .inl (cI, 54, .inl d))] ++ w) H := hP
    have hD : va_D A ([(ad_p, .inl (cI, 9, .inl pu)), (ad_d, .inl (cI, 54, .inl d))] ++ w) := hD
    refine lv_istore (lv' := [(11, .int z534_1), (10, .int x7), (0, .ref bs), (1, .ref ad_o), (2, .int x2), (4, .int x4), (6, .int x6), (7, .int x7), (9, .ref ad_p)]) hx hb dL_law_537 hl (by decide) rfl (fun ls hl => ?_)
    refine lv_aload_n hx hb dL_law_539 rfl (lv_at hl 3 rfl) ?_
    refine lv_iload hx hb dL_law_540 (lv_at hl 0 rfl) ?_
    obtain ⟨z542_2, hz542_2, hf⟩ := bn_s hf
    refine q_friday [(ad_p, .inl (cI, 9, .inl pu)), (ad_d, .inl (cI, 54, .inl d))] (rest := []) hX hw hz542_2 wd620 ⟨Nat.le_of_ble_eq_true rfl, Nat.le_of_ble_eq_true rfl⟩ hP hD hS rfl (Nat.le_of_ble_eq_true rfl) hl.1 ⟨Nat.le_of_ble_eq_true rfl, Nat.le_of_ble_eq_true rfl⟩ dL_law_542 (fun H locs w hw hP hD hS => ?_)
    refine lv_iconst (v := 1) hx hb dL_law_545 (by decide) ?_
    refine lv_icmp_eq (tgt := 551) hx hb dL_law_546 (by decide) (fun c546 => ?_) (fun c546 => ?_)
    · replace hf := ip c546 hf
      refine lv_aload_n hx hb dL_law_551 rfl (lv_at hl 3 rfl) ?_
      obtain ⟨z552_3, hz552_3, hf⟩ := bn_s hf
      refine q_upper [(ad_p, .inl (cI, 9, .inl pu)), (ad_d, .inl (cI, 54, .inl d))] (rest := []) hX hw hz552_3 wd905 ⟨Nat.le_of_ble_eq_true rfl, Nat.le_of_ble_eq_true rfl⟩ hP hD hS rfl (Nat.le_of_ble_eq_true rfl) hl.1 ⟨Nat.le_of_ble_eq_true rfl, Nat.le_of_ble_eq_true rfl⟩ dL_law_552 (fun H locs w hw hP hD hS => ?_)
      refine lv_lstore (lv' := [(12, .long z552_3.1), (11, .int z534_1), (10, .int x7), (0, .ref bs), (1, .ref ad_o), (2, .int x2), (4, .int x4), (6, .int x6), (7, .int x7), (9, .ref ad_p)]) hx hb dL_law_555 hl (by decide) rfl (fun ls hl => ?_)
      refine lv_aload_n hx hb dL_law_557 rfl (lv_at hl 4 rfl) ?_
      obtain ⟨z558_4, hz558_4, hf⟩ := bn_s hf
      refine q_lower [(ad_p, .inl (cI, 9, .inl pu)), (ad_d, .inl (cI, 54, .inl d))] (rest := []) hX hw hz558_4 wd909 ⟨Nat.le_of_ble_eq_true rfl, Nat.le_of_ble_eq_true rfl⟩ hP hD hS rfl (Nat.le_of_ble_eq_true rfl) hl.1 ⟨Nat.le_of_ble_eq_true rfl, Nat.le_of_ble_eq_true rfl⟩ dL_law_558 (fun H locs w hw hP hD hS => ?_)
      refine lv_lstore (lv' := [(14, .long z558_4.1), (12, .long z552_3.1), (11, .int z534_1), (10, .int x7), (0, .ref bs), (1, .ref ad_o), (2, .int x2), (4, .int x4), (6, .int x6), (7, .int x7), (9, .ref ad_p)]) hx hb dL_law_561 hl (by decide) rfl (fun ls hl => ?_)
      refine lv_aload_n hx hb dL_law_563 rfl (lv_at hl 5 rfl) ?_
      refine lv_iload hx hb dL_law_564 (lv_at hl 2 rfl) ?_
      refine lv_iconst (v := 1) hx hb dL_law_566 (by decide) ?_
      refine lv_iadd hx hb dL_law_567 ?_
      obtain ⟨z568_5, hz568_5, hf⟩ := bn_s hf
      refine q_friday [(ad_p, .inl (cI, 9, .inl pu)), (ad_d, .inl (cI, 54, .inl d))] (rest := []) hX hw hz568_5 wd620 ⟨Nat.le_of_ble_eq_true rfl, Nat.le_of_ble_eq_true rfl⟩ hP hD hS rfl (Nat.le_of_ble_eq_true rfl) hl.1 ⟨Nat.le_of_ble_eq_true rfl, Nat.le_of_ble_eq_true rfl⟩ dL_law_568 (fun H locs w hw hP hD hS => ?_)
      refine lv_iconst (v := 1) hx hb dL_law_571 (by decide) ?_
      refine lv_icmp_ne (tgt := 605) hx hb dL_law_572 (by decide) (fun c572 => ?_) (fun c572 => ?_)
      · replace hf := iq c572 hf
        refine lv_iconst (v := 0) hx hb dL_law_605 (by decide) ?_
        exact hRet _ _ _ _ _ _ _ (Nat.le_of_ble_eq_true rfl) (Nat.le_of_ble_eq_true rfl) (Option.some.inj hf) hS dL_law_606
      · replace hf := ip c572 hf
        refine lv_aload_n hx hb dL_law_575 rfl (lv_at hl 5 rfl) ?_
        obtain ⟨z576_6, hz576_6, hf⟩ := bn_s hf
        refine q_upper [(ad_p, .inl (cI, 9, .inl pu)), (ad_d, .inl (cI, 54, .inl d))] (rest := []) hX hw hz576_6 wd905 ⟨Nat.le_of_ble_eq_true rfl, Nat.le_of_ble_eq_true rfl⟩ hP hD hS rfl (Nat.le_of_ble_eq_true rfl) hl.1 ⟨Nat.le_of_ble_eq_true rfl, Nat.le_of_ble_eq_true rfl⟩ dL_law_576 (fun H locs w hw hP hD hS => ?_)
        refine lv_lload hx hb dL_law_579 (lv_at hl 0 rfl) ?_
        refine lv_lmul hx hb dL_law_581 ?_
        refine lv_lload hx hb dL_law_582 (lv_at hl 1 rfl) ?_
        refine lv_aload_n hx hb dL_law_584 rfl (lv_at hl 5 rfl) ?_
        obtain ⟨z585_7, hz585_7, hf⟩ := bn_s hf
        refine q_lower [(ad_p, .inl (cI, 9, .inl pu)), (ad_d, .inl (cI, 54, .inl d))] (rest := [.long z552_3.1, .long (z576_6.1 * z558_4.1)]) hX hw hz585_7 wd909 ⟨Nat.le_of_ble_eq_true rfl, Nat.le_of_ble_eq_true rfl⟩ hP hD hS rfl (Nat.le_of_ble_eq_true rfl) hl.1 ⟨Nat.le_of_ble_eq_true rfl, Nat.le_of_ble_eq_true rfl⟩ dL_law_585 (fun H locs w hw hP hD hS => ?_)
        refine lv_lmul hx hb dL_law_588 ?_
        refine W.lcmp hx hb dL_law_589 ?_
        refine lv_if_lt (tgt := 605) hx hb dL_law_590 (by decide) (fun c590 => ?_) (fun c590 => ?_)
        · have c590 := (lg_cmp_lt _ _).mp c590
          replace hf := ip c590 hf
          refine lv_iconst (v := 0) hx hb dL_law_605 (by decide) ?_
          exact hRet _ _ _ _ _ _ _ (Nat.le_of_ble_eq_true rfl) (Nat.le_of_ble_eq_true rfl) (Option.some.inj hf) hS dL_law_606
        · have c590 := fun q => c590 ((lg_cmp_lt _ _).mpr q)
          replace hf := iq c590 hf
          refine lv_aload_n hx hb dL_law_593 rfl (lv_at hl 5 rfl) ?_
          obtain ⟨z594_8, hz594_8, hf⟩ := bn_s hf
          refine q_upper [(ad_p, .inl (cI, 9, .inl pu)), (ad_d, .inl (cI, 54, .inl d))] (rest := []) hX hw hz594_8 wd905 ⟨Nat.le_of_ble_eq_true rfl, Nat.le_of_ble_eq_true rfl⟩ hP hD hS rfl (Nat.le_of_ble_eq_true rfl) hl.1 ⟨Nat.le_of_ble_eq_true rfl, Nat.le_of_ble_eq_true rfl⟩ dL_law_594 (fun H locs w hw hP hD hS => ?_)
          refine lv_aload_n hx hb dL_law_597 rfl (lv_at hl 5 rfl) ?_
          obtain ⟨z598_9, hz598_9, hf⟩ := bn_s hf
          refine q_lower [(ad_p, .inl (cI, 9, .inl pu)), (ad_d, .inl (cI, 54, .inl d))] (rest := [.long z594_8.1]) hX hw hz598_9 wd909 ⟨Nat.le_of_ble_eq_true rfl, Nat.le_of_ble_eq_true rfl⟩ hP hD hS rfl (Nat.le_of_ble_eq_true rfl) hl.1 ⟨Nat.le_of_ble_eq_true rfl, Nat.le_of_ble_eq_true rfl⟩ dL_law_598 (fun H locs w hw hP hD hS => ?_)
          refine W.lcmp hx hb dL_law_601 ?_
          refine lv_if_le (tgt := 607) hx hb dL_law_602 (by decide) (fun c602 => ?_) (fun c602 => ?_)
          · have c602 := (lg_cmp_le _ _).mp c602
            replace hf := ip c602 hf
            refine lv_iconst (v := 0) hx hb dL_law_607 (by decide) ?_
            refine lv_istore (lv' := [(16, .int (0 : Int32)), (14, .long z558_4.1), (12, .long z552_3.1), (11, .int z534_1), (10, .int x7), (0, .ref bs), (1, .ref ad_o), (2, .int x2), (4, .int x4), (6, .int x6), (7, .int x7), (9, .ref ad_p)]) hx hb dL_law_608 hl (by decide) rfl (fun ls hl => ?_)
            refine lv_iconst (v := 0) hx hb dL_law_610 (by decide) ?_
            refine lv_istore (lv' := [(17, .int (0 : Int32)), (16, .int (0 : Int32)), (14, .long z558_4.1), (12, .long z552_3.1), (11, .int z534_1), (10, .int x7), (0, .ref bs), (1, .ref ad_o), (2, .int x2), (4, .int x4), (6, .int x6), (7, .int x7), (9, .ref ad_p)]) hx hb dL_law_611 hl (by decide) rfl (fun ls hl => ?_)
            exact hb613 N _ _ w ad_p ad_d z598_9.2 pu d x2 x4 x6 x7 z534_1 (0 : Int32) (0 : Int32) hw hP hD hS _ (lv_sub hl [6, 7, 8, 9, 10, 12, 5, 4, 1, 0] rfl) hf
          · have c602 := fun q => c602 ((lg_cmp_le _ _).mpr q)
            replace hf := iq c602 hf
            refine lv_iconst (v := 0) hx hb dL_law_605 (by decide) ?_
            exact hRet _ _ _ _ _ _ _ (Nat.le_of_ble_eq_true rfl) (Nat.le_of_ble_eq_true rfl) (Option.some.inj hf) hS dL_law_606
    · replace hf := iq c546 hf
      refine lv_iconst (v := 0) hx hb dL_law_549 (by decide) ?_
      exact hRet _ _ _ _ _ _ _ (Nat.le_of_ble_eq_true rfl) (Nat.le_of_ble_eq_true rfl) (Option.some.inj hf) hS dL_law_550
  have hb212 : ∀ n212 : Nat, ∀ (H : Heap) (locs : List Loc) (w : va_W) (ad_p : Nat) (ad_d : Nat) (th : TH) (pu : (Nat → Int32)) (d : (Nat → Int32)) (x2 : Int32) (x4 : Int32) (x6 : Int32) (x7 : Int32) (x8 : Int32) (x10 : Int32), Ob cI cJ cR ad_o th w → va_P D vwCl ([(ad_p, .inl (cI, 9, .inl pu)), (ad_d, .inl (cI, 54, .inl d))] ++ w) H → va_D A ([(ad_p, .inl (cI, 9, .inl pu)), (ad_d, .inl (cI, 54, .inl d))] ++ w) → va_S A s.heap H locs → ∀ ls : Array Slot, lv_has ls 30 [(0, .ref bs), (1, .ref ad_o), (2, .int x2), (4, .int x4), (6, .int x6), (7, .int x7), (8, .int x8), (9, .ref ad_p), (10, .int x10)] → f_L_law_b212 N L xs (f_L_law_b522 N L xs) n212 th pu d x2 x4 x6 x7 x8 x10 = some o → W p l e room_1 s m args below meth c H locs 56 20270 Q (F0 m 212 ls []) := by
    intro n212
    induction n212 with
    | zero =>
      intro H locs w ad_p ad_d th pu d x2 x4 x6 x7 x8 x10 hw hP hD hS ls hl hf
      rw [f_L_law_b212] at hf
      cases hf
    | succ n212 ih212 =>
      have hb512 : ∀ (H : Heap) (locs : List Loc) (w : va_W) (ad_p : Nat) (ad_d : Nat) (th : TH) (pu : (Nat → Int32)) (d : (Nat → Int32)) (x2 : Int32) (x4 : Int32) (x6 : Int32) (x7 : Int32) (x10 : Int32) (x12 : Int32), Ob cI cJ cR ad_o th w → va_P D vwCl ([(ad_p, .inl (cI, 9, .inl pu)), (ad_d, .inl (cI, 54, .inl d))] ++ w) H → va_D A ([(ad_p, .inl (cI, 9, .inl pu)), (ad_d, .inl (cI, 54, .inl d))] ++ w) → va_S A s.heap H locs → ∀ ls : Array Slot, lv_has ls 30 [(0, .ref bs), (1, .ref ad_o), (2, .int x2), (4, .int x4), (6, .int x6), (7, .int x7), (9, .ref ad_p), (10, .int x10), (12, .int x12)] → (f_L_law_b512 N L xs (f_L_law_b212 N L xs (f_L_law_b522 N L xs) n212) (f_L_law_b522 N L xs)) th pu d x2 x4 x6 x7 x10 x12 = some o → W p l e room_1 s m args below meth c H locs 56 20270 Q (F0 m 512 ls []) := by
        intro H locs w ad_p ad_d th pu d x2 x4 x6 x7 x10 x12 hw hP hD hS ls hl hf
        unfold f_L_law_b512 at hf
        refine lv_iload hx hb dL_law_512 (lv_at hl 8 rfl) ?_
        refine lv_istore (lv' := [(8, .int x12), (0, .ref bs), (1, .ref ad_o), (2, .int x2), (4, .int x4), (6, .int x6), (7, .int x7), (9, .ref ad_p), (10, .int x10), (12, .int x12)]) hx hb dL_law_514 hl (by decide) rfl (fun ls hl => ?_)
        refine lv_iinc (v := (x10 + (1 : Int32))) (lv' := [(10, .int (x10 + (1 : Int32))), (8, .int x12), (0, .ref bs), (1, .ref ad_o), (2, .int x2), (4, .int x4), (6, .int x6), (7, .int x7), (9, .ref ad_p), (12, .int x12)]) hx hb dL_law_516 hl (k := 8) rfl rfl (by decide) rfl (fun ls hl => ?_)
        refine lv_goto (tgt := 212) hx hb dL_law_519 (by decide) ?_
        exact ih212 _ _ w ad_p ad_d th pu d x2 x4 x6 x7 x12 (x10 + (1 : Int32)) hw hP hD hS _ (lv_sub hl [2, 3, 4, 5, 6, 7, 1, 8, 0] rfl) hf
      have hb500 : ∀ (H : Heap) (locs : List Loc) (w : va_W) (ad_p : Nat) (ad_d : Nat) (th : TH) (pu : (Nat → Int32)) (d : (Nat → Int32)) (x2 : Int32) (x4 : Int32) (x6 : Int32) (x7 : Int32) (x8 : Int32) (x10 : Int32) (x12 : Int32), Ob cI cJ cR ad_o th w → va_P D vwCl ([(ad_p, .inl (cI, 9, .inl pu)), (ad_d, .inl (cI, 54, .inl d))] ++ w) H → va_D A ([(ad_p, .inl (cI, 9, .inl pu)), (ad_d, .inl (cI, 54, .inl d))] ++ w) → va_S A s.heap H locs → ∀ ls : Array Slot, lv_has ls 30 [(0, .ref bs), (1, .ref ad_o), (2, .int x2), (4, .int x4), (6, .int x6), (7, .int x7), (8, .int x8), (9, .ref ad_p), (10, .int x10), (12, .int x12)] → (f_L_law_b500 N L xs (f_L_law_b212 N L xs (f_L_law_b522 N L xs) n212) (f_L_law_b522 N L xs)) th pu d x2 x4 x6 x7 x8 x10 x12 = some o → W p l e room_1 s m args below meth c H locs 56 20270 Q (F0 m 500 ls []) := by
        intro H locs w ad_p ad_d th pu d x2 x4 x6 x7 x8 x10 x12 hw hP hD hS ls hl hf
        unfold f_L_law_b500 at hf
        refine lv_iload hx hb dL_law_500 (lv_at hl 6 rfl) ?_
        refine lv_if_eq (tgt := 512) hx hb dL_law_502 (by decide) (fun c502 => ?_) (fun c502 => ?_)
        · replace hf := ip c502 hf
          exact hb512 _ _ w ad_p ad_d th pu d x2 x4 x6 x7 x10 x12 hw hP hD hS _ (lv_sub hl [0, 1, 2, 3, 4, 5, 7, 8, 9] rfl) hf
        · replace hf := iq c502 hf
          refine lv_iload hx hb dL_law_505 (lv_at hl 9 rfl) ?_
          refine lv_if_ne (tgt := 512) hx hb dL_law_507 (by decide) (fun c507 => ?_) (fun c507 => ?_)
          · replace hf := iq c507 hf
            exact hb512 _ _ w ad_p ad_d th pu d x2 x4 x6 x7 x10 x12 hw hP hD hS _ (lv_sub hl [0, 1, 2, 3, 4, 5, 7, 8, 9] rfl) hf
          · replace hf := ip c507 hf
            refine lv_iconst (v := 0) hx hb dL_law_510 (by decide) ?_
            exact hRet _ _ _ _ _ _ _ (Nat.le_of_ble_eq_true rfl) (Nat.le_of_ble_eq_true rfl) (Option.some.inj hf) hS dL_law_511
      have hb441 : ∀ (H : Heap) (locs : List Loc) (w : va_W) (ad_p : Nat) (ad_d : Nat) (th : TH) (pu : (Nat → Int32)) (d : (Nat → Int32)) (x2 : Int32) (x4 : Int32) (x6 : Int32) (x8 : Int32) (x10 : Int32) (x11 : Int32) (x12 : Int32) (x13 : Int32) (x14 : Int32), Ob cI cJ cR ad_o th w → va_P D vwCl ([(ad_p, .inl (cI, 9, .inl pu)), (ad_d, .inl (cI, 54, .inl d))] ++ w) H → va_D A ([(ad_p, .inl (cI, 9, .inl pu)), (ad_d, .inl (cI, 54, .inl d))] ++ w) → va_S A s.heap H locs → ∀ ls : Array Slot, lv_has ls 30 [(0, .ref bs), (1, .ref ad_o), (2, .int x2), (4, .int x4), (6, .int x6), (8, .int x8), (9, .ref ad_p), (10, .int x10), (11, .int x11), (12, .int x12), (13, .int x13), (14, .int x14)] → (f_L_law_b441 N L xs (f_L_law_b212 N L xs (f_L_law_b522 N L xs) n212) (f_L_law_b522 N L xs)) th pu d x2 x4 x6 x8 x10 x11 x12 x13 x14 = some o → W p l e room_1 s m args below meth c H locs 56 20270 Q (F0 m 441 ls []) := by
        intro H locs w ad_p ad_d th pu d x2 x4 x6 x8 x10 x11 x12 x13 x14 hw hP hD hS ls hl hf
        unfold f_L_law_b441 at hf
        refine lv_iload hx hb dL_law_441 (lv_at hl 10 rfl) ?_
        refine lv_istore (lv' := [(7, .int x13), (0, .ref bs), (1, .ref ad_o), (2, .int x2), (4, .int x4), (6, .int x6), (8, .int x8), (9, .ref ad_p), (10, .int x10), (11, .int x11), (12, .int x12), (13, .int x13), (14, .int x14)]) hx hb dL_law_443 hl (by decide) rfl (fun ls hl => ?_)
        refine lv_iload hx hb dL_law_445 (lv_at hl 9 rfl) ?_
        refine lv_if_lt (tgt := 510) hx hb dL_law_447 (by decide) (fun c447 => ?_) (fun c447 => ?_)
        · replace hf := ip c447 hf
          refine lv_iconst (v := 0) hx hb dL_law_510 (by decide) ?_
          exact hRet _ _ _ _ _ _ _ (Nat.le_of_ble_eq_true rfl) (Nat.le_of_ble_eq_true rfl) (Option.some.inj hf) hS dL_law_511
        · replace hf := iq c447 hf
          refine lv_iload hx hb dL_law_450 (lv_at hl 9 rfl) ?_
          refine lv_iload_n hx hb dL_law_452 rfl (lv_at hl 3 rfl) ?_
          refine lv_icmp_ge (tgt := 510) hx hb dL_law_453 (by decide) (fun c453 => ?_) (fun c453 => ?_)
          · replace hf := ip c453 hf
            refine lv_iconst (v := 0) hx hb dL_law_510 (by decide) ?_
            exact hRet _ _ _ _ _ _ _ (Nat.le_of_ble_eq_true rfl) (Nat.le_of_ble_eq_true rfl) (Option.some.inj hf) hS dL_law_511
          · replace hf := iq c453 hf
            refine lv_aload_n hx hb dL_law_456 rfl (lv_at hl 2 rfl) ?_
            obtain ⟨z457_1, hz457_1, hf⟩ := bn_s hf
            refine q_coins [(ad_p, .inl (cI, 9, .inl pu)), (ad_d, .inl (cI, 54, .inl d))] (rest := []) hX hw hz457_1 wd593 ⟨Nat.le_of_ble_eq_true rfl, Nat.le_of_ble_eq_true rfl⟩ hP hD hS rfl (Nat.le_of_ble_eq_true rfl) hl.1 ⟨Nat.le_of_ble_eq_true rfl, Nat.le_of_ble_eq_true rfl⟩ dL_law_457 (fun H locs w hw hP hD hS => ?_)
            refine lv_iload hx hb dL_law_460 (lv_at hl 12 rfl) ?_
            refine lv_icmp_ne (tgt := 510) hx hb dL_law_462 (by decide) (fun c462 => ?_) (fun c462 => ?_)
            · replace hf := iq c462 hf
              refine lv_iconst (v := 0) hx hb dL_law_510 (by decide) ?_
              exact hRet _ _ _ _ _ _ _ (Nat.le_of_ble_eq_true rfl) (Nat.le_of_ble_eq_true rfl) (Option.some.inj hf) hS dL_law_511
            · replace hf := ip c462 hf
              refine lv_aload_n hx hb dL_law_465 rfl (lv_at hl 2 rfl) ?_
              refine lv_iconst (v := 1) hx hb dL_law_466 (by decide) ?_
              obtain ⟨z467_2, hz467_2, hf⟩ := bn_s hf
              refine q_count [(ad_p, .inl (cI, 9, .inl pu)), (ad_d, .inl (cI, 54, .inl d))] (rest := []) hX hw hz467_2 wd913 ⟨Nat.le_of_ble_eq_true rfl, Nat.le_of_ble_eq_true rfl⟩ hP hD hS rfl (Nat.le_of_ble_eq_true rfl) hl.1 ⟨Nat.le_of_ble_eq_true rfl, Nat.le_of_ble_eq_true rfl⟩ dL_law_467 (fun H locs w hw hP hD hS => ?_)
              refine lv_iload hx hb dL_law_470 (lv_at hl 11 rfl) ?_
              obtain ⟨z472_3, hz472_3, hf⟩ := bn_s hf
              refine kSi (rest := [.int z467_2.1]) hX (c_L_bits l D cI cJ cR N x13 hz472_3) kc_L_bits wd1000 ⟨Nat.le_of_ble_eq_true rfl, Nat.le_of_ble_eq_true rfl⟩ ⟨rfl, rfl⟩ hP hD hS [] rfl (by decide) (fun w h => by cases h; rfl) rfl rfl (Nat.le_of_ble_eq_true rfl) hl.1 ⟨Nat.le_of_ble_eq_true rfl, Nat.le_of_ble_eq_true rfl⟩ dL_law_472 (fun H locs w1 hw1 hP hD hS => ?_)
              cases hw1
              have hP : va_P D vwCl ([(ad_p, .inl (cI, 9, .inl pu)), (ad_d, .inl (cI, 54, .inl d))] ++ w) H := hP
              have hD : va_D A ([(ad_p, .inl (cI, 9, .inl pu)), (ad_d, .inl (cI, 54, .inl d))] ++ w) := hD
              refine lv_icmp_ne (tgt := 510) hx hb dL_law_475 (by decide) (fun c475 => ?_) (fun c475 => ?_)
              · replace hf := iq c475 hf
                refine lv_iconst (v := 0) hx hb dL_law_510 (by decide) ?_
                exact hRet _ _ _ _ _ _ _ (Nat.le_of_ble_eq_true rfl) (Nat.le_of_ble_eq_true rfl) (Option.some.inj hf) hS dL_law_511
              · replace hf := ip c475 hf
                refine lv_iload hx hb dL_law_478 (lv_at hl 10 rfl) ?_
                refine lv_if_eq (tgt := 500) hx hb dL_law_480 (by decide) (fun c480 => ?_) (fun c480 => ?_)
                · replace hf := ip c480 hf
                  exact hb500 _ _ w ad_p ad_d z467_2.2 pu d x2 x4 x6 x13 x8 x10 x12 hw hP hD hS _ (lv_sub hl [1, 2, 3, 4, 5, 0, 6, 7, 8, 10] rfl) hf
                · replace hf := iq c480 hf
                  refine lv_iload hx hb dL_law_483 (lv_at hl 11 rfl) ?_
                  refine lv_iconst (v := 1) hx hb dL_law_485 (by decide) ?_
                  refine lv_iload_n hx hb dL_law_486 rfl (lv_at hl 3 rfl) ?_
                  refine lv_ishl hx hb dL_law_487 ?_
                  refine lv_iconst (v := 1) hx hb dL_law_488 (by decide) ?_
                  refine lv_isub hx hb dL_law_489 ?_
                  refine lv_icmp_ne (tgt := 510) hx hb dL_law_490 (by decide) (fun c490 => ?_) (fun c490 => ?_)
                  · replace hf := iq c490 hf
                    refine lv_iconst (v := 0) hx hb dL_law_510 (by decide) ?_
                    exact hRet _ _ _ _ _ _ _ (Nat.le_of_ble_eq_true rfl) (Nat.le_of_ble_eq_true rfl) (Option.some.inj hf) hS dL_law_511
                  · replace hf := ip c490 hf
                    refine lv_iload hx hb dL_law_493 (lv_at hl 9 rfl) ?_
                    refine lv_iload hx hb dL_law_495 (lv_at hl 5 rfl) ?_
                    refine lv_icmp_ne (tgt := 510) hx hb dL_law_497 (by decide) (fun c497 => ?_) (fun c497 => ?_)
                    · replace hf := iq c497 hf
                      refine lv_iconst (v := 0) hx hb dL_law_510 (by decide) ?_
                      exact hRet _ _ _ _ _ _ _ (Nat.le_of_ble_eq_true rfl) (Nat.le_of_ble_eq_true rfl) (Option.some.inj hf) hS dL_law_511
                    · replace hf := ip c497 hf
                      exact hb500 _ _ w ad_p ad_d z467_2.2 pu d x2 x4 x6 x13 x8 x10 x12 hw hP hD hS _ (lv_sub hl [1, 2, 3, 4, 5, 0, 6, 7, 8, 10] rfl) hf
      have hb279 : ∀ n279 : Nat, ∀ (H : Heap) (locs : List Loc) (w : va_W) (ad_p : Nat) (ad_d : Nat) (th : TH) (pu : (Nat → Int32)) (d : (Nat → Int32)) (x2 : Int32) (x4 : Int32) (x6 : Int32) (x7 : Int32) (x8 : Int32) (x10 : Int32) (x11 : Int32) (x12 : Int32) (x13 : Int32) (x14 : Int32) (x15 : Int32), Ob cI cJ cR ad_o th w → va_P D vwCl ([(ad_p, .inl (cI, 9, .inl pu)), (ad_d, .inl (cI, 54, .inl d))] ++ w) H → va_D A ([(ad_p, .inl (cI, 9, .inl pu)), (ad_d, .inl (cI, 54, .inl d))] ++ w) → va_S A s.heap H locs → ∀ ls : Array Slot, lv_has ls 30 [(0, .ref bs), (1, .ref ad_o), (2, .int x2), (4, .int x4), (6, .int x6), (7, .int x7), (8, .int x8), (9, .ref ad_p), (10, .int x10), (11, .int x11), (12, .int x12), (13, .int x13), (14, .int x14), (15, .int x15)] → f_L_law_b279 N L xs (f_L_law_b441 N L xs (f_L_law_b212 N L xs (f_L_law_b522 N L xs) n212) (f_L_law_b522 N L xs)) n279 th pu d x2 x4 x6 x7 x8 x10 x11 x12 x13 x14 x15 = some o → W p l e room_1 s m args below meth c H locs 56 20270 Q (F0 m 279 ls []) := by
        intro n279
        induction n279 with
        | zero =>
          intro H locs w ad_p ad_d th pu d x2 x4 x6 x7 x8 x10 x11 x12 x13 x14 x15 hw hP hD hS ls hl hf
          rw [f_L_law_b279] at hf
          cases hf
        | succ n279 ih279 =>
          have hb428 : ∀ (H : Heap) (locs : List Loc) (w : va_W) (ad_p : Nat) (ad_d : Nat) (th : TH) (pu : (Nat → Int32)) (d : (Nat → Int32)) (x2 : Int32) (x4 : Int32) (x6 : Int32) (x7 : Int32) (x8 : Int32) (x10 : Int32) (x11 : Int32) (x12 : Int32) (x13 : Int32) (x14 : Int32) (x15 : Int32) (x17 : Int32), Ob cI cJ cR ad_o th w → va_P D vwCl ([(ad_p, .inl (cI, 9, .inl pu)), (ad_d, .inl (cI, 54, .inl d))] ++ w) H → va_D A ([(ad_p, .inl (cI, 9, .inl pu)), (ad_d, .inl (cI, 54, .inl d))] ++ w) → va_S A s.heap H locs → ∀ ls : Array Slot, lv_has ls 30 [(0, .ref bs), (1, .ref ad_o), (2, .int x2), (4, .int x4), (6, .int x6), (7, .int x7), (8, .int x8), (9, .ref ad_p), (10, .int x10), (11, .int x11), (12, .int x12), (13, .int x13), (14, .int x14), (15, .int x15), (17, .int x17)] → (f_L_law_b428 N L xs (f_L_law_b279 N L xs (f_L_law_b441 N L xs (f_L_law_b212 N L xs (f_L_law_b522 N L xs) n212) (f_L_law_b522 N L xs)) n279) (f_L_law_b441 N L xs (f_L_law_b212 N L xs (f_L_law_b522 N L xs) n212) (f_L_law_b522 N L xs))) th pu d x2 x4 x6 x7 x8 x10 x11 x12 x13 x14 x15 x17 = some o → W p l e room_1 s m args below meth c H locs 56 20270 Q (F0 m 428 ls []) := by
            intro H locs w ad_p ad_d th pu d x2 x4 x6 x7 x8 x10 x11 x12 x13 x14 x15 x17 hw hP hD hS ls hl hf
            unfold f_L_law_b428 at hf
            refine lv_aload hx hb dL_law_428 (lv_at hl 7 rfl) ?_
            refine lv_iload hx hb dL_law_430 (lv_at hl 13 rfl) ?_
            refine lv_iload hx hb dL_law_432 (lv_at hl 14 rfl) ?_
            obtain ⟨hg434_1, hf⟩ := gd_s hf
            refine kiast hX hP hD hS rfl (q0 := 0) rfl (inb_in hg434_1) dL_law_434 (fun H locs hP hD hS => ?_)
            have hP : va_P D vwCl ([(ad_p, .inl (cI, 9, .inl (upd pu x15.toNatClampNeg x17))), (ad_d, .inl (cI, 54, .inl d))] ++ w) H := hP
            have hD : va_D A ([(ad_p, .inl (cI, 9, .inl (upd pu x15.toNatClampNeg x17))), (ad_d, .inl (cI, 54, .inl d))] ++ w) := hD
            refine lv_iinc (v := (x15 + (1 : Int32))) (lv' := [(15, .int (x15 + (1 : Int32))), (0, .ref bs), (1, .ref ad_o), (2, .int x2), (4, .int x4), (6, .int x6), (7, .int x7), (8, .int x8), (9, .ref ad_p), (10, .int x10), (11, .int x11), (12, .int x12), (13, .int x13), (14, .int x14), (17, .int x17)]) hx hb dL_law_435 hl (k := 13) rfl rfl (by decide) rfl (fun ls hl => ?_)
            refine lv_goto (tgt := 279) hx hb dL_law_438 (by decide) ?_
            exact ih279 _ _ w ad_p ad_d th (upd pu x15.toNatClampNeg x17) d x2 x4 x6 x7 x8 x10 x11 x12 x13 x14 (x15 + (1 : Int32)) hw hP hD hS _ (lv_sub hl [1, 2, 3, 4, 5, 6, 7, 8, 9, 10, 11, 12, 13, 0] rfl) hf
          have hb395 : ∀ (H : Heap) (locs : List Loc) (w : va_W) (ad_p : Nat) (ad_d : Nat) (th : TH) (pu : (Nat → Int32)) (d : (Nat → Int32)) (x2 : Int32) (x4 : Int32) (x6 : Int32) (x7 : Int32) (x8 : Int32) (x10 : Int32) (x11 : Int32) (x12 : Int32) (x13 : Int32) (x14 : Int32) (x15 : Int32) (x16 : Int32) (x17 : Int32), Ob cI cJ cR ad_o th w → va_P D vwCl ([(ad_p, .inl (cI, 9, .inl pu)), (ad_d, .inl (cI, 54, .inl d))] ++ w) H → va_D A ([(ad_p, .inl (cI, 9, .inl pu)), (ad_d, .inl (cI, 54, .inl d))] ++ w) → va_S A s.heap H locs → ∀ ls : Array Slot, lv_has ls 30 [(0, .ref bs), (1, .ref ad_o), (2, .int x2), (4, .int x4), (6, .int x6), (7, .int x7), (8, .int x8), (9, .ref ad_p), (10, .int x10), (11, .int x11), (12, .int x12), (13, .int x13), (14, .int x14), (15, .int x15), (16, .int x16), (17, .int x17)] → (f_L_law_b395 N L xs (f_L_law_b279 N L xs (f_L_law_b441 N L xs (f_L_law_b212 N L xs (f_L_law_b522 N L xs) n212) (f_L_law_b522 N L xs)) n279) (f_L_law_b441 N L xs (f_L_law_b212 N L xs (f_L_law_b522 N L xs) n212) (f_L_law_b522 N L xs))) th pu d x2 x4 x6 x7 x8 x10 x11 x12 x13 x14 x15 x16 x17 = some o → W p l e room_1 s m args below meth c H locs 56 20270 Q (F0 m 395 ls []) := by
            intro H locs w ad_p ad_d th pu d x2 x4 x6 x7 x8 x10 x11 x12 x13 x14 x15 x16 x17 hw hP hD hS ls hl hf
            unfold f_L_law_b395 at hf
            refine lv_iload hx hb dL_law_395 (lv_at hl 14 rfl) ?_
            refine lv_if_eq (tgt := 428) hx hb dL_law_397 (by decide) (fun c397 => ?_) (fun c397 => ?_)
            · replace hf := ip c397 hf
              exact hb428 _ _ w ad_p ad_d th pu d x2 x4 x6 x7 x8 x10 x11 x12 x13 x14 x15 x17 hw hP hD hS _ (lv_sub hl [0, 1, 2, 3, 4, 5, 6, 7, 8, 9, 10, 11, 12, 13, 15] rfl) hf
            · replace hf := iq c397 hf
              refine lv_iload hx hb dL_law_400 (lv_at hl 5 rfl) ?_
              refine lv_iload hx hb dL_law_402 (lv_at hl 13 rfl) ?_
              refine lv_ishr hx hb dL_law_404 ?_
              refine lv_iconst (v := 1) hx hb dL_law_405 (by decide) ?_
              refine lv_iand hx hb dL_law_406 ?_
              refine lv_if_ne (tgt := 428) hx hb dL_law_407 (by decide) (fun c407 => ?_) (fun c407 => ?_)
              · replace hf := iq c407 hf
                exact hb428 _ _ w ad_p ad_d th pu d x2 x4 x6 x7 x8 x10 x11 x12 x13 x14 x15 x17 hw hP hD hS _ (lv_sub hl [0, 1, 2, 3, 4, 5, 6, 7, 8, 9, 10, 11, 12, 13, 15] rfl) hf
              · replace hf := ip c407 hf
                refine lv_aload_n hx hb dL_law_410 rfl (lv_at hl 1 rfl) ?_
                refine lv_aload_n hx hb dL_law_411 rfl (lv_at hl 1 rfl) ?_
                refine lv_iload hx hb dL_law_412 (lv_at hl 13 rfl) ?_
                refine lv_iconst (v := 1) hx hb dL_law_414 (by decide) ?_
                obtain ⟨z415_1, hz415_1, hf⟩ := bn_s hf
                refine q_told [(ad_p, .inl (cI, 9, .inl pu)), (ad_d, .inl (cI, 54, .inl d))] (rest := [.ref ad_o]) hX hw hz415_1 wd583 ⟨Nat.le_of_ble_eq_true rfl, Nat.le_of_ble_eq_true rfl⟩ hP hD hS rfl (Nat.le_of_ble_eq_true rfl) hl.1 ⟨Nat.le_of_ble_eq_true rfl, Nat.le_of_ble_eq_true rfl⟩ dL_law_415 (fun H locs w hw hP hD hS => ?_)
                refine q_lt [(ad_p, .inl (cI, 9, .inl pu)), (ad_d, .inl (cI, 54, .inl d))] (rest := []) hX hw wd943 ⟨Nat.le_of_ble_eq_true rfl, Nat.le_of_ble_eq_true rfl⟩ hP hD hS rfl (Nat.le_of_ble_eq_true rfl) hl.1 ⟨Nat.le_of_ble_eq_true rfl, Nat.le_of_ble_eq_true rfl⟩ dL_law_418 (fun H locs w hw hP hD hS => ?_)
                refine lv_iload hx hb dL_law_421 (lv_at hl 8 rfl) ?_
                refine lv_icmp_eq (tgt := 428) hx hb dL_law_423 (by decide) (fun c423 => ?_) (fun c423 => ?_)
                · replace hf := ip c423 hf
                  exact hb428 _ _ w ad_p ad_d z415_1.2 pu d x2 x4 x6 x7 x8 x10 x11 x12 x13 x14 x15 x17 hw hP hD hS _ (lv_sub hl [0, 1, 2, 3, 4, 5, 6, 7, 8, 9, 10, 11, 12, 13, 15] rfl) hf
                · replace hf := iq c423 hf
                  refine lv_iconst (v := 0) hx hb dL_law_426 (by decide) ?_
                  exact hRet _ _ _ _ _ _ _ (Nat.le_of_ble_eq_true rfl) (Nat.le_of_ble_eq_true rfl) (Option.some.inj hf) hS dL_law_427
          have hb366 : ∀ (H : Heap) (locs : List Loc) (w : va_W) (ad_p : Nat) (ad_d : Nat) (th : TH) (pu : (Nat → Int32)) (d : (Nat → Int32)) (x2 : Int32) (x4 : Int32) (x6 : Int32) (x7 : Int32) (x8 : Int32) (x10 : Int32) (x11 : Int32) (x12 : Int32) (x13 : Int32) (x14 : Int32) (x15 : Int32) (x16 : Int32) (x17 : Int32) (y0 : Int32) (y1 : Int32), Ob cI cJ cR ad_o th w → va_P D vwCl ([(ad_p, .inl (cI, 9, .inl pu)), (ad_d, .inl (cI, 54, .inl d))] ++ w) H → va_D A ([(ad_p, .inl (cI, 9, .inl pu)), (ad_d, .inl (cI, 54, .inl d))] ++ w) → va_S A s.heap H locs → ∀ ls : Array Slot, lv_has ls 30 [(0, .ref bs), (1, .ref ad_o), (2, .int x2), (4, .int x4), (6, .int x6), (7, .int x7), (8, .int x8), (9, .ref ad_p), (10, .int x10), (11, .int x11), (12, .int x12), (13, .int x13), (14, .int x14), (15, .int x15), (16, .int x16), (17, .int x17)] → (f_L_law_b366 N L xs (f_L_law_b279 N L xs (f_L_law_b441 N L xs (f_L_law_b212 N L xs (f_L_law_b522 N L xs) n212) (f_L_law_b522 N L xs)) n279) (f_L_law_b441 N L xs (f_L_law_b212 N L xs (f_L_law_b522 N L xs) n212) (f_L_law_b522 N L xs))) th pu d x2 x4 x6 x7 x8 x10 x11 x12 x13 x14 x15 x16 x17 y0 y1 = some o → W p l e room_1 s m args below meth c H locs 56 20270 Q (F0 m 366 ls [.int y1, .int y0]) := by
            intro H locs w ad_p ad_d th pu d x2 x4 x6 x7 x8 x10 x11 x12 x13 x14 x15 x16 x17 y0 y1 hw hP hD hS ls hl hf
            unfold f_L_law_b366 at hf
            refine lv_icmp_ne (tgt := 426) hx hb dL_law_366 (by decide) (fun c366 => ?_) (fun c366 => ?_)
            · replace hf := iq c366 hf
              refine lv_iconst (v := 0) hx hb dL_law_426 (by decide) ?_
              exact hRet _ _ _ _ _ _ _ (Nat.le_of_ble_eq_true rfl) (Nat.le_of_ble_eq_true rfl) (Option.some.inj hf) hS dL_law_427
            · replace hf := ip c366 hf
              refine lv_iload hx hb dL_law_369 (lv_at hl 5 rfl) ?_
              refine lv_iload hx hb dL_law_371 (lv_at hl 13 rfl) ?_
              refine lv_ishr hx hb dL_law_373 ?_
              refine lv_iconst (v := 1) hx hb dL_law_374 (by decide) ?_
              refine lv_iand hx hb dL_law_375 ?_
              refine lv_iconst (v := 1) hx hb dL_law_376 (by decide) ?_
              refine lv_icmp_ne (tgt := 395) hx hb dL_law_377 (by decide) (fun c377 => ?_) (fun c377 => ?_)
              · replace hf := iq c377 hf
                exact hb395 _ _ w ad_p ad_d th pu d x2 x4 x6 x7 x8 x10 x11 x12 x13 x14 x15 x16 x17 hw hP hD hS _ (lv_sub hl [0, 1, 2, 3, 4, 5, 6, 7, 8, 9, 10, 11, 12, 13, 14, 15] rfl) hf
              · replace hf := ip c377 hf
                refine lv_iload hx hb dL_law_380 (lv_at hl 14 rfl) ?_
                refine lv_if_eq (tgt := 426) hx hb dL_law_382 (by decide) (fun c382 => ?_) (fun c382 => ?_)
                · replace hf := ip c382 hf
                  refine lv_iconst (v := 0) hx hb dL_law_426 (by decide) ?_
                  exact hRet _ _ _ _ _ _ _ (Nat.le_of_ble_eq_true rfl) (Nat.le_of_ble_eq_true rfl) (Option.some.inj hf) hS dL_law_427
                · replace hf := iq c382 hf
                  refine lv_iload hx hb dL_law_385 (lv_at hl 15 rfl) ?_
                  refine lv_aload hx hb dL_law_387 (lv_at hl 7 rfl) ?_
                  refine lv_iload hx hb dL_law_389 (lv_at hl 13 rfl) ?_
                  obtain ⟨hg391_1, hf⟩ := gd_s hf
                  refine kiald hX hP rfl (q0 := 0) rfl (inb_in hg391_1) dL_law_391 ?_
                  refine lv_icmp_ne (tgt := 426) hx hb dL_law_392 (by decide) (fun c392 => ?_) (fun c392 => ?_)
                  · replace hf := iq c392 hf
                    refine lv_iconst (v := 0) hx hb dL_law_426 (by decide) ?_
                    exact hRet _ _ _ _ _ _ _ (Nat.le_of_ble_eq_true rfl) (Nat.le_of_ble_eq_true rfl) (Option.some.inj hf) hS dL_law_427
                  · replace hf := ip c392 hf
                    exact hb395 _ _ w ad_p ad_d th pu d x2 x4 x6 x7 x8 x10 x11 x12 x13 x14 x15 x16 x17 hw hP hD hS _ (lv_sub hl [0, 1, 2, 3, 4, 5, 6, 7, 8, 9, 10, 11, 12, 13, 14, 15] rfl) hf
          have hb351 : ∀ (H : Heap) (locs : List Loc) (w : va_W) (ad_p : Nat) (ad_d : Nat) (th : TH) (pu : (Nat → Int32)) (d : (Nat → Int32)) (x2 : Int32) (x4 : Int32) (x6 : Int32) (x7 : Int32) (x8 : Int32) (x10 : Int32) (x11 : Int32) (x12 : Int32) (x13 : Int32) (x15 : Int32) (x16 : Int32) (x17 : Int32) (y0 : Int32) (y1 : Int32), Ob cI cJ cR ad_o th w → va_P D vwCl ([(ad_p, .inl (cI, 9, .inl pu)), (ad_d, .inl (cI, 54, .inl d))] ++ w) H → va_D A ([(ad_p, .inl (cI, 9, .inl pu)), (ad_d, .inl (cI, 54, .inl d))] ++ w) → va_S A s.heap H locs → ∀ ls : Array Slot, lv_has ls 30 [(0, .ref bs), (1, .ref ad_o), (2, .int x2), (4, .int x4), (6, .int x6), (7, .int x7), (8, .int x8), (9, .ref ad_p), (10, .int x10), (11, .int x11), (12, .int x12), (13, .int x13), (15, .int x15), (16, .int x16), (17, .int x17)] → (f_L_law_b351 N L xs (f_L_law_b279 N L xs (f_L_law_b441 N L xs (f_L_law_b212 N L xs (f_L_law_b522 N L xs) n212) (f_L_law_b522 N L xs)) n279) (f_L_law_b441 N L xs (f_L_law_b212 N L xs (f_L_law_b522 N L xs) n212) (f_L_law_b522 N L xs))) th pu d x2 x4 x6 x7 x8 x10 x11 x12 x13 x15 x16 x17 y0 y1 = some o → W p l e room_1 s m args below meth c H locs 56 20270 Q (F0 m 351 ls [.int y1, .int y0]) := by
            intro H locs w ad_p ad_d th pu d x2 x4 x6 x7 x8 x10 x11 x12 x13 x15 x16 x17 y0 y1 hw hP hD hS ls hl hf
            unfold f_L_law_b351 at hf
            refine lv_iadd hx hb dL_law_351 ?_
            refine lv_topi (fun v352 ev352 => ?_)
            replace hf := nm_s ev352 hf
            refine lv_istore (lv' := [(14, .int v352), (0, .ref bs), (1, .ref ad_o), (2, .int x2), (4, .int x4), (6, .int x6), (7, .int x7), (8, .int x8), (9, .ref ad_p), (10, .int x10), (11, .int x11), (12, .int x12), (13, .int x13), (15, .int x15), (16, .int x16), (17, .int x17)]) hx hb dL_law_352 hl (by decide) rfl (fun ls hl => ?_)
            refine lv_iload hx hb dL_law_354 (lv_at hl 14 rfl) ?_
            refine lv_iload hx hb dL_law_356 (lv_at hl 15 rfl) ?_
            refine lv_if_lt (tgt := 365) hx hb dL_law_358 (by decide) (fun c358 => ?_) (fun c358 => ?_)
            · simp only [if_pos c358] at hf
              refine lv_iconst (v := 0) hx hb dL_law_365 (by decide) ?_
              exact hb366 _ _ w ad_p ad_d th pu d x2 x4 x6 x7 x8 x10 x11 x12 x13 v352 x15 x16 x17 x16 (0 : Int32) hw hP hD hS _ (lv_sub hl [1, 2, 3, 4, 5, 6, 7, 8, 9, 10, 11, 12, 0, 13, 14, 15] rfl) hf
            · simp only [if_neg c358] at hf
              refine lv_iconst (v := 1) hx hb dL_law_361 (by decide) ?_
              refine lv_goto (tgt := 366) hx hb dL_law_362 (by decide) ?_
              exact hb366 _ _ w ad_p ad_d th pu d x2 x4 x6 x7 x8 x10 x11 x12 x13 v352 x15 x16 x17 x16 (1 : Int32) hw hP hD hS _ (lv_sub hl [1, 2, 3, 4, 5, 6, 7, 8, 9, 10, 11, 12, 0, 13, 14, 15] rfl) hf
          have hb335 : ∀ (H : Heap) (locs : List Loc) (w : va_W) (ad_p : Nat) (ad_d : Nat) (th : TH) (pu : (Nat → Int32)) (d : (Nat → Int32)) (x2 : Int32) (x4 : Int32) (x6 : Int32) (x7 : Int32) (x8 : Int32) (x10 : Int32) (x11 : Int32) (x12 : Int32) (x14 : Int32) (x15 : Int32) (x16 : Int32) (x17 : Int32) (y0 : Int32) (y1 : Int32), Ob cI cJ cR ad_o th w → va_P D vwCl ([(ad_p, .inl (cI, 9, .inl pu)), (ad_d, .inl (cI, 54, .inl d))] ++ w) H → va_D A ([(ad_p, .inl (cI, 9, .inl pu)), (ad_d, .inl (cI, 54, .inl d))] ++ w) → va_S A s.heap H locs → ∀ ls : Array Slot, lv_has ls 30 [(0, .ref bs), (1, .ref ad_o), (2, .int x2), (4, .int x4), (6, .int x6), (7, .int x7), (8, .int x8), (9, .ref ad_p), (10, .int x10), (11, .int x11), (12, .int x12), (14, .int x14), (15, .int x15), (16, .int x16), (17, .int x17)] → (f_L_law_b335 N L xs (f_L_law_b279 N L xs (f_L_law_b441 N L xs (f_L_law_b212 N L xs (f_L_law_b522 N L xs) n212) (f_L_law_b522 N L xs)) n279) (f_L_law_b441 N L xs (f_L_law_b212 N L xs (f_L_law_b522 N L xs) n212) (f_L_law_b522 N L xs))) th pu d x2 x4 x6 x7 x8 x10 x11 x12 x14 x15 x16 x17 y0 y1 = some o → W p l e room_1 s m args below meth c H locs 56 20270 Q (F0 m 335 ls [.int y1, .int y0]) := by
            intro H locs w ad_p ad_d th pu d x2 x4 x6 x7 x8 x10 x11 x12 x14 x15 x16 x17 y0 y1 hw hP hD hS ls hl hf
            unfold f_L_law_b335 at hf
            refine lv_ior hx hb dL_law_335 ?_
            refine lv_topi (fun v336 ev336 => ?_)
            replace hf := nm_s ev336 hf
            refine lv_istore (lv' := [(13, .int v336), (0, .ref bs), (1, .ref ad_o), (2, .int x2), (4, .int x4), (6, .int x6), (7, .int x7), (8, .int x8), (9, .ref ad_p), (10, .int x10), (11, .int x11), (12, .int x12), (14, .int x14), (15, .int x15), (16, .int x16), (17, .int x17)]) hx hb dL_law_336 hl (by decide) rfl (fun ls hl => ?_)
            refine lv_iload hx hb dL_law_338 (lv_at hl 12 rfl) ?_
            refine lv_iload hx hb dL_law_340 (lv_at hl 14 rfl) ?_
            refine lv_if_eq (tgt := 350) hx hb dL_law_342 (by decide) (fun c342 => ?_) (fun c342 => ?_)
            · simp only [if_pos c342] at hf
              refine lv_iconst (v := 0) hx hb dL_law_350 (by decide) ?_
              exact hb351 _ _ w ad_p ad_d th pu d x2 x4 x6 x7 x8 x10 x11 x12 v336 x15 x16 x17 x14 (0 : Int32) hw hP hD hS _ (lv_sub hl [1, 2, 3, 4, 5, 6, 7, 8, 9, 10, 11, 0, 13, 14, 15] rfl) hf
            · simp only [if_neg c342] at hf
              refine lv_iload hx hb dL_law_345 (lv_at hl 15 rfl) ?_
              refine lv_goto (tgt := 351) hx hb dL_law_347 (by decide) ?_
              exact hb351 _ _ w ad_p ad_d th pu d x2 x4 x6 x7 x8 x10 x11 x12 v336 x15 x16 x17 x14 x17 hw hP hD hS _ (lv_sub hl [1, 2, 3, 4, 5, 6, 7, 8, 9, 10, 11, 0, 13, 14, 15] rfl) hf
          have hb305 : ∀ (H : Heap) (locs : List Loc) (w : va_W) (ad_p : Nat) (ad_d : Nat) (th : TH) (pu : (Nat → Int32)) (d : (Nat → Int32)) (x2 : Int32) (x4 : Int32) (x6 : Int32) (x7 : Int32) (x8 : Int32) (x10 : Int32) (x11 : Int32) (x12 : Int32) (x13 : Int32) (x14 : Int32) (x15 : Int32) (y0 : Int32), Ob cI cJ cR ad_o th w → va_P D vwCl ([(ad_p, .inl (cI, 9, .inl pu)), (ad_d, .inl (cI, 54, .inl d))] ++ w) H → va_D A ([(ad_p, .inl (cI, 9, .inl pu)), (ad_d, .inl (cI, 54, .inl d))] ++ w) → va_S A s.heap H locs → ∀ ls : Array Slot, lv_has ls 30 [(0, .ref bs), (1, .ref ad_o), (2, .int x2), (4, .int x4), (6, .int x6), (7, .int x7), (8, .int x8), (9, .ref ad_p), (10, .int x10), (11, .int x11), (12, .int x12), (13, .int x13), (14, .int x14), (15, .int x15)] → (f_L_law_b305 N L xs (f_L_law_b279 N L xs (f_L_law_b441 N L xs (f_L_law_b212 N L xs (f_L_law_b522 N L xs) n212) (f_L_law_b522 N L xs)) n279) (f_L_law_b441 N L xs (f_L_law_b212 N L xs (f_L_law_b522 N L xs) n212) (f_L_law_b522 N L xs))) th pu d x2 x4 x6 x7 x8 x10 x11 x12 x13 x14 x15 y0 = some o → W p l e room_1 s m args below meth c H locs 56 20270 Q (F0 m 305 ls [.int y0]) := by
            intro H locs w ad_p ad_d th pu d x2 x4 x6 x7 x8 x10 x11 x12 x13 x14 x15 y0 hw hP hD hS ls hl hf
            unfold f_L_law_b305 at hf
            refine lv_istore (lv' := [(16, .int y0), (0, .ref bs), (1, .ref ad_o), (2, .int x2), (4, .int x4), (6, .int x6), (7, .int x7), (8, .int x8), (9, .ref ad_p), (10, .int x10), (11, .int x11), (12, .int x12), (13, .int x13), (14, .int x14), (15, .int x15)]) hx hb dL_law_305 hl (by decide) rfl (fun ls hl => ?_)
            refine lv_aload_n hx hb dL_law_307 rfl (lv_at hl 2 rfl) ?_
            refine lv_aload_n hx hb dL_law_308 rfl (lv_at hl 2 rfl) ?_
            refine lv_iload hx hb dL_law_309 (lv_at hl 14 rfl) ?_
            refine lv_iconst (v := 2) hx hb dL_law_311 (by decide) ?_
            obtain ⟨z312_1, hz312_1, hf⟩ := bn_s hf
            refine q_told [(ad_p, .inl (cI, 9, .inl pu)), (ad_d, .inl (cI, 54, .inl d))] (rest := [.ref ad_o]) hX hw hz312_1 wd583 ⟨Nat.le_of_ble_eq_true rfl, Nat.le_of_ble_eq_true rfl⟩ hP hD hS rfl (Nat.le_of_ble_eq_true rfl) hl.1 ⟨Nat.le_of_ble_eq_true rfl, Nat.le_of_ble_eq_true rfl⟩ dL_law_312 (fun H locs w hw hP hD hS => ?_)
            refine q_lt [(ad_p, .inl (cI, 9, .inl pu)), (ad_d, .inl (cI, 54, .inl d))] (rest := []) hX hw wd943 ⟨Nat.le_of_ble_eq_true rfl, Nat.le_of_ble_eq_true rfl⟩ hP hD hS rfl (Nat.le_of_ble_eq_true rfl) hl.1 ⟨Nat.le_of_ble_eq_true rfl, Nat.le_of_ble_eq_true rfl⟩ dL_law_315 (fun H locs w hw hP hD hS => ?_)
            refine lv_topi (fun v318 ev318 => ?_)
            replace hf := nm_s ev318 hf
            refine lv_istore (lv' := [(17, .int v318), (16, .int y0), (0, .ref bs), (1, .ref ad_o), (2, .int x2), (4, .int x4), (6, .int x6), (7, .int x7), (8, .int x8), (9, .ref ad_p), (10, .int x10), (11, .int x11), (12, .int x12), (13, .int x13), (14, .int x14), (15, .int x15)]) hx hb dL_law_318 hl (by decide) rfl (fun ls hl => ?_)
            refine lv_iload hx hb dL_law_320 (lv_at hl 13 rfl) ?_
            refine lv_iload hx hb dL_law_322 (lv_at hl 1 rfl) ?_
            refine lv_if_eq (tgt := 334) hx hb dL_law_324 (by decide) (fun c324 => ?_) (fun c324 => ?_)
            · simp only [if_pos c324] at hf
              refine lv_iconst (v := 0) hx hb dL_law_334 (by decide) ?_
              exact hb335 _ _ w ad_p ad_d z312_1.2 pu d x2 x4 x6 x7 x8 x10 x11 x12 x14 x15 y0 v318 x13 (0 : Int32) hw hP hD hS _ (lv_sub hl [2, 3, 4, 5, 6, 7, 8, 9, 10, 11, 12, 14, 15, 1, 0] rfl) hf
            · simp only [if_neg c324] at hf
              refine lv_iconst (v := 1) hx hb dL_law_327 (by decide) ?_
              refine lv_iload hx hb dL_law_328 (lv_at hl 15 rfl) ?_
              refine lv_ishl hx hb dL_law_330 ?_
              refine lv_goto (tgt := 335) hx hb dL_law_331 (by decide) ?_
              exact hb335 _ _ w ad_p ad_d z312_1.2 pu d x2 x4 x6 x7 x8 x10 x11 x12 x14 x15 y0 v318 x13 ((1 : Int32) <<< (x15 &&& 31)) hw hP hD hS _ (lv_sub hl [2, 3, 4, 5, 6, 7, 8, 9, 10, 11, 12, 14, 15, 1, 0] rfl) hf
          intro H locs w ad_p ad_d th pu d x2 x4 x6 x7 x8 x10 x11 x12 x13 x14 x15 hw hP hD hS ls hl hf
          rw [f_L_law_b279] at hf
          refine lv_iload hx hb dL_law_279 (lv_at hl 13 rfl) ?_
          refine lv_iload_n hx hb dL_law_281 rfl (lv_at hl 2 rfl) ?_
          refine lv_icmp_ge (tgt := 441) hx hb dL_law_282 (by decide) (fun c282 => ?_) (fun c282 => ?_)
          · replace hf := ip c282 hf
            exact hb441 _ _ w ad_p ad_d th pu d x2 x4 x6 x8 x10 x11 x12 x13 x14 hw hP hD hS _ (lv_sub hl [0, 1, 2, 3, 4, 6, 7, 8, 9, 10, 11, 12] rfl) hf
          · replace hf := iq c282 hf
            refine lv_aload_n hx hb dL_law_285 rfl (lv_at hl 1 rfl) ?_
            refine lv_aload_n hx hb dL_law_286 rfl (lv_at hl 1 rfl) ?_
            refine lv_iload hx hb dL_law_287 (lv_at hl 13 rfl) ?_
            refine lv_iconst (v := 0) hx hb dL_law_289 (by decide) ?_
            obtain ⟨z290_1, hz290_1, hf⟩ := bn_s hf
            refine q_told [(ad_p, .inl (cI, 9, .inl pu)), (ad_d, .inl (cI, 54, .inl d))] (rest := [.ref ad_o]) hX hw hz290_1 wd583 ⟨Nat.le_of_ble_eq_true rfl, Nat.le_of_ble_eq_true rfl⟩ hP hD hS rfl (Nat.le_of_ble_eq_true rfl) hl.1 ⟨Nat.le_of_ble_eq_true rfl, Nat.le_of_ble_eq_true rfl⟩ dL_law_290 (fun H locs w hw hP hD hS => ?_)
            refine q_lt [(ad_p, .inl (cI, 9, .inl pu)), (ad_d, .inl (cI, 54, .inl d))] (rest := []) hX hw wd943 ⟨Nat.le_of_ble_eq_true rfl, Nat.le_of_ble_eq_true rfl⟩ hP hD hS rfl (Nat.le_of_ble_eq_true rfl) hl.1 ⟨Nat.le_of_ble_eq_true rfl, Nat.le_of_ble_eq_true rfl⟩ dL_law_293 (fun H locs w hw hP hD hS => ?_)
            refine lv_iconst (v := 1) hx hb dL_law_296 (by decide) ?_
            refine lv_icmp_ne (tgt := 304) hx hb dL_law_297 (by decide) (fun c297 => ?_) (fun c297 => ?_)
            · simp only [if_neg c297] at hf
              refine lv_iconst (v := 0) hx hb dL_law_304 (by decide) ?_
              exact hb305 _ _ w ad_p ad_d z290_1.2 pu d x2 x4 x6 x7 x8 x10 x11 x12 x13 x14 x15 (0 : Int32) hw hP hD hS _ (lv_sub hl [0, 1, 2, 3, 4, 5, 6, 7, 8, 9, 10, 11, 12, 13] rfl) hf
            · simp only [if_pos c297] at hf
              refine lv_iconst (v := 1) hx hb dL_law_300 (by decide) ?_
              refine lv_goto (tgt := 305) hx hb dL_law_301 (by decide) ?_
              exact hb305 _ _ w ad_p ad_d z290_1.2 pu d x2 x4 x6 x7 x8 x10 x11 x12 x13 x14 x15 (1 : Int32) hw hP hD hS _ (lv_sub hl [0, 1, 2, 3, 4, 5, 6, 7, 8, 9, 10, 11, 12, 13] rfl) hf
      have hb268 : ∀ (H : Heap) (locs : List Loc) (w : va_W) (ad_p : Nat) (ad_d : Nat) (th : TH) (pu : (Nat → Int32)) (d : (Nat → Int32)) (x2 : Int32) (x4 : Int32) (x6 : Int32) (x7 : Int32) (x8 : Int32) (x10 : Int32) (x11 : Int32) (y0 : Int32), Ob cI cJ cR ad_o th w → va_P D vwCl ([(ad_p, .inl (cI, 9, .inl pu)), (ad_d, .inl (cI, 54, .inl d))] ++ w) H → va_D A ([(ad_p, .inl (cI, 9, .inl pu)), (ad_d, .inl (cI, 54, .inl d))] ++ w) → va_S A s.heap H locs → ∀ ls : Array Slot, lv_has ls 30 [(0, .ref bs), (1, .ref ad_o), (2, .int x2), (4, .int x4), (6, .int x6), (7, .int x7), (8, .int x8), (9, .ref ad_p), (10, .int x10), (11, .int x11)] → (f_L_law_b268 N L xs (f_L_law_b212 N L xs (f_L_law_b522 N L xs) n212) (f_L_law_b522 N L xs)) th pu d x2 x4 x6 x7 x8 x10 x11 y0 = some o → W p l e room_1 s m args below meth c H locs 56 20270 Q (F0 m 268 ls [.int y0]) := by
        intro H locs w ad_p ad_d th pu d x2 x4 x6 x7 x8 x10 x11 y0 hw hP hD hS ls hl hf
        unfold f_L_law_b268 at hf
        refine lv_istore (lv' := [(12, .int y0), (0, .ref bs), (1, .ref ad_o), (2, .int x2), (4, .int x4), (6, .int x6), (7, .int x7), (8, .int x8), (9, .ref ad_p), (10, .int x10), (11, .int x11)]) hx hb dL_law_268 hl (by decide) rfl (fun ls hl => ?_)
        refine lv_iconst (v := 0) hx hb dL_law_270 (by decide) ?_
        refine lv_istore (lv' := [(13, .int (0 : Int32)), (12, .int y0), (0, .ref bs), (1, .ref ad_o), (2, .int x2), (4, .int x4), (6, .int x6), (7, .int x7), (8, .int x8), (9, .ref ad_p), (10, .int x10), (11, .int x11)]) hx hb dL_law_271 hl (by decide) rfl (fun ls hl => ?_)
        refine lv_iconst (v := 0) hx hb dL_law_273 (by decide) ?_
        refine lv_istore (lv' := [(14, .int (0 : Int32)), (13, .int (0 : Int32)), (12, .int y0), (0, .ref bs), (1, .ref ad_o), (2, .int x2), (4, .int x4), (6, .int x6), (7, .int x7), (8, .int x8), (9, .ref ad_p), (10, .int x10), (11, .int x11)]) hx hb dL_law_274 hl (by decide) rfl (fun ls hl => ?_)
        refine lv_iconst (v := 0) hx hb dL_law_276 (by decide) ?_
        refine lv_istore (lv' := [(15, .int (0 : Int32)), (14, .int (0 : Int32)), (13, .int (0 : Int32)), (12, .int y0), (0, .ref bs), (1, .ref ad_o), (2, .int x2), (4, .int x4), (6, .int x6), (7, .int x7), (8, .int x8), (9, .ref ad_p), (10, .int x10), (11, .int x11)]) hx hb dL_law_277 hl (by decide) rfl (fun ls hl => ?_)
        exact hb279 N _ _ w ad_p ad_d th pu d x2 x4 x6 x7 x8 x10 x11 y0 (0 : Int32) (0 : Int32) (0 : Int32) hw hP hD hS _ (lv_sub hl [4, 5, 6, 7, 8, 9, 10, 11, 12, 13, 3, 2, 1, 0] rfl) hf
      intro H locs w ad_p ad_d th pu d x2 x4 x6 x7 x8 x10 hw hP hD hS ls hl hf
      rw [f_L_law_b212] at hf
      refine lv_iload hx hb dL_law_212 (lv_at hl 8 rfl) ?_
      refine lv_bipush (v := 12) hx hb dL_law_214 (by decide) ?_
      refine lv_icmp_ge (tgt := 522) hx hb dL_law_216 (by decide) (fun c216 => ?_) (fun c216 => ?_)
      · replace hf := ip c216 hf
        exact hb522 _ _ w ad_p ad_d th pu d x2 x4 x6 x7 hw hP hD hS _ (lv_sub hl [0, 1, 2, 3, 4, 5, 7] rfl) hf
      · replace hf := iq c216 hf
        refine lv_aload_n hx hb dL_law_219 rfl (lv_at hl 1 rfl) ?_
        refine lv_iconst (v := 1) hx hb dL_law_220 (by decide) ?_
        refine lv_iconst (v := 1) hx hb dL_law_221 (by decide) ?_
        refine lv_aload_n hx hb dL_law_222 rfl (lv_at hl 0 rfl) ?_
        refine lv_bipush (v := 13) hx hb dL_law_223 (by decide) ?_
        refine lv_iload hx hb dL_law_225 (lv_at hl 8 rfl) ?_
        refine lv_iadd hx hb dL_law_227 ?_
        obtain ⟨hk228_1, hf⟩ := gd_s hf
        refine q_cell (rest := [.int (1 : Int32), .int (1 : Int32), .ref ad_o]) hX hsc hk228_1 hL wd939 ⟨Nat.le_of_ble_eq_true rfl, Nat.le_of_ble_eq_true rfl⟩ hP hD hS rfl (Nat.le_of_ble_eq_true rfl) hl.1 ⟨Nat.le_of_ble_eq_true rfl, Nat.le_of_ble_eq_true rfl⟩ dL_law_228 (fun H locs hP hD hS => ?_)
        refine lv_ldc (v := 100000) hx hb hown (hts _ (hX.2.1 _ wd1003)) dL_law_231 ?_
        obtain ⟨z233_2, hz233_2, hf⟩ := bn_s hf
        refine kSi (rest := [.int (1 : Int32), .int (1 : Int32), .ref ad_o]) hX (c_L_low l D cI cJ cR N (o_cell L xs ((13 : Int32) + x10)) (100000 : Int32) hz233_2) kc_L_low wd935 ⟨Nat.le_of_ble_eq_true rfl, Nat.le_of_ble_eq_true rfl⟩ ⟨rfl, rfl⟩ hP hD hS [] rfl (by decide) (fun w h => by cases h; rfl) rfl rfl (Nat.le_of_ble_eq_true rfl) hl.1 ⟨Nat.le_of_ble_eq_true rfl, Nat.le_of_ble_eq_true rfl⟩ dL_law_233 (fun H locs w1 hw1 hP hD hS => ?_)
        cases hw1
        have hP : va_P D vwCl ([(ad_p, .inl (cI, 9, .inl pu)), (ad_d, .inl (cI, 54, .inl d))] ++ w) H := hP
        have hD : va_D A ([(ad_p, .inl (cI, 9, .inl pu)), (ad_d, .inl (cI, 54, .inl d))] ++ w) := hD
        refine lv_iadd hx hb dL_law_236 ?_
        obtain ⟨z237_3, hz237_3, hf⟩ := bn_s hf
        refine q_go [(ad_p, .inl (cI, 9, .inl pu)), (ad_d, .inl (cI, 54, .inl d))] (rest := []) hX hw hz237_3 wd450 ⟨Nat.le_of_ble_eq_true rfl, Nat.le_of_ble_eq_true rfl⟩ hP hD hS rfl (Nat.le_of_ble_eq_true rfl) hl.1 ⟨Nat.le_of_ble_eq_true rfl, Nat.le_of_ble_eq_true rfl⟩ dL_law_237 (fun H locs w hw hP hD hS => ?_)
        refine lv_iload hx hb dL_law_240 (lv_at hl 8 rfl) ?_
        refine lv_iconst (v := 1) hx hb dL_law_242 (by decide) ?_
        refine lv_iadd hx hb dL_law_243 ?_
        refine lv_icmp_eq (tgt := 249) hx hb dL_law_244 (by decide) (fun c244 => ?_) (fun c244 => ?_)
        · replace hf := ip c244 hf
          refine lv_aload_n hx hb dL_law_249 rfl (lv_at hl 1 rfl) ?_
          obtain ⟨z250_4, hz250_4, hf⟩ := bn_s hf
          refine q_where [(ad_p, .inl (cI, 9, .inl pu)), (ad_d, .inl (cI, 54, .inl d))] (rest := []) hX hw hz250_4 wd579 ⟨Nat.le_of_ble_eq_true rfl, Nat.le_of_ble_eq_true rfl⟩ hP hD hS rfl (Nat.le_of_ble_eq_true rfl) hl.1 ⟨Nat.le_of_ble_eq_true rfl, Nat.le_of_ble_eq_true rfl⟩ dL_law_250 (fun H locs w hw hP hD hS => ?_)
          refine lv_istore (lv' := [(11, .int z250_4.1), (0, .ref bs), (1, .ref ad_o), (2, .int x2), (4, .int x4), (6, .int x6), (7, .int x7), (8, .int x8), (9, .ref ad_p), (10, .int x10)]) hx hb dL_law_253 hl (by decide) rfl (fun ls hl => ?_)
          refine lv_aload_n hx hb dL_law_255 rfl (lv_at hl 2 rfl) ?_
          obtain ⟨z256_5, hz256_5, hf⟩ := bn_s hf
          refine q_asked [(ad_p, .inl (cI, 9, .inl pu)), (ad_d, .inl (cI, 54, .inl d))] (rest := []) hX hw hz256_5 wd901 ⟨Nat.le_of_ble_eq_true rfl, Nat.le_of_ble_eq_true rfl⟩ hP hD hS rfl (Nat.le_of_ble_eq_true rfl) hl.1 ⟨Nat.le_of_ble_eq_true rfl, Nat.le_of_ble_eq_true rfl⟩ dL_law_256 (fun H locs w hw hP hD hS => ?_)
          refine lv_iconst (v := 1) hx hb dL_law_259 (by decide) ?_
          refine lv_icmp_ne (tgt := 267) hx hb dL_law_260 (by decide) (fun c260 => ?_) (fun c260 => ?_)
          · simp only [if_neg c260] at hf
            refine lv_iconst (v := 0) hx hb dL_law_267 (by decide) ?_
            exact hb268 _ _ w ad_p ad_d z256_5.2 pu d x2 x4 x6 x7 x8 x10 z250_4.1 (0 : Int32) hw hP hD hS _ (lv_sub hl [1, 2, 3, 4, 5, 6, 7, 8, 9, 0] rfl) hf
          · simp only [if_pos c260] at hf
            refine lv_iconst (v := 1) hx hb dL_law_263 (by decide) ?_
            refine lv_goto (tgt := 268) hx hb dL_law_264 (by decide) ?_
            exact hb268 _ _ w ad_p ad_d z256_5.2 pu d x2 x4 x6 x7 x8 x10 z250_4.1 (1 : Int32) hw hP hD hS _ (lv_sub hl [1, 2, 3, 4, 5, 6, 7, 8, 9, 0] rfl) hf
        · replace hf := iq c244 hf
          refine lv_iconst (v := 0) hx hb dL_law_247 (by decide) ?_
          exact hRet _ _ _ _ _ _ _ (Nat.le_of_ble_eq_true rfl) (Nat.le_of_ble_eq_true rfl) (Option.some.inj hf) hS dL_law_248
  have hb151 : ∀ (H : Heap) (locs : List Loc) (w : va_W) (ad_d : Nat) (th : TH) (d : (Nat → Int32)) (x2 : Int32) (x4 : Int32), Ob cI cJ cR ad_o th w → va_P D vwCl ([(ad_d, .inl (cI, 54, .inl d))] ++ w) H → va_D A ([(ad_d, .inl (cI, 54, .inl d))] ++ w) → va_S A s.heap H locs → ∀ ls : Array Slot, lv_has ls 30 [(0, .ref bs), (1, .ref ad_o), (2, .int x2), (4, .int x4)] → (f_L_law_b151 N L xs) th d x2 x4 = some o → W p l e room_1 s m args below meth c H locs 55 20261 Q (F0 m 151 ls []) := by
    intro H locs w ad_d th d x2 x4 hw hP hD hS ls hl hf
    unfold f_L_law_b151 at hf
    refine lv_aload_n hx hb dL_law_151 rfl (lv_at hl 0 rfl) ?_
    refine lv_bipush (v := 11) hx hb dL_law_152 (by decide) ?_
    refine q_cell (rest := []) hX hsc (by decide) hL wd939 ⟨Nat.le_of_ble_eq_true rfl, Nat.le_of_ble_eq_true rfl⟩ hP hD hS rfl (Nat.le_of_ble_eq_true rfl) hl.1 ⟨Nat.le_of_ble_eq_true rfl, Nat.le_of_ble_eq_true rfl⟩ dL_law_154 (fun H locs hP hD hS => ?_)
    refine lv_iconst (v := 3) hx hb dL_law_157 (by decide) ?_
    obtain ⟨z158_1, hz158_1, hf⟩ := bn_s hf
    refine kSi (rest := []) hX (c_L_low l D cI cJ cR N (o_cell L xs (11 : Int32)) (3 : Int32) hz158_1) kc_L_low wd935 ⟨Nat.le_of_ble_eq_true rfl, Nat.le_of_ble_eq_true rfl⟩ ⟨rfl, rfl⟩ hP hD hS [] rfl (by decide) (fun w h => by cases h; rfl) rfl rfl (Nat.le_of_ble_eq_true rfl) hl.1 ⟨Nat.le_of_ble_eq_true rfl, Nat.le_of_ble_eq_true rfl⟩ dL_law_158 (fun H locs w1 hw1 hP hD hS => ?_)
    cases hw1
    have hP : va_P D vwCl ([(ad_d, .inl (cI, 54, .inl d))] ++ w) H := hP
    have hD : va_D A ([(ad_d, .inl (cI, 54, .inl d))] ++ w) := hD
    refine lv_istore (lv' := [(5, .int z158_1), (0, .ref bs), (1, .ref ad_o), (2, .int x2), (4, .int x4)]) hx hb dL_law_161 hl (by decide) rfl (fun ls hl => ?_)
    refine lv_aload_n hx hb dL_law_163 rfl (lv_at hl 1 rfl) ?_
    refine lv_bipush (v := 12) hx hb dL_law_164 (by decide) ?_
    refine q_cell (rest := []) hX hsc (by decide) hL wd939 ⟨Nat.le_of_ble_eq_true rfl, Nat.le_of_ble_eq_true rfl⟩ hP hD hS rfl (Nat.le_of_ble_eq_true rfl) hl.1 ⟨Nat.le_of_ble_eq_true rfl, Nat.le_of_ble_eq_true rfl⟩ dL_law_166 (fun H locs hP hD hS => ?_)
    refine lv_iload_n hx hb dL_law_169 rfl (lv_at hl 3 rfl) ?_
    obtain ⟨z170_2, hz170_2, hf⟩ := bn_s hf
    refine kSi (rest := []) hX (c_L_low l D cI cJ cR N (o_cell L xs (12 : Int32)) x2 hz170_2) kc_L_low wd935 ⟨Nat.le_of_ble_eq_true rfl, Nat.le_of_ble_eq_true rfl⟩ ⟨rfl, rfl⟩ hP hD hS [] rfl (by decide) (fun w h => by cases h; rfl) rfl rfl (Nat.le_of_ble_eq_true rfl) hl.1 ⟨Nat.le_of_ble_eq_true rfl, Nat.le_of_ble_eq_true rfl⟩ dL_law_170 (fun H locs w1 hw1 hP hD hS => ?_)
    cases hw1
    have hP : va_P D vwCl ([(ad_d, .inl (cI, 54, .inl d))] ++ w) H := hP
    have hD : va_D A ([(ad_d, .inl (cI, 54, .inl d))] ++ w) := hD
    refine lv_istore (lv' := [(6, .int z170_2), (5, .int z158_1), (0, .ref bs), (1, .ref ad_o), (2, .int x2), (4, .int x4)]) hx hb dL_law_173 hl (by decide) rfl (fun ls hl => ?_)
    refine lv_aload_n hx hb dL_law_175 rfl (lv_at hl 3 rfl) ?_
    refine lv_iload hx hb dL_law_176 (lv_at hl 0 rfl) ?_
    refine lv_iload hx hb dL_law_178 (lv_at hl 1 rfl) ?_
    obtain ⟨z180_3, hz180_3, hf⟩ := bn_s hf
    refine q_begin [(ad_d, .inl (cI, 54, .inl d))] (rest := []) hX hw hz180_3 wd438 ⟨Nat.le_of_ble_eq_true rfl, Nat.le_of_ble_eq_true rfl⟩ hP hD hS rfl (Nat.le_of_ble_eq_true rfl) hl.1 ⟨Nat.le_of_ble_eq_true rfl, Nat.le_of_ble_eq_true rfl⟩ dL_law_180 (fun H locs w hw hP hD hS => ?_)
    refine lv_iload_n hx hb dL_law_183 rfl (lv_at hl 4 rfl) ?_
    refine lv_icmp_ne (tgt := 195) hx hb dL_law_184 (by decide) (fun c184 => ?_) (fun c184 => ?_)
    · replace hf := iq c184 hf
      refine lv_iconst (v := 0) hx hb dL_law_195 (by decide) ?_
      exact hRet _ _ _ _ _ _ _ (Nat.le_of_ble_eq_true rfl) (Nat.le_of_ble_eq_true rfl) (Option.some.inj hf) hS dL_law_196
    · replace hf := ip c184 hf
      refine lv_aload_n hx hb dL_law_187 rfl (lv_at hl 3 rfl) ?_
      refine lv_iconst (v := 0) hx hb dL_law_188 (by decide) ?_
      obtain ⟨z189_4, hz189_4, hf⟩ := bn_s hf
      refine q_keep [(ad_d, .inl (cI, 54, .inl d))] (rest := []) hX hw hz189_4 wd601 ⟨Nat.le_of_ble_eq_true rfl, Nat.le_of_ble_eq_true rfl⟩ hP hD hS rfl (Nat.le_of_ble_eq_true rfl) hl.1 ⟨Nat.le_of_ble_eq_true rfl, Nat.le_of_ble_eq_true rfl⟩ dL_law_189 (fun H locs w hw hP hD hS => ?_)
      refine lv_if_eq (tgt := 197) hx hb dL_law_192 (by decide) (fun c192 => ?_) (fun c192 => ?_)
      · replace hf := ip c192 hf
        refine lv_iconst (v := 0) hx hb dL_law_197 (by decide) ?_
        refine lv_istore (lv' := [(7, .int (0 : Int32)), (6, .int z170_2), (5, .int z158_1), (0, .ref bs), (1, .ref ad_o), (2, .int x2), (4, .int x4)]) hx hb dL_law_198 hl (by decide) rfl (fun ls hl => ?_)
        refine lv_iconst (v := 0) hx hb dL_law_200 (by decide) ?_
        refine lv_istore (lv' := [(8, .int (0 : Int32)), (7, .int (0 : Int32)), (6, .int z170_2), (5, .int z158_1), (0, .ref bs), (1, .ref ad_o), (2, .int x2), (4, .int x4)]) hx hb dL_law_201 hl (by decide) rfl (fun ls hl => ?_)
        refine lv_bipush (v := 9) hx hb dL_law_203 (by decide) ?_
        refine knewi (N' := 9) hX hP hD hS wd59 (by decide) (by decide +kernel) (Nat.le_of_ble_eq_true rfl) (Nat.le_of_ble_eq_true rfl) (Nat.le_of_ble_eq_true rfl) dL_law_205 (fun ad_p H hP hD hS => ?_)
        replace hP := kcommP hP
        replace hD := kcommD hD
        have hP : va_P D vwCl ([(ad_p, .inl (cI, 9, .inl (fun _ => 0))), (ad_d, .inl (cI, 54, .inl d))] ++ w) H := hP
        have hD : va_D A ([(ad_p, .inl (cI, 9, .inl (fun _ => 0))), (ad_d, .inl (cI, 54, .inl d))] ++ w) := hD
        refine lv_astore (lv' := [(9, .ref ad_p), (8, .int (0 : Int32)), (7, .int (0 : Int32)), (6, .int z170_2), (5, .int z158_1), (0, .ref bs), (1, .ref ad_o), (2, .int x2), (4, .int x4)]) hx hb dL_law_207 hl (by decide) rfl (fun ls hl => ?_)
        refine lv_iconst (v := 0) hx hb dL_law_209 (by decide) ?_
        refine lv_istore (lv' := [(10, .int (0 : Int32)), (9, .ref ad_p), (8, .int (0 : Int32)), (7, .int (0 : Int32)), (6, .int z170_2), (5, .int z158_1), (0, .ref bs), (1, .ref ad_o), (2, .int x2), (4, .int x4)]) hx hb dL_law_210 hl (by decide) rfl (fun ls hl => ?_)
        exact hb212 N _ _ w ad_p ad_d z189_4.2 (fun _ => 0) d x2 x4 z170_2 (0 : Int32) (0 : Int32) (0 : Int32) hw hP hD hS _ (lv_sub hl [6, 7, 8, 9, 4, 3, 2, 1, 0] rfl) hf
      · replace hf := iq c192 hf
        refine lv_iconst (v := 0) hx hb dL_law_195 (by decide) ?_
        exact hRet _ _ _ _ _ _ _ (Nat.le_of_ble_eq_true rfl) (Nat.le_of_ble_eq_true rfl) (Option.some.inj hf) hS dL_law_196
  have hb116 : ∀ n116 : Nat, ∀ (H : Heap) (locs : List Loc) (w : va_W) (ad_d : Nat) (th : TH) (d : (Nat → Int32)) (x2 : Int32) (x4 : Int32) (x5 : Int32), Ob cI cJ cR ad_o th w → va_P D vwCl ([(ad_d, .inl (cI, 54, .inl d))] ++ w) H → va_D A ([(ad_d, .inl (cI, 54, .inl d))] ++ w) → va_S A s.heap H locs → ∀ ls : Array Slot, lv_has ls 30 [(0, .ref bs), (1, .ref ad_o), (2, .int x2), (3, .ref ad_d), (4, .int x4), (5, .int x5)] → f_L_law_b116 N L xs (f_L_law_b151 N L xs) n116 th d x2 x4 x5 = some o → W p l e room_1 s m args below meth c H locs 55 20261 Q (F0 m 116 ls []) := by
    intro n116
    induction n116 with
    | zero =>
      intro H locs w ad_d th d x2 x4 x5 hw hP hD hS ls hl hf
      rw [f_L_law_b116] at hf
      cases hf
    | succ n116 ih116 =>
      have hb143 : ∀ (H : Heap) (locs : List Loc) (w : va_W) (ad_d : Nat) (th : TH) (d : (Nat → Int32)) (x2 : Int32) (x5 : Int32) (y0 : Int32), Ob cI cJ cR ad_o th w → va_P D vwCl ([(ad_d, .inl (cI, 54, .inl d))] ++ w) H → va_D A ([(ad_d, .inl (cI, 54, .inl d))] ++ w) → va_S A s.heap H locs → ∀ ls : Array Slot, lv_has ls 30 [(0, .ref bs), (1, .ref ad_o), (2, .int x2), (3, .ref ad_d), (5, .int x5)] → (f_L_law_b143 N L xs (f_L_law_b116 N L xs (f_L_law_b151 N L xs) n116) (f_L_law_b151 N L xs)) th d x2 x5 y0 = some o → W p l e room_1 s m args below meth c H locs 55 20261 Q (F0 m 143 ls [.int y0]) := by
        intro H locs w ad_d th d x2 x5 y0 hw hP hD hS ls hl hf
        unfold f_L_law_b143 at hf
        refine lv_istore (lv' := [(4, .int y0), (0, .ref bs), (1, .ref ad_o), (2, .int x2), (3, .ref ad_d), (5, .int x5)]) hx hb dL_law_143 hl (by decide) rfl (fun ls hl => ?_)
        refine lv_iinc (v := (x5 + (1 : Int32))) (lv' := [(5, .int (x5 + (1 : Int32))), (4, .int y0), (0, .ref bs), (1, .ref ad_o), (2, .int x2), (3, .ref ad_d)]) hx hb dL_law_145 hl (k := 5) rfl rfl (by decide) rfl (fun ls hl => ?_)
        refine lv_goto (tgt := 116) hx hb dL_law_148 (by decide) ?_
        exact ih116 _ _ w ad_d th d x2 y0 (x5 + (1 : Int32)) hw hP hD hS _ (lv_sub hl [2, 3, 4, 5, 1, 0] rfl) hf
      intro H locs w ad_d th d x2 x4 x5 hw hP hD hS ls hl hf
      rw [f_L_law_b116] at hf
      refine lv_iload hx hb dL_law_116 (lv_at hl 5 rfl) ?_
      refine lv_iload_n hx hb dL_law_118 rfl (lv_at hl 2 rfl) ?_
      refine lv_icmp_ge (tgt := 151) hx hb dL_law_119 (by decide) (fun c119 => ?_) (fun c119 => ?_)
      · replace hf := ip c119 hf
        exact hb151 _ _ w ad_d th d x2 x4 hw hP hD hS _ (lv_sub hl [0, 1, 2, 4] rfl) hf
      · replace hf := iq c119 hf
        refine lv_iload hx hb dL_law_122 (lv_at hl 4 rfl) ?_
        refine lv_if_eq (tgt := 142) hx hb dL_law_124 (by decide) (fun c124 => ?_) (fun c124 => ?_)
        · replace hf := ip c124 hf
          refine lv_iconst (v := 0) hx hb dL_law_142 (by decide) ?_
          exact hb143 _ _ w ad_d th d x2 x5 (0 : Int32) hw hP hD hS _ (lv_sub hl [0, 1, 2, 3, 5] rfl) hf
        · replace hf := iq c124 hf
          refine lv_aload_n hx hb dL_law_127 rfl (lv_at hl 3 rfl) ?_
          refine lv_bipush (v := 6) hx hb dL_law_128 (by decide) ?_
          refine lv_iload hx hb dL_law_130 (lv_at hl 5 rfl) ?_
          refine lv_imul hx hb dL_law_132 ?_
          obtain ⟨hg133_1, hf⟩ := gd_s hf
          refine kiald hX hP rfl (q0 := 0) rfl (inb_in hg133_1) dL_law_133 ?_
          refine lv_iconst (v := 2) hx hb dL_law_134 (by decide) ?_
          refine lv_icmp_eq (tgt := 142) hx hb dL_law_135 (by decide) (fun c135 => ?_) (fun c135 => ?_)
          · simp only [if_pos c135] at hf
            refine lv_iconst (v := 0) hx hb dL_law_142 (by decide) ?_
            exact hb143 _ _ w ad_d th d x2 x5 (0 : Int32) hw hP hD hS _ (lv_sub hl [0, 1, 2, 3, 5] rfl) hf
          · simp only [if_neg c135] at hf
            refine lv_iconst (v := 1) hx hb dL_law_138 (by decide) ?_
            refine lv_goto (tgt := 143) hx hb dL_law_139 (by decide) ?_
            exact hb143 _ _ w ad_d th d x2 x5 (1 : Int32) hw hP hD hS _ (lv_sub hl [0, 1, 2, 3, 5] rfl) hf
  have hb85 : ∀ (H : Heap) (locs : List Loc) (w : va_W) (ad_d : Nat) (th : TH) (d : (Nat → Int32)) (x2 : Int32) (y1 : Int32), Ob cI cJ cR ad_o th w → va_P D vwCl ([(ad_d, .inl (cI, 54, .inl d))] ++ w) H → va_D A ([(ad_d, .inl (cI, 54, .inl d))] ++ w) → va_S A s.heap H locs → ∀ ls : Array Slot, lv_has ls 30 [(0, .ref bs), (1, .ref ad_o), (2, .int x2), (3, .ref ad_d)] → (f_L_law_b85 N L xs) th d x2 y1 = some o → W p l e room_1 s m args below meth c H locs 55 20261 Q (F0 m 85 ls [.int y1, .ref ad_o]) := by
    intro H locs w ad_d th d x2 y1 hw hP hD hS ls hl hf
    unfold f_L_law_b85 at hf
    obtain ⟨z85_1, hz85_1, hf⟩ := bn_s hf
    refine q_name [(ad_d, .inl (cI, 54, .inl d))] (rest := []) hX hw hz85_1 wd430 ⟨Nat.le_of_ble_eq_true rfl, Nat.le_of_ble_eq_true rfl⟩ hP hD hS rfl (Nat.le_of_ble_eq_true rfl) hl.1 ⟨Nat.le_of_ble_eq_true rfl, Nat.le_of_ble_eq_true rfl⟩ dL_law_85 (fun H locs w hw hP hD hS => ?_)
    refine lv_if_ne (tgt := 108) hx hb dL_law_88 (by decide) (fun c88 => ?_) (fun c88 => ?_)
    · replace hf := iq c88 hf
      refine lv_iconst (v := 0) hx hb dL_law_108 (by decide) ?_
      exact hRet _ _ _ _ _ _ _ (Nat.le_of_ble_eq_true rfl) (Nat.le_of_ble_eq_true rfl) (Option.some.inj hf) hS dL_law_109
    · replace hf := ip c88 hf
      refine lv_aload_n hx hb dL_law_91 rfl (lv_at hl 1 rfl) ?_
      refine lv_aload_n hx hb dL_law_92 rfl (lv_at hl 0 rfl) ?_
      refine lv_bipush (v := 10) hx hb dL_law_93 (by decide) ?_
      refine q_cell (rest := [.ref ad_o]) hX hsc (by decide) hL wd939 ⟨Nat.le_of_ble_eq_true rfl, Nat.le_of_ble_eq_true rfl⟩ hP hD hS rfl (Nat.le_of_ble_eq_true rfl) hl.1 ⟨Nat.le_of_ble_eq_true rfl, Nat.le_of_ble_eq_true rfl⟩ dL_law_95 (fun H locs hP hD hS => ?_)
      refine lv_iconst (v := 2) hx hb dL_law_98 (by decide) ?_
      obtain ⟨z99_2, hz99_2, hf⟩ := bn_s hf
      refine kSi (rest := [.ref ad_o]) hX (c_L_low l D cI cJ cR N (o_cell L xs (10 : Int32)) (2 : Int32) hz99_2) kc_L_low wd935 ⟨Nat.le_of_ble_eq_true rfl, Nat.le_of_ble_eq_true rfl⟩ ⟨rfl, rfl⟩ hP hD hS [] rfl (by decide) (fun w h => by cases h; rfl) rfl rfl (Nat.le_of_ble_eq_true rfl) hl.1 ⟨Nat.le_of_ble_eq_true rfl, Nat.le_of_ble_eq_true rfl⟩ dL_law_99 (fun H locs w1 hw1 hP hD hS => ?_)
      cases hw1
      have hP : va_P D vwCl ([(ad_d, .inl (cI, 54, .inl d))] ++ w) H := hP
      have hD : va_D A ([(ad_d, .inl (cI, 54, .inl d))] ++ w) := hD
      obtain ⟨z102_3, hz102_3, hf⟩ := bn_s hf
      refine q_link [(ad_d, .inl (cI, 54, .inl d))] (rest := []) hX hw hz102_3 wd434 ⟨Nat.le_of_ble_eq_true rfl, Nat.le_of_ble_eq_true rfl⟩ hP hD hS rfl (Nat.le_of_ble_eq_true rfl) hl.1 ⟨Nat.le_of_ble_eq_true rfl, Nat.le_of_ble_eq_true rfl⟩ dL_law_102 (fun H locs w hw hP hD hS => ?_)
      refine lv_if_eq (tgt := 110) hx hb dL_law_105 (by decide) (fun c105 => ?_) (fun c105 => ?_)
      · replace hf := ip c105 hf
        refine lv_iconst (v := 1) hx hb dL_law_110 (by decide) ?_
        refine lv_istore (lv' := [(4, .int (1 : Int32)), (0, .ref bs), (1, .ref ad_o), (2, .int x2), (3, .ref ad_d)]) hx hb dL_law_111 hl (by decide) rfl (fun ls hl => ?_)
        refine lv_iconst (v := 0) hx hb dL_law_113 (by decide) ?_
        refine lv_istore (lv' := [(5, .int (0 : Int32)), (4, .int (1 : Int32)), (0, .ref bs), (1, .ref ad_o), (2, .int x2), (3, .ref ad_d)]) hx hb dL_law_114 hl (by decide) rfl (fun ls hl => ?_)
        exact hb116 N _ _ w ad_d z102_3.2 d x2 (1 : Int32) (0 : Int32) hw hP hD hS _ (lv_sub hl [2, 3, 4, 5, 1, 0] rfl) hf
      · replace hf := iq c105 hf
        refine lv_iconst (v := 0) hx hb dL_law_108 (by decide) ?_
        exact hRet _ _ _ _ _ _ _ (Nat.le_of_ble_eq_true rfl) (Nat.le_of_ble_eq_true rfl) (Option.some.inj hf) hS dL_law_109
  intro H locs w th hw hP hD hS ls hl hf
  unfold f_L_law at hf
  refine lv_iconst (v := 1) hx hb dL_law_8 (by decide) ?_
  refine lv_aload_n hx hb dL_law_9 rfl (lv_at hl 0 rfl) ?_
  refine lv_iconst (v := 0) hx hb dL_law_10 (by decide) ?_
  refine q_cell (rest := [.int (1 : Int32)]) hX hsc (by decide) hL wd939 ⟨Nat.le_of_ble_eq_true rfl, Nat.le_of_ble_eq_true rfl⟩ hP hD hS rfl (Nat.le_of_ble_eq_true rfl) hl.1 ⟨Nat.le_of_ble_eq_true rfl, Nat.le_of_ble_eq_true rfl⟩ dL_law_11 (fun H locs hP hD hS => ?_)
  refine lv_bipush (v := 7) hx hb dL_law_14 (by decide) ?_
  obtain ⟨z16_1, hz16_1, hf⟩ := bn_s hf
  refine kSi (rest := [.int (1 : Int32)]) hX (c_L_low l D cI cJ cR N (o_cell L xs (0 : Int32)) (7 : Int32) hz16_1) kc_L_low wd935 ⟨Nat.le_of_ble_eq_true rfl, Nat.le_of_ble_eq_true rfl⟩ ⟨rfl, rfl⟩ hP hD hS [] rfl (by decide) (fun w h => by cases h; rfl) rfl rfl (Nat.le_of_ble_eq_true rfl) hl.1 ⟨Nat.le_of_ble_eq_true rfl, Nat.le_of_ble_eq_true rfl⟩ dL_law_16 (fun H locs w1 hw1 hP hD hS => ?_)
  cases hw1
  have hP : va_P D vwCl ([] ++ w) H := hP
  have hD : va_D A ([] ++ w) := hD
  refine lv_iadd hx hb dL_law_19 ?_
  refine lv_topi (fun v20 ev20 => ?_)
  replace hf := nm_s ev20 hf
  refine lv_istore_n (lv' := [(2, .int v20), (0, .ref bs), (1, .ref ad_o)]) hx hb dL_law_20 rfl hl (by decide) rfl (fun ls hl => ?_)
  refine lv_bipush (v := 54) hx hb dL_law_21 (by decide) ?_
  refine knewi (N' := 54) hX hP hD hS wd59 (by decide) (by decide +kernel) (Nat.le_of_ble_eq_true rfl) (Nat.le_of_ble_eq_true rfl) (Nat.le_of_ble_eq_true rfl) dL_law_23 (fun ad_d H hP hD hS => ?_)
  replace hP := kcommP hP
  replace hD := kcommD hD
  have hP : va_P D vwCl ([(ad_d, .inl (cI, 54, .inl (fun _ => 0)))] ++ w) H := hP
  have hD : va_D A ([(ad_d, .inl (cI, 54, .inl (fun _ => 0)))] ++ w) := hD
  refine lv_astore_n (lv' := [(3, .ref ad_d), (2, .int v20), (0, .ref bs), (1, .ref ad_o)]) hx hb dL_law_25 rfl hl (by decide) rfl (fun ls hl => ?_)
  refine lv_aload_n hx hb dL_law_26 rfl (lv_at hl 3 rfl) ?_
  refine lv_aload_n hx hb dL_law_27 rfl (lv_at hl 2 rfl) ?_
  refine lv_iconst (v := 1) hx hb dL_law_28 (by decide) ?_
  refine lv_iload_n hx hb dL_law_29 rfl (lv_at hl 1 rfl) ?_
  refine lv_aload_n hx hb dL_law_30 rfl (lv_at hl 0 rfl) ?_
  obtain ⟨z31_2, hz31_2, hf⟩ := bn_s hf
  refine q_lof (rest := []) hX hsc hL hw hz31_2 wd946 ⟨Nat.le_of_ble_eq_true rfl, Nat.le_of_ble_eq_true rfl⟩ hP hD hS rfl (Nat.le_of_ble_eq_true rfl) hl.1 ⟨Nat.le_of_ble_eq_true rfl, Nat.le_of_ble_eq_true rfl⟩ dL_law_31 (fun H locs w hw hP hD hS => ?_)
  refine lv_if_eq (tgt := 108) hx hb dL_law_34 (by decide) (fun c34 => ?_) (fun c34 => ?_)
  · replace hf := ip c34 hf
    refine lv_iconst (v := 0) hx hb dL_law_108 (by decide) ?_
    exact hRet _ _ _ _ _ _ _ (Nat.le_of_ble_eq_true rfl) (Nat.le_of_ble_eq_true rfl) (Option.some.inj hf) hS dL_law_109
  · replace hf := iq c34 hf
    refine lv_aload_n hx hb dL_law_37 rfl (lv_at hl 3 rfl) ?_
    refine lv_aload_n hx hb dL_law_38 rfl (lv_at hl 2 rfl) ?_
    refine lv_bipush (v := 8) hx hb dL_law_39 (by decide) ?_
    refine q_cell (rest := [.ref ad_o]) hX hsc (by decide) hL wd939 ⟨Nat.le_of_ble_eq_true rfl, Nat.le_of_ble_eq_true rfl⟩ hP hD hS rfl (Nat.le_of_ble_eq_true rfl) hl.1 ⟨Nat.le_of_ble_eq_true rfl, Nat.le_of_ble_eq_true rfl⟩ dL_law_41 (fun H locs hP hD hS => ?_)
    refine lv_iconst (v := 3) hx hb dL_law_44 (by decide) ?_
    obtain ⟨z45_3, hz45_3, hf⟩ := bn_s hf
    refine kSi (rest := [.ref ad_o]) hX (c_L_low l D cI cJ cR N (o_cell L xs (8 : Int32)) (3 : Int32) hz45_3) kc_L_low wd935 ⟨Nat.le_of_ble_eq_true rfl, Nat.le_of_ble_eq_true rfl⟩ ⟨rfl, rfl⟩ hP hD hS [] rfl (by decide) (fun w h => by cases h; rfl) rfl rfl (Nat.le_of_ble_eq_true rfl) hl.1 ⟨Nat.le_of_ble_eq_true rfl, Nat.le_of_ble_eq_true rfl⟩ dL_law_45 (fun H locs w1 hw1 hP hD hS => ?_)
    cases hw1
    have hP : va_P D vwCl ([(ad_d, .inl (cI, 54, .inl z31_2.2.2))] ++ w) H := hP
    have hD : va_D A ([(ad_d, .inl (cI, 54, .inl z31_2.2.2))] ++ w) := hD
    obtain ⟨z48_4, hz48_4, hf⟩ := bn_s hf
    refine q_law [(ad_d, .inl (cI, 54, .inl z31_2.2.2))] (rest := []) hX hw hz48_4 wd426 ⟨Nat.le_of_ble_eq_true rfl, Nat.le_of_ble_eq_true rfl⟩ hP hD hS rfl (Nat.le_of_ble_eq_true rfl) hl.1 ⟨Nat.le_of_ble_eq_true rfl, Nat.le_of_ble_eq_true rfl⟩ dL_law_48 (fun H locs w hw hP hD hS => ?_)
    refine lv_if_ne (tgt := 108) hx hb dL_law_51 (by decide) (fun c51 => ?_) (fun c51 => ?_)
    · replace hf := iq c51 hf
      refine lv_iconst (v := 0) hx hb dL_law_108 (by decide) ?_
      exact hRet _ _ _ _ _ _ _ (Nat.le_of_ble_eq_true rfl) (Nat.le_of_ble_eq_true rfl) (Option.some.inj hf) hS dL_law_109
    · replace hf := ip c51 hf
      refine lv_aload_n hx hb dL_law_54 rfl (lv_at hl 3 rfl) ?_
      refine lv_aload_n hx hb dL_law_55 rfl (lv_at hl 2 rfl) ?_
      refine lv_bipush (v := 9) hx hb dL_law_56 (by decide) ?_
      refine q_cell (rest := [.ref ad_o]) hX hsc (by decide) hL wd939 ⟨Nat.le_of_ble_eq_true rfl, Nat.le_of_ble_eq_true rfl⟩ hP hD hS rfl (Nat.le_of_ble_eq_true rfl) hl.1 ⟨Nat.le_of_ble_eq_true rfl, Nat.le_of_ble_eq_true rfl⟩ dL_law_58 (fun H locs hP hD hS => ?_)
      refine lv_iconst (v := 3) hx hb dL_law_61 (by decide) ?_
      obtain ⟨z62_5, hz62_5, hf⟩ := bn_s hf
      refine kSi (rest := [.ref ad_o]) hX (c_L_low l D cI cJ cR N (o_cell L xs (9 : Int32)) (3 : Int32) hz62_5) kc_L_low wd935 ⟨Nat.le_of_ble_eq_true rfl, Nat.le_of_ble_eq_true rfl⟩ ⟨rfl, rfl⟩ hP hD hS [] rfl (by decide) (fun w h => by cases h; rfl) rfl rfl (Nat.le_of_ble_eq_true rfl) hl.1 ⟨Nat.le_of_ble_eq_true rfl, Nat.le_of_ble_eq_true rfl⟩ dL_law_62 (fun H locs w1 hw1 hP hD hS => ?_)
      cases hw1
      have hP : va_P D vwCl ([(ad_d, .inl (cI, 54, .inl z31_2.2.2))] ++ w) H := hP
      have hD : va_D A ([(ad_d, .inl (cI, 54, .inl z31_2.2.2))] ++ w) := hD
      refine lv_if_ne (tgt := 84) hx hb dL_law_65 (by decide) (fun c65 => ?_) (fun c65 => ?_)
      · replace hf := iq c65 hf
        refine lv_iconst (v := 0) hx hb dL_law_84 (by decide) ?_
        exact hb85 _ _ w ad_d z48_4.2 z31_2.2.2 v20 (0 : Int32) hw hP hD hS _ (lv_sub hl [2, 3, 1, 0] rfl) hf
      · replace hf := ip c65 hf
        refine lv_aload_n hx hb dL_law_68 rfl (lv_at hl 2 rfl) ?_
        refine lv_bipush (v := 9) hx hb dL_law_69 (by decide) ?_
        refine q_cell (rest := [.ref ad_o]) hX hsc (by decide) hL wd939 ⟨Nat.le_of_ble_eq_true rfl, Nat.le_of_ble_eq_true rfl⟩ hP hD hS rfl (Nat.le_of_ble_eq_true rfl) hl.1 ⟨Nat.le_of_ble_eq_true rfl, Nat.le_of_ble_eq_true rfl⟩ dL_law_71 (fun H locs hP hD hS => ?_)
        refine lv_iconst (v := 4) hx hb dL_law_74 (by decide) ?_
        refine lv_ishr hx hb dL_law_75 ?_
        refine lv_bipush (v := 20) hx hb dL_law_76 (by decide) ?_
        obtain ⟨z78_6, hz78_6, hf⟩ := bn_s hf
        refine kSi (rest := [.ref ad_o]) hX (c_L_low l D cI cJ cR N ((o_cell L xs (9 : Int32)) >>> ((4 : Int32) &&& 31)) (20 : Int32) hz78_6) kc_L_low wd935 ⟨Nat.le_of_ble_eq_true rfl, Nat.le_of_ble_eq_true rfl⟩ ⟨rfl, rfl⟩ hP hD hS [] rfl (by decide) (fun w h => by cases h; rfl) rfl rfl (Nat.le_of_ble_eq_true rfl) hl.1 ⟨Nat.le_of_ble_eq_true rfl, Nat.le_of_ble_eq_true rfl⟩ dL_law_78 (fun H locs w1 hw1 hP hD hS => ?_)
        cases hw1
        have hP : va_P D vwCl ([(ad_d, .inl (cI, 54, .inl z31_2.2.2))] ++ w) H := hP
        have hD : va_D A ([(ad_d, .inl (cI, 54, .inl z31_2.2.2))] ++ w) := hD
        refine lv_goto (tgt := 85) hx hb dL_law_81 (by decide) ?_
        exact hb85 _ _ w ad_d z48_4.2 z31_2.2.2 v20 z78_6 hw hP hD hS _ (lv_sub hl [2, 3, 1, 0] rfl) hf
