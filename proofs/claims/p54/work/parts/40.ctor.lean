abbrev rm_X7_init_6_40 : Room := { frames := 1, cells := 2, slots := 246, locals := 40 }
set_option maxHeartbeats 8000000 in
set_option maxRecDepth 100000 in
theorem c_X7_init_6_40 (l : Launch) (D : va_G) (cI cJ cR : ClassId) (ad_s : Nat) : kMv l D (kT cI cJ cR) yX7_init cX7_init 4 none rm_X7_init_6_40 [.ref ad_s, .int (6 : Int32), .int (40 : Int32)] [(ad_s, .inr (7, [.int (0 : Int32), .null, .null]))] 2 246 (fun w => ∃ q19 q39 : Nat, w = [(ad_s, .inr (7, [.int (40 : Int32), .ref q19, .ref q39])), (q19, .inl (cI, 6, .inl (upd (upd (upd (upd (upd (upd (fun _ => 0) (0 : Int32).toNatClampNeg (-1 : Int32)) (1 : Int32).toNatClampNeg (-1 : Int32)) (2 : Int32).toNatClampNeg (-1 : Int32)) (3 : Int32).toNatClampNeg (-1 : Int32)) (4 : Int32).toNatClampNeg (-1 : Int32)) (5 : Int32).toNatClampNeg (-1 : Int32)))), (q39, .inl (cI, 240, .inl (fun _ => 0)))]) := by
  apply kInN
  · decide
  · rfl
  · exact Nat.le_of_ble_eq_true rfl
  intro p e s m args below meth c A ls Q hX hnm hRet hP hD hS hl
  have hx := hX.1.1
  have hb := hX.1.2.1
  have hown := hX.1.2.2.2.1
  have hts := hX.1.2.2.2.2
  have hl : lv_has ls 4 [(0, .ref ad_s), (1, .int (6 : Int32)), (2, .int (40 : Int32))] := hl
  refine lv_aload_n hx hb dX7_init_0 rfl (lv_at hl 0 rfl) ?_
  refine W.objInit hx hb hown (hts _ (List.mem_cons_of_mem _ wd45)) (hts _ (List.mem_cons_of_mem _ wd38)) (hts _ (List.mem_cons_of_mem _ wd39)) rfl (by rw [hX.1.2.2.1]; exact hl.1) rfl dX7_init_1 (Nat.le_of_ble_eq_true rfl) (Nat.le_of_ble_eq_true rfl) ?_
  refine W.eq (g2 := F0 m 4 ls []) rfl ?_
  refine lv_aload_n hx hb dX7_init_4 rfl (lv_at hl 0 rfl) ?_
  refine lv_iconst (v := 0) hx hb dX7_init_5 (by decide) ?_
  refine lv_iload_n hx hb dX7_init_6 rfl (lv_at hl 2 rfl) ?_
  refine va_mmax hx hb (hX.1.2.2.1.trans hl.1.symm) hown (hts _ (List.mem_cons_of_mem _ wd46)) (hts _ (List.mem_cons_of_mem _ wd47)) (hts _ (List.mem_cons_of_mem _ wd20)) (hts _ (List.mem_cons_of_mem _ wd48)) (Nat.le_of_ble_eq_true rfl) (Nat.le_of_ble_eq_true rfl) (Nat.le_of_ble_eq_true rfl) (Nat.le_of_ble_eq_true rfl) dX7_init_7 ?_
  refine lv_topi (fun w7 ew7 => ?_)
  have ew7 : w7 = (40 : Int32) := ew7.trans (by decide)
  subst ew7
  refine kputF hX hnm rfl hP hD hS (q0 := 0) rfl rfl inX7 tyX7_ok nmX7 (k := 0) (by decide) rfl wd49 rfl rfl (Nat.le_of_ble_eq_true rfl) dX7_init_10 (fun H locs hP hD hS => ?_)
  refine lv_aload_n hx hb dX7_init_13 rfl (lv_at hl 0 rfl) ?_
  refine lv_iconst (v := 0) hx hb dX7_init_14 (by decide) ?_
  refine lv_iload_n hx hb dX7_init_15 rfl (lv_at hl 1 rfl) ?_
  refine va_mmax hx hb (hX.1.2.2.1.trans hl.1.symm) hown (hts _ (List.mem_cons_of_mem _ wd46)) (hts _ (List.mem_cons_of_mem _ wd47)) (hts _ (List.mem_cons_of_mem _ wd20)) (hts _ (List.mem_cons_of_mem _ wd48)) (Nat.le_of_ble_eq_true rfl) (Nat.le_of_ble_eq_true rfl) (Nat.le_of_ble_eq_true rfl) (Nat.le_of_ble_eq_true rfl) dX7_init_16 ?_
  refine lv_topi (fun w16 ew16 => ?_)
  have ew16 : w16 = (6 : Int32) := ew16.trans (by decide)
  subst ew16
  refine knewi (N' := 6) hX hP hD hS wd59 (by decide) (by decide +kernel) (Nat.le_of_ble_eq_true rfl) (Nat.le_of_ble_eq_true rfl) (Nat.le_of_ble_eq_true rfl) dX7_init_19 (fun q19 H hP hD hS => ?_)
  have hP : va_P D vwCl [(ad_s, .inr (7, [.int (40 : Int32), .null, .null])), (q19, .inl (cI, 6, .inl (fun _ => 0)))] H := hP
  have hD : va_D A [(ad_s, .inr (7, [.int (40 : Int32), .null, .null])), (q19, .inl (cI, 6, .inl (fun _ => 0)))] := hD
  refine kputF hX hnm rfl hP hD hS (q0 := 0) rfl rfl inX7 tyX7_ok nmX7 (k := 1) (by decide) rfl wd50 rfl rfl (Nat.le_of_ble_eq_true rfl) dX7_init_21 (fun H locs hP hD hS => ?_)
  refine lv_aload_n hx hb dX7_init_24 rfl (lv_at hl 0 rfl) ?_
  refine lv_iconst (v := 0) hx hb dX7_init_25 (by decide) ?_
  refine lv_aload_n hx hb dX7_init_26 rfl (lv_at hl 0 rfl) ?_
  refine kget hX hP (q0 := 0) rfl rfl inX7 (k := 1) (by decide) rfl wd50 rfl dX7_init_27 ?_
  refine kalen hX hP (t0 := 0) rfl (q0 := 1) rfl (v := (6 : Int32)) rfl dX7_init_30 ?_
  refine lv_aload_n hx hb dX7_init_31 rfl (lv_at hl 0 rfl) ?_
  refine kget hX hP (q0 := 0) rfl rfl inX7 (k := 0) (by decide) rfl wd49 rfl dX7_init_32 ?_
  refine lv_imul hx hb dX7_init_35 ?_
  refine lv_topi (fun w35 ew35 => ?_)
  have ew35 : w35 = (240 : Int32) := ew35.trans (by decide)
  subst ew35
  refine va_mmax hx hb (hX.1.2.2.1.trans hl.1.symm) hown (hts _ (List.mem_cons_of_mem _ wd46)) (hts _ (List.mem_cons_of_mem _ wd47)) (hts _ (List.mem_cons_of_mem _ wd20)) (hts _ (List.mem_cons_of_mem _ wd48)) (Nat.le_of_ble_eq_true rfl) (Nat.le_of_ble_eq_true rfl) (Nat.le_of_ble_eq_true rfl) (Nat.le_of_ble_eq_true rfl) dX7_init_36 ?_
  refine lv_topi (fun w36 ew36 => ?_)
  have ew36 : w36 = (240 : Int32) := ew36.trans (by decide)
  subst ew36
  refine knewi (N' := 240) hX hP hD hS wd59 (by decide) (by decide +kernel) (Nat.le_of_ble_eq_true rfl) (Nat.le_of_ble_eq_true rfl) (Nat.le_of_ble_eq_true rfl) dX7_init_39 (fun q39 H hP hD hS => ?_)
  have hP : va_P D vwCl [(ad_s, .inr (7, [.int (40 : Int32), .ref q19, .null])), (q19, .inl (cI, 6, .inl (fun _ => 0))), (q39, .inl (cI, 240, .inl (fun _ => 0)))] H := hP
  have hD : va_D A [(ad_s, .inr (7, [.int (40 : Int32), .ref q19, .null])), (q19, .inl (cI, 6, .inl (fun _ => 0))), (q39, .inl (cI, 240, .inl (fun _ => 0)))] := hD
  refine kputF hX hnm rfl hP hD hS (q0 := 0) rfl rfl inX7 tyX7_ok nmX7 (k := 2) (by decide) rfl wd51 rfl rfl (Nat.le_of_ble_eq_true rfl) dX7_init_41 (fun H locs hP hD hS => ?_)
  refine lv_iconst (v := 0) hx hb dX7_init_44 (by decide) ?_
  refine lv_istore_n (lv' := [(3, .int (0 : Int32)), (0, .ref ad_s), (1, .int (6 : Int32)), (2, .int (40 : Int32))]) hx hb dX7_init_45 rfl hl (by decide) rfl (fun ls hl => ?_)
  refine lv_iload_n hx hb dX7_init_46 rfl (lv_at hl 0 rfl) ?_
  refine lv_aload_n hx hb dX7_init_47 rfl (lv_at hl 1 rfl) ?_
  refine kget hX hP (q0 := 0) rfl rfl inX7 (k := 1) (by decide) rfl wd50 rfl dX7_init_48 ?_
  refine kalen hX hP (t0 := 0) rfl (q0 := 1) rfl (v := (6 : Int32)) rfl dX7_init_51 ?_
  refine lv_icmp_ge (tgt := 68) hx hb dX7_init_52 (by decide) (fun c => absurd c (by decide)) (fun _ => ?_)
  refine lv_aload_n hx hb dX7_init_55 rfl (lv_at hl 1 rfl) ?_
  refine kget hX hP (q0 := 0) rfl rfl inX7 (k := 1) (by decide) rfl wd50 rfl dX7_init_56 ?_
  refine lv_iload_n hx hb dX7_init_59 rfl (lv_at hl 0 rfl) ?_
  refine lv_iconst (v := -1) hx hb dX7_init_60 (by decide) ?_
  refine kiast hX hP hD hS rfl (q0 := 1) rfl (vpd (by decide +kernel)) dX7_init_61 (fun H locs hP hD hS => ?_)
  have hP : va_P D vwCl [(ad_s, .inr (7, [.int (40 : Int32), .ref q19, .ref q39])), (q19, .inl (cI, 6, .inl (upd (fun _ => 0) (0 : Int32).toNatClampNeg (-1 : Int32)))), (q39, .inl (cI, 240, .inl (fun _ => 0)))] H := hP
  have hD : va_D A [(ad_s, .inr (7, [.int (40 : Int32), .ref q19, .ref q39])), (q19, .inl (cI, 6, .inl (upd (fun _ => 0) (0 : Int32).toNatClampNeg (-1 : Int32)))), (q39, .inl (cI, 240, .inl (fun _ => 0)))] := hD
  refine lv_iinc (v := (1 : Int32)) (lv' := [(3, .int (1 : Int32)), (0, .ref ad_s), (1, .int (6 : Int32)), (2, .int (40 : Int32))]) hx hb dX7_init_62 hl (k := 0) rfl (by decide) (by decide) rfl (fun ls hl => ?_)
  refine lv_goto (tgt := 46) hx hb dX7_init_65 (by decide) ?_
  refine lv_iload_n hx hb dX7_init_46 rfl (lv_at hl 0 rfl) ?_
  refine lv_aload_n hx hb dX7_init_47 rfl (lv_at hl 1 rfl) ?_
  refine kget hX hP (q0 := 0) rfl rfl inX7 (k := 1) (by decide) rfl wd50 rfl dX7_init_48 ?_
  refine kalen hX hP (t0 := 0) rfl (q0 := 1) rfl (v := (6 : Int32)) rfl dX7_init_51 ?_
  refine lv_icmp_ge (tgt := 68) hx hb dX7_init_52 (by decide) (fun c => absurd c (by decide)) (fun _ => ?_)
  refine lv_aload_n hx hb dX7_init_55 rfl (lv_at hl 1 rfl) ?_
  refine kget hX hP (q0 := 0) rfl rfl inX7 (k := 1) (by decide) rfl wd50 rfl dX7_init_56 ?_
  refine lv_iload_n hx hb dX7_init_59 rfl (lv_at hl 0 rfl) ?_
  refine lv_iconst (v := -1) hx hb dX7_init_60 (by decide) ?_
  refine kiast hX hP hD hS rfl (q0 := 1) rfl (vpd (by decide +kernel)) dX7_init_61 (fun H locs hP hD hS => ?_)
  have hP : va_P D vwCl [(ad_s, .inr (7, [.int (40 : Int32), .ref q19, .ref q39])), (q19, .inl (cI, 6, .inl (upd (upd (fun _ => 0) (0 : Int32).toNatClampNeg (-1 : Int32)) (1 : Int32).toNatClampNeg (-1 : Int32)))), (q39, .inl (cI, 240, .inl (fun _ => 0)))] H := hP
  have hD : va_D A [(ad_s, .inr (7, [.int (40 : Int32), .ref q19, .ref q39])), (q19, .inl (cI, 6, .inl (upd (upd (fun _ => 0) (0 : Int32).toNatClampNeg (-1 : Int32)) (1 : Int32).toNatClampNeg (-1 : Int32)))), (q39, .inl (cI, 240, .inl (fun _ => 0)))] := hD
  refine lv_iinc (v := (2 : Int32)) (lv' := [(3, .int (2 : Int32)), (0, .ref ad_s), (1, .int (6 : Int32)), (2, .int (40 : Int32))]) hx hb dX7_init_62 hl (k := 0) rfl (by decide) (by decide) rfl (fun ls hl => ?_)
  refine lv_goto (tgt := 46) hx hb dX7_init_65 (by decide) ?_
  refine lv_iload_n hx hb dX7_init_46 rfl (lv_at hl 0 rfl) ?_
  refine lv_aload_n hx hb dX7_init_47 rfl (lv_at hl 1 rfl) ?_
  refine kget hX hP (q0 := 0) rfl rfl inX7 (k := 1) (by decide) rfl wd50 rfl dX7_init_48 ?_
  refine kalen hX hP (t0 := 0) rfl (q0 := 1) rfl (v := (6 : Int32)) rfl dX7_init_51 ?_
  refine lv_icmp_ge (tgt := 68) hx hb dX7_init_52 (by decide) (fun c => absurd c (by decide)) (fun _ => ?_)
  refine lv_aload_n hx hb dX7_init_55 rfl (lv_at hl 1 rfl) ?_
  refine kget hX hP (q0 := 0) rfl rfl inX7 (k := 1) (by decide) rfl wd50 rfl dX7_init_56 ?_
  refine lv_iload_n hx hb dX7_init_59 rfl (lv_at hl 0 rfl) ?_
  refine lv_iconst (v := -1) hx hb dX7_init_60 (by decide) ?_
  refine kiast hX hP hD hS rfl (q0 := 1) rfl (vpd (by decide +kernel)) dX7_init_61 (fun H locs hP hD hS => ?_)
  have hP : va_P D vwCl [(ad_s, .inr (7, [.int (40 : Int32), .ref q19, .ref q39])), (q19, .inl (cI, 6, .inl (upd (upd (upd (fun _ => 0) (0 : Int32).toNatClampNeg (-1 : Int32)) (1 : Int32).toNatClampNeg (-1 : Int32)) (2 : Int32).toNatClampNeg (-1 : Int32)))), (q39, .inl (cI, 240, .inl (fun _ => 0)))] H := hP
  have hD : va_D A [(ad_s, .inr (7, [.int (40 : Int32), .ref q19, .ref q39])), (q19, .inl (cI, 6, .inl (upd (upd (upd (fun _ => 0) (0 : Int32).toNatClampNeg (-1 : Int32)) (1 : Int32).toNatClampNeg (-1 : Int32)) (2 : Int32).toNatClampNeg (-1 : Int32)))), (q39, .inl (cI, 240, .inl (fun _ => 0)))] := hD
  refine lv_iinc (v := (3 : Int32)) (lv' := [(3, .int (3 : Int32)), (0, .ref ad_s), (1, .int (6 : Int32)), (2, .int (40 : Int32))]) hx hb dX7_init_62 hl (k := 0) rfl (by decide) (by decide) rfl (fun ls hl => ?_)
  refine lv_goto (tgt := 46) hx hb dX7_init_65 (by decide) ?_
  refine lv_iload_n hx hb dX7_init_46 rfl (lv_at hl 0 rfl) ?_
  refine lv_aload_n hx hb dX7_init_47 rfl (lv_at hl 1 rfl) ?_
  refine kget hX hP (q0 := 0) rfl rfl inX7 (k := 1) (by decide) rfl wd50 rfl dX7_init_48 ?_
  refine kalen hX hP (t0 := 0) rfl (q0 := 1) rfl (v := (6 : Int32)) rfl dX7_init_51 ?_
  refine lv_icmp_ge (tgt := 68) hx hb dX7_init_52 (by decide) (fun c => absurd c (by decide)) (fun _ => ?_)
  refine lv_aload_n hx hb dX7_init_55 rfl (lv_at hl 1 rfl) ?_
  refine kget hX hP (q0 := 0) rfl rfl inX7 (k := 1) (by decide) rfl wd50 rfl dX7_init_56 ?_
  refine lv_iload_n hx hb dX7_init_59 rfl (lv_at hl 0 rfl) ?_
  refine lv_iconst (v := -1) hx hb dX7_init_60 (by decide) ?_
  refine kiast hX hP hD hS rfl (q0 := 1) rfl (vpd (by decide +kernel)) dX7_init_61 (fun H locs hP hD hS => ?_)
  have hP : va_P D vwCl [(ad_s, .inr (7, [.int (40 : Int32), .ref q19, .ref q39])), (q19, .inl (cI, 6, .inl (upd (upd (upd (upd (fun _ => 0) (0 : Int32).toNatClampNeg (-1 : Int32)) (1 : Int32).toNatClampNeg (-1 : Int32)) (2 : Int32).toNatClampNeg (-1 : Int32)) (3 : Int32).toNatClampNeg (-1 : Int32)))), (q39, .inl (cI, 240, .inl (fun _ => 0)))] H := hP
  have hD : va_D A [(ad_s, .inr (7, [.int (40 : Int32), .ref q19, .ref q39])), (q19, .inl (cI, 6, .inl (upd (upd (upd (upd (fun _ => 0) (0 : Int32).toNatClampNeg (-1 : Int32)) (1 : Int32).toNatClampNeg (-1 : Int32)) (2 : Int32).toNatClampNeg (-1 : Int32)) (3 : Int32).toNatClampNeg (-1 : Int32)))), (q39, .inl (cI, 240, .inl (fun _ => 0)))] := hD
  refine lv_iinc (v := (4 : Int32)) (lv' := [(3, .int (4 : Int32)), (0, .ref ad_s), (1, .int (6 : Int32)), (2, .int (40 : Int32))]) hx hb dX7_init_62 hl (k := 0) rfl (by decide) (by decide) rfl (fun ls hl => ?_)
  refine lv_goto (tgt := 46) hx hb dX7_init_65 (by decide) ?_
  refine lv_iload_n hx hb dX7_init_46 rfl (lv_at hl 0 rfl) ?_
  refine lv_aload_n hx hb dX7_init_47 rfl (lv_at hl 1 rfl) ?_
  refine kget hX hP (q0 := 0) rfl rfl inX7 (k := 1) (by decide) rfl wd50 rfl dX7_init_48 ?_
  refine kalen hX hP (t0 := 0) rfl (q0 := 1) rfl (v := (6 : Int32)) rfl dX7_init_51 ?_
  refine lv_icmp_ge (tgt := 68) hx hb dX7_init_52 (by decide) (fun c => absurd c (by decide)) (fun _ => ?_)
  refine lv_aload_n hx hb dX7_init_55 rfl (lv_at hl 1 rfl) ?_
  refine kget hX hP (q0 := 0) rfl rfl inX7 (k := 1) (by decide) rfl wd50 rfl dX7_init_56 ?_
  refine lv_iload_n hx hb dX7_init_59 rfl (lv_at hl 0 rfl) ?_
  refine lv_iconst (v := -1) hx hb dX7_init_60 (by decide) ?_
  refine kiast hX hP hD hS rfl (q0 := 1) rfl (vpd (by decide +kernel)) dX7_init_61 (fun H locs hP hD hS => ?_)
  have hP : va_P D vwCl [(ad_s, .inr (7, [.int (40 : Int32), .ref q19, .ref q39])), (q19, .inl (cI, 6, .inl (upd (upd (upd (upd (upd (fun _ => 0) (0 : Int32).toNatClampNeg (-1 : Int32)) (1 : Int32).toNatClampNeg (-1 : Int32)) (2 : Int32).toNatClampNeg (-1 : Int32)) (3 : Int32).toNatClampNeg (-1 : Int32)) (4 : Int32).toNatClampNeg (-1 : Int32)))), (q39, .inl (cI, 240, .inl (fun _ => 0)))] H := hP
  have hD : va_D A [(ad_s, .inr (7, [.int (40 : Int32), .ref q19, .ref q39])), (q19, .inl (cI, 6, .inl (upd (upd (upd (upd (upd (fun _ => 0) (0 : Int32).toNatClampNeg (-1 : Int32)) (1 : Int32).toNatClampNeg (-1 : Int32)) (2 : Int32).toNatClampNeg (-1 : Int32)) (3 : Int32).toNatClampNeg (-1 : Int32)) (4 : Int32).toNatClampNeg (-1 : Int32)))), (q39, .inl (cI, 240, .inl (fun _ => 0)))] := hD
  refine lv_iinc (v := (5 : Int32)) (lv' := [(3, .int (5 : Int32)), (0, .ref ad_s), (1, .int (6 : Int32)), (2, .int (40 : Int32))]) hx hb dX7_init_62 hl (k := 0) rfl (by decide) (by decide) rfl (fun ls hl => ?_)
  refine lv_goto (tgt := 46) hx hb dX7_init_65 (by decide) ?_
  refine lv_iload_n hx hb dX7_init_46 rfl (lv_at hl 0 rfl) ?_
  refine lv_aload_n hx hb dX7_init_47 rfl (lv_at hl 1 rfl) ?_
  refine kget hX hP (q0 := 0) rfl rfl inX7 (k := 1) (by decide) rfl wd50 rfl dX7_init_48 ?_
  refine kalen hX hP (t0 := 0) rfl (q0 := 1) rfl (v := (6 : Int32)) rfl dX7_init_51 ?_
  refine lv_icmp_ge (tgt := 68) hx hb dX7_init_52 (by decide) (fun c => absurd c (by decide)) (fun _ => ?_)
  refine lv_aload_n hx hb dX7_init_55 rfl (lv_at hl 1 rfl) ?_
  refine kget hX hP (q0 := 0) rfl rfl inX7 (k := 1) (by decide) rfl wd50 rfl dX7_init_56 ?_
  refine lv_iload_n hx hb dX7_init_59 rfl (lv_at hl 0 rfl) ?_
  refine lv_iconst (v := -1) hx hb dX7_init_60 (by decide) ?_
  refine kiast hX hP hD hS rfl (q0 := 1) rfl (vpd (by decide +kernel)) dX7_init_61 (fun H locs hP hD hS => ?_)
  have hP : va_P D vwCl [(ad_s, .inr (7, [.int (40 : Int32), .ref q19, .ref q39])), (q19, .inl (cI, 6, .inl (upd (upd (upd (upd (upd (upd (fun _ => 0) (0 : Int32).toNatClampNeg (-1 : Int32)) (1 : Int32).toNatClampNeg (-1 : Int32)) (2 : Int32).toNatClampNeg (-1 : Int32)) (3 : Int32).toNatClampNeg (-1 : Int32)) (4 : Int32).toNatClampNeg (-1 : Int32)) (5 : Int32).toNatClampNeg (-1 : Int32)))), (q39, .inl (cI, 240, .inl (fun _ => 0)))] H := hP
  have hD : va_D A [(ad_s, .inr (7, [.int (40 : Int32), .ref q19, .ref q39])), (q19, .inl (cI, 6, .inl (upd (upd (upd (upd (upd (upd (fun _ => 0) (0 : Int32).toNatClampNeg (-1 : Int32)) (1 : Int32).toNatClampNeg (-1 : Int32)) (2 : Int32).toNatClampNeg (-1 : Int32)) (3 : Int32).toNatClampNeg (-1 : Int32)) (4 : Int32).toNatClampNeg (-1 : Int32)) (5 : Int32).toNatClampNeg (-1 : Int32)))), (q39, .inl (cI, 240, .inl (fun _ => 0)))] := hD
  refine lv_iinc (v := (6 : Int32)) (lv' := [(3, .int (6 : Int32)), (0, .ref ad_s), (1, .int (6 : Int32)), (2, .int (40 : Int32))]) hx hb dX7_init_62 hl (k := 0) rfl (by decide) (by decide) rfl (fun ls hl => ?_)
  refine lv_goto (tgt := 46) hx hb dX7_init_65 (by decide) ?_
  refine lv_iload_n hx hb dX7_init_46 rfl (lv_at hl 0 rfl) ?_
  refine lv_aload_n hx hb dX7_init_47 rfl (lv_at hl 1 rfl) ?_
  refine kget hX hP (q0 := 0) rfl rfl inX7 (k := 1) (by decide) rfl wd50 rfl dX7_init_48 ?_
  refine kalen hX hP (t0 := 0) rfl (q0 := 1) rfl (v := (6 : Int32)) rfl dX7_init_51 ?_
  refine lv_icmp_ge (tgt := 68) hx hb dX7_init_52 (by decide) (fun _ => ?_) (fun c => absurd c (by decide))
  exact hRet _ _ _ _ _ _ _ (Nat.le_of_ble_eq_true rfl) (Nat.le_of_ble_eq_true rfl) ⟨_, _, rfl⟩ hP hD hS dX7_init_68
abbrev rm_X7_init_4_100 : Room := { frames := 1, cells := 2, slots := 404, locals := 40 }
set_option maxHeartbeats 8000000 in
set_option maxRecDepth 100000 in
theorem c_X7_init_4_100 (l : Launch) (D : va_G) (cI cJ cR : ClassId) (ad_s : Nat) : kMv l D (kT cI cJ cR) yX7_init cX7_init 4 none rm_X7_init_4_100 [.ref ad_s, .int (4 : Int32), .int (100 : Int32)] [(ad_s, .inr (7, [.int (0 : Int32), .null, .null]))] 2 404 (fun w => ∃ q19 q39 : Nat, w = [(ad_s, .inr (7, [.int (100 : Int32), .ref q19, .ref q39])), (q19, .inl (cI, 4, .inl (upd (upd (upd (upd (fun _ => 0) (0 : Int32).toNatClampNeg (-1 : Int32)) (1 : Int32).toNatClampNeg (-1 : Int32)) (2 : Int32).toNatClampNeg (-1 : Int32)) (3 : Int32).toNatClampNeg (-1 : Int32)))), (q39, .inl (cI, 400, .inl (fun _ => 0)))]) := by
  apply kInN
  · decide
  · rfl
  · exact Nat.le_of_ble_eq_true rfl
  intro p e s m args below meth c A ls Q hX hnm hRet hP hD hS hl
  have hx := hX.1.1
  have hb := hX.1.2.1
  have hown := hX.1.2.2.2.1
  have hts := hX.1.2.2.2.2
  have hl : lv_has ls 4 [(0, .ref ad_s), (1, .int (4 : Int32)), (2, .int (100 : Int32))] := hl
  refine lv_aload_n hx hb dX7_init_0 rfl (lv_at hl 0 rfl) ?_
  refine W.objInit hx hb hown (hts _ (List.mem_cons_of_mem _ wd45)) (hts _ (List.mem_cons_of_mem _ wd38)) (hts _ (List.mem_cons_of_mem _ wd39)) rfl (by rw [hX.1.2.2.1]; exact hl.1) rfl dX7_init_1 (Nat.le_of_ble_eq_true rfl) (Nat.le_of_ble_eq_true rfl) ?_
  refine W.eq (g2 := F0 m 4 ls []) rfl ?_
  refine lv_aload_n hx hb dX7_init_4 rfl (lv_at hl 0 rfl) ?_
  refine lv_iconst (v := 0) hx hb dX7_init_5 (by decide) ?_
  refine lv_iload_n hx hb dX7_init_6 rfl (lv_at hl 2 rfl) ?_
  refine va_mmax hx hb (hX.1.2.2.1.trans hl.1.symm) hown (hts _ (List.mem_cons_of_mem _ wd46)) (hts _ (List.mem_cons_of_mem _ wd47)) (hts _ (List.mem_cons_of_mem _ wd20)) (hts _ (List.mem_cons_of_mem _ wd48)) (Nat.le_of_ble_eq_true rfl) (Nat.le_of_ble_eq_true rfl) (Nat.le_of_ble_eq_true rfl) (Nat.le_of_ble_eq_true rfl) dX7_init_7 ?_
  refine lv_topi (fun w7 ew7 => ?_)
  have ew7 : w7 = (100 : Int32) := ew7.trans (by decide)
  subst ew7
  refine kputF hX hnm rfl hP hD hS (q0 := 0) rfl rfl inX7 tyX7_ok nmX7 (k := 0) (by decide) rfl wd49 rfl rfl (Nat.le_of_ble_eq_true rfl) dX7_init_10 (fun H locs hP hD hS => ?_)
  refine lv_aload_n hx hb dX7_init_13 rfl (lv_at hl 0 rfl) ?_
  refine lv_iconst (v := 0) hx hb dX7_init_14 (by decide) ?_
  refine lv_iload_n hx hb dX7_init_15 rfl (lv_at hl 1 rfl) ?_
  refine va_mmax hx hb (hX.1.2.2.1.trans hl.1.symm) hown (hts _ (List.mem_cons_of_mem _ wd46)) (hts _ (List.mem_cons_of_mem _ wd47)) (hts _ (List.mem_cons_of_mem _ wd20)) (hts _ (List.mem_cons_of_mem _ wd48)) (Nat.le_of_ble_eq_true rfl) (Nat.le_of_ble_eq_true rfl) (Nat.le_of_ble_eq_true rfl) (Nat.le_of_ble_eq_true rfl) dX7_init_16 ?_
  refine lv_topi (fun w16 ew16 => ?_)
  have ew16 : w16 = (4 : Int32) := ew16.trans (by decide)
  subst ew16
  refine knewi (N' := 4) hX hP hD hS wd59 (by decide) (by decide +kernel) (Nat.le_of_ble_eq_true rfl) (Nat.le_of_ble_eq_true rfl) (Nat.le_of_ble_eq_true rfl) dX7_init_19 (fun q19 H hP hD hS => ?_)
  have hP : va_P D vwCl [(ad_s, .inr (7, [.int (100 : Int32), .null, .null])), (q19, .inl (cI, 4, .inl (fun _ => 0)))] H := hP
  have hD : va_D A [(ad_s, .inr (7, [.int (100 : Int32), .null, .null])), (q19, .inl (cI, 4, .inl (fun _ => 0)))] := hD
  refine kputF hX hnm rfl hP hD hS (q0 := 0) rfl rfl inX7 tyX7_ok nmX7 (k := 1) (by decide) rfl wd50 rfl rfl (Nat.le_of_ble_eq_true rfl) dX7_init_21 (fun H locs hP hD hS => ?_)
  refine lv_aload_n hx hb dX7_init_24 rfl (lv_at hl 0 rfl) ?_
  refine lv_iconst (v := 0) hx hb dX7_init_25 (by decide) ?_
  refine lv_aload_n hx hb dX7_init_26 rfl (lv_at hl 0 rfl) ?_
  refine kget hX hP (q0 := 0) rfl rfl inX7 (k := 1) (by decide) rfl wd50 rfl dX7_init_27 ?_
  refine kalen hX hP (t0 := 0) rfl (q0 := 1) rfl (v := (4 : Int32)) rfl dX7_init_30 ?_
  refine lv_aload_n hx hb dX7_init_31 rfl (lv_at hl 0 rfl) ?_
  refine kget hX hP (q0 := 0) rfl rfl inX7 (k := 0) (by decide) rfl wd49 rfl dX7_init_32 ?_
  refine lv_imul hx hb dX7_init_35 ?_
  refine lv_topi (fun w35 ew35 => ?_)
  have ew35 : w35 = (400 : Int32) := ew35.trans (by decide)
  subst ew35
  refine va_mmax hx hb (hX.1.2.2.1.trans hl.1.symm) hown (hts _ (List.mem_cons_of_mem _ wd46)) (hts _ (List.mem_cons_of_mem _ wd47)) (hts _ (List.mem_cons_of_mem _ wd20)) (hts _ (List.mem_cons_of_mem _ wd48)) (Nat.le_of_ble_eq_true rfl) (Nat.le_of_ble_eq_true rfl) (Nat.le_of_ble_eq_true rfl) (Nat.le_of_ble_eq_true rfl) dX7_init_36 ?_
  refine lv_topi (fun w36 ew36 => ?_)
  have ew36 : w36 = (400 : Int32) := ew36.trans (by decide)
  subst ew36
  refine knewi (N' := 400) hX hP hD hS wd59 (by decide) (by decide +kernel) (Nat.le_of_ble_eq_true rfl) (Nat.le_of_ble_eq_true rfl) (Nat.le_of_ble_eq_true rfl) dX7_init_39 (fun q39 H hP hD hS => ?_)
  have hP : va_P D vwCl [(ad_s, .inr (7, [.int (100 : Int32), .ref q19, .null])), (q19, .inl (cI, 4, .inl (fun _ => 0))), (q39, .inl (cI, 400, .inl (fun _ => 0)))] H := hP
  have hD : va_D A [(ad_s, .inr (7, [.int (100 : Int32), .ref q19, .null])), (q19, .inl (cI, 4, .inl (fun _ => 0))), (q39, .inl (cI, 400, .inl (fun _ => 0)))] := hD
  refine kputF hX hnm rfl hP hD hS (q0 := 0) rfl rfl inX7 tyX7_ok nmX7 (k := 2) (by decide) rfl wd51 rfl rfl (Nat.le_of_ble_eq_true rfl) dX7_init_41 (fun H locs hP hD hS => ?_)
  refine lv_iconst (v := 0) hx hb dX7_init_44 (by decide) ?_
  refine lv_istore_n (lv' := [(3, .int (0 : Int32)), (0, .ref ad_s), (1, .int (4 : Int32)), (2, .int (100 : Int32))]) hx hb dX7_init_45 rfl hl (by decide) rfl (fun ls hl => ?_)
  refine lv_iload_n hx hb dX7_init_46 rfl (lv_at hl 0 rfl) ?_
  refine lv_aload_n hx hb dX7_init_47 rfl (lv_at hl 1 rfl) ?_
  refine kget hX hP (q0 := 0) rfl rfl inX7 (k := 1) (by decide) rfl wd50 rfl dX7_init_48 ?_
  refine kalen hX hP (t0 := 0) rfl (q0 := 1) rfl (v := (4 : Int32)) rfl dX7_init_51 ?_
  refine lv_icmp_ge (tgt := 68) hx hb dX7_init_52 (by decide) (fun c => absurd c (by decide)) (fun _ => ?_)
  refine lv_aload_n hx hb dX7_init_55 rfl (lv_at hl 1 rfl) ?_
  refine kget hX hP (q0 := 0) rfl rfl inX7 (k := 1) (by decide) rfl wd50 rfl dX7_init_56 ?_
  refine lv_iload_n hx hb dX7_init_59 rfl (lv_at hl 0 rfl) ?_
  refine lv_iconst (v := -1) hx hb dX7_init_60 (by decide) ?_
  refine kiast hX hP hD hS rfl (q0 := 1) rfl (vpd (by decide +kernel)) dX7_init_61 (fun H locs hP hD hS => ?_)
  have hP : va_P D vwCl [(ad_s, .inr (7, [.int (100 : Int32), .ref q19, .ref q39])), (q19, .inl (cI, 4, .inl (upd (fun _ => 0) (0 : Int32).toNatClampNeg (-1 : Int32)))), (q39, .inl (cI, 400, .inl (fun _ => 0)))] H := hP
  have hD : va_D A [(ad_s, .inr (7, [.int (100 : Int32), .ref q19, .ref q39])), (q19, .inl (cI, 4, .inl (upd (fun _ => 0) (0 : Int32).toNatClampNeg (-1 : Int32)))), (q39, .inl (cI, 400, .inl (fun _ => 0)))] := hD
  refine lv_iinc (v := (1 : Int32)) (lv' := [(3, .int (1 : Int32)), (0, .ref ad_s), (1, .int (4 : Int32)), (2, .int (100 : Int32))]) hx hb dX7_init_62 hl (k := 0) rfl (by decide) (by decide) rfl (fun ls hl => ?_)
  refine lv_goto (tgt := 46) hx hb dX7_init_65 (by decide) ?_
  refine lv_iload_n hx hb dX7_init_46 rfl (lv_at hl 0 rfl) ?_
  refine lv_aload_n hx hb dX7_init_47 rfl (lv_at hl 1 rfl) ?_
  refine kget hX hP (q0 := 0) rfl rfl inX7 (k := 1) (by decide) rfl wd50 rfl dX7_init_48 ?_
  refine kalen hX hP (t0 := 0) rfl (q0 := 1) rfl (v := (4 : Int32)) rfl dX7_init_51 ?_
  refine lv_icmp_ge (tgt := 68) hx hb dX7_init_52 (by decide) (fun c => absurd c (by decide)) (fun _ => ?_)
  refine lv_aload_n hx hb dX7_init_55 rfl (lv_at hl 1 rfl) ?_
  refine kget hX hP (q0 := 0) rfl rfl inX7 (k := 1) (by decide) rfl wd50 rfl dX7_init_56 ?_
  refine lv_iload_n hx hb dX7_init_59 rfl (lv_at hl 0 rfl) ?_
  refine lv_iconst (v := -1) hx hb dX7_init_60 (by decide) ?_
  refine kiast hX hP hD hS rfl (q0 := 1) rfl (vpd (by decide +kernel)) dX7_init_61 (fun H locs hP hD hS => ?_)
  have hP : va_P D vwCl [(ad_s, .inr (7, [.int (100 : Int32), .ref q19, .ref q39])), (q19, .inl (cI, 4, .inl (upd (upd (fun _ => 0) (0 : Int32).toNatClampNeg (-1 : Int32)) (1 : Int32).toNatClampNeg (-1 : Int32)))), (q39, .inl (cI, 400, .inl (fun _ => 0)))] H := hP
  have hD : va_D A [(ad_s, .inr (7, [.int (100 : Int32), .ref q19, .ref q39])), (q19, .inl (cI, 4, .inl (upd (upd (fun _ => 0) (0 : Int32).toNatClampNeg (-1 : Int32)) (1 : Int32).toNatClampNeg (-1 : Int32)))), (q39, .inl (cI, 400, .inl (fun _ => 0)))] := hD
  refine lv_iinc (v := (2 : Int32)) (lv' := [(3, .int (2 : Int32)), (0, .ref ad_s), (1, .int (4 : Int32)), (2, .int (100 : Int32))]) hx hb dX7_init_62 hl (k := 0) rfl (by decide) (by decide) rfl (fun ls hl => ?_)
  refine lv_goto (tgt := 46) hx hb dX7_init_65 (by decide) ?_
  refine lv_iload_n hx hb dX7_init_46 rfl (lv_at hl 0 rfl) ?_
  refine lv_aload_n hx hb dX7_init_47 rfl (lv_at hl 1 rfl) ?_
  refine kget hX hP (q0 := 0) rfl rfl inX7 (k := 1) (by decide) rfl wd50 rfl dX7_init_48 ?_
  refine kalen hX hP (t0 := 0) rfl (q0 := 1) rfl (v := (4 : Int32)) rfl dX7_init_51 ?_
  refine lv_icmp_ge (tgt := 68) hx hb dX7_init_52 (by decide) (fun c => absurd c (by decide)) (fun _ => ?_)
  refine lv_aload_n hx hb dX7_init_55 rfl (lv_at hl 1 rfl) ?_
  refine kget hX hP (q0 := 0) rfl rfl inX7 (k := 1) (by decide) rfl wd50 rfl dX7_init_56 ?_
  refine lv_iload_n hx hb dX7_init_59 rfl (lv_at hl 0 rfl) ?_
  refine lv_iconst (v := -1) hx hb dX7_init_60 (by decide) ?_
  refine kiast hX hP hD hS rfl (q0 := 1) rfl (vpd (by decide +kernel)) dX7_init_61 (fun H locs hP hD hS => ?_)
  have hP : va_P D vwCl [(ad_s, .inr (7, [.int (100 : Int32), .ref q19, .ref q39])), (q19, .inl (cI, 4, .inl (upd (upd (upd (fun _ => 0) (0 : Int32).toNatClampNeg (-1 : Int32)) (1 : Int32).toNatClampNeg (-1 : Int32)) (2 : Int32).toNatClampNeg (-1 : Int32)))), (q39, .inl (cI, 400, .inl (fun _ => 0)))] H := hP
  have hD : va_D A [(ad_s, .inr (7, [.int (100 : Int32), .ref q19, .ref q39])), (q19, .inl (cI, 4, .inl (upd (upd (upd (fun _ => 0) (0 : Int32).toNatClampNeg (-1 : Int32)) (1 : Int32).toNatClampNeg (-1 : Int32)) (2 : Int32).toNatClampNeg (-1 : Int32)))), (q39, .inl (cI, 400, .inl (fun _ => 0)))] := hD
  refine lv_iinc (v := (3 : Int32)) (lv' := [(3, .int (3 : Int32)), (0, .ref ad_s), (1, .int (4 : Int32)), (2, .int (100 : Int32))]) hx hb dX7_init_62 hl (k := 0) rfl (by decide) (by decide) rfl (fun ls hl => ?_)
  refine lv_goto (tgt := 46) hx hb dX7_init_65 (by decide) ?_
  refine lv_iload_n hx hb dX7_init_46 rfl (lv_at hl 0 rfl) ?_
  refine lv_aload_n hx hb dX7_init_47 rfl (lv_at hl 1 rfl) ?_
  refine kget hX hP (q0 := 0) rfl rfl inX7 (k := 1) (by decide) rfl wd50 rfl dX7_init_48 ?_
  refine kalen hX hP (t0 := 0) rfl (q0 := 1) rfl (v := (4 : Int32)) rfl dX7_init_51 ?_
  refine lv_icmp_ge (tgt := 68) hx hb dX7_init_52 (by decide) (fun c => absurd c (by decide)) (fun _ => ?_)
  refine lv_aload_n hx hb dX7_init_55 rfl (lv_at hl 1 rfl) ?_
  refine kget hX hP (q0 := 0) rfl rfl inX7 (k := 1) (by decide) rfl wd50 rfl dX7_init_56 ?_
  refine lv_iload_n hx hb dX7_init_59 rfl (lv_at hl 0 rfl) ?_
  refine lv_iconst (v := -1) hx hb dX7_init_60 (by decide) ?_
  refine kiast hX hP hD hS rfl (q0 := 1) rfl (vpd (by decide +kernel)) dX7_init_61 (fun H locs hP hD hS => ?_)
  have hP : va_P D vwCl [(ad_s, .inr (7, [.int (100 : Int32), .ref q19, .ref q39])), (q19, .inl (cI, 4, .inl (upd (upd (upd (upd (fun _ => 0) (0 : Int32).toNatClampNeg (-1 : Int32)) (1 : Int32).toNatClampNeg (-1 : Int32)) (2 : Int32).toNatClampNeg (-1 : Int32)) (3 : Int32).toNatClampNeg (-1 : Int32)))), (q39, .inl (cI, 400, .inl (fun _ => 0)))] H := hP
  have hD : va_D A [(ad_s, .inr (7, [.int (100 : Int32), .ref q19, .ref q39])), (q19, .inl (cI, 4, .inl (upd (upd (upd (upd (fun _ => 0) (0 : Int32).toNatClampNeg (-1 : Int32)) (1 : Int32).toNatClampNeg (-1 : Int32)) (2 : Int32).toNatClampNeg (-1 : Int32)) (3 : Int32).toNatClampNeg (-1 : Int32)))), (q39, .inl (cI, 400, .inl (fun _ => 0)))] := hD
  refine lv_iinc (v := (4 : Int32)) (lv' := [(3, .int (4 : Int32)), (0, .ref ad_s), (1, .int (4 : Int32)), (2, .int (100 : Int32))]) hx hb dX7_init_62 hl (k := 0) rfl (by decide) (by decide) rfl (fun ls hl => ?_)
  refine lv_goto (tgt := 46) hx hb dX7_init_65 (by decide) ?_
  refine lv_iload_n hx hb dX7_init_46 rfl (lv_at hl 0 rfl) ?_
  refine lv_aload_n hx hb dX7_init_47 rfl (lv_at hl 1 rfl) ?_
  refine kget hX hP (q0 := 0) rfl rfl inX7 (k := 1) (by decide) rfl wd50 rfl dX7_init_48 ?_
  refine kalen hX hP (t0 := 0) rfl (q0 := 1) rfl (v := (4 : Int32)) rfl dX7_init_51 ?_
  refine lv_icmp_ge (tgt := 68) hx hb dX7_init_52 (by decide) (fun _ => ?_) (fun c => absurd c (by decide))
  exact hRet _ _ _ _ _ _ _ (Nat.le_of_ble_eq_true rfl) (Nat.le_of_ble_eq_true rfl) ⟨_, _, rfl⟩ hP hD hS dX7_init_68
abbrev rm_X1_init : Room := { frames := 1, cells := 1, slots := 54, locals := 40 }
set_option maxHeartbeats 8000000 in
set_option maxRecDepth 100000 in
theorem c_X1_init (l : Launch) (D : va_G) (cI cJ cR : ClassId) (ad_s : Nat) : kMv l D (kT cI cJ cR) yX1_init cX1_init 1 none rm_X1_init [.ref ad_s] [(ad_s, .inr (1, [.null, .int (0 : Int32)]))] 1 54 (fun w => ∃ q7 : Nat, w = [(ad_s, .inr (1, [.ref q7, .int (0 : Int32)])), (q7, .inl (cI, 54, .inl (fun _ => 0)))]) := by
  apply kInN
  · decide
  · rfl
  · exact Nat.le_of_ble_eq_true rfl
  intro p e s m args below meth c A ls Q hX hnm hRet hP hD hS hl
  have hx := hX.1.1
  have hb := hX.1.2.1
  have hown := hX.1.2.2.2.1
  have hts := hX.1.2.2.2.2
  have hl : lv_has ls 1 [(0, .ref ad_s)] := hl
  refine lv_aload_n hx hb dX1_init_0 rfl (lv_at hl 0 rfl) ?_
  refine W.objInit hx hb hown (hts _ (List.mem_cons_of_mem _ wd65)) (hts _ (List.mem_cons_of_mem _ wd38)) (hts _ (List.mem_cons_of_mem _ wd39)) rfl (by rw [hX.1.2.2.1]; exact hl.1) rfl dX1_init_1 (Nat.le_of_ble_eq_true rfl) (Nat.le_of_ble_eq_true rfl) ?_
  refine W.eq (g2 := F0 m 4 ls []) rfl ?_
  refine lv_aload_n hx hb dX1_init_4 rfl (lv_at hl 0 rfl) ?_
  refine lv_bipush (v := 54) hx hb dX1_init_5 (by decide) ?_
  refine knewi (N' := 54) hX hP hD hS wd59 (by decide) (by decide +kernel) (Nat.le_of_ble_eq_true rfl) (Nat.le_of_ble_eq_true rfl) (Nat.le_of_ble_eq_true rfl) dX1_init_7 (fun q7 H hP hD hS => ?_)
  have hP : va_P D vwCl [(ad_s, .inr (1, [.null, .int (0 : Int32)])), (q7, .inl (cI, 54, .inl (fun _ => 0)))] H := hP
  have hD : va_D A [(ad_s, .inr (1, [.null, .int (0 : Int32)])), (q7, .inl (cI, 54, .inl (fun _ => 0)))] := hD
  refine kputF hX hnm rfl hP hD hS (q0 := 0) rfl rfl inX1 tyX1_ok nmX1 (k := 0) (by decide) rfl wd66 rfl rfl (Nat.le_of_ble_eq_true rfl) dX1_init_9 (fun H locs hP hD hS => ?_)
  refine lv_aload_n hx hb dX1_init_12 rfl (lv_at hl 0 rfl) ?_
  refine lv_iconst (v := 0) hx hb dX1_init_13 (by decide) ?_
  refine kput hX hP hD hS (q0 := 0) rfl rfl inX1 tyX1_ok nmX1 (k := 1) (by decide) rfl wd67 rfl rfl (Nat.le_of_ble_eq_true rfl) dX1_init_14 (fun H locs hP hD hS => ?_)
  exact hRet _ _ _ _ _ _ _ (Nat.le_of_ble_eq_true rfl) (Nat.le_of_ble_eq_true rfl) ⟨_, rfl⟩ hP hD hS dX1_init_17
abbrev rm_X6_init : Room := { frames := 1, cells := 3, slots := 27, locals := 40 }
set_option maxHeartbeats 8000000 in
set_option maxRecDepth 100000 in
theorem c_X6_init (l : Launch) (D : va_G) (cI cJ cR : ClassId) (ad_s : Nat) : kMv l D (kT cI cJ cR) yX6_init cX6_init 1 none rm_X6_init [.ref ad_s] [(ad_s, .inr (6, [.null, .null, .null, .int (0 : Int32), .int (0 : Int32), .int (0 : Int32), .int (0 : Int32), .int (0 : Int32), .int (0 : Int32), .int (0 : Int32), .int (0 : Int32), .int (0 : Int32), .int (0 : Int32)]))] 3 27 (fun w => ∃ q7 q15 q23 : Nat, w = [(ad_s, .inr (6, [.ref q7, .ref q15, .ref q23, .int (0 : Int32), .int (0 : Int32), .int (0 : Int32), .int (0 : Int32), .int (0 : Int32), .int (0 : Int32), .int (0 : Int32), .int (0 : Int32), .int (0 : Int32), .int (0 : Int32)])), (q7, .inl (cI, 9, .inl (fun _ => 0))), (q15, .inl (cI, 9, .inl (fun _ => 0))), (q23, .inl (cI, 9, .inl (fun _ => 0)))]) := by
  apply kInN
  · decide
  · rfl
  · exact Nat.le_of_ble_eq_true rfl
  intro p e s m args below meth c A ls Q hX hnm hRet hP hD hS hl
  have hx := hX.1.1
  have hb := hX.1.2.1
  have hown := hX.1.2.2.2.1
  have hts := hX.1.2.2.2.2
  have hl : lv_has ls 1 [(0, .ref ad_s)] := hl
  refine lv_aload_n hx hb dX6_init_0 rfl (lv_at hl 0 rfl) ?_
  refine W.objInit hx hb hown (hts _ (List.mem_cons_of_mem _ wd80)) (hts _ (List.mem_cons_of_mem _ wd38)) (hts _ (List.mem_cons_of_mem _ wd39)) rfl (by rw [hX.1.2.2.1]; exact hl.1) rfl dX6_init_1 (Nat.le_of_ble_eq_true rfl) (Nat.le_of_ble_eq_true rfl) ?_
  refine W.eq (g2 := F0 m 4 ls []) rfl ?_
  refine lv_aload_n hx hb dX6_init_4 rfl (lv_at hl 0 rfl) ?_
  refine lv_bipush (v := 9) hx hb dX6_init_5 (by decide) ?_
  refine knewi (N' := 9) hX hP hD hS wd59 (by decide) (by decide +kernel) (Nat.le_of_ble_eq_true rfl) (Nat.le_of_ble_eq_true rfl) (Nat.le_of_ble_eq_true rfl) dX6_init_7 (fun q7 H hP hD hS => ?_)
  have hP : va_P D vwCl [(ad_s, .inr (6, [.null, .null, .null, .int (0 : Int32), .int (0 : Int32), .int (0 : Int32), .int (0 : Int32), .int (0 : Int32), .int (0 : Int32), .int (0 : Int32), .int (0 : Int32), .int (0 : Int32), .int (0 : Int32)])), (q7, .inl (cI, 9, .inl (fun _ => 0)))] H := hP
  have hD : va_D A [(ad_s, .inr (6, [.null, .null, .null, .int (0 : Int32), .int (0 : Int32), .int (0 : Int32), .int (0 : Int32), .int (0 : Int32), .int (0 : Int32), .int (0 : Int32), .int (0 : Int32), .int (0 : Int32), .int (0 : Int32)])), (q7, .inl (cI, 9, .inl (fun _ => 0)))] := hD
  refine kputF hX hnm rfl hP hD hS (q0 := 0) rfl rfl inX6 tyX6_ok nmX6 (k := 0) (by decide) rfl wd81 rfl rfl (Nat.le_of_ble_eq_true rfl) dX6_init_9 (fun H locs hP hD hS => ?_)
  refine lv_aload_n hx hb dX6_init_12 rfl (lv_at hl 0 rfl) ?_
  refine lv_bipush (v := 9) hx hb dX6_init_13 (by decide) ?_
  refine knewi (N' := 9) hX hP hD hS wd59 (by decide) (by decide +kernel) (Nat.le_of_ble_eq_true rfl) (Nat.le_of_ble_eq_true rfl) (Nat.le_of_ble_eq_true rfl) dX6_init_15 (fun q15 H hP hD hS => ?_)
  have hP : va_P D vwCl [(ad_s, .inr (6, [.ref q7, .null, .null, .int (0 : Int32), .int (0 : Int32), .int (0 : Int32), .int (0 : Int32), .int (0 : Int32), .int (0 : Int32), .int (0 : Int32), .int (0 : Int32), .int (0 : Int32), .int (0 : Int32)])), (q7, .inl (cI, 9, .inl (fun _ => 0))), (q15, .inl (cI, 9, .inl (fun _ => 0)))] H := hP
  have hD : va_D A [(ad_s, .inr (6, [.ref q7, .null, .null, .int (0 : Int32), .int (0 : Int32), .int (0 : Int32), .int (0 : Int32), .int (0 : Int32), .int (0 : Int32), .int (0 : Int32), .int (0 : Int32), .int (0 : Int32), .int (0 : Int32)])), (q7, .inl (cI, 9, .inl (fun _ => 0))), (q15, .inl (cI, 9, .inl (fun _ => 0)))] := hD
  refine kputF hX hnm rfl hP hD hS (q0 := 0) rfl rfl inX6 tyX6_ok nmX6 (k := 1) (by decide) rfl wd82 rfl rfl (Nat.le_of_ble_eq_true rfl) dX6_init_17 (fun H locs hP hD hS => ?_)
  refine lv_aload_n hx hb dX6_init_20 rfl (lv_at hl 0 rfl) ?_
  refine lv_bipush (v := 9) hx hb dX6_init_21 (by decide) ?_
  refine knewi (N' := 9) hX hP hD hS wd59 (by decide) (by decide +kernel) (Nat.le_of_ble_eq_true rfl) (Nat.le_of_ble_eq_true rfl) (Nat.le_of_ble_eq_true rfl) dX6_init_23 (fun q23 H hP hD hS => ?_)
  have hP : va_P D vwCl [(ad_s, .inr (6, [.ref q7, .ref q15, .null, .int (0 : Int32), .int (0 : Int32), .int (0 : Int32), .int (0 : Int32), .int (0 : Int32), .int (0 : Int32), .int (0 : Int32), .int (0 : Int32), .int (0 : Int32), .int (0 : Int32)])), (q7, .inl (cI, 9, .inl (fun _ => 0))), (q15, .inl (cI, 9, .inl (fun _ => 0))), (q23, .inl (cI, 9, .inl (fun _ => 0)))] H := hP
  have hD : va_D A [(ad_s, .inr (6, [.ref q7, .ref q15, .null, .int (0 : Int32), .int (0 : Int32), .int (0 : Int32), .int (0 : Int32), .int (0 : Int32), .int (0 : Int32), .int (0 : Int32), .int (0 : Int32), .int (0 : Int32), .int (0 : Int32)])), (q7, .inl (cI, 9, .inl (fun _ => 0))), (q15, .inl (cI, 9, .inl (fun _ => 0))), (q23, .inl (cI, 9, .inl (fun _ => 0)))] := hD
  refine kputF hX hnm rfl hP hD hS (q0 := 0) rfl rfl inX6 tyX6_ok nmX6 (k := 2) (by decide) rfl wd83 rfl rfl (Nat.le_of_ble_eq_true rfl) dX6_init_25 (fun H locs hP hD hS => ?_)
  refine lv_aload_n hx hb dX6_init_28 rfl (lv_at hl 0 rfl) ?_
  refine lv_iconst (v := 0) hx hb dX6_init_29 (by decide) ?_
  refine kput hX hP hD hS (q0 := 0) rfl rfl inX6 tyX6_ok nmX6 (k := 3) (by decide) rfl wd84 rfl rfl (Nat.le_of_ble_eq_true rfl) dX6_init_30 (fun H locs hP hD hS => ?_)
  refine lv_aload_n hx hb dX6_init_33 rfl (lv_at hl 0 rfl) ?_
  refine lv_iconst (v := 0) hx hb dX6_init_34 (by decide) ?_
  refine kput hX hP hD hS (q0 := 0) rfl rfl inX6 tyX6_ok nmX6 (k := 4) (by decide) rfl wd86 rfl rfl (Nat.le_of_ble_eq_true rfl) dX6_init_35 (fun H locs hP hD hS => ?_)
  refine lv_aload_n hx hb dX6_init_38 rfl (lv_at hl 0 rfl) ?_
  refine lv_iconst (v := 0) hx hb dX6_init_39 (by decide) ?_
  refine kput hX hP hD hS (q0 := 0) rfl rfl inX6 tyX6_ok nmX6 (k := 5) (by decide) rfl wd89 rfl rfl (Nat.le_of_ble_eq_true rfl) dX6_init_40 (fun H locs hP hD hS => ?_)
  refine lv_aload_n hx hb dX6_init_43 rfl (lv_at hl 0 rfl) ?_
  refine lv_iconst (v := 0) hx hb dX6_init_44 (by decide) ?_
  refine kput hX hP hD hS (q0 := 0) rfl rfl inX6 tyX6_ok nmX6 (k := 6) (by decide) rfl wd92 rfl rfl (Nat.le_of_ble_eq_true rfl) dX6_init_45 (fun H locs hP hD hS => ?_)
  refine lv_aload_n hx hb dX6_init_48 rfl (lv_at hl 0 rfl) ?_
  refine lv_iconst (v := 0) hx hb dX6_init_49 (by decide) ?_
  refine kput hX hP hD hS (q0 := 0) rfl rfl inX6 tyX6_ok nmX6 (k := 7) (by decide) rfl wd95 rfl rfl (Nat.le_of_ble_eq_true rfl) dX6_init_50 (fun H locs hP hD hS => ?_)
  refine lv_aload_n hx hb dX6_init_53 rfl (lv_at hl 0 rfl) ?_
  refine lv_iconst (v := 0) hx hb dX6_init_54 (by decide) ?_
  refine kput hX hP hD hS (q0 := 0) rfl rfl inX6 tyX6_ok nmX6 (k := 8) (by decide) rfl wd98 rfl rfl (Nat.le_of_ble_eq_true rfl) dX6_init_55 (fun H locs hP hD hS => ?_)
  refine lv_aload_n hx hb dX6_init_58 rfl (lv_at hl 0 rfl) ?_
  refine lv_iconst (v := 0) hx hb dX6_init_59 (by decide) ?_
  refine kput hX hP hD hS (q0 := 0) rfl rfl inX6 tyX6_ok nmX6 (k := 9) (by decide) rfl wd101 rfl rfl (Nat.le_of_ble_eq_true rfl) dX6_init_60 (fun H locs hP hD hS => ?_)
  refine lv_aload_n hx hb dX6_init_63 rfl (lv_at hl 0 rfl) ?_
  refine lv_iconst (v := 0) hx hb dX6_init_64 (by decide) ?_
  refine kput hX hP hD hS (q0 := 0) rfl rfl inX6 tyX6_ok nmX6 (k := 10) (by decide) rfl wd104 rfl rfl (Nat.le_of_ble_eq_true rfl) dX6_init_65 (fun H locs hP hD hS => ?_)
  refine lv_aload_n hx hb dX6_init_68 rfl (lv_at hl 0 rfl) ?_
  refine lv_iconst (v := 0) hx hb dX6_init_69 (by decide) ?_
  refine kput hX hP hD hS (q0 := 0) rfl rfl inX6 tyX6_ok nmX6 (k := 11) (by decide) rfl wd107 rfl rfl (Nat.le_of_ble_eq_true rfl) dX6_init_70 (fun H locs hP hD hS => ?_)
  refine lv_aload_n hx hb dX6_init_73 rfl (lv_at hl 0 rfl) ?_
  refine lv_iconst (v := 0) hx hb dX6_init_74 (by decide) ?_
  refine kput hX hP hD hS (q0 := 0) rfl rfl inX6 tyX6_ok nmX6 (k := 12) (by decide) rfl wd110 rfl rfl (Nat.le_of_ble_eq_true rfl) dX6_init_75 (fun H locs hP hD hS => ?_)
  exact hRet _ _ _ _ _ _ _ (Nat.le_of_ble_eq_true rfl) (Nat.le_of_ble_eq_true rfl) ⟨_, _, _, rfl⟩ hP hD hS dX6_init_78
abbrev rm_X10_init : Room := { frames := 1, cells := 3, slots := 409, locals := 40 }
set_option maxHeartbeats 8000000 in
set_option maxRecDepth 100000 in
theorem c_X10_init (l : Launch) (D : va_G) (cI cJ cR : ClassId) (ad_s : Nat) : kMv l D (kT cI cJ cR) yX10_init cX10_init 1 none rm_X10_init [.ref ad_s] [(ad_s, .inr (10, [.null, .null, .null, .int (0 : Int32)]))] 3 409 (fun w => ∃ q7 q16 q24 : Nat, w = [(ad_s, .inr (10, [.ref q7, .ref q16, .ref q24, .int (0 : Int32)])), (q7, .inl (cI, 40, .inl (fun _ => 0))), (q16, .inl (cI, 360, .inl (fun _ => 0))), (q24, .inl (cI, 9, .inl (fun _ => 0)))]) := by
  apply kInN
  · decide
  · rfl
  · exact Nat.le_of_ble_eq_true rfl
  intro p e s m args below meth c A ls Q hX hnm hRet hP hD hS hl
  have hx := hX.1.1
  have hb := hX.1.2.1
  have hown := hX.1.2.2.2.1
  have hts := hX.1.2.2.2.2
  have hl : lv_has ls 1 [(0, .ref ad_s)] := hl
  refine lv_aload_n hx hb dX10_init_0 rfl (lv_at hl 0 rfl) ?_
  refine W.objInit hx hb hown (hts _ (List.mem_cons_of_mem _ wd145)) (hts _ (List.mem_cons_of_mem _ wd38)) (hts _ (List.mem_cons_of_mem _ wd39)) rfl (by rw [hX.1.2.2.1]; exact hl.1) rfl dX10_init_1 (Nat.le_of_ble_eq_true rfl) (Nat.le_of_ble_eq_true rfl) ?_
  refine W.eq (g2 := F0 m 4 ls []) rfl ?_
  refine lv_aload_n hx hb dX10_init_4 rfl (lv_at hl 0 rfl) ?_
  refine lv_bipush (v := 40) hx hb dX10_init_5 (by decide) ?_
  refine knewi (N' := 40) hX hP hD hS wd59 (by decide) (by decide +kernel) (Nat.le_of_ble_eq_true rfl) (Nat.le_of_ble_eq_true rfl) (Nat.le_of_ble_eq_true rfl) dX10_init_7 (fun q7 H hP hD hS => ?_)
  have hP : va_P D vwCl [(ad_s, .inr (10, [.null, .null, .null, .int (0 : Int32)])), (q7, .inl (cI, 40, .inl (fun _ => 0)))] H := hP
  have hD : va_D A [(ad_s, .inr (10, [.null, .null, .null, .int (0 : Int32)])), (q7, .inl (cI, 40, .inl (fun _ => 0)))] := hD
  refine kputF hX hnm rfl hP hD hS (q0 := 0) rfl rfl inX10 tyX10_ok nmX10 (k := 0) (by decide) rfl wd146 rfl rfl (Nat.le_of_ble_eq_true rfl) dX10_init_9 (fun H locs hP hD hS => ?_)
  refine lv_aload_n hx hb dX10_init_12 rfl (lv_at hl 0 rfl) ?_
  refine lv_sipush (v := 360) hx hb dX10_init_13 (by decide) ?_
  refine knewi (N' := 360) hX hP hD hS wd59 (by decide) (by decide +kernel) (Nat.le_of_ble_eq_true rfl) (Nat.le_of_ble_eq_true rfl) (Nat.le_of_ble_eq_true rfl) dX10_init_16 (fun q16 H hP hD hS => ?_)
  have hP : va_P D vwCl [(ad_s, .inr (10, [.ref q7, .null, .null, .int (0 : Int32)])), (q7, .inl (cI, 40, .inl (fun _ => 0))), (q16, .inl (cI, 360, .inl (fun _ => 0)))] H := hP
  have hD : va_D A [(ad_s, .inr (10, [.ref q7, .null, .null, .int (0 : Int32)])), (q7, .inl (cI, 40, .inl (fun _ => 0))), (q16, .inl (cI, 360, .inl (fun _ => 0)))] := hD
  refine kputF hX hnm rfl hP hD hS (q0 := 0) rfl rfl inX10 tyX10_ok nmX10 (k := 1) (by decide) rfl wd147 rfl rfl (Nat.le_of_ble_eq_true rfl) dX10_init_18 (fun H locs hP hD hS => ?_)
  refine lv_aload_n hx hb dX10_init_21 rfl (lv_at hl 0 rfl) ?_
  refine lv_bipush (v := 9) hx hb dX10_init_22 (by decide) ?_
  refine knewi (N' := 9) hX hP hD hS wd59 (by decide) (by decide +kernel) (Nat.le_of_ble_eq_true rfl) (Nat.le_of_ble_eq_true rfl) (Nat.le_of_ble_eq_true rfl) dX10_init_24 (fun q24 H hP hD hS => ?_)
  have hP : va_P D vwCl [(ad_s, .inr (10, [.ref q7, .ref q16, .null, .int (0 : Int32)])), (q7, .inl (cI, 40, .inl (fun _ => 0))), (q16, .inl (cI, 360, .inl (fun _ => 0))), (q24, .inl (cI, 9, .inl (fun _ => 0)))] H := hP
  have hD : va_D A [(ad_s, .inr (10, [.ref q7, .ref q16, .null, .int (0 : Int32)])), (q7, .inl (cI, 40, .inl (fun _ => 0))), (q16, .inl (cI, 360, .inl (fun _ => 0))), (q24, .inl (cI, 9, .inl (fun _ => 0)))] := hD
  refine kputF hX hnm rfl hP hD hS (q0 := 0) rfl rfl inX10 tyX10_ok nmX10 (k := 2) (by decide) rfl wd148 rfl rfl (Nat.le_of_ble_eq_true rfl) dX10_init_26 (fun H locs hP hD hS => ?_)
  refine lv_aload_n hx hb dX10_init_29 rfl (lv_at hl 0 rfl) ?_
  refine lv_iconst (v := 0) hx hb dX10_init_30 (by decide) ?_
  refine kput hX hP hD hS (q0 := 0) rfl rfl inX10 tyX10_ok nmX10 (k := 3) (by decide) rfl wd149 rfl rfl (Nat.le_of_ble_eq_true rfl) dX10_init_31 (fun H locs hP hD hS => ?_)
  exact hRet _ _ _ _ _ _ _ (Nat.le_of_ble_eq_true rfl) (Nat.le_of_ble_eq_true rfl) ⟨_, _, _, rfl⟩ hP hD hS dX10_init_34
abbrev rm_X9_init : Room := { frames := 1, cells := 1, slots := 9, locals := 40 }
set_option maxHeartbeats 8000000 in
set_option maxRecDepth 100000 in
theorem c_X9_init (l : Launch) (D : va_G) (cI cJ cR : ClassId) (ad_s : Nat) : kMv l D (kT cI cJ cR) yX9_init cX9_init 1 none rm_X9_init [.ref ad_s] [(ad_s, .inr (9, [.null, .int (0 : Int32), .int (0 : Int32), .int (0 : Int32), .int (0 : Int32), .int (0 : Int32)]))] 1 9 (fun w => ∃ q7 : Nat, w = [(ad_s, .inr (9, [.ref q7, .int (0 : Int32), .int (0 : Int32), .int (0 : Int32), .int (-1 : Int32), .int (0 : Int32)])), (q7, .inl (cI, 9, .inl (fun _ => 0)))]) := by
  apply kInN
  · decide
  · rfl
  · exact Nat.le_of_ble_eq_true rfl
  intro p e s m args below meth c A ls Q hX hnm hRet hP hD hS hl
  have hx := hX.1.1
  have hb := hX.1.2.1
  have hown := hX.1.2.2.2.1
  have hts := hX.1.2.2.2.2
  have hl : lv_has ls 1 [(0, .ref ad_s)] := hl
  refine lv_aload_n hx hb dX9_init_0 rfl (lv_at hl 0 rfl) ?_
  refine W.objInit hx hb hown (hts _ (List.mem_cons_of_mem _ wd165)) (hts _ (List.mem_cons_of_mem _ wd38)) (hts _ (List.mem_cons_of_mem _ wd39)) rfl (by rw [hX.1.2.2.1]; exact hl.1) rfl dX9_init_1 (Nat.le_of_ble_eq_true rfl) (Nat.le_of_ble_eq_true rfl) ?_
  refine W.eq (g2 := F0 m 4 ls []) rfl ?_
  refine lv_aload_n hx hb dX9_init_4 rfl (lv_at hl 0 rfl) ?_
  refine lv_bipush (v := 9) hx hb dX9_init_5 (by decide) ?_
  refine knewi (N' := 9) hX hP hD hS wd59 (by decide) (by decide +kernel) (Nat.le_of_ble_eq_true rfl) (Nat.le_of_ble_eq_true rfl) (Nat.le_of_ble_eq_true rfl) dX9_init_7 (fun q7 H hP hD hS => ?_)
  have hP : va_P D vwCl [(ad_s, .inr (9, [.null, .int (0 : Int32), .int (0 : Int32), .int (0 : Int32), .int (0 : Int32), .int (0 : Int32)])), (q7, .inl (cI, 9, .inl (fun _ => 0)))] H := hP
  have hD : va_D A [(ad_s, .inr (9, [.null, .int (0 : Int32), .int (0 : Int32), .int (0 : Int32), .int (0 : Int32), .int (0 : Int32)])), (q7, .inl (cI, 9, .inl (fun _ => 0)))] := hD
  refine kputF hX hnm rfl hP hD hS (q0 := 0) rfl rfl inX9 tyX9_ok nmX9 (k := 0) (by decide) rfl wd166 rfl rfl (Nat.le_of_ble_eq_true rfl) dX9_init_9 (fun H locs hP hD hS => ?_)
  refine lv_aload_n hx hb dX9_init_12 rfl (lv_at hl 0 rfl) ?_
  refine lv_iconst (v := 0) hx hb dX9_init_13 (by decide) ?_
  refine kput hX hP hD hS (q0 := 0) rfl rfl inX9 tyX9_ok nmX9 (k := 1) (by decide) rfl wd167 rfl rfl (Nat.le_of_ble_eq_true rfl) dX9_init_14 (fun H locs hP hD hS => ?_)
  refine lv_aload_n hx hb dX9_init_17 rfl (lv_at hl 0 rfl) ?_
  refine lv_iconst (v := 0) hx hb dX9_init_18 (by decide) ?_
  refine kput hX hP hD hS (q0 := 0) rfl rfl inX9 tyX9_ok nmX9 (k := 2) (by decide) rfl wd169 rfl rfl (Nat.le_of_ble_eq_true rfl) dX9_init_19 (fun H locs hP hD hS => ?_)
  refine lv_aload_n hx hb dX9_init_22 rfl (lv_at hl 0 rfl) ?_
  refine lv_iconst (v := 0) hx hb dX9_init_23 (by decide) ?_
  refine kput hX hP hD hS (q0 := 0) rfl rfl inX9 tyX9_ok nmX9 (k := 3) (by decide) rfl wd172 rfl rfl (Nat.le_of_ble_eq_true rfl) dX9_init_24 (fun H locs hP hD hS => ?_)
  refine lv_aload_n hx hb dX9_init_27 rfl (lv_at hl 0 rfl) ?_
  refine lv_iconst (v := -1) hx hb dX9_init_28 (by decide) ?_
  refine kput hX hP hD hS (q0 := 0) rfl rfl inX9 tyX9_ok nmX9 (k := 4) (by decide) rfl wd174 rfl rfl (Nat.le_of_ble_eq_true rfl) dX9_init_29 (fun H locs hP hD hS => ?_)
  refine lv_aload_n hx hb dX9_init_32 rfl (lv_at hl 0 rfl) ?_
  refine lv_iconst (v := 0) hx hb dX9_init_33 (by decide) ?_
  refine kput hX hP hD hS (q0 := 0) rfl rfl inX9 tyX9_ok nmX9 (k := 5) (by decide) rfl wd177 rfl rfl (Nat.le_of_ble_eq_true rfl) dX9_init_34 (fun H locs hP hD hS => ?_)
  exact hRet _ _ _ _ _ _ _ (Nat.le_of_ble_eq_true rfl) (Nat.le_of_ble_eq_true rfl) ⟨_, rfl⟩ hP hD hS dX9_init_37
abbrev rm_X5_init : Room := { frames := 1, cells := 0, slots := 0, locals := 40 }
set_option maxHeartbeats 8000000 in
set_option maxRecDepth 100000 in
theorem c_X5_init (l : Launch) (D : va_G) (cI cJ cR : ClassId) (ad_s : Nat) : kMv l D (kT cI cJ cR) yX5_init cX5_init 1 none rm_X5_init [.ref ad_s] [(ad_s, .inr (5, [.int (0 : Int32), .int (0 : Int32), .int (0 : Int32), .int (0 : Int32), .int (0 : Int32), .int (0 : Int32)]))] 0 0 (fun w => w = [(ad_s, .inr (5, [.int (0 : Int32), .int (0 : Int32), .int (0 : Int32), .int (0 : Int32), .int (0 : Int32), .int (0 : Int32)]))]) := by
  apply kInN
  · decide
  · rfl
  · exact Nat.le_of_ble_eq_true rfl
  intro p e s m args below meth c A ls Q hX hnm hRet hP hD hS hl
  have hx := hX.1.1
  have hb := hX.1.2.1
  have hown := hX.1.2.2.2.1
  have hts := hX.1.2.2.2.2
  have hl : lv_has ls 1 [(0, .ref ad_s)] := hl
  refine lv_aload_n hx hb dX5_init_0 rfl (lv_at hl 0 rfl) ?_
  refine W.objInit hx hb hown (hts _ (List.mem_cons_of_mem _ wd198)) (hts _ (List.mem_cons_of_mem _ wd38)) (hts _ (List.mem_cons_of_mem _ wd39)) rfl (by rw [hX.1.2.2.1]; exact hl.1) rfl dX5_init_1 (Nat.le_of_ble_eq_true rfl) (Nat.le_of_ble_eq_true rfl) ?_
  refine W.eq (g2 := F0 m 4 ls []) rfl ?_
  refine lv_aload_n hx hb dX5_init_4 rfl (lv_at hl 0 rfl) ?_
  refine lv_iconst (v := 0) hx hb dX5_init_5 (by decide) ?_
  refine kput hX hP hD hS (q0 := 0) rfl rfl inX5 tyX5_ok nmX5 (k := 0) (by decide) rfl wd199 rfl rfl (Nat.le_of_ble_eq_true rfl) dX5_init_6 (fun H locs hP hD hS => ?_)
  refine lv_aload_n hx hb dX5_init_9 rfl (lv_at hl 0 rfl) ?_
  refine lv_iconst (v := 0) hx hb dX5_init_10 (by decide) ?_
  refine kput hX hP hD hS (q0 := 0) rfl rfl inX5 tyX5_ok nmX5 (k := 1) (by decide) rfl wd201 rfl rfl (Nat.le_of_ble_eq_true rfl) dX5_init_11 (fun H locs hP hD hS => ?_)
  refine lv_aload_n hx hb dX5_init_14 rfl (lv_at hl 0 rfl) ?_
  refine lv_iconst (v := 0) hx hb dX5_init_15 (by decide) ?_
  refine kput hX hP hD hS (q0 := 0) rfl rfl inX5 tyX5_ok nmX5 (k := 2) (by decide) rfl wd203 rfl rfl (Nat.le_of_ble_eq_true rfl) dX5_init_16 (fun H locs hP hD hS => ?_)
  refine lv_aload_n hx hb dX5_init_19 rfl (lv_at hl 0 rfl) ?_
  refine lv_iconst (v := 0) hx hb dX5_init_20 (by decide) ?_
  refine kput hX hP hD hS (q0 := 0) rfl rfl inX5 tyX5_ok nmX5 (k := 3) (by decide) rfl wd204 rfl rfl (Nat.le_of_ble_eq_true rfl) dX5_init_21 (fun H locs hP hD hS => ?_)
  refine lv_aload_n hx hb dX5_init_24 rfl (lv_at hl 0 rfl) ?_
  refine lv_iconst (v := 0) hx hb dX5_init_25 (by decide) ?_
  refine kput hX hP hD hS (q0 := 0) rfl rfl inX5 tyX5_ok nmX5 (k := 4) (by decide) rfl wd207 rfl rfl (Nat.le_of_ble_eq_true rfl) dX5_init_26 (fun H locs hP hD hS => ?_)
  refine lv_aload_n hx hb dX5_init_29 rfl (lv_at hl 0 rfl) ?_
  refine lv_iconst (v := 0) hx hb dX5_init_30 (by decide) ?_
  refine kput hX hP hD hS (q0 := 0) rfl rfl inX5 tyX5_ok nmX5 (k := 5) (by decide) rfl wd208 rfl rfl (Nat.le_of_ble_eq_true rfl) dX5_init_31 (fun H locs hP hD hS => ?_)
  exact hRet _ _ _ _ _ _ _ (Nat.le_of_ble_eq_true rfl) (Nat.le_of_ble_eq_true rfl) rfl hP hD hS dX5_init_34
abbrev rm_X0_init : Room := { frames := 1, cells := 1, slots := 10, locals := 40 }
set_option maxHeartbeats 8000000 in
set_option maxRecDepth 100000 in
theorem c_X0_init (l : Launch) (D : va_G) (cI cJ cR : ClassId) (ad_s : Nat) : kMv l D (kT cI cJ cR) yX0_init cX0_init 1 none rm_X0_init [.ref ad_s] [(ad_s, .inr (0, [.null]))] 1 10 (fun w => ∃ q7 : Nat, w = [(ad_s, .inr (0, [.ref q7])), (q7, .inl (cI, 10, .inl (fun _ => 0)))]) := by
  apply kInN
  · decide
  · rfl
  · exact Nat.le_of_ble_eq_true rfl
  intro p e s m args below meth c A ls Q hX hnm hRet hP hD hS hl
  have hx := hX.1.1
  have hb := hX.1.2.1
  have hown := hX.1.2.2.2.1
  have hts := hX.1.2.2.2.2
  have hl : lv_has ls 1 [(0, .ref ad_s)] := hl
  refine lv_aload_n hx hb dX0_init_0 rfl (lv_at hl 0 rfl) ?_
  refine W.objInit hx hb hown (hts _ (List.mem_cons_of_mem _ wd227)) (hts _ (List.mem_cons_of_mem _ wd38)) (hts _ (List.mem_cons_of_mem _ wd39)) rfl (by rw [hX.1.2.2.1]; exact hl.1) rfl dX0_init_1 (Nat.le_of_ble_eq_true rfl) (Nat.le_of_ble_eq_true rfl) ?_
  refine W.eq (g2 := F0 m 4 ls []) rfl ?_
  refine lv_aload_n hx hb dX0_init_4 rfl (lv_at hl 0 rfl) ?_
  refine lv_bipush (v := 10) hx hb dX0_init_5 (by decide) ?_
  refine knewi (N' := 10) hX hP hD hS wd59 (by decide) (by decide +kernel) (Nat.le_of_ble_eq_true rfl) (Nat.le_of_ble_eq_true rfl) (Nat.le_of_ble_eq_true rfl) dX0_init_7 (fun q7 H hP hD hS => ?_)
  have hP : va_P D vwCl [(ad_s, .inr (0, [.null])), (q7, .inl (cI, 10, .inl (fun _ => 0)))] H := hP
  have hD : va_D A [(ad_s, .inr (0, [.null])), (q7, .inl (cI, 10, .inl (fun _ => 0)))] := hD
  refine kputF hX hnm rfl hP hD hS (q0 := 0) rfl rfl inX0 tyX0_ok nmX0 (k := 0) (by decide) rfl wd228 rfl rfl (Nat.le_of_ble_eq_true rfl) dX0_init_9 (fun H locs hP hD hS => ?_)
  exact hRet _ _ _ _ _ _ _ (Nat.le_of_ble_eq_true rfl) (Nat.le_of_ble_eq_true rfl) ⟨_, rfl⟩ hP hD hS dX0_init_12
abbrev rm_X8_init : Room := { frames := 1, cells := 2, slots := 9216, locals := 40 }
set_option maxHeartbeats 8000000 in
set_option maxRecDepth 100000 in
theorem c_X8_init (l : Launch) (D : va_G) (cI cJ cR : ClassId) (ad_s : Nat) : kMv l D (kT cI cJ cR) yX8_init cX8_init 1 none rm_X8_init [.ref ad_s] [(ad_s, .inr (8, [.null, .null, .int (0 : Int32), .long (0 : Int64)]))] 2 9216 (fun w => ∃ q8 q17 : Nat, w = [(ad_s, .inr (8, [.ref q8, .ref q17, .int (0 : Int32), .long (0 : Int64)])), (q8, .inl (cJ, 4608, .inr (.inl (fun _ => 0)))), (q17, .inl (cI, 4608, .inl (fun _ => 0)))]) := by
  apply kInN
  · decide
  · rfl
  · exact Nat.le_of_ble_eq_true rfl
  intro p e s m args below meth c A ls Q hX hnm hRet hP hD hS hl
  have hx := hX.1.1
  have hb := hX.1.2.1
  have hown := hX.1.2.2.2.1
  have hts := hX.1.2.2.2.2
  have hl : lv_has ls 1 [(0, .ref ad_s)] := hl
  refine lv_aload_n hx hb dX8_init_0 rfl (lv_at hl 0 rfl) ?_
  refine W.objInit hx hb hown (hts _ (List.mem_cons_of_mem _ wd245)) (hts _ (List.mem_cons_of_mem _ wd38)) (hts _ (List.mem_cons_of_mem _ wd39)) rfl (by rw [hX.1.2.2.1]; exact hl.1) rfl dX8_init_1 (Nat.le_of_ble_eq_true rfl) (Nat.le_of_ble_eq_true rfl) ?_
  refine W.eq (g2 := F0 m 4 ls []) rfl ?_
  refine lv_aload_n hx hb dX8_init_4 rfl (lv_at hl 0 rfl) ?_
  refine lv_sipush (v := 4608) hx hb dX8_init_5 (by decide) ?_
  refine knewj (N' := 4608) hX hP hD hS wd261 (by decide) (by decide +kernel) (Nat.le_of_ble_eq_true rfl) (Nat.le_of_ble_eq_true rfl) (Nat.le_of_ble_eq_true rfl) dX8_init_8 (fun q8 H hP hD hS => ?_)
  have hP : va_P D vwCl [(ad_s, .inr (8, [.null, .null, .int (0 : Int32), .long (0 : Int64)])), (q8, .inl (cJ, 4608, .inr (.inl (fun _ => 0))))] H := hP
  have hD : va_D A [(ad_s, .inr (8, [.null, .null, .int (0 : Int32), .long (0 : Int64)])), (q8, .inl (cJ, 4608, .inr (.inl (fun _ => 0))))] := hD
  refine kputF hX hnm rfl hP hD hS (q0 := 0) rfl rfl inX8 tyX8_ok nmX8 (k := 0) (by decide) rfl wd246 rfl rfl (Nat.le_of_ble_eq_true rfl) dX8_init_10 (fun H locs hP hD hS => ?_)
  refine lv_aload_n hx hb dX8_init_13 rfl (lv_at hl 0 rfl) ?_
  refine lv_sipush (v := 4608) hx hb dX8_init_14 (by decide) ?_
  refine knewi (N' := 4608) hX hP hD hS wd59 (by decide) (by decide +kernel) (Nat.le_of_ble_eq_true rfl) (Nat.le_of_ble_eq_true rfl) (Nat.le_of_ble_eq_true rfl) dX8_init_17 (fun q17 H hP hD hS => ?_)
  have hP : va_P D vwCl [(ad_s, .inr (8, [.ref q8, .null, .int (0 : Int32), .long (0 : Int64)])), (q8, .inl (cJ, 4608, .inr (.inl (fun _ => 0)))), (q17, .inl (cI, 4608, .inl (fun _ => 0)))] H := hP
  have hD : va_D A [(ad_s, .inr (8, [.ref q8, .null, .int (0 : Int32), .long (0 : Int64)])), (q8, .inl (cJ, 4608, .inr (.inl (fun _ => 0)))), (q17, .inl (cI, 4608, .inl (fun _ => 0)))] := hD
  refine kputF hX hnm rfl hP hD hS (q0 := 0) rfl rfl inX8 tyX8_ok nmX8 (k := 1) (by decide) rfl wd247 rfl rfl (Nat.le_of_ble_eq_true rfl) dX8_init_19 (fun H locs hP hD hS => ?_)
  refine lv_aload_n hx hb dX8_init_22 rfl (lv_at hl 0 rfl) ?_
  refine lv_iconst (v := 0) hx hb dX8_init_23 (by decide) ?_
  refine kput hX hP hD hS (q0 := 0) rfl rfl inX8 tyX8_ok nmX8 (k := 2) (by decide) rfl wd248 rfl rfl (Nat.le_of_ble_eq_true rfl) dX8_init_24 (fun H locs hP hD hS => ?_)
  refine lv_aload_n hx hb dX8_init_27 rfl (lv_at hl 0 rfl) ?_
  refine lv_lconst (v := 0) hx hb dX8_init_28 (by decide) ?_
  refine kput hX hP hD hS (q0 := 0) rfl rfl inX8 tyX8_ok nmX8 (k := 3) (by decide) rfl wd250 rfl rfl (Nat.le_of_ble_eq_true rfl) dX8_init_29 (fun H locs hP hD hS => ?_)
  exact hRet _ _ _ _ _ _ _ (Nat.le_of_ble_eq_true rfl) (Nat.le_of_ble_eq_true rfl) ⟨_, _, rfl⟩ hP hD hS dX8_init_32
abbrev rm_X2_init : Room := { frames := 2, cells := 8, slots := 18455, locals := 60 }
set_option maxHeartbeats 8000000 in
set_option maxRecDepth 100000 in
theorem c_X2_init (l : Launch) (D : va_G) (cI cJ cR : ClassId) (ad_s : Nat) : kMv l D (kT cI cJ cR) yX2_init cX2_init 1 none rm_X2_init [.ref ad_s] [(ad_s, .inr (2, [.null, .null, .null, .long (0 : Int64)]))] 8 18455 (fun w => ∃ q5 b9_0 q16 b20_0 b20_1 q27 b31_0 b31_1 : Nat, w = [(ad_s, .inr (2, [.ref q5, .ref q16, .ref q27, .long (1 : Int64)])), (q5, .inr (9, [.ref b9_0, .int (0 : Int32), .int (0 : Int32), .int (0 : Int32), .int (-1 : Int32), .int (0 : Int32)])), (b9_0, .inl (cI, 9, .inl (fun _ => 0))), (q16, .inr (8, [.ref b20_0, .ref b20_1, .int (0 : Int32), .long (0 : Int64)])), (b20_0, .inl (cJ, 4608, .inr (.inl (fun _ => 0)))), (b20_1, .inl (cI, 4608, .inl (fun _ => 0))), (q27, .inr (8, [.ref b31_0, .ref b31_1, .int (0 : Int32), .long (0 : Int64)])), (b31_0, .inl (cJ, 4608, .inr (.inl (fun _ => 0)))), (b31_1, .inl (cI, 4608, .inl (fun _ => 0)))]) := by
  apply kInN
  · decide
  · rfl
  · exact Nat.le_of_ble_eq_true rfl
  intro p e s m args below meth c A ls Q hX hnm hRet hP hD hS hl
  have hx := hX.1.1
  have hb := hX.1.2.1
  have hown := hX.1.2.2.2.1
  have hts := hX.1.2.2.2.2
  have hl : lv_has ls 1 [(0, .ref ad_s)] := hl
  refine lv_aload_n hx hb dX2_init_0 rfl (lv_at hl 0 rfl) ?_
  refine W.objInit hx hb hown (hts _ (List.mem_cons_of_mem _ wd237)) (hts _ (List.mem_cons_of_mem _ wd38)) (hts _ (List.mem_cons_of_mem _ wd39)) rfl (by rw [hX.1.2.2.1]; exact hl.1) rfl dX2_init_1 (Nat.le_of_ble_eq_true rfl) (Nat.le_of_ble_eq_true rfl) ?_
  refine W.eq (g2 := F0 m 4 ls []) rfl ?_
  refine lv_aload_n hx hb dX2_init_4 rfl (lv_at hl 0 rfl) ?_
  refine knew hX hP hD hS (ci := 9) (fs := [.null, .int (0 : Int32), .int (0 : Int32), .int (0 : Int32), .int (0 : Int32), .int (0 : Int32)]) rfl inX9 tyX9_ok wd238 wd161 wd24 (by decide +kernel) (Nat.le_of_ble_eq_true rfl) (Nat.le_of_ble_eq_true rfl) dX2_init_5 (fun q5 H hP hD hS => ?_)
  refine lv_dup hx hb dX2_init_8 rfl ?_
  refine kIvN (rest := [.ref q5, .ref ad_s]) hX (c_X9_init l D cI cJ cR q5) kc_X9_init (by decide) ⟨(Nat.le_of_ble_eq_true rfl), (Nat.le_of_ble_eq_true rfl)⟩ rfl rfl hP hD hS rfl rfl (Nat.le_of_ble_eq_true rfl) hl.1 ⟨(Nat.le_of_ble_eq_true rfl), (Nat.le_of_ble_eq_true rfl)⟩ dX2_init_9 (fun H locs w1 hw1 hP hD hS => ?_)
  obtain ⟨b9_0, rfl⟩ := hw1
  have hP : va_P D vwCl [(ad_s, .inr (2, [.null, .null, .null, .long (0 : Int64)])), (q5, .inr (9, [.ref b9_0, .int (0 : Int32), .int (0 : Int32), .int (0 : Int32), .int (-1 : Int32), .int (0 : Int32)])), (b9_0, .inl (cI, 9, .inl (fun _ => 0)))] H := hP
  have hD : va_D A [(ad_s, .inr (2, [.null, .null, .null, .long (0 : Int64)])), (q5, .inr (9, [.ref b9_0, .int (0 : Int32), .int (0 : Int32), .int (0 : Int32), .int (-1 : Int32), .int (0 : Int32)])), (b9_0, .inl (cI, 9, .inl (fun _ => 0)))] := hD
  refine kputF hX hnm rfl hP hD hS (q0 := 0) rfl rfl inX2 tyX2_ok nmX2 (k := 0) (by decide) rfl wd262 rfl rfl (Nat.le_of_ble_eq_true rfl) dX2_init_12 (fun H locs hP hD hS => ?_)
  refine lv_aload_n hx hb dX2_init_15 rfl (lv_at hl 0 rfl) ?_
  refine knew hX hP hD hS (ci := 8) (fs := [.null, .null, .int (0 : Int32), .long (0 : Int64)]) rfl inX8 tyX8_ok wd240 wd241 wd28 (by decide +kernel) (Nat.le_of_ble_eq_true rfl) (Nat.le_of_ble_eq_true rfl) dX2_init_16 (fun q16 H hP hD hS => ?_)
  refine lv_dup hx hb dX2_init_19 rfl ?_
  refine kIvN (rest := [.ref q16, .ref ad_s]) hX (c_X8_init l D cI cJ cR q16) kc_X8_init (by decide) ⟨(Nat.le_of_ble_eq_true rfl), (Nat.le_of_ble_eq_true rfl)⟩ rfl rfl hP hD hS rfl rfl (Nat.le_of_ble_eq_true rfl) hl.1 ⟨(Nat.le_of_ble_eq_true rfl), (Nat.le_of_ble_eq_true rfl)⟩ dX2_init_20 (fun H locs w1 hw1 hP hD hS => ?_)
  obtain ⟨b20_0, b20_1, rfl⟩ := hw1
  have hP : va_P D vwCl [(ad_s, .inr (2, [.ref q5, .null, .null, .long (0 : Int64)])), (q5, .inr (9, [.ref b9_0, .int (0 : Int32), .int (0 : Int32), .int (0 : Int32), .int (-1 : Int32), .int (0 : Int32)])), (b9_0, .inl (cI, 9, .inl (fun _ => 0))), (q16, .inr (8, [.ref b20_0, .ref b20_1, .int (0 : Int32), .long (0 : Int64)])), (b20_0, .inl (cJ, 4608, .inr (.inl (fun _ => 0)))), (b20_1, .inl (cI, 4608, .inl (fun _ => 0)))] H := hP
  have hD : va_D A [(ad_s, .inr (2, [.ref q5, .null, .null, .long (0 : Int64)])), (q5, .inr (9, [.ref b9_0, .int (0 : Int32), .int (0 : Int32), .int (0 : Int32), .int (-1 : Int32), .int (0 : Int32)])), (b9_0, .inl (cI, 9, .inl (fun _ => 0))), (q16, .inr (8, [.ref b20_0, .ref b20_1, .int (0 : Int32), .long (0 : Int64)])), (b20_0, .inl (cJ, 4608, .inr (.inl (fun _ => 0)))), (b20_1, .inl (cI, 4608, .inl (fun _ => 0)))] := hD
  refine kput hX hP hD hS (q0 := 0) rfl rfl inX2 tyX2_ok nmX2 (k := 1) (by decide) rfl wd263 rfl rfl (Nat.le_of_ble_eq_true rfl) dX2_init_23 (fun H locs hP hD hS => ?_)
  refine lv_aload_n hx hb dX2_init_26 rfl (lv_at hl 0 rfl) ?_
  refine knew hX hP hD hS (ci := 8) (fs := [.null, .null, .int (0 : Int32), .long (0 : Int64)]) rfl inX8 tyX8_ok wd240 wd241 wd28 (by decide +kernel) (Nat.le_of_ble_eq_true rfl) (Nat.le_of_ble_eq_true rfl) dX2_init_27 (fun q27 H hP hD hS => ?_)
  refine lv_dup hx hb dX2_init_30 rfl ?_
  refine kIvN (rest := [.ref q27, .ref ad_s]) hX (c_X8_init l D cI cJ cR q27) kc_X8_init (by decide) ⟨(Nat.le_of_ble_eq_true rfl), (Nat.le_of_ble_eq_true rfl)⟩ rfl rfl hP hD hS rfl rfl (Nat.le_of_ble_eq_true rfl) hl.1 ⟨(Nat.le_of_ble_eq_true rfl), (Nat.le_of_ble_eq_true rfl)⟩ dX2_init_31 (fun H locs w1 hw1 hP hD hS => ?_)
  obtain ⟨b31_0, b31_1, rfl⟩ := hw1
  have hP : va_P D vwCl [(ad_s, .inr (2, [.ref q5, .ref q16, .null, .long (0 : Int64)])), (q5, .inr (9, [.ref b9_0, .int (0 : Int32), .int (0 : Int32), .int (0 : Int32), .int (-1 : Int32), .int (0 : Int32)])), (b9_0, .inl (cI, 9, .inl (fun _ => 0))), (q16, .inr (8, [.ref b20_0, .ref b20_1, .int (0 : Int32), .long (0 : Int64)])), (b20_0, .inl (cJ, 4608, .inr (.inl (fun _ => 0)))), (b20_1, .inl (cI, 4608, .inl (fun _ => 0))), (q27, .inr (8, [.ref b31_0, .ref b31_1, .int (0 : Int32), .long (0 : Int64)])), (b31_0, .inl (cJ, 4608, .inr (.inl (fun _ => 0)))), (b31_1, .inl (cI, 4608, .inl (fun _ => 0)))] H := hP
  have hD : va_D A [(ad_s, .inr (2, [.ref q5, .ref q16, .null, .long (0 : Int64)])), (q5, .inr (9, [.ref b9_0, .int (0 : Int32), .int (0 : Int32), .int (0 : Int32), .int (-1 : Int32), .int (0 : Int32)])), (b9_0, .inl (cI, 9, .inl (fun _ => 0))), (q16, .inr (8, [.ref b20_0, .ref b20_1, .int (0 : Int32), .long (0 : Int64)])), (b20_0, .inl (cJ, 4608, .inr (.inl (fun _ => 0)))), (b20_1, .inl (cI, 4608, .inl (fun _ => 0))), (q27, .inr (8, [.ref b31_0, .ref b31_1, .int (0 : Int32), .long (0 : Int64)])), (b31_0, .inl (cJ, 4608, .inr (.inl (fun _ => 0)))), (b31_1, .inl (cI, 4608, .inl (fun _ => 0)))] := hD
  refine kput hX hP hD hS (q0 := 0) rfl rfl inX2 tyX2_ok nmX2 (k := 2) (by decide) rfl wd264 rfl rfl (Nat.le_of_ble_eq_true rfl) dX2_init_34 (fun H locs hP hD hS => ?_)
  refine lv_aload_n hx hb dX2_init_37 rfl (lv_at hl 0 rfl) ?_
  refine lv_lconst (v := 1) hx hb dX2_init_38 (by decide) ?_
  refine kput hX hP hD hS (q0 := 0) rfl rfl inX2 tyX2_ok nmX2 (k := 3) (by decide) rfl wd265 rfl rfl (Nat.le_of_ble_eq_true rfl) dX2_init_39 (fun H locs hP hD hS => ?_)
  exact hRet _ _ _ _ _ _ _ (Nat.le_of_ble_eq_true rfl) (Nat.le_of_ble_eq_true rfl) ⟨_, _, _, _, _, _, _, _, rfl⟩ hP hD hS dX2_init_42
abbrev rm_X3_init : Room := { frames := 1, cells := 2, slots := 18, locals := 40 }
set_option maxHeartbeats 8000000 in
set_option maxRecDepth 100000 in
theorem c_X3_init (l : Launch) (D : va_G) (cI cJ cR : ClassId) (ad_s : Nat) : kMv l D (kT cI cJ cR) yX3_init cX3_init 1 none rm_X3_init [.ref ad_s] [(ad_s, .inr (3, [.null, .null, .int (0 : Int32), .int (0 : Int32), .int (0 : Int32), .int (0 : Int32)]))] 2 18 (fun w => ∃ q7 q15 : Nat, w = [(ad_s, .inr (3, [.ref q7, .ref q15, .int (0 : Int32), .int (0 : Int32), .int (0 : Int32), .int (0 : Int32)])), (q7, .inl (cI, 9, .inl (fun _ => 0))), (q15, .inl (cI, 9, .inl (fun _ => 0)))]) := by
  apply kInN
  · decide
  · rfl
  · exact Nat.le_of_ble_eq_true rfl
  intro p e s m args below meth c A ls Q hX hnm hRet hP hD hS hl
  have hx := hX.1.1
  have hb := hX.1.2.1
  have hown := hX.1.2.2.2.1
  have hts := hX.1.2.2.2.2
  have hl : lv_has ls 1 [(0, .ref ad_s)] := hl
  refine lv_aload_n hx hb dX3_init_0 rfl (lv_at hl 0 rfl) ?_
  refine W.objInit hx hb hown (hts _ (List.mem_cons_of_mem _ wd281)) (hts _ (List.mem_cons_of_mem _ wd38)) (hts _ (List.mem_cons_of_mem _ wd39)) rfl (by rw [hX.1.2.2.1]; exact hl.1) rfl dX3_init_1 (Nat.le_of_ble_eq_true rfl) (Nat.le_of_ble_eq_true rfl) ?_
  refine W.eq (g2 := F0 m 4 ls []) rfl ?_
  refine lv_aload_n hx hb dX3_init_4 rfl (lv_at hl 0 rfl) ?_
  refine lv_bipush (v := 9) hx hb dX3_init_5 (by decide) ?_
  refine knewi (N' := 9) hX hP hD hS wd59 (by decide) (by decide +kernel) (Nat.le_of_ble_eq_true rfl) (Nat.le_of_ble_eq_true rfl) (Nat.le_of_ble_eq_true rfl) dX3_init_7 (fun q7 H hP hD hS => ?_)
  have hP : va_P D vwCl [(ad_s, .inr (3, [.null, .null, .int (0 : Int32), .int (0 : Int32), .int (0 : Int32), .int (0 : Int32)])), (q7, .inl (cI, 9, .inl (fun _ => 0)))] H := hP
  have hD : va_D A [(ad_s, .inr (3, [.null, .null, .int (0 : Int32), .int (0 : Int32), .int (0 : Int32), .int (0 : Int32)])), (q7, .inl (cI, 9, .inl (fun _ => 0)))] := hD
  refine kputF hX hnm rfl hP hD hS (q0 := 0) rfl rfl inX3 tyX3_ok nmX3 (k := 0) (by decide) rfl wd282 rfl rfl (Nat.le_of_ble_eq_true rfl) dX3_init_9 (fun H locs hP hD hS => ?_)
  refine lv_aload_n hx hb dX3_init_12 rfl (lv_at hl 0 rfl) ?_
  refine lv_bipush (v := 9) hx hb dX3_init_13 (by decide) ?_
  refine knewi (N' := 9) hX hP hD hS wd59 (by decide) (by decide +kernel) (Nat.le_of_ble_eq_true rfl) (Nat.le_of_ble_eq_true rfl) (Nat.le_of_ble_eq_true rfl) dX3_init_15 (fun q15 H hP hD hS => ?_)
  have hP : va_P D vwCl [(ad_s, .inr (3, [.ref q7, .null, .int (0 : Int32), .int (0 : Int32), .int (0 : Int32), .int (0 : Int32)])), (q7, .inl (cI, 9, .inl (fun _ => 0))), (q15, .inl (cI, 9, .inl (fun _ => 0)))] H := hP
  have hD : va_D A [(ad_s, .inr (3, [.ref q7, .null, .int (0 : Int32), .int (0 : Int32), .int (0 : Int32), .int (0 : Int32)])), (q7, .inl (cI, 9, .inl (fun _ => 0))), (q15, .inl (cI, 9, .inl (fun _ => 0)))] := hD
  refine kputF hX hnm rfl hP hD hS (q0 := 0) rfl rfl inX3 tyX3_ok nmX3 (k := 1) (by decide) rfl wd283 rfl rfl (Nat.le_of_ble_eq_true rfl) dX3_init_17 (fun H locs hP hD hS => ?_)
  refine lv_aload_n hx hb dX3_init_20 rfl (lv_at hl 0 rfl) ?_
  refine lv_iconst (v := 0) hx hb dX3_init_21 (by decide) ?_
  refine kput hX hP hD hS (q0 := 0) rfl rfl inX3 tyX3_ok nmX3 (k := 2) (by decide) rfl wd284 rfl rfl (Nat.le_of_ble_eq_true rfl) dX3_init_22 (fun H locs hP hD hS => ?_)
  refine lv_aload_n hx hb dX3_init_25 rfl (lv_at hl 0 rfl) ?_
  refine lv_iconst (v := 0) hx hb dX3_init_26 (by decide) ?_
  refine kput hX hP hD hS (q0 := 0) rfl rfl inX3 tyX3_ok nmX3 (k := 3) (by decide) rfl wd286 rfl rfl (Nat.le_of_ble_eq_true rfl) dX3_init_27 (fun H locs hP hD hS => ?_)
  refine lv_aload_n hx hb dX3_init_30 rfl (lv_at hl 0 rfl) ?_
  refine lv_iconst (v := 0) hx hb dX3_init_31 (by decide) ?_
  refine kput hX hP hD hS (q0 := 0) rfl rfl inX3 tyX3_ok nmX3 (k := 4) (by decide) rfl wd287 rfl rfl (Nat.le_of_ble_eq_true rfl) dX3_init_32 (fun H locs hP hD hS => ?_)
  refine lv_aload_n hx hb dX3_init_35 rfl (lv_at hl 0 rfl) ?_
  refine lv_iconst (v := 0) hx hb dX3_init_36 (by decide) ?_
  refine kput hX hP hD hS (q0 := 0) rfl rfl inX3 tyX3_ok nmX3 (k := 5) (by decide) rfl wd289 rfl rfl (Nat.le_of_ble_eq_true rfl) dX3_init_37 (fun H locs hP hD hS => ?_)
  exact hRet _ _ _ _ _ _ _ (Nat.le_of_ble_eq_true rfl) (Nat.le_of_ble_eq_true rfl) ⟨_, _, rfl⟩ hP hD hS dX3_init_40
abbrev rm_X4_init : Room := { frames := 1, cells := 1, slots := 256, locals := 40 }
set_option maxHeartbeats 8000000 in
set_option maxRecDepth 100000 in
theorem c_X4_init (l : Launch) (D : va_G) (cI cJ cR : ClassId) (ad_s : Nat) : kMv l D (kT cI cJ cR) yX4_init cX4_init 1 none rm_X4_init [.ref ad_s] [(ad_s, .inr (4, [.null]))] 1 256 (fun w => ∃ q8 : Nat, w = [(ad_s, .inr (4, [.ref q8])), (q8, .inl (cI, 256, .inl (fun _ => 0)))]) := by
  apply kInN
  · decide
  · rfl
  · exact Nat.le_of_ble_eq_true rfl
  intro p e s m args below meth c A ls Q hX hnm hRet hP hD hS hl
  have hx := hX.1.1
  have hb := hX.1.2.1
  have hown := hX.1.2.2.2.1
  have hts := hX.1.2.2.2.2
  have hl : lv_has ls 1 [(0, .ref ad_s)] := hl
  refine lv_aload_n hx hb dX4_init_0 rfl (lv_at hl 0 rfl) ?_
  refine W.objInit hx hb hown (hts _ (List.mem_cons_of_mem _ wd309)) (hts _ (List.mem_cons_of_mem _ wd38)) (hts _ (List.mem_cons_of_mem _ wd39)) rfl (by rw [hX.1.2.2.1]; exact hl.1) rfl dX4_init_1 (Nat.le_of_ble_eq_true rfl) (Nat.le_of_ble_eq_true rfl) ?_
  refine W.eq (g2 := F0 m 4 ls []) rfl ?_
  refine lv_aload_n hx hb dX4_init_4 rfl (lv_at hl 0 rfl) ?_
  refine lv_sipush (v := 256) hx hb dX4_init_5 (by decide) ?_
  refine knewi (N' := 256) hX hP hD hS wd59 (by decide) (by decide +kernel) (Nat.le_of_ble_eq_true rfl) (Nat.le_of_ble_eq_true rfl) (Nat.le_of_ble_eq_true rfl) dX4_init_8 (fun q8 H hP hD hS => ?_)
  have hP : va_P D vwCl [(ad_s, .inr (4, [.null])), (q8, .inl (cI, 256, .inl (fun _ => 0)))] H := hP
  have hD : va_D A [(ad_s, .inr (4, [.null])), (q8, .inl (cI, 256, .inl (fun _ => 0)))] := hD
  refine kputF hX hnm rfl hP hD hS (q0 := 0) rfl rfl inX4 tyX4_ok nmX4 (k := 0) (by decide) rfl wd310 rfl rfl (Nat.le_of_ble_eq_true rfl) dX4_init_10 (fun H locs hP hD hS => ?_)
  exact hRet _ _ _ _ _ _ _ (Nat.le_of_ble_eq_true rfl) (Nat.le_of_ble_eq_true rfl) ⟨_, rfl⟩ hP hD hS dX4_init_13
