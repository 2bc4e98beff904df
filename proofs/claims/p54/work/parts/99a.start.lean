/-! the law from its entry -/
set_option maxHeartbeats 8000000 in
set_option maxRecDepth 100000 in
theorem whole_start {p : Program} {e : Env} {s : State} {m : MethodId} {below : List Frame} {meth : Method} {c : Code} (l : Launch) (hflags : l.flags = flags0) {b L : Nat} {xs : Nat → Int32} (hL : L ≤ 260) (C0 : lw_At p s m meth c b L xs) : W p l e room_1 s m #[Value.ref b] below meth c s.heap [] 0 0 (lw_Z below #[Value.ref b] s) (entryFrame m ([Value.ref b] : List Value).toArray 30) := by
  obtain ⟨hx, hb, hr, hml, hown, hts, hX0, hbl, hlocks, hgv⟩ := id C0
  obtain ⟨D, cI, cJ, cR, hK⟩ := lw_known hts
  have hX : kX l D (kT cI cJ cR) (fun q => s.heap.size ≤ q) p m c code 30 s #[Value.ref b] lw_tbl RL := ⟨⟨hx, hb, hml, hown, hts⟩, fun w hw => (List.mem_filter.mp hw).1, hK, fun _ h => h, lw_st hts hgv⟩
  have hsc : kSc (fun q => s.heap.size ≤ q) b L xs s := ⟨hX0, hbl, Nat.not_le.mpr hbl⟩
  have hS : va_S (fun q : Nat => s.heap.size ≤ q) s.heap s.heap [] := va_S.rf
  have hP : va_P D vwCl [] s.heap := fun k q h => by simp at h
  have hD : va_D (fun q : Nat => s.heap.size ≤ q) [] := ⟨fun i j p q h => by simp at h, fun k q h => by simp at h⟩
  have hl := lv_entry ([.ref b]) (n := 30) (Nat.le_of_ble_eq_true rfl)
  rw [lg_entry_eq]
  generalize (lg_sl ([.ref b]) ++ List.replicate (30 - (lg_sl ([.ref b])).length) Slot.unset).toArray = ls at hl ⊢
  have hl : lv_has ls 30 [(0, .ref b)] := hl
  refine knew (ci := 11) (fs := [.null, .null, .null, .null, .null, .null, .null, .null, .null, .null, .null, .null, .null, .null, .null, .int (0 : Int32), .int (0 : Int32), .long (0 : Int64), .long (0 : Int64)]) hX hP hD hS rfl inX11 tyX11_ok wd32 wd33 wd18 (by decide +kernel) (Nat.le_of_ble_eq_true rfl) (Nat.le_of_ble_eq_true rfl) dL_law_0 (fun q0 H hP hD hS => ?_)
  refine lv_dup hx hb dL_law_3 rfl ?_
  refine kIv (wr := []) (As := []) (rest := [.ref q0]) hX (c_X11_init l D cI cJ cR q0) kc_X11_init wd34 ⟨(Nat.le_of_ble_eq_true rfl), (Nat.le_of_ble_eq_true rfl)⟩ rfl rfl hP hD hS rfl rfl (Nat.le_of_ble_eq_true rfl) hl.1 ⟨(Nat.le_of_ble_eq_true rfl), (Nat.le_of_ble_eq_true rfl)⟩ dL_law_4 (fun H locs w1 hw1 hP hD hS => ?_)
  obtain ⟨x_q5, x_b13_0, x_b13_1, x_q20, x_b27_0, x_b27_1, x_q34, x_b38_0, x_q45, x_b49_0, x_q56, x_b60_0, x_b60_1, x_b60_2, x_q68, x_q75, x_b79_0, x_b79_1, x_b79_2, x_q86, x_b90_0, x_q97, x_q108, x_q119, x_b123_0, x_q130, x_b134_0, x_b134_1, x_b134_2, x_b134_3, x_b134_4, x_b134_5, x_b134_6, x_b134_7, x_q141, x_b145_0, x_b145_1, x_q152, x_b156_0, x_q165, x_q206, x_b210_0, x_b210_1, x_b210_2, x_q206_45, x_b210_0_46, x_b210_1_46, x_b210_2_46, x_q206_49, x_b210_0_50, x_b210_1_50, x_b210_2_50, hw1⟩ := hw1
  rw [kR_up] at hw1
  refine lv_astore_n (lv' := [(1, .ref q0), (0, .ref b)]) hx hb dL_law_7 rfl hl (by decide) rfl (fun ls hl => ?_)
  exact w_L_law (N := 5000) hX hsc (by omega) (o := 1) (fun v H locs cells slots pc ls h1 h2 hv hS hdg => by
    subst hv
    refine va_forget (fun q hq => hS.2.2 q hq) ?_
    exact W.widen h1 h2 (lw_ret hx hb hr hlocks hdg)) H locs w1 th0 ⟨x_q5, x_b13_0, x_b13_1, x_q20, x_b27_0, x_b27_1, x_q34, x_b38_0, x_q45, x_b49_0, x_q56, x_b60_0, x_b60_1, x_b60_2, x_q68, x_q75, x_b79_0, x_b79_1, x_b79_2, x_q86, x_b90_0, x_q97, x_q108, x_q119, x_b123_0, x_q130, x_b134_0, x_b134_1, x_b134_2, x_b134_3, x_b134_4, x_b134_5, x_b134_6, x_b134_7, x_q141, x_b145_0, x_b145_1, x_q152, x_b156_0, x_q165, x_q206, x_b210_0, x_b210_1, x_b210_2, x_q206_45, x_b210_0_46, x_b210_1_46, x_b210_2_46, x_q206_49, x_b210_0_50, x_b210_1_50, x_b210_2_50, hw1⟩ hP hD hS ls (lv_sub hl [1, 0] rfl) (law_true hL)
