/-! what a constructor makes -/
theorem va_nd_of : ∀ {l : List Nat}, l.Nodup → va_nd l = true
  | [], _ => rfl
  | a :: l, h => by
    rw [List.nodup_cons] at h
    simp [va_nd, h.1, va_nd_of h.2]
theorem kjoinN {A0 : Nat → Prop} {D : va_G} {cl : List vw_C} {wr w1 : va_W} {c0 : Nat × va_E} {H H1 : Heap} (hP : va_P D cl (wr ++ [c0]) H) (hD : va_D A0 (wr ++ [c0]))
    (hk : ∀ q : Nat, q < H.size → ¬ va_A [c0] H.size q → H1[q]? = H[q]?) (hF : ∀ q, va_A [c0] H.size q → A0 q) (hP1 : va_P D cl w1 H1) (hD1 : va_D (va_A [c0] H.size) w1) : va_P D cl (wr ++ w1) H1 ∧ va_D A0 (wr ++ w1) := by
  refine va_join (wc := [c0]) (wr := wr) hP hD [wr.length] (List.range wr.length) (by simp) ?_ (va_nd_of List.nodup_range) ?_ hk hF hP1 hD1
  · apply List.ext_getElem
    · simp
    · intro i h1 h2
      simp only [List.length_map, List.length_range] at h1
      simp [List.getElem?_append_left h1, h1]
  · intro i hi h
    simp only [List.mem_range] at hi
    simp at h
    omega
section KN
variable {p : Program} {l : Launch} {e : Env} {R : Room} {s : State} {m : MethodId} {args : Array Value} {below : List Frame} {meth : Method} {c : Code} {H : Heap} {locs : List Loc} {cells slots : Nat} {Q : State → Prop}
variable {D : va_G} {T : List (ClassId × FieldType)} {A : Nat → Prop} {cc : ByteArray} {nL pc : Nat} {Ts : List Cond} {own : String} {ls : Array Slot} {rest : List Value} {ws : va_W} {a : Nat}
theorem knew {C : String} {Tf : u_T} {N ci index : Nat} {fs : List Value} {ty0 : Nat → FieldType} (hX : kX l D T A p m c cc nL s args Ts own) (hP : va_P D vwCl ws H) (hD : va_D A ws) (hS : va_S A s.heap H locs) (hc : vwCl[ci]? = some (C, Tf, N)) (hin : ∀ w ∈ u_ws C Tf N, w ∈ lw_ok) (hty : ∀ k, k < N → parseFieldDescriptor (Tf k).2.2.1 = some (ty0 k)) (hcl : Cond.classLink own index C ∈ lw_ok) (hinst : Cond.instantiable C N ∈ lw_ok) (hini : Cond.initialized C ∈ lw_ok)
    (hfs : ∀ j, j < N → defaultValue (ty0 j) = vp_V fs j) (hcells : cells + 1 ≤ R.cells) (hslots : slots + N ≤ R.slots) (hdg : decode cc pc = .ok (.new index, 3))
    (kk : ∀ (q : Nat) (H1 : Heap), va_P D vwCl (ws ++ [(q, .inr (ci, fs))]) H1 → va_D A (ws ++ [(q, .inr (ci, fs))]) → va_S A s.heap H1 locs → W p l e R s m args below meth c H1 locs (cells + 1) (slots + N) Q (F0 m (pc + 3) ls (.ref q :: rest))) : W p l e R s m args below meth c H locs cells slots Q (F0 m pc ls rest) := by
  obtain ⟨⟨hx, hb, -, hown, hts⟩, hsub, hK, hA, -⟩ := hX
  exact va_new hx hb hts (fun w hw => hsub w (hin w hw)) ty0 hty hown (hts _ (hsub _ hcl)) (hts _ (hsub _ hinst)) (hts _ (hsub _ hini)) hK hP hD hS hA hc hfs hcells hslots hdg kk
theorem knewi {cI cJ cR : ClassId} {n : Int32} {N' : Nat} (hX : kX l D (kT cI cJ cR) A p m c cc nL s args Ts own) (hP : va_P D vwCl ws H) (hD : va_D A ws) (hS : va_S A s.heap H locs) (harr : Cond.arrayClass .int ∈ lw_ok) (hn : ¬ n < 0) (hN : n.toNatClampNeg = N') (hbytes : N' * 4 ≤ 536870912) (hcells : cells + 1 ≤ R.cells) (hslots : slots + N' ≤ R.slots) (hdg : decode cc pc = .ok (.newarray .int, 2))
    (kk : ∀ (q : Nat) (H1 : Heap), va_P D vwCl (ws ++ [(q, .inl (cI, N', .inl (fun _ => 0)))]) H1 → va_D A (ws ++ [(q, .inl (cI, N', .inl (fun _ => 0)))]) → va_S A s.heap H1 locs → W p l e R s m args below meth c H1 locs (cells + 1) (slots + N') Q (F0 m (pc + 2) ls (.ref q :: rest))) : W p l e R s m args below meth c H locs cells slots Q (F0 m pc ls (.int n :: rest)) := by
  obtain ⟨⟨hx, hb, -, hown, hts⟩, hsub, hK, hA, -⟩ := hX
  refine va_newa (atype := .int) (ty := .int) (a0 := (N', .inl (fun _ => 0))) hx hb (hts _ (hsub _ harr)) rfl hK hP hD hS hA (fun cA => rfl) hn hN hbytes hcells hslots hdg (fun q cA H1 hK1 hP hD hS => ?_)
  have e1 : s.vm.findClass ("[" ++ FieldType.int.toString) = some cA := (hK1.2 3 (cA, .int) rfl).2
  have e2 : s.vm.findClass ("[" ++ FieldType.int.toString) = some cI := (hK.2 0 (cI, .int) rfl).2
  cases e1.symm.trans e2
  exact kk q H1 hP hD hS
theorem knewj {cI cJ cR : ClassId} {n : Int32} {N' : Nat} (hX : kX l D (kT cI cJ cR) A p m c cc nL s args Ts own) (hP : va_P D vwCl ws H) (hD : va_D A ws) (hS : va_S A s.heap H locs) (harr : Cond.arrayClass .long ∈ lw_ok) (hn : ¬ n < 0) (hN : n.toNatClampNeg = N') (hbytes : N' * 8 ≤ 536870912) (hcells : cells + 1 ≤ R.cells) (hslots : slots + N' ≤ R.slots) (hdg : decode cc pc = .ok (.newarray .long, 2))
    (kk : ∀ (q : Nat) (H1 : Heap), va_P D vwCl (ws ++ [(q, .inl (cJ, N', .inr (.inl (fun _ => 0))))]) H1 → va_D A (ws ++ [(q, .inl (cJ, N', .inr (.inl (fun _ => 0))))]) → va_S A s.heap H1 locs → W p l e R s m args below meth c H1 locs (cells + 1) (slots + N') Q (F0 m (pc + 2) ls (.ref q :: rest))) : W p l e R s m args below meth c H locs cells slots Q (F0 m pc ls (.int n :: rest)) := by
  obtain ⟨⟨hx, hb, -, hown, hts⟩, hsub, hK, hA, -⟩ := hX
  refine va_newa (atype := .long) (ty := .long) (a0 := (N', .inr (.inl (fun _ => 0)))) hx hb (hts _ (hsub _ harr)) rfl hK hP hD hS hA (fun cA => rfl) hn hN hbytes hcells hslots hdg (fun q cA H1 hK1 hP hD hS => ?_)
  have e1 : s.vm.findClass ("[" ++ FieldType.long.toString) = some cA := (hK1.2 3 (cA, .long) rfl).2
  have e2 : s.vm.findClass ("[" ++ FieldType.long.toString) = some cJ := (hK.2 1 (cJ, .long) rfl).2
  cases e1.symm.trans e2
  exact kk q H1 hP hD hS
theorem knewq {cI cJ cR : ClassId} {n : Int32} {N' index : Nat} (hX : kX l D (kT cI cJ cR) A p m c cc nL s args Ts own) (hP : va_P D vwCl ws H) (hD : va_D A ws) (hS : va_S A s.heap H locs) (hcl : Cond.classLink own index "EnvelopeCard$Round" ∈ lw_ok) (hn : ¬ n < 0) (hN : n.toNatClampNeg = N') (hbytes : N' * 4 ≤ 536870912) (hcells : cells + 1 ≤ R.cells) (hslots : slots + N' ≤ R.slots) (hdg : decode cc pc = .ok (.anewarray index, 3))
    (kk : ∀ (q : Nat) (H1 : Heap), va_P D vwCl (ws ++ [(q, .inl (cR, N', .inr (.inr (.inr (.inr (fun _ => none))))))]) H1 → va_D A (ws ++ [(q, .inl (cR, N', .inr (.inr (.inr (.inr (fun _ => none))))))]) → va_S A s.heap H1 locs → W p l e R s m args below meth c H1 locs (cells + 1) (slots + N') Q (F0 m (pc + 3) ls (.ref q :: rest))) : W p l e R s m args below meth c H locs cells slots Q (F0 m pc ls (.int n :: rest)) := by
  obtain ⟨⟨hx, hb, -, hown, hts⟩, hsub, hK, hA, hSt⟩ := hX
  refine va_newq hx hb hown (hts _ (hsub _ hcl)) hSt.2.2.1 hK hP hD hS hA hn hN hbytes hcells hslots hdg (fun q cA H1 hK1 hP hD hS => ?_)
  obtain ⟨_, _, -, -, -, e1⟩ := (hK1.2 3 (cA, .object "EnvelopeCard$Round") rfl).2
  obtain ⟨_, _, -, -, -, e2⟩ := (hK.2 2 (cR, .object "EnvelopeCard$Round") rfl).2
  cases e1.symm.trans e2
  exact kk q H1 hP hD hS
variable {y : MethodName} {ycc : ByteArray} {yn idx k mc ms : Nat} {rm : Room} {As st0 : List Value} {wr : va_W} {WS : va_W → Prop} {b : Nat} {e0 : va_E}
/-- a constructor's call: the new cell is the last; behind it what the constructor made -/
theorem kIv (hX : kX l D T A p m c cc nL s args Ts own) (hM : kMv l D T y ycc yn none rm (.ref b :: As) [(b, e0)] mc ms WS) (hcal : kCalI y ycc yn k) (hlink : Cond.methodLink own idx y ∈ lw_ok) (hR : rm.frames + 1 ≤ R.frames ∧ 8 + (yn + 11) + rm.locals ≤ R.locals) (hmc : rm.cells = mc) (hms : rm.slots = ms)
    (hP : va_P D vwCl (wr ++ [(b, e0)]) H) (hD : va_D A (wr ++ [(b, e0)])) (hS : va_S A s.heap H locs) (hargs : As.length = k) (hst : st0 = As.reverse ++ .ref b :: rest) (hcat : (rest.map fun v => v.category).sum ≤ 8) (hsz : ls.size = nL) (hcs : cells + mc ≤ R.cells ∧ slots + ms ≤ R.slots) (hdg : decode cc pc = .ok (.invokespecial idx, 3))
    (kk : ∀ (H1 : Heap) (locs1 : List Loc) (w1 : va_W), WS w1 → va_P D vwCl (wr ++ w1) H1 → va_D A (wr ++ w1) → va_S A s.heap H1 locs1 → W p l e R s m args below meth c H1 locs1 (cells + mc) (slots + ms) Q (F0 m (pc + 3) ls rest)) : W p l e R s m args below meth c H locs cells slots Q (F0 m pc ls st0) := by
  have hC : [wr.length].map (fun i => (wr ++ [(b, e0)])[i]?) = [(b, e0)].map some := by simp
  have hF := va_free (wc := [(b, e0)]) hD hS hX.2.2.2.1 [wr.length] hC
  subst hmc; subst hms
  obtain ⟨c1, c3, c4, c5, c6⟩ := hcal
  refine va_callv (va_runI (As := As) (rest := rest) hX.1 (hM H.size) ⟨kcwB hX.1.2.2.2.2 hX.2.1 c3 c4 c6 hlink hR, c5, hX.1.2.2.2.2 _ (hX.2.1 _ c1)⟩ ⟨kBlind, fun U hU hW => kPre hX hP hD hS hC rfl U hU hW _⟩ rfl hargs hsz hst (lv_room hcat) hdg hcs) hS (fun q _ h => hF q h) hF (fun u t H1 locs1 ht hvm hw hB hz1 hk1 hS1 => ?_)
  obtain ⟨w1, hw1, hP1, -, hD1⟩ := hB
  rw [ht] at hP1
  obtain ⟨g1, g2⟩ := kjoinN hP hD hk1 hF hP1 hD1
  exact kk H1 locs1 w1 hw1 g1 g2 hS1
theorem kIvN (hX : kX l D T A p m c cc nL s args Ts own) (hM : kMv l D T y ycc yn none rm (.ref b :: As) [(b, e0)] mc ms WS) (hcal : kCalI y ycc yn k) (hlink : (own, idx, y) ∈ kNest) (hR : rm.frames + 1 ≤ R.frames ∧ 8 + (yn + 11) + rm.locals ≤ R.locals) (hmc : rm.cells = mc) (hms : rm.slots = ms)
    (hP : va_P D vwCl (wr ++ [(b, e0)]) H) (hD : va_D A (wr ++ [(b, e0)])) (hS : va_S A s.heap H locs) (hargs : As.length = k) (hst : st0 = As.reverse ++ .ref b :: rest) (hcat : (rest.map fun v => v.category).sum ≤ 8) (hsz : ls.size = nL) (hcs : cells + mc ≤ R.cells ∧ slots + ms ≤ R.slots) (hdg : decode cc pc = .ok (.invokespecial idx, 3))
    (kk : ∀ (H1 : Heap) (locs1 : List Loc) (w1 : va_W), WS w1 → va_P D vwCl (wr ++ w1) H1 → va_D A (wr ++ w1) → va_S A s.heap H1 locs1 → W p l e R s m args below meth c H1 locs1 (cells + mc) (slots + ms) Q (F0 m (pc + 3) ls rest)) : W p l e R s m args below meth c H locs cells slots Q (F0 m pc ls st0) := by
  have hC : [wr.length].map (fun i => (wr ++ [(b, e0)])[i]?) = [(b, e0)].map some := by simp
  have hF := va_free (wc := [(b, e0)]) hD hS hX.2.2.2.1 [wr.length] hC
  obtain ⟨c1, c3, c4, c5, c6⟩ := hcal
  refine va_callv (va_runIN (As := As) (rest := rest) hX.1 (hM H.size) ⟨va_cnB (host := "EnvelopeCard") k hX.1.2.2.2.2 (kGood hX.2.1 c4) rfl hmc hms (hX.2.2.2.2.2.2.2 _ hlink) (hX.1.2.2.2.2 _ (hX.2.1 _ c3)) c6 hR, c5, hX.1.2.2.2.2 _ (hX.2.1 _ c1)⟩ ⟨kBlind, fun U hU hW => kPre hX hP hD hS hC rfl U hU hW _⟩ rfl hargs hsz hst (lv_room hcat) hdg hcs) hS (fun q _ h => hF q h) hF (fun u t H1 locs1 ht hvm hw hB hz1 hk1 hS1 => ?_)
  obtain ⟨w1, hw1, hP1, -, hD1⟩ := hB
  rw [ht] at hP1
  obtain ⟨g1, g2⟩ := kjoinN hP hD hk1 hF hP1 hD1
  exact kk H1 locs1 w1 hw1 g1 g2 hS1
end KN
theorem kInN {l : Launch} {D : va_G} {T : List (ClassId × FieldType)} {y : MethodName} {cc : ByteArray} {n : Nat} {rm : Room} {av : List Value} {w0 : va_W} {mc ms : Nat} {WS : va_W → Prop} (hy : plainName y.cls = true) (hi : y.name = "<init>") (hn : (lg_sl av).length ≤ n)
    (body : ∀ (p : Program) (e : Env) (s : State) (m : MethodId) (args : Array Value) (below : List Frame) (meth : Method) (c : Code) (A : Nat → Prop) (ls : Array Slot) (Q : State → Prop),
      kX l D T A p m c cc n s args (Cond.code y cc n none :: lw_ok) y.cls → meth.name = "<init>" →
      (∀ (H : Heap) (locs : List Loc) (w : va_W) (pc : Nat) (ls : Array Slot) (cells slots : Nat), cells ≤ mc → slots ≤ ms → WS w → va_P D vwCl w H → va_D A w → va_S A s.heap H locs → decode cc pc = .ok (.return_, 1) → W p l e rm s m args below meth c H locs cells slots Q (F0 m pc ls [])) →
      va_P D vwCl w0 s.heap → va_D A w0 → va_S A s.heap s.heap [] → lv_has ls n (lv_args 0 av) → W p l e rm s m args below meth c s.heap [] 0 0 Q (F0 m 0 ls [])) :
    kMv l D T y cc n none rm av w0 mc ms WS := by
  intro sz
  refine kIn (Qc := fun A => va_Qv (fun (_ : Unit) => True) (kB D T WS A) A) hy hn ?_
  intro p e s m args below meth c A ls hX hr hlocks hnm hP hD hS hl
  refine body p e s m args below meth c A ls _ hX (hnm.trans hi) ?_ hP hD hS hl
  intro H locs w pc ls cells slots h1 h2 hw hP hD hS hdg
  exact W.widen h1 h2 (kRv hX hr hlocks hw hP hD hS hdg)
def kIter {α : Type} (a : α) (f : α → α) : Nat → α
  | 0 => a
  | n + 1 => f (kIter a f n)
theorem kn3 {x k : Int32} (h : ¬ x < k) (hk : 0 ≤ k) : ¬ x < 0 := by
  rw [Int32.lt_iff_toInt_lt] at h ⊢
  rw [Int32.le_iff_toInt_le] at hk
  have e : (0 : Int32).toInt = 0 := rfl
  rw [e] at hk ⊢
  omega
