/-! more of the base: worlds of two parts, a method that reads the script -/
theorem kcomm_idx {α : Type} {a b : List α} {k : Nat} {q : α} (h : (b ++ a)[k]? = some q) : ∃ i : Nat, (a ++ b)[i]? = some q ∧ (k < b.length → i = a.length + k) ∧ (b.length ≤ k → i = k - b.length ∧ k - b.length < a.length) := by
  rcases Nat.lt_or_ge k b.length with hk | hk
  · rw [List.getElem?_append_left hk] at h
    refine ⟨a.length + k, ?_, fun _ => rfl, fun q => absurd hk (Nat.not_lt.mpr q)⟩
    rw [List.getElem?_append_right (by omega), Nat.add_sub_cancel_left]
    exact h
  · rw [List.getElem?_append_right hk] at h
    have hlt := (List.getElem?_eq_some_iff.mp h).1
    refine ⟨k - b.length, ?_, fun q => absurd q (Nat.not_lt.mpr hk), fun _ => ⟨rfl, hlt⟩⟩
    rw [List.getElem?_append_left hlt]
    exact h
theorem kcommP {D : va_G} {cl : List vw_C} {a b : va_W} {H : Heap} (h : va_P D cl (a ++ b) H) : va_P D cl (b ++ a) H := by
  intro k q hk
  obtain ⟨i, hi, -, -⟩ := kcomm_idx hk
  exact h i q hi
theorem kcommD {A : Nat → Prop} {a b : va_W} (h : va_D A (a ++ b)) : va_D A (b ++ a) := by
  refine ⟨fun i j p q hp hq hpq => ?_, fun k q hk => ?_⟩
  · obtain ⟨i', h1, g1, g2⟩ := kcomm_idx hp
    obtain ⟨j', h2, f1, f2⟩ := kcomm_idx hq
    have e := h.1 i' j' p q h1 h2 hpq
    rcases Nat.lt_or_ge i b.length with hi | hi <;> rcases Nat.lt_or_ge j b.length with hj | hj
    · have := g1 hi; have := f1 hj; omega
    · have := g1 hi; have := f2 hj; omega
    · have := g2 hi; have := f1 hj; omega
    · have := g2 hi; have := f2 hj; omega
  · obtain ⟨i, hi, -, -⟩ := kcomm_idx hk
    exact h.2 i q hi
theorem kset_all : ∀ (ws w1 : va_W), w1.length = ws.length → kset ws (List.range ws.length) w1 = w1 := by
  intro ws w1 hl
  have hn : va_nd (List.range ws.length) = true := va_nd_of List.nodup_range
  apply List.ext_getElem?
  intro k
  cases hk : (kset ws (List.range ws.length) w1)[k]? with
  | none =>
    have h1 := List.getElem?_eq_none_iff.mp hk
    rw [kset_len] at h1
    rw [List.getElem?_eq_none_iff.mpr (by omega)]
  | some q =>
    rcases kset_get (List.range ws.length) w1 ws hn (by simpa using hl) k q hk with ⟨j, h1, h2⟩ | ⟨h1, h2⟩
    · obtain ⟨h3, h4⟩ := List.getElem?_eq_some_iff.mp h1
      rw [List.getElem_range] at h4
      subst h4
      exact h2.symm
    · exact absurd (List.mem_range.mpr (List.getElem?_eq_some_iff.mp h2).1) h1
theorem krange (ws : va_W) : (List.range ws.length).map (fun i => ws[i]?) = ws.map some := by
  apply List.ext_getElem
  · simp
  · intro i h1 h2
    simp only [List.length_map, List.length_range] at h1
    simp [h1]
/-- the script lies below, and stays -/
def kSc (A : Nat → Prop) (bs L : Nat) (xs : Nat → Int32) (s : State) : Prop := va_X bs L xs s s.heap ∧ bs < s.heap.size ∧ ¬ A bs
def kMs (l : Launch) (D : va_G) (T : List (ClassId × FieldType)) (bs L : Nat) (xs : Nat → Int32) (y : MethodName) (cc : ByteArray) (n : Nat) (ret : Option FieldType) (rm : Room) (av : List Value) (w0 : va_W) (r : Int32) (mc ms : Nat) (WS : va_W → Prop) : Prop :=
  ∀ sz : Nat, bs < sz → (∀ q ∈ w0, q.1 ≠ bs) → Met l y (Cond.code y cc n ret :: lw_ok) rm (fun a U => kPc D T av w0 sz a U ∧ va_X bs L xs U U.heap) (va_Qi (fun x (_ : Unit) => x = r) (kB D T WS (va_A w0 sz)) (va_A w0 sz)) mc ms (va_A w0 sz)
theorem kSc_of {bs L : Nat} {xs : Nat → Int32} {s : State} {w0 : va_W} (h : va_X bs L xs s s.heap) (hb : bs < s.heap.size) (hw : ∀ q ∈ w0, q.1 ≠ bs) : kSc (va_A w0 s.heap.size) bs L xs s := by
  refine ⟨h, hb, fun q => ?_⟩
  rcases q with ⟨k, e, hk⟩ | hk
  · exact hw _ (List.mem_of_getElem? hk) rfl
  · omega
theorem kInS {l : Launch} {D : va_G} {T : List (ClassId × FieldType)} {bs L : Nat} {xs : Nat → Int32} {y : MethodName} {cc : ByteArray} {n : Nat} {ret : Option FieldType} {rm : Room} {av : List Value} {w0 : va_W} {mc ms : Nat} {O : Type} {o : O} {Rf : O → Int32} {WS : O → va_W → Prop} (hret : ret = some .int ∨ ret = some .boolean) (hy : plainName y.cls = true) (hn : (lg_sl av).length ≤ n)
    (body : ∀ (p : Program) (e : Env) (s : State) (m : MethodId) (args : Array Value) (below : List Frame) (meth : Method) (c : Code) (A : Nat → Prop) (ls : Array Slot) (Q : State → Prop),
      kX l D T A p m c cc n s args (Cond.code y cc n ret :: lw_ok) y.cls → kSc A bs L xs s →
      (∀ (o' : O) (v : Int32) (H : Heap) (locs : List Loc) (cells slots : Nat) (w : va_W) (pc : Nat) (ls : Array Slot), cells ≤ mc → slots ≤ ms → o' = o → v = Rf o' → (ret = some .boolean → narrow .boolean (.int v) = .int v) → WS o' w → va_P D vwCl w H → va_D A w → va_S A s.heap H locs → decode cc pc = .ok (.ireturn, 1) → W p l e rm s m args below meth c H locs cells slots Q (F0 m pc ls [.int v])) →
      va_P D vwCl w0 s.heap → va_D A w0 → va_S A s.heap s.heap [] → lv_has ls n (lv_args 0 av) → W p l e rm s m args below meth c s.heap [] 0 0 Q (F0 m 0 ls [])) :
    kMs l D T bs L xs y cc n ret rm av w0 (Rf o) mc ms (WS o) := by
  intro sz hbsz hbw
  refine Met.ofW (cc := cc) (maxL := n) (ret := ret) hy rfl ?_
  intro p e s m args below meth c s₁ B hml hv
  obtain ⟨⟨rfl, hsz, hP, hK, hD0, hSt⟩, hsx⟩ := hv
  subst hsz
  have hl := lv_entry av hn
  rw [lg_entry_eq]
  refine body p e s m av.toArray below meth c (va_A w0 s.heap.size) _ _ ⟨⟨B.exec, B.bytes, hml, findClass_of_methodNamed B.named, atoms_spec B.pre⟩, fun w hw => List.mem_cons_of_mem _ hw, hK, fun q hq => Or.inr hq, hSt⟩ (kSc_of hsx hbsz hbw) ?_ hP (hD0.self) va_S.rf hl
  intro o' v H locs cells slots w pc ls h1 h2 ho hv hz hw hP hD hS hdg
  subst ho
  have hX : kX l D T (va_A w0 s.heap.size) p m c cc n s av.toArray (Cond.code y cc n ret :: lw_ok) y.cls := ⟨⟨B.exec, B.bytes, hml, findClass_of_methodNamed B.named, atoms_spec B.pre⟩, fun w hw => List.mem_cons_of_mem _ hw, hK, fun q hq => Or.inr hq, hSt⟩
  refine W.widen h1 h2 ?_
  rcases hret with q | q
  · subst q; exact kRi hX B.returns B.notSynchronized hv hw hP hD hS hdg
  · subst q; exact kRz hX B.returns B.notSynchronized (hz rfl) hv hw hP hD hS hdg
section KS
variable {p : Program} {l : Launch} {e : Env} {R : Room} {s : State} {m : MethodId} {args : Array Value} {below : List Frame} {meth : Method} {c : Code} {H : Heap} {locs : List Loc} {cells slots : Nat} {Q : State → Prop}
variable {D : va_G} {T : List (ClassId × FieldType)} {A : Nat → Prop} {cc : ByteArray} {nL pc : Nat} {Ts : List Cond} {own : String} {ls : Array Slot} {rest : List Value} {ws : va_W} {a : Nat}
variable {y : MethodName} {ycc : ByteArray} {yn idx k : Nat} {ret : Option FieldType} {rm : Room} {As st0 : List Value} {wc : va_W} {WS : va_W → Prop} {b : Nat}
theorem kcwB2 {mc ms : Nat} (hX : kX l D T A p m c cc nL s args Ts own) (hcal : kCalS y ycc yn ret k) (hlink : Cond.methodLink own idx y ∈ lw_ok) (hR : rm.frames + 1 ≤ R.frames ∧ 8 + (yn + 11) + rm.locals ≤ R.locals) (hmc : rm.cells = mc) (hms : rm.slots = ms) : CallB R s args own idx y ycc yn ret (Cond.code y ycc yn ret :: lw_ok) rm mc ms k ∧ (Cond.static y).before args s = true := kcwS hX hcal hlink hR hmc hms
theorem kSs {bs L mc ms : Nat} {xs : Nat → Int32} {r : Int32} (hX : kX l D T A p m c cc nL s args Ts own) (hsc : kSc A bs L xs s) (hM : kMs l D T bs L xs y ycc yn ret rm As wc r mc ms WS) (hcal : kCalS y ycc yn ret k) (hlink : Cond.methodLink own idx y ∈ lw_ok) (hR : rm.frames + 1 ≤ R.frames ∧ 8 + (yn + 11) + rm.locals ≤ R.locals) (hmc : rm.cells = mc ∧ rm.slots = ms)
    (hP : va_P D vwCl ws H) (hD : va_D A ws) (hS : va_S A s.heap H locs) (isC : List Nat) (hC : isC.map (fun i => ws[i]?) = wc.map some) (hn : va_nd isC = true) (hlen : ∀ w, WS w → w.length = isC.length) (hargs : As.length = k) (hst : st0 = As.reverse ++ rest) (hcat : (rest.map fun v => v.category).sum ≤ 8) (hsz : ls.size = nL) (hcs : cells + mc ≤ R.cells ∧ slots + ms ≤ R.slots) (hdg : decode cc pc = .ok (.invokestatic idx, 3))
    (kk : ∀ (H1 : Heap) (locs1 : List Loc) (w1 : va_W), WS w1 → va_P D vwCl (kset ws isC w1) H1 → va_D A (kset ws isC w1) → va_S A s.heap H1 locs1 → W p l e R s m args below meth c H1 locs1 (cells + mc) (slots + ms) Q (F0 m (pc + 3) ls (.int r :: rest))) : W p l e R s m args below meth c H locs cells slots Q (F0 m pc ls st0) := by
  have hF := va_free hD hS hX.2.2.2.1 isC hC
  obtain ⟨hsx, hbl, hbA⟩ := hsc
  have hbw : ∀ q ∈ wc, q.1 ≠ bs := by
    intro q hq e
    apply hbA
    obtain ⟨j, hj⟩ := List.mem_iff_getElem?.mp hq
    exact hF bs (Or.inl ⟨j, q.2, by rw [hj, ← e]⟩)
  have hbH : bs < H.size := Nat.lt_of_lt_of_le hbl hS.1
  refine va_calli (va_runS (As := As) (rest := rest) hX.1 (hM H.size hbH hbw) (kcwS hX hcal hlink hR hmc.1 hmc.2) ⟨?_, fun U hU hW => ⟨kPre hX hP hD hS hC hn U hU hW _, ?_⟩⟩ rfl hargs hsz hst (lv_room hcat) hdg ⟨hcs.1, hcs.2⟩) hS (fun q _ h => hF q h) hF (fun x u t H1 locs1 ht hvm hw hB hz1 hk1 hS1 => ?_)
  · intro a U g mk q
    exact ⟨kBlind a U g mk q.1, va_X.moved (u := U) (U := U.calling g mk a) (Vm.Alike.refl U.vm) q.2⟩
  · rw [hU]
    exact (hsx.moved hW.alike).kept (hS.2.1 bs hbl hbA)
  obtain ⟨w1, hw1, hP1, -, hD1⟩ := hB
  subst hw
  rw [ht] at hP1
  obtain ⟨g1, g2⟩ := kPost hX hP hD hS hC hn (hlen w1 hw1) hk1 hP1 hD1
  exact kk H1 locs1 w1 hw1 g1 g2 hS1
end KS
