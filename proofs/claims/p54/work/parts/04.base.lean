/-! the words of a pure step: a test that must hold, a value that is named, a call -/
def gd {α : Type} (c : Prop) [Decidable c] (x : Option α) : Option α := if c then x else none
theorem gd_s {α : Type} {c : Prop} [Decidable c] {x : Option α} {y : α} (h : gd c x = some y) : c ∧ x = some y := by
  unfold gd at h
  split at h
  · exact ⟨by assumption, h⟩
  · cases h
theorem gd_t {α : Type} {c : Prop} [Decidable c] {x : Option α} (h : c) : gd c x = x := if_pos h
def bn {α β : Type} (x : Option α) (f : α → Option β) : Option β := match x with
  | some z => f z
  | none => none
theorem bn_s {α β : Type} {x : Option α} {f : α → Option β} {y : β} (h : bn x f = some y) : ∃ z, x = some z ∧ f z = some y := by
  cases x with
  | none => cases h
  | some z => exact ⟨z, rfl, h⟩
theorem bn_t {α β : Type} (z : α) (f : α → Option β) : bn (some z) f = f z := rfl
def nm {α β : Type} (a : α) (f : α → β) : β := f a
theorem nm_t {α β : Type} (a : α) (f : α → β) : nm a f = f a := rfl
theorem nm_s {α β : Type} {a x : α} {f : α → β} {y : β} (e : x = a) (h : nm a f = y) : f x = y := by rw [e]; exact h
theorem ip {α : Type} {c : Prop} [Decidable c] {a b y : α} (h : c) (e : (if c then a else b) = y) : a = y := by rw [if_pos h] at e; exact e
theorem iq {α : Type} {c : Prop} [Decidable c] {a b y : α} (h : ¬ c) (e : (if c then a else b) = y) : b = y := by rw [if_neg h] at e; exact e
/-! the kinds of arrays, the constants' table -/
abbrev kT (cI cJ cR : ClassId) : List (ClassId × FieldType) := [(cI, .int), (cJ, .long), (cR, .object "EnvelopeCard$Round")]
def lettersF : Nat → Int32 := fun j => match j with
  | 0 => 104
  | 1 => 113
  | 2 => 112
  | 3 => 97
  | 4 => 99
  | _ => 101
def kNest : List (String × Nat × MethodName) := [(RX11, 23, yX1_init), (RX11, 33, yX6_init), (RX11, 44, yX10_init), (RX11, 51, yX9_init), (RX11, 58, yX5_init), (RX11, 68, yX0_init), (RX11, 75, yX2_init), (RX2, 11, yX9_init), (RX2, 20, yX8_init), (RX11, 82, yX3_init), (RX11, 89, yX4_init)]
def kNs (U : State) : Prop := va_Nw (.fieldLinkNest RX1 75 "EnvelopeCard" "LETTERS" "[I" "EnvelopeCard") U ∧ va_AO "EnvelopeCard$Round" U ∧ ∀ q ∈ kNest, va_Nw (.methodLinkNest q.1 q.2.1 q.2.2 "EnvelopeCard") U
theorem kNs.warm {s U : State} (hW : s.WarmedH U.vm) (h : kNs s) : kNs U := ⟨h.1.warmF hW, h.2.1.moved hW.alike, fun q hq => (h.2.2 q hq).warmM hW⟩
theorem kNs.same {s U : State} (e : s.vm = U.vm) (h : kNs s) : kNs U := ⟨h.1.same rfl e, h.2.1.moved (e ▸ Vm.Alike.refl s.vm), fun q hq => (h.2.2 q hq).same rfl e⟩
def kSt (A : Nat → Prop) (U : State) (H : Heap) : Prop := (∃ t : Nat, va_Z "EnvelopeCard" "LETTERS" "[I" (.ref t) A U H ∧ va_T .int t 6 (fun j => .int (lettersF j)) A U H) ∧ kNs U
theorem kSt.sub {A B : Nat → Prop} {u U : State} {H H1 : Heap} (h : kSt A u H) (hvm : u.vm.Alike U.vm) (hns : kNs U) (hq : ∀ a : Nat, a < H.size → ¬ A a → H1[a]? = H[a]?) (hAB : ∀ q, B q → A q) : kSt B U H1 := by
  obtain ⟨⟨t, h1, h2⟩, -⟩ := h
  exact ⟨⟨t, ((h1.moved hvm).kept hq).narrow hAB, ((h2.moved hvm).kept hq).narrow hAB⟩, hns⟩
def kR (a b c : Nat) : Nat → Option Nat := fun j => if j = 0 then some a else if j = 1 then some b else if j = 2 then some c else none
def kSel (k : Int32) (a b c : Nat) : Option Nat := if k = 0 then some a else if k = 1 then some b else if k = 2 then some c else none
theorem kSel_0 {k : Int32} {a b c : Nat} (h : k = 0) : va_rf (kSel k a b c) = .ref a := by simp [kSel, h, va_rf]
theorem kSel_1 {k : Int32} {a b c : Nat} (h : k = 1) : va_rf (kSel k a b c) = .ref b := by simp [kSel, h, va_rf]
theorem kSel_2 {k : Int32} {a b c : Nat} (h : k = 2) : va_rf (kSel k a b c) = .ref c := by simp [kSel, h, va_rf]
theorem kSel_none {k : Int32} {a b c : Nat} (h0 : ¬ k = 0) (h1 : ¬ k = 1) (h2 : ¬ k = 2) : va_rf (kSel k a b c) = .null := by simp [kSel, h0, h1, h2, va_rf]
/-! ranges -/
def inb (i : Int32) (n : Nat) : Bool := decide (0 ≤ i.toInt ∧ i.toInt < n)
theorem inb_in {i : Int32} {n : Nat} (h : inb i n = true) : vp_in i n := vp_in_iff.mpr (of_decide_eq_true h)
theorem vpd {i : Int32} {n : Nat} (h : decide (i < 0 ∨ n ≤ i.toNatClampNeg) = false) : vp_in i n := of_decide_eq_false h
theorem kn1 {x : Int32} (h : 0 ≤ x) : ¬ x < 0 := Int32.not_lt.mpr h
theorem kn2 {x y : Int32} (h : x < y) : ¬ y ≤ x := Int32.not_le.mpr h
theorem vpi {i : Int32} {n : Nat} (hn : n < 2147483648) (h0 : ¬ i < 0) (h1 : ¬ Int32.ofNat n ≤ i) : vp_in i n := by
  rw [vp_in_iff]
  have a := Int32.not_lt.mp h0
  have b := Int32.not_le.mp h1
  rw [Int32.le_iff_toInt_le] at a
  rw [Int32.lt_iff_toInt_lt] at b
  have e : (Int32.ofNat n).toInt = (n : Int) := Int32.toInt_ofNat_of_lt (by omega)
  rw [e] at b
  exact ⟨a, b⟩
theorem zb_n {v : Int32} (h : v = 0 ∨ v = 1) : narrow .boolean (.int v) = .int v := by rcases h with h | h <;> rw [h] <;> rfl
theorem zb_f {v : Int32} (h : v = 0 ∨ v = 1) : fits .boolean (.int v) = true := by rcases h with h | h <;> rw [h] <;> rfl
/-! the tables' words -/
theorem lw_goodw {w : Cond} (h : w ∈ lw_ok) : (w.onTables && w.keeps) = true ∨ ∃ ty, w = .arrayClass ty := good_of_word (List.mem_filter.mp h).2
def kCal (C : String) (y : MethodName) (cc : ByteArray) (n : Nat) (ret : Option FieldType) (k : Nat) : Prop :=
  Cond.instanceMethod y ∈ lw_ok ∧ Cond.selects C y y ∈ lw_ok ∧ Cond.initialized C ∈ lw_ok ∧ Cond.code y cc n ret ∈ lw_ok ∧ y.cls = C ∧ y.cls ≠ "java/lang/invoke/MethodHandle" ∧ y.cls ≠ "java/lang/invoke/VarHandle" ∧ (parseMethodDescriptor y.desc).map (fun d => d.parameters.length) = some k
def kCalS (y : MethodName) (cc : ByteArray) (n : Nat) (ret : Option FieldType) (k : Nat) : Prop :=
  Cond.static y ∈ lw_ok ∧ Cond.initialized y.cls ∈ lw_ok ∧ Cond.code y cc n ret ∈ lw_ok ∧ y.cls ≠ "java/lang/invoke/MethodHandle" ∧ y.cls ≠ "java/lang/invoke/VarHandle" ∧ (parseMethodDescriptor y.desc).map (fun d => d.parameters.length) = some k
def kCalI (y : MethodName) (cc : ByteArray) (n : Nat) (k : Nat) : Prop :=
  Cond.instanceMethod y ∈ lw_ok ∧ Cond.initialized y.cls ∈ lw_ok ∧ Cond.code y cc n none ∈ lw_ok ∧ y.name = "<init>" ∧ y.cls ≠ "java/lang/invoke/MethodHandle" ∧ y.cls ≠ "java/lang/invoke/VarHandle" ∧ (parseMethodDescriptor y.desc).map (fun d => d.parameters.length) = some k
theorem kGood {Ts : List Cond} {y : MethodName} {cc : ByteArray} {n : Nat} {ret : Option FieldType} (hsub : ∀ w ∈ lw_ok, w ∈ Ts) (h5 : Cond.code y cc n ret ∈ lw_ok) : GoodIn Ts (Cond.code y cc n ret :: lw_ok) := fun w hw => by
  rcases List.mem_cons.mp hw with h | h
  · rw [h]; exact ⟨hsub _ h5, lw_goodw h5⟩
  · exact ⟨hsub _ h, lw_goodw h⟩
theorem kcwB {R : Room} {s : State} {args : Array Value} {Ts : List Cond} {own : String} {idx : Nat} {y : MethodName} {cc : ByteArray} {n k : Nat} {ret : Option FieldType} {rm : Room} (ht : ∀ w ∈ Ts, w.before args s = true) (hsub : ∀ w ∈ lw_ok, w ∈ Ts) (hini : Cond.initialized y.cls ∈ lw_ok) (h5 : Cond.code y cc n ret ∈ lw_ok)
    (hd : y.cls ≠ "java/lang/invoke/MethodHandle" ∧ y.cls ≠ "java/lang/invoke/VarHandle" ∧ (parseMethodDescriptor y.desc).map (fun d => d.parameters.length) = some k) (hl : Cond.methodLink own idx y ∈ lw_ok) (hR : rm.frames + 1 ≤ R.frames ∧ 8 + (n + 11) + rm.locals ≤ R.locals) :
    CallB R s args own idx y cc n ret (Cond.code y cc n ret :: lw_ok) rm rm.cells rm.slots k :=
  callB_of k ht (kGood hsub h5) rfl rfl rfl (ht _ (hsub _ hini)) (ht _ (hsub _ hl)) hd hR
/-! worlds: cells put in their places -/
def kset : va_W → List Nat → va_W → va_W
  | ws, i :: is, e :: es => kset (ws.set i e) is es
  | ws, _, _ => ws
theorem kset_len : ∀ (is : List Nat) (es : va_W) (ws : va_W), (kset ws is es).length = ws.length
  | [], _, _ => by simp [kset]
  | _ :: _, [], _ => by simp [kset]
  | i :: is, e :: es, ws => by rw [kset, kset_len is es]; simp
theorem kset_get : ∀ (is : List Nat) (es ws : va_W), va_nd is = true → es.length = is.length → ∀ (k : Nat) (q : Nat × va_E), (kset ws is es)[k]? = some q → (∃ j : Nat, is[j]? = some k ∧ es[j]? = some q) ∨ (k ∉ is ∧ ws[k]? = some q)
  | [], es, ws, _, _, k, q, h => by
    have h' : ws[k]? = some q := by cases es <;> simpa [kset] using h
    exact Or.inr ⟨by simp, h'⟩
  | i :: is, [], ws, _, hl, k, q, h => by simp at hl
  | i :: is, e :: es, ws, hn, hl, k, q, h => by
    simp only [va_nd, Bool.and_eq_true, decide_eq_true_eq] at hn
    rw [kset] at h
    rcases kset_get is es (ws.set i e) hn.2 (by simpa using hl) k q h with ⟨j, h1, h2⟩ | ⟨h1, h2⟩
    · exact Or.inl ⟨j + 1, by simpa using h1, by simpa using h2⟩
    · by_cases hk : k = i
      · subst hk
        have hlt : k < ws.length := by
          have := (List.getElem?_eq_some_iff.mp h2).1
          simpa using this
        rw [List.getElem?_set_self hlt] at h2
        exact Or.inl ⟨0, by simp, by simpa using h2⟩
      · rw [List.getElem?_set_ne (Ne.symm hk)] at h2
        exact Or.inr ⟨by simp [hk, h1], h2⟩
theorem kjoin {A0 : Nat → Prop} {D : va_G} {cl : List vw_C} {ws wc w1 : va_W} {H H1 : Heap} (hP : va_P D cl ws H) (hD : va_D A0 ws) (isC : List Nat) (hC : isC.map (fun i => ws[i]?) = wc.map some) (hn : va_nd isC = true) (hl : w1.length = isC.length)
    (hk : ∀ q : Nat, q < H.size → ¬ va_A wc H.size q → H1[q]? = H[q]?) (hF : ∀ q, va_A wc H.size q → A0 q) (hP1 : va_P D cl w1 H1) (hD1 : va_D (va_A wc H.size) w1) : va_P D cl (kset ws isC w1) H1 ∧ va_D A0 (kset ws isC w1) := by
  have apart : ∀ (k : Nat) (q : Nat × va_E), k ∉ isC → ws[k]? = some q → q.1 < H.size ∧ ¬ va_A wc H.size q.1 := by
    intro k q hkn hq
    have hlt := (hP k q hq).lt
    refine ⟨hlt, fun h => ?_⟩
    rcases h with ⟨k2, e, h⟩ | h
    · have h1 : (isC.map (fun i => ws[i]?))[k2]? = some (some (q.1, e)) := by rw [hC, List.getElem?_map, h]; rfl
      rw [List.getElem?_map] at h1
      cases hi : isC[k2]? with
      | none => rw [hi] at h1; cases h1
      | some i =>
        rw [hi] at h1
        have h2 : ws[i]? = some (q.1, e) := Option.some.inj h1
        have hij := hD.1 k i q (q.1, e) hq h2 rfl
        subst hij
        exact hkn (List.mem_of_getElem? hi)
    · omega
  have key := kset_get isC w1 ws hn hl
  refine ⟨fun k q hq => ?_, fun i j x y hx hy hxy => ?_, fun k q hq => ?_⟩
  · rcases key k q hq with ⟨j, -, h2⟩ | ⟨h1, h2⟩
    · exact hP1 j q h2
    · obtain ⟨g1, g2⟩ := apart k q h1 h2
      exact (hP k q h2).kept (hk q.1 g1 g2)
  · rcases key i x hx with ⟨a, a1, a2⟩ | ⟨a1, a2⟩ <;> rcases key j y hy with ⟨b, b1, b2⟩ | ⟨b1, b2⟩
    · have hab := hD1.1 a b x y a2 b2 hxy
      subst hab
      rw [a1] at b1
      exact Option.some.inj b1
    · exact absurd (by rw [← hxy]; exact hD1.2 a x a2) (apart j y b1 b2).2
    · exact absurd (by rw [hxy]; exact hD1.2 b y b2) (apart i x a1 a2).2
    · exact hD.1 i j x y a2 b2 hxy
  · rcases key k q hq with ⟨j, -, h2⟩ | ⟨h1, h2⟩
    · exact hF _ (hD1.2 j q h2)
    · exact hD.2 k q h2
/-! contracts -/
def kPc (D : va_G) (T : List (ClassId × FieldType)) (av : List Value) (ws : va_W) (sz : Nat) : Array Value → State → Prop := va_Pc av (fun U => U.heap.size = sz ∧ va_P D vwCl ws U.heap ∧ va_K D vwCl T U ∧ va_D (fun _ => True) ws ∧ kSt (va_A ws sz) U U.heap)
def kB (D : va_G) (T : List (ClassId × FieldType)) (WS : va_W → Prop) (A : Nat → Prop) : Unit → State → Prop := fun _ t => ∃ w, WS w ∧ va_P D vwCl w t.heap ∧ va_K D vwCl T t ∧ va_D A w
def kMi (l : Launch) (D : va_G) (T : List (ClassId × FieldType)) (y : MethodName) (cc : ByteArray) (n : Nat) (ret : Option FieldType) (rm : Room) (av : List Value) (w0 : va_W) (r : Int32) (WS : va_W → Prop) : Prop :=
  ∀ sz : Nat, Met l y (Cond.code y cc n ret :: lw_ok) rm (kPc D T av w0 sz) (va_Qi (fun x (_ : Unit) => x = r) (kB D T WS (va_A w0 sz)) (va_A w0 sz)) 0 0 (va_A w0 sz)
def kMl (l : Launch) (D : va_G) (T : List (ClassId × FieldType)) (y : MethodName) (cc : ByteArray) (n : Nat) (ret : Option FieldType) (rm : Room) (av : List Value) (w0 : va_W) (r : Int64) (WS : va_W → Prop) : Prop :=
  ∀ sz : Nat, Met l y (Cond.code y cc n ret :: lw_ok) rm (kPc D T av w0 sz) (va_Ql (fun x (_ : Unit) => x = r) (kB D T WS (va_A w0 sz)) (va_A w0 sz)) 0 0 (va_A w0 sz)
def kMv (l : Launch) (D : va_G) (T : List (ClassId × FieldType)) (y : MethodName) (cc : ByteArray) (n : Nat) (ret : Option FieldType) (rm : Room) (av : List Value) (w0 : va_W) (mc ms : Nat) (WS : va_W → Prop) : Prop :=
  ∀ sz : Nat, Met l y (Cond.code y cc n ret :: lw_ok) rm (kPc D T av w0 sz) (va_Qv (fun (_ : Unit) => True) (kB D T WS (va_A w0 sz)) (va_A w0 sz)) mc ms (va_A w0 sz)
def kMq (l : Launch) (D : va_G) (T : List (ClassId × FieldType)) (y : MethodName) (cc : ByteArray) (n : Nat) (ret : Option FieldType) (rm : Room) (av : List Value) (w0 : va_W) (r : Option Nat) (WS : va_W → Prop) : Prop :=
  ∀ sz : Nat, Met l y (Cond.code y cc n ret :: lw_ok) rm (kPc D T av w0 sz) (va_Qq (fun x (_ : Unit) => x = r) (kB D T WS (va_A w0 sz)) (va_A w0 sz)) 0 0 (va_A w0 sz)
/-- what a walk has at hand -/
def kX (l : Launch) (D : va_G) (T : List (ClassId × FieldType)) (A : Nat → Prop) (p : Program) (m : MethodId) (c : Code) (cc : ByteArray) (nL : Nat) (s : State) (args : Array Value) (Ts : List Cond) (own : String) : Prop :=
  CallFix p m c cc nL s args Ts own ∧ (∀ w ∈ lw_ok, w ∈ Ts) ∧ va_K D vwCl T s ∧ (∀ q, s.heap.size ≤ q → A q) ∧ kSt A s s.heap
/-- from a contract to the walk of its body -/
theorem kIn {l : Launch} {D : va_G} {T : List (ClassId × FieldType)} {y : MethodName} {cc : ByteArray} {n : Nat} {ret : Option FieldType} {rm : Room} {av : List Value} {w0 : va_W} {mc ms : Nat} {sz : Nat} {Qc : (Nat → Prop) → Array Value → State → Outcome → State → Prop} (hy : plainName y.cls = true) (hn : (lg_sl av).length ≤ n)
    (body : ∀ (p : Program) (e : Env) (s : State) (m : MethodId) (args : Array Value) (below : List Frame) (meth : Method) (c : Code) (A : Nat → Prop) (ls : Array Slot),
      kX l D T A p m c cc n s args (Cond.code y cc n ret :: lw_ok) y.cls → meth.sig.returnType = ret → meth.locks = false → meth.name = y.name → va_P D vwCl w0 s.heap → va_D A w0 → va_S A s.heap s.heap [] → lv_has ls n (lv_args 0 av) →
      W p l e rm s m args below meth c s.heap [] 0 0 (MQ below (Qc A) args s mc ms A) (F0 m 0 ls [])) :
    Met l y (Cond.code y cc n ret :: lw_ok) rm (kPc D T av w0 sz) (Qc (va_A w0 sz)) mc ms (va_A w0 sz) := by
  refine Met.ofW (cc := cc) (maxL := n) (ret := ret) hy rfl ?_
  intro p e s m args below meth c s₁ B hml hv
  obtain ⟨rfl, hsz, hP, hK, hD0, hSt⟩ := hv
  subst hsz
  have hl := lv_entry av hn
  rw [lg_entry_eq]
  exact body p e s m av.toArray below meth c (va_A w0 s.heap.size) _ ⟨⟨B.exec, B.bytes, hml, findClass_of_methodNamed B.named, atoms_spec B.pre⟩, fun w hw => List.mem_cons_of_mem _ hw, hK, fun q hq => Or.inr hq, hSt⟩ B.returns B.notSynchronized (name_of_methodNamed B.named B.method).1 hP (hD0.self) va_S.rf hl
section KW
variable {p : Program} {l : Launch} {e : Env} {R : Room} {s : State} {m : MethodId} {args : Array Value} {below : List Frame} {meth : Method} {c : Code} {H : Heap} {locs : List Loc} {cells slots : Nat} {Q : State → Prop}
variable {D : va_G} {T : List (ClassId × FieldType)} {A : Nat → Prop} {cc : ByteArray} {nL pc : Nat} {Ts : List Cond} {own : String} {ls : Array Slot} {rest : List Value} {ws : va_W} {a : Nat}
/-! ends -/
theorem kRi {v r : Int32} {WS : va_W → Prop} (hX : kX l D T A p m c cc nL s args Ts own) (hr : meth.sig.returnType = some .int) (hlocks : meth.locks = false) (hv : v = r) (hws : WS ws) (hP : va_P D vwCl ws H) (hD : va_D A ws) (hS : va_S A s.heap H locs) (hdg : decode cc pc = .ok (.ireturn, 1)) :
    W p l e R s m args below meth c H locs cells slots (MQ below (va_Qi (fun x (_ : Unit) => x = r) (kB D T WS A) A) args s cells slots A) (F0 m pc ls [.int v]) := by
  obtain ⟨⟨hx, hb, -, -, -⟩, -, hK, -, -⟩ := hX
  exact W.iret (v := v) hx hb hr (fun t ht hW => ⟨⟨v, (), rfl, hv, ws, hws, by rw [ht]; exact hP, va_K.moved hW.alike hK, hD⟩, hS.F ht⟩) hS.2.2 hdg hlocks
theorem kRz {v r : Int32} {WS : va_W → Prop} (hX : kX l D T A p m c cc nL s args Ts own) (hr : meth.sig.returnType = some .boolean) (hlocks : meth.locks = false) (hn : narrow .boolean (.int v) = .int v) (hv : v = r) (hws : WS ws) (hP : va_P D vwCl ws H) (hD : va_D A ws) (hS : va_S A s.heap H locs) (hdg : decode cc pc = .ok (.ireturn, 1)) :
    W p l e R s m args below meth c H locs cells slots (MQ below (va_Qi (fun x (_ : Unit) => x = r) (kB D T WS A) A) args s cells slots A) (F0 m pc ls [.int v]) := by
  obtain ⟨⟨hx, hb, -, -, -⟩, -, hK, -, -⟩ := hX
  exact W.zret (v := v) hx hb hr hn (fun t ht hW => ⟨⟨v, (), rfl, hv, ws, hws, by rw [ht]; exact hP, va_K.moved hW.alike hK, hD⟩, hS.F ht⟩) hS.2.2 hdg hlocks
theorem kRl {v r : Int64} {WS : va_W → Prop} (hX : kX l D T A p m c cc nL s args Ts own) (hr : meth.sig.returnType = some .long) (hlocks : meth.locks = false) (hv : v = r) (hws : WS ws) (hP : va_P D vwCl ws H) (hD : va_D A ws) (hS : va_S A s.heap H locs) (hdg : decode cc pc = .ok (.lreturn, 1)) :
    W p l e R s m args below meth c H locs cells slots (MQ below (va_Ql (fun x (_ : Unit) => x = r) (kB D T WS A) A) args s cells slots A) (F0 m pc ls [.long v]) := by
  obtain ⟨⟨hx, hb, -, -, -⟩, -, hK, -, -⟩ := hX
  exact W.lret (v := v) hx hb hr (fun t ht hW => ⟨⟨v, (), rfl, hv, ws, hws, by rw [ht]; exact hP, va_K.moved hW.alike hK, hD⟩, hS.F ht⟩) hS.2.2 hdg hlocks
theorem kRv {WS : va_W → Prop} (hX : kX l D T A p m c cc nL s args Ts own) (hr : meth.sig.returnType = none) (hlocks : meth.locks = false) (hws : WS ws) (hP : va_P D vwCl ws H) (hD : va_D A ws) (hS : va_S A s.heap H locs) (hdg : decode cc pc = .ok (.return_, 1)) :
    W p l e R s m args below meth c H locs cells slots (MQ below (va_Qv (fun (_ : Unit) => True) (kB D T WS A) A) args s cells slots A) (F0 m pc ls []) := by
  obtain ⟨⟨hx, hb, -, -, -⟩, -, hK, -, -⟩ := hX
  exact W.vret hx hb hr (fun t ht hW => ⟨⟨(), rfl, trivial, ws, hws, by rw [ht]; exact hP, va_K.moved hW.alike hK, hD⟩, hS.F ht⟩) hS.2.2 hdg hlocks
theorem kRq {v r : Option Nat} {WS : va_W → Prop} {C : String} (hX : kX l D T A p m c cc nL s args Ts own) (hr : meth.sig.returnType = some (.object C)) (hlocks : meth.locks = false) (hv : v = r) (hws : WS ws) (hP : va_P D vwCl ws H) (hD : va_D A ws) (hS : va_S A s.heap H locs) (hdg : decode cc pc = .ok (.areturn, 1)) :
    W p l e R s m args below meth c H locs cells slots (MQ below (va_Qq (fun x (_ : Unit) => x = r) (kB D T WS A) A) args s cells slots A) (F0 m pc ls [va_rf v]) := by
  obtain ⟨⟨hx, hb, -, -, -⟩, -, hK, -, -⟩ := hX
  exact W.aret (v := va_rf v) hx hb hr (Or.inl ⟨_, rfl⟩) (by cases v with | none => exact Or.inl rfl | some a => exact Or.inr ⟨a, rfl⟩) (fun t ht hW => ⟨⟨v, (), rfl, hv, ws, hws, by rw [ht]; exact hP, va_K.moved hW.alike hK, hD⟩, hS.F ht⟩) hS.2.2 hdg hlocks
/-! fields -/
theorem kget {C ref nm ds : String} {fin : Bool} {Tf : u_T} {N ci index k q0 : Nat} {fs : List Value} {v : Value} (hX : kX l D T A p m c cc nL s args Ts own) (hP : va_P D vwCl ws H) (he : ws[q0]? = some (a, .inr (ci, fs))) (hc : vwCl[ci]? = some (C, Tf, N)) (hin : ∀ w ∈ u_ws C Tf N, w ∈ lw_ok) (hk : k < N) (hT : Tf k = (ref, nm, ds, fin)) (hlink : Cond.fieldLink own index ref nm ds ∈ lw_ok) (hv : fs[k]? = some v) (hdg : decode cc pc = .ok (.getfield index, 3))
    (kk : W p l e R s m args below meth c H locs cells slots Q (F0 m (pc + 3) ls (v :: rest))) : W p l e R s m args below meth c H locs cells slots Q (F0 m pc ls (.ref a :: rest)) := by
  obtain ⟨⟨hx, hb, -, hown, hts⟩, hsub, hK, -, -⟩ := hX
  refine va_get (D := D) (ref := ref) hx hb hts (fun w hw => hsub w (hin w hw)) hown hK hP q0 he hc k hk ?_ ?_ hv hdg kk
  · rw [hT]; exact hts _ (hsub _ hlink)
  · rw [hT]; exact fun _ h => h
theorem kput {C ref nm ds : String} {Tf : u_T} {N ci index k q0 : Nat} {fs : List Value} {v : Value} {ty0 : Nat → FieldType} (hX : kX l D T A p m c cc nL s args Ts own) (hP : va_P D vwCl ws H) (hD : va_D A ws) (hS : va_S A s.heap H locs) (he : ws[q0]? = some (a, .inr (ci, fs))) (hc : vwCl[ci]? = some (C, Tf, N)) (hin : ∀ w ∈ u_ws C Tf N, w ∈ lw_ok) (hty : ∀ k, k < N → parseFieldDescriptor (Tf k).2.2.1 = some (ty0 k)) (hnm : ∀ a, a < N → ∀ b, b < N → a ≠ b → (Tf a).2.1 ≠ (Tf b).2.1) (hk : k < N) (hT : Tf k = (ref, nm, ds, false)) (hlink : Cond.fieldLink own index ref nm ds ∈ lw_ok) (hn : narrow (ty0 k) v = v) (hfit : fits (ty0 k) v = true) (hl : k < fs.length) (hdg : decode cc pc = .ok (.putfield index, 3))
    (kk : ∀ (H1 : Heap) (locs1 : List Loc), va_P D vwCl (ws.set q0 (a, .inr (ci, fs.set k v))) H1 → va_D A (ws.set q0 (a, .inr (ci, fs.set k v))) → va_S A s.heap H1 locs1 → W p l e R s m args below meth c H1 locs1 cells slots Q (F0 m (pc + 3) ls rest)) : W p l e R s m args below meth c H locs cells slots Q (F0 m pc ls (v :: .ref a :: rest)) := by
  obtain ⟨⟨hx, hb, -, hown, hts⟩, hsub, hK, -, -⟩ := hX
  refine va_put (D := D) (ref := ref) hx hb hts (fun w hw => hsub w (hin w hw)) ty0 hty hnm hown hK hP hD hS q0 he hc k hk ?_ ?_ ?_ (hty k hk) hn hfit hl hdg kk
  · rw [hT]; exact hts _ (hsub _ hlink)
  · rw [hT]; exact fun _ h => h
  · rw [hT]
theorem kputF {C ref nm ds : String} {Tf : u_T} {N ci index k q0 : Nat} {fs : List Value} {v : Value} {ty0 : Nat → FieldType} (hX : kX l D T A p m c cc nL s args Ts own) (hin2 : meth.name = "<init>") (hdecl : ref = own) (hP : va_P D vwCl ws H) (hD : va_D A ws) (hS : va_S A s.heap H locs) (he : ws[q0]? = some (a, .inr (ci, fs))) (hc : vwCl[ci]? = some (C, Tf, N)) (hin : ∀ w ∈ u_ws C Tf N, w ∈ lw_ok) (hty : ∀ k, k < N → parseFieldDescriptor (Tf k).2.2.1 = some (ty0 k)) (hnm : ∀ a, a < N → ∀ b, b < N → a ≠ b → (Tf a).2.1 ≠ (Tf b).2.1) (hk : k < N) (hT : Tf k = (ref, nm, ds, true)) (hlink : Cond.fieldLink own index ref nm ds ∈ lw_ok) (hn : narrow (ty0 k) v = v) (hfit : fits (ty0 k) v = true) (hl : k < fs.length) (hdg : decode cc pc = .ok (.putfield index, 3))
    (kk : ∀ (H1 : Heap) (locs1 : List Loc), va_P D vwCl (ws.set q0 (a, .inr (ci, fs.set k v))) H1 → va_D A (ws.set q0 (a, .inr (ci, fs.set k v))) → va_S A s.heap H1 locs1 → W p l e R s m args below meth c H1 locs1 cells slots Q (F0 m (pc + 3) ls rest)) : W p l e R s m args below meth c H locs cells slots Q (F0 m pc ls (v :: .ref a :: rest)) := by
  obtain ⟨⟨hx, hb, -, hown, hts⟩, hsub, hK, -, -⟩ := hX
  refine va_putF (D := D) (ref := ref) hx hb hts (fun w hw => hsub w (hin w hw)) ty0 hty hnm hown hK hP hD hS q0 he hc k hk ?_ ?_ ?_ hin2 ?_ (hty k hk) hn hfit hl hdg kk
  · rw [hT]; exact hts _ (hsub _ hlink)
  · rw [hT]; exact fun _ h => h
  · rw [hT]
  · rw [hT]; exact hdecl
/-! arrays -/
theorem kiald {q0 n : Nat} {cA : ClassId} {f : Nat → Int32} {i : Int32} (hX : kX l D T A p m c cc nL s args Ts own) (hP : va_P D vwCl ws H) (ht : T[0]? = some (cA, .int)) (ha : ws[q0]? = some (a, .inl (cA, n, .inl f))) (hin : vp_in i n) (hdg : decode cc pc = .ok (.iaload, 1))
    (kk : W p l e R s m args below meth c H locs cells slots Q (F0 m (pc + 1) ls (.int (f i.toNatClampNeg) :: rest))) : W p l e R s m args below meth c H locs cells slots Q (F0 m pc ls (.int i :: .ref a :: rest)) :=
  va_iald hX.1.1 hX.1.2.1 hX.2.2.1 hP q0 0 ha ht hin hdg kk
theorem kiast {q0 n : Nat} {cA : ClassId} {f : Nat → Int32} {i x : Int32} (hX : kX l D T A p m c cc nL s args Ts own) (hP : va_P D vwCl ws H) (hD : va_D A ws) (hS : va_S A s.heap H locs) (ht : T[0]? = some (cA, .int)) (ha : ws[q0]? = some (a, .inl (cA, n, .inl f))) (hin : vp_in i n) (hdg : decode cc pc = .ok (.iastore, 1))
    (kk : ∀ (H1 : Heap) (locs1 : List Loc), va_P D vwCl (ws.set q0 (a, .inl (cA, n, .inl (upd f i.toNatClampNeg x)))) H1 → va_D A (ws.set q0 (a, .inl (cA, n, .inl (upd f i.toNatClampNeg x)))) → va_S A s.heap H1 locs1 → W p l e R s m args below meth c H1 locs1 cells slots Q (F0 m (pc + 1) ls rest)) : W p l e R s m args below meth c H locs cells slots Q (F0 m pc ls (.int x :: .int i :: .ref a :: rest)) :=
  va_iast hX.1.1 hX.1.2.1 hX.2.2.1 hP hD hS q0 0 ha ht hin hdg kk
theorem klald {q0 n : Nat} {cA : ClassId} {f : Nat → Int64} {i : Int32} (hX : kX l D T A p m c cc nL s args Ts own) (hP : va_P D vwCl ws H) (ht : T[1]? = some (cA, .long)) (ha : ws[q0]? = some (a, .inl (cA, n, .inr (.inl f)))) (hin : vp_in i n) (hdg : decode cc pc = .ok (.laload, 1))
    (kk : W p l e R s m args below meth c H locs cells slots Q (F0 m (pc + 1) ls (.long (f i.toNatClampNeg) :: rest))) : W p l e R s m args below meth c H locs cells slots Q (F0 m pc ls (.int i :: .ref a :: rest)) :=
  va_lald hX.1.1 hX.1.2.1 hX.2.2.1 hP q0 1 ha ht hin hdg kk
theorem klast {q0 n : Nat} {cA : ClassId} {f : Nat → Int64} {i : Int32} {x : Int64} (hX : kX l D T A p m c cc nL s args Ts own) (hP : va_P D vwCl ws H) (hD : va_D A ws) (hS : va_S A s.heap H locs) (ht : T[1]? = some (cA, .long)) (ha : ws[q0]? = some (a, .inl (cA, n, .inr (.inl f)))) (hin : vp_in i n) (hdg : decode cc pc = .ok (.lastore, 1))
    (kk : ∀ (H1 : Heap) (locs1 : List Loc), va_P D vwCl (ws.set q0 (a, .inl (cA, n, .inr (.inl (vp_updL f i.toNatClampNeg x))))) H1 → va_D A (ws.set q0 (a, .inl (cA, n, .inr (.inl (vp_updL f i.toNatClampNeg x))))) → va_S A s.heap H1 locs1 → W p l e R s m args below meth c H1 locs1 cells slots Q (F0 m (pc + 1) ls rest)) : W p l e R s m args below meth c H locs cells slots Q (F0 m pc ls (.long x :: .int i :: .ref a :: rest)) :=
  va_last hX.1.1 hX.1.2.1 hX.2.2.1 hP hD hS q0 1 ha ht hin hdg kk
theorem kaldq {q0 n : Nat} {cA : ClassId} {f : Nat → Option Nat} {i : Int32} {C : String} (hX : kX l D T A p m c cc nL s args Ts own) (hP : va_P D vwCl ws H) (ht : T[2]? = some (cA, .object C)) (ha : ws[q0]? = some (a, .inl (cA, n, .inr (.inr (.inr (.inr f)))))) (hin : vp_in i n) (hdg : decode cc pc = .ok (.aaload, 1))
    (kk : W p l e R s m args below meth c H locs cells slots Q (F0 m (pc + 1) ls (va_rf (f i.toNatClampNeg) :: rest))) : W p l e R s m args below meth c H locs cells slots Q (F0 m pc ls (.int i :: .ref a :: rest)) :=
  va_aldq hX.1.1 hX.1.2.1 hX.2.2.1 hP q0 2 ha ht hin hdg kk
theorem kalen {q0 t0 : Nat} {cA : ClassId} {x : vp_A} {ty : FieldType} {v : Int32} (hX : kX l D T A p m c cc nL s args Ts own) (hP : va_P D vwCl ws H) (ht : T[t0]? = some (cA, ty)) (ha : ws[q0]? = some (a, .inl (cA, x))) (hv : Int32.ofNat x.1 = v) (hdg : decode cc pc = .ok (.arraylength, 1))
    (kk : W p l e R s m args below meth c H locs cells slots Q (F0 m (pc + 1) ls (.int v :: rest))) : W p l e R s m args below meth c H locs cells slots Q (F0 m pc ls (.ref a :: rest)) :=
  va_alen hX.1.1 hX.1.2.1 hX.2.2.1 hP q0 t0 ha ht hv hdg kk
/-! the letters -/
theorem klet (hX : kX l D T A p m c cc nL s args Ts own) (hS : va_S A s.heap H locs) (ho : own = RX1) (hdg : decode cc pc = .ok (.getstatic 75, 3))
    (kk : ∀ t : Nat, va_T .int t 6 (fun j => .int (lettersF j)) A s s.heap → W p l e R s m args below meth c H locs cells slots Q (F0 m (pc + 3) ls (.ref t :: rest))) : W p l e R s m args below meth c H locs cells slots Q (F0 m pc ls rest) := by
  obtain ⟨⟨hx, hb, -, hown, -⟩, -, -, -, ⟨t, h1, h2⟩, hns, -⟩ := hX
  subst ho
  exact va_getsN (ref := "EnvelopeCard") hx hb h1 hS hown (hns.use rfl) (fun _ h => h) hdg (kk t h2)
/-! calls -/
variable {y : MethodName} {ycc : ByteArray} {yn idx k : Nat} {ret : Option FieldType} {rm : Room} {As st0 : List Value} {wc : va_W} {WS : va_W → Prop} {b : Nat}
theorem kBlind {av : List Value} {w0 : va_W} {sz : Nat} : FrameBlind (kPc D T av w0 sz) := fun a U g mk q => by
  obtain ⟨q0, q1, qP, qK, qD, qS⟩ := q
  exact ⟨q0, q1, qP, va_K.moved (u := U) (U := U.calling g mk a) (Vm.Alike.refl U.vm) qK, qD, qS.sub (Vm.Alike.refl U.vm) (kNs.same rfl qS.2) (fun _ _ _ => rfl) (fun _ h => h)⟩
theorem kPre (hX : kX l D T A p m c cc nL s args Ts own) (hP : va_P D vwCl ws H) (hD : va_D A ws) (hS : va_S A s.heap H locs) {isC : List Nat} (hC : isC.map (fun i => ws[i]?) = wc.map some) (hn : va_nd isC = true) (U : State) (hU : U.heap = H) (hW : s.WarmedH U.vm) (av : List Value) : kPc D T av wc H.size av.toArray U := by
  obtain ⟨-, -, hK, hA, hSt⟩ := hX
  have hF := va_free hD hS hA isC hC
  refine ⟨rfl, by rw [hU], ?_, va_K.moved hW.alike hK, (hD.sub isC hn hC).weaken (fun _ _ _ _ => trivial), ?_⟩
  · rw [hU]
    intro k q hk
    have h1 : (isC.map (fun i => ws[i]?))[k]? = some (some q) := by rw [hC, List.getElem?_map, hk]; rfl
    rw [List.getElem?_map] at h1
    cases hi : isC[k]? with
    | none => rw [hi] at h1; cases h1
    | some i => rw [hi] at h1; exact hP i q (Option.some.inj h1)
  · rw [hU]
    exact hSt.sub hW.alike (hSt.2.warm hW) (fun q h1 h2 => hS.2.1 q h1 h2) hF
/-- behind a call: the callee's cells in their places -/
theorem kPost (hX : kX l D T A p m c cc nL s args Ts own) (hP : va_P D vwCl ws H) (hD : va_D A ws) (hS : va_S A s.heap H locs) {isC : List Nat} (hC : isC.map (fun i => ws[i]?) = wc.map some) (hn : va_nd isC = true) {w1 : va_W} {H1 : Heap} (hl : w1.length = isC.length) (hk1 : ∀ q : Nat, q < H.size → ¬ va_A wc H.size q → H1[q]? = H[q]?) (hP1 : va_P D vwCl w1 H1) (hD1 : va_D (va_A wc H.size) w1) : va_P D vwCl (kset ws isC w1) H1 ∧ va_D A (kset ws isC w1) :=
  kjoin hP hD isC hC hn hl hk1 (va_free hD hS hX.2.2.2.1 isC hC) hP1 hD1
theorem kcw {C : String} {mc ms : Nat} (hX : kX l D T A p m c cc nL s args Ts own) (hcal : kCal C y ycc yn ret k) (hlink : Cond.methodLink own idx y ∈ lw_ok) (hR : rm.frames + 1 ≤ R.frames ∧ 8 + (yn + 11) + rm.locals ≤ R.locals) (hmc : rm.cells = mc) (hms : rm.slots = ms) : CallW R s args own C idx y ycc yn ret (Cond.code y ycc yn ret :: lw_ok) rm mc ms k := by
  subst hmc; subst hms
  obtain ⟨⟨-, -, -, -, hts⟩, hsub, -⟩ := hX
  obtain ⟨c1, c2, c3, c4, c5, c6⟩ := hcal
  subst c5
  exact ⟨kcwB hts hsub c3 c4 c6 hlink hR, hts _ (hsub _ c1), hts _ (hsub _ c2)⟩
theorem kVi {C : String} {q0 ci : Nat} {q : vw_C} {fs : List Value} {r : Int32} (hX : kX l D T A p m c cc nL s args Ts own) (hM : kMi l D T y ycc yn ret rm (.ref b :: As) wc r WS) (hcal : kCal C y ycc yn ret k) (hlink : Cond.methodLink own idx y ∈ lw_ok) (hR : rm.frames + 1 ≤ R.frames ∧ 8 + (yn + 11) + rm.locals ≤ R.locals) (hmc : rm.cells = 0 ∧ rm.slots = 0)
    (hP : va_P D vwCl ws H) (hD : va_D A ws) (hS : va_S A s.heap H locs) (hc : vwCl[ci]? = some q) (hq : q.1 = C) (he : ws[q0]? = some (b, .inr (ci, fs))) (isC : List Nat) (hC : isC.map (fun i => ws[i]?) = wc.map some) (hn : va_nd isC = true) (hlen : ∀ w, WS w → w.length = isC.length) (hargs : As.length = k) (hst : st0 = As.reverse ++ .ref b :: rest) (hcat : (rest.map fun v => v.category).sum ≤ 8) (hsz : ls.size = nL) (hcs : cells ≤ R.cells ∧ slots ≤ R.slots) (hdg : decode cc pc = .ok (.invokevirtual idx, 3))
    (kk : ∀ (H1 : Heap) (locs1 : List Loc) (w1 : va_W), WS w1 → va_P D vwCl (kset ws isC w1) H1 → va_D A (kset ws isC w1) → va_S A s.heap H1 locs1 → W p l e R s m args below meth c H1 locs1 cells slots Q (F0 m (pc + 3) ls (.int r :: rest))) : W p l e R s m args below meth c H locs cells slots Q (F0 m pc ls st0) := by
  have hF := va_free hD hS hX.2.2.2.1 isC hC
  subst hq
  refine va_calli (va_runV (As := As) (rest := rest) hX.1 (hM H.size) (kcw hX hcal hlink hR hmc.1 hmc.2) ⟨kBlind, va_recv hX.2.2.1 hP hc he, fun U hU hW => kPre hX hP hD hS hC hn U hU hW _⟩ rfl hargs hsz hst (lv_room hcat) hdg ⟨hcs.1, hcs.2⟩) hS (fun q _ h => hF q h) hF (fun x u t H1 locs1 ht hvm hw hB hz1 hk1 hS1 => ?_)
  obtain ⟨w1, hw1, hP1, -, hD1⟩ := hB
  subst hw
  rw [ht] at hP1
  obtain ⟨g1, g2⟩ := kPost hX hP hD hS hC hn (hlen w1 hw1) hk1 hP1 hD1
  exact kk H1 locs1 w1 hw1 g1 g2 hS1
theorem kVl {C : String} {q0 ci : Nat} {q : vw_C} {fs : List Value} {r : Int64} (hX : kX l D T A p m c cc nL s args Ts own) (hM : kMl l D T y ycc yn ret rm (.ref b :: As) wc r WS) (hcal : kCal C y ycc yn ret k) (hlink : Cond.methodLink own idx y ∈ lw_ok) (hR : rm.frames + 1 ≤ R.frames ∧ 8 + (yn + 11) + rm.locals ≤ R.locals) (hmc : rm.cells = 0 ∧ rm.slots = 0)
    (hP : va_P D vwCl ws H) (hD : va_D A ws) (hS : va_S A s.heap H locs) (hc : vwCl[ci]? = some q) (hq : q.1 = C) (he : ws[q0]? = some (b, .inr (ci, fs))) (isC : List Nat) (hC : isC.map (fun i => ws[i]?) = wc.map some) (hn : va_nd isC = true) (hlen : ∀ w, WS w → w.length = isC.length) (hargs : As.length = k) (hst : st0 = As.reverse ++ .ref b :: rest) (hcat : (rest.map fun v => v.category).sum ≤ 8) (hsz : ls.size = nL) (hcs : cells ≤ R.cells ∧ slots ≤ R.slots) (hdg : decode cc pc = .ok (.invokevirtual idx, 3))
    (kk : ∀ (H1 : Heap) (locs1 : List Loc) (w1 : va_W), WS w1 → va_P D vwCl (kset ws isC w1) H1 → va_D A (kset ws isC w1) → va_S A s.heap H1 locs1 → W p l e R s m args below meth c H1 locs1 cells slots Q (F0 m (pc + 3) ls (.long r :: rest))) : W p l e R s m args below meth c H locs cells slots Q (F0 m pc ls st0) := by
  have hF := va_free hD hS hX.2.2.2.1 isC hC
  subst hq
  refine va_calll (va_runV (As := As) (rest := rest) hX.1 (hM H.size) (kcw hX hcal hlink hR hmc.1 hmc.2) ⟨kBlind, va_recv hX.2.2.1 hP hc he, fun U hU hW => kPre hX hP hD hS hC hn U hU hW _⟩ rfl hargs hsz hst (lv_room hcat) hdg ⟨hcs.1, hcs.2⟩) hS (fun q _ h => hF q h) hF (fun x u t H1 locs1 ht hvm hw hB hz1 hk1 hS1 => ?_)
  obtain ⟨w1, hw1, hP1, -, hD1⟩ := hB
  subst hw
  rw [ht] at hP1
  obtain ⟨g1, g2⟩ := kPost hX hP hD hS hC hn (hlen w1 hw1) hk1 hP1 hD1
  exact kk H1 locs1 w1 hw1 g1 g2 hS1
theorem kVv {C : String} {q0 ci : Nat} {q : vw_C} {fs : List Value} (hX : kX l D T A p m c cc nL s args Ts own) (hM : kMv l D T y ycc yn ret rm (.ref b :: As) wc 0 0 WS) (hcal : kCal C y ycc yn ret k) (hlink : Cond.methodLink own idx y ∈ lw_ok) (hR : rm.frames + 1 ≤ R.frames ∧ 8 + (yn + 11) + rm.locals ≤ R.locals) (hmc : rm.cells = 0 ∧ rm.slots = 0)
    (hP : va_P D vwCl ws H) (hD : va_D A ws) (hS : va_S A s.heap H locs) (hc : vwCl[ci]? = some q) (hq : q.1 = C) (he : ws[q0]? = some (b, .inr (ci, fs))) (isC : List Nat) (hC : isC.map (fun i => ws[i]?) = wc.map some) (hn : va_nd isC = true) (hlen : ∀ w, WS w → w.length = isC.length) (hargs : As.length = k) (hst : st0 = As.reverse ++ .ref b :: rest) (hcat : (rest.map fun v => v.category).sum ≤ 8) (hsz : ls.size = nL) (hcs : cells ≤ R.cells ∧ slots ≤ R.slots) (hdg : decode cc pc = .ok (.invokevirtual idx, 3))
    (kk : ∀ (H1 : Heap) (locs1 : List Loc) (w1 : va_W), WS w1 → va_P D vwCl (kset ws isC w1) H1 → va_D A (kset ws isC w1) → va_S A s.heap H1 locs1 → W p l e R s m args below meth c H1 locs1 cells slots Q (F0 m (pc + 3) ls rest)) : W p l e R s m args below meth c H locs cells slots Q (F0 m pc ls st0) := by
  have hF := va_free hD hS hX.2.2.2.1 isC hC
  subst hq
  refine va_callv (va_runV (As := As) (rest := rest) hX.1 (hM H.size) (kcw hX hcal hlink hR hmc.1 hmc.2) ⟨kBlind, va_recv hX.2.2.1 hP hc he, fun U hU hW => kPre hX hP hD hS hC hn U hU hW _⟩ rfl hargs hsz hst (lv_room hcat) hdg ⟨hcs.1, hcs.2⟩) hS (fun q _ h => hF q h) hF (fun u t H1 locs1 ht hvm hw hB hz1 hk1 hS1 => ?_)
  obtain ⟨w1, hw1, hP1, -, hD1⟩ := hB
  rw [ht] at hP1
  obtain ⟨g1, g2⟩ := kPost hX hP hD hS hC hn (hlen w1 hw1) hk1 hP1 hD1
  exact kk H1 locs1 w1 hw1 g1 g2 hS1
theorem kVq {C : String} {q0 ci : Nat} {q : vw_C} {fs : List Value} {r : Option Nat} (hX : kX l D T A p m c cc nL s args Ts own) (hM : kMq l D T y ycc yn ret rm (.ref b :: As) wc r WS) (hcal : kCal C y ycc yn ret k) (hlink : Cond.methodLink own idx y ∈ lw_ok) (hR : rm.frames + 1 ≤ R.frames ∧ 8 + (yn + 11) + rm.locals ≤ R.locals) (hmc : rm.cells = 0 ∧ rm.slots = 0)
    (hP : va_P D vwCl ws H) (hD : va_D A ws) (hS : va_S A s.heap H locs) (hc : vwCl[ci]? = some q) (hq : q.1 = C) (he : ws[q0]? = some (b, .inr (ci, fs))) (isC : List Nat) (hC : isC.map (fun i => ws[i]?) = wc.map some) (hn : va_nd isC = true) (hlen : ∀ w, WS w → w.length = isC.length) (hargs : As.length = k) (hst : st0 = As.reverse ++ .ref b :: rest) (hcat : (rest.map fun v => v.category).sum ≤ 8) (hsz : ls.size = nL) (hcs : cells ≤ R.cells ∧ slots ≤ R.slots) (hdg : decode cc pc = .ok (.invokevirtual idx, 3))
    (kk : ∀ (H1 : Heap) (locs1 : List Loc) (w1 : va_W), WS w1 → va_P D vwCl (kset ws isC w1) H1 → va_D A (kset ws isC w1) → va_S A s.heap H1 locs1 → W p l e R s m args below meth c H1 locs1 cells slots Q (F0 m (pc + 3) ls (va_rf r :: rest))) : W p l e R s m args below meth c H locs cells slots Q (F0 m pc ls st0) := by
  have hF := va_free hD hS hX.2.2.2.1 isC hC
  subst hq
  refine va_callq (va_runV (As := As) (rest := rest) hX.1 (hM H.size) (kcw hX hcal hlink hR hmc.1 hmc.2) ⟨kBlind, va_recv hX.2.2.1 hP hc he, fun U hU hW => kPre hX hP hD hS hC hn U hU hW _⟩ rfl hargs hsz hst (lv_room hcat) hdg ⟨hcs.1, hcs.2⟩) hS (fun q _ h => hF q h) hF (fun x u t H1 locs1 ht hvm hw hB hz1 hk1 hS1 => ?_)
  obtain ⟨w1, hw1, hP1, -, hD1⟩ := hB
  subst hw
  rw [ht] at hP1
  obtain ⟨g1, g2⟩ := kPost hX hP hD hS hC hn (hlen w1 hw1) hk1 hP1 hD1
  exact kk H1 locs1 w1 hw1 g1 g2 hS1
theorem kcwS {mc ms : Nat} (hX : kX l D T A p m c cc nL s args Ts own) (hcal : kCalS y ycc yn ret k) (hlink : Cond.methodLink own idx y ∈ lw_ok) (hR : rm.frames + 1 ≤ R.frames ∧ 8 + (yn + 11) + rm.locals ≤ R.locals) (hmc : rm.cells = mc) (hms : rm.slots = ms) : CallB R s args own idx y ycc yn ret (Cond.code y ycc yn ret :: lw_ok) rm mc ms k ∧ (Cond.static y).before args s = true := by
  subst hmc; subst hms
  obtain ⟨⟨-, -, -, -, hts⟩, hsub, -⟩ := hX
  obtain ⟨c1, c3, c4, c6⟩ := hcal
  exact ⟨kcwB hts hsub c3 c4 c6 hlink hR, hts _ (hsub _ c1)⟩
theorem kSi {r : Int32} (hX : kX l D T A p m c cc nL s args Ts own) (hM : kMi l D T y ycc yn ret rm As wc r WS) (hcal : kCalS y ycc yn ret k) (hlink : Cond.methodLink own idx y ∈ lw_ok) (hR : rm.frames + 1 ≤ R.frames ∧ 8 + (yn + 11) + rm.locals ≤ R.locals) (hmc : rm.cells = 0 ∧ rm.slots = 0)
    (hP : va_P D vwCl ws H) (hD : va_D A ws) (hS : va_S A s.heap H locs) (isC : List Nat) (hC : isC.map (fun i => ws[i]?) = wc.map some) (hn : va_nd isC = true) (hlen : ∀ w, WS w → w.length = isC.length) (hargs : As.length = k) (hst : st0 = As.reverse ++ rest) (hcat : (rest.map fun v => v.category).sum ≤ 8) (hsz : ls.size = nL) (hcs : cells ≤ R.cells ∧ slots ≤ R.slots) (hdg : decode cc pc = .ok (.invokestatic idx, 3))
    (kk : ∀ (H1 : Heap) (locs1 : List Loc) (w1 : va_W), WS w1 → va_P D vwCl (kset ws isC w1) H1 → va_D A (kset ws isC w1) → va_S A s.heap H1 locs1 → W p l e R s m args below meth c H1 locs1 cells slots Q (F0 m (pc + 3) ls (.int r :: rest))) : W p l e R s m args below meth c H locs cells slots Q (F0 m pc ls st0) := by
  have hF := va_free hD hS hX.2.2.2.1 isC hC
  refine va_calli (va_runS (As := As) (rest := rest) hX.1 (hM H.size) (kcwS hX hcal hlink hR hmc.1 hmc.2) ⟨kBlind, fun U hU hW => kPre hX hP hD hS hC hn U hU hW _⟩ rfl hargs hsz hst (lv_room hcat) hdg ⟨hcs.1, hcs.2⟩) hS (fun q _ h => hF q h) hF (fun x u t H1 locs1 ht hvm hw hB hz1 hk1 hS1 => ?_)
  obtain ⟨w1, hw1, hP1, -, hD1⟩ := hB
  subst hw
  rw [ht] at hP1
  obtain ⟨g1, g2⟩ := kPost hX hP hD hS hC hn (hlen w1 hw1) hk1 hP1 hD1
  exact kk H1 locs1 w1 hw1 g1 g2 hS1
theorem kSl {r : Int64} (hX : kX l D T A p m c cc nL s args Ts own) (hM : kMl l D T y ycc yn ret rm As wc r WS) (hcal : kCalS y ycc yn ret k) (hlink : Cond.methodLink own idx y ∈ lw_ok) (hR : rm.frames + 1 ≤ R.frames ∧ 8 + (yn + 11) + rm.locals ≤ R.locals) (hmc : rm.cells = 0 ∧ rm.slots = 0)
    (hP : va_P D vwCl ws H) (hD : va_D A ws) (hS : va_S A s.heap H locs) (isC : List Nat) (hC : isC.map (fun i => ws[i]?) = wc.map some) (hn : va_nd isC = true) (hlen : ∀ w, WS w → w.length = isC.length) (hargs : As.length = k) (hst : st0 = As.reverse ++ rest) (hcat : (rest.map fun v => v.category).sum ≤ 8) (hsz : ls.size = nL) (hcs : cells ≤ R.cells ∧ slots ≤ R.slots) (hdg : decode cc pc = .ok (.invokestatic idx, 3))
    (kk : ∀ (H1 : Heap) (locs1 : List Loc) (w1 : va_W), WS w1 → va_P D vwCl (kset ws isC w1) H1 → va_D A (kset ws isC w1) → va_S A s.heap H1 locs1 → W p l e R s m args below meth c H1 locs1 cells slots Q (F0 m (pc + 3) ls (.long r :: rest))) : W p l e R s m args below meth c H locs cells slots Q (F0 m pc ls st0) := by
  have hF := va_free hD hS hX.2.2.2.1 isC hC
  refine va_calll (va_runS (As := As) (rest := rest) hX.1 (hM H.size) (kcwS hX hcal hlink hR hmc.1 hmc.2) ⟨kBlind, fun U hU hW => kPre hX hP hD hS hC hn U hU hW _⟩ rfl hargs hsz hst (lv_room hcat) hdg ⟨hcs.1, hcs.2⟩) hS (fun q _ h => hF q h) hF (fun x u t H1 locs1 ht hvm hw hB hz1 hk1 hS1 => ?_)
  obtain ⟨w1, hw1, hP1, -, hD1⟩ := hB
  subst hw
  rw [ht] at hP1
  obtain ⟨g1, g2⟩ := kPost hX hP hD hS hC hn (hlen w1 hw1) hk1 hP1 hD1
  exact kk H1 locs1 w1 hw1 g1 g2 hS1
theorem kSv (hX : kX l D T A p m c cc nL s args Ts own) (hM : kMv l D T y ycc yn ret rm As wc 0 0 WS) (hcal : kCalS y ycc yn ret k) (hlink : Cond.methodLink own idx y ∈ lw_ok) (hR : rm.frames + 1 ≤ R.frames ∧ 8 + (yn + 11) + rm.locals ≤ R.locals) (hmc : rm.cells = 0 ∧ rm.slots = 0)
    (hP : va_P D vwCl ws H) (hD : va_D A ws) (hS : va_S A s.heap H locs) (isC : List Nat) (hC : isC.map (fun i => ws[i]?) = wc.map some) (hn : va_nd isC = true) (hlen : ∀ w, WS w → w.length = isC.length) (hargs : As.length = k) (hst : st0 = As.reverse ++ rest) (hcat : (rest.map fun v => v.category).sum ≤ 8) (hsz : ls.size = nL) (hcs : cells ≤ R.cells ∧ slots ≤ R.slots) (hdg : decode cc pc = .ok (.invokestatic idx, 3))
    (kk : ∀ (H1 : Heap) (locs1 : List Loc) (w1 : va_W), WS w1 → va_P D vwCl (kset ws isC w1) H1 → va_D A (kset ws isC w1) → va_S A s.heap H1 locs1 → W p l e R s m args below meth c H1 locs1 cells slots Q (F0 m (pc + 3) ls rest)) : W p l e R s m args below meth c H locs cells slots Q (F0 m pc ls st0) := by
  have hF := va_free hD hS hX.2.2.2.1 isC hC
  refine va_callv (va_runS (As := As) (rest := rest) hX.1 (hM H.size) (kcwS hX hcal hlink hR hmc.1 hmc.2) ⟨kBlind, fun U hU hW => kPre hX hP hD hS hC hn U hU hW _⟩ rfl hargs hsz hst (lv_room hcat) hdg ⟨hcs.1, hcs.2⟩) hS (fun q _ h => hF q h) hF (fun u t H1 locs1 ht hvm hw hB hz1 hk1 hS1 => ?_)
  obtain ⟨w1, hw1, hP1, -, hD1⟩ := hB
  rw [ht] at hP1
  obtain ⟨g1, g2⟩ := kPost hX hP hD hS hC hn (hlen w1 hw1) hk1 hP1 hD1
  exact kk H1 locs1 w1 hw1 g1 g2 hS1
end KW
/-! the beginning of a walk, its end at hand -/
theorem kInI {l : Launch} {D : va_G} {T : List (ClassId × FieldType)} {y : MethodName} {cc : ByteArray} {n : Nat} {rm : Room} {av : List Value} {w0 : va_W} {O : Type} {o : O} {Rf : O → Int32} {WS : O → va_W → Prop} (hy : plainName y.cls = true) (hn : (lg_sl av).length ≤ n)
    (body : ∀ (p : Program) (e : Env) (s : State) (m : MethodId) (args : Array Value) (below : List Frame) (meth : Method) (c : Code) (A : Nat → Prop) (ls : Array Slot) (Q : State → Prop),
      kX l D T A p m c cc n s args (Cond.code y cc n (some .int) :: lw_ok) y.cls →
      (∀ (o' : O) (v : Int32) (H : Heap) (locs : List Loc) (w : va_W) (pc : Nat) (ls : Array Slot), o' = o → v = Rf o' → WS o' w → va_P D vwCl w H → va_D A w → va_S A s.heap H locs → decode cc pc = .ok (.ireturn, 1) → W p l e rm s m args below meth c H locs 0 0 Q (F0 m pc ls [.int v])) →
      va_P D vwCl w0 s.heap → va_D A w0 → va_S A s.heap s.heap [] → lv_has ls n (lv_args 0 av) → W p l e rm s m args below meth c s.heap [] 0 0 Q (F0 m 0 ls [])) :
    kMi l D T y cc n (some .int) rm av w0 (Rf o) (WS o) := by
  intro sz
  refine kIn (Qc := fun A => va_Qi (fun x (_ : Unit) => x = Rf o) (kB D T (WS o) A) A) hy hn ?_
  intro p e s m args below meth c A ls hX hr hlocks hnm hP hD hS hl
  refine body p e s m args below meth c A ls _ hX ?_ hP hD hS hl
  intro o' v H locs w pc ls ho hv hw hP hD hS hdg
  subst ho
  exact kRi hX hr hlocks hv hw hP hD hS hdg
theorem kInZ {l : Launch} {D : va_G} {T : List (ClassId × FieldType)} {y : MethodName} {cc : ByteArray} {n : Nat} {rm : Room} {av : List Value} {w0 : va_W} {O : Type} {o : O} {Rf : O → Int32} {WS : O → va_W → Prop} (hy : plainName y.cls = true) (hn : (lg_sl av).length ≤ n)
    (body : ∀ (p : Program) (e : Env) (s : State) (m : MethodId) (args : Array Value) (below : List Frame) (meth : Method) (c : Code) (A : Nat → Prop) (ls : Array Slot) (Q : State → Prop),
      kX l D T A p m c cc n s args (Cond.code y cc n (some .boolean) :: lw_ok) y.cls →
      (∀ (o' : O) (v : Int32) (H : Heap) (locs : List Loc) (w : va_W) (pc : Nat) (ls : Array Slot), o' = o → v = Rf o' → narrow .boolean (.int v) = .int v → WS o' w → va_P D vwCl w H → va_D A w → va_S A s.heap H locs → decode cc pc = .ok (.ireturn, 1) → W p l e rm s m args below meth c H locs 0 0 Q (F0 m pc ls [.int v])) →
      va_P D vwCl w0 s.heap → va_D A w0 → va_S A s.heap s.heap [] → lv_has ls n (lv_args 0 av) → W p l e rm s m args below meth c s.heap [] 0 0 Q (F0 m 0 ls [])) :
    kMi l D T y cc n (some .boolean) rm av w0 (Rf o) (WS o) := by
  intro sz
  refine kIn (Qc := fun A => va_Qi (fun x (_ : Unit) => x = Rf o) (kB D T (WS o) A) A) hy hn ?_
  intro p e s m args below meth c A ls hX hr hlocks hnm hP hD hS hl
  refine body p e s m args below meth c A ls _ hX ?_ hP hD hS hl
  intro o' v H locs w pc ls ho hv hz hw hP hD hS hdg
  subst ho
  exact kRz hX hr hlocks hz hv hw hP hD hS hdg
theorem kInL {l : Launch} {D : va_G} {T : List (ClassId × FieldType)} {y : MethodName} {cc : ByteArray} {n : Nat} {rm : Room} {av : List Value} {w0 : va_W} {O : Type} {o : O} {Rf : O → Int64} {WS : O → va_W → Prop} (hy : plainName y.cls = true) (hn : (lg_sl av).length ≤ n)
    (body : ∀ (p : Program) (e : Env) (s : State) (m : MethodId) (args : Array Value) (below : List Frame) (meth : Method) (c : Code) (A : Nat → Prop) (ls : Array Slot) (Q : State → Prop),
      kX l D T A p m c cc n s args (Cond.code y cc n (some .long) :: lw_ok) y.cls →
      (∀ (o' : O) (v : Int64) (H : Heap) (locs : List Loc) (w : va_W) (pc : Nat) (ls : Array Slot), o' = o → v = Rf o' → WS o' w → va_P D vwCl w H → va_D A w → va_S A s.heap H locs → decode cc pc = .ok (.lreturn, 1) → W p l e rm s m args below meth c H locs 0 0 Q (F0 m pc ls [.long v])) →
      va_P D vwCl w0 s.heap → va_D A w0 → va_S A s.heap s.heap [] → lv_has ls n (lv_args 0 av) → W p l e rm s m args below meth c s.heap [] 0 0 Q (F0 m 0 ls [])) :
    kMl l D T y cc n (some .long) rm av w0 (Rf o) (WS o) := by
  intro sz
  refine kIn (Qc := fun A => va_Ql (fun x (_ : Unit) => x = Rf o) (kB D T (WS o) A) A) hy hn ?_
  intro p e s m args below meth c A ls hX hr hlocks hnm hP hD hS hl
  refine body p e s m args below meth c A ls _ hX ?_ hP hD hS hl
  intro o' v H locs w pc ls ho hv hw hP hD hS hdg
  subst ho
  exact kRl hX hr hlocks hv hw hP hD hS hdg
theorem kInV {l : Launch} {D : va_G} {T : List (ClassId × FieldType)} {y : MethodName} {cc : ByteArray} {n : Nat} {rm : Room} {av : List Value} {w0 : va_W} {O : Type} {o : O} {WS : O → va_W → Prop} (hy : plainName y.cls = true) (hn : (lg_sl av).length ≤ n)
    (body : ∀ (p : Program) (e : Env) (s : State) (m : MethodId) (args : Array Value) (below : List Frame) (meth : Method) (c : Code) (A : Nat → Prop) (ls : Array Slot) (Q : State → Prop),
      kX l D T A p m c cc n s args (Cond.code y cc n none :: lw_ok) y.cls →
      (∀ (o' : O) (H : Heap) (locs : List Loc) (w : va_W) (pc : Nat) (ls : Array Slot), o' = o → WS o' w → va_P D vwCl w H → va_D A w → va_S A s.heap H locs → decode cc pc = .ok (.return_, 1) → W p l e rm s m args below meth c H locs 0 0 Q (F0 m pc ls [])) →
      va_P D vwCl w0 s.heap → va_D A w0 → va_S A s.heap s.heap [] → lv_has ls n (lv_args 0 av) → W p l e rm s m args below meth c s.heap [] 0 0 Q (F0 m 0 ls [])) :
    kMv l D T y cc n none rm av w0 0 0 (WS o) := by
  intro sz
  refine kIn (Qc := fun A => va_Qv (fun (_ : Unit) => True) (kB D T (WS o) A) A) hy hn ?_
  intro p e s m args below meth c A ls hX hr hlocks hnm hP hD hS hl
  refine body p e s m args below meth c A ls _ hX ?_ hP hD hS hl
  intro o' H locs w pc ls ho hw hP hD hS hdg
  subst ho
  exact kRv hX hr hlocks hw hP hD hS hdg
theorem kInQ {l : Launch} {D : va_G} {T : List (ClassId × FieldType)} {y : MethodName} {cc : ByteArray} {n : Nat} {C : String} {rm : Room} {av : List Value} {w0 : va_W} {r : Option Nat} {WS : va_W → Prop} (hy : plainName y.cls = true) (hn : (lg_sl av).length ≤ n)
    (body : ∀ (p : Program) (e : Env) (s : State) (m : MethodId) (args : Array Value) (below : List Frame) (meth : Method) (c : Code) (A : Nat → Prop) (ls : Array Slot) (Q : State → Prop),
      kX l D T A p m c cc n s args (Cond.code y cc n (some (.object C)) :: lw_ok) y.cls →
      (∀ (v : Option Nat) (H : Heap) (locs : List Loc) (w : va_W) (pc : Nat) (ls : Array Slot), v = r → WS w → va_P D vwCl w H → va_D A w → va_S A s.heap H locs → decode cc pc = .ok (.areturn, 1) → W p l e rm s m args below meth c H locs 0 0 Q (F0 m pc ls [va_rf v])) →
      va_P D vwCl w0 s.heap → va_D A w0 → va_S A s.heap s.heap [] → lv_has ls n (lv_args 0 av) → W p l e rm s m args below meth c s.heap [] 0 0 Q (F0 m 0 ls [])) :
    kMq l D T y cc n (some (.object C)) rm av w0 r WS := by
  intro sz
  refine kIn (Qc := fun A => va_Qq (fun x (_ : Unit) => x = r) (kB D T WS A) A) hy hn ?_
  intro p e s m args below meth c A ls hX hr hlocks hnm hP hD hS hl
  refine body p e s m args below meth c A ls _ hX ?_ hP hD hS hl
  intro v H locs w pc ls hv hw hP hD hS hdg
  exact kRq hX hr hlocks hv hw hP hD hS hdg
