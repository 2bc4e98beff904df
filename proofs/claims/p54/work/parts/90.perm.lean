/-! all orders: by numbers, and the class's turn -/
def ek_prm : Nat → List Nat → List (List Nat)
  | 0, _ => [[]]
  | f + 1, S => if S.isEmpty then [[]] else S.flatMap fun i => (ek_prm f (S.filter fun j => decide (¬ j = i))).map (fun L => i :: L)
def ek_qsw (q : Nat → Nat) (a b : Nat) : Nat → Nat := fun k => if k = b then q a else if k = a then q b else q k
def ek_qr (q : Nat → Nat) : Nat → Nat
  | 0 => 0
  | r + 1 => if q r ≤ q (r + 1) then r + 1 else ek_qr q r
def ek_qg (q : Nat → Nat) (r : Nat) : Nat → Nat
  | 0 => 0
  | g + 1 => if g + 1 ≤ r then g + 1 else if q r ≤ q (g + 1) then g + 1 else ek_qg q r g
def ek_qv : Nat → (Nat → Nat) → Nat → Nat → (Nat → Nat)
  | 0, q, _, _ => q
  | f + 1, q, a, b => if b ≤ a then q else ek_qv f (ek_qsw q a b) (a + 1) (b - 1)
def ek_qt (m : Nat) (q : Nat → Nat) : Option (Nat → Nat) :=
  match ek_qr q (m - 1) with
  | 0 => none
  | r + 1 => some (ek_qv m (ek_qsw q r (ek_qg q r (m - 1))) (r + 1) (m - 1))
def ek_qc (m : Nat) : List Nat → List (List Nat) → Bool
  | p, [] => (ek_qt m (fun k => p.getD k 0)).isNone
  | p, p' :: t => (match ek_qt m (fun k => p.getD k 0) with
    | some q => decide ((List.range m).map q = p')
    | none => false) && ek_qc m p' t
def ek_qp (m : Nat) (p : List Nat) : Bool := p.length == m && p.all (fun a => decide (a < m))
def ek_qkk (m : Nat) : Bool :=
  match ek_prm m (List.range m) with
  | [] => false
  | p :: t => decide (p = List.range m) && (ek_qc m p t && (decide (t.length + 1 ≤ 720) && (t.all (ek_qp m))))
theorem ek_qok : ∀ m, m ≤ 6 → ek_qkk m = true := by decide +kernel
theorem ek_prmMap {v : Nat → Nat} : ∀ f (T : List Nat), (∀ a, a ∈ T → ∀ b, b ∈ T → v a = v b → a = b) → ek_prm f (T.map v) = (ek_prm f T).map (List.map v) := by
  intro f
  induction f with
  | zero => intro T _; rfl
  | succ f ih =>
    intro T hT
    have key : ∀ U : List Nat, (∀ a, a ∈ U → a ∈ T) → (U.map v).flatMap (fun i => (ek_prm f ((T.map v).filter fun j => decide (¬ j = i))).map (fun L => i :: L)) = (U.flatMap fun i => (ek_prm f (T.filter fun j => decide (¬ j = i))).map (fun L => i :: L)).map (List.map v) := by
      intro U
      induction U with
      | nil => intro _; rfl
      | cons a U iu =>
        intro hU
        have ha := hU a List.mem_cons_self
        have e : (T.map v).filter (fun j => decide (¬ j = v a)) = (T.filter fun j => decide (¬ j = a)).map v := by
          rw [List.filter_map]
          congr 1
          apply List.filter_congr
          intro b hb
          show decide (¬ v b = v a) = decide (¬ b = a)
          by_cases q : b = a
          · subst q; simp
          · have : ¬ v b = v a := fun w => q (hT b hb a ha w)
            rw [decide_eq_true this, decide_eq_true q]
        rw [List.map_cons, List.flatMap_cons, List.flatMap_cons, List.map_append, iu (fun b hb => hU b (List.mem_cons_of_mem _ hb)), e, ih _ (fun x hx y hy => hT x ((List.mem_filter.mp hx).1) y ((List.mem_filter.mp hy).1)), List.map_map, List.map_map]
        rfl
    cases T with
    | nil => rfl
    | cons a T' => exact key (a :: T') (fun _ h => h)
/-- the class's sequence holds the desks v of the numbers q -/
def ek_qR (m : Nat) (v q : Nat → Nat) (s : Nat → Int32) : Prop := ∀ k, k < m → q k < m ∧ s k = nI (v (q k))
def ek_vv (m n : Nat) (v : Nat → Nat) : Prop := (∀ a b, a < m → b < m → (v a ≤ v b ↔ a ≤ b)) ∧ ∀ a, a < m → v a < n
theorem ek_dkS {s : Nat → Int32} {k : Nat} (h : k < 9) : p_X3_deskAt s (nI k) = s k := by
  unfold p_X3_deskAt
  rw [if_neg (nI_pos (by omega)), if_neg (show ¬ (9 : Int32) ≤ _ from nI_ge (b := 9) (by omega) (by omega)), nI_clamp (by omega)]
theorem ek_dle {m n : Nat} {v q : Nat → Nat} {s : Nat → Int32} (hv : ek_vv m n v) (hn : n ≤ 9) (hm : m ≤ 9) (hR : ek_qR m v q s) {a b : Nat} (ha : a < m) (hb : b < m) : (p_X3_deskAt s (nI a) ≤ p_X3_deskAt s (nI b)) ↔ q a ≤ q b := by
  rw [ek_dkS (by omega), ek_dkS (by omega), (hR a ha).2, (hR b hb).2]
  have h1 := hv.2 _ (hR a ha).1
  have h2 := hv.2 _ (hR b hb).1
  rw [nI_leI (by omega) (by omega)]
  exact hv.1 _ _ (hR a ha).1 (hR b hb).1
theorem ek_qswap {m : Nat} {v q : Nat → Nat} {s : Nat → Int32} (hm : m ≤ 9) (hR : ek_qR m v q s) {a b : Nat} (ha : a < m) (hb : b < m) : ek_qR m v (ek_qsw q a b) (p_X3_swap s (nI a) (nI b)) := by
  unfold p_X3_swap
  rw [if_neg (nI_pos (by omega)), if_neg (show ¬ (9 : Int32) ≤ _ from nI_ge (b := 9) (by omega) (by omega)), if_neg (nI_pos (by omega)), if_neg (show ¬ (9 : Int32) ≤ _ from nI_ge (b := 9) (by omega) (by omega)), nm_t, nI_clamp (by omega), nI_clamp (by omega)]
  intro k hk
  unfold ek_qsw upd
  by_cases e : k = b
  · rw [if_pos e, if_pos e]; exact hR a ha
  · rw [if_neg e, if_neg e]
    by_cases e2 : k = a
    · rw [if_pos e2, if_pos e2]; exact hR b hb
    · rw [if_neg e2, if_neg e2]; exact hR k hk
def ek_ri : Nat → Int32
  | 0 => -1
  | r + 1 => nI r
theorem ek_ri1 (r : Nat) : nI r + (-1) = ek_ri r := by
  cases r with
  | zero => decide
  | succ r => exact pk_m1 r
theorem ek_tr7 {N m n : Nat} {v q : Nat → Nat} {s : Nat → Int32} {ln : Int32} (k32 : (Nat → Int32) → Int32 → Option (Int32 × (Nat → Int32))) (hv : ek_vv m n v) (hn : n ≤ 9) (hm : m ≤ 9) (hR : ek_qR m v q s) : ∀ r n2, r < m → r < n2 → f_X3_turn_b7 N k32 ln n2 s (ek_ri r) = k32 s (ek_ri (ek_qr q r)) := by
  intro r
  induction r with
  | zero =>
    intro n2 _ h2
    obtain ⟨n2, rfl⟩ : ∃ z, n2 = z + 1 := ⟨n2 - 1, by omega⟩
    rw [f_X3_turn_b7, if_pos (show ek_ri 0 < 0 by decide)]
    rfl
  | succ r ih =>
    intro n2 h1 h2
    obtain ⟨n2, rfl⟩ : ∃ z, n2 = z + 1 := ⟨n2 - 1, by omega⟩
    rw [f_X3_turn_b7, if_neg (show ¬ ek_ri (r + 1) < 0 from nI_pos (by omega))]
    show (if p_X3_deskAt s (nI r) ≤ p_X3_deskAt s (nI r + 1) then k32 s (nI r) else f_X3_turn_b7 N k32 ln n2 s (nI r + (-1))) = _
    rw [nI_1, ek_ri1]
    have e := ek_dle hv hn hm hR (show r < m by omega) h1
    unfold ek_qr
    by_cases w : q r ≤ q (r + 1)
    · rw [if_pos (e.mpr w), if_pos w]; rfl
    · rw [if_neg (fun z => w (e.mp z)), if_neg w]
      exact ih n2 (by omega) (by omega)
theorem ek_tr45 {N m n r : Nat} {v q : Nat → Nat} {s : Nat → Int32} {ln : Int32} (k69 : (Nat → Int32) → Int32 → Int32 → Option (Int32 × (Nat → Int32))) (hv : ek_vv m n v) (hn : n ≤ 9) (hm : m ≤ 9) (hR : ek_qR m v q s) (hr : r < m) : ∀ g n2, g < m → g < n2 → f_X3_turn_b45 N k69 ln n2 s (nI r) (nI g) = k69 s (nI r) (nI (ek_qg q r g)) := by
  intro g
  induction g with
  | zero =>
    intro n2 _ h2
    obtain ⟨n2, rfl⟩ : ∃ z, n2 = z + 1 := ⟨n2 - 1, by omega⟩
    rw [f_X3_turn_b45, if_pos (nI_le (Nat.zero_le _) (by omega))]
    rfl
  | succ g ih =>
    intro n2 h1 h2
    obtain ⟨n2, rfl⟩ : ∃ z, n2 = z + 1 := ⟨n2 - 1, by omega⟩
    rw [f_X3_turn_b45]
    unfold ek_qg
    have e := ek_dle hv hn hm hR hr h1
    by_cases w0 : g + 1 ≤ r
    · rw [if_pos (nI_le w0 (by omega)), if_pos w0]
    · rw [if_neg (nI_ge (by omega) (by omega)), if_neg w0]
      by_cases w : q r ≤ q (g + 1)
      · rw [if_pos (e.mpr w), if_pos w]
      · rw [if_neg (fun z => w (e.mp z)), if_neg w, pk_m1]
        exact ih n2 (by omega) (by omega)
theorem ek_tr87 {N m : Nat} {v : Nat → Nat} {ln : Int32} (hm : m ≤ 9) : ∀ f (q : Nat → Nat) (s : Nat → Int32) (a b n2 : Nat), b < m → a ≤ m → b ≤ a + f → f < n2 → ek_qR m v q s → ∃ s', f_X3_turn_b87 N ln n2 s (nI a) (nI b) = some (1, s') ∧ ek_qR m v (ek_qv f q a b) s' := by
  intro f
  induction f with
  | zero =>
    intro q s a b n2 hb ha hf h2 hR
    obtain ⟨n2, rfl⟩ : ∃ z, n2 = z + 1 := ⟨n2 - 1, by omega⟩
    refine ⟨s, ?_, hR⟩
    rw [f_X3_turn_b87, if_pos (nI_le (by omega) (by omega))]
  | succ f ih =>
    intro q s a b n2 hb ha hf h2 hR
    obtain ⟨n2, rfl⟩ : ∃ z, n2 = z + 1 := ⟨n2 - 1, by omega⟩
    rw [f_X3_turn_b87]
    unfold ek_qv
    by_cases w : b ≤ a
    · rw [if_pos (nI_le w (by omega)), if_pos w]
      exact ⟨s, rfl, hR⟩
    · obtain ⟨b, rfl⟩ : ∃ z, b = z + 1 := ⟨b - 1, by omega⟩
      rw [if_neg (nI_ge (by omega) (by omega)), if_neg w, nm_t, nI_1, pk_m1]
      exact ih _ _ (a + 1) b n2 (by omega) (by omega) (by omega) (by omega) (ek_qswap hm hR (by omega) hb)
theorem ek_qrle (q : Nat → Nat) : ∀ r, ek_qr q r ≤ r := by
  intro r
  induction r with
  | zero => exact Nat.le_refl _
  | succ r ih =>
    unfold ek_qr
    split
    · exact Nat.le_refl _
    · omega
theorem ek_qgle (q : Nat → Nat) (r : Nat) : ∀ g, ek_qg q r g ≤ g := by
  intro g
  induction g with
  | zero => exact Nat.le_refl _
  | succ g ih =>
    unfold ek_qg
    split
    · exact Nat.le_refl _
    · split
      · exact Nat.le_refl _
      · omega
theorem ek_turn {N m n : Nat} {v q : Nat → Nat} {s : Nat → Int32} (hN : 5000 ≤ N) (hv : ek_vv m n v) (hn : n ≤ 9) (hm : m ≤ 9) (hR : ek_qR m v q s) :
    (ek_qt m q = none → f_X3_turn N (nI m) s = some (0, s)) ∧ ∀ q', ek_qt m q = some q' → ∃ s', f_X3_turn N (nI m) s = some (1, s') ∧ ek_qR m v q' s' := by
  cases m with
  | zero =>
    constructor
    · intro _
      obtain ⟨N2, rfl⟩ : ∃ z, N = z + 1 := ⟨N - 1, by omega⟩
      unfold f_X3_turn
      rw [f_X3_turn_b7, if_pos (show nI 0 - 2 < 0 by decide)]
      unfold f_X3_turn_b32
      rw [if_neg (show ¬ (0 : Int32) ≤ nI 0 - 2 by decide)]
    · intro q' h
      exact absurd h (by unfold ek_qt ek_qr; simp)
  | succ m =>
    have e0 : nI (m + 1) - 2 = ek_ri m := by
      cases m with
      | zero => decide
      | succ m => exact (pk_sub (a := m + 1 + 1) (b := 2) (by omega)).trans (congrArg nI (by omega))
    have e1 : f_X3_turn N (nI (m + 1)) s = f_X3_turn_b32 N (nI (m + 1)) s (ek_ri (ek_qr q m)) := by
      unfold f_X3_turn
      rw [e0]
      exact ek_tr7 _ hv hn hm hR m N (by omega) (by omega)
    have hle := ek_qrle q m
    have et : ek_qt (m + 1) q = match ek_qr q m with
        | 0 => none
        | r + 1 => some (ek_qv (m + 1) (ek_qsw q r (ek_qg q r m)) (r + 1) m) := rfl
    rw [e1, et]
    generalize ek_qr q m = r0 at hle
    cases r0 with
    | zero =>
      constructor
      · intro _
        unfold f_X3_turn_b32
        rw [if_neg (show ¬ (0 : Int32) ≤ ek_ri 0 by decide)]
      · intro q' h; exact absurd h (by simp)
    | succ r =>
      constructor
      · intro h; exact absurd h (by simp)
      · intro q' h
        simp only [Option.some.injEq] at h
        subst h
        have hg := ek_qgle q r m
        have e2 : f_X3_turn_b32 N (nI (m + 1)) s (ek_ri (r + 1)) = f_X3_turn_b69 N (nI (m + 1)) s (nI r) (nI (ek_qg q r m)) := by
          unfold f_X3_turn_b32
          rw [if_pos (show (0 : Int32) ≤ ek_ri (r + 1) from nI_pos' (by omega)), nI_pred]
          exact ek_tr45 _ hv hn hm hR (by omega) m N (by omega) (by omega)
        rw [e2]
        unfold f_X3_turn_b69
        rw [nm_t, nI_1, nI_pred]
        exact ek_tr87 hm (m + 1) _ _ (r + 1) m N (by omega) (by omega) (by omega) (by omega) (ek_qswap hm hR (by omega) (by omega))
