/-! ask: sums over the desks asked -/
theorem ek_ptot {n i H s0 : Nat} {A : Nat → Nat} (hn : n ≤ 9) (hs : s0 < n) (hI : ek_In n A H i) : ek_sn (ek_pd A H (nI s0)) n = 12 ^ i := by
  unfold ek_pd
  rw [ek_snadd (f := fun d => if nI d = nI s0 then H else 0) (g := fun d => ek_pa A d), ek_snext (f := fun d => if nI d = nI s0 then H else 0) (g := fun d => if d = s0 then H else 0) (fun d hd => by
    by_cases y : d = s0
    · rw [if_pos y, if_pos (by rw [y])]
    · rw [if_neg y, if_neg (fun z => y ((nI_eq (by omega) (by omega)).mp z))]), ek_snone, if_pos hs]
  unfold ek_pa
  rw [ek_snswap (f := fun q d => if q % 9 = d then A q else 0), ← hI.2, ek_snext (f := fun q => ek_sn (fun d => if q % 9 = d then A q else 0) n) (g := A) (fun q hq => by
    rw [ek_snext (g := fun d => if d = q % 9 then A q else 0) (fun d _ => by
      by_cases y : d = q % 9
      · rw [if_pos y, if_pos y.symm]
      · rw [if_neg y, if_neg (fun z => y z.symm)]), ek_snone]
    rcases Nat.eq_zero_or_pos (A q) with z | z
    · rw [z]; split <;> rfl
    · rw [if_pos (hI.1 q hq z).1]), Nat.add_comm]
def ek_ps (p : Nat → Nat) (c : Int32) (n : Nat) : Nat := ek_sn (fun d => if ek_bt c d then p d else 0) n
theorem ek_psg {p : Nat → Nat} {c : Int32} {n z : Nat} (hn : n ≤ 9) (hz : z < n) (hb : ek_bt c z = false) : ek_ps p (ek_sg c z) n = ek_ps p c n + p z := by
  unfold ek_ps
  rw [← ek_snupd (p := z) hz]
  refine ek_snext (fun d hd => ?_)
  unfold ek_sg
  rw [ek_bset c (by omega) (by omega)]
  by_cases y : z = d
  · subst y
    rw [hb]; simp
  · rw [decide_eq_false y, Bool.or_false, if_neg (show ¬ d = z from fun w => y w.symm), Nat.add_zero]
theorem ek_psle {p : Nat → Nat} {c : Int32} {n : Nat} : ek_ps p c n ≤ ek_sn p n := ek_snle (fun d _ => by split <;> omega)
theorem ek_unset {c : Int32} : ∀ {n : Nat}, 0 < ek_uc c n → ∃ k, k < n ∧ ek_bt c k = false := by
  intro n
  induction n with
  | zero => intro h; exact absurd h (by show ¬ 0 < 0; omega)
  | succ n ih =>
    intro h
    cases e : ek_bt c n
    · exact ⟨n, by omega, e⟩
    · have h' : 0 < ek_uc c n + (if ek_bt c n then 0 else 1) := h
      rw [e] at h'
      obtain ⟨k, hk, g⟩ := ih (by simpa using h')
      exact ⟨k, by omega, g⟩
theorem ek_psall {p : Nat → Nat} {c : Int32} {n : Nat} (hn : n ≤ 9) (hc : ek_sub n c) (h : ek_uc c n = 0) : ek_ps p c n = ek_sn p n := by
  have e := ek_uc0 hn hc h
  unfold ek_ps
  refine ek_snext (fun d hd => ?_)
  rw [e]
  unfold ek_all
  rw [ek_allb n hn d (by omega), decide_eq_true hd, if_pos rfl]
