/-! a company: the top, how many people, heights of steps, ropes, and of each one: kind, height, weight, strength, load, where he is told to be -/
abbrev Co : Type := Nat × Nat × (Nat → Nat) × (Nat → Bool) × (Nat → Nat → Nat)
def cTop (c : Co) : Nat := c.1
def cN (c : Co) : Nat := c.2.1
def cH (c : Co) : Nat → Nat := c.2.2.1
def cR (c : Co) : Nat → Bool := c.2.2.2.1
def cP (c : Co) : Nat → Nat → Nat := c.2.2.2.2
def cBurd (c : Co) (p : Nat) : Nat := cP c p 2 + cP c p 4
def cHand (c : Co) (p : Nat) : Nat := if cP c p 0 = 1 then 2 * cP c p 3 else cP c p 3
def cAlone (c : Co) (l p : Nat) : Bool := decide (cH c l ≤ cP c p 1) || (cR c l && decide (cBurd c p ≤ cP c p 3))
def oHand (c : Co) (o : Option Nat) : Nat := match o with
  | none => 0
  | some q => cHand c q
def oTall (c : Co) (o : Option Nat) : Nat := match o with
  | none => 0
  | some q => cP c q 1
def oAt (M : Nat → Bool) (lv : Nat → Nat) (l : Nat) (o : Option Nat) : Bool := match o with
  | none => true
  | some q => M q && decide (lv q = l)
/-- can p go up from where he is, with these -/
def cUp (c : Co) (M : Nat → Bool) (lv : Nat → Nat) (p : Nat) (li pu : Option Nat) : Bool :=
  decide (lv p < cTop c) && decide (cP c p 0 ≠ 3) &&
  (bif li.isNone && pu.isNone then cAlone c (lv p) p else
    !cAlone c (lv p) p && decide (cP c p 0 ≠ 2) && oAt M lv (lv p) li && oAt M lv (lv p + 1) pu && decide (cBurd c p ≤ oHand c li + oHand c pu) && decide (cH c (lv p) ≤ cP c p 1 + oTall c li + oTall c pu / 2))
def cDn (c : Co) (M : Nat → Bool) (lv : Nat → Nat) (p : Nat) (ca : Option Nat) : Bool :=
  decide (0 < lv p) && decide (cP c p 0 ≠ 3) &&
  (match ca with
    | none => decide (cH c (lv p - 1) ≤ cP c p 1) || cR c (lv p - 1)
    | some q => !(decide (cH c (lv p - 1) ≤ cP c p 1) || cR c (lv p - 1)) && decide (cP c p 0 ≠ 2) && (M q && decide (lv q = lv p - 1)) && decide (cBurd c p ≤ cHand c q))
def cOk (c : Co) : Prop := (1 ≤ cTop c ∧ cTop c ≤ 4) ∧ cN c ≤ 5 ∧ (∀ i, i < 4 → cH c i ≤ 60) ∧ ∀ p, p < cN c → cP c p 0 ≤ 3 ∧ cP c p 1 ≤ 30 ∧ (1 ≤ cP c p 2 ∧ cP c p 2 ≤ 50) ∧ cP c p 3 ≤ 99 ∧ cP c p 4 ≤ 49 ∧ cP c p 5 ≤ cTop c
def lvOk (c : Co) (lv : Nat → Nat) : Prop := ∀ p, p < cN c → lv p ≤ cTop c
/-- a row of levels in memory -/
def RL (s : qMem) (r : Nat) (n : Nat) (lv : Nat → Nat) : Prop := ∀ p, p < n → s.1 r p = nI (lv p)
/-- GiantStair$Told at t -/
def RT (s : qMem) (t : Nat) (c : Co) : Prop := s.1 t 0 = nI (cTop c) ∧ s.1 t 1 = nI (cN c) ∧ (∀ i, i < 4 → s.1 (t + 1) i = nI (cH c i) ∧ s.1 (t + 2) i = b2i (cR c i)) ∧ ∀ p, p < cN c → s.1 (t + 3) p = nI (cP c p 0) ∧ s.1 (t + 4) p = nI (cP c p 1) ∧ s.1 (t + 5) p = nI (cP c p 2) ∧ s.1 (t + 6) p = nI (cBurd c p) ∧ s.1 (t + 7) p = nI (cP c p 3) ∧ s.1 (t + 8) p = nI (cP c p 5)
def ALL : Nat → Bool := fun _ => true
theorem cHand_le {c : Co} (hk : cOk c) {p : Nat} (hp : p < cN c) : cHand c p ≤ 198 := by
  have h := hk.2.2.2 p hp
  unfold cHand
  split <;> omega
theorem oHand_le {c : Co} (hk : cOk c) {j : Nat} (hj : j ≤ cN c) : oHand c (hO j) ≤ 198 := by
  cases j with
  | zero => exact Nat.zero_le _
  | succ p => exact cHand_le hk hj
theorem oTall_le {c : Co} (hk : cOk c) {j : Nat} (hj : j ≤ cN c) : oTall c (hO j) ≤ 30 := by
  cases j with
  | zero => exact Nat.zero_le _
  | succ p => exact (hk.2.2.2 p hj).2.1
section TOLD
variable {d t r : Nat} {s : qMem} {c : Co} {lv : Nat → Nat}
theorem t_isOne (ht : t = 1 ∨ t = 10) (hR : RT s t c) (hk : cOk c) {p : Nat} (hp : p < cN c) : m_T_isOne (d + 1) t (nI p) s = some (nI 1, s) := by
  have h5 := hk.2.1
  rw [e_T_isOne d t _ ht s, hR.2.1]
  simp (disch := omega) only [sm_some, q_lit, q_neg1, nI_leI, nI_ltI, nI_eq, nI_cl, qIn_iff, nI_d0, d0_nI, dI_d0, dI_le, dI_eq, dI_n1, nI_1, nI_add, pk_mul, pk_div, nI_lt0, if_pos, if_neg, if_true, if_false]
theorem t_isOne_out (ht : t = 1 ∨ t = 10) (hR : RT s t c) (hk : cOk c) {x : Int32} (hx : ∀ p, p < cN c → x ≠ nI p) : m_T_isOne (d + 1) t x s = some (nI 0, s) := by
  have h5 := hk.2.1
  rw [e_T_isOne d t _ ht s, hR.2.1]
  rcases i_out (by omega) hx with h | h
  · rw [if_pos h]
    rfl
  · rw [if_pos h, ite_self]
    rfl
theorem t_isStep (ht : t = 1 ∨ t = 10) (hR : RT s t c) (hk : cOk c) {i : Nat} (hi : i < 2 ^ 31) : m_T_isStep (d + 1) t (nI i) s = some (b2i (decide (i < cTop c)), s) := by
  have h5 := hk.1
  rw [e_T_isStep d t _ ht s, hR.1]
  by_cases h : i < cTop c
  · rw [decide_eq_true h]
    simp (disch := omega) only [sm_some, q_lit, q_neg1, nI_leI, nI_ltI, nI_eq, nI_cl, qIn_iff, nI_d0, d0_nI, dI_d0, dI_le, dI_eq, dI_n1, nI_1, nI_add, pk_mul, pk_div, nI_lt0, if_pos, if_neg, if_true, if_false]
    rfl
  · rw [decide_eq_false h]
    simp (disch := omega) only [sm_some, q_lit, q_neg1, nI_leI, nI_ltI, nI_eq, nI_cl, qIn_iff, nI_d0, d0_nI, dI_d0, dI_le, dI_eq, dI_n1, nI_1, nI_add, pk_mul, pk_div, nI_lt0, if_pos, if_neg, if_true, if_false]
    rfl
theorem t_isStep_m1 (ht : t = 1 ∨ t = 10) : m_T_isStep (d + 1) t (dI 0) s = some (b2i false, s) := by
  rw [e_T_isStep d t _ ht s, if_pos (by decide)]
  rfl
theorem t_goes (ht : t = 1 ∨ t = 10) (hR : RT s t c) (hk : cOk c) {p : Nat} (hp : p < cN c) : m_T_goes (d + 2) t (nI p) s = some (b2i (decide (cP c p 0 ≠ 3)), s) := by
  have h5 := hk.2.1
  have h3 := hk.2.2.2 p hp
  rw [e_T_goes (d + 1) t _ ht s, t_isOne ht hR hk hp]
  by_cases h : cP c p 0 = 3
  · rw [decide_eq_false (by omega)]
    simp (disch := omega) only [sm_some, q_lit, q_neg1, nI_leI, nI_ltI, nI_eq, nI_cl, qIn_iff, nI_d0, d0_nI, dI_d0, dI_le, dI_eq, dI_n1, nI_1, nI_add, pk_mul, pk_div, nI_lt0, if_pos, if_neg, if_true, if_false, (hR.2.2.2 p hp).1]
    rfl
  · rw [decide_eq_true h]
    simp (disch := omega) only [sm_some, q_lit, q_neg1, nI_leI, nI_ltI, nI_eq, nI_cl, qIn_iff, nI_d0, d0_nI, dI_d0, dI_le, dI_eq, dI_n1, nI_1, nI_add, pk_mul, pk_div, nI_lt0, if_pos, if_neg, if_true, if_false, (hR.2.2.2 p hp).1]
    rfl
theorem t_hand (ht : t = 1 ∨ t = 10) (hR : RT s t c) (hk : cOk c) {j : Nat} (hj : j ≤ cN c) : m_T_hand (d + 2) t (dI j) s = some (nI (oHand c (hO j)), s) := by
  have h5 := hk.2.1
  rw [e_T_hand (d + 1) t _ ht s]
  cases j with
  | zero =>
    rw [t_isOne_out ht hR hk (x := dI 0) (fun p hp e => nI_m1 (by omega) e.symm)]
    simp (disch := omega) only [sm_some, q_lit, q_neg1, nI_leI, nI_ltI, nI_eq, nI_cl, qIn_iff, nI_d0, d0_nI, dI_d0, dI_le, dI_eq, dI_n1, nI_1, nI_add, pk_mul, pk_div, nI_lt0, if_pos, if_neg, if_true, if_false]
    rfl
  | succ p =>
    have hp : p < cN c := hj
    have h3 := hk.2.2.2 p hp
    show _ = some (nI (cHand c p), s)
    unfold cHand
    rw [dI_s, t_isOne ht hR hk hp]
    simp (disch := omega) only [sm_some, q_lit, q_neg1, nI_leI, nI_ltI, nI_eq, nI_cl, qIn_iff, nI_d0, d0_nI, dI_d0, dI_le, dI_eq, dI_n1, nI_1, nI_add, pk_mul, pk_div, nI_lt0, if_pos, if_neg, if_true, if_false, (hR.2.2.2 p hp).1, (hR.2.2.2 p hp).2.2.2.2.1]
    by_cases h : cP c p 0 = 1
    · simp (disch := omega) only [sm_some, q_lit, q_neg1, nI_leI, nI_ltI, nI_eq, nI_cl, qIn_iff, nI_d0, d0_nI, dI_d0, dI_le, dI_eq, dI_n1, nI_1, nI_add, pk_mul, pk_div, nI_lt0, if_pos, if_neg, if_true, if_false]
    · simp (disch := omega) only [sm_some, q_lit, q_neg1, nI_leI, nI_ltI, nI_eq, nI_cl, qIn_iff, nI_d0, d0_nI, dI_d0, dI_le, dI_eq, dI_n1, nI_1, nI_add, pk_mul, pk_div, nI_lt0, if_pos, if_neg, if_true, if_false]
theorem t_tall (ht : t = 1 ∨ t = 10) (hR : RT s t c) (hk : cOk c) {j : Nat} (hj : j ≤ cN c) : m_T_tallness (d + 2) t (dI j) s = some (nI (oTall c (hO j)), s) := by
  have h5 := hk.2.1
  rw [e_T_tallness (d + 1) t _ ht s]
  cases j with
  | zero =>
    rw [t_isOne_out ht hR hk (x := dI 0) (fun p hp e => nI_m1 (by omega) e.symm)]
    simp (disch := omega) only [sm_some, q_lit, q_neg1, nI_leI, nI_ltI, nI_eq, nI_cl, qIn_iff, nI_d0, d0_nI, dI_d0, dI_le, dI_eq, dI_n1, nI_1, nI_add, pk_mul, pk_div, nI_lt0, if_pos, if_neg, if_true, if_false]
    rfl
  | succ p =>
    have hp : p < cN c := hj
    rw [dI_s, t_isOne ht hR hk hp]
    simp (disch := omega) only [sm_some, q_lit, q_neg1, nI_leI, nI_ltI, nI_eq, nI_cl, qIn_iff, nI_d0, d0_nI, dI_d0, dI_le, dI_eq, dI_n1, nI_1, nI_add, pk_mul, pk_div, nI_lt0, if_pos, if_neg, if_true, if_false, (hR.2.2.2 p hp).2.1]
    rfl
/-- where told rows and rows of levels may be together -/
def tr (t r : Nat) : Prop := (t = 1 ∧ r = 23) ∨ (t = 1 ∧ r = 30) ∨ (t = 1 ∧ r = 33) ∨ (t = 10 ∧ r = 30)
theorem tr_t (h : tr t r) : t = 1 ∨ t = 10 := by
  rcases h with h | h | h | h
  · exact Or.inl h.1
  · exact Or.inl h.1
  · exact Or.inl h.1
  · exact Or.inr h.1
/-- a helper j stands ab above p -/
def cSt (lv : Nat → Nat) (j p l : Nat) : Bool := match hO j with
  | none => false
  | some q => decide (q ≠ p) && decide (lv q = l)
theorem t_stands (hc : tr t r) (hR : RT s t c) (hk : cOk c) (hL : RL s r (cN c) lv) (hl : lvOk c lv) {j p : Nat} {ab : Int32} {l : Nat} (hj : j ≤ cN c) (hp : p < cN c) (hab : nI (lv p) + ab = nI l) (hl2 : l < 2 ^ 31) : m_T_standsAt (d + 2) t (dI j) (nI p) ab r s = some (b2i (cSt lv j p l), s) := by
  have h5 := hk.2.1
  have ht := tr_t hc
  rw [e_T_standsAt (d + 1) t _ _ _ r hc s]
  cases j with
  | zero =>
    rw [t_isOne_out ht hR hk (x := dI 0) (fun p hp e => nI_m1 (by omega) e.symm)]
    simp (disch := omega) only [sm_some, q_lit, q_neg1, nI_leI, nI_ltI, nI_eq, nI_cl, qIn_iff, nI_d0, d0_nI, dI_d0, dI_le, dI_eq, dI_n1, nI_1, nI_add, pk_mul, pk_div, nI_lt0, if_pos, if_neg, if_true, if_false]
    rfl
  | succ q =>
    have hq : q < cN c := hj
    have h4 := hk.1.2
    have hlq := hl q hq
    rw [dI_s, t_isOne ht hR hk hq]
    show _ = some (b2i (decide (q ≠ p) && decide (lv q = l)), s)
    by_cases hqp : q = p
    · subst hqp
      rw [decide_eq_false (by omega)]
      simp (disch := omega) only [sm_some, q_lit, q_neg1, nI_leI, nI_ltI, nI_eq, nI_cl, qIn_iff, nI_d0, d0_nI, dI_d0, dI_le, dI_eq, dI_n1, nI_1, nI_add, pk_mul, pk_div, nI_lt0, if_pos, if_neg, if_true, if_false, ne_eq, not_true, if_true]
      rfl
    · rw [decide_eq_true hqp]
      simp (disch := omega) only [sm_some, q_lit, q_neg1, nI_leI, nI_ltI, nI_eq, nI_cl, qIn_iff, nI_d0, d0_nI, dI_d0, dI_le, dI_eq, dI_n1, nI_1, nI_add, pk_mul, pk_div, nI_lt0, if_pos, if_neg, if_true, if_false, hL q hq, hL p hp, hab]
      by_cases h : lv q = l
      · rw [decide_eq_true h]
        simp (disch := omega) only [sm_some, q_lit, q_neg1, nI_leI, nI_ltI, nI_eq, nI_cl, qIn_iff, nI_d0, d0_nI, dI_d0, dI_le, dI_eq, dI_n1, nI_1, nI_add, pk_mul, pk_div, nI_lt0, if_pos, if_neg, if_true, if_false]
        rfl
      · rw [decide_eq_false h]
        simp (disch := omega) only [sm_some, q_lit, q_neg1, nI_leI, nI_ltI, nI_eq, nI_cl, qIn_iff, nI_d0, d0_nI, dI_d0, dI_le, dI_eq, dI_n1, nI_1, nI_add, pk_mul, pk_div, nI_lt0, if_pos, if_neg, if_true, if_false]
        rfl
end TOLD
