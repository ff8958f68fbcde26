/-! who can go up and down, by GiantStair -/
section RISE
variable {d t r : Nat} {s : qMem} {c : Co} {lv : Nat → Nat}
/-- a helper's place is right (nobody: right) -/
def cPl (lv : Nat → Nat) (j p l : Nat) : Bool := decide (j = 0) || cSt lv j p l
theorem cPl_oAt {lv : Nat → Nat} {j p l : Nat} : cPl lv j p l = (decide (j ≠ p + 1) && oAt ALL lv l (hO j)) := by
  cases j with
  | zero =>
    show (true || _) = (decide (0 ≠ p + 1) && true)
    rw [decide_eq_true (by omega)]
    rfl
  | succ q =>
    show (false || (decide (q ≠ p) && decide (lv q = l))) = (decide (q + 1 ≠ p + 1) && (true && decide (lv q = l)))
    rw [Bool.false_or, Bool.true_and]
    congr 1
    by_cases h : q = p
    · rw [decide_eq_false (by omega), decide_eq_false (by omega)]
    · rw [decide_eq_true (by omega), decide_eq_true (by omega)]
/-- strong and tall enough, these two -/
def cBr (c : Co) (p j k l : Nat) : Bool := decide (cP c p 0 ≠ 2) && (decide (cBurd c p ≤ oHand c (hO j) + oHand c (hO k)) && decide (cH c l ≤ cP c p 1 + oTall c (hO j) + oTall c (hO k) / 2))
theorem b2i_same {b : Bool} {s : qMem} : (if b2i b = nI 0 then some (nI 0, s) else some (nI 1, s)) = some (b2i b, s) := by
  cases b with
  | false => rw [bfn]; rfl
  | true => rw [btn]; rfl
theorem hO_none : ∀ q : Nat, (hO q).isNone = decide (q = 0) := by
  intro q
  cases q with
  | zero => rfl
  | succ q => exact (decide_eq_false (by omega)).symm
theorem cUp_eq {p j k : Nat} (h3 : cP c p 0 ≠ 3) (h1 : lv p < cTop c) : cUp c ALL lv p (hO j) (hO k) = (bif decide (j = 0) && decide (k = 0) then cAlone c (lv p) p else !cAlone c (lv p) p && decide (cP c p 0 ≠ 2) && oAt ALL lv (lv p) (hO j) && oAt ALL lv (lv p + 1) (hO k) && decide (cBurd c p ≤ oHand c (hO j) + oHand c (hO k)) && decide (cH c (lv p) ≤ cP c p 1 + oTall c (hO j) + oTall c (hO k) / 2)) := by
  unfold cUp
  rw [decide_eq_true h1, decide_eq_true (p := cP c p 0 ≠ 3) h3, hO_none, hO_none]
  rfl
theorem cUp_alone {p j k : Nat} (h3 : cP c p 0 ≠ 3) (h1 : lv p < cTop c) (ha : cAlone c (lv p) p = true) : (decide (j ≠ p + 1) && decide (k ≠ p + 1) && cUp c ALL lv p (hO j) (hO k)) = (decide (j = 0) && decide (k = 0)) := by
  rw [cUp_eq h3 h1, ha]
  by_cases j0 : j = 0
  · by_cases k0 : k = 0
    · rw [decide_eq_true j0, decide_eq_true k0, decide_eq_true (p := j ≠ p + 1) (by omega), decide_eq_true (p := k ≠ p + 1) (by omega)]
      rfl
    · rw [decide_eq_true j0, decide_eq_false k0]
      simp
  · rw [decide_eq_false j0]
    simp
theorem cUp_notal {p j k : Nat} (hk : cOk c) (hp : p < cN c) (h3 : cP c p 0 ≠ 3) (h1 : lv p < cTop c) (ha : cAlone c (lv p) p = false) : (decide (j ≠ p + 1) && decide (k ≠ p + 1) && cUp c ALL lv p (hO j) (hO k)) = (cPl lv j p (lv p) && (cPl lv k p (lv p + 1) && cBr c p j k (lv p))) := by
  have h3b := hk.2.2.2 p hp
  have hb1 : 1 ≤ cBurd c p := by unfold cBurd; omega
  unfold cBr
  rw [cUp_eq h3 h1, ha, cPl_oAt, cPl_oAt]
  by_cases j0 : j = 0
  · by_cases k0 : k = 0
    · subst j0; subst k0
      have e2 : decide (cBurd c p ≤ oHand c (hO 0) + oHand c (hO 0)) = false := decide_eq_false (by show ¬ cBurd c p ≤ 0 + 0; omega)
      rw [e2]
      simp
    · rw [decide_eq_true j0, decide_eq_false k0]
      simp only [Bool.and_false, cond_false, Bool.not_false, Bool.true_and]
      ac_rfl
  · rw [decide_eq_false j0]
    simp only [Bool.false_and, cond_false, Bool.not_false, Bool.true_and]
    ac_rfl
theorem t_alone (ht : t = 1 ∨ t = 10) (hR : RT s t c) (hk : cOk c) {p l : Nat} (hp : p < cN c) (hl4 : l < 4) : m_T_risesAlone (d + 1) t (nI p) (nI l) s = some (b2i (cAlone c l p), s) := by
  have h5 := hk.2.1
  have hh := hk.2.2.1 l hl4
  have h3 := hk.2.2.2 p hp
  have hb : cBurd c p ≤ 99 := by unfold cBurd; omega
  rw [e_T_risesAlone d t _ _ ht s]
  simp (disch := omega) only [sm_some, q_lit, q_neg1, nI_leI, nI_ltI, nI_eq, nI_cl, qIn_iff, nI_d0, d0_nI, dI_d0, dI_le, dI_eq, dI_n1, nI_1, nI_add, pk_mul, pk_div, nI_lt0, if_pos, if_neg, if_true, if_false, (hR.2.2.2 p hp).2.1, (hR.2.2.2 p hp).2.2.2.1, (hR.2.2.2 p hp).2.2.2.2.1, (hR.2.2.1 l hl4).1, (hR.2.2.1 l hl4).2]
  unfold cAlone
  by_cases c1 : cH c l ≤ cP c p 1
  · rw [if_pos c1, decide_eq_true c1]
    rfl
  · rw [if_neg c1, decide_eq_false c1, Bool.false_or]
    cases c2 : cR c l with
    | false =>
      rw [bfn]
      rfl
    | true =>
      rw [btn, Bool.true_and]
      by_cases c3 : cP c p 3 < cBurd c p
      · rw [if_pos c3, decide_eq_false (by omega)]
        rfl
      · rw [if_neg c3, decide_eq_true (by omega)]
        rfl
theorem t_sinkAlone (ht : t = 1 ∨ t = 10) (hR : RT s t c) (hk : cOk c) {p l : Nat} (hp : p < cN c) (hl4 : l < 4) : m_T_sinksAlone (d + 1) t (nI p) (nI l) s = some (b2i (decide (cH c l ≤ cP c p 1) || cR c l), s) := by
  have h5 := hk.2.1
  have hh := hk.2.2.1 l hl4
  have h3 := hk.2.2.2 p hp
  rw [e_T_sinksAlone d t _ _ ht s]
  simp (disch := omega) only [sm_some, q_lit, q_neg1, nI_leI, nI_ltI, nI_eq, nI_cl, qIn_iff, nI_d0, d0_nI, dI_d0, dI_le, dI_eq, dI_n1, nI_1, nI_add, pk_mul, pk_div, nI_lt0, if_pos, if_neg, if_true, if_false, (hR.2.2.2 p hp).2.1, (hR.2.2.1 l hl4).1, (hR.2.2.1 l hl4).2]
  by_cases c1 : cH c l ≤ cP c p 1
  · rw [if_pos c1, decide_eq_true c1]
    rfl
  · rw [if_neg c1, decide_eq_false c1, Bool.false_or]
    cases c2 : cR c l with
    | false =>
      rw [bfn]
      rfl
    | true =>
      rw [btn]
      rfl
theorem t_standsFor (hc : tr t r) (hR : RT s t c) (hk : cOk c) (hL : RL s r (cN c) lv) (hl : lvOk c lv) {j p : Nat} {ab : Int32} {l : Nat} (hj : j ≤ cN c) (hp : p < cN c) (hab : nI (lv p) + ab = nI l) (hl2 : l < 2 ^ 31) : m_T_standsFor (d + 3) t (dI j) (nI p) ab r s = some (b2i (cPl lv j p l), s) := by
  have h5 := hk.2.1
  rw [e_T_standsFor (d + 2) t _ _ _ r hc s]
  unfold cPl
  by_cases h0 : j = 0
  · rw [decide_eq_true h0]
    simp (disch := omega) only [sm_some, q_lit, q_neg1, nI_leI, nI_ltI, nI_eq, nI_cl, qIn_iff, nI_d0, d0_nI, dI_d0, dI_le, dI_eq, dI_n1, nI_1, nI_add, pk_mul, pk_div, nI_lt0, if_pos, if_neg, if_true, if_false]
    rfl
  · rw [decide_eq_false h0]
    simp (disch := omega) only [sm_some, q_lit, q_neg1, nI_leI, nI_ltI, nI_eq, nI_cl, qIn_iff, nI_d0, d0_nI, dI_d0, dI_le, dI_eq, dI_n1, nI_1, nI_add, pk_mul, pk_div, nI_lt0, if_pos, if_neg, if_true, if_false]
    rw [t_stands hc hR hk hL hl hj hp hab hl2, sm_some]
    dsimp only
    rw [Bool.false_or]
    exact b2i_same
theorem t_bring (ht : t = 1 ∨ t = 10) (hR : RT s t c) (hk : cOk c) {p j k l : Nat} (hp : p < cN c) (hj : j ≤ cN c) (hk2 : k ≤ cN c) (hl4 : l < 4) : m_T_bringUp (d + 3) t (nI p) (dI j) (dI k) (nI l) s = some (b2i (cBr c p j k l), s) := by
  have h5 := hk.2.1
  have h3 := hk.2.2.2 p hp
  have hh := hk.2.2.1 l hl4
  have a1 := oHand_le hk hj
  have a2 := oHand_le hk hk2
  have a3 := oTall_le hk hj
  have a4 := oTall_le hk hk2
  have hb : cBurd c p ≤ 99 := by unfold cBurd; omega
  unfold cBr
  rw [e_T_bringUp (d + 2) t _ _ _ _ ht s]
  simp (disch := omega) only [sm_some, q_lit, q_neg1, nI_leI, nI_ltI, nI_eq, nI_cl, qIn_iff, nI_d0, d0_nI, dI_d0, dI_le, dI_eq, dI_n1, nI_1, nI_add, pk_mul, pk_div, nI_lt0, if_pos, if_neg, if_true, if_false, (hR.2.2.2 p hp).1]
  by_cases h2 : cP c p 0 = 2
  · rw [decide_eq_false (p := cP c p 0 ≠ 2) (by omega)]
    simp (disch := omega) only [sm_some, q_lit, q_neg1, nI_leI, nI_ltI, nI_eq, nI_cl, qIn_iff, nI_d0, d0_nI, dI_d0, dI_le, dI_eq, dI_n1, nI_1, nI_add, pk_mul, pk_div, nI_lt0, if_pos, if_neg, if_true, if_false]
    rfl
  · rw [decide_eq_true (p := cP c p 0 ≠ 2) h2, Bool.true_and]
    simp (disch := omega) only [sm_some, q_lit, q_neg1, nI_leI, nI_ltI, nI_eq, nI_cl, qIn_iff, nI_d0, d0_nI, dI_d0, dI_le, dI_eq, dI_n1, nI_1, nI_add, pk_mul, pk_div, nI_lt0, if_pos, if_neg, if_true, if_false]
    rw [t_hand ht hR hk hj, sm_some, t_hand ht hR hk hk2, sm_some]
    by_cases h1 : cBurd c p ≤ oHand c (hO j) + oHand c (hO k)
    · rw [decide_eq_true h1]
      simp (disch := omega) only [sm_some, q_lit, q_neg1, nI_leI, nI_ltI, nI_eq, nI_cl, qIn_iff, nI_d0, d0_nI, dI_d0, dI_le, dI_eq, dI_n1, nI_1, nI_add, pk_mul, pk_div, nI_lt0, if_pos, if_neg, if_true, if_false, (hR.2.2.2 p hp).2.2.2.1]
      rw [t_tall ht hR hk hj, sm_some, t_tall ht hR hk hk2, sm_some]
      simp (disch := omega) only [sm_some, q_lit, q_neg1, nI_leI, nI_ltI, nI_eq, nI_cl, qIn_iff, nI_d0, d0_nI, dI_d0, dI_le, dI_eq, dI_n1, nI_1, nI_add, pk_mul, pk_div, nI_lt0, if_pos, if_neg, if_true, if_false, (hR.2.2.2 p hp).2.1, (hR.2.2.1 l hl4).1]
      by_cases h4 : cH c l ≤ cP c p 1 + oTall c (hO j) + oTall c (hO k) / 2
      · rw [decide_eq_true h4]
        simp (disch := omega) only [sm_some, q_lit, q_neg1, nI_leI, nI_ltI, nI_eq, nI_cl, qIn_iff, nI_d0, d0_nI, dI_d0, dI_le, dI_eq, dI_n1, nI_1, nI_add, pk_mul, pk_div, nI_lt0, if_pos, if_neg, if_true, if_false]
        rfl
      · rw [decide_eq_false h4]
        simp (disch := omega) only [sm_some, q_lit, q_neg1, nI_leI, nI_ltI, nI_eq, nI_cl, qIn_iff, nI_d0, d0_nI, dI_d0, dI_le, dI_eq, dI_n1, nI_1, nI_add, pk_mul, pk_div, nI_lt0, if_pos, if_neg, if_true, if_false]
        rfl
    · rw [decide_eq_false h1]
      simp (disch := omega) only [sm_some, q_lit, q_neg1, nI_leI, nI_ltI, nI_eq, nI_cl, qIn_iff, nI_d0, d0_nI, dI_d0, dI_le, dI_eq, dI_n1, nI_1, nI_add, pk_mul, pk_div, nI_lt0, if_pos, if_neg, if_true, if_false, (hR.2.2.2 p hp).2.2.2.1]
      rfl
/-- GiantStair$Told.risesBy -/
theorem t_rises (hc : tr t r) (hR : RT s t c) (hk : cOk c) (hL : RL s r (cN c) lv) (hl : lvOk c lv) {p j k : Nat} (hp : p < cN c) (hj : j ≤ cN c) (hk2 : k ≤ cN c) : m_T_risesBy (d + 4) t (nI p) (dI j) (dI k) r s = some (b2i (decide (j ≠ p + 1) && decide (k ≠ p + 1) && cUp c ALL lv p (hO j) (hO k)), s) := by
  have h5 := hk.2.1
  have ht := tr_t hc
  have hlp := hl p hp
  have h4 := hk.1
  rw [e_T_risesBy (d + 3) t _ _ _ r hc s, t_goes ht hR hk hp, sm_some]
  dsimp only
  by_cases h0 : cP c p 0 = 3
  · have e : cUp c ALL lv p (hO j) (hO k) = false := by
      unfold cUp
      rw [decide_eq_false (p := cP c p 0 ≠ 3) (by omega), Bool.and_false, Bool.false_and]
    rw [e, Bool.and_false, decide_eq_false (by omega), bf0]
    rfl
  · rw [decide_eq_true (p := cP c p 0 ≠ 3) h0, bt0]
    simp (disch := omega) only [sm_some, q_lit, q_neg1, nI_leI, nI_ltI, nI_eq, nI_cl, qIn_iff, nI_d0, d0_nI, dI_d0, dI_le, dI_eq, dI_n1, nI_1, nI_add, pk_mul, pk_div, nI_lt0, if_pos, if_neg, if_true, if_false, hL p hp]
    rw [t_isStep ht hR hk (by omega), sm_some]
    dsimp only
    by_cases h1 : lv p < cTop c
    · rw [decide_eq_true h1, btn]
      have hl4 : lv p < 4 := by omega
      rw [hL p hp, t_alone ht hR hk hp hl4, sm_some]
      dsimp only
      cases ha : cAlone c (lv p) p with
      | true =>
        rw [btn, cUp_alone h0 h1 ha]
        by_cases j0 : j = 0
        · by_cases k0 : k = 0
          · rw [if_pos j0, if_pos k0, decide_eq_true j0, decide_eq_true k0]
            rfl
          · rw [if_pos j0, if_neg k0, decide_eq_true j0, decide_eq_false k0]
            rfl
        · rw [if_neg j0, decide_eq_false j0]
          rfl
      | false =>
        rw [bfn, cUp_notal hk hp h0 h1 ha, t_standsFor hc hR hk hL hl hj hp (l := lv p) (nI_add _ 0) (by omega), sm_some]
        dsimp only
        cases cPl lv j p (lv p) with
        | false =>
          rw [bfn]
          rfl
        | true =>
          rw [btn, Bool.true_and, t_standsFor hc hR hk hL hl hk2 hp (l := lv p + 1) (nI_add _ 1) (by omega), sm_some]
          dsimp only
          cases cPl lv k p (lv p + 1) with
          | false =>
            rw [bfn]
            rfl
          | true =>
            rw [btn, Bool.true_and, hL p hp, t_bring ht hR hk hp hj hk2 hl4, sm_some]
            exact b2i_same
    · rw [decide_eq_false h1, bfn]
      have e : cUp c ALL lv p (hO j) (hO k) = false := by
        unfold cUp
        rw [decide_eq_false h1, Bool.false_and, Bool.false_and]
      rw [e, Bool.and_false]
      rfl
end RISE
