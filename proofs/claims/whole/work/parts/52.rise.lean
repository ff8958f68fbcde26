/-! who can go up and down, by GiantStair -/
section RISE
variable {d t r : Nat} {s : qMem} {c : Co} {lv : Nat → Nat}
/-- a helper's place is right (nobody: right) -/
def cPl (lv : Nat → Nat) (j p l : Nat) : Bool := decide (j = 0) || cSt lv j p l
theorem cPl_oAt {lv : Nat → Nat} {j p l : Nat} : cPl lv j p l = (decide (j ≠ p + 1) && oAt ALL lv l (hO j)) := by
  cases j with
  | zero =>
    show (true || _) = (decide (0 ≠ p + 1) && true)
    rw [decide_eq_true (by omega)]
    rfl
  | succ q =>
    show (false || (decide (q ≠ p) && decide (lv q = l))) = (decide (q + 1 ≠ p + 1) && (true && decide (lv q = l)))
    rw [Bool.false_or, Bool.true_and]
    congr 1
    by_cases h : q = p
    · rw [decide_eq_false (by omega), decide_eq_false (by omega)]
    · rw [decide_eq_true (by omega), decide_eq_true (by omega)]
theorem t_rises3 (hc : tr t r) (hR : RT s t c) (hk : cOk c) {p j k l : Nat} (hp : p < cN c) (hj : j ≤ cN c) (hk2 : k ≤ cN c) (hl4 : l < 4) : l_T_risesBy_3 (d + 2) t r (nI p) (dI j) (dI k) (nI l) s = some (b2i (decide (cBurd c p ≤ oHand c (hO j) + oHand c (hO k)) && decide (cH c l ≤ cP c p 1 + oTall c (hO j) + oTall c (hO k) / 2)), s) := by
  have h5 := hk.2.1
  have ht := tr_t hc
  have h3 := hk.2.2.2 p hp
  have hh := hk.2.2.1 l hl4
  have a1 := oHand_le hk hj
  have a2 := oHand_le hk hk2
  have a3 := oTall_le hk hj
  have a4 := oTall_le hk hk2
  have hb : cBurd c p ≤ 99 := by unfold cBurd; omega
  rw [el_T_risesBy_3 _ _ _ _ _ _ _ hc s, t_hand ht hR hk hj, sm_some, t_hand ht hR hk hk2, sm_some]
  by_cases h1 : cBurd c p ≤ oHand c (hO j) + oHand c (hO k)
  · rw [decide_eq_true h1]
    simp (disch := omega) only [sm_some, q_lit, q_neg1, nI_leI, nI_ltI, nI_eq, nI_cl, qIn_iff, nI_d0, d0_nI, dI_d0, dI_le, dI_eq, dI_n1, nI_1, nI_add, pk_mul, pk_div, nI_lt0, if_pos, if_neg, if_true, if_false, (hR.2.2.2 p hp).2.2.2.1]
    rw [t_tall ht hR hk hj, sm_some, t_tall ht hR hk hk2, sm_some]
    simp (disch := omega) only [sm_some, q_lit, q_neg1, nI_leI, nI_ltI, nI_eq, nI_cl, qIn_iff, nI_d0, d0_nI, dI_d0, dI_le, dI_eq, dI_n1, nI_1, nI_add, pk_mul, pk_div, nI_lt0, if_pos, if_neg, if_true, if_false, (hR.2.2.2 p hp).2.1, (hR.2.2.1 l hl4).1]
    by_cases h2 : cH c l ≤ cP c p 1 + oTall c (hO j) + oTall c (hO k) / 2
    · rw [decide_eq_true h2]
      simp (disch := omega) only [sm_some, q_lit, q_neg1, nI_leI, nI_ltI, nI_eq, nI_cl, qIn_iff, nI_d0, d0_nI, dI_d0, dI_le, dI_eq, dI_n1, nI_1, nI_add, pk_mul, pk_div, nI_lt0, if_pos, if_neg, if_true, if_false]
      rfl
    · rw [decide_eq_false h2]
      simp (disch := omega) only [sm_some, q_lit, q_neg1, nI_leI, nI_ltI, nI_eq, nI_cl, qIn_iff, nI_d0, d0_nI, dI_d0, dI_le, dI_eq, dI_n1, nI_1, nI_add, pk_mul, pk_div, nI_lt0, if_pos, if_neg, if_true, if_false]
      rfl
  · rw [decide_eq_false h1]
    simp (disch := omega) only [sm_some, q_lit, q_neg1, nI_leI, nI_ltI, nI_eq, nI_cl, qIn_iff, nI_d0, d0_nI, dI_d0, dI_le, dI_eq, dI_n1, nI_1, nI_add, pk_mul, pk_div, nI_lt0, if_pos, if_neg, if_true, if_false, (hR.2.2.2 p hp).2.2.2.1]
    rfl
theorem t_rises2 (hc : tr t r) (hR : RT s t c) (hk : cOk c) (hL : RL s r (cN c) lv) (hl : lvOk c lv) {p j k l : Nat} (hp : p < cN c) (hj : j ≤ cN c) (hk2 : k ≤ cN c) (hl4 : l < 4) : l_T_risesBy_2 (d + 2) t r (nI p) (dI j) (dI k) (nI l) s = some (b2i (cPl lv k p (lv p + 1) && (decide (cBurd c p ≤ oHand c (hO j) + oHand c (hO k)) && decide (cH c l ≤ cP c p 1 + oTall c (hO j) + oTall c (hO k) / 2))), s) := by
  have h5 := hk.2.1
  have hlp := hl p hp
  have h4 := hk.1.2
  rw [el_T_risesBy_2 _ _ _ _ _ _ _ hc s]
  unfold cPl
  by_cases h0 : k = 0
  · rw [decide_eq_true h0]
    simp (disch := omega) only [sm_some, q_lit, q_neg1, nI_leI, nI_ltI, nI_eq, nI_cl, qIn_iff, nI_d0, d0_nI, dI_d0, dI_le, dI_eq, dI_n1, nI_1, nI_add, pk_mul, pk_div, nI_lt0, if_pos, if_neg, if_true, if_false]
    rw [t_rises3 hc hR hk hp hj hk2 hl4]
    rfl
  · rw [decide_eq_false h0]
    simp (disch := omega) only [sm_some, q_lit, q_neg1, nI_leI, nI_ltI, nI_eq, nI_cl, qIn_iff, nI_d0, d0_nI, dI_d0, dI_le, dI_eq, dI_n1, nI_1, nI_add, pk_mul, pk_div, nI_lt0, if_pos, if_neg, if_true, if_false]
    rw [t_stands hc hR hk hL hl hk2 hp (nI_add _ 1) (by omega), sm_some]
    dsimp only
    rw [Bool.false_or]
    cases cSt lv k p (lv p + 1) with
    | false => rw [bfn]; rfl
    | true => rw [btn, t_rises3 hc hR hk hp hj hk2 hl4, Bool.true_and]
theorem t_rises1 (hc : tr t r) (hR : RT s t c) (hk : cOk c) (hL : RL s r (cN c) lv) (hl : lvOk c lv) {p j k l : Nat} (hp : p < cN c) (hj : j ≤ cN c) (hk2 : k ≤ cN c) (hl4 : l < 4) : l_T_risesBy_1 (d + 2) t r (nI p) (dI j) (dI k) (nI l) s = some (b2i (decide (cP c p 0 ≠ 2) && (cPl lv j p (lv p) && (cPl lv k p (lv p + 1) && (decide (cBurd c p ≤ oHand c (hO j) + oHand c (hO k)) && decide (cH c l ≤ cP c p 1 + oTall c (hO j) + oTall c (hO k) / 2))))), s) := by
  have h5 := hk.2.1
  have hlp := hl p hp
  have h4 := hk.1.2
  have h3 := hk.2.2.2 p hp
  rw [el_T_risesBy_1 _ _ _ _ _ _ _ hc s]
  simp (disch := omega) only [sm_some, q_lit, q_neg1, nI_leI, nI_ltI, nI_eq, nI_cl, qIn_iff, nI_d0, d0_nI, dI_d0, dI_le, dI_eq, dI_n1, nI_1, nI_add, pk_mul, pk_div, nI_lt0, if_pos, if_neg, if_true, if_false, (hR.2.2.2 p hp).1]
  by_cases h2 : cP c p 0 = 2
  · rw [decide_eq_false (by omega)]
    simp (disch := omega) only [sm_some, q_lit, q_neg1, nI_leI, nI_ltI, nI_eq, nI_cl, qIn_iff, nI_d0, d0_nI, dI_d0, dI_le, dI_eq, dI_n1, nI_1, nI_add, pk_mul, pk_div, nI_lt0, if_pos, if_neg, if_true, if_false]
    rfl
  · rw [decide_eq_true h2, Bool.true_and]
    simp (disch := omega) only [sm_some, q_lit, q_neg1, nI_leI, nI_ltI, nI_eq, nI_cl, qIn_iff, nI_d0, d0_nI, dI_d0, dI_le, dI_eq, dI_n1, nI_1, nI_add, pk_mul, pk_div, nI_lt0, if_pos, if_neg, if_true, if_false]
    by_cases h0 : j = 0
    · have e : cPl lv j p (lv p) = true := by unfold cPl; rw [decide_eq_true h0]; rfl
      rw [e, Bool.true_and]
      simp (disch := omega) only [sm_some, q_lit, q_neg1, nI_leI, nI_ltI, nI_eq, nI_cl, qIn_iff, nI_d0, d0_nI, dI_d0, dI_le, dI_eq, dI_n1, nI_1, nI_add, pk_mul, pk_div, nI_lt0, if_pos, if_neg, if_true, if_false]
      rw [t_rises2 hc hR hk hL hl hp hj hk2 hl4]
    · have e : cPl lv j p (lv p) = cSt lv j p (lv p) := by unfold cPl; rw [decide_eq_false h0]; rfl
      rw [e]
      simp (disch := omega) only [sm_some, q_lit, q_neg1, nI_leI, nI_ltI, nI_eq, nI_cl, qIn_iff, nI_d0, d0_nI, dI_d0, dI_le, dI_eq, dI_n1, nI_1, nI_add, pk_mul, pk_div, nI_lt0, if_pos, if_neg, if_true, if_false]
      rw [t_stands hc hR hk hL hl hj hp (l := lv p) (nI_add _ 0) (by omega), sm_some]
      dsimp only
      cases cSt lv j p (lv p) with
      | false => rw [bfn]; rfl
      | true => rw [btn, t_rises2 hc hR hk hL hl hp hj hk2 hl4, Bool.true_and]
/-- GiantStair$Told.risesBy -/
theorem t_rises (hc : tr t r) (hR : RT s t c) (hk : cOk c) (hL : RL s r (cN c) lv) (hl : lvOk c lv) {p j k : Nat} (hp : p < cN c) (hj : j ≤ cN c) (hk2 : k ≤ cN c) : m_T_risesBy (d + 3) t (nI p) (dI j) (dI k) r s = some (b2i (decide (j ≠ p + 1) && decide (k ≠ p + 1) && cUp c ALL lv p (hO j) (hO k)), s) := by
  have h5 := hk.2.1
  have ht := tr_t hc
  have hlp := hl p hp
  have h4 := hk.1
  have h3 := hk.2.2.2 p hp
  have hb : cBurd c p ≤ 99 := by unfold cBurd; omega
  have hb1 : 1 ≤ cBurd c p := by unfold cBurd; omega
  rw [e_T_risesBy (d + 2) t _ _ _ r hc s, t_goes ht hR hk hp, sm_some]
  dsimp only
  by_cases h0 : cP c p 0 = 3
  · have e : cUp c ALL lv p (hO j) (hO k) = false := by
      unfold cUp
      rw [decide_eq_false (p := cP c p 0 ≠ 3) (by omega), Bool.and_false, Bool.false_and]
    rw [e, Bool.and_false, decide_eq_false (by omega), bf0]
    rfl
  · rw [decide_eq_true (p := cP c p 0 ≠ 3) h0, bt0]
    simp (disch := omega) only [sm_some, q_lit, q_neg1, nI_leI, nI_ltI, nI_eq, nI_cl, qIn_iff, nI_d0, d0_nI, dI_d0, dI_le, dI_eq, dI_n1, nI_1, nI_add, pk_mul, pk_div, nI_lt0, if_pos, if_neg, if_true, if_false, hL p hp]
    rw [t_isStep ht hR hk (by omega), sm_some]
    dsimp only
    by_cases h1 : lv p < cTop c
    · rw [decide_eq_true h1, btn]
      have hl4 : lv p < 4 := by omega
      have hh := hk.2.2.1 _ hl4
      simp (disch := omega) only [sm_some, q_lit, q_neg1, nI_leI, nI_ltI, nI_eq, nI_cl, qIn_iff, nI_d0, d0_nI, dI_d0, dI_le, dI_eq, dI_n1, nI_1, nI_add, pk_mul, pk_div, nI_lt0, if_pos, if_neg, if_true, if_false, hL p hp, (hR.2.2.2 p hp).2.1, (hR.2.2.2 p hp).2.2.2.1, (hR.2.2.2 p hp).2.2.2.2.1, (hR.2.2.1 _ hl4).1, (hR.2.2.1 _ hl4).2]
      rw [t_rises1 hc hR hk hL hl hp hj hk2 hl4]
      have eU : cUp c ALL lv p (hO j) (hO k) = (bif (hO j).isNone && (hO k).isNone then cAlone c (lv p) p else !cAlone c (lv p) p && decide (cP c p 0 ≠ 2) && oAt ALL lv (lv p) (hO j) && oAt ALL lv (lv p + 1) (hO k) && decide (cBurd c p ≤ oHand c (hO j) + oHand c (hO k)) && decide (cH c (lv p) ≤ cP c p 1 + oTall c (hO j) + oTall c (hO k) / 2)) := by
        unfold cUp
        rw [decide_eq_true h1, decide_eq_true (p := cP c p 0 ≠ 3) h0]
        rfl
      have none0 : ∀ q : Nat, (hO q).isNone = decide (q = 0) := by
        intro q
        cases q with
        | zero => rfl
        | succ q => exact (decide_eq_false (by omega)).symm
      rw [eU, none0, none0, cPl_oAt, cPl_oAt]
      have alone : cAlone c (lv p) p = true → (if j = 0 then if k = 0 then some (nI 1, s) else some (nI 0, s) else some (nI 0, s)) = some (b2i (decide (j ≠ p + 1) && decide (k ≠ p + 1) && (bif decide (j = 0) && decide (k = 0) then cAlone c (lv p) p else !cAlone c (lv p) p && decide (cP c p 0 ≠ 2) && oAt ALL lv (lv p) (hO j) && oAt ALL lv (lv p + 1) (hO k) && decide (cBurd c p ≤ oHand c (hO j) + oHand c (hO k)) && decide (cH c (lv p) ≤ cP c p 1 + oTall c (hO j) + oTall c (hO k) / 2))), s) := by
        intro ha
        rw [ha]
        by_cases j0 : j = 0
        · by_cases k0 : k = 0
          · rw [if_pos j0, if_pos k0, decide_eq_true j0, decide_eq_true k0, decide_eq_true (p := j ≠ p + 1) (by omega), decide_eq_true (p := k ≠ p + 1) (by omega)]
            rfl
          · rw [if_pos j0, if_neg k0, decide_eq_true j0, decide_eq_false k0]
            simp [b2i]
            rfl
        · rw [if_neg j0, decide_eq_false j0]
          simp [b2i]
          rfl
      have notal : cAlone c (lv p) p = false → some (b2i (decide (cP c p 0 ≠ 2) && (decide (j ≠ p + 1) && oAt ALL lv (lv p) (hO j) && (decide (k ≠ p + 1) && oAt ALL lv (lv p + 1) (hO k) && (decide (cBurd c p ≤ oHand c (hO j) + oHand c (hO k)) && decide (cH c (lv p) ≤ cP c p 1 + oTall c (hO j) + oTall c (hO k) / 2))))), s) = some (b2i (decide (j ≠ p + 1) && decide (k ≠ p + 1) && (bif decide (j = 0) && decide (k = 0) then cAlone c (lv p) p else !cAlone c (lv p) p && decide (cP c p 0 ≠ 2) && oAt ALL lv (lv p) (hO j) && oAt ALL lv (lv p + 1) (hO k) && decide (cBurd c p ≤ oHand c (hO j) + oHand c (hO k)) && decide (cH c (lv p) ≤ cP c p 1 + oTall c (hO j) + oTall c (hO k) / 2))), s) := by
        intro ha
        rw [ha]
        by_cases j0 : j = 0
        · by_cases k0 : k = 0
          · subst j0; subst k0
            have e2 : decide (cBurd c p ≤ oHand c (hO 0) + oHand c (hO 0)) = false := decide_eq_false (by show ¬ cBurd c p ≤ 0 + 0; omega)
            rw [e2]
            simp [b2i]
          · rw [decide_eq_true j0, decide_eq_false k0]
            simp only [Bool.and_false, cond_false, Bool.not_false, Bool.true_and]
            congr 3
            ac_rfl
        · rw [decide_eq_false j0]
          simp only [Bool.false_and, cond_false, Bool.not_false, Bool.true_and]
          congr 3
          ac_rfl
      by_cases c1 : cH c (lv p) ≤ cP c p 1
      · rw [if_pos c1]
        exact alone (by unfold cAlone; rw [decide_eq_true c1]; rfl)
      · rw [if_neg c1]
        cases c2 : cR c (lv p) with
        | false =>
          rw [bfn]
          exact notal (by unfold cAlone; rw [decide_eq_false c1, c2]; rfl)
        | true =>
          rw [btn]
          by_cases c3 : cP c p 3 < cBurd c p
          · rw [if_pos c3]
            exact notal (by unfold cAlone; rw [decide_eq_false c1, c2, decide_eq_false (by omega)]; rfl)
          · rw [if_neg c3]
            exact alone (by unfold cAlone; rw [c2, decide_eq_true (p := cBurd c p ≤ cP c p 3) (by omega), Bool.and_true, Bool.or_true])
    · rw [decide_eq_false h1, bfn]
      have e : cUp c ALL lv p (hO j) (hO k) = false := by
        unfold cUp
        rw [decide_eq_false h1, Bool.false_and, Bool.false_and]
      rw [e, Bool.and_false]
      rfl
end RISE
