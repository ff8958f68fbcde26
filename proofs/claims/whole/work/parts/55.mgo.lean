section MGO
variable {d w : Nat} {s : qMem} {c : Co} {M : Nat → Bool} {lv : Nat → Nat}
/-- the reference's canUp -/
theorem m_canUp (hw : w = 45 ∨ w = 54) (hR : RM s c) (hC : RC s M) (hL : RL s w (cN c) lv) (hk : cOk c) (hl : lvOk c lv) {p j k : Nat} (hp : p < cN c) (hj : j ≤ cN c) (hk2 : k ≤ cN c) : m_M_canUp (d + 3) w (nI p) (dI j) (dI k) s = some (b2i (cUp c M lv p (hO j) (hO k)), s) := by
  have h5 := hk.2.1
  have h4 := hk.1
  have hlp := hl p hp
  have h3 := hk.2.2.2 p hp
  have hb : cBurd c p ≤ 99 := by unfold cBurd; omega
  have e0 : s.1 42 (6 * p) = nI (cP c p 0) := hR.2.2.2.2 p hp 0 (by omega)
  rw [e_M_canUp _ w _ _ _ hw s]
  unfold cUp
  by_cases h1 : lv p < cTop c
  · have hl4 : lv p < 4 := by omega
    have hh := hk.2.2.1 _ hl4
    by_cases h0 : cP c p 0 = 3
    · rw [decide_eq_false (p := cP c p 0 ≠ 3) (by omega), Bool.and_false, Bool.false_and]
      simp (disch := omega) only [sm_some, q_lit, q_neg1, nI_leI, nI_ltI, nI_eq, nI_cl, qIn_iff, nI_d0, d0_nI, dI_d0, dI_le, dI_eq, dI_n1, nI_1, nI_add, pk_mul, pk_div, nI_lt0, if_pos, if_neg, if_true, if_false, hL p hp, hR.1, e0]
      rfl
    · rw [decide_eq_true (p := cP c p 0 ≠ 3) h0, decide_eq_true h1, Bool.and_true, Bool.true_and]
      obtain ⟨m, hm, hm1, hm2⟩ := hR.2.2.2.1
      simp (disch := omega) only [sm_some, q_lit, q_neg1, nI_leI, nI_ltI, nI_eq, nI_cl, qIn_iff, nI_d0, d0_nI, dI_d0, dI_le, dI_eq, dI_n1, nI_1, nI_add, pk_mul, pk_div, nI_lt0, if_pos, if_neg, if_true, if_false, hL p hp, hR.1, e0, hR.2.2.2.2 p hp 1 (by omega), hR.2.2.2.2 p hp 3 (by omega), hR.2.2.1 _ hl4, hm1]
      have key : ∀ a : Bool, a = cAlone c (lv p) p → l_M_canUp_1 (d + 2) w (nI p) (dI j) (dI k) (nI (lv p)) (b2i a) s = some (b2i (bif (hO j).isNone && (hO k).isNone then cAlone c (lv p) p else !cAlone c (lv p) p && decide (cP c p 0 ≠ 2) && oAt M lv (lv p) (hO j) && oAt M lv (lv p + 1) (hO k) && decide (cBurd c p ≤ oHand c (hO j) + oHand c (hO k)) && decide (cH c (lv p) ≤ cP c p 1 + oTall c (hO j) + oTall c (hO k) / 2)), s) := by
        intro a ha
        rw [m_up1 hw hR hC hL hk hl hp hj hk2 hl4, ha]
      by_cases c1 : cH c (lv p) ≤ cP c p 1
      · rw [if_pos c1]
        exact key true (by unfold cAlone; rw [decide_eq_true c1]; rfl)
      · rw [if_neg c1, m_has (by omega) (by omega), sm_some]
        dsimp only
        have e2 := hm2 _ hl4
        cases c2 : m.testBit (lv p) with
        | false =>
          rw [c2] at e2
          rw [bfn]
          exact key false (by unfold cAlone; rw [decide_eq_false c1, e2]; rfl)
        | true =>
          rw [c2] at e2
          rw [btn, m_burden hR hk hp, sm_some]
          simp (disch := omega) only [sm_some, q_lit, q_neg1, nI_leI, nI_ltI, nI_eq, nI_cl, qIn_iff, nI_d0, d0_nI, dI_d0, dI_le, dI_eq, dI_n1, nI_1, nI_add, pk_mul, pk_div, nI_lt0, if_pos, if_neg, if_true, if_false, hR.2.2.2.2 p hp 3 (by omega)]
          by_cases c3 : cP c p 3 < cBurd c p
          · rw [if_pos c3]
            exact key false (by unfold cAlone; rw [decide_eq_false c1, e2, decide_eq_false (by omega)]; rfl)
          · rw [if_neg c3]
            exact key true (by unfold cAlone; rw [e2, decide_eq_true (p := cBurd c p ≤ cP c p 3) (by omega), Bool.and_true, Bool.or_true])
  · have e : lv p = cTop c := by omega
    rw [decide_eq_false h1, Bool.false_and, Bool.false_and]
    simp (disch := omega) only [sm_some, q_lit, q_neg1, nI_leI, nI_ltI, nI_eq, nI_cl, qIn_iff, nI_d0, d0_nI, dI_d0, dI_le, dI_eq, dI_n1, nI_1, nI_add, pk_mul, pk_div, nI_lt0, if_pos, if_neg, if_true, if_false, hL p hp, hR.1]
    rfl
theorem m_dn1 (hw : w = 45 ∨ w = 54) (hR : RM s c) (hC : RC s M) (hL : RL s w (cN c) lv) (hk : cOk c) (hl : lvOk c lv) {p j l : Nat} {a : Bool} (hp : p < cN c) (hj : j ≤ cN c) (hl4 : lv p = l + 1) : l_M_canDown_1 (d + 2) w (nI p) (dI j) (nI (lv p)) (b2i a) s = some (b2i (match hO j with
    | none => a
    | some q => !a && decide (cP c p 0 ≠ 2) && (M q && decide (lv q = l)) && decide (cBurd c p ≤ cHand c q)), s) := by
  have h5 := hk.2.1
  have h3 := hk.2.2.2 p hp
  have h4 := hk.1
  have hlp := hl p hp
  have e0 : s.1 42 (6 * p) = nI (cP c p 0) := hR.2.2.2.2 p hp 0 (by omega)
  rw [el_M_canDown_1 _ _ _ _ _ _ hw s]
  cases j with
  | zero => rw [dz0, if_pos (b2i_01 a)]; rfl
  | succ q =>
    have hq : q < cN c := hj
    rw [dI_s, if_neg (nI_m1 (by omega))]
    cases a with
    | true => rw [bt0]; rfl
    | false =>
      rw [bf0]
      show _ = some (b2i (true && decide (cP c p 0 ≠ 2) && (M q && decide (lv q = l)) && decide (cBurd c p ≤ cHand c q)), s)
      by_cases h2 : cP c p 0 = 2
      · rw [decide_eq_false (p := cP c p 0 ≠ 2) (by omega)]
        simp (disch := omega) only [sm_some, q_lit, q_neg1, nI_leI, nI_ltI, nI_eq, nI_cl, qIn_iff, nI_d0, d0_nI, dI_d0, dI_le, dI_eq, dI_n1, nI_1, nI_add, pk_mul, pk_div, nI_lt0, if_pos, if_neg, if_true, if_false, e0]
        rfl
      · rw [decide_eq_true (p := cP c p 0 ≠ 2) h2]
        have e1 : (6 : Int32) * nI p = nI (6 * p) := pk_mul 6 p
        rw [e1, if_pos (qIn_n (by omega) (by omega)), nI_cl (by omega), e0, if_neg (show ¬ nI (cP c p 0) = 2 from fun e => h2 ((nI_eq (b := 2) (by omega) (by omega)).mp e)), hl4, show nI (l + 1) - 1 = nI l from nI_pred l, m_isThere hw hC hL hk hl hq (by omega), sm_some]
        dsimp only
        cases (M q && decide (lv q = l)) with
        | false => rw [bf0]; rfl
        | true =>
          have hh := cHand_le hk hq
          have hb : cBurd c p ≤ 99 := by unfold cBurd; omega
          rw [bt0, m_hand hR hk hq, sm_some, m_burden hR hk hp, sm_some]
          by_cases h6 : cBurd c p ≤ cHand c q
          · rw [decide_eq_true h6]
            simp (disch := omega) only [sm_some, q_lit, q_neg1, nI_leI, nI_ltI, nI_eq, nI_cl, qIn_iff, nI_d0, d0_nI, dI_d0, dI_le, dI_eq, dI_n1, nI_1, nI_add, pk_mul, pk_div, nI_lt0, if_pos, if_neg, if_true, if_false]
            rfl
          · rw [decide_eq_false h6]
            simp (disch := omega) only [sm_some, q_lit, q_neg1, nI_leI, nI_ltI, nI_eq, nI_cl, qIn_iff, nI_d0, d0_nI, dI_d0, dI_le, dI_eq, dI_n1, nI_1, nI_add, pk_mul, pk_div, nI_lt0, if_pos, if_neg, if_true, if_false]
            rfl
/-- the reference's canDown -/
theorem m_canDown (hw : w = 45 ∨ w = 54) (hR : RM s c) (hC : RC s M) (hL : RL s w (cN c) lv) (hk : cOk c) (hl : lvOk c lv) {p j : Nat} (hp : p < cN c) (hj : j ≤ cN c) : m_M_canDown (d + 3) w (nI p) (dI j) s = some (b2i (cDn c M lv p (hO j)), s) := by
  have h5 := hk.2.1
  have h4 := hk.1
  have hlp := hl p hp
  have h3 := hk.2.2.2 p hp
  have e0 : s.1 42 (6 * p) = nI (cP c p 0) := hR.2.2.2.2 p hp 0 (by omega)
  rw [e_M_canDown _ w _ _ hw s]
  unfold cDn
  by_cases h1 : lv p = 0
  · rw [decide_eq_false (p := 0 < lv p) (by omega), Bool.false_and, Bool.false_and]
    simp (disch := omega) only [sm_some, q_lit, q_neg1, nI_leI, nI_ltI, nI_eq, nI_cl, qIn_iff, nI_d0, d0_nI, dI_d0, dI_le, dI_eq, dI_n1, nI_1, nI_add, pk_mul, pk_div, nI_lt0, if_pos, if_neg, if_true, if_false, hL p hp]
    rfl
  · obtain ⟨l, hlE⟩ : ∃ l, lv p = l + 1 := ⟨lv p - 1, by omega⟩
    have hl4 : l < 4 := by omega
    have hh := hk.2.2.1 _ hl4
    by_cases h0 : cP c p 0 = 3
    · rw [decide_eq_false (p := cP c p 0 ≠ 3) (by omega), Bool.and_false, Bool.false_and]
      simp (disch := omega) only [sm_some, q_lit, q_neg1, nI_leI, nI_ltI, nI_eq, nI_cl, qIn_iff, nI_d0, d0_nI, dI_d0, dI_le, dI_eq, dI_n1, nI_1, nI_add, pk_mul, pk_div, nI_lt0, if_pos, if_neg, if_true, if_false, hL p hp, e0]
      rfl
    · rw [decide_eq_true (p := cP c p 0 ≠ 3) h0, decide_eq_true (p := 0 < lv p) (by omega), Bool.and_true, Bool.true_and]
      obtain ⟨m, hm, hm1, hm2⟩ := hR.2.2.2.1
      have e2 := hm2 _ hl4
      have e8 : lv p - 1 = l := by omega
      have e9 : nI (lv p) - nI 1 = nI l := by rw [hlE]; exact nI_pred l
      rw [e8]
      simp (disch := omega) only [sm_some, q_lit, q_neg1, nI_leI, nI_ltI, nI_eq, nI_cl, qIn_iff, nI_d0, d0_nI, dI_d0, dI_le, dI_eq, dI_n1, nI_1, nI_add, pk_mul, pk_div, nI_lt0, if_pos, if_neg, if_true, if_false, hL p hp, e0, e9, hR.2.2.2.2 p hp 1 (by omega), hR.2.2.1 _ hl4, hm1]
      have key : ∀ a : Bool, a = (decide (cH c l ≤ cP c p 1) || cR c l) → l_M_canDown_1 (d + 2) w (nI p) (dI j) (nI (lv p)) (b2i a) s = some (b2i (match hO j with
          | none => decide (cH c l ≤ cP c p 1) || cR c l
          | some q => !(decide (cH c l ≤ cP c p 1) || cR c l) && decide (cP c p 0 ≠ 2) && (M q && decide (lv q = l)) && decide (cBurd c p ≤ cHand c q)), s) := by
        intro a ha
        rw [m_dn1 hw hR hC hL hk hl hp hj hlE, ha]
      by_cases c1 : cH c l ≤ cP c p 1
      · rw [if_pos c1]
        exact key true (by rw [decide_eq_true c1]; rfl)
      · rw [if_neg c1, m_has (by omega) (by omega), sm_some]
        dsimp only
        cases c2 : m.testBit l with
        | false =>
          rw [c2] at e2
          rw [bfn]
          exact key false (by rw [decide_eq_false c1, e2]; rfl)
        | true =>
          rw [c2] at e2
          rw [btn]
          exact key true (by rw [e2, Bool.or_true])
theorem m_help2 (hw : w = 45 ∨ w = 54) (hR : RM s c) (hC : RC s M) (hL : RL s w (cN c) lv) (hk : cOk c) (hl : lvOk c lv) {p j : Nat} (hp : p < cN c) (hj : j ≤ cN c) : ∀ (q k : Nat), k + q = cN c + 1 → l_M_helpOf_2 (d + 3) w (nI p) (dI j) (dI k) s = match sr (fUp c M lv p j) k q with
    | some i => some (nI (j * 7 + i), s)
    | none => l_M_helpOf_1 (d + 3) w (nI p) (dI (j + 1)) s := by
  have h5 := hk.2.1
  intro q
  induction q with
  | zero =>
    intro k hkq
    rw [el_M_helpOf_2 _ _ _ _ _ hw s, hR.2.1]
    simp (disch := omega) only [sm_some, q_lit, q_neg1, nI_leI, nI_ltI, nI_eq, nI_cl, qIn_iff, nI_d0, d0_nI, dI_d0, dI_le, dI_eq, dI_n1, nI_1, nI_add, pk_mul, pk_div, nI_lt0, if_pos, if_neg, if_true, if_false]
    rfl
  | succ q ih =>
    intro k hkq
    have goOn : fUp c M lv p j k = false → l_M_helpOf_2 (d + 3) w (nI p) (dI j) (dI (k + 1)) s = match sr (fUp c M lv p j) k (q + 1) with
        | some i => some (nI (j * 7 + i), s)
        | none => l_M_helpOf_1 (d + 3) w (nI p) (dI (j + 1)) s := by
      intro hf
      rw [sr, hf, cond_false]
      exact ih (k + 1) (by omega)
    rw [el_M_helpOf_2 _ _ _ _ _ hw s, hR.2.1, dI_1 j, dI_1 k, if_neg (fun e => absurd ((dI_le (by omega) (by omega)).mp e) (by omega))]
    by_cases h1 : j = p + 1
    · rw [if_pos ((dI_eq (by omega) (by omega)).mpr h1)]
      exact goOn (by unfold fUp; rw [decide_eq_false (p := j ≠ p + 1) (by omega)]; rfl)
    · rw [if_neg (fun e => h1 ((dI_eq (by omega) (by omega)).mp e))]
      by_cases h2 : k = p + 1
      · rw [if_pos ((dI_eq (by omega) (by omega)).mpr h2)]
        exact goOn (by unfold fUp; rw [decide_eq_false (p := k ≠ p + 1) (by omega), Bool.and_false]; rfl)
      · rw [if_neg (fun e => h2 ((dI_eq (by omega) (by omega)).mp e)), m_canUp hw hR hC hL hk hl hp hj (by omega), sm_some]
        dsimp only
        have e : fUp c M lv p j k = cUp c M lv p (hO j) (hO k) := by
          unfold fUp
          rw [decide_eq_true (p := j ≠ p + 1) h1, decide_eq_true (p := k ≠ p + 1) h2]
          rfl
        cases hU : cUp c M lv p (hO j) (hO k) with
        | false =>
          rw [bf0]
          exact goOn (by rw [e, hU])
        | true =>
          rw [bt0, sr, e, hU]
          show some (7 * dI (j + 1) + dI k + 1, s) = some (nI (j * 7 + k), s)
          rw [Int32.add_assoc, dI_1, dI_s, dI_s, show (7 : Int32) = nI 7 from rfl, pk_mul, nI_add, Nat.mul_comm]
theorem m_help1 (hw : w = 45 ∨ w = 54) (hR : RM s c) (hC : RC s M) (hL : RL s w (cN c) lv) (hk : cOk c) (hl : lvOk c lv) {p : Nat} (hp : p < cN c) : ∀ (q j : Nat), j + q = cN c + 1 → l_M_helpOf_1 (d + 3) w (nI p) (dI j) s = some (hCode (sr2 (fUp c M lv p) (cN c + 1) j q) 7, s) := by
  have h5 := hk.2.1
  intro q
  induction q with
  | zero =>
    intro j hjq
    rw [el_M_helpOf_1 _ _ _ _ hw s, hR.2.1, if_pos ((dI_le (by omega) (by omega)).mpr (by omega))]
    rfl
  | succ q ih =>
    intro j hjq
    rw [el_M_helpOf_1 _ _ _ _ hw s, hR.2.1, if_neg (fun e => absurd ((dI_le (by omega) (by omega)).mp e) (by omega)), show (-1 : Int32) = dI 0 from rfl, m_help2 hw hR hC hL hk hl hp (by omega) (cN c + 1) 0 (by omega), sr2]
    cases sr (fUp c M lv p j) 0 (cN c + 1) with
    | none => exact ih (j + 1) (by omega)
    | some i => rfl
/-- the reference's helpOf -/
theorem m_help (hw : w = 45 ∨ w = 54) (hR : RM s c) (hC : RC s M) (hL : RL s w (cN c) lv) (hk : cOk c) (hl : lvOk c lv) {p : Nat} (hp : p < cN c) : m_M_helpOf (d + 4) w (nI p) s = some (hCode (cHelp c M lv p) 7, s) := by
  rw [e_M_helpOf _ _ _ hw s]
  exact m_help1 hw hR hC hL hk hl hp (cN c + 1) 0 (by omega)
theorem m_rise (hw : w = 45 ∨ w = 54) (hR : RM s c) (hC : RC s M) (hL : RL s w (cN c) lv) (hk : cOk c) (hl : lvOk c lv) {p : Nat} {u : Int32} (hu : u = 1) (hp : p < cN c) : m_M_canGo (d + 5) w (nI p) u s = some (b2i (cRise c M lv p), s) := by
  rw [e_M_canGo _ _ _ _ hw s, if_pos hu, m_help hw hR hC hL hk hl hp, sm_some]
  dsimp only
  unfold cRise
  cases h : (cHelp c M lv p).isSome with
  | false => rw [if_pos ((hCode_m1 (cHelp_lt hk (by omega))).mpr h)]; rfl
  | true =>
    rw [if_neg (fun e => ?_)]
    · rfl
    · rw [(hCode_m1 (cHelp_lt hk (by omega))).mp e] at h
      cases h
theorem m_go1 (hw : w = 45 ∨ w = 54) (hR : RM s c) (hC : RC s M) (hL : RL s w (cN c) lv) (hk : cOk c) (hl : lvOk c lv) {p : Nat} (hp : p < cN c) : ∀ (q j : Nat) (a : Bool), j + q = cN c + 1 → l_M_canGo_1 (d + 3) w (nI p) (b2i a) (dI j) s = some (b2i (a || (sr (fDn c M lv p) j q).isSome), s) := by
  have h5 := hk.2.1
  intro q
  induction q with
  | zero =>
    intro j a hjq
    rw [el_M_canGo_1 _ _ _ _ _ hw s, hR.2.1, if_pos ((dI_le (by omega) (by omega)).mpr (by omega)), if_pos (b2i_01 a)]
    show _ = some (b2i (a || false), s)
    rw [Bool.or_false]
  | succ q ih =>
    intro j a hjq
    rw [el_M_canGo_1 _ _ _ _ _ hw s, hR.2.1, if_neg (fun e => absurd ((dI_le (by omega) (by omega)).mp e) (by omega)), dI_1, sr]
    cases a with
    | true =>
      rw [bt0, show (1 : Int32) = b2i true from rfl, ih (j + 1) true (by omega), Bool.true_or, Bool.true_or]
    | false =>
      rw [bf0]
      by_cases h1 : j = p + 1
      · rw [if_pos ((dI_eq (by omega) (by omega)).mpr h1), show (0 : Int32) = b2i false from rfl, ih (j + 1) false (by omega)]
        have e : fDn c M lv p j = false := by unfold fDn; rw [decide_eq_false (p := j ≠ p + 1) (by omega)]; rfl
        rw [e]
        rfl
      · rw [if_neg (fun e => h1 ((dI_eq (by omega) (by omega)).mp e)), m_canDown hw hR hC hL hk hl hp (by omega), sm_some]
        dsimp only
        have e : fDn c M lv p j = cDn c M lv p (hO j) := by unfold fDn; rw [decide_eq_true (p := j ≠ p + 1) h1]; rfl
        rw [e]
        cases cDn c M lv p (hO j) with
        | false =>
          rw [bf0, show (0 : Int32) = b2i false from rfl, ih (j + 1) false (by omega)]
          rfl
        | true =>
          rw [bt0, show (1 : Int32) = b2i true from rfl, ih (j + 1) true (by omega)]
          rfl
theorem m_sink (hw : w = 45 ∨ w = 54) (hR : RM s c) (hC : RC s M) (hL : RL s w (cN c) lv) (hk : cOk c) (hl : lvOk c lv) {p : Nat} {u : Int32} (hu : u ≠ 1) (hp : p < cN c) : m_M_canGo (d + 4) w (nI p) u s = some (b2i (cSink c M lv p), s) := by
  rw [e_M_canGo _ _ _ _ hw s, if_neg hu, show (-1 : Int32) = dI 0 from rfl, show (0 : Int32) = b2i false from rfl, m_go1 hw hR hC hL hk hl hp (cN c + 1) 0 false (by omega)]
  rfl
end MGO
