/-! the reference: moves -/
def RM (s : qMem) (c : Co) : Prop := s.1 40 0 = nI (cTop c) ∧ s.1 40 3 = nI (cN c) ∧ (∀ i, i < 4 → s.1 41 i = nI (cH c i)) ∧ (∃ m, m < 16 ∧ s.1 40 2 = nI m ∧ ∀ i, i < 4 → cR c i = m.testBit i) ∧ ∀ p, p < cN c → ∀ j, j < 6 → s.1 42 (6 * p + j) = nI (cP c p j)
def RC (s : qMem) (M : Nat → Bool) : Prop := ∃ m, m < 32 ∧ s.1 40 30 = nI m ∧ ∀ q, q < 5 → M q = m.testBit q
theorem has_all : ∀ m, m < 32 → ∀ q, q < 5 → ((nI m >>> (nI q &&& 31)) &&& 1 = 1 ↔ m.testBit q = true) := by decide +kernel
section MMOVE
variable {d w : Nat} {s : qMem} {c : Co} {M : Nat → Bool} {lv : Nat → Nat}
theorem m_has {m q : Nat} (hm : m < 32) (hq : q < 5) : m_M_has (d + 1) (nI m) (nI q) s = some (b2i (m.testBit q), s) := by
  rw [e_M_has]
  cases h : m.testBit q with
  | true => rw [if_pos ((has_all m hm q hq).mpr h)]; rfl
  | false =>
    rw [if_neg (fun e => ?_)]
    · rfl
    · rw [(has_all m hm q hq).mp e] at h
      cases h
theorem m_isOne (hR : RM s c) (hk : cOk c) {p : Nat} (hp : p < cN c) : m_M_isOne (d + 2) (nI p) s = some (nI 1, s) := by
  have h5 := hk.2.1
  obtain ⟨n, hn⟩ : ∃ n, cN c = n + 1 := ⟨cN c - 1, by omega⟩
  rw [e_M_isOne, e_M_in, hR.2.1, hn, show nI (n + 1) - 1 = nI n from nI_pred n]
  simp (disch := omega) only [sm_some, q_lit, q_neg1, nI_leI, nI_ltI, nI_eq, nI_cl, qIn_iff, nI_d0, d0_nI, dI_d0, dI_le, dI_eq, dI_n1, nI_1, nI_add, pk_mul, pk_div, nI_lt0, if_pos, if_neg, if_true, if_false]
  rfl
theorem m_isOne_out (hR : RM s c) (hk : cOk c) {x : Int32} (hx : ∀ p, p < cN c → x ≠ nI p) : m_M_isOne (d + 2) x s = some (nI 0, s) := by
  have h5 := hk.2.1
  rw [e_M_isOne, e_M_in, hR.2.1]
  rcases i_out (by omega) hx with h | h
  · rw [if_pos h]
    rfl
  · by_cases h0 : x < 0
    · rw [if_pos h0]
      rfl
    · have h1 : nI (cN c) - 1 < x := by
        obtain ⟨q, hq, rfl⟩ := nI_of h0
        have h2 := (nI_leI (by omega) hq).mp h
        cases hn : cN c with
        | zero =>
          rw [show nI 0 - 1 = -1 from rfl, Int32.lt_iff_toInt_lt, nI_toInt hq, show (-1 : Int32).toInt = -1 from by decide]
          omega
        | succ n =>
          rw [show nI (n + 1) - 1 = nI n from nI_pred n, nI_ltI (by omega) hq]
          omega
      rw [if_neg h0, if_pos h1]
      rfl
theorem m_burden (hR : RM s c) (hk : cOk c) {p : Nat} (hp : p < cN c) : m_M_burden (d + 1) (nI p) s = some (nI (cBurd c p), s) := by
  have h5 := hk.2.1
  rw [e_M_burden]
  simp (disch := omega) only [sm_some, q_lit, q_neg1, nI_leI, nI_ltI, nI_eq, nI_cl, qIn_iff, nI_d0, d0_nI, dI_d0, dI_le, dI_eq, dI_n1, nI_1, nI_add, pk_mul, pk_div, nI_lt0, if_pos, if_neg, if_true, if_false, hR.2.2.2.2 p hp 2 (by omega), hR.2.2.2.2 p hp 4 (by omega)]
  rfl
theorem m_hand (hR : RM s c) (hk : cOk c) {p : Nat} (hp : p < cN c) : m_M_hand (d + 1) (nI p) s = some (nI (cHand c p), s) := by
  have h5 := hk.2.1
  have h3 := hk.2.2.2 p hp
  have e0 : s.1 42 (6 * p) = nI (cP c p 0) := hR.2.2.2.2 p hp 0 (by omega)
  rw [e_M_hand]
  simp (disch := omega) only [sm_some, q_lit, q_neg1, nI_leI, nI_ltI, nI_eq, nI_cl, qIn_iff, nI_d0, d0_nI, dI_d0, dI_le, dI_eq, dI_n1, nI_1, nI_add, pk_mul, pk_div, nI_lt0, if_pos, if_neg, if_true, if_false, e0, hR.2.2.2.2 p hp 3 (by omega)]
  unfold cHand
  by_cases h : cP c p 0 = 1
  · simp (disch := omega) only [sm_some, q_lit, q_neg1, nI_leI, nI_ltI, nI_eq, nI_cl, qIn_iff, nI_d0, d0_nI, dI_d0, dI_le, dI_eq, dI_n1, nI_1, nI_add, pk_mul, pk_div, nI_lt0, if_pos, if_neg, if_true, if_false]
  · simp (disch := omega) only [sm_some, q_lit, q_neg1, nI_leI, nI_ltI, nI_eq, nI_cl, qIn_iff, nI_d0, d0_nI, dI_d0, dI_le, dI_eq, dI_n1, nI_1, nI_add, pk_mul, pk_div, nI_lt0, if_pos, if_neg, if_true, if_false]
theorem m_isThere (hw : w = 45 ∨ w = 54) (hC : RC s M) (hL : RL s w (cN c) lv) (hk : cOk c) (hl : lvOk c lv) {q l : Nat} (hq : q < cN c) (hl2 : l < 2 ^ 31) : m_M_isThere (d + 2) w (nI q) (nI l) s = some (b2i (M q && decide (lv q = l)), s) := by
  have h5 := hk.2.1
  have h4 := hk.1
  have hlq := hl q hq
  obtain ⟨m, hm, h1, h2⟩ := hC
  rw [e_M_isThere _ w _ _ hw s, h1, m_has hm (by omega), sm_some, h2 q (by omega), if_neg (nI_m1 (by omega))]
  dsimp only
  cases m.testBit q with
  | false => rw [bf0]; rfl
  | true =>
    rw [bt0, Bool.true_and]
    simp (disch := omega) only [sm_some, q_lit, q_neg1, nI_leI, nI_ltI, nI_eq, nI_cl, qIn_iff, nI_d0, d0_nI, dI_d0, dI_le, dI_eq, dI_n1, nI_1, nI_add, pk_mul, pk_div, nI_lt0, if_pos, if_neg, if_true, if_false, hL q hq]
    by_cases h : lv q = l
    · rw [decide_eq_true h]
      simp (disch := omega) only [sm_some, q_lit, q_neg1, nI_leI, nI_ltI, nI_eq, nI_cl, qIn_iff, nI_d0, d0_nI, dI_d0, dI_le, dI_eq, dI_n1, nI_1, nI_add, pk_mul, pk_div, nI_lt0, if_pos, if_neg, if_true, if_false]
      rfl
    · rw [decide_eq_false h]
      simp (disch := omega) only [sm_some, q_lit, q_neg1, nI_leI, nI_ltI, nI_eq, nI_cl, qIn_iff, nI_d0, d0_nI, dI_d0, dI_le, dI_eq, dI_n1, nI_1, nI_add, pk_mul, pk_div, nI_lt0, if_pos, if_neg, if_true, if_false]
      rfl
theorem m_up6 (hw : w = 45 ∨ w = 54) (hR : RM s c) (hk : cOk c) {p l x7 z0 z1 : Nat} (hp : p < cN c) (hl : l < 4) (h7 : x7 < 2 ^ 30) (hz0 : z0 < 2 ^ 20) (hz1 : z1 < 2 ^ 20) : l_M_canUp_6 (d + 1) w (nI p) (nI l) (nI x7) (nI z0) (nI z1) s = some (b2i (decide (cBurd c p ≤ x7) && decide (cH c l ≤ z1 + z0)), s) := by
  have h5 := hk.2.1
  have h3 := hk.2.2.2 p hp
  have hh := hk.2.2.1 l hl
  have hb : cBurd c p ≤ 99 := by unfold cBurd; omega
  rw [el_M_canUp_6 _ _ _ _ _ _ _ hw s, m_burden hR hk hp, sm_some]
  by_cases h1 : cBurd c p ≤ x7
  · rw [decide_eq_true h1]
    simp (disch := omega) only [sm_some, q_lit, q_neg1, nI_leI, nI_ltI, nI_eq, nI_cl, qIn_iff, nI_d0, d0_nI, dI_d0, dI_le, dI_eq, dI_n1, nI_1, nI_add, pk_mul, pk_div, nI_lt0, if_pos, if_neg, if_true, if_false, hR.2.2.1 l hl]
    by_cases h2 : cH c l ≤ z1 + z0
    · rw [decide_eq_true h2]
      simp (disch := omega) only [sm_some, q_lit, q_neg1, nI_leI, nI_ltI, nI_eq, nI_cl, qIn_iff, nI_d0, d0_nI, dI_d0, dI_le, dI_eq, dI_n1, nI_1, nI_add, pk_mul, pk_div, nI_lt0, if_pos, if_neg, if_true, if_false]
      rfl
    · rw [decide_eq_false h2]
      simp (disch := omega) only [sm_some, q_lit, q_neg1, nI_leI, nI_ltI, nI_eq, nI_cl, qIn_iff, nI_d0, d0_nI, dI_d0, dI_le, dI_eq, dI_n1, nI_1, nI_add, pk_mul, pk_div, nI_lt0, if_pos, if_neg, if_true, if_false]
      rfl
  · rw [decide_eq_false h1]
    simp (disch := omega) only [sm_some, q_lit, q_neg1, nI_leI, nI_ltI, nI_eq, nI_cl, qIn_iff, nI_d0, d0_nI, dI_d0, dI_le, dI_eq, dI_n1, nI_1, nI_add, pk_mul, pk_div, nI_lt0, if_pos, if_neg, if_true, if_false]
    rfl
theorem m_up5 (hw : w = 45 ∨ w = 54) (hR : RM s c) (hk : cOk c) {p k l x7 z0 z1 : Nat} (hp : p < cN c) (hk2 : k ≤ cN c) (hl : l < 4) (h7 : x7 < 2 ^ 30) (hz0 : z0 < 2 ^ 10) (hz1 : z1 < 2 ^ 10) : l_M_canUp_5 (d + 1) w (nI p) (dI k) (nI l) (nI x7) (nI z0) (nI z1) s = some (b2i (decide (cBurd c p ≤ x7) && decide (cH c l ≤ z1 + z0 + oTall c (hO k) / 2)), s) := by
  have h5 := hk.2.1
  rw [el_M_canUp_5 _ _ _ _ _ _ _ _ hw s]
  cases k with
  | zero =>
    have e : oTall c (hO 0) / 2 = 0 := Nat.zero_div 2
    rw [e]
    simp (disch := omega) only [sm_some, q_lit, q_neg1, nI_leI, nI_ltI, nI_eq, nI_cl, qIn_iff, nI_d0, d0_nI, dI_d0, dI_le, dI_eq, dI_n1, nI_1, nI_add, pk_mul, pk_div, nI_lt0, if_pos, if_neg, if_true, if_false]
    rw [m_up6 hw hR hk hp hl h7 (by omega) (by omega)]
  | succ q =>
    have hq : q < cN c := hk2
    have h3 := hk.2.2.2 q hq
    rw [dI_s]
    simp (disch := omega) only [sm_some, q_lit, q_neg1, nI_leI, nI_ltI, nI_eq, nI_cl, qIn_iff, nI_d0, d0_nI, dI_d0, dI_le, dI_eq, dI_n1, nI_1, nI_add, pk_mul, pk_div, nI_lt0, if_pos, if_neg, if_true, if_false, hR.2.2.2.2 q hq 1 (by omega)]
    rw [m_up6 hw hR hk hp hl h7 (by omega) (by omega)]
    rfl
theorem m_up4 (hw : w = 45 ∨ w = 54) (hR : RM s c) (hk : cOk c) {p j k l z0 z1 : Nat} (hp : p < cN c) (hj : j ≤ cN c) (hk2 : k ≤ cN c) (hl : l < 4) (hz0 : z0 < 2 ^ 10) (hz1 : z1 < 2 ^ 10) : l_M_canUp_4 (d + 1) w (nI p) (dI j) (dI k) (nI l) (nI z0) (nI z1) s = some (b2i (decide (cBurd c p ≤ z1 + z0) && decide (cH c l ≤ cP c p 1 + oTall c (hO j) + oTall c (hO k) / 2)), s) := by
  have h5 := hk.2.1
  have h3 := hk.2.2.2 p hp
  rw [el_M_canUp_4 _ _ _ _ _ _ _ _ hw s]
  cases j with
  | zero =>
    simp (disch := omega) only [sm_some, q_lit, q_neg1, nI_leI, nI_ltI, nI_eq, nI_cl, qIn_iff, nI_d0, d0_nI, dI_d0, dI_le, dI_eq, dI_n1, nI_1, nI_add, pk_mul, pk_div, nI_lt0, if_pos, if_neg, if_true, if_false, hR.2.2.2.2 p hp 1 (by omega)]
    exact m_up5 (z0 := 0) hw hR hk hp hk2 hl (by omega) (by omega) (by omega)
  | succ q =>
    have hq : q < cN c := hj
    have h4 := hk.2.2.2 q hq
    rw [dI_s]
    simp (disch := omega) only [sm_some, q_lit, q_neg1, nI_leI, nI_ltI, nI_eq, nI_cl, qIn_iff, nI_d0, d0_nI, dI_d0, dI_le, dI_eq, dI_n1, nI_1, nI_add, pk_mul, pk_div, nI_lt0, if_pos, if_neg, if_true, if_false, hR.2.2.2.2 p hp 1 (by omega), hR.2.2.2.2 q hq 1 (by omega)]
    exact m_up5 hw hR hk hp hk2 hl (by omega) (by omega) (by omega)
theorem m_up3 (hw : w = 45 ∨ w = 54) (hR : RM s c) (hk : cOk c) {p j k l z0 : Nat} (hp : p < cN c) (hj : j ≤ cN c) (hk2 : k ≤ cN c) (hl : l < 4) (hz0 : z0 < 2 ^ 10) : l_M_canUp_3 (d + 1) w (nI p) (dI j) (dI k) (nI l) (nI z0) s = some (b2i (decide (cBurd c p ≤ z0 + oHand c (hO k)) && decide (cH c l ≤ cP c p 1 + oTall c (hO j) + oTall c (hO k) / 2)), s) := by
  have h5 := hk.2.1
  rw [el_M_canUp_3 _ _ _ _ _ _ _ hw s]
  cases k with
  | zero =>
    simp (disch := omega) only [sm_some, q_lit, q_neg1, nI_leI, nI_ltI, nI_eq, nI_cl, qIn_iff, nI_d0, d0_nI, dI_d0, dI_le, dI_eq, dI_n1, nI_1, nI_add, pk_mul, pk_div, nI_lt0, if_pos, if_neg, if_true, if_false]
    exact m_up4 (k := 0) (z0 := 0) hw hR hk hp hj (by omega) hl (by omega) hz0
  | succ q =>
    have hq : q < cN c := hk2
    have hh := cHand_le hk hq
    rw [dI_s, if_neg (nI_m1 (by omega)), m_hand hR hk hq, sm_some]
    exact m_up4 (k := q + 1) hw hR hk hp hj hk2 hl (by omega) hz0
theorem m_up2 (hw : w = 45 ∨ w = 54) (hR : RM s c) (hk : cOk c) {p j k l : Nat} (hp : p < cN c) (hj : j ≤ cN c) (hk2 : k ≤ cN c) (hl : l < 4) : l_M_canUp_2 (d + 1) w (nI p) (dI j) (dI k) (nI l) s = some (b2i (decide (cBurd c p ≤ oHand c (hO j) + oHand c (hO k)) && decide (cH c l ≤ cP c p 1 + oTall c (hO j) + oTall c (hO k) / 2)), s) := by
  have h5 := hk.2.1
  rw [el_M_canUp_2 _ _ _ _ _ _ hw s]
  cases j with
  | zero =>
    simp (disch := omega) only [sm_some, q_lit, q_neg1, nI_leI, nI_ltI, nI_eq, nI_cl, qIn_iff, nI_d0, d0_nI, dI_d0, dI_le, dI_eq, dI_n1, nI_1, nI_add, pk_mul, pk_div, nI_lt0, if_pos, if_neg, if_true, if_false]
    exact m_up3 (j := 0) (z0 := 0) hw hR hk hp (by omega) hk2 hl (by omega)
  | succ q =>
    have hq : q < cN c := hj
    have hh := cHand_le hk hq
    rw [dI_s, if_neg (nI_m1 (by omega)), m_hand hR hk hq, sm_some]
    exact m_up3 (j := q + 1) hw hR hk hp hj hk2 hl (by omega)
theorem m_at (hw : w = 45 ∨ w = 54) (hC : RC s M) (hL : RL s w (cN c) lv) (hk : cOk c) (hl : lvOk c lv) {j l : Nat} {X : Option (Int32 × qMem)} {b : Bool} (hj : j ≤ cN c) (hl2 : l < 2 ^ 31) {x : Int32} (hx : x = nI l) (hX : X = some (b2i b, s)) : (if dI j = -1 then X else (m_M_isThere (d + 2) w (dI j) x s).bind (fun q => if q.1 = 0 then some (0, q.2) else X)) = some (b2i (oAt M lv l (hO j) && b), s) := by
  have h5 := hk.2.1
  cases j with
  | zero => rw [dz0, hX]; rfl
  | succ q =>
    have hq : q < cN c := hj
    rw [dI_s, if_neg (nI_m1 (by omega)), hx, m_isThere hw hC hL hk hl hq hl2, sm_some]
    dsimp only
    show _ = some (b2i ((M q && decide (lv q = l)) && b), s)
    cases (M q && decide (lv q = l)) with
    | false => rw [bf0]; rfl
    | true => rw [bt0, hX, Bool.true_and]
theorem m_up1 (hw : w = 45 ∨ w = 54) (hR : RM s c) (hC : RC s M) (hL : RL s w (cN c) lv) (hk : cOk c) (hl : lvOk c lv) {p j k : Nat} {a : Bool} (hp : p < cN c) (hj : j ≤ cN c) (hk2 : k ≤ cN c) (hl4 : lv p < 4) : l_M_canUp_1 (d + 2) w (nI p) (dI j) (dI k) (nI (lv p)) (b2i a) s = some (b2i (bif (hO j).isNone && (hO k).isNone then a else !a && decide (cP c p 0 ≠ 2) && oAt M lv (lv p) (hO j) && oAt M lv (lv p + 1) (hO k) && decide (cBurd c p ≤ oHand c (hO j) + oHand c (hO k)) && decide (cH c (lv p) ≤ cP c p 1 + oTall c (hO j) + oTall c (hO k) / 2)), s) := by
  have h5 := hk.2.1
  have h3 := hk.2.2.2 p hp
  have e0 : s.1 42 (6 * p) = nI (cP c p 0) := hR.2.2.2.2 p hp 0 (by omega)
  rw [el_M_canUp_1 _ _ _ _ _ _ _ hw s]
  have tail : (if b2i a = 0 then (if qIn (6 * nI p) 30 then (if (s.1 42 ((6 * nI p)).toNatClampNeg) = 2 then some (0, s) else (if dI j = (-1) then (if dI k = (-1) then (l_M_canUp_2 (d + 2) w (nI p) (dI j) (dI k) (nI (lv p)) s) else ((m_M_isThere (d + 2) w (dI k) (nI (lv p) + 1) s).bind (fun q1 => (if q1.1 = 0 then some (0, q1.2) else (l_M_canUp_2 (d + 2) w (nI p) (dI j) (dI k) (nI (lv p)) q1.2))))) else ((m_M_isThere (d + 2) w (dI j) (nI (lv p)) s).bind (fun q2 => (if q2.1 = 0 then some (0, q2.2) else (if dI k = (-1) then (l_M_canUp_2 (d + 2) w (nI p) (dI j) (dI k) (nI (lv p)) q2.2) else ((m_M_isThere (d + 2) w (dI k) (nI (lv p) + 1) q2.2).bind (fun q3 => (if q3.1 = 0 then some (0, q3.2) else (l_M_canUp_2 (d + 2) w (nI p) (dI j) (dI k) (nI (lv p)) q3.2)))))))))) else none) else some (0, s)) = some (b2i (!a && decide (cP c p 0 ≠ 2) && oAt M lv (lv p) (hO j) && oAt M lv (lv p + 1) (hO k) && decide (cBurd c p ≤ oHand c (hO j) + oHand c (hO k)) && decide (cH c (lv p) ≤ cP c p 1 + oTall c (hO j) + oTall c (hO k) / 2)), s) := by
    cases a with
    | true => rw [bt0]; rfl
    | false =>
      rw [bf0]
      by_cases h2 : cP c p 0 = 2
      · rw [decide_eq_false (p := cP c p 0 ≠ 2) (by omega)]
        simp (disch := omega) only [sm_some, q_lit, q_neg1, nI_leI, nI_ltI, nI_eq, nI_cl, qIn_iff, nI_d0, d0_nI, dI_d0, dI_le, dI_eq, dI_n1, nI_1, nI_add, pk_mul, pk_div, nI_lt0, if_pos, if_neg, if_true, if_false, e0]
        rfl
      · rw [decide_eq_true (p := cP c p 0 ≠ 2) h2]
        have e1 : (6 : Int32) * nI p = nI (6 * p) := pk_mul 6 p
        rw [e1, if_pos (qIn_n (by omega) (by omega)), nI_cl (by omega), e0, if_neg (show ¬ nI (cP c p 0) = 2 from fun e => h2 ((nI_eq (b := 2) (by omega) (by omega)).mp e))]
        have k2 := m_up2 (d := d + 1) hw hR hk hp hj hk2 hl4
        have inner : ∀ t, t = s → (if dI k = (-1) then (l_M_canUp_2 (d + 2) w (nI p) (dI j) (dI k) (nI (lv p)) t) else ((m_M_isThere (d + 2) w (dI k) (nI (lv p) + 1) t).bind (fun q1 => (if q1.1 = 0 then some (0, q1.2) else (l_M_canUp_2 (d + 2) w (nI p) (dI j) (dI k) (nI (lv p)) q1.2))))) = some (b2i (oAt M lv (lv p + 1) (hO k) && (decide (cBurd c p ≤ oHand c (hO j) + oHand c (hO k)) && decide (cH c (lv p) ≤ cP c p 1 + oTall c (hO j) + oTall c (hO k) / 2))), s) := by
          intro t ht
          subst ht
          cases k with
          | zero => rw [dz0, k2]; rfl
          | succ q =>
            have hq : q < cN c := hk2
            rw [dI_s, if_neg (nI_m1 (by omega)), nI_1, m_isThere hw hC hL hk hl hq (by omega), sm_some]
            dsimp only
            show _ = some (b2i ((M q && decide (lv q = lv p + 1)) && _), t)
            rw [dI_s] at k2
            cases (M q && decide (lv q = lv p + 1)) with
            | false => rw [bf0]; rfl
            | true => rw [bt0, k2, Bool.true_and]
        have fin : ∀ x y z u : Bool, (true && true && x && y && z && u) = (x && (y && (z && u))) := by decide
        rw [show (!false) = true from rfl, fin]
        cases j with
        | zero =>
          rw [dz0, inner s rfl]
          rfl
        | succ q =>
          have hq : q < cN c := hj
          rw [dI_s] at inner ⊢
          rw [if_neg (nI_m1 (by omega)), m_isThere hw hC hL hk hl hq (by omega), sm_some]
          dsimp only
          show _ = some (b2i ((M q && decide (lv q = lv p)) && _), s)
          cases (M q && decide (lv q = lv p)) with
          | false => rw [bf0]; rfl
          | true => rw [bt0, inner s rfl, Bool.true_and]
  rw [tail]
  cases j with
  | zero =>
    rw [dz0]
    cases k with
    | zero => rw [dz0, if_pos (b2i_01 a)]; rfl
    | succ q =>
      rw [dI_s, if_neg (nI_m1 (by have : q < cN c := hk2; omega))]
      rfl
  | succ q =>
    rw [dI_s, if_neg (nI_m1 (by have : q < cN c := hj; omega))]
    rfl
end MMOVE
