/-! up and down -/
section UPD
variable {d : Nat} {c : Co} {lv : Nat → Nat}
theorem g_may {s : qMem} {p j : Nat} (hR : RT s 1 c) (hk : cOk c) (hp : p < cN c) (hj : j ≤ cN c) : m_G_mayBeAsked (d + 2) (nI p) (dI j) s = some (b2i (decide (j ≠ p + 1)), s) := by
  have h5 := hk.2.1
  rw [e_G_mayBeAsked]
  cases j with
  | zero =>
    rw [if_pos (show dI 0 = -1 from rfl), decide_eq_true (by omega)]
    rfl
  | succ q =>
    rw [dI_s, if_neg (nI_m1 (by omega)), t_isOne (Or.inl rfl) hR hk (show q < cN c by omega), sm_some, n10]
    by_cases z : q = p
    · rw [if_pos (by rw [z]), decide_eq_false (by omega)]
      rfl
    · rw [if_neg (by rw [nI_eq (by omega) (by omega)]; exact z), decide_eq_true (by omega)]
      rfl
theorem m_other {s : qMem} {p j : Nat} (hR : RM s c) (hk : cOk c) (hp : p < cN c) (hj : j ≤ cN c) : m_M_isOther (d + 3) (nI p) (dI j) s = some (b2i (decide (j ≠ p + 1)), s) := by
  have h5 := hk.2.1
  rw [e_M_isOther]
  cases j with
  | zero =>
    rw [if_pos (show dI 0 = -1 from rfl), decide_eq_true (by omega)]
    rfl
  | succ q =>
    rw [dI_s, if_neg (nI_m1 (by omega)), m_isOne hR hk (show q < cN c by omega), sm_some, n10]
    by_cases z : q = p
    · rw [if_pos (by rw [z]), decide_eq_false (by omega)]
      rfl
    · rw [if_neg (by rw [nI_eq (by omega) (by omega)]; exact z), decide_eq_true (by omega)]
      rfl
/-- nobody, one of them, or none of them -/
theorem i_dI (x : Int32) (n : Nat) : (∃ j, j ≤ n ∧ x = dI j) ∨ (x ≠ -1 ∧ ∀ p, p < n → x ≠ nI p) := by
  by_cases z : x = -1
  · exact Or.inl ⟨0, Nat.zero_le _, z⟩
  · rcases i_cases x n with ⟨p, hp, rfl⟩ | h
    · exact Or.inl ⟨p + 1, by omega, rfl⟩
    · exact Or.inr ⟨z, h⟩
theorem g_may_out {s : qMem} {x y : Int32} (hR : RT s 1 c) (hk : cOk c) (hx : x ≠ -1 ∧ ∀ p, p < cN c → x ≠ nI p) : m_G_mayBeAsked (d + 2) y x s = some (b2i false, s) := by
  rw [e_G_mayBeAsked, if_neg hx.1, t_isOne_out (Or.inl rfl) hR hk hx.2, sm_some, n00]
  rfl
theorem m_other_out {s : qMem} {x y : Int32} (hR : RM s c) (hk : cOk c) (hx : x ≠ -1 ∧ ∀ p, p < cN c → x ≠ nI p) : m_M_isOther (d + 3) y x s = some (b2i false, s) := by
  rw [e_M_isOther, if_neg hx.1, m_isOne_out hR hk hx.2, sm_some, n00]
  rfl
theorem mv_lim {m : Nat} (hm : m ≤ 9999) : (nI m < (9999 : Int32) ↔ m < 9999) ∧ (nI m = (9999 : Int32) ↔ m = 9999) := by
  constructor
  · show nI m < nI 9999 ↔ _
    rw [nI_ltI (by omega) (by omega)]
  · show nI m = nI 9999 ↔ _
    rw [nI_eq (by omega) (by omega)]
theorem bth_up {s : qMem} {x y z : Int32} (hI : INV s c lv) : bth (m_G_up (d + 8) x y z) (m_M_up (d + 8) x y z) s (fun s2 => ∃ lv2, INV s2 c lv2) := by
  have hI0 := hI
  obtain ⟨i1, i2, i3, i4, ⟨m, m1, m2, m3⟩, i6, i7, i8, i9⟩ := hI
  have h5 := i1.2.1
  have h4 := i1.1
  have still : ∀ {r : Int32}, m_G_up (d + 8) x y z s = some (r, s) → m_M_up (d + 8) x y z s = some (r, s) → bth (m_G_up (d + 8) x y z) (m_M_up (d + 8) x y z) s (fun s2 => ∃ lv2, INV s2 c lv2) := fun h1 h2 => ⟨_, s, s, h1, h2, lv, hI0⟩
  rcases i_cases x (cN c) with ⟨p, hp, rfl⟩ | hx
  · have g1 := t_isOne (d := d + 6) (Or.inl rfl) i3.1 i1 hp
    have k1 := m_isOne (d := d + 5) i4.1 i1 hp
    rcases i_dI y (cN c) with ⟨j, hj, rfl⟩ | hy
    · have g2 := g_may (d := d + 5) i3.1 i1 hp hj
      have k2 := m_other (d := d + 4) i4.1 i1 hp hj
      by_cases hjp : j ≠ p + 1
      · rcases i_dI z (cN c) with ⟨k, hk, rfl⟩ | hz
        · have g3 := g_may (d := d + 5) i3.1 i1 hp hk
          have k3 := m_other (d := d + 4) i4.1 i1 hp hk
          by_cases hkp : k ≠ p + 1
          · have g4 := t_rises (d := d + 3) (Or.inl ⟨rfl, rfl⟩) i3.1 i1 i3.2.1 i2 hp hj hk
            have k4 := m_canUp (d := d + 4) (Or.inl rfl) i4.1 i4.2.1 i4.2.2 i1 i2 hp hj hk
            cases hc : cUp c ALL lv p (hO j) (hO k) with
            | false =>
              refine still (r := -4) ?_ ?_
              · rw [e_G_up, g1, sm_some, n10, g2, sm_some, decide_eq_true hjp, bt0, g3, sm_some, decide_eq_true hkp, bt0, g4, sm_some, hc, Bool.and_false, bf0]
              · rw [e_M_up, k1, sm_some, n10, k2, sm_some, decide_eq_true hjp, bt0, k3, sm_some, decide_eq_true hkp, bt0, k4, sm_some, hc, bf0]
            | true =>
              have hlt : lv p < cTop c := by
                unfold cUp at hc
                simp only [Bool.and_eq_true, decide_eq_true_eq] at hc
                exact hc.1.1
              have tt : (decide (j ≠ p + 1) && decide (k ≠ p + 1) && true) = true := by rw [decide_eq_true hjp, decide_eq_true hkp]; rfl
              obtain ⟨l1, l2⟩ := mv_lim m1
              by_cases hm : m = 9999
              · refine still (r := -5) ?_ ?_
                · rw [e_G_up, g1, sm_some, n10, g2, sm_some, decide_eq_true hjp, bt0, g3, sm_some, decide_eq_true hkp, bt0, g4, sm_some, hc, decide_eq_true hjp, decide_eq_true hkp]
                  show (if b2i true = 0 then _ else (if s.1 22 1 < 9999 then _ else some (-5, s))) = _
                  rw [bt0, m2, if_neg (fun q => by have := l1.mp q; omega)]
                · rw [e_M_up, k1, sm_some, n10, k2, sm_some, decide_eq_true hjp, bt0, k3, sm_some, decide_eq_true hkp, bt0, k4, sm_some, hc, bt0, m3, if_pos (l2.mpr hm)]
              · have hv := inv_moved (j := j) (k := k) (p := p) (v := lv p + 1) (m := m) hI0 (by omega) (by omega) hp (by omega) (by omega)
                have i5 : qIn (nI p) 5 := qIn_n (by omega) (by omega)
                refine ⟨nI (m + 1), mvG s j k p (lv p + 1) m, mvM (mvG s j k p (lv p + 1) m) j k p (lv p + 1) m, ?_, ?_, _, hv⟩
                · rw [e_G_up, g1, sm_some, n10, g2, sm_some, decide_eq_true hjp, bt0, g3, sm_some, decide_eq_true hkp, bt0, g4, sm_some, hc, decide_eq_true hjp, decide_eq_true hkp]
                  show (if b2i true = 0 then _ else (if s.1 22 1 < 9999 then _ else some (-5, s))) = _
                  rw [bt0, m2, if_pos (l1.mpr (by omega)), j_addHelp (by omega) (by omega), sm_some, j_addHelp (by omega) (by omega), sm_some, e_G_go, if_pos i5, if_pos i5, nI_cl (by omega), aH_o (by decide), aH_o (by decide), aH_o (by decide), aH_o (by decide), i3.2.1 p hp, m2, nI_1, nI_1, sm_some]
                  rfl
                · have M1 : MI (mvG s j k p (lv p + 1) m) c lv := MI_of (fun o k h => mvG_o (by omega) (by omega) (by omega) (by omega)) i4
                  have k1b := m_isOne (d := d + 5) M1.1 i1 hp
                  have k2b := m_other (d := d + 4) M1.1 i1 hp hj
                  have k3b := m_other (d := d + 4) M1.1 i1 hp hk
                  have k4b := m_canUp (d := d + 4) (Or.inl rfl) M1.1 M1.2.1 M1.2.2 i1 i2 hp hj hk
                  have m3b : (mvG s j k p (lv p + 1) m).1 40 18 = nI m := by
                    rw [mvG_o (by omega) (by omega) (by omega) (by omega)]
                    exact m3
                  rw [e_M_up, k1b, sm_some, n10, k2b, sm_some, decide_eq_true hjp, bt0, k3b, sm_some, decide_eq_true hkp, bt0, k4b, sm_some, hc, bt0, m3b, if_neg (fun q => hm (l2.mp q)), if_pos i5, if_pos i5, nI_cl (by omega), M1.2.2 p hp, nI_1, nI_1, m_thank (by omega) (by omega), sm_some, m_thank (by omega) (by omega), sm_some]
                  have ee : (mvM (mvG s j k p (lv p + 1) m) j k p (lv p + 1) m).1 40 18 = nI (m + 1) := by
                    unfold mvM
                    rw [aH_o (by decide), aH_o (by decide), q_rw]
                  show some ((mvM (mvG s j k p (lv p + 1) m) j k p (lv p + 1) m).1 40 18, mvM (mvG s j k p (lv p + 1) m) j k p (lv p + 1) m) = _
                  rw [ee]
          · refine still (r := -2) ?_ ?_
            · rw [e_G_up, g1, sm_some, n10, g2, sm_some, decide_eq_true hjp, bt0, g3, sm_some, decide_eq_false hkp, bf0]
            · rw [e_M_up, k1, sm_some, n10, k2, sm_some, decide_eq_true hjp, bt0, k3, sm_some, decide_eq_false hkp, bf0]
        · refine still (r := -2) ?_ ?_
          · rw [e_G_up, g1, sm_some, n10, g2, sm_some, decide_eq_true hjp, bt0, g_may_out i3.1 i1 hz, sm_some, bf0]
          · rw [e_M_up, k1, sm_some, n10, k2, sm_some, decide_eq_true hjp, bt0, m_other_out i4.1 i1 hz, sm_some, bf0]
      · refine still (r := -2) ?_ ?_
        · rw [e_G_up, g1, sm_some, n10, g2, sm_some, decide_eq_false hjp, bf0]
        · rw [e_M_up, k1, sm_some, n10, k2, sm_some, decide_eq_false hjp, bf0]
    · refine still (r := -2) ?_ ?_
      · rw [e_G_up, g1, sm_some, n10, g_may_out i3.1 i1 hy, sm_some, bf0]
      · rw [e_M_up, k1, sm_some, n10, m_other_out i4.1 i1 hy, sm_some, bf0]
  · refine still (r := -2) ?_ ?_
    · rw [e_G_up, t_isOne_out (Or.inl rfl) i3.1 i1 hx, sm_some, n00]
    · rw [e_M_up, m_isOne_out i4.1 i1 hx, sm_some, n00]
end UPD
