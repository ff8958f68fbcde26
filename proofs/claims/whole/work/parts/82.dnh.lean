/-! down, and who helped whom -/
section DNH
variable {d : Nat} {c : Co} {lv : Nat → Nat}
theorem bth_down {s : qMem} {x y : Int32} (hI : INV s c lv) : bth (m_G_down (d + 8) x y) (m_M_down (d + 8) x y) s (fun s2 => ∃ lv2, INV s2 c lv2) := by
  have hI0 := hI
  obtain ⟨i1, i2, i3, i4, ⟨m, m1, m2, m3⟩, i6, i7, i8, i9⟩ := hI
  have h5 := i1.2.1
  have h4 := i1.1
  have still : ∀ {r : Int32}, m_G_down (d + 8) x y s = some (r, s) → m_M_down (d + 8) x y s = some (r, s) → bth (m_G_down (d + 8) x y) (m_M_down (d + 8) x y) s (fun s2 => ∃ lv2, INV s2 c lv2) := fun h1 h2 => ⟨_, s, s, h1, h2, lv, hI0⟩
  rcases i_cases x (cN c) with ⟨p, hp, rfl⟩ | hx
  · have g1 := t_isOne (d := d + 6) (Or.inl rfl) i3.1 i1 hp
    have k1 := m_isOne (d := d + 5) i4.1 i1 hp
    rcases i_dI y (cN c) with ⟨j, hj, rfl⟩ | hy
    · have g2 := g_may (d := d + 5) i3.1 i1 hp hj
      have k2 := m_other (d := d + 4) i4.1 i1 hp hj
      by_cases hjp : j ≠ p + 1
      · have g4 := t_sinks (d := d + 3) (Or.inl ⟨rfl, rfl⟩) i3.1 i1 i3.2.1 i2 hp hj
        have k4 := m_canDown (d := d + 4) (Or.inl rfl) i4.1 i4.2.1 i4.2.2 i1 i2 hp hj
        have ef : fDn c ALL lv p j = cDn c ALL lv p (hO j) := by
          unfold fDn
          rw [decide_eq_true hjp, Bool.true_and]
        rw [ef] at g4
        cases hc : cDn c ALL lv p (hO j) with
        | false =>
          refine still (r := -4) ?_ ?_
          · rw [e_G_down, g1, sm_some, n10, g2, sm_some, decide_eq_true hjp, bt0, g4, sm_some, hc, bf0]
          · rw [e_M_down, k1, sm_some, n10, k2, sm_some, decide_eq_true hjp, bt0, k4, sm_some, hc, bf0]
        | true =>
          have hlt : 0 < lv p := by
            unfold cDn at hc
            simp only [Bool.and_eq_true, decide_eq_true_eq] at hc
            exact hc.1.1
          have htop := i2 p hp
          obtain ⟨l1, l2⟩ := mv_lim m1
          by_cases hm : m = 9999
          · refine still (r := -5) ?_ ?_
            · rw [e_G_down, g1, sm_some, n10, g2, sm_some, decide_eq_true hjp, bt0, g4, sm_some, hc, bt0, m2, if_neg (fun q => by have := l1.mp q; omega)]
            · rw [e_M_down, k1, sm_some, n10, k2, sm_some, decide_eq_true hjp, bt0, k4, sm_some, hc, bt0, m3, if_pos (l2.mpr hm)]
          · have hv := inv_moved (j := j) (k := 0) (p := p) (v := lv p - 1) (m := m) hI0 (by omega) (by omega) hp (by omega) (by omega)
            have i5 : qIn (nI p) 5 := qIn_n (by omega) (by omega)
            have ed : nI (lv p) + -1 = nI (lv p - 1) := by
              rw [dI_pred2]
              obtain ⟨q, hq⟩ : ∃ q, lv p = q + 1 := ⟨lv p - 1, by omega⟩
              rw [hq]
              rfl
            refine ⟨nI (m + 1), mvG s j 0 p (lv p - 1) m, mvM (mvG s j 0 p (lv p - 1) m) j 0 p (lv p - 1) m, ?_, ?_, _, hv⟩
            · rw [e_G_down, g1, sm_some, n10, g2, sm_some, decide_eq_true hjp, bt0, g4, sm_some, hc, bt0, m2, if_pos (l1.mpr (by omega)), j_addHelp (by omega) (by omega), sm_some, e_G_go, if_pos i5, if_pos i5, nI_cl (by omega), aH_o (by decide), aH_o (by decide), i3.2.1 p hp, m2, ed, nI_1, sm_some]
              rfl
            · have M1 : MI (mvG s j 0 p (lv p - 1) m) c lv := MI_of (fun o k h => mvG_o (by omega) (by omega) (by omega) (by omega)) i4
              have k1b := m_isOne (d := d + 5) M1.1 i1 hp
              have k2b := m_other (d := d + 4) M1.1 i1 hp hj
              have k4b := m_canDown (d := d + 4) (Or.inl rfl) M1.1 M1.2.1 M1.2.2 i1 i2 hp hj
              have m3b : (mvG s j 0 p (lv p - 1) m).1 40 18 = nI m := by
                rw [mvG_o (by omega) (by omega) (by omega) (by omega)]
                exact m3
              rw [e_M_down, k1b, sm_some, n10, k2b, sm_some, decide_eq_true hjp, bt0, k4b, sm_some, hc, bt0, m3b, if_neg (fun q => hm (l2.mp q)), if_pos i5, if_pos i5, nI_cl (by omega), M1.2.2 p hp, f_pred hlt, nI_1, m_thank (by omega) (by omega), sm_some]
              have ee : (mvM (mvG s j 0 p (lv p - 1) m) j 0 p (lv p - 1) m).1 40 18 = nI (m + 1) := by
                unfold mvM
                rw [aH_o (by decide), aH_o (by decide), q_rw]
              show some ((mvM (mvG s j 0 p (lv p - 1) m) j 0 p (lv p - 1) m).1 40 18, mvM (mvG s j 0 p (lv p - 1) m) j 0 p (lv p - 1) m) = _
              rw [ee]
      · refine still (r := -2) ?_ ?_
        · rw [e_G_down, g1, sm_some, n10, g2, sm_some, decide_eq_false hjp, bf0]
        · rw [e_M_down, k1, sm_some, n10, k2, sm_some, decide_eq_false hjp, bf0]
    · refine still (r := -2) ?_ ?_
      · rw [e_G_down, g1, sm_some, n10, g_may_out i3.1 i1 hy, sm_some, bf0]
      · rw [e_M_down, k1, sm_some, n10, m_other_out i4.1 i1 hy, sm_some, bf0]
  · refine still (r := -2) ?_ ?_
    · rw [e_G_down, t_isOne_out (Or.inl rfl) i3.1 i1 hx, sm_some, n00]
    · rw [e_M_down, m_isOne_out i4.1 i1 hx, sm_some, n00]
theorem j_between {s : qMem} {a b : Nat} (ha : a < 5) (hb : b < 5) : m_J_helpBetween (d + 2) (nI a) (nI b) s = some (s.1 24 (5 * a + b), s) := by
  have e : nI a * 5 + nI b = nI (5 * a + b) := by
    have h1 : nI a * 5 = nI (a * 5) := pk_mul a 5
    rw [h1, nI_add, Nat.mul_comm]
  have i25 : qIn (nI (5 * a + b)) 25 := qIn_n (by omega) (by omega)
  rw [e_J_helpBetween, j_pair ha hb, sm_some]
  dsimp only
  rw [if_neg (show ¬ (1 : Int32) = 0 from by decide), e, if_pos i25, nI_cl (by omega)]
theorem bth_helped {s : qMem} {x y : Int32} (hI : INV s c lv) : bth (m_G_helped (d + 8) x y) (m_M_helped (d + 8) x y) s (fun s2 => INV s2 c lv) := by
  have hI0 := hI
  obtain ⟨i1, i2, i3, i4, i5, i6, i7, i8, i9⟩ := hI
  have h5 := i1.2.1
  rcases i_cases x (cN c) with ⟨p, hp, rfl⟩ | hx
  · rcases i_cases y (cN c) with ⟨q, hq, rfl⟩ | hy
    · by_cases z : p = q
      · refine bth_still (r := -2) ?_ ?_ hI0
        · rw [e_G_helped, t_isOne (Or.inl rfl) i3.1 i1 hp, sm_some, n10, t_isOne (Or.inl rfl) i3.1 i1 hq, sm_some, n10, if_pos (by rw [z])]
        · rw [e_M_helped, m_isOne i4.1 i1 hp, sm_some, n10, m_isOne i4.1 i1 hq, sm_some, n10, if_pos (by rw [z])]
      · have ne : ¬ nI p = nI q := by
          rw [nI_eq (by omega) (by omega)]
          exact z
        have e : 5 * nI p + nI q = nI (5 * p + q) := by
          have h1 : 5 * nI p = nI (5 * p) := pk_mul 5 p
          rw [h1, nI_add]
        have i25 : qIn (nI (5 * p + q)) 25 := qIn_n (by omega) (by omega)
        refine bth_still (r := s.1 24 (5 * p + q)) ?_ ?_ hI0
        · rw [e_G_helped, t_isOne (Or.inl rfl) i3.1 i1 hp, sm_some, n10, t_isOne (Or.inl rfl) i3.1 i1 hq, sm_some, n10, if_neg ne, j_between (by omega) (by omega), sm_some]
        · rw [e_M_helped, m_isOne i4.1 i1 hp, sm_some, n10, m_isOne i4.1 i1 hq, sm_some, n10, if_neg ne, e, if_pos i25, nI_cl (by omega), i6 _ (by omega)]
    · refine bth_still (r := -2) ?_ ?_ hI0
      · rw [e_G_helped, t_isOne (Or.inl rfl) i3.1 i1 hp, sm_some, n10, t_isOne_out (Or.inl rfl) i3.1 i1 hy, sm_some, n00]
      · rw [e_M_helped, m_isOne i4.1 i1 hp, sm_some, n10, m_isOne_out i4.1 i1 hy, sm_some, n00]
  · refine bth_still (r := -2) ?_ ?_ hI0
    · rw [e_G_helped, t_isOne_out (Or.inl rfl) i3.1 i1 hx, sm_some, n00]
    · rw [e_M_helped, m_isOne_out i4.1 i1 hx, sm_some, n00]
end DNH
