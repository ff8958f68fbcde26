/-! help and step -/
section LOOK2
variable {d : Nat} {c : Co} {lv : Nat → Nat}
theorem code_div {j k m : Nat} (hj : j ≤ 5) (hk : k ≤ 5) (hm : m = 6 ∨ m = 7) : nI (j * m + k) / nI m = nI j ∧ nI (j * m + k) - nI (j * m + k) / nI m * nI m = nI k := by
  have hb : j * m + k < 2 ^ 31 := by
    rcases hm with h | h <;> (subst h; omega)
  have e1 : (j * m + k) / m = j := by
    rcases hm with h | h <;> (subst h; omega)
  have e2 : (j * m + k) % m = k := by
    rcases hm with h | h <;> (subst h; omega)
  have q1 := pk_div hb (show 0 < m by omega) (show m < 2 ^ 31 by omega)
  have q2 := pk_rem hb (show 0 < m by omega) (show m < 2 ^ 31 by omega)
  rw [e1] at q1
  rw [e2] at q2
  exact ⟨q1, q2⟩
theorem ask_help {x w : Int32} (hk : cOk c) (hl : lvOk c lv) : asks c lv (m_G_help (d + 8) x w) (m_M_help (d + 8) x w) := by
  have h5 := hk.2.1
  rcases i_cases x (cN c) with ⟨p, hp, rfl⟩ | hx
  · by_cases hw : w = 0 ∨ w = 1
    · have w0 : ¬ w < 0 := by rcases hw with z | z <;> (subst z; decide)
      have w1 : w ≤ 1 := by rcases hw with z | z <;> (subst z; decide)
      cases hh : cHelp c ALL lv p with
      | none =>
        refine asks_still (-4) (fun s hC => ?_) (fun s hM => ?_)
        · rw [e_G_help, t_isOne (Or.inl rfl) hC.1 hk hp, sm_some, n10, if_neg w0, if_pos w1, t_help (d := d + 3) (Or.inl ⟨rfl, rfl⟩) hC.1 hk hC.2.1 hl hp, sm_some, hh]
          rfl
        · rw [e_M_help, m_isOne hM.1 hk hp, sm_some, n10, m_in01, sm_some, decide_eq_true hw, bt0, m_help (d := d + 3) (Or.inl rfl) hM.1 hM.2.1 hM.2.2 hk hl hp, sm_some, hh]
          rfl
      | some q =>
        obtain ⟨j, k⟩ := q
        obtain ⟨-, q2, q3, -⟩ := sr2_some _ _ _ hh
        have q2 : j < 0 + (cN c + 1) := q2
        have q3 : k < cN c + 1 := q3
        have hb6 : ¬ nI (j * 6 + k) = -1 := nI_m1 (by omega)
        have hb7 : ¬ nI (j * 7 + k) = -1 := nI_m1 (by omega)
        obtain ⟨a1, a2⟩ := code_div (j := j) (k := k) (m := 6) (by omega) (by omega) (Or.inl rfl)
        obtain ⟨b1, b2⟩ := code_div (j := j) (k := k) (m := 7) (by omega) (by omega) (Or.inr rfl)
        refine asks_still (if w = 0 then dI j else dI k) (fun s hC => ?_) (fun s hM => ?_)
        · rw [e_G_help, t_isOne (Or.inl rfl) hC.1 hk hp, sm_some, n10, if_neg w0, if_pos w1, t_help (d := d + 3) (Or.inl ⟨rfl, rfl⟩) hC.1 hk hC.2.1 hl hp, sm_some, hh]
          show (if nI (j * 6 + k) = -1 then _ else (if w = 0 then (m_T_lifterOf (d + 7) (nI (j * 6 + k)) s).bind _ else (m_T_pullerOf (d + 7) (nI (j * 6 + k)) s).bind _)) = _
          rw [if_neg hb6]
          have c1 : nI (j * 6 + k) / 6 = nI j := a1
          have c2 : nI (j * 6 + k) - nI (j * 6 + k) / 6 * 6 = nI k := a2
          rcases hw with z | z
          · subst z
            rw [if_pos rfl, if_pos rfl, e_T_lifterOf, sm_some, c1, dI_pred]
          · subst z
            rw [if_neg (by decide), if_neg (by decide), e_T_pullerOf, sm_some, c2, dI_pred]
        · rw [e_M_help, m_isOne hM.1 hk hp, sm_some, n10, m_in01, sm_some, decide_eq_true hw, bt0, m_help (d := d + 3) (Or.inl rfl) hM.1 hM.2.1 hM.2.2 hk hl hp, sm_some, hh]
          show (if nI (j * 7 + k) = -1 then _ else (if w = 0 then some ((nI (j * 7 + k) / 7) - 1, s) else some (((nI (j * 7 + k) - nI (j * 7 + k) / 7 * 7) - 1), s))) = _
          rw [if_neg hb7]
          have c1 : nI (j * 7 + k) / 7 = nI j := b1
          have c2 : nI (j * 7 + k) - nI (j * 7 + k) / 7 * 7 = nI k := b2
          rcases hw with z | z
          · subst z
            rw [if_pos rfl, if_pos rfl, c1, dI_pred]
          · subst z
            rw [if_neg (by decide), if_neg (by decide), c2, dI_pred]
    · refine asks_still (-3) (fun s hC => ?_) (fun s hM => ?_)
      · rw [e_G_help, t_isOne (Or.inl rfl) hC.1 hk hp, sm_some, n10]
        rcases in01 (w := w) with z | ⟨z, z2⟩ | z | z
        · rw [if_pos z]
        · rw [if_neg z, if_neg (lt_le1 z2)]
        · exact absurd (Or.inl z) hw
        · exact absurd (Or.inr z) hw
      · rw [e_M_help, m_isOne hM.1 hk hp, sm_some, n10, m_in01, sm_some, decide_eq_false hw, bf0]
  · refine asks_still (-2) (fun s hC => ?_) (fun s hM => ?_)
    · rw [e_G_help, t_isOne_out (Or.inl rfl) hC.1 hk hx, sm_some, n00]
    · rw [e_M_help, m_isOne_out hM.1 hk hx, sm_some, n00]
theorem rope_bit : ∀ m, m < 16 → ∀ k, k < 4 → (nI m >>> (nI k &&& 31)) &&& 1 = b2i (m.testBit k) := by decide +kernel
theorem m_inTop {s : qMem} {t : Nat} {x : Int32} (ht : 1 ≤ t) (ht4 : t ≤ 4) : m_M_in (d + 1) x 0 (nI t - 1) s = some (b2i (decide (¬ x < 0 ∧ ¬ nI t ≤ x)), s) := by
  rw [e_M_in, f_pred ht]
  by_cases y : x < 0
  · rw [if_pos y, decide_eq_false (fun z => z.1 y)]
    rfl
  · rw [if_neg y]
    obtain ⟨q, hq, rfl⟩ := nI_of y
    by_cases z : t ≤ q
    · rw [if_pos (by rw [nI_ltI (by omega) (by omega)]; omega), decide_eq_false (fun w => w.2 (nI_le z (by omega)))]
      rfl
    · rw [if_neg (by rw [nI_ltI (by omega) (by omega)]; omega), decide_eq_true ⟨y, by rw [nI_leI (by omega) (by omega)]; exact z⟩]
      rfl
theorem ask_step {x w : Int32} (hk : cOk c) : asks c lv (m_G_step (d + 8) x w) (m_M_step (d + 8) x w) := by
  have h4 := hk.1
  by_cases y : x < 0
  · refine asks_still (-2) (fun s hC => ?_) (fun s hM => ?_)
    · rw [e_G_step, if_pos y]
    · rw [e_M_step, hM.1.1, m_inTop h4.1 h4.2, sm_some, decide_eq_false (fun z => z.1 y), bf0]
  · obtain ⟨q, hq, rfl⟩ := nI_of y
    by_cases z : cTop c ≤ q
    · have z2 : nI (cTop c) ≤ nI q := nI_le z (by omega)
      refine asks_still (-2) (fun s hC => ?_) (fun s hM => ?_)
      · rw [e_G_step, if_neg y, hC.1.1, if_pos z2]
      · rw [e_M_step, hM.1.1, m_inTop h4.1 h4.2, sm_some, decide_eq_false (fun w => w.2 z2), bf0]
    · have z2 : ¬ nI (cTop c) ≤ nI q := by
        rw [nI_leI (by omega) (by omega)]
        exact z
      have z3 : nI q < (4 : Int32) := by
        show nI q < nI 4
        rw [nI_ltI (by omega) (by omega)]
        omega
      refine asks_still (if w = 0 then nI (cH c q) else if w = 1 then b2i (cR c q) else -3) (fun s hC => ?_) (fun s hM => ?_)
      · obtain ⟨r1, r2⟩ := hC.1.2.2.1 q (by omega)
        have r1 : s.1 2 q = nI (cH c q) := r1
        have r2 : s.1 3 q = b2i (cR c q) := r2
        rw [e_G_step, if_neg y, hC.1.1, if_neg z2, if_pos z3, if_pos (qIn_n (by omega) (by omega)), nI_cl (by omega), r1, r2]
        by_cases a : w = 0
        · rw [if_pos a, if_pos a]
        · rw [if_neg a, if_neg a]
          by_cases b : w = 1
          · rw [if_pos b, if_pos b, if_pos (qIn_n (by omega) (by omega))]
            cases cR c q <;> rfl
          · rw [if_neg b, if_neg b]
      · obtain ⟨m, m1, m2, m3⟩ := hM.1.2.2.2.1
        have r1 : s.1 41 q = nI (cH c q) := hM.1.2.2.1 q (by omega)
        rw [e_M_step, hM.1.1, m_inTop h4.1 h4.2, sm_some, decide_eq_true ⟨y, z2⟩, bt0, if_pos (qIn_n (by omega) (by omega)), nI_cl (by omega), r1, m2, rope_bit m m1 q (by omega), ← m3 q (by omega)]
        by_cases a : w = 0
        · rw [if_pos a, if_pos a]
        · rw [if_neg a, if_neg a]
          by_cases b : w = 1
          · rw [if_pos b, if_pos b]
          · rw [if_neg b, if_neg b]
end LOOK2
