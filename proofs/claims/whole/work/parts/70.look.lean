/-! what both are asked of where they stand -/
def FH (s s2 : qMem) : Prop := (∀ o k, ¬ (10 ≤ o ∧ o ≤ 18) → ¬ (26 ≤ o ∧ o ≤ 30) → o ≠ 33 → ¬ (o = 0 ∧ k = 6) → s2.1 o k = s.1 o k) ∧ s2.2 = s.2
theorem FH.rf {s : qMem} : FH s s := ⟨fun _ _ _ _ _ _ => rfl, rfl⟩
theorem FH.tr {s s2 s3 : qMem} (h : FH s s2) (h2 : FH s2 s3) : FH s s3 := ⟨fun o k q q1 q2 q3 => (h2.1 o k q q1 q2 q3).trans (h.1 o k q q1 q2 q3), h2.2.trans h.2⟩
theorem FG.FH {s s2 : qMem} (h : FG s s2) : FH s s2 := ⟨fun o k _ q1 _ q3 => h.1 o k q1 q3, h.2⟩
def asks (c : Co) (lv : Nat → Nat) (G M : qMem → Option (Int32 × qMem)) : Prop := ∃ r, (∀ s, CI s c lv → ∃ s2, G s = some (r, s2) ∧ CI s2 c lv ∧ FH s s2) ∧ ∀ s, MI s c lv → ∃ s2, M s = some (r, s2) ∧ FM s s2
theorem ask_asks {c : Co} {lv : Nat → Nat} {G M : qMem → Option (Int32 × qMem)} (h : ask c lv G M) : asks c lv G M := by
  obtain ⟨r, h1, h2⟩ := h
  refine ⟨r, fun s hs => ?_, h2⟩
  obtain ⟨s2, g1, g2, g3⟩ := h1 s hs
  exact ⟨s2, g1, g2, g3.FH⟩
/-- neither changes a thing -/
theorem asks_still {c : Co} {lv : Nat → Nat} {G M : qMem → Option (Int32 × qMem)} (r : Int32) (h1 : ∀ s, CI s c lv → G s = some (r, s)) (h2 : ∀ s, MI s c lv → M s = some (r, s)) : asks c lv G M := ⟨r, fun s hs => ⟨s, h1 s hs, hs, FH.rf⟩, fun s hs => ⟨s, h2 s hs, FM.rf⟩⟩
section LOOK
variable {d : Nat} {c : Co} {lv : Nat → Nat}
theorem such_0 {tk j : Nat} {s : qMem} (ht : tk < 5) (hj : j < 5) : l_T_isSuch_1 d (nI tk) 0 (nI j) s = some (b2i (decide (tk = 0)), s) := by
  rw [el_T_isSuch_1, if_neg (not_le5 hj), if_neg (by decide), if_neg (by decide)]
  by_cases z : tk = 0
  · subst z
    rw [if_pos (by decide), decide_eq_true rfl]
    rfl
  · have z2 : ¬ (0 : Int32) = nI tk := by
      show ¬ nI 0 = nI tk
      rw [nI_eq (by omega) (by omega)]
      omega
    rw [if_neg z2, if_pos (by decide), show qKon qOver (0 : Int32).toNatClampNeg = -1 from by decide, nI_1, el_T_isSuch_1, decide_eq_false z]
    by_cases y : (5 : Int32) ≤ nI (j + 1)
    · rw [if_pos y]
      rfl
    · rw [if_neg y, if_pos (by decide)]
      rfl
theorem such_1 {tk j : Nat} {s : qMem} (ht : tk < 5) (hj : j < 4) : l_T_isSuch_1 d (nI tk) 1 (nI j) s = some (b2i (decide (tk = 0 ∨ tk = 1)), s) := by
  rw [el_T_isSuch_1, if_neg (not_le5 (by omega)), if_neg (by decide), if_neg (by decide)]
  by_cases z : tk = 1
  · subst z
    rw [if_pos (by decide), decide_eq_true (Or.inr rfl)]
    rfl
  · have z2 : ¬ (1 : Int32) = nI tk := by
      show ¬ nI 1 = nI tk
      rw [nI_eq (by omega) (by omega)]
      omega
    rw [if_neg z2, if_pos (by decide), show qKon qOver (1 : Int32).toNatClampNeg = 0 from by decide, nI_1, such_0 ht (by omega)]
    congr 3
    exact decide_eq_decide.mpr (by omega)
theorem such_k {tk k : Nat} {s : qMem} (ht : tk < 5) (hk : k ≤ 3) : l_T_isSuch_1 d (nI tk) (nI (k + 1)) 0 s = some (b2i (decide (tk = 0 ∨ (tk = 1 ∧ k ≠ 3) ∨ tk = k + 1)), s) := by
  have h0 : k = 0 ∨ k = 1 ∨ k = 2 ∨ k = 3 := by omega
  have stp : ∀ x, 1 < x → x < 5 → tk ≠ x → l_T_isSuch_1 d (nI tk) (nI x) 0 s = l_T_isSuch_1 d (nI tk) (qKon qOver x) (nI 1) s := by
    intro x h1 h5 hx
    rw [el_T_isSuch_1, if_neg (by decide), if_neg (nI_pos (by omega)), if_neg (not_le5 h5), if_neg (by rw [nI_eq (by omega) (by omega)]; omega), if_pos (qIn_n h5 (by omega)), nI_cl (by omega)]
    rfl
  have hit : ∀ x, x < 5 → tk = x → l_T_isSuch_1 d (nI tk) (nI x) 0 s = some (1, s) := by
    intro x h5 hx
    rw [el_T_isSuch_1, if_neg (by decide), if_neg (nI_pos (by omega)), if_neg (not_le5 h5), if_pos (by rw [hx])]
  rcases h0 with h | h | h | h
  · subst h
    have := such_1 (d := d) (j := 0) (s := s) ht (by omega)
    refine Eq.trans this ?_
    congr 3
    exact decide_eq_decide.mpr (by omega)
  · subst h
    by_cases z : tk = 2
    · rw [hit 2 (by omega) z, decide_eq_true (by omega)]
      rfl
    · rw [stp 2 (by omega) (by omega) z, show qKon qOver 2 = 1 from by decide, such_1 ht (by omega)]
      congr 3
      exact decide_eq_decide.mpr (by omega)
  · subst h
    by_cases z : tk = 3
    · rw [hit 3 (by omega) z, decide_eq_true (by omega)]
      rfl
    · rw [stp 3 (by omega) (by omega) z, show qKon qOver 3 = 1 from by decide, such_1 ht (by omega)]
      congr 3
      exact decide_eq_decide.mpr (by omega)
  · subst h
    by_cases z : tk = 4
    · rw [hit 4 (by omega) z, decide_eq_true (by omega)]
      rfl
    · rw [stp 4 (by omega) (by omega) z, show qKon qOver 4 = 0 from by decide, such_0 ht (by omega)]
      congr 3
      exact decide_eq_decide.mpr (by omega)
theorem t_isSuch {p tk : Nat} {s : qMem} (hR : RT s 1 c) (hk : cOk c) (hp : p < cN c) (ht : tk < 5) : m_T_isSuch (d + 2) (nI p) (nI tk) s = some (b2i (decide (tk = 0 ∨ (tk = 1 ∧ cP c p 0 ≠ 3) ∨ tk = cP c p 0 + 1)), s) := by
  have h5 := hk.2.1
  have k0 : s.1 4 p = nI (cP c p 0) := (hR.2.2.2 p hp).1
  rw [e_T_isSuch, t_isOne (Or.inl rfl) hR hk hp, sm_some, n10, if_pos (qIn_n (by omega) (by omega)), nI_cl (by omega), k0, nI_1]
  exact such_k ht (hk.2.2.2 p hp).1
def nWays (c : Co) (lv : Nat → Nat) (p : Nat) : Nat := (bif cRise c ALL lv p then 1 else 0) + (bif cSink c ALL lv p then 2 else 0)
theorem in04 {s : qMem} {k : Int32} : (∃ n, n < 5 ∧ k = nI n ∧ m_M_in (d + 1) k 0 4 s = some (1, s)) ∨ (m_M_in (d + 1) k 0 4 s = some (0, s) ∧ (k < 0 ∨ ¬ k < 0 ∧ ¬ k ≤ 4)) := by
  rw [e_M_in]
  rcases i_cases k 5 with ⟨n, hn, rfl⟩ | hx
  · refine Or.inl ⟨n, hn, rfl, ?_⟩
    have h4 : ¬ (4 : Int32) < nI n := by
      show ¬ nI 4 < nI n
      rw [nI_ltI (by omega) (by omega)]
      omega
    rw [if_neg (nI_pos (by omega)), if_neg h4]
  · refine Or.inr ?_
    by_cases y : k < 0
    · rw [if_pos y]
      exact ⟨rfl, Or.inl y⟩
    · rcases i_out (n := 5) (by omega) hx with z | z
      · exact absurd z y
      · obtain ⟨q, hq, rfl⟩ := nI_of y
        rw [nI_leI (by omega) hq] at z
        have h4 : (4 : Int32) < nI q := by
          show nI 4 < nI q
          rw [nI_ltI (by omega) (by omega)]
          omega
        have h5 : ¬ nI q ≤ (4 : Int32) := by
          show ¬ nI q ≤ nI 4
          rw [nI_leI (by omega) (by omega)]
          omega
        rw [if_neg y, if_pos h4]
        exact ⟨rfl, Or.inr ⟨y, h5⟩⟩
theorem ask_as {x k : Int32} (hk : cOk c) (hl : lvOk c lv) : asks c lv (m_G_as (d + 8) x k) (m_M_as (d + 8) x k) := by
  have h5 := hk.2.1
  rcases i_cases x (cN c) with ⟨p, hp, rfl⟩ | hx
  · rcases in04 (d := d + 6) (k := k) (s := (fun _ _ => 0, 0)) with ⟨n, hn, rfl, -⟩ | ⟨-, hk4⟩
    · have hin : ∀ s : qMem, m_M_in (d + 7) (nI n) 0 4 s = some (1, s) := by
        intro s
        have h4 : ¬ (4 : Int32) < nI n := by
          show ¬ nI 4 < nI n
          rw [nI_ltI (by omega) (by omega)]
          omega
        rw [e_M_in, if_neg (nI_pos (by omega)), if_neg h4]
      have h4 : nI n ≤ (4 : Int32) := by
        show nI n ≤ nI 4
        rw [nI_leI (by omega) (by omega)]
        omega
      refine asks_still (if n = 0 ∨ (n = 1 ∧ cP c p 0 ≠ 3) ∨ n = cP c p 0 + 1 then nI (nWays c lv p) else -4) (fun s hC => ?_) (fun s hM => ?_)
      · rw [e_G_as, t_isOne (Or.inl rfl) hC.1 hk hp, sm_some, n10, if_neg (nI_pos (by omega)), if_pos h4, t_isSuch hC.1 hk hp hn, sm_some]
        dsimp only
        by_cases z : n = 0 ∨ (n = 1 ∧ cP c p 0 ≠ 3) ∨ n = cP c p 0 + 1
        · rw [if_pos z, decide_eq_true z, bt0, t_canRise (d := d + 2) (Or.inl ⟨rfl, rfl⟩) hC.1 hk hC.2.1 hl hp, sm_some]
          dsimp only
          rw [t_canSink (d := d + 3) (Or.inl ⟨rfl, rfl⟩) hC.1 hk hC.2.1 hl hp, sm_some]
          unfold nWays
          cases cRise c ALL lv p <;> cases cSink c ALL lv p <;> rfl
        · rw [if_neg z, decide_eq_false z, bf0]
      · have k0 : s.1 42 (6 * p) = nI (cP c p 0) := hM.1.2.2.2.2 p hp 0 (by omega)
        have hk0 := (hk.2.2.2 p hp).1
        have e6 : 6 * nI p = nI (6 * p) := pk_mul 6 p
        have go : (m_M_canGo (d + 7) 45 (nI p) 1 s).bind (fun q3 => ((m_M_canGo (d + 7) 45 (nI p) 0 q3.2).bind (fun q4 => some (((if q3.1 = 0 then 0 else 1 : Int32) + (if q4.1 = 0 then 0 else 2 : Int32)), q4.2)))) = some (nI (nWays c lv p), s) := by
          rw [m_rise (d := d + 2) (Or.inl rfl) hM.1 hM.2.1 hM.2.2 hk hl rfl hp, sm_some]
          dsimp only
          rw [m_sink (d := d + 3) (Or.inl rfl) hM.1 hM.2.1 hM.2.2 hk hl (by decide) hp, sm_some]
          unfold nWays
          cases cRise c ALL lv p <;> cases cSink c ALL lv p <;> rfl
        rw [e_M_as, m_isOne hM.1 hk hp, sm_some, n10, hin, sm_some]
        dsimp only
        rw [if_neg (show ¬ (1 : Int32) = 0 from by decide), e6, if_pos (qIn_n (by omega) (by omega)), nI_cl (by omega)]
        rw [go, k0]
        have hn3 : n = 0 ∨ n = 1 ∨ 2 ≤ n := by omega
        rcases hn3 with z | z | z
        · subst z
          rw [if_pos (by rfl), if_pos (Or.inl rfl)]
        · subst z
          rw [if_neg (by decide), if_pos (by rfl)]
          by_cases y : cP c p 0 = 3
          · rw [y, if_pos (by decide), if_neg (by decide)]
          · have y2 : ¬ nI (cP c p 0) = (3 : Int32) := by
              show ¬ nI (cP c p 0) = nI 3
              rw [nI_eq (by omega) (by omega)]
              exact y
            rw [if_neg y2, if_neg (by decide), if_pos (Or.inr (Or.inl ⟨rfl, y⟩))]
        · have n0 : ¬ nI n = (0 : Int32) := by
            show ¬ nI n = nI 0
            rw [nI_eq (by omega) (by omega)]
            omega
          have n1 : ¬ nI n = (1 : Int32) := by
            show ¬ nI n = nI 1
            rw [nI_eq (by omega) (by omega)]
            omega
          rw [if_neg n0, if_neg n1, f_pred (by omega)]
          by_cases y : cP c p 0 = n - 1
          · have y2 : nI (cP c p 0) = nI (n - 1) := by rw [y]
            rw [if_pos y2, if_neg (by decide), if_pos (Or.inr (Or.inr (by omega)))]
          · have y2 : ¬ nI (cP c p 0) = nI (n - 1) := by
              rw [nI_eq (by omega) (by omega)]
              exact y
            rw [if_neg y2, if_pos rfl, if_neg (by omega)]
    · refine asks_still (-3) (fun s hC => ?_) (fun s hM => ?_)
      · rw [e_G_as, t_isOne (Or.inl rfl) hC.1 hk hp, sm_some, n10]
        rcases hk4 with z | ⟨z, z2⟩
        · rw [if_pos z]
        · rw [if_neg z, if_neg z2]
      · rw [e_M_as, m_isOne hM.1 hk hp, sm_some, n10]
        rcases in04 (d := d + 6) (k := k) (s := s) with ⟨n, hn, rfl, -⟩ | ⟨y, -⟩
        · exfalso
          rcases hk4 with z | ⟨-, z2⟩
          · exact nI_pos (by omega) z
          · apply z2
            show nI n ≤ nI 4
            rw [nI_leI (by omega) (by omega)]
            omega
        · rw [y, sm_some, if_pos rfl]
  · refine asks_still (-2) (fun s hC => ?_) (fun s hM => ?_)
    · rw [e_G_as, t_isOne_out (Or.inl rfl) hC.1 hk hx, sm_some, n00]
    · rw [e_M_as, m_isOne_out hM.1 hk hx, sm_some, n00]
end LOOK
