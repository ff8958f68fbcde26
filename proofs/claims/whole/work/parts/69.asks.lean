/-! most, lasts and the way, asked of both -/
section ASKS2
variable {d : Nat} {c : Co} {lv : Nat → Nat}
theorem ask_most {w : Int32} (hk : cOk c) (hl : lvOk c lv) : ask c lv (m_G_most (d + 8) w) (m_M_most (d + 8) w) := by
  have hB := bfs_lv ALL hk hl
  have hO := hB.1
  have h5 := hk.2.1
  by_cases hw : w = 0 ∨ w = 1
  · have hlt : cMost (bfs c ALL (cSum lv (cN c))) (cTop c) (cN c) 0 (bN (bfs c ALL (cSum lv (cN c)))) 0 < 32 := by
      have : ∀ (q i a : Nat), a < 32 → cMost (bfs c ALL (cSum lv (cN c))) (cTop c) (cN c) i q a < 32 := by
        intro q
        induction q with
        | zero => intro i a h; exact h
        | succ q ih => intro i a h; exact ih _ _ (better_lt h (aTop_lt (cN c) 0 0 (by omega) (by omega)))
      exact this _ _ _ (by omega)
    refine ⟨(if w = 0 then nI (pc (cMost (bfs c ALL (cSum lv (cN c))) (cTop c) (cN c) 0 (bN (bfs c ALL (cSum lv (cN c)))) 0)) else nI (cMost (bfs c ALL (cSum lv (cN c))) (cTop c) (cN c) 0 (bN (bfs c ALL (cSum lv (cN c)))) 0)), fun s hC => ?_, fun s hM => ?_⟩
    · obtain ⟨s1, g1, g2, g3⟩ := g_foresee (d := d + 1) hk hl hC
      obtain ⟨s2, k1, k2⟩ := s_most1 (d := d + 5) hk hO (bN (bfs c ALL (cSum lv (cN c)))) 0 0 s1 (by omega) g2.1 g2.2.2.1 (by omega)
      have k3 : m_S_fullestTop (d + 7) s1 = some (nI (cMost (bfs c ALL (cSum lv (cN c))) (cTop c) (cN c) 0 (bN (bfs c ALL (cSum lv (cN c)))) 0), s2) := by
        rw [e_S_fullestTop]
        exact k1
      refine ⟨s2, ?_, (k2.CF g2).CI hk hl, g3.tr k2.Fs.FG⟩
      rw [e_G_most, if_neg (by rcases hw with z | z <;> (subst z; decide)), if_pos (by rcases hw with z | z <;> (subst z; decide)), g1, sm_some, k3, sm_some]
      dsimp only
      rcases hw with z | z
      · subst z
        rw [if_pos rfl, if_pos rfl, t_bitCount hlt, sm_some]
      · subst z
        rw [if_neg (by decide), if_neg (by decide)]
    · obtain ⟨s1, g1, g2, g2b, g3⟩ := m_lay (d := d + 1) hk hl hM.1 hM.2.1 hM.2.2
      obtain ⟨s2, k1, k2⟩ := m_most1 (d := d + 6) (x1 := w) hk hO (bN (bfs c ALL (cSum lv (cN c)))) 0 0 0 (-1) s1 (by omega) (g3.RM hM.1) g2 (by omega) (Or.inr ⟨rfl, rfl, rfl, hB.2.2.2.1⟩)
      refine ⟨s2, ?_, g3.tr k2⟩
      rw [e_M_most, m_in01, sm_some, decide_eq_true hw, bt0, g1, sm_some]
      exact k1
  · refine ⟨-3, fun s hC => ⟨s, ?_, hC, FG.rf⟩, fun s hM => ⟨s, ?_, FM.rf⟩⟩
    · rw [e_G_most]
      rcases in01 (w := w) with z | ⟨z, z2⟩ | z | z
      · rw [if_pos z]
      · rw [if_neg z, if_neg (lt_le1 z2)]
      · exact absurd (Or.inl z) hw
      · exact absurd (Or.inr z) hw
    · rw [e_M_most, m_in01, sm_some, decide_eq_false hw, bf0]
theorem ask_lasts (hk : cOk c) (hl : lvOk c lv) : ask c lv (m_G_lasts (d + 8)) (m_M_lasts (d + 8)) := by
  have hB := bfs_lv ALL hk hl
  have hO := hB.1
  have h5 := hk.2.1
  cases hf : gFar c ALL (cSum lv (cN c)) with
  | none =>
    refine ⟨-1, fun s hC => ?_, fun s hM => ?_⟩
    · obtain ⟨s1, g1, g2, g3⟩ := g_foresee (d := d + 1) hk hl hC
      refine ⟨s1, ?_, g2.CI hk hl, g3⟩
      rw [e_G_lasts, g1, sm_some, e_S_lastMovers, s_fewest (d := d + 3) hk g2.2.2.1 g2.2.2.2, sm_some, hf]
      rfl
    · obtain ⟨s1, g1, g2, g3⟩ := m_soonestOf (d := d) hk hl hM.1 hM.2.1 hM.2.2
      refine ⟨s1, ?_, g3⟩
      rw [e_M_lasts, g1, sm_some, hf]
      rfl
  | some f =>
    have hf3 := gFar_lt hk hl hf
    rcases Nat.eq_zero_or_pos f with z | z
    · subst z
      refine ⟨0, fun s hC => ?_, fun s hM => ?_⟩
      · obtain ⟨s1, g1, g2, g3⟩ := g_foresee (d := d + 1) hk hl hC
        refine ⟨s1, ?_, g2.CI hk hl, g3⟩
        rw [e_G_lasts, g1, sm_some, e_S_lastMovers, s_fewest (d := d + 3) hk g2.2.2.1 g2.2.2.2, sm_some, hf]
        rfl
      · obtain ⟨s1, g1, g2, g3⟩ := m_soonestOf (d := d) hk hl hM.1 hM.2.1 hM.2.2
        refine ⟨s1, ?_, g3⟩
        rw [e_M_lasts, g1, sm_some, hf]
        exact m_last0 (d := d + 1) hk hO _ 0 s1 (Nat.zero_add _) (g3.RM hM.1) g2
    · refine ⟨nI (lsts c (bfs c ALL (cSum lv (cN c))) (gM c ALL (cSum lv (cN c))) f 0 (bN (bfs c ALL (cSum lv (cN c)))) 0), fun s hC => ?_, fun s hM => ?_⟩
      · obtain ⟨s1, g1, g2, g3⟩ := g_foresee (d := d + 1) hk hl hC
        obtain ⟨s2, k1, k2⟩ := s_last1 (d := d + 1) (st := cSum lv (cN c)) hk hO z (show f < 3126 by omega) (cN c) 0 0 s1 (by omega) g2.1 g2.2.2.1 g2.2.2.2 (by omega)
        rw [lst_same hk hB] at k1
        refine ⟨s2, ?_, (k2.CF g2).CI hk hl, g3.tr k2.Fs.FG⟩
        have hz : (0 : Int32) < nI f := by
          show nI 0 < nI f
          rw [nI_ltI (by omega) (by omega)]
          exact z
        rw [e_G_lasts, g1, sm_some, e_S_lastMovers, s_fewest (d := d + 3) hk g2.2.2.1 g2.2.2.2, sm_some, hf]
        show ((if (0 : Int32) < nI f then l_S_lastMovers_1 (d + 6) (nI f) 0 0 s1 else some (nI f, s1)).bind fun q2 => some (q2.1, q2.2)) = _
        rw [if_pos hz]
        exact (congrArg (fun y => Option.bind y (fun q2 => some (q2.1, q2.2))) k1).trans rfl
      · obtain ⟨s1, g1, g2, g3⟩ := m_soonestOf (d := d) hk hl hM.1 hM.2.1 hM.2.2
        obtain ⟨s2, k1, k2⟩ := m_last1 (d := d + 1) (f := f) hk hB z (by omega) (bN (bfs c ALL (cSum lv (cN c)))) 0 0 s1 (by omega) (g3.RM hM.1) (g3.RC hM.2.1) g2 (by omega)
        refine ⟨s2, ?_, g3.tr k2⟩
        rw [e_M_lasts, g1, sm_some, hf]
        show (if nI f = -1 then _ else _) = _
        rw [if_neg (nI_m1 (by omega))]
        exact k1
theorem ask_way {k w : Int32} (hk : cOk c) (hl : lvOk c lv) : ask c lv (m_G_way (d + 8) k w) (m_M_way (d + 8) k w) := by
  have hB := bfs_lv ALL hk hl
  have hO := hB.1
  have h5 := hk.2.1
  have hp5 := pow5 (cN c) h5
  have hgl := gM_lt (M := ALL) (st := cSum lv (cN c)) hk
  by_cases hk0 : k < 0
  · refine ⟨-3, fun s hC => ⟨s, ?_, hC, FG.rf⟩, fun s hM => ⟨s, ?_, FM.rf⟩⟩
    · rw [e_G_way, if_pos hk0]
    · rw [e_M_way, if_pos hk0]
  · obtain ⟨k, hk2, rfl⟩ := nI_of hk0
    by_cases hw : w = 0 ∨ w = 1
    · have w0 : ¬ w < 0 := by rcases hw with z | z <;> (subst z; decide)
      have w1 : w ≤ 1 := by rcases hw with z | z <;> (subst z; decide)
      have no : (∀ f, gFar c ALL (cSum lv (cN c)) = some f → ¬ k < f) → ask c lv (m_G_way (d + 8) (nI k) w) (m_M_way (d + 8) (nI k) w) := by
        intro hno
        have hno2 : ¬ nI k < oI (gFar c ALL (cSum lv (cN c))) := by
          cases hf : gFar c ALL (cSum lv (cN c)) with
          | none =>
            show ¬ nI k < -1
            intro z
            have z2 : nI k < 0 := by
              rw [Int32.lt_iff_toInt_lt] at z ⊢
              have e1 : (-1 : Int32).toInt = -1 := by decide
              have e0 : (0 : Int32).toInt = 0 := by decide
              omega
            exact nI_pos hk2 z2
          | some f =>
            have hf3 := gFar_lt hk hl hf
            show ¬ nI k < nI f
            rw [nI_ltI (by omega) (by omega)]
            exact hno f hf
        refine ⟨-1, fun s hC => ?_, fun s hM => ?_⟩
        · obtain ⟨s1, g1, g2, g3⟩ := g_foresee (d := d + 1) hk hl hC
          refine ⟨s1, ?_, g2.CI hk hl, g3⟩
          rw [e_G_way, if_neg hk0, if_neg w0, if_pos w1, g1, sm_some, s_fewest (d := d + 4) hk g2.2.2.1 g2.2.2.2, sm_some]
          dsimp only
          rw [if_neg hno2]
        · obtain ⟨s1, g1, g2, -, g3⟩ := m_lay (d := d + 1) hk hl hM.1 hM.2.1 hM.2.2
          obtain ⟨s2, k1, k2, k3⟩ := m_firstUp (d := d + 4) hk hB (g3.RM hM.1) (g3.RC hM.2.1) g2
          refine ⟨s2, ?_, g3.tr k3⟩
          rw [e_M_way, if_neg hk0, m_in01, sm_some, decide_eq_true hw, bt0, g1, sm_some, k1, sm_some]
          dsimp only
          cases hf : gFar c ALL (cSum lv (cN c)) with
          | none =>
            unfold gFar at hf
            rw [hf, isN, if_pos rfl]
          | some f =>
            unfold gFar at hf
            have hf3 := gFar_lt hk hl hf
            rw [hf, isS, if_neg (nI_m1 (by omega)), if_pos (qIn_n (by omega) (by omega)), nI_cl (by omega), k2.2.2.1 _ (by omega), hf, if_neg]
            show ¬ nI k < nI f
            rw [nI_ltI (by omega) (by omega)]
            exact hno f hf
      cases hf : gFar c ALL (cSum lv (cN c)) with
      | none => exact no (fun f h => by rw [hf] at h; cases h)
      | some f =>
        have hf3 := gFar_lt hk hl hf
        by_cases hkf : k < f
        · have lt : nI k < nI f := by
            rw [nI_ltI (by omega) (by omega)]
            exact hkf
          refine ⟨(if w = 0 then nI (bWay (bfs c ALL (cSum lv (cN c))) (gM c ALL (cSum lv (cN c))) f k / 2) else nI (bWay (bfs c ALL (cSum lv (cN c))) (gM c ALL (cSum lv (cN c))) f k % 2)), fun s hC => ?_, fun s hM => ?_⟩
          · obtain ⟨s1, g1, g2, g3⟩ := g_foresee (d := d + 1) hk hl hC
            obtain ⟨y1, y2⟩ := s_way (d := d + 2) hk g2.2.2.1 hB g2.2.2.2 hf hkf
            refine ⟨s1, ?_, g2.CI hk hl, g3⟩
            rw [e_G_way, if_neg hk0, if_neg w0, if_pos w1, g1, sm_some, s_fewest (d := d + 4) hk g2.2.2.1 g2.2.2.2, sm_some, hf]
            show (if nI k < nI f then _ else _) = _
            rw [if_pos lt]
            rcases hw with z | z
            · subst z
              rw [if_pos rfl, if_pos rfl]
              exact (congrArg (fun y => Option.bind y (fun q2 => some (q2.1, q2.2))) y1).trans rfl
            · subst z
              rw [if_neg (by decide), if_neg (by decide)]
              refine (congrArg (fun y => Option.bind y (fun q4 => some ((if q4.1 = 0 then 0 else 1 : Int32), q4.2))) y2).trans ?_
              rw [sm_some]
              dsimp only
              have : ∀ x, x < 2 → (if nI x = 0 then 0 else 1 : Int32) = nI x := by decide
              rw [this _ (by omega)]
          · obtain ⟨s1, g1, g2, -, g3⟩ := m_lay (d := d + 1) hk hl hM.1 hM.2.1 hM.2.2
            obtain ⟨s2, k1, k2, k3⟩ := m_firstUp (d := d + 4) hk hB (g3.RM hM.1) (g3.RC hM.2.1) g2
            refine ⟨s2, ?_, g3.tr k3⟩
            rw [e_M_way, if_neg hk0, m_in01, sm_some, decide_eq_true hw, bt0, g1, sm_some, k1, sm_some]
            dsimp only
            unfold gFar at hf
            rw [hf, isS, if_neg (nI_m1 (by omega)), if_pos (qIn_n (by omega) (by omega)), nI_cl (by omega), k2.2.2.1 _ (by omega), hf]
            show (if nI k < nI f then _ else _) = _
            rw [if_pos lt]
            exact m_way1 (d := d + 7) hk hB k2 hw (f - 1 - k) (gM c ALL (cSum lv (cN c))) (by rw [hf]; congr 1; omega)
        · exact no (fun f2 h => by rw [hf] at h; cases h; exact hkf)
    · refine ⟨-3, fun s hC => ⟨s, ?_, hC, FG.rf⟩, fun s hM => ⟨s, ?_, FM.rf⟩⟩
      · rw [e_G_way, if_neg hk0]
        rcases in01 (w := w) with z | ⟨z, z2⟩ | z | z
        · rw [if_pos z]
        · rw [if_neg z, if_neg (lt_le1 z2)]
        · exact absurd (Or.inl z) hw
        · exact absurd (Or.inr z) hw
      · rw [e_M_way, if_neg hk0, m_in01, sm_some, decide_eq_false hw, bf0]
end ASKS2
