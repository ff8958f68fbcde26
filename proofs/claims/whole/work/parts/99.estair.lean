/-! stair by both -/
section STAIR2
variable {d : Nat} {c : Co} {lv : Nat → Nat}
theorem bth_stair {s : qMem} (hI : INV s c lv) : bth (m_G_stair (d + 9)) (m_M_stair (d + 9)) s (fun s2 => ∃ c2 lv2, INV s2 c2 lv2) := by
  have hI0 := hI
  obtain ⟨i1, i2, i3, i4, i5, i6, i7, ⟨n, hn, n1, n2, n3⟩, i9⟩ := hI
  obtain ⟨s1, g1, r1, r2⟩ := g_try (d := d) hn i1 i3.1 n1
  have ag := rdA_ag (B := s.1 20) (C := s.1 43) n3 12 c 0 (Nat.zero_le _)
  cases hA : rdA (s.1 20) n 12 c 0 with
  | inl q =>
    obtain ⟨s2, t1, t2, t3⟩ := r1 q hA
    have e43 : s2.1 43 = s.1 43 := funext (fun i => t2.1 _ _ (by omega) (by omega) (by omega))
    obtain ⟨s3, v1, v2⟩ := m_isRead (d := d + 2) (s := s2) hn i1 (RM_of (fun o k h => t2.1 _ _ (by omega) (by omega) (by omega)) i4.1) (by rw [t2.1 _ _ (by omega) (by omega) (by omega)]; exact n2)
    rw [e43, ← ag, hA] at v2
    rcases v2 with ⟨q2, u1, u2, u3⟩ | ⟨L, u1, -⟩
    · refine ⟨-4, s2, s3, ?_, ?_, c, lv, INV_rd t2 v1 hI0⟩
      · rw [e_G_stair, g1, sm_some, t1, sm_some]
        exact if_neg (nI_m1 (by omega))
      · rw [e_M_stair, u2, sm_some]
        exact if_pos rfl
    · cases u1
  | inr L =>
    obtain ⟨s2, t1, t2, t3, t4, t5, t6, t7⟩ := r2 L hA
    have hc2 := apps_ok L c i1 t4
    generalize hc' : apps c L = c' at *
    have h5 := hc2.2.1
    obtain ⟨s3, g3, g4, g5, g6⟩ := t_copy (d := d + 6) (t := 1) (o := 10) (Or.inl ⟨rfl, rfl⟩) hc2 t3
    obtain ⟨s4, k1, k2, k3, k4, k5, k6, k7, k8, k9⟩ := g_anew (d := d + 5) (s := qW s3 19 1 0)
    have eG : m_G_stair (d + 9) s = some (nI L.length, s4) := by
      rw [e_G_stair, g1, sm_some, t1, sm_some]
      dsimp only
      rw [if_pos rfl, g3, sm_some, e_X_empty, sm_some]
      dsimp only
      rw [k1, sm_some, k9 _ _ (by omega) (by omega) (by omega) (by omega), q_rw_k (by decide), g5 _ _ (by omega), t5]
    have F4 : ∀ o j, ¬ (1 ≤ o ∧ o ≤ 18) → o ≠ 19 → o ≠ 21 → ¬ (22 ≤ o ∧ o ≤ 24) → ¬ (o = 34 ∧ j = 3) → ¬ (o = 37 ∧ j = 3) → ¬ (o = 0 ∧ (j = 9 ∨ j = 6)) → s4.1 o j = s.1 o j := fun o j a1 a2 a3 a4 a5 a6 a7 => by
      rw [k9 o j a4 a5 a6 a7, q_rw_o a2, g5 o j (by omega), t2.1 o j (by omega) (by omega) a3]
    have e43 : s4.1 43 = s.1 43 := funext (fun i => F4 _ _ (by omega) (by omega) (by omega) (by omega) (by omega) (by omega) (by omega))
    have R4 : RM s4 c := RM_of (fun o k h => F4 _ _ (by omega) (by omega) (by omega) (by omega) (by omega) (by omega) (by omega)) i4.1
    obtain ⟨s5, v1, v2⟩ := m_isRead (d := d + 2) (s := s4) hn i1 R4 (by rw [F4 _ _ (by omega) (by omega) (by omega) (by omega) (by omega) (by omega) (by omega)]; exact n2)
    rw [e43, ← ag, hA] at v2
    rcases v2 with ⟨q2, u1, -⟩ | ⟨L2, u1, u2, u3, u4⟩
    · cases u1
    · cases u1
      have R5 : RM s5 c := RM_of (fun o k h => v1 _ _ (by omega) (by omega)) R4
      obtain ⟨s6, w1, w2, w3⟩ := m_dos (d := d + 6) t7 L 0 c s5 (Nat.zero_add _) u3 i1 R5 t4 u4
      rw [hc'] at w2
      obtain ⟨s7, y1, y2, y3⟩ := m_st2 (d := d + 8) h5 (cN c') 0 (qW s6 40 5 0) (by omega) (by rw [q_rw_k (by decide)]; exact w2.2.1)
      have h13 : s7.1 40 13 = nI L.length := by rw [y3 _ _ (fun h => by omega), q_rw_k (by decide), w3.1 _ _ (by omega) (by omega) (by omega), u3]
      obtain ⟨s8, z1, z2, z3⟩ := m_st3 (d := d + 8) (m := nI L.length) 25 0 s7 rfl h13
      have eM : m_M_stair (d + 9) s4 = some (nI L.length, qW (qW (qW (qW s8 40 18 0) 40 22 0) 48 0 0) 48 1 0) := by
        rw [e_M_stair, u2, sm_some]
        exact (if_neg (show ¬ (1 : Int32) = 0 from by decide)).trans (w1.trans (y1.trans z1))
      generalize hs9 : qW (qW (qW (qW s8 40 18 0) 40 22 0) 48 0 0) 48 1 0 = s9 at eM
      have F9 : ∀ o j, o ≠ 45 → o ≠ 46 → o ≠ 48 → ¬ (o = 40 ∧ (j = 5 ∨ j = 18 ∨ j = 22)) → s9.1 o j = s6.1 o j := fun o j a1 a2 a3 a4 => by
        rw [← hs9, q_rw_if, if_neg (fun z => a3 z.1), q_rw_if, if_neg (fun z => a3 z.1), q_rw_if, if_neg (fun z => a4 ⟨z.1, by omega⟩), q_rw_if, if_neg (fun z => a4 ⟨z.1, by omega⟩), z3 o j (fun h => absurd h a2), y3 o j (fun h => absurd h a1), q_rw_if, if_neg (fun z => a4 ⟨z.1, by omega⟩)]
      have F94 : ∀ o j, o ≠ 40 → o ≠ 41 → o ≠ 42 → o ≠ 44 → o ≠ 45 → o ≠ 46 → o ≠ 48 → s9.1 o j = s4.1 o j := fun o j a1 a2 a3 a4 a5 a6 a7 => by
        rw [F9 o j a5 a6 a7 (by omega), w3.1 o j (by omega) a2 a3, v1 o j (by omega) (by omega)]
      have F90 : ∀ o j, ((26 ≤ o ∧ o ≤ 29) ∨ (o = 40 ∧ j = 30)) → s9.1 o j = s.1 o j := fun o j h => by
        rw [F9 o j (by omega) (by omega) (by omega) (by omega), w3.1 o j (by omega) (by omega) (by omega), v1 o j (by omega) (by omega), F4 o j (by omega) (by omega) (by omega) (by omega) (by omega) (by omega) (by omega)]
      have RT4 : RT s4 1 c' := RT_ag (fun o j h1 h2 => by rw [k9 o j (by omega) (by omega) (by omega) (by omega), q_rw_o (by omega)]) g4
      have RT9 : RT s9 1 c' := RT_ag (fun o j h1 h2 => F94 o j (by omega) (by omega) (by omega) (by omega) (by omega) (by omega) (by omega)) RT4
      have RM9 : RM s9 c' := RM_of (fun o k h => F9 o k (by omega) (by omega) (by omega) (by omega)) w2
      refine ⟨nI L.length, s4, s9, eG, eM, c', fun p => cP c' p 5, hc2, fun p hp => (hc2.2.2.2 p hp).2.2.2.2.2, ⟨RT9, fun p hp => ?_, ?_, Or.inl ?_⟩, ⟨RM9, ?_, fun p hp => ?_⟩, ⟨0, by omega, ?_, ?_⟩, fun i hi => ?_, ⟨0, by omega, ?_, ?_, fun i hi => absurd hi (Nat.not_lt_zero _)⟩, ⟨0, by omega, ?_, ?_, fun i hi => absurd hi (Nat.not_lt_zero _)⟩, Or.inl ⟨?_, ?_⟩, Or.inl ⟨?_, ?_⟩⟩
      · rw [F94 _ _ (by omega) (by omega) (by omega) (by omega) (by omega) (by omega) (by omega), k2 p (by omega), q_rw_o (by decide)]
        exact (g4.2.2.2 p hp).2.2.2.2.2
      · obtain ⟨m, m1, m2, f, m3, m4⟩ := i3.2.2.1
        exact ⟨m, m1, by rw [F90 _ _ (by omega)]; exact m2, f, fun i hi => ⟨(m3 i hi).1, by rw [F90 _ _ (by omega)]; exact (m3 i hi).2⟩, fun k hk => by rw [F90 _ _ (by omega)]; exact m4 k hk⟩
      · rw [F94 _ _ (by omega) (by omega) (by omega) (by omega) (by omega) (by omega) (by omega)]
        exact k8
      · obtain ⟨m, m1, m2, m3⟩ := i4.2.1
        exact ⟨m, m1, by rw [F90 _ _ (by omega)]; exact m2, m3⟩
      · rw [← hs9, q_rw_o (by decide), q_rw_o (by decide), q_rw_o (by decide), q_rw_o (by decide), z3 _ _ (fun h => by omega), y2 p (Nat.zero_le _) hp, q_rw_o (by decide)]
        exact w2.2.2.2.2 p hp 5 (by omega)
      · rw [F94 _ _ (by omega) (by omega) (by omega) (by omega) (by omega) (by omega) (by omega)]
        exact k3
      · rw [← hs9, q_rw_o (by decide), q_rw_o (by decide), q_rw_k (by decide), q_rw]
        rfl
      · rw [← hs9, q_rw_o (by decide), q_rw_o (by decide), q_rw_o (by decide), q_rw_o (by decide), q_rw_o (by decide), q_rw_o (by decide), q_rw_o (by decide), q_rw_o (by decide), z2 i (Nat.zero_le _) hi, z3 _ _ (fun h => by omega), y3 _ _ (fun h => by omega), q_rw_o (by decide), w3.1 _ _ (by omega) (by omega) (by omega), v1 _ _ (by omega) (by omega), k4 i hi]
      · rw [F94 _ _ (by omega) (by omega) (by omega) (by omega) (by omega) (by omega) (by omega)]
        exact k7
      · rw [← hs9, q_rw_o (by decide), q_rw_o (by decide), q_rw]
        rfl
      · rw [F94 _ _ (by omega) (by omega) (by omega) (by omega) (by omega) (by omega) (by omega), k9 _ _ (by omega) (by omega) (by omega) (by omega), q_rw]
        rfl
      · rw [← hs9, q_rw_o (by decide), q_rw_o (by decide), q_rw_k (by decide), q_rw_k (by decide), z3 _ _ (fun h => by omega), y3 _ _ (fun h => by omega), q_rw]
        rfl
      · rw [F94 _ _ (by omega) (by omega) (by omega) (by omega) (by omega) (by omega) (by omega)]
        exact k5
      · rw [← hs9, q_rw_k (by decide), q_rw]
      · rw [F94 _ _ (by omega) (by omega) (by omega) (by omega) (by omega) (by omega) (by omega)]
        exact k6
      · rw [← hs9, q_rw]
end STAIR2
