/-! back by both -/
section BACK2
variable {d : Nat} {c : Co} {lv : Nat → Nat}
theorem m_back {s : qMem} {x : Nat} (hx : x < 2) (h48 : s.1 48 x = 1) : ∃ s2, m_M_back (d + 2) (nI x) s = some (s.1 47 (31 * x + 30), s2) ∧ (∀ j, j < 5 → s2.1 45 j = s.1 47 (31 * x + j)) ∧ (∀ j, j < 25 → s2.1 46 j = s.1 47 (31 * x + 5 + j)) ∧ s2.1 40 18 = s.1 47 (31 * x + 30) ∧ (∀ o j, o ≠ 45 → o ≠ 46 → ¬ (o = 40 ∧ j = 18) → s2.1 o j = s.1 o j) ∧ s2.2 = s.2 := by
  obtain ⟨s1, g1, g2, g3, g4⟩ := m_back1 (d := d + 1) hx 5 0 s rfl
  obtain ⟨s2, j1, j2, j3, j4⟩ := m_back2 (d := d + 1) hx 25 0 s1 rfl
  have e : 31 * nI x + 30 = nI (31 * x + 30) := by
    have h1 : 31 * nI x = nI (31 * x) := pk_mul 31 x
    rw [h1]
    exact nI_add (31 * x) 30
  have a2 : qIn (nI (31 * x + 30)) 62 := qIn_n (by omega) (by omega)
  have a1 : qIn (nI x) 2 := qIn_n hx (by omega)
  have e47 : s2.1 47 (31 * x + 30) = s.1 47 (31 * x + 30) := by rw [j3 _ _ (fun h => by omega), g3 _ _ (fun h => by omega)]
  have hin : m_M_in (d + 1) (nI x) 0 1 s = some (b2i (decide (nI x = 0 ∨ nI x = 1)), s) := m_in01
  have hx1 : nI x = 0 ∨ nI x = 1 := by
    have h : x = 0 ∨ x = 1 := by omega
    rcases h with h | h
    · exact Or.inl (by rw [h]; rfl)
    · exact Or.inr (by rw [h]; rfl)
  refine ⟨qW s2 40 18 (s2.1 47 (31 * x + 30)), ?_, fun j hj => ?_, fun j hj => ?_, ?_, fun o j h1 h2 h3 => ?_, j4.trans g4⟩
  · rw [e_M_back, hin, sm_some, decide_eq_true hx1, bt0, if_pos a1, nI_cl (by omega), h48, if_neg (show ¬ (1 : Int32) = 0 from by decide)]
    refine Eq.trans g1 (Eq.trans j1 ?_)
    rw [el_M_back_2, if_pos (by decide), e, if_pos a2, nI_cl (by omega), e47]
  · rw [q_rw_o (by decide), j3 45 _ (fun h => by omega), g2 j (Nat.zero_le _) hj]
  · rw [q_rw_o (by decide), j2 j (Nat.zero_le _) hj, g3 47 _ (fun h => by omega)]
  · rw [q_rw, e47]
  · rw [q_rw_if, if_neg h3, j3 o j (fun h => absurd h h2), g3 o j (fun h => absurd h h1)]
theorem bth_back {s : qMem} {k : Int32} (hI : INV s c lv) : bth (m_G_back (d + 8) k) (m_M_back (d + 8) k) s (fun s2 => ∃ lv2, INV s2 c lv2) := by
  have hI0 := hI
  obtain ⟨i1, i2, i3, i4, i5, i6, i7, i8, i9⟩ := hI
  have h5 := i1.2.1
  have still : ∀ {r : Int32}, m_G_back (d + 8) k s = some (r, s) → m_M_back (d + 8) k s = some (r, s) → bth (m_G_back (d + 8) k) (m_M_back (d + 8) k) s (fun s2 => ∃ lv2, INV s2 c lv2) := fun h1 h2 => ⟨_, s, s, h1, h2, lv, hI0⟩
  rcases i_cases k 2 with ⟨x, hx, rfl⟩ | hx
  · have hK : KP s c (34 + 3 * x) x := by
      have h : x = 0 ∨ x = 1 := by omega
      rcases h with h | h
      · subst h
        exact i9.1
      · subst h
        exact i9.2
    have g := g_back (d := d + 6) (s := s) hx
    rcases hK with ⟨a, b⟩ | ⟨a, b, ⟨kl, k1, k2, k3⟩, ⟨m, q1, q2, q3⟩, r⟩
    · refine still (r := -4) ?_ ?_
      · rw [g, if_pos a]
      · have hx1 : nI x = 0 ∨ nI x = 1 := by
          have h : x = 0 ∨ x = 1 := by omega
          rcases h with h | h
          · exact Or.inl (by rw [h]; rfl)
          · exact Or.inr (by rw [h]; rfl)
        rw [e_M_back, m_in01, sm_some, decide_eq_true hx1, bt0, if_pos (qIn_n hx (by omega)), nI_cl (by omega), b, if_pos rfl]
    · rw [a, if_neg (show ¬ (1 : Int32) = 0 from by decide)] at g
      obtain ⟨f1, f2, f3, f4⟩ := bG_facts (s := s) (o := 34 + 3 * x) (by omega)
      have fo : ∀ o j, ¬ (22 ≤ o ∧ o ≤ 24) → ¬ (o = 0 ∧ j = 6) → (bG s (34 + 3 * x)).1 o j = s.1 o j := fun o j => bG_o
      obtain ⟨s2, t1, t2, t3, t4, t5, t6⟩ := m_back (d := d + 6) (s := bG s (34 + 3 * x)) hx (by rw [fo _ _ (by omega) (by omega)]; exact b)
      rw [fo 47 _ (by omega) (by omega), q3] at t1 t4
      rw [f2, q2] at g
      have e : ∀ o j, ¬ (22 ≤ o ∧ o ≤ 24) → ¬ (o = 0 ∧ j = 6) → o ≠ 45 → o ≠ 46 → ¬ (o = 40 ∧ j = 18) → s2.1 o j = s.1 o j := fun o j h1 h2 h3 h4 h5 => (t5 o j h3 h4 h5).trans (fo o j h1 h2)
      refine ⟨nI m, bG s (34 + 3 * x), s2, g, t1, kl, i1, k1, ?_, ?_, ⟨m, q1, by rw [t5 _ _ (by decide) (by decide) (by omega), f2]; exact q2, t4⟩, fun i hi => ?_, S3_of (e _ _ (by omega) (by omega) (by omega) (by omega) (by omega)) (e _ _ (by omega) (by omega) (by omega) (by omega) (by omega)) (fun i => e _ _ (by omega) (by omega) (by omega) (by omega) (by omega)) (fun i => e _ _ (by omega) (by omega) (by omega) (by omega) (by omega)) (fun i => e _ _ (by omega) (by omega) (by omega) (by omega) (by omega)) i7, S4_of (e _ _ (by omega) (by omega) (by omega) (by omega) (by omega)) (e _ _ (by omega) (by omega) (by omega) (by omega) (by omega)) (fun i => e _ _ (by omega) (by omega) (by omega) (by omega) (by omega)) (fun i => e _ _ (by omega) (by omega) (by omega) (by omega) (by omega)) i8, S5_of (fun a ha i => e _ _ (by omega) (by omega) (by omega) (by omega) (by omega)) i9⟩
      · obtain ⟨⟨a1, a2, a3, a4⟩, -, ⟨n, n1, n2, f, n3, n4⟩, -⟩ := i3
        have e9 : ∀ o j, ((1 ≤ o ∧ o ≤ 9) ∨ (26 ≤ o ∧ o ≤ 29)) → s2.1 o j = s.1 o j := fun o j h => e o j (by omega) (by omega) (by omega) (by omega) (by omega)
        refine ⟨⟨by rw [e9 _ _ (by omega)]; exact a1, by rw [e9 _ _ (by omega)]; exact a2, fun i hi => ?_, fun p hp => ?_⟩, fun p hp => ?_, ⟨n, n1, by rw [e9 _ _ (by omega)]; exact n2, f, fun i hi => ⟨(n3 i hi).1, by rw [e9 _ _ (by omega)]; exact (n3 i hi).2⟩, fun y hy => by rw [e9 _ _ (by omega)]; exact n4 y hy⟩, Or.inl ?_⟩
        · rw [e9 _ _ (by omega), e9 _ _ (by omega)]
          exact a3 i hi
        · rw [e9 _ _ (by omega), e9 _ _ (by omega), e9 _ _ (by omega), e9 _ _ (by omega), e9 _ _ (by omega), e9 _ _ (by omega)]
          exact a4 p hp
        · rw [t5 _ _ (by decide) (by decide) (by omega), f3 p (by omega)]
          exact k2 p hp
        · rw [t5 _ _ (by decide) (by decide) (by omega)]
          exact f1
      · obtain ⟨⟨a1, a2, a3, ⟨mm, m1, m2, m3⟩, a5⟩, ⟨m4, m5, m6, m7⟩, -⟩ := i4
        have e10 : ∀ o j, (o = 41 ∨ o = 42 ∨ (o = 40 ∧ j ≠ 18)) → s2.1 o j = s.1 o j := fun o j h => e o j (by omega) (by omega) (by omega) (by omega) (by omega)
        refine ⟨⟨by rw [e10 _ _ (by omega)]; exact a1, by rw [e10 _ _ (by omega)]; exact a2, fun i hi => by rw [e10 _ _ (by omega)]; exact a3 i hi, ⟨mm, m1, by rw [e10 _ _ (by omega)]; exact m2, m3⟩, fun q hq j2 hj2 => by rw [e10 _ _ (by omega)]; exact a5 q hq j2 hj2⟩, ⟨m4, m5, by rw [e10 _ _ (by omega)]; exact m6, m7⟩, fun q hq => ?_⟩
        rw [t2 q (by omega), fo 47 _ (by omega) (by omega)]
        exact k3 q hq
      · rw [t5 24 _ (by decide) (by decide) (by omega), f4 i hi, t3 i hi, fo 47 _ (by omega) (by omega)]
        exact r i hi
  · have hw : ¬ (k = 0 ∨ k = 1) := fun z => by
      rcases z with z | z
      · exact hx 0 (by omega) z
      · exact hx 1 (by omega) z
    refine still (r := -2) ?_ ?_
    · rw [e_G_back]
      rcases i_out (n := 2) (by omega) hx with z | z
      · rw [if_pos z]
      · by_cases y : k < 0
        · rw [if_pos y]
        · rw [if_neg y, if_pos (show (2 : Int32) ≤ k from z)]
    · rw [e_M_back, m_in01, sm_some, decide_eq_false hw, bf0]
end BACK2
