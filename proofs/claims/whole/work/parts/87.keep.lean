/-! keep by both -/
section KEEP2
variable {d : Nat} {c : Co} {lv : Nat → Nat}
def kG (s : qMem) (o : Nat) : qMem := qW (qCpy (qW (qCpy s 23 (o + 1) 0 0 5) o 1 (s.1 22 1)) 24 (o + 2) 0 0 25) o 3 1
theorem g_keep {s : qMem} {x : Nat} (hx : x < 2) : m_G_keep (d + 2) (nI x) s = some ((kG s (34 + 3 * x)).1 22 1, kG s (34 + 3 * x)) := by
  have h : x = 0 ∨ x = 1 := by omega
  have e22 : ∀ o, o = 34 ∨ o = 37 → (kG s o).1 22 1 = (qCpy (qW (qCpy s 23 (o + 1) 0 0 5) o 1 (s.1 22 1)) 24 (o + 2) 0 0 25).1 22 1 := fun o ho => q_rw_o (by omega)
  rcases h with h | h
  · subst h
    rw [e22 34 (Or.inl rfl), e_G_keep, if_neg (show ¬ nI 0 < 0 from by decide), if_neg (show ¬ (2 : Int32) ≤ nI 0 from by decide), if_pos (show nI 0 = 0 from rfl), if_pos (show nI 0 = 0 from rfl), e_J_copy _ _ _ (Or.inl ⟨rfl, rfl⟩), sm_some, if_pos (show nI 0 = 0 from rfl)]
    rfl
  · subst h
    rw [e22 37 (Or.inr rfl), e_G_keep, if_neg (show ¬ nI 1 < 0 from by decide), if_neg (show ¬ (2 : Int32) ≤ nI 1 from by decide), if_neg (show ¬ nI 1 = 0 from by decide), if_pos (show nI 1 = 1 from rfl), if_neg (show ¬ nI 1 = 0 from by decide), if_pos (show nI 1 = 1 from rfl), e_J_copy _ _ _ (Or.inr (Or.inl ⟨rfl, rfl⟩)), sm_some, if_neg (show ¬ nI 1 = 0 from by decide), if_pos (show nI 1 = 1 from rfl)]
    rfl
theorem kG_o {s : qMem} {o a b : Nat} (ha : a ≠ o) (hb : a ≠ o + 1) (hc : a ≠ o + 2) : (kG s o).1 a b = s.1 a b := by
  unfold kG
  rw [q_rw_o ha, q_cp_o hc, q_rw_o ha, q_cp_o hb]
theorem kG_facts {s : qMem} {o : Nat} (ho : 34 ≤ o) : (kG s o).1 o 3 = 1 ∧ (kG s o).1 o 1 = s.1 22 1 ∧ (∀ i, i < 5 → (kG s o).1 (o + 1) i = s.1 23 i) ∧ ∀ i, i < 25 → (kG s o).1 (o + 2) i = s.1 24 i := by
  unfold kG
  refine ⟨q_rw, ?_, fun i hi => ?_, fun i hi => ?_⟩
  · rw [q_rw_k (by decide), q_cp_o (by omega), q_rw]
  · rw [q_rw_o (by omega), q_cp_o (by omega), q_rw_o (by omega), q_cp, if_pos hi]
  · rw [q_rw_o (by omega), q_cp, if_pos hi, q_rw_o (by omega), q_cp_o (by omega)]
theorem m_keep {s : qMem} {x : Nat} (hx : x < 2) : ∃ s2, m_M_keep (d + 2) (nI x) s = some (s.1 40 18, s2) ∧ (∀ j, j < 5 → s2.1 47 (31 * x + j) = s.1 45 j) ∧ (∀ j, j < 25 → s2.1 47 (31 * x + 5 + j) = s.1 46 j) ∧ s2.1 47 (31 * x + 30) = s.1 40 18 ∧ s2.1 48 x = 1 ∧ (∀ o j, (o = 47 → ¬ (31 * x ≤ j ∧ j ≤ 31 * x + 30)) → (o = 48 → j ≠ x) → s2.1 o j = s.1 o j) ∧ s2.2 = s.2 := by
  obtain ⟨s1, g1, g2, g3, g4⟩ := m_keep1 (d := d + 1) hx 5 0 s rfl
  obtain ⟨s2, j1, j2, j3, j4⟩ := m_keep2 (d := d + 1) hx 25 0 s1 rfl
  have e : 31 * nI x + 30 = nI (31 * x + 30) := by
    have h1 : 31 * nI x = nI (31 * x) := pk_mul 31 x
    rw [h1]
    exact nI_add (31 * x) 30
  have a2 : qIn (nI (31 * x + 30)) 62 := qIn_n (by omega) (by omega)
  have a1 : qIn (nI x) 2 := qIn_n hx (by omega)
  have e18 : s2.1 40 18 = s.1 40 18 := by rw [j3 _ _ (fun h => by omega), g3 _ _ (fun h => by omega)]
  have hin : m_M_in (d + 1) (nI x) 0 1 s = some (b2i (decide (nI x = 0 ∨ nI x = 1)), s) := m_in01
  have hx1 : nI x = 0 ∨ nI x = 1 := by
    have h : x = 0 ∨ x = 1 := by omega
    rcases h with h | h
    · exact Or.inl (by rw [h]; rfl)
    · exact Or.inr (by rw [h]; rfl)
  refine ⟨qW (qW s2 47 (31 * x + 30) (s2.1 40 18)) 48 x 1, ?_, fun j hj => ?_, fun j hj => ?_, ?_, q_rw, fun o j h1 h2 => ?_, j4.trans g4⟩
  · rw [e_M_keep, hin, sm_some, decide_eq_true hx1, bt0]
    refine Eq.trans g1 (Eq.trans j1 ?_)
    rw [el_M_keep_2, if_pos (by decide), e, if_pos a2, if_pos ⟨a1, Or.inr rfl⟩, nI_cl (by omega), nI_cl (by omega), e18]
  · rw [q_rw_o (by decide), q_rw_k (by omega), j3 47 _ (fun _ => by omega), g2 j (Nat.zero_le _) hj]
  · rw [q_rw_o (by decide), q_rw_k (by omega), j2 j (Nat.zero_le _) hj, g3 46 _ (fun h => by omega)]
  · rw [q_rw_o (by decide), q_rw, e18]
  · rw [q_rw_if, if_neg (fun y => h2 y.1 y.2), q_rw_if, if_neg (fun y => by have := h1 y.1; omega), j3 o j (fun h => by have := h1 h; omega), g3 o j (fun h => by have := h1 h; omega)]
theorem bth_keep {s : qMem} {k : Int32} (hI : INV s c lv) : bth (m_G_keep (d + 8) k) (m_M_keep (d + 8) k) s (fun s2 => INV s2 c lv) := by
  have hI0 := hI
  obtain ⟨i1, i2, i3, i4, ⟨m, m1, m2, m3⟩, i6, i7, i8, i9⟩ := hI
  have h5 := i1.2.1
  rcases i_cases k 2 with ⟨x, hx, rfl⟩ | hx
  · have ho : 34 + 3 * x = 34 ∨ 34 + 3 * x = 37 := by omega
    have g := g_keep (d := d + 6) (s := s) hx
    obtain ⟨f1, f2, f3, f4⟩ := kG_facts (s := s) (o := 34 + 3 * x) (by omega)
    have fo : ∀ a b, a ≠ 34 + 3 * x → a ≠ 34 + 3 * x + 1 → a ≠ 34 + 3 * x + 2 → (kG s (34 + 3 * x)).1 a b = s.1 a b := fun a b => kG_o
    obtain ⟨s2, t1, t2, t3, t4, t5, t6, t7⟩ := m_keep (d := d + 6) (s := kG s (34 + 3 * x)) hx
    rw [fo 40 18 (by omega) (by omega) (by omega), m3] at t1 t4
    rw [fo 22 1 (by omega) (by omega) (by omega), m2] at g
    have e : ∀ a b, ¬ (34 + 3 * x ≤ a ∧ a ≤ 34 + 3 * x + 2) → (a = 47 → ¬ (31 * x ≤ b ∧ b ≤ 31 * x + 30)) → (a = 48 → b ≠ x) → s2.1 a b = s.1 a b := fun a b h1 h2 h3 => (t6 a b h2 h3).trans (fo a b (by omega) (by omega) (by omega))
    have KN : KP s2 c (34 + 3 * x) x := by
      refine Or.inr ⟨by rw [t6 _ _ (by omega) (by omega)]; exact f1, t5, ⟨lv, i2, fun p hp => ?_, fun p hp => ?_⟩, ⟨m, m1, by rw [t6 _ _ (by omega) (by omega), f2]; exact m2, t4⟩, fun i hi => ?_⟩
      · rw [t6 _ _ (by omega) (by omega), f3 p (by omega)]
        exact i3.2.1 p hp
      · rw [t2 p (by omega), fo 45 _ (by omega) (by omega) (by omega)]
        exact i4.2.2 p hp
      · rw [t6 _ _ (by omega) (by omega), f4 i hi, t3 i hi, fo 46 _ (by omega) (by omega) (by omega)]
        exact i6 i hi
    have KO : ∀ y, y < 2 → y ≠ x → KP s c (34 + 3 * y) y → KP s2 c (34 + 3 * y) y := by
      intro y hy hyx h
      have ek : ∀ a i, (a = 34 + 3 * y ∨ a = 34 + 3 * y + 1 ∨ a = 34 + 3 * y + 2) → s2.1 a i = s.1 a i := fun a i ha => e a i (by omega) (by omega) (by omega)
      have e47 : ∀ i, i < 31 → s2.1 47 (31 * y + i) = s.1 47 (31 * y + i) := fun i hi => e 47 _ (by omega) (fun _ => by omega) (by omega)
      have e47b : ∀ i, i < 25 → s2.1 47 (31 * y + 5 + i) = s.1 47 (31 * y + 5 + i) := fun i hi => e 47 _ (by omega) (fun _ => by omega) (by omega)
      have e48 : s2.1 48 y = s.1 48 y := e 48 y (by omega) (by omega) (fun _ => hyx)
      rcases h with ⟨a, b⟩ | ⟨a, b, ⟨kl, k1, k2, k3⟩, ⟨mm, q1, q2, q3⟩, r⟩
      · exact Or.inl ⟨by rw [ek _ _ (by omega)]; exact a, by rw [e48]; exact b⟩
      · exact Or.inr ⟨by rw [ek _ _ (by omega)]; exact a, by rw [e48]; exact b, ⟨kl, k1, fun p hp => by rw [ek _ _ (by omega)]; exact k2 p hp, fun p hp => by rw [e47 p (by omega)]; exact k3 p hp⟩, ⟨mm, q1, by rw [ek _ _ (by omega)]; exact q2, by rw [e47 30 (by omega)]; exact q3⟩, fun i hi => by rw [ek _ _ (by omega), e47b i hi]; exact r i hi⟩
    refine ⟨nI m, kG s (34 + 3 * x), s2, g, t1, i1, i2, CI_of (fun o j h => e o j (by omega) (by omega) (by omega)) i3, MI_of (fun o j h => e o j (by omega) (by omega) (by omega)) i4, S1_of (e _ _ (by omega) (by omega) (by omega)) (e _ _ (by omega) (by omega) (by omega)) ⟨m, m1, m2, m3⟩, S2_of (fun i => e _ _ (by omega) (by omega) (by omega)) (fun i => e _ _ (by omega) (by omega) (by omega)) i6, S3_of (e _ _ (by omega) (by omega) (by omega)) (e _ _ (by omega) (by omega) (by omega)) (fun i => e _ _ (by omega) (by omega) (by omega)) (fun i => e _ _ (by omega) (by omega) (by omega)) (fun i => e _ _ (by omega) (by omega) (by omega)) i7, S4_of (e _ _ (by omega) (by omega) (by omega)) (e _ _ (by omega) (by omega) (by omega)) (fun i => e _ _ (by omega) (by omega) (by omega)) (fun i => e _ _ (by omega) (by omega) (by omega)) i8, ?_⟩
    have hx2 : x = 0 ∨ x = 1 := by omega
    rcases hx2 with z | z
    · subst z
      exact ⟨KN, KO 1 (by omega) (by omega) i9.2⟩
    · subst z
      exact ⟨KO 0 (by omega) (by omega) i9.1, KN⟩
  · have hw : ¬ (k = 0 ∨ k = 1) := fun z => by
      rcases z with z | z
      · exact hx 0 (by omega) z
      · exact hx 1 (by omega) z
    refine bth_still (r := -2) ?_ ?_ hI0
    · rw [e_G_keep]
      rcases i_out (n := 2) (by omega) hx with z | z
      · rw [if_pos z]
      · by_cases y : k < 0
        · rw [if_pos y]
        · rw [if_neg y, if_pos (show (2 : Int32) ≤ k from z)]
    · rw [e_M_keep, m_in01, sm_some, decide_eq_false hw, bf0]
end KEEP2
