/-! what is told is copied -/
section COPY
variable {d t o : Nat} {c : Co}
def cpy2 (t o : Nat) : Prop := (t = 10 ∧ o = 1) ∨ (t = 1 ∧ o = 10)
theorem t_copyS1 (hc : (t = 1 ∧ o = 10) ∨ (t = 10 ∧ o = 1)) : ∀ (q k : Nat) (s : qMem), k + q = 4 → (∀ i, i < 4 → s.1 (o + 2) i = 0 ∨ s.1 (o + 2) i = 1) → ∃ s2, l_T_copyStair_1 d t o (nI k) s = some s2 ∧ (∀ i, k ≤ i → i < 4 → s2.1 (t + 1) i = s.1 (o + 1) i ∧ s2.1 (t + 2) i = s.1 (o + 2) i) ∧ (∀ a j, (a = t + 1 ∨ a = t + 2 → j < k) → s2.1 a j = s.1 a j) ∧ s2.2 = s.2 := by
  intro q
  induction q with
  | zero =>
    intro k s hk _
    refine ⟨s, ?_, fun i h1 h2 => by omega, fun _ _ _ => rfl, rfl⟩
    rw [el_T_copyStair_1 _ _ _ _ hc, if_pos]
    show nI 4 ≤ nI k
    exact nI_le (by omega) (by omega)
  | succ q ih =>
    intro k s hk hb
    have ht : ¬ t + 1 = o + 2 ∧ ¬ t + 2 = o + 2 ∧ ¬ t + 1 = o + 1 ∧ ¬ t + 2 = o + 1 := by omega
    obtain ⟨s2, g1, g2, g3, g4⟩ := ih (k + 1) (qW (qW s (t + 1) k (s.1 (o + 1) k)) (t + 2) k (s.1 (o + 2) k)) (by omega) (fun i hi => by rw [q_rw_o (by omega), q_rw_o (by omega)]; exact hb i hi)
    have n4 : ¬ (4 : Int32) ≤ nI k := by
      show ¬ nI 4 ≤ nI k
      rw [nI_leI (by omega) (by omega)]
      omega
    have i4 : qIn (nI k) 4 := qIn_n (by omega) (by omega)
    refine ⟨s2, ?_, fun i h1 h2 => ?_, fun a j hj => ?_, g4⟩
    · rw [el_T_copyStair_1 _ _ _ _ hc, if_neg n4, if_pos i4, if_pos i4, if_pos i4, nI_cl (by omega), if_pos ⟨i4, hb k (by omega)⟩, nI_1]
      exact g1
    · by_cases z : i = k
      · subst z
        rw [g3 _ _ (fun _ => by omega), g3 _ _ (fun _ => by omega)]
        exact ⟨by rw [q_rw_o (by omega), q_rw], by rw [q_rw]⟩
      · obtain ⟨a1, a2⟩ := g2 i (by omega) h2
        rw [a1, a2]
        exact ⟨by rw [q_rw_o (by omega), q_rw_o (by omega)], by rw [q_rw_o (by omega), q_rw_o (by omega)]⟩
    · rw [g3 a j (fun h => by have := hj h; omega)]
      by_cases z : a = t + 1 ∨ a = t + 2
      · have := hj z
        rw [q_rw_if, if_neg (by omega), q_rw_if, if_neg (by omega)]
      · rw [q_rw_o (by omega), q_rw_o (by omega)]
theorem b2i_or (b : Bool) : b2i b = 0 ∨ b2i b = 1 := b2i_01 b
/-- the stair alone -/
theorem t_copyS {s : qMem} (hc : (t = 1 ∧ o = 10) ∨ (t = 10 ∧ o = 1)) (hR : RT s o c) : ∃ s2, m_T_copyStair (d + 1) t o s = some s2 ∧ s2.1 t 0 = nI (cTop c) ∧ (∀ i, i < 4 → s2.1 (t + 1) i = nI (cH c i) ∧ s2.1 (t + 2) i = b2i (cR c i)) ∧ (∀ a j, a ≠ t + 1 → a ≠ t + 2 → ¬ (a = t ∧ j = 0) → s2.1 a j = s.1 a j) ∧ s2.2 = s.2 := by
  obtain ⟨r1, r2, r3, r4⟩ := hR
  obtain ⟨s2, g1, g2, g3, g4⟩ := t_copyS1 (d := d) hc 4 0 (qW s t 0 (s.1 o 0)) (by omega) (fun i hi => by rw [q_rw_o (by omega), (r3 i hi).2]; exact b2i_or _)
  refine ⟨s2, ?_, ?_, fun i hi => ?_, fun a j h1 h2 h3 => ?_, g4⟩
  · rw [e_T_copyStair _ _ _ hc]
    exact g1
  · rw [g3 _ _ (fun h => by omega), q_rw, r1]
  · obtain ⟨a1, a2⟩ := g2 i (Nat.zero_le _) hi
    rw [a1, a2, q_rw_o (by omega), q_rw_o (by omega)]
    exact r3 i hi
  · rw [g3 a j (fun h => by omega), q_rw_if, if_neg h3]
theorem t_copy {s : qMem} (hc : (t = 1 ∧ o = 10) ∨ (t = 10 ∧ o = 1)) (hk : cOk c) (hR : RT s o c) : ∃ s2, m_T_copy (d + 2) t o s = some s2 ∧ RT s2 t c ∧ (∀ a j, ¬ (t ≤ a ∧ a ≤ t + 8) → s2.1 a j = s.1 a j) ∧ s2.2 = s.2 := by
  have h5 := hk.2.1
  obtain ⟨s1, g1, g2, g3, g4, g5⟩ := t_copyS (d := d) hc hR
  obtain ⟨r1, r2, r3, r4⟩ := hR
  have e1 : ∀ a, a ≠ t → a ≠ t + 1 → a ≠ t + 2 → ∀ j, s1.1 a j = s.1 a j := fun a h0 h1 h2 j => g4 a j h1 h2 (fun h => h0 h.1)
  have eo1 : s1.1 o 1 = nI (cN c) := by rw [e1 o (by omega) (by omega) (by omega)]; exact r2
  refine ⟨qCpy (qCpy (qCpy (qCpy (qCpy (qCpy (qW s1 t 1 (s1.1 o 1)) (o + 3) (t + 3) 0 0 5) (o + 4) (t + 4) 0 0 5) (o + 5) (t + 5) 0 0 5) (o + 6) (t + 6) 0 0 5) (o + 7) (t + 7) 0 0 5) (o + 8) (t + 8) 0 0 5, by rw [e_T_copy _ _ _ hc, g1, sm_some], ⟨?_, ?_, fun i hi => ?_, fun p hp => ?_⟩, fun a j h => ?_, g5⟩
  · rw [q_cp_o (by omega), q_cp_o (by omega), q_cp_o (by omega), q_cp_o (by omega), q_cp_o (by omega), q_cp_o (by omega), q_rw_k (by omega)]
    exact g2
  · rw [q_cp_o (by omega), q_cp_o (by omega), q_cp_o (by omega), q_cp_o (by omega), q_cp_o (by omega), q_cp_o (by omega), q_rw]
    exact eo1
  · rw [q_cp_o (by omega), q_cp_o (by omega), q_cp_o (by omega), q_cp_o (by omega), q_cp_o (by omega), q_cp_o (by omega), q_rw_o (by omega), q_cp_o (by omega), q_cp_o (by omega), q_cp_o (by omega), q_cp_o (by omega), q_cp_o (by omega), q_cp_o (by omega), q_rw_o (by omega)]
    exact g3 i hi
  · have hp5 : p < 5 := by omega
    obtain ⟨y1, y2, y3, y4, y5, y6⟩ := r4 p hp
    refine ⟨?_, ?_, ?_, ?_, ?_, ?_⟩
    · rw [q_cp_o (by omega), q_cp_o (by omega), q_cp_o (by omega), q_cp_o (by omega), q_cp_o (by omega), q_cp, if_pos hp5, q_rw_o (by omega), e1 _ (by omega) (by omega) (by omega)]
      exact y1
    · rw [q_cp_o (by omega), q_cp_o (by omega), q_cp_o (by omega), q_cp_o (by omega), q_cp, if_pos hp5, q_cp_o (by omega), q_rw_o (by omega), e1 _ (by omega) (by omega) (by omega)]
      exact y2
    · rw [q_cp_o (by omega), q_cp_o (by omega), q_cp_o (by omega), q_cp, if_pos hp5, q_cp_o (by omega), q_cp_o (by omega), q_rw_o (by omega), e1 _ (by omega) (by omega) (by omega)]
      exact y3
    · rw [q_cp_o (by omega), q_cp_o (by omega), q_cp, if_pos hp5, q_cp_o (by omega), q_cp_o (by omega), q_cp_o (by omega), q_rw_o (by omega), e1 _ (by omega) (by omega) (by omega)]
      exact y4
    · rw [q_cp_o (by omega), q_cp, if_pos hp5, q_cp_o (by omega), q_cp_o (by omega), q_cp_o (by omega), q_cp_o (by omega), q_rw_o (by omega), e1 _ (by omega) (by omega) (by omega)]
      exact y5
    · rw [q_cp, if_pos hp5, q_cp_o (by omega), q_cp_o (by omega), q_cp_o (by omega), q_cp_o (by omega), q_cp_o (by omega), q_rw_o (by omega), e1 _ (by omega) (by omega) (by omega)]
      exact y6
  · rw [q_cp_o (by omega), q_cp_o (by omega), q_cp_o (by omega), q_cp_o (by omega), q_cp_o (by omega), q_cp_o (by omega), q_rw_o (by omega)]
    exact e1 a (by omega) (by omega) (by omega) j
end COPY
