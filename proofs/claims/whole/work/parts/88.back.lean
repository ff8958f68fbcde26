/-! back by both -/
section BACK
variable {d : Nat} {c : Co} {lv : Nat → Nat}
def bG (s : qMem) (o : Nat) : qMem := qW (qCpy (qW (qCpy s (o + 1) 23 0 0 5) 22 1 (s.1 o 1)) (o + 2) 24 0 0 25) 0 6 0
theorem g_back {s : qMem} {x : Nat} (hx : x < 2) : m_G_back (d + 2) (nI x) s = (if s.1 (34 + 3 * x) 3 = 0 then some (-4, s) else some ((bG s (34 + 3 * x)).1 22 1, bG s (34 + 3 * x))) := by
  have h : x = 0 ∨ x = 1 := by omega
  have e22 : ∀ o, (bG s o).1 22 1 = (qCpy (qW (qCpy s (o + 1) 23 0 0 5) 22 1 (s.1 o 1)) (o + 2) 24 0 0 25).1 22 1 := fun o => q_rw_o (by decide)
  rcases h with h | h
  · subst h
    rw [e22 34, e_G_back, if_neg (show ¬ nI 0 < 0 from by decide), if_neg (show ¬ (2 : Int32) ≤ nI 0 from by decide), if_pos (show nI 0 = 0 from rfl), if_pos (show nI 0 = 0 from rfl), if_pos (show nI 0 = 0 from rfl), e_J_copy _ _ _ (Or.inr (Or.inr (Or.inl ⟨rfl, rfl⟩))), sm_some]
    rfl
  · subst h
    rw [e22 37, e_G_back, if_neg (show ¬ nI 1 < 0 from by decide), if_neg (show ¬ (2 : Int32) ≤ nI 1 from by decide), if_neg (show ¬ nI 1 = 0 from by decide), if_pos (show nI 1 = 1 from rfl), if_neg (show ¬ nI 1 = 0 from by decide), if_pos (show nI 1 = 1 from rfl), if_neg (show ¬ nI 1 = 0 from by decide), if_pos (show nI 1 = 1 from rfl), e_J_copy _ _ _ (Or.inr (Or.inr (Or.inr ⟨rfl, rfl⟩))), sm_some]
    rfl
theorem bG_o {s : qMem} {o a b : Nat} (h1 : ¬ (22 ≤ a ∧ a ≤ 24)) (h2 : ¬ (a = 0 ∧ b = 6)) : (bG s o).1 a b = s.1 a b := by
  unfold bG
  rw [q_rw_if, if_neg h2, q_cp_o (by omega), q_rw_o (by omega), q_cp_o (by omega)]
theorem bG_facts {s : qMem} {o : Nat} (ho : 34 ≤ o) : (bG s o).1 0 6 = 0 ∧ (bG s o).1 22 1 = s.1 o 1 ∧ (∀ i, i < 5 → (bG s o).1 23 i = s.1 (o + 1) i) ∧ ∀ i, i < 25 → (bG s o).1 24 i = s.1 (o + 2) i := by
  unfold bG
  refine ⟨q_rw, ?_, fun i hi => ?_, fun i hi => ?_⟩
  · rw [q_rw_o (by decide), q_cp_o (by decide), q_rw]
  · rw [q_rw_o (by decide), q_cp_o (by decide), q_rw_o (by decide), q_cp, if_pos hi]
  · rw [q_rw_o (by decide), q_cp, if_pos hi, q_rw_o (by omega), q_cp_o (by omega)]
theorem m_back1 {x : Nat} (hx : x < 2) : ∀ (q i : Nat) (s : qMem), i + q = 5 → ∃ s2, l_M_back_1 d (nI x) (nI i) s = l_M_back_2 d (nI x) 0 s2 ∧ (∀ j, i ≤ j → j < 5 → s2.1 45 j = s.1 47 (31 * x + j)) ∧ (∀ o j, (o = 45 → j < i) → s2.1 o j = s.1 o j) ∧ s2.2 = s.2 := by
  intro q
  induction q with
  | zero =>
    intro i s hi
    refine ⟨s, ?_, fun j h1 h2 => by omega, fun _ _ _ => rfl, rfl⟩
    rw [el_M_back_1, show i = 5 by omega, if_pos (by decide)]
  | succ q ih =>
    intro i s hi
    have e : 31 * nI x + nI i = nI (31 * x + i) := by
      have h1 : 31 * nI x = nI (31 * x) := pk_mul 31 x
      rw [h1, nI_add]
    have a1 : qIn (nI i) 5 := qIn_n (by omega) (by omega)
    have a2 : qIn (nI (31 * x + i)) 62 := qIn_n (by omega) (by omega)
    obtain ⟨s2, g1, g2, g3, g4⟩ := ih (i + 1) (qW s 45 i (s.1 47 (31 * x + i))) (by omega)
    refine ⟨s2, ?_, fun j h1 h2 => ?_, fun o j h => ?_, g4⟩
    · rw [el_M_back_1, if_neg (not_le5 (by omega)), e, if_pos a2, if_pos a1, nI_cl (by omega), nI_cl (by omega), nI_1]
      exact g1
    · by_cases z : j = i
      · rw [z, g3 45 _ (fun _ => by omega), q_rw]
      · rw [g2 j (by omega) h2, q_rw_o (by decide)]
    · rw [g3 o j (fun ho => by have := h ho; omega), q_rw_if, if_neg (fun y => by have := h y.1; omega)]
theorem m_back2 {x : Nat} (hx : x < 2) : ∀ (q i : Nat) (s : qMem), i + q = 25 → ∃ s2, l_M_back_2 d (nI x) (nI i) s = l_M_back_2 d (nI x) (nI 25) s2 ∧ (∀ j, i ≤ j → j < 25 → s2.1 46 j = s.1 47 (31 * x + 5 + j)) ∧ (∀ o j, (o = 46 → j < i) → s2.1 o j = s.1 o j) ∧ s2.2 = s.2 := by
  intro q
  induction q with
  | zero =>
    intro i s hi
    refine ⟨s, ?_, fun j h1 h2 => by omega, fun _ _ _ => rfl, rfl⟩
    rw [show i = 25 by omega]
  | succ q ih =>
    intro i s hi
    have e : 31 * nI x + 5 + nI i = nI (31 * x + 5 + i) := by
      have h1 : 31 * nI x = nI (31 * x) := pk_mul 31 x
      have h2 : nI (31 * x) + 5 = nI (31 * x + 5) := nI_add (31 * x) 5
      rw [h1, h2, nI_add]
    have n25 : ¬ (25 : Int32) ≤ nI i := by
      show ¬ nI 25 ≤ nI i
      rw [nI_leI (by omega) (by omega)]
      omega
    have a1 : qIn (nI i) 25 := qIn_n (by omega) (by omega)
    have a2 : qIn (nI (31 * x + 5 + i)) 62 := qIn_n (by omega) (by omega)
    obtain ⟨s2, g1, g2, g3, g4⟩ := ih (i + 1) (qW s 46 i (s.1 47 (31 * x + 5 + i))) (by omega)
    refine ⟨s2, ?_, fun j h1 h2 => ?_, fun o j h => ?_, g4⟩
    · rw [el_M_back_2, if_neg n25, e, if_pos a2, if_pos a1, nI_cl (by omega), nI_cl (by omega), nI_1]
      exact g1
    · by_cases z : j = i
      · rw [z, g3 46 _ (fun _ => by omega), q_rw]
      · rw [g2 j (by omega) h2, q_rw_o (by decide)]
    · rw [g3 o j (fun ho => by have := h ho; omega), q_rw_if, if_neg (fun y => by have := h y.1; omega)]
end BACK
