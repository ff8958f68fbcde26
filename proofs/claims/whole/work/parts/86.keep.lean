/-! write and keep by both -/
section KEEP
variable {d : Nat} {c : Co} {lv : Nat → Nat}
theorem in18 {n : Int32} : (∃ k, 1 ≤ k ∧ k ≤ 8 ∧ n = nI k) ∨ n < 1 ∨ (¬ n < 1 ∧ 8 < n ∧ ¬ n ≤ 8) := by
  rcases i_cases n 9 with ⟨k, hk, rfl⟩ | hx
  · rcases Nat.eq_zero_or_pos k with z | z
    · subst z
      exact Or.inr (Or.inl (by decide))
    · exact Or.inl ⟨k, z, by omega, rfl⟩
  · rcases i_out (n := 9) (by omega) hx with z | z
    · refine Or.inr (Or.inl ?_)
      rw [Int32.lt_iff_toInt_lt] at z ⊢
      have e0 : (0 : Int32).toInt = 0 := by decide
      have e1 : (1 : Int32).toInt = 1 := by decide
      omega
    · refine Or.inr (Or.inr ?_)
      have e9 : (nI 9).toInt = 9 := by decide
      have e8 : (8 : Int32).toInt = 8 := by decide
      have e1 : (1 : Int32).toInt = 1 := by decide
      rw [Int32.le_iff_toInt_le, e9] at z
      refine ⟨?_, ?_, ?_⟩
      · rw [Int32.lt_iff_toInt_lt]
        omega
      · rw [Int32.lt_iff_toInt_lt]
        omega
      · rw [Int32.le_iff_toInt_le]
        omega
theorem bth_write {s : qMem} {bs : Int64} {n : Int32} (hI : INV s c lv) : bth (m_G_write (d + 8) bs n) (m_M_write (d + 8) bs n) s (fun s2 => INV s2 c lv) := by
  have hI0 := hI
  obtain ⟨i1, i2, i3, i4, i5, i6, i7, ⟨t, t1, t2, t3, t4⟩, i9⟩ := hI
  rcases in18 (n := n) with ⟨k, k1, k2, rfl⟩ | z | ⟨z, z2, z3⟩
  · have a1 : ¬ nI k < (1 : Int32) := by
      show ¬ nI k < nI 1
      rw [nI_ltI (by omega) (by omega)]
      omega
    have a2 : nI k ≤ (8 : Int32) := by
      show nI k ≤ nI 8
      rw [nI_leI (by omega) (by omega)]
      omega
    have a3 : ¬ (8 : Int32) < nI k := by
      show ¬ nI 8 < nI k
      rw [nI_ltI (by omega) (by omega)]
      omega
    by_cases hf : t + k ≤ 200
    · have a4 : nI (t + k) ≤ (200 : Int32) := by
        show nI (t + k) ≤ nI 200
        rw [nI_leI (by omega) (by omega)]
        omega
      obtain ⟨s1, g1, g2, g3, g4, g5, g6⟩ := g_write1 (d := d + 6) (bs := bs) (n := t) hf k 0 s (by omega) t2
      have t3b : s1.1 40 5 = nI t := by rw [g5 _ _ (by decide) (by omega)]; exact t3
      obtain ⟨s2, j1, j2, j3, j4, j5, j6⟩ := m_write1 (d := d + 7) (bs := bs) (n := t) hf k 0 s1 (by omega) t3b
      have e : ∀ o j, o ≠ 20 → ¬ (o = 19 ∧ j = 1) → o ≠ 43 → ¬ (o = 40 ∧ j = 5) → s2.1 o j = s.1 o j := fun o j h1 h2 h3 h4 => (j5 o j h3 h4).trans (g5 o j h1 h2)
      refine ⟨nI (t + k), s1, s2, ?_, ?_, i1, i2, CI_of (fun o j h => e o j (by omega) (by omega) (by omega) (by omega)) i3, MI_of (fun o j h => e o j (by omega) (by omega) (by omega) (by omega)) i4, S1_of (e _ _ (by omega) (by omega) (by omega) (by omega)) (e _ _ (by omega) (by omega) (by omega) (by omega)) i5, S2_of (fun i => e _ _ (by omega) (by omega) (by omega) (by omega)) (fun i => e _ _ (by omega) (by omega) (by omega) (by omega)) i6, S3_of (e _ _ (by omega) (by omega) (by omega) (by omega)) (e _ _ (by omega) (by omega) (by omega) (by omega)) (fun i => e _ _ (by omega) (by omega) (by omega) (by omega)) (fun i => e _ _ (by omega) (by omega) (by omega) (by omega)) (fun i => e _ _ (by omega) (by omega) (by omega) (by omega)) i7, ⟨t + k, hf, by rw [j5 _ _ (by decide) (by omega)]; exact g2, j2, fun i hi => ?_⟩, S5_of (fun a ha i => e _ _ (by omega) (by omega) (by omega) (by omega)) i9⟩
      · rw [e_G_write, if_neg a1, if_pos a2, t2, nI_add, if_pos a4]
        exact g1
      · rw [e_M_write, e_M_in, if_neg a1, if_neg a3, sm_some, t3b]
        dsimp only
        rw [if_neg (show ¬ (1 : Int32) = 0 from by decide), nI_add, if_pos a4]
        exact j1
      · rw [j5 _ _ (by decide) (by omega)]
        by_cases y : i < t
        · rw [g3 i (by omega), j3 i (by omega), g5 _ _ (by decide) (by omega)]
          exact t4 i y
        · have e1 := g4 (i - t) (Nat.zero_le _) (by omega)
          have e2 := j4 (i - t) (Nat.zero_le _) (by omega)
          rw [show t + (i - t) = i by omega] at e1 e2
          rw [e1, e2]
    · have a4 : ¬ nI (t + k) ≤ (200 : Int32) := by
        show ¬ nI (t + k) ≤ nI 200
        rw [nI_leI (by omega) (by omega)]
        omega
      refine bth_still (r := -5) ?_ ?_ hI0
      · rw [e_G_write, if_neg a1, if_pos a2, t2, nI_add, if_neg a4]
      · rw [e_M_write, e_M_in, if_neg a1, if_neg a3, sm_some, t3]
        dsimp only
        rw [if_neg (show ¬ (1 : Int32) = 0 from by decide), nI_add, if_neg a4]
  · refine bth_still (r := -3) ?_ ?_ hI0
    · rw [e_G_write, if_pos z]
    · rw [e_M_write, e_M_in, if_pos z, sm_some]
      rfl
  · refine bth_still (r := -3) ?_ ?_ hI0
    · rw [e_G_write, if_neg z, if_neg z3]
    · rw [e_M_write, e_M_in, if_neg z, if_pos z2, sm_some]
      rfl
theorem m_keep1 {x : Nat} (hx : x < 2) : ∀ (q i : Nat) (s : qMem), i + q = 5 → ∃ s2, l_M_keep_1 d (nI x) (nI i) s = l_M_keep_2 d (nI x) 0 s2 ∧ (∀ j, i ≤ j → j < 5 → s2.1 47 (31 * x + j) = s.1 45 j) ∧ (∀ o j, (o = 47 → ¬ (31 * x + i ≤ j ∧ j < 31 * x + 5)) → s2.1 o j = s.1 o j) ∧ s2.2 = s.2 := by
  intro q
  induction q with
  | zero =>
    intro i s hi
    refine ⟨s, ?_, fun j h1 h2 => by omega, fun _ _ _ => rfl, rfl⟩
    rw [el_M_keep_1, show i = 5 by omega, if_pos (by decide)]
  | succ q ih =>
    intro i s hi
    have e : 31 * nI x + nI i = nI (31 * x + i) := by
      have h1 : 31 * nI x = nI (31 * x) := pk_mul 31 x
      rw [h1, nI_add]
    have a1 : qIn (nI i) 5 := qIn_n (by omega) (by omega)
    have a2 : qIn (nI (31 * x + i)) 62 := qIn_n (by omega) (by omega)
    obtain ⟨s2, g1, g2, g3, g4⟩ := ih (i + 1) (qW s 47 (31 * x + i) (s.1 45 i)) (by omega)
    refine ⟨s2, ?_, fun j h1 h2 => ?_, fun o j h => ?_, g4⟩
    · rw [el_M_keep_1, if_neg (not_le5 (by omega)), if_pos a1, e, if_pos a2, nI_cl (by omega), nI_cl (by omega), nI_1]
      exact g1
    · by_cases z : j = i
      · rw [z, g3 47 _ (fun _ => by omega), q_rw]
      · rw [g2 j (by omega) h2, q_rw_o (by decide)]
    · rw [g3 o j (fun ho => by have := h ho; omega), q_rw_if, if_neg (fun y => by have := h y.1; omega)]
theorem m_keep2 {x : Nat} (hx : x < 2) : ∀ (q i : Nat) (s : qMem), i + q = 25 → ∃ s2, l_M_keep_2 d (nI x) (nI i) s = l_M_keep_2 d (nI x) (nI 25) s2 ∧ (∀ j, i ≤ j → j < 25 → s2.1 47 (31 * x + 5 + j) = s.1 46 j) ∧ (∀ o j, (o = 47 → ¬ (31 * x + 5 + i ≤ j ∧ j < 31 * x + 30)) → s2.1 o j = s.1 o j) ∧ s2.2 = s.2 := by
  intro q
  induction q with
  | zero =>
    intro i s hi
    refine ⟨s, ?_, fun j h1 h2 => by omega, fun _ _ _ => rfl, rfl⟩
    rw [show i = 25 by omega]
  | succ q ih =>
    intro i s hi
    have e : 31 * nI x + 5 + nI i = nI (31 * x + 5 + i) := by
      have h1 : 31 * nI x = nI (31 * x) := pk_mul 31 x
      have h2 : nI (31 * x) + 5 = nI (31 * x + 5) := nI_add (31 * x) 5
      rw [h1, h2, nI_add]
    have n25 : ¬ (25 : Int32) ≤ nI i := by
      show ¬ nI 25 ≤ nI i
      rw [nI_leI (by omega) (by omega)]
      omega
    have a1 : qIn (nI i) 25 := qIn_n (by omega) (by omega)
    have a2 : qIn (nI (31 * x + 5 + i)) 62 := qIn_n (by omega) (by omega)
    obtain ⟨s2, g1, g2, g3, g4⟩ := ih (i + 1) (qW s 47 (31 * x + 5 + i) (s.1 46 i)) (by omega)
    refine ⟨s2, ?_, fun j h1 h2 => ?_, fun o j h => ?_, g4⟩
    · rw [el_M_keep_2, if_neg n25, if_pos a1, e, if_pos a2, nI_cl (by omega), nI_cl (by omega), nI_1]
      exact g1
    · by_cases z : j = i
      · rw [z, g3 47 _ (fun _ => by omega), q_rw]
      · rw [g2 j (by omega) h2, q_rw_o (by decide)]
    · rw [g3 o j (fun ho => by have := h ho; omega), q_rw_if, if_neg (fun y => by have := h y.1; omega)]
end KEEP
