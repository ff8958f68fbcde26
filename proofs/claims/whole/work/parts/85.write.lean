/-! judge, erase, write by both -/
section WRITE
variable {d : Nat} {c : Co} {lv : Nat → Nat}
theorem m_judge1 {n : Nat} (h5 : n ≤ 5) : ∀ (q k : Nat) (s : qMem), k + q = n → s.1 40 3 = nI n → ∃ s2, l_M_judge_1 d (nI k) s = l_M_judge_2 d 0 s2 ∧ (∀ o j, o ≠ 54 → s2.1 o j = s.1 o j) ∧ s2.2 = s.2 ∧ (∀ j, j < k → s2.1 54 j = s.1 54 j) ∧ ∀ j, k ≤ j → j < n → s2.1 54 j = s.1 45 j := by
  intro q
  induction q with
  | zero =>
    intro k s hk h3
    refine ⟨s, ?_, fun _ _ _ => rfl, rfl, fun _ _ => rfl, fun j h1 h2 => by omega⟩
    rw [el_M_judge_1, h3, if_pos (nI_le (by omega) (by omega))]
  | succ q ih =>
    intro k s hk h3
    have i5 : qIn (nI k) 5 := qIn_n (by omega) (by omega)
    obtain ⟨s2, g1, g2, g3, g4, g5⟩ := ih (k + 1) (qW s 54 k (s.1 45 k)) (by omega) (by rw [q_rw_o (by decide)]; exact h3)
    refine ⟨s2, ?_, fun o j ho => by rw [g2 o j ho, q_rw_o ho], g3, fun j hj => by rw [g4 j (by omega), q_rw_k (by omega)], fun j h1 h2 => ?_⟩
    · rw [el_M_judge_1, h3, if_neg (by rw [nI_leI (by omega) (by omega)]; omega), if_pos i5, if_pos i5, nI_cl (by omega), nI_1]
      exact g1
    · by_cases z : j = k
      · rw [z, g4 k (by omega), q_rw]
      · rw [g5 j (by omega) h2, q_rw_o (by decide)]
theorem bth_judge {s : qMem} (hI : INV s c lv) : bth (m_G_judge (d + 8)) (m_M_judge (d + 8)) s (fun s2 => INV s2 c lv) := by
  obtain ⟨i1, i2, i3, i4, i5, i6, ⟨k, k1, k2, k3, k4⟩, i8, i9⟩ := hI
  have h5 := i1.2.1
  have e33 : ∀ o j, o ≠ 33 → (qCpy s 23 33 0 0 5).1 o j = s.1 o j := fun o j h => q_cp_o h
  obtain ⟨r, s1, g1, ⟨g2, g2b⟩, g3⟩ := judge_loop (d := d) (k := k) i1 k1 k 0 lv (qCpy s 23 33 0 0 5) (by omega) i2 (RT_33 e33 i3.1) (fun p hp => by rw [q_cp, if_pos (by omega)]; exact i3.2.1 p hp) (by rw [e33 _ _ (by decide)]; exact k2) (fun j hj => by
    obtain ⟨p, u, a1, a2, a3, a4, -⟩ := k4 j hj
    exact ⟨p, u, a1, a2, by rw [e33 _ _ (by decide)]; exact a3, by rw [e33 _ _ (by decide)]; exact a4⟩)
  have f33 : ∀ o j, o ≠ 33 → s1.1 o j = s.1 o j := fun o j h => (g2 o j h).trans (e33 o j h)
  have M1 : MI s1 c lv := MI_of (fun o j h => f33 o j (by omega)) i4
  obtain ⟨s2, j1, j2, j3, -, j5⟩ := m_judge1 (d := d + 7) h5 (cN c) 0 s1 (by omega) M1.1.2.1
  have F2 : FM s1 s2 := ⟨fun o k q _ => j2 o k (by omega), j3⟩
  obtain ⟨s3, t1, t2⟩ := g3 s2 (F2.RM M1.1) (F2.RC M1.2.1) (fun p hp => by rw [j5 p (Nat.zero_le _) hp]; exact M1.2.2 p hp) (by rw [j2 _ _ (by decide), f33 _ _ (by decide)]; exact k3) (fun j hj => by
    obtain ⟨p, u, a1, a2, a3, a4, a5, a6⟩ := k4 j hj
    rw [j2 _ _ (by decide), j2 _ _ (by decide), f33 _ _ (by decide), f33 _ _ (by decide), e33 _ _ (by decide), e33 _ _ (by decide), a3, a4, a5, a6]
    exact ⟨rfl, rfl⟩)
  have F3 := F2.tr t2
  have ef : ∀ o j, o ≠ 33 → ¬ (50 ≤ o ∧ o ≤ 54) → ¬ (o = 40 ∧ j = 28) → s3.1 o j = s.1 o j := fun o j h1 h2 h3 => (F3.1 o j h2 h3).trans (f33 o j h1)
  refine ⟨r, s1, s3, ?_, ?_, i1, i2, CI_of (fun o j h => ef o j (by omega) (by omega) (by omega)) i3, MI_of (fun o j h => ef o j (by omega) (by omega) (by omega)) i4, S1_of (ef _ _ (by omega) (by omega) (by omega)) (ef _ _ (by omega) (by omega) (by omega)) i5, S2_of (fun i => ef _ _ (by omega) (by omega) (by omega)) (fun i => ef _ _ (by omega) (by omega) (by omega)) i6, S3_of (ef _ _ (by omega) (by omega) (by omega)) (ef _ _ (by omega) (by omega) (by omega)) (fun i => ef _ _ (by omega) (by omega) (by omega)) (fun i => ef _ _ (by omega) (by omega) (by omega)) (fun i => ef _ _ (by omega) (by omega) (by omega)) ⟨k, k1, k2, k3, k4⟩, S4_of (ef _ _ (by omega) (by omega) (by omega)) (ef _ _ (by omega) (by omega) (by omega)) (fun i => ef _ _ (by omega) (by omega) (by omega)) (fun i => ef _ _ (by omega) (by omega) (by omega)) i8, S5_of (fun a ha i => ef _ _ (by omega) (by omega) (by omega)) i9⟩
  · rw [e_G_judge]
    exact g1
  · rw [e_M_judge]
    exact j1.trans t1
theorem bth_erase {s : qMem} (hI : INV s c lv) : bth (m_G_erase (d + 2)) (m_M_erase (d + 2)) s (fun s2 => INV s2 c lv) := by
  obtain ⟨i1, i2, i3, i4, i5, i6, i7, ⟨k, k1, k2, k3, k4⟩, i9⟩ := hI
  have e : ∀ o j, ¬ (o = 19 ∧ j = 1) → ¬ (o = 40 ∧ j = 5) → (qW (qW s 19 1 0) 40 5 0).1 o j = s.1 o j := fun o j h1 h2 => by
    rw [q_rw_if, if_neg h2, q_rw_if, if_neg h1]
  refine ⟨nI k, qW s 19 1 0, qW (qW s 19 1 0) 40 5 0, by rw [e_G_erase, e_X_empty, sm_some, k2], by rw [e_M_erase, q_rw_o (by decide), k3], i1, i2, CI_of (fun o j h => e o j (by omega) (by omega)) i3, MI_of (fun o j h => e o j (by omega) (by omega)) i4, S1_of (e _ _ (by omega) (by omega)) (e _ _ (by omega) (by omega)) i5, S2_of (fun i => e _ _ (by omega) (by omega)) (fun i => e _ _ (by omega) (by omega)) i6, S3_of (e _ _ (by omega) (by omega)) (e _ _ (by omega) (by omega)) (fun i => e _ _ (by omega) (by omega)) (fun i => e _ _ (by omega) (by omega)) (fun i => e _ _ (by omega) (by omega)) i7, ⟨0, by omega, by rw [q_rw_o (by decide), q_rw]; rfl, by rw [q_rw]; rfl, fun i hi => absurd hi (Nat.not_lt_zero _)⟩, S5_of (fun a ha i => e _ _ (by omega) (by omega)) i9⟩
def wB (bs : Int64) (x : Int32) : Int32 := ((bs >>> (((8 * x) : Int32).toInt64 &&& 63)) &&& (255)).toInt32
theorem g_write1 {bs : Int64} {k n : Nat} (hk : n + k ≤ 200) : ∀ (q i : Nat) (s : qMem), i + q = k → s.1 19 1 = nI (n + i) → ∃ s2, l_G_write_1 (d + 1) bs (nI k) (nI i) s = some (nI (n + k), s2) ∧ s2.1 19 1 = nI (n + k) ∧ (∀ j, j < n + i → s2.1 20 j = s.1 20 j) ∧ (∀ j, i ≤ j → j < k → s2.1 20 (n + j) = wB bs (nI j)) ∧ (∀ o j, o ≠ 20 → ¬ (o = 19 ∧ j = 1) → s2.1 o j = s.1 o j) ∧ s2.2 = s.2 := by
  intro q
  induction q with
  | zero =>
    intro i s hi h1
    have : i = k := by omega
    subst this
    refine ⟨s, ?_, h1, fun _ _ => rfl, fun j h1 h2 => by omega, fun _ _ _ _ => rfl, rfl⟩
    rw [el_G_write_1, if_pos (nI_le (Nat.le_refl _) (by omega)), h1]
  | succ q ih =>
    intro i s hi h1
    have n200 : ¬ (200 : Int32) ≤ nI (n + i) := by
      show ¬ nI 200 ≤ nI (n + i)
      rw [nI_leI (by omega) (by omega)]
      omega
    have i2 : qIn (nI (n + i)) 200 := qIn_n (by omega) (by omega)
    obtain ⟨s2, g1, g2, g3, g4, g5, g6⟩ := ih (i + 1) (qW (qW s 20 (n + i) (wB bs (nI i))) 19 1 (nI (n + i + 1))) (by omega) q_rw
    refine ⟨s2, ?_, g2, fun j hj => ?_, fun j h1 h2 => ?_, fun o j h1 h2 => ?_, g6⟩
    · rw [el_G_write_1, if_neg (by rw [nI_leI (by omega) (by omega)]; omega), e_X_append, h1, if_neg n200, if_pos i2, nI_cl (by omega), sm_some, nI_1, nI_1]
      exact g1
    · rw [g3 j (by omega), q_rw_o (by decide), q_rw_k (by omega)]
    · by_cases z : j = i
      · rw [z, g3 (n + i) (by omega), q_rw_o (by decide), q_rw]
      · exact g4 j (by omega) h2
    · rw [g5 o j h1 h2, q_rw_if, if_neg h2, q_rw_o h1]
theorem m_write1 {bs : Int64} {k n : Nat} (hk : n + k ≤ 200) : ∀ (q i : Nat) (s : qMem), i + q = k → s.1 40 5 = nI n → ∃ s2, l_M_write_1 d bs (nI k) (nI i) s = some (nI (n + k), s2) ∧ s2.1 40 5 = nI (n + k) ∧ (∀ j, j < n + i → s2.1 43 j = s.1 43 j) ∧ (∀ j, i ≤ j → j < k → s2.1 43 (n + j) = wB bs (nI j)) ∧ (∀ o j, o ≠ 43 → ¬ (o = 40 ∧ j = 5) → s2.1 o j = s.1 o j) ∧ s2.2 = s.2 := by
  intro q
  induction q with
  | zero =>
    intro i s hi h1
    have : i = k := by omega
    subst this
    refine ⟨qW s 40 5 (nI (n + i)), ?_, q_rw, fun _ _ => q_rw_o (by decide), fun j h1 h2 => by omega, fun o j h1 h2 => by rw [q_rw_if, if_neg h2], rfl⟩
    rw [el_M_write_1, if_pos (nI_le (Nat.le_refl _) (by omega)), h1, nI_add]
  | succ q ih =>
    intro i s hi h1
    have i2 : qIn (nI (n + i)) 200 := qIn_n (by omega) (by omega)
    obtain ⟨s2, g1, g2, g3, g4, g5, g6⟩ := ih (i + 1) (qW s 43 (n + i) (wB bs (nI i))) (by omega) (by rw [q_rw_o (by decide)]; exact h1)
    refine ⟨s2, ?_, g2, fun j hj => ?_, fun j h1 h2 => ?_, fun o j h1 h2 => ?_, g6⟩
    · rw [el_M_write_1, if_neg (by rw [nI_leI (by omega) (by omega)]; omega), h1, nI_add, if_pos i2, nI_cl (by omega), nI_1]
      exact g1
    · rw [g3 j (by omega), q_rw_k (by omega)]
    · by_cases z : j = i
      · rw [z, g3 (n + i) (by omega), q_rw]
      · exact g4 j (by omega) h2
    · rw [g5 o j h1 h2, q_rw_o h1]
end WRITE
