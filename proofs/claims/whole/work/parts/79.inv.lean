/-! what holds between the two -/
def S1 (s : qMem) : Prop := ∃ m, m ≤ 9999 ∧ s.1 22 1 = nI m ∧ s.1 40 18 = nI m
def S2 (s : qMem) : Prop := ∀ i, i < 25 → s.1 24 i = s.1 46 i
def S3 (s : qMem) (c : Co) : Prop := ∃ k, k ≤ 12 ∧ s.1 0 9 = nI k ∧ s.1 40 22 = nI k ∧ ∀ i, i < k → ∃ p u, p < cN c ∧ u ≤ 1 ∧ s.1 31 i = nI p ∧ s.1 32 i = nI u ∧ s.1 49 (2 * i) = nI p ∧ s.1 49 (2 * i + 1) = nI u
def S4 (s : qMem) : Prop := ∃ n, n ≤ 200 ∧ s.1 19 1 = nI n ∧ s.1 40 5 = nI n ∧ ∀ i, i < n → s.1 20 i = s.1 43 i
def KP (s : qMem) (c : Co) (o j : Nat) : Prop := (s.1 o 3 = 0 ∧ s.1 48 j = 0) ∨ (s.1 o 3 = 1 ∧ s.1 48 j = 1 ∧ (∃ kl, lvOk c kl ∧ RL s (o + 1) (cN c) kl ∧ ∀ p, p < cN c → s.1 47 (31 * j + p) = nI (kl p)) ∧ (∃ m, m ≤ 9999 ∧ s.1 o 1 = nI m ∧ s.1 47 (31 * j + 30) = nI m) ∧ ∀ i, i < 25 → s.1 (o + 2) i = s.1 47 (31 * j + 5 + i))
def S5 (s : qMem) (c : Co) : Prop := KP s c 34 0 ∧ KP s c 37 1
def INV (s : qMem) (c : Co) (lv : Nat → Nat) : Prop := cOk c ∧ lvOk c lv ∧ CI s c lv ∧ MI s c lv ∧ S1 s ∧ S2 s ∧ S3 s c ∧ S4 s ∧ S5 s c
theorem S1_of {s s2 : qMem} (h1 : s2.1 22 1 = s.1 22 1) (h2 : s2.1 40 18 = s.1 40 18) (h : S1 s) : S1 s2 := by
  obtain ⟨m, a, b, e⟩ := h
  exact ⟨m, a, by rw [h1]; exact b, by rw [h2]; exact e⟩
theorem S2_of {s s2 : qMem} (h1 : ∀ i, s2.1 24 i = s.1 24 i) (h2 : ∀ i, s2.1 46 i = s.1 46 i) (h : S2 s) : S2 s2 := fun i hi => by
  rw [h1, h2]
  exact h i hi
theorem S3_of {s s2 : qMem} {c : Co} (h1 : s2.1 0 9 = s.1 0 9) (h2 : s2.1 40 22 = s.1 40 22) (h3 : ∀ i, s2.1 31 i = s.1 31 i) (h4 : ∀ i, s2.1 32 i = s.1 32 i) (h5 : ∀ i, s2.1 49 i = s.1 49 i) (h : S3 s c) : S3 s2 c := by
  obtain ⟨k, a, b, e, f⟩ := h
  refine ⟨k, a, by rw [h1]; exact b, by rw [h2]; exact e, fun i hi => ?_⟩
  rw [h3, h4, h5, h5]
  exact f i hi
theorem S4_of {s s2 : qMem} (h1 : s2.1 19 1 = s.1 19 1) (h2 : s2.1 40 5 = s.1 40 5) (h3 : ∀ i, s2.1 20 i = s.1 20 i) (h4 : ∀ i, s2.1 43 i = s.1 43 i) (h : S4 s) : S4 s2 := by
  obtain ⟨k, a, b, e, f⟩ := h
  refine ⟨k, a, by rw [h1]; exact b, by rw [h2]; exact e, fun i hi => ?_⟩
  rw [h3, h4]
  exact f i hi
theorem KP_of {s s2 : qMem} {c : Co} {o j : Nat} (h1 : ∀ a, (a = o ∨ a = o + 1 ∨ a = o + 2 ∨ a = 47 ∨ a = 48) → ∀ i, s2.1 a i = s.1 a i) (h : KP s c o j) : KP s2 c o j := by
  rcases h with ⟨a, b⟩ | ⟨a, b, ⟨kl, k1, k2, k3⟩, ⟨m, m1, m2, m3⟩, e⟩
  · exact Or.inl ⟨by rw [h1 o (by omega)]; exact a, by rw [h1 48 (by omega)]; exact b⟩
  · exact Or.inr ⟨by rw [h1 o (by omega)]; exact a, by rw [h1 48 (by omega)]; exact b, ⟨kl, k1, fun p hp => by rw [h1 (o + 1) (by omega)]; exact k2 p hp, fun p hp => by rw [h1 47 (by omega)]; exact k3 p hp⟩, ⟨m, m1, by rw [h1 o (by omega)]; exact m2, by rw [h1 47 (by omega)]; exact m3⟩, fun i hi => by rw [h1 (o + 2) (by omega), h1 47 (by omega)]; exact e i hi⟩
theorem S5_of {s s2 : qMem} {c : Co} (h1 : ∀ a, ((34 ≤ a ∧ a ≤ 39) ∨ a = 47 ∨ a = 48) → ∀ i, s2.1 a i = s.1 a i) (h : S5 s c) : S5 s2 c := ⟨KP_of (fun a ha => h1 a (by omega)) h.1, KP_of (fun a ha => h1 a (by omega)) h.2⟩
section INVS
variable {d : Nat} {c : Co} {lv : Nat → Nat}
theorem CI_of {s s2 : qMem} (h : ∀ o k, ((1 ≤ o ∧ o ≤ 9) ∨ o = 23 ∨ (26 ≤ o ∧ o ≤ 29) ∨ (o = 0 ∧ k = 6)) → s2.1 o k = s.1 o k) (hC : CI s c lv) : CI s2 c lv := by
  obtain ⟨⟨a1, a2, a3, a4⟩, b, ⟨n, n1, n2, f, n3, n4⟩, e⟩ := hC
  refine ⟨⟨by rw [h _ _ (by omega)]; exact a1, by rw [h _ _ (by omega)]; exact a2, fun i hi => ?_, fun p hp => ?_⟩, fun p hp => by rw [h _ _ (by omega)]; exact b p hp, ⟨n, n1, by rw [h _ _ (by omega)]; exact n2, f, fun i hi => ⟨(n3 i hi).1, by rw [h _ _ (by omega)]; exact (n3 i hi).2⟩, fun k hk => by rw [h _ _ (by omega)]; exact n4 k hk⟩, ?_⟩
  · rw [h _ _ (by omega), h _ _ (by omega)]
    exact a3 i hi
  · rw [h _ _ (by omega), h _ _ (by omega), h _ _ (by omega), h _ _ (by omega), h _ _ (by omega), h _ _ (by omega)]
    exact a4 p hp
  · rcases e with e | ⟨⟨e1, e2, e3, e4⟩, e5⟩
    · exact Or.inl (by rw [h _ _ (by omega)]; exact e)
    · exact Or.inr ⟨⟨by rw [h _ _ (by omega)]; exact e1, fun j hj => by rw [h _ _ (by omega)]; exact e2 j hj, fun k hk => by rw [h _ _ (by omega)]; exact e3 k hk, fun j hj => by rw [h _ _ (by omega)]; exact e4 j hj⟩, by rw [h _ _ (by omega)]; exact e5⟩
theorem MI_of {s s2 : qMem} (h : ∀ o k, (o = 41 ∨ o = 42 ∨ o = 45 ∨ (o = 40 ∧ (k = 0 ∨ k = 2 ∨ k = 3 ∨ k = 30))) → s2.1 o k = s.1 o k) (hM : MI s c lv) : MI s2 c lv := by
  obtain ⟨⟨a1, a2, a3, ⟨m, m1, m2, m3⟩, a5⟩, ⟨m4, m5, m6, m7⟩, b⟩ := hM
  exact ⟨⟨by rw [h _ _ (by omega)]; exact a1, by rw [h _ _ (by omega)]; exact a2, fun i hi => by rw [h _ _ (by omega)]; exact a3 i hi, ⟨m, m1, by rw [h _ _ (by omega)]; exact m2, m3⟩, fun p hp j hj => by rw [h _ _ (by omega)]; exact a5 p hp j hj⟩, ⟨m4, m5, by rw [h _ _ (by omega)]; exact m6, m7⟩, fun p hp => by rw [h _ _ (by omega)]; exact b p hp⟩
/-- both are asked, one after the other -/
def bth (G M : qMem → Option (Int32 × qMem)) (s : qMem) (P : qMem → Prop) : Prop := ∃ r s1 s2, G s = some (r, s1) ∧ M s1 = some (r, s2) ∧ P s2
theorem bth_asks {s : qMem} {G M : qMem → Option (Int32 × qMem)} (h : asks c lv G M) (hI : INV s c lv) : bth G M s (fun s2 => INV s2 c lv) := by
  obtain ⟨r, h1, h2⟩ := h
  obtain ⟨i1, i2, i3, i4, i5, i6, i7, i8, i9⟩ := hI
  obtain ⟨s1, g1, g2, g3⟩ := h1 s i3
  have e : ∀ o k, ¬ (10 ≤ o ∧ o ≤ 18) → ¬ (26 ≤ o ∧ o ≤ 30) → o ≠ 33 → ¬ (o = 0 ∧ k = 6) → s1.1 o k = s.1 o k := g3.1
  obtain ⟨s2, k1, k2⟩ := h2 s1 (MI_of (fun o k h => e o k (by omega) (by omega) (by omega) (by omega)) i4)
  have f : ∀ o k, ¬ (50 ≤ o ∧ o ≤ 54) → ¬ (o = 40 ∧ k = 28) → s2.1 o k = s1.1 o k := k2.1
  refine ⟨r, s1, s2, g1, k1, i1, i2, CI_of (fun o k h => f o k (by omega) (by omega)) g2, ?_, ?_, ?_, ?_, ?_, ?_⟩
  · exact MI_of (fun o k h => (f o k (by omega) (by omega)).trans (e o k (by omega) (by omega) (by omega) (by omega))) i4
  all_goals have ef : ∀ o k, ¬ (10 ≤ o ∧ o ≤ 18) → ¬ (26 ≤ o ∧ o ≤ 30) → o ≠ 33 → ¬ (o = 0 ∧ k = 6) → ¬ (50 ≤ o ∧ o ≤ 54) → ¬ (o = 40 ∧ k = 28) → s2.1 o k = s.1 o k := fun o k h1 h2 h3 h4 h5 h6 => (f o k h5 h6).trans (e o k h1 h2 h3 h4)
  · exact S1_of (ef _ _ (by omega) (by omega) (by omega) (by omega) (by omega) (by omega)) (ef _ _ (by omega) (by omega) (by omega) (by omega) (by omega) (by omega)) i5
  · exact S2_of (fun i => ef _ _ (by omega) (by omega) (by omega) (by omega) (by omega) (by omega)) (fun i => ef _ _ (by omega) (by omega) (by omega) (by omega) (by omega) (by omega)) i6
  · exact S3_of (ef _ _ (by omega) (by omega) (by omega) (by omega) (by omega) (by omega)) (ef _ _ (by omega) (by omega) (by omega) (by omega) (by omega) (by omega)) (fun i => ef _ _ (by omega) (by omega) (by omega) (by omega) (by omega) (by omega)) (fun i => ef _ _ (by omega) (by omega) (by omega) (by omega) (by omega) (by omega)) (fun i => ef _ _ (by omega) (by omega) (by omega) (by omega) (by omega) (by omega)) i7
  · exact S4_of (ef _ _ (by omega) (by omega) (by omega) (by omega) (by omega) (by omega)) (ef _ _ (by omega) (by omega) (by omega) (by omega) (by omega) (by omega)) (fun i => ef _ _ (by omega) (by omega) (by omega) (by omega) (by omega) (by omega)) (fun i => ef _ _ (by omega) (by omega) (by omega) (by omega) (by omega) (by omega)) i8
  · exact S5_of (fun a ha i => ef _ _ (by omega) (by omega) (by omega) (by omega) (by omega) (by omega)) i9
theorem bth_burn {s : qMem} (hI : INV s c lv) : bth (m_G_burn (d + 1)) (m_M_burn (d + 1)) s (fun s2 => INV s2 c lv) := by
  obtain ⟨i1, i2, i3, i4, i5, i6, ⟨k, k1, k2, k3, k4⟩, i8, i9⟩ := hI
  have e : ∀ o k, ¬ (o = 0 ∧ k = 9) → ¬ (o = 40 ∧ k = 22) → (qW (qW s 0 9 0) 40 22 0).1 o k = s.1 o k := fun o k h1 h2 => by
    rw [q_rw_if, if_neg h2, q_rw_if, if_neg h1]
  refine ⟨nI k, qW s 0 9 0, qW (qW s 0 9 0) 40 22 0, by rw [e_G_burn, k2], by rw [e_M_burn, q_rw_o (by decide), k3], i1, i2, CI_of (fun o k h => e o k (by omega) (by omega)) i3, MI_of (fun o k h => e o k (by omega) (by omega)) i4, S1_of (e _ _ (by omega) (by omega)) (e _ _ (by omega) (by omega)) i5, S2_of (fun i => e _ _ (by omega) (by omega)) (fun i => e _ _ (by omega) (by omega)) i6, ⟨0, by omega, by rw [q_rw_o (by decide), q_rw]; rfl, by rw [q_rw]; rfl, fun i hi => absurd hi (Nat.not_lt_zero _)⟩, S4_of (e _ _ (by omega) (by omega)) (e _ _ (by omega) (by omega)) (fun i => e _ _ (by omega) (by omega)) (fun i => e _ _ (by omega) (by omega)) i8, S5_of (fun a ha i => e _ _ (by omega) (by omega)) i9⟩
theorem bth_still {s : qMem} {G M : qMem → Option (Int32 × qMem)} {r : Int32} (h1 : G s = some (r, s)) (h2 : M s = some (r, s)) (hI : INV s c lv) : bth G M s (fun s2 => INV s2 c lv) := ⟨r, s, s, h1, h2, hI⟩
theorem bth_row {s : qMem} {x u : Int32} (hI : INV s c lv) : bth (m_G_row (d + 8) x u) (m_M_row (d + 8) x u) s (fun s2 => INV s2 c lv) := by
  have hI0 := hI
  obtain ⟨i1, i2, i3, i4, i5, i6, ⟨k, k1, k2, k3, k4⟩, i8, i9⟩ := hI
  have h5 := i1.2.1
  rcases i_cases x (cN c) with ⟨p, hp, rfl⟩ | hx
  · by_cases hw : u = 0 ∨ u = 1
    · have w0 : ¬ u < 0 := by rcases hw with z | z <;> (subst z; decide)
      have w1 : u ≤ 1 := by rcases hw with z | z <;> (subst z; decide)
      by_cases hk12 : k = 12
      · subst hk12
        refine bth_still (r := -5) ?_ ?_ hI0
        · rw [e_G_row, t_isOne (Or.inl rfl) i3.1 i1 hp, sm_some, n10, if_neg w0, if_pos w1, k2, if_neg (by decide)]
        · rw [e_M_row, m_isOne i4.1 i1 hp, sm_some, n10, m_in01, sm_some, decide_eq_true hw, bt0, k3, if_pos (by decide)]
      · have lt : nI k < (12 : Int32) := by
          show nI k < nI 12
          rw [nI_ltI (by omega) (by omega)]
          omega
        have ne : ¬ nI k = (12 : Int32) := by
          show ¬ nI k = nI 12
          rw [nI_eq (by omega) (by omega)]
          omega
        have e2 : (2 : Int32) * nI k = nI (2 * k) := pk_mul 2 k
        have a1 : qIn (nI k) 12 := qIn_n (by omega) (by omega)
        have a2 : qIn (nI (2 * k)) 24 := qIn_n (by omega) (by omega)
        have a3 : qIn (nI (2 * k + 1)) 24 := qIn_n (by omega) (by omega)
        obtain ⟨un, hu, hun⟩ : ∃ un, un ≤ 1 ∧ u = nI un := by
          rcases hw with z | z
          · exact ⟨0, by omega, z⟩
          · exact ⟨1, by omega, z⟩
        generalize hs1 : qW (qW (qW s 31 k (nI p)) 32 k u) 0 9 (nI (k + 1)) = s1
        have f : ∀ o j, ¬ (o = 31 ∧ j = k) → ¬ (o = 32 ∧ j = k) → ¬ (o = 0 ∧ j = 9) → s1.1 o j = s.1 o j := fun o j h1 h2 h3 => by
          rw [← hs1, q_rw_if, if_neg h3, q_rw_if, if_neg h2, q_rw_if, if_neg h1]
        have e : ∀ o j, ¬ (o = 31 ∧ j = k) → ¬ (o = 32 ∧ j = k) → ¬ (o = 0 ∧ j = 9) → ¬ (o = 49 ∧ (j = 2 * k ∨ j = 2 * k + 1)) → ¬ (o = 40 ∧ j = 22) → (qW (qW (qW s1 49 (2 * k) (nI p)) 49 (2 * k + 1) u) 40 22 (nI (k + 1))).1 o j = s.1 o j := fun o j h1 h2 h3 h4 h5 => by
          rw [q_rw_if, if_neg h5, q_rw_if, if_neg (by omega), q_rw_if, if_neg (by omega)]
          exact f o j h1 h2 h3
        refine ⟨nI (k + 1), s1, qW (qW (qW s1 49 (2 * k) (nI p)) 49 (2 * k + 1) u) 40 22 (nI (k + 1)), ?_, ?_, i1, i2, CI_of (fun o j h => e o j (by omega) (by omega) (by omega) (by omega) (by omega)) i3, MI_of (fun o j h => e o j (by omega) (by omega) (by omega) (by omega) (by omega)) i4, S1_of (e _ _ (by omega) (by omega) (by omega) (by omega) (by omega)) (e _ _ (by omega) (by omega) (by omega) (by omega) (by omega)) i5, S2_of (fun i => e _ _ (by omega) (by omega) (by omega) (by omega) (by omega)) (fun i => e _ _ (by omega) (by omega) (by omega) (by omega) (by omega)) i6, ⟨k + 1, by omega, ?_, q_rw, fun i hi => ?_⟩, S4_of (e _ _ (by omega) (by omega) (by omega) (by omega) (by omega)) (e _ _ (by omega) (by omega) (by omega) (by omega) (by omega)) (fun i => e _ _ (by omega) (by omega) (by omega) (by omega) (by omega)) (fun i => e _ _ (by omega) (by omega) (by omega) (by omega) (by omega)) i8, S5_of (fun a ha i => e _ _ (by omega) (by omega) (by omega) (by omega) (by omega)) i9⟩
        · rw [e_G_row, t_isOne (Or.inl rfl) i3.1 i1 hp, sm_some, n10, if_neg w0, if_pos w1, k2, if_pos lt, if_pos a1, if_pos a1, nI_1, nI_cl (by omega), hs1]
        · have M1 : MI s1 c lv := MI_of (fun o j h => f o j (by omega) (by omega) (by omega)) i4
          have k3b : s1.1 40 22 = nI k := by rw [f _ _ (by omega) (by omega) (by omega)]; exact k3
          rw [e_M_row, m_isOne M1.1 i1 hp, sm_some, n10, m_in01, sm_some, decide_eq_true hw, bt0, k3b, if_neg ne, e2, nI_1, if_pos a2, nI_1, if_pos a3, nI_cl (by omega), nI_cl (by omega)]
        · rw [q_rw_o (by decide), q_rw_o (by decide), q_rw_o (by decide), ← hs1, q_rw]
        · by_cases z : i = k
          · subst z
            refine ⟨p, un, hp, hu, ?_, ?_, ?_, ?_⟩
            · rw [q_rw_o (by decide), q_rw_o (by decide), q_rw_o (by decide), ← hs1, q_rw_o (by decide), q_rw_o (by decide), q_rw]
            · rw [q_rw_o (by decide), q_rw_o (by decide), q_rw_o (by decide), ← hs1, q_rw_o (by decide), q_rw, hun]
            · rw [q_rw_o (by decide), q_rw_k (by omega), q_rw]
            · rw [q_rw_o (by decide), q_rw, hun]
          · rw [e 31 i (by omega) (by omega) (by omega) (by omega) (by omega), e 32 i (by omega) (by omega) (by omega) (by omega) (by omega), e 49 (2 * i) (by omega) (by omega) (by omega) (by omega) (by omega), e 49 (2 * i + 1) (by omega) (by omega) (by omega) (by omega) (by omega)]
            exact k4 i (by omega)
    · refine bth_still (r := -3) ?_ ?_ hI0
      · rw [e_G_row, t_isOne (Or.inl rfl) i3.1 i1 hp, sm_some, n10]
        rcases in01 (w := u) with z | ⟨z, z2⟩ | z | z
        · rw [if_pos z]
        · rw [if_neg z, if_neg (lt_le1 z2)]
        · exact absurd (Or.inl z) hw
        · exact absurd (Or.inr z) hw
      · rw [e_M_row, m_isOne i4.1 i1 hp, sm_some, n10, m_in01, sm_some, decide_eq_false hw, bf0]
  · refine bth_still (r := -2) ?_ ?_ hI0
    · rw [e_G_row, t_isOne_out (Or.inl rfl) i3.1 i1 hx, sm_some, n00]
    · rw [e_M_row, m_isOne_out i4.1 i1 hx, sm_some, n00]
end INVS
