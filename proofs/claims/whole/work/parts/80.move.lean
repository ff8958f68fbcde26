/-! moves of both -/
def aH (o : Nat) (s : qMem) (j p : Nat) : qMem := match j with
  | 0 => s
  | q + 1 => qW s o (5 * q + p) (s.1 o (5 * q + p) + 1)
theorem aH_o {o a b j p : Nat} {s : qMem} (h : a ≠ o) : (aH o s j p).1 a b = s.1 a b := by
  cases j with
  | zero => rfl
  | succ q => exact q_rw_o h
theorem aH_same {s t : qMem} {j p : Nat} (h : ∀ i, i < 25 → s.1 24 i = t.1 46 i) (hj : j ≤ 5) (hp : p < 5) : ∀ i, i < 25 → (aH 24 s j p).1 24 i = (aH 46 t j p).1 46 i := by
  intro i hi
  cases j with
  | zero => exact h i hi
  | succ q =>
    show (qW s 24 (5 * q + p) (s.1 24 (5 * q + p) + 1)).1 24 i = (qW t 46 (5 * q + p) (t.1 46 (5 * q + p) + 1)).1 46 i
    by_cases z : i = 5 * q + p
    · rw [z, q_rw, q_rw, h _ (by omega)]
    · rw [q_rw_k z, q_rw_k z]
      exact h i hi
section MOVE
variable {d : Nat} {c : Co} {lv : Nat → Nat}
theorem j_pair {s : qMem} {a b : Nat} (ha : a < 5) (hb : b < 5) : m_J_isPair (d + 1) (nI a) (nI b) s = some (1, s) := by
  rw [e_J_isPair, if_neg (nI_pos (by omega)), if_neg (not_le5 ha), if_neg (nI_pos (by omega)), if_neg (not_le5 hb)]
theorem j_addHelp {s : qMem} {j p : Nat} (hj : j ≤ 5) (hp : p < 5) : m_J_addHelp (d + 2) (dI j) (nI p) s = some (aH 24 s j p) := by
  rw [e_J_addHelp]
  cases j with
  | zero =>
    rw [e_J_isPair, if_pos (by decide)]
    rfl
  | succ q =>
    have e : nI q * 5 + nI p = nI (5 * q + p) := by
      have h1 : nI q * 5 = nI (q * 5) := pk_mul q 5
      rw [h1, nI_add, Nat.mul_comm]
    have i25 : qIn (nI (5 * q + p)) 25 := qIn_n (by omega) (by omega)
    rw [dI_s, j_pair (by omega) hp, sm_some]
    dsimp only
    rw [if_neg (show ¬ (1 : Int32) = 0 from by decide), e, if_pos i25, if_pos i25, nI_cl (by omega)]
    rfl
theorem m_thank {s : qMem} {j p : Nat} (hj : j ≤ 5) (hp : p < 5) : m_M_thank (d + 1) (dI j) (nI p) s = some (aH 46 s j p) := by
  rw [e_M_thank]
  cases j with
  | zero => rw [if_pos (show dI 0 = -1 from rfl)]; rfl
  | succ q =>
    have e : 5 * nI q + nI p = nI (5 * q + p) := by
      have h1 : 5 * nI q = nI (5 * q) := pk_mul 5 q
      rw [h1, nI_add]
    have i25 : qIn (nI (5 * q + p)) 25 := qIn_n (by omega) (by omega)
    rw [dI_s, if_neg (nI_m1 (by omega)), e, if_pos i25, if_pos i25, nI_cl (by omega)]
    rfl
def mvG (s : qMem) (j k p v m : Nat) : qMem := qW (qW (qW (aH 24 (aH 24 s j p) k p) 23 p (nI v)) 22 1 (nI (m + 1))) 0 6 0
def mvM (s : qMem) (j k p v m : Nat) : qMem := aH 46 (aH 46 (qW (qW s 45 p (nI v)) 40 18 (nI (m + 1))) j p) k p
theorem mvG_o {s : qMem} {j k p v m a b : Nat} (h1 : a ≠ 24) (h2 : ¬ (a = 23 ∧ b = p)) (h3 : ¬ (a = 22 ∧ b = 1)) (h4 : ¬ (a = 0 ∧ b = 6)) : (mvG s j k p v m).1 a b = s.1 a b := by
  unfold mvG
  rw [q_rw_if, if_neg h4, q_rw_if, if_neg h3, q_rw_if, if_neg h2, aH_o h1, aH_o h1]
theorem mvM_o {s : qMem} {j k p v m a b : Nat} (h1 : a ≠ 46) (h2 : ¬ (a = 45 ∧ b = p)) (h3 : ¬ (a = 40 ∧ b = 18)) : (mvM s j k p v m).1 a b = s.1 a b := by
  unfold mvM
  rw [aH_o h1, aH_o h1, q_rw_if, if_neg h3, q_rw_if, if_neg h2]
theorem inv_moved {s : qMem} {j k p v m : Nat} (hI : INV s c lv) (hj : j ≤ 5) (hk : k ≤ 5) (hp : p < cN c) (hv : v ≤ cTop c) (hm : m + 1 ≤ 9999) : INV (mvM (mvG s j k p v m) j k p v m) c (lvUp lv p v) := by
  obtain ⟨i1, i2, i3, i4, i5, i6, i7, i8, i9⟩ := hI
  have h5 := i1.2.1
  have e : ∀ a b, a ≠ 24 → ¬ (a = 23 ∧ b = p) → ¬ (a = 22 ∧ b = 1) → ¬ (a = 0 ∧ b = 6) → a ≠ 46 → ¬ (a = 45 ∧ b = p) → ¬ (a = 40 ∧ b = 18) → (mvM (mvG s j k p v m) j k p v m).1 a b = s.1 a b := fun a b h1 h2 h3 h4 h5 h6 h7 => (mvM_o h5 h6 h7).trans (mvG_o h1 h2 h3 h4)
  have hl2 : lvOk c (lvUp lv p v) := fun q hq => by
    show (if q = p then v else lv q) ≤ cTop c
    have := i2 q hq
    split <;> omega
  refine ⟨i1, hl2, ?_, ?_, ⟨m + 1, hm, ?_, ?_⟩, ?_, S3_of (e _ _ (by omega) (by omega) (by omega) (by omega) (by omega) (by omega) (by omega)) (e _ _ (by omega) (by omega) (by omega) (by omega) (by omega) (by omega) (by omega)) (fun i => e _ _ (by omega) (by omega) (by omega) (by omega) (by omega) (by omega) (by omega)) (fun i => e _ _ (by omega) (by omega) (by omega) (by omega) (by omega) (by omega) (by omega)) (fun i => e _ _ (by omega) (by omega) (by omega) (by omega) (by omega) (by omega) (by omega)) i7, S4_of (e _ _ (by omega) (by omega) (by omega) (by omega) (by omega) (by omega) (by omega)) (e _ _ (by omega) (by omega) (by omega) (by omega) (by omega) (by omega) (by omega)) (fun i => e _ _ (by omega) (by omega) (by omega) (by omega) (by omega) (by omega) (by omega)) (fun i => e _ _ (by omega) (by omega) (by omega) (by omega) (by omega) (by omega) (by omega)) i8, S5_of (fun a ha i => e _ _ (by omega) (by omega) (by omega) (by omega) (by omega) (by omega) (by omega)) i9⟩
  · obtain ⟨⟨a1, a2, a3, a4⟩, b, ⟨n, n1, n2, f, n3, n4⟩, -⟩ := i3
    have e10 : ∀ o k2, ((1 ≤ o ∧ o ≤ 9) ∨ (26 ≤ o ∧ o ≤ 29)) → (mvM (mvG s j k p v m) j k p v m).1 o k2 = s.1 o k2 := fun o k2 h => e o k2 (by omega) (by omega) (by omega) (by omega) (by omega) (by omega) (by omega)
    refine ⟨⟨by rw [e10 _ _ (by omega)]; exact a1, by rw [e10 _ _ (by omega)]; exact a2, fun i hi => ?_, fun q hq => ?_⟩, fun q hq => ?_, ⟨n, n1, by rw [e10 _ _ (by omega)]; exact n2, f, fun i hi => ⟨(n3 i hi).1, by rw [e10 _ _ (by omega)]; exact (n3 i hi).2⟩, fun k2 hk2 => by rw [e10 _ _ (by omega)]; exact n4 k2 hk2⟩, Or.inl ?_⟩
    · rw [e10 _ _ (by omega), e10 _ _ (by omega)]
      exact a3 i hi
    · rw [e10 _ _ (by omega), e10 _ _ (by omega), e10 _ _ (by omega), e10 _ _ (by omega), e10 _ _ (by omega), e10 _ _ (by omega)]
      exact a4 q hq
    · rw [mvM_o (by omega) (by omega) (by omega)]
      unfold mvG
      rw [q_rw_o (by decide), q_rw_o (by decide)]
      show _ = nI (if q = p then v else lv q)
      by_cases z : q = p
      · rw [z, q_rw, if_pos rfl]
      · rw [q_rw_k z, if_neg z, aH_o (by decide), aH_o (by decide)]
        exact b q hq
    · rw [mvM_o (by omega) (by omega) (by omega)]
      exact q_rw
  · obtain ⟨⟨a1, a2, a3, ⟨mm, m1, m2, m3⟩, a5⟩, ⟨m4, m5, m6, m7⟩, b⟩ := i4
    have e10 : ∀ o k2, (o = 41 ∨ o = 42 ∨ (o = 40 ∧ k2 ≠ 18)) → (mvM (mvG s j k p v m) j k p v m).1 o k2 = s.1 o k2 := fun o k2 h => e o k2 (by omega) (by omega) (by omega) (by omega) (by omega) (by omega) (by omega)
    refine ⟨⟨by rw [e10 _ _ (by omega)]; exact a1, by rw [e10 _ _ (by omega)]; exact a2, fun i hi => by rw [e10 _ _ (by omega)]; exact a3 i hi, ⟨mm, m1, by rw [e10 _ _ (by omega)]; exact m2, m3⟩, fun q hq j2 hj2 => by rw [e10 _ _ (by omega)]; exact a5 q hq j2 hj2⟩, ⟨m4, m5, by rw [e10 _ _ (by omega)]; exact m6, m7⟩, fun q hq => ?_⟩
    unfold mvM
    rw [aH_o (by decide), aH_o (by decide), q_rw_o (by decide)]
    show _ = nI (if q = p then v else lv q)
    by_cases z : q = p
    · rw [z, q_rw, if_pos rfl]
    · rw [q_rw_k z, if_neg z, mvG_o (by decide) (by omega) (by omega) (by omega)]
      exact b q hq
  · rw [mvM_o (by decide) (by omega) (by omega)]
    unfold mvG
    rw [q_rw_o (by decide), q_rw]
  · unfold mvM
    rw [aH_o (by decide), aH_o (by decide), q_rw]
  · have t1 : ∀ i, i < 25 → s.1 24 i = (qW (qW (mvG s j k p v m) 45 p (nI v)) 40 18 (nI (m + 1))).1 46 i := fun i hi => by
      rw [q_rw_o (by decide), q_rw_o (by decide), mvG_o (by decide) (by omega) (by omega) (by omega)]
      exact i6 i hi
    intro i hi
    rw [mvM_o (a := 24) (by decide) (by omega) (by omega)]
    have e24 : (mvG s j k p v m).1 24 i = (aH 24 (aH 24 s j p) k p).1 24 i := by
      unfold mvG
      rw [q_rw_o (by decide), q_rw_o (by decide), q_rw_o (by decide)]
    rw [e24]
    exact aH_same (aH_same t1 hj (by omega)) hk (by omega) i hi
end MOVE
