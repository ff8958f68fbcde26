/-! the reference's line of positions -/
def FM (s s2 : qMem) : Prop := (∀ o k, ¬ (50 ≤ o ∧ o ≤ 54) → ¬ (o = 40 ∧ k = 28) → s2.1 o k = s.1 o k) ∧ s2.2 = s.2
theorem FM.rf {s : qMem} : FM s s := ⟨fun _ _ _ _ => rfl, rfl⟩
theorem FM.tr {s s2 s3 : qMem} (h : FM s s2) (h2 : FM s2 s3) : FM s s3 := ⟨fun o k q q2 => (h2.1 o k q q2).trans (h.1 o k q q2), h2.2.trans h.2⟩
theorem FM.w {s s2 : qMem} {o k : Nat} {v : Int32} (h : FM s s2) (ho : 50 ≤ o ∧ o ≤ 54) : FM s (qW s2 o k v) := ⟨fun a b q q2 => by rw [q_rw_o (fun e => q (by rw [e]; exact ho))]; exact h.1 a b q q2, h.2⟩
theorem FM.w2 {s s2 : qMem} {v : Int32} (h : FM s s2) : FM s (qW s2 40 28 v) := ⟨fun a b q q2 => by
  rw [q_rw_if, if_neg q2]
  exact h.1 a b q q2, h.2⟩
theorem FM.RM {s s2 : qMem} {c : Co} (h : FM s s2) (hR : RM s c) : RM s2 c := by
  obtain ⟨h1, h2, h3, ⟨m, m1, m2, m3⟩, h4⟩ := hR
  refine ⟨by rw [h.1 _ _ (by omega) (by omega)]; exact h1, by rw [h.1 _ _ (by omega) (by omega)]; exact h2, fun i hi => by rw [h.1 _ _ (by omega) (by omega)]; exact h3 i hi, ⟨m, m1, by rw [h.1 _ _ (by omega) (by omega)]; exact m2, m3⟩, fun p hp j hj => by rw [h.1 _ _ (by omega) (by omega)]; exact h4 p hp j hj⟩
theorem FM.RC {s s2 : qMem} {M : Nat → Bool} (h : FM s s2) (hR : RC s M) : RC s2 M := by
  obtain ⟨m, m1, m2, m3⟩ := hR
  exact ⟨m, m1, by rw [h.1 _ _ (by omega) (by omega)]; exact m2, m3⟩
theorem FM.RL {s s2 : qMem} {r n : Nat} {lv : Nat → Nat} (h : FM s s2) (hr : ¬ (50 ≤ r ∧ r ≤ 54)) (hr2 : r ≠ 40) (hL : RL s r n lv) : RL s2 r n lv := fun p hp => by rw [h.1 r p hr (by omega)]; exact hL p hp
/-- the line holds what was found -/
def RN (s : qMem) (b : Bf) : Prop := s.1 40 28 = nI (bN b) ∧ (∀ i, i < bN b → s.1 51 i = nI (bF b i)) ∧ (∀ k, k < 3125 → s.1 50 k = oI (bD b k)) ∧ ∀ i, i < bN b → i ≠ 0 → s.1 52 (bF b i) = nI (bP b (bF b i)) ∧ s.1 53 (bF b i) = nI (bM b (bF b i))
theorem dI_pred (n : Nat) : nI n - 1 = dI n := by
  cases n with
  | zero => rfl
  | succ k => exact (pk_sub (a := k + 1) (b := 1) (by omega)).trans (by rw [Nat.add_sub_cancel]; rfl)
theorem dI_pred2 (n : Nat) : nI n + (-1) = dI n := by
  rw [← dI_pred, Int32.sub_eq_add_neg]
theorem dI_neg {j : Nat} (h : j < 2 ^ 31) : dI j < 0 ↔ j = 0 := by
  cases j with
  | zero => exact ⟨fun _ => rfl, fun _ => by decide⟩
  | succ k => exact ⟨fun q => absurd q (nI_pos (by omega)), fun q => by omega⟩
theorem bAdd_keep {b : Bf} {ok : Bool} {to fr dd mv k e : Nat} (h : bD b k = some e) : bD (bAdd b ok to fr dd mv) k = some e := by
  cases hok : (ok && (bD b to).isNone) with
  | false => rw [bAdd_no hok]; exact h
  | true =>
    rw [bAdd_yes hok]
    rw [Bool.and_eq_true] at hok
    have hD : bD b to = none := Option.isNone_iff_eq_none.mp hok.2
    show fUpd (bD b) to (some dd) k = some e
    rw [fUpd_n (fun z => by rw [z, hD] at h; cases h)]
    exact h
section MLINE
variable {d w : Nat} {s : qMem} {c : Co} {M : Nat → Bool} {lv : Nat → Nat}
theorem m_code1 (hw : w = 45 ∨ w = 54) (hn : cN c ≤ 5) (hL : RL s w (cN c) lv) : ∀ j, j ≤ cN c → l_M_codeOf_1 d w (nI (cVal lv j (cN c - j))) (dI j) s = some (nI (cVal lv 0 (cN c)), s) := by
  intro j
  induction j with
  | zero =>
    intro _
    rw [el_M_codeOf_1 _ _ _ _ hw, if_pos ((dI_neg (by omega)).mpr rfl), Nat.sub_zero]
  | succ j ih =>
    intro hj
    have h := ih (by omega)
    rw [el_M_codeOf_1 _ _ _ _ hw, if_neg (by rw [dI_neg (by omega)]; omega), dI_s, if_pos (qIn_n (by omega) (by omega)), nI_cl (by omega), hL j (by omega), dI_pred2]
    rw [show cN c - j = (cN c - (j + 1)) + 1 from by omega, cVal] at h
    rw [← nI_add, ← pk_mul, Int32.add_comm] at h
    exact h
theorem m_code (hw : w = 45 ∨ w = 54) (hn : cN c ≤ 5) (hL : RL s w (cN c) lv) (h3 : s.1 40 3 = nI (cN c)) : m_M_codeOf (d + 1) w s = some (nI (cVal lv 0 (cN c)), s) := by
  rw [e_M_codeOf _ _ hw, h3, dI_pred]
  have h := m_code1 (d := d) hw hn hL (cN c) (Nat.le_refl _)
  rw [Nat.sub_self] at h
  exact h
theorem m_place1 {n : Nat} (hn : n ≤ 5) : ∀ (q k cur : Nat) (s : qMem), k + q = n → s.1 40 3 = nI n → cur < 2 ^ 31 → ∃ s2, l_M_place_1 d (nI cur) (nI k) s = some s2 ∧ (∀ o j, o ≠ 54 → s2.1 o j = s.1 o j) ∧ s2.2 = s.2 ∧ (∀ j, j < k → s2.1 54 j = s.1 54 j) ∧ ∀ j, j < q → s2.1 54 (k + j) = nI (cur / 5 ^ j % 5) := by
  intro q
  induction q with
  | zero =>
    intro k cur s hk h3 hc
    refine ⟨s, ?_, fun _ _ _ => rfl, rfl, fun _ _ => rfl, fun j hj => by omega⟩
    rw [el_M_place_1, h3]
    simp (disch := omega) only [sm_some, q_lit, q_neg1, nI_leI, nI_ltI, nI_eq, nI_cl, qIn_iff, nI_d0, d0_nI, dI_d0, dI_le, dI_eq, dI_n1, nI_1, nI_add, pk_mul, pk_div, nI_lt0, if_pos, if_neg, if_true, if_false]
  | succ q ih =>
    intro k cur s hk h3 hc
    obtain ⟨s2, h1, h2, h3b, h4, h5⟩ := ih (k + 1) (cur / 5) (qW s 54 k (nI (cur % 5))) (by omega) (by rw [q_rw_o (by decide)]; exact h3) (by omega)
    refine ⟨s2, ?_, fun o j ho => ?_, h3b, fun j hj => ?_, fun j hj => ?_⟩
    · rw [el_M_place_1, h3]
      have e : nI cur - nI cur / nI 5 * nI 5 = nI (cur % 5) := pk_rem hc (by omega) (by omega)
      have e2 : nI cur / nI 5 = nI (cur / 5) := pk_div hc (by omega) (by omega)
      simp (disch := omega) only [q_lit, e]
      simp (disch := omega) only [sm_some, q_lit, q_neg1, nI_leI, nI_ltI, nI_eq, nI_cl, qIn_iff, nI_d0, d0_nI, dI_d0, dI_le, dI_eq, dI_n1, nI_1, nI_add, pk_mul, pk_div, nI_lt0, if_pos, if_neg, if_true, if_false]
      exact h1
    · rw [h2 o j ho, q_rw_o ho]
    · rw [h4 j (by omega), q_rw_k (by omega)]
    · cases j with
      | zero =>
        rw [Nat.add_zero, h4 k (by omega), q_rw, Nat.pow_zero, Nat.div_one]
      | succ j =>
        rw [show k + (j + 1) = k + 1 + j from by omega, h5 j (by omega), Nat.div_div_eq_div_mul, Nat.pow_succ, Nat.mul_comm]
theorem m_place {cur n : Nat} (hn : n ≤ 5) (h3 : s.1 40 3 = nI n) (h : cur < 2 ^ 31) : ∃ s2, m_M_place (d + 1) (nI cur) s = some s2 ∧ (∀ o j, o ≠ 54 → s2.1 o j = s.1 o j) ∧ s2.2 = s.2 ∧ RL s2 54 n (cDig cur) := by
  obtain ⟨s2, h1, h2, h3, h4, h5⟩ := m_place1 (d := d) hn n 0 cur s (by omega) h3 h
  refine ⟨s2, ?_, h2, h3, fun j hj => ?_⟩
  · rw [e_M_place]
    exact h1
  · have := h5 j hj
    rw [Nat.zero_add] at this
    exact this
theorem RN_o {s s2 : qMem} {b : Bf} (h : ∀ o j, o ≠ 54 → s2.1 o j = s.1 o j) (hS : RN s b) : RN s2 b := by
  obtain ⟨a1, a2, a3, a4⟩ := hS
  exact ⟨by rw [h _ _ (by decide)]; exact a1, fun j hj => by rw [h _ _ (by decide)]; exact a2 j hj, fun k hk => by rw [h _ _ (by decide)]; exact a3 k hk, fun j hj hj0 => by rw [h _ _ (by decide), h _ _ (by decide)]; exact a4 j hj hj0⟩
theorem RN_add {n : Nat} {b : Bf} {to fr dd mv : Nat} {s : qMem} (hO : bOk c n b) (hS : RN s b) (hD : bD b to = none) : RN (qW (qW (qW (qW (qW s 50 to (nI dd)) 52 to (nI fr)) 53 to (nI mv)) 51 (bN b) (nI to)) 40 28 (nI (bN b + 1))) (bAdd b true to fr dd mv) := by
  obtain ⟨h1, h2, h3, h4⟩ := hS
  obtain ⟨o1, o2, o3, o4⟩ := hO
  have ne : ∀ i, i < bN b → bF b i ≠ to := fun i hi y => by
    have := (o3 to).mpr ⟨i, hi, y⟩
    rw [hD] at this
    cases this
  rw [bAdd_yes (by rw [hD]; rfl)]
  refine ⟨?_, fun i hi => ?_, fun k hk => ?_, fun i hi hi0 => ?_⟩
  · rw [q_rw]
    rfl
  · have hi2 : i < bN b + 1 := hi
    rw [q_rw_o (by decide)]
    show _ = nI (fUpd (bF b) (bN b) to i)
    by_cases z : i = bN b
    · subst z
      rw [fUpd_s, q_rw]
    · rw [fUpd_n z, q_rw_k z, q_rw_o (by decide), q_rw_o (by decide), q_rw_o (by decide)]
      exact h2 i (by omega)
  · rw [q_rw_o (by decide), q_rw_o (by decide), q_rw_o (by decide), q_rw_o (by decide)]
    show _ = oI (fUpd (bD b) to (some dd) k)
    by_cases z : k = to
    · subst z
      rw [fUpd_s, q_rw]
      rfl
    · rw [fUpd_n z, q_rw_k z]
      exact h3 k hk
  · have hi2 : i < bN b + 1 := hi
    show (qW (qW (qW (qW (qW s 50 to (nI dd)) 52 to (nI fr)) 53 to (nI mv)) 51 (bN b) (nI to)) 40 28 (nI (bN b + 1))).1 52 (fUpd (bF b) (bN b) to i) = nI (fUpd (bP b) to fr (fUpd (bF b) (bN b) to i)) ∧ (qW (qW (qW (qW (qW s 50 to (nI dd)) 52 to (nI fr)) 53 to (nI mv)) 51 (bN b) (nI to)) 40 28 (nI (bN b + 1))).1 53 (fUpd (bF b) (bN b) to i) = nI (fUpd (bM b) to mv (fUpd (bF b) (bN b) to i))
    by_cases z : i = bN b
    · subst z
      rw [fUpd_s, fUpd_s, fUpd_s]
      exact ⟨by rw [q_rw_o (by decide), q_rw_o (by decide), q_rw_o (by decide), q_rw], by rw [q_rw_o (by decide), q_rw_o (by decide), q_rw]⟩
    · rw [fUpd_n z, fUpd_n (ne i (by omega)), fUpd_n (ne i (by omega))]
      have := h4 i (by omega) hi0
      exact ⟨by rw [q_rw_o (by decide), q_rw_o (by decide), q_rw_o (by decide), q_rw_k (ne i (by omega)), q_rw_o (by decide)]; exact this.1, by rw [q_rw_o (by decide), q_rw_o (by decide), q_rw_k (ne i (by omega)), q_rw_o (by decide), q_rw_o (by decide)]; exact this.2⟩
end MLINE
