/-! the reference's tokens -/
def FX (s s2 : qMem) : Prop := ∀ o j, ¬ (o = 40 ∧ (j = 7 ∨ j = 8 ∨ j = 10 ∨ j = 11)) → s2.1 o j = s.1 o j
theorem FX.rf {s : qMem} : FX s s := fun _ _ _ => rfl
theorem FX.tr {s s2 s3 : qMem} (h : FX s s2) (h2 : FX s2 s3) : FX s s3 := fun o k q => (h2 o k q).trans (h o k q)
theorem FX.w {s : qMem} {j : Nat} {v : Int32} (hj : j = 7 ∨ j = 8 ∨ j = 10 ∨ j = 11) : FX s (qW s 40 j v) := fun o k h => by
  rw [q_rw_if, if_neg (fun z => h ⟨z.1, by rw [z.2]; exact hj⟩)]
theorem FX.t {s : qMem} {x : Int64} : FX s (s.1, x) := fun _ _ _ => rfl
/-- letters as a number to the base 27 -/
def tN (B : Nat → Int32) (q : Nat) : Nat → Nat
  | 0 => 0
  | m + 1 => 27 * tN B q m + lC (B (q + m))
def foldM (B : Nat → Int32) : Nat → Nat → Nat → Int32 → Int32
  | _, 0, _, a => a
  | p, m + 1, k, a => bif isD (B p) then foldM B (p + 1) m (k + 1) (if 2 ≤ k then a else 10 * a + B p - 48) else a
section TOKEN
variable {d n : Nat}
theorem m_inL {s : qMem} {x : Int32} : m_M_in (d + 1) x 97 122 s = some (b2i (isL x), s) := by
  rw [e_M_in]
  unfold isL
  by_cases z : x < 97
  · rw [if_pos z, decide_eq_false (fun y => y z)]
    rfl
  · rw [if_neg z, decide_eq_true z]
    by_cases y : 122 < x
    · rw [if_pos y, decide_eq_false (fun w => w y)]
      rfl
    · rw [if_neg y, decide_eq_true y]
      rfl
theorem m_inD {s : qMem} {x : Int32} : m_M_in (d + 1) x 48 57 s = some (b2i (isD x), s) := by
  rw [e_M_in]
  unfold isD
  by_cases z : x < 48
  · rw [if_pos z, decide_eq_false (fun y => y z)]
    rfl
  · rw [if_neg z, decide_eq_true z]
    by_cases y : 57 < x
    · rw [if_pos y, decide_eq_false (fun w => w y)]
      rfl
    · rw [if_neg y, decide_eq_true y]
      rfl
theorem tN_step {x : Int32} {t : Nat} (h : isL x = true) : (27 * lN t + x.toInt64 - 96 : Int64) = lN (27 * t + lC x) := by
  obtain ⟨h1, h2, h3⟩ := lC_of h
  have e1 : (27 : Int64) * lN t = lN (27 * t) := lN_mul 27 t
  have e2 : x.toInt64 = lN (lC x + 96) := by
    conv => lhs; rw [h1]
    exact nI_l (by omega)
  rw [e1, e2, lN_add]
  have e3 : lN (27 * t + (lC x + 96)) - 96 = lN (27 * t + (lC x + 96) - 96) := lN_sub (b := 96) (by omega)
  rw [e3]
  exact congrArg lN (by omega)
theorem m_tok2 (hn : n ≤ 200) {q : Nat} : ∀ (m p : Nat) (s : qMem), p + m = n → q ≤ p → s.1 40 5 = nI n → s.1 40 7 = nI p → s.1 40 8 = nI q → (p - q ≤ 9 → s.2 = lN (tN (s.1 43) q (p - q))) → ∃ s2, l_M_nextToken_2 (d + 1) s = some s2 ∧ FX s s2 ∧ s2.1 40 8 = nI q ∧ s2.1 40 7 = nI (run isL (s.1 43) p m) ∧ s2.2 = if run isL (s.1 43) p m - q ≤ 9 then lN (tN (s.1 43) q (run isL (s.1 43) p m - q)) else -4 := by
  have h9 : ∀ k, k ≤ 200 → ((nI k ≤ (9 : Int32)) ↔ k ≤ 9) := fun k hk => by
    show nI k ≤ nI 9 ↔ _
    rw [nI_leI (by omega) (by omega)]
  have fin : ∀ (p : Nat) (s : qMem), p ≤ n → q ≤ p → s.1 40 7 = nI p → s.1 40 8 = nI q → (p - q ≤ 9 → s.2 = lN (tN (s.1 43) q (p - q))) → ∃ s2, (if ((s.1 40 7) - (s.1 40 8)) ≤ 9 then some (s.1, s.2) else some (s.1, (-4 : Int64))) = some s2 ∧ FX s s2 ∧ s2.1 40 8 = nI q ∧ s2.1 40 7 = nI p ∧ s2.2 = if p - q ≤ 9 then lN (tN (s.1 43) q (p - q)) else -4 := by
    intro p s hp hq h7 h8 ht
    rw [h7, h8, pk_sub hq]
    by_cases z : p - q ≤ 9
    · rw [if_pos ((h9 _ (by omega)).mpr z), if_pos z]
      exact ⟨_, rfl, FX.rf, h8, h7, ht z⟩
    · rw [if_neg (fun y => z ((h9 _ (by omega)).mp y)), if_neg z]
      exact ⟨_, rfl, FX.t, h8, h7, rfl⟩
  intro m
  induction m with
  | zero =>
    intro p s hp hq h5 h7 h8 ht
    rw [el_M_nextToken_2, h5, if_pos (by rw [h7]; exact nI_le (by omega) (by omega)), run]
    exact fin p s (by omega) hq h7 h8 ht
  | succ m ih =>
    intro p s hp hq h5 h7 h8 ht
    have hin : qIn (nI p) 200 := qIn_n (by omega) (by omega)
    rw [el_M_nextToken_2, if_neg (by rw [h5, h7, nI_leI (by omega) (by omega)]; omega), if_pos (by rw [h7]; exact hin), m_inL, sm_some]
    dsimp only
    have ec : (s.1 40 7).toNatClampNeg = p := by rw [h7]; exact nI_cl (by omega)
    rw [ec]
    cases hf : isL (s.1 43 p) with
    | false =>
      rw [bf0, run_stop hf]
      exact fin p s (by omega) hq h7 h8 ht
    | true =>
      rw [bt0, run_step hf]
      have e9 : (9 : Int32) ≤ nI (p - q) ↔ 9 ≤ p - q := by
        show nI 9 ≤ nI (p - q) ↔ _
        rw [nI_leI (by omega) (by omega)]
      by_cases z : 9 ≤ p - q
      · obtain ⟨s2, g1, g2, g3, g4, g5⟩ := ih (p + 1) (qW (s.1, -4) 40 7 (nI (p + 1))) (by omega) (by omega) (by rw [q_rw_k (by decide)]; exact h5) q_rw (by rw [q_rw_k (by decide)]; exact h8) (fun y => absurd y (by omega))
        have e43 : (qW (s.1, (-4 : Int64)) 40 7 (nI (p + 1))).1 43 = s.1 43 := funext (fun j => q_rw_o (by decide))
        rw [e43] at g4 g5
        refine ⟨s2, ?_, (FX.t.tr (FX.w (Or.inl rfl))).tr g2, g3, g4, g5⟩
        rw [if_pos (by rw [h7, h8, pk_sub hq]; exact e9.mpr z), h7, nI_1]
        exact g1
      · have hs := ht (by omega)
        have e27 : (27 * s.2 + (s.1 43 p).toInt64 - 96 : Int64) = lN (tN (s.1 43) q (p + 1 - q)) := by
          rw [hs, tN_step hf, show p + 1 - q = (p - q) + 1 from by omega, tN, show q + (p - q) = p from by omega]
        have e43 : (qW (s.1, lN (tN (s.1 43) q (p + 1 - q))) 40 7 (nI (p + 1))).1 43 = s.1 43 := funext (fun j => q_rw_o (by decide))
        obtain ⟨s2, g1, g2, g3, g4, g5⟩ := ih (p + 1) (qW (s.1, lN (tN (s.1 43) q (p + 1 - q))) 40 7 (nI (p + 1))) (by omega) (by omega) (by rw [q_rw_k (by decide)]; exact h5) q_rw (by rw [q_rw_k (by decide)]; exact h8) (fun y => by rw [e43]; rfl)
        rw [e43] at g4 g5
        refine ⟨s2, ?_, (FX.t.tr (FX.w (Or.inl rfl))).tr g2, g3, g4, g5⟩
        rw [if_neg (by rw [h7, h8, pk_sub hq]; exact fun y => z (e9.mp y)), if_pos (by rw [h7]; exact hin), e27, h7, nI_1]
        exact g1
theorem m_tok3 (hn : n ≤ 200) : ∀ (m p k : Nat) (s : qMem), p + m = n → k ≤ p → s.1 40 5 = nI n → s.1 40 7 = nI p → s.1 40 10 = nI k → ∃ s2, l_M_nextToken_3 (d + 1) s = some s2 ∧ FX s s2 ∧ s2.1 40 8 = s.1 40 8 ∧ s2.1 40 7 = nI (run isD (s.1 43) p m) ∧ s2.1 40 11 = foldM (s.1 43) p m k (s.1 40 11) ∧ s2.2 = if k + (run isD (s.1 43) p m - p) ≤ 2 then -1 else -4 := by
  have h2 : ∀ k, k ≤ 200 → ((nI k ≤ (2 : Int32)) ↔ k ≤ 2) := fun k hk => by
    show nI k ≤ nI 2 ↔ _
    rw [nI_leI (by omega) (by omega)]
  have fin : ∀ (p k : Nat) (s : qMem), k ≤ 200 → s.1 40 7 = nI p → s.1 40 10 = nI k → ∃ s2, (if (s.1 40 10) ≤ 2 then some (s.1, (-1 : Int64)) else some (s.1, (-4 : Int64))) = some s2 ∧ FX s s2 ∧ s2.1 40 8 = s.1 40 8 ∧ s2.1 40 7 = nI p ∧ s2.1 40 11 = s.1 40 11 ∧ s2.2 = if k + (p - p) ≤ 2 then -1 else -4 := by
    intro p k s hk h7 h10
    rw [h10, Nat.sub_self, Nat.add_zero]
    by_cases z : k ≤ 2
    · rw [if_pos ((h2 _ (by omega)).mpr z), if_pos z]
      exact ⟨_, rfl, FX.t, rfl, h7, rfl, rfl⟩
    · rw [if_neg (fun y => z ((h2 _ (by omega)).mp y)), if_neg z]
      exact ⟨_, rfl, FX.t, rfl, h7, rfl, rfl⟩
  intro m
  induction m with
  | zero =>
    intro p k s hp hk h5 h7 h10
    rw [el_M_nextToken_3, h5, if_pos (by rw [h7]; exact nI_le (by omega) (by omega)), run, foldM]
    exact fin p k s (by omega) h7 h10
  | succ m ih =>
    intro p k s hp hk h5 h7 h10
    have hin : qIn (nI p) 200 := qIn_n (by omega) (by omega)
    rw [el_M_nextToken_3, if_neg (by rw [h5, h7, nI_leI (by omega) (by omega)]; omega), if_pos (by rw [h7]; exact hin), m_inD, sm_some]
    dsimp only
    have ec : (s.1 40 7).toNatClampNeg = p := by rw [h7]; exact nI_cl (by omega)
    rw [ec]
    cases hf : isD (s.1 43 p) with
    | false =>
      rw [bf0, run_stop hf, foldM, hf]
      exact fin p k s (by omega) h7 h10
    | true =>
      have hr := run_le (f := isD) (B := s.1 43) m (p + 1)
      rw [bt0, run_step hf, foldM, hf]
      have key : ∀ v : Int32, ∃ s2, l_M_nextToken_3 (d + 1) (qW (qW (qW s 40 11 v) 40 10 ((s.1 40 10) + 1)) 40 7 ((s.1 40 7) + 1)) = some s2 ∧ FX s s2 ∧ s2.1 40 8 = s.1 40 8 ∧ s2.1 40 7 = nI (run isD (s.1 43) (p + 1) m) ∧ s2.1 40 11 = foldM (s.1 43) (p + 1) m (k + 1) v ∧ s2.2 = if k + (run isD (s.1 43) (p + 1) m - p) ≤ 2 then -1 else -4 := by
        intro v
        rw [h7, h10, nI_1, nI_1]
        have e43 : (qW (qW (qW s 40 11 v) 40 10 (nI (k + 1))) 40 7 (nI (p + 1))).1 43 = s.1 43 := funext (fun j => by rw [q_rw_o (by decide), q_rw_o (by decide), q_rw_o (by decide)])
        obtain ⟨s2, g1, g2, g3, g4, g5, g6⟩ := ih (p + 1) (k + 1) (qW (qW (qW s 40 11 v) 40 10 (nI (k + 1))) 40 7 (nI (p + 1))) (by omega) (by omega) (by rw [q_rw_k (by decide), q_rw_k (by decide), q_rw_k (by decide)]; exact h5) q_rw (by rw [q_rw_k (by decide), q_rw])
        rw [e43] at g4 g5 g6
        refine ⟨s2, g1, ((FX.w (by omega)).tr ((FX.w (by omega)).tr (FX.w (by omega)))).tr g2, ?_, g4, ?_, ?_⟩
        · rw [g3, q_rw_k (by decide), q_rw_k (by decide), q_rw_k (by decide)]
        · rw [g5, q_rw_k (by decide), q_rw_k (by decide), q_rw]
        · rw [g6, show k + 1 + (run isD (s.1 43) (p + 1) m - (p + 1)) = k + (run isD (s.1 43) (p + 1) m - p) from by omega]
      have e2 : (2 : Int32) ≤ s.1 40 10 ↔ 2 ≤ k := by
        rw [h10]
        show nI 2 ≤ nI k ↔ _
        rw [nI_leI (by omega) (by omega)]
      show ∃ s2, (if 2 ≤ s.1 40 10 then _ else _) = some s2 ∧ _
      by_cases z : 2 ≤ k
      · rw [if_pos (e2.mpr z), if_pos z]
        exact key _
      · rw [if_neg (fun y => z (e2.mp y)), if_neg z, if_pos (by rw [h7]; exact hin)]
        exact key _
/-- what the next token is, read from p on -/
def tokAt (B : Nat → Int32) (n p : Nat) (s s2 : qMem) : Prop :=
  FX s s2 ∧ s2.1 40 8 = nI p ∧
  ((p = n ∧ s2.2 = -2 ∧ s2.1 40 7 = nI n) ∨
   (p < n ∧ isL (B p) = true ∧ s2.1 40 7 = nI (run isL B p (n - p)) ∧ s2.2 = if run isL B p (n - p) - p ≤ 9 then lN (tN B p (run isL B p (n - p) - p)) else -4) ∨
   (p < n ∧ isL (B p) = false ∧ isD (B p) = true ∧ s2.1 40 7 = nI (run isD B p (n - p)) ∧ s2.1 40 11 = foldM B p (n - p) 0 0 ∧ s2.2 = if run isD B p (n - p) - p ≤ 2 then -1 else -4) ∨
   (p < n ∧ isL (B p) = false ∧ isD (B p) = false ∧ s2.1 40 7 = nI (p + 1) ∧ s2.2 = if B p = 59 then -3 else -4))
theorem m_tok0 (hn : n ≤ 200) {p : Nat} {s : qMem} (hp : p ≤ n) (h5 : s.1 40 5 = nI n) (h7 : s.1 40 7 = nI p) : ∃ s2, (if ((s).1 40 7) = ((s).1 40 5) then some (((qW (qW (qW s 40 8 ((s).1 40 7)) 40 10 0) 40 11 0)).1, (-2 : Int64)) else (if qIn ((s).1 40 7) 200 then ((m_M_in (d + 1) ((s).1 43 (((s).1 40 7)).toNatClampNeg) 97 122 (qW (qW (qW s 40 8 ((s).1 40 7)) 40 10 0) 40 11 0)).bind (fun q1 => (if q1.1 = 0 then (if qIn ((q1.2).1 40 7) 200 then ((m_M_in (d + 1) ((q1.2).1 43 (((q1.2).1 40 7)).toNatClampNeg) 48 57 q1.2).bind (fun q2 => (if q2.1 = 0 then (if qIn ((q2.2).1 40 7) 200 then (if ((q2.2).1 43 (((q2.2).1 40 7)).toNatClampNeg) = 59 then some (qW ((q2.2).1, (-3 : Int64)) 40 7 (((q2.2).1 40 7) + 1)) else some (qW ((q2.2).1, (-4 : Int64)) 40 7 (((q2.2).1 40 7) + 1))) else none) else (l_M_nextToken_3 (d + 1) q2.2)))) else none) else (l_M_nextToken_2 (d + 1) ((q1.2).1, 0))))) else none)) = some s2 ∧ tokAt (s.1 43) n p s s2 := by
  by_cases z : p = n
  · subst z
    rw [if_pos (by rw [h5, h7])]
    refine ⟨_, rfl, ?_, ?_, Or.inl ⟨rfl, rfl, ?_⟩⟩
    · exact (((FX.w (by omega)).tr (FX.w (by omega))).tr (FX.w (by omega))).tr FX.t
    · have e8 : (qW (qW (qW s 40 8 (s.1 40 7)) 40 10 0) 40 11 0).1 40 8 = s.1 40 7 := by rw [q_rw_k (by decide), q_rw_k (by decide), q_rw]
      exact e8.trans h7
    · have e7 : (qW (qW (qW s 40 8 (s.1 40 7)) 40 10 0) 40 11 0).1 40 7 = s.1 40 7 := by rw [q_rw_k (by decide), q_rw_k (by decide), q_rw_k (by decide)]
      exact e7.trans h7
  · have hin : qIn (nI p) 200 := qIn_n (by omega) (by omega)
    have ec : (nI p).toNatClampNeg = p := nI_cl (by omega)
    rw [if_neg (by rw [h5, h7, nI_eq (by omega) (by omega)]; exact z), h7, if_pos hin, ec, m_inL, sm_some]
    dsimp only
    generalize hs0 : qW (qW (qW s 40 8 (nI p)) 40 10 0) 40 11 0 = s0
    have F0 : FX s s0 := by
      rw [← hs0]
      exact ((FX.w (by omega)).tr (FX.w (by omega))).tr (FX.w (by omega))
    have a7 : s0.1 40 7 = nI p := by rw [← hs0, q_rw_k (by decide), q_rw_k (by decide), q_rw_k (by decide), h7]
    have a8 : s0.1 40 8 = nI p := by rw [← hs0, q_rw_k (by decide), q_rw_k (by decide), q_rw]
    have a10 : s0.1 40 10 = nI 0 := by rw [← hs0, q_rw_k (by decide), q_rw]; rfl
    have a11 : s0.1 40 11 = 0 := by rw [← hs0, q_rw]
    have a5 : s0.1 40 5 = nI n := by rw [F0 _ _ (by omega)]; exact h5
    have e43 : s0.1 43 = s.1 43 := funext (fun j => F0 _ _ (by omega))
    cases hL : isL (s.1 43 p) with
    | true =>
      rw [bt0]
      obtain ⟨s2, g1, g2, g3, g4, g5⟩ := m_tok2 (d := d) hn (q := p) (n - p) p (s0.1, 0) (by omega) (Nat.le_refl _) a5 a7 a8 (fun _ => by rw [Nat.sub_self]; rfl)
      rw [show (s0.1, (0 : Int64)).1 43 = s.1 43 from e43] at g4 g5
      exact ⟨s2, g1, (F0.tr FX.t).tr g2, g3, Or.inr (Or.inl ⟨by omega, hL, g4, g5⟩)⟩
    | false =>
      rw [bf0, a7, if_pos hin, ec, e43, m_inD, sm_some]
      dsimp only
      cases hD : isD (s.1 43 p) with
      | true =>
        rw [bt0]
        obtain ⟨s2, g1, g2, g3, g4, g5, g6⟩ := m_tok3 (d := d) hn (n - p) p 0 s0 (by omega) (by omega) a5 a7 a10
        rw [e43] at g4 g5 g6
        rw [a11] at g5
        rw [Nat.zero_add] at g6
        exact ⟨s2, g1, F0.tr g2, by rw [g3]; exact a8, Or.inr (Or.inr (Or.inl ⟨by omega, hL, hD, g4, g5, g6⟩))⟩
      | false =>
        rw [bf0, a7, if_pos hin, ec, e43, nI_1]
        have fin : ∀ x : Int64, tokAt (s.1 43) n p s (qW (s0.1, if s.1 43 p = 59 then (-3 : Int64) else -4) 40 7 (nI (p + 1))) := fun _ => ⟨(F0.tr FX.t).tr (FX.w (by omega)), by rw [q_rw_k (by decide)]; exact a8, Or.inr (Or.inr (Or.inr ⟨by omega, hL, hD, q_rw, rfl⟩))⟩
        by_cases y : s.1 43 p = 59
        · rw [if_pos y]
          have := fin 0
          rw [if_pos y] at this
          exact ⟨_, rfl, this⟩
        · rw [if_neg y]
          have := fin 0
          rw [if_neg y] at this
          exact ⟨_, rfl, this⟩
theorem tokAt_of {B : Nat → Int32} {p : Nat} {s s1 s2 : qMem} (h : FX s s1) (h2 : tokAt B n p s1 s2) : tokAt B n p s s2 := ⟨h.tr h2.1, h2.2⟩
theorem m_tok1 (hn : n ≤ 200) : ∀ (m p : Nat) (s : qMem), p + m = n → s.1 40 5 = nI n → s.1 40 7 = nI p → ∃ s2, l_M_nextToken_1 (d + 1) s = some s2 ∧ tokAt (s.1 43) n (run isB (s.1 43) p m) s s2 := by
  intro m
  induction m with
  | zero =>
    intro p s hp h5 h7
    rw [el_M_nextToken_1, if_pos (by rw [h5, h7]; exact nI_le (by omega) (by omega)), run]
    exact m_tok0 hn (by omega) h5 h7
  | succ m ih =>
    intro p s hp h5 h7
    have hin : qIn (nI p) 200 := qIn_n (by omega) (by omega)
    have ec : (s.1 40 7).toNatClampNeg = p := by rw [h7]; exact nI_cl (by omega)
    rw [el_M_nextToken_1, if_neg (by rw [h5, h7, nI_leI (by omega) (by omega)]; omega), if_pos (by rw [h7]; exact hin)]
    by_cases z : s.1 43 p = 32
    · have hB : isB (s.1 43 p) = true := decide_eq_true z
      rw [if_pos (by rw [ec]; exact z), h7, nI_1, run_step hB]
      have e43 : (qW s 40 7 (nI (p + 1))).1 43 = s.1 43 := funext (fun j => q_rw_o (by decide))
      obtain ⟨s2, g1, g2⟩ := ih (p + 1) (qW s 40 7 (nI (p + 1))) (by omega) (by rw [q_rw_k (by decide)]; exact h5) q_rw
      rw [e43] at g2
      exact ⟨s2, g1, tokAt_of (FX.w (by omega)) g2⟩
    · have hB : isB (s.1 43 p) = false := decide_eq_false z
      rw [if_neg (by rw [ec]; exact z), run_stop hB]
      exact m_tok0 hn (by omega) h5 h7
theorem m_tok (hn : n ≤ 200) {p : Nat} {s : qMem} (hp : p ≤ n) (h5 : s.1 40 5 = nI n) (h7 : s.1 40 7 = nI p) : ∃ s2, m_M_nextToken (d + 2) s = some s2 ∧ tokAt (s.1 43) n (run isB (s.1 43) p (n - p)) s s2 := by
  rw [e_M_nextToken]
  exact m_tok1 hn (n - p) p s (by omega) h5 h7
end TOKEN
