/-! lines done by the reference -/
def FD (s s2 : qMem) : Prop := (∀ o j, ¬ (o = 40 ∧ (j = 0 ∨ j = 2 ∨ j = 3)) → o ≠ 41 → o ≠ 42 → s2.1 o j = s.1 o j) ∧ s2.2 = s.2
theorem FD.rf {s : qMem} : FD s s := ⟨fun _ _ _ _ _ => rfl, rfl⟩
theorem FD.tr {s s2 s3 : qMem} (h : FD s s2) (h2 : FD s2 s3) : FD s s3 := ⟨fun o k a b e => (h2.1 o k a b e).trans (h.1 o k a b e), h2.2.trans h.2⟩
theorem FD.w {s : qMem} {j : Nat} {v : Int32} (hj : j = 0 ∨ j = 2 ∨ j = 3) : FD s (qW s 40 j v) := ⟨fun o k a _ _ => by rw [q_rw_if, if_neg (fun z => a ⟨z.1, by omega⟩)], rfl⟩
theorem FD.w1 {s : qMem} {j : Nat} {v : Int32} : FD s (qW s 41 j v) := ⟨fun o k _ a _ => q_rw_o a, rfl⟩
theorem FD.w2 {s : qMem} {j : Nat} {v : Int32} : FD s (qW s 42 j v) := ⟨fun o k _ _ a => q_rw_o a, rfl⟩
section DOLINE
variable {d : Nat}
theorem m_plain1 : ∀ (q k : Nat) (s : qMem), k + q = 4 → ∃ s2, l_M_plain_1 d (nI k) s = some (qW (qW s2 40 2 0) 40 3 0) ∧ (∀ i, k ≤ i → i < 4 → s2.1 41 i = 20) ∧ (∀ o j, (o = 41 → j < k) → s2.1 o j = s.1 o j) ∧ s2.2 = s.2 := by
  intro q
  induction q with
  | zero =>
    intro k s hk
    have : k = 4 := by omega
    subst this
    exact ⟨s, by rw [el_M_plain_1, if_pos (show (4 : Int32) ≤ nI 4 from by decide)], fun i h1 h2 => by omega, fun _ _ _ => rfl, rfl⟩
  | succ q ih =>
    intro k s hk
    have n4 : ¬ (4 : Int32) ≤ nI k := by
      show ¬ nI 4 ≤ nI k
      rw [nI_leI (by omega) (by omega)]
      omega
    obtain ⟨s2, g1, g2, g3, g4⟩ := ih (k + 1) (qW s 41 k 20) (by omega)
    refine ⟨s2, ?_, fun i h1 h2 => ?_, fun o j h => ?_, g4⟩
    · rw [el_M_plain_1, if_neg n4, if_pos (qIn_n (by omega) (by omega)), nI_cl (by omega), nI_1]
      exact g1
    · by_cases z : i = k
      · rw [z, g3 _ _ (fun _ => by omega), q_rw]
      · exact g2 i (by omega) h2
    · rw [g3 o j (fun z => by have := h z; omega)]
      by_cases z : o = 41
      · have := h z
        rw [q_rw_if, if_neg (by omega)]
      · rw [q_rw_o z]
theorem m_do1 {W N : Nat} (hW : W + 4 < 60) (hN : N < 5) : ∀ (q k : Nat) (s : qMem), k + q = 4 → s.1 40 3 = nI N → ∃ s2, l_M_doLine_1 d (nI W) (nI k) s = some (qW (qW (qW s2 42 (6 * N + 4) 0) 42 (6 * N + 5) 0) 40 3 (nI (N + 1))) ∧ (∀ i, k ≤ i → i < 4 → s2.1 42 (6 * N + i) = s.1 44 (W + i)) ∧ (∀ o j, (o = 42 → j < 6 * N + k ∨ 6 * N + 4 ≤ j) → s2.1 o j = s.1 o j) ∧ s2.2 = s.2 := by
  have e6 : 6 * nI N = nI (6 * N) := pk_mul 6 N
  have e64 : nI (6 * N) + 4 = nI (6 * N + 4) := nI_add (6 * N) 4
  have e65 : nI (6 * N) + 5 = nI (6 * N + 5) := nI_add (6 * N) 5
  intro q
  induction q with
  | zero =>
    intro k s hk h3
    have : k = 4 := by omega
    subst this
    refine ⟨s, ?_, fun i h1 h2 => by omega, fun _ _ _ => rfl, rfl⟩
    rw [el_M_doLine_1, if_pos (show (4 : Int32) ≤ nI 4 from by decide), h3, e6, e64, e65, if_pos (qIn_n (by omega) (by omega)), if_pos (qIn_n (by omega) (by omega)), nI_cl (by omega), nI_cl (by omega), nI_1]
  | succ q ih =>
    intro k s hk h3
    have n4 : ¬ (4 : Int32) ≤ nI k := by
      show ¬ nI 4 ≤ nI k
      rw [nI_leI (by omega) (by omega)]
      omega
    obtain ⟨s2, g1, g2, g3, g4⟩ := ih (k + 1) (qW s 42 (6 * N + k) (s.1 44 (W + k))) (by omega) (by rw [q_rw_o (by decide)]; exact h3)
    refine ⟨s2, ?_, fun i h1 h2 => ?_, fun o j h => ?_, g4⟩
    · rw [el_M_doLine_1, if_neg n4, h3, e6, nI_add, nI_add, if_pos (qIn_n (by omega) (by omega)), if_pos (qIn_n (by omega) (by omega)), nI_cl (by omega), nI_cl (by omega), nI_1]
      exact g1
    · by_cases z : i = k
      · rw [z, g3 _ _ (fun _ => by omega), q_rw]
      · rw [g2 i (by omega) h2, q_rw_o (by decide)]
    · rw [g3 o j (fun z => by have := h z; omega)]
      by_cases z : o = 42
      · have := h z
        rw [q_rw_if, if_neg (by omega)]
      · rw [q_rw_o z]
theorem RM_of {s s2 : qMem} {c : Co} (h : ∀ o k, (o = 41 ∨ o = 42 ∨ (o = 40 ∧ (k = 0 ∨ k = 2 ∨ k = 3))) → s2.1 o k = s.1 o k) (hR : RM s c) : RM s2 c := by
  obtain ⟨a1, a2, a3, ⟨m, m1, m2, m3⟩, a5⟩ := hR
  exact ⟨by rw [h _ _ (by omega)]; exact a1, by rw [h _ _ (by omega)]; exact a2, fun i hi => by rw [h _ _ (by omega)]; exact a3 i hi, ⟨m, m1, by rw [h _ _ (by omega)]; exact m2, m3⟩, fun p hp j hj => by rw [h _ _ (by omega)]; exact a5 p hp j hj⟩
theorem m_do {c : Co} {W : Nat} {s : qMem} {v : Nat → Nat} (hW : W + 4 < 60) (hc : cOk c) (hR : RM s c) : ∀ k, k < 10 → lnOk c k v → s.1 44 W = nI (rk k) → (∀ i, i < nbs k → s.1 44 (W + 1 + i) = nI (v i)) → ∃ s2, m_M_doLine (d + 2) (nI W) s = some s2 ∧ RM s2 (app c k v) ∧ FD s s2 := by
  obtain ⟨a1, a2, a3, ⟨M, m1, m2, m3⟩, a5⟩ := id hR
  obtain ⟨c1, c2, c3, c4⟩ := id hc
  have i0 : qIn (nI W) 60 := qIn_n (by omega) (by omega)
  have i1 : qIn (nI (W + 1)) 60 := qIn_n (by omega) (by omega)
  have i2 : qIn (nI (W + 2)) 60 := qIn_n (by omega) (by omega)
  have e2 : nI W + 2 = nI (W + 2) := nI_add W 2
  have step := e_M_doLine (d + 1) (nI W) s
  rw [nI_1, e2, if_pos i1, if_pos i2, if_pos i0, nI_cl (show W < 2 ^ 31 by omega), nI_cl (show W + 1 < 2 ^ 31 by omega), nI_cl (show W + 2 < 2 ^ 31 by omega)] at step
  refine k10 ?_ ?_ ?_ ?_ ?_ ?_ ?_
  · intro hl hk hv
    rw [hk, if_pos (show nI (rk 0) = (4 : Int32) from rfl), show s.1 44 (W + 1) = nI (v 0) from hv 0 (by decide), e_M_plain] at step
    obtain ⟨s2, g1, g2, g3, g4⟩ := m_plain1 (d := d) 4 0 (qW s 40 0 (nI (v 0))) rfl
    have g1 : l_M_plain_1 d 0 (qW s 40 0 (nI (v 0))) = some (qW (qW s2 40 2 0) 40 3 0) := g1
    rw [g1] at step
    refine ⟨_, step, ⟨?_, q_rw, fun i hi => ?_, ⟨0, by omega, ?_, fun i _ => (Nat.zero_testBit i).symm⟩, fun p hp => absurd hp (Nat.not_lt_zero _)⟩, fun o j h1 h2 h3 => ?_, g4⟩
    · rw [q_rw_k (by decide), q_rw_k (by decide), g3 _ _ (fun h => by omega), q_rw]
      rfl
    · rw [q_rw_o (by decide), q_rw_o (by decide), g2 i (Nat.zero_le _) hi]
      rfl
    · rw [q_rw_k (by decide), q_rw]
      rfl
    · rw [q_rw_if, if_neg (fun z => h1 ⟨z.1, by omega⟩), q_rw_if, if_neg (fun z => h1 ⟨z.1, by omega⟩), g3 o j (fun z => absurd z h2), q_rw_if, if_neg (fun z => h1 ⟨z.1, by omega⟩)]
  · intro hl hk hv
    have b0 : v 0 < cTop c := (hl.2.2 0 (by decide)).2
    rw [hk, if_neg (by decide), if_pos (show nI (rk 1) = (5 : Int32) from rfl), show s.1 44 (W + 1) = nI (v 0) from hv 0 (by decide), show s.1 44 (W + 2) = nI (v 1) from hv 1 (by decide), if_pos (qIn_n (show v 0 < 4 by omega) (by omega)), nI_cl (by omega)] at step
    refine ⟨_, step, ⟨?_, ?_, fun i hi => ?_, ⟨M, m1, ?_, m3⟩, fun p hp j hj => ?_⟩, FD.w1⟩
    · rw [q_rw_o (by decide)]; exact a1
    · rw [q_rw_o (by decide)]; exact a2
    · show _ = nI (fUpd (cH c) (v 0) (v 1) i)
      by_cases z : i = v 0
      · rw [z, q_rw, fUpd_s]
      · rw [q_rw_k z, fUpd_n z]; exact a3 i hi
    · rw [q_rw_o (by decide)]; exact m2
    · rw [q_rw_o (by decide)]; exact a5 p hp j hj
  · intro hl hk hv
    have b0 : v 0 < cTop c := (hl.2.2 0 (by decide)).2
    rw [hk, if_neg (by decide), if_neg (by decide), if_pos (show nI (rk 2) = (6 : Int32) from rfl), show s.1 44 (W + 1) = nI (v 0) from hv 0 (by decide), m2, orb_i M (show M < 32 by omega) (v 0) (by omega)] at step
    refine ⟨_, step, ⟨?_, ?_, fun i hi => ?_, ⟨orb M (v 0), orb16 M m1 (v 0) (by omega), q_rw, fun i hi => ?_⟩, fun p hp j hj => ?_⟩, FD.w (by omega)⟩
    · rw [q_rw_k (by decide)]; exact a1
    · rw [q_rw_k (by decide)]; exact a2
    · rw [q_rw_o (by decide)]; exact a3 i hi
    · rw [orb16b M m1 (v 0) (by omega) i hi, ← m3 i hi]
      show fUpd (cR c) (v 0) true i = _
      by_cases z : i = v 0
      · rw [z, fUpd_s, decide_eq_true rfl, Bool.or_true]
      · rw [fUpd_n z, decide_eq_false z, Bool.or_false]
    · rw [q_rw_o (by decide)]; exact a5 p hp j hj
  · intro hl hk hv
    have b0 : v 0 < cN c := (hl.2.2 0 (by decide)).2
    have e6 : 6 * nI (v 0) = nI (6 * v 0) := pk_mul 6 (v 0)
    have e64 : nI (6 * v 0) + 4 = nI (6 * v 0 + 4) := nI_add (6 * v 0) 4
    rw [hk, if_neg (by decide), if_neg (by decide), if_neg (by decide), if_pos (show nI (rk 3) = (7 : Int32) from rfl), show s.1 44 (W + 1) = nI (v 0) from hv 0 (by decide), show s.1 44 (W + 2) = nI (v 1) from hv 1 (by decide), e6, e64, if_pos (qIn_n (by omega) (by omega)), nI_cl (by omega)] at step
    refine ⟨_, step, ⟨?_, ?_, fun i hi => ?_, ⟨M, m1, ?_, m3⟩, fun p hp j hj => ?_⟩, FD.w2⟩
    · rw [q_rw_o (by decide)]; exact a1
    · rw [q_rw_o (by decide)]; exact a2
    · rw [q_rw_o (by decide)]; exact a3 i hi
    · rw [q_rw_o (by decide)]; exact m2
    · have e : cP (app c 3 v) = fUpd (cP c) (v 0) (fUpd (cP c (v 0)) 4 (v 1)) := rfl
      rw [e]
      by_cases z : p = v 0
      · subst z
        rw [fUpd_s]
        by_cases y : j = 4
        · subst y
          rw [q_rw, fUpd_s]
        · rw [q_rw_k (by omega), fUpd_n y]
          exact a5 _ hp j hj
      · rw [q_rw_k (by omega), fUpd_n z]
        exact a5 p hp j hj
  · intro hl hk hv
    have b0 : v 0 < cN c := (hl.2.2 0 (by decide)).2
    have e6 : 6 * nI (v 0) = nI (6 * v 0) := pk_mul 6 (v 0)
    have e64 : nI (6 * v 0) + 5 = nI (6 * v 0 + 5) := nI_add (6 * v 0) 5
    rw [hk, if_neg (by decide), if_neg (by decide), if_neg (by decide), if_neg (by decide), if_pos (show nI (rk 4) = (8 : Int32) from rfl), show s.1 44 (W + 1) = nI (v 0) from hv 0 (by decide), show s.1 44 (W + 2) = nI (v 1) from hv 1 (by decide), e6, e64, if_pos (qIn_n (by omega) (by omega)), nI_cl (by omega)] at step
    refine ⟨_, step, ⟨?_, ?_, fun i hi => ?_, ⟨M, m1, ?_, m3⟩, fun p hp j hj => ?_⟩, FD.w2⟩
    · rw [q_rw_o (by decide)]; exact a1
    · rw [q_rw_o (by decide)]; exact a2
    · rw [q_rw_o (by decide)]; exact a3 i hi
    · rw [q_rw_o (by decide)]; exact m2
    · have e : cP (app c 4 v) = fUpd (cP c) (v 0) (fUpd (cP c (v 0)) 5 (v 1)) := rfl
      rw [e]
      by_cases z : p = v 0
      · subst z
        rw [fUpd_s]
        by_cases y : j = 5
        · subst y
          rw [q_rw, fUpd_s]
        · rw [q_rw_k (by omega), fUpd_n y]
          exact a5 _ hp j hj
      · rw [q_rw_k (by omega), fUpd_n z]
        exact a5 p hp j hj
  · intro hl hk hv
    rw [hk, if_neg (by decide), if_neg (by decide), if_neg (by decide), if_neg (by decide), if_neg (by decide), if_pos (show nI (rk 5) = (9 : Int32) from rfl)] at step
    refine ⟨_, step, ⟨?_, q_rw, fun i hi => ?_, ⟨M, m1, ?_, m3⟩, fun p hp => absurd hp (Nat.not_lt_zero _)⟩, FD.w (by omega)⟩
    · rw [q_rw_k (by decide)]; exact a1
    · rw [q_rw_o (by decide)]; exact a3 i hi
    · rw [q_rw_k (by decide)]; exact m2
  · intro m hm hl hk hv
    have hN := hl.2.1 (by omega)
    have em : rk (m + 6) = m := by
      have : m = 0 ∨ m = 1 ∨ m = 2 ∨ m = 3 := by omega
      rcases this with z | z | z | z <;> (subst z; rfl)
    rw [em] at hk
    have ne : ∀ i, 4 ≤ i → i < 10 → ¬ nI m = nI i := fun i h1 h2 => by
      rw [nI_eq (by omega) (by omega)]
      omega
    rw [hk, if_neg (show ¬ nI m = (4 : Int32) from ne 4 (by omega) (by omega)), if_neg (show ¬ nI m = (5 : Int32) from ne 5 (by omega) (by omega)), if_neg (show ¬ nI m = (6 : Int32) from ne 6 (by omega) (by omega)), if_neg (show ¬ nI m = (7 : Int32) from ne 7 (by omega) (by omega)), if_neg (show ¬ nI m = (8 : Int32) from ne 8 (by omega) (by omega)), if_neg (show ¬ nI m = (9 : Int32) from ne 9 (by omega) (by omega))] at step
    obtain ⟨s2, g1, g2, g3, g4⟩ := m_do1 (d := d + 1) (W := W) hW hN 4 0 s rfl a2
    refine ⟨_, step.trans g1, ⟨?_, q_rw, fun i hi => ?_, ⟨M, m1, ?_, m3⟩, fun p hp j hj => ?_⟩, fun o j h1 h2 h3 => ?_, g4⟩
    · rw [q_rw_k (by decide), q_rw_o (by decide), q_rw_o (by decide), g3 _ _ (fun h => by omega)]; exact a1
    · rw [q_rw_o (by decide), q_rw_o (by decide), q_rw_o (by decide), g3 _ _ (fun h => by omega)]; exact a3 i hi
    · rw [q_rw_k (by decide), q_rw_o (by decide), q_rw_o (by decide), g3 _ _ (fun h => by omega)]; exact m2
    · have hp2 : p < cN c + 1 := hp
      rw [q_rw_o (by decide)]
      by_cases z : p = cN c
      · have e : cP (app c (m + 6) v) p = fun j => if j = 0 then m else if j < 4 then v (j - 1) else 0 := by
          rw [z]
          exact fUpd_s
        rw [e, z]
        show _ = nI (if j = 0 then m else if j < 4 then v (j - 1) else 0)
        by_cases y5 : j = 5
        · subst y5
          rw [q_rw]
          rfl
        · rw [q_rw_k (by omega)]
          by_cases y4 : j = 4
          · subst y4
            rw [q_rw]
            rfl
          · rw [q_rw_k (by omega), g2 j (Nat.zero_le _) (by omega)]
            by_cases y0 : j = 0
            · rw [if_pos y0, y0]
              exact hk
            · rw [if_neg y0, if_pos (by omega)]
              have := hv (j - 1) (by rw [nbs6 m hm]; omega)
              rw [show W + 1 + (j - 1) = W + j from by omega] at this
              exact this
      · have e : cP (app c (m + 6) v) p = cP c p := fUpd_n z
        rw [e, q_rw_k (by omega), q_rw_k (by omega), g3 _ _ (fun _ => by omega)]
        exact a5 p (by omega) j hj
    · rw [q_rw_if, if_neg (fun z => h1 ⟨z.1, by omega⟩), q_rw_o h3, q_rw_o h3, g3 o j (fun z => absurd z h3)]
theorem m_dos {n : Nat} (hn : n ≤ 12) : ∀ (L : List Ln) (i : Nat) (c : Co) (s : qMem), i + L.length = n → s.1 40 13 = nI n → cOk c → RM s c → lnsOk c L → stored s i L → ∃ s2, l_M_stair_1 (d + 2) (nI i) s = l_M_stair_2 (d + 2) 0 (qW s2 40 5 0) ∧ RM s2 (apps c L) ∧ FD s s2 := by
  intro L
  induction L with
  | nil =>
    intro i c s hi h13 _ hR _ _
    have : i = n := hi
    refine ⟨s, ?_, hR, FD.rf⟩
    rw [el_M_stair_1, h13, if_pos (nI_le (by omega) (by omega))]
  | cons x L ih =>
    intro i c s hi h13 hc hR hl hs
    have hi2 : i + (L.length + 1) = n := hi
    obtain ⟨s1, g1, g2, g3⟩ := m_do (d := d) (W := 5 * i) (by omega) hc hR x.1 hl.1.1 hl.1 hs.1.1 hs.1.2
    have st : stored s1 (i + 1) L := by
      have : ∀ (L : List Ln) (i : Nat), stored s i L → stored s1 i L := by
        intro L
        induction L with
        | nil => intro i _; exact trivial
        | cons y L ih2 => intro i h; exact ⟨⟨by rw [g3.1 _ _ (by omega) (by omega) (by omega)]; exact h.1.1, fun j hj => by rw [g3.1 _ _ (by omega) (by omega) (by omega)]; exact h.1.2 j hj⟩, ih2 _ h.2⟩
      exact this L (i + 1) hs.2
    obtain ⟨s2, t1, t2, t3⟩ := ih (i + 1) (app c x.1 x.2) s1 (by omega) (by rw [g3.1 _ _ (by omega) (by omega) (by omega)]; exact h13) (app_ok hc x.1 hl.1.1 x.2 hl.1) g2 hl.2 st
    have e5 : 5 * nI i = nI (5 * i) := pk_mul 5 i
    refine ⟨s2, ?_, t2, g3.tr t3⟩
    rw [el_M_stair_1, h13, if_neg (by rw [nI_leI (by omega) (by omega)]; omega), e5, g1, sm_some, nI_1]
    exact t1
end DOLINE
