/-! the text read by the reference -/
theorem rd1_in {B : Nat → Int32} {n l h p : Nat} {x : Nat × Nat} (hr : rd1 B n l h p = .inr x) : l ≤ x.1 ∧ x.1 < h := by
  unfold rd1 at hr
  cases hnum : num B n (run isB B p (n - p)) with
  | none =>
    rw [hnum] at hr
    cases hr
  | some w =>
    rw [hnum] at hr
    simp only at hr
    by_cases z : l ≤ w ∧ w < h
    · rw [if_pos z] at hr
      cases hr
      exact z
    · rw [if_neg z] at hr
      cases hr
theorem rdN_ok {B : Nat → Int32} {n : Nat} {lw up : Nat → Nat} {x : Nat × (Nat → Nat)} : ∀ (m j p : Nat) (v : Nat → Nat), (∀ i, i < j → lw i ≤ v i ∧ v i < up i) → rdN B n lw up m j p v = .inr x → ∀ i, i < j + m → lw i ≤ x.2 i ∧ x.2 i < up i := by
  intro m
  induction m with
  | zero =>
    intro j p v hv h i hi
    cases h
    exact hv i hi
  | succ m ih =>
    intro j p v hv h i hi
    rw [rdN] at h
    cases hr : rd1 B n (lw j) (up j) p with
    | inl q =>
      rw [hr] at h
      cases h
    | inr y =>
      rw [hr] at h
      refine ih (j + 1) y.2 (fUpd v j y.1) (fun i hi => ?_) h i (by omega)
      by_cases z : i = j
      · subst z
        rw [fUpd_s]
        exact rd1_in hr
      · rw [fUpd_n z]
        exact hv i (by omega)
theorem rdL_ok {B : Nat → Int32} {n p : Nat} {c : Co} {x : Nat × Ln} (h : rdL B n c p = .inr x) : lnOk c x.2.1 x.2.2 := by
  unfold rdL at h
  by_cases z : wK B n p < 10 ∧ (6 ≤ wK B n p → cN c < 5)
  · rw [if_pos z] at h
    cases hN : rdN B n (lo (wK B n p)) (hi c (wK B n p)) (nbs (wK B n p)) 0 (wE B n p) (fun _ => 0) with
    | inl q =>
      rw [hN] at h
      cases h
    | inr y =>
      rw [hN] at h
      cases h
      exact ⟨z.1, z.2, fun j hj => rdN_ok (nbs (wK B n p)) 0 (wE B n p) (fun _ => 0) (fun i hi => absurd hi (Nat.not_lt_zero _)) hN j (by have hj2 : j < nbs (wK B n p) := hj; omega)⟩
  · rw [if_neg z] at h
    cases h
section MREAD
variable {d n : Nat} {B : Nat → Int32}
theorem m_line {c : Co} {W p : Nat} {s : qMem} (hn : n ≤ 200) (hW : W + 4 < 60) (hc : cOk c) (hp : p ≤ n) (h5 : s.1 40 5 = nI n) (h7 : s.1 40 7 = nI p) (h14 : s.1 40 14 = nI (cTop c)) (h15 : s.1 40 15 = nI (cN c)) (hB : s.1 43 = B) : ∃ s2, FLM W s s2 ∧ ((∃ q, rdL B n c p = .inl q ∧ m_M_isLine (d + 5) (nI W) s = some (0, s2) ∧ s2.1 40 12 = nI q) ∨ ∃ x, rdL B n c p = .inr x ∧ m_M_isLine (d + 5) (nI W) s = some (1, s2) ∧ s2.1 40 7 = nI x.1 ∧ x.1 ≤ n ∧ s2.1 40 14 = nI (cTop (app c x.2.1 x.2.2)) ∧ s2.1 40 15 = nI (cN (app c x.2.1 x.2.2)) ∧ s2.1 44 W = nI (rk x.2.1) ∧ ∀ i, i < nbs x.2.1 → s2.1 44 (W + 1 + i) = nI (x.2.2 i)) := by
  subst hB
  obtain ⟨s1, g1, g2⟩ := m_tok (d := d + 2) hn hp h5 h7
  have hr := run_le (f := isB) (B := s.1 43) (n - p) p
  have g2 : tokAt (s.1 43) n (wB0 (s.1 43) n p) s s1 := g2
  have hw0 : wB0 (s.1 43) n p ≤ n := by show run isB _ _ _ ≤ n; omega
  have F1 : FX s s1 := g2.1
  have iW : qIn (nI W) 60 := qIn_n (by omega) (by omega)
  have a5 : s1.1 40 5 = nI n := by rw [F1 _ _ (by omega)]; exact h5
  have a8 : s1.1 40 8 = nI (wB0 (s.1 43) n p) := g2.2.1
  have a14 : s1.1 40 14 = nI (cTop c) := by rw [F1 _ _ (by omega)]; exact h14
  have a15 : s1.1 40 15 = nI (cN c) := by rw [F1 _ _ (by omega)]; exact h15
  have aB : s1.1 43 = s.1 43 := funext (fun i => F1 _ _ (by omega))
  obtain ⟨f1, f2, f3⟩ := fW_lt (B := s.1 43) (b := wB0 (s.1 43) n p) (e := wE (s.1 43) n p) 10 0 rfl
  have f1 : wK (s.1 43) n p ≤ 10 := f1
  have f2 : wK (s.1 43) n p < 10 → isW (s.1 43) (wB0 (s.1 43) n p) (wE (s.1 43) n p) (wK (s.1 43) n p) = true := f2
  have f3 : wK (s.1 43) n p = 10 → ∀ j, 0 ≤ j → j < 10 → isW (s.1 43) (wB0 (s.1 43) n p) (wE (s.1 43) n p) j = false := f3
  have step := m_chain (d := d + 4) (w := nI W) g1
  have bad : ∀ (r : Nat) (s1' : qMem), FLM W s s1' → s1'.1 40 8 = nI (wB0 (s.1 43) n p) → m_M_isLine (d + 5) (nI W) s = (m_M_fails (d + r + 1) s1').bind (fun q13 => (if q13.1 = 0 ∨ q13.1 = 1 then some (q13.1, q13.2) else none)) → ∃ s2, FLM W s s2 ∧ m_M_isLine (d + 5) (nI W) s = some (0, s2) ∧ s2.1 40 12 = nI (wB0 (s.1 43) n p) := fun r s1' hF h8 h => by
    refine ⟨qW s1' 40 12 (s1'.1 40 8), hF.tr (fun o j b _ => by rw [q_rw_if, if_neg (fun z => b ⟨z.1, by omega⟩)]), ?_, by rw [q_rw, h8]⟩
    rw [h, e_M_fails, sm_some]
    exact if_pos (Or.inl rfl)
  have FW : ∀ v, FLM W s (qW s1 44 W v) := fun v => F1.n.m.tr (fun o j _ b => by rw [q_rw_if, if_neg (fun z => b ⟨z.1, by omega⟩)])
  unfold rdL
  by_cases hk : wK (s.1 43) n p < 10
  · have hW2 := f2 hk
    have htok : s1.2 = lN (wNum (wK (s.1 43) n p)) := (tok_word hk g2).mpr hW2
    have a7 : s1.1 40 7 = nI (wE (s.1 43) n p) := tok_pos hk g2 hW2
    have hr2 := run_le (f := isL) (B := s.1 43) (n - wB0 (s.1 43) n p) (wB0 (s.1 43) n p)
    have hE : wE (s.1 43) n p ≤ n := by show run isL _ _ _ ≤ n; omega
    generalize hkk : wK (s.1 43) n p = k at *
    have hval : (if cA s1.2 = -1 then cB s1.2 else cA s1.2) = nI (rk k) := by
      rw [htok]
      exact word_val k hk
    by_cases h6 : 6 ≤ k → cN c < 5
    · rw [if_pos ⟨hk, h6⟩]
      obtain ⟨s2, t1, t2, t3⟩ := m_NN1 (d := d) (B := s.1 43) (W := W) (p := wE (s.1 43) n p) (a := cA s1.2) (b := cB s1.2) hn hW hc hE a5 a7 a14 a15 aB hk h6 hval
      refine ⟨s2, F1.n.m.tr t1, ?_⟩
      rcases t3 with ⟨q, u1, u2, u3⟩ | ⟨x, u1, u2, u3, u4, u5, u6, u7⟩
      · rw [u1]
        exact Or.inl ⟨q, rfl, step.trans u2, u3⟩
      · rw [u1]
        exact Or.inr ⟨_, rfl, step.trans u2, u3, u4, u5, u6, t2, u7⟩
    · rw [if_neg (fun z => h6 z.2)]
      have h6k : 6 ≤ k := by
        rcases Nat.lt_or_ge k 6 with z | z
        · exact absurd (fun y => by omega) h6
        · exact z
      have hN5 : cN c = 5 := by
        have := hc.2.1
        rcases Nat.lt_or_ge (cN c) 5 with z | z
        · exact absurd (fun _ => z) h6
        · omega
      obtain ⟨m, rfl⟩ : ∃ m, k = m + 6 := ⟨k - 6, by omega⟩
      have b15 : (qW s1 44 W (nI (rk (m + 6)))).1 40 15 = 5 := by
        rw [q_rw_o (by decide), a15, hN5]
        rfl
      have step2 := el_M_isLine_2 (d + 4) (nI W) (cA s1.2) (cB s1.2) s1
      rw [hval, if_pos iW, if_pos iW, nI_cl (show W < 2 ^ 31 by omega), q_rw] at step2
      have E1 : m_M_isOneLine (d + 4) (nI W) (qW s1 44 W (nI (rk (m + 6)))) = some (0, qW (qW s1 44 W (nI (rk (m + 6)))) 40 12 (nI (wB0 (s.1 43) n p))) := by
        rw [e_M_isOneLine, b15, if_pos rfl, e_M_fails, sm_some, q_rw_o (by decide), a8]
        exact if_pos (Or.inl rfl)
      have E2 : m_M_isLine (d + 5) (nI W) s = some (0, qW (qW s1 44 W (nI (rk (m + 6)))) 40 12 (nI (wB0 (s.1 43) n p))) := by
        rw [step, step2]
        have : m = 0 ∨ m = 1 ∨ m = 2 ∨ m = 3 := by omega
        rcases this with z | z | z | z
        · subst z
          rw [if_pos (show nI (rk (0 + 6)) = (0 : Int32) from rfl), E1, sm_some]
          exact if_pos (Or.inl rfl)
        · subst z
          rw [if_neg (by decide), if_pos (show nI (rk (1 + 6)) = (1 : Int32) from rfl), E1, sm_some]
          exact if_pos (Or.inl rfl)
        · subst z
          rw [if_neg (by decide), if_neg (by decide), if_pos (show nI (rk (2 + 6)) = (2 : Int32) from rfl), E1, sm_some]
          exact if_pos (Or.inl rfl)
        · subst z
          rw [if_neg (by decide), if_neg (by decide), if_neg (by decide), if_pos (show nI (rk (3 + 6)) = (3 : Int32) from rfl), E1, sm_some]
          exact if_pos (Or.inl rfl)
      exact ⟨_, (FW _).tr (fun o j b _ => by rw [q_rw_if, if_neg (fun z => b ⟨z.1, by omega⟩)]), Or.inl ⟨_, rfl, E2, q_rw⟩⟩
  · rw [if_neg (fun z => hk z.1)]
    have hno : ∀ k, k < 10 → s1.2 ≠ lN (wNum k) := fun k hk2 z => by
      have h1 := (tok_word hk2 g2).mp z
      have h2 := f3 (by omega) k (Nat.zero_le _) hk2
      have h1 : isW (s.1 43) (wB0 (s.1 43) n p) (wE (s.1 43) n p) k = true := h1
      rw [h2] at h1
      cases h1
    have hval := word_none hno
    have step2 := el_M_isLine_2 (d + 4) (nI W) (cA s1.2) (cB s1.2) s1
    rw [hval, if_pos iW, if_pos iW, nI_cl (show W < 2 ^ 31 by omega), q_rw, if_neg (by decide), if_neg (by decide), if_neg (by decide), if_neg (by decide), if_neg (by decide), if_neg (by decide), if_neg (by decide), if_neg (by decide), if_neg (by decide), if_neg (by decide)] at step2
    obtain ⟨s2, b1, b2, b3⟩ := bad 3 (qW s1 44 W (-1)) (FW _) (by rw [q_rw_o (by decide)]; exact a8) (step.trans step2)
    exact ⟨s2, b1, Or.inl ⟨_, rfl, b2, b3⟩⟩
def stored (s : qMem) : Nat → List Ln → Prop
  | _, [] => True
  | i, x :: L => (s.1 44 (5 * i) = nI (rk x.1) ∧ ∀ j, j < nbs x.1 → s.1 44 (5 * i + 1 + j) = nI (x.2 j)) ∧ stored s (i + 1) L
def FRD (i : Nat) (s s2 : qMem) : Prop := ∀ o j, ¬ (o = 40 ∧ 7 ≤ j ∧ j ≤ 15) → ¬ (o = 44 ∧ 5 * i ≤ j) → s2.1 o j = s.1 o j
theorem FRD.tr {i : Nat} {s s2 s3 : qMem} (h : FRD i s s2) (h2 : FRD i s2 s3) : FRD i s s3 := fun o k a b => (h2 o k a b).trans (h o k a b)
theorem FRD.up {i : Nat} {s s2 : qMem} (h : FRD (i + 1) s s2) : FRD i s s2 := fun o j a b => h o j a (fun z => b ⟨z.1, by omega⟩)
theorem FLM.rd {i : Nat} {s s2 : qMem} (h : FLM (5 * i) s s2) : FRD i s s2 := fun o j a b => h o j (fun z => a ⟨z.1, by omega⟩) (fun z => b ⟨z.1, by omega⟩)
theorem FX.rd {i : Nat} {s s2 : qMem} (h : FX s s2) : FRD i s s2 := fun o j a _ => h o j (fun z => a ⟨z.1, by omega⟩)
theorem FRD.w {i j : Nat} {s : qMem} {v : Int32} (hj : 7 ≤ j ∧ j ≤ 15) : FRD i s (qW s 40 j v) := fun o k a _ => by
  rw [q_rw_if, if_neg (fun z => a ⟨z.1, by omega⟩)]
theorem m_read1 (hn : n ≤ 200) : ∀ (f i p : Nat) (c : Co) (s : qMem), i + (f + 1) = 12 → cOk c → p ≤ n → s.1 40 5 = nI n → s.1 40 7 = nI p → s.1 40 13 = nI i → s.1 40 14 = nI (cTop c) → s.1 40 15 = nI (cN c) → s.1 43 = B → ∃ s2, FRD i s s2 ∧ ((∃ q, rdA B n (f + 1) c p = .inl q ∧ l_M_isRead_1 (d + 5) 1 s = some (0, s2) ∧ s2.1 40 12 = nI q) ∨ ∃ L, rdA B n (f + 1) c p = .inr L ∧ l_M_isRead_1 (d + 5) 1 s = some (1, s2) ∧ s2.1 40 13 = nI (i + L.length) ∧ stored s2 i L) := by
  intro f
  induction f with
  | zero =>
    intro i p c s hi hc hp h5 h7 h13 h14 h15 hB
    have hi11 : i = 11 := by omega
    obtain ⟨s1, f1, h⟩ := m_line (d := d) (W := 5 * i) (p := p) (B := B) hn (by omega) hc hp h5 h7 h14 h15 hB
    have e5 : 5 * nI i = nI (5 * i) := pk_mul 5 i
    have step := el_M_isRead_1 (d + 5) 1 s
    rw [if_neg (by decide), h13, e5] at step
    rcases h with ⟨q, u1, u2, u3⟩ | ⟨x, u1, u2, u3, u4, u5, u6, u7, u8⟩
    · rw [u2, sm_some] at step
      exact ⟨s1, f1.rd, Or.inl ⟨q, by rw [rdA, u1], step.trans (if_pos rfl), u3⟩⟩
    · rw [u2, sm_some] at step
      dsimp only at step
      rw [if_neg (show ¬ (1 : Int32) = 0 from by decide), show s1.1 40 13 = nI i from by rw [f1 _ _ (by omega) (by omega)]; exact h13, nI_1] at step
      have F2 : FRD i s (qW s1 40 13 (nI (i + 1))) := f1.rd.tr (FRD.w (by omega))
      obtain ⟨s3, g1, g2⟩ := m_tok (d := d + 3) (s := qW s1 40 13 (nI (i + 1))) (p := x.1) hn u4 (by rw [F2 _ _ (by omega) (by omega)]; exact h5) (by rw [q_rw_k (by decide)]; exact u3)
      have eB : (qW s1 40 13 (nI (i + 1))).1 43 = B := by
        rw [← hB]
        exact funext (fun j => F2 _ _ (by omega) (by omega))
      rw [eB] at g2
      have g2 : tokAt B n (wB0 B n x.1) (qW s1 40 13 (nI (i + 1))) s3 := g2
      have hr := run_le (f := isB) (B := B) (n - x.1) x.1
      have hq : wB0 B n x.1 ≤ n := by show run isB _ _ _ ≤ n; omega
      have F3 : FRD i s s3 := F2.tr g2.1.rd
      have a13 : s3.1 40 13 = nI (i + 1) := by rw [g2.1 _ _ (by omega), q_rw]
      have st : stored s3 i [x.2] := ⟨⟨by rw [g2.1 _ _ (by omega), q_rw_o (by decide)]; exact u7, fun j hj => by rw [g2.1 _ _ (by omega), q_rw_o (by decide)]; exact u8 j hj⟩, trivial⟩
      rw [g1, sm_some] at step
      rcases tok_sep hq g2 with ⟨t1, t2, t3⟩ | ⟨t1, t2, t3, t4⟩ | ⟨t1, t2, t3, t4⟩
      · rw [if_neg (fun z => t3 ((lg_cmp_eq _ _).mp z)), el_M_isRead_1 (d + 5) 0 s3, if_pos rfl, if_pos ((lg_cmp_eq _ _).mpr t2)] at step
        exact ⟨s3, F3, Or.inr ⟨[x.2], by rw [rdA, u1]; exact if_pos t1, step, a13, st⟩⟩
      · rw [if_pos ((lg_cmp_eq _ _).mpr t3), a13, if_pos (show (12 : Int32) ≤ nI (i + 1) from by rw [hi11]; decide), el_M_isRead_1 (d + 5) 0 s3, if_pos rfl, if_neg (fun z => by rw [(lg_cmp_eq _ _).mp z] at t3; exact absurd t3 (by decide)), e_M_fails, sm_some] at step
        exact ⟨qW s3 40 12 (s3.1 40 8), F3.tr (FRD.w (by omega)), Or.inl ⟨wB0 B n x.1, by rw [rdA, u1]; exact (if_neg (by omega)).trans ((if_pos t2).trans (if_pos rfl)), step.trans (if_pos rfl), by rw [q_rw]; exact g2.2.1⟩⟩
      · rw [if_neg (fun z => t4 ((lg_cmp_eq _ _).mp z)), el_M_isRead_1 (d + 5) 0 s3, if_pos rfl, if_neg (fun z => t3 ((lg_cmp_eq _ _).mp z)), e_M_fails, sm_some] at step
        exact ⟨qW s3 40 12 (s3.1 40 8), F3.tr (FRD.w (by omega)), Or.inl ⟨wB0 B n x.1, by rw [rdA, u1]; exact (if_neg (by omega)).trans (if_neg t2), step.trans (if_pos rfl), by rw [q_rw]; exact g2.2.1⟩⟩
  | succ f ih =>
    intro i p c s hi hc hp h5 h7 h13 h14 h15 hB
    obtain ⟨s1, f1, h⟩ := m_line (d := d) (W := 5 * i) (p := p) (B := B) hn (by omega) hc hp h5 h7 h14 h15 hB
    have e5 : 5 * nI i = nI (5 * i) := pk_mul 5 i
    have step := el_M_isRead_1 (d + 5) 1 s
    rw [if_neg (by decide), h13, e5] at step
    rcases h with ⟨q, u1, u2, u3⟩ | ⟨x, u1, u2, u3, u4, u5, u6, u7, u8⟩
    · rw [u2, sm_some] at step
      exact ⟨s1, f1.rd, Or.inl ⟨q, by rw [rdA, u1], step.trans (if_pos rfl), u3⟩⟩
    · rw [u2, sm_some] at step
      dsimp only at step
      rw [if_neg (show ¬ (1 : Int32) = 0 from by decide), show s1.1 40 13 = nI i from by rw [f1 _ _ (by omega) (by omega)]; exact h13, nI_1] at step
      have F2 : FRD i s (qW s1 40 13 (nI (i + 1))) := f1.rd.tr (FRD.w (by omega))
      obtain ⟨s3, g1, g2⟩ := m_tok (d := d + 3) (s := qW s1 40 13 (nI (i + 1))) (p := x.1) hn u4 (by rw [F2 _ _ (by omega) (by omega)]; exact h5) (by rw [q_rw_k (by decide)]; exact u3)
      have eB : (qW s1 40 13 (nI (i + 1))).1 43 = B := by
        rw [← hB]
        exact funext (fun j => F2 _ _ (by omega) (by omega))
      rw [eB] at g2
      have g2 : tokAt B n (wB0 B n x.1) (qW s1 40 13 (nI (i + 1))) s3 := g2
      have hr := run_le (f := isB) (B := B) (n - x.1) x.1
      have hq : wB0 B n x.1 ≤ n := by show run isB _ _ _ ≤ n; omega
      have F3 : FRD i s s3 := F2.tr g2.1.rd
      have a13 : s3.1 40 13 = nI (i + 1) := by rw [g2.1 _ _ (by omega), q_rw]
      have st : s3.1 44 (5 * i) = nI (rk x.2.1) ∧ ∀ j, j < nbs x.2.1 → s3.1 44 (5 * i + 1 + j) = nI (x.2.2 j) := ⟨by rw [g2.1 _ _ (by omega), q_rw_o (by decide)]; exact u7, fun j hj => by rw [g2.1 _ _ (by omega), q_rw_o (by decide)]; exact u8 j hj⟩
      rw [g1, sm_some] at step
      have hL : rdL B n c p = .inr x := u1
      rcases tok_sep hq g2 with ⟨t1, t2, t3⟩ | ⟨t1, t2, t3, t4⟩ | ⟨t1, t2, t3, t4⟩
      · rw [if_neg (fun z => t3 ((lg_cmp_eq _ _).mp z)), el_M_isRead_1 (d + 5) 0 s3, if_pos rfl, if_pos ((lg_cmp_eq _ _).mpr t2)] at step
        exact ⟨s3, F3, Or.inr ⟨[x.2], by rw [rdA, u1]; exact if_pos t1, step, a13, st, trivial⟩⟩
      · have n12 : ¬ (12 : Int32) ≤ nI (i + 1) := by
          show ¬ nI 12 ≤ nI (i + 1)
          rw [nI_leI (by omega) (by omega)]
          omega
        rw [if_pos ((lg_cmp_eq _ _).mpr t3), a13, if_neg n12] at step
        have lok : lnOk c x.2.1 x.2.2 := rdL_ok hL
        have hc2 := app_ok hc x.2.1 lok.1 x.2.2 lok
        obtain ⟨s4, v1, v2⟩ := ih (i + 1) (wB0 B n x.1 + 1) (app c x.2.1 x.2.2) s3 (by omega) hc2 (by omega) (by rw [F3 _ _ (by omega) (by omega)]; exact h5) t4 a13 (by rw [g2.1 _ _ (by omega), q_rw_k (by decide)]; exact u5) (by rw [g2.1 _ _ (by omega), q_rw_k (by decide)]; exact u6) (by rw [← hB]; exact funext (fun j => F3 _ _ (by omega) (by omega)))
        refine ⟨s4, F3.tr v1.up, ?_⟩
        have hred : ∀ r, rdA B n (f + 1) (app c x.2.1 x.2.2) (wB0 B n x.1 + 1) = r → rdA B n (f + 1 + 1) c p = (match r with
            | .inl q => .inl q
            | .inr L => .inr (x.2 :: L)) := fun r hr => by
          rw [rdA, u1, ← hr]
          exact (if_neg (by omega)).trans ((if_pos t2).trans (if_neg (by omega)))
        rcases v2 with ⟨q, w1, w2, w3⟩ | ⟨L, w1, w2, w3, w4⟩
        · exact Or.inl ⟨q, hred _ w1, step.trans w2, w3⟩
        · refine Or.inr ⟨x.2 :: L, hred _ w1, step.trans w2, ?_, ⟨?_, ?_⟩, w4⟩
          · rw [w3]
            exact congrArg nI (by show i + 1 + L.length = i + (L.length + 1); omega)
          · rw [v1 _ _ (by omega) (by omega)]
            exact st.1
          · intro j hj
            have := nbs_le x.2.1 lok.1
            rw [v1 _ _ (by omega) (by omega)]
            exact st.2 j hj
      · rw [if_neg (fun z => t4 ((lg_cmp_eq _ _).mp z)), el_M_isRead_1 (d + 5) 0 s3, if_pos rfl, if_neg (fun z => t3 ((lg_cmp_eq _ _).mp z)), e_M_fails, sm_some] at step
        exact ⟨qW s3 40 12 (s3.1 40 8), F3.tr (FRD.w (by omega)), Or.inl ⟨wB0 B n x.1, by rw [rdA, u1]; exact (if_neg (by omega)).trans (if_neg t2), step.trans (if_pos rfl), by rw [q_rw]; exact g2.2.1⟩⟩
end MREAD
