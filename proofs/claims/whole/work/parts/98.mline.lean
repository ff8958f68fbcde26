/-! a line read by the reference -/
def FLN (W : Nat) (s s2 : qMem) : Prop := ∀ o j, ¬ (o = 40 ∧ (j = 7 ∨ j = 8 ∨ j = 10 ∨ j = 11 ∨ j = 12)) → ¬ (o = 44 ∧ W + 1 ≤ j ∧ j < W + 5) → s2.1 o j = s.1 o j
def FLM (W : Nat) (s s2 : qMem) : Prop := ∀ o j, ¬ (o = 40 ∧ 7 ≤ j ∧ j ≤ 15 ∧ j ≠ 13) → ¬ (o = 44 ∧ W ≤ j ∧ j < W + 5) → s2.1 o j = s.1 o j
theorem FLN.rf {W : Nat} {s : qMem} : FLN W s s := fun _ _ _ _ => rfl
theorem FLN.tr {W : Nat} {s s2 s3 : qMem} (h : FLN W s s2) (h2 : FLN W s2 s3) : FLN W s s3 := fun o k a b => (h2 o k a b).trans (h o k a b)
theorem FLM.tr {W : Nat} {s s2 s3 : qMem} (h : FLM W s s2) (h2 : FLM W s2 s3) : FLM W s s3 := fun o k a b => (h2 o k a b).trans (h o k a b)
theorem FX.n {W : Nat} {s s2 : qMem} (h : FX s s2) : FLN W s s2 := fun o j a _ => h o j (fun z => a ⟨z.1, by omega⟩)
theorem FLN.m {W : Nat} {s s2 : qMem} (h : FLN W s s2) : FLM W s s2 := fun o j a b => h o j (fun z => a ⟨z.1, by omega⟩) (fun z => b ⟨z.1, by omega⟩)
theorem dI_ltI {h v : Nat} (hh : h < 2 ^ 31) (hv : v < 2 ^ 31) : dI h < nI v ↔ h ≤ v := by
  cases h with
  | zero => exact ⟨fun _ => Nat.zero_le _, fun _ => m1_lt hv⟩
  | succ k => rw [dI_s, nI_ltI (by omega) hv]; omega
section MNUM
variable {d n : Nat} {B : Nat → Int32}
theorem m_inR {s : qMem} {v l h : Nat} (hv : v < 2 ^ 31) (hl : l < 2 ^ 31) (hh : h < 2 ^ 31) : m_M_in (d + 1) (nI v) (nI l) (dI h) s = some (b2i (decide (l ≤ v ∧ v < h)), s) := by
  rw [e_M_in]
  by_cases z : v < l
  · rw [if_pos ((nI_ltI hv hl).mpr z), decide_eq_false (by omega)]
    rfl
  · rw [if_neg (fun y => z ((nI_ltI hv hl).mp y))]
    by_cases y : h ≤ v
    · rw [if_pos ((dI_ltI hh hv).mpr y), decide_eq_false (by omega)]
      rfl
    · rw [if_neg (fun w => y ((dI_ltI hh hv).mp w)), decide_eq_true (by omega)]
      rfl
/-- one number -/
theorem m_num {W l h p j : Nat} {s : qMem} (hn : n ≤ 200) (hj : W + 1 + j < 60) (hj3 : j < 3) (hl : l ≤ 200) (hh : h ≤ 200) (hp : p ≤ n) (h5 : s.1 40 5 = nI n) (h7 : s.1 40 7 = nI p) (hB : s.1 43 = B) : ∃ s3, FLN W s s3 ∧ (∀ i, i < j → s3.1 44 (W + 1 + i) = s.1 44 (W + 1 + i)) ∧ ((∃ q, rd1 B n l h p = .inl q ∧ m_M_isNumber (d + 3) (nI (W + 1 + j)) (nI l) (dI h) s = some (0, s3) ∧ s3.1 40 12 = nI q) ∨ ∃ x, rd1 B n l h p = .inr x ∧ m_M_isNumber (d + 3) (nI (W + 1 + j)) (nI l) (dI h) s = some (1, s3) ∧ s3.1 40 7 = nI x.2 ∧ x.2 ≤ n ∧ s3.1 44 (W + 1 + j) = nI x.1) := by
  subst hB
  obtain ⟨s1, g1, g2⟩ := m_tok (d := d) hn hp h5 h7
  have hr := run_le (f := isB) (B := s.1 43) (n - p) p
  obtain ⟨k1, k2⟩ := tok_num g2
  have a8 := g2.2.1
  have F1 : FLN W s s1 := g2.1.n
  unfold rd1
  generalize run isB (s.1 43) p (n - p) = q at *
  have hr2 := run_le (f := isD) (B := s.1 43) (n - q) q
  have bad : ∀ {Z : Option (Int32 × qMem)}, Z = ((m_M_fails (d + 2) s1).bind (fun q3 => (if q3.1 = 0 ∨ q3.1 = 1 then some (q3.1, q3.2) else none))) → ∃ s3, FLN W s s3 ∧ (∀ i, i < j → s3.1 44 (W + 1 + i) = s.1 44 (W + 1 + i)) ∧ Z = some (0, s3) ∧ s3.1 40 12 = nI q := fun hZ => by
    refine ⟨qW s1 40 12 (s1.1 40 8), F1.tr (fun o j a _ => by rw [q_rw_if, if_neg (fun z => a ⟨z.1, by omega⟩)]), fun i hi => ?_, ?_, ?_⟩
    · rw [q_rw_o (by decide), g2.1 _ _ (by omega)]
    · rw [hZ, e_M_fails, sm_some]
      exact if_pos (Or.inl rfl)
    · rw [q_rw, a8]
  rw [e_M_isNumber, g1, sm_some]
  cases hnum : num (s.1 43) n q with
  | none =>
    rw [if_neg (fun z => k2 hnum ((lg_cmp_eq _ _).mp z))]
    obtain ⟨s3, b1, b2, b3, b4⟩ := bad rfl
    exact ⟨s3, b1, b2, Or.inl ⟨q, rfl, b3, b4⟩⟩
  | some v =>
    obtain ⟨c1, c2, c3⟩ := k1 v hnum
    have hv := num_le hnum
    rw [if_pos ((lg_cmp_eq _ _).mpr c1), c2, m_inR (by omega) (by omega) (by omega), sm_some]
    dsimp only
    by_cases z : l ≤ v ∧ v < h
    · rw [decide_eq_true z, bt0, if_pos z, if_pos (qIn_n (by omega) (by omega)), nI_cl (by omega), c2]
      refine ⟨qW s1 44 (W + 1 + j) (nI v), F1.tr (fun o i _ b => by rw [q_rw_if, if_neg (fun z => b ⟨z.1, by omega⟩)]), fun i hi => ?_, Or.inr ⟨_, rfl, rfl, ?_, ?_, q_rw⟩⟩
      · rw [q_rw_k (by omega), g2.1 _ _ (by omega)]
      · rw [q_rw_o (by decide)]
        exact c3
      · show run isD (s.1 43) q (n - q) ≤ n
        omega
    · rw [decide_eq_false z, bf0, if_neg z]
      obtain ⟨s3, b1, b2, b3, b4⟩ := bad rfl
      exact ⟨s3, b1, b2, Or.inl ⟨q, rfl, b3, b4⟩⟩
/-- some numbers -/
noncomputable def mN (d W : Nat) (lw : Nat → Nat) (g : Nat → qMem → Int32) : Nat → Nat → qMem → Option (Int32 × qMem)
  | 0, _, s => some (1, s)
  | m + 1, j, s => (m_M_isNumber (d + 3) (nI (W + 1 + j)) (nI (lw j)) (g j s) s).bind (fun q => if q.1 = 0 then some (0, q.2) else mN d W lw g m (j + 1) q.2)
theorem m_mN {W : Nat} {lw up : Nat → Nat} {g : Nat → qMem → Int32} {s0 : qMem} (hn : n ≤ 200) (hW : W + 4 ≤ 60) (hl : ∀ j, j < 3 → lw j ≤ 200) (hu : ∀ j, up j ≤ 200) (hg : ∀ j s, FLN W s0 s → g j s = dI (up j)) : ∀ (m j p : Nat) (v : Nat → Nat) (s : qMem), FLN W s0 s → j + m ≤ 3 → p ≤ n → s.1 40 5 = nI n → s.1 40 7 = nI p → s.1 43 = B → (∀ i, i < j → s.1 44 (W + 1 + i) = nI (v i)) → ∃ s2, FLN W s s2 ∧ ((∃ q, rdN B n lw up m j p v = .inl q ∧ mN d W lw g m j s = some (0, s2) ∧ s2.1 40 12 = nI q) ∨ ∃ x, rdN B n lw up m j p v = .inr x ∧ mN d W lw g m j s = some (1, s2) ∧ s2.1 40 7 = nI x.1 ∧ x.1 ≤ n ∧ ∀ i, i < j + m → s2.1 44 (W + 1 + i) = nI (x.2 i)) := by
  intro m
  induction m with
  | zero =>
    intro j p v s hF hj hp h5 h7 hB hv
    exact ⟨s, FLN.rf, Or.inr ⟨(p, v), rfl, rfl, h7, hp, hv⟩⟩
  | succ m ih =>
    intro j p v s hF hj hp h5 h7 hB hv
    obtain ⟨s3, f3, k3, h⟩ := m_num (d := d) (W := W) (j := j) (l := lw j) (h := up j) hn (by omega) (by omega) (hl j (by omega)) (hu j) hp h5 h7 hB
    rw [rdN, mN, hg j s hF]
    rcases h with ⟨q, hr, ho, h12⟩ | ⟨x, hr, ho, g7, hx, h44⟩
    · rw [hr, ho, sm_some]
      exact ⟨s3, f3, Or.inl ⟨q, rfl, if_pos rfl, h12⟩⟩
    · rw [hr, ho, sm_some]
      dsimp only
      rw [if_neg (show ¬ (1 : Int32) = 0 from by decide)]
      obtain ⟨s2, t1, t2⟩ := ih (j + 1) x.2 (fUpd v j x.1) s3 (hF.tr f3) (by omega) hx (by rw [f3 _ _ (by omega) (by omega)]; exact h5) g7 (by rw [← hB]; exact funext (fun i => f3 _ _ (by omega) (by omega))) (fun i hi => by
        by_cases z : i = j
        · subst z
          rw [h44, fUpd_s]
        · rw [k3 i (by omega), fUpd_n z]
          exact hv i (by omega))
      refine ⟨s2, f3.tr t1, ?_⟩
      rcases t2 with ⟨q, u1, u2, u3⟩ | ⟨y, u1, u2, u3, u4, u5⟩
      · exact Or.inl ⟨q, u1, u2, u3⟩
      · exact Or.inr ⟨y, u1, u2, u3, u4, fun i hi => u5 i (by omega)⟩
/-- which word the token is, by two rows of comparisons -/
def cA (t : Int64) : Int32 := if lg_cmp t 6334396438 = 0 then 0 else if lg_cmp t 237923154 = 0 then 1 else if lg_cmp t 8868856 = 0 then 2 else if lg_cmp t 10124021 = 0 then 3 else (if lg_cmp t 10492029 = 0 then 4 else -1)
def cB (t : Int64) : Int32 := if lg_cmp t 388708 = 0 then 5 else if lg_cmp t 365666 = 0 then 6 else if lg_cmp t 247162 = 0 then 7 else if lg_cmp t 47 = 0 then 8 else (if lg_cmp t 208906747 = 0 then 9 else -1)
def rk (k : Nat) : Nat := qNth [4, 5, 6, 7, 8, 9, 0, 1, 2, 3] k
theorem word_val : ∀ k, k < 10 → (if cA (lN (wNum k)) = -1 then cB (lN (wNum k)) else cA (lN (wNum k))) = nI (rk k) := by decide +kernel
theorem word_none {t : Int64} (h : ∀ k, k < 10 → t ≠ lN (wNum k)) : (if cA t = -1 then cB t else cA t) = -1 := by
  have hc : ∀ k, k < 10 → ∀ L : Int64, lN (wNum k) = L → ¬ lg_cmp t L = 0 := fun k hk L e z => h k hk (((lg_cmp_eq _ _).mp z).trans e.symm)
  have e1 : cA t = -1 := by
    unfold cA
    rw [if_neg (hc 6 (by omega) 6334396438 (by decide +kernel)), if_neg (hc 7 (by omega) 237923154 (by decide +kernel)), if_neg (hc 8 (by omega) 8868856 (by decide +kernel)), if_neg (hc 9 (by omega) 10124021 (by decide +kernel)), if_neg (hc 0 (by omega) 10492029 (by decide +kernel))]
  have e2 : cB t = -1 := by
    unfold cB
    rw [if_neg (hc 1 (by omega) 388708 (by decide +kernel)), if_neg (hc 2 (by omega) 365666 (by decide +kernel)), if_neg (hc 3 (by omega) 247162 (by decide +kernel)), if_neg (hc 4 (by omega) 47 (by decide +kernel)), if_neg (hc 5 (by omega) 208906747 (by decide +kernel))]
  rw [e1, e2]
  rfl
theorem m_chain2 {w z0 : Int32} {s : qMem} : l_M_isLine_1 d w z0 s = l_M_isLine_2 d w z0 (cB s.2) s := by
  rw [el_M_isLine_1]
  unfold cB
  by_cases h1 : lg_cmp s.2 388708 = 0
  · rw [if_pos h1, if_pos h1]
  · rw [if_neg h1, if_neg h1]
    by_cases h2 : lg_cmp s.2 365666 = 0
    · rw [if_pos h2, if_pos h2]
    · rw [if_neg h2, if_neg h2]
      by_cases h3 : lg_cmp s.2 247162 = 0
      · rw [if_pos h3, if_pos h3]
      · rw [if_neg h3, if_neg h3]
        by_cases h4 : lg_cmp s.2 47 = 0
        · rw [if_pos h4, if_pos h4]
        · rw [if_neg h4, if_neg h4]
theorem m_chain {w : Int32} {s s1 : qMem} (h : m_M_nextToken d s = some s1) : m_M_isLine (d + 1) w s = l_M_isLine_2 d w (cA s1.2) (cB s1.2) s1 := by
  rw [e_M_isLine, h, sm_some, m_chain2, m_chain2, m_chain2, m_chain2, m_chain2]
  unfold cA
  by_cases h1 : lg_cmp s1.2 6334396438 = 0
  · rw [if_pos h1, if_pos h1]
  · rw [if_neg h1, if_neg h1]
    by_cases h2 : lg_cmp s1.2 237923154 = 0
    · rw [if_pos h2, if_pos h2]
    · rw [if_neg h2, if_neg h2]
      by_cases h3 : lg_cmp s1.2 8868856 = 0
      · rw [if_pos h3, if_pos h3]
      · rw [if_neg h3, if_neg h3]
        by_cases h4 : lg_cmp s1.2 10124021 = 0
        · rw [if_pos h4, if_pos h4]
        · rw [if_neg h4, if_neg h4]
end MNUM
