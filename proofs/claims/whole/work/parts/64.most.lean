/-! most and lasts -/
section MOST
variable {d : Nat} {c : Co} {M : Nat → Bool}
theorem i_better {a m : Nat} (ha : a < 32) (hm : m < 32) {α : Type} {X : Int32 → α} : (if (0 : Int32) < nI (pc m) - nI (pc a) then X (nI m) else if nI (pc m) - nI (pc a) = 0 then (if nI a ≤ nI m then X (nI a) else X (nI m)) else X (nI a)) = X (nI (better a m)) := by
  have h1 := pc_sub (pc m) (by have := pc_le m hm; omega) (pc a) (by have := pc_le a ha; omega)
  unfold better
  by_cases z : pc a < pc m
  · rw [if_pos (h1.1.mpr z), if_pos z]
  · rw [if_neg (fun x => z (h1.1.mp x)), if_neg z]
    by_cases y : pc m = pc a
    · rw [if_pos (h1.2.mpr y), if_pos y]
      by_cases w : a ≤ m
      · rw [if_pos (nI_le w (by omega)), if_pos w]
      · rw [if_neg (by rw [nI_leI (by omega) (by omega)]; exact w), if_neg w]
    · rw [if_neg (fun x => y (h1.2.mp x)), if_neg y]
theorem s_most1 {b : Bf} (hk : cOk c) (hO : bOk c (cN c) b) : ∀ (q i a : Nat) (s : qMem), i + q = bN b → RT s 1 c → RS s b → a < 32 → ∃ s2, l_S_fullestTop_1 (d + 1) (nI a) (nI i) s = some (nI (cMost b (cTop c) (cN c) i q a), s2) ∧ F30 s s2 := by
  have h5 := hk.2.1
  have hp5 := pow5 (cN c) h5
  intro q
  induction q with
  | zero =>
    intro i a s hi hR hS ha
    have := hO.1
    refine ⟨s, ?_, F30.rf⟩
    rw [el_S_fullestTop_1, hS.1, if_pos (nI_le (by omega) (by omega))]
    rfl
  | succ q ih =>
    intro i a s hi hR hS ha
    have := hO.1
    obtain ⟨o1, -, -⟩ := hO.2.1 i (by omega)
    obtain ⟨s1, u1, u2, u3, u4⟩ := s_unfold (d := d) (s := s) (show bF b i < 2 ^ 31 by omega)
    have F1 : F30 s s1 := ⟨u2, u3⟩
    have S1 := F1.RS hS
    have R1 := F1.Fs.RT (Or.inl rfl) hR
    have hm : aTop (cTop c) (cDig (bF b i)) 0 (cN c) 0 < 32 := aTop_lt (cN c) 0 0 (by omega) (by omega)
    have ht := t_top (d := d) (r := 30) (s := s1) (Or.inr rfl) hk R1 (fun p hp => u4 p (by omega)) (fun p _ => cDig_le (bF b i) p)
    generalize hmm : aTop (cTop c) (cDig (bF b i)) 0 (cN c) 0 = m at hm ht
    obtain ⟨s2, g1, g2⟩ := ih (i + 1) (better a m) s1 (by omega) R1 S1 (better_lt ha hm)
    refine ⟨s2, ?_, F1.tr g2⟩
    rw [el_S_fullestTop_1, hS.1, if_neg (by rw [nI_leI (by omega) (by omega)]; omega), if_neg (not_le3125 (by omega)), if_pos (qIn_n (by omega) (by omega)), nI_cl (by omega), hS.2.1 i (by omega), u1, sm_some, ht, sm_some]
    dsimp only
    rw [t_bitCount hm, sm_some]
    dsimp only
    rw [t_bitCount ha, sm_some, nI_1, cMost, hmm]
    dsimp only
    exact (i_better ha hm (X := fun y => l_S_fullestTop_1 (d + 1) y (nI (i + 1)) s1)).trans g1
theorem m_top2 {b : Bf} {w : Nat → Nat} {i : Nat} {x1 : Int32} {s : qMem} (hk : cOk c) (hR : RM s c) (hL : RL s 54 (cN c) w) (hw : ∀ p, p < cN c → w p ≤ 4) : ∀ (q p a : Nat) (x2 x3 : Int32), p + q = cN c → a < 32 → l_M_most_2 d x1 x2 x3 (nI i) (nI a) (nI p) s = l_M_most_2 d x1 x2 x3 (nI i) (nI (aTop (cTop c) w p q a)) (nI (cN c)) s := by
  have h5 := hk.2.1
  have h4 := hk.1
  intro q
  induction q with
  | zero =>
    intro p a x2 x3 hp ha
    rw [show p = cN c by omega]
    rfl
  | succ q ih =>
    intro p a x2 x3 hp ha
    have h9 := hw p (by omega)
    rw [el_M_most_2, hR.2.1, if_neg (by rw [nI_leI (by omega) (by omega)]; omega), if_pos (qIn_n (by omega) (by omega)), nI_cl (by omega), hL p (by omega), hR.1, orb_i a ha p (by omega), or_0, nI_1, aTop]
    by_cases z : w p = cTop c
    · rw [if_pos (by rw [z]), if_pos z]
      exact ih (p + 1) _ x2 x3 (by omega) (orb_lt a ha p (by omega))
    · rw [if_neg (by rw [nI_eq (by omega) (by omega)]; exact z), if_neg z]
      exact ih (p + 1) a x2 x3 (by omega) ha
theorem m_better {i : Nat} {a m : Nat} {x1 : Int32} {s : qMem} (hk : cOk c) (hR : RM s c) (ha : a < 32) (hm : m < 32) : l_M_most_2 (d + 1) x1 (nI a) (nI (pc a)) (nI i) (nI m) (nI (cN c)) s = l_M_most_1 (d + 1) x1 (nI (better a m)) (nI (pc (better a m))) (nI (i + 1)) s := by
  have h5 := hk.2.1
  have p1 := pc_le m hm
  have p2 := pc_le a ha
  rw [el_M_most_2, hR.2.1, if_pos (nI_le (Nat.le_refl _) (by omega)), m_bits hm, sm_some, nI_1]
  dsimp only
  by_cases z : pc a < pc m
  · rw [if_pos (by rw [nI_ltI (by omega) (by omega)]; exact z), show better a m = m from if_pos z, m_bits hm, sm_some]
  · rw [if_neg (by rw [nI_ltI (by omega) (by omega)]; exact z), m_bits hm, sm_some]
    dsimp only
    by_cases y : pc m = pc a
    · rw [if_pos (by rw [y]), show better a m = if a ≤ m then a else m from by unfold better; rw [if_neg z, if_pos y]]
      by_cases w : a ≤ m
      · rw [if_pos (nI_le w (by omega)), if_pos w, if_pos rfl, m_bits ha, sm_some]
      · have w2 : ¬ nI a ≤ nI m := by
          rw [nI_leI (by omega) (by omega)]
          exact w
        rw [if_neg w2, if_neg w, if_neg (show ¬ (1 : Int32) = 0 from by decide), m_bits hm, sm_some]
    · rw [if_neg (by rw [nI_eq (by omega) (by omega)]; exact y), m_bits ha, sm_some, show better a m = a from by unfold better; rw [if_neg z, if_neg y]]
theorem better_0 {m : Nat} (hm : m < 32) : better 0 m = m := by
  have h := pc_0 m hm
  unfold better
  by_cases z : pc 0 < pc m
  · rw [if_pos z]
  · rw [if_neg z]
    have e : pc 0 = 0 := rfl
    have : pc m = 0 := by omega
    rw [if_pos (by rw [this]; rfl), if_pos (Nat.zero_le _)]
    exact (h this).symm
theorem m_first {i m : Nat} {x1 : Int32} {s : qMem} (hk : cOk c) (hR : RM s c) (hm : m < 32) : l_M_most_2 (d + 1) x1 0 (-1) (nI i) (nI m) (nI (cN c)) s = l_M_most_1 (d + 1) x1 (nI m) (nI (pc m)) (nI (i + 1)) s := by
  have h5 := hk.2.1
  have p1 := pc_le m hm
  have hlt : (-1 : Int32) < nI (pc m) := by
    have : ∀ x, x < 6 → (-1 : Int32) < nI x := by decide
    exact this _ (by omega)
  rw [el_M_most_2, hR.2.1, if_pos (nI_le (Nat.le_refl _) (by omega)), m_bits hm, sm_some, nI_1]
  dsimp only
  rw [if_pos hlt, m_bits hm, sm_some]
theorem m_most1 {b : Bf} {x1 : Int32} (hk : cOk c) (hO : bOk c (cN c) b) : ∀ (q i a : Nat) (x2 x3 : Int32) (s : qMem), i + q = bN b → RM s c → RN s b → a < 32 → (x2 = nI a ∧ x3 = nI (pc a) ∨ a = 0 ∧ x2 = 0 ∧ x3 = -1 ∧ 0 < q) → ∃ s2, l_M_most_1 (d + 1) x1 x2 x3 (nI i) s = some ((if x1 = 0 then nI (pc (cMost b (cTop c) (cN c) i q a)) else nI (cMost b (cTop c) (cN c) i q a)), s2) ∧ FM s s2 := by
  have h5 := hk.2.1
  have hp5 := pow5 (cN c) h5
  intro q
  induction q with
  | zero =>
    intro i a x2 x3 s hi hR hS ha hx
    have := hO.1
    rcases hx with ⟨x4, x5⟩ | ⟨-, -, -, x6⟩
    · subst x4 x5
      refine ⟨s, ?_, FM.rf⟩
      rw [el_M_most_1, hS.1, if_pos (nI_le (by omega) (by omega))]
      rfl
    · omega
  | succ q ih =>
    intro i a x2 x3 s hi hR hS ha hx
    have := hO.1
    obtain ⟨o1, -, -⟩ := hO.2.1 i (by omega)
    obtain ⟨s1, u1, u2, u3, u4⟩ := m_place (d := d) (s := s) h5 hR.2.1 (show bF b i < 2 ^ 31 by omega)
    have F1 : FM s s1 := ⟨fun o k q _ => u2 o k (by omega), u3⟩
    have S1 : RN s1 b := RN_o u2 hS
    have R1 := F1.RM hR
    have hm : aTop (cTop c) (cDig (bF b i)) 0 (cN c) 0 < 32 := aTop_lt (cN c) 0 0 (by omega) (by omega)
    have ht := m_top2 (d := d + 1) (b := b) (w := cDig (bF b i)) (i := i) (x1 := x1) (s := s1) hk R1 u4 (fun p _ => cDig_le (bF b i) p) (cN c) 0 0 x2 x3 (by omega) (by omega)
    generalize hmm : aTop (cTop c) (cDig (bF b i)) 0 (cN c) 0 = m at hm ht
    obtain ⟨s2, g1, g2⟩ := ih (i + 1) (better a m) _ _ s1 (by omega) R1 S1 (better_lt ha hm) (Or.inl ⟨rfl, rfl⟩)
    refine ⟨s2, ?_, F1.tr g2⟩
    rw [el_M_most_1, hS.1, if_neg (by rw [nI_leI (by omega) (by omega)]; omega), if_pos (qIn_n (by omega) (by omega)), nI_cl (by omega), hS.2.1 i (by omega), u1, sm_some, cMost, hmm]
    refine Eq.trans ht (Eq.trans ?_ g1)
    rcases hx with ⟨x4, x5⟩ | ⟨x3, x4, x5, -⟩
    · subst x4 x5
      exact m_better hk R1 ha hm
    · subst x3 x4 x5
      rw [better_0 hm]
      exact m_first hk R1 hm
end MOST
