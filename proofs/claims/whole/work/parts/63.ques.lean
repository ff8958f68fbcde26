/-! what is asked of a search: many, soon, most -/
def F30 (s s2 : qMem) : Prop := (∀ o k, o ≠ 30 → s2.1 o k = s.1 o k) ∧ s2.2 = s.2
theorem F30.rf {s : qMem} : F30 s s := ⟨fun _ _ _ => rfl, rfl⟩
theorem F30.tr {s s2 s3 : qMem} (h : F30 s s2) (h2 : F30 s2 s3) : F30 s s3 := ⟨fun o k q => (h2.1 o k q).trans (h.1 o k q), h2.2.trans h.2⟩
theorem F30.RS {s s2 : qMem} {b : Bf} (h : F30 s s2) (hS : RS s b) : RS s2 b := by
  obtain ⟨a1, a2, a3, a4⟩ := hS
  exact ⟨by rw [h.1 _ _ (by decide)]; exact a1, fun j hj => by rw [h.1 _ _ (by decide)]; exact a2 j hj, fun k hk => by rw [h.1 _ _ (by decide)]; exact a3 k hk, fun j hj => by rw [h.1 _ _ (by decide)]; exact a4 j hj⟩
theorem F30.Fs {s s2 : qMem} (h : F30 s s2) : Fs s s2 := ⟨fun o k q => h.1 o k (by omega), h.2⟩
def pc (m : Nat) : Nat := m % 2 + m / 2 % 2 + m / 4 % 2 + m / 8 % 2 + m / 16 % 2
def orb (m p : Nat) : Nat := m ||| 1 <<< p
theorem orb_i : ∀ m, m < 32 → ∀ p, p < 5 → nI m ||| ((1 : Int32) <<< (nI p &&& 31)) = nI (orb m p) := by decide +kernel
theorem orb_lt : ∀ m, m < 32 → ∀ p, p < 5 → orb m p < 32 := by decide +kernel
theorem orb_bit : ∀ m, m < 32 → ∀ p, p < 5 → ∀ q, q < 5 → (orb m p).testBit q = (m.testBit q || decide (q = p)) := by decide +kernel
theorem or_0 (x : Int32) : x ||| 0 = x := Int32.or_zero
theorem pc_bit : ∀ m, m < 32 → ∀ k, k < 5 → (nI m >>> (nI k &&& 31)) &&& 1 = nI (m / 2 ^ k % 2) := by decide +kernel
theorem pc_le : ∀ m, m < 32 → pc m ≤ 5 := by decide +kernel
theorem pc_0 : ∀ m, m < 32 → pc m = 0 → m = 0 := by decide +kernel
theorem pc_sub : ∀ x, x < 6 → ∀ y, y < 6 → ((0 : Int32) < nI x - nI y ↔ y < x) ∧ (nI x - nI y = 0 ↔ x = y) := by decide +kernel
theorem t_bitCount {d m : Nat} {s : qMem} (h : m < 32) : m_bitCount (d + 1) (nI m) s = some (nI (pc m), s) := by
  rw [e_bitCount]
  refine congrArg (fun q => some (q, s)) ?_
  revert h m
  decide +kernel
theorem m_bits {d m : Nat} {s : qMem} (h : m < 32) : m_M_bits (d + 1) (nI m) s = some (nI (pc m), s) := by
  have hb := pc_bit m h
  rw [e_M_bits]
  have step : ∀ k a, k < 5 → l_M_bits_1 d (nI m) (nI a) (nI k) s = l_M_bits_1 d (nI m) (nI (a + m / 2 ^ k % 2)) (nI (k + 1)) s := by
    intro k a hk
    rw [el_M_bits_1, if_neg (not_le5 hk), hb k hk, nI_add, nI_1]
  have := step 0 0 (by omega)
  refine (step 0 0 (by omega)).trans ((step 1 _ (by omega)).trans ((step 2 _ (by omega)).trans ((step 3 _ (by omega)).trans ((step 4 _ (by omega)).trans ?_))))
  rw [el_M_bits_1, if_pos (by decide)]
  unfold pc
  rw [Nat.zero_add, Nat.pow_zero, Nat.div_one]
def cMany (b : Bf) (n : Int32) : Nat → Nat → Int32 → Int32
  | _, 0, a => a
  | i, q + 1, a => cMany b n (i + 1) q (if oI (bD b (bF b i)) = n then a + 1 else a)
def cSoon (b : Bf) (t p : Nat) : Nat → Nat → Int32
  | _, 0 => -1
  | i, q + 1 => if cDig (bF b i) p = t then oI (bD b (bF b i)) else cSoon b t p (i + 1) q
def aTop (t : Nat) (lv : Nat → Nat) : Nat → Nat → Nat → Nat
  | _, 0, a => a
  | p, q + 1, a => aTop t lv (p + 1) q (if lv p = t then orb a p else a)
def better (a m : Nat) : Nat := if pc a < pc m then m else if pc m = pc a then (if a ≤ m then a else m) else a
def cMost (b : Bf) (t n : Nat) : Nat → Nat → Nat → Nat
  | _, 0, a => a
  | i, q + 1, a => cMost b t n (i + 1) q (better a (aTop t (cDig (bF b i)) 0 n 0))
theorem aTop_lt {t : Nat} {lv : Nat → Nat} : ∀ (q p a : Nat), p + q ≤ 5 → a < 32 → aTop t lv p q a < 32 := by
  intro q
  induction q with
  | zero => intro p a _ h; exact h
  | succ q ih =>
    intro p a hp h
    rw [aTop]
    refine ih _ _ (by omega) ?_
    split
    · exact orb_lt a h p (by omega)
    · exact h
theorem better_lt {a m : Nat} (ha : a < 32) (hm : m < 32) : better a m < 32 := by
  unfold better
  split
  · exact hm
  · split
    · split
      · exact ha
      · exact hm
    · exact ha
section QUES
variable {d : Nat} {c : Co} {M : Nat → Bool}
theorem s_many1 {b : Bf} {n : Int32} (hk : cOk c) (hO : bOk c (cN c) b) : ∀ (q i : Nat) (a : Int32) (s : qMem), i + q = bN b → RS s b → l_S_positionsBehind_1 (d + 2) n a (nI i) s = some (cMany b n i q a, s) := by
  have hp5 := pow5 (cN c) hk.2.1
  intro q
  induction q with
  | zero =>
    intro i a s hi hS
    have := hO.1
    rw [el_S_positionsBehind_1, hS.1, if_pos (nI_le (by omega) (by omega))]
    rfl
  | succ q ih =>
    intro i a s hi hS
    have := hO.1
    obtain ⟨o1, -, -⟩ := hO.2.1 i (by omega)
    rw [el_S_positionsBehind_1, hS.1, if_neg (by rw [nI_leI (by omega) (by omega)]; omega), if_neg (not_le3125 (by omega)), if_pos (qIn_n (by omega) (by omega)), nI_cl (by omega), hS.2.1 i (by omega), s_awayAny (by omega) hS, sm_some, nI_1]
    dsimp only
    rw [cMany]
    by_cases z : oI (bD b (bF b i)) = n
    · rw [if_pos z, if_pos z]
      exact ih (i + 1) _ s (by omega) hS
    · rw [if_neg z, if_neg z]
      exact ih (i + 1) _ s (by omega) hS
theorem m_many1 {b : Bf} {n : Int32} (hk : cOk c) (hO : bOk c (cN c) b) : ∀ (q i : Nat) (a : Int32) (s : qMem), i + q = bN b → RN s b → l_M_many_1 d n a (nI i) s = some (cMany b n i q a, s) := by
  have hp5 := pow5 (cN c) hk.2.1
  intro q
  induction q with
  | zero =>
    intro i a s hi hS
    have := hO.1
    rw [el_M_many_1, hS.1, if_pos (nI_le (by omega) (by omega))]
    rfl
  | succ q ih =>
    intro i a s hi hS
    have := hO.1
    obtain ⟨o1, -, -⟩ := hO.2.1 i (by omega)
    rw [el_M_many_1, hS.1, if_neg (by rw [nI_leI (by omega) (by omega)]; omega), if_pos (qIn_n (by omega) (by omega)), nI_cl (by omega), hS.2.1 i (by omega), if_pos (qIn_n (by omega) (by omega)), nI_cl (by omega), hS.2.2.1 _ (by omega), nI_1, cMany]
    by_cases z : oI (bD b (bF b i)) = n
    · rw [if_pos z, if_pos z]
      exact ih (i + 1) _ s (by omega) hS
    · rw [if_neg z, if_neg z, Int32.add_zero]
      exact ih (i + 1) _ s (by omega) hS
theorem s_soon1 {b : Bf} {t p : Nat} (hk : cOk c) (hO : bOk c (cN c) b) (hp : p < 5) (ht : t ≤ 4) : ∀ (q i : Nat) (s : qMem), i + q = bN b → RS s b → ∃ s2, l_S_fewestFor_1 (d + 2) (nI p) (nI t) (nI i) s = some (cSoon b t p i q, s2) ∧ F30 s s2 := by
  have hp5 := pow5 (cN c) hk.2.1
  intro q
  induction q with
  | zero =>
    intro i s hi hS
    have := hO.1
    refine ⟨s, ?_, F30.rf⟩
    rw [el_S_fewestFor_1, hS.1, if_pos (nI_le (by omega) (by omega))]
    rfl
  | succ q ih =>
    intro i s hi hS
    have := hO.1
    obtain ⟨o1, -, -⟩ := hO.2.1 i (by omega)
    obtain ⟨s1, u1, u2, u3, u4⟩ := s_unfold (d := d + 1) (s := s) (show bF b i < 2 ^ 31 by omega)
    have F1 : F30 s s1 := ⟨u2, u3⟩
    have S1 := F1.RS hS
    have h9 := cDig_le (bF b i) p
    rw [el_S_fewestFor_1, hS.1, if_neg (by rw [nI_leI (by omega) (by omega)]; omega), if_neg (not_le3125 (by omega)), if_pos (qIn_n (by omega) (by omega)), nI_cl (by omega), hS.2.1 i (by omega), u1, sm_some, if_pos (qIn_n hp (by omega)), nI_cl (by omega), u4 p hp, nI_1, cSoon]
    by_cases z : cDig (bF b i) p = t
    · refine ⟨s1, ?_, F1⟩
      rw [if_pos (by rw [z]), if_pos z, if_pos (qIn_n (by omega) (by omega)), S1.2.1 i (by omega), s_awayAny (by omega) S1, sm_some]
    · obtain ⟨s2, g1, g2⟩ := ih (i + 1) s1 (by omega) S1
      refine ⟨s2, ?_, F1.tr g2⟩
      rw [if_neg (by rw [nI_eq (by omega) (by omega)]; exact z), if_neg z]
      exact g1
theorem m_soon1 {b : Bf} {p : Nat} (hk : cOk c) (hO : bOk c (cN c) b) (hp : p < cN c) : ∀ (q i : Nat) (s : qMem), i + q = bN b → RM s c → RN s b → ∃ s2, l_M_soon_1 (d + 1) (nI p) (nI i) s = some (cSoon b (cTop c) p i q, s2) ∧ FM s s2 := by
  have hp5 := pow5 (cN c) hk.2.1
  have h5 := hk.2.1
  have h4 := hk.1
  intro q
  induction q with
  | zero =>
    intro i s hi hR hS
    have := hO.1
    refine ⟨s, ?_, FM.rf⟩
    rw [el_M_soon_1, hS.1, if_pos (nI_le (by omega) (by omega))]
    rfl
  | succ q ih =>
    intro i s hi hR hS
    have := hO.1
    obtain ⟨o1, -, -⟩ := hO.2.1 i (by omega)
    obtain ⟨s1, u1, u2, u3, u4⟩ := m_place (d := d) (s := s) h5 hR.2.1 (show bF b i < 2 ^ 31 by omega)
    have F1 : FM s s1 := ⟨fun o k q _ => u2 o k (by omega), u3⟩
    have S1 : RN s1 b := RN_o u2 hS
    have R1 := F1.RM hR
    have h9 := cDig_le (bF b i) p
    rw [el_M_soon_1, hS.1, if_neg (by rw [nI_leI (by omega) (by omega)]; omega), if_pos (qIn_n (by omega) (by omega)), nI_cl (by omega), hS.2.1 i (by omega), u1, sm_some, if_pos (qIn_n (by omega) (by omega)), nI_cl (by omega), u4 p hp, R1.1, nI_1, cSoon]
    by_cases z : cDig (bF b i) p = cTop c
    · refine ⟨s1, ?_, F1⟩
      rw [if_pos (by rw [z]), if_pos z, if_pos (qIn_n (by omega) (by omega)), S1.2.1 i (by omega), if_pos (qIn_n (by omega) (by omega)), nI_cl (by omega), S1.2.2.1 _ (by omega)]
    · obtain ⟨s2, g1, g2⟩ := ih (i + 1) s1 (by omega) R1 S1
      refine ⟨s2, ?_, F1.tr g2⟩
      rw [if_neg (by rw [nI_eq (by omega) (by omega)]; exact z), if_neg z]
      exact g1
theorem t_top1 {r : Nat} {lv : Nat → Nat} {s : qMem} (hr : r = 23 ∨ r = 30) (hk : cOk c) (hR : RT s 1 c) (hL : RL s r (cN c) lv) (hl : ∀ p, p < cN c → lv p ≤ 4) : ∀ (q p a : Nat), p + q = cN c → a < 32 → l_T_setAtTop_1 d r (nI a) (nI p) s = some (nI (aTop (cTop c) lv p q a), s) := by
  have h5 := hk.2.1
  have h4 := hk.1
  intro q
  induction q with
  | zero =>
    intro p a hp ha
    rw [el_T_setAtTop_1 _ _ _ _ hr, hR.2.1, if_pos (nI_le (by omega) (by omega))]
    rfl
  | succ q ih =>
    intro p a hp ha
    have h9 := hl p (by omega)
    rw [el_T_setAtTop_1 _ _ _ _ hr, hR.2.1, if_neg (by rw [nI_leI (by omega) (by omega)]; omega), if_neg (not_le5 (by omega)), if_pos (qIn_n (by omega) (by omega)), nI_cl (by omega), hL p (by omega), hR.1, orb_i a ha p (by omega), nI_1, aTop]
    by_cases z : lv p = cTop c
    · rw [if_pos (by rw [z]), if_pos z]
      exact ih (p + 1) _ (by omega) (orb_lt a ha p (by omega))
    · rw [if_neg (by rw [nI_eq (by omega) (by omega)]; exact z), if_neg z]
      exact ih (p + 1) a (by omega) ha
theorem t_top {r : Nat} {lv : Nat → Nat} {s : qMem} (hr : r = 23 ∨ r = 30) (hk : cOk c) (hR : RT s 1 c) (hL : RL s r (cN c) lv) (hl : ∀ p, p < cN c → lv p ≤ 4) : m_T_setAtTop (d + 1) r s = some (nI (aTop (cTop c) lv 0 (cN c) 0), s) := by
  rw [e_T_setAtTop _ _ hr]
  exact t_top1 hr hk hR hL hl (cN c) 0 0 (by omega) (by omega)
end QUES
