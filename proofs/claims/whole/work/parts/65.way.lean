/-! the way: back from the goal -/
def bBack (b : Bf) : Nat → Nat → Nat
  | 0, x => x
  | k + 1, x => bBack b k (bP b x)
theorem p5_inj : ∀ p, p < 5 → ∀ q, q < 5 → (nI (5 ^ p) = nI (5 ^ q) ↔ p = q) := by decide +kernel
theorem i_abs {x y p : Nat} (hx : x < 3125) (hy : y < 3125) (hp : 1 ≤ p) (h : x = y + p ∨ x + p = y) : (if (0 : Int32) ≤ nI x - nI y then nI x - nI y else 0 - (nI x - nI y)) = nI p := by
  rcases h with h | h
  · have e1 : nI x - nI y = nI p := by
      rw [pk_sub (by omega), show x - y = p by omega]
    have e2 : (0 : Int32) ≤ nI p := nI_le (Nat.zero_le _) (by omega)
    rw [e1, if_pos e2]
  · have e1 : (nI x - nI y).toInt = (x : Int) - y := pk_sub_toInt (by omega) (by omega)
    have e2 : ¬ (0 : Int32) ≤ nI x - nI y := by
      rw [Int32.le_iff_toInt_le, e1]
      have e0 : (0 : Int32).toInt = 0 := by decide
      omega
    rw [if_neg e2, Int32.zero_sub, Int32.neg_sub, pk_sub (by omega), show y - x = p by omega]
section WAY
variable {d : Nat} {c : Co} {M : Nat → Bool}
/-- one step back -/
theorem bAll_back {st : Nat} {b : Bf} {x e : Nat} (h : bAll c M st b) (hx : bD b x = some (e + 1)) : ∃ i p u, 0 < i ∧ i < bN b ∧ bF b i = x ∧ bD b (bP b x) = some e ∧ mvs c M (bP b x) p u x ∧ bM b x = 2 * p + u ∧ bP b x < 5 ^ cN c ∧ ∀ q, q < cN c → cDig (bP b x) q ≤ cTop c := by
  obtain ⟨hO, hE, -, hN, h0, h1⟩ := h
  obtain ⟨i, i1, i2⟩ := (hO.2.2.1 x).mp (by rw [hx]; rfl)
  have i0 : 0 < i := by
    rcases Nat.eq_zero_or_pos i with z | z
    · rw [z, h0] at i2
      rw [← i2, h1] at hx
      cases hx
    · exact z
  obtain ⟨j, p, u, e2, q1, q2, q3, q4, q5, q6⟩ := hE i i0 i1
  rw [i2] at q2 q3 q4 q6
  rw [hx] at q6
  cases q6
  obtain ⟨o1, o2, -⟩ := hO.2.1 j (by omega)
  rw [← q3] at q2 q5 o1 o2
  exact ⟨i, p, u, i0, i1, i2, q5, q2, q4, o1, o2⟩
theorem s_aheadOf {s : qMem} {b : Bf} {i : Nat} (h : bF b i < 3125) (hS : RS s b) (hi : i < bN b) (h0 : 0 < i) : m_S_aheadOf (d + 2) (nI (bF b i)) s = some (nI (bP b (bF b i)), s) := by
  have e9 : s.1 28 (bF b i) = nI (bP b (bF b i)) := by rw [hS.2.2.2 i hi, if_neg (by omega)]
  rw [e_S_aheadOf, s_isPos h, sm_some]
  simp (disch := omega) only [sm_some, q_lit, q_neg1, nI_leI, nI_ltI, nI_eq, nI_cl, qIn_iff, nI_d0, d0_nI, dI_d0, dI_le, dI_eq, dI_n1, nI_1, nI_add, pk_mul, pk_div, nI_lt0, if_pos, if_neg, if_true, if_false, n10, e9]
theorem s_back1 {st : Nat} {b : Bf} {s : qMem} {k : Nat} (hk : cOk c) (hB : bAll c M st b) (hS : RS s b) : ∀ (f x : Nat), bD b x = some (k + f + 1) → l_S_positionBehind_1 (d + 2) (nI k) (nI x) (nI (k + f)) s = some (nI (bBack b f x), s) ∧ bD b (bBack b f x) = some (k + 1) := by
  have hp5 := pow5 (cN c) hk.2.1
  have hN := hB.1.1
  have bd : ∀ y e, bD b y = some e → e < 3125 ∧ y < 3125 := fun y e hy => by
    obtain ⟨i, i1, i2⟩ := (hB.1.2.2.1 y).mp (by rw [hy]; rfl)
    obtain ⟨o1, -, e2, o3, o4⟩ := hB.1.2.1 i i1
    rw [i2] at o1 o3
    rw [hy] at o3
    cases o3
    exact ⟨by omega, by omega⟩
  intro f
  induction f with
  | zero =>
    intro x hx
    refine ⟨?_, hx⟩
    rw [el_S_positionBehind_1, if_pos (by rw [Nat.add_zero]; exact nI_le (Nat.le_refl _) (by have := bd _ _ hx; omega))]
    rfl
  | succ f ih =>
    intro x hx
    have h1 := bd _ _ hx
    obtain ⟨i, p, u, i0, i1, i2, h2, -⟩ := bAll_back hB (show bD b x = some (k + f + 1 + 1) from hx)
    obtain ⟨g1, g2⟩ := ih (bP b x) h2
    refine ⟨?_, g2⟩
    have e9 : m_S_aheadOf (d + 2) (nI x) s = some (nI (bP b x), s) := by
      rw [← i2]
      exact s_aheadOf (by omega) hS i1 i0
    rw [el_S_positionBehind_1, if_neg (by rw [nI_leI (by omega) (by omega)]; omega), e9, sm_some, dI_pred2]
    exact g1
/-- who moves: the first whose value is the difference -/
theorem s_mover1 {s : qMem} {p : Nat} (hp : p < 5) : ∀ (q i : Nat), i + q = p → l_S_mover_1 d (nI (5 ^ p)) (nI i) s = some (nI p, s) := by
  intro q
  induction q with
  | zero =>
    intro i hi
    have : i = p := by omega
    subst this
    rw [el_S_mover_1, if_neg (not_le5 hp), if_pos (qIn_n hp (by omega)), nI_cl (by omega), qPV_all _ hp, if_pos rfl]
  | succ q ih =>
    intro i hi
    rw [el_S_mover_1, if_neg (not_le5 (by omega)), if_pos (qIn_n (show i < 5 by omega) (by omega)), nI_cl (by omega), qPV_all i (by omega), if_neg (by rw [p5_inj p hp i (by omega)]; omega), nI_1]
    exact ih (i + 1) (by omega)
/-- the move that leads to the position after k moves more -/
def bWay (b : Bf) (g f k : Nat) : Nat := bM b (bBack b (f - 1 - k) g)
theorem s_behind {st f k : Nat} {s : qMem} (hk : cOk c) (hS : RS s (bfs c ALL st)) (hB : bAll c ALL st (bfs c ALL st)) (hg : s.1 26 4 = nI (gM c ALL st)) (hf : gFar c ALL st = some f) (hkf : k < f) : m_S_positionBehind (d + 4) (nI k) s = some (nI (bBack (bfs c ALL st) (f - 1 - k) (gM c ALL st)), s) ∧ bD (bfs c ALL st) (bBack (bfs c ALL st) (f - 1 - k) (gM c ALL st)) = some (k + 1) := by
  have hx : bD (bfs c ALL st) (gM c ALL st) = some (k + (f - 1 - k) + 1) := by
    rw [show k + (f - 1 - k) + 1 = f by omega]
    exact hf
  obtain ⟨g1, g2⟩ := s_back1 (d := d + 1) (k := k) hk hB hS (f - 1 - k) (gM c ALL st) hx
  refine ⟨?_, g2⟩
  have e : nI f - 1 = nI (k + (f - 1 - k)) := by
    have z : k + (f - 1 - k) = f - 1 := by omega
    obtain ⟨j, hj⟩ : ∃ j, f = j + 1 := ⟨f - 1, by omega⟩
    rw [dI_pred, z, hj]
    rfl
  rw [e_S_positionBehind, s_fewest hk hS hg, hf, sm_some, hg]
  show l_S_positionBehind_1 (d + 3) (nI k) (nI (gM c ALL st)) (nI f - 1) s = _
  rw [e]
  exact g1
theorem s_way {st f k : Nat} {s : qMem} (hk : cOk c) (hS : RS s (bfs c ALL st)) (hB : bAll c ALL st (bfs c ALL st)) (hg : s.1 26 4 = nI (gM c ALL st)) (hf : gFar c ALL st = some f) (hkf : k < f) : m_S_mover (d + 5) (nI k) s = some (nI (bWay (bfs c ALL st) (gM c ALL st) f k / 2), s) ∧ m_S_rises (d + 5) (nI k) s = some (nI (bWay (bfs c ALL st) (gM c ALL st) f k % 2), s) := by
  have h5 := hk.2.1
  have hp5 := pow5 (cN c) h5
  obtain ⟨g1, g2⟩ := s_behind (d := d) hk hS hB hg hf hkf
  unfold bWay
  generalize bBack (bfs c ALL st) (f - 1 - k) (gM c ALL st) = x at g1 g2
  obtain ⟨i, p, u, i0, i1, i2, h2, hm, hM, o1, o2⟩ := bAll_back hB g2
  have hx : x < 3125 := by
    have := (hB.1.2.1 i i1).1
    rw [i2] at this
    omega
  have e9 : m_S_aheadOf (d + 4) (nI x) s = some (nI (bP (bfs c ALL st) x), s) := by
    have := s_aheadOf (d := d + 2) (b := bfs c ALL st) (s := s) (i := i) (by rw [i2]; exact hx) hS i1 i0
    rw [i2] at this
    exact this
  obtain ⟨m1, -, m2⟩ := hm
  have hp : p < 5 := by omega
  have h1 := pow5p p
  have h0 := Nat.le_trans (pow5m (show p ≤ 4 by omega)) (show 5 ^ 4 ≤ 625 by decide)
  generalize bP (bfs c ALL st) x = y at *
  have hd2 : (2 * p + u) / 2 = p ∧ (2 * p + u) % 2 = u := by
    rcases m2 with z | z
    · have := z.1
      omega
    · have := z.1
      omega
  rw [hM, hd2.1, hd2.2]
  constructor
  · rw [e_S_mover, g1, sm_some]
    dsimp only
    rw [e9, sm_some]
    dsimp only
    have e : (if (0 : Int32) ≤ nI x - nI y then nI x - nI y else 0 - (nI x - nI y)) = nI (5 ^ p) := by
      refine i_abs (by omega) (by omega) (by omega) ?_
      rcases m2 with ⟨-, z, -⟩ | ⟨-, z, z2⟩
      · exact Or.inl z
      · have lt := (cSink_lt z2).1
        have hyp := (mv_dn hk rfl o1 o2 m1 lt).1.1
        exact Or.inr (by omega)
    rw [e]
    exact s_mover1 hp p 0 (by omega)
  · rw [e_S_rises, g1, sm_some]
    dsimp only
    rw [e9, sm_some]
    dsimp only
    rcases m2 with ⟨z0, z, -⟩ | ⟨z0, z, z2⟩
    · rw [if_neg (by rw [nI_leI (by omega) (by omega)]; omega), z0]
      rfl
    · rw [if_pos (nI_le (by omega) (by omega)), z0]
      rfl
theorem m_way1 {st : Nat} {b : Bf} {s : qMem} {k : Nat} {w : Int32} (hk : cOk c) (hB : bAll c M st b) (hS : RN s b) (hw : w = 0 ∨ w = 1) : ∀ (f x : Nat), bD b x = some (k + f + 1) → l_M_way_1 d (nI k) w (nI x) s = some ((if w = 0 then nI (bM b (bBack b f x) / 2) else nI (bM b (bBack b f x) % 2)), s) := by
  have h5 := hk.2.1
  have hp5 := pow5 (cN c) h5
  have hN := hB.1.1
  have bd : ∀ y e, bD b y = some e → e < 3125 ∧ y < 3125 := fun y e hy => by
    obtain ⟨i, i1, i2⟩ := (hB.1.2.2.1 y).mp (by rw [hy]; rfl)
    obtain ⟨o1, -, e2, o3, o4⟩ := hB.1.2.1 i i1
    rw [i2] at o1 o3
    rw [hy] at o3
    cases o3
    exact ⟨by omega, by omega⟩
  intro f
  induction f with
  | zero =>
    intro x hx
    have h1 := bd _ _ hx
    obtain ⟨i, p, u, i0, i1, i2, h2, hm, hM, -⟩ := bAll_back hB (show bD b x = some (k + 0 + 1) from hx)
    have e50 : s.1 50 x = nI (k + 1) := by rw [hS.2.2.1 x (by omega), hx]; rfl
    have e53 : s.1 53 x = nI (bM b x) := by
      have := (hS.2.2.2 i i1 (by omega)).2
      rw [i2] at this
      exact this
    have hb : bM b x < 12 := by
      have hp := hm.1
      rcases hm.2.2 with z | z
      · have := z.1; omega
      · have := z.1; omega
    have q1 : nI (bM b x) - nI (bM b x) / nI 2 * nI 2 = nI (bM b x % 2) := pk_rem (by omega) (by omega) (by omega)
    have q2 : nI (bM b x) / nI 2 = nI (bM b x / 2) := pk_div (by omega) (by omega) (by omega)
    have r1 : nI (bM b x) - nI (bM b x) / 2 * 2 = nI (bM b x % 2) := q1
    have r2 : nI (bM b x) / 2 = nI (bM b x / 2) := q2
    rw [el_M_way_1, if_pos (qIn_n (by omega) (by omega)), nI_cl (by omega), e50, nI_1, if_pos (nI_le (by omega) (by omega)), if_pos (qIn_n (by omega) (by omega)), if_pos (qIn_n (by omega) (by omega)), e53, r1, r2]
    rcases hw with z | z
    · subst z
      rfl
    · subst z
      rfl
  | succ f ih =>
    intro x hx
    have h1 := bd _ _ hx
    obtain ⟨i, p, u, i0, i1, i2, h2, -⟩ := bAll_back hB (show bD b x = some (k + f + 1 + 1) from hx)
    have e50 : s.1 50 x = nI (k + (f + 1) + 1) := by rw [hS.2.2.1 x (by omega), hx]; rfl
    have e52 : s.1 52 x = nI (bP b x) := by
      have := (hS.2.2.2 i i1 (by omega)).1
      rw [i2] at this
      exact this
    rw [el_M_way_1, if_pos (qIn_n (by omega) (by omega)), nI_cl (by omega), e50, nI_1, if_neg (by rw [nI_leI (by omega) (by omega)]; omega), if_pos (qIn_n (by omega) (by omega)), e52]
    exact ih (bP b x) h2
end WAY
