/-! what is told of one, and the counts -/
def gsum (f : Nat → Int32) : Nat → Nat → Int32 → Int32
  | _, 0, a => a
  | i, q + 1, a => gsum f (i + 1) q (a + f i)
theorem gsum_cong {f g : Nat → Int32} : ∀ (q i : Nat) (a : Int32), (∀ j, i ≤ j → j < i + q → f j = g j) → gsum f i q a = gsum g i q a := by
  intro q
  induction q with
  | zero => intro i a _; rfl
  | succ q ih =>
    intro i a h
    rw [gsum, gsum, h i (Nat.le_refl _) (by omega)]
    exact ih (i + 1) _ (fun j h1 h2 => h j (by omega) (by omega))
theorem gsum_all (H : Nat → Int32) : gsum (fun a => gsum (fun b => H (5 * a + b)) 0 5 0) 0 5 0 = gsum H 0 25 0 := by
  simp only [gsum, Int32.zero_add, Int32.add_assoc]
section ONE
variable {d : Nat} {c : Co} {lv : Nat → Nat}
theorem j_given1 {s : qMem} {a : Nat} (ha : a < 5) : ∀ (q i : Nat) (x : Int32), i + q = 5 → l_J_helpGiven_1 (d + 2) (nI a) x (nI i) s = some (gsum (fun b => s.1 24 (5 * a + b)) i q x, s) := by
  intro q
  induction q with
  | zero =>
    intro i x h
    rw [el_J_helpGiven_1, show i = 5 by omega, if_pos (by decide)]
    rfl
  | succ q ih =>
    intro i x h
    rw [el_J_helpGiven_1, if_neg (not_le5 (by omega)), j_between ha (by omega), sm_some, nI_1]
    exact ih (i + 1) _ (by omega)
theorem j_given {s : qMem} {a : Nat} (ha : a < 5) : m_J_helpGiven (d + 3) (nI a) s = some (gsum (fun b => s.1 24 (5 * a + b)) 0 5 0, s) := by
  rw [e_J_helpGiven]
  exact j_given1 ha 5 0 0 rfl
theorem j_taken1 {s : qMem} {a : Nat} (ha : a < 5) : ∀ (q i : Nat) (x : Int32), i + q = 5 → l_J_helpTaken_1 (d + 2) (nI a) x (nI i) s = some (gsum (fun b => s.1 24 (5 * b + a)) i q x, s) := by
  intro q
  induction q with
  | zero =>
    intro i x h
    rw [el_J_helpTaken_1, show i = 5 by omega, if_pos (by decide)]
    rfl
  | succ q ih =>
    intro i x h
    rw [el_J_helpTaken_1, if_neg (not_le5 (by omega)), j_between (by omega) ha, sm_some, nI_1]
    exact ih (i + 1) _ (by omega)
theorem j_taken {s : qMem} {a : Nat} (ha : a < 5) : m_J_helpTaken (d + 3) (nI a) s = some (gsum (fun b => s.1 24 (5 * b + a)) 0 5 0, s) := by
  rw [e_J_helpTaken]
  exact j_taken1 ha 5 0 0 rfl
theorem j_all1 {s : qMem} : ∀ (q i : Nat) (x : Int32), i + q = 5 → l_J_helpInAll_1 (d + 3) x (nI i) s = some (gsum (fun a => gsum (fun b => s.1 24 (5 * a + b)) 0 5 0) i q x, s) := by
  intro q
  induction q with
  | zero =>
    intro i x h
    rw [el_J_helpInAll_1, show i = 5 by omega, if_pos (by decide)]
    rfl
  | succ q ih =>
    intro i x h
    rw [el_J_helpInAll_1, if_neg (not_le5 (by omega)), j_given (by omega), sm_some, nI_1]
    exact ih (i + 1) _ (by omega)
theorem j_all {s : qMem} : m_J_helpInAll (d + 4) s = some (gsum (fun i => s.1 24 i) 0 25 0, s) := by
  rw [e_J_helpInAll, ← gsum_all (fun i => s.1 24 i)]
  exact j_all1 5 0 0 rfl
theorem m_one1 {s : qMem} {p : Nat} {w : Int32} (hp : p < 5) : ∀ (q i : Nat) (x3 x4 : Int32), i + q = 5 → l_M_one_1 d (nI p) w x3 x4 (nI i) s = l_M_one_1 d (nI p) w (gsum (fun b => s.1 46 (5 * p + b)) i q x3) (gsum (fun b => s.1 46 (5 * b + p)) i q x4) (nI 5) s := by
  intro q
  induction q with
  | zero =>
    intro i x3 x4 h
    rw [show i = 5 by omega]
    rfl
  | succ q ih =>
    intro i x3 x4 h
    have e1 : 5 * nI p + nI i = nI (5 * p + i) := by
      have h1 : 5 * nI p = nI (5 * p) := pk_mul 5 p
      rw [h1, nI_add]
    have e2 : 5 * nI i + nI p = nI (5 * i + p) := by
      have h1 : 5 * nI i = nI (5 * i) := pk_mul 5 i
      rw [h1, nI_add]
    have a1 : qIn (nI (5 * p + i)) 25 := qIn_n (by omega) (by omega)
    have a2 : qIn (nI (5 * i + p)) 25 := qIn_n (by omega) (by omega)
    rw [el_M_one_1, if_neg (not_le5 (by omega)), e1, e2, if_pos a1, if_pos a2, nI_cl (by omega), nI_cl (by omega), nI_1]
    exact ih (i + 1) _ _ (by omega)
theorem w_cases {w : Int32} (n : Nat) (hn : n < 2 ^ 31) (k : Nat) (hk : k < 2 ^ 31) : nI n = nI k ↔ n = k := nI_eq hn hk
theorem bth_one {s : qMem} {x w : Int32} (hI : INV s c lv) : bth (m_G_one (d + 8) x w) (m_M_one (d + 8) x w) s (fun s2 => INV s2 c lv) := by
  have hI0 := hI
  obtain ⟨i1, i2, i3, i4, i5, i6, i7, i8, i9⟩ := hI
  have h5 := i1.2.1
  rcases i_cases x (cN c) with ⟨p, hp, rfl⟩ | hx
  · have a5 : qIn (nI p) 5 := qIn_n (by omega) (by omega)
    have hM : m_M_one (d + 8) (nI p) w s = l_M_one_1 (d + 7) (nI p) w (gsum (fun b => s.1 46 (5 * p + b)) 0 5 0) (gsum (fun b => s.1 46 (5 * b + p)) 0 5 0) (nI 5) s := by
      rw [e_M_one, m_isOne i4.1 i1 hp, sm_some, n10]
      exact m_one1 (by omega) 5 0 0 0 rfl
    have hG : m_G_one (d + 8) (nI p) w s = (if w = 0 then some (nI (cP c p 0), s) else if w = 1 then some (nI (cP c p 1), s) else if w = 2 then some (nI (cBurd c p), s) else if w = 3 then some (nI (cP c p 3), s) else if w = 4 then some (nI (lv p), s) else if w = 5 then some (gsum (fun b => s.1 24 (5 * p + b)) 0 5 0, s) else if w = 6 then some (gsum (fun b => s.1 24 (5 * b + p)) 0 5 0, s) else some (-3, s)) := by
      obtain ⟨r1, r2, r3, r4, r5, r6⟩ := i3.1.2.2.2 p hp
      have r1 : s.1 4 p = nI (cP c p 0) := r1
      have r2 : s.1 5 p = nI (cP c p 1) := r2
      have r4 : s.1 7 p = nI (cBurd c p) := r4
      have r5 : s.1 8 p = nI (cP c p 3) := r5
      rw [e_G_one, t_isOne (Or.inl rfl) i3.1 i1 hp, sm_some, n10]
      simp only [if_pos a5]
      rw [nI_cl (by omega), r1, r2, r4, r5, i3.2.1 p hp, j_given (d := d + 4) (by omega), j_taken (d := d + 4) (by omega), sm_some, sm_some]
    have q1 : gsum (fun b => s.1 24 (5 * p + b)) 0 5 0 = gsum (fun b => s.1 46 (5 * p + b)) 0 5 0 := gsum_cong 5 0 0 (fun j _ hj => i6 _ (by omega))
    have q2 : gsum (fun b => s.1 24 (5 * b + p)) 0 5 0 = gsum (fun b => s.1 46 (5 * b + p)) 0 5 0 := gsum_cong 5 0 0 (fun j _ hj => i6 _ (by omega))
    have m0 : ∀ j, j < 6 → s.1 42 (6 * p + j) = nI (cP c p j) := i4.1.2.2.2.2 p hp
    have idx : ∀ j, j < 6 → 6 * nI p + nI j = nI (6 * p + j) := fun j _ => by
      have h1 : 6 * nI p = nI (6 * p) := pk_mul 6 p
      rw [h1, nI_add]
    have hM2 : m_M_one (d + 8) (nI p) w s = (if w = 0 then some (nI (cP c p 0), s) else if w = 1 then some (nI (cP c p 1), s) else if w = 2 then some (nI (cBurd c p), s) else if w = 3 then some (nI (cP c p 3), s) else if w = 4 then some (nI (lv p), s) else if w = 5 then some (gsum (fun b => s.1 24 (5 * p + b)) 0 5 0, s) else if w = 6 then some (gsum (fun b => s.1 24 (5 * b + p)) 0 5 0, s) else some (-3, s)) := by
      rw [hM, el_M_one_1, if_pos (by decide), q1, q2]
      have sub : ∀ j, j < 6 → w = nI j → (if qIn ((6 * nI p) + w) 30 then some (s.1 42 (((6 * nI p) + w)).toNatClampNeg, s) else none) = some (nI (cP c p j), s) := by
        intro j hj hw
        rw [hw, idx j hj, if_pos (qIn_n (by omega) (by omega)), nI_cl (by omega), m0 j hj]
      by_cases w0 : w = 0
      · rw [if_pos w0, if_pos w0, sub 0 (by omega) w0]
      rw [if_neg w0, if_neg w0]
      by_cases w1 : w = 1
      · rw [if_pos w1, if_pos w1, sub 1 (by omega) w1]
      rw [if_neg w1, if_neg w1]
      by_cases w2 : w = 2
      · rw [if_pos w2, if_pos w2, m_burden (d := d + 6) i4.1 i1 hp, sm_some]
      rw [if_neg w2, if_neg w2]
      by_cases w3 : w = 3
      · rw [if_pos w3, if_pos w3, sub 3 (by omega) w3]
      rw [if_neg w3, if_neg w3]
      by_cases w4 : w = 4
      · rw [if_pos w4, if_pos w4, if_pos a5, nI_cl (by omega), i4.2.2 p hp]
      rw [if_neg w4, if_neg w4]
    have hex : ∃ r, m_G_one (d + 8) (nI p) w s = some (r, s) := by
      rw [hG]
      simp only [some_ite]
      exact ⟨_, rfl⟩
    obtain ⟨r, hr⟩ := hex
    refine bth_still (r := r) hr ?_ hI0
    rw [hM2, ← hG]
    exact hr
  · refine bth_still (r := -2) ?_ ?_ hI0
    · rw [e_G_one, t_isOne_out (Or.inl rfl) i3.1 i1 hx, sm_some, n00]
    · rw [e_M_one, m_isOne_out i4.1 i1 hx, sm_some, n00]
theorem m_count2 {s : qMem} {w x2 : Int32} : ∀ (q i : Nat) (x3 : Int32), i + q = 25 → l_M_count_2 d w x2 x3 (nI i) s = l_M_count_2 d w x2 (gsum (fun i => s.1 46 i) i q x3) (nI 25) s := by
  intro q
  induction q with
  | zero =>
    intro i x3 h
    rw [show i = 25 by omega]
    rfl
  | succ q ih =>
    intro i x3 h
    have n25 : ¬ (25 : Int32) ≤ nI i := by
      show ¬ nI 25 ≤ nI i
      rw [nI_leI (by omega) (by omega)]
      omega
    rw [el_M_count_2, if_neg n25, if_pos (qIn_n (by omega) (by omega)), nI_cl (by omega), nI_1]
    exact ih (i + 1) _ (by omega)
theorem m_count1 {s : qMem} {w x3 : Int32} (hk : cOk c) (hl : lvOk c lv) (hR : RM s c) (hL : RL s 45 (cN c) lv) : ∀ (q p a : Nat), p + q = cN c → a < 32 → l_M_count_1 d w (nI a) x3 (nI p) s = l_M_count_2 d w (nI (aTop (cTop c) lv p q a)) x3 0 s := by
  have h5 := hk.2.1
  have h4 := hk.1
  intro q
  induction q with
  | zero =>
    intro p a hp ha
    rw [el_M_count_1, hR.2.1, if_pos (nI_le (by omega) (by omega))]
    rfl
  | succ q ih =>
    intro p a hp ha
    have h9 := hl p (by omega)
    rw [el_M_count_1, hR.2.1, if_neg (by rw [nI_leI (by omega) (by omega)]; omega), if_pos (qIn_n (by omega) (by omega)), nI_cl (by omega), hL p (by omega), hR.1, orb_i a ha p (by omega), or_0, nI_1, aTop]
    by_cases z : lv p = cTop c
    · rw [if_pos (by rw [z]), if_pos z]
      exact ih (p + 1) _ (by omega) (orb_lt a ha p (by omega))
    · rw [if_neg (by rw [nI_eq (by omega) (by omega)]; exact z), if_neg z]
      exact ih (p + 1) a (by omega) ha
theorem bth_count {s : qMem} {w : Int32} (hI : INV s c lv) : bth (m_G_count (d + 8) w) (m_M_count (d + 8) w) s (fun s2 => INV s2 c lv) := by
  have hI0 := hI
  obtain ⟨i1, i2, i3, i4, ⟨m, m1, m2, m3⟩, i6, ⟨k, k1, k2, k3, -⟩, ⟨n, n1, n2, n3, -⟩, i9⟩ := hI
  have h5 := i1.2.1
  have h4 := i1.1
  have hl4 : ∀ p, p < cN c → lv p ≤ 4 := fun p hp => by have := i2 p hp; omega
  have hG : m_G_count (d + 8) w s = (if w = 0 then some (nI (cTop c), s) else if w = 1 then some (nI (cN c), s) else if w = 2 then some (nI m, s) else if w = 3 then some (nI (aTop (cTop c) lv 0 (cN c) 0), s) else if w = 4 then some (nI k, s) else if w = 5 then some (gsum (fun i => s.1 24 i) 0 25 0, s) else if w = 6 then some (nI n, s) else some (-3, s)) := by
    rw [e_G_count, i3.1.1, i3.1.2.1, m2, t_top (d := d + 6) (r := 23) (Or.inl rfl) i1 i3.1 i3.2.1 hl4, sm_some, k2, j_all (d := d + 3), sm_some, n2]
  have q1 : gsum (fun i => s.1 24 i) 0 25 0 = gsum (fun i => s.1 46 i) 0 25 0 := gsum_cong 25 0 0 (fun j _ hj => i6 _ (by omega))
  have hM : m_M_count (d + 8) w s = (if w = 0 then some (nI (cTop c), s) else if w = 1 then some (nI (cN c), s) else if w = 2 then some (nI m, s) else if w = 3 then some (nI (aTop (cTop c) lv 0 (cN c) 0), s) else if w = 4 then some (nI k, s) else if w = 5 then some (gsum (fun i => s.1 24 i) 0 25 0, s) else if w = 6 then some (nI n, s) else some (-3, s)) := by
    have c1 := m_count1 (d := d + 7) (w := w) (x3 := 0) i1 i2 i4.1 i4.2.2 (cN c) 0 0 (by omega) (by omega)
    have c2 := m_count2 (d := d + 7) (s := s) (w := w) (x2 := nI (aTop (cTop c) lv 0 (cN c) 0)) 25 0 0 rfl
    rw [e_M_count]
    refine Eq.trans c1 (Eq.trans c2 ?_)
    rw [el_M_count_2, if_pos (by decide), i4.1.1, i4.1.2.1, m3, k3, n3, q1]
  have hex : ∃ r, m_G_count (d + 8) w s = some (r, s) := by
    rw [hG]
    simp only [some_ite]
    exact ⟨_, rfl⟩
  obtain ⟨r, hr⟩ := hex
  refine bth_still (r := r) hr ?_ hI0
  rw [hM, ← hG]
  exact hr
end ONE
