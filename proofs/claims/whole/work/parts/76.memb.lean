/-! who comes -/
def mE (M : Nat → Bool) : Nat → Nat × (Nat → Nat)
  | 0 => (0, fun _ => 0)
  | k + 1 => bif M k then ((mE M k).1 + 1, fUpd (mE M k).2 (mE M k).1 k) else mE M k
theorem mE_ok {M : Nat → Bool} : ∀ k, (mE M k).1 ≤ k ∧ (∀ a, a < (mE M k).1 → (mE M k).2 a < k ∧ M ((mE M k).2 a) = true) ∧ (∀ a b, a < b → b < (mE M k).1 → (mE M k).2 a < (mE M k).2 b) ∧ ∀ p, p < k → M p = true → ∃ a, a < (mE M k).1 ∧ (mE M k).2 a = p := by
  intro k
  induction k with
  | zero => exact ⟨Nat.le_refl _, fun a h => absurd h (Nat.not_lt_zero _), fun a b _ h => absurd h (Nat.not_lt_zero _), fun p h => absurd h (Nat.not_lt_zero _)⟩
  | succ k ih =>
    obtain ⟨h1, h2, h3, h4⟩ := ih
    rw [mE]
    cases hM : M k with
    | false =>
      refine ⟨Nat.le_succ_of_le h1, fun a ha => ⟨Nat.lt_succ_of_lt (h2 a ha).1, (h2 a ha).2⟩, h3, fun p hp hp2 => ?_⟩
      by_cases z : p = k
      · rw [z, hM] at hp2
        cases hp2
      · exact h4 p (by omega) hp2
    | true =>
      show (mE M k).1 + 1 ≤ k + 1 ∧ (∀ a, a < (mE M k).1 + 1 → fUpd (mE M k).2 (mE M k).1 k a < k + 1 ∧ M (fUpd (mE M k).2 (mE M k).1 k a) = true) ∧ (∀ a b, a < b → b < (mE M k).1 + 1 → fUpd (mE M k).2 (mE M k).1 k a < fUpd (mE M k).2 (mE M k).1 k b) ∧ ∀ p, p < k + 1 → M p = true → ∃ a, a < (mE M k).1 + 1 ∧ fUpd (mE M k).2 (mE M k).1 k a = p
      refine ⟨by omega, fun a ha => ?_, fun a b hab hb => ?_, fun p hp hp2 => ?_⟩
      · by_cases z : a = (mE M k).1
        · rw [z, fUpd_s]
          exact ⟨by omega, hM⟩
        · rw [fUpd_n z]
          have := h2 a (by omega)
          exact ⟨by omega, this.2⟩
      · rw [fUpd_n (show a ≠ (mE M k).1 by omega)]
        by_cases z : b = (mE M k).1
        · rw [z, fUpd_s]
          exact (h2 a (by omega)).1
        · rw [fUpd_n z]
          exact h3 a b hab (by omega)
      · by_cases z : p = k
        · exact ⟨(mE M k).1, by omega, by rw [fUpd_s, z]⟩
        · obtain ⟨a, a1, a2⟩ := h4 p (by omega) hp2
          exact ⟨a, by omega, by rw [fUpd_n (by omega)]; exact a2⟩
def cSub (c : Co) (lv : Nat → Nat) (M : Nat → Bool) : Co := (cTop c, (mE M (cN c)).1, cH c, cR c, fun a j => if j = 5 then lv ((mE M (cN c)).2 a) else cP c ((mE M (cN c)).2 a) j)
def lSub (c : Co) (lv : Nat → Nat) (M : Nat → Bool) : Nat → Nat := fun a => lv ((mE M (cN c)).2 a)
section MEMB
variable {d : Nat} {c : Co} {lv : Nat → Nat} {M : Nat → Bool}
theorem sub_emb : Emb (cSub c lv M) c M (mE M (cN c)).2 := by
  obtain ⟨h1, h2, h3, h4⟩ := mE_ok (M := M) (cN c)
  refine ⟨rfl, rfl, rfl, fun a ha => ⟨(h2 a ha).1, (h2 a ha).2, fun j hj => ?_⟩, h3, h4⟩
  show (if j = 5 then lv ((mE M (cN c)).2 a) else cP c ((mE M (cN c)).2 a) j) = _
  rw [if_neg (by omega)]
theorem sub_ok (hk : cOk c) (hl : lvOk c lv) : cOk (cSub c lv M) ∧ lvOk (cSub c lv M) (lSub c lv M) := by
  obtain ⟨h1, h2, h3, h4⟩ := mE_ok (M := M) (cN c)
  obtain ⟨k1, k2, k3, k4⟩ := hk
  refine ⟨⟨k1, Nat.le_trans h1 k2, k3, fun p hp => ?_⟩, fun p hp => hl _ (h2 p hp).1⟩
  have hp2 := (h2 p hp).1
  obtain ⟨a1, a2, a3, a4, a5, a6⟩ := k4 _ hp2
  exact ⟨a1, a2, a3, a4, a5, hl _ hp2⟩
theorem sub_far (hk : cOk c) (hl : lvOk c lv) : (gFar (cSub c lv M) ALL (cSum (lSub c lv M) (cN (cSub c lv M)))).isSome = (gFar c M (cSum lv (cN c))).isSome := by
  obtain ⟨k2, l2⟩ := sub_ok (M := M) hk hl
  obtain ⟨a1, a2⟩ := lv_st k2 l2
  obtain ⟨b1, b2⟩ := lv_st hk hl
  refine e_far k2 hk sub_emb ⟨⟨a1, fun q hq => by rw [a2 q hq]; exact l2 q hq⟩, ⟨b1, fun q hq => by rw [b2 q hq]; exact hl q hq⟩, fun a ha => ?_, fun p hp _ => rfl⟩
  rw [a2 a ha, b2 _ (sub_emb (lv := lv).2.2.2.1 a ha).1]
  rfl
/-- the draft is told who comes -/
theorem t_some1 {w : Nat} (hk : cOk c) (hw : w < 32) (hM : ∀ q, q < 5 → M q = w.testBit q) : ∀ (q k : Nat) (s : qMem), k + q = cN c → RT s 1 c → RL s 23 (cN c) lv → s.1 10 1 = nI (mE M k).1 → (∀ a, a < (mE M k).1 → s.1 13 a = nI (cP c ((mE M k).2 a) 0) ∧ s.1 14 a = nI (cP c ((mE M k).2 a) 1) ∧ s.1 15 a = nI (cP c ((mE M k).2 a) 2) ∧ s.1 16 a = nI (cBurd c ((mE M k).2 a)) ∧ s.1 17 a = nI (cP c ((mE M k).2 a) 3) ∧ s.1 18 a = nI (lv ((mE M k).2 a))) → ∃ s2, l_T_copySome_1 d (nI w) (nI k) s = some s2 ∧ s2.1 10 1 = nI (mE M (cN c)).1 ∧ (∀ a, a < (mE M (cN c)).1 → s2.1 13 a = nI (cP c ((mE M (cN c)).2 a) 0) ∧ s2.1 14 a = nI (cP c ((mE M (cN c)).2 a) 1) ∧ s2.1 15 a = nI (cP c ((mE M (cN c)).2 a) 2) ∧ s2.1 16 a = nI (cBurd c ((mE M (cN c)).2 a)) ∧ s2.1 17 a = nI (cP c ((mE M (cN c)).2 a) 3) ∧ s2.1 18 a = nI (lv ((mE M (cN c)).2 a))) ∧ (∀ o j, ¬ (13 ≤ o ∧ o ≤ 18) → ¬ (o = 10 ∧ j = 1) → s2.1 o j = s.1 o j) ∧ s2.2 = s.2 := by
  have h5 := hk.2.1
  intro q
  induction q with
  | zero =>
    intro k s hkq hR hL hm hA
    have e : k = cN c := by omega
    subst e
    refine ⟨s, ?_, hm, hA, fun _ _ _ _ => rfl, rfl⟩
    rw [el_T_copySome_1, hR.2.1, if_pos (nI_le (Nat.le_refl _) (by omega))]
  | succ q ih =>
    intro k s hkq hR hL hm hA
    have hkn : k < cN c := by omega
    have hb := has_all w hw k (by omega)
    rw [el_T_copySome_1, hR.2.1, if_neg (by rw [nI_leI (by omega) (by omega)]; omega), if_neg (not_le5 (by omega)), nI_1]
    have hMk := hM k (by omega)
    cases hM2 : M k with
    | false =>
      rw [if_neg (fun z => by rw [hb.mp z, hM2] at hMk; cases hMk)]
      have e : mE M (k + 1) = mE M k := by rw [mE, hM2]; rfl
      exact ih (k + 1) s (by omega) hR hL (by rw [e]; exact hm) (by rw [e]; exact hA)
    | true =>
      have hm5 := (mE_ok (M := M) k).1
      have e : mE M (k + 1) = ((mE M k).1 + 1, fUpd (mE M k).2 (mE M k).1 k) := by rw [mE, hM2]; rfl
      obtain ⟨r1, r2, r3, r4, r5, r6⟩ := hR.2.2.2 k hkn
      have r1 : s.1 4 k = nI (cP c k 0) := r1
      have r2 : s.1 5 k = nI (cP c k 1) := r2
      have r3 : s.1 6 k = nI (cP c k 2) := r3
      have r4 : s.1 7 k = nI (cBurd c k) := r4
      have r5 : s.1 8 k = nI (cP c k 3) := r5
      have r6 : s.1 23 k = nI (lv k) := hL k hkn
      have i5 : qIn (nI k) 5 := qIn_n (by omega) (by omega)
      have m5 : qIn (nI (mE M k).1) 5 := qIn_n (by omega) (by omega)
      generalize hmm : (mE M k).1 = m at *
      generalize hee : (mE M k).2 = e2 at *
      rw [if_pos (hb.mpr (by rw [← hMk]; exact hM2)), hm, if_neg (not_le5 (by omega))]
      simp only [if_pos i5, if_pos m5]
      rw [nI_cl (show k < 2 ^ 31 by omega), nI_cl (show m < 2 ^ 31 by omega), r1, r2, r3, r4, r5, r6, nI_1]
      obtain ⟨s2, g1, g2, g3, g4, g5⟩ := ih (k + 1) (qW (qW (qW (qW (qW (qW (qW s 13 m (nI (cP c k 0))) 14 m (nI (cP c k 1))) 15 m (nI (cP c k 2))) 16 m (nI (cBurd c k))) 17 m (nI (cP c k 3))) 18 m (nI (lv k))) 10 1 (nI (m + 1))) (by omega) hR (fun p hp => hL p hp) (by rw [e]; exact q_rw) (by
        rw [e]
        intro a ha
        have ha : a < m + 1 := ha
        show _ = nI (cP c (fUpd e2 m k a) 0) ∧ _ = nI (cP c (fUpd e2 m k a) 1) ∧ _ = nI (cP c (fUpd e2 m k a) 2) ∧ _ = nI (cBurd c (fUpd e2 m k a)) ∧ _ = nI (cP c (fUpd e2 m k a) 3) ∧ _ = nI (lv (fUpd e2 m k a))
        by_cases z : a = m
        · subst z
          rw [fUpd_s]
          simp only [q_rw_if]
          simp
        · rw [fUpd_n z]
          have := hA a (by omega)
          simp only [q_rw_if]
          simp [z]
          exact this)
      refine ⟨s2, g1, g2, g3, fun o j h1 h2 => ?_, g5⟩
      rw [g4 o j h1 h2, q_rw_if, if_neg h2, q_rw_o (by omega), q_rw_o (by omega), q_rw_o (by omega), q_rw_o (by omega), q_rw_o (by omega), q_rw_o (by omega)]
theorem t_copySome {s : qMem} {w : Nat} (hk : cOk c) (hw : w < 32) (hM : ∀ q, q < 5 → M q = w.testBit q) (hR : RT s 1 c) (hL : RL s 23 (cN c) lv) : ∃ s2, m_T_copySome (d + 2) (nI w) s = some s2 ∧ RT s2 10 (cSub c lv M) ∧ RL s2 18 (cN (cSub c lv M)) (lSub c lv M) ∧ (∀ o j, ¬ (10 ≤ o ∧ o ≤ 18) → s2.1 o j = s.1 o j) ∧ s2.2 = s.2 := by
  have h5 := hk.2.1
  obtain ⟨s1, g1, g2, g3, g4, g5⟩ := t_copyS (d := d) (Or.inr ⟨rfl, rfl⟩) hR
  have e : ∀ o k, (1 ≤ o ∧ o ≤ 9) ∨ o = 23 → (qW s1 10 1 0).1 o k = s.1 o k := fun o k h => by
    rw [q_rw_o (by omega), g4 o k (by omega) (by omega) (by omega)]
  have R1 : RT (qW s1 10 1 0) 1 c := by
    obtain ⟨a1, a2, a3, a4⟩ := hR
    refine ⟨by rw [e _ _ (by omega)]; exact a1, by rw [e _ _ (by omega)]; exact a2, fun i hi => ?_, fun p hp => ?_⟩
    · rw [e _ _ (by omega), e _ _ (by omega)]
      exact a3 i hi
    · rw [e _ _ (by omega), e _ _ (by omega), e _ _ (by omega), e _ _ (by omega), e _ _ (by omega), e _ _ (by omega)]
      exact a4 p hp
  obtain ⟨s2, k1, k2, k3, k4, k5⟩ := t_some1 (d := d + 1) (lv := lv) (M := M) hk hw hM (cN c) 0 (qW s1 10 1 0) (by omega) R1 (fun p hp => by rw [e _ _ (by omega)]; exact hL p hp) q_rw (fun a ha => absurd ha (Nat.not_lt_zero _))
  refine ⟨s2, ?_, ⟨?_, k2, fun i hi => ?_, fun p hp => ?_⟩, fun p hp => (k3 p hp).2.2.2.2.2, fun o j h => ?_, k5.trans g5⟩
  · rw [e_T_copySome, g1, sm_some]
    exact k1
  · rw [k4 _ _ (by omega) (by omega), q_rw_k (by omega)]
    exact g2
  · rw [k4 _ _ (by omega) (by omega), k4 _ _ (by omega) (by omega), q_rw_o (by omega), q_rw_o (by omega)]
    exact g3 i hi
  · exact k3 p hp
  · rw [k4 o j (by omega) (by omega), q_rw_o (by omega), g4 o j (by omega) (by omega) (by omega)]
end MEMB
