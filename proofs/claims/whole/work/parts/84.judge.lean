/-! the judge -/
section JUDGE
variable {d : Nat} {c : Co}
theorem tr33 : tr 1 33 := Or.inr (Or.inr (Or.inl ⟨rfl, rfl⟩))
theorem RT_33 {s s2 : qMem} (h : ∀ o j, o ≠ 33 → s2.1 o j = s.1 o j) (hR : RT s 1 c) : RT s2 1 c := by
  obtain ⟨a1, a2, a3, a4⟩ := hR
  refine ⟨by rw [h _ _ (by decide)]; exact a1, by rw [h _ _ (by decide)]; exact a2, fun i hi => ?_, fun p hp => ?_⟩
  · rw [h _ _ (by decide), h _ _ (by decide)]
    exact a3 i hi
  · rw [h _ _ (by decide), h _ _ (by decide), h _ _ (by decide), h _ _ (by decide), h _ _ (by decide), h _ _ (by decide)]
    exact a4 p hp
theorem RL_w {s : qMem} {r n p v : Nat} {w : Nat → Nat} (hL : RL s r n w) : RL (qW s r p (nI v)) r n (lvUp w p v) := fun q hq => by
  show _ = nI (if q = p then v else w q)
  by_cases z : q = p
  · rw [z, q_rw, if_pos rfl]
  · rw [q_rw_k z, if_neg z]
    exact hL q hq
theorem judge_loop {k : Nat} (hk : cOk c) (hk12 : k ≤ 12) : ∀ (q i : Nat) (w : Nat → Nat) (sG : qMem), i + q = k → lvOk c w → RT sG 1 c → RL sG 33 (cN c) w → sG.1 0 9 = nI k → (∀ j, j < k → ∃ p u, p < cN c ∧ u ≤ 1 ∧ sG.1 31 j = nI p ∧ sG.1 32 j = nI u) → ∃ r sG2, l_G_judge_1 (d + 7) (nI i) sG = some (r, sG2) ∧ ((∀ o j, o ≠ 33 → sG2.1 o j = sG.1 o j) ∧ sG2.2 = sG.2) ∧ ∀ sM, RM sM c → RC sM ALL → RL sM 54 (cN c) w → sM.1 40 22 = nI k → (∀ j, j < k → sM.1 49 (2 * j) = sG.1 31 j ∧ sM.1 49 (2 * j + 1) = sG.1 32 j) → ∃ sM2, l_M_judge_2 (d + 7) (nI i) sM = some (r, sM2) ∧ FM sM sM2 := by
  have h5 := hk.2.1
  have h4 := hk.1
  intro q
  induction q with
  | zero =>
    intro i w sG hi hl hR hL h9 hrow
    refine ⟨-1, sG, ?_, ⟨fun _ _ _ => rfl, rfl⟩, fun sM r1 r2 r3 r4 r5 => ⟨sM, ?_, FM.rf⟩⟩
    · rw [el_G_judge_1, h9, if_pos (nI_le (by omega) (by omega))]
    · rw [el_M_judge_2, r4, if_pos (nI_le (by omega) (by omega))]
  | succ q ih =>
    intro i w sG hi hl hR hL h9 hrow
    obtain ⟨p, u, hp, hu, g31, g32⟩ := hrow i (by omega)
    have n12 : ¬ (12 : Int32) ≤ nI i := by
      show ¬ nI 12 ≤ nI i
      rw [nI_leI (by omega) (by omega)]
      omega
    have i12 : qIn (nI i) 12 := qIn_n (by omega) (by omega)
    have a5 : qIn (nI p) 5 := qIn_n (by omega) (by omega)
    have hlt : ¬ nI k ≤ nI i := by
      rw [nI_leI (by omega) (by omega)]
      omega
    -- what comes next
    have fin : ∀ (go : Bool) (v : Nat) (δ : Int32), (go = true → v ≤ cTop c ∧ nI (w p) + δ = nI v) → l_G_judge_1 (d + 7) (nI i) sG = (if b2i go = 0 then some (nI i, sG) else l_G_judge_1 (d + 7) (nI (i + 1)) (qW sG 33 p (nI (w p) + δ))) → (∀ sM, RM sM c → RC sM ALL → RL sM 54 (cN c) w → sM.1 40 22 = nI k → (∀ j, j < k → sM.1 49 (2 * j) = sG.1 31 j ∧ sM.1 49 (2 * j + 1) = sG.1 32 j) → l_M_judge_2 (d + 7) (nI i) sM = (if b2i go = 0 then some (nI i, sM) else l_M_judge_2 (d + 7) (nI (i + 1)) (qW sM 54 p (nI (w p) + δ)))) → ∃ r sG2, l_G_judge_1 (d + 7) (nI i) sG = some (r, sG2) ∧ ((∀ o j, o ≠ 33 → sG2.1 o j = sG.1 o j) ∧ sG2.2 = sG.2) ∧ ∀ sM, RM sM c → RC sM ALL → RL sM 54 (cN c) w → sM.1 40 22 = nI k → (∀ j, j < k → sM.1 49 (2 * j) = sG.1 31 j ∧ sM.1 49 (2 * j + 1) = sG.1 32 j) → ∃ sM2, l_M_judge_2 (d + 7) (nI i) sM = some (r, sM2) ∧ FM sM sM2 := by
      intro go v δ hgo hG hM
      cases go with
      | false =>
        refine ⟨nI i, sG, by rw [hG, bf0], ⟨fun _ _ _ => rfl, rfl⟩, fun sM r1 r2 r3 r4 r5 => ⟨sM, by rw [hM sM r1 r2 r3 r4 r5, bf0], FM.rf⟩⟩
      | true =>
        obtain ⟨v1, v2⟩ := hgo rfl
        have hl2 : lvOk c (lvUp w p v) := fun q hq => by
          show (if q = p then v else w q) ≤ cTop c
          have := hl q hq
          split <;> omega
        have f33 : ∀ o j, o ≠ 33 → (qW sG 33 p (nI v)).1 o j = sG.1 o j := fun o j h => q_rw_o h
        obtain ⟨r, sG2, j1, ⟨j2, j2b⟩, j3⟩ := ih (i + 1) (lvUp w p v) (qW sG 33 p (nI v)) (by omega) hl2 (RT_33 f33 hR) (RL_w hL) (by rw [f33 _ _ (by decide)]; exact h9) (fun j hj => by rw [f33 _ _ (by decide), f33 _ _ (by decide)]; exact hrow j hj)
        refine ⟨r, sG2, by rw [hG, bt0, v2]; exact j1, ⟨fun o j h => (j2 o j h).trans (f33 o j h), j2b⟩, fun sM r1 r2 r3 r4 r5 => ?_⟩
        have F : FM sM (qW sM 54 p (nI v)) := FM.rf.w (by omega)
        obtain ⟨sM2, t1, t2⟩ := j3 (qW sM 54 p (nI v)) (F.RM r1) (F.RC r2) (RL_w r3) (by rw [q_rw_o (by decide)]; exact r4) (fun j hj => by rw [q_rw_o (by decide), q_rw_o (by decide), q_rw_o (by decide), q_rw_o (by decide)]; exact r5 j hj)
        exact ⟨sM2, by rw [hM sM r1 r2 r3 r4 r5, bt0, v2]; exact t1, F.tr t2⟩
    have e2 : (2 : Int32) * nI i = nI (2 * i) := pk_mul 2 i
    have q1 : qIn (nI (2 * i)) 24 := qIn_n (by omega) (by omega)
    have q2 : qIn (nI (2 * i + 1)) 24 := qIn_n (by omega) (by omega)
    have hu2 : u = 0 ∨ u = 1 := by omega
    rcases hu2 with hz | hz
    · subst hz
      refine fin (cSink c ALL w p) (w p - 1) (-1) (fun h => ?_) ?_ (fun sM r1 r2 r3 r4 r5 => ?_)
      · have lt := (cSink_lt h).1
        have := hl p hp
        refine ⟨by omega, ?_⟩
        rw [dI_pred2]
        obtain ⟨y, hy⟩ : ∃ y, w p = y + 1 := ⟨w p - 1, by omega⟩
        rw [hy]
        rfl
      · rw [el_G_judge_1, h9, if_neg hlt, if_neg n12, if_pos i12, if_pos i12, nI_cl (by omega), g31, g32, if_neg (show ¬ nI 0 = (1 : Int32) from by decide), if_pos (show (0 : Int32) = 0 from rfl), t_canSink (d := d + 3) tr33 hR hk hL hl hp, sm_some]
        dsimp only
        rw [t_isOne (Or.inl rfl) hR hk hp, sm_some, n10, if_pos a5, if_pos a5, nI_cl (by omega), hL p hp, nI_1]
        rfl
      · obtain ⟨a, b⟩ := r5 i (by omega)
        rw [g31] at a
        rw [g32] at b
        rw [el_M_judge_2, r4, if_neg hlt, e2, if_pos q1, nI_1, if_pos q2, nI_cl (by omega), nI_cl (by omega), a, b, m_sink (d := d + 3) (Or.inr rfl) r1 r2 r3 hk hl (by decide) hp, sm_some]
        dsimp only
        rw [if_pos a5, if_pos q2, if_pos a5, nI_cl (by omega), r3 p hp, b, if_neg (show ¬ nI 0 = (1 : Int32) from by decide), nI_1]
    · subst hz
      refine fin (cRise c ALL w p) (w p + 1) 1 (fun h => ?_) ?_ (fun sM r1 r2 r3 r4 r5 => ?_)
      · have lt := (cRise_lt h).1
        exact ⟨by omega, nI_1 _⟩
      · rw [el_G_judge_1, h9, if_neg hlt, if_neg n12, if_pos i12, if_pos i12, nI_cl (by omega), g31, g32, if_pos (show nI 1 = (1 : Int32) from by decide), if_neg (show ¬ (1 : Int32) = 0 from by decide), t_canRise (d := d + 2) tr33 hR hk hL hl hp, sm_some]
        dsimp only
        rw [t_isOne (Or.inl rfl) hR hk hp, sm_some, n10, if_pos a5, if_pos a5, nI_cl (by omega), hL p hp, nI_1]
        rfl
      · obtain ⟨a, b⟩ := r5 i (by omega)
        rw [g31] at a
        rw [g32] at b
        rw [el_M_judge_2, r4, if_neg hlt, e2, if_pos q1, nI_1, if_pos q2, nI_cl (by omega), nI_cl (by omega), a, b, m_rise (d := d + 2) (u := nI 1) (Or.inr rfl) r1 r2 r3 hk hl rfl hp, sm_some]
        dsimp only
        rw [if_pos a5, if_pos q2, if_pos a5, nI_cl (by omega), r3 p hp, b, if_pos (show nI 1 = (1 : Int32) from by decide), nI_1]
end JUDGE
