/-! who can make the last move, by the reference -/
section MLASTS
variable {d : Nat} {c : Co}
theorem aUp_cong {M : Nat → Bool} {v w : Nat → Nat} : ∀ (q p : Nat), (∀ i, p ≤ i → i < p + q → v i = w i) → aUp c M v p q = aUp c M w p q := by
  intro q
  induction q with
  | zero => intro p _; rfl
  | succ q ih =>
    intro p h
    rw [aUp, aUp, h p (Nat.le_refl _) (by omega), ih (p + 1) (fun i h1 h2 => h i (by omega) (by omega))]
/-- one up from there: all are up if that is the goal -/
theorem up_goal {st p x : Nat} {b : Bf} (hk : cOk c) (hB : bAll c ALL st b) {i : Nat} (hi : i < bN b) (hx : bF b i = x) (hp : p < cN c) (hr : cRise c ALL (cDig x) p = true) : aUp c ALL (lvUp (cDig x) p (cDig x p + 1)) 0 (cN c) = decide (x + 5 ^ p = gM c ALL st) := by
  obtain ⟨o1, o2, -⟩ := hB.1.2.1 i hi
  rw [hx] at o1 o2
  have hy := hB.2.2.1 i hi hi p 1 (x + 5 ^ p) ⟨hp, rfl, Or.inl ⟨rfl, by rw [hx], by rw [hx]; exact hr⟩⟩
  obtain ⟨j, j1, j2⟩ := (hB.1.2.2.1 _).mp hy
  have hd := (mv_up hk rfl o1 o2 hp (cRise_lt hr).1).2
  have e : aUp c ALL (lvUp (cDig x) p (cDig x p + 1)) 0 (cN c) = aUp c ALL (cDig (bF b j)) 0 (cN c) := by
    refine aUp_cong (cN c) 0 (fun q _ h2 => ?_)
    rw [j2, hd q (by omega)]
    rfl
  rw [e, Bool.eq_iff_iff, aUp_goal hk hB j1, decide_eq_true_eq, j2]
theorem dn_goal {p x : Nat} (hd : ∀ q, q < cN c → cDig x q ≤ cTop c) (hp : p < cN c) (hr : cSink c ALL (cDig x) p = true) : aUp c ALL (lvUp (cDig x) p (cDig x p - 1)) 0 (cN c) = false := by
  cases h : aUp c ALL (lvUp (cDig x) p (cDig x p - 1)) 0 (cN c) with
  | false => rfl
  | true =>
    exfalso
    have lt := cSink_lt hr
    have := (aUp_iff (cN c) 0).mp h p (Nat.zero_le _) (by omega) rfl lt.2
    have e : lvUp (cDig x) p (cDig x p - 1) p = cDig x p - 1 := if_pos rfl
    have h2 := hd p hp
    rw [e] at this
    omega
theorem RL_up {s : qMem} {w : Nat → Nat} {p v n : Nat} (hL : RL s 54 n w) : RL (qW s 54 p (nI v)) 54 n (lvUp w p v) := fun q hq => by
  show _ = nI (if q = p then v else w q)
  by_cases z : q = p
  · rw [z, q_rw, if_pos rfl]
  · rw [q_rw_k z, if_neg z]
    exact hL q hq
theorem m_last3 {st f i p a : Nat} {b : Bf} {s : qMem} (hk : cOk c) (hB : bAll c ALL st b) (hi : i < bN b) (hp : p < cN c) (ha : a < 32) (hR : RM s c) (hC : RC s ALL) (hS : RN s b) : ∃ s2, l_M_lasts_3 (d + 6) (nI f) (nI a) (nI i) (nI p) 0 s = l_M_lasts_2 (d + 6) (nI f) (nI (bif cRise c ALL (cDig (bF b i)) p && decide (bF b i + 5 ^ p = gM c ALL st) then orb a p else a)) (nI i) (nI (p + 1)) s2 ∧ FM s s2 ∧ RN s2 b := by
  have h5 := hk.2.1
  have h4 := hk.1
  have hp5 := pow5 (cN c) h5
  have hN := hB.1.1
  obtain ⟨o1, o2, -⟩ := hB.1.2.1 i hi
  have stp : ∀ (u : Nat) (a2 : Nat) (s : qMem) (go : Bool) (new : Nat) (up : Bool), u ≤ 1 → a2 < 32 → RM s c → RC s ALL → RN s b → (∀ s1, RM s1 c → RC s1 ALL → RL s1 54 (cN c) (cDig (bF b i)) → m_M_canGo (d + 6) 54 (nI p) (nI u) s1 = some (b2i go, s1)) → (go = true → (∀ v : Int32, v = nI (cDig (bF b i) p) → v + (if nI u = (1 : Int32) then 1 else -1 : Int32) = nI new) ∧ new ≤ 4 ∧ aUp c ALL (lvUp (cDig (bF b i)) p new) 0 (cN c) = up) → ∃ s2, l_M_lasts_3 (d + 6) (nI f) (nI a2) (nI i) (nI p) (nI u) s = l_M_lasts_3 (d + 6) (nI f) (nI (bif go && up then orb a2 p else a2)) (nI i) (nI p) (nI (u + 1)) s2 ∧ FM s s2 ∧ RN s2 b := by
    intro u a2 s go new up hu ha2 hR hC hS hgo hto
    obtain ⟨s1, u1, u2, u3, u4⟩ := m_place (d := d + 5) (s := s) h5 hR.2.1 (show bF b i < 2 ^ 31 by omega)
    have F1 : FM s s1 := ⟨fun o k q _ => u2 o k (by omega), u3⟩
    have S1 : RN s1 b := RN_o u2 hS
    have hnu : ¬ (2 : Int32) ≤ nI u := by
      show ¬ nI 2 ≤ nI u
      rw [nI_leI (by omega) (by omega)]
      omega
    rw [el_M_lasts_3, if_neg hnu, if_pos (qIn_n (by omega) (by omega)), nI_cl (by omega), hS.2.1 i hi, u1, sm_some, hgo s1 (F1.RM hR) (F1.RC hC) u4, sm_some, nI_1]
    dsimp only
    cases hg : go with
    | false =>
      refine ⟨s1, ?_, F1, S1⟩
      rw [bf0]
      rfl
    | true =>
      obtain ⟨t1, t2, t3⟩ := hto hg
      have F2 : FM s1 (qW s1 54 p (nI new)) := FM.rf.w (by omega)
      have hu2 := m_areUp (d := d + 4) (s := qW s1 54 p (nI new)) hk (F2.RM (F1.RM hR)) (F2.RC (F1.RC hC)) (RL_up u4) (fun q _ => by
        show (if q = p then new else cDig (bF b i) q) ≤ 4
        have := cDig_le (bF b i) q
        split <;> omega)
      refine ⟨qW s1 54 p (nI new), ?_, F1.tr F2, RN_o (fun o j ho => q_rw_o ho) S1⟩
      rw [bt0, if_pos (qIn_n (by omega) (by omega)), if_pos (qIn_n (by omega) (by omega)), nI_cl (by omega), t1 _ (u4 p hp), hu2, sm_some, t3]
      dsimp only
      cases up with
      | false =>
        rw [bf0, or_0]
        rfl
      | true =>
        rw [bt0, orb_i a2 ha2 p (by omega)]
        rfl
  obtain ⟨s1, g1, g2, g3⟩ := stp 0 a s (cSink c ALL (cDig (bF b i)) p) (cDig (bF b i) p - 1) false (by omega) ha hR hC hS (fun s1 r1 r2 r3 => m_sink (d := d + 2) (Or.inr rfl) r1 r2 r3 hk o2 (by decide) hp) (fun x => ⟨fun v hv => by
    rw [hv, if_neg (by decide), dI_pred2]
    have lt := cSink_lt x
    obtain ⟨k, hk2⟩ : ∃ k, cDig (bF b i) p = k + 1 := ⟨cDig (bF b i) p - 1, by omega⟩
    rw [hk2]
    rfl, by have := o2 p hp; omega, dn_goal o2 hp x⟩)
  rw [Bool.and_false] at g1
  obtain ⟨s2, k1, k2, k3⟩ := stp 1 a s1 (cRise c ALL (cDig (bF b i)) p) (cDig (bF b i) p + 1) (decide (bF b i + 5 ^ p = gM c ALL st)) (by omega) ha (g2.RM hR) (g2.RC hC) g3 (fun s1 r1 r2 r3 => m_rise (d := d + 1) (Or.inr rfl) r1 r2 r3 hk o2 rfl hp) (fun x => ⟨fun v hv => by
    rw [hv, if_pos (by decide)]
    exact nI_1 _, by have := (cRise_lt x).1; omega, up_goal hk hB hi rfl hp x⟩)
  refine ⟨s2, ?_, g2.tr k2, k3⟩
  refine Eq.trans g1 (Eq.trans k1 ?_)
  rw [el_M_lasts_3, if_pos (by decide), nI_1]
theorem m_last2 {st f i : Nat} {b : Bf} (hk : cOk c) (hB : bAll c ALL st b) (hi : i < bN b) (hf : 0 < f) (hf2 : f < 3126) : ∀ (q p a : Nat) (s : qMem), p + q = cN c → RM s c → RC s ALL → RN s b → a < 32 → ∃ s2, l_M_lasts_2 (d + 6) (nI f) (nI a) (nI i) (nI p) s = l_M_lasts_1 (d + 6) (nI f) (nI (orbs (lstM c b (gM c ALL st) f i) p q a)) (nI (i + 1)) s2 ∧ FM s s2 ∧ RN s2 b := by
  have h5 := hk.2.1
  have hp5 := pow5 (cN c) h5
  have hN := hB.1.1
  obtain ⟨o1, o2, -⟩ := hB.1.2.1 i hi
  intro q
  induction q with
  | zero =>
    intro p a s hp hR hC hS ha
    refine ⟨s, ?_, FM.rf, hS⟩
    rw [el_M_lasts_2, hR.2.1, if_pos (nI_le (by omega) (by omega)), nI_1]
    rfl
  | succ q ih =>
    intro p a s hp hR hC hS ha
    rw [el_M_lasts_2, hR.2.1, if_neg (by rw [nI_leI (by omega) (by omega)]; omega), if_pos (qIn_n (by omega) (by omega)), nI_cl (by omega), hS.2.1 i hi, if_pos (qIn_n (by omega) (by omega)), nI_cl (by omega), hS.2.2.1 _ (by omega), f_pred hf]
    by_cases z : bD b (bF b i) = some (f - 1)
    · rw [if_pos ((oI_some (fun x hx => by have := bD_lt hB.1 hx; omega) (by omega)).mpr z)]
      obtain ⟨s1, g1, g2, g3⟩ := m_last3 (d := d) (f := f) hk hB hi (show p < cN c by omega) ha hR hC hS
      have ha2 : (bif cRise c ALL (cDig (bF b i)) p && decide (bF b i + 5 ^ p = gM c ALL st) then orb a p else a) < 32 := by
        cases cRise c ALL (cDig (bF b i)) p && decide (bF b i + 5 ^ p = gM c ALL st) with
        | true => exact orb_lt a ha p (by omega)
        | false => exact ha
      obtain ⟨s2, k1, k2, k3⟩ := ih (p + 1) _ s1 (by omega) (g2.RM hR) (g2.RC hC) g3 ha2
      refine ⟨s2, ?_, g2.tr k2, k3⟩
      have e : lstM c b (gM c ALL st) f i p = (cRise c ALL (cDig (bF b i)) p && decide (bF b i + 5 ^ p = gM c ALL st)) := by
        unfold lstM
        rw [decide_eq_true z, Bool.true_and]
      rw [orbs, e]
      exact g1.trans k1
    · rw [if_neg (fun y => z ((oI_some (fun x hx => by have := bD_lt hB.1 hx; omega) (by omega)).mp y)), nI_1, orbs_no]
      · exact ⟨s, rfl, FM.rf, hS⟩
      · intro r _ _
        unfold lstM
        rw [decide_eq_false z, Bool.false_and]
theorem m_last1 {st f : Nat} {b : Bf} (hk : cOk c) (hB : bAll c ALL st b) (hf : 0 < f) (hf2 : f < 3126) : ∀ (q i a : Nat) (s : qMem), i + q = bN b → RM s c → RC s ALL → RN s b → a < 32 → ∃ s2, l_M_lasts_1 (d + 6) (nI f) (nI a) (nI i) s = some (nI (lsts c b (gM c ALL st) f i q a), s2) ∧ FM s s2 := by
  have h5 := hk.2.1
  have hN := hB.1.1
  intro q
  induction q with
  | zero =>
    intro i a s hi hR hC hS ha
    refine ⟨s, ?_, FM.rf⟩
    rw [el_M_lasts_1, hS.1, if_pos (nI_le (by omega) (by omega))]
    rfl
  | succ q ih =>
    intro i a s hi hR hC hS ha
    obtain ⟨s1, g1, g2, g3⟩ := m_last2 (d := d) (f := f) hk hB (show i < bN b by omega) hf hf2 (cN c) 0 a s (by omega) hR hC hS ha
    obtain ⟨s2, k1, k2⟩ := ih (i + 1) _ s1 (by omega) (g2.RM hR) (g2.RC hC) g3 (orbs_lt (cN c) 0 a (by omega) ha)
    refine ⟨s2, ?_, g2.tr k2⟩
    rw [el_M_lasts_1, hS.1, if_neg (by rw [nI_leI (by omega) (by omega)]; omega)]
    exact g1.trans k1
/-- nothing is far by less than nothing -/
theorem m_last0 {b : Bf} (hk : cOk c) (hO : bOk c (cN c) b) : ∀ (q i : Nat) (s : qMem), i + q = bN b → RM s c → RN s b → l_M_lasts_1 (d + 6) 0 0 (nI i) s = some (0, s) := by
  have h5 := hk.2.1
  have hp5 := pow5 (cN c) h5
  have hN := hO.1
  intro q
  induction q with
  | zero =>
    intro i s hi hR hS
    rw [el_M_lasts_1, hS.1, if_pos (nI_le (by omega) (by omega))]
  | succ q ih =>
    intro i s hi hR hS
    obtain ⟨o1, -, e, o3, o4⟩ := hO.2.1 i (by omega)
    have z : l_M_lasts_2 (d + 6) 0 0 (nI i) 0 s = l_M_lasts_1 (d + 6) 0 0 (nI (i + 1)) s := by
      rw [el_M_lasts_2, hR.2.1, nI_1]
      by_cases y : nI (cN c) ≤ 0
      · rw [if_pos y]
      · rw [if_neg y, if_pos (qIn_n (by omega) (by omega)), nI_cl (by omega), hS.2.1 i (by omega), if_pos (qIn_n (by omega) (by omega)), nI_cl (by omega), hS.2.2.1 _ (by omega), o3, if_neg]
        show ¬ nI e = (0 : Int32) - 1
        exact nI_m1 (by omega)
    rw [el_M_lasts_1, hS.1, if_neg (by rw [nI_leI (by omega) (by omega)]; omega), z]
    exact ih (i + 1) s (by omega) hR hS
end MLASTS
