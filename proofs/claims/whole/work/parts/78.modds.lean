/-! the odds by the reference -/
def FM3 (s s2 : qMem) : Prop := (∀ o k, ¬ (50 ≤ o ∧ o ≤ 54) → ¬ (o = 40 ∧ k = 28) → ¬ (o = 40 ∧ k = 30) → s2.1 o k = s.1 o k) ∧ s2.2 = s.2
theorem FM3.tr {s s2 s3 : qMem} (h : FM3 s s2) (h2 : FM3 s2 s3) : FM3 s s3 := ⟨fun o k q q2 q3 => (h2.1 o k q q2 q3).trans (h.1 o k q q2 q3), h2.2.trans h.2⟩
theorem FM.FM3 {s s2 : qMem} (h : FM s s2) : FM3 s s2 := ⟨fun o k q q2 _ => h.1 o k q q2, h.2⟩
theorem FM3.w {s : qMem} {v : Int32} : FM3 s (qW s 40 30 v) := ⟨fun o k _ _ h => by rw [q_rw_if, if_neg h], rfl⟩
theorem FM3.RM {s s2 : qMem} {c : Co} (h : FM3 s s2) (hR : RM s c) : RM s2 c := by
  obtain ⟨h1, h2, h3, ⟨m, m1, m2, m3⟩, h4⟩ := hR
  refine ⟨by rw [h.1 _ _ (by omega) (by omega) (by omega)]; exact h1, by rw [h.1 _ _ (by omega) (by omega) (by omega)]; exact h2, fun i hi => by rw [h.1 _ _ (by omega) (by omega) (by omega)]; exact h3 i hi, ⟨m, m1, by rw [h.1 _ _ (by omega) (by omega) (by omega)]; exact m2, m3⟩, fun p hp j hj => by rw [h.1 _ _ (by omega) (by omega) (by omega)]; exact h4 p hp j hj⟩
theorem FM3.RL {s s2 : qMem} {r n : Nat} {lv : Nat → Nat} (h : FM3 s s2) (hr : ¬ (50 ≤ r ∧ r ≤ 54)) (hr2 : r ≠ 40) (hL : RL s r n lv) : RL s2 r n lv := fun p hp => by rw [h.1 r p hr (by omega) (by omega)]; exact hL p hp
section MODDS
variable {d : Nat} {c : Co} {lv : Nat → Nat}
theorem m_chance1 {part w : Nat} {x2 x3 x4 : Int32} (hp : part ≤ 10) (hw : w < 32) (h5 : cN c ≤ 5) : ∀ (q p a : Nat) (s : qMem), p + q = cN c → s.1 40 3 = nI (cN c) → l_M_odds_2 (d + 1) (nI part) x2 x3 x4 (nI w) (nI a) (nI p) s = l_M_odds_2 (d + 1) (nI part) x2 x3 x4 (nI w) (nI (chc part w p q a)) (nI (cN c)) s := by
  intro q
  induction q with
  | zero =>
    intro p a s hpq h1
    rw [show p = cN c by omega]
    rfl
  | succ q ih =>
    intro p a s hpq h1
    have e10 : (10 : Int32) - nI part = nI (10 - part) := pk_sub hp
    rw [el_M_odds_2, h1, if_neg (by rw [nI_leI (by omega) (by omega)]; omega), m_has hw (show p < 5 by omega), sm_some, e10, pk_mul, pk_mul, nI_1, chc]
    dsimp only
    cases z : w.testBit p with
    | true =>
      rw [bt0]
      exact ih (p + 1) _ s (by omega) h1
    | false =>
      rw [bf0]
      exact ih (p + 1) _ s (by omega) h1
theorem chc_le {part w : Nat} (hp : part ≤ 10) : ∀ (q p a : Nat), chc part w p q a ≤ a * 10 ^ q := by
  intro q
  induction q with
  | zero => intro p a; rw [chc, Nat.pow_zero, Nat.mul_one]; exact Nat.le_refl _
  | succ q ih =>
    intro p a
    rw [chc]
    have h1 : (bif w.testBit p then a * part else a * (10 - part)) ≤ a * 10 := by
      cases w.testBit p with
      | true => exact Nat.mul_le_mul_left a hp
      | false => exact Nat.mul_le_mul_left a (by omega)
    refine Nat.le_trans (ih _ _) ?_
    rw [Nat.pow_succ, Nat.mul_comm (10 ^ q) 10, ← Nat.mul_assoc]
    exact Nat.mul_le_mul_right _ h1
theorem m_odds1 {part : Nat} {pt : Int32} (hk : cOk c) (hl : lvOk c lv) (hp : part ≤ 10) : ∀ (q w a b : Nat) (s : qMem), w + q = 2 ^ cN c → RM s c → RL s 45 (cN c) lv → ∃ s2, l_M_odds_1 (d + 7) (nI part) pt (nI a) (nI b) (nI w) s = l_M_odds_1 (d + 7) (nI part) pt (nI (good c (cSum lv (cN c)) part w q a)) (nI (tot (cN c) part w q b)) (nI (2 ^ cN c)) s2 ∧ FM3 s s2 := by
  have h5 := hk.2.1
  have h2n := pow2_le (cN c) (by omega)
  have h10 := pow10_le (cN c) (by omega)
  intro q
  induction q with
  | zero =>
    intro w a b s hw hR hL
    rw [show w = 2 ^ cN c by omega]
    exact ⟨s, rfl, fun _ _ _ _ _ => rfl, rfl⟩
  | succ q ih =>
    intro w a b s hw hR hL
    have hlt : ¬ nI (2 ^ cN c) ≤ nI w := by
      rw [nI_leI (by omega) (by omega)]
      omega
    have hch := m_chance1 (d := d + 6) (c := c) (w := w) (part := part) (x2 := pt) (x3 := nI a) (x4 := nI b) hp (by omega) h5 (cN c) 0 1 s (by omega) hR.2.1
    have hle := chc_le (w := w) hp (cN c) 0 1
    rw [el_M_odds_1, hR.2.1, shl_all (cN c) (by omega), if_neg hlt]
    have hch2 : l_M_odds_2 (d + 7) (nI part) pt (nI a) (nI b) (nI w) 1 0 s = l_M_odds_2 (d + 7) (nI part) pt (nI a) (nI b) (nI w) (nI (chc part w 0 (cN c) 1)) (nI (cN c)) s := hch
    rw [hch2, el_M_odds_2, hR.2.1, if_pos (nI_le (Nat.le_refl _) (by omega)), good, tot, nI_1]
    have R1 : RM (qW s 40 30 (nI w)) c := (FM3.w (s := s)).RM hR
    have C1 : RC (qW s 40 30 (nI w)) (mOf w) := ⟨w, by omega, q_rw, fun _ _ => rfl⟩
    have L1 : RL (qW s 40 30 (nI w)) 45 (cN c) lv := (FM3.w (s := s)).RL (by omega) (by omega) hL
    by_cases z : chc part w 0 (cN c) 1 = 0
    · obtain ⟨s3, m1, m2⟩ := ih (w + 1) a b (qW s 40 30 (nI w)) (by omega) R1 L1
      refine ⟨s3, ?_, FM3.w.tr m2⟩
      rw [z, if_pos (by decide)]
      have e : (bif (gFar c (mOf w) (cSum lv (cN c))).isSome then 0 else 0) = 0 := by
        cases (gFar c (mOf w) (cSum lv (cN c))).isSome <;> rfl
      rw [e, Nat.add_zero, Nat.add_zero, show nI 0 = 0 from rfl, Int32.add_zero, Int32.add_zero]
      exact m1
    · have hz : ¬ nI (chc part w 0 (cN c) 1) ≤ 0 := by
        show ¬ nI (chc part w 0 (cN c) 1) ≤ nI 0
        rw [nI_leI (by omega) (by omega)]
        omega
      obtain ⟨s2, k1, k2, k3⟩ := m_soonestOf (d := d) hk hl R1 C1 L1
      obtain ⟨s3, m1, m2⟩ := ih (w + 1) (a + bif (gFar c (mOf w) (cSum lv (cN c))).isSome then chc part w 0 (cN c) 1 else 0) (b + chc part w 0 (cN c) 1) s2 (by omega) (k3.RM R1) (k3.RL (by omega) (by omega) L1)
      refine ⟨s3, ?_, (FM3.w.tr k3.FM3).tr m2⟩
      rw [if_neg hz, k1, sm_some, nI_add]
      dsimp only
      refine Eq.trans ?_ m1
      cases hg : gFar c (mOf w) (cSum lv (cN c)) with
      | none =>
        rw [if_pos (show oI none = -1 from rfl), Int32.add_zero]
        rfl
      | some f =>
        have hf3 := gFar_lt hk hl hg
        rw [if_neg (show ¬ oI (some f) = -1 from nI_m1 (by omega)), nI_add]
        rfl
theorem m_gcd {x2 x3 x4 : Int32} {s : qMem} : ∀ (b a : Nat), a < 2 ^ 31 → b < 2 ^ 31 → 0 < a + b → l_M_odds_3 d x2 x3 x4 (nI a) (nI b) s = some ((if x2 = 0 then x3 else x4) / nI (Nat.gcd a b), s) := by
  intro b
  induction b using Nat.strongRecOn with
  | ind b ih =>
    intro a ha hb h0
    rw [el_M_odds_3]
    rcases Nat.eq_zero_or_pos b with y | y
    · subst y
      have na : ¬ nI a = 0 := by
        show ¬ nI a = nI 0
        rw [nI_eq (by omega) (by omega)]
        omega
      rw [if_pos (by decide), if_neg na, Nat.gcd_zero_right]
    · have nb : ¬ nI b = 0 := by
        show ¬ nI b = nI 0
        rw [nI_eq (by omega) (by omega)]
        omega
      have nb2 : ¬ nI b ≤ 0 := by
        show ¬ nI b ≤ nI 0
        rw [nI_leI (by omega) (by omega)]
        omega
      have hr := Nat.mod_lt a y
      rw [if_neg nb2, if_neg nb, pk_rem ha y hb, gcd_step a b]
      exact ih (a % b) hr b hb (by omega) (by omega)
theorem in010 {k : Int32} : (∃ n, n ≤ 10 ∧ k = nI n ∧ ∀ (d : Nat) (s : qMem), m_M_in (d + 1) k 0 10 s = some (1, s)) ∨ ((∀ (d : Nat) (s : qMem), m_M_in (d + 1) k 0 10 s = some (0, s)) ∧ (k < 0 ∨ ¬ k < 0 ∧ 10 < k)) := by
  rcases i_cases k 11 with ⟨n, hn, rfl⟩ | hx
  · refine Or.inl ⟨n, by omega, rfl, fun d s => ?_⟩
    have h4 : ¬ (10 : Int32) < nI n := by
      show ¬ nI 10 < nI n
      rw [nI_ltI (by omega) (by omega)]
      omega
    rw [e_M_in, if_neg (nI_pos (by omega)), if_neg h4]
  · refine Or.inr ?_
    by_cases y : k < 0
    · refine ⟨fun d s => ?_, Or.inl y⟩
      rw [e_M_in, if_pos y]
    · rcases i_out (n := 11) (by omega) hx with z | z
      · exact absurd z y
      · obtain ⟨q, hq, rfl⟩ := nI_of y
        rw [nI_leI (by omega) hq] at z
        have h4 : (10 : Int32) < nI q := by
          show nI 10 < nI q
          rw [nI_ltI (by omega) (by omega)]
          omega
        refine ⟨fun d s => ?_, Or.inr ⟨y, h4⟩⟩
        rw [e_M_in, if_neg y, if_pos h4]
theorem g_odds1 {part : Int32} {pt : Int32} {s : qMem} (h5 : cN c ≤ 5) (h1 : s.1 1 1 = nI (cN c)) : ∀ (q p a : Nat), p + q = cN c → l_G_odds_1 d part pt 0 (nI a) (nI p) s = l_G_odds_2 d part pt 0 (nI (a * 10 ^ q)) 0 s := by
  intro q
  induction q with
  | zero =>
    intro p a hp
    rw [el_G_odds_1, h1, if_pos (nI_le (by omega) (by omega)), Nat.pow_zero, Nat.mul_one]
  | succ q ih =>
    intro p a hp
    have e : nI a * 10 = nI (a * 10) := pk_mul a 10
    rw [el_G_odds_1, h1, if_neg (by rw [nI_leI (by omega) (by omega)]; omega), e, nI_1, ih (p + 1) (a * 10) (by omega), Nat.mul_assoc, Nat.pow_succ, Nat.mul_comm 10 (10 ^ q)]
theorem ask_odds {k w : Int32} (hk : cOk c) (hl : lvOk c lv) : asks c lv (m_G_odds (d + 8) k w) (m_M_odds (d + 8) k w) := by
  have h5 := hk.2.1
  have h10 := pow10_le (cN c) (by omega)
  have h2n := pow2_le (cN c) (by omega)
  rcases in010 (k := k) with ⟨part, hp, rfl, hin⟩ | ⟨hin, hk4⟩
  · by_cases hw : w = 0 ∨ w = 1
    · have w0 : ¬ w < 0 := by rcases hw with z | z <;> (subst z; decide)
      have w1 : w ≤ 1 := by rcases hw with z | z <;> (subst z; decide)
      have p10 : ¬ (10 : Int32) < nI part := by
        show ¬ nI 10 < nI part
        rw [nI_ltI (by omega) (by omega)]
        omega
      have gl := good_le (c := c) (st := cSum lv (cN c)) (part := part) (2 ^ cN c) 0 0 0 (Nat.le_refl _)
      rw [tot_all (cN c) (by omega) part (by omega)] at gl
      have gpos : 0 < Nat.gcd (good c (cSum lv (cN c)) part 0 (2 ^ cN c) 0) (10 ^ cN c) := Nat.gcd_pos_of_pos_right _ (by omega)
      have gle : Nat.gcd (good c (cSum lv (cN c)) part 0 (2 ^ cN c) 0) (10 ^ cN c) ≤ 10 ^ cN c := Nat.gcd_le_right _ (by omega)
      refine ⟨(if w = 0 then nI (good c (cSum lv (cN c)) part 0 (2 ^ cN c) 0) else nI (10 ^ cN c)) / nI (Nat.gcd (good c (cSum lv (cN c)) part 0 (2 ^ cN c) 0) (10 ^ cN c)), fun s hC => ?_, fun s hM => ?_⟩
      · obtain ⟨s2, k1, k2, k3⟩ := g_odds2 (d := d) (part := part) (w0 := 0) (pt := w) (tt := 10 ^ cN c) hk hl hp (2 ^ cN c) 0 0 s (by omega) hC
        refine ⟨s2, ?_, k2, k3⟩
        have o1 := g_odds1 (d := d + 7) (c := c) (part := nI part) (pt := w) (s := s) h5 hC.1.2.1 (cN c) 0 1 (by omega)
        rw [Nat.one_mul] at o1
        rw [e_G_odds, if_neg (nI_pos (by omega)), if_neg p10, if_neg w0, if_pos w1]
        refine Eq.trans o1 (Eq.trans k1 ?_)
        have hg0 : (0 : Int32) < nI (Nat.gcd (good c (cSum lv (cN c)) part 0 (2 ^ cN c) 0) (10 ^ cN c)) := by
          show nI 0 < _
          rw [nI_ltI (by omega) (by omega)]
          exact gpos
        have hgn : ¬ nI (Nat.gcd (good c (cSum lv (cN c)) part 0 (2 ^ cN c) 0) (10 ^ cN c)) = 0 := by
          show ¬ _ = nI 0
          rw [nI_eq (by omega) (by omega)]
          omega
        have hgc := g_gcd1 (d := d + 6) 17 (good c (cSum lv (cN c)) part 0 (2 ^ cN c) 0) (10 ^ cN c) 0 s2 (by omega) (by omega) (by omega) (by omega)
        have hgc2 : m_G_commonDivisor (d + 7) (nI (good c (cSum lv (cN c)) part 0 (2 ^ cN c) 0)) (nI (10 ^ cN c)) s2 = some (nI (Nat.gcd (good c (cSum lv (cN c)) part 0 (2 ^ cN c) 0) (10 ^ cN c)), s2) := by
          rw [e_G_commonDivisor]
          exact hgc
        rw [el_G_odds_2, k2.1.2.1, shl_all (cN c) (by omega), if_pos (nI_le (Nat.le_refl _) (by omega)), hgc2, sm_some]
        dsimp only
        rw [if_pos hg0, if_neg hgn]
      · obtain ⟨m, m1, m2, m3⟩ := hM.2.1
        have m31 : m = 31 := by
          have : ∀ m, m < 32 → (∀ q, q < 5 → true = m.testBit q) → m = 31 := by decide +kernel
          exact this m m1 m3
        subst m31
        obtain ⟨s2, k1, k2⟩ := m_odds1 (d := d) (part := part) (pt := w) hk hl hp (2 ^ cN c) 0 0 0 s (by omega) hM.1 hM.2.2
        refine ⟨qW s2 40 30 31, ?_, ⟨fun o k h1 h2 => ?_, k2.2⟩⟩
        · rw [e_M_odds, hin, sm_some]
          dsimp only
          rw [if_neg (show ¬ (1 : Int32) = 0 from by decide), m_in01, sm_some, decide_eq_true hw, bt0]
          refine Eq.trans k1 ?_
          rw [el_M_odds_1, (k2.RM hM.1).2.1, shl_all (cN c) (by omega), if_pos (nI_le (Nat.le_refl _) (by omega)), tot_all (cN c) (by omega) part (by omega)]
          exact m_gcd (10 ^ cN c) (good c (cSum lv (cN c)) part 0 (2 ^ cN c) 0) (by omega) (by omega) (by omega)
        · by_cases z : o = 40 ∧ k = 30
          · rw [z.1, z.2, q_rw]
            exact m2.symm
          · rw [q_rw_if, if_neg z]
            exact k2.1 o k h1 h2 z
    · refine asks_still (-3) (fun s hC => ?_) (fun s hM => ?_)
      · have p10 : ¬ (10 : Int32) < nI part := by
          show ¬ nI 10 < nI part
          rw [nI_ltI (by omega) (by omega)]
          omega
        rw [e_G_odds, if_neg (nI_pos (by omega)), if_neg p10]
        rcases in01 (w := w) with z | ⟨z, z2⟩ | z | z
        · rw [if_pos z]
        · rw [if_neg z, if_neg (lt_le1 z2)]
        · exact absurd (Or.inl z) hw
        · exact absurd (Or.inr z) hw
      · rw [e_M_odds, hin, sm_some]
        dsimp only
        rw [if_neg (show ¬ (1 : Int32) = 0 from by decide), m_in01, sm_some, decide_eq_false hw, bf0]
  · refine asks_still (-3) (fun s hC => ?_) (fun s hM => ?_)
    · rw [e_G_odds]
      rcases hk4 with z | ⟨z, z2⟩
      · rw [if_pos z]
      · rw [if_neg z, if_pos z2]
    · rw [e_M_odds, hin, sm_some]
      rfl
end MODDS
