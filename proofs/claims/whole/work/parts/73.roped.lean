/-! one rope more -/
def cRp (c : Co) (R : Nat → Bool) : Co := (cTop c, cN c, cH c, R, cP c)
def rUp (c : Co) (l : Nat) : Nat → Bool := fun i => cR c i || decide (i = l)
def rpd (c : Co) (st : Nat) : Nat → Nat → Int32 → Int32 → Int32 × Int32
  | _, 0, x2, x3 => (x2, x3)
  | l, q + 1, x2, x3 => if cR c l = true then rpd c st (l + 1) q x2 x3 else if oI (gFar (cRp c (rUp c l)) ALL st) = -1 then rpd c st (l + 1) q x2 x3 else if x2 = -1 then rpd c st (l + 1) q (oI (gFar (cRp c (rUp c l)) ALL st)) (nI l) else if x2 ≤ oI (gFar (cRp c (rUp c l)) ALL st) then rpd c st (l + 1) q x2 x3 else rpd c st (l + 1) q (oI (gFar (cRp c (rUp c l)) ALL st)) (nI l)
def rRes (w : Int32) (x : Int32 × Int32) : Int32 := if x.2 = -1 then -1 else (if w = 0 then x.2 else x.1)
theorem orb16 : ∀ m, m < 16 → ∀ l, l < 4 → orb m l < 16 := by decide +kernel
theorem orb16b : ∀ m, m < 16 → ∀ l, l < 4 → ∀ i, i < 4 → (orb m l).testBit i = (m.testBit i || decide (i = l)) := by decide +kernel
section ROPED
variable {d : Nat} {c : Co} {lv : Nat → Nat}
theorem cOk_rp {R : Nat → Bool} (hk : cOk c) : cOk (cRp c R) := hk
theorem g_roped1 {w : Int32} (hk : cOk c) (hl : lvOk c lv) : ∀ (q l : Nat) (x2 x3 : Int32) (s : qMem), l + q = cTop c → CI s c lv → ∃ s2, l_G_roped_1 (d + 7) w x2 x3 (nI l) s = some (rRes w (rpd c (cSum lv (cN c)) l q x2 x3), s2) ∧ CI s2 c lv ∧ FH s s2 := by
  have h4 := hk.1
  intro q
  induction q with
  | zero =>
    intro l x2 x3 s hl2 hC
    refine ⟨s, ?_, hC, FH.rf⟩
    rw [el_G_roped_1, hC.1.1, if_pos (nI_le (by omega) (by omega))]
    unfold rRes rpd
    by_cases z : x3 = -1
    · rw [if_pos z, if_pos z]
    · rw [if_neg z, if_neg z]
  | succ q ih =>
    intro l x2 x3 s hl2 hC
    have n4 : ¬ (4 : Int32) ≤ nI l := by
      show ¬ nI 4 ≤ nI l
      rw [nI_leI (by omega) (by omega)]
      omega
    have i4 : qIn (nI l) 4 := qIn_n (by omega) (by omega)
    have r3 : s.1 3 l = b2i (cR c l) := (hC.1.2.2.1 l (by omega)).2
    rw [el_G_roped_1, hC.1.1, if_neg (by rw [nI_leI (by omega) (by omega)]; omega), if_neg n4, if_pos i4, nI_cl (by omega), r3, nI_1, rpd]
    cases hr : cR c l with
    | true =>
      rw [bt0, if_pos rfl]
      exact ih (l + 1) x2 x3 s (by omega) hC
    | false =>
      rw [bf0, if_neg (show ¬ false = true from by decide)]
      obtain ⟨s1, g1, g2, g3, g4⟩ := t_copy (d := d + 5) (s := s) (Or.inr ⟨rfl, rfl⟩) hk hC.1
      have F1 : FH s (qW (qW s1 12 l 1) 0 6 0) := ⟨fun o k h1 h2 h3 h4 => by
        rw [q_rw_if, if_neg h4, q_rw_o (by omega)]
        exact g3 o k (by omega), g4⟩
      have hR' : RT (qW (qW s1 12 l 1) 0 6 0) 10 (cRp c (rUp c l)) := by
        obtain ⟨a1, a2, a3, a4⟩ := g2
        refine ⟨by rw [q_rw_o (by decide), q_rw_o (by decide)]; exact a1, by rw [q_rw_o (by decide), q_rw_o (by decide)]; exact a2, fun i hi => ⟨by rw [q_rw_o (by decide), q_rw_o (by decide)]; exact (a3 i hi).1, ?_⟩, fun p hp => ?_⟩
        · rw [q_rw_o (by decide)]
          show _ = b2i (cR c i || decide (i = l))
          by_cases z : i = l
          · subst z
            rw [show (10 + 2) = 12 from rfl, q_rw, decide_eq_true rfl, Bool.or_true]
            rfl
          · rw [show (10 + 2) = 12 from rfl, q_rw_k z, decide_eq_false z, Bool.or_false]
            exact (a3 i hi).2
        · have := a4 p hp
          exact this
      have hL' : RL (qW (qW s1 12 l 1) 0 6 0) 23 (cN c) lv := fun p hp => by
        rw [q_rw_o (by decide), q_rw_o (by decide), g3 _ _ (by omega)]
        exact hC.2.1 p hp
      have hS' : SI (qW (qW s1 12 l 1) 0 6 0) := by
        obtain ⟨n, n1, n2, f, n3, n4⟩ := hC.2.2.1
        exact ⟨n, n1, by rw [q_rw_o (by decide), q_rw_o (by decide), g3 _ _ (by omega)]; exact n2, f, fun i hi => ⟨(n3 i hi).1, by rw [q_rw_o (by decide), q_rw_o (by decide), g3 _ _ (by omega)]; exact (n3 i hi).2⟩, fun k hk => by rw [q_rw_o (by decide), q_rw_o (by decide), g3 _ _ (by omega)]; exact n4 k hk⟩
      obtain ⟨s2, k1, k2, k3, k4, k5⟩ := s_look (d := d + 2) (t := 10) (r := 23) (c := cRp c (rUp c l)) (Or.inr (Or.inl ⟨rfl, rfl⟩)) (cOk_rp hk) hl hS' hR' hL'
      rw [gM_all (c := cRp c (rUp c l)) (cOk_rp hk) hl] at k4
      have hf := s_fewest (d := d + 4) (c := cRp c (rUp c l)) (cOk_rp hk) k2 k4
      have F2 : FH s s2 := F1.tr k5.FG.FH
      have hC2 : CI s2 c lv := by
        refine ⟨?_, fun p hp => by rw [k5.1 _ _ (by omega)]; exact hL' p hp, RS_SI (c := cRp c (rUp c l)) hk.2.1 k3 k2, Or.inl (by rw [k5.1 _ _ (by omega)]; exact q_rw)⟩
        refine k5.RT (Or.inl rfl) ?_
        obtain ⟨a1, a2, a3, a4⟩ := hC.1
        have e : ∀ o k, 1 ≤ o → o ≤ 9 → (qW (qW s1 12 l 1) 0 6 0).1 o k = s.1 o k := fun o k h1 h2 => F1.1 o k (by omega) (by omega) (by omega) (by omega)
        refine ⟨by rw [e _ _ (by omega) (by omega)]; exact a1, by rw [e _ _ (by omega) (by omega)]; exact a2, fun i hi => ?_, fun p hp => ?_⟩
        · rw [e _ _ (by omega) (by omega), e _ _ (by omega) (by omega)]
          exact a3 i hi
        · rw [e _ _ (by omega) (by omega), e _ _ (by omega) (by omega), e _ _ (by omega) (by omega), e _ _ (by omega) (by omega), e _ _ (by omega) (by omega), e _ _ (by omega) (by omega)]
          exact a4 p hp
      rw [g1, sm_some, if_pos ⟨i4, Or.inr rfl⟩, k1, sm_some, hf, sm_some]
      dsimp only
      have go : ∀ y2 y3, ∃ s3, l_G_roped_1 (d + 7) w y2 y3 (nI (l + 1)) s2 = some (rRes w (rpd c (cSum lv (cN c)) (l + 1) q y2 y3), s3) ∧ CI s3 c lv ∧ FH s s3 := by
        intro y2 y3
        obtain ⟨s3, m1, m2, m3⟩ := ih (l + 1) y2 y3 s2 (by omega) hC2
        exact ⟨s3, m1, m2, F2.tr m3⟩
      have eN : cN (cRp c (rUp c l)) = cN c := rfl
      rw [eN]
      generalize oI (gFar (cRp c (rUp c l)) ALL (cSum lv (cN c))) = F
      by_cases a : F = -1
      · rw [if_pos a, if_pos a]
        exact go _ _
      · rw [if_neg a, if_neg a]
        by_cases b : x2 = -1
        · rw [if_pos b, if_pos b]
          exact go _ _
        · rw [if_neg b, if_neg b]
          by_cases e : x2 ≤ F
          · rw [if_pos e, if_pos e]
            exact go _ _
          · rw [if_neg e, if_neg e]
            exact go _ _
def FM2 (s s2 : qMem) : Prop := (∀ o k, ¬ (50 ≤ o ∧ o ≤ 54) → ¬ (o = 40 ∧ k = 28) → ¬ (o = 40 ∧ k = 2) → s2.1 o k = s.1 o k) ∧ s2.2 = s.2
theorem RM_rope {s : qMem} {m : Nat} {R R2 : Nat → Bool} (h : RM s (cRp c R)) (hm : m < 16) (hR : ∀ i, i < 4 → R2 i = m.testBit i) : RM (qW s 40 2 (nI m)) (cRp c R2) := by
  obtain ⟨a1, a2, a3, -, a5⟩ := h
  exact ⟨by rw [q_rw_k (by decide)]; exact a1, by rw [q_rw_k (by decide)]; exact a2, fun i hi => by rw [q_rw_o (by decide)]; exact a3 i hi, ⟨m, hm, q_rw, hR⟩, fun p hp j hj => by rw [q_rw_o (by decide)]; exact a5 p hp j hj⟩
theorem m_roped1 {w : Int32} {m : Nat} (hk : cOk c) (hl : lvOk c lv) (hm : m < 16) (hmR : ∀ i, i < 4 → cR c i = m.testBit i) : ∀ (q l : Nat) (x2 x3 : Int32) (s : qMem) (R : Nat → Bool), l + q = cTop c → RM s (cRp c R) → RC s ALL → RL s 45 (cN c) lv → ∃ s2, l_M_roped_1 (d + 7) w x2 x3 (nI m) (nI l) s = some (rRes w (rpd c (cSum lv (cN c)) l q x2 x3), s2) ∧ RM s2 c ∧ FM2 s s2 ∧ s2.1 40 2 = nI m := by
  have h4 := hk.1
  intro q
  induction q with
  | zero =>
    intro l x2 x3 s R hl2 hR hC hL
    have e1 : s.1 40 0 = nI (cTop c) := hR.1
    refine ⟨qW s 40 2 (nI m), ?_, RM_rope (R2 := cR c) hR hm hmR, ⟨fun o k h1 h2 h3 => by rw [q_rw_if, if_neg h3], rfl⟩, q_rw⟩
    rw [el_M_roped_1, e1, if_pos (nI_le (by omega) (by omega))]
    unfold rRes rpd
    by_cases z : x3 = -1
    · rw [if_pos z, if_pos z, z]
    · rw [if_neg z, if_neg z]
  | succ q ih =>
    intro l x2 x3 s R hl2 hR hC hL
    have e1 : s.1 40 0 = nI (cTop c) := hR.1
    rw [el_M_roped_1, e1, if_neg (by rw [nI_leI (by omega) (by omega)]; omega), m_has (show m < 32 by omega) (show l < 5 by omega), sm_some, ← hmR l (by omega), nI_1, rpd]
    dsimp only
    cases hr : cR c l with
    | true =>
      rw [bt0, if_pos rfl]
      exact ih (l + 1) x2 x3 s R (by omega) hR hC hL
    | false =>
      rw [bf0, if_neg (show ¬ false = true from by decide), orb_i m (by omega) l (by omega)]
      have R1 : RM (qW s 40 2 (nI (orb m l))) (cRp c (rUp c l)) := RM_rope hR (orb16 m hm l (by omega)) (fun i hi => by
        rw [orb16b m hm l (by omega) i hi, ← hmR i hi]
        rfl)
      have C1 : RC (qW s 40 2 (nI (orb m l))) ALL := by
        obtain ⟨k, k1, k2, k3⟩ := hC
        exact ⟨k, k1, by rw [q_rw_k (by decide)]; exact k2, k3⟩
      have L1 : RL (qW s 40 2 (nI (orb m l))) 45 (cN c) lv := fun p hp => by
        rw [q_rw_o (by decide)]
        exact hL p hp
      obtain ⟨s2, k1, k2, k3⟩ := m_soonestOf (d := d) (c := cRp c (rUp c l)) (cOk_rp hk) hl R1 C1 L1
      have F2 : FM2 s s2 := ⟨fun o k h1 h2 h3 => by rw [k3.1 o k h1 h2, q_rw_if, if_neg h3], k3.2⟩
      rw [k1, sm_some]
      dsimp only
      have go : ∀ y2 y3, ∃ s3, l_M_roped_1 (d + 7) w y2 y3 (nI m) (nI (l + 1)) s2 = some (rRes w (rpd c (cSum lv (cN c)) (l + 1) q y2 y3), s3) ∧ RM s3 c ∧ FM2 s s3 ∧ s3.1 40 2 = nI m := by
        intro y2 y3
        obtain ⟨s3, m1, m2, m3, m4⟩ := ih (l + 1) y2 y3 s2 _ (by omega) (k3.RM R1) (k3.RC C1) (k3.RL (by omega) (by omega) L1)
        exact ⟨s3, m1, m2, ⟨fun o k h1 h2 h3 => (m3.1 o k h1 h2 h3).trans (F2.1 o k h1 h2 h3), m3.2.trans F2.2⟩, m4⟩
      have eN : cN (cRp c (rUp c l)) = cN c := rfl
      rw [eN]
      generalize oI (gFar (cRp c (rUp c l)) ALL (cSum lv (cN c))) = F
      by_cases a : F = -1
      · rw [if_pos a, if_pos a]
        exact go _ _
      · rw [if_neg a, if_neg a]
        by_cases b : x2 = -1
        · rw [if_pos b, if_pos b]
          exact go _ _
        · rw [if_neg b, if_neg b]
          by_cases e : x2 ≤ F
          · rw [if_pos e, if_pos e, if_pos rfl, if_pos rfl]
            exact go _ _
          · rw [if_neg e, if_neg e, if_neg (show ¬ (1 : Int32) = 0 from by decide), if_neg (show ¬ (1 : Int32) = 0 from by decide)]
            exact go _ _
theorem ask_roped {w : Int32} (hk : cOk c) (hl : lvOk c lv) : asks c lv (m_G_roped (d + 8) w) (m_M_roped (d + 8) w) := by
  by_cases hw : w = 0 ∨ w = 1
  · have w0 : ¬ w < 0 := by rcases hw with z | z <;> (subst z; decide)
    have w1 : w ≤ 1 := by rcases hw with z | z <;> (subst z; decide)
    refine ⟨rRes w (rpd c (cSum lv (cN c)) 0 (cTop c) (oI (gFar c ALL (cSum lv (cN c)))) (-1)), fun s hC => ?_, fun s hM => ?_⟩
    · obtain ⟨s1, g1, g2, g3⟩ := g_foresee (d := d + 1) hk hl hC
      obtain ⟨s2, k1, k2, k3⟩ := g_roped1 (d := d) (w := w) hk hl (cTop c) 0 (oI (gFar c ALL (cSum lv (cN c)))) (-1) s1 (by omega) (g2.CI hk hl)
      refine ⟨s2, ?_, k2, g3.FH.tr k3⟩
      rw [e_G_roped, if_neg w0, if_pos w1, g1, sm_some, s_fewest (d := d + 4) hk g2.2.2.1 g2.2.2.2, sm_some]
      exact k1
    · obtain ⟨m, m1, m2, m3⟩ := hM.1.2.2.2.1
      obtain ⟨s1, g1, g2, g3⟩ := m_soonestOf (d := d) hk hl hM.1 hM.2.1 hM.2.2
      have R1 : RM s1 (cRp c (cR c)) := g3.RM hM.1
      obtain ⟨s2, k1, k2, k3, k4⟩ := m_roped1 (d := d) (w := w) hk hl m1 m3 (cTop c) 0 (oI (gFar c ALL (cSum lv (cN c)))) (-1) s1 (cR c) (by omega) R1 (g3.RC hM.2.1) (g3.RL (by omega) (by omega) hM.2.2)
      have e2 : s1.1 40 2 = nI m := by
        rw [g3.1 _ _ (by omega) (by omega)]
        exact m2
      refine ⟨s2, ?_, ⟨fun o k h1 h2 => ?_, k3.2.trans g3.2⟩⟩
      · rw [e_M_roped, m_in01, sm_some, decide_eq_true hw, bt0, g1, sm_some]
        dsimp only
        rw [e2]
        exact k1
      · by_cases z : o = 40 ∧ k = 2
        · rw [z.1, z.2, k4, m2]
        · rw [k3.1 o k h1 h2 z, g3.1 o k h1 h2]
  · refine asks_still (-3) (fun s hC => ?_) (fun s hM => ?_)
    · rw [e_G_roped]
      rcases in01 (w := w) with z | ⟨z, z2⟩ | z | z
      · rw [if_pos z]
      · rw [if_neg z, if_neg (lt_le1 z2)]
      · exact absurd (Or.inl z) hw
      · exact absurd (Or.inr z) hw
    · rw [e_M_roped, m_in01, sm_some, decide_eq_false hw, bf0]
end ROPED
