/-! what both are asked of what lies ahead -/
def FG (s s2 : qMem) : Prop := (∀ o k, ¬ (26 ≤ o ∧ o ≤ 30) → ¬ (o = 0 ∧ k = 6) → s2.1 o k = s.1 o k) ∧ s2.2 = s.2
theorem FG.rf {s : qMem} : FG s s := ⟨fun _ _ _ _ => rfl, rfl⟩
theorem FG.tr {s s2 s3 : qMem} (h : FG s s2) (h2 : FG s2 s3) : FG s s3 := ⟨fun o k q q2 => (h2.1 o k q q2).trans (h.1 o k q q2), h2.2.trans h.2⟩
theorem Fs.FG {s s2 : qMem} (h : Fs s s2) : FG s s2 := ⟨fun o k q _ => h.1 o k q, h.2⟩
theorem FG.w6 {s s2 : qMem} {v : Int32} (h : FG s s2) : FG s (qW s2 0 6 v) := ⟨fun a b q q2 => by
  rw [q_rw_if, if_neg q2]
  exact h.1 a b q q2, h.2⟩
theorem FG.RT {s s2 : qMem} {t : Nat} {c : Co} (h : FG s s2) (ht : t = 1 ∨ t = 10) (hR : RT s t c) : RT s2 t c := by
  obtain ⟨h1, h2, h3, h4⟩ := hR
  have e : ∀ o k, 1 ≤ o → o ≤ 18 → s2.1 o k = s.1 o k := fun o k q0 q => h.1 o k (by omega) (by omega)
  refine ⟨by rw [e _ _ (by omega) (by omega)]; exact h1, by rw [e _ _ (by omega) (by omega)]; exact h2, fun i hi => ?_, fun p hp => ?_⟩
  · rw [e _ _ (by omega) (by omega), e _ _ (by omega) (by omega)]
    exact h3 i hi
  · rw [e _ _ (by omega) (by omega), e _ _ (by omega) (by omega), e _ _ (by omega) (by omega), e _ _ (by omega) (by omega), e _ _ (by omega) (by omega), e _ _ (by omega) (by omega)]
    exact h4 p hp
theorem FG.RL {s s2 : qMem} {r n : Nat} {lv : Nat → Nat} (h : FG s s2) (hr : ¬ (26 ≤ r ∧ r ≤ 30)) (hr0 : r ≠ 0) (hL : RL s r n lv) : RL s2 r n lv := fun p hp => by rw [h.1 r p hr (by omega)]; exact hL p hp
def CI (s : qMem) (c : Co) (lv : Nat → Nat) : Prop := RT s 1 c ∧ RL s 23 (cN c) lv ∧ SI s ∧ (s.1 0 6 = 0 ∨ RS s (bfs c ALL (cSum lv (cN c))) ∧ s.1 26 4 = nI (gM c ALL (cSum lv (cN c))))
def MI (s : qMem) (c : Co) (lv : Nat → Nat) : Prop := RM s c ∧ RC s ALL ∧ RL s 45 (cN c) lv
def CF (s : qMem) (c : Co) (lv : Nat → Nat) : Prop := RT s 1 c ∧ RL s 23 (cN c) lv ∧ RS s (bfs c ALL (cSum lv (cN c))) ∧ s.1 26 4 = nI (gM c ALL (cSum lv (cN c)))
def ask (c : Co) (lv : Nat → Nat) (G M : qMem → Option (Int32 × qMem)) : Prop := ∃ r, (∀ s, CI s c lv → ∃ s2, G s = some (r, s2) ∧ CI s2 c lv ∧ FG s s2) ∧ ∀ s, MI s c lv → ∃ s2, M s = some (r, s2) ∧ FM s s2
section ASKS
variable {d : Nat} {c : Co} {lv : Nat → Nat}
theorem CF.CI {s : qMem} (hk : cOk c) (hl : lvOk c lv) (h : CF s c lv) : CI s c lv := ⟨h.1, h.2.1, RS_SI hk.2.1 (bfs_lv ALL hk hl).1 h.2.2.1, Or.inr ⟨h.2.2.1, h.2.2.2⟩⟩
theorem FM.MI {s s2 : qMem} (h : FM s s2) (hM : MI s c lv) : MI s2 c lv := ⟨h.RM hM.1, h.RC hM.2.1, h.RL (by omega) (by omega) hM.2.2⟩
theorem F30.CF {s s2 : qMem} (h : F30 s s2) (hC : CF s c lv) : CF s2 c lv := ⟨h.Fs.RT (Or.inl rfl) hC.1, fun p hp => by rw [h.1 _ _ (by decide)]; exact hC.2.1 p hp, h.RS hC.2.2.1, by rw [h.1 _ _ (by decide)]; exact hC.2.2.2⟩
theorem g_foresee {s : qMem} (hk : cOk c) (hl : lvOk c lv) (hC : CI s c lv) : ∃ s2, m_G_foresee (d + 6) s = some s2 ∧ CF s2 c lv ∧ FG s s2 := by
  rw [e_G_foresee]
  obtain ⟨h1, h2, h3, h4⟩ := hC
  by_cases z : s.1 0 6 = 0
  · obtain ⟨s1, g1, g2, g3, g4, g5⟩ := s_look (d := d) (t := 1) (r := 23) (Or.inl ⟨rfl, rfl⟩) hk hl h3 h1 h2
    refine ⟨qW s1 0 6 1, ?_, ⟨?_, ?_, ?_, ?_⟩, g5.FG.w6⟩
    · rw [if_pos z, g1, sm_some]
    · exact (FG.rf (s := s1)).w6.RT (Or.inl rfl) (g5.RT (Or.inl rfl) h1)
    · exact (FG.rf (s := s1)).w6.RL (by omega) (by omega) (g5.RL (by omega) h2)
    · obtain ⟨a1, a2, a3, a4⟩ := g2
      exact ⟨by rw [q_rw_o (by decide)]; exact a1, fun j hj => by rw [q_rw_o (by decide)]; exact a2 j hj, fun k hk => by rw [q_rw_o (by decide)]; exact a3 k hk, fun j hj => by rw [q_rw_o (by decide)]; exact a4 j hj⟩
    · rw [q_rw_o (by decide), g4, gM_all hk hl]
  · rcases h4 with h4 | h4
    · exact absurd h4 z
    · exact ⟨s, by rw [if_neg z], ⟨h1, h2, h4.1, h4.2⟩, FG.rf⟩
theorem gFar_lt {M : Nat → Bool} {f : Nat} (hk : cOk c) (hl : lvOk c lv) (h : gFar c M (cSum lv (cN c)) = some f) : f < 3125 := bD_lt (bfs_lv M hk hl).1 h
theorem ask_soonest (hk : cOk c) (hl : lvOk c lv) : ask c lv (m_G_soonest (d + 8)) (m_M_soonest (d + 8)) := by
  refine ⟨oI (gFar c ALL (cSum lv (cN c))), fun s hC => ?_, fun s hM => ?_⟩
  · obtain ⟨s1, g1, g2, g3⟩ := g_foresee (d := d + 1) hk hl hC
    refine ⟨s1, ?_, g2.CI hk hl, g3⟩
    rw [e_G_soonest, g1, sm_some, s_fewest (d := d + 4) hk g2.2.2.1 g2.2.2.2, sm_some]
  · obtain ⟨s1, g1, g2, g3⟩ := m_soonestOf (d := d) hk hl hM.1 hM.2.1 hM.2.2
    refine ⟨s1, ?_, g3⟩
    rw [e_M_soonest, g1, sm_some]
theorem ask_many {n : Int32} (hk : cOk c) (hl : lvOk c lv) : ask c lv (m_G_many (d + 8) n) (m_M_many (d + 8) n) := by
  have hO := (bfs_lv ALL hk hl).1
  by_cases z : 0 ≤ n
  · refine ⟨cMany (bfs c ALL (cSum lv (cN c))) n 0 (bN (bfs c ALL (cSum lv (cN c)))) 0, fun s hC => ?_, fun s hM => ?_⟩
    · obtain ⟨s1, g1, g2, g3⟩ := g_foresee (d := d + 1) hk hl hC
      refine ⟨s1, ?_, g2.CI hk hl, g3⟩
      rw [e_G_many, if_pos z, g1, sm_some, e_S_positionsBehind]
      have := s_many1 (d := d + 4) (n := n) hk hO (bN (bfs c ALL (cSum lv (cN c)))) 0 0 s1 (by omega) g2.2.2.1
      exact (congrArg (fun y => Option.bind y (fun q2 => some (q2.1, q2.2))) this).trans rfl
    · obtain ⟨s1, g1, g2, g2b, g3⟩ := m_lay (d := d + 1) hk hl hM.1 hM.2.1 hM.2.2
      refine ⟨s1, ?_, g3⟩
      rw [e_M_many, if_pos z, g1, sm_some]
      exact m_many1 (d := d + 7) (n := n) hk hO (bN (bfs c ALL (cSum lv (cN c)))) 0 0 s1 (by omega) g2
  · refine ⟨-3, fun s hC => ⟨s, ?_, hC, FG.rf⟩, fun s hM => ⟨s, ?_, FM.rf⟩⟩
    · rw [e_G_many, if_neg z]
    · rw [e_M_many, if_neg z]
theorem ask_soon {x : Int32} (hk : cOk c) (hl : lvOk c lv) : ask c lv (m_G_soon (d + 8) x) (m_M_soon (d + 8) x) := by
  have hO := (bfs_lv ALL hk hl).1
  have h5 := hk.2.1
  have h4 := hk.1
  rcases i_cases x (cN c) with ⟨p, hp, rfl⟩ | hx
  · refine ⟨cSoon (bfs c ALL (cSum lv (cN c))) (cTop c) p 0 (bN (bfs c ALL (cSum lv (cN c)))), fun s hC => ?_, fun s hM => ?_⟩
    · obtain ⟨s1, g1, g2, g3⟩ := g_foresee (d := d + 1) hk hl hC
      obtain ⟨s2, k1, k2⟩ := s_soon1 (d := d + 4) (t := cTop c) (p := p) hk hO (by omega) (by omega) (bN (bfs c ALL (cSum lv (cN c)))) 0 s1 (by omega) g2.2.2.1
      refine ⟨s2, ?_, (k2.CF g2).CI hk hl, g3.tr k2.Fs.FG⟩
      have e5 : nI p < 5 := by
        show nI p < nI 5
        rw [nI_ltI (by omega) (by omega)]
        omega
      rw [e_G_soon, t_isOne (Or.inl rfl) hC.1 hk hp, sm_some, n10, g1, sm_some, e_S_fewestFor, if_neg (nI_pos (by omega)), if_pos e5, g2.1.1]
      exact (congrArg (fun y => Option.bind y (fun q2 => some (q2.1, q2.2))) k1).trans rfl
    · obtain ⟨s1, g1, g2, g2b, g3⟩ := m_lay (d := d + 1) hk hl hM.1 hM.2.1 hM.2.2
      obtain ⟨s2, k1, k2⟩ := m_soon1 (d := d + 6) hk hO hp (bN (bfs c ALL (cSum lv (cN c)))) 0 s1 (by omega) (g3.RM hM.1) g2
      refine ⟨s2, ?_, g3.tr k2⟩
      rw [e_M_soon, m_isOne hM.1 hk hp, sm_some, n10, g1, sm_some]
      exact k1
  · refine ⟨-2, fun s hC => ⟨s, ?_, hC, FG.rf⟩, fun s hM => ⟨s, ?_, FM.rf⟩⟩
    · rw [e_G_soon, t_isOne_out (Or.inl rfl) hC.1 hk hx, sm_some, n00]
    · rw [e_M_soon, m_isOne_out hM.1 hk hx, sm_some, n00]
theorem in01 {w : Int32} : w < 0 ∨ (¬ w < 0 ∧ 1 < w) ∨ w = 0 ∨ w = 1 := by
  rcases i_cases w 2 with ⟨p, hp, rfl⟩ | hx
  · rcases Nat.lt_or_ge p 1 with z | z
    · have : p = 0 := by omega
      subst this
      exact Or.inr (Or.inr (Or.inl rfl))
    · have : p = 1 := by omega
      subst this
      exact Or.inr (Or.inr (Or.inr rfl))
  · rcases i_out (n := 2) (by omega) hx with z | z
    · exact Or.inl z
    · by_cases y : w < 0
      · exact Or.inl y
      · refine Or.inr (Or.inl ⟨y, ?_⟩)
        obtain ⟨q, hq, rfl⟩ := nI_of y
        rw [nI_leI (by omega) hq] at z
        show nI 1 < nI q
        rw [nI_ltI (by omega) hq]
        omega
theorem lt_le1 {w : Int32} (h : 1 < w) : ¬ w ≤ 1 := by
  rw [Int32.lt_iff_toInt_lt] at h
  rw [Int32.le_iff_toInt_le]
  omega
theorem m_in01 {s : qMem} {w : Int32} : m_M_in (d + 1) w 0 1 s = some (b2i (decide (w = 0 ∨ w = 1)), s) := by
  rw [e_M_in]
  rcases in01 (w := w) with z | ⟨z, z2⟩ | z | z
  · rw [if_pos z, decide_eq_false (fun y => by rcases y with y | y <;> (subst y; revert z; decide))]
    rfl
  · rw [if_neg z, if_pos z2, decide_eq_false (fun y => by rcases y with y | y <;> (subst y; revert z2; decide))]
    rfl
  · subst z
    rw [if_neg (by decide), if_neg (by decide), decide_eq_true (Or.inl rfl)]
    rfl
  · subst z
    rw [if_neg (by decide), if_neg (by decide), decide_eq_true (Or.inr rfl)]
    rfl
end ASKS
