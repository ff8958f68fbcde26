/-! where all are up: the first such position that was found -/
def aUp (c : Co) (M : Nat → Bool) (lv : Nat → Nat) : Nat → Nat → Bool
  | _, 0 => true
  | p, q + 1 => (!(M p) || decide (cP c p 0 = 3) || decide (lv p = cTop c)) && aUp c M lv (p + 1) q
theorem aUp_iff {c : Co} {M : Nat → Bool} {lv : Nat → Nat} : ∀ (q p : Nat), aUp c M lv p q = true ↔ ∀ i, p ≤ i → i < p + q → M i = true → cP c i 0 ≠ 3 → lv i = cTop c := by
  intro q
  induction q with
  | zero => intro p; exact ⟨fun _ i h1 h2 => by omega, fun _ => rfl⟩
  | succ q ih =>
    intro p
    rw [aUp, Bool.and_eq_true, ih (p + 1)]
    refine ⟨fun ⟨h1, h2⟩ i i1 i2 i3 i4 => ?_, fun h => ⟨?_, fun i i1 i2 => h i (by omega) (by omega)⟩⟩
    · by_cases z : i = p
      · subst z
        rw [i3, decide_eq_false i4] at h1
        simpa using h1
      · exact h2 i (by omega) (by omega) i3 i4
    · cases hM : M p with
      | false => rfl
      | true =>
        by_cases z : cP c p 0 = 3
        · rw [decide_eq_true z]
          rfl
        · rw [decide_eq_true (h p (Nat.le_refl _) (by omega) hM z)]
          simp
/-- where those who come and are no saints are at the top -/
def gM (c : Co) (M : Nat → Bool) (st : Nat) : Nat := cVal (fun p => if M p = true ∧ cP c p 0 ≠ 3 then cTop c else cDig st p) 0 (cN c)
theorem gM_lt {c : Co} {M : Nat → Bool} {st : Nat} (hk : cOk c) : gM c M st < 5 ^ cN c := by
  have h4 := hk.1
  refine cVal_lt (cN c) 0 (fun q _ h2 => ?_)
  have := cDig_le st q
  show (if M q = true ∧ cP c q 0 ≠ 3 then cTop c else cDig st q) ≤ 4
  split <;> omega
theorem gM_dig {c : Co} {M : Nat → Bool} {st : Nat} (hk : cOk c) {p : Nat} (hp : p < cN c) : cDig (gM c M st) p = (if M p = true ∧ cP c p 0 ≠ 3 then cTop c else cDig st p) := by
  have h4 := hk.1
  refine cDig_val (lv := fun p => if M p = true ∧ cP c p 0 ≠ 3 then cTop c else cDig st p) (fun q _ => ?_) hp
  have := cDig_le st q
  show (if M q = true ∧ cP c q 0 ≠ 3 then cTop c else cDig st q) ≤ 4
  split <;> omega
theorem gM_all {c : Co} {lv : Nat → Nat} (hk : cOk c) (hl : lvOk c lv) : cSum (gLv c lv) (cN c) = gM c ALL (cSum lv (cN c)) := by
  have h4 := hk.1
  have hle : ∀ q, q < cN c → lv q ≤ 4 := fun q hq => by have := hl q hq; omega
  rw [← cVal_eq]
  refine cVal_cong (cN c) 0 (fun p _ hp => ?_)
  show (if cP c p 0 = 3 then lv p else cTop c) = (if ALL p = true ∧ cP c p 0 ≠ 3 then cTop c else cDig (cSum lv (cN c)) p)
  rw [← cVal_eq, cDig_val hle (by omega)]
  by_cases z : cP c p 0 = 3
  · rw [if_pos z, if_neg (fun x => x.2 z)]
  · rw [if_neg z, if_pos ⟨rfl, z⟩]
theorem aUp_goal {c : Co} {M : Nat → Bool} {st : Nat} {b : Bf} (hk : cOk c) (h : bAll c M st b) {i : Nat} (hi : i < bN b) : aUp c M (cDig (bF b i)) 0 (cN c) = true ↔ bF b i = gM c M st := by
  obtain ⟨o1, o2, -⟩ := h.1.2.1 i hi
  rw [aUp_iff]
  refine ⟨fun g => ?_, fun g p _ hp hM hs => ?_⟩
  · rw [← cVal_cDig o1]
    refine cVal_cong (cN c) 0 (fun p _ hp => ?_)
    have hp : p < cN c := by omega
    show _ = (if M p = true ∧ cP c p 0 ≠ 3 then cTop c else cDig st p)
    by_cases z : M p = true ∧ cP c p 0 ≠ 3
    · rw [if_pos z]
      exact g p (Nat.zero_le _) (by omega) z.1 z.2
    · rw [if_neg z]
      refine bAll_dig hk h hp ?_ i hi
      cases hM : M p with
      | false => exact Or.inl rfl
      | true =>
        refine Or.inr ?_
        by_cases y : cP c p 0 = 3
        · exact y
        · exact absurd ⟨hM, y⟩ z
  · rw [g, gM_dig hk (by omega), if_pos ⟨hM, hs⟩]
theorem isN {x : Int32} : (if (none : Option Nat).isSome = true then x else (-1 : Int32)) = -1 := rfl
theorem isS {x : Int32} {e : Nat} : (if (some e).isSome = true then x else (-1 : Int32)) = x := rfl
section GOAL
variable {d : Nat} {c : Co} {M : Nat → Bool}
theorem m_areUp1 {s : qMem} {w : Nat → Nat} (hk : cOk c) (hR : RM s c) (hC : RC s M) (hL : RL s 54 (cN c) w) (hw : ∀ p, p < cN c → w p ≤ 4) : ∀ (q p : Nat) (a : Bool), p + q = cN c → l_M_areUp_1 (d + 1) (b2i a) (nI p) s = some (b2i (a && aUp c M w p q), s) := by
  have h5 := hk.2.1
  have h4 := hk.1
  intro q
  induction q with
  | zero =>
    intro p a hp
    rw [el_M_areUp_1, hR.2.1, if_pos (nI_le (by omega) (by omega)), if_pos (b2i_01 a), aUp, Bool.and_true]
  | succ q ih =>
    intro p a hp
    have hpn : p < cN c := by omega
    obtain ⟨m, m1, m2, m3⟩ := id hC
    have hMp := m3 p (by omega)
    have k0 : s.1 42 (6 * p) = nI (cP c p 0) := hR.2.2.2.2 p hpn 0 (by omega)
    have hk0 := (hk.2.2.2 p hpn).1
    have hwp := hw p hpn
    rw [el_M_areUp_1, hR.2.1, if_neg (by rw [nI_leI (by omega) (by omega)]; omega), nI_1, aUp]
    cases a with
    | false =>
      rw [bf0]
      exact ih (p + 1) false (by omega)
    | true =>
      rw [bt0, m2, m_has m1 (show p < 5 by omega), sm_some, ← hMp]
      dsimp only
      cases hM : M p with
      | false =>
        rw [bf0]
        exact ih (p + 1) true (by omega)
      | true =>
        rw [bt0]
        simp (disch := omega) only [sm_some, q_lit, q_neg1, nI_leI, nI_ltI, nI_eq, nI_cl, qIn_iff, nI_d0, d0_nI, dI_d0, dI_le, dI_eq, dI_n1, nI_1, nI_add, pk_mul, pk_div, nI_lt0, if_pos, if_neg, if_true, if_false, k0, hL p hpn, hR.1]
        by_cases z : cP c p 0 = 3
        · rw [if_pos z, decide_eq_true z]
          exact ih (p + 1) true (by omega)
        · rw [if_neg z, decide_eq_false z]
          have := ih (p + 1) (decide (w p = cTop c)) (by omega)
          rw [← b2i_ite] at this
          exact this
theorem m_areUp {s : qMem} {w : Nat → Nat} (hk : cOk c) (hR : RM s c) (hC : RC s M) (hL : RL s 54 (cN c) w) (hw : ∀ p, p < cN c → w p ≤ 4) : m_M_areUp (d + 2) s = some (b2i (aUp c M w 0 (cN c)), s) := by
  rw [e_M_areUp]
  exact m_areUp1 hk hR hC hL hw (cN c) 0 true (by omega)
theorem m_firstUp1 {st : Nat} {b : Bf} (hk : cOk c) (hB : bAll c M st b) : ∀ (q i : Nat) (s : qMem), i + q = bN b → RM s c → RC s M → RN s b → (∀ j, j < i → bF b j ≠ gM c M st) → ∃ s2, l_M_firstUp_1 (d + 2) (nI i) s = some ((if (bD b (gM c M st)).isSome = true then nI (gM c M st) else -1), s2) ∧ RN s2 b ∧ FM s s2 := by
  have h5 := hk.2.1
  have hp5 := pow5 (cN c) h5
  have hN := hB.1.1
  intro q
  induction q with
  | zero =>
    intro i s hi hR hC hS hn
    refine ⟨s, ?_, hS, FM.rf⟩
    rw [el_M_firstUp_1, hS.1, if_pos (nI_le (by omega) (by omega)), if_neg]
    intro z
    obtain ⟨j, j1, j2⟩ := (hB.1.2.2.1 _).mp z
    exact hn j (by omega) j2
  | succ q ih =>
    intro i s hi hR hC hS hn
    obtain ⟨o1, o2, -⟩ := hB.1.2.1 i (by omega)
    have e51 := hS.2.1 i (by omega)
    obtain ⟨s1, u1, u2, u3, u4⟩ := m_place (d := d + 1) (s := s) h5 hR.2.1 (show bF b i < 2 ^ 31 by omega)
    have F1 : FM s s1 := ⟨fun o k q _ => u2 o k (by omega), u3⟩
    have S1 : RN s1 b := RN_o u2 hS
    have hu := m_areUp (d := d) hk (F1.RM hR) (F1.RC hC) u4 (fun p _ => cDig_le _ _)
    rw [el_M_firstUp_1, hS.1, if_neg (by rw [nI_leI (by omega) (by omega)]; omega), if_pos (qIn_n (by omega) (by omega)), nI_cl (by omega), e51, u1, sm_some, hu, sm_some]
    dsimp only
    by_cases z : bF b i = gM c M st
    · refine ⟨s1, ?_, S1, F1⟩
      rw [(aUp_goal hk hB (by omega)).mpr z, bt0, if_pos (qIn_n (by omega) (by omega)), S1.2.1 i (by omega), z, if_pos]
      exact (hB.1.2.2.1 _).mpr ⟨i, by omega, z⟩
    · have z2 : aUp c M (cDig (bF b i)) 0 (cN c) = false := by
        cases h9 : aUp c M (cDig (bF b i)) 0 (cN c) with
        | false => rfl
        | true => exact absurd ((aUp_goal hk hB (by omega)).mp h9) z
      obtain ⟨s2, g1, g2, g3⟩ := ih (i + 1) s1 (by omega) (F1.RM hR) (F1.RC hC) S1 (fun j hj => by
        by_cases y : j = i
        · rw [y]; exact z
        · exact hn j (by omega))
      refine ⟨s2, ?_, g2, F1.tr g3⟩
      rw [z2, bf0, nI_1]
      exact g1
theorem m_firstUp {st : Nat} {b : Bf} {s : qMem} (hk : cOk c) (hB : bAll c M st b) (hR : RM s c) (hC : RC s M) (hS : RN s b) : ∃ s2, m_M_firstUp (d + 3) s = some ((if (bD b (gM c M st)).isSome = true then nI (gM c M st) else -1), s2) ∧ RN s2 b ∧ FM s s2 := by
  rw [e_M_firstUp]
  exact m_firstUp1 hk hB (bN b) 0 s (by omega) hR hC hS (fun j hj => absurd hj (Nat.not_lt_zero _))
theorem lv_st {lv : Nat → Nat} (hk : cOk c) (hl : lvOk c lv) : cSum lv (cN c) < 5 ^ cN c ∧ ∀ q, q < cN c → cDig (cSum lv (cN c)) q = lv q := by
  have h4 := hk.1
  have hle : ∀ q, q < cN c → lv q ≤ 4 := fun q hq => by have := hl q hq; omega
  exact ⟨cSum_lt hle (Nat.le_refl _), fun q hq => by rw [← cVal_eq, cDig_val hle hq]⟩
theorem bfs_lv {lv : Nat → Nat} (M : Nat → Bool) (hk : cOk c) (hl : lvOk c lv) : bAll c M (cSum lv (cN c)) (bfs c M (cSum lv (cN c))) := by
  obtain ⟨h1, h2⟩ := lv_st hk hl
  exact bfs_all hk h1 (fun q hq => by rw [h2 q hq]; exact hl q hq)
/-- how far the goal is -/
def gFar (c : Co) (M : Nat → Bool) (st : Nat) : Option Nat := bD (bfs c M st) (gM c M st)
theorem m_soonestOf {s : qMem} {lv : Nat → Nat} (hk : cOk c) (hl : lvOk c lv) (hR : RM s c) (hC : RC s M) (hL : RL s 45 (cN c) lv) : ∃ s2, m_M_soonestOf (d + 7) s = some (oI (gFar c M (cSum lv (cN c))), s2) ∧ RN s2 (bfs c M (cSum lv (cN c))) ∧ FM s s2 := by
  have h5 := hk.2.1
  have hp5 := pow5 (cN c) h5
  have hB := bfs_lv M hk hl
  have hg := gM_lt (M := M) (st := cSum lv (cN c)) hk
  obtain ⟨s1, f1, f2, -, f4⟩ := m_lay (d := d) hk hl hR hC hL
  obtain ⟨s2, g1, g2, g3⟩ := m_firstUp (d := d + 3) hk hB (f4.RM hR) (f4.RC hC) f2
  refine ⟨s2, ?_, g2, f4.tr g3⟩
  rw [e_M_soonestOf, f1, sm_some, g1, sm_some]
  dsimp only
  unfold gFar
  cases hD : bD (bfs c M (cSum lv (cN c))) (gM c M (cSum lv (cN c))) with
  | none =>
    rw [isN, if_pos rfl]
    rfl
  | some e =>
    rw [isS, if_neg (nI_m1 (by omega)), if_pos (qIn_n (by omega) (by omega)), nI_cl (by omega), g2.2.2.1 _ (by omega), hD]
/-- the class's -/
theorem s_awayAny {s : qMem} {b : Bf} {to : Nat} (h : to < 3125) (hS : RS s b) : m_S_awayOf (d + 2) (nI to) s = some (oI (bD b to), s) := by
  have e9 : s.1 27 to = oI (bD b to) := hS.2.2.1 to h
  rw [e_S_awayOf, s_isPos h, sm_some]
  simp (disch := omega) only [sm_some, q_lit, q_neg1, nI_leI, nI_ltI, nI_eq, nI_cl, qIn_iff, nI_d0, d0_nI, dI_d0, dI_le, dI_eq, dI_n1, nI_1, nI_add, pk_mul, pk_div, nI_lt0, if_pos, if_neg, if_true, if_false, n10, e9]
theorem s_fewest {s : qMem} {st : Nat} (hk : cOk c) (hS : RS s (bfs c ALL st)) (hg : s.1 26 4 = nI (gM c ALL st)) : m_S_fewest (d + 3) s = some (oI (gFar c ALL st), s) := by
  have h5 := hk.2.1
  have hp5 := pow5 (cN c) h5
  have := gM_lt (M := ALL) (st := st) hk
  rw [e_S_fewest, hg, s_awayAny (by omega) hS, sm_some]
  rfl
end GOAL
