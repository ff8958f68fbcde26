/-! the search of GiantStair -/
/-- what is kept: all but the search's own things -/
def Fs (s s2 : qMem) : Prop := (∀ o k, ¬ (26 ≤ o ∧ o ≤ 30) → s2.1 o k = s.1 o k) ∧ s2.2 = s.2
theorem Fs.rf {s : qMem} : Fs s s := ⟨fun _ _ _ => rfl, rfl⟩
theorem Fs.tr {s s2 s3 : qMem} (h : Fs s s2) (h2 : Fs s2 s3) : Fs s s3 := ⟨fun o k q => (h2.1 o k q).trans (h.1 o k q), h2.2.trans h.2⟩
theorem Fs.w {s s2 : qMem} {o k : Nat} {v : Int32} (h : Fs s s2) (ho : 26 ≤ o ∧ o ≤ 30) : Fs s (qW s2 o k v) := ⟨fun a b q => by rw [q_rw_o (fun e => q (by rw [e]; exact ho))]; exact h.1 a b q, h.2⟩
theorem Fs.RT {s s2 : qMem} {t : Nat} {c : Co} (h : Fs s s2) (ht : t = 1 ∨ t = 10) (hR : RT s t c) : RT s2 t c := by
  obtain ⟨h1, h2, h3, h4⟩ := hR
  have e : ∀ o k, o ≤ 18 → s2.1 o k = s.1 o k := fun o k q => h.1 o k (by omega)
  refine ⟨by rw [e _ _ (by omega)]; exact h1, by rw [e _ _ (by omega)]; exact h2, fun i hi => ?_, fun p hp => ?_⟩
  · rw [e _ _ (by omega), e _ _ (by omega)]
    exact h3 i hi
  · rw [e _ _ (by omega), e _ _ (by omega), e _ _ (by omega), e _ _ (by omega), e _ _ (by omega), e _ _ (by omega)]
    exact h4 p hp
theorem Fs.RL {s s2 : qMem} {r n : Nat} {lv : Nat → Nat} (h : Fs s s2) (hr : ¬ (26 ≤ r ∧ r ≤ 30)) (hL : RL s r n lv) : RL s2 r n lv := fun p hp => by rw [h.1 r p hr]; exact hL p hp
/-- the marks of a search that is past can be taken away -/
def SI (s : qMem) : Prop := ∃ n, n ≤ 3125 ∧ s.1 26 3 = nI n ∧ ∃ f : Nat → Nat, (∀ i, i < n → f i < 3125 ∧ s.1 29 i = nI (f i)) ∧ ∀ k, k < 3125 → s.1 27 k = -1 ∨ ∃ i, i < n ∧ f i = k
def oI (o : Option Nat) : Int32 := match o with
  | none => -1
  | some d => nI d
/-- the search's things hold the found -/
def RS (s : qMem) (b : Bf) : Prop := s.1 26 3 = nI (bN b) ∧ (∀ i, i < bN b → s.1 29 i = nI (bF b i)) ∧ (∀ k, k < 3125 → s.1 27 k = oI (bD b k)) ∧ ∀ i, i < bN b → s.1 28 (bF b i) = (if i = 0 then -1 else nI (bP b (bF b i)))
theorem qPV_all : ∀ p, p < 5 → qKon qPV p = nI (5 ^ p) := by decide +kernel
theorem oI_m1 {o : Option Nat} (h : ∀ e, o = some e → e < 2 ^ 31) : oI o = -1 ↔ o = none := by
  cases o with
  | none => exact ⟨fun _ => rfl, fun _ => rfl⟩
  | some e => exact ⟨fun z => absurd z (nI_m1 (h e rfl)), fun z => by cases z⟩
section SBFS
variable {d t r : Nat} {s : qMem} {c : Co} {lv : Nat → Nat}
theorem s_isPos {p : Nat} (h : p < 3125) : m_S_isPosition (d + 1) (nI p) s = some (nI 1, s) := by
  rw [e_S_isPosition]
  simp (disch := omega) only [sm_some, q_lit, q_neg1, nI_leI, nI_ltI, nI_eq, nI_cl, qIn_iff, nI_d0, d0_nI, dI_d0, dI_le, dI_eq, dI_n1, nI_1, nI_add, pk_mul, pk_div, nI_lt0, if_pos, if_neg, if_true, if_false]
theorem s_isPos_out {x : Int32} (h : ∀ p, p < 3125 → x ≠ nI p) : m_S_isPosition (d + 1) x s = some (nI 0, s) := by
  rw [e_S_isPosition]
  rcases i_out (n := 3125) (by omega) h with q | q
  · rw [if_pos q]
    rfl
  · have q2 : (3125 : Int32) ≤ x := q
    rw [if_pos q2, ite_self]
    rfl
theorem s_unfold1 : ∀ (q k cur : Nat) (s : qMem), k + q = 5 → cur < 2 ^ 31 → ∃ s2, l_S_unfold_1 d (nI cur) (nI k) s = some s2 ∧ (∀ o j, o ≠ 30 → s2.1 o j = s.1 o j) ∧ s2.2 = s.2 ∧ (∀ j, j < k → s2.1 30 j = s.1 30 j) ∧ ∀ j, j < q → s2.1 30 (k + j) = nI (cur / 5 ^ j % 5) := by
  intro q
  induction q with
  | zero =>
    intro k cur s hk hc
    refine ⟨s, ?_, fun _ _ _ => rfl, rfl, fun _ _ => rfl, fun j hj => by omega⟩
    rw [el_S_unfold_1]
    simp (disch := omega) only [sm_some, q_lit, q_neg1, nI_leI, nI_ltI, nI_eq, nI_cl, qIn_iff, nI_d0, d0_nI, dI_d0, dI_le, dI_eq, dI_n1, nI_1, nI_add, pk_mul, pk_div, nI_lt0, if_pos, if_neg, if_true, if_false]
  | succ q ih =>
    intro k cur s hk hc
    obtain ⟨s2, h1, h2, h3, h4, h5⟩ := ih (k + 1) (cur / 5) (qW s 30 k (nI (cur % 5))) (by omega) (by omega)
    refine ⟨s2, ?_, fun o j ho => ?_, h3, fun j hj => ?_, fun j hj => ?_⟩
    · rw [el_S_unfold_1]
      have e : nI cur - nI cur / nI 5 * nI 5 = nI (cur % 5) := pk_rem hc (by omega) (by omega)
      have e2 : nI cur / nI 5 = nI (cur / 5) := pk_div hc (by omega) (by omega)
      simp (disch := omega) only [q_lit, e]
      simp (disch := omega) only [sm_some, q_lit, q_neg1, nI_leI, nI_ltI, nI_eq, nI_cl, qIn_iff, nI_d0, d0_nI, dI_d0, dI_le, dI_eq, dI_n1, nI_1, nI_add, pk_mul, pk_div, nI_lt0, if_pos, if_neg, if_true, if_false]
      exact h1
    · rw [h2 o j ho, q_rw_o ho]
    · rw [h4 j (by omega), q_rw_k (by omega)]
    · cases j with
      | zero =>
        rw [Nat.add_zero, h4 k (by omega), q_rw, Nat.pow_zero, Nat.div_one]
      | succ j =>
        rw [show k + (j + 1) = k + 1 + j from by omega, h5 j (by omega), Nat.div_div_eq_div_mul, Nat.pow_succ, Nat.mul_comm]
theorem s_unfold {cur : Nat} (h : cur < 2 ^ 31) : ∃ s2, m_S_unfold (d + 1) (nI cur) s = some s2 ∧ (∀ o j, o ≠ 30 → s2.1 o j = s.1 o j) ∧ s2.2 = s.2 ∧ ∀ j, j < 5 → s2.1 30 j = nI (cDig cur j) := by
  obtain ⟨s2, h1, h2, h3, h4, h5⟩ := s_unfold1 (d := d) 5 0 cur s (by omega) h
  refine ⟨s2, ?_, h2, h3, fun j hj => ?_⟩
  · rw [e_S_unfold]
    exact h1
  · have := h5 j hj
    rw [Nat.zero_add] at this
    exact this
theorem s_isNew_any (x : Int32) : ∃ w : Bool, m_S_isNew (d + 2) x s = some (b2i w, s) := by
  rw [e_S_isNew]
  rcases i_cases x 3125 with ⟨p, hp, rfl⟩ | h
  · rw [s_isPos hp, sm_some, n10, if_pos (qIn_n hp (by omega))]
    dsimp only
    by_cases z : s.1 27 (nI p).toNatClampNeg = -1
    · exact ⟨true, if_pos z⟩
    · exact ⟨false, if_neg z⟩
  · rw [s_isPos_out h, sm_some, n00]
    exact ⟨false, rfl⟩
theorem s_isNew {b : Bf} {to : Nat} (hto : to < 3125) (hS : RS s b) (he : ∀ e, bD b to = some e → e < 2 ^ 31) : m_S_isNew (d + 2) (nI to) s = some (b2i (bD b to).isNone, s) := by
  have e9 : s.1 27 to = oI (bD b to) := hS.2.2.1 to hto
  rw [e_S_isNew, s_isPos hto, sm_some, n10, if_pos (qIn_n hto (by omega)), nI_cl (by omega), e9]
  cases hD : bD b to with
  | none => exact if_pos rfl
  | some e => exact if_neg (nI_m1 (he e hD))
theorem bOk_e {b : Bf} (h5 : cN c ≤ 5) (hO : bOk c (cN c) b) {to : Nat} : ∀ e, bD b to = some e → e < 2 ^ 31 := by
  intro e hD
  obtain ⟨o1, o2, o3, o4⟩ := hO
  obtain ⟨i, i1, i2⟩ := (o3 to).mp (by rw [hD]; rfl)
  obtain ⟨-, -, e2, e3, e4⟩ := o2 i i1
  rw [i2, hD] at e3
  cases e3
  omega
theorem s_reach {b : Bf} {to fr dd mv : Nat} {fr32 : Int32} {ok : Bool} (hk : cOk c) (hO : bOk c (cN c) b) (hS : RS s b) (hto : to < 5 ^ cN c) (hok : ok = true) (hfr : fr32 = (if bN b = 0 then -1 else nI fr)) : ∃ s2, m_S_reach (d + 3) (nI to) fr32 (nI dd) s = some s2 ∧ RS s2 (bAdd b ok to fr dd mv) ∧ (∀ o j, ¬ (26 ≤ o ∧ o ≤ 29) → s2.1 o j = s.1 o j) ∧ s2.2 = s.2 ∧ s2.1 26 4 = s.1 26 4 := by
  have h5 := hk.2.1
  have hp := pow5 (cN c) h5
  have hO0 := hO
  obtain ⟨h1, h2, h3, h4⟩ := hS
  obtain ⟨o1, o2, o3, o4⟩ := hO
  subst hok
  rw [e_S_reach, s_isNew (by omega) ⟨h1, h2, h3, h4⟩ (bOk_e h5 hO0), sm_some]
  cases hD : bD b to with
  | some e =>
    refine ⟨s, ?_, ?_, fun _ _ _ => rfl, rfl, rfl⟩
    · exact if_pos rfl
    · rw [bAdd_no (by rw [hD]; rfl)]
      exact ⟨h1, h2, h3, h4⟩
  | none =>
    have hr := bOk_room h5 hO0 hto hD
    have ne : ∀ i, i < bN b → bF b i ≠ to := fun i hi y => by
      have := (o3 to).mpr ⟨i, hi, y⟩
      rw [hD] at this
      cases this
    refine ⟨qW (qW (qW (qW s 27 to (nI dd)) 28 to fr32) 29 (bN b) (nI to)) 26 3 (nI (bN b + 1)), ?_, ?_, ?_, rfl, ?_⟩
    · rw [show (none : Option Nat).isNone = true from rfl, bt0]
      simp (disch := omega) only [sm_some, q_lit, q_neg1, nI_leI, nI_ltI, nI_eq, nI_cl, qIn_iff, nI_d0, d0_nI, dI_d0, dI_le, dI_eq, dI_n1, nI_1, nI_add, pk_mul, pk_div, nI_lt0, if_pos, if_neg, if_true, if_false, h1]
    · rw [bAdd_yes (by rw [hD]; rfl)]
      refine ⟨?_, fun i hi => ?_, fun k hk => ?_, fun i hi => ?_⟩
      · rw [q_rw]
        rfl
      · have hi2 : i < bN b + 1 := hi
        rw [q_rw_o (by decide)]
        show _ = nI (fUpd (bF b) (bN b) to i)
        by_cases z : i = bN b
        · subst z
          rw [fUpd_s, q_rw]
        · rw [fUpd_n z, q_rw_k z, q_rw_o (by decide), q_rw_o (by decide)]
          exact h2 i (by omega)
      · rw [q_rw_o (by decide), q_rw_o (by decide), q_rw_o (by decide)]
        show _ = oI (fUpd (bD b) to (some dd) k)
        by_cases z : k = to
        · subst z
          rw [fUpd_s, q_rw]
          rfl
        · rw [fUpd_n z, q_rw_k z]
          exact h3 k hk
      · have hi2 : i < bN b + 1 := hi
        show (qW (qW (qW (qW s 27 to (nI dd)) 28 to fr32) 29 (bN b) (nI to)) 26 3 (nI (bN b + 1))).1 28 (fUpd (bF b) (bN b) to i) = (if i = 0 then -1 else nI (fUpd (bP b) to fr (fUpd (bF b) (bN b) to i)))
        rw [q_rw_o (by decide), q_rw_o (by decide)]
        by_cases z : i = bN b
        · subst z
          rw [fUpd_s, q_rw, fUpd_s]
          exact hfr
        · rw [fUpd_n z, q_rw_k (ne i (by omega)), q_rw_o (by decide), fUpd_n (ne i (by omega))]
          exact h4 i (by omega)
    · intro o j ho
      rw [q_rw_o (by omega), q_rw_o (by omega), q_rw_o (by omega), q_rw_o (by omega)]
    · rw [q_rw_k (by decide), q_rw_o (by decide), q_rw_o (by decide), q_rw_o (by decide)]
theorem s_forget1 {n : Nat} {f : Nat → Nat} (hn : n ≤ 3125) : ∀ (q i : Nat) (s : qMem), i + q = n → s.1 26 3 = nI n → (∀ j, j < n → f j < 3125 ∧ s.1 29 j = nI (f j)) → (∀ k, k < 3125 → s.1 27 k = -1 ∨ ∃ j, i ≤ j ∧ j < n ∧ f j = k) → ∃ s2, l_S_forget_1 (d + 1) (nI i) s = some s2 ∧ s2.1 26 3 = nI 0 ∧ (∀ k, k < 3125 → s2.1 27 k = -1) ∧ Fs s s2 := by
  intro q
  induction q with
  | zero =>
    intro i s hi h1 h2 h3
    refine ⟨qW s 26 3 0, ?_, rfl, fun k hk => ?_, Fs.rf.w (by omega)⟩
    · rw [el_S_forget_1, h1]
      simp (disch := omega) only [sm_some, q_lit, q_neg1, nI_leI, nI_ltI, nI_eq, nI_cl, qIn_iff, nI_d0, d0_nI, dI_d0, dI_le, dI_eq, dI_n1, nI_1, nI_add, pk_mul, pk_div, nI_lt0, if_pos, if_neg, if_true, if_false]
    · rw [q_rw_o (by decide)]
      rcases h3 k hk with h | ⟨j, j1, j2, -⟩
      · exact h
      · omega
  | succ q ih =>
    intro i s hi h1 h2 h3
    obtain ⟨f1, f2⟩ := h2 i (by omega)
    obtain ⟨s2, g1, g2, g3, g4⟩ := ih (i + 1) (qW s 27 (f i) (-1)) (by omega) (by rw [q_rw_o (by decide)]; exact h1) (fun j hj => by rw [q_rw_o (by decide)]; exact h2 j hj) (fun k hk => by
      by_cases z : k = f i
      · rw [z, q_rw]
        exact Or.inl rfl
      · rw [q_rw_k z]
        rcases h3 k hk with h | ⟨j, j1, j2, j3⟩
        · exact Or.inl h
        · refine Or.inr ⟨j, ?_, j2, j3⟩
          rcases Nat.lt_or_ge i j with y | y
          · exact y
          · have : j = i := by omega
            rw [this] at j3
            exact absurd j3.symm z)
    refine ⟨s2, ?_, g2, g3, (Fs.rf.w (by omega)).tr g4⟩
    rw [el_S_forget_1, h1]
    simp (disch := omega) only [sm_some, q_lit, q_neg1, nI_leI, nI_ltI, nI_eq, nI_cl, qIn_iff, nI_d0, d0_nI, dI_d0, dI_le, dI_eq, dI_n1, nI_1, nI_add, pk_mul, pk_div, nI_lt0, if_pos, if_neg, if_true, if_false]
    rw [f2, s_isPos f1, sm_some]
    dsimp only
    simp (disch := omega) only [sm_some, q_lit, q_neg1, nI_leI, nI_ltI, nI_eq, nI_cl, qIn_iff, nI_d0, d0_nI, dI_d0, dI_le, dI_eq, dI_n1, nI_1, nI_add, pk_mul, pk_div, nI_lt0, if_pos, if_neg, if_true, if_false, f2]
    exact g1
theorem s_forget (h : SI s) : ∃ s2, m_S_forget (d + 2) s = some s2 ∧ s2.1 26 3 = nI 0 ∧ (∀ k, k < 3125 → s2.1 27 k = -1) ∧ Fs s s2 := by
  obtain ⟨n, hn, h1, f, h2, h3⟩ := h
  rw [e_S_forget]
  refine s_forget1 hn n 0 s (by omega) h1 h2 (fun k hk => ?_)
  rcases h3 k hk with z | ⟨i, i1, i2⟩
  · exact Or.inl z
  · exact Or.inr ⟨i, Nat.zero_le _, i1, i2⟩
/-- where all but saints are up -/
def gLv (c : Co) (lv : Nat → Nat) (p : Nat) : Nat := if cP c p 0 = 3 then lv p else cTop c
def lk (t r : Nat) : Prop := (t = 1 ∧ r = 23) ∨ (t = 10 ∧ r = 23) ∨ (t = 10 ∧ r = 18)
theorem lk_t (h : lk t r) : t = 1 ∨ t = 10 := by
  rcases h with h | h | h
  · exact Or.inl h.1
  · exact Or.inr h.1
  · exact Or.inr h.1
theorem lk_r (h : lk t r) : r = 23 ∨ r = 18 := by
  rcases h with h | h | h
  · exact Or.inl h.2
  · exact Or.inl h.2
  · exact Or.inr h.2
theorem cSum_lt {lv : Nat → Nat} {n p : Nat} (h : ∀ q, q < n → lv q ≤ 4) (hp : p ≤ n) : cSum lv p < 5 ^ p := by
  rw [← cVal_eq]
  exact cVal_lt p 0 (fun q _ h2 => h q (by omega))
theorem pow5m {p n : Nat} (h : p ≤ n) : 5 ^ p ≤ 5 ^ n := Nat.pow_le_pow_right (by decide) h
theorem s_begin1 (hc : lk t r) (hk : cOk c) (hl : lvOk c lv) : ∀ (q p : Nat) (s : qMem), p + q = cN c → RT s t c → RL s r (cN c) lv → s.1 26 3 = nI 0 → (∀ k, k < 3125 → s.1 27 k = -1) → s.1 26 4 = nI (cSum (gLv c lv) p) → ∃ s2, l_S_begin_1 (d + 3) t r (nI (cSum lv p)) (nI p) s = some s2 ∧ RS s2 (bIni (cSum lv (cN c))) ∧ s2.1 26 4 = nI (cSum (gLv c lv) (cN c)) ∧ Fs s s2 := by
  have h5 := hk.2.1
  have h4 := hk.1
  have hle : ∀ q, q < cN c → lv q ≤ 4 := fun q hq => by have := hl q hq; omega
  have ht := lk_t hc
  have hr := lk_r hc
  intro q
  induction q with
  | zero =>
    intro p s hp hR hL h1 h2 h3
    have hpn : p = cN c := by omega
    subst hpn
    obtain ⟨s2, g1, g2, g3, g3b, g4⟩ := s_reach (d := d) (s := s) (c := c) (b := bEmp (cSum lv (cN c))) (to := cSum lv (cN c)) (fr := 0) (dd := 0) (mv := 0) (fr32 := -1) (ok := true) hk ⟨Nat.zero_le _, fun i hi => absurd hi (Nat.not_lt_zero _), fun k => ⟨fun q => (by cases q), fun ⟨i, q, _⟩ => absurd q (Nat.not_lt_zero _)⟩, fun i j _ hj => absurd hj (Nat.not_lt_zero _)⟩ ⟨h1, fun i hi => absurd hi (Nat.not_lt_zero _), h2, fun i hi => absurd hi (Nat.not_lt_zero _)⟩ (cSum_lt hle (Nat.le_refl _)) rfl rfl
    refine ⟨s2, ?_, g2, by rw [g4]; exact h3, ⟨fun o k ho => g3 o k (by omega), g3b⟩⟩
    rw [el_S_begin_1 _ _ _ _ _ hc s, hR.2.1, if_pos (nI_le (Nat.le_refl _) (by omega))]
    show (m_S_reach (d + 3) (nI (cSum lv (cN c))) (-1) (nI 0) s).bind _ = _
    rw [g1]
    rfl
  | succ q ih =>
    intro p s hp hR hL h1 h2 h3
    have hpn : p < cN c := by omega
    have b1 := cSum_lt hle (show p ≤ cN c by omega)
    have b2 := Nat.le_trans (pow5m (show p ≤ 5 by omega)) (pow5 5 (by omega))
    have b3 := hle p hpn
    have b4 : lv p * 5 ^ p ≤ 4 * 625 := Nat.mul_le_mul b3 (Nat.le_trans (pow5m (show p ≤ 4 by omega)) (by decide))
    have hgle : ∀ q, q < cN c → gLv c lv q ≤ 4 := fun q hq => by
      have := hle q hq
      unfold gLv
      split <;> omega
    have b5 := cSum_lt hgle (show p ≤ cN c by omega)
    have eS : nI (cSum lv p) + s.1 r p * qKon qPV p = nI (cSum lv (p + 1)) := by rw [hL p hpn, qPV_all p (by omega), pk_mul, nI_add, cSum]
    obtain ⟨s2, g1, g2, g3, g4⟩ := ih (p + 1) (qW s 26 4 (nI (cSum (gLv c lv) (p + 1)))) (by omega) ((Fs.rf.w (s := s) (v := nI (cSum (gLv c lv) (p + 1))) (show 26 ≤ 26 ∧ 26 ≤ 30 by omega) (k := 4)).RT ht hR) (fun a ha => by rw [q_rw_o (by omega)]; exact hL a ha) (by rw [q_rw_k (by decide)]; exact h1) (fun k hk => by rw [q_rw_o (by decide)]; exact h2 k hk) q_rw
    refine ⟨s2, ?_, g2, g3, (Fs.rf.w (by omega)).tr g4⟩
    rw [el_S_begin_1 _ _ _ _ _ hc s, hR.2.1, t_goes ht hR hk hpn, sm_some]
    dsimp only
    simp (disch := omega) only [sm_some, q_lit, q_neg1, nI_leI, nI_ltI, nI_eq, nI_cl, qIn_iff, nI_d0, d0_nI, dI_d0, dI_le, dI_eq, dI_n1, nI_1, nI_add, pk_mul, pk_div, nI_lt0, if_pos, if_neg, if_true, if_false]
    rw [eS]
    by_cases h6 : cP c p 0 = 3
    · rw [decide_eq_false (by omega), bfn]
      have e2 : s.1 26 4 + s.1 r p * qKon qPV p = nI (cSum (gLv c lv) (p + 1)) := by
        rw [h3, hL p hpn, qPV_all p (by omega), pk_mul, nI_add, cSum]
        unfold gLv
        rw [if_pos h6]
      rw [e2]
      exact g1
    · rw [decide_eq_true h6, btn]
      have e2 : s.1 26 4 + s.1 t 0 * qKon qPV p = nI (cSum (gLv c lv) (p + 1)) := by
        rw [h3, hR.1, qPV_all p (by omega), pk_mul, nI_add, cSum]
        have e7 : gLv c lv p = cTop c := by unfold gLv; rw [if_neg h6]
        rw [e7]
      rw [e2]
      exact g1
theorem s_begin (hc : lk t r) (hk : cOk c) (hl : lvOk c lv) (hSI : SI s) (hR : RT s t c) (hL : RL s r (cN c) lv) : ∃ s2, m_S_begin (d + 4) t r s = some s2 ∧ RS s2 (bIni (cSum lv (cN c))) ∧ s2.1 26 4 = nI (cSum (gLv c lv) (cN c)) ∧ Fs s s2 := by
  obtain ⟨s1, h1, h2, h3, h4⟩ := s_forget (d := d + 1) hSI
  have hr := lk_r hc
  have F : Fs s (qW s1 26 4 0) := h4.w (by omega)
  obtain ⟨s2, g1, g2, g3, g4⟩ := s_begin1 (d := d) hc hk hl (cN c) 0 (qW s1 26 4 0) (by omega) (F.RT (lk_t hc) hR) (F.RL (by omega) hL) (by rw [q_rw_k (by decide)]; exact h2) (fun k hk => by rw [q_rw_o (by decide)]; exact h3 k hk) rfl
  refine ⟨s2, ?_, g2, g3, F.tr g4⟩
  rw [e_S_begin _ _ _ hc s, h1, sm_some]
  exact g1
end SBFS
