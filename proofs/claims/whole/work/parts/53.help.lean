/-! the first help, who can rise, who can sink, by GiantStair -/
def sr (f : Nat → Bool) : Nat → Nat → Option Nat
  | _, 0 => none
  | k, r + 1 => bif f k then some k else sr f (k + 1) r
def sr2 (f : Nat → Nat → Bool) (m : Nat) : Nat → Nat → Option (Nat × Nat)
  | _, 0 => none
  | j, r + 1 => match sr (f j) 0 m with
    | some k => some (j, k)
    | none => sr2 f m (j + 1) r
theorem sr_none {f : Nat → Bool} : ∀ (r k : Nat), (∀ i, f i = false) → sr f k r = none := by
  intro r
  induction r with
  | zero => intro k _; rfl
  | succ r ih =>
    intro k h
    rw [sr, h k]
    exact ih (k + 1) h
theorem sr_some {f : Nat → Bool} : ∀ (r k i : Nat), sr f k r = some i → k ≤ i ∧ i < k + r ∧ f i = true := by
  intro r
  induction r with
  | zero => intro k i h; cases h
  | succ r ih =>
    intro k i h
    rw [sr] at h
    cases hf : f k with
    | true =>
      rw [hf] at h
      cases h
      exact ⟨Nat.le_refl _, by omega, hf⟩
    | false =>
      rw [hf] at h
      obtain ⟨h1, h2, h3⟩ := ih (k + 1) i h
      exact ⟨by omega, by omega, h3⟩
theorem sr_iff {f : Nat → Bool} : ∀ (r k : Nat), (sr f k r).isSome = true ↔ ∃ i, k ≤ i ∧ i < k + r ∧ f i = true := by
  intro r
  induction r with
  | zero => intro k; exact ⟨fun h => (by cases h), fun ⟨i, h1, h2, _⟩ => by omega⟩
  | succ r ih =>
    intro k
    rw [sr]
    cases hf : f k with
    | true => exact ⟨fun _ => ⟨k, Nat.le_refl _, by omega, hf⟩, fun _ => rfl⟩
    | false =>
      rw [cond_false, ih (k + 1)]
      refine ⟨fun ⟨i, h1, h2, h3⟩ => ⟨i, by omega, by omega, h3⟩, fun ⟨i, h1, h2, h3⟩ => ⟨i, ?_, by omega, h3⟩⟩
      rcases Nat.lt_or_ge k i with q | q
      · exact q
      · have e : i = k := by omega
        rw [e, hf] at h3
        cases h3
theorem sr2_some {f : Nat → Nat → Bool} {m : Nat} : ∀ (r j : Nat) (q : Nat × Nat), sr2 f m j r = some q → j ≤ q.1 ∧ q.1 < j + r ∧ q.2 < m ∧ f q.1 q.2 = true := by
  intro r
  induction r with
  | zero => intro j q h; cases h
  | succ r ih =>
    intro j q h
    rw [sr2] at h
    cases hs : sr (f j) 0 m with
    | some k =>
      rw [hs] at h
      cases h
      obtain ⟨h1, h2, h3⟩ := sr_some m 0 k hs
      exact ⟨Nat.le_refl _, by omega, by omega, h3⟩
    | none =>
      rw [hs] at h
      obtain ⟨h1, h2, h3⟩ := ih (j + 1) q h
      exact ⟨by omega, by omega, h3⟩
theorem sr2_iff {f : Nat → Nat → Bool} {m : Nat} : ∀ (r j : Nat), (sr2 f m j r).isSome = true ↔ ∃ i k, j ≤ i ∧ i < j + r ∧ k < m ∧ f i k = true := by
  intro r
  induction r with
  | zero => intro j; exact ⟨fun h => (by cases h), fun ⟨i, k, h1, h2, _⟩ => by omega⟩
  | succ r ih =>
    intro j
    rw [sr2]
    cases hs : sr (f j) 0 m with
    | some k =>
      obtain ⟨h1, h2, h3⟩ := sr_some m 0 k hs
      exact ⟨fun _ => ⟨j, k, Nat.le_refl _, by omega, by omega, h3⟩, fun _ => rfl⟩
    | none =>
      have hn : ∀ k, k < m → f j k = false := by
        intro k hk
        cases hf : f j k with
        | false => rfl
        | true =>
          have := (sr_iff (f := f j) m 0).mpr ⟨k, Nat.zero_le _, by omega, hf⟩
          rw [hs] at this
          cases this
      show (sr2 f m (j + 1) r).isSome = true ↔ _
      rw [ih (j + 1)]
      refine ⟨fun ⟨i, k, h1, h2, h3, h4⟩ => ⟨i, k, by omega, by omega, h3, h4⟩, fun ⟨i, k, h1, h2, h3, h4⟩ => ⟨i, k, ?_, by omega, h3, h4⟩⟩
      rcases Nat.lt_or_ge j i with q | q
      · exact q
      · have e : i = j := by omega
        rw [e, hn k h3] at h4
        cases h4
theorem sr_cong {f g : Nat → Bool} : ∀ (r k : Nat), (∀ i, k ≤ i → i < k + r → f i = g i) → sr f k r = sr g k r := by
  intro r
  induction r with
  | zero => intro k _; rfl
  | succ r ih =>
    intro k h
    rw [sr, sr, h k (Nat.le_refl _) (by omega), ih (k + 1) (fun i h1 h2 => h i (by omega) (by omega))]
theorem sr2_cong {f g : Nat → Nat → Bool} {m : Nat} : ∀ (r j : Nat), (∀ i k, j ≤ i → i < j + r → k < m → f i k = g i k) → sr2 f m j r = sr2 g m j r := by
  intro r
  induction r with
  | zero => intro j _; rfl
  | succ r ih =>
    intro j h
    rw [sr2, sr2, sr_cong m 0 (fun k _ hk => h j k (Nat.le_refl _) (by omega) (by omega)), ih (j + 1) (fun i k h1 h2 => h i k (by omega) (by omega))]
def fUp (c : Co) (M : Nat → Bool) (lv : Nat → Nat) (p j k : Nat) : Bool := decide (j ≠ p + 1) && decide (k ≠ p + 1) && cUp c M lv p (hO j) (hO k)
def fDn (c : Co) (M : Nat → Bool) (lv : Nat → Nat) (p j : Nat) : Bool := decide (j ≠ p + 1) && cDn c M lv p (hO j)
def cHelp (c : Co) (M : Nat → Bool) (lv : Nat → Nat) (p : Nat) : Option (Nat × Nat) := sr2 (fUp c M lv p) (cN c + 1) 0 (cN c + 1)
def cRise (c : Co) (M : Nat → Bool) (lv : Nat → Nat) (p : Nat) : Bool := (cHelp c M lv p).isSome
def cSink (c : Co) (M : Nat → Bool) (lv : Nat → Nat) (p : Nat) : Bool := (sr (fDn c M lv p) 0 (cN c + 1)).isSome
def hCode (o : Option (Nat × Nat)) (m : Nat) : Int32 := match o with
  | none => dI 0
  | some q => nI (q.1 * m + q.2)
section HELP
variable {d t r : Nat} {s : qMem} {c : Co} {lv : Nat → Nat}
theorem pair_code (j k : Nat) : (dI j + 1) * 6 + dI k + 1 = nI (j * 6 + k) := by
  rw [Int32.add_assoc, show dI k + 1 = nI k from dI_1 k, show dI j + 1 = nI j from dI_1 j, show (6 : Int32) = nI 6 from rfl, pk_mul, nI_add]
theorem t_help2 (hc : tr t r) (hR : RT s t c) (hk : cOk c) (hL : RL s r (cN c) lv) (hl : lvOk c lv) {p j : Nat} (hp : p < cN c) (h3 : cP c p 0 ≠ 3) (h1 : lv p < cTop c) (ha : cAlone c (lv p) p = false) (hj : j ≤ cN c) (hA : cPl lv j p (lv p) = true) : ∀ (q k : Nat), k + q = cN c + 1 → l_T_firstHelp_2 (d + 3) t r (nI p) (dI j) (b2i true) (dI k) s = match sr (fUp c ALL lv p j) k q with
    | some i => some (nI (j * 6 + i), s)
    | none => l_T_firstHelp_1 (d + 3) t r (nI p) (dI (j + 1)) s := by
  have h5 := hk.2.1
  have ht := tr_t hc
  have h4 := hk.1
  intro q
  induction q with
  | zero =>
    intro k hkq
    rw [el_T_firstHelp_2 _ _ _ _ _ _ _ hc s, bt0, hR.2.1]
    simp (disch := omega) only [sm_some, q_lit, q_neg1, nI_leI, nI_ltI, nI_eq, nI_cl, qIn_iff, nI_d0, d0_nI, dI_d0, dI_le, dI_eq, dI_n1, nI_1, nI_add, pk_mul, pk_div, nI_lt0, if_pos, if_neg, if_true, if_false]
    rfl
  | succ q ih =>
    intro k hkq
    have e : fUp c ALL lv p j k = (cPl lv k p (lv p + 1) && cBr c p j k (lv p)) := by
      unfold fUp
      rw [cUp_notal hk hp h3 h1 ha, hA, Bool.true_and]
    rw [el_T_firstHelp_2 _ _ _ _ _ _ _ hc s, bt0, hR.2.1]
    simp (disch := omega) only [sm_some, q_lit, q_neg1, nI_leI, nI_ltI, nI_eq, nI_cl, qIn_iff, nI_d0, d0_nI, dI_d0, dI_le, dI_eq, dI_n1, nI_1, nI_add, pk_mul, pk_div, nI_lt0, if_pos, if_neg, if_true, if_false]
    rw [t_standsFor hc hR hk hL hl (by omega) hp (l := lv p + 1) (nI_add _ 1) (by omega), sm_some, sr, e]
    dsimp only
    cases cPl lv k p (lv p + 1) with
    | false =>
      rw [bfn, Bool.false_and]
      exact ih (k + 1) (by omega)
    | true =>
      rw [btn, Bool.true_and, hL p hp, t_bring ht hR hk hp hj (by omega) (by omega), sm_some]
      dsimp only
      cases cBr c p j k (lv p) with
      | false =>
        rw [bfn]
        exact ih (k + 1) (by omega)
      | true =>
        rw [btn, e_T_pairOf, sm_some]
        dsimp only
        rw [pair_code]
        rfl
theorem t_help1 (hc : tr t r) (hR : RT s t c) (hk : cOk c) (hL : RL s r (cN c) lv) (hl : lvOk c lv) {p : Nat} (hp : p < cN c) (h3 : cP c p 0 ≠ 3) (h1 : lv p < cTop c) (ha : cAlone c (lv p) p = false) : ∀ (q j : Nat), j + q = cN c + 1 → l_T_firstHelp_1 (d + 3) t r (nI p) (dI j) s = some (hCode (sr2 (fUp c ALL lv p) (cN c + 1) j q) 6, s) := by
  have h5 := hk.2.1
  have h4 := hk.1.2
  have hlp := hl p hp
  intro q
  induction q with
  | zero =>
    intro j hjq
    rw [el_T_firstHelp_1 _ _ _ _ _ hc s, hR.2.1]
    simp (disch := omega) only [sm_some, q_lit, q_neg1, nI_leI, nI_ltI, nI_eq, nI_cl, qIn_iff, nI_d0, d0_nI, dI_d0, dI_le, dI_eq, dI_n1, nI_1, nI_add, pk_mul, pk_div, nI_lt0, if_pos, if_neg, if_true, if_false]
    rfl
  | succ q ih =>
    intro j hjq
    rw [el_T_firstHelp_1 _ _ _ _ _ hc s, hR.2.1]
    simp (disch := omega) only [sm_some, q_lit, q_neg1, nI_leI, nI_ltI, nI_eq, nI_cl, qIn_iff, nI_d0, d0_nI, dI_d0, dI_le, dI_eq, dI_n1, nI_1, nI_add, pk_mul, pk_div, nI_lt0, if_pos, if_neg, if_true, if_false]
    rw [t_standsFor hc hR hk hL hl (by omega) hp (l := lv p) (nI_add _ 0) (by omega), sm_some]
    dsimp only
    cases hA : cPl lv j p (lv p) with
    | true =>
      rw [t_help2 hc hR hk hL hl hp h3 h1 ha (by omega) hA (cN c + 1) 0 (by omega), sr2]
      cases sr (fUp c ALL lv p j) 0 (cN c + 1) with
      | none => exact ih (j + 1) (by omega)
      | some i => rfl
    | false =>
      rw [el_T_firstHelp_2 _ _ _ _ _ _ _ hc s, bf0, dI_1, ih (j + 1) (by omega), sr2, sr_none]
      intro k
      unfold fUp
      rw [cUp_notal hk hp h3 h1 ha, hA]
      rfl
theorem cUp_saint {c : Co} {M : Nat → Bool} {lv : Nat → Nat} {p : Nat} {li pu : Option Nat} (h : cP c p 0 = 3) : cUp c M lv p li pu = false := by
  unfold cUp
  rw [decide_eq_false (p := cP c p 0 ≠ 3) (by omega), Bool.and_false, Bool.false_and]
theorem cDn_saint {c : Co} {M : Nat → Bool} {lv : Nat → Nat} {p : Nat} {ca : Option Nat} (h : cP c p 0 = 3) : cDn c M lv p ca = false := by
  unfold cDn
  rw [decide_eq_false (p := cP c p 0 ≠ 3) (by omega), Bool.and_false, Bool.false_and]
theorem sr2_none {f : Nat → Nat → Bool} {m : Nat} : ∀ (r j : Nat), (∀ i k, f i k = false) → sr2 f m j r = none := by
  intro r
  induction r with
  | zero => intro j _; rfl
  | succ r ih =>
    intro j h
    rw [sr2, sr_none _ _ (h j)]
    exact ih (j + 1) h
theorem cHelp_saint {c : Co} {M : Nat → Bool} {lv : Nat → Nat} {p : Nat} (h : cP c p 0 = 3) : cHelp c M lv p = none := sr2_none _ _ (fun i k => by unfold fUp; rw [cUp_saint h, Bool.and_false])
theorem cSink_saint {c : Co} {M : Nat → Bool} {lv : Nat → Nat} {p : Nat} (h : cP c p 0 = 3) : cSink c M lv p = false := by
  unfold cSink
  rw [sr_none _ _ (fun i => by unfold fDn; rw [cDn_saint h, Bool.and_false])]
  rfl
theorem cHelp_alone {p : Nat} (h3 : cP c p 0 ≠ 3) (h1 : lv p < cTop c) (ha : cAlone c (lv p) p = true) : cHelp c ALL lv p = some (0, 0) := by
  have e : fUp c ALL lv p 0 0 = true := by
    unfold fUp
    rw [cUp_alone h3 h1 ha]
    rfl
  unfold cHelp
  rw [sr2, sr, e]
  rfl
theorem cHelp_top {p : Nat} (h1 : ¬ lv p < cTop c) : cHelp c ALL lv p = none := sr2_none _ _ (fun i k => by
  unfold fUp cUp
  rw [decide_eq_false h1, Bool.false_and, Bool.false_and, Bool.and_false])
/-- GiantStair$Told.firstHelp -/
theorem t_help (hc : tr t r) (hR : RT s t c) (hk : cOk c) (hL : RL s r (cN c) lv) (hl : lvOk c lv) {p : Nat} (hp : p < cN c) : m_T_firstHelp (d + 4) t (nI p) r s = some (hCode (cHelp c ALL lv p) 6, s) := by
  have h5 := hk.2.1
  have ht := tr_t hc
  have hlp := hl p hp
  have h4 := hk.1
  rw [e_T_firstHelp (d + 3) t _ r hc s, t_goes ht hR hk hp, sm_some]
  dsimp only
  by_cases h : cP c p 0 = 3
  · rw [decide_eq_false (by omega), bf0, cHelp_saint h]
    rfl
  · rw [decide_eq_true h, bt0]
    simp (disch := omega) only [sm_some, q_lit, q_neg1, nI_leI, nI_ltI, nI_eq, nI_cl, qIn_iff, nI_d0, d0_nI, dI_d0, dI_le, dI_eq, dI_n1, nI_1, nI_add, pk_mul, pk_div, nI_lt0, if_pos, if_neg, if_true, if_false, hL p hp]
    rw [t_isStep ht hR hk (by omega), sm_some]
    dsimp only
    by_cases h1 : lv p < cTop c
    · rw [decide_eq_true h1, btn, hL p hp, t_alone ht hR hk hp (by omega), sm_some]
      dsimp only
      cases ha : cAlone c (lv p) p with
      | false =>
        rw [bfn]
        exact t_help1 hc hR hk hL hl hp h h1 ha (cN c + 1) 0 (by omega)
      | true =>
        rw [btn, e_T_pairOf, sm_some, cHelp_alone h h1 ha]
        dsimp only
        rw [pair_code]
        rfl
    · rw [decide_eq_false h1, bfn, cHelp_top h1]
      rfl
theorem hCode_m1 {o : Option (Nat × Nat)} {m : Nat} (h : ∀ q, o = some q → q.1 * m + q.2 < 2 ^ 31) : hCode o m = -1 ↔ o.isSome = false := by
  cases o with
  | none => exact ⟨fun _ => rfl, fun _ => rfl⟩
  | some q => exact ⟨fun e => absurd e (nI_m1 (h q rfl)), fun e => by cases e⟩
theorem cHelp_lt {c : Co} {M : Nat → Bool} {lv : Nat → Nat} {p : Nat} (hk : cOk c) {m : Nat} (hm : m ≤ 7) (q : Nat × Nat) (h : cHelp c M lv p = some q) : q.1 * m + q.2 < 2 ^ 31 := by
  obtain ⟨h1, h2, h3, -⟩ := sr2_some _ _ _ h
  have h5 := hk.2.1
  have : q.1 * m ≤ 5 * 7 := Nat.mul_le_mul (by omega) hm
  omega
theorem t_canRise (hc : tr t r) (hR : RT s t c) (hk : cOk c) (hL : RL s r (cN c) lv) (hl : lvOk c lv) {p : Nat} (hp : p < cN c) : m_T_canRise (d + 5) t (nI p) r s = some (b2i (cRise c ALL lv p), s) := by
  rw [e_T_canRise (d + 4) t _ r hc s, t_help hc hR hk hL hl hp, sm_some]
  dsimp only
  unfold cRise
  cases h : (cHelp c ALL lv p).isSome with
  | false => rw [if_pos ((hCode_m1 (cHelp_lt hk (by omega))).mpr h)]; rfl
  | true =>
    rw [if_neg (fun e => ?_)]
    · rfl
    · rw [(hCode_m1 (cHelp_lt hk (by omega))).mp e] at h
      cases h
/-- who can catch -/
def cCt (c : Co) (lv : Nat → Nat) (p j l : Nat) : Bool := decide (cP c p 0 ≠ 2) && (cSt lv j p l && decide (cBurd c p ≤ oHand c (hO j)))
theorem fDn_eq {p j l : Nat} (h3 : cP c p 0 ≠ 3) (hlE : lv p = l + 1) : fDn c ALL lv p j = (decide (j ≠ p + 1) && (match hO j with
        | none => decide (cH c l ≤ cP c p 1) || cR c l
        | some q => !(decide (cH c l ≤ cP c p 1) || cR c l) && decide (cP c p 0 ≠ 2) && (ALL q && decide (lv q = l)) && decide (cBurd c p ≤ cHand c q))) := by
  unfold fDn cDn
  rw [hlE, decide_eq_true (p := cP c p 0 ≠ 3) h3, decide_eq_true (p := 0 < l + 1) (by omega), Bool.and_true, Bool.true_and, Nat.add_sub_cancel]
  rfl
theorem fDn_alone {p j l : Nat} (h3 : cP c p 0 ≠ 3) (hlE : lv p = l + 1) (ha : (decide (cH c l ≤ cP c p 1) || cR c l) = true) : fDn c ALL lv p j = decide (j = 0) := by
  rw [fDn_eq h3 hlE, ha]
  cases j with
  | zero =>
    rw [decide_eq_true (p := 0 ≠ p + 1) (by omega)]
    rfl
  | succ q =>
    rw [decide_eq_false (p := q + 1 = 0) (by omega)]
    simp [hO]
theorem fDn_notal {p j l : Nat} (h3 : cP c p 0 ≠ 3) (hlE : lv p = l + 1) (ha : (decide (cH c l ≤ cP c p 1) || cR c l) = false) : fDn c ALL lv p j = cCt c lv p j l := by
  rw [fDn_eq h3 hlE, ha]
  unfold cCt cSt
  cases j with
  | zero => simp [hO]
  | succ q =>
    show (decide (q + 1 ≠ p + 1) && (true && decide (cP c p 0 ≠ 2) && (true && decide (lv q = l)) && decide (cBurd c p ≤ cHand c q))) = (decide (cP c p 0 ≠ 2) && ((decide (q ≠ p) && decide (lv q = l)) && decide (cBurd c p ≤ cHand c q)))
    have e : decide (q + 1 ≠ p + 1) = decide (q ≠ p) := by
      by_cases h : q = p
      · rw [decide_eq_false (by omega), decide_eq_false (by omega)]
      · rw [decide_eq_true (by omega), decide_eq_true (by omega)]
    rw [e, Bool.true_and, Bool.true_and]
    ac_rfl
theorem t_catches (hc : tr t r) (hR : RT s t c) (hk : cOk c) (hL : RL s r (cN c) lv) (hl : lvOk c lv) {p j l : Nat} (hp : p < cN c) (hj : j ≤ cN c) (hlE : lv p = l + 1) : m_T_catches (d + 3) t (dI j) (nI p) r s = some (b2i (cCt c lv p j l), s) := by
  have h5 := hk.2.1
  have ht := tr_t hc
  have hlp := hl p hp
  have h4 := hk.1
  have h3 := hk.2.2.2 p hp
  have hb : cBurd c p ≤ 99 := by unfold cBurd; omega
  have hh := oHand_le hk hj
  unfold cCt
  rw [e_T_catches (d + 2) t _ _ r hc s]
  simp (disch := omega) only [sm_some, q_lit, q_neg1, nI_leI, nI_ltI, nI_eq, nI_cl, qIn_iff, nI_d0, d0_nI, dI_d0, dI_le, dI_eq, dI_n1, nI_1, nI_add, pk_mul, pk_div, nI_lt0, if_pos, if_neg, if_true, if_false, (hR.2.2.2 p hp).1]
  by_cases h2 : cP c p 0 = 2
  · rw [decide_eq_false (p := cP c p 0 ≠ 2) (by omega)]
    simp (disch := omega) only [sm_some, q_lit, q_neg1, nI_leI, nI_ltI, nI_eq, nI_cl, qIn_iff, nI_d0, d0_nI, dI_d0, dI_le, dI_eq, dI_n1, nI_1, nI_add, pk_mul, pk_div, nI_lt0, if_pos, if_neg, if_true, if_false]
    rfl
  · rw [decide_eq_true (p := cP c p 0 ≠ 2) h2, Bool.true_and]
    simp (disch := omega) only [sm_some, q_lit, q_neg1, nI_leI, nI_ltI, nI_eq, nI_cl, qIn_iff, nI_d0, d0_nI, dI_d0, dI_le, dI_eq, dI_n1, nI_1, nI_add, pk_mul, pk_div, nI_lt0, if_pos, if_neg, if_true, if_false]
    rw [t_stands hc hR hk hL hl hj hp (l := l) (by rw [hlE]; exact pk_m1 l) (by omega), sm_some]
    dsimp only
    cases cSt lv j p l with
    | false =>
      rw [bfn]
      rfl
    | true =>
      rw [btn, Bool.true_and, t_hand ht hR hk hj, sm_some]
      dsimp only
      rw [(hR.2.2.2 p hp).2.2.2.1]
      by_cases h6 : cBurd c p ≤ oHand c (hO j)
      · rw [decide_eq_true h6]
        simp (disch := omega) only [sm_some, q_lit, q_neg1, nI_leI, nI_ltI, nI_eq, nI_cl, qIn_iff, nI_d0, d0_nI, dI_d0, dI_le, dI_eq, dI_n1, nI_1, nI_add, pk_mul, pk_div, nI_lt0, if_pos, if_neg, if_true, if_false]
        rfl
      · rw [decide_eq_false h6]
        simp (disch := omega) only [sm_some, q_lit, q_neg1, nI_leI, nI_ltI, nI_eq, nI_cl, qIn_iff, nI_d0, d0_nI, dI_d0, dI_le, dI_eq, dI_n1, nI_1, nI_add, pk_mul, pk_div, nI_lt0, if_pos, if_neg, if_true, if_false]
        rfl
theorem cSink_0 {p : Nat} (h : lv p = 0) (j : Nat) : fDn c ALL lv p j = false := by
  unfold fDn cDn
  rw [h, decide_eq_false (p := 0 < 0) (by omega), Bool.false_and, Bool.false_and, Bool.and_false]
/-- GiantStair$Told.sinksBy -/
theorem t_sinks (hc : tr t r) (hR : RT s t c) (hk : cOk c) (hL : RL s r (cN c) lv) (hl : lvOk c lv) {p j : Nat} (hp : p < cN c) (hj : j ≤ cN c) : m_T_sinksBy (d + 4) t (nI p) (dI j) r s = some (b2i (fDn c ALL lv p j), s) := by
  have h5 := hk.2.1
  have ht := tr_t hc
  have hlp := hl p hp
  have h4 := hk.1
  rw [e_T_sinksBy (d + 3) t _ _ r hc s, t_goes ht hR hk hp, sm_some]
  dsimp only
  by_cases h0 : cP c p 0 = 3
  · rw [decide_eq_false (by omega), bf0]
    unfold fDn
    rw [cDn_saint h0, Bool.and_false]
    rfl
  · rw [decide_eq_true (p := cP c p 0 ≠ 3) h0, bt0]
    simp (disch := omega) only [sm_some, q_lit, q_neg1, nI_leI, nI_ltI, nI_eq, nI_cl, qIn_iff, nI_d0, d0_nI, dI_d0, dI_le, dI_eq, dI_n1, nI_1, nI_add, pk_mul, pk_div, nI_lt0, if_pos, if_neg, if_true, if_false, hL p hp]
    by_cases h1 : lv p = 0
    · rw [h1, show nI 0 - nI 1 = dI 0 from rfl, t_isStep_m1 ht, sm_some]
      dsimp only
      rw [bfn, cSink_0 h1]
      rfl
    · obtain ⟨l, hlE⟩ : ∃ l, lv p = l + 1 := ⟨lv p - 1, by omega⟩
      have hl4 : l < 4 := by omega
      have e9 : s.1 r p - nI 1 = nI l := by rw [hL p hp, hlE]; exact nI_pred l
      rw [hlE, show nI (l + 1) - nI 1 = nI l from nI_pred l, t_isStep ht hR hk (by omega), sm_some]
      dsimp only
      rw [decide_eq_true (p := l < cTop c) (by omega), btn, e9, t_sinkAlone ht hR hk hp hl4, sm_some]
      dsimp only
      cases ha : (decide (cH c l ≤ cP c p 1) || cR c l) with
      | true =>
        rw [btn, fDn_alone h0 hlE ha]
        by_cases j0 : j = 0
        · rw [if_pos j0, decide_eq_true j0]
          rfl
        · rw [if_neg j0, decide_eq_false j0]
          rfl
      | false =>
        rw [bfn, fDn_notal h0 hlE ha, t_catches hc hR hk hL hl hp hj hlE, sm_some]
        exact if_pos (b2i_01 _)
theorem t_canSink1 (hc : tr t r) (hR : RT s t c) (hk : cOk c) (hL : RL s r (cN c) lv) (hl : lvOk c lv) {p l : Nat} (hp : p < cN c) (h3 : cP c p 0 ≠ 3) (hlE : lv p = l + 1) (ha : (decide (cH c l ≤ cP c p 1) || cR c l) = false) : ∀ (q j : Nat), j + q = cN c + 1 → l_T_canSink_1 (d + 3) t r (nI p) (dI j) s = some (b2i (sr (fDn c ALL lv p) j q).isSome, s) := by
  have h5 := hk.2.1
  intro q
  induction q with
  | zero =>
    intro j hjq
    rw [el_T_canSink_1 _ _ _ _ _ hc s, hR.2.1]
    simp (disch := omega) only [sm_some, q_lit, q_neg1, nI_leI, nI_ltI, nI_eq, nI_cl, qIn_iff, nI_d0, d0_nI, dI_d0, dI_le, dI_eq, dI_n1, nI_1, nI_add, pk_mul, pk_div, nI_lt0, if_pos, if_neg, if_true, if_false]
    rfl
  | succ q ih =>
    intro j hjq
    rw [el_T_canSink_1 _ _ _ _ _ hc s, hR.2.1, t_catches hc hR hk hL hl hp (by omega) hlE, sm_some, sr, fDn_notal h3 hlE ha]
    dsimp only
    cases cCt c lv p j l with
    | false =>
      rw [bf0]
      simp (disch := omega) only [sm_some, q_lit, q_neg1, nI_leI, nI_ltI, nI_eq, nI_cl, qIn_iff, nI_d0, d0_nI, dI_d0, dI_le, dI_eq, dI_n1, nI_1, nI_add, pk_mul, pk_div, nI_lt0, if_pos, if_neg, if_true, if_false]
      rw [ih (j + 1) (by omega)]
      rfl
    | true =>
      rw [bt0]
      simp (disch := omega) only [sm_some, q_lit, q_neg1, nI_leI, nI_ltI, nI_eq, nI_cl, qIn_iff, nI_d0, d0_nI, dI_d0, dI_le, dI_eq, dI_n1, nI_1, nI_add, pk_mul, pk_div, nI_lt0, if_pos, if_neg, if_true, if_false]
      rfl
/-- GiantStair$Told.canSink -/
theorem t_canSink (hc : tr t r) (hR : RT s t c) (hk : cOk c) (hL : RL s r (cN c) lv) (hl : lvOk c lv) {p : Nat} (hp : p < cN c) : m_T_canSink (d + 4) t (nI p) r s = some (b2i (cSink c ALL lv p), s) := by
  have h5 := hk.2.1
  have ht := tr_t hc
  have hlp := hl p hp
  have h4 := hk.1
  rw [e_T_canSink (d + 3) t _ r hc s, t_goes ht hR hk hp, sm_some]
  dsimp only
  by_cases h0 : cP c p 0 = 3
  · rw [decide_eq_false (by omega), bf0, cSink_saint h0]
    rfl
  · rw [decide_eq_true (p := cP c p 0 ≠ 3) h0, bt0]
    simp (disch := omega) only [sm_some, q_lit, q_neg1, nI_leI, nI_ltI, nI_eq, nI_cl, qIn_iff, nI_d0, d0_nI, dI_d0, dI_le, dI_eq, dI_n1, nI_1, nI_add, pk_mul, pk_div, nI_lt0, if_pos, if_neg, if_true, if_false, hL p hp]
    unfold cSink
    by_cases h1 : lv p = 0
    · rw [h1, show nI 0 - nI 1 = dI 0 from rfl, t_isStep_m1 ht, sm_some]
      dsimp only
      rw [bfn, sr_none _ _ (cSink_0 h1)]
      rfl
    · obtain ⟨l, hlE⟩ : ∃ l, lv p = l + 1 := ⟨lv p - 1, by omega⟩
      have hl4 : l < 4 := by omega
      have e9 : s.1 r p - nI 1 = nI l := by rw [hL p hp, hlE]; exact nI_pred l
      rw [hlE, show nI (l + 1) - nI 1 = nI l from nI_pred l, t_isStep ht hR hk (by omega), sm_some]
      dsimp only
      rw [decide_eq_true (p := l < cTop c) (by omega), btn, e9, t_sinkAlone ht hR hk hp hl4, sm_some]
      dsimp only
      cases ha : (decide (cH c l ≤ cP c p 1) || cR c l) with
      | true =>
        rw [btn, sr, fDn_alone h0 hlE ha]
        rfl
      | false =>
        rw [bfn, sr, fDn_notal h0 hlE ha]
        have e : cCt c lv p 0 l = false := by
          unfold cCt cSt
          simp [hO]
        rw [e]
        exact t_canSink1 hc hR hk hL hl hp h0 hlE ha (cN c) 1 (by omega)
end HELP
