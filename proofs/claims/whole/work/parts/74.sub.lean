/-! some of a company: the same moves -/
def Emb (c2 c : Co) (M : Nat → Bool) (e : Nat → Nat) : Prop := cTop c2 = cTop c ∧ cH c2 = cH c ∧ cR c2 = cR c ∧ (∀ a, a < cN c2 → e a < cN c ∧ M (e a) = true ∧ ∀ j, j < 5 → cP c2 a j = cP c (e a) j) ∧ (∀ a b, a < b → b < cN c2 → e a < e b) ∧ ∀ p, p < cN c → M p = true → ∃ a, a < cN c2 ∧ e a = p
def eE (e : Nat → Nat) (j : Nat) : Nat := match j with
  | 0 => 0
  | k + 1 => e k + 1
section SUB
variable {c2 c : Co} {M : Nat → Bool} {e : Nat → Nat} {lv2 lv : Nat → Nat}
theorem eE_le (h : Emb c2 c M e) {j : Nat} (hj : j ≤ cN c2) : eE e j ≤ cN c := by
  cases j with
  | zero => exact Nat.zero_le _
  | succ k =>
    have := (h.2.2.2.1 k (by omega)).1
    show e k + 1 ≤ cN c
    omega
theorem e_inj (h : Emb c2 c M e) {a b : Nat} (ha : a < cN c2) (hb : b < cN c2) : e a = e b ↔ a = b := by
  refine ⟨fun z => ?_, fun z => by rw [z]⟩
  rcases Nat.lt_trichotomy a b with y | y | y
  · have := h.2.2.2.2.1 a b y hb
    omega
  · exact y
  · have := h.2.2.2.2.1 b a y ha
    omega
theorem e_burd (h : Emb c2 c M e) {a : Nat} (ha : a < cN c2) : cBurd c2 a = cBurd c (e a) := by
  have := (h.2.2.2.1 a ha).2.2
  unfold cBurd
  rw [this 2 (by omega), this 4 (by omega)]
theorem e_hand (h : Emb c2 c M e) {a : Nat} (ha : a < cN c2) : cHand c2 a = cHand c (e a) := by
  have := (h.2.2.2.1 a ha).2.2
  unfold cHand
  rw [this 0 (by omega), this 3 (by omega)]
theorem e_oHand (h : Emb c2 c M e) {j : Nat} (hj : j ≤ cN c2) : oHand c2 (hO j) = oHand c (hO (eE e j)) := by
  cases j with
  | zero => rfl
  | succ k => exact e_hand h (by omega)
theorem e_oTall (h : Emb c2 c M e) {j : Nat} (hj : j ≤ cN c2) : oTall c2 (hO j) = oTall c (hO (eE e j)) := by
  cases j with
  | zero => rfl
  | succ k => exact (h.2.2.2.1 k (by omega)).2.2 1 (by omega)
theorem e_oAt (h : Emb c2 c M e) (hl : ∀ b, b < cN c2 → lv2 b = lv (e b)) {j l : Nat} (hj : j ≤ cN c2) : oAt ALL lv2 l (hO j) = oAt M lv l (hO (eE e j)) := by
  cases j with
  | zero => rfl
  | succ k =>
    show (ALL k && decide (lv2 k = l)) = (M (e k) && decide (lv (e k) = l))
    rw [(h.2.2.2.1 k (by omega)).2.1, hl k (by omega)]
    rfl
theorem e_none {j : Nat} : (hO j).isNone = (hO (eE e j)).isNone := by
  cases j with
  | zero => rfl
  | succ k => rfl
theorem e_ne (h : Emb c2 c M e) {j a : Nat} (hj : j ≤ cN c2) (ha : a < cN c2) : decide (j ≠ a + 1) = decide (eE e j ≠ e a + 1) := by
  refine decide_eq_decide.mpr ?_
  cases j with
  | zero => exact ⟨fun _ => (fun z => by have : 0 = e a + 1 := z; omega), fun _ => by omega⟩
  | succ k =>
    have := e_inj h (show k < cN c2 by omega) ha
    show k + 1 ≠ a + 1 ↔ e k + 1 ≠ e a + 1
    omega
theorem e_fUp (h : Emb c2 c M e) (hl : ∀ b, b < cN c2 → lv2 b = lv (e b)) {a j k : Nat} (ha : a < cN c2) (hj : j ≤ cN c2) (hk : k ≤ cN c2) : fUp c2 ALL lv2 a j k = fUp c M lv (e a) (eE e j) (eE e k) := by
  have hp := (h.2.2.2.1 a ha).2.2
  unfold fUp cUp cAlone
  rw [e_ne h hj ha, e_ne h hk ha, e_oHand h hj, e_oHand h hk, e_oTall h hj, e_oTall h hk, e_oAt h hl hj, e_oAt h hl hk, ← e_none (e := e) (j := j), ← e_none (e := e) (j := k), e_burd h ha, hl a ha, h.1, h.2.1, h.2.2.1, hp 0 (by omega), hp 1 (by omega), hp 3 (by omega)]
theorem e_fDn (h : Emb c2 c M e) (hl : ∀ b, b < cN c2 → lv2 b = lv (e b)) {a j : Nat} (ha : a < cN c2) (hj : j ≤ cN c2) : fDn c2 ALL lv2 a j = fDn c M lv (e a) (eE e j) := by
  have hp := (h.2.2.2.1 a ha).2.2
  unfold fDn cDn
  rw [e_ne h hj ha, hl a ha, h.2.1, h.2.2.1, hp 0 (by omega), hp 1 (by omega), e_burd h ha]
  cases j with
  | zero => rfl
  | succ k =>
    have hk := (h.2.2.2.1 k (by omega)).2.1
    show (_ && (_ && (_ && (ALL k && decide (lv2 k = _)) && decide (_ ≤ cHand c2 k)))) = (_ && (_ && (_ && (M (e k) && decide (lv (e k) = _)) && decide (_ ≤ cHand c (e k)))))
    rw [hk, hl k (by omega), e_hand h (by omega)]
    rfl
theorem e_back (h : Emb c2 c M e) {i : Nat} (hi : i ≤ cN c) (hM : ∀ q, i = q + 1 → M q = true) : ∃ j, j ≤ cN c2 ∧ eE e j = i := by
  cases i with
  | zero => exact ⟨0, Nat.zero_le _, rfl⟩
  | succ q =>
    obtain ⟨a, a1, a2⟩ := h.2.2.2.2.2 q (by omega) (hM q rfl)
    exact ⟨a + 1, by omega, by rw [← a2]; rfl⟩
theorem cUp_comes {p i k : Nat} (h : cUp c M lv p (hO i) (hO k) = true) : (∀ q, i = q + 1 → M q = true) ∧ ∀ q, k = q + 1 → M q = true := by
  unfold cUp at h
  rw [Bool.and_eq_true] at h
  have h2 := h.2
  have key : ∀ x, ((hO i).isNone && (hO k).isNone) = x → (∀ q, i = q + 1 → M q = true) ∧ ∀ q, k = q + 1 → M q = true := by
    intro x hx
    rw [hx] at h2
    cases x with
    | true =>
      rw [Bool.and_eq_true] at hx
      refine ⟨fun q hq => ?_, fun q hq => ?_⟩
      · rw [hq] at hx
        exact absurd hx.1 (by intro z; cases z)
      · rw [hq] at hx
        exact absurd hx.2 (by intro z; cases z)
    | false =>
      have h3 : (!cAlone c (lv p) p && decide (cP c p 0 ≠ 2) && oAt M lv (lv p) (hO i) && oAt M lv (lv p + 1) (hO k) && decide (cBurd c p ≤ oHand c (hO i) + oHand c (hO k)) && decide (cH c (lv p) ≤ cP c p 1 + oTall c (hO i) + oTall c (hO k) / 2)) = true := h2
      simp only [Bool.and_eq_true] at h3
      obtain ⟨⟨⟨⟨⟨-, -⟩, h4⟩, h5⟩, -⟩, -⟩ := h3
      refine ⟨fun q hq => ?_, fun q hq => ?_⟩
      · rw [hq] at h4
        have h6 : (M q && decide (lv q = lv p)) = true := h4
        rw [Bool.and_eq_true] at h6
        exact h6.1
      · rw [hq] at h5
        have h6 : (M q && decide (lv q = lv p + 1)) = true := h5
        rw [Bool.and_eq_true] at h6
        exact h6.1
  exact key _ rfl
theorem e_rise (h : Emb c2 c M e) (hl : ∀ b, b < cN c2 → lv2 b = lv (e b)) {a : Nat} (ha : a < cN c2) : cRise c2 ALL lv2 a = cRise c M lv (e a) := by
  unfold cRise cHelp
  rw [Bool.eq_iff_iff, sr2_iff, sr2_iff]
  refine ⟨fun ⟨i, k, h1, h2, h3, h4⟩ => ?_, fun ⟨i, k, h1, h2, h3, h4⟩ => ?_⟩
  · have a1 := eE_le h (show i ≤ cN c2 by omega)
    have a2 := eE_le h (show k ≤ cN c2 by omega)
    exact ⟨eE e i, eE e k, Nat.zero_le _, by omega, by omega, by rw [← e_fUp h hl ha (by omega) (by omega)]; exact h4⟩
  · have h5 := h4
    unfold fUp at h5
    simp only [Bool.and_eq_true] at h5
    obtain ⟨m1, m2⟩ := cUp_comes h5.2
    obtain ⟨i2, b1, b2⟩ := e_back h (show i ≤ cN c by omega) m1
    obtain ⟨k2, b3, b4⟩ := e_back h (show k ≤ cN c by omega) m2
    exact ⟨i2, k2, Nat.zero_le _, by omega, by omega, by rw [e_fUp h hl ha b1 b3, b2, b4]; exact h4⟩
theorem e_sink (h : Emb c2 c M e) (hl : ∀ b, b < cN c2 → lv2 b = lv (e b)) {a : Nat} (ha : a < cN c2) : cSink c2 ALL lv2 a = cSink c M lv (e a) := by
  unfold cSink
  rw [Bool.eq_iff_iff, sr_iff, sr_iff]
  refine ⟨fun ⟨i, h1, h2, h4⟩ => ?_, fun ⟨i, h1, h2, h4⟩ => ?_⟩
  · have a1 := eE_le h (show i ≤ cN c2 by omega)
    exact ⟨eE e i, Nat.zero_le _, by omega, by rw [← e_fDn h hl ha (by omega)]; exact h4⟩
  · have m1 : ∀ q, i = q + 1 → M q = true := fun q hq => by
      subst hq
      have h5 := h4
      unfold fDn cDn at h5
      rw [Bool.and_eq_true, Bool.and_eq_true] at h5
      have h6 : (!(decide (cH c (lv (e a) - 1) ≤ cP c (e a) 1) || cR c (lv (e a) - 1)) && decide (cP c (e a) 0 ≠ 2) && (M q && decide (lv q = lv (e a) - 1)) && decide (cBurd c (e a) ≤ cHand c q)) = true := h5.2.2
      simp only [Bool.and_eq_true] at h6
      exact h6.1.2.1
    obtain ⟨i2, b1, b2⟩ := e_back h (show i ≤ cN c by omega) m1
    exact ⟨i2, Nat.zero_le _, by omega, by rw [e_fDn h hl ha b1, b2]; exact h4⟩
end SUB
