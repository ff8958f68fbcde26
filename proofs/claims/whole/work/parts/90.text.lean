/-! reading: blanks, runs of letters and of digits -/
def F19 (s s2 : qMem) : Prop := (∀ o j, ¬ (o = 19 ∧ j = 3) → s2.1 o j = s.1 o j) ∧ s2.2 = s.2
theorem F19.rf {s : qMem} : F19 s s := ⟨fun _ _ _ => rfl, rfl⟩
theorem F19.tr {s s2 s3 : qMem} (h : F19 s s2) (h2 : F19 s2 s3) : F19 s s3 := ⟨fun o k q => (h2.1 o k q).trans (h.1 o k q), h2.2.trans h.2⟩
theorem F19.w {s : qMem} {v : Int32} : F19 s (qW s 19 3 v) := ⟨fun o j h => by rw [q_rw_if, if_neg h], rfl⟩
/-- the first place from p on where f does not hold -/
def run (f : Int32 → Bool) (B : Nat → Int32) : Nat → Nat → Nat
  | p, 0 => p
  | p, q + 1 => bif f (B p) then run f B (p + 1) q else p
def isB (x : Int32) : Bool := decide (x = 32)
def isL (x : Int32) : Bool := decide (¬ x < 97) && decide (¬ 122 < x)
def isD (x : Int32) : Bool := decide (¬ x < 48) && decide (¬ 57 < x)
theorem run_le {f : Int32 → Bool} {B : Nat → Int32} : ∀ (q p : Nat), p ≤ run f B p q ∧ run f B p q ≤ p + q := by
  intro q
  induction q with
  | zero => intro p; exact ⟨Nat.le_refl _, Nat.le_refl _⟩
  | succ q ih =>
    intro p
    rw [run]
    cases f (B p) with
    | true => have := ih (p + 1); exact ⟨by show p ≤ run f B (p + 1) q; omega, by show run f B (p + 1) q ≤ _; omega⟩
    | false => exact ⟨Nat.le_refl _, by show p ≤ _; omega⟩
section TEXT
variable {d n : Nat}
theorem x_sign {s : qMem} {p : Nat} (hn : n ≤ 200) (h1 : s.1 19 1 = nI n) (h3 : s.1 19 3 = nI p) (hp : p < n) : m_X_sign (d + 1) s = some (s.1 20 p, s) := by
  have n200 : ¬ (200 : Int32) ≤ nI p := by
    show ¬ nI 200 ≤ nI p
    rw [nI_leI (by omega) (by omega)]
    omega
  rw [e_X_sign, h3, h1, if_neg (nI_pos (by omega)), if_neg (by rw [nI_leI (by omega) (by omega)]; omega), if_neg n200, if_pos (qIn_n (by omega) (by omega)), nI_cl (by omega)]
theorem x_skip1 (hn : n ≤ 200) : ∀ (q p : Nat) (s : qMem), p + q = n → s.1 19 1 = nI n → s.1 19 3 = nI p → ∃ s2, l_X_skipBlanks_1 (d + 1) s = some s2 ∧ s2.1 19 3 = nI (run isB (s.1 20) p q) ∧ F19 s s2 := by
  intro q
  induction q with
  | zero =>
    intro p s hp h1 h3
    refine ⟨s, ?_, h3, F19.rf⟩
    rw [el_X_skipBlanks_1, h1, h3, if_pos (nI_le (by omega) (by omega))]
  | succ q ih =>
    intro p s hp h1 h3
    rw [el_X_skipBlanks_1, x_sign hn h1 h3 (by omega), sm_some, h1, h3, if_neg (by rw [nI_leI (by omega) (by omega)]; omega), run]
    dsimp only
    by_cases z : s.1 20 p = 32
    · obtain ⟨s2, g1, g2, g3⟩ := ih (p + 1) (qW s 19 3 (nI (p + 1))) (by omega) (by rw [q_rw_k (by decide)]; exact h1) q_rw
      refine ⟨s2, ?_, ?_, F19.w.tr g3⟩
      · rw [if_pos z, nI_1]
        exact g1
      · rw [show isB (s.1 20 p) = true from decide_eq_true z]
        have e : (qW s 19 3 (nI (p + 1))).1 20 = s.1 20 := funext (fun j => q_rw_o (by decide))
        rw [e] at g2
        exact g2
    · refine ⟨s, by rw [if_neg z], ?_, F19.rf⟩
      rw [show isB (s.1 20 p) = false from decide_eq_false z]
      exact h3
theorem x_skip {s : qMem} {p : Nat} (hn : n ≤ 200) (h1 : s.1 19 1 = nI n) (h3 : s.1 19 3 = nI p) (hp : p ≤ n) : ∃ s2, m_X_skipBlanks (d + 2) s = some s2 ∧ s2.1 19 3 = nI (run isB (s.1 20) p (n - p)) ∧ F19 s s2 := by
  rw [e_X_skipBlanks]
  exact x_skip1 hn (n - p) p s (by omega) h1 h3
theorem x_word1 (hn : n ≤ 200) {x1 : Int32} : ∀ (q p : Nat) (s : qMem), p + q = n → s.1 19 1 = nI n → s.1 19 3 = nI p → ∃ s2, l_X_readWord_1 (d + 1) x1 s = l_X_readWord_2 (d + 1) x1 0 s2 ∧ s2.1 19 3 = nI (run isL (s.1 20) p q) ∧ F19 s s2 := by
  intro q
  induction q with
  | zero =>
    intro p s hp h1 h3
    refine ⟨s, ?_, h3, F19.rf⟩
    rw [el_X_readWord_1, h1, h3, if_pos (nI_le (by omega) (by omega))]
  | succ q ih =>
    intro p s hp h1 h3
    rw [el_X_readWord_1, x_sign hn h1 h3 (by omega), sm_some, h1, h3, if_neg (by rw [nI_leI (by omega) (by omega)]; omega), run]
    dsimp only
    by_cases z : s.1 20 p < 97
    · refine ⟨s, by rw [if_pos z], ?_, F19.rf⟩
      rw [show isL (s.1 20 p) = false from by unfold isL; rw [decide_eq_false (fun y => y z)]; rfl]
      exact h3
    · rw [if_neg z, x_sign hn h1 h3 (by omega), sm_some]
      dsimp only
      by_cases y : 122 < s.1 20 p
      · refine ⟨s, by rw [if_pos y], ?_, F19.rf⟩
        rw [show isL (s.1 20 p) = false from by unfold isL; rw [decide_eq_true z, decide_eq_false (fun (w : ¬ 122 < s.1 20 p) => w y)]; rfl]
        exact h3
      · obtain ⟨s2, g1, g2, g3⟩ := ih (p + 1) (qW s 19 3 (nI (p + 1))) (by omega) (by rw [q_rw_k (by decide)]; exact h1) q_rw
        refine ⟨s2, ?_, ?_, F19.w.tr g3⟩
        · rw [if_neg y, h3, nI_1]
          exact g1
        · rw [show isL (s.1 20 p) = true from by unfold isL; rw [decide_eq_true z, decide_eq_true y]; rfl]
          have e : (qW s 19 3 (nI (p + 1))).1 20 = s.1 20 := funext (fun j => q_rw_o (by decide))
          rw [e] at g2
          exact g2
end TEXT
