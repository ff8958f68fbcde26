/-! runs; numbers by GiantStair -/
theorem run_step {f : Int32 → Bool} {B : Nat → Int32} {q m : Nat} (h : f (B q) = true) : run f B q (m + 1) = run f B (q + 1) m := by rw [run, h]; rfl
theorem run_stop {f : Int32 → Bool} {B : Nat → Int32} {q m : Nat} (h : f (B q) = false) : run f B q m = q := by
  cases m with
  | zero => rfl
  | succ m => rw [run, h]; rfl
theorem run_go {f : Int32 → Bool} {B : Nat → Int32} {q m : Nat} (h : q < run f B q m) : f (B q) = true ∧ ∃ k, m = k + 1 ∧ run f B q m = run f B (q + 1) k := by
  cases m with
  | zero => exact absurd h (Nat.lt_irrefl _)
  | succ m =>
    cases hf : f (B q) with
    | true => exact ⟨rfl, m, rfl, run_step hf⟩
    | false => rw [run_stop hf] at h; exact absurd h (Nat.lt_irrefl _)
theorem run_all {f : Int32 → Bool} {B : Nat → Int32} : ∀ (m q j : Nat), q ≤ j → j < run f B q m → f (B j) = true := by
  intro m
  induction m with
  | zero => intro q j h1 h2; rw [run] at h2; omega
  | succ m ih =>
    intro q j h1 h2
    obtain ⟨g1, k, g2, g3⟩ := run_go (Nat.lt_of_le_of_lt h1 h2)
    have : k = m := by omega
    subst this
    by_cases z : j = q
    · rw [z]; exact g1
    · exact ih (q + 1) j (by omega) (by rw [← g3]; exact h2)
theorem run_end {f : Int32 → Bool} {B : Nat → Int32} : ∀ (m q : Nat), run f B q m < q + m → f (B (run f B q m)) = false := by
  intro m
  induction m with
  | zero => intro q h; rw [run] at h; omega
  | succ m ih =>
    intro q h
    cases hf : f (B q) with
    | true =>
      rw [run_step hf] at h ⊢
      exact ih (q + 1) (by omega)
    | false => rw [run_stop hf]; exact hf
theorem isL_of {x : Int32} (h : isL x = true) : ∃ c, 97 ≤ c ∧ c ≤ 122 ∧ x = nI c := by
  unfold isL at h
  rw [Bool.and_eq_true, decide_eq_true_eq, decide_eq_true_eq] at h
  obtain ⟨h1, h2⟩ := h
  have h0 : ¬ x < 0 := by
    rw [Int32.lt_iff_toInt_lt] at h1 ⊢
    have e1 : (97 : Int32).toInt = 97 := by decide
    have e2 : (0 : Int32).toInt = 0 := by decide
    omega
  obtain ⟨c, hc, rfl⟩ := nI_of h0
  have g1 : ¬ nI c < nI 97 := h1
  have g2 : ¬ nI 122 < nI c := h2
  rw [nI_ltI hc (by omega)] at g1
  rw [nI_ltI (by omega) hc] at g2
  exact ⟨c, by omega, by omega, rfl⟩
theorem isD_of {x : Int32} (h : isD x = true) : ∃ c, 48 ≤ c ∧ c ≤ 57 ∧ x = nI c := by
  unfold isD at h
  rw [Bool.and_eq_true, decide_eq_true_eq, decide_eq_true_eq] at h
  obtain ⟨h1, h2⟩ := h
  have h0 : ¬ x < 0 := by
    rw [Int32.lt_iff_toInt_lt] at h1 ⊢
    have e1 : (48 : Int32).toInt = 48 := by decide
    have e2 : (0 : Int32).toInt = 0 := by decide
    omega
  obtain ⟨c, hc, rfl⟩ := nI_of h0
  have g1 : ¬ nI c < nI 48 := h1
  have g2 : ¬ nI 57 < nI c := h2
  rw [nI_ltI hc (by omega)] at g1
  rw [nI_ltI (by omega) hc] at g2
  exact ⟨c, by omega, by omega, rfl⟩
def dN (x : Int32) : Nat := x.toNatClampNeg - 48
def lC (x : Int32) : Nat := x.toNatClampNeg - 96
/-- the number whose digits begin at q -/
def num (B : Nat → Int32) (n q : Nat) : Option Nat :=
  if run isD B q (n - q) = q + 1 then some (dN (B q)) else if run isD B q (n - q) = q + 2 then some (10 * dN (B q) + dN (B (q + 1))) else none
theorem dN_of {x : Int32} (h : isD x = true) : x = nI (dN x + 48) ∧ dN x ≤ 9 := by
  obtain ⟨c, h1, h2, rfl⟩ := isD_of h
  unfold dN
  rw [nI_cl (by omega)]
  exact ⟨by rw [show c - 48 + 48 = c from by omega], by omega⟩
theorem lC_of {x : Int32} (h : isL x = true) : x = nI (lC x + 96) ∧ 1 ≤ lC x ∧ lC x ≤ 26 := by
  obtain ⟨c, h1, h2, rfl⟩ := isL_of h
  unfold lC
  rw [nI_cl (by omega)]
  exact ⟨by rw [show c - 96 + 96 = c from by omega], by omega⟩
theorem num_le {B : Nat → Int32} {n q v : Nat} (h : num B n q = some v) : v ≤ 99 := by
  unfold num at h
  by_cases z : run isD B q (n - q) = q + 1
  · rw [if_pos z] at h
    cases h
    have := (dN_of (run_all (f := isD) (B := B) (n - q) q q (Nat.le_refl _) (by omega))).2
    omega
  · rw [if_neg z] at h
    by_cases y : run isD B q (n - q) = q + 2
    · rw [if_pos y] at h
      cases h
      have := (dN_of (run_all (f := isD) (B := B) (n - q) q q (Nat.le_refl _) (by omega))).2
      have := (dN_of (run_all (f := isD) (B := B) (n - q) q (q + 1) (by omega) (by omega))).2
      omega
    · rw [if_neg y] at h
      cases h
theorem accG_n {a : Nat} {x : Int32} (ha : a ≤ 9) (h : isD x = true) : accG (nI a) x = nI (10 * a + dN x) := by
  obtain ⟨h1, h2⟩ := dN_of h
  unfold accG
  have e1 : nI a - nI a / 10 * 10 = nI (a % 10) := pk_rem (a := a) (d := 10) (by omega) (by omega) (by omega)
  have e2 : nI (a % 10) * 10 = nI (a % 10 * 10) := pk_mul _ _
  rw [e1, e2]
  conv => lhs; rw [h1]
  rw [nI_add]
  have e3 : nI (a % 10 * 10 + (dN x + 48)) - 48 = nI (a % 10 * 10 + (dN x + 48) - 48) := pk_sub (b := 48) (by omega)
  rw [e3]
  exact congrArg nI (by omega)
theorem fold_end {B : Nat → Int32} {q m : Nat} {a : Int32} (h : run isD B q m = q) : foldG B q m a = a := by
  cases m with
  | zero => rfl
  | succ m =>
    rw [foldG]
    cases hf : isD (B q) with
    | true =>
      rw [run_step hf] at h
      have := (run_le (f := isD) (B := B) m (q + 1)).1
      omega
    | false => rfl
theorem fold_go {B : Nat → Int32} {q m : Nat} {a : Int32} (hf : isD (B q) = true) : foldG B q (m + 1) a = foldG B (q + 1) m (accG a (B q)) := by
  rw [foldG, hf]
  rfl
theorem num_G {B : Nat → Int32} {n q : Nat} (hn : n ≤ 200) (hq : q ≤ n) : endG (nI (run isD B q (n - q))) (nI q) (foldG B q (n - q) 0) = oI (num B n q) := by
  have hr := run_le (f := isD) (B := B) (n - q) q
  unfold endG num
  rw [pk_sub hr.1]
  by_cases z : run isD B q (n - q) = q + 1
  · rw [if_pos z, if_pos (by rw [z, show q + 1 - q = 1 from by omega]; rfl)]
    obtain ⟨g1, k, g2, g3⟩ := run_go (f := isD) (B := B) (q := q) (m := n - q) (by omega)
    rw [g2, fold_go g1, fold_end (by omega)]
    have := accG_n (a := 0) (by omega) g1
    rw [show 10 * 0 + dN (B q) = dN (B q) from by omega] at this
    exact this
  · have z1 : ¬ nI (run isD B q (n - q) - q) = 1 := by
      show ¬ nI (run isD B q (n - q) - q) = nI 1
      rw [nI_eq (by omega) (by omega)]
      omega
    rw [if_neg z, if_neg z1]
    by_cases y : run isD B q (n - q) = q + 2
    · rw [if_pos y, if_pos (by rw [y, show q + 2 - q = 2 from by omega]; rfl)]
      obtain ⟨g1, k, g2, g3⟩ := run_go (f := isD) (B := B) (q := q) (m := n - q) (by omega)
      obtain ⟨g4, j, g5, g6⟩ := run_go (f := isD) (B := B) (q := q + 1) (m := k) (by omega)
      rw [g2, fold_go g1, g5, fold_go g4, fold_end (by omega)]
      have e1 := accG_n (a := 0) (by omega) g1
      rw [show 10 * 0 + dN (B q) = dN (B q) from by omega] at e1
      have e2 : accG 0 (B q) = nI (dN (B q)) := e1
      rw [e2, accG_n (dN_of g1).2 g4]
      rfl
    · have y1 : ¬ nI (run isD B q (n - q) - q) = 2 := by
        show ¬ nI (run isD B q (n - q) - q) = nI 2
        rw [nI_eq (by omega) (by omega)]
        omega
      rw [if_neg y, if_neg y1]
      rfl
section RUNS
variable {d n : Nat}
theorem x_numb {s : qMem} {q : Nat} (hn : n ≤ 200) (h1 : s.1 19 1 = nI n) (h3 : s.1 19 3 = nI q) (hq : q ≤ n) : ∃ s2, m_X_readNumber (d + 2) s = some (oI (num (s.1 20) n q), s2) ∧ s2.1 19 3 = nI (run isD (s.1 20) q (n - q)) ∧ F19 s s2 := by
  obtain ⟨s2, g1, g2, g3⟩ := x_numb1 (d := d) hn (x1 := nI q) (n - q) q 0 s (by omega) h1 h3
  refine ⟨s2, ?_, g2, g3⟩
  rw [e_X_readNumber, h3, g1, num_G hn hq]
end RUNS
