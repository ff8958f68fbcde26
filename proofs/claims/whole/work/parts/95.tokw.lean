/-! what the reference's tokens say: words, numbers -/
def wNum (k : Nat) : Nat := qNth [10492029, 388708, 365666, 247162, 47, 208906747, 6334396438, 237923154, 8868856, 10124021] k
def wCode (k : Nat) : Nat → Nat
  | 0 => 0
  | m + 1 => 27 * wCode k m + (wCh k m - 96)
theorem w_code : ∀ k, k < 10 → wCode k (qTn k) = wNum k ∧ wNum k < 2 ^ 62 := by decide +kernel
theorem w_neg : ∀ k, k < 10 → lN (wNum k) ≠ -1 ∧ lN (wNum k) ≠ -2 ∧ lN (wNum k) ≠ -3 ∧ lN (wNum k) ≠ -4 := by decide +kernel
theorem spl_iff {B : Nat → Int32} {b k : Nat} : ∀ (q i : Nat), spl B b k i q = true ↔ ∀ j, i ≤ j → j < i + q → B (b + j) = nI (wCh k j) := by
  intro q
  induction q with
  | zero => intro i; exact ⟨fun _ j h1 h2 => by omega, fun _ => rfl⟩
  | succ q ih =>
    intro i
    rw [spl]
    by_cases z : B (b + i) = nI (wCh k i)
    · rw [decide_eq_true z]
      refine ⟨fun h j h1 h2 => ?_, fun h => (ih (i + 1)).mpr (fun j h1 h2 => h j (by omega) (by omega))⟩
      by_cases y : j = i
      · rw [y]; exact z
      · exact (ih (i + 1)).mp h j (by omega) (by omega)
    · rw [decide_eq_false z]
      exact ⟨(fun h => by cases h), fun h => absurd (h i (Nat.le_refl _) (by omega)) z⟩
theorem isW_iff {B : Nat → Int32} {b e k : Nat} : isW B b e k = true ↔ e = b + qTn k ∧ ∀ j, j < qTn k → B (b + j) = nI (wCh k j) := by
  unfold isW
  by_cases z : e = b + qTn k
  · rw [decide_eq_true z]
    refine ⟨fun h => ⟨z, fun j hj => (spl_iff _ _).mp h j (Nat.zero_le _) (by omega)⟩, fun h => (spl_iff _ _).mpr (fun j _ h2 => h.2 j (by omega))⟩
  · rw [decide_eq_false z]
    exact ⟨(fun h => by cases h), fun h => absurd h.1 z⟩
theorem fW_lt {B : Nat → Int32} {b e : Nat} : ∀ (q k : Nat), k + q = 10 → fW B b e k q ≤ 10 ∧ (fW B b e k q < 10 → isW B b e (fW B b e k q) = true) ∧ (fW B b e k q = 10 → ∀ j, k ≤ j → j < 10 → isW B b e j = false) := by
  intro q
  induction q with
  | zero => intro k hk; exact ⟨Nat.le_refl _, fun h => absurd h (Nat.lt_irrefl _), fun _ j h1 h2 => by omega⟩
  | succ q ih =>
    intro k hk
    rw [fW]
    cases hw : isW B b e k with
    | true => exact ⟨by show k ≤ 10; omega, fun _ => hw, fun h => by have : k = 10 := h; omega⟩
    | false =>
      obtain ⟨h1, h2, h3⟩ := ih (k + 1) (by omega)
      refine ⟨h1, h2, fun h j a1 a2 => ?_⟩
      by_cases y : j = k
      · rw [y]; exact hw
      · exact h3 h j (by omega) a2
theorem tN_lt {B : Nat → Int32} {q : Nat} : ∀ (m : Nat), (∀ j, j < m → isL (B (q + j)) = true) → tN B q m < 27 ^ m := by
  intro m
  induction m with
  | zero => intro _; exact Nat.one_pos
  | succ m ih =>
    intro h
    have h1 := ih (fun j hj => h j (by omega))
    have h2 := (lC_of (h m (Nat.lt_succ_self _))).2
    rw [tN, Nat.pow_succ]
    omega
theorem tN_inj {B : Nat → Int32} {q k : Nat} : ∀ (m m2 : Nat), (∀ j, j < m → isL (B (q + j)) = true) → (∀ j, j < m2 → 97 ≤ wCh k j ∧ wCh k j ≤ 122) → tN B q m = wCode k m2 → m = m2 ∧ ∀ j, j < m → lC (B (q + j)) = wCh k j - 96 := by
  intro m
  induction m with
  | zero =>
    intro m2 _ h2 h
    cases m2 with
    | zero => exact ⟨rfl, fun j hj => absurd hj (Nat.not_lt_zero _)⟩
    | succ m2 =>
      have := h2 m2 (Nat.lt_succ_self _)
      rw [tN, wCode] at h
      omega
  | succ m ih =>
    intro m2 h1 h2 h
    have a1 := (lC_of (h1 m (Nat.lt_succ_self _))).2
    cases m2 with
    | zero =>
      rw [tN, wCode] at h
      omega
    | succ m2 =>
      have a2 := h2 m2 (Nat.lt_succ_self _)
      rw [tN, wCode] at h
      obtain ⟨g1, g2⟩ := ih m2 (fun j hj => h1 j (by omega)) (fun j hj => h2 j (by omega)) (by omega)
      subst g1
      refine ⟨rfl, fun j hj => ?_⟩
      by_cases y : j = m
      · rw [y]; omega
      · exact g2 j (by omega)
theorem tN_eq {B : Nat → Int32} {q k : Nat} : ∀ (m : Nat), (∀ j, j < m → B (q + j) = nI (wCh k j)) → (∀ j, j < m → wCh k j ≤ 122) → tN B q m = wCode k m := by
  intro m
  induction m with
  | zero => intro _ _; rfl
  | succ m ih =>
    intro h h2
    have a2 := h2 m (Nat.lt_succ_self _)
    rw [tN, wCode, ih (fun j hj => h j (by omega)) (fun j hj => h2 j (by omega)), h m (Nat.lt_succ_self _)]
    unfold lC
    rw [nI_cl (by omega)]
theorem isL_isD {x : Int32} (h : isL x = true) : isD x = false := by
  obtain ⟨c, h1, h2, rfl⟩ := isL_of h
  rw [← Bool.not_eq_true]
  intro z
  obtain ⟨c2, g1, g2, g3⟩ := isD_of z
  rw [nI_eq (by omega) (by omega)] at g3
  omega
theorem tok_word {B : Nat → Int32} {n q k : Nat} {s s2 : qMem} (hk : k < 10) (h : tokAt B n q s s2) : s2.2 = lN (wNum k) ↔ isW B q (run isL B q (n - q)) k = true := by
  obtain ⟨w2, w7, -⟩ := w_len k hk
  obtain ⟨c1, c2⟩ := w_code k hk
  obtain ⟨n1, n2, n3, n4⟩ := w_neg k hk
  have no : run isL B q (n - q) = q → ¬ isW B q (run isL B q (n - q)) k = true := fun e z => by
    have := (isW_iff.mp z).1
    omega
  have ch : ∀ j, j < qTn k → 97 ≤ wCh k j ∧ wCh k j ≤ 122 := fun j hj => (w_tab k hk j (by omega) hj).2.2.2
  rcases h.2.2 with ⟨a1, a2, -⟩ | ⟨a1, a2, -, a4⟩ | ⟨a1, a2, -, -, -, a4⟩ | ⟨a1, a2, -, -, a4⟩
  · refine ⟨fun z => absurd (z.symm.trans a2) n2, fun z => absurd z (no ?_)⟩
    rw [a1, Nat.sub_self]
    rfl
  · have hr := run_le (f := isL) (B := B) (n - q) q
    generalize he : run isL B q (n - q) = e at *
    have hl : ∀ j, j < e - q → isL (B (q + j)) = true := fun j hj => run_all (f := isL) (B := B) (n - q) q (q + j) (by omega) (by omega)
    by_cases z : e - q ≤ 9
    · rw [if_pos z] at a4
      have hb : tN B q (e - q) < 2 ^ 63 := Nat.lt_of_lt_of_le (tN_lt _ hl) (Nat.le_trans (Nat.pow_le_pow_right (by omega) z) (by decide))
      rw [a4, pk_lEQ hb (by omega), ← c1, isW_iff]
      refine ⟨fun y => ?_, fun y => ?_⟩
      · obtain ⟨g1, g2⟩ := tN_inj (e - q) (qTn k) hl ch y
        refine ⟨by omega, fun j hj => ?_⟩
        have e1 := (lC_of (hl j (by omega))).1
        have e2 := g2 j (by omega)
        have e3 := ch j hj
        rw [e1, e2, show wCh k j - 96 + 96 = wCh k j from by omega]
      · have : e - q = qTn k := by omega
        rw [this]
        exact tN_eq _ y.2 (fun j hj => (ch j hj).2)
    · rw [if_neg z] at a4
      refine ⟨fun y => absurd (y.symm.trans a4) n4, fun y => ?_⟩
      have := (isW_iff.mp y).1
      omega
  · refine ⟨fun z => ?_, fun z => absurd z (no (run_stop a2))⟩
    by_cases y : run isD B q (n - q) - q ≤ 2
    · rw [if_pos y] at a4
      exact absurd (z.symm.trans a4) n1
    · rw [if_neg y] at a4
      exact absurd (z.symm.trans a4) n4
  · refine ⟨fun z => ?_, fun z => absurd z (no (run_stop a2))⟩
    by_cases y : B q = 59
    · rw [if_pos y] at a4
      exact absurd (z.symm.trans a4) n3
    · rw [if_neg y] at a4
      exact absurd (z.symm.trans a4) n4
theorem foldM_end {B : Nat → Int32} {q m k : Nat} {a : Int32} (h : run isD B q m = q) : foldM B q m k a = a := by
  cases m with
  | zero => rfl
  | succ m =>
    rw [foldM]
    cases hf : isD (B q) with
    | true =>
      rw [run_step hf] at h
      have := (run_le (f := isD) (B := B) m (q + 1)).1
      omega
    | false => rfl
theorem foldM_go {B : Nat → Int32} {q m k : Nat} {a : Int32} (hf : isD (B q) = true) (hk : ¬ 2 ≤ k) : foldM B q (m + 1) k a = foldM B (q + 1) m (k + 1) (10 * a + B q - 48) := by
  rw [foldM, hf, if_neg hk]
  rfl
theorem accM {a : Nat} {x : Int32} (h : isD x = true) : 10 * nI a + x - 48 = nI (10 * a + dN x) := by
  obtain ⟨h1, h2⟩ := dN_of h
  have e2 : 10 * nI a = nI (10 * a) := pk_mul _ _
  rw [e2]
  conv => lhs; rw [h1]
  rw [nI_add]
  have e3 : nI (10 * a + (dN x + 48)) - 48 = nI (10 * a + (dN x + 48) - 48) := pk_sub (b := 48) (by omega)
  rw [e3]
  exact congrArg nI (by omega)
theorem lN_ne1 {t : Nat} (h : t < 2 ^ 63) : lN t ≠ -1 := fun z => by
  have h1 := pk_lT h
  rw [z] at h1
  have : (-1 : Int64).toInt = -1 := by decide
  omega
theorem tok_num {B : Nat → Int32} {n q : Nat} {s s2 : qMem} (h : tokAt B n q s s2) : (∀ v, num B n q = some v → s2.2 = -1 ∧ s2.1 40 11 = nI v ∧ s2.1 40 7 = nI (run isD B q (n - q))) ∧ (num B n q = none → s2.2 ≠ -1) := by
  have no : run isD B q (n - q) = q → num B n q = none := fun e => by
    unfold num
    rw [if_neg (by omega), if_neg (by omega)]
  rcases h.2.2 with ⟨a1, a2, -⟩ | ⟨a1, a2, -, a4⟩ | ⟨a1, a2, a3, a4, a5, a6⟩ | ⟨a1, a2, a3, -, a4⟩
  · have e := no (by rw [a1, Nat.sub_self]; rfl)
    refine ⟨(fun v hv => by rw [e] at hv; cases hv), fun _ => by rw [a2]; decide⟩
  · have e := no (run_stop (isL_isD a2))
    refine ⟨(fun v hv => by rw [e] at hv; cases hv), fun _ => ?_⟩
    by_cases z : run isL B q (n - q) - q ≤ 9
    · rw [if_pos z] at a4
      rw [a4]
      have hl : ∀ j, j < run isL B q (n - q) - q → isL (B (q + j)) = true := fun j hj => run_all (f := isL) (B := B) (n - q) q (q + j) (by omega) (by omega)
      exact lN_ne1 (Nat.lt_of_lt_of_le (tN_lt _ hl) (Nat.le_trans (Nat.pow_le_pow_right (by omega) z) (by decide)))
    · rw [if_neg z] at a4
      rw [a4]
      decide
  · have hr := run_le (f := isD) (B := B) (n - q) q
    obtain ⟨k, hk⟩ : ∃ k, n - q = k + 1 := ⟨n - q - 1, by omega⟩
    have e1 : run isD B q (n - q) = run isD B (q + 1) k := by rw [hk, run_step a3]
    have hr2 := run_le (f := isD) (B := B) k (q + 1)
    have f1 : foldM B q (n - q) 0 0 = foldM B (q + 1) k 1 (nI (dN (B q))) := by
      have h0 := accM (a := 0) a3
      have h1 : 10 * 0 + B q - 48 = nI (dN (B q)) := h0.trans (by rw [show 10 * 0 + dN (B q) = dN (B q) from by omega])
      rw [hk, foldM_go a3 (by omega), h1]
    unfold num
    by_cases z : run isD B q (n - q) = q + 1
    · rw [if_pos z]
      refine ⟨fun v hv => ?_, fun hv => by cases hv⟩
      cases hv
      rw [if_pos (by omega)] at a6
      refine ⟨a6, ?_, a4⟩
      rw [a5, f1, foldM_end (by omega)]
    · rw [if_neg z]
      by_cases y : run isD B q (n - q) = q + 2
      · rw [if_pos y]
        refine ⟨fun v hv => ?_, fun hv => by cases hv⟩
        cases hv
        rw [if_pos (by omega)] at a6
        refine ⟨a6, ?_, a4⟩
        obtain ⟨g4, j, g5, g6⟩ := run_go (f := isD) (B := B) (q := q + 1) (m := k) (by omega)
        rw [a5, f1, g5, foldM_go g4 (by omega), accM g4, foldM_end (by omega)]
      · rw [if_neg y]
        refine ⟨(fun v hv => by cases hv), fun _ => ?_⟩
        rw [if_neg (by omega)] at a6
        rw [a6]
        decide
  · have e := no (run_stop a3)
    refine ⟨(fun v hv => by rw [e] at hv; cases hv), fun _ => ?_⟩
    by_cases z : B q = 59
    · rw [if_pos z] at a4
      rw [a4]
      decide
    · rw [if_neg z] at a4
      rw [a4]
      decide
/-- behind a line: the end, a sign between, or neither -/
theorem tok_sep {B : Nat → Int32} {n q : Nat} {s s2 : qMem} (hq : q ≤ n) (h : tokAt B n q s s2) : (q = n ∧ s2.2 = -2 ∧ s2.2 ≠ -3) ∨ (q < n ∧ B q = 59 ∧ s2.2 = -3 ∧ s2.1 40 7 = nI (q + 1)) ∨ (q < n ∧ B q ≠ 59 ∧ s2.2 ≠ -2 ∧ s2.2 ≠ -3) := by
  have nn : ∀ {x : Int64}, x = -1 ∨ x = -4 → x ≠ -2 ∧ x ≠ -3 := fun h => by
    rcases h with h | h <;> (subst h; decide)
  have n59L : ∀ {x : Int32}, isL x = true ∨ isD x = true → x ≠ 59 := fun h z => by
    subst z
    rcases h with h | h
    · exact absurd h (by decide)
    · exact absurd h (by decide)
  rcases h.2.2 with ⟨a1, a2, -⟩ | ⟨a1, a2, -, a4⟩ | ⟨a1, a2, a3, -, -, a6⟩ | ⟨a1, a2, a3, a5, a4⟩
  · exact Or.inl ⟨a1, a2, by rw [a2]; decide⟩
  · refine Or.inr (Or.inr ⟨a1, n59L (Or.inl a2), ?_⟩)
    by_cases z : run isL B q (n - q) - q ≤ 9
    · rw [if_pos z] at a4
      have hl : ∀ j, j < run isL B q (n - q) - q → isL (B (q + j)) = true := fun j hj => run_all (f := isL) (B := B) (n - q) q (q + j) (by omega) (by omega)
      have hb : tN B q (run isL B q (n - q) - q) < 2 ^ 63 := Nat.lt_of_lt_of_le (tN_lt _ hl) (Nat.le_trans (Nat.pow_le_pow_right (by omega) z) (by decide))
      have h1 := pk_lT hb
      rw [a4]
      refine ⟨fun y => ?_, fun y => ?_⟩
      · rw [y] at h1
        have : (-2 : Int64).toInt = -2 := by decide
        omega
      · rw [y] at h1
        have : (-3 : Int64).toInt = -3 := by decide
        omega
    · rw [if_neg z] at a4
      exact nn (Or.inr a4)
  · refine Or.inr (Or.inr ⟨a1, n59L (Or.inr a3), ?_⟩)
    by_cases y : run isD B q (n - q) - q ≤ 2
    · rw [if_pos y] at a6
      exact nn (Or.inl a6)
    · rw [if_neg y] at a6
      exact nn (Or.inr a6)
  · by_cases z : B q = 59
    · rw [if_pos z] at a4
      exact Or.inr (Or.inl ⟨a1, z, a4, a5⟩)
    · rw [if_neg z] at a4
      exact Or.inr (Or.inr ⟨a1, z, nn (Or.inr a4)⟩)
