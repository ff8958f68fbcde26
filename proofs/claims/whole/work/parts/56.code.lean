/-! positions as numbers to the base 5 -/
def cVal (lv : Nat → Nat) : Nat → Nat → Nat
  | _, 0 => 0
  | i, r + 1 => lv i + 5 * cVal lv (i + 1) r
def cSum (lv : Nat → Nat) : Nat → Nat
  | 0 => 0
  | k + 1 => cSum lv k + lv k * 5 ^ k
def cDig (c p : Nat) : Nat := c / 5 ^ p % 5
def lvUp (lv : Nat → Nat) (p x : Nat) : Nat → Nat := fun q => if q = p then x else lv q
theorem cVal_sum {lv : Nat → Nat} : ∀ (r i : Nat), cSum lv i + 5 ^ i * cVal lv i r = cSum lv (i + r) := by
  intro r
  induction r with
  | zero => intro i; rw [cVal, Nat.mul_zero, Nat.add_zero]; rfl
  | succ r ih =>
    intro i
    rw [cVal, show i + (r + 1) = i + 1 + r from by omega, ← ih (i + 1), cSum, Nat.mul_add, Nat.pow_succ, Nat.mul_assoc, Nat.mul_comm (lv i), Nat.add_assoc]
theorem cVal_eq {lv : Nat → Nat} (n : Nat) : cVal lv 0 n = cSum lv n := by
  have h := cVal_sum (lv := lv) n 0
  rw [Nat.zero_add, show cSum lv 0 = 0 from rfl, Nat.zero_add, Nat.pow_zero, Nat.one_mul] at h
  exact h
theorem cVal_lt {lv : Nat → Nat} : ∀ (r i : Nat), (∀ p, i ≤ p → p < i + r → lv p ≤ 4) → cVal lv i r < 5 ^ r := by
  intro r
  induction r with
  | zero => intro i _; exact Nat.one_pos
  | succ r ih =>
    intro i h
    have h1 := ih (i + 1) (fun p h1 h2 => h p (by omega) (by omega))
    have h2 := h i (Nat.le_refl _) (by omega)
    rw [cVal, Nat.pow_succ]
    omega
theorem cVal_dig {lv : Nat → Nat} : ∀ (r i p : Nat), (∀ q, i ≤ q → q < i + r → lv q ≤ 4) → p < r → cVal lv i r / 5 ^ p % 5 = lv (i + p) := by
  intro r
  induction r with
  | zero => intro i p _ h; omega
  | succ r ih =>
    intro i p h hp
    have h2 := h i (Nat.le_refl _) (by omega)
    cases p with
    | zero =>
      show (lv i + 5 * cVal lv (i + 1) r) / 5 ^ 0 % 5 = lv i
      rw [Nat.pow_zero, Nat.div_one]
      omega
    | succ p =>
      have e : cVal lv i (r + 1) / 5 = cVal lv (i + 1) r := by
        rw [cVal]
        omega
      rw [Nat.pow_succ, Nat.mul_comm, ← Nat.div_div_eq_div_mul, e, ih (i + 1) p (fun q h1 h2 => h q (by omega) (by omega)) (by omega), show i + 1 + p = i + (p + 1) from by omega]
theorem cDig_val {lv : Nat → Nat} {n p : Nat} (h : ∀ q, q < n → lv q ≤ 4) (hp : p < n) : cDig (cVal lv 0 n) p = lv p := by
  have := cVal_dig (lv := lv) n 0 p (fun q _ h2 => h q (by omega)) hp
  rw [Nat.zero_add] at this
  exact this
theorem cDig_le (c p : Nat) : cDig c p ≤ 4 := by
  unfold cDig
  omega
theorem cVal_of_dig : ∀ (r i c : Nat), c < 5 ^ r → cVal (fun p => c / 5 ^ (p - i) % 5) i r = c := by
  intro r
  induction r with
  | zero => intro i c h; rw [cVal]; rw [Nat.pow_zero] at h; omega
  | succ r ih =>
    intro i c h
    rw [cVal]
    have e : cVal (fun p => c / 5 ^ (p - i) % 5) (i + 1) r = cVal (fun p => c / 5 / 5 ^ (p - (i + 1)) % 5) (i + 1) r := by
      have key : ∀ (k j : Nat), i + 1 ≤ j → cVal (fun p => c / 5 ^ (p - i) % 5) j k = cVal (fun p => c / 5 / 5 ^ (p - (i + 1)) % 5) j k := by
        intro k
        induction k with
        | zero => intro j _; rfl
        | succ k ih2 =>
          intro j hj
          rw [cVal, cVal, ih2 (j + 1) (by omega)]
          congr 1
          show c / 5 ^ (j - i) % 5 = c / 5 / 5 ^ (j - (i + 1)) % 5
          rw [Nat.div_div_eq_div_mul, show j - i = (j - (i + 1)) + 1 from by omega, Nat.pow_succ, Nat.mul_comm]
      exact key r (i + 1) (Nat.le_refl _)
    rw [e, ih (i + 1) (c / 5) (by rw [Nat.pow_succ] at h; omega), Nat.sub_self, Nat.pow_zero, Nat.div_one]
    omega
theorem cVal_cDig {c n : Nat} (h : c < 5 ^ n) : cVal (cDig c) 0 n = c := cVal_of_dig n 0 c h
theorem cVal_cong {f g : Nat → Nat} : ∀ (r i : Nat), (∀ p, i ≤ p → p < i + r → f p = g p) → cVal f i r = cVal g i r := by
  intro r
  induction r with
  | zero => intro i _; rfl
  | succ r ih =>
    intro i h
    rw [cVal, cVal, h i (Nat.le_refl _) (by omega), ih (i + 1) (fun p h1 h2 => h p (by omega) (by omega))]
theorem cSum_far {lv : Nat → Nat} {p x : Nat} : ∀ (k : Nat), k ≤ p → cSum (lvUp lv p x) k = cSum lv k := by
  intro k
  induction k with
  | zero => intro _; rfl
  | succ k ih =>
    intro h
    rw [cSum, cSum, ih (by omega)]
    congr 1
    show (if k = p then x else lv k) * 5 ^ k = lv k * 5 ^ k
    rw [if_neg (by omega)]
theorem cSum_up {lv : Nat → Nat} {p x : Nat} : ∀ (k : Nat), p < k → cSum (lvUp lv p x) k + lv p * 5 ^ p = cSum lv k + x * 5 ^ p := by
  intro k
  induction k with
  | zero => intro h; omega
  | succ k ih =>
    intro h
    rw [cSum, cSum]
    by_cases e : p = k
    · subst e
      rw [cSum_far p (Nat.le_refl _)]
      show cSum lv p + (if p = p then x else lv p) * 5 ^ p + lv p * 5 ^ p = _
      rw [if_pos rfl]
      omega
    · have h1 := ih (by omega)
      show cSum (lvUp lv p x) k + (if k = p then x else lv k) * 5 ^ k + lv p * 5 ^ p = _
      rw [if_neg (fun z => e z.symm)]
      omega
theorem cVal_inc {lv : Nat → Nat} {n p : Nat} (h : p < n) : cVal (lvUp lv p (lv p + 1)) 0 n = cVal lv 0 n + 5 ^ p := by
  rw [cVal_eq, cVal_eq]
  have := cSum_up (lv := lv) (x := lv p + 1) n h
  rw [Nat.add_mul, Nat.one_mul] at this
  omega
theorem cVal_dec {lv : Nat → Nat} {n p : Nat} (h : p < n) (h0 : 0 < lv p) : cVal (lvUp lv p (lv p - 1)) 0 n + 5 ^ p = cVal lv 0 n := by
  rw [cVal_eq, cVal_eq]
  have := cSum_up (lv := lv) (x := lv p - 1) n h
  have e : lv p * 5 ^ p = (lv p - 1) * 5 ^ p + 5 ^ p := by
    obtain ⟨k, hk⟩ : ∃ k, lv p = k + 1 := ⟨lv p - 1, by omega⟩
    rw [hk, Nat.add_sub_cancel, Nat.add_mul, Nat.one_mul]
  omega
theorem pow5 : ∀ n, n ≤ 5 → 5 ^ n ≤ 3125 := by decide
theorem pow5p (p : Nat) : 1 ≤ 5 ^ p := Nat.pow_pos (by decide)
theorem fb_holes : ∀ (m n : Nat) (f : Nat → Nat), (∀ i, i < n → f i < m) → (∀ i j, i < j → j < n → f i ≠ f j) → n ≤ m := by
  intro m
  induction m with
  | zero =>
    intro n f h1 _
    rcases Nat.eq_zero_or_pos n with h | h
    · omega
    · exact absurd (h1 0 h) (Nat.not_lt_zero _)
  | succ m ih =>
    intro n f h1 h2
    by_cases hx : ∃ i, i < n ∧ f i = m
    · obtain ⟨a, ha, hfa⟩ := hx
      have hg := ih (n - 1) (fun i => if i < a then f i else f (i + 1)) (by
        intro i hi
        by_cases q : i < a
        · simp only [if_pos q]
          have b1 := h1 i (by omega)
          have b2 := h2 i a q ha
          omega
        · simp only [if_neg q]
          have b1 := h1 (i + 1) (by omega)
          have b2 := h2 a (i + 1) (by omega) (by omega)
          omega) (by
        intro i j hij hj
        by_cases q : i < a
        · by_cases r : j < a
          · simp only [if_pos q, if_pos r]
            exact h2 i j hij (by omega)
          · simp only [if_pos q, if_neg r]
            exact h2 i (j + 1) (by omega) (by omega)
        · have r : ¬ j < a := by omega
          simp only [if_neg q, if_neg r]
          exact h2 (i + 1) (j + 1) (by omega) (by omega))
      omega
    · have hg := ih n f (fun i hi => by
        have b1 := h1 i hi
        have b2 : f i ≠ m := fun e => hx ⟨i, hi, e⟩
        omega) h2
      omega
/-! the search: how many were found, which, how far, from where, by what move -/
abbrev Bf : Type := Nat × (Nat → Nat) × (Nat → Option Nat) × (Nat → Nat) × (Nat → Nat)
def bN (b : Bf) : Nat := b.1
def bF (b : Bf) : Nat → Nat := b.2.1
def bD (b : Bf) : Nat → Option Nat := b.2.2.1
def bP (b : Bf) : Nat → Nat := b.2.2.2.1
def bM (b : Bf) : Nat → Nat := b.2.2.2.2
def fUpd {α : Type} (f : Nat → α) (k : Nat) (v : α) : Nat → α := fun j => if j = k then v else f j
theorem fUpd_s {α : Type} {f : Nat → α} {k : Nat} {v : α} : fUpd f k v k = v := if_pos rfl
theorem fUpd_n {α : Type} {f : Nat → α} {k j : Nat} {v : α} (h : j ≠ k) : fUpd f k v j = f j := if_neg h
/-- a position seen: it is new or not -/
def bAdd (b : Bf) (ok : Bool) (to fr dd mv : Nat) : Bf := bif ok && (bD b to).isNone then (bN b + 1, fUpd (bF b) (bN b) to, fUpd (bD b) to (some dd), fUpd (bP b) to fr, fUpd (bM b) to mv) else b
def bExp (c : Co) (M : Nat → Bool) (cur dd : Nat) : Nat → Nat → Bf → Bf
  | _, 0, b => b
  | p, r + 1, b => bExp c M cur dd (p + 1) r (bAdd (bAdd b (M p && cRise c M (cDig cur) p) (cur + 5 ^ p) cur dd (2 * p + 1)) (M p && cSink c M (cDig cur) p) (cur - 5 ^ p) cur dd (2 * p))
def bRun (c : Co) (M : Nat → Bool) : Nat → Nat → Bf → Bf
  | 0, _, b => b
  | f + 1, i, b => if i < bN b then bRun c M f (i + 1) (bExp c M (bF b i) ((bD b (bF b i)).getD 0 + 1) 0 (cN c) b) else b
def bEmp (st : Nat) : Bf := (0, fun _ => st, fun _ => none, fun _ => 0, fun _ => 0)
def bIni (st : Nat) : Bf := bAdd (bEmp st) true st 0 0 0
def bfs (c : Co) (M : Nat → Bool) (st : Nat) : Bf := bRun c M 3126 0 (bIni st)
/-- who can go up is not at the top; who can go down is not at the foot -/
theorem cRise_lt {c : Co} {M : Nat → Bool} {lv : Nat → Nat} {p : Nat} (h : cRise c M lv p = true) : lv p < cTop c ∧ cP c p 0 ≠ 3 := by
  unfold cRise cHelp at h
  obtain ⟨i, k, -, -, -, h1⟩ := (sr2_iff _ _).mp h
  unfold fUp cUp at h1
  simp only [Bool.and_eq_true, decide_eq_true_eq] at h1
  exact h1.2.1
theorem cSink_lt {c : Co} {M : Nat → Bool} {lv : Nat → Nat} {p : Nat} (h : cSink c M lv p = true) : 0 < lv p ∧ cP c p 0 ≠ 3 := by
  unfold cSink at h
  obtain ⟨i, -, -, h1⟩ := (sr_iff _ _).mp h
  unfold fDn cDn at h1
  simp only [Bool.and_eq_true, decide_eq_true_eq] at h1
  exact h1.2.1

/-- what is so of what was found -/
def bOk (c : Co) (n : Nat) (b : Bf) : Prop := bN b ≤ 3125 ∧ (∀ i, i < bN b → bF b i < 5 ^ n ∧ (∀ p, p < n → cDig (bF b i) p ≤ cTop c) ∧ ∃ e, bD b (bF b i) = some e ∧ e ≤ i) ∧ (∀ k, (bD b k).isSome = true ↔ ∃ i, i < bN b ∧ bF b i = k) ∧ ∀ i j, i < j → j < bN b → bF b i ≠ bF b j
theorem bAdd_no {b : Bf} {ok : Bool} {to fr dd mv : Nat} (h : (ok && (bD b to).isNone) = false) : bAdd b ok to fr dd mv = b := by
  unfold bAdd
  rw [h]
  rfl
theorem bAdd_yes {b : Bf} {ok : Bool} {to fr dd mv : Nat} (h : (ok && (bD b to).isNone) = true) : bAdd b ok to fr dd mv = (bN b + 1, fUpd (bF b) (bN b) to, fUpd (bD b) to (some dd), fUpd (bP b) to fr, fUpd (bM b) to mv) := by
  unfold bAdd
  rw [h]
  rfl
/-- as many as there are numbers at most -/
theorem bOk_room {c : Co} {b : Bf} {n to : Nat} (h5 : n ≤ 5) (h : bOk c n b) (hto : to < 5 ^ n) (hn : bD b to = none) : bN b < 3125 := by
  obtain ⟨h1, h2, h3, h4⟩ := h
  rcases Nat.lt_or_ge (bN b) 3125 with q | q
  · exact q
  · exfalso
    have hp := pow5 n h5
    have e : bN b = 3125 := by omega
    have := fb_holes (5 ^ n) (bN b + 1) (fun i => if i < bN b then bF b i else to) (fun i hi => by
      show (if i < bN b then bF b i else to) < 5 ^ n
      by_cases z : i < bN b
      · rw [if_pos z]; exact (h2 i z).1
      · rw [if_neg z]; exact hto) (fun i j hij hj => by
      show (if i < bN b then bF b i else to) ≠ (if j < bN b then bF b j else to)
      rw [if_pos (by omega)]
      by_cases z : j < bN b
      · rw [if_pos z]
        exact h4 i j hij z
      · rw [if_neg z]
        intro z2
        have := (h3 to).mpr ⟨i, by omega, z2⟩
        rw [hn] at this
        cases this)
    omega
theorem bOk_add {c : Co} {b : Bf} {n to fr dd mv : Nat} {ok : Bool} (h5 : n ≤ 5) (h : bOk c n b) (hto : ok = true → to < 5 ^ n ∧ (∀ p, p < n → cDig to p ≤ cTop c)) (hdd : dd ≤ bN b) : bOk c n (bAdd b ok to fr dd mv) := by
  cases hok : (ok && (bD b to).isNone) with
  | false => rw [bAdd_no hok]; exact h
  | true =>
    rw [bAdd_yes hok]
    rw [Bool.and_eq_true] at hok
    have hD : bD b to = none := Option.isNone_iff_eq_none.mp hok.2
    obtain ⟨t1, t2⟩ := hto hok.1
    have hr := bOk_room h5 h t1 hD
    obtain ⟨h1, h2, h3, h4⟩ := h
    have ne : ∀ i, i < bN b → bF b i ≠ to := fun i hi y => by
      have := (h3 to).mpr ⟨i, hi, y⟩
      rw [hD] at this
      cases this
    refine ⟨hr, fun i hi => ?_, fun k => ?_, fun i j hij hj => ?_⟩
    · have hi : i < bN b + 1 := hi
      show fUpd (bF b) (bN b) to i < 5 ^ n ∧ (∀ p, p < n → cDig (fUpd (bF b) (bN b) to i) p ≤ cTop c) ∧ ∃ e, fUpd (bD b) to (some dd) (fUpd (bF b) (bN b) to i) = some e ∧ e ≤ i
      by_cases z : i = bN b
      · subst z
        rw [fUpd_s]
        exact ⟨t1, t2, dd, fUpd_s, hdd⟩
      · rw [fUpd_n z, fUpd_n (ne i (by omega))]
        exact h2 i (by omega)
    · show (fUpd (bD b) to (some dd) k).isSome = true ↔ ∃ i, i < bN b + 1 ∧ fUpd (bF b) (bN b) to i = k
      by_cases z : k = to
      · subst z
        rw [fUpd_s]
        exact ⟨fun _ => ⟨bN b, by omega, fUpd_s⟩, fun _ => rfl⟩
      · rw [fUpd_n z, h3 k]
        refine ⟨fun ⟨i, g1, g2⟩ => ⟨i, by omega, by rw [fUpd_n (by omega)]; exact g2⟩, fun ⟨i, g1, g2⟩ => ?_⟩
        by_cases y : i = bN b
        · rw [y, fUpd_s] at g2
          exact absurd g2.symm z
        · rw [fUpd_n y] at g2
          exact ⟨i, by omega, g2⟩
    · have hj : j < bN b + 1 := hj
      show fUpd (bF b) (bN b) to i ≠ fUpd (bF b) (bN b) to j
      rw [fUpd_n (show i ≠ bN b by omega)]
      by_cases z : j = bN b
      · subst z
        rw [fUpd_s]
        exact ne i (by omega)
      · rw [fUpd_n z]
        exact h4 i j hij (by omega)
theorem bAdd_len {b : Bf} {ok : Bool} {to fr dd mv : Nat} : bN b ≤ bN (bAdd b ok to fr dd mv) := by
  cases hok : (ok && (bD b to).isNone) with
  | false => rw [bAdd_no hok]; exact Nat.le_refl _
  | true => rw [bAdd_yes hok]; exact Nat.le_succ _
/-- a move leads to a position -/
theorem mv_up {c : Co} {n cur p : Nat} (hk : cOk c) (hn : n = cN c) (h : cur < 5 ^ n) (hd : ∀ q, q < n → cDig cur q ≤ cTop c) (hp : p < n) (ht : cDig cur p < cTop c) : cur + 5 ^ p < 5 ^ n ∧ ∀ q, q < n → cDig (cur + 5 ^ p) q = (if q = p then cDig cur p + 1 else cDig cur q) := by
  have h4 := hk.1.2
  have e : cur + 5 ^ p = cVal (lvUp (cDig cur) p (cDig cur p + 1)) 0 n := by rw [cVal_inc hp, cVal_cDig h]
  have hle : ∀ q, q < n → lvUp (cDig cur) p (cDig cur p + 1) q ≤ 4 := by
    intro q hq
    show (if q = p then cDig cur p + 1 else cDig cur q) ≤ 4
    have := hd q hq
    split <;> omega
  rw [e]
  exact ⟨cVal_lt n 0 (fun q _ h2 => hle q (by omega)), fun q hq => cDig_val hle hq⟩
theorem mv_dn {c : Co} {n cur p : Nat} (hk : cOk c) (hn : n = cN c) (h : cur < 5 ^ n) (hd : ∀ q, q < n → cDig cur q ≤ cTop c) (hp : p < n) (ht : 0 < cDig cur p) : (5 ^ p ≤ cur ∧ cur - 5 ^ p < 5 ^ n) ∧ ∀ q, q < n → cDig (cur - 5 ^ p) q = (if q = p then cDig cur p - 1 else cDig cur q) := by
  have h4 := hk.1.2
  have e0 := cVal_dec (lv := cDig cur) hp ht
  rw [cVal_cDig h] at e0
  have e : cur - 5 ^ p = cVal (lvUp (cDig cur) p (cDig cur p - 1)) 0 n := by omega
  have hle : ∀ q, q < n → lvUp (cDig cur) p (cDig cur p - 1) q ≤ 4 := by
    intro q hq
    show (if q = p then cDig cur p - 1 else cDig cur q) ≤ 4
    have h8 := hd q hq
    have h9 := hd p hp
    split <;> omega
  rw [e]
  exact ⟨⟨by omega, cVal_lt n 0 (fun q _ h2 => hle q (by omega))⟩, fun q hq => cDig_val hle hq⟩
theorem mv_up_ok {c : Co} {M : Nat → Bool} {cur p : Nat} (hk : cOk c) (h : cur < 5 ^ cN c) (hd : ∀ q, q < cN c → cDig cur q ≤ cTop c) (hp : p < cN c) (hr : (M p && cRise c M (cDig cur) p) = true) : cur + 5 ^ p < 5 ^ cN c ∧ ∀ q, q < cN c → cDig (cur + 5 ^ p) q ≤ cTop c := by
  rw [Bool.and_eq_true] at hr
  have ht := (cRise_lt hr.2).1
  obtain ⟨h1, h2⟩ := mv_up hk rfl h hd hp ht
  refine ⟨h1, fun q hq => ?_⟩
  rw [h2 q hq]
  have := hd q hq
  split <;> omega
theorem mv_dn_ok {c : Co} {M : Nat → Bool} {cur p : Nat} (hk : cOk c) (h : cur < 5 ^ cN c) (hd : ∀ q, q < cN c → cDig cur q ≤ cTop c) (hp : p < cN c) (hr : (M p && cSink c M (cDig cur) p) = true) : cur - 5 ^ p < 5 ^ cN c ∧ ∀ q, q < cN c → cDig (cur - 5 ^ p) q ≤ cTop c := by
  rw [Bool.and_eq_true] at hr
  have ht := (cSink_lt hr.2).1
  obtain ⟨h1, h2⟩ := mv_dn hk rfl h hd hp ht
  refine ⟨h1.2, fun q hq => ?_⟩
  rw [h2 q hq]
  have h8 := hd q hq
  have h9 := hd p hp
  split <;> omega
theorem bExp_ok {c : Co} {M : Nat → Bool} {cur dd : Nat} (hk : cOk c) (h : cur < 5 ^ cN c) (hd : ∀ q, q < cN c → cDig cur q ≤ cTop c) : ∀ (r p : Nat) (b : Bf), p + r = cN c → bOk c (cN c) b → dd ≤ bN b → bOk c (cN c) (bExp c M cur dd p r b) ∧ bN b ≤ bN (bExp c M cur dd p r b) := by
  intro r
  induction r with
  | zero => intro p b _ hb _; exact ⟨hb, Nat.le_refl _⟩
  | succ r ih =>
    intro p b hp hb hdd
    rw [bExp]
    have h1 := bOk_add (fr := cur) (mv := 2 * p + 1) hk.2.1 hb (fun q => mv_up_ok (M := M) hk h hd (show p < cN c by omega) q) hdd
    have l1 := bAdd_len (b := b) (ok := M p && cRise c M (cDig cur) p) (to := cur + 5 ^ p) (fr := cur) (dd := dd) (mv := 2 * p + 1)
    have h2 := bOk_add (dd := dd) (fr := cur) (mv := 2 * p) hk.2.1 h1 (fun q => mv_dn_ok (M := M) hk h hd (show p < cN c by omega) q) (by omega)
    have l2 := bAdd_len (b := bAdd b (M p && cRise c M (cDig cur) p) (cur + 5 ^ p) cur dd (2 * p + 1)) (ok := M p && cSink c M (cDig cur) p) (to := cur - 5 ^ p) (fr := cur) (dd := dd) (mv := 2 * p)
    obtain ⟨h3, h4⟩ := ih (p + 1) _ (by omega) h2 (by omega)
    exact ⟨h3, by omega⟩
theorem bIni_ok {c : Co} {st : Nat} (hk : cOk c) (h : st < 5 ^ cN c) (hd : ∀ q, q < cN c → cDig st q ≤ cTop c) : bOk c (cN c) (bIni st) := bOk_add hk.2.1 ⟨Nat.zero_le _, fun i hi => absurd hi (Nat.not_lt_zero _), fun k => ⟨fun q => (by cases q), fun ⟨i, q, _⟩ => absurd q (Nat.not_lt_zero _)⟩, fun i j _ hj => absurd hj (Nat.not_lt_zero _)⟩ (fun _ => ⟨h, hd⟩) (Nat.zero_le _)
