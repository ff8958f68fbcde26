/-! numbers -/
def b2i (b : Bool) : Int32 := bif b then 1 else 0
theorem b2i_0 {b : Bool} : b2i b = 0 ↔ b = false := by cases b <;> decide
theorem b2i_1 {b : Bool} : b2i b = 1 ↔ b = true := by cases b <;> decide
theorem b2i_01 (b : Bool) : b2i b = 0 ∨ b2i b = 1 := by cases b <;> decide
theorem b2i_t : b2i true = 1 := rfl
theorem b2i_f : b2i false = 0 := rfl
theorem q_lit (n : Nat) : (OfNat.ofNat n : Int32) = nI n := Eq.trans rfl (Eq.refl (nI n))
/-- -1, 0, 1 .. -/
def dI (j : Nat) : Int32 := match j with
  | 0 => -1
  | k + 1 => nI k
def hO (j : Nat) : Option Nat := match j with
  | 0 => none
  | k + 1 => some k
theorem dI_0 : dI 0 = -1 := rfl
theorem dI_s (k : Nat) : dI (k + 1) = nI k := Eq.trans rfl (Eq.refl (nI k))
theorem dI_1 (j : Nat) : dI j + 1 = dI (j + 1) := by
  cases j with
  | zero => rfl
  | succ k => exact nI_1 k
theorem nI_m1 {k : Nat} (h : k < 2 ^ 31) : ¬ nI k = -1 := by
  intro e
  have h1 := nI_pos h
  rw [e] at h1
  exact h1 (by decide)
theorem dI_m1 {j : Nat} (h : j < 2 ^ 31) : dI j = -1 ↔ j = 0 := by
  cases j with
  | zero => exact ⟨fun _ => rfl, fun _ => rfl⟩
  | succ k => exact ⟨fun e => absurd e (nI_m1 (by omega)), fun e => by omega⟩
theorem dI_le {n j : Nat} (hn : n < 2 ^ 31) (hj : j < 2 ^ 31) : nI n ≤ dI j ↔ n < j := by
  cases j with
  | zero =>
    refine ⟨fun h => ?_, fun h => by omega⟩
    exfalso
    have h1 : nI n < 0 := by
      rw [Int32.le_iff_toInt_le] at h
      rw [Int32.lt_iff_toInt_lt]
      have e1 : (dI 0).toInt = -1 := by decide
      have e2 : (0 : Int32).toInt = 0 := by decide
      omega
    exact nI_pos hn h1
  | succ k => rw [dI_s, nI_leI hn (by omega)]; omega
theorem dI_eq {p j : Nat} (hp : p < 2 ^ 31) (hj : j < 2 ^ 31) : dI j = nI p ↔ j = p + 1 := by
  cases j with
  | zero => exact ⟨fun e => absurd e.symm (nI_m1 hp), fun e => by omega⟩
  | succ k => rw [dI_s, nI_eq (by omega) hp]; omega
theorem qIn_n {p m : Nat} (h : p < m) (hm : p < 2 ^ 31) : qIn (nI p) m := by
  show 0 ≤ (nI p).toInt ∧ (nI p).toInt < (m : Int)
  rw [nI_toInt hm]
  omega
theorem qIn_iff {p m : Nat} (hm : p < 2 ^ 31) : qIn (nI p) m ↔ p < m := by
  show 0 ≤ (nI p).toInt ∧ (nI p).toInt < (m : Int) ↔ p < m
  rw [nI_toInt hm]
  omega
theorem nI_lt0 {p : Nat} (h : p < 2 ^ 31) : nI p < 0 ↔ False := ⟨fun q => nI_pos h q, False.elim⟩
theorem nI_m1i {k : Nat} (h : k < 2 ^ 31) : nI k = -1 ↔ False := ⟨nI_m1 h, False.elim⟩
theorem nI_cl {n : Nat} (h : n < 2 ^ 31) : (nI n).toNatClampNeg = n := nI_clamp h
theorem q_rw {s : qMem} {o k : Nat} {v : Int32} : (qW s o k v).1 o k = v := if_pos ⟨rfl, rfl⟩
theorem q_rw_o {s : qMem} {o k a b : Nat} {v : Int32} (h : a ≠ o) : (qW s o k v).1 a b = s.1 a b := if_neg (fun z => h z.1)
theorem q_rw_k {s : qMem} {o k b : Nat} {v : Int32} (h : b ≠ k) : (qW s o k v).1 o b = s.1 o b := if_neg (fun z => h z.2)
theorem q_rw_if {s : qMem} {o k a b : Nat} {v : Int32} : (qW s o k v).1 a b = if a = o ∧ b = k then v else s.1 a b := rfl
theorem q_rw_2 {s : qMem} {o k : Nat} {v : Int32} : (qW s o k v).2 = s.2 := rfl
theorem q_cp_o {s : qMem} {o o2 sp dp n a b : Nat} (h : a ≠ o2) : (qCpy s o o2 sp dp n).1 a b = s.1 a b := if_neg h
theorem q_cp {s : qMem} {o o2 n b : Nat} : (qCpy s o o2 0 0 n).1 o2 b = if b < n then s.1 o b else s.1 o2 b := by
  show (if o2 = o2 then va_cpy (s.1 o) (s.1 o2) 0 0 n b else _) = _
  rw [if_pos rfl]
  unfold va_cpy
  by_cases h : b < n
  · rw [if_pos ⟨Nat.zero_le _, by omega⟩, if_pos h, Nat.zero_add, Nat.sub_zero]
  · rw [if_neg (fun z => h (by omega)), if_neg h]
theorem q_cp_2 {s : qMem} {o o2 sp dp n : Nat} : (qCpy s o o2 sp dp n).2 = s.2 := rfl
theorem sm_some {α β : Type} {a : α} {f : α → Option β} : (some a).bind f = f a := rfl
/-- an int is a number under n, or none of them -/
theorem i_cases (x : Int32) (n : Nat) : (∃ p, p < n ∧ x = nI p) ∨ (∀ p, p < n → x ≠ nI p) := by
  by_cases h : ∃ p, p < n ∧ x = nI p
  · exact Or.inl h
  · exact Or.inr (fun p hp e => h ⟨p, hp, e⟩)
theorem i_out {x : Int32} {n : Nat} (hn : n < 2 ^ 31) (h : ∀ p, p < n → x ≠ nI p) : x < 0 ∨ nI n ≤ x := by
  by_cases h0 : x < 0
  · exact Or.inl h0
  · obtain ⟨q, hq, rfl⟩ := nI_of h0
    refine Or.inr ((nI_leI hn hq).mpr ?_)
    rcases Nat.lt_or_ge q n with z | z
    · exact absurd rfl (h q z)
    · exact z
theorem q_neg1 : -(nI 1) = dI 0 := Eq.trans rfl (Eq.refl (dI 0))
theorem nI_d0 {k : Nat} (h : k < 2 ^ 31) : nI k = dI 0 ↔ False := ⟨nI_m1 h, False.elim⟩
theorem d0_nI {k : Nat} (h : k < 2 ^ 31) : dI 0 = nI k ↔ False := ⟨fun e => nI_m1 h e.symm, False.elim⟩
theorem dI_d0 {j : Nat} (h : j < 2 ^ 31) : dI j = dI 0 ↔ j = 0 := dI_m1 h
theorem b2i_n0 {b : Bool} : b2i b = nI 0 ↔ b = false := b2i_0
theorem b2i_n1 {b : Bool} : b2i b = nI 1 ↔ b = true := b2i_1
theorem b2i_ite {c : Prop} [Decidable c] : (if c then nI 1 else nI 0) = b2i (decide c) := by
  by_cases h : c
  · rw [if_pos h, decide_eq_true h]; rfl
  · rw [if_neg h, decide_eq_false h]; rfl
theorem b2i_iten {c : Prop} [Decidable c] : (if c then nI 0 else nI 1) = b2i (!decide c) := by
  by_cases h : c
  · rw [if_pos h, decide_eq_true h]; rfl
  · rw [if_neg h, decide_eq_false h]; rfl
theorem some_ite {α : Type} {c : Prop} [Decidable c] {a b : α} {s : qMem} : (if c then some (a, s) else some (b, s)) = some ((if c then a else b), s) := by
  by_cases h : c
  · rw [if_pos h, if_pos h]
  · rw [if_neg h, if_neg h]
theorem bf0 {α : Type} {a b : α} : (if b2i false = 0 then a else b) = a := if_pos rfl
theorem bt0 {α : Type} {a b : α} : (if b2i true = 0 then a else b) = b := if_neg (by decide)
theorem bfn {α : Type} {a b : α} : (if b2i false = nI 0 then a else b) = a := if_pos rfl
theorem btn {α : Type} {a b : α} : (if b2i true = nI 0 then a else b) = b := if_neg (by decide)
theorem n00 {α : Type} {a b : α} : (if nI 0 = 0 then a else b) = a := if_pos rfl
theorem n10 {α : Type} {a b : α} : (if nI 1 = 0 then a else b) = b := if_neg (by decide)
theorem dI_n1 (j : Nat) : dI j + nI 1 = dI (j + 1) := dI_1 j
theorem dz0 {α : Type} {a b : α} : (if dI 0 = -1 then a else b) = a := if_pos rfl
