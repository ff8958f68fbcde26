/-! the ten words, as GiantStair spells them -/
def wCh (k i : Nat) : Nat := qNth (qTb k) i - 128
def wV (k i : Nat) : Int32 := (((qKon (qTb k) i &&& 255)).toUInt32 % 65536).toInt32
theorem w_tab : ∀ k, k < 10 → ∀ i, i < 8 → i < qTn k → wV k i = nI (wCh k i) ∧ 0 ≤ (wV k i).toInt ∧ (wV k i).toInt < 65536 ∧ 97 ≤ wCh k i ∧ wCh k i ≤ 122 := by decide +kernel
theorem w_len : ∀ k, k < 10 → 2 ≤ qTn k ∧ qTn k ≤ 7 ∧ (Int32.ofNat (qTn k) >>> (0 &&& 31) : Int32) = nI (qTn k) := by decide +kernel
def spl (B : Nat → Int32) (b k : Nat) : Nat → Nat → Bool
  | _, 0 => true
  | i, q + 1 => bif decide (B (b + i) = nI (wCh k i)) then spl B b k (i + 1) q else false
def isW (B : Nat → Int32) (b e k : Nat) : Bool := bif decide (e = b + qTn k) then spl B b k 0 (qTn k) else false
/-- the first word from k on that stands there; 10: none -/
def fW (B : Nat → Int32) (b e : Nat) : Nat → Nat → Nat
  | _, 0 => 10
  | k, q + 1 => bif isW B b e k then k else fW B b e (k + 1) q
def wdI (k : Nat) : Int32 := if k < 10 then nI k else -1
section WORD
variable {d n : Nat}
theorem x_slen {s : qMem} {k : Nat} (hk : k < 10) : m_slength (d + 2) (100 + k) s = some (nI (qTn k), s) := by
  rw [e_slength _ _ (by omega) s, e_coder _ _ (by omega), sm_some]
  dsimp only
  rw [show 100 + k + 10 - 110 = k from by omega, (w_len k hk).2.2]
theorem x_char {s : qMem} {k i : Nat} (hk : k < 10) (hi : i < qTn k) : m_charAt (d + 4) (100 + k) (nI i) s = some (nI (wCh k i), s) := by
  obtain ⟨h2, h7, -⟩ := w_len k hk
  obtain ⟨t1, t2, t3, -, -⟩ := w_tab k hk i (by omega) hi
  have hin : qIn (nI i) (qTn k) := qIn_n hi (by omega)
  have hlt : nI i < Int32.ofNat (qTn k) := nI_lt hi (by omega)
  rw [e_charAt _ _ _ (by omega) s, e_isLatin1 _ _ (by omega), sm_some]
  dsimp only
  rw [if_neg (show ¬ (1 : Int32) = 0 from by decide), show 100 + k + 10 = 110 + k from by omega, e_lcharAt _ _ _ (by omega) s, show 110 + k - 110 = k from by omega, e_scheckIndex, e_checkIndex, if_neg (nI_pos (by omega)), if_pos hlt, sm_some, sm_some, if_pos hin, nI_cl (by omega)]
  have e : ((((qKon (qTb k) i) &&& 255)).toUInt32 % 65536).toInt32 = wV k i := rfl
  rw [e, if_pos ⟨t2, t3⟩, sm_some]
  dsimp only
  rw [if_pos ⟨t2, t3⟩, t1]
theorem x_spells1 {s : qMem} {b k : Nat} (hk : k < 10) (hb : b + qTn k ≤ 200) : ∀ (q i : Nat), i + q = qTn k → l_X_spells_1 (d + 4) (100 + k) (nI b) (nI i) s = some (b2i (spl (s.1 20) b k i q), s) := by
  obtain ⟨h2, h7, -⟩ := w_len k hk
  intro q
  induction q with
  | zero =>
    intro i hi
    rw [el_X_spells_1 _ _ _ _ (by omega), x_slen hk, sm_some, if_pos (nI_le (by omega) (by omega))]
    rfl
  | succ q ih =>
    intro i hi
    have n200 : ¬ (200 : Int32) ≤ nI (b + i) := by
      show ¬ nI 200 ≤ nI (b + i)
      rw [nI_leI (by omega) (by omega)]
      omega
    rw [el_X_spells_1 _ _ _ _ (by omega), x_slen hk, sm_some]
    dsimp only
    rw [if_neg (by rw [nI_leI (by omega) (by omega)]; omega), nI_add, if_neg n200, if_pos (qIn_n (by omega) (by omega)), x_char hk (by omega), sm_some]
    dsimp only
    rw [nI_cl (by omega), nI_1, ih (i + 1) (by omega), spl]
    by_cases z : s.1 20 (b + i) = nI (wCh k i)
    · rw [if_pos z, decide_eq_true z]
      rfl
    · rw [if_neg z, decide_eq_false z]
      rfl
theorem x_spells {s : qMem} {b e k : Nat} (hk : k < 10) (hbe : b ≤ e) (he : e ≤ 200) (h3 : s.1 19 3 = nI e) : m_X_spells (d + 5) (nI b) (100 + k) s = some (b2i (isW (s.1 20) b e k), s) := by
  obtain ⟨h2, h7, -⟩ := w_len k hk
  have h200 : nI e ≤ (200 : Int32) := by
    show nI e ≤ nI 200
    exact nI_le he (by omega)
  rw [e_X_spells _ _ _ (by omega), if_neg (nI_pos (by omega)), x_slen hk, sm_some]
  dsimp only
  rw [h3, pk_sub hbe, isW]
  by_cases z : e = b + qTn k
  · rw [decide_eq_true z, if_pos (by rw [nI_eq (by omega) (by omega)]; omega), if_pos h200]
    exact x_spells1 hk (by omega) (qTn k) 0 (by omega)
  · rw [decide_eq_false z, if_neg (by rw [nI_eq (by omega) (by omega)]; omega)]
    rfl
theorem x_spelling {s : qMem} : ∀ k, k < 10 → m_X_spelling (d + 1) (nI k) s = some (100 + k, s) := by
  intro k hk
  have h : k = 0 ∨ k = 1 ∨ k = 2 ∨ k = 3 ∨ k = 4 ∨ k = 5 ∨ k = 6 ∨ k = 7 ∨ k = 8 ∨ k = 9 := by omega
  rw [e_X_spelling]
  rcases h with h | h | h | h | h | h | h | h | h | h <;> (subst h; rfl)
theorem x_word2 {s : qMem} {b e : Nat} (hbe : b ≤ e) (he : e ≤ 200) (h3 : s.1 19 3 = nI e) : ∀ (q k : Nat), k + q = 10 → l_X_readWord_2 (d + 5) (nI b) (nI k) s = some (wdI (fW (s.1 20) b e k q), s) := by
  intro q
  induction q with
  | zero =>
    intro k hk
    have : k = 10 := by omega
    subst this
    rw [el_X_readWord_2, if_pos (show (10 : Int32) ≤ nI 10 from by decide)]
    rfl
  | succ q ih =>
    intro k hk
    have n10k : ¬ (10 : Int32) ≤ nI k := by
      show ¬ nI 10 ≤ nI k
      rw [nI_leI (by omega) (by omega)]
      omega
    rw [el_X_readWord_2, if_neg n10k, x_spelling k (by omega), sm_some]
    dsimp only
    rw [x_spells (by omega) hbe he h3, sm_some, fW]
    dsimp only
    cases hw : isW (s.1 20) b e k with
    | true =>
      rw [bt0, wdI]
      exact congrArg (fun z => some (z, s)) (if_pos (by show k < 10; omega)).symm
    | false =>
      rw [bf0, nI_1, ih (k + 1) (by omega)]
      rfl
theorem x_word {s : qMem} {p : Nat} (hn : n ≤ 200) (h1 : s.1 19 1 = nI n) (h3 : s.1 19 3 = nI p) (hp : p ≤ n) : ∃ s2, m_X_readWord (d + 6) s = some (wdI (fW (s.1 20) p (run isL (s.1 20) p (n - p)) 0 10), s2) ∧ s2.1 19 3 = nI (run isL (s.1 20) p (n - p)) ∧ F19 s s2 := by
  obtain ⟨s2, g1, g2, g3⟩ := x_word1 (d := d + 4) hn (x1 := nI p) (n - p) p s (by omega) h1 h3
  have hr := run_le (f := isL) (B := s.1 20) (n - p) p
  have e20 : s2.1 20 = s.1 20 := funext (fun j => g3.1 20 j (by omega))
  refine ⟨s2, ?_, g2, g3⟩
  rw [e_X_readWord, h3, g1]
  have := x_word2 (d := d) (s := s2) (b := p) hr.1 (by omega) g2 10 0 rfl
  rw [e20] at this
  exact this
end WORD
