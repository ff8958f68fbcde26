/-! reading a number -/
def accG (a x : Int32) : Int32 := ((a - a / 10 * 10) * 10) + x - 48
def foldG (B : Nat → Int32) : Nat → Nat → Int32 → Int32
  | _, 0, a => a
  | p, q + 1, a => bif isD (B p) then foldG B (p + 1) q (accG a (B p)) else a
section NUMB
variable {d n : Nat}
def endG (e x1 a : Int32) : Int32 := if e - x1 = 1 then a else (if e - x1 = 2 then a else -1)
theorem endG_some {e x1 a : Int32} {s : qMem} : (if e - x1 = 1 then some (a, s) else some ((if e - x1 = 2 then a else (-1) : Int32), s)) = some (endG e x1 a, s) := by
  unfold endG
  by_cases z : e - x1 = 1
  · rw [if_pos z, if_pos z]
  · rw [if_neg z, if_neg z]
theorem x_numb1 (hn : n ≤ 200) {x1 : Int32} : ∀ (q p : Nat) (a : Int32) (s : qMem), p + q = n → s.1 19 1 = nI n → s.1 19 3 = nI p → ∃ s2, l_X_readNumber_1 (d + 1) x1 a s = some (endG (nI (run isD (s.1 20) p q)) x1 (foldG (s.1 20) p q a), s2) ∧ s2.1 19 3 = nI (run isD (s.1 20) p q) ∧ F19 s s2 := by
  intro q
  induction q with
  | zero =>
    intro p a s hp h1 h3
    refine ⟨s, ?_, h3, F19.rf⟩
    rw [el_X_readNumber_1, h1, h3, if_pos (nI_le (by omega) (by omega))]
    exact endG_some
  | succ q ih =>
    intro p a s hp h1 h3
    rw [el_X_readNumber_1, x_sign hn h1 h3 (by omega), sm_some, h1, h3, if_neg (by rw [nI_leI (by omega) (by omega)]; omega), run, foldG]
    dsimp only
    by_cases z : s.1 20 p < 48
    · have e : isD (s.1 20 p) = false := by
        unfold isD
        rw [decide_eq_false (fun y => y z)]
        rfl
      refine ⟨s, ?_, ?_, F19.rf⟩
      · rw [if_pos z, e]
        exact endG_some
      · rw [e]
        exact h3
    · rw [if_neg z, x_sign hn h1 h3 (by omega), sm_some]
      dsimp only
      by_cases y : 57 < s.1 20 p
      · have e : isD (s.1 20 p) = false := by
          unfold isD
          rw [decide_eq_true z, decide_eq_false (fun (w : ¬ 57 < s.1 20 p) => w y)]
          rfl
        refine ⟨s, ?_, ?_, F19.rf⟩
        · rw [if_pos y, h3, e]
          exact endG_some
        · rw [e]
          exact h3
      · have e : isD (s.1 20 p) = true := by
          unfold isD
          rw [decide_eq_true z, decide_eq_true y]
          rfl
        have eB : (qW s 19 3 (nI (p + 1))).1 20 = s.1 20 := funext (fun j => q_rw_o (by decide))
        obtain ⟨s2, g1, g2, g3⟩ := ih (p + 1) (accG a (s.1 20 p)) (qW s 19 3 (nI (p + 1))) (by omega) (by rw [q_rw_k (by decide)]; exact h1) q_rw
        rw [eB] at g1 g2
        refine ⟨s2, ?_, ?_, F19.w.tr g3⟩
        · rw [if_neg y, x_sign hn h1 h3 (by omega), sm_some, h3, nI_1, e]
          exact g1
        · rw [e]
          exact g2
end NUMB
