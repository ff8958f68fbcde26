/-! how a method's steps are told as an equation -/
section QDEC
variable {MT : Nat → qMI} {d y : Nat} {γ : Type} {g : Option (Option Value × qMem) → Option γ}
theorem d_step {x t : qSt} {A : Option γ} (n : Nat) (h : qSteps (qCall MT d) (MT y).1 n x = some t) (k : g (qK MT d y t) = A) : g (qK MT d y x) = A := by
  rw [qK_steps n h]
  exact k
theorem d_if {x a b : qSt} {f : qOp} {c : Prop} [hc : Decidable c] {A B : Option γ} (hT : (MT y).1 x.1 = .inr f) (hf : f (qCall MT d) x = if c then some a else some b) (h1 : g (qK MT d y a) = A) (h2 : g (qK MT d y b) = B) : g (qK MT d y x) = if c then A else B := by
  rw [qK_op hT, hf]
  by_cases h : c
  · rw [if_pos h, if_pos h, qO_some, h1]
  · rw [if_neg h, if_neg h, qO_some, h2]
theorem d_chk {x a : qSt} {f : qOp} {c : Prop} [hc : Decidable c] {A : Option γ} (hT : (MT y).1 x.1 = .inr f) (hf : f (qCall MT d) x = if c then some a else none) (h1 : g (qK MT d y a) = A) (hg : g none = none := by rfl) : g (qK MT d y x) = if c then A else none := by
  rw [qK_op hT, hf]
  by_cases h : c
  · rw [if_pos h, if_pos h, qO_some, h1]
  · rw [if_neg h, if_neg h, qO_none, hg]
theorem d_chkn {x a : qSt} {f : qOp} {c : Prop} [hc : Decidable c] {A : Option γ} (hT : (MT y).1 x.1 = .inr f) (hf : f (qCall MT d) x = if c then none else some a) (h1 : g (qK MT d y a) = A) (hg : g none = none := by rfl) : g (qK MT d y x) = if c then none else A := by
  rw [qK_op hT, hf]
  by_cases h : c
  · rw [if_pos h, if_pos h, qO_none, hg]
  · rw [if_neg h, if_neg h, qO_some, h1]
theorem d_ret {x : qSt} {k : Nat} {A : Option γ} (hT : (MT y).1 x.1 = .inl (k + 1)) (hr : g ((qRet (MT y).2.2.1 x.2.2.1).map (fun r => (r, x.2.2.2))) = A) : g (qK MT d y x) = A := by
  rw [qK_ret hT]
  exact hr
theorem d_retz {x : qSt} {k : Nat} {c : Prop} [hc : Decidable c] {r : Option Value} {A : Option γ} (hT : (MT y).1 x.1 = .inl (k + 1)) (hr : qRet (MT y).2.2.1 x.2.2.1 = if c then some r else none) (hA : g (some (r, x.2.2.2)) = A := by rfl) (hg : g none = none := by rfl) : g (qK MT d y x) = if c then A else none := by
  rw [qK_ret hT, hr]
  by_cases h : c
  · rw [if_pos h, if_pos h]
    exact hA
  · rw [if_neg h, if_neg h]
    exact hg
theorem d_callI {x : qSt} {f : qOp} {o : Option (Int32 × qMem)} {z : Int32 × qMem → qSt} {F : Int32 × qMem → Option γ} (hT : (MT y).1 x.1 = .inr f) (hf : f (qCall MT d) x = o.bind (fun q => some (z q))) (h : ∀ q, g (qK MT d y (z q)) = F q) (hg : g none = none := by rfl) : g (qK MT d y x) = o.bind F := by
  rw [qK_op hT, hf]
  cases o with
  | none => exact hg
  | some q => exact h q
theorem d_callV {x : qSt} {f : qOp} {o : Option qMem} {z : qMem → qSt} {F : qMem → Option γ} (hT : (MT y).1 x.1 = .inr f) (hf : f (qCall MT d) x = o.bind (fun q => some (z q))) (h : ∀ q, g (qK MT d y (z q)) = F q) (hg : g none = none := by rfl) : g (qK MT d y x) = o.bind F := by
  rw [qK_op hT, hf]
  cases o with
  | none => exact hg
  | some q => exact h q
theorem d_callR {x : qSt} {f : qOp} {o : Option (Nat × qMem)} {z : Nat × qMem → qSt} {F : Nat × qMem → Option γ} (hT : (MT y).1 x.1 = .inr f) (hf : f (qCall MT d) x = o.bind (fun q => some (z q))) (h : ∀ q, g (qK MT d y (z q)) = F q) (hg : g none = none := by rfl) : g (qK MT d y x) = o.bind F := by
  rw [qK_op hT, hf]
  cases o with
  | none => exact hg
  | some q => exact h q
theorem d_sw {x : qSt} {f : qOp} {o : Option qSt} {A : Option γ} (hT : (MT y).1 x.1 = .inr f) (hf : f (qCall MT d) x = o) (h : g (qO MT d y o) = A) : g (qK MT d y x) = A := by
  rw [qK_op hT, hf]
  exact h
theorem d_sw0 {v : Int32} {L : List (Option Value)} {st : List Value} {s : qMem} {t : Nat} {A : Option γ} (h : g (qK MT d y (t, L, st, s)) = A) : g (qO MT d y (qSel v L st s t [])) = A := h
theorem d_sw1 {v a : Int32} {b : Nat} {rows : List (Int32 × Nat)} {L : List (Option Value)} {st : List Value} {s : qMem} {t : Nat} {A B : Option γ} (h1 : g (qK MT d y (b, L, st, s)) = A) (h2 : g (qO MT d y (qSel v L st s t rows)) = B) : g (qO MT d y (qSel v L st s t ((a, b) :: rows))) = if v = a then A else B := by
  rw [qSel]
  by_cases h : v = a
  · rw [if_pos h, if_pos h, qO_some, h1]
  · rw [if_neg h, if_neg h, h2]
theorem d_lab {x x2 : qSt} {f : qOp} (hT : (MT y).1 x.1 = .inr f) (hT2 : (MT y).1 x2.1 = .inr f) (h : f (qCall MT d) x = f (qCall MT d) x2) : g (qK MT d y x) = g (qK MT d y x2) := by
  rw [qK_op hT, qK_op hT2, h]
theorem d_none {x : qSt} (hT : (MT y).1 x.1 = .inl 0) (hg : g none = none := by rfl) : g (qK MT d y x) = none := by
  unfold qK
  rw [qDen_eq, hT]
  exact hg
theorem d_if3 {x a b : qSt} {f : qOp} {c c2 : Prop} [hc : Decidable c] [hc2 : Decidable c2] {A B : Option γ} (hT : (MT y).1 x.1 = .inr f) (hf : f (qCall MT d) x = if c then some a else if c2 then some b else none) (h1 : g (qK MT d y a) = A) (h2 : g (qK MT d y b) = B) (hg : g none = none := by rfl) : g (qK MT d y x) = if c then A else if c2 then B else none := by
  rw [qK_op hT, hf]
  by_cases h : c
  · rw [if_pos h, if_pos h, qO_some, h1]
  · rw [if_neg h, if_neg h]
    by_cases h3 : c2
    · rw [if_pos h3, if_pos h3, qO_some, h2]
    · rw [if_neg h3, if_neg h3, qO_none, hg]
theorem d_mrg {x a b : qSt} {f : qOp} {c : Prop} [hc : Decidable c] {A : Option γ} {v1 v2 : Int32} {z : Int32 → qSt} (n1 n2 : Nat) (hT : (MT y).1 x.1 = .inr f) (hf : f (qCall MT d) x = if c then some a else some b) (ha : qSteps (qCall MT d) (MT y).1 n1 a = some (z v1)) (hb : qSteps (qCall MT d) (MT y).1 n2 b = some (z v2)) (h : g (qK MT d y (z (if c then v1 else v2))) = A) : g (qK MT d y x) = A := by
  rw [qK_op hT, hf, ← h]
  by_cases h : c
  · rw [if_pos h, if_pos h, qO_some, qK_steps n1 ha]
  · rw [if_neg h, if_neg h, qO_some, qK_steps n2 hb]
theorem d_no {x : qSt} {f : qOp} (hT : (MT y).1 x.1 = .inr f) (hf : f (qCall MT d) x = none) (hg : g none = none := by rfl) : g (qK MT d y x) = none := by
  rw [qK_op hT, hf]
  exact hg
end QDEC
