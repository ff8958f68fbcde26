/-! THE SMALL MACHINE: what a method does to its numbers, by itself: a memory of ints by object and place, a stack, locals; a table of steps for each method. It is tied to the machine of the Statement further on (q_met). -/
abbrev qMem : Type := (Nat → Nat → Int32) × Int64
abbrev qSt : Type := Nat × List (Option Value) × List Value × qMem
abbrev qHnd : Type := Nat → List Value → qMem → Option (Option Value × qMem)
abbrev qOp : Type := qHnd → qSt → Option qSt
abbrev qTab : Type := Nat → Nat ⊕ qOp
abbrev qMI : Type := qTab × Nat × Option FieldType × Nat
abbrev qSh : Type := Nat × Nat × List Nat
def qW (s : qMem) (o k : Nat) (v : Int32) : qMem := (fun a b => if a = o ∧ b = k then v else s.1 a b, s.2)
/-- a row written over a stretch (System.arraycopy) -/
def qCpy (s : qMem) (o o2 sp dp n : Nat) : qMem := (fun a b => if a = o2 then va_cpy (s.1 o) (s.1 o2) sp dp n b else s.1 a b, s.2)
def qRun (C : qHnd) (T : qTab) : Nat → qSt → Option qSt
  | 0, _ => none
  | n + 1, x => match T x.1 with
    | .inl 0 => none
    | .inl _ => some x
    | .inr f => (f C x).bind (qRun C T n)
theorem qRun_succ {C : qHnd} {T : qTab} : ∀ {n : Nat} {x t : qSt}, qRun C T n x = some t → qRun C T (n + 1) x = some t := by
  intro n
  induction n with
  | zero => intro x t h; cases h
  | succ n ih =>
    intro x t h
    rw [qRun] at h ⊢
    cases hT : T x.1 with
    | inl k =>
      rw [hT] at h
      cases k <;> exact h
    | inr f =>
      rw [hT] at h
      simp only at h ⊢
      cases hf : f C x with
      | none => rw [hf] at h; cases h
      | some y =>
        rw [hf] at h
        exact ih h
theorem qRun_le {C : qHnd} {T : qTab} {n m : Nat} {x t : qSt} (hnm : n ≤ m) (h : qRun C T n x = some t) : qRun C T m x = some t := by
  induction hnm with
  | refl => exact h
  | step _ ih => exact qRun_succ ih
noncomputable def qDen (C : qHnd) (T : qTab) (x : qSt) : Option qSt :=
  @dite _ (∃ n, (qRun C T n x).isSome = true) (Classical.propDecidable _) (fun h => qRun C T (Classical.choose h) x) (fun _ => none)
theorem qDen_of {C : qHnd} {T : qTab} {n : Nat} {x t : qSt} (h : qRun C T n x = some t) : qDen C T x = some t := by
  have hx : ∃ n, (qRun C T n x).isSome = true := ⟨n, by rw [h]; rfl⟩
  unfold qDen
  rw [dif_pos hx]
  have h2 := Classical.choose_spec hx
  obtain ⟨t2, ht2⟩ := Option.isSome_iff_exists.mp h2
  rw [ht2]
  rcases Nat.le_total n (Classical.choose hx) with q | q
  · rw [qRun_le q h] at ht2
    exact ht2.symm
  · rw [qRun_le q ht2] at h
    exact h
theorem qDen_run {C : qHnd} {T : qTab} {x t : qSt} (h : qDen C T x = some t) : ∃ n, qRun C T n x = some t := by
  unfold qDen at h
  by_cases hx : ∃ n, (qRun C T n x).isSome = true
  · rw [dif_pos hx] at h
    exact ⟨_, h⟩
  · rw [dif_neg hx] at h
    cases h
theorem qDen_eq (C : qHnd) (T : qTab) (x : qSt) : qDen C T x = match T x.1 with
    | .inl 0 => none
    | .inl _ => some x
    | .inr f => (f C x).bind (qDen C T) := by
  cases hd : qDen C T x with
  | some t =>
    obtain ⟨n, hn⟩ := qDen_run hd
    cases n with
    | zero => cases hn
    | succ n =>
      rw [qRun] at hn
      cases hT : T x.1 with
      | inl k =>
        rw [hT] at hn
        cases k <;> exact hn.symm
      | inr f =>
        rw [hT] at hn
        simp only at hn ⊢
        cases hf : f C x with
        | none => rw [hf] at hn; cases hn
        | some y =>
          rw [hf] at hn
          exact (qDen_of hn).symm
  | none =>
    have key : ∀ t, ¬ qDen C T x = some t := fun t h => by rw [hd] at h; cases h
    cases hT : T x.1 with
    | inl k =>
      cases k with
      | zero => rfl
      | succ k => exact absurd (qDen_of (n := 1) (by rw [qRun, hT]; rfl)) (key x)
    | inr f =>
      simp only
      cases hf : f C x with
      | none => rfl
      | some y =>
        simp only [Option.bind_some]
        cases hy : qDen C T y with
        | none => rfl
        | some t =>
          obtain ⟨n, hn⟩ := qDen_run hy
          exact absurd (qDen_of (n := n + 1) (by rw [qRun, hT]; simp only [hf, Option.bind_some]; exact hn)) (key t)
/-- locals out of arguments, by place -/
def qFl : List Value → List (Option Value)
  | [] => []
  | .long x :: l => some (.long x) :: none :: qFl l
  | v :: l => some v :: qFl l
def qPad : Nat → List (Option Value) → List (Option Value)
  | 0, _ => []
  | n + 1, [] => none :: qPad n []
  | n + 1, a :: l => a :: qPad n l
def qLk : List (Option Value) → Nat → Option Value
  | [], _ => none
  | a :: _, 0 => a
  | _ :: l, n + 1 => qLk l n
def qPut : List (Option Value) → Nat → Value → List (Option Value)
  | [], _, _ => []
  | _ :: l, 0, v => some v :: l
  | a :: l, n + 1, v => a :: qPut l n v
/-- what a method answers, off its last stack -/
def qRet (rt : Option FieldType) (st : List Value) : Option (Option Value) :=
  match rt with
  | none => match st with
    | [] => some none
    | _ => none
  | some .int => match st with
    | [.int v] => some (some (.int v))
    | _ => none
  | some .boolean => match st with
    | [.int v] => if v = 0 ∨ v = 1 then some (some (.int v)) else none
    | _ => none
  | some .char => match st with
    | [.int v] => if 0 ≤ v.toInt ∧ v.toInt < 65536 then some (some (.int v)) else none
    | _ => none
  | some .byte => match st with
    | [.int v] => if v = 0 then some (some (.int v)) else none
    | _ => none
  | some (.object _) => match st with
    | [.ref k] => some (some (.ref k))
    | _ => none
  | _ => none
/-- arguments are ints and things, a long at the place wp alone -/
def qAok (wp : Nat) : Nat → List Value → Bool
  | _, [] => true
  | i, .long _ :: l => Nat.beq i wp && qAok wp (i + 2) l
  | i, .int _ :: l => qAok wp (i + 1) l
  | i, .ref _ :: l => qAok wp (i + 1) l
  | _, _ => false
noncomputable def qCall (MT : Nat → qMI) : Nat → qHnd
  | 0 => fun _ _ _ => none
  | d + 1 => fun y vs s => bif qAok (MT y).2.2.2 0 vs && Nat.ble (qFl vs).length (MT y).2.1 then (qDen (qCall MT d) (MT y).1 (0, qPad (MT y).2.1 (qFl vs), [], s)).bind (fun t => (qRet (MT y).2.2.1 t.2.2.1).map (fun r => (r, t.2.2.2))) else none
/-- going on in method y from a state: what it answers in the end -/
noncomputable def qK (MT : Nat → qMI) (d : Nat) (y : Nat) (x : qSt) : Option (Option Value × qMem) := (qDen (qCall MT d) (MT y).1 x).bind (fun t => (qRet (MT y).2.2.1 t.2.2.1).map (fun r => (r, t.2.2.2)))
noncomputable def qO (MT : Nat → qMI) (d : Nat) (y : Nat) (o : Option qSt) : Option (Option Value × qMem) := o.bind (qK MT d y)
def qI (o : Option (Option Value × qMem)) : Option (Int32 × qMem) := o.bind (fun q => match q.1 with
  | some (.int r) => some (r, q.2)
  | _ => none)
def qV (o : Option (Option Value × qMem)) : Option qMem := o.bind (fun q => match q.1 with
  | none => some q.2
  | _ => none)
def qR (o : Option (Option Value × qMem)) : Option (Nat × qMem) := o.bind (fun q => match q.1 with
  | some (.ref r) => some (r, q.2)
  | _ => none)
theorem qCall_K (MT : Nat → qMI) (d y : Nat) (vs : List Value) (s : qMem) (h : (qAok (MT y).2.2.2 0 vs && Nat.ble (qFl vs).length (MT y).2.1) = true) : qCall MT (d + 1) y vs s = qK MT d y (0, qPad (MT y).2.1 (qFl vs), [], s) := by
  rw [qCall]
  simp only [h, cond_true]
  rfl
theorem qK_op {MT : Nat → qMI} {d y : Nat} {x : qSt} {f : qOp} (h : (MT y).1 x.1 = .inr f) : qK MT d y x = qO MT d y (f (qCall MT d) x) := by
  unfold qK qO
  rw [qDen_eq, h]
  simp only
  cases f (qCall MT d) x with
  | none => rfl
  | some t => rfl
theorem qK_ret {MT : Nat → qMI} {d y k : Nat} {x : qSt} (h : (MT y).1 x.1 = .inl (k + 1)) : qK MT d y x = (qRet (MT y).2.2.1 x.2.2.1).map (fun r => (r, x.2.2.2)) := by
  unfold qK
  rw [qDen_eq, h]
  rfl
theorem qO_some {MT : Nat → qMI} {d y : Nat} {x : qSt} : qO MT d y (some x) = qK MT d y x := rfl
theorem qO_none {MT : Nat → qMI} {d y : Nat} : qO MT d y none = none := rfl
theorem qO_ite {MT : Nat → qMI} {d y : Nat} {c : Prop} [hc : Decidable c] {a b : Option qSt} : qO MT d y (if c then a else b) = if c then qO MT d y a else qO MT d y b := by
  by_cases h : c
  · rw [if_pos h, if_pos h]
  · rw [if_neg h, if_neg h]
theorem qO_bind {α : Type} {MT : Nat → qMI} {d y : Nat} {o : Option α} {g : α → Option qSt} : qO MT d y (o.bind g) = o.bind (fun a => qO MT d y (g a)) := by
  cases o <;> rfl
/-- straight on: k steps, no branch -/
def qSteps (C : qHnd) (T : qTab) : Nat → qSt → Option qSt
  | 0, x => some x
  | n + 1, x => match T x.1 with
    | .inl _ => none
    | .inr f => match f C x with
      | none => none
      | some t => qSteps C T n t
theorem qK_steps {MT : Nat → qMI} {d y : Nat} : ∀ (n : Nat) {x t : qSt}, qSteps (qCall MT d) (MT y).1 n x = some t → qK MT d y x = qK MT d y t := by
  intro n
  induction n with
  | zero => intro x t h; cases h; rfl
  | succ n ih =>
    intro x t h
    rw [qSteps] at h
    cases hT : (MT y).1 x.1 with
    | inl k => rw [hT] at h; cases h
    | inr f =>
      rw [hT] at h
      simp only at h
      rw [qK_op hT]
      cases hf : f (qCall MT d) x with
      | none => rw [hf] at h; cases h
      | some z =>
        rw [hf] at h
        exact ih h
theorem q_ite {α : Type} {c : Prop} [Decidable c] {a a' b b' : α} (h1 : a = a') (h2 : b = b') : (if c then a else b) = (if c then a' else b') := by rw [h1, h2]
theorem q_bind {α β : Type} {o : Option α} {f g : α → Option β} (h : ∀ a, f a = g a) : o.bind f = o.bind g := by rw [funext h]
/-! the steps -/
def qIconst (n : Nat) (v : Int32) : qOp := fun _ x => match x with
  | (pc, L, st, s) => some (pc + n, L, .int v :: st, s)
def qLconst (n : Nat) (v : Int64) : qOp := fun _ x => match x with
  | (pc, L, st, s) => some (pc + n, L, .long v :: st, s)
def qIload (n i : Nat) : qOp := fun _ x => match x with
  | (pc, L, st, s) => match qLk L i with
    | some (.int v) => some (pc + n, L, .int v :: st, s)
    | _ => none
def qLload (n i : Nat) : qOp := fun _ x => match x with
  | (pc, L, st, s) => match qLk L i with
    | some (.long v) => some (pc + n, L, .long v :: st, s)
    | _ => none
def qAload (n i : Nat) : qOp := fun _ x => match x with
  | (pc, L, st, s) => match qLk L i with
    | some (.ref v) => bif Nat.blt v 150 then some (pc + n, L, .ref v :: st, s) else none
    | _ => none
def qIstore (n i : Nat) : qOp := fun _ x => match x with
  | (pc, L, .int v :: st, s) => some (pc + n, qPut L i (.int v), st, s)
  | _ => none
def qAstore (n i : Nat) : qOp := fun _ x => match x with
  | (pc, L, .ref v :: st, s) => bif Nat.blt v 150 then some (pc + n, qPut L i (.ref v), st, s) else none
  | _ => none
def qIinc (i : Nat) (c : Int32) : qOp := fun _ x => match x with
  | (pc, L, st, s) => match qLk L i with
    | some (.int v) => some (pc + 3, qPut L i (.int (v + c)), st, s)
    | _ => none
def qBin (f : Int32 → Int32 → Int32) : qOp := fun _ x => match x with
  | (pc, L, .int b :: .int a :: st, s) => some (pc + 1, L, .int (f a b) :: st, s)
  | _ => none
def qUn (f : Int32 → Int32) : qOp := fun _ x => match x with
  | (pc, L, .int a :: st, s) => some (pc + 1, L, .int (f a) :: st, s)
  | _ => none
def qDiv (f : Int32 → Int32 → Int32) : qOp := fun _ x => match x with
  | (pc, L, .int b :: .int a :: st, s) => if b = 0 then none else some (pc + 1, L, .int (f a b) :: st, s)
  | _ => none
def qLBin (f : Int64 → Int64 → Int64) : qOp := fun _ x => match x with
  | (pc, L, .long b :: .long a :: st, s) => some (pc + 1, L, .long (f a b) :: st, s)
  | _ => none
def qLSh (f : Int64 → Int32 → Int64) : qOp := fun _ x => match x with
  | (pc, L, .int b :: .long a :: st, s) => some (pc + 1, L, .long (f a b) :: st, s)
  | _ => none
def qI2l : qOp := fun _ x => match x with
  | (pc, L, .int a :: st, s) => some (pc + 1, L, .long a.toInt64 :: st, s)
  | _ => none
def qL2i : qOp := fun _ x => match x with
  | (pc, L, .long a :: st, s) => some (pc + 1, L, .int a.toInt32 :: st, s)
  | _ => none
def qLcmp : qOp := fun _ x => match x with
  | (pc, L, .long b :: .long a :: st, s) => some (pc + 1, L, .int (lg_cmp a b) :: st, s)
  | _ => none
def qDup : qOp := fun _ x => match x with
  | (pc, L, .int a :: st, s) => some (pc + 1, L, .int a :: .int a :: st, s)
  | (pc, L, .ref a :: st, s) => bif Nat.blt a 150 then some (pc + 1, L, .ref a :: .ref a :: st, s) else none
  | _ => none
def qDup2 : qOp := fun _ x => match x with
  | (pc, L, .int a :: .ref b :: st, s) => bif Nat.blt b 150 then some (pc + 1, L, .int a :: .ref b :: .int a :: .ref b :: st, s) else none
  | _ => none
def qPop : qOp := fun _ x => match x with
  | (pc, L, .int _ :: st, s) => some (pc + 1, L, st, s)
  | _ => none
def qGoto (t : Nat) : qOp := fun _ x => match x with
  | (_, L, st, s) => some (t, L, st, s)
def qIf (c : Int32 → Prop) (hc : ∀ a, Decidable (c a)) (t : Nat) : qOp := fun _ x => match x with
  | (pc, L, .int a :: st, s) => @ite _ (c a) (hc a) (some (t, L, st, s)) (some (pc + 3, L, st, s))
  | _ => none
def qIfeq (t : Nat) : qOp := fun _ x => match x with
  | (pc, L, .int a :: st, s) => if a = 0 then some (t, L, st, s) else some (pc + 3, L, st, s)
  | _ => none
def qIfne (t : Nat) : qOp := fun _ x => match x with
  | (pc, L, .int a :: st, s) => if a = 0 then some (pc + 3, L, st, s) else some (t, L, st, s)
  | _ => none
def qIflt (t : Nat) : qOp := fun _ x => match x with
  | (pc, L, .int a :: st, s) => if a < 0 then some (t, L, st, s) else some (pc + 3, L, st, s)
  | _ => none
def qIfge (t : Nat) : qOp := fun _ x => match x with
  | (pc, L, .int a :: st, s) => if 0 ≤ a then some (t, L, st, s) else some (pc + 3, L, st, s)
  | _ => none
def qIfgt (t : Nat) : qOp := fun _ x => match x with
  | (pc, L, .int a :: st, s) => if 0 < a then some (t, L, st, s) else some (pc + 3, L, st, s)
  | _ => none
def qIfle (t : Nat) : qOp := fun _ x => match x with
  | (pc, L, .int a :: st, s) => if a ≤ 0 then some (t, L, st, s) else some (pc + 3, L, st, s)
  | _ => none
def qCeq (t : Nat) : qOp := fun _ x => match x with
  | (pc, L, .int b :: .int a :: st, s) => if a = b then some (t, L, st, s) else some (pc + 3, L, st, s)
  | _ => none
def qCne (t : Nat) : qOp := fun _ x => match x with
  | (pc, L, .int b :: .int a :: st, s) => if a = b then some (pc + 3, L, st, s) else some (t, L, st, s)
  | _ => none
def qClt (t : Nat) : qOp := fun _ x => match x with
  | (pc, L, .int b :: .int a :: st, s) => if a < b then some (t, L, st, s) else some (pc + 3, L, st, s)
  | _ => none
def qCge (t : Nat) : qOp := fun _ x => match x with
  | (pc, L, .int b :: .int a :: st, s) => if b ≤ a then some (t, L, st, s) else some (pc + 3, L, st, s)
  | _ => none
def qCgt (t : Nat) : qOp := fun _ x => match x with
  | (pc, L, .int b :: .int a :: st, s) => if b < a then some (t, L, st, s) else some (pc + 3, L, st, s)
  | _ => none
def qCle (t : Nat) : qOp := fun _ x => match x with
  | (pc, L, .int b :: .int a :: st, s) => if a ≤ b then some (t, L, st, s) else some (pc + 3, L, st, s)
  | _ => none
def qIfnull : qOp := fun _ x => match x with
  | (pc, L, .ref a :: st, s) => bif Nat.blt a 150 then some (pc + 3, L, st, s) else none
  | _ => none
def qIfnonnull (t : Nat) : qOp := fun _ x => match x with
  | (_, L, .ref a :: st, s) => bif Nat.blt a 150 then some (t, L, st, s) else none
  | _ => none
/-- a switch: rows of (value, place), and where else -/
def qSel (v : Int32) (L : List (Option Value)) (st : List Value) (s : qMem) (d : Nat) : List (Int32 × Nat) → Option qSt
  | [] => some (d, L, st, s)
  | q :: l => if v = q.1 then some (q.2, L, st, s) else qSel v L st s d l
def qSwitch (rows : List (Int32 × Nat)) (d : Nat) : qOp := fun _ x => match x with
  | (_, L, .int v :: st, s) => qSel v L st s d rows
  | _ => none
/-- locals that nobody asks any more are forgotten -/
def qDrop : List Bool → List (Option Value) → List (Option Value)
  | _, [] => []
  | [], L => L
  | b :: m, a :: L => (bif b then a else none) :: qDrop m L
def qMask (m : List Bool) (f : qOp) : qOp := fun C x => match x with
  | (pc, L, st, s) => f C (pc, qDrop m L, st, s)
/-! memory steps; Z is the layout: the kind of each thing by its number (0 a row of ints, 1 of booleans, 2 of Journeys, 3 an object with its kind and fields, 4 a fixed row of ints, 5 the bytes of a text, 6 a text, 7 the script) -/
def qNth : List Nat → Nat → Nat
  | [], _ => 0
  | a :: _, 0 => a
  | _ :: l, n + 1 => qNth l n
def qNthI : List Int32 → Nat → Int32
  | [], _ => 0
  | a :: _, 0 => a
  | _ :: l, n + 1 => qNthI l n
/-- a field of an object of kind c: 1 an int, 2 a boolean, 3 the long, 4 + r the thing r; 0 none such -/
def qFld (Z : Nat → qSh) (o c k : Nat) : Nat := match Z o with
  | (3, c2, fs) => bif Nat.beq c2 c then qNth fs k else 0
  | _ => 0
def qGetI (Z : Nat → qSh) (c k : Nat) : qOp := fun _ x => match x with
  | (pc, L, .ref o :: st, s) => match qFld Z o c k with
    | 1 => some (pc + 3, L, .int (s.1 o k) :: st, s)
    | 2 => some (pc + 3, L, .int (s.1 o k) :: st, s)
    | _ => none
  | _ => none
def qGetL (Z : Nat → qSh) (c k : Nat) : qOp := fun _ x => match x with
  | (pc, L, .ref o :: st, s) => match qFld Z o c k with
    | 3 => some (pc + 3, L, .long s.2 :: st, s)
    | _ => none
  | _ => none
def qGetR (Z : Nat → qSh) (c k : Nat) : qOp := fun _ x => match x with
  | (pc, L, .ref o :: st, s) => match qFld Z o c k with
    | r + 4 => bif Nat.blt r 150 then some (pc + 3, L, .ref r :: st, s) else none
    | _ => none
  | _ => none
def qPutI (Z : Nat → qSh) (c k : Nat) : qOp := fun _ x => match x with
  | (pc, L, .int v :: .ref o :: st, s) => match qFld Z o c k with
    | 1 => some (pc + 3, L, st, qW s o k v)
    | _ => none
  | _ => none
def qPutZ (Z : Nat → qSh) (c k : Nat) : qOp := fun _ x => match x with
  | (pc, L, .int v :: .ref o :: st, s) => match qFld Z o c k with
    | 2 => if v = 0 ∨ v = 1 then some (pc + 3, L, st, qW s o k v) else none
    | _ => none
  | _ => none
def qPutL (Z : Nat → qSh) (c k : Nat) : qOp := fun _ x => match x with
  | (pc, L, .long v :: .ref o :: st, s) => match qFld Z o c k with
    | 3 => some (pc + 3, L, st, (s.1, v))
    | _ => none
  | _ => none
/-- a text's bytes, its mark (0) -/
def qGetTV (Z : Nat → qSh) : qOp := fun _ x => match x with
  | (pc, L, .ref o :: st, s) => match Z o with
    | (6, b, _) => some (pc + 3, L, .ref b :: st, s)
    | _ => none
  | _ => none
def qGetTC (Z : Nat → qSh) : qOp := fun _ x => match x with
  | (pc, L, .ref o :: st, s) => match Z o with
    | (6, _, _) => some (pc + 3, L, .int 0 :: st, s)
    | _ => none
  | _ => none
def qStat (n o : Nat) : qOp := fun _ x => match x with
  | (pc, L, st, s) => some (pc + n, L, .ref o :: st, s)
abbrev qIn (i : Int32) (n : Nat) : Prop := 0 ≤ i.toInt ∧ i.toInt < (n : Int)
def qKon (fs : List Nat) (i : Nat) : Int32 := Int32.ofInt ((qNth fs i : Int) - 128)
def qIald (Z : Nat → qSh) : qOp := fun _ x => match x with
  | (pc, L, .int i :: .ref o :: st, s) => match Z o with
    | (0, n, _) => if qIn i n then some (pc + 1, L, .int (s.1 o i.toNatClampNeg) :: st, s) else none
    | (4, n, fs) => if qIn i n then some (pc + 1, L, .int (qKon fs i.toNatClampNeg) :: st, s) else none
    | (7, _, _) => if 0 ≤ i.toInt ∧ i.toInt < (s.1 71 0).toInt then some (pc + 1, L, .int (s.1 o i.toNatClampNeg) :: st, s) else none
    | _ => none
  | _ => none
def qBald (Z : Nat → qSh) : qOp := fun _ x => match x with
  | (pc, L, .int i :: .ref o :: st, s) => match Z o with
    | (1, n, _) => if qIn i n then some (pc + 1, L, .int (s.1 o i.toNatClampNeg) :: st, s) else none
    | (5, n, fs) => if qIn i n then some (pc + 1, L, .int (qKon fs i.toNatClampNeg) :: st, s) else none
    | _ => none
  | _ => none
def qIast (Z : Nat → qSh) : qOp := fun _ x => match x with
  | (pc, L, .int v :: .int i :: .ref o :: st, s) => match Z o with
    | (0, n, _) => if qIn i n then some (pc + 1, L, st, qW s o i.toNatClampNeg v) else none
    | _ => none
  | _ => none
def qBast (Z : Nat → qSh) : qOp := fun _ x => match x with
  | (pc, L, .int v :: .int i :: .ref o :: st, s) => match Z o with
    | (1, n, _) => if qIn i n ∧ (v = 0 ∨ v = 1) then some (pc + 1, L, st, qW s o i.toNatClampNeg v) else none
    | _ => none
  | _ => none
/-- of the row of Journeys: only by fixed places 0 and 1 -/
def qAald (Z : Nat → qSh) : qOp := fun _ x => match x with
  | (pc, L, .int i :: .ref o :: st, s) => match Z o with
    | (2, 2, [a, b]) => bif Nat.blt a 150 && Nat.blt b 150 then (if i = 0 then some (pc + 1, L, .ref a :: st, s) else if i = 1 then some (pc + 1, L, .ref b :: st, s) else none) else none
    | _ => none
  | _ => none
def qAlen (Z : Nat → qSh) : qOp := fun _ x => match x with
  | (pc, L, .ref o :: st, s) => match Z o with
    | (0, n, _) => some (pc + 1, L, .int (Int32.ofNat n) :: st, s)
    | (4, n, _) => some (pc + 1, L, .int (Int32.ofNat n) :: st, s)
    | (5, n, _) => some (pc + 1, L, .int (Int32.ofNat n) :: st, s)
    | (7, _, _) => some (pc + 1, L, .int (s.1 71 0) :: st, s)
    | _ => none
  | _ => none
def qWid : List Value → Nat
  | [] => 0
  | v :: l => v.category + qWid l
/-- System.arraycopy between rows of ints -/
def qCopy (Z : Nat → qSh) : qOp := fun _ x => match x with
  | (pc, L, .int n :: .int dp :: .ref o2 :: .int sp :: .ref o :: st, s) => match Z o, Z o2 with
    | (0, n0, _), (0, n1, _) => if (0 ≤ sp.toInt ∧ 0 ≤ dp.toInt ∧ 0 ≤ n.toInt) ∧ sp.toInt + n.toInt ≤ (n0 : Int) ∧ dp.toInt + n.toInt ≤ (n1 : Int) then (bif Nat.ble (qWid st) 8 then some (pc + 3, L, st, qCpy s o o2 sp.toNatClampNeg dp.toNatClampNeg n.toNatClampNeg) else none) else none
    | _, _ => none
  | _ => none
/-- what an object is that is called: of kind c, or (c = 99) a text, or (c = 100) nothing to be called -/
def qRcv (Z : Nat → qSh) (c : Nat) (vs : List Value) : Bool := bif Nat.beq c 100 then true else match vs with
  | .ref o :: _ => match Z o with
    | (3, c2, _) => Nat.beq c2 c
    | (6, _, _) => Nat.beq c 99
    | _ => false
  | _ => false
/-- Math.abs -/
def qAbs : qOp := fun _ x => match x with
  | (pc, L, .int a :: st, s) => bif Nat.ble (qWid st) 8 then some (pc + 3, L, .int (if 0 ≤ a then a else 0 - a) :: st, s) else none
  | _ => none
/-- a call of method y with n arguments (the receiver among them) -/
def qInvI (Z : Nat → qSh) (y c n : Nat) : qOp := fun C x => match x with
  | (pc, L, st, s) => bif qRcv Z c (st.take n).reverse && (Nat.beq (st.take n).length n && Nat.ble (qWid (st.drop n)) 8) then (qI (C y (st.take n).reverse s)).bind (fun q => some (pc + 3, L, .int q.1 :: st.drop n, q.2)) else none
def qInvV (Z : Nat → qSh) (y c n : Nat) : qOp := fun C x => match x with
  | (pc, L, st, s) => bif qRcv Z c (st.take n).reverse && (Nat.beq (st.take n).length n && Nat.ble (qWid (st.drop n)) 8) then (qV (C y (st.take n).reverse s)).bind (fun q => some (pc + 3, L, st.drop n, q)) else none
def qInvR (Z : Nat → qSh) (y c n : Nat) : qOp := fun C x => match x with
  | (pc, L, st, s) => bif qRcv Z c (st.take n).reverse && (Nat.beq (st.take n).length n && Nat.ble (qWid (st.drop n)) 8) then (qR (C y (st.take n).reverse s)).bind (fun q => some (pc + 3, L, .ref q.1 :: st.drop n, q.2)) else none
/-! tables as trees -/
def qNo : qTab := fun _ => .inl 0
def qLf (p : Nat) (f : Nat ⊕ qOp) : qTab := fun pc => bif Nat.beq pc p then f else .inl 0
def qNd (k : Nat) (a b : qTab) : qTab := fun pc => bif Nat.ble k pc then b pc else a pc
