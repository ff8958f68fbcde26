/-! THE SMALL MACHINE IS SOUND: what it answers, the machine of the Statement does -/
abbrev qEnv : Type := Nat × (Nat → Nat) × va_G × (FieldType → ClassId) × Value × Nat × (Nat → Int32)
def qBase (E : qEnv) : Nat := E.1
def qAd (E : qEnv) : Nat → Nat := E.2.1
def qDD (E : qEnv) : va_G := E.2.2.1
def qCA (E : qEnv) : FieldType → ClassId := E.2.2.2.1
def qFm (E : qEnv) : Value := E.2.2.2.2.1
def qLn (E : qEnv) : Nat := E.2.2.2.2.2.1
def qXs (E : qEnv) : Nat → Int32 := E.2.2.2.2.2.2
def qA (E : qEnv) : Nat → Prop := fun q => qBase E ≤ q
def qX (E : qEnv) (v : Value) : Value := match v with
  | .ref k => bif Nat.blt k 150 then .ref (qAd E k) else qFm E
  | v => v
def qJT : FieldType := .object "GiantStair$Journey"
def qTy (E : qEnv) : List (ClassId × FieldType) := [(qCA E .int, .int), (qCA E .boolean, .boolean), (qCA E qJT, qJT)]
def qFv (E : qEnv) (g : Nat → Int32) (t : Int64) (k f : Nat) : Value := match f with
  | 0 => .null
  | 1 => .int (g k)
  | 2 => .int (g k)
  | 3 => .long t
  | r + 4 => .ref (qAd E r)
def qFs (E : qEnv) (g : Nat → Int32) (t : Int64) : Nat → List Nat → List Value
  | _, [] => []
  | k, f :: l => qFv E g t k f :: qFs E g t (k + 1) l
def qMk (E : qEnv) (g : Nat → Int32) (t : Int64) (sh : qSh) : va_E := match sh with
  | (0, n, _) => .inl (qCA E .int, n, .inl g)
  | (1, n, _) => .inl (qCA E .boolean, n, .inl g)
  | (2, n, fs) => .inl (qCA E qJT, n, .inr (.inr (.inr (.inr (fun i => if i < fs.length then some (qAd E (qNth fs i)) else none)))))
  | (_, c, fs) => .inr (c, qFs E g t 0 fs)
def qWld (Z : Nat → qSh) (N : Nat) (E : qEnv) (s : qMem) : va_W := (List.range N).map (fun o => (qAd E o, qMk E (s.1 o) s.2 (Z o)))
def qOkE (Z : Nat → qSh) (N : Nat) (E : qEnv) : Prop := (∀ i j, i < N → j < N → qAd E i = qAd E j → i = j) ∧ (∀ i, i < N → qBase E ≤ qAd E i) ∧ ((qFm E).category = 1 ∧ (qFm E = .null ∨ ∃ a, qFm E = .ref a)) ∧ (∀ o, (Z o).1 < 4 → o < N) ∧ N ≤ 60
def qSc (E : qEnv) (s : qMem) : Prop := (∀ j, j < qLn E → s.1 70 j = qXs E j) ∧ s.1 71 0 = nI (qLn E)
theorem qX_cat {E : qEnv} (h : (qFm E).category = 1) (v : Value) : (qX E v).category = v.category := by
  cases v <;> try rfl
  rename_i k
  show (bif Nat.blt k 150 then Value.ref (qAd E k) else qFm E).category = 1
  cases Nat.blt k 150
  · exact h
  · rfl
theorem qX_wid {E : qEnv} (h : (qFm E).category = 1) (st : List Value) : ((st.map (qX E)).map (fun v => v.category)).sum = qWid st := by
  induction st with
  | nil => rfl
  | cons v st ih =>
    rw [List.map_cons, List.map_cons, List.sum_cons, qX_cat h, ih]
    rfl
theorem qX_ref {E : qEnv} {k : Nat} (h : Nat.blt k 150 = true) : qX E (.ref k) = .ref (qAd E k) := by
  show (bif Nat.blt k 150 then Value.ref (qAd E k) else qFm E) = Value.ref (qAd E k)
  rw [h]
  rfl
theorem qWld_at {Z : Nat → qSh} {N : Nat} {E : qEnv} {s : qMem} {o : Nat} (h : o < N) : (qWld Z N E s)[o]? = some (qAd E o, qMk E (s.1 o) s.2 (Z o)) := by
  unfold qWld
  rw [List.getElem?_map, List.getElem?_range h]
  rfl
theorem qWld_len {Z : Nat → qSh} {N : Nat} {E : qEnv} {s : qMem} : (qWld Z N E s).length = N := by
  unfold qWld
  rw [List.length_map, List.length_range]
theorem qWld_get {Z : Nat → qSh} {N : Nat} {E : qEnv} {s : qMem} {k : Nat} {q : Nat × va_E} (h : (qWld Z N E s)[k]? = some q) : k < N ∧ q = (qAd E k, qMk E (s.1 k) s.2 (Z k)) := by
  have hk : k < N := by
    have := (List.getElem?_eq_some_iff.mp h).1
    rwa [qWld_len] at this
  rw [qWld_at hk] at h
  exact ⟨hk, (Option.some.inj h).symm⟩
theorem qWld_D {Z : Nat → qSh} {N : Nat} {E : qEnv} {s : qMem} (h : qOkE Z N E) : va_D (qA E) (qWld Z N E s) := by
  refine ⟨fun i j p q hi hj e => ?_, fun k q hk => ?_⟩
  · obtain ⟨a1, rfl⟩ := qWld_get hi
    obtain ⟨a2, rfl⟩ := qWld_get hj
    exact h.1 i j a1 a2 e
  · obtain ⟨a1, rfl⟩ := qWld_get hk
    exact h.2.1 k a1
theorem qWld_upd {Z : Nat → qSh} {N : Nat} {E : qEnv} {s s2 : qMem} {o : Nat} {e : va_E} (ho : o < N) (h1 : ∀ k, k < N → k ≠ o → qMk E (s2.1 k) s2.2 (Z k) = qMk E (s.1 k) s.2 (Z k)) (h2 : qMk E (s2.1 o) s2.2 (Z o) = e) : (qWld Z N E s).set o (qAd E o, e) = qWld Z N E s2 := by
  apply List.ext_getElem?
  intro k
  by_cases hk : k < N
  · rw [qWld_at hk]
    by_cases e1 : k = o
    · subst e1
      rw [List.getElem?_set_self (by rw [qWld_len]; exact hk), h2]
    · rw [List.getElem?_set_ne (fun z => e1 z.symm), qWld_at hk, h1 k hk e1]
  · rw [List.getElem?_eq_none (by rw [List.length_set, qWld_len]; omega), List.getElem?_eq_none (by rw [qWld_len]; omega)]
theorem qW_other {s : qMem} {o k a : Nat} {v : Int32} (h : a ≠ o) : (qW s o k v).1 a = s.1 a := by
  funext b
  show (if a = o ∧ b = k then v else s.1 a b) = s.1 a b
  rw [if_neg (fun z => h z.1)]
theorem qW_row {s : qMem} {o k : Nat} {v : Int32} : (qW s o k v).1 o = upd (s.1 o) k v := by
  funext b
  show (if o = o ∧ b = k then v else s.1 o b) = upd (s.1 o) k v b
  by_cases hb : b = k
  · subst hb
    rw [if_pos ⟨rfl, rfl⟩]
    exact pk_us.symm
  · rw [if_neg (fun z => hb z.2)]
    exact (pk_un hb).symm
theorem qFs_get {E : qEnv} {g : Nat → Int32} {t : Int64} : ∀ (fs : List Nat) (j k : Nat), qNth fs k ≠ 0 → (qFs E g t j fs)[k]? = some (qFv E g t (j + k) (qNth fs k)) := by
  intro fs
  induction fs with
  | nil => intro j k h; exact absurd rfl h
  | cons f fs ih =>
    intro j k h
    cases k with
    | zero => rfl
    | succ k =>
      have := ih (j + 1) k h
      rw [show j + 1 + k = j + (k + 1) from by omega] at this
      exact this
theorem qFs_len {E : qEnv} {g : Nat → Int32} {t : Int64} : ∀ (fs : List Nat) (j k : Nat), qNth fs k ≠ 0 → k < (qFs E g t j fs).length := by
  intro fs j k h
  exact (List.getElem?_eq_some_iff.mp (qFs_get fs j k h)).1
theorem qFs_far {E : qEnv} {g : Nat → Int32} {t : Int64} {i : Nat} {v : Int32} : ∀ (fs : List Nat) (j : Nat), i < j → qFs E (upd g i v) t j fs = qFs E g t j fs := by
  intro fs
  induction fs with
  | nil => intro j _; rfl
  | cons f fs ih =>
    intro j h
    have e : qFv E (upd g i v) t j f = qFv E g t j f := by
      rcases f with _ | _ | _ | _ | f <;> try rfl
      · show Value.int (upd g i v j) = Value.int (g j)
        rw [pk_un (by omega)]
      · show Value.int (upd g i v j) = Value.int (g j)
        rw [pk_un (by omega)]
    rw [qFs, qFs, e, ih (j + 1) (by omega)]
theorem qFs_set {E : qEnv} {g : Nat → Int32} {t : Int64} {v : Int32} : ∀ (fs : List Nat) (j k : Nat), (qNth fs k = 1 ∨ qNth fs k = 2) → (qFs E g t j fs).set k (.int v) = qFs E (upd g (j + k) v) t j fs := by
  intro fs
  induction fs with
  | nil => intro j k h; rcases h with h | h <;> cases h
  | cons f fs ih =>
    intro j k h
    cases k with
    | zero =>
      rw [qFs, qFs, List.set_cons_zero, Nat.add_zero, qFs_far fs (j + 1) (by omega)]
      have h : f = 1 ∨ f = 2 := h
      rcases h with rfl | rfl
      · show Value.int v :: _ = Value.int (upd g j v j) :: _
        rw [pk_us]
      · show Value.int v :: _ = Value.int (upd g j v j) :: _
        rw [pk_us]
    | succ k =>
      have e : qFv E (upd g (j + (k + 1)) v) t j f = qFv E g t j f := by
        rcases f with _ | _ | _ | _ | f <;> try rfl
        · show Value.int (upd g (j + (k + 1)) v j) = Value.int (g j)
          rw [pk_un (by omega)]
        · show Value.int (upd g (j + (k + 1)) v j) = Value.int (g j)
          rw [pk_un (by omega)]
      rw [qFs, qFs, List.set_cons_succ, e, ih (j + 1) k h, show j + 1 + k = j + (k + 1) from by omega]
theorem qFs_setL {E : qEnv} {g : Nat → Int32} {t v : Int64} : ∀ (fs : List Nat) (j k : Nat), qNth fs k = 3 → (∀ i, qNth fs i = 3 → i = k) → (qFs E g t j fs).set k (.long v) = qFs E g v j fs := by
  intro fs
  induction fs with
  | nil => intro j k h; cases h
  | cons f fs ih =>
    intro j k h hu
    have far : ∀ (l : List Nat) (i : Nat), (∀ z, qNth l z ≠ 3) → qFs E g t i l = qFs E g v i l := by
      intro l
      induction l with
      | nil => intro i _; rfl
      | cons a l ih2 =>
        intro i hz
        have h0 : a ≠ 3 := hz 0
        have e : qFv E g t i a = qFv E g v i a := by
          rcases a with _ | _ | _ | _ | a <;> try rfl
          exact absurd rfl h0
        rw [qFs, qFs, e, ih2 (i + 1) (fun z => hz (z + 1))]
    cases k with
    | zero =>
      have h : f = 3 := h
      subst h
      rw [qFs, qFs, List.set_cons_zero, far fs (j + 1) (fun z hz => by have := hu (z + 1) hz; omega)]
      rfl
    | succ k =>
      have h0 : f ≠ 3 := fun z => by have := hu 0 z; omega
      have e : qFv E g t j f = qFv E g v j f := by
        rcases f with _ | _ | _ | _ | f <;> try rfl
        exact absurd rfl h0
      rw [qFs, qFs, List.set_cons_succ, e, ih (j + 1) k h (fun i hi => by have := hu (i + 1) hi; omega)]
def qLV (E : qEnv) (nL wp : Nat) (ls : Array Slot) (L : List (Option Value)) : Prop := ls.size = nL ∧ lv_wf ls ∧ L.length = nL ∧ (∀ (i : Nat) (v : Value), qLk L i = some v → ls[i]? = some (.val (qX E v))) ∧ ∀ (i : Nat) (v : Value), qLk L i = some v → v.category = 2 → i = wp
theorem qLk_put : ∀ {L : List (Option Value)} {i j : Nat} {v w : Value}, qLk (qPut L i v) j = some w → (j = i ∧ w = v) ∨ (j ≠ i ∧ qLk L j = some w) := by
  intro L
  induction L with
  | nil => intro i j v w h; cases h
  | cons a L ih =>
    intro i j v w h
    cases i with
    | zero =>
      cases j with
      | zero => exact Or.inl ⟨rfl, (Option.some.inj h).symm⟩
      | succ j => exact Or.inr ⟨by omega, h⟩
    | succ i =>
      cases j with
      | zero => exact Or.inr ⟨by omega, h⟩
      | succ j =>
        rcases ih (i := i) (j := j) h with ⟨h1, h2⟩ | ⟨h1, h2⟩
        · exact Or.inl ⟨by omega, h2⟩
        · exact Or.inr ⟨by omega, h2⟩
theorem qPut_len : ∀ {L : List (Option Value)} {i : Nat} {v : Value}, (qPut L i v).length = L.length := by
  intro L
  induction L with
  | nil => intro i v; rfl
  | cons a L ih =>
    intro i v
    cases i with
    | zero => rfl
    | succ i => show (qPut L i v).length + 1 = L.length + 1; rw [ih]
theorem qLk_drop : ∀ {m : List Bool} {L : List (Option Value)} {i : Nat} {v : Value}, qLk (qDrop m L) i = some v → qLk L i = some v := by
  intro m
  induction m with
  | nil => intro L i v h; cases L <;> exact h
  | cons b m ih =>
    intro L i v h
    cases L with
    | nil => exact h
    | cons a L =>
      cases i with
      | zero =>
        cases b with
        | true => exact h
        | false => cases h
      | succ i => exact ih (L := L) (i := i) h
theorem qDrop_len : ∀ {m : List Bool} {L : List (Option Value)}, (qDrop m L).length = L.length := by
  intro m
  induction m with
  | nil => intro L; cases L <;> rfl
  | cons b m ih =>
    intro L
    cases L with
    | nil => rfl
    | cons a L => show (qDrop m L).length + 1 = L.length + 1; rw [ih]
theorem qLV_drop {E : qEnv} {nL wp : Nat} {ls : Array Slot} {L : List (Option Value)} (m : List Bool) (h : qLV E nL wp ls L) : qLV E nL wp ls (qDrop m L) := ⟨h.1, h.2.1, qDrop_len.trans h.2.2.1, fun i v q => h.2.2.2.1 i v (qLk_drop q), fun i v q => h.2.2.2.2 i v (qLk_drop q)⟩
/-- the same locals as pairs -/
def qEc (E : qEnv) (L : List (Option Value)) : List (Nat × Value) := (List.range L.length).filterMap (fun i => (qLk L i).map (fun v => (i, qX E v)))
theorem qLk_lt : ∀ {L : List (Option Value)} {i : Nat} {v : Value}, qLk L i = some v → i < L.length := by
  intro L
  induction L with
  | nil => intro i v h; cases h
  | cons a L ih =>
    intro i v h
    cases i with
    | zero => exact Nat.zero_lt_succ _
    | succ i => exact Nat.succ_lt_succ (ih h)
theorem qEc_mem {E : qEnv} {L : List (Option Value)} {i : Nat} {v : Value} (h : qLk L i = some v) : (i, qX E v) ∈ qEc E L := by
  unfold qEc
  rw [List.mem_filterMap]
  exact ⟨i, List.mem_range.mpr (qLk_lt h), by rw [h]; rfl⟩
theorem qEc_of {E : qEnv} {L : List (Option Value)} {q : Nat × Value} (h : q ∈ qEc E L) : ∃ v, qLk L q.1 = some v ∧ q.2 = qX E v := by
  unfold qEc at h
  rw [List.mem_filterMap] at h
  obtain ⟨i, -, hi⟩ := h
  cases hq : qLk L i with
  | none => rw [hq] at hi; cases hi
  | some v =>
    rw [hq] at hi
    cases hi
    exact ⟨v, hq, rfl⟩
theorem qLV_has {E : qEnv} {nL wp : Nat} {ls : Array Slot} {L : List (Option Value)} (h : qLV E nL wp ls L) : lv_has ls nL (qEc E L) := by
  refine ⟨h.1, h.2.1, fun q hq => ?_⟩
  obtain ⟨v, h1, h2⟩ := qEc_of hq
  rw [h2]
  exact h.2.2.2.1 _ _ h1
theorem qLV_put {E : qEnv} {nL wp : Nat} {ls ls2 : Array Slot} {L : List (Option Value)} {i : Nat} {v : Value} (hm : (qFm E).category = 1) (h : qLV E nL wp ls L) (hv : v.category = 1) (hw : i ≠ wp + 1) (h2 : lv_has ls2 nL ((i, qX E v) :: (qEc E L).filter (fun q => !(q.1 == i) && !(q.1 + 1 == i && q.2.category == 2)))) : qLV E nL wp ls2 (qPut L i v) := by
  refine ⟨h2.1, h2.2.1, qPut_len.trans h.2.2.1, fun j w hj => ?_, fun j w hj hc => ?_⟩
  · rcases qLk_put hj with ⟨rfl, rfl⟩ | ⟨h3, h4⟩
    · exact h2.2.2 _ List.mem_cons_self
    · refine h2.2.2 (j, qX E w) (List.mem_cons_of_mem _ (List.mem_filter.mpr ⟨qEc_mem h4, ?_⟩))
      have e1 : (j == i) = false := by simp [h3]
      have e2 : (j + 1 == i && (qX E w).category == 2) = false := by
        rw [qX_cat hm]
        by_cases hc : w.category = 2
        · have := h.2.2.2.2 j w h4 hc
          have e3 : (j + 1 == i) = false := by
            simp
            omega
          rw [e3]
          rfl
        · have e3 : (w.category == 2) = false := by simp [hc]
          rw [e3, Bool.and_false]
      show (!(j == i) && !(j + 1 == i && (qX E w).category == 2)) = true
      rw [e1, e2]
      rfl
  · rcases qLk_put hj with ⟨rfl, rfl⟩ | ⟨h3, h4⟩
    · omega
    · exact h.2.2.2.2 j w h4 hc
def qFr (Z : Nat → qSh) (N : Nat) (ST : qEnv → State → Heap → Prop) (E : qEnv) (Ts : List Cond) (own : String) (cc : ByteArray) (nL d : Nat) (p : Program) (R : Room) (s : State) (m : MethodId) (args : Array Value) (c : Code) (cells slots : Nat) : Prop :=
  p.tables.exec = Jvm.exec ∧ c.code = cc ∧ c.maxLocals = nL ∧ (∀ w ∈ Ts, w.before args s = true) ∧ s.vm.findClass own = some m.cls ∧ va_K (qDD E) vwCl (qTy E) s ∧ qBase E ≤ s.heap.size ∧ ST E s s.heap ∧ qOkE Z N E ∧ (d + 1 ≤ R.frames ∧ 40 * (d + 1) ≤ R.locals) ∧ cells ≤ R.cells ∧ slots ≤ R.slots
def qWM (Z : Nat → qSh) (N : Nat) (E : qEnv) (nL wp : Nat) (p : Program) (l : Launch) (e : Env) (R : Room) (s : State) (m : MethodId) (args : Array Value) (below : List Frame) (meth : Method) (c : Code) (cells slots : Nat) (Q : State → Prop) (x : qSt) : Prop :=
  ∀ (H : Heap) (locs : List Loc) (ls : Array Slot), va_P (qDD E) vwCl (qWld Z N E x.2.2.2) H → va_S (qA E) s.heap H locs → qLV E nL wp ls x.2.1 → qSc E x.2.2.2 → W p l e R s m args below meth c H locs cells slots Q (F0 m x.1 ls (x.2.2.1.map (qX E)))
/-- the world as a method finds it -/
def qWorld (Z : Nat → qSh) (N : Nat) (ST : qEnv → State → Heap → Prop) (E : qEnv) (s : qMem) (U : State) : Prop := qBase E ≤ U.heap.size ∧ va_P (qDD E) vwCl (qWld Z N E s) U.heap ∧ va_K (qDD E) vwCl (qTy E) U ∧ ST E U U.heap ∧ qSc E s
def qQ (Z : Nat → qSh) (N : Nat) (E : qEnv) (r : Option Value) (s2 : qMem) : Array Value → State → Outcome → State → Prop := fun _ st oc t => (oc = .returned (r.map (qX E)) ∧ va_P (qDD E) vwCl (qWld Z N E s2) t.heap ∧ qSc E s2) ∧ va_F (qA E) st t
def qRm (d : Nat) : Room := { frames := d, cells := 0, slots := 0, locals := 40 * d }
/-- the methods: name, words -/
abbrev qNmT : Type := Nat → MethodName × List Cond
def qIH (MT : Nat → qMI) (NM : qNmT) (Z : Nat → qSh) (N : Nat) (ST : qEnv → State → Heap → Prop) (E : qEnv) (l : Launch) (d : Nat) : Prop :=
  ∀ (y : Nat) (vs : List Value) (s : qMem) (r : Option Value) (s2 : qMem), qCall MT d y vs s = some (r, s2) → Met l (NM y).1 (NM y).2 (qRm d) (va_Pc (vs.map (qX E)) (fun U => qWorld Z N ST E s U)) (qQ Z N E r s2) 0 0 (qA E)
def qSnd (MT : Nat → qMI) (NM : qNmT) (Z : Nat → qSh) (N : Nat) (ST : qEnv → State → Heap → Prop) (Ts : List Cond) (own : String) (cc : ByteArray) (nL wp pc : Nat) (f : qOp) : Prop :=
  ∀ (E : qEnv) (d : Nat) (p : Program) (l : Launch) (e : Env) (R : Room) (s : State) (m : MethodId) (args : Array Value) (below : List Frame) (meth : Method) (c : Code) (cells slots : Nat) (Q : State → Prop), qFr Z N ST E Ts own cc nL d p R s m args c cells slots → qIH MT NM Z N ST E l d →
    ∀ (L : List (Option Value)) (st : List Value) (t : qMem) (x : qSt), f (qCall MT d) (pc, L, st, t) = some x → qWM Z N E nL wp p l e R s m args below meth c cells slots Q x → qWM Z N E nL wp p l e R s m args below meth c cells slots Q (pc, L, st, t)
section QS
variable {MT : Nat → qMI} {NM : qNmT} {Z : Nat → qSh} {N : Nat} {ST : qEnv → State → Heap → Prop} {Ts : List Cond} {own : String} {cc : ByteArray} {nL wp pc : Nat}
theorem q_mask {m : List Bool} {f : qOp} (h : qSnd MT NM Z N ST Ts own cc nL wp pc f) : qSnd MT NM Z N ST Ts own cc nL wp pc (qMask m f) := by
  intro E d p l e R s me args below meth c cells slots Q F I L st t x hf hx H locs ls hP hS hL hc
  exact h E d p l e R s me args below meth c cells slots Q F I (qDrop m L) st t x hf hx H locs ls hP hS (qLV_drop m hL) hc
theorem q_iconst {k : Int} {v : Int32} (hdg : decode cc pc = .ok (.iconst k, 1)) (hv : Int32.ofInt k = v) : qSnd MT NM Z N ST Ts own cc nL wp pc (qIconst 1 v) := by
  intro E d p l e R s me args below meth c cells slots Q F I L st t x hf hx H locs ls hP hS hL hc
  obtain ⟨hX, hb, hml, hts, hown, hK, hbs, hst, hE, hR, hC⟩ := F
  cases hf
  exact lv_iconst hX hb hdg hv (hx H locs ls hP hS hL hc)
theorem q_bipush {k : Int} {v : Int32} (hdg : decode cc pc = .ok (.bipush k, 2)) (hv : (Int8.ofInt k).toInt32 = v) : qSnd MT NM Z N ST Ts own cc nL wp pc (qIconst 2 v) := by
  intro E d p l e R s me args below meth c cells slots Q F I L st t x hf hx H locs ls hP hS hL hc
  obtain ⟨hX, hb, hml, hts, hown, hK, hbs, hst, hE, hR, hC⟩ := F
  cases hf
  exact lv_bipush hX hb hdg hv (hx H locs ls hP hS hL hc)
theorem q_sipush {k : Int} {v : Int32} (hdg : decode cc pc = .ok (.sipush k, 3)) (hv : (Int16.ofInt k).toInt32 = v) : qSnd MT NM Z N ST Ts own cc nL wp pc (qIconst 3 v) := by
  intro E d p l e R s me args below meth c cells slots Q F I L st t x hf hx H locs ls hP hS hL hc
  obtain ⟨hX, hb, hml, hts, hown, hK, hbs, hst, hE, hR, hC⟩ := F
  cases hf
  exact lv_sipush hX hb hdg hv (hx H locs ls hP hS hL hc)
theorem q_ldc {k : Nat} {v : Int32} (hdg : decode cc pc = .ok (.ldc k, 2)) (hw : Cond.constant own k v ∈ Ts) : qSnd MT NM Z N ST Ts own cc nL wp pc (qIconst 2 v) := by
  intro E d p l e R s me args below meth c cells slots Q F I L st t x hf hx H locs ls hP hS hL hc
  obtain ⟨hX, hb, hml, hts, hown, hK, hbs, hst, hE, hR, hC⟩ := F
  cases hf
  exact lv_ldc hX hb hown (hts _ hw) hdg (hx H locs ls hP hS hL hc)
theorem q_ldcw {k : Nat} {v : Int32} (hdg : decode cc pc = .ok (.ldc_w k, 3)) (hw : Cond.constant own k v ∈ Ts) : qSnd MT NM Z N ST Ts own cc nL wp pc (qIconst 3 v) := by
  intro E d p l e R s me args below meth c cells slots Q F I L st t x hf hx H locs ls hP hS hL hc
  obtain ⟨hX, hb, hml, hts, hown, hK, hbs, hst, hE, hR, hC⟩ := F
  cases hf
  exact lv_ldcw hX hb hown (hts _ hw) hdg (hx H locs ls hP hS hL hc)
theorem q_ldc2 {k : Nat} {v : Int64} (hdg : decode cc pc = .ok (.ldc2_w k, 3)) (hw : Cond.constantLong own k v ∈ Ts) : qSnd MT NM Z N ST Ts own cc nL wp pc (qLconst 3 v) := by
  intro E d p l e R s me args below meth c cells slots Q F I L st t x hf hx H locs ls hP hS hL hc
  obtain ⟨hX, hb, hml, hts, hown, hK, hbs, hst, hE, hR, hC⟩ := F
  cases hf
  exact lv_ldc2 hX hb hown (hts _ hw) hdg (hx H locs ls hP hS hL hc)
theorem q_lconst {k : Fin 2} {v : Int64} (hdg : decode cc pc = .ok (.lconst k, 1)) (hv : Int64.ofNat (k : Nat) = v) : qSnd MT NM Z N ST Ts own cc nL wp pc (qLconst 1 v) := by
  intro E d p l e R s me args below meth c cells slots Q F I L st t x hf hx H locs ls hP hS hL hc
  obtain ⟨hX, hb, hml, hts, hown, hK, hbs, hst, hE, hR, hC⟩ := F
  cases hf
  exact lv_lconst hX hb hdg hv (hx H locs ls hP hS hL hc)
theorem q_iload_n {k : Fin 4} {i : Nat} (hdg : decode cc pc = .ok (.iload_n k, 1)) (hi : (k : Nat) = i) : qSnd MT NM Z N ST Ts own cc nL wp pc (qIload 1 i) := by
  intro E d p l e R s me args below meth c cells slots Q F I L st t x hf hx H locs ls hP hS hL hc
  obtain ⟨hX, hb, hml, hts, hown, hK, hbs, hst, hE, hR, hC⟩ := F
  cases hq : qLk L i with
  | none => simp [qIload, hq] at hf
  | some v =>
    cases v <;> simp only [qIload, hq, reduceCtorEq, Option.some.injEq] at hf
    subst hf
    exact lv_iload_n hX hb hdg hi (hL.2.2.2.1 _ _ hq) (hx H locs ls hP hS hL hc)
theorem q_iload {i : Nat} (hdg : decode cc pc = .ok (.iload i, 2)) : qSnd MT NM Z N ST Ts own cc nL wp pc (qIload 2 i) := by
  intro E d p l e R s me args below meth c cells slots Q F I L st t x hf hx H locs ls hP hS hL hc
  obtain ⟨hX, hb, hml, hts, hown, hK, hbs, hst, hE, hR, hC⟩ := F
  cases hq : qLk L i with
  | none => simp [qIload, hq] at hf
  | some v =>
    cases v <;> simp only [qIload, hq, reduceCtorEq, Option.some.injEq] at hf
    subst hf
    exact lv_iload hX hb hdg (hL.2.2.2.1 _ _ hq) (hx H locs ls hP hS hL hc)
theorem q_lload_n {k : Fin 4} {i : Nat} (hdg : decode cc pc = .ok (.lload_n k, 1)) (hi : (k : Nat) = i) : qSnd MT NM Z N ST Ts own cc nL wp pc (qLload 1 i) := by
  intro E d p l e R s me args below meth c cells slots Q F I L st t x hf hx H locs ls hP hS hL hc
  obtain ⟨hX, hb, hml, hts, hown, hK, hbs, hst, hE, hR, hC⟩ := F
  cases hq : qLk L i with
  | none => simp [qLload, hq] at hf
  | some v =>
    cases v <;> simp only [qLload, hq, reduceCtorEq, Option.some.injEq] at hf
    subst hf
    exact lv_lload_n hX hb hdg hi (hL.2.2.2.1 _ _ hq) (hx H locs ls hP hS hL hc)
theorem q_aload_n {k : Fin 4} {i : Nat} (hdg : decode cc pc = .ok (.aload_n k, 1)) (hi : (k : Nat) = i) : qSnd MT NM Z N ST Ts own cc nL wp pc (qAload 1 i) := by
  intro E d p l e R s me args below meth c cells slots Q F I L st t x hf hx H locs ls hP hS hL hc
  obtain ⟨hX, hb, hml, hts, hown, hK, hbs, hst, hE, hR, hC⟩ := F
  cases hq : qLk L i with
  | none => simp [qAload, hq] at hf
  | some v =>
    cases v <;> simp only [qAload, hq, reduceCtorEq] at hf
    rename_i v
    cases hk : Nat.blt v 150 with
    | false => rw [hk] at hf; cases hf
    | true =>
      rw [hk] at hf
      cases hf
      have h1 := hL.2.2.2.1 _ _ hq
      rw [qX_ref hk] at h1
      have h2 := hx H locs ls hP hS hL hc
      simp only [List.map_cons, qX_ref hk] at h2
      exact lv_aload_n hX hb hdg hi (x := qAd E v) h1 h2
theorem q_aload {i : Nat} (hdg : decode cc pc = .ok (.aload i, 2)) : qSnd MT NM Z N ST Ts own cc nL wp pc (qAload 2 i) := by
  intro E d p l e R s me args below meth c cells slots Q F I L st t x hf hx H locs ls hP hS hL hc
  obtain ⟨hX, hb, hml, hts, hown, hK, hbs, hst, hE, hR, hC⟩ := F
  cases hq : qLk L i with
  | none => simp [qAload, hq] at hf
  | some v =>
    cases v <;> simp only [qAload, hq, reduceCtorEq] at hf
    rename_i v
    cases hk : Nat.blt v 150 with
    | false => rw [hk] at hf; cases hf
    | true =>
      rw [hk] at hf
      cases hf
      have h1 := hL.2.2.2.1 _ _ hq
      rw [qX_ref hk] at h1
      have h2 := hx H locs ls hP hS hL hc
      simp only [List.map_cons, qX_ref hk] at h2
      exact lv_aload hX hb hdg (x := qAd E v) h1 h2
theorem q_istore_n {k : Fin 4} {i : Nat} (hdg : decode cc pc = .ok (.istore_n k, 1)) (hi : (k : Nat) = i) (hn : i < nL) (hw : i ≠ wp + 1) : qSnd MT NM Z N ST Ts own cc nL wp pc (qIstore 1 i) := by
  intro E d p l e R s me args below meth c cells slots Q F I L st t x hf hx H locs ls hP hS hL hc
  obtain ⟨hX, hb, hml, hts, hown, hK, hbs, hst, hE, hR, hC⟩ := F
  rcases st with _ | ⟨v, st⟩
  · cases hf
  · cases v <;> simp only [qIstore, reduceCtorEq, Option.some.injEq] at hf
    subst hf
    exact lv_istore_n hX hb hdg hi (qLV_has hL) hn rfl (fun ls2 h2 => hx H locs ls2 hP hS (qLV_put hE.2.2.1.1 hL rfl hw h2) hc)
theorem q_astore_n {k : Fin 4} {i : Nat} (hdg : decode cc pc = .ok (.astore_n k, 1)) (hi : (k : Nat) = i) (hn : i < nL) (hw : i ≠ wp + 1) : qSnd MT NM Z N ST Ts own cc nL wp pc (qAstore 1 i) := by
  intro E d p l e R s me args below meth c cells slots Q F I L st t x hf hx H locs ls hP hS hL hc
  obtain ⟨hX, hb, hml, hts, hown, hK, hbs, hst, hE, hR, hC⟩ := F
  rcases st with _ | ⟨v, st⟩
  · cases hf
  · cases v <;> simp only [qAstore, reduceCtorEq] at hf
    rename_i v
    cases hk : Nat.blt v 150 with
    | false => rw [hk] at hf; cases hf
    | true =>
      rw [hk] at hf
      cases hf
      show W p l e R s me args below meth c H locs cells slots Q (F0 me pc ls (qX E (.ref v) :: st.map (qX E)))
      rw [qX_ref hk]
      refine lv_astore_n hX hb hdg hi (qLV_has hL) hn rfl (fun ls2 h2 => hx H locs ls2 hP hS (qLV_put hE.2.2.1.1 hL rfl hw ?_) hc)
      rw [qX_ref hk]
      exact h2
theorem q_istore {i : Nat} (hdg : decode cc pc = .ok (.istore i, 2)) (hn : i < nL) (hw : i ≠ wp + 1) : qSnd MT NM Z N ST Ts own cc nL wp pc (qIstore 2 i) := by
  intro E d p l e R s me args below meth c cells slots Q F I L st t x hf hx H locs ls hP hS hL hc
  obtain ⟨hX, hb, hml, hts, hown, hK, hbs, hst, hE, hR, hC⟩ := F
  rcases st with _ | ⟨v, st⟩
  · cases hf
  · cases v <;> simp only [qIstore, reduceCtorEq, Option.some.injEq] at hf
    subst hf
    exact lv_istore hX hb hdg (qLV_has hL) hn rfl (fun ls2 h2 => hx H locs ls2 hP hS (qLV_put hE.2.2.1.1 hL rfl hw h2) hc)
theorem q_astore {i : Nat} (hdg : decode cc pc = .ok (.astore i, 2)) (hn : i < nL) (hw : i ≠ wp + 1) : qSnd MT NM Z N ST Ts own cc nL wp pc (qAstore 2 i) := by
  intro E d p l e R s me args below meth c cells slots Q F I L st t x hf hx H locs ls hP hS hL hc
  obtain ⟨hX, hb, hml, hts, hown, hK, hbs, hst, hE, hR, hC⟩ := F
  rcases st with _ | ⟨v, st⟩
  · cases hf
  · cases v <;> simp only [qAstore, reduceCtorEq] at hf
    rename_i v
    cases hk : Nat.blt v 150 with
    | false => rw [hk] at hf; cases hf
    | true =>
      rw [hk] at hf
      cases hf
      show W p l e R s me args below meth c H locs cells slots Q (F0 me pc ls (qX E (.ref v) :: st.map (qX E)))
      rw [qX_ref hk]
      refine lv_astore hX hb hdg (qLV_has hL) hn rfl (fun ls2 h2 => hx H locs ls2 hP hS (qLV_put hE.2.2.1.1 hL rfl hw ?_) hc)
      rw [qX_ref hk]
      exact h2
theorem q_iinc {i : Nat} {k : Int} {v : Int32} (hdg : decode cc pc = .ok (.iinc i k, 3)) (hv : Int32.ofInt k = v) (hn : i < nL) (hw : i ≠ wp + 1) : qSnd MT NM Z N ST Ts own cc nL wp pc (qIinc i v) := by
  intro E d p l e R s me args below meth c cells slots Q F I L st t x hf hx H locs ls hP hS hL hc
  obtain ⟨hX, hb, hml, hts, hown, hK, hbs, hst, hE, hR, hC⟩ := F
  cases hq : qLk L i with
  | none => simp [qIinc, hq] at hf
  | some u =>
    cases u <;> simp only [qIinc, hq, reduceCtorEq, Option.some.injEq] at hf
    rename_i u
    subst hf
    obtain ⟨j, hj⟩ := List.getElem?_of_mem (qEc_mem (E := E) hq)
    exact lv_iinc hX hb hdg (qLV_has hL) hj (by rw [hv]) hn rfl (fun ls2 h2 => hx H locs ls2 hP hS (qLV_put hE.2.2.1.1 hL rfl hw h2) hc)
theorem q_iadd (hdg : decode cc pc = .ok (.iadd, 1)) : qSnd MT NM Z N ST Ts own cc nL wp pc (qBin (fun a b => a + b)) := by
  intro E d p l e R s me args below meth c cells slots Q F I L st t x hf hx H locs ls hP hS hL hc
  obtain ⟨hX, hb, hml, hts, hown, hK, hbs, hst, hE, hR, hC⟩ := F
  rcases st with _ | ⟨a, st⟩
  · cases hf
  · cases a <;> simp only [qBin, reduceCtorEq] at hf
    rename_i b
    rcases st with _ | ⟨a, st⟩
    · cases hf
    · cases a <;> simp only [reduceCtorEq, Option.some.injEq] at hf
      rename_i a
      subst hf
      exact lv_iadd hX hb hdg (hx H locs ls hP hS hL hc)
theorem q_isub (hdg : decode cc pc = .ok (.isub, 1)) : qSnd MT NM Z N ST Ts own cc nL wp pc (qBin (fun a b => a - b)) := by
  intro E d p l e R s me args below meth c cells slots Q F I L st t x hf hx H locs ls hP hS hL hc
  obtain ⟨hX, hb, hml, hts, hown, hK, hbs, hst, hE, hR, hC⟩ := F
  rcases st with _ | ⟨a, st⟩
  · cases hf
  · cases a <;> simp only [qBin, reduceCtorEq] at hf
    rename_i b
    rcases st with _ | ⟨a, st⟩
    · cases hf
    · cases a <;> simp only [reduceCtorEq, Option.some.injEq] at hf
      rename_i a
      subst hf
      exact lv_isub hX hb hdg (hx H locs ls hP hS hL hc)
theorem q_imul (hdg : decode cc pc = .ok (.imul, 1)) : qSnd MT NM Z N ST Ts own cc nL wp pc (qBin (fun a b => a * b)) := by
  intro E d p l e R s me args below meth c cells slots Q F I L st t x hf hx H locs ls hP hS hL hc
  obtain ⟨hX, hb, hml, hts, hown, hK, hbs, hst, hE, hR, hC⟩ := F
  rcases st with _ | ⟨a, st⟩
  · cases hf
  · cases a <;> simp only [qBin, reduceCtorEq] at hf
    rename_i b
    rcases st with _ | ⟨a, st⟩
    · cases hf
    · cases a <;> simp only [reduceCtorEq, Option.some.injEq] at hf
      rename_i a
      subst hf
      exact lv_imul hX hb hdg (hx H locs ls hP hS hL hc)
theorem q_iand (hdg : decode cc pc = .ok (.iand, 1)) : qSnd MT NM Z N ST Ts own cc nL wp pc (qBin (fun a b => a &&& b)) := by
  intro E d p l e R s me args below meth c cells slots Q F I L st t x hf hx H locs ls hP hS hL hc
  obtain ⟨hX, hb, hml, hts, hown, hK, hbs, hst, hE, hR, hC⟩ := F
  rcases st with _ | ⟨a, st⟩
  · cases hf
  · cases a <;> simp only [qBin, reduceCtorEq] at hf
    rename_i b
    rcases st with _ | ⟨a, st⟩
    · cases hf
    · cases a <;> simp only [reduceCtorEq, Option.some.injEq] at hf
      rename_i a
      subst hf
      exact lv_iand hX hb hdg (hx H locs ls hP hS hL hc)
theorem q_ior (hdg : decode cc pc = .ok (.ior, 1)) : qSnd MT NM Z N ST Ts own cc nL wp pc (qBin (fun a b => a ||| b)) := by
  intro E d p l e R s me args below meth c cells slots Q F I L st t x hf hx H locs ls hP hS hL hc
  obtain ⟨hX, hb, hml, hts, hown, hK, hbs, hst, hE, hR, hC⟩ := F
  rcases st with _ | ⟨a, st⟩
  · cases hf
  · cases a <;> simp only [qBin, reduceCtorEq] at hf
    rename_i b
    rcases st with _ | ⟨a, st⟩
    · cases hf
    · cases a <;> simp only [reduceCtorEq, Option.some.injEq] at hf
      rename_i a
      subst hf
      exact lv_ior hX hb hdg (hx H locs ls hP hS hL hc)
theorem q_ishl (hdg : decode cc pc = .ok (.ishl, 1)) : qSnd MT NM Z N ST Ts own cc nL wp pc (qBin (fun a b => a <<< (b &&& 31))) := by
  intro E d p l e R s me args below meth c cells slots Q F I L st t x hf hx H locs ls hP hS hL hc
  obtain ⟨hX, hb, hml, hts, hown, hK, hbs, hst, hE, hR, hC⟩ := F
  rcases st with _ | ⟨a, st⟩
  · cases hf
  · cases a <;> simp only [qBin, reduceCtorEq] at hf
    rename_i b
    rcases st with _ | ⟨a, st⟩
    · cases hf
    · cases a <;> simp only [reduceCtorEq, Option.some.injEq] at hf
      rename_i a
      subst hf
      exact lv_ishl hX hb hdg (hx H locs ls hP hS hL hc)
theorem q_ishr (hdg : decode cc pc = .ok (.ishr, 1)) : qSnd MT NM Z N ST Ts own cc nL wp pc (qBin (fun a b => a >>> (b &&& 31))) := by
  intro E d p l e R s me args below meth c cells slots Q F I L st t x hf hx H locs ls hP hS hL hc
  obtain ⟨hX, hb, hml, hts, hown, hK, hbs, hst, hE, hR, hC⟩ := F
  rcases st with _ | ⟨a, st⟩
  · cases hf
  · cases a <;> simp only [qBin, reduceCtorEq] at hf
    rename_i b
    rcases st with _ | ⟨a, st⟩
    · cases hf
    · cases a <;> simp only [reduceCtorEq, Option.some.injEq] at hf
      rename_i a
      subst hf
      exact lv_ishr hX hb hdg (hx H locs ls hP hS hL hc)
theorem q_iushr (hdg : decode cc pc = .ok (.iushr, 1)) : qSnd MT NM Z N ST Ts own cc nL wp pc (qBin (fun a b => (a.toUInt32 >>> (b.toUInt32 &&& Int32.toUInt32 31)).toInt32)) := by
  intro E d p l e R s me args below meth c cells slots Q F I L st t x hf hx H locs ls hP hS hL hc
  obtain ⟨hX, hb, hml, hts, hown, hK, hbs, hst, hE, hR, hC⟩ := F
  rcases st with _ | ⟨a, st⟩
  · cases hf
  · cases a <;> simp only [qBin, reduceCtorEq] at hf
    rename_i b
    rcases st with _ | ⟨a, st⟩
    · cases hf
    · cases a <;> simp only [reduceCtorEq, Option.some.injEq] at hf
      rename_i a
      subst hf
      exact lv_iushr hX hb hdg rfl (hx H locs ls hP hS hL hc)
theorem q_idiv (hdg : decode cc pc = .ok (.idiv, 1)) : qSnd MT NM Z N ST Ts own cc nL wp pc (qDiv (fun a b => a / b)) := by
  intro E d p l e R s me args below meth c cells slots Q F I L st t x hf hx H locs ls hP hS hL hc
  obtain ⟨hX, hb, hml, hts, hown, hK, hbs, hst, hE, hR, hC⟩ := F
  rcases st with _ | ⟨a, st⟩
  · cases hf
  · cases a <;> simp only [qDiv, reduceCtorEq] at hf
    rename_i b
    rcases st with _ | ⟨a, st⟩
    · cases hf
    · cases a <;> simp only [reduceCtorEq] at hf
      rename_i a
      by_cases h0 : b = 0
      · rw [if_pos h0] at hf
        cases hf
      · rw [if_neg h0] at hf
        cases hf
        exact lv_idiv hX hb hdg h0 (hx H locs ls hP hS hL hc)
theorem q_irem (hdg : decode cc pc = .ok (.irem, 1)) : qSnd MT NM Z N ST Ts own cc nL wp pc (qDiv (fun a b => a - a / b * b)) := by
  intro E d p l e R s me args below meth c cells slots Q F I L st t x hf hx H locs ls hP hS hL hc
  obtain ⟨hX, hb, hml, hts, hown, hK, hbs, hst, hE, hR, hC⟩ := F
  rcases st with _ | ⟨a, st⟩
  · cases hf
  · cases a <;> simp only [qDiv, reduceCtorEq] at hf
    rename_i b
    rcases st with _ | ⟨a, st⟩
    · cases hf
    · cases a <;> simp only [reduceCtorEq] at hf
      rename_i a
      by_cases h0 : b = 0
      · rw [if_pos h0] at hf
        cases hf
      · rw [if_neg h0] at hf
        cases hf
        exact lv_irem hX hb hdg h0 (hx H locs ls hP hS hL hc)
theorem q_ineg (hdg : decode cc pc = .ok (.ineg, 1)) : qSnd MT NM Z N ST Ts own cc nL wp pc (qUn (fun a => -a)) := by
  intro E d p l e R s me args below meth c cells slots Q F I L st t x hf hx H locs ls hP hS hL hc
  obtain ⟨hX, hb, hml, hts, hown, hK, hbs, hst, hE, hR, hC⟩ := F
  rcases st with _ | ⟨a, st⟩
  · cases hf
  · cases a <;> simp only [qUn, reduceCtorEq, Option.some.injEq] at hf
    rename_i a
    subst hf
    exact lv_ineg hX hb hdg (hx H locs ls hP hS hL hc)
theorem q_i2c (hdg : decode cc pc = .ok (.i2c, 1)) : qSnd MT NM Z N ST Ts own cc nL wp pc (qUn (fun a => (a.toUInt32 % 65536).toInt32)) := by
  intro E d p l e R s me args below meth c cells slots Q F I L st t x hf hx H locs ls hP hS hL hc
  obtain ⟨hX, hb, hml, hts, hown, hK, hbs, hst, hE, hR, hC⟩ := F
  rcases st with _ | ⟨a, st⟩
  · cases hf
  · cases a <;> simp only [qUn, reduceCtorEq, Option.some.injEq] at hf
    rename_i a
    subst hf
    exact lv_i2c hX hb hdg rfl (hx H locs ls hP hS hL hc)
theorem q_i2l (hdg : decode cc pc = .ok (.i2l, 1)) : qSnd MT NM Z N ST Ts own cc nL wp pc (qI2l) := by
  intro E d p l e R s me args below meth c cells slots Q F I L st t x hf hx H locs ls hP hS hL hc
  obtain ⟨hX, hb, hml, hts, hown, hK, hbs, hst, hE, hR, hC⟩ := F
  rcases st with _ | ⟨a, st⟩
  · cases hf
  · cases a <;> simp only [qI2l, reduceCtorEq, Option.some.injEq] at hf
    rename_i a
    subst hf
    exact lv_i2l hX hb hdg rfl (hx H locs ls hP hS hL hc)
theorem q_l2i (hdg : decode cc pc = .ok (.l2i, 1)) : qSnd MT NM Z N ST Ts own cc nL wp pc (qL2i) := by
  intro E d p l e R s me args below meth c cells slots Q F I L st t x hf hx H locs ls hP hS hL hc
  obtain ⟨hX, hb, hml, hts, hown, hK, hbs, hst, hE, hR, hC⟩ := F
  rcases st with _ | ⟨a, st⟩
  · cases hf
  · cases a <;> simp only [qL2i, reduceCtorEq, Option.some.injEq] at hf
    rename_i a
    subst hf
    exact lv_l2i hX hb hdg rfl (hx H locs ls hP hS hL hc)
theorem q_ladd (hdg : decode cc pc = .ok (.ladd, 1)) : qSnd MT NM Z N ST Ts own cc nL wp pc (qLBin (fun a b => a + b)) := by
  intro E d p l e R s me args below meth c cells slots Q F I L st t x hf hx H locs ls hP hS hL hc
  obtain ⟨hX, hb, hml, hts, hown, hK, hbs, hst, hE, hR, hC⟩ := F
  rcases st with _ | ⟨a, st⟩
  · cases hf
  · cases a <;> simp only [qLBin, reduceCtorEq] at hf
    rename_i b
    rcases st with _ | ⟨a, st⟩
    · cases hf
    · cases a <;> simp only [reduceCtorEq, Option.some.injEq] at hf
      rename_i a
      subst hf
      exact lv_ladd hX hb hdg (hx H locs ls hP hS hL hc)
theorem q_lsub (hdg : decode cc pc = .ok (.lsub, 1)) : qSnd MT NM Z N ST Ts own cc nL wp pc (qLBin (fun a b => a - b)) := by
  intro E d p l e R s me args below meth c cells slots Q F I L st t x hf hx H locs ls hP hS hL hc
  obtain ⟨hX, hb, hml, hts, hown, hK, hbs, hst, hE, hR, hC⟩ := F
  rcases st with _ | ⟨a, st⟩
  · cases hf
  · cases a <;> simp only [qLBin, reduceCtorEq] at hf
    rename_i b
    rcases st with _ | ⟨a, st⟩
    · cases hf
    · cases a <;> simp only [reduceCtorEq, Option.some.injEq] at hf
      rename_i a
      subst hf
      exact lv_lsub hX hb hdg (hx H locs ls hP hS hL hc)
theorem q_lmul (hdg : decode cc pc = .ok (.lmul, 1)) : qSnd MT NM Z N ST Ts own cc nL wp pc (qLBin (fun a b => a * b)) := by
  intro E d p l e R s me args below meth c cells slots Q F I L st t x hf hx H locs ls hP hS hL hc
  obtain ⟨hX, hb, hml, hts, hown, hK, hbs, hst, hE, hR, hC⟩ := F
  rcases st with _ | ⟨a, st⟩
  · cases hf
  · cases a <;> simp only [qLBin, reduceCtorEq] at hf
    rename_i b
    rcases st with _ | ⟨a, st⟩
    · cases hf
    · cases a <;> simp only [reduceCtorEq, Option.some.injEq] at hf
      rename_i a
      subst hf
      exact lv_lmul hX hb hdg (hx H locs ls hP hS hL hc)
theorem q_land (hdg : decode cc pc = .ok (.land, 1)) : qSnd MT NM Z N ST Ts own cc nL wp pc (qLBin (fun a b => a &&& b)) := by
  intro E d p l e R s me args below meth c cells slots Q F I L st t x hf hx H locs ls hP hS hL hc
  obtain ⟨hX, hb, hml, hts, hown, hK, hbs, hst, hE, hR, hC⟩ := F
  rcases st with _ | ⟨a, st⟩
  · cases hf
  · cases a <;> simp only [qLBin, reduceCtorEq] at hf
    rename_i b
    rcases st with _ | ⟨a, st⟩
    · cases hf
    · cases a <;> simp only [reduceCtorEq, Option.some.injEq] at hf
      rename_i a
      subst hf
      exact lv_land hX hb hdg (hx H locs ls hP hS hL hc)
theorem q_lor (hdg : decode cc pc = .ok (.lor, 1)) : qSnd MT NM Z N ST Ts own cc nL wp pc (qLBin (fun a b => a ||| b)) := by
  intro E d p l e R s me args below meth c cells slots Q F I L st t x hf hx H locs ls hP hS hL hc
  obtain ⟨hX, hb, hml, hts, hown, hK, hbs, hst, hE, hR, hC⟩ := F
  rcases st with _ | ⟨a, st⟩
  · cases hf
  · cases a <;> simp only [qLBin, reduceCtorEq] at hf
    rename_i b
    rcases st with _ | ⟨a, st⟩
    · cases hf
    · cases a <;> simp only [reduceCtorEq, Option.some.injEq] at hf
      rename_i a
      subst hf
      exact lv_lor hX hb hdg (hx H locs ls hP hS hL hc)
theorem q_lshl (hdg : decode cc pc = .ok (.lshl, 1)) : qSnd MT NM Z N ST Ts own cc nL wp pc (qLSh (fun a b => a <<< (b.toInt64 &&& 63))) := by
  intro E d p l e R s me args below meth c cells slots Q F I L st t x hf hx H locs ls hP hS hL hc
  obtain ⟨hX, hb, hml, hts, hown, hK, hbs, hst, hE, hR, hC⟩ := F
  rcases st with _ | ⟨a, st⟩
  · cases hf
  · cases a <;> simp only [qLSh, reduceCtorEq] at hf
    rename_i b
    rcases st with _ | ⟨a, st⟩
    · cases hf
    · cases a <;> simp only [reduceCtorEq, Option.some.injEq] at hf
      rename_i a
      subst hf
      exact lv_lshl hX hb hdg rfl (hx H locs ls hP hS hL hc)
theorem q_lshr (hdg : decode cc pc = .ok (.lshr, 1)) : qSnd MT NM Z N ST Ts own cc nL wp pc (qLSh (fun a b => a >>> (b.toInt64 &&& 63))) := by
  intro E d p l e R s me args below meth c cells slots Q F I L st t x hf hx H locs ls hP hS hL hc
  obtain ⟨hX, hb, hml, hts, hown, hK, hbs, hst, hE, hR, hC⟩ := F
  rcases st with _ | ⟨a, st⟩
  · cases hf
  · cases a <;> simp only [qLSh, reduceCtorEq] at hf
    rename_i b
    rcases st with _ | ⟨a, st⟩
    · cases hf
    · cases a <;> simp only [reduceCtorEq, Option.some.injEq] at hf
      rename_i a
      subst hf
      exact lv_lshr hX hb hdg rfl (hx H locs ls hP hS hL hc)
theorem q_lcmp (hdg : decode cc pc = .ok (.lcmp, 1)) : qSnd MT NM Z N ST Ts own cc nL wp pc (qLcmp) := by
  intro E d p l e R s me args below meth c cells slots Q F I L st t x hf hx H locs ls hP hS hL hc
  obtain ⟨hX, hb, hml, hts, hown, hK, hbs, hst, hE, hR, hC⟩ := F
  rcases st with _ | ⟨a, st⟩
  · cases hf
  · cases a <;> simp only [qLcmp, reduceCtorEq] at hf
    rename_i b
    rcases st with _ | ⟨a, st⟩
    · cases hf
    · cases a <;> simp only [reduceCtorEq, Option.some.injEq] at hf
      rename_i a
      subst hf
      exact W.lcmp hX hb hdg (hx H locs ls hP hS hL hc)
theorem q_dup (hdg : decode cc pc = .ok (.dup, 1)) : qSnd MT NM Z N ST Ts own cc nL wp pc (qDup) := by
  intro E d p l e R s me args below meth c cells slots Q F I L st t x hf hx H locs ls hP hS hL hc
  obtain ⟨hX, hb, hml, hts, hown, hK, hbs, hst, hE, hR, hC⟩ := F
  rcases st with _ | ⟨a, st⟩
  · cases hf
  · cases a <;> simp only [qDup, reduceCtorEq] at hf
    · cases hf
      exact lv_dup hX hb hdg rfl (hx H locs ls hP hS hL hc)
    · rename_i a
      cases hk : Nat.blt a 150 with
      | false => rw [hk] at hf; cases hf
      | true =>
        rw [hk] at hf
        cases hf
        exact lv_dup hX hb hdg (by rw [qX_ref hk]; rfl) (hx H locs ls hP hS hL hc)
theorem q_dup2 (hdg : decode cc pc = .ok (.dup2, 1)) : qSnd MT NM Z N ST Ts own cc nL wp pc (qDup2) := by
  intro E d p l e R s me args below meth c cells slots Q F I L st t x hf hx H locs ls hP hS hL hc
  obtain ⟨hX, hb, hml, hts, hown, hK, hbs, hst, hE, hR, hC⟩ := F
  rcases st with _ | ⟨a, st⟩
  · cases hf
  · cases a <;> simp only [qDup2, reduceCtorEq] at hf
    rename_i b
    rcases st with _ | ⟨a, st⟩
    · cases hf
    · cases a <;> simp only [reduceCtorEq] at hf
      rename_i a
      cases hk : Nat.blt a 150 with
      | false => rw [hk] at hf; cases hf
      | true =>
        rw [hk] at hf
        cases hf
        exact lv_dup2_11 hX hb hdg rfl (by rw [qX_ref hk]; rfl) (hx H locs ls hP hS hL hc)
theorem q_pop (hdg : decode cc pc = .ok (.pop, 1)) : qSnd MT NM Z N ST Ts own cc nL wp pc (qPop) := by
  intro E d p l e R s me args below meth c cells slots Q F I L st t x hf hx H locs ls hP hS hL hc
  obtain ⟨hX, hb, hml, hts, hown, hK, hbs, hst, hE, hR, hC⟩ := F
  rcases st with _ | ⟨a, st⟩
  · cases hf
  · cases a <;> simp only [qPop, reduceCtorEq, Option.some.injEq] at hf
    rename_i a
    subst hf
    exact lv_pop hX hb hdg rfl (hx H locs ls hP hS hL hc)
theorem q_goto {off : Int} {tgt : Nat} (hdg : decode cc pc = .ok (.goto off, 3)) (ht : (pc : Int) + off = (tgt : Int)) : qSnd MT NM Z N ST Ts own cc nL wp pc (qGoto tgt) := by
  intro E d p l e R s me args below meth c cells slots Q F I L st t x hf hx H locs ls hP hS hL hc
  obtain ⟨hX, hb, hml, hts, hown, hK, hbs, hst, hE, hR, hC⟩ := F
  cases hf
  exact lv_goto hX hb hdg ht (hx H locs ls hP hS hL hc)
theorem q_ifeq {off : Int} {tgt : Nat} (hdg : decode cc pc = .ok (.ifCond .eq off, 3)) (ht : (pc : Int) + off = (tgt : Int)) : qSnd MT NM Z N ST Ts own cc nL wp pc (qIfeq tgt) := by
  intro E d p l e R s me args below meth c cells slots Q F I L st t x hf hx H locs ls hP hS hL hc
  obtain ⟨hX, hb, hml, hts, hown, hK, hbs, hst, hE, hR, hC⟩ := F
  rcases st with _ | ⟨a, st⟩
  · cases hf
  · cases a <;> simp only [qIfeq, reduceCtorEq] at hf
    rename_i a
    by_cases h0 : a = 0
    · rw [if_pos h0] at hf
      cases hf
      refine lv_if_eq hX hb hdg ht (fun h => ?_) (fun h => ?_)
      · exact hx H locs ls hP hS hL hc
      · exact absurd h0 h
    · rw [if_neg h0] at hf
      cases hf
      refine lv_if_eq hX hb hdg ht (fun h => ?_) (fun h => ?_)
      · exact absurd h h0
      · exact hx H locs ls hP hS hL hc
theorem q_ceq {off : Int} {tgt : Nat} (hdg : decode cc pc = .ok (.if_icmp .eq off, 3)) (ht : (pc : Int) + off = (tgt : Int)) : qSnd MT NM Z N ST Ts own cc nL wp pc (qCeq tgt) := by
  intro E d p l e R s me args below meth c cells slots Q F I L st t x hf hx H locs ls hP hS hL hc
  obtain ⟨hX, hb, hml, hts, hown, hK, hbs, hst, hE, hR, hC⟩ := F
  rcases st with _ | ⟨a, st⟩
  · cases hf
  · cases a <;> simp only [qCeq, reduceCtorEq] at hf
    rename_i b
    rcases st with _ | ⟨a, st⟩
    · cases hf
    · cases a <;> simp only [reduceCtorEq] at hf
      rename_i a
      by_cases h0 : a = b
      · rw [if_pos h0] at hf
        cases hf
        refine lv_icmp_eq hX hb hdg ht (fun h => ?_) (fun h => ?_)
        · exact hx H locs ls hP hS hL hc
        · exact absurd h0 h
      · rw [if_neg h0] at hf
        cases hf
        refine lv_icmp_eq hX hb hdg ht (fun h => ?_) (fun h => ?_)
        · exact absurd h h0
        · exact hx H locs ls hP hS hL hc
theorem q_iflt {off : Int} {tgt : Nat} (hdg : decode cc pc = .ok (.ifCond .lt off, 3)) (ht : (pc : Int) + off = (tgt : Int)) : qSnd MT NM Z N ST Ts own cc nL wp pc (qIflt tgt) := by
  intro E d p l e R s me args below meth c cells slots Q F I L st t x hf hx H locs ls hP hS hL hc
  obtain ⟨hX, hb, hml, hts, hown, hK, hbs, hst, hE, hR, hC⟩ := F
  rcases st with _ | ⟨a, st⟩
  · cases hf
  · cases a <;> simp only [qIflt, reduceCtorEq] at hf
    rename_i a
    by_cases h0 : a < 0
    · rw [if_pos h0] at hf
      cases hf
      refine lv_if_lt hX hb hdg ht (fun h => ?_) (fun h => ?_)
      · exact hx H locs ls hP hS hL hc
      · exact absurd h0 h
    · rw [if_neg h0] at hf
      cases hf
      refine lv_if_lt hX hb hdg ht (fun h => ?_) (fun h => ?_)
      · exact absurd h h0
      · exact hx H locs ls hP hS hL hc
theorem q_clt {off : Int} {tgt : Nat} (hdg : decode cc pc = .ok (.if_icmp .lt off, 3)) (ht : (pc : Int) + off = (tgt : Int)) : qSnd MT NM Z N ST Ts own cc nL wp pc (qClt tgt) := by
  intro E d p l e R s me args below meth c cells slots Q F I L st t x hf hx H locs ls hP hS hL hc
  obtain ⟨hX, hb, hml, hts, hown, hK, hbs, hst, hE, hR, hC⟩ := F
  rcases st with _ | ⟨a, st⟩
  · cases hf
  · cases a <;> simp only [qClt, reduceCtorEq] at hf
    rename_i b
    rcases st with _ | ⟨a, st⟩
    · cases hf
    · cases a <;> simp only [reduceCtorEq] at hf
      rename_i a
      by_cases h0 : a < b
      · rw [if_pos h0] at hf
        cases hf
        refine lv_icmp_lt hX hb hdg ht (fun h => ?_) (fun h => ?_)
        · exact hx H locs ls hP hS hL hc
        · exact absurd h0 h
      · rw [if_neg h0] at hf
        cases hf
        refine lv_icmp_lt hX hb hdg ht (fun h => ?_) (fun h => ?_)
        · exact absurd h h0
        · exact hx H locs ls hP hS hL hc
theorem q_ifge {off : Int} {tgt : Nat} (hdg : decode cc pc = .ok (.ifCond .ge off, 3)) (ht : (pc : Int) + off = (tgt : Int)) : qSnd MT NM Z N ST Ts own cc nL wp pc (qIfge tgt) := by
  intro E d p l e R s me args below meth c cells slots Q F I L st t x hf hx H locs ls hP hS hL hc
  obtain ⟨hX, hb, hml, hts, hown, hK, hbs, hst, hE, hR, hC⟩ := F
  rcases st with _ | ⟨a, st⟩
  · cases hf
  · cases a <;> simp only [qIfge, reduceCtorEq] at hf
    rename_i a
    by_cases h0 : 0 ≤ a
    · rw [if_pos h0] at hf
      cases hf
      refine lv_if_ge hX hb hdg ht (fun h => ?_) (fun h => ?_)
      · exact hx H locs ls hP hS hL hc
      · exact absurd h0 h
    · rw [if_neg h0] at hf
      cases hf
      refine lv_if_ge hX hb hdg ht (fun h => ?_) (fun h => ?_)
      · exact absurd h h0
      · exact hx H locs ls hP hS hL hc
theorem q_cge {off : Int} {tgt : Nat} (hdg : decode cc pc = .ok (.if_icmp .ge off, 3)) (ht : (pc : Int) + off = (tgt : Int)) : qSnd MT NM Z N ST Ts own cc nL wp pc (qCge tgt) := by
  intro E d p l e R s me args below meth c cells slots Q F I L st t x hf hx H locs ls hP hS hL hc
  obtain ⟨hX, hb, hml, hts, hown, hK, hbs, hst, hE, hR, hC⟩ := F
  rcases st with _ | ⟨a, st⟩
  · cases hf
  · cases a <;> simp only [qCge, reduceCtorEq] at hf
    rename_i b
    rcases st with _ | ⟨a, st⟩
    · cases hf
    · cases a <;> simp only [reduceCtorEq] at hf
      rename_i a
      by_cases h0 : b ≤ a
      · rw [if_pos h0] at hf
        cases hf
        refine lv_icmp_ge hX hb hdg ht (fun h => ?_) (fun h => ?_)
        · exact hx H locs ls hP hS hL hc
        · exact absurd h0 h
      · rw [if_neg h0] at hf
        cases hf
        refine lv_icmp_ge hX hb hdg ht (fun h => ?_) (fun h => ?_)
        · exact absurd h h0
        · exact hx H locs ls hP hS hL hc
theorem q_ifgt {off : Int} {tgt : Nat} (hdg : decode cc pc = .ok (.ifCond .gt off, 3)) (ht : (pc : Int) + off = (tgt : Int)) : qSnd MT NM Z N ST Ts own cc nL wp pc (qIfgt tgt) := by
  intro E d p l e R s me args below meth c cells slots Q F I L st t x hf hx H locs ls hP hS hL hc
  obtain ⟨hX, hb, hml, hts, hown, hK, hbs, hst, hE, hR, hC⟩ := F
  rcases st with _ | ⟨a, st⟩
  · cases hf
  · cases a <;> simp only [qIfgt, reduceCtorEq] at hf
    rename_i a
    by_cases h0 : 0 < a
    · rw [if_pos h0] at hf
      cases hf
      refine lv_if_gt hX hb hdg ht (fun h => ?_) (fun h => ?_)
      · exact hx H locs ls hP hS hL hc
      · exact absurd h0 h
    · rw [if_neg h0] at hf
      cases hf
      refine lv_if_gt hX hb hdg ht (fun h => ?_) (fun h => ?_)
      · exact absurd h h0
      · exact hx H locs ls hP hS hL hc
theorem q_cgt {off : Int} {tgt : Nat} (hdg : decode cc pc = .ok (.if_icmp .gt off, 3)) (ht : (pc : Int) + off = (tgt : Int)) : qSnd MT NM Z N ST Ts own cc nL wp pc (qCgt tgt) := by
  intro E d p l e R s me args below meth c cells slots Q F I L st t x hf hx H locs ls hP hS hL hc
  obtain ⟨hX, hb, hml, hts, hown, hK, hbs, hst, hE, hR, hC⟩ := F
  rcases st with _ | ⟨a, st⟩
  · cases hf
  · cases a <;> simp only [qCgt, reduceCtorEq] at hf
    rename_i b
    rcases st with _ | ⟨a, st⟩
    · cases hf
    · cases a <;> simp only [reduceCtorEq] at hf
      rename_i a
      by_cases h0 : b < a
      · rw [if_pos h0] at hf
        cases hf
        refine lv_icmp_gt hX hb hdg ht (fun h => ?_) (fun h => ?_)
        · exact hx H locs ls hP hS hL hc
        · exact absurd h0 h
      · rw [if_neg h0] at hf
        cases hf
        refine lv_icmp_gt hX hb hdg ht (fun h => ?_) (fun h => ?_)
        · exact absurd h h0
        · exact hx H locs ls hP hS hL hc
theorem q_ifle {off : Int} {tgt : Nat} (hdg : decode cc pc = .ok (.ifCond .le off, 3)) (ht : (pc : Int) + off = (tgt : Int)) : qSnd MT NM Z N ST Ts own cc nL wp pc (qIfle tgt) := by
  intro E d p l e R s me args below meth c cells slots Q F I L st t x hf hx H locs ls hP hS hL hc
  obtain ⟨hX, hb, hml, hts, hown, hK, hbs, hst, hE, hR, hC⟩ := F
  rcases st with _ | ⟨a, st⟩
  · cases hf
  · cases a <;> simp only [qIfle, reduceCtorEq] at hf
    rename_i a
    by_cases h0 : a ≤ 0
    · rw [if_pos h0] at hf
      cases hf
      refine lv_if_le hX hb hdg ht (fun h => ?_) (fun h => ?_)
      · exact hx H locs ls hP hS hL hc
      · exact absurd h0 h
    · rw [if_neg h0] at hf
      cases hf
      refine lv_if_le hX hb hdg ht (fun h => ?_) (fun h => ?_)
      · exact absurd h h0
      · exact hx H locs ls hP hS hL hc
theorem q_cle {off : Int} {tgt : Nat} (hdg : decode cc pc = .ok (.if_icmp .le off, 3)) (ht : (pc : Int) + off = (tgt : Int)) : qSnd MT NM Z N ST Ts own cc nL wp pc (qCle tgt) := by
  intro E d p l e R s me args below meth c cells slots Q F I L st t x hf hx H locs ls hP hS hL hc
  obtain ⟨hX, hb, hml, hts, hown, hK, hbs, hst, hE, hR, hC⟩ := F
  rcases st with _ | ⟨a, st⟩
  · cases hf
  · cases a <;> simp only [qCle, reduceCtorEq] at hf
    rename_i b
    rcases st with _ | ⟨a, st⟩
    · cases hf
    · cases a <;> simp only [reduceCtorEq] at hf
      rename_i a
      by_cases h0 : a ≤ b
      · rw [if_pos h0] at hf
        cases hf
        refine lv_icmp_le hX hb hdg ht (fun h => ?_) (fun h => ?_)
        · exact hx H locs ls hP hS hL hc
        · exact absurd h0 h
      · rw [if_neg h0] at hf
        cases hf
        refine lv_icmp_le hX hb hdg ht (fun h => ?_) (fun h => ?_)
        · exact absurd h h0
        · exact hx H locs ls hP hS hL hc
theorem q_ifne {off : Int} {tgt : Nat} (hdg : decode cc pc = .ok (.ifCond .ne off, 3)) (ht : (pc : Int) + off = (tgt : Int)) : qSnd MT NM Z N ST Ts own cc nL wp pc (qIfne tgt) := by
  intro E d p l e R s me args below meth c cells slots Q F I L st t x hf hx H locs ls hP hS hL hc
  obtain ⟨hX, hb, hml, hts, hown, hK, hbs, hst, hE, hR, hC⟩ := F
  rcases st with _ | ⟨a, st⟩
  · cases hf
  · cases a <;> simp only [qIfne, reduceCtorEq] at hf
    rename_i a
    by_cases h0 : a = 0
    · rw [if_pos h0] at hf
      cases hf
      refine lv_if_ne hX hb hdg ht (fun h => ?_) (fun h => ?_)
      · exact absurd h0 h
      · exact hx H locs ls hP hS hL hc
    · rw [if_neg h0] at hf
      cases hf
      refine lv_if_ne hX hb hdg ht (fun h => ?_) (fun h => ?_)
      · exact hx H locs ls hP hS hL hc
      · exact absurd h h0
theorem q_cne {off : Int} {tgt : Nat} (hdg : decode cc pc = .ok (.if_icmp .ne off, 3)) (ht : (pc : Int) + off = (tgt : Int)) : qSnd MT NM Z N ST Ts own cc nL wp pc (qCne tgt) := by
  intro E d p l e R s me args below meth c cells slots Q F I L st t x hf hx H locs ls hP hS hL hc
  obtain ⟨hX, hb, hml, hts, hown, hK, hbs, hst, hE, hR, hC⟩ := F
  rcases st with _ | ⟨a, st⟩
  · cases hf
  · cases a <;> simp only [qCne, reduceCtorEq] at hf
    rename_i b
    rcases st with _ | ⟨a, st⟩
    · cases hf
    · cases a <;> simp only [reduceCtorEq] at hf
      rename_i a
      by_cases h0 : a = b
      · rw [if_pos h0] at hf
        cases hf
        refine lv_icmp_ne hX hb hdg ht (fun h => ?_) (fun h => ?_)
        · exact absurd h0 h
        · exact hx H locs ls hP hS hL hc
      · rw [if_neg h0] at hf
        cases hf
        refine lv_icmp_ne hX hb hdg ht (fun h => ?_) (fun h => ?_)
        · exact hx H locs ls hP hS hL hc
        · exact absurd h h0
theorem q_ifnull {off : Int} (hdg : decode cc pc = .ok (.ifnull off, 3)) : qSnd MT NM Z N ST Ts own cc nL wp pc (qIfnull) := by
  intro E d p l e R s me args below meth c cells slots Q F I L st t x hf hx H locs ls hP hS hL hc
  obtain ⟨hX, hb, hml, hts, hown, hK, hbs, hst, hE, hR, hC⟩ := F
  rcases st with _ | ⟨a, st⟩
  · cases hf
  · cases a <;> simp only [qIfnull, reduceCtorEq] at hf
    rename_i a
    cases hk : Nat.blt a 150 with
    | false => rw [hk] at hf; cases hf
    | true =>
      rw [hk] at hf
      cases hf
      show W p l e R s me args below meth c H locs cells slots Q (F0 me pc ls (qX E (.ref a) :: st.map (qX E)))
      rw [qX_ref hk]
      exact lv_ifnull hX hb hdg (hx H locs ls hP hS hL hc)
theorem q_ifnonnull {off : Int} {tgt : Nat} (hdg : decode cc pc = .ok (.ifnonnull off, 3)) (ht : (pc : Int) + off = (tgt : Int)) : qSnd MT NM Z N ST Ts own cc nL wp pc (qIfnonnull tgt) := by
  intro E d p l e R s me args below meth c cells slots Q F I L st t x hf hx H locs ls hP hS hL hc
  obtain ⟨hX, hb, hml, hts, hown, hK, hbs, hst, hE, hR, hC⟩ := F
  rcases st with _ | ⟨a, st⟩
  · cases hf
  · cases a <;> simp only [qIfnonnull, reduceCtorEq] at hf
    rename_i a
    cases hk : Nat.blt a 150 with
    | false => rw [hk] at hf; cases hf
    | true =>
      rw [hk] at hf
      cases hf
      show W p l e R s me args below meth c H locs cells slots Q (F0 me pc ls (qX E (.ref a) :: st.map (qX E)))
      rw [qX_ref hk]
      exact lv_ifnonnull hX hb hdg ht (hx H locs ls hP hS hL hc)
end QS
