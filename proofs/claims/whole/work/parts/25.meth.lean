/-! a method is sound -/
def qRetAt (cc : ByteArray) (pc k : Nat) : Prop := match k with
  | 0 => decode cc pc = .ok (.ireturn, 1)
  | 1 => decode cc pc = .ok (.areturn, 1)
  | _ => decode cc pc = .ok (.return_, 1)
def qRk (rt : Option FieldType) (k : Nat) : Bool := match rt, k with
  | none, 2 => true
  | some (.object _), 1 => true
  | some .int, 0 => true
  | some .boolean, 0 => true
  | some .char, 0 => true
  | some .byte, 0 => true
  | _, _ => false
theorem qRk_spec {rt : Option FieldType} {k : Nat} (h : qRk rt k = true) : (k = 0 ∧ rt ≠ none ∧ ∀ n, rt ≠ some (.object n)) ∨ (k = 1 ∧ ∃ n, rt = some (.object n)) ∨ (2 ≤ k ∧ rt = none) := by
  unfold qRk at h
  split at h
  · exact Or.inr (Or.inr ⟨Nat.le_refl _, rfl⟩)
  · exact Or.inr (Or.inl ⟨rfl, _, rfl⟩)
  · exact Or.inl ⟨rfl, (fun z => by cases z), fun n z => by cases z⟩
  · exact Or.inl ⟨rfl, (fun z => by cases z), fun n z => by cases z⟩
  · exact Or.inl ⟨rfl, (fun z => by cases z), fun n z => by cases z⟩
  · exact Or.inl ⟨rfl, (fun z => by cases z), fun n z => by cases z⟩
  · cases h
def qStepOk (MT : Nat → qMI) (NM : qNmT) (Z : Nat → qSh) (N : Nat) (ST : qEnv → State → Heap → Prop) (Ts : List Cond) (own : String) (cc : ByteArray) (nL wp : Nat) (rt : Option FieldType) (pc : Nat) (q : Nat ⊕ qOp) : Prop := match q with
  | .inl 0 => True
  | .inl (k + 1) => qRetAt cc pc k ∧ qRk rt k = true
  | .inr f => qSnd MT NM Z N ST Ts own cc nL wp pc f
def qTabOk (MT : Nat → qMI) (NM : qNmT) (Z : Nat → qSh) (N : Nat) (ST : qEnv → State → Heap → Prop) (Ts : List Cond) (own : String) (cc : ByteArray) (nL wp : Nat) (rt : Option FieldType) (T : qTab) : Prop := ∀ pc, qStepOk MT NM Z N ST Ts own cc nL wp rt pc (T pc)
section QT
variable {MT : Nat → qMI} {NM : qNmT} {Z : Nat → qSh} {N : Nat} {ST : qEnv → State → Heap → Prop} {Ts : List Cond} {own : String} {cc : ByteArray} {nL wp : Nat} {rt : Option FieldType}
theorem qT_no : qTabOk MT NM Z N ST Ts own cc nL wp rt qNo := fun _ => trivial
theorem qT_lf {q : Nat} {f : Nat ⊕ qOp} (h : qStepOk MT NM Z N ST Ts own cc nL wp rt q f) : qTabOk MT NM Z N ST Ts own cc nL wp rt (qLf q f) := by
  intro pc
  unfold qLf
  cases hb : Nat.beq pc q with
  | false => exact trivial
  | true =>
    have e : pc = q := Nat.eq_of_beq_eq_true hb
    subst e
    exact h
theorem qT_nd {k : Nat} {a b : qTab} (ha : qTabOk MT NM Z N ST Ts own cc nL wp rt a) (hb : qTabOk MT NM Z N ST Ts own cc nL wp rt b) : qTabOk MT NM Z N ST Ts own cc nL wp rt (qNd k a b) := by
  intro pc
  unfold qNd
  cases Nat.ble k pc with
  | false => exact ha pc
  | true => exact hb pc
theorem qRun_ok {T : qTab} (hT : qTabOk MT NM Z N ST Ts own cc nL wp rt T) {E : qEnv} {d : Nat} {p : Program} {l : Launch} {e : Env} {R : Room} {s : State} {me : MethodId} {args : Array Value} {below : List Frame} {meth : Method} {c : Code} {cells slots : Nat} {Q : State → Prop} (F : qFr Z N ST E Ts own cc nL d p R s me args c cells slots) (I : qIH MT NM Z N ST E l d) :
    ∀ (n : Nat) (x t : qSt), qRun (qCall MT d) T n x = some t → (∃ k, qRetAt cc t.1 k ∧ qRk rt k = true) ∧ (qWM Z N E nL wp p l e R s me args below meth c cells slots Q t → qWM Z N E nL wp p l e R s me args below meth c cells slots Q x) := by
  intro n
  induction n with
  | zero => intro x t h; cases h
  | succ n ih =>
    intro x t h
    rw [qRun] at h
    have hx := hT x.1
    cases hq : T x.1 with
    | inl k =>
      rw [hq] at h
      cases k with
      | zero => cases h
      | succ k =>
        cases h
        rw [hq] at hx
        exact ⟨⟨k, hx⟩, id⟩
    | inr f =>
      rw [hq] at h hx
      simp only at h
      cases hf : f (qCall MT d) x with
      | none => rw [hf] at h; cases h
      | some z =>
        rw [hf] at h
        obtain ⟨h1, h2⟩ := ih z t h
        refine ⟨h1, fun hw => ?_⟩
        obtain ⟨pc, L, st, m⟩ := x
        exact hx E d p l e R s me args below meth c cells slots Q F I L st m z hf (h2 hw)
end QT
theorem q_args {E : qEnv} {wp : Nat} (hm : (qFm E).category = 1) : ∀ (vs : List Value) (i : Nat), qAok wp i vs = true → (lg_sl (vs.map (qX E))).length = (qFl vs).length ∧ ∀ (j : Nat) (v : Value), qLk (qFl vs) j = some v → (i + j, qX E v) ∈ lv_args i (vs.map (qX E)) ∧ (v.category = 2 → i + j = wp) := by
  intro vs
  induction vs with
  | nil => intro i _; exact ⟨rfl, fun j v h => by cases h⟩
  | cons a vs ih =>
    intro i h
    have one : ∀ (b : Value), (qX E b).category = 1 → b.category = 1 → qFl (b :: vs) = some b :: qFl vs → qAok wp (i + 1) vs = true → (lg_sl ((b :: vs).map (qX E))).length = (qFl (b :: vs)).length ∧ ∀ (j : Nat) (v : Value), qLk (qFl (b :: vs)) j = some v → (i + j, qX E v) ∈ lv_args i ((b :: vs).map (qX E)) ∧ (v.category = 2 → i + j = wp) := by
      intro b hb hb2 hq hk
      obtain ⟨h1, h2⟩ := ih (i + 1) hk
      rw [hq]
      have e1 : lg_sl ((b :: vs).map (qX E)) = Slot.val (qX E b) :: lg_sl (vs.map (qX E)) := by
        unfold lg_sl
        rw [List.map_cons, List.flatMap_cons, if_neg (by rw [hb]; decide)]
        rfl
      have e2 : lv_args i ((b :: vs).map (qX E)) = (i, qX E b) :: lv_args (i + 1) (vs.map (qX E)) := by
        rw [List.map_cons, lv_args, if_neg (by rw [hb]; decide)]
      rw [e1, e2]
      refine ⟨by rw [List.length_cons, List.length_cons, h1], fun j v hj => ?_⟩
      cases j with
      | zero =>
        have e3 : b = v := Option.some.inj hj
        subst e3
        exact ⟨List.mem_cons_self, fun hc => by omega⟩
      | succ j =>
        obtain ⟨h3, h4⟩ := h2 j v hj
        rw [show i + (j + 1) = i + 1 + j from by omega]
        exact ⟨List.mem_cons_of_mem _ h3, h4⟩
    cases a with
    | int x => exact one _ rfl rfl rfl h
    | ref k => exact one _ (qX_cat hm (.ref k)) rfl rfl h
    | long x =>
      have h' : (Nat.beq i wp && qAok wp (i + 2) vs) = true := h
      rw [Bool.and_eq_true] at h'
      obtain ⟨h1, h2⟩ := ih (i + 2) h'.2
      have hi := Nat.eq_of_beq_eq_true h'.1
      have e1 : lg_sl ((Value.long x :: vs).map (qX E)) = Slot.val (.long x) :: Slot.second :: lg_sl (vs.map (qX E)) := rfl
      have e2 : lv_args i ((Value.long x :: vs).map (qX E)) = (i, .long x) :: lv_args (i + 2) (vs.map (qX E)) := rfl
      rw [e1, e2]
      refine ⟨by rw [List.length_cons, List.length_cons, h1]; rfl, fun j v hj => ?_⟩
      cases j with
      | zero =>
        have e3 : Value.long x = v := Option.some.inj hj
        subst e3
        exact ⟨List.mem_cons_self, fun _ => hi⟩
      | succ j =>
        cases j with
        | zero => cases hj
        | succ j =>
          obtain ⟨h3, h4⟩ := h2 j v hj
          rw [show i + (j + 1 + 1) = i + 2 + j from by omega]
          exact ⟨List.mem_cons_of_mem _ h3, h4⟩
    | _ => cases h
theorem qLk_pad : ∀ {n : Nat} {L : List (Option Value)} {i : Nat} {v : Value}, qLk (qPad n L) i = some v → qLk L i = some v := by
  intro n
  induction n with
  | zero => intro L i v h; cases h
  | succ n ih =>
    intro L i v h
    cases L with
    | nil =>
      cases i with
      | zero => cases h
      | succ i => exact ih (L := []) (i := i) h
    | cons a L =>
      cases i with
      | zero => exact h
      | succ i => exact ih (L := L) (i := i) h
theorem qPad_len : ∀ {n : Nat} {L : List (Option Value)}, (qPad n L).length = n := by
  intro n
  induction n with
  | zero => intro L; rfl
  | succ n ih =>
    intro L
    cases L with
    | nil => show (qPad n []).length + 1 = n + 1; rw [ih]
    | cons a L => show (qPad n L).length + 1 = n + 1; rw [ih]
/-- what is to be known of a method -/
def qMethOk (MT : Nat → qMI) (NM : qNmT) (Z : Nat → qSh) (N : Nat) (ST : qEnv → State → Heap → Prop) (y : Nat) : Prop :=
  ∃ (Y : MethodName) (cc : ByteArray), NM y = (Y, Cond.code Y cc (MT y).2.1 (MT y).2.2.1 :: gT) ∧ plainName Y.cls = true ∧ qTabOk MT NM Z N ST (Cond.code Y cc (MT y).2.1 (MT y).2.2.1 :: gT) Y.cls cc (MT y).2.1 (MT y).2.2.2 (MT y).2.2.1 (MT y).1
theorem narrow_char {v : Int32} (h1 : 0 ≤ v.toInt) (h2 : v.toInt < 65536) : narrow .char (.int v) = .int v := by
  have e : narrow .char (.int v) = .int (v.toUInt32.toUInt16.toUInt32.toInt32) := rfl
  rw [e, lg_i2c_small h1 h2]
theorem qRet_ok {Z : Nat → qSh} {N : Nat} {ST : qEnv → State → Heap → Prop} {Ts : List Cond} {own : String} {cc : ByteArray} {nL wp : Nat} {E : qEnv} {d : Nat} {p : Program} {l : Launch} {e : Env} {R : Room} {s : State} {me : MethodId} {args : Array Value} {below : List Frame} {meth : Method} {c : Code} {rt : Option FieldType} {t : qSt} {r : Option Value} {k : Nat}
    (F : qFr Z N ST E Ts own cc nL d p R s me args c 0 0) (hlk : meth.locks = false) (hr : meth.sig.returnType = rt) (hk : qRetAt cc t.1 k) (h : qRet rt t.2.2.1 = some r) (hk2 : (k = 0 ∧ rt ≠ none ∧ ∀ n, rt ≠ some (.object n)) ∨ (k = 1 ∧ ∃ n, rt = some (.object n)) ∨ (2 ≤ k ∧ rt = none)) :
    qWM Z N E nL wp p l e R s me args below meth c 0 0 (MQ below (qQ Z N E r t.2.2.2) args s 0 0 (qA E)) t := by
  intro H locs ls hP hS hL hc
  obtain ⟨hX, hb, hml, hts, hown, hK, hbs, hst, hE, hR, hC⟩ := F
  obtain ⟨pc, L, st, m⟩ := t
  have hpost : ∀ u : State, u.heap = H → s.WarmedH u.vm → qQ Z N E r m args s (.returned (r.map (qX E))) u := fun u hu _ => ⟨⟨rfl, by rw [hu]; exact hP, hc⟩, hS.F hu⟩
  have fi : ∀ (v : Int32) (ty : FieldType), st = [.int v] → r = some (.int v) → rt = some ty → narrow ty (.int v) = .int v → k = 0 → W p l e R s me args below meth c H locs 0 0 (MQ below (qQ Z N E r m) args s 0 0 (qA E)) (F0 me pc ls (st.map (qX E))) := by
    intro v ty h1 h2 h3 h4 h5
    subst h1; subst h2; subst h3; subst h5
    exact W.zret hX hb hr h4 hpost hS.2.2 hk
  cases rt with
  | none =>
    rcases hk2 with ⟨-, h0, -⟩ | ⟨-, n, h0⟩ | ⟨hk2, -⟩
    · exact absurd rfl h0
    · cases h0
    · cases st with
      | cons a st => cases h
      | nil =>
        have e : r = none := (Option.some.inj h).symm
        subst e
        have hk' : decode cc pc = .ok (.return_, 1) := by
          rcases k with _ | _ | k
          · omega
          · omega
          · exact hk
        exact W.vret hX hb hr hpost hS.2.2 hk'
  | some ty =>
    rcases hk2 with ⟨hk2, -, hno⟩ | ⟨hk2, n, h0⟩ | ⟨-, h0⟩
    · rcases st with _ | ⟨a, st⟩
      · cases ty <;> cases h
      · rcases st with _ | ⟨b, st⟩
        · cases a with
          | int v =>
            cases ty with
            | int => exact fi v .int rfl (Option.some.inj h).symm rfl rfl hk2
            | boolean =>
              have h' : (if v = 0 ∨ v = 1 then some (some (Value.int v)) else none) = some r := h
              by_cases h01 : v = 0 ∨ v = 1
              · rw [if_pos h01] at h'
                exact fi v .boolean rfl (Option.some.inj h').symm rfl (by rcases h01 with rfl | rfl <;> rfl) hk2
              · rw [if_neg h01] at h'
                cases h'
            | char =>
              have h' : (if 0 ≤ v.toInt ∧ v.toInt < 65536 then some (some (Value.int v)) else none) = some r := h
              by_cases h01 : 0 ≤ v.toInt ∧ v.toInt < 65536
              · rw [if_pos h01] at h'
                exact fi v .char rfl (Option.some.inj h').symm rfl (narrow_char h01.1 h01.2) hk2
              · rw [if_neg h01] at h'
                cases h'
            | byte =>
              have h' : (if v = 0 then some (some (Value.int v)) else none) = some r := h
              by_cases h01 : v = 0
              · rw [if_pos h01] at h'
                exact fi v .byte rfl (Option.some.inj h').symm rfl (by rw [h01]; rfl) hk2
              · rw [if_neg h01] at h'
                cases h'
            | object n => exact absurd rfl (hno n)
            | _ => cases h
          | _ =>
            cases ty <;> first | exact absurd rfl (hno _) | (cases h; done)
        · cases ty <;> first | cases h | (cases a <;> cases h)
    · cases h0
      rcases st with _ | ⟨a, st⟩
      · cases h
      · rcases st with _ | ⟨b, st⟩
        · cases a with
          | ref j =>
            have e : r = some (.ref j) := (Option.some.inj h).symm
            subst e; subst hk2
            have hv : qX E (.ref j) = .null ∨ ∃ a, qX E (.ref j) = .ref a := by
              cases hj : Nat.blt j 150 with
              | true => exact Or.inr ⟨_, qX_ref hj⟩
              | false =>
                have e2 : qX E (.ref j) = qFm E := by
                  show (bif Nat.blt j 150 then Value.ref (qAd E j) else qFm E) = qFm E
                  rw [hj]
                  rfl
                rw [e2]
                exact hE.2.2.1.2
            exact W.aret hX hb hr (Or.inl ⟨n, rfl⟩) hv hpost hS.2.2 hk
          | _ => cases h
        · cases a <;> cases h
    · cases h0
theorem q_all {MT : Nat → qMI} {NM : qNmT} {Z : Nat → qSh} {N : Nat} {ST : qEnv → State → Heap → Prop} (hall : ∀ y, (MT y).1 = qNo ∨ qMethOk MT NM Z N ST y) (E : qEnv) (hE : qOkE Z N E) (l : Launch) : ∀ d, qIH MT NM Z N ST E l d := by
  intro d
  induction d with
  | zero => intro y vs s r s2 h; cases h
  | succ d ih =>
    intro y vs t r t2 h
    have h' : (bif qAok (MT y).2.2.2 0 vs && Nat.ble (qFl vs).length (MT y).2.1 then (qDen (qCall MT d) (MT y).1 (0, qPad (MT y).2.1 (qFl vs), [], t)).bind (fun t => (qRet (MT y).2.2.1 t.2.2.1).map (fun r => (r, t.2.2.2))) else none) = some (r, t2) := h
    cases hg : (qAok (MT y).2.2.2 0 vs && Nat.ble (qFl vs).length (MT y).2.1) with
    | false => rw [hg] at h'; cases h'
    | true =>
      rw [hg] at h'
      simp only [cond_true] at h'
      rw [Bool.and_eq_true] at hg
      cases hd : qDen (qCall MT d) (MT y).1 (0, qPad (MT y).2.1 (qFl vs), [], t) with
      | none => rw [hd] at h'; cases h'
      | some z =>
        rw [hd] at h'
        simp only [Option.bind_some] at h'
        cases hr : qRet (MT y).2.2.1 z.2.2.1 with
        | none => rw [hr] at h'; cases h'
        | some r2 =>
          rw [hr] at h'
          cases h'
          obtain ⟨n, hn⟩ := qDen_run hd
          rcases hall y with hno | ⟨Y, cc, hNM, hpl, htab⟩
          · rw [hno] at hn
            cases n with
            | zero => cases hn
            | succ n => cases hn
          · rw [hNM]
            refine Met.ofW (cc := cc) (maxL := (MT y).2.1) (ret := (MT y).2.2.1) hpl rfl ?_
            intro p e s me args below meth c s₁ B hml hv
            obtain ⟨hargs, hbs, hP, hK, hst, hc⟩ := hv
            subst hargs
            have F : qFr Z N ST E (Cond.code Y cc (MT y).2.1 (MT y).2.2.1 :: gT) Y.cls cc (MT y).2.1 d p (headSpec (Cond.code Y cc (MT y).2.1 (MT y).2.2.1 :: gT) (qRm (d + 1))).room s me ((vs.map (qX E)).toArray) c 0 0 := ⟨B.exec, B.bytes, hml, atoms_spec (ws := Cond.code Y cc (MT y).2.1 (MT y).2.2.1 :: gT) B.pre, findClass_of_methodNamed B.named, hK, hbs, hst, hE, ⟨Nat.le_refl _, Nat.le_refl _⟩, Nat.le_refl _, Nat.le_refl _⟩
            obtain ⟨⟨k, hk, hk2⟩, hw⟩ := qRun_ok htab F ih n _ z hn (e := e) (below := below) (meth := meth) (Q := MQ below (qQ Z N E r z.2.2.2) ((vs.map (qX E)).toArray) s 0 0 (qA E))
            have hw2 := hw (qRet_ok F B.notSynchronized B.returns hk hr (qRk_spec hk2))
            obtain ⟨a1, a2⟩ := q_args (E := E) hE.2.2.1.1 vs 0 hg.1
            have hle : (lg_sl (vs.map (qX E))).length ≤ (MT y).2.1 := by
              rw [a1]
              exact Nat.le_of_ble_eq_true hg.2
            have hl := lv_entry (vs.map (qX E)) hle
            rw [lg_entry_eq]
            generalize (lg_sl (vs.map (qX E)) ++ List.replicate ((MT y).2.1 - (lg_sl (vs.map (qX E))).length) Slot.unset).toArray = ls at hl ⊢
            refine hw2 s.heap [] ls hP va_S.rf ⟨hl.1, hl.2.1, qPad_len, fun i v hi => ?_, fun i v hi hcat => ?_⟩ hc
            · have := (a2 i v (qLk_pad hi)).1
              rw [Nat.zero_add] at this
              exact hl.2.2 _ this
            · have := (a2 i v (qLk_pad hi)).2 hcat
              rwa [Nat.zero_add] at this
