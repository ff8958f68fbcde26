/-! memory steps are sound -/
/-- what is asked of the fixed things: rows of ints, bytes, texts, the script; they go along -/
def qSTok (Z : Nat → qSh) (ST : qEnv → State → Heap → Prop) : Prop :=
  (∀ (E : qEnv) (U : State) (H : Heap), ST E U H →
    (∀ (o n : Nat) (fs : List Nat), Z o = (4, n, fs) → Nat.blt o 150 = true ∧ va_T .int (qAd E o) n (fun j => .int (qKon fs j)) (qA E) U H) ∧
    (∀ (o n : Nat) (fs : List Nat), Z o = (5, n, fs) → Nat.blt o 150 = true ∧ va_T .byte (qAd E o) n (fun j => .int (qKon fs j)) (qA E) U H) ∧
    (∀ (o b : Nat) (fs : List Nat), Z o = (6, b, fs) → Nat.blt o 150 = true ∧ Nat.blt b 150 = true ∧ va_O "java/lang/String" (qAd E o) (qA E) U H ∧ va_OF "java/lang/String" "coder" "B" (.int 0) (qAd E o) (qA E) U H ∧ va_OF "java/lang/String" "value" "[B" (.ref (qAd E b)) (qAd E o) (qA E) U H) ∧
    (∀ (o n : Nat) (fs : List Nat), Z o = (7, n, fs) → o = 70 ∧ qLn E < 2 ^ 31 ∧ va_T .int (qAd E 70) (qLn E) (fun j => .int (qXs E j)) (qA E) U H)) ∧
  (∀ (E : qEnv) (s U : State) (H : Heap) (locs : List Loc), ST E s s.heap → s.WarmedH U.vm → va_S (qA E) s.heap H locs → U.heap = H → ST E U U.heap) ∧
  (∀ (E : qEnv) (U : State) (g : JFrame) (mk : MethodId) (a : Array Value), ST E U U.heap → ST E (U.calling g mk a) (U.calling g mk a).heap)
theorem qFld_spec {Z : Nat → qSh} {o c k f : Nat} (h : qFld Z o c k = f) (h0 : f ≠ 0) : ∃ fs, Z o = (3, c, fs) ∧ qNth fs k = f := by
  unfold qFld at h
  split at h
  · rename_i c2 fs hz
    cases hc : Nat.beq c2 c with
    | false =>
      rw [hc] at h
      exact absurd h.symm h0
    | true =>
      rw [hc] at h
      have e : c2 = c := Nat.eq_of_beq_eq_true hc
      subst e
      exact ⟨fs, hz, h⟩
  · exact absurd h.symm h0
theorem qSc_W {E : qEnv} {s : qMem} {o k : Nat} {v : Int32} (h : o < 60) (hc : qSc E s) : qSc E (qW s o k v) := by
  refine ⟨fun j hj => ?_, ?_⟩
  · rw [qW_other (by omega)]
    exact hc.1 j hj
  · rw [qW_other (by omega)]
    exact hc.2
theorem qBlt {o N : Nat} (h : o < N) (hN : N ≤ 60) : Nat.blt o 150 = true := Nat.ble_eq_true_of_le (by omega)
theorem qIn_vp {i : Int32} {n : Nat} (h : qIn i n) : vp_in i n := vp_in_iff.mpr h
theorem qWld_W {Z : Nat → qSh} {N : Nat} {E : qEnv} {s : qMem} {o k : Nat} {v : Int32} {e : va_E} (ho : o < N) (h : qMk E (upd (s.1 o) k v) s.2 (Z o) = e) : (qWld Z N E s).set o (qAd E o, e) = qWld Z N E (qW s o k v) := by
  refine qWld_upd ho (fun j _ hj => ?_) ?_
  · rw [qW_other hj]
    rfl
  · rw [qW_row]
    exact h
theorem qFs_noL {E : qEnv} {g : Nat → Int32} {t v : Int64} : ∀ (fs : List Nat) (j : Nat), (∀ i, qNth fs i ≠ 3) → qFs E g v j fs = qFs E g t j fs := by
  intro fs
  induction fs with
  | nil => intro j _; rfl
  | cons a l ih =>
    intro j hz
    have h0 : a ≠ 3 := hz 0
    have e : qFv E g v j a = qFv E g t j a := by
      rcases a with _ | _ | _ | _ | a <;> try rfl
      exact absurd rfl h0
    rw [qFs, qFs, e, ih (j + 1) (fun z => hz (z + 1))]
section QM
variable {MT : Nat → qMI} {NM : qNmT} {Z : Nat → qSh} {N : Nat} {ST : qEnv → State → Heap → Prop} {Ts : List Cond} {own : String} {cc : ByteArray} {nL wp pc : Nat}
theorem q_getI {idx ci k NF : Nat} {C : String} {T : u_T} (hdg : decode cc pc = .ok (.getfield idx, 3)) (hin : ∀ w ∈ u_ws C T NF, w ∈ Ts) (hcl : vwCl[ci]? = some (C, T, NF)) (hk : k < NF) (hw : Cond.fieldLink own idx (T k).1 (T k).2.1 (T k).2.2.1 ∈ Ts) : qSnd MT NM Z N ST Ts own cc nL wp pc (qGetI Z ci k) := by
  intro E d p l e R s me args below meth c cells slots Q F I L st t x hf hx H locs ls hP hS hL hc
  obtain ⟨hX, hb, hml, hts, hown, hK, hbs, hst, hE, hR, hC⟩ := F
  rcases st with _ | ⟨a, st⟩
  · cases hf
  · cases a <;> simp only [qGetI, reduceCtorEq] at hf
    rename_i o
    split at hf
    · rename_i hq
      obtain ⟨fs, hz, hn⟩ := qFld_spec hq (by decide)
      have ho : o < N := hE.2.2.2.1 o (by rw [hz]; exact Nat.lt_succ_self 3)
      cases hf
      show W p l e R s me args below meth c H locs cells slots Q (F0 me pc ls (qX E (.ref o) :: st.map (qX E)))
      rw [qX_ref (qBlt ho hE.2.2.2.2)]
      refine va_get hX hb hts hin hown hK hP o (fs := qFs E (t.1 o) t.2 0 fs) (by rw [qWld_at ho, hz]; rfl) hcl k hk (hts _ hw) (fun _ h => h) (v := .int (t.1 o k)) ?_ hdg ?_
      · rw [qFs_get fs 0 k (by rw [hn]; decide), hn, Nat.zero_add]
        rfl
      · exact hx H locs ls hP hS hL hc
    · rename_i hq
      obtain ⟨fs, hz, hn⟩ := qFld_spec hq (by decide)
      have ho : o < N := hE.2.2.2.1 o (by rw [hz]; exact Nat.lt_succ_self 3)
      cases hf
      show W p l e R s me args below meth c H locs cells slots Q (F0 me pc ls (qX E (.ref o) :: st.map (qX E)))
      rw [qX_ref (qBlt ho hE.2.2.2.2)]
      refine va_get hX hb hts hin hown hK hP o (fs := qFs E (t.1 o) t.2 0 fs) (by rw [qWld_at ho, hz]; rfl) hcl k hk (hts _ hw) (fun _ h => h) (v := .int (t.1 o k)) ?_ hdg ?_
      · rw [qFs_get fs 0 k (by rw [hn]; decide), hn, Nat.zero_add]
        rfl
      · exact hx H locs ls hP hS hL hc
    · cases hf
theorem q_getL {idx ci k NF : Nat} {C : String} {T : u_T} (hdg : decode cc pc = .ok (.getfield idx, 3)) (hin : ∀ w ∈ u_ws C T NF, w ∈ Ts) (hcl : vwCl[ci]? = some (C, T, NF)) (hk : k < NF) (hw : Cond.fieldLink own idx (T k).1 (T k).2.1 (T k).2.2.1 ∈ Ts) : qSnd MT NM Z N ST Ts own cc nL wp pc (qGetL Z ci k) := by
  intro E d p l e R s me args below meth c cells slots Q F I L st t x hf hx H locs ls hP hS hL hc
  obtain ⟨hX, hb, hml, hts, hown, hK, hbs, hst, hE, hR, hC⟩ := F
  rcases st with _ | ⟨a, st⟩
  · cases hf
  · cases a <;> simp only [qGetL, reduceCtorEq] at hf
    rename_i o
    split at hf
    · rename_i hq
      obtain ⟨fs, hz, hn⟩ := qFld_spec hq (by decide)
      have ho : o < N := hE.2.2.2.1 o (by rw [hz]; exact Nat.lt_succ_self 3)
      cases hf
      show W p l e R s me args below meth c H locs cells slots Q (F0 me pc ls (qX E (.ref o) :: st.map (qX E)))
      rw [qX_ref (qBlt ho hE.2.2.2.2)]
      refine va_get hX hb hts hin hown hK hP o (fs := qFs E (t.1 o) t.2 0 fs) (by rw [qWld_at ho, hz]; rfl) hcl k hk (hts _ hw) (fun _ h => h) (v := .long t.2) ?_ hdg ?_
      · rw [qFs_get fs 0 k (by rw [hn]; decide), hn, Nat.zero_add]
        rfl
      · exact hx H locs ls hP hS hL hc
    · cases hf
theorem q_getR {idx ci k NF : Nat} {C : String} {T : u_T} (hdg : decode cc pc = .ok (.getfield idx, 3)) (hin : ∀ w ∈ u_ws C T NF, w ∈ Ts) (hcl : vwCl[ci]? = some (C, T, NF)) (hk : k < NF) (hw : Cond.fieldLink own idx (T k).1 (T k).2.1 (T k).2.2.1 ∈ Ts) : qSnd MT NM Z N ST Ts own cc nL wp pc (qGetR Z ci k) := by
  intro E d p l e R s me args below meth c cells slots Q F I L st t x hf hx H locs ls hP hS hL hc
  obtain ⟨hX, hb, hml, hts, hown, hK, hbs, hst, hE, hR, hC⟩ := F
  rcases st with _ | ⟨a, st⟩
  · cases hf
  · cases a <;> simp only [qGetR, reduceCtorEq] at hf
    rename_i o
    split at hf
    · rename_i r hq
      obtain ⟨fs, hz, hn⟩ := qFld_spec hq (by omega)
      have ho : o < N := hE.2.2.2.1 o (by rw [hz]; exact Nat.lt_succ_self 3)
      cases hb2 : Nat.blt r 150 with
      | false => rw [hb2] at hf; cases hf
      | true =>
        rw [hb2] at hf
        cases hf
        show W p l e R s me args below meth c H locs cells slots Q (F0 me pc ls (qX E (.ref o) :: st.map (qX E)))
        rw [qX_ref (qBlt ho hE.2.2.2.2)]
        refine va_get hX hb hts hin hown hK hP o (fs := qFs E (t.1 o) t.2 0 fs) (by rw [qWld_at ho, hz]; rfl) hcl k hk (hts _ hw) (fun _ h => h) (v := .ref (qAd E r)) ?_ hdg ?_
        · rw [qFs_get fs 0 k (by rw [hn]; omega), hn, Nat.zero_add]
          rfl
        · have h2 := hx H locs ls hP hS hL hc
          simp only [List.map_cons, qX_ref hb2] at h2
          exact h2
    · cases hf
theorem q_putI {idx ci k NF : Nat} {C : String} {T : u_T} (hdg : decode cc pc = .ok (.putfield idx, 3)) (hin : ∀ w ∈ u_ws C T NF, w ∈ Ts) (hcl : vwCl[ci]? = some (C, T, NF)) (hk : k < NF) (hw : Cond.fieldLink own idx (T k).1 (T k).2.1 (T k).2.2.1 ∈ Ts) (ty0 : Nat → FieldType) (hty : ∀ k, k < NF → parseFieldDescriptor (T k).2.2.1 = some (ty0 k)) (hnm : ∀ a, a < NF → ∀ b, b < NF → a ≠ b → (T a).2.1 ≠ (T b).2.1) (hfin : (T k).2.2.2 = false) (hd : parseFieldDescriptor (T k).2.2.1 = some .int) : qSnd MT NM Z N ST Ts own cc nL wp pc (qPutI Z ci k) := by
  intro E d p l e R s me args below meth c cells slots Q F I L st t x hf hx H locs ls hP hS hL hc
  obtain ⟨hX, hb, hml, hts, hown, hK, hbs, hst, hE, hR, hC⟩ := F
  rcases st with _ | ⟨a, st⟩
  · cases hf
  · cases a <;> simp only [qPutI, reduceCtorEq] at hf
    rename_i v
    rcases st with _ | ⟨a, st⟩
    · cases hf
    · cases a <;> simp only [reduceCtorEq] at hf
      rename_i o
      split at hf
      · rename_i hq
        obtain ⟨fs, hz, hn⟩ := qFld_spec hq (by decide)
        have ho : o < N := hE.2.2.2.1 o (by rw [hz]; exact Nat.lt_succ_self 3)
        · cases hf
          show W p l e R s me args below meth c H locs cells slots Q (F0 me pc ls (.int v :: qX E (.ref o) :: st.map (qX E)))
          rw [qX_ref (qBlt ho hE.2.2.2.2)]
          refine va_put hX hb hts hin ty0 hty hnm hown hK hP (qWld_D hE) hS o (fs := qFs E (t.1 o) t.2 0 fs) (by rw [qWld_at ho, hz]; rfl) hcl k hk (hts _ hw) (fun _ h => h) hfin (ty := .int) hd rfl rfl (qFs_len fs 0 k (by rw [hn]; decide)) hdg (fun H1 locs1 hP1 _ hS1 => ?_)
          rw [qFs_set fs 0 k (by rw [hn]; decide), Nat.zero_add, qWld_W ho (by rw [hz]; rfl)] at hP1
          exact hx H1 locs1 ls hP1 hS1 hL (qSc_W (Nat.lt_of_lt_of_le ho hE.2.2.2.2) hc)
      · cases hf
theorem q_putZ {idx ci k NF : Nat} {C : String} {T : u_T} (hdg : decode cc pc = .ok (.putfield idx, 3)) (hin : ∀ w ∈ u_ws C T NF, w ∈ Ts) (hcl : vwCl[ci]? = some (C, T, NF)) (hk : k < NF) (hw : Cond.fieldLink own idx (T k).1 (T k).2.1 (T k).2.2.1 ∈ Ts) (ty0 : Nat → FieldType) (hty : ∀ k, k < NF → parseFieldDescriptor (T k).2.2.1 = some (ty0 k)) (hnm : ∀ a, a < NF → ∀ b, b < NF → a ≠ b → (T a).2.1 ≠ (T b).2.1) (hfin : (T k).2.2.2 = false) (hd : parseFieldDescriptor (T k).2.2.1 = some .boolean) : qSnd MT NM Z N ST Ts own cc nL wp pc (qPutZ Z ci k) := by
  intro E d p l e R s me args below meth c cells slots Q F I L st t x hf hx H locs ls hP hS hL hc
  obtain ⟨hX, hb, hml, hts, hown, hK, hbs, hst, hE, hR, hC⟩ := F
  rcases st with _ | ⟨a, st⟩
  · cases hf
  · cases a <;> simp only [qPutZ, reduceCtorEq] at hf
    rename_i v
    rcases st with _ | ⟨a, st⟩
    · cases hf
    · cases a <;> simp only [reduceCtorEq] at hf
      rename_i o
      split at hf
      · rename_i hq
        obtain ⟨fs, hz, hn⟩ := qFld_spec hq (by decide)
        have ho : o < N := hE.2.2.2.1 o (by rw [hz]; exact Nat.lt_succ_self 3)
        by_cases h01 : v = 0 ∨ v = 1
        · rw [if_pos h01] at hf
          cases hf
          show W p l e R s me args below meth c H locs cells slots Q (F0 me pc ls (.int v :: qX E (.ref o) :: st.map (qX E)))
          rw [qX_ref (qBlt ho hE.2.2.2.2)]
          refine va_put hX hb hts hin ty0 hty hnm hown hK hP (qWld_D hE) hS o (fs := qFs E (t.1 o) t.2 0 fs) (by rw [qWld_at ho, hz]; rfl) hcl k hk (hts _ hw) (fun _ h => h) hfin (ty := .boolean) hd (by rcases h01 with rfl | rfl <;> rfl) (by rcases h01 with rfl | rfl <;> rfl) (qFs_len fs 0 k (by rw [hn]; decide)) hdg (fun H1 locs1 hP1 _ hS1 => ?_)
          rw [qFs_set fs 0 k (by rw [hn]; decide), Nat.zero_add, qWld_W ho (by rw [hz]; rfl)] at hP1
          exact hx H1 locs1 ls hP1 hS1 hL (qSc_W (Nat.lt_of_lt_of_le ho hE.2.2.2.2) hc)
        · rw [if_neg h01] at hf
          cases hf
      · cases hf
theorem q_putL {idx ci k NF : Nat} {C : String} {T : u_T} (hdg : decode cc pc = .ok (.putfield idx, 3)) (hin : ∀ w ∈ u_ws C T NF, w ∈ Ts) (hcl : vwCl[ci]? = some (C, T, NF)) (hk : k < NF) (hw : Cond.fieldLink own idx (T k).1 (T k).2.1 (T k).2.2.1 ∈ Ts) (ty0 : Nat → FieldType) (hty : ∀ k, k < NF → parseFieldDescriptor (T k).2.2.1 = some (ty0 k)) (hnm : ∀ a, a < NF → ∀ b, b < NF → a ≠ b → (T a).2.1 ≠ (T b).2.1) (hfin : (T k).2.2.2 = false) (hd : parseFieldDescriptor (T k).2.2.1 = some .long) (hu : ∀ o c2 fs j, Z o = (3, c2, fs) → qNth fs j = 3 → c2 = ci ∧ j = k) (hone : ∀ o o2 fs fs2, Z o = (3, ci, fs) → Z o2 = (3, ci, fs2) → o = o2) (hfar : ∀ j kd c2 fs2, j < N → Z j = (kd + 4, c2, fs2) → False) : qSnd MT NM Z N ST Ts own cc nL wp pc (qPutL Z ci k) := by
  intro E d p l e R s me args below meth c cells slots Q F I L st t x hf hx H locs ls hP hS hL hc
  obtain ⟨hX, hb, hml, hts, hown, hK, hbs, hst, hE, hR, hC⟩ := F
  rcases st with _ | ⟨a, st⟩
  · cases hf
  · cases a <;> simp only [qPutL, reduceCtorEq] at hf
    rename_i v
    rcases st with _ | ⟨a, st⟩
    · cases hf
    · cases a <;> simp only [reduceCtorEq] at hf
      rename_i o
      split at hf
      · rename_i hq
        obtain ⟨fs, hz, hn⟩ := qFld_spec hq (by decide)
        have ho : o < N := hE.2.2.2.1 o (by rw [hz]; exact Nat.lt_succ_self 3)
        cases hf
        show W p l e R s me args below meth c H locs cells slots Q (F0 me pc ls (.long v :: qX E (.ref o) :: st.map (qX E)))
        rw [qX_ref (qBlt ho hE.2.2.2.2)]
        refine va_put hX hb hts hin ty0 hty hnm hown hK hP (qWld_D hE) hS o (fs := qFs E (t.1 o) t.2 0 fs) (by rw [qWld_at ho, hz]; rfl) hcl k hk (hts _ hw) (fun _ h => h) hfin (ty := .long) hd rfl rfl (qFs_len fs 0 k (by rw [hn]; decide)) hdg (fun H1 locs1 hP1 _ hS1 => ?_)
        rw [qFs_setL fs 0 k hn (fun i hi => (hu o ci fs i hz hi).2)] at hP1
        have e2 : (qWld Z N E t).set o (qAd E o, .inr (ci, qFs E (t.1 o) v 0 fs)) = qWld Z N E (t.1, v) := by
          refine qWld_upd ho (fun j hj hne => ?_) (by rw [hz]; rfl)
          show qMk E (t.1 j) v (Z j) = qMk E (t.1 j) t.2 (Z j)
          rcases hzj : Z j with ⟨kd, c2, fs2⟩
          rcases kd with _ | _ | _ | _ | kd
          · rfl
          · rfl
          · rfl
          · refine congrArg (fun q => Sum.inr (c2, q)) (qFs_noL fs2 0 (fun i hi => hne ?_))
            obtain ⟨rfl, -⟩ := hu j c2 fs2 i hzj hi
            exact hone j o fs2 fs hzj hz
          · exact (hfar j kd c2 fs2 hj hzj).elim
        rw [e2] at hP1
        exact hx H1 locs1 ls hP1 hS1 hL hc
      · cases hf
end QM
