/-! rows, texts, statics -/
theorem qCpy_other {s : qMem} {o o2 sp dp n a : Nat} (h : a ≠ o2) : (qCpy s o o2 sp dp n).1 a = s.1 a := by
  funext b
  show (if a = o2 then va_cpy (s.1 o) (s.1 o2) sp dp n b else s.1 a b) = s.1 a b
  rw [if_neg h]
theorem qCpy_row {s : qMem} {o o2 sp dp n : Nat} : (qCpy s o o2 sp dp n).1 o2 = va_cpy (s.1 o) (s.1 o2) sp dp n := by
  funext b
  show (if o2 = o2 then va_cpy (s.1 o) (s.1 o2) sp dp n b else s.1 o2 b) = va_cpy (s.1 o) (s.1 o2) sp dp n b
  rw [if_pos rfl]
section QR
variable {MT : Nat → qMI} {NM : qNmT} {Z : Nat → qSh} {N : Nat} {ST : qEnv → State → Heap → Prop} {Ts : List Cond} {own : String} {cc : ByteArray} {nL wp pc : Nat}
theorem q_iald (hQ : qSTok Z ST) (hdg : decode cc pc = .ok (.iaload, 1)) : qSnd MT NM Z N ST Ts own cc nL wp pc (qIald Z) := by
  intro E d p l e R s me args below meth c cells slots Q F I L st t x hf hx H locs ls hP hS hL hc
  obtain ⟨hX, hb, hml, hts, hown, hK, hbs, hst, hE, hR, hC⟩ := F
  rcases st with _ | ⟨a, st⟩
  · cases hf
  · cases a <;> simp only [qIald, reduceCtorEq] at hf
    rename_i i
    rcases st with _ | ⟨a, st⟩
    · cases hf
    · cases a <;> (try simp only [reduceCtorEq] at hf)
      rename_i o
      show W p l e R s me args below meth c H locs cells slots Q (F0 me pc ls (.int i :: qX E (.ref o) :: st.map (qX E)))
      obtain ⟨h4, h5, h6, h7⟩ := hQ.1 E s s.heap hst
      split at hf
      · rename_i n fs hz
        by_cases hi : qIn i n
        · rw [if_pos hi] at hf
          cases hf
          have ho : o < N := hE.2.2.2.1 o (by rw [hz]; exact Nat.zero_lt_succ 3)
          rw [qX_ref (qBlt ho hE.2.2.2.2)]
          exact va_iald hX hb hK hP o 0 (f := t.1 o) (by rw [qWld_at ho, hz]; rfl) rfl (qIn_vp hi) hdg (hx H locs ls hP hS hL hc)
        · rw [if_neg hi] at hf
          cases hf
      · rename_i n fs hz
        by_cases hi : qIn i n
        · rw [if_pos hi] at hf
          cases hf
          obtain ⟨hk, hT⟩ := h4 o n fs hz
          rw [qX_ref hk]
          exact va_ti hX hb hT hS (qIn_vp hi) rfl hdg (hx H locs ls hP hS hL hc)
        · rw [if_neg hi] at hf
          cases hf
      · rename_i n fs hz
        obtain ⟨rfl, hL2, hT⟩ := h7 o n fs hz
        rw [hc.2, nI_toInt hL2] at hf
        by_cases hi : 0 ≤ i.toInt ∧ i.toInt < (qLn E : Int)
        · rw [if_pos hi] at hf
          cases hf
          rw [qX_ref rfl]
          have hlt : i.toNatClampNeg < qLn E := Nat.not_le.mp fun q => qIn_vp hi (Or.inr q)
          exact va_ti hX hb hT hS (qIn_vp hi) (v := .int (t.1 70 i.toNatClampNeg)) (by rw [hc.1 _ hlt]) hdg (hx H locs ls hP hS hL hc)
        · rw [if_neg hi] at hf
          cases hf
      · cases hf
theorem q_bald (hQ : qSTok Z ST) (hdg : decode cc pc = .ok (.baload, 1)) : qSnd MT NM Z N ST Ts own cc nL wp pc (qBald Z) := by
  intro E d p l e R s me args below meth c cells slots Q F I L st t x hf hx H locs ls hP hS hL hc
  obtain ⟨hX, hb, hml, hts, hown, hK, hbs, hst, hE, hR, hC⟩ := F
  rcases st with _ | ⟨a, st⟩
  · cases hf
  · cases a <;> simp only [qBald, reduceCtorEq] at hf
    rename_i i
    rcases st with _ | ⟨a, st⟩
    · cases hf
    · cases a <;> (try simp only [reduceCtorEq] at hf)
      rename_i o
      show W p l e R s me args below meth c H locs cells slots Q (F0 me pc ls (.int i :: qX E (.ref o) :: st.map (qX E)))
      obtain ⟨h4, h5, h6, h7⟩ := hQ.1 E s s.heap hst
      split at hf
      · rename_i n fs hz
        by_cases hi : qIn i n
        · rw [if_pos hi] at hf
          cases hf
          have ho : o < N := hE.2.2.2.1 o (by rw [hz]; exact (by decide : 1 < 4))
          rw [qX_ref (qBlt ho hE.2.2.2.2)]
          exact va_zald hX hb hK hP o 1 (f := t.1 o) (by rw [qWld_at ho, hz]; rfl) rfl (qIn_vp hi) hdg (hx H locs ls hP hS hL hc)
        · rw [if_neg hi] at hf
          cases hf
      · rename_i n fs hz
        by_cases hi : qIn i n
        · rw [if_pos hi] at hf
          cases hf
          obtain ⟨hk, hT⟩ := h5 o n fs hz
          rw [qX_ref hk]
          exact va_tb hX hb hT hS (qIn_vp hi) rfl hdg (hx H locs ls hP hS hL hc)
        · rw [if_neg hi] at hf
          cases hf
      · cases hf
theorem q_iast (hdg : decode cc pc = .ok (.iastore, 1)) : qSnd MT NM Z N ST Ts own cc nL wp pc (qIast Z) := by
  intro E d p l e R s me args below meth c cells slots Q F I L st t x hf hx H locs ls hP hS hL hc
  obtain ⟨hX, hb, hml, hts, hown, hK, hbs, hst, hE, hR, hC⟩ := F
  rcases st with _ | ⟨a, st⟩
  · cases hf
  · cases a <;> simp only [qIast, reduceCtorEq] at hf
    rename_i v
    rcases st with _ | ⟨a, st⟩
    · cases hf
    · cases a <;> (try simp only [reduceCtorEq] at hf)
      rename_i i
      rcases st with _ | ⟨a, st⟩
      · cases hf
      · cases a <;> (try simp only [reduceCtorEq] at hf)
        rename_i o
        show W p l e R s me args below meth c H locs cells slots Q (F0 me pc ls (.int v :: .int i :: qX E (.ref o) :: st.map (qX E)))
        split at hf
        · rename_i n fs hz
          by_cases hi : qIn i n
          · rw [if_pos hi] at hf
            cases hf
            have ho : o < N := hE.2.2.2.1 o (by rw [hz]; exact Nat.zero_lt_succ 3)
            rw [qX_ref (qBlt ho hE.2.2.2.2)]
            refine va_iast hX hb hK hP (qWld_D hE) hS o 0 (f := t.1 o) (by rw [qWld_at ho, hz]; rfl) rfl (qIn_vp hi) hdg (fun H1 locs1 hP1 _ hS1 => ?_)
            rw [qWld_W ho (by rw [hz]; rfl)] at hP1
            exact hx H1 locs1 ls hP1 hS1 hL (qSc_W (Nat.lt_of_lt_of_le ho hE.2.2.2.2) hc)
          · rw [if_neg hi] at hf
            cases hf
        · cases hf
theorem q_bast (hdg : decode cc pc = .ok (.bastore, 1)) : qSnd MT NM Z N ST Ts own cc nL wp pc (qBast Z) := by
  intro E d p l e R s me args below meth c cells slots Q F I L st t x hf hx H locs ls hP hS hL hc
  obtain ⟨hX, hb, hml, hts, hown, hK, hbs, hst, hE, hR, hC⟩ := F
  rcases st with _ | ⟨a, st⟩
  · cases hf
  · cases a <;> simp only [qBast, reduceCtorEq] at hf
    rename_i v
    rcases st with _ | ⟨a, st⟩
    · cases hf
    · cases a <;> (try simp only [reduceCtorEq] at hf)
      rename_i i
      rcases st with _ | ⟨a, st⟩
      · cases hf
      · cases a <;> (try simp only [reduceCtorEq] at hf)
        rename_i o
        show W p l e R s me args below meth c H locs cells slots Q (F0 me pc ls (.int v :: .int i :: qX E (.ref o) :: st.map (qX E)))
        split at hf
        · rename_i n fs hz
          by_cases hi : qIn i n ∧ (v = 0 ∨ v = 1)
          · rw [if_pos hi] at hf
            cases hf
            have ho : o < N := hE.2.2.2.1 o (by rw [hz]; exact (by decide : 1 < 4))
            have hv : vp_nar .boolean v = v := by rcases hi.2 with rfl | rfl <;> rfl
            rw [qX_ref (qBlt ho hE.2.2.2.2)]
            refine va_zast hX hb hK hP (qWld_D hE) hS o 1 (f := t.1 o) (by rw [qWld_at ho, hz]; rfl) rfl (qIn_vp hi.1) hdg (fun H1 locs1 hP1 _ hS1 => ?_)
            rw [hv, qWld_W ho (by rw [hz]; rfl)] at hP1
            exact hx H1 locs1 ls hP1 hS1 hL (qSc_W (Nat.lt_of_lt_of_le ho hE.2.2.2.2) hc)
          · rw [if_neg hi] at hf
            cases hf
        · cases hf
theorem q_aald (hdg : decode cc pc = .ok (.aaload, 1)) : qSnd MT NM Z N ST Ts own cc nL wp pc (qAald Z) := by
  intro E d p l e R s me args below meth c cells slots Q F I L st t x hf hx H locs ls hP hS hL hc
  obtain ⟨hX, hb, hml, hts, hown, hK, hbs, hst, hE, hR, hC⟩ := F
  rcases st with _ | ⟨a, st⟩
  · cases hf
  · cases a <;> simp only [qAald, reduceCtorEq] at hf
    rename_i i
    rcases st with _ | ⟨a, st⟩
    · cases hf
    · cases a <;> (try simp only [reduceCtorEq] at hf)
      rename_i o
      show W p l e R s me args below meth c H locs cells slots Q (F0 me pc ls (.int i :: qX E (.ref o) :: st.map (qX E)))
      split at hf
      · rename_i a b hz
        have ho : o < N := hE.2.2.2.1 o (by rw [hz]; exact (by decide : 2 < 4))
        rw [qX_ref (qBlt ho hE.2.2.2.2)]
        cases hab : (Nat.blt a 150 && Nat.blt b 150) with
        | false => rw [hab] at hf; cases hf
        | true =>
          rw [hab] at hf
          simp only [cond_true] at hf
          rw [Bool.and_eq_true] at hab
          have key : ∀ (k : Nat) (r : Nat), i.toNatClampNeg = k → vp_in i 2 → qNth [a, b] k = r → Nat.blt r 150 = true → k < 2 → W p l e R s me args below meth c H locs cells slots Q (F0 me (pc + 1) ls (qX E (.ref r) :: st.map (qX E))) → W p l e R s me args below meth c H locs cells slots Q (F0 me pc ls (.int i :: .ref (qAd E o) :: st.map (qX E))) := by
            intro k r hik hin hr hb2 hk2 hw
            refine va_aldq hX hb hK hP o 2 (n := 2) (C := "GiantStair$Journey") (by rw [qWld_at ho, hz]; rfl) rfl hin hdg ?_
            rw [hik]
            have e : (if k < [a, b].length then some (qAd E (qNth [a, b] k)) else none) = some (qAd E r) := by rw [if_pos (show k < [a, b].length from hk2), hr]
            rw [e]
            rw [qX_ref hb2] at hw
            exact hw
          by_cases h0 : i = 0
          · rw [if_pos h0] at hf
            cases hf
            subst h0
            exact key 0 a rfl (vp_in_iff.mpr ⟨by decide, by decide⟩) rfl hab.1 (by decide) (hx H locs ls hP hS hL hc)
          · rw [if_neg h0] at hf
            by_cases h1 : i = 1
            · rw [if_pos h1] at hf
              cases hf
              subst h1
              exact key 1 b rfl (vp_in_iff.mpr ⟨by decide, by decide⟩) rfl hab.2 (by decide) (hx H locs ls hP hS hL hc)
            · rw [if_neg h1] at hf
              cases hf
      · cases hf
theorem q_alen (hQ : qSTok Z ST) (hdg : decode cc pc = .ok (.arraylength, 1)) : qSnd MT NM Z N ST Ts own cc nL wp pc (qAlen Z) := by
  intro E d p l e R s me args below meth c cells slots Q F I L st t x hf hx H locs ls hP hS hL hc
  obtain ⟨hX, hb, hml, hts, hown, hK, hbs, hst, hE, hR, hC⟩ := F
  rcases st with _ | ⟨a, st⟩
  · cases hf
  · cases a <;> simp only [qAlen, reduceCtorEq] at hf
    rename_i o
    show W p l e R s me args below meth c H locs cells slots Q (F0 me pc ls (qX E (.ref o) :: st.map (qX E)))
    obtain ⟨h4, h5, h6, h7⟩ := hQ.1 E s s.heap hst
    split at hf
    · rename_i n fs hz
      cases hf
      have ho : o < N := hE.2.2.2.1 o (by rw [hz]; exact Nat.zero_lt_succ 3)
      rw [qX_ref (qBlt ho hE.2.2.2.2)]
      exact va_alen hX hb hK hP o 0 (x := (n, .inl (t.1 o))) (by rw [qWld_at ho, hz]; rfl) rfl rfl hdg (hx H locs ls hP hS hL hc)
    · rename_i n fs hz
      cases hf
      obtain ⟨hk, hT⟩ := h4 o n fs hz
      rw [qX_ref hk]
      exact va_tlen hX hb hT hS rfl hdg (hx H locs ls hP hS hL hc)
    · rename_i n fs hz
      cases hf
      obtain ⟨hk, hT⟩ := h5 o n fs hz
      rw [qX_ref hk]
      exact va_tlen hX hb hT hS rfl hdg (hx H locs ls hP hS hL hc)
    · rename_i n fs hz
      cases hf
      obtain ⟨rfl, hL2, hT⟩ := h7 o n fs hz
      rw [qX_ref rfl]
      exact va_tlen hX hb hT hS (v := t.1 71 0) hc.2.symm hdg (hx H locs ls hP hS hL hc)
    · cases hf
theorem q_getTV (hQ : qSTok Z ST) {idx : Nat} (hdg : decode cc pc = .ok (.getfield idx, 3)) (hw : Cond.fieldLink own idx "java/lang/String" "value" "[B" ∈ Ts) : qSnd MT NM Z N ST Ts own cc nL wp pc (qGetTV Z) := by
  intro E d p l e R s me args below meth c cells slots Q F I L st t x hf hx H locs ls hP hS hL hc
  obtain ⟨hX, hb, hml, hts, hown, hK, hbs, hst, hE, hR, hC⟩ := F
  rcases st with _ | ⟨a, st⟩
  · cases hf
  · cases a <;> simp only [qGetTV, reduceCtorEq] at hf
    rename_i o
    show W p l e R s me args below meth c H locs cells slots Q (F0 me pc ls (qX E (.ref o) :: st.map (qX E)))
    obtain ⟨h4, h5, h6, h7⟩ := hQ.1 E s s.heap hst
    split at hf
    · rename_i b fs hz
      cases hf
      have h9 := h6 o b fs hz
      rw [qX_ref h9.1]
      refine vk_getf hX hb h9.2.2.2.2 hS hown (hts _ hw) (fun _ h => h) hdg ?_
      have h2 := hx H locs ls hP hS hL hc
      simp only [List.map_cons, qX_ref h9.2.1] at h2
      exact h2
    · cases hf
theorem q_getTC (hQ : qSTok Z ST) {idx : Nat} (hdg : decode cc pc = .ok (.getfield idx, 3)) (hw : Cond.fieldLink own idx "java/lang/String" "coder" "B" ∈ Ts) : qSnd MT NM Z N ST Ts own cc nL wp pc (qGetTC Z) := by
  intro E d p l e R s me args below meth c cells slots Q F I L st t x hf hx H locs ls hP hS hL hc
  obtain ⟨hX, hb, hml, hts, hown, hK, hbs, hst, hE, hR, hC⟩ := F
  rcases st with _ | ⟨a, st⟩
  · cases hf
  · cases a <;> simp only [qGetTC, reduceCtorEq] at hf
    rename_i o
    show W p l e R s me args below meth c H locs cells slots Q (F0 me pc ls (qX E (.ref o) :: st.map (qX E)))
    obtain ⟨h4, h5, h6, h7⟩ := hQ.1 E s s.heap hst
    split at hf
    · rename_i b fs hz
      cases hf
      have h9 := h6 o b fs hz
      rw [qX_ref h9.1]
      refine vk_getf hX hb h9.2.2.2.1 hS hown (hts _ hw) (fun _ h => h) hdg ?_
      have h2 := hx H locs ls hP hS hL hc
      
      exact h2
    · cases hf
theorem q_gets {idx o : Nat} {C n ds : String} (hz : ∀ (E : qEnv) (U : State) (H : Heap), ST E U H → va_Z C n ds (qX E (.ref o)) (qA E) U H) (hdg : decode cc pc = .ok (.getstatic idx, 3)) (hw : Cond.fieldLink own idx C n ds ∈ Ts) : qSnd MT NM Z N ST Ts own cc nL wp pc (qStat 3 o) := by
  intro E d p l e R s me args below meth c cells slots Q F I L st t x hf hx H locs ls hP hS hL hc
  obtain ⟨hX, hb, hml, hts, hown, hK, hbs, hst, hE, hR, hC⟩ := F
  cases hf
  exact va_gets hX hb (hz E s s.heap hst) hS hown (hts _ hw) (fun _ h => h) hdg (hx H locs ls hP hS hL hc)
theorem q_getsI {idx : Nat} {v : Int32} {C n ds : String} (hz : ∀ (E : qEnv) (U : State) (H : Heap), ST E U H → va_Z C n ds (.int v) (qA E) U H) (hdg : decode cc pc = .ok (.getstatic idx, 3)) (hw : Cond.fieldLink own idx C n ds ∈ Ts) : qSnd MT NM Z N ST Ts own cc nL wp pc (qIconst 3 v) := by
  intro E d p l e R s me args below meth c cells slots Q F I L st t x hf hx H locs ls hP hS hL hc
  obtain ⟨hX, hb, hml, hts, hown, hK, hbs, hst, hE, hR, hC⟩ := F
  cases hf
  exact va_gets hX hb (hz E s s.heap hst) hS hown (hts _ hw) (fun _ h => h) hdg (hx H locs ls hP hS hL hc)
theorem q_ldcS {idx o : Nat} {tx : String} (hk : Nat.blt o 150 = true) (hz : ∀ (E : qEnv) (U : State) (H : Heap), ST E U H → vk_R own idx tx (qAd E o) U) (hdg : decode cc pc = .ok (.ldc idx, 2)) : qSnd MT NM Z N ST Ts own cc nL wp pc (qStat 2 o) := by
  intro E d p l e R s me args below meth c cells slots Q F I L st t x hf hx H locs ls hP hS hL hc
  obtain ⟨hX, hb, hml, hts, hown, hK, hbs, hst, hE, hR, hC⟩ := F
  cases hf
  have h2 := hx H locs ls hP hS hL hc
  simp only [List.map_cons, qX_ref hk] at h2
  exact va_ldcS hX hb hown (hz E s s.heap hst) hdg h2
theorem q_copy {idx : Nat} (hdg : decode cc pc = .ok (.invokestatic idx, 3)) (h1w : Cond.methodLink own idx arraycopyName ∈ Ts) (h2w : Cond.native arraycopyName ∈ Ts) (h3w : Cond.static arraycopyName ∈ Ts) (h4w : Cond.initialized "java/lang/System" ∈ Ts) : qSnd MT NM Z N ST Ts own cc nL wp pc (qCopy Z) := by
  intro E d p l e R s me args below meth c cells slots Q F I L st t x hf hx H locs ls hP hS hL hc
  obtain ⟨hX, hb, hml, hts, hown, hK, hbs, hst, hE, hR, hC⟩ := F
  rcases st with _ | ⟨a, st⟩
  · cases hf
  · cases a <;> simp only [qCopy, reduceCtorEq] at hf
    rename_i n
    rcases st with _ | ⟨a, st⟩
    · cases hf
    · cases a <;> (try simp only [reduceCtorEq] at hf)
      rename_i dp
      rcases st with _ | ⟨a, st⟩
      · cases hf
      · cases a <;> (try simp only [reduceCtorEq] at hf)
        rename_i o2
        rcases st with _ | ⟨a, st⟩
        · cases hf
        · cases a <;> (try simp only [reduceCtorEq] at hf)
          rename_i sp
          rcases st with _ | ⟨a, st⟩
          · cases hf
          · cases a <;> (try simp only [reduceCtorEq] at hf)
            rename_i o
            show W p l e R s me args below meth c H locs cells slots Q (F0 me pc ls (.int n :: .int dp :: qX E (.ref o2) :: .int sp :: qX E (.ref o) :: st.map (qX E)))
            split at hf
            · rename_i n0 fs n1 fs2 hz hz2
              by_cases hi : (0 ≤ sp.toInt ∧ 0 ≤ dp.toInt ∧ 0 ≤ n.toInt) ∧ sp.toInt + n.toInt ≤ (n0 : Int) ∧ dp.toInt + n.toInt ≤ (n1 : Int)
              · rw [if_pos hi] at hf
                cases hwd : Nat.ble (qWid st) 8 with
                | false => rw [hwd] at hf; cases hf
                | true =>
                rw [hwd] at hf
                cases hf
                have ho : o < N := hE.2.2.2.1 o (by rw [hz]; exact Nat.zero_lt_succ 3)
                have ho2 : o2 < N := hE.2.2.2.1 o2 (by rw [hz2]; exact Nat.zero_lt_succ 3)
                rw [qX_ref (qBlt ho hE.2.2.2.2), qX_ref (qBlt ho2 hE.2.2.2.2)]
                obtain ⟨⟨g1, g2, g3⟩, g4, g5⟩ := hi
                have ng : ∀ z : Int32, 0 ≤ z.toInt → ¬ z < 0 := fun z hz h => by
                  have := Int32.lt_iff_toInt_lt.mp h
                  have e0 : (0 : Int32).toInt = 0 := by decide
                  omega
                have nn : ∀ z : Int32, 0 ≤ z.toInt → (z.toNatClampNeg : Int) = z.toInt := fun z hz => by
                  show ((z.toInt.toNat : Nat) : Int) = z.toInt
                  omega
                have q1 := nn sp g1
                have q2 := nn dp g2
                have q3 := nn n g3
                have hwid : ((st.map (qX E)).map fun v => v.category).sum ≤ 8 := by
                  rw [qX_wid hE.2.2.1.1]
                  exact Nat.le_of_ble_eq_true hwd
                refine va_copyi hX hb (by rw [hml]; exact hL.1.symm) hown (hts _ h1w) (hts _ h2w) (hts _ h3w) (hts _ h4w) hK hP (qWld_D hE) hS o o2 0 0 (f := t.1 o) (g := t.1 o2) (by rw [qWld_at ho, hz]; rfl) (by rw [qWld_at ho2, hz2]; rfl) rfl rfl rfl (ng sp g1) (ng dp g2) (ng n g3) (by omega) (by omega) (fun _ _ => rfl) (by omega) ?_ hdg (fun H1 locs1 hP1 _ hS1 => ?_)
                · have e : nativeFrameWords "java/lang/System" "arraycopy" 5 = 7 := by decide
                  rw [e]
                  omega
                · have e2 : (qWld Z N E t).set o2 (qAd E o2, .inl (qCA E .int, n1, .inl (va_cpy (t.1 o) (t.1 o2) sp.toNatClampNeg dp.toNatClampNeg n.toNatClampNeg))) = qWld Z N E (qCpy t o o2 sp.toNatClampNeg dp.toNatClampNeg n.toNatClampNeg) := by
                    refine qWld_upd ho2 (fun j _ hj => ?_) ?_
                    · rw [qCpy_other hj]
                      rfl
                    · rw [qCpy_row, hz2]
                      rfl
                  rw [e2] at hP1
                  refine hx H1 locs1 ls hP1 hS1 hL ⟨fun j hj => ?_, ?_⟩
                  · show (qCpy t o o2 _ _ _).1 70 j = _
                    have h60 := Nat.lt_of_lt_of_le ho2 hE.2.2.2.2
                    rw [qCpy_other (Nat.ne_of_gt (Nat.lt_of_lt_of_le h60 (by decide)))]
                    exact hc.1 j hj
                  · show (qCpy t o o2 _ _ _).1 71 0 = _
                    have h60 := Nat.lt_of_lt_of_le ho2 hE.2.2.2.2
                    rw [qCpy_other (Nat.ne_of_gt (Nat.lt_of_lt_of_le h60 (by decide)))]
                    exact hc.2
              · rw [if_neg hi] at hf
                cases hf
            · cases hf
theorem q_abs {idx : Nat} (hdg : decode cc pc = .ok (.invokestatic idx, 3)) (h1w : Cond.methodLink own idx Lib.Math.abs.name ∈ Ts) (h2w : Cond.static Lib.Math.abs.name ∈ Ts) (h3w : Cond.initialized "java/lang/Math" ∈ Ts) (h4w : Cond.code Lib.Math.abs.name Lib.Math.abs.code 1 (some .int) ∈ Ts) : qSnd MT NM Z N ST Ts own cc nL wp pc (qAbs) := by
  intro E d p l e R s me args below meth c cells slots Q F I L st t x hf hx H locs ls hP hS hL hc
  obtain ⟨hX, hb, hml, hts, hown, hK, hbs, hst, hE, hR, hC⟩ := F
  rcases st with _ | ⟨a, st⟩
  · cases hf
  · cases a <;> simp only [qAbs, reduceCtorEq] at hf
    rename_i a
    cases hwd : Nat.ble (qWid st) 8 with
    | false => rw [hwd] at hf; cases hf
    | true =>
      rw [hwd] at hf
      cases hf
      have hwid : ((st.map (qX E)).map fun v => v.category).sum ≤ 8 := by
        rw [qX_wid hE.2.2.1.1]
        exact Nat.le_of_ble_eq_true hwd
      exact va_mabs hX hb (by rw [hml]; exact hL.1.symm) hown (hts _ h1w) (hts _ h2w) (hts _ h3w) (hts _ h4w) (by omega) (by omega) hC.1 hC.2 hdg (hx H locs ls hP hS hL hc)
end QR
