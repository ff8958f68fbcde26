/-! switches -/
theorem qSel_spec {v : Int32} {L : List (Option Value)} {st : List Value} {s : qMem} {d : Nat} {x : qSt} : ∀ (rows : List (Int32 × Nat)), qSel v L st s d rows = some x → (∃ (i : Nat) (q : Int32 × Nat), rows[i]? = some q ∧ v = q.1 ∧ x = (q.2, L, st, s)) ∨ ((∀ q ∈ rows, v ≠ q.1) ∧ x = (d, L, st, s)) := by
  intro rows
  induction rows with
  | nil =>
    intro h
    exact Or.inr ⟨fun q hq => (by cases hq), (Option.some.inj h).symm⟩
  | cons q rows ih =>
    intro h
    rw [qSel] at h
    by_cases hv : v = q.1
    · rw [if_pos hv] at h
      exact Or.inl ⟨0, q, rfl, hv, (Option.some.inj h).symm⟩
    · rw [if_neg hv] at h
      rcases ih h with ⟨i, q2, h1, h2, h3⟩ | ⟨h1, h2⟩
      · exact Or.inl ⟨i + 1, q2, h1, h2, h3⟩
      · refine Or.inr ⟨fun q2 hq => ?_, h2⟩
        rcases List.mem_cons.mp hq with e | e
        · rw [e]
          exact hv
        · exact h1 q2 e
section QW
variable {MT : Nat → qMI} {NM : qNmT} {Z : Nat → qSh} {N : Nat} {ST : qEnv → State → Heap → Prop} {Ts : List Cond} {own : String} {cc : ByteArray} {nL wp pc : Nat}
theorem q_tsw {dflt lo hi : Int} {offs : Array Int} {len d : Nat} {rows : List (Int32 × Nat)} (hdg : decode cc pc = .ok (.tableswitch dflt lo hi offs, len)) (hd : (pc : Int) + dflt = (d : Int)) (hr : (List.range rows.length).all (fun i => match rows[i]?, offs[i]? with | some q, some o => decide (q.1.toInt = lo + i) && decide ((pc : Int) + o = (q.2 : Int)) | _, _ => false) = true) (hh : hi = lo + (rows.length : Int) - 1) : qSnd MT NM Z N ST Ts own cc nL wp pc (qSwitch rows d) := by
  intro E dd p l e R s me args below meth c cells slots Q F I L st t x hf hx H locs ls hP hS hL hc
  obtain ⟨hX, hb, hml, hts, hown, hK, hbs, hst, hE, hR, hC⟩ := F
  have key : ∀ (i : Nat), i < rows.length → ∃ q o, rows[i]? = some q ∧ offs[i]? = some o ∧ q.1.toInt = lo + i ∧ (pc : Int) + o = (q.2 : Int) := by
    intro i hi
    have h1 := List.all_eq_true.mp hr i (List.mem_range.mpr hi)
    split at h1
    · rename_i q o hq ho
      rw [Bool.and_eq_true, decide_eq_true_eq, decide_eq_true_eq] at h1
      exact ⟨q, o, hq, ho, h1.1, h1.2⟩
    · cases h1
  rcases st with _ | ⟨a, st⟩
  · cases hf
  · cases a <;> simp only [qSwitch, reduceCtorEq] at hf
    rename_i v
    rcases qSel_spec rows hf with ⟨i, q, h1, h2, h3⟩ | ⟨h1, h2⟩
    · have hi : i < rows.length := (List.getElem?_eq_some_iff.mp h1).1
      obtain ⟨q2, o, g1, g2, g3, g4⟩ := key i hi
      cases h1.symm.trans g1
      subst h3
      rw [h2]
      refine lv_tableIn hX hb hdg (by omega) (by omega) (off := o) (tgt := q.2) ?_ g4 (hx H locs ls hP hS hL hc)
      rw [show (q.1.toInt - lo).toNat = i from by omega]
      exact g2
    · subst h2
      refine lv_tableOut hX hb hdg ?_ hd (hx H locs ls hP hS hL hc)
      by_cases hlo : v.toInt < lo
      · exact Or.inl hlo
      · by_cases hhi : hi < v.toInt
        · exact Or.inr hhi
        · exfalso
          obtain ⟨q, o, g1, g2, g3, g4⟩ := key (v.toInt - lo).toNat (by omega)
          refine h1 q (List.mem_of_getElem? g1) (Int32.toInt_inj.mp ?_)
          omega
/-- two rows are enough here -/
theorem q_lsw2 {dflt a0 a1 o0 o1 : Int} {len d t0 t1 : Nat} {v0 v1 : Int32} (hdg : decode cc pc = .ok (.lookupswitch dflt #[(a0, o0), (a1, o1)], len)) (hd : (pc : Int) + dflt = (d : Int)) (h0 : v0.toInt = a0) (h1 : v1.toInt = a1) (h2 : (pc : Int) + o0 = (t0 : Int)) (h3 : (pc : Int) + o1 = (t1 : Int)) (hlt : a0 < a1) : qSnd MT NM Z N ST Ts own cc nL wp pc (qSwitch [(v0, t0), (v1, t1)] d) := by
  intro E dd p l e R s me args below meth c cells slots Q F I L st t x hf hx H locs ls hP hS hL hc
  obtain ⟨hX, hb, hml, hts, hown, hK, hbs, hst, hE, hR, hC⟩ := F
  rcases st with _ | ⟨a, st⟩
  · cases hf
  · cases a <;> simp only [qSwitch, qSel, reduceCtorEq] at hf
    rename_i v
    have hp : ((#[(a0, o0), (a1, o1)] : Array (Int × Int)).toList.zip ((#[(a0, o0), (a1, o1)] : Array (Int × Int)).toList.drop 1)).all (fun (a, next) => a.1 < next.1) = true := by
      simp [hlt]
    by_cases e0 : v = v0
    · rw [if_pos e0] at hf
      cases hf
      exact lv_lookup hX hb hdg hp (off := o0) (by simp [Op.lookupswitch.offset, e0, h0]) h2 (hx H locs ls hP hS hL hc)
    · rw [if_neg e0] at hf
      have n0 : ¬ a0 = v.toInt := fun z => e0 (Int32.toInt_inj.mp (by rw [h0, z]))
      by_cases e1 : v = v1
      · rw [if_pos e1] at hf
        cases hf
        exact lv_lookup hX hb hdg hp (off := o1) (by
          have n1 : ¬ a0 = a1 := by omega
          simp [Op.lookupswitch.offset, e1, h1, n1]) h3 (hx H locs ls hP hS hL hc)
      · rw [if_neg e1] at hf
        cases hf
        have n1 : ¬ a1 = v.toInt := fun z => e1 (Int32.toInt_inj.mp (by rw [h1, z]))
        exact lv_lookup hX hb hdg hp (off := dflt) (by simp [Op.lookupswitch.offset, n0, n1]) hd (hx H locs ls hP hS hL hc)
end QW
