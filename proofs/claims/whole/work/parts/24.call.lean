/-! calls are sound -/
theorem q_back {p : Program} {l : Launch} {e : Env} {R : Room} {s : State} {m : MethodId} {args : Array Value} {below : List Frame} {meth : Method} {c : Code} {H H0 : Heap} {locs : List Loc} {cells slots : Nat} {Q : State → Prop} {pc : Nat} {ls : Array Slot} {rest st0 : List Value} {a : Array Value} {Z : Nat → qSh} {N : Nat} {E : qEnv} {r : Option Value} {s2 : qMem}
    (hr : va_Run p l e R s m args below meth c H locs cells slots 0 0 (F0 m pc ls st0) rest (qQ Z N E r s2 a) (qA E)) (hS : va_S (qA E) H0 H locs)
    (kk : ∀ (H1 : Heap) (locs1 : List Loc), va_P (qDD E) vwCl (qWld Z N E s2) H1 → va_S (qA E) H0 H1 locs1 → qSc E s2 → W p l e R s m args below meth c H1 locs1 cells slots Q (F0 m (pc + 3) ls ((r.map (qX E)).toList ++ rest))) : W p l e R s m args below meth c H locs cells slots Q (F0 m pc ls st0) := by
  intro T hT X
  obtain ⟨v, st₀, t, T', L, h0, X', hL, e1, e2, ⟨⟨hv, hP, hc⟩, hz, hk⟩, st⟩ := hr T hT X
  have hv2 : v = r.map (qX E) := by cases hv; rfl
  subst hv2
  rw [h0] at hz hk
  obtain ⟨t2, a1, b1⟩ := kk T'.heap (locs ++ L) (by rw [e1]; exact hP)
    ⟨Nat.le_trans hS.1 (by rw [e1]; exact hz), fun q h1 h2 => by rw [e1, hk q (Nat.lt_of_lt_of_le h1 hS.1) h2]; exact hS.2.1 q h1 h2, fun q hq => by
      rcases List.mem_append.mp hq with h | h
      · exact hS.2.2 q h
      · exact hL q h⟩ hc T' rfl X'
  exact ⟨t2, st t2 a1, b1⟩
theorem qWorld_blind {Z : Nat → qSh} {N : Nat} {ST : qEnv → State → Heap → Prop} {E : qEnv} {t : qMem} {U : State} (hQ : qSTok Z ST) (g : JFrame) (mk : MethodId) (a : Array Value) (h : qWorld Z N ST E t U) : qWorld Z N ST E t (U.calling g mk a) := ⟨h.1, h.2.1, va_K.moved (u := U) (U := U.calling g mk a) (Vm.Alike.refl U.vm) h.2.2.1, hQ.2.2 E U g mk a h.2.2.2.1, h.2.2.2.2⟩
theorem qWorld_blindP {Z : Nat → qSh} {N : Nat} {ST : qEnv → State → Heap → Prop} {E : qEnv} {t : qMem} (hQ : qSTok Z ST) (av : List Value) : FrameBlind (va_Pc av (fun U => qWorld Z N ST E t U)) := fun a U g mk h => ⟨h.1, qWorld_blind hQ g mk a h.2⟩
section QCL
variable {MT : Nat → qMI} {NM : qNmT} {Z : Nat → qSh} {N : Nat} {ST : qEnv → State → Heap → Prop} {Ts : List Cond} {own : String} {cc : ByteArray} {nL wp pc : Nat}
variable {E : qEnv} {d : Nat} {p : Program} {l : Launch} {e : Env} {R : Room} {s : State} {me : MethodId} {args : Array Value} {below : List Frame} {meth : Method} {c : Code} {cells slots : Nat} {Q : State → Prop}
theorem q_world {H : Heap} {locs : List Loc} {t : qMem} (hQ : qSTok Z ST) (F : qFr Z N ST E Ts own cc nL d p R s me args c cells slots) (hP : va_P (qDD E) vwCl (qWld Z N E t) H) (hS : va_S (qA E) s.heap H locs) (hc : qSc E t) (U : State) (hU : U.heap = H) (hW : s.WarmedH U.vm) : qWorld Z N ST E t U := by
  obtain ⟨hX, hb, hml, hts, hown, hK, hbs, hst, hE, hR, hC⟩ := F
  refine ⟨by rw [hU]; exact Nat.le_trans hbs hS.1, by rw [hU]; exact hP, va_K.moved hW.alike hK, hQ.2.1 E s U H locs hst hW hS hU, hc⟩
theorem q_runV {y k n idx maxL o : Nat} {C : String} {Y : MethodName} {wsY ws' : List Cond} {bytes : ByteArray} {ret : Option FieldType} {As st : List Value} {t t2 : qMem} {r : Option Value} {H : Heap} {locs : List Loc} {ls : Array Slot} (hQ : qSTok Z ST) (hNM : NM y = (Y, wsY)) (hG : GoodIn Ts (wsV own idx C Y wsY)) (hws : wsY = Cond.code Y bytes maxL ret :: ws') (hd : Y.cls = C ∧ Y.cls ≠ "java/lang/invoke/MethodHandle" ∧ Y.cls ≠ "java/lang/invoke/VarHandle" ∧ (parseMethodDescriptor Y.desc).map (fun d => d.parameters.length) = some n) (hmx : maxL ≤ 20) (hk : (∃ q : vw_C, vwCl[k]? = some q ∧ q.1 = C) ∨ (k = 99 ∧ C = "java/lang/String"))
    (hdg : decode cc pc = .ok (.invokevirtual idx, 3)) (F : qFr Z N ST E Ts own cc nL d p R s me args c cells slots) (I : qIH MT NM Z N ST E l d) (hrc : qRcv Z k (.ref o :: As) = true) (hkn : k ≠ 100) (hn : As.length = n) (hwd : qWid st ≤ 8) (hcall : qCall MT d y (.ref o :: As) t = some (r, t2))
    (hP : va_P (qDD E) vwCl (qWld Z N E t) H) (hS : va_S (qA E) s.heap H locs) (hL : ls.size = nL) (hc : qSc E t)
    (kk : ∀ (H1 : Heap) (locs1 : List Loc), va_P (qDD E) vwCl (qWld Z N E t2) H1 → va_S (qA E) s.heap H1 locs1 → qSc E t2 → W p l e R s me args below meth c H1 locs1 cells slots Q (F0 me (pc + 3) ls ((r.map (qX E)).toList ++ st.map (qX E)))) : W p l e R s me args below meth c H locs cells slots Q (F0 me pc ls ((As.map (qX E)).reverse ++ qX E (.ref o) :: st.map (qX E))) := by
  have hM := I y (.ref o :: As) t r t2 hcall
  rw [hNM] at hM
  have hw := q_world hQ F hP hS hc
  obtain ⟨hX, hb, hml, hts, hown, hK, hbs, hst, hE, hR, hC⟩ := F
  have hob : Nat.blt o 150 = true ∧ ∃ cell : Cell, H[qAd E o]? = some cell ∧ cell.vm.isStatics = false ∧ s.vm.findClass C = some cell.cls := by
    unfold qRcv at hrc
    cases h100 : Nat.beq k 100 with
    | true => exact absurd (Nat.eq_of_beq_eq_true h100) hkn
    | false =>
      rw [h100] at hrc
      simp only [cond_false] at hrc
      split at hrc
      · rename_i c2 fs hz
        have e2 : c2 = k := Nat.eq_of_beq_eq_true hrc
        subst e2
        have ho : o < N := hE.2.2.2.1 o (by rw [hz]; exact Nat.lt_succ_self 3)
        refine ⟨qBlt ho hE.2.2.2.2, ?_⟩
        rcases hk with ⟨q, hq, rfl⟩ | ⟨rfl, rfl⟩
        · exact va_recv hK hP hq (q0 := o) (fs := qFs E (t.1 o) t.2 0 fs) (by rw [qWld_at ho, hz]; rfl)
        · have := (hP o _ (qWld_at ho))
          rw [hz] at this
          obtain ⟨r, h1, -⟩ := this
          cases h1
      · rename_i b fs hz
        have e2 : k = 99 := Nat.eq_of_beq_eq_true hrc
        have h9 := (hQ.1 E s s.heap hst).2.2.1 o b fs hz
        refine ⟨h9.1, ?_⟩
        rcases hk with ⟨q, hq, rfl⟩ | ⟨-, rfl⟩
        · rw [e2] at hq
          cases hq
        · obtain ⟨cell, h1, h2, h3, -⟩ := h9.2.2.1.kept hS.2.1
          exact ⟨cell, h1, h2, h3⟩
      · cases hrc
  rw [qX_ref hob.1]
  have hPre : PreV s H C (qAd E o) (va_Pc ((Value.ref o :: As).map (qX E)) (fun U => qWorld Z N ST E t U)) (As.map (qX E)) := by
    refine ⟨qWorld_blindP hQ _, hob.2, fun U hU hW => ⟨?_, hw U hU hW⟩⟩
    rw [List.map_cons, qX_ref hob.1]
  refine q_back (va_runV (As := As.map (qX E)) (rest := st.map (qX E)) ⟨hX, hb, hml, hown, hts⟩ hM (cwV n hts hG hws rfl rfl hd ⟨?_, ?_⟩) hPre rfl (by rw [List.length_map]; exact hn) hL rfl (lv_room (by rw [qX_wid hE.2.2.1.1]; exact hwd)) hdg hC) hS kk
  · exact hR.1
  · show 8 + (maxL + 11) + 40 * d ≤ R.locals
    omega
theorem q_runS {y n idx maxL : Nat} {Y : MethodName} {wsY ws' : List Cond} {bytes : ByteArray} {ret : Option FieldType} {As st : List Value} {t t2 : qMem} {r : Option Value} {H : Heap} {locs : List Loc} {ls : Array Slot} (hQ : qSTok Z ST) (hNM : NM y = (Y, wsY)) (hG : GoodIn Ts (va_wsS own idx Y wsY)) (hws : wsY = Cond.code Y bytes maxL ret :: ws') (hd : Y.cls ≠ "java/lang/invoke/MethodHandle" ∧ Y.cls ≠ "java/lang/invoke/VarHandle" ∧ (parseMethodDescriptor Y.desc).map (fun d => d.parameters.length) = some n) (hmx : maxL ≤ 20)
    (hdg : decode cc pc = .ok (.invokestatic idx, 3)) (F : qFr Z N ST E Ts own cc nL d p R s me args c cells slots) (I : qIH MT NM Z N ST E l d) (hn : As.length = n) (hwd : qWid st ≤ 8) (hcall : qCall MT d y As t = some (r, t2))
    (hP : va_P (qDD E) vwCl (qWld Z N E t) H) (hS : va_S (qA E) s.heap H locs) (hL : ls.size = nL) (hc : qSc E t)
    (kk : ∀ (H1 : Heap) (locs1 : List Loc), va_P (qDD E) vwCl (qWld Z N E t2) H1 → va_S (qA E) s.heap H1 locs1 → qSc E t2 → W p l e R s me args below meth c H1 locs1 cells slots Q (F0 me (pc + 3) ls ((r.map (qX E)).toList ++ st.map (qX E)))) : W p l e R s me args below meth c H locs cells slots Q (F0 me pc ls ((As.map (qX E)).reverse ++ st.map (qX E))) := by
  have hM := I y As t r t2 hcall
  rw [hNM] at hM
  have hw := q_world hQ F hP hS hc
  obtain ⟨hX, hb, hml, hts, hown, hK, hbs, hst, hE, hR, hC⟩ := F
  have hPre : PreS s H (va_Pc (As.map (qX E)) (fun U => qWorld Z N ST E t U)) (As.map (qX E)) := ⟨qWorld_blindP hQ _, fun U hU hW => ⟨rfl, hw U hU hW⟩⟩
  refine q_back (va_runS (As := As.map (qX E)) (rest := st.map (qX E)) ⟨hX, hb, hml, hown, hts⟩ hM (va_cwS n hts hG hws rfl rfl hd ⟨?_, ?_⟩) hPre rfl (by rw [List.length_map]; exact hn) hL rfl (lv_room (by rw [qX_wid hE.2.2.1.1]; exact hwd)) hdg hC) hS kk
  · exact hR.1
  · show 8 + (maxL + 11) + 40 * d ≤ R.locals
    omega
end QCL
theorem qI_spec {o : Option (Option Value × qMem)} {q : Int32 × qMem} (h : qI o = some q) : o = some (some (.int q.1), q.2) := by
  cases o with
  | none => cases h
  | some z =>
    obtain ⟨v, s⟩ := z
    cases v with
    | none => exact absurd (show (none : Option (Int32 × qMem)) = some q from h) (fun z => by cases z)
    | some w =>
      cases w with
      | int r =>
        have h2 : some (r, s) = some q := h
        rw [← Option.some.inj h2]
      | _ => exact absurd (show (none : Option (Int32 × qMem)) = some q from h) (fun z => by cases z)
theorem qV_spec {o : Option (Option Value × qMem)} {q : qMem} (h : qV o = some q) : o = some (none, q) := by
  cases o with
  | none => cases h
  | some z =>
    obtain ⟨v, s⟩ := z
    cases v with
    | none =>
      have h2 : some s = some q := h
      rw [← Option.some.inj h2]
    | some w => exact absurd (show (none : Option qMem) = some q from h) (fun z => by cases z)
theorem qR_spec {o : Option (Option Value × qMem)} {q : Nat × qMem} (h : qR o = some q) : o = some (some (.ref q.1), q.2) := by
  cases o with
  | none => cases h
  | some z =>
    obtain ⟨v, s⟩ := z
    cases v with
    | none => exact absurd (show (none : Option (Nat × qMem)) = some q from h) (fun z => by cases z)
    | some w =>
      cases w with
      | ref r =>
        have h2 : some (r, s) = some q := h
        rw [← Option.some.inj h2]
      | _ => exact absurd (show (none : Option (Nat × qMem)) = some q from h) (fun z => by cases z)
/-- the stack is the arguments, the last on top, and what is left -/
theorem q_stack (E : qEnv) (n : Nat) (st : List Value) : st.map (qX E) = ((st.take n).reverse.map (qX E)).reverse ++ (st.drop n).map (qX E) := by
  rw [List.map_reverse, List.reverse_reverse, ← List.map_append, List.take_append_drop]
theorem qRcv_spec {Z : Nat → qSh} {k : Nat} {vs : List Value} (hk : k ≠ 100) (h : qRcv Z k vs = true) : ∃ (o : Nat) (As : List Value), vs = .ref o :: As := by
  unfold qRcv at h
  cases h100 : Nat.beq k 100 with
  | true => exact absurd (Nat.eq_of_beq_eq_true h100) hk
  | false =>
    rw [h100] at h
    simp only [cond_false] at h
    split at h
    · exact ⟨_, _, rfl⟩
    · cases h
section QCM
variable {MT : Nat → qMI} {NM : qNmT} {Z : Nat → qSh} {N : Nat} {ST : qEnv → State → Heap → Prop} {Ts : List Cond} {own : String} {cc : ByteArray} {nL wp pc : Nat}
theorem q_invVI {y k n idx maxL : Nat} {C : String} {Y : MethodName} {wsY ws' : List Cond} {bytes : ByteArray} {ret : Option FieldType} (hQ : qSTok Z ST) (hNM : NM y = (Y, wsY)) (hG : GoodIn Ts (wsV own idx C Y wsY)) (hws : wsY = Cond.code Y bytes maxL ret :: ws') (hd : Y.cls = C ∧ Y.cls ≠ "java/lang/invoke/MethodHandle" ∧ Y.cls ≠ "java/lang/invoke/VarHandle" ∧ (parseMethodDescriptor Y.desc).map (fun d => d.parameters.length) = some n) (hmx : maxL ≤ 20) (hk : (∃ q : vw_C, vwCl[k]? = some q ∧ q.1 = C) ∨ (k = 99 ∧ C = "java/lang/String")) (hkn : k ≠ 100) (hdg : decode cc pc = .ok (.invokevirtual idx, 3)) : qSnd MT NM Z N ST Ts own cc nL wp pc (qInvI Z y k (n + 1)) := by
  intro E d p l e R s me args below meth c cells slots Q F I L st t x hf hx H locs ls hP hS hL hc
  simp only [qInvI] at hf
  cases hg : (qRcv Z k (st.take (n + 1)).reverse && (Nat.beq (st.take (n + 1)).length (n + 1) && Nat.ble (qWid (st.drop (n + 1))) 8)) with
  | false => rw [hg] at hf; cases hf
  | true =>
    rw [hg] at hf
    simp only [cond_true] at hf
    rw [Bool.and_eq_true, Bool.and_eq_true] at hg
    obtain ⟨hg1, hg2, hg3⟩ := hg
    have hlen := Nat.eq_of_beq_eq_true hg2
    have hwd := Nat.le_of_ble_eq_true hg3
    cases hq : qI (qCall MT d y (st.take (n + 1)).reverse t) with
    | none => rw [hq] at hf; cases hf
    | some q =>
      rw [hq] at hf
      cases hf
      have hcall := qI_spec hq
      show W p l e R s me args below meth c H locs cells slots Q (F0 me pc ls (st.map (qX E)))
      rw [q_stack E (n + 1) st]
      have hlen2 : (st.take (n + 1)).reverse.length = n + 1 := by rw [List.length_reverse]; exact hlen
      revert hg1 hcall hlen2
      generalize (st.take (n + 1)).reverse = vs
      intro hg1 hcall hlen2
      obtain ⟨o, As, rfl⟩ := qRcv_spec hkn hg1
      rw [List.map_cons, List.reverse_cons, List.append_assoc]
      exact q_runV hQ hNM hG hws hd hmx hk hdg F I hg1 hkn (Nat.succ.inj hlen2) hwd hcall hP hS hL.1 hc (fun H1 locs1 hP1 hS1 hc1 => hx H1 locs1 ls hP1 hS1 hL hc1)
theorem q_invSI {y n idx maxL : Nat} {Y : MethodName} {wsY ws' : List Cond} {bytes : ByteArray} {ret : Option FieldType} (hQ : qSTok Z ST) (hNM : NM y = (Y, wsY)) (hG : GoodIn Ts (va_wsS own idx Y wsY)) (hws : wsY = Cond.code Y bytes maxL ret :: ws') (hd : Y.cls ≠ "java/lang/invoke/MethodHandle" ∧ Y.cls ≠ "java/lang/invoke/VarHandle" ∧ (parseMethodDescriptor Y.desc).map (fun d => d.parameters.length) = some n) (hmx : maxL ≤ 20) (hdg : decode cc pc = .ok (.invokestatic idx, 3)) : qSnd MT NM Z N ST Ts own cc nL wp pc (qInvI Z y 100 n) := by
  intro E d p l e R s me args below meth c cells slots Q F I L st t x hf hx H locs ls hP hS hL hc
  simp only [qInvI] at hf
  cases hg : (qRcv Z 100 (st.take n).reverse && (Nat.beq (st.take n).length n && Nat.ble (qWid (st.drop n)) 8)) with
  | false => rw [hg] at hf; cases hf
  | true =>
    rw [hg] at hf
    simp only [cond_true] at hf
    rw [Bool.and_eq_true, Bool.and_eq_true] at hg
    obtain ⟨hg1, hg2, hg3⟩ := hg
    have hlen := Nat.eq_of_beq_eq_true hg2
    have hwd := Nat.le_of_ble_eq_true hg3
    cases hq : qI (qCall MT d y (st.take n).reverse t) with
    | none => rw [hq] at hf; cases hf
    | some q =>
      rw [hq] at hf
      cases hf
      have hcall := qI_spec hq
      show W p l e R s me args below meth c H locs cells slots Q (F0 me pc ls (st.map (qX E)))
      rw [q_stack E n st]
      exact q_runS hQ hNM hG hws hd hmx hdg F I (by rw [List.length_reverse]; exact hlen) hwd hcall hP hS hL.1 hc (fun H1 locs1 hP1 hS1 hc1 => hx H1 locs1 ls hP1 hS1 hL hc1)
theorem q_invVV {y k n idx maxL : Nat} {C : String} {Y : MethodName} {wsY ws' : List Cond} {bytes : ByteArray} {ret : Option FieldType} (hQ : qSTok Z ST) (hNM : NM y = (Y, wsY)) (hG : GoodIn Ts (wsV own idx C Y wsY)) (hws : wsY = Cond.code Y bytes maxL ret :: ws') (hd : Y.cls = C ∧ Y.cls ≠ "java/lang/invoke/MethodHandle" ∧ Y.cls ≠ "java/lang/invoke/VarHandle" ∧ (parseMethodDescriptor Y.desc).map (fun d => d.parameters.length) = some n) (hmx : maxL ≤ 20) (hk : (∃ q : vw_C, vwCl[k]? = some q ∧ q.1 = C) ∨ (k = 99 ∧ C = "java/lang/String")) (hkn : k ≠ 100) (hdg : decode cc pc = .ok (.invokevirtual idx, 3)) : qSnd MT NM Z N ST Ts own cc nL wp pc (qInvV Z y k (n + 1)) := by
  intro E d p l e R s me args below meth c cells slots Q F I L st t x hf hx H locs ls hP hS hL hc
  simp only [qInvV] at hf
  cases hg : (qRcv Z k (st.take (n + 1)).reverse && (Nat.beq (st.take (n + 1)).length (n + 1) && Nat.ble (qWid (st.drop (n + 1))) 8)) with
  | false => rw [hg] at hf; cases hf
  | true =>
    rw [hg] at hf
    simp only [cond_true] at hf
    rw [Bool.and_eq_true, Bool.and_eq_true] at hg
    obtain ⟨hg1, hg2, hg3⟩ := hg
    have hlen := Nat.eq_of_beq_eq_true hg2
    have hwd := Nat.le_of_ble_eq_true hg3
    cases hq : qV (qCall MT d y (st.take (n + 1)).reverse t) with
    | none => rw [hq] at hf; cases hf
    | some q =>
      rw [hq] at hf
      cases hf
      have hcall := qV_spec hq
      show W p l e R s me args below meth c H locs cells slots Q (F0 me pc ls (st.map (qX E)))
      rw [q_stack E (n + 1) st]
      have hlen2 : (st.take (n + 1)).reverse.length = n + 1 := by rw [List.length_reverse]; exact hlen
      revert hg1 hcall hlen2
      generalize (st.take (n + 1)).reverse = vs
      intro hg1 hcall hlen2
      obtain ⟨o, As, rfl⟩ := qRcv_spec hkn hg1
      rw [List.map_cons, List.reverse_cons, List.append_assoc]
      exact q_runV hQ hNM hG hws hd hmx hk hdg F I hg1 hkn (Nat.succ.inj hlen2) hwd hcall hP hS hL.1 hc (fun H1 locs1 hP1 hS1 hc1 => hx H1 locs1 ls hP1 hS1 hL hc1)
theorem q_invSV {y n idx maxL : Nat} {Y : MethodName} {wsY ws' : List Cond} {bytes : ByteArray} {ret : Option FieldType} (hQ : qSTok Z ST) (hNM : NM y = (Y, wsY)) (hG : GoodIn Ts (va_wsS own idx Y wsY)) (hws : wsY = Cond.code Y bytes maxL ret :: ws') (hd : Y.cls ≠ "java/lang/invoke/MethodHandle" ∧ Y.cls ≠ "java/lang/invoke/VarHandle" ∧ (parseMethodDescriptor Y.desc).map (fun d => d.parameters.length) = some n) (hmx : maxL ≤ 20) (hdg : decode cc pc = .ok (.invokestatic idx, 3)) : qSnd MT NM Z N ST Ts own cc nL wp pc (qInvV Z y 100 n) := by
  intro E d p l e R s me args below meth c cells slots Q F I L st t x hf hx H locs ls hP hS hL hc
  simp only [qInvV] at hf
  cases hg : (qRcv Z 100 (st.take n).reverse && (Nat.beq (st.take n).length n && Nat.ble (qWid (st.drop n)) 8)) with
  | false => rw [hg] at hf; cases hf
  | true =>
    rw [hg] at hf
    simp only [cond_true] at hf
    rw [Bool.and_eq_true, Bool.and_eq_true] at hg
    obtain ⟨hg1, hg2, hg3⟩ := hg
    have hlen := Nat.eq_of_beq_eq_true hg2
    have hwd := Nat.le_of_ble_eq_true hg3
    cases hq : qV (qCall MT d y (st.take n).reverse t) with
    | none => rw [hq] at hf; cases hf
    | some q =>
      rw [hq] at hf
      cases hf
      have hcall := qV_spec hq
      show W p l e R s me args below meth c H locs cells slots Q (F0 me pc ls (st.map (qX E)))
      rw [q_stack E n st]
      exact q_runS hQ hNM hG hws hd hmx hdg F I (by rw [List.length_reverse]; exact hlen) hwd hcall hP hS hL.1 hc (fun H1 locs1 hP1 hS1 hc1 => hx H1 locs1 ls hP1 hS1 hL hc1)
theorem q_invVR {y k n idx maxL : Nat} {C : String} {Y : MethodName} {wsY ws' : List Cond} {bytes : ByteArray} {ret : Option FieldType} (hQ : qSTok Z ST) (hNM : NM y = (Y, wsY)) (hG : GoodIn Ts (wsV own idx C Y wsY)) (hws : wsY = Cond.code Y bytes maxL ret :: ws') (hd : Y.cls = C ∧ Y.cls ≠ "java/lang/invoke/MethodHandle" ∧ Y.cls ≠ "java/lang/invoke/VarHandle" ∧ (parseMethodDescriptor Y.desc).map (fun d => d.parameters.length) = some n) (hmx : maxL ≤ 20) (hk : (∃ q : vw_C, vwCl[k]? = some q ∧ q.1 = C) ∨ (k = 99 ∧ C = "java/lang/String")) (hkn : k ≠ 100) (hdg : decode cc pc = .ok (.invokevirtual idx, 3)) : qSnd MT NM Z N ST Ts own cc nL wp pc (qInvR Z y k (n + 1)) := by
  intro E d p l e R s me args below meth c cells slots Q F I L st t x hf hx H locs ls hP hS hL hc
  simp only [qInvR] at hf
  cases hg : (qRcv Z k (st.take (n + 1)).reverse && (Nat.beq (st.take (n + 1)).length (n + 1) && Nat.ble (qWid (st.drop (n + 1))) 8)) with
  | false => rw [hg] at hf; cases hf
  | true =>
    rw [hg] at hf
    simp only [cond_true] at hf
    rw [Bool.and_eq_true, Bool.and_eq_true] at hg
    obtain ⟨hg1, hg2, hg3⟩ := hg
    have hlen := Nat.eq_of_beq_eq_true hg2
    have hwd := Nat.le_of_ble_eq_true hg3
    cases hq : qR (qCall MT d y (st.take (n + 1)).reverse t) with
    | none => rw [hq] at hf; cases hf
    | some q =>
      rw [hq] at hf
      cases hf
      have hcall := qR_spec hq
      show W p l e R s me args below meth c H locs cells slots Q (F0 me pc ls (st.map (qX E)))
      rw [q_stack E (n + 1) st]
      have hlen2 : (st.take (n + 1)).reverse.length = n + 1 := by rw [List.length_reverse]; exact hlen
      revert hg1 hcall hlen2
      generalize (st.take (n + 1)).reverse = vs
      intro hg1 hcall hlen2
      obtain ⟨o, As, rfl⟩ := qRcv_spec hkn hg1
      rw [List.map_cons, List.reverse_cons, List.append_assoc]
      exact q_runV hQ hNM hG hws hd hmx hk hdg F I hg1 hkn (Nat.succ.inj hlen2) hwd hcall hP hS hL.1 hc (fun H1 locs1 hP1 hS1 hc1 => hx H1 locs1 ls hP1 hS1 hL hc1)
theorem q_invSR {y n idx maxL : Nat} {Y : MethodName} {wsY ws' : List Cond} {bytes : ByteArray} {ret : Option FieldType} (hQ : qSTok Z ST) (hNM : NM y = (Y, wsY)) (hG : GoodIn Ts (va_wsS own idx Y wsY)) (hws : wsY = Cond.code Y bytes maxL ret :: ws') (hd : Y.cls ≠ "java/lang/invoke/MethodHandle" ∧ Y.cls ≠ "java/lang/invoke/VarHandle" ∧ (parseMethodDescriptor Y.desc).map (fun d => d.parameters.length) = some n) (hmx : maxL ≤ 20) (hdg : decode cc pc = .ok (.invokestatic idx, 3)) : qSnd MT NM Z N ST Ts own cc nL wp pc (qInvR Z y 100 n) := by
  intro E d p l e R s me args below meth c cells slots Q F I L st t x hf hx H locs ls hP hS hL hc
  simp only [qInvR] at hf
  cases hg : (qRcv Z 100 (st.take n).reverse && (Nat.beq (st.take n).length n && Nat.ble (qWid (st.drop n)) 8)) with
  | false => rw [hg] at hf; cases hf
  | true =>
    rw [hg] at hf
    simp only [cond_true] at hf
    rw [Bool.and_eq_true, Bool.and_eq_true] at hg
    obtain ⟨hg1, hg2, hg3⟩ := hg
    have hlen := Nat.eq_of_beq_eq_true hg2
    have hwd := Nat.le_of_ble_eq_true hg3
    cases hq : qR (qCall MT d y (st.take n).reverse t) with
    | none => rw [hq] at hf; cases hf
    | some q =>
      rw [hq] at hf
      cases hf
      have hcall := qR_spec hq
      show W p l e R s me args below meth c H locs cells slots Q (F0 me pc ls (st.map (qX E)))
      rw [q_stack E n st]
      exact q_runS hQ hNM hG hws hd hmx hdg F I (by rw [List.length_reverse]; exact hlen) hwd hcall hP hS hL.1 hc (fun H1 locs1 hP1 hS1 hc1 => hx H1 locs1 ls hP1 hS1 hL hc1)
end QCM
