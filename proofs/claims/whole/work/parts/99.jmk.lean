/-! makers: rows with the array classes known from the start -/
abbrev mTy (kI kB kJ : ClassId) : List (ClassId × FieldType) := [(kI, .int), (kB, .boolean), (kJ, qJT)]
theorem mk_K {U : State} {D : va_G} {A : Array Value} (hcl : ∀ (c : Nat) (q : vw_C), vwCl[c]? = some q → u_Kn U q.1 q.2.1 q.2.2 (D.1 c) (D.2 c)) (h1 : (Cond.arrayClass .int).before A U = true) (h2 : (Cond.arrayClass .boolean).before A U = true) (h3 : va_AO "GiantStair$Journey" U) : ∃ kI kB kJ, va_K D vwCl (mTy kI kB kJ) U := by
  obtain ⟨kI, a1, a2, a3, a4, a5⟩ := Cond.arrayClass_spec h1
  obtain ⟨kB, b1, b2, b3, b4, b5⟩ := Cond.arrayClass_spec h2
  obtain ⟨comp, kJ, c1, c2, -, c4, c5, c6⟩ := Cond.arrayOver_spec h3
  refine ⟨kI, kB, kJ, hcl, fun k q hq => ?_⟩
  rcases k with _ | _ | _ | k
  · cases hq
    exact ⟨fun n z => ⟨(fun k h => by cases h), a1, a4, a2, a5⟩, a3⟩
  · cases hq
    exact ⟨fun n z => ⟨(fun k h => by cases h), b1, b4, b2, b5⟩, b3⟩
  · cases hq
    exact ⟨fun n z => ⟨(fun k h => by cases h), c1, c4, comp, c5⟩, c1, comp, c4, c5, c2, c6⟩
  · cases hq
section MK
variable {p : Program} {l : Launch} {e : Env} {R : Room} {s : State} {m : MethodId} {args : Array Value} {below : List Frame} {meth : Method} {c : Code} {H : Heap} {locs : List Loc} {cells slots : Nat} {Q : State → Prop}
variable {cc : ByteArray} {pc : Nat} {ls : Array Slot} {rest : List Value} {D : va_G} {A : Nat → Prop} {ws : va_W} {H0 : Heap} {kI kB kJ : ClassId}
theorem mk_int (hexec : p.tables.exec = Jvm.exec) (hb : c.code = cc) (harr : (Cond.arrayClass .int).before args s = true) (hK : va_K D vwCl (mTy kI kB kJ) s) (hP : va_P D vwCl ws H) (hD : va_D A ws) (hS : va_S A H0 H locs) (hA : ∀ q, H0.size ≤ q → A q) {n : Int32} {N : Nat} (hdg : decode cc pc = .ok (.newarray .int, 2)) (hn : ¬ n < 0) (hN : n.toNatClampNeg = N) (hbytes : N * 4 ≤ 536870912) (hcells : cells + 1 ≤ R.cells) (hslots : slots + N ≤ R.slots)
    (kk : ∀ (q : Nat) (H1 : Heap), va_P D vwCl (ws ++ [(q, .inl (kI, N, .inl (fun _ => 0)))]) H1 → va_D A (ws ++ [(q, .inl (kI, N, .inl (fun _ => 0)))]) → va_S A H0 H1 locs → W p l e R s m args below meth c H1 locs (cells + 1) (slots + N) Q (F0 m (pc + 2) ls (.ref q :: rest))) : W p l e R s m args below meth c H locs cells slots Q (F0 m pc ls (.int n :: rest)) := by
  refine va_newa (atype := .int) (ty := .int) hexec hb harr rfl hK hP hD hS hA (a0 := (N, .inl (fun _ => 0))) (N' := N) (fun _ => rfl) hn hN hbytes hcells hslots hdg (fun q cA H1 hK1 hP1 hD1 hS1 => ?_)
  have e1 := (hK.2 0 _ rfl).2
  have e2 := (hK1.2 3 (cA, .int) rfl).2
  have e : cA = kI := Option.some.inj (e2.symm.trans e1)
  subst e
  exact kk q H1 hP1 hD1 hS1
theorem mk_bool (hexec : p.tables.exec = Jvm.exec) (hb : c.code = cc) (harr : (Cond.arrayClass .boolean).before args s = true) (hK : va_K D vwCl (mTy kI kB kJ) s) (hP : va_P D vwCl ws H) (hD : va_D A ws) (hS : va_S A H0 H locs) (hA : ∀ q, H0.size ≤ q → A q) {n : Int32} {N : Nat} (hdg : decode cc pc = .ok (.newarray .boolean, 2)) (hn : ¬ n < 0) (hN : n.toNatClampNeg = N) (hbytes : N * componentBytes .boolean ≤ 536870912) (hcells : cells + 1 ≤ R.cells) (hslots : slots + N ≤ R.slots)
    (kk : ∀ (q : Nat) (H1 : Heap), va_P D vwCl (ws ++ [(q, .inl (kB, N, .inl (fun _ => 0)))]) H1 → va_D A (ws ++ [(q, .inl (kB, N, .inl (fun _ => 0)))]) → va_S A H0 H1 locs → W p l e R s m args below meth c H1 locs (cells + 1) (slots + N) Q (F0 m (pc + 2) ls (.ref q :: rest))) : W p l e R s m args below meth c H locs cells slots Q (F0 m pc ls (.int n :: rest)) := by
  refine va_newa (atype := .boolean) (ty := .boolean) hexec hb harr rfl hK hP hD hS hA (a0 := (N, .inl (fun _ => 0))) (N' := N) (fun _ => rfl) hn hN hbytes hcells hslots hdg (fun q cA H1 hK1 hP1 hD1 hS1 => ?_)
  have e1 := (hK.2 1 _ rfl).2
  have e2 := (hK1.2 3 (cA, .boolean) rfl).2
  have e : cA = kB := Option.some.inj (e2.symm.trans e1)
  subst e
  exact kk q H1 hP1 hD1 hS1
theorem mk_jour {own : String} {index : Nat} (hexec : p.tables.exec = Jvm.exec) (hb : c.code = cc) (hown : s.vm.findClass own = some m.cls) (hclink : (Cond.classLink own index "GiantStair$Journey").before args s = true) (hover : va_AO "GiantStair$Journey" s) (hK : va_K D vwCl (mTy kI kB kJ) s) (hP : va_P D vwCl ws H) (hD : va_D A ws) (hS : va_S A H0 H locs) (hA : ∀ q, H0.size ≤ q → A q) {n : Int32} {N : Nat} (hdg : decode cc pc = .ok (.anewarray index, 3)) (hn : ¬ n < 0) (hN : n.toNatClampNeg = N) (hbytes : N * 4 ≤ 536870912) (hcells : cells + 1 ≤ R.cells) (hslots : slots + N ≤ R.slots)
    (kk : ∀ (q : Nat) (H1 : Heap), va_P D vwCl (ws ++ [(q, .inl (kJ, N, .inr (.inr (.inr (.inr (fun _ => none))))))]) H1 → va_D A (ws ++ [(q, .inl (kJ, N, .inr (.inr (.inr (.inr (fun _ => none))))))]) → va_S A H0 H1 locs → W p l e R s m args below meth c H1 locs (cells + 1) (slots + N) Q (F0 m (pc + 3) ls (.ref q :: rest))) : W p l e R s m args below meth c H locs cells slots Q (F0 m pc ls (.int n :: rest)) := by
  refine va_newq hexec hb hown hclink hover hK hP hD hS hA hn hN hbytes hcells hslots hdg (fun q cA H1 hK1 hP1 hD1 hS1 => ?_)
  obtain ⟨a1, a2, a3, a4, a5, a6⟩ := (hK.2 2 _ rfl).2
  obtain ⟨b1, b2, b3, b4, b5, b6⟩ := (hK1.2 3 (cA, .object "GiantStair$Journey") rfl).2
  have e : cA = kJ := Option.some.inj (b6.symm.trans a6)
  subst e
  exact kk q H1 hP1 hD1 hS1
/-- what is asked of a world at a maker's entry; what it is behind it -/
abbrev mPre (D : va_G) (kI kB kJ : ClassId) (wc : va_W) (sz : Nat) (U : State) : Prop := U.heap.size = sz ∧ va_P D vwCl wc U.heap ∧ va_K D vwCl (mTy kI kB kJ) U ∧ va_D (fun _ => True) wc
abbrev mPost {S : Type} (D : va_G) (wc : va_W) (sz : Nat) (post : S → Prop) (w1 : S → va_W) : Array Value → State → Outcome → State → Prop := va_Qv post (fun u t => va_P D vwCl (w1 u) t.heap ∧ va_D (va_A wc sz) (w1 u)) (va_A wc sz)
theorem mk_blind {wc : va_W} {sz : Nat} {av : List Value} : FrameBlind (va_Pc av (mPre D kI kB kJ wc sz)) := fun a U g mk h => ⟨h.1, h.2.1, h.2.2.1, va_K.moved (u := U) (U := U.calling g mk a) (Vm.Alike.refl U.vm) h.2.2.2.1, h.2.2.2.2⟩
theorem mk_at {wc : va_W} (hP : va_P D vwCl wc H) (hK : va_K D vwCl (mTy kI kB kJ) s) (hD : va_D A wc) (U : State) (hU : U.heap = H) (hW : s.WarmedH U.vm) : mPre D kI kB kJ wc H.size U := ⟨by rw [hU], by rw [hU]; exact hP, va_K.moved hW.alike hK, hD.weaken (fun _ _ _ _ => trivial)⟩
theorem mk_preS {wc : va_W} {av : List Value} (hP : va_P D vwCl wc H) (hK : va_K D vwCl (mTy kI kB kJ) s) (hD : va_D A wc) : PreS s H (va_Pc av (mPre D kI kB kJ wc H.size)) av := ⟨mk_blind, fun U hU hW => ⟨rfl, mk_at hP hK hD U hU hW⟩⟩
/-- behind a maker's call: what came back stands beside the rest -/
theorem mk_join {S : Type} {post : S → Prop} {w1 : S → va_W} {wc wr : va_W} {a : Array Value} {st0 : List Value} {mc ms : Nat} (hr : va_Run p l e R s m args below meth c H locs cells slots mc ms (F0 m pc ls st0) rest (mPost D wc H.size post w1 a) (va_A wc H.size)) (hP : va_P D vwCl ws H) (hD : va_D A ws) (hS : va_S A H0 H locs) (hA : ∀ q, H0.size ≤ q → A q) (isC isR : List Nat) (hC : isC.map (fun i => ws[i]?) = wc.map some) (hR : isR.map (fun i => ws[i]?) = wr.map some) (hn : va_nd isR = true) (hdis : ∀ i ∈ isR, i ∉ isC)
    (kk : ∀ (u : S) (H1 : Heap) (locs1 : List Loc), post u → va_P D vwCl (wr ++ w1 u) H1 → va_D A (wr ++ w1 u) → va_S A H0 H1 locs1 → W p l e R s m args below meth c H1 locs1 (cells + mc) (slots + ms) Q (F0 m (pc + 3) ls rest)) : W p l e R s m args below meth c H locs cells slots Q (F0 m pc ls st0) := by
  have hF := va_free (wc := wc) hD hS hA isC hC
  refine va_callv hr hS (fun q _ h => hF q h) hF (fun u t H1 locs1 ht hvm hu hB hz hk hS1 => ?_)
  obtain ⟨hP1, hD1⟩ := hB
  rw [ht] at hP1
  obtain ⟨g1, g2⟩ := va_join hP hD isC isR hC hR hn hdis hk hF hP1 hD1
  exact kk u H1 locs1 hu g1 g2 hS1
end MK
theorem gIn {w0 c1 : Cond} (h : c1 ∈ gT) : GoodIn (w0 :: gT) (c1 :: gT) := gGood (List.forall_mem_cons.mpr ⟨h, fun _ h => h⟩)
