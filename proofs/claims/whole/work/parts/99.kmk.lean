/-! makers, their small helpers: fill, build, plain -/
set_option maxHeartbeats 4000000 in
set_option maxRecDepth 100000 in
theorem c_fill (l : Launch) (D : va_G) (kI kB kJ : ClassId) (a sz n : Nat) (f : Nat → Int32) (v : Int32) (hn : n < 2 ^ 31) : Met l (⟨"java/util/Arrays", "fill", "([II)V"⟩ : MethodName) (Cond.code (⟨"java/util/Arrays", "fill", "([II)V"⟩ : MethodName) prog_14_method_103_code 4 (Option.none : Option FieldType) :: gT) ({ frames := 0, cells := 0, slots := 0, locals := 0 } : Room) (va_Pc [.ref a, .int v] (mPre D kI kB kJ [(a, .inl (kI, n, .inl (f)))] sz)) (va_Qv (fun u : Nat → Int32 => ∀ i, i < n → u i = v) (fun u t => va_P D vwCl [(a, .inl (kI, n, .inl (u)))] t.heap ∧ va_D (va_A [(a, .inl (kI, n, .inl (f)))] sz) [(a, .inl (kI, n, .inl (u)))]) (va_A [(a, .inl (kI, n, .inl (f)))] sz)) 0 0 (va_A [(a, .inl (kI, n, .inl (f)))] sz) := by
  refine Met.ofW (cc := prog_14_method_103_code) (maxL := 4) (ret := none) (by decide +kernel) rfl ?_
  intro p e s m args below meth c s₁ B hml hv
  obtain ⟨rfl, hsz, hP, hK, hD0⟩ := hv
  have hx := B.exec
  have hb := B.bytes
  have hr := B.returns
  subst hsz
  have hD := hD0.self (sz := s.heap.size)
  generalize hAe : va_A [(a, .inl (kI, n, .inl (f)))] s.heap.size = A at hD ⊢
  have hS : va_S A s.heap s.heap [] := va_S.rf
  have hP : va_P D vwCl [(a, .inl (kI, n, .inl (f)))] s.heap := hP
  have hl := lv_entry ([.ref a, .int v]) (n := 4) (Nat.le_of_ble_eq_true rfl)
  rw [lg_entry_eq]
  generalize (lg_sl ([.ref a, .int v]) ++ List.replicate (4 - (lg_sl ([.ref a, .int v])).length) Slot.unset).toArray = ls at hl ⊢
  have hl : lv_has ls 4 [(0, .ref a), (1, .int v)] := hl
  have loop : ∀ (q i : Nat) (g : Nat → Int32) (H : Heap) (locs : List Loc) (ls : Array Slot), i + q = n → (∀ j, j < i → g j = v) → va_P D vwCl [(a, .inl (kI, n, .inl (g)))] H → va_D A [(a, .inl (kI, n, .inl (g)))] → va_S A s.heap H locs → lv_has ls 4 [(2, .int (nI i)), (3, .int (nI n)), (0, .ref a), (1, .int v)] → W p l e (headSpec (Cond.code (⟨"java/util/Arrays", "fill", "([II)V"⟩ : MethodName) prog_14_method_103_code 4 (Option.none : Option FieldType) :: gT) ({ frames := 0, cells := 0, slots := 0, locals := 0 } : Room)).room s m (#[.ref a, .int v]) below meth c H locs 0 0 (MQ below (va_Qv (fun u : Nat → Int32 => ∀ i, i < n → u i = v) (fun u t => va_P D vwCl [(a, .inl (kI, n, .inl (u)))] t.heap ∧ va_D A [(a, .inl (kI, n, .inl (u)))]) A) (#[.ref a, .int v]) s 0 0 A) (F0 m 5 ls []) := by
    intro q
    induction q with
    | zero =>
      intro i g H locs ls hi hg hP hD hS hl
      refine lv_iload_n (k := 2) hx hb (by decide +kernel) rfl (lv_at hl 0 rfl) ?_
      refine lv_iload_n (k := 3) hx hb (by decide +kernel) rfl (lv_at hl 1 rfl) ?_
      refine lv_icmp_ge (off := 13) (tgt := 20) hx hb (by decide +kernel) (by decide) (fun z => ?_) (fun z => absurd (nI_le (by omega) (by omega)) z)
      exact W.vret hx hb hr (fun t ht hW => ⟨⟨g, rfl, fun j hj => hg j (by omega), by rw [ht]; exact hP, hD⟩, hS.F ht⟩) hS.2.2 (by decide +kernel)
    | succ q ih =>
      intro i g H locs ls hi hg hP hD hS hl
      refine lv_iload_n (k := 2) hx hb (by decide +kernel) rfl (lv_at hl 0 rfl) ?_
      refine lv_iload_n (k := 3) hx hb (by decide +kernel) rfl (lv_at hl 1 rfl) ?_
      refine lv_icmp_ge (off := 13) (tgt := 20) hx hb (by decide +kernel) (by decide) (fun z => absurd z (nI_ge (by omega) (by omega))) (fun z => ?_)
      refine lv_aload_n (k := 0) hx hb (by decide +kernel) rfl (lv_at hl 2 rfl) ?_
      refine lv_iload_n (k := 2) hx hb (by decide +kernel) rfl (lv_at hl 0 rfl) ?_
      refine lv_iload_n (k := 1) hx hb (by decide +kernel) rfl (lv_at hl 3 rfl) ?_
      refine va_iast hx hb hK hP hD hS 0 0 rfl rfl (vp_in_nI (n := i) (by omega) (by omega)) (by decide +kernel) (fun H locs hP hD hS => ?_)
      refine lv_iinc (n := 1) (v := nI (i + 1)) (lv' := [(2, .int (nI (i + 1))), (3, .int (nI n)), (0, .ref a), (1, .int v)]) hx hb (by decide +kernel) hl (k := 0) rfl (nI_1 i) (by decide) rfl (fun ls hl => ?_)
      refine lv_goto (off := -12) (tgt := 5) hx hb (by decide +kernel) (by decide) ?_
      refine ih (i + 1) (upd g (nI i).toNatClampNeg v) H locs ls (by omega) (fun j hj => ?_) hP hD hS hl
      rw [nI_cl (by omega)]
      by_cases z : j = i
      · subst z
        exact pk_us
      · rw [pk_un z]
        exact hg j (by omega)
  refine lv_iconst (n := 0) (v := 0) hx hb (by decide +kernel) (by decide) ?_
  refine lv_istore_n (k := 2) (lv' := [(2, .int 0), (0, .ref a), (1, .int v)]) hx hb (by decide +kernel) rfl hl (by decide) rfl (fun ls hl => ?_)
  refine lv_aload_n (k := 0) hx hb (by decide +kernel) rfl (lv_at hl 1 rfl) ?_
  refine va_alen hx hb hK hP 0 0 rfl rfl (v := nI n) rfl (by decide +kernel) ?_
  refine lv_istore_n (k := 3) (lv' := [(3, .int (nI n)), (2, .int 0), (0, .ref a), (1, .int v)]) hx hb (by decide +kernel) rfl hl (by decide) rfl (fun ls hl => ?_)
  exact loop n 0 f _ _ ls (Nat.zero_add n) (fun j hj => absurd hj (Nat.not_lt_zero _)) hP hD hS (lv_sub hl [1, 0, 2, 3] rfl)
set_option maxHeartbeats 4000000 in
set_option maxRecDepth 100000 in
theorem c_build (l : Launch) (D : va_G) (kI kB kJ : ClassId) (h0 sz r2 r3 r4 r5 r6 r7 r8 r9 : Nat) (f g : Nat → Int32) : Met l (⟨"GiantStair$Told", "build", "(I)V"⟩ : MethodName) (Cond.code (⟨"GiantStair$Told", "build", "(I)V"⟩ : MethodName) prog_5_method_2_code 3 (Option.none : Option FieldType) :: gT) ({ frames := 0, cells := 0, slots := 0, locals := 0 } : Room) (va_Pc [.ref h0, .int 2] (mPre D kI kB kJ [(h0, .inr (3, [.int 0, .int 0, .ref r2, .ref r3, .ref r4, .ref r5, .ref r6, .ref r7, .ref r8, .ref r9])), (r2, .inl (kI, 4, .inl (f))), (r3, .inl (kB, 4, .inl (g)))] sz)) (va_Qv (fun u : (Nat → Int32) × (Nat → Int32) => ∀ i, i < 4 → u.1 i = 20 ∧ u.2 i = 0) (fun u t => va_P D vwCl [(h0, .inr (3, [.int 2, .int 0, .ref r2, .ref r3, .ref r4, .ref r5, .ref r6, .ref r7, .ref r8, .ref r9])), (r2, .inl (kI, 4, .inl u.1)), (r3, .inl (kB, 4, .inl u.2))] t.heap ∧ va_D (va_A [(h0, .inr (3, [.int 0, .int 0, .ref r2, .ref r3, .ref r4, .ref r5, .ref r6, .ref r7, .ref r8, .ref r9])), (r2, .inl (kI, 4, .inl (f))), (r3, .inl (kB, 4, .inl (g)))] sz) [(h0, .inr (3, [.int 2, .int 0, .ref r2, .ref r3, .ref r4, .ref r5, .ref r6, .ref r7, .ref r8, .ref r9])), (r2, .inl (kI, 4, .inl u.1)), (r3, .inl (kB, 4, .inl u.2))]) (va_A [(h0, .inr (3, [.int 0, .int 0, .ref r2, .ref r3, .ref r4, .ref r5, .ref r6, .ref r7, .ref r8, .ref r9])), (r2, .inl (kI, 4, .inl (f))), (r3, .inl (kB, 4, .inl (g)))] sz)) 0 0 (va_A [(h0, .inr (3, [.int 0, .int 0, .ref r2, .ref r3, .ref r4, .ref r5, .ref r6, .ref r7, .ref r8, .ref r9])), (r2, .inl (kI, 4, .inl (f))), (r3, .inl (kB, 4, .inl (g)))] sz) := by
  refine Met.ofW (cc := prog_5_method_2_code) (maxL := 3) (ret := none) (by decide +kernel) rfl ?_
  intro p e s m args below meth c s₁ B hml hv
  obtain ⟨rfl, hsz, hP, hK, hD0⟩ := hv
  have hx := B.exec
  have hb := B.bytes
  have hr := B.returns
  have hts := atoms_spec (ws := Cond.code (⟨"GiantStair$Told", "build", "(I)V"⟩ : MethodName) prog_5_method_2_code 3 (Option.none : Option FieldType) :: gT) B.pre
  have hown : s.vm.findClass "GiantStair$Told" = some m.cls := findClass_of_methodNamed B.named
  subst hsz
  have hD := hD0.self (sz := s.heap.size)
  generalize hAe : va_A [(h0, .inr (3, [.int 0, .int 0, .ref r2, .ref r3, .ref r4, .ref r5, .ref r6, .ref r7, .ref r8, .ref r9])), (r2, .inl (kI, 4, .inl (f))), (r3, .inl (kB, 4, .inl (g)))] s.heap.size = A at hD ⊢
  have hA : ∀ q : Nat, s.heap.size ≤ q → A q := fun q h => by rw [← hAe]; exact Or.inr h
  have hS : va_S A s.heap s.heap [] := va_S.rf
  have hP : va_P D vwCl [(h0, .inr (3, [.int 0, .int 0, .ref r2, .ref r3, .ref r4, .ref r5, .ref r6, .ref r7, .ref r8, .ref r9])), (r2, .inl (kI, 4, .inl (f))), (r3, .inl (kB, 4, .inl (g)))] s.heap := hP
  have hl := lv_entry ([.ref h0, .int 2]) (n := 3) (Nat.le_of_ble_eq_true rfl)
  rw [lg_entry_eq]
  generalize (lg_sl ([.ref h0, .int 2]) ++ List.replicate (3 - (lg_sl ([.ref h0, .int 2])).length) Slot.unset).toArray = ls at hl ⊢
  have hl : lv_has ls 3 [(0, .ref h0), (1, .int 2)] := hl
  refine lv_aload_n (k := 0) hx hb (by decide +kernel) rfl (lv_at hl 0 rfl) ?_
  refine lv_iload_n (k := 1) hx hb (by decide +kernel) rfl (lv_at hl 1 rfl) ?_
  refine va_put (D := D) (ci := 3) (v := .int 2) (ty := .int) (C := "GiantStair$Told") (T := TX3) (N := 10) hx hb hts (gws in_X3) tyX3 tyX3_ok nmX3 hown hK hP hD hS 0 rfl rfl 0 (by decide) (hts _ (gw tw_33)) (fun _ h9 => h9) rfl (by decide +kernel) rfl rfl (Nat.le_of_ble_eq_true rfl) (by decide +kernel) (fun H locs hP hD hS => ?_)
  have hP : va_P D vwCl [(h0, .inr (3, [.int 2, .int 0, .ref r2, .ref r3, .ref r4, .ref r5, .ref r6, .ref r7, .ref r8, .ref r9])), (r2, .inl (kI, 4, .inl (f))), (r3, .inl (kB, 4, .inl (g)))] H := hP
  have hD : va_D A [(h0, .inr (3, [.int 2, .int 0, .ref r2, .ref r3, .ref r4, .ref r5, .ref r6, .ref r7, .ref r8, .ref r9])), (r2, .inl (kI, 4, .inl (f))), (r3, .inl (kB, 4, .inl (g)))] := hD
  refine lv_aload_n (k := 0) hx hb (by decide +kernel) rfl (lv_at hl 0 rfl) ?_
  refine lv_iconst (n := 0) (v := 0) hx hb (by decide +kernel) (by decide) ?_
  refine va_put (D := D) (ci := 3) (v := .int 0) (ty := .int) (C := "GiantStair$Told") (T := TX3) (N := 10) hx hb hts (gws in_X3) tyX3 tyX3_ok nmX3 hown hK hP hD hS 0 rfl rfl 1 (by decide) (hts _ (gw tw_36)) (fun _ h9 => h9) rfl (by decide +kernel) rfl rfl (Nat.le_of_ble_eq_true rfl) (by decide +kernel) (fun H locs hP hD hS => ?_)
  have hP : va_P D vwCl [(h0, .inr (3, [.int 2, .int 0, .ref r2, .ref r3, .ref r4, .ref r5, .ref r6, .ref r7, .ref r8, .ref r9])), (r2, .inl (kI, 4, .inl (f))), (r3, .inl (kB, 4, .inl (g)))] H := hP
  have hD : va_D A [(h0, .inr (3, [.int 2, .int 0, .ref r2, .ref r3, .ref r4, .ref r5, .ref r6, .ref r7, .ref r8, .ref r9])), (r2, .inl (kI, 4, .inl (f))), (r3, .inl (kB, 4, .inl (g)))] := hD
  refine lv_iconst (n := 0) (v := 0) hx hb (by decide +kernel) (by decide) ?_
  refine lv_istore_n (k := 2) (lv' := [(2, .int 0), (0, .ref h0), (1, .int 2)]) hx hb (by decide +kernel) rfl hl (by decide) rfl (fun ls hl => ?_)
  refine lv_iload_n (k := 2) hx hb (by decide +kernel) rfl (lv_at hl 0 rfl) ?_
  refine lv_iconst (n := 4) (v := 4) hx hb (by decide +kernel) (by decide) ?_
  refine lv_icmp_ge (off := 24) (tgt := 38) hx hb (by decide +kernel) (by decide) (fun z => absurd z (by decide)) (fun z => ?_)
  refine lv_aload_n (k := 0) hx hb (by decide +kernel) rfl (lv_at hl 1 rfl) ?_
  refine va_get (C := "GiantStair$Told") (T := TX3) (N := 10) hx hb hts (gws in_X3) hown hK hP 0 rfl rfl 2 (by decide) (hts _ (gw tw_39)) (fun _ h9 => h9) (v := .ref r2) rfl (by decide +kernel) ?_
  refine lv_iload_n (k := 2) hx hb (by decide +kernel) rfl (lv_at hl 0 rfl) ?_
  refine lv_bipush (n := 20) (v := 20) hx hb (by decide +kernel) (by decide) ?_
  refine va_iast hx hb hK hP hD hS 1 0 rfl rfl (vp_in_nI (n := 0) (by omega) (by omega)) (by decide +kernel) (fun H locs hP hD hS => ?_)
  have hP : va_P D vwCl [(h0, .inr (3, [.int 2, .int 0, .ref r2, .ref r3, .ref r4, .ref r5, .ref r6, .ref r7, .ref r8, .ref r9])), (r2, .inl (kI, 4, .inl (upd (f) 0 20))), (r3, .inl (kB, 4, .inl (g)))] H := hP
  have hD : va_D A [(h0, .inr (3, [.int 2, .int 0, .ref r2, .ref r3, .ref r4, .ref r5, .ref r6, .ref r7, .ref r8, .ref r9])), (r2, .inl (kI, 4, .inl (upd (f) 0 20))), (r3, .inl (kB, 4, .inl (g)))] := hD
  refine lv_aload_n (k := 0) hx hb (by decide +kernel) rfl (lv_at hl 1 rfl) ?_
  refine va_get (C := "GiantStair$Told") (T := TX3) (N := 10) hx hb hts (gws in_X3) hown hK hP 0 rfl rfl 3 (by decide) (hts _ (gw tw_41)) (fun _ h9 => h9) (v := .ref r3) rfl (by decide +kernel) ?_
  refine lv_iload_n (k := 2) hx hb (by decide +kernel) rfl (lv_at hl 0 rfl) ?_
  refine lv_iconst (n := 0) (v := 0) hx hb (by decide +kernel) (by decide) ?_
  refine va_zast hx hb hK hP hD hS 2 1 rfl rfl (vp_in_nI (n := 0) (by omega) (by omega)) (by decide +kernel) (fun H locs hP hD hS => ?_)
  have hP : va_P D vwCl [(h0, .inr (3, [.int 2, .int 0, .ref r2, .ref r3, .ref r4, .ref r5, .ref r6, .ref r7, .ref r8, .ref r9])), (r2, .inl (kI, 4, .inl (upd (f) 0 20))), (r3, .inl (kB, 4, .inl (upd (g) 0 0)))] H := hP
  have hD : va_D A [(h0, .inr (3, [.int 2, .int 0, .ref r2, .ref r3, .ref r4, .ref r5, .ref r6, .ref r7, .ref r8, .ref r9])), (r2, .inl (kI, 4, .inl (upd (f) 0 20))), (r3, .inl (kB, 4, .inl (upd (g) 0 0)))] := hD
  refine lv_iinc (n := 1) (v := 1) (lv' := [(2, .int 1), (0, .ref h0), (1, .int 2)]) hx hb (by decide +kernel) hl (k := 0) rfl (by decide) (by decide) rfl (fun ls hl => ?_)
  refine lv_goto (off := -23) (tgt := 12) hx hb (by decide +kernel) (by decide) ?_
  refine lv_iload_n (k := 2) hx hb (by decide +kernel) rfl (lv_at hl 0 rfl) ?_
  refine lv_iconst (n := 4) (v := 4) hx hb (by decide +kernel) (by decide) ?_
  refine lv_icmp_ge (off := 24) (tgt := 38) hx hb (by decide +kernel) (by decide) (fun z => absurd z (by decide)) (fun z => ?_)
  refine lv_aload_n (k := 0) hx hb (by decide +kernel) rfl (lv_at hl 1 rfl) ?_
  refine va_get (C := "GiantStair$Told") (T := TX3) (N := 10) hx hb hts (gws in_X3) hown hK hP 0 rfl rfl 2 (by decide) (hts _ (gw tw_39)) (fun _ h9 => h9) (v := .ref r2) rfl (by decide +kernel) ?_
  refine lv_iload_n (k := 2) hx hb (by decide +kernel) rfl (lv_at hl 0 rfl) ?_
  refine lv_bipush (n := 20) (v := 20) hx hb (by decide +kernel) (by decide) ?_
  refine va_iast hx hb hK hP hD hS 1 0 rfl rfl (vp_in_nI (n := 1) (by omega) (by omega)) (by decide +kernel) (fun H locs hP hD hS => ?_)
  have hP : va_P D vwCl [(h0, .inr (3, [.int 2, .int 0, .ref r2, .ref r3, .ref r4, .ref r5, .ref r6, .ref r7, .ref r8, .ref r9])), (r2, .inl (kI, 4, .inl (upd (upd (f) 0 20) 1 20))), (r3, .inl (kB, 4, .inl (upd (g) 0 0)))] H := hP
  have hD : va_D A [(h0, .inr (3, [.int 2, .int 0, .ref r2, .ref r3, .ref r4, .ref r5, .ref r6, .ref r7, .ref r8, .ref r9])), (r2, .inl (kI, 4, .inl (upd (upd (f) 0 20) 1 20))), (r3, .inl (kB, 4, .inl (upd (g) 0 0)))] := hD
  refine lv_aload_n (k := 0) hx hb (by decide +kernel) rfl (lv_at hl 1 rfl) ?_
  refine va_get (C := "GiantStair$Told") (T := TX3) (N := 10) hx hb hts (gws in_X3) hown hK hP 0 rfl rfl 3 (by decide) (hts _ (gw tw_41)) (fun _ h9 => h9) (v := .ref r3) rfl (by decide +kernel) ?_
  refine lv_iload_n (k := 2) hx hb (by decide +kernel) rfl (lv_at hl 0 rfl) ?_
  refine lv_iconst (n := 0) (v := 0) hx hb (by decide +kernel) (by decide) ?_
  refine va_zast hx hb hK hP hD hS 2 1 rfl rfl (vp_in_nI (n := 1) (by omega) (by omega)) (by decide +kernel) (fun H locs hP hD hS => ?_)
  have hP : va_P D vwCl [(h0, .inr (3, [.int 2, .int 0, .ref r2, .ref r3, .ref r4, .ref r5, .ref r6, .ref r7, .ref r8, .ref r9])), (r2, .inl (kI, 4, .inl (upd (upd (f) 0 20) 1 20))), (r3, .inl (kB, 4, .inl (upd (upd (g) 0 0) 1 0)))] H := hP
  have hD : va_D A [(h0, .inr (3, [.int 2, .int 0, .ref r2, .ref r3, .ref r4, .ref r5, .ref r6, .ref r7, .ref r8, .ref r9])), (r2, .inl (kI, 4, .inl (upd (upd (f) 0 20) 1 20))), (r3, .inl (kB, 4, .inl (upd (upd (g) 0 0) 1 0)))] := hD
  refine lv_iinc (n := 1) (v := 2) (lv' := [(2, .int 2), (0, .ref h0), (1, .int 2)]) hx hb (by decide +kernel) hl (k := 0) rfl (by decide) (by decide) rfl (fun ls hl => ?_)
  refine lv_goto (off := -23) (tgt := 12) hx hb (by decide +kernel) (by decide) ?_
  refine lv_iload_n (k := 2) hx hb (by decide +kernel) rfl (lv_at hl 0 rfl) ?_
  refine lv_iconst (n := 4) (v := 4) hx hb (by decide +kernel) (by decide) ?_
  refine lv_icmp_ge (off := 24) (tgt := 38) hx hb (by decide +kernel) (by decide) (fun z => absurd z (by decide)) (fun z => ?_)
  refine lv_aload_n (k := 0) hx hb (by decide +kernel) rfl (lv_at hl 1 rfl) ?_
  refine va_get (C := "GiantStair$Told") (T := TX3) (N := 10) hx hb hts (gws in_X3) hown hK hP 0 rfl rfl 2 (by decide) (hts _ (gw tw_39)) (fun _ h9 => h9) (v := .ref r2) rfl (by decide +kernel) ?_
  refine lv_iload_n (k := 2) hx hb (by decide +kernel) rfl (lv_at hl 0 rfl) ?_
  refine lv_bipush (n := 20) (v := 20) hx hb (by decide +kernel) (by decide) ?_
  refine va_iast hx hb hK hP hD hS 1 0 rfl rfl (vp_in_nI (n := 2) (by omega) (by omega)) (by decide +kernel) (fun H locs hP hD hS => ?_)
  have hP : va_P D vwCl [(h0, .inr (3, [.int 2, .int 0, .ref r2, .ref r3, .ref r4, .ref r5, .ref r6, .ref r7, .ref r8, .ref r9])), (r2, .inl (kI, 4, .inl (upd (upd (upd (f) 0 20) 1 20) 2 20))), (r3, .inl (kB, 4, .inl (upd (upd (g) 0 0) 1 0)))] H := hP
  have hD : va_D A [(h0, .inr (3, [.int 2, .int 0, .ref r2, .ref r3, .ref r4, .ref r5, .ref r6, .ref r7, .ref r8, .ref r9])), (r2, .inl (kI, 4, .inl (upd (upd (upd (f) 0 20) 1 20) 2 20))), (r3, .inl (kB, 4, .inl (upd (upd (g) 0 0) 1 0)))] := hD
  refine lv_aload_n (k := 0) hx hb (by decide +kernel) rfl (lv_at hl 1 rfl) ?_
  refine va_get (C := "GiantStair$Told") (T := TX3) (N := 10) hx hb hts (gws in_X3) hown hK hP 0 rfl rfl 3 (by decide) (hts _ (gw tw_41)) (fun _ h9 => h9) (v := .ref r3) rfl (by decide +kernel) ?_
  refine lv_iload_n (k := 2) hx hb (by decide +kernel) rfl (lv_at hl 0 rfl) ?_
  refine lv_iconst (n := 0) (v := 0) hx hb (by decide +kernel) (by decide) ?_
  refine va_zast hx hb hK hP hD hS 2 1 rfl rfl (vp_in_nI (n := 2) (by omega) (by omega)) (by decide +kernel) (fun H locs hP hD hS => ?_)
  have hP : va_P D vwCl [(h0, .inr (3, [.int 2, .int 0, .ref r2, .ref r3, .ref r4, .ref r5, .ref r6, .ref r7, .ref r8, .ref r9])), (r2, .inl (kI, 4, .inl (upd (upd (upd (f) 0 20) 1 20) 2 20))), (r3, .inl (kB, 4, .inl (upd (upd (upd (g) 0 0) 1 0) 2 0)))] H := hP
  have hD : va_D A [(h0, .inr (3, [.int 2, .int 0, .ref r2, .ref r3, .ref r4, .ref r5, .ref r6, .ref r7, .ref r8, .ref r9])), (r2, .inl (kI, 4, .inl (upd (upd (upd (f) 0 20) 1 20) 2 20))), (r3, .inl (kB, 4, .inl (upd (upd (upd (g) 0 0) 1 0) 2 0)))] := hD
  refine lv_iinc (n := 1) (v := 3) (lv' := [(2, .int 3), (0, .ref h0), (1, .int 2)]) hx hb (by decide +kernel) hl (k := 0) rfl (by decide) (by decide) rfl (fun ls hl => ?_)
  refine lv_goto (off := -23) (tgt := 12) hx hb (by decide +kernel) (by decide) ?_
  refine lv_iload_n (k := 2) hx hb (by decide +kernel) rfl (lv_at hl 0 rfl) ?_
  refine lv_iconst (n := 4) (v := 4) hx hb (by decide +kernel) (by decide) ?_
  refine lv_icmp_ge (off := 24) (tgt := 38) hx hb (by decide +kernel) (by decide) (fun z => absurd z (by decide)) (fun z => ?_)
  refine lv_aload_n (k := 0) hx hb (by decide +kernel) rfl (lv_at hl 1 rfl) ?_
  refine va_get (C := "GiantStair$Told") (T := TX3) (N := 10) hx hb hts (gws in_X3) hown hK hP 0 rfl rfl 2 (by decide) (hts _ (gw tw_39)) (fun _ h9 => h9) (v := .ref r2) rfl (by decide +kernel) ?_
  refine lv_iload_n (k := 2) hx hb (by decide +kernel) rfl (lv_at hl 0 rfl) ?_
  refine lv_bipush (n := 20) (v := 20) hx hb (by decide +kernel) (by decide) ?_
  refine va_iast hx hb hK hP hD hS 1 0 rfl rfl (vp_in_nI (n := 3) (by omega) (by omega)) (by decide +kernel) (fun H locs hP hD hS => ?_)
  have hP : va_P D vwCl [(h0, .inr (3, [.int 2, .int 0, .ref r2, .ref r3, .ref r4, .ref r5, .ref r6, .ref r7, .ref r8, .ref r9])), (r2, .inl (kI, 4, .inl (upd (upd (upd (upd (f) 0 20) 1 20) 2 20) 3 20))), (r3, .inl (kB, 4, .inl (upd (upd (upd (g) 0 0) 1 0) 2 0)))] H := hP
  have hD : va_D A [(h0, .inr (3, [.int 2, .int 0, .ref r2, .ref r3, .ref r4, .ref r5, .ref r6, .ref r7, .ref r8, .ref r9])), (r2, .inl (kI, 4, .inl (upd (upd (upd (upd (f) 0 20) 1 20) 2 20) 3 20))), (r3, .inl (kB, 4, .inl (upd (upd (upd (g) 0 0) 1 0) 2 0)))] := hD
  refine lv_aload_n (k := 0) hx hb (by decide +kernel) rfl (lv_at hl 1 rfl) ?_
  refine va_get (C := "GiantStair$Told") (T := TX3) (N := 10) hx hb hts (gws in_X3) hown hK hP 0 rfl rfl 3 (by decide) (hts _ (gw tw_41)) (fun _ h9 => h9) (v := .ref r3) rfl (by decide +kernel) ?_
  refine lv_iload_n (k := 2) hx hb (by decide +kernel) rfl (lv_at hl 0 rfl) ?_
  refine lv_iconst (n := 0) (v := 0) hx hb (by decide +kernel) (by decide) ?_
  refine va_zast hx hb hK hP hD hS 2 1 rfl rfl (vp_in_nI (n := 3) (by omega) (by omega)) (by decide +kernel) (fun H locs hP hD hS => ?_)
  have hP : va_P D vwCl [(h0, .inr (3, [.int 2, .int 0, .ref r2, .ref r3, .ref r4, .ref r5, .ref r6, .ref r7, .ref r8, .ref r9])), (r2, .inl (kI, 4, .inl (upd (upd (upd (upd (f) 0 20) 1 20) 2 20) 3 20))), (r3, .inl (kB, 4, .inl (upd (upd (upd (upd (g) 0 0) 1 0) 2 0) 3 0)))] H := hP
  have hD : va_D A [(h0, .inr (3, [.int 2, .int 0, .ref r2, .ref r3, .ref r4, .ref r5, .ref r6, .ref r7, .ref r8, .ref r9])), (r2, .inl (kI, 4, .inl (upd (upd (upd (upd (f) 0 20) 1 20) 2 20) 3 20))), (r3, .inl (kB, 4, .inl (upd (upd (upd (upd (g) 0 0) 1 0) 2 0) 3 0)))] := hD
  refine lv_iinc (n := 1) (v := 4) (lv' := [(2, .int 4), (0, .ref h0), (1, .int 2)]) hx hb (by decide +kernel) hl (k := 0) rfl (by decide) (by decide) rfl (fun ls hl => ?_)
  refine lv_goto (off := -23) (tgt := 12) hx hb (by decide +kernel) (by decide) ?_
  refine lv_iload_n (k := 2) hx hb (by decide +kernel) rfl (lv_at hl 0 rfl) ?_
  refine lv_iconst (n := 4) (v := 4) hx hb (by decide +kernel) (by decide) ?_
  refine lv_icmp_ge (off := 24) (tgt := 38) hx hb (by decide +kernel) (by decide) (fun z => ?_) (fun z => absurd (by decide) z)
  have hP9 := hP.sub (ws' := [(h0, .inr (3, [.int 2, .int 0, .ref r2, .ref r3, .ref r4, .ref r5, .ref r6, .ref r7, .ref r8, .ref r9])), (r2, .inl (kI, 4, .inl (upd (upd (upd (upd (f) 0 20) 1 20) 2 20) 3 20))), (r3, .inl (kB, 4, .inl (upd (upd (upd (upd (g) 0 0) 1 0) 2 0) 3 0)))]) [0, 1, 2] rfl
  have hD9 := hD.sub (ws' := [(h0, .inr (3, [.int 2, .int 0, .ref r2, .ref r3, .ref r4, .ref r5, .ref r6, .ref r7, .ref r8, .ref r9])), (r2, .inl (kI, 4, .inl (upd (upd (upd (upd (f) 0 20) 1 20) 2 20) 3 20))), (r3, .inl (kB, 4, .inl (upd (upd (upd (upd (g) 0 0) 1 0) 2 0) 3 0)))]) [0, 1, 2] (by decide) rfl
  refine W.widen (k := 0) (n := 0) (Nat.le_of_ble_eq_true rfl) (Nat.le_of_ble_eq_true rfl) ?_
  exact W.vret hx hb hr (fun t ht hW => ⟨⟨(upd (upd (upd (upd (f) 0 20) 1 20) 2 20) 3 20, upd (upd (upd (upd (g) 0 0) 1 0) 2 0) 3 0), rfl, (fun i hi => by rcases (show i = 0 ∨ i = 1 ∨ i = 2 ∨ i = 3 by omega) with z | z | z | z <;> (subst z; exact ⟨rfl, rfl⟩)), by rw [ht]; exact hP9, hD9⟩, hS.F ht⟩) hS.2.2 (by decide +kernel)
set_option maxHeartbeats 4000000 in
set_option maxRecDepth 100000 in
theorem c_plain (l : Launch) (D : va_G) (kI kB kJ : ClassId) (h0 sz r1 r4 r6 r16 r17 r19 r20 r21 r23 r24 r25 r26 r27 r29 : Nat) (f : Nat → Int32) : Met l (⟨"GiantStairModel", "plain", "(I)V"⟩ : MethodName) (Cond.code (⟨"GiantStairModel", "plain", "(I)V"⟩ : MethodName) prog_7_method_6_code 3 (Option.none : Option FieldType) :: gT) ({ frames := 0, cells := 0, slots := 0, locals := 0 } : Room) (va_Pc [.ref h0, .int 2] (mPre D kI kB kJ [(h0, .inr (5, [.int 2, .ref r1, .int 0, .int 0, .ref r4, .int 0, .ref r6, .int 0, .int 0, .long 0, .int 0, .int 0, .int 0, .int 0, .int 0, .int 0, .ref r16, .ref r17, .int 0, .ref r19, .ref r20, .ref r21, .int 0, .ref r23, .ref r24, .ref r25, .ref r26, .ref r27, .int 0, .ref r29, .int 31])), (r1, .inl (kI, 4, .inl (f)))] sz)) (va_Qv (fun u : Nat → Int32 => ∀ i, i < 4 → u i = 20) (fun u t => va_P D vwCl [(h0, .inr (5, [.int 2, .ref r1, .int 0, .int 0, .ref r4, .int 0, .ref r6, .int 0, .int 0, .long 0, .int 0, .int 0, .int 0, .int 0, .int 0, .int 0, .ref r16, .ref r17, .int 0, .ref r19, .ref r20, .ref r21, .int 0, .ref r23, .ref r24, .ref r25, .ref r26, .ref r27, .int 0, .ref r29, .int 31])), (r1, .inl (kI, 4, .inl u))] t.heap ∧ va_D (va_A [(h0, .inr (5, [.int 2, .ref r1, .int 0, .int 0, .ref r4, .int 0, .ref r6, .int 0, .int 0, .long 0, .int 0, .int 0, .int 0, .int 0, .int 0, .int 0, .ref r16, .ref r17, .int 0, .ref r19, .ref r20, .ref r21, .int 0, .ref r23, .ref r24, .ref r25, .ref r26, .ref r27, .int 0, .ref r29, .int 31])), (r1, .inl (kI, 4, .inl (f)))] sz) [(h0, .inr (5, [.int 2, .ref r1, .int 0, .int 0, .ref r4, .int 0, .ref r6, .int 0, .int 0, .long 0, .int 0, .int 0, .int 0, .int 0, .int 0, .int 0, .ref r16, .ref r17, .int 0, .ref r19, .ref r20, .ref r21, .int 0, .ref r23, .ref r24, .ref r25, .ref r26, .ref r27, .int 0, .ref r29, .int 31])), (r1, .inl (kI, 4, .inl u))]) (va_A [(h0, .inr (5, [.int 2, .ref r1, .int 0, .int 0, .ref r4, .int 0, .ref r6, .int 0, .int 0, .long 0, .int 0, .int 0, .int 0, .int 0, .int 0, .int 0, .ref r16, .ref r17, .int 0, .ref r19, .ref r20, .ref r21, .int 0, .ref r23, .ref r24, .ref r25, .ref r26, .ref r27, .int 0, .ref r29, .int 31])), (r1, .inl (kI, 4, .inl (f)))] sz)) 0 0 (va_A [(h0, .inr (5, [.int 2, .ref r1, .int 0, .int 0, .ref r4, .int 0, .ref r6, .int 0, .int 0, .long 0, .int 0, .int 0, .int 0, .int 0, .int 0, .int 0, .ref r16, .ref r17, .int 0, .ref r19, .ref r20, .ref r21, .int 0, .ref r23, .ref r24, .ref r25, .ref r26, .ref r27, .int 0, .ref r29, .int 31])), (r1, .inl (kI, 4, .inl (f)))] sz) := by
  refine Met.ofW (cc := prog_7_method_6_code) (maxL := 3) (ret := none) (by decide +kernel) rfl ?_
  intro p e s m args below meth c s₁ B hml hv
  obtain ⟨rfl, hsz, hP, hK, hD0⟩ := hv
  have hx := B.exec
  have hb := B.bytes
  have hr := B.returns
  have hts := atoms_spec (ws := Cond.code (⟨"GiantStairModel", "plain", "(I)V"⟩ : MethodName) prog_7_method_6_code 3 (Option.none : Option FieldType) :: gT) B.pre
  have hown : s.vm.findClass "GiantStairModel" = some m.cls := findClass_of_methodNamed B.named
  subst hsz
  have hD := hD0.self (sz := s.heap.size)
  generalize hAe : va_A [(h0, .inr (5, [.int 2, .ref r1, .int 0, .int 0, .ref r4, .int 0, .ref r6, .int 0, .int 0, .long 0, .int 0, .int 0, .int 0, .int 0, .int 0, .int 0, .ref r16, .ref r17, .int 0, .ref r19, .ref r20, .ref r21, .int 0, .ref r23, .ref r24, .ref r25, .ref r26, .ref r27, .int 0, .ref r29, .int 31])), (r1, .inl (kI, 4, .inl (f)))] s.heap.size = A at hD ⊢
  have hA : ∀ q : Nat, s.heap.size ≤ q → A q := fun q h => by rw [← hAe]; exact Or.inr h
  have hS : va_S A s.heap s.heap [] := va_S.rf
  have hP : va_P D vwCl [(h0, .inr (5, [.int 2, .ref r1, .int 0, .int 0, .ref r4, .int 0, .ref r6, .int 0, .int 0, .long 0, .int 0, .int 0, .int 0, .int 0, .int 0, .int 0, .ref r16, .ref r17, .int 0, .ref r19, .ref r20, .ref r21, .int 0, .ref r23, .ref r24, .ref r25, .ref r26, .ref r27, .int 0, .ref r29, .int 31])), (r1, .inl (kI, 4, .inl (f)))] s.heap := hP
  have hl := lv_entry ([.ref h0, .int 2]) (n := 3) (Nat.le_of_ble_eq_true rfl)
  rw [lg_entry_eq]
  generalize (lg_sl ([.ref h0, .int 2]) ++ List.replicate (3 - (lg_sl ([.ref h0, .int 2])).length) Slot.unset).toArray = ls at hl ⊢
  have hl : lv_has ls 3 [(0, .ref h0), (1, .int 2)] := hl
  refine lv_aload_n (k := 0) hx hb (by decide +kernel) rfl (lv_at hl 0 rfl) ?_
  refine lv_iload_n (k := 1) hx hb (by decide +kernel) rfl (lv_at hl 1 rfl) ?_
  refine va_put (D := D) (ci := 5) (v := .int 2) (ty := .int) (C := "GiantStairModel") (T := TX5) (N := 31) hx hb hts (gws in_X5) tyX5 tyX5_ok nmX5 hown hK hP hD hS 0 rfl rfl 0 (by decide) (hts _ (gw tw_660)) (fun _ h9 => h9) rfl (by decide +kernel) rfl rfl (Nat.le_of_ble_eq_true rfl) (by decide +kernel) (fun H locs hP hD hS => ?_)
  have hP : va_P D vwCl [(h0, .inr (5, [.int 2, .ref r1, .int 0, .int 0, .ref r4, .int 0, .ref r6, .int 0, .int 0, .long 0, .int 0, .int 0, .int 0, .int 0, .int 0, .int 0, .ref r16, .ref r17, .int 0, .ref r19, .ref r20, .ref r21, .int 0, .ref r23, .ref r24, .ref r25, .ref r26, .ref r27, .int 0, .ref r29, .int 31])), (r1, .inl (kI, 4, .inl (f)))] H := hP
  have hD : va_D A [(h0, .inr (5, [.int 2, .ref r1, .int 0, .int 0, .ref r4, .int 0, .ref r6, .int 0, .int 0, .long 0, .int 0, .int 0, .int 0, .int 0, .int 0, .int 0, .ref r16, .ref r17, .int 0, .ref r19, .ref r20, .ref r21, .int 0, .ref r23, .ref r24, .ref r25, .ref r26, .ref r27, .int 0, .ref r29, .int 31])), (r1, .inl (kI, 4, .inl (f)))] := hD
  refine lv_iconst (n := 0) (v := 0) hx hb (by decide +kernel) (by decide) ?_
  refine lv_istore_n (k := 2) (lv' := [(2, .int 0), (0, .ref h0), (1, .int 2)]) hx hb (by decide +kernel) rfl hl (by decide) rfl (fun ls hl => ?_)
  refine lv_iload_n (k := 2) hx hb (by decide +kernel) rfl (lv_at hl 0 rfl) ?_
  refine lv_iconst (n := 4) (v := 4) hx hb (by decide +kernel) (by decide) ?_
  refine lv_icmp_ge (off := 17) (tgt := 26) hx hb (by decide +kernel) (by decide) (fun z => absurd z (by decide)) (fun z => ?_)
  refine lv_aload_n (k := 0) hx hb (by decide +kernel) rfl (lv_at hl 1 rfl) ?_
  refine va_get (C := "GiantStairModel") (T := TX5) (N := 31) hx hb hts (gws in_X5) hown hK hP 0 rfl rfl 1 (by decide) (hts _ (gw tw_661)) (fun _ h9 => h9) (v := .ref r1) rfl (by decide +kernel) ?_
  refine lv_iload_n (k := 2) hx hb (by decide +kernel) rfl (lv_at hl 0 rfl) ?_
  refine lv_bipush (n := 20) (v := 20) hx hb (by decide +kernel) (by decide) ?_
  refine va_iast hx hb hK hP hD hS 1 0 rfl rfl (vp_in_nI (n := 0) (by omega) (by omega)) (by decide +kernel) (fun H locs hP hD hS => ?_)
  have hP : va_P D vwCl [(h0, .inr (5, [.int 2, .ref r1, .int 0, .int 0, .ref r4, .int 0, .ref r6, .int 0, .int 0, .long 0, .int 0, .int 0, .int 0, .int 0, .int 0, .int 0, .ref r16, .ref r17, .int 0, .ref r19, .ref r20, .ref r21, .int 0, .ref r23, .ref r24, .ref r25, .ref r26, .ref r27, .int 0, .ref r29, .int 31])), (r1, .inl (kI, 4, .inl (upd (f) 0 20)))] H := hP
  have hD : va_D A [(h0, .inr (5, [.int 2, .ref r1, .int 0, .int 0, .ref r4, .int 0, .ref r6, .int 0, .int 0, .long 0, .int 0, .int 0, .int 0, .int 0, .int 0, .int 0, .ref r16, .ref r17, .int 0, .ref r19, .ref r20, .ref r21, .int 0, .ref r23, .ref r24, .ref r25, .ref r26, .ref r27, .int 0, .ref r29, .int 31])), (r1, .inl (kI, 4, .inl (upd (f) 0 20)))] := hD
  refine lv_iinc (n := 1) (v := 1) (lv' := [(2, .int 1), (0, .ref h0), (1, .int 2)]) hx hb (by decide +kernel) hl (k := 0) rfl (by decide) (by decide) rfl (fun ls hl => ?_)
  refine lv_goto (off := -16) (tgt := 7) hx hb (by decide +kernel) (by decide) ?_
  refine lv_iload_n (k := 2) hx hb (by decide +kernel) rfl (lv_at hl 0 rfl) ?_
  refine lv_iconst (n := 4) (v := 4) hx hb (by decide +kernel) (by decide) ?_
  refine lv_icmp_ge (off := 17) (tgt := 26) hx hb (by decide +kernel) (by decide) (fun z => absurd z (by decide)) (fun z => ?_)
  refine lv_aload_n (k := 0) hx hb (by decide +kernel) rfl (lv_at hl 1 rfl) ?_
  refine va_get (C := "GiantStairModel") (T := TX5) (N := 31) hx hb hts (gws in_X5) hown hK hP 0 rfl rfl 1 (by decide) (hts _ (gw tw_661)) (fun _ h9 => h9) (v := .ref r1) rfl (by decide +kernel) ?_
  refine lv_iload_n (k := 2) hx hb (by decide +kernel) rfl (lv_at hl 0 rfl) ?_
  refine lv_bipush (n := 20) (v := 20) hx hb (by decide +kernel) (by decide) ?_
  refine va_iast hx hb hK hP hD hS 1 0 rfl rfl (vp_in_nI (n := 1) (by omega) (by omega)) (by decide +kernel) (fun H locs hP hD hS => ?_)
  have hP : va_P D vwCl [(h0, .inr (5, [.int 2, .ref r1, .int 0, .int 0, .ref r4, .int 0, .ref r6, .int 0, .int 0, .long 0, .int 0, .int 0, .int 0, .int 0, .int 0, .int 0, .ref r16, .ref r17, .int 0, .ref r19, .ref r20, .ref r21, .int 0, .ref r23, .ref r24, .ref r25, .ref r26, .ref r27, .int 0, .ref r29, .int 31])), (r1, .inl (kI, 4, .inl (upd (upd (f) 0 20) 1 20)))] H := hP
  have hD : va_D A [(h0, .inr (5, [.int 2, .ref r1, .int 0, .int 0, .ref r4, .int 0, .ref r6, .int 0, .int 0, .long 0, .int 0, .int 0, .int 0, .int 0, .int 0, .int 0, .ref r16, .ref r17, .int 0, .ref r19, .ref r20, .ref r21, .int 0, .ref r23, .ref r24, .ref r25, .ref r26, .ref r27, .int 0, .ref r29, .int 31])), (r1, .inl (kI, 4, .inl (upd (upd (f) 0 20) 1 20)))] := hD
  refine lv_iinc (n := 1) (v := 2) (lv' := [(2, .int 2), (0, .ref h0), (1, .int 2)]) hx hb (by decide +kernel) hl (k := 0) rfl (by decide) (by decide) rfl (fun ls hl => ?_)
  refine lv_goto (off := -16) (tgt := 7) hx hb (by decide +kernel) (by decide) ?_
  refine lv_iload_n (k := 2) hx hb (by decide +kernel) rfl (lv_at hl 0 rfl) ?_
  refine lv_iconst (n := 4) (v := 4) hx hb (by decide +kernel) (by decide) ?_
  refine lv_icmp_ge (off := 17) (tgt := 26) hx hb (by decide +kernel) (by decide) (fun z => absurd z (by decide)) (fun z => ?_)
  refine lv_aload_n (k := 0) hx hb (by decide +kernel) rfl (lv_at hl 1 rfl) ?_
  refine va_get (C := "GiantStairModel") (T := TX5) (N := 31) hx hb hts (gws in_X5) hown hK hP 0 rfl rfl 1 (by decide) (hts _ (gw tw_661)) (fun _ h9 => h9) (v := .ref r1) rfl (by decide +kernel) ?_
  refine lv_iload_n (k := 2) hx hb (by decide +kernel) rfl (lv_at hl 0 rfl) ?_
  refine lv_bipush (n := 20) (v := 20) hx hb (by decide +kernel) (by decide) ?_
  refine va_iast hx hb hK hP hD hS 1 0 rfl rfl (vp_in_nI (n := 2) (by omega) (by omega)) (by decide +kernel) (fun H locs hP hD hS => ?_)
  have hP : va_P D vwCl [(h0, .inr (5, [.int 2, .ref r1, .int 0, .int 0, .ref r4, .int 0, .ref r6, .int 0, .int 0, .long 0, .int 0, .int 0, .int 0, .int 0, .int 0, .int 0, .ref r16, .ref r17, .int 0, .ref r19, .ref r20, .ref r21, .int 0, .ref r23, .ref r24, .ref r25, .ref r26, .ref r27, .int 0, .ref r29, .int 31])), (r1, .inl (kI, 4, .inl (upd (upd (upd (f) 0 20) 1 20) 2 20)))] H := hP
  have hD : va_D A [(h0, .inr (5, [.int 2, .ref r1, .int 0, .int 0, .ref r4, .int 0, .ref r6, .int 0, .int 0, .long 0, .int 0, .int 0, .int 0, .int 0, .int 0, .int 0, .ref r16, .ref r17, .int 0, .ref r19, .ref r20, .ref r21, .int 0, .ref r23, .ref r24, .ref r25, .ref r26, .ref r27, .int 0, .ref r29, .int 31])), (r1, .inl (kI, 4, .inl (upd (upd (upd (f) 0 20) 1 20) 2 20)))] := hD
  refine lv_iinc (n := 1) (v := 3) (lv' := [(2, .int 3), (0, .ref h0), (1, .int 2)]) hx hb (by decide +kernel) hl (k := 0) rfl (by decide) (by decide) rfl (fun ls hl => ?_)
  refine lv_goto (off := -16) (tgt := 7) hx hb (by decide +kernel) (by decide) ?_
  refine lv_iload_n (k := 2) hx hb (by decide +kernel) rfl (lv_at hl 0 rfl) ?_
  refine lv_iconst (n := 4) (v := 4) hx hb (by decide +kernel) (by decide) ?_
  refine lv_icmp_ge (off := 17) (tgt := 26) hx hb (by decide +kernel) (by decide) (fun z => absurd z (by decide)) (fun z => ?_)
  refine lv_aload_n (k := 0) hx hb (by decide +kernel) rfl (lv_at hl 1 rfl) ?_
  refine va_get (C := "GiantStairModel") (T := TX5) (N := 31) hx hb hts (gws in_X5) hown hK hP 0 rfl rfl 1 (by decide) (hts _ (gw tw_661)) (fun _ h9 => h9) (v := .ref r1) rfl (by decide +kernel) ?_
  refine lv_iload_n (k := 2) hx hb (by decide +kernel) rfl (lv_at hl 0 rfl) ?_
  refine lv_bipush (n := 20) (v := 20) hx hb (by decide +kernel) (by decide) ?_
  refine va_iast hx hb hK hP hD hS 1 0 rfl rfl (vp_in_nI (n := 3) (by omega) (by omega)) (by decide +kernel) (fun H locs hP hD hS => ?_)
  have hP : va_P D vwCl [(h0, .inr (5, [.int 2, .ref r1, .int 0, .int 0, .ref r4, .int 0, .ref r6, .int 0, .int 0, .long 0, .int 0, .int 0, .int 0, .int 0, .int 0, .int 0, .ref r16, .ref r17, .int 0, .ref r19, .ref r20, .ref r21, .int 0, .ref r23, .ref r24, .ref r25, .ref r26, .ref r27, .int 0, .ref r29, .int 31])), (r1, .inl (kI, 4, .inl (upd (upd (upd (upd (f) 0 20) 1 20) 2 20) 3 20)))] H := hP
  have hD : va_D A [(h0, .inr (5, [.int 2, .ref r1, .int 0, .int 0, .ref r4, .int 0, .ref r6, .int 0, .int 0, .long 0, .int 0, .int 0, .int 0, .int 0, .int 0, .int 0, .ref r16, .ref r17, .int 0, .ref r19, .ref r20, .ref r21, .int 0, .ref r23, .ref r24, .ref r25, .ref r26, .ref r27, .int 0, .ref r29, .int 31])), (r1, .inl (kI, 4, .inl (upd (upd (upd (upd (f) 0 20) 1 20) 2 20) 3 20)))] := hD
  refine lv_iinc (n := 1) (v := 4) (lv' := [(2, .int 4), (0, .ref h0), (1, .int 2)]) hx hb (by decide +kernel) hl (k := 0) rfl (by decide) (by decide) rfl (fun ls hl => ?_)
  refine lv_goto (off := -16) (tgt := 7) hx hb (by decide +kernel) (by decide) ?_
  refine lv_iload_n (k := 2) hx hb (by decide +kernel) rfl (lv_at hl 0 rfl) ?_
  refine lv_iconst (n := 4) (v := 4) hx hb (by decide +kernel) (by decide) ?_
  refine lv_icmp_ge (off := 17) (tgt := 26) hx hb (by decide +kernel) (by decide) (fun z => ?_) (fun z => absurd (by decide) z)
  refine lv_aload_n (k := 0) hx hb (by decide +kernel) rfl (lv_at hl 1 rfl) ?_
  refine lv_iconst (n := 0) (v := 0) hx hb (by decide +kernel) (by decide) ?_
  refine va_put (D := D) (ci := 5) (v := .int 0) (ty := .int) (C := "GiantStairModel") (T := TX5) (N := 31) hx hb hts (gws in_X5) tyX5 tyX5_ok nmX5 hown hK hP hD hS 0 rfl rfl 2 (by decide) (hts _ (gw tw_662)) (fun _ h9 => h9) rfl (by decide +kernel) rfl rfl (Nat.le_of_ble_eq_true rfl) (by decide +kernel) (fun H locs hP hD hS => ?_)
  have hP : va_P D vwCl [(h0, .inr (5, [.int 2, .ref r1, .int 0, .int 0, .ref r4, .int 0, .ref r6, .int 0, .int 0, .long 0, .int 0, .int 0, .int 0, .int 0, .int 0, .int 0, .ref r16, .ref r17, .int 0, .ref r19, .ref r20, .ref r21, .int 0, .ref r23, .ref r24, .ref r25, .ref r26, .ref r27, .int 0, .ref r29, .int 31])), (r1, .inl (kI, 4, .inl (upd (upd (upd (upd (f) 0 20) 1 20) 2 20) 3 20)))] H := hP
  have hD : va_D A [(h0, .inr (5, [.int 2, .ref r1, .int 0, .int 0, .ref r4, .int 0, .ref r6, .int 0, .int 0, .long 0, .int 0, .int 0, .int 0, .int 0, .int 0, .int 0, .ref r16, .ref r17, .int 0, .ref r19, .ref r20, .ref r21, .int 0, .ref r23, .ref r24, .ref r25, .ref r26, .ref r27, .int 0, .ref r29, .int 31])), (r1, .inl (kI, 4, .inl (upd (upd (upd (upd (f) 0 20) 1 20) 2 20) 3 20)))] := hD
  refine lv_aload_n (k := 0) hx hb (by decide +kernel) rfl (lv_at hl 1 rfl) ?_
  refine lv_iconst (n := 0) (v := 0) hx hb (by decide +kernel) (by decide) ?_
  refine va_put (D := D) (ci := 5) (v := .int 0) (ty := .int) (C := "GiantStairModel") (T := TX5) (N := 31) hx hb hts (gws in_X5) tyX5 tyX5_ok nmX5 hown hK hP hD hS 0 rfl rfl 3 (by decide) (hts _ (gw tw_663)) (fun _ h9 => h9) rfl (by decide +kernel) rfl rfl (Nat.le_of_ble_eq_true rfl) (by decide +kernel) (fun H locs hP hD hS => ?_)
  have hP : va_P D vwCl [(h0, .inr (5, [.int 2, .ref r1, .int 0, .int 0, .ref r4, .int 0, .ref r6, .int 0, .int 0, .long 0, .int 0, .int 0, .int 0, .int 0, .int 0, .int 0, .ref r16, .ref r17, .int 0, .ref r19, .ref r20, .ref r21, .int 0, .ref r23, .ref r24, .ref r25, .ref r26, .ref r27, .int 0, .ref r29, .int 31])), (r1, .inl (kI, 4, .inl (upd (upd (upd (upd (f) 0 20) 1 20) 2 20) 3 20)))] H := hP
  have hD : va_D A [(h0, .inr (5, [.int 2, .ref r1, .int 0, .int 0, .ref r4, .int 0, .ref r6, .int 0, .int 0, .long 0, .int 0, .int 0, .int 0, .int 0, .int 0, .int 0, .ref r16, .ref r17, .int 0, .ref r19, .ref r20, .ref r21, .int 0, .ref r23, .ref r24, .ref r25, .ref r26, .ref r27, .int 0, .ref r29, .int 31])), (r1, .inl (kI, 4, .inl (upd (upd (upd (upd (f) 0 20) 1 20) 2 20) 3 20)))] := hD
  have hP9 := hP.sub (ws' := [(h0, .inr (5, [.int 2, .ref r1, .int 0, .int 0, .ref r4, .int 0, .ref r6, .int 0, .int 0, .long 0, .int 0, .int 0, .int 0, .int 0, .int 0, .int 0, .ref r16, .ref r17, .int 0, .ref r19, .ref r20, .ref r21, .int 0, .ref r23, .ref r24, .ref r25, .ref r26, .ref r27, .int 0, .ref r29, .int 31])), (r1, .inl (kI, 4, .inl (upd (upd (upd (upd (f) 0 20) 1 20) 2 20) 3 20)))]) [0, 1] rfl
  have hD9 := hD.sub (ws' := [(h0, .inr (5, [.int 2, .ref r1, .int 0, .int 0, .ref r4, .int 0, .ref r6, .int 0, .int 0, .long 0, .int 0, .int 0, .int 0, .int 0, .int 0, .int 0, .ref r16, .ref r17, .int 0, .ref r19, .ref r20, .ref r21, .int 0, .ref r23, .ref r24, .ref r25, .ref r26, .ref r27, .int 0, .ref r29, .int 31])), (r1, .inl (kI, 4, .inl (upd (upd (upd (upd (f) 0 20) 1 20) 2 20) 3 20)))]) [0, 1] (by decide) rfl
  refine W.widen (k := 0) (n := 0) (Nat.le_of_ble_eq_true rfl) (Nat.le_of_ble_eq_true rfl) ?_
  exact W.vret hx hb hr (fun t ht hW => ⟨⟨(upd (upd (upd (upd (f) 0 20) 1 20) 2 20) 3 20), rfl, (fun i hi => by rcases (show i = 0 ∨ i = 1 ∨ i = 2 ∨ i = 3 by omega) with z | z | z | z <;> (subst z; rfl)), by rw [ht]; exact hP9, hD9⟩, hS.F ht⟩) hS.2.2 (by decide +kernel)
