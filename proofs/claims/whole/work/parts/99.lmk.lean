/-! makers: Journey, Text, Told, Search -/
set_option maxHeartbeats 4000000 in
set_option maxRecDepth 100000 in
theorem c_Journey (l : Launch) (D : va_G) (kI kB kJ : ClassId) (h0 sz : Nat) : Met l (⟨"GiantStair$Journey", "<init>", "()V"⟩ : MethodName) (Cond.code (⟨"GiantStair$Journey", "<init>", "()V"⟩ : MethodName) prog_2_method_1_code 1 (Option.none : Option FieldType) :: gT) ({ frames := 1, cells := 2, slots := 30, locals := 40 } : Room) (va_Pc [.ref h0] (mPre D kI kB kJ [(h0, .inr (0, [.null, .int 0, .null, .int 0]))] sz)) (va_Qv (fun u : Nat → Nat => True) (fun u t => va_P D vwCl [(h0, .inr (0, [.ref (u 0), .int 0, .ref (u 1), .int 0])), ((u 0), .inl (kI, 5, .inl (fun _ => 0))), ((u 1), .inl (kI, 25, .inl (fun _ => 0)))] t.heap ∧ va_D (va_A [(h0, .inr (0, [.null, .int 0, .null, .int 0]))] sz) [(h0, .inr (0, [.ref (u 0), .int 0, .ref (u 1), .int 0])), ((u 0), .inl (kI, 5, .inl (fun _ => 0))), ((u 1), .inl (kI, 25, .inl (fun _ => 0)))]) (va_A [(h0, .inr (0, [.null, .int 0, .null, .int 0]))] sz)) 2 30 (va_A [(h0, .inr (0, [.null, .int 0, .null, .int 0]))] sz) := by
  refine Met.ofW (cc := prog_2_method_1_code) (maxL := 1) (ret := none) (by decide +kernel) rfl ?_
  intro p e s m args below meth c s₁ B hml hv
  obtain ⟨rfl, hsz, hP, hK, hD0⟩ := hv
  have hx := B.exec
  have hb := B.bytes
  have hr := B.returns
  have hts := atoms_spec (ws := Cond.code (⟨"GiantStair$Journey", "<init>", "()V"⟩ : MethodName) prog_2_method_1_code 1 (Option.none : Option FieldType) :: gT) B.pre
  have hown : s.vm.findClass "GiantStair$Journey" = some m.cls := findClass_of_methodNamed B.named
  have hin : meth.name = "<init>" := (name_of_methodNamed B.named B.method).1
  subst hsz
  have hD := hD0.self (sz := s.heap.size)
  generalize hAe : va_A [(h0, .inr (0, [.null, .int 0, .null, .int 0]))] s.heap.size = A at hD ⊢
  have hA : ∀ q : Nat, s.heap.size ≤ q → A q := fun q h => by rw [← hAe]; exact Or.inr h
  have hS : va_S A s.heap s.heap [] := va_S.rf
  have hP : va_P D vwCl [(h0, .inr (0, [.null, .int 0, .null, .int 0]))] s.heap := hP
  have hl := lv_entry ([.ref h0]) (n := 1) (Nat.le_of_ble_eq_true rfl)
  rw [lg_entry_eq]
  generalize (lg_sl ([.ref h0]) ++ List.replicate (1 - (lg_sl ([.ref h0])).length) Slot.unset).toArray = ls at hl ⊢
  have hl : lv_has ls 1 [(0, .ref h0)] := hl
  refine lv_aload_n (k := 0) hx hb (by decide +kernel) rfl (lv_at hl 0 rfl) ?_
  refine W.objInit hx hb hown (hts _ (gw tw_106)) (hts _ (gw tw_21)) (hts _ (gw tw_22)) rfl (by rw [hml]; exact hl.1) rfl (by decide +kernel : decode prog_2_method_1_code 1 = .ok (.invokespecial 3, 3)) (Nat.le_of_ble_eq_true rfl) (Nat.le_of_ble_eq_true rfl) ?_
  refine W.eq (g2 := F0 m 4 ls []) rfl ?_
  refine lv_aload_n (k := 0) hx hb (by decide +kernel) rfl (lv_at hl 0 rfl) ?_
  refine lv_iconst (n := 5) (v := 5) hx hb (by decide +kernel) (by decide) ?_
  refine mk_int (N := 5) hx hb (hts _ (gw tw_75)) hK hP hD hS hA (by decide +kernel) (by decide) (by decide +kernel) (Nat.le_of_ble_eq_true rfl) (Nat.le_of_ble_eq_true rfl) (Nat.le_of_ble_eq_true rfl) (fun q1 H hP hD hS => ?_)
  have hP : va_P D vwCl [(h0, .inr (0, [.null, .int 0, .null, .int 0])), (q1, .inl (kI, 5, .inl (fun _ => 0)))] H := hP
  have hD : va_D A [(h0, .inr (0, [.null, .int 0, .null, .int 0])), (q1, .inl (kI, 5, .inl (fun _ => 0)))] := hD
  refine W.widen (k := 1) (n := 5) (Nat.le_of_ble_eq_true rfl) (Nat.le_of_ble_eq_true rfl) ?_
  refine va_putF (D := D) (ci := 0) (v := .ref q1) (ty := .array .int) (C := "GiantStair$Journey") (T := TX0) (N := 4) hx hb hts (gws in_X0) tyX0 tyX0_ok nmX0 hown hK hP hD hS 0 rfl rfl 0 (by decide) (hts _ (gw tw_107)) (fun _ h9 => h9) rfl hin rfl (by decide +kernel) rfl rfl (Nat.le_of_ble_eq_true rfl) (by decide +kernel) (fun H locs hP hD hS => ?_)
  have hP : va_P D vwCl [(h0, .inr (0, [.ref q1, .int 0, .null, .int 0])), (q1, .inl (kI, 5, .inl (fun _ => 0)))] H := hP
  have hD : va_D A [(h0, .inr (0, [.ref q1, .int 0, .null, .int 0])), (q1, .inl (kI, 5, .inl (fun _ => 0)))] := hD
  refine lv_aload_n (k := 0) hx hb (by decide +kernel) rfl (lv_at hl 0 rfl) ?_
  refine lv_bipush (n := 25) (v := 25) hx hb (by decide +kernel) (by decide) ?_
  refine mk_int (N := 25) hx hb (hts _ (gw tw_75)) hK hP hD hS hA (by decide +kernel) (by decide) (by decide +kernel) (Nat.le_of_ble_eq_true rfl) (Nat.le_of_ble_eq_true rfl) (Nat.le_of_ble_eq_true rfl) (fun q2 H hP hD hS => ?_)
  have hP : va_P D vwCl [(h0, .inr (0, [.ref q1, .int 0, .null, .int 0])), (q1, .inl (kI, 5, .inl (fun _ => 0))), (q2, .inl (kI, 25, .inl (fun _ => 0)))] H := hP
  have hD : va_D A [(h0, .inr (0, [.ref q1, .int 0, .null, .int 0])), (q1, .inl (kI, 5, .inl (fun _ => 0))), (q2, .inl (kI, 25, .inl (fun _ => 0)))] := hD
  refine W.widen (k := 2) (n := 30) (Nat.le_of_ble_eq_true rfl) (Nat.le_of_ble_eq_true rfl) ?_
  refine va_putF (D := D) (ci := 0) (v := .ref q2) (ty := .array .int) (C := "GiantStair$Journey") (T := TX0) (N := 4) hx hb hts (gws in_X0) tyX0 tyX0_ok nmX0 hown hK hP hD hS 0 rfl rfl 2 (by decide) (hts _ (gw tw_111)) (fun _ h9 => h9) rfl hin rfl (by decide +kernel) rfl rfl (Nat.le_of_ble_eq_true rfl) (by decide +kernel) (fun H locs hP hD hS => ?_)
  have hP : va_P D vwCl [(h0, .inr (0, [.ref q1, .int 0, .ref q2, .int 0])), (q1, .inl (kI, 5, .inl (fun _ => 0))), (q2, .inl (kI, 25, .inl (fun _ => 0)))] H := hP
  have hD : va_D A [(h0, .inr (0, [.ref q1, .int 0, .ref q2, .int 0])), (q1, .inl (kI, 5, .inl (fun _ => 0))), (q2, .inl (kI, 25, .inl (fun _ => 0)))] := hD
  have hP9 := hP.sub (ws' := [(h0, .inr (0, [.ref q1, .int 0, .ref q2, .int 0])), (q1, .inl (kI, 5, .inl (fun _ => 0))), (q2, .inl (kI, 25, .inl (fun _ => 0)))]) [0, 1, 2] rfl
  have hD9 := hD.sub (ws' := [(h0, .inr (0, [.ref q1, .int 0, .ref q2, .int 0])), (q1, .inl (kI, 5, .inl (fun _ => 0))), (q2, .inl (kI, 25, .inl (fun _ => 0)))]) [0, 1, 2] (by decide) rfl
  refine W.widen (k := 2) (n := 30) (Nat.le_of_ble_eq_true rfl) (Nat.le_of_ble_eq_true rfl) ?_
  exact W.vret hx hb hr (fun t ht hW => ⟨⟨(fun k => qNth [q1, q2] k), rfl, trivial, by rw [ht]; exact hP9, hD9⟩, hS.F ht⟩) hS.2.2 (by decide +kernel)
set_option maxHeartbeats 4000000 in
set_option maxRecDepth 100000 in
theorem c_Text (l : Launch) (D : va_G) (kI kB kJ : ClassId) (h0 sz : Nat) : Met l (⟨"GiantStair$Text", "<init>", "()V"⟩ : MethodName) (Cond.code (⟨"GiantStair$Text", "<init>", "()V"⟩ : MethodName) prog_4_method_1_code 1 (Option.none : Option FieldType) :: gT) ({ frames := 1, cells := 2, slots := 203, locals := 40 } : Room) (va_Pc [.ref h0] (mPre D kI kB kJ [(h0, .inr (2, [.null, .int 0, .int 0, .int 0, .null]))] sz)) (va_Qv (fun u : Nat → Nat => True) (fun u t => va_P D vwCl [(h0, .inr (2, [.ref (u 0), .int 0, .int 0, .int 0, .ref (u 1)])), ((u 0), .inl (kI, 200, .inl (fun _ => 0))), ((u 1), .inl (kI, 3, .inl (fun _ => 0)))] t.heap ∧ va_D (va_A [(h0, .inr (2, [.null, .int 0, .int 0, .int 0, .null]))] sz) [(h0, .inr (2, [.ref (u 0), .int 0, .int 0, .int 0, .ref (u 1)])), ((u 0), .inl (kI, 200, .inl (fun _ => 0))), ((u 1), .inl (kI, 3, .inl (fun _ => 0)))]) (va_A [(h0, .inr (2, [.null, .int 0, .int 0, .int 0, .null]))] sz)) 2 203 (va_A [(h0, .inr (2, [.null, .int 0, .int 0, .int 0, .null]))] sz) := by
  refine Met.ofW (cc := prog_4_method_1_code) (maxL := 1) (ret := none) (by decide +kernel) rfl ?_
  intro p e s m args below meth c s₁ B hml hv
  obtain ⟨rfl, hsz, hP, hK, hD0⟩ := hv
  have hx := B.exec
  have hb := B.bytes
  have hr := B.returns
  have hts := atoms_spec (ws := Cond.code (⟨"GiantStair$Text", "<init>", "()V"⟩ : MethodName) prog_4_method_1_code 1 (Option.none : Option FieldType) :: gT) B.pre
  have hown : s.vm.findClass "GiantStair$Text" = some m.cls := findClass_of_methodNamed B.named
  have hin : meth.name = "<init>" := (name_of_methodNamed B.named B.method).1
  subst hsz
  have hD := hD0.self (sz := s.heap.size)
  generalize hAe : va_A [(h0, .inr (2, [.null, .int 0, .int 0, .int 0, .null]))] s.heap.size = A at hD ⊢
  have hA : ∀ q : Nat, s.heap.size ≤ q → A q := fun q h => by rw [← hAe]; exact Or.inr h
  have hS : va_S A s.heap s.heap [] := va_S.rf
  have hP : va_P D vwCl [(h0, .inr (2, [.null, .int 0, .int 0, .int 0, .null]))] s.heap := hP
  have hl := lv_entry ([.ref h0]) (n := 1) (Nat.le_of_ble_eq_true rfl)
  rw [lg_entry_eq]
  generalize (lg_sl ([.ref h0]) ++ List.replicate (1 - (lg_sl ([.ref h0])).length) Slot.unset).toArray = ls at hl ⊢
  have hl : lv_has ls 1 [(0, .ref h0)] := hl
  refine lv_aload_n (k := 0) hx hb (by decide +kernel) rfl (lv_at hl 0 rfl) ?_
  refine W.objInit hx hb hown (hts _ (gw tw_82)) (hts _ (gw tw_21)) (hts _ (gw tw_22)) rfl (by rw [hml]; exact hl.1) rfl (by decide +kernel : decode prog_4_method_1_code 1 = .ok (.invokespecial 3, 3)) (Nat.le_of_ble_eq_true rfl) (Nat.le_of_ble_eq_true rfl) ?_
  refine W.eq (g2 := F0 m 4 ls []) rfl ?_
  refine lv_aload_n (k := 0) hx hb (by decide +kernel) rfl (lv_at hl 0 rfl) ?_
  refine lv_sipush (n := 200) (v := 200) hx hb (by decide +kernel) (by decide) ?_
  refine mk_int (N := 200) hx hb (hts _ (gw tw_75)) hK hP hD hS hA (by decide +kernel) (by decide) (by decide +kernel) (Nat.le_of_ble_eq_true rfl) (Nat.le_of_ble_eq_true rfl) (Nat.le_of_ble_eq_true rfl) (fun q1 H hP hD hS => ?_)
  have hP : va_P D vwCl [(h0, .inr (2, [.null, .int 0, .int 0, .int 0, .null])), (q1, .inl (kI, 200, .inl (fun _ => 0)))] H := hP
  have hD : va_D A [(h0, .inr (2, [.null, .int 0, .int 0, .int 0, .null])), (q1, .inl (kI, 200, .inl (fun _ => 0)))] := hD
  refine W.widen (k := 1) (n := 200) (Nat.le_of_ble_eq_true rfl) (Nat.le_of_ble_eq_true rfl) ?_
  refine va_putF (D := D) (ci := 2) (v := .ref q1) (ty := .array .int) (C := "GiantStair$Text") (T := TX2) (N := 5) hx hb hts (gws in_X2) tyX2 tyX2_ok nmX2 hown hK hP hD hS 0 rfl rfl 0 (by decide) (hts _ (gw tw_83)) (fun _ h9 => h9) rfl hin rfl (by decide +kernel) rfl rfl (Nat.le_of_ble_eq_true rfl) (by decide +kernel) (fun H locs hP hD hS => ?_)
  have hP : va_P D vwCl [(h0, .inr (2, [.ref q1, .int 0, .int 0, .int 0, .null])), (q1, .inl (kI, 200, .inl (fun _ => 0)))] H := hP
  have hD : va_D A [(h0, .inr (2, [.ref q1, .int 0, .int 0, .int 0, .null])), (q1, .inl (kI, 200, .inl (fun _ => 0)))] := hD
  refine lv_aload_n (k := 0) hx hb (by decide +kernel) rfl (lv_at hl 0 rfl) ?_
  refine lv_iconst (n := 3) (v := 3) hx hb (by decide +kernel) (by decide) ?_
  refine mk_int (N := 3) hx hb (hts _ (gw tw_75)) hK hP hD hS hA (by decide +kernel) (by decide) (by decide +kernel) (Nat.le_of_ble_eq_true rfl) (Nat.le_of_ble_eq_true rfl) (Nat.le_of_ble_eq_true rfl) (fun q2 H hP hD hS => ?_)
  have hP : va_P D vwCl [(h0, .inr (2, [.ref q1, .int 0, .int 0, .int 0, .null])), (q1, .inl (kI, 200, .inl (fun _ => 0))), (q2, .inl (kI, 3, .inl (fun _ => 0)))] H := hP
  have hD : va_D A [(h0, .inr (2, [.ref q1, .int 0, .int 0, .int 0, .null])), (q1, .inl (kI, 200, .inl (fun _ => 0))), (q2, .inl (kI, 3, .inl (fun _ => 0)))] := hD
  refine W.widen (k := 2) (n := 203) (Nat.le_of_ble_eq_true rfl) (Nat.le_of_ble_eq_true rfl) ?_
  refine va_putF (D := D) (ci := 2) (v := .ref q2) (ty := .array .int) (C := "GiantStair$Text") (T := TX2) (N := 5) hx hb hts (gws in_X2) tyX2 tyX2_ok nmX2 hown hK hP hD hS 0 rfl rfl 4 (by decide) (hts _ (gw tw_89)) (fun _ h9 => h9) rfl hin rfl (by decide +kernel) rfl rfl (Nat.le_of_ble_eq_true rfl) (by decide +kernel) (fun H locs hP hD hS => ?_)
  have hP : va_P D vwCl [(h0, .inr (2, [.ref q1, .int 0, .int 0, .int 0, .ref q2])), (q1, .inl (kI, 200, .inl (fun _ => 0))), (q2, .inl (kI, 3, .inl (fun _ => 0)))] H := hP
  have hD : va_D A [(h0, .inr (2, [.ref q1, .int 0, .int 0, .int 0, .ref q2])), (q1, .inl (kI, 200, .inl (fun _ => 0))), (q2, .inl (kI, 3, .inl (fun _ => 0)))] := hD
  have hP9 := hP.sub (ws' := [(h0, .inr (2, [.ref q1, .int 0, .int 0, .int 0, .ref q2])), (q1, .inl (kI, 200, .inl (fun _ => 0))), (q2, .inl (kI, 3, .inl (fun _ => 0)))]) [0, 1, 2] rfl
  have hD9 := hD.sub (ws' := [(h0, .inr (2, [.ref q1, .int 0, .int 0, .int 0, .ref q2])), (q1, .inl (kI, 200, .inl (fun _ => 0))), (q2, .inl (kI, 3, .inl (fun _ => 0)))]) [0, 1, 2] (by decide) rfl
  refine W.widen (k := 2) (n := 203) (Nat.le_of_ble_eq_true rfl) (Nat.le_of_ble_eq_true rfl) ?_
  exact W.vret hx hb hr (fun t ht hW => ⟨⟨(fun k => qNth [q1, q2] k), rfl, trivial, by rw [ht]; exact hP9, hD9⟩, hS.F ht⟩) hS.2.2 (by decide +kernel)
set_option maxHeartbeats 4000000 in
set_option maxRecDepth 100000 in
theorem c_Told (l : Launch) (D : va_G) (kI kB kJ : ClassId) (h0 sz : Nat) : Met l (⟨"GiantStair$Told", "<init>", "()V"⟩ : MethodName) (Cond.code (⟨"GiantStair$Told", "<init>", "()V"⟩ : MethodName) prog_5_method_1_code 1 (Option.none : Option FieldType) :: gT) ({ frames := 1, cells := 8, slots := 38, locals := 40 } : Room) (va_Pc [.ref h0] (mPre D kI kB kJ [(h0, .inr (3, [.int 0, .int 0, .null, .null, .null, .null, .null, .null, .null, .null]))] sz)) (va_Qv (fun u : (Nat → Nat) × (Nat → Int32) × (Nat → Int32) => ∀ i, i < 4 → u.2.1 i = 20 ∧ u.2.2 i = 0) (fun u t => va_P D vwCl [(h0, .inr (3, [.int 2, .int 0, .ref (u.1 0), .ref (u.1 1), .ref (u.1 2), .ref (u.1 3), .ref (u.1 4), .ref (u.1 5), .ref (u.1 6), .ref (u.1 7)])), ((u.1 0), .inl (kI, 4, .inl (u.2.1))), ((u.1 1), .inl (kB, 4, .inl (u.2.2))), ((u.1 2), .inl (kI, 5, .inl (fun _ => 0))), ((u.1 3), .inl (kI, 5, .inl (fun _ => 0))), ((u.1 4), .inl (kI, 5, .inl (fun _ => 0))), ((u.1 5), .inl (kI, 5, .inl (fun _ => 0))), ((u.1 6), .inl (kI, 5, .inl (fun _ => 0))), ((u.1 7), .inl (kI, 5, .inl (fun _ => 0)))] t.heap ∧ va_D (va_A [(h0, .inr (3, [.int 0, .int 0, .null, .null, .null, .null, .null, .null, .null, .null]))] sz) [(h0, .inr (3, [.int 2, .int 0, .ref (u.1 0), .ref (u.1 1), .ref (u.1 2), .ref (u.1 3), .ref (u.1 4), .ref (u.1 5), .ref (u.1 6), .ref (u.1 7)])), ((u.1 0), .inl (kI, 4, .inl (u.2.1))), ((u.1 1), .inl (kB, 4, .inl (u.2.2))), ((u.1 2), .inl (kI, 5, .inl (fun _ => 0))), ((u.1 3), .inl (kI, 5, .inl (fun _ => 0))), ((u.1 4), .inl (kI, 5, .inl (fun _ => 0))), ((u.1 5), .inl (kI, 5, .inl (fun _ => 0))), ((u.1 6), .inl (kI, 5, .inl (fun _ => 0))), ((u.1 7), .inl (kI, 5, .inl (fun _ => 0)))]) (va_A [(h0, .inr (3, [.int 0, .int 0, .null, .null, .null, .null, .null, .null, .null, .null]))] sz)) 8 38 (va_A [(h0, .inr (3, [.int 0, .int 0, .null, .null, .null, .null, .null, .null, .null, .null]))] sz) := by
  refine Met.ofW (cc := prog_5_method_1_code) (maxL := 1) (ret := none) (by decide +kernel) rfl ?_
  intro p e s m args below meth c s₁ B hml hv
  obtain ⟨rfl, hsz, hP, hK, hD0⟩ := hv
  have hx := B.exec
  have hb := B.bytes
  have hr := B.returns
  have hts := atoms_spec (ws := Cond.code (⟨"GiantStair$Told", "<init>", "()V"⟩ : MethodName) prog_5_method_1_code 1 (Option.none : Option FieldType) :: gT) B.pre
  have hown : s.vm.findClass "GiantStair$Told" = some m.cls := findClass_of_methodNamed B.named
  have hin : meth.name = "<init>" := (name_of_methodNamed B.named B.method).1
  subst hsz
  have hD := hD0.self (sz := s.heap.size)
  generalize hAe : va_A [(h0, .inr (3, [.int 0, .int 0, .null, .null, .null, .null, .null, .null, .null, .null]))] s.heap.size = A at hD ⊢
  have hA : ∀ q : Nat, s.heap.size ≤ q → A q := fun q h => by rw [← hAe]; exact Or.inr h
  have hS : va_S A s.heap s.heap [] := va_S.rf
  have hP : va_P D vwCl [(h0, .inr (3, [.int 0, .int 0, .null, .null, .null, .null, .null, .null, .null, .null]))] s.heap := hP
  have hl := lv_entry ([.ref h0]) (n := 1) (Nat.le_of_ble_eq_true rfl)
  rw [lg_entry_eq]
  generalize (lg_sl ([.ref h0]) ++ List.replicate (1 - (lg_sl ([.ref h0])).length) Slot.unset).toArray = ls at hl ⊢
  have hl : lv_has ls 1 [(0, .ref h0)] := hl
  refine lv_aload_n (k := 0) hx hb (by decide +kernel) rfl (lv_at hl 0 rfl) ?_
  refine W.objInit hx hb hown (hts _ (gw tw_28)) (hts _ (gw tw_21)) (hts _ (gw tw_22)) rfl (by rw [hml]; exact hl.1) rfl (by decide +kernel : decode prog_5_method_1_code 1 = .ok (.invokespecial 3, 3)) (Nat.le_of_ble_eq_true rfl) (Nat.le_of_ble_eq_true rfl) ?_
  refine W.eq (g2 := F0 m 4 ls []) rfl ?_
  refine lv_aload_n (k := 0) hx hb (by decide +kernel) rfl (lv_at hl 0 rfl) ?_
  refine lv_iconst (n := 4) (v := 4) hx hb (by decide +kernel) (by decide) ?_
  refine mk_int (N := 4) hx hb (hts _ (gw tw_75)) hK hP hD hS hA (by decide +kernel) (by decide) (by decide +kernel) (Nat.le_of_ble_eq_true rfl) (Nat.le_of_ble_eq_true rfl) (Nat.le_of_ble_eq_true rfl) (fun q1 H hP hD hS => ?_)
  have hP : va_P D vwCl [(h0, .inr (3, [.int 0, .int 0, .null, .null, .null, .null, .null, .null, .null, .null])), (q1, .inl (kI, 4, .inl (fun _ => 0)))] H := hP
  have hD : va_D A [(h0, .inr (3, [.int 0, .int 0, .null, .null, .null, .null, .null, .null, .null, .null])), (q1, .inl (kI, 4, .inl (fun _ => 0)))] := hD
  refine W.widen (k := 1) (n := 4) (Nat.le_of_ble_eq_true rfl) (Nat.le_of_ble_eq_true rfl) ?_
  refine va_putF (D := D) (ci := 3) (v := .ref q1) (ty := .array .int) (C := "GiantStair$Told") (T := TX3) (N := 10) hx hb hts (gws in_X3) tyX3 tyX3_ok nmX3 hown hK hP hD hS 0 rfl rfl 2 (by decide) (hts _ (gw tw_39)) (fun _ h9 => h9) rfl hin rfl (by decide +kernel) rfl rfl (Nat.le_of_ble_eq_true rfl) (by decide +kernel) (fun H locs hP hD hS => ?_)
  have hP : va_P D vwCl [(h0, .inr (3, [.int 0, .int 0, .ref q1, .null, .null, .null, .null, .null, .null, .null])), (q1, .inl (kI, 4, .inl (fun _ => 0)))] H := hP
  have hD : va_D A [(h0, .inr (3, [.int 0, .int 0, .ref q1, .null, .null, .null, .null, .null, .null, .null])), (q1, .inl (kI, 4, .inl (fun _ => 0)))] := hD
  refine lv_aload_n (k := 0) hx hb (by decide +kernel) rfl (lv_at hl 0 rfl) ?_
  refine lv_iconst (n := 4) (v := 4) hx hb (by decide +kernel) (by decide) ?_
  refine mk_bool (N := 4) hx hb (hts _ (gw tw_76)) hK hP hD hS hA (by decide +kernel) (by decide) (by decide +kernel) (Nat.le_of_ble_eq_true rfl) (Nat.le_of_ble_eq_true rfl) (Nat.le_of_ble_eq_true rfl) (fun q2 H hP hD hS => ?_)
  have hP : va_P D vwCl [(h0, .inr (3, [.int 0, .int 0, .ref q1, .null, .null, .null, .null, .null, .null, .null])), (q1, .inl (kI, 4, .inl (fun _ => 0))), (q2, .inl (kB, 4, .inl (fun _ => 0)))] H := hP
  have hD : va_D A [(h0, .inr (3, [.int 0, .int 0, .ref q1, .null, .null, .null, .null, .null, .null, .null])), (q1, .inl (kI, 4, .inl (fun _ => 0))), (q2, .inl (kB, 4, .inl (fun _ => 0)))] := hD
  refine W.widen (k := 2) (n := 8) (Nat.le_of_ble_eq_true rfl) (Nat.le_of_ble_eq_true rfl) ?_
  refine va_putF (D := D) (ci := 3) (v := .ref q2) (ty := .array .boolean) (C := "GiantStair$Told") (T := TX3) (N := 10) hx hb hts (gws in_X3) tyX3 tyX3_ok nmX3 hown hK hP hD hS 0 rfl rfl 3 (by decide) (hts _ (gw tw_41)) (fun _ h9 => h9) rfl hin rfl (by decide +kernel) rfl rfl (Nat.le_of_ble_eq_true rfl) (by decide +kernel) (fun H locs hP hD hS => ?_)
  have hP : va_P D vwCl [(h0, .inr (3, [.int 0, .int 0, .ref q1, .ref q2, .null, .null, .null, .null, .null, .null])), (q1, .inl (kI, 4, .inl (fun _ => 0))), (q2, .inl (kB, 4, .inl (fun _ => 0)))] H := hP
  have hD : va_D A [(h0, .inr (3, [.int 0, .int 0, .ref q1, .ref q2, .null, .null, .null, .null, .null, .null])), (q1, .inl (kI, 4, .inl (fun _ => 0))), (q2, .inl (kB, 4, .inl (fun _ => 0)))] := hD
  refine lv_aload_n (k := 0) hx hb (by decide +kernel) rfl (lv_at hl 0 rfl) ?_
  refine lv_iconst (n := 5) (v := 5) hx hb (by decide +kernel) (by decide) ?_
  refine mk_int (N := 5) hx hb (hts _ (gw tw_75)) hK hP hD hS hA (by decide +kernel) (by decide) (by decide +kernel) (Nat.le_of_ble_eq_true rfl) (Nat.le_of_ble_eq_true rfl) (Nat.le_of_ble_eq_true rfl) (fun q3 H hP hD hS => ?_)
  have hP : va_P D vwCl [(h0, .inr (3, [.int 0, .int 0, .ref q1, .ref q2, .null, .null, .null, .null, .null, .null])), (q1, .inl (kI, 4, .inl (fun _ => 0))), (q2, .inl (kB, 4, .inl (fun _ => 0))), (q3, .inl (kI, 5, .inl (fun _ => 0)))] H := hP
  have hD : va_D A [(h0, .inr (3, [.int 0, .int 0, .ref q1, .ref q2, .null, .null, .null, .null, .null, .null])), (q1, .inl (kI, 4, .inl (fun _ => 0))), (q2, .inl (kB, 4, .inl (fun _ => 0))), (q3, .inl (kI, 5, .inl (fun _ => 0)))] := hD
  refine W.widen (k := 3) (n := 13) (Nat.le_of_ble_eq_true rfl) (Nat.le_of_ble_eq_true rfl) ?_
  refine va_putF (D := D) (ci := 3) (v := .ref q3) (ty := .array .int) (C := "GiantStair$Told") (T := TX3) (N := 10) hx hb hts (gws in_X3) tyX3 tyX3_ok nmX3 hown hK hP hD hS 0 rfl rfl 4 (by decide) (hts _ (gw tw_43)) (fun _ h9 => h9) rfl hin rfl (by decide +kernel) rfl rfl (Nat.le_of_ble_eq_true rfl) (by decide +kernel) (fun H locs hP hD hS => ?_)
  have hP : va_P D vwCl [(h0, .inr (3, [.int 0, .int 0, .ref q1, .ref q2, .ref q3, .null, .null, .null, .null, .null])), (q1, .inl (kI, 4, .inl (fun _ => 0))), (q2, .inl (kB, 4, .inl (fun _ => 0))), (q3, .inl (kI, 5, .inl (fun _ => 0)))] H := hP
  have hD : va_D A [(h0, .inr (3, [.int 0, .int 0, .ref q1, .ref q2, .ref q3, .null, .null, .null, .null, .null])), (q1, .inl (kI, 4, .inl (fun _ => 0))), (q2, .inl (kB, 4, .inl (fun _ => 0))), (q3, .inl (kI, 5, .inl (fun _ => 0)))] := hD
  refine lv_aload_n (k := 0) hx hb (by decide +kernel) rfl (lv_at hl 0 rfl) ?_
  refine lv_iconst (n := 5) (v := 5) hx hb (by decide +kernel) (by decide) ?_
  refine mk_int (N := 5) hx hb (hts _ (gw tw_75)) hK hP hD hS hA (by decide +kernel) (by decide) (by decide +kernel) (Nat.le_of_ble_eq_true rfl) (Nat.le_of_ble_eq_true rfl) (Nat.le_of_ble_eq_true rfl) (fun q4 H hP hD hS => ?_)
  have hP : va_P D vwCl [(h0, .inr (3, [.int 0, .int 0, .ref q1, .ref q2, .ref q3, .null, .null, .null, .null, .null])), (q1, .inl (kI, 4, .inl (fun _ => 0))), (q2, .inl (kB, 4, .inl (fun _ => 0))), (q3, .inl (kI, 5, .inl (fun _ => 0))), (q4, .inl (kI, 5, .inl (fun _ => 0)))] H := hP
  have hD : va_D A [(h0, .inr (3, [.int 0, .int 0, .ref q1, .ref q2, .ref q3, .null, .null, .null, .null, .null])), (q1, .inl (kI, 4, .inl (fun _ => 0))), (q2, .inl (kB, 4, .inl (fun _ => 0))), (q3, .inl (kI, 5, .inl (fun _ => 0))), (q4, .inl (kI, 5, .inl (fun _ => 0)))] := hD
  refine W.widen (k := 4) (n := 18) (Nat.le_of_ble_eq_true rfl) (Nat.le_of_ble_eq_true rfl) ?_
  refine va_putF (D := D) (ci := 3) (v := .ref q4) (ty := .array .int) (C := "GiantStair$Told") (T := TX3) (N := 10) hx hb hts (gws in_X3) tyX3 tyX3_ok nmX3 hown hK hP hD hS 0 rfl rfl 5 (by decide) (hts _ (gw tw_45)) (fun _ h9 => h9) rfl hin rfl (by decide +kernel) rfl rfl (Nat.le_of_ble_eq_true rfl) (by decide +kernel) (fun H locs hP hD hS => ?_)
  have hP : va_P D vwCl [(h0, .inr (3, [.int 0, .int 0, .ref q1, .ref q2, .ref q3, .ref q4, .null, .null, .null, .null])), (q1, .inl (kI, 4, .inl (fun _ => 0))), (q2, .inl (kB, 4, .inl (fun _ => 0))), (q3, .inl (kI, 5, .inl (fun _ => 0))), (q4, .inl (kI, 5, .inl (fun _ => 0)))] H := hP
  have hD : va_D A [(h0, .inr (3, [.int 0, .int 0, .ref q1, .ref q2, .ref q3, .ref q4, .null, .null, .null, .null])), (q1, .inl (kI, 4, .inl (fun _ => 0))), (q2, .inl (kB, 4, .inl (fun _ => 0))), (q3, .inl (kI, 5, .inl (fun _ => 0))), (q4, .inl (kI, 5, .inl (fun _ => 0)))] := hD
  refine lv_aload_n (k := 0) hx hb (by decide +kernel) rfl (lv_at hl 0 rfl) ?_
  refine lv_iconst (n := 5) (v := 5) hx hb (by decide +kernel) (by decide) ?_
  refine mk_int (N := 5) hx hb (hts _ (gw tw_75)) hK hP hD hS hA (by decide +kernel) (by decide) (by decide +kernel) (Nat.le_of_ble_eq_true rfl) (Nat.le_of_ble_eq_true rfl) (Nat.le_of_ble_eq_true rfl) (fun q5 H hP hD hS => ?_)
  have hP : va_P D vwCl [(h0, .inr (3, [.int 0, .int 0, .ref q1, .ref q2, .ref q3, .ref q4, .null, .null, .null, .null])), (q1, .inl (kI, 4, .inl (fun _ => 0))), (q2, .inl (kB, 4, .inl (fun _ => 0))), (q3, .inl (kI, 5, .inl (fun _ => 0))), (q4, .inl (kI, 5, .inl (fun _ => 0))), (q5, .inl (kI, 5, .inl (fun _ => 0)))] H := hP
  have hD : va_D A [(h0, .inr (3, [.int 0, .int 0, .ref q1, .ref q2, .ref q3, .ref q4, .null, .null, .null, .null])), (q1, .inl (kI, 4, .inl (fun _ => 0))), (q2, .inl (kB, 4, .inl (fun _ => 0))), (q3, .inl (kI, 5, .inl (fun _ => 0))), (q4, .inl (kI, 5, .inl (fun _ => 0))), (q5, .inl (kI, 5, .inl (fun _ => 0)))] := hD
  refine W.widen (k := 5) (n := 23) (Nat.le_of_ble_eq_true rfl) (Nat.le_of_ble_eq_true rfl) ?_
  refine va_putF (D := D) (ci := 3) (v := .ref q5) (ty := .array .int) (C := "GiantStair$Told") (T := TX3) (N := 10) hx hb hts (gws in_X3) tyX3 tyX3_ok nmX3 hown hK hP hD hS 0 rfl rfl 6 (by decide) (hts _ (gw tw_47)) (fun _ h9 => h9) rfl hin rfl (by decide +kernel) rfl rfl (Nat.le_of_ble_eq_true rfl) (by decide +kernel) (fun H locs hP hD hS => ?_)
  have hP : va_P D vwCl [(h0, .inr (3, [.int 0, .int 0, .ref q1, .ref q2, .ref q3, .ref q4, .ref q5, .null, .null, .null])), (q1, .inl (kI, 4, .inl (fun _ => 0))), (q2, .inl (kB, 4, .inl (fun _ => 0))), (q3, .inl (kI, 5, .inl (fun _ => 0))), (q4, .inl (kI, 5, .inl (fun _ => 0))), (q5, .inl (kI, 5, .inl (fun _ => 0)))] H := hP
  have hD : va_D A [(h0, .inr (3, [.int 0, .int 0, .ref q1, .ref q2, .ref q3, .ref q4, .ref q5, .null, .null, .null])), (q1, .inl (kI, 4, .inl (fun _ => 0))), (q2, .inl (kB, 4, .inl (fun _ => 0))), (q3, .inl (kI, 5, .inl (fun _ => 0))), (q4, .inl (kI, 5, .inl (fun _ => 0))), (q5, .inl (kI, 5, .inl (fun _ => 0)))] := hD
  refine lv_aload_n (k := 0) hx hb (by decide +kernel) rfl (lv_at hl 0 rfl) ?_
  refine lv_iconst (n := 5) (v := 5) hx hb (by decide +kernel) (by decide) ?_
  refine mk_int (N := 5) hx hb (hts _ (gw tw_75)) hK hP hD hS hA (by decide +kernel) (by decide) (by decide +kernel) (Nat.le_of_ble_eq_true rfl) (Nat.le_of_ble_eq_true rfl) (Nat.le_of_ble_eq_true rfl) (fun q6 H hP hD hS => ?_)
  have hP : va_P D vwCl [(h0, .inr (3, [.int 0, .int 0, .ref q1, .ref q2, .ref q3, .ref q4, .ref q5, .null, .null, .null])), (q1, .inl (kI, 4, .inl (fun _ => 0))), (q2, .inl (kB, 4, .inl (fun _ => 0))), (q3, .inl (kI, 5, .inl (fun _ => 0))), (q4, .inl (kI, 5, .inl (fun _ => 0))), (q5, .inl (kI, 5, .inl (fun _ => 0))), (q6, .inl (kI, 5, .inl (fun _ => 0)))] H := hP
  have hD : va_D A [(h0, .inr (3, [.int 0, .int 0, .ref q1, .ref q2, .ref q3, .ref q4, .ref q5, .null, .null, .null])), (q1, .inl (kI, 4, .inl (fun _ => 0))), (q2, .inl (kB, 4, .inl (fun _ => 0))), (q3, .inl (kI, 5, .inl (fun _ => 0))), (q4, .inl (kI, 5, .inl (fun _ => 0))), (q5, .inl (kI, 5, .inl (fun _ => 0))), (q6, .inl (kI, 5, .inl (fun _ => 0)))] := hD
  refine W.widen (k := 6) (n := 28) (Nat.le_of_ble_eq_true rfl) (Nat.le_of_ble_eq_true rfl) ?_
  refine va_putF (D := D) (ci := 3) (v := .ref q6) (ty := .array .int) (C := "GiantStair$Told") (T := TX3) (N := 10) hx hb hts (gws in_X3) tyX3 tyX3_ok nmX3 hown hK hP hD hS 0 rfl rfl 7 (by decide) (hts _ (gw tw_48)) (fun _ h9 => h9) rfl hin rfl (by decide +kernel) rfl rfl (Nat.le_of_ble_eq_true rfl) (by decide +kernel) (fun H locs hP hD hS => ?_)
  have hP : va_P D vwCl [(h0, .inr (3, [.int 0, .int 0, .ref q1, .ref q2, .ref q3, .ref q4, .ref q5, .ref q6, .null, .null])), (q1, .inl (kI, 4, .inl (fun _ => 0))), (q2, .inl (kB, 4, .inl (fun _ => 0))), (q3, .inl (kI, 5, .inl (fun _ => 0))), (q4, .inl (kI, 5, .inl (fun _ => 0))), (q5, .inl (kI, 5, .inl (fun _ => 0))), (q6, .inl (kI, 5, .inl (fun _ => 0)))] H := hP
  have hD : va_D A [(h0, .inr (3, [.int 0, .int 0, .ref q1, .ref q2, .ref q3, .ref q4, .ref q5, .ref q6, .null, .null])), (q1, .inl (kI, 4, .inl (fun _ => 0))), (q2, .inl (kB, 4, .inl (fun _ => 0))), (q3, .inl (kI, 5, .inl (fun _ => 0))), (q4, .inl (kI, 5, .inl (fun _ => 0))), (q5, .inl (kI, 5, .inl (fun _ => 0))), (q6, .inl (kI, 5, .inl (fun _ => 0)))] := hD
  refine lv_aload_n (k := 0) hx hb (by decide +kernel) rfl (lv_at hl 0 rfl) ?_
  refine lv_iconst (n := 5) (v := 5) hx hb (by decide +kernel) (by decide) ?_
  refine mk_int (N := 5) hx hb (hts _ (gw tw_75)) hK hP hD hS hA (by decide +kernel) (by decide) (by decide +kernel) (Nat.le_of_ble_eq_true rfl) (Nat.le_of_ble_eq_true rfl) (Nat.le_of_ble_eq_true rfl) (fun q7 H hP hD hS => ?_)
  have hP : va_P D vwCl [(h0, .inr (3, [.int 0, .int 0, .ref q1, .ref q2, .ref q3, .ref q4, .ref q5, .ref q6, .null, .null])), (q1, .inl (kI, 4, .inl (fun _ => 0))), (q2, .inl (kB, 4, .inl (fun _ => 0))), (q3, .inl (kI, 5, .inl (fun _ => 0))), (q4, .inl (kI, 5, .inl (fun _ => 0))), (q5, .inl (kI, 5, .inl (fun _ => 0))), (q6, .inl (kI, 5, .inl (fun _ => 0))), (q7, .inl (kI, 5, .inl (fun _ => 0)))] H := hP
  have hD : va_D A [(h0, .inr (3, [.int 0, .int 0, .ref q1, .ref q2, .ref q3, .ref q4, .ref q5, .ref q6, .null, .null])), (q1, .inl (kI, 4, .inl (fun _ => 0))), (q2, .inl (kB, 4, .inl (fun _ => 0))), (q3, .inl (kI, 5, .inl (fun _ => 0))), (q4, .inl (kI, 5, .inl (fun _ => 0))), (q5, .inl (kI, 5, .inl (fun _ => 0))), (q6, .inl (kI, 5, .inl (fun _ => 0))), (q7, .inl (kI, 5, .inl (fun _ => 0)))] := hD
  refine W.widen (k := 7) (n := 33) (Nat.le_of_ble_eq_true rfl) (Nat.le_of_ble_eq_true rfl) ?_
  refine va_putF (D := D) (ci := 3) (v := .ref q7) (ty := .array .int) (C := "GiantStair$Told") (T := TX3) (N := 10) hx hb hts (gws in_X3) tyX3 tyX3_ok nmX3 hown hK hP hD hS 0 rfl rfl 8 (by decide) (hts _ (gw tw_50)) (fun _ h9 => h9) rfl hin rfl (by decide +kernel) rfl rfl (Nat.le_of_ble_eq_true rfl) (by decide +kernel) (fun H locs hP hD hS => ?_)
  have hP : va_P D vwCl [(h0, .inr (3, [.int 0, .int 0, .ref q1, .ref q2, .ref q3, .ref q4, .ref q5, .ref q6, .ref q7, .null])), (q1, .inl (kI, 4, .inl (fun _ => 0))), (q2, .inl (kB, 4, .inl (fun _ => 0))), (q3, .inl (kI, 5, .inl (fun _ => 0))), (q4, .inl (kI, 5, .inl (fun _ => 0))), (q5, .inl (kI, 5, .inl (fun _ => 0))), (q6, .inl (kI, 5, .inl (fun _ => 0))), (q7, .inl (kI, 5, .inl (fun _ => 0)))] H := hP
  have hD : va_D A [(h0, .inr (3, [.int 0, .int 0, .ref q1, .ref q2, .ref q3, .ref q4, .ref q5, .ref q6, .ref q7, .null])), (q1, .inl (kI, 4, .inl (fun _ => 0))), (q2, .inl (kB, 4, .inl (fun _ => 0))), (q3, .inl (kI, 5, .inl (fun _ => 0))), (q4, .inl (kI, 5, .inl (fun _ => 0))), (q5, .inl (kI, 5, .inl (fun _ => 0))), (q6, .inl (kI, 5, .inl (fun _ => 0))), (q7, .inl (kI, 5, .inl (fun _ => 0)))] := hD
  refine lv_aload_n (k := 0) hx hb (by decide +kernel) rfl (lv_at hl 0 rfl) ?_
  refine lv_iconst (n := 5) (v := 5) hx hb (by decide +kernel) (by decide) ?_
  refine mk_int (N := 5) hx hb (hts _ (gw tw_75)) hK hP hD hS hA (by decide +kernel) (by decide) (by decide +kernel) (Nat.le_of_ble_eq_true rfl) (Nat.le_of_ble_eq_true rfl) (Nat.le_of_ble_eq_true rfl) (fun q8 H hP hD hS => ?_)
  have hP : va_P D vwCl [(h0, .inr (3, [.int 0, .int 0, .ref q1, .ref q2, .ref q3, .ref q4, .ref q5, .ref q6, .ref q7, .null])), (q1, .inl (kI, 4, .inl (fun _ => 0))), (q2, .inl (kB, 4, .inl (fun _ => 0))), (q3, .inl (kI, 5, .inl (fun _ => 0))), (q4, .inl (kI, 5, .inl (fun _ => 0))), (q5, .inl (kI, 5, .inl (fun _ => 0))), (q6, .inl (kI, 5, .inl (fun _ => 0))), (q7, .inl (kI, 5, .inl (fun _ => 0))), (q8, .inl (kI, 5, .inl (fun _ => 0)))] H := hP
  have hD : va_D A [(h0, .inr (3, [.int 0, .int 0, .ref q1, .ref q2, .ref q3, .ref q4, .ref q5, .ref q6, .ref q7, .null])), (q1, .inl (kI, 4, .inl (fun _ => 0))), (q2, .inl (kB, 4, .inl (fun _ => 0))), (q3, .inl (kI, 5, .inl (fun _ => 0))), (q4, .inl (kI, 5, .inl (fun _ => 0))), (q5, .inl (kI, 5, .inl (fun _ => 0))), (q6, .inl (kI, 5, .inl (fun _ => 0))), (q7, .inl (kI, 5, .inl (fun _ => 0))), (q8, .inl (kI, 5, .inl (fun _ => 0)))] := hD
  refine W.widen (k := 8) (n := 38) (Nat.le_of_ble_eq_true rfl) (Nat.le_of_ble_eq_true rfl) ?_
  refine va_putF (D := D) (ci := 3) (v := .ref q8) (ty := .array .int) (C := "GiantStair$Told") (T := TX3) (N := 10) hx hb hts (gws in_X3) tyX3 tyX3_ok nmX3 hown hK hP hD hS 0 rfl rfl 9 (by decide) (hts _ (gw tw_52)) (fun _ h9 => h9) rfl hin rfl (by decide +kernel) rfl rfl (Nat.le_of_ble_eq_true rfl) (by decide +kernel) (fun H locs hP hD hS => ?_)
  have hP : va_P D vwCl [(h0, .inr (3, [.int 0, .int 0, .ref q1, .ref q2, .ref q3, .ref q4, .ref q5, .ref q6, .ref q7, .ref q8])), (q1, .inl (kI, 4, .inl (fun _ => 0))), (q2, .inl (kB, 4, .inl (fun _ => 0))), (q3, .inl (kI, 5, .inl (fun _ => 0))), (q4, .inl (kI, 5, .inl (fun _ => 0))), (q5, .inl (kI, 5, .inl (fun _ => 0))), (q6, .inl (kI, 5, .inl (fun _ => 0))), (q7, .inl (kI, 5, .inl (fun _ => 0))), (q8, .inl (kI, 5, .inl (fun _ => 0)))] H := hP
  have hD : va_D A [(h0, .inr (3, [.int 0, .int 0, .ref q1, .ref q2, .ref q3, .ref q4, .ref q5, .ref q6, .ref q7, .ref q8])), (q1, .inl (kI, 4, .inl (fun _ => 0))), (q2, .inl (kB, 4, .inl (fun _ => 0))), (q3, .inl (kI, 5, .inl (fun _ => 0))), (q4, .inl (kI, 5, .inl (fun _ => 0))), (q5, .inl (kI, 5, .inl (fun _ => 0))), (q6, .inl (kI, 5, .inl (fun _ => 0))), (q7, .inl (kI, 5, .inl (fun _ => 0))), (q8, .inl (kI, 5, .inl (fun _ => 0)))] := hD
  refine lv_aload_n (k := 0) hx hb (by decide +kernel) rfl (lv_at hl 0 rfl) ?_
  refine lv_iconst (n := 2) (v := 2) hx hb (by decide +kernel) (by decide) ?_
  have hPc := hP.sub (ws' := [(h0, .inr (3, [.int 0, .int 0, .ref q1, .ref q2, .ref q3, .ref q4, .ref q5, .ref q6, .ref q7, .ref q8])), (q1, .inl (kI, 4, .inl (fun _ => 0))), (q2, .inl (kB, 4, .inl (fun _ => 0)))]) [0, 1, 2] rfl
  have hDc := hD.sub (ws' := [(h0, .inr (3, [.int 0, .int 0, .ref q1, .ref q2, .ref q3, .ref q4, .ref q5, .ref q6, .ref q7, .ref q8])), (q1, .inl (kI, 4, .inl (fun _ => 0))), (q2, .inl (kB, 4, .inl (fun _ => 0)))]) [0, 1, 2] (by decide) rfl
  refine mk_join (wr := [(q3, .inl (kI, 5, .inl (fun _ => 0))), (q4, .inl (kI, 5, .inl (fun _ => 0))), (q5, .inl (kI, 5, .inl (fun _ => 0))), (q6, .inl (kI, 5, .inl (fun _ => 0))), (q7, .inl (kI, 5, .inl (fun _ => 0))), (q8, .inl (kI, 5, .inl (fun _ => 0)))]) (va_runV (As := [.int 2]) (rest := []) ⟨hx, hb, hml, hown, hts⟩ (c_build l D kI kB kJ h0 H.size q1 q2 q3 q4 q5 q6 q7 q8 (fun _ => 0) (fun _ => 0)) (cwV 1 hts (gV tw_29 tw_31 sl_0 tw_2 tw_32) rfl rfl rfl (by decide +kernel) ⟨Nat.le_of_ble_eq_true rfl, Nat.le_of_ble_eq_true rfl⟩) ⟨mk_blind, va_recv hK hPc (ci := 3) (q0 := 0) rfl rfl, fun U hU hW => ⟨rfl, mk_at hPc hK hDc U hU hW⟩⟩ rfl rfl hl.1 rfl (lv_room (Nat.le_of_ble_eq_true rfl)) (by decide +kernel : decode prog_5_method_1_code 62 = .ok (.invokevirtual 37, 3)) ⟨Nat.le_of_ble_eq_true rfl, Nat.le_of_ble_eq_true rfl⟩) hP hD hS hA [0, 1, 2] [3, 4, 5, 6, 7, 8] rfl rfl (by decide) (by decide) (fun u H locs hu hP hD hS => ?_)
  have hP : va_P D vwCl [(q3, .inl (kI, 5, .inl (fun _ => 0))), (q4, .inl (kI, 5, .inl (fun _ => 0))), (q5, .inl (kI, 5, .inl (fun _ => 0))), (q6, .inl (kI, 5, .inl (fun _ => 0))), (q7, .inl (kI, 5, .inl (fun _ => 0))), (q8, .inl (kI, 5, .inl (fun _ => 0))), (h0, .inr (3, [.int 2, .int 0, .ref q1, .ref q2, .ref q3, .ref q4, .ref q5, .ref q6, .ref q7, .ref q8])), (q1, .inl (kI, 4, .inl (u.1))), (q2, .inl (kB, 4, .inl (u.2)))] H := hP
  have hD : va_D A [(q3, .inl (kI, 5, .inl (fun _ => 0))), (q4, .inl (kI, 5, .inl (fun _ => 0))), (q5, .inl (kI, 5, .inl (fun _ => 0))), (q6, .inl (kI, 5, .inl (fun _ => 0))), (q7, .inl (kI, 5, .inl (fun _ => 0))), (q8, .inl (kI, 5, .inl (fun _ => 0))), (h0, .inr (3, [.int 2, .int 0, .ref q1, .ref q2, .ref q3, .ref q4, .ref q5, .ref q6, .ref q7, .ref q8])), (q1, .inl (kI, 4, .inl (u.1))), (q2, .inl (kB, 4, .inl (u.2)))] := hD
  refine W.widen (k := 8) (n := 38) (Nat.le_of_ble_eq_true rfl) (Nat.le_of_ble_eq_true rfl) ?_
  have hP9 := hP.sub (ws' := [(h0, .inr (3, [.int 2, .int 0, .ref q1, .ref q2, .ref q3, .ref q4, .ref q5, .ref q6, .ref q7, .ref q8])), (q1, .inl (kI, 4, .inl (u.1))), (q2, .inl (kB, 4, .inl (u.2))), (q3, .inl (kI, 5, .inl (fun _ => 0))), (q4, .inl (kI, 5, .inl (fun _ => 0))), (q5, .inl (kI, 5, .inl (fun _ => 0))), (q6, .inl (kI, 5, .inl (fun _ => 0))), (q7, .inl (kI, 5, .inl (fun _ => 0))), (q8, .inl (kI, 5, .inl (fun _ => 0)))]) [6, 7, 8, 0, 1, 2, 3, 4, 5] rfl
  have hD9 := hD.sub (ws' := [(h0, .inr (3, [.int 2, .int 0, .ref q1, .ref q2, .ref q3, .ref q4, .ref q5, .ref q6, .ref q7, .ref q8])), (q1, .inl (kI, 4, .inl (u.1))), (q2, .inl (kB, 4, .inl (u.2))), (q3, .inl (kI, 5, .inl (fun _ => 0))), (q4, .inl (kI, 5, .inl (fun _ => 0))), (q5, .inl (kI, 5, .inl (fun _ => 0))), (q6, .inl (kI, 5, .inl (fun _ => 0))), (q7, .inl (kI, 5, .inl (fun _ => 0))), (q8, .inl (kI, 5, .inl (fun _ => 0)))]) [6, 7, 8, 0, 1, 2, 3, 4, 5] (by decide) rfl
  refine W.widen (k := 8) (n := 38) (Nat.le_of_ble_eq_true rfl) (Nat.le_of_ble_eq_true rfl) ?_
  exact W.vret hx hb hr (fun t ht hW => ⟨⟨(fun k => qNth [q1, q2, q3, q4, q5, q6, q7, q8] k, u.1, u.2), rfl, hu, by rw [ht]; exact hP9, hD9⟩, hS.F ht⟩) hS.2.2 (by decide +kernel)
set_option maxHeartbeats 4000000 in
set_option maxRecDepth 100000 in
theorem c_Search (l : Launch) (D : va_G) (kI kB kJ : ClassId) (h0 sz : Nat) : Met l (⟨"GiantStair$Search", "<init>", "()V"⟩ : MethodName) (Cond.code (⟨"GiantStair$Search", "<init>", "()V"⟩ : MethodName) prog_3_method_1_code 1 (Option.none : Option FieldType) :: gT) ({ frames := 1, cells := 4, slots := 9380, locals := 40 } : Room) (va_Pc [.ref h0] (mPre D kI kB kJ [(h0, .inr (1, [.null, .null, .null, .int 0, .int 0, .null]))] sz)) (va_Qv (fun u : (Nat → Nat) × (Nat → Int32) => ∀ i, i < 3125 → u.2 i = -1) (fun u t => va_P D vwCl [(h0, .inr (1, [.ref (u.1 0), .ref (u.1 1), .ref (u.1 2), .int 0, .int 0, .ref (u.1 3)])), ((u.1 0), .inl (kI, 3125, .inl (u.2))), ((u.1 1), .inl (kI, 3125, .inl (fun _ => 0))), ((u.1 2), .inl (kI, 3125, .inl (fun _ => 0))), ((u.1 3), .inl (kI, 5, .inl (fun _ => 0)))] t.heap ∧ va_D (va_A [(h0, .inr (1, [.null, .null, .null, .int 0, .int 0, .null]))] sz) [(h0, .inr (1, [.ref (u.1 0), .ref (u.1 1), .ref (u.1 2), .int 0, .int 0, .ref (u.1 3)])), ((u.1 0), .inl (kI, 3125, .inl (u.2))), ((u.1 1), .inl (kI, 3125, .inl (fun _ => 0))), ((u.1 2), .inl (kI, 3125, .inl (fun _ => 0))), ((u.1 3), .inl (kI, 5, .inl (fun _ => 0)))]) (va_A [(h0, .inr (1, [.null, .null, .null, .int 0, .int 0, .null]))] sz)) 4 9380 (va_A [(h0, .inr (1, [.null, .null, .null, .int 0, .int 0, .null]))] sz) := by
  refine Met.ofW (cc := prog_3_method_1_code) (maxL := 1) (ret := none) (by decide +kernel) rfl ?_
  intro p e s m args below meth c s₁ B hml hv
  obtain ⟨rfl, hsz, hP, hK, hD0⟩ := hv
  have hx := B.exec
  have hb := B.bytes
  have hr := B.returns
  have hts := atoms_spec (ws := Cond.code (⟨"GiantStair$Search", "<init>", "()V"⟩ : MethodName) prog_3_method_1_code 1 (Option.none : Option FieldType) :: gT) B.pre
  have hown : s.vm.findClass "GiantStair$Search" = some m.cls := findClass_of_methodNamed B.named
  have hin : meth.name = "<init>" := (name_of_methodNamed B.named B.method).1
  subst hsz
  have hD := hD0.self (sz := s.heap.size)
  generalize hAe : va_A [(h0, .inr (1, [.null, .null, .null, .int 0, .int 0, .null]))] s.heap.size = A at hD ⊢
  have hA : ∀ q : Nat, s.heap.size ≤ q → A q := fun q h => by rw [← hAe]; exact Or.inr h
  have hS : va_S A s.heap s.heap [] := va_S.rf
  have hP : va_P D vwCl [(h0, .inr (1, [.null, .null, .null, .int 0, .int 0, .null]))] s.heap := hP
  have hl := lv_entry ([.ref h0]) (n := 1) (Nat.le_of_ble_eq_true rfl)
  rw [lg_entry_eq]
  generalize (lg_sl ([.ref h0]) ++ List.replicate (1 - (lg_sl ([.ref h0])).length) Slot.unset).toArray = ls at hl ⊢
  have hl : lv_has ls 1 [(0, .ref h0)] := hl
  refine lv_aload_n (k := 0) hx hb (by decide +kernel) rfl (lv_at hl 0 rfl) ?_
  refine W.objInit hx hb hown (hts _ (gw tw_128)) (hts _ (gw tw_21)) (hts _ (gw tw_22)) rfl (by rw [hml]; exact hl.1) rfl (by decide +kernel : decode prog_3_method_1_code 1 = .ok (.invokespecial 3, 3)) (Nat.le_of_ble_eq_true rfl) (Nat.le_of_ble_eq_true rfl) ?_
  refine W.eq (g2 := F0 m 4 ls []) rfl ?_
  refine lv_aload_n (k := 0) hx hb (by decide +kernel) rfl (lv_at hl 0 rfl) ?_
  refine lv_sipush (n := 3125) (v := 3125) hx hb (by decide +kernel) (by decide) ?_
  refine mk_int (N := 3125) hx hb (hts _ (gw tw_75)) hK hP hD hS hA (by decide +kernel) (by decide) (by decide +kernel) (Nat.le_of_ble_eq_true rfl) (Nat.le_of_ble_eq_true rfl) (Nat.le_of_ble_eq_true rfl) (fun q1 H hP hD hS => ?_)
  have hP : va_P D vwCl [(h0, .inr (1, [.null, .null, .null, .int 0, .int 0, .null])), (q1, .inl (kI, 3125, .inl (fun _ => 0)))] H := hP
  have hD : va_D A [(h0, .inr (1, [.null, .null, .null, .int 0, .int 0, .null])), (q1, .inl (kI, 3125, .inl (fun _ => 0)))] := hD
  refine W.widen (k := 1) (n := 3125) (Nat.le_of_ble_eq_true rfl) (Nat.le_of_ble_eq_true rfl) ?_
  refine va_putF (D := D) (ci := 1) (v := .ref q1) (ty := .array .int) (C := "GiantStair$Search") (T := TX1) (N := 6) hx hb hts (gws in_X1) tyX1 tyX1_ok nmX1 hown hK hP hD hS 0 rfl rfl 0 (by decide) (hts _ (gw tw_132)) (fun _ h9 => h9) rfl hin rfl (by decide +kernel) rfl rfl (Nat.le_of_ble_eq_true rfl) (by decide +kernel) (fun H locs hP hD hS => ?_)
  have hP : va_P D vwCl [(h0, .inr (1, [.ref q1, .null, .null, .int 0, .int 0, .null])), (q1, .inl (kI, 3125, .inl (fun _ => 0)))] H := hP
  have hD : va_D A [(h0, .inr (1, [.ref q1, .null, .null, .int 0, .int 0, .null])), (q1, .inl (kI, 3125, .inl (fun _ => 0)))] := hD
  refine lv_aload_n (k := 0) hx hb (by decide +kernel) rfl (lv_at hl 0 rfl) ?_
  refine lv_sipush (n := 3125) (v := 3125) hx hb (by decide +kernel) (by decide) ?_
  refine mk_int (N := 3125) hx hb (hts _ (gw tw_75)) hK hP hD hS hA (by decide +kernel) (by decide) (by decide +kernel) (Nat.le_of_ble_eq_true rfl) (Nat.le_of_ble_eq_true rfl) (Nat.le_of_ble_eq_true rfl) (fun q2 H hP hD hS => ?_)
  have hP : va_P D vwCl [(h0, .inr (1, [.ref q1, .null, .null, .int 0, .int 0, .null])), (q1, .inl (kI, 3125, .inl (fun _ => 0))), (q2, .inl (kI, 3125, .inl (fun _ => 0)))] H := hP
  have hD : va_D A [(h0, .inr (1, [.ref q1, .null, .null, .int 0, .int 0, .null])), (q1, .inl (kI, 3125, .inl (fun _ => 0))), (q2, .inl (kI, 3125, .inl (fun _ => 0)))] := hD
  refine W.widen (k := 2) (n := 6250) (Nat.le_of_ble_eq_true rfl) (Nat.le_of_ble_eq_true rfl) ?_
  refine va_putF (D := D) (ci := 1) (v := .ref q2) (ty := .array .int) (C := "GiantStair$Search") (T := TX1) (N := 6) hx hb hts (gws in_X1) tyX1 tyX1_ok nmX1 hown hK hP hD hS 0 rfl rfl 1 (by decide) (hts _ (gw tw_133)) (fun _ h9 => h9) rfl hin rfl (by decide +kernel) rfl rfl (Nat.le_of_ble_eq_true rfl) (by decide +kernel) (fun H locs hP hD hS => ?_)
  have hP : va_P D vwCl [(h0, .inr (1, [.ref q1, .ref q2, .null, .int 0, .int 0, .null])), (q1, .inl (kI, 3125, .inl (fun _ => 0))), (q2, .inl (kI, 3125, .inl (fun _ => 0)))] H := hP
  have hD : va_D A [(h0, .inr (1, [.ref q1, .ref q2, .null, .int 0, .int 0, .null])), (q1, .inl (kI, 3125, .inl (fun _ => 0))), (q2, .inl (kI, 3125, .inl (fun _ => 0)))] := hD
  refine lv_aload_n (k := 0) hx hb (by decide +kernel) rfl (lv_at hl 0 rfl) ?_
  refine lv_sipush (n := 3125) (v := 3125) hx hb (by decide +kernel) (by decide) ?_
  refine mk_int (N := 3125) hx hb (hts _ (gw tw_75)) hK hP hD hS hA (by decide +kernel) (by decide) (by decide +kernel) (Nat.le_of_ble_eq_true rfl) (Nat.le_of_ble_eq_true rfl) (Nat.le_of_ble_eq_true rfl) (fun q3 H hP hD hS => ?_)
  have hP : va_P D vwCl [(h0, .inr (1, [.ref q1, .ref q2, .null, .int 0, .int 0, .null])), (q1, .inl (kI, 3125, .inl (fun _ => 0))), (q2, .inl (kI, 3125, .inl (fun _ => 0))), (q3, .inl (kI, 3125, .inl (fun _ => 0)))] H := hP
  have hD : va_D A [(h0, .inr (1, [.ref q1, .ref q2, .null, .int 0, .int 0, .null])), (q1, .inl (kI, 3125, .inl (fun _ => 0))), (q2, .inl (kI, 3125, .inl (fun _ => 0))), (q3, .inl (kI, 3125, .inl (fun _ => 0)))] := hD
  refine W.widen (k := 3) (n := 9375) (Nat.le_of_ble_eq_true rfl) (Nat.le_of_ble_eq_true rfl) ?_
  refine va_putF (D := D) (ci := 1) (v := .ref q3) (ty := .array .int) (C := "GiantStair$Search") (T := TX1) (N := 6) hx hb hts (gws in_X1) tyX1 tyX1_ok nmX1 hown hK hP hD hS 0 rfl rfl 2 (by decide) (hts _ (gw tw_134)) (fun _ h9 => h9) rfl hin rfl (by decide +kernel) rfl rfl (Nat.le_of_ble_eq_true rfl) (by decide +kernel) (fun H locs hP hD hS => ?_)
  have hP : va_P D vwCl [(h0, .inr (1, [.ref q1, .ref q2, .ref q3, .int 0, .int 0, .null])), (q1, .inl (kI, 3125, .inl (fun _ => 0))), (q2, .inl (kI, 3125, .inl (fun _ => 0))), (q3, .inl (kI, 3125, .inl (fun _ => 0)))] H := hP
  have hD : va_D A [(h0, .inr (1, [.ref q1, .ref q2, .ref q3, .int 0, .int 0, .null])), (q1, .inl (kI, 3125, .inl (fun _ => 0))), (q2, .inl (kI, 3125, .inl (fun _ => 0))), (q3, .inl (kI, 3125, .inl (fun _ => 0)))] := hD
  refine lv_aload_n (k := 0) hx hb (by decide +kernel) rfl (lv_at hl 0 rfl) ?_
  refine lv_iconst (n := 5) (v := 5) hx hb (by decide +kernel) (by decide) ?_
  refine mk_int (N := 5) hx hb (hts _ (gw tw_75)) hK hP hD hS hA (by decide +kernel) (by decide) (by decide +kernel) (Nat.le_of_ble_eq_true rfl) (Nat.le_of_ble_eq_true rfl) (Nat.le_of_ble_eq_true rfl) (fun q4 H hP hD hS => ?_)
  have hP : va_P D vwCl [(h0, .inr (1, [.ref q1, .ref q2, .ref q3, .int 0, .int 0, .null])), (q1, .inl (kI, 3125, .inl (fun _ => 0))), (q2, .inl (kI, 3125, .inl (fun _ => 0))), (q3, .inl (kI, 3125, .inl (fun _ => 0))), (q4, .inl (kI, 5, .inl (fun _ => 0)))] H := hP
  have hD : va_D A [(h0, .inr (1, [.ref q1, .ref q2, .ref q3, .int 0, .int 0, .null])), (q1, .inl (kI, 3125, .inl (fun _ => 0))), (q2, .inl (kI, 3125, .inl (fun _ => 0))), (q3, .inl (kI, 3125, .inl (fun _ => 0))), (q4, .inl (kI, 5, .inl (fun _ => 0)))] := hD
  refine W.widen (k := 4) (n := 9380) (Nat.le_of_ble_eq_true rfl) (Nat.le_of_ble_eq_true rfl) ?_
  refine va_putF (D := D) (ci := 1) (v := .ref q4) (ty := .array .int) (C := "GiantStair$Search") (T := TX1) (N := 6) hx hb hts (gws in_X1) tyX1 tyX1_ok nmX1 hown hK hP hD hS 0 rfl rfl 5 (by decide) (hts _ (gw tw_137)) (fun _ h9 => h9) rfl hin rfl (by decide +kernel) rfl rfl (Nat.le_of_ble_eq_true rfl) (by decide +kernel) (fun H locs hP hD hS => ?_)
  have hP : va_P D vwCl [(h0, .inr (1, [.ref q1, .ref q2, .ref q3, .int 0, .int 0, .ref q4])), (q1, .inl (kI, 3125, .inl (fun _ => 0))), (q2, .inl (kI, 3125, .inl (fun _ => 0))), (q3, .inl (kI, 3125, .inl (fun _ => 0))), (q4, .inl (kI, 5, .inl (fun _ => 0)))] H := hP
  have hD : va_D A [(h0, .inr (1, [.ref q1, .ref q2, .ref q3, .int 0, .int 0, .ref q4])), (q1, .inl (kI, 3125, .inl (fun _ => 0))), (q2, .inl (kI, 3125, .inl (fun _ => 0))), (q3, .inl (kI, 3125, .inl (fun _ => 0))), (q4, .inl (kI, 5, .inl (fun _ => 0)))] := hD
  refine lv_aload_n (k := 0) hx hb (by decide +kernel) rfl (lv_at hl 0 rfl) ?_
  refine va_get (C := "GiantStair$Search") (T := TX1) (N := 6) hx hb hts (gws in_X1) hown hK hP 0 rfl rfl 0 (by decide) (hts _ (gw tw_132)) (fun _ h9 => h9) (v := .ref q1) rfl (by decide +kernel) ?_
  refine lv_iconst (n := -1) (v := -1) hx hb (by decide +kernel) (by decide) ?_
  have hPc := hP.sub (ws' := [(q1, .inl (kI, 3125, .inl (fun _ => 0)))]) [1] rfl
  have hDc := hD.sub (ws' := [(q1, .inl (kI, 3125, .inl (fun _ => 0)))]) [1] (by decide) rfl
  refine mk_join (wr := [(h0, .inr (1, [.ref q1, .ref q2, .ref q3, .int 0, .int 0, .ref q4])), (q2, .inl (kI, 3125, .inl (fun _ => 0))), (q3, .inl (kI, 3125, .inl (fun _ => 0))), (q4, .inl (kI, 5, .inl (fun _ => 0)))]) (va_runS (As := [.ref q1, .int (-1)]) (rest := []) ⟨hx, hb, hml, hown, hts⟩ (c_fill l D kI kB kJ q1 H.size 3125 (fun _ => 0) ((-1)) (by omega)) (va_cwS 2 hts (gS tw_129 tw_130 tw_6 tw_131) rfl rfl rfl (by decide +kernel) ⟨Nat.le_of_ble_eq_true rfl, Nat.le_of_ble_eq_true rfl⟩) (mk_preS hPc hK hDc) rfl rfl hl.1 rfl (lv_room (Nat.le_of_ble_eq_true rfl)) (by decide +kernel : decode prog_3_method_1_code 43 = .ok (.invokestatic 24, 3)) ⟨Nat.le_of_ble_eq_true rfl, Nat.le_of_ble_eq_true rfl⟩) hP hD hS hA [1] [0, 2, 3, 4] rfl rfl (by decide) (by decide) (fun u H locs hu hP hD hS => ?_)
  have hP : va_P D vwCl [(h0, .inr (1, [.ref q1, .ref q2, .ref q3, .int 0, .int 0, .ref q4])), (q2, .inl (kI, 3125, .inl (fun _ => 0))), (q3, .inl (kI, 3125, .inl (fun _ => 0))), (q4, .inl (kI, 5, .inl (fun _ => 0))), (q1, .inl (kI, 3125, .inl (u)))] H := hP
  have hD : va_D A [(h0, .inr (1, [.ref q1, .ref q2, .ref q3, .int 0, .int 0, .ref q4])), (q2, .inl (kI, 3125, .inl (fun _ => 0))), (q3, .inl (kI, 3125, .inl (fun _ => 0))), (q4, .inl (kI, 5, .inl (fun _ => 0))), (q1, .inl (kI, 3125, .inl (u)))] := hD
  refine W.widen (k := 4) (n := 9380) (Nat.le_of_ble_eq_true rfl) (Nat.le_of_ble_eq_true rfl) ?_
  have hP9 := hP.sub (ws' := [(h0, .inr (1, [.ref q1, .ref q2, .ref q3, .int 0, .int 0, .ref q4])), (q1, .inl (kI, 3125, .inl (u))), (q2, .inl (kI, 3125, .inl (fun _ => 0))), (q3, .inl (kI, 3125, .inl (fun _ => 0))), (q4, .inl (kI, 5, .inl (fun _ => 0)))]) [0, 4, 1, 2, 3] rfl
  have hD9 := hD.sub (ws' := [(h0, .inr (1, [.ref q1, .ref q2, .ref q3, .int 0, .int 0, .ref q4])), (q1, .inl (kI, 3125, .inl (u))), (q2, .inl (kI, 3125, .inl (fun _ => 0))), (q3, .inl (kI, 3125, .inl (fun _ => 0))), (q4, .inl (kI, 5, .inl (fun _ => 0)))]) [0, 4, 1, 2, 3] (by decide) rfl
  refine W.widen (k := 4) (n := 9380) (Nat.le_of_ble_eq_true rfl) (Nat.le_of_ble_eq_true rfl) ?_
  exact W.vret hx hb hr (fun t ht hW => ⟨⟨(fun k => qNth [q1, q2, q3, q4] k, u), rfl, hu, by rw [ht]; exact hP9, hD9⟩, hS.F ht⟩) hS.2.2 (by decide +kernel)
