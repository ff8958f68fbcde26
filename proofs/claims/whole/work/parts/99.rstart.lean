/-! the law, from its entry -/
theorem d_law_0 : decode code 0 = .ok (.new 7, 3) := by decide +kernel
theorem d_law_3 : decode code 3 = .ok (.dup, 1) := by decide +kernel
theorem d_law_4 : decode code 4 = .ok (.invokespecial 9, 3) := by decide +kernel
theorem d_law_7 : decode code 7 = .ok (.astore_n 1, 1) := by decide +kernel
theorem d_law_8 : decode code 8 = .ok (.new 10, 3) := by decide +kernel
theorem d_law_11 : decode code 11 = .ok (.dup, 1) := by decide +kernel
theorem d_law_12 : decode code 12 = .ok (.invokespecial 12, 3) := by decide +kernel
theorem d_law_15 : decode code 15 = .ok (.astore_n 2, 1) := by decide +kernel
theorem d_law_16 : decode code 16 = .ok (.iconst 0, 1) := by decide +kernel
theorem d_law_17 : decode code 17 = .ok (.istore_n 3, 1) := by decide +kernel
set_option maxHeartbeats 4000000 in
set_option maxRecDepth 100000 in
theorem whole_start {p : Program} {e : Env} {s : State} {m : MethodId} {below : List Frame} {meth : Method} {c : Code} (l : Launch) (hflags : l.flags = flags0) {b L : Nat} {xs : Nat → Int32} (hL : L ≤ 256) (C0 : lw_At p s m meth c b L xs) : W p l e room_1 s m #[Value.ref b] below meth c s.heap [] 0 0 (lw_Z below #[Value.ref b] s) (entryFrame m ([Value.ref b] : List Value).toArray 4) := by
  obtain ⟨hx, hb, hr, hml, hown, hts0, hX, hbl, hlocks, hgv⟩ := id C0
  have hown : s.vm.findClass "GiantStairLaw" = some m.cls := hown
  have hts : ∀ w ∈ lTs, w.before #[Value.ref b] s = true := List.forall_mem_cons.mpr ⟨hts0 _ (gT_sub tw_0), fun w hw => hts0 w (gT_sub hw)⟩
  have hA : ∀ q : Nat, s.heap.size ≤ q → (fun q : Nat => s.heap.size ≤ q) q := fun _ h => h
  obtain ⟨k0, i0, hK0⟩ := u_known (C := "GiantStair$Journey") (T := TX0) (N := 4) (n := 4) hts0 (fun w hw => gT_sub (in_X0 w hw)) (hts0 _ (gT_sub tw_102))
  obtain ⟨k1, i1, hK1⟩ := u_known (C := "GiantStair$Search") (T := TX1) (N := 6) (n := 6) hts0 (fun w hw => gT_sub (in_X1 w hw)) (hts0 _ (gT_sub tw_124))
  obtain ⟨k2, i2, hK2⟩ := u_known (C := "GiantStair$Text") (T := TX2) (N := 5) (n := 5) hts0 (fun w hw => gT_sub (in_X2 w hw)) (hts0 _ (gT_sub tw_78))
  obtain ⟨k3, i3, hK3⟩ := u_known (C := "GiantStair$Told") (T := TX3) (N := 10) (n := 10) hts0 (fun w hw => gT_sub (in_X3 w hw)) (hts0 _ (gT_sub tw_24))
  obtain ⟨k4, i4, hK4⟩ := u_known (C := "GiantStair") (T := TX4) (N := 11) (n := 11) hts0 (fun w hw => gT_sub (in_X4 w hw)) (hts0 _ (gT_sub tw_16))
  obtain ⟨k5, i5, hK5⟩ := u_known (C := "GiantStairModel") (T := TX5) (N := 31) (n := 31) hts0 (fun w hw => gT_sub (in_X5 w hw)) (hts0 _ (gT_sub tw_651))
  obtain ⟨D, hDc⟩ : ∃ D : va_G, ∀ (c : Nat) (q : vw_C), vwCl[c]? = some q → u_Kn s q.1 q.2.1 q.2.2 (D.1 c) (D.2 c) := by
    refine ⟨(fun k => if k = 0 then k0 else if k = 1 then k1 else if k = 2 then k2 else if k = 3 then k3 else if k = 4 then k4 else k5, fun k => if k = 0 then i0 else if k = 1 then i1 else if k = 2 then i2 else if k = 3 then i3 else if k = 4 then i4 else i5), ?_⟩
    intro k q hq
    rcases k with _ | _ | _ | _ | _ | _ | k
    · cases hq; exact hK0
    · cases hq; exact hK1
    · cases hq; exact hK2
    · cases hq; exact hK3
    · cases hq; exact hK4
    · cases hq; exact hK5
    · cases hq
  have hN1 : va_Nw (.methodLinkNest "GiantStair" 21 (⟨"GiantStair$Text", "<init>", "()V"⟩ : MethodName) "GiantStair") s := va_Nw.of rfl (hts0 _ tw_79)
  have hN2 : va_Nw (.methodLinkNest "GiantStair" 28 (⟨"GiantStair$Journey", "<init>", "()V"⟩ : MethodName) "GiantStair") s := va_Nw.of rfl (hts0 _ tw_103)
  have hJ : va_AO "GiantStair$Journey" s := va_AO.of (hts0 _ tw_122)
  obtain ⟨kI, kB, kJ, hK⟩ := mk_K hDc (hts0 _ (gT_sub tw_75)) (hts0 _ (gT_sub tw_76)) hJ
  have hS : va_S (fun q : Nat => s.heap.size ≤ q) s.heap s.heap [] := va_S.rf
  have hP : va_P D vwCl [] s.heap := fun k q h => by simp at h
  have hD : va_D (fun q : Nat => s.heap.size ≤ q) [] := ⟨fun i j p q h => by simp at h, fun k q h => by simp at h⟩
  have hl := lv_entry ([.ref b]) (n := 4) (Nat.le_of_ble_eq_true rfl)
  rw [lg_entry_eq]
  generalize (lg_sl ([.ref b]) ++ List.replicate (4 - (lg_sl ([.ref b])).length) Slot.unset).toArray = ls at hl ⊢
  have hl : lv_has ls 4 [(0, .ref b)] := hl
  refine va_new (ci := 4) (fs := [.null, .null, .null, .null, .null, .null, .int 0, .null, .null, .int 0, .null]) (C := "GiantStair") (T := TX4) (N := 11) hx hb hts (gws in_X4) tyX4 tyX4_ok hown (hts _ (gw tw_15)) (hts _ (gw tw_16)) (hts _ (gw tw_1)) hK hP hD hS hA rfl (fun j hj => by rcases (show j = 0 ∨ j = 1 ∨ j = 2 ∨ j = 3 ∨ j = 4 ∨ j = 5 ∨ j = 6 ∨ j = 7 ∨ j = 8 ∨ j = 9 ∨ j = 10 by omega) with z | z | z | z | z | z | z | z | z | z | z <;> (subst z; rfl)) (Nat.le_of_ble_eq_true rfl) (Nat.le_of_ble_eq_true rfl) d_law_0 (fun q0 H hP hD hS => ?_)
  have hP : va_P D vwCl [(q0, .inr (4, [.null, .null, .null, .null, .null, .null, .int 0, .null, .null, .int 0, .null]))] H := hP
  have hD : va_D (fun q : Nat => s.heap.size ≤ q) [(q0, .inr (4, [.null, .null, .null, .null, .null, .null, .int 0, .null, .null, .int 0, .null]))] := hD
  refine W.widen (k := 1) (n := 11) (Nat.le_of_ble_eq_true rfl) (Nat.le_of_ble_eq_true rfl) ?_
  refine lv_dup hx hb d_law_3 rfl ?_
  have hpre : PreS s H (va_Pc [.ref q0] (fun U => mPre D kI kB kJ [(q0, .inr (4, [.null, .null, .null, .null, .null, .null, .int 0, .null, .null, .int 0, .null]))] H.size U ∧ va_Nw (.methodLinkNest "GiantStair" 21 (⟨"GiantStair$Text", "<init>", "()V"⟩ : MethodName) "GiantStair") U ∧ va_Nw (.methodLinkNest "GiantStair" 28 (⟨"GiantStair$Journey", "<init>", "()V"⟩ : MethodName) "GiantStair") U ∧ va_AO "GiantStair$Journey" U)) [.ref q0] := ⟨fun a U g mk h => ⟨h.1, ⟨h.2.1.1, h.2.1.2.1, va_K.moved (u := U) (U := U.calling g mk a) (Vm.Alike.refl U.vm) h.2.1.2.2.1, h.2.1.2.2.2⟩, va_Nw.same rfl rfl h.2.2.1, va_Nw.same rfl rfl h.2.2.2.1, va_AO.moved (Vm.Alike.refl U.vm) h.2.2.2.2⟩, fun U hU hW => ⟨rfl, mk_at hP hK hD U hU hW, va_Nw.warmM hW hN1, va_Nw.warmM hW hN2, va_AO.moved hW.alike hJ⟩⟩
  refine mk_join (wr := []) (va_runI (As := []) (rest := [.ref q0]) ⟨hx, hb, hml, hown, hts⟩ (c_Giant l D kI kB kJ q0 H.size) (cwI 0 hts (gIn tw_19) rfl rfl rfl (hts _ (gw tw_1)) (hts _ (gw tw_17)) (hts _ (gw tw_18)) rfl (by decide +kernel) ⟨Nat.le_of_ble_eq_true rfl, Nat.le_of_ble_eq_true rfl⟩) hpre rfl rfl hl.1 rfl (lv_room (Nat.le_of_ble_eq_true rfl)) d_law_4 ⟨Nat.le_of_ble_eq_true rfl, Nat.le_of_ble_eq_true rfl⟩) hP hD hS hA [0] [] rfl rfl (by decide) (by decide) (fun u H locs hu hP hD hS => ?_)
  obtain ⟨ug, gG⟩ := u
  obtain ⟨hu0, hG⟩ := hu
  have hu0 : ug 0 = q0 := hu0
  have hP : va_P D vwCl (mWG D kI kB kJ (ug, gG)) H := hP
  have hD : va_D (fun q : Nat => s.heap.size ≤ q) (mWG D kI kB kJ (ug, gG)) := hD
  refine W.widen (k := 40) (n := 9834) (Nat.le_of_ble_eq_true rfl) (Nat.le_of_ble_eq_true rfl) ?_
  refine lv_astore_n (k := 1) (lv' := [(1, .ref q0), (0, .ref b)]) hx hb d_law_7 rfl hl (by decide) rfl (fun ls hl => ?_)
  refine va_new (ci := 5) (fs := [.int 0, .null, .int 0, .int 0, .null, .int 0, .null, .int 0, .int 0, .long 0, .int 0, .int 0, .int 0, .int 0, .int 0, .int 0, .null, .null, .int 0, .null, .null, .null, .int 0, .null, .null, .null, .null, .null, .int 0, .null, .int 0]) (C := "GiantStairModel") (T := TX5) (N := 31) hx hb hts (gws in_X5) tyX5 tyX5_ok hown (hts _ (gw tw_650)) (hts _ (gw tw_651)) (hts _ (gw tw_7)) hK hP hD hS hA rfl (fun j hj => by rcases (show j = 0 ∨ j = 1 ∨ j = 2 ∨ j = 3 ∨ j = 4 ∨ j = 5 ∨ j = 6 ∨ j = 7 ∨ j = 8 ∨ j = 9 ∨ j = 10 ∨ j = 11 ∨ j = 12 ∨ j = 13 ∨ j = 14 ∨ j = 15 ∨ j = 16 ∨ j = 17 ∨ j = 18 ∨ j = 19 ∨ j = 20 ∨ j = 21 ∨ j = 22 ∨ j = 23 ∨ j = 24 ∨ j = 25 ∨ j = 26 ∨ j = 27 ∨ j = 28 ∨ j = 29 ∨ j = 30 by omega) with z | z | z | z | z | z | z | z | z | z | z | z | z | z | z | z | z | z | z | z | z | z | z | z | z | z | z | z | z | z | z <;> (subst z; rfl)) (Nat.le_of_ble_eq_true rfl) (Nat.le_of_ble_eq_true rfl) d_law_8 (fun q1 H hP hD hS => ?_)
  refine W.widen (k := 41) (n := 9865) (Nat.le_of_ble_eq_true rfl) (Nat.le_of_ble_eq_true rfl) ?_
  refine lv_dup hx hb d_law_11 rfl ?_
  have hPc := hP.sub (ws' := [(q1, .inr (5, [.int 0, .null, .int 0, .int 0, .null, .int 0, .null, .int 0, .int 0, .long 0, .int 0, .int 0, .int 0, .int 0, .int 0, .int 0, .null, .null, .int 0, .null, .null, .null, .int 0, .null, .null, .null, .null, .null, .int 0, .null, .int 0]))]) [40] rfl
  have hDc := hD.sub (ws' := [(q1, .inr (5, [.int 0, .null, .int 0, .int 0, .null, .int 0, .null, .int 0, .int 0, .long 0, .int 0, .int 0, .int 0, .int 0, .int 0, .int 0, .null, .null, .int 0, .null, .null, .null, .int 0, .null, .null, .null, .null, .null, .int 0, .null, .int 0]))]) [40] (by decide) rfl
  refine mk_join (wr := mWG D kI kB kJ (ug, gG)) (va_runI (As := []) (rest := [.ref q1]) ⟨hx, hb, hml, hown, hts⟩ (c_Model l D kI kB kJ q1 H.size) (cwI 0 hts (gIn tw_654) rfl rfl rfl (hts _ (gw tw_7)) (hts _ (gw tw_652)) (hts _ (gw tw_653)) rfl (by decide +kernel) ⟨Nat.le_of_ble_eq_true rfl, Nat.le_of_ble_eq_true rfl⟩) (mk_preS hPc hK hDc) rfl rfl hl.1 rfl (lv_room (Nat.le_of_ble_eq_true rfl)) d_law_12 ⟨Nat.le_of_ble_eq_true rfl, Nat.le_of_ble_eq_true rfl⟩) hP hD hS hA [40] [0, 1, 2, 3, 4, 5, 6, 7, 8, 9, 10, 11, 12, 13, 14, 15, 16, 17, 18, 19, 20, 21, 22, 23, 24, 25, 26, 27, 28, 29, 30, 31, 32, 33, 34, 35, 36, 37, 38, 39] rfl rfl (by decide) (by decide) (fun v H locs hv hP hD hS => ?_)
  obtain ⟨vm, gM⟩ := v
  obtain ⟨hv0, hM⟩ := hv
  have hv0 : vm 40 = q1 := hv0
  refine W.widen (k := 600000) (n := 7302249) (Nat.le_of_ble_eq_true rfl) (Nat.le_of_ble_eq_true rfl) ?_
  refine lv_astore_n (k := 2) (lv' := [(2, .ref q1), (1, .ref q0), (0, .ref b)]) hx hb d_law_15 rfl hl (by decide) rfl (fun ls hl => ?_)
  refine lv_iconst (n := 0) (v := 0) hx hb d_law_16 (by decide) ?_
  refine lv_istore_n (k := 3) (lv' := [(3, .int 0), (2, .ref q1), (1, .ref q0), (0, .ref b)]) hx hb d_law_17 rfl hl (by decide) rfl (fun ls hl => ?_)
  obtain ⟨a60, a61, fm, tx, ty, hfm, hst⟩ := st_all hgv hts0 hX hbl hL
  have hst := hst (lE D kI kB kJ ug vm a60 a61 b tx ty fm xs L s.heap.size) rfl rfl rfl rfl (fun i hi => by
    have h : i = 0 ∨ i = 1 ∨ i = 2 ∨ i = 3 ∨ i = 4 ∨ i = 5 ∨ i = 6 ∨ i = 7 ∨ i = 8 ∨ i = 9 := by omega
    rcases h with h | h | h | h | h | h | h | h | h | h <;> (subst h; exact ⟨rfl, rfl⟩)) rfl rfl rfl
  have hw := lW_eq (D := D) (kI := kI) (kB := kB) (kJ := kJ) (u := ug) (v := vm) (gG := gG) (gM := gM) (a60 := a60) (a61 := a61) (b := b) (Ln := L) (base := s.heap.size) (tx := tx) (ty := ty) (fm := fm) (xs := xs)
  rw [← hw] at hP hD
  generalize hE : lE D kI kB kJ ug vm a60 a61 b tx ty fm xs L s.heap.size = E at *
  have eB : qBase E = s.heap.size := by rw [← hE]; rfl
  have eD : qDD E = D := by rw [← hE]; rfl
  have eT : qTy E = mTy kI kB kJ := by rw [← hE]; rfl
  have eL : qLn E = L := by rw [← hE]; rfl
  have eX : qXs E = xs := by rw [← hE]; rfl
  have eF : qFm E = fm := by rw [← hE]; rfl
  have eA : qA E = fun q : Nat => s.heap.size ≤ q := by unfold qA; rw [eB]
  have e70 : qAd E 70 = b := by rw [← hE]; rfl
  have e0 : qAd E 0 = q0 := by rw [← hE]; exact hu0
  have e40 : qAd E 40 = q1 := by rw [← hE]; exact hv0
  have hOk : qOkE qZ 55 E := ⟨fun i j hi hj h => hD.1 i j _ _ (qWld_at hi) (qWld_at hj) h, fun i hi => by rw [eB]; exact hD.2 i _ (qWld_at hi), by rw [eF]; exact hfm, fun o ho => qZ_N o ho, by omega⟩
  have F : qFr qZ 55 qST E lTs "GiantStairLaw" code 4 10 p room_1 s m #[Value.ref b] c 600000 7302249 := ⟨hx, hb, hml, hts, hown, by rw [eD, eT]; exact hK, by rw [eB]; exact Nat.le_refl _, hst, hOk, ⟨by decide, by decide⟩, Nat.le_of_ble_eq_true rfl, Nat.le_of_ble_eq_true rfl⟩
  refine go_loop (l := l) (e := e) (below := below) (meth := meth) F eB (by rw [eL]; exact hL) hr hlocks (lMem_inv hG hM) H _ ls (by rw [eD]; exact hP) (by rw [eA]; exact hS) ⟨hl.1, hl.2.1, rfl, fun i w hw2 => ?_, fun i w hw2 hc2 => ?_⟩ ⟨fun j hj => by rw [eX]; rfl, by rw [eL]; rfl⟩
  · rcases i with _ | _ | _ | _ | i
    · cases hw2
      rw [qX_ref (by decide), e70]
      exact lv_at hl 3 rfl
    · cases hw2
      rw [qX_ref (by decide), e0]
      exact lv_at hl 2 rfl
    · cases hw2
      rw [qX_ref (by decide), e40]
      exact lv_at hl 1 rfl
    · cases hw2
      exact lv_at hl 0 rfl
    · cases hw2
  · rcases i with _ | _ | _ | _ | i
    · cases hw2; cases hc2
    · cases hw2; cases hc2
    · cases hw2; cases hc2
    · cases hw2; cases hc2
    · cases hw2
