/-! the reference's line is the same search -/
section MLAY
variable {d : Nat} {c : Co} {M : Nat → Bool}
theorem m_step (hk : cOk c) {u cur dd p e : Nat} {x1 : Int32} {b : Bf} {s : qMem} {go : Bool} {to new : Nat} (hu : u ≤ 1) (hcur : cur < 5 ^ cN c) (hd : lvOk c (cDig cur)) (hp : p < cN c) (hR : RM s c) (hC : RC s M) (hS : RN s b) (hO : bOk c (cN c) b) (hL : RL s 54 (cN c) (cDig cur)) (hDc : bD b cur = some e) (hdd : dd = e + 1) (hde : dd ≤ bN b)
    (hgo : m_M_canGo (d + 5) 54 (nI p) (nI u) s = some (b2i go, s)) (hto : (M p && go) = true → s.1 54 p + (if nI u = (1 : Int32) then 1 else -1 : Int32) = nI new ∧ new ≤ 4 ∧ to = cVal (lvUp (cDig cur) p new) 0 (cN c) ∧ to < 5 ^ cN c) :
    ∃ s2, l_M_layLine_4 (d + 5) x1 (nI cur) (nI p) (nI u) s = l_M_layLine_4 (d + 5) x1 (nI cur) (nI p) (dI u) s2 ∧ RN s2 (bAdd b (M p && go) to cur dd (2 * p + u)) ∧ FM s s2 ∧ RL s2 54 (cN c) (cDig cur) := by
  have h5 := hk.2.1
  have hp5 := pow5 (cN c) h5
  obtain ⟨m, m1, m2, m3⟩ := hC
  have hMp := m3 p (by omega)
  rw [el_M_layLine_4, if_neg (nI_pos (by omega)), m2, m_has m1 (show p < 5 by omega), sm_some, ← hMp]
  dsimp only
  rw [dI_pred2]
  cases hM : M p with
  | false =>
    refine ⟨s, ?_, ?_, FM.rf, hL⟩
    · rw [bf0]
    · rw [show (false && go) = false from rfl, bAdd_no (by rfl)]
      exact hS
  | true =>
    rw [bt0, hgo, sm_some]
    dsimp only
    cases hg : go with
    | false =>
      refine ⟨s, ?_, ?_, FM.rf, hL⟩
      · rw [bf0]
      · rw [show (true && false) = false from rfl, bAdd_no (by rfl)]
        exact hS
    | true =>
      obtain ⟨t1, t2, t3, t4⟩ := hto (by rw [hM, hg]; rfl)
      rw [bt0]
      generalize (if nI u = (1 : Int32) then 1 else -1 : Int32) = δ at t1 ⊢
      have hL2 : RL (qW s 54 p (nI new)) 54 (cN c) (lvUp (cDig cur) p new) := fun q hq => by
        show _ = nI (if q = p then new else cDig cur q)
        by_cases z : q = p
        · rw [z, q_rw, if_pos rfl]
        · rw [q_rw_k z, if_neg z]
          exact hL q hq
      have hcd : m_M_codeOf (d + 5) 54 (qW s 54 p (nI new)) = some (nI to, qW s 54 p (nI new)) := by
        rw [t3]
        exact m_code (d := d + 4) (Or.inr rfl) h5 hL2 (by rw [q_rw_o (by decide)]; exact hR.2.1)
      have hback : nI new - δ = nI (cDig cur p) := by
        rw [← t1, Int32.add_sub_cancel]
        exact hL p hp
      have hSo : ∀ v, RN (qW s 54 p v) b := fun v => RN_o (fun o j ho => q_rw_o ho) hS
      have hLb : RL (qW (qW s 54 p (nI new)) 54 p (nI (cDig cur p))) 54 (cN c) (cDig cur) := fun q hq => by
        by_cases z : q = p
        · rw [z, q_rw]
        · rw [q_rw_k z, q_rw_k z]
          exact hL q hq
      have e50 : ∀ k, k < 3125 → (qW s 54 p (nI new)).1 50 k = oI (bD b k) := fun k hk => (hSo _).2.2.1 k hk
      have e28 : (qW s 54 p (nI new)).1 40 28 = nI (bN b) := (hSo _).1
      have e54 : (qW s 54 p (nI new)).1 54 p = nI new := q_rw
      have ecur : (qW s 54 p (nI new)).1 50 cur = nI e := by rw [e50 cur (by omega), hDc]; rfl
      cases hD : bD b to with
      | some e2 =>
        have he : e2 < 2 ^ 31 := by
          obtain ⟨i, i1, i2⟩ := (hO.2.2.1 to).mp (by rw [hD]; rfl)
          obtain ⟨-, -, e2, e3, e4⟩ := hO.2.1 i i1
          rw [i2, hD] at e3
          cases e3
          have := hO.1
          omega
        have eto : (qW s 54 p (nI new)).1 50 to = nI e2 := by rw [e50 to (by omega), hD]; rfl
        refine ⟨qW (qW s 54 p (nI new)) 54 p (nI (cDig cur p)), ?_, ?_, (FM.rf.w (by omega)).w (by omega), hLb⟩
        · simp (disch := omega) only [sm_some, q_lit, q_neg1, nI_leI, nI_ltI, nI_eq, nI_cl, qIn_iff, nI_d0, d0_nI, dI_d0, dI_le, dI_eq, dI_n1, nI_1, nI_add, pk_mul, pk_div, nI_lt0, if_pos, if_neg, if_true, if_false, t1, hcd, eto, e54, hback]
        · rw [bAdd_no (by rw [hD]; rfl)]
          exact RN_o (fun o j ho => q_rw_o ho) (hSo _)
      | none =>
        have hr := bOk_room h5 hO t4 hD
        have eto : (qW s 54 p (nI new)).1 50 to = dI 0 := by rw [e50 to (by omega), hD]; rfl
        refine ⟨qW (qW (qW (qW (qW (qW (qW s 54 p (nI new)) 54 p (nI (cDig cur p))) 50 to (nI dd)) 52 to (nI cur)) 53 to (nI (2 * p + u))) 51 (bN b) (nI to)) 40 28 (nI (bN b + 1)), ?_, ?_, ((((((FM.rf.w (by omega)).w (by omega)).w (by omega)).w (by omega)).w (by omega)).w (by omega)).w2, ?_⟩
        · simp (disch := omega) only [sm_some, q_lit, q_neg1, nI_leI, nI_ltI, nI_eq, nI_cl, qIn_iff, nI_d0, d0_nI, dI_d0, dI_le, dI_eq, dI_n1, nI_1, nI_add, pk_mul, pk_div, nI_lt0, if_pos, if_neg, if_true, if_false, t1, hcd, eto, e54, hback, ecur, e28, hdd]
        · exact RN_add hO (RN_o (fun o j ho => q_rw_o ho) (hSo _)) hD
        · intro q hq
          rw [q_rw_o (by decide), q_rw_o (by decide), q_rw_o (by decide), q_rw_o (by decide), q_rw_o (by decide)]
          exact hLb q hq
theorem m_line3 (hk : cOk c) {cur dd e : Nat} {x1 : Int32} (hcur : cur < 5 ^ cN c) (hd : lvOk c (cDig cur)) (hdd : dd = e + 1) : ∀ (q p : Nat) (b : Bf) (s : qMem), p + q = cN c → RM s c → RC s M → RN s b → bOk c (cN c) b → bD b cur = some e → dd ≤ bN b → RL s 54 (cN c) (cDig cur) → ∃ s2, l_M_layLine_3 (d + 5) x1 (nI cur) (nI p) s = l_M_layLine_2 (d + 5) (x1 + 1) s2 ∧ RN s2 (bExp c M cur dd p q b) ∧ FM s s2 := by
  have h5 := hk.2.1
  have hp5 := pow5 (cN c) h5
  intro q
  induction q with
  | zero =>
    intro p b s hp hR hC hS hO hDc hde hL
    refine ⟨s, ?_, hS, FM.rf⟩
    rw [el_M_layLine_3, hR.2.1, if_pos (nI_le (by omega) (by omega))]
  | succ q ih =>
    intro p b s hp hR hC hS hO hDc hde hL
    have hpn : p < cN c := by omega
    have okU := fun x => mv_up_ok (M := M) hk hcur hd hpn x
    have okD := fun x => mv_dn_ok (M := M) hk hcur hd hpn x
    obtain ⟨s1, g1, g2, g3, g4⟩ := m_step (d := d) (M := M) (x1 := x1) (u := 1) (go := cRise c M (cDig cur) p) (to := cur + 5 ^ p) (new := cDig cur p + 1) hk (by omega) hcur hd hpn hR hC hS hO hL hDc hdd hde (m_rise (Or.inr rfl) hR hC hL hk hd rfl hpn) (fun x => by
      have x2 := (Bool.and_eq_true _ _ ▸ x : M p = true ∧ cRise c M (cDig cur) p = true).2
      have lt := (cRise_lt x2).1
      have h4 := hk.1
      refine ⟨?_, by omega, ?_, (okU x).1⟩
      · rw [hL p hpn, if_pos (by decide)]
        exact nI_1 _
      · rw [cVal_inc hpn, cVal_cDig hcur])
    have O1 := bOk_add (b := b) (dd := dd) (fr := cur) (mv := 2 * p + 1) h5 hO okU hde
    have L1 := bAdd_len (b := b) (ok := M p && cRise c M (cDig cur) p) (to := cur + 5 ^ p) (fr := cur) (dd := dd) (mv := 2 * p + 1)
    have D1 := bAdd_keep (b := b) (ok := M p && cRise c M (cDig cur) p) (to := cur + 5 ^ p) (fr := cur) (dd := dd) (mv := 2 * p + 1) hDc
    obtain ⟨s2, f1, f2, f3, f4⟩ := m_step (d := d) (M := M) (x1 := x1) (u := 0) (go := cSink c M (cDig cur) p) (to := cur - 5 ^ p) (new := cDig cur p - 1) hk (by omega) hcur hd hpn (g3.RM hR) (g3.RC hC) g2 O1 g4 D1 hdd (by omega) (m_sink (d := d + 1) (Or.inr rfl) (g3.RM hR) (g3.RC hC) g4 hk hd (by decide) hpn) (fun x => by
      have x2 := (Bool.and_eq_true _ _ ▸ x : M p = true ∧ cSink c M (cDig cur) p = true).2
      have lt := (cSink_lt x2).1
      have h4 := cDig_le cur p
      refine ⟨?_, by omega, ?_, (okD x).1⟩
      · rw [g4 p hpn, if_neg (by decide), dI_pred2]
        obtain ⟨k, hk2⟩ : ∃ k, cDig cur p = k + 1 := ⟨cDig cur p - 1, by omega⟩
        rw [hk2]
        rfl
      · have := cVal_dec (lv := cDig cur) hpn lt
        rw [cVal_cDig hcur] at this
        omega)
    have O2 := bOk_add (dd := dd) (fr := cur) (mv := 2 * p) h5 O1 okD (by omega)
    have L2 := bAdd_len (b := bAdd b (M p && cRise c M (cDig cur) p) (cur + 5 ^ p) cur dd (2 * p + 1)) (ok := M p && cSink c M (cDig cur) p) (to := cur - 5 ^ p) (fr := cur) (dd := dd) (mv := 2 * p)
    have D2 := bAdd_keep (ok := M p && cSink c M (cDig cur) p) (to := cur - 5 ^ p) (fr := cur) (dd := dd) (mv := 2 * p) D1
    obtain ⟨s3, k1, k2, k3⟩ := ih (p + 1) _ s2 (by omega) (f3.RM (g3.RM hR)) (f3.RC (g3.RC hC)) (show RN s2 (bAdd (bAdd b (M p && cRise c M (cDig cur) p) (cur + 5 ^ p) cur dd (2 * p + 1)) (M p && cSink c M (cDig cur) p) (cur - 5 ^ p) cur dd (2 * p)) from f2) O2 D2 (by omega) f4
    refine ⟨s3, ?_, by rw [bExp]; exact k2, (g3.tr f3).tr k3⟩
    rw [el_M_layLine_3, hR.2.1, if_neg (by rw [nI_leI (by omega) (by omega)]; omega)]
    refine Eq.trans g1 (Eq.trans f1 ?_)
    rw [el_M_layLine_4, if_pos (by decide), nI_1]
    exact k1
theorem m_line2 (hk : cOk c) : ∀ (f i : Nat) (b : Bf) (s : qMem), i + f = 3126 → RM s c → RC s M → RN s b → bOk c (cN c) b → ∃ s2, l_M_layLine_2 (d + 5) (nI i) s = some s2 ∧ RN s2 (bRun c M f i b) ∧ bOk c (cN c) (bRun c M f i b) ∧ FM s s2 := by
  have h5 := hk.2.1
  have hp5 := pow5 (cN c) h5
  intro f
  induction f with
  | zero =>
    intro i b s hi hR hC hS hO
    have hO1 := hO.1
    refine ⟨s, ?_, hS, hO, FM.rf⟩
    rw [el_M_layLine_2, hS.1, if_pos (nI_le (by omega) (by omega))]
  | succ f ih =>
    intro i b s hi hR hC hS hO
    have hO1 := hO.1
    by_cases z : i < bN b
    · obtain ⟨o1, o2, e, o3, o4⟩ := hO.2.1 i z
      have e29 := hS.2.1 i z
      obtain ⟨s1, u1, u2, u3, u4⟩ := m_place (d := d + 4) (s := s) h5 hR.2.1 (show bF b i < 2 ^ 31 by omega)
      have F1 : FM s s1 := ⟨fun o k q _ => u2 o k (by omega), u3⟩
      have S1 : RN s1 b := RN_o u2 hS
      obtain ⟨s2, g1, g2, g3⟩ := m_line3 (d := d) (M := M) (x1 := nI i) (dd := e + 1) hk o1 o2 rfl (cN c) 0 b s1 (by omega) (F1.RM hR) (F1.RC hC) S1 hO o3 (by omega) u4
      have gO := (bExp_ok (M := M) (dd := e + 1) hk o1 o2 (cN c) 0 b (by omega) hO (by omega)).1
      obtain ⟨s3, k1, k2, k2b, k3⟩ := ih (i + 1) _ s2 (by omega) (g3.RM (F1.RM hR)) (g3.RC (F1.RC hC)) g2 gO
      have eR : bRun c M (f + 1) i b = bRun c M f (i + 1) (bExp c M (bF b i) (e + 1) 0 (cN c) b) := by
        rw [bRun, if_pos z, o3]
        rfl
      refine ⟨s3, ?_, by rw [eR]; exact k2, by rw [eR]; exact k2b, (F1.tr g3).tr k3⟩
      rw [el_M_layLine_2, hS.1, if_neg (by rw [nI_leI (by omega) (by omega)]; omega), if_pos (qIn_n (by omega) (by omega)), nI_cl (by omega), e29, u1, sm_some]
      exact g1.trans ((congrArg (fun y => l_M_layLine_2 (d + 5) y s2) (nI_1 i)).trans k1)
    · have eR : bRun c M (f + 1) i b = b := by rw [bRun, if_neg z]
      rw [eR]
      refine ⟨s, ?_, hS, hO, FM.rf⟩
      rw [el_M_layLine_2, hS.1, if_pos (nI_le (by omega) (by omega))]
theorem m_line1 : ∀ (q i : Nat) (s : qMem), i + q = 3125 → (∀ k, k < i → s.1 50 k = -1) → ∃ s2, l_M_layLine_1 (d + 1) (nI i) s = l_M_layLine_1 (d + 1) (nI 3125) s2 ∧ (∀ k, k < 3125 → s2.1 50 k = -1) ∧ (∀ o k, o ≠ 50 → s2.1 o k = s.1 o k) ∧ s2.2 = s.2 := by
  intro q
  induction q with
  | zero =>
    intro i s hi h
    have : i = 3125 := by omega
    subst this
    exact ⟨s, rfl, h, fun _ _ _ => rfl, rfl⟩
  | succ q ih =>
    intro i s hi h
    obtain ⟨s2, g1, g2, g3, g4⟩ := ih (i + 1) (qW s 50 i (-1)) (by omega) (fun k hk => by
      by_cases z : k = i
      · rw [z, q_rw]
      · rw [q_rw_k z]
        exact h k (by omega))
    refine ⟨s2, ?_, g2, fun o k ho => by rw [g3 o k ho, q_rw_o ho], g4⟩
    rw [el_M_layLine_1, if_neg (not_le3125 (by omega)), if_pos (qIn_n (by omega) (by omega)), nI_cl (by omega), nI_1]
    exact g1
theorem m_lay {s : qMem} {lv : Nat → Nat} (hk : cOk c) (hl : lvOk c lv) (hR : RM s c) (hC : RC s M) (hL : RL s 45 (cN c) lv) : ∃ s2, m_M_layLine (d + 6) s = some s2 ∧ RN s2 (bfs c M (cSum lv (cN c))) ∧ bOk c (cN c) (bfs c M (cSum lv (cN c))) ∧ FM s s2 := by
  have h5 := hk.2.1
  have hp5 := pow5 (cN c) h5
  have h4 := hk.1
  have hle : ∀ q, q < cN c → lv q ≤ 4 := fun q hq => by have := hl q hq; omega
  have hst := cSum_lt hle (Nat.le_refl (cN c))
  have hdg : ∀ q, q < cN c → cDig (cSum lv (cN c)) q ≤ cTop c := fun q hq => by
    rw [← cVal_eq, cDig_val hle hq]
    exact hl q hq
  obtain ⟨s1, g1, g2, g3, g4⟩ := m_line1 (d := d + 4) 3125 0 s (by omega) (fun k hk => absurd hk (Nat.not_lt_zero _))
  have F1 : FM s s1 := ⟨fun o k q _ => g3 o k (by omega), g4⟩
  have hcd := m_code (d := d + 4) (s := s1) (Or.inl rfl) h5 (F1.RL (by omega) (by omega) hL) (F1.RM hR).2.1
  rw [cVal_eq] at hcd
  generalize hst' : cSum lv (cN c) = st at hst hdg hcd ⊢
  have S0 : RN (qW (qW (qW s1 51 0 (nI st)) 50 st 0) 40 28 1) (bIni st) := by
    refine ⟨rfl, fun i hi => ?_, fun k hk => ?_, fun i hi hi0 => ?_⟩
    · have hi2 : i < 1 := hi
      have : i = 0 := by omega
      subst this
      rw [q_rw_o (by decide), q_rw_o (by decide), q_rw]
      rfl
    · rw [q_rw_o (by decide)]
      show _ = oI (fUpd (fun _ => none) st (some 0) k)
      by_cases z : k = st
      · subst z
        rw [fUpd_s, q_rw]
        rfl
      · rw [fUpd_n z, q_rw_k z, q_rw_o (by decide)]
        exact g2 k hk
    · have hi2 : i < 1 := hi
      omega
  have F2 : FM s1 (qW (qW (qW s1 51 0 (nI st)) 50 st 0) 40 28 1) := ((FM.rf.w (by omega)).w (by omega)).w2
  obtain ⟨s2, k1, k2, k3, k4⟩ := m_line2 (d := d) (M := M) hk 3126 0 _ _ (by omega) (F2.RM (F1.RM hR)) (F2.RC (F1.RC hC)) S0 (bIni_ok hk hst hdg)
  refine ⟨s2, ?_, k2, k3, (F1.tr F2).tr k4⟩
  rw [e_M_layLine]
  refine Eq.trans g1 ?_
  rw [el_M_layLine_1, if_pos (show (3125 : Int32) ≤ nI 3125 from by decide), hcd, sm_some]
  dsimp only
  rw [if_pos (qIn_n (by omega) (by omega)), nI_cl (by omega)]
  exact k1
end MLAY
