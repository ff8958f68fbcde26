/-! the search goes on: what is found next to one that was found -/
theorem Fs.lvl {s s2 : qMem} (h : ∀ o j, ¬ (26 ≤ o ∧ o ≤ 29) → s2.1 o j = s.1 o j) (h2 : s2.2 = s.2) : Fs s s2 := ⟨fun o k ho => h o k (by omega), h2⟩
theorem hCode_no {o : Option (Nat × Nat)} {m : Nat} (h : o.isSome = false) : hCode o m = -1 := by
  cases o with
  | none => rfl
  | some q => cases h
theorem lk_30 {t r : Nat} (h : lk t r) : tr t 30 := by
  rcases lk_t h with e | e
  · exact Or.inr (Or.inl ⟨e, rfl⟩)
  · exact Or.inr (Or.inr (Or.inr ⟨e, rfl⟩))
theorem not_le5 {p : Nat} (h : p < 5) : ¬ (5 : Int32) ≤ nI p := by
  show ¬ nI 5 ≤ nI p
  rw [nI_leI (by omega) (by omega)]
  omega
theorem not_le3125 {p : Nat} (h : p < 3125) : ¬ (3125 : Int32) ≤ nI p := by
  show ¬ nI 3125 ≤ nI p
  rw [nI_leI (by omega) (by omega)]
  omega
section SLOOK
variable {d t r : Nat} {c : Co}
theorem s_awayOf {s : qMem} {b : Bf} {to e : Nat} (h : to < 3125) (hS : RS s b) (hD : bD b to = some e) : m_S_awayOf (d + 2) (nI to) s = some (nI e, s) := by
  have e9 : s.1 27 to = nI e := by rw [hS.2.2.1 to h, hD]; rfl
  rw [e_S_awayOf, s_isPos h, sm_some]
  simp (disch := omega) only [sm_some, q_lit, q_neg1, nI_leI, nI_ltI, nI_eq, nI_cl, qIn_iff, nI_d0, d0_nI, dI_d0, dI_le, dI_eq, dI_n1, nI_1, nI_add, pk_mul, pk_div, nI_lt0, if_pos, if_neg, if_true, if_false, n10, e9]
theorem s_look3 (hc : lk t r) (hk : cOk c) {cur dd p : Nat} {x3 : Int32} {b : Bf} {s : qMem} (hcur : cur < 5 ^ cN c) (hd : lvOk c (cDig cur)) (hp : p < cN c) (hR : RT s t c) (hS : RS s b) (hO : bOk c (cN c) b) (hb0 : 0 < bN b) (h30 : RL s 30 (cN c) (cDig cur)) : ∃ s2, l_S_look_3 (d + 4) t r x3 (nI cur) (nI dd) (nI p) s = l_S_look_2 (d + 4) t r x3 (nI cur) (nI dd) (nI (p + 1)) s2 ∧ RS s2 (bAdd b (ALL p && cSink c ALL (cDig cur) p) (cur - 5 ^ p) cur dd (2 * p)) ∧ (∀ o j, ¬ (26 ≤ o ∧ o ≤ 29) → s2.1 o j = s.1 o j) ∧ s2.2 = s.2 ∧ s2.1 26 4 = s.1 26 4 := by
  have h5 := hk.2.1
  have hp5 := pow5 (cN c) h5
  have hq5 : p < 5 := by omega
  rw [el_S_look_3 _ _ _ _ _ _ _ hc s, if_pos (qIn_n hq5 (by omega)), nI_cl (by omega), qPV_all p hq5]
  cases hs : cSink c ALL (cDig cur) p with
  | false =>
    obtain ⟨w, hw⟩ := s_isNew_any (d := d + 2) (s := s) (nI cur - nI (5 ^ p))
    refine ⟨s, ?_, ?_, fun _ _ _ => rfl, rfl, rfl⟩
    · rw [hw, sm_some, nI_1]
      dsimp only
      cases w with
      | false => rw [bf0]
      | true => rw [bt0, t_canSink (lk_30 hc) hR hk h30 hd hp, hs, sm_some, bf0]
    · rw [show (ALL p && false) = false from rfl, bAdd_no (by rfl)]
      exact hS
  | true =>
    have hm := mv_dn hk rfl hcur hd hp (cSink_lt hs).1
    have e : nI cur - nI (5 ^ p) = nI (cur - 5 ^ p) := pk_sub hm.1.1
    obtain ⟨s2, g1, g2, g3, g4, g5⟩ := s_reach (d := d + 1) (s := s) (c := c) (b := b) (to := cur - 5 ^ p) (fr := cur) (dd := dd) (mv := 2 * p) (fr32 := nI cur) (ok := ALL p && true) hk hO hS hm.1.2 rfl (by rw [if_neg (by omega)])
    rw [e, s_isNew (by omega) hS (bOk_e h5 hO), sm_some, nI_1]
    dsimp only
    cases hD : (bD b (cur - 5 ^ p)).isNone with
    | false =>
      refine ⟨s, by rw [bf0], ?_, fun _ _ _ => rfl, rfl, rfl⟩
      rw [bAdd_no (by rw [hD]; rfl)]
      exact hS
    | true =>
      refine ⟨s2, ?_, g2, g3, g4, g5⟩
      rw [bt0, t_canSink (lk_30 hc) hR hk h30 hd hp, hs, sm_some, bt0]
      dsimp only
      rw [g1, sm_some]
theorem s_look2 (hc : lk t r) (hk : cOk c) {cur dd : Nat} {x3 : Int32} (hcur : cur < 5 ^ cN c) (hd : lvOk c (cDig cur)) : ∀ (q p : Nat) (b : Bf) (s : qMem), p + q = cN c → RT s t c → RS s b → bOk c (cN c) b → 0 < bN b → dd ≤ bN b → RL s 30 (cN c) (cDig cur) → ∃ s2, l_S_look_2 (d + 4) t r x3 (nI cur) (nI dd) (nI p) s = l_S_look_1 (d + 4) t r (x3 + 1) s2 ∧ RS s2 (bExp c ALL cur dd p q b) ∧ Fs s s2 ∧ s2.1 26 4 = s.1 26 4 := by
  have h5 := hk.2.1
  have hp5 := pow5 (cN c) h5
  have ht := lk_t hc
  intro q
  induction q with
  | zero =>
    intro p b s hp hR hS hO hb0 hdd h30
    refine ⟨s, ?_, hS, Fs.rf, rfl⟩
    rw [el_S_look_2 _ _ _ _ _ _ _ hc s, hR.2.1, if_pos (nI_le (by omega) (by omega))]
  | succ q ih =>
    intro p b s hp hR hS hO hb0 hdd h30
    have hpn : p < cN c := by omega
    have hq5 : p < 5 := by omega
    have okU := fun x => mv_up_ok (M := ALL) hk hcur hd hpn x
    have okD := fun x => mv_dn_ok (M := ALL) hk hcur hd hpn x
    -- the first half: up
    have up : ∃ s1, l_S_look_2 (d + 4) t r x3 (nI cur) (nI dd) (nI p) s = l_S_look_3 (d + 4) t r x3 (nI cur) (nI dd) (nI p) s1 ∧ RS s1 (bAdd b (ALL p && cRise c ALL (cDig cur) p) (cur + 5 ^ p) cur dd (2 * p + 1)) ∧ (∀ o j, ¬ (26 ≤ o ∧ o ≤ 29) → s1.1 o j = s.1 o j) ∧ s1.2 = s.2 ∧ s1.1 26 4 = s.1 26 4 := by
      rw [el_S_look_2 _ _ _ _ _ _ _ hc s, hR.2.1, if_neg (by rw [nI_leI (by omega) (by omega)]; omega), if_neg (not_le5 (by omega)), if_pos (qIn_n hq5 (by omega)), nI_cl (by omega), qPV_all p hq5, nI_add]
      cases hu : cRise c ALL (cDig cur) p with
      | false =>
        obtain ⟨w, hw⟩ := s_isNew_any (d := d + 2) (s := s) (nI (cur + 5 ^ p))
        have e1 : hCode (cHelp c ALL (cDig cur) p) 6 = -1 := hCode_no hu
        refine ⟨s, ?_, ?_, fun _ _ _ => rfl, rfl, rfl⟩
        · rw [hw, sm_some]
          dsimp only
          cases w with
          | false => rw [bf0]
          | true =>
            rw [bt0, t_help (lk_30 hc) hR hk h30 hd hpn, sm_some]
            dsimp only
            rw [if_pos e1]
        · rw [show (ALL p && false) = false from rfl, bAdd_no (by rfl)]
          exact hS
      | true =>
        have e1 : ¬ hCode (cHelp c ALL (cDig cur) p) 6 = -1 := by
          rw [hCode_m1 (fun x hx => cHelp_lt hk (by omega) x hx)]
          intro z
          have z2 : cRise c ALL (cDig cur) p = false := z
          rw [hu] at z2
          cases z2
        have hm := mv_up hk rfl hcur hd hpn (cRise_lt hu).1
        obtain ⟨s1, f1, f2, f3, f4, f5⟩ := s_reach (d := d + 1) (s := s) (c := c) (b := b) (to := cur + 5 ^ p) (fr := cur) (dd := dd) (mv := 2 * p + 1) (fr32 := nI cur) (ok := ALL p && true) hk hO hS hm.1 rfl (by rw [if_neg (by omega)])
        rw [s_isNew (by omega) hS (bOk_e h5 hO), sm_some]
        dsimp only
        cases hD : (bD b (cur + 5 ^ p)).isNone with
        | false =>
          refine ⟨s, by rw [bf0], ?_, fun _ _ _ => rfl, rfl, rfl⟩
          rw [bAdd_no (by rw [hD]; rfl)]
          exact hS
        | true =>
          refine ⟨s1, ?_, f2, f3, f4, f5⟩
          rw [bt0, t_help (lk_30 hc) hR hk h30 hd hpn, sm_some]
          dsimp only
          rw [if_neg e1, f1, sm_some]
    obtain ⟨s1, f1, f2, f3, f4, f5⟩ := up
    have F1 := Fs.lvl f3 f4
    have O1 := bOk_add (b := b) (dd := dd) (fr := cur) (mv := 2 * p + 1) h5 hO okU hdd
    have L1 := bAdd_len (b := b) (ok := ALL p && cRise c ALL (cDig cur) p) (to := cur + 5 ^ p) (fr := cur) (dd := dd) (mv := 2 * p + 1)
    have h31 : RL s1 30 (cN c) (cDig cur) := fun a ha => by rw [f3 _ _ (by omega)]; exact h30 a ha
    obtain ⟨s2, g1, g2, g3, g4, g5⟩ := s_look3 (d := d) (x3 := x3) (dd := dd) hc hk hcur hd hpn (F1.RT ht hR) f2 O1 (by omega) h31
    have F := Fs.lvl g3 g4
    have O2 := bOk_add (dd := dd) (fr := cur) (mv := 2 * p) h5 O1 okD (by omega)
    have L2 := bAdd_len (b := bAdd b (ALL p && cRise c ALL (cDig cur) p) (cur + 5 ^ p) cur dd (2 * p + 1)) (ok := ALL p && cSink c ALL (cDig cur) p) (to := cur - 5 ^ p) (fr := cur) (dd := dd) (mv := 2 * p)
    obtain ⟨s3, k1, k2, k3, k4⟩ := ih (p + 1) _ s2 (by omega) (F.RT ht (F1.RT ht hR)) g2 O2 (by omega) (by omega) (fun a ha => by rw [g3 _ _ (by omega)]; exact h31 a ha)
    refine ⟨s3, f1.trans (g1.trans k1), ?_, (F1.tr F).tr k3, by rw [k4, g5, f5]⟩
    rw [bExp]
    exact k2
theorem s_look1 (hc : lk t r) (hk : cOk c) : ∀ (f i : Nat) (b : Bf) (s : qMem), i + f = 3126 → RT s t c → RS s b → bOk c (cN c) b → ∃ s2, l_S_look_1 (d + 4) t r (nI i) s = some s2 ∧ RS s2 (bRun c ALL f i b) ∧ bOk c (cN c) (bRun c ALL f i b) ∧ Fs s s2 ∧ s2.1 26 4 = s.1 26 4 := by
  have h5 := hk.2.1
  have hp5 := pow5 (cN c) h5
  have ht := lk_t hc
  intro f
  induction f with
  | zero =>
    intro i b s hi hR hS hO
    have hO1 := hO.1
    refine ⟨s, ?_, hS, hO, Fs.rf, rfl⟩
    rw [el_S_look_1 _ _ _ _ hc s, hS.1, if_pos (nI_le (by omega) (by omega))]
  | succ f ih =>
    intro i b s hi hR hS hO
    have hO1 := hO.1
    by_cases z : i < bN b
    · obtain ⟨o1, o2, e, o3, o4⟩ := hO.2.1 i z
      have hcur : bF b i < 3125 := by omega
      have e29 := hS.2.1 i z
      obtain ⟨s1, u1, u2, u3, u4⟩ := s_unfold (d := d + 3) (s := s) (show bF b i < 2 ^ 31 by omega)
      have F1 : Fs s s1 := ⟨fun o k q => u2 o k (by omega), u3⟩
      have S1 : RS s1 b := by
        obtain ⟨a1, a2, a3, a4⟩ := hS
        exact ⟨by rw [u2 _ _ (by decide)]; exact a1, fun j hj => by rw [u2 _ _ (by decide)]; exact a2 j hj, fun k hk => by rw [u2 _ _ (by decide)]; exact a3 k hk, fun j hj => by rw [u2 _ _ (by decide)]; exact a4 j hj⟩
      obtain ⟨s2, g1, g2, g3, g4⟩ := s_look2 (d := d) (x3 := nI i) (dd := e + 1) hc hk o1 o2 (cN c) 0 b s1 (by omega) (F1.RT ht hR) S1 hO (by omega) (by omega) (fun a ha => u4 a (by omega))
      have gO := (bExp_ok (M := ALL) (dd := e + 1) hk o1 o2 (cN c) 0 b (by omega) hO (by omega)).1
      obtain ⟨s3, k1, k2, k2b, k3, k4⟩ := ih (i + 1) _ s2 (by omega) (g3.RT ht (F1.RT ht hR)) g2 gO
      have eR : bRun c ALL (f + 1) i b = bRun c ALL f (i + 1) (bExp c ALL (bF b i) (e + 1) 0 (cN c) b) := by
        rw [bRun, if_pos z, o3]
        rfl
      refine ⟨s3, ?_, by rw [eR]; exact k2, by rw [eR]; exact k2b, (F1.tr g3).tr k3, by rw [k4, g4, u2 _ _ (by decide)]⟩
      rw [el_S_look_1 _ _ _ _ hc s, hS.1, if_neg (by rw [nI_leI (by omega) (by omega)]; omega), if_neg (not_le3125 (by omega)), if_pos (qIn_n (by omega) (by omega)), nI_cl (by omega), e29, s_awayOf (d := d + 2) hcur hS o3, sm_some]
      dsimp only
      rw [u1, sm_some]
      exact (congrArg (fun y => l_S_look_2 (d + 4) t r (nI i) (nI (bF b i)) y 0 s1) (nI_1 e)).trans (g1.trans ((congrArg (fun y => l_S_look_1 (d + 4) t r y s2) (nI_1 i)).trans k1))
    · have eR : bRun c ALL (f + 1) i b = b := by rw [bRun, if_neg z]
      rw [eR]
      refine ⟨s, ?_, hS, hO, Fs.rf, rfl⟩
      rw [el_S_look_1 _ _ _ _ hc s, hS.1, if_pos (nI_le (by omega) (by omega))]
theorem s_look {s : qMem} {lv : Nat → Nat} (hc : lk t r) (hk : cOk c) (hl : lvOk c lv) (hSI : SI s) (hR : RT s t c) (hL : RL s r (cN c) lv) : ∃ s2, m_S_look (d + 5) t r s = some s2 ∧ RS s2 (bfs c ALL (cSum lv (cN c))) ∧ bOk c (cN c) (bfs c ALL (cSum lv (cN c))) ∧ s2.1 26 4 = nI (cSum (gLv c lv) (cN c)) ∧ Fs s s2 := by
  have h4 := hk.1
  have hle : ∀ q, q < cN c → lv q ≤ 4 := fun q hq => by have := hl q hq; omega
  have hst := cSum_lt hle (Nat.le_refl (cN c))
  obtain ⟨s1, h1, h2, h3, hF⟩ := s_begin (d := d) hc hk hl hSI hR hL
  have hdg : ∀ q, q < cN c → cDig (cSum lv (cN c)) q ≤ cTop c := fun q hq => by
    rw [← cVal_eq, cDig_val hle hq]
    exact hl q hq
  obtain ⟨s2, g1, g2, g2b, g3, g4⟩ := s_look1 (d := d) hc hk 3126 0 _ s1 (by omega) (hF.RT (lk_t hc) hR) h2 (bIni_ok hk hst hdg)
  refine ⟨s2, ?_, g2, g2b, by rw [g4]; exact h3, hF.tr g3⟩
  rw [e_S_look _ _ _ hc s, h1, sm_some]
  exact g1
theorem RS_SI {s : qMem} {b : Bf} (h5 : cN c ≤ 5) (hO : bOk c (cN c) b) (hS : RS s b) : SI s := by
  have hp5 := pow5 (cN c) h5
  refine ⟨bN b, hO.1, hS.1, bF b, fun i hi => ⟨by have := (hO.2.1 i hi).1; omega, hS.2.1 i hi⟩, fun k hk => ?_⟩
  rw [hS.2.2.1 k hk]
  cases hD : bD b k with
  | none => exact Or.inl rfl
  | some e => exact Or.inr ((hO.2.2.1 k).mp (by rw [hD]; rfl))
end SLOOK
