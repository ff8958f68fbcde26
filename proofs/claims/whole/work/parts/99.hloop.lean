/-! the law's loop: a round by units, then all rounds -/
def Li (i : Nat) : List (Option Value) := [some (.ref 70), some (.ref 0), some (.ref 40), some (.int (nI i))]
def lSc (X : Nat → Int32) (Ln : Nat) (s : qMem) : Prop := (∀ j, j < Ln → s.1 70 j = X j) ∧ s.1 71 0 = nI Ln
section LAW
variable {LW : qSt → Prop} {X : Nat → Int32} {Ln : Nat}
theorem lu_st (hop : ∀ (f : qOp) (x t : qSt), qTL x.1 = .inr f → f (qCall qMT 10) x = some t → LW t → LW x) : ∀ (n : Nat) {x t : qSt}, qSteps (qCall qMT 10) qTL n x = some t → LW t → LW x := by
  intro n
  induction n with
  | zero => intro x t h k; cases h; exact k
  | succ n ih =>
    intro x t h k
    rw [qSteps] at h
    cases hT : qTL x.1 with
    | inl j => rw [hT] at h; cases h
    | inr f =>
      rw [hT] at h
      simp only at h
      cases hf : f (qCall qMT 10) x with
      | none => rw [hf] at h; cases h
      | some z =>
        rw [hf] at h
        exact hop f x z hT hf (ih h k)
theorem lu_ld (hop : ∀ (f : qOp) (x t : qSt), qTL x.1 = .inr f → f (qCall qMT 10) x = some t → LW t → LW x) {pc q j i : Nat} {st : List Value} {s : qMem} (hq : pc + 5 = q) (h0 : qTL pc = .inr (qAload 1 0)) (h1 : qTL (pc + 1) = .inr (qIload 1 3)) (h2 : qTL (pc + 2) = .inr (qIconst 1 (nI j))) (h3 : qTL (pc + 3) = .inr (qBin (fun a b => a + b))) (h4 : qTL (pc + 4) = .inr (qIald qZ)) (hc : lSc X Ln s) (hij : i + j < Ln) (hL : Ln ≤ 256) (k : LW (q, Li i, .int (X (i + j)) :: st, s)) : LW (pc, Li i, st, s) := by
  subst hq
  refine hop _ (pc, Li i, st, s) (pc + 1, Li i, .ref 70 :: st, s) h0 rfl (hop _ _ (pc + 2, Li i, .int (nI i) :: .ref 70 :: st, s) h1 rfl (hop _ _ (pc + 3, Li i, .int (nI j) :: .int (nI i) :: .ref 70 :: st, s) h2 rfl (hop _ _ (pc + 4, Li i, .int (nI i + nI j) :: .ref 70 :: st, s) h3 rfl (hop _ _ _ h4 ?_ k))))
  show (if 0 ≤ (nI i + nI j).toInt ∧ (nI i + nI j).toInt < (s.1 71 0).toInt then some (pc + 4 + 1, Li i, Value.int (s.1 70 (nI i + nI j).toNatClampNeg) :: st, s) else none) = _
  rw [nI_add, hc.2, nI_toInt (by omega), nI_toInt (by omega), if_pos ⟨by omega, by omega⟩, nI_cl (by omega), hc.1 _ hij]
theorem lu_ld0 (hop : ∀ (f : qOp) (x t : qSt), qTL x.1 = .inr f → f (qCall qMT 10) x = some t → LW t → LW x) {i : Nat} {s : qMem} (hc : lSc X Ln s) (hi : i < Ln) (hL : Ln ≤ 256) (k : LW (29, Li i, [.int (X i)], s)) : LW (26, Li i, [], s) := by
  refine hop _ (26, Li i, [], s) (27, Li i, [.ref 70], s) rfl rfl (hop _ _ (28, Li i, [.int (nI i), .ref 70], s) rfl rfl (hop _ _ _ rfl ?_ k))
  show (if 0 ≤ (nI i).toInt ∧ (nI i).toInt < (s.1 71 0).toInt then some (28 + 1, Li i, [Value.int (s.1 70 (nI i).toNatClampNeg)], s) else none) = _
  rw [hc.2, nI_toInt (by omega), nI_toInt (by omega), if_pos ⟨by omega, by omega⟩, nI_cl (by omega), hc.1 _ hi]
theorem lu_call (hop : ∀ (f : qOp) (x t : qSt), qTL x.1 = .inr f → f (qCall qMT 10) x = some t → LW t → LW x) {pc q y ci n : Nat} {L : List (Option Value)} {st rest vs : List Value} {r : Int32} {s s1 : qMem} (hq : pc + 3 = q) (hT : qTL pc = .inr (qInvI qZ y ci n)) (hd : st.drop n = rest) (htk : (st.take n).reverse = vs) (hg : (qRcv qZ ci vs && (Nat.beq (st.take n).length n && Nat.ble (qWid rest) 8)) = true) (h : qI (qCall qMT 10 y vs s) = some (r, s1)) (k : LW (q, L, .int r :: rest, s1)) : LW (pc, L, st, s) := by
  subst hq
  refine hop _ _ _ hT ?_ k
  show (bif qRcv qZ ci (st.take n).reverse && (Nat.beq (st.take n).length n && Nat.ble (qWid (st.drop n)) 8) then (qI (qCall qMT 10 y (st.take n).reverse s)).bind (fun q => some (pc + 3, L, Value.int q.1 :: st.drop n, q.2)) else none) = _
  rw [htk, hd, hg, h]
  rfl
theorem lc_0 (hop : ∀ (f : qOp) (x t : qSt), qTL x.1 = .inr f → f (qCall qMT 10) x = some t → LW t → LW x) (hsc : ∀ x : qSt, (lSc X Ln x.2.2.2 → LW x) → LW x) {i : Nat} {s : qMem} (hI : CINV s) (hc : lSc X Ln s) (hi : i + 4 ≤ Ln) (hL : Ln ≤ 256) (k : ∀ t, CINV t → LW (803, Li i, [], t)) : LW (148, Li i, [], s) := by
  obtain ⟨r, s1, s2, h1, h2, h3⟩ := al_write (s := s) (bs := ((((X (i + 1))).toInt64 <<< ((32 : Int32).toInt64 &&& 63)) ||| (((X (i + 2))).toInt64 &&& (4294967295)))) (n := (X (i + 3))) hI
  refine lu_st hop 1 (t := (149, Li i, [.ref 0], s)) rfl ?_
  refine lu_ld hop (q := 154) (j := 1) rfl rfl rfl rfl rfl rfl hc (by omega) hL ?_
  refine lu_st hop 3 (t := (158, Li i, [.long (((X (i + 1))).toInt64 <<< ((32 : Int32).toInt64 &&& 63)), .ref 0], s)) rfl ?_
  refine lu_ld hop (q := 163) (j := 2) rfl rfl rfl rfl rfl rfl hc (by omega) hL ?_
  refine lu_st hop 4 (t := (169, Li i, [.long ((((X (i + 1))).toInt64 <<< ((32 : Int32).toInt64 &&& 63)) ||| (((X (i + 2))).toInt64 &&& (4294967295))), .ref 0], s)) rfl ?_
  refine lu_ld hop (q := 174) (j := 3) rfl rfl rfl rfl rfl rfl hc (by omega) hL ?_
  refine lu_call hop (q := 177) (y := 74) (ci := 4) (n := 3) (rest := []) (vs := [.ref 0, .long ((((X (i + 1))).toInt64 <<< ((32 : Int32).toInt64 &&& 63)) ||| (((X (i + 2))).toInt64 &&& (4294967295))), .int (X (i + 3))]) rfl rfl rfl rfl rfl h1 ?_
  refine hsc _ (fun hc1 => ?_)
  refine lu_st hop 1 (t := (178, Li i, [.ref 40, .int r], s1)) rfl ?_
  refine lu_ld hop (q := 183) (j := 1) rfl rfl rfl rfl rfl rfl hc1 (by omega) hL ?_
  refine lu_st hop 3 (t := (187, Li i, [.long (((X (i + 1))).toInt64 <<< ((32 : Int32).toInt64 &&& 63)), .ref 40, .int r], s1)) rfl ?_
  refine lu_ld hop (q := 192) (j := 2) rfl rfl rfl rfl rfl rfl hc1 (by omega) hL ?_
  refine lu_st hop 4 (t := (198, Li i, [.long ((((X (i + 1))).toInt64 <<< ((32 : Int32).toInt64 &&& 63)) ||| (((X (i + 2))).toInt64 &&& (4294967295))), .ref 40, .int r], s1)) rfl ?_
  refine lu_ld hop (q := 203) (j := 3) rfl rfl rfl rfl rfl rfl hc1 (by omega) hL ?_
  refine lu_call hop (q := 206) (y := 111) (ci := 5) (n := 3) (rest := [.int r]) (vs := [.ref 40, .long ((((X (i + 1))).toInt64 <<< ((32 : Int32).toInt64 &&& 63)) ||| (((X (i + 2))).toInt64 &&& (4294967295))), .int (X (i + 3))]) rfl rfl rfl rfl rfl h2 ?_
  exact hop _ _ (803, Li i, [], s2) rfl (if_pos rfl) (k s2 h3)
theorem lc_1 (hop : ∀ (f : qOp) (x t : qSt), qTL x.1 = .inr f → f (qCall qMT 10) x = some t → LW t → LW x) (hsc : ∀ x : qSt, (lSc X Ln x.2.2.2 → LW x) → LW x) {i : Nat} {s : qMem} (hI : CINV s) (hc : lSc X Ln s) (hi : i + 4 ≤ Ln) (hL : Ln ≤ 256) (k : ∀ t, CINV t → LW (803, Li i, [], t)) : LW (211, Li i, [], s) := by
  obtain ⟨r, s1, s2, h1, h2, h3⟩ := al_erase (s := s)  hI
  refine lu_st hop 1 (t := (212, Li i, [.ref 0], s)) rfl ?_
  refine lu_call hop (q := 215) (y := 75) (ci := 4) (n := 1) (rest := []) (vs := [.ref 0]) rfl rfl rfl rfl rfl h1 ?_
  refine hsc _ (fun hc1 => ?_)
  refine lu_st hop 1 (t := (216, Li i, [.ref 40, .int r], s1)) rfl ?_
  refine lu_call hop (q := 219) (y := 112) (ci := 5) (n := 1) (rest := [.int r]) (vs := [.ref 40]) rfl rfl rfl rfl rfl h2 ?_
  exact hop _ _ (803, Li i, [], s2) rfl (if_pos rfl) (k s2 h3)
theorem lc_2 (hop : ∀ (f : qOp) (x t : qSt), qTL x.1 = .inr f → f (qCall qMT 10) x = some t → LW t → LW x) (hsc : ∀ x : qSt, (lSc X Ln x.2.2.2 → LW x) → LW x) {i : Nat} {s : qMem} (hI : CINV s) (hc : lSc X Ln s) (hi : i + 4 ≤ Ln) (hL : Ln ≤ 256) (k : ∀ t, CINV t → LW (803, Li i, [], t)) : LW (224, Li i, [], s) := by
  obtain ⟨r, s1, s2, h1, h2, h3⟩ := al_fault (s := s)  hI
  refine lu_st hop 1 (t := (225, Li i, [.ref 0], s)) rfl ?_
  refine lu_call hop (q := 228) (y := 76) (ci := 4) (n := 1) (rest := []) (vs := [.ref 0]) rfl rfl rfl rfl rfl h1 ?_
  refine hsc _ (fun hc1 => ?_)
  refine lu_st hop 1 (t := (229, Li i, [.ref 40, .int r], s1)) rfl ?_
  refine lu_call hop (q := 232) (y := 119) (ci := 5) (n := 1) (rest := [.int r]) (vs := [.ref 40]) rfl rfl rfl rfl rfl h2 ?_
  exact hop _ _ (803, Li i, [], s2) rfl (if_pos rfl) (k s2 h3)
theorem lc_3 (hop : ∀ (f : qOp) (x t : qSt), qTL x.1 = .inr f → f (qCall qMT 10) x = some t → LW t → LW x) (hsc : ∀ x : qSt, (lSc X Ln x.2.2.2 → LW x) → LW x) {i : Nat} {s : qMem} (hI : CINV s) (hc : lSc X Ln s) (hi : i + 4 ≤ Ln) (hL : Ln ≤ 256) (k : ∀ t, CINV t → LW (803, Li i, [], t)) : LW (237, Li i, [], s) := by
  obtain ⟨r, s1, s2, h1, h2, h3⟩ := al_stair (s := s)  hI
  refine lu_st hop 1 (t := (238, Li i, [.ref 0], s)) rfl ?_
  refine lu_call hop (q := 241) (y := 77) (ci := 4) (n := 1) (rest := []) (vs := [.ref 0]) rfl rfl rfl rfl rfl h1 ?_
  refine hsc _ (fun hc1 => ?_)
  refine lu_st hop 1 (t := (242, Li i, [.ref 40, .int r], s1)) rfl ?_
  refine lu_call hop (q := 245) (y := 121) (ci := 5) (n := 1) (rest := [.int r]) (vs := [.ref 40]) rfl rfl rfl rfl rfl h2 ?_
  exact hop _ _ (803, Li i, [], s2) rfl (if_pos rfl) (k s2 h3)
theorem lc_4 (hop : ∀ (f : qOp) (x t : qSt), qTL x.1 = .inr f → f (qCall qMT 10) x = some t → LW t → LW x) (hsc : ∀ x : qSt, (lSc X Ln x.2.2.2 → LW x) → LW x) {i : Nat} {s : qMem} (hI : CINV s) (hc : lSc X Ln s) (hi : i + 4 ≤ Ln) (hL : Ln ≤ 256) (k : ∀ t, CINV t → LW (803, Li i, [], t)) : LW (250, Li i, [], s) := by
  obtain ⟨r, s1, s2, h1, h2, h3⟩ := al_step (s := s) (x := (X (i + 1))) (y := (X (i + 2))) hI
  refine lu_st hop 1 (t := (251, Li i, [.ref 0], s)) rfl ?_
  refine lu_ld hop (q := 256) (j := 1) rfl rfl rfl rfl rfl rfl hc (by omega) hL ?_
  refine lu_ld hop (q := 261) (j := 2) rfl rfl rfl rfl rfl rfl hc (by omega) hL ?_
  refine lu_call hop (q := 264) (y := 78) (ci := 4) (n := 3) (rest := []) (vs := [.ref 0, .int (X (i + 1)), .int (X (i + 2))]) rfl rfl rfl rfl rfl h1 ?_
  refine hsc _ (fun hc1 => ?_)
  refine lu_st hop 1 (t := (265, Li i, [.ref 40, .int r], s1)) rfl ?_
  refine lu_ld hop (q := 270) (j := 1) rfl rfl rfl rfl rfl rfl hc1 (by omega) hL ?_
  refine lu_ld hop (q := 275) (j := 2) rfl rfl rfl rfl rfl rfl hc1 (by omega) hL ?_
  refine lu_call hop (q := 278) (y := 122) (ci := 5) (n := 3) (rest := [.int r]) (vs := [.ref 40, .int (X (i + 1)), .int (X (i + 2))]) rfl rfl rfl rfl rfl h2 ?_
  exact hop _ _ (803, Li i, [], s2) rfl (if_pos rfl) (k s2 h3)
theorem lc_5 (hop : ∀ (f : qOp) (x t : qSt), qTL x.1 = .inr f → f (qCall qMT 10) x = some t → LW t → LW x) (hsc : ∀ x : qSt, (lSc X Ln x.2.2.2 → LW x) → LW x) {i : Nat} {s : qMem} (hI : CINV s) (hc : lSc X Ln s) (hi : i + 4 ≤ Ln) (hL : Ln ≤ 256) (k : ∀ t, CINV t → LW (803, Li i, [], t)) : LW (283, Li i, [], s) := by
  obtain ⟨r, s1, s2, h1, h2, h3⟩ := al_one (s := s) (x := (X (i + 1))) (y := (X (i + 2))) hI
  refine lu_st hop 1 (t := (284, Li i, [.ref 0], s)) rfl ?_
  refine lu_ld hop (q := 289) (j := 1) rfl rfl rfl rfl rfl rfl hc (by omega) hL ?_
  refine lu_ld hop (q := 294) (j := 2) rfl rfl rfl rfl rfl rfl hc (by omega) hL ?_
  refine lu_call hop (q := 297) (y := 79) (ci := 4) (n := 3) (rest := []) (vs := [.ref 0, .int (X (i + 1)), .int (X (i + 2))]) rfl rfl rfl rfl rfl h1 ?_
  refine hsc _ (fun hc1 => ?_)
  refine lu_st hop 1 (t := (298, Li i, [.ref 40, .int r], s1)) rfl ?_
  refine lu_ld hop (q := 303) (j := 1) rfl rfl rfl rfl rfl rfl hc1 (by omega) hL ?_
  refine lu_ld hop (q := 308) (j := 2) rfl rfl rfl rfl rfl rfl hc1 (by omega) hL ?_
  refine lu_call hop (q := 311) (y := 125) (ci := 5) (n := 3) (rest := [.int r]) (vs := [.ref 40, .int (X (i + 1)), .int (X (i + 2))]) rfl rfl rfl rfl rfl h2 ?_
  exact hop _ _ (803, Li i, [], s2) rfl (if_pos rfl) (k s2 h3)
theorem lc_6 (hop : ∀ (f : qOp) (x t : qSt), qTL x.1 = .inr f → f (qCall qMT 10) x = some t → LW t → LW x) (hsc : ∀ x : qSt, (lSc X Ln x.2.2.2 → LW x) → LW x) {i : Nat} {s : qMem} (hI : CINV s) (hc : lSc X Ln s) (hi : i + 4 ≤ Ln) (hL : Ln ≤ 256) (k : ∀ t, CINV t → LW (803, Li i, [], t)) : LW (316, Li i, [], s) := by
  obtain ⟨r, s1, s2, h1, h2, h3⟩ := al_as (s := s) (x := (X (i + 1))) (y := (X (i + 2))) hI
  refine lu_st hop 1 (t := (317, Li i, [.ref 0], s)) rfl ?_
  refine lu_ld hop (q := 322) (j := 1) rfl rfl rfl rfl rfl rfl hc (by omega) hL ?_
  refine lu_ld hop (q := 327) (j := 2) rfl rfl rfl rfl rfl rfl hc (by omega) hL ?_
  refine lu_call hop (q := 330) (y := 80) (ci := 4) (n := 3) (rest := []) (vs := [.ref 0, .int (X (i + 1)), .int (X (i + 2))]) rfl rfl rfl rfl rfl h1 ?_
  refine hsc _ (fun hc1 => ?_)
  refine lu_st hop 1 (t := (331, Li i, [.ref 40, .int r], s1)) rfl ?_
  refine lu_ld hop (q := 336) (j := 1) rfl rfl rfl rfl rfl rfl hc1 (by omega) hL ?_
  refine lu_ld hop (q := 341) (j := 2) rfl rfl rfl rfl rfl rfl hc1 (by omega) hL ?_
  refine lu_call hop (q := 344) (y := 131) (ci := 5) (n := 3) (rest := [.int r]) (vs := [.ref 40, .int (X (i + 1)), .int (X (i + 2))]) rfl rfl rfl rfl rfl h2 ?_
  exact hop _ _ (803, Li i, [], s2) rfl (if_pos rfl) (k s2 h3)
theorem lc_7 (hop : ∀ (f : qOp) (x t : qSt), qTL x.1 = .inr f → f (qCall qMT 10) x = some t → LW t → LW x) (hsc : ∀ x : qSt, (lSc X Ln x.2.2.2 → LW x) → LW x) {i : Nat} {s : qMem} (hI : CINV s) (hc : lSc X Ln s) (hi : i + 4 ≤ Ln) (hL : Ln ≤ 256) (k : ∀ t, CINV t → LW (803, Li i, [], t)) : LW (349, Li i, [], s) := by
  obtain ⟨r, s1, s2, h1, h2, h3⟩ := al_up (s := s) (x := (X (i + 1))) (y := (X (i + 2))) (z := (X (i + 3))) hI
  refine lu_st hop 1 (t := (350, Li i, [.ref 0], s)) rfl ?_
  refine lu_ld hop (q := 355) (j := 1) rfl rfl rfl rfl rfl rfl hc (by omega) hL ?_
  refine lu_ld hop (q := 360) (j := 2) rfl rfl rfl rfl rfl rfl hc (by omega) hL ?_
  refine lu_ld hop (q := 365) (j := 3) rfl rfl rfl rfl rfl rfl hc (by omega) hL ?_
  refine lu_call hop (q := 368) (y := 81) (ci := 4) (n := 4) (rest := []) (vs := [.ref 0, .int (X (i + 1)), .int (X (i + 2)), .int (X (i + 3))]) rfl rfl rfl rfl rfl h1 ?_
  refine hsc _ (fun hc1 => ?_)
  refine lu_st hop 1 (t := (369, Li i, [.ref 40, .int r], s1)) rfl ?_
  refine lu_ld hop (q := 374) (j := 1) rfl rfl rfl rfl rfl rfl hc1 (by omega) hL ?_
  refine lu_ld hop (q := 379) (j := 2) rfl rfl rfl rfl rfl rfl hc1 (by omega) hL ?_
  refine lu_ld hop (q := 384) (j := 3) rfl rfl rfl rfl rfl rfl hc1 (by omega) hL ?_
  refine lu_call hop (q := 387) (y := 134) (ci := 5) (n := 4) (rest := [.int r]) (vs := [.ref 40, .int (X (i + 1)), .int (X (i + 2)), .int (X (i + 3))]) rfl rfl rfl rfl rfl h2 ?_
  exact hop _ _ (803, Li i, [], s2) rfl (if_pos rfl) (k s2 h3)
theorem lc_8 (hop : ∀ (f : qOp) (x t : qSt), qTL x.1 = .inr f → f (qCall qMT 10) x = some t → LW t → LW x) (hsc : ∀ x : qSt, (lSc X Ln x.2.2.2 → LW x) → LW x) {i : Nat} {s : qMem} (hI : CINV s) (hc : lSc X Ln s) (hi : i + 4 ≤ Ln) (hL : Ln ≤ 256) (k : ∀ t, CINV t → LW (803, Li i, [], t)) : LW (392, Li i, [], s) := by
  obtain ⟨r, s1, s2, h1, h2, h3⟩ := al_down (s := s) (x := (X (i + 1))) (y := (X (i + 2))) hI
  refine lu_st hop 1 (t := (393, Li i, [.ref 0], s)) rfl ?_
  refine lu_ld hop (q := 398) (j := 1) rfl rfl rfl rfl rfl rfl hc (by omega) hL ?_
  refine lu_ld hop (q := 403) (j := 2) rfl rfl rfl rfl rfl rfl hc (by omega) hL ?_
  refine lu_call hop (q := 406) (y := 82) (ci := 4) (n := 3) (rest := []) (vs := [.ref 0, .int (X (i + 1)), .int (X (i + 2))]) rfl rfl rfl rfl rfl h1 ?_
  refine hsc _ (fun hc1 => ?_)
  refine lu_st hop 1 (t := (407, Li i, [.ref 40, .int r], s1)) rfl ?_
  refine lu_ld hop (q := 412) (j := 1) rfl rfl rfl rfl rfl rfl hc1 (by omega) hL ?_
  refine lu_ld hop (q := 417) (j := 2) rfl rfl rfl rfl rfl rfl hc1 (by omega) hL ?_
  refine lu_call hop (q := 420) (y := 135) (ci := 5) (n := 3) (rest := [.int r]) (vs := [.ref 40, .int (X (i + 1)), .int (X (i + 2))]) rfl rfl rfl rfl rfl h2 ?_
  exact hop _ _ (803, Li i, [], s2) rfl (if_pos rfl) (k s2 h3)
theorem lc_9 (hop : ∀ (f : qOp) (x t : qSt), qTL x.1 = .inr f → f (qCall qMT 10) x = some t → LW t → LW x) (hsc : ∀ x : qSt, (lSc X Ln x.2.2.2 → LW x) → LW x) {i : Nat} {s : qMem} (hI : CINV s) (hc : lSc X Ln s) (hi : i + 4 ≤ Ln) (hL : Ln ≤ 256) (k : ∀ t, CINV t → LW (803, Li i, [], t)) : LW (425, Li i, [], s) := by
  obtain ⟨r, s1, s2, h1, h2, h3⟩ := al_helped (s := s) (x := (X (i + 1))) (y := (X (i + 2))) hI
  refine lu_st hop 1 (t := (426, Li i, [.ref 0], s)) rfl ?_
  refine lu_ld hop (q := 431) (j := 1) rfl rfl rfl rfl rfl rfl hc (by omega) hL ?_
  refine lu_ld hop (q := 436) (j := 2) rfl rfl rfl rfl rfl rfl hc (by omega) hL ?_
  refine lu_call hop (q := 439) (y := 83) (ci := 4) (n := 3) (rest := []) (vs := [.ref 0, .int (X (i + 1)), .int (X (i + 2))]) rfl rfl rfl rfl rfl h1 ?_
  refine hsc _ (fun hc1 => ?_)
  refine lu_st hop 1 (t := (440, Li i, [.ref 40, .int r], s1)) rfl ?_
  refine lu_ld hop (q := 445) (j := 1) rfl rfl rfl rfl rfl rfl hc1 (by omega) hL ?_
  refine lu_ld hop (q := 450) (j := 2) rfl rfl rfl rfl rfl rfl hc1 (by omega) hL ?_
  refine lu_call hop (q := 453) (y := 136) (ci := 5) (n := 3) (rest := [.int r]) (vs := [.ref 40, .int (X (i + 1)), .int (X (i + 2))]) rfl rfl rfl rfl rfl h2 ?_
  exact hop _ _ (803, Li i, [], s2) rfl (if_pos rfl) (k s2 h3)
theorem lc_10 (hop : ∀ (f : qOp) (x t : qSt), qTL x.1 = .inr f → f (qCall qMT 10) x = some t → LW t → LW x) (hsc : ∀ x : qSt, (lSc X Ln x.2.2.2 → LW x) → LW x) {i : Nat} {s : qMem} (hI : CINV s) (hc : lSc X Ln s) (hi : i + 4 ≤ Ln) (hL : Ln ≤ 256) (k : ∀ t, CINV t → LW (803, Li i, [], t)) : LW (458, Li i, [], s) := by
  obtain ⟨r, s1, s2, h1, h2, h3⟩ := al_keep (s := s) (x := (X (i + 1))) hI
  refine lu_st hop 1 (t := (459, Li i, [.ref 0], s)) rfl ?_
  refine lu_ld hop (q := 464) (j := 1) rfl rfl rfl rfl rfl rfl hc (by omega) hL ?_
  refine lu_call hop (q := 467) (y := 84) (ci := 4) (n := 2) (rest := []) (vs := [.ref 0, .int (X (i + 1))]) rfl rfl rfl rfl rfl h1 ?_
  refine hsc _ (fun hc1 => ?_)
  refine lu_st hop 1 (t := (468, Li i, [.ref 40, .int r], s1)) rfl ?_
  refine lu_ld hop (q := 473) (j := 1) rfl rfl rfl rfl rfl rfl hc1 (by omega) hL ?_
  refine lu_call hop (q := 476) (y := 137) (ci := 5) (n := 2) (rest := [.int r]) (vs := [.ref 40, .int (X (i + 1))]) rfl rfl rfl rfl rfl h2 ?_
  exact hop _ _ (803, Li i, [], s2) rfl (if_pos rfl) (k s2 h3)
theorem lc_11 (hop : ∀ (f : qOp) (x t : qSt), qTL x.1 = .inr f → f (qCall qMT 10) x = some t → LW t → LW x) (hsc : ∀ x : qSt, (lSc X Ln x.2.2.2 → LW x) → LW x) {i : Nat} {s : qMem} (hI : CINV s) (hc : lSc X Ln s) (hi : i + 4 ≤ Ln) (hL : Ln ≤ 256) (k : ∀ t, CINV t → LW (803, Li i, [], t)) : LW (481, Li i, [], s) := by
  obtain ⟨r, s1, s2, h1, h2, h3⟩ := al_back (s := s) (x := (X (i + 1))) hI
  refine lu_st hop 1 (t := (482, Li i, [.ref 0], s)) rfl ?_
  refine lu_ld hop (q := 487) (j := 1) rfl rfl rfl rfl rfl rfl hc (by omega) hL ?_
  refine lu_call hop (q := 490) (y := 85) (ci := 4) (n := 2) (rest := []) (vs := [.ref 0, .int (X (i + 1))]) rfl rfl rfl rfl rfl h1 ?_
  refine hsc _ (fun hc1 => ?_)
  refine lu_st hop 1 (t := (491, Li i, [.ref 40, .int r], s1)) rfl ?_
  refine lu_ld hop (q := 496) (j := 1) rfl rfl rfl rfl rfl rfl hc1 (by omega) hL ?_
  refine lu_call hop (q := 499) (y := 138) (ci := 5) (n := 2) (rest := [.int r]) (vs := [.ref 40, .int (X (i + 1))]) rfl rfl rfl rfl rfl h2 ?_
  exact hop _ _ (803, Li i, [], s2) rfl (if_pos rfl) (k s2 h3)
theorem lc_12 (hop : ∀ (f : qOp) (x t : qSt), qTL x.1 = .inr f → f (qCall qMT 10) x = some t → LW t → LW x) (hsc : ∀ x : qSt, (lSc X Ln x.2.2.2 → LW x) → LW x) {i : Nat} {s : qMem} (hI : CINV s) (hc : lSc X Ln s) (hi : i + 4 ≤ Ln) (hL : Ln ≤ 256) (k : ∀ t, CINV t → LW (803, Li i, [], t)) : LW (504, Li i, [], s) := by
  obtain ⟨r, s1, s2, h1, h2, h3⟩ := al_help (s := s) (x := (X (i + 1))) (y := (X (i + 2))) hI
  refine lu_st hop 1 (t := (505, Li i, [.ref 0], s)) rfl ?_
  refine lu_ld hop (q := 510) (j := 1) rfl rfl rfl rfl rfl rfl hc (by omega) hL ?_
  refine lu_ld hop (q := 515) (j := 2) rfl rfl rfl rfl rfl rfl hc (by omega) hL ?_
  refine lu_call hop (q := 518) (y := 86) (ci := 4) (n := 3) (rest := []) (vs := [.ref 0, .int (X (i + 1)), .int (X (i + 2))]) rfl rfl rfl rfl rfl h1 ?_
  refine hsc _ (fun hc1 => ?_)
  refine lu_st hop 1 (t := (519, Li i, [.ref 40, .int r], s1)) rfl ?_
  refine lu_ld hop (q := 524) (j := 1) rfl rfl rfl rfl rfl rfl hc1 (by omega) hL ?_
  refine lu_ld hop (q := 529) (j := 2) rfl rfl rfl rfl rfl rfl hc1 (by omega) hL ?_
  refine lu_call hop (q := 532) (y := 139) (ci := 5) (n := 3) (rest := [.int r]) (vs := [.ref 40, .int (X (i + 1)), .int (X (i + 2))]) rfl rfl rfl rfl rfl h2 ?_
  exact hop _ _ (803, Li i, [], s2) rfl (if_pos rfl) (k s2 h3)
theorem lc_13 (hop : ∀ (f : qOp) (x t : qSt), qTL x.1 = .inr f → f (qCall qMT 10) x = some t → LW t → LW x) (hsc : ∀ x : qSt, (lSc X Ln x.2.2.2 → LW x) → LW x) {i : Nat} {s : qMem} (hI : CINV s) (hc : lSc X Ln s) (hi : i + 4 ≤ Ln) (hL : Ln ≤ 256) (k : ∀ t, CINV t → LW (803, Li i, [], t)) : LW (537, Li i, [], s) := by
  obtain ⟨r, s1, s2, h1, h2, h3⟩ := al_soonest (s := s)  hI
  refine lu_st hop 1 (t := (538, Li i, [.ref 0], s)) rfl ?_
  refine lu_call hop (q := 541) (y := 87) (ci := 4) (n := 1) (rest := []) (vs := [.ref 0]) rfl rfl rfl rfl rfl h1 ?_
  refine hsc _ (fun hc1 => ?_)
  refine lu_st hop 1 (t := (542, Li i, [.ref 40, .int r], s1)) rfl ?_
  refine lu_call hop (q := 545) (y := 146) (ci := 5) (n := 1) (rest := [.int r]) (vs := [.ref 40]) rfl rfl rfl rfl rfl h2 ?_
  exact hop _ _ (803, Li i, [], s2) rfl (if_pos rfl) (k s2 h3)
theorem lc_14 (hop : ∀ (f : qOp) (x t : qSt), qTL x.1 = .inr f → f (qCall qMT 10) x = some t → LW t → LW x) (hsc : ∀ x : qSt, (lSc X Ln x.2.2.2 → LW x) → LW x) {i : Nat} {s : qMem} (hI : CINV s) (hc : lSc X Ln s) (hi : i + 4 ≤ Ln) (hL : Ln ≤ 256) (k : ∀ t, CINV t → LW (803, Li i, [], t)) : LW (550, Li i, [], s) := by
  obtain ⟨r, s1, s2, h1, h2, h3⟩ := al_way (s := s) (x := (X (i + 1))) (y := (X (i + 2))) hI
  refine lu_st hop 1 (t := (551, Li i, [.ref 0], s)) rfl ?_
  refine lu_ld hop (q := 556) (j := 1) rfl rfl rfl rfl rfl rfl hc (by omega) hL ?_
  refine lu_ld hop (q := 561) (j := 2) rfl rfl rfl rfl rfl rfl hc (by omega) hL ?_
  refine lu_call hop (q := 564) (y := 88) (ci := 4) (n := 3) (rest := []) (vs := [.ref 0, .int (X (i + 1)), .int (X (i + 2))]) rfl rfl rfl rfl rfl h1 ?_
  refine hsc _ (fun hc1 => ?_)
  refine lu_st hop 1 (t := (565, Li i, [.ref 40, .int r], s1)) rfl ?_
  refine lu_ld hop (q := 570) (j := 1) rfl rfl rfl rfl rfl rfl hc1 (by omega) hL ?_
  refine lu_ld hop (q := 575) (j := 2) rfl rfl rfl rfl rfl rfl hc1 (by omega) hL ?_
  refine lu_call hop (q := 578) (y := 147) (ci := 5) (n := 3) (rest := [.int r]) (vs := [.ref 40, .int (X (i + 1)), .int (X (i + 2))]) rfl rfl rfl rfl rfl h2 ?_
  exact hop _ _ (803, Li i, [], s2) rfl (if_pos rfl) (k s2 h3)
theorem lc_15 (hop : ∀ (f : qOp) (x t : qSt), qTL x.1 = .inr f → f (qCall qMT 10) x = some t → LW t → LW x) (hsc : ∀ x : qSt, (lSc X Ln x.2.2.2 → LW x) → LW x) {i : Nat} {s : qMem} (hI : CINV s) (hc : lSc X Ln s) (hi : i + 4 ≤ Ln) (hL : Ln ≤ 256) (k : ∀ t, CINV t → LW (803, Li i, [], t)) : LW (583, Li i, [], s) := by
  obtain ⟨r, s1, s2, h1, h2, h3⟩ := al_lasts (s := s)  hI
  refine lu_st hop 1 (t := (584, Li i, [.ref 0], s)) rfl ?_
  refine lu_call hop (q := 587) (y := 89) (ci := 4) (n := 1) (rest := []) (vs := [.ref 0]) rfl rfl rfl rfl rfl h1 ?_
  refine hsc _ (fun hc1 => ?_)
  refine lu_st hop 1 (t := (588, Li i, [.ref 40, .int r], s1)) rfl ?_
  refine lu_call hop (q := 591) (y := 148) (ci := 5) (n := 1) (rest := [.int r]) (vs := [.ref 40]) rfl rfl rfl rfl rfl h2 ?_
  exact hop _ _ (803, Li i, [], s2) rfl (if_pos rfl) (k s2 h3)
theorem lc_16 (hop : ∀ (f : qOp) (x t : qSt), qTL x.1 = .inr f → f (qCall qMT 10) x = some t → LW t → LW x) (hsc : ∀ x : qSt, (lSc X Ln x.2.2.2 → LW x) → LW x) {i : Nat} {s : qMem} (hI : CINV s) (hc : lSc X Ln s) (hi : i + 4 ≤ Ln) (hL : Ln ≤ 256) (k : ∀ t, CINV t → LW (803, Li i, [], t)) : LW (596, Li i, [], s) := by
  obtain ⟨r, s1, s2, h1, h2, h3⟩ := al_most (s := s) (x := (X (i + 1))) hI
  refine lu_st hop 1 (t := (597, Li i, [.ref 0], s)) rfl ?_
  refine lu_ld hop (q := 602) (j := 1) rfl rfl rfl rfl rfl rfl hc (by omega) hL ?_
  refine lu_call hop (q := 605) (y := 90) (ci := 4) (n := 2) (rest := []) (vs := [.ref 0, .int (X (i + 1))]) rfl rfl rfl rfl rfl h1 ?_
  refine hsc _ (fun hc1 => ?_)
  refine lu_st hop 1 (t := (606, Li i, [.ref 40, .int r], s1)) rfl ?_
  refine lu_ld hop (q := 611) (j := 1) rfl rfl rfl rfl rfl rfl hc1 (by omega) hL ?_
  refine lu_call hop (q := 614) (y := 149) (ci := 5) (n := 2) (rest := [.int r]) (vs := [.ref 40, .int (X (i + 1))]) rfl rfl rfl rfl rfl h2 ?_
  exact hop _ _ (803, Li i, [], s2) rfl (if_pos rfl) (k s2 h3)
theorem lc_17 (hop : ∀ (f : qOp) (x t : qSt), qTL x.1 = .inr f → f (qCall qMT 10) x = some t → LW t → LW x) (hsc : ∀ x : qSt, (lSc X Ln x.2.2.2 → LW x) → LW x) {i : Nat} {s : qMem} (hI : CINV s) (hc : lSc X Ln s) (hi : i + 4 ≤ Ln) (hL : Ln ≤ 256) (k : ∀ t, CINV t → LW (803, Li i, [], t)) : LW (619, Li i, [], s) := by
  obtain ⟨r, s1, s2, h1, h2, h3⟩ := al_soon (s := s) (x := (X (i + 1))) hI
  refine lu_st hop 1 (t := (620, Li i, [.ref 0], s)) rfl ?_
  refine lu_ld hop (q := 625) (j := 1) rfl rfl rfl rfl rfl rfl hc (by omega) hL ?_
  refine lu_call hop (q := 628) (y := 91) (ci := 4) (n := 2) (rest := []) (vs := [.ref 0, .int (X (i + 1))]) rfl rfl rfl rfl rfl h1 ?_
  refine hsc _ (fun hc1 => ?_)
  refine lu_st hop 1 (t := (629, Li i, [.ref 40, .int r], s1)) rfl ?_
  refine lu_ld hop (q := 634) (j := 1) rfl rfl rfl rfl rfl rfl hc1 (by omega) hL ?_
  refine lu_call hop (q := 637) (y := 150) (ci := 5) (n := 2) (rest := [.int r]) (vs := [.ref 40, .int (X (i + 1))]) rfl rfl rfl rfl rfl h2 ?_
  exact hop _ _ (803, Li i, [], s2) rfl (if_pos rfl) (k s2 h3)
theorem lc_18 (hop : ∀ (f : qOp) (x t : qSt), qTL x.1 = .inr f → f (qCall qMT 10) x = some t → LW t → LW x) (hsc : ∀ x : qSt, (lSc X Ln x.2.2.2 → LW x) → LW x) {i : Nat} {s : qMem} (hI : CINV s) (hc : lSc X Ln s) (hi : i + 4 ≤ Ln) (hL : Ln ≤ 256) (k : ∀ t, CINV t → LW (803, Li i, [], t)) : LW (642, Li i, [], s) := by
  obtain ⟨r, s1, s2, h1, h2, h3⟩ := al_many (s := s) (x := (X (i + 1))) hI
  refine lu_st hop 1 (t := (643, Li i, [.ref 0], s)) rfl ?_
  refine lu_ld hop (q := 648) (j := 1) rfl rfl rfl rfl rfl rfl hc (by omega) hL ?_
  refine lu_call hop (q := 651) (y := 92) (ci := 4) (n := 2) (rest := []) (vs := [.ref 0, .int (X (i + 1))]) rfl rfl rfl rfl rfl h1 ?_
  refine hsc _ (fun hc1 => ?_)
  refine lu_st hop 1 (t := (652, Li i, [.ref 40, .int r], s1)) rfl ?_
  refine lu_ld hop (q := 657) (j := 1) rfl rfl rfl rfl rfl rfl hc1 (by omega) hL ?_
  refine lu_call hop (q := 660) (y := 151) (ci := 5) (n := 2) (rest := [.int r]) (vs := [.ref 40, .int (X (i + 1))]) rfl rfl rfl rfl rfl h2 ?_
  exact hop _ _ (803, Li i, [], s2) rfl (if_pos rfl) (k s2 h3)
theorem lc_19 (hop : ∀ (f : qOp) (x t : qSt), qTL x.1 = .inr f → f (qCall qMT 10) x = some t → LW t → LW x) (hsc : ∀ x : qSt, (lSc X Ln x.2.2.2 → LW x) → LW x) {i : Nat} {s : qMem} (hI : CINV s) (hc : lSc X Ln s) (hi : i + 4 ≤ Ln) (hL : Ln ≤ 256) (k : ∀ t, CINV t → LW (803, Li i, [], t)) : LW (665, Li i, [], s) := by
  obtain ⟨r, s1, s2, h1, h2, h3⟩ := al_roped (s := s) (x := (X (i + 1))) hI
  refine lu_st hop 1 (t := (666, Li i, [.ref 0], s)) rfl ?_
  refine lu_ld hop (q := 671) (j := 1) rfl rfl rfl rfl rfl rfl hc (by omega) hL ?_
  refine lu_call hop (q := 674) (y := 93) (ci := 4) (n := 2) (rest := []) (vs := [.ref 0, .int (X (i + 1))]) rfl rfl rfl rfl rfl h1 ?_
  refine hsc _ (fun hc1 => ?_)
  refine lu_st hop 1 (t := (675, Li i, [.ref 40, .int r], s1)) rfl ?_
  refine lu_ld hop (q := 680) (j := 1) rfl rfl rfl rfl rfl rfl hc1 (by omega) hL ?_
  refine lu_call hop (q := 683) (y := 152) (ci := 5) (n := 2) (rest := [.int r]) (vs := [.ref 40, .int (X (i + 1))]) rfl rfl rfl rfl rfl h2 ?_
  exact hop _ _ (803, Li i, [], s2) rfl (if_pos rfl) (k s2 h3)
theorem lc_20 (hop : ∀ (f : qOp) (x t : qSt), qTL x.1 = .inr f → f (qCall qMT 10) x = some t → LW t → LW x) (hsc : ∀ x : qSt, (lSc X Ln x.2.2.2 → LW x) → LW x) {i : Nat} {s : qMem} (hI : CINV s) (hc : lSc X Ln s) (hi : i + 4 ≤ Ln) (hL : Ln ≤ 256) (k : ∀ t, CINV t → LW (803, Li i, [], t)) : LW (688, Li i, [], s) := by
  obtain ⟨r, s1, s2, h1, h2, h3⟩ := al_odds (s := s) (x := (X (i + 1))) (y := (X (i + 2))) hI
  refine lu_st hop 1 (t := (689, Li i, [.ref 0], s)) rfl ?_
  refine lu_ld hop (q := 694) (j := 1) rfl rfl rfl rfl rfl rfl hc (by omega) hL ?_
  refine lu_ld hop (q := 699) (j := 2) rfl rfl rfl rfl rfl rfl hc (by omega) hL ?_
  refine lu_call hop (q := 702) (y := 94) (ci := 4) (n := 3) (rest := []) (vs := [.ref 0, .int (X (i + 1)), .int (X (i + 2))]) rfl rfl rfl rfl rfl h1 ?_
  refine hsc _ (fun hc1 => ?_)
  refine lu_st hop 1 (t := (703, Li i, [.ref 40, .int r], s1)) rfl ?_
  refine lu_ld hop (q := 708) (j := 1) rfl rfl rfl rfl rfl rfl hc1 (by omega) hL ?_
  refine lu_ld hop (q := 713) (j := 2) rfl rfl rfl rfl rfl rfl hc1 (by omega) hL ?_
  refine lu_call hop (q := 716) (y := 153) (ci := 5) (n := 3) (rest := [.int r]) (vs := [.ref 40, .int (X (i + 1)), .int (X (i + 2))]) rfl rfl rfl rfl rfl h2 ?_
  exact hop _ _ (803, Li i, [], s2) rfl (if_pos rfl) (k s2 h3)
theorem lc_21 (hop : ∀ (f : qOp) (x t : qSt), qTL x.1 = .inr f → f (qCall qMT 10) x = some t → LW t → LW x) (hsc : ∀ x : qSt, (lSc X Ln x.2.2.2 → LW x) → LW x) {i : Nat} {s : qMem} (hI : CINV s) (hc : lSc X Ln s) (hi : i + 4 ≤ Ln) (hL : Ln ≤ 256) (k : ∀ t, CINV t → LW (803, Li i, [], t)) : LW (721, Li i, [], s) := by
  obtain ⟨r, s1, s2, h1, h2, h3⟩ := al_row (s := s) (x := (X (i + 1))) (y := (X (i + 2))) hI
  refine lu_st hop 1 (t := (722, Li i, [.ref 0], s)) rfl ?_
  refine lu_ld hop (q := 727) (j := 1) rfl rfl rfl rfl rfl rfl hc (by omega) hL ?_
  refine lu_ld hop (q := 732) (j := 2) rfl rfl rfl rfl rfl rfl hc (by omega) hL ?_
  refine lu_call hop (q := 735) (y := 95) (ci := 4) (n := 3) (rest := []) (vs := [.ref 0, .int (X (i + 1)), .int (X (i + 2))]) rfl rfl rfl rfl rfl h1 ?_
  refine hsc _ (fun hc1 => ?_)
  refine lu_st hop 1 (t := (736, Li i, [.ref 40, .int r], s1)) rfl ?_
  refine lu_ld hop (q := 741) (j := 1) rfl rfl rfl rfl rfl rfl hc1 (by omega) hL ?_
  refine lu_ld hop (q := 746) (j := 2) rfl rfl rfl rfl rfl rfl hc1 (by omega) hL ?_
  refine lu_call hop (q := 749) (y := 154) (ci := 5) (n := 3) (rest := [.int r]) (vs := [.ref 40, .int (X (i + 1)), .int (X (i + 2))]) rfl rfl rfl rfl rfl h2 ?_
  exact hop _ _ (803, Li i, [], s2) rfl (if_pos rfl) (k s2 h3)
theorem lc_22 (hop : ∀ (f : qOp) (x t : qSt), qTL x.1 = .inr f → f (qCall qMT 10) x = some t → LW t → LW x) (hsc : ∀ x : qSt, (lSc X Ln x.2.2.2 → LW x) → LW x) {i : Nat} {s : qMem} (hI : CINV s) (hc : lSc X Ln s) (hi : i + 4 ≤ Ln) (hL : Ln ≤ 256) (k : ∀ t, CINV t → LW (803, Li i, [], t)) : LW (754, Li i, [], s) := by
  obtain ⟨r, s1, s2, h1, h2, h3⟩ := al_burn (s := s)  hI
  refine lu_st hop 1 (t := (755, Li i, [.ref 0], s)) rfl ?_
  refine lu_call hop (q := 758) (y := 96) (ci := 4) (n := 1) (rest := []) (vs := [.ref 0]) rfl rfl rfl rfl rfl h1 ?_
  refine hsc _ (fun hc1 => ?_)
  refine lu_st hop 1 (t := (759, Li i, [.ref 40, .int r], s1)) rfl ?_
  refine lu_call hop (q := 762) (y := 155) (ci := 5) (n := 1) (rest := [.int r]) (vs := [.ref 40]) rfl rfl rfl rfl rfl h2 ?_
  exact hop _ _ (803, Li i, [], s2) rfl (if_pos rfl) (k s2 h3)
theorem lc_23 (hop : ∀ (f : qOp) (x t : qSt), qTL x.1 = .inr f → f (qCall qMT 10) x = some t → LW t → LW x) (hsc : ∀ x : qSt, (lSc X Ln x.2.2.2 → LW x) → LW x) {i : Nat} {s : qMem} (hI : CINV s) (hc : lSc X Ln s) (hi : i + 4 ≤ Ln) (hL : Ln ≤ 256) (k : ∀ t, CINV t → LW (803, Li i, [], t)) : LW (767, Li i, [], s) := by
  obtain ⟨r, s1, s2, h1, h2, h3⟩ := al_judge (s := s)  hI
  refine lu_st hop 1 (t := (768, Li i, [.ref 0], s)) rfl ?_
  refine lu_call hop (q := 771) (y := 97) (ci := 4) (n := 1) (rest := []) (vs := [.ref 0]) rfl rfl rfl rfl rfl h1 ?_
  refine hsc _ (fun hc1 => ?_)
  refine lu_st hop 1 (t := (772, Li i, [.ref 40, .int r], s1)) rfl ?_
  refine lu_call hop (q := 775) (y := 156) (ci := 5) (n := 1) (rest := [.int r]) (vs := [.ref 40]) rfl rfl rfl rfl rfl h2 ?_
  exact hop _ _ (803, Li i, [], s2) rfl (if_pos rfl) (k s2 h3)
theorem lc_24 (hop : ∀ (f : qOp) (x t : qSt), qTL x.1 = .inr f → f (qCall qMT 10) x = some t → LW t → LW x) (hsc : ∀ x : qSt, (lSc X Ln x.2.2.2 → LW x) → LW x) {i : Nat} {s : qMem} (hI : CINV s) (hc : lSc X Ln s) (hi : i + 4 ≤ Ln) (hL : Ln ≤ 256) (k : ∀ t, CINV t → LW (803, Li i, [], t)) : LW (780, Li i, [], s) := by
  obtain ⟨r, s1, s2, h1, h2, h3⟩ := al_count (s := s) (x := (X (i + 1))) hI
  refine lu_st hop 1 (t := (781, Li i, [.ref 0], s)) rfl ?_
  refine lu_ld hop (q := 786) (j := 1) rfl rfl rfl rfl rfl rfl hc (by omega) hL ?_
  refine lu_call hop (q := 789) (y := 98) (ci := 4) (n := 2) (rest := []) (vs := [.ref 0, .int (X (i + 1))]) rfl rfl rfl rfl rfl h1 ?_
  refine hsc _ (fun hc1 => ?_)
  refine lu_st hop 1 (t := (790, Li i, [.ref 40, .int r], s1)) rfl ?_
  refine lu_ld hop (q := 795) (j := 1) rfl rfl rfl rfl rfl rfl hc1 (by omega) hL ?_
  refine lu_call hop (q := 798) (y := 157) (ci := 5) (n := 2) (rest := [.int r]) (vs := [.ref 40, .int (X (i + 1))]) rfl rfl rfl rfl rfl h2 ?_
  exact hop _ _ (803, Li i, [], s2) rfl (if_pos rfl) (k s2 h3)
theorem law_loop (hop : ∀ (f : qOp) (x t : qSt), qTL x.1 = .inr f → f (qCall qMT 10) x = some t → LW t → LW x) (hsc : ∀ x : qSt, (lSc X Ln x.2.2.2 → LW x) → LW x) (hL : Ln ≤ 256) (hend : ∀ (i : Nat) (s : qMem), LW (810, Li i, [.int 1], s)) : ∀ (n i : Nat) (s : qMem), Ln < i + 4 * n → i ≤ Ln → CINV s → LW (18, Li i, [], s) := by
  intro n
  induction n with
  | zero => intro i s h1 h2; omega
  | succ n ih =>
    intro i s h1 h2 hI
    refine hsc _ (fun hc => ?_)
    have hc : lSc X Ln s := hc
    refine lu_st hop 5 (t := (23, Li i, [.int (s.1 71 0 - 4), .int (nI i)], s)) rfl ?_
    have hgt : s.1 71 0 - 4 < nI i ↔ Ln < i + 4 := by
      rw [hc.2]
      show nI Ln - nI 4 < nI i ↔ _
      rw [Int32.lt_iff_toInt_lt, pk_sub_toInt (by omega) (by omega), nI_toInt (by omega)]
      omega
    by_cases hx : Ln < i + 4
    · refine hop _ _ (809, Li i, [], s) rfl (if_pos (hgt.mpr hx)) ?_
      exact hop _ _ _ rfl rfl (hend i s)
    · refine hop _ _ (26, Li i, [], s) rfl (if_neg (fun z => hx (hgt.mp z))) ?_
      refine lu_ld0 hop hc (by omega) hL ?_
      refine lu_st hop 2 (t := (32, Li i, [.int (X i &&& 31)], s)) rfl ?_
      have next : ∀ t, CINV t → LW (803, Li i, [], t) := fun t ht => by
        refine lu_st hop 2 (t := (18, [some (.ref 70), some (.ref 0), some (.ref 40), some (.int (nI i + 4))], [], t)) rfl ?_
        rw [show nI i + 4 = nI (i + 4) from nI_add i 4]
        exact ih (i + 4) t (by omega) (by omega) ht
      obtain ⟨j, hj, hv⟩ := pk_andE (X i) (m := 31) 5 (by decide)
      rw [hv]
      have hj : j < 32 := hj
      have hjs : j = 0 ∨ j = 1 ∨ j = 2 ∨ j = 3 ∨ j = 4 ∨ j = 5 ∨ j = 6 ∨ j = 7 ∨ j = 8 ∨ j = 9 ∨ j = 10 ∨ j = 11 ∨ j = 12 ∨ j = 13 ∨ j = 14 ∨ j = 15 ∨ j = 16 ∨ j = 17 ∨ j = 18 ∨ j = 19 ∨ j = 20 ∨ j = 21 ∨ j = 22 ∨ j = 23 ∨ j = 24 ∨ j = 25 ∨ j = 26 ∨ j = 27 ∨ j = 28 ∨ j = 29 ∨ j = 30 ∨ j = 31 := by omega
      rcases hjs with h | h | h | h | h | h | h | h | h | h | h | h | h | h | h | h | h | h | h | h | h | h | h | h | h | h | h | h | h | h | h | h
      · subst h
        exact hop _ _ (148, Li i, [], s) rfl rfl (lc_0 hop hsc hI hc (by omega) hL next)
      · subst h
        exact hop _ _ (211, Li i, [], s) rfl rfl (lc_1 hop hsc hI hc (by omega) hL next)
      · subst h
        exact hop _ _ (224, Li i, [], s) rfl rfl (lc_2 hop hsc hI hc (by omega) hL next)
      · subst h
        exact hop _ _ (237, Li i, [], s) rfl rfl (lc_3 hop hsc hI hc (by omega) hL next)
      · subst h
        exact hop _ _ (250, Li i, [], s) rfl rfl (lc_4 hop hsc hI hc (by omega) hL next)
      · subst h
        exact hop _ _ (283, Li i, [], s) rfl rfl (lc_5 hop hsc hI hc (by omega) hL next)
      · subst h
        exact hop _ _ (316, Li i, [], s) rfl rfl (lc_6 hop hsc hI hc (by omega) hL next)
      · subst h
        exact hop _ _ (349, Li i, [], s) rfl rfl (lc_7 hop hsc hI hc (by omega) hL next)
      · subst h
        exact hop _ _ (392, Li i, [], s) rfl rfl (lc_8 hop hsc hI hc (by omega) hL next)
      · subst h
        exact hop _ _ (425, Li i, [], s) rfl rfl (lc_9 hop hsc hI hc (by omega) hL next)
      · subst h
        exact hop _ _ (458, Li i, [], s) rfl rfl (lc_10 hop hsc hI hc (by omega) hL next)
      · subst h
        exact hop _ _ (481, Li i, [], s) rfl rfl (lc_11 hop hsc hI hc (by omega) hL next)
      · subst h
        exact hop _ _ (504, Li i, [], s) rfl rfl (lc_12 hop hsc hI hc (by omega) hL next)
      · subst h
        exact hop _ _ (537, Li i, [], s) rfl rfl (lc_13 hop hsc hI hc (by omega) hL next)
      · subst h
        exact hop _ _ (550, Li i, [], s) rfl rfl (lc_14 hop hsc hI hc (by omega) hL next)
      · subst h
        exact hop _ _ (583, Li i, [], s) rfl rfl (lc_15 hop hsc hI hc (by omega) hL next)
      · subst h
        exact hop _ _ (596, Li i, [], s) rfl rfl (lc_16 hop hsc hI hc (by omega) hL next)
      · subst h
        exact hop _ _ (619, Li i, [], s) rfl rfl (lc_17 hop hsc hI hc (by omega) hL next)
      · subst h
        exact hop _ _ (642, Li i, [], s) rfl rfl (lc_18 hop hsc hI hc (by omega) hL next)
      · subst h
        exact hop _ _ (665, Li i, [], s) rfl rfl (lc_19 hop hsc hI hc (by omega) hL next)
      · subst h
        exact hop _ _ (688, Li i, [], s) rfl rfl (lc_20 hop hsc hI hc (by omega) hL next)
      · subst h
        exact hop _ _ (721, Li i, [], s) rfl rfl (lc_21 hop hsc hI hc (by omega) hL next)
      · subst h
        exact hop _ _ (754, Li i, [], s) rfl rfl (lc_22 hop hsc hI hc (by omega) hL next)
      · subst h
        exact hop _ _ (767, Li i, [], s) rfl rfl (lc_23 hop hsc hI hc (by omega) hL next)
      · subst h
        exact hop _ _ (780, Li i, [], s) rfl rfl (lc_24 hop hsc hI hc (by omega) hL next)
      · subst h
        exact hop _ _ (803, Li i, [], s) rfl rfl (next s hI)
      · subst h
        exact hop _ _ (803, Li i, [], s) rfl rfl (next s hI)
      · subst h
        exact hop _ _ (803, Li i, [], s) rfl rfl (next s hI)
      · subst h
        exact hop _ _ (803, Li i, [], s) rfl rfl (next s hI)
      · subst h
        exact hop _ _ (803, Li i, [], s) rfl rfl (next s hI)
      · subst h
        exact hop _ _ (803, Li i, [], s) rfl rfl (next s hI)
      · subst h
        exact hop _ _ (803, Li i, [], s) rfl rfl (next s hI)
end LAW
