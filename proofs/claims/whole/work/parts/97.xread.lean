/-! the text read to its first fault: as numbers, and by GiantStair -/
def rd1 (B : Nat → Int32) (n l h p : Nat) : Nat ⊕ (Nat × Nat) := match num B n (run isB B p (n - p)) with
  | some v => if l ≤ v ∧ v < h then .inr (v, run isD B (run isB B p (n - p)) (n - run isB B p (n - p))) else .inl (run isB B p (n - p))
  | none => .inl (run isB B p (n - p))
def rdN (B : Nat → Int32) (n : Nat) (lw up : Nat → Nat) : Nat → Nat → Nat → (Nat → Nat) → Nat ⊕ (Nat × (Nat → Nat))
  | 0, _, p, v => .inr (p, v)
  | m + 1, j, p, v => match rd1 B n (lw j) (up j) p with
    | .inl q => .inl q
    | .inr x => rdN B n lw up m (j + 1) x.2 (fUpd v j x.1)
/-- where the word begins, where it ends, which it is -/
def wB0 (B : Nat → Int32) (n p : Nat) : Nat := run isB B p (n - p)
def wE (B : Nat → Int32) (n p : Nat) : Nat := run isL B (wB0 B n p) (n - wB0 B n p)
def wK (B : Nat → Int32) (n p : Nat) : Nat := fW B (wB0 B n p) (wE B n p) 0 10
def rdL (B : Nat → Int32) (n : Nat) (c : Co) (p : Nat) : Nat ⊕ (Nat × (Nat × (Nat → Nat))) :=
  if wK B n p < 10 ∧ (6 ≤ wK B n p → cN c < 5) then
    match rdN B n (lo (wK B n p)) (hi c (wK B n p)) (nbs (wK B n p)) 0 (wE B n p) (fun _ => 0) with
    | .inl q => .inl q
    | .inr x => .inr (x.1, (wK B n p, x.2))
  else .inl (wB0 B n p)
abbrev Ln : Type := Nat × (Nat → Nat)
def rdA (B : Nat → Int32) (n : Nat) : Nat → Co → Nat → Nat ⊕ List Ln
  | 0, _, p => .inl p
  | f + 1, c, p => match rdL B n c p with
    | .inl q => .inl q
    | .inr x => if wB0 B n x.1 = n then .inr [x.2] else if B (wB0 B n x.1) = 59 then (if f = 0 then .inl (wB0 B n x.1) else match rdA B n f (app c x.2.1 x.2.2) (wB0 B n x.1 + 1) with
      | .inl q => .inl q
      | .inr L => .inr (x.2 :: L)) else .inl (wB0 B n x.1)
def apps : Co → List Ln → Co
  | c, [] => c
  | c, x :: L => apps (app c x.1 x.2) L
def lnsOk : Co → List Ln → Prop
  | _, [] => True
  | c, x :: L => lnOk c x.1 x.2 ∧ lnsOk (app c x.1 x.2) L
theorem apps_ok : ∀ (L : List Ln) (c : Co), cOk c → lnsOk c L → cOk (apps c L) := by
  intro L
  induction L with
  | nil => intro c h _; exact h
  | cons x L ih => intro c h h2; exact ih _ (app_ok h x.1 h2.1.1 x.2 h2.1) h2.2
theorem nbs_le : ∀ k, k < 10 → nbs k ≤ 3 := by decide
theorem lo_le : ∀ k, k < 10 → ∀ j, j < 3 → lo k j ≤ 1 := by decide
theorem hi_le {c : Co} (hc : cOk c) {j : Nat} : ∀ k, k < 10 → hi c k j ≤ 100 := by
  obtain ⟨h1, h2, -, -⟩ := hc
  refine k10 ?_ ?_ ?_ ?_ ?_ ?_ ?_
  · show 5 ≤ 100
    omega
  · show (if j = 0 then cTop c else 61) ≤ 100
    split <;> omega
  · show cTop c ≤ 100
    omega
  · show (if j = 0 then cN c else 50) ≤ 100
    split <;> omega
  · show (if j = 0 then cN c else cTop c + 1) ≤ 100
    split <;> omega
  · show (if j = 0 then 31 else if j = 1 then 51 else 100) ≤ 100
    split
    · omega
    · split <;> omega
  · intro m _
    show (if j = 0 then 31 else if j = 1 then 51 else 100) ≤ 100
    split
    · omega
    · split <;> omega
theorem m1_lt {k : Nat} (h : k < 2 ^ 31) : (-1 : Int32) < nI k := by
  rw [Int32.lt_iff_toInt_lt, nI_toInt h]
  have : (-1 : Int32).toInt = -1 := by decide
  omega
theorem RT_ag {s s2 : qMem} {t : Nat} {c : Co} (h : ∀ o j, t ≤ o → o ≤ t + 8 → s2.1 o j = s.1 o j) (hR : RT s t c) : RT s2 t c := by
  obtain ⟨a1, a2, a3, a4⟩ := hR
  refine ⟨by rw [h _ _ (by omega) (by omega)]; exact a1, by rw [h _ _ (by omega) (by omega)]; exact a2, fun i hi => ?_, fun p hp => ?_⟩
  · rw [h _ _ (by omega) (by omega), h _ _ (by omega) (by omega)]
    exact a3 i hi
  · rw [h _ _ (by omega) (by omega), h _ _ (by omega) (by omega), h _ _ (by omega) (by omega), h _ _ (by omega) (by omega), h _ _ (by omega) (by omega), h _ _ (by omega) (by omega)]
    exact a4 p hp
def FRX (s s2 : qMem) : Prop := (∀ o j, ¬ (10 ≤ o ∧ o ≤ 18) → ¬ (o = 19 ∧ (j = 2 ∨ j = 3)) → o ≠ 21 → s2.1 o j = s.1 o j) ∧ s2.2 = s.2
theorem FRX.rf {s : qMem} : FRX s s := ⟨fun _ _ _ _ _ => rfl, rfl⟩
theorem FRX.tr {s s2 s3 : qMem} (h : FRX s s2) (h2 : FRX s2 s3) : FRX s s3 := ⟨fun o k q1 q2 q3 => (h2.1 o k q1 q2 q3).trans (h.1 o k q1 q2 q3), h2.2.trans h.2⟩
theorem F19.x {s s2 : qMem} (h : F19 s s2) : FRX s s2 := ⟨fun o j _ h2 _ => h.1 o j (fun z => h2 ⟨z.1, Or.inr z.2⟩), h.2⟩
theorem FT.x {s s2 : qMem} (h : FT s s2) : FRX s s2 := ⟨fun o j h1 _ _ => h.1 o j h1, h.2⟩
theorem FRX.w21 {s : qMem} {j : Nat} {v : Int32} : FRX s (qW s 21 j v) := ⟨fun _ _ _ _ h => q_rw_o h, rfl⟩
section XREAD
variable {d n : Nat} {c : Co} {B : Nat → Int32}
theorem x_rd1 {k j p : Nat} {s : qMem} (hn : n ≤ 200) (hk : k < 10) (hj : j < nbs k) (h1 : s.1 19 1 = nI n) (h3 : s.1 19 3 = nI p) (hp : p ≤ n) (hR : RT s 10 c) (hc : cOk c) (hB : s.1 20 = B) : ∃ s3, F19 s s3 ∧ (∀ q, rd1 B n (lo k j) (hi c k j) p = .inl q → l_X_readLine_1 (d + 3) (nI k) (nI (nbs k)) (nI j) s = some (nI q, s3)) ∧ ∀ x, rd1 B n (lo k j) (hi c k j) p = .inr x → s3.1 19 3 = nI x.2 ∧ x.2 ≤ n ∧ (lo k j ≤ x.1 ∧ x.1 < hi c k j) ∧ l_X_readLine_1 (d + 3) (nI k) (nI (nbs k)) (nI j) s = l_X_readLine_1 (d + 3) (nI k) (nI (nbs k)) (nI (j + 1)) (qW s3 21 j (nI x.1)) := by
  subst hB
  have hb3 := nbs_le k hk
  have hl := lo_le k hk j (by omega)
  have hh := hi_le hc (j := j) k hk
  obtain ⟨s2, g1, g2, g3⟩ := x_skip (d := d + 1) hn h1 h3 hp
  have hr := run_le (f := isB) (B := s.1 20) (n - p) p
  have a1 : s2.1 19 1 = nI n := by rw [g3.1 _ _ (by omega)]; exact h1
  have e20 : s2.1 20 = s.1 20 := funext (fun j => g3.1 20 j (by omega))
  obtain ⟨s3, j1, j2, j3⟩ := x_numb (d := d + 1) hn a1 g2 (by omega)
  rw [e20] at j1 j2
  have F := g3.tr j3
  have hR3 : RT s3 10 c := RT_ag (fun o j h1 h2 => F.1 o j (by omega)) hR
  have n3 : ¬ (3 : Int32) ≤ nI j := by
    show ¬ nI 3 ≤ nI j
    rw [nI_leI (by omega) (by omega)]
    omega
  have i3 : qIn (nI j) 3 := qIn_n (by omega) (by omega)
  have hr2 := run_le (f := isD) (B := s.1 20) (n - run isB (s.1 20) p (n - p)) (run isB (s.1 20) p (n - p))
  have step : l_X_readLine_1 (d + 3) (nI k) (nI (nbs k)) (nI j) s = (if oI (num (s.1 20) n (run isB (s.1 20) p (n - p))) < nI (lo k j) then some (nI (run isB (s.1 20) p (n - p)), s3) else if oI (num (s.1 20) n (run isB (s.1 20) p (n - p))) ≤ dI (hi c k j) then l_X_readLine_1 (d + 3) (nI k) (nI (nbs k)) (nI (j + 1)) (qW s3 21 j (oI (num (s.1 20) n (run isB (s.1 20) p (n - p))))) else some (nI (run isB (s.1 20) p (n - p)), s3)) := by
    rw [el_X_readLine_1, if_neg (by rw [nI_leI (by omega) (by omega)]; omega), if_neg n3, g1, sm_some, j1, sm_some]
    dsimp only
    rw [t_least (by omega) k hk, sm_some]
    dsimp only
    rw [t_great hR3 (by omega) k hk, sm_some]
    dsimp only
    rw [g2, if_pos i3, nI_cl (by omega), nI_1]
  refine ⟨s3, F, fun q hq => ?_, fun x hx => ?_⟩
  · rw [step]
    unfold rd1 at hq
    cases hnum : num (s.1 20) n (run isB (s.1 20) p (n - p)) with
    | none =>
      rw [hnum] at hq
      cases hq
      rw [if_pos (show oI none < nI (lo k j) from m1_lt (by omega))]
    | some v =>
      rw [hnum] at hq
      have hv := num_le hnum
      simp only at hq
      by_cases z : lo k j ≤ v ∧ v < hi c k j
      · rw [if_pos z] at hq
        cases hq
      · rw [if_neg z] at hq
        cases hq
        show (if nI v < nI (lo k j) then _ else if nI v ≤ dI (hi c k j) then _ else _) = _
        by_cases y : v < lo k j
        · rw [if_pos ((nI_ltI (by omega) (by omega)).mpr y)]
        · rw [if_neg (fun w => y ((nI_ltI (by omega) (by omega)).mp w)), if_neg (by rw [dI_le (by omega) (by omega)]; omega)]
  · rw [step]
    unfold rd1 at hx
    cases hnum : num (s.1 20) n (run isB (s.1 20) p (n - p)) with
    | none =>
      rw [hnum] at hx
      cases hx
    | some v =>
      rw [hnum] at hx
      have hv := num_le hnum
      simp only at hx
      by_cases z : lo k j ≤ v ∧ v < hi c k j
      · rw [if_pos z] at hx
        cases hx
        refine ⟨j2, by show run isD (s.1 20) _ _ ≤ n; omega, z, ?_⟩
        show (if nI v < nI (lo k j) then _ else if nI v ≤ dI (hi c k j) then _ else _) = _
        rw [if_neg (by rw [nI_ltI (by omega) (by omega)]; omega), if_pos (by rw [dI_le (by omega) (by omega)]; omega)]
        rfl
      · rw [if_neg z] at hx
        cases hx
theorem x_rdN (hn : n ≤ 200) {k : Nat} (hk : k < 10) (hc : cOk c) (h6 : 6 ≤ k → cN c < 5) : ∀ (m j p : Nat) (v : Nat → Nat) (s : qMem), j + m = nbs k → s.1 19 1 = nI n → s.1 19 3 = nI p → p ≤ n → RT s 10 c → s.1 20 = B → (∀ i, i < j → s.1 21 i = nI (v i) ∧ lo k i ≤ v i ∧ v i < hi c k i) → (∀ q, rdN B n (lo k) (hi c k) m j p v = .inl q → ∃ s2, l_X_readLine_1 (d + 3) (nI k) (nI (nbs k)) (nI j) s = some (nI q, s2) ∧ FRX s s2 ∧ q ≤ n) ∧ ∀ x, rdN B n (lo k) (hi c k) m j p v = .inr x → ∃ s2, l_X_readLine_1 (d + 3) (nI k) (nI (nbs k)) (nI j) s = some (-1, s2) ∧ FRX s s2 ∧ RT s2 10 (app c k x.2) ∧ s2.1 19 3 = nI x.1 ∧ x.1 ≤ n ∧ lnOk c k x.2 := by
  have hb3 := nbs_le k hk
  intro m
  induction m with
  | zero =>
    intro j p v s hj h1 h3 hp hR hB hv
    refine ⟨(fun q hq => by cases hq), fun x hx => ?_⟩
    cases hx
    have hl : lnOk c k v := ⟨hk, h6, fun i hi => (hv i (by omega)).2⟩
    obtain ⟨s2, g1, g2, g3⟩ := t_tell (d := d + 1) hR hc k hk hl (s.1 21 0) (s.1 21 1) (s.1 21 2) (fun h => (hv 0 (by omega)).1) (fun h => (hv 1 (by omega)).1) (fun h => (hv 2 (by omega)).1)
    refine ⟨s2, ?_, g3.x, g2, ?_, hp, hl⟩
    · rw [el_X_readLine_1, if_pos (nI_le (by omega) (by omega)), g1, sm_some]
    · rw [g3.1 _ _ (by omega)]
      exact h3
  | succ m ih =>
    intro j p v s hj h1 h3 hp hR hB hv
    obtain ⟨s3, f, a, b⟩ := x_rd1 (d := d) (j := j) hn hk (by omega) h1 h3 hp hR hc hB
    rw [rdN]
    cases hr : rd1 B n (lo k j) (hi c k j) p with
    | inl q =>
      refine ⟨fun q2 hq => ?_, fun x hx => by cases hx⟩
      cases hq
      refine ⟨s3, a q hr, f.x, ?_⟩
      have hr0 := run_le (f := isB) (B := B) (n - p) p
      unfold rd1 at hr
      cases hnum : num B n (run isB B p (n - p)) with
      | none =>
        rw [hnum] at hr
        cases hr
        omega
      | some w =>
        rw [hnum] at hr
        simp only at hr
        by_cases z : lo k j ≤ w ∧ w < hi c k j
        · rw [if_pos z] at hr
          cases hr
        · rw [if_neg z] at hr
          cases hr
          omega
    | inr x =>
      obtain ⟨b1, b2, b3, b4⟩ := b x hr
      have G : FRX s (qW s3 21 j (nI x.1)) := f.x.tr FRX.w21
      have := ih (j + 1) x.2 (fUpd v j x.1) (qW s3 21 j (nI x.1)) (by omega) (by rw [q_rw_o (by decide), f.1 _ _ (by omega)]; exact h1) (by rw [q_rw_o (by decide)]; exact b1) b2 (RT_ag (fun o i h1 h2 => by rw [q_rw_o (by omega), f.1 _ _ (by omega)]) hR) (by rw [← hB]; exact funext (fun i => by rw [q_rw_o (by decide), f.1 _ _ (by omega)])) (fun i hi => by
        by_cases z : i = j
        · subst z
          rw [q_rw, fUpd_s]
          exact ⟨rfl, b3⟩
        · rw [q_rw_k z, fUpd_n z, f.1 _ _ (by omega)]
          exact hv i (by omega))
      refine ⟨fun q hq => ?_, fun y hy => ?_⟩
      · obtain ⟨s2, t1, t2, t3⟩ := this.1 q hq
        exact ⟨s2, b4.trans t1, G.tr t2, t3⟩
      · obtain ⟨s2, t1, t2, t3⟩ := this.2 y hy
        exact ⟨s2, b4.trans t1, G.tr t2, t3⟩
theorem x_line {p : Nat} {s : qMem} (hn : n ≤ 200) (hc : cOk c) (h1 : s.1 19 1 = nI n) (h3 : s.1 19 3 = nI p) (hp : p ≤ n) (hR : RT s 10 c) (hB : s.1 20 = B) : (∀ q, rdL B n c p = .inl q → ∃ s2, m_X_readLine (d + 7) s = some (nI q, s2) ∧ FRX s s2 ∧ q ≤ n) ∧ ∀ x, rdL B n c p = .inr x → ∃ s2, m_X_readLine (d + 7) s = some (-1, s2) ∧ FRX s s2 ∧ RT s2 10 (app c x.2.1 x.2.2) ∧ s2.1 19 3 = nI x.1 ∧ x.1 ≤ n ∧ lnOk c x.2.1 x.2.2 := by
  subst hB
  obtain ⟨s2, g1, g2, g3⟩ := x_skip (d := d + 4) hn h1 h3 hp
  have hr := run_le (f := isB) (B := s.1 20) (n - p) p
  have a1 : s2.1 19 1 = nI n := by rw [g3.1 _ _ (by omega)]; exact h1
  have e20 : s2.1 20 = s.1 20 := funext (fun j => g3.1 20 j (by omega))
  obtain ⟨s3, j1, j2, j3⟩ := x_word (d := d) hn a1 g2 (by omega)
  rw [e20] at j1 j2
  have F := g3.tr j3
  have hR3 : RT s3 10 c := RT_ag (fun o j h1 h2 => F.1 o j (by omega)) hR
  have h10 := (fW_lt (B := s.1 20) (b := wB0 (s.1 20) n p) (e := wE (s.1 20) n p) 10 0 rfl).1
  have hr2 := run_le (f := isL) (B := s.1 20) (n - wB0 (s.1 20) n p) (wB0 (s.1 20) n p)
  have hw0 : wB0 (s.1 20) n p = run isB (s.1 20) p (n - p) := rfl
  have al : m_T_allows (d + 6) (wdI (wK (s.1 20) n p)) s3 = some (b2i (decide (wK (s.1 20) n p < 10 ∧ (6 ≤ wK (s.1 20) n p → cN c < 5))), s3) := t_allows (d := d + 5) hR3 hc h10
  have j1' : m_X_readWord (d + 6) s2 = some (wdI (wK (s.1 20) n p), s3) := j1
  have step : m_X_readLine (d + 7) s = (if b2i (decide (wK (s.1 20) n p < 10 ∧ (6 ≤ wK (s.1 20) n p → cN c < 5))) = 0 then some (nI (wB0 (s.1 20) n p), s3) else (m_T_numbersBehind (d + 6) (wdI (wK (s.1 20) n p)) s3).bind (fun q4 => (l_X_readLine_1 (d + 6) (wdI (wK (s.1 20) n p)) q4.1 0 q4.2))) := by
    rw [e_X_readLine, g1, sm_some, j1', sm_some]
    dsimp only
    rw [al, sm_some]
    dsimp only
    rw [g2]
    rfl
  unfold rdL
  by_cases z : wK (s.1 20) n p < 10 ∧ (6 ≤ wK (s.1 20) n p → cN c < 5)
  · rw [decide_eq_true z, bt0] at step
    rw [if_pos z]
    generalize hk : wK (s.1 20) n p = k at *
    have e : wdI k = nI k := if_pos z.1
    rw [e, t_numb k z.1, sm_some] at step
    have main := x_rdN (d := d + 3) (B := s.1 20) hn z.1 hc z.2 (nbs k) 0 (wE (s.1 20) n p) (fun _ => 0) s3 (by omega) (by rw [F.1 _ _ (by omega)]; exact h1) j2 (by show run isL (s.1 20) _ _ ≤ n; omega) hR3 (funext (fun i => F.1 _ _ (by omega))) (fun i hi => absurd hi (Nat.not_lt_zero _))
    cases hN : rdN (s.1 20) n (lo k) (hi c k) (nbs k) 0 (wE (s.1 20) n p) (fun _ => 0) with
    | inl q =>
      refine ⟨fun q2 hq => ?_, fun x hx => by cases hx⟩
      cases hq
      obtain ⟨s4, t1, t2, t3⟩ := main.1 q hN
      exact ⟨s4, step.trans t1, F.x.tr t2, t3⟩
    | inr x =>
      refine ⟨(fun q2 hq => by cases hq), fun y hy => ?_⟩
      cases hy
      obtain ⟨s4, t1, t2, t3, t4, t5, t6⟩ := main.2 x hN
      exact ⟨s4, step.trans t1, F.x.tr t2, t3, t4, t5, t6⟩
  · rw [decide_eq_false z, bf0] at step
    rw [if_neg z]
    refine ⟨fun q hq => ?_, fun x hx => by cases hx⟩
    cases hq
    exact ⟨s3, step, F.x, by show run isB (s.1 20) _ _ ≤ n; omega⟩
theorem x_read1 (hn : n ≤ 200) : ∀ (f x p : Nat) (c : Co) (s : qMem), x + f = 13 → cOk c → s.1 19 1 = nI n → s.1 19 3 = nI p → p ≤ n → RT s 10 c → s.1 20 = B → (∀ q, rdA B n f c p = .inl q → ∃ s2, l_X_read_1 (d + 7) (nI x) s = some (nI q, s2) ∧ FRX s s2 ∧ q ≤ n) ∧ ∀ L, rdA B n f c p = .inr L → ∃ s2, l_X_read_1 (d + 7) (nI x) s = some (-1, s2) ∧ FRX s s2 ∧ RT s2 10 (apps c L) ∧ lnsOk c L ∧ s2.1 19 2 = nI (x + L.length - 1) ∧ 1 ≤ L.length ∧ L.length ≤ f := by
  intro f
  induction f with
  | zero =>
    intro x p c s hx hc h1 h3 hp hR hB
    refine ⟨fun q hq => ?_, fun L hL => by cases hL⟩
    cases hq
    have : x = 13 := by omega
    subst this
    exact ⟨s, by rw [el_X_read_1, if_pos (show (12 : Int32) < nI 13 from by decide), h3], FRX.rf, hp⟩
  | succ f ih =>
    intro x p c s hx hc h1 h3 hp hR hB
    have n12 : ¬ (12 : Int32) < nI x := by
      show ¬ nI 12 < nI x
      rw [nI_ltI (by omega) (by omega)]
      omega
    have main := x_line (d := d) (n := n) hn hc h1 h3 hp hR hB
    rw [el_X_read_1, if_neg n12, rdA]
    cases hr : rdL B n c p with
    | inl q =>
      refine ⟨fun q2 hq => ?_, fun x hx => by cases hx⟩
      cases hq
      obtain ⟨s2, t1, t2, t3⟩ := main.1 q hr
      exact ⟨s2, by rw [t1, sm_some]; dsimp only; rw [if_neg (nI_m1 (by omega))], t2, t3⟩
    | inr y =>
      obtain ⟨s2, t1, t2, t3, t4, t5, t6⟩ := main.2 y hr
      rw [t1, sm_some]
      dsimp only
      rw [if_pos rfl]
      have F2 : FRX s (qW s2 19 2 (nI x)) := t2.tr ⟨fun o j _ h _ => by rw [q_rw_if, if_neg (fun z => h ⟨z.1, Or.inl z.2⟩)], rfl⟩
      have e1 : (qW s2 19 2 (nI x)).1 19 1 = nI n := by rw [F2.1 _ _ (by omega) (by omega) (by omega)]; exact h1
      obtain ⟨s3, g1, g2, g3⟩ := x_skip (d := d + 5) (s := qW s2 19 2 (nI x)) (p := y.1) hn e1 (by rw [q_rw_k (by decide)]; exact t4) t5
      have e20 : (qW s2 19 2 (nI x)).1 20 = B := by
        rw [← hB]
        exact funext (fun j => F2.1 20 j (by omega) (by omega) (by omega))
      rw [e20] at g2
      have F3 : FRX s s3 := F2.tr g3.x
      have hr0 := run_le (f := isB) (B := B) (n - y.1) y.1
      have a1 : s3.1 19 1 = nI n := by rw [F3.1 _ _ (by omega) (by omega) (by omega)]; exact h1
      have a2 : s3.1 19 2 = nI x := by rw [g3.1 _ _ (by omega), q_rw]
      have a20 : s3.1 20 = B := by
        rw [← hB]
        exact funext (fun j => F3.1 20 j (by omega) (by omega) (by omega))
      have hR3 : RT s3 10 (app c y.2.1 y.2.2) := RT_ag (fun o j h1 h2 => by rw [g3.1 _ _ (by omega), q_rw_o (by omega)]) t3
      have hc2 := app_ok hc y.2.1 t6.1 y.2.2 t6
      rw [g1, sm_some, g2, a1]
      have hw : wB0 B n y.1 = run isB B y.1 (n - y.1) := rfl
      rw [← hw] at g2 hr0 ⊢
      by_cases z : wB0 B n y.1 = n
      · rw [if_pos z, if_neg (by rw [nI_ltI (by omega) (by omega)]; omega)]
        refine ⟨(fun q hq => by cases hq), fun L hL => ?_⟩
        cases hL
        exact ⟨s3, rfl, F3, hR3, ⟨t6, trivial⟩, by rw [a2]; rfl, Nat.le_refl _, by show 1 ≤ f + 1; omega⟩
      · rw [if_neg z, if_pos ((nI_ltI (by omega) (by omega)).mpr (by omega)), x_sign hn a1 g2 (by omega), sm_some]
        dsimp only
        rw [a20]
        by_cases w : B (wB0 B n y.1) = 59
        · rw [if_pos w, if_pos w]
          by_cases f0 : f = 0
          · subst f0
            have : x = 12 := by omega
            subst this
            rw [if_pos rfl, if_pos (show (12 : Int32) ≤ nI 12 from by decide), nI_1]
            refine ⟨fun q hq => ?_, fun L hL => by cases hL⟩
            cases hq
            exact ⟨s3, by rw [el_X_read_1, if_pos (show (12 : Int32) < nI (12 + 1) from by decide), g2], F3, by omega⟩
          · have n12b : ¬ (12 : Int32) ≤ nI x := by
              show ¬ nI 12 ≤ nI x
              rw [nI_leI (by omega) (by omega)]
              omega
            rw [if_neg f0, if_neg n12b, g2, nI_1, nI_1]
            have F4 : FRX s (qW s3 19 3 (nI (wB0 B n y.1 + 1))) := F3.tr F19.w.x
            have rcr := ih (x + 1) (wB0 B n y.1 + 1) (app c y.2.1 y.2.2) (qW s3 19 3 (nI (wB0 B n y.1 + 1))) (by omega) hc2 (by rw [q_rw_k (by decide)]; exact a1) q_rw (by omega) (RT_ag (fun o j h1 h2 => q_rw_o (by omega)) hR3) (by rw [← a20]; exact funext (fun j => q_rw_o (by decide)))
            cases hA : rdA B n f (app c y.2.1 y.2.2) (wB0 B n y.1 + 1) with
            | inl q =>
              refine ⟨fun q2 hq => ?_, fun L hL => by cases hL⟩
              cases hq
              obtain ⟨s4, u1, u2, u3⟩ := rcr.1 q hA
              exact ⟨s4, u1, F4.tr u2, u3⟩
            | inr L =>
              refine ⟨(fun q2 hq => by cases hq), fun L2 hL => ?_⟩
              cases hL
              obtain ⟨s4, u1, u2, u3, u4, u5, u6, u7⟩ := rcr.2 L hA
              refine ⟨s4, u1, F4.tr u2, u3, ⟨t6, u4⟩, ?_, ?_, ?_⟩
              · rw [u5]
                exact congrArg nI (by show x + 1 + L.length - 1 = x + (L.length + 1) - 1; omega)
              · show 1 ≤ L.length + 1
                omega
              · show L.length + 1 ≤ f + 1
                omega
        · rw [if_neg w, if_neg w]
          refine ⟨fun q hq => ?_, fun L hL => by cases hL⟩
          cases hq
          exact ⟨s3, by rw [g2], F3, by omega⟩
theorem x_read {s : qMem} (hn : n ≤ 200) (hc : cOk c) (h1 : s.1 19 1 = nI n) (hR : RT s 10 c) (hB : s.1 20 = B) : (∀ q, rdA B n 12 c 0 = .inl q → ∃ s2, m_X_read (d + 8) s = some (nI q, s2) ∧ FRX s s2 ∧ q ≤ n) ∧ ∀ L, rdA B n 12 c 0 = .inr L → ∃ s2, m_X_read (d + 8) s = some (-1, s2) ∧ FRX s s2 ∧ RT s2 10 (apps c L) ∧ lnsOk c L ∧ s2.1 19 2 = nI L.length ∧ 1 ≤ L.length ∧ L.length ≤ 12 := by
  have F : FRX s (qW (qW s 19 3 0) 19 2 0) := F19.w.x.tr ⟨fun o j _ h _ => by rw [q_rw_if, if_neg (fun z => h ⟨z.1, Or.inl z.2⟩)], rfl⟩
  have main := x_read1 (d := d) (n := n) (B := B) hn 12 1 0 c (qW (qW s 19 3 0) 19 2 0) rfl hc (by rw [F.1 _ _ (by omega) (by omega) (by omega)]; exact h1) (by rw [q_rw_k (by decide), q_rw]; rfl) (Nat.zero_le _) (RT_ag (fun o j h1 h2 => by rw [q_rw_o (by omega), q_rw_o (by omega)]) hR) (by rw [← hB]; exact funext (fun j => F.1 20 j (by omega) (by omega) (by omega)))
  refine ⟨fun q hq => ?_, fun L hL => ?_⟩
  · obtain ⟨s2, u1, u2, u3⟩ := main.1 q hq
    exact ⟨s2, by rw [e_X_read]; exact u1, F.tr u2, u3⟩
  · obtain ⟨s2, u1, u2, u3, u4, u5, u6⟩ := main.2 L hL
    exact ⟨s2, by rw [e_X_read]; exact u1, F.tr u2, u3, u4, by rw [u5]; exact congrArg nI (by omega), u6⟩
end XREAD
