/-! fault and stair by both -/
section AGREE
variable {B C : Nat → Int32} {n : Nat}
theorem run_ag {f : Int32 → Bool} (h : ∀ i, i < n → B i = C i) : ∀ (m q : Nat), q + m ≤ n → run f B q m = run f C q m := by
  intro m
  induction m with
  | zero => intro q _; rfl
  | succ m ih =>
    intro q hq
    rw [run, run, h q (by omega), ih (q + 1) (by omega)]
theorem spl_ag {b k : Nat} (h : ∀ i, i < n → B i = C i) : ∀ (q i : Nat), b + i + q ≤ n → spl B b k i q = spl C b k i q := by
  intro q
  induction q with
  | zero => intro i _; rfl
  | succ q ih =>
    intro i hi
    rw [spl, spl, h (b + i) (by omega), ih (i + 1) (by omega)]
theorem isW_ag {b e k : Nat} (h : ∀ i, i < n → B i = C i) (he : e ≤ n) : isW B b e k = isW C b e k := by
  unfold isW
  by_cases z : e = b + qTn k
  · rw [decide_eq_true z, spl_ag h (qTn k) 0 (by omega)]
  · rw [decide_eq_false z]
    rfl
theorem fW_ag {b e : Nat} (h : ∀ i, i < n → B i = C i) (he : e ≤ n) : ∀ (q k : Nat), fW B b e k q = fW C b e k q := by
  intro q
  induction q with
  | zero => intro k; rfl
  | succ q ih =>
    intro k
    rw [fW, fW, isW_ag h he, ih (k + 1)]
theorem num_ag {q : Nat} (h : ∀ i, i < n → B i = C i) (hq : q ≤ n) : num B n q = num C n q := by
  have hr := run_le (f := isD) (B := C) (n - q) q
  unfold num
  rw [run_ag h (n - q) q (by omega)]
  by_cases z : run isD C q (n - q) = q + 1
  · rw [if_pos z, if_pos z, h q (by omega)]
  · rw [if_neg z, if_neg z]
    by_cases y : run isD C q (n - q) = q + 2
    · rw [if_pos y, if_pos y, h q (by omega), h (q + 1) (by omega)]
    · rw [if_neg y, if_neg y]
theorem rd1_ag {l u p : Nat} (h : ∀ i, i < n → B i = C i) (hp : p ≤ n) : rd1 B n l u p = rd1 C n l u p := by
  have hr := run_le (f := isB) (B := C) (n - p) p
  unfold rd1
  rw [run_ag h (n - p) p (by omega), num_ag h (by omega), run_ag (f := isD) h (n - run isB C p (n - p)) (run isB C p (n - p)) (by omega)]
theorem rd1_le {l u p : Nat} {x : Nat × Nat} (hp : p ≤ n) (hr : rd1 B n l u p = .inr x) : x.2 ≤ n := by
  have h1 := run_le (f := isB) (B := B) (n - p) p
  have h2 := run_le (f := isD) (B := B) (n - run isB B p (n - p)) (run isB B p (n - p))
  unfold rd1 at hr
  cases hnum : num B n (run isB B p (n - p)) with
  | none =>
    rw [hnum] at hr
    cases hr
  | some w =>
    rw [hnum] at hr
    simp only at hr
    by_cases z : l ≤ w ∧ w < u
    · rw [if_pos z] at hr
      cases hr
      show run isD B _ _ ≤ n
      omega
    · rw [if_neg z] at hr
      cases hr
theorem rdN_ag {lw up : Nat → Nat} (h : ∀ i, i < n → B i = C i) : ∀ (m j p : Nat) (v : Nat → Nat), p ≤ n → rdN B n lw up m j p v = rdN C n lw up m j p v ∧ ∀ x, rdN C n lw up m j p v = .inr x → x.1 ≤ n := by
  intro m
  induction m with
  | zero => intro j p v hp; exact ⟨rfl, fun x hx => by cases hx; exact hp⟩
  | succ m ih =>
    intro j p v hp
    rw [rdN, rdN, rd1_ag h hp]
    cases hr : rd1 C n (lw j) (up j) p with
    | inl q => exact ⟨rfl, fun x hx => by cases hx⟩
    | inr y => exact ih (j + 1) y.2 (fUpd v j y.1) (rd1_le hp hr)
theorem rdL_ag {c : Co} {p : Nat} (h : ∀ i, i < n → B i = C i) (hp : p ≤ n) : rdL B n c p = rdL C n c p ∧ ∀ x, rdL C n c p = .inr x → x.1 ≤ n := by
  have h1 := run_le (f := isB) (B := C) (n - p) p
  have e1 : wB0 B n p = wB0 C n p := run_ag h (n - p) p (by omega)
  have hw : wB0 C n p ≤ n := by show run isB _ _ _ ≤ n; omega
  have e2 : wE B n p = wE C n p := by
    unfold wE
    rw [e1]
    exact run_ag h (n - wB0 C n p) (wB0 C n p) (by omega)
  have h2 := run_le (f := isL) (B := C) (n - wB0 C n p) (wB0 C n p)
  have hE : wE C n p ≤ n := by show run isL _ _ _ ≤ n; omega
  have e3 : wK B n p = wK C n p := by
    unfold wK
    rw [e1, e2]
    exact fW_ag h hE 10 0
  unfold rdL
  rw [e1, e2, e3]
  obtain ⟨g1, g2⟩ := rdN_ag (lw := lo (wK C n p)) (up := hi c (wK C n p)) h (nbs (wK C n p)) 0 (wE C n p) (fun _ => 0) hE
  by_cases z : wK C n p < 10 ∧ (6 ≤ wK C n p → cN c < 5)
  · rw [if_pos z, if_pos z, g1]
    cases hN : rdN C n (lo (wK C n p)) (hi c (wK C n p)) (nbs (wK C n p)) 0 (wE C n p) (fun _ => 0) with
    | inl q => exact ⟨rfl, fun x hx => by cases hx⟩
    | inr y => exact ⟨rfl, fun x hx => by cases hx; exact g2 y hN⟩
  · rw [if_neg z, if_neg z]
    exact ⟨rfl, fun x hx => by cases hx⟩
theorem rdA_ag (h : ∀ i, i < n → B i = C i) : ∀ (f : Nat) (c : Co) (p : Nat), p ≤ n → rdA B n f c p = rdA C n f c p := by
  intro f
  induction f with
  | zero => intro c p _; rfl
  | succ f ih =>
    intro c p hp
    obtain ⟨g1, g2⟩ := rdL_ag (c := c) h hp
    rw [rdA, rdA, g1]
    cases hr : rdL C n c p with
    | inl q => rfl
    | inr x =>
      have hx := g2 x hr
      have h1 := run_le (f := isB) (B := C) (n - x.1) x.1
      have e1 : wB0 B n x.1 = wB0 C n x.1 := run_ag h (n - x.1) x.1 (by omega)
      have hw : wB0 C n x.1 ≤ n := by show run isB _ _ _ ≤ n; omega
      show (if wB0 B n x.1 = n then _ else if B (wB0 B n x.1) = 59 then _ else _) = (if wB0 C n x.1 = n then _ else if C (wB0 C n x.1) = 59 then _ else _)
      rw [e1]
      by_cases z : wB0 C n x.1 = n
      · rw [if_pos z, if_pos z]
      · rw [if_neg z, if_neg z, h (wB0 C n x.1) (by omega), ih (app c x.2.1 x.2.2) (wB0 C n x.1 + 1) (by omega)]
end AGREE
section STAIR
variable {d : Nat} {c : Co} {lv : Nat → Nat}
theorem m_isRead {n : Nat} {s : qMem} (hn : n ≤ 200) (hc : cOk c) (hR : RM s c) (h5 : s.1 40 5 = nI n) : ∃ s2, FRD 0 s s2 ∧ ((∃ q, rdA (s.1 43) n 12 c 0 = .inl q ∧ m_M_isRead (d + 6) s = some (0, s2) ∧ s2.1 40 12 = nI q) ∨ ∃ L, rdA (s.1 43) n 12 c 0 = .inr L ∧ m_M_isRead (d + 6) s = some (1, s2) ∧ s2.1 40 13 = nI L.length ∧ stored s2 0 L) := by
  generalize hs0 : qW (qW (qW (qW s 40 7 0) 40 13 0) 40 14 (s.1 40 0)) 40 15 (s.1 40 3) = s0
  have F : FRD 0 s s0 := by
    rw [← hs0]
    exact (FRD.w (by omega)).tr ((FRD.w (by omega)).tr ((FRD.w (by omega)).tr (FRD.w (by omega))))
  have eB : s0.1 43 = s.1 43 := funext (fun i => F _ _ (by omega) (by omega))
  obtain ⟨s2, g1, g2⟩ := m_read1 (d := d) (B := s.1 43) hn 11 0 0 c s0 rfl hc (Nat.zero_le _) (by rw [F _ _ (by omega) (by omega)]; exact h5) (by rw [← hs0, q_rw_k (by decide), q_rw_k (by decide), q_rw_k (by decide), q_rw]; rfl) (by rw [← hs0, q_rw_k (by decide), q_rw_k (by decide), q_rw]; rfl) (by rw [← hs0, q_rw_k (by decide), q_rw]; exact hR.1) (by rw [← hs0, q_rw]; exact hR.2.1) eB
  refine ⟨s2, F.tr g1, ?_⟩
  rw [e_M_isRead, hs0]
  rcases g2 with ⟨q, u1, u2, u3⟩ | ⟨L, u1, u2, u3, u4⟩
  · exact Or.inl ⟨q, u1, u2, u3⟩
  · exact Or.inr ⟨L, u1, u2, by rw [u3, Nat.zero_add], u4⟩
/-- the draft is made like what is told, the text is read on it -/
theorem g_try {n : Nat} {s : qMem} (hn : n ≤ 200) (hc : cOk c) (hR : RT s 1 c) (h1 : s.1 19 1 = nI n) : ∃ s1, m_T_copy (d + 8) 10 1 s = some s1 ∧ (∀ q, rdA (s.1 20) n 12 c 0 = .inl q → ∃ s2, m_X_read (d + 8) s1 = some (nI q, s2) ∧ FRX s s2 ∧ q ≤ n) ∧ ∀ L, rdA (s.1 20) n 12 c 0 = .inr L → ∃ s2, m_X_read (d + 8) s1 = some (-1, s2) ∧ FRX s s2 ∧ RT s2 10 (apps c L) ∧ lnsOk c L ∧ s2.1 19 2 = nI L.length ∧ 1 ≤ L.length ∧ L.length ≤ 12 := by
  obtain ⟨s1, g1, g2, g3, g4⟩ := t_copy (d := d + 6) (t := 10) (o := 1) (Or.inr ⟨rfl, rfl⟩) hc hR
  have F : FRX s s1 := ⟨fun o j h _ _ => g3 o j h, g4⟩
  obtain ⟨r1, r2⟩ := x_read (d := d) (B := s.1 20) hn hc (by rw [g3 _ _ (by omega)]; exact h1) g2 (funext (fun i => g3 _ _ (by omega)))
  refine ⟨s1, g1, fun q hq => ?_, fun L hL => ?_⟩
  · obtain ⟨s2, t1, t2, t3⟩ := r1 q hq
    exact ⟨s2, t1, F.tr t2, t3⟩
  · obtain ⟨s2, t1, t2, t3⟩ := r2 L hL
    exact ⟨s2, t1, F.tr t2, t3⟩
theorem INV_rd {s s1 s2 : qMem} (h1 : FRX s s1) (h2 : FRD 0 s1 s2) (hI : INV s c lv) : INV s2 c lv := by
  obtain ⟨i1, i2, i3, i4, i5, i6, i7, i8, i9⟩ := hI
  have e : ∀ o k, ¬ (10 ≤ o ∧ o ≤ 18) → ¬ (o = 19 ∧ (k = 2 ∨ k = 3)) → o ≠ 21 → ¬ (o = 40 ∧ 7 ≤ k ∧ k ≤ 15) → o ≠ 44 → s2.1 o k = s.1 o k := fun o k a b x y z => (h2 o k y (fun w => z w.1)).trans (h1.1 o k a b x)
  exact ⟨i1, i2, CI_of (fun o k h => e o k (by omega) (by omega) (by omega) (by omega) (by omega)) i3, MI_of (fun o k h => e o k (by omega) (by omega) (by omega) (by omega) (by omega)) i4, S1_of (e _ _ (by omega) (by omega) (by omega) (by omega) (by omega)) (e _ _ (by omega) (by omega) (by omega) (by omega) (by omega)) i5, S2_of (fun i => e _ _ (by omega) (by omega) (by omega) (by omega) (by omega)) (fun i => e _ _ (by omega) (by omega) (by omega) (by omega) (by omega)) i6, S3_of (e _ _ (by omega) (by omega) (by omega) (by omega) (by omega)) (e _ _ (by omega) (by omega) (by omega) (by omega) (by omega)) (fun i => e _ _ (by omega) (by omega) (by omega) (by omega) (by omega)) (fun i => e _ _ (by omega) (by omega) (by omega) (by omega) (by omega)) (fun i => e _ _ (by omega) (by omega) (by omega) (by omega) (by omega)) i7, S4_of (e _ _ (by omega) (by omega) (by omega) (by omega) (by omega)) (e _ _ (by omega) (by omega) (by omega) (by omega) (by omega)) (fun i => e _ _ (by omega) (by omega) (by omega) (by omega) (by omega)) (fun i => e _ _ (by omega) (by omega) (by omega) (by omega) (by omega)) i8, S5_of (fun a ha i => e _ _ (by omega) (by omega) (by omega) (by omega) (by omega)) i9⟩
theorem bth_fault {s : qMem} (hI : INV s c lv) : bth (m_G_fault (d + 9)) (m_M_fault (d + 9)) s (fun s2 => INV s2 c lv) := by
  have hI0 := hI
  obtain ⟨i1, i2, i3, i4, i5, i6, i7, ⟨n, hn, n1, n2, n3⟩, i9⟩ := hI
  obtain ⟨s1, g1, r1, r2⟩ := g_try (d := d) hn i1 i3.1 n1
  have ag := rdA_ag (B := s.1 20) (C := s.1 43) n3 12 c 0 (Nat.zero_le _)
  have ref : ∀ {s2 : qMem}, FRX s s2 → ∃ s3, FRD 0 s2 s3 ∧ ((∃ q, rdA (s.1 43) n 12 c 0 = .inl q ∧ m_M_isRead (d + 8) s2 = some (0, s3) ∧ s3.1 40 12 = nI q) ∨ ∃ L, rdA (s.1 43) n 12 c 0 = .inr L ∧ m_M_isRead (d + 8) s2 = some (1, s3) ∧ s3.1 40 13 = nI L.length ∧ stored s3 0 L) := fun {s2} hF => by
    have e43 : s2.1 43 = s.1 43 := funext (fun i => hF.1 _ _ (by omega) (by omega) (by omega))
    have := m_isRead (d := d + 2) (s := s2) hn i1 (RM_of (fun o k h => hF.1 _ _ (by omega) (by omega) (by omega)) i4.1) (by rw [hF.1 _ _ (by omega) (by omega) (by omega)]; exact n2)
    rw [e43] at this
    exact this
  cases hA : rdA (s.1 20) n 12 c 0 with
  | inl q =>
    obtain ⟨s2, t1, t2, t3⟩ := r1 q hA
    obtain ⟨s3, v1, v2⟩ := ref t2
    rw [← ag, hA] at v2
    rcases v2 with ⟨q2, u1, u2, u3⟩ | ⟨L, u1, -⟩
    · cases u1
      refine ⟨nI q, s2, s3, ?_, ?_, INV_rd t2 v1 hI0⟩
      · rw [e_G_fault, g1, sm_some, t1, sm_some]
      · rw [e_M_fault, u2, sm_some]
        dsimp only
        rw [if_pos rfl, u3]
    · cases u1
  | inr L =>
    obtain ⟨s2, t1, t2, t3⟩ := r2 L hA
    obtain ⟨s3, v1, v2⟩ := ref t2
    rw [← ag, hA] at v2
    rcases v2 with ⟨q2, u1, -⟩ | ⟨L2, u1, u2, -⟩
    · cases u1
    · refine ⟨-1, s2, s3, ?_, ?_, INV_rd t2 v1 hI0⟩
      · rw [e_G_fault, g1, sm_some, t1, sm_some]
      · rw [e_M_fault, u2, sm_some]
        exact if_neg (show ¬ (1 : Int32) = 0 from by decide)
theorem g_fill1 : ∀ (q k : Nat) (s : qMem), k + q = 25 → ∃ s2, l_fill_1 d 0 (nI k) 25 s = some s2 ∧ (∀ i, k ≤ i → i < 25 → s2.1 24 i = 0) ∧ (∀ o j, (o = 24 → j < k) → s2.1 o j = s.1 o j) ∧ s2.2 = s.2 := by
  intro q
  induction q with
  | zero =>
    intro k s hk
    have : k = 25 := by omega
    subst this
    exact ⟨s, by rw [el_fill_1, if_pos (show (25 : Int32) ≤ nI 25 from by decide)], fun i h1 h2 => by omega, fun _ _ _ => rfl, rfl⟩
  | succ q ih =>
    intro k s hk
    have n4 : ¬ (25 : Int32) ≤ nI k := by
      show ¬ nI 25 ≤ nI k
      rw [nI_leI (by omega) (by omega)]
      omega
    obtain ⟨s2, g1, g2, g3, g4⟩ := ih (k + 1) (qW s 24 k 0) (by omega)
    refine ⟨s2, ?_, fun i h1 h2 => ?_, fun o j h => ?_, g4⟩
    · rw [el_fill_1, if_neg n4, if_pos (qIn_n (by omega) (by omega)), nI_cl (by omega), nI_1]
      exact g1
    · by_cases z : i = k
      · rw [z, g3 _ _ (fun _ => by omega), q_rw]
      · exact g2 i (by omega) h2
    · rw [g3 o j (fun z => by have := h z; omega)]
      by_cases z : o = 24
      · have := h z
        rw [q_rw_if, if_neg (by omega)]
      · rw [q_rw_o z]
theorem g_anew {s : qMem} : ∃ s2, m_G_beginAnew (d + 3) s = some s2 ∧ (∀ p, p < 5 → s2.1 23 p = s.1 9 p) ∧ s2.1 22 1 = 0 ∧ (∀ i, i < 25 → s2.1 24 i = 0) ∧ s2.1 34 3 = 0 ∧ s2.1 37 3 = 0 ∧ s2.1 0 9 = 0 ∧ s2.1 0 6 = 0 ∧ (∀ o j, ¬ (22 ≤ o ∧ o ≤ 24) → ¬ (o = 34 ∧ j = 3) → ¬ (o = 37 ∧ j = 3) → ¬ (o = 0 ∧ (j = 9 ∨ j = 6)) → s2.1 o j = s.1 o j) := by
  obtain ⟨s1, g1, g2, g3, g4⟩ := g_fill1 (d := d) 25 0 (qW (qCpy s 9 23 0 0 5) 22 1 0) rfl
  have g1 : l_fill_1 d 0 0 25 (qW (qCpy s 9 23 0 0 5) 22 1 0) = some s1 := g1
  refine ⟨qW (qW (qW (qW s1 34 3 0) 37 3 0) 0 9 0) 0 6 0, ?_, fun p hp => ?_, ?_, fun i hi => ?_, ?_, ?_, ?_, q_rw, fun o j h1 h2 h3 h4 => ?_⟩
  · rw [e_G_beginAnew, e_J_begin, e_fill, g1, sm_some, sm_some, el_G_beginAnew_1, if_neg (by decide), if_pos rfl, if_pos rfl, el_G_beginAnew_1, if_neg (by decide), if_neg (by decide), if_pos (by decide), if_neg (by decide), if_pos (by decide), el_G_beginAnew_1, if_pos (by decide)]
  · rw [q_rw_o (by decide), q_rw_o (by decide), q_rw_o (by decide), q_rw_o (by decide), g3 _ _ (fun h => by omega), q_rw_o (by decide), q_cp, if_pos hp]
  · rw [q_rw_o (by decide), q_rw_o (by decide), q_rw_o (by decide), q_rw_o (by decide), g3 _ _ (fun h => by omega), q_rw]
  · rw [q_rw_o (by decide), q_rw_o (by decide), q_rw_o (by decide), q_rw_o (by decide), g2 i (Nat.zero_le _) hi]
  · rw [q_rw_o (by decide), q_rw_o (by decide), q_rw_o (by decide), q_rw]
  · rw [q_rw_o (by decide), q_rw_o (by decide), q_rw]
  · rw [q_rw_k (by decide), q_rw]
  · rw [q_rw_if, if_neg (fun z => h4 ⟨z.1, by omega⟩), q_rw_if, if_neg (fun z => h4 ⟨z.1, by omega⟩), q_rw_if, if_neg h3, q_rw_if, if_neg h2, g3 _ _ (fun h => by omega), q_rw_o (by omega), q_cp_o (by omega)]
theorem m_st3 {m : Int32} : ∀ (q k : Nat) (s : qMem), k + q = 25 → s.1 40 13 = m → ∃ s2, l_M_stair_3 d (nI k) s = some (m, qW (qW (qW (qW s2 40 18 0) 40 22 0) 48 0 0) 48 1 0) ∧ (∀ i, k ≤ i → i < 25 → s2.1 46 i = 0) ∧ (∀ o j, (o = 46 → j < k) → s2.1 o j = s.1 o j) := by
  intro q
  induction q with
  | zero =>
    intro k s hk hm
    have : k = 25 := by omega
    subst this
    exact ⟨s, by rw [el_M_stair_3, if_pos (show (25 : Int32) ≤ nI 25 from by decide), hm], fun i h1 h2 => by omega, fun _ _ _ => rfl⟩
  | succ q ih =>
    intro k s hk hm
    have n4 : ¬ (25 : Int32) ≤ nI k := by
      show ¬ nI 25 ≤ nI k
      rw [nI_leI (by omega) (by omega)]
      omega
    obtain ⟨s2, g1, g2, g3⟩ := ih (k + 1) (qW s 46 k 0) (by omega) (by rw [q_rw_o (by decide)]; exact hm)
    refine ⟨s2, ?_, fun i h1 h2 => ?_, fun o j h => ?_⟩
    · rw [el_M_stair_3, if_neg n4, if_pos (qIn_n (by omega) (by omega)), nI_cl (by omega), nI_1]
      exact g1
    · by_cases z : i = k
      · rw [z, g3 _ _ (fun _ => by omega), q_rw]
      · exact g2 i (by omega) h2
    · rw [g3 o j (fun z => by have := h z; omega)]
      by_cases z : o = 46
      · have := h z
        rw [q_rw_if, if_neg (by omega)]
      · rw [q_rw_o z]
theorem m_st2 {N : Nat} (hN : N ≤ 5) : ∀ (q k : Nat) (s : qMem), k + q = N → s.1 40 3 = nI N → ∃ s2, l_M_stair_2 d (nI k) s = l_M_stair_3 d 0 s2 ∧ (∀ i, k ≤ i → i < N → s2.1 45 i = s.1 42 (6 * i + 5)) ∧ (∀ o j, (o = 45 → j < k) → s2.1 o j = s.1 o j) := by
  intro q
  induction q with
  | zero =>
    intro k s hk h3
    exact ⟨s, by rw [el_M_stair_2, h3, if_pos (nI_le (by omega) (by omega))], fun i h1 h2 => by omega, fun _ _ _ => rfl⟩
  | succ q ih =>
    intro k s hk h3
    have e6 : 6 * nI k = nI (6 * k) := pk_mul 6 k
    have e65 : nI (6 * k) + 5 = nI (6 * k + 5) := nI_add (6 * k) 5
    obtain ⟨s2, g1, g2, g3⟩ := ih (k + 1) (qW s 45 k (s.1 42 (6 * k + 5))) (by omega) (by rw [q_rw_o (by decide)]; exact h3)
    refine ⟨s2, ?_, fun i h1 h2 => ?_, fun o j h => ?_⟩
    · rw [el_M_stair_2, h3, if_neg (by rw [nI_leI (by omega) (by omega)]; omega), e6, e65, if_pos (qIn_n (by omega) (by omega)), if_pos (qIn_n (by omega) (by omega)), nI_cl (by omega), nI_cl (by omega), nI_1]
      exact g1
    · by_cases z : i = k
      · rw [z, g3 _ _ (fun _ => by omega), q_rw]
      · rw [g2 i (by omega) h2, q_rw_o (by decide)]
    · rw [g3 o j (fun z => by have := h z; omega)]
      by_cases z : o = 45
      · have := h z
        rw [q_rw_if, if_neg (by omega)]
      · rw [q_rw_o z]
end STAIR
