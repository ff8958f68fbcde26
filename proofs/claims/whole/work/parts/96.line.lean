/-! lines: what each tells -/
def nbs (k : Nat) : Nat := qNth [1, 2, 1, 2, 2, 0, 3, 3, 3, 3] k
def lo (k j : Nat) : Nat := match k with
  | 0 => 1
  | 1 => if j = 0 then 0 else 1
  | 2 => 0
  | 3 => 0
  | 4 => 0
  | _ => if 2 ≤ j then 0 else 1
/-- one more than the greatest -/
def hi (c : Co) (k j : Nat) : Nat := match k with
  | 0 => 5
  | 1 => if j = 0 then cTop c else 61
  | 2 => cTop c
  | 3 => if j = 0 then cN c else 50
  | 4 => if j = 0 then cN c else cTop c + 1
  | _ => if j = 0 then 31 else if j = 1 then 51 else 100
def app (c : Co) (k : Nat) (v : Nat → Nat) : Co := match k with
  | 0 => (v 0, 0, fun _ => 20, fun _ => false, cP c)
  | 1 => (cTop c, cN c, fUpd (cH c) (v 0) (v 1), cR c, cP c)
  | 2 => (cTop c, cN c, cH c, fUpd (cR c) (v 0) true, cP c)
  | 3 => (cTop c, cN c, cH c, cR c, fUpd (cP c) (v 0) (fUpd (cP c (v 0)) 4 (v 1)))
  | 4 => (cTop c, cN c, cH c, cR c, fUpd (cP c) (v 0) (fUpd (cP c (v 0)) 5 (v 1)))
  | 5 => (cTop c, 0, cH c, cR c, cP c)
  | m + 6 => (cTop c, cN c + 1, cH c, cR c, fUpd (cP c) (cN c) (fun j => if j = 0 then m else if j < 4 then v (j - 1) else 0))
def lnOk (c : Co) (k : Nat) (v : Nat → Nat) : Prop := k < 10 ∧ (6 ≤ k → cN c < 5) ∧ ∀ j, j < nbs k → lo k j ≤ v j ∧ v j < hi c k j
theorem k10 {P : Nat → Prop} (h0 : P 0) (h1 : P 1) (h2 : P 2) (h3 : P 3) (h4 : P 4) (h5 : P 5) (h6 : ∀ m, m < 4 → P (m + 6)) : ∀ k, k < 10 → P k := by
  intro k hk
  have h : k = 0 ∨ k = 1 ∨ k = 2 ∨ k = 3 ∨ k = 4 ∨ k = 5 ∨ ∃ m, m < 4 ∧ k = m + 6 := by
    by_cases z : k < 6
    · omega
    · exact Or.inr (Or.inr (Or.inr (Or.inr (Or.inr (Or.inr ⟨k - 6, by omega, by omega⟩)))))
  rcases h with h | h | h | h | h | h | ⟨m, hm, h⟩
  · rw [h]; exact h0
  · rw [h]; exact h1
  · rw [h]; exact h2
  · rw [h]; exact h3
  · rw [h]; exact h4
  · rw [h]; exact h5
  · rw [h]; exact h6 m hm
theorem nbs6 : ∀ m, m < 4 → nbs (m + 6) = 3 := by decide
theorem app_ok {c : Co} (hc : cOk c) : ∀ k, k < 10 → ∀ v, lnOk c k v → cOk (app c k v) := by
  obtain ⟨h1, h2, h3, h4⟩ := hc
  refine k10 ?_ ?_ ?_ ?_ ?_ ?_ ?_
  · intro v ⟨_, _, h⟩
    have := h 0 (by decide)
    have a1 : 1 ≤ v 0 := this.1
    have a2 : v 0 < 5 := this.2
    exact ⟨⟨a1, by show v 0 ≤ 4; omega⟩, Nat.zero_le _, fun i _ => (by decide : 20 ≤ 60), fun p hp => absurd hp (Nat.not_lt_zero _)⟩
  · intro v ⟨_, _, h⟩
    have b1 : v 1 < 61 := (h 1 (by decide)).2
    refine ⟨h1, h2, fun i hi => ?_, h4⟩
    show fUpd (cH c) (v 0) (v 1) i ≤ 60
    by_cases z : i = v 0
    · rw [z, fUpd_s]; omega
    · rw [fUpd_n z]; exact h3 i hi
  · intro v _
    exact ⟨h1, h2, h3, h4⟩
  · intro v ⟨_, _, h⟩
    have b1 : v 1 < 50 := (h 1 (by decide)).2
    refine ⟨h1, h2, h3, fun p hp => ?_⟩
    show fUpd (cP c) (v 0) (fUpd (cP c (v 0)) 4 (v 1)) p 0 ≤ 3 ∧ fUpd (cP c) (v 0) (fUpd (cP c (v 0)) 4 (v 1)) p 1 ≤ 30 ∧ (1 ≤ fUpd (cP c) (v 0) (fUpd (cP c (v 0)) 4 (v 1)) p 2 ∧ fUpd (cP c) (v 0) (fUpd (cP c (v 0)) 4 (v 1)) p 2 ≤ 50) ∧ fUpd (cP c) (v 0) (fUpd (cP c (v 0)) 4 (v 1)) p 3 ≤ 99 ∧ fUpd (cP c) (v 0) (fUpd (cP c (v 0)) 4 (v 1)) p 4 ≤ 49 ∧ fUpd (cP c) (v 0) (fUpd (cP c (v 0)) 4 (v 1)) p 5 ≤ cTop c
    by_cases z : p = v 0
    · subst z
      have := h4 _ hp
      rw [fUpd_s, fUpd_n (by omega), fUpd_n (by omega), fUpd_n (by omega), fUpd_n (by omega), fUpd_s, fUpd_n (by omega)]
      omega
    · rw [fUpd_n z]; exact h4 p hp
  · intro v ⟨_, _, h⟩
    have b1 : v 1 < cTop c + 1 := (h 1 (by decide)).2
    refine ⟨h1, h2, h3, fun p hp => ?_⟩
    show fUpd (cP c) (v 0) (fUpd (cP c (v 0)) 5 (v 1)) p 0 ≤ 3 ∧ fUpd (cP c) (v 0) (fUpd (cP c (v 0)) 5 (v 1)) p 1 ≤ 30 ∧ (1 ≤ fUpd (cP c) (v 0) (fUpd (cP c (v 0)) 5 (v 1)) p 2 ∧ fUpd (cP c) (v 0) (fUpd (cP c (v 0)) 5 (v 1)) p 2 ≤ 50) ∧ fUpd (cP c) (v 0) (fUpd (cP c (v 0)) 5 (v 1)) p 3 ≤ 99 ∧ fUpd (cP c) (v 0) (fUpd (cP c (v 0)) 5 (v 1)) p 4 ≤ 49 ∧ fUpd (cP c) (v 0) (fUpd (cP c (v 0)) 5 (v 1)) p 5 ≤ cTop c
    by_cases z : p = v 0
    · subst z
      have := h4 _ hp
      rw [fUpd_s, fUpd_n (by omega), fUpd_n (by omega), fUpd_n (by omega), fUpd_n (by omega), fUpd_n (by omega), fUpd_s]
      omega
    · rw [fUpd_n z]; exact h4 p hp
  · intro v _
    exact ⟨h1, Nat.zero_le _, h3, fun p hp => absurd hp (Nat.not_lt_zero _)⟩
  · intro m hm v ⟨_, h5, h⟩
    have hN := h5 (by omega)
    have b0 : 1 ≤ v 0 ∧ v 0 < 31 := h 0 (by rw [nbs6 m hm]; omega)
    have b1 : 1 ≤ v 1 ∧ v 1 < 51 := h 1 (by rw [nbs6 m hm]; omega)
    have b2 : 0 ≤ v 2 ∧ v 2 < 100 := h 2 (by rw [nbs6 m hm]; omega)
    refine ⟨h1, by show cN c + 1 ≤ 5; omega, h3, fun p hp => ?_⟩
    have hp2 : p < cN c + 1 := hp
    by_cases z : p = cN c
    · have e : cP (app c (m + 6) v) p = fun j => if j = 0 then m else if j < 4 then v (j - 1) else 0 := by
        rw [z]
        exact fUpd_s
      rw [e]
      show m ≤ 3 ∧ v 0 ≤ 30 ∧ (1 ≤ v 1 ∧ v 1 ≤ 50) ∧ v 2 ≤ 99 ∧ 0 ≤ 49 ∧ 0 ≤ cTop c
      omega
    · have e : cP (app c (m + 6) v) p = cP c p := fUpd_n z
      rw [e]
      exact h4 p (by omega)
/-! what is told is put on the draft -/
section TELL
variable {d : Nat} {c : Co}
theorem t_numb {s : qMem} : ∀ k, k < 10 → m_T_numbersBehind (d + 1) (nI k) s = some (nI (nbs k), s) := by
  intro k hk
  rw [e_T_numbersBehind]
  have h : k = 0 ∨ k = 1 ∨ k = 2 ∨ k = 3 ∨ k = 4 ∨ k = 5 ∨ k = 6 ∨ k = 7 ∨ k = 8 ∨ k = 9 := by omega
  rcases h with h | h | h | h | h | h | h | h | h | h <;> (subst h; rfl)
theorem t_least {s : qMem} {j : Nat} (hj : j < 3) : ∀ k, k < 10 → m_T_least (d + 1) (nI k) (nI j) s = some (nI (lo k j), s) := by
  intro k hk
  rw [e_T_least]
  have h : k = 0 ∨ k = 1 ∨ k = 2 ∨ k = 3 ∨ k = 4 ∨ k = 5 ∨ k = 6 ∨ k = 7 ∨ k = 8 ∨ k = 9 := by omega
  have h2 : j = 0 ∨ j = 1 ∨ j = 2 := by omega
  rcases h2 with h2 | h2 | h2 <;> subst h2 <;> rcases h with h | h | h | h | h | h | h | h | h | h <;> (subst h; rfl)
theorem t_great {s : qMem} {j : Nat} (hR : RT s 10 c) (hj : j < 3) : ∀ k, k < 10 → m_T_greatest (d + 1) (nI k) (nI j) s = some (dI (hi c k j), s) := by
  intro k hk
  rw [e_T_greatest, hR.1, hR.2.1, dI_pred, dI_pred]
  have h : k = 0 ∨ k = 1 ∨ k = 2 ∨ k = 3 ∨ k = 4 ∨ k = 5 ∨ k = 6 ∨ k = 7 ∨ k = 8 ∨ k = 9 := by omega
  have h2 : j = 0 ∨ j = 1 ∨ j = 2 := by omega
  rcases h2 with h2 | h2 | h2 <;> subst h2 <;> rcases h with h | h | h | h | h | h | h | h | h | h <;> (subst h; rfl)
theorem t_allows {s : qMem} (hR : RT s 10 c) (hk : cOk c) {k : Nat} (h10 : k ≤ 10) : m_T_allows (d + 1) (wdI k) s = some (b2i (decide (k < 10 ∧ (6 ≤ k → cN c < 5))), s) := by
  have h5 := hk.2.1
  rw [e_T_allows, hR.2.1]
  unfold wdI
  by_cases z : k < 10
  · have e6 : nI k < (6 : Int32) ↔ k < 6 := by
      show nI k < nI 6 ↔ _
      rw [nI_ltI (by omega) (by omega)]
    have e5 : (5 : Int32) ≤ nI (cN c) ↔ 5 ≤ cN c := by
      show nI 5 ≤ nI (cN c) ↔ _
      rw [nI_leI (by omega) (by omega)]
    rw [if_pos z, if_neg (nI_pos (by omega))]
    by_cases y : k < 6
    · rw [if_pos (e6.mpr y), decide_eq_true ⟨z, fun h => by omega⟩]
      rfl
    · rw [if_neg (fun h => y (e6.mp h))]
      by_cases w : 5 ≤ cN c
      · rw [if_pos (e5.mpr w), decide_eq_false (fun h => by have := h.2 (by omega); omega)]
        rfl
      · rw [if_neg (fun h => w (e5.mp h)), decide_eq_true ⟨z, fun h => by omega⟩]
        rfl
  · rw [if_neg z, if_pos (by decide), decide_eq_false (fun h => z h.1)]
    rfl
theorem t_build1 {t : Nat} (ht : t = 1 ∨ t = 10) : ∀ (q k : Nat) (s : qMem), k + q = 4 → ∃ s2, l_T_build_1 d t (nI k) s = some s2 ∧ (∀ i, k ≤ i → i < 4 → s2.1 (t + 1) i = 20 ∧ s2.1 (t + 2) i = 0) ∧ (∀ a j, (a = t + 1 ∨ a = t + 2 → j < k) → s2.1 a j = s.1 a j) ∧ s2.2 = s.2 := by
  intro q
  induction q with
  | zero =>
    intro k s hk
    refine ⟨s, ?_, fun i h1 h2 => by omega, fun _ _ _ => rfl, rfl⟩
    rw [el_T_build_1 _ _ _ ht, if_pos]
    show nI 4 ≤ nI k
    exact nI_le (by omega) (by omega)
  | succ q ih =>
    intro k s hk
    obtain ⟨s2, g1, g2, g3, g4⟩ := ih (k + 1) (qW (qW s (t + 1) k 20) (t + 2) k 0) (by omega)
    have n4 : ¬ (4 : Int32) ≤ nI k := by
      show ¬ nI 4 ≤ nI k
      rw [nI_leI (by omega) (by omega)]
      omega
    have i4 : qIn (nI k) 4 := qIn_n (by omega) (by omega)
    refine ⟨s2, ?_, fun i h1 h2 => ?_, fun a j hj => ?_, g4⟩
    · rw [el_T_build_1 _ _ _ ht, if_neg n4, if_pos i4, nI_cl (by omega), if_pos ⟨i4, Or.inl rfl⟩, nI_1]
      exact g1
    · by_cases z : i = k
      · subst z
        rw [g3 _ _ (fun _ => by omega), g3 _ _ (fun _ => by omega)]
        exact ⟨by rw [q_rw_o (by omega), q_rw], by rw [q_rw]⟩
      · exact g2 i (by omega) h2
    · rw [g3 a j (fun h => by have := hj h; omega)]
      by_cases z : a = t + 1 ∨ a = t + 2
      · have := hj z
        rw [q_rw_if, if_neg (by omega), q_rw_if, if_neg (by omega)]
      · rw [q_rw_o (by omega), q_rw_o (by omega)]
def FT (s s2 : qMem) : Prop := (∀ o j, ¬ (10 ≤ o ∧ o ≤ 18) → s2.1 o j = s.1 o j) ∧ s2.2 = s.2
theorem FT.w {s : qMem} {o j : Nat} {v : Int32} (ho : 10 ≤ o ∧ o ≤ 18) : FT s (qW s o j v) := ⟨fun a b h => q_rw_o (fun z => h (by rw [z]; exact ho)), rfl⟩
theorem FT.tr {s s2 s3 : qMem} (h : FT s s2) (h2 : FT s2 s3) : FT s s3 := ⟨fun o k q => (h2.1 o k q).trans (h.1 o k q), h2.2.trans h.2⟩
theorem RT10 {s : qMem} {c : Co} (h0 : s.1 10 0 = nI (cTop c)) (h1 : s.1 10 1 = nI (cN c)) (h2 : ∀ i, i < 4 → s.1 11 i = nI (cH c i) ∧ s.1 12 i = b2i (cR c i)) (h3 : ∀ p, p < cN c → s.1 13 p = nI (cP c p 0) ∧ s.1 14 p = nI (cP c p 1) ∧ s.1 15 p = nI (cP c p 2) ∧ s.1 16 p = nI (cBurd c p) ∧ s.1 17 p = nI (cP c p 3) ∧ s.1 18 p = nI (cP c p 5)) : RT s 10 c := ⟨h0, h1, h2, h3⟩
theorem t_tell {s : qMem} {v : Nat → Nat} (hR : RT s 10 c) (hc : cOk c) : ∀ k, k < 10 → lnOk c k v → ∀ x y z, (0 < nbs k → x = nI (v 0)) → (1 < nbs k → y = nI (v 1)) → (2 < nbs k → z = nI (v 2)) → ∃ s2, m_T_tell (d + 2) (nI k) x y z s = some s2 ∧ RT s2 10 (app c k v) ∧ FT s s2 := by
  obtain ⟨r1, r2, r3, r4⟩ := id hR
  obtain ⟨c1, c2, c3, c4⟩ := id hc
  have r3 : ∀ i, i < 4 → s.1 11 i = nI (cH c i) ∧ s.1 12 i = b2i (cR c i) := r3
  have r4 : ∀ p, p < cN c → s.1 13 p = nI (cP c p 0) ∧ s.1 14 p = nI (cP c p 1) ∧ s.1 15 p = nI (cP c p 2) ∧ s.1 16 p = nI (cBurd c p) ∧ s.1 17 p = nI (cP c p 3) ∧ s.1 18 p = nI (cP c p 5) := r4
  refine k10 ?_ ?_ ?_ ?_ ?_ ?_ ?_
  · intro hl x y z hx _ _
    obtain ⟨s2, g1, g2, g3, g4⟩ := t_build1 (d := d) (t := 10) (Or.inr rfl) 4 0 (qW (qW s 10 0 x) 10 1 0) rfl
    refine ⟨s2, ?_, RT10 ?_ ?_ (fun i hi => ?_) (fun p hp => absurd hp (Nat.not_lt_zero _)), fun o j ho => ?_, g4⟩
    · rw [e_T_tell, if_pos (show nI 0 = (0 : Int32) from rfl), e_T_build _ _ _ (Or.inr rfl)]
      exact (congrArg (fun z => z.bind (fun q1 => some q1)) g1)
    · rw [g3 _ _ (fun h => by omega), q_rw_k (by decide), q_rw, hx (by decide)]
      rfl
    · rw [g3 _ _ (fun h => by omega), q_rw]
      rfl
    · exact g2 i (Nat.zero_le _) hi
    · rw [g3 o j (fun h => by omega), q_rw_o (by omega), q_rw_o (by omega)]
  · intro hl x y z hx hy _
    have b0 : v 0 < cTop c := (hl.2.2 0 (by decide)).2
    have hx := hx (by decide)
    have hy := hy (by decide)
    subst hx
    subst hy
    refine ⟨qW s 11 (v 0) (nI (v 1)), ?_, RT10 ?_ ?_ (fun i hi => ?_) (fun p hp => ?_), FT.w (by omega)⟩
    · rw [e_T_tell, if_neg (by decide), if_neg (by decide), if_pos (show nI 1 = (1 : Int32) from rfl), t_isStep (Or.inr rfl) hR hc (by omega), sm_some, decide_eq_true b0, bt0, if_pos (qIn_n (by omega) (by omega)), nI_cl (by omega)]
    · rw [q_rw_o (by decide)]; exact r1
    · rw [q_rw_o (by decide)]; exact r2
    · rw [q_rw_o (a := 12) (by decide)]
      refine ⟨?_, (r3 i hi).2⟩
      show _ = nI (fUpd (cH c) (v 0) (v 1) i)
      by_cases w : i = v 0
      · rw [w, q_rw, fUpd_s]
      · rw [q_rw_k w, fUpd_n w]; exact (r3 i hi).1
    · rw [q_rw_o (by decide), q_rw_o (by decide), q_rw_o (by decide), q_rw_o (by decide), q_rw_o (by decide), q_rw_o (by decide)]
      exact r4 p hp
  · intro hl x y z hx _ _
    have b0 : v 0 < cTop c := (hl.2.2 0 (by decide)).2
    have hx := hx (by decide)
    subst hx
    refine ⟨qW s 12 (v 0) 1, ?_, RT10 ?_ ?_ (fun i hi => ?_) (fun p hp => ?_), FT.w (by omega)⟩
    · rw [e_T_tell, if_neg (by decide), if_neg (by decide), if_neg (by decide), el_T_tell_1, if_pos (show nI 2 = (2 : Int32) from rfl), t_isStep (Or.inr rfl) hR hc (by omega), sm_some, decide_eq_true b0, bt0, if_pos ⟨qIn_n (by omega) (by omega), Or.inr rfl⟩, nI_cl (by omega)]
    · rw [q_rw_o (by decide)]; exact r1
    · rw [q_rw_o (by decide)]; exact r2
    · rw [q_rw_o (a := 11) (by decide)]
      refine ⟨(r3 i hi).1, ?_⟩
      show _ = b2i (fUpd (cR c) (v 0) true i)
      by_cases w : i = v 0
      · rw [w, q_rw, fUpd_s]; rfl
      · rw [q_rw_k w, fUpd_n w]; exact (r3 i hi).2
    · rw [q_rw_o (by decide), q_rw_o (by decide), q_rw_o (by decide), q_rw_o (by decide), q_rw_o (by decide), q_rw_o (by decide)]
      exact r4 p hp
  · intro hl x y z hx hy _
    have b0 : v 0 < cN c := (hl.2.2 0 (by decide)).2
    have b1 : v 1 < 50 := (hl.2.2 1 (by decide)).2
    have hx := hx (by decide)
    have hy := hy (by decide)
    subst hx
    subst hy
    obtain ⟨y1, y2, y3, y4, y5, y6⟩ := r4 (v 0) b0
    refine ⟨qW s 16 (v 0) (nI (cP c (v 0) 2 + v 1)), ?_, RT10 ?_ ?_ (fun i hi => ?_) (fun p hp => ?_), FT.w (by omega)⟩
    · have i5 : qIn (nI (v 0)) 5 := qIn_n (by omega) (by omega)
      rw [e_T_tell, if_neg (by decide), if_neg (by decide), if_neg (by decide), el_T_tell_1, if_neg (by decide), el_T_tell_2, if_pos (show nI 3 = (3 : Int32) from rfl), t_isOne (Or.inr rfl) hR hc b0, sm_some]
      dsimp only
      rw [n10, if_pos i5, if_pos i5, nI_cl (by omega), y3, nI_add]
    · rw [q_rw_o (by decide)]; exact r1
    · rw [q_rw_o (by decide)]; exact r2
    · rw [q_rw_o (by decide), q_rw_o (by decide)]
      exact r3 i hi
    · rw [q_rw_o (a := 13) (by decide), q_rw_o (a := 14) (by decide), q_rw_o (a := 15) (by decide), q_rw_o (a := 17) (by decide), q_rw_o (a := 18) (by decide)]
      have e : cP (app c 3 v) = fUpd (cP c) (v 0) (fUpd (cP c (v 0)) 4 (v 1)) := rfl
      unfold cBurd
      rw [e]
      by_cases w : p = v 0
      · subst w
        rw [fUpd_s, fUpd_n (by omega), fUpd_n (by omega), fUpd_n (by omega), fUpd_s, fUpd_n (by omega), fUpd_n (by omega), q_rw]
        exact ⟨y1, y2, y3, rfl, y5, y6⟩
      · rw [fUpd_n w, q_rw_k w]
        exact r4 p hp
  · intro hl x y z hx hy _
    have b0 : v 0 < cN c := (hl.2.2 0 (by decide)).2
    have hx := hx (by decide)
    have hy := hy (by decide)
    subst hx
    subst hy
    obtain ⟨y1, y2, y3, y4, y5, y6⟩ := r4 (v 0) b0
    refine ⟨qW s 18 (v 0) (nI (v 1)), ?_, RT10 ?_ ?_ (fun i hi => ?_) (fun p hp => ?_), FT.w (by omega)⟩
    · have i5 : qIn (nI (v 0)) 5 := qIn_n (by omega) (by omega)
      rw [e_T_tell, if_neg (by decide), if_neg (by decide), if_neg (by decide), el_T_tell_1, if_neg (by decide), el_T_tell_2, if_neg (by decide), el_T_tell_3, if_pos (show nI 4 = (4 : Int32) from rfl), t_isOne (Or.inr rfl) hR hc b0, sm_some]
      dsimp only
      rw [n10, if_pos i5, nI_cl (by omega)]
    · rw [q_rw_o (by decide)]; exact r1
    · rw [q_rw_o (by decide)]; exact r2
    · rw [q_rw_o (by decide), q_rw_o (by decide)]
      exact r3 i hi
    · rw [q_rw_o (a := 13) (by decide), q_rw_o (a := 14) (by decide), q_rw_o (a := 15) (by decide), q_rw_o (a := 16) (by decide), q_rw_o (a := 17) (by decide)]
      have e : cP (app c 4 v) = fUpd (cP c) (v 0) (fUpd (cP c (v 0)) 5 (v 1)) := rfl
      unfold cBurd
      rw [e]
      by_cases w : p = v 0
      · subst w
        rw [fUpd_s, fUpd_n (by omega), fUpd_n (by omega), fUpd_n (by omega), fUpd_n (by omega), fUpd_n (by omega), fUpd_s, q_rw]
        exact ⟨y1, y2, y3, y4, y5, rfl⟩
      · rw [fUpd_n w, q_rw_k w]
        exact r4 p hp
  · intro hl x y z _ _ _
    refine ⟨qW s 10 1 0, ?_, RT10 ?_ ?_ (fun i hi => ?_) (fun p hp => absurd hp (Nat.not_lt_zero _)), FT.w (by omega)⟩
    · rw [e_T_tell, if_neg (by decide), if_pos (show nI 5 = (5 : Int32) from rfl)]
    · rw [q_rw_k (by decide)]; exact r1
    · rw [q_rw]; rfl
    · rw [q_rw_o (by decide), q_rw_o (by decide)]
      exact r3 i hi
  · intro m hm hl x y z hx hy hz
    have hN := hl.2.1 (by omega)
    have hx := hx (by rw [nbs6 m hm]; omega)
    have hy := hy (by rw [nbs6 m hm]; omega)
    have hz := hz (by rw [nbs6 m hm]; omega)
    subst hx
    subst hy
    subst hz
    have ne : ∀ i, i < 6 → ¬ nI (m + 6) = nI i := fun i hi => by
      rw [nI_eq (by omega) (by omega)]
      omega
    have i5 : qIn (nI (cN c)) 5 := qIn_n (by omega) (by omega)
    have n5 : ¬ (5 : Int32) ≤ nI (cN c) := by
      show ¬ nI 5 ≤ nI (cN c)
      rw [nI_leI (by omega) (by omega)]
      omega
    have n6 : ¬ nI (m + 6) < (6 : Int32) := by
      show ¬ nI (m + 6) < nI 6
      rw [nI_ltI (by omega) (by omega)]
      omega
    have e6 : nI (m + 6) - 6 = nI m := pk_sub (a := m + 6) (b := 6) (by omega)
    refine ⟨qW (qW (qW (qW (qW (qW (qW s 13 (cN c) (nI m)) 14 (cN c) (nI (v 0))) 15 (cN c) (nI (v 1))) 16 (cN c) (nI (v 1))) 17 (cN c) (nI (v 2))) 18 (cN c) 0) 10 1 (nI (cN c + 1)), ?_, RT10 ?_ ?_ (fun i hi => ?_) (fun p hp => ?_), ?_⟩
    · rw [e_T_tell, if_neg (show ¬ nI (m + 6) = (0 : Int32) from ne 0 (by omega)), if_neg (show ¬ nI (m + 6) = (5 : Int32) from ne 5 (by omega)), if_neg (show ¬ nI (m + 6) = (1 : Int32) from ne 1 (by omega)), el_T_tell_1, if_neg (show ¬ nI (m + 6) = (2 : Int32) from ne 2 (by omega)), el_T_tell_2, if_neg (show ¬ nI (m + 6) = (3 : Int32) from ne 3 (by omega)), el_T_tell_3, if_neg (show ¬ nI (m + 6) = (4 : Int32) from ne 4 (by omega)), el_T_tell_4, if_neg n6, r2, if_neg n5, if_pos i5, if_pos i5, if_pos i5, if_pos i5, if_pos i5, if_pos i5, nI_cl (by omega), e6, nI_1]
    · rw [q_rw_k (by decide), q_rw_o (by decide), q_rw_o (by decide), q_rw_o (by decide), q_rw_o (by decide), q_rw_o (by decide), q_rw_o (by decide)]
      exact r1
    · rw [q_rw]
      rfl
    · rw [q_rw_o (by decide), q_rw_o (by decide), q_rw_o (by decide), q_rw_o (by decide), q_rw_o (by decide), q_rw_o (by decide), q_rw_o (by decide), q_rw_o (by decide), q_rw_o (by decide), q_rw_o (by decide), q_rw_o (by decide), q_rw_o (by decide), q_rw_o (by decide), q_rw_o (by decide)]
      exact r3 i hi
    · have hp2 : p < cN c + 1 := hp
      by_cases w : p = cN c
      · have e : cP (app c (m + 6) v) p = fun j => if j = 0 then m else if j < 4 then v (j - 1) else 0 := by
          rw [w]
          exact fUpd_s
        unfold cBurd
        rw [e, w]
        show _ = nI m ∧ _ = nI (v 0) ∧ _ = nI (v 1) ∧ _ = nI (v 1 + 0) ∧ _ = nI (v 2) ∧ _ = nI 0
        refine ⟨?_, ?_, ?_, ?_, ?_, ?_⟩
        · rw [q_rw_o (by decide), q_rw_o (by decide), q_rw_o (by decide), q_rw_o (by decide), q_rw_o (by decide), q_rw_o (by decide), q_rw]
        · rw [q_rw_o (by decide), q_rw_o (by decide), q_rw_o (by decide), q_rw_o (by decide), q_rw_o (by decide), q_rw]
        · rw [q_rw_o (by decide), q_rw_o (by decide), q_rw_o (by decide), q_rw_o (by decide), q_rw]
        · rw [q_rw_o (by decide), q_rw_o (by decide), q_rw_o (by decide), q_rw, Nat.add_zero]
        · rw [q_rw_o (by decide), q_rw_o (by decide), q_rw]
        · rw [q_rw_o (by decide), q_rw]
          rfl
      · have e : cP (app c (m + 6) v) p = cP c p := fUpd_n w
        have f : ∀ o, 13 ≤ o → o ≤ 18 → (qW (qW (qW (qW (qW (qW (qW s 13 (cN c) (nI m)) 14 (cN c) (nI (v 0))) 15 (cN c) (nI (v 1))) 16 (cN c) (nI (v 1))) 17 (cN c) (nI (v 2))) 18 (cN c) 0) 10 1 (nI (cN c + 1))).1 o p = s.1 o p := fun o h1 h2 => by
          rw [q_rw_o (by omega), q_rw_if, if_neg (fun h => w h.2), q_rw_if, if_neg (fun h => w h.2), q_rw_if, if_neg (fun h => w h.2), q_rw_if, if_neg (fun h => w h.2), q_rw_if, if_neg (fun h => w h.2), q_rw_if, if_neg (fun h => w h.2)]
        unfold cBurd
        rw [e, f _ (by omega) (by omega), f _ (by omega) (by omega), f _ (by omega) (by omega), f _ (by omega) (by omega), f _ (by omega) (by omega), f _ (by omega) (by omega)]
        exact r4 p (by omega)
    · exact (((((((FT.w (by omega)).tr (FT.w (by omega))).tr (FT.w (by omega))).tr (FT.w (by omega))).tr (FT.w (by omega))).tr (FT.w (by omega))).tr (FT.w (by omega)))
end TELL
