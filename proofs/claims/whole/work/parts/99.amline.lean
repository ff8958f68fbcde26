/-! a line read by the reference: each kind of line -/
theorem rk10 : ∀ k, k < 10 → rk k < 10 := by decide
theorem tok_pos {B : Nat → Int32} {n q k : Nat} {s s2 : qMem} (hk : k < 10) (h : tokAt B n q s s2) (hw : isW B q (run isL B q (n - q)) k = true) : s2.1 40 7 = nI (run isL B q (n - q)) := by
  have w2 := (w_len k hk).1
  have e := (isW_iff.mp hw).1
  rcases h.2.2 with ⟨a1, a2, -⟩ | ⟨a1, a2, a3, a4⟩ | ⟨a1, a2, -⟩ | ⟨a1, a2, -⟩
  · rw [a1, Nat.sub_self, run] at e
    omega
  · exact a3
  · rw [run_stop a2] at e
    omega
  · rw [run_stop a2] at e
    omega
section MLINE
variable {d n : Nat} {B : Nat → Int32} {c : Co}
/-- numbers behind a word: how they are told -/
def NNk (B : Nat → Int32) (n : Nat) (c : Co) (k W p : Nat) (s : qMem) (o : Option (Int32 × qMem)) : Prop := ∃ s2, FLM W s s2 ∧ s2.1 44 W = nI (rk k) ∧ ((∃ q, rdN B n (lo k) (hi c k) (nbs k) 0 p (fun _ => 0) = .inl q ∧ o = some (0, s2) ∧ s2.1 40 12 = nI q) ∨ ∃ x, rdN B n (lo k) (hi c k) (nbs k) 0 p (fun _ => 0) = .inr x ∧ o = some (1, s2) ∧ s2.1 40 7 = nI x.1 ∧ x.1 ≤ n ∧ s2.1 40 14 = nI (cTop (app c k x.2)) ∧ s2.1 40 15 = nI (cN (app c k x.2)) ∧ ∀ i, i < nbs k → s2.1 44 (W + 1 + i) = nI (x.2 i))
theorem m_NN1 {W p k : Nat} {s : qMem} {a b : Int32} (hn : n ≤ 200) (hW : W + 4 < 60) (hc : cOk c) (hp : p ≤ n) (h5 : s.1 40 5 = nI n) (h7 : s.1 40 7 = nI p) (h14 : s.1 40 14 = nI (cTop c)) (h15 : s.1 40 15 = nI (cN c)) (hB : s.1 43 = B) (hk : k < 10) (h6 : 6 ≤ k → cN c < 5) (hr : (if a = -1 then b else a) = nI (rk k)) : NNk B n c k W p s (l_M_isLine_2 (d + 4) (nI W) a b s) := by
  have iW : qIn (nI W) 60 := qIn_n (by omega) (by omega)
  have iW1 : qIn (nI (W + 1)) 60 := qIn_n (by omega) (by omega)
  have eW2 : nI W + 2 = nI (W + 2) := nI_add W 2
  have eW3 : nI W + 3 = nI (W + 3) := nI_add W 3
  obtain ⟨c1, c2, c3, c4⟩ := id hc
  have F0 : FLM W s (qW s 44 W (nI (rk k))) := fun o j _ b => by rw [q_rw_if, if_neg (fun z => b ⟨z.1, by omega⟩)]
  have b5 : (qW s 44 W (nI (rk k))).1 40 5 = nI n := by rw [q_rw_o (by decide)]; exact h5
  have b7 : (qW s 44 W (nI (rk k))).1 40 7 = nI p := by rw [q_rw_o (by decide)]; exact h7
  have b14 : (qW s 44 W (nI (rk k))).1 40 14 = nI (cTop c) := by rw [q_rw_o (by decide)]; exact h14
  have b15 : (qW s 44 W (nI (rk k))).1 40 15 = nI (cN c) := by rw [q_rw_o (by decide)]; exact h15
  have bB : (qW s 44 W (nI (rk k))).1 43 = B := by rw [← hB]; exact funext (fun i => q_rw_o (by decide))
  have bW : (qW s 44 W (nI (rk k))).1 44 W = nI (rk k) := q_rw
  have step := el_M_isLine_2 (d + 4) (nI W) a b s
  rw [hr, if_pos iW, if_pos iW, nI_cl (show W < 2 ^ 31 by omega), q_rw, h14, h15, dI_pred, dI_pred, nI_1, eW2] at step
  have two : ∀ (g : Nat → qMem → Int32), (∀ j t, FLN W (qW s 44 W (nI (rk k))) t → g j t = dI (hi c k j)) → nbs k = 2 → (∀ v, cTop (app c k v) = cTop c ∧ cN (app c k v) = cN c) → l_M_isLine_2 (d + 4) (nI W) a b s = mN (d + 1) W (lo k) g 2 0 (qW s 44 W (nI (rk k))) → NNk B n c k W p s (l_M_isLine_2 (d + 4) (nI W) a b s) := fun g hg h2 hv E => by
    obtain ⟨s2, t1, t2⟩ := m_mN (d := d + 1) (W := W) (lw := lo k) (up := hi c k) (g := g) (s0 := qW s 44 W (nI (rk k))) hn (by omega) (fun j hj => by have := lo_le k hk j hj; omega) (fun j => by have := hi_le hc (j := j) k hk; omega) hg 2 0 p (fun _ => 0) (qW s 44 W (nI (rk k))) FLN.rf (by omega) hp b5 b7 bB (fun i hi => absurd hi (Nat.not_lt_zero _))
    refine ⟨s2, F0.tr t1.m, by rw [t1 _ _ (by omega) (by omega)]; exact bW, ?_⟩
    rw [E, h2]
    rcases t2 with ⟨q, u1, u2, u3⟩ | ⟨x, u1, u2, u3, u4, u5⟩
    · exact Or.inl ⟨q, u1, u2, u3⟩
    · exact Or.inr ⟨x, u1, u2, u3, u4, by rw [(hv _).1, t1 _ _ (by omega) (by omega)]; exact b14, by rw [(hv _).2, t1 _ _ (by omega) (by omega)]; exact b15, fun i hi => u5 i (by omega)⟩
  have h : k = 0 ∨ k = 1 ∨ k = 2 ∨ k = 3 ∨ k = 4 ∨ k = 5 ∨ 6 ≤ k := by omega
  rcases h with h | h | h | h | h | h | h
  · subst h
    rw [if_neg (by decide), if_neg (by decide), if_neg (by decide), if_neg (by decide), if_pos (show nI (rk 0) = (4 : Int32) from rfl)] at step
    obtain ⟨s3, f3, -, h⟩ := m_num (d := d + 1) (W := W) (j := 0) (l := 1) (h := 5) hn (by omega) (by omega) (by omega) (by omega) hp b5 b7 bB
    unfold NNk
    rw [show nbs 0 = 1 from rfl, rdN, show lo 0 0 = 1 from rfl, show hi c 0 0 = 5 from rfl]
    rcases h with ⟨q, hr, ho, h12⟩ | ⟨x, hr, ho, g7, hx, h44⟩
    · have ho2 : m_M_isNumber (d + 4) (nI (W + 1)) 1 4 (qW s 44 W (nI (rk 0))) = some (0, s3) := ho
      rw [ho2, sm_some] at step
      rw [hr]
      exact ⟨s3, F0.tr f3.m, by rw [f3 _ _ (by omega) (by omega)]; exact bW, Or.inl ⟨q, rfl, step.trans (if_pos rfl), h12⟩⟩
    · have ho2 : m_M_isNumber (d + 4) (nI (W + 1)) 1 4 (qW s 44 W (nI (rk 0))) = some (1, s3) := ho
      rw [ho2, sm_some] at step
      dsimp only at step
      have h44' : s3.1 44 (W + 1) = nI x.1 := h44
      rw [if_neg (show ¬ (1 : Int32) = 0 from by decide), if_pos iW1, nI_cl (by omega), h44'] at step
      rw [hr]
      refine ⟨qW (qW s3 40 14 (nI x.1)) 40 15 0, (F0.tr f3.m).tr (fun o j b _ => by rw [q_rw_if, if_neg (fun z => b ⟨z.1, by omega⟩), q_rw_if, if_neg (fun z => b ⟨z.1, by omega⟩)]), ?_, Or.inr ⟨_, rfl, step, ?_, hx, ?_, ?_, fun i hi => ?_⟩⟩
      · rw [q_rw_o (by decide), q_rw_o (by decide), f3 _ _ (by omega) (by omega)]
        exact bW
      · rw [q_rw_k (by decide), q_rw_k (by decide)]
        exact g7
      · rw [q_rw_k (by decide), q_rw]
        rfl
      · rw [q_rw]
        rfl
      · have : i = 0 := by omega
        subst this
        rw [q_rw_o (by decide), q_rw_o (by decide), h44]
        rfl
  · subst h
    rw [if_neg (by decide), if_neg (by decide), if_neg (by decide), if_neg (by decide), if_neg (by decide), if_pos (show nI (rk 1) = (5 : Int32) from rfl)] at step
    exact two (fun j _ => dI (hi c 1 j)) (fun _ _ _ => rfl) rfl (fun v => ⟨rfl, rfl⟩) (step.trans rfl)
  · subst h
    rw [if_neg (by decide), if_neg (by decide), if_neg (by decide), if_neg (by decide), if_neg (by decide), if_neg (by decide), if_pos (show nI (rk 2) = (6 : Int32) from rfl)] at step
    obtain ⟨s3, f3, -, h⟩ := m_num (d := d + 1) (W := W) (j := 0) (l := 0) (h := cTop c) hn (by omega) (by omega) (by omega) (by omega) hp b5 b7 bB
    unfold NNk
    rw [show nbs 2 = 1 from rfl, rdN, show lo 2 0 = 0 from rfl, show hi c 2 0 = cTop c from rfl]
    rcases h with ⟨q, hr, ho, h12⟩ | ⟨x, hr, ho, g7, hx, h44⟩
    · have ho2 : m_M_isNumber (d + 4) (nI (W + 1)) 0 (dI (cTop c)) (qW s 44 W (nI (rk 2))) = some (0, s3) := ho
      rw [ho2, sm_some] at step
      rw [hr]
      exact ⟨s3, F0.tr f3.m, by rw [f3 _ _ (by omega) (by omega)]; exact bW, Or.inl ⟨q, rfl, step.trans (if_pos (Or.inl rfl)), h12⟩⟩
    · have ho2 : m_M_isNumber (d + 4) (nI (W + 1)) 0 (dI (cTop c)) (qW s 44 W (nI (rk 2))) = some (1, s3) := ho
      rw [ho2, sm_some] at step
      rw [hr]
      refine ⟨s3, F0.tr f3.m, by rw [f3 _ _ (by omega) (by omega)]; exact bW, Or.inr ⟨_, rfl, step.trans (if_pos (Or.inr rfl)), g7, hx, by rw [f3 _ _ (by omega) (by omega)]; exact b14, by rw [f3 _ _ (by omega) (by omega)]; exact b15, fun i hi => ?_⟩⟩
      have : i = 0 := by omega
      subst this
      rw [h44]
      rfl
  · subst h
    rw [if_neg (by decide), if_neg (by decide), if_neg (by decide), if_neg (by decide), if_neg (by decide), if_neg (by decide), if_neg (by decide), if_pos (show nI (rk 3) = (7 : Int32) from rfl)] at step
    exact two (fun j _ => dI (hi c 3 j)) (fun _ _ _ => rfl) rfl (fun v => ⟨rfl, rfl⟩) (step.trans rfl)
  · subst h
    rw [if_neg (by decide), if_neg (by decide), if_neg (by decide), if_neg (by decide), if_neg (by decide), if_neg (by decide), if_neg (by decide), if_neg (by decide), if_pos (show nI (rk 4) = (8 : Int32) from rfl)] at step
    refine two (fun j t => if j = 0 then dI (cN c) else t.1 40 14) (fun j t hF => ?_) rfl (fun v => ⟨rfl, rfl⟩) (step.trans rfl)
    show (if j = 0 then dI (cN c) else t.1 40 14) = dI (if j = 0 then cN c else cTop c + 1)
    by_cases z : j = 0
    · rw [if_pos z, if_pos z]
    · rw [if_neg z, if_neg z, hF _ _ (by omega) (by omega), b14]
      rfl
  · subst h
    rw [if_neg (by decide), if_neg (by decide), if_neg (by decide), if_neg (by decide), if_neg (by decide), if_neg (by decide), if_neg (by decide), if_neg (by decide), if_neg (by decide), if_pos (show nI (rk 5) = (9 : Int32) from rfl)] at step
    refine ⟨qW (qW s 44 W (nI (rk 5))) 40 15 0, F0.tr (fun o j b _ => by rw [q_rw_if, if_neg (fun z => b ⟨z.1, by omega⟩)]), by rw [q_rw_o (by decide)]; exact bW, Or.inr ⟨(p, fun _ => 0), rfl, step, by rw [q_rw_k (by decide)]; exact b7, hp, by rw [q_rw_k (by decide)]; exact b14, by rw [q_rw]; rfl, fun i hi => absurd hi (Nat.not_lt_zero _)⟩⟩
  · obtain ⟨m, rfl⟩ : ∃ m, k = m + 6 := ⟨k - 6, by omega⟩
    have hm : m < 4 := by omega
    have hN := h6 h
    have e3 := nbs6 m hm
    have em : rk (m + 6) = m := by
      have : m = 0 ∨ m = 1 ∨ m = 2 ∨ m = 3 := by omega
      rcases this with z | z | z | z <;> (subst z; rfl)
    have n5 : ¬ nI (cN c) = (5 : Int32) := by
      show ¬ nI (cN c) = nI 5
      rw [nI_eq (by omega) (by omega)]
      omega
    generalize hsP : qW (qW s 44 W (nI (rk (m + 6)))) 40 15 (nI (cN c + 1)) = sP
    have FP : FLM W s sP := by
      rw [← hsP]
      exact F0.tr (fun o j b _ => by rw [q_rw_if, if_neg (fun z => b ⟨z.1, by omega⟩)])
    have E1 : m_M_isOneLine (d + 4) (nI W) (qW s 44 W (nI (rk (m + 6)))) = mN d W (lo (m + 6)) (fun j _ => dI (hi c (m + 6) j)) 3 0 sP := by
      rw [e_M_isOneLine, b15, if_neg n5, nI_1, nI_1, eW2, eW3, hsP]
      rfl
    have E2 : l_M_isLine_2 (d + 4) (nI W) a b s = (m_M_isOneLine (d + 4) (nI W) (qW s 44 W (nI (rk (m + 6))))).bind (fun q1 => (if q1.1 = 0 ∨ q1.1 = 1 then some (q1.1, q1.2) else none)) := by
      rw [step]
      have : m = 0 ∨ m = 1 ∨ m = 2 ∨ m = 3 := by omega
      rcases this with z | z | z | z
      · subst z
        rw [if_pos (show nI (rk (0 + 6)) = (0 : Int32) from rfl)]
      · subst z
        rw [if_neg (by decide), if_pos (show nI (rk (1 + 6)) = (1 : Int32) from rfl)]
      · subst z
        rw [if_neg (by decide), if_neg (by decide), if_pos (show nI (rk (2 + 6)) = (2 : Int32) from rfl)]
      · subst z
        rw [if_neg (by decide), if_neg (by decide), if_neg (by decide), if_pos (show nI (rk (3 + 6)) = (3 : Int32) from rfl)]
    obtain ⟨s2, t1, t2⟩ := m_mN (d := d) (n := n) (B := B) (W := W) (lw := lo (m + 6)) (up := hi c (m + 6)) (g := fun j _ => dI (hi c (m + 6) j)) (s0 := sP) hn (by omega) (fun j hj => by have := lo_le (m + 6) hk j hj; omega) (fun j => by have := hi_le hc (j := j) (m + 6) hk; omega) (fun _ _ _ => rfl) 3 0 p (fun _ => 0) sP FLN.rf (by omega) hp (by rw [← hsP, q_rw_k (by decide)]; exact b5) (by rw [← hsP, q_rw_k (by decide)]; exact b7) (by rw [← hsP, ← bB]; exact funext (fun i => q_rw_o (by decide))) (fun i hi => absurd hi (Nat.not_lt_zero _))
    refine ⟨s2, FP.tr t1.m, ?_, ?_⟩
    · rw [t1 _ _ (by omega) (by omega), ← hsP, q_rw_o (by decide)]
      exact bW
    · rw [E2, E1, e3]
      rcases t2 with ⟨q, u1, u2, u3⟩ | ⟨x, u1, u2, u3, u4, u5⟩
      · exact Or.inl ⟨q, u1, by rw [u2, sm_some]; exact if_pos (Or.inl rfl), u3⟩
      · refine Or.inr ⟨x, u1, by rw [u2, sm_some]; exact if_pos (Or.inr rfl), u3, u4, ?_, ?_, fun i hi => u5 i (by omega)⟩
        · rw [t1 _ _ (by omega) (by omega), ← hsP, q_rw_k (by decide)]
          exact b14
        · rw [t1 _ _ (by omega) (by omega), ← hsP, q_rw]
          rfl
end MLINE
