/-! some of a company: the same goal -/
def eR (c2 c : Co) (M : Nat → Bool) (e : Nat → Nat) (st x2 x : Nat) : Prop := (x2 < 5 ^ cN c2 ∧ ∀ a, a < cN c2 → cDig x2 a ≤ cTop c2) ∧ (x < 5 ^ cN c ∧ ∀ p, p < cN c → cDig x p ≤ cTop c) ∧ (∀ a, a < cN c2 → cDig x2 a = cDig x (e a)) ∧ ∀ p, p < cN c → M p = false → cDig x p = cDig st p
section SUBF
variable {c2 c : Co} {M : Nat → Bool} {e : Nat → Nat} {st2 st : Nat}
theorem e_mvs (hk2 : cOk c2) (hk : cOk c) (h : Emb c2 c M e) {x2 x a u y2 : Nat} (hR : eR c2 c M e st x2 x) (hm : mvs c2 ALL x2 a u y2) : ∃ y, mvs c M x (e a) u y ∧ eR c2 c M e st y2 y := by
  obtain ⟨ha, -, hu⟩ := hm
  obtain ⟨ea, eM, -⟩ := h.2.2.2.1 a ha
  obtain ⟨⟨b1, b2⟩, ⟨b3, b4⟩, b5, b6⟩ := hR
  rcases hu with ⟨u1, u2, u3⟩ | ⟨u1, u2, u3⟩
  · have u4 := u3
    rw [e_rise h b5 ha] at u4
    obtain ⟨m1, m2⟩ := mv_up hk2 rfl b1 b2 ha (cRise_lt u3).1
    obtain ⟨n1, n2⟩ := mv_up hk rfl b3 b4 ea (cRise_lt u4).1
    have o2 := (mv_up_ok (M := ALL) hk2 b1 b2 ha (by rw [u3]; rfl)).2
    have o1 := (mv_up_ok (M := M) hk b3 b4 ea (by rw [eM, u4]; rfl)).2
    refine ⟨x + 5 ^ e a, ⟨ea, eM, Or.inl ⟨u1, rfl, u4⟩⟩, ?_⟩
    rw [u2]
    refine ⟨⟨m1, o2⟩, ⟨n1, o1⟩, fun b hb => ?_, fun p hp hM => ?_⟩
    · rw [m2 b hb, n2 (e b) (h.2.2.2.1 b hb).1, b5 a ha, b5 b hb]
      have := e_inj h hb ha
      by_cases z : b = a
      · rw [if_pos z, if_pos (this.mpr z)]
      · rw [if_neg z, if_neg (fun y => z (this.mp y))]
    · rw [n2 p hp, if_neg (fun z => by rw [z, eM] at hM; cases hM)]
      exact b6 p hp hM
  · have u4 := u3
    rw [e_sink h b5 ha] at u4
    obtain ⟨m1, m2⟩ := mv_dn hk2 rfl b1 b2 ha (cSink_lt u3).1
    obtain ⟨n1, n2⟩ := mv_dn hk rfl b3 b4 ea (cSink_lt u4).1
    have o2 := (mv_dn_ok (M := ALL) hk2 b1 b2 ha (by rw [u3]; rfl)).2
    have o1 := (mv_dn_ok (M := M) hk b3 b4 ea (by rw [eM, u4]; rfl)).2
    refine ⟨x - 5 ^ e a, ⟨ea, eM, Or.inr ⟨u1, rfl, u4⟩⟩, ?_⟩
    rw [u2]
    refine ⟨⟨m1.2, o2⟩, ⟨n1.2, o1⟩, fun b hb => ?_, fun p hp hM => ?_⟩
    · rw [m2 b hb, n2 (e b) (h.2.2.2.1 b hb).1, b5 a ha, b5 b hb]
      have := e_inj h hb ha
      by_cases z : b = a
      · rw [if_pos z, if_pos (this.mpr z)]
      · rw [if_neg z, if_neg (fun y => z (this.mp y))]
    · rw [n2 p hp, if_neg (fun z => by rw [z, eM] at hM; cases hM)]
      exact b6 p hp hM
theorem e_mvs2 (hk2 : cOk c2) (hk : cOk c) (h : Emb c2 c M e) {x2 x p u y : Nat} (hR : eR c2 c M e st x2 x) (hm : mvs c M x p u y) : ∃ a y2, mvs c2 ALL x2 a u y2 ∧ eR c2 c M e st y2 y := by
  obtain ⟨hp, hM, hu⟩ := hm
  obtain ⟨a, ha, rfl⟩ := h.2.2.2.2.2 p hp hM
  have b5 := hR.2.2.1
  have key : ∃ y2, mvs c2 ALL x2 a u y2 := by
    rcases hu with ⟨u1, u2, u3⟩ | ⟨u1, u2, u3⟩
    · exact ⟨x2 + 5 ^ a, ha, rfl, Or.inl ⟨u1, rfl, by rw [e_rise h b5 ha]; exact u3⟩⟩
    · exact ⟨x2 - 5 ^ a, ha, rfl, Or.inr ⟨u1, rfl, by rw [e_sink h b5 ha]; exact u3⟩⟩
  obtain ⟨y2, hy2⟩ := key
  obtain ⟨y3, h1, h2⟩ := e_mvs hk2 hk h hR hy2
  have e3 : y3 = y := by
    obtain ⟨-, -, h1⟩ := h1
    rcases hu with ⟨u1, u2, u3⟩ | ⟨u1, u2, u3⟩
    · rcases h1 with ⟨v1, v2, -⟩ | ⟨v1, v2, -⟩
      · rw [u2, v2]
      · omega
    · rcases h1 with ⟨v1, v2, -⟩ | ⟨v1, v2, -⟩
      · omega
      · rw [u2, v2]
  rw [e3] at h2
  exact ⟨a, y2, hy2, h2⟩
theorem e_found (hk2 : cOk c2) (hk : cOk c) (h : Emb c2 c M e) {b2 b : Bf} (h2 : bAll c2 ALL st2 b2) (h1 : bAll c M st b) (hst : eR c2 c M e st st2 st) : ∀ i, i < bN b2 → ∃ j, j < bN b ∧ eR c2 c M e st (bF b2 i) (bF b j) := by
  intro i
  induction i using Nat.strongRecOn with
  | ind i ih =>
    intro hi
    rcases Nat.eq_zero_or_pos i with z | z
    · refine ⟨0, h1.2.2.2.1, ?_⟩
      rw [z, h2.2.2.2.2.1, h1.2.2.2.2.1]
      exact hst
    · obtain ⟨j, a, u, e2, q1, q2, -⟩ := h2.2.1 i z hi
      obtain ⟨k, k1, k2⟩ := ih j q1 (by omega)
      obtain ⟨y, y1, y2⟩ := e_mvs hk2 hk h k2 q2
      obtain ⟨m, m1, m2⟩ := (h1.1.2.2.1 y).mp (h1.2.2.1 k k1 k1 _ _ _ y1)
      exact ⟨m, m1, by rw [m2]; exact y2⟩
theorem e_found2 (hk2 : cOk c2) (hk : cOk c) (h : Emb c2 c M e) {b2 b : Bf} (h2 : bAll c2 ALL st2 b2) (h1 : bAll c M st b) (hst : eR c2 c M e st st2 st) : ∀ i, i < bN b → ∃ j, j < bN b2 ∧ eR c2 c M e st (bF b2 j) (bF b i) := by
  intro i
  induction i using Nat.strongRecOn with
  | ind i ih =>
    intro hi
    rcases Nat.eq_zero_or_pos i with z | z
    · refine ⟨0, h2.2.2.2.1, ?_⟩
      rw [z, h2.2.2.2.2.1, h1.2.2.2.2.1]
      exact hst
    · obtain ⟨j, a, u, e2, q1, q2, -⟩ := h1.2.1 i z hi
      obtain ⟨k, k1, k2⟩ := ih j q1 (by omega)
      obtain ⟨a2, y, y1, y2⟩ := e_mvs2 hk2 hk h k2 q2
      obtain ⟨m, m1, m2⟩ := (h2.1.2.2.1 y).mp (h2.2.2.1 k k1 k1 _ _ _ y1)
      exact ⟨m, m1, by rw [m2]; exact y2⟩
theorem code_eq {n x y : Nat} (hx : x < 5 ^ n) (hy : y < 5 ^ n) (h : ∀ p, p < n → cDig x p = cDig y p) : x = y := by
  rw [← cVal_cDig hx, ← cVal_cDig hy]
  exact cVal_cong n 0 (fun p _ hp => h p (by omega))
theorem e_goal (hk2 : cOk c2) (hk : cOk c) (h : Emb c2 c M e) (hst : eR c2 c M e st st2 st) {x2 x : Nat} (hR : eR c2 c M e st x2 x) : x2 = gM c2 ALL st2 ↔ x = gM c M st := by
  have s5 := hst.2.2.1
  obtain ⟨⟨b1, b2⟩, ⟨b3, b4⟩, b5, b6⟩ := hR
  have same : ∀ a, a < cN c2 → cDig (gM c2 ALL st2) a = cDig (gM c M st) (e a) := by
    intro a ha
    obtain ⟨ea, eM, eP⟩ := h.2.2.2.1 a ha
    rw [gM_dig hk2 ha, gM_dig hk ea, eP 0 (by omega), eM, h.1, s5 a ha]
    by_cases z : cP c (e a) 0 = 3
    · rw [if_neg (fun y => y.2 z), if_neg (fun y => y.2 z)]
    · rw [if_pos ⟨rfl, z⟩, if_pos ⟨rfl, z⟩]
  refine ⟨fun z => ?_, fun z => ?_⟩
  · refine code_eq b3 (gM_lt hk) (fun p hp => ?_)
    cases hM : M p with
    | true =>
      obtain ⟨a, ha, rfl⟩ := h.2.2.2.2.2 p hp hM
      rw [← b5 a ha, z, same a ha]
    | false =>
      rw [gM_dig hk hp, hM, if_neg (fun y => by cases y.1)]
      exact b6 p hp hM
  · refine code_eq b1 (gM_lt hk2) (fun a ha => ?_)
    rw [same a ha, b5 a ha, z]
theorem e_far (hk2 : cOk c2) (hk : cOk c) (h : Emb c2 c M e) (hst : eR c2 c M e st st2 st) : (gFar c2 ALL st2).isSome = (gFar c M st).isSome := by
  have h2 := bfs_all (M := ALL) hk2 hst.1.1 hst.1.2
  have h1 := bfs_all (M := M) hk hst.2.1.1 hst.2.1.2
  unfold gFar
  rw [Bool.eq_iff_iff, h2.1.2.2.1, h1.1.2.2.1]
  refine ⟨fun ⟨i, i1, i2⟩ => ?_, fun ⟨i, i1, i2⟩ => ?_⟩
  · obtain ⟨j, j1, j2⟩ := e_found hk2 hk h h2 h1 hst i i1
    exact ⟨j, j1, (e_goal hk2 hk h hst j2).mp i2⟩
  · obtain ⟨j, j1, j2⟩ := e_found2 hk2 hk h h2 h1 hst i i1
    exact ⟨j, j1, (e_goal hk2 hk h hst j2).mpr i2⟩
end SUBF
