/-! the odds -/
def chc (part w : Nat) : Nat → Nat → Nat → Nat
  | _, 0, a => a
  | p, q + 1, a => chc part w (p + 1) q (bif w.testBit p then a * part else a * (10 - part))
def mOf (w : Nat) : Nat → Bool := fun q => w.testBit q
/-- all that can be, and what is good -/
def tot (n part : Nat) : Nat → Nat → Nat → Nat
  | _, 0, a => a
  | w, q + 1, a => tot n part (w + 1) q (a + chc part w 0 n 1)
def good (c : Co) (st part : Nat) : Nat → Nat → Nat → Nat
  | _, 0, a => a
  | w, q + 1, a => good c st part (w + 1) q (a + bif (gFar c (mOf w) st).isSome then chc part w 0 (cN c) 1 else 0)
theorem tot_all : ∀ n, n < 6 → ∀ part, part < 11 → tot n part 0 (2 ^ n) 0 = 10 ^ n := by decide +kernel
theorem shl_all : ∀ n, n < 6 → (1 : Int32) <<< (nI n &&& 31) = nI (2 ^ n) := by decide +kernel
theorem pow2_le : ∀ n, n < 6 → 2 ^ n ≤ 32 := by decide +kernel
theorem pow10_le : ∀ n, n < 6 → 10 ^ n ≤ 100000 ∧ 1 ≤ 10 ^ n := by decide +kernel
theorem good_le {c : Co} {st part : Nat} : ∀ (q w a b : Nat), a ≤ b → good c st part w q a ≤ tot (cN c) part w q b := by
  intro q
  induction q with
  | zero => intro w a b h; exact h
  | succ q ih =>
    intro w a b h
    refine ih _ _ _ ?_
    cases (gFar c (mOf w) st).isSome with
    | true => show a + chc part w 0 (cN c) 1 ≤ b + chc part w 0 (cN c) 1; omega
    | false => show a + 0 ≤ b + chc part w 0 (cN c) 1; omega
section ODDS
variable {d : Nat} {c : Co} {lv : Nat → Nat}
theorem g_chance1 {part w : Nat} (hp : part ≤ 10) (hw : w < 32) (h5 : cN c ≤ 5) : ∀ (q p a : Nat) (s : qMem), p + q = cN c → s.1 1 1 = nI (cN c) → l_G_chanceOf_1 d (nI w) (nI part) (nI a) (nI p) s = some (nI (chc part w p q a), s) := by
  intro q
  induction q with
  | zero =>
    intro p a s hpq h1
    rw [el_G_chanceOf_1, h1, if_pos (nI_le (by omega) (by omega))]
    rfl
  | succ q ih =>
    intro p a s hpq h1
    have hb := has_all w hw p (by omega)
    have e10 : (10 : Int32) - nI part = nI (10 - part) := pk_sub hp
    rw [el_G_chanceOf_1, h1, if_neg (by rw [nI_leI (by omega) (by omega)]; omega), e10, pk_mul, pk_mul, nI_1, chc]
    cases z : w.testBit p with
    | true =>
      rw [if_pos (hb.mpr z)]
      exact ih (p + 1) _ s (by omega) h1
    | false =>
      rw [if_neg (fun y => by rw [hb.mp y] at z; cases z)]
      exact ih (p + 1) _ s (by omega) h1
theorem gcd_step (a b : Nat) : Nat.gcd a b = Nat.gcd b (a % b) := by
  rw [Nat.gcd_comm a b, Nat.gcd_rec b a, Nat.gcd_comm]
theorem g_gcd1 : ∀ (k a b i : Nat) (s : qMem), a < 2 ^ 31 → b < 2 ^ 31 → b < 2 ^ k → i + 2 * k ≤ 100 → l_G_commonDivisor_1 d (nI a) (nI b) (nI i) s = some (nI (Nat.gcd a b), s) := by
  have z0 : ∀ (a i : Nat) (s : qMem), l_G_commonDivisor_1 d (nI a) (nI 0) (nI i) s = some (nI (Nat.gcd a 0), s) := by
    intro a i s
    rw [el_G_commonDivisor_1, Nat.gcd_zero_right]
    by_cases y : (100 : Int32) ≤ nI i
    · rw [if_pos y]
    · rw [if_neg y, if_pos (by rfl)]
  have stp : ∀ (a b i : Nat) (s : qMem), a < 2 ^ 31 → b < 2 ^ 31 → 0 < b → i < 100 → l_G_commonDivisor_1 d (nI a) (nI b) (nI i) s = l_G_commonDivisor_1 d (nI b) (nI (a % b)) (nI (i + 1)) s := by
    intro a b i s ha hb hb0 hi
    have n100 : ¬ (100 : Int32) ≤ nI i := by
      show ¬ nI 100 ≤ nI i
      rw [nI_leI (by omega) (by omega)]
      omega
    have nb : ¬ nI b = 0 := by
      show ¬ nI b = nI 0
      rw [nI_eq (by omega) (by omega)]
      omega
    rw [el_G_commonDivisor_1, if_neg n100, if_neg nb, if_neg nb, pk_rem ha hb0 hb, nI_1]
  intro k
  induction k with
  | zero =>
    intro a b i s ha hb hk hi
    have : b = 0 := by
      rw [Nat.pow_zero] at hk
      omega
    rw [this]
    exact z0 a i s
  | succ k ih =>
    intro a b i s ha hb hk hi
    rcases Nat.eq_zero_or_pos b with y | y
    · rw [y]
      exact z0 a i s
    · have hr := Nat.mod_lt a y
      rw [stp a b i s ha hb y (by omega), gcd_step a b]
      rcases Nat.eq_zero_or_pos (a % b) with w | w
      · rw [w]
        exact z0 b (i + 1) s
      · have hr2 := Nat.mod_lt b w
        rw [stp b (a % b) (i + 1) s hb (by omega) w (by omega), gcd_step b (a % b)]
        refine ih _ _ _ s (by omega) (by omega) ?_ (by omega)
        have hdm := Nat.div_add_mod b (a % b)
        have h1 : 1 ≤ b / (a % b) := Nat.div_pos (by omega) w
        have h2 : a % b ≤ (a % b) * (b / (a % b)) := Nat.le_mul_of_pos_right _ h1
        rw [Nat.pow_succ] at hk
        omega
/-- all who are of w can be up: asked of the others' stair -/
theorem g_can {w : Nat} {s : qMem} (hk : cOk c) (hl : lvOk c lv) (hw : w < 32) (hC : CI s c lv) : ∃ s2, m_G_canAllBeUp (d + 7) (nI w) s = some (b2i (gFar c (mOf w) (cSum lv (cN c))).isSome, s2) ∧ CI s2 c lv ∧ FH s s2 := by
  have hM : ∀ q, q < 5 → mOf w q = w.testBit q := fun _ _ => rfl
  obtain ⟨k2, l2⟩ := sub_ok (M := mOf w) hk hl
  obtain ⟨s1, g1, g2, g3, g4, g5⟩ := t_copySome (d := d + 4) (lv := lv) (M := mOf w) (s := s) hk hw hM hC.1 hC.2.1
  have F1 : FH s (qW s1 0 6 0) := ⟨fun o k h1 h2 h3 h4 => by
    rw [q_rw_if, if_neg h4]
    exact g4 o k h1, g5⟩
  have hR' : RT (qW s1 0 6 0) 10 (cSub c lv (mOf w)) := (FG.rf (s := s1)).w6.RT (Or.inr rfl) g2
  have hL' : RL (qW s1 0 6 0) 18 (cN (cSub c lv (mOf w))) (lSub c lv (mOf w)) := fun p hp => by
    rw [q_rw_o (by decide)]
    exact g3 p hp
  have hS' : SI (qW s1 0 6 0) := by
    obtain ⟨n, n1, n2, f, n3, n4⟩ := hC.2.2.1
    exact ⟨n, n1, by rw [q_rw_o (by decide), g4 _ _ (by omega)]; exact n2, f, fun i hi => ⟨(n3 i hi).1, by rw [q_rw_o (by decide), g4 _ _ (by omega)]; exact (n3 i hi).2⟩, fun k hk => by rw [q_rw_o (by decide), g4 _ _ (by omega)]; exact n4 k hk⟩
  obtain ⟨s2, j1, j2, j3, j4, j5⟩ := s_look (d := d + 1) (t := 10) (r := 18) (c := cSub c lv (mOf w)) (lv := lSub c lv (mOf w)) (Or.inr (Or.inr ⟨rfl, rfl⟩)) k2 l2 hS' hR' hL'
  rw [gM_all k2 l2] at j4
  have hf := s_fewest (d := d + 3) (c := cSub c lv (mOf w)) k2 j2 j4
  have F2 : FH s s2 := F1.tr j5.FG.FH
  have hC2 : CI s2 c lv := by
    refine ⟨?_, fun p hp => by rw [F2.1 _ _ (by omega) (by omega) (by omega) (by omega)]; exact hC.2.1 p hp, RS_SI (c := cSub c lv (mOf w)) k2.2.1 j3 j2, Or.inl (by rw [j5.1 _ _ (by omega)]; exact q_rw)⟩
    obtain ⟨a1, a2, a3, a4⟩ := hC.1
    have e : ∀ o k, 1 ≤ o → o ≤ 9 → s2.1 o k = s.1 o k := fun o k h1 h2 => F2.1 o k (by omega) (by omega) (by omega) (by omega)
    refine ⟨by rw [e _ _ (by omega) (by omega)]; exact a1, by rw [e _ _ (by omega) (by omega)]; exact a2, fun i hi => ?_, fun p hp => ?_⟩
    · rw [e _ _ (by omega) (by omega), e _ _ (by omega) (by omega)]
      exact a3 i hi
    · rw [e _ _ (by omega) (by omega), e _ _ (by omega) (by omega), e _ _ (by omega) (by omega), e _ _ (by omega) (by omega), e _ _ (by omega) (by omega), e _ _ (by omega) (by omega)]
      exact a4 p hp
  have hfar := sub_far (M := mOf w) hk hl
  refine ⟨s2, ?_, hC2, F2⟩
  rw [e_G_canAllBeUp, g1, sm_some, j1, sm_some, hf, sm_some]
  dsimp only
  cases hg : gFar (cSub c lv (mOf w)) ALL (cSum (lSub c lv (mOf w)) (cN (cSub c lv (mOf w)))) with
  | none =>
    rw [hg] at hfar
    rw [← hfar]
    exact if_pos rfl
  | some f =>
    have hf3 := gFar_lt k2 l2 hg
    rw [hg] at hfar
    rw [← hfar]
    exact if_neg (show ¬ oI (some f) = -1 from nI_m1 (by omega))
theorem chc_all : ∀ n, n < 6 → ∀ part, part < 11 → ∀ w, w < 32 → chc part w 0 n 1 ≤ 100000 := by decide +kernel
theorem g_odds2 {part w0 : Nat} {pt : Int32} (hk : cOk c) (hl : lvOk c lv) (hp : part ≤ 10) {tt : Nat} : ∀ (q w a : Nat) (s : qMem), w + q = 2 ^ cN c → CI s c lv → ∃ s2, l_G_odds_2 (d + 7) (nI part) pt (nI a) (nI tt) (nI w) s = l_G_odds_2 (d + 7) (nI part) pt (nI (good c (cSum lv (cN c)) part w q a)) (nI tt) (nI (2 ^ cN c)) s2 ∧ CI s2 c lv ∧ FH s s2 := by
  have h5 := hk.2.1
  have h2n := pow2_le (cN c) (by omega)
  intro q
  induction q with
  | zero =>
    intro w a s hw hC
    rw [show w = 2 ^ cN c by omega]
    exact ⟨s, rfl, hC, FH.rf⟩
  | succ q ih =>
    intro w a s hw hC
    have hlt : ¬ nI (2 ^ cN c) ≤ nI w := by
      rw [nI_leI (by omega) (by omega)]
      omega
    have hch := g_chance1 (d := d + 6) (c := c) (w := w) hp (by omega) h5 (cN c) 0 1 s (by omega) hC.1.2.1
    have hch2 : l_G_chanceOf_1 (d + 6) (nI w) (nI part) 1 0 s = some (nI (chc part w 0 (cN c) 1), s) := hch
    have hle := chc_all (cN c) (by omega) part (by omega) w (by omega)
    rw [el_G_odds_2, hC.1.2.1, shl_all (cN c) (by omega), if_neg hlt, e_G_chanceOf, hch2, sm_some, nI_1, good]
    dsimp only
    by_cases z : chc part w 0 (cN c) 1 = 0
    · have ez : (bif (gFar c (mOf w) (cSum lv (cN c))).isSome then chc part w 0 (cN c) 1 else 0) = 0 := by
        rw [z]
        cases (gFar c (mOf w) (cSum lv (cN c))).isSome <;> rfl
      rw [ez, z, if_pos (show nI 0 ≤ (0 : Int32) from by decide)]
      exact ih (w + 1) (a + 0) s (by omega) hC
    · have nz : ¬ nI (chc part w 0 (cN c) 1) ≤ 0 := by
        show ¬ nI (chc part w 0 (cN c) 1) ≤ nI 0
        rw [nI_leI (by omega) (by omega)]
        omega
      obtain ⟨s2, g1, g2, g3⟩ := g_can (d := d) (w := w) hk hl (by omega) hC
      rw [if_neg nz, g1, sm_some]
      dsimp only
      cases (gFar c (mOf w) (cSum lv (cN c))).isSome with
      | false =>
        rw [bf0]
        obtain ⟨s3, m1, m2, m3⟩ := ih (w + 1) (a + 0) s2 (by omega) g2
        exact ⟨s3, m1, m2, g3.tr m3⟩
      | true =>
        rw [bt0, nI_add]
        obtain ⟨s3, m1, m2, m3⟩ := ih (w + 1) (a + chc part w 0 (cN c) 1) s2 (by omega) g2
        exact ⟨s3, m1, m2, g3.tr m3⟩
end ODDS
