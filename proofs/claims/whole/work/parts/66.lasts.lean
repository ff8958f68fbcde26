/-! who can make the last move -/
def orbs (h : Nat → Bool) : Nat → Nat → Nat → Nat
  | _, 0, a => a
  | p, q + 1, a => orbs h (p + 1) q (bif h p then orb a p else a)
theorem orbs_lt {h : Nat → Bool} : ∀ (q p a : Nat), p + q ≤ 5 → a < 32 → orbs h p q a < 32 := by
  intro q
  induction q with
  | zero => intro p a _ h; exact h
  | succ q ih =>
    intro p a hp ha
    rw [orbs]
    refine ih _ _ (by omega) ?_
    cases h p with
    | true => exact orb_lt a ha p (by omega)
    | false => exact ha
theorem orbs_bit {h : Nat → Bool} : ∀ (q p a : Nat), p + q ≤ 5 → a < 32 → ∀ r, r < 5 → ((orbs h p q a).testBit r = true ↔ a.testBit r = true ∨ p ≤ r ∧ r < p + q ∧ h r = true) := by
  intro q
  induction q with
  | zero => intro p a _ _ r _; exact ⟨Or.inl, fun x => x.elim id (fun y => by omega)⟩
  | succ q ih =>
    intro p a hp ha r hr
    rw [orbs]
    cases hh : h p with
    | true =>
      rw [show (bif true then orb a p else a) = orb a p from rfl, ih _ _ (by omega) (orb_lt a ha p (by omega)) r hr, orb_bit a ha p (by omega) r hr, Bool.or_eq_true, decide_eq_true_eq]
      refine ⟨fun x => ?_, fun x => ?_⟩
      · rcases x with (x | x) | ⟨x, y, z⟩
        · exact Or.inl x
        · exact Or.inr ⟨by omega, by omega, by rw [x]; exact hh⟩
        · exact Or.inr ⟨by omega, by omega, z⟩
      · rcases x with x | ⟨x, y, z⟩
        · exact Or.inl (Or.inl x)
        · by_cases w : r = p
          · exact Or.inl (Or.inr w)
          · exact Or.inr ⟨by omega, by omega, z⟩
    | false =>
      rw [show (bif false then orb a p else a) = a from rfl, ih _ _ (by omega) ha r hr]
      refine ⟨fun x => ?_, fun x => ?_⟩
      · rcases x with x | ⟨x, y, z⟩
        · exact Or.inl x
        · exact Or.inr ⟨by omega, by omega, z⟩
      · rcases x with x | ⟨x, y, z⟩
        · exact Or.inl x
        · by_cases w : r = p
          · rw [w, hh] at z
            cases z
          · exact Or.inr ⟨by omega, by omega, z⟩
theorem orbs_no {h : Nat → Bool} : ∀ (q p a : Nat), (∀ r, p ≤ r → r < p + q → h r = false) → orbs h p q a = a := by
  intro q
  induction q with
  | zero => intro p a _; rfl
  | succ q ih =>
    intro p a hh
    rw [orbs, hh p (Nat.le_refl _) (by omega), show (bif false then orb a p else a) = a from rfl]
    exact ih _ _ (fun r h1 h2 => hh r (by omega) (by omega))
theorem bit_eq : ∀ a, a < 32 → ∀ b, b < 32 → (∀ r, r < 5 → a.testBit r = b.testBit r) → a = b := by decide +kernel
def lstS (c : Co) (b : Bf) (g f p : Nat) : Bool := decide (cP c p 0 ≠ 3) && (decide (bD b (g - 5 ^ p) = some (f - 1)) && cRise c ALL (cDig (g - 5 ^ p)) p)
def lstM (c : Co) (b : Bf) (g f i p : Nat) : Bool := decide (bD b (bF b i) = some (f - 1)) && (cRise c ALL (cDig (bF b i)) p && decide (bF b i + 5 ^ p = g))
def lsts (c : Co) (b : Bf) (g f : Nat) : Nat → Nat → Nat → Nat
  | _, 0, a => a
  | i, q + 1, a => lsts c b g f (i + 1) q (orbs (lstM c b g f i) 0 (cN c) a)
theorem lsts_lt {c : Co} {b : Bf} {g f : Nat} (hk : cOk c) : ∀ (q i a : Nat), a < 32 → lsts c b g f i q a < 32 := by
  have h5 := hk.2.1
  intro q
  induction q with
  | zero => intro i a h; exact h
  | succ q ih => intro i a h; exact ih _ _ (orbs_lt _ _ _ (by omega) h)
theorem lsts_bit {c : Co} {b : Bf} {g f : Nat} (hk : cOk c) : ∀ (q i a : Nat), a < 32 → ∀ r, r < 5 → ((lsts c b g f i q a).testBit r = true ↔ a.testBit r = true ∨ r < cN c ∧ ∃ j, i ≤ j ∧ j < i + q ∧ lstM c b g f j r = true) := by
  have h5 := hk.2.1
  intro q
  induction q with
  | zero => intro i a _ r _; exact ⟨Or.inl, fun x => x.elim id (fun ⟨_, j, y⟩ => by omega)⟩
  | succ q ih =>
    intro i a ha r hr
    rw [lsts, ih _ _ (orbs_lt _ _ _ (by omega) ha) r hr, orbs_bit _ _ _ (by omega) ha r hr]
    refine ⟨fun x => ?_, fun x => ?_⟩
    · rcases x with (x | ⟨x, y, z⟩) | ⟨x, j, y, z, w⟩
      · exact Or.inl x
      · exact Or.inr ⟨by omega, i, by omega, by omega, z⟩
      · exact Or.inr ⟨x, j, by omega, by omega, w⟩
    · rcases x with x | ⟨x, j, y, z, w⟩
      · exact Or.inl (Or.inl x)
      · by_cases e : j = i
        · rw [e] at w
          exact Or.inl (Or.inr ⟨by omega, by omega, w⟩)
        · exact Or.inr ⟨x, j, by omega, by omega, w⟩
theorem dig_le {x p : Nat} (h : 0 < cDig x p) : 5 ^ p ≤ x := by
  unfold cDig at h
  rcases Nat.lt_or_ge x (5 ^ p) with z | z
  · rw [Nat.div_eq_of_lt z] at h
    omega
  · exact z
/-- both sides say the same -/
theorem lst_same {c : Co} {st f : Nat} {b : Bf} (hk : cOk c) (hB : bAll c ALL st b) : orbs (lstS c b (gM c ALL st) f) 0 (cN c) 0 = lsts c b (gM c ALL st) f 0 (bN b) 0 := by
  have h5 := hk.2.1
  have h4 := hk.1
  refine bit_eq _ (orbs_lt _ _ _ (by omega) (by omega)) _ (lsts_lt hk _ _ _ (by omega)) (fun r hr => ?_)
  rw [Bool.eq_iff_iff, orbs_bit _ _ _ (by omega) (by omega) r hr, lsts_bit hk _ _ _ (by omega) r hr]
  refine or_congr Iff.rfl ⟨fun ⟨_, h1, h2⟩ => ⟨by omega, ?_⟩, fun ⟨h1, j, h2, h3, h4⟩ => ⟨by omega, by omega, ?_⟩⟩
  · unfold lstS at h2
    simp only [Bool.and_eq_true, decide_eq_true_eq] at h2
    obtain ⟨a1, a2, a3⟩ := h2
    obtain ⟨j, j1, j2⟩ := (hB.1.2.2.1 _).mp (show (bD b (gM c ALL st - 5 ^ r)).isSome = true by rw [a2]; rfl)
    have hg : 5 ^ r ≤ gM c ALL st := dig_le (by rw [gM_dig hk (by omega), if_pos ⟨rfl, a1⟩]; omega)
    refine ⟨j, Nat.zero_le _, by omega, ?_⟩
    unfold lstM
    simp only [Bool.and_eq_true, decide_eq_true_eq]
    rw [j2]
    exact ⟨a2, a3, by omega⟩
  · unfold lstM at h4
    simp only [Bool.and_eq_true, decide_eq_true_eq] at h4
    obtain ⟨a1, a2, a3⟩ := h4
    unfold lstS
    simp only [Bool.and_eq_true, decide_eq_true_eq]
    rw [show gM c ALL st - 5 ^ r = bF b j by omega]
    exact ⟨(cRise_lt a2).2, a1, a2⟩
section LASTS
variable {d : Nat} {c : Co}
theorem oI_some {o : Option Nat} {e : Nat} (h : ∀ x, o = some x → x < 2 ^ 31) (he : e < 2 ^ 31) : oI o = nI e ↔ o = some e := by
  cases o with
  | none => exact ⟨fun z => absurd z.symm (nI_m1 he), fun z => by cases z⟩
  | some x =>
    show nI x = nI e ↔ _
    rw [nI_eq (h x rfl) he, Option.some.injEq]
theorem bD_lt {b : Bf} (hO : bOk c (cN c) b) {k x : Nat} (h : bD b k = some x) : x < 3125 := by
  obtain ⟨i, i1, i2⟩ := (hO.2.2.1 k).mp (by rw [h]; rfl)
  obtain ⟨-, -, e2, o3, o4⟩ := hO.2.1 i i1
  have := hO.1
  rw [i2, h] at o3
  cases o3
  omega
theorem f_pred {f : Nat} (h : 0 < f) : nI f - 1 = nI (f - 1) := by
  obtain ⟨j, rfl⟩ : ∃ j, f = j + 1 := ⟨f - 1, by omega⟩
  rw [dI_pred]
  rfl
theorem s_last1 {st f : Nat} {b : Bf} (hk : cOk c) (hO : bOk c (cN c) b) (hf : 0 < f) (hf2 : f < 3126) : ∀ (q p a : Nat) (s : qMem), p + q = cN c → RT s 1 c → RS s b → s.1 26 4 = nI (gM c ALL st) → a < 32 → ∃ s2, l_S_lastMovers_1 (d + 5) (nI f) (nI a) (nI p) s = some (nI (orbs (lstS c b (gM c ALL st) f) p q a), s2) ∧ F30 s s2 := by
  have h5 := hk.2.1
  have h4 := hk.1
  have hp5 := pow5 (cN c) h5
  have hg5 := gM_lt (M := ALL) (st := st) hk
  intro q
  induction q with
  | zero =>
    intro p a s hp hR hS hg ha
    refine ⟨s, ?_, F30.rf⟩
    rw [el_S_lastMovers_1, hR.2.1, if_pos (nI_le (by omega) (by omega))]
    rfl
  | succ q ih =>
    intro p a s hp hR hS hg ha
    have hpn : p < cN c := by omega
    rw [el_S_lastMovers_1, hR.2.1, if_neg (by rw [nI_leI (by omega) (by omega)]; omega), if_neg (not_le5 (by omega)), if_pos (qIn_n (show p < 5 by omega) (by omega)), t_goes (d := d + 3) (Or.inl rfl) hR hk hpn, sm_some, nI_cl (by omega), hg, qPV_all p (by omega), nI_1, f_pred hf, orbs]
    dsimp only
    unfold lstS
    by_cases hs : cP c p 0 = 3
    · obtain ⟨s2, g1, g2⟩ := ih (p + 1) a s (by omega) hR hS hg ha
      refine ⟨s2, ?_, g2⟩
      rw [decide_eq_false (fun z => z hs), bf0]
      exact g1
    · have h8 := pow5p p
      have hle : 5 ^ p ≤ gM c ALL st := dig_le (by rw [gM_dig hk hpn, if_pos ⟨rfl, hs⟩]; omega)
      rw [decide_eq_true hs, bt0, pk_sub hle, s_awayAny (d := d + 3) (by omega) hS, sm_some]
      dsimp only
      by_cases hD : bD b (gM c ALL st - 5 ^ p) = some (f - 1)
      · obtain ⟨i, i1, i2⟩ := (hO.2.2.1 _).mp (show (bD b (gM c ALL st - 5 ^ p)).isSome = true by rw [hD]; rfl)
        obtain ⟨o1, o2, -⟩ := hO.2.1 i i1
        rw [i2] at o1 o2
        obtain ⟨s1, u1, u2, u3, u4⟩ := s_unfold (d := d + 4) (s := s) (show gM c ALL st - 5 ^ p < 2 ^ 31 by omega)
        have F1 : F30 s s1 := ⟨u2, u3⟩
        have S1 := F1.RS hS
        have R1 := F1.Fs.RT (Or.inl rfl) hR
        have hr := t_canRise (d := d) (t := 1) (r := 30) (s := s1) (lv := cDig (gM c ALL st - 5 ^ p)) (Or.inr (Or.inl ⟨rfl, rfl⟩)) R1 hk (fun a ha => u4 a (by omega)) o2 hpn
        rw [if_pos ((oI_some (fun x hx => by have := bD_lt hO hx; omega) (by omega)).mpr hD), u1, sm_some, hr, sm_some, decide_eq_true hD]
        dsimp only
        cases hc : cRise c ALL (cDig (gM c ALL st - 5 ^ p)) p with
        | true =>
          obtain ⟨s2, g1, g2⟩ := ih (p + 1) (orb a p) s1 (by omega) R1 S1 (by rw [u2 _ _ (by decide)]; exact hg) (orb_lt a ha p (by omega))
          refine ⟨s2, ?_, F1.tr g2⟩
          rw [bt0, orb_i a ha p (by omega)]
          exact g1
        | false =>
          obtain ⟨s2, g1, g2⟩ := ih (p + 1) a s1 (by omega) R1 S1 (by rw [u2 _ _ (by decide)]; exact hg) ha
          refine ⟨s2, ?_, F1.tr g2⟩
          rw [bf0]
          exact g1
      · obtain ⟨s2, g1, g2⟩ := ih (p + 1) a s (by omega) hR hS hg ha
        refine ⟨s2, ?_, g2⟩
        rw [if_neg (fun z => hD ((oI_some (fun x hx => by have := bD_lt hO hx; omega) (by omega)).mp z)), decide_eq_false hD]
        exact g1
end LASTS
