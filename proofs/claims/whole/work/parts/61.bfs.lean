/-! what is so of the search -/
def bMono (b b2 : Bf) : Prop := bN b ≤ bN b2 ∧ (∀ i, i < bN b → bF b2 i = bF b i) ∧ ∀ k e, bD b k = some e → bD b2 k = some e ∧ bP b2 k = bP b k ∧ bM b2 k = bM b k
theorem bMono_rf {b : Bf} : bMono b b := ⟨Nat.le_refl _, fun _ _ => rfl, fun _ _ h => ⟨h, rfl, rfl⟩⟩
theorem bMono_tr {b b2 b3 : Bf} (h : bMono b b2) (h2 : bMono b2 b3) : bMono b b3 := by
  obtain ⟨a1, a2, a3⟩ := h
  obtain ⟨c1, c2, c3⟩ := h2
  refine ⟨by omega, fun i hi => (c2 i (by omega)).trans (a2 i hi), fun k e hk => ?_⟩
  obtain ⟨x1, x2, x3⟩ := a3 k e hk
  obtain ⟨y1, y2, y3⟩ := c3 k e x1
  exact ⟨y1, y2.trans x2, y3.trans x3⟩
theorem bMono_add {b : Bf} {ok : Bool} {to fr dd mv : Nat} : bMono b (bAdd b ok to fr dd mv) := by
  cases hok : (ok && (bD b to).isNone) with
  | false => rw [bAdd_no hok]; exact bMono_rf
  | true =>
    rw [bAdd_yes hok]
    rw [Bool.and_eq_true] at hok
    have hD : bD b to = none := Option.isNone_iff_eq_none.mp hok.2
    refine ⟨Nat.le_succ _, fun i hi => fUpd_n (by omega), fun k e hk => ?_⟩
    have ne : k ≠ to := fun z => by rw [z, hD] at hk; cases hk
    exact ⟨(fUpd_n ne).trans hk, fUpd_n ne, fUpd_n ne⟩
theorem bMono_exp {c : Co} {M : Nat → Bool} {cur dd : Nat} : ∀ (r p : Nat) (b : Bf), bMono b (bExp c M cur dd p r b) := by
  intro r
  induction r with
  | zero => intro p b; exact bMono_rf
  | succ r ih => intro p b; rw [bExp]; exact bMono_tr (bMono_tr bMono_add bMono_add) (ih _ _)
theorem bMono_run {c : Co} {M : Nat → Bool} : ∀ (f i : Nat) (b : Bf), bMono b (bRun c M f i b) := by
  intro f
  induction f with
  | zero => intro i b; exact bMono_rf
  | succ f ih =>
    intro i b
    rw [bRun]
    by_cases z : i < bN b
    · rw [if_pos z]
      exact bMono_tr (bMono_exp _ _ _) (ih _ _)
    · rw [if_neg z]
      exact bMono_rf
/-- a move from one position to another -/
def mvs (c : Co) (M : Nat → Bool) (x p u y : Nat) : Prop := p < cN c ∧ M p = true ∧ ((u = 1 ∧ y = x + 5 ^ p ∧ cRise c M (cDig x) p = true) ∨ (u = 0 ∧ y = x - 5 ^ p ∧ cSink c M (cDig x) p = true))
/-- each but the first was found from an earlier one -/
def bEdge (c : Co) (M : Nat → Bool) (b : Bf) : Prop := ∀ i, 0 < i → i < bN b → ∃ j p u e, j < i ∧ mvs c M (bF b j) p u (bF b i) ∧ bP b (bF b i) = bF b j ∧ bM b (bF b i) = 2 * p + u ∧ bD b (bF b j) = some e ∧ bD b (bF b i) = some (e + 1)
theorem bEdge_add {c : Co} {M : Nat → Bool} {n : Nat} {b : Bf} {ok : Bool} {to cur j e p u : Nat} (hO : bOk c n b) (h : bEdge c M b) (hj : j < bN b) (hcur : bF b j = cur) (he : bD b cur = some e) (hm : ok = true → mvs c M cur p u to) : bEdge c M (bAdd b ok to cur (e + 1) (2 * p + u)) := by
  cases hok : (ok && (bD b to).isNone) with
  | false => rw [bAdd_no hok]; exact h
  | true =>
    have mono := bMono_add (b := b) (ok := ok) (to := to) (fr := cur) (dd := e + 1) (mv := 2 * p + u)
    have eq := bAdd_yes (fr := cur) (dd := e + 1) (mv := 2 * p + u) hok
    rw [Bool.and_eq_true] at hok
    have hD : bD b to = none := Option.isNone_iff_eq_none.mp hok.2
    intro i hi0 hi
    have eN : bN (bAdd b ok to cur (e + 1) (2 * p + u)) = bN b + 1 := by rw [eq]; rfl
    rw [eN] at hi
    obtain ⟨-, m2, m3⟩ := mono
    by_cases z : i = bN b
    · have eF : bF (bAdd b ok to cur (e + 1) (2 * p + u)) i = to := by rw [eq, z]; exact fUpd_s
      refine ⟨j, p, u, e, by omega, ?_, ?_, ?_, ?_, ?_⟩
      · rw [m2 j hj, hcur, eF]
        exact hm hok.1
      · rw [m2 j hj, hcur, eF, eq]
        exact fUpd_s
      · rw [eF, eq]
        exact fUpd_s
      · rw [m2 j hj, hcur]
        exact (m3 _ _ he).1
      · rw [eF, eq]
        exact fUpd_s
    · obtain ⟨j2, p2, u2, e2, q1, q2, q3, q4, q5, q6⟩ := h i hi0 (by omega)
      obtain ⟨y1, y2, y3⟩ := m3 _ _ q6
      refine ⟨j2, p2, u2, e2, q1, ?_, ?_, ?_, ?_, ?_⟩
      · rw [m2 j2 (by omega), m2 i (by omega)]
        exact q2
      · rw [m2 j2 (by omega), m2 i (by omega), y2]
        exact q3
      · rw [m2 i (by omega), y3]
        exact q4
      · rw [m2 j2 (by omega)]
        exact (m3 _ _ q5).1
      · rw [m2 i (by omega)]
        exact y1
theorem bEdge_exp {c : Co} {M : Nat → Bool} {cur j e : Nat} (hk : cOk c) (h : cur < 5 ^ cN c) (hd : ∀ q, q < cN c → cDig cur q ≤ cTop c) : ∀ (r p : Nat) (b : Bf), p + r = cN c → bOk c (cN c) b → e + 1 ≤ bN b → bEdge c M b → j < bN b → bF b j = cur → bD b cur = some e → bEdge c M (bExp c M cur (e + 1) p r b) := by
  intro r
  induction r with
  | zero => intro p b _ _ _ hE _ _ _; exact hE
  | succ r ih =>
    intro p b hp hO hdd hE hj hcur he
    have hpn : p < cN c := by omega
    have okU := fun x => mv_up_ok (M := M) hk h hd hpn x
    have okD := fun x => mv_dn_ok (M := M) hk h hd hpn x
    have E1 := bEdge_add (ok := M p && cRise c M (cDig cur) p) (to := cur + 5 ^ p) (u := 1) hO hE hj hcur he (fun x => by
      rw [Bool.and_eq_true] at x
      exact ⟨hpn, x.1, Or.inl ⟨rfl, rfl, x.2⟩⟩)
    have O1 := bOk_add (b := b) (dd := e + 1) (fr := cur) (mv := 2 * p + 1) hk.2.1 hO okU hdd
    have m1 := bMono_add (b := b) (ok := M p && cRise c M (cDig cur) p) (to := cur + 5 ^ p) (fr := cur) (dd := e + 1) (mv := 2 * p + 1)
    have E2 := bEdge_add (ok := M p && cSink c M (cDig cur) p) (to := cur - 5 ^ p) (u := 0) O1 E1 (j := j) (by have := m1.1; omega) ((m1.2.1 j hj).trans hcur) (m1.2.2 _ _ he).1 (fun x => by
      rw [Bool.and_eq_true] at x
      exact ⟨hpn, x.1, Or.inr ⟨rfl, rfl, x.2⟩⟩)
    have O2 := bOk_add (dd := e + 1) (fr := cur) (mv := 2 * p) hk.2.1 O1 okD (by have := m1.1; omega)
    have m2 := bMono_tr m1 (bMono_add (ok := M p && cSink c M (cDig cur) p) (to := cur - 5 ^ p) (fr := cur) (dd := e + 1) (mv := 2 * p))
    rw [bExp]
    exact ih (p + 1) _ (by omega) O2 (by have := m2.1; omega) E2 (by have := m2.1; omega) ((m2.2.1 j hj).trans hcur) (m2.2.2 _ _ he).1
/-- all that is next to the first i was found -/
def bCl (c : Co) (M : Nat → Bool) (b : Bf) (m : Nat) : Prop := ∀ i, i < m → i < bN b → ∀ p u y, mvs c M (bF b i) p u y → (bD b y).isSome = true
theorem bCl_mono {c : Co} {M : Nat → Bool} {b b2 : Bf} {m : Nat} (h : bMono b b2) (hm : m ≤ bN b) (hc : bCl c M b m) : bCl c M b2 m := by
  intro i hi _ p u y hy
  rw [h.2.1 i (by omega)] at hy
  have h9 := hc i hi (by omega) p u y hy
  obtain ⟨e, he⟩ := Option.isSome_iff_exists.mp h9
  rw [(h.2.2 _ _ he).1]
  rfl
theorem bAdd_found {b : Bf} {ok : Bool} {to fr dd mv : Nat} (h : ok = true) : (bD (bAdd b ok to fr dd mv) to).isSome = true := by
  subst h
  cases hD : bD b to with
  | none =>
    rw [bAdd_yes (by rw [hD]; rfl)]
    show (fUpd (bD b) to (some dd) to).isSome = true
    rw [fUpd_s]
    rfl
  | some e =>
    rw [bAdd_no (by rw [hD]; rfl), hD]
    rfl
theorem some_mono {b b2 : Bf} {k : Nat} (h : bMono b b2) (hs : (bD b k).isSome = true) : (bD b2 k).isSome = true := by
  obtain ⟨e, he⟩ := Option.isSome_iff_exists.mp hs
  rw [(h.2.2 _ _ he).1]
  rfl
theorem bExp_found {c : Co} {M : Nat → Bool} {cur dd : Nat} : ∀ (r p : Nat) (b : Bf), p + r = cN c → ∀ q u y, p ≤ q → mvs c M cur q u y → (bD (bExp c M cur dd p r b) y).isSome = true := by
  intro r
  induction r with
  | zero => intro p b hp q u y hq hy; have := hy.1; omega
  | succ r ih =>
    intro p b hp q u y hq hy
    rw [bExp]
    by_cases z : q = p
    · subst z
      refine some_mono (bMono_exp _ _ _) ?_
      obtain ⟨h1, h2, h3 | h3⟩ := hy
      · rw [h3.2.1]
        exact some_mono bMono_add (bAdd_found (by rw [h2, h3.2.2]; rfl))
      · rw [h3.2.1]
        exact bAdd_found (by rw [h2, h3.2.2]; rfl)
    · exact ih (p + 1) _ (by omega) q u y (by omega) hy
theorem bRun_all {c : Co} {M : Nat → Bool} (hk : cOk c) : ∀ (f i : Nat) (b : Bf), i + f = 3126 → bOk c (cN c) b → bEdge c M b → bCl c M b i → i ≤ bN b → bOk c (cN c) (bRun c M f i b) ∧ bEdge c M (bRun c M f i b) ∧ bCl c M (bRun c M f i b) (bN (bRun c M f i b)) := by
  intro f
  induction f with
  | zero =>
    intro i b hi hO hE hC hle
    have := hO.1
    omega
  | succ f ih =>
    intro i b hi hO hE hC hle
    rw [bRun]
    by_cases z : i < bN b
    · rw [if_pos z]
      obtain ⟨o1, o2, e, o3, o4⟩ := hO.2.1 i z
      rw [o3]
      have h1 := (bExp_ok (M := M) (dd := e + 1) hk o1 o2 (cN c) 0 b (by omega) hO (by omega)).1
      have h2 := bEdge_exp (M := M) (j := i) hk o1 o2 (cN c) 0 b (by omega) hO (by omega) hE z rfl o3
      have mono := bMono_exp (c := c) (M := M) (cur := bF b i) (dd := e + 1) (cN c) 0 b
      refine ih (i + 1) _ (by omega) h1 h2 ?_ (by have := mono.1; show i + 1 ≤ bN (bExp c M (bF b i) (e + 1) 0 (cN c) b); omega)
      intro i2 hi2 _ p u y hy
      by_cases q : i2 = i
      · subst q
        have hy2 : mvs c M (bF (bExp c M (bF b i2) (e + 1) 0 (cN c) b) i2) p u y := hy
        rw [mono.2.1 i2 z] at hy2
        exact bExp_found (cN c) 0 b (by omega) p u y (Nat.zero_le _) hy2
      · exact bCl_mono mono (by omega) hC i2 (by omega) (by have := mono.1; show i2 < bN (bExp c M (bF b i) (e + 1) 0 (cN c) b); omega) p u y hy
    · rw [if_neg z]
      have : i = bN b := by omega
      subst this
      exact ⟨hO, hE, hC⟩
/-- what is so of a search that is done -/
def bAll (c : Co) (M : Nat → Bool) (st : Nat) (b : Bf) : Prop := bOk c (cN c) b ∧ bEdge c M b ∧ bCl c M b (bN b) ∧ 0 < bN b ∧ bF b 0 = st ∧ bD b st = some 0
theorem bfs_all {c : Co} {M : Nat → Bool} {st : Nat} (hk : cOk c) (h : st < 5 ^ cN c) (hd : ∀ q, q < cN c → cDig st q ≤ cTop c) : bAll c M st (bfs c M st) := by
  have hi := bIni_ok hk h hd
  have mono := bMono_run (c := c) (M := M) 3126 0 (bIni st)
  obtain ⟨h1, h2, h3⟩ := bRun_all (M := M) hk 3126 0 (bIni st) (by omega) hi (fun i hi0 hi => by
    have : i < 1 := hi
    omega) (fun i hi => absurd hi (Nat.not_lt_zero _)) (Nat.zero_le _)
  refine ⟨h1, h2, h3, Nat.lt_of_lt_of_le Nat.one_pos mono.1, ?_, ?_⟩
  · rw [show bF (bfs c M st) 0 = bF (bIni st) 0 from mono.2.1 0 Nat.one_pos]
    rfl
  · refine (mono.2.2 st 0 ?_).1
    show fUpd (fun _ => none) st (some 0) st = some 0
    exact fUpd_s
/-- who does not move stays -/
theorem mvs_dig {c : Co} {M : Nat → Bool} {x p u y : Nat} (hk : cOk c) (h : x < 5 ^ cN c) (hd : ∀ q, q < cN c → cDig x q ≤ cTop c) (hm : mvs c M x p u y) : M p = true ∧ cP c p 0 ≠ 3 ∧ ∀ q, q < cN c → q ≠ p → cDig y q = cDig x q := by
  obtain ⟨h1, h2, h3 | h3⟩ := hm
  · obtain ⟨-, h4, h5⟩ := h3
    subst h4
    have lt := cRise_lt h5
    refine ⟨h2, lt.2, fun q hq hqp => ?_⟩
    rw [(mv_up hk rfl h hd h1 lt.1).2 q hq, if_neg hqp]
  · obtain ⟨-, h4, h5⟩ := h3
    subst h4
    have lt := cSink_lt h5
    refine ⟨h2, lt.2, fun q hq hqp => ?_⟩
    rw [(mv_dn hk rfl h hd h1 lt.1).2 q hq, if_neg hqp]
theorem bAll_dig {c : Co} {M : Nat → Bool} {st : Nat} {b : Bf} (hk : cOk c) (h : bAll c M st b) {q : Nat} (hq : q < cN c) (hs : M q = false ∨ cP c q 0 = 3) : ∀ i, i < bN b → cDig (bF b i) q = cDig st q := by
  obtain ⟨hO, hE, -, -, h0, -⟩ := h
  intro i
  induction i using Nat.strongRecOn with
  | ind i ih =>
    intro hi
    rcases Nat.eq_zero_or_pos i with z | z
    · rw [z, h0]
    · obtain ⟨j, p, u, e, h1, h2, -⟩ := hE i z hi
      obtain ⟨o1, o2, -⟩ := hO.2.1 j (by omega)
      obtain ⟨m1, m2, m3⟩ := mvs_dig hk o1 o2 h2
      rw [m3 q hq (fun e => by subst e; rcases hs with s | s; rw [m1] at s; cases s; exact m2 s)]
      exact ih j h1 (by omega)
