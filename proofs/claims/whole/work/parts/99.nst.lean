/-! what is given at the law's entry: fixed rows, texts, statics -/
abbrev narL : List Cond := flatC (Jvm.Cond.and given_1 narrow_1)
def tmX (i : Nat) : Term := .string "GiantStair$Text" (qTi i)
def lenX : List Nat := [5, 4, 4, 4, 2, 6, 7, 6, 5, 5]
def bytX : List (List Int32) := [[115, 116, 97, 105, 114], [115, 116, 101, 112], [114, 111, 112, 101], [108, 111, 97, 100], [97, 116], [110, 111, 98, 111, 100, 121], [112, 105, 108, 103, 114, 105, 109], [112, 111, 114, 116, 101, 114], [112, 114, 111, 117, 100], [115, 97, 105, 110, 116]]
theorem nar_ex : ∀ i, i < 10 → Cond.exactly (tmX i) "java/lang/String" ∈ narL := by decide +kernel
theorem nar_co : ∀ i, i < 10 → Cond.eq (.field (tmX i) "java/lang/String" "coder" "B") (.int 0) ∈ narL := by decide +kernel
theorem nar_ar : ∀ i, i < 10 → Cond.arrayOf (.field (tmX i) "java/lang/String" "value" "[B") .byte ∈ narL := by decide +kernel
theorem nar_le : ∀ i, i < 10 → Cond.eq (.length (.field (tmX i) "java/lang/String" "value" "[B")) (.int (Int32.ofNat (lenX.getD i 0))) ∈ narL := by decide +kernel
theorem nar_el : ∀ i, i < 10 → ∀ j, j < lenX.getD i 0 → Cond.eq (.elem (.field (tmX i) "java/lang/String" "value" "[B") (.int (Int32.ofNat j))) (.int ((bytX.getD i []).getD j 0)) ∈ narL := by decide +kernel
theorem nar_ne : ∀ i, i < 10 → ∀ j, j < 10 → i ≠ j → Cond.not (Cond.eq (tmX i) (tmX j)) ∈ narL ∨ Cond.not (Cond.eq (tmX j) (tmX i)) ∈ narL := by decide +kernel
theorem len_X : ∀ i, i < 10 → lenX.getD i 0 = qTn i ∧ ∀ j, j < 8 → j < qTn i → (bytX.getD i []).getD j 0 = qKon (qTb i) j := by decide +kernel
theorem nar_ov : Cond.arrayOf (.static "GiantStair$Told" "OVER" "[I") .int ∈ narL ∧ Cond.eq (.length (.static "GiantStair$Told" "OVER" "[I")) (.int 5) ∈ narL ∧ ∀ j, j < 5 → Cond.eq (.elem (.static "GiantStair$Told" "OVER" "[I") (.int (Int32.ofNat j))) (.int (qKon qOver j)) ∈ narL := by decide +kernel
theorem nar_pv : Cond.arrayOf (.static "GiantStair$Search" "PLACE_VALUE" "[I") .int ∈ narL ∧ Cond.eq (.length (.static "GiantStair$Search" "PLACE_VALUE" "[I")) (.int 5) ∈ narL ∧ ∀ j, j < 5 → Cond.eq (.elem (.static "GiantStair$Search" "PLACE_VALUE" "[I") (.int (Int32.ofNat j))) (.int (qKon qPV j)) ∈ narL := by decide +kernel
theorem nar_cs : Cond.eq (.static "java/lang/String" "COMPACT_STRINGS" "Z") (.int 1) ∈ narL := by decide +kernel
theorem nar_fm : Cond.isRef (.static "jdk/internal/util/Preconditions" "SIOOBE_FORMATTER" "Ljava/util/function/BiFunction;") ∈ narL := by decide +kernel
theorem va_T_cong {ty : FieldType} {t N : Nat} {f g : Nat → Value} {A : Nat → Prop} {U : State} {H : Heap} (h : va_T ty t N f A U H) (hfg : ∀ j, j < N → f j = g j) : va_T ty t N g A U H := by
  obtain ⟨cell, h1, h2, h3, h4, h5, h6, h7⟩ := h
  exact ⟨cell, h1, h2, h3, h4, h5, fun j hj => by rw [← hfg j hj]; exact h6 j hj, h7⟩
theorem tx_ref : ∀ i, i < 10 → Cond.stringRef "GiantStair$Text" (qTi i) (qTx i) ∈ lw_tbl := by
  intro i hi
  have h : i = 0 ∨ i = 1 ∨ i = 2 ∨ i = 3 ∨ i = 4 ∨ i = 5 ∨ i = 6 ∨ i = 7 ∨ i = 8 ∨ i = 9 := by omega
  rcases h with h | h | h | h | h | h | h | h | h | h
  · subst h; exact tw_240
  · subst h; exact tw_241
  · subst h; exact tw_242
  · subst h; exact tw_243
  · subst h; exact tw_244
  · subst h; exact tw_245
  · subst h; exact tw_246
  · subst h; exact tw_247
  · subst h; exact tw_248
  · subst h; exact tw_249
theorem st_all {s : State} {b L : Nat} {xs : Nat → Int32} (hgv : (Jvm.Cond.and given_1 narrow_1).before #[Value.ref b] s = true) (hts : ∀ w ∈ lw_tbl, w.before #[Value.ref b] s = true) (hX : va_X b L xs s s.heap) (hbl : b < s.heap.size) (hL : L ≤ 256) : ∃ (a60 a61 : Nat) (fm : Value) (tx ty : Nat → Nat), (fm.category = 1 ∧ (fm = .null ∨ ∃ a, fm = .ref a)) ∧ ∀ (E : qEnv), qBase E = s.heap.size → qAd E 60 = a60 → qAd E 61 = a61 → qAd E 70 = b → (∀ i, i < 10 → qAd E (100 + i) = tx i ∧ qAd E (110 + i) = ty i) → qFm E = fm → qLn E = L → qXs E = xs → qST E s s.heap := by
  have hs : ∀ c ∈ narL, c.before #[Value.ref b] s = true := flat_of_before _ hgv
  have hA : ∀ a : Nat, a < s.heap.size → ¬ (fun q => s.heap.size ≤ q) a := fun a h => Nat.not_le.mpr h
  obtain ⟨tx, ty, hS, hE⟩ := vk_Sof (args := #[Value.ref b]) (s := s) (N := 10) (tm := tmX) (len := lenX) (byt := bytX) (A := fun q => s.heap.size ≤ q) (fun i hi => by rw [(len_X i hi).1]; have := (w_len i hi).2.1; omega) (fun i hi => hs _ (nar_ex i hi)) (fun i hi => hs _ (nar_co i hi)) (fun i hi => hs _ (nar_ar i hi)) (fun i hi => hs _ (nar_le i hi)) (fun i hi j hj => hs _ (nar_el i hi j hj)) (fun i j hi hj hij => (nar_ne i hi j hj hij).imp (hs _) (hs _)) hA
  obtain ⟨a60, h60, t60⟩ := va_Tof (f := fun j => .int (qKon qOver j)) (A := fun q => s.heap.size ≤ q) (N := 5) (by omega) (hs _ nar_ov.1) (va_eqt (hs _ nar_ov.2.1)) (fun j hj => va_eqt (hs _ (nar_ov.2.2 j hj))) hA
  obtain ⟨a61, h61, t61⟩ := va_Tof (f := fun j => .int (qKon qPV j)) (A := fun q => s.heap.size ≤ q) (N := 5) (by omega) (hs _ nar_pv.1) (va_eqt (hs _ nar_pv.2.1)) (fun j hj => va_eqt (hs _ (nar_pv.2.2 j hj))) hA
  have z60 := va_Zof (hts _ tw_380) (hts _ (gT_sub tw_2)) h60 hA
  have z61 := va_Zof (hts _ tw_512) (hts _ (gT_sub tw_5)) h61 hA
  have zcs := va_Zof (hts _ tw_263) (hts _ (gT_sub tw_9)) (va_eqt (hs _ nar_cs)) hA
  have zfm := va_Zqof (hts _ tw_279) (hts _ (gT_sub tw_11)) (hs _ nar_fm) hA
  obtain ⟨fm, hfm, hz⟩ : ∃ fm : Value, (fm.category = 1 ∧ (fm = .null ∨ ∃ a, fm = .ref a)) ∧ va_Z "jdk/internal/util/Preconditions" "SIOOBE_FORMATTER" "Ljava/util/function/BiFunction;" fm (fun q => s.heap.size ≤ q) s s.heap := by
    rcases zfm with h | ⟨t, h⟩
    · exact ⟨.null, ⟨rfl, Or.inl rfl⟩, h⟩
    · exact ⟨.ref t, ⟨rfl, Or.inr ⟨t, rfl⟩⟩, h⟩
  refine ⟨a60, a61, fm, tx, ty, hfm, fun E e0 e1 e2 e3 e4 e5 e6 e7 => ?_⟩
  have eA : qA E = fun q => s.heap.size ≤ q := by
    unfold qA
    rw [e0]
  unfold qST
  rw [eA, e1, e2, e3, e5, e6, e7]
  refine ⟨⟨z60, t60⟩, ⟨z61, t61⟩, ⟨zcs, hz⟩, fun i hi => ?_, by omega, ?_⟩
  · obtain ⟨g1, g2, g3, g4⟩ := hS.1 i hi
    obtain ⟨f1, f2⟩ := e4 i hi
    obtain ⟨l1, l2⟩ := len_X i hi
    have := (w_len i hi).2.1
    rw [f1, f2]
    rw [l1] at g4
    exact ⟨⟨g1, g2, g3, va_T_cong g4 (fun j hj => by rw [l2 j (by omega) hj])⟩, vk_R.of (hts _ (tx_ref i hi)) (hE i hi)⟩
  · obtain ⟨scr, x1, x2, x3, x4, x5⟩ := hX
    exact ⟨scr, x1, x2, x3, by rw [x4]; exact Nat.le_refl _, by rw [x4], x5, hA b hbl⟩
