/-! the layout of the system: 0 .. 39 GiantStair, 40 .. 54 the reference, 60, 61 fixed rows, 70 the script, 100 .. texts, 110 .. their bytes -/
def qTn (o : Nat) : Nat := (bif Nat.ble 5 o then (bif Nat.ble 7 o then (bif Nat.ble 8 o then (bif Nat.ble 9 o then 5 else 5) else 6) else (bif Nat.ble 6 o then 7 else 6)) else (bif Nat.ble 2 o then (bif Nat.ble 3 o then (bif Nat.ble 4 o then 2 else 4) else 4) else (bif Nat.ble 1 o then 4 else 5)))
def qTb (o : Nat) : List Nat := (bif Nat.ble 5 o then (bif Nat.ble 7 o then (bif Nat.ble 8 o then (bif Nat.ble 9 o then [243, 225, 233, 238, 244] else [240, 242, 239, 245, 228]) else [240, 239, 242, 244, 229, 242]) else (bif Nat.ble 6 o then [240, 233, 236, 231, 242, 233, 237] else [238, 239, 226, 239, 228, 249])) else (bif Nat.ble 2 o then (bif Nat.ble 3 o then (bif Nat.ble 4 o then [225, 244] else [236, 239, 225, 228]) else [242, 239, 240, 229]) else (bif Nat.ble 1 o then [243, 244, 229, 240] else [243, 244, 225, 233, 242])))
def qTi (o : Nat) : Nat := (bif Nat.ble 5 o then (bif Nat.ble 7 o then (bif Nat.ble 8 o then (bif Nat.ble 9 o then 100 else 98) else 96) else (bif Nat.ble 6 o then 94 else 92)) else (bif Nat.ble 2 o then (bif Nat.ble 3 o then (bif Nat.ble 4 o then 90 else 88) else 86) else (bif Nat.ble 1 o then 84 else 82)))
def qTx (o : Nat) : String := (bif Nat.ble 5 o then (bif Nat.ble 7 o then (bif Nat.ble 8 o then (bif Nat.ble 9 o then "saint" else "proud") else "porter") else (bif Nat.ble 6 o then "pilgrim" else "nobody")) else (bif Nat.ble 2 o then (bif Nat.ble 3 o then (bif Nat.ble 4 o then "at" else "load") else "rope") else (bif Nat.ble 1 o then "step" else "stair")))
def qOver : List Nat := [127, 128, 129, 129, 128]
def qPV : List Nat := [129, 133, 153, 253, 753]
def qZc (o : Nat) : qSh := bif Nat.beq o 60 then (4, 5, qOver) else bif Nat.beq o 61 then (4, 5, qPV) else bif Nat.beq o 70 then (7, 0, []) else bif Nat.ble 100 o && Nat.ble o 109 then (6, o + 10, []) else bif Nat.ble 110 o && Nat.ble o 119 then (5, qTn (o - 110), qTb (o - 110)) else (9, 0, [])
def qZ (o : Nat) : qSh := bif Nat.ble 55 o then qZc o else (bif Nat.ble 27 o then (bif Nat.ble 41 o then (bif Nat.ble 48 o then (bif Nat.ble 51 o then (bif Nat.ble 53 o then (bif Nat.ble 54 o then (0, 5, []) else (0, 3125, [])) else (bif Nat.ble 52 o then (0, 3125, []) else (0, 3125, []))) else (bif Nat.ble 49 o then (bif Nat.ble 50 o then (0, 3125, []) else (0, 24, [])) else (1, 2, []))) else (bif Nat.ble 44 o then (bif Nat.ble 46 o then (bif Nat.ble 47 o then (0, 62, []) else (0, 25, [])) else (bif Nat.ble 45 o then (0, 5, []) else (0, 60, []))) else (bif Nat.ble 42 o then (bif Nat.ble 43 o then (0, 200, []) else (0, 30, [])) else (0, 4, [])))) else (bif Nat.ble 34 o then (bif Nat.ble 37 o then (bif Nat.ble 39 o then (bif Nat.ble 40 o then (3, 5, [1, 45, 1, 1, 46, 1, 47, 1, 1, 3, 1, 1, 1, 1, 1, 1, 48, 49, 1, 50, 51, 52, 1, 53, 54, 55, 56, 57, 1, 58, 1]) else (0, 25, [])) else (bif Nat.ble 38 o then (0, 5, []) else (3, 0, [42, 1, 43, 2]))) else (bif Nat.ble 35 o then (bif Nat.ble 36 o then (0, 25, []) else (0, 5, [])) else (3, 0, [39, 1, 40, 2]))) else (bif Nat.ble 30 o then (bif Nat.ble 32 o then (bif Nat.ble 33 o then (0, 5, []) else (0, 12, [])) else (bif Nat.ble 31 o then (0, 12, []) else (0, 5, []))) else (bif Nat.ble 28 o then (bif Nat.ble 29 o then (0, 3125, []) else (0, 3125, [])) else (0, 3125, []))))) else (bif Nat.ble 13 o then (bif Nat.ble 20 o then (bif Nat.ble 23 o then (bif Nat.ble 25 o then (bif Nat.ble 26 o then (3, 1, [31, 32, 33, 1, 1, 34]) else (2, 2, [34, 37])) else (bif Nat.ble 24 o then (0, 25, []) else (0, 5, []))) else (bif Nat.ble 21 o then (bif Nat.ble 22 o then (3, 0, [27, 1, 28, 2]) else (0, 3, [])) else (0, 200, []))) else (bif Nat.ble 16 o then (bif Nat.ble 18 o then (bif Nat.ble 19 o then (3, 2, [24, 1, 1, 1, 25]) else (0, 5, [])) else (bif Nat.ble 17 o then (0, 5, []) else (0, 5, []))) else (bif Nat.ble 14 o then (bif Nat.ble 15 o then (0, 5, []) else (0, 5, [])) else (0, 5, [])))) else (bif Nat.ble 6 o then (bif Nat.ble 9 o then (bif Nat.ble 11 o then (bif Nat.ble 12 o then (1, 4, []) else (0, 4, [])) else (bif Nat.ble 10 o then (3, 3, [1, 1, 15, 16, 17, 18, 19, 20, 21, 22]) else (0, 5, []))) else (bif Nat.ble 7 o then (bif Nat.ble 8 o then (0, 5, []) else (0, 5, [])) else (0, 5, []))) else (bif Nat.ble 3 o then (bif Nat.ble 4 o then (bif Nat.ble 5 o then (0, 5, []) else (0, 5, [])) else (1, 4, [])) else (bif Nat.ble 1 o then (bif Nat.ble 2 o then (0, 4, []) else (3, 3, [1, 1, 6, 7, 8, 9, 10, 11, 12, 13])) else (3, 4, [5, 14, 23, 26, 29, 30, 2, 35, 36, 1, 37]))))))
theorem qZc_far (o : Nat) (h : 120 ≤ o) : qZc o = (9, 0, []) := by
  have h1 : Nat.beq o 60 = false := by rw [← Bool.not_eq_true]; intro z; have := Nat.eq_of_beq_eq_true z; omega
  have h2 : Nat.beq o 61 = false := by rw [← Bool.not_eq_true]; intro z; have := Nat.eq_of_beq_eq_true z; omega
  have h3 : Nat.beq o 70 = false := by rw [← Bool.not_eq_true]; intro z; have := Nat.eq_of_beq_eq_true z; omega
  have h4 : Nat.ble o 109 = false := by rw [← Bool.not_eq_true]; intro z; have := Nat.le_of_ble_eq_true z; omega
  have h5 : Nat.ble o 119 = false := by rw [← Bool.not_eq_true]; intro z; have := Nat.le_of_ble_eq_true z; omega
  unfold qZc
  rw [h1, h2, h3, h4, h5, Bool.and_false, Bool.and_false]
  rfl
theorem qZ_far (o : Nat) (h : 120 ≤ o) : qZ o = (9, 0, []) := by
  unfold qZ
  rw [show Nat.ble 55 o = true from Nat.ble_eq_true_of_le (by omega)]
  exact qZc_far o h
theorem qZ_lt {o a n : Nat} {fs : List Nat} (h : qZ o = (a, n, fs)) (ha : a ≠ 9) : o < 120 := by
  rcases Nat.lt_or_ge o 120 with q | q
  · exact q
  · rw [qZ_far o q] at h
    cases h
    exact absurd rfl ha
theorem qZ_kinds : ∀ o, o < 120 → ((qZ o).1 < 4 ↔ o < 55) ∧ ((qZ o).1 = 4 → o = 60 ∨ o = 61) ∧ ((qZ o).1 = 5 → 110 ≤ o) ∧ ((qZ o).1 = 6 → 100 ≤ o ∧ o < 110) ∧ ((qZ o).1 = 7 → o = 70) := by decide +kernel
theorem qZ_N (o : Nat) (h : (qZ o).1 < 4) : o < 55 := by
  rcases Nat.lt_or_ge o 120 with q | q
  · exact ((qZ_kinds o q).1).mp h
  · rw [qZ_far o q] at h
    exact absurd h (by decide)
theorem qZ_long0 : ∀ o, o < 55 → ∀ j, j < 40 → (qZ o).1 = 3 → qNth (qZ o).2.2 j = 3 → (qZ o).2.1 = 5 ∧ j = 9 := by decide +kernel
theorem qZ_len0 : ∀ o, o < 55 → (qZ o).1 = 3 → (qZ o).2.2.length ≤ 40 := by decide +kernel
theorem qNth_far : ∀ (fs : List Nat) (j : Nat), fs.length ≤ j → qNth fs j = 0 := by
  intro fs
  induction fs with
  | nil => intro j _; rfl
  | cons a fs ih =>
    intro j h
    cases j with
    | zero => cases h
    | succ j => exact ih j (Nat.le_of_succ_le_succ h)
theorem qZ_long {o c2 : Nat} {fs : List Nat} {j : Nat} (h : qZ o = (3, c2, fs)) (hj : qNth fs j = 3) : c2 = 5 ∧ j = 9 := by
  have ho : o < 55 := qZ_N o (by rw [h]; exact (by decide : 3 < 4))
  have h1 := qZ_len0 o ho (by rw [h])
  rw [h] at h1
  rcases Nat.lt_or_ge j 40 with q | q
  · have := qZ_long0 o ho j q (by rw [h]) (by rw [h]; exact hj)
    rw [h] at this
    exact this
  · rw [qNth_far fs j (Nat.le_trans h1 q)] at hj
    cases hj
theorem qZ_one0 : ∀ o, o < 55 → (qZ o).1 = 3 → (qZ o).2.1 = 5 → o = 40 := by decide +kernel
theorem qZ_one {o o2 : Nat} {fs fs2 : List Nat} (h : qZ o = (3, 5, fs)) (h2 : qZ o2 = (3, 5, fs2)) : o = o2 := by
  have e1 := qZ_one0 o (qZ_N o (by rw [h]; exact (by decide : 3 < 4))) (by rw [h]) (by rw [h])
  have e2 := qZ_one0 o2 (qZ_N o2 (by rw [h2]; exact (by decide : 3 < 4))) (by rw [h2]) (by rw [h2])
  rw [e1, e2]
theorem qZ_near {j kd c2 : Nat} {fs2 : List Nat} (hj : j < 55) (h : qZ j = (kd + 4, c2, fs2)) : False := by
  have h1 := ((qZ_kinds j (by omega)).1).mpr hj
  rw [h] at h1
  have h2 : kd + 4 < 4 := h1
  omega
/-- the fixed things: two rows, two statics of the library, the texts, the script -/
def qST (E : qEnv) (U : State) (H : Heap) : Prop :=
  (va_Z "GiantStair$Told" "OVER" "[I" (.ref (qAd E 60)) (qA E) U H ∧ va_T .int (qAd E 60) 5 (fun j => .int (qKon qOver j)) (qA E) U H) ∧
  (va_Z "GiantStair$Search" "PLACE_VALUE" "[I" (.ref (qAd E 61)) (qA E) U H ∧ va_T .int (qAd E 61) 5 (fun j => .int (qKon qPV j)) (qA E) U H) ∧
  (va_Z "java/lang/String" "COMPACT_STRINGS" "Z" (.int 1) (qA E) U H ∧ va_Z "jdk/internal/util/Preconditions" "SIOOBE_FORMATTER" "Ljava/util/function/BiFunction;" (qFm E) (qA E) U H) ∧
  (∀ i, i < 10 → (va_O "java/lang/String" (qAd E (100 + i)) (qA E) U H ∧ va_OF "java/lang/String" "coder" "B" (.int 0) (qAd E (100 + i)) (qA E) U H ∧ va_OF "java/lang/String" "value" "[B" (.ref (qAd E (110 + i))) (qAd E (100 + i)) (qA E) U H ∧ va_T .byte (qAd E (110 + i)) (qTn i) (fun j => .int (qKon (qTb i) j)) (qA E) U H) ∧ vk_R "GiantStair$Text" (qTi i) (qTx i) (qAd E (100 + i)) U) ∧
  (qLn E < 2 ^ 31 ∧ va_T .int (qAd E 70) (qLn E) (fun j => .int (qXs E j)) (qA E) U H)
theorem qST_go {E : qEnv} {s U : State} {H H1 : Heap} (h : qST E s H) (hvm : s.vm.Alike U.vm) (hk : ∀ i, i < 10 → vk_R "GiantStair$Text" (qTi i) (qTx i) (qAd E (100 + i)) s → vk_R "GiantStair$Text" (qTi i) (qTx i) (qAd E (100 + i)) U) (hq : ∀ a : Nat, a < H.size → ¬ qA E a → H1[a]? = H[a]?) : qST E U H1 := by
  obtain ⟨⟨a1, a2⟩, ⟨b1, b2⟩, ⟨c1, c2⟩, t, l1, l2⟩ := h
  exact ⟨⟨(a1.moved hvm).kept hq, (a2.moved hvm).kept hq⟩, ⟨(b1.moved hvm).kept hq, (b2.moved hvm).kept hq⟩, ⟨(c1.moved hvm).kept hq, (c2.moved hvm).kept hq⟩, fun i hi => ⟨⟨((t i hi).1.1.moved hvm).kept hq, ((t i hi).1.2.1.moved hvm).kept hq, ((t i hi).1.2.2.1.moved hvm).kept hq, ((t i hi).1.2.2.2.moved hvm).kept hq⟩, hk i hi (t i hi).2⟩, l1, (l2.moved hvm).kept hq⟩
theorem qZ_60 : qZ 60 = (4, 5, qOver) := rfl
theorem qZ_61 : qZ 61 = (4, 5, qPV) := rfl
theorem qZ_tx : ∀ i, i < 10 → qZ (100 + i) = (6, 110 + i, []) ∧ qZ (110 + i) = (5, qTn i, qTb i) := by decide +kernel
theorem qST_ok : qSTok qZ qST := by
  refine ⟨fun E U H h => ?_, fun E s U H locs h hW hS hU => ?_, fun E U g mk a h => ?_⟩
  · obtain ⟨⟨a1, a2⟩, ⟨b1, b2⟩, ⟨c1, c2⟩, t, l1, l2⟩ := h
    refine ⟨fun o n fs hz => ?_, fun o n fs hz => ?_, fun o b fs hz => ?_, fun o n fs hz => ?_⟩
    · have ho := qZ_lt hz (by decide)
      rcases (qZ_kinds o ho).2.1 (by rw [hz]) with rfl | rfl
      · cases hz.symm.trans qZ_60
        exact ⟨rfl, a2⟩
      · cases hz.symm.trans qZ_61
        exact ⟨rfl, b2⟩
    · have ho := qZ_lt hz (by decide)
      have h1 := (qZ_kinds o ho).2.2.1 (by rw [hz])
      obtain ⟨i, rfl⟩ : ∃ i, o = 110 + i := ⟨o - 110, by omega⟩
      have hi : i < 10 := by omega
      cases hz.symm.trans (qZ_tx i hi).2
      exact ⟨Nat.ble_eq_true_of_le (by omega), (t i hi).1.2.2.2⟩
    · have ho := qZ_lt hz (by decide)
      have h1 := (qZ_kinds o ho).2.2.2.1 (by rw [hz])
      obtain ⟨i, rfl⟩ : ∃ i, o = 100 + i := ⟨o - 100, by omega⟩
      have hi : i < 10 := by omega
      cases hz.symm.trans (qZ_tx i hi).1
      exact ⟨Nat.ble_eq_true_of_le (by omega), Nat.ble_eq_true_of_le (by omega), (t i hi).1.1, (t i hi).1.2.1, (t i hi).1.2.2.1⟩
    · have ho := qZ_lt hz (by decide)
      have h1 := (qZ_kinds o ho).2.2.2.2 (by rw [hz])
      exact ⟨h1, l1, l2⟩
  · subst hU
    exact qST_go h hW.alike (fun i hi k => k.warm hW) hS.2.1
  · exact qST_go (U := U.calling g mk a) h (Vm.Alike.refl U.vm) (fun i hi k => k.same rfl) (fun _ _ _ => rfl)
theorem qST_over (E : qEnv) (U : State) (H : Heap) (h : qST E U H) : va_Z "GiantStair$Told" "OVER" "[I" (qX E (.ref 60)) (qA E) U H := h.1.1
theorem qST_pv (E : qEnv) (U : State) (H : Heap) (h : qST E U H) : va_Z "GiantStair$Search" "PLACE_VALUE" "[I" (qX E (.ref 61)) (qA E) U H := h.2.1.1
theorem qST_cs (E : qEnv) (U : State) (H : Heap) (h : qST E U H) : va_Z "java/lang/String" "COMPACT_STRINGS" "Z" (.int 1) (qA E) U H := h.2.2.1.1
theorem qST_fm (E : qEnv) (U : State) (H : Heap) (h : qST E U H) : va_Z "jdk/internal/util/Preconditions" "SIOOBE_FORMATTER" "Ljava/util/function/BiFunction;" (qX E (.ref 150)) (qA E) U H := h.2.2.1.2
theorem qST_tx (i : Nat) (hi : i < 10) (E : qEnv) (U : State) (H : Heap) (h : qST E U H) : vk_R "GiantStair$Text" (qTi i) (qTx i) (qAd E (100 + i)) U := (h.2.2.2.1 i hi).2
