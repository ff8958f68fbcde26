/-! the law's loop over the Statement's machine; what the makers leave is the start of what holds between the two -/
theorem d_law_810 : decode code 810 = .ok (.ireturn, 1) := by decide +kernel
theorem go_loop {E : qEnv} {p : Program} {l : Launch} {e : Env} {s : State} {m : MethodId} {below : List Frame} {meth : Method} {c : Code} {b : Nat} {s0 : qMem} (F : qFr qZ 55 qST E lTs "GiantStairLaw" code 4 10 p room_1 s m #[Value.ref b] c 600000 7302249) (hbase : qBase E = s.heap.size) (hL : qLn E ≤ 256) (hr : meth.sig.returnType = ret) (hlocks : meth.locks = false) (hI : CINV s0) : qWM qZ 55 E 4 99 p l e room_1 s m #[Value.ref b] below meth c 600000 7302249 (lw_Z below #[Value.ref b] s) (18, Li 0, [], s0) := by
  have I : qIH qMT qNM qZ 55 qST E l 10 := q_all qAll_ok E F.2.2.2.2.2.2.2.2.1 l 10
  refine law_loop (LW := fun x => qWM qZ 55 E 4 99 p l e room_1 s m #[Value.ref b] below meth c 600000 7302249 (lw_Z below #[Value.ref b] s) x) (X := qXs E) (Ln := qLn E) ?_ ?_ hL ?_ 300 0 s0 (by omega) (Nat.zero_le _) hI
  · intro f x t hT hf k
    have h := ok_law x.1
    rw [hT] at h
    obtain ⟨pc, L, st, mm⟩ := x
    exact h E 10 p l e room_1 s m #[Value.ref b] below meth c 600000 7302249 _ F I L st mm t hf k
  · intro x h H locs ls hP hS hLV hc
    exact h hc H locs ls hP hS hLV hc
  · intro i t H locs ls hP hS hLV hc
    refine va_forget (fun q hq => ?_) (lw_ret F.1 F.2.1 hr hlocks d_law_810)
    have := hS.2.2 q hq
    unfold qA at this
    rw [hbase] at this
    exact this
def lAd (u v : Nat → Nat) (a60 a61 b : Nat) (tx ty : Nat → Nat) (o : Nat) : Nat := bif Nat.ble 110 o then ty (o - 110) else bif Nat.ble 100 o then tx (o - 100) else bif Nat.beq o 70 then b else bif Nat.beq o 61 then a61 else bif Nat.beq o 60 then a60 else bif Nat.ble 40 o then v o else u o
def lMem (xs : Nat → Int32) (Ln : Nat) (gG gM : Nat → Nat → Int32) : qMem := (fun o => bif Nat.beq o 70 then xs else bif Nat.beq o 71 then (fun _ => nI Ln) else bif Nat.ble 40 o then gM o else gG o, 0)
theorem lMem_inv {xs : Nat → Int32} {Ln : Nat} {gG gM : Nat → Nat → Int32} (hG : mFG gG) (hM : mFM gM) : CINV (lMem xs Ln gG gM) := by
  obtain ⟨⟨a1, a2⟩, ⟨a3, a4, a5⟩, a6, a7, a8, a9, a10, a11, a12⟩ := hG
  obtain ⟨⟨b1, b2, b3, b4, b5, b6, b7⟩, b8, b9, b10, b11⟩ := hM
  refine ⟨(2, 0, fun _ => 20, fun _ => false, fun _ _ => 0), fun _ => 0, ⟨⟨(by decide : 1 ≤ 2), (by decide : 2 ≤ 4)⟩, Nat.zero_le _, fun _ _ => (by decide : 20 ≤ 60), fun p hp => absurd hp (Nat.not_lt_zero _)⟩, fun p hp => absurd hp (Nat.not_lt_zero _), ⟨⟨a3, a4, fun i hi => ⟨(a5 i hi).1, (a5 i hi).2⟩, fun p hp => absurd hp (Nat.not_lt_zero _)⟩, fun p hp => absurd hp (Nat.not_lt_zero _), ⟨0, Nat.zero_le _, a9, fun _ => 0, fun i hi => absurd hi (Nat.not_lt_zero _), fun k hk => Or.inl (a10 k hk)⟩, Or.inl a1⟩, ⟨⟨b1, b3, fun i hi => b8 i hi, ⟨0, by omega, b2, fun i _ => (Nat.zero_testBit i).symm⟩, fun p hp => absurd hp (Nat.not_lt_zero _)⟩, ⟨31, by omega, b7, by decide⟩, fun p hp => absurd hp (Nat.not_lt_zero _)⟩, ⟨0, Nat.zero_le _, a7, b5⟩, fun i hi => (a8 i hi).trans (b9 i hi).symm, ⟨0, Nat.zero_le _, a2, b6, fun i hi => absurd hi (Nat.not_lt_zero _)⟩, ⟨0, Nat.zero_le _, a6, b4, fun i hi => absurd hi (Nat.not_lt_zero _)⟩, Or.inl ⟨a11, b10⟩, Or.inl ⟨a12, b11⟩⟩
theorem kept_ad {f g : Nat → Nat} (h1 : f 34 = g 34) (h2 : f 37 = g 37) : (fun i => if i < [34, 37].length then some (f (qNth [34, 37] i)) else none) = fun i => if i < [34, 37].length then some (g (qNth [34, 37] i)) else none := by
  funext i
  rcases i with _ | _ | i
  · exact congrArg some h1
  · exact congrArg some h2
  · show (if i + 2 < 2 then _ else _) = if i + 2 < 2 then _ else _
    rw [if_neg (by omega), if_neg (by omega)]
section START
variable {D : va_G} {kI kB kJ : ClassId} {u v : Nat → Nat} {gG gM : Nat → Nat → Int32} {a60 a61 b Ln base : Nat} {tx ty : Nat → Nat} {fm : Value} {xs : Nat → Int32}
def lE (D : va_G) (kI kB kJ : ClassId) (u v : Nat → Nat) (a60 a61 b : Nat) (tx ty : Nat → Nat) (fm : Value) (xs : Nat → Int32) (Ln base : Nat) : qEnv := (base, lAd u v a60 a61 b tx ty, D, mCA kI kB kJ, fm, Ln, xs)
theorem lW_at (o : Nat) (ho : o < 55) : (qAd (lE D kI kB kJ u v a60 a61 b tx ty fm xs Ln base) o, qMk (lE D kI kB kJ u v a60 a61 b tx ty fm xs Ln base) ((lMem xs Ln gG gM).1 o) (lMem xs Ln gG gM).2 (qZ o)) = if o < 40 then (u o, qMk (mEn D kI kB kJ u) (gG o) 0 (qZ o)) else (v o, qMk (mEn D kI kB kJ v) (gM o) 0 (qZ o)) := by
  have h : o = 0 ∨ o = 1 ∨ o = 2 ∨ o = 3 ∨ o = 4 ∨ o = 5 ∨ o = 6 ∨ o = 7 ∨ o = 8 ∨ o = 9 ∨ o = 10 ∨ o = 11 ∨ o = 12 ∨ o = 13 ∨ o = 14 ∨ o = 15 ∨ o = 16 ∨ o = 17 ∨ o = 18 ∨ o = 19 ∨ o = 20 ∨ o = 21 ∨ o = 22 ∨ o = 23 ∨ o = 24 ∨ o = 25 ∨ o = 26 ∨ o = 27 ∨ o = 28 ∨ o = 29 ∨ o = 30 ∨ o = 31 ∨ o = 32 ∨ o = 33 ∨ o = 34 ∨ o = 35 ∨ o = 36 ∨ o = 37 ∨ o = 38 ∨ o = 39 ∨ o = 40 ∨ o = 41 ∨ o = 42 ∨ o = 43 ∨ o = 44 ∨ o = 45 ∨ o = 46 ∨ o = 47 ∨ o = 48 ∨ o = 49 ∨ o = 50 ∨ o = 51 ∨ o = 52 ∨ o = 53 ∨ o = 54 := by omega
  rcases h with h | h | h | h | h | h | h | h | h | h | h | h | h | h | h | h | h | h | h | h | h | h | h | h | h | h | h | h | h | h | h | h | h | h | h | h | h | h | h | h | h | h | h | h | h | h | h | h | h | h | h | h | h | h | h
  · subst h
    rfl
  · subst h
    rfl
  · subst h
    rfl
  · subst h
    rfl
  · subst h
    rfl
  · subst h
    rfl
  · subst h
    rfl
  · subst h
    rfl
  · subst h
    rfl
  · subst h
    rfl
  · subst h
    rfl
  · subst h
    rfl
  · subst h
    rfl
  · subst h
    rfl
  · subst h
    rfl
  · subst h
    rfl
  · subst h
    rfl
  · subst h
    rfl
  · subst h
    rfl
  · subst h
    rfl
  · subst h
    rfl
  · subst h
    rfl
  · subst h
    rfl
  · subst h
    rfl
  · subst h
    rfl
  · subst h
    show (u 25, (Sum.inl (kJ, 2, Sum.inr (Sum.inr (Sum.inr (Sum.inr (fun i => if i < [34, 37].length then some (lAd u v a60 a61 b tx ty (qNth [34, 37] i)) else none))))) : va_E)) = (u 25, (Sum.inl (kJ, 2, Sum.inr (Sum.inr (Sum.inr (Sum.inr (fun i => if i < [34, 37].length then some (u (qNth [34, 37] i)) else none))))) : va_E))
    rw [kept_ad (f := lAd u v a60 a61 b tx ty) (g := u) rfl rfl]
  · subst h
    rfl
  · subst h
    rfl
  · subst h
    rfl
  · subst h
    rfl
  · subst h
    rfl
  · subst h
    rfl
  · subst h
    rfl
  · subst h
    rfl
  · subst h
    rfl
  · subst h
    rfl
  · subst h
    rfl
  · subst h
    rfl
  · subst h
    rfl
  · subst h
    rfl
  · subst h
    rfl
  · subst h
    rfl
  · subst h
    rfl
  · subst h
    rfl
  · subst h
    rfl
  · subst h
    rfl
  · subst h
    rfl
  · subst h
    rfl
  · subst h
    rfl
  · subst h
    rfl
  · subst h
    rfl
  · subst h
    rfl
  · subst h
    rfl
  · subst h
    rfl
  · subst h
    rfl
theorem lW_eq : qWld qZ 55 (lE D kI kB kJ u v a60 a61 b tx ty fm xs Ln base) (lMem xs Ln gG gM) = mWG D kI kB kJ (u, gG) ++ mWM D kI kB kJ (v, gM) := by
  refine List.ext_getElem? (fun i => ?_)
  have h40 : (mWG D kI kB kJ (u, gG)).length = 40 := by
    unfold mWG
    rw [List.length_map, List.length_range]
  by_cases hi : i < 55
  · rw [qWld_at hi, lW_at i hi]
    by_cases h4 : i < 40
    · rw [if_pos h4, List.getElem?_append_left (by omega)]
      unfold mWG
      rw [List.getElem?_map, List.getElem?_range h4]
      rfl
    · rw [if_neg h4, List.getElem?_append_right (by omega), h40]
      unfold mWM
      rw [List.getElem?_map, List.getElem?_range (by omega)]
      show _ = some ((v (40 + (i - 40)), qMk (mEn D kI kB kJ v) (gM (40 + (i - 40))) 0 (qZ (40 + (i - 40)))))
      rw [show 40 + (i - 40) = i from by omega]
  · rw [List.getElem?_eq_none (by rw [qWld_len]; omega), List.getElem?_eq_none]
    rw [List.length_append, h40]
    unfold mWM
    rw [List.length_map, List.length_range]
    omega
end START
