/-! equations, by program -/
noncomputable def m_J_isPair (d : Nat) (a : Int32) (b : Int32) (s : qMem) : Option (Int32 × qMem) := qI (qCall qMT d 11 [.int a, .int b] s)
set_option maxRecDepth 20000 in
theorem e_J_isPair (d : Nat) (a : Int32) (b : Int32) (s : qMem) : m_J_isPair (d + 1) a b s = (if a < 0 then some (0, s) else (if 5 ≤ a then some (0, s) else (if b < 0 then some (0, s) else (if 5 ≤ b then some (0, s) else some (1, s))))) := d_step (t := (1, [some (.int a), some (.int b)], [(.int a)], s)) 1 rfl
   (d_if (a := (22, [some (.int a), some (.int b)], [], s)) (b := (4, [some (.int a), some (.int b)], [], s)) rfl rfl
   (d_step (t := (23, [some (.int a), some (.int b)], [(.int 0)], s)) 1 rfl
   (d_ret (k := 0) rfl rfl))
   (d_step (t := (6, [some (.int a), some (.int b)], [(.int 5), (.int a)], s)) 2 rfl
   (d_if (a := (22, [some (.int a), some (.int b)], [], s)) (b := (9, [some (.int a), some (.int b)], [], s)) rfl rfl
   (d_step (t := (23, [some (.int a), some (.int b)], [(.int 0)], s)) 1 rfl
   (d_ret (k := 0) rfl rfl))
   (d_step (t := (10, [some (.int a), some (.int b)], [(.int b)], s)) 1 rfl
   (d_if (a := (22, [some (.int a), some (.int b)], [], s)) (b := (13, [some (.int a), some (.int b)], [], s)) rfl rfl
   (d_step (t := (23, [some (.int a), some (.int b)], [(.int 0)], s)) 1 rfl
   (d_ret (k := 0) rfl rfl))
   (d_step (t := (15, [some (.int a), some (.int b)], [(.int 5), (.int b)], s)) 2 rfl
   (d_if (a := (22, [some (.int a), some (.int b)], [], s)) (b := (18, [some (.int a), some (.int b)], [], s)) rfl rfl
   (d_step (t := (23, [some (.int a), some (.int b)], [(.int 0)], s)) 1 rfl
   (d_ret (k := 0) rfl rfl))
   (d_step (t := (23, [some (.int a), some (.int b)], [(.int 1)], s)) 2 rfl
   (d_ret (k := 0) rfl rfl)))))))))
noncomputable def m_J_addHelp (d : Nat) (a : Int32) (b : Int32) (s : qMem) : Option (qMem) := qV (qCall qMT d 12 [.ref 22, .int a, .int b] s)
set_option maxRecDepth 20000 in
theorem e_J_addHelp (d : Nat) (a : Int32) (b : Int32) (s : qMem) : m_J_addHelp (d + 1) a b s = ((m_J_isPair d a b s).bind (fun q1 => (if q1.1 = 0 then some q1.2 else (if qIn ((a * 5) + b) 25 then (if qIn ((a * 5) + b) 25 then some (qW q1.2 24 (((a * 5) + b)).toNatClampNeg (((q1.2).1 24 (((a * 5) + b)).toNatClampNeg) + 1)) else none) else none)))) := d_step (t := (2, [some (.ref 22), some (.int a), some (.int b)], [(.int b), (.int a)], s)) 2 rfl
   (d_callI (o := (m_J_isPair d a b s)) rfl rfl (fun q1 =>
   d_if (a := (22, [some (.ref 22), some (.int a), some (.int b)], [], q1.2)) (b := (8, [some (.ref 22), some (.int a), some (.int b)], [], q1.2)) rfl rfl
   (d_ret (k := 2) rfl rfl)
   (d_step (t := (18, [some (.ref 22), some (.int a), some (.int b)], [(.int ((a * 5) + b)), (.ref 24), (.int ((a * 5) + b)), (.ref 24)], q1.2)) 8 rfl
   (d_chk (a := (19, [some (.ref 22), some (.int a), some (.int b)], [(.int ((q1.2).1 24 (((a * 5) + b)).toNatClampNeg)), (.int ((a * 5) + b)), (.ref 24)], q1.2)) rfl rfl
   (d_step (t := (21, [some (.ref 22), some (.int a), some (.int b)], [(.int (((q1.2).1 24 (((a * 5) + b)).toNatClampNeg) + 1)), (.int ((a * 5) + b)), (.ref 24)], q1.2)) 2 rfl
   (d_chk (a := (22, [some (.ref 22), some (.int a), some (.int b)], [], (qW q1.2 24 (((a * 5) + b)).toNatClampNeg (((q1.2).1 24 (((a * 5) + b)).toNatClampNeg) + 1)))) rfl rfl
   (d_ret (k := 2) rfl rfl)))))))
noncomputable def m_J_helpBetween (d : Nat) (a : Int32) (b : Int32) (s : qMem) : Option (Int32 × qMem) := qI (qCall qMT d 13 [.ref 22, .int a, .int b] s)
set_option maxRecDepth 20000 in
theorem e_J_helpBetween (d : Nat) (a : Int32) (b : Int32) (s : qMem) : m_J_helpBetween (d + 1) a b s = ((m_J_isPair d a b s).bind (fun q1 => (if q1.1 = 0 then some (0, q1.2) else (if qIn ((a * 5) + b) 25 then some (((q1.2).1 24 (((a * 5) + b)).toNatClampNeg), q1.2) else none)))) := d_step (t := (2, [some (.ref 22), some (.int a), some (.int b)], [(.int b), (.int a)], s)) 2 rfl
   (d_callI (o := (m_J_isPair d a b s)) rfl rfl (fun q1 =>
   d_if (a := (21, [some (.ref 22), some (.int a), some (.int b)], [], q1.2)) (b := (8, [some (.ref 22), some (.int a), some (.int b)], [], q1.2)) rfl rfl
   (d_step (t := (22, [some (.ref 22), some (.int a), some (.int b)], [(.int 0)], q1.2)) 1 rfl
   (d_ret (k := 0) rfl rfl))
   (d_step (t := (17, [some (.ref 22), some (.int a), some (.int b)], [(.int ((a * 5) + b)), (.ref 24)], q1.2)) 7 rfl
   (d_chk (a := (18, [some (.ref 22), some (.int a), some (.int b)], [(.int ((q1.2).1 24 (((a * 5) + b)).toNatClampNeg))], q1.2)) rfl rfl
   (d_step (t := (22, [some (.ref 22), some (.int a), some (.int b)], [(.int ((q1.2).1 24 (((a * 5) + b)).toNatClampNeg))], q1.2)) 1 rfl
   (d_ret (k := 0) rfl rfl))))))
noncomputable def m_J_helpGiven (d : Nat) (a : Int32) (s : qMem) : Option (Int32 × qMem) := qI (qCall qMT d 14 [.ref 22, .int a] s)
noncomputable def l_J_helpGiven_1 (d : Nat)  (x1 : Int32) (x2 : Int32) (x3 : Int32) (s : qMem) : Option (Int32 × qMem) := qI (qK qMT d 14 (4, [some (.ref 22), some (.int x1), some (.int x2), some (.int x3)], [], s))
set_option maxRecDepth 20000 in
theorem e_J_helpGiven (d : Nat) (a : Int32) (s : qMem) : m_J_helpGiven (d + 1) a s = (l_J_helpGiven_1 d a 0 0 s) := d_step (t := (4, [some (.ref 22), some (.int a), some (.int 0), some (.int 0)], [], s)) 4 rfl
   (rfl)
set_option maxRecDepth 20000 in
theorem el_J_helpGiven_1 (d : Nat)  (x1 : Int32) (x2 : Int32) (x3 : Int32) (s : qMem) : l_J_helpGiven_1 d x1 x2 x3 s = (if 5 ≤ x3 then some (x2, s) else ((m_J_helpBetween d x1 x3 s).bind (fun q1 => (l_J_helpGiven_1 d x1 (x2 + q1.1) (x3 + 1) q1.2)))) := d_step (t := (6, [some (.ref 22), some (.int x1), some (.int x2), some (.int x3)], [(.int 5), (.int x3)], s)) 2 rfl
   (d_if (a := (24, [some (.ref 22), some (.int x1), some (.int x2), some (.int x3)], [], s)) (b := (9, [some (.ref 22), some (.int x1), some (.int x2), some (.int x3)], [], s)) rfl rfl
   (d_step (t := (25, [some (.ref 22), some (.int x1), some (.int x2), some (.int x3)], [(.int x2)], s)) 1 rfl
   (d_ret (k := 0) rfl rfl))
   (d_step (t := (13, [some (.ref 22), some (.int x1), some (.int x2), some (.int x3)], [(.int x3), (.int x1), (.ref 22), (.int x2)], s)) 4 rfl
   (d_callI (o := (m_J_helpBetween d x1 x3 s)) rfl rfl (fun q1 =>
   d_step (t := (4, [some (.ref 22), some (.int x1), some (.int (x2 + q1.1)), some (.int (x3 + 1))], [], q1.2)) 4 rfl
   (rfl)))))
noncomputable def m_J_helpTaken (d : Nat) (a : Int32) (s : qMem) : Option (Int32 × qMem) := qI (qCall qMT d 15 [.ref 22, .int a] s)
noncomputable def l_J_helpTaken_1 (d : Nat)  (x1 : Int32) (x2 : Int32) (x3 : Int32) (s : qMem) : Option (Int32 × qMem) := qI (qK qMT d 15 (4, [some (.ref 22), some (.int x1), some (.int x2), some (.int x3)], [], s))
set_option maxRecDepth 20000 in
theorem e_J_helpTaken (d : Nat) (a : Int32) (s : qMem) : m_J_helpTaken (d + 1) a s = (l_J_helpTaken_1 d a 0 0 s) := d_step (t := (4, [some (.ref 22), some (.int a), some (.int 0), some (.int 0)], [], s)) 4 rfl
   (rfl)
set_option maxRecDepth 20000 in
theorem el_J_helpTaken_1 (d : Nat)  (x1 : Int32) (x2 : Int32) (x3 : Int32) (s : qMem) : l_J_helpTaken_1 d x1 x2 x3 s = (if 5 ≤ x3 then some (x2, s) else ((m_J_helpBetween d x3 x1 s).bind (fun q1 => (l_J_helpTaken_1 d x1 (x2 + q1.1) (x3 + 1) q1.2)))) := d_step (t := (6, [some (.ref 22), some (.int x1), some (.int x2), some (.int x3)], [(.int 5), (.int x3)], s)) 2 rfl
   (d_if (a := (24, [some (.ref 22), some (.int x1), some (.int x2), some (.int x3)], [], s)) (b := (9, [some (.ref 22), some (.int x1), some (.int x2), some (.int x3)], [], s)) rfl rfl
   (d_step (t := (25, [some (.ref 22), some (.int x1), some (.int x2), some (.int x3)], [(.int x2)], s)) 1 rfl
   (d_ret (k := 0) rfl rfl))
   (d_step (t := (13, [some (.ref 22), some (.int x1), some (.int x2), some (.int x3)], [(.int x1), (.int x3), (.ref 22), (.int x2)], s)) 4 rfl
   (d_callI (o := (m_J_helpBetween d x3 x1 s)) rfl rfl (fun q1 =>
   d_step (t := (4, [some (.ref 22), some (.int x1), some (.int (x2 + q1.1)), some (.int (x3 + 1))], [], q1.2)) 4 rfl
   (rfl)))))
noncomputable def m_J_helpInAll (d : Nat)  (s : qMem) : Option (Int32 × qMem) := qI (qCall qMT d 16 [.ref 22] s)
noncomputable def l_J_helpInAll_1 (d : Nat)  (x1 : Int32) (x2 : Int32) (s : qMem) : Option (Int32 × qMem) := qI (qK qMT d 16 (4, [some (.ref 22), some (.int x1), some (.int x2)], [], s))
set_option maxRecDepth 20000 in
theorem e_J_helpInAll (d : Nat)  (s : qMem) : m_J_helpInAll (d + 1) s = (l_J_helpInAll_1 d 0 0 s) := d_step (t := (4, [some (.ref 22), some (.int 0), some (.int 0)], [], s)) 4 rfl
   (rfl)
set_option maxRecDepth 20000 in
theorem el_J_helpInAll_1 (d : Nat)  (x1 : Int32) (x2 : Int32) (s : qMem) : l_J_helpInAll_1 d x1 x2 s = (if 5 ≤ x2 then some (x1, s) else ((m_J_helpGiven d x2 s).bind (fun q1 => (l_J_helpInAll_1 d (x1 + q1.1) (x2 + 1) q1.2)))) := d_step (t := (6, [some (.ref 22), some (.int x1), some (.int x2)], [(.int 5), (.int x2)], s)) 2 rfl
   (d_if (a := (23, [some (.ref 22), some (.int x1), some (.int x2)], [], s)) (b := (9, [some (.ref 22), some (.int x1), some (.int x2)], [], s)) rfl rfl
   (d_step (t := (24, [some (.ref 22), some (.int x1), some (.int x2)], [(.int x1)], s)) 1 rfl
   (d_ret (k := 0) rfl rfl))
   (d_step (t := (12, [some (.ref 22), some (.int x1), some (.int x2)], [(.int x2), (.ref 22), (.int x1)], s)) 3 rfl
   (d_callI (o := (m_J_helpGiven d x2 s)) rfl rfl (fun q1 =>
   d_step (t := (4, [some (.ref 22), some (.int (x1 + q1.1)), some (.int (x2 + 1))], [], q1.2)) 4 rfl
   (rfl)))))
noncomputable def m_J_begin (d : Nat)  (s : qMem) : Option (qMem) := qV (qCall qMT d 9 [.ref 22, .ref 9] s)
set_option maxRecDepth 20000 in
theorem e_J_begin (d : Nat)  (s : qMem) : m_J_begin (d + 1) s = ((m_fill d 0 (qW (qCpy s 9 23 0 0 5) 22 1 0)).bind (fun q1 => some q1)) := d_step (t := (21, [some (.ref 22), some (.ref 9)], [(.int 0), (.ref 24)], (qW (qCpy s 9 23 0 0 5) 22 1 0))) 13 rfl
   (d_callV (o := (m_fill d 0 (qW (qCpy s 9 23 0 0 5) 22 1 0))) rfl rfl (fun q1 =>
   d_ret (k := 2) rfl rfl))
noncomputable def m_J_copy (d : Nat) (ja : Nat) (jb : Nat) (s : qMem) : Option (qMem) := qV (qCall qMT d 10 [.ref ja, .ref jb] s)
set_option maxRecDepth 20000 in
theorem e_J_copy (d : Nat) (ja : Nat) (jb : Nat) (hc : (ja = 34 ∧ jb = 22) ∨ (ja = 37 ∧ jb = 22) ∨ (ja = 22 ∧ jb = 34) ∨ (ja = 22 ∧ jb = 37)) (s : qMem) : m_J_copy (d + 1) ja jb s = some (qCpy (qW (qCpy s (jb + 1) (ja + 1) 0 0 5) ja 1 ((s).1 jb 1)) (jb + 2) (ja + 2) 0 0 25) := by
  rcases hc with ⟨rfl, rfl⟩ | ⟨rfl, rfl⟩ | ⟨rfl, rfl⟩ | ⟨rfl, rfl⟩
  · exact (d_step (t := (40, [some (.ref 34), some (.ref 22)], [], (qCpy (qW (qCpy s (22 + 1) (34 + 1) 0 0 5) 34 1 ((s).1 22 1)) (22 + 2) (34 + 2) 0 0 25))) 22 rfl
     (d_ret (k := 2) rfl rfl))
  · exact (d_step (t := (40, [some (.ref 37), some (.ref 22)], [], (qCpy (qW (qCpy s (22 + 1) (37 + 1) 0 0 5) 37 1 ((s).1 22 1)) (22 + 2) (37 + 2) 0 0 25))) 22 rfl
     (d_ret (k := 2) rfl rfl))
  · exact (d_step (t := (40, [some (.ref 22), some (.ref 34)], [], (qCpy (qW (qCpy s (34 + 1) (22 + 1) 0 0 5) 22 1 ((s).1 34 1)) (34 + 2) (22 + 2) 0 0 25))) 22 rfl
     (d_ret (k := 2) rfl rfl))
  · exact (d_step (t := (40, [some (.ref 22), some (.ref 37)], [], (qCpy (qW (qCpy s (37 + 1) (22 + 1) 0 0 5) 22 1 ((s).1 37 1)) (37 + 2) (22 + 2) 0 0 25))) 22 rfl
     (d_ret (k := 2) rfl rfl))
