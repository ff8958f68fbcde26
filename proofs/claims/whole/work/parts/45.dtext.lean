/-! equations, by program -/
noncomputable def m_X_append (d : Nat) (c : Int32) (s : qMem) : Option (qMem) := qV (qCall qMT d 34 [.ref 19, .int c] s)
set_option maxRecDepth 20000 in
theorem e_X_append (d : Nat) (c : Int32) (s : qMem) : m_X_append (d + 1) c s = (if 200 ≤ ((s).1 19 1) then some s else (if qIn ((s).1 19 1) 200 then some (qW (qW s 20 (((s).1 19 1)).toNatClampNeg c) 19 1 (((s).1 19 1) + 1)) else none)) := d_step (t := (7, [some (.ref 19), some (.int c)], [(.int 200), (.int ((s).1 19 1))], s)) 3 rfl
   (d_if (a := (30, [some (.ref 19), some (.int c)], [], s)) (b := (10, [some (.ref 19), some (.int c)], [], s)) rfl rfl
   (d_ret (k := 2) rfl rfl)
   (d_step (t := (19, [some (.ref 19), some (.int c)], [(.int c), (.int ((s).1 19 1)), (.ref 20)], s)) 5 rfl
   (d_chk (a := (20, [some (.ref 19), some (.int c)], [], (qW s 20 (((s).1 19 1)).toNatClampNeg c))) rfl rfl
   (d_step (t := (30, [some (.ref 19), some (.int c)], [], (qW (qW s 20 (((s).1 19 1)).toNatClampNeg c) 19 1 (((s).1 19 1) + 1)))) 6 rfl
   (d_ret (k := 2) rfl rfl)))))
noncomputable def m_X_empty (d : Nat)  (s : qMem) : Option (Int32 × qMem) := qI (qCall qMT d 35 [.ref 19] s)
set_option maxRecDepth 20000 in
theorem e_X_empty (d : Nat)  (s : qMem) : m_X_empty (d + 1) s = some (((s).1 19 1), (qW s 19 1 0)) := d_step (t := (11, [some (.ref 19), some (.int ((s).1 19 1))], [(.int ((s).1 19 1))], (qW s 19 1 0))) 7 rfl
   (d_ret (k := 0) rfl rfl)
noncomputable def m_X_sign (d : Nat)  (s : qMem) : Option (Int32 × qMem) := qI (qCall qMT d 38 [.ref 19] s)
set_option maxRecDepth 20000 in
theorem e_X_sign (d : Nat)  (s : qMem) : m_X_sign (d + 1) s = (if ((s).1 19 3) < 0 then some (32, s) else (if ((s).1 19 1) ≤ ((s).1 19 3) then some (32, s) else (if 200 ≤ ((s).1 19 3) then some (32, s) else (if qIn ((s).1 19 3) 200 then some (((s).1 20 (((s).1 19 3)).toNatClampNeg), s) else none)))) := d_step (t := (4, [some (.ref 19)], [(.int ((s).1 19 3))], s)) 2 rfl
   (d_if (a := (40, [some (.ref 19)], [], s)) (b := (7, [some (.ref 19)], [], s)) rfl rfl
   (d_step (t := (42, [some (.ref 19)], [(.int 32)], s)) 1 rfl
   (d_ret (k := 0) rfl rfl))
   (d_step (t := (15, [some (.ref 19)], [(.int ((s).1 19 1)), (.int ((s).1 19 3))], s)) 4 rfl
   (d_if (a := (40, [some (.ref 19)], [], s)) (b := (18, [some (.ref 19)], [], s)) rfl rfl
   (d_step (t := (42, [some (.ref 19)], [(.int 32)], s)) 1 rfl
   (d_ret (k := 0) rfl rfl))
   (d_step (t := (25, [some (.ref 19)], [(.int 200), (.int ((s).1 19 3))], s)) 3 rfl
   (d_if (a := (40, [some (.ref 19)], [], s)) (b := (28, [some (.ref 19)], [], s)) rfl rfl
   (d_step (t := (42, [some (.ref 19)], [(.int 32)], s)) 1 rfl
   (d_ret (k := 0) rfl rfl))
   (d_step (t := (36, [some (.ref 19)], [(.int ((s).1 19 3)), (.ref 20)], s)) 4 rfl
   (d_chk (a := (37, [some (.ref 19)], [(.int ((s).1 20 (((s).1 19 3)).toNatClampNeg))], s)) rfl rfl
   (d_step (t := (42, [some (.ref 19)], [(.int ((s).1 20 (((s).1 19 3)).toNatClampNeg))], s)) 1 rfl
   (d_ret (k := 0) rfl rfl)))))))))
noncomputable def m_X_skipBlanks (d : Nat)  (s : qMem) : Option (qMem) := qV (qCall qMT d 39 [.ref 19] s)
noncomputable def l_X_skipBlanks_1 (d : Nat)   (s : qMem) : Option (qMem) := qV (qK qMT d 39 (0, [some (.ref 19)], [], s))
set_option maxRecDepth 20000 in
theorem e_X_skipBlanks (d : Nat)  (s : qMem) : m_X_skipBlanks (d + 1) s = (l_X_skipBlanks_1 d s) := rfl
set_option maxRecDepth 20000 in
theorem el_X_skipBlanks_1 (d : Nat)   (s : qMem) : l_X_skipBlanks_1 d s = (if ((s).1 19 1) ≤ ((s).1 19 3) then some s else ((m_X_sign d s).bind (fun q1 => (if q1.1 = 32 then (l_X_skipBlanks_1 d (qW q1.2 19 3 (((q1.2).1 19 3) + 1))) else some q1.2)))) := d_step (t := (8, [some (.ref 19)], [(.int ((s).1 19 1)), (.int ((s).1 19 3))], s)) 4 rfl
   (d_if (a := (33, [some (.ref 19)], [], s)) (b := (11, [some (.ref 19)], [], s)) rfl rfl
   (d_ret (k := 2) rfl rfl)
   (d_step (t := (12, [some (.ref 19)], [(.ref 19)], s)) 1 rfl
   (d_callI (o := (m_X_sign d s)) rfl rfl (fun q1 =>
   d_step (t := (17, [some (.ref 19)], [(.int 32), (.int q1.1)], q1.2)) 1 rfl
   (d_if (a := (20, [some (.ref 19)], [], q1.2)) (b := (33, [some (.ref 19)], [], q1.2)) rfl rfl
   (d_step (t := (0, [some (.ref 19)], [], (qW q1.2 19 3 (((q1.2).1 19 3) + 1)))) 7 rfl
   (rfl))
   (d_ret (k := 2) rfl rfl))))))
noncomputable def m_X_spelling (d : Nat) (w : Int32) (s : qMem) : Option (Nat × qMem) := qR (qCall qMT d 43 [.int w] s)
set_option maxRecDepth 20000 in
theorem e_X_spelling (d : Nat) (w : Int32) (s : qMem) : m_X_spelling (d + 1) w s = (if w = 0 then some (100, s) else (if w = 1 then some (101, s) else (if w = 2 then some (102, s) else (if w = 3 then some (103, s) else (if w = 4 then some (104, s) else (if w = 5 then some (105, s) else (if w = 6 then some (106, s) else (if w = 7 then some (107, s) else (if w = 8 then some (108, s) else some (109, s)))))))))) := d_step (t := (1, [some (.int w)], [(.int w)], s)) 1 rfl
   (d_sw (o := qSel w [some (.int w)] [] s 79 [(0, 52), (1, 55), (2, 58), (3, 61), (4, 64), (5, 67), (6, 70), (7, 73), (8, 76)]) rfl rfl (d_sw1 (d_step (t := (54, [some (.int w)], [(.ref 100)], s)) 1 rfl
   (d_ret (k := 1) rfl rfl))
   (d_sw1 (d_step (t := (57, [some (.int w)], [(.ref 101)], s)) 1 rfl
   (d_ret (k := 1) rfl rfl))
   (d_sw1 (d_step (t := (60, [some (.int w)], [(.ref 102)], s)) 1 rfl
   (d_ret (k := 1) rfl rfl))
   (d_sw1 (d_step (t := (63, [some (.int w)], [(.ref 103)], s)) 1 rfl
   (d_ret (k := 1) rfl rfl))
   (d_sw1 (d_step (t := (66, [some (.int w)], [(.ref 104)], s)) 1 rfl
   (d_ret (k := 1) rfl rfl))
   (d_sw1 (d_step (t := (69, [some (.int w)], [(.ref 105)], s)) 1 rfl
   (d_ret (k := 1) rfl rfl))
   (d_sw1 (d_step (t := (72, [some (.int w)], [(.ref 106)], s)) 1 rfl
   (d_ret (k := 1) rfl rfl))
   (d_sw1 (d_step (t := (75, [some (.int w)], [(.ref 107)], s)) 1 rfl
   (d_ret (k := 1) rfl rfl))
   (d_sw1 (d_step (t := (78, [some (.int w)], [(.ref 108)], s)) 1 rfl
   (d_ret (k := 1) rfl rfl))
   (d_sw0 (d_step (t := (81, [some (.int w)], [(.ref 109)], s)) 1 rfl
   (d_ret (k := 1) rfl rfl)))))))))))))
noncomputable def m_X_spells (d : Nat) (b : Int32) (tx : Nat) (s : qMem) : Option (Int32 × qMem) := qI (qCall qMT d 42 [.ref 19, .int b, .ref tx] s)
noncomputable def l_X_spells_1 (d : Nat) (tx : Nat) (x1 : Int32) (x3 : Int32) (s : qMem) : Option (Int32 × qMem) := qI (qK qMT d 42 (31, [some (.ref 19), some (.int x1), some (.ref tx), some (.int x3)], [], s))
set_option maxRecDepth 20000 in
theorem e_X_spells (d : Nat) (b : Int32) (tx : Nat) (hc : (tx = 100) ∨ (tx = 101) ∨ (tx = 102) ∨ (tx = 103) ∨ (tx = 104) ∨ (tx = 105) ∨ (tx = 106) ∨ (tx = 107) ∨ (tx = 108) ∨ (tx = 109)) (s : qMem) : m_X_spells (d + 1) b tx s = (if b < 0 then some (0, s) else ((m_slength d tx s).bind (fun q1 => (if (((s).1 19 3) - b) = q1.1 then (if ((q1.2).1 19 3) ≤ 200 then (l_X_spells_1 d tx b 0 q1.2) else some (0, q1.2)) else some (0, q1.2))))) := by
  rcases hc with rfl | rfl | rfl | rfl | rfl | rfl | rfl | rfl | rfl | rfl
  · exact (d_step (t := (1, [some (.ref 19), some (.int b), some (.ref 100), none], [(.int b)], s)) 1 rfl
     (d_if (a := (27, [some (.ref 19), some (.int b), some (.ref 100), none], [], s)) (b := (4, [some (.ref 19), some (.int b), some (.ref 100), none], [], s)) rfl rfl
     (d_step (t := (28, [some (.ref 19), some (.int b), some (.ref 100), none], [(.int 0)], s)) 1 rfl
     (d_ret (k := 0) rfl rfl))
     (d_step (t := (11, [some (.ref 19), some (.int b), some (.ref 100), none], [(.ref 100), (.int (((s).1 19 3) - b))], s)) 5 rfl
     (d_callI (o := (m_slength d 100 s)) rfl rfl (fun q1 =>
     d_if (a := (17, [some (.ref 19), some (.int b), some (.ref 100), none], [], q1.2)) (b := (27, [some (.ref 19), some (.int b), some (.ref 100), none], [], q1.2)) rfl rfl
     (d_step (t := (24, [some (.ref 19), some (.int b), some (.ref 100), none], [(.int 200), (.int ((q1.2).1 19 3))], q1.2)) 3 rfl
     (d_if (a := (29, [some (.ref 19), some (.int b), some (.ref 100), none], [], q1.2)) (b := (27, [some (.ref 19), some (.int b), some (.ref 100), none], [], q1.2)) rfl rfl
     (d_step (t := (31, [some (.ref 19), some (.int b), some (.ref 100), some (.int 0)], [], q1.2)) 2 rfl
     (rfl))
     (d_step (t := (28, [some (.ref 19), some (.int b), some (.ref 100), none], [(.int 0)], q1.2)) 1 rfl
     (d_ret (k := 0) rfl rfl))))
     (d_step (t := (28, [some (.ref 19), some (.int b), some (.ref 100), none], [(.int 0)], q1.2)) 1 rfl
     (d_ret (k := 0) rfl rfl)))))))
  · exact (d_step (t := (1, [some (.ref 19), some (.int b), some (.ref 101), none], [(.int b)], s)) 1 rfl
     (d_if (a := (27, [some (.ref 19), some (.int b), some (.ref 101), none], [], s)) (b := (4, [some (.ref 19), some (.int b), some (.ref 101), none], [], s)) rfl rfl
     (d_step (t := (28, [some (.ref 19), some (.int b), some (.ref 101), none], [(.int 0)], s)) 1 rfl
     (d_ret (k := 0) rfl rfl))
     (d_step (t := (11, [some (.ref 19), some (.int b), some (.ref 101), none], [(.ref 101), (.int (((s).1 19 3) - b))], s)) 5 rfl
     (d_callI (o := (m_slength d 101 s)) rfl rfl (fun q1 =>
     d_if (a := (17, [some (.ref 19), some (.int b), some (.ref 101), none], [], q1.2)) (b := (27, [some (.ref 19), some (.int b), some (.ref 101), none], [], q1.2)) rfl rfl
     (d_step (t := (24, [some (.ref 19), some (.int b), some (.ref 101), none], [(.int 200), (.int ((q1.2).1 19 3))], q1.2)) 3 rfl
     (d_if (a := (29, [some (.ref 19), some (.int b), some (.ref 101), none], [], q1.2)) (b := (27, [some (.ref 19), some (.int b), some (.ref 101), none], [], q1.2)) rfl rfl
     (d_step (t := (31, [some (.ref 19), some (.int b), some (.ref 101), some (.int 0)], [], q1.2)) 2 rfl
     (rfl))
     (d_step (t := (28, [some (.ref 19), some (.int b), some (.ref 101), none], [(.int 0)], q1.2)) 1 rfl
     (d_ret (k := 0) rfl rfl))))
     (d_step (t := (28, [some (.ref 19), some (.int b), some (.ref 101), none], [(.int 0)], q1.2)) 1 rfl
     (d_ret (k := 0) rfl rfl)))))))
  · exact (d_step (t := (1, [some (.ref 19), some (.int b), some (.ref 102), none], [(.int b)], s)) 1 rfl
     (d_if (a := (27, [some (.ref 19), some (.int b), some (.ref 102), none], [], s)) (b := (4, [some (.ref 19), some (.int b), some (.ref 102), none], [], s)) rfl rfl
     (d_step (t := (28, [some (.ref 19), some (.int b), some (.ref 102), none], [(.int 0)], s)) 1 rfl
     (d_ret (k := 0) rfl rfl))
     (d_step (t := (11, [some (.ref 19), some (.int b), some (.ref 102), none], [(.ref 102), (.int (((s).1 19 3) - b))], s)) 5 rfl
     (d_callI (o := (m_slength d 102 s)) rfl rfl (fun q1 =>
     d_if (a := (17, [some (.ref 19), some (.int b), some (.ref 102), none], [], q1.2)) (b := (27, [some (.ref 19), some (.int b), some (.ref 102), none], [], q1.2)) rfl rfl
     (d_step (t := (24, [some (.ref 19), some (.int b), some (.ref 102), none], [(.int 200), (.int ((q1.2).1 19 3))], q1.2)) 3 rfl
     (d_if (a := (29, [some (.ref 19), some (.int b), some (.ref 102), none], [], q1.2)) (b := (27, [some (.ref 19), some (.int b), some (.ref 102), none], [], q1.2)) rfl rfl
     (d_step (t := (31, [some (.ref 19), some (.int b), some (.ref 102), some (.int 0)], [], q1.2)) 2 rfl
     (rfl))
     (d_step (t := (28, [some (.ref 19), some (.int b), some (.ref 102), none], [(.int 0)], q1.2)) 1 rfl
     (d_ret (k := 0) rfl rfl))))
     (d_step (t := (28, [some (.ref 19), some (.int b), some (.ref 102), none], [(.int 0)], q1.2)) 1 rfl
     (d_ret (k := 0) rfl rfl)))))))
  · exact (d_step (t := (1, [some (.ref 19), some (.int b), some (.ref 103), none], [(.int b)], s)) 1 rfl
     (d_if (a := (27, [some (.ref 19), some (.int b), some (.ref 103), none], [], s)) (b := (4, [some (.ref 19), some (.int b), some (.ref 103), none], [], s)) rfl rfl
     (d_step (t := (28, [some (.ref 19), some (.int b), some (.ref 103), none], [(.int 0)], s)) 1 rfl
     (d_ret (k := 0) rfl rfl))
     (d_step (t := (11, [some (.ref 19), some (.int b), some (.ref 103), none], [(.ref 103), (.int (((s).1 19 3) - b))], s)) 5 rfl
     (d_callI (o := (m_slength d 103 s)) rfl rfl (fun q1 =>
     d_if (a := (17, [some (.ref 19), some (.int b), some (.ref 103), none], [], q1.2)) (b := (27, [some (.ref 19), some (.int b), some (.ref 103), none], [], q1.2)) rfl rfl
     (d_step (t := (24, [some (.ref 19), some (.int b), some (.ref 103), none], [(.int 200), (.int ((q1.2).1 19 3))], q1.2)) 3 rfl
     (d_if (a := (29, [some (.ref 19), some (.int b), some (.ref 103), none], [], q1.2)) (b := (27, [some (.ref 19), some (.int b), some (.ref 103), none], [], q1.2)) rfl rfl
     (d_step (t := (31, [some (.ref 19), some (.int b), some (.ref 103), some (.int 0)], [], q1.2)) 2 rfl
     (rfl))
     (d_step (t := (28, [some (.ref 19), some (.int b), some (.ref 103), none], [(.int 0)], q1.2)) 1 rfl
     (d_ret (k := 0) rfl rfl))))
     (d_step (t := (28, [some (.ref 19), some (.int b), some (.ref 103), none], [(.int 0)], q1.2)) 1 rfl
     (d_ret (k := 0) rfl rfl)))))))
  · exact (d_step (t := (1, [some (.ref 19), some (.int b), some (.ref 104), none], [(.int b)], s)) 1 rfl
     (d_if (a := (27, [some (.ref 19), some (.int b), some (.ref 104), none], [], s)) (b := (4, [some (.ref 19), some (.int b), some (.ref 104), none], [], s)) rfl rfl
     (d_step (t := (28, [some (.ref 19), some (.int b), some (.ref 104), none], [(.int 0)], s)) 1 rfl
     (d_ret (k := 0) rfl rfl))
     (d_step (t := (11, [some (.ref 19), some (.int b), some (.ref 104), none], [(.ref 104), (.int (((s).1 19 3) - b))], s)) 5 rfl
     (d_callI (o := (m_slength d 104 s)) rfl rfl (fun q1 =>
     d_if (a := (17, [some (.ref 19), some (.int b), some (.ref 104), none], [], q1.2)) (b := (27, [some (.ref 19), some (.int b), some (.ref 104), none], [], q1.2)) rfl rfl
     (d_step (t := (24, [some (.ref 19), some (.int b), some (.ref 104), none], [(.int 200), (.int ((q1.2).1 19 3))], q1.2)) 3 rfl
     (d_if (a := (29, [some (.ref 19), some (.int b), some (.ref 104), none], [], q1.2)) (b := (27, [some (.ref 19), some (.int b), some (.ref 104), none], [], q1.2)) rfl rfl
     (d_step (t := (31, [some (.ref 19), some (.int b), some (.ref 104), some (.int 0)], [], q1.2)) 2 rfl
     (rfl))
     (d_step (t := (28, [some (.ref 19), some (.int b), some (.ref 104), none], [(.int 0)], q1.2)) 1 rfl
     (d_ret (k := 0) rfl rfl))))
     (d_step (t := (28, [some (.ref 19), some (.int b), some (.ref 104), none], [(.int 0)], q1.2)) 1 rfl
     (d_ret (k := 0) rfl rfl)))))))
  · exact (d_step (t := (1, [some (.ref 19), some (.int b), some (.ref 105), none], [(.int b)], s)) 1 rfl
     (d_if (a := (27, [some (.ref 19), some (.int b), some (.ref 105), none], [], s)) (b := (4, [some (.ref 19), some (.int b), some (.ref 105), none], [], s)) rfl rfl
     (d_step (t := (28, [some (.ref 19), some (.int b), some (.ref 105), none], [(.int 0)], s)) 1 rfl
     (d_ret (k := 0) rfl rfl))
     (d_step (t := (11, [some (.ref 19), some (.int b), some (.ref 105), none], [(.ref 105), (.int (((s).1 19 3) - b))], s)) 5 rfl
     (d_callI (o := (m_slength d 105 s)) rfl rfl (fun q1 =>
     d_if (a := (17, [some (.ref 19), some (.int b), some (.ref 105), none], [], q1.2)) (b := (27, [some (.ref 19), some (.int b), some (.ref 105), none], [], q1.2)) rfl rfl
     (d_step (t := (24, [some (.ref 19), some (.int b), some (.ref 105), none], [(.int 200), (.int ((q1.2).1 19 3))], q1.2)) 3 rfl
     (d_if (a := (29, [some (.ref 19), some (.int b), some (.ref 105), none], [], q1.2)) (b := (27, [some (.ref 19), some (.int b), some (.ref 105), none], [], q1.2)) rfl rfl
     (d_step (t := (31, [some (.ref 19), some (.int b), some (.ref 105), some (.int 0)], [], q1.2)) 2 rfl
     (rfl))
     (d_step (t := (28, [some (.ref 19), some (.int b), some (.ref 105), none], [(.int 0)], q1.2)) 1 rfl
     (d_ret (k := 0) rfl rfl))))
     (d_step (t := (28, [some (.ref 19), some (.int b), some (.ref 105), none], [(.int 0)], q1.2)) 1 rfl
     (d_ret (k := 0) rfl rfl)))))))
  · exact (d_step (t := (1, [some (.ref 19), some (.int b), some (.ref 106), none], [(.int b)], s)) 1 rfl
     (d_if (a := (27, [some (.ref 19), some (.int b), some (.ref 106), none], [], s)) (b := (4, [some (.ref 19), some (.int b), some (.ref 106), none], [], s)) rfl rfl
     (d_step (t := (28, [some (.ref 19), some (.int b), some (.ref 106), none], [(.int 0)], s)) 1 rfl
     (d_ret (k := 0) rfl rfl))
     (d_step (t := (11, [some (.ref 19), some (.int b), some (.ref 106), none], [(.ref 106), (.int (((s).1 19 3) - b))], s)) 5 rfl
     (d_callI (o := (m_slength d 106 s)) rfl rfl (fun q1 =>
     d_if (a := (17, [some (.ref 19), some (.int b), some (.ref 106), none], [], q1.2)) (b := (27, [some (.ref 19), some (.int b), some (.ref 106), none], [], q1.2)) rfl rfl
     (d_step (t := (24, [some (.ref 19), some (.int b), some (.ref 106), none], [(.int 200), (.int ((q1.2).1 19 3))], q1.2)) 3 rfl
     (d_if (a := (29, [some (.ref 19), some (.int b), some (.ref 106), none], [], q1.2)) (b := (27, [some (.ref 19), some (.int b), some (.ref 106), none], [], q1.2)) rfl rfl
     (d_step (t := (31, [some (.ref 19), some (.int b), some (.ref 106), some (.int 0)], [], q1.2)) 2 rfl
     (rfl))
     (d_step (t := (28, [some (.ref 19), some (.int b), some (.ref 106), none], [(.int 0)], q1.2)) 1 rfl
     (d_ret (k := 0) rfl rfl))))
     (d_step (t := (28, [some (.ref 19), some (.int b), some (.ref 106), none], [(.int 0)], q1.2)) 1 rfl
     (d_ret (k := 0) rfl rfl)))))))
  · exact (d_step (t := (1, [some (.ref 19), some (.int b), some (.ref 107), none], [(.int b)], s)) 1 rfl
     (d_if (a := (27, [some (.ref 19), some (.int b), some (.ref 107), none], [], s)) (b := (4, [some (.ref 19), some (.int b), some (.ref 107), none], [], s)) rfl rfl
     (d_step (t := (28, [some (.ref 19), some (.int b), some (.ref 107), none], [(.int 0)], s)) 1 rfl
     (d_ret (k := 0) rfl rfl))
     (d_step (t := (11, [some (.ref 19), some (.int b), some (.ref 107), none], [(.ref 107), (.int (((s).1 19 3) - b))], s)) 5 rfl
     (d_callI (o := (m_slength d 107 s)) rfl rfl (fun q1 =>
     d_if (a := (17, [some (.ref 19), some (.int b), some (.ref 107), none], [], q1.2)) (b := (27, [some (.ref 19), some (.int b), some (.ref 107), none], [], q1.2)) rfl rfl
     (d_step (t := (24, [some (.ref 19), some (.int b), some (.ref 107), none], [(.int 200), (.int ((q1.2).1 19 3))], q1.2)) 3 rfl
     (d_if (a := (29, [some (.ref 19), some (.int b), some (.ref 107), none], [], q1.2)) (b := (27, [some (.ref 19), some (.int b), some (.ref 107), none], [], q1.2)) rfl rfl
     (d_step (t := (31, [some (.ref 19), some (.int b), some (.ref 107), some (.int 0)], [], q1.2)) 2 rfl
     (rfl))
     (d_step (t := (28, [some (.ref 19), some (.int b), some (.ref 107), none], [(.int 0)], q1.2)) 1 rfl
     (d_ret (k := 0) rfl rfl))))
     (d_step (t := (28, [some (.ref 19), some (.int b), some (.ref 107), none], [(.int 0)], q1.2)) 1 rfl
     (d_ret (k := 0) rfl rfl)))))))
  · exact (d_step (t := (1, [some (.ref 19), some (.int b), some (.ref 108), none], [(.int b)], s)) 1 rfl
     (d_if (a := (27, [some (.ref 19), some (.int b), some (.ref 108), none], [], s)) (b := (4, [some (.ref 19), some (.int b), some (.ref 108), none], [], s)) rfl rfl
     (d_step (t := (28, [some (.ref 19), some (.int b), some (.ref 108), none], [(.int 0)], s)) 1 rfl
     (d_ret (k := 0) rfl rfl))
     (d_step (t := (11, [some (.ref 19), some (.int b), some (.ref 108), none], [(.ref 108), (.int (((s).1 19 3) - b))], s)) 5 rfl
     (d_callI (o := (m_slength d 108 s)) rfl rfl (fun q1 =>
     d_if (a := (17, [some (.ref 19), some (.int b), some (.ref 108), none], [], q1.2)) (b := (27, [some (.ref 19), some (.int b), some (.ref 108), none], [], q1.2)) rfl rfl
     (d_step (t := (24, [some (.ref 19), some (.int b), some (.ref 108), none], [(.int 200), (.int ((q1.2).1 19 3))], q1.2)) 3 rfl
     (d_if (a := (29, [some (.ref 19), some (.int b), some (.ref 108), none], [], q1.2)) (b := (27, [some (.ref 19), some (.int b), some (.ref 108), none], [], q1.2)) rfl rfl
     (d_step (t := (31, [some (.ref 19), some (.int b), some (.ref 108), some (.int 0)], [], q1.2)) 2 rfl
     (rfl))
     (d_step (t := (28, [some (.ref 19), some (.int b), some (.ref 108), none], [(.int 0)], q1.2)) 1 rfl
     (d_ret (k := 0) rfl rfl))))
     (d_step (t := (28, [some (.ref 19), some (.int b), some (.ref 108), none], [(.int 0)], q1.2)) 1 rfl
     (d_ret (k := 0) rfl rfl)))))))
  · exact (d_step (t := (1, [some (.ref 19), some (.int b), some (.ref 109), none], [(.int b)], s)) 1 rfl
     (d_if (a := (27, [some (.ref 19), some (.int b), some (.ref 109), none], [], s)) (b := (4, [some (.ref 19), some (.int b), some (.ref 109), none], [], s)) rfl rfl
     (d_step (t := (28, [some (.ref 19), some (.int b), some (.ref 109), none], [(.int 0)], s)) 1 rfl
     (d_ret (k := 0) rfl rfl))
     (d_step (t := (11, [some (.ref 19), some (.int b), some (.ref 109), none], [(.ref 109), (.int (((s).1 19 3) - b))], s)) 5 rfl
     (d_callI (o := (m_slength d 109 s)) rfl rfl (fun q1 =>
     d_if (a := (17, [some (.ref 19), some (.int b), some (.ref 109), none], [], q1.2)) (b := (27, [some (.ref 19), some (.int b), some (.ref 109), none], [], q1.2)) rfl rfl
     (d_step (t := (24, [some (.ref 19), some (.int b), some (.ref 109), none], [(.int 200), (.int ((q1.2).1 19 3))], q1.2)) 3 rfl
     (d_if (a := (29, [some (.ref 19), some (.int b), some (.ref 109), none], [], q1.2)) (b := (27, [some (.ref 19), some (.int b), some (.ref 109), none], [], q1.2)) rfl rfl
     (d_step (t := (31, [some (.ref 19), some (.int b), some (.ref 109), some (.int 0)], [], q1.2)) 2 rfl
     (rfl))
     (d_step (t := (28, [some (.ref 19), some (.int b), some (.ref 109), none], [(.int 0)], q1.2)) 1 rfl
     (d_ret (k := 0) rfl rfl))))
     (d_step (t := (28, [some (.ref 19), some (.int b), some (.ref 109), none], [(.int 0)], q1.2)) 1 rfl
     (d_ret (k := 0) rfl rfl)))))))
set_option maxRecDepth 20000 in
theorem el_X_spells_1 (d : Nat) (tx : Nat) (x1 : Int32) (x3 : Int32) (hc : (tx = 100) ∨ (tx = 101) ∨ (tx = 102) ∨ (tx = 103) ∨ (tx = 104) ∨ (tx = 105) ∨ (tx = 106) ∨ (tx = 107) ∨ (tx = 108) ∨ (tx = 109)) (s : qMem) : l_X_spells_1 d tx x1 x3 s = ((m_slength d tx s).bind (fun q1 => (if q1.1 ≤ x3 then some (1, q1.2) else (if 200 ≤ (x1 + x3) then some (1, q1.2) else (if qIn (x1 + x3) 200 then ((m_charAt d tx x3 q1.2).bind (fun q2 => (if ((q1.2).1 20 ((x1 + x3)).toNatClampNeg) = q2.1 then (l_X_spells_1 d tx x1 (x3 + 1) q2.2) else some (0, q2.2)))) else none))))) := by
  rcases hc with rfl | rfl | rfl | rfl | rfl | rfl | rfl | rfl | rfl | rfl
  · exact (d_step (t := (33, [some (.ref 19), some (.int x1), some (.ref 100), some (.int x3)], [(.ref 100), (.int x3)], s)) 2 rfl
     (d_callI (o := (m_slength d 100 s)) rfl rfl (fun q1 =>
     d_if (a := (72, [some (.ref 19), some (.int x1), some (.ref 100), some (.int x3)], [], q1.2)) (b := (39, [some (.ref 19), some (.int x1), some (.ref 100), some (.int x3)], [], q1.2)) rfl rfl
     (d_step (t := (73, [some (.ref 19), some (.int x1), some (.ref 100), some (.int x3)], [(.int 1)], q1.2)) 1 rfl
     (d_ret (k := 0) rfl rfl))
     (d_step (t := (45, [some (.ref 19), some (.int x1), some (.ref 100), some (.int x3)], [(.int 200), (.int (x1 + x3))], q1.2)) 4 rfl
     (d_if (a := (72, [some (.ref 19), some (.int x1), some (.ref 100), some (.int x3)], [], q1.2)) (b := (48, [some (.ref 19), some (.int x1), some (.ref 100), some (.int x3)], [], q1.2)) rfl rfl
     (d_step (t := (73, [some (.ref 19), some (.int x1), some (.ref 100), some (.int x3)], [(.int 1)], q1.2)) 1 rfl
     (d_ret (k := 0) rfl rfl))
     (d_step (t := (55, [some (.ref 19), some (.int x1), some (.ref 100), some (.int x3)], [(.int (x1 + x3)), (.ref 20)], q1.2)) 5 rfl
     (d_chk (a := (56, [some (.ref 19), some (.int x1), some (.ref 100), some (.int x3)], [(.int ((q1.2).1 20 ((x1 + x3)).toNatClampNeg))], q1.2)) rfl rfl
     (d_step (t := (58, [some (.ref 19), some (.int x1), some (.ref 100), some (.int x3)], [(.int x3), (.ref 100), (.int ((q1.2).1 20 ((x1 + x3)).toNatClampNeg))], q1.2)) 2 rfl
     (d_callI (o := (m_charAt d 100 x3 q1.2)) rfl rfl (fun q2 =>
     d_if (a := (66, [some (.ref 19), some (.int x1), some (.ref 100), some (.int x3)], [], q2.2)) (b := (64, [some (.ref 19), some (.int x1), some (.ref 100), some (.int x3)], [], q2.2)) rfl rfl
     (d_step (t := (31, [some (.ref 19), some (.int x1), some (.ref 100), some (.int (x3 + 1))], [], q2.2)) 2 rfl
     (rfl))
     (d_step (t := (65, [some (.ref 19), some (.int x1), some (.ref 100), some (.int x3)], [(.int 0)], q2.2)) 1 rfl
     (d_ret (k := 0) rfl rfl))))))))))))
  · exact (d_step (t := (33, [some (.ref 19), some (.int x1), some (.ref 101), some (.int x3)], [(.ref 101), (.int x3)], s)) 2 rfl
     (d_callI (o := (m_slength d 101 s)) rfl rfl (fun q1 =>
     d_if (a := (72, [some (.ref 19), some (.int x1), some (.ref 101), some (.int x3)], [], q1.2)) (b := (39, [some (.ref 19), some (.int x1), some (.ref 101), some (.int x3)], [], q1.2)) rfl rfl
     (d_step (t := (73, [some (.ref 19), some (.int x1), some (.ref 101), some (.int x3)], [(.int 1)], q1.2)) 1 rfl
     (d_ret (k := 0) rfl rfl))
     (d_step (t := (45, [some (.ref 19), some (.int x1), some (.ref 101), some (.int x3)], [(.int 200), (.int (x1 + x3))], q1.2)) 4 rfl
     (d_if (a := (72, [some (.ref 19), some (.int x1), some (.ref 101), some (.int x3)], [], q1.2)) (b := (48, [some (.ref 19), some (.int x1), some (.ref 101), some (.int x3)], [], q1.2)) rfl rfl
     (d_step (t := (73, [some (.ref 19), some (.int x1), some (.ref 101), some (.int x3)], [(.int 1)], q1.2)) 1 rfl
     (d_ret (k := 0) rfl rfl))
     (d_step (t := (55, [some (.ref 19), some (.int x1), some (.ref 101), some (.int x3)], [(.int (x1 + x3)), (.ref 20)], q1.2)) 5 rfl
     (d_chk (a := (56, [some (.ref 19), some (.int x1), some (.ref 101), some (.int x3)], [(.int ((q1.2).1 20 ((x1 + x3)).toNatClampNeg))], q1.2)) rfl rfl
     (d_step (t := (58, [some (.ref 19), some (.int x1), some (.ref 101), some (.int x3)], [(.int x3), (.ref 101), (.int ((q1.2).1 20 ((x1 + x3)).toNatClampNeg))], q1.2)) 2 rfl
     (d_callI (o := (m_charAt d 101 x3 q1.2)) rfl rfl (fun q2 =>
     d_if (a := (66, [some (.ref 19), some (.int x1), some (.ref 101), some (.int x3)], [], q2.2)) (b := (64, [some (.ref 19), some (.int x1), some (.ref 101), some (.int x3)], [], q2.2)) rfl rfl
     (d_step (t := (31, [some (.ref 19), some (.int x1), some (.ref 101), some (.int (x3 + 1))], [], q2.2)) 2 rfl
     (rfl))
     (d_step (t := (65, [some (.ref 19), some (.int x1), some (.ref 101), some (.int x3)], [(.int 0)], q2.2)) 1 rfl
     (d_ret (k := 0) rfl rfl))))))))))))
  · exact (d_step (t := (33, [some (.ref 19), some (.int x1), some (.ref 102), some (.int x3)], [(.ref 102), (.int x3)], s)) 2 rfl
     (d_callI (o := (m_slength d 102 s)) rfl rfl (fun q1 =>
     d_if (a := (72, [some (.ref 19), some (.int x1), some (.ref 102), some (.int x3)], [], q1.2)) (b := (39, [some (.ref 19), some (.int x1), some (.ref 102), some (.int x3)], [], q1.2)) rfl rfl
     (d_step (t := (73, [some (.ref 19), some (.int x1), some (.ref 102), some (.int x3)], [(.int 1)], q1.2)) 1 rfl
     (d_ret (k := 0) rfl rfl))
     (d_step (t := (45, [some (.ref 19), some (.int x1), some (.ref 102), some (.int x3)], [(.int 200), (.int (x1 + x3))], q1.2)) 4 rfl
     (d_if (a := (72, [some (.ref 19), some (.int x1), some (.ref 102), some (.int x3)], [], q1.2)) (b := (48, [some (.ref 19), some (.int x1), some (.ref 102), some (.int x3)], [], q1.2)) rfl rfl
     (d_step (t := (73, [some (.ref 19), some (.int x1), some (.ref 102), some (.int x3)], [(.int 1)], q1.2)) 1 rfl
     (d_ret (k := 0) rfl rfl))
     (d_step (t := (55, [some (.ref 19), some (.int x1), some (.ref 102), some (.int x3)], [(.int (x1 + x3)), (.ref 20)], q1.2)) 5 rfl
     (d_chk (a := (56, [some (.ref 19), some (.int x1), some (.ref 102), some (.int x3)], [(.int ((q1.2).1 20 ((x1 + x3)).toNatClampNeg))], q1.2)) rfl rfl
     (d_step (t := (58, [some (.ref 19), some (.int x1), some (.ref 102), some (.int x3)], [(.int x3), (.ref 102), (.int ((q1.2).1 20 ((x1 + x3)).toNatClampNeg))], q1.2)) 2 rfl
     (d_callI (o := (m_charAt d 102 x3 q1.2)) rfl rfl (fun q2 =>
     d_if (a := (66, [some (.ref 19), some (.int x1), some (.ref 102), some (.int x3)], [], q2.2)) (b := (64, [some (.ref 19), some (.int x1), some (.ref 102), some (.int x3)], [], q2.2)) rfl rfl
     (d_step (t := (31, [some (.ref 19), some (.int x1), some (.ref 102), some (.int (x3 + 1))], [], q2.2)) 2 rfl
     (rfl))
     (d_step (t := (65, [some (.ref 19), some (.int x1), some (.ref 102), some (.int x3)], [(.int 0)], q2.2)) 1 rfl
     (d_ret (k := 0) rfl rfl))))))))))))
  · exact (d_step (t := (33, [some (.ref 19), some (.int x1), some (.ref 103), some (.int x3)], [(.ref 103), (.int x3)], s)) 2 rfl
     (d_callI (o := (m_slength d 103 s)) rfl rfl (fun q1 =>
     d_if (a := (72, [some (.ref 19), some (.int x1), some (.ref 103), some (.int x3)], [], q1.2)) (b := (39, [some (.ref 19), some (.int x1), some (.ref 103), some (.int x3)], [], q1.2)) rfl rfl
     (d_step (t := (73, [some (.ref 19), some (.int x1), some (.ref 103), some (.int x3)], [(.int 1)], q1.2)) 1 rfl
     (d_ret (k := 0) rfl rfl))
     (d_step (t := (45, [some (.ref 19), some (.int x1), some (.ref 103), some (.int x3)], [(.int 200), (.int (x1 + x3))], q1.2)) 4 rfl
     (d_if (a := (72, [some (.ref 19), some (.int x1), some (.ref 103), some (.int x3)], [], q1.2)) (b := (48, [some (.ref 19), some (.int x1), some (.ref 103), some (.int x3)], [], q1.2)) rfl rfl
     (d_step (t := (73, [some (.ref 19), some (.int x1), some (.ref 103), some (.int x3)], [(.int 1)], q1.2)) 1 rfl
     (d_ret (k := 0) rfl rfl))
     (d_step (t := (55, [some (.ref 19), some (.int x1), some (.ref 103), some (.int x3)], [(.int (x1 + x3)), (.ref 20)], q1.2)) 5 rfl
     (d_chk (a := (56, [some (.ref 19), some (.int x1), some (.ref 103), some (.int x3)], [(.int ((q1.2).1 20 ((x1 + x3)).toNatClampNeg))], q1.2)) rfl rfl
     (d_step (t := (58, [some (.ref 19), some (.int x1), some (.ref 103), some (.int x3)], [(.int x3), (.ref 103), (.int ((q1.2).1 20 ((x1 + x3)).toNatClampNeg))], q1.2)) 2 rfl
     (d_callI (o := (m_charAt d 103 x3 q1.2)) rfl rfl (fun q2 =>
     d_if (a := (66, [some (.ref 19), some (.int x1), some (.ref 103), some (.int x3)], [], q2.2)) (b := (64, [some (.ref 19), some (.int x1), some (.ref 103), some (.int x3)], [], q2.2)) rfl rfl
     (d_step (t := (31, [some (.ref 19), some (.int x1), some (.ref 103), some (.int (x3 + 1))], [], q2.2)) 2 rfl
     (rfl))
     (d_step (t := (65, [some (.ref 19), some (.int x1), some (.ref 103), some (.int x3)], [(.int 0)], q2.2)) 1 rfl
     (d_ret (k := 0) rfl rfl))))))))))))
  · exact (d_step (t := (33, [some (.ref 19), some (.int x1), some (.ref 104), some (.int x3)], [(.ref 104), (.int x3)], s)) 2 rfl
     (d_callI (o := (m_slength d 104 s)) rfl rfl (fun q1 =>
     d_if (a := (72, [some (.ref 19), some (.int x1), some (.ref 104), some (.int x3)], [], q1.2)) (b := (39, [some (.ref 19), some (.int x1), some (.ref 104), some (.int x3)], [], q1.2)) rfl rfl
     (d_step (t := (73, [some (.ref 19), some (.int x1), some (.ref 104), some (.int x3)], [(.int 1)], q1.2)) 1 rfl
     (d_ret (k := 0) rfl rfl))
     (d_step (t := (45, [some (.ref 19), some (.int x1), some (.ref 104), some (.int x3)], [(.int 200), (.int (x1 + x3))], q1.2)) 4 rfl
     (d_if (a := (72, [some (.ref 19), some (.int x1), some (.ref 104), some (.int x3)], [], q1.2)) (b := (48, [some (.ref 19), some (.int x1), some (.ref 104), some (.int x3)], [], q1.2)) rfl rfl
     (d_step (t := (73, [some (.ref 19), some (.int x1), some (.ref 104), some (.int x3)], [(.int 1)], q1.2)) 1 rfl
     (d_ret (k := 0) rfl rfl))
     (d_step (t := (55, [some (.ref 19), some (.int x1), some (.ref 104), some (.int x3)], [(.int (x1 + x3)), (.ref 20)], q1.2)) 5 rfl
     (d_chk (a := (56, [some (.ref 19), some (.int x1), some (.ref 104), some (.int x3)], [(.int ((q1.2).1 20 ((x1 + x3)).toNatClampNeg))], q1.2)) rfl rfl
     (d_step (t := (58, [some (.ref 19), some (.int x1), some (.ref 104), some (.int x3)], [(.int x3), (.ref 104), (.int ((q1.2).1 20 ((x1 + x3)).toNatClampNeg))], q1.2)) 2 rfl
     (d_callI (o := (m_charAt d 104 x3 q1.2)) rfl rfl (fun q2 =>
     d_if (a := (66, [some (.ref 19), some (.int x1), some (.ref 104), some (.int x3)], [], q2.2)) (b := (64, [some (.ref 19), some (.int x1), some (.ref 104), some (.int x3)], [], q2.2)) rfl rfl
     (d_step (t := (31, [some (.ref 19), some (.int x1), some (.ref 104), some (.int (x3 + 1))], [], q2.2)) 2 rfl
     (rfl))
     (d_step (t := (65, [some (.ref 19), some (.int x1), some (.ref 104), some (.int x3)], [(.int 0)], q2.2)) 1 rfl
     (d_ret (k := 0) rfl rfl))))))))))))
  · exact (d_step (t := (33, [some (.ref 19), some (.int x1), some (.ref 105), some (.int x3)], [(.ref 105), (.int x3)], s)) 2 rfl
     (d_callI (o := (m_slength d 105 s)) rfl rfl (fun q1 =>
     d_if (a := (72, [some (.ref 19), some (.int x1), some (.ref 105), some (.int x3)], [], q1.2)) (b := (39, [some (.ref 19), some (.int x1), some (.ref 105), some (.int x3)], [], q1.2)) rfl rfl
     (d_step (t := (73, [some (.ref 19), some (.int x1), some (.ref 105), some (.int x3)], [(.int 1)], q1.2)) 1 rfl
     (d_ret (k := 0) rfl rfl))
     (d_step (t := (45, [some (.ref 19), some (.int x1), some (.ref 105), some (.int x3)], [(.int 200), (.int (x1 + x3))], q1.2)) 4 rfl
     (d_if (a := (72, [some (.ref 19), some (.int x1), some (.ref 105), some (.int x3)], [], q1.2)) (b := (48, [some (.ref 19), some (.int x1), some (.ref 105), some (.int x3)], [], q1.2)) rfl rfl
     (d_step (t := (73, [some (.ref 19), some (.int x1), some (.ref 105), some (.int x3)], [(.int 1)], q1.2)) 1 rfl
     (d_ret (k := 0) rfl rfl))
     (d_step (t := (55, [some (.ref 19), some (.int x1), some (.ref 105), some (.int x3)], [(.int (x1 + x3)), (.ref 20)], q1.2)) 5 rfl
     (d_chk (a := (56, [some (.ref 19), some (.int x1), some (.ref 105), some (.int x3)], [(.int ((q1.2).1 20 ((x1 + x3)).toNatClampNeg))], q1.2)) rfl rfl
     (d_step (t := (58, [some (.ref 19), some (.int x1), some (.ref 105), some (.int x3)], [(.int x3), (.ref 105), (.int ((q1.2).1 20 ((x1 + x3)).toNatClampNeg))], q1.2)) 2 rfl
     (d_callI (o := (m_charAt d 105 x3 q1.2)) rfl rfl (fun q2 =>
     d_if (a := (66, [some (.ref 19), some (.int x1), some (.ref 105), some (.int x3)], [], q2.2)) (b := (64, [some (.ref 19), some (.int x1), some (.ref 105), some (.int x3)], [], q2.2)) rfl rfl
     (d_step (t := (31, [some (.ref 19), some (.int x1), some (.ref 105), some (.int (x3 + 1))], [], q2.2)) 2 rfl
     (rfl))
     (d_step (t := (65, [some (.ref 19), some (.int x1), some (.ref 105), some (.int x3)], [(.int 0)], q2.2)) 1 rfl
     (d_ret (k := 0) rfl rfl))))))))))))
  · exact (d_step (t := (33, [some (.ref 19), some (.int x1), some (.ref 106), some (.int x3)], [(.ref 106), (.int x3)], s)) 2 rfl
     (d_callI (o := (m_slength d 106 s)) rfl rfl (fun q1 =>
     d_if (a := (72, [some (.ref 19), some (.int x1), some (.ref 106), some (.int x3)], [], q1.2)) (b := (39, [some (.ref 19), some (.int x1), some (.ref 106), some (.int x3)], [], q1.2)) rfl rfl
     (d_step (t := (73, [some (.ref 19), some (.int x1), some (.ref 106), some (.int x3)], [(.int 1)], q1.2)) 1 rfl
     (d_ret (k := 0) rfl rfl))
     (d_step (t := (45, [some (.ref 19), some (.int x1), some (.ref 106), some (.int x3)], [(.int 200), (.int (x1 + x3))], q1.2)) 4 rfl
     (d_if (a := (72, [some (.ref 19), some (.int x1), some (.ref 106), some (.int x3)], [], q1.2)) (b := (48, [some (.ref 19), some (.int x1), some (.ref 106), some (.int x3)], [], q1.2)) rfl rfl
     (d_step (t := (73, [some (.ref 19), some (.int x1), some (.ref 106), some (.int x3)], [(.int 1)], q1.2)) 1 rfl
     (d_ret (k := 0) rfl rfl))
     (d_step (t := (55, [some (.ref 19), some (.int x1), some (.ref 106), some (.int x3)], [(.int (x1 + x3)), (.ref 20)], q1.2)) 5 rfl
     (d_chk (a := (56, [some (.ref 19), some (.int x1), some (.ref 106), some (.int x3)], [(.int ((q1.2).1 20 ((x1 + x3)).toNatClampNeg))], q1.2)) rfl rfl
     (d_step (t := (58, [some (.ref 19), some (.int x1), some (.ref 106), some (.int x3)], [(.int x3), (.ref 106), (.int ((q1.2).1 20 ((x1 + x3)).toNatClampNeg))], q1.2)) 2 rfl
     (d_callI (o := (m_charAt d 106 x3 q1.2)) rfl rfl (fun q2 =>
     d_if (a := (66, [some (.ref 19), some (.int x1), some (.ref 106), some (.int x3)], [], q2.2)) (b := (64, [some (.ref 19), some (.int x1), some (.ref 106), some (.int x3)], [], q2.2)) rfl rfl
     (d_step (t := (31, [some (.ref 19), some (.int x1), some (.ref 106), some (.int (x3 + 1))], [], q2.2)) 2 rfl
     (rfl))
     (d_step (t := (65, [some (.ref 19), some (.int x1), some (.ref 106), some (.int x3)], [(.int 0)], q2.2)) 1 rfl
     (d_ret (k := 0) rfl rfl))))))))))))
  · exact (d_step (t := (33, [some (.ref 19), some (.int x1), some (.ref 107), some (.int x3)], [(.ref 107), (.int x3)], s)) 2 rfl
     (d_callI (o := (m_slength d 107 s)) rfl rfl (fun q1 =>
     d_if (a := (72, [some (.ref 19), some (.int x1), some (.ref 107), some (.int x3)], [], q1.2)) (b := (39, [some (.ref 19), some (.int x1), some (.ref 107), some (.int x3)], [], q1.2)) rfl rfl
     (d_step (t := (73, [some (.ref 19), some (.int x1), some (.ref 107), some (.int x3)], [(.int 1)], q1.2)) 1 rfl
     (d_ret (k := 0) rfl rfl))
     (d_step (t := (45, [some (.ref 19), some (.int x1), some (.ref 107), some (.int x3)], [(.int 200), (.int (x1 + x3))], q1.2)) 4 rfl
     (d_if (a := (72, [some (.ref 19), some (.int x1), some (.ref 107), some (.int x3)], [], q1.2)) (b := (48, [some (.ref 19), some (.int x1), some (.ref 107), some (.int x3)], [], q1.2)) rfl rfl
     (d_step (t := (73, [some (.ref 19), some (.int x1), some (.ref 107), some (.int x3)], [(.int 1)], q1.2)) 1 rfl
     (d_ret (k := 0) rfl rfl))
     (d_step (t := (55, [some (.ref 19), some (.int x1), some (.ref 107), some (.int x3)], [(.int (x1 + x3)), (.ref 20)], q1.2)) 5 rfl
     (d_chk (a := (56, [some (.ref 19), some (.int x1), some (.ref 107), some (.int x3)], [(.int ((q1.2).1 20 ((x1 + x3)).toNatClampNeg))], q1.2)) rfl rfl
     (d_step (t := (58, [some (.ref 19), some (.int x1), some (.ref 107), some (.int x3)], [(.int x3), (.ref 107), (.int ((q1.2).1 20 ((x1 + x3)).toNatClampNeg))], q1.2)) 2 rfl
     (d_callI (o := (m_charAt d 107 x3 q1.2)) rfl rfl (fun q2 =>
     d_if (a := (66, [some (.ref 19), some (.int x1), some (.ref 107), some (.int x3)], [], q2.2)) (b := (64, [some (.ref 19), some (.int x1), some (.ref 107), some (.int x3)], [], q2.2)) rfl rfl
     (d_step (t := (31, [some (.ref 19), some (.int x1), some (.ref 107), some (.int (x3 + 1))], [], q2.2)) 2 rfl
     (rfl))
     (d_step (t := (65, [some (.ref 19), some (.int x1), some (.ref 107), some (.int x3)], [(.int 0)], q2.2)) 1 rfl
     (d_ret (k := 0) rfl rfl))))))))))))
  · exact (d_step (t := (33, [some (.ref 19), some (.int x1), some (.ref 108), some (.int x3)], [(.ref 108), (.int x3)], s)) 2 rfl
     (d_callI (o := (m_slength d 108 s)) rfl rfl (fun q1 =>
     d_if (a := (72, [some (.ref 19), some (.int x1), some (.ref 108), some (.int x3)], [], q1.2)) (b := (39, [some (.ref 19), some (.int x1), some (.ref 108), some (.int x3)], [], q1.2)) rfl rfl
     (d_step (t := (73, [some (.ref 19), some (.int x1), some (.ref 108), some (.int x3)], [(.int 1)], q1.2)) 1 rfl
     (d_ret (k := 0) rfl rfl))
     (d_step (t := (45, [some (.ref 19), some (.int x1), some (.ref 108), some (.int x3)], [(.int 200), (.int (x1 + x3))], q1.2)) 4 rfl
     (d_if (a := (72, [some (.ref 19), some (.int x1), some (.ref 108), some (.int x3)], [], q1.2)) (b := (48, [some (.ref 19), some (.int x1), some (.ref 108), some (.int x3)], [], q1.2)) rfl rfl
     (d_step (t := (73, [some (.ref 19), some (.int x1), some (.ref 108), some (.int x3)], [(.int 1)], q1.2)) 1 rfl
     (d_ret (k := 0) rfl rfl))
     (d_step (t := (55, [some (.ref 19), some (.int x1), some (.ref 108), some (.int x3)], [(.int (x1 + x3)), (.ref 20)], q1.2)) 5 rfl
     (d_chk (a := (56, [some (.ref 19), some (.int x1), some (.ref 108), some (.int x3)], [(.int ((q1.2).1 20 ((x1 + x3)).toNatClampNeg))], q1.2)) rfl rfl
     (d_step (t := (58, [some (.ref 19), some (.int x1), some (.ref 108), some (.int x3)], [(.int x3), (.ref 108), (.int ((q1.2).1 20 ((x1 + x3)).toNatClampNeg))], q1.2)) 2 rfl
     (d_callI (o := (m_charAt d 108 x3 q1.2)) rfl rfl (fun q2 =>
     d_if (a := (66, [some (.ref 19), some (.int x1), some (.ref 108), some (.int x3)], [], q2.2)) (b := (64, [some (.ref 19), some (.int x1), some (.ref 108), some (.int x3)], [], q2.2)) rfl rfl
     (d_step (t := (31, [some (.ref 19), some (.int x1), some (.ref 108), some (.int (x3 + 1))], [], q2.2)) 2 rfl
     (rfl))
     (d_step (t := (65, [some (.ref 19), some (.int x1), some (.ref 108), some (.int x3)], [(.int 0)], q2.2)) 1 rfl
     (d_ret (k := 0) rfl rfl))))))))))))
  · exact (d_step (t := (33, [some (.ref 19), some (.int x1), some (.ref 109), some (.int x3)], [(.ref 109), (.int x3)], s)) 2 rfl
     (d_callI (o := (m_slength d 109 s)) rfl rfl (fun q1 =>
     d_if (a := (72, [some (.ref 19), some (.int x1), some (.ref 109), some (.int x3)], [], q1.2)) (b := (39, [some (.ref 19), some (.int x1), some (.ref 109), some (.int x3)], [], q1.2)) rfl rfl
     (d_step (t := (73, [some (.ref 19), some (.int x1), some (.ref 109), some (.int x3)], [(.int 1)], q1.2)) 1 rfl
     (d_ret (k := 0) rfl rfl))
     (d_step (t := (45, [some (.ref 19), some (.int x1), some (.ref 109), some (.int x3)], [(.int 200), (.int (x1 + x3))], q1.2)) 4 rfl
     (d_if (a := (72, [some (.ref 19), some (.int x1), some (.ref 109), some (.int x3)], [], q1.2)) (b := (48, [some (.ref 19), some (.int x1), some (.ref 109), some (.int x3)], [], q1.2)) rfl rfl
     (d_step (t := (73, [some (.ref 19), some (.int x1), some (.ref 109), some (.int x3)], [(.int 1)], q1.2)) 1 rfl
     (d_ret (k := 0) rfl rfl))
     (d_step (t := (55, [some (.ref 19), some (.int x1), some (.ref 109), some (.int x3)], [(.int (x1 + x3)), (.ref 20)], q1.2)) 5 rfl
     (d_chk (a := (56, [some (.ref 19), some (.int x1), some (.ref 109), some (.int x3)], [(.int ((q1.2).1 20 ((x1 + x3)).toNatClampNeg))], q1.2)) rfl rfl
     (d_step (t := (58, [some (.ref 19), some (.int x1), some (.ref 109), some (.int x3)], [(.int x3), (.ref 109), (.int ((q1.2).1 20 ((x1 + x3)).toNatClampNeg))], q1.2)) 2 rfl
     (d_callI (o := (m_charAt d 109 x3 q1.2)) rfl rfl (fun q2 =>
     d_if (a := (66, [some (.ref 19), some (.int x1), some (.ref 109), some (.int x3)], [], q2.2)) (b := (64, [some (.ref 19), some (.int x1), some (.ref 109), some (.int x3)], [], q2.2)) rfl rfl
     (d_step (t := (31, [some (.ref 19), some (.int x1), some (.ref 109), some (.int (x3 + 1))], [], q2.2)) 2 rfl
     (rfl))
     (d_step (t := (65, [some (.ref 19), some (.int x1), some (.ref 109), some (.int x3)], [(.int 0)], q2.2)) 1 rfl
     (d_ret (k := 0) rfl rfl))))))))))))
noncomputable def m_X_readWord (d : Nat)  (s : qMem) : Option (Int32 × qMem) := qI (qCall qMT d 40 [.ref 19] s)
noncomputable def l_X_readWord_1 (d : Nat)  (x1 : Int32) (s : qMem) : Option (Int32 × qMem) := qI (qK qMT d 40 (5, [some (.ref 19), some (.int x1), none], [], s))
noncomputable def l_X_readWord_2 (d : Nat)  (x1 : Int32) (x2 : Int32) (s : qMem) : Option (Int32 × qMem) := qI (qK qMT d 40 (49, [some (.ref 19), some (.int x1), some (.int x2)], [], s))
set_option maxRecDepth 20000 in
theorem e_X_readWord (d : Nat)  (s : qMem) : m_X_readWord (d + 1) s = (l_X_readWord_1 d ((s).1 19 3) s) := d_step (t := (5, [some (.ref 19), some (.int ((s).1 19 3)), none], [], s)) 3 rfl
   (d_lab (x2 := (5, [some (.ref 19), some (.int ((s).1 19 3)), none], [], s)) rfl rfl rfl)
set_option maxRecDepth 20000 in
theorem el_X_readWord_1 (d : Nat)  (x1 : Int32) (s : qMem) : l_X_readWord_1 d x1 s = (if ((s).1 19 1) ≤ ((s).1 19 3) then (l_X_readWord_2 d x1 0 s) else ((m_X_sign d s).bind (fun q1 => (if q1.1 < 97 then (l_X_readWord_2 d x1 0 q1.2) else ((m_X_sign d q1.2).bind (fun q2 => (if 122 < q2.1 then (l_X_readWord_2 d x1 0 q2.2) else (l_X_readWord_1 d x1 (qW q2.2 19 3 (((q2.2).1 19 3) + 1)))))))))) := d_step (t := (13, [some (.ref 19), some (.int x1), none], [(.int ((s).1 19 1)), (.int ((s).1 19 3))], s)) 4 rfl
   (d_if (a := (47, [some (.ref 19), some (.int x1), none], [], s)) (b := (16, [some (.ref 19), some (.int x1), none], [], s)) rfl rfl
   (d_step (t := (49, [some (.ref 19), some (.int x1), some (.int 0)], [], s)) 2 rfl
   (rfl))
   (d_step (t := (17, [some (.ref 19), some (.int x1), none], [(.ref 19)], s)) 1 rfl
   (d_callI (o := (m_X_sign d s)) rfl rfl (fun q1 =>
   d_step (t := (22, [some (.ref 19), some (.int x1), none], [(.int 97), (.int q1.1)], q1.2)) 1 rfl
   (d_if (a := (47, [some (.ref 19), some (.int x1), none], [], q1.2)) (b := (25, [some (.ref 19), some (.int x1), none], [], q1.2)) rfl rfl
   (d_step (t := (49, [some (.ref 19), some (.int x1), some (.int 0)], [], q1.2)) 2 rfl
   (rfl))
   (d_step (t := (26, [some (.ref 19), some (.int x1), none], [(.ref 19)], q1.2)) 1 rfl
   (d_callI (o := (m_X_sign d q1.2)) rfl rfl (fun q2 =>
   d_step (t := (31, [some (.ref 19), some (.int x1), none], [(.int 122), (.int q2.1)], q2.2)) 1 rfl
   (d_if (a := (47, [some (.ref 19), some (.int x1), none], [], q2.2)) (b := (34, [some (.ref 19), some (.int x1), none], [], q2.2)) rfl rfl
   (d_step (t := (49, [some (.ref 19), some (.int x1), some (.int 0)], [], q2.2)) 2 rfl
   (rfl))
   (d_step (t := (5, [some (.ref 19), some (.int x1), none], [], (qW q2.2 19 3 (((q2.2).1 19 3) + 1)))) 7 rfl
   (d_lab (x2 := (5, [some (.ref 19), some (.int x1), none], [], (qW q2.2 19 3 (((q2.2).1 19 3) + 1)))) rfl rfl rfl)))))))))))
set_option maxRecDepth 20000 in
theorem el_X_readWord_2 (d : Nat)  (x1 : Int32) (x2 : Int32) (s : qMem) : l_X_readWord_2 d x1 x2 s = (if 10 ≤ x2 then some ((-1), s) else ((m_X_spelling d x2 s).bind (fun q1 => ((m_X_spells d x1 q1.1 q1.2).bind (fun q2 => (if q2.1 = 0 then (l_X_readWord_2 d x1 (x2 + 1) q2.2) else some (x2, q2.2))))))) := d_step (t := (52, [some (.ref 19), some (.int x1), some (.int x2)], [(.int 10), (.int x2)], s)) 2 rfl
   (d_if (a := (75, [some (.ref 19), some (.int x1), some (.int x2)], [], s)) (b := (55, [some (.ref 19), some (.int x1), some (.int x2)], [], s)) rfl rfl
   (d_step (t := (76, [some (.ref 19), some (.int x1), some (.int x2)], [(.int (-1))], s)) 1 rfl
   (d_ret (k := 0) rfl rfl))
   (d_step (t := (58, [some (.ref 19), some (.int x1), some (.int x2)], [(.int x2), (.int x1), (.ref 19)], s)) 3 rfl
   (d_callR (o := (m_X_spelling d x2 s)) rfl rfl (fun q1 =>
   d_callI (o := (m_X_spells d x1 q1.1 q1.2)) rfl rfl (fun q2 =>
   d_if (a := (69, [some (.ref 19), some (.int x1), some (.int x2)], [], q2.2)) (b := (67, [some (.ref 19), some (.int x1), some (.int x2)], [], q2.2)) rfl rfl
   (d_step (t := (49, [some (.ref 19), some (.int x1), some (.int (x2 + 1))], [], q2.2)) 2 rfl
   (rfl))
   (d_step (t := (68, [some (.ref 19), some (.int x1), some (.int x2)], [(.int x2)], q2.2)) 1 rfl
   (d_ret (k := 0) rfl rfl)))))))
noncomputable def m_X_readNumber (d : Nat)  (s : qMem) : Option (Int32 × qMem) := qI (qCall qMT d 41 [.ref 19] s)
noncomputable def l_X_readNumber_1 (d : Nat)  (x1 : Int32) (x2 : Int32) (s : qMem) : Option (Int32 × qMem) := qI (qK qMT d 41 (7, [some (.ref 19), some (.int x1), some (.int x2), none], [], s))
set_option maxRecDepth 20000 in
theorem e_X_readNumber (d : Nat)  (s : qMem) : m_X_readNumber (d + 1) s = (l_X_readNumber_1 d ((s).1 19 3) 0 s) := d_step (t := (7, [some (.ref 19), some (.int ((s).1 19 3)), some (.int 0), none], [], s)) 5 rfl
   (d_lab (x2 := (7, [some (.ref 19), some (.int ((s).1 19 3)), some (.int 0), none], [], s)) rfl rfl rfl)
set_option maxRecDepth 20000 in
theorem el_X_readNumber_1 (d : Nat)  (x1 : Int32) (x2 : Int32) (s : qMem) : l_X_readNumber_1 d x1 x2 s = (if ((s).1 19 1) ≤ ((s).1 19 3) then (if (((s).1 19 3) - x1) = 1 then some (x2, s) else some ((if (((s).1 19 3) - x1) = 2 then x2 else (-1) : Int32), s)) else ((m_X_sign d s).bind (fun q1 => (if q1.1 < 48 then (if (((q1.2).1 19 3) - x1) = 1 then some (x2, q1.2) else some ((if (((q1.2).1 19 3) - x1) = 2 then x2 else (-1) : Int32), q1.2)) else ((m_X_sign d q1.2).bind (fun q2 => (if 57 < q2.1 then (if (((q2.2).1 19 3) - x1) = 1 then some (x2, q2.2) else some ((if (((q2.2).1 19 3) - x1) = 2 then x2 else (-1) : Int32), q2.2)) else ((m_X_sign d q2.2).bind (fun q3 => (l_X_readNumber_1 d x1 ((((x2 - x2 / 10 * 10) * 10) + q3.1) - 48) (qW q3.2 19 3 (((q3.2).1 19 3) + 1)))))))))))) := d_step (t := (15, [some (.ref 19), some (.int x1), some (.int x2), none], [(.int ((s).1 19 1)), (.int ((s).1 19 3))], s)) 4 rfl
   (d_if (a := (65, [some (.ref 19), some (.int x1), some (.int x2), none], [], s)) (b := (18, [some (.ref 19), some (.int x1), some (.int x2), none], [], s)) rfl rfl
   (d_step (t := (74, [some (.ref 19), some (.int x1), some (.int x2), some (.int (((s).1 19 3) - x1))], [(.int 1), (.int (((s).1 19 3) - x1))], s)) 7 rfl
   (d_if (a := (82, [some (.ref 19), some (.int x1), some (.int x2), some (.int (((s).1 19 3) - x1))], [], s)) (b := (77, [some (.ref 19), some (.int x1), some (.int x2), some (.int (((s).1 19 3) - x1))], [], s)) rfl rfl
   (d_step (t := (87, [some (.ref 19), some (.int x1), some (.int x2), some (.int (((s).1 19 3) - x1))], [(.int x2)], s)) 2 rfl
   (d_ret (k := 0) rfl rfl))
   (d_step (t := (79, [some (.ref 19), some (.int x1), some (.int x2), some (.int (((s).1 19 3) - x1))], [(.int 2), (.int (((s).1 19 3) - x1))], s)) 2 rfl
   (d_mrg (a := (82, [some (.ref 19), some (.int x1), some (.int x2), some (.int (((s).1 19 3) - x1))], [], s)) (b := (86, [some (.ref 19), some (.int x1), some (.int x2), some (.int (((s).1 19 3) - x1))], [], s)) (v1 := x2) (v2 := (-1)) (z := fun v9 => (87, [some (.ref 19), some (.int x1), some (.int x2), some (.int (((s).1 19 3) - x1))], [(.int v9)], s)) 2 1 rfl rfl rfl rfl
   (d_ret (k := 0) rfl rfl)))))
   (d_step (t := (19, [some (.ref 19), some (.int x1), some (.int x2), none], [(.ref 19)], s)) 1 rfl
   (d_callI (o := (m_X_sign d s)) rfl rfl (fun q1 =>
   d_step (t := (24, [some (.ref 19), some (.int x1), some (.int x2), none], [(.int 48), (.int q1.1)], q1.2)) 1 rfl
   (d_if (a := (65, [some (.ref 19), some (.int x1), some (.int x2), none], [], q1.2)) (b := (27, [some (.ref 19), some (.int x1), some (.int x2), none], [], q1.2)) rfl rfl
   (d_step (t := (74, [some (.ref 19), some (.int x1), some (.int x2), some (.int (((q1.2).1 19 3) - x1))], [(.int 1), (.int (((q1.2).1 19 3) - x1))], q1.2)) 7 rfl
   (d_if (a := (82, [some (.ref 19), some (.int x1), some (.int x2), some (.int (((q1.2).1 19 3) - x1))], [], q1.2)) (b := (77, [some (.ref 19), some (.int x1), some (.int x2), some (.int (((q1.2).1 19 3) - x1))], [], q1.2)) rfl rfl
   (d_step (t := (87, [some (.ref 19), some (.int x1), some (.int x2), some (.int (((q1.2).1 19 3) - x1))], [(.int x2)], q1.2)) 2 rfl
   (d_ret (k := 0) rfl rfl))
   (d_step (t := (79, [some (.ref 19), some (.int x1), some (.int x2), some (.int (((q1.2).1 19 3) - x1))], [(.int 2), (.int (((q1.2).1 19 3) - x1))], q1.2)) 2 rfl
   (d_mrg (a := (82, [some (.ref 19), some (.int x1), some (.int x2), some (.int (((q1.2).1 19 3) - x1))], [], q1.2)) (b := (86, [some (.ref 19), some (.int x1), some (.int x2), some (.int (((q1.2).1 19 3) - x1))], [], q1.2)) (v1 := x2) (v2 := (-1)) (z := fun v9 => (87, [some (.ref 19), some (.int x1), some (.int x2), some (.int (((q1.2).1 19 3) - x1))], [(.int v9)], q1.2)) 2 1 rfl rfl rfl rfl
   (d_ret (k := 0) rfl rfl)))))
   (d_step (t := (28, [some (.ref 19), some (.int x1), some (.int x2), none], [(.ref 19)], q1.2)) 1 rfl
   (d_callI (o := (m_X_sign d q1.2)) rfl rfl (fun q2 =>
   d_step (t := (33, [some (.ref 19), some (.int x1), some (.int x2), none], [(.int 57), (.int q2.1)], q2.2)) 1 rfl
   (d_if (a := (65, [some (.ref 19), some (.int x1), some (.int x2), none], [], q2.2)) (b := (36, [some (.ref 19), some (.int x1), some (.int x2), none], [], q2.2)) rfl rfl
   (d_step (t := (74, [some (.ref 19), some (.int x1), some (.int x2), some (.int (((q2.2).1 19 3) - x1))], [(.int 1), (.int (((q2.2).1 19 3) - x1))], q2.2)) 7 rfl
   (d_if (a := (82, [some (.ref 19), some (.int x1), some (.int x2), some (.int (((q2.2).1 19 3) - x1))], [], q2.2)) (b := (77, [some (.ref 19), some (.int x1), some (.int x2), some (.int (((q2.2).1 19 3) - x1))], [], q2.2)) rfl rfl
   (d_step (t := (87, [some (.ref 19), some (.int x1), some (.int x2), some (.int (((q2.2).1 19 3) - x1))], [(.int x2)], q2.2)) 2 rfl
   (d_ret (k := 0) rfl rfl))
   (d_step (t := (79, [some (.ref 19), some (.int x1), some (.int x2), some (.int (((q2.2).1 19 3) - x1))], [(.int 2), (.int (((q2.2).1 19 3) - x1))], q2.2)) 2 rfl
   (d_mrg (a := (82, [some (.ref 19), some (.int x1), some (.int x2), some (.int (((q2.2).1 19 3) - x1))], [], q2.2)) (b := (86, [some (.ref 19), some (.int x1), some (.int x2), some (.int (((q2.2).1 19 3) - x1))], [], q2.2)) (v1 := x2) (v2 := (-1)) (z := fun v9 => (87, [some (.ref 19), some (.int x1), some (.int x2), some (.int (((q2.2).1 19 3) - x1))], [(.int v9)], q2.2)) 2 1 rfl rfl rfl rfl
   (d_ret (k := 0) rfl rfl)))))
   (d_step (t := (44, [some (.ref 19), some (.int x1), some (.int x2), none], [(.ref 19), (.int ((x2 - x2 / 10 * 10) * 10))], q2.2)) 6 rfl
   (d_callI (o := (m_X_sign d q2.2)) rfl rfl (fun q3 =>
   d_step (t := (7, [some (.ref 19), some (.int x1), some (.int ((((x2 - x2 / 10 * 10) * 10) + q3.1) - 48)), none], [], (qW q3.2 19 3 (((q3.2).1 19 3) + 1)))) 11 rfl
   (d_lab (x2 := (7, [some (.ref 19), some (.int x1), some (.int ((((x2 - x2 / 10 * 10) * 10) + q3.1) - 48)), none], [], (qW q3.2 19 3 (((q3.2).1 19 3) + 1)))) rfl rfl rfl)))))))))))))
noncomputable def m_X_readLine (d : Nat)  (s : qMem) : Option (Int32 × qMem) := qI (qCall qMT d 37 [.ref 19, .ref 10] s)
noncomputable def l_X_readLine_1 (d : Nat)  (x3 : Int32) (x4 : Int32) (x5 : Int32) (s : qMem) : Option (Int32 × qMem) := qI (qK qMT d 37 (33, [some (.ref 19), some (.ref 10), none, some (.int x3), some (.int x4), some (.int x5), none], [], s))
set_option maxRecDepth 20000 in
theorem e_X_readLine (d : Nat)  (s : qMem) : m_X_readLine (d + 1) s = ((m_X_skipBlanks d s).bind (fun q1 => ((m_X_readWord d q1).bind (fun q2 => ((m_T_allows d q2.1 q2.2).bind (fun q3 => (if q3.1 = 0 then some (((q1).1 19 3), q3.2) else ((m_T_numbersBehind d q2.1 q3.2).bind (fun q4 => (l_X_readLine_1 d q2.1 q4.1 0 q4.2)))))))))) := d_step (t := (1, [some (.ref 19), some (.ref 10), none, none, none, none, none], [(.ref 19)], s)) 1 rfl
   (d_callV (o := (m_X_skipBlanks d s)) rfl rfl (fun q1 =>
   d_step (t := (10, [some (.ref 19), some (.ref 10), some (.int ((q1).1 19 3)), none, none, none, none], [(.ref 19)], q1)) 4 rfl
   (d_callI (o := (m_X_readWord d q1)) rfl rfl (fun q2 =>
   d_step (t := (16, [some (.ref 19), some (.ref 10), some (.int ((q1).1 19 3)), some (.int q2.1), none, none, none], [(.int q2.1), (.ref 10)], q2.2)) 3 rfl
   (d_callI (o := (m_T_allows d q2.1 q2.2)) rfl rfl (fun q3 =>
   d_if (a := (22, [some (.ref 19), some (.ref 10), some (.int ((q1).1 19 3)), some (.int q2.1), none, none, none], [], q3.2)) (b := (24, [some (.ref 19), some (.ref 10), some (.int ((q1).1 19 3)), some (.int q2.1), none, none, none], [], q3.2)) rfl rfl
   (d_step (t := (23, [some (.ref 19), some (.ref 10), some (.int ((q1).1 19 3)), some (.int q2.1), none, none, none], [(.int ((q1).1 19 3))], q3.2)) 1 rfl
   (d_ret (k := 0) rfl rfl))
   (d_step (t := (25, [some (.ref 19), some (.ref 10), some (.int ((q1).1 19 3)), some (.int q2.1), none, none, none], [(.int q2.1)], q3.2)) 1 rfl
   (d_callI (o := (m_T_numbersBehind d q2.1 q3.2)) rfl rfl (fun q4 =>
   d_step (t := (33, [some (.ref 19), some (.ref 10), some (.int ((q1).1 19 3)), some (.int q2.1), some (.int q4.1), some (.int 0), none], [], q4.2)) 3 rfl
   (d_lab (x2 := (33, [some (.ref 19), some (.ref 10), none, some (.int q2.1), some (.int q4.1), some (.int 0), none], [], q4.2)) rfl rfl rfl))))))))))
set_option maxRecDepth 20000 in
theorem el_X_readLine_1 (d : Nat)  (x3 : Int32) (x4 : Int32) (x5 : Int32) (s : qMem) : l_X_readLine_1 d x3 x4 x5 s = (if x4 ≤ x5 then ((m_T_tell d x3 ((s).1 21 0) ((s).1 21 1) ((s).1 21 2) s).bind (fun q1 => some ((-1), q1))) else (if 3 ≤ x5 then ((m_T_tell d x3 ((s).1 21 0) ((s).1 21 1) ((s).1 21 2) s).bind (fun q2 => some ((-1), q2))) else ((m_X_skipBlanks d s).bind (fun q3 => ((m_X_readNumber d q3).bind (fun q4 => ((m_T_least d x3 x5 q4.2).bind (fun q5 => (if q4.1 < q5.1 then some (((q3).1 19 3), q5.2) else ((m_T_greatest d x3 x5 q5.2).bind (fun q6 => (if q4.1 ≤ q6.1 then (if qIn x5 3 then (l_X_readLine_1 d x3 x4 (x5 + 1) (qW q6.2 21 (x5).toNatClampNeg q4.1)) else none) else some (((q3).1 19 3), q6.2))))))))))))) := d_step (t := (37, [some (.ref 19), some (.ref 10), none, some (.int x3), some (.int x4), some (.int x5), none], [(.int x4), (.int x5)], s)) 2 rfl
   (d_if (a := (101, [some (.ref 19), some (.ref 10), none, some (.int x3), some (.int x4), some (.int x5), none], [], s)) (b := (40, [some (.ref 19), some (.ref 10), none, some (.int x3), some (.int x4), some (.int x5), none], [], s)) rfl rfl
   (d_step (t := (121, [some (.ref 19), some (.ref 10), none, some (.int x3), some (.int x4), some (.int x5), none], [(.int ((s).1 21 2)), (.int ((s).1 21 1)), (.int ((s).1 21 0)), (.int x3), (.ref 10)], s)) 14 rfl
   (d_callV (o := (m_T_tell d x3 ((s).1 21 0) ((s).1 21 1) ((s).1 21 2) s)) rfl rfl (fun q1 =>
   d_step (t := (125, [some (.ref 19), some (.ref 10), none, some (.int x3), some (.int x4), some (.int x5), none], [(.int (-1))], q1)) 1 rfl
   (d_ret (k := 0) rfl rfl))))
   (d_step (t := (43, [some (.ref 19), some (.ref 10), none, some (.int x3), some (.int x4), some (.int x5), none], [(.int 3), (.int x5)], s)) 2 rfl
   (d_if (a := (101, [some (.ref 19), some (.ref 10), none, some (.int x3), some (.int x4), some (.int x5), none], [], s)) (b := (46, [some (.ref 19), some (.ref 10), none, some (.int x3), some (.int x4), some (.int x5), none], [], s)) rfl rfl
   (d_step (t := (121, [some (.ref 19), some (.ref 10), none, some (.int x3), some (.int x4), some (.int x5), none], [(.int ((s).1 21 2)), (.int ((s).1 21 1)), (.int ((s).1 21 0)), (.int x3), (.ref 10)], s)) 14 rfl
   (d_callV (o := (m_T_tell d x3 ((s).1 21 0) ((s).1 21 1) ((s).1 21 2) s)) rfl rfl (fun q2 =>
   d_step (t := (125, [some (.ref 19), some (.ref 10), none, some (.int x3), some (.int x4), some (.int x5), none], [(.int (-1))], q2)) 1 rfl
   (d_ret (k := 0) rfl rfl))))
   (d_step (t := (47, [some (.ref 19), some (.ref 10), none, some (.int x3), some (.int x4), some (.int x5), none], [(.ref 19)], s)) 1 rfl
   (d_callV (o := (m_X_skipBlanks d s)) rfl rfl (fun q3 =>
   d_step (t := (56, [some (.ref 19), some (.ref 10), some (.int ((q3).1 19 3)), some (.int x3), some (.int x4), some (.int x5), none], [(.ref 19)], q3)) 4 rfl
   (d_callI (o := (m_X_readNumber d q3)) rfl rfl (fun q4 =>
   d_step (t := (66, [some (.ref 19), some (.ref 10), some (.int ((q3).1 19 3)), some (.int x3), some (.int x4), some (.int x5), some (.int q4.1)], [(.int x5), (.int x3), (.int q4.1)], q4.2)) 4 rfl
   (d_callI (o := (m_T_least d x3 x5 q4.2)) rfl rfl (fun q5 =>
   d_if (a := (84, [some (.ref 19), some (.ref 10), some (.int ((q3).1 19 3)), some (.int x3), some (.int x4), some (.int x5), some (.int q4.1)], [], q5.2)) (b := (72, [some (.ref 19), some (.ref 10), some (.int ((q3).1 19 3)), some (.int x3), some (.int x4), some (.int x5), some (.int q4.1)], [], q5.2)) rfl rfl
   (d_step (t := (85, [some (.ref 19), some (.ref 10), some (.int ((q3).1 19 3)), some (.int x3), some (.int x4), some (.int x5), some (.int q4.1)], [(.int ((q3).1 19 3))], q5.2)) 1 rfl
   (d_ret (k := 0) rfl rfl))
   (d_step (t := (78, [some (.ref 19), some (.ref 10), some (.int ((q3).1 19 3)), some (.int x3), some (.int x4), some (.int x5), some (.int q4.1)], [(.int x5), (.int x3), (.ref 10), (.int q4.1)], q5.2)) 4 rfl
   (d_callI (o := (m_T_greatest d x3 x5 q5.2)) rfl rfl (fun q6 =>
   d_if (a := (86, [some (.ref 19), some (.ref 10), some (.int ((q3).1 19 3)), some (.int x3), some (.int x4), some (.int x5), some (.int q4.1)], [], q6.2)) (b := (84, [some (.ref 19), some (.ref 10), some (.int ((q3).1 19 3)), some (.int x3), some (.int x4), some (.int x5), some (.int q4.1)], [], q6.2)) rfl rfl
   (d_step (t := (94, [some (.ref 19), some (.ref 10), some (.int ((q3).1 19 3)), some (.int x3), some (.int x4), some (.int x5), some (.int q4.1)], [(.int q4.1), (.int x5), (.ref 21)], q6.2)) 4 rfl
   (d_chk (a := (95, [some (.ref 19), some (.ref 10), some (.int ((q3).1 19 3)), some (.int x3), some (.int x4), some (.int x5), some (.int q4.1)], [], (qW q6.2 21 (x5).toNatClampNeg q4.1))) rfl rfl
   (d_step (t := (33, [some (.ref 19), some (.ref 10), some (.int ((q3).1 19 3)), some (.int x3), some (.int x4), some (.int (x5 + 1)), some (.int q4.1)], [], (qW q6.2 21 (x5).toNatClampNeg q4.1))) 2 rfl
   (d_lab (x2 := (33, [some (.ref 19), some (.ref 10), none, some (.int x3), some (.int x4), some (.int (x5 + 1)), none], [], (qW q6.2 21 (x5).toNatClampNeg q4.1))) rfl rfl rfl))))
   (d_step (t := (85, [some (.ref 19), some (.ref 10), some (.int ((q3).1 19 3)), some (.int x3), some (.int x4), some (.int x5), some (.int q4.1)], [(.int ((q3).1 19 3))], q6.2)) 1 rfl
   (d_ret (k := 0) rfl rfl)))))))))))))))
noncomputable def m_X_read (d : Nat)  (s : qMem) : Option (Int32 × qMem) := qI (qCall qMT d 36 [.ref 19, .ref 10] s)
noncomputable def l_X_read_1 (d : Nat)  (x2 : Int32) (s : qMem) : Option (Int32 × qMem) := qI (qK qMT d 36 (12, [some (.ref 19), some (.ref 10), some (.int x2), none], [], s))
set_option maxRecDepth 20000 in
theorem e_X_read (d : Nat)  (s : qMem) : m_X_read (d + 1) s = (l_X_read_1 d 1 (qW (qW s 19 3 0) 19 2 0)) := d_step (t := (12, [some (.ref 19), some (.ref 10), some (.int 1), none], [], (qW (qW s 19 3 0) 19 2 0))) 8 rfl
   (d_lab (x2 := (12, [some (.ref 19), some (.ref 10), some (.int 1), none], [], (qW (qW s 19 3 0) 19 2 0))) rfl rfl rfl)
set_option maxRecDepth 20000 in
theorem el_X_read_1 (d : Nat)  (x2 : Int32) (s : qMem) : l_X_read_1 d x2 s = (if 12 < x2 then some (((s).1 19 3), s) else ((m_X_readLine d s).bind (fun q1 => (if q1.1 = (-1) then ((m_X_skipBlanks d (qW q1.2 19 2 x2)).bind (fun q2 => (if ((q2).1 19 3) < ((q2).1 19 1) then ((m_X_sign d q2).bind (fun q3 => (if q3.1 = 59 then (if 12 ≤ x2 then (l_X_read_1 d (x2 + 1) q3.2) else (l_X_read_1 d (x2 + 1) (qW q3.2 19 3 (((q3.2).1 19 3) + 1)))) else some (((q3.2).1 19 3), q3.2)))) else some ((-1), q2)))) else some (q1.1, q1.2))))) := d_step (t := (15, [some (.ref 19), some (.ref 10), some (.int x2), none], [(.int 12), (.int x2)], s)) 2 rfl
   (d_if (a := (89, [some (.ref 19), some (.ref 10), some (.int x2), none], [], s)) (b := (18, [some (.ref 19), some (.ref 10), some (.int x2), none], [], s)) rfl rfl
   (d_step (t := (93, [some (.ref 19), some (.ref 10), some (.int x2), none], [(.int ((s).1 19 3))], s)) 2 rfl
   (d_ret (k := 0) rfl rfl))
   (d_step (t := (20, [some (.ref 19), some (.ref 10), some (.int x2), none], [(.ref 10), (.ref 19)], s)) 2 rfl
   (d_callI (o := (m_X_readLine d s)) rfl rfl (fun q1 =>
   d_step (t := (26, [some (.ref 19), some (.ref 10), some (.int x2), some (.int q1.1)], [(.int (-1)), (.int q1.1)], q1.2)) 3 rfl
   (d_if (a := (31, [some (.ref 19), some (.ref 10), some (.int x2), some (.int q1.1)], [], q1.2)) (b := (29, [some (.ref 19), some (.ref 10), some (.int x2), some (.int q1.1)], [], q1.2)) rfl rfl
   (d_step (t := (37, [some (.ref 19), some (.ref 10), some (.int x2), some (.int q1.1)], [(.ref 19)], (qW q1.2 19 2 x2))) 4 rfl
   (d_callV (o := (m_X_skipBlanks d (qW q1.2 19 2 x2))) rfl rfl (fun q2 =>
   d_step (t := (48, [some (.ref 19), some (.ref 10), some (.int x2), some (.int q1.1)], [(.int ((q2).1 19 1)), (.int ((q2).1 19 3))], q2)) 4 rfl
   (d_if (a := (53, [some (.ref 19), some (.ref 10), some (.int x2), some (.int q1.1)], [], q2)) (b := (51, [some (.ref 19), some (.ref 10), some (.int x2), some (.int q1.1)], [], q2)) rfl rfl
   (d_step (t := (54, [some (.ref 19), some (.ref 10), some (.int x2), some (.int q1.1)], [(.ref 19)], q2)) 1 rfl
   (d_callI (o := (m_X_sign d q2)) rfl rfl (fun q3 =>
   d_step (t := (59, [some (.ref 19), some (.ref 10), some (.int x2), some (.int q1.1)], [(.int 59), (.int q3.1)], q3.2)) 1 rfl
   (d_if (a := (67, [some (.ref 19), some (.ref 10), some (.int x2), some (.int q1.1)], [], q3.2)) (b := (62, [some (.ref 19), some (.ref 10), some (.int x2), some (.int q1.1)], [], q3.2)) rfl rfl
   (d_step (t := (70, [some (.ref 19), some (.ref 10), some (.int x2), some (.int q1.1)], [(.int 12), (.int x2)], q3.2)) 2 rfl
   (d_if (a := (83, [some (.ref 19), some (.ref 10), some (.int x2), some (.int q1.1)], [], q3.2)) (b := (73, [some (.ref 19), some (.ref 10), some (.int x2), some (.int q1.1)], [], q3.2)) rfl rfl
   (d_step (t := (12, [some (.ref 19), some (.ref 10), some (.int (x2 + 1)), some (.int q1.1)], [], q3.2)) 2 rfl
   (d_lab (x2 := (12, [some (.ref 19), some (.ref 10), some (.int (x2 + 1)), none], [], q3.2)) rfl rfl rfl))
   (d_step (t := (12, [some (.ref 19), some (.ref 10), some (.int (x2 + 1)), some (.int q1.1)], [], (qW q3.2 19 3 (((q3.2).1 19 3) + 1)))) 8 rfl
   (d_lab (x2 := (12, [some (.ref 19), some (.ref 10), some (.int (x2 + 1)), none], [], (qW q3.2 19 3 (((q3.2).1 19 3) + 1)))) rfl rfl rfl))))
   (d_step (t := (66, [some (.ref 19), some (.ref 10), some (.int x2), some (.int q1.1)], [(.int ((q3.2).1 19 3))], q3.2)) 2 rfl
   (d_ret (k := 0) rfl rfl))))))
   (d_step (t := (52, [some (.ref 19), some (.ref 10), some (.int x2), some (.int q1.1)], [(.int (-1))], q2)) 1 rfl
   (d_ret (k := 0) rfl rfl))))))
   (d_step (t := (30, [some (.ref 19), some (.ref 10), some (.int x2), some (.int q1.1)], [(.int q1.1)], q1.2)) 1 rfl
   (d_ret (k := 0) rfl rfl)))))))
