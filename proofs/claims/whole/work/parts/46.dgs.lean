/-! equations, by program -/
noncomputable def m_G_mayBeAsked (d : Nat) (one : Int32) (h : Int32) (s : qMem) : Option (Int32 × qMem) := qI (qCall qMT d 99 [.ref 0, .int one, .int h] s)
set_option maxRecDepth 20000 in
theorem e_G_mayBeAsked (d : Nat) (one : Int32) (h : Int32) (s : qMem) : m_G_mayBeAsked (d + 1) one h s = (if h = (-1) then some (1, s) else ((m_T_isOne d 1 h s).bind (fun q1 => (if q1.1 = 0 then some (0, q1.2) else (if h = one then some (0, q1.2) else some (1, q1.2)))))) := d_step (t := (2, [some (.ref 0), some (.int one), some (.int h)], [(.int (-1)), (.int h)], s)) 2 rfl
   (d_if (a := (21, [some (.ref 0), some (.int one), some (.int h)], [], s)) (b := (5, [some (.ref 0), some (.int one), some (.int h)], [], s)) rfl rfl
   (d_step (t := (26, [some (.ref 0), some (.int one), some (.int h)], [(.int 1)], s)) 2 rfl
   (d_ret (k := 0) rfl rfl))
   (d_step (t := (10, [some (.ref 0), some (.int one), some (.int h)], [(.int h), (.ref 1)], s)) 3 rfl
   (d_callI (o := (m_T_isOne d 1 h s)) rfl rfl (fun q1 =>
   d_if (a := (25, [some (.ref 0), some (.int one), some (.int h)], [], q1.2)) (b := (16, [some (.ref 0), some (.int one), some (.int h)], [], q1.2)) rfl rfl
   (d_step (t := (26, [some (.ref 0), some (.int one), some (.int h)], [(.int 0)], q1.2)) 1 rfl
   (d_ret (k := 0) rfl rfl))
   (d_step (t := (18, [some (.ref 0), some (.int one), some (.int h)], [(.int one), (.int h)], q1.2)) 2 rfl
   (d_if (a := (25, [some (.ref 0), some (.int one), some (.int h)], [], q1.2)) (b := (21, [some (.ref 0), some (.int one), some (.int h)], [], q1.2)) rfl rfl
   (d_step (t := (26, [some (.ref 0), some (.int one), some (.int h)], [(.int 0)], q1.2)) 1 rfl
   (d_ret (k := 0) rfl rfl))
   (d_step (t := (26, [some (.ref 0), some (.int one), some (.int h)], [(.int 1)], q1.2)) 2 rfl
   (d_ret (k := 0) rfl rfl))))))))
noncomputable def m_G_go (d : Nat) (one : Int32) (bb : Int32) (s : qMem) : Option (Int32 × qMem) := qI (qCall qMT d 100 [.ref 0, .int one, .int bb] s)
set_option maxRecDepth 20000 in
theorem e_G_go (d : Nat) (one : Int32) (bb : Int32) (s : qMem) : m_G_go (d + 1) one bb s = (if qIn one 5 then (if qIn one 5 then some ((((s).1 22 1) + 1), (qW (qW (qW s 23 (one).toNatClampNeg (((s).1 23 (one).toNatClampNeg) + bb)) 22 1 (((s).1 22 1) + 1)) 0 6 0)) else none) else none) := d_step (t := (9, [some (.ref 0), some (.int one), some (.int bb)], [(.int one), (.ref 23), (.int one), (.ref 23)], s)) 5 rfl
   (d_chk (a := (10, [some (.ref 0), some (.int one), some (.int bb)], [(.int ((s).1 23 (one).toNatClampNeg)), (.int one), (.ref 23)], s)) rfl rfl
   (d_step (t := (12, [some (.ref 0), some (.int one), some (.int bb)], [(.int (((s).1 23 (one).toNatClampNeg) + bb)), (.int one), (.ref 23)], s)) 2 rfl
   (d_chk (a := (13, [some (.ref 0), some (.int one), some (.int bb)], [], (qW s 23 (one).toNatClampNeg (((s).1 23 (one).toNatClampNeg) + bb)))) rfl rfl
   (d_step (t := (38, [some (.ref 0), some (.int one), some (.int bb)], [(.int (((s).1 22 1) + 1))], (qW (qW (qW s 23 (one).toNatClampNeg (((s).1 23 (one).toNatClampNeg) + bb)) 22 1 (((s).1 22 1) + 1)) 0 6 0))) 13 rfl
   (d_ret (k := 0) rfl rfl)))))
noncomputable def m_G_beginAnew (d : Nat)  (s : qMem) : Option (qMem) := qV (qCall qMT d 101 [.ref 0] s)
noncomputable def l_G_beginAnew_1 (d : Nat)  (x1 : Int32) (s : qMem) : Option (qMem) := qV (qK qMT d 101 (16, [some (.ref 0), some (.int x1)], [], s))
set_option maxRecDepth 20000 in
theorem e_G_beginAnew (d : Nat)  (s : qMem) : m_G_beginAnew (d + 1) s = ((m_J_begin d s).bind (fun q1 => (l_G_beginAnew_1 d 0 q1))) := d_step (t := (11, [some (.ref 0), none], [(.ref 9), (.ref 22)], s)) 5 rfl
   (d_callV (o := (m_J_begin d s)) rfl rfl (fun q1 =>
   d_step (t := (16, [some (.ref 0), some (.int 0)], [], q1)) 2 rfl
   (rfl)))
set_option maxRecDepth 20000 in
theorem el_G_beginAnew_1 (d : Nat)  (x1 : Int32) (s : qMem) : l_G_beginAnew_1 d x1 s = (if 2 ≤ x1 then some (qW (qW s 0 9 0) 0 6 0) else (if x1 = 0 then (if x1 = 0 then (l_G_beginAnew_1 d (x1 + 1) (qW s 34 3 0)) else if x1 = 1 then (l_G_beginAnew_1 d (x1 + 1) (qW s 37 3 0)) else none) else if x1 = 1 then (if x1 = 0 then (l_G_beginAnew_1 d (x1 + 1) (qW s 34 3 0)) else if x1 = 1 then (l_G_beginAnew_1 d (x1 + 1) (qW s 37 3 0)) else none) else none)) := d_step (t := (18, [some (.ref 0), some (.int x1)], [(.int 2), (.int x1)], s)) 2 rfl
   (d_if (a := (46, [some (.ref 0), some (.int x1)], [], s)) (b := (21, [some (.ref 0), some (.int x1)], [], s)) rfl rfl
   (d_step (t := (56, [some (.ref 0), some (.int x1)], [], (qW (qW s 0 9 0) 0 6 0))) 6 rfl
   (d_ret (k := 2) rfl rfl))
   (d_step (t := (26, [some (.ref 0), some (.int x1)], [(.int x1), (.ref 25)], s)) 3 rfl
   (d_if3 (a := (27, [some (.ref 0), some (.int x1)], [(.ref 34)], s)) (b := (27, [some (.ref 0), some (.int x1)], [(.ref 37)], s)) rfl rfl
   (d_step (t := (35, [some (.ref 0), some (.int x1)], [(.int x1), (.ref 25)], s)) 4 rfl
   (d_if3 (a := (36, [some (.ref 0), some (.int x1)], [(.ref 34)], s)) (b := (36, [some (.ref 0), some (.int x1)], [(.ref 37)], s)) rfl rfl
   (d_step (t := (16, [some (.ref 0), some (.int (x1 + 1))], [], (qW s 34 3 0))) 4 rfl
   (rfl))
   (d_step (t := (16, [some (.ref 0), some (.int (x1 + 1))], [], (qW s 37 3 0))) 4 rfl
   (rfl))))
   (d_step (t := (35, [some (.ref 0), some (.int x1)], [(.int x1), (.ref 25)], s)) 4 rfl
   (d_if3 (a := (36, [some (.ref 0), some (.int x1)], [(.ref 34)], s)) (b := (36, [some (.ref 0), some (.int x1)], [(.ref 37)], s)) rfl rfl
   (d_step (t := (16, [some (.ref 0), some (.int (x1 + 1))], [], (qW s 34 3 0))) 4 rfl
   (rfl))
   (d_step (t := (16, [some (.ref 0), some (.int (x1 + 1))], [], (qW s 37 3 0))) 4 rfl
   (rfl)))))))
noncomputable def m_G_foresee (d : Nat)  (s : qMem) : Option (qMem) := qV (qCall qMT d 102 [.ref 0] s)
set_option maxRecDepth 20000 in
theorem e_G_foresee (d : Nat)  (s : qMem) : m_G_foresee (d + 1) s = (if ((s).1 0 6) = 0 then ((m_S_look d 1 23 s).bind (fun q1 => some (qW q1 0 6 1))) else some s) := d_step (t := (4, [some (.ref 0)], [(.int ((s).1 0 6))], s)) 2 rfl
   (d_if (a := (7, [some (.ref 0)], [], s)) (b := (30, [some (.ref 0)], [], s)) rfl rfl
   (d_step (t := (22, [some (.ref 0)], [(.ref 23), (.ref 1), (.ref 26)], s)) 7 rfl
   (d_callV (o := (m_S_look d 1 23 s)) rfl rfl (fun q1 =>
   d_step (t := (30, [some (.ref 0)], [], (qW q1 0 6 1))) 3 rfl
   (d_ret (k := 2) rfl rfl))))
   (d_ret (k := 2) rfl rfl))
noncomputable def m_G_chanceOf (d : Nat) (who : Int32) (p : Int32) (s : qMem) : Option (Int32 × qMem) := qI (qCall qMT d 103 [.ref 0, .int who, .int p] s)
noncomputable def l_G_chanceOf_1 (d : Nat)  (x1 : Int32) (x2 : Int32) (x3 : Int32) (x4 : Int32) (s : qMem) : Option (Int32 × qMem) := qI (qK qMT d 103 (5, [some (.ref 0), some (.int x1), some (.int x2), some (.int x3), some (.int x4)], [], s))
set_option maxRecDepth 20000 in
theorem e_G_chanceOf (d : Nat) (who : Int32) (p : Int32) (s : qMem) : m_G_chanceOf (d + 1) who p s = (l_G_chanceOf_1 d who p 1 0 s) := d_step (t := (5, [some (.ref 0), some (.int who), some (.int p), some (.int 1), some (.int 0)], [], s)) 4 rfl
   (rfl)
set_option maxRecDepth 20000 in
theorem el_G_chanceOf_1 (d : Nat)  (x1 : Int32) (x2 : Int32) (x3 : Int32) (x4 : Int32) (s : qMem) : l_G_chanceOf_1 d x1 x2 x3 x4 s = (if ((s).1 1 1) ≤ x4 then some (x3, s) else (if ((x1 >>> (x4 &&& 31)) &&& 1) = 1 then (l_G_chanceOf_1 d x1 x2 (x3 * x2) (x4 + 1) s) else (l_G_chanceOf_1 d x1 x2 (x3 * (10 - x2)) (x4 + 1) s))) := d_step (t := (14, [some (.ref 0), some (.int x1), some (.int x2), some (.int x3), some (.int x4)], [(.int ((s).1 1 1)), (.int x4)], s)) 4 rfl
   (d_if (a := (44, [some (.ref 0), some (.int x1), some (.int x2), some (.int x3), some (.int x4)], [], s)) (b := (17, [some (.ref 0), some (.int x1), some (.int x2), some (.int x3), some (.int x4)], [], s)) rfl rfl
   (d_step (t := (45, [some (.ref 0), some (.int x1), some (.int x2), some (.int x3), some (.int x4)], [(.int x3)], s)) 1 rfl
   (d_ret (k := 0) rfl rfl))
   (d_step (t := (25, [some (.ref 0), some (.int x1), some (.int x2), some (.int x3), some (.int x4)], [(.int 1), (.int ((x1 >>> (x4 &&& 31)) &&& 1)), (.int x3)], s)) 7 rfl
   (d_if (a := (28, [some (.ref 0), some (.int x1), some (.int x2), some (.int x3), some (.int x4)], [(.int x3)], s)) (b := (32, [some (.ref 0), some (.int x1), some (.int x2), some (.int x3), some (.int x4)], [(.int x3)], s)) rfl rfl
   (d_step (t := (5, [some (.ref 0), some (.int x1), some (.int x2), some (.int (x3 * x2)), some (.int (x4 + 1))], [], s)) 6 rfl
   (rfl))
   (d_step (t := (5, [some (.ref 0), some (.int x1), some (.int x2), some (.int (x3 * (10 - x2))), some (.int (x4 + 1))], [], s)) 7 rfl
   (rfl)))))
noncomputable def m_G_canAllBeUp (d : Nat) (who : Int32) (s : qMem) : Option (Int32 × qMem) := qI (qCall qMT d 104 [.ref 0, .int who] s)
set_option maxRecDepth 20000 in
theorem e_G_canAllBeUp (d : Nat) (who : Int32) (s : qMem) : m_G_canAllBeUp (d + 1) who s = ((m_T_copySome d who s).bind (fun q1 => ((m_S_look d 10 18 (qW q1 0 6 0)).bind (fun q2 => ((m_S_fewest d q2).bind (fun q3 => (if q3.1 = (-1) then some (0, q3.2) else some (1, q3.2)))))))) := d_step (t := (16, [some (.ref 0), some (.int who)], [(.ref 23), (.int who), (.ref 1), (.ref 10)], s)) 8 rfl
   (d_callV (o := (m_T_copySome d who s)) rfl rfl (fun q1 =>
   d_step (t := (39, [some (.ref 0), some (.int who)], [(.ref 18), (.ref 10), (.ref 26)], (qW q1 0 6 0))) 10 rfl
   (d_callV (o := (m_S_look d 10 18 (qW q1 0 6 0))) rfl rfl (fun q2 =>
   d_step (t := (46, [some (.ref 0), some (.int who)], [(.ref 26)], q2)) 2 rfl
   (d_callI (o := (m_S_fewest d q2)) rfl rfl (fun q3 =>
   d_step (t := (50, [some (.ref 0), some (.int who)], [(.int (-1)), (.int q3.1)], q3.2)) 1 rfl
   (d_if (a := (57, [some (.ref 0), some (.int who)], [], q3.2)) (b := (53, [some (.ref 0), some (.int who)], [], q3.2)) rfl rfl
   (d_step (t := (58, [some (.ref 0), some (.int who)], [(.int 0)], q3.2)) 1 rfl
   (d_ret (k := 0) rfl rfl))
   (d_step (t := (58, [some (.ref 0), some (.int who)], [(.int 1)], q3.2)) 2 rfl
   (d_ret (k := 0) rfl rfl)))))))))
noncomputable def m_G_commonDivisor (d : Nat) (a : Int32) (b : Int32) (s : qMem) : Option (Int32 × qMem) := qI (qCall qMT d 105 [.int a, .int b] s)
noncomputable def l_G_commonDivisor_1 (d : Nat)  (x2 : Int32) (x3 : Int32) (x4 : Int32) (s : qMem) : Option (Int32 × qMem) := qI (qK qMT d 105 (7, [none, none, some (.int x2), some (.int x3), some (.int x4), none], [], s))
set_option maxRecDepth 20000 in
theorem e_G_commonDivisor (d : Nat) (a : Int32) (b : Int32) (s : qMem) : m_G_commonDivisor (d + 1) a b s = (l_G_commonDivisor_1 d a b 0 s) := d_step (t := (7, [some (.int a), some (.int b), some (.int a), some (.int b), some (.int 0), none], [], s)) 6 rfl
   (d_lab (x2 := (7, [none, none, some (.int a), some (.int b), some (.int 0), none], [], s)) rfl rfl rfl)
set_option maxRecDepth 20000 in
theorem el_G_commonDivisor_1 (d : Nat)  (x2 : Int32) (x3 : Int32) (x4 : Int32) (s : qMem) : l_G_commonDivisor_1 d x2 x3 x4 s = (if 100 ≤ x4 then some (x2, s) else (if x3 = 0 then some (x2, s) else (if x3 = 0 then none else (l_G_commonDivisor_1 d x3 (x2 - x2 / x3 * x3) (x4 + 1) s)))) := d_step (t := (11, [none, none, some (.int x2), some (.int x3), some (.int x4), none], [(.int 100), (.int x4)], s)) 2 rfl
   (d_if (a := (34, [none, none, some (.int x2), some (.int x3), some (.int x4), none], [], s)) (b := (14, [none, none, some (.int x2), some (.int x3), some (.int x4), none], [], s)) rfl rfl
   (d_step (t := (35, [none, none, some (.int x2), some (.int x3), some (.int x4), none], [(.int x2)], s)) 1 rfl
   (d_ret (k := 0) rfl rfl))
   (d_step (t := (15, [none, none, some (.int x2), some (.int x3), some (.int x4), none], [(.int x3)], s)) 1 rfl
   (d_if (a := (34, [none, none, some (.int x2), some (.int x3), some (.int x4), none], [], s)) (b := (18, [none, none, some (.int x2), some (.int x3), some (.int x4), none], [], s)) rfl rfl
   (d_step (t := (35, [none, none, some (.int x2), some (.int x3), some (.int x4), none], [(.int x2)], s)) 1 rfl
   (d_ret (k := 0) rfl rfl))
   (d_step (t := (20, [none, none, some (.int x2), some (.int x3), some (.int x4), none], [(.int x3), (.int x2)], s)) 2 rfl
   (d_chkn (a := (21, [none, none, some (.int x2), some (.int x3), some (.int x4), none], [(.int (x2 - x2 / x3 * x3))], s)) rfl rfl
   (d_step (t := (7, [none, none, some (.int x3), some (.int (x2 - x2 / x3 * x3)), some (.int (x4 + 1)), some (.int (x2 - x2 / x3 * x3))], [], s)) 7 rfl
   (d_lab (x2 := (7, [none, none, some (.int x3), some (.int (x2 - x2 / x3 * x3)), some (.int (x4 + 1)), none], [], s)) rfl rfl rfl)))))))
noncomputable def m_G_write (d : Nat) (bs : Int64) (n : Int32) (s : qMem) : Option (Int32 × qMem) := qI (qCall qMT d 74 [.ref 0, .long bs, .int n] s)
noncomputable def l_G_write_1 (d : Nat)  (x1 : Int64) (x3 : Int32) (x4 : Int32) (s : qMem) : Option (Int32 × qMem) := qI (qK qMT d 74 (35, [some (.ref 0), some (.long x1), none, some (.int x3), some (.int x4)], [], s))
set_option maxRecDepth 20000 in
theorem e_G_write (d : Nat) (bs : Int64) (n : Int32) (s : qMem) : m_G_write (d + 1) bs n s = (if n < 1 then some ((-3), s) else (if n ≤ 8 then (if (((s).1 19 1) + n) ≤ 200 then (l_G_write_1 d bs n 0 s) else some ((-5), s)) else some ((-3), s))) := d_step (t := (2, [some (.ref 0), some (.long bs), none, some (.int n), none], [(.int 1), (.int n)], s)) 2 rfl
   (d_if (a := (11, [some (.ref 0), some (.long bs), none, some (.int n), none], [], s)) (b := (5, [some (.ref 0), some (.long bs), none, some (.int n), none], [], s)) rfl rfl
   (d_step (t := (13, [some (.ref 0), some (.long bs), none, some (.int n), none], [(.int (-3))], s)) 1 rfl
   (d_ret (k := 0) rfl rfl))
   (d_step (t := (8, [some (.ref 0), some (.long bs), none, some (.int n), none], [(.int 8), (.int n)], s)) 2 rfl
   (d_if (a := (14, [some (.ref 0), some (.long bs), none, some (.int n), none], [], s)) (b := (11, [some (.ref 0), some (.long bs), none, some (.int n), none], [], s)) rfl rfl
   (d_step (t := (26, [some (.ref 0), some (.long bs), none, some (.int n), none], [(.int 200), (.int (((s).1 19 1) + n))], s)) 6 rfl
   (d_if (a := (32, [some (.ref 0), some (.long bs), none, some (.int n), none], [], s)) (b := (29, [some (.ref 0), some (.long bs), none, some (.int n), none], [], s)) rfl rfl
   (d_step (t := (35, [some (.ref 0), some (.long bs), none, some (.int n), some (.int 0)], [], s)) 2 rfl
   (d_lab (x2 := (35, [some (.ref 0), some (.long bs), none, some (.int n), some (.int 0)], [], s)) rfl rfl rfl))
   (d_step (t := (31, [some (.ref 0), some (.long bs), none, some (.int n), none], [(.int (-5))], s)) 1 rfl
   (d_ret (k := 0) rfl rfl))))
   (d_step (t := (13, [some (.ref 0), some (.long bs), none, some (.int n), none], [(.int (-3))], s)) 1 rfl
   (d_ret (k := 0) rfl rfl)))))
set_option maxRecDepth 20000 in
theorem el_G_write_1 (d : Nat)  (x1 : Int64) (x3 : Int32) (x4 : Int32) (s : qMem) : l_G_write_1 d x1 x3 x4 s = (if x3 ≤ x4 then some (((s).1 19 1), s) else ((m_X_append d (((x1 >>> (((8 * x4) : Int32).toInt64 &&& 63)) &&& (255))).toInt32 s).bind (fun q1 => (l_G_write_1 d x1 x3 (x4 + 1) q1)))) := d_step (t := (38, [some (.ref 0), some (.long x1), none, some (.int x3), some (.int x4)], [(.int x3), (.int x4)], s)) 2 rfl
   (d_if (a := (66, [some (.ref 0), some (.long x1), none, some (.int x3), some (.int x4)], [], s)) (b := (41, [some (.ref 0), some (.long x1), none, some (.int x3), some (.int x4)], [], s)) rfl rfl
   (d_step (t := (73, [some (.ref 0), some (.long x1), none, some (.int x3), some (.int x4)], [(.int ((s).1 19 1))], s)) 3 rfl
   (d_ret (k := 0) rfl rfl))
   (d_step (t := (57, [some (.ref 0), some (.long x1), none, some (.int x3), some (.int x4)], [(.int (((x1 >>> (((8 * x4) : Int32).toInt64 &&& 63)) &&& (255))).toInt32), (.ref 19)], s)) 10 rfl
   (d_callV (o := (m_X_append d (((x1 >>> (((8 * x4) : Int32).toInt64 &&& 63)) &&& (255))).toInt32 s)) rfl rfl (fun q1 =>
   d_step (t := (35, [some (.ref 0), some (.long x1), none, some (.int x3), some (.int (x4 + 1))], [], q1)) 2 rfl
   (d_lab (x2 := (35, [some (.ref 0), some (.long x1), none, some (.int x3), some (.int (x4 + 1))], [], q1)) rfl rfl rfl)))))
noncomputable def m_G_erase (d : Nat)  (s : qMem) : Option (Int32 × qMem) := qI (qCall qMT d 75 [.ref 0] s)
set_option maxRecDepth 20000 in
theorem e_G_erase (d : Nat)  (s : qMem) : m_G_erase (d + 1) s = ((m_X_empty d s).bind (fun q1 => some (q1.1, q1.2))) := d_step (t := (4, [some (.ref 0)], [(.ref 19)], s)) 2 rfl
   (d_callI (o := (m_X_empty d s)) rfl rfl (fun q1 =>
   d_ret (k := 0) rfl rfl))
noncomputable def m_G_fault (d : Nat)  (s : qMem) : Option (Int32 × qMem) := qI (qCall qMT d 76 [.ref 0] s)
set_option maxRecDepth 20000 in
theorem e_G_fault (d : Nat)  (s : qMem) : m_G_fault (d + 1) s = ((m_T_copy d 10 1 s).bind (fun q1 => ((m_X_read d q1).bind (fun q2 => some (q2.1, q2.2))))) := d_step (t := (8, [some (.ref 0)], [(.ref 1), (.ref 10)], s)) 4 rfl
   (d_callV (o := (m_T_copy d 10 1 s)) rfl rfl (fun q1 =>
   d_step (t := (19, [some (.ref 0)], [(.ref 10), (.ref 19)], q1)) 4 rfl
   (d_callI (o := (m_X_read d q1)) rfl rfl (fun q2 =>
   d_ret (k := 0) rfl rfl))))
noncomputable def m_G_stair (d : Nat)  (s : qMem) : Option (Int32 × qMem) := qI (qCall qMT d 77 [.ref 0] s)
set_option maxRecDepth 20000 in
theorem e_G_stair (d : Nat)  (s : qMem) : m_G_stair (d + 1) s = ((m_T_copy d 10 1 s).bind (fun q1 => ((m_X_read d q1).bind (fun q2 => (if q2.1 = (-1) then ((m_T_copy d 1 10 q2.2).bind (fun q3 => ((m_X_empty d q3).bind (fun q4 => ((m_G_beginAnew d q4.2).bind (fun q5 => some (((q5).1 19 2), q5))))))) else some ((-4), q2.2)))))) := d_step (t := (8, [some (.ref 0)], [(.ref 1), (.ref 10)], s)) 4 rfl
   (d_callV (o := (m_T_copy d 10 1 s)) rfl rfl (fun q1 =>
   d_step (t := (19, [some (.ref 0)], [(.ref 10), (.ref 19)], q1)) 4 rfl
   (d_callI (o := (m_X_read d q1)) rfl rfl (fun q2 =>
   d_step (t := (23, [some (.ref 0)], [(.int (-1)), (.int q2.1)], q2.2)) 1 rfl
   (d_if (a := (29, [some (.ref 0)], [], q2.2)) (b := (26, [some (.ref 0)], [], q2.2)) rfl rfl
   (d_step (t := (37, [some (.ref 0)], [(.ref 10), (.ref 1)], q2.2)) 4 rfl
   (d_callV (o := (m_T_copy d 1 10 q2.2)) rfl rfl (fun q3 =>
   d_step (t := (44, [some (.ref 0)], [(.ref 19)], q3)) 2 rfl
   (d_callI (o := (m_X_empty d q3)) rfl rfl (fun q4 =>
   d_step (t := (49, [some (.ref 0)], [(.ref 0)], q4.2)) 2 rfl
   (d_callV (o := (m_G_beginAnew d q4.2)) rfl rfl (fun q5 =>
   d_step (t := (59, [some (.ref 0)], [(.int ((q5).1 19 2))], q5)) 3 rfl
   (d_ret (k := 0) rfl rfl))))))))
   (d_step (t := (28, [some (.ref 0)], [(.int (-4))], q2.2)) 1 rfl
   (d_ret (k := 0) rfl rfl)))))))
noncomputable def m_G_step (d : Nat) (st : Int32) (w : Int32) (s : qMem) : Option (Int32 × qMem) := qI (qCall qMT d 78 [.ref 0, .int st, .int w] s)
set_option maxRecDepth 20000 in
theorem e_G_step (d : Nat) (st : Int32) (w : Int32) (s : qMem) : m_G_step (d + 1) st w s = (if st < 0 then some ((-2), s) else (if ((s).1 1 0) ≤ st then some ((-2), s) else (if st < 4 then (if w = 0 then (if qIn st 4 then some (((s).1 2 (st).toNatClampNeg), s) else none) else (if w = 1 then (if qIn st 4 then some ((if ((s).1 3 (st).toNatClampNeg) = 0 then 0 else 1 : Int32), s) else none) else some ((-3), s))) else some ((-2), s)))) := d_step (t := (1, [some (.ref 0), some (.int st), some (.int w)], [(.int st)], s)) 1 rfl
   (d_if (a := (20, [some (.ref 0), some (.int st), some (.int w)], [], s)) (b := (4, [some (.ref 0), some (.int st), some (.int w)], [], s)) rfl rfl
   (d_step (t := (22, [some (.ref 0), some (.int st), some (.int w)], [(.int (-2))], s)) 1 rfl
   (d_ret (k := 0) rfl rfl))
   (d_step (t := (12, [some (.ref 0), some (.int st), some (.int w)], [(.int ((s).1 1 0)), (.int st)], s)) 4 rfl
   (d_if (a := (20, [some (.ref 0), some (.int st), some (.int w)], [], s)) (b := (15, [some (.ref 0), some (.int st), some (.int w)], [], s)) rfl rfl
   (d_step (t := (22, [some (.ref 0), some (.int st), some (.int w)], [(.int (-2))], s)) 1 rfl
   (d_ret (k := 0) rfl rfl))
   (d_step (t := (17, [some (.ref 0), some (.int st), some (.int w)], [(.int 4), (.int st)], s)) 2 rfl
   (d_if (a := (23, [some (.ref 0), some (.int st), some (.int w)], [], s)) (b := (20, [some (.ref 0), some (.int st), some (.int w)], [], s)) rfl rfl
   (d_step (t := (24, [some (.ref 0), some (.int st), some (.int w)], [(.int w)], s)) 1 rfl
   (d_sw (o := qSel w [some (.ref 0), some (.int st), some (.int w)] [] s 80 [(0, 52), (1, 62)]) rfl rfl (d_sw1 (d_step (t := (60, [some (.ref 0), some (.int st), some (.int w)], [(.int st), (.ref 2)], s)) 4 rfl
   (d_chk (a := (61, [some (.ref 0), some (.int st), some (.int w)], [(.int ((s).1 2 (st).toNatClampNeg))], s)) rfl rfl
   (d_ret (k := 0) rfl rfl)))
   (d_sw1 (d_step (t := (70, [some (.ref 0), some (.int st), some (.int w)], [(.int st), (.ref 3)], s)) 4 rfl
   (d_chk (a := (71, [some (.ref 0), some (.int st), some (.int w)], [(.int ((s).1 3 (st).toNatClampNeg))], s)) rfl rfl
   (d_mrg (a := (78, [some (.ref 0), some (.int st), some (.int w)], [], s)) (b := (74, [some (.ref 0), some (.int st), some (.int w)], [], s)) (v1 := 0) (v2 := 1) (z := fun v9 => (79, [some (.ref 0), some (.int st), some (.int w)], [(.int v9)], s)) 1 2 rfl rfl rfl rfl
   (d_ret (k := 0) rfl rfl))))
   (d_sw0 (d_step (t := (82, [some (.ref 0), some (.int st), some (.int w)], [(.int (-3))], s)) 1 rfl
   (d_ret (k := 0) rfl rfl)))))))
   (d_step (t := (22, [some (.ref 0), some (.int st), some (.int w)], [(.int (-2))], s)) 1 rfl
   (d_ret (k := 0) rfl rfl)))))))
noncomputable def m_G_one (d : Nat) (one : Int32) (w : Int32) (s : qMem) : Option (Int32 × qMem) := qI (qCall qMT d 79 [.ref 0, .int one, .int w] s)
set_option maxRecDepth 20000 in
theorem e_G_one (d : Nat) (one : Int32) (w : Int32) (s : qMem) : m_G_one (d + 1) one w s = ((m_T_isOne d 1 one s).bind (fun q1 => (if q1.1 = 0 then some ((-2), q1.2) else (if w = 0 then (if qIn one 5 then some (((q1.2).1 4 (one).toNatClampNeg), q1.2) else none) else (if w = 1 then (if qIn one 5 then some (((q1.2).1 5 (one).toNatClampNeg), q1.2) else none) else (if w = 2 then (if qIn one 5 then some (((q1.2).1 7 (one).toNatClampNeg), q1.2) else none) else (if w = 3 then (if qIn one 5 then some (((q1.2).1 8 (one).toNatClampNeg), q1.2) else none) else (if w = 4 then (if qIn one 5 then some (((q1.2).1 23 (one).toNatClampNeg), q1.2) else none) else (if w = 5 then ((m_J_helpGiven d one q1.2).bind (fun q2 => some (q2.1, q2.2))) else (if w = 6 then ((m_J_helpTaken d one q1.2).bind (fun q3 => some (q3.1, q3.2))) else some ((-3), q1.2))))))))))) := d_step (t := (5, [some (.ref 0), some (.int one), some (.int w)], [(.int one), (.ref 1)], s)) 3 rfl
   (d_callI (o := (m_T_isOne d 1 one s)) rfl rfl (fun q1 =>
   d_if (a := (11, [some (.ref 0), some (.int one), some (.int w)], [], q1.2)) (b := (14, [some (.ref 0), some (.int one), some (.int w)], [], q1.2)) rfl rfl
   (d_step (t := (13, [some (.ref 0), some (.int one), some (.int w)], [(.int (-2))], q1.2)) 1 rfl
   (d_ret (k := 0) rfl rfl))
   (d_step (t := (15, [some (.ref 0), some (.int one), some (.int w)], [(.int w)], q1.2)) 1 rfl
   (d_sw (o := qSel w [some (.ref 0), some (.int one), some (.int w)] [] q1.2 124 [(0, 56), (1, 66), (2, 76), (3, 86), (4, 96), (5, 106), (6, 115)]) rfl rfl (d_sw1 (d_step (t := (64, [some (.ref 0), some (.int one), some (.int w)], [(.int one), (.ref 4)], q1.2)) 4 rfl
   (d_chk (a := (65, [some (.ref 0), some (.int one), some (.int w)], [(.int ((q1.2).1 4 (one).toNatClampNeg))], q1.2)) rfl rfl
   (d_ret (k := 0) rfl rfl)))
   (d_sw1 (d_step (t := (74, [some (.ref 0), some (.int one), some (.int w)], [(.int one), (.ref 5)], q1.2)) 4 rfl
   (d_chk (a := (75, [some (.ref 0), some (.int one), some (.int w)], [(.int ((q1.2).1 5 (one).toNatClampNeg))], q1.2)) rfl rfl
   (d_ret (k := 0) rfl rfl)))
   (d_sw1 (d_step (t := (84, [some (.ref 0), some (.int one), some (.int w)], [(.int one), (.ref 7)], q1.2)) 4 rfl
   (d_chk (a := (85, [some (.ref 0), some (.int one), some (.int w)], [(.int ((q1.2).1 7 (one).toNatClampNeg))], q1.2)) rfl rfl
   (d_ret (k := 0) rfl rfl)))
   (d_sw1 (d_step (t := (94, [some (.ref 0), some (.int one), some (.int w)], [(.int one), (.ref 8)], q1.2)) 4 rfl
   (d_chk (a := (95, [some (.ref 0), some (.int one), some (.int w)], [(.int ((q1.2).1 8 (one).toNatClampNeg))], q1.2)) rfl rfl
   (d_ret (k := 0) rfl rfl)))
   (d_sw1 (d_step (t := (104, [some (.ref 0), some (.int one), some (.int w)], [(.int one), (.ref 23)], q1.2)) 4 rfl
   (d_chk (a := (105, [some (.ref 0), some (.int one), some (.int w)], [(.int ((q1.2).1 23 (one).toNatClampNeg))], q1.2)) rfl rfl
   (d_ret (k := 0) rfl rfl)))
   (d_sw1 (d_step (t := (111, [some (.ref 0), some (.int one), some (.int w)], [(.int one), (.ref 22)], q1.2)) 3 rfl
   (d_callI (o := (m_J_helpGiven d one q1.2)) rfl rfl (fun q2 =>
   d_ret (k := 0) rfl rfl)))
   (d_sw1 (d_step (t := (120, [some (.ref 0), some (.int one), some (.int w)], [(.int one), (.ref 22)], q1.2)) 3 rfl
   (d_callI (o := (m_J_helpTaken d one q1.2)) rfl rfl (fun q3 =>
   d_ret (k := 0) rfl rfl)))
   (d_sw0 (d_step (t := (126, [some (.ref 0), some (.int one), some (.int w)], [(.int (-3))], q1.2)) 1 rfl
   (d_ret (k := 0) rfl rfl))))))))))))))
noncomputable def m_G_as (d : Nat) (one : Int32) (k : Int32) (s : qMem) : Option (Int32 × qMem) := qI (qCall qMT d 80 [.ref 0, .int one, .int k] s)
set_option maxRecDepth 20000 in
theorem e_G_as (d : Nat) (one : Int32) (k : Int32) (s : qMem) : m_G_as (d + 1) one k s = ((m_T_isOne d 1 one s).bind (fun q1 => (if q1.1 = 0 then some ((-2), q1.2) else (if k < 0 then some ((-3), q1.2) else (if k ≤ 4 then ((m_T_isSuch d one k q1.2).bind (fun q2 => (if q2.1 = 0 then some ((-4), q2.2) else ((m_T_canRise d 1 one 23 q2.2).bind (fun q3 => ((m_T_canSink d 1 one 23 q3.2).bind (fun q4 => (if q4.1 = 0 then some ((if q3.1 = 0 then 0 else 1 : Int32), q4.2) else some (((if q3.1 = 0 then 0 else 1 : Int32) + 2), q4.2))))))))) else some ((-3), q1.2)))))) := d_step (t := (5, [some (.ref 0), some (.int one), some (.int k), none], [(.int one), (.ref 1)], s)) 3 rfl
   (d_callI (o := (m_T_isOne d 1 one s)) rfl rfl (fun q1 =>
   d_if (a := (11, [some (.ref 0), some (.int one), some (.int k), none], [], q1.2)) (b := (14, [some (.ref 0), some (.int one), some (.int k), none], [], q1.2)) rfl rfl
   (d_step (t := (13, [some (.ref 0), some (.int one), some (.int k), none], [(.int (-2))], q1.2)) 1 rfl
   (d_ret (k := 0) rfl rfl))
   (d_step (t := (15, [some (.ref 0), some (.int one), some (.int k), none], [(.int k)], q1.2)) 1 rfl
   (d_if (a := (23, [some (.ref 0), some (.int one), some (.int k), none], [], q1.2)) (b := (18, [some (.ref 0), some (.int one), some (.int k), none], [], q1.2)) rfl rfl
   (d_step (t := (25, [some (.ref 0), some (.int one), some (.int k), none], [(.int (-3))], q1.2)) 1 rfl
   (d_ret (k := 0) rfl rfl))
   (d_step (t := (20, [some (.ref 0), some (.int one), some (.int k), none], [(.int 4), (.int k)], q1.2)) 2 rfl
   (d_if (a := (26, [some (.ref 0), some (.int one), some (.int k), none], [], q1.2)) (b := (23, [some (.ref 0), some (.int one), some (.int k), none], [], q1.2)) rfl rfl
   (d_step (t := (32, [some (.ref 0), some (.int one), some (.int k), none], [(.int k), (.int one), (.ref 1)], q1.2)) 4 rfl
   (d_callI (o := (m_T_isSuch d one k q1.2)) rfl rfl (fun q2 =>
   d_if (a := (38, [some (.ref 0), some (.int one), some (.int k), none], [], q2.2)) (b := (41, [some (.ref 0), some (.int one), some (.int k), none], [], q2.2)) rfl rfl
   (d_step (t := (40, [some (.ref 0), some (.int one), some (.int k), none], [(.int (-4))], q2.2)) 1 rfl
   (d_ret (k := 0) rfl rfl))
   (d_step (t := (53, [some (.ref 0), some (.int one), some (.int k), none], [(.ref 23), (.int one), (.ref 1)], q2.2)) 6 rfl
   (d_callI (o := (m_T_canRise d 1 one 23 q2.2)) rfl rfl (fun q3 =>
   d_mrg (a := (63, [some (.ref 0), some (.int one), some (.int k), none], [], q3.2)) (b := (59, [some (.ref 0), some (.int one), some (.int k), none], [], q3.2)) (v1 := 0) (v2 := 1) (z := fun v9 => (64, [some (.ref 0), some (.int one), some (.int k), none], [(.int v9)], q3.2)) 1 2 rfl rfl rfl rfl
   (d_step (t := (77, [some (.ref 0), some (.int one), some (.int k), some (.int (if q3.1 = 0 then 0 else 1 : Int32))], [(.ref 23), (.int one), (.ref 1)], q3.2)) 7 rfl
   (d_callI (o := (m_T_canSink d 1 one 23 q3.2)) rfl rfl (fun q4 =>
   d_if (a := (89, [some (.ref 0), some (.int one), some (.int k), some (.int (if q3.1 = 0 then 0 else 1 : Int32))], [], q4.2)) (b := (83, [some (.ref 0), some (.int one), some (.int k), some (.int (if q3.1 = 0 then 0 else 1 : Int32))], [], q4.2)) rfl rfl
   (d_step (t := (90, [some (.ref 0), some (.int one), some (.int k), some (.int (if q3.1 = 0 then 0 else 1 : Int32))], [(.int (if q3.1 = 0 then 0 else 1 : Int32))], q4.2)) 1 rfl
   (d_ret (k := 0) rfl rfl))
   (d_step (t := (90, [some (.ref 0), some (.int one), some (.int k), some (.int (if q3.1 = 0 then 0 else 1 : Int32))], [(.int ((if q3.1 = 0 then 0 else 1 : Int32) + 2))], q4.2)) 4 rfl
   (d_ret (k := 0) rfl rfl)))))))))))
   (d_step (t := (25, [some (.ref 0), some (.int one), some (.int k), none], [(.int (-3))], q1.2)) 1 rfl
   (d_ret (k := 0) rfl rfl))))))))
noncomputable def m_G_up (d : Nat) (one : Int32) (li : Int32) (pu : Int32) (s : qMem) : Option (Int32 × qMem) := qI (qCall qMT d 81 [.ref 0, .int one, .int li, .int pu] s)
set_option maxRecDepth 20000 in
theorem e_G_up (d : Nat) (one : Int32) (li : Int32) (pu : Int32) (s : qMem) : m_G_up (d + 1) one li pu s = ((m_T_isOne d 1 one s).bind (fun q1 => (if q1.1 = 0 then some ((-2), q1.2) else ((m_G_mayBeAsked d one li q1.2).bind (fun q2 => (if q2.1 = 0 then some ((-2), q2.2) else ((m_G_mayBeAsked d one pu q2.2).bind (fun q3 => (if q3.1 = 0 then some ((-2), q3.2) else ((m_T_risesBy d 1 one li pu 23 q3.2).bind (fun q4 => (if q4.1 = 0 then some ((-4), q4.2) else (if ((q4.2).1 22 1) < 9999 then ((m_J_addHelp d li one q4.2).bind (fun q5 => ((m_J_addHelp d pu one q5).bind (fun q6 => ((m_G_go d one 1 q6).bind (fun q7 => some (q7.1, q7.2))))))) else some ((-5), q4.2)))))))))))))) := d_step (t := (5, [some (.ref 0), some (.int one), some (.int li), some (.int pu)], [(.int one), (.ref 1)], s)) 3 rfl
   (d_callI (o := (m_T_isOne d 1 one s)) rfl rfl (fun q1 =>
   d_if (a := (29, [some (.ref 0), some (.int one), some (.int li), some (.int pu)], [], q1.2)) (b := (11, [some (.ref 0), some (.int one), some (.int li), some (.int pu)], [], q1.2)) rfl rfl
   (d_step (t := (31, [some (.ref 0), some (.int one), some (.int li), some (.int pu)], [(.int (-2))], q1.2)) 1 rfl
   (d_ret (k := 0) rfl rfl))
   (d_step (t := (14, [some (.ref 0), some (.int one), some (.int li), some (.int pu)], [(.int li), (.int one), (.ref 0)], q1.2)) 3 rfl
   (d_callI (o := (m_G_mayBeAsked d one li q1.2)) rfl rfl (fun q2 =>
   d_if (a := (29, [some (.ref 0), some (.int one), some (.int li), some (.int pu)], [], q2.2)) (b := (20, [some (.ref 0), some (.int one), some (.int li), some (.int pu)], [], q2.2)) rfl rfl
   (d_step (t := (31, [some (.ref 0), some (.int one), some (.int li), some (.int pu)], [(.int (-2))], q2.2)) 1 rfl
   (d_ret (k := 0) rfl rfl))
   (d_step (t := (23, [some (.ref 0), some (.int one), some (.int li), some (.int pu)], [(.int pu), (.int one), (.ref 0)], q2.2)) 3 rfl
   (d_callI (o := (m_G_mayBeAsked d one pu q2.2)) rfl rfl (fun q3 =>
   d_if (a := (29, [some (.ref 0), some (.int one), some (.int li), some (.int pu)], [], q3.2)) (b := (32, [some (.ref 0), some (.int one), some (.int li), some (.int pu)], [], q3.2)) rfl rfl
   (d_step (t := (31, [some (.ref 0), some (.int one), some (.int li), some (.int pu)], [(.int (-2))], q3.2)) 1 rfl
   (d_ret (k := 0) rfl rfl))
   (d_step (t := (46, [some (.ref 0), some (.int one), some (.int li), some (.int pu)], [(.ref 23), (.int pu), (.int li), (.int one), (.ref 1)], q3.2)) 8 rfl
   (d_callI (o := (m_T_risesBy d 1 one li pu 23 q3.2)) rfl rfl (fun q4 =>
   d_if (a := (52, [some (.ref 0), some (.int one), some (.int li), some (.int pu)], [], q4.2)) (b := (55, [some (.ref 0), some (.int one), some (.int li), some (.int pu)], [], q4.2)) rfl rfl
   (d_step (t := (54, [some (.ref 0), some (.int one), some (.int li), some (.int pu)], [(.int (-4))], q4.2)) 1 rfl
   (d_ret (k := 0) rfl rfl))
   (d_step (t := (65, [some (.ref 0), some (.int one), some (.int li), some (.int pu)], [(.int 9999), (.int ((q4.2).1 22 1))], q4.2)) 4 rfl
   (d_if (a := (71, [some (.ref 0), some (.int one), some (.int li), some (.int pu)], [], q4.2)) (b := (68, [some (.ref 0), some (.int one), some (.int li), some (.int pu)], [], q4.2)) rfl rfl
   (d_step (t := (77, [some (.ref 0), some (.int one), some (.int li), some (.int pu)], [(.int one), (.int li), (.ref 22)], q4.2)) 4 rfl
   (d_callV (o := (m_J_addHelp d li one q4.2)) rfl rfl (fun q5 =>
   d_step (t := (86, [some (.ref 0), some (.int one), some (.int li), some (.int pu)], [(.int one), (.int pu), (.ref 22)], q5)) 4 rfl
   (d_callV (o := (m_J_addHelp d pu one q5)) rfl rfl (fun q6 =>
   d_step (t := (92, [some (.ref 0), some (.int one), some (.int li), some (.int pu)], [(.int 1), (.int one), (.ref 0)], q6)) 3 rfl
   (d_callI (o := (m_G_go d one 1 q6)) rfl rfl (fun q7 =>
   d_ret (k := 0) rfl rfl)))))))
   (d_step (t := (70, [some (.ref 0), some (.int one), some (.int li), some (.int pu)], [(.int (-5))], q4.2)) 1 rfl
   (d_ret (k := 0) rfl rfl)))))))))))))))
noncomputable def m_G_down (d : Nat) (one : Int32) (ca : Int32) (s : qMem) : Option (Int32 × qMem) := qI (qCall qMT d 82 [.ref 0, .int one, .int ca] s)
set_option maxRecDepth 20000 in
theorem e_G_down (d : Nat) (one : Int32) (ca : Int32) (s : qMem) : m_G_down (d + 1) one ca s = ((m_T_isOne d 1 one s).bind (fun q1 => (if q1.1 = 0 then some ((-2), q1.2) else ((m_G_mayBeAsked d one ca q1.2).bind (fun q2 => (if q2.1 = 0 then some ((-2), q2.2) else ((m_T_sinksBy d 1 one ca 23 q2.2).bind (fun q3 => (if q3.1 = 0 then some ((-4), q3.2) else (if ((q3.2).1 22 1) < 9999 then ((m_J_addHelp d ca one q3.2).bind (fun q4 => ((m_G_go d one (-1) q4).bind (fun q5 => some (q5.1, q5.2))))) else some ((-5), q3.2))))))))))) := d_step (t := (5, [some (.ref 0), some (.int one), some (.int ca)], [(.int one), (.ref 1)], s)) 3 rfl
   (d_callI (o := (m_T_isOne d 1 one s)) rfl rfl (fun q1 =>
   d_if (a := (20, [some (.ref 0), some (.int one), some (.int ca)], [], q1.2)) (b := (11, [some (.ref 0), some (.int one), some (.int ca)], [], q1.2)) rfl rfl
   (d_step (t := (22, [some (.ref 0), some (.int one), some (.int ca)], [(.int (-2))], q1.2)) 1 rfl
   (d_ret (k := 0) rfl rfl))
   (d_step (t := (14, [some (.ref 0), some (.int one), some (.int ca)], [(.int ca), (.int one), (.ref 0)], q1.2)) 3 rfl
   (d_callI (o := (m_G_mayBeAsked d one ca q1.2)) rfl rfl (fun q2 =>
   d_if (a := (20, [some (.ref 0), some (.int one), some (.int ca)], [], q2.2)) (b := (23, [some (.ref 0), some (.int one), some (.int ca)], [], q2.2)) rfl rfl
   (d_step (t := (22, [some (.ref 0), some (.int one), some (.int ca)], [(.int (-2))], q2.2)) 1 rfl
   (d_ret (k := 0) rfl rfl))
   (d_step (t := (36, [some (.ref 0), some (.int one), some (.int ca)], [(.ref 23), (.int ca), (.int one), (.ref 1)], q2.2)) 7 rfl
   (d_callI (o := (m_T_sinksBy d 1 one ca 23 q2.2)) rfl rfl (fun q3 =>
   d_if (a := (42, [some (.ref 0), some (.int one), some (.int ca)], [], q3.2)) (b := (45, [some (.ref 0), some (.int one), some (.int ca)], [], q3.2)) rfl rfl
   (d_step (t := (44, [some (.ref 0), some (.int one), some (.int ca)], [(.int (-4))], q3.2)) 1 rfl
   (d_ret (k := 0) rfl rfl))
   (d_step (t := (55, [some (.ref 0), some (.int one), some (.int ca)], [(.int 9999), (.int ((q3.2).1 22 1))], q3.2)) 4 rfl
   (d_if (a := (61, [some (.ref 0), some (.int one), some (.int ca)], [], q3.2)) (b := (58, [some (.ref 0), some (.int one), some (.int ca)], [], q3.2)) rfl rfl
   (d_step (t := (67, [some (.ref 0), some (.int one), some (.int ca)], [(.int one), (.int ca), (.ref 22)], q3.2)) 4 rfl
   (d_callV (o := (m_J_addHelp d ca one q3.2)) rfl rfl (fun q4 =>
   d_step (t := (73, [some (.ref 0), some (.int one), some (.int ca)], [(.int (-1)), (.int one), (.ref 0)], q4)) 3 rfl
   (d_callI (o := (m_G_go d one (-1) q4)) rfl rfl (fun q5 =>
   d_ret (k := 0) rfl rfl)))))
   (d_step (t := (60, [some (.ref 0), some (.int one), some (.int ca)], [(.int (-5))], q3.2)) 1 rfl
   (d_ret (k := 0) rfl rfl))))))))))))
noncomputable def m_G_helped (d : Nat) (one : Int32) (ot : Int32) (s : qMem) : Option (Int32 × qMem) := qI (qCall qMT d 83 [.ref 0, .int one, .int ot] s)
set_option maxRecDepth 20000 in
theorem e_G_helped (d : Nat) (one : Int32) (ot : Int32) (s : qMem) : m_G_helped (d + 1) one ot s = ((m_T_isOne d 1 one s).bind (fun q1 => (if q1.1 = 0 then some ((-2), q1.2) else ((m_T_isOne d 1 ot q1.2).bind (fun q2 => (if q2.1 = 0 then some ((-2), q2.2) else (if one = ot then some ((-2), q2.2) else ((m_J_helpBetween d one ot q2.2).bind (fun q3 => some (q3.1, q3.2)))))))))) := d_step (t := (5, [some (.ref 0), some (.int one), some (.int ot)], [(.int one), (.ref 1)], s)) 3 rfl
   (d_callI (o := (m_T_isOne d 1 one s)) rfl rfl (fun q1 =>
   d_if (a := (27, [some (.ref 0), some (.int one), some (.int ot)], [], q1.2)) (b := (11, [some (.ref 0), some (.int one), some (.int ot)], [], q1.2)) rfl rfl
   (d_step (t := (29, [some (.ref 0), some (.int one), some (.int ot)], [(.int (-2))], q1.2)) 1 rfl
   (d_ret (k := 0) rfl rfl))
   (d_step (t := (16, [some (.ref 0), some (.int one), some (.int ot)], [(.int ot), (.ref 1)], q1.2)) 3 rfl
   (d_callI (o := (m_T_isOne d 1 ot q1.2)) rfl rfl (fun q2 =>
   d_if (a := (27, [some (.ref 0), some (.int one), some (.int ot)], [], q2.2)) (b := (22, [some (.ref 0), some (.int one), some (.int ot)], [], q2.2)) rfl rfl
   (d_step (t := (29, [some (.ref 0), some (.int one), some (.int ot)], [(.int (-2))], q2.2)) 1 rfl
   (d_ret (k := 0) rfl rfl))
   (d_step (t := (24, [some (.ref 0), some (.int one), some (.int ot)], [(.int ot), (.int one)], q2.2)) 2 rfl
   (d_if (a := (27, [some (.ref 0), some (.int one), some (.int ot)], [], q2.2)) (b := (30, [some (.ref 0), some (.int one), some (.int ot)], [], q2.2)) rfl rfl
   (d_step (t := (29, [some (.ref 0), some (.int one), some (.int ot)], [(.int (-2))], q2.2)) 1 rfl
   (d_ret (k := 0) rfl rfl))
   (d_step (t := (36, [some (.ref 0), some (.int one), some (.int ot)], [(.int ot), (.int one), (.ref 22)], q2.2)) 4 rfl
   (d_callI (o := (m_J_helpBetween d one ot q2.2)) rfl rfl (fun q3 =>
   d_ret (k := 0) rfl rfl))))))))))
noncomputable def m_G_keep (d : Nat) (k : Int32) (s : qMem) : Option (Int32 × qMem) := qI (qCall qMT d 84 [.ref 0, .int k] s)
set_option maxRecDepth 20000 in
theorem e_G_keep (d : Nat) (k : Int32) (s : qMem) : m_G_keep (d + 1) k s = (if k < 0 then some ((-2), s) else (if 2 ≤ k then some ((-2), s) else (if k = 0 then (if k = 0 then ((m_J_copy d 34 22 s).bind (fun q1 => (if k = 0 then some (((q1).1 22 1), (qW q1 34 3 1)) else if k = 1 then some (((q1).1 22 1), (qW q1 37 3 1)) else none))) else if k = 1 then ((m_J_copy d 37 22 s).bind (fun q2 => (if k = 0 then some (((q2).1 22 1), (qW q2 34 3 1)) else if k = 1 then some (((q2).1 22 1), (qW q2 37 3 1)) else none))) else none) else if k = 1 then (if k = 0 then ((m_J_copy d 34 22 s).bind (fun q3 => (if k = 0 then some (((q3).1 22 1), (qW q3 34 3 1)) else if k = 1 then some (((q3).1 22 1), (qW q3 37 3 1)) else none))) else if k = 1 then ((m_J_copy d 37 22 s).bind (fun q4 => (if k = 0 then some (((q4).1 22 1), (qW q4 34 3 1)) else if k = 1 then some (((q4).1 22 1), (qW q4 37 3 1)) else none))) else none) else none))) := d_step (t := (1, [some (.ref 0), some (.int k)], [(.int k)], s)) 1 rfl
   (d_if (a := (18, [some (.ref 0), some (.int k)], [], s)) (b := (4, [some (.ref 0), some (.int k)], [], s)) rfl rfl
   (d_step (t := (20, [some (.ref 0), some (.int k)], [(.int (-2))], s)) 1 rfl
   (d_ret (k := 0) rfl rfl))
   (d_step (t := (6, [some (.ref 0), some (.int k)], [(.int 2), (.int k)], s)) 2 rfl
   (d_if (a := (18, [some (.ref 0), some (.int k)], [], s)) (b := (9, [some (.ref 0), some (.int k)], [], s)) rfl rfl
   (d_step (t := (20, [some (.ref 0), some (.int k)], [(.int (-2))], s)) 1 rfl
   (d_ret (k := 0) rfl rfl))
   (d_step (t := (14, [some (.ref 0), some (.int k)], [(.int k), (.ref 25)], s)) 3 rfl
   (d_if3 (a := (15, [some (.ref 0), some (.int k)], [(.ref 34)], s)) (b := (15, [some (.ref 0), some (.int k)], [(.ref 37)], s)) rfl rfl
   (d_step (t := (26, [some (.ref 0), some (.int k)], [(.int k), (.ref 25)], s)) 4 rfl
   (d_if3 (a := (27, [some (.ref 0), some (.int k)], [(.ref 34)], s)) (b := (27, [some (.ref 0), some (.int k)], [(.ref 37)], s)) rfl rfl
   (d_step (t := (31, [some (.ref 0), some (.int k)], [(.ref 22), (.ref 34)], s)) 2 rfl
   (d_callV (o := (m_J_copy d 34 22 s)) rfl rfl (fun q1 =>
   d_step (t := (39, [some (.ref 0), some (.int k)], [(.int k), (.ref 25)], q1)) 3 rfl
   (d_if3 (a := (40, [some (.ref 0), some (.int k)], [(.ref 34)], q1)) (b := (40, [some (.ref 0), some (.int k)], [(.ref 37)], q1)) rfl rfl
   (d_step (t := (51, [some (.ref 0), some (.int k)], [(.int ((q1).1 22 1))], (qW q1 34 3 1))) 5 rfl
   (d_ret (k := 0) rfl rfl))
   (d_step (t := (51, [some (.ref 0), some (.int k)], [(.int ((q1).1 22 1))], (qW q1 37 3 1))) 5 rfl
   (d_ret (k := 0) rfl rfl))))))
   (d_step (t := (31, [some (.ref 0), some (.int k)], [(.ref 22), (.ref 37)], s)) 2 rfl
   (d_callV (o := (m_J_copy d 37 22 s)) rfl rfl (fun q2 =>
   d_step (t := (39, [some (.ref 0), some (.int k)], [(.int k), (.ref 25)], q2)) 3 rfl
   (d_if3 (a := (40, [some (.ref 0), some (.int k)], [(.ref 34)], q2)) (b := (40, [some (.ref 0), some (.int k)], [(.ref 37)], q2)) rfl rfl
   (d_step (t := (51, [some (.ref 0), some (.int k)], [(.int ((q2).1 22 1))], (qW q2 34 3 1))) 5 rfl
   (d_ret (k := 0) rfl rfl))
   (d_step (t := (51, [some (.ref 0), some (.int k)], [(.int ((q2).1 22 1))], (qW q2 37 3 1))) 5 rfl
   (d_ret (k := 0) rfl rfl))))))))
   (d_step (t := (26, [some (.ref 0), some (.int k)], [(.int k), (.ref 25)], s)) 4 rfl
   (d_if3 (a := (27, [some (.ref 0), some (.int k)], [(.ref 34)], s)) (b := (27, [some (.ref 0), some (.int k)], [(.ref 37)], s)) rfl rfl
   (d_step (t := (31, [some (.ref 0), some (.int k)], [(.ref 22), (.ref 34)], s)) 2 rfl
   (d_callV (o := (m_J_copy d 34 22 s)) rfl rfl (fun q3 =>
   d_step (t := (39, [some (.ref 0), some (.int k)], [(.int k), (.ref 25)], q3)) 3 rfl
   (d_if3 (a := (40, [some (.ref 0), some (.int k)], [(.ref 34)], q3)) (b := (40, [some (.ref 0), some (.int k)], [(.ref 37)], q3)) rfl rfl
   (d_step (t := (51, [some (.ref 0), some (.int k)], [(.int ((q3).1 22 1))], (qW q3 34 3 1))) 5 rfl
   (d_ret (k := 0) rfl rfl))
   (d_step (t := (51, [some (.ref 0), some (.int k)], [(.int ((q3).1 22 1))], (qW q3 37 3 1))) 5 rfl
   (d_ret (k := 0) rfl rfl))))))
   (d_step (t := (31, [some (.ref 0), some (.int k)], [(.ref 22), (.ref 37)], s)) 2 rfl
   (d_callV (o := (m_J_copy d 37 22 s)) rfl rfl (fun q4 =>
   d_step (t := (39, [some (.ref 0), some (.int k)], [(.int k), (.ref 25)], q4)) 3 rfl
   (d_if3 (a := (40, [some (.ref 0), some (.int k)], [(.ref 34)], q4)) (b := (40, [some (.ref 0), some (.int k)], [(.ref 37)], q4)) rfl rfl
   (d_step (t := (51, [some (.ref 0), some (.int k)], [(.int ((q4).1 22 1))], (qW q4 34 3 1))) 5 rfl
   (d_ret (k := 0) rfl rfl))
   (d_step (t := (51, [some (.ref 0), some (.int k)], [(.int ((q4).1 22 1))], (qW q4 37 3 1))) 5 rfl
   (d_ret (k := 0) rfl rfl)))))))))))))
noncomputable def m_G_back (d : Nat) (k : Int32) (s : qMem) : Option (Int32 × qMem) := qI (qCall qMT d 85 [.ref 0, .int k] s)
set_option maxRecDepth 20000 in
theorem e_G_back (d : Nat) (k : Int32) (s : qMem) : m_G_back (d + 1) k s = (if k < 0 then some ((-2), s) else (if 2 ≤ k then some ((-2), s) else (if k = 0 then (if k = 0 then (if ((s).1 34 3) = 0 then some ((-4), s) else (if k = 0 then ((m_J_copy d 22 34 s).bind (fun q1 => some (((q1).1 22 1), (qW q1 0 6 0)))) else if k = 1 then ((m_J_copy d 22 37 s).bind (fun q2 => some (((q2).1 22 1), (qW q2 0 6 0)))) else none)) else if k = 1 then (if ((s).1 37 3) = 0 then some ((-4), s) else (if k = 0 then ((m_J_copy d 22 34 s).bind (fun q3 => some (((q3).1 22 1), (qW q3 0 6 0)))) else if k = 1 then ((m_J_copy d 22 37 s).bind (fun q4 => some (((q4).1 22 1), (qW q4 0 6 0)))) else none)) else none) else if k = 1 then (if k = 0 then (if ((s).1 34 3) = 0 then some ((-4), s) else (if k = 0 then ((m_J_copy d 22 34 s).bind (fun q5 => some (((q5).1 22 1), (qW q5 0 6 0)))) else if k = 1 then ((m_J_copy d 22 37 s).bind (fun q6 => some (((q6).1 22 1), (qW q6 0 6 0)))) else none)) else if k = 1 then (if ((s).1 37 3) = 0 then some ((-4), s) else (if k = 0 then ((m_J_copy d 22 34 s).bind (fun q7 => some (((q7).1 22 1), (qW q7 0 6 0)))) else if k = 1 then ((m_J_copy d 22 37 s).bind (fun q8 => some (((q8).1 22 1), (qW q8 0 6 0)))) else none)) else none) else none))) := d_step (t := (1, [some (.ref 0), some (.int k)], [(.int k)], s)) 1 rfl
   (d_if (a := (18, [some (.ref 0), some (.int k)], [], s)) (b := (4, [some (.ref 0), some (.int k)], [], s)) rfl rfl
   (d_step (t := (20, [some (.ref 0), some (.int k)], [(.int (-2))], s)) 1 rfl
   (d_ret (k := 0) rfl rfl))
   (d_step (t := (6, [some (.ref 0), some (.int k)], [(.int 2), (.int k)], s)) 2 rfl
   (d_if (a := (18, [some (.ref 0), some (.int k)], [], s)) (b := (9, [some (.ref 0), some (.int k)], [], s)) rfl rfl
   (d_step (t := (20, [some (.ref 0), some (.int k)], [(.int (-2))], s)) 1 rfl
   (d_ret (k := 0) rfl rfl))
   (d_step (t := (14, [some (.ref 0), some (.int k)], [(.int k), (.ref 25)], s)) 3 rfl
   (d_if3 (a := (15, [some (.ref 0), some (.int k)], [(.ref 34)], s)) (b := (15, [some (.ref 0), some (.int k)], [(.ref 37)], s)) rfl rfl
   (d_step (t := (26, [some (.ref 0), some (.int k)], [(.int k), (.ref 25)], s)) 4 rfl
   (d_if3 (a := (27, [some (.ref 0), some (.int k)], [(.ref 34)], s)) (b := (27, [some (.ref 0), some (.int k)], [(.ref 37)], s)) rfl rfl
   (d_step (t := (30, [some (.ref 0), some (.int k)], [(.int ((s).1 34 3))], s)) 1 rfl
   (d_if (a := (33, [some (.ref 0), some (.int k)], [], s)) (b := (36, [some (.ref 0), some (.int k)], [], s)) rfl rfl
   (d_step (t := (35, [some (.ref 0), some (.int k)], [(.int (-4))], s)) 1 rfl
   (d_ret (k := 0) rfl rfl))
   (d_step (t := (45, [some (.ref 0), some (.int k)], [(.int k), (.ref 25), (.ref 22)], s)) 5 rfl
   (d_if3 (a := (46, [some (.ref 0), some (.int k)], [(.ref 34), (.ref 22)], s)) (b := (46, [some (.ref 0), some (.int k)], [(.ref 37), (.ref 22)], s)) rfl rfl
   (d_callV (o := (m_J_copy d 22 34 s)) rfl rfl (fun q1 =>
   d_step (t := (61, [some (.ref 0), some (.int k)], [(.int ((q1).1 22 1))], (qW q1 0 6 0))) 6 rfl
   (d_ret (k := 0) rfl rfl)))
   (d_callV (o := (m_J_copy d 22 37 s)) rfl rfl (fun q2 =>
   d_step (t := (61, [some (.ref 0), some (.int k)], [(.int ((q2).1 22 1))], (qW q2 0 6 0))) 6 rfl
   (d_ret (k := 0) rfl rfl)))))))
   (d_step (t := (30, [some (.ref 0), some (.int k)], [(.int ((s).1 37 3))], s)) 1 rfl
   (d_if (a := (33, [some (.ref 0), some (.int k)], [], s)) (b := (36, [some (.ref 0), some (.int k)], [], s)) rfl rfl
   (d_step (t := (35, [some (.ref 0), some (.int k)], [(.int (-4))], s)) 1 rfl
   (d_ret (k := 0) rfl rfl))
   (d_step (t := (45, [some (.ref 0), some (.int k)], [(.int k), (.ref 25), (.ref 22)], s)) 5 rfl
   (d_if3 (a := (46, [some (.ref 0), some (.int k)], [(.ref 34), (.ref 22)], s)) (b := (46, [some (.ref 0), some (.int k)], [(.ref 37), (.ref 22)], s)) rfl rfl
   (d_callV (o := (m_J_copy d 22 34 s)) rfl rfl (fun q3 =>
   d_step (t := (61, [some (.ref 0), some (.int k)], [(.int ((q3).1 22 1))], (qW q3 0 6 0))) 6 rfl
   (d_ret (k := 0) rfl rfl)))
   (d_callV (o := (m_J_copy d 22 37 s)) rfl rfl (fun q4 =>
   d_step (t := (61, [some (.ref 0), some (.int k)], [(.int ((q4).1 22 1))], (qW q4 0 6 0))) 6 rfl
   (d_ret (k := 0) rfl rfl)))))))))
   (d_step (t := (26, [some (.ref 0), some (.int k)], [(.int k), (.ref 25)], s)) 4 rfl
   (d_if3 (a := (27, [some (.ref 0), some (.int k)], [(.ref 34)], s)) (b := (27, [some (.ref 0), some (.int k)], [(.ref 37)], s)) rfl rfl
   (d_step (t := (30, [some (.ref 0), some (.int k)], [(.int ((s).1 34 3))], s)) 1 rfl
   (d_if (a := (33, [some (.ref 0), some (.int k)], [], s)) (b := (36, [some (.ref 0), some (.int k)], [], s)) rfl rfl
   (d_step (t := (35, [some (.ref 0), some (.int k)], [(.int (-4))], s)) 1 rfl
   (d_ret (k := 0) rfl rfl))
   (d_step (t := (45, [some (.ref 0), some (.int k)], [(.int k), (.ref 25), (.ref 22)], s)) 5 rfl
   (d_if3 (a := (46, [some (.ref 0), some (.int k)], [(.ref 34), (.ref 22)], s)) (b := (46, [some (.ref 0), some (.int k)], [(.ref 37), (.ref 22)], s)) rfl rfl
   (d_callV (o := (m_J_copy d 22 34 s)) rfl rfl (fun q5 =>
   d_step (t := (61, [some (.ref 0), some (.int k)], [(.int ((q5).1 22 1))], (qW q5 0 6 0))) 6 rfl
   (d_ret (k := 0) rfl rfl)))
   (d_callV (o := (m_J_copy d 22 37 s)) rfl rfl (fun q6 =>
   d_step (t := (61, [some (.ref 0), some (.int k)], [(.int ((q6).1 22 1))], (qW q6 0 6 0))) 6 rfl
   (d_ret (k := 0) rfl rfl)))))))
   (d_step (t := (30, [some (.ref 0), some (.int k)], [(.int ((s).1 37 3))], s)) 1 rfl
   (d_if (a := (33, [some (.ref 0), some (.int k)], [], s)) (b := (36, [some (.ref 0), some (.int k)], [], s)) rfl rfl
   (d_step (t := (35, [some (.ref 0), some (.int k)], [(.int (-4))], s)) 1 rfl
   (d_ret (k := 0) rfl rfl))
   (d_step (t := (45, [some (.ref 0), some (.int k)], [(.int k), (.ref 25), (.ref 22)], s)) 5 rfl
   (d_if3 (a := (46, [some (.ref 0), some (.int k)], [(.ref 34), (.ref 22)], s)) (b := (46, [some (.ref 0), some (.int k)], [(.ref 37), (.ref 22)], s)) rfl rfl
   (d_callV (o := (m_J_copy d 22 34 s)) rfl rfl (fun q7 =>
   d_step (t := (61, [some (.ref 0), some (.int k)], [(.int ((q7).1 22 1))], (qW q7 0 6 0))) 6 rfl
   (d_ret (k := 0) rfl rfl)))
   (d_callV (o := (m_J_copy d 22 37 s)) rfl rfl (fun q8 =>
   d_step (t := (61, [some (.ref 0), some (.int k)], [(.int ((q8).1 22 1))], (qW q8 0 6 0))) 6 rfl
   (d_ret (k := 0) rfl rfl))))))))))))))
noncomputable def m_G_help (d : Nat) (one : Int32) (w : Int32) (s : qMem) : Option (Int32 × qMem) := qI (qCall qMT d 86 [.ref 0, .int one, .int w] s)
set_option maxRecDepth 20000 in
theorem e_G_help (d : Nat) (one : Int32) (w : Int32) (s : qMem) : m_G_help (d + 1) one w s = ((m_T_isOne d 1 one s).bind (fun q1 => (if q1.1 = 0 then some ((-2), q1.2) else (if w < 0 then some ((-3), q1.2) else (if w ≤ 1 then ((m_T_firstHelp d 1 one 23 q1.2).bind (fun q2 => (if q2.1 = (-1) then some ((-4), q2.2) else (if w = 0 then ((m_T_lifterOf d q2.1 q2.2).bind (fun q3 => some (q3.1, q3.2))) else ((m_T_pullerOf d q2.1 q2.2).bind (fun q4 => some (q4.1, q4.2))))))) else some ((-3), q1.2)))))) := d_step (t := (5, [some (.ref 0), some (.int one), some (.int w), none], [(.int one), (.ref 1)], s)) 3 rfl
   (d_callI (o := (m_T_isOne d 1 one s)) rfl rfl (fun q1 =>
   d_if (a := (11, [some (.ref 0), some (.int one), some (.int w), none], [], q1.2)) (b := (14, [some (.ref 0), some (.int one), some (.int w), none], [], q1.2)) rfl rfl
   (d_step (t := (13, [some (.ref 0), some (.int one), some (.int w), none], [(.int (-2))], q1.2)) 1 rfl
   (d_ret (k := 0) rfl rfl))
   (d_step (t := (15, [some (.ref 0), some (.int one), some (.int w), none], [(.int w)], q1.2)) 1 rfl
   (d_if (a := (23, [some (.ref 0), some (.int one), some (.int w), none], [], q1.2)) (b := (18, [some (.ref 0), some (.int one), some (.int w), none], [], q1.2)) rfl rfl
   (d_step (t := (25, [some (.ref 0), some (.int one), some (.int w), none], [(.int (-3))], q1.2)) 1 rfl
   (d_ret (k := 0) rfl rfl))
   (d_step (t := (20, [some (.ref 0), some (.int one), some (.int w), none], [(.int 1), (.int w)], q1.2)) 2 rfl
   (d_if (a := (26, [some (.ref 0), some (.int one), some (.int w), none], [], q1.2)) (b := (23, [some (.ref 0), some (.int one), some (.int w), none], [], q1.2)) rfl rfl
   (d_step (t := (38, [some (.ref 0), some (.int one), some (.int w), none], [(.ref 23), (.int one), (.ref 1)], q1.2)) 6 rfl
   (d_callI (o := (m_T_firstHelp d 1 one 23 q1.2)) rfl rfl (fun q2 =>
   d_step (t := (44, [some (.ref 0), some (.int one), some (.int w), some (.int q2.1)], [(.int (-1)), (.int q2.1)], q2.2)) 3 rfl
   (d_if (a := (47, [some (.ref 0), some (.int one), some (.int w), some (.int q2.1)], [], q2.2)) (b := (50, [some (.ref 0), some (.int one), some (.int w), some (.int q2.1)], [], q2.2)) rfl rfl
   (d_step (t := (49, [some (.ref 0), some (.int one), some (.int w), some (.int q2.1)], [(.int (-4))], q2.2)) 1 rfl
   (d_ret (k := 0) rfl rfl))
   (d_step (t := (51, [some (.ref 0), some (.int one), some (.int w), some (.int q2.1)], [(.int w)], q2.2)) 1 rfl
   (d_if (a := (54, [some (.ref 0), some (.int one), some (.int w), some (.int q2.1)], [], q2.2)) (b := (61, [some (.ref 0), some (.int one), some (.int w), some (.int q2.1)], [], q2.2)) rfl rfl
   (d_step (t := (55, [some (.ref 0), some (.int one), some (.int w), some (.int q2.1)], [(.int q2.1)], q2.2)) 1 rfl
   (d_callI (o := (m_T_lifterOf d q2.1 q2.2)) rfl rfl (fun q3 =>
   d_step (t := (65, [some (.ref 0), some (.int one), some (.int w), some (.int q2.1)], [(.int q3.1)], q3.2)) 1 rfl
   (d_ret (k := 0) rfl rfl))))
   (d_step (t := (62, [some (.ref 0), some (.int one), some (.int w), some (.int q2.1)], [(.int q2.1)], q2.2)) 1 rfl
   (d_callI (o := (m_T_pullerOf d q2.1 q2.2)) rfl rfl (fun q4 =>
   d_ret (k := 0) rfl rfl)))))))))
   (d_step (t := (25, [some (.ref 0), some (.int one), some (.int w), none], [(.int (-3))], q1.2)) 1 rfl
   (d_ret (k := 0) rfl rfl))))))))
noncomputable def m_G_soonest (d : Nat)  (s : qMem) : Option (Int32 × qMem) := qI (qCall qMT d 87 [.ref 0] s)
set_option maxRecDepth 20000 in
theorem e_G_soonest (d : Nat)  (s : qMem) : m_G_soonest (d + 1) s = ((m_G_foresee d s).bind (fun q1 => ((m_S_fewest d q1).bind (fun q2 => some (q2.1, q2.2))))) := d_step (t := (1, [some (.ref 0)], [(.ref 0)], s)) 1 rfl
   (d_callV (o := (m_G_foresee d s)) rfl rfl (fun q1 =>
   d_step (t := (8, [some (.ref 0)], [(.ref 26)], q1)) 2 rfl
   (d_callI (o := (m_S_fewest d q1)) rfl rfl (fun q2 =>
   d_ret (k := 0) rfl rfl))))
noncomputable def m_G_way (d : Nat) (k : Int32) (w : Int32) (s : qMem) : Option (Int32 × qMem) := qI (qCall qMT d 88 [.ref 0, .int k, .int w] s)
set_option maxRecDepth 20000 in
theorem e_G_way (d : Nat) (k : Int32) (w : Int32) (s : qMem) : m_G_way (d + 1) k w s = (if k < 0 then some ((-3), s) else (if w < 0 then some ((-3), s) else (if w ≤ 1 then ((m_G_foresee d s).bind (fun q1 => ((m_S_fewest d q1).bind (fun q2 => (if k < q2.1 then (if w = 0 then ((m_S_mover d k q2.2).bind (fun q3 => some (q3.1, q3.2))) else ((m_S_rises d k q2.2).bind (fun q4 => some ((if q4.1 = 0 then 0 else 1 : Int32), q4.2)))) else some ((-1), q2.2)))))) else some ((-3), s)))) := d_step (t := (1, [some (.ref 0), some (.int k), some (.int w)], [(.int k)], s)) 1 rfl
   (d_if (a := (13, [some (.ref 0), some (.int k), some (.int w)], [], s)) (b := (4, [some (.ref 0), some (.int k), some (.int w)], [], s)) rfl rfl
   (d_step (t := (15, [some (.ref 0), some (.int k), some (.int w)], [(.int (-3))], s)) 1 rfl
   (d_ret (k := 0) rfl rfl))
   (d_step (t := (5, [some (.ref 0), some (.int k), some (.int w)], [(.int w)], s)) 1 rfl
   (d_if (a := (13, [some (.ref 0), some (.int k), some (.int w)], [], s)) (b := (8, [some (.ref 0), some (.int k), some (.int w)], [], s)) rfl rfl
   (d_step (t := (15, [some (.ref 0), some (.int k), some (.int w)], [(.int (-3))], s)) 1 rfl
   (d_ret (k := 0) rfl rfl))
   (d_step (t := (10, [some (.ref 0), some (.int k), some (.int w)], [(.int 1), (.int w)], s)) 2 rfl
   (d_if (a := (16, [some (.ref 0), some (.int k), some (.int w)], [], s)) (b := (13, [some (.ref 0), some (.int k), some (.int w)], [], s)) rfl rfl
   (d_step (t := (17, [some (.ref 0), some (.int k), some (.int w)], [(.ref 0)], s)) 1 rfl
   (d_callV (o := (m_G_foresee d s)) rfl rfl (fun q1 =>
   d_step (t := (25, [some (.ref 0), some (.int k), some (.int w)], [(.ref 26), (.int k)], q1)) 3 rfl
   (d_callI (o := (m_S_fewest d q1)) rfl rfl (fun q2 =>
   d_if (a := (33, [some (.ref 0), some (.int k), some (.int w)], [], q2.2)) (b := (31, [some (.ref 0), some (.int k), some (.int w)], [], q2.2)) rfl rfl
   (d_step (t := (34, [some (.ref 0), some (.int k), some (.int w)], [(.int w)], q2.2)) 1 rfl
   (d_if (a := (37, [some (.ref 0), some (.int k), some (.int w)], [], q2.2)) (b := (48, [some (.ref 0), some (.int k), some (.int w)], [], q2.2)) rfl rfl
   (d_step (t := (42, [some (.ref 0), some (.int k), some (.int w)], [(.int k), (.ref 26)], q2.2)) 3 rfl
   (d_callI (o := (m_S_mover d k q2.2)) rfl rfl (fun q3 =>
   d_step (t := (64, [some (.ref 0), some (.int k), some (.int w)], [(.int q3.1)], q3.2)) 1 rfl
   (d_ret (k := 0) rfl rfl))))
   (d_step (t := (53, [some (.ref 0), some (.int k), some (.int w)], [(.int k), (.ref 26)], q2.2)) 3 rfl
   (d_callI (o := (m_S_rises d k q2.2)) rfl rfl (fun q4 =>
   d_mrg (a := (63, [some (.ref 0), some (.int k), some (.int w)], [], q4.2)) (b := (59, [some (.ref 0), some (.int k), some (.int w)], [], q4.2)) (v1 := 0) (v2 := 1) (z := fun v9 => (64, [some (.ref 0), some (.int k), some (.int w)], [(.int v9)], q4.2)) 1 2 rfl rfl rfl rfl
   (d_ret (k := 0) rfl rfl))))))
   (d_step (t := (32, [some (.ref 0), some (.int k), some (.int w)], [(.int (-1))], q2.2)) 1 rfl
   (d_ret (k := 0) rfl rfl)))))))
   (d_step (t := (15, [some (.ref 0), some (.int k), some (.int w)], [(.int (-3))], s)) 1 rfl
   (d_ret (k := 0) rfl rfl)))))))
noncomputable def m_G_lasts (d : Nat)  (s : qMem) : Option (Int32 × qMem) := qI (qCall qMT d 89 [.ref 0] s)
set_option maxRecDepth 20000 in
theorem e_G_lasts (d : Nat)  (s : qMem) : m_G_lasts (d + 1) s = ((m_G_foresee d s).bind (fun q1 => ((m_S_lastMovers d q1).bind (fun q2 => some (q2.1, q2.2))))) := d_step (t := (1, [some (.ref 0)], [(.ref 0)], s)) 1 rfl
   (d_callV (o := (m_G_foresee d s)) rfl rfl (fun q1 =>
   d_step (t := (12, [some (.ref 0)], [(.ref 1), (.ref 26)], q1)) 4 rfl
   (d_callI (o := (m_S_lastMovers d q1)) rfl rfl (fun q2 =>
   d_ret (k := 0) rfl rfl))))
noncomputable def m_G_most (d : Nat) (w : Int32) (s : qMem) : Option (Int32 × qMem) := qI (qCall qMT d 90 [.ref 0, .int w] s)
set_option maxRecDepth 20000 in
theorem e_G_most (d : Nat) (w : Int32) (s : qMem) : m_G_most (d + 1) w s = (if w < 0 then some ((-3), s) else (if w ≤ 1 then ((m_G_foresee d s).bind (fun q1 => ((m_S_fullestTop d q1).bind (fun q2 => (if w = 0 then ((m_bitCount d q2.1 q2.2).bind (fun q3 => some (q3.1, q3.2))) else some (q2.1, q2.2)))))) else some ((-3), s))) := d_step (t := (1, [some (.ref 0), some (.int w), none], [(.int w)], s)) 1 rfl
   (d_if (a := (9, [some (.ref 0), some (.int w), none], [], s)) (b := (4, [some (.ref 0), some (.int w), none], [], s)) rfl rfl
   (d_step (t := (11, [some (.ref 0), some (.int w), none], [(.int (-3))], s)) 1 rfl
   (d_ret (k := 0) rfl rfl))
   (d_step (t := (6, [some (.ref 0), some (.int w), none], [(.int 1), (.int w)], s)) 2 rfl
   (d_if (a := (12, [some (.ref 0), some (.int w), none], [], s)) (b := (9, [some (.ref 0), some (.int w), none], [], s)) rfl rfl
   (d_step (t := (13, [some (.ref 0), some (.int w), none], [(.ref 0)], s)) 1 rfl
   (d_callV (o := (m_G_foresee d s)) rfl rfl (fun q1 =>
   d_step (t := (24, [some (.ref 0), some (.int w), none], [(.ref 1), (.ref 26)], q1)) 4 rfl
   (d_callI (o := (m_S_fullestTop d q1)) rfl rfl (fun q2 =>
   d_step (t := (29, [some (.ref 0), some (.int w), some (.int q2.1)], [(.int w)], q2.2)) 2 rfl
   (d_if (a := (32, [some (.ref 0), some (.int w), some (.int q2.1)], [], q2.2)) (b := (39, [some (.ref 0), some (.int w), some (.int q2.1)], [], q2.2)) rfl rfl
   (d_step (t := (33, [some (.ref 0), some (.int w), some (.int q2.1)], [(.int q2.1)], q2.2)) 1 rfl
   (d_callI (o := (m_bitCount d q2.1 q2.2)) rfl rfl (fun q3 =>
   d_step (t := (40, [some (.ref 0), some (.int w), some (.int q2.1)], [(.int q3.1)], q3.2)) 1 rfl
   (d_ret (k := 0) rfl rfl))))
   (d_step (t := (40, [some (.ref 0), some (.int w), some (.int q2.1)], [(.int q2.1)], q2.2)) 1 rfl
   (d_ret (k := 0) rfl rfl))))))))
   (d_step (t := (11, [some (.ref 0), some (.int w), none], [(.int (-3))], s)) 1 rfl
   (d_ret (k := 0) rfl rfl)))))
noncomputable def m_G_soon (d : Nat) (one : Int32) (s : qMem) : Option (Int32 × qMem) := qI (qCall qMT d 91 [.ref 0, .int one] s)
set_option maxRecDepth 20000 in
theorem e_G_soon (d : Nat) (one : Int32) (s : qMem) : m_G_soon (d + 1) one s = ((m_T_isOne d 1 one s).bind (fun q1 => (if q1.1 = 0 then some ((-2), q1.2) else ((m_G_foresee d q1.2).bind (fun q2 => ((m_S_fewestFor d one ((q2).1 1 0) q2).bind (fun q3 => some (q3.1, q3.2)))))))) := d_step (t := (5, [some (.ref 0), some (.int one)], [(.int one), (.ref 1)], s)) 3 rfl
   (d_callI (o := (m_T_isOne d 1 one s)) rfl rfl (fun q1 =>
   d_if (a := (11, [some (.ref 0), some (.int one)], [], q1.2)) (b := (14, [some (.ref 0), some (.int one)], [], q1.2)) rfl rfl
   (d_step (t := (13, [some (.ref 0), some (.int one)], [(.int (-2))], q1.2)) 1 rfl
   (d_ret (k := 0) rfl rfl))
   (d_step (t := (15, [some (.ref 0), some (.int one)], [(.ref 0)], q1.2)) 1 rfl
   (d_callV (o := (m_G_foresee d q1.2)) rfl rfl (fun q2 =>
   d_step (t := (30, [some (.ref 0), some (.int one)], [(.int ((q2).1 1 0)), (.int one), (.ref 26)], q2)) 6 rfl
   (d_callI (o := (m_S_fewestFor d one ((q2).1 1 0) q2)) rfl rfl (fun q3 =>
   d_ret (k := 0) rfl rfl)))))))
noncomputable def m_G_many (d : Nat) (n : Int32) (s : qMem) : Option (Int32 × qMem) := qI (qCall qMT d 92 [.ref 0, .int n] s)
set_option maxRecDepth 20000 in
theorem e_G_many (d : Nat) (n : Int32) (s : qMem) : m_G_many (d + 1) n s = (if 0 ≤ n then ((m_G_foresee d s).bind (fun q1 => ((m_S_positionsBehind d n q1).bind (fun q2 => some (q2.1, q2.2))))) else some ((-3), s)) := d_step (t := (1, [some (.ref 0), some (.int n)], [(.int n)], s)) 1 rfl
   (d_if (a := (7, [some (.ref 0), some (.int n)], [], s)) (b := (4, [some (.ref 0), some (.int n)], [], s)) rfl rfl
   (d_step (t := (8, [some (.ref 0), some (.int n)], [(.ref 0)], s)) 1 rfl
   (d_callV (o := (m_G_foresee d s)) rfl rfl (fun q1 =>
   d_step (t := (16, [some (.ref 0), some (.int n)], [(.int n), (.ref 26)], q1)) 3 rfl
   (d_callI (o := (m_S_positionsBehind d n q1)) rfl rfl (fun q2 =>
   d_ret (k := 0) rfl rfl)))))
   (d_step (t := (6, [some (.ref 0), some (.int n)], [(.int (-3))], s)) 1 rfl
   (d_ret (k := 0) rfl rfl)))
noncomputable def m_G_roped (d : Nat) (w : Int32) (s : qMem) : Option (Int32 × qMem) := qI (qCall qMT d 93 [.ref 0, .int w] s)
noncomputable def l_G_roped_1 (d : Nat)  (x1 : Int32) (x2 : Int32) (x3 : Int32) (x4 : Int32) (s : qMem) : Option (Int32 × qMem) := qI (qK qMT d 93 (29, [some (.ref 0), some (.int x1), some (.int x2), some (.int x3), some (.int x4), none], [], s))
set_option maxRecDepth 20000 in
theorem e_G_roped (d : Nat) (w : Int32) (s : qMem) : m_G_roped (d + 1) w s = (if w < 0 then some ((-3), s) else (if w ≤ 1 then ((m_G_foresee d s).bind (fun q1 => ((m_S_fewest d q1).bind (fun q2 => (l_G_roped_1 d w q2.1 (-1) 0 q2.2))))) else some ((-3), s))) := d_step (t := (1, [some (.ref 0), some (.int w), none, none, none, none], [(.int w)], s)) 1 rfl
   (d_if (a := (9, [some (.ref 0), some (.int w), none, none, none, none], [], s)) (b := (4, [some (.ref 0), some (.int w), none, none, none, none], [], s)) rfl rfl
   (d_step (t := (11, [some (.ref 0), some (.int w), none, none, none, none], [(.int (-3))], s)) 1 rfl
   (d_ret (k := 0) rfl rfl))
   (d_step (t := (6, [some (.ref 0), some (.int w), none, none, none, none], [(.int 1), (.int w)], s)) 2 rfl
   (d_if (a := (12, [some (.ref 0), some (.int w), none, none, none, none], [], s)) (b := (9, [some (.ref 0), some (.int w), none, none, none, none], [], s)) rfl rfl
   (d_step (t := (13, [some (.ref 0), some (.int w), none, none, none, none], [(.ref 0)], s)) 1 rfl
   (d_callV (o := (m_G_foresee d s)) rfl rfl (fun q1 =>
   d_step (t := (20, [some (.ref 0), some (.int w), none, none, none, none], [(.ref 26)], q1)) 2 rfl
   (d_callI (o := (m_S_fewest d q1)) rfl rfl (fun q2 =>
   d_step (t := (29, [some (.ref 0), some (.int w), some (.int q2.1), some (.int (-1)), some (.int 0), none], [], q2.2)) 5 rfl
   (d_lab (x2 := (29, [some (.ref 0), some (.int w), some (.int q2.1), some (.int (-1)), some (.int 0), none], [], q2.2)) rfl rfl rfl))))))
   (d_step (t := (11, [some (.ref 0), some (.int w), none, none, none, none], [(.int (-3))], s)) 1 rfl
   (d_ret (k := 0) rfl rfl)))))
set_option maxRecDepth 20000 in
theorem el_G_roped_1 (d : Nat)  (x1 : Int32) (x2 : Int32) (x3 : Int32) (x4 : Int32) (s : qMem) : l_G_roped_1 d x1 x2 x3 x4 s = (if ((s).1 1 0) ≤ x4 then (if x3 = (-1) then some ((-1), s) else some ((if x1 = 0 then x3 else x2 : Int32), s)) else (if 4 ≤ x4 then (if x3 = (-1) then some ((-1), s) else some ((if x1 = 0 then x3 else x2 : Int32), s)) else (if qIn x4 4 then (if ((s).1 3 (x4).toNatClampNeg) = 0 then ((m_T_copy d 10 1 s).bind (fun q1 => (if qIn x4 4 ∧ ((1 : Int32) = 0 ∨ (1 : Int32) = 1) then ((m_S_look d 10 23 (qW (qW q1 12 (x4).toNatClampNeg 1) 0 6 0)).bind (fun q2 => ((m_S_fewest d q2).bind (fun q3 => (if q3.1 = (-1) then (l_G_roped_1 d x1 x2 x3 (x4 + 1) q3.2) else (if x2 = (-1) then (l_G_roped_1 d x1 q3.1 x4 (x4 + 1) q3.2) else (if x2 ≤ q3.1 then (l_G_roped_1 d x1 x2 x3 (x4 + 1) q3.2) else (l_G_roped_1 d x1 q3.1 x4 (x4 + 1) q3.2)))))))) else none))) else (l_G_roped_1 d x1 x2 x3 (x4 + 1) s)) else none))) := d_step (t := (38, [some (.ref 0), some (.int x1), some (.int x2), some (.int x3), some (.int x4), none], [(.int ((s).1 1 0)), (.int x4)], s)) 4 rfl
   (d_if (a := (143, [some (.ref 0), some (.int x1), some (.int x2), some (.int x3), some (.int x4), none], [], s)) (b := (41, [some (.ref 0), some (.int x1), some (.int x2), some (.int x3), some (.int x4), none], [], s)) rfl rfl
   (d_step (t := (145, [some (.ref 0), some (.int x1), some (.int x2), some (.int x3), some (.int x4), none], [(.int (-1)), (.int x3)], s)) 2 rfl
   (d_if (a := (148, [some (.ref 0), some (.int x1), some (.int x2), some (.int x3), some (.int x4), none], [], s)) (b := (150, [some (.ref 0), some (.int x1), some (.int x2), some (.int x3), some (.int x4), none], [], s)) rfl rfl
   (d_step (t := (149, [some (.ref 0), some (.int x1), some (.int x2), some (.int x3), some (.int x4), none], [(.int (-1))], s)) 1 rfl
   (d_ret (k := 0) rfl rfl))
   (d_step (t := (151, [some (.ref 0), some (.int x1), some (.int x2), some (.int x3), some (.int x4), none], [(.int x1)], s)) 1 rfl
   (d_mrg (a := (154, [some (.ref 0), some (.int x1), some (.int x2), some (.int x3), some (.int x4), none], [], s)) (b := (158, [some (.ref 0), some (.int x1), some (.int x2), some (.int x3), some (.int x4), none], [], s)) (v1 := x3) (v2 := x2) (z := fun v9 => (159, [some (.ref 0), some (.int x1), some (.int x2), some (.int x3), some (.int x4), none], [(.int v9)], s)) 2 1 rfl rfl rfl rfl
   (d_ret (k := 0) rfl rfl)))))
   (d_step (t := (44, [some (.ref 0), some (.int x1), some (.int x2), some (.int x3), some (.int x4), none], [(.int 4), (.int x4)], s)) 2 rfl
   (d_if (a := (143, [some (.ref 0), some (.int x1), some (.int x2), some (.int x3), some (.int x4), none], [], s)) (b := (47, [some (.ref 0), some (.int x1), some (.int x2), some (.int x3), some (.int x4), none], [], s)) rfl rfl
   (d_step (t := (145, [some (.ref 0), some (.int x1), some (.int x2), some (.int x3), some (.int x4), none], [(.int (-1)), (.int x3)], s)) 2 rfl
   (d_if (a := (148, [some (.ref 0), some (.int x1), some (.int x2), some (.int x3), some (.int x4), none], [], s)) (b := (150, [some (.ref 0), some (.int x1), some (.int x2), some (.int x3), some (.int x4), none], [], s)) rfl rfl
   (d_step (t := (149, [some (.ref 0), some (.int x1), some (.int x2), some (.int x3), some (.int x4), none], [(.int (-1))], s)) 1 rfl
   (d_ret (k := 0) rfl rfl))
   (d_step (t := (151, [some (.ref 0), some (.int x1), some (.int x2), some (.int x3), some (.int x4), none], [(.int x1)], s)) 1 rfl
   (d_mrg (a := (154, [some (.ref 0), some (.int x1), some (.int x2), some (.int x3), some (.int x4), none], [], s)) (b := (158, [some (.ref 0), some (.int x1), some (.int x2), some (.int x3), some (.int x4), none], [], s)) (v1 := x3) (v2 := x2) (z := fun v9 => (159, [some (.ref 0), some (.int x1), some (.int x2), some (.int x3), some (.int x4), none], [(.int v9)], s)) 2 1 rfl rfl rfl rfl
   (d_ret (k := 0) rfl rfl)))))
   (d_step (t := (56, [some (.ref 0), some (.int x1), some (.int x2), some (.int x3), some (.int x4), none], [(.int x4), (.ref 3)], s)) 4 rfl
   (d_chk (a := (57, [some (.ref 0), some (.int x1), some (.int x2), some (.int x3), some (.int x4), none], [(.int ((s).1 3 (x4).toNatClampNeg))], s)) rfl rfl
   (d_if (a := (60, [some (.ref 0), some (.int x1), some (.int x2), some (.int x3), some (.int x4), none], [], s)) (b := (137, [some (.ref 0), some (.int x1), some (.int x2), some (.int x3), some (.int x4), none], [], s)) rfl rfl
   (d_step (t := (68, [some (.ref 0), some (.int x1), some (.int x2), some (.int x3), some (.int x4), none], [(.ref 1), (.ref 10)], s)) 4 rfl
   (d_callV (o := (m_T_copy d 10 1 s)) rfl rfl (fun q1 =>
   d_step (t := (81, [some (.ref 0), some (.int x1), some (.int x2), some (.int x3), some (.int x4), none], [(.int 1), (.int x4), (.ref 12)], q1)) 5 rfl
   (d_chk (a := (82, [some (.ref 0), some (.int x1), some (.int x2), some (.int x3), some (.int x4), none], [], (qW q1 12 (x4).toNatClampNeg 1))) rfl rfl
   (d_step (t := (102, [some (.ref 0), some (.int x1), some (.int x2), some (.int x3), some (.int x4), none], [(.ref 23), (.ref 10), (.ref 26)], (qW (qW q1 12 (x4).toNatClampNeg 1) 0 6 0))) 10 rfl
   (d_callV (o := (m_S_look d 10 23 (qW (qW q1 12 (x4).toNatClampNeg 1) 0 6 0))) rfl rfl (fun q2 =>
   d_step (t := (109, [some (.ref 0), some (.int x1), some (.int x2), some (.int x3), some (.int x4), none], [(.ref 26)], q2)) 2 rfl
   (d_callI (o := (m_S_fewest d q2)) rfl rfl (fun q3 =>
   d_step (t := (117, [some (.ref 0), some (.int x1), some (.int x2), some (.int x3), some (.int x4), some (.int q3.1)], [(.int (-1)), (.int q3.1)], q3.2)) 3 rfl
   (d_if (a := (137, [some (.ref 0), some (.int x1), some (.int x2), some (.int x3), some (.int x4), some (.int q3.1)], [], q3.2)) (b := (120, [some (.ref 0), some (.int x1), some (.int x2), some (.int x3), some (.int x4), some (.int q3.1)], [], q3.2)) rfl rfl
   (d_step (t := (29, [some (.ref 0), some (.int x1), some (.int x2), some (.int x3), some (.int (x4 + 1)), some (.int q3.1)], [], q3.2)) 2 rfl
   (d_lab (x2 := (29, [some (.ref 0), some (.int x1), some (.int x2), some (.int x3), some (.int (x4 + 1)), none], [], q3.2)) rfl rfl rfl))
   (d_step (t := (122, [some (.ref 0), some (.int x1), some (.int x2), some (.int x3), some (.int x4), some (.int q3.1)], [(.int (-1)), (.int x2)], q3.2)) 2 rfl
   (d_if (a := (131, [some (.ref 0), some (.int x1), some (.int x2), some (.int x3), some (.int x4), some (.int q3.1)], [], q3.2)) (b := (125, [some (.ref 0), some (.int x1), some (.int x2), some (.int x3), some (.int x4), some (.int q3.1)], [], q3.2)) rfl rfl
   (d_step (t := (29, [some (.ref 0), some (.int x1), some (.int q3.1), some (.int x4), some (.int (x4 + 1)), some (.int q3.1)], [], q3.2)) 6 rfl
   (d_lab (x2 := (29, [some (.ref 0), some (.int x1), some (.int q3.1), some (.int x4), some (.int (x4 + 1)), none], [], q3.2)) rfl rfl rfl))
   (d_step (t := (128, [some (.ref 0), some (.int x1), some (.int x2), some (.int x3), some (.int x4), some (.int q3.1)], [(.int x2), (.int q3.1)], q3.2)) 2 rfl
   (d_if (a := (137, [some (.ref 0), some (.int x1), some (.int x2), some (.int x3), some (.int x4), some (.int q3.1)], [], q3.2)) (b := (131, [some (.ref 0), some (.int x1), some (.int x2), some (.int x3), some (.int x4), some (.int q3.1)], [], q3.2)) rfl rfl
   (d_step (t := (29, [some (.ref 0), some (.int x1), some (.int x2), some (.int x3), some (.int (x4 + 1)), some (.int q3.1)], [], q3.2)) 2 rfl
   (d_lab (x2 := (29, [some (.ref 0), some (.int x1), some (.int x2), some (.int x3), some (.int (x4 + 1)), none], [], q3.2)) rfl rfl rfl))
   (d_step (t := (29, [some (.ref 0), some (.int x1), some (.int q3.1), some (.int x4), some (.int (x4 + 1)), some (.int q3.1)], [], q3.2)) 6 rfl
   (d_lab (x2 := (29, [some (.ref 0), some (.int x1), some (.int q3.1), some (.int x4), some (.int (x4 + 1)), none], [], q3.2)) rfl rfl rfl))))))))))))))))
   (d_step (t := (29, [some (.ref 0), some (.int x1), some (.int x2), some (.int x3), some (.int (x4 + 1)), none], [], s)) 2 rfl
   (d_lab (x2 := (29, [some (.ref 0), some (.int x1), some (.int x2), some (.int x3), some (.int (x4 + 1)), none], [], s)) rfl rfl rfl))))))))
noncomputable def m_G_odds (d : Nat) (p : Int32) (pt : Int32) (s : qMem) : Option (Int32 × qMem) := qI (qCall qMT d 94 [.ref 0, .int p, .int pt] s)
noncomputable def l_G_odds_1 (d : Nat)  (x1 : Int32) (x2 : Int32) (x3 : Int32) (x4 : Int32) (x5 : Int32) (s : qMem) : Option (Int32 × qMem) := qI (qK qMT d 94 (30, [some (.ref 0), some (.int x1), some (.int x2), some (.int x3), some (.int x4), some (.int x5), none], [], s))
noncomputable def l_G_odds_2 (d : Nat)  (x1 : Int32) (x2 : Int32) (x3 : Int32) (x4 : Int32) (x5 : Int32) (s : qMem) : Option (Int32 × qMem) := qI (qK qMT d 94 (58, [some (.ref 0), some (.int x1), some (.int x2), some (.int x3), some (.int x4), some (.int x5), none], [], s))
set_option maxRecDepth 20000 in
theorem e_G_odds (d : Nat) (p : Int32) (pt : Int32) (s : qMem) : m_G_odds (d + 1) p pt s = (if p < 0 then some ((-3), s) else (if 10 < p then some ((-3), s) else (if pt < 0 then some ((-3), s) else (if pt ≤ 1 then (l_G_odds_1 d p pt 0 1 0 s) else some ((-3), s))))) := d_step (t := (1, [some (.ref 0), some (.int p), some (.int pt), none, none, none, none], [(.int p)], s)) 1 rfl
   (d_if (a := (19, [some (.ref 0), some (.int p), some (.int pt), none, none, none, none], [], s)) (b := (4, [some (.ref 0), some (.int p), some (.int pt), none, none, none, none], [], s)) rfl rfl
   (d_step (t := (21, [some (.ref 0), some (.int p), some (.int pt), none, none, none, none], [(.int (-3))], s)) 1 rfl
   (d_ret (k := 0) rfl rfl))
   (d_step (t := (7, [some (.ref 0), some (.int p), some (.int pt), none, none, none, none], [(.int 10), (.int p)], s)) 2 rfl
   (d_if (a := (19, [some (.ref 0), some (.int p), some (.int pt), none, none, none, none], [], s)) (b := (10, [some (.ref 0), some (.int p), some (.int pt), none, none, none, none], [], s)) rfl rfl
   (d_step (t := (21, [some (.ref 0), some (.int p), some (.int pt), none, none, none, none], [(.int (-3))], s)) 1 rfl
   (d_ret (k := 0) rfl rfl))
   (d_step (t := (11, [some (.ref 0), some (.int p), some (.int pt), none, none, none, none], [(.int pt)], s)) 1 rfl
   (d_if (a := (19, [some (.ref 0), some (.int p), some (.int pt), none, none, none, none], [], s)) (b := (14, [some (.ref 0), some (.int p), some (.int pt), none, none, none, none], [], s)) rfl rfl
   (d_step (t := (21, [some (.ref 0), some (.int p), some (.int pt), none, none, none, none], [(.int (-3))], s)) 1 rfl
   (d_ret (k := 0) rfl rfl))
   (d_step (t := (16, [some (.ref 0), some (.int p), some (.int pt), none, none, none, none], [(.int 1), (.int pt)], s)) 2 rfl
   (d_if (a := (22, [some (.ref 0), some (.int p), some (.int pt), none, none, none, none], [], s)) (b := (19, [some (.ref 0), some (.int p), some (.int pt), none, none, none, none], [], s)) rfl rfl
   (d_step (t := (30, [some (.ref 0), some (.int p), some (.int pt), some (.int 0), some (.int 1), some (.int 0), none], [], s)) 6 rfl
   (d_lab (x2 := (30, [some (.ref 0), some (.int p), some (.int pt), some (.int 0), some (.int 1), some (.int 0), none], [], s)) rfl rfl rfl))
   (d_step (t := (21, [some (.ref 0), some (.int p), some (.int pt), none, none, none, none], [(.int (-3))], s)) 1 rfl
   (d_ret (k := 0) rfl rfl)))))))))
set_option maxRecDepth 20000 in
theorem el_G_odds_1 (d : Nat)  (x1 : Int32) (x2 : Int32) (x3 : Int32) (x4 : Int32) (x5 : Int32) (s : qMem) : l_G_odds_1 d x1 x2 x3 x4 x5 s = (if ((s).1 1 1) ≤ x5 then (l_G_odds_2 d x1 x2 x3 x4 0 s) else (l_G_odds_1 d x1 x2 x3 (x4 * 10) (x5 + 1) s)) := d_step (t := (39, [some (.ref 0), some (.int x1), some (.int x2), some (.int x3), some (.int x4), some (.int x5), none], [(.int ((s).1 1 1)), (.int x5)], s)) 4 rfl
   (d_if (a := (55, [some (.ref 0), some (.int x1), some (.int x2), some (.int x3), some (.int x4), some (.int x5), none], [], s)) (b := (42, [some (.ref 0), some (.int x1), some (.int x2), some (.int x3), some (.int x4), some (.int x5), none], [], s)) rfl rfl
   (d_step (t := (58, [some (.ref 0), some (.int x1), some (.int x2), some (.int x3), some (.int x4), some (.int 0), none], [], s)) 2 rfl
   (d_lab (x2 := (58, [some (.ref 0), some (.int x1), some (.int x2), some (.int x3), some (.int x4), some (.int 0), none], [], s)) rfl rfl rfl))
   (d_step (t := (30, [some (.ref 0), some (.int x1), some (.int x2), some (.int x3), some (.int (x4 * 10)), some (.int (x5 + 1)), none], [], s)) 6 rfl
   (d_lab (x2 := (30, [some (.ref 0), some (.int x1), some (.int x2), some (.int x3), some (.int (x4 * 10)), some (.int (x5 + 1)), none], [], s)) rfl rfl rfl)))
set_option maxRecDepth 20000 in
theorem el_G_odds_2 (d : Nat)  (x1 : Int32) (x2 : Int32) (x3 : Int32) (x4 : Int32) (x5 : Int32) (s : qMem) : l_G_odds_2 d x1 x2 x3 x4 x5 s = (if (1 <<< (((s).1 1 1) &&& 31)) ≤ x5 then ((m_G_commonDivisor d x3 x4 s).bind (fun q1 => (if 0 < q1.1 then (if q1.1 = 0 then none else some (((if x2 = 0 then x3 else x4 : Int32) / q1.1), q1.2)) else some ((-1), q1.2)))) else ((m_G_chanceOf d x5 x1 s).bind (fun q2 => (if q2.1 ≤ 0 then (l_G_odds_2 d x1 x2 x3 x4 (x5 + 1) q2.2) else ((m_G_canAllBeUp d x5 q2.2).bind (fun q3 => (if q3.1 = 0 then (l_G_odds_2 d x1 x2 x3 x4 (x5 + 1) q3.2) else (l_G_odds_2 d x1 x2 (x3 + q2.1) x4 (x5 + 1) q3.2)))))))) := d_step (t := (69, [some (.ref 0), some (.int x1), some (.int x2), some (.int x3), some (.int x4), some (.int x5), none], [(.int (1 <<< (((s).1 1 1) &&& 31))), (.int x5)], s)) 6 rfl
   (d_if (a := (106, [some (.ref 0), some (.int x1), some (.int x2), some (.int x3), some (.int x4), some (.int x5), none], [], s)) (b := (72, [some (.ref 0), some (.int x1), some (.int x2), some (.int x3), some (.int x4), some (.int x5), none], [], s)) rfl rfl
   (d_step (t := (109, [some (.ref 0), some (.int x1), some (.int x2), some (.int x3), some (.int x4), some (.int x5), none], [(.int x4), (.int x3)], s)) 2 rfl
   (d_callI (o := (m_G_commonDivisor d x3 x4 s)) rfl rfl (fun q1 =>
   d_step (t := (116, [some (.ref 0), some (.int x1), some (.int x2), some (.int x3), some (.int x4), some (.int q1.1), none], [(.int q1.1)], q1.2)) 2 rfl
   (d_if (a := (121, [some (.ref 0), some (.int x1), some (.int x2), some (.int x3), some (.int x4), some (.int q1.1), none], [], q1.2)) (b := (119, [some (.ref 0), some (.int x1), some (.int x2), some (.int x3), some (.int x4), some (.int q1.1), none], [], q1.2)) rfl rfl
   (d_step (t := (122, [some (.ref 0), some (.int x1), some (.int x2), some (.int x3), some (.int x4), some (.int q1.1), none], [(.int x2)], q1.2)) 1 rfl
   (d_mrg (a := (125, [some (.ref 0), some (.int x1), some (.int x2), some (.int x3), some (.int x4), some (.int q1.1), none], [], q1.2)) (b := (129, [some (.ref 0), some (.int x1), some (.int x2), some (.int x3), some (.int x4), some (.int q1.1), none], [], q1.2)) (v1 := x3) (v2 := x4) (z := fun v9 => (131, [some (.ref 0), some (.int x1), some (.int x2), some (.int x3), some (.int x4), some (.int q1.1), none], [(.int v9)], q1.2)) 2 1 rfl rfl rfl rfl
   (d_step (t := (133, [some (.ref 0), some (.int x1), some (.int x2), some (.int x3), some (.int x4), some (.int q1.1), none], [(.int q1.1), (.int (if x2 = 0 then x3 else x4 : Int32))], q1.2)) 1 rfl
   (d_chkn (a := (134, [some (.ref 0), some (.int x1), some (.int x2), some (.int x3), some (.int x4), some (.int q1.1), none], [(.int ((if x2 = 0 then x3 else x4 : Int32) / q1.1))], q1.2)) rfl rfl
   (d_ret (k := 0) rfl rfl)))))
   (d_step (t := (120, [some (.ref 0), some (.int x1), some (.int x2), some (.int x3), some (.int x4), some (.int q1.1), none], [(.int (-1))], q1.2)) 1 rfl
   (d_ret (k := 0) rfl rfl))))))
   (d_step (t := (76, [some (.ref 0), some (.int x1), some (.int x2), some (.int x3), some (.int x4), some (.int x5), none], [(.int x1), (.int x5), (.ref 0)], s)) 3 rfl
   (d_callI (o := (m_G_chanceOf d x5 x1 s)) rfl rfl (fun q2 =>
   d_step (t := (83, [some (.ref 0), some (.int x1), some (.int x2), some (.int x3), some (.int x4), some (.int x5), some (.int q2.1)], [(.int q2.1)], q2.2)) 2 rfl
   (d_if (a := (100, [some (.ref 0), some (.int x1), some (.int x2), some (.int x3), some (.int x4), some (.int x5), some (.int q2.1)], [], q2.2)) (b := (86, [some (.ref 0), some (.int x1), some (.int x2), some (.int x3), some (.int x4), some (.int x5), some (.int q2.1)], [], q2.2)) rfl rfl
   (d_step (t := (58, [some (.ref 0), some (.int x1), some (.int x2), some (.int x3), some (.int x4), some (.int (x5 + 1)), some (.int q2.1)], [], q2.2)) 2 rfl
   (d_lab (x2 := (58, [some (.ref 0), some (.int x1), some (.int x2), some (.int x3), some (.int x4), some (.int (x5 + 1)), none], [], q2.2)) rfl rfl rfl))
   (d_step (t := (89, [some (.ref 0), some (.int x1), some (.int x2), some (.int x3), some (.int x4), some (.int x5), some (.int q2.1)], [(.int x5), (.ref 0)], q2.2)) 2 rfl
   (d_callI (o := (m_G_canAllBeUp d x5 q2.2)) rfl rfl (fun q3 =>
   d_if (a := (100, [some (.ref 0), some (.int x1), some (.int x2), some (.int x3), some (.int x4), some (.int x5), some (.int q2.1)], [], q3.2)) (b := (95, [some (.ref 0), some (.int x1), some (.int x2), some (.int x3), some (.int x4), some (.int x5), some (.int q2.1)], [], q3.2)) rfl rfl
   (d_step (t := (58, [some (.ref 0), some (.int x1), some (.int x2), some (.int x3), some (.int x4), some (.int (x5 + 1)), some (.int q2.1)], [], q3.2)) 2 rfl
   (d_lab (x2 := (58, [some (.ref 0), some (.int x1), some (.int x2), some (.int x3), some (.int x4), some (.int (x5 + 1)), none], [], q3.2)) rfl rfl rfl))
   (d_step (t := (58, [some (.ref 0), some (.int x1), some (.int x2), some (.int (x3 + q2.1)), some (.int x4), some (.int (x5 + 1)), some (.int q2.1)], [], q3.2)) 6 rfl
   (d_lab (x2 := (58, [some (.ref 0), some (.int x1), some (.int x2), some (.int (x3 + q2.1)), some (.int x4), some (.int (x5 + 1)), none], [], q3.2)) rfl rfl rfl))))))))))
noncomputable def m_G_row (d : Nat) (one : Int32) (up : Int32) (s : qMem) : Option (Int32 × qMem) := qI (qCall qMT d 95 [.ref 0, .int one, .int up] s)
set_option maxRecDepth 20000 in
theorem e_G_row (d : Nat) (one : Int32) (up : Int32) (s : qMem) : m_G_row (d + 1) one up s = ((m_T_isOne d 1 one s).bind (fun q1 => (if q1.1 = 0 then some ((-2), q1.2) else (if up < 0 then some ((-3), q1.2) else (if up ≤ 1 then (if ((q1.2).1 0 9) < 12 then (if qIn ((q1.2).1 0 9) 12 then (if qIn ((q1.2).1 0 9) 12 then some ((((q1.2).1 0 9) + 1), (qW (qW (qW q1.2 31 (((q1.2).1 0 9)).toNatClampNeg one) 32 (((q1.2).1 0 9)).toNatClampNeg up) 0 9 (((q1.2).1 0 9) + 1))) else none) else none) else some ((-5), q1.2)) else some ((-3), q1.2)))))) := d_step (t := (5, [some (.ref 0), some (.int one), some (.int up)], [(.int one), (.ref 1)], s)) 3 rfl
   (d_callI (o := (m_T_isOne d 1 one s)) rfl rfl (fun q1 =>
   d_if (a := (11, [some (.ref 0), some (.int one), some (.int up)], [], q1.2)) (b := (14, [some (.ref 0), some (.int one), some (.int up)], [], q1.2)) rfl rfl
   (d_step (t := (13, [some (.ref 0), some (.int one), some (.int up)], [(.int (-2))], q1.2)) 1 rfl
   (d_ret (k := 0) rfl rfl))
   (d_step (t := (15, [some (.ref 0), some (.int one), some (.int up)], [(.int up)], q1.2)) 1 rfl
   (d_if (a := (23, [some (.ref 0), some (.int one), some (.int up)], [], q1.2)) (b := (18, [some (.ref 0), some (.int one), some (.int up)], [], q1.2)) rfl rfl
   (d_step (t := (25, [some (.ref 0), some (.int one), some (.int up)], [(.int (-3))], q1.2)) 1 rfl
   (d_ret (k := 0) rfl rfl))
   (d_step (t := (20, [some (.ref 0), some (.int one), some (.int up)], [(.int 1), (.int up)], q1.2)) 2 rfl
   (d_if (a := (26, [some (.ref 0), some (.int one), some (.int up)], [], q1.2)) (b := (23, [some (.ref 0), some (.int one), some (.int up)], [], q1.2)) rfl rfl
   (d_step (t := (32, [some (.ref 0), some (.int one), some (.int up)], [(.int 12), (.int ((q1.2).1 0 9))], q1.2)) 3 rfl
   (d_if (a := (38, [some (.ref 0), some (.int one), some (.int up)], [], q1.2)) (b := (35, [some (.ref 0), some (.int one), some (.int up)], [], q1.2)) rfl rfl
   (d_step (t := (47, [some (.ref 0), some (.int one), some (.int up)], [(.int one), (.int ((q1.2).1 0 9)), (.ref 31)], q1.2)) 5 rfl
   (d_chk (a := (48, [some (.ref 0), some (.int one), some (.int up)], [], (qW q1.2 31 (((q1.2).1 0 9)).toNatClampNeg one))) rfl rfl
   (d_step (t := (57, [some (.ref 0), some (.int one), some (.int up)], [(.int up), (.int ((q1.2).1 0 9)), (.ref 32)], (qW q1.2 31 (((q1.2).1 0 9)).toNatClampNeg one))) 5 rfl
   (d_chk (a := (58, [some (.ref 0), some (.int one), some (.int up)], [], (qW (qW q1.2 31 (((q1.2).1 0 9)).toNatClampNeg one) 32 (((q1.2).1 0 9)).toNatClampNeg up))) rfl rfl
   (d_step (t := (72, [some (.ref 0), some (.int one), some (.int up)], [(.int (((q1.2).1 0 9) + 1))], (qW (qW (qW q1.2 31 (((q1.2).1 0 9)).toNatClampNeg one) 32 (((q1.2).1 0 9)).toNatClampNeg up) 0 9 (((q1.2).1 0 9) + 1)))) 8 rfl
   (d_ret (k := 0) rfl rfl))))))
   (d_step (t := (37, [some (.ref 0), some (.int one), some (.int up)], [(.int (-5))], q1.2)) 1 rfl
   (d_ret (k := 0) rfl rfl))))
   (d_step (t := (25, [some (.ref 0), some (.int one), some (.int up)], [(.int (-3))], q1.2)) 1 rfl
   (d_ret (k := 0) rfl rfl))))))))
noncomputable def m_G_burn (d : Nat)  (s : qMem) : Option (Int32 × qMem) := qI (qCall qMT d 96 [.ref 0] s)
set_option maxRecDepth 20000 in
theorem e_G_burn (d : Nat)  (s : qMem) : m_G_burn (d + 1) s = some (((s).1 0 9), (qW s 0 9 0)) := d_step (t := (11, [some (.ref 0), some (.int ((s).1 0 9))], [(.int ((s).1 0 9))], (qW s 0 9 0))) 7 rfl
   (d_ret (k := 0) rfl rfl)
noncomputable def m_G_judge (d : Nat)  (s : qMem) : Option (Int32 × qMem) := qI (qCall qMT d 97 [.ref 0] s)
noncomputable def l_G_judge_1 (d : Nat)  (x1 : Int32) (s : qMem) : Option (Int32 × qMem) := qI (qK qMT d 97 (19, [some (.ref 0), some (.int x1), none, none, none], [], s))
set_option maxRecDepth 20000 in
theorem e_G_judge (d : Nat)  (s : qMem) : m_G_judge (d + 1) s = (l_G_judge_1 d 0 (qCpy s 23 33 0 0 5)) := d_step (t := (19, [some (.ref 0), some (.int 0), none, none, none], [], (qCpy s 23 33 0 0 5))) 11 rfl
   (d_lab (x2 := (19, [some (.ref 0), some (.int 0), none, none, none], [], (qCpy s 23 33 0 0 5))) rfl rfl rfl)
set_option maxRecDepth 20000 in
theorem el_G_judge_1 (d : Nat)  (x1 : Int32) (s : qMem) : l_G_judge_1 d x1 s = (if ((s).1 0 9) ≤ x1 then some ((-1), s) else (if 12 ≤ x1 then some ((-1), s) else (if qIn x1 12 then (if qIn x1 12 then (if (if ((s).1 32 (x1).toNatClampNeg) = 1 then 1 else 0 : Int32) = 0 then ((m_T_canSink d 1 ((s).1 31 (x1).toNatClampNeg) 33 s).bind (fun q1 => ((m_T_isOne d 1 ((s).1 31 (x1).toNatClampNeg) q1.2).bind (fun q2 => (if q2.1 = 0 then some (x1, q2.2) else (if q1.1 = 0 then some (x1, q2.2) else (if qIn ((s).1 31 (x1).toNatClampNeg) 5 then (if qIn ((s).1 31 (x1).toNatClampNeg) 5 then (l_G_judge_1 d (x1 + 1) (qW q2.2 33 (((s).1 31 (x1).toNatClampNeg)).toNatClampNeg (((q2.2).1 33 (((s).1 31 (x1).toNatClampNeg)).toNatClampNeg) + (if (if ((s).1 32 (x1).toNatClampNeg) = 1 then 1 else 0 : Int32) = 0 then (-1) else 1 : Int32)))) else none) else none))))))) else ((m_T_canRise d 1 ((s).1 31 (x1).toNatClampNeg) 33 s).bind (fun q3 => ((m_T_isOne d 1 ((s).1 31 (x1).toNatClampNeg) q3.2).bind (fun q4 => (if q4.1 = 0 then some (x1, q4.2) else (if q3.1 = 0 then some (x1, q4.2) else (if qIn ((s).1 31 (x1).toNatClampNeg) 5 then (if qIn ((s).1 31 (x1).toNatClampNeg) 5 then (l_G_judge_1 d (x1 + 1) (qW q4.2 33 (((s).1 31 (x1).toNatClampNeg)).toNatClampNeg (((q4.2).1 33 (((s).1 31 (x1).toNatClampNeg)).toNatClampNeg) + (if (if ((s).1 32 (x1).toNatClampNeg) = 1 then 1 else 0 : Int32) = 0 then (-1) else 1 : Int32)))) else none) else none)))))))) else none) else none))) := d_step (t := (24, [some (.ref 0), some (.int x1), none, none, none], [(.int ((s).1 0 9)), (.int x1)], s)) 3 rfl
   (d_if (a := (131, [some (.ref 0), some (.int x1), none, none, none], [], s)) (b := (27, [some (.ref 0), some (.int x1), none, none, none], [], s)) rfl rfl
   (d_step (t := (132, [some (.ref 0), some (.int x1), none, none, none], [(.int (-1))], s)) 1 rfl
   (d_ret (k := 0) rfl rfl))
   (d_step (t := (30, [some (.ref 0), some (.int x1), none, none, none], [(.int 12), (.int x1)], s)) 2 rfl
   (d_if (a := (131, [some (.ref 0), some (.int x1), none, none, none], [], s)) (b := (33, [some (.ref 0), some (.int x1), none, none, none], [], s)) rfl rfl
   (d_step (t := (132, [some (.ref 0), some (.int x1), none, none, none], [(.int (-1))], s)) 1 rfl
   (d_ret (k := 0) rfl rfl))
   (d_step (t := (38, [some (.ref 0), some (.int x1), none, none, none], [(.int x1), (.ref 31)], s)) 3 rfl
   (d_chk (a := (39, [some (.ref 0), some (.int x1), none, none, none], [(.int ((s).1 31 (x1).toNatClampNeg))], s)) rfl rfl
   (d_step (t := (45, [some (.ref 0), some (.int x1), some (.int ((s).1 31 (x1).toNatClampNeg)), none, none], [(.int x1), (.ref 32)], s)) 4 rfl
   (d_chk (a := (46, [some (.ref 0), some (.int x1), some (.int ((s).1 31 (x1).toNatClampNeg)), none, none], [(.int ((s).1 32 (x1).toNatClampNeg))], s)) rfl rfl
   (d_step (t := (47, [some (.ref 0), some (.int x1), some (.int ((s).1 31 (x1).toNatClampNeg)), none, none], [(.int 1), (.int ((s).1 32 (x1).toNatClampNeg))], s)) 1 rfl
   (d_mrg (a := (50, [some (.ref 0), some (.int x1), some (.int ((s).1 31 (x1).toNatClampNeg)), none, none], [], s)) (b := (54, [some (.ref 0), some (.int x1), some (.int ((s).1 31 (x1).toNatClampNeg)), none, none], [], s)) (v1 := 1) (v2 := 0) (z := fun v9 => (55, [some (.ref 0), some (.int x1), some (.int ((s).1 31 (x1).toNatClampNeg)), none, none], [(.int v9)], s)) 2 1 rfl rfl rfl rfl
   (d_step (t := (57, [some (.ref 0), some (.int x1), some (.int ((s).1 31 (x1).toNatClampNeg)), some (.int (if ((s).1 32 (x1).toNatClampNeg) = 1 then 1 else 0 : Int32)), none], [(.int (if ((s).1 32 (x1).toNatClampNeg) = 1 then 1 else 0 : Int32))], s)) 2 rfl
   (d_if (a := (75, [some (.ref 0), some (.int x1), some (.int ((s).1 31 (x1).toNatClampNeg)), some (.int (if ((s).1 32 (x1).toNatClampNeg) = 1 then 1 else 0 : Int32)), none], [], s)) (b := (60, [some (.ref 0), some (.int x1), some (.int ((s).1 31 (x1).toNatClampNeg)), some (.int (if ((s).1 32 (x1).toNatClampNeg) = 1 then 1 else 0 : Int32)), none], [], s)) rfl rfl
   (d_step (t := (84, [some (.ref 0), some (.int x1), some (.int ((s).1 31 (x1).toNatClampNeg)), some (.int (if ((s).1 32 (x1).toNatClampNeg) = 1 then 1 else 0 : Int32)), none], [(.ref 33), (.int ((s).1 31 (x1).toNatClampNeg)), (.ref 1)], s)) 5 rfl
   (d_callI (o := (m_T_canSink d 1 ((s).1 31 (x1).toNatClampNeg) 33 s)) rfl rfl (fun q1 =>
   d_step (t := (94, [some (.ref 0), some (.int x1), some (.int ((s).1 31 (x1).toNatClampNeg)), some (.int (if ((s).1 32 (x1).toNatClampNeg) = 1 then 1 else 0 : Int32)), some (.int q1.1)], [(.int ((s).1 31 (x1).toNatClampNeg)), (.ref 1)], q1.2)) 4 rfl
   (d_callI (o := (m_T_isOne d 1 ((s).1 31 (x1).toNatClampNeg) q1.2)) rfl rfl (fun q2 =>
   d_if (a := (105, [some (.ref 0), some (.int x1), some (.int ((s).1 31 (x1).toNatClampNeg)), some (.int (if ((s).1 32 (x1).toNatClampNeg) = 1 then 1 else 0 : Int32)), some (.int q1.1)], [], q2.2)) (b := (100, [some (.ref 0), some (.int x1), some (.int ((s).1 31 (x1).toNatClampNeg)), some (.int (if ((s).1 32 (x1).toNatClampNeg) = 1 then 1 else 0 : Int32)), some (.int q1.1)], [], q2.2)) rfl rfl
   (d_step (t := (106, [some (.ref 0), some (.int x1), some (.int ((s).1 31 (x1).toNatClampNeg)), some (.int (if ((s).1 32 (x1).toNatClampNeg) = 1 then 1 else 0 : Int32)), some (.int q1.1)], [(.int x1)], q2.2)) 1 rfl
   (d_ret (k := 0) rfl rfl))
   (d_step (t := (102, [some (.ref 0), some (.int x1), some (.int ((s).1 31 (x1).toNatClampNeg)), some (.int (if ((s).1 32 (x1).toNatClampNeg) = 1 then 1 else 0 : Int32)), some (.int q1.1)], [(.int q1.1)], q2.2)) 1 rfl
   (d_if (a := (105, [some (.ref 0), some (.int x1), some (.int ((s).1 31 (x1).toNatClampNeg)), some (.int (if ((s).1 32 (x1).toNatClampNeg) = 1 then 1 else 0 : Int32)), some (.int q1.1)], [], q2.2)) (b := (107, [some (.ref 0), some (.int x1), some (.int ((s).1 31 (x1).toNatClampNeg)), some (.int (if ((s).1 32 (x1).toNatClampNeg) = 1 then 1 else 0 : Int32)), some (.int q1.1)], [], q2.2)) rfl rfl
   (d_step (t := (106, [some (.ref 0), some (.int x1), some (.int ((s).1 31 (x1).toNatClampNeg)), some (.int (if ((s).1 32 (x1).toNatClampNeg) = 1 then 1 else 0 : Int32)), some (.int q1.1)], [(.int x1)], q2.2)) 1 rfl
   (d_ret (k := 0) rfl rfl))
   (d_step (t := (113, [some (.ref 0), some (.int x1), some (.int ((s).1 31 (x1).toNatClampNeg)), some (.int (if ((s).1 32 (x1).toNatClampNeg) = 1 then 1 else 0 : Int32)), some (.int q1.1)], [(.int ((s).1 31 (x1).toNatClampNeg)), (.ref 33), (.int ((s).1 31 (x1).toNatClampNeg)), (.ref 33)], q2.2)) 4 rfl
   (d_chk (a := (114, [some (.ref 0), some (.int x1), some (.int ((s).1 31 (x1).toNatClampNeg)), some (.int (if ((s).1 32 (x1).toNatClampNeg) = 1 then 1 else 0 : Int32)), some (.int q1.1)], [(.int ((q2.2).1 33 (((s).1 31 (x1).toNatClampNeg)).toNatClampNeg)), (.int ((s).1 31 (x1).toNatClampNeg)), (.ref 33)], q2.2)) rfl rfl
   (d_step (t := (115, [some (.ref 0), some (.int x1), some (.int ((s).1 31 (x1).toNatClampNeg)), some (.int (if ((s).1 32 (x1).toNatClampNeg) = 1 then 1 else 0 : Int32)), some (.int q1.1)], [(.int (if ((s).1 32 (x1).toNatClampNeg) = 1 then 1 else 0 : Int32)), (.int ((q2.2).1 33 (((s).1 31 (x1).toNatClampNeg)).toNatClampNeg)), (.int ((s).1 31 (x1).toNatClampNeg)), (.ref 33)], q2.2)) 1 rfl
   (d_mrg (a := (122, [some (.ref 0), some (.int x1), some (.int ((s).1 31 (x1).toNatClampNeg)), some (.int (if ((s).1 32 (x1).toNatClampNeg) = 1 then 1 else 0 : Int32)), some (.int q1.1)], [(.int ((q2.2).1 33 (((s).1 31 (x1).toNatClampNeg)).toNatClampNeg)), (.int ((s).1 31 (x1).toNatClampNeg)), (.ref 33)], q2.2)) (b := (118, [some (.ref 0), some (.int x1), some (.int ((s).1 31 (x1).toNatClampNeg)), some (.int (if ((s).1 32 (x1).toNatClampNeg) = 1 then 1 else 0 : Int32)), some (.int q1.1)], [(.int ((q2.2).1 33 (((s).1 31 (x1).toNatClampNeg)).toNatClampNeg)), (.int ((s).1 31 (x1).toNatClampNeg)), (.ref 33)], q2.2)) (v1 := (-1)) (v2 := 1) (z := fun v9 => (123, [some (.ref 0), some (.int x1), some (.int ((s).1 31 (x1).toNatClampNeg)), some (.int (if ((s).1 32 (x1).toNatClampNeg) = 1 then 1 else 0 : Int32)), some (.int q1.1)], [(.int v9), (.int ((q2.2).1 33 (((s).1 31 (x1).toNatClampNeg)).toNatClampNeg)), (.int ((s).1 31 (x1).toNatClampNeg)), (.ref 33)], q2.2)) 1 2 rfl rfl rfl rfl
   (d_step (t := (124, [some (.ref 0), some (.int x1), some (.int ((s).1 31 (x1).toNatClampNeg)), some (.int (if ((s).1 32 (x1).toNatClampNeg) = 1 then 1 else 0 : Int32)), some (.int q1.1)], [(.int (((q2.2).1 33 (((s).1 31 (x1).toNatClampNeg)).toNatClampNeg) + (if (if ((s).1 32 (x1).toNatClampNeg) = 1 then 1 else 0 : Int32) = 0 then (-1) else 1 : Int32))), (.int ((s).1 31 (x1).toNatClampNeg)), (.ref 33)], q2.2)) 1 rfl
   (d_chk (a := (125, [some (.ref 0), some (.int x1), some (.int ((s).1 31 (x1).toNatClampNeg)), some (.int (if ((s).1 32 (x1).toNatClampNeg) = 1 then 1 else 0 : Int32)), some (.int q1.1)], [], (qW q2.2 33 (((s).1 31 (x1).toNatClampNeg)).toNatClampNeg (((q2.2).1 33 (((s).1 31 (x1).toNatClampNeg)).toNatClampNeg) + (if (if ((s).1 32 (x1).toNatClampNeg) = 1 then 1 else 0 : Int32) = 0 then (-1) else 1 : Int32))))) rfl rfl
   (d_step (t := (19, [some (.ref 0), some (.int (x1 + 1)), some (.int ((s).1 31 (x1).toNatClampNeg)), some (.int (if ((s).1 32 (x1).toNatClampNeg) = 1 then 1 else 0 : Int32)), some (.int q1.1)], [], (qW q2.2 33 (((s).1 31 (x1).toNatClampNeg)).toNatClampNeg (((q2.2).1 33 (((s).1 31 (x1).toNatClampNeg)).toNatClampNeg) + (if (if ((s).1 32 (x1).toNatClampNeg) = 1 then 1 else 0 : Int32) = 0 then (-1) else 1 : Int32))))) 2 rfl
   (d_lab (x2 := (19, [some (.ref 0), some (.int (x1 + 1)), none, none, none], [], (qW q2.2 33 (((s).1 31 (x1).toNatClampNeg)).toNatClampNeg (((q2.2).1 33 (((s).1 31 (x1).toNatClampNeg)).toNatClampNeg) + (if (if ((s).1 32 (x1).toNatClampNeg) = 1 then 1 else 0 : Int32) = 0 then (-1) else 1 : Int32))))) rfl rfl rfl)))))))))))))))
   (d_step (t := (69, [some (.ref 0), some (.int x1), some (.int ((s).1 31 (x1).toNatClampNeg)), some (.int (if ((s).1 32 (x1).toNatClampNeg) = 1 then 1 else 0 : Int32)), none], [(.ref 33), (.int ((s).1 31 (x1).toNatClampNeg)), (.ref 1)], s)) 5 rfl
   (d_callI (o := (m_T_canRise d 1 ((s).1 31 (x1).toNatClampNeg) 33 s)) rfl rfl (fun q3 =>
   d_step (t := (94, [some (.ref 0), some (.int x1), some (.int ((s).1 31 (x1).toNatClampNeg)), some (.int (if ((s).1 32 (x1).toNatClampNeg) = 1 then 1 else 0 : Int32)), some (.int q3.1)], [(.int ((s).1 31 (x1).toNatClampNeg)), (.ref 1)], q3.2)) 5 rfl
   (d_callI (o := (m_T_isOne d 1 ((s).1 31 (x1).toNatClampNeg) q3.2)) rfl rfl (fun q4 =>
   d_if (a := (105, [some (.ref 0), some (.int x1), some (.int ((s).1 31 (x1).toNatClampNeg)), some (.int (if ((s).1 32 (x1).toNatClampNeg) = 1 then 1 else 0 : Int32)), some (.int q3.1)], [], q4.2)) (b := (100, [some (.ref 0), some (.int x1), some (.int ((s).1 31 (x1).toNatClampNeg)), some (.int (if ((s).1 32 (x1).toNatClampNeg) = 1 then 1 else 0 : Int32)), some (.int q3.1)], [], q4.2)) rfl rfl
   (d_step (t := (106, [some (.ref 0), some (.int x1), some (.int ((s).1 31 (x1).toNatClampNeg)), some (.int (if ((s).1 32 (x1).toNatClampNeg) = 1 then 1 else 0 : Int32)), some (.int q3.1)], [(.int x1)], q4.2)) 1 rfl
   (d_ret (k := 0) rfl rfl))
   (d_step (t := (102, [some (.ref 0), some (.int x1), some (.int ((s).1 31 (x1).toNatClampNeg)), some (.int (if ((s).1 32 (x1).toNatClampNeg) = 1 then 1 else 0 : Int32)), some (.int q3.1)], [(.int q3.1)], q4.2)) 1 rfl
   (d_if (a := (105, [some (.ref 0), some (.int x1), some (.int ((s).1 31 (x1).toNatClampNeg)), some (.int (if ((s).1 32 (x1).toNatClampNeg) = 1 then 1 else 0 : Int32)), some (.int q3.1)], [], q4.2)) (b := (107, [some (.ref 0), some (.int x1), some (.int ((s).1 31 (x1).toNatClampNeg)), some (.int (if ((s).1 32 (x1).toNatClampNeg) = 1 then 1 else 0 : Int32)), some (.int q3.1)], [], q4.2)) rfl rfl
   (d_step (t := (106, [some (.ref 0), some (.int x1), some (.int ((s).1 31 (x1).toNatClampNeg)), some (.int (if ((s).1 32 (x1).toNatClampNeg) = 1 then 1 else 0 : Int32)), some (.int q3.1)], [(.int x1)], q4.2)) 1 rfl
   (d_ret (k := 0) rfl rfl))
   (d_step (t := (113, [some (.ref 0), some (.int x1), some (.int ((s).1 31 (x1).toNatClampNeg)), some (.int (if ((s).1 32 (x1).toNatClampNeg) = 1 then 1 else 0 : Int32)), some (.int q3.1)], [(.int ((s).1 31 (x1).toNatClampNeg)), (.ref 33), (.int ((s).1 31 (x1).toNatClampNeg)), (.ref 33)], q4.2)) 4 rfl
   (d_chk (a := (114, [some (.ref 0), some (.int x1), some (.int ((s).1 31 (x1).toNatClampNeg)), some (.int (if ((s).1 32 (x1).toNatClampNeg) = 1 then 1 else 0 : Int32)), some (.int q3.1)], [(.int ((q4.2).1 33 (((s).1 31 (x1).toNatClampNeg)).toNatClampNeg)), (.int ((s).1 31 (x1).toNatClampNeg)), (.ref 33)], q4.2)) rfl rfl
   (d_step (t := (115, [some (.ref 0), some (.int x1), some (.int ((s).1 31 (x1).toNatClampNeg)), some (.int (if ((s).1 32 (x1).toNatClampNeg) = 1 then 1 else 0 : Int32)), some (.int q3.1)], [(.int (if ((s).1 32 (x1).toNatClampNeg) = 1 then 1 else 0 : Int32)), (.int ((q4.2).1 33 (((s).1 31 (x1).toNatClampNeg)).toNatClampNeg)), (.int ((s).1 31 (x1).toNatClampNeg)), (.ref 33)], q4.2)) 1 rfl
   (d_mrg (a := (122, [some (.ref 0), some (.int x1), some (.int ((s).1 31 (x1).toNatClampNeg)), some (.int (if ((s).1 32 (x1).toNatClampNeg) = 1 then 1 else 0 : Int32)), some (.int q3.1)], [(.int ((q4.2).1 33 (((s).1 31 (x1).toNatClampNeg)).toNatClampNeg)), (.int ((s).1 31 (x1).toNatClampNeg)), (.ref 33)], q4.2)) (b := (118, [some (.ref 0), some (.int x1), some (.int ((s).1 31 (x1).toNatClampNeg)), some (.int (if ((s).1 32 (x1).toNatClampNeg) = 1 then 1 else 0 : Int32)), some (.int q3.1)], [(.int ((q4.2).1 33 (((s).1 31 (x1).toNatClampNeg)).toNatClampNeg)), (.int ((s).1 31 (x1).toNatClampNeg)), (.ref 33)], q4.2)) (v1 := (-1)) (v2 := 1) (z := fun v9 => (123, [some (.ref 0), some (.int x1), some (.int ((s).1 31 (x1).toNatClampNeg)), some (.int (if ((s).1 32 (x1).toNatClampNeg) = 1 then 1 else 0 : Int32)), some (.int q3.1)], [(.int v9), (.int ((q4.2).1 33 (((s).1 31 (x1).toNatClampNeg)).toNatClampNeg)), (.int ((s).1 31 (x1).toNatClampNeg)), (.ref 33)], q4.2)) 1 2 rfl rfl rfl rfl
   (d_step (t := (124, [some (.ref 0), some (.int x1), some (.int ((s).1 31 (x1).toNatClampNeg)), some (.int (if ((s).1 32 (x1).toNatClampNeg) = 1 then 1 else 0 : Int32)), some (.int q3.1)], [(.int (((q4.2).1 33 (((s).1 31 (x1).toNatClampNeg)).toNatClampNeg) + (if (if ((s).1 32 (x1).toNatClampNeg) = 1 then 1 else 0 : Int32) = 0 then (-1) else 1 : Int32))), (.int ((s).1 31 (x1).toNatClampNeg)), (.ref 33)], q4.2)) 1 rfl
   (d_chk (a := (125, [some (.ref 0), some (.int x1), some (.int ((s).1 31 (x1).toNatClampNeg)), some (.int (if ((s).1 32 (x1).toNatClampNeg) = 1 then 1 else 0 : Int32)), some (.int q3.1)], [], (qW q4.2 33 (((s).1 31 (x1).toNatClampNeg)).toNatClampNeg (((q4.2).1 33 (((s).1 31 (x1).toNatClampNeg)).toNatClampNeg) + (if (if ((s).1 32 (x1).toNatClampNeg) = 1 then 1 else 0 : Int32) = 0 then (-1) else 1 : Int32))))) rfl rfl
   (d_step (t := (19, [some (.ref 0), some (.int (x1 + 1)), some (.int ((s).1 31 (x1).toNatClampNeg)), some (.int (if ((s).1 32 (x1).toNatClampNeg) = 1 then 1 else 0 : Int32)), some (.int q3.1)], [], (qW q4.2 33 (((s).1 31 (x1).toNatClampNeg)).toNatClampNeg (((q4.2).1 33 (((s).1 31 (x1).toNatClampNeg)).toNatClampNeg) + (if (if ((s).1 32 (x1).toNatClampNeg) = 1 then 1 else 0 : Int32) = 0 then (-1) else 1 : Int32))))) 2 rfl
   (d_lab (x2 := (19, [some (.ref 0), some (.int (x1 + 1)), none, none, none], [], (qW q4.2 33 (((s).1 31 (x1).toNatClampNeg)).toNatClampNeg (((q4.2).1 33 (((s).1 31 (x1).toNatClampNeg)).toNatClampNeg) + (if (if ((s).1 32 (x1).toNatClampNeg) = 1 then 1 else 0 : Int32) = 0 then (-1) else 1 : Int32))))) rfl rfl rfl))))))))))))))))))))))))))
noncomputable def m_G_count (d : Nat) (w : Int32) (s : qMem) : Option (Int32 × qMem) := qI (qCall qMT d 98 [.ref 0, .int w] s)
set_option maxRecDepth 20000 in
theorem e_G_count (d : Nat) (w : Int32) (s : qMem) : m_G_count (d + 1) w s = (if w = 0 then some (((s).1 1 0), s) else (if w = 1 then some (((s).1 1 1), s) else (if w = 2 then some (((s).1 22 1), s) else (if w = 3 then ((m_T_setAtTop d 23 s).bind (fun q1 => some (q1.1, q1.2))) else (if w = 4 then some (((s).1 0 9), s) else (if w = 5 then ((m_J_helpInAll d s).bind (fun q2 => some (q2.1, q2.2))) else (if w = 6 then some (((s).1 19 1), s) else some ((-3), s)))))))) := d_step (t := (1, [some (.ref 0), some (.int w)], [(.int w)], s)) 1 rfl
   (d_sw (o := qSel w [some (.ref 0), some (.int w)] [] s 104 [(0, 44), (1, 52), (2, 60), (3, 68), (4, 83), (5, 88), (6, 96)]) rfl rfl (d_sw1 (d_step (t := (51, [some (.ref 0), some (.int w)], [(.int ((s).1 1 0))], s)) 3 rfl
   (d_ret (k := 0) rfl rfl))
   (d_sw1 (d_step (t := (59, [some (.ref 0), some (.int w)], [(.int ((s).1 1 1))], s)) 3 rfl
   (d_ret (k := 0) rfl rfl))
   (d_sw1 (d_step (t := (67, [some (.ref 0), some (.int w)], [(.int ((s).1 22 1))], s)) 3 rfl
   (d_ret (k := 0) rfl rfl))
   (d_sw1 (d_step (t := (79, [some (.ref 0), some (.int w)], [(.ref 23), (.ref 1)], s)) 5 rfl
   (d_callI (o := (m_T_setAtTop d 23 s)) rfl rfl (fun q1 =>
   d_ret (k := 0) rfl rfl)))
   (d_sw1 (d_step (t := (87, [some (.ref 0), some (.int w)], [(.int ((s).1 0 9))], s)) 2 rfl
   (d_ret (k := 0) rfl rfl))
   (d_sw1 (d_step (t := (92, [some (.ref 0), some (.int w)], [(.ref 22)], s)) 2 rfl
   (d_callI (o := (m_J_helpInAll d s)) rfl rfl (fun q2 =>
   d_ret (k := 0) rfl rfl)))
   (d_sw1 (d_step (t := (103, [some (.ref 0), some (.int w)], [(.int ((s).1 19 1))], s)) 3 rfl
   (d_ret (k := 0) rfl rfl))
   (d_sw0 (d_step (t := (106, [some (.ref 0), some (.int w)], [(.int (-3))], s)) 1 rfl
   (d_ret (k := 0) rfl rfl)))))))))))
