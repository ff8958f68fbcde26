/-! equations, by program -/
noncomputable def m_M_in (d : Nat) (v : Int32) (a : Int32) (b : Int32) (s : qMem) : Option (Int32 × qMem) := qI (qCall qMT d 106 [.int v, .int a, .int b] s)
set_option maxRecDepth 20000 in
theorem e_M_in (d : Nat) (v : Int32) (a : Int32) (b : Int32) (s : qMem) : m_M_in (d + 1) v a b s = (if v < a then some (0, s) else (if b < v then some (0, s) else some (1, s))) := d_step (t := (2, [some (.int v), some (.int a), some (.int b)], [(.int a), (.int v)], s)) 2 rfl
   (d_if (a := (14, [some (.int v), some (.int a), some (.int b)], [], s)) (b := (5, [some (.int v), some (.int a), some (.int b)], [], s)) rfl rfl
   (d_step (t := (15, [some (.int v), some (.int a), some (.int b)], [(.int 0)], s)) 1 rfl
   (d_ret (k := 0) rfl rfl))
   (d_step (t := (7, [some (.int v), some (.int a), some (.int b)], [(.int b), (.int v)], s)) 2 rfl
   (d_if (a := (14, [some (.int v), some (.int a), some (.int b)], [], s)) (b := (10, [some (.int v), some (.int a), some (.int b)], [], s)) rfl rfl
   (d_step (t := (15, [some (.int v), some (.int a), some (.int b)], [(.int 0)], s)) 1 rfl
   (d_ret (k := 0) rfl rfl))
   (d_step (t := (15, [some (.int v), some (.int a), some (.int b)], [(.int 1)], s)) 2 rfl
   (d_ret (k := 0) rfl rfl)))))
noncomputable def m_M_has (d : Nat) (st : Int32) (k : Int32) (s : qMem) : Option (Int32 × qMem) := qI (qCall qMT d 107 [.int st, .int k] s)
set_option maxRecDepth 20000 in
theorem e_M_has (d : Nat) (st : Int32) (k : Int32) (s : qMem) : m_M_has (d + 1) st k s = (if ((st >>> (k &&& 31)) &&& 1) = 1 then some (1, s) else some (0, s)) := d_step (t := (6, [some (.int st), some (.int k)], [(.int 1), (.int ((st >>> (k &&& 31)) &&& 1))], s)) 6 rfl
   (d_if (a := (9, [some (.int st), some (.int k)], [], s)) (b := (13, [some (.int st), some (.int k)], [], s)) rfl rfl
   (d_step (t := (14, [some (.int st), some (.int k)], [(.int 1)], s)) 2 rfl
   (d_ret (k := 0) rfl rfl))
   (d_step (t := (14, [some (.int st), some (.int k)], [(.int 0)], s)) 1 rfl
   (d_ret (k := 0) rfl rfl)))
noncomputable def m_M_bits (d : Nat) (st : Int32) (s : qMem) : Option (Int32 × qMem) := qI (qCall qMT d 108 [.int st] s)
noncomputable def l_M_bits_1 (d : Nat)  (x0 : Int32) (x1 : Int32) (x2 : Int32) (s : qMem) : Option (Int32 × qMem) := qI (qK qMT d 108 (4, [some (.int x0), some (.int x1), some (.int x2)], [], s))
set_option maxRecDepth 20000 in
theorem e_M_bits (d : Nat) (st : Int32) (s : qMem) : m_M_bits (d + 1) st s = (l_M_bits_1 d st 0 0 s) := d_step (t := (4, [some (.int st), some (.int 0), some (.int 0)], [], s)) 4 rfl
   (rfl)
set_option maxRecDepth 20000 in
theorem el_M_bits_1 (d : Nat)  (x0 : Int32) (x1 : Int32) (x2 : Int32) (s : qMem) : l_M_bits_1 d x0 x1 x2 s = (if 5 ≤ x2 then some (x1, s) else (l_M_bits_1 d x0 (x1 + ((x0 >>> (x2 &&& 31)) &&& 1)) (x2 + 1) s)) := d_step (t := (6, [some (.int x0), some (.int x1), some (.int x2)], [(.int 5), (.int x2)], s)) 2 rfl
   (d_if (a := (23, [some (.int x0), some (.int x1), some (.int x2)], [], s)) (b := (9, [some (.int x0), some (.int x1), some (.int x2)], [], s)) rfl rfl
   (d_step (t := (24, [some (.int x0), some (.int x1), some (.int x2)], [(.int x1)], s)) 1 rfl
   (d_ret (k := 0) rfl rfl))
   (d_step (t := (4, [some (.int x0), some (.int (x1 + ((x0 >>> (x2 &&& 31)) &&& 1))), some (.int (x2 + 1))], [], s)) 10 rfl
   (rfl)))
noncomputable def m_M_isOne (d : Nat) (p : Int32) (s : qMem) : Option (Int32 × qMem) := qI (qCall qMT d 109 [.ref 40, .int p] s)
set_option maxRecDepth 20000 in
theorem e_M_isOne (d : Nat) (p : Int32) (s : qMem) : m_M_isOne (d + 1) p s = ((m_M_in d p 0 (((s).1 40 3) - 1) s).bind (fun q1 => (if q1.1 = 0 ∨ q1.1 = 1 then some (q1.1, q1.2) else none))) := d_step (t := (8, [some (.ref 40), some (.int p)], [(.int (((s).1 40 3) - 1)), (.int 0), (.int p)], s)) 6 rfl
   (d_callI (o := (m_M_in d p 0 (((s).1 40 3) - 1) s)) rfl rfl (fun q1 =>
   d_retz (k := 0) rfl rfl))
noncomputable def m_M_plain (d : Nat) (n : Int32) (s : qMem) : Option (qMem) := qV (qCall qMT d 110 [.ref 40, .int n] s)
noncomputable def l_M_plain_1 (d : Nat)  (x2 : Int32) (s : qMem) : Option (qMem) := qV (qK qMT d 110 (7, [some (.ref 40), none, some (.int x2)], [], s))
set_option maxRecDepth 20000 in
theorem e_M_plain (d : Nat) (n : Int32) (s : qMem) : m_M_plain (d + 1) n s = (l_M_plain_1 d 0 (qW s 40 0 n)) := d_step (t := (7, [some (.ref 40), some (.int n), some (.int 0)], [], (qW s 40 0 n))) 5 rfl
   (d_lab (x2 := (7, [some (.ref 40), none, some (.int 0)], [], (qW s 40 0 n))) rfl rfl rfl)
set_option maxRecDepth 20000 in
theorem el_M_plain_1 (d : Nat)  (x2 : Int32) (s : qMem) : l_M_plain_1 d x2 s = (if 4 ≤ x2 then some (qW (qW s 40 2 0) 40 3 0) else (if qIn x2 4 then (l_M_plain_1 d (x2 + 1) (qW s 41 (x2).toNatClampNeg 20)) else none)) := d_step (t := (9, [some (.ref 40), none, some (.int x2)], [(.int 4), (.int x2)], s)) 2 rfl
   (d_if (a := (26, [some (.ref 40), none, some (.int x2)], [], s)) (b := (12, [some (.ref 40), none, some (.int x2)], [], s)) rfl rfl
   (d_step (t := (36, [some (.ref 40), none, some (.int x2)], [], (qW (qW s 40 2 0) 40 3 0))) 6 rfl
   (d_ret (k := 2) rfl rfl))
   (d_step (t := (19, [some (.ref 40), none, some (.int x2)], [(.int 20), (.int x2), (.ref 41)], s)) 4 rfl
   (d_chk (a := (20, [some (.ref 40), none, some (.int x2)], [], (qW s 41 (x2).toNatClampNeg 20))) rfl rfl
   (d_step (t := (7, [some (.ref 40), none, some (.int (x2 + 1))], [], (qW s 41 (x2).toNatClampNeg 20))) 2 rfl
   (d_lab (x2 := (7, [some (.ref 40), none, some (.int (x2 + 1))], [], (qW s 41 (x2).toNatClampNeg 20))) rfl rfl rfl)))))
noncomputable def m_M_write (d : Nat) (bs : Int64) (n : Int32) (s : qMem) : Option (Int32 × qMem) := qI (qCall qMT d 111 [.ref 40, .long bs, .int n] s)
noncomputable def l_M_write_1 (d : Nat)  (x1 : Int64) (x3 : Int32) (x4 : Int32) (s : qMem) : Option (Int32 × qMem) := qI (qK qMT d 111 (31, [some (.ref 40), some (.long x1), none, some (.int x3), some (.int x4)], [], s))
set_option maxRecDepth 20000 in
theorem e_M_write (d : Nat) (bs : Int64) (n : Int32) (s : qMem) : m_M_write (d + 1) bs n s = ((m_M_in d n 1 8 s).bind (fun q1 => (if q1.1 = 0 then some ((-3), q1.2) else (if (((q1.2).1 40 5) + n) ≤ 200 then (l_M_write_1 d bs n 0 q1.2) else some ((-5), q1.2))))) := d_step (t := (4, [some (.ref 40), some (.long bs), none, some (.int n), none], [(.int 8), (.int 1), (.int n)], s)) 3 rfl
   (d_callI (o := (m_M_in d n 1 8 s)) rfl rfl (fun q1 =>
   d_if (a := (10, [some (.ref 40), some (.long bs), none, some (.int n), none], [], q1.2)) (b := (13, [some (.ref 40), some (.long bs), none, some (.int n), none], [], q1.2)) rfl rfl
   (d_step (t := (12, [some (.ref 40), some (.long bs), none, some (.int n), none], [(.int (-3))], q1.2)) 1 rfl
   (d_ret (k := 0) rfl rfl))
   (d_step (t := (22, [some (.ref 40), some (.long bs), none, some (.int n), none], [(.int 200), (.int (((q1.2).1 40 5) + n))], q1.2)) 5 rfl
   (d_if (a := (28, [some (.ref 40), some (.long bs), none, some (.int n), none], [], q1.2)) (b := (25, [some (.ref 40), some (.long bs), none, some (.int n), none], [], q1.2)) rfl rfl
   (d_step (t := (31, [some (.ref 40), some (.long bs), none, some (.int n), some (.int 0)], [], q1.2)) 2 rfl
   (d_lab (x2 := (31, [some (.ref 40), some (.long bs), none, some (.int n), some (.int 0)], [], q1.2)) rfl rfl rfl))
   (d_step (t := (27, [some (.ref 40), some (.long bs), none, some (.int n), none], [(.int (-5))], q1.2)) 1 rfl
   (d_ret (k := 0) rfl rfl))))))
set_option maxRecDepth 20000 in
theorem el_M_write_1 (d : Nat)  (x1 : Int64) (x3 : Int32) (x4 : Int32) (s : qMem) : l_M_write_1 d x1 x3 x4 s = (if x3 ≤ x4 then some ((((s).1 40 5) + x3), (qW s 40 5 (((s).1 40 5) + x3))) else (if qIn (((s).1 40 5) + x4) 200 then (l_M_write_1 d x1 x3 (x4 + 1) (qW s 43 ((((s).1 40 5) + x4)).toNatClampNeg (((x1 >>> (((8 * x4) : Int32).toInt64 &&& 63)) &&& (255))).toInt32)) else none)) := d_step (t := (34, [some (.ref 40), some (.long x1), none, some (.int x3), some (.int x4)], [(.int x3), (.int x4)], s)) 2 rfl
   (d_if (a := (67, [some (.ref 40), some (.long x1), none, some (.int x3), some (.int x4)], [], s)) (b := (37, [some (.ref 40), some (.long x1), none, some (.int x3), some (.int x4)], [], s)) rfl rfl
   (d_step (t := (81, [some (.ref 40), some (.long x1), none, some (.int x3), some (.int x4)], [(.int (((s).1 40 5) + x3))], (qW s 40 5 (((s).1 40 5) + x3)))) 8 rfl
   (d_ret (k := 0) rfl rfl))
   (d_step (t := (60, [some (.ref 40), some (.long x1), none, some (.int x3), some (.int x4)], [(.int (((x1 >>> (((8 * x4) : Int32).toInt64 &&& 63)) &&& (255))).toInt32), (.int (((s).1 40 5) + x4)), (.ref 43)], s)) 14 rfl
   (d_chk (a := (61, [some (.ref 40), some (.long x1), none, some (.int x3), some (.int x4)], [], (qW s 43 ((((s).1 40 5) + x4)).toNatClampNeg (((x1 >>> (((8 * x4) : Int32).toInt64 &&& 63)) &&& (255))).toInt32))) rfl rfl
   (d_step (t := (31, [some (.ref 40), some (.long x1), none, some (.int x3), some (.int (x4 + 1))], [], (qW s 43 ((((s).1 40 5) + x4)).toNatClampNeg (((x1 >>> (((8 * x4) : Int32).toInt64 &&& 63)) &&& (255))).toInt32))) 2 rfl
   (d_lab (x2 := (31, [some (.ref 40), some (.long x1), none, some (.int x3), some (.int (x4 + 1))], [], (qW s 43 ((((s).1 40 5) + x4)).toNatClampNeg (((x1 >>> (((8 * x4) : Int32).toInt64 &&& 63)) &&& (255))).toInt32))) rfl rfl rfl)))))
noncomputable def m_M_erase (d : Nat)  (s : qMem) : Option (Int32 × qMem) := qI (qCall qMT d 112 [.ref 40] s)
set_option maxRecDepth 20000 in
theorem e_M_erase (d : Nat)  (s : qMem) : m_M_erase (d + 1) s = some (((s).1 40 5), (qW s 40 5 0)) := d_step (t := (11, [some (.ref 40), some (.int ((s).1 40 5))], [(.int ((s).1 40 5))], (qW s 40 5 0))) 7 rfl
   (d_ret (k := 0) rfl rfl)
noncomputable def m_M_nextToken (d : Nat)  (s : qMem) : Option (qMem) := qV (qCall qMT d 113 [.ref 40] s)
noncomputable def l_M_nextToken_1 (d : Nat)   (s : qMem) : Option (qMem) := qV (qK qMT d 113 (0, [some (.ref 40)], [], s))
noncomputable def l_M_nextToken_2 (d : Nat)   (s : qMem) : Option (qMem) := qV (qK qMT d 113 (101, [some (.ref 40)], [], s))
noncomputable def l_M_nextToken_3 (d : Nat)   (s : qMem) : Option (qMem) := qV (qK qMT d 113 (241, [some (.ref 40)], [], s))
set_option maxRecDepth 20000 in
theorem e_M_nextToken (d : Nat)  (s : qMem) : m_M_nextToken (d + 1) s = (l_M_nextToken_1 d s) := rfl
set_option maxRecDepth 20000 in
theorem el_M_nextToken_1 (d : Nat)   (s : qMem) : l_M_nextToken_1 d s = (if ((s).1 40 5) ≤ ((s).1 40 7) then (if ((s).1 40 7) = ((s).1 40 5) then some (((qW (qW (qW s 40 8 ((s).1 40 7)) 40 10 0) 40 11 0)).1, (-2)) else (if qIn ((s).1 40 7) 200 then ((m_M_in d ((s).1 43 (((s).1 40 7)).toNatClampNeg) 97 122 (qW (qW (qW s 40 8 ((s).1 40 7)) 40 10 0) 40 11 0)).bind (fun q1 => (if q1.1 = 0 then (if qIn ((q1.2).1 40 7) 200 then ((m_M_in d ((q1.2).1 43 (((q1.2).1 40 7)).toNatClampNeg) 48 57 q1.2).bind (fun q2 => (if q2.1 = 0 then (if qIn ((q2.2).1 40 7) 200 then (if ((q2.2).1 43 (((q2.2).1 40 7)).toNatClampNeg) = 59 then some (qW ((q2.2).1, (-3)) 40 7 (((q2.2).1 40 7) + 1)) else some (qW ((q2.2).1, (-4)) 40 7 (((q2.2).1 40 7) + 1))) else none) else (l_M_nextToken_3 d q2.2)))) else none) else (l_M_nextToken_2 d ((q1.2).1, 0))))) else none)) else (if qIn ((s).1 40 7) 200 then (if ((s).1 43 (((s).1 40 7)).toNatClampNeg) = 32 then (l_M_nextToken_1 d (qW s 40 7 (((s).1 40 7) + 1))) else (if ((s).1 40 7) = ((s).1 40 5) then some (((qW (qW (qW s 40 8 ((s).1 40 7)) 40 10 0) 40 11 0)).1, (-2)) else (if qIn ((s).1 40 7) 200 then ((m_M_in d ((s).1 43 (((s).1 40 7)).toNatClampNeg) 97 122 (qW (qW (qW s 40 8 ((s).1 40 7)) 40 10 0) 40 11 0)).bind (fun q3 => (if q3.1 = 0 then (if qIn ((q3.2).1 40 7) 200 then ((m_M_in d ((q3.2).1 43 (((q3.2).1 40 7)).toNatClampNeg) 48 57 q3.2).bind (fun q4 => (if q4.1 = 0 then (if qIn ((q4.2).1 40 7) 200 then (if ((q4.2).1 43 (((q4.2).1 40 7)).toNatClampNeg) = 59 then some (qW ((q4.2).1, (-3)) 40 7 (((q4.2).1 40 7) + 1)) else some (qW ((q4.2).1, (-4)) 40 7 (((q4.2).1 40 7) + 1))) else none) else (l_M_nextToken_3 d q4.2)))) else none) else (l_M_nextToken_2 d ((q3.2).1, 0))))) else none))) else none)) := d_step (t := (8, [some (.ref 40)], [(.int ((s).1 40 5)), (.int ((s).1 40 7))], s)) 4 rfl
   (d_if (a := (38, [some (.ref 40)], [], s)) (b := (11, [some (.ref 40)], [], s)) rfl rfl
   (d_step (t := (64, [some (.ref 40)], [(.int ((s).1 40 5)), (.int ((s).1 40 7))], (qW (qW (qW s 40 8 ((s).1 40 7)) 40 10 0) 40 11 0))) 14 rfl
   (d_if (a := (67, [some (.ref 40)], [], (qW (qW (qW s 40 8 ((s).1 40 7)) 40 10 0) 40 11 0))) (b := (77, [some (.ref 40)], [], (qW (qW (qW s 40 8 ((s).1 40 7)) 40 10 0) 40 11 0))) rfl rfl
   (d_step (t := (394, [some (.ref 40)], [], (((qW (qW (qW s 40 8 ((s).1 40 7)) 40 10 0) 40 11 0)).1, (-2)))) 4 rfl
   (d_ret (k := 2) rfl rfl))
   (d_step (t := (85, [some (.ref 40)], [(.int ((s).1 40 7)), (.ref 43)], (qW (qW (qW s 40 8 ((s).1 40 7)) 40 10 0) 40 11 0))) 4 rfl
   (d_chk (a := (86, [some (.ref 40)], [(.int ((s).1 43 (((s).1 40 7)).toNatClampNeg))], (qW (qW (qW s 40 8 ((s).1 40 7)) 40 10 0) 40 11 0))) rfl rfl
   (d_step (t := (90, [some (.ref 40)], [(.int 122), (.int 97), (.int ((s).1 43 (((s).1 40 7)).toNatClampNeg))], (qW (qW (qW s 40 8 ((s).1 40 7)) 40 10 0) 40 11 0))) 2 rfl
   (d_callI (o := (m_M_in d ((s).1 43 (((s).1 40 7)).toNatClampNeg) 97 122 (qW (qW (qW s 40 8 ((s).1 40 7)) 40 10 0) 40 11 0))) rfl rfl (fun q1 =>
   d_if (a := (222, [some (.ref 40)], [], q1.2)) (b := (96, [some (.ref 40)], [], q1.2)) rfl rfl
   (d_step (t := (230, [some (.ref 40)], [(.int ((q1.2).1 40 7)), (.ref 43)], q1.2)) 4 rfl
   (d_chk (a := (231, [some (.ref 40)], [(.int ((q1.2).1 43 (((q1.2).1 40 7)).toNatClampNeg))], q1.2)) rfl rfl
   (d_step (t := (235, [some (.ref 40)], [(.int 57), (.int 48), (.int ((q1.2).1 43 (((q1.2).1 40 7)).toNatClampNeg))], q1.2)) 2 rfl
   (d_callI (o := (m_M_in d ((q1.2).1 43 (((q1.2).1 40 7)).toNatClampNeg) 48 57 q1.2)) rfl rfl (fun q2 =>
   d_if (a := (357, [some (.ref 40)], [], q2.2)) (b := (241, [some (.ref 40)], [], q2.2)) rfl rfl
   (d_step (t := (366, [some (.ref 40)], [(.int ((q2.2).1 40 7)), (.ref 43), (.ref 40)], q2.2)) 5 rfl
   (d_chk (a := (367, [some (.ref 40)], [(.int ((q2.2).1 43 (((q2.2).1 40 7)).toNatClampNeg)), (.ref 40)], q2.2)) rfl rfl
   (d_step (t := (369, [some (.ref 40)], [(.int 59), (.int ((q2.2).1 43 (((q2.2).1 40 7)).toNatClampNeg)), (.ref 40)], q2.2)) 1 rfl
   (d_if (a := (372, [some (.ref 40)], [(.ref 40)], q2.2)) (b := (378, [some (.ref 40)], [(.ref 40)], q2.2)) rfl rfl
   (d_step (t := (394, [some (.ref 40)], [], (qW ((q2.2).1, (-3)) 40 7 (((q2.2).1 40 7) + 1)))) 9 rfl
   (d_ret (k := 2) rfl rfl))
   (d_step (t := (394, [some (.ref 40)], [], (qW ((q2.2).1, (-4)) 40 7 (((q2.2).1 40 7) + 1)))) 8 rfl
   (d_ret (k := 2) rfl rfl))))))
   (rfl))))))
   (d_step (t := (101, [some (.ref 40)], [], ((q1.2).1, 0))) 3 rfl
   (rfl)))))))))
   (d_step (t := (19, [some (.ref 40)], [(.int ((s).1 40 7)), (.ref 43)], s)) 4 rfl
   (d_chk (a := (20, [some (.ref 40)], [(.int ((s).1 43 (((s).1 40 7)).toNatClampNeg))], s)) rfl rfl
   (d_step (t := (22, [some (.ref 40)], [(.int 32), (.int ((s).1 43 (((s).1 40 7)).toNatClampNeg))], s)) 1 rfl
   (d_if (a := (25, [some (.ref 40)], [], s)) (b := (38, [some (.ref 40)], [], s)) rfl rfl
   (d_step (t := (0, [some (.ref 40)], [], (qW s 40 7 (((s).1 40 7) + 1)))) 7 rfl
   (rfl))
   (d_step (t := (64, [some (.ref 40)], [(.int ((s).1 40 5)), (.int ((s).1 40 7))], (qW (qW (qW s 40 8 ((s).1 40 7)) 40 10 0) 40 11 0))) 14 rfl
   (d_if (a := (67, [some (.ref 40)], [], (qW (qW (qW s 40 8 ((s).1 40 7)) 40 10 0) 40 11 0))) (b := (77, [some (.ref 40)], [], (qW (qW (qW s 40 8 ((s).1 40 7)) 40 10 0) 40 11 0))) rfl rfl
   (d_step (t := (394, [some (.ref 40)], [], (((qW (qW (qW s 40 8 ((s).1 40 7)) 40 10 0) 40 11 0)).1, (-2)))) 4 rfl
   (d_ret (k := 2) rfl rfl))
   (d_step (t := (85, [some (.ref 40)], [(.int ((s).1 40 7)), (.ref 43)], (qW (qW (qW s 40 8 ((s).1 40 7)) 40 10 0) 40 11 0))) 4 rfl
   (d_chk (a := (86, [some (.ref 40)], [(.int ((s).1 43 (((s).1 40 7)).toNatClampNeg))], (qW (qW (qW s 40 8 ((s).1 40 7)) 40 10 0) 40 11 0))) rfl rfl
   (d_step (t := (90, [some (.ref 40)], [(.int 122), (.int 97), (.int ((s).1 43 (((s).1 40 7)).toNatClampNeg))], (qW (qW (qW s 40 8 ((s).1 40 7)) 40 10 0) 40 11 0))) 2 rfl
   (d_callI (o := (m_M_in d ((s).1 43 (((s).1 40 7)).toNatClampNeg) 97 122 (qW (qW (qW s 40 8 ((s).1 40 7)) 40 10 0) 40 11 0))) rfl rfl (fun q3 =>
   d_if (a := (222, [some (.ref 40)], [], q3.2)) (b := (96, [some (.ref 40)], [], q3.2)) rfl rfl
   (d_step (t := (230, [some (.ref 40)], [(.int ((q3.2).1 40 7)), (.ref 43)], q3.2)) 4 rfl
   (d_chk (a := (231, [some (.ref 40)], [(.int ((q3.2).1 43 (((q3.2).1 40 7)).toNatClampNeg))], q3.2)) rfl rfl
   (d_step (t := (235, [some (.ref 40)], [(.int 57), (.int 48), (.int ((q3.2).1 43 (((q3.2).1 40 7)).toNatClampNeg))], q3.2)) 2 rfl
   (d_callI (o := (m_M_in d ((q3.2).1 43 (((q3.2).1 40 7)).toNatClampNeg) 48 57 q3.2)) rfl rfl (fun q4 =>
   d_if (a := (357, [some (.ref 40)], [], q4.2)) (b := (241, [some (.ref 40)], [], q4.2)) rfl rfl
   (d_step (t := (366, [some (.ref 40)], [(.int ((q4.2).1 40 7)), (.ref 43), (.ref 40)], q4.2)) 5 rfl
   (d_chk (a := (367, [some (.ref 40)], [(.int ((q4.2).1 43 (((q4.2).1 40 7)).toNatClampNeg)), (.ref 40)], q4.2)) rfl rfl
   (d_step (t := (369, [some (.ref 40)], [(.int 59), (.int ((q4.2).1 43 (((q4.2).1 40 7)).toNatClampNeg)), (.ref 40)], q4.2)) 1 rfl
   (d_if (a := (372, [some (.ref 40)], [(.ref 40)], q4.2)) (b := (378, [some (.ref 40)], [(.ref 40)], q4.2)) rfl rfl
   (d_step (t := (394, [some (.ref 40)], [], (qW ((q4.2).1, (-3)) 40 7 (((q4.2).1 40 7) + 1)))) 9 rfl
   (d_ret (k := 2) rfl rfl))
   (d_step (t := (394, [some (.ref 40)], [], (qW ((q4.2).1, (-4)) 40 7 (((q4.2).1 40 7) + 1)))) 8 rfl
   (d_ret (k := 2) rfl rfl))))))
   (rfl))))))
   (d_step (t := (101, [some (.ref 40)], [], ((q3.2).1, 0))) 3 rfl
   (rfl))))))))))))))
set_option maxRecDepth 20000 in
theorem el_M_nextToken_2 (d : Nat)   (s : qMem) : l_M_nextToken_2 d s = (if ((s).1 40 5) ≤ ((s).1 40 7) then (if (((s).1 40 7) - ((s).1 40 8)) ≤ 9 then some ((s).1, (s).2) else some ((s).1, (-4))) else (if qIn ((s).1 40 7) 200 then ((m_M_in d ((s).1 43 (((s).1 40 7)).toNatClampNeg) 97 122 s).bind (fun q1 => (if q1.1 = 0 then (if (((q1.2).1 40 7) - ((q1.2).1 40 8)) ≤ 9 then some ((q1.2).1, (q1.2).2) else some ((q1.2).1, (-4))) else (if 9 ≤ (((q1.2).1 40 7) - ((q1.2).1 40 8)) then (l_M_nextToken_2 d (qW ((q1.2).1, (-4)) 40 7 (((q1.2).1 40 7) + 1))) else (if qIn ((q1.2).1 40 7) 200 then (l_M_nextToken_2 d (qW ((q1.2).1, ((((27) * (q1.2).2) + (((q1.2).1 43 (((q1.2).1 40 7)).toNatClampNeg)).toInt64) - (96))) 40 7 (((q1.2).1 40 7) + 1))) else none))))) else none)) := d_step (t := (109, [some (.ref 40)], [(.int ((s).1 40 5)), (.int ((s).1 40 7))], s)) 4 rfl
   (d_if (a := (191, [some (.ref 40)], [], s)) (b := (112, [some (.ref 40)], [], s)) rfl rfl
   (d_step (t := (203, [some (.ref 40)], [(.int 9), (.int (((s).1 40 7) - ((s).1 40 8))), (.ref 40)], s)) 7 rfl
   (d_if (a := (212, [some (.ref 40)], [(.ref 40)], s)) (b := (206, [some (.ref 40)], [(.ref 40)], s)) rfl rfl
   (d_step (t := (394, [some (.ref 40)], [], ((s).1, (s).2))) 4 rfl
   (d_ret (k := 2) rfl rfl))
   (d_step (t := (394, [some (.ref 40)], [], ((s).1, (-4)))) 4 rfl
   (d_ret (k := 2) rfl rfl))))
   (d_step (t := (120, [some (.ref 40)], [(.int ((s).1 40 7)), (.ref 43)], s)) 4 rfl
   (d_chk (a := (121, [some (.ref 40)], [(.int ((s).1 43 (((s).1 40 7)).toNatClampNeg))], s)) rfl rfl
   (d_step (t := (125, [some (.ref 40)], [(.int 122), (.int 97), (.int ((s).1 43 (((s).1 40 7)).toNatClampNeg))], s)) 2 rfl
   (d_callI (o := (m_M_in d ((s).1 43 (((s).1 40 7)).toNatClampNeg) 97 122 s)) rfl rfl (fun q1 =>
   d_if (a := (191, [some (.ref 40)], [], q1.2)) (b := (131, [some (.ref 40)], [], q1.2)) rfl rfl
   (d_step (t := (203, [some (.ref 40)], [(.int 9), (.int (((q1.2).1 40 7) - ((q1.2).1 40 8))), (.ref 40)], q1.2)) 7 rfl
   (d_if (a := (212, [some (.ref 40)], [(.ref 40)], q1.2)) (b := (206, [some (.ref 40)], [(.ref 40)], q1.2)) rfl rfl
   (d_step (t := (394, [some (.ref 40)], [], ((q1.2).1, (q1.2).2))) 4 rfl
   (d_ret (k := 2) rfl rfl))
   (d_step (t := (394, [some (.ref 40)], [], ((q1.2).1, (-4)))) 4 rfl
   (d_ret (k := 2) rfl rfl))))
   (d_step (t := (143, [some (.ref 40)], [(.int 9), (.int (((q1.2).1 40 7) - ((q1.2).1 40 8))), (.ref 40)], q1.2)) 7 rfl
   (d_if (a := (172, [some (.ref 40)], [(.ref 40)], q1.2)) (b := (146, [some (.ref 40)], [(.ref 40)], q1.2)) rfl rfl
   (d_step (t := (101, [some (.ref 40)], [], (qW ((q1.2).1, (-4)) 40 7 (((q1.2).1 40 7) + 1)))) 9 rfl
   (rfl))
   (d_step (t := (162, [some (.ref 40)], [(.int ((q1.2).1 40 7)), (.ref 43), (.long ((27) * (q1.2).2)), (.ref 40)], q1.2)) 8 rfl
   (d_chk (a := (163, [some (.ref 40)], [(.int ((q1.2).1 43 (((q1.2).1 40 7)).toNatClampNeg)), (.long ((27) * (q1.2).2)), (.ref 40)], q1.2)) rfl rfl
   (d_step (t := (101, [some (.ref 40)], [], (qW ((q1.2).1, ((((27) * (q1.2).2) + (((q1.2).1 43 (((q1.2).1 40 7)).toNatClampNeg)).toInt64) - (96))) 40 7 (((q1.2).1 40 7) + 1)))) 13 rfl
   (rfl))))))))))))
set_option maxRecDepth 20000 in
theorem el_M_nextToken_3 (d : Nat)   (s : qMem) : l_M_nextToken_3 d s = (if ((s).1 40 5) ≤ ((s).1 40 7) then (if ((s).1 40 10) ≤ 2 then some ((s).1, (-1)) else some ((s).1, (-4))) else (if qIn ((s).1 40 7) 200 then ((m_M_in d ((s).1 43 (((s).1 40 7)).toNatClampNeg) 48 57 s).bind (fun q1 => (if q1.1 = 0 then (if ((q1.2).1 40 10) ≤ 2 then some ((q1.2).1, (-1)) else some ((q1.2).1, (-4))) else (if 2 ≤ ((q1.2).1 40 10) then (l_M_nextToken_3 d (qW (qW (qW q1.2 40 11 ((q1.2).1 40 11)) 40 10 (((q1.2).1 40 10) + 1)) 40 7 (((q1.2).1 40 7) + 1))) else (if qIn ((q1.2).1 40 7) 200 then (l_M_nextToken_3 d (qW (qW (qW q1.2 40 11 (((10 * ((q1.2).1 40 11)) + ((q1.2).1 43 (((q1.2).1 40 7)).toNatClampNeg)) - 48)) 40 10 (((q1.2).1 40 10) + 1)) 40 7 (((q1.2).1 40 7) + 1))) else none))))) else none)) := d_step (t := (249, [some (.ref 40)], [(.int ((s).1 40 5)), (.int ((s).1 40 7))], s)) 4 rfl
   (d_if (a := (333, [some (.ref 40)], [], s)) (b := (252, [some (.ref 40)], [], s)) rfl rfl
   (d_step (t := (339, [some (.ref 40)], [(.int 2), (.int ((s).1 40 10)), (.ref 40)], s)) 4 rfl
   (d_if (a := (348, [some (.ref 40)], [(.ref 40)], s)) (b := (342, [some (.ref 40)], [(.ref 40)], s)) rfl rfl
   (d_step (t := (394, [some (.ref 40)], [], ((s).1, (-1)))) 3 rfl
   (d_ret (k := 2) rfl rfl))
   (d_step (t := (394, [some (.ref 40)], [], ((s).1, (-4)))) 4 rfl
   (d_ret (k := 2) rfl rfl))))
   (d_step (t := (260, [some (.ref 40)], [(.int ((s).1 40 7)), (.ref 43)], s)) 4 rfl
   (d_chk (a := (261, [some (.ref 40)], [(.int ((s).1 43 (((s).1 40 7)).toNatClampNeg))], s)) rfl rfl
   (d_step (t := (265, [some (.ref 40)], [(.int 57), (.int 48), (.int ((s).1 43 (((s).1 40 7)).toNatClampNeg))], s)) 2 rfl
   (d_callI (o := (m_M_in d ((s).1 43 (((s).1 40 7)).toNatClampNeg) 48 57 s)) rfl rfl (fun q1 =>
   d_if (a := (333, [some (.ref 40)], [], q1.2)) (b := (271, [some (.ref 40)], [], q1.2)) rfl rfl
   (d_step (t := (339, [some (.ref 40)], [(.int 2), (.int ((q1.2).1 40 10)), (.ref 40)], q1.2)) 4 rfl
   (d_if (a := (348, [some (.ref 40)], [(.ref 40)], q1.2)) (b := (342, [some (.ref 40)], [(.ref 40)], q1.2)) rfl rfl
   (d_step (t := (394, [some (.ref 40)], [], ((q1.2).1, (-1)))) 3 rfl
   (d_ret (k := 2) rfl rfl))
   (d_step (t := (394, [some (.ref 40)], [], ((q1.2).1, (-4)))) 4 rfl
   (d_ret (k := 2) rfl rfl))))
   (d_step (t := (277, [some (.ref 40)], [(.int 2), (.int ((q1.2).1 40 10)), (.ref 40)], q1.2)) 4 rfl
   (d_if (a := (303, [some (.ref 40)], [(.ref 40)], q1.2)) (b := (280, [some (.ref 40)], [(.ref 40)], q1.2)) rfl rfl
   (d_step (t := (241, [some (.ref 40)], [], (qW (qW (qW q1.2 40 11 ((q1.2).1 40 11)) 40 10 (((q1.2).1 40 10) + 1)) 40 7 (((q1.2).1 40 7) + 1)))) 16 rfl
   (rfl))
   (d_step (t := (295, [some (.ref 40)], [(.int ((q1.2).1 40 7)), (.ref 43), (.int (10 * ((q1.2).1 40 11))), (.ref 40)], q1.2)) 8 rfl
   (d_chk (a := (296, [some (.ref 40)], [(.int ((q1.2).1 43 (((q1.2).1 40 7)).toNatClampNeg)), (.int (10 * ((q1.2).1 40 11))), (.ref 40)], q1.2)) rfl rfl
   (d_step (t := (241, [some (.ref 40)], [], (qW (qW (qW q1.2 40 11 (((10 * ((q1.2).1 40 11)) + ((q1.2).1 43 (((q1.2).1 40 7)).toNatClampNeg)) - 48)) 40 10 (((q1.2).1 40 10) + 1)) 40 7 (((q1.2).1 40 7) + 1)))) 18 rfl
   (rfl))))))))))))
noncomputable def m_M_fails (d : Nat)  (s : qMem) : Option (Int32 × qMem) := qI (qCall qMT d 114 [.ref 40] s)
set_option maxRecDepth 20000 in
theorem e_M_fails (d : Nat)  (s : qMem) : m_M_fails (d + 1) s = some (0, (qW s 40 12 ((s).1 40 8))) := d_step (t := (9, [some (.ref 40)], [(.int 0)], (qW s 40 12 ((s).1 40 8)))) 5 rfl
   (d_ret (k := 0) rfl rfl)
noncomputable def m_M_isNumber (d : Nat) (w : Int32) (a : Int32) (b : Int32) (s : qMem) : Option (Int32 × qMem) := qI (qCall qMT d 115 [.ref 40, .int w, .int a, .int b] s)
set_option maxRecDepth 20000 in
theorem e_M_isNumber (d : Nat) (w : Int32) (a : Int32) (b : Int32) (s : qMem) : m_M_isNumber (d + 1) w a b s = ((m_M_nextToken d s).bind (fun q1 => (if (lg_cmp (q1).2 (-1)) = 0 then ((m_M_in d ((q1).1 40 11) a b q1).bind (fun q2 => (if q2.1 = 0 then ((m_M_fails d q2.2).bind (fun q3 => (if q3.1 = 0 ∨ q3.1 = 1 then some (q3.1, q3.2) else none))) else (if qIn w 60 then some (1, (qW q2.2 44 (w).toNatClampNeg ((q2.2).1 40 11))) else none)))) else ((m_M_fails d q1).bind (fun q4 => (if q4.1 = 0 ∨ q4.1 = 1 then some (q4.1, q4.2) else none)))))) := d_step (t := (1, [some (.ref 40), some (.int w), some (.int a), some (.int b)], [(.ref 40)], s)) 1 rfl
   (d_callV (o := (m_M_nextToken d s)) rfl rfl (fun q1 =>
   d_step (t := (12, [some (.ref 40), some (.int w), some (.int a), some (.int b)], [(.int (lg_cmp (q1).2 (-1)))], q1)) 4 rfl
   (d_if (a := (15, [some (.ref 40), some (.int w), some (.int a), some (.int b)], [], q1)) (b := (27, [some (.ref 40), some (.int w), some (.int a), some (.int b)], [], q1)) rfl rfl
   (d_step (t := (21, [some (.ref 40), some (.int w), some (.int a), some (.int b)], [(.int b), (.int a), (.int ((q1).1 40 11))], q1)) 4 rfl
   (d_callI (o := (m_M_in d ((q1).1 40 11) a b q1)) rfl rfl (fun q2 =>
   d_if (a := (27, [some (.ref 40), some (.int w), some (.int a), some (.int b)], [], q2.2)) (b := (32, [some (.ref 40), some (.int w), some (.int a), some (.int b)], [], q2.2)) rfl rfl
   (d_step (t := (28, [some (.ref 40), some (.int w), some (.int a), some (.int b)], [(.ref 40)], q2.2)) 1 rfl
   (d_callI (o := (m_M_fails d q2.2)) rfl rfl (fun q3 =>
   d_retz (k := 0) rfl rfl)))
   (d_step (t := (41, [some (.ref 40), some (.int w), some (.int a), some (.int b)], [(.int ((q2.2).1 40 11)), (.int w), (.ref 44)], q2.2)) 5 rfl
   (d_chk (a := (42, [some (.ref 40), some (.int w), some (.int a), some (.int b)], [], (qW q2.2 44 (w).toNatClampNeg ((q2.2).1 40 11)))) rfl rfl
   (d_step (t := (43, [some (.ref 40), some (.int w), some (.int a), some (.int b)], [(.int 1)], (qW q2.2 44 (w).toNatClampNeg ((q2.2).1 40 11)))) 1 rfl
   (d_ret (k := 0) rfl rfl)))))))
   (d_step (t := (28, [some (.ref 40), some (.int w), some (.int a), some (.int b)], [(.ref 40)], q1)) 1 rfl
   (d_callI (o := (m_M_fails d q1)) rfl rfl (fun q4 =>
   d_retz (k := 0) rfl rfl))))))
noncomputable def m_M_isOneLine (d : Nat) (w : Int32) (s : qMem) : Option (Int32 × qMem) := qI (qCall qMT d 116 [.ref 40, .int w] s)
set_option maxRecDepth 20000 in
theorem e_M_isOneLine (d : Nat) (w : Int32) (s : qMem) : m_M_isOneLine (d + 1) w s = (if ((s).1 40 15) = 5 then ((m_M_fails d s).bind (fun q1 => (if q1.1 = 0 ∨ q1.1 = 1 then some (q1.1, q1.2) else none))) else ((m_M_isNumber d (w + 1) 1 30 (qW s 40 15 (((s).1 40 15) + 1))).bind (fun q2 => (if q2.1 = 0 then some (0, q2.2) else ((m_M_isNumber d (w + 2) 1 50 q2.2).bind (fun q3 => (if q3.1 = 0 then some (0, q3.2) else ((m_M_isNumber d (w + 3) 0 99 q3.2).bind (fun q4 => (if q4.1 = 0 then some (0, q4.2) else some (1, q4.2))))))))))) := d_step (t := (5, [some (.ref 40), some (.int w)], [(.int 5), (.int ((s).1 40 15))], s)) 3 rfl
   (d_if (a := (8, [some (.ref 40), some (.int w)], [], s)) (b := (13, [some (.ref 40), some (.int w)], [], s)) rfl rfl
   (d_step (t := (9, [some (.ref 40), some (.int w)], [(.ref 40)], s)) 1 rfl
   (d_callI (o := (m_M_fails d s)) rfl rfl (fun q1 =>
   d_retz (k := 0) rfl rfl)))
   (d_step (t := (30, [some (.ref 40), some (.int w)], [(.int 30), (.int 1), (.int (w + 1)), (.ref 40)], (qW s 40 15 (((s).1 40 15) + 1)))) 12 rfl
   (d_callI (o := (m_M_isNumber d (w + 1) 1 30 (qW s 40 15 (((s).1 40 15) + 1)))) rfl rfl (fun q2 =>
   d_if (a := (66, [some (.ref 40), some (.int w)], [], q2.2)) (b := (36, [some (.ref 40), some (.int w)], [], q2.2)) rfl rfl
   (d_step (t := (67, [some (.ref 40), some (.int w)], [(.int 0)], q2.2)) 1 rfl
   (d_ret (k := 0) rfl rfl))
   (d_step (t := (43, [some (.ref 40), some (.int w)], [(.int 50), (.int 1), (.int (w + 2)), (.ref 40)], q2.2)) 6 rfl
   (d_callI (o := (m_M_isNumber d (w + 2) 1 50 q2.2)) rfl rfl (fun q3 =>
   d_if (a := (66, [some (.ref 40), some (.int w)], [], q3.2)) (b := (49, [some (.ref 40), some (.int w)], [], q3.2)) rfl rfl
   (d_step (t := (67, [some (.ref 40), some (.int w)], [(.int 0)], q3.2)) 1 rfl
   (d_ret (k := 0) rfl rfl))
   (d_step (t := (56, [some (.ref 40), some (.int w)], [(.int 99), (.int 0), (.int (w + 3)), (.ref 40)], q3.2)) 6 rfl
   (d_callI (o := (m_M_isNumber d (w + 3) 0 99 q3.2)) rfl rfl (fun q4 =>
   d_if (a := (66, [some (.ref 40), some (.int w)], [], q4.2)) (b := (62, [some (.ref 40), some (.int w)], [], q4.2)) rfl rfl
   (d_step (t := (67, [some (.ref 40), some (.int w)], [(.int 0)], q4.2)) 1 rfl
   (d_ret (k := 0) rfl rfl))
   (d_step (t := (67, [some (.ref 40), some (.int w)], [(.int 1)], q4.2)) 2 rfl
   (d_ret (k := 0) rfl rfl))))))))))))
noncomputable def m_M_isLine (d : Nat) (w : Int32) (s : qMem) : Option (Int32 × qMem) := qI (qCall qMT d 117 [.ref 40, .int w] s)
noncomputable def l_M_isLine_1 (d : Nat)  (x1 : Int32) (z0 : Int32) (s : qMem) : Option (Int32 × qMem) := qI (qK qMT d 117 (80, [some (.ref 40), some (.int x1), none, none], [(.int z0)], s))
noncomputable def l_M_isLine_2 (d : Nat)  (x1 : Int32) (x2 : Int32) (z0 : Int32) (s : qMem) : Option (Int32 × qMem) := qI (qK qMT d 117 (161, [some (.ref 40), some (.int x1), some (.int x2), none], [(.int z0)], s))
set_option maxRecDepth 20000 in
theorem e_M_isLine (d : Nat) (w : Int32) (s : qMem) : m_M_isLine (d + 1) w s = ((m_M_nextToken d s).bind (fun q1 => (if (lg_cmp (q1).2 (6334396438)) = 0 then (l_M_isLine_1 d w 0 q1) else (if (lg_cmp (q1).2 (237923154)) = 0 then (l_M_isLine_1 d w 1 q1) else (if (lg_cmp (q1).2 (8868856)) = 0 then (l_M_isLine_1 d w 2 q1) else (if (lg_cmp (q1).2 (10124021)) = 0 then (l_M_isLine_1 d w 3 q1) else (l_M_isLine_1 d w (if (lg_cmp (q1).2 (10492029)) = 0 then 4 else (-1) : Int32) q1))))))) := d_step (t := (1, [some (.ref 40), some (.int w), none, none], [(.ref 40)], s)) 1 rfl
   (d_callV (o := (m_M_nextToken d s)) rfl rfl (fun q1 =>
   d_step (t := (12, [some (.ref 40), some (.int w), none, none], [(.int (lg_cmp (q1).2 (6334396438)))], q1)) 4 rfl
   (d_if (a := (15, [some (.ref 40), some (.int w), none, none], [], q1)) (b := (19, [some (.ref 40), some (.int w), none, none], [], q1)) rfl rfl
   (d_step (t := (80, [some (.ref 40), some (.int w), none, none], [(.int 0)], q1)) 2 rfl
   (d_lab (x2 := (80, [some (.ref 40), some (.int w), none, none], [(.int 0)], q1)) rfl rfl rfl))
   (d_step (t := (27, [some (.ref 40), some (.int w), none, none], [(.int (lg_cmp (q1).2 (237923154)))], q1)) 4 rfl
   (d_if (a := (30, [some (.ref 40), some (.int w), none, none], [], q1)) (b := (34, [some (.ref 40), some (.int w), none, none], [], q1)) rfl rfl
   (d_step (t := (80, [some (.ref 40), some (.int w), none, none], [(.int 1)], q1)) 2 rfl
   (d_lab (x2 := (80, [some (.ref 40), some (.int w), none, none], [(.int 1)], q1)) rfl rfl rfl))
   (d_step (t := (42, [some (.ref 40), some (.int w), none, none], [(.int (lg_cmp (q1).2 (8868856)))], q1)) 4 rfl
   (d_if (a := (45, [some (.ref 40), some (.int w), none, none], [], q1)) (b := (49, [some (.ref 40), some (.int w), none, none], [], q1)) rfl rfl
   (d_step (t := (80, [some (.ref 40), some (.int w), none, none], [(.int 2)], q1)) 2 rfl
   (d_lab (x2 := (80, [some (.ref 40), some (.int w), none, none], [(.int 2)], q1)) rfl rfl rfl))
   (d_step (t := (57, [some (.ref 40), some (.int w), none, none], [(.int (lg_cmp (q1).2 (10124021)))], q1)) 4 rfl
   (d_if (a := (60, [some (.ref 40), some (.int w), none, none], [], q1)) (b := (64, [some (.ref 40), some (.int w), none, none], [], q1)) rfl rfl
   (d_step (t := (80, [some (.ref 40), some (.int w), none, none], [(.int 3)], q1)) 2 rfl
   (d_lab (x2 := (80, [some (.ref 40), some (.int w), none, none], [(.int 3)], q1)) rfl rfl rfl))
   (d_step (t := (72, [some (.ref 40), some (.int w), none, none], [(.int (lg_cmp (q1).2 (10492029)))], q1)) 4 rfl
   (d_mrg (a := (75, [some (.ref 40), some (.int w), none, none], [], q1)) (b := (79, [some (.ref 40), some (.int w), none, none], [], q1)) (v1 := 4) (v2 := (-1)) (z := fun v9 => (80, [some (.ref 40), some (.int w), none, none], [(.int v9)], q1)) 2 1 rfl rfl rfl rfl
   (d_lab (x2 := (80, [some (.ref 40), some (.int w), none, none], [(.int (if (lg_cmp (q1).2 (10492029)) = 0 then 4 else (-1) : Int32))], q1)) rfl rfl rfl))))))))))))
set_option maxRecDepth 20000 in
theorem el_M_isLine_1 (d : Nat)  (x1 : Int32) (z0 : Int32) (s : qMem) : l_M_isLine_1 d x1 z0 s = (if (lg_cmp (s).2 (388708)) = 0 then (l_M_isLine_2 d x1 z0 5 s) else (if (lg_cmp (s).2 (365666)) = 0 then (l_M_isLine_2 d x1 z0 6 s) else (if (lg_cmp (s).2 (247162)) = 0 then (l_M_isLine_2 d x1 z0 7 s) else (if (lg_cmp (s).2 (47)) = 0 then (l_M_isLine_2 d x1 z0 8 s) else (l_M_isLine_2 d x1 z0 (if (lg_cmp (s).2 (208906747)) = 0 then 9 else (-1) : Int32) s))))) := d_step (t := (89, [some (.ref 40), some (.int x1), some (.int z0), none], [(.int (lg_cmp (s).2 (388708)))], s)) 5 rfl
   (d_if (a := (92, [some (.ref 40), some (.int x1), some (.int z0), none], [], s)) (b := (96, [some (.ref 40), some (.int x1), some (.int z0), none], [], s)) rfl rfl
   (d_step (t := (161, [some (.ref 40), some (.int x1), some (.int z0), none], [(.int 5)], s)) 2 rfl
   (d_lab (x2 := (161, [some (.ref 40), some (.int x1), some (.int z0), none], [(.int 5)], s)) rfl rfl rfl))
   (d_step (t := (104, [some (.ref 40), some (.int x1), some (.int z0), none], [(.int (lg_cmp (s).2 (365666)))], s)) 4 rfl
   (d_if (a := (107, [some (.ref 40), some (.int x1), some (.int z0), none], [], s)) (b := (112, [some (.ref 40), some (.int x1), some (.int z0), none], [], s)) rfl rfl
   (d_step (t := (161, [some (.ref 40), some (.int x1), some (.int z0), none], [(.int 6)], s)) 2 rfl
   (d_lab (x2 := (161, [some (.ref 40), some (.int x1), some (.int z0), none], [(.int 6)], s)) rfl rfl rfl))
   (d_step (t := (120, [some (.ref 40), some (.int x1), some (.int z0), none], [(.int (lg_cmp (s).2 (247162)))], s)) 4 rfl
   (d_if (a := (123, [some (.ref 40), some (.int x1), some (.int z0), none], [], s)) (b := (128, [some (.ref 40), some (.int x1), some (.int z0), none], [], s)) rfl rfl
   (d_step (t := (161, [some (.ref 40), some (.int x1), some (.int z0), none], [(.int 7)], s)) 2 rfl
   (d_lab (x2 := (161, [some (.ref 40), some (.int x1), some (.int z0), none], [(.int 7)], s)) rfl rfl rfl))
   (d_step (t := (136, [some (.ref 40), some (.int x1), some (.int z0), none], [(.int (lg_cmp (s).2 (47)))], s)) 4 rfl
   (d_if (a := (139, [some (.ref 40), some (.int x1), some (.int z0), none], [], s)) (b := (144, [some (.ref 40), some (.int x1), some (.int z0), none], [], s)) rfl rfl
   (d_step (t := (161, [some (.ref 40), some (.int x1), some (.int z0), none], [(.int 8)], s)) 2 rfl
   (d_lab (x2 := (161, [some (.ref 40), some (.int x1), some (.int z0), none], [(.int 8)], s)) rfl rfl rfl))
   (d_step (t := (152, [some (.ref 40), some (.int x1), some (.int z0), none], [(.int (lg_cmp (s).2 (208906747)))], s)) 4 rfl
   (d_mrg (a := (155, [some (.ref 40), some (.int x1), some (.int z0), none], [], s)) (b := (160, [some (.ref 40), some (.int x1), some (.int z0), none], [], s)) (v1 := 9) (v2 := (-1)) (z := fun v9 => (161, [some (.ref 40), some (.int x1), some (.int z0), none], [(.int v9)], s)) 2 1 rfl rfl rfl rfl
   (d_lab (x2 := (161, [some (.ref 40), some (.int x1), some (.int z0), none], [(.int (if (lg_cmp (s).2 (208906747)) = 0 then 9 else (-1) : Int32))], s)) rfl rfl rfl))))))))))
set_option maxRecDepth 20000 in
theorem el_M_isLine_2 (d : Nat)  (x1 : Int32) (x2 : Int32) (z0 : Int32) (s : qMem) : l_M_isLine_2 d x1 x2 z0 s = (if qIn x1 60 then (if qIn x1 60 then (if (((qW s 44 (x1).toNatClampNeg (if x2 = (-1) then z0 else x2 : Int32))).1 44 (x1).toNatClampNeg) = 0 then ((m_M_isOneLine d x1 (qW s 44 (x1).toNatClampNeg (if x2 = (-1) then z0 else x2 : Int32))).bind (fun q1 => (if q1.1 = 0 ∨ q1.1 = 1 then some (q1.1, q1.2) else none))) else (if (((qW s 44 (x1).toNatClampNeg (if x2 = (-1) then z0 else x2 : Int32))).1 44 (x1).toNatClampNeg) = 1 then ((m_M_isOneLine d x1 (qW s 44 (x1).toNatClampNeg (if x2 = (-1) then z0 else x2 : Int32))).bind (fun q2 => (if q2.1 = 0 ∨ q2.1 = 1 then some (q2.1, q2.2) else none))) else (if (((qW s 44 (x1).toNatClampNeg (if x2 = (-1) then z0 else x2 : Int32))).1 44 (x1).toNatClampNeg) = 2 then ((m_M_isOneLine d x1 (qW s 44 (x1).toNatClampNeg (if x2 = (-1) then z0 else x2 : Int32))).bind (fun q3 => (if q3.1 = 0 ∨ q3.1 = 1 then some (q3.1, q3.2) else none))) else (if (((qW s 44 (x1).toNatClampNeg (if x2 = (-1) then z0 else x2 : Int32))).1 44 (x1).toNatClampNeg) = 3 then ((m_M_isOneLine d x1 (qW s 44 (x1).toNatClampNeg (if x2 = (-1) then z0 else x2 : Int32))).bind (fun q4 => (if q4.1 = 0 ∨ q4.1 = 1 then some (q4.1, q4.2) else none))) else (if (((qW s 44 (x1).toNatClampNeg (if x2 = (-1) then z0 else x2 : Int32))).1 44 (x1).toNatClampNeg) = 4 then ((m_M_isNumber d (x1 + 1) 1 4 (qW s 44 (x1).toNatClampNeg (if x2 = (-1) then z0 else x2 : Int32))).bind (fun q5 => (if q5.1 = 0 then some (0, q5.2) else (if qIn (x1 + 1) 60 then some (1, (qW (qW q5.2 40 14 ((q5.2).1 44 ((x1 + 1)).toNatClampNeg)) 40 15 0)) else none)))) else (if (((qW s 44 (x1).toNatClampNeg (if x2 = (-1) then z0 else x2 : Int32))).1 44 (x1).toNatClampNeg) = 5 then ((m_M_isNumber d (x1 + 1) 0 (((s).1 40 14) - 1) (qW s 44 (x1).toNatClampNeg (if x2 = (-1) then z0 else x2 : Int32))).bind (fun q6 => (if q6.1 = 0 then some (0, q6.2) else ((m_M_isNumber d (x1 + 2) 1 60 q6.2).bind (fun q7 => (if q7.1 = 0 then some (0, q7.2) else some (1, q7.2))))))) else (if (((qW s 44 (x1).toNatClampNeg (if x2 = (-1) then z0 else x2 : Int32))).1 44 (x1).toNatClampNeg) = 6 then ((m_M_isNumber d (x1 + 1) 0 (((s).1 40 14) - 1) (qW s 44 (x1).toNatClampNeg (if x2 = (-1) then z0 else x2 : Int32))).bind (fun q8 => (if q8.1 = 0 ∨ q8.1 = 1 then some (q8.1, q8.2) else none))) else (if (((qW s 44 (x1).toNatClampNeg (if x2 = (-1) then z0 else x2 : Int32))).1 44 (x1).toNatClampNeg) = 7 then ((m_M_isNumber d (x1 + 1) 0 (((s).1 40 15) - 1) (qW s 44 (x1).toNatClampNeg (if x2 = (-1) then z0 else x2 : Int32))).bind (fun q9 => (if q9.1 = 0 then some (0, q9.2) else ((m_M_isNumber d (x1 + 2) 0 49 q9.2).bind (fun q10 => (if q10.1 = 0 then some (0, q10.2) else some (1, q10.2))))))) else (if (((qW s 44 (x1).toNatClampNeg (if x2 = (-1) then z0 else x2 : Int32))).1 44 (x1).toNatClampNeg) = 8 then ((m_M_isNumber d (x1 + 1) 0 (((s).1 40 15) - 1) (qW s 44 (x1).toNatClampNeg (if x2 = (-1) then z0 else x2 : Int32))).bind (fun q11 => (if q11.1 = 0 then some (0, q11.2) else ((m_M_isNumber d (x1 + 2) 0 ((q11.2).1 40 14) q11.2).bind (fun q12 => (if q12.1 = 0 then some (0, q12.2) else some (1, q12.2))))))) else (if (((qW s 44 (x1).toNatClampNeg (if x2 = (-1) then z0 else x2 : Int32))).1 44 (x1).toNatClampNeg) = 9 then some (1, (qW (qW s 44 (x1).toNatClampNeg (if x2 = (-1) then z0 else x2 : Int32)) 40 15 0)) else ((m_M_fails d (qW s 44 (x1).toNatClampNeg (if x2 = (-1) then z0 else x2 : Int32))).bind (fun q13 => (if q13.1 = 0 ∨ q13.1 = 1 then some (q13.1, q13.2) else none))))))))))))) else none) else none) := d_step (t := (169, [some (.ref 40), some (.int x1), some (.int x2), some (.int z0)], [(.int (-1)), (.int x2), (.int x1), (.ref 44)], s)) 6 rfl
   (d_mrg (a := (172, [some (.ref 40), some (.int x1), some (.int x2), some (.int z0)], [(.int x1), (.ref 44)], s)) (b := (176, [some (.ref 40), some (.int x1), some (.int x2), some (.int z0)], [(.int x1), (.ref 44)], s)) (v1 := z0) (v2 := x2) (z := fun v9 => (177, [some (.ref 40), some (.int x1), some (.int x2), some (.int z0)], [(.int v9), (.int x1), (.ref 44)], s)) 2 1 rfl rfl rfl rfl
   (d_chk (a := (178, [some (.ref 40), some (.int x1), some (.int x2), some (.int z0)], [], (qW s 44 (x1).toNatClampNeg (if x2 = (-1) then z0 else x2 : Int32)))) rfl rfl
   (d_step (t := (183, [some (.ref 40), some (.int x1), some (.int x2), some (.int z0)], [(.int x1), (.ref 44)], (qW s 44 (x1).toNatClampNeg (if x2 = (-1) then z0 else x2 : Int32)))) 3 rfl
   (d_chk (a := (184, [some (.ref 40), some (.int x1), some (.int x2), some (.int z0)], [(.int (((qW s 44 (x1).toNatClampNeg (if x2 = (-1) then z0 else x2 : Int32))).1 44 (x1).toNatClampNeg))], (qW s 44 (x1).toNatClampNeg (if x2 = (-1) then z0 else x2 : Int32)))) rfl rfl
   (d_sw (o := qSel (((qW s 44 (x1).toNatClampNeg (if x2 = (-1) then z0 else x2 : Int32))).1 44 (x1).toNatClampNeg) [some (.ref 40), some (.int x1), some (.int x2), some (.int z0)] [] (qW s 44 (x1).toNatClampNeg (if x2 = (-1) then z0 else x2 : Int32)) 411 [(0, 240), (1, 240), (2, 240), (3, 240), (4, 246), (5, 279), (6, 315), (7, 330), (8, 366), (9, 404)]) rfl rfl (d_sw1 (d_step (t := (242, [some (.ref 40), some (.int x1), some (.int x2), some (.int z0)], [(.int x1), (.ref 40)], (qW s 44 (x1).toNatClampNeg (if x2 = (-1) then z0 else x2 : Int32)))) 2 rfl
   (d_callI (o := (m_M_isOneLine d x1 (qW s 44 (x1).toNatClampNeg (if x2 = (-1) then z0 else x2 : Int32)))) rfl rfl (fun q1 =>
   d_retz (k := 0) rfl rfl)))
   (d_sw1 (d_step (t := (242, [some (.ref 40), some (.int x1), some (.int x2), some (.int z0)], [(.int x1), (.ref 40)], (qW s 44 (x1).toNatClampNeg (if x2 = (-1) then z0 else x2 : Int32)))) 2 rfl
   (d_callI (o := (m_M_isOneLine d x1 (qW s 44 (x1).toNatClampNeg (if x2 = (-1) then z0 else x2 : Int32)))) rfl rfl (fun q2 =>
   d_retz (k := 0) rfl rfl)))
   (d_sw1 (d_step (t := (242, [some (.ref 40), some (.int x1), some (.int x2), some (.int z0)], [(.int x1), (.ref 40)], (qW s 44 (x1).toNatClampNeg (if x2 = (-1) then z0 else x2 : Int32)))) 2 rfl
   (d_callI (o := (m_M_isOneLine d x1 (qW s 44 (x1).toNatClampNeg (if x2 = (-1) then z0 else x2 : Int32)))) rfl rfl (fun q3 =>
   d_retz (k := 0) rfl rfl)))
   (d_sw1 (d_step (t := (242, [some (.ref 40), some (.int x1), some (.int x2), some (.int z0)], [(.int x1), (.ref 40)], (qW s 44 (x1).toNatClampNeg (if x2 = (-1) then z0 else x2 : Int32)))) 2 rfl
   (d_callI (o := (m_M_isOneLine d x1 (qW s 44 (x1).toNatClampNeg (if x2 = (-1) then z0 else x2 : Int32)))) rfl rfl (fun q4 =>
   d_retz (k := 0) rfl rfl)))
   (d_sw1 (d_step (t := (252, [some (.ref 40), some (.int x1), some (.int x2), some (.int z0)], [(.int 4), (.int 1), (.int (x1 + 1)), (.ref 40)], (qW s 44 (x1).toNatClampNeg (if x2 = (-1) then z0 else x2 : Int32)))) 6 rfl
   (d_callI (o := (m_M_isNumber d (x1 + 1) 1 4 (qW s 44 (x1).toNatClampNeg (if x2 = (-1) then z0 else x2 : Int32)))) rfl rfl (fun q5 =>
   d_if (a := (258, [some (.ref 40), some (.int x1), some (.int x2), some (.int z0)], [], q5.2)) (b := (260, [some (.ref 40), some (.int x1), some (.int x2), some (.int z0)], [], q5.2)) rfl rfl
   (d_step (t := (259, [some (.ref 40), some (.int x1), some (.int x2), some (.int z0)], [(.int 0)], q5.2)) 1 rfl
   (d_ret (k := 0) rfl rfl))
   (d_step (t := (268, [some (.ref 40), some (.int x1), some (.int x2), some (.int z0)], [(.int (x1 + 1)), (.ref 44), (.ref 40)], q5.2)) 6 rfl
   (d_chk (a := (269, [some (.ref 40), some (.int x1), some (.int x2), some (.int z0)], [(.int ((q5.2).1 44 ((x1 + 1)).toNatClampNeg)), (.ref 40)], q5.2)) rfl rfl
   (d_step (t := (278, [some (.ref 40), some (.int x1), some (.int x2), some (.int z0)], [(.int 1)], (qW (qW q5.2 40 14 ((q5.2).1 44 ((x1 + 1)).toNatClampNeg)) 40 15 0))) 5 rfl
   (d_ret (k := 0) rfl rfl)))))))
   (d_sw1 (d_step (t := (290, [some (.ref 40), some (.int x1), some (.int x2), some (.int z0)], [(.int (((s).1 40 14) - 1)), (.int 0), (.int (x1 + 1)), (.ref 40)], (qW s 44 (x1).toNatClampNeg (if x2 = (-1) then z0 else x2 : Int32)))) 9 rfl
   (d_callI (o := (m_M_isNumber d (x1 + 1) 0 (((s).1 40 14) - 1) (qW s 44 (x1).toNatClampNeg (if x2 = (-1) then z0 else x2 : Int32)))) rfl rfl (fun q6 =>
   d_if (a := (313, [some (.ref 40), some (.int x1), some (.int x2), some (.int z0)], [], q6.2)) (b := (296, [some (.ref 40), some (.int x1), some (.int x2), some (.int z0)], [], q6.2)) rfl rfl
   (d_step (t := (314, [some (.ref 40), some (.int x1), some (.int x2), some (.int z0)], [(.int 0)], q6.2)) 1 rfl
   (d_ret (k := 0) rfl rfl))
   (d_step (t := (303, [some (.ref 40), some (.int x1), some (.int x2), some (.int z0)], [(.int 60), (.int 1), (.int (x1 + 2)), (.ref 40)], q6.2)) 6 rfl
   (d_callI (o := (m_M_isNumber d (x1 + 2) 1 60 q6.2)) rfl rfl (fun q7 =>
   d_if (a := (313, [some (.ref 40), some (.int x1), some (.int x2), some (.int z0)], [], q7.2)) (b := (309, [some (.ref 40), some (.int x1), some (.int x2), some (.int z0)], [], q7.2)) rfl rfl
   (d_step (t := (314, [some (.ref 40), some (.int x1), some (.int x2), some (.int z0)], [(.int 0)], q7.2)) 1 rfl
   (d_ret (k := 0) rfl rfl))
   (d_step (t := (314, [some (.ref 40), some (.int x1), some (.int x2), some (.int z0)], [(.int 1)], q7.2)) 2 rfl
   (d_ret (k := 0) rfl rfl))))))))
   (d_sw1 (d_step (t := (326, [some (.ref 40), some (.int x1), some (.int x2), some (.int z0)], [(.int (((s).1 40 14) - 1)), (.int 0), (.int (x1 + 1)), (.ref 40)], (qW s 44 (x1).toNatClampNeg (if x2 = (-1) then z0 else x2 : Int32)))) 9 rfl
   (d_callI (o := (m_M_isNumber d (x1 + 1) 0 (((s).1 40 14) - 1) (qW s 44 (x1).toNatClampNeg (if x2 = (-1) then z0 else x2 : Int32)))) rfl rfl (fun q8 =>
   d_retz (k := 0) rfl rfl)))
   (d_sw1 (d_step (t := (341, [some (.ref 40), some (.int x1), some (.int x2), some (.int z0)], [(.int (((s).1 40 15) - 1)), (.int 0), (.int (x1 + 1)), (.ref 40)], (qW s 44 (x1).toNatClampNeg (if x2 = (-1) then z0 else x2 : Int32)))) 9 rfl
   (d_callI (o := (m_M_isNumber d (x1 + 1) 0 (((s).1 40 15) - 1) (qW s 44 (x1).toNatClampNeg (if x2 = (-1) then z0 else x2 : Int32)))) rfl rfl (fun q9 =>
   d_if (a := (364, [some (.ref 40), some (.int x1), some (.int x2), some (.int z0)], [], q9.2)) (b := (347, [some (.ref 40), some (.int x1), some (.int x2), some (.int z0)], [], q9.2)) rfl rfl
   (d_step (t := (365, [some (.ref 40), some (.int x1), some (.int x2), some (.int z0)], [(.int 0)], q9.2)) 1 rfl
   (d_ret (k := 0) rfl rfl))
   (d_step (t := (354, [some (.ref 40), some (.int x1), some (.int x2), some (.int z0)], [(.int 49), (.int 0), (.int (x1 + 2)), (.ref 40)], q9.2)) 6 rfl
   (d_callI (o := (m_M_isNumber d (x1 + 2) 0 49 q9.2)) rfl rfl (fun q10 =>
   d_if (a := (364, [some (.ref 40), some (.int x1), some (.int x2), some (.int z0)], [], q10.2)) (b := (360, [some (.ref 40), some (.int x1), some (.int x2), some (.int z0)], [], q10.2)) rfl rfl
   (d_step (t := (365, [some (.ref 40), some (.int x1), some (.int x2), some (.int z0)], [(.int 0)], q10.2)) 1 rfl
   (d_ret (k := 0) rfl rfl))
   (d_step (t := (365, [some (.ref 40), some (.int x1), some (.int x2), some (.int z0)], [(.int 1)], q10.2)) 2 rfl
   (d_ret (k := 0) rfl rfl))))))))
   (d_sw1 (d_step (t := (377, [some (.ref 40), some (.int x1), some (.int x2), some (.int z0)], [(.int (((s).1 40 15) - 1)), (.int 0), (.int (x1 + 1)), (.ref 40)], (qW s 44 (x1).toNatClampNeg (if x2 = (-1) then z0 else x2 : Int32)))) 9 rfl
   (d_callI (o := (m_M_isNumber d (x1 + 1) 0 (((s).1 40 15) - 1) (qW s 44 (x1).toNatClampNeg (if x2 = (-1) then z0 else x2 : Int32)))) rfl rfl (fun q11 =>
   d_if (a := (402, [some (.ref 40), some (.int x1), some (.int x2), some (.int z0)], [], q11.2)) (b := (383, [some (.ref 40), some (.int x1), some (.int x2), some (.int z0)], [], q11.2)) rfl rfl
   (d_step (t := (403, [some (.ref 40), some (.int x1), some (.int x2), some (.int z0)], [(.int 0)], q11.2)) 1 rfl
   (d_ret (k := 0) rfl rfl))
   (d_step (t := (392, [some (.ref 40), some (.int x1), some (.int x2), some (.int z0)], [(.int ((q11.2).1 40 14)), (.int 0), (.int (x1 + 2)), (.ref 40)], q11.2)) 7 rfl
   (d_callI (o := (m_M_isNumber d (x1 + 2) 0 ((q11.2).1 40 14) q11.2)) rfl rfl (fun q12 =>
   d_if (a := (402, [some (.ref 40), some (.int x1), some (.int x2), some (.int z0)], [], q12.2)) (b := (398, [some (.ref 40), some (.int x1), some (.int x2), some (.int z0)], [], q12.2)) rfl rfl
   (d_step (t := (403, [some (.ref 40), some (.int x1), some (.int x2), some (.int z0)], [(.int 0)], q12.2)) 1 rfl
   (d_ret (k := 0) rfl rfl))
   (d_step (t := (403, [some (.ref 40), some (.int x1), some (.int x2), some (.int z0)], [(.int 1)], q12.2)) 2 rfl
   (d_ret (k := 0) rfl rfl))))))))
   (d_sw1 (d_step (t := (410, [some (.ref 40), some (.int x1), some (.int x2), some (.int z0)], [(.int 1)], (qW (qW s 44 (x1).toNatClampNeg (if x2 = (-1) then z0 else x2 : Int32)) 40 15 0))) 4 rfl
   (d_ret (k := 0) rfl rfl))
   (d_sw0 (d_step (t := (412, [some (.ref 40), some (.int x1), some (.int x2), some (.int z0)], [(.ref 40)], (qW s 44 (x1).toNatClampNeg (if x2 = (-1) then z0 else x2 : Int32)))) 1 rfl
   (d_callI (o := (m_M_fails d (qW s 44 (x1).toNatClampNeg (if x2 = (-1) then z0 else x2 : Int32)))) rfl rfl (fun q13 =>
   d_retz (k := 0) rfl rfl)))))))))))))))))))
noncomputable def m_M_isRead (d : Nat)  (s : qMem) : Option (Int32 × qMem) := qI (qCall qMT d 118 [.ref 40] s)
noncomputable def l_M_isRead_1 (d : Nat)  (x1 : Int32) (s : qMem) : Option (Int32 × qMem) := qI (qK qMT d 118 (28, [some (.ref 40), some (.int x1)], [], s))
set_option maxRecDepth 20000 in
theorem e_M_isRead (d : Nat)  (s : qMem) : m_M_isRead (d + 1) s = (l_M_isRead_1 d 1 (qW (qW (qW (qW s 40 7 0) 40 13 0) 40 14 ((s).1 40 0)) 40 15 ((s).1 40 3))) := d_step (t := (28, [some (.ref 40), some (.int 1)], [], (qW (qW (qW (qW s 40 7 0) 40 13 0) 40 14 ((s).1 40 0)) 40 15 ((s).1 40 3)))) 16 rfl
   (rfl)
set_option maxRecDepth 20000 in
theorem el_M_isRead_1 (d : Nat)  (x1 : Int32) (s : qMem) : l_M_isRead_1 d x1 s = (if x1 = 0 then (if (lg_cmp (s).2 (-2)) = 0 then some (1, s) else ((m_M_fails d s).bind (fun q1 => (if q1.1 = 0 then some (0, q1.2) else some (1, q1.2))))) else ((m_M_isLine d (5 * ((s).1 40 13)) s).bind (fun q2 => (if q2.1 = 0 then some (0, q2.2) else ((m_M_nextToken d (qW q2.2 40 13 (((q2.2).1 40 13) + 1))).bind (fun q3 => (if (lg_cmp (q3).2 (-3)) = 0 then (l_M_isRead_1 d (if 12 ≤ ((q3).1 40 13) then 0 else 1 : Int32) q3) else (l_M_isRead_1 d 0 q3)))))))) := d_step (t := (29, [some (.ref 40), some (.int x1)], [(.int x1)], s)) 1 rfl
   (d_if (a := (90, [some (.ref 40), some (.int x1)], [], s)) (b := (32, [some (.ref 40), some (.int x1)], [], s)) rfl rfl
   (d_step (t := (98, [some (.ref 40), some (.int x1)], [(.int (lg_cmp (s).2 (-2)))], s)) 4 rfl
   (d_if (a := (108, [some (.ref 40), some (.int x1)], [], s)) (b := (101, [some (.ref 40), some (.int x1)], [], s)) rfl rfl
   (d_step (t := (113, [some (.ref 40), some (.int x1)], [(.int 1)], s)) 2 rfl
   (d_ret (k := 0) rfl rfl))
   (d_step (t := (102, [some (.ref 40), some (.int x1)], [(.ref 40)], s)) 1 rfl
   (d_callI (o := (m_M_fails d s)) rfl rfl (fun q1 =>
   d_if (a := (112, [some (.ref 40), some (.int x1)], [], q1.2)) (b := (108, [some (.ref 40), some (.int x1)], [], q1.2)) rfl rfl
   (d_step (t := (113, [some (.ref 40), some (.int x1)], [(.int 0)], q1.2)) 1 rfl
   (d_ret (k := 0) rfl rfl))
   (d_step (t := (113, [some (.ref 40), some (.int x1)], [(.int 1)], q1.2)) 2 rfl
   (d_ret (k := 0) rfl rfl)))))))
   (d_step (t := (39, [some (.ref 40), some (.int x1)], [(.int (5 * ((s).1 40 13))), (.ref 40)], s)) 5 rfl
   (d_callI (o := (m_M_isLine d (5 * ((s).1 40 13)) s)) rfl rfl (fun q2 =>
   d_if (a := (45, [some (.ref 40), some (.int x1)], [], q2.2)) (b := (47, [some (.ref 40), some (.int x1)], [], q2.2)) rfl rfl
   (d_step (t := (46, [some (.ref 40), some (.int x1)], [(.int 0)], q2.2)) 1 rfl
   (d_ret (k := 0) rfl rfl))
   (d_step (t := (58, [some (.ref 40), some (.int x1)], [(.ref 40)], (qW q2.2 40 13 (((q2.2).1 40 13) + 1)))) 7 rfl
   (d_callV (o := (m_M_nextToken d (qW q2.2 40 13 (((q2.2).1 40 13) + 1)))) rfl rfl (fun q3 =>
   d_step (t := (69, [some (.ref 40), some (.int x1)], [(.int (lg_cmp (q3).2 (-3)))], q3)) 4 rfl
   (d_if (a := (72, [some (.ref 40), some (.int x1)], [], q3)) (b := (85, [some (.ref 40), some (.int x1)], [], q3)) rfl rfl
   (d_step (t := (78, [some (.ref 40), some (.int x1)], [(.int 12), (.int ((q3).1 40 13))], q3)) 3 rfl
   (d_mrg (a := (85, [some (.ref 40), some (.int x1)], [], q3)) (b := (81, [some (.ref 40), some (.int x1)], [], q3)) (v1 := 0) (v2 := 1) (z := fun v9 => (86, [some (.ref 40), some (.int x1)], [(.int v9)], q3)) 1 2 rfl rfl rfl rfl
   (d_step (t := (28, [some (.ref 40), some (.int (if 12 ≤ ((q3).1 40 13) then 0 else 1 : Int32))], [], q3)) 2 rfl
   (rfl))))
   (d_step (t := (28, [some (.ref 40), some (.int 0)], [], q3)) 3 rfl
   (rfl))))))))))
noncomputable def m_M_fault (d : Nat)  (s : qMem) : Option (Int32 × qMem) := qI (qCall qMT d 119 [.ref 40] s)
set_option maxRecDepth 20000 in
theorem e_M_fault (d : Nat)  (s : qMem) : m_M_fault (d + 1) s = ((m_M_isRead d s).bind (fun q1 => (if q1.1 = 0 then some (((q1.2).1 40 12), q1.2) else some ((-1), q1.2)))) := d_step (t := (1, [some (.ref 40)], [(.ref 40)], s)) 1 rfl
   (d_callI (o := (m_M_isRead d s)) rfl rfl (fun q1 =>
   d_if (a := (11, [some (.ref 40)], [], q1.2)) (b := (7, [some (.ref 40)], [], q1.2)) rfl rfl
   (d_step (t := (15, [some (.ref 40)], [(.int ((q1.2).1 40 12))], q1.2)) 2 rfl
   (d_ret (k := 0) rfl rfl))
   (d_step (t := (15, [some (.ref 40)], [(.int (-1))], q1.2)) 2 rfl
   (d_ret (k := 0) rfl rfl))))
noncomputable def m_M_doLine (d : Nat) (w : Int32) (s : qMem) : Option (qMem) := qV (qCall qMT d 120 [.ref 40, .int w] s)
noncomputable def l_M_doLine_1 (d : Nat)  (x1 : Int32) (x4 : Int32) (s : qMem) : Option (qMem) := qV (qK qMT d 120 (138, [some (.ref 40), some (.int x1), none, none, some (.int x4)], [], s))
set_option maxRecDepth 20000 in
theorem e_M_doLine (d : Nat) (w : Int32) (s : qMem) : m_M_doLine (d + 1) w s = (if qIn (w + 1) 60 then (if qIn (w + 2) 60 then (if qIn w 60 then (if ((s).1 44 (w).toNatClampNeg) = 4 then ((m_M_plain d ((s).1 44 ((w + 1)).toNatClampNeg) s).bind (fun q1 => some q1)) else (if ((s).1 44 (w).toNatClampNeg) = 5 then (if qIn ((s).1 44 ((w + 1)).toNatClampNeg) 4 then some (qW s 41 (((s).1 44 ((w + 1)).toNatClampNeg)).toNatClampNeg ((s).1 44 ((w + 2)).toNatClampNeg)) else none) else (if ((s).1 44 (w).toNatClampNeg) = 6 then some (qW s 40 2 (((s).1 40 2) ||| (1 <<< (((s).1 44 ((w + 1)).toNatClampNeg) &&& 31)))) else (if ((s).1 44 (w).toNatClampNeg) = 7 then (if qIn ((6 * ((s).1 44 ((w + 1)).toNatClampNeg)) + 4) 30 then some (qW s 42 (((6 * ((s).1 44 ((w + 1)).toNatClampNeg)) + 4)).toNatClampNeg ((s).1 44 ((w + 2)).toNatClampNeg)) else none) else (if ((s).1 44 (w).toNatClampNeg) = 8 then (if qIn ((6 * ((s).1 44 ((w + 1)).toNatClampNeg)) + 5) 30 then some (qW s 42 (((6 * ((s).1 44 ((w + 1)).toNatClampNeg)) + 5)).toNatClampNeg ((s).1 44 ((w + 2)).toNatClampNeg)) else none) else (if ((s).1 44 (w).toNatClampNeg) = 9 then some (qW s 40 3 0) else (l_M_doLine_1 d w 0 s))))))) else none) else none) else none) := d_step (t := (7, [some (.ref 40), some (.int w), none, none, none], [(.int (w + 1)), (.ref 44)], s)) 5 rfl
   (d_chk (a := (8, [some (.ref 40), some (.int w), none, none, none], [(.int ((s).1 44 ((w + 1)).toNatClampNeg))], s)) rfl rfl
   (d_step (t := (16, [some (.ref 40), some (.int w), some (.int ((s).1 44 ((w + 1)).toNatClampNeg)), none, none], [(.int (w + 2)), (.ref 44)], s)) 6 rfl
   (d_chk (a := (17, [some (.ref 40), some (.int w), some (.int ((s).1 44 ((w + 1)).toNatClampNeg)), none, none], [(.int ((s).1 44 ((w + 2)).toNatClampNeg))], s)) rfl rfl
   (d_step (t := (23, [some (.ref 40), some (.int w), some (.int ((s).1 44 ((w + 1)).toNatClampNeg)), some (.int ((s).1 44 ((w + 2)).toNatClampNeg)), none], [(.int w), (.ref 44)], s)) 4 rfl
   (d_chk (a := (24, [some (.ref 40), some (.int w), some (.int ((s).1 44 ((w + 1)).toNatClampNeg)), some (.int ((s).1 44 ((w + 2)).toNatClampNeg)), none], [(.int ((s).1 44 (w).toNatClampNeg))], s)) rfl rfl
   (d_sw (o := qSel ((s).1 44 (w).toNatClampNeg) [some (.ref 40), some (.int w), some (.int ((s).1 44 ((w + 1)).toNatClampNeg)), some (.int ((s).1 44 ((w + 2)).toNatClampNeg)), none] [] s 135 [(4, 64), (5, 72), (6, 82), (7, 97), (8, 112), (9, 127)]) rfl rfl (d_sw1 (d_step (t := (66, [some (.ref 40), some (.int w), some (.int ((s).1 44 ((w + 1)).toNatClampNeg)), some (.int ((s).1 44 ((w + 2)).toNatClampNeg)), none], [(.int ((s).1 44 ((w + 1)).toNatClampNeg)), (.ref 40)], s)) 2 rfl
   (d_callV (o := (m_M_plain d ((s).1 44 ((w + 1)).toNatClampNeg) s)) rfl rfl (fun q1 =>
   d_step (t := (214, [some (.ref 40), some (.int w), some (.int ((s).1 44 ((w + 1)).toNatClampNeg)), some (.int ((s).1 44 ((w + 2)).toNatClampNeg)), none], [], q1)) 1 rfl
   (d_ret (k := 2) rfl rfl))))
   (d_sw1 (d_step (t := (78, [some (.ref 40), some (.int w), some (.int ((s).1 44 ((w + 1)).toNatClampNeg)), some (.int ((s).1 44 ((w + 2)).toNatClampNeg)), none], [(.int ((s).1 44 ((w + 2)).toNatClampNeg)), (.int ((s).1 44 ((w + 1)).toNatClampNeg)), (.ref 41)], s)) 4 rfl
   (d_chk (a := (79, [some (.ref 40), some (.int w), some (.int ((s).1 44 ((w + 1)).toNatClampNeg)), some (.int ((s).1 44 ((w + 2)).toNatClampNeg)), none], [], (qW s 41 (((s).1 44 ((w + 1)).toNatClampNeg)).toNatClampNeg ((s).1 44 ((w + 2)).toNatClampNeg)))) rfl rfl
   (d_step (t := (214, [some (.ref 40), some (.int w), some (.int ((s).1 44 ((w + 1)).toNatClampNeg)), some (.int ((s).1 44 ((w + 2)).toNatClampNeg)), none], [], (qW s 41 (((s).1 44 ((w + 1)).toNatClampNeg)).toNatClampNeg ((s).1 44 ((w + 2)).toNatClampNeg)))) 1 rfl
   (d_ret (k := 2) rfl rfl))))
   (d_sw1 (d_step (t := (214, [some (.ref 40), some (.int w), some (.int ((s).1 44 ((w + 1)).toNatClampNeg)), some (.int ((s).1 44 ((w + 2)).toNatClampNeg)), none], [], (qW s 40 2 (((s).1 40 2) ||| (1 <<< (((s).1 44 ((w + 1)).toNatClampNeg) &&& 31)))))) 9 rfl
   (d_ret (k := 2) rfl rfl))
   (d_sw1 (d_step (t := (108, [some (.ref 40), some (.int w), some (.int ((s).1 44 ((w + 1)).toNatClampNeg)), some (.int ((s).1 44 ((w + 2)).toNatClampNeg)), none], [(.int ((s).1 44 ((w + 2)).toNatClampNeg)), (.int ((6 * ((s).1 44 ((w + 1)).toNatClampNeg)) + 4)), (.ref 42)], s)) 8 rfl
   (d_chk (a := (109, [some (.ref 40), some (.int w), some (.int ((s).1 44 ((w + 1)).toNatClampNeg)), some (.int ((s).1 44 ((w + 2)).toNatClampNeg)), none], [], (qW s 42 (((6 * ((s).1 44 ((w + 1)).toNatClampNeg)) + 4)).toNatClampNeg ((s).1 44 ((w + 2)).toNatClampNeg)))) rfl rfl
   (d_step (t := (214, [some (.ref 40), some (.int w), some (.int ((s).1 44 ((w + 1)).toNatClampNeg)), some (.int ((s).1 44 ((w + 2)).toNatClampNeg)), none], [], (qW s 42 (((6 * ((s).1 44 ((w + 1)).toNatClampNeg)) + 4)).toNatClampNeg ((s).1 44 ((w + 2)).toNatClampNeg)))) 1 rfl
   (d_ret (k := 2) rfl rfl))))
   (d_sw1 (d_step (t := (123, [some (.ref 40), some (.int w), some (.int ((s).1 44 ((w + 1)).toNatClampNeg)), some (.int ((s).1 44 ((w + 2)).toNatClampNeg)), none], [(.int ((s).1 44 ((w + 2)).toNatClampNeg)), (.int ((6 * ((s).1 44 ((w + 1)).toNatClampNeg)) + 5)), (.ref 42)], s)) 8 rfl
   (d_chk (a := (124, [some (.ref 40), some (.int w), some (.int ((s).1 44 ((w + 1)).toNatClampNeg)), some (.int ((s).1 44 ((w + 2)).toNatClampNeg)), none], [], (qW s 42 (((6 * ((s).1 44 ((w + 1)).toNatClampNeg)) + 5)).toNatClampNeg ((s).1 44 ((w + 2)).toNatClampNeg)))) rfl rfl
   (d_step (t := (214, [some (.ref 40), some (.int w), some (.int ((s).1 44 ((w + 1)).toNatClampNeg)), some (.int ((s).1 44 ((w + 2)).toNatClampNeg)), none], [], (qW s 42 (((6 * ((s).1 44 ((w + 1)).toNatClampNeg)) + 5)).toNatClampNeg ((s).1 44 ((w + 2)).toNatClampNeg)))) 1 rfl
   (d_ret (k := 2) rfl rfl))))
   (d_sw1 (d_step (t := (214, [some (.ref 40), some (.int w), some (.int ((s).1 44 ((w + 1)).toNatClampNeg)), some (.int ((s).1 44 ((w + 2)).toNatClampNeg)), none], [], (qW s 40 3 0))) 4 rfl
   (d_ret (k := 2) rfl rfl))
   (d_sw0 (d_step (t := (138, [some (.ref 40), some (.int w), some (.int ((s).1 44 ((w + 1)).toNatClampNeg)), some (.int ((s).1 44 ((w + 2)).toNatClampNeg)), some (.int 0)], [], s)) 2 rfl
   (d_lab (x2 := (138, [some (.ref 40), some (.int w), none, none, some (.int 0)], [], s)) rfl rfl rfl)))))))))))))))
set_option maxRecDepth 20000 in
theorem el_M_doLine_1 (d : Nat)  (x1 : Int32) (x4 : Int32) (s : qMem) : l_M_doLine_1 d x1 x4 s = (if 4 ≤ x4 then (if qIn ((6 * ((s).1 40 3)) + 4) 30 then (if qIn ((6 * ((s).1 40 3)) + 5) 30 then some (qW (qW (qW s 42 (((6 * ((s).1 40 3)) + 4)).toNatClampNeg 0) 42 (((6 * ((s).1 40 3)) + 5)).toNatClampNeg 0) 40 3 (((s).1 40 3) + 1)) else none) else none) else (if qIn (x1 + x4) 60 then (if qIn ((6 * ((s).1 40 3)) + x4) 30 then (l_M_doLine_1 d x1 (x4 + 1) (qW s 42 (((6 * ((s).1 40 3)) + x4)).toNatClampNeg ((s).1 44 ((x1 + x4)).toNatClampNeg))) else none) else none)) := d_step (t := (141, [some (.ref 40), some (.int x1), none, none, some (.int x4)], [(.int 4), (.int x4)], s)) 2 rfl
   (d_if (a := (174, [some (.ref 40), some (.int x1), none, none, some (.int x4)], [], s)) (b := (144, [some (.ref 40), some (.int x1), none, none, some (.int x4)], [], s)) rfl rfl
   (d_step (t := (188, [some (.ref 40), some (.int x1), none, none, some (.int x4)], [(.int 0), (.int ((6 * ((s).1 40 3)) + 4)), (.ref 42)], s)) 9 rfl
   (d_chk (a := (189, [some (.ref 40), some (.int x1), none, none, some (.int x4)], [], (qW s 42 (((6 * ((s).1 40 3)) + 4)).toNatClampNeg 0))) rfl rfl
   (d_step (t := (203, [some (.ref 40), some (.int x1), none, none, some (.int x4)], [(.int 0), (.int ((6 * ((s).1 40 3)) + 5)), (.ref 42)], (qW s 42 (((6 * ((s).1 40 3)) + 4)).toNatClampNeg 0))) 9 rfl
   (d_chk (a := (204, [some (.ref 40), some (.int x1), none, none, some (.int x4)], [], (qW (qW s 42 (((6 * ((s).1 40 3)) + 4)).toNatClampNeg 0) 42 (((6 * ((s).1 40 3)) + 5)).toNatClampNeg 0))) rfl rfl
   (d_step (t := (214, [some (.ref 40), some (.int x1), none, none, some (.int x4)], [], (qW (qW (qW s 42 (((6 * ((s).1 40 3)) + 4)).toNatClampNeg 0) 42 (((6 * ((s).1 40 3)) + 5)).toNatClampNeg 0) 40 3 (((s).1 40 3) + 1)))) 6 rfl
   (d_ret (k := 2) rfl rfl))))))
   (d_step (t := (166, [some (.ref 40), some (.int x1), none, none, some (.int x4)], [(.int (x1 + x4)), (.ref 44), (.int ((6 * ((s).1 40 3)) + x4)), (.ref 42)], s)) 13 rfl
   (d_chk (a := (167, [some (.ref 40), some (.int x1), none, none, some (.int x4)], [(.int ((s).1 44 ((x1 + x4)).toNatClampNeg)), (.int ((6 * ((s).1 40 3)) + x4)), (.ref 42)], s)) rfl rfl
   (d_chk (a := (168, [some (.ref 40), some (.int x1), none, none, some (.int x4)], [], (qW s 42 (((6 * ((s).1 40 3)) + x4)).toNatClampNeg ((s).1 44 ((x1 + x4)).toNatClampNeg)))) rfl rfl
   (d_step (t := (138, [some (.ref 40), some (.int x1), none, none, some (.int (x4 + 1))], [], (qW s 42 (((6 * ((s).1 40 3)) + x4)).toNatClampNeg ((s).1 44 ((x1 + x4)).toNatClampNeg)))) 2 rfl
   (d_lab (x2 := (138, [some (.ref 40), some (.int x1), none, none, some (.int (x4 + 1))], [], (qW s 42 (((6 * ((s).1 40 3)) + x4)).toNatClampNeg ((s).1 44 ((x1 + x4)).toNatClampNeg)))) rfl rfl rfl))))))
noncomputable def m_M_stair (d : Nat)  (s : qMem) : Option (Int32 × qMem) := qI (qCall qMT d 121 [.ref 40] s)
noncomputable def l_M_stair_1 (d : Nat)  (x1 : Int32) (s : qMem) : Option (Int32 × qMem) := qI (qK qMT d 121 (12, [some (.ref 40), some (.int x1)], [], s))
noncomputable def l_M_stair_2 (d : Nat)  (x1 : Int32) (s : qMem) : Option (Int32 × qMem) := qI (qK qMT d 121 (40, [some (.ref 40), some (.int x1)], [], s))
noncomputable def l_M_stair_3 (d : Nat)  (x1 : Int32) (s : qMem) : Option (Int32 × qMem) := qI (qK qMT d 121 (73, [some (.ref 40), some (.int x1)], [], s))
set_option maxRecDepth 20000 in
theorem e_M_stair (d : Nat)  (s : qMem) : m_M_stair (d + 1) s = ((m_M_isRead d s).bind (fun q1 => (if q1.1 = 0 then some ((-4), q1.2) else (l_M_stair_1 d 0 q1.2)))) := d_step (t := (1, [some (.ref 40), none], [(.ref 40)], s)) 1 rfl
   (d_callI (o := (m_M_isRead d s)) rfl rfl (fun q1 =>
   d_if (a := (7, [some (.ref 40), none], [], q1.2)) (b := (10, [some (.ref 40), none], [], q1.2)) rfl rfl
   (d_step (t := (9, [some (.ref 40), none], [(.int (-4))], q1.2)) 1 rfl
   (d_ret (k := 0) rfl rfl))
   (d_step (t := (12, [some (.ref 40), some (.int 0)], [], q1.2)) 2 rfl
   (rfl))))
set_option maxRecDepth 20000 in
theorem el_M_stair_1 (d : Nat)  (x1 : Int32) (s : qMem) : l_M_stair_1 d x1 s = (if ((s).1 40 13) ≤ x1 then (l_M_stair_2 d 0 (qW s 40 5 0)) else ((m_M_doLine d (5 * x1) s).bind (fun q1 => (l_M_stair_1 d (x1 + 1) q1)))) := d_step (t := (17, [some (.ref 40), some (.int x1)], [(.int ((s).1 40 13)), (.int x1)], s)) 3 rfl
   (d_if (a := (33, [some (.ref 40), some (.int x1)], [], s)) (b := (20, [some (.ref 40), some (.int x1)], [], s)) rfl rfl
   (d_step (t := (40, [some (.ref 40), some (.int 0)], [], (qW s 40 5 0))) 5 rfl
   (rfl))
   (d_step (t := (24, [some (.ref 40), some (.int x1)], [(.int (5 * x1)), (.ref 40)], s)) 4 rfl
   (d_callV (o := (m_M_doLine d (5 * x1) s)) rfl rfl (fun q1 =>
   d_step (t := (12, [some (.ref 40), some (.int (x1 + 1))], [], q1)) 2 rfl
   (rfl)))))
set_option maxRecDepth 20000 in
theorem el_M_stair_2 (d : Nat)  (x1 : Int32) (s : qMem) : l_M_stair_2 d x1 s = (if ((s).1 40 3) ≤ x1 then (l_M_stair_3 d 0 s) else (if qIn ((6 * x1) + 5) 30 then (if qIn x1 5 then (l_M_stair_2 d (x1 + 1) (qW s 45 (x1).toNatClampNeg ((s).1 42 (((6 * x1) + 5)).toNatClampNeg))) else none) else none)) := d_step (t := (45, [some (.ref 40), some (.int x1)], [(.int ((s).1 40 3)), (.int x1)], s)) 3 rfl
   (d_if (a := (71, [some (.ref 40), some (.int x1)], [], s)) (b := (48, [some (.ref 40), some (.int x1)], [], s)) rfl rfl
   (d_step (t := (73, [some (.ref 40), some (.int 0)], [], s)) 2 rfl
   (rfl))
   (d_step (t := (63, [some (.ref 40), some (.int x1)], [(.int ((6 * x1) + 5)), (.ref 42), (.int x1), (.ref 45)], s)) 10 rfl
   (d_chk (a := (64, [some (.ref 40), some (.int x1)], [(.int ((s).1 42 (((6 * x1) + 5)).toNatClampNeg)), (.int x1), (.ref 45)], s)) rfl rfl
   (d_chk (a := (65, [some (.ref 40), some (.int x1)], [], (qW s 45 (x1).toNatClampNeg ((s).1 42 (((6 * x1) + 5)).toNatClampNeg)))) rfl rfl
   (d_step (t := (40, [some (.ref 40), some (.int (x1 + 1))], [], (qW s 45 (x1).toNatClampNeg ((s).1 42 (((6 * x1) + 5)).toNatClampNeg)))) 2 rfl
   (rfl))))))
set_option maxRecDepth 20000 in
theorem el_M_stair_3 (d : Nat)  (x1 : Int32) (s : qMem) : l_M_stair_3 d x1 s = (if 25 ≤ x1 then some (((s).1 40 13), (qW (qW (qW (qW s 40 18 0) 40 22 0) 48 0 0) 48 1 0)) else (if qIn x1 25 then (l_M_stair_3 d (x1 + 1) (qW s 46 (x1).toNatClampNeg 0)) else none)) := d_step (t := (76, [some (.ref 40), some (.int x1)], [(.int 25), (.int x1)], s)) 2 rfl
   (d_if (a := (92, [some (.ref 40), some (.int x1)], [], s)) (b := (79, [some (.ref 40), some (.int x1)], [], s)) rfl rfl
   (d_step (t := (120, [some (.ref 40), some (.int x1)], [(.int ((s).1 40 13))], (qW (qW (qW (qW s 40 18 0) 40 22 0) 48 0 0) 48 1 0))) 18 rfl
   (d_ret (k := 0) rfl rfl))
   (d_step (t := (85, [some (.ref 40), some (.int x1)], [(.int 0), (.int x1), (.ref 46)], s)) 4 rfl
   (d_chk (a := (86, [some (.ref 40), some (.int x1)], [], (qW s 46 (x1).toNatClampNeg 0))) rfl rfl
   (d_step (t := (73, [some (.ref 40), some (.int (x1 + 1))], [], (qW s 46 (x1).toNatClampNeg 0))) 2 rfl
   (rfl)))))
noncomputable def m_M_step (d : Nat) (k : Int32) (w : Int32) (s : qMem) : Option (Int32 × qMem) := qI (qCall qMT d 122 [.ref 40, .int k, .int w] s)
set_option maxRecDepth 20000 in
theorem e_M_step (d : Nat) (k : Int32) (w : Int32) (s : qMem) : m_M_step (d + 1) k w s = ((m_M_in d k 0 (((s).1 40 0) - 1) s).bind (fun q1 => (if q1.1 = 0 then some ((-2), q1.2) else (if w = 0 then (if qIn k 4 then some (((q1.2).1 41 (k).toNatClampNeg), q1.2) else none) else (if w = 1 then some (((((q1.2).1 40 2) >>> (k &&& 31)) &&& 1), q1.2) else some ((-3), q1.2)))))) := d_step (t := (8, [some (.ref 40), some (.int k), some (.int w)], [(.int (((s).1 40 0) - 1)), (.int 0), (.int k)], s)) 6 rfl
   (d_callI (o := (m_M_in d k 0 (((s).1 40 0) - 1) s)) rfl rfl (fun q1 =>
   d_if (a := (14, [some (.ref 40), some (.int k), some (.int w)], [], q1.2)) (b := (17, [some (.ref 40), some (.int k), some (.int w)], [], q1.2)) rfl rfl
   (d_step (t := (16, [some (.ref 40), some (.int k), some (.int w)], [(.int (-2))], q1.2)) 1 rfl
   (d_ret (k := 0) rfl rfl))
   (d_step (t := (18, [some (.ref 40), some (.int k), some (.int w)], [(.int w)], q1.2)) 1 rfl
   (d_if (a := (21, [some (.ref 40), some (.int k), some (.int w)], [], q1.2)) (b := (30, [some (.ref 40), some (.int k), some (.int w)], [], q1.2)) rfl rfl
   (d_step (t := (26, [some (.ref 40), some (.int k), some (.int w)], [(.int k), (.ref 41)], q1.2)) 3 rfl
   (d_chk (a := (27, [some (.ref 40), some (.int k), some (.int w)], [(.int ((q1.2).1 41 (k).toNatClampNeg))], q1.2)) rfl rfl
   (d_step (t := (48, [some (.ref 40), some (.int k), some (.int w)], [(.int ((q1.2).1 41 (k).toNatClampNeg))], q1.2)) 1 rfl
   (d_ret (k := 0) rfl rfl))))
   (d_step (t := (32, [some (.ref 40), some (.int k), some (.int w)], [(.int 1), (.int w)], q1.2)) 2 rfl
   (d_if (a := (35, [some (.ref 40), some (.int k), some (.int w)], [], q1.2)) (b := (46, [some (.ref 40), some (.int k), some (.int w)], [], q1.2)) rfl rfl
   (d_step (t := (48, [some (.ref 40), some (.int k), some (.int w)], [(.int ((((q1.2).1 40 2) >>> (k &&& 31)) &&& 1))], q1.2)) 7 rfl
   (d_ret (k := 0) rfl rfl))
   (d_step (t := (48, [some (.ref 40), some (.int k), some (.int w)], [(.int (-3))], q1.2)) 1 rfl
   (d_ret (k := 0) rfl rfl))))))))
noncomputable def m_M_burden (d : Nat) (p : Int32) (s : qMem) : Option (Int32 × qMem) := qI (qCall qMT d 123 [.ref 40, .int p] s)
set_option maxRecDepth 20000 in
theorem e_M_burden (d : Nat) (p : Int32) (s : qMem) : m_M_burden (d + 1) p s = (if qIn ((6 * p) + 2) 30 then (if qIn ((6 * p) + 4) 30 then some ((((s).1 42 (((6 * p) + 2)).toNatClampNeg) + ((s).1 42 (((6 * p) + 4)).toNatClampNeg)), s) else none) else none) := d_step (t := (10, [some (.ref 40), some (.int p)], [(.int ((6 * p) + 2)), (.ref 42)], s)) 7 rfl
   (d_chk (a := (11, [some (.ref 40), some (.int p)], [(.int ((s).1 42 (((6 * p) + 2)).toNatClampNeg))], s)) rfl rfl
   (d_step (t := (21, [some (.ref 40), some (.int p)], [(.int ((6 * p) + 4)), (.ref 42), (.int ((s).1 42 (((6 * p) + 2)).toNatClampNeg))], s)) 7 rfl
   (d_chk (a := (22, [some (.ref 40), some (.int p)], [(.int ((s).1 42 (((6 * p) + 4)).toNatClampNeg)), (.int ((s).1 42 (((6 * p) + 2)).toNatClampNeg))], s)) rfl rfl
   (d_step (t := (23, [some (.ref 40), some (.int p)], [(.int (((s).1 42 (((6 * p) + 2)).toNatClampNeg) + ((s).1 42 (((6 * p) + 4)).toNatClampNeg)))], s)) 1 rfl
   (d_ret (k := 0) rfl rfl)))))
noncomputable def m_M_hand (d : Nat) (p : Int32) (s : qMem) : Option (Int32 × qMem) := qI (qCall qMT d 124 [.ref 40, .int p] s)
set_option maxRecDepth 20000 in
theorem e_M_hand (d : Nat) (p : Int32) (s : qMem) : m_M_hand (d + 1) p s = (if qIn (6 * p) 30 then (if ((s).1 42 ((6 * p)).toNatClampNeg) = 1 then (if qIn ((6 * p) + 3) 30 then some ((2 * ((s).1 42 (((6 * p) + 3)).toNatClampNeg)), s) else none) else (if qIn ((6 * p) + 3) 30 then some (((s).1 42 (((6 * p) + 3)).toNatClampNeg), s) else none)) else none) := d_step (t := (8, [some (.ref 40), some (.int p)], [(.int (6 * p)), (.ref 42)], s)) 5 rfl
   (d_chk (a := (9, [some (.ref 40), some (.int p)], [(.int ((s).1 42 ((6 * p)).toNatClampNeg))], s)) rfl rfl
   (d_step (t := (10, [some (.ref 40), some (.int p)], [(.int 1), (.int ((s).1 42 ((6 * p)).toNatClampNeg))], s)) 1 rfl
   (d_if (a := (13, [some (.ref 40), some (.int p)], [], s)) (b := (29, [some (.ref 40), some (.int p)], [], s)) rfl rfl
   (d_step (t := (24, [some (.ref 40), some (.int p)], [(.int ((6 * p) + 3)), (.ref 42), (.int 2)], s)) 8 rfl
   (d_chk (a := (25, [some (.ref 40), some (.int p)], [(.int ((s).1 42 (((6 * p) + 3)).toNatClampNeg)), (.int 2)], s)) rfl rfl
   (d_step (t := (40, [some (.ref 40), some (.int p)], [(.int (2 * ((s).1 42 (((6 * p) + 3)).toNatClampNeg)))], s)) 2 rfl
   (d_ret (k := 0) rfl rfl))))
   (d_step (t := (39, [some (.ref 40), some (.int p)], [(.int ((6 * p) + 3)), (.ref 42)], s)) 7 rfl
   (d_chk (a := (40, [some (.ref 40), some (.int p)], [(.int ((s).1 42 (((6 * p) + 3)).toNatClampNeg))], s)) rfl rfl
   (d_ret (k := 0) rfl rfl))))))
noncomputable def m_M_one (d : Nat) (p : Int32) (w : Int32) (s : qMem) : Option (Int32 × qMem) := qI (qCall qMT d 125 [.ref 40, .int p, .int w] s)
noncomputable def l_M_one_1 (d : Nat)  (x1 : Int32) (x2 : Int32) (x3 : Int32) (x4 : Int32) (x5 : Int32) (s : qMem) : Option (Int32 × qMem) := qI (qK qMT d 125 (19, [some (.ref 40), some (.int x1), some (.int x2), some (.int x3), some (.int x4), some (.int x5)], [], s))
set_option maxRecDepth 20000 in
theorem e_M_one (d : Nat) (p : Int32) (w : Int32) (s : qMem) : m_M_one (d + 1) p w s = ((m_M_isOne d p s).bind (fun q1 => (if q1.1 = 0 then some ((-2), q1.2) else (l_M_one_1 d p w 0 0 0 q1.2)))) := d_step (t := (2, [some (.ref 40), some (.int p), some (.int w), none, none, none], [(.int p), (.ref 40)], s)) 2 rfl
   (d_callI (o := (m_M_isOne d p s)) rfl rfl (fun q1 =>
   d_if (a := (8, [some (.ref 40), some (.int p), some (.int w), none, none, none], [], q1.2)) (b := (11, [some (.ref 40), some (.int p), some (.int w), none, none, none], [], q1.2)) rfl rfl
   (d_step (t := (10, [some (.ref 40), some (.int p), some (.int w), none, none, none], [(.int (-2))], q1.2)) 1 rfl
   (d_ret (k := 0) rfl rfl))
   (d_step (t := (19, [some (.ref 40), some (.int p), some (.int w), some (.int 0), some (.int 0), some (.int 0)], [], q1.2)) 6 rfl
   (rfl))))
set_option maxRecDepth 20000 in
theorem el_M_one_1 (d : Nat)  (x1 : Int32) (x2 : Int32) (x3 : Int32) (x4 : Int32) (x5 : Int32) (s : qMem) : l_M_one_1 d x1 x2 x3 x4 x5 s = (if 5 ≤ x5 then (if x2 = 0 then (if qIn ((6 * x1) + x2) 30 then some (((s).1 42 (((6 * x1) + x2)).toNatClampNeg), s) else none) else (if x2 = 1 then (if qIn ((6 * x1) + x2) 30 then some (((s).1 42 (((6 * x1) + x2)).toNatClampNeg), s) else none) else (if x2 = 2 then ((m_M_burden d x1 s).bind (fun q1 => some (q1.1, q1.2))) else (if x2 = 3 then (if qIn ((6 * x1) + x2) 30 then some (((s).1 42 (((6 * x1) + x2)).toNatClampNeg), s) else none) else (if x2 = 4 then (if qIn x1 5 then some (((s).1 45 (x1).toNatClampNeg), s) else none) else (if x2 = 5 then some (x3, s) else (if x2 = 6 then some (x4, s) else some ((-3), s)))))))) else (if qIn ((5 * x1) + x5) 25 then (if qIn ((5 * x5) + x1) 25 then (l_M_one_1 d x1 x2 (x3 + ((s).1 46 (((5 * x1) + x5)).toNatClampNeg)) (x4 + ((s).1 46 (((5 * x5) + x1)).toNatClampNeg)) (x5 + 1) s) else none) else none)) := d_step (t := (22, [some (.ref 40), some (.int x1), some (.int x2), some (.int x3), some (.int x4), some (.int x5)], [(.int 5), (.int x5)], s)) 2 rfl
   (d_if (a := (61, [some (.ref 40), some (.int x1), some (.int x2), some (.int x3), some (.int x4), some (.int x5)], [], s)) (b := (25, [some (.ref 40), some (.int x1), some (.int x2), some (.int x3), some (.int x4), some (.int x5)], [], s)) rfl rfl
   (d_step (t := (62, [some (.ref 40), some (.int x1), some (.int x2), some (.int x3), some (.int x4), some (.int x5)], [(.int x2)], s)) 1 rfl
   (d_sw (o := qSel x2 [some (.ref 40), some (.int x1), some (.int x2), some (.int x3), some (.int x4), some (.int x5)] [] s 134 [(0, 104), (1, 104), (2, 116), (3, 104), (4, 122), (5, 129), (6, 131)]) rfl rfl (d_sw1 (d_step (t := (114, [some (.ref 40), some (.int x1), some (.int x2), some (.int x3), some (.int x4), some (.int x5)], [(.int ((6 * x1) + x2)), (.ref 42)], s)) 7 rfl
   (d_chk (a := (115, [some (.ref 40), some (.int x1), some (.int x2), some (.int x3), some (.int x4), some (.int x5)], [(.int ((s).1 42 (((6 * x1) + x2)).toNatClampNeg))], s)) rfl rfl
   (d_ret (k := 0) rfl rfl)))
   (d_sw1 (d_step (t := (114, [some (.ref 40), some (.int x1), some (.int x2), some (.int x3), some (.int x4), some (.int x5)], [(.int ((6 * x1) + x2)), (.ref 42)], s)) 7 rfl
   (d_chk (a := (115, [some (.ref 40), some (.int x1), some (.int x2), some (.int x3), some (.int x4), some (.int x5)], [(.int ((s).1 42 (((6 * x1) + x2)).toNatClampNeg))], s)) rfl rfl
   (d_ret (k := 0) rfl rfl)))
   (d_sw1 (d_step (t := (118, [some (.ref 40), some (.int x1), some (.int x2), some (.int x3), some (.int x4), some (.int x5)], [(.int x1), (.ref 40)], s)) 2 rfl
   (d_callI (o := (m_M_burden d x1 s)) rfl rfl (fun q1 =>
   d_ret (k := 0) rfl rfl)))
   (d_sw1 (d_step (t := (114, [some (.ref 40), some (.int x1), some (.int x2), some (.int x3), some (.int x4), some (.int x5)], [(.int ((6 * x1) + x2)), (.ref 42)], s)) 7 rfl
   (d_chk (a := (115, [some (.ref 40), some (.int x1), some (.int x2), some (.int x3), some (.int x4), some (.int x5)], [(.int ((s).1 42 (((6 * x1) + x2)).toNatClampNeg))], s)) rfl rfl
   (d_ret (k := 0) rfl rfl)))
   (d_sw1 (d_step (t := (127, [some (.ref 40), some (.int x1), some (.int x2), some (.int x3), some (.int x4), some (.int x5)], [(.int x1), (.ref 45)], s)) 3 rfl
   (d_chk (a := (128, [some (.ref 40), some (.int x1), some (.int x2), some (.int x3), some (.int x4), some (.int x5)], [(.int ((s).1 45 (x1).toNatClampNeg))], s)) rfl rfl
   (d_ret (k := 0) rfl rfl)))
   (d_sw1 (d_step (t := (130, [some (.ref 40), some (.int x1), some (.int x2), some (.int x3), some (.int x4), some (.int x5)], [(.int x3)], s)) 1 rfl
   (d_ret (k := 0) rfl rfl))
   (d_sw1 (d_step (t := (133, [some (.ref 40), some (.int x1), some (.int x2), some (.int x3), some (.int x4), some (.int x5)], [(.int x4)], s)) 1 rfl
   (d_ret (k := 0) rfl rfl))
   (d_sw0 (d_step (t := (136, [some (.ref 40), some (.int x1), some (.int x2), some (.int x3), some (.int x4), some (.int x5)], [(.int (-3))], s)) 1 rfl
   (d_ret (k := 0) rfl rfl))))))))))))
   (d_step (t := (36, [some (.ref 40), some (.int x1), some (.int x2), some (.int x3), some (.int x4), some (.int x5)], [(.int ((5 * x1) + x5)), (.ref 46), (.int x3)], s)) 8 rfl
   (d_chk (a := (37, [some (.ref 40), some (.int x1), some (.int x2), some (.int x3), some (.int x4), some (.int x5)], [(.int ((s).1 46 (((5 * x1) + x5)).toNatClampNeg)), (.int x3)], s)) rfl rfl
   (d_step (t := (51, [some (.ref 40), some (.int x1), some (.int x2), some (.int (x3 + ((s).1 46 (((5 * x1) + x5)).toNatClampNeg))), some (.int x4), some (.int x5)], [(.int ((5 * x5) + x1)), (.ref 46), (.int x4)], s)) 10 rfl
   (d_chk (a := (52, [some (.ref 40), some (.int x1), some (.int x2), some (.int (x3 + ((s).1 46 (((5 * x1) + x5)).toNatClampNeg))), some (.int x4), some (.int x5)], [(.int ((s).1 46 (((5 * x5) + x1)).toNatClampNeg)), (.int x4)], s)) rfl rfl
   (d_step (t := (19, [some (.ref 40), some (.int x1), some (.int x2), some (.int (x3 + ((s).1 46 (((5 * x1) + x5)).toNatClampNeg))), some (.int (x4 + ((s).1 46 (((5 * x5) + x1)).toNatClampNeg))), some (.int (x5 + 1))], [], s)) 4 rfl
   (rfl)))))))
noncomputable def m_M_isThere (d : Nat) (ww : Nat) (p : Int32) (l : Int32) (s : qMem) : Option (Int32 × qMem) := qI (qCall qMT d 126 [.ref 40, .ref ww, .int p, .int l] s)
set_option maxRecDepth 20000 in
theorem e_M_isThere (d : Nat) (ww : Nat) (p : Int32) (l : Int32) (hc : (ww = 45) ∨ (ww = 54)) (s : qMem) : m_M_isThere (d + 1) ww p l s = (if p = (-1) then some (0, s) else ((m_M_has d ((s).1 40 30) p s).bind (fun q1 => (if q1.1 = 0 then some (0, q1.2) else (if qIn p 5 then (if ((q1.2).1 ww (p).toNatClampNeg) = l then some (1, q1.2) else some (0, q1.2)) else none))))) := by
  rcases hc with rfl | rfl
  · exact (d_step (t := (2, [some (.ref 40), some (.ref 45), some (.int p), some (.int l)], [(.int (-1)), (.int p)], s)) 2 rfl
     (d_if (a := (27, [some (.ref 40), some (.ref 45), some (.int p), some (.int l)], [], s)) (b := (5, [some (.ref 40), some (.ref 45), some (.int p), some (.int l)], [], s)) rfl rfl
     (d_step (t := (28, [some (.ref 40), some (.ref 45), some (.int p), some (.int l)], [(.int 0)], s)) 1 rfl
     (d_ret (k := 0) rfl rfl))
     (d_step (t := (10, [some (.ref 40), some (.ref 45), some (.int p), some (.int l)], [(.int p), (.int ((s).1 40 30))], s)) 3 rfl
     (d_callI (o := (m_M_has d ((s).1 40 30) p s)) rfl rfl (fun q1 =>
     d_if (a := (27, [some (.ref 40), some (.ref 45), some (.int p), some (.int l)], [], q1.2)) (b := (16, [some (.ref 40), some (.ref 45), some (.int p), some (.int l)], [], q1.2)) rfl rfl
     (d_step (t := (28, [some (.ref 40), some (.ref 45), some (.int p), some (.int l)], [(.int 0)], q1.2)) 1 rfl
     (d_ret (k := 0) rfl rfl))
     (d_step (t := (18, [some (.ref 40), some (.ref 45), some (.int p), some (.int l)], [(.int p), (.ref 45)], q1.2)) 2 rfl
     (d_chk (a := (19, [some (.ref 40), some (.ref 45), some (.int p), some (.int l)], [(.int ((q1.2).1 45 (p).toNatClampNeg))], q1.2)) rfl rfl
     (d_step (t := (20, [some (.ref 40), some (.ref 45), some (.int p), some (.int l)], [(.int l), (.int ((q1.2).1 45 (p).toNatClampNeg))], q1.2)) 1 rfl
     (d_if (a := (23, [some (.ref 40), some (.ref 45), some (.int p), some (.int l)], [], q1.2)) (b := (27, [some (.ref 40), some (.ref 45), some (.int p), some (.int l)], [], q1.2)) rfl rfl
     (d_step (t := (28, [some (.ref 40), some (.ref 45), some (.int p), some (.int l)], [(.int 1)], q1.2)) 2 rfl
     (d_ret (k := 0) rfl rfl))
     (d_step (t := (28, [some (.ref 40), some (.ref 45), some (.int p), some (.int l)], [(.int 0)], q1.2)) 1 rfl
     (d_ret (k := 0) rfl rfl)))))))))))
  · exact (d_step (t := (2, [some (.ref 40), some (.ref 54), some (.int p), some (.int l)], [(.int (-1)), (.int p)], s)) 2 rfl
     (d_if (a := (27, [some (.ref 40), some (.ref 54), some (.int p), some (.int l)], [], s)) (b := (5, [some (.ref 40), some (.ref 54), some (.int p), some (.int l)], [], s)) rfl rfl
     (d_step (t := (28, [some (.ref 40), some (.ref 54), some (.int p), some (.int l)], [(.int 0)], s)) 1 rfl
     (d_ret (k := 0) rfl rfl))
     (d_step (t := (10, [some (.ref 40), some (.ref 54), some (.int p), some (.int l)], [(.int p), (.int ((s).1 40 30))], s)) 3 rfl
     (d_callI (o := (m_M_has d ((s).1 40 30) p s)) rfl rfl (fun q1 =>
     d_if (a := (27, [some (.ref 40), some (.ref 54), some (.int p), some (.int l)], [], q1.2)) (b := (16, [some (.ref 40), some (.ref 54), some (.int p), some (.int l)], [], q1.2)) rfl rfl
     (d_step (t := (28, [some (.ref 40), some (.ref 54), some (.int p), some (.int l)], [(.int 0)], q1.2)) 1 rfl
     (d_ret (k := 0) rfl rfl))
     (d_step (t := (18, [some (.ref 40), some (.ref 54), some (.int p), some (.int l)], [(.int p), (.ref 54)], q1.2)) 2 rfl
     (d_chk (a := (19, [some (.ref 40), some (.ref 54), some (.int p), some (.int l)], [(.int ((q1.2).1 54 (p).toNatClampNeg))], q1.2)) rfl rfl
     (d_step (t := (20, [some (.ref 40), some (.ref 54), some (.int p), some (.int l)], [(.int l), (.int ((q1.2).1 54 (p).toNatClampNeg))], q1.2)) 1 rfl
     (d_if (a := (23, [some (.ref 40), some (.ref 54), some (.int p), some (.int l)], [], q1.2)) (b := (27, [some (.ref 40), some (.ref 54), some (.int p), some (.int l)], [], q1.2)) rfl rfl
     (d_step (t := (28, [some (.ref 40), some (.ref 54), some (.int p), some (.int l)], [(.int 1)], q1.2)) 2 rfl
     (d_ret (k := 0) rfl rfl))
     (d_step (t := (28, [some (.ref 40), some (.ref 54), some (.int p), some (.int l)], [(.int 0)], q1.2)) 1 rfl
     (d_ret (k := 0) rfl rfl)))))))))))
noncomputable def m_M_canUp (d : Nat) (ww : Nat) (p : Int32) (li : Int32) (pu : Int32) (s : qMem) : Option (Int32 × qMem) := qI (qCall qMT d 127 [.ref 40, .ref ww, .int p, .int li, .int pu] s)
noncomputable def l_M_canUp_1 (d : Nat) (ww : Nat) (x2 : Int32) (x3 : Int32) (x4 : Int32) (x5 : Int32) (z0 : Int32) (s : qMem) : Option (Int32 × qMem) := qI (qK qMT d 127 (86, [some (.ref 40), some (.ref ww), some (.int x2), some (.int x3), some (.int x4), some (.int x5), none, none, none], [(.int z0)], s))
noncomputable def l_M_canUp_2 (d : Nat) (ww : Nat) (x2 : Int32) (x3 : Int32) (x4 : Int32) (x5 : Int32) (s : qMem) : Option (Int32 × qMem) := qI (qK qMT d 127 (158, [some (.ref 40), none, some (.int x2), some (.int x3), some (.int x4), some (.int x5), none, none, none], [], s))
noncomputable def l_M_canUp_3 (d : Nat) (ww : Nat) (x2 : Int32) (x3 : Int32) (x4 : Int32) (x5 : Int32) (z0 : Int32) (s : qMem) : Option (Int32 × qMem) := qI (qK qMT d 127 (172, [some (.ref 40), none, some (.int x2), some (.int x3), some (.int x4), some (.int x5), none, none, none], [(.int z0)], s))
noncomputable def l_M_canUp_4 (d : Nat) (ww : Nat) (x2 : Int32) (x3 : Int32) (x4 : Int32) (x5 : Int32) (z0 : Int32) (z1 : Int32) (s : qMem) : Option (Int32 × qMem) := qI (qK qMT d 127 (188, [some (.ref 40), none, some (.int x2), some (.int x3), some (.int x4), some (.int x5), none, none, none], [(.int z0), (.int z1)], s))
noncomputable def l_M_canUp_5 (d : Nat) (ww : Nat) (x2 : Int32) (x4 : Int32) (x5 : Int32) (x7 : Int32) (z0 : Int32) (z1 : Int32) (s : qMem) : Option (Int32 × qMem) := qI (qK qMT d 127 (222, [some (.ref 40), none, some (.int x2), none, some (.int x4), some (.int x5), none, some (.int x7), none], [(.int z0), (.int z1)], s))
noncomputable def l_M_canUp_6 (d : Nat) (ww : Nat) (x2 : Int32) (x5 : Int32) (x7 : Int32) (z0 : Int32) (z1 : Int32) (s : qMem) : Option (Int32 × qMem) := qI (qK qMT d 127 (247, [some (.ref 40), none, some (.int x2), none, none, some (.int x5), none, some (.int x7), none], [(.int z0), (.int z1)], s))
set_option maxRecDepth 20000 in
theorem e_M_canUp (d : Nat) (ww : Nat) (p : Int32) (li : Int32) (pu : Int32) (hc : (ww = 45) ∨ (ww = 54)) (s : qMem) : m_M_canUp (d + 1) ww p li pu s = (if qIn p 5 then (if ((s).1 ww (p).toNatClampNeg) = ((s).1 40 0) then some (0, s) else (if qIn (6 * p) 30 then (if ((s).1 42 ((6 * p)).toNatClampNeg) = 3 then some (0, s) else (if qIn ((6 * p) + 1) 30 then (if qIn ((s).1 ww (p).toNatClampNeg) 4 then (if ((s).1 41 (((s).1 ww (p).toNatClampNeg)).toNatClampNeg) ≤ ((s).1 42 (((6 * p) + 1)).toNatClampNeg) then (l_M_canUp_1 d ww p li pu ((s).1 ww (p).toNatClampNeg) 1 s) else ((m_M_has d ((s).1 40 2) ((s).1 ww (p).toNatClampNeg) s).bind (fun q1 => (if q1.1 = 0 then (l_M_canUp_1 d ww p li pu ((s).1 ww (p).toNatClampNeg) 0 q1.2) else (if qIn ((6 * p) + 3) 30 then ((m_M_burden d p q1.2).bind (fun q2 => (l_M_canUp_1 d ww p li pu ((s).1 ww (p).toNatClampNeg) (if ((q1.2).1 42 (((6 * p) + 3)).toNatClampNeg) < q2.1 then 0 else 1 : Int32) q2.2))) else none))))) else none) else none)) else none)) else none) := by
  rcases hc with rfl | rfl
  · exact (d_step (t := (2, [some (.ref 40), some (.ref 45), some (.int p), some (.int li), some (.int pu), none, none, none, none], [(.int p), (.ref 45)], s)) 2 rfl
     (d_chk (a := (3, [some (.ref 40), some (.ref 45), some (.int p), some (.int li), some (.int pu), none, none, none, none], [(.int ((s).1 45 (p).toNatClampNeg))], s)) rfl rfl
     (d_step (t := (11, [some (.ref 40), some (.ref 45), some (.int p), some (.int li), some (.int pu), some (.int ((s).1 45 (p).toNatClampNeg)), none, none, none], [(.int ((s).1 40 0)), (.int ((s).1 45 (p).toNatClampNeg))], s)) 4 rfl
     (d_if (a := (27, [some (.ref 40), some (.ref 45), some (.int p), some (.int li), some (.int pu), some (.int ((s).1 45 (p).toNatClampNeg)), none, none, none], [], s)) (b := (14, [some (.ref 40), some (.ref 45), some (.int p), some (.int li), some (.int pu), some (.int ((s).1 45 (p).toNatClampNeg)), none, none, none], [], s)) rfl rfl
     (d_step (t := (28, [some (.ref 40), some (.ref 45), some (.int p), some (.int li), some (.int pu), some (.int ((s).1 45 (p).toNatClampNeg)), none, none, none], [(.int 0)], s)) 1 rfl
     (d_ret (k := 0) rfl rfl))
     (d_step (t := (22, [some (.ref 40), some (.ref 45), some (.int p), some (.int li), some (.int pu), some (.int ((s).1 45 (p).toNatClampNeg)), none, none, none], [(.int (6 * p)), (.ref 42)], s)) 5 rfl
     (d_chk (a := (23, [some (.ref 40), some (.ref 45), some (.int p), some (.int li), some (.int pu), some (.int ((s).1 45 (p).toNatClampNeg)), none, none, none], [(.int ((s).1 42 ((6 * p)).toNatClampNeg))], s)) rfl rfl
     (d_step (t := (24, [some (.ref 40), some (.ref 45), some (.int p), some (.int li), some (.int pu), some (.int ((s).1 45 (p).toNatClampNeg)), none, none, none], [(.int 3), (.int ((s).1 42 ((6 * p)).toNatClampNeg))], s)) 1 rfl
     (d_if (a := (27, [some (.ref 40), some (.ref 45), some (.int p), some (.int li), some (.int pu), some (.int ((s).1 45 (p).toNatClampNeg)), none, none, none], [], s)) (b := (29, [some (.ref 40), some (.ref 45), some (.int p), some (.int li), some (.int pu), some (.int ((s).1 45 (p).toNatClampNeg)), none, none, none], [], s)) rfl rfl
     (d_step (t := (28, [some (.ref 40), some (.ref 45), some (.int p), some (.int li), some (.int pu), some (.int ((s).1 45 (p).toNatClampNeg)), none, none, none], [(.int 0)], s)) 1 rfl
     (d_ret (k := 0) rfl rfl))
     (d_step (t := (39, [some (.ref 40), some (.ref 45), some (.int p), some (.int li), some (.int pu), some (.int ((s).1 45 (p).toNatClampNeg)), none, none, none], [(.int ((6 * p) + 1)), (.ref 42)], s)) 7 rfl
     (d_chk (a := (40, [some (.ref 40), some (.ref 45), some (.int p), some (.int li), some (.int pu), some (.int ((s).1 45 (p).toNatClampNeg)), none, none, none], [(.int ((s).1 42 (((6 * p) + 1)).toNatClampNeg))], s)) rfl rfl
     (d_step (t := (46, [some (.ref 40), some (.ref 45), some (.int p), some (.int li), some (.int pu), some (.int ((s).1 45 (p).toNatClampNeg)), none, none, none], [(.int ((s).1 45 (p).toNatClampNeg)), (.ref 41), (.int ((s).1 42 (((6 * p) + 1)).toNatClampNeg))], s)) 3 rfl
     (d_chk (a := (47, [some (.ref 40), some (.ref 45), some (.int p), some (.int li), some (.int pu), some (.int ((s).1 45 (p).toNatClampNeg)), none, none, none], [(.int ((s).1 41 (((s).1 45 (p).toNatClampNeg)).toNatClampNeg)), (.int ((s).1 42 (((6 * p) + 1)).toNatClampNeg))], s)) rfl rfl
     (d_if (a := (81, [some (.ref 40), some (.ref 45), some (.int p), some (.int li), some (.int pu), some (.int ((s).1 45 (p).toNatClampNeg)), none, none, none], [], s)) (b := (50, [some (.ref 40), some (.ref 45), some (.int p), some (.int li), some (.int pu), some (.int ((s).1 45 (p).toNatClampNeg)), none, none, none], [], s)) rfl rfl
     (d_step (t := (86, [some (.ref 40), some (.ref 45), some (.int p), some (.int li), some (.int pu), some (.int ((s).1 45 (p).toNatClampNeg)), none, none, none], [(.int 1)], s)) 2 rfl
     (d_lab (x2 := (86, [some (.ref 40), some (.ref 45), some (.int p), some (.int li), some (.int pu), some (.int ((s).1 45 (p).toNatClampNeg)), none, none, none], [(.int 1)], s)) rfl rfl rfl))
     (d_step (t := (56, [some (.ref 40), some (.ref 45), some (.int p), some (.int li), some (.int pu), some (.int ((s).1 45 (p).toNatClampNeg)), none, none, none], [(.int ((s).1 45 (p).toNatClampNeg)), (.int ((s).1 40 2))], s)) 3 rfl
     (d_callI (o := (m_M_has d ((s).1 40 2) ((s).1 45 (p).toNatClampNeg) s)) rfl rfl (fun q1 =>
     d_if (a := (85, [some (.ref 40), some (.ref 45), some (.int p), some (.int li), some (.int pu), some (.int ((s).1 45 (p).toNatClampNeg)), none, none, none], [], q1.2)) (b := (62, [some (.ref 40), some (.ref 45), some (.int p), some (.int li), some (.int pu), some (.int ((s).1 45 (p).toNatClampNeg)), none, none, none], [], q1.2)) rfl rfl
     (d_step (t := (86, [some (.ref 40), some (.ref 45), some (.int p), some (.int li), some (.int pu), some (.int ((s).1 45 (p).toNatClampNeg)), none, none, none], [(.int 0)], q1.2)) 1 rfl
     (d_lab (x2 := (86, [some (.ref 40), some (.ref 45), some (.int p), some (.int li), some (.int pu), some (.int ((s).1 45 (p).toNatClampNeg)), none, none, none], [(.int 0)], q1.2)) rfl rfl rfl))
     (d_step (t := (72, [some (.ref 40), some (.ref 45), some (.int p), some (.int li), some (.int pu), some (.int ((s).1 45 (p).toNatClampNeg)), none, none, none], [(.int ((6 * p) + 3)), (.ref 42)], q1.2)) 7 rfl
     (d_chk (a := (73, [some (.ref 40), some (.ref 45), some (.int p), some (.int li), some (.int pu), some (.int ((s).1 45 (p).toNatClampNeg)), none, none, none], [(.int ((q1.2).1 42 (((6 * p) + 3)).toNatClampNeg))], q1.2)) rfl rfl
     (d_step (t := (75, [some (.ref 40), some (.ref 45), some (.int p), some (.int li), some (.int pu), some (.int ((s).1 45 (p).toNatClampNeg)), none, none, none], [(.int p), (.ref 40), (.int ((q1.2).1 42 (((6 * p) + 3)).toNatClampNeg))], q1.2)) 2 rfl
     (d_callI (o := (m_M_burden d p q1.2)) rfl rfl (fun q2 =>
     d_mrg (a := (85, [some (.ref 40), some (.ref 45), some (.int p), some (.int li), some (.int pu), some (.int ((s).1 45 (p).toNatClampNeg)), none, none, none], [], q2.2)) (b := (81, [some (.ref 40), some (.ref 45), some (.int p), some (.int li), some (.int pu), some (.int ((s).1 45 (p).toNatClampNeg)), none, none, none], [], q2.2)) (v1 := 0) (v2 := 1) (z := fun v9 => (86, [some (.ref 40), some (.ref 45), some (.int p), some (.int li), some (.int pu), some (.int ((s).1 45 (p).toNatClampNeg)), none, none, none], [(.int v9)], q2.2)) 1 2 rfl rfl rfl rfl
     (d_lab (x2 := (86, [some (.ref 40), some (.ref 45), some (.int p), some (.int li), some (.int pu), some (.int ((s).1 45 (p).toNatClampNeg)), none, none, none], [(.int (if ((q1.2).1 42 (((6 * p) + 3)).toNatClampNeg) < q2.1 then 0 else 1 : Int32))], q2.2)) rfl rfl rfl))))))))))))))))))))))
  · exact (d_step (t := (2, [some (.ref 40), some (.ref 54), some (.int p), some (.int li), some (.int pu), none, none, none, none], [(.int p), (.ref 54)], s)) 2 rfl
     (d_chk (a := (3, [some (.ref 40), some (.ref 54), some (.int p), some (.int li), some (.int pu), none, none, none, none], [(.int ((s).1 54 (p).toNatClampNeg))], s)) rfl rfl
     (d_step (t := (11, [some (.ref 40), some (.ref 54), some (.int p), some (.int li), some (.int pu), some (.int ((s).1 54 (p).toNatClampNeg)), none, none, none], [(.int ((s).1 40 0)), (.int ((s).1 54 (p).toNatClampNeg))], s)) 4 rfl
     (d_if (a := (27, [some (.ref 40), some (.ref 54), some (.int p), some (.int li), some (.int pu), some (.int ((s).1 54 (p).toNatClampNeg)), none, none, none], [], s)) (b := (14, [some (.ref 40), some (.ref 54), some (.int p), some (.int li), some (.int pu), some (.int ((s).1 54 (p).toNatClampNeg)), none, none, none], [], s)) rfl rfl
     (d_step (t := (28, [some (.ref 40), some (.ref 54), some (.int p), some (.int li), some (.int pu), some (.int ((s).1 54 (p).toNatClampNeg)), none, none, none], [(.int 0)], s)) 1 rfl
     (d_ret (k := 0) rfl rfl))
     (d_step (t := (22, [some (.ref 40), some (.ref 54), some (.int p), some (.int li), some (.int pu), some (.int ((s).1 54 (p).toNatClampNeg)), none, none, none], [(.int (6 * p)), (.ref 42)], s)) 5 rfl
     (d_chk (a := (23, [some (.ref 40), some (.ref 54), some (.int p), some (.int li), some (.int pu), some (.int ((s).1 54 (p).toNatClampNeg)), none, none, none], [(.int ((s).1 42 ((6 * p)).toNatClampNeg))], s)) rfl rfl
     (d_step (t := (24, [some (.ref 40), some (.ref 54), some (.int p), some (.int li), some (.int pu), some (.int ((s).1 54 (p).toNatClampNeg)), none, none, none], [(.int 3), (.int ((s).1 42 ((6 * p)).toNatClampNeg))], s)) 1 rfl
     (d_if (a := (27, [some (.ref 40), some (.ref 54), some (.int p), some (.int li), some (.int pu), some (.int ((s).1 54 (p).toNatClampNeg)), none, none, none], [], s)) (b := (29, [some (.ref 40), some (.ref 54), some (.int p), some (.int li), some (.int pu), some (.int ((s).1 54 (p).toNatClampNeg)), none, none, none], [], s)) rfl rfl
     (d_step (t := (28, [some (.ref 40), some (.ref 54), some (.int p), some (.int li), some (.int pu), some (.int ((s).1 54 (p).toNatClampNeg)), none, none, none], [(.int 0)], s)) 1 rfl
     (d_ret (k := 0) rfl rfl))
     (d_step (t := (39, [some (.ref 40), some (.ref 54), some (.int p), some (.int li), some (.int pu), some (.int ((s).1 54 (p).toNatClampNeg)), none, none, none], [(.int ((6 * p) + 1)), (.ref 42)], s)) 7 rfl
     (d_chk (a := (40, [some (.ref 40), some (.ref 54), some (.int p), some (.int li), some (.int pu), some (.int ((s).1 54 (p).toNatClampNeg)), none, none, none], [(.int ((s).1 42 (((6 * p) + 1)).toNatClampNeg))], s)) rfl rfl
     (d_step (t := (46, [some (.ref 40), some (.ref 54), some (.int p), some (.int li), some (.int pu), some (.int ((s).1 54 (p).toNatClampNeg)), none, none, none], [(.int ((s).1 54 (p).toNatClampNeg)), (.ref 41), (.int ((s).1 42 (((6 * p) + 1)).toNatClampNeg))], s)) 3 rfl
     (d_chk (a := (47, [some (.ref 40), some (.ref 54), some (.int p), some (.int li), some (.int pu), some (.int ((s).1 54 (p).toNatClampNeg)), none, none, none], [(.int ((s).1 41 (((s).1 54 (p).toNatClampNeg)).toNatClampNeg)), (.int ((s).1 42 (((6 * p) + 1)).toNatClampNeg))], s)) rfl rfl
     (d_if (a := (81, [some (.ref 40), some (.ref 54), some (.int p), some (.int li), some (.int pu), some (.int ((s).1 54 (p).toNatClampNeg)), none, none, none], [], s)) (b := (50, [some (.ref 40), some (.ref 54), some (.int p), some (.int li), some (.int pu), some (.int ((s).1 54 (p).toNatClampNeg)), none, none, none], [], s)) rfl rfl
     (d_step (t := (86, [some (.ref 40), some (.ref 54), some (.int p), some (.int li), some (.int pu), some (.int ((s).1 54 (p).toNatClampNeg)), none, none, none], [(.int 1)], s)) 2 rfl
     (d_lab (x2 := (86, [some (.ref 40), some (.ref 54), some (.int p), some (.int li), some (.int pu), some (.int ((s).1 54 (p).toNatClampNeg)), none, none, none], [(.int 1)], s)) rfl rfl rfl))
     (d_step (t := (56, [some (.ref 40), some (.ref 54), some (.int p), some (.int li), some (.int pu), some (.int ((s).1 54 (p).toNatClampNeg)), none, none, none], [(.int ((s).1 54 (p).toNatClampNeg)), (.int ((s).1 40 2))], s)) 3 rfl
     (d_callI (o := (m_M_has d ((s).1 40 2) ((s).1 54 (p).toNatClampNeg) s)) rfl rfl (fun q1 =>
     d_if (a := (85, [some (.ref 40), some (.ref 54), some (.int p), some (.int li), some (.int pu), some (.int ((s).1 54 (p).toNatClampNeg)), none, none, none], [], q1.2)) (b := (62, [some (.ref 40), some (.ref 54), some (.int p), some (.int li), some (.int pu), some (.int ((s).1 54 (p).toNatClampNeg)), none, none, none], [], q1.2)) rfl rfl
     (d_step (t := (86, [some (.ref 40), some (.ref 54), some (.int p), some (.int li), some (.int pu), some (.int ((s).1 54 (p).toNatClampNeg)), none, none, none], [(.int 0)], q1.2)) 1 rfl
     (d_lab (x2 := (86, [some (.ref 40), some (.ref 54), some (.int p), some (.int li), some (.int pu), some (.int ((s).1 54 (p).toNatClampNeg)), none, none, none], [(.int 0)], q1.2)) rfl rfl rfl))
     (d_step (t := (72, [some (.ref 40), some (.ref 54), some (.int p), some (.int li), some (.int pu), some (.int ((s).1 54 (p).toNatClampNeg)), none, none, none], [(.int ((6 * p) + 3)), (.ref 42)], q1.2)) 7 rfl
     (d_chk (a := (73, [some (.ref 40), some (.ref 54), some (.int p), some (.int li), some (.int pu), some (.int ((s).1 54 (p).toNatClampNeg)), none, none, none], [(.int ((q1.2).1 42 (((6 * p) + 3)).toNatClampNeg))], q1.2)) rfl rfl
     (d_step (t := (75, [some (.ref 40), some (.ref 54), some (.int p), some (.int li), some (.int pu), some (.int ((s).1 54 (p).toNatClampNeg)), none, none, none], [(.int p), (.ref 40), (.int ((q1.2).1 42 (((6 * p) + 3)).toNatClampNeg))], q1.2)) 2 rfl
     (d_callI (o := (m_M_burden d p q1.2)) rfl rfl (fun q2 =>
     d_mrg (a := (85, [some (.ref 40), some (.ref 54), some (.int p), some (.int li), some (.int pu), some (.int ((s).1 54 (p).toNatClampNeg)), none, none, none], [], q2.2)) (b := (81, [some (.ref 40), some (.ref 54), some (.int p), some (.int li), some (.int pu), some (.int ((s).1 54 (p).toNatClampNeg)), none, none, none], [], q2.2)) (v1 := 0) (v2 := 1) (z := fun v9 => (86, [some (.ref 40), some (.ref 54), some (.int p), some (.int li), some (.int pu), some (.int ((s).1 54 (p).toNatClampNeg)), none, none, none], [(.int v9)], q2.2)) 1 2 rfl rfl rfl rfl
     (d_lab (x2 := (86, [some (.ref 40), some (.ref 54), some (.int p), some (.int li), some (.int pu), some (.int ((s).1 54 (p).toNatClampNeg)), none, none, none], [(.int (if ((q1.2).1 42 (((6 * p) + 3)).toNatClampNeg) < q2.1 then 0 else 1 : Int32))], q2.2)) rfl rfl rfl))))))))))))))))))))))
set_option maxRecDepth 20000 in
theorem el_M_canUp_1 (d : Nat) (ww : Nat) (x2 : Int32) (x3 : Int32) (x4 : Int32) (x5 : Int32) (z0 : Int32) (hc : (ww = 45) ∨ (ww = 54)) (s : qMem) : l_M_canUp_1 d ww x2 x3 x4 x5 z0 s = (if x3 = (-1) then (if x4 = (-1) then (if z0 = 0 ∨ z0 = 1 then some (z0, s) else none) else (if z0 = 0 then (if qIn (6 * x2) 30 then (if ((s).1 42 ((6 * x2)).toNatClampNeg) = 2 then some (0, s) else (if x3 = (-1) then (if x4 = (-1) then (l_M_canUp_2 d ww x2 x3 x4 x5 s) else ((m_M_isThere d ww x4 (x5 + 1) s).bind (fun q1 => (if q1.1 = 0 then some (0, q1.2) else (l_M_canUp_2 d ww x2 x3 x4 x5 q1.2))))) else ((m_M_isThere d ww x3 x5 s).bind (fun q2 => (if q2.1 = 0 then some (0, q2.2) else (if x4 = (-1) then (l_M_canUp_2 d ww x2 x3 x4 x5 q2.2) else ((m_M_isThere d ww x4 (x5 + 1) q2.2).bind (fun q3 => (if q3.1 = 0 then some (0, q3.2) else (l_M_canUp_2 d ww x2 x3 x4 x5 q3.2)))))))))) else none) else some (0, s))) else (if z0 = 0 then (if qIn (6 * x2) 30 then (if ((s).1 42 ((6 * x2)).toNatClampNeg) = 2 then some (0, s) else (if x3 = (-1) then (if x4 = (-1) then (l_M_canUp_2 d ww x2 x3 x4 x5 s) else ((m_M_isThere d ww x4 (x5 + 1) s).bind (fun q4 => (if q4.1 = 0 then some (0, q4.2) else (l_M_canUp_2 d ww x2 x3 x4 x5 q4.2))))) else ((m_M_isThere d ww x3 x5 s).bind (fun q5 => (if q5.1 = 0 then some (0, q5.2) else (if x4 = (-1) then (l_M_canUp_2 d ww x2 x3 x4 x5 q5.2) else ((m_M_isThere d ww x4 (x5 + 1) q5.2).bind (fun q6 => (if q6.1 = 0 then some (0, q6.2) else (l_M_canUp_2 d ww x2 x3 x4 x5 q6.2)))))))))) else none) else some (0, s))) := by
  rcases hc with rfl | rfl
  · exact (d_step (t := (90, [some (.ref 40), some (.ref 45), some (.int x2), some (.int x3), some (.int x4), some (.int x5), some (.int z0), none, none], [(.int (-1)), (.int x3)], s)) 3 rfl
     (d_if (a := (93, [some (.ref 40), some (.ref 45), some (.int x2), some (.int x3), some (.int x4), some (.int x5), some (.int z0), none, none], [], s)) (b := (102, [some (.ref 40), some (.ref 45), some (.int x2), some (.int x3), some (.int x4), some (.int x5), some (.int z0), none, none], [], s)) rfl rfl
     (d_step (t := (96, [some (.ref 40), some (.ref 45), some (.int x2), some (.int x3), some (.int x4), some (.int x5), some (.int z0), none, none], [(.int (-1)), (.int x4)], s)) 2 rfl
     (d_if (a := (99, [some (.ref 40), some (.ref 45), some (.int x2), some (.int x3), some (.int x4), some (.int x5), some (.int z0), none, none], [], s)) (b := (102, [some (.ref 40), some (.ref 45), some (.int x2), some (.int x3), some (.int x4), some (.int x5), some (.int z0), none, none], [], s)) rfl rfl
     (d_step (t := (101, [some (.ref 40), some (.ref 45), some (.int x2), some (.int x3), some (.int x4), some (.int x5), some (.int z0), none, none], [(.int z0)], s)) 1 rfl
     (d_retz (k := 0) rfl rfl))
     (d_step (t := (104, [some (.ref 40), some (.ref 45), some (.int x2), some (.int x3), some (.int x4), some (.int x5), some (.int z0), none, none], [(.int z0)], s)) 1 rfl
     (d_if (a := (107, [some (.ref 40), some (.ref 45), some (.int x2), some (.int x3), some (.int x4), some (.int x5), some (.int z0), none, none], [], s)) (b := (156, [some (.ref 40), some (.ref 45), some (.int x2), some (.int x3), some (.int x4), some (.int x5), some (.int z0), none, none], [], s)) rfl rfl
     (d_step (t := (115, [some (.ref 40), some (.ref 45), some (.int x2), some (.int x3), some (.int x4), some (.int x5), some (.int z0), none, none], [(.int (6 * x2)), (.ref 42)], s)) 5 rfl
     (d_chk (a := (116, [some (.ref 40), some (.ref 45), some (.int x2), some (.int x3), some (.int x4), some (.int x5), some (.int z0), none, none], [(.int ((s).1 42 ((6 * x2)).toNatClampNeg))], s)) rfl rfl
     (d_step (t := (117, [some (.ref 40), some (.ref 45), some (.int x2), some (.int x3), some (.int x4), some (.int x5), some (.int z0), none, none], [(.int 2), (.int ((s).1 42 ((6 * x2)).toNatClampNeg))], s)) 1 rfl
     (d_if (a := (156, [some (.ref 40), some (.ref 45), some (.int x2), some (.int x3), some (.int x4), some (.int x5), some (.int z0), none, none], [], s)) (b := (120, [some (.ref 40), some (.ref 45), some (.int x2), some (.int x3), some (.int x4), some (.int x5), some (.int z0), none, none], [], s)) rfl rfl
     (d_step (t := (157, [some (.ref 40), some (.ref 45), some (.int x2), some (.int x3), some (.int x4), some (.int x5), some (.int z0), none, none], [(.int 0)], s)) 1 rfl
     (d_ret (k := 0) rfl rfl))
     (d_step (t := (122, [some (.ref 40), some (.ref 45), some (.int x2), some (.int x3), some (.int x4), some (.int x5), some (.int z0), none, none], [(.int (-1)), (.int x3)], s)) 2 rfl
     (d_if (a := (136, [some (.ref 40), some (.ref 45), some (.int x2), some (.int x3), some (.int x4), some (.int x5), some (.int z0), none, none], [], s)) (b := (125, [some (.ref 40), some (.ref 45), some (.int x2), some (.int x3), some (.int x4), some (.int x5), some (.int z0), none, none], [], s)) rfl rfl
     (d_step (t := (139, [some (.ref 40), some (.ref 45), some (.int x2), some (.int x3), some (.int x4), some (.int x5), some (.int z0), none, none], [(.int (-1)), (.int x4)], s)) 2 rfl
     (d_if (a := (158, [some (.ref 40), some (.ref 45), some (.int x2), some (.int x3), some (.int x4), some (.int x5), some (.int z0), none, none], [], s)) (b := (142, [some (.ref 40), some (.ref 45), some (.int x2), some (.int x3), some (.int x4), some (.int x5), some (.int z0), none, none], [], s)) rfl rfl
     (d_lab (x2 := (158, [some (.ref 40), none, some (.int x2), some (.int x3), some (.int x4), some (.int x5), none, none, none], [], s)) rfl rfl rfl)
     (d_step (t := (150, [some (.ref 40), some (.ref 45), some (.int x2), some (.int x3), some (.int x4), some (.int x5), some (.int z0), none, none], [(.int (x5 + 1)), (.int x4), (.ref 45), (.ref 40)], s)) 6 rfl
     (d_callI (o := (m_M_isThere d 45 x4 (x5 + 1) s)) rfl rfl (fun q1 =>
     d_if (a := (156, [some (.ref 40), some (.ref 45), some (.int x2), some (.int x3), some (.int x4), some (.int x5), some (.int z0), none, none], [], q1.2)) (b := (158, [some (.ref 40), some (.ref 45), some (.int x2), some (.int x3), some (.int x4), some (.int x5), some (.int z0), none, none], [], q1.2)) rfl rfl
     (d_step (t := (157, [some (.ref 40), some (.ref 45), some (.int x2), some (.int x3), some (.int x4), some (.int x5), some (.int z0), none, none], [(.int 0)], q1.2)) 1 rfl
     (d_ret (k := 0) rfl rfl))
     (d_lab (x2 := (158, [some (.ref 40), none, some (.int x2), some (.int x3), some (.int x4), some (.int x5), none, none, none], [], q1.2)) rfl rfl rfl))))))
     (d_step (t := (130, [some (.ref 40), some (.ref 45), some (.int x2), some (.int x3), some (.int x4), some (.int x5), some (.int z0), none, none], [(.int x5), (.int x3), (.ref 45), (.ref 40)], s)) 4 rfl
     (d_callI (o := (m_M_isThere d 45 x3 x5 s)) rfl rfl (fun q2 =>
     d_if (a := (156, [some (.ref 40), some (.ref 45), some (.int x2), some (.int x3), some (.int x4), some (.int x5), some (.int z0), none, none], [], q2.2)) (b := (136, [some (.ref 40), some (.ref 45), some (.int x2), some (.int x3), some (.int x4), some (.int x5), some (.int z0), none, none], [], q2.2)) rfl rfl
     (d_step (t := (157, [some (.ref 40), some (.ref 45), some (.int x2), some (.int x3), some (.int x4), some (.int x5), some (.int z0), none, none], [(.int 0)], q2.2)) 1 rfl
     (d_ret (k := 0) rfl rfl))
     (d_step (t := (139, [some (.ref 40), some (.ref 45), some (.int x2), some (.int x3), some (.int x4), some (.int x5), some (.int z0), none, none], [(.int (-1)), (.int x4)], q2.2)) 2 rfl
     (d_if (a := (158, [some (.ref 40), some (.ref 45), some (.int x2), some (.int x3), some (.int x4), some (.int x5), some (.int z0), none, none], [], q2.2)) (b := (142, [some (.ref 40), some (.ref 45), some (.int x2), some (.int x3), some (.int x4), some (.int x5), some (.int z0), none, none], [], q2.2)) rfl rfl
     (d_lab (x2 := (158, [some (.ref 40), none, some (.int x2), some (.int x3), some (.int x4), some (.int x5), none, none, none], [], q2.2)) rfl rfl rfl)
     (d_step (t := (150, [some (.ref 40), some (.ref 45), some (.int x2), some (.int x3), some (.int x4), some (.int x5), some (.int z0), none, none], [(.int (x5 + 1)), (.int x4), (.ref 45), (.ref 40)], q2.2)) 6 rfl
     (d_callI (o := (m_M_isThere d 45 x4 (x5 + 1) q2.2)) rfl rfl (fun q3 =>
     d_if (a := (156, [some (.ref 40), some (.ref 45), some (.int x2), some (.int x3), some (.int x4), some (.int x5), some (.int z0), none, none], [], q3.2)) (b := (158, [some (.ref 40), some (.ref 45), some (.int x2), some (.int x3), some (.int x4), some (.int x5), some (.int z0), none, none], [], q3.2)) rfl rfl
     (d_step (t := (157, [some (.ref 40), some (.ref 45), some (.int x2), some (.int x3), some (.int x4), some (.int x5), some (.int z0), none, none], [(.int 0)], q3.2)) 1 rfl
     (d_ret (k := 0) rfl rfl))
     (d_lab (x2 := (158, [some (.ref 40), none, some (.int x2), some (.int x3), some (.int x4), some (.int x5), none, none, none], [], q3.2)) rfl rfl rfl)))))))))))))))
     (d_step (t := (157, [some (.ref 40), some (.ref 45), some (.int x2), some (.int x3), some (.int x4), some (.int x5), some (.int z0), none, none], [(.int 0)], s)) 1 rfl
     (d_ret (k := 0) rfl rfl))))))
     (d_step (t := (104, [some (.ref 40), some (.ref 45), some (.int x2), some (.int x3), some (.int x4), some (.int x5), some (.int z0), none, none], [(.int z0)], s)) 1 rfl
     (d_if (a := (107, [some (.ref 40), some (.ref 45), some (.int x2), some (.int x3), some (.int x4), some (.int x5), some (.int z0), none, none], [], s)) (b := (156, [some (.ref 40), some (.ref 45), some (.int x2), some (.int x3), some (.int x4), some (.int x5), some (.int z0), none, none], [], s)) rfl rfl
     (d_step (t := (115, [some (.ref 40), some (.ref 45), some (.int x2), some (.int x3), some (.int x4), some (.int x5), some (.int z0), none, none], [(.int (6 * x2)), (.ref 42)], s)) 5 rfl
     (d_chk (a := (116, [some (.ref 40), some (.ref 45), some (.int x2), some (.int x3), some (.int x4), some (.int x5), some (.int z0), none, none], [(.int ((s).1 42 ((6 * x2)).toNatClampNeg))], s)) rfl rfl
     (d_step (t := (117, [some (.ref 40), some (.ref 45), some (.int x2), some (.int x3), some (.int x4), some (.int x5), some (.int z0), none, none], [(.int 2), (.int ((s).1 42 ((6 * x2)).toNatClampNeg))], s)) 1 rfl
     (d_if (a := (156, [some (.ref 40), some (.ref 45), some (.int x2), some (.int x3), some (.int x4), some (.int x5), some (.int z0), none, none], [], s)) (b := (120, [some (.ref 40), some (.ref 45), some (.int x2), some (.int x3), some (.int x4), some (.int x5), some (.int z0), none, none], [], s)) rfl rfl
     (d_step (t := (157, [some (.ref 40), some (.ref 45), some (.int x2), some (.int x3), some (.int x4), some (.int x5), some (.int z0), none, none], [(.int 0)], s)) 1 rfl
     (d_ret (k := 0) rfl rfl))
     (d_step (t := (122, [some (.ref 40), some (.ref 45), some (.int x2), some (.int x3), some (.int x4), some (.int x5), some (.int z0), none, none], [(.int (-1)), (.int x3)], s)) 2 rfl
     (d_if (a := (136, [some (.ref 40), some (.ref 45), some (.int x2), some (.int x3), some (.int x4), some (.int x5), some (.int z0), none, none], [], s)) (b := (125, [some (.ref 40), some (.ref 45), some (.int x2), some (.int x3), some (.int x4), some (.int x5), some (.int z0), none, none], [], s)) rfl rfl
     (d_step (t := (139, [some (.ref 40), some (.ref 45), some (.int x2), some (.int x3), some (.int x4), some (.int x5), some (.int z0), none, none], [(.int (-1)), (.int x4)], s)) 2 rfl
     (d_if (a := (158, [some (.ref 40), some (.ref 45), some (.int x2), some (.int x3), some (.int x4), some (.int x5), some (.int z0), none, none], [], s)) (b := (142, [some (.ref 40), some (.ref 45), some (.int x2), some (.int x3), some (.int x4), some (.int x5), some (.int z0), none, none], [], s)) rfl rfl
     (d_lab (x2 := (158, [some (.ref 40), none, some (.int x2), some (.int x3), some (.int x4), some (.int x5), none, none, none], [], s)) rfl rfl rfl)
     (d_step (t := (150, [some (.ref 40), some (.ref 45), some (.int x2), some (.int x3), some (.int x4), some (.int x5), some (.int z0), none, none], [(.int (x5 + 1)), (.int x4), (.ref 45), (.ref 40)], s)) 6 rfl
     (d_callI (o := (m_M_isThere d 45 x4 (x5 + 1) s)) rfl rfl (fun q4 =>
     d_if (a := (156, [some (.ref 40), some (.ref 45), some (.int x2), some (.int x3), some (.int x4), some (.int x5), some (.int z0), none, none], [], q4.2)) (b := (158, [some (.ref 40), some (.ref 45), some (.int x2), some (.int x3), some (.int x4), some (.int x5), some (.int z0), none, none], [], q4.2)) rfl rfl
     (d_step (t := (157, [some (.ref 40), some (.ref 45), some (.int x2), some (.int x3), some (.int x4), some (.int x5), some (.int z0), none, none], [(.int 0)], q4.2)) 1 rfl
     (d_ret (k := 0) rfl rfl))
     (d_lab (x2 := (158, [some (.ref 40), none, some (.int x2), some (.int x3), some (.int x4), some (.int x5), none, none, none], [], q4.2)) rfl rfl rfl))))))
     (d_step (t := (130, [some (.ref 40), some (.ref 45), some (.int x2), some (.int x3), some (.int x4), some (.int x5), some (.int z0), none, none], [(.int x5), (.int x3), (.ref 45), (.ref 40)], s)) 4 rfl
     (d_callI (o := (m_M_isThere d 45 x3 x5 s)) rfl rfl (fun q5 =>
     d_if (a := (156, [some (.ref 40), some (.ref 45), some (.int x2), some (.int x3), some (.int x4), some (.int x5), some (.int z0), none, none], [], q5.2)) (b := (136, [some (.ref 40), some (.ref 45), some (.int x2), some (.int x3), some (.int x4), some (.int x5), some (.int z0), none, none], [], q5.2)) rfl rfl
     (d_step (t := (157, [some (.ref 40), some (.ref 45), some (.int x2), some (.int x3), some (.int x4), some (.int x5), some (.int z0), none, none], [(.int 0)], q5.2)) 1 rfl
     (d_ret (k := 0) rfl rfl))
     (d_step (t := (139, [some (.ref 40), some (.ref 45), some (.int x2), some (.int x3), some (.int x4), some (.int x5), some (.int z0), none, none], [(.int (-1)), (.int x4)], q5.2)) 2 rfl
     (d_if (a := (158, [some (.ref 40), some (.ref 45), some (.int x2), some (.int x3), some (.int x4), some (.int x5), some (.int z0), none, none], [], q5.2)) (b := (142, [some (.ref 40), some (.ref 45), some (.int x2), some (.int x3), some (.int x4), some (.int x5), some (.int z0), none, none], [], q5.2)) rfl rfl
     (d_lab (x2 := (158, [some (.ref 40), none, some (.int x2), some (.int x3), some (.int x4), some (.int x5), none, none, none], [], q5.2)) rfl rfl rfl)
     (d_step (t := (150, [some (.ref 40), some (.ref 45), some (.int x2), some (.int x3), some (.int x4), some (.int x5), some (.int z0), none, none], [(.int (x5 + 1)), (.int x4), (.ref 45), (.ref 40)], q5.2)) 6 rfl
     (d_callI (o := (m_M_isThere d 45 x4 (x5 + 1) q5.2)) rfl rfl (fun q6 =>
     d_if (a := (156, [some (.ref 40), some (.ref 45), some (.int x2), some (.int x3), some (.int x4), some (.int x5), some (.int z0), none, none], [], q6.2)) (b := (158, [some (.ref 40), some (.ref 45), some (.int x2), some (.int x3), some (.int x4), some (.int x5), some (.int z0), none, none], [], q6.2)) rfl rfl
     (d_step (t := (157, [some (.ref 40), some (.ref 45), some (.int x2), some (.int x3), some (.int x4), some (.int x5), some (.int z0), none, none], [(.int 0)], q6.2)) 1 rfl
     (d_ret (k := 0) rfl rfl))
     (d_lab (x2 := (158, [some (.ref 40), none, some (.int x2), some (.int x3), some (.int x4), some (.int x5), none, none, none], [], q6.2)) rfl rfl rfl)))))))))))))))
     (d_step (t := (157, [some (.ref 40), some (.ref 45), some (.int x2), some (.int x3), some (.int x4), some (.int x5), some (.int z0), none, none], [(.int 0)], s)) 1 rfl
     (d_ret (k := 0) rfl rfl))))))
  · exact (d_step (t := (90, [some (.ref 40), some (.ref 54), some (.int x2), some (.int x3), some (.int x4), some (.int x5), some (.int z0), none, none], [(.int (-1)), (.int x3)], s)) 3 rfl
     (d_if (a := (93, [some (.ref 40), some (.ref 54), some (.int x2), some (.int x3), some (.int x4), some (.int x5), some (.int z0), none, none], [], s)) (b := (102, [some (.ref 40), some (.ref 54), some (.int x2), some (.int x3), some (.int x4), some (.int x5), some (.int z0), none, none], [], s)) rfl rfl
     (d_step (t := (96, [some (.ref 40), some (.ref 54), some (.int x2), some (.int x3), some (.int x4), some (.int x5), some (.int z0), none, none], [(.int (-1)), (.int x4)], s)) 2 rfl
     (d_if (a := (99, [some (.ref 40), some (.ref 54), some (.int x2), some (.int x3), some (.int x4), some (.int x5), some (.int z0), none, none], [], s)) (b := (102, [some (.ref 40), some (.ref 54), some (.int x2), some (.int x3), some (.int x4), some (.int x5), some (.int z0), none, none], [], s)) rfl rfl
     (d_step (t := (101, [some (.ref 40), some (.ref 54), some (.int x2), some (.int x3), some (.int x4), some (.int x5), some (.int z0), none, none], [(.int z0)], s)) 1 rfl
     (d_retz (k := 0) rfl rfl))
     (d_step (t := (104, [some (.ref 40), some (.ref 54), some (.int x2), some (.int x3), some (.int x4), some (.int x5), some (.int z0), none, none], [(.int z0)], s)) 1 rfl
     (d_if (a := (107, [some (.ref 40), some (.ref 54), some (.int x2), some (.int x3), some (.int x4), some (.int x5), some (.int z0), none, none], [], s)) (b := (156, [some (.ref 40), some (.ref 54), some (.int x2), some (.int x3), some (.int x4), some (.int x5), some (.int z0), none, none], [], s)) rfl rfl
     (d_step (t := (115, [some (.ref 40), some (.ref 54), some (.int x2), some (.int x3), some (.int x4), some (.int x5), some (.int z0), none, none], [(.int (6 * x2)), (.ref 42)], s)) 5 rfl
     (d_chk (a := (116, [some (.ref 40), some (.ref 54), some (.int x2), some (.int x3), some (.int x4), some (.int x5), some (.int z0), none, none], [(.int ((s).1 42 ((6 * x2)).toNatClampNeg))], s)) rfl rfl
     (d_step (t := (117, [some (.ref 40), some (.ref 54), some (.int x2), some (.int x3), some (.int x4), some (.int x5), some (.int z0), none, none], [(.int 2), (.int ((s).1 42 ((6 * x2)).toNatClampNeg))], s)) 1 rfl
     (d_if (a := (156, [some (.ref 40), some (.ref 54), some (.int x2), some (.int x3), some (.int x4), some (.int x5), some (.int z0), none, none], [], s)) (b := (120, [some (.ref 40), some (.ref 54), some (.int x2), some (.int x3), some (.int x4), some (.int x5), some (.int z0), none, none], [], s)) rfl rfl
     (d_step (t := (157, [some (.ref 40), some (.ref 54), some (.int x2), some (.int x3), some (.int x4), some (.int x5), some (.int z0), none, none], [(.int 0)], s)) 1 rfl
     (d_ret (k := 0) rfl rfl))
     (d_step (t := (122, [some (.ref 40), some (.ref 54), some (.int x2), some (.int x3), some (.int x4), some (.int x5), some (.int z0), none, none], [(.int (-1)), (.int x3)], s)) 2 rfl
     (d_if (a := (136, [some (.ref 40), some (.ref 54), some (.int x2), some (.int x3), some (.int x4), some (.int x5), some (.int z0), none, none], [], s)) (b := (125, [some (.ref 40), some (.ref 54), some (.int x2), some (.int x3), some (.int x4), some (.int x5), some (.int z0), none, none], [], s)) rfl rfl
     (d_step (t := (139, [some (.ref 40), some (.ref 54), some (.int x2), some (.int x3), some (.int x4), some (.int x5), some (.int z0), none, none], [(.int (-1)), (.int x4)], s)) 2 rfl
     (d_if (a := (158, [some (.ref 40), some (.ref 54), some (.int x2), some (.int x3), some (.int x4), some (.int x5), some (.int z0), none, none], [], s)) (b := (142, [some (.ref 40), some (.ref 54), some (.int x2), some (.int x3), some (.int x4), some (.int x5), some (.int z0), none, none], [], s)) rfl rfl
     (d_lab (x2 := (158, [some (.ref 40), none, some (.int x2), some (.int x3), some (.int x4), some (.int x5), none, none, none], [], s)) rfl rfl rfl)
     (d_step (t := (150, [some (.ref 40), some (.ref 54), some (.int x2), some (.int x3), some (.int x4), some (.int x5), some (.int z0), none, none], [(.int (x5 + 1)), (.int x4), (.ref 54), (.ref 40)], s)) 6 rfl
     (d_callI (o := (m_M_isThere d 54 x4 (x5 + 1) s)) rfl rfl (fun q1 =>
     d_if (a := (156, [some (.ref 40), some (.ref 54), some (.int x2), some (.int x3), some (.int x4), some (.int x5), some (.int z0), none, none], [], q1.2)) (b := (158, [some (.ref 40), some (.ref 54), some (.int x2), some (.int x3), some (.int x4), some (.int x5), some (.int z0), none, none], [], q1.2)) rfl rfl
     (d_step (t := (157, [some (.ref 40), some (.ref 54), some (.int x2), some (.int x3), some (.int x4), some (.int x5), some (.int z0), none, none], [(.int 0)], q1.2)) 1 rfl
     (d_ret (k := 0) rfl rfl))
     (d_lab (x2 := (158, [some (.ref 40), none, some (.int x2), some (.int x3), some (.int x4), some (.int x5), none, none, none], [], q1.2)) rfl rfl rfl))))))
     (d_step (t := (130, [some (.ref 40), some (.ref 54), some (.int x2), some (.int x3), some (.int x4), some (.int x5), some (.int z0), none, none], [(.int x5), (.int x3), (.ref 54), (.ref 40)], s)) 4 rfl
     (d_callI (o := (m_M_isThere d 54 x3 x5 s)) rfl rfl (fun q2 =>
     d_if (a := (156, [some (.ref 40), some (.ref 54), some (.int x2), some (.int x3), some (.int x4), some (.int x5), some (.int z0), none, none], [], q2.2)) (b := (136, [some (.ref 40), some (.ref 54), some (.int x2), some (.int x3), some (.int x4), some (.int x5), some (.int z0), none, none], [], q2.2)) rfl rfl
     (d_step (t := (157, [some (.ref 40), some (.ref 54), some (.int x2), some (.int x3), some (.int x4), some (.int x5), some (.int z0), none, none], [(.int 0)], q2.2)) 1 rfl
     (d_ret (k := 0) rfl rfl))
     (d_step (t := (139, [some (.ref 40), some (.ref 54), some (.int x2), some (.int x3), some (.int x4), some (.int x5), some (.int z0), none, none], [(.int (-1)), (.int x4)], q2.2)) 2 rfl
     (d_if (a := (158, [some (.ref 40), some (.ref 54), some (.int x2), some (.int x3), some (.int x4), some (.int x5), some (.int z0), none, none], [], q2.2)) (b := (142, [some (.ref 40), some (.ref 54), some (.int x2), some (.int x3), some (.int x4), some (.int x5), some (.int z0), none, none], [], q2.2)) rfl rfl
     (d_lab (x2 := (158, [some (.ref 40), none, some (.int x2), some (.int x3), some (.int x4), some (.int x5), none, none, none], [], q2.2)) rfl rfl rfl)
     (d_step (t := (150, [some (.ref 40), some (.ref 54), some (.int x2), some (.int x3), some (.int x4), some (.int x5), some (.int z0), none, none], [(.int (x5 + 1)), (.int x4), (.ref 54), (.ref 40)], q2.2)) 6 rfl
     (d_callI (o := (m_M_isThere d 54 x4 (x5 + 1) q2.2)) rfl rfl (fun q3 =>
     d_if (a := (156, [some (.ref 40), some (.ref 54), some (.int x2), some (.int x3), some (.int x4), some (.int x5), some (.int z0), none, none], [], q3.2)) (b := (158, [some (.ref 40), some (.ref 54), some (.int x2), some (.int x3), some (.int x4), some (.int x5), some (.int z0), none, none], [], q3.2)) rfl rfl
     (d_step (t := (157, [some (.ref 40), some (.ref 54), some (.int x2), some (.int x3), some (.int x4), some (.int x5), some (.int z0), none, none], [(.int 0)], q3.2)) 1 rfl
     (d_ret (k := 0) rfl rfl))
     (d_lab (x2 := (158, [some (.ref 40), none, some (.int x2), some (.int x3), some (.int x4), some (.int x5), none, none, none], [], q3.2)) rfl rfl rfl)))))))))))))))
     (d_step (t := (157, [some (.ref 40), some (.ref 54), some (.int x2), some (.int x3), some (.int x4), some (.int x5), some (.int z0), none, none], [(.int 0)], s)) 1 rfl
     (d_ret (k := 0) rfl rfl))))))
     (d_step (t := (104, [some (.ref 40), some (.ref 54), some (.int x2), some (.int x3), some (.int x4), some (.int x5), some (.int z0), none, none], [(.int z0)], s)) 1 rfl
     (d_if (a := (107, [some (.ref 40), some (.ref 54), some (.int x2), some (.int x3), some (.int x4), some (.int x5), some (.int z0), none, none], [], s)) (b := (156, [some (.ref 40), some (.ref 54), some (.int x2), some (.int x3), some (.int x4), some (.int x5), some (.int z0), none, none], [], s)) rfl rfl
     (d_step (t := (115, [some (.ref 40), some (.ref 54), some (.int x2), some (.int x3), some (.int x4), some (.int x5), some (.int z0), none, none], [(.int (6 * x2)), (.ref 42)], s)) 5 rfl
     (d_chk (a := (116, [some (.ref 40), some (.ref 54), some (.int x2), some (.int x3), some (.int x4), some (.int x5), some (.int z0), none, none], [(.int ((s).1 42 ((6 * x2)).toNatClampNeg))], s)) rfl rfl
     (d_step (t := (117, [some (.ref 40), some (.ref 54), some (.int x2), some (.int x3), some (.int x4), some (.int x5), some (.int z0), none, none], [(.int 2), (.int ((s).1 42 ((6 * x2)).toNatClampNeg))], s)) 1 rfl
     (d_if (a := (156, [some (.ref 40), some (.ref 54), some (.int x2), some (.int x3), some (.int x4), some (.int x5), some (.int z0), none, none], [], s)) (b := (120, [some (.ref 40), some (.ref 54), some (.int x2), some (.int x3), some (.int x4), some (.int x5), some (.int z0), none, none], [], s)) rfl rfl
     (d_step (t := (157, [some (.ref 40), some (.ref 54), some (.int x2), some (.int x3), some (.int x4), some (.int x5), some (.int z0), none, none], [(.int 0)], s)) 1 rfl
     (d_ret (k := 0) rfl rfl))
     (d_step (t := (122, [some (.ref 40), some (.ref 54), some (.int x2), some (.int x3), some (.int x4), some (.int x5), some (.int z0), none, none], [(.int (-1)), (.int x3)], s)) 2 rfl
     (d_if (a := (136, [some (.ref 40), some (.ref 54), some (.int x2), some (.int x3), some (.int x4), some (.int x5), some (.int z0), none, none], [], s)) (b := (125, [some (.ref 40), some (.ref 54), some (.int x2), some (.int x3), some (.int x4), some (.int x5), some (.int z0), none, none], [], s)) rfl rfl
     (d_step (t := (139, [some (.ref 40), some (.ref 54), some (.int x2), some (.int x3), some (.int x4), some (.int x5), some (.int z0), none, none], [(.int (-1)), (.int x4)], s)) 2 rfl
     (d_if (a := (158, [some (.ref 40), some (.ref 54), some (.int x2), some (.int x3), some (.int x4), some (.int x5), some (.int z0), none, none], [], s)) (b := (142, [some (.ref 40), some (.ref 54), some (.int x2), some (.int x3), some (.int x4), some (.int x5), some (.int z0), none, none], [], s)) rfl rfl
     (d_lab (x2 := (158, [some (.ref 40), none, some (.int x2), some (.int x3), some (.int x4), some (.int x5), none, none, none], [], s)) rfl rfl rfl)
     (d_step (t := (150, [some (.ref 40), some (.ref 54), some (.int x2), some (.int x3), some (.int x4), some (.int x5), some (.int z0), none, none], [(.int (x5 + 1)), (.int x4), (.ref 54), (.ref 40)], s)) 6 rfl
     (d_callI (o := (m_M_isThere d 54 x4 (x5 + 1) s)) rfl rfl (fun q4 =>
     d_if (a := (156, [some (.ref 40), some (.ref 54), some (.int x2), some (.int x3), some (.int x4), some (.int x5), some (.int z0), none, none], [], q4.2)) (b := (158, [some (.ref 40), some (.ref 54), some (.int x2), some (.int x3), some (.int x4), some (.int x5), some (.int z0), none, none], [], q4.2)) rfl rfl
     (d_step (t := (157, [some (.ref 40), some (.ref 54), some (.int x2), some (.int x3), some (.int x4), some (.int x5), some (.int z0), none, none], [(.int 0)], q4.2)) 1 rfl
     (d_ret (k := 0) rfl rfl))
     (d_lab (x2 := (158, [some (.ref 40), none, some (.int x2), some (.int x3), some (.int x4), some (.int x5), none, none, none], [], q4.2)) rfl rfl rfl))))))
     (d_step (t := (130, [some (.ref 40), some (.ref 54), some (.int x2), some (.int x3), some (.int x4), some (.int x5), some (.int z0), none, none], [(.int x5), (.int x3), (.ref 54), (.ref 40)], s)) 4 rfl
     (d_callI (o := (m_M_isThere d 54 x3 x5 s)) rfl rfl (fun q5 =>
     d_if (a := (156, [some (.ref 40), some (.ref 54), some (.int x2), some (.int x3), some (.int x4), some (.int x5), some (.int z0), none, none], [], q5.2)) (b := (136, [some (.ref 40), some (.ref 54), some (.int x2), some (.int x3), some (.int x4), some (.int x5), some (.int z0), none, none], [], q5.2)) rfl rfl
     (d_step (t := (157, [some (.ref 40), some (.ref 54), some (.int x2), some (.int x3), some (.int x4), some (.int x5), some (.int z0), none, none], [(.int 0)], q5.2)) 1 rfl
     (d_ret (k := 0) rfl rfl))
     (d_step (t := (139, [some (.ref 40), some (.ref 54), some (.int x2), some (.int x3), some (.int x4), some (.int x5), some (.int z0), none, none], [(.int (-1)), (.int x4)], q5.2)) 2 rfl
     (d_if (a := (158, [some (.ref 40), some (.ref 54), some (.int x2), some (.int x3), some (.int x4), some (.int x5), some (.int z0), none, none], [], q5.2)) (b := (142, [some (.ref 40), some (.ref 54), some (.int x2), some (.int x3), some (.int x4), some (.int x5), some (.int z0), none, none], [], q5.2)) rfl rfl
     (d_lab (x2 := (158, [some (.ref 40), none, some (.int x2), some (.int x3), some (.int x4), some (.int x5), none, none, none], [], q5.2)) rfl rfl rfl)
     (d_step (t := (150, [some (.ref 40), some (.ref 54), some (.int x2), some (.int x3), some (.int x4), some (.int x5), some (.int z0), none, none], [(.int (x5 + 1)), (.int x4), (.ref 54), (.ref 40)], q5.2)) 6 rfl
     (d_callI (o := (m_M_isThere d 54 x4 (x5 + 1) q5.2)) rfl rfl (fun q6 =>
     d_if (a := (156, [some (.ref 40), some (.ref 54), some (.int x2), some (.int x3), some (.int x4), some (.int x5), some (.int z0), none, none], [], q6.2)) (b := (158, [some (.ref 40), some (.ref 54), some (.int x2), some (.int x3), some (.int x4), some (.int x5), some (.int z0), none, none], [], q6.2)) rfl rfl
     (d_step (t := (157, [some (.ref 40), some (.ref 54), some (.int x2), some (.int x3), some (.int x4), some (.int x5), some (.int z0), none, none], [(.int 0)], q6.2)) 1 rfl
     (d_ret (k := 0) rfl rfl))
     (d_lab (x2 := (158, [some (.ref 40), none, some (.int x2), some (.int x3), some (.int x4), some (.int x5), none, none, none], [], q6.2)) rfl rfl rfl)))))))))))))))
     (d_step (t := (157, [some (.ref 40), some (.ref 54), some (.int x2), some (.int x3), some (.int x4), some (.int x5), some (.int z0), none, none], [(.int 0)], s)) 1 rfl
     (d_ret (k := 0) rfl rfl))))))
set_option maxRecDepth 20000 in
theorem el_M_canUp_2 (d : Nat) (ww : Nat) (x2 : Int32) (x3 : Int32) (x4 : Int32) (x5 : Int32) (hc : (ww = 45) ∨ (ww = 54)) (s : qMem) : l_M_canUp_2 d ww x2 x3 x4 x5 s = (if x3 = (-1) then (l_M_canUp_3 d ww x2 x3 x4 x5 0 s) else ((m_M_hand d x3 s).bind (fun q1 => (l_M_canUp_3 d ww x2 x3 x4 x5 q1.1 q1.2)))) := by
  rcases hc with rfl | rfl
  · exact (d_step (t := (160, [some (.ref 40), none, some (.int x2), some (.int x3), some (.int x4), some (.int x5), none, none, none], [(.int (-1)), (.int x3)], s)) 2 rfl
     (d_if (a := (163, [some (.ref 40), none, some (.int x2), some (.int x3), some (.int x4), some (.int x5), none, none, none], [], s)) (b := (167, [some (.ref 40), none, some (.int x2), some (.int x3), some (.int x4), some (.int x5), none, none, none], [], s)) rfl rfl
     (d_step (t := (172, [some (.ref 40), none, some (.int x2), some (.int x3), some (.int x4), some (.int x5), none, none, none], [(.int 0)], s)) 2 rfl
     (d_lab (x2 := (172, [some (.ref 40), none, some (.int x2), some (.int x3), some (.int x4), some (.int x5), none, none, none], [(.int 0)], s)) rfl rfl rfl))
     (d_step (t := (169, [some (.ref 40), none, some (.int x2), some (.int x3), some (.int x4), some (.int x5), none, none, none], [(.int x3), (.ref 40)], s)) 2 rfl
     (d_callI (o := (m_M_hand d x3 s)) rfl rfl (fun q1 =>
     d_lab (x2 := (172, [some (.ref 40), none, some (.int x2), some (.int x3), some (.int x4), some (.int x5), none, none, none], [(.int q1.1)], q1.2)) rfl rfl rfl)))))
  · exact (d_step (t := (160, [some (.ref 40), none, some (.int x2), some (.int x3), some (.int x4), some (.int x5), none, none, none], [(.int (-1)), (.int x3)], s)) 2 rfl
     (d_if (a := (163, [some (.ref 40), none, some (.int x2), some (.int x3), some (.int x4), some (.int x5), none, none, none], [], s)) (b := (167, [some (.ref 40), none, some (.int x2), some (.int x3), some (.int x4), some (.int x5), none, none, none], [], s)) rfl rfl
     (d_step (t := (172, [some (.ref 40), none, some (.int x2), some (.int x3), some (.int x4), some (.int x5), none, none, none], [(.int 0)], s)) 2 rfl
     (d_lab (x2 := (172, [some (.ref 40), none, some (.int x2), some (.int x3), some (.int x4), some (.int x5), none, none, none], [(.int 0)], s)) rfl rfl rfl))
     (d_step (t := (169, [some (.ref 40), none, some (.int x2), some (.int x3), some (.int x4), some (.int x5), none, none, none], [(.int x3), (.ref 40)], s)) 2 rfl
     (d_callI (o := (m_M_hand d x3 s)) rfl rfl (fun q1 =>
     d_lab (x2 := (172, [some (.ref 40), none, some (.int x2), some (.int x3), some (.int x4), some (.int x5), none, none, none], [(.int q1.1)], q1.2)) rfl rfl rfl)))))
set_option maxRecDepth 20000 in
theorem el_M_canUp_3 (d : Nat) (ww : Nat) (x2 : Int32) (x3 : Int32) (x4 : Int32) (x5 : Int32) (z0 : Int32) (hc : (ww = 45) ∨ (ww = 54)) (s : qMem) : l_M_canUp_3 d ww x2 x3 x4 x5 z0 s = (if x4 = (-1) then (l_M_canUp_4 d ww x2 x3 x4 x5 0 z0 s) else ((m_M_hand d x4 s).bind (fun q1 => (l_M_canUp_4 d ww x2 x3 x4 x5 q1.1 z0 q1.2)))) := by
  rcases hc with rfl | rfl
  · exact (d_step (t := (175, [some (.ref 40), none, some (.int x2), some (.int x3), some (.int x4), some (.int x5), none, none, none], [(.int (-1)), (.int x4), (.int z0)], s)) 2 rfl
     (d_if (a := (178, [some (.ref 40), none, some (.int x2), some (.int x3), some (.int x4), some (.int x5), none, none, none], [(.int z0)], s)) (b := (182, [some (.ref 40), none, some (.int x2), some (.int x3), some (.int x4), some (.int x5), none, none, none], [(.int z0)], s)) rfl rfl
     (d_step (t := (188, [some (.ref 40), none, some (.int x2), some (.int x3), some (.int x4), some (.int x5), none, none, none], [(.int 0), (.int z0)], s)) 2 rfl
     (d_lab (x2 := (188, [some (.ref 40), none, some (.int x2), some (.int x3), some (.int x4), some (.int x5), none, none, none], [(.int 0), (.int z0)], s)) rfl rfl rfl))
     (d_step (t := (185, [some (.ref 40), none, some (.int x2), some (.int x3), some (.int x4), some (.int x5), none, none, none], [(.int x4), (.ref 40), (.int z0)], s)) 2 rfl
     (d_callI (o := (m_M_hand d x4 s)) rfl rfl (fun q1 =>
     d_lab (x2 := (188, [some (.ref 40), none, some (.int x2), some (.int x3), some (.int x4), some (.int x5), none, none, none], [(.int q1.1), (.int z0)], q1.2)) rfl rfl rfl)))))
  · exact (d_step (t := (175, [some (.ref 40), none, some (.int x2), some (.int x3), some (.int x4), some (.int x5), none, none, none], [(.int (-1)), (.int x4), (.int z0)], s)) 2 rfl
     (d_if (a := (178, [some (.ref 40), none, some (.int x2), some (.int x3), some (.int x4), some (.int x5), none, none, none], [(.int z0)], s)) (b := (182, [some (.ref 40), none, some (.int x2), some (.int x3), some (.int x4), some (.int x5), none, none, none], [(.int z0)], s)) rfl rfl
     (d_step (t := (188, [some (.ref 40), none, some (.int x2), some (.int x3), some (.int x4), some (.int x5), none, none, none], [(.int 0), (.int z0)], s)) 2 rfl
     (d_lab (x2 := (188, [some (.ref 40), none, some (.int x2), some (.int x3), some (.int x4), some (.int x5), none, none, none], [(.int 0), (.int z0)], s)) rfl rfl rfl))
     (d_step (t := (185, [some (.ref 40), none, some (.int x2), some (.int x3), some (.int x4), some (.int x5), none, none, none], [(.int x4), (.ref 40), (.int z0)], s)) 2 rfl
     (d_callI (o := (m_M_hand d x4 s)) rfl rfl (fun q1 =>
     d_lab (x2 := (188, [some (.ref 40), none, some (.int x2), some (.int x3), some (.int x4), some (.int x5), none, none, none], [(.int q1.1), (.int z0)], q1.2)) rfl rfl rfl)))))
set_option maxRecDepth 20000 in
theorem el_M_canUp_4 (d : Nat) (ww : Nat) (x2 : Int32) (x3 : Int32) (x4 : Int32) (x5 : Int32) (z0 : Int32) (z1 : Int32) (hc : (ww = 45) ∨ (ww = 54)) (s : qMem) : l_M_canUp_4 d ww x2 x3 x4 x5 z0 z1 s = (if qIn ((6 * x2) + 1) 30 then (if x3 = (-1) then (l_M_canUp_5 d ww x2 x4 x5 (z1 + z0) 0 ((s).1 42 (((6 * x2) + 1)).toNatClampNeg) s) else (if qIn ((6 * x3) + 1) 30 then (l_M_canUp_5 d ww x2 x4 x5 (z1 + z0) ((s).1 42 (((6 * x3) + 1)).toNatClampNeg) ((s).1 42 (((6 * x2) + 1)).toNatClampNeg) s) else none)) else none) := by
  rcases hc with rfl | rfl
  · exact (d_step (t := (201, [some (.ref 40), none, some (.int x2), some (.int x3), some (.int x4), some (.int x5), none, some (.int (z1 + z0)), none], [(.int ((6 * x2) + 1)), (.ref 42)], s)) 9 rfl
     (d_chk (a := (202, [some (.ref 40), none, some (.int x2), some (.int x3), some (.int x4), some (.int x5), none, some (.int (z1 + z0)), none], [(.int ((s).1 42 (((6 * x2) + 1)).toNatClampNeg))], s)) rfl rfl
     (d_step (t := (204, [some (.ref 40), none, some (.int x2), some (.int x3), some (.int x4), some (.int x5), none, some (.int (z1 + z0)), none], [(.int (-1)), (.int x3), (.int ((s).1 42 (((6 * x2) + 1)).toNatClampNeg))], s)) 2 rfl
     (d_if (a := (207, [some (.ref 40), none, some (.int x2), some (.int x3), some (.int x4), some (.int x5), none, some (.int (z1 + z0)), none], [(.int ((s).1 42 (((6 * x2) + 1)).toNatClampNeg))], s)) (b := (211, [some (.ref 40), none, some (.int x2), some (.int x3), some (.int x4), some (.int x5), none, some (.int (z1 + z0)), none], [(.int ((s).1 42 (((6 * x2) + 1)).toNatClampNeg))], s)) rfl rfl
     (d_step (t := (222, [some (.ref 40), none, some (.int x2), some (.int x3), some (.int x4), some (.int x5), none, some (.int (z1 + z0)), none], [(.int 0), (.int ((s).1 42 (((6 * x2) + 1)).toNatClampNeg))], s)) 2 rfl
     (d_lab (x2 := (222, [some (.ref 40), none, some (.int x2), none, some (.int x4), some (.int x5), none, some (.int (z1 + z0)), none], [(.int 0), (.int ((s).1 42 (((6 * x2) + 1)).toNatClampNeg))], s)) rfl rfl rfl))
     (d_step (t := (221, [some (.ref 40), none, some (.int x2), some (.int x3), some (.int x4), some (.int x5), none, some (.int (z1 + z0)), none], [(.int ((6 * x3) + 1)), (.ref 42), (.int ((s).1 42 (((6 * x2) + 1)).toNatClampNeg))], s)) 7 rfl
     (d_chk (a := (222, [some (.ref 40), none, some (.int x2), some (.int x3), some (.int x4), some (.int x5), none, some (.int (z1 + z0)), none], [(.int ((s).1 42 (((6 * x3) + 1)).toNatClampNeg)), (.int ((s).1 42 (((6 * x2) + 1)).toNatClampNeg))], s)) rfl rfl
     (d_lab (x2 := (222, [some (.ref 40), none, some (.int x2), none, some (.int x4), some (.int x5), none, some (.int (z1 + z0)), none], [(.int ((s).1 42 (((6 * x3) + 1)).toNatClampNeg)), (.int ((s).1 42 (((6 * x2) + 1)).toNatClampNeg))], s)) rfl rfl rfl)))))))
  · exact (d_step (t := (201, [some (.ref 40), none, some (.int x2), some (.int x3), some (.int x4), some (.int x5), none, some (.int (z1 + z0)), none], [(.int ((6 * x2) + 1)), (.ref 42)], s)) 9 rfl
     (d_chk (a := (202, [some (.ref 40), none, some (.int x2), some (.int x3), some (.int x4), some (.int x5), none, some (.int (z1 + z0)), none], [(.int ((s).1 42 (((6 * x2) + 1)).toNatClampNeg))], s)) rfl rfl
     (d_step (t := (204, [some (.ref 40), none, some (.int x2), some (.int x3), some (.int x4), some (.int x5), none, some (.int (z1 + z0)), none], [(.int (-1)), (.int x3), (.int ((s).1 42 (((6 * x2) + 1)).toNatClampNeg))], s)) 2 rfl
     (d_if (a := (207, [some (.ref 40), none, some (.int x2), some (.int x3), some (.int x4), some (.int x5), none, some (.int (z1 + z0)), none], [(.int ((s).1 42 (((6 * x2) + 1)).toNatClampNeg))], s)) (b := (211, [some (.ref 40), none, some (.int x2), some (.int x3), some (.int x4), some (.int x5), none, some (.int (z1 + z0)), none], [(.int ((s).1 42 (((6 * x2) + 1)).toNatClampNeg))], s)) rfl rfl
     (d_step (t := (222, [some (.ref 40), none, some (.int x2), some (.int x3), some (.int x4), some (.int x5), none, some (.int (z1 + z0)), none], [(.int 0), (.int ((s).1 42 (((6 * x2) + 1)).toNatClampNeg))], s)) 2 rfl
     (d_lab (x2 := (222, [some (.ref 40), none, some (.int x2), none, some (.int x4), some (.int x5), none, some (.int (z1 + z0)), none], [(.int 0), (.int ((s).1 42 (((6 * x2) + 1)).toNatClampNeg))], s)) rfl rfl rfl))
     (d_step (t := (221, [some (.ref 40), none, some (.int x2), some (.int x3), some (.int x4), some (.int x5), none, some (.int (z1 + z0)), none], [(.int ((6 * x3) + 1)), (.ref 42), (.int ((s).1 42 (((6 * x2) + 1)).toNatClampNeg))], s)) 7 rfl
     (d_chk (a := (222, [some (.ref 40), none, some (.int x2), some (.int x3), some (.int x4), some (.int x5), none, some (.int (z1 + z0)), none], [(.int ((s).1 42 (((6 * x3) + 1)).toNatClampNeg)), (.int ((s).1 42 (((6 * x2) + 1)).toNatClampNeg))], s)) rfl rfl
     (d_lab (x2 := (222, [some (.ref 40), none, some (.int x2), none, some (.int x4), some (.int x5), none, some (.int (z1 + z0)), none], [(.int ((s).1 42 (((6 * x3) + 1)).toNatClampNeg)), (.int ((s).1 42 (((6 * x2) + 1)).toNatClampNeg))], s)) rfl rfl rfl)))))))
set_option maxRecDepth 20000 in
theorem el_M_canUp_5 (d : Nat) (ww : Nat) (x2 : Int32) (x4 : Int32) (x5 : Int32) (x7 : Int32) (z0 : Int32) (z1 : Int32) (hc : (ww = 45) ∨ (ww = 54)) (s : qMem) : l_M_canUp_5 d ww x2 x4 x5 x7 z0 z1 s = (if x4 = (-1) then (l_M_canUp_6 d ww x2 x5 x7 0 (z1 + z0) s) else (if qIn ((6 * x4) + 1) 30 then (l_M_canUp_6 d ww x2 x5 x7 (((s).1 42 (((6 * x4) + 1)).toNatClampNeg) / 2) (z1 + z0) s) else none)) := by
  rcases hc with rfl | rfl
  · exact (d_step (t := (226, [some (.ref 40), none, some (.int x2), none, some (.int x4), some (.int x5), none, some (.int x7), none], [(.int (-1)), (.int x4), (.int (z1 + z0))], s)) 3 rfl
     (d_if (a := (229, [some (.ref 40), none, some (.int x2), none, some (.int x4), some (.int x5), none, some (.int x7), none], [(.int (z1 + z0))], s)) (b := (233, [some (.ref 40), none, some (.int x2), none, some (.int x4), some (.int x5), none, some (.int x7), none], [(.int (z1 + z0))], s)) rfl rfl
     (d_step (t := (247, [some (.ref 40), none, some (.int x2), none, some (.int x4), some (.int x5), none, some (.int x7), none], [(.int 0), (.int (z1 + z0))], s)) 2 rfl
     (d_lab (x2 := (247, [some (.ref 40), none, some (.int x2), none, none, some (.int x5), none, some (.int x7), none], [(.int 0), (.int (z1 + z0))], s)) rfl rfl rfl))
     (d_step (t := (244, [some (.ref 40), none, some (.int x2), none, some (.int x4), some (.int x5), none, some (.int x7), none], [(.int ((6 * x4) + 1)), (.ref 42), (.int (z1 + z0))], s)) 7 rfl
     (d_chk (a := (245, [some (.ref 40), none, some (.int x2), none, some (.int x4), some (.int x5), none, some (.int x7), none], [(.int ((s).1 42 (((6 * x4) + 1)).toNatClampNeg)), (.int (z1 + z0))], s)) rfl rfl
     (d_step (t := (247, [some (.ref 40), none, some (.int x2), none, some (.int x4), some (.int x5), none, some (.int x7), none], [(.int (((s).1 42 (((6 * x4) + 1)).toNatClampNeg) / 2)), (.int (z1 + z0))], s)) 2 rfl
     (d_lab (x2 := (247, [some (.ref 40), none, some (.int x2), none, none, some (.int x5), none, some (.int x7), none], [(.int (((s).1 42 (((6 * x4) + 1)).toNatClampNeg) / 2)), (.int (z1 + z0))], s)) rfl rfl rfl))))))
  · exact (d_step (t := (226, [some (.ref 40), none, some (.int x2), none, some (.int x4), some (.int x5), none, some (.int x7), none], [(.int (-1)), (.int x4), (.int (z1 + z0))], s)) 3 rfl
     (d_if (a := (229, [some (.ref 40), none, some (.int x2), none, some (.int x4), some (.int x5), none, some (.int x7), none], [(.int (z1 + z0))], s)) (b := (233, [some (.ref 40), none, some (.int x2), none, some (.int x4), some (.int x5), none, some (.int x7), none], [(.int (z1 + z0))], s)) rfl rfl
     (d_step (t := (247, [some (.ref 40), none, some (.int x2), none, some (.int x4), some (.int x5), none, some (.int x7), none], [(.int 0), (.int (z1 + z0))], s)) 2 rfl
     (d_lab (x2 := (247, [some (.ref 40), none, some (.int x2), none, none, some (.int x5), none, some (.int x7), none], [(.int 0), (.int (z1 + z0))], s)) rfl rfl rfl))
     (d_step (t := (244, [some (.ref 40), none, some (.int x2), none, some (.int x4), some (.int x5), none, some (.int x7), none], [(.int ((6 * x4) + 1)), (.ref 42), (.int (z1 + z0))], s)) 7 rfl
     (d_chk (a := (245, [some (.ref 40), none, some (.int x2), none, some (.int x4), some (.int x5), none, some (.int x7), none], [(.int ((s).1 42 (((6 * x4) + 1)).toNatClampNeg)), (.int (z1 + z0))], s)) rfl rfl
     (d_step (t := (247, [some (.ref 40), none, some (.int x2), none, some (.int x4), some (.int x5), none, some (.int x7), none], [(.int (((s).1 42 (((6 * x4) + 1)).toNatClampNeg) / 2)), (.int (z1 + z0))], s)) 2 rfl
     (d_lab (x2 := (247, [some (.ref 40), none, some (.int x2), none, none, some (.int x5), none, some (.int x7), none], [(.int (((s).1 42 (((6 * x4) + 1)).toNatClampNeg) / 2)), (.int (z1 + z0))], s)) rfl rfl rfl))))))
set_option maxRecDepth 20000 in
theorem el_M_canUp_6 (d : Nat) (ww : Nat) (x2 : Int32) (x5 : Int32) (x7 : Int32) (z0 : Int32) (z1 : Int32) (hc : (ww = 45) ∨ (ww = 54)) (s : qMem) : l_M_canUp_6 d ww x2 x5 x7 z0 z1 s = ((m_M_burden d x2 s).bind (fun q1 => (if x7 < q1.1 then some (0, q1.2) else (if qIn x5 4 then (if (z1 + z0) < ((q1.2).1 41 (x5).toNatClampNeg) then some (0, q1.2) else some (1, q1.2)) else none)))) := by
  rcases hc with rfl | rfl
  · exact (d_step (t := (254, [some (.ref 40), none, some (.int x2), none, none, some (.int x5), none, some (.int x7), some (.int (z1 + z0))], [(.int x2), (.ref 40), (.int x7)], s)) 5 rfl
     (d_callI (o := (m_M_burden d x2 s)) rfl rfl (fun q1 =>
     d_if (a := (276, [some (.ref 40), none, some (.int x2), none, none, some (.int x5), none, some (.int x7), some (.int (z1 + z0))], [], q1.2)) (b := (260, [some (.ref 40), none, some (.int x2), none, none, some (.int x5), none, some (.int x7), some (.int (z1 + z0))], [], q1.2)) rfl rfl
     (d_step (t := (277, [some (.ref 40), none, some (.int x2), none, none, some (.int x5), none, some (.int x7), some (.int (z1 + z0))], [(.int 0)], q1.2)) 1 rfl
     (d_ret (k := 0) rfl rfl))
     (d_step (t := (268, [some (.ref 40), none, some (.int x2), none, none, some (.int x5), none, some (.int x7), some (.int (z1 + z0))], [(.int x5), (.ref 41), (.int (z1 + z0))], q1.2)) 4 rfl
     (d_chk (a := (269, [some (.ref 40), none, some (.int x2), none, none, some (.int x5), none, some (.int x7), some (.int (z1 + z0))], [(.int ((q1.2).1 41 (x5).toNatClampNeg)), (.int (z1 + z0))], q1.2)) rfl rfl
     (d_if (a := (276, [some (.ref 40), none, some (.int x2), none, none, some (.int x5), none, some (.int x7), some (.int (z1 + z0))], [], q1.2)) (b := (272, [some (.ref 40), none, some (.int x2), none, none, some (.int x5), none, some (.int x7), some (.int (z1 + z0))], [], q1.2)) rfl rfl
     (d_step (t := (277, [some (.ref 40), none, some (.int x2), none, none, some (.int x5), none, some (.int x7), some (.int (z1 + z0))], [(.int 0)], q1.2)) 1 rfl
     (d_ret (k := 0) rfl rfl))
     (d_step (t := (277, [some (.ref 40), none, some (.int x2), none, none, some (.int x5), none, some (.int x7), some (.int (z1 + z0))], [(.int 1)], q1.2)) 2 rfl
     (d_ret (k := 0) rfl rfl))))))))
  · exact (d_step (t := (254, [some (.ref 40), none, some (.int x2), none, none, some (.int x5), none, some (.int x7), some (.int (z1 + z0))], [(.int x2), (.ref 40), (.int x7)], s)) 5 rfl
     (d_callI (o := (m_M_burden d x2 s)) rfl rfl (fun q1 =>
     d_if (a := (276, [some (.ref 40), none, some (.int x2), none, none, some (.int x5), none, some (.int x7), some (.int (z1 + z0))], [], q1.2)) (b := (260, [some (.ref 40), none, some (.int x2), none, none, some (.int x5), none, some (.int x7), some (.int (z1 + z0))], [], q1.2)) rfl rfl
     (d_step (t := (277, [some (.ref 40), none, some (.int x2), none, none, some (.int x5), none, some (.int x7), some (.int (z1 + z0))], [(.int 0)], q1.2)) 1 rfl
     (d_ret (k := 0) rfl rfl))
     (d_step (t := (268, [some (.ref 40), none, some (.int x2), none, none, some (.int x5), none, some (.int x7), some (.int (z1 + z0))], [(.int x5), (.ref 41), (.int (z1 + z0))], q1.2)) 4 rfl
     (d_chk (a := (269, [some (.ref 40), none, some (.int x2), none, none, some (.int x5), none, some (.int x7), some (.int (z1 + z0))], [(.int ((q1.2).1 41 (x5).toNatClampNeg)), (.int (z1 + z0))], q1.2)) rfl rfl
     (d_if (a := (276, [some (.ref 40), none, some (.int x2), none, none, some (.int x5), none, some (.int x7), some (.int (z1 + z0))], [], q1.2)) (b := (272, [some (.ref 40), none, some (.int x2), none, none, some (.int x5), none, some (.int x7), some (.int (z1 + z0))], [], q1.2)) rfl rfl
     (d_step (t := (277, [some (.ref 40), none, some (.int x2), none, none, some (.int x5), none, some (.int x7), some (.int (z1 + z0))], [(.int 0)], q1.2)) 1 rfl
     (d_ret (k := 0) rfl rfl))
     (d_step (t := (277, [some (.ref 40), none, some (.int x2), none, none, some (.int x5), none, some (.int x7), some (.int (z1 + z0))], [(.int 1)], q1.2)) 2 rfl
     (d_ret (k := 0) rfl rfl))))))))
noncomputable def m_M_canDown (d : Nat) (ww : Nat) (p : Int32) (ca : Int32) (s : qMem) : Option (Int32 × qMem) := qI (qCall qMT d 128 [.ref 40, .ref ww, .int p, .int ca] s)
noncomputable def l_M_canDown_1 (d : Nat) (ww : Nat) (x2 : Int32) (x3 : Int32) (x4 : Int32) (z0 : Int32) (s : qMem) : Option (Int32 × qMem) := qI (qK qMT d 128 (67, [some (.ref 40), some (.ref ww), some (.int x2), some (.int x3), some (.int x4), none], [(.int z0)], s))
set_option maxRecDepth 20000 in
theorem e_M_canDown (d : Nat) (ww : Nat) (p : Int32) (ca : Int32) (hc : (ww = 45) ∨ (ww = 54)) (s : qMem) : m_M_canDown (d + 1) ww p ca s = (if qIn p 5 then (if ((s).1 ww (p).toNatClampNeg) = 0 then some (0, s) else (if qIn (6 * p) 30 then (if ((s).1 42 ((6 * p)).toNatClampNeg) = 3 then some (0, s) else (if qIn ((6 * p) + 1) 30 then (if qIn (((s).1 ww (p).toNatClampNeg) - 1) 4 then (if ((s).1 41 ((((s).1 ww (p).toNatClampNeg) - 1)).toNatClampNeg) ≤ ((s).1 42 (((6 * p) + 1)).toNatClampNeg) then (l_M_canDown_1 d ww p ca ((s).1 ww (p).toNatClampNeg) 1 s) else ((m_M_has d ((s).1 40 2) (((s).1 ww (p).toNatClampNeg) - 1) s).bind (fun q1 => (l_M_canDown_1 d ww p ca ((s).1 ww (p).toNatClampNeg) (if q1.1 = 0 then 0 else 1 : Int32) q1.2)))) else none) else none)) else none)) else none) := by
  rcases hc with rfl | rfl
  · exact (d_step (t := (2, [some (.ref 40), some (.ref 45), some (.int p), some (.int ca), none, none], [(.int p), (.ref 45)], s)) 2 rfl
     (d_chk (a := (3, [some (.ref 40), some (.ref 45), some (.int p), some (.int ca), none, none], [(.int ((s).1 45 (p).toNatClampNeg))], s)) rfl rfl
     (d_step (t := (7, [some (.ref 40), some (.ref 45), some (.int p), some (.int ca), some (.int ((s).1 45 (p).toNatClampNeg)), none], [(.int ((s).1 45 (p).toNatClampNeg))], s)) 2 rfl
     (d_if (a := (23, [some (.ref 40), some (.ref 45), some (.int p), some (.int ca), some (.int ((s).1 45 (p).toNatClampNeg)), none], [], s)) (b := (10, [some (.ref 40), some (.ref 45), some (.int p), some (.int ca), some (.int ((s).1 45 (p).toNatClampNeg)), none], [], s)) rfl rfl
     (d_step (t := (24, [some (.ref 40), some (.ref 45), some (.int p), some (.int ca), some (.int ((s).1 45 (p).toNatClampNeg)), none], [(.int 0)], s)) 1 rfl
     (d_ret (k := 0) rfl rfl))
     (d_step (t := (18, [some (.ref 40), some (.ref 45), some (.int p), some (.int ca), some (.int ((s).1 45 (p).toNatClampNeg)), none], [(.int (6 * p)), (.ref 42)], s)) 5 rfl
     (d_chk (a := (19, [some (.ref 40), some (.ref 45), some (.int p), some (.int ca), some (.int ((s).1 45 (p).toNatClampNeg)), none], [(.int ((s).1 42 ((6 * p)).toNatClampNeg))], s)) rfl rfl
     (d_step (t := (20, [some (.ref 40), some (.ref 45), some (.int p), some (.int ca), some (.int ((s).1 45 (p).toNatClampNeg)), none], [(.int 3), (.int ((s).1 42 ((6 * p)).toNatClampNeg))], s)) 1 rfl
     (d_if (a := (23, [some (.ref 40), some (.ref 45), some (.int p), some (.int ca), some (.int ((s).1 45 (p).toNatClampNeg)), none], [], s)) (b := (25, [some (.ref 40), some (.ref 45), some (.int p), some (.int ca), some (.int ((s).1 45 (p).toNatClampNeg)), none], [], s)) rfl rfl
     (d_step (t := (24, [some (.ref 40), some (.ref 45), some (.int p), some (.int ca), some (.int ((s).1 45 (p).toNatClampNeg)), none], [(.int 0)], s)) 1 rfl
     (d_ret (k := 0) rfl rfl))
     (d_step (t := (35, [some (.ref 40), some (.ref 45), some (.int p), some (.int ca), some (.int ((s).1 45 (p).toNatClampNeg)), none], [(.int ((6 * p) + 1)), (.ref 42)], s)) 7 rfl
     (d_chk (a := (36, [some (.ref 40), some (.ref 45), some (.int p), some (.int ca), some (.int ((s).1 45 (p).toNatClampNeg)), none], [(.int ((s).1 42 (((6 * p) + 1)).toNatClampNeg))], s)) rfl rfl
     (d_step (t := (44, [some (.ref 40), some (.ref 45), some (.int p), some (.int ca), some (.int ((s).1 45 (p).toNatClampNeg)), none], [(.int (((s).1 45 (p).toNatClampNeg) - 1)), (.ref 41), (.int ((s).1 42 (((6 * p) + 1)).toNatClampNeg))], s)) 5 rfl
     (d_chk (a := (45, [some (.ref 40), some (.ref 45), some (.int p), some (.int ca), some (.int ((s).1 45 (p).toNatClampNeg)), none], [(.int ((s).1 41 ((((s).1 45 (p).toNatClampNeg) - 1)).toNatClampNeg)), (.int ((s).1 42 (((6 * p) + 1)).toNatClampNeg))], s)) rfl rfl
     (d_if (a := (62, [some (.ref 40), some (.ref 45), some (.int p), some (.int ca), some (.int ((s).1 45 (p).toNatClampNeg)), none], [], s)) (b := (48, [some (.ref 40), some (.ref 45), some (.int p), some (.int ca), some (.int ((s).1 45 (p).toNatClampNeg)), none], [], s)) rfl rfl
     (d_step (t := (67, [some (.ref 40), some (.ref 45), some (.int p), some (.int ca), some (.int ((s).1 45 (p).toNatClampNeg)), none], [(.int 1)], s)) 2 rfl
     (d_lab (x2 := (67, [some (.ref 40), some (.ref 45), some (.int p), some (.int ca), some (.int ((s).1 45 (p).toNatClampNeg)), none], [(.int 1)], s)) rfl rfl rfl))
     (d_step (t := (56, [some (.ref 40), some (.ref 45), some (.int p), some (.int ca), some (.int ((s).1 45 (p).toNatClampNeg)), none], [(.int (((s).1 45 (p).toNatClampNeg) - 1)), (.int ((s).1 40 2))], s)) 5 rfl
     (d_callI (o := (m_M_has d ((s).1 40 2) (((s).1 45 (p).toNatClampNeg) - 1) s)) rfl rfl (fun q1 =>
     d_mrg (a := (66, [some (.ref 40), some (.ref 45), some (.int p), some (.int ca), some (.int ((s).1 45 (p).toNatClampNeg)), none], [], q1.2)) (b := (62, [some (.ref 40), some (.ref 45), some (.int p), some (.int ca), some (.int ((s).1 45 (p).toNatClampNeg)), none], [], q1.2)) (v1 := 0) (v2 := 1) (z := fun v9 => (67, [some (.ref 40), some (.ref 45), some (.int p), some (.int ca), some (.int ((s).1 45 (p).toNatClampNeg)), none], [(.int v9)], q1.2)) 1 2 rfl rfl rfl rfl
     (d_lab (x2 := (67, [some (.ref 40), some (.ref 45), some (.int p), some (.int ca), some (.int ((s).1 45 (p).toNatClampNeg)), none], [(.int (if q1.1 = 0 then 0 else 1 : Int32))], q1.2)) rfl rfl rfl)))))))))))))))))
  · exact (d_step (t := (2, [some (.ref 40), some (.ref 54), some (.int p), some (.int ca), none, none], [(.int p), (.ref 54)], s)) 2 rfl
     (d_chk (a := (3, [some (.ref 40), some (.ref 54), some (.int p), some (.int ca), none, none], [(.int ((s).1 54 (p).toNatClampNeg))], s)) rfl rfl
     (d_step (t := (7, [some (.ref 40), some (.ref 54), some (.int p), some (.int ca), some (.int ((s).1 54 (p).toNatClampNeg)), none], [(.int ((s).1 54 (p).toNatClampNeg))], s)) 2 rfl
     (d_if (a := (23, [some (.ref 40), some (.ref 54), some (.int p), some (.int ca), some (.int ((s).1 54 (p).toNatClampNeg)), none], [], s)) (b := (10, [some (.ref 40), some (.ref 54), some (.int p), some (.int ca), some (.int ((s).1 54 (p).toNatClampNeg)), none], [], s)) rfl rfl
     (d_step (t := (24, [some (.ref 40), some (.ref 54), some (.int p), some (.int ca), some (.int ((s).1 54 (p).toNatClampNeg)), none], [(.int 0)], s)) 1 rfl
     (d_ret (k := 0) rfl rfl))
     (d_step (t := (18, [some (.ref 40), some (.ref 54), some (.int p), some (.int ca), some (.int ((s).1 54 (p).toNatClampNeg)), none], [(.int (6 * p)), (.ref 42)], s)) 5 rfl
     (d_chk (a := (19, [some (.ref 40), some (.ref 54), some (.int p), some (.int ca), some (.int ((s).1 54 (p).toNatClampNeg)), none], [(.int ((s).1 42 ((6 * p)).toNatClampNeg))], s)) rfl rfl
     (d_step (t := (20, [some (.ref 40), some (.ref 54), some (.int p), some (.int ca), some (.int ((s).1 54 (p).toNatClampNeg)), none], [(.int 3), (.int ((s).1 42 ((6 * p)).toNatClampNeg))], s)) 1 rfl
     (d_if (a := (23, [some (.ref 40), some (.ref 54), some (.int p), some (.int ca), some (.int ((s).1 54 (p).toNatClampNeg)), none], [], s)) (b := (25, [some (.ref 40), some (.ref 54), some (.int p), some (.int ca), some (.int ((s).1 54 (p).toNatClampNeg)), none], [], s)) rfl rfl
     (d_step (t := (24, [some (.ref 40), some (.ref 54), some (.int p), some (.int ca), some (.int ((s).1 54 (p).toNatClampNeg)), none], [(.int 0)], s)) 1 rfl
     (d_ret (k := 0) rfl rfl))
     (d_step (t := (35, [some (.ref 40), some (.ref 54), some (.int p), some (.int ca), some (.int ((s).1 54 (p).toNatClampNeg)), none], [(.int ((6 * p) + 1)), (.ref 42)], s)) 7 rfl
     (d_chk (a := (36, [some (.ref 40), some (.ref 54), some (.int p), some (.int ca), some (.int ((s).1 54 (p).toNatClampNeg)), none], [(.int ((s).1 42 (((6 * p) + 1)).toNatClampNeg))], s)) rfl rfl
     (d_step (t := (44, [some (.ref 40), some (.ref 54), some (.int p), some (.int ca), some (.int ((s).1 54 (p).toNatClampNeg)), none], [(.int (((s).1 54 (p).toNatClampNeg) - 1)), (.ref 41), (.int ((s).1 42 (((6 * p) + 1)).toNatClampNeg))], s)) 5 rfl
     (d_chk (a := (45, [some (.ref 40), some (.ref 54), some (.int p), some (.int ca), some (.int ((s).1 54 (p).toNatClampNeg)), none], [(.int ((s).1 41 ((((s).1 54 (p).toNatClampNeg) - 1)).toNatClampNeg)), (.int ((s).1 42 (((6 * p) + 1)).toNatClampNeg))], s)) rfl rfl
     (d_if (a := (62, [some (.ref 40), some (.ref 54), some (.int p), some (.int ca), some (.int ((s).1 54 (p).toNatClampNeg)), none], [], s)) (b := (48, [some (.ref 40), some (.ref 54), some (.int p), some (.int ca), some (.int ((s).1 54 (p).toNatClampNeg)), none], [], s)) rfl rfl
     (d_step (t := (67, [some (.ref 40), some (.ref 54), some (.int p), some (.int ca), some (.int ((s).1 54 (p).toNatClampNeg)), none], [(.int 1)], s)) 2 rfl
     (d_lab (x2 := (67, [some (.ref 40), some (.ref 54), some (.int p), some (.int ca), some (.int ((s).1 54 (p).toNatClampNeg)), none], [(.int 1)], s)) rfl rfl rfl))
     (d_step (t := (56, [some (.ref 40), some (.ref 54), some (.int p), some (.int ca), some (.int ((s).1 54 (p).toNatClampNeg)), none], [(.int (((s).1 54 (p).toNatClampNeg) - 1)), (.int ((s).1 40 2))], s)) 5 rfl
     (d_callI (o := (m_M_has d ((s).1 40 2) (((s).1 54 (p).toNatClampNeg) - 1) s)) rfl rfl (fun q1 =>
     d_mrg (a := (66, [some (.ref 40), some (.ref 54), some (.int p), some (.int ca), some (.int ((s).1 54 (p).toNatClampNeg)), none], [], q1.2)) (b := (62, [some (.ref 40), some (.ref 54), some (.int p), some (.int ca), some (.int ((s).1 54 (p).toNatClampNeg)), none], [], q1.2)) (v1 := 0) (v2 := 1) (z := fun v9 => (67, [some (.ref 40), some (.ref 54), some (.int p), some (.int ca), some (.int ((s).1 54 (p).toNatClampNeg)), none], [(.int v9)], q1.2)) 1 2 rfl rfl rfl rfl
     (d_lab (x2 := (67, [some (.ref 40), some (.ref 54), some (.int p), some (.int ca), some (.int ((s).1 54 (p).toNatClampNeg)), none], [(.int (if q1.1 = 0 then 0 else 1 : Int32))], q1.2)) rfl rfl rfl)))))))))))))))))
set_option maxRecDepth 20000 in
theorem el_M_canDown_1 (d : Nat) (ww : Nat) (x2 : Int32) (x3 : Int32) (x4 : Int32) (z0 : Int32) (hc : (ww = 45) ∨ (ww = 54)) (s : qMem) : l_M_canDown_1 d ww x2 x3 x4 z0 s = (if x3 = (-1) then (if z0 = 0 ∨ z0 = 1 then some (z0, s) else none) else (if z0 = 0 then (if qIn (6 * x2) 30 then (if ((s).1 42 ((6 * x2)).toNatClampNeg) = 2 then some (0, s) else ((m_M_isThere d ww x3 (x4 - 1) s).bind (fun q1 => (if q1.1 = 0 then some (0, q1.2) else ((m_M_hand d x3 q1.2).bind (fun q2 => ((m_M_burden d x2 q2.2).bind (fun q3 => (if q2.1 < q3.1 then some (0, q3.2) else some (1, q3.2)))))))))) else none) else some (0, s))) := by
  rcases hc with rfl | rfl
  · exact (d_step (t := (71, [some (.ref 40), some (.ref 45), some (.int x2), some (.int x3), some (.int x4), some (.int z0)], [(.int (-1)), (.int x3)], s)) 3 rfl
     (d_if (a := (74, [some (.ref 40), some (.ref 45), some (.int x2), some (.int x3), some (.int x4), some (.int z0)], [], s)) (b := (77, [some (.ref 40), some (.ref 45), some (.int x2), some (.int x3), some (.int x4), some (.int z0)], [], s)) rfl rfl
     (d_step (t := (76, [some (.ref 40), some (.ref 45), some (.int x2), some (.int x3), some (.int x4), some (.int z0)], [(.int z0)], s)) 1 rfl
     (d_retz (k := 0) rfl rfl))
     (d_step (t := (79, [some (.ref 40), some (.ref 45), some (.int x2), some (.int x3), some (.int x4), some (.int z0)], [(.int z0)], s)) 1 rfl
     (d_if (a := (82, [some (.ref 40), some (.ref 45), some (.int x2), some (.int x3), some (.int x4), some (.int z0)], [], s)) (b := (125, [some (.ref 40), some (.ref 45), some (.int x2), some (.int x3), some (.int x4), some (.int z0)], [], s)) rfl rfl
     (d_step (t := (90, [some (.ref 40), some (.ref 45), some (.int x2), some (.int x3), some (.int x4), some (.int z0)], [(.int (6 * x2)), (.ref 42)], s)) 5 rfl
     (d_chk (a := (91, [some (.ref 40), some (.ref 45), some (.int x2), some (.int x3), some (.int x4), some (.int z0)], [(.int ((s).1 42 ((6 * x2)).toNatClampNeg))], s)) rfl rfl
     (d_step (t := (92, [some (.ref 40), some (.ref 45), some (.int x2), some (.int x3), some (.int x4), some (.int z0)], [(.int 2), (.int ((s).1 42 ((6 * x2)).toNatClampNeg))], s)) 1 rfl
     (d_if (a := (125, [some (.ref 40), some (.ref 45), some (.int x2), some (.int x3), some (.int x4), some (.int z0)], [], s)) (b := (95, [some (.ref 40), some (.ref 45), some (.int x2), some (.int x3), some (.int x4), some (.int z0)], [], s)) rfl rfl
     (d_step (t := (126, [some (.ref 40), some (.ref 45), some (.int x2), some (.int x3), some (.int x4), some (.int z0)], [(.int 0)], s)) 1 rfl
     (d_ret (k := 0) rfl rfl))
     (d_step (t := (102, [some (.ref 40), some (.ref 45), some (.int x2), some (.int x3), some (.int x4), some (.int z0)], [(.int (x4 - 1)), (.int x3), (.ref 45), (.ref 40)], s)) 6 rfl
     (d_callI (o := (m_M_isThere d 45 x3 (x4 - 1) s)) rfl rfl (fun q1 =>
     d_if (a := (125, [some (.ref 40), some (.ref 45), some (.int x2), some (.int x3), some (.int x4), some (.int z0)], [], q1.2)) (b := (108, [some (.ref 40), some (.ref 45), some (.int x2), some (.int x3), some (.int x4), some (.int z0)], [], q1.2)) rfl rfl
     (d_step (t := (126, [some (.ref 40), some (.ref 45), some (.int x2), some (.int x3), some (.int x4), some (.int z0)], [(.int 0)], q1.2)) 1 rfl
     (d_ret (k := 0) rfl rfl))
     (d_step (t := (110, [some (.ref 40), some (.ref 45), some (.int x2), some (.int x3), some (.int x4), some (.int z0)], [(.int x3), (.ref 40)], q1.2)) 2 rfl
     (d_callI (o := (m_M_hand d x3 q1.2)) rfl rfl (fun q2 =>
     d_step (t := (115, [some (.ref 40), some (.ref 45), some (.int x2), some (.int x3), some (.int x4), some (.int z0)], [(.int x2), (.ref 40), (.int q2.1)], q2.2)) 2 rfl
     (d_callI (o := (m_M_burden d x2 q2.2)) rfl rfl (fun q3 =>
     d_if (a := (125, [some (.ref 40), some (.ref 45), some (.int x2), some (.int x3), some (.int x4), some (.int z0)], [], q3.2)) (b := (121, [some (.ref 40), some (.ref 45), some (.int x2), some (.int x3), some (.int x4), some (.int z0)], [], q3.2)) rfl rfl
     (d_step (t := (126, [some (.ref 40), some (.ref 45), some (.int x2), some (.int x3), some (.int x4), some (.int z0)], [(.int 0)], q3.2)) 1 rfl
     (d_ret (k := 0) rfl rfl))
     (d_step (t := (126, [some (.ref 40), some (.ref 45), some (.int x2), some (.int x3), some (.int x4), some (.int z0)], [(.int 1)], q3.2)) 2 rfl
     (d_ret (k := 0) rfl rfl))))))))))))))
     (d_step (t := (126, [some (.ref 40), some (.ref 45), some (.int x2), some (.int x3), some (.int x4), some (.int z0)], [(.int 0)], s)) 1 rfl
     (d_ret (k := 0) rfl rfl))))))
  · exact (d_step (t := (71, [some (.ref 40), some (.ref 54), some (.int x2), some (.int x3), some (.int x4), some (.int z0)], [(.int (-1)), (.int x3)], s)) 3 rfl
     (d_if (a := (74, [some (.ref 40), some (.ref 54), some (.int x2), some (.int x3), some (.int x4), some (.int z0)], [], s)) (b := (77, [some (.ref 40), some (.ref 54), some (.int x2), some (.int x3), some (.int x4), some (.int z0)], [], s)) rfl rfl
     (d_step (t := (76, [some (.ref 40), some (.ref 54), some (.int x2), some (.int x3), some (.int x4), some (.int z0)], [(.int z0)], s)) 1 rfl
     (d_retz (k := 0) rfl rfl))
     (d_step (t := (79, [some (.ref 40), some (.ref 54), some (.int x2), some (.int x3), some (.int x4), some (.int z0)], [(.int z0)], s)) 1 rfl
     (d_if (a := (82, [some (.ref 40), some (.ref 54), some (.int x2), some (.int x3), some (.int x4), some (.int z0)], [], s)) (b := (125, [some (.ref 40), some (.ref 54), some (.int x2), some (.int x3), some (.int x4), some (.int z0)], [], s)) rfl rfl
     (d_step (t := (90, [some (.ref 40), some (.ref 54), some (.int x2), some (.int x3), some (.int x4), some (.int z0)], [(.int (6 * x2)), (.ref 42)], s)) 5 rfl
     (d_chk (a := (91, [some (.ref 40), some (.ref 54), some (.int x2), some (.int x3), some (.int x4), some (.int z0)], [(.int ((s).1 42 ((6 * x2)).toNatClampNeg))], s)) rfl rfl
     (d_step (t := (92, [some (.ref 40), some (.ref 54), some (.int x2), some (.int x3), some (.int x4), some (.int z0)], [(.int 2), (.int ((s).1 42 ((6 * x2)).toNatClampNeg))], s)) 1 rfl
     (d_if (a := (125, [some (.ref 40), some (.ref 54), some (.int x2), some (.int x3), some (.int x4), some (.int z0)], [], s)) (b := (95, [some (.ref 40), some (.ref 54), some (.int x2), some (.int x3), some (.int x4), some (.int z0)], [], s)) rfl rfl
     (d_step (t := (126, [some (.ref 40), some (.ref 54), some (.int x2), some (.int x3), some (.int x4), some (.int z0)], [(.int 0)], s)) 1 rfl
     (d_ret (k := 0) rfl rfl))
     (d_step (t := (102, [some (.ref 40), some (.ref 54), some (.int x2), some (.int x3), some (.int x4), some (.int z0)], [(.int (x4 - 1)), (.int x3), (.ref 54), (.ref 40)], s)) 6 rfl
     (d_callI (o := (m_M_isThere d 54 x3 (x4 - 1) s)) rfl rfl (fun q1 =>
     d_if (a := (125, [some (.ref 40), some (.ref 54), some (.int x2), some (.int x3), some (.int x4), some (.int z0)], [], q1.2)) (b := (108, [some (.ref 40), some (.ref 54), some (.int x2), some (.int x3), some (.int x4), some (.int z0)], [], q1.2)) rfl rfl
     (d_step (t := (126, [some (.ref 40), some (.ref 54), some (.int x2), some (.int x3), some (.int x4), some (.int z0)], [(.int 0)], q1.2)) 1 rfl
     (d_ret (k := 0) rfl rfl))
     (d_step (t := (110, [some (.ref 40), some (.ref 54), some (.int x2), some (.int x3), some (.int x4), some (.int z0)], [(.int x3), (.ref 40)], q1.2)) 2 rfl
     (d_callI (o := (m_M_hand d x3 q1.2)) rfl rfl (fun q2 =>
     d_step (t := (115, [some (.ref 40), some (.ref 54), some (.int x2), some (.int x3), some (.int x4), some (.int z0)], [(.int x2), (.ref 40), (.int q2.1)], q2.2)) 2 rfl
     (d_callI (o := (m_M_burden d x2 q2.2)) rfl rfl (fun q3 =>
     d_if (a := (125, [some (.ref 40), some (.ref 54), some (.int x2), some (.int x3), some (.int x4), some (.int z0)], [], q3.2)) (b := (121, [some (.ref 40), some (.ref 54), some (.int x2), some (.int x3), some (.int x4), some (.int z0)], [], q3.2)) rfl rfl
     (d_step (t := (126, [some (.ref 40), some (.ref 54), some (.int x2), some (.int x3), some (.int x4), some (.int z0)], [(.int 0)], q3.2)) 1 rfl
     (d_ret (k := 0) rfl rfl))
     (d_step (t := (126, [some (.ref 40), some (.ref 54), some (.int x2), some (.int x3), some (.int x4), some (.int z0)], [(.int 1)], q3.2)) 2 rfl
     (d_ret (k := 0) rfl rfl))))))))))))))
     (d_step (t := (126, [some (.ref 40), some (.ref 54), some (.int x2), some (.int x3), some (.int x4), some (.int z0)], [(.int 0)], s)) 1 rfl
     (d_ret (k := 0) rfl rfl))))))
noncomputable def m_M_helpOf (d : Nat) (ww : Nat) (p : Int32) (s : qMem) : Option (Int32 × qMem) := qI (qCall qMT d 129 [.ref 40, .ref ww, .int p] s)
noncomputable def l_M_helpOf_1 (d : Nat) (ww : Nat) (x2 : Int32) (x3 : Int32) (s : qMem) : Option (Int32 × qMem) := qI (qK qMT d 129 (2, [some (.ref 40), some (.ref ww), some (.int x2), some (.int x3), none], [], s))
noncomputable def l_M_helpOf_2 (d : Nat) (ww : Nat) (x2 : Int32) (x3 : Int32) (x4 : Int32) (s : qMem) : Option (Int32 × qMem) := qI (qK qMT d 129 (13, [some (.ref 40), some (.ref ww), some (.int x2), some (.int x3), some (.int x4)], [], s))
set_option maxRecDepth 20000 in
theorem e_M_helpOf (d : Nat) (ww : Nat) (p : Int32) (hc : (ww = 45) ∨ (ww = 54)) (s : qMem) : m_M_helpOf (d + 1) ww p s = (l_M_helpOf_1 d ww p (-1) s) := by
  rcases hc with rfl | rfl
  · exact (d_step (t := (2, [some (.ref 40), some (.ref 45), some (.int p), some (.int (-1)), none], [], s)) 2 rfl
     (d_lab (x2 := (2, [some (.ref 40), some (.ref 45), some (.int p), some (.int (-1)), none], [], s)) rfl rfl rfl))
  · exact (d_step (t := (2, [some (.ref 40), some (.ref 54), some (.int p), some (.int (-1)), none], [], s)) 2 rfl
     (d_lab (x2 := (2, [some (.ref 40), some (.ref 54), some (.int p), some (.int (-1)), none], [], s)) rfl rfl rfl))
set_option maxRecDepth 20000 in
theorem el_M_helpOf_1 (d : Nat) (ww : Nat) (x2 : Int32) (x3 : Int32) (hc : (ww = 45) ∨ (ww = 54)) (s : qMem) : l_M_helpOf_1 d ww x2 x3 s = (if ((s).1 40 3) ≤ x3 then some ((-1), s) else (l_M_helpOf_2 d ww x2 x3 (-1) s)) := by
  rcases hc with rfl | rfl
  · exact (d_step (t := (7, [some (.ref 40), some (.ref 45), some (.int x2), some (.int x3), none], [(.int ((s).1 40 3)), (.int x3)], s)) 3 rfl
     (d_if (a := (69, [some (.ref 40), some (.ref 45), some (.int x2), some (.int x3), none], [], s)) (b := (10, [some (.ref 40), some (.ref 45), some (.int x2), some (.int x3), none], [], s)) rfl rfl
     (d_step (t := (70, [some (.ref 40), some (.ref 45), some (.int x2), some (.int x3), none], [(.int (-1))], s)) 1 rfl
     (d_ret (k := 0) rfl rfl))
     (d_step (t := (13, [some (.ref 40), some (.ref 45), some (.int x2), some (.int x3), some (.int (-1))], [], s)) 2 rfl
     (rfl))))
  · exact (d_step (t := (7, [some (.ref 40), some (.ref 54), some (.int x2), some (.int x3), none], [(.int ((s).1 40 3)), (.int x3)], s)) 3 rfl
     (d_if (a := (69, [some (.ref 40), some (.ref 54), some (.int x2), some (.int x3), none], [], s)) (b := (10, [some (.ref 40), some (.ref 54), some (.int x2), some (.int x3), none], [], s)) rfl rfl
     (d_step (t := (70, [some (.ref 40), some (.ref 54), some (.int x2), some (.int x3), none], [(.int (-1))], s)) 1 rfl
     (d_ret (k := 0) rfl rfl))
     (d_step (t := (13, [some (.ref 40), some (.ref 54), some (.int x2), some (.int x3), some (.int (-1))], [], s)) 2 rfl
     (rfl))))
set_option maxRecDepth 20000 in
theorem el_M_helpOf_2 (d : Nat) (ww : Nat) (x2 : Int32) (x3 : Int32) (x4 : Int32) (hc : (ww = 45) ∨ (ww = 54)) (s : qMem) : l_M_helpOf_2 d ww x2 x3 x4 s = (if ((s).1 40 3) ≤ x4 then (l_M_helpOf_1 d ww x2 (x3 + 1) s) else (if x3 = x2 then (l_M_helpOf_2 d ww x2 x3 (x4 + 1) s) else (if x4 = x2 then (l_M_helpOf_2 d ww x2 x3 (x4 + 1) s) else ((m_M_canUp d ww x2 x3 x4 s).bind (fun q1 => (if q1.1 = 0 then (l_M_helpOf_2 d ww x2 x3 (x4 + 1) q1.2) else some ((((7 * (x3 + 1)) + x4) + 1), q1.2))))))) := by
  rcases hc with rfl | rfl
  · exact (d_step (t := (19, [some (.ref 40), some (.ref 45), some (.int x2), some (.int x3), some (.int x4)], [(.int ((s).1 40 3)), (.int x4)], s)) 3 rfl
     (d_if (a := (63, [some (.ref 40), some (.ref 45), some (.int x2), some (.int x3), some (.int x4)], [], s)) (b := (22, [some (.ref 40), some (.ref 45), some (.int x2), some (.int x3), some (.int x4)], [], s)) rfl rfl
     (d_step (t := (2, [some (.ref 40), some (.ref 45), some (.int x2), some (.int (x3 + 1)), some (.int x4)], [], s)) 2 rfl
     (d_lab (x2 := (2, [some (.ref 40), some (.ref 45), some (.int x2), some (.int (x3 + 1)), none], [], s)) rfl rfl rfl))
     (d_step (t := (24, [some (.ref 40), some (.ref 45), some (.int x2), some (.int x3), some (.int x4)], [(.int x2), (.int x3)], s)) 2 rfl
     (d_if (a := (57, [some (.ref 40), some (.ref 45), some (.int x2), some (.int x3), some (.int x4)], [], s)) (b := (27, [some (.ref 40), some (.ref 45), some (.int x2), some (.int x3), some (.int x4)], [], s)) rfl rfl
     (d_step (t := (13, [some (.ref 40), some (.ref 45), some (.int x2), some (.int x3), some (.int (x4 + 1))], [], s)) 2 rfl
     (rfl))
     (d_step (t := (30, [some (.ref 40), some (.ref 45), some (.int x2), some (.int x3), some (.int x4)], [(.int x2), (.int x4)], s)) 2 rfl
     (d_if (a := (57, [some (.ref 40), some (.ref 45), some (.int x2), some (.int x3), some (.int x4)], [], s)) (b := (33, [some (.ref 40), some (.ref 45), some (.int x2), some (.int x3), some (.int x4)], [], s)) rfl rfl
     (d_step (t := (13, [some (.ref 40), some (.ref 45), some (.int x2), some (.int x3), some (.int (x4 + 1))], [], s)) 2 rfl
     (rfl))
     (d_step (t := (39, [some (.ref 40), some (.ref 45), some (.int x2), some (.int x3), some (.int x4)], [(.int x4), (.int x3), (.int x2), (.ref 45), (.ref 40)], s)) 5 rfl
     (d_callI (o := (m_M_canUp d 45 x2 x3 x4 s)) rfl rfl (fun q1 =>
     d_if (a := (57, [some (.ref 40), some (.ref 45), some (.int x2), some (.int x3), some (.int x4)], [], q1.2)) (b := (45, [some (.ref 40), some (.ref 45), some (.int x2), some (.int x3), some (.int x4)], [], q1.2)) rfl rfl
     (d_step (t := (13, [some (.ref 40), some (.ref 45), some (.int x2), some (.int x3), some (.int (x4 + 1))], [], q1.2)) 2 rfl
     (rfl))
     (d_step (t := (56, [some (.ref 40), some (.ref 45), some (.int x2), some (.int x3), some (.int x4)], [(.int (((7 * (x3 + 1)) + x4) + 1))], q1.2)) 9 rfl
     (d_ret (k := 0) rfl rfl)))))))))))
  · exact (d_step (t := (19, [some (.ref 40), some (.ref 54), some (.int x2), some (.int x3), some (.int x4)], [(.int ((s).1 40 3)), (.int x4)], s)) 3 rfl
     (d_if (a := (63, [some (.ref 40), some (.ref 54), some (.int x2), some (.int x3), some (.int x4)], [], s)) (b := (22, [some (.ref 40), some (.ref 54), some (.int x2), some (.int x3), some (.int x4)], [], s)) rfl rfl
     (d_step (t := (2, [some (.ref 40), some (.ref 54), some (.int x2), some (.int (x3 + 1)), some (.int x4)], [], s)) 2 rfl
     (d_lab (x2 := (2, [some (.ref 40), some (.ref 54), some (.int x2), some (.int (x3 + 1)), none], [], s)) rfl rfl rfl))
     (d_step (t := (24, [some (.ref 40), some (.ref 54), some (.int x2), some (.int x3), some (.int x4)], [(.int x2), (.int x3)], s)) 2 rfl
     (d_if (a := (57, [some (.ref 40), some (.ref 54), some (.int x2), some (.int x3), some (.int x4)], [], s)) (b := (27, [some (.ref 40), some (.ref 54), some (.int x2), some (.int x3), some (.int x4)], [], s)) rfl rfl
     (d_step (t := (13, [some (.ref 40), some (.ref 54), some (.int x2), some (.int x3), some (.int (x4 + 1))], [], s)) 2 rfl
     (rfl))
     (d_step (t := (30, [some (.ref 40), some (.ref 54), some (.int x2), some (.int x3), some (.int x4)], [(.int x2), (.int x4)], s)) 2 rfl
     (d_if (a := (57, [some (.ref 40), some (.ref 54), some (.int x2), some (.int x3), some (.int x4)], [], s)) (b := (33, [some (.ref 40), some (.ref 54), some (.int x2), some (.int x3), some (.int x4)], [], s)) rfl rfl
     (d_step (t := (13, [some (.ref 40), some (.ref 54), some (.int x2), some (.int x3), some (.int (x4 + 1))], [], s)) 2 rfl
     (rfl))
     (d_step (t := (39, [some (.ref 40), some (.ref 54), some (.int x2), some (.int x3), some (.int x4)], [(.int x4), (.int x3), (.int x2), (.ref 54), (.ref 40)], s)) 5 rfl
     (d_callI (o := (m_M_canUp d 54 x2 x3 x4 s)) rfl rfl (fun q1 =>
     d_if (a := (57, [some (.ref 40), some (.ref 54), some (.int x2), some (.int x3), some (.int x4)], [], q1.2)) (b := (45, [some (.ref 40), some (.ref 54), some (.int x2), some (.int x3), some (.int x4)], [], q1.2)) rfl rfl
     (d_step (t := (13, [some (.ref 40), some (.ref 54), some (.int x2), some (.int x3), some (.int (x4 + 1))], [], q1.2)) 2 rfl
     (rfl))
     (d_step (t := (56, [some (.ref 40), some (.ref 54), some (.int x2), some (.int x3), some (.int x4)], [(.int (((7 * (x3 + 1)) + x4) + 1))], q1.2)) 9 rfl
     (d_ret (k := 0) rfl rfl)))))))))))
noncomputable def m_M_canGo (d : Nat) (ww : Nat) (p : Int32) (up : Int32) (s : qMem) : Option (Int32 × qMem) := qI (qCall qMT d 130 [.ref 40, .ref ww, .int p, .int up] s)
noncomputable def l_M_canGo_1 (d : Nat) (ww : Nat) (x2 : Int32) (x4 : Int32) (x5 : Int32) (s : qMem) : Option (Int32 × qMem) := qI (qK qMT d 130 (27, [some (.ref 40), some (.ref ww), some (.int x2), none, some (.int x4), some (.int x5)], [], s))
set_option maxRecDepth 20000 in
theorem e_M_canGo (d : Nat) (ww : Nat) (p : Int32) (up : Int32) (hc : (ww = 45) ∨ (ww = 54)) (s : qMem) : m_M_canGo (d + 1) ww p up s = (if up = 1 then ((m_M_helpOf d ww p s).bind (fun q1 => (if q1.1 = (-1) then some (0, q1.2) else some (1, q1.2)))) else (l_M_canGo_1 d ww p 0 (-1) s)) := by
  rcases hc with rfl | rfl
  · exact (d_step (t := (2, [some (.ref 40), some (.ref 45), some (.int p), some (.int up), none, none], [(.int 1), (.int up)], s)) 2 rfl
     (d_if (a := (5, [some (.ref 40), some (.ref 45), some (.int p), some (.int up), none, none], [], s)) (b := (21, [some (.ref 40), some (.ref 45), some (.int p), some (.int up), none, none], [], s)) rfl rfl
     (d_step (t := (8, [some (.ref 40), some (.ref 45), some (.int p), some (.int up), none, none], [(.int p), (.ref 45), (.ref 40)], s)) 3 rfl
     (d_callI (o := (m_M_helpOf d 45 p s)) rfl rfl (fun q1 =>
     d_step (t := (12, [some (.ref 40), some (.ref 45), some (.int p), some (.int up), none, none], [(.int (-1)), (.int q1.1)], q1.2)) 1 rfl
     (d_if (a := (19, [some (.ref 40), some (.ref 45), some (.int p), some (.int up), none, none], [], q1.2)) (b := (15, [some (.ref 40), some (.ref 45), some (.int p), some (.int up), none, none], [], q1.2)) rfl rfl
     (d_step (t := (20, [some (.ref 40), some (.ref 45), some (.int p), some (.int up), none, none], [(.int 0)], q1.2)) 1 rfl
     (d_ret (k := 0) rfl rfl))
     (d_step (t := (20, [some (.ref 40), some (.ref 45), some (.int p), some (.int up), none, none], [(.int 1)], q1.2)) 2 rfl
     (d_ret (k := 0) rfl rfl))))))
     (d_step (t := (27, [some (.ref 40), some (.ref 45), some (.int p), some (.int up), some (.int 0), some (.int (-1))], [], s)) 4 rfl
     (d_lab (x2 := (27, [some (.ref 40), some (.ref 45), some (.int p), none, some (.int 0), some (.int (-1))], [], s)) rfl rfl rfl))))
  · exact (d_step (t := (2, [some (.ref 40), some (.ref 54), some (.int p), some (.int up), none, none], [(.int 1), (.int up)], s)) 2 rfl
     (d_if (a := (5, [some (.ref 40), some (.ref 54), some (.int p), some (.int up), none, none], [], s)) (b := (21, [some (.ref 40), some (.ref 54), some (.int p), some (.int up), none, none], [], s)) rfl rfl
     (d_step (t := (8, [some (.ref 40), some (.ref 54), some (.int p), some (.int up), none, none], [(.int p), (.ref 54), (.ref 40)], s)) 3 rfl
     (d_callI (o := (m_M_helpOf d 54 p s)) rfl rfl (fun q1 =>
     d_step (t := (12, [some (.ref 40), some (.ref 54), some (.int p), some (.int up), none, none], [(.int (-1)), (.int q1.1)], q1.2)) 1 rfl
     (d_if (a := (19, [some (.ref 40), some (.ref 54), some (.int p), some (.int up), none, none], [], q1.2)) (b := (15, [some (.ref 40), some (.ref 54), some (.int p), some (.int up), none, none], [], q1.2)) rfl rfl
     (d_step (t := (20, [some (.ref 40), some (.ref 54), some (.int p), some (.int up), none, none], [(.int 0)], q1.2)) 1 rfl
     (d_ret (k := 0) rfl rfl))
     (d_step (t := (20, [some (.ref 40), some (.ref 54), some (.int p), some (.int up), none, none], [(.int 1)], q1.2)) 2 rfl
     (d_ret (k := 0) rfl rfl))))))
     (d_step (t := (27, [some (.ref 40), some (.ref 54), some (.int p), some (.int up), some (.int 0), some (.int (-1))], [], s)) 4 rfl
     (d_lab (x2 := (27, [some (.ref 40), some (.ref 54), some (.int p), none, some (.int 0), some (.int (-1))], [], s)) rfl rfl rfl))))
set_option maxRecDepth 20000 in
theorem el_M_canGo_1 (d : Nat) (ww : Nat) (x2 : Int32) (x4 : Int32) (x5 : Int32) (hc : (ww = 45) ∨ (ww = 54)) (s : qMem) : l_M_canGo_1 d ww x2 x4 x5 s = (if ((s).1 40 3) ≤ x5 then (if x4 = 0 ∨ x4 = 1 then some (x4, s) else none) else (if x4 = 0 then (if x5 = x2 then (l_M_canGo_1 d ww x2 0 (x5 + 1) s) else ((m_M_canDown d ww x2 x5 s).bind (fun q1 => (l_M_canGo_1 d ww x2 (if q1.1 = 0 then 0 else 1 : Int32) (x5 + 1) q1.2)))) else (l_M_canGo_1 d ww x2 1 (x5 + 1) s))) := by
  rcases hc with rfl | rfl
  · exact (d_step (t := (33, [some (.ref 40), some (.ref 45), some (.int x2), none, some (.int x4), some (.int x5)], [(.int ((s).1 40 3)), (.int x5)], s)) 3 rfl
     (d_if (a := (71, [some (.ref 40), some (.ref 45), some (.int x2), none, some (.int x4), some (.int x5)], [], s)) (b := (36, [some (.ref 40), some (.ref 45), some (.int x2), none, some (.int x4), some (.int x5)], [], s)) rfl rfl
     (d_step (t := (73, [some (.ref 40), some (.ref 45), some (.int x2), none, some (.int x4), some (.int x5)], [(.int x4)], s)) 1 rfl
     (d_retz (k := 0) rfl rfl))
     (d_step (t := (38, [some (.ref 40), some (.ref 45), some (.int x2), none, some (.int x4), some (.int x5)], [(.int x4)], s)) 1 rfl
     (d_if (a := (41, [some (.ref 40), some (.ref 45), some (.int x2), none, some (.int x4), some (.int x5)], [], s)) (b := (58, [some (.ref 40), some (.ref 45), some (.int x2), none, some (.int x4), some (.int x5)], [], s)) rfl rfl
     (d_step (t := (44, [some (.ref 40), some (.ref 45), some (.int x2), none, some (.int x4), some (.int x5)], [(.int x2), (.int x5)], s)) 2 rfl
     (d_if (a := (62, [some (.ref 40), some (.ref 45), some (.int x2), none, some (.int x4), some (.int x5)], [], s)) (b := (47, [some (.ref 40), some (.ref 45), some (.int x2), none, some (.int x4), some (.int x5)], [], s)) rfl rfl
     (d_step (t := (27, [some (.ref 40), some (.ref 45), some (.int x2), none, some (.int 0), some (.int (x5 + 1))], [], s)) 4 rfl
     (d_lab (x2 := (27, [some (.ref 40), some (.ref 45), some (.int x2), none, some (.int 0), some (.int (x5 + 1))], [], s)) rfl rfl rfl))
     (d_step (t := (52, [some (.ref 40), some (.ref 45), some (.int x2), none, some (.int x4), some (.int x5)], [(.int x5), (.int x2), (.ref 45), (.ref 40)], s)) 4 rfl
     (d_callI (o := (m_M_canDown d 45 x2 x5 s)) rfl rfl (fun q1 =>
     d_mrg (a := (62, [some (.ref 40), some (.ref 45), some (.int x2), none, some (.int x4), some (.int x5)], [], q1.2)) (b := (58, [some (.ref 40), some (.ref 45), some (.int x2), none, some (.int x4), some (.int x5)], [], q1.2)) (v1 := 0) (v2 := 1) (z := fun v9 => (63, [some (.ref 40), some (.ref 45), some (.int x2), none, some (.int x4), some (.int x5)], [(.int v9)], q1.2)) 1 2 rfl rfl rfl rfl
     (d_step (t := (27, [some (.ref 40), some (.ref 45), some (.int x2), none, some (.int (if q1.1 = 0 then 0 else 1 : Int32)), some (.int (x5 + 1))], [], q1.2)) 3 rfl
     (d_lab (x2 := (27, [some (.ref 40), some (.ref 45), some (.int x2), none, some (.int (if q1.1 = 0 then 0 else 1 : Int32)), some (.int (x5 + 1))], [], q1.2)) rfl rfl rfl)))))))
     (d_step (t := (27, [some (.ref 40), some (.ref 45), some (.int x2), none, some (.int 1), some (.int (x5 + 1))], [], s)) 5 rfl
     (d_lab (x2 := (27, [some (.ref 40), some (.ref 45), some (.int x2), none, some (.int 1), some (.int (x5 + 1))], [], s)) rfl rfl rfl))))))
  · exact (d_step (t := (33, [some (.ref 40), some (.ref 54), some (.int x2), none, some (.int x4), some (.int x5)], [(.int ((s).1 40 3)), (.int x5)], s)) 3 rfl
     (d_if (a := (71, [some (.ref 40), some (.ref 54), some (.int x2), none, some (.int x4), some (.int x5)], [], s)) (b := (36, [some (.ref 40), some (.ref 54), some (.int x2), none, some (.int x4), some (.int x5)], [], s)) rfl rfl
     (d_step (t := (73, [some (.ref 40), some (.ref 54), some (.int x2), none, some (.int x4), some (.int x5)], [(.int x4)], s)) 1 rfl
     (d_retz (k := 0) rfl rfl))
     (d_step (t := (38, [some (.ref 40), some (.ref 54), some (.int x2), none, some (.int x4), some (.int x5)], [(.int x4)], s)) 1 rfl
     (d_if (a := (41, [some (.ref 40), some (.ref 54), some (.int x2), none, some (.int x4), some (.int x5)], [], s)) (b := (58, [some (.ref 40), some (.ref 54), some (.int x2), none, some (.int x4), some (.int x5)], [], s)) rfl rfl
     (d_step (t := (44, [some (.ref 40), some (.ref 54), some (.int x2), none, some (.int x4), some (.int x5)], [(.int x2), (.int x5)], s)) 2 rfl
     (d_if (a := (62, [some (.ref 40), some (.ref 54), some (.int x2), none, some (.int x4), some (.int x5)], [], s)) (b := (47, [some (.ref 40), some (.ref 54), some (.int x2), none, some (.int x4), some (.int x5)], [], s)) rfl rfl
     (d_step (t := (27, [some (.ref 40), some (.ref 54), some (.int x2), none, some (.int 0), some (.int (x5 + 1))], [], s)) 4 rfl
     (d_lab (x2 := (27, [some (.ref 40), some (.ref 54), some (.int x2), none, some (.int 0), some (.int (x5 + 1))], [], s)) rfl rfl rfl))
     (d_step (t := (52, [some (.ref 40), some (.ref 54), some (.int x2), none, some (.int x4), some (.int x5)], [(.int x5), (.int x2), (.ref 54), (.ref 40)], s)) 4 rfl
     (d_callI (o := (m_M_canDown d 54 x2 x5 s)) rfl rfl (fun q1 =>
     d_mrg (a := (62, [some (.ref 40), some (.ref 54), some (.int x2), none, some (.int x4), some (.int x5)], [], q1.2)) (b := (58, [some (.ref 40), some (.ref 54), some (.int x2), none, some (.int x4), some (.int x5)], [], q1.2)) (v1 := 0) (v2 := 1) (z := fun v9 => (63, [some (.ref 40), some (.ref 54), some (.int x2), none, some (.int x4), some (.int x5)], [(.int v9)], q1.2)) 1 2 rfl rfl rfl rfl
     (d_step (t := (27, [some (.ref 40), some (.ref 54), some (.int x2), none, some (.int (if q1.1 = 0 then 0 else 1 : Int32)), some (.int (x5 + 1))], [], q1.2)) 3 rfl
     (d_lab (x2 := (27, [some (.ref 40), some (.ref 54), some (.int x2), none, some (.int (if q1.1 = 0 then 0 else 1 : Int32)), some (.int (x5 + 1))], [], q1.2)) rfl rfl rfl)))))))
     (d_step (t := (27, [some (.ref 40), some (.ref 54), some (.int x2), none, some (.int 1), some (.int (x5 + 1))], [], s)) 5 rfl
     (d_lab (x2 := (27, [some (.ref 40), some (.ref 54), some (.int x2), none, some (.int 1), some (.int (x5 + 1))], [], s)) rfl rfl rfl))))))
noncomputable def m_M_as (d : Nat) (p : Int32) (k : Int32) (s : qMem) : Option (Int32 × qMem) := qI (qCall qMT d 131 [.ref 40, .int p, .int k] s)
set_option maxRecDepth 20000 in
theorem e_M_as (d : Nat) (p : Int32) (k : Int32) (s : qMem) : m_M_as (d + 1) p k s = ((m_M_isOne d p s).bind (fun q1 => (if q1.1 = 0 then some ((-2), q1.2) else ((m_M_in d k 0 4 q1.2).bind (fun q2 => (if q2.1 = 0 then some ((-3), q2.2) else (if qIn (6 * p) 30 then (if k = 0 then ((m_M_canGo d 45 p 1 q2.2).bind (fun q3 => ((m_M_canGo d 45 p 0 q3.2).bind (fun q4 => some (((if q3.1 = 0 then 0 else 1 : Int32) + (if q4.1 = 0 then 0 else 2 : Int32)), q4.2))))) else (if k = 1 then (if (if ((q2.2).1 42 ((6 * p)).toNatClampNeg) = 3 then 0 else 1 : Int32) = 0 then some ((-4), q2.2) else ((m_M_canGo d 45 p 1 q2.2).bind (fun q5 => ((m_M_canGo d 45 p 0 q5.2).bind (fun q6 => some (((if q5.1 = 0 then 0 else 1 : Int32) + (if q6.1 = 0 then 0 else 2 : Int32)), q6.2)))))) else (if (if ((q2.2).1 42 ((6 * p)).toNatClampNeg) = (k - 1) then 1 else 0 : Int32) = 0 then some ((-4), q2.2) else ((m_M_canGo d 45 p 1 q2.2).bind (fun q7 => ((m_M_canGo d 45 p 0 q7.2).bind (fun q8 => some (((if q7.1 = 0 then 0 else 1 : Int32) + (if q8.1 = 0 then 0 else 2 : Int32)), q8.2)))))))) else none))))))) := d_step (t := (2, [some (.ref 40), some (.int p), some (.int k), none, none], [(.int p), (.ref 40)], s)) 2 rfl
   (d_callI (o := (m_M_isOne d p s)) rfl rfl (fun q1 =>
   d_if (a := (8, [some (.ref 40), some (.int p), some (.int k), none, none], [], q1.2)) (b := (11, [some (.ref 40), some (.int p), some (.int k), none, none], [], q1.2)) rfl rfl
   (d_step (t := (10, [some (.ref 40), some (.int p), some (.int k), none, none], [(.int (-2))], q1.2)) 1 rfl
   (d_ret (k := 0) rfl rfl))
   (d_step (t := (14, [some (.ref 40), some (.int p), some (.int k), none, none], [(.int 4), (.int 0), (.int k)], q1.2)) 3 rfl
   (d_callI (o := (m_M_in d k 0 4 q1.2)) rfl rfl (fun q2 =>
   d_if (a := (20, [some (.ref 40), some (.int p), some (.int k), none, none], [], q2.2)) (b := (23, [some (.ref 40), some (.int p), some (.int k), none, none], [], q2.2)) rfl rfl
   (d_step (t := (22, [some (.ref 40), some (.int p), some (.int k), none, none], [(.int (-3))], q2.2)) 1 rfl
   (d_ret (k := 0) rfl rfl))
   (d_step (t := (31, [some (.ref 40), some (.int p), some (.int k), none, none], [(.int (6 * p)), (.ref 42)], q2.2)) 5 rfl
   (d_chk (a := (32, [some (.ref 40), some (.int p), some (.int k), none, none], [(.int ((q2.2).1 42 ((6 * p)).toNatClampNeg))], q2.2)) rfl rfl
   (d_step (t := (34, [some (.ref 40), some (.int p), some (.int k), some (.int ((q2.2).1 42 ((6 * p)).toNatClampNeg)), none], [(.int k)], q2.2)) 2 rfl
   (d_if (a := (57, [some (.ref 40), some (.int p), some (.int k), some (.int ((q2.2).1 42 ((6 * p)).toNatClampNeg)), none], [], q2.2)) (b := (37, [some (.ref 40), some (.int p), some (.int k), some (.int ((q2.2).1 42 ((6 * p)).toNatClampNeg)), none], [], q2.2)) rfl rfl
   (d_step (t := (81, [some (.ref 40), some (.int p), some (.int k), some (.int ((q2.2).1 42 ((6 * p)).toNatClampNeg)), some (.int 1)], [(.int 1), (.int p), (.ref 45), (.ref 40)], q2.2)) 10 rfl
   (d_callI (o := (m_M_canGo d 45 p 1 q2.2)) rfl rfl (fun q3 =>
   d_mrg (a := (91, [some (.ref 40), some (.int p), some (.int k), some (.int ((q2.2).1 42 ((6 * p)).toNatClampNeg)), some (.int 1)], [], q3.2)) (b := (87, [some (.ref 40), some (.int p), some (.int k), some (.int ((q2.2).1 42 ((6 * p)).toNatClampNeg)), some (.int 1)], [], q3.2)) (v1 := 0) (v2 := 1) (z := fun v9 => (92, [some (.ref 40), some (.int p), some (.int k), some (.int ((q2.2).1 42 ((6 * p)).toNatClampNeg)), some (.int 1)], [(.int v9)], q3.2)) 1 2 rfl rfl rfl rfl
   (d_step (t := (99, [some (.ref 40), some (.int p), some (.int k), some (.int ((q2.2).1 42 ((6 * p)).toNatClampNeg)), some (.int 1)], [(.int 0), (.int p), (.ref 45), (.ref 40), (.int (if q3.1 = 0 then 0 else 1 : Int32))], q3.2)) 5 rfl
   (d_callI (o := (m_M_canGo d 45 p 0 q3.2)) rfl rfl (fun q4 =>
   d_mrg (a := (109, [some (.ref 40), some (.int p), some (.int k), some (.int ((q2.2).1 42 ((6 * p)).toNatClampNeg)), some (.int 1)], [(.int (if q3.1 = 0 then 0 else 1 : Int32))], q4.2)) (b := (105, [some (.ref 40), some (.int p), some (.int k), some (.int ((q2.2).1 42 ((6 * p)).toNatClampNeg)), some (.int 1)], [(.int (if q3.1 = 0 then 0 else 1 : Int32))], q4.2)) (v1 := 0) (v2 := 2) (z := fun v9 => (110, [some (.ref 40), some (.int p), some (.int k), some (.int ((q2.2).1 42 ((6 * p)).toNatClampNeg)), some (.int 1)], [(.int v9), (.int (if q3.1 = 0 then 0 else 1 : Int32))], q4.2)) 1 2 rfl rfl rfl rfl
   (d_step (t := (111, [some (.ref 40), some (.int p), some (.int k), some (.int ((q2.2).1 42 ((6 * p)).toNatClampNeg)), some (.int 1)], [(.int ((if q3.1 = 0 then 0 else 1 : Int32) + (if q4.1 = 0 then 0 else 2 : Int32)))], q4.2)) 1 rfl
   (d_ret (k := 0) rfl rfl))))))))
   (d_step (t := (39, [some (.ref 40), some (.int p), some (.int k), some (.int ((q2.2).1 42 ((6 * p)).toNatClampNeg)), none], [(.int 1), (.int k)], q2.2)) 2 rfl
   (d_if (a := (42, [some (.ref 40), some (.int p), some (.int k), some (.int ((q2.2).1 42 ((6 * p)).toNatClampNeg)), none], [], q2.2)) (b := (50, [some (.ref 40), some (.int p), some (.int k), some (.int ((q2.2).1 42 ((6 * p)).toNatClampNeg)), none], [], q2.2)) rfl rfl
   (d_step (t := (44, [some (.ref 40), some (.int p), some (.int k), some (.int ((q2.2).1 42 ((6 * p)).toNatClampNeg)), none], [(.int 3), (.int ((q2.2).1 42 ((6 * p)).toNatClampNeg))], q2.2)) 2 rfl
   (d_mrg (a := (61, [some (.ref 40), some (.int p), some (.int k), some (.int ((q2.2).1 42 ((6 * p)).toNatClampNeg)), none], [], q2.2)) (b := (47, [some (.ref 40), some (.int p), some (.int k), some (.int ((q2.2).1 42 ((6 * p)).toNatClampNeg)), none], [], q2.2)) (v1 := 0) (v2 := 1) (z := fun v9 => (62, [some (.ref 40), some (.int p), some (.int k), some (.int ((q2.2).1 42 ((6 * p)).toNatClampNeg)), none], [(.int v9)], q2.2)) 1 3 rfl rfl rfl rfl
   (d_step (t := (66, [some (.ref 40), some (.int p), some (.int k), some (.int ((q2.2).1 42 ((6 * p)).toNatClampNeg)), some (.int (if ((q2.2).1 42 ((6 * p)).toNatClampNeg) = 3 then 0 else 1 : Int32))], [(.int (if ((q2.2).1 42 ((6 * p)).toNatClampNeg) = 3 then 0 else 1 : Int32))], q2.2)) 2 rfl
   (d_if (a := (69, [some (.ref 40), some (.int p), some (.int k), some (.int ((q2.2).1 42 ((6 * p)).toNatClampNeg)), some (.int (if ((q2.2).1 42 ((6 * p)).toNatClampNeg) = 3 then 0 else 1 : Int32))], [], q2.2)) (b := (74, [some (.ref 40), some (.int p), some (.int k), some (.int ((q2.2).1 42 ((6 * p)).toNatClampNeg)), some (.int (if ((q2.2).1 42 ((6 * p)).toNatClampNeg) = 3 then 0 else 1 : Int32))], [], q2.2)) rfl rfl
   (d_step (t := (111, [some (.ref 40), some (.int p), some (.int k), some (.int ((q2.2).1 42 ((6 * p)).toNatClampNeg)), some (.int (if ((q2.2).1 42 ((6 * p)).toNatClampNeg) = 3 then 0 else 1 : Int32))], [(.int (-4))], q2.2)) 2 rfl
   (d_ret (k := 0) rfl rfl))
   (d_step (t := (81, [some (.ref 40), some (.int p), some (.int k), some (.int ((q2.2).1 42 ((6 * p)).toNatClampNeg)), some (.int (if ((q2.2).1 42 ((6 * p)).toNatClampNeg) = 3 then 0 else 1 : Int32))], [(.int 1), (.int p), (.ref 45), (.ref 40)], q2.2)) 5 rfl
   (d_callI (o := (m_M_canGo d 45 p 1 q2.2)) rfl rfl (fun q5 =>
   d_mrg (a := (91, [some (.ref 40), some (.int p), some (.int k), some (.int ((q2.2).1 42 ((6 * p)).toNatClampNeg)), some (.int (if ((q2.2).1 42 ((6 * p)).toNatClampNeg) = 3 then 0 else 1 : Int32))], [], q5.2)) (b := (87, [some (.ref 40), some (.int p), some (.int k), some (.int ((q2.2).1 42 ((6 * p)).toNatClampNeg)), some (.int (if ((q2.2).1 42 ((6 * p)).toNatClampNeg) = 3 then 0 else 1 : Int32))], [], q5.2)) (v1 := 0) (v2 := 1) (z := fun v9 => (92, [some (.ref 40), some (.int p), some (.int k), some (.int ((q2.2).1 42 ((6 * p)).toNatClampNeg)), some (.int (if ((q2.2).1 42 ((6 * p)).toNatClampNeg) = 3 then 0 else 1 : Int32))], [(.int v9)], q5.2)) 1 2 rfl rfl rfl rfl
   (d_step (t := (99, [some (.ref 40), some (.int p), some (.int k), some (.int ((q2.2).1 42 ((6 * p)).toNatClampNeg)), some (.int (if ((q2.2).1 42 ((6 * p)).toNatClampNeg) = 3 then 0 else 1 : Int32))], [(.int 0), (.int p), (.ref 45), (.ref 40), (.int (if q5.1 = 0 then 0 else 1 : Int32))], q5.2)) 5 rfl
   (d_callI (o := (m_M_canGo d 45 p 0 q5.2)) rfl rfl (fun q6 =>
   d_mrg (a := (109, [some (.ref 40), some (.int p), some (.int k), some (.int ((q2.2).1 42 ((6 * p)).toNatClampNeg)), some (.int (if ((q2.2).1 42 ((6 * p)).toNatClampNeg) = 3 then 0 else 1 : Int32))], [(.int (if q5.1 = 0 then 0 else 1 : Int32))], q6.2)) (b := (105, [some (.ref 40), some (.int p), some (.int k), some (.int ((q2.2).1 42 ((6 * p)).toNatClampNeg)), some (.int (if ((q2.2).1 42 ((6 * p)).toNatClampNeg) = 3 then 0 else 1 : Int32))], [(.int (if q5.1 = 0 then 0 else 1 : Int32))], q6.2)) (v1 := 0) (v2 := 2) (z := fun v9 => (110, [some (.ref 40), some (.int p), some (.int k), some (.int ((q2.2).1 42 ((6 * p)).toNatClampNeg)), some (.int (if ((q2.2).1 42 ((6 * p)).toNatClampNeg) = 3 then 0 else 1 : Int32))], [(.int v9), (.int (if q5.1 = 0 then 0 else 1 : Int32))], q6.2)) 1 2 rfl rfl rfl rfl
   (d_step (t := (111, [some (.ref 40), some (.int p), some (.int k), some (.int ((q2.2).1 42 ((6 * p)).toNatClampNeg)), some (.int (if ((q2.2).1 42 ((6 * p)).toNatClampNeg) = 3 then 0 else 1 : Int32))], [(.int ((if q5.1 = 0 then 0 else 1 : Int32) + (if q6.1 = 0 then 0 else 2 : Int32)))], q6.2)) 1 rfl
   (d_ret (k := 0) rfl rfl))))))))))))
   (d_step (t := (54, [some (.ref 40), some (.int p), some (.int k), some (.int ((q2.2).1 42 ((6 * p)).toNatClampNeg)), none], [(.int (k - 1)), (.int ((q2.2).1 42 ((6 * p)).toNatClampNeg))], q2.2)) 4 rfl
   (d_mrg (a := (57, [some (.ref 40), some (.int p), some (.int k), some (.int ((q2.2).1 42 ((6 * p)).toNatClampNeg)), none], [], q2.2)) (b := (61, [some (.ref 40), some (.int p), some (.int k), some (.int ((q2.2).1 42 ((6 * p)).toNatClampNeg)), none], [], q2.2)) (v1 := 1) (v2 := 0) (z := fun v9 => (62, [some (.ref 40), some (.int p), some (.int k), some (.int ((q2.2).1 42 ((6 * p)).toNatClampNeg)), none], [(.int v9)], q2.2)) 2 1 rfl rfl rfl rfl
   (d_step (t := (66, [some (.ref 40), some (.int p), some (.int k), some (.int ((q2.2).1 42 ((6 * p)).toNatClampNeg)), some (.int (if ((q2.2).1 42 ((6 * p)).toNatClampNeg) = (k - 1) then 1 else 0 : Int32))], [(.int (if ((q2.2).1 42 ((6 * p)).toNatClampNeg) = (k - 1) then 1 else 0 : Int32))], q2.2)) 2 rfl
   (d_if (a := (69, [some (.ref 40), some (.int p), some (.int k), some (.int ((q2.2).1 42 ((6 * p)).toNatClampNeg)), some (.int (if ((q2.2).1 42 ((6 * p)).toNatClampNeg) = (k - 1) then 1 else 0 : Int32))], [], q2.2)) (b := (74, [some (.ref 40), some (.int p), some (.int k), some (.int ((q2.2).1 42 ((6 * p)).toNatClampNeg)), some (.int (if ((q2.2).1 42 ((6 * p)).toNatClampNeg) = (k - 1) then 1 else 0 : Int32))], [], q2.2)) rfl rfl
   (d_step (t := (111, [some (.ref 40), some (.int p), some (.int k), some (.int ((q2.2).1 42 ((6 * p)).toNatClampNeg)), some (.int (if ((q2.2).1 42 ((6 * p)).toNatClampNeg) = (k - 1) then 1 else 0 : Int32))], [(.int (-4))], q2.2)) 2 rfl
   (d_ret (k := 0) rfl rfl))
   (d_step (t := (81, [some (.ref 40), some (.int p), some (.int k), some (.int ((q2.2).1 42 ((6 * p)).toNatClampNeg)), some (.int (if ((q2.2).1 42 ((6 * p)).toNatClampNeg) = (k - 1) then 1 else 0 : Int32))], [(.int 1), (.int p), (.ref 45), (.ref 40)], q2.2)) 5 rfl
   (d_callI (o := (m_M_canGo d 45 p 1 q2.2)) rfl rfl (fun q7 =>
   d_mrg (a := (91, [some (.ref 40), some (.int p), some (.int k), some (.int ((q2.2).1 42 ((6 * p)).toNatClampNeg)), some (.int (if ((q2.2).1 42 ((6 * p)).toNatClampNeg) = (k - 1) then 1 else 0 : Int32))], [], q7.2)) (b := (87, [some (.ref 40), some (.int p), some (.int k), some (.int ((q2.2).1 42 ((6 * p)).toNatClampNeg)), some (.int (if ((q2.2).1 42 ((6 * p)).toNatClampNeg) = (k - 1) then 1 else 0 : Int32))], [], q7.2)) (v1 := 0) (v2 := 1) (z := fun v9 => (92, [some (.ref 40), some (.int p), some (.int k), some (.int ((q2.2).1 42 ((6 * p)).toNatClampNeg)), some (.int (if ((q2.2).1 42 ((6 * p)).toNatClampNeg) = (k - 1) then 1 else 0 : Int32))], [(.int v9)], q7.2)) 1 2 rfl rfl rfl rfl
   (d_step (t := (99, [some (.ref 40), some (.int p), some (.int k), some (.int ((q2.2).1 42 ((6 * p)).toNatClampNeg)), some (.int (if ((q2.2).1 42 ((6 * p)).toNatClampNeg) = (k - 1) then 1 else 0 : Int32))], [(.int 0), (.int p), (.ref 45), (.ref 40), (.int (if q7.1 = 0 then 0 else 1 : Int32))], q7.2)) 5 rfl
   (d_callI (o := (m_M_canGo d 45 p 0 q7.2)) rfl rfl (fun q8 =>
   d_mrg (a := (109, [some (.ref 40), some (.int p), some (.int k), some (.int ((q2.2).1 42 ((6 * p)).toNatClampNeg)), some (.int (if ((q2.2).1 42 ((6 * p)).toNatClampNeg) = (k - 1) then 1 else 0 : Int32))], [(.int (if q7.1 = 0 then 0 else 1 : Int32))], q8.2)) (b := (105, [some (.ref 40), some (.int p), some (.int k), some (.int ((q2.2).1 42 ((6 * p)).toNatClampNeg)), some (.int (if ((q2.2).1 42 ((6 * p)).toNatClampNeg) = (k - 1) then 1 else 0 : Int32))], [(.int (if q7.1 = 0 then 0 else 1 : Int32))], q8.2)) (v1 := 0) (v2 := 2) (z := fun v9 => (110, [some (.ref 40), some (.int p), some (.int k), some (.int ((q2.2).1 42 ((6 * p)).toNatClampNeg)), some (.int (if ((q2.2).1 42 ((6 * p)).toNatClampNeg) = (k - 1) then 1 else 0 : Int32))], [(.int v9), (.int (if q7.1 = 0 then 0 else 1 : Int32))], q8.2)) 1 2 rfl rfl rfl rfl
   (d_step (t := (111, [some (.ref 40), some (.int p), some (.int k), some (.int ((q2.2).1 42 ((6 * p)).toNatClampNeg)), some (.int (if ((q2.2).1 42 ((6 * p)).toNatClampNeg) = (k - 1) then 1 else 0 : Int32))], [(.int ((if q7.1 = 0 then 0 else 1 : Int32) + (if q8.1 = 0 then 0 else 2 : Int32)))], q8.2)) 1 rfl
   (d_ret (k := 0) rfl rfl)))))))))))))))))))))))
noncomputable def m_M_isOther (d : Nat) (p : Int32) (q : Int32) (s : qMem) : Option (Int32 × qMem) := qI (qCall qMT d 132 [.ref 40, .int p, .int q] s)
set_option maxRecDepth 20000 in
theorem e_M_isOther (d : Nat) (p : Int32) (q : Int32) (s : qMem) : m_M_isOther (d + 1) p q s = (if q = (-1) then some (1, s) else ((m_M_isOne d q s).bind (fun q1 => (if q1.1 = 0 then some (0, q1.2) else (if q = p then some (0, q1.2) else some (1, q1.2)))))) := d_step (t := (2, [some (.ref 40), some (.int p), some (.int q)], [(.int (-1)), (.int q)], s)) 2 rfl
   (d_if (a := (18, [some (.ref 40), some (.int p), some (.int q)], [], s)) (b := (5, [some (.ref 40), some (.int p), some (.int q)], [], s)) rfl rfl
   (d_step (t := (23, [some (.ref 40), some (.int p), some (.int q)], [(.int 1)], s)) 2 rfl
   (d_ret (k := 0) rfl rfl))
   (d_step (t := (7, [some (.ref 40), some (.int p), some (.int q)], [(.int q), (.ref 40)], s)) 2 rfl
   (d_callI (o := (m_M_isOne d q s)) rfl rfl (fun q1 =>
   d_if (a := (22, [some (.ref 40), some (.int p), some (.int q)], [], q1.2)) (b := (13, [some (.ref 40), some (.int p), some (.int q)], [], q1.2)) rfl rfl
   (d_step (t := (23, [some (.ref 40), some (.int p), some (.int q)], [(.int 0)], q1.2)) 1 rfl
   (d_ret (k := 0) rfl rfl))
   (d_step (t := (15, [some (.ref 40), some (.int p), some (.int q)], [(.int p), (.int q)], q1.2)) 2 rfl
   (d_if (a := (22, [some (.ref 40), some (.int p), some (.int q)], [], q1.2)) (b := (18, [some (.ref 40), some (.int p), some (.int q)], [], q1.2)) rfl rfl
   (d_step (t := (23, [some (.ref 40), some (.int p), some (.int q)], [(.int 0)], q1.2)) 1 rfl
   (d_ret (k := 0) rfl rfl))
   (d_step (t := (23, [some (.ref 40), some (.int p), some (.int q)], [(.int 1)], q1.2)) 2 rfl
   (d_ret (k := 0) rfl rfl))))))))
noncomputable def m_M_thank (d : Nat) (q : Int32) (p : Int32) (s : qMem) : Option (qMem) := qV (qCall qMT d 133 [.ref 40, .int q, .int p] s)
set_option maxRecDepth 20000 in
theorem e_M_thank (d : Nat) (q : Int32) (p : Int32) (s : qMem) : m_M_thank (d + 1) q p s = (if q = (-1) then some s else (if qIn ((5 * q) + p) 25 then (if qIn ((5 * q) + p) 25 then some (qW s 46 (((5 * q) + p)).toNatClampNeg (((s).1 46 (((5 * q) + p)).toNatClampNeg) + 1)) else none) else none)) := d_step (t := (2, [some (.ref 40), some (.int q), some (.int p)], [(.int (-1)), (.int q)], s)) 2 rfl
   (d_if (a := (19, [some (.ref 40), some (.int q), some (.int p)], [], s)) (b := (5, [some (.ref 40), some (.int q), some (.int p)], [], s)) rfl rfl
   (d_ret (k := 2) rfl rfl)
   (d_step (t := (15, [some (.ref 40), some (.int q), some (.int p)], [(.int ((5 * q) + p)), (.ref 46), (.int ((5 * q) + p)), (.ref 46)], s)) 8 rfl
   (d_chk (a := (16, [some (.ref 40), some (.int q), some (.int p)], [(.int ((s).1 46 (((5 * q) + p)).toNatClampNeg)), (.int ((5 * q) + p)), (.ref 46)], s)) rfl rfl
   (d_step (t := (18, [some (.ref 40), some (.int q), some (.int p)], [(.int (((s).1 46 (((5 * q) + p)).toNatClampNeg) + 1)), (.int ((5 * q) + p)), (.ref 46)], s)) 2 rfl
   (d_chk (a := (19, [some (.ref 40), some (.int q), some (.int p)], [], (qW s 46 (((5 * q) + p)).toNatClampNeg (((s).1 46 (((5 * q) + p)).toNatClampNeg) + 1)))) rfl rfl
   (d_ret (k := 2) rfl rfl))))))
noncomputable def m_M_up (d : Nat) (p : Int32) (li : Int32) (pu : Int32) (s : qMem) : Option (Int32 × qMem) := qI (qCall qMT d 134 [.ref 40, .int p, .int li, .int pu] s)
set_option maxRecDepth 20000 in
theorem e_M_up (d : Nat) (p : Int32) (li : Int32) (pu : Int32) (s : qMem) : m_M_up (d + 1) p li pu s = ((m_M_isOne d p s).bind (fun q1 => (if q1.1 = 0 then some ((-2), q1.2) else ((m_M_isOther d p li q1.2).bind (fun q2 => (if q2.1 = 0 then some ((-2), q2.2) else ((m_M_isOther d p pu q2.2).bind (fun q3 => (if q3.1 = 0 then some ((-2), q3.2) else ((m_M_canUp d 45 p li pu q3.2).bind (fun q4 => (if q4.1 = 0 then some ((-4), q4.2) else (if ((q4.2).1 40 18) = 9999 then some ((-5), q4.2) else (if qIn p 5 then (if qIn p 5 then ((m_M_thank d li p (qW (qW q4.2 45 (p).toNatClampNeg (((q4.2).1 45 (p).toNatClampNeg) + 1)) 40 18 (((q4.2).1 40 18) + 1))).bind (fun q5 => ((m_M_thank d pu p q5).bind (fun q6 => some (((q6).1 40 18), q6))))) else none) else none)))))))))))))) := d_step (t := (2, [some (.ref 40), some (.int p), some (.int li), some (.int pu)], [(.int p), (.ref 40)], s)) 2 rfl
   (d_callI (o := (m_M_isOne d p s)) rfl rfl (fun q1 =>
   d_if (a := (26, [some (.ref 40), some (.int p), some (.int li), some (.int pu)], [], q1.2)) (b := (8, [some (.ref 40), some (.int p), some (.int li), some (.int pu)], [], q1.2)) rfl rfl
   (d_step (t := (28, [some (.ref 40), some (.int p), some (.int li), some (.int pu)], [(.int (-2))], q1.2)) 1 rfl
   (d_ret (k := 0) rfl rfl))
   (d_step (t := (11, [some (.ref 40), some (.int p), some (.int li), some (.int pu)], [(.int li), (.int p), (.ref 40)], q1.2)) 3 rfl
   (d_callI (o := (m_M_isOther d p li q1.2)) rfl rfl (fun q2 =>
   d_if (a := (26, [some (.ref 40), some (.int p), some (.int li), some (.int pu)], [], q2.2)) (b := (17, [some (.ref 40), some (.int p), some (.int li), some (.int pu)], [], q2.2)) rfl rfl
   (d_step (t := (28, [some (.ref 40), some (.int p), some (.int li), some (.int pu)], [(.int (-2))], q2.2)) 1 rfl
   (d_ret (k := 0) rfl rfl))
   (d_step (t := (20, [some (.ref 40), some (.int p), some (.int li), some (.int pu)], [(.int pu), (.int p), (.ref 40)], q2.2)) 3 rfl
   (d_callI (o := (m_M_isOther d p pu q2.2)) rfl rfl (fun q3 =>
   d_if (a := (26, [some (.ref 40), some (.int p), some (.int li), some (.int pu)], [], q3.2)) (b := (29, [some (.ref 40), some (.int p), some (.int li), some (.int pu)], [], q3.2)) rfl rfl
   (d_step (t := (28, [some (.ref 40), some (.int p), some (.int li), some (.int pu)], [(.int (-2))], q3.2)) 1 rfl
   (d_ret (k := 0) rfl rfl))
   (d_step (t := (37, [some (.ref 40), some (.int p), some (.int li), some (.int pu)], [(.int pu), (.int li), (.int p), (.ref 45), (.ref 40)], q3.2)) 6 rfl
   (d_callI (o := (m_M_canUp d 45 p li pu q3.2)) rfl rfl (fun q4 =>
   d_if (a := (43, [some (.ref 40), some (.int p), some (.int li), some (.int pu)], [], q4.2)) (b := (46, [some (.ref 40), some (.int p), some (.int li), some (.int pu)], [], q4.2)) rfl rfl
   (d_step (t := (45, [some (.ref 40), some (.int p), some (.int li), some (.int pu)], [(.int (-4))], q4.2)) 1 rfl
   (d_ret (k := 0) rfl rfl))
   (d_step (t := (53, [some (.ref 40), some (.int p), some (.int li), some (.int pu)], [(.int 9999), (.int ((q4.2).1 40 18))], q4.2)) 3 rfl
   (d_if (a := (56, [some (.ref 40), some (.int p), some (.int li), some (.int pu)], [], q4.2)) (b := (59, [some (.ref 40), some (.int p), some (.int li), some (.int pu)], [], q4.2)) rfl rfl
   (d_step (t := (58, [some (.ref 40), some (.int p), some (.int li), some (.int pu)], [(.int (-5))], q4.2)) 1 rfl
   (d_ret (k := 0) rfl rfl))
   (d_step (t := (65, [some (.ref 40), some (.int p), some (.int li), some (.int pu)], [(.int p), (.ref 45), (.int p), (.ref 45)], q4.2)) 4 rfl
   (d_chk (a := (66, [some (.ref 40), some (.int p), some (.int li), some (.int pu)], [(.int ((q4.2).1 45 (p).toNatClampNeg)), (.int p), (.ref 45)], q4.2)) rfl rfl
   (d_step (t := (68, [some (.ref 40), some (.int p), some (.int li), some (.int pu)], [(.int (((q4.2).1 45 (p).toNatClampNeg) + 1)), (.int p), (.ref 45)], q4.2)) 2 rfl
   (d_chk (a := (69, [some (.ref 40), some (.int p), some (.int li), some (.int pu)], [], (qW q4.2 45 (p).toNatClampNeg (((q4.2).1 45 (p).toNatClampNeg) + 1)))) rfl rfl
   (d_step (t := (82, [some (.ref 40), some (.int p), some (.int li), some (.int pu)], [(.int p), (.int li), (.ref 40)], (qW (qW q4.2 45 (p).toNatClampNeg (((q4.2).1 45 (p).toNatClampNeg) + 1)) 40 18 (((q4.2).1 40 18) + 1)))) 9 rfl
   (d_callV (o := (m_M_thank d li p (qW (qW q4.2 45 (p).toNatClampNeg (((q4.2).1 45 (p).toNatClampNeg) + 1)) 40 18 (((q4.2).1 40 18) + 1)))) rfl rfl (fun q5 =>
   d_step (t := (88, [some (.ref 40), some (.int p), some (.int li), some (.int pu)], [(.int p), (.int pu), (.ref 40)], q5)) 3 rfl
   (d_callV (o := (m_M_thank d pu p q5)) rfl rfl (fun q6 =>
   d_step (t := (95, [some (.ref 40), some (.int p), some (.int li), some (.int pu)], [(.int ((q6).1 40 18))], q6)) 2 rfl
   (d_ret (k := 0) rfl rfl)))))))))))))))))))))))
noncomputable def m_M_down (d : Nat) (p : Int32) (ca : Int32) (s : qMem) : Option (Int32 × qMem) := qI (qCall qMT d 135 [.ref 40, .int p, .int ca] s)
set_option maxRecDepth 20000 in
theorem e_M_down (d : Nat) (p : Int32) (ca : Int32) (s : qMem) : m_M_down (d + 1) p ca s = ((m_M_isOne d p s).bind (fun q1 => (if q1.1 = 0 then some ((-2), q1.2) else ((m_M_isOther d p ca q1.2).bind (fun q2 => (if q2.1 = 0 then some ((-2), q2.2) else ((m_M_canDown d 45 p ca q2.2).bind (fun q3 => (if q3.1 = 0 then some ((-4), q3.2) else (if ((q3.2).1 40 18) = 9999 then some ((-5), q3.2) else (if qIn p 5 then (if qIn p 5 then ((m_M_thank d ca p (qW (qW q3.2 45 (p).toNatClampNeg (((q3.2).1 45 (p).toNatClampNeg) - 1)) 40 18 (((q3.2).1 40 18) + 1))).bind (fun q4 => some (((q4).1 40 18), q4))) else none) else none))))))))))) := d_step (t := (2, [some (.ref 40), some (.int p), some (.int ca)], [(.int p), (.ref 40)], s)) 2 rfl
   (d_callI (o := (m_M_isOne d p s)) rfl rfl (fun q1 =>
   d_if (a := (17, [some (.ref 40), some (.int p), some (.int ca)], [], q1.2)) (b := (8, [some (.ref 40), some (.int p), some (.int ca)], [], q1.2)) rfl rfl
   (d_step (t := (19, [some (.ref 40), some (.int p), some (.int ca)], [(.int (-2))], q1.2)) 1 rfl
   (d_ret (k := 0) rfl rfl))
   (d_step (t := (11, [some (.ref 40), some (.int p), some (.int ca)], [(.int ca), (.int p), (.ref 40)], q1.2)) 3 rfl
   (d_callI (o := (m_M_isOther d p ca q1.2)) rfl rfl (fun q2 =>
   d_if (a := (17, [some (.ref 40), some (.int p), some (.int ca)], [], q2.2)) (b := (20, [some (.ref 40), some (.int p), some (.int ca)], [], q2.2)) rfl rfl
   (d_step (t := (19, [some (.ref 40), some (.int p), some (.int ca)], [(.int (-2))], q2.2)) 1 rfl
   (d_ret (k := 0) rfl rfl))
   (d_step (t := (27, [some (.ref 40), some (.int p), some (.int ca)], [(.int ca), (.int p), (.ref 45), (.ref 40)], q2.2)) 5 rfl
   (d_callI (o := (m_M_canDown d 45 p ca q2.2)) rfl rfl (fun q3 =>
   d_if (a := (33, [some (.ref 40), some (.int p), some (.int ca)], [], q3.2)) (b := (36, [some (.ref 40), some (.int p), some (.int ca)], [], q3.2)) rfl rfl
   (d_step (t := (35, [some (.ref 40), some (.int p), some (.int ca)], [(.int (-4))], q3.2)) 1 rfl
   (d_ret (k := 0) rfl rfl))
   (d_step (t := (43, [some (.ref 40), some (.int p), some (.int ca)], [(.int 9999), (.int ((q3.2).1 40 18))], q3.2)) 3 rfl
   (d_if (a := (46, [some (.ref 40), some (.int p), some (.int ca)], [], q3.2)) (b := (49, [some (.ref 40), some (.int p), some (.int ca)], [], q3.2)) rfl rfl
   (d_step (t := (48, [some (.ref 40), some (.int p), some (.int ca)], [(.int (-5))], q3.2)) 1 rfl
   (d_ret (k := 0) rfl rfl))
   (d_step (t := (55, [some (.ref 40), some (.int p), some (.int ca)], [(.int p), (.ref 45), (.int p), (.ref 45)], q3.2)) 4 rfl
   (d_chk (a := (56, [some (.ref 40), some (.int p), some (.int ca)], [(.int ((q3.2).1 45 (p).toNatClampNeg)), (.int p), (.ref 45)], q3.2)) rfl rfl
   (d_step (t := (58, [some (.ref 40), some (.int p), some (.int ca)], [(.int (((q3.2).1 45 (p).toNatClampNeg) - 1)), (.int p), (.ref 45)], q3.2)) 2 rfl
   (d_chk (a := (59, [some (.ref 40), some (.int p), some (.int ca)], [], (qW q3.2 45 (p).toNatClampNeg (((q3.2).1 45 (p).toNatClampNeg) - 1)))) rfl rfl
   (d_step (t := (72, [some (.ref 40), some (.int p), some (.int ca)], [(.int p), (.int ca), (.ref 40)], (qW (qW q3.2 45 (p).toNatClampNeg (((q3.2).1 45 (p).toNatClampNeg) - 1)) 40 18 (((q3.2).1 40 18) + 1)))) 9 rfl
   (d_callV (o := (m_M_thank d ca p (qW (qW q3.2 45 (p).toNatClampNeg (((q3.2).1 45 (p).toNatClampNeg) - 1)) 40 18 (((q3.2).1 40 18) + 1)))) rfl rfl (fun q4 =>
   d_step (t := (79, [some (.ref 40), some (.int p), some (.int ca)], [(.int ((q4).1 40 18))], q4)) 2 rfl
   (d_ret (k := 0) rfl rfl))))))))))))))))))
noncomputable def m_M_helped (d : Nat) (p : Int32) (q : Int32) (s : qMem) : Option (Int32 × qMem) := qI (qCall qMT d 136 [.ref 40, .int p, .int q] s)
set_option maxRecDepth 20000 in
theorem e_M_helped (d : Nat) (p : Int32) (q : Int32) (s : qMem) : m_M_helped (d + 1) p q s = ((m_M_isOne d p s).bind (fun q1 => (if q1.1 = 0 then some ((-2), q1.2) else ((m_M_isOne d q q1.2).bind (fun q2 => (if q2.1 = 0 then some ((-2), q2.2) else (if p = q then some ((-2), q2.2) else (if qIn ((5 * p) + q) 25 then some (((q2.2).1 46 (((5 * p) + q)).toNatClampNeg), q2.2) else none)))))))) := d_step (t := (2, [some (.ref 40), some (.int p), some (.int q)], [(.int p), (.ref 40)], s)) 2 rfl
   (d_callI (o := (m_M_isOne d p s)) rfl rfl (fun q1 =>
   d_if (a := (34, [some (.ref 40), some (.int p), some (.int q)], [], q1.2)) (b := (8, [some (.ref 40), some (.int p), some (.int q)], [], q1.2)) rfl rfl
   (d_step (t := (36, [some (.ref 40), some (.int p), some (.int q)], [(.int (-2))], q1.2)) 1 rfl
   (d_ret (k := 0) rfl rfl))
   (d_step (t := (10, [some (.ref 40), some (.int p), some (.int q)], [(.int q), (.ref 40)], q1.2)) 2 rfl
   (d_callI (o := (m_M_isOne d q q1.2)) rfl rfl (fun q2 =>
   d_if (a := (34, [some (.ref 40), some (.int p), some (.int q)], [], q2.2)) (b := (16, [some (.ref 40), some (.int p), some (.int q)], [], q2.2)) rfl rfl
   (d_step (t := (36, [some (.ref 40), some (.int p), some (.int q)], [(.int (-2))], q2.2)) 1 rfl
   (d_ret (k := 0) rfl rfl))
   (d_step (t := (18, [some (.ref 40), some (.int p), some (.int q)], [(.int q), (.int p)], q2.2)) 2 rfl
   (d_if (a := (34, [some (.ref 40), some (.int p), some (.int q)], [], q2.2)) (b := (21, [some (.ref 40), some (.int p), some (.int q)], [], q2.2)) rfl rfl
   (d_step (t := (36, [some (.ref 40), some (.int p), some (.int q)], [(.int (-2))], q2.2)) 1 rfl
   (d_ret (k := 0) rfl rfl))
   (d_step (t := (30, [some (.ref 40), some (.int p), some (.int q)], [(.int ((5 * p) + q)), (.ref 46)], q2.2)) 7 rfl
   (d_chk (a := (31, [some (.ref 40), some (.int p), some (.int q)], [(.int ((q2.2).1 46 (((5 * p) + q)).toNatClampNeg))], q2.2)) rfl rfl
   (d_step (t := (36, [some (.ref 40), some (.int p), some (.int q)], [(.int ((q2.2).1 46 (((5 * p) + q)).toNatClampNeg))], q2.2)) 1 rfl
   (d_ret (k := 0) rfl rfl)))))))))))
noncomputable def m_M_keep (d : Nat) (k : Int32) (s : qMem) : Option (Int32 × qMem) := qI (qCall qMT d 137 [.ref 40, .int k] s)
noncomputable def l_M_keep_1 (d : Nat)  (x1 : Int32) (x2 : Int32) (s : qMem) : Option (Int32 × qMem) := qI (qK qMT d 137 (14, [some (.ref 40), some (.int x1), some (.int x2)], [], s))
noncomputable def l_M_keep_2 (d : Nat)  (x1 : Int32) (x2 : Int32) (s : qMem) : Option (Int32 × qMem) := qI (qK qMT d 137 (44, [some (.ref 40), some (.int x1), some (.int x2)], [], s))
set_option maxRecDepth 20000 in
theorem e_M_keep (d : Nat) (k : Int32) (s : qMem) : m_M_keep (d + 1) k s = ((m_M_in d k 0 1 s).bind (fun q1 => (if q1.1 = 0 then some ((-2), q1.2) else (l_M_keep_1 d k 0 q1.2)))) := d_step (t := (3, [some (.ref 40), some (.int k), none], [(.int 1), (.int 0), (.int k)], s)) 3 rfl
   (d_callI (o := (m_M_in d k 0 1 s)) rfl rfl (fun q1 =>
   d_if (a := (9, [some (.ref 40), some (.int k), none], [], q1.2)) (b := (12, [some (.ref 40), some (.int k), none], [], q1.2)) rfl rfl
   (d_step (t := (11, [some (.ref 40), some (.int k), none], [(.int (-2))], q1.2)) 1 rfl
   (d_ret (k := 0) rfl rfl))
   (d_step (t := (14, [some (.ref 40), some (.int k), some (.int 0)], [], q1.2)) 2 rfl
   (rfl))))
set_option maxRecDepth 20000 in
theorem el_M_keep_1 (d : Nat)  (x1 : Int32) (x2 : Int32) (s : qMem) : l_M_keep_1 d x1 x2 s = (if 5 ≤ x2 then (l_M_keep_2 d x1 0 s) else (if qIn x2 5 then (if qIn ((31 * x1) + x2) 62 then (l_M_keep_1 d x1 (x2 + 1) (qW s 47 (((31 * x1) + x2)).toNatClampNeg ((s).1 45 (x2).toNatClampNeg))) else none) else none)) := d_step (t := (16, [some (.ref 40), some (.int x1), some (.int x2)], [(.int 5), (.int x2)], s)) 2 rfl
   (d_if (a := (42, [some (.ref 40), some (.int x1), some (.int x2)], [], s)) (b := (19, [some (.ref 40), some (.int x1), some (.int x2)], [], s)) rfl rfl
   (d_step (t := (44, [some (.ref 40), some (.int x1), some (.int 0)], [], s)) 2 rfl
   (rfl))
   (d_step (t := (34, [some (.ref 40), some (.int x1), some (.int x2)], [(.int x2), (.ref 45), (.int ((31 * x1) + x2)), (.ref 47)], s)) 10 rfl
   (d_chk (a := (35, [some (.ref 40), some (.int x1), some (.int x2)], [(.int ((s).1 45 (x2).toNatClampNeg)), (.int ((31 * x1) + x2)), (.ref 47)], s)) rfl rfl
   (d_chk (a := (36, [some (.ref 40), some (.int x1), some (.int x2)], [], (qW s 47 (((31 * x1) + x2)).toNatClampNeg ((s).1 45 (x2).toNatClampNeg)))) rfl rfl
   (d_step (t := (14, [some (.ref 40), some (.int x1), some (.int (x2 + 1))], [], (qW s 47 (((31 * x1) + x2)).toNatClampNeg ((s).1 45 (x2).toNatClampNeg)))) 2 rfl
   (rfl))))))
set_option maxRecDepth 20000 in
theorem el_M_keep_2 (d : Nat)  (x1 : Int32) (x2 : Int32) (s : qMem) : l_M_keep_2 d x1 x2 s = (if 25 ≤ x2 then (if qIn ((31 * x1) + 30) 62 then (if qIn x1 2 ∧ ((1 : Int32) = 0 ∨ (1 : Int32) = 1) then some (((s).1 40 18), (qW (qW s 47 (((31 * x1) + 30)).toNatClampNeg ((s).1 40 18)) 48 (x1).toNatClampNeg 1)) else none) else none) else (if qIn x2 25 then (if qIn (((31 * x1) + 5) + x2) 62 then (l_M_keep_2 d x1 (x2 + 1) (qW s 47 ((((31 * x1) + 5) + x2)).toNatClampNeg ((s).1 46 (x2).toNatClampNeg))) else none) else none)) := d_step (t := (47, [some (.ref 40), some (.int x1), some (.int x2)], [(.int 25), (.int x2)], s)) 2 rfl
   (d_if (a := (75, [some (.ref 40), some (.int x1), some (.int x2)], [], s)) (b := (50, [some (.ref 40), some (.int x1), some (.int x2)], [], s)) rfl rfl
   (d_step (t := (90, [some (.ref 40), some (.int x1), some (.int x2)], [(.int ((s).1 40 18)), (.int ((31 * x1) + 30)), (.ref 47)], s)) 9 rfl
   (d_chk (a := (91, [some (.ref 40), some (.int x1), some (.int x2)], [], (qW s 47 (((31 * x1) + 30)).toNatClampNeg ((s).1 40 18)))) rfl rfl
   (d_step (t := (97, [some (.ref 40), some (.int x1), some (.int x2)], [(.int 1), (.int x1), (.ref 48)], (qW s 47 (((31 * x1) + 30)).toNatClampNeg ((s).1 40 18)))) 4 rfl
   (d_chk (a := (98, [some (.ref 40), some (.int x1), some (.int x2)], [], (qW (qW s 47 (((31 * x1) + 30)).toNatClampNeg ((s).1 40 18)) 48 (x1).toNatClampNeg 1))) rfl rfl
   (d_step (t := (102, [some (.ref 40), some (.int x1), some (.int x2)], [(.int ((s).1 40 18))], (qW (qW s 47 (((31 * x1) + 30)).toNatClampNeg ((s).1 40 18)) 48 (x1).toNatClampNeg 1))) 2 rfl
   (d_ret (k := 0) rfl rfl))))))
   (d_step (t := (67, [some (.ref 40), some (.int x1), some (.int x2)], [(.int x2), (.ref 46), (.int (((31 * x1) + 5) + x2)), (.ref 47)], s)) 12 rfl
   (d_chk (a := (68, [some (.ref 40), some (.int x1), some (.int x2)], [(.int ((s).1 46 (x2).toNatClampNeg)), (.int (((31 * x1) + 5) + x2)), (.ref 47)], s)) rfl rfl
   (d_chk (a := (69, [some (.ref 40), some (.int x1), some (.int x2)], [], (qW s 47 ((((31 * x1) + 5) + x2)).toNatClampNeg ((s).1 46 (x2).toNatClampNeg)))) rfl rfl
   (d_step (t := (44, [some (.ref 40), some (.int x1), some (.int (x2 + 1))], [], (qW s 47 ((((31 * x1) + 5) + x2)).toNatClampNeg ((s).1 46 (x2).toNatClampNeg)))) 2 rfl
   (rfl))))))
noncomputable def m_M_back (d : Nat) (k : Int32) (s : qMem) : Option (Int32 × qMem) := qI (qCall qMT d 138 [.ref 40, .int k] s)
noncomputable def l_M_back_1 (d : Nat)  (x1 : Int32) (x2 : Int32) (s : qMem) : Option (Int32 × qMem) := qI (qK qMT d 138 (26, [some (.ref 40), some (.int x1), some (.int x2)], [], s))
noncomputable def l_M_back_2 (d : Nat)  (x1 : Int32) (x2 : Int32) (s : qMem) : Option (Int32 × qMem) := qI (qK qMT d 138 (56, [some (.ref 40), some (.int x1), some (.int x2)], [], s))
set_option maxRecDepth 20000 in
theorem e_M_back (d : Nat) (k : Int32) (s : qMem) : m_M_back (d + 1) k s = ((m_M_in d k 0 1 s).bind (fun q1 => (if q1.1 = 0 then some ((-2), q1.2) else (if qIn k 2 then (if ((q1.2).1 48 (k).toNatClampNeg) = 0 then some ((-4), q1.2) else (l_M_back_1 d k 0 q1.2)) else none)))) := d_step (t := (3, [some (.ref 40), some (.int k), none], [(.int 1), (.int 0), (.int k)], s)) 3 rfl
   (d_callI (o := (m_M_in d k 0 1 s)) rfl rfl (fun q1 =>
   d_if (a := (9, [some (.ref 40), some (.int k), none], [], q1.2)) (b := (12, [some (.ref 40), some (.int k), none], [], q1.2)) rfl rfl
   (d_step (t := (11, [some (.ref 40), some (.int k), none], [(.int (-2))], q1.2)) 1 rfl
   (d_ret (k := 0) rfl rfl))
   (d_step (t := (17, [some (.ref 40), some (.int k), none], [(.int k), (.ref 48)], q1.2)) 3 rfl
   (d_chk (a := (18, [some (.ref 40), some (.int k), none], [(.int ((q1.2).1 48 (k).toNatClampNeg))], q1.2)) rfl rfl
   (d_if (a := (21, [some (.ref 40), some (.int k), none], [], q1.2)) (b := (24, [some (.ref 40), some (.int k), none], [], q1.2)) rfl rfl
   (d_step (t := (23, [some (.ref 40), some (.int k), none], [(.int (-4))], q1.2)) 1 rfl
   (d_ret (k := 0) rfl rfl))
   (d_step (t := (26, [some (.ref 40), some (.int k), some (.int 0)], [], q1.2)) 2 rfl
   (rfl)))))))
set_option maxRecDepth 20000 in
theorem el_M_back_1 (d : Nat)  (x1 : Int32) (x2 : Int32) (s : qMem) : l_M_back_1 d x1 x2 s = (if 5 ≤ x2 then (l_M_back_2 d x1 0 s) else (if qIn ((31 * x1) + x2) 62 then (if qIn x2 5 then (l_M_back_1 d x1 (x2 + 1) (qW s 45 (x2).toNatClampNeg ((s).1 47 (((31 * x1) + x2)).toNatClampNeg))) else none) else none)) := d_step (t := (28, [some (.ref 40), some (.int x1), some (.int x2)], [(.int 5), (.int x2)], s)) 2 rfl
   (d_if (a := (54, [some (.ref 40), some (.int x1), some (.int x2)], [], s)) (b := (31, [some (.ref 40), some (.int x1), some (.int x2)], [], s)) rfl rfl
   (d_step (t := (56, [some (.ref 40), some (.int x1), some (.int 0)], [], s)) 2 rfl
   (rfl))
   (d_step (t := (46, [some (.ref 40), some (.int x1), some (.int x2)], [(.int ((31 * x1) + x2)), (.ref 47), (.int x2), (.ref 45)], s)) 10 rfl
   (d_chk (a := (47, [some (.ref 40), some (.int x1), some (.int x2)], [(.int ((s).1 47 (((31 * x1) + x2)).toNatClampNeg)), (.int x2), (.ref 45)], s)) rfl rfl
   (d_chk (a := (48, [some (.ref 40), some (.int x1), some (.int x2)], [], (qW s 45 (x2).toNatClampNeg ((s).1 47 (((31 * x1) + x2)).toNatClampNeg)))) rfl rfl
   (d_step (t := (26, [some (.ref 40), some (.int x1), some (.int (x2 + 1))], [], (qW s 45 (x2).toNatClampNeg ((s).1 47 (((31 * x1) + x2)).toNatClampNeg)))) 2 rfl
   (rfl))))))
set_option maxRecDepth 20000 in
theorem el_M_back_2 (d : Nat)  (x1 : Int32) (x2 : Int32) (s : qMem) : l_M_back_2 d x1 x2 s = (if 25 ≤ x2 then (if qIn ((31 * x1) + 30) 62 then some (((s).1 47 (((31 * x1) + 30)).toNatClampNeg), (qW s 40 18 ((s).1 47 (((31 * x1) + 30)).toNatClampNeg))) else none) else (if qIn (((31 * x1) + 5) + x2) 62 then (if qIn x2 25 then (l_M_back_2 d x1 (x2 + 1) (qW s 46 (x2).toNatClampNeg ((s).1 47 ((((31 * x1) + 5) + x2)).toNatClampNeg))) else none) else none)) := d_step (t := (59, [some (.ref 40), some (.int x1), some (.int x2)], [(.int 25), (.int x2)], s)) 2 rfl
   (d_if (a := (87, [some (.ref 40), some (.int x1), some (.int x2)], [], s)) (b := (62, [some (.ref 40), some (.int x1), some (.int x2)], [], s)) rfl rfl
   (d_step (t := (99, [some (.ref 40), some (.int x1), some (.int x2)], [(.int ((31 * x1) + 30)), (.ref 47), (.ref 40)], s)) 8 rfl
   (d_chk (a := (100, [some (.ref 40), some (.int x1), some (.int x2)], [(.int ((s).1 47 (((31 * x1) + 30)).toNatClampNeg)), (.ref 40)], s)) rfl rfl
   (d_step (t := (107, [some (.ref 40), some (.int x1), some (.int x2)], [(.int ((s).1 47 (((31 * x1) + 30)).toNatClampNeg))], (qW s 40 18 ((s).1 47 (((31 * x1) + 30)).toNatClampNeg)))) 3 rfl
   (d_ret (k := 0) rfl rfl))))
   (d_step (t := (79, [some (.ref 40), some (.int x1), some (.int x2)], [(.int (((31 * x1) + 5) + x2)), (.ref 47), (.int x2), (.ref 46)], s)) 12 rfl
   (d_chk (a := (80, [some (.ref 40), some (.int x1), some (.int x2)], [(.int ((s).1 47 ((((31 * x1) + 5) + x2)).toNatClampNeg)), (.int x2), (.ref 46)], s)) rfl rfl
   (d_chk (a := (81, [some (.ref 40), some (.int x1), some (.int x2)], [], (qW s 46 (x2).toNatClampNeg ((s).1 47 ((((31 * x1) + 5) + x2)).toNatClampNeg)))) rfl rfl
   (d_step (t := (56, [some (.ref 40), some (.int x1), some (.int (x2 + 1))], [], (qW s 46 (x2).toNatClampNeg ((s).1 47 ((((31 * x1) + 5) + x2)).toNatClampNeg)))) 2 rfl
   (rfl))))))
noncomputable def m_M_help (d : Nat) (p : Int32) (w : Int32) (s : qMem) : Option (Int32 × qMem) := qI (qCall qMT d 139 [.ref 40, .int p, .int w] s)
set_option maxRecDepth 20000 in
theorem e_M_help (d : Nat) (p : Int32) (w : Int32) (s : qMem) : m_M_help (d + 1) p w s = ((m_M_isOne d p s).bind (fun q1 => (if q1.1 = 0 then some ((-2), q1.2) else ((m_M_in d w 0 1 q1.2).bind (fun q2 => (if q2.1 = 0 then some ((-3), q2.2) else ((m_M_helpOf d 45 p q2.2).bind (fun q3 => (if q3.1 = (-1) then some ((-4), q3.2) else (if w = 0 then some (((q3.1 / 7) - 1), q3.2) else some (((q3.1 - q3.1 / 7 * 7) - 1), q3.2))))))))))) := d_step (t := (2, [some (.ref 40), some (.int p), some (.int w), none], [(.int p), (.ref 40)], s)) 2 rfl
   (d_callI (o := (m_M_isOne d p s)) rfl rfl (fun q1 =>
   d_if (a := (8, [some (.ref 40), some (.int p), some (.int w), none], [], q1.2)) (b := (11, [some (.ref 40), some (.int p), some (.int w), none], [], q1.2)) rfl rfl
   (d_step (t := (10, [some (.ref 40), some (.int p), some (.int w), none], [(.int (-2))], q1.2)) 1 rfl
   (d_ret (k := 0) rfl rfl))
   (d_step (t := (14, [some (.ref 40), some (.int p), some (.int w), none], [(.int 1), (.int 0), (.int w)], q1.2)) 3 rfl
   (d_callI (o := (m_M_in d w 0 1 q1.2)) rfl rfl (fun q2 =>
   d_if (a := (20, [some (.ref 40), some (.int p), some (.int w), none], [], q2.2)) (b := (23, [some (.ref 40), some (.int p), some (.int w), none], [], q2.2)) rfl rfl
   (d_step (t := (22, [some (.ref 40), some (.int p), some (.int w), none], [(.int (-3))], q2.2)) 1 rfl
   (d_ret (k := 0) rfl rfl))
   (d_step (t := (29, [some (.ref 40), some (.int p), some (.int w), none], [(.int p), (.ref 45), (.ref 40)], q2.2)) 4 rfl
   (d_callI (o := (m_M_helpOf d 45 p q2.2)) rfl rfl (fun q3 =>
   d_step (t := (35, [some (.ref 40), some (.int p), some (.int w), some (.int q3.1)], [(.int (-1)), (.int q3.1)], q3.2)) 3 rfl
   (d_if (a := (38, [some (.ref 40), some (.int p), some (.int w), some (.int q3.1)], [], q3.2)) (b := (43, [some (.ref 40), some (.int p), some (.int w), some (.int q3.1)], [], q3.2)) rfl rfl
   (d_step (t := (62, [some (.ref 40), some (.int p), some (.int w), some (.int q3.1)], [(.int (-4))], q3.2)) 2 rfl
   (d_ret (k := 0) rfl rfl))
   (d_step (t := (44, [some (.ref 40), some (.int p), some (.int w), some (.int q3.1)], [(.int w)], q3.2)) 1 rfl
   (d_if (a := (47, [some (.ref 40), some (.int p), some (.int w), some (.int q3.1)], [], q3.2)) (b := (56, [some (.ref 40), some (.int p), some (.int w), some (.int q3.1)], [], q3.2)) rfl rfl
   (d_step (t := (62, [some (.ref 40), some (.int p), some (.int w), some (.int q3.1)], [(.int ((q3.1 / 7) - 1))], q3.2)) 6 rfl
   (d_ret (k := 0) rfl rfl))
   (d_step (t := (62, [some (.ref 40), some (.int p), some (.int w), some (.int q3.1)], [(.int ((q3.1 - q3.1 / 7 * 7) - 1))], q3.2)) 5 rfl
   (d_ret (k := 0) rfl rfl)))))))))))))
noncomputable def m_M_codeOf (d : Nat) (ww : Nat) (s : qMem) : Option (Int32 × qMem) := qI (qCall qMT d 140 [.ref 40, .ref ww] s)
noncomputable def l_M_codeOf_1 (d : Nat) (ww : Nat) (x2 : Int32) (x3 : Int32) (s : qMem) : Option (Int32 × qMem) := qI (qK qMT d 140 (9, [none, some (.ref ww), some (.int x2), some (.int x3)], [], s))
set_option maxRecDepth 20000 in
theorem e_M_codeOf (d : Nat) (ww : Nat) (hc : (ww = 45) ∨ (ww = 54)) (s : qMem) : m_M_codeOf (d + 1) ww s = (l_M_codeOf_1 d ww 0 (((s).1 40 3) - 1) s) := by
  rcases hc with rfl | rfl
  · exact (d_step (t := (9, [some (.ref 40), some (.ref 45), some (.int 0), some (.int (((s).1 40 3) - 1))], [], s)) 7 rfl
     (d_lab (x2 := (9, [none, some (.ref 45), some (.int 0), some (.int (((s).1 40 3) - 1))], [], s)) rfl rfl rfl))
  · exact (d_step (t := (9, [some (.ref 40), some (.ref 54), some (.int 0), some (.int (((s).1 40 3) - 1))], [], s)) 7 rfl
     (d_lab (x2 := (9, [none, some (.ref 54), some (.int 0), some (.int (((s).1 40 3) - 1))], [], s)) rfl rfl rfl))
set_option maxRecDepth 20000 in
theorem el_M_codeOf_1 (d : Nat) (ww : Nat) (x2 : Int32) (x3 : Int32) (hc : (ww = 45) ∨ (ww = 54)) (s : qMem) : l_M_codeOf_1 d ww x2 x3 s = (if x3 < 0 then some (x2, s) else (if qIn x3 5 then (l_M_codeOf_1 d ww ((5 * x2) + ((s).1 ww (x3).toNatClampNeg)) (x3 + (-1)) s) else none)) := by
  rcases hc with rfl | rfl
  · exact (d_step (t := (10, [none, some (.ref 45), some (.int x2), some (.int x3)], [(.int x3)], s)) 1 rfl
     (d_if (a := (27, [none, some (.ref 45), some (.int x2), some (.int x3)], [], s)) (b := (13, [none, some (.ref 45), some (.int x2), some (.int x3)], [], s)) rfl rfl
     (d_step (t := (28, [none, some (.ref 45), some (.int x2), some (.int x3)], [(.int x2)], s)) 1 rfl
     (d_ret (k := 0) rfl rfl))
     (d_step (t := (18, [none, some (.ref 45), some (.int x2), some (.int x3)], [(.int x3), (.ref 45), (.int (5 * x2))], s)) 5 rfl
     (d_chk (a := (19, [none, some (.ref 45), some (.int x2), some (.int x3)], [(.int ((s).1 45 (x3).toNatClampNeg)), (.int (5 * x2))], s)) rfl rfl
     (d_step (t := (9, [none, some (.ref 45), some (.int ((5 * x2) + ((s).1 45 (x3).toNatClampNeg))), some (.int (x3 + (-1)))], [], s)) 4 rfl
     (d_lab (x2 := (9, [none, some (.ref 45), some (.int ((5 * x2) + ((s).1 45 (x3).toNatClampNeg))), some (.int (x3 + (-1)))], [], s)) rfl rfl rfl))))))
  · exact (d_step (t := (10, [none, some (.ref 54), some (.int x2), some (.int x3)], [(.int x3)], s)) 1 rfl
     (d_if (a := (27, [none, some (.ref 54), some (.int x2), some (.int x3)], [], s)) (b := (13, [none, some (.ref 54), some (.int x2), some (.int x3)], [], s)) rfl rfl
     (d_step (t := (28, [none, some (.ref 54), some (.int x2), some (.int x3)], [(.int x2)], s)) 1 rfl
     (d_ret (k := 0) rfl rfl))
     (d_step (t := (18, [none, some (.ref 54), some (.int x2), some (.int x3)], [(.int x3), (.ref 54), (.int (5 * x2))], s)) 5 rfl
     (d_chk (a := (19, [none, some (.ref 54), some (.int x2), some (.int x3)], [(.int ((s).1 54 (x3).toNatClampNeg)), (.int (5 * x2))], s)) rfl rfl
     (d_step (t := (9, [none, some (.ref 54), some (.int ((5 * x2) + ((s).1 54 (x3).toNatClampNeg))), some (.int (x3 + (-1)))], [], s)) 4 rfl
     (d_lab (x2 := (9, [none, some (.ref 54), some (.int ((5 * x2) + ((s).1 54 (x3).toNatClampNeg))), some (.int (x3 + (-1)))], [], s)) rfl rfl rfl))))))
noncomputable def m_M_place (d : Nat) (c : Int32) (s : qMem) : Option (qMem) := qV (qCall qMT d 141 [.ref 40, .int c] s)
noncomputable def l_M_place_1 (d : Nat)  (x2 : Int32) (x3 : Int32) (s : qMem) : Option (qMem) := qV (qK qMT d 141 (4, [some (.ref 40), none, some (.int x2), some (.int x3)], [], s))
set_option maxRecDepth 20000 in
theorem e_M_place (d : Nat) (c : Int32) (s : qMem) : m_M_place (d + 1) c s = (l_M_place_1 d c 0 s) := d_step (t := (4, [some (.ref 40), some (.int c), some (.int c), some (.int 0)], [], s)) 4 rfl
   (d_lab (x2 := (4, [some (.ref 40), none, some (.int c), some (.int 0)], [], s)) rfl rfl rfl)
set_option maxRecDepth 20000 in
theorem el_M_place_1 (d : Nat)  (x2 : Int32) (x3 : Int32) (s : qMem) : l_M_place_1 d x2 x3 s = (if ((s).1 40 3) ≤ x3 then some s else (if qIn x3 5 then (l_M_place_1 d (x2 / 5) (x3 + 1) (qW s 54 (x3).toNatClampNeg (x2 - x2 / 5 * 5))) else none)) := d_step (t := (9, [some (.ref 40), none, some (.int x2), some (.int x3)], [(.int ((s).1 40 3)), (.int x3)], s)) 3 rfl
   (d_if (a := (31, [some (.ref 40), none, some (.int x2), some (.int x3)], [], s)) (b := (12, [some (.ref 40), none, some (.int x2), some (.int x3)], [], s)) rfl rfl
   (d_ret (k := 2) rfl rfl)
   (d_step (t := (20, [some (.ref 40), none, some (.int x2), some (.int x3)], [(.int (x2 - x2 / 5 * 5)), (.int x3), (.ref 54)], s)) 6 rfl
   (d_chk (a := (21, [some (.ref 40), none, some (.int x2), some (.int x3)], [], (qW s 54 (x3).toNatClampNeg (x2 - x2 / 5 * 5)))) rfl rfl
   (d_step (t := (4, [some (.ref 40), none, some (.int (x2 / 5)), some (.int (x3 + 1))], [], (qW s 54 (x3).toNatClampNeg (x2 - x2 / 5 * 5)))) 6 rfl
   (d_lab (x2 := (4, [some (.ref 40), none, some (.int (x2 / 5)), some (.int (x3 + 1))], [], (qW s 54 (x3).toNatClampNeg (x2 - x2 / 5 * 5)))) rfl rfl rfl)))))
noncomputable def m_M_layLine (d : Nat)  (s : qMem) : Option (qMem) := qV (qCall qMT d 142 [.ref 40] s)
noncomputable def l_M_layLine_1 (d : Nat)  (x1 : Int32) (s : qMem) : Option (qMem) := qV (qK qMT d 142 (2, [some (.ref 40), some (.int x1), none, none, none, none], [], s))
noncomputable def l_M_layLine_2 (d : Nat)  (x1 : Int32) (s : qMem) : Option (qMem) := qV (qK qMT d 142 (55, [some (.ref 40), some (.int x1), none, none, none, none], [], s))
noncomputable def l_M_layLine_3 (d : Nat)  (x1 : Int32) (x2 : Int32) (x3 : Int32) (s : qMem) : Option (qMem) := qV (qK qMT d 142 (77, [some (.ref 40), some (.int x1), some (.int x2), some (.int x3), none, none], [], s))
noncomputable def l_M_layLine_4 (d : Nat)  (x1 : Int32) (x2 : Int32) (x3 : Int32) (x4 : Int32) (s : qMem) : Option (qMem) := qV (qK qMT d 142 (88, [some (.ref 40), some (.int x1), some (.int x2), some (.int x3), some (.int x4), none], [], s))
set_option maxRecDepth 20000 in
theorem e_M_layLine (d : Nat)  (s : qMem) : m_M_layLine (d + 1) s = (l_M_layLine_1 d 0 s) := d_step (t := (2, [some (.ref 40), some (.int 0), none, none, none, none], [], s)) 2 rfl
   (d_lab (x2 := (2, [some (.ref 40), some (.int 0), none, none, none, none], [], s)) rfl rfl rfl)
set_option maxRecDepth 20000 in
theorem el_M_layLine_1 (d : Nat)  (x1 : Int32) (s : qMem) : l_M_layLine_1 d x1 s = (if 3125 ≤ x1 then ((m_M_codeOf d 45 s).bind (fun q1 => (if qIn q1.1 3125 then (l_M_layLine_2 d 0 (qW (qW (qW q1.2 51 0 q1.1) 50 (q1.1).toNatClampNeg 0) 40 28 1)) else none))) else (if qIn x1 3125 then (l_M_layLine_1 d (x1 + 1) (qW s 50 (x1).toNatClampNeg (-1))) else none)) := d_step (t := (6, [some (.ref 40), some (.int x1), none, none, none, none], [(.int 3125), (.int x1)], s)) 2 rfl
   (d_if (a := (22, [some (.ref 40), some (.int x1), none, none, none, none], [], s)) (b := (9, [some (.ref 40), some (.int x1), none, none, none, none], [], s)) rfl rfl
   (d_step (t := (32, [some (.ref 40), some (.int x1), none, none, none, none], [(.ref 45), (.ref 40), (.int 0), (.ref 51)], s)) 6 rfl
   (d_callI (o := (m_M_codeOf d 45 s)) rfl rfl (fun q1 =>
   d_step (t := (47, [some (.ref 40), some (.int x1), none, none, none, none], [(.int 0), (.int q1.1), (.ref 50)], (qW q1.2 51 0 q1.1))) 8 rfl
   (d_chk (a := (48, [some (.ref 40), some (.int x1), none, none, none, none], [], (qW (qW q1.2 51 0 q1.1) 50 (q1.1).toNatClampNeg 0))) rfl rfl
   (d_step (t := (55, [some (.ref 40), some (.int 0), none, none, none, none], [], (qW (qW (qW q1.2 51 0 q1.1) 50 (q1.1).toNatClampNeg 0) 40 28 1))) 5 rfl
   (d_lab (x2 := (55, [some (.ref 40), some (.int 0), none, none, none, none], [], (qW (qW (qW q1.2 51 0 q1.1) 50 (q1.1).toNatClampNeg 0) 40 28 1))) rfl rfl rfl))))))
   (d_step (t := (15, [some (.ref 40), some (.int x1), none, none, none, none], [(.int (-1)), (.int x1), (.ref 50)], s)) 4 rfl
   (d_chk (a := (16, [some (.ref 40), some (.int x1), none, none, none, none], [], (qW s 50 (x1).toNatClampNeg (-1)))) rfl rfl
   (d_step (t := (2, [some (.ref 40), some (.int (x1 + 1)), none, none, none, none], [], (qW s 50 (x1).toNatClampNeg (-1)))) 2 rfl
   (d_lab (x2 := (2, [some (.ref 40), some (.int (x1 + 1)), none, none, none, none], [], (qW s 50 (x1).toNatClampNeg (-1)))) rfl rfl rfl)))))
set_option maxRecDepth 20000 in
theorem el_M_layLine_2 (d : Nat)  (x1 : Int32) (s : qMem) : l_M_layLine_2 d x1 s = (if ((s).1 40 28) ≤ x1 then some s else (if qIn x1 3125 then ((m_M_place d ((s).1 51 (x1).toNatClampNeg) s).bind (fun q1 => (l_M_layLine_3 d x1 ((s).1 51 (x1).toNatClampNeg) 0 q1))) else none)) := d_step (t := (60, [some (.ref 40), some (.int x1), none, none, none, none], [(.int ((s).1 40 28)), (.int x1)], s)) 3 rfl
   (d_if (a := (254, [some (.ref 40), some (.int x1), none, none, none, none], [], s)) (b := (63, [some (.ref 40), some (.int x1), none, none, none, none], [], s)) rfl rfl
   (d_ret (k := 2) rfl rfl)
   (d_step (t := (68, [some (.ref 40), some (.int x1), none, none, none, none], [(.int x1), (.ref 51)], s)) 3 rfl
   (d_chk (a := (69, [some (.ref 40), some (.int x1), none, none, none, none], [(.int ((s).1 51 (x1).toNatClampNeg))], s)) rfl rfl
   (d_step (t := (72, [some (.ref 40), some (.int x1), some (.int ((s).1 51 (x1).toNatClampNeg)), none, none, none], [(.int ((s).1 51 (x1).toNatClampNeg)), (.ref 40)], s)) 3 rfl
   (d_callV (o := (m_M_place d ((s).1 51 (x1).toNatClampNeg) s)) rfl rfl (fun q1 =>
   d_step (t := (77, [some (.ref 40), some (.int x1), some (.int ((s).1 51 (x1).toNatClampNeg)), some (.int 0), none, none], [], q1)) 2 rfl
   (d_lab (x2 := (77, [some (.ref 40), some (.int x1), some (.int ((s).1 51 (x1).toNatClampNeg)), some (.int 0), none, none], [], q1)) rfl rfl rfl)))))))
set_option maxRecDepth 20000 in
theorem el_M_layLine_3 (d : Nat)  (x1 : Int32) (x2 : Int32) (x3 : Int32) (s : qMem) : l_M_layLine_3 d x1 x2 x3 s = (if ((s).1 40 3) ≤ x3 then (l_M_layLine_2 d (x1 + 1) s) else (l_M_layLine_4 d x1 x2 x3 1 s)) := d_step (t := (82, [some (.ref 40), some (.int x1), some (.int x2), some (.int x3), none, none], [(.int ((s).1 40 3)), (.int x3)], s)) 3 rfl
   (d_if (a := (248, [some (.ref 40), some (.int x1), some (.int x2), some (.int x3), none, none], [], s)) (b := (85, [some (.ref 40), some (.int x1), some (.int x2), some (.int x3), none, none], [], s)) rfl rfl
   (d_step (t := (55, [some (.ref 40), some (.int (x1 + 1)), some (.int x2), some (.int x3), none, none], [], s)) 2 rfl
   (d_lab (x2 := (55, [some (.ref 40), some (.int (x1 + 1)), none, none, none, none], [], s)) rfl rfl rfl))
   (d_step (t := (88, [some (.ref 40), some (.int x1), some (.int x2), some (.int x3), some (.int 1), none], [], s)) 2 rfl
   (d_lab (x2 := (88, [some (.ref 40), some (.int x1), some (.int x2), some (.int x3), some (.int 1), none], [], s)) rfl rfl rfl)))
set_option maxRecDepth 20000 in
theorem el_M_layLine_4 (d : Nat)  (x1 : Int32) (x2 : Int32) (x3 : Int32) (x4 : Int32) (s : qMem) : l_M_layLine_4 d x1 x2 x3 x4 s = (if x4 < 0 then (l_M_layLine_3 d x1 x2 (x3 + 1) s) else ((m_M_has d ((s).1 40 30) x3 s).bind (fun q1 => (if q1.1 = 0 then (l_M_layLine_4 d x1 x2 x3 (x4 + (-1)) q1.2) else ((m_M_canGo d 54 x3 x4 q1.2).bind (fun q2 => (if q2.1 = 0 then (l_M_layLine_4 d x1 x2 x3 (x4 + (-1)) q2.2) else (if qIn x3 5 then (if qIn x3 5 then ((m_M_codeOf d 54 (qW q2.2 54 (x3).toNatClampNeg (((q2.2).1 54 (x3).toNatClampNeg) + (if x4 = 1 then 1 else (-1) : Int32)))).bind (fun q3 => (if qIn x3 5 then (if qIn x3 5 then (if qIn q3.1 3125 then (if ((q3.2).1 50 (q3.1).toNatClampNeg) = (-1) then (if qIn x2 3125 then (if qIn q3.1 3125 then (if qIn q3.1 3125 then (if qIn q3.1 3125 then (if qIn ((q3.2).1 40 28) 3125 then (l_M_layLine_4 d x1 x2 x3 (x4 + (-1)) (qW (qW (qW (qW (qW (qW q3.2 54 (x3).toNatClampNeg (((q3.2).1 54 (x3).toNatClampNeg) - (if x4 = 1 then 1 else (-1) : Int32))) 50 (q3.1).toNatClampNeg (((q3.2).1 50 (x2).toNatClampNeg) + 1)) 52 (q3.1).toNatClampNeg x2) 53 (q3.1).toNatClampNeg ((2 * x3) + x4)) 51 (((q3.2).1 40 28)).toNatClampNeg q3.1) 40 28 (((q3.2).1 40 28) + 1))) else none) else none) else none) else none) else none) else (l_M_layLine_4 d x1 x2 x3 (x4 + (-1)) (qW q3.2 54 (x3).toNatClampNeg (((q3.2).1 54 (x3).toNatClampNeg) - (if x4 = 1 then 1 else (-1) : Int32))))) else none) else none) else none))) else none) else none)))))))) := d_step (t := (90, [some (.ref 40), some (.int x1), some (.int x2), some (.int x3), some (.int x4), none], [(.int x4)], s)) 1 rfl
   (d_if (a := (242, [some (.ref 40), some (.int x1), some (.int x2), some (.int x3), some (.int x4), none], [], s)) (b := (93, [some (.ref 40), some (.int x1), some (.int x2), some (.int x3), some (.int x4), none], [], s)) rfl rfl
   (d_step (t := (77, [some (.ref 40), some (.int x1), some (.int x2), some (.int (x3 + 1)), some (.int x4), none], [], s)) 2 rfl
   (d_lab (x2 := (77, [some (.ref 40), some (.int x1), some (.int x2), some (.int (x3 + 1)), none, none], [], s)) rfl rfl rfl))
   (d_step (t := (98, [some (.ref 40), some (.int x1), some (.int x2), some (.int x3), some (.int x4), none], [(.int x3), (.int ((s).1 40 30))], s)) 3 rfl
   (d_callI (o := (m_M_has d ((s).1 40 30) x3 s)) rfl rfl (fun q1 =>
   d_if (a := (236, [some (.ref 40), some (.int x1), some (.int x2), some (.int x3), some (.int x4), none], [], q1.2)) (b := (104, [some (.ref 40), some (.int x1), some (.int x2), some (.int x3), some (.int x4), none], [], q1.2)) rfl rfl
   (d_step (t := (88, [some (.ref 40), some (.int x1), some (.int x2), some (.int x3), some (.int (x4 + (-1))), none], [], q1.2)) 2 rfl
   (d_lab (x2 := (88, [some (.ref 40), some (.int x1), some (.int x2), some (.int x3), some (.int (x4 + (-1))), none], [], q1.2)) rfl rfl rfl))
   (d_step (t := (112, [some (.ref 40), some (.int x1), some (.int x2), some (.int x3), some (.int x4), none], [(.int x4), (.int x3), (.ref 54), (.ref 40)], q1.2)) 5 rfl
   (d_callI (o := (m_M_canGo d 54 x3 x4 q1.2)) rfl rfl (fun q2 =>
   d_if (a := (236, [some (.ref 40), some (.int x1), some (.int x2), some (.int x3), some (.int x4), none], [], q2.2)) (b := (118, [some (.ref 40), some (.int x1), some (.int x2), some (.int x3), some (.int x4), none], [], q2.2)) rfl rfl
   (d_step (t := (88, [some (.ref 40), some (.int x1), some (.int x2), some (.int x3), some (.int (x4 + (-1))), none], [], q2.2)) 2 rfl
   (d_lab (x2 := (88, [some (.ref 40), some (.int x1), some (.int x2), some (.int x3), some (.int (x4 + (-1))), none], [], q2.2)) rfl rfl rfl))
   (d_step (t := (124, [some (.ref 40), some (.int x1), some (.int x2), some (.int x3), some (.int x4), none], [(.int x3), (.ref 54), (.int x3), (.ref 54)], q2.2)) 4 rfl
   (d_chk (a := (125, [some (.ref 40), some (.int x1), some (.int x2), some (.int x3), some (.int x4), none], [(.int ((q2.2).1 54 (x3).toNatClampNeg)), (.int x3), (.ref 54)], q2.2)) rfl rfl
   (d_step (t := (128, [some (.ref 40), some (.int x1), some (.int x2), some (.int x3), some (.int x4), none], [(.int 1), (.int x4), (.int ((q2.2).1 54 (x3).toNatClampNeg)), (.int x3), (.ref 54)], q2.2)) 2 rfl
   (d_mrg (a := (131, [some (.ref 40), some (.int x1), some (.int x2), some (.int x3), some (.int x4), none], [(.int ((q2.2).1 54 (x3).toNatClampNeg)), (.int x3), (.ref 54)], q2.2)) (b := (135, [some (.ref 40), some (.int x1), some (.int x2), some (.int x3), some (.int x4), none], [(.int ((q2.2).1 54 (x3).toNatClampNeg)), (.int x3), (.ref 54)], q2.2)) (v1 := 1) (v2 := (-1)) (z := fun v9 => (136, [some (.ref 40), some (.int x1), some (.int x2), some (.int x3), some (.int x4), none], [(.int v9), (.int ((q2.2).1 54 (x3).toNatClampNeg)), (.int x3), (.ref 54)], q2.2)) 2 1 rfl rfl rfl rfl
   (d_step (t := (137, [some (.ref 40), some (.int x1), some (.int x2), some (.int x3), some (.int x4), none], [(.int (((q2.2).1 54 (x3).toNatClampNeg) + (if x4 = 1 then 1 else (-1) : Int32))), (.int x3), (.ref 54)], q2.2)) 1 rfl
   (d_chk (a := (138, [some (.ref 40), some (.int x1), some (.int x2), some (.int x3), some (.int x4), none], [], (qW q2.2 54 (x3).toNatClampNeg (((q2.2).1 54 (x3).toNatClampNeg) + (if x4 = 1 then 1 else (-1) : Int32))))) rfl rfl
   (d_step (t := (143, [some (.ref 40), some (.int x1), some (.int x2), some (.int x3), some (.int x4), none], [(.ref 54), (.ref 40)], (qW q2.2 54 (x3).toNatClampNeg (((q2.2).1 54 (x3).toNatClampNeg) + (if x4 = 1 then 1 else (-1) : Int32))))) 3 rfl
   (d_callI (o := (m_M_codeOf d 54 (qW q2.2 54 (x3).toNatClampNeg (((q2.2).1 54 (x3).toNatClampNeg) + (if x4 = 1 then 1 else (-1) : Int32))))) rfl rfl (fun q3 =>
   d_step (t := (154, [some (.ref 40), some (.int x1), some (.int x2), some (.int x3), some (.int x4), some (.int q3.1)], [(.int x3), (.ref 54), (.int x3), (.ref 54)], q3.2)) 5 rfl
   (d_chk (a := (155, [some (.ref 40), some (.int x1), some (.int x2), some (.int x3), some (.int x4), some (.int q3.1)], [(.int ((q3.2).1 54 (x3).toNatClampNeg)), (.int x3), (.ref 54)], q3.2)) rfl rfl
   (d_step (t := (158, [some (.ref 40), some (.int x1), some (.int x2), some (.int x3), some (.int x4), some (.int q3.1)], [(.int 1), (.int x4), (.int ((q3.2).1 54 (x3).toNatClampNeg)), (.int x3), (.ref 54)], q3.2)) 2 rfl
   (d_mrg (a := (161, [some (.ref 40), some (.int x1), some (.int x2), some (.int x3), some (.int x4), some (.int q3.1)], [(.int ((q3.2).1 54 (x3).toNatClampNeg)), (.int x3), (.ref 54)], q3.2)) (b := (165, [some (.ref 40), some (.int x1), some (.int x2), some (.int x3), some (.int x4), some (.int q3.1)], [(.int ((q3.2).1 54 (x3).toNatClampNeg)), (.int x3), (.ref 54)], q3.2)) (v1 := 1) (v2 := (-1)) (z := fun v9 => (166, [some (.ref 40), some (.int x1), some (.int x2), some (.int x3), some (.int x4), some (.int q3.1)], [(.int v9), (.int ((q3.2).1 54 (x3).toNatClampNeg)), (.int x3), (.ref 54)], q3.2)) 2 1 rfl rfl rfl rfl
   (d_step (t := (167, [some (.ref 40), some (.int x1), some (.int x2), some (.int x3), some (.int x4), some (.int q3.1)], [(.int (((q3.2).1 54 (x3).toNatClampNeg) - (if x4 = 1 then 1 else (-1) : Int32))), (.int x3), (.ref 54)], q3.2)) 1 rfl
   (d_chk (a := (168, [some (.ref 40), some (.int x1), some (.int x2), some (.int x3), some (.int x4), some (.int q3.1)], [], (qW q3.2 54 (x3).toNatClampNeg (((q3.2).1 54 (x3).toNatClampNeg) - (if x4 = 1 then 1 else (-1) : Int32))))) rfl rfl
   (d_step (t := (174, [some (.ref 40), some (.int x1), some (.int x2), some (.int x3), some (.int x4), some (.int q3.1)], [(.int q3.1), (.ref 50)], (qW q3.2 54 (x3).toNatClampNeg (((q3.2).1 54 (x3).toNatClampNeg) - (if x4 = 1 then 1 else (-1) : Int32))))) 3 rfl
   (d_chk (a := (175, [some (.ref 40), some (.int x1), some (.int x2), some (.int x3), some (.int x4), some (.int q3.1)], [(.int ((q3.2).1 50 (q3.1).toNatClampNeg))], (qW q3.2 54 (x3).toNatClampNeg (((q3.2).1 54 (x3).toNatClampNeg) - (if x4 = 1 then 1 else (-1) : Int32))))) rfl rfl
   (d_step (t := (176, [some (.ref 40), some (.int x1), some (.int x2), some (.int x3), some (.int x4), some (.int q3.1)], [(.int (-1)), (.int ((q3.2).1 50 (q3.1).toNatClampNeg))], (qW q3.2 54 (x3).toNatClampNeg (((q3.2).1 54 (x3).toNatClampNeg) - (if x4 = 1 then 1 else (-1) : Int32))))) 1 rfl
   (d_if (a := (179, [some (.ref 40), some (.int x1), some (.int x2), some (.int x3), some (.int x4), some (.int q3.1)], [], (qW q3.2 54 (x3).toNatClampNeg (((q3.2).1 54 (x3).toNatClampNeg) - (if x4 = 1 then 1 else (-1) : Int32))))) (b := (236, [some (.ref 40), some (.int x1), some (.int x2), some (.int x3), some (.int x4), some (.int q3.1)], [], (qW q3.2 54 (x3).toNatClampNeg (((q3.2).1 54 (x3).toNatClampNeg) - (if x4 = 1 then 1 else (-1) : Int32))))) rfl rfl
   (d_step (t := (190, [some (.ref 40), some (.int x1), some (.int x2), some (.int x3), some (.int x4), some (.int q3.1)], [(.int x2), (.ref 50), (.int q3.1), (.ref 50)], (qW q3.2 54 (x3).toNatClampNeg (((q3.2).1 54 (x3).toNatClampNeg) - (if x4 = 1 then 1 else (-1) : Int32))))) 6 rfl
   (d_chk (a := (191, [some (.ref 40), some (.int x1), some (.int x2), some (.int x3), some (.int x4), some (.int q3.1)], [(.int ((q3.2).1 50 (x2).toNatClampNeg)), (.int q3.1), (.ref 50)], (qW q3.2 54 (x3).toNatClampNeg (((q3.2).1 54 (x3).toNatClampNeg) - (if x4 = 1 then 1 else (-1) : Int32))))) rfl rfl
   (d_step (t := (193, [some (.ref 40), some (.int x1), some (.int x2), some (.int x3), some (.int x4), some (.int q3.1)], [(.int (((q3.2).1 50 (x2).toNatClampNeg) + 1)), (.int q3.1), (.ref 50)], (qW q3.2 54 (x3).toNatClampNeg (((q3.2).1 54 (x3).toNatClampNeg) - (if x4 = 1 then 1 else (-1) : Int32))))) 2 rfl
   (d_chk (a := (194, [some (.ref 40), some (.int x1), some (.int x2), some (.int x3), some (.int x4), some (.int q3.1)], [], (qW (qW q3.2 54 (x3).toNatClampNeg (((q3.2).1 54 (x3).toNatClampNeg) - (if x4 = 1 then 1 else (-1) : Int32))) 50 (q3.1).toNatClampNeg (((q3.2).1 50 (x2).toNatClampNeg) + 1)))) rfl rfl
   (d_step (t := (201, [some (.ref 40), some (.int x1), some (.int x2), some (.int x3), some (.int x4), some (.int q3.1)], [(.int x2), (.int q3.1), (.ref 52)], (qW (qW q3.2 54 (x3).toNatClampNeg (((q3.2).1 54 (x3).toNatClampNeg) - (if x4 = 1 then 1 else (-1) : Int32))) 50 (q3.1).toNatClampNeg (((q3.2).1 50 (x2).toNatClampNeg) + 1)))) 4 rfl
   (d_chk (a := (202, [some (.ref 40), some (.int x1), some (.int x2), some (.int x3), some (.int x4), some (.int q3.1)], [], (qW (qW (qW q3.2 54 (x3).toNatClampNeg (((q3.2).1 54 (x3).toNatClampNeg) - (if x4 = 1 then 1 else (-1) : Int32))) 50 (q3.1).toNatClampNeg (((q3.2).1 50 (x2).toNatClampNeg) + 1)) 52 (q3.1).toNatClampNeg x2))) rfl rfl
   (d_step (t := (214, [some (.ref 40), some (.int x1), some (.int x2), some (.int x3), some (.int x4), some (.int q3.1)], [(.int ((2 * x3) + x4)), (.int q3.1), (.ref 53)], (qW (qW (qW q3.2 54 (x3).toNatClampNeg (((q3.2).1 54 (x3).toNatClampNeg) - (if x4 = 1 then 1 else (-1) : Int32))) 50 (q3.1).toNatClampNeg (((q3.2).1 50 (x2).toNatClampNeg) + 1)) 52 (q3.1).toNatClampNeg x2))) 8 rfl
   (d_chk (a := (215, [some (.ref 40), some (.int x1), some (.int x2), some (.int x3), some (.int x4), some (.int q3.1)], [], (qW (qW (qW (qW q3.2 54 (x3).toNatClampNeg (((q3.2).1 54 (x3).toNatClampNeg) - (if x4 = 1 then 1 else (-1) : Int32))) 50 (q3.1).toNatClampNeg (((q3.2).1 50 (x2).toNatClampNeg) + 1)) 52 (q3.1).toNatClampNeg x2) 53 (q3.1).toNatClampNeg ((2 * x3) + x4)))) rfl rfl
   (d_step (t := (225, [some (.ref 40), some (.int x1), some (.int x2), some (.int x3), some (.int x4), some (.int q3.1)], [(.int q3.1), (.int ((q3.2).1 40 28)), (.ref 51)], (qW (qW (qW (qW q3.2 54 (x3).toNatClampNeg (((q3.2).1 54 (x3).toNatClampNeg) - (if x4 = 1 then 1 else (-1) : Int32))) 50 (q3.1).toNatClampNeg (((q3.2).1 50 (x2).toNatClampNeg) + 1)) 52 (q3.1).toNatClampNeg x2) 53 (q3.1).toNatClampNeg ((2 * x3) + x4)))) 5 rfl
   (d_chk (a := (226, [some (.ref 40), some (.int x1), some (.int x2), some (.int x3), some (.int x4), some (.int q3.1)], [], (qW (qW (qW (qW (qW q3.2 54 (x3).toNatClampNeg (((q3.2).1 54 (x3).toNatClampNeg) - (if x4 = 1 then 1 else (-1) : Int32))) 50 (q3.1).toNatClampNeg (((q3.2).1 50 (x2).toNatClampNeg) + 1)) 52 (q3.1).toNatClampNeg x2) 53 (q3.1).toNatClampNeg ((2 * x3) + x4)) 51 (((q3.2).1 40 28)).toNatClampNeg q3.1))) rfl rfl
   (d_step (t := (88, [some (.ref 40), some (.int x1), some (.int x2), some (.int x3), some (.int (x4 + (-1))), some (.int q3.1)], [], (qW (qW (qW (qW (qW (qW q3.2 54 (x3).toNatClampNeg (((q3.2).1 54 (x3).toNatClampNeg) - (if x4 = 1 then 1 else (-1) : Int32))) 50 (q3.1).toNatClampNeg (((q3.2).1 50 (x2).toNatClampNeg) + 1)) 52 (q3.1).toNatClampNeg x2) 53 (q3.1).toNatClampNeg ((2 * x3) + x4)) 51 (((q3.2).1 40 28)).toNatClampNeg q3.1) 40 28 (((q3.2).1 40 28) + 1)))) 8 rfl
   (d_lab (x2 := (88, [some (.ref 40), some (.int x1), some (.int x2), some (.int x3), some (.int (x4 + (-1))), none], [], (qW (qW (qW (qW (qW (qW q3.2 54 (x3).toNatClampNeg (((q3.2).1 54 (x3).toNatClampNeg) - (if x4 = 1 then 1 else (-1) : Int32))) 50 (q3.1).toNatClampNeg (((q3.2).1 50 (x2).toNatClampNeg) + 1)) 52 (q3.1).toNatClampNeg x2) 53 (q3.1).toNatClampNeg ((2 * x3) + x4)) 51 (((q3.2).1 40 28)).toNatClampNeg q3.1) 40 28 (((q3.2).1 40 28) + 1)))) rfl rfl rfl))))))))))))
   (d_step (t := (88, [some (.ref 40), some (.int x1), some (.int x2), some (.int x3), some (.int (x4 + (-1))), some (.int q3.1)], [], (qW q3.2 54 (x3).toNatClampNeg (((q3.2).1 54 (x3).toNatClampNeg) - (if x4 = 1 then 1 else (-1) : Int32))))) 2 rfl
   (d_lab (x2 := (88, [some (.ref 40), some (.int x1), some (.int x2), some (.int x3), some (.int (x4 + (-1))), none], [], (qW q3.2 54 (x3).toNatClampNeg (((q3.2).1 54 (x3).toNatClampNeg) - (if x4 = 1 then 1 else (-1) : Int32))))) rfl rfl rfl)))))))))))))))))))))))))))
noncomputable def m_M_areUp (d : Nat)  (s : qMem) : Option (Int32 × qMem) := qI (qCall qMT d 143 [.ref 40, .ref 54] s)
noncomputable def l_M_areUp_1 (d : Nat)  (x2 : Int32) (x3 : Int32) (s : qMem) : Option (Int32 × qMem) := qI (qK qMT d 143 (4, [some (.ref 40), some (.ref 54), some (.int x2), some (.int x3)], [], s))
set_option maxRecDepth 20000 in
theorem e_M_areUp (d : Nat)  (s : qMem) : m_M_areUp (d + 1) s = (l_M_areUp_1 d 1 0 s) := d_step (t := (4, [some (.ref 40), some (.ref 54), some (.int 1), some (.int 0)], [], s)) 4 rfl
   (rfl)
set_option maxRecDepth 20000 in
theorem el_M_areUp_1 (d : Nat)  (x2 : Int32) (x3 : Int32) (s : qMem) : l_M_areUp_1 d x2 x3 s = (if ((s).1 40 3) ≤ x3 then (if x2 = 0 ∨ x2 = 1 then some (x2, s) else none) else (if x2 = 0 then (l_M_areUp_1 d 0 (x3 + 1) s) else ((m_M_has d ((s).1 40 30) x3 s).bind (fun q1 => (if q1.1 = 0 then (l_M_areUp_1 d 1 (x3 + 1) q1.2) else (if qIn (6 * x3) 30 then (if ((q1.2).1 42 ((6 * x3)).toNatClampNeg) = 3 then (l_M_areUp_1 d 1 (x3 + 1) q1.2) else (if qIn x3 5 then (l_M_areUp_1 d (if ((q1.2).1 54 (x3).toNatClampNeg) = ((q1.2).1 40 0) then 1 else 0 : Int32) (x3 + 1) q1.2) else none)) else none)))))) := d_step (t := (9, [some (.ref 40), some (.ref 54), some (.int x2), some (.int x3)], [(.int ((s).1 40 3)), (.int x3)], s)) 3 rfl
   (d_if (a := (62, [some (.ref 40), some (.ref 54), some (.int x2), some (.int x3)], [], s)) (b := (12, [some (.ref 40), some (.ref 54), some (.int x2), some (.int x3)], [], s)) rfl rfl
   (d_step (t := (63, [some (.ref 40), some (.ref 54), some (.int x2), some (.int x3)], [(.int x2)], s)) 1 rfl
   (d_retz (k := 0) rfl rfl))
   (d_step (t := (13, [some (.ref 40), some (.ref 54), some (.int x2), some (.int x3)], [(.int x2)], s)) 1 rfl
   (d_if (a := (54, [some (.ref 40), some (.ref 54), some (.int x2), some (.int x3)], [], s)) (b := (16, [some (.ref 40), some (.ref 54), some (.int x2), some (.int x3)], [], s)) rfl rfl
   (d_step (t := (4, [some (.ref 40), some (.ref 54), some (.int 0), some (.int (x3 + 1))], [], s)) 4 rfl
   (rfl))
   (d_step (t := (21, [some (.ref 40), some (.ref 54), some (.int x2), some (.int x3)], [(.int x3), (.int ((s).1 40 30))], s)) 3 rfl
   (d_callI (o := (m_M_has d ((s).1 40 30) x3 s)) rfl rfl (fun q1 =>
   d_if (a := (50, [some (.ref 40), some (.ref 54), some (.int x2), some (.int x3)], [], q1.2)) (b := (27, [some (.ref 40), some (.ref 54), some (.int x2), some (.int x3)], [], q1.2)) rfl rfl
   (d_step (t := (4, [some (.ref 40), some (.ref 54), some (.int 1), some (.int (x3 + 1))], [], q1.2)) 5 rfl
   (rfl))
   (d_step (t := (35, [some (.ref 40), some (.ref 54), some (.int x2), some (.int x3)], [(.int (6 * x3)), (.ref 42)], q1.2)) 5 rfl
   (d_chk (a := (36, [some (.ref 40), some (.ref 54), some (.int x2), some (.int x3)], [(.int ((q1.2).1 42 ((6 * x3)).toNatClampNeg))], q1.2)) rfl rfl
   (d_step (t := (37, [some (.ref 40), some (.ref 54), some (.int x2), some (.int x3)], [(.int 3), (.int ((q1.2).1 42 ((6 * x3)).toNatClampNeg))], q1.2)) 1 rfl
   (d_if (a := (50, [some (.ref 40), some (.ref 54), some (.int x2), some (.int x3)], [], q1.2)) (b := (40, [some (.ref 40), some (.ref 54), some (.int x2), some (.int x3)], [], q1.2)) rfl rfl
   (d_step (t := (4, [some (.ref 40), some (.ref 54), some (.int 1), some (.int (x3 + 1))], [], q1.2)) 5 rfl
   (rfl))
   (d_step (t := (42, [some (.ref 40), some (.ref 54), some (.int x2), some (.int x3)], [(.int x3), (.ref 54)], q1.2)) 2 rfl
   (d_chk (a := (43, [some (.ref 40), some (.ref 54), some (.int x2), some (.int x3)], [(.int ((q1.2).1 54 (x3).toNatClampNeg))], q1.2)) rfl rfl
   (d_step (t := (47, [some (.ref 40), some (.ref 54), some (.int x2), some (.int x3)], [(.int ((q1.2).1 40 0)), (.int ((q1.2).1 54 (x3).toNatClampNeg))], q1.2)) 2 rfl
   (d_mrg (a := (50, [some (.ref 40), some (.ref 54), some (.int x2), some (.int x3)], [], q1.2)) (b := (54, [some (.ref 40), some (.ref 54), some (.int x2), some (.int x3)], [], q1.2)) (v1 := 1) (v2 := 0) (z := fun v9 => (55, [some (.ref 40), some (.ref 54), some (.int x2), some (.int x3)], [(.int v9)], q1.2)) 2 1 rfl rfl rfl rfl
   (d_step (t := (4, [some (.ref 40), some (.ref 54), some (.int (if ((q1.2).1 54 (x3).toNatClampNeg) = ((q1.2).1 40 0) then 1 else 0 : Int32)), some (.int (x3 + 1))], [], q1.2)) 3 rfl
   (rfl))))))))))))))))
noncomputable def m_M_firstUp (d : Nat)  (s : qMem) : Option (Int32 × qMem) := qI (qCall qMT d 144 [.ref 40] s)
noncomputable def l_M_firstUp_1 (d : Nat)  (x1 : Int32) (s : qMem) : Option (Int32 × qMem) := qI (qK qMT d 144 (2, [some (.ref 40), some (.int x1)], [], s))
set_option maxRecDepth 20000 in
theorem e_M_firstUp (d : Nat)  (s : qMem) : m_M_firstUp (d + 1) s = (l_M_firstUp_1 d 0 s) := d_step (t := (2, [some (.ref 40), some (.int 0)], [], s)) 2 rfl
   (rfl)
set_option maxRecDepth 20000 in
theorem el_M_firstUp_1 (d : Nat)  (x1 : Int32) (s : qMem) : l_M_firstUp_1 d x1 s = (if ((s).1 40 28) ≤ x1 then some ((-1), s) else (if qIn x1 3125 then ((m_M_place d ((s).1 51 (x1).toNatClampNeg) s).bind (fun q1 => ((m_M_areUp d q1).bind (fun q2 => (if q2.1 = 0 then (l_M_firstUp_1 d (x1 + 1) q2.2) else (if qIn x1 3125 then some (((q2.2).1 51 (x1).toNatClampNeg), q2.2) else none)))))) else none)) := d_step (t := (7, [some (.ref 40), some (.int x1)], [(.int ((s).1 40 28)), (.int x1)], s)) 3 rfl
   (d_if (a := (44, [some (.ref 40), some (.int x1)], [], s)) (b := (10, [some (.ref 40), some (.int x1)], [], s)) rfl rfl
   (d_step (t := (45, [some (.ref 40), some (.int x1)], [(.int (-1))], s)) 1 rfl
   (d_ret (k := 0) rfl rfl))
   (d_step (t := (16, [some (.ref 40), some (.int x1)], [(.int x1), (.ref 51), (.ref 40)], s)) 4 rfl
   (d_chk (a := (17, [some (.ref 40), some (.int x1)], [(.int ((s).1 51 (x1).toNatClampNeg)), (.ref 40)], s)) rfl rfl
   (d_callV (o := (m_M_place d ((s).1 51 (x1).toNatClampNeg) s)) rfl rfl (fun q1 =>
   d_step (t := (25, [some (.ref 40), some (.int x1)], [(.ref 54), (.ref 40)], q1)) 3 rfl
   (d_callI (o := (m_M_areUp d q1)) rfl rfl (fun q2 =>
   d_if (a := (38, [some (.ref 40), some (.int x1)], [], q2.2)) (b := (31, [some (.ref 40), some (.int x1)], [], q2.2)) rfl rfl
   (d_step (t := (2, [some (.ref 40), some (.int (x1 + 1))], [], q2.2)) 2 rfl
   (rfl))
   (d_step (t := (36, [some (.ref 40), some (.int x1)], [(.int x1), (.ref 51)], q2.2)) 3 rfl
   (d_chk (a := (37, [some (.ref 40), some (.int x1)], [(.int ((q2.2).1 51 (x1).toNatClampNeg))], q2.2)) rfl rfl
   (d_ret (k := 0) rfl rfl))))))))))
noncomputable def m_M_soonestOf (d : Nat)  (s : qMem) : Option (Int32 × qMem) := qI (qCall qMT d 145 [.ref 40] s)
set_option maxRecDepth 20000 in
theorem e_M_soonestOf (d : Nat)  (s : qMem) : m_M_soonestOf (d + 1) s = ((m_M_layLine d s).bind (fun q1 => ((m_M_firstUp d q1).bind (fun q2 => (if q2.1 = (-1) then some ((-1), q2.2) else (if qIn q2.1 3125 then some (((q2.2).1 50 (q2.1).toNatClampNeg), q2.2) else none)))))) := d_step (t := (1, [some (.ref 40), none], [(.ref 40)], s)) 1 rfl
   (d_callV (o := (m_M_layLine d s)) rfl rfl (fun q1 =>
   d_step (t := (5, [some (.ref 40), none], [(.ref 40)], q1)) 1 rfl
   (d_callI (o := (m_M_firstUp d q1)) rfl rfl (fun q2 =>
   d_step (t := (11, [some (.ref 40), some (.int q2.1)], [(.int (-1)), (.int q2.1)], q2.2)) 3 rfl
   (d_if (a := (14, [some (.ref 40), some (.int q2.1)], [], q2.2)) (b := (18, [some (.ref 40), some (.int q2.1)], [], q2.2)) rfl rfl
   (d_step (t := (24, [some (.ref 40), some (.int q2.1)], [(.int (-1))], q2.2)) 2 rfl
   (d_ret (k := 0) rfl rfl))
   (d_step (t := (23, [some (.ref 40), some (.int q2.1)], [(.int q2.1), (.ref 50)], q2.2)) 3 rfl
   (d_chk (a := (24, [some (.ref 40), some (.int q2.1)], [(.int ((q2.2).1 50 (q2.1).toNatClampNeg))], q2.2)) rfl rfl
   (d_ret (k := 0) rfl rfl))))))))
noncomputable def m_M_soonest (d : Nat)  (s : qMem) : Option (Int32 × qMem) := qI (qCall qMT d 146 [.ref 40] s)
set_option maxRecDepth 20000 in
theorem e_M_soonest (d : Nat)  (s : qMem) : m_M_soonest (d + 1) s = ((m_M_soonestOf d s).bind (fun q1 => some (q1.1, q1.2))) := d_step (t := (1, [some (.ref 40)], [(.ref 40)], s)) 1 rfl
   (d_callI (o := (m_M_soonestOf d s)) rfl rfl (fun q1 =>
   d_ret (k := 0) rfl rfl))
noncomputable def m_M_way (d : Nat) (k : Int32) (w : Int32) (s : qMem) : Option (Int32 × qMem) := qI (qCall qMT d 147 [.ref 40, .int k, .int w] s)
noncomputable def l_M_way_1 (d : Nat)  (x1 : Int32) (x2 : Int32) (x3 : Int32) (s : qMem) : Option (Int32 × qMem) := qI (qK qMT d 147 (42, [some (.ref 40), some (.int x1), some (.int x2), some (.int x3)], [], s))
set_option maxRecDepth 20000 in
theorem e_M_way (d : Nat) (k : Int32) (w : Int32) (s : qMem) : m_M_way (d + 1) k w s = (if k < 0 then some ((-3), s) else ((m_M_in d w 0 1 s).bind (fun q1 => (if q1.1 = 0 then some ((-3), q1.2) else ((m_M_layLine d q1.2).bind (fun q2 => ((m_M_firstUp d q2).bind (fun q3 => (if q3.1 = (-1) then some ((-1), q3.2) else (if qIn q3.1 3125 then (if k < ((q3.2).1 50 (q3.1).toNatClampNeg) then (l_M_way_1 d k w q3.1 q3.2) else some ((-1), q3.2)) else none)))))))))) := d_step (t := (1, [some (.ref 40), some (.int k), some (.int w), none], [(.int k)], s)) 1 rfl
   (d_if (a := (13, [some (.ref 40), some (.int k), some (.int w), none], [], s)) (b := (4, [some (.ref 40), some (.int k), some (.int w), none], [], s)) rfl rfl
   (d_step (t := (15, [some (.ref 40), some (.int k), some (.int w), none], [(.int (-3))], s)) 1 rfl
   (d_ret (k := 0) rfl rfl))
   (d_step (t := (7, [some (.ref 40), some (.int k), some (.int w), none], [(.int 1), (.int 0), (.int w)], s)) 3 rfl
   (d_callI (o := (m_M_in d w 0 1 s)) rfl rfl (fun q1 =>
   d_if (a := (13, [some (.ref 40), some (.int k), some (.int w), none], [], q1.2)) (b := (16, [some (.ref 40), some (.int k), some (.int w), none], [], q1.2)) rfl rfl
   (d_step (t := (15, [some (.ref 40), some (.int k), some (.int w), none], [(.int (-3))], q1.2)) 1 rfl
   (d_ret (k := 0) rfl rfl))
   (d_step (t := (17, [some (.ref 40), some (.int k), some (.int w), none], [(.ref 40)], q1.2)) 1 rfl
   (d_callV (o := (m_M_layLine d q1.2)) rfl rfl (fun q2 =>
   d_step (t := (21, [some (.ref 40), some (.int k), some (.int w), none], [(.ref 40)], q2)) 1 rfl
   (d_callI (o := (m_M_firstUp d q2)) rfl rfl (fun q3 =>
   d_step (t := (27, [some (.ref 40), some (.int k), some (.int w), some (.int q3.1)], [(.int (-1)), (.int q3.1)], q3.2)) 3 rfl
   (d_if (a := (40, [some (.ref 40), some (.int k), some (.int w), some (.int q3.1)], [], q3.2)) (b := (30, [some (.ref 40), some (.int k), some (.int w), some (.int q3.1)], [], q3.2)) rfl rfl
   (d_step (t := (41, [some (.ref 40), some (.int k), some (.int w), some (.int q3.1)], [(.int (-1))], q3.2)) 1 rfl
   (d_ret (k := 0) rfl rfl))
   (d_step (t := (36, [some (.ref 40), some (.int k), some (.int w), some (.int q3.1)], [(.int q3.1), (.ref 50), (.int k)], q3.2)) 4 rfl
   (d_chk (a := (37, [some (.ref 40), some (.int k), some (.int w), some (.int q3.1)], [(.int ((q3.2).1 50 (q3.1).toNatClampNeg)), (.int k)], q3.2)) rfl rfl
   (d_if (a := (42, [some (.ref 40), some (.int k), some (.int w), some (.int q3.1)], [], q3.2)) (b := (40, [some (.ref 40), some (.int k), some (.int w), some (.int q3.1)], [], q3.2)) rfl rfl
   (rfl)
   (d_step (t := (41, [some (.ref 40), some (.int k), some (.int w), some (.int q3.1)], [(.int (-1))], q3.2)) 1 rfl
   (d_ret (k := 0) rfl rfl)))))))))))))))
set_option maxRecDepth 20000 in
theorem el_M_way_1 (d : Nat)  (x1 : Int32) (x2 : Int32) (x3 : Int32) (s : qMem) : l_M_way_1 d x1 x2 x3 s = (if qIn x3 3125 then (if ((s).1 50 (x3).toNatClampNeg) ≤ (x1 + 1) then (if x2 = 0 then (if qIn x3 3125 then some ((((s).1 53 (x3).toNatClampNeg) / 2), s) else none) else (if qIn x3 3125 then some ((((s).1 53 (x3).toNatClampNeg) - ((s).1 53 (x3).toNatClampNeg) / 2 * 2), s) else none)) else (if qIn x3 3125 then (l_M_way_1 d x1 x2 ((s).1 52 (x3).toNatClampNeg) s) else none)) else none) := d_step (t := (47, [some (.ref 40), some (.int x1), some (.int x2), some (.int x3)], [(.int x3), (.ref 50)], s)) 3 rfl
   (d_chk (a := (48, [some (.ref 40), some (.int x1), some (.int x2), some (.int x3)], [(.int ((s).1 50 (x3).toNatClampNeg))], s)) rfl rfl
   (d_step (t := (51, [some (.ref 40), some (.int x1), some (.int x2), some (.int x3)], [(.int (x1 + 1)), (.int ((s).1 50 (x3).toNatClampNeg))], s)) 3 rfl
   (d_if (a := (64, [some (.ref 40), some (.int x1), some (.int x2), some (.int x3)], [], s)) (b := (54, [some (.ref 40), some (.int x1), some (.int x2), some (.int x3)], [], s)) rfl rfl
   (d_step (t := (65, [some (.ref 40), some (.int x1), some (.int x2), some (.int x3)], [(.int x2)], s)) 1 rfl
   (d_if (a := (68, [some (.ref 40), some (.int x1), some (.int x2), some (.int x3)], [], s)) (b := (79, [some (.ref 40), some (.int x1), some (.int x2), some (.int x3)], [], s)) rfl rfl
   (d_step (t := (73, [some (.ref 40), some (.int x1), some (.int x2), some (.int x3)], [(.int x3), (.ref 53)], s)) 3 rfl
   (d_chk (a := (74, [some (.ref 40), some (.int x1), some (.int x2), some (.int x3)], [(.int ((s).1 53 (x3).toNatClampNeg))], s)) rfl rfl
   (d_step (t := (87, [some (.ref 40), some (.int x1), some (.int x2), some (.int x3)], [(.int (((s).1 53 (x3).toNatClampNeg) / 2))], s)) 3 rfl
   (d_ret (k := 0) rfl rfl))))
   (d_step (t := (84, [some (.ref 40), some (.int x1), some (.int x2), some (.int x3)], [(.int x3), (.ref 53)], s)) 3 rfl
   (d_chk (a := (85, [some (.ref 40), some (.int x1), some (.int x2), some (.int x3)], [(.int ((s).1 53 (x3).toNatClampNeg))], s)) rfl rfl
   (d_step (t := (87, [some (.ref 40), some (.int x1), some (.int x2), some (.int x3)], [(.int (((s).1 53 (x3).toNatClampNeg) - ((s).1 53 (x3).toNatClampNeg) / 2 * 2))], s)) 2 rfl
   (d_ret (k := 0) rfl rfl))))))
   (d_step (t := (59, [some (.ref 40), some (.int x1), some (.int x2), some (.int x3)], [(.int x3), (.ref 52)], s)) 3 rfl
   (d_chk (a := (60, [some (.ref 40), some (.int x1), some (.int x2), some (.int x3)], [(.int ((s).1 52 (x3).toNatClampNeg))], s)) rfl rfl
   (d_step (t := (42, [some (.ref 40), some (.int x1), some (.int x2), some (.int ((s).1 52 (x3).toNatClampNeg))], [], s)) 2 rfl
   (rfl)))))))
noncomputable def m_M_lasts (d : Nat)  (s : qMem) : Option (Int32 × qMem) := qI (qCall qMT d 148 [.ref 40] s)
noncomputable def l_M_lasts_1 (d : Nat)  (x1 : Int32) (x2 : Int32) (x3 : Int32) (s : qMem) : Option (Int32 × qMem) := qI (qK qMT d 148 (16, [some (.ref 40), some (.int x1), some (.int x2), some (.int x3), none, none], [], s))
noncomputable def l_M_lasts_2 (d : Nat)  (x1 : Int32) (x2 : Int32) (x3 : Int32) (x4 : Int32) (s : qMem) : Option (Int32 × qMem) := qI (qK qMT d 148 (27, [some (.ref 40), some (.int x1), some (.int x2), some (.int x3), some (.int x4), none], [], s))
noncomputable def l_M_lasts_3 (d : Nat)  (x1 : Int32) (x2 : Int32) (x3 : Int32) (x4 : Int32) (x5 : Int32) (s : qMem) : Option (Int32 × qMem) := qI (qK qMT d 148 (56, [some (.ref 40), some (.int x1), some (.int x2), some (.int x3), some (.int x4), some (.int x5)], [], s))
set_option maxRecDepth 20000 in
theorem e_M_lasts (d : Nat)  (s : qMem) : m_M_lasts (d + 1) s = ((m_M_soonestOf d s).bind (fun q1 => (if q1.1 = (-1) then some ((-1), q1.2) else (l_M_lasts_1 d q1.1 0 0 q1.2)))) := d_step (t := (1, [some (.ref 40), none, none, none, none, none], [(.ref 40)], s)) 1 rfl
   (d_callI (o := (m_M_soonestOf d s)) rfl rfl (fun q1 =>
   d_step (t := (7, [some (.ref 40), some (.int q1.1), none, none, none, none], [(.int (-1)), (.int q1.1)], q1.2)) 3 rfl
   (d_if (a := (10, [some (.ref 40), some (.int q1.1), none, none, none, none], [], q1.2)) (b := (12, [some (.ref 40), some (.int q1.1), none, none, none, none], [], q1.2)) rfl rfl
   (d_step (t := (11, [some (.ref 40), some (.int q1.1), none, none, none, none], [(.int (-1))], q1.2)) 1 rfl
   (d_ret (k := 0) rfl rfl))
   (d_step (t := (16, [some (.ref 40), some (.int q1.1), some (.int 0), some (.int 0), none, none], [], q1.2)) 4 rfl
   (d_lab (x2 := (16, [some (.ref 40), some (.int q1.1), some (.int 0), some (.int 0), none, none], [], q1.2)) rfl rfl rfl)))))
set_option maxRecDepth 20000 in
theorem el_M_lasts_1 (d : Nat)  (x1 : Int32) (x2 : Int32) (x3 : Int32) (s : qMem) : l_M_lasts_1 d x1 x2 x3 s = (if ((s).1 40 28) ≤ x3 then some (x2, s) else (l_M_lasts_2 d x1 x2 x3 0 s)) := d_step (t := (21, [some (.ref 40), some (.int x1), some (.int x2), some (.int x3), none, none], [(.int ((s).1 40 28)), (.int x3)], s)) 3 rfl
   (d_if (a := (148, [some (.ref 40), some (.int x1), some (.int x2), some (.int x3), none, none], [], s)) (b := (24, [some (.ref 40), some (.int x1), some (.int x2), some (.int x3), none, none], [], s)) rfl rfl
   (d_step (t := (149, [some (.ref 40), some (.int x1), some (.int x2), some (.int x3), none, none], [(.int x2)], s)) 1 rfl
   (d_ret (k := 0) rfl rfl))
   (d_step (t := (27, [some (.ref 40), some (.int x1), some (.int x2), some (.int x3), some (.int 0), none], [], s)) 2 rfl
   (d_lab (x2 := (27, [some (.ref 40), some (.int x1), some (.int x2), some (.int x3), some (.int 0), none], [], s)) rfl rfl rfl)))
set_option maxRecDepth 20000 in
theorem el_M_lasts_2 (d : Nat)  (x1 : Int32) (x2 : Int32) (x3 : Int32) (x4 : Int32) (s : qMem) : l_M_lasts_2 d x1 x2 x3 x4 s = (if ((s).1 40 3) ≤ x4 then (l_M_lasts_1 d x1 x2 (x3 + 1) s) else (if qIn x3 3125 then (if qIn ((s).1 51 (x3).toNatClampNeg) 3125 then (if ((s).1 50 (((s).1 51 (x3).toNatClampNeg)).toNatClampNeg) = (x1 - 1) then (l_M_lasts_3 d x1 x2 x3 x4 0 s) else (l_M_lasts_1 d x1 x2 (x3 + 1) s)) else none) else none)) := d_step (t := (33, [some (.ref 40), some (.int x1), some (.int x2), some (.int x3), some (.int x4), none], [(.int ((s).1 40 3)), (.int x4)], s)) 3 rfl
   (d_if (a := (142, [some (.ref 40), some (.int x1), some (.int x2), some (.int x3), some (.int x4), none], [], s)) (b := (36, [some (.ref 40), some (.int x1), some (.int x2), some (.int x3), some (.int x4), none], [], s)) rfl rfl
   (d_step (t := (16, [some (.ref 40), some (.int x1), some (.int x2), some (.int (x3 + 1)), some (.int x4), none], [], s)) 2 rfl
   (d_lab (x2 := (16, [some (.ref 40), some (.int x1), some (.int x2), some (.int (x3 + 1)), none, none], [], s)) rfl rfl rfl))
   (d_step (t := (45, [some (.ref 40), some (.int x1), some (.int x2), some (.int x3), some (.int x4), none], [(.int x3), (.ref 51), (.ref 50)], s)) 5 rfl
   (d_chk (a := (46, [some (.ref 40), some (.int x1), some (.int x2), some (.int x3), some (.int x4), none], [(.int ((s).1 51 (x3).toNatClampNeg)), (.ref 50)], s)) rfl rfl
   (d_chk (a := (47, [some (.ref 40), some (.int x1), some (.int x2), some (.int x3), some (.int x4), none], [(.int ((s).1 50 (((s).1 51 (x3).toNatClampNeg)).toNatClampNeg))], s)) rfl rfl
   (d_step (t := (50, [some (.ref 40), some (.int x1), some (.int x2), some (.int x3), some (.int x4), none], [(.int (x1 - 1)), (.int ((s).1 50 (((s).1 51 (x3).toNatClampNeg)).toNatClampNeg))], s)) 3 rfl
   (d_if (a := (53, [some (.ref 40), some (.int x1), some (.int x2), some (.int x3), some (.int x4), none], [], s)) (b := (142, [some (.ref 40), some (.int x1), some (.int x2), some (.int x3), some (.int x4), none], [], s)) rfl rfl
   (d_step (t := (56, [some (.ref 40), some (.int x1), some (.int x2), some (.int x3), some (.int x4), some (.int 0)], [], s)) 2 rfl
   (rfl))
   (d_step (t := (16, [some (.ref 40), some (.int x1), some (.int x2), some (.int (x3 + 1)), some (.int x4), none], [], s)) 2 rfl
   (d_lab (x2 := (16, [some (.ref 40), some (.int x1), some (.int x2), some (.int (x3 + 1)), none, none], [], s)) rfl rfl rfl))))))))
set_option maxRecDepth 20000 in
theorem el_M_lasts_3 (d : Nat)  (x1 : Int32) (x2 : Int32) (x3 : Int32) (x4 : Int32) (x5 : Int32) (s : qMem) : l_M_lasts_3 d x1 x2 x3 x4 x5 s = (if 2 ≤ x5 then (l_M_lasts_2 d x1 x2 x3 (x4 + 1) s) else (if qIn x3 3125 then ((m_M_place d ((s).1 51 (x3).toNatClampNeg) s).bind (fun q1 => ((m_M_canGo d 54 x4 x5 q1).bind (fun q2 => (if q2.1 = 0 then (l_M_lasts_3 d x1 x2 x3 x4 (x5 + 1) q2.2) else (if qIn x4 5 then (if qIn x4 5 then ((m_M_areUp d (qW q2.2 54 (x4).toNatClampNeg (((q2.2).1 54 (x4).toNatClampNeg) + (if x5 = 1 then 1 else (-1) : Int32)))).bind (fun q3 => (if q3.1 = 0 then (l_M_lasts_3 d x1 (x2 ||| 0) x3 x4 (x5 + 1) q3.2) else (l_M_lasts_3 d x1 (x2 ||| (1 <<< (x4 &&& 31))) x3 x4 (x5 + 1) q3.2)))) else none) else none)))))) else none)) := d_step (t := (59, [some (.ref 40), some (.int x1), some (.int x2), some (.int x3), some (.int x4), some (.int x5)], [(.int 2), (.int x5)], s)) 2 rfl
   (d_if (a := (136, [some (.ref 40), some (.int x1), some (.int x2), some (.int x3), some (.int x4), some (.int x5)], [], s)) (b := (62, [some (.ref 40), some (.int x1), some (.int x2), some (.int x3), some (.int x4), some (.int x5)], [], s)) rfl rfl
   (d_step (t := (27, [some (.ref 40), some (.int x1), some (.int x2), some (.int x3), some (.int (x4 + 1)), some (.int x5)], [], s)) 2 rfl
   (d_lab (x2 := (27, [some (.ref 40), some (.int x1), some (.int x2), some (.int x3), some (.int (x4 + 1)), none], [], s)) rfl rfl rfl))
   (d_step (t := (68, [some (.ref 40), some (.int x1), some (.int x2), some (.int x3), some (.int x4), some (.int x5)], [(.int x3), (.ref 51), (.ref 40)], s)) 4 rfl
   (d_chk (a := (69, [some (.ref 40), some (.int x1), some (.int x2), some (.int x3), some (.int x4), some (.int x5)], [(.int ((s).1 51 (x3).toNatClampNeg)), (.ref 40)], s)) rfl rfl
   (d_callV (o := (m_M_place d ((s).1 51 (x3).toNatClampNeg) s)) rfl rfl (fun q1 =>
   d_step (t := (81, [some (.ref 40), some (.int x1), some (.int x2), some (.int x3), some (.int x4), some (.int x5)], [(.int x5), (.int x4), (.ref 54), (.ref 40)], q1)) 5 rfl
   (d_callI (o := (m_M_canGo d 54 x4 x5 q1)) rfl rfl (fun q2 =>
   d_if (a := (130, [some (.ref 40), some (.int x1), some (.int x2), some (.int x3), some (.int x4), some (.int x5)], [], q2.2)) (b := (87, [some (.ref 40), some (.int x1), some (.int x2), some (.int x3), some (.int x4), some (.int x5)], [], q2.2)) rfl rfl
   (d_step (t := (56, [some (.ref 40), some (.int x1), some (.int x2), some (.int x3), some (.int x4), some (.int (x5 + 1))], [], q2.2)) 2 rfl
   (rfl))
   (d_step (t := (94, [some (.ref 40), some (.int x1), some (.int x2), some (.int x3), some (.int x4), some (.int x5)], [(.int x4), (.ref 54), (.int x4), (.ref 54)], q2.2)) 4 rfl
   (d_chk (a := (95, [some (.ref 40), some (.int x1), some (.int x2), some (.int x3), some (.int x4), some (.int x5)], [(.int ((q2.2).1 54 (x4).toNatClampNeg)), (.int x4), (.ref 54)], q2.2)) rfl rfl
   (d_step (t := (98, [some (.ref 40), some (.int x1), some (.int x2), some (.int x3), some (.int x4), some (.int x5)], [(.int 1), (.int x5), (.int ((q2.2).1 54 (x4).toNatClampNeg)), (.int x4), (.ref 54)], q2.2)) 2 rfl
   (d_mrg (a := (101, [some (.ref 40), some (.int x1), some (.int x2), some (.int x3), some (.int x4), some (.int x5)], [(.int ((q2.2).1 54 (x4).toNatClampNeg)), (.int x4), (.ref 54)], q2.2)) (b := (105, [some (.ref 40), some (.int x1), some (.int x2), some (.int x3), some (.int x4), some (.int x5)], [(.int ((q2.2).1 54 (x4).toNatClampNeg)), (.int x4), (.ref 54)], q2.2)) (v1 := 1) (v2 := (-1)) (z := fun v9 => (106, [some (.ref 40), some (.int x1), some (.int x2), some (.int x3), some (.int x4), some (.int x5)], [(.int v9), (.int ((q2.2).1 54 (x4).toNatClampNeg)), (.int x4), (.ref 54)], q2.2)) 2 1 rfl rfl rfl rfl
   (d_step (t := (107, [some (.ref 40), some (.int x1), some (.int x2), some (.int x3), some (.int x4), some (.int x5)], [(.int (((q2.2).1 54 (x4).toNatClampNeg) + (if x5 = 1 then 1 else (-1) : Int32))), (.int x4), (.ref 54)], q2.2)) 1 rfl
   (d_chk (a := (108, [some (.ref 40), some (.int x1), some (.int x2), some (.int x3), some (.int x4), some (.int x5)], [], (qW q2.2 54 (x4).toNatClampNeg (((q2.2).1 54 (x4).toNatClampNeg) + (if x5 = 1 then 1 else (-1) : Int32))))) rfl rfl
   (d_step (t := (114, [some (.ref 40), some (.int x1), some (.int x2), some (.int x3), some (.int x4), some (.int x5)], [(.ref 54), (.ref 40), (.int x2)], (qW q2.2 54 (x4).toNatClampNeg (((q2.2).1 54 (x4).toNatClampNeg) + (if x5 = 1 then 1 else (-1) : Int32))))) 4 rfl
   (d_callI (o := (m_M_areUp d (qW q2.2 54 (x4).toNatClampNeg (((q2.2).1 54 (x4).toNatClampNeg) + (if x5 = 1 then 1 else (-1) : Int32))))) rfl rfl (fun q3 =>
   d_if (a := (127, [some (.ref 40), some (.int x1), some (.int x2), some (.int x3), some (.int x4), some (.int x5)], [(.int x2)], q3.2)) (b := (120, [some (.ref 40), some (.int x1), some (.int x2), some (.int x3), some (.int x4), some (.int x5)], [(.int x2)], q3.2)) rfl rfl
   (d_step (t := (56, [some (.ref 40), some (.int x1), some (.int (x2 ||| 0)), some (.int x3), some (.int x4), some (.int (x5 + 1))], [], q3.2)) 5 rfl
   (rfl))
   (d_step (t := (56, [some (.ref 40), some (.int x1), some (.int (x2 ||| (1 <<< (x4 &&& 31)))), some (.int x3), some (.int x4), some (.int (x5 + 1))], [], q3.2)) 8 rfl
   (rfl))))))))))))))))))
noncomputable def m_M_most (d : Nat) (w : Int32) (s : qMem) : Option (Int32 × qMem) := qI (qCall qMT d 149 [.ref 40, .int w] s)
noncomputable def l_M_most_1 (d : Nat)  (x1 : Int32) (x2 : Int32) (x3 : Int32) (x4 : Int32) (s : qMem) : Option (Int32 × qMem) := qI (qK qMT d 149 (23, [some (.ref 40), some (.int x1), some (.int x2), some (.int x3), some (.int x4), none, none], [], s))
noncomputable def l_M_most_2 (d : Nat)  (x1 : Int32) (x2 : Int32) (x3 : Int32) (x4 : Int32) (x5 : Int32) (x6 : Int32) (s : qMem) : Option (Int32 × qMem) := qI (qK qMT d 149 (49, [some (.ref 40), some (.int x1), some (.int x2), some (.int x3), some (.int x4), some (.int x5), some (.int x6)], [], s))
set_option maxRecDepth 20000 in
theorem e_M_most (d : Nat) (w : Int32) (s : qMem) : m_M_most (d + 1) w s = ((m_M_in d w 0 1 s).bind (fun q1 => (if q1.1 = 0 then some ((-3), q1.2) else ((m_M_layLine d q1.2).bind (fun q2 => (l_M_most_1 d w 0 (-1) 0 q2)))))) := d_step (t := (3, [some (.ref 40), some (.int w), none, none, none, none, none], [(.int 1), (.int 0), (.int w)], s)) 3 rfl
   (d_callI (o := (m_M_in d w 0 1 s)) rfl rfl (fun q1 =>
   d_if (a := (9, [some (.ref 40), some (.int w), none, none, none, none, none], [], q1.2)) (b := (12, [some (.ref 40), some (.int w), none, none, none, none, none], [], q1.2)) rfl rfl
   (d_step (t := (11, [some (.ref 40), some (.int w), none, none, none, none, none], [(.int (-3))], q1.2)) 1 rfl
   (d_ret (k := 0) rfl rfl))
   (d_step (t := (13, [some (.ref 40), some (.int w), none, none, none, none, none], [(.ref 40)], q1.2)) 1 rfl
   (d_callV (o := (m_M_layLine d q1.2)) rfl rfl (fun q2 =>
   d_step (t := (23, [some (.ref 40), some (.int w), some (.int 0), some (.int (-1)), some (.int 0), none, none], [], q2)) 6 rfl
   (d_lab (x2 := (23, [some (.ref 40), some (.int w), some (.int 0), some (.int (-1)), some (.int 0), none, none], [], q2)) rfl rfl rfl))))))
set_option maxRecDepth 20000 in
theorem el_M_most_1 (d : Nat)  (x1 : Int32) (x2 : Int32) (x3 : Int32) (x4 : Int32) (s : qMem) : l_M_most_1 d x1 x2 x3 x4 s = (if ((s).1 40 28) ≤ x4 then some ((if x1 = 0 then x3 else x2 : Int32), s) else (if qIn x4 3125 then ((m_M_place d ((s).1 51 (x4).toNatClampNeg) s).bind (fun q1 => (l_M_most_2 d x1 x2 x3 x4 0 0 q1))) else none)) := d_step (t := (29, [some (.ref 40), some (.int x1), some (.int x2), some (.int x3), some (.int x4), none, none], [(.int ((s).1 40 28)), (.int x4)], s)) 3 rfl
   (d_if (a := (145, [some (.ref 40), some (.int x1), some (.int x2), some (.int x3), some (.int x4), none, none], [], s)) (b := (32, [some (.ref 40), some (.int x1), some (.int x2), some (.int x3), some (.int x4), none, none], [], s)) rfl rfl
   (d_step (t := (146, [some (.ref 40), some (.int x1), some (.int x2), some (.int x3), some (.int x4), none, none], [(.int x1)], s)) 1 rfl
   (d_mrg (a := (149, [some (.ref 40), some (.int x1), some (.int x2), some (.int x3), some (.int x4), none, none], [], s)) (b := (153, [some (.ref 40), some (.int x1), some (.int x2), some (.int x3), some (.int x4), none, none], [], s)) (v1 := x3) (v2 := x2) (z := fun v9 => (154, [some (.ref 40), some (.int x1), some (.int x2), some (.int x3), some (.int x4), none, none], [(.int v9)], s)) 2 1 rfl rfl rfl rfl
   (d_ret (k := 0) rfl rfl)))
   (d_step (t := (39, [some (.ref 40), some (.int x1), some (.int x2), some (.int x3), some (.int x4), none, none], [(.int x4), (.ref 51), (.ref 40)], s)) 4 rfl
   (d_chk (a := (40, [some (.ref 40), some (.int x1), some (.int x2), some (.int x3), some (.int x4), none, none], [(.int ((s).1 51 (x4).toNatClampNeg)), (.ref 40)], s)) rfl rfl
   (d_callV (o := (m_M_place d ((s).1 51 (x4).toNatClampNeg) s)) rfl rfl (fun q1 =>
   d_step (t := (49, [some (.ref 40), some (.int x1), some (.int x2), some (.int x3), some (.int x4), some (.int 0), some (.int 0)], [], q1)) 4 rfl
   (rfl))))))
set_option maxRecDepth 20000 in
theorem el_M_most_2 (d : Nat)  (x1 : Int32) (x2 : Int32) (x3 : Int32) (x4 : Int32) (x5 : Int32) (x6 : Int32) (s : qMem) : l_M_most_2 d x1 x2 x3 x4 x5 x6 s = (if ((s).1 40 3) ≤ x6 then ((m_M_bits d x5 s).bind (fun q1 => (if x3 < q1.1 then ((m_M_bits d x5 q1.2).bind (fun q2 => (l_M_most_1 d x1 x5 q2.1 (x4 + 1) q2.2))) else ((m_M_bits d x5 q1.2).bind (fun q3 => (if q3.1 = x3 then ((m_M_bits d (if (if x2 ≤ x5 then 0 else 1 : Int32) = 0 then x2 else x5 : Int32) q3.2).bind (fun q4 => (l_M_most_1 d x1 (if (if x2 ≤ x5 then 0 else 1 : Int32) = 0 then x2 else x5 : Int32) q4.1 (x4 + 1) q4.2))) else ((m_M_bits d x2 q3.2).bind (fun q5 => (l_M_most_1 d x1 x2 q5.1 (x4 + 1) q5.2))))))))) else (if qIn x6 5 then (if ((s).1 54 (x6).toNatClampNeg) = ((s).1 40 0) then (l_M_most_2 d x1 x2 x3 x4 (x5 ||| (1 <<< (x6 &&& 31))) (x6 + 1) s) else (l_M_most_2 d x1 x2 x3 x4 (x5 ||| 0) (x6 + 1) s)) else none)) := d_step (t := (55, [some (.ref 40), some (.int x1), some (.int x2), some (.int x3), some (.int x4), some (.int x5), some (.int x6)], [(.int ((s).1 40 3)), (.int x6)], s)) 3 rfl
   (d_if (a := (91, [some (.ref 40), some (.int x1), some (.int x2), some (.int x3), some (.int x4), some (.int x5), some (.int x6)], [], s)) (b := (58, [some (.ref 40), some (.int x1), some (.int x2), some (.int x3), some (.int x4), some (.int x5), some (.int x6)], [], s)) rfl rfl
   (d_step (t := (93, [some (.ref 40), some (.int x1), some (.int x2), some (.int x3), some (.int x4), some (.int x5), some (.int x6)], [(.int x5)], s)) 1 rfl
   (d_callI (o := (m_M_bits d x5 s)) rfl rfl (fun q1 =>
   d_step (t := (97, [some (.ref 40), some (.int x1), some (.int x2), some (.int x3), some (.int x4), some (.int x5), some (.int x6)], [(.int x3), (.int q1.1)], q1.2)) 1 rfl
   (d_if (a := (115, [some (.ref 40), some (.int x1), some (.int x2), some (.int x3), some (.int x4), some (.int x5), some (.int x6)], [], q1.2)) (b := (100, [some (.ref 40), some (.int x1), some (.int x2), some (.int x3), some (.int x4), some (.int x5), some (.int x6)], [], q1.2)) rfl rfl
   (d_step (t := (135, [some (.ref 40), some (.int x1), some (.int x5), some (.int x3), some (.int x4), some (.int x5), some (.int 1)], [(.int x5)], q1.2)) 9 rfl
   (d_callI (o := (m_M_bits d x5 q1.2)) rfl rfl (fun q2 =>
   d_step (t := (23, [some (.ref 40), some (.int x1), some (.int x5), some (.int q2.1), some (.int (x4 + 1)), some (.int x5), some (.int 1)], [], q2.2)) 3 rfl
   (d_lab (x2 := (23, [some (.ref 40), some (.int x1), some (.int x5), some (.int q2.1), some (.int (x4 + 1)), none, none], [], q2.2)) rfl rfl rfl))))
   (d_step (t := (102, [some (.ref 40), some (.int x1), some (.int x2), some (.int x3), some (.int x4), some (.int x5), some (.int x6)], [(.int x5)], q1.2)) 1 rfl
   (d_callI (o := (m_M_bits d x5 q1.2)) rfl rfl (fun q3 =>
   d_step (t := (106, [some (.ref 40), some (.int x1), some (.int x2), some (.int x3), some (.int x4), some (.int x5), some (.int x6)], [(.int x3), (.int q3.1)], q3.2)) 1 rfl
   (d_if (a := (109, [some (.ref 40), some (.int x1), some (.int x2), some (.int x3), some (.int x4), some (.int x5), some (.int x6)], [], q3.2)) (b := (119, [some (.ref 40), some (.int x1), some (.int x2), some (.int x3), some (.int x4), some (.int x5), some (.int x6)], [], q3.2)) rfl rfl
   (d_step (t := (112, [some (.ref 40), some (.int x1), some (.int x2), some (.int x3), some (.int x4), some (.int x5), some (.int x6)], [(.int x2), (.int x5)], q3.2)) 2 rfl
   (d_mrg (a := (119, [some (.ref 40), some (.int x1), some (.int x2), some (.int x3), some (.int x4), some (.int x5), some (.int x6)], [], q3.2)) (b := (115, [some (.ref 40), some (.int x1), some (.int x2), some (.int x3), some (.int x4), some (.int x5), some (.int x6)], [], q3.2)) (v1 := 0) (v2 := 1) (z := fun v9 => (120, [some (.ref 40), some (.int x1), some (.int x2), some (.int x3), some (.int x4), some (.int x5), some (.int x6)], [(.int v9)], q3.2)) 1 2 rfl rfl rfl rfl
   (d_step (t := (124, [some (.ref 40), some (.int x1), some (.int x2), some (.int x3), some (.int x4), some (.int x5), some (.int (if x2 ≤ x5 then 0 else 1 : Int32))], [(.int (if x2 ≤ x5 then 0 else 1 : Int32))], q3.2)) 2 rfl
   (d_mrg (a := (132, [some (.ref 40), some (.int x1), some (.int x2), some (.int x3), some (.int x4), some (.int x5), some (.int (if x2 ≤ x5 then 0 else 1 : Int32))], [], q3.2)) (b := (127, [some (.ref 40), some (.int x1), some (.int x2), some (.int x3), some (.int x4), some (.int x5), some (.int (if x2 ≤ x5 then 0 else 1 : Int32))], [], q3.2)) (v1 := x2) (v2 := x5) (z := fun v9 => (133, [some (.ref 40), some (.int x1), some (.int x2), some (.int x3), some (.int x4), some (.int x5), some (.int (if x2 ≤ x5 then 0 else 1 : Int32))], [(.int v9)], q3.2)) 1 2 rfl rfl rfl rfl
   (d_step (t := (135, [some (.ref 40), some (.int x1), some (.int (if (if x2 ≤ x5 then 0 else 1 : Int32) = 0 then x2 else x5 : Int32)), some (.int x3), some (.int x4), some (.int x5), some (.int (if x2 ≤ x5 then 0 else 1 : Int32))], [(.int (if (if x2 ≤ x5 then 0 else 1 : Int32) = 0 then x2 else x5 : Int32))], q3.2)) 2 rfl
   (d_callI (o := (m_M_bits d (if (if x2 ≤ x5 then 0 else 1 : Int32) = 0 then x2 else x5 : Int32) q3.2)) rfl rfl (fun q4 =>
   d_step (t := (23, [some (.ref 40), some (.int x1), some (.int (if (if x2 ≤ x5 then 0 else 1 : Int32) = 0 then x2 else x5 : Int32)), some (.int q4.1), some (.int (x4 + 1)), some (.int x5), some (.int (if x2 ≤ x5 then 0 else 1 : Int32))], [], q4.2)) 3 rfl
   (d_lab (x2 := (23, [some (.ref 40), some (.int x1), some (.int (if (if x2 ≤ x5 then 0 else 1 : Int32) = 0 then x2 else x5 : Int32)), some (.int q4.1), some (.int (x4 + 1)), none, none], [], q4.2)) rfl rfl rfl))))))))
   (d_step (t := (135, [some (.ref 40), some (.int x1), some (.int x2), some (.int x3), some (.int x4), some (.int x5), some (.int 0)], [(.int x2)], q3.2)) 7 rfl
   (d_callI (o := (m_M_bits d x2 q3.2)) rfl rfl (fun q5 =>
   d_step (t := (23, [some (.ref 40), some (.int x1), some (.int x2), some (.int q5.1), some (.int (x4 + 1)), some (.int x5), some (.int 0)], [], q5.2)) 3 rfl
   (d_lab (x2 := (23, [some (.ref 40), some (.int x1), some (.int x2), some (.int q5.1), some (.int (x4 + 1)), none, none], [], q5.2)) rfl rfl rfl))))))))))))
   (d_step (t := (66, [some (.ref 40), some (.int x1), some (.int x2), some (.int x3), some (.int x4), some (.int x5), some (.int x6)], [(.int x6), (.ref 54), (.int x5)], s)) 4 rfl
   (d_chk (a := (67, [some (.ref 40), some (.int x1), some (.int x2), some (.int x3), some (.int x4), some (.int x5), some (.int x6)], [(.int ((s).1 54 (x6).toNatClampNeg)), (.int x5)], s)) rfl rfl
   (d_step (t := (71, [some (.ref 40), some (.int x1), some (.int x2), some (.int x3), some (.int x4), some (.int x5), some (.int x6)], [(.int ((s).1 40 0)), (.int ((s).1 54 (x6).toNatClampNeg)), (.int x5)], s)) 2 rfl
   (d_if (a := (74, [some (.ref 40), some (.int x1), some (.int x2), some (.int x3), some (.int x4), some (.int x5), some (.int x6)], [(.int x5)], s)) (b := (81, [some (.ref 40), some (.int x1), some (.int x2), some (.int x3), some (.int x4), some (.int x5), some (.int x6)], [(.int x5)], s)) rfl rfl
   (d_step (t := (49, [some (.ref 40), some (.int x1), some (.int x2), some (.int x3), some (.int x4), some (.int (x5 ||| (1 <<< (x6 &&& 31)))), some (.int (x6 + 1))], [], s)) 8 rfl
   (rfl))
   (d_step (t := (49, [some (.ref 40), some (.int x1), some (.int x2), some (.int x3), some (.int x4), some (.int (x5 ||| 0)), some (.int (x6 + 1))], [], s)) 5 rfl
   (rfl)))))))
noncomputable def m_M_soon (d : Nat) (p : Int32) (s : qMem) : Option (Int32 × qMem) := qI (qCall qMT d 150 [.ref 40, .int p] s)
noncomputable def l_M_soon_1 (d : Nat)  (x1 : Int32) (x2 : Int32) (s : qMem) : Option (Int32 × qMem) := qI (qK qMT d 150 (17, [some (.ref 40), some (.int x1), some (.int x2)], [], s))
set_option maxRecDepth 20000 in
theorem e_M_soon (d : Nat) (p : Int32) (s : qMem) : m_M_soon (d + 1) p s = ((m_M_isOne d p s).bind (fun q1 => (if q1.1 = 0 then some ((-2), q1.2) else ((m_M_layLine d q1.2).bind (fun q2 => (l_M_soon_1 d p 0 q2)))))) := d_step (t := (2, [some (.ref 40), some (.int p), none], [(.int p), (.ref 40)], s)) 2 rfl
   (d_callI (o := (m_M_isOne d p s)) rfl rfl (fun q1 =>
   d_if (a := (8, [some (.ref 40), some (.int p), none], [], q1.2)) (b := (11, [some (.ref 40), some (.int p), none], [], q1.2)) rfl rfl
   (d_step (t := (10, [some (.ref 40), some (.int p), none], [(.int (-2))], q1.2)) 1 rfl
   (d_ret (k := 0) rfl rfl))
   (d_step (t := (12, [some (.ref 40), some (.int p), none], [(.ref 40)], q1.2)) 1 rfl
   (d_callV (o := (m_M_layLine d q1.2)) rfl rfl (fun q2 =>
   d_step (t := (17, [some (.ref 40), some (.int p), some (.int 0)], [], q2)) 2 rfl
   (rfl))))))
set_option maxRecDepth 20000 in
theorem el_M_soon_1 (d : Nat)  (x1 : Int32) (x2 : Int32) (s : qMem) : l_M_soon_1 d x1 x2 s = (if ((s).1 40 28) ≤ x2 then some ((-1), s) else (if qIn x2 3125 then ((m_M_place d ((s).1 51 (x2).toNatClampNeg) s).bind (fun q1 => (if qIn x1 5 then (if ((q1).1 54 (x1).toNatClampNeg) = ((q1).1 40 0) then (if qIn x2 3125 then (if qIn ((q1).1 51 (x2).toNatClampNeg) 3125 then some (((q1).1 50 (((q1).1 51 (x2).toNatClampNeg)).toNatClampNeg), q1) else none) else none) else (l_M_soon_1 d x1 (x2 + 1) q1)) else none))) else none)) := d_step (t := (22, [some (.ref 40), some (.int x1), some (.int x2)], [(.int ((s).1 40 28)), (.int x2)], s)) 3 rfl
   (d_if (a := (66, [some (.ref 40), some (.int x1), some (.int x2)], [], s)) (b := (25, [some (.ref 40), some (.int x1), some (.int x2)], [], s)) rfl rfl
   (d_step (t := (67, [some (.ref 40), some (.int x1), some (.int x2)], [(.int (-1))], s)) 1 rfl
   (d_ret (k := 0) rfl rfl))
   (d_step (t := (31, [some (.ref 40), some (.int x1), some (.int x2)], [(.int x2), (.ref 51), (.ref 40)], s)) 4 rfl
   (d_chk (a := (32, [some (.ref 40), some (.int x1), some (.int x2)], [(.int ((s).1 51 (x2).toNatClampNeg)), (.ref 40)], s)) rfl rfl
   (d_callV (o := (m_M_place d ((s).1 51 (x2).toNatClampNeg) s)) rfl rfl (fun q1 =>
   d_step (t := (40, [some (.ref 40), some (.int x1), some (.int x2)], [(.int x1), (.ref 54)], q1)) 3 rfl
   (d_chk (a := (41, [some (.ref 40), some (.int x1), some (.int x2)], [(.int ((q1).1 54 (x1).toNatClampNeg))], q1)) rfl rfl
   (d_step (t := (45, [some (.ref 40), some (.int x1), some (.int x2)], [(.int ((q1).1 40 0)), (.int ((q1).1 54 (x1).toNatClampNeg))], q1)) 2 rfl
   (d_if (a := (48, [some (.ref 40), some (.int x1), some (.int x2)], [], q1)) (b := (60, [some (.ref 40), some (.int x1), some (.int x2)], [], q1)) rfl rfl
   (d_step (t := (57, [some (.ref 40), some (.int x1), some (.int x2)], [(.int x2), (.ref 51), (.ref 50)], q1)) 5 rfl
   (d_chk (a := (58, [some (.ref 40), some (.int x1), some (.int x2)], [(.int ((q1).1 51 (x2).toNatClampNeg)), (.ref 50)], q1)) rfl rfl
   (d_chk (a := (59, [some (.ref 40), some (.int x1), some (.int x2)], [(.int ((q1).1 50 (((q1).1 51 (x2).toNatClampNeg)).toNatClampNeg))], q1)) rfl rfl
   (d_ret (k := 0) rfl rfl))))
   (d_step (t := (17, [some (.ref 40), some (.int x1), some (.int (x2 + 1))], [], q1)) 2 rfl
   (rfl))))))))))
noncomputable def m_M_many (d : Nat) (n : Int32) (s : qMem) : Option (Int32 × qMem) := qI (qCall qMT d 151 [.ref 40, .int n] s)
noncomputable def l_M_many_1 (d : Nat)  (x1 : Int32) (x2 : Int32) (x3 : Int32) (s : qMem) : Option (Int32 × qMem) := qI (qK qMT d 151 (15, [some (.ref 40), some (.int x1), some (.int x2), some (.int x3)], [], s))
set_option maxRecDepth 20000 in
theorem e_M_many (d : Nat) (n : Int32) (s : qMem) : m_M_many (d + 1) n s = (if 0 ≤ n then ((m_M_layLine d s).bind (fun q1 => (l_M_many_1 d n 0 0 q1))) else some ((-3), s)) := d_step (t := (1, [some (.ref 40), some (.int n), none, none], [(.int n)], s)) 1 rfl
   (d_if (a := (7, [some (.ref 40), some (.int n), none, none], [], s)) (b := (4, [some (.ref 40), some (.int n), none, none], [], s)) rfl rfl
   (d_step (t := (8, [some (.ref 40), some (.int n), none, none], [(.ref 40)], s)) 1 rfl
   (d_callV (o := (m_M_layLine d s)) rfl rfl (fun q1 =>
   d_step (t := (15, [some (.ref 40), some (.int n), some (.int 0), some (.int 0)], [], q1)) 4 rfl
   (rfl))))
   (d_step (t := (6, [some (.ref 40), some (.int n), none, none], [(.int (-3))], s)) 1 rfl
   (d_ret (k := 0) rfl rfl)))
set_option maxRecDepth 20000 in
theorem el_M_many_1 (d : Nat)  (x1 : Int32) (x2 : Int32) (x3 : Int32) (s : qMem) : l_M_many_1 d x1 x2 x3 s = (if ((s).1 40 28) ≤ x3 then some (x2, s) else (if qIn x3 3125 then (if qIn ((s).1 51 (x3).toNatClampNeg) 3125 then (l_M_many_1 d x1 (x2 + (if ((s).1 50 (((s).1 51 (x3).toNatClampNeg)).toNatClampNeg) = x1 then 1 else 0 : Int32)) (x3 + 1) s) else none) else none)) := d_step (t := (20, [some (.ref 40), some (.int x1), some (.int x2), some (.int x3)], [(.int ((s).1 40 28)), (.int x3)], s)) 3 rfl
   (d_if (a := (52, [some (.ref 40), some (.int x1), some (.int x2), some (.int x3)], [], s)) (b := (23, [some (.ref 40), some (.int x1), some (.int x2), some (.int x3)], [], s)) rfl rfl
   (d_step (t := (53, [some (.ref 40), some (.int x1), some (.int x2), some (.int x3)], [(.int x2)], s)) 1 rfl
   (d_ret (k := 0) rfl rfl))
   (d_step (t := (33, [some (.ref 40), some (.int x1), some (.int x2), some (.int x3)], [(.int x3), (.ref 51), (.ref 50), (.int x2)], s)) 6 rfl
   (d_chk (a := (34, [some (.ref 40), some (.int x1), some (.int x2), some (.int x3)], [(.int ((s).1 51 (x3).toNatClampNeg)), (.ref 50), (.int x2)], s)) rfl rfl
   (d_chk (a := (35, [some (.ref 40), some (.int x1), some (.int x2), some (.int x3)], [(.int ((s).1 50 (((s).1 51 (x3).toNatClampNeg)).toNatClampNeg)), (.int x2)], s)) rfl rfl
   (d_step (t := (36, [some (.ref 40), some (.int x1), some (.int x2), some (.int x3)], [(.int x1), (.int ((s).1 50 (((s).1 51 (x3).toNatClampNeg)).toNatClampNeg)), (.int x2)], s)) 1 rfl
   (d_mrg (a := (39, [some (.ref 40), some (.int x1), some (.int x2), some (.int x3)], [(.int x2)], s)) (b := (43, [some (.ref 40), some (.int x1), some (.int x2), some (.int x3)], [(.int x2)], s)) (v1 := 1) (v2 := 0) (z := fun v9 => (44, [some (.ref 40), some (.int x1), some (.int x2), some (.int x3)], [(.int v9), (.int x2)], s)) 2 1 rfl rfl rfl rfl
   (d_step (t := (15, [some (.ref 40), some (.int x1), some (.int (x2 + (if ((s).1 50 (((s).1 51 (x3).toNatClampNeg)).toNatClampNeg) = x1 then 1 else 0 : Int32))), some (.int (x3 + 1))], [], s)) 4 rfl
   (rfl))))))))
noncomputable def m_M_roped (d : Nat) (w : Int32) (s : qMem) : Option (Int32 × qMem) := qI (qCall qMT d 152 [.ref 40, .int w] s)
noncomputable def l_M_roped_1 (d : Nat)  (x1 : Int32) (x2 : Int32) (x3 : Int32) (x4 : Int32) (x5 : Int32) (s : qMem) : Option (Int32 × qMem) := qI (qK qMT d 152 (28, [some (.ref 40), some (.int x1), some (.int x2), some (.int x3), some (.int x4), some (.int x5), none, none], [], s))
set_option maxRecDepth 20000 in
theorem e_M_roped (d : Nat) (w : Int32) (s : qMem) : m_M_roped (d + 1) w s = ((m_M_in d w 0 1 s).bind (fun q1 => (if q1.1 = 0 then some ((-3), q1.2) else ((m_M_soonestOf d q1.2).bind (fun q2 => (l_M_roped_1 d w q2.1 (-1) ((q2.2).1 40 2) 0 q2.2)))))) := d_step (t := (3, [some (.ref 40), some (.int w), none, none, none, none, none, none], [(.int 1), (.int 0), (.int w)], s)) 3 rfl
   (d_callI (o := (m_M_in d w 0 1 s)) rfl rfl (fun q1 =>
   d_if (a := (9, [some (.ref 40), some (.int w), none, none, none, none, none, none], [], q1.2)) (b := (12, [some (.ref 40), some (.int w), none, none, none, none, none, none], [], q1.2)) rfl rfl
   (d_step (t := (11, [some (.ref 40), some (.int w), none, none, none, none, none, none], [(.int (-3))], q1.2)) 1 rfl
   (d_ret (k := 0) rfl rfl))
   (d_step (t := (13, [some (.ref 40), some (.int w), none, none, none, none, none, none], [(.ref 40)], q1.2)) 1 rfl
   (d_callI (o := (m_M_soonestOf d q1.2)) rfl rfl (fun q2 =>
   d_step (t := (28, [some (.ref 40), some (.int w), some (.int q2.1), some (.int (-1)), some (.int ((q2.2).1 40 2)), some (.int 0), none, none], [], q2.2)) 8 rfl
   (d_lab (x2 := (28, [some (.ref 40), some (.int w), some (.int q2.1), some (.int (-1)), some (.int ((q2.2).1 40 2)), some (.int 0), none, none], [], q2.2)) rfl rfl rfl))))))
set_option maxRecDepth 20000 in
theorem el_M_roped_1 (d : Nat)  (x1 : Int32) (x2 : Int32) (x3 : Int32) (x4 : Int32) (x5 : Int32) (s : qMem) : l_M_roped_1 d x1 x2 x3 x4 x5 s = (if ((s).1 40 0) ≤ x5 then (if x3 = (-1) then some (x3, (qW s 40 2 x4)) else some ((if x1 = 0 then x3 else x2 : Int32), (qW s 40 2 x4))) else ((m_M_has d x4 x5 s).bind (fun q1 => (if q1.1 = 0 then ((m_M_soonestOf d (qW q1.2 40 2 (x4 ||| (1 <<< (x5 &&& 31))))).bind (fun q2 => (if q2.1 = (-1) then (l_M_roped_1 d x1 x2 x3 x4 (x5 + 1) q2.2) else (if x2 = (-1) then (l_M_roped_1 d x1 q2.1 x5 x4 (x5 + 1) q2.2) else (l_M_roped_1 d x1 (if (if x2 ≤ q2.1 then 0 else 1 : Int32) = 0 then x2 else q2.1 : Int32) (if (if x2 ≤ q2.1 then 0 else 1 : Int32) = 0 then x3 else x5 : Int32) x4 (x5 + 1) q2.2))))) else (l_M_roped_1 d x1 x2 x3 x4 (x5 + 1) q1.2))))) := d_step (t := (34, [some (.ref 40), some (.int x1), some (.int x2), some (.int x3), some (.int x4), some (.int x5), none, none], [(.int ((s).1 40 0)), (.int x5)], s)) 3 rfl
   (d_if (a := (118, [some (.ref 40), some (.int x1), some (.int x2), some (.int x3), some (.int x4), some (.int x5), none, none], [], s)) (b := (37, [some (.ref 40), some (.int x1), some (.int x2), some (.int x3), some (.int x4), some (.int x5), none, none], [], s)) rfl rfl
   (d_step (t := (126, [some (.ref 40), some (.int x1), some (.int x2), some (.int x3), some (.int x4), some (.int x5), none, none], [(.int (-1)), (.int x3)], (qW s 40 2 x4))) 5 rfl
   (d_if (a := (133, [some (.ref 40), some (.int x1), some (.int x2), some (.int x3), some (.int x4), some (.int x5), none, none], [], (qW s 40 2 x4))) (b := (129, [some (.ref 40), some (.int x1), some (.int x2), some (.int x3), some (.int x4), some (.int x5), none, none], [], (qW s 40 2 x4))) rfl rfl
   (d_step (t := (138, [some (.ref 40), some (.int x1), some (.int x2), some (.int x3), some (.int x4), some (.int x5), none, none], [(.int x3)], (qW s 40 2 x4))) 2 rfl
   (d_ret (k := 0) rfl rfl))
   (d_step (t := (130, [some (.ref 40), some (.int x1), some (.int x2), some (.int x3), some (.int x4), some (.int x5), none, none], [(.int x1)], (qW s 40 2 x4))) 1 rfl
   (d_mrg (a := (133, [some (.ref 40), some (.int x1), some (.int x2), some (.int x3), some (.int x4), some (.int x5), none, none], [], (qW s 40 2 x4))) (b := (137, [some (.ref 40), some (.int x1), some (.int x2), some (.int x3), some (.int x4), some (.int x5), none, none], [], (qW s 40 2 x4))) (v1 := x3) (v2 := x2) (z := fun v9 => (138, [some (.ref 40), some (.int x1), some (.int x2), some (.int x3), some (.int x4), some (.int x5), none, none], [(.int v9)], (qW s 40 2 x4))) 2 1 rfl rfl rfl rfl
   (d_ret (k := 0) rfl rfl)))))
   (d_step (t := (41, [some (.ref 40), some (.int x1), some (.int x2), some (.int x3), some (.int x4), some (.int x5), none, none], [(.int x5), (.int x4)], s)) 2 rfl
   (d_callI (o := (m_M_has d x4 x5 s)) rfl rfl (fun q1 =>
   d_if (a := (47, [some (.ref 40), some (.int x1), some (.int x2), some (.int x3), some (.int x4), some (.int x5), none, none], [], q1.2)) (b := (112, [some (.ref 40), some (.int x1), some (.int x2), some (.int x3), some (.int x4), some (.int x5), none, none], [], q1.2)) rfl rfl
   (d_step (t := (59, [some (.ref 40), some (.int x1), some (.int x2), some (.int x3), some (.int x4), some (.int x5), none, none], [(.ref 40)], (qW q1.2 40 2 (x4 ||| (1 <<< (x5 &&& 31)))))) 8 rfl
   (d_callI (o := (m_M_soonestOf d (qW q1.2 40 2 (x4 ||| (1 <<< (x5 &&& 31)))))) rfl rfl (fun q2 =>
   d_step (t := (67, [some (.ref 40), some (.int x1), some (.int x2), some (.int x3), some (.int x4), some (.int x5), some (.int q2.1), none], [(.int (-1)), (.int q2.1)], q2.2)) 3 rfl
   (d_if (a := (85, [some (.ref 40), some (.int x1), some (.int x2), some (.int x3), some (.int x4), some (.int x5), some (.int q2.1), none], [], q2.2)) (b := (70, [some (.ref 40), some (.int x1), some (.int x2), some (.int x3), some (.int x4), some (.int x5), some (.int q2.1), none], [], q2.2)) rfl rfl
   (d_step (t := (28, [some (.ref 40), some (.int x1), some (.int x2), some (.int x3), some (.int x4), some (.int (x5 + 1)), some (.int q2.1), some (.int 0)], [], q2.2)) 12 rfl
   (d_lab (x2 := (28, [some (.ref 40), some (.int x1), some (.int x2), some (.int x3), some (.int x4), some (.int (x5 + 1)), none, none], [], q2.2)) rfl rfl rfl))
   (d_step (t := (72, [some (.ref 40), some (.int x1), some (.int x2), some (.int x3), some (.int x4), some (.int x5), some (.int q2.1), none], [(.int (-1)), (.int x2)], q2.2)) 2 rfl
   (d_if (a := (81, [some (.ref 40), some (.int x1), some (.int x2), some (.int x3), some (.int x4), some (.int x5), some (.int q2.1), none], [], q2.2)) (b := (75, [some (.ref 40), some (.int x1), some (.int x2), some (.int x3), some (.int x4), some (.int x5), some (.int q2.1), none], [], q2.2)) rfl rfl
   (d_step (t := (28, [some (.ref 40), some (.int x1), some (.int q2.1), some (.int x5), some (.int x4), some (.int (x5 + 1)), some (.int q2.1), some (.int 1)], [], q2.2)) 15 rfl
   (d_lab (x2 := (28, [some (.ref 40), some (.int x1), some (.int q2.1), some (.int x5), some (.int x4), some (.int (x5 + 1)), none, none], [], q2.2)) rfl rfl rfl))
   (d_step (t := (78, [some (.ref 40), some (.int x1), some (.int x2), some (.int x3), some (.int x4), some (.int x5), some (.int q2.1), none], [(.int x2), (.int q2.1)], q2.2)) 2 rfl
   (d_mrg (a := (85, [some (.ref 40), some (.int x1), some (.int x2), some (.int x3), some (.int x4), some (.int x5), some (.int q2.1), none], [], q2.2)) (b := (81, [some (.ref 40), some (.int x1), some (.int x2), some (.int x3), some (.int x4), some (.int x5), some (.int q2.1), none], [], q2.2)) (v1 := 0) (v2 := 1) (z := fun v9 => (86, [some (.ref 40), some (.int x1), some (.int x2), some (.int x3), some (.int x4), some (.int x5), some (.int q2.1), none], [(.int v9)], q2.2)) 1 2 rfl rfl rfl rfl
   (d_step (t := (90, [some (.ref 40), some (.int x1), some (.int x2), some (.int x3), some (.int x4), some (.int x5), some (.int q2.1), some (.int (if x2 ≤ q2.1 then 0 else 1 : Int32))], [(.int (if x2 ≤ q2.1 then 0 else 1 : Int32))], q2.2)) 2 rfl
   (d_mrg (a := (98, [some (.ref 40), some (.int x1), some (.int x2), some (.int x3), some (.int x4), some (.int x5), some (.int q2.1), some (.int (if x2 ≤ q2.1 then 0 else 1 : Int32))], [], q2.2)) (b := (93, [some (.ref 40), some (.int x1), some (.int x2), some (.int x3), some (.int x4), some (.int x5), some (.int q2.1), some (.int (if x2 ≤ q2.1 then 0 else 1 : Int32))], [], q2.2)) (v1 := x3) (v2 := x5) (z := fun v9 => (99, [some (.ref 40), some (.int x1), some (.int x2), some (.int x3), some (.int x4), some (.int x5), some (.int q2.1), some (.int (if x2 ≤ q2.1 then 0 else 1 : Int32))], [(.int v9)], q2.2)) 1 2 rfl rfl rfl rfl
   (d_step (t := (102, [some (.ref 40), some (.int x1), some (.int x2), some (.int (if (if x2 ≤ q2.1 then 0 else 1 : Int32) = 0 then x3 else x5 : Int32)), some (.int x4), some (.int x5), some (.int q2.1), some (.int (if x2 ≤ q2.1 then 0 else 1 : Int32))], [(.int (if x2 ≤ q2.1 then 0 else 1 : Int32))], q2.2)) 2 rfl
   (d_mrg (a := (110, [some (.ref 40), some (.int x1), some (.int x2), some (.int (if (if x2 ≤ q2.1 then 0 else 1 : Int32) = 0 then x3 else x5 : Int32)), some (.int x4), some (.int x5), some (.int q2.1), some (.int (if x2 ≤ q2.1 then 0 else 1 : Int32))], [], q2.2)) (b := (105, [some (.ref 40), some (.int x1), some (.int x2), some (.int (if (if x2 ≤ q2.1 then 0 else 1 : Int32) = 0 then x3 else x5 : Int32)), some (.int x4), some (.int x5), some (.int q2.1), some (.int (if x2 ≤ q2.1 then 0 else 1 : Int32))], [], q2.2)) (v1 := x2) (v2 := q2.1) (z := fun v9 => (111, [some (.ref 40), some (.int x1), some (.int x2), some (.int (if (if x2 ≤ q2.1 then 0 else 1 : Int32) = 0 then x3 else x5 : Int32)), some (.int x4), some (.int x5), some (.int q2.1), some (.int (if x2 ≤ q2.1 then 0 else 1 : Int32))], [(.int v9)], q2.2)) 1 2 rfl rfl rfl rfl
   (d_step (t := (28, [some (.ref 40), some (.int x1), some (.int (if (if x2 ≤ q2.1 then 0 else 1 : Int32) = 0 then x2 else q2.1 : Int32)), some (.int (if (if x2 ≤ q2.1 then 0 else 1 : Int32) = 0 then x3 else x5 : Int32)), some (.int x4), some (.int (x5 + 1)), some (.int q2.1), some (.int (if x2 ≤ q2.1 then 0 else 1 : Int32))], [], q2.2)) 3 rfl
   (d_lab (x2 := (28, [some (.ref 40), some (.int x1), some (.int (if (if x2 ≤ q2.1 then 0 else 1 : Int32) = 0 then x2 else q2.1 : Int32)), some (.int (if (if x2 ≤ q2.1 then 0 else 1 : Int32) = 0 then x3 else x5 : Int32)), some (.int x4), some (.int (x5 + 1)), none, none], [], q2.2)) rfl rfl rfl))))))))))))))
   (d_step (t := (28, [some (.ref 40), some (.int x1), some (.int x2), some (.int x3), some (.int x4), some (.int (x5 + 1)), none, none], [], q1.2)) 2 rfl
   (d_lab (x2 := (28, [some (.ref 40), some (.int x1), some (.int x2), some (.int x3), some (.int x4), some (.int (x5 + 1)), none, none], [], q1.2)) rfl rfl rfl))))))
noncomputable def m_M_odds (d : Nat) (p : Int32) (pt : Int32) (s : qMem) : Option (Int32 × qMem) := qI (qCall qMT d 153 [.ref 40, .int p, .int pt] s)
noncomputable def l_M_odds_1 (d : Nat)  (x1 : Int32) (x2 : Int32) (x3 : Int32) (x4 : Int32) (x5 : Int32) (s : qMem) : Option (Int32 × qMem) := qI (qK qMT d 153 (30, [some (.ref 40), some (.int x1), some (.int x2), some (.int x3), some (.int x4), some (.int x5), none, none], [], s))
noncomputable def l_M_odds_2 (d : Nat)  (x1 : Int32) (x2 : Int32) (x3 : Int32) (x4 : Int32) (x5 : Int32) (x6 : Int32) (x7 : Int32) (s : qMem) : Option (Int32 × qMem) := qI (qK qMT d 153 (47, [some (.ref 40), some (.int x1), some (.int x2), some (.int x3), some (.int x4), some (.int x5), some (.int x6), some (.int x7)], [], s))
noncomputable def l_M_odds_3 (d : Nat)  (x2 : Int32) (x3 : Int32) (x4 : Int32) (x5 : Int32) (x6 : Int32) (s : qMem) : Option (Int32 × qMem) := qI (qK qMT d 153 (139, [none, none, some (.int x2), some (.int x3), some (.int x4), some (.int x5), some (.int x6), none], [], s))
set_option maxRecDepth 20000 in
theorem e_M_odds (d : Nat) (p : Int32) (pt : Int32) (s : qMem) : m_M_odds (d + 1) p pt s = ((m_M_in d p 0 10 s).bind (fun q1 => (if q1.1 = 0 then some ((-3), q1.2) else ((m_M_in d pt 0 1 q1.2).bind (fun q2 => (if q2.1 = 0 then some ((-3), q2.2) else (l_M_odds_1 d p pt 0 0 0 q2.2))))))) := d_step (t := (4, [some (.ref 40), some (.int p), some (.int pt), none, none, none, none, none], [(.int 10), (.int 0), (.int p)], s)) 3 rfl
   (d_callI (o := (m_M_in d p 0 10 s)) rfl rfl (fun q1 =>
   d_if (a := (19, [some (.ref 40), some (.int p), some (.int pt), none, none, none, none, none], [], q1.2)) (b := (10, [some (.ref 40), some (.int p), some (.int pt), none, none, none, none, none], [], q1.2)) rfl rfl
   (d_step (t := (21, [some (.ref 40), some (.int p), some (.int pt), none, none, none, none, none], [(.int (-3))], q1.2)) 1 rfl
   (d_ret (k := 0) rfl rfl))
   (d_step (t := (13, [some (.ref 40), some (.int p), some (.int pt), none, none, none, none, none], [(.int 1), (.int 0), (.int pt)], q1.2)) 3 rfl
   (d_callI (o := (m_M_in d pt 0 1 q1.2)) rfl rfl (fun q2 =>
   d_if (a := (19, [some (.ref 40), some (.int p), some (.int pt), none, none, none, none, none], [], q2.2)) (b := (22, [some (.ref 40), some (.int p), some (.int pt), none, none, none, none, none], [], q2.2)) rfl rfl
   (d_step (t := (21, [some (.ref 40), some (.int p), some (.int pt), none, none, none, none, none], [(.int (-3))], q2.2)) 1 rfl
   (d_ret (k := 0) rfl rfl))
   (d_step (t := (30, [some (.ref 40), some (.int p), some (.int pt), some (.int 0), some (.int 0), some (.int 0), none, none], [], q2.2)) 6 rfl
   (d_lab (x2 := (30, [some (.ref 40), some (.int p), some (.int pt), some (.int 0), some (.int 0), some (.int 0), none, none], [], q2.2)) rfl rfl rfl)))))))
set_option maxRecDepth 20000 in
theorem el_M_odds_1 (d : Nat)  (x1 : Int32) (x2 : Int32) (x3 : Int32) (x4 : Int32) (x5 : Int32) (s : qMem) : l_M_odds_1 d x1 x2 x3 x4 x5 s = (if (1 <<< (((s).1 40 3) &&& 31)) ≤ x5 then (l_M_odds_3 d x2 x3 x4 x3 x4 (qW s 40 30 31)) else (l_M_odds_2 d x1 x2 x3 x4 x5 1 0 s)) := d_step (t := (38, [some (.ref 40), some (.int x1), some (.int x2), some (.int x3), some (.int x4), some (.int x5), none, none], [(.int (1 <<< (((s).1 40 3) &&& 31))), (.int x5)], s)) 5 rfl
   (d_if (a := (126, [some (.ref 40), some (.int x1), some (.int x2), some (.int x3), some (.int x4), some (.int x5), none, none], [], s)) (b := (41, [some (.ref 40), some (.int x1), some (.int x2), some (.int x3), some (.int x4), some (.int x5), none, none], [], s)) rfl rfl
   (d_step (t := (139, [some (.ref 40), some (.int x1), some (.int x2), some (.int x3), some (.int x4), some (.int x3), some (.int x4), none], [], (qW s 40 30 31))) 7 rfl
   (d_lab (x2 := (139, [none, none, some (.int x2), some (.int x3), some (.int x4), some (.int x3), some (.int x4), none], [], (qW s 40 30 31))) rfl rfl rfl))
   (d_step (t := (47, [some (.ref 40), some (.int x1), some (.int x2), some (.int x3), some (.int x4), some (.int x5), some (.int 1), some (.int 0)], [], s)) 4 rfl
   (rfl)))
set_option maxRecDepth 20000 in
theorem el_M_odds_2 (d : Nat)  (x1 : Int32) (x2 : Int32) (x3 : Int32) (x4 : Int32) (x5 : Int32) (x6 : Int32) (x7 : Int32) (s : qMem) : l_M_odds_2 d x1 x2 x3 x4 x5 x6 x7 s = (if ((s).1 40 3) ≤ x7 then (if x6 ≤ 0 then (l_M_odds_1 d x1 x2 (x3 + 0) (x4 + x6) (x5 + 1) (qW s 40 30 x5)) else ((m_M_soonestOf d (qW s 40 30 x5)).bind (fun q1 => (l_M_odds_1 d x1 x2 (x3 + (if q1.1 = (-1) then 0 else x6 : Int32)) (x4 + x6) (x5 + 1) q1.2)))) else ((m_M_has d x5 x7 s).bind (fun q2 => (if q2.1 = 0 then (l_M_odds_2 d x1 x2 x3 x4 x5 (x6 * (10 - x1)) (x7 + 1) q2.2) else (l_M_odds_2 d x1 x2 x3 x4 x5 (x6 * x1) (x7 + 1) q2.2))))) := d_step (t := (53, [some (.ref 40), some (.int x1), some (.int x2), some (.int x3), some (.int x4), some (.int x5), some (.int x6), some (.int x7)], [(.int ((s).1 40 3)), (.int x7)], s)) 3 rfl
   (d_if (a := (85, [some (.ref 40), some (.int x1), some (.int x2), some (.int x3), some (.int x4), some (.int x5), some (.int x6), some (.int x7)], [], s)) (b := (56, [some (.ref 40), some (.int x1), some (.int x2), some (.int x3), some (.int x4), some (.int x5), some (.int x6), some (.int x7)], [], s)) rfl rfl
   (d_step (t := (101, [some (.ref 40), some (.int x1), some (.int x2), some (.int x3), some (.int (x4 + x6)), some (.int x5), some (.int x6), some (.int x7)], [(.int x6), (.int x3)], (qW s 40 30 x5))) 9 rfl
   (d_if (a := (117, [some (.ref 40), some (.int x1), some (.int x2), some (.int x3), some (.int (x4 + x6)), some (.int x5), some (.int x6), some (.int x7)], [(.int x3)], (qW s 40 30 x5))) (b := (104, [some (.ref 40), some (.int x1), some (.int x2), some (.int x3), some (.int (x4 + x6)), some (.int x5), some (.int x6), some (.int x7)], [(.int x3)], (qW s 40 30 x5))) rfl rfl
   (d_step (t := (30, [some (.ref 40), some (.int x1), some (.int x2), some (.int (x3 + 0)), some (.int (x4 + x6)), some (.int (x5 + 1)), some (.int x6), some (.int x7)], [], (qW s 40 30 x5))) 5 rfl
   (d_lab (x2 := (30, [some (.ref 40), some (.int x1), some (.int x2), some (.int (x3 + 0)), some (.int (x4 + x6)), some (.int (x5 + 1)), none, none], [], (qW s 40 30 x5))) rfl rfl rfl))
   (d_step (t := (105, [some (.ref 40), some (.int x1), some (.int x2), some (.int x3), some (.int (x4 + x6)), some (.int x5), some (.int x6), some (.int x7)], [(.ref 40), (.int x3)], (qW s 40 30 x5))) 1 rfl
   (d_callI (o := (m_M_soonestOf d (qW s 40 30 x5))) rfl rfl (fun q1 =>
   d_step (t := (109, [some (.ref 40), some (.int x1), some (.int x2), some (.int x3), some (.int (x4 + x6)), some (.int x5), some (.int x6), some (.int x7)], [(.int (-1)), (.int q1.1), (.int x3)], q1.2)) 1 rfl
   (d_mrg (a := (117, [some (.ref 40), some (.int x1), some (.int x2), some (.int x3), some (.int (x4 + x6)), some (.int x5), some (.int x6), some (.int x7)], [(.int x3)], q1.2)) (b := (112, [some (.ref 40), some (.int x1), some (.int x2), some (.int x3), some (.int (x4 + x6)), some (.int x5), some (.int x6), some (.int x7)], [(.int x3)], q1.2)) (v1 := 0) (v2 := x6) (z := fun v9 => (118, [some (.ref 40), some (.int x1), some (.int x2), some (.int x3), some (.int (x4 + x6)), some (.int x5), some (.int x6), some (.int x7)], [(.int v9), (.int x3)], q1.2)) 1 2 rfl rfl rfl rfl
   (d_step (t := (30, [some (.ref 40), some (.int x1), some (.int x2), some (.int (x3 + (if q1.1 = (-1) then 0 else x6 : Int32))), some (.int (x4 + x6)), some (.int (x5 + 1)), some (.int x6), some (.int x7)], [], q1.2)) 4 rfl
   (d_lab (x2 := (30, [some (.ref 40), some (.int x1), some (.int x2), some (.int (x3 + (if q1.1 = (-1) then 0 else x6 : Int32))), some (.int (x4 + x6)), some (.int (x5 + 1)), none, none], [], q1.2)) rfl rfl rfl))))))))
   (d_step (t := (62, [some (.ref 40), some (.int x1), some (.int x2), some (.int x3), some (.int x4), some (.int x5), some (.int x6), some (.int x7)], [(.int x7), (.int x5), (.int x6)], s)) 3 rfl
   (d_callI (o := (m_M_has d x5 x7 s)) rfl rfl (fun q2 =>
   d_if (a := (72, [some (.ref 40), some (.int x1), some (.int x2), some (.int x3), some (.int x4), some (.int x5), some (.int x6), some (.int x7)], [(.int x6)], q2.2)) (b := (68, [some (.ref 40), some (.int x1), some (.int x2), some (.int x3), some (.int x4), some (.int x5), some (.int x6), some (.int x7)], [(.int x6)], q2.2)) rfl rfl
   (d_step (t := (47, [some (.ref 40), some (.int x1), some (.int x2), some (.int x3), some (.int x4), some (.int x5), some (.int (x6 * (10 - x1))), some (.int (x7 + 1))], [], q2.2)) 7 rfl
   (rfl))
   (d_step (t := (47, [some (.ref 40), some (.int x1), some (.int x2), some (.int x3), some (.int x4), some (.int x5), some (.int (x6 * x1)), some (.int (x7 + 1))], [], q2.2)) 6 rfl
   (rfl))))))
set_option maxRecDepth 20000 in
theorem el_M_odds_3 (d : Nat)  (x2 : Int32) (x3 : Int32) (x4 : Int32) (x5 : Int32) (x6 : Int32) (s : qMem) : l_M_odds_3 d x2 x3 x4 x5 x6 s = (if x6 ≤ 0 then (if x5 = 0 then none else some (((if x2 = 0 then x3 else x4 : Int32) / x5), s)) else (if x6 = 0 then none else (l_M_odds_3 d x2 x3 x4 x6 (x5 - x5 / x6 * x6) s))) := d_step (t := (141, [none, none, some (.int x2), some (.int x3), some (.int x4), some (.int x5), some (.int x6), none], [(.int x6)], s)) 1 rfl
   (d_if (a := (162, [none, none, some (.int x2), some (.int x3), some (.int x4), some (.int x5), some (.int x6), none], [], s)) (b := (144, [none, none, some (.int x2), some (.int x3), some (.int x4), some (.int x5), some (.int x6), none], [], s)) rfl rfl
   (d_step (t := (163, [none, none, some (.int x2), some (.int x3), some (.int x4), some (.int x5), some (.int x6), none], [(.int x2)], s)) 1 rfl
   (d_mrg (a := (166, [none, none, some (.int x2), some (.int x3), some (.int x4), some (.int x5), some (.int x6), none], [], s)) (b := (170, [none, none, some (.int x2), some (.int x3), some (.int x4), some (.int x5), some (.int x6), none], [], s)) (v1 := x3) (v2 := x4) (z := fun v9 => (172, [none, none, some (.int x2), some (.int x3), some (.int x4), some (.int x5), some (.int x6), none], [(.int v9)], s)) 2 1 rfl rfl rfl rfl
   (d_step (t := (174, [none, none, some (.int x2), some (.int x3), some (.int x4), some (.int x5), some (.int x6), none], [(.int x5), (.int (if x2 = 0 then x3 else x4 : Int32))], s)) 1 rfl
   (d_chkn (a := (175, [none, none, some (.int x2), some (.int x3), some (.int x4), some (.int x5), some (.int x6), none], [(.int ((if x2 = 0 then x3 else x4 : Int32) / x5))], s)) rfl rfl
   (d_ret (k := 0) rfl rfl)))))
   (d_step (t := (148, [none, none, some (.int x2), some (.int x3), some (.int x4), some (.int x5), some (.int x6), none], [(.int x6), (.int x5)], s)) 2 rfl
   (d_chkn (a := (149, [none, none, some (.int x2), some (.int x3), some (.int x4), some (.int x5), some (.int x6), none], [(.int (x5 - x5 / x6 * x6))], s)) rfl rfl
   (d_step (t := (139, [none, none, some (.int x2), some (.int x3), some (.int x4), some (.int x6), some (.int (x5 - x5 / x6 * x6)), some (.int (x5 - x5 / x6 * x6))], [], s)) 6 rfl
   (d_lab (x2 := (139, [none, none, some (.int x2), some (.int x3), some (.int x4), some (.int x6), some (.int (x5 - x5 / x6 * x6)), none], [], s)) rfl rfl rfl)))))
noncomputable def m_M_row (d : Nat) (p : Int32) (up : Int32) (s : qMem) : Option (Int32 × qMem) := qI (qCall qMT d 154 [.ref 40, .int p, .int up] s)
set_option maxRecDepth 20000 in
theorem e_M_row (d : Nat) (p : Int32) (up : Int32) (s : qMem) : m_M_row (d + 1) p up s = ((m_M_isOne d p s).bind (fun q1 => (if q1.1 = 0 then some ((-2), q1.2) else ((m_M_in d up 0 1 q1.2).bind (fun q2 => (if q2.1 = 0 then some ((-3), q2.2) else (if ((q2.2).1 40 22) = 12 then some ((-5), q2.2) else (if qIn (2 * ((q2.2).1 40 22)) 24 then (if qIn ((2 * ((q2.2).1 40 22)) + 1) 24 then some ((((q2.2).1 40 22) + 1), (qW (qW (qW q2.2 49 ((2 * ((q2.2).1 40 22))).toNatClampNeg p) 49 (((2 * ((q2.2).1 40 22)) + 1)).toNatClampNeg up) 40 22 (((q2.2).1 40 22) + 1))) else none) else none)))))))) := d_step (t := (2, [some (.ref 40), some (.int p), some (.int up)], [(.int p), (.ref 40)], s)) 2 rfl
   (d_callI (o := (m_M_isOne d p s)) rfl rfl (fun q1 =>
   d_if (a := (8, [some (.ref 40), some (.int p), some (.int up)], [], q1.2)) (b := (11, [some (.ref 40), some (.int p), some (.int up)], [], q1.2)) rfl rfl
   (d_step (t := (10, [some (.ref 40), some (.int p), some (.int up)], [(.int (-2))], q1.2)) 1 rfl
   (d_ret (k := 0) rfl rfl))
   (d_step (t := (14, [some (.ref 40), some (.int p), some (.int up)], [(.int 1), (.int 0), (.int up)], q1.2)) 3 rfl
   (d_callI (o := (m_M_in d up 0 1 q1.2)) rfl rfl (fun q2 =>
   d_if (a := (20, [some (.ref 40), some (.int p), some (.int up)], [], q2.2)) (b := (23, [some (.ref 40), some (.int p), some (.int up)], [], q2.2)) rfl rfl
   (d_step (t := (22, [some (.ref 40), some (.int p), some (.int up)], [(.int (-3))], q2.2)) 1 rfl
   (d_ret (k := 0) rfl rfl))
   (d_step (t := (29, [some (.ref 40), some (.int p), some (.int up)], [(.int 12), (.int ((q2.2).1 40 22))], q2.2)) 3 rfl
   (d_if (a := (32, [some (.ref 40), some (.int p), some (.int up)], [], q2.2)) (b := (35, [some (.ref 40), some (.int p), some (.int up)], [], q2.2)) rfl rfl
   (d_step (t := (34, [some (.ref 40), some (.int p), some (.int up)], [(.int (-5))], q2.2)) 1 rfl
   (d_ret (k := 0) rfl rfl))
   (d_step (t := (46, [some (.ref 40), some (.int p), some (.int up)], [(.int p), (.int (2 * ((q2.2).1 40 22))), (.ref 49)], q2.2)) 7 rfl
   (d_chk (a := (47, [some (.ref 40), some (.int p), some (.int up)], [], (qW q2.2 49 ((2 * ((q2.2).1 40 22))).toNatClampNeg p))) rfl rfl
   (d_step (t := (60, [some (.ref 40), some (.int p), some (.int up)], [(.int up), (.int ((2 * ((q2.2).1 40 22)) + 1)), (.ref 49)], (qW q2.2 49 ((2 * ((q2.2).1 40 22))).toNatClampNeg p))) 9 rfl
   (d_chk (a := (61, [some (.ref 40), some (.int p), some (.int up)], [], (qW (qW q2.2 49 ((2 * ((q2.2).1 40 22))).toNatClampNeg p) 49 (((2 * ((q2.2).1 40 22)) + 1)).toNatClampNeg up))) rfl rfl
   (d_step (t := (75, [some (.ref 40), some (.int p), some (.int up)], [(.int (((q2.2).1 40 22) + 1))], (qW (qW (qW q2.2 49 ((2 * ((q2.2).1 40 22))).toNatClampNeg p) 49 (((2 * ((q2.2).1 40 22)) + 1)).toNatClampNeg up) 40 22 (((q2.2).1 40 22) + 1)))) 8 rfl
   (d_ret (k := 0) rfl rfl)))))))))))))
noncomputable def m_M_burn (d : Nat)  (s : qMem) : Option (Int32 × qMem) := qI (qCall qMT d 155 [.ref 40] s)
set_option maxRecDepth 20000 in
theorem e_M_burn (d : Nat)  (s : qMem) : m_M_burn (d + 1) s = some (((s).1 40 22), (qW s 40 22 0)) := d_step (t := (11, [some (.ref 40), some (.int ((s).1 40 22))], [(.int ((s).1 40 22))], (qW s 40 22 0))) 7 rfl
   (d_ret (k := 0) rfl rfl)
noncomputable def m_M_judge (d : Nat)  (s : qMem) : Option (Int32 × qMem) := qI (qCall qMT d 156 [.ref 40] s)
noncomputable def l_M_judge_1 (d : Nat)  (x1 : Int32) (s : qMem) : Option (Int32 × qMem) := qI (qK qMT d 156 (2, [some (.ref 40), some (.int x1), none], [], s))
noncomputable def l_M_judge_2 (d : Nat)  (x1 : Int32) (s : qMem) : Option (Int32 × qMem) := qI (qK qMT d 156 (30, [some (.ref 40), some (.int x1), none], [], s))
set_option maxRecDepth 20000 in
theorem e_M_judge (d : Nat)  (s : qMem) : m_M_judge (d + 1) s = (l_M_judge_1 d 0 s) := d_step (t := (2, [some (.ref 40), some (.int 0), none], [], s)) 2 rfl
   (d_lab (x2 := (2, [some (.ref 40), some (.int 0), none], [], s)) rfl rfl rfl)
set_option maxRecDepth 20000 in
theorem el_M_judge_1 (d : Nat)  (x1 : Int32) (s : qMem) : l_M_judge_1 d x1 s = (if ((s).1 40 3) ≤ x1 then (l_M_judge_2 d 0 s) else (if qIn x1 5 then (if qIn x1 5 then (l_M_judge_1 d (x1 + 1) (qW s 54 (x1).toNatClampNeg ((s).1 45 (x1).toNatClampNeg))) else none) else none)) := d_step (t := (7, [some (.ref 40), some (.int x1), none], [(.int ((s).1 40 3)), (.int x1)], s)) 3 rfl
   (d_if (a := (28, [some (.ref 40), some (.int x1), none], [], s)) (b := (10, [some (.ref 40), some (.int x1), none], [], s)) rfl rfl
   (d_step (t := (30, [some (.ref 40), some (.int 0), none], [], s)) 2 rfl
   (d_lab (x2 := (30, [some (.ref 40), some (.int 0), none], [], s)) rfl rfl rfl))
   (d_step (t := (20, [some (.ref 40), some (.int x1), none], [(.int x1), (.ref 45), (.int x1), (.ref 54)], s)) 6 rfl
   (d_chk (a := (21, [some (.ref 40), some (.int x1), none], [(.int ((s).1 45 (x1).toNatClampNeg)), (.int x1), (.ref 54)], s)) rfl rfl
   (d_chk (a := (22, [some (.ref 40), some (.int x1), none], [], (qW s 54 (x1).toNatClampNeg ((s).1 45 (x1).toNatClampNeg)))) rfl rfl
   (d_step (t := (2, [some (.ref 40), some (.int (x1 + 1)), none], [], (qW s 54 (x1).toNatClampNeg ((s).1 45 (x1).toNatClampNeg)))) 2 rfl
   (d_lab (x2 := (2, [some (.ref 40), some (.int (x1 + 1)), none], [], (qW s 54 (x1).toNatClampNeg ((s).1 45 (x1).toNatClampNeg)))) rfl rfl rfl))))))
set_option maxRecDepth 20000 in
theorem el_M_judge_2 (d : Nat)  (x1 : Int32) (s : qMem) : l_M_judge_2 d x1 s = (if ((s).1 40 22) ≤ x1 then some ((-1), s) else (if qIn (2 * x1) 24 then (if qIn ((2 * x1) + 1) 24 then ((m_M_canGo d 54 ((s).1 49 ((2 * x1)).toNatClampNeg) ((s).1 49 (((2 * x1) + 1)).toNatClampNeg) s).bind (fun q1 => (if q1.1 = 0 then some (x1, q1.2) else (if qIn ((s).1 49 ((2 * x1)).toNatClampNeg) 5 then (if qIn ((2 * x1) + 1) 24 then (if qIn ((s).1 49 ((2 * x1)).toNatClampNeg) 5 then (l_M_judge_2 d (x1 + 1) (qW q1.2 54 (((s).1 49 ((2 * x1)).toNatClampNeg)).toNatClampNeg (((q1.2).1 54 (((s).1 49 ((2 * x1)).toNatClampNeg)).toNatClampNeg) + (if ((q1.2).1 49 (((2 * x1) + 1)).toNatClampNeg) = 1 then 1 else (-1) : Int32)))) else none) else none) else none)))) else none) else none)) := d_step (t := (35, [some (.ref 40), some (.int x1), none], [(.int ((s).1 40 22)), (.int x1)], s)) 3 rfl
   (d_if (a := (105, [some (.ref 40), some (.int x1), none], [], s)) (b := (38, [some (.ref 40), some (.int x1), none], [], s)) rfl rfl
   (d_step (t := (106, [some (.ref 40), some (.int x1), none], [(.int (-1))], s)) 1 rfl
   (d_ret (k := 0) rfl rfl))
   (d_step (t := (45, [some (.ref 40), some (.int x1), none], [(.int (2 * x1)), (.ref 49)], s)) 5 rfl
   (d_chk (a := (46, [some (.ref 40), some (.int x1), none], [(.int ((s).1 49 ((2 * x1)).toNatClampNeg))], s)) rfl rfl
   (d_step (t := (62, [some (.ref 40), some (.int x1), some (.int ((s).1 49 ((2 * x1)).toNatClampNeg))], [(.int ((2 * x1) + 1)), (.ref 49), (.int ((s).1 49 ((2 * x1)).toNatClampNeg)), (.ref 54), (.ref 40)], s)) 12 rfl
   (d_chk (a := (63, [some (.ref 40), some (.int x1), some (.int ((s).1 49 ((2 * x1)).toNatClampNeg))], [(.int ((s).1 49 (((2 * x1) + 1)).toNatClampNeg)), (.int ((s).1 49 ((2 * x1)).toNatClampNeg)), (.ref 54), (.ref 40)], s)) rfl rfl
   (d_callI (o := (m_M_canGo d 54 ((s).1 49 ((2 * x1)).toNatClampNeg) ((s).1 49 (((2 * x1) + 1)).toNatClampNeg) s)) rfl rfl (fun q1 =>
   d_if (a := (69, [some (.ref 40), some (.int x1), some (.int ((s).1 49 ((2 * x1)).toNatClampNeg))], [], q1.2)) (b := (71, [some (.ref 40), some (.int x1), some (.int ((s).1 49 ((2 * x1)).toNatClampNeg))], [], q1.2)) rfl rfl
   (d_step (t := (70, [some (.ref 40), some (.int x1), some (.int ((s).1 49 ((2 * x1)).toNatClampNeg))], [(.int x1)], q1.2)) 1 rfl
   (d_ret (k := 0) rfl rfl))
   (d_step (t := (77, [some (.ref 40), some (.int x1), some (.int ((s).1 49 ((2 * x1)).toNatClampNeg))], [(.int ((s).1 49 ((2 * x1)).toNatClampNeg)), (.ref 54), (.int ((s).1 49 ((2 * x1)).toNatClampNeg)), (.ref 54)], q1.2)) 4 rfl
   (d_chk (a := (78, [some (.ref 40), some (.int x1), some (.int ((s).1 49 ((2 * x1)).toNatClampNeg))], [(.int ((q1.2).1 54 (((s).1 49 ((2 * x1)).toNatClampNeg)).toNatClampNeg)), (.int ((s).1 49 ((2 * x1)).toNatClampNeg)), (.ref 54)], q1.2)) rfl rfl
   (d_step (t := (87, [some (.ref 40), some (.int x1), some (.int ((s).1 49 ((2 * x1)).toNatClampNeg))], [(.int ((2 * x1) + 1)), (.ref 49), (.int ((q1.2).1 54 (((s).1 49 ((2 * x1)).toNatClampNeg)).toNatClampNeg)), (.int ((s).1 49 ((2 * x1)).toNatClampNeg)), (.ref 54)], q1.2)) 7 rfl
   (d_chk (a := (88, [some (.ref 40), some (.int x1), some (.int ((s).1 49 ((2 * x1)).toNatClampNeg))], [(.int ((q1.2).1 49 (((2 * x1) + 1)).toNatClampNeg)), (.int ((q1.2).1 54 (((s).1 49 ((2 * x1)).toNatClampNeg)).toNatClampNeg)), (.int ((s).1 49 ((2 * x1)).toNatClampNeg)), (.ref 54)], q1.2)) rfl rfl
   (d_step (t := (89, [some (.ref 40), some (.int x1), some (.int ((s).1 49 ((2 * x1)).toNatClampNeg))], [(.int 1), (.int ((q1.2).1 49 (((2 * x1) + 1)).toNatClampNeg)), (.int ((q1.2).1 54 (((s).1 49 ((2 * x1)).toNatClampNeg)).toNatClampNeg)), (.int ((s).1 49 ((2 * x1)).toNatClampNeg)), (.ref 54)], q1.2)) 1 rfl
   (d_mrg (a := (92, [some (.ref 40), some (.int x1), some (.int ((s).1 49 ((2 * x1)).toNatClampNeg))], [(.int ((q1.2).1 54 (((s).1 49 ((2 * x1)).toNatClampNeg)).toNatClampNeg)), (.int ((s).1 49 ((2 * x1)).toNatClampNeg)), (.ref 54)], q1.2)) (b := (96, [some (.ref 40), some (.int x1), some (.int ((s).1 49 ((2 * x1)).toNatClampNeg))], [(.int ((q1.2).1 54 (((s).1 49 ((2 * x1)).toNatClampNeg)).toNatClampNeg)), (.int ((s).1 49 ((2 * x1)).toNatClampNeg)), (.ref 54)], q1.2)) (v1 := 1) (v2 := (-1)) (z := fun v9 => (97, [some (.ref 40), some (.int x1), some (.int ((s).1 49 ((2 * x1)).toNatClampNeg))], [(.int v9), (.int ((q1.2).1 54 (((s).1 49 ((2 * x1)).toNatClampNeg)).toNatClampNeg)), (.int ((s).1 49 ((2 * x1)).toNatClampNeg)), (.ref 54)], q1.2)) 2 1 rfl rfl rfl rfl
   (d_step (t := (98, [some (.ref 40), some (.int x1), some (.int ((s).1 49 ((2 * x1)).toNatClampNeg))], [(.int (((q1.2).1 54 (((s).1 49 ((2 * x1)).toNatClampNeg)).toNatClampNeg) + (if ((q1.2).1 49 (((2 * x1) + 1)).toNatClampNeg) = 1 then 1 else (-1) : Int32))), (.int ((s).1 49 ((2 * x1)).toNatClampNeg)), (.ref 54)], q1.2)) 1 rfl
   (d_chk (a := (99, [some (.ref 40), some (.int x1), some (.int ((s).1 49 ((2 * x1)).toNatClampNeg))], [], (qW q1.2 54 (((s).1 49 ((2 * x1)).toNatClampNeg)).toNatClampNeg (((q1.2).1 54 (((s).1 49 ((2 * x1)).toNatClampNeg)).toNatClampNeg) + (if ((q1.2).1 49 (((2 * x1) + 1)).toNatClampNeg) = 1 then 1 else (-1) : Int32))))) rfl rfl
   (d_step (t := (30, [some (.ref 40), some (.int (x1 + 1)), some (.int ((s).1 49 ((2 * x1)).toNatClampNeg))], [], (qW q1.2 54 (((s).1 49 ((2 * x1)).toNatClampNeg)).toNatClampNeg (((q1.2).1 54 (((s).1 49 ((2 * x1)).toNatClampNeg)).toNatClampNeg) + (if ((q1.2).1 49 (((2 * x1) + 1)).toNatClampNeg) = 1 then 1 else (-1) : Int32))))) 2 rfl
   (d_lab (x2 := (30, [some (.ref 40), some (.int (x1 + 1)), none], [], (qW q1.2 54 (((s).1 49 ((2 * x1)).toNatClampNeg)).toNatClampNeg (((q1.2).1 54 (((s).1 49 ((2 * x1)).toNatClampNeg)).toNatClampNeg) + (if ((q1.2).1 49 (((2 * x1) + 1)).toNatClampNeg) = 1 then 1 else (-1) : Int32))))) rfl rfl rfl)))))))))))))))))
noncomputable def m_M_count (d : Nat) (w : Int32) (s : qMem) : Option (Int32 × qMem) := qI (qCall qMT d 157 [.ref 40, .int w] s)
noncomputable def l_M_count_1 (d : Nat)  (x1 : Int32) (x2 : Int32) (x3 : Int32) (x4 : Int32) (s : qMem) : Option (Int32 × qMem) := qI (qK qMT d 157 (7, [some (.ref 40), some (.int x1), some (.int x2), some (.int x3), some (.int x4)], [], s))
noncomputable def l_M_count_2 (d : Nat)  (x1 : Int32) (x2 : Int32) (x3 : Int32) (x4 : Int32) (s : qMem) : Option (Int32 × qMem) := qI (qK qMT d 157 (50, [some (.ref 40), some (.int x1), some (.int x2), some (.int x3), some (.int x4)], [], s))
set_option maxRecDepth 20000 in
theorem e_M_count (d : Nat) (w : Int32) (s : qMem) : m_M_count (d + 1) w s = (l_M_count_1 d w 0 0 0 s) := d_step (t := (7, [some (.ref 40), some (.int w), some (.int 0), some (.int 0), some (.int 0)], [], s)) 6 rfl
   (rfl)
set_option maxRecDepth 20000 in
theorem el_M_count_1 (d : Nat)  (x1 : Int32) (x2 : Int32) (x3 : Int32) (x4 : Int32) (s : qMem) : l_M_count_1 d x1 x2 x3 x4 s = (if ((s).1 40 3) ≤ x4 then (l_M_count_2 d x1 x2 x3 0 s) else (if qIn x4 5 then (if ((s).1 45 (x4).toNatClampNeg) = ((s).1 40 0) then (l_M_count_1 d x1 (x2 ||| (1 <<< (x4 &&& 31))) x3 (x4 + 1) s) else (l_M_count_1 d x1 (x2 ||| 0) x3 (x4 + 1) s)) else none)) := d_step (t := (13, [some (.ref 40), some (.int x1), some (.int x2), some (.int x3), some (.int x4)], [(.int ((s).1 40 3)), (.int x4)], s)) 3 rfl
   (d_if (a := (47, [some (.ref 40), some (.int x1), some (.int x2), some (.int x3), some (.int x4)], [], s)) (b := (16, [some (.ref 40), some (.int x1), some (.int x2), some (.int x3), some (.int x4)], [], s)) rfl rfl
   (d_step (t := (50, [some (.ref 40), some (.int x1), some (.int x2), some (.int x3), some (.int 0)], [], s)) 2 rfl
   (rfl))
   (d_step (t := (23, [some (.ref 40), some (.int x1), some (.int x2), some (.int x3), some (.int x4)], [(.int x4), (.ref 45), (.int x2)], s)) 4 rfl
   (d_chk (a := (24, [some (.ref 40), some (.int x1), some (.int x2), some (.int x3), some (.int x4)], [(.int ((s).1 45 (x4).toNatClampNeg)), (.int x2)], s)) rfl rfl
   (d_step (t := (28, [some (.ref 40), some (.int x1), some (.int x2), some (.int x3), some (.int x4)], [(.int ((s).1 40 0)), (.int ((s).1 45 (x4).toNatClampNeg)), (.int x2)], s)) 2 rfl
   (d_if (a := (31, [some (.ref 40), some (.int x1), some (.int x2), some (.int x3), some (.int x4)], [(.int x2)], s)) (b := (38, [some (.ref 40), some (.int x1), some (.int x2), some (.int x3), some (.int x4)], [(.int x2)], s)) rfl rfl
   (d_step (t := (7, [some (.ref 40), some (.int x1), some (.int (x2 ||| (1 <<< (x4 &&& 31)))), some (.int x3), some (.int (x4 + 1))], [], s)) 8 rfl
   (rfl))
   (d_step (t := (7, [some (.ref 40), some (.int x1), some (.int (x2 ||| 0)), some (.int x3), some (.int (x4 + 1))], [], s)) 5 rfl
   (rfl)))))))
set_option maxRecDepth 20000 in
theorem el_M_count_2 (d : Nat)  (x1 : Int32) (x2 : Int32) (x3 : Int32) (x4 : Int32) (s : qMem) : l_M_count_2 d x1 x2 x3 x4 s = (if 25 ≤ x4 then (if x1 = 0 then some (((s).1 40 0), s) else (if x1 = 1 then some (((s).1 40 3), s) else (if x1 = 2 then some (((s).1 40 18), s) else (if x1 = 3 then some (x2, s) else (if x1 = 4 then some (((s).1 40 22), s) else (if x1 = 5 then some (x3, s) else (if x1 = 6 then some (((s).1 40 5), s) else some ((-3), s)))))))) else (if qIn x4 25 then (l_M_count_2 d x1 x2 (x3 + ((s).1 46 (x4).toNatClampNeg)) (x4 + 1) s) else none)) := d_step (t := (54, [some (.ref 40), some (.int x1), some (.int x2), some (.int x3), some (.int x4)], [(.int 25), (.int x4)], s)) 2 rfl
   (d_if (a := (73, [some (.ref 40), some (.int x1), some (.int x2), some (.int x3), some (.int x4)], [], s)) (b := (57, [some (.ref 40), some (.int x1), some (.int x2), some (.int x3), some (.int x4)], [], s)) rfl rfl
   (d_step (t := (74, [some (.ref 40), some (.int x1), some (.int x2), some (.int x3), some (.int x4)], [(.int x1)], s)) 1 rfl
   (d_sw (o := qSel x1 [some (.ref 40), some (.int x1), some (.int x2), some (.int x3), some (.int x4)] [] s 145 [(0, 116), (1, 121), (2, 126), (3, 131), (4, 133), (5, 138), (6, 140)]) rfl rfl (d_sw1 (d_step (t := (120, [some (.ref 40), some (.int x1), some (.int x2), some (.int x3), some (.int x4)], [(.int ((s).1 40 0))], s)) 2 rfl
   (d_ret (k := 0) rfl rfl))
   (d_sw1 (d_step (t := (125, [some (.ref 40), some (.int x1), some (.int x2), some (.int x3), some (.int x4)], [(.int ((s).1 40 3))], s)) 2 rfl
   (d_ret (k := 0) rfl rfl))
   (d_sw1 (d_step (t := (130, [some (.ref 40), some (.int x1), some (.int x2), some (.int x3), some (.int x4)], [(.int ((s).1 40 18))], s)) 2 rfl
   (d_ret (k := 0) rfl rfl))
   (d_sw1 (d_step (t := (132, [some (.ref 40), some (.int x1), some (.int x2), some (.int x3), some (.int x4)], [(.int x2)], s)) 1 rfl
   (d_ret (k := 0) rfl rfl))
   (d_sw1 (d_step (t := (137, [some (.ref 40), some (.int x1), some (.int x2), some (.int x3), some (.int x4)], [(.int ((s).1 40 22))], s)) 2 rfl
   (d_ret (k := 0) rfl rfl))
   (d_sw1 (d_step (t := (139, [some (.ref 40), some (.int x1), some (.int x2), some (.int x3), some (.int x4)], [(.int x3)], s)) 1 rfl
   (d_ret (k := 0) rfl rfl))
   (d_sw1 (d_step (t := (144, [some (.ref 40), some (.int x1), some (.int x2), some (.int x3), some (.int x4)], [(.int ((s).1 40 5))], s)) 2 rfl
   (d_ret (k := 0) rfl rfl))
   (d_sw0 (d_step (t := (147, [some (.ref 40), some (.int x1), some (.int x2), some (.int x3), some (.int x4)], [(.int (-3))], s)) 1 rfl
   (d_ret (k := 0) rfl rfl))))))))))))
   (d_step (t := (64, [some (.ref 40), some (.int x1), some (.int x2), some (.int x3), some (.int x4)], [(.int x4), (.ref 46), (.int x3)], s)) 4 rfl
   (d_chk (a := (65, [some (.ref 40), some (.int x1), some (.int x2), some (.int x3), some (.int x4)], [(.int ((s).1 46 (x4).toNatClampNeg)), (.int x3)], s)) rfl rfl
   (d_step (t := (50, [some (.ref 40), some (.int x1), some (.int x2), some (.int (x3 + ((s).1 46 (x4).toNatClampNeg))), some (.int (x4 + 1))], [], s)) 4 rfl
   (rfl)))))
