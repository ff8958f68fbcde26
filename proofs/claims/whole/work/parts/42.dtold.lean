/-! equations, by program -/
noncomputable def m_bitCount (d : Nat) (x : Int32) (s : qMem) : Option (Int32 × qMem) := qI (qCall qMT d 0 [.int x] s)
set_option maxRecDepth 20000 in
theorem e_bitCount (d : Nat) (x : Int32) (s : qMem) : m_bitCount (d + 1) x s = some (((((((((x - (((x).toUInt32 >>> ((1 : Int32).toUInt32 &&& Int32.toUInt32 31)).toInt32 &&& (1431655765))) &&& (858993459)) + ((((x - (((x).toUInt32 >>> ((1 : Int32).toUInt32 &&& Int32.toUInt32 31)).toInt32 &&& (1431655765)))).toUInt32 >>> ((2 : Int32).toUInt32 &&& Int32.toUInt32 31)).toInt32 &&& (858993459))) + (((((x - (((x).toUInt32 >>> ((1 : Int32).toUInt32 &&& Int32.toUInt32 31)).toInt32 &&& (1431655765))) &&& (858993459)) + ((((x - (((x).toUInt32 >>> ((1 : Int32).toUInt32 &&& Int32.toUInt32 31)).toInt32 &&& (1431655765)))).toUInt32 >>> ((2 : Int32).toUInt32 &&& Int32.toUInt32 31)).toInt32 &&& (858993459)))).toUInt32 >>> ((4 : Int32).toUInt32 &&& Int32.toUInt32 31)).toInt32) &&& (252645135)) + (((((((x - (((x).toUInt32 >>> ((1 : Int32).toUInt32 &&& Int32.toUInt32 31)).toInt32 &&& (1431655765))) &&& (858993459)) + ((((x - (((x).toUInt32 >>> ((1 : Int32).toUInt32 &&& Int32.toUInt32 31)).toInt32 &&& (1431655765)))).toUInt32 >>> ((2 : Int32).toUInt32 &&& Int32.toUInt32 31)).toInt32 &&& (858993459))) + (((((x - (((x).toUInt32 >>> ((1 : Int32).toUInt32 &&& Int32.toUInt32 31)).toInt32 &&& (1431655765))) &&& (858993459)) + ((((x - (((x).toUInt32 >>> ((1 : Int32).toUInt32 &&& Int32.toUInt32 31)).toInt32 &&& (1431655765)))).toUInt32 >>> ((2 : Int32).toUInt32 &&& Int32.toUInt32 31)).toInt32 &&& (858993459)))).toUInt32 >>> ((4 : Int32).toUInt32 &&& Int32.toUInt32 31)).toInt32) &&& (252645135))).toUInt32 >>> ((8 : Int32).toUInt32 &&& Int32.toUInt32 31)).toInt32) + ((((((((x - (((x).toUInt32 >>> ((1 : Int32).toUInt32 &&& Int32.toUInt32 31)).toInt32 &&& (1431655765))) &&& (858993459)) + ((((x - (((x).toUInt32 >>> ((1 : Int32).toUInt32 &&& Int32.toUInt32 31)).toInt32 &&& (1431655765)))).toUInt32 >>> ((2 : Int32).toUInt32 &&& Int32.toUInt32 31)).toInt32 &&& (858993459))) + (((((x - (((x).toUInt32 >>> ((1 : Int32).toUInt32 &&& Int32.toUInt32 31)).toInt32 &&& (1431655765))) &&& (858993459)) + ((((x - (((x).toUInt32 >>> ((1 : Int32).toUInt32 &&& Int32.toUInt32 31)).toInt32 &&& (1431655765)))).toUInt32 >>> ((2 : Int32).toUInt32 &&& Int32.toUInt32 31)).toInt32 &&& (858993459)))).toUInt32 >>> ((4 : Int32).toUInt32 &&& Int32.toUInt32 31)).toInt32) &&& (252645135)) + (((((((x - (((x).toUInt32 >>> ((1 : Int32).toUInt32 &&& Int32.toUInt32 31)).toInt32 &&& (1431655765))) &&& (858993459)) + ((((x - (((x).toUInt32 >>> ((1 : Int32).toUInt32 &&& Int32.toUInt32 31)).toInt32 &&& (1431655765)))).toUInt32 >>> ((2 : Int32).toUInt32 &&& Int32.toUInt32 31)).toInt32 &&& (858993459))) + (((((x - (((x).toUInt32 >>> ((1 : Int32).toUInt32 &&& Int32.toUInt32 31)).toInt32 &&& (1431655765))) &&& (858993459)) + ((((x - (((x).toUInt32 >>> ((1 : Int32).toUInt32 &&& Int32.toUInt32 31)).toInt32 &&& (1431655765)))).toUInt32 >>> ((2 : Int32).toUInt32 &&& Int32.toUInt32 31)).toInt32 &&& (858993459)))).toUInt32 >>> ((4 : Int32).toUInt32 &&& Int32.toUInt32 31)).toInt32) &&& (252645135))).toUInt32 >>> ((8 : Int32).toUInt32 &&& Int32.toUInt32 31)).toInt32)).toUInt32 >>> ((16 : Int32).toUInt32 &&& Int32.toUInt32 31)).toInt32) &&& 63), s) := d_step (t := (52, [some (.int (((((((x - (((x).toUInt32 >>> ((1 : Int32).toUInt32 &&& Int32.toUInt32 31)).toInt32 &&& (1431655765))) &&& (858993459)) + ((((x - (((x).toUInt32 >>> ((1 : Int32).toUInt32 &&& Int32.toUInt32 31)).toInt32 &&& (1431655765)))).toUInt32 >>> ((2 : Int32).toUInt32 &&& Int32.toUInt32 31)).toInt32 &&& (858993459))) + (((((x - (((x).toUInt32 >>> ((1 : Int32).toUInt32 &&& Int32.toUInt32 31)).toInt32 &&& (1431655765))) &&& (858993459)) + ((((x - (((x).toUInt32 >>> ((1 : Int32).toUInt32 &&& Int32.toUInt32 31)).toInt32 &&& (1431655765)))).toUInt32 >>> ((2 : Int32).toUInt32 &&& Int32.toUInt32 31)).toInt32 &&& (858993459)))).toUInt32 >>> ((4 : Int32).toUInt32 &&& Int32.toUInt32 31)).toInt32) &&& (252645135)) + (((((((x - (((x).toUInt32 >>> ((1 : Int32).toUInt32 &&& Int32.toUInt32 31)).toInt32 &&& (1431655765))) &&& (858993459)) + ((((x - (((x).toUInt32 >>> ((1 : Int32).toUInt32 &&& Int32.toUInt32 31)).toInt32 &&& (1431655765)))).toUInt32 >>> ((2 : Int32).toUInt32 &&& Int32.toUInt32 31)).toInt32 &&& (858993459))) + (((((x - (((x).toUInt32 >>> ((1 : Int32).toUInt32 &&& Int32.toUInt32 31)).toInt32 &&& (1431655765))) &&& (858993459)) + ((((x - (((x).toUInt32 >>> ((1 : Int32).toUInt32 &&& Int32.toUInt32 31)).toInt32 &&& (1431655765)))).toUInt32 >>> ((2 : Int32).toUInt32 &&& Int32.toUInt32 31)).toInt32 &&& (858993459)))).toUInt32 >>> ((4 : Int32).toUInt32 &&& Int32.toUInt32 31)).toInt32) &&& (252645135))).toUInt32 >>> ((8 : Int32).toUInt32 &&& Int32.toUInt32 31)).toInt32) + ((((((((x - (((x).toUInt32 >>> ((1 : Int32).toUInt32 &&& Int32.toUInt32 31)).toInt32 &&& (1431655765))) &&& (858993459)) + ((((x - (((x).toUInt32 >>> ((1 : Int32).toUInt32 &&& Int32.toUInt32 31)).toInt32 &&& (1431655765)))).toUInt32 >>> ((2 : Int32).toUInt32 &&& Int32.toUInt32 31)).toInt32 &&& (858993459))) + (((((x - (((x).toUInt32 >>> ((1 : Int32).toUInt32 &&& Int32.toUInt32 31)).toInt32 &&& (1431655765))) &&& (858993459)) + ((((x - (((x).toUInt32 >>> ((1 : Int32).toUInt32 &&& Int32.toUInt32 31)).toInt32 &&& (1431655765)))).toUInt32 >>> ((2 : Int32).toUInt32 &&& Int32.toUInt32 31)).toInt32 &&& (858993459)))).toUInt32 >>> ((4 : Int32).toUInt32 &&& Int32.toUInt32 31)).toInt32) &&& (252645135)) + (((((((x - (((x).toUInt32 >>> ((1 : Int32).toUInt32 &&& Int32.toUInt32 31)).toInt32 &&& (1431655765))) &&& (858993459)) + ((((x - (((x).toUInt32 >>> ((1 : Int32).toUInt32 &&& Int32.toUInt32 31)).toInt32 &&& (1431655765)))).toUInt32 >>> ((2 : Int32).toUInt32 &&& Int32.toUInt32 31)).toInt32 &&& (858993459))) + (((((x - (((x).toUInt32 >>> ((1 : Int32).toUInt32 &&& Int32.toUInt32 31)).toInt32 &&& (1431655765))) &&& (858993459)) + ((((x - (((x).toUInt32 >>> ((1 : Int32).toUInt32 &&& Int32.toUInt32 31)).toInt32 &&& (1431655765)))).toUInt32 >>> ((2 : Int32).toUInt32 &&& Int32.toUInt32 31)).toInt32 &&& (858993459)))).toUInt32 >>> ((4 : Int32).toUInt32 &&& Int32.toUInt32 31)).toInt32) &&& (252645135))).toUInt32 >>> ((8 : Int32).toUInt32 &&& Int32.toUInt32 31)).toInt32)).toUInt32 >>> ((16 : Int32).toUInt32 &&& Int32.toUInt32 31)).toInt32))], [(.int ((((((((x - (((x).toUInt32 >>> ((1 : Int32).toUInt32 &&& Int32.toUInt32 31)).toInt32 &&& (1431655765))) &&& (858993459)) + ((((x - (((x).toUInt32 >>> ((1 : Int32).toUInt32 &&& Int32.toUInt32 31)).toInt32 &&& (1431655765)))).toUInt32 >>> ((2 : Int32).toUInt32 &&& Int32.toUInt32 31)).toInt32 &&& (858993459))) + (((((x - (((x).toUInt32 >>> ((1 : Int32).toUInt32 &&& Int32.toUInt32 31)).toInt32 &&& (1431655765))) &&& (858993459)) + ((((x - (((x).toUInt32 >>> ((1 : Int32).toUInt32 &&& Int32.toUInt32 31)).toInt32 &&& (1431655765)))).toUInt32 >>> ((2 : Int32).toUInt32 &&& Int32.toUInt32 31)).toInt32 &&& (858993459)))).toUInt32 >>> ((4 : Int32).toUInt32 &&& Int32.toUInt32 31)).toInt32) &&& (252645135)) + (((((((x - (((x).toUInt32 >>> ((1 : Int32).toUInt32 &&& Int32.toUInt32 31)).toInt32 &&& (1431655765))) &&& (858993459)) + ((((x - (((x).toUInt32 >>> ((1 : Int32).toUInt32 &&& Int32.toUInt32 31)).toInt32 &&& (1431655765)))).toUInt32 >>> ((2 : Int32).toUInt32 &&& Int32.toUInt32 31)).toInt32 &&& (858993459))) + (((((x - (((x).toUInt32 >>> ((1 : Int32).toUInt32 &&& Int32.toUInt32 31)).toInt32 &&& (1431655765))) &&& (858993459)) + ((((x - (((x).toUInt32 >>> ((1 : Int32).toUInt32 &&& Int32.toUInt32 31)).toInt32 &&& (1431655765)))).toUInt32 >>> ((2 : Int32).toUInt32 &&& Int32.toUInt32 31)).toInt32 &&& (858993459)))).toUInt32 >>> ((4 : Int32).toUInt32 &&& Int32.toUInt32 31)).toInt32) &&& (252645135))).toUInt32 >>> ((8 : Int32).toUInt32 &&& Int32.toUInt32 31)).toInt32) + ((((((((x - (((x).toUInt32 >>> ((1 : Int32).toUInt32 &&& Int32.toUInt32 31)).toInt32 &&& (1431655765))) &&& (858993459)) + ((((x - (((x).toUInt32 >>> ((1 : Int32).toUInt32 &&& Int32.toUInt32 31)).toInt32 &&& (1431655765)))).toUInt32 >>> ((2 : Int32).toUInt32 &&& Int32.toUInt32 31)).toInt32 &&& (858993459))) + (((((x - (((x).toUInt32 >>> ((1 : Int32).toUInt32 &&& Int32.toUInt32 31)).toInt32 &&& (1431655765))) &&& (858993459)) + ((((x - (((x).toUInt32 >>> ((1 : Int32).toUInt32 &&& Int32.toUInt32 31)).toInt32 &&& (1431655765)))).toUInt32 >>> ((2 : Int32).toUInt32 &&& Int32.toUInt32 31)).toInt32 &&& (858993459)))).toUInt32 >>> ((4 : Int32).toUInt32 &&& Int32.toUInt32 31)).toInt32) &&& (252645135)) + (((((((x - (((x).toUInt32 >>> ((1 : Int32).toUInt32 &&& Int32.toUInt32 31)).toInt32 &&& (1431655765))) &&& (858993459)) + ((((x - (((x).toUInt32 >>> ((1 : Int32).toUInt32 &&& Int32.toUInt32 31)).toInt32 &&& (1431655765)))).toUInt32 >>> ((2 : Int32).toUInt32 &&& Int32.toUInt32 31)).toInt32 &&& (858993459))) + (((((x - (((x).toUInt32 >>> ((1 : Int32).toUInt32 &&& Int32.toUInt32 31)).toInt32 &&& (1431655765))) &&& (858993459)) + ((((x - (((x).toUInt32 >>> ((1 : Int32).toUInt32 &&& Int32.toUInt32 31)).toInt32 &&& (1431655765)))).toUInt32 >>> ((2 : Int32).toUInt32 &&& Int32.toUInt32 31)).toInt32 &&& (858993459)))).toUInt32 >>> ((4 : Int32).toUInt32 &&& Int32.toUInt32 31)).toInt32) &&& (252645135))).toUInt32 >>> ((8 : Int32).toUInt32 &&& Int32.toUInt32 31)).toInt32)).toUInt32 >>> ((16 : Int32).toUInt32 &&& Int32.toUInt32 31)).toInt32) &&& 63))], s)) 41 rfl
   (d_ret (k := 0) rfl rfl)
noncomputable def m_T_isOne (d : Nat) (tt : Nat) (one : Int32) (s : qMem) : Option (Int32 × qMem) := qI (qCall qMT d 53 [.ref tt, .int one] s)
set_option maxRecDepth 20000 in
theorem e_T_isOne (d : Nat) (tt : Nat) (one : Int32) (hc : (tt = 1) ∨ (tt = 10)) (s : qMem) : m_T_isOne (d + 1) tt one s = (if one < 0 then some (0, s) else (if ((s).1 tt 1) ≤ one then some (0, s) else (if 5 ≤ one then some (0, s) else some (1, s)))) := by
  rcases hc with rfl | rfl
  · exact (d_step (t := (1, [some (.ref 1), some (.int one)], [(.int one)], s)) 1 rfl
     (d_if (a := (21, [some (.ref 1), some (.int one)], [], s)) (b := (4, [some (.ref 1), some (.int one)], [], s)) rfl rfl
     (d_step (t := (22, [some (.ref 1), some (.int one)], [(.int 0)], s)) 1 rfl
     (d_ret (k := 0) rfl rfl))
     (d_step (t := (9, [some (.ref 1), some (.int one)], [(.int ((s).1 1 1)), (.int one)], s)) 3 rfl
     (d_if (a := (21, [some (.ref 1), some (.int one)], [], s)) (b := (12, [some (.ref 1), some (.int one)], [], s)) rfl rfl
     (d_step (t := (22, [some (.ref 1), some (.int one)], [(.int 0)], s)) 1 rfl
     (d_ret (k := 0) rfl rfl))
     (d_step (t := (14, [some (.ref 1), some (.int one)], [(.int 5), (.int one)], s)) 2 rfl
     (d_if (a := (21, [some (.ref 1), some (.int one)], [], s)) (b := (17, [some (.ref 1), some (.int one)], [], s)) rfl rfl
     (d_step (t := (22, [some (.ref 1), some (.int one)], [(.int 0)], s)) 1 rfl
     (d_ret (k := 0) rfl rfl))
     (d_step (t := (22, [some (.ref 1), some (.int one)], [(.int 1)], s)) 2 rfl
     (d_ret (k := 0) rfl rfl))))))))
  · exact (d_step (t := (1, [some (.ref 10), some (.int one)], [(.int one)], s)) 1 rfl
     (d_if (a := (21, [some (.ref 10), some (.int one)], [], s)) (b := (4, [some (.ref 10), some (.int one)], [], s)) rfl rfl
     (d_step (t := (22, [some (.ref 10), some (.int one)], [(.int 0)], s)) 1 rfl
     (d_ret (k := 0) rfl rfl))
     (d_step (t := (9, [some (.ref 10), some (.int one)], [(.int ((s).1 10 1)), (.int one)], s)) 3 rfl
     (d_if (a := (21, [some (.ref 10), some (.int one)], [], s)) (b := (12, [some (.ref 10), some (.int one)], [], s)) rfl rfl
     (d_step (t := (22, [some (.ref 10), some (.int one)], [(.int 0)], s)) 1 rfl
     (d_ret (k := 0) rfl rfl))
     (d_step (t := (14, [some (.ref 10), some (.int one)], [(.int 5), (.int one)], s)) 2 rfl
     (d_if (a := (21, [some (.ref 10), some (.int one)], [], s)) (b := (17, [some (.ref 10), some (.int one)], [], s)) rfl rfl
     (d_step (t := (22, [some (.ref 10), some (.int one)], [(.int 0)], s)) 1 rfl
     (d_ret (k := 0) rfl rfl))
     (d_step (t := (22, [some (.ref 10), some (.int one)], [(.int 1)], s)) 2 rfl
     (d_ret (k := 0) rfl rfl))))))))
noncomputable def m_T_isStep (d : Nat) (tt : Nat) (st : Int32) (s : qMem) : Option (Int32 × qMem) := qI (qCall qMT d 54 [.ref tt, .int st] s)
set_option maxRecDepth 20000 in
theorem e_T_isStep (d : Nat) (tt : Nat) (st : Int32) (hc : (tt = 1) ∨ (tt = 10)) (s : qMem) : m_T_isStep (d + 1) tt st s = (if st < 0 then some (0, s) else (if ((s).1 tt 0) ≤ st then some (0, s) else (if 4 ≤ st then some (0, s) else some (1, s)))) := by
  rcases hc with rfl | rfl
  · exact (d_step (t := (1, [some (.ref 1), some (.int st)], [(.int st)], s)) 1 rfl
     (d_if (a := (21, [some (.ref 1), some (.int st)], [], s)) (b := (4, [some (.ref 1), some (.int st)], [], s)) rfl rfl
     (d_step (t := (22, [some (.ref 1), some (.int st)], [(.int 0)], s)) 1 rfl
     (d_ret (k := 0) rfl rfl))
     (d_step (t := (9, [some (.ref 1), some (.int st)], [(.int ((s).1 1 0)), (.int st)], s)) 3 rfl
     (d_if (a := (21, [some (.ref 1), some (.int st)], [], s)) (b := (12, [some (.ref 1), some (.int st)], [], s)) rfl rfl
     (d_step (t := (22, [some (.ref 1), some (.int st)], [(.int 0)], s)) 1 rfl
     (d_ret (k := 0) rfl rfl))
     (d_step (t := (14, [some (.ref 1), some (.int st)], [(.int 4), (.int st)], s)) 2 rfl
     (d_if (a := (21, [some (.ref 1), some (.int st)], [], s)) (b := (17, [some (.ref 1), some (.int st)], [], s)) rfl rfl
     (d_step (t := (22, [some (.ref 1), some (.int st)], [(.int 0)], s)) 1 rfl
     (d_ret (k := 0) rfl rfl))
     (d_step (t := (22, [some (.ref 1), some (.int st)], [(.int 1)], s)) 2 rfl
     (d_ret (k := 0) rfl rfl))))))))
  · exact (d_step (t := (1, [some (.ref 10), some (.int st)], [(.int st)], s)) 1 rfl
     (d_if (a := (21, [some (.ref 10), some (.int st)], [], s)) (b := (4, [some (.ref 10), some (.int st)], [], s)) rfl rfl
     (d_step (t := (22, [some (.ref 10), some (.int st)], [(.int 0)], s)) 1 rfl
     (d_ret (k := 0) rfl rfl))
     (d_step (t := (9, [some (.ref 10), some (.int st)], [(.int ((s).1 10 0)), (.int st)], s)) 3 rfl
     (d_if (a := (21, [some (.ref 10), some (.int st)], [], s)) (b := (12, [some (.ref 10), some (.int st)], [], s)) rfl rfl
     (d_step (t := (22, [some (.ref 10), some (.int st)], [(.int 0)], s)) 1 rfl
     (d_ret (k := 0) rfl rfl))
     (d_step (t := (14, [some (.ref 10), some (.int st)], [(.int 4), (.int st)], s)) 2 rfl
     (d_if (a := (21, [some (.ref 10), some (.int st)], [], s)) (b := (17, [some (.ref 10), some (.int st)], [], s)) rfl rfl
     (d_step (t := (22, [some (.ref 10), some (.int st)], [(.int 0)], s)) 1 rfl
     (d_ret (k := 0) rfl rfl))
     (d_step (t := (22, [some (.ref 10), some (.int st)], [(.int 1)], s)) 2 rfl
     (d_ret (k := 0) rfl rfl))))))))
noncomputable def m_T_goes (d : Nat) (tt : Nat) (one : Int32) (s : qMem) : Option (Int32 × qMem) := qI (qCall qMT d 56 [.ref tt, .int one] s)
set_option maxRecDepth 20000 in
theorem e_T_goes (d : Nat) (tt : Nat) (one : Int32) (hc : (tt = 1) ∨ (tt = 10)) (s : qMem) : m_T_goes (d + 1) tt one s = ((m_T_isOne d tt one s).bind (fun q1 => (if q1.1 = 0 then some (0, q1.2) else (if qIn one 5 then (if ((q1.2).1 (tt + 3) (one).toNatClampNeg) = 3 then some (0, q1.2) else some (1, q1.2)) else none)))) := by
  rcases hc with rfl | rfl
  · exact (d_step (t := (2, [some (.ref 1), some (.int one)], [(.int one), (.ref 1)], s)) 2 rfl
     (d_callI (o := (m_T_isOne d 1 one s)) rfl rfl (fun q1 =>
     d_if (a := (22, [some (.ref 1), some (.int one)], [], q1.2)) (b := (8, [some (.ref 1), some (.int one)], [], q1.2)) rfl rfl
     (d_step (t := (23, [some (.ref 1), some (.int one)], [(.int 0)], q1.2)) 1 rfl
     (d_ret (k := 0) rfl rfl))
     (d_step (t := (13, [some (.ref 1), some (.int one)], [(.int one), (.ref (1 + 3))], q1.2)) 3 rfl
     (d_chk (a := (14, [some (.ref 1), some (.int one)], [(.int ((q1.2).1 (1 + 3) (one).toNatClampNeg))], q1.2)) rfl rfl
     (d_step (t := (15, [some (.ref 1), some (.int one)], [(.int 3), (.int ((q1.2).1 (1 + 3) (one).toNatClampNeg))], q1.2)) 1 rfl
     (d_if (a := (22, [some (.ref 1), some (.int one)], [], q1.2)) (b := (18, [some (.ref 1), some (.int one)], [], q1.2)) rfl rfl
     (d_step (t := (23, [some (.ref 1), some (.int one)], [(.int 0)], q1.2)) 1 rfl
     (d_ret (k := 0) rfl rfl))
     (d_step (t := (23, [some (.ref 1), some (.int one)], [(.int 1)], q1.2)) 2 rfl
     (d_ret (k := 0) rfl rfl)))))))))
  · exact (d_step (t := (2, [some (.ref 10), some (.int one)], [(.int one), (.ref 10)], s)) 2 rfl
     (d_callI (o := (m_T_isOne d 10 one s)) rfl rfl (fun q1 =>
     d_if (a := (22, [some (.ref 10), some (.int one)], [], q1.2)) (b := (8, [some (.ref 10), some (.int one)], [], q1.2)) rfl rfl
     (d_step (t := (23, [some (.ref 10), some (.int one)], [(.int 0)], q1.2)) 1 rfl
     (d_ret (k := 0) rfl rfl))
     (d_step (t := (13, [some (.ref 10), some (.int one)], [(.int one), (.ref (10 + 3))], q1.2)) 3 rfl
     (d_chk (a := (14, [some (.ref 10), some (.int one)], [(.int ((q1.2).1 (10 + 3) (one).toNatClampNeg))], q1.2)) rfl rfl
     (d_step (t := (15, [some (.ref 10), some (.int one)], [(.int 3), (.int ((q1.2).1 (10 + 3) (one).toNatClampNeg))], q1.2)) 1 rfl
     (d_if (a := (22, [some (.ref 10), some (.int one)], [], q1.2)) (b := (18, [some (.ref 10), some (.int one)], [], q1.2)) rfl rfl
     (d_step (t := (23, [some (.ref 10), some (.int one)], [(.int 0)], q1.2)) 1 rfl
     (d_ret (k := 0) rfl rfl))
     (d_step (t := (23, [some (.ref 10), some (.int one)], [(.int 1)], q1.2)) 2 rfl
     (d_ret (k := 0) rfl rfl)))))))))
noncomputable def m_T_hand (d : Nat) (tt : Nat) (one : Int32) (s : qMem) : Option (Int32 × qMem) := qI (qCall qMT d 57 [.ref tt, .int one] s)
set_option maxRecDepth 20000 in
theorem e_T_hand (d : Nat) (tt : Nat) (one : Int32) (hc : (tt = 1) ∨ (tt = 10)) (s : qMem) : m_T_hand (d + 1) tt one s = ((m_T_isOne d tt one s).bind (fun q1 => (if q1.1 = 0 then some (0, q1.2) else (if qIn one 5 then (if ((q1.2).1 (tt + 3) (one).toNatClampNeg) = 1 then (if qIn one 5 then some ((2 * ((q1.2).1 (tt + 7) (one).toNatClampNeg)), q1.2) else none) else (if qIn one 5 then some (((q1.2).1 (tt + 7) (one).toNatClampNeg), q1.2) else none)) else none)))) := by
  rcases hc with rfl | rfl
  · exact (d_step (t := (2, [some (.ref 1), some (.int one)], [(.int one), (.ref 1)], s)) 2 rfl
     (d_callI (o := (m_T_isOne d 1 one s)) rfl rfl (fun q1 =>
     d_if (a := (8, [some (.ref 1), some (.int one)], [], q1.2)) (b := (10, [some (.ref 1), some (.int one)], [], q1.2)) rfl rfl
     (d_step (t := (9, [some (.ref 1), some (.int one)], [(.int 0)], q1.2)) 1 rfl
     (d_ret (k := 0) rfl rfl))
     (d_step (t := (15, [some (.ref 1), some (.int one)], [(.int one), (.ref (1 + 3))], q1.2)) 3 rfl
     (d_chk (a := (16, [some (.ref 1), some (.int one)], [(.int ((q1.2).1 (1 + 3) (one).toNatClampNeg))], q1.2)) rfl rfl
     (d_step (t := (17, [some (.ref 1), some (.int one)], [(.int 1), (.int ((q1.2).1 (1 + 3) (one).toNatClampNeg))], q1.2)) 1 rfl
     (d_if (a := (20, [some (.ref 1), some (.int one)], [], q1.2)) (b := (31, [some (.ref 1), some (.int one)], [], q1.2)) rfl rfl
     (d_step (t := (26, [some (.ref 1), some (.int one)], [(.int one), (.ref (1 + 7)), (.int 2)], q1.2)) 4 rfl
     (d_chk (a := (27, [some (.ref 1), some (.int one)], [(.int ((q1.2).1 (1 + 7) (one).toNatClampNeg)), (.int 2)], q1.2)) rfl rfl
     (d_step (t := (37, [some (.ref 1), some (.int one)], [(.int (2 * ((q1.2).1 (1 + 7) (one).toNatClampNeg)))], q1.2)) 2 rfl
     (d_ret (k := 0) rfl rfl))))
     (d_step (t := (36, [some (.ref 1), some (.int one)], [(.int one), (.ref (1 + 7))], q1.2)) 3 rfl
     (d_chk (a := (37, [some (.ref 1), some (.int one)], [(.int ((q1.2).1 (1 + 7) (one).toNatClampNeg))], q1.2)) rfl rfl
     (d_ret (k := 0) rfl rfl))))))))))
  · exact (d_step (t := (2, [some (.ref 10), some (.int one)], [(.int one), (.ref 10)], s)) 2 rfl
     (d_callI (o := (m_T_isOne d 10 one s)) rfl rfl (fun q1 =>
     d_if (a := (8, [some (.ref 10), some (.int one)], [], q1.2)) (b := (10, [some (.ref 10), some (.int one)], [], q1.2)) rfl rfl
     (d_step (t := (9, [some (.ref 10), some (.int one)], [(.int 0)], q1.2)) 1 rfl
     (d_ret (k := 0) rfl rfl))
     (d_step (t := (15, [some (.ref 10), some (.int one)], [(.int one), (.ref (10 + 3))], q1.2)) 3 rfl
     (d_chk (a := (16, [some (.ref 10), some (.int one)], [(.int ((q1.2).1 (10 + 3) (one).toNatClampNeg))], q1.2)) rfl rfl
     (d_step (t := (17, [some (.ref 10), some (.int one)], [(.int 1), (.int ((q1.2).1 (10 + 3) (one).toNatClampNeg))], q1.2)) 1 rfl
     (d_if (a := (20, [some (.ref 10), some (.int one)], [], q1.2)) (b := (31, [some (.ref 10), some (.int one)], [], q1.2)) rfl rfl
     (d_step (t := (26, [some (.ref 10), some (.int one)], [(.int one), (.ref (10 + 7)), (.int 2)], q1.2)) 4 rfl
     (d_chk (a := (27, [some (.ref 10), some (.int one)], [(.int ((q1.2).1 (10 + 7) (one).toNatClampNeg)), (.int 2)], q1.2)) rfl rfl
     (d_step (t := (37, [some (.ref 10), some (.int one)], [(.int (2 * ((q1.2).1 (10 + 7) (one).toNatClampNeg)))], q1.2)) 2 rfl
     (d_ret (k := 0) rfl rfl))))
     (d_step (t := (36, [some (.ref 10), some (.int one)], [(.int one), (.ref (10 + 7))], q1.2)) 3 rfl
     (d_chk (a := (37, [some (.ref 10), some (.int one)], [(.int ((q1.2).1 (10 + 7) (one).toNatClampNeg))], q1.2)) rfl rfl
     (d_ret (k := 0) rfl rfl))))))))))
noncomputable def m_T_tallness (d : Nat) (tt : Nat) (one : Int32) (s : qMem) : Option (Int32 × qMem) := qI (qCall qMT d 58 [.ref tt, .int one] s)
set_option maxRecDepth 20000 in
theorem e_T_tallness (d : Nat) (tt : Nat) (one : Int32) (hc : (tt = 1) ∨ (tt = 10)) (s : qMem) : m_T_tallness (d + 1) tt one s = ((m_T_isOne d tt one s).bind (fun q1 => (if q1.1 = 0 then some (0, q1.2) else (if qIn one 5 then some (((q1.2).1 (tt + 4) (one).toNatClampNeg), q1.2) else none)))) := by
  rcases hc with rfl | rfl
  · exact (d_step (t := (2, [some (.ref 1), some (.int one)], [(.int one), (.ref 1)], s)) 2 rfl
     (d_callI (o := (m_T_isOne d 1 one s)) rfl rfl (fun q1 =>
     d_if (a := (17, [some (.ref 1), some (.int one)], [], q1.2)) (b := (8, [some (.ref 1), some (.int one)], [], q1.2)) rfl rfl
     (d_step (t := (18, [some (.ref 1), some (.int one)], [(.int 0)], q1.2)) 1 rfl
     (d_ret (k := 0) rfl rfl))
     (d_step (t := (13, [some (.ref 1), some (.int one)], [(.int one), (.ref (1 + 4))], q1.2)) 3 rfl
     (d_chk (a := (14, [some (.ref 1), some (.int one)], [(.int ((q1.2).1 (1 + 4) (one).toNatClampNeg))], q1.2)) rfl rfl
     (d_step (t := (18, [some (.ref 1), some (.int one)], [(.int ((q1.2).1 (1 + 4) (one).toNatClampNeg))], q1.2)) 1 rfl
     (d_ret (k := 0) rfl rfl)))))))
  · exact (d_step (t := (2, [some (.ref 10), some (.int one)], [(.int one), (.ref 10)], s)) 2 rfl
     (d_callI (o := (m_T_isOne d 10 one s)) rfl rfl (fun q1 =>
     d_if (a := (17, [some (.ref 10), some (.int one)], [], q1.2)) (b := (8, [some (.ref 10), some (.int one)], [], q1.2)) rfl rfl
     (d_step (t := (18, [some (.ref 10), some (.int one)], [(.int 0)], q1.2)) 1 rfl
     (d_ret (k := 0) rfl rfl))
     (d_step (t := (13, [some (.ref 10), some (.int one)], [(.int one), (.ref (10 + 4))], q1.2)) 3 rfl
     (d_chk (a := (14, [some (.ref 10), some (.int one)], [(.int ((q1.2).1 (10 + 4) (one).toNatClampNeg))], q1.2)) rfl rfl
     (d_step (t := (18, [some (.ref 10), some (.int one)], [(.int ((q1.2).1 (10 + 4) (one).toNatClampNeg))], q1.2)) 1 rfl
     (d_ret (k := 0) rfl rfl)))))))
noncomputable def m_T_standsAt (d : Nat) (tt : Nat) (h : Int32) (one : Int32) (ab : Int32) (rr : Nat) (s : qMem) : Option (Int32 × qMem) := qI (qCall qMT d 73 [.ref tt, .int h, .int one, .int ab, .ref rr] s)
set_option maxRecDepth 20000 in
theorem e_T_standsAt (d : Nat) (tt : Nat) (h : Int32) (one : Int32) (ab : Int32) (rr : Nat) (hc : (tt = 1 ∧ rr = 23) ∨ (tt = 1 ∧ rr = 30) ∨ (tt = 1 ∧ rr = 33) ∨ (tt = 10 ∧ rr = 30)) (s : qMem) : m_T_standsAt (d + 1) tt h one ab rr s = ((m_T_isOne d tt h s).bind (fun q1 => (if q1.1 = 0 then some (0, q1.2) else (if h = one then some (0, q1.2) else (if qIn h 5 then (if qIn one 5 then (if ((q1.2).1 rr (h).toNatClampNeg) = (((q1.2).1 rr (one).toNatClampNeg) + ab) then some (1, q1.2) else some (0, q1.2)) else none) else none))))) := by
  rcases hc with ⟨rfl, rfl⟩ | ⟨rfl, rfl⟩ | ⟨rfl, rfl⟩ | ⟨rfl, rfl⟩
  · exact (d_step (t := (2, [some (.ref 1), some (.int h), some (.int one), some (.int ab), some (.ref 23)], [(.int h), (.ref 1)], s)) 2 rfl
     (d_callI (o := (m_T_isOne d 1 h s)) rfl rfl (fun q1 =>
     d_if (a := (30, [some (.ref 1), some (.int h), some (.int one), some (.int ab), some (.ref 23)], [], q1.2)) (b := (8, [some (.ref 1), some (.int h), some (.int one), some (.int ab), some (.ref 23)], [], q1.2)) rfl rfl
     (d_step (t := (31, [some (.ref 1), some (.int h), some (.int one), some (.int ab), some (.ref 23)], [(.int 0)], q1.2)) 1 rfl
     (d_ret (k := 0) rfl rfl))
     (d_step (t := (10, [some (.ref 1), some (.int h), some (.int one), some (.int ab), some (.ref 23)], [(.int one), (.int h)], q1.2)) 2 rfl
     (d_if (a := (30, [some (.ref 1), some (.int h), some (.int one), some (.int ab), some (.ref 23)], [], q1.2)) (b := (13, [some (.ref 1), some (.int h), some (.int one), some (.int ab), some (.ref 23)], [], q1.2)) rfl rfl
     (d_step (t := (31, [some (.ref 1), some (.int h), some (.int one), some (.int ab), some (.ref 23)], [(.int 0)], q1.2)) 1 rfl
     (d_ret (k := 0) rfl rfl))
     (d_step (t := (16, [some (.ref 1), some (.int h), some (.int one), some (.int ab), some (.ref 23)], [(.int h), (.ref 23)], q1.2)) 2 rfl
     (d_chk (a := (17, [some (.ref 1), some (.int h), some (.int one), some (.int ab), some (.ref 23)], [(.int ((q1.2).1 23 (h).toNatClampNeg))], q1.2)) rfl rfl
     (d_step (t := (20, [some (.ref 1), some (.int h), some (.int one), some (.int ab), some (.ref 23)], [(.int one), (.ref 23), (.int ((q1.2).1 23 (h).toNatClampNeg))], q1.2)) 2 rfl
     (d_chk (a := (21, [some (.ref 1), some (.int h), some (.int one), some (.int ab), some (.ref 23)], [(.int ((q1.2).1 23 (one).toNatClampNeg)), (.int ((q1.2).1 23 (h).toNatClampNeg))], q1.2)) rfl rfl
     (d_step (t := (23, [some (.ref 1), some (.int h), some (.int one), some (.int ab), some (.ref 23)], [(.int (((q1.2).1 23 (one).toNatClampNeg) + ab)), (.int ((q1.2).1 23 (h).toNatClampNeg))], q1.2)) 2 rfl
     (d_if (a := (26, [some (.ref 1), some (.int h), some (.int one), some (.int ab), some (.ref 23)], [], q1.2)) (b := (30, [some (.ref 1), some (.int h), some (.int one), some (.int ab), some (.ref 23)], [], q1.2)) rfl rfl
     (d_step (t := (31, [some (.ref 1), some (.int h), some (.int one), some (.int ab), some (.ref 23)], [(.int 1)], q1.2)) 2 rfl
     (d_ret (k := 0) rfl rfl))
     (d_step (t := (31, [some (.ref 1), some (.int h), some (.int one), some (.int ab), some (.ref 23)], [(.int 0)], q1.2)) 1 rfl
     (d_ret (k := 0) rfl rfl)))))))))))))
  · exact (d_step (t := (2, [some (.ref 1), some (.int h), some (.int one), some (.int ab), some (.ref 30)], [(.int h), (.ref 1)], s)) 2 rfl
     (d_callI (o := (m_T_isOne d 1 h s)) rfl rfl (fun q1 =>
     d_if (a := (30, [some (.ref 1), some (.int h), some (.int one), some (.int ab), some (.ref 30)], [], q1.2)) (b := (8, [some (.ref 1), some (.int h), some (.int one), some (.int ab), some (.ref 30)], [], q1.2)) rfl rfl
     (d_step (t := (31, [some (.ref 1), some (.int h), some (.int one), some (.int ab), some (.ref 30)], [(.int 0)], q1.2)) 1 rfl
     (d_ret (k := 0) rfl rfl))
     (d_step (t := (10, [some (.ref 1), some (.int h), some (.int one), some (.int ab), some (.ref 30)], [(.int one), (.int h)], q1.2)) 2 rfl
     (d_if (a := (30, [some (.ref 1), some (.int h), some (.int one), some (.int ab), some (.ref 30)], [], q1.2)) (b := (13, [some (.ref 1), some (.int h), some (.int one), some (.int ab), some (.ref 30)], [], q1.2)) rfl rfl
     (d_step (t := (31, [some (.ref 1), some (.int h), some (.int one), some (.int ab), some (.ref 30)], [(.int 0)], q1.2)) 1 rfl
     (d_ret (k := 0) rfl rfl))
     (d_step (t := (16, [some (.ref 1), some (.int h), some (.int one), some (.int ab), some (.ref 30)], [(.int h), (.ref 30)], q1.2)) 2 rfl
     (d_chk (a := (17, [some (.ref 1), some (.int h), some (.int one), some (.int ab), some (.ref 30)], [(.int ((q1.2).1 30 (h).toNatClampNeg))], q1.2)) rfl rfl
     (d_step (t := (20, [some (.ref 1), some (.int h), some (.int one), some (.int ab), some (.ref 30)], [(.int one), (.ref 30), (.int ((q1.2).1 30 (h).toNatClampNeg))], q1.2)) 2 rfl
     (d_chk (a := (21, [some (.ref 1), some (.int h), some (.int one), some (.int ab), some (.ref 30)], [(.int ((q1.2).1 30 (one).toNatClampNeg)), (.int ((q1.2).1 30 (h).toNatClampNeg))], q1.2)) rfl rfl
     (d_step (t := (23, [some (.ref 1), some (.int h), some (.int one), some (.int ab), some (.ref 30)], [(.int (((q1.2).1 30 (one).toNatClampNeg) + ab)), (.int ((q1.2).1 30 (h).toNatClampNeg))], q1.2)) 2 rfl
     (d_if (a := (26, [some (.ref 1), some (.int h), some (.int one), some (.int ab), some (.ref 30)], [], q1.2)) (b := (30, [some (.ref 1), some (.int h), some (.int one), some (.int ab), some (.ref 30)], [], q1.2)) rfl rfl
     (d_step (t := (31, [some (.ref 1), some (.int h), some (.int one), some (.int ab), some (.ref 30)], [(.int 1)], q1.2)) 2 rfl
     (d_ret (k := 0) rfl rfl))
     (d_step (t := (31, [some (.ref 1), some (.int h), some (.int one), some (.int ab), some (.ref 30)], [(.int 0)], q1.2)) 1 rfl
     (d_ret (k := 0) rfl rfl)))))))))))))
  · exact (d_step (t := (2, [some (.ref 1), some (.int h), some (.int one), some (.int ab), some (.ref 33)], [(.int h), (.ref 1)], s)) 2 rfl
     (d_callI (o := (m_T_isOne d 1 h s)) rfl rfl (fun q1 =>
     d_if (a := (30, [some (.ref 1), some (.int h), some (.int one), some (.int ab), some (.ref 33)], [], q1.2)) (b := (8, [some (.ref 1), some (.int h), some (.int one), some (.int ab), some (.ref 33)], [], q1.2)) rfl rfl
     (d_step (t := (31, [some (.ref 1), some (.int h), some (.int one), some (.int ab), some (.ref 33)], [(.int 0)], q1.2)) 1 rfl
     (d_ret (k := 0) rfl rfl))
     (d_step (t := (10, [some (.ref 1), some (.int h), some (.int one), some (.int ab), some (.ref 33)], [(.int one), (.int h)], q1.2)) 2 rfl
     (d_if (a := (30, [some (.ref 1), some (.int h), some (.int one), some (.int ab), some (.ref 33)], [], q1.2)) (b := (13, [some (.ref 1), some (.int h), some (.int one), some (.int ab), some (.ref 33)], [], q1.2)) rfl rfl
     (d_step (t := (31, [some (.ref 1), some (.int h), some (.int one), some (.int ab), some (.ref 33)], [(.int 0)], q1.2)) 1 rfl
     (d_ret (k := 0) rfl rfl))
     (d_step (t := (16, [some (.ref 1), some (.int h), some (.int one), some (.int ab), some (.ref 33)], [(.int h), (.ref 33)], q1.2)) 2 rfl
     (d_chk (a := (17, [some (.ref 1), some (.int h), some (.int one), some (.int ab), some (.ref 33)], [(.int ((q1.2).1 33 (h).toNatClampNeg))], q1.2)) rfl rfl
     (d_step (t := (20, [some (.ref 1), some (.int h), some (.int one), some (.int ab), some (.ref 33)], [(.int one), (.ref 33), (.int ((q1.2).1 33 (h).toNatClampNeg))], q1.2)) 2 rfl
     (d_chk (a := (21, [some (.ref 1), some (.int h), some (.int one), some (.int ab), some (.ref 33)], [(.int ((q1.2).1 33 (one).toNatClampNeg)), (.int ((q1.2).1 33 (h).toNatClampNeg))], q1.2)) rfl rfl
     (d_step (t := (23, [some (.ref 1), some (.int h), some (.int one), some (.int ab), some (.ref 33)], [(.int (((q1.2).1 33 (one).toNatClampNeg) + ab)), (.int ((q1.2).1 33 (h).toNatClampNeg))], q1.2)) 2 rfl
     (d_if (a := (26, [some (.ref 1), some (.int h), some (.int one), some (.int ab), some (.ref 33)], [], q1.2)) (b := (30, [some (.ref 1), some (.int h), some (.int one), some (.int ab), some (.ref 33)], [], q1.2)) rfl rfl
     (d_step (t := (31, [some (.ref 1), some (.int h), some (.int one), some (.int ab), some (.ref 33)], [(.int 1)], q1.2)) 2 rfl
     (d_ret (k := 0) rfl rfl))
     (d_step (t := (31, [some (.ref 1), some (.int h), some (.int one), some (.int ab), some (.ref 33)], [(.int 0)], q1.2)) 1 rfl
     (d_ret (k := 0) rfl rfl)))))))))))))
  · exact (d_step (t := (2, [some (.ref 10), some (.int h), some (.int one), some (.int ab), some (.ref 30)], [(.int h), (.ref 10)], s)) 2 rfl
     (d_callI (o := (m_T_isOne d 10 h s)) rfl rfl (fun q1 =>
     d_if (a := (30, [some (.ref 10), some (.int h), some (.int one), some (.int ab), some (.ref 30)], [], q1.2)) (b := (8, [some (.ref 10), some (.int h), some (.int one), some (.int ab), some (.ref 30)], [], q1.2)) rfl rfl
     (d_step (t := (31, [some (.ref 10), some (.int h), some (.int one), some (.int ab), some (.ref 30)], [(.int 0)], q1.2)) 1 rfl
     (d_ret (k := 0) rfl rfl))
     (d_step (t := (10, [some (.ref 10), some (.int h), some (.int one), some (.int ab), some (.ref 30)], [(.int one), (.int h)], q1.2)) 2 rfl
     (d_if (a := (30, [some (.ref 10), some (.int h), some (.int one), some (.int ab), some (.ref 30)], [], q1.2)) (b := (13, [some (.ref 10), some (.int h), some (.int one), some (.int ab), some (.ref 30)], [], q1.2)) rfl rfl
     (d_step (t := (31, [some (.ref 10), some (.int h), some (.int one), some (.int ab), some (.ref 30)], [(.int 0)], q1.2)) 1 rfl
     (d_ret (k := 0) rfl rfl))
     (d_step (t := (16, [some (.ref 10), some (.int h), some (.int one), some (.int ab), some (.ref 30)], [(.int h), (.ref 30)], q1.2)) 2 rfl
     (d_chk (a := (17, [some (.ref 10), some (.int h), some (.int one), some (.int ab), some (.ref 30)], [(.int ((q1.2).1 30 (h).toNatClampNeg))], q1.2)) rfl rfl
     (d_step (t := (20, [some (.ref 10), some (.int h), some (.int one), some (.int ab), some (.ref 30)], [(.int one), (.ref 30), (.int ((q1.2).1 30 (h).toNatClampNeg))], q1.2)) 2 rfl
     (d_chk (a := (21, [some (.ref 10), some (.int h), some (.int one), some (.int ab), some (.ref 30)], [(.int ((q1.2).1 30 (one).toNatClampNeg)), (.int ((q1.2).1 30 (h).toNatClampNeg))], q1.2)) rfl rfl
     (d_step (t := (23, [some (.ref 10), some (.int h), some (.int one), some (.int ab), some (.ref 30)], [(.int (((q1.2).1 30 (one).toNatClampNeg) + ab)), (.int ((q1.2).1 30 (h).toNatClampNeg))], q1.2)) 2 rfl
     (d_if (a := (26, [some (.ref 10), some (.int h), some (.int one), some (.int ab), some (.ref 30)], [], q1.2)) (b := (30, [some (.ref 10), some (.int h), some (.int one), some (.int ab), some (.ref 30)], [], q1.2)) rfl rfl
     (d_step (t := (31, [some (.ref 10), some (.int h), some (.int one), some (.int ab), some (.ref 30)], [(.int 1)], q1.2)) 2 rfl
     (d_ret (k := 0) rfl rfl))
     (d_step (t := (31, [some (.ref 10), some (.int h), some (.int one), some (.int ab), some (.ref 30)], [(.int 0)], q1.2)) 1 rfl
     (d_ret (k := 0) rfl rfl)))))))))))))
noncomputable def m_T_standsFor (d : Nat) (tt : Nat) (h : Int32) (one : Int32) (ab : Int32) (rr : Nat) (s : qMem) : Option (Int32 × qMem) := qI (qCall qMT d 72 [.ref tt, .int h, .int one, .int ab, .ref rr] s)
set_option maxRecDepth 20000 in
theorem e_T_standsFor (d : Nat) (tt : Nat) (h : Int32) (one : Int32) (ab : Int32) (rr : Nat) (hc : (tt = 1 ∧ rr = 23) ∨ (tt = 1 ∧ rr = 30) ∨ (tt = 1 ∧ rr = 33) ∨ (tt = 10 ∧ rr = 30)) (s : qMem) : m_T_standsFor (d + 1) tt h one ab rr s = (if h = (-1) then some (1, s) else ((m_T_standsAt d tt h one ab rr s).bind (fun q1 => (if q1.1 = 0 then some (0, q1.2) else some (1, q1.2))))) := by
  rcases hc with ⟨rfl, rfl⟩ | ⟨rfl, rfl⟩ | ⟨rfl, rfl⟩ | ⟨rfl, rfl⟩
  · exact (d_step (t := (2, [some (.ref 1), some (.int h), some (.int one), some (.int ab), some (.ref 23)], [(.int (-1)), (.int h)], s)) 2 rfl
     (d_if (a := (17, [some (.ref 1), some (.int h), some (.int one), some (.int ab), some (.ref 23)], [], s)) (b := (5, [some (.ref 1), some (.int h), some (.int one), some (.int ab), some (.ref 23)], [], s)) rfl rfl
     (d_step (t := (22, [some (.ref 1), some (.int h), some (.int one), some (.int ab), some (.ref 23)], [(.int 1)], s)) 2 rfl
     (d_ret (k := 0) rfl rfl))
     (d_step (t := (11, [some (.ref 1), some (.int h), some (.int one), some (.int ab), some (.ref 23)], [(.ref 23), (.int ab), (.int one), (.int h), (.ref 1)], s)) 5 rfl
     (d_callI (o := (m_T_standsAt d 1 h one ab 23 s)) rfl rfl (fun q1 =>
     d_if (a := (21, [some (.ref 1), some (.int h), some (.int one), some (.int ab), some (.ref 23)], [], q1.2)) (b := (17, [some (.ref 1), some (.int h), some (.int one), some (.int ab), some (.ref 23)], [], q1.2)) rfl rfl
     (d_step (t := (22, [some (.ref 1), some (.int h), some (.int one), some (.int ab), some (.ref 23)], [(.int 0)], q1.2)) 1 rfl
     (d_ret (k := 0) rfl rfl))
     (d_step (t := (22, [some (.ref 1), some (.int h), some (.int one), some (.int ab), some (.ref 23)], [(.int 1)], q1.2)) 2 rfl
     (d_ret (k := 0) rfl rfl)))))))
  · exact (d_step (t := (2, [some (.ref 1), some (.int h), some (.int one), some (.int ab), some (.ref 30)], [(.int (-1)), (.int h)], s)) 2 rfl
     (d_if (a := (17, [some (.ref 1), some (.int h), some (.int one), some (.int ab), some (.ref 30)], [], s)) (b := (5, [some (.ref 1), some (.int h), some (.int one), some (.int ab), some (.ref 30)], [], s)) rfl rfl
     (d_step (t := (22, [some (.ref 1), some (.int h), some (.int one), some (.int ab), some (.ref 30)], [(.int 1)], s)) 2 rfl
     (d_ret (k := 0) rfl rfl))
     (d_step (t := (11, [some (.ref 1), some (.int h), some (.int one), some (.int ab), some (.ref 30)], [(.ref 30), (.int ab), (.int one), (.int h), (.ref 1)], s)) 5 rfl
     (d_callI (o := (m_T_standsAt d 1 h one ab 30 s)) rfl rfl (fun q1 =>
     d_if (a := (21, [some (.ref 1), some (.int h), some (.int one), some (.int ab), some (.ref 30)], [], q1.2)) (b := (17, [some (.ref 1), some (.int h), some (.int one), some (.int ab), some (.ref 30)], [], q1.2)) rfl rfl
     (d_step (t := (22, [some (.ref 1), some (.int h), some (.int one), some (.int ab), some (.ref 30)], [(.int 0)], q1.2)) 1 rfl
     (d_ret (k := 0) rfl rfl))
     (d_step (t := (22, [some (.ref 1), some (.int h), some (.int one), some (.int ab), some (.ref 30)], [(.int 1)], q1.2)) 2 rfl
     (d_ret (k := 0) rfl rfl)))))))
  · exact (d_step (t := (2, [some (.ref 1), some (.int h), some (.int one), some (.int ab), some (.ref 33)], [(.int (-1)), (.int h)], s)) 2 rfl
     (d_if (a := (17, [some (.ref 1), some (.int h), some (.int one), some (.int ab), some (.ref 33)], [], s)) (b := (5, [some (.ref 1), some (.int h), some (.int one), some (.int ab), some (.ref 33)], [], s)) rfl rfl
     (d_step (t := (22, [some (.ref 1), some (.int h), some (.int one), some (.int ab), some (.ref 33)], [(.int 1)], s)) 2 rfl
     (d_ret (k := 0) rfl rfl))
     (d_step (t := (11, [some (.ref 1), some (.int h), some (.int one), some (.int ab), some (.ref 33)], [(.ref 33), (.int ab), (.int one), (.int h), (.ref 1)], s)) 5 rfl
     (d_callI (o := (m_T_standsAt d 1 h one ab 33 s)) rfl rfl (fun q1 =>
     d_if (a := (21, [some (.ref 1), some (.int h), some (.int one), some (.int ab), some (.ref 33)], [], q1.2)) (b := (17, [some (.ref 1), some (.int h), some (.int one), some (.int ab), some (.ref 33)], [], q1.2)) rfl rfl
     (d_step (t := (22, [some (.ref 1), some (.int h), some (.int one), some (.int ab), some (.ref 33)], [(.int 0)], q1.2)) 1 rfl
     (d_ret (k := 0) rfl rfl))
     (d_step (t := (22, [some (.ref 1), some (.int h), some (.int one), some (.int ab), some (.ref 33)], [(.int 1)], q1.2)) 2 rfl
     (d_ret (k := 0) rfl rfl)))))))
  · exact (d_step (t := (2, [some (.ref 10), some (.int h), some (.int one), some (.int ab), some (.ref 30)], [(.int (-1)), (.int h)], s)) 2 rfl
     (d_if (a := (17, [some (.ref 10), some (.int h), some (.int one), some (.int ab), some (.ref 30)], [], s)) (b := (5, [some (.ref 10), some (.int h), some (.int one), some (.int ab), some (.ref 30)], [], s)) rfl rfl
     (d_step (t := (22, [some (.ref 10), some (.int h), some (.int one), some (.int ab), some (.ref 30)], [(.int 1)], s)) 2 rfl
     (d_ret (k := 0) rfl rfl))
     (d_step (t := (11, [some (.ref 10), some (.int h), some (.int one), some (.int ab), some (.ref 30)], [(.ref 30), (.int ab), (.int one), (.int h), (.ref 10)], s)) 5 rfl
     (d_callI (o := (m_T_standsAt d 10 h one ab 30 s)) rfl rfl (fun q1 =>
     d_if (a := (21, [some (.ref 10), some (.int h), some (.int one), some (.int ab), some (.ref 30)], [], q1.2)) (b := (17, [some (.ref 10), some (.int h), some (.int one), some (.int ab), some (.ref 30)], [], q1.2)) rfl rfl
     (d_step (t := (22, [some (.ref 10), some (.int h), some (.int one), some (.int ab), some (.ref 30)], [(.int 0)], q1.2)) 1 rfl
     (d_ret (k := 0) rfl rfl))
     (d_step (t := (22, [some (.ref 10), some (.int h), some (.int one), some (.int ab), some (.ref 30)], [(.int 1)], q1.2)) 2 rfl
     (d_ret (k := 0) rfl rfl)))))))
noncomputable def m_T_risesAlone (d : Nat) (tt : Nat) (one : Int32) (st : Int32) (s : qMem) : Option (Int32 × qMem) := qI (qCall qMT d 68 [.ref tt, .int one, .int st] s)
set_option maxRecDepth 20000 in
theorem e_T_risesAlone (d : Nat) (tt : Nat) (one : Int32) (st : Int32) (hc : (tt = 1) ∨ (tt = 10)) (s : qMem) : m_T_risesAlone (d + 1) tt one st s = (if qIn one 5 then (if qIn st 4 then (if ((s).1 (tt + 1) (st).toNatClampNeg) ≤ ((s).1 (tt + 4) (one).toNatClampNeg) then some (1, s) else (if qIn st 4 then (if ((s).1 (tt + 2) (st).toNatClampNeg) = 0 then some (0, s) else (if qIn one 5 then (if qIn one 5 then (if ((s).1 (tt + 7) (one).toNatClampNeg) < ((s).1 (tt + 6) (one).toNatClampNeg) then some (0, s) else some (1, s)) else none) else none)) else none)) else none) else none) := by
  rcases hc with rfl | rfl
  · exact (d_step (t := (5, [some (.ref 1), some (.int one), some (.int st)], [(.int one), (.ref (1 + 4))], s)) 3 rfl
     (d_chk (a := (6, [some (.ref 1), some (.int one), some (.int st)], [(.int ((s).1 (1 + 4) (one).toNatClampNeg))], s)) rfl rfl
     (d_step (t := (11, [some (.ref 1), some (.int one), some (.int st)], [(.int st), (.ref (1 + 1)), (.int ((s).1 (1 + 4) (one).toNatClampNeg))], s)) 3 rfl
     (d_chk (a := (12, [some (.ref 1), some (.int one), some (.int st)], [(.int ((s).1 (1 + 1) (st).toNatClampNeg)), (.int ((s).1 (1 + 4) (one).toNatClampNeg))], s)) rfl rfl
     (d_if (a := (39, [some (.ref 1), some (.int one), some (.int st)], [], s)) (b := (15, [some (.ref 1), some (.int one), some (.int st)], [], s)) rfl rfl
     (d_step (t := (44, [some (.ref 1), some (.int one), some (.int st)], [(.int 1)], s)) 2 rfl
     (d_ret (k := 0) rfl rfl))
     (d_step (t := (20, [some (.ref 1), some (.int one), some (.int st)], [(.int st), (.ref (1 + 2))], s)) 3 rfl
     (d_chk (a := (21, [some (.ref 1), some (.int one), some (.int st)], [(.int ((s).1 (1 + 2) (st).toNatClampNeg))], s)) rfl rfl
     (d_if (a := (43, [some (.ref 1), some (.int one), some (.int st)], [], s)) (b := (24, [some (.ref 1), some (.int one), some (.int st)], [], s)) rfl rfl
     (d_step (t := (44, [some (.ref 1), some (.int one), some (.int st)], [(.int 0)], s)) 1 rfl
     (d_ret (k := 0) rfl rfl))
     (d_step (t := (29, [some (.ref 1), some (.int one), some (.int st)], [(.int one), (.ref (1 + 7))], s)) 3 rfl
     (d_chk (a := (30, [some (.ref 1), some (.int one), some (.int st)], [(.int ((s).1 (1 + 7) (one).toNatClampNeg))], s)) rfl rfl
     (d_step (t := (35, [some (.ref 1), some (.int one), some (.int st)], [(.int one), (.ref (1 + 6)), (.int ((s).1 (1 + 7) (one).toNatClampNeg))], s)) 3 rfl
     (d_chk (a := (36, [some (.ref 1), some (.int one), some (.int st)], [(.int ((s).1 (1 + 6) (one).toNatClampNeg)), (.int ((s).1 (1 + 7) (one).toNatClampNeg))], s)) rfl rfl
     (d_if (a := (43, [some (.ref 1), some (.int one), some (.int st)], [], s)) (b := (39, [some (.ref 1), some (.int one), some (.int st)], [], s)) rfl rfl
     (d_step (t := (44, [some (.ref 1), some (.int one), some (.int st)], [(.int 0)], s)) 1 rfl
     (d_ret (k := 0) rfl rfl))
     (d_step (t := (44, [some (.ref 1), some (.int one), some (.int st)], [(.int 1)], s)) 2 rfl
     (d_ret (k := 0) rfl rfl)))))))))))))))
  · exact (d_step (t := (5, [some (.ref 10), some (.int one), some (.int st)], [(.int one), (.ref (10 + 4))], s)) 3 rfl
     (d_chk (a := (6, [some (.ref 10), some (.int one), some (.int st)], [(.int ((s).1 (10 + 4) (one).toNatClampNeg))], s)) rfl rfl
     (d_step (t := (11, [some (.ref 10), some (.int one), some (.int st)], [(.int st), (.ref (10 + 1)), (.int ((s).1 (10 + 4) (one).toNatClampNeg))], s)) 3 rfl
     (d_chk (a := (12, [some (.ref 10), some (.int one), some (.int st)], [(.int ((s).1 (10 + 1) (st).toNatClampNeg)), (.int ((s).1 (10 + 4) (one).toNatClampNeg))], s)) rfl rfl
     (d_if (a := (39, [some (.ref 10), some (.int one), some (.int st)], [], s)) (b := (15, [some (.ref 10), some (.int one), some (.int st)], [], s)) rfl rfl
     (d_step (t := (44, [some (.ref 10), some (.int one), some (.int st)], [(.int 1)], s)) 2 rfl
     (d_ret (k := 0) rfl rfl))
     (d_step (t := (20, [some (.ref 10), some (.int one), some (.int st)], [(.int st), (.ref (10 + 2))], s)) 3 rfl
     (d_chk (a := (21, [some (.ref 10), some (.int one), some (.int st)], [(.int ((s).1 (10 + 2) (st).toNatClampNeg))], s)) rfl rfl
     (d_if (a := (43, [some (.ref 10), some (.int one), some (.int st)], [], s)) (b := (24, [some (.ref 10), some (.int one), some (.int st)], [], s)) rfl rfl
     (d_step (t := (44, [some (.ref 10), some (.int one), some (.int st)], [(.int 0)], s)) 1 rfl
     (d_ret (k := 0) rfl rfl))
     (d_step (t := (29, [some (.ref 10), some (.int one), some (.int st)], [(.int one), (.ref (10 + 7))], s)) 3 rfl
     (d_chk (a := (30, [some (.ref 10), some (.int one), some (.int st)], [(.int ((s).1 (10 + 7) (one).toNatClampNeg))], s)) rfl rfl
     (d_step (t := (35, [some (.ref 10), some (.int one), some (.int st)], [(.int one), (.ref (10 + 6)), (.int ((s).1 (10 + 7) (one).toNatClampNeg))], s)) 3 rfl
     (d_chk (a := (36, [some (.ref 10), some (.int one), some (.int st)], [(.int ((s).1 (10 + 6) (one).toNatClampNeg)), (.int ((s).1 (10 + 7) (one).toNatClampNeg))], s)) rfl rfl
     (d_if (a := (43, [some (.ref 10), some (.int one), some (.int st)], [], s)) (b := (39, [some (.ref 10), some (.int one), some (.int st)], [], s)) rfl rfl
     (d_step (t := (44, [some (.ref 10), some (.int one), some (.int st)], [(.int 0)], s)) 1 rfl
     (d_ret (k := 0) rfl rfl))
     (d_step (t := (44, [some (.ref 10), some (.int one), some (.int st)], [(.int 1)], s)) 2 rfl
     (d_ret (k := 0) rfl rfl)))))))))))))))
noncomputable def m_T_sinksAlone (d : Nat) (tt : Nat) (one : Int32) (st : Int32) (s : qMem) : Option (Int32 × qMem) := qI (qCall qMT d 69 [.ref tt, .int one, .int st] s)
set_option maxRecDepth 20000 in
theorem e_T_sinksAlone (d : Nat) (tt : Nat) (one : Int32) (st : Int32) (hc : (tt = 1) ∨ (tt = 10)) (s : qMem) : m_T_sinksAlone (d + 1) tt one st s = (if qIn one 5 then (if qIn st 4 then (if ((s).1 (tt + 1) (st).toNatClampNeg) ≤ ((s).1 (tt + 4) (one).toNatClampNeg) then some (1, s) else (if qIn st 4 then (if ((s).1 (tt + 2) (st).toNatClampNeg) = 0 then some (0, s) else some (1, s)) else none)) else none) else none) := by
  rcases hc with rfl | rfl
  · exact (d_step (t := (5, [some (.ref 1), some (.int one), some (.int st)], [(.int one), (.ref (1 + 4))], s)) 3 rfl
     (d_chk (a := (6, [some (.ref 1), some (.int one), some (.int st)], [(.int ((s).1 (1 + 4) (one).toNatClampNeg))], s)) rfl rfl
     (d_step (t := (11, [some (.ref 1), some (.int one), some (.int st)], [(.int st), (.ref (1 + 1)), (.int ((s).1 (1 + 4) (one).toNatClampNeg))], s)) 3 rfl
     (d_chk (a := (12, [some (.ref 1), some (.int one), some (.int st)], [(.int ((s).1 (1 + 1) (st).toNatClampNeg)), (.int ((s).1 (1 + 4) (one).toNatClampNeg))], s)) rfl rfl
     (d_if (a := (24, [some (.ref 1), some (.int one), some (.int st)], [], s)) (b := (15, [some (.ref 1), some (.int one), some (.int st)], [], s)) rfl rfl
     (d_step (t := (29, [some (.ref 1), some (.int one), some (.int st)], [(.int 1)], s)) 2 rfl
     (d_ret (k := 0) rfl rfl))
     (d_step (t := (20, [some (.ref 1), some (.int one), some (.int st)], [(.int st), (.ref (1 + 2))], s)) 3 rfl
     (d_chk (a := (21, [some (.ref 1), some (.int one), some (.int st)], [(.int ((s).1 (1 + 2) (st).toNatClampNeg))], s)) rfl rfl
     (d_if (a := (28, [some (.ref 1), some (.int one), some (.int st)], [], s)) (b := (24, [some (.ref 1), some (.int one), some (.int st)], [], s)) rfl rfl
     (d_step (t := (29, [some (.ref 1), some (.int one), some (.int st)], [(.int 0)], s)) 1 rfl
     (d_ret (k := 0) rfl rfl))
     (d_step (t := (29, [some (.ref 1), some (.int one), some (.int st)], [(.int 1)], s)) 2 rfl
     (d_ret (k := 0) rfl rfl))))))))))
  · exact (d_step (t := (5, [some (.ref 10), some (.int one), some (.int st)], [(.int one), (.ref (10 + 4))], s)) 3 rfl
     (d_chk (a := (6, [some (.ref 10), some (.int one), some (.int st)], [(.int ((s).1 (10 + 4) (one).toNatClampNeg))], s)) rfl rfl
     (d_step (t := (11, [some (.ref 10), some (.int one), some (.int st)], [(.int st), (.ref (10 + 1)), (.int ((s).1 (10 + 4) (one).toNatClampNeg))], s)) 3 rfl
     (d_chk (a := (12, [some (.ref 10), some (.int one), some (.int st)], [(.int ((s).1 (10 + 1) (st).toNatClampNeg)), (.int ((s).1 (10 + 4) (one).toNatClampNeg))], s)) rfl rfl
     (d_if (a := (24, [some (.ref 10), some (.int one), some (.int st)], [], s)) (b := (15, [some (.ref 10), some (.int one), some (.int st)], [], s)) rfl rfl
     (d_step (t := (29, [some (.ref 10), some (.int one), some (.int st)], [(.int 1)], s)) 2 rfl
     (d_ret (k := 0) rfl rfl))
     (d_step (t := (20, [some (.ref 10), some (.int one), some (.int st)], [(.int st), (.ref (10 + 2))], s)) 3 rfl
     (d_chk (a := (21, [some (.ref 10), some (.int one), some (.int st)], [(.int ((s).1 (10 + 2) (st).toNatClampNeg))], s)) rfl rfl
     (d_if (a := (28, [some (.ref 10), some (.int one), some (.int st)], [], s)) (b := (24, [some (.ref 10), some (.int one), some (.int st)], [], s)) rfl rfl
     (d_step (t := (29, [some (.ref 10), some (.int one), some (.int st)], [(.int 0)], s)) 1 rfl
     (d_ret (k := 0) rfl rfl))
     (d_step (t := (29, [some (.ref 10), some (.int one), some (.int st)], [(.int 1)], s)) 2 rfl
     (d_ret (k := 0) rfl rfl))))))))))
noncomputable def m_T_bringUp (d : Nat) (tt : Nat) (one : Int32) (li : Int32) (pu : Int32) (st : Int32) (s : qMem) : Option (Int32 × qMem) := qI (qCall qMT d 70 [.ref tt, .int one, .int li, .int pu, .int st] s)
set_option maxRecDepth 20000 in
theorem e_T_bringUp (d : Nat) (tt : Nat) (one : Int32) (li : Int32) (pu : Int32) (st : Int32) (hc : (tt = 1) ∨ (tt = 10)) (s : qMem) : m_T_bringUp (d + 1) tt one li pu st s = (if qIn one 5 then (if ((s).1 (tt + 3) (one).toNatClampNeg) = 2 then some (0, s) else ((m_T_hand d tt li s).bind (fun q1 => ((m_T_hand d tt pu q1.2).bind (fun q2 => (if qIn one 5 then (if (q1.1 + q2.1) < ((q2.2).1 (tt + 6) (one).toNatClampNeg) then some (0, q2.2) else (if qIn one 5 then ((m_T_tallness d tt li q2.2).bind (fun q3 => ((m_T_tallness d tt pu q3.2).bind (fun q4 => (if qIn st 4 then (if ((((q2.2).1 (tt + 4) (one).toNatClampNeg) + q3.1) + (q4.1 / 2)) < ((q4.2).1 (tt + 1) (st).toNatClampNeg) then some (0, q4.2) else some (1, q4.2)) else none))))) else none)) else none)))))) else none) := by
  rcases hc with rfl | rfl
  · exact (d_step (t := (5, [some (.ref 1), some (.int one), some (.int li), some (.int pu), some (.int st)], [(.int one), (.ref (1 + 3))], s)) 3 rfl
     (d_chk (a := (6, [some (.ref 1), some (.int one), some (.int li), some (.int pu), some (.int st)], [(.int ((s).1 (1 + 3) (one).toNatClampNeg))], s)) rfl rfl
     (d_step (t := (7, [some (.ref 1), some (.int one), some (.int li), some (.int pu), some (.int st)], [(.int 2), (.int ((s).1 (1 + 3) (one).toNatClampNeg))], s)) 1 rfl
     (d_if (a := (64, [some (.ref 1), some (.int one), some (.int li), some (.int pu), some (.int st)], [], s)) (b := (10, [some (.ref 1), some (.int one), some (.int li), some (.int pu), some (.int st)], [], s)) rfl rfl
     (d_step (t := (65, [some (.ref 1), some (.int one), some (.int li), some (.int pu), some (.int st)], [(.int 0)], s)) 1 rfl
     (d_ret (k := 0) rfl rfl))
     (d_step (t := (12, [some (.ref 1), some (.int one), some (.int li), some (.int pu), some (.int st)], [(.int li), (.ref 1)], s)) 2 rfl
     (d_callI (o := (m_T_hand d 1 li s)) rfl rfl (fun q1 =>
     d_step (t := (17, [some (.ref 1), some (.int one), some (.int li), some (.int pu), some (.int st)], [(.int pu), (.ref 1), (.int q1.1)], q1.2)) 2 rfl
     (d_callI (o := (m_T_hand d 1 pu q1.2)) rfl rfl (fun q2 =>
     d_step (t := (26, [some (.ref 1), some (.int one), some (.int li), some (.int pu), some (.int st)], [(.int one), (.ref (1 + 6)), (.int (q1.1 + q2.1))], q2.2)) 4 rfl
     (d_chk (a := (27, [some (.ref 1), some (.int one), some (.int li), some (.int pu), some (.int st)], [(.int ((q2.2).1 (1 + 6) (one).toNatClampNeg)), (.int (q1.1 + q2.1))], q2.2)) rfl rfl
     (d_if (a := (64, [some (.ref 1), some (.int one), some (.int li), some (.int pu), some (.int st)], [], q2.2)) (b := (30, [some (.ref 1), some (.int one), some (.int li), some (.int pu), some (.int st)], [], q2.2)) rfl rfl
     (d_step (t := (65, [some (.ref 1), some (.int one), some (.int li), some (.int pu), some (.int st)], [(.int 0)], q2.2)) 1 rfl
     (d_ret (k := 0) rfl rfl))
     (d_step (t := (35, [some (.ref 1), some (.int one), some (.int li), some (.int pu), some (.int st)], [(.int one), (.ref (1 + 4))], q2.2)) 3 rfl
     (d_chk (a := (36, [some (.ref 1), some (.int one), some (.int li), some (.int pu), some (.int st)], [(.int ((q2.2).1 (1 + 4) (one).toNatClampNeg))], q2.2)) rfl rfl
     (d_step (t := (38, [some (.ref 1), some (.int one), some (.int li), some (.int pu), some (.int st)], [(.int li), (.ref 1), (.int ((q2.2).1 (1 + 4) (one).toNatClampNeg))], q2.2)) 2 rfl
     (d_callI (o := (m_T_tallness d 1 li q2.2)) rfl rfl (fun q3 =>
     d_step (t := (44, [some (.ref 1), some (.int one), some (.int li), some (.int pu), some (.int st)], [(.int pu), (.ref 1), (.int (((q2.2).1 (1 + 4) (one).toNatClampNeg) + q3.1))], q3.2)) 3 rfl
     (d_callI (o := (m_T_tallness d 1 pu q3.2)) rfl rfl (fun q4 =>
     d_step (t := (56, [some (.ref 1), some (.int one), some (.int li), some (.int pu), some (.int st)], [(.int st), (.ref (1 + 1)), (.int ((((q2.2).1 (1 + 4) (one).toNatClampNeg) + q3.1) + (q4.1 / 2)))], q4.2)) 6 rfl
     (d_chk (a := (57, [some (.ref 1), some (.int one), some (.int li), some (.int pu), some (.int st)], [(.int ((q4.2).1 (1 + 1) (st).toNatClampNeg)), (.int ((((q2.2).1 (1 + 4) (one).toNatClampNeg) + q3.1) + (q4.1 / 2)))], q4.2)) rfl rfl
     (d_if (a := (64, [some (.ref 1), some (.int one), some (.int li), some (.int pu), some (.int st)], [], q4.2)) (b := (60, [some (.ref 1), some (.int one), some (.int li), some (.int pu), some (.int st)], [], q4.2)) rfl rfl
     (d_step (t := (65, [some (.ref 1), some (.int one), some (.int li), some (.int pu), some (.int st)], [(.int 0)], q4.2)) 1 rfl
     (d_ret (k := 0) rfl rfl))
     (d_step (t := (65, [some (.ref 1), some (.int one), some (.int li), some (.int pu), some (.int st)], [(.int 1)], q4.2)) 2 rfl
     (d_ret (k := 0) rfl rfl))))))))))))))))))))))
  · exact (d_step (t := (5, [some (.ref 10), some (.int one), some (.int li), some (.int pu), some (.int st)], [(.int one), (.ref (10 + 3))], s)) 3 rfl
     (d_chk (a := (6, [some (.ref 10), some (.int one), some (.int li), some (.int pu), some (.int st)], [(.int ((s).1 (10 + 3) (one).toNatClampNeg))], s)) rfl rfl
     (d_step (t := (7, [some (.ref 10), some (.int one), some (.int li), some (.int pu), some (.int st)], [(.int 2), (.int ((s).1 (10 + 3) (one).toNatClampNeg))], s)) 1 rfl
     (d_if (a := (64, [some (.ref 10), some (.int one), some (.int li), some (.int pu), some (.int st)], [], s)) (b := (10, [some (.ref 10), some (.int one), some (.int li), some (.int pu), some (.int st)], [], s)) rfl rfl
     (d_step (t := (65, [some (.ref 10), some (.int one), some (.int li), some (.int pu), some (.int st)], [(.int 0)], s)) 1 rfl
     (d_ret (k := 0) rfl rfl))
     (d_step (t := (12, [some (.ref 10), some (.int one), some (.int li), some (.int pu), some (.int st)], [(.int li), (.ref 10)], s)) 2 rfl
     (d_callI (o := (m_T_hand d 10 li s)) rfl rfl (fun q1 =>
     d_step (t := (17, [some (.ref 10), some (.int one), some (.int li), some (.int pu), some (.int st)], [(.int pu), (.ref 10), (.int q1.1)], q1.2)) 2 rfl
     (d_callI (o := (m_T_hand d 10 pu q1.2)) rfl rfl (fun q2 =>
     d_step (t := (26, [some (.ref 10), some (.int one), some (.int li), some (.int pu), some (.int st)], [(.int one), (.ref (10 + 6)), (.int (q1.1 + q2.1))], q2.2)) 4 rfl
     (d_chk (a := (27, [some (.ref 10), some (.int one), some (.int li), some (.int pu), some (.int st)], [(.int ((q2.2).1 (10 + 6) (one).toNatClampNeg)), (.int (q1.1 + q2.1))], q2.2)) rfl rfl
     (d_if (a := (64, [some (.ref 10), some (.int one), some (.int li), some (.int pu), some (.int st)], [], q2.2)) (b := (30, [some (.ref 10), some (.int one), some (.int li), some (.int pu), some (.int st)], [], q2.2)) rfl rfl
     (d_step (t := (65, [some (.ref 10), some (.int one), some (.int li), some (.int pu), some (.int st)], [(.int 0)], q2.2)) 1 rfl
     (d_ret (k := 0) rfl rfl))
     (d_step (t := (35, [some (.ref 10), some (.int one), some (.int li), some (.int pu), some (.int st)], [(.int one), (.ref (10 + 4))], q2.2)) 3 rfl
     (d_chk (a := (36, [some (.ref 10), some (.int one), some (.int li), some (.int pu), some (.int st)], [(.int ((q2.2).1 (10 + 4) (one).toNatClampNeg))], q2.2)) rfl rfl
     (d_step (t := (38, [some (.ref 10), some (.int one), some (.int li), some (.int pu), some (.int st)], [(.int li), (.ref 10), (.int ((q2.2).1 (10 + 4) (one).toNatClampNeg))], q2.2)) 2 rfl
     (d_callI (o := (m_T_tallness d 10 li q2.2)) rfl rfl (fun q3 =>
     d_step (t := (44, [some (.ref 10), some (.int one), some (.int li), some (.int pu), some (.int st)], [(.int pu), (.ref 10), (.int (((q2.2).1 (10 + 4) (one).toNatClampNeg) + q3.1))], q3.2)) 3 rfl
     (d_callI (o := (m_T_tallness d 10 pu q3.2)) rfl rfl (fun q4 =>
     d_step (t := (56, [some (.ref 10), some (.int one), some (.int li), some (.int pu), some (.int st)], [(.int st), (.ref (10 + 1)), (.int ((((q2.2).1 (10 + 4) (one).toNatClampNeg) + q3.1) + (q4.1 / 2)))], q4.2)) 6 rfl
     (d_chk (a := (57, [some (.ref 10), some (.int one), some (.int li), some (.int pu), some (.int st)], [(.int ((q4.2).1 (10 + 1) (st).toNatClampNeg)), (.int ((((q2.2).1 (10 + 4) (one).toNatClampNeg) + q3.1) + (q4.1 / 2)))], q4.2)) rfl rfl
     (d_if (a := (64, [some (.ref 10), some (.int one), some (.int li), some (.int pu), some (.int st)], [], q4.2)) (b := (60, [some (.ref 10), some (.int one), some (.int li), some (.int pu), some (.int st)], [], q4.2)) rfl rfl
     (d_step (t := (65, [some (.ref 10), some (.int one), some (.int li), some (.int pu), some (.int st)], [(.int 0)], q4.2)) 1 rfl
     (d_ret (k := 0) rfl rfl))
     (d_step (t := (65, [some (.ref 10), some (.int one), some (.int li), some (.int pu), some (.int st)], [(.int 1)], q4.2)) 2 rfl
     (d_ret (k := 0) rfl rfl))))))))))))))))))))))
noncomputable def m_T_catches (d : Nat) (tt : Nat) (ca : Int32) (one : Int32) (rr : Nat) (s : qMem) : Option (Int32 × qMem) := qI (qCall qMT d 71 [.ref tt, .int ca, .int one, .ref rr] s)
set_option maxRecDepth 20000 in
theorem e_T_catches (d : Nat) (tt : Nat) (ca : Int32) (one : Int32) (rr : Nat) (hc : (tt = 1 ∧ rr = 23) ∨ (tt = 1 ∧ rr = 30) ∨ (tt = 1 ∧ rr = 33) ∨ (tt = 10 ∧ rr = 30)) (s : qMem) : m_T_catches (d + 1) tt ca one rr s = (if qIn one 5 then (if ((s).1 (tt + 3) (one).toNatClampNeg) = 2 then some (0, s) else ((m_T_standsAt d tt ca one (-1) rr s).bind (fun q1 => (if q1.1 = 0 then some (0, q1.2) else ((m_T_hand d tt ca q1.2).bind (fun q2 => (if qIn one 5 then (if q2.1 < ((q2.2).1 (tt + 6) (one).toNatClampNeg) then some (0, q2.2) else some (1, q2.2)) else none))))))) else none) := by
  rcases hc with ⟨rfl, rfl⟩ | ⟨rfl, rfl⟩ | ⟨rfl, rfl⟩ | ⟨rfl, rfl⟩
  · exact (d_step (t := (5, [some (.ref 1), some (.int ca), some (.int one), some (.ref 23)], [(.int one), (.ref (1 + 3))], s)) 3 rfl
     (d_chk (a := (6, [some (.ref 1), some (.int ca), some (.int one), some (.ref 23)], [(.int ((s).1 (1 + 3) (one).toNatClampNeg))], s)) rfl rfl
     (d_step (t := (7, [some (.ref 1), some (.int ca), some (.int one), some (.ref 23)], [(.int 2), (.int ((s).1 (1 + 3) (one).toNatClampNeg))], s)) 1 rfl
     (d_if (a := (39, [some (.ref 1), some (.int ca), some (.int one), some (.ref 23)], [], s)) (b := (10, [some (.ref 1), some (.int ca), some (.int one), some (.ref 23)], [], s)) rfl rfl
     (d_step (t := (40, [some (.ref 1), some (.int ca), some (.int one), some (.ref 23)], [(.int 0)], s)) 1 rfl
     (d_ret (k := 0) rfl rfl))
     (d_step (t := (15, [some (.ref 1), some (.int ca), some (.int one), some (.ref 23)], [(.ref 23), (.int (-1)), (.int one), (.int ca), (.ref 1)], s)) 5 rfl
     (d_callI (o := (m_T_standsAt d 1 ca one (-1) 23 s)) rfl rfl (fun q1 =>
     d_if (a := (39, [some (.ref 1), some (.int ca), some (.int one), some (.ref 23)], [], q1.2)) (b := (21, [some (.ref 1), some (.int ca), some (.int one), some (.ref 23)], [], q1.2)) rfl rfl
     (d_step (t := (40, [some (.ref 1), some (.int ca), some (.int one), some (.ref 23)], [(.int 0)], q1.2)) 1 rfl
     (d_ret (k := 0) rfl rfl))
     (d_step (t := (23, [some (.ref 1), some (.int ca), some (.int one), some (.ref 23)], [(.int ca), (.ref 1)], q1.2)) 2 rfl
     (d_callI (o := (m_T_hand d 1 ca q1.2)) rfl rfl (fun q2 =>
     d_step (t := (31, [some (.ref 1), some (.int ca), some (.int one), some (.ref 23)], [(.int one), (.ref (1 + 6)), (.int q2.1)], q2.2)) 3 rfl
     (d_chk (a := (32, [some (.ref 1), some (.int ca), some (.int one), some (.ref 23)], [(.int ((q2.2).1 (1 + 6) (one).toNatClampNeg)), (.int q2.1)], q2.2)) rfl rfl
     (d_if (a := (39, [some (.ref 1), some (.int ca), some (.int one), some (.ref 23)], [], q2.2)) (b := (35, [some (.ref 1), some (.int ca), some (.int one), some (.ref 23)], [], q2.2)) rfl rfl
     (d_step (t := (40, [some (.ref 1), some (.int ca), some (.int one), some (.ref 23)], [(.int 0)], q2.2)) 1 rfl
     (d_ret (k := 0) rfl rfl))
     (d_step (t := (40, [some (.ref 1), some (.int ca), some (.int one), some (.ref 23)], [(.int 1)], q2.2)) 2 rfl
     (d_ret (k := 0) rfl rfl))))))))))))))
  · exact (d_step (t := (5, [some (.ref 1), some (.int ca), some (.int one), some (.ref 30)], [(.int one), (.ref (1 + 3))], s)) 3 rfl
     (d_chk (a := (6, [some (.ref 1), some (.int ca), some (.int one), some (.ref 30)], [(.int ((s).1 (1 + 3) (one).toNatClampNeg))], s)) rfl rfl
     (d_step (t := (7, [some (.ref 1), some (.int ca), some (.int one), some (.ref 30)], [(.int 2), (.int ((s).1 (1 + 3) (one).toNatClampNeg))], s)) 1 rfl
     (d_if (a := (39, [some (.ref 1), some (.int ca), some (.int one), some (.ref 30)], [], s)) (b := (10, [some (.ref 1), some (.int ca), some (.int one), some (.ref 30)], [], s)) rfl rfl
     (d_step (t := (40, [some (.ref 1), some (.int ca), some (.int one), some (.ref 30)], [(.int 0)], s)) 1 rfl
     (d_ret (k := 0) rfl rfl))
     (d_step (t := (15, [some (.ref 1), some (.int ca), some (.int one), some (.ref 30)], [(.ref 30), (.int (-1)), (.int one), (.int ca), (.ref 1)], s)) 5 rfl
     (d_callI (o := (m_T_standsAt d 1 ca one (-1) 30 s)) rfl rfl (fun q1 =>
     d_if (a := (39, [some (.ref 1), some (.int ca), some (.int one), some (.ref 30)], [], q1.2)) (b := (21, [some (.ref 1), some (.int ca), some (.int one), some (.ref 30)], [], q1.2)) rfl rfl
     (d_step (t := (40, [some (.ref 1), some (.int ca), some (.int one), some (.ref 30)], [(.int 0)], q1.2)) 1 rfl
     (d_ret (k := 0) rfl rfl))
     (d_step (t := (23, [some (.ref 1), some (.int ca), some (.int one), some (.ref 30)], [(.int ca), (.ref 1)], q1.2)) 2 rfl
     (d_callI (o := (m_T_hand d 1 ca q1.2)) rfl rfl (fun q2 =>
     d_step (t := (31, [some (.ref 1), some (.int ca), some (.int one), some (.ref 30)], [(.int one), (.ref (1 + 6)), (.int q2.1)], q2.2)) 3 rfl
     (d_chk (a := (32, [some (.ref 1), some (.int ca), some (.int one), some (.ref 30)], [(.int ((q2.2).1 (1 + 6) (one).toNatClampNeg)), (.int q2.1)], q2.2)) rfl rfl
     (d_if (a := (39, [some (.ref 1), some (.int ca), some (.int one), some (.ref 30)], [], q2.2)) (b := (35, [some (.ref 1), some (.int ca), some (.int one), some (.ref 30)], [], q2.2)) rfl rfl
     (d_step (t := (40, [some (.ref 1), some (.int ca), some (.int one), some (.ref 30)], [(.int 0)], q2.2)) 1 rfl
     (d_ret (k := 0) rfl rfl))
     (d_step (t := (40, [some (.ref 1), some (.int ca), some (.int one), some (.ref 30)], [(.int 1)], q2.2)) 2 rfl
     (d_ret (k := 0) rfl rfl))))))))))))))
  · exact (d_step (t := (5, [some (.ref 1), some (.int ca), some (.int one), some (.ref 33)], [(.int one), (.ref (1 + 3))], s)) 3 rfl
     (d_chk (a := (6, [some (.ref 1), some (.int ca), some (.int one), some (.ref 33)], [(.int ((s).1 (1 + 3) (one).toNatClampNeg))], s)) rfl rfl
     (d_step (t := (7, [some (.ref 1), some (.int ca), some (.int one), some (.ref 33)], [(.int 2), (.int ((s).1 (1 + 3) (one).toNatClampNeg))], s)) 1 rfl
     (d_if (a := (39, [some (.ref 1), some (.int ca), some (.int one), some (.ref 33)], [], s)) (b := (10, [some (.ref 1), some (.int ca), some (.int one), some (.ref 33)], [], s)) rfl rfl
     (d_step (t := (40, [some (.ref 1), some (.int ca), some (.int one), some (.ref 33)], [(.int 0)], s)) 1 rfl
     (d_ret (k := 0) rfl rfl))
     (d_step (t := (15, [some (.ref 1), some (.int ca), some (.int one), some (.ref 33)], [(.ref 33), (.int (-1)), (.int one), (.int ca), (.ref 1)], s)) 5 rfl
     (d_callI (o := (m_T_standsAt d 1 ca one (-1) 33 s)) rfl rfl (fun q1 =>
     d_if (a := (39, [some (.ref 1), some (.int ca), some (.int one), some (.ref 33)], [], q1.2)) (b := (21, [some (.ref 1), some (.int ca), some (.int one), some (.ref 33)], [], q1.2)) rfl rfl
     (d_step (t := (40, [some (.ref 1), some (.int ca), some (.int one), some (.ref 33)], [(.int 0)], q1.2)) 1 rfl
     (d_ret (k := 0) rfl rfl))
     (d_step (t := (23, [some (.ref 1), some (.int ca), some (.int one), some (.ref 33)], [(.int ca), (.ref 1)], q1.2)) 2 rfl
     (d_callI (o := (m_T_hand d 1 ca q1.2)) rfl rfl (fun q2 =>
     d_step (t := (31, [some (.ref 1), some (.int ca), some (.int one), some (.ref 33)], [(.int one), (.ref (1 + 6)), (.int q2.1)], q2.2)) 3 rfl
     (d_chk (a := (32, [some (.ref 1), some (.int ca), some (.int one), some (.ref 33)], [(.int ((q2.2).1 (1 + 6) (one).toNatClampNeg)), (.int q2.1)], q2.2)) rfl rfl
     (d_if (a := (39, [some (.ref 1), some (.int ca), some (.int one), some (.ref 33)], [], q2.2)) (b := (35, [some (.ref 1), some (.int ca), some (.int one), some (.ref 33)], [], q2.2)) rfl rfl
     (d_step (t := (40, [some (.ref 1), some (.int ca), some (.int one), some (.ref 33)], [(.int 0)], q2.2)) 1 rfl
     (d_ret (k := 0) rfl rfl))
     (d_step (t := (40, [some (.ref 1), some (.int ca), some (.int one), some (.ref 33)], [(.int 1)], q2.2)) 2 rfl
     (d_ret (k := 0) rfl rfl))))))))))))))
  · exact (d_step (t := (5, [some (.ref 10), some (.int ca), some (.int one), some (.ref 30)], [(.int one), (.ref (10 + 3))], s)) 3 rfl
     (d_chk (a := (6, [some (.ref 10), some (.int ca), some (.int one), some (.ref 30)], [(.int ((s).1 (10 + 3) (one).toNatClampNeg))], s)) rfl rfl
     (d_step (t := (7, [some (.ref 10), some (.int ca), some (.int one), some (.ref 30)], [(.int 2), (.int ((s).1 (10 + 3) (one).toNatClampNeg))], s)) 1 rfl
     (d_if (a := (39, [some (.ref 10), some (.int ca), some (.int one), some (.ref 30)], [], s)) (b := (10, [some (.ref 10), some (.int ca), some (.int one), some (.ref 30)], [], s)) rfl rfl
     (d_step (t := (40, [some (.ref 10), some (.int ca), some (.int one), some (.ref 30)], [(.int 0)], s)) 1 rfl
     (d_ret (k := 0) rfl rfl))
     (d_step (t := (15, [some (.ref 10), some (.int ca), some (.int one), some (.ref 30)], [(.ref 30), (.int (-1)), (.int one), (.int ca), (.ref 10)], s)) 5 rfl
     (d_callI (o := (m_T_standsAt d 10 ca one (-1) 30 s)) rfl rfl (fun q1 =>
     d_if (a := (39, [some (.ref 10), some (.int ca), some (.int one), some (.ref 30)], [], q1.2)) (b := (21, [some (.ref 10), some (.int ca), some (.int one), some (.ref 30)], [], q1.2)) rfl rfl
     (d_step (t := (40, [some (.ref 10), some (.int ca), some (.int one), some (.ref 30)], [(.int 0)], q1.2)) 1 rfl
     (d_ret (k := 0) rfl rfl))
     (d_step (t := (23, [some (.ref 10), some (.int ca), some (.int one), some (.ref 30)], [(.int ca), (.ref 10)], q1.2)) 2 rfl
     (d_callI (o := (m_T_hand d 10 ca q1.2)) rfl rfl (fun q2 =>
     d_step (t := (31, [some (.ref 10), some (.int ca), some (.int one), some (.ref 30)], [(.int one), (.ref (10 + 6)), (.int q2.1)], q2.2)) 3 rfl
     (d_chk (a := (32, [some (.ref 10), some (.int ca), some (.int one), some (.ref 30)], [(.int ((q2.2).1 (10 + 6) (one).toNatClampNeg)), (.int q2.1)], q2.2)) rfl rfl
     (d_if (a := (39, [some (.ref 10), some (.int ca), some (.int one), some (.ref 30)], [], q2.2)) (b := (35, [some (.ref 10), some (.int ca), some (.int one), some (.ref 30)], [], q2.2)) rfl rfl
     (d_step (t := (40, [some (.ref 10), some (.int ca), some (.int one), some (.ref 30)], [(.int 0)], q2.2)) 1 rfl
     (d_ret (k := 0) rfl rfl))
     (d_step (t := (40, [some (.ref 10), some (.int ca), some (.int one), some (.ref 30)], [(.int 1)], q2.2)) 2 rfl
     (d_ret (k := 0) rfl rfl))))))))))))))
noncomputable def m_T_pairOf (d : Nat) (li : Int32) (pu : Int32) (s : qMem) : Option (Int32 × qMem) := qI (qCall qMT d 63 [.int li, .int pu] s)
set_option maxRecDepth 20000 in
theorem e_T_pairOf (d : Nat) (li : Int32) (pu : Int32) (s : qMem) : m_T_pairOf (d + 1) li pu s = some (((((li + 1) * 6) + pu) + 1), s) := d_step (t := (10, [some (.int li), some (.int pu)], [(.int ((((li + 1) * 6) + pu) + 1))], s)) 9 rfl
   (d_ret (k := 0) rfl rfl)
noncomputable def m_T_risesBy (d : Nat) (tt : Nat) (one : Int32) (li : Int32) (pu : Int32) (rr : Nat) (s : qMem) : Option (Int32 × qMem) := qI (qCall qMT d 66 [.ref tt, .int one, .int li, .int pu, .ref rr] s)
set_option maxRecDepth 20000 in
theorem e_T_risesBy (d : Nat) (tt : Nat) (one : Int32) (li : Int32) (pu : Int32) (rr : Nat) (hc : (tt = 1 ∧ rr = 23) ∨ (tt = 1 ∧ rr = 30) ∨ (tt = 1 ∧ rr = 33) ∨ (tt = 10 ∧ rr = 30)) (s : qMem) : m_T_risesBy (d + 1) tt one li pu rr s = ((m_T_goes d tt one s).bind (fun q1 => (if q1.1 = 0 then some (0, q1.2) else (if qIn one 5 then ((m_T_isStep d tt ((q1.2).1 rr (one).toNatClampNeg) q1.2).bind (fun q2 => (if q2.1 = 0 then some (0, q2.2) else (if qIn one 5 then ((m_T_risesAlone d tt one ((q2.2).1 rr (one).toNatClampNeg) q2.2).bind (fun q3 => (if q3.1 = 0 then ((m_T_standsFor d tt li one 0 rr q3.2).bind (fun q4 => (if q4.1 = 0 then some (0, q4.2) else ((m_T_standsFor d tt pu one 1 rr q4.2).bind (fun q5 => (if q5.1 = 0 then some (0, q5.2) else (if qIn one 5 then ((m_T_bringUp d tt one li pu ((q5.2).1 rr (one).toNatClampNeg) q5.2).bind (fun q6 => (if q6.1 = 0 then some (0, q6.2) else some (1, q6.2)))) else none))))))) else (if li = (-1) then (if pu = (-1) then some (1, q3.2) else some (0, q3.2)) else some (0, q3.2))))) else none)))) else none)))) := by
  rcases hc with ⟨rfl, rfl⟩ | ⟨rfl, rfl⟩ | ⟨rfl, rfl⟩ | ⟨rfl, rfl⟩
  · exact (d_step (t := (2, [some (.ref 1), some (.int one), some (.int li), some (.int pu), some (.ref 23)], [(.int one), (.ref 1)], s)) 2 rfl
     (d_callI (o := (m_T_goes d 1 one s)) rfl rfl (fun q1 =>
     d_if (a := (19, [some (.ref 1), some (.int one), some (.int li), some (.int pu), some (.ref 23)], [], q1.2)) (b := (8, [some (.ref 1), some (.int one), some (.int li), some (.int pu), some (.ref 23)], [], q1.2)) rfl rfl
     (d_step (t := (20, [some (.ref 1), some (.int one), some (.int li), some (.int pu), some (.ref 23)], [(.int 0)], q1.2)) 1 rfl
     (d_ret (k := 0) rfl rfl))
     (d_step (t := (12, [some (.ref 1), some (.int one), some (.int li), some (.int pu), some (.ref 23)], [(.int one), (.ref 23), (.ref 1)], q1.2)) 3 rfl
     (d_chk (a := (13, [some (.ref 1), some (.int one), some (.int li), some (.int pu), some (.ref 23)], [(.int ((q1.2).1 23 (one).toNatClampNeg)), (.ref 1)], q1.2)) rfl rfl
     (d_callI (o := (m_T_isStep d 1 ((q1.2).1 23 (one).toNatClampNeg) q1.2)) rfl rfl (fun q2 =>
     d_if (a := (19, [some (.ref 1), some (.int one), some (.int li), some (.int pu), some (.ref 23)], [], q2.2)) (b := (21, [some (.ref 1), some (.int one), some (.int li), some (.int pu), some (.ref 23)], [], q2.2)) rfl rfl
     (d_step (t := (20, [some (.ref 1), some (.int one), some (.int li), some (.int pu), some (.ref 23)], [(.int 0)], q2.2)) 1 rfl
     (d_ret (k := 0) rfl rfl))
     (d_step (t := (26, [some (.ref 1), some (.int one), some (.int li), some (.int pu), some (.ref 23)], [(.int one), (.ref 23), (.int one), (.ref 1)], q2.2)) 4 rfl
     (d_chk (a := (27, [some (.ref 1), some (.int one), some (.int li), some (.int pu), some (.ref 23)], [(.int ((q2.2).1 23 (one).toNatClampNeg)), (.int one), (.ref 1)], q2.2)) rfl rfl
     (d_callI (o := (m_T_risesAlone d 1 one ((q2.2).1 23 (one).toNatClampNeg) q2.2)) rfl rfl (fun q3 =>
     d_if (a := (49, [some (.ref 1), some (.int one), some (.int li), some (.int pu), some (.ref 23)], [], q3.2)) (b := (33, [some (.ref 1), some (.int one), some (.int li), some (.int pu), some (.ref 23)], [], q3.2)) rfl rfl
     (d_step (t := (55, [some (.ref 1), some (.int one), some (.int li), some (.int pu), some (.ref 23)], [(.ref 23), (.int 0), (.int one), (.int li), (.ref 1)], q3.2)) 5 rfl
     (d_callI (o := (m_T_standsFor d 1 li one 0 23 q3.2)) rfl rfl (fun q4 =>
     d_if (a := (91, [some (.ref 1), some (.int one), some (.int li), some (.int pu), some (.ref 23)], [], q4.2)) (b := (61, [some (.ref 1), some (.int one), some (.int li), some (.int pu), some (.ref 23)], [], q4.2)) rfl rfl
     (d_step (t := (92, [some (.ref 1), some (.int one), some (.int li), some (.int pu), some (.ref 23)], [(.int 0)], q4.2)) 1 rfl
     (d_ret (k := 0) rfl rfl))
     (d_step (t := (67, [some (.ref 1), some (.int one), some (.int li), some (.int pu), some (.ref 23)], [(.ref 23), (.int 1), (.int one), (.int pu), (.ref 1)], q4.2)) 5 rfl
     (d_callI (o := (m_T_standsFor d 1 pu one 1 23 q4.2)) rfl rfl (fun q5 =>
     d_if (a := (91, [some (.ref 1), some (.int one), some (.int li), some (.int pu), some (.ref 23)], [], q5.2)) (b := (73, [some (.ref 1), some (.int one), some (.int li), some (.int pu), some (.ref 23)], [], q5.2)) rfl rfl
     (d_step (t := (92, [some (.ref 1), some (.int one), some (.int li), some (.int pu), some (.ref 23)], [(.int 0)], q5.2)) 1 rfl
     (d_ret (k := 0) rfl rfl))
     (d_step (t := (80, [some (.ref 1), some (.int one), some (.int li), some (.int pu), some (.ref 23)], [(.int one), (.ref 23), (.int pu), (.int li), (.int one), (.ref 1)], q5.2)) 6 rfl
     (d_chk (a := (81, [some (.ref 1), some (.int one), some (.int li), some (.int pu), some (.ref 23)], [(.int ((q5.2).1 23 (one).toNatClampNeg)), (.int pu), (.int li), (.int one), (.ref 1)], q5.2)) rfl rfl
     (d_callI (o := (m_T_bringUp d 1 one li pu ((q5.2).1 23 (one).toNatClampNeg) q5.2)) rfl rfl (fun q6 =>
     d_if (a := (91, [some (.ref 1), some (.int one), some (.int li), some (.int pu), some (.ref 23)], [], q6.2)) (b := (87, [some (.ref 1), some (.int one), some (.int li), some (.int pu), some (.ref 23)], [], q6.2)) rfl rfl
     (d_step (t := (92, [some (.ref 1), some (.int one), some (.int li), some (.int pu), some (.ref 23)], [(.int 0)], q6.2)) 1 rfl
     (d_ret (k := 0) rfl rfl))
     (d_step (t := (92, [some (.ref 1), some (.int one), some (.int li), some (.int pu), some (.ref 23)], [(.int 1)], q6.2)) 2 rfl
     (d_ret (k := 0) rfl rfl))))))))))))
     (d_step (t := (35, [some (.ref 1), some (.int one), some (.int li), some (.int pu), some (.ref 23)], [(.int (-1)), (.int li)], q3.2)) 2 rfl
     (d_if (a := (38, [some (.ref 1), some (.int one), some (.int li), some (.int pu), some (.ref 23)], [], q3.2)) (b := (47, [some (.ref 1), some (.int one), some (.int li), some (.int pu), some (.ref 23)], [], q3.2)) rfl rfl
     (d_step (t := (40, [some (.ref 1), some (.int one), some (.int li), some (.int pu), some (.ref 23)], [(.int (-1)), (.int pu)], q3.2)) 2 rfl
     (d_if (a := (43, [some (.ref 1), some (.int one), some (.int li), some (.int pu), some (.ref 23)], [], q3.2)) (b := (47, [some (.ref 1), some (.int one), some (.int li), some (.int pu), some (.ref 23)], [], q3.2)) rfl rfl
     (d_step (t := (48, [some (.ref 1), some (.int one), some (.int li), some (.int pu), some (.ref 23)], [(.int 1)], q3.2)) 2 rfl
     (d_ret (k := 0) rfl rfl))
     (d_step (t := (48, [some (.ref 1), some (.int one), some (.int li), some (.int pu), some (.ref 23)], [(.int 0)], q3.2)) 1 rfl
     (d_ret (k := 0) rfl rfl))))
     (d_step (t := (48, [some (.ref 1), some (.int one), some (.int li), some (.int pu), some (.ref 23)], [(.int 0)], q3.2)) 1 rfl
     (d_ret (k := 0) rfl rfl)))))))))))))))
  · exact (d_step (t := (2, [some (.ref 1), some (.int one), some (.int li), some (.int pu), some (.ref 30)], [(.int one), (.ref 1)], s)) 2 rfl
     (d_callI (o := (m_T_goes d 1 one s)) rfl rfl (fun q1 =>
     d_if (a := (19, [some (.ref 1), some (.int one), some (.int li), some (.int pu), some (.ref 30)], [], q1.2)) (b := (8, [some (.ref 1), some (.int one), some (.int li), some (.int pu), some (.ref 30)], [], q1.2)) rfl rfl
     (d_step (t := (20, [some (.ref 1), some (.int one), some (.int li), some (.int pu), some (.ref 30)], [(.int 0)], q1.2)) 1 rfl
     (d_ret (k := 0) rfl rfl))
     (d_step (t := (12, [some (.ref 1), some (.int one), some (.int li), some (.int pu), some (.ref 30)], [(.int one), (.ref 30), (.ref 1)], q1.2)) 3 rfl
     (d_chk (a := (13, [some (.ref 1), some (.int one), some (.int li), some (.int pu), some (.ref 30)], [(.int ((q1.2).1 30 (one).toNatClampNeg)), (.ref 1)], q1.2)) rfl rfl
     (d_callI (o := (m_T_isStep d 1 ((q1.2).1 30 (one).toNatClampNeg) q1.2)) rfl rfl (fun q2 =>
     d_if (a := (19, [some (.ref 1), some (.int one), some (.int li), some (.int pu), some (.ref 30)], [], q2.2)) (b := (21, [some (.ref 1), some (.int one), some (.int li), some (.int pu), some (.ref 30)], [], q2.2)) rfl rfl
     (d_step (t := (20, [some (.ref 1), some (.int one), some (.int li), some (.int pu), some (.ref 30)], [(.int 0)], q2.2)) 1 rfl
     (d_ret (k := 0) rfl rfl))
     (d_step (t := (26, [some (.ref 1), some (.int one), some (.int li), some (.int pu), some (.ref 30)], [(.int one), (.ref 30), (.int one), (.ref 1)], q2.2)) 4 rfl
     (d_chk (a := (27, [some (.ref 1), some (.int one), some (.int li), some (.int pu), some (.ref 30)], [(.int ((q2.2).1 30 (one).toNatClampNeg)), (.int one), (.ref 1)], q2.2)) rfl rfl
     (d_callI (o := (m_T_risesAlone d 1 one ((q2.2).1 30 (one).toNatClampNeg) q2.2)) rfl rfl (fun q3 =>
     d_if (a := (49, [some (.ref 1), some (.int one), some (.int li), some (.int pu), some (.ref 30)], [], q3.2)) (b := (33, [some (.ref 1), some (.int one), some (.int li), some (.int pu), some (.ref 30)], [], q3.2)) rfl rfl
     (d_step (t := (55, [some (.ref 1), some (.int one), some (.int li), some (.int pu), some (.ref 30)], [(.ref 30), (.int 0), (.int one), (.int li), (.ref 1)], q3.2)) 5 rfl
     (d_callI (o := (m_T_standsFor d 1 li one 0 30 q3.2)) rfl rfl (fun q4 =>
     d_if (a := (91, [some (.ref 1), some (.int one), some (.int li), some (.int pu), some (.ref 30)], [], q4.2)) (b := (61, [some (.ref 1), some (.int one), some (.int li), some (.int pu), some (.ref 30)], [], q4.2)) rfl rfl
     (d_step (t := (92, [some (.ref 1), some (.int one), some (.int li), some (.int pu), some (.ref 30)], [(.int 0)], q4.2)) 1 rfl
     (d_ret (k := 0) rfl rfl))
     (d_step (t := (67, [some (.ref 1), some (.int one), some (.int li), some (.int pu), some (.ref 30)], [(.ref 30), (.int 1), (.int one), (.int pu), (.ref 1)], q4.2)) 5 rfl
     (d_callI (o := (m_T_standsFor d 1 pu one 1 30 q4.2)) rfl rfl (fun q5 =>
     d_if (a := (91, [some (.ref 1), some (.int one), some (.int li), some (.int pu), some (.ref 30)], [], q5.2)) (b := (73, [some (.ref 1), some (.int one), some (.int li), some (.int pu), some (.ref 30)], [], q5.2)) rfl rfl
     (d_step (t := (92, [some (.ref 1), some (.int one), some (.int li), some (.int pu), some (.ref 30)], [(.int 0)], q5.2)) 1 rfl
     (d_ret (k := 0) rfl rfl))
     (d_step (t := (80, [some (.ref 1), some (.int one), some (.int li), some (.int pu), some (.ref 30)], [(.int one), (.ref 30), (.int pu), (.int li), (.int one), (.ref 1)], q5.2)) 6 rfl
     (d_chk (a := (81, [some (.ref 1), some (.int one), some (.int li), some (.int pu), some (.ref 30)], [(.int ((q5.2).1 30 (one).toNatClampNeg)), (.int pu), (.int li), (.int one), (.ref 1)], q5.2)) rfl rfl
     (d_callI (o := (m_T_bringUp d 1 one li pu ((q5.2).1 30 (one).toNatClampNeg) q5.2)) rfl rfl (fun q6 =>
     d_if (a := (91, [some (.ref 1), some (.int one), some (.int li), some (.int pu), some (.ref 30)], [], q6.2)) (b := (87, [some (.ref 1), some (.int one), some (.int li), some (.int pu), some (.ref 30)], [], q6.2)) rfl rfl
     (d_step (t := (92, [some (.ref 1), some (.int one), some (.int li), some (.int pu), some (.ref 30)], [(.int 0)], q6.2)) 1 rfl
     (d_ret (k := 0) rfl rfl))
     (d_step (t := (92, [some (.ref 1), some (.int one), some (.int li), some (.int pu), some (.ref 30)], [(.int 1)], q6.2)) 2 rfl
     (d_ret (k := 0) rfl rfl))))))))))))
     (d_step (t := (35, [some (.ref 1), some (.int one), some (.int li), some (.int pu), some (.ref 30)], [(.int (-1)), (.int li)], q3.2)) 2 rfl
     (d_if (a := (38, [some (.ref 1), some (.int one), some (.int li), some (.int pu), some (.ref 30)], [], q3.2)) (b := (47, [some (.ref 1), some (.int one), some (.int li), some (.int pu), some (.ref 30)], [], q3.2)) rfl rfl
     (d_step (t := (40, [some (.ref 1), some (.int one), some (.int li), some (.int pu), some (.ref 30)], [(.int (-1)), (.int pu)], q3.2)) 2 rfl
     (d_if (a := (43, [some (.ref 1), some (.int one), some (.int li), some (.int pu), some (.ref 30)], [], q3.2)) (b := (47, [some (.ref 1), some (.int one), some (.int li), some (.int pu), some (.ref 30)], [], q3.2)) rfl rfl
     (d_step (t := (48, [some (.ref 1), some (.int one), some (.int li), some (.int pu), some (.ref 30)], [(.int 1)], q3.2)) 2 rfl
     (d_ret (k := 0) rfl rfl))
     (d_step (t := (48, [some (.ref 1), some (.int one), some (.int li), some (.int pu), some (.ref 30)], [(.int 0)], q3.2)) 1 rfl
     (d_ret (k := 0) rfl rfl))))
     (d_step (t := (48, [some (.ref 1), some (.int one), some (.int li), some (.int pu), some (.ref 30)], [(.int 0)], q3.2)) 1 rfl
     (d_ret (k := 0) rfl rfl)))))))))))))))
  · exact (d_step (t := (2, [some (.ref 1), some (.int one), some (.int li), some (.int pu), some (.ref 33)], [(.int one), (.ref 1)], s)) 2 rfl
     (d_callI (o := (m_T_goes d 1 one s)) rfl rfl (fun q1 =>
     d_if (a := (19, [some (.ref 1), some (.int one), some (.int li), some (.int pu), some (.ref 33)], [], q1.2)) (b := (8, [some (.ref 1), some (.int one), some (.int li), some (.int pu), some (.ref 33)], [], q1.2)) rfl rfl
     (d_step (t := (20, [some (.ref 1), some (.int one), some (.int li), some (.int pu), some (.ref 33)], [(.int 0)], q1.2)) 1 rfl
     (d_ret (k := 0) rfl rfl))
     (d_step (t := (12, [some (.ref 1), some (.int one), some (.int li), some (.int pu), some (.ref 33)], [(.int one), (.ref 33), (.ref 1)], q1.2)) 3 rfl
     (d_chk (a := (13, [some (.ref 1), some (.int one), some (.int li), some (.int pu), some (.ref 33)], [(.int ((q1.2).1 33 (one).toNatClampNeg)), (.ref 1)], q1.2)) rfl rfl
     (d_callI (o := (m_T_isStep d 1 ((q1.2).1 33 (one).toNatClampNeg) q1.2)) rfl rfl (fun q2 =>
     d_if (a := (19, [some (.ref 1), some (.int one), some (.int li), some (.int pu), some (.ref 33)], [], q2.2)) (b := (21, [some (.ref 1), some (.int one), some (.int li), some (.int pu), some (.ref 33)], [], q2.2)) rfl rfl
     (d_step (t := (20, [some (.ref 1), some (.int one), some (.int li), some (.int pu), some (.ref 33)], [(.int 0)], q2.2)) 1 rfl
     (d_ret (k := 0) rfl rfl))
     (d_step (t := (26, [some (.ref 1), some (.int one), some (.int li), some (.int pu), some (.ref 33)], [(.int one), (.ref 33), (.int one), (.ref 1)], q2.2)) 4 rfl
     (d_chk (a := (27, [some (.ref 1), some (.int one), some (.int li), some (.int pu), some (.ref 33)], [(.int ((q2.2).1 33 (one).toNatClampNeg)), (.int one), (.ref 1)], q2.2)) rfl rfl
     (d_callI (o := (m_T_risesAlone d 1 one ((q2.2).1 33 (one).toNatClampNeg) q2.2)) rfl rfl (fun q3 =>
     d_if (a := (49, [some (.ref 1), some (.int one), some (.int li), some (.int pu), some (.ref 33)], [], q3.2)) (b := (33, [some (.ref 1), some (.int one), some (.int li), some (.int pu), some (.ref 33)], [], q3.2)) rfl rfl
     (d_step (t := (55, [some (.ref 1), some (.int one), some (.int li), some (.int pu), some (.ref 33)], [(.ref 33), (.int 0), (.int one), (.int li), (.ref 1)], q3.2)) 5 rfl
     (d_callI (o := (m_T_standsFor d 1 li one 0 33 q3.2)) rfl rfl (fun q4 =>
     d_if (a := (91, [some (.ref 1), some (.int one), some (.int li), some (.int pu), some (.ref 33)], [], q4.2)) (b := (61, [some (.ref 1), some (.int one), some (.int li), some (.int pu), some (.ref 33)], [], q4.2)) rfl rfl
     (d_step (t := (92, [some (.ref 1), some (.int one), some (.int li), some (.int pu), some (.ref 33)], [(.int 0)], q4.2)) 1 rfl
     (d_ret (k := 0) rfl rfl))
     (d_step (t := (67, [some (.ref 1), some (.int one), some (.int li), some (.int pu), some (.ref 33)], [(.ref 33), (.int 1), (.int one), (.int pu), (.ref 1)], q4.2)) 5 rfl
     (d_callI (o := (m_T_standsFor d 1 pu one 1 33 q4.2)) rfl rfl (fun q5 =>
     d_if (a := (91, [some (.ref 1), some (.int one), some (.int li), some (.int pu), some (.ref 33)], [], q5.2)) (b := (73, [some (.ref 1), some (.int one), some (.int li), some (.int pu), some (.ref 33)], [], q5.2)) rfl rfl
     (d_step (t := (92, [some (.ref 1), some (.int one), some (.int li), some (.int pu), some (.ref 33)], [(.int 0)], q5.2)) 1 rfl
     (d_ret (k := 0) rfl rfl))
     (d_step (t := (80, [some (.ref 1), some (.int one), some (.int li), some (.int pu), some (.ref 33)], [(.int one), (.ref 33), (.int pu), (.int li), (.int one), (.ref 1)], q5.2)) 6 rfl
     (d_chk (a := (81, [some (.ref 1), some (.int one), some (.int li), some (.int pu), some (.ref 33)], [(.int ((q5.2).1 33 (one).toNatClampNeg)), (.int pu), (.int li), (.int one), (.ref 1)], q5.2)) rfl rfl
     (d_callI (o := (m_T_bringUp d 1 one li pu ((q5.2).1 33 (one).toNatClampNeg) q5.2)) rfl rfl (fun q6 =>
     d_if (a := (91, [some (.ref 1), some (.int one), some (.int li), some (.int pu), some (.ref 33)], [], q6.2)) (b := (87, [some (.ref 1), some (.int one), some (.int li), some (.int pu), some (.ref 33)], [], q6.2)) rfl rfl
     (d_step (t := (92, [some (.ref 1), some (.int one), some (.int li), some (.int pu), some (.ref 33)], [(.int 0)], q6.2)) 1 rfl
     (d_ret (k := 0) rfl rfl))
     (d_step (t := (92, [some (.ref 1), some (.int one), some (.int li), some (.int pu), some (.ref 33)], [(.int 1)], q6.2)) 2 rfl
     (d_ret (k := 0) rfl rfl))))))))))))
     (d_step (t := (35, [some (.ref 1), some (.int one), some (.int li), some (.int pu), some (.ref 33)], [(.int (-1)), (.int li)], q3.2)) 2 rfl
     (d_if (a := (38, [some (.ref 1), some (.int one), some (.int li), some (.int pu), some (.ref 33)], [], q3.2)) (b := (47, [some (.ref 1), some (.int one), some (.int li), some (.int pu), some (.ref 33)], [], q3.2)) rfl rfl
     (d_step (t := (40, [some (.ref 1), some (.int one), some (.int li), some (.int pu), some (.ref 33)], [(.int (-1)), (.int pu)], q3.2)) 2 rfl
     (d_if (a := (43, [some (.ref 1), some (.int one), some (.int li), some (.int pu), some (.ref 33)], [], q3.2)) (b := (47, [some (.ref 1), some (.int one), some (.int li), some (.int pu), some (.ref 33)], [], q3.2)) rfl rfl
     (d_step (t := (48, [some (.ref 1), some (.int one), some (.int li), some (.int pu), some (.ref 33)], [(.int 1)], q3.2)) 2 rfl
     (d_ret (k := 0) rfl rfl))
     (d_step (t := (48, [some (.ref 1), some (.int one), some (.int li), some (.int pu), some (.ref 33)], [(.int 0)], q3.2)) 1 rfl
     (d_ret (k := 0) rfl rfl))))
     (d_step (t := (48, [some (.ref 1), some (.int one), some (.int li), some (.int pu), some (.ref 33)], [(.int 0)], q3.2)) 1 rfl
     (d_ret (k := 0) rfl rfl)))))))))))))))
  · exact (d_step (t := (2, [some (.ref 10), some (.int one), some (.int li), some (.int pu), some (.ref 30)], [(.int one), (.ref 10)], s)) 2 rfl
     (d_callI (o := (m_T_goes d 10 one s)) rfl rfl (fun q1 =>
     d_if (a := (19, [some (.ref 10), some (.int one), some (.int li), some (.int pu), some (.ref 30)], [], q1.2)) (b := (8, [some (.ref 10), some (.int one), some (.int li), some (.int pu), some (.ref 30)], [], q1.2)) rfl rfl
     (d_step (t := (20, [some (.ref 10), some (.int one), some (.int li), some (.int pu), some (.ref 30)], [(.int 0)], q1.2)) 1 rfl
     (d_ret (k := 0) rfl rfl))
     (d_step (t := (12, [some (.ref 10), some (.int one), some (.int li), some (.int pu), some (.ref 30)], [(.int one), (.ref 30), (.ref 10)], q1.2)) 3 rfl
     (d_chk (a := (13, [some (.ref 10), some (.int one), some (.int li), some (.int pu), some (.ref 30)], [(.int ((q1.2).1 30 (one).toNatClampNeg)), (.ref 10)], q1.2)) rfl rfl
     (d_callI (o := (m_T_isStep d 10 ((q1.2).1 30 (one).toNatClampNeg) q1.2)) rfl rfl (fun q2 =>
     d_if (a := (19, [some (.ref 10), some (.int one), some (.int li), some (.int pu), some (.ref 30)], [], q2.2)) (b := (21, [some (.ref 10), some (.int one), some (.int li), some (.int pu), some (.ref 30)], [], q2.2)) rfl rfl
     (d_step (t := (20, [some (.ref 10), some (.int one), some (.int li), some (.int pu), some (.ref 30)], [(.int 0)], q2.2)) 1 rfl
     (d_ret (k := 0) rfl rfl))
     (d_step (t := (26, [some (.ref 10), some (.int one), some (.int li), some (.int pu), some (.ref 30)], [(.int one), (.ref 30), (.int one), (.ref 10)], q2.2)) 4 rfl
     (d_chk (a := (27, [some (.ref 10), some (.int one), some (.int li), some (.int pu), some (.ref 30)], [(.int ((q2.2).1 30 (one).toNatClampNeg)), (.int one), (.ref 10)], q2.2)) rfl rfl
     (d_callI (o := (m_T_risesAlone d 10 one ((q2.2).1 30 (one).toNatClampNeg) q2.2)) rfl rfl (fun q3 =>
     d_if (a := (49, [some (.ref 10), some (.int one), some (.int li), some (.int pu), some (.ref 30)], [], q3.2)) (b := (33, [some (.ref 10), some (.int one), some (.int li), some (.int pu), some (.ref 30)], [], q3.2)) rfl rfl
     (d_step (t := (55, [some (.ref 10), some (.int one), some (.int li), some (.int pu), some (.ref 30)], [(.ref 30), (.int 0), (.int one), (.int li), (.ref 10)], q3.2)) 5 rfl
     (d_callI (o := (m_T_standsFor d 10 li one 0 30 q3.2)) rfl rfl (fun q4 =>
     d_if (a := (91, [some (.ref 10), some (.int one), some (.int li), some (.int pu), some (.ref 30)], [], q4.2)) (b := (61, [some (.ref 10), some (.int one), some (.int li), some (.int pu), some (.ref 30)], [], q4.2)) rfl rfl
     (d_step (t := (92, [some (.ref 10), some (.int one), some (.int li), some (.int pu), some (.ref 30)], [(.int 0)], q4.2)) 1 rfl
     (d_ret (k := 0) rfl rfl))
     (d_step (t := (67, [some (.ref 10), some (.int one), some (.int li), some (.int pu), some (.ref 30)], [(.ref 30), (.int 1), (.int one), (.int pu), (.ref 10)], q4.2)) 5 rfl
     (d_callI (o := (m_T_standsFor d 10 pu one 1 30 q4.2)) rfl rfl (fun q5 =>
     d_if (a := (91, [some (.ref 10), some (.int one), some (.int li), some (.int pu), some (.ref 30)], [], q5.2)) (b := (73, [some (.ref 10), some (.int one), some (.int li), some (.int pu), some (.ref 30)], [], q5.2)) rfl rfl
     (d_step (t := (92, [some (.ref 10), some (.int one), some (.int li), some (.int pu), some (.ref 30)], [(.int 0)], q5.2)) 1 rfl
     (d_ret (k := 0) rfl rfl))
     (d_step (t := (80, [some (.ref 10), some (.int one), some (.int li), some (.int pu), some (.ref 30)], [(.int one), (.ref 30), (.int pu), (.int li), (.int one), (.ref 10)], q5.2)) 6 rfl
     (d_chk (a := (81, [some (.ref 10), some (.int one), some (.int li), some (.int pu), some (.ref 30)], [(.int ((q5.2).1 30 (one).toNatClampNeg)), (.int pu), (.int li), (.int one), (.ref 10)], q5.2)) rfl rfl
     (d_callI (o := (m_T_bringUp d 10 one li pu ((q5.2).1 30 (one).toNatClampNeg) q5.2)) rfl rfl (fun q6 =>
     d_if (a := (91, [some (.ref 10), some (.int one), some (.int li), some (.int pu), some (.ref 30)], [], q6.2)) (b := (87, [some (.ref 10), some (.int one), some (.int li), some (.int pu), some (.ref 30)], [], q6.2)) rfl rfl
     (d_step (t := (92, [some (.ref 10), some (.int one), some (.int li), some (.int pu), some (.ref 30)], [(.int 0)], q6.2)) 1 rfl
     (d_ret (k := 0) rfl rfl))
     (d_step (t := (92, [some (.ref 10), some (.int one), some (.int li), some (.int pu), some (.ref 30)], [(.int 1)], q6.2)) 2 rfl
     (d_ret (k := 0) rfl rfl))))))))))))
     (d_step (t := (35, [some (.ref 10), some (.int one), some (.int li), some (.int pu), some (.ref 30)], [(.int (-1)), (.int li)], q3.2)) 2 rfl
     (d_if (a := (38, [some (.ref 10), some (.int one), some (.int li), some (.int pu), some (.ref 30)], [], q3.2)) (b := (47, [some (.ref 10), some (.int one), some (.int li), some (.int pu), some (.ref 30)], [], q3.2)) rfl rfl
     (d_step (t := (40, [some (.ref 10), some (.int one), some (.int li), some (.int pu), some (.ref 30)], [(.int (-1)), (.int pu)], q3.2)) 2 rfl
     (d_if (a := (43, [some (.ref 10), some (.int one), some (.int li), some (.int pu), some (.ref 30)], [], q3.2)) (b := (47, [some (.ref 10), some (.int one), some (.int li), some (.int pu), some (.ref 30)], [], q3.2)) rfl rfl
     (d_step (t := (48, [some (.ref 10), some (.int one), some (.int li), some (.int pu), some (.ref 30)], [(.int 1)], q3.2)) 2 rfl
     (d_ret (k := 0) rfl rfl))
     (d_step (t := (48, [some (.ref 10), some (.int one), some (.int li), some (.int pu), some (.ref 30)], [(.int 0)], q3.2)) 1 rfl
     (d_ret (k := 0) rfl rfl))))
     (d_step (t := (48, [some (.ref 10), some (.int one), some (.int li), some (.int pu), some (.ref 30)], [(.int 0)], q3.2)) 1 rfl
     (d_ret (k := 0) rfl rfl)))))))))))))))
noncomputable def m_T_sinksBy (d : Nat) (tt : Nat) (one : Int32) (ca : Int32) (rr : Nat) (s : qMem) : Option (Int32 × qMem) := qI (qCall qMT d 67 [.ref tt, .int one, .int ca, .ref rr] s)
set_option maxRecDepth 20000 in
theorem e_T_sinksBy (d : Nat) (tt : Nat) (one : Int32) (ca : Int32) (rr : Nat) (hc : (tt = 1 ∧ rr = 23) ∨ (tt = 1 ∧ rr = 30) ∨ (tt = 1 ∧ rr = 33) ∨ (tt = 10 ∧ rr = 30)) (s : qMem) : m_T_sinksBy (d + 1) tt one ca rr s = ((m_T_goes d tt one s).bind (fun q1 => (if q1.1 = 0 then some (0, q1.2) else (if qIn one 5 then ((m_T_isStep d tt (((q1.2).1 rr (one).toNatClampNeg) - 1) q1.2).bind (fun q2 => (if q2.1 = 0 then some (0, q2.2) else (if qIn one 5 then ((m_T_sinksAlone d tt one (((q2.2).1 rr (one).toNatClampNeg) - 1) q2.2).bind (fun q3 => (if q3.1 = 0 then ((m_T_catches d tt ca one rr q3.2).bind (fun q4 => (if q4.1 = 0 ∨ q4.1 = 1 then some (q4.1, q4.2) else none))) else (if ca = (-1) then some (1, q3.2) else some (0, q3.2))))) else none)))) else none)))) := by
  rcases hc with ⟨rfl, rfl⟩ | ⟨rfl, rfl⟩ | ⟨rfl, rfl⟩ | ⟨rfl, rfl⟩
  · exact (d_step (t := (2, [some (.ref 1), some (.int one), some (.int ca), some (.ref 23)], [(.int one), (.ref 1)], s)) 2 rfl
     (d_callI (o := (m_T_goes d 1 one s)) rfl rfl (fun q1 =>
     d_if (a := (20, [some (.ref 1), some (.int one), some (.int ca), some (.ref 23)], [], q1.2)) (b := (8, [some (.ref 1), some (.int one), some (.int ca), some (.ref 23)], [], q1.2)) rfl rfl
     (d_step (t := (21, [some (.ref 1), some (.int one), some (.int ca), some (.ref 23)], [(.int 0)], q1.2)) 1 rfl
     (d_ret (k := 0) rfl rfl))
     (d_step (t := (11, [some (.ref 1), some (.int one), some (.int ca), some (.ref 23)], [(.int one), (.ref 23), (.ref 1)], q1.2)) 3 rfl
     (d_chk (a := (12, [some (.ref 1), some (.int one), some (.int ca), some (.ref 23)], [(.int ((q1.2).1 23 (one).toNatClampNeg)), (.ref 1)], q1.2)) rfl rfl
     (d_step (t := (14, [some (.ref 1), some (.int one), some (.int ca), some (.ref 23)], [(.int (((q1.2).1 23 (one).toNatClampNeg) - 1)), (.ref 1)], q1.2)) 2 rfl
     (d_callI (o := (m_T_isStep d 1 (((q1.2).1 23 (one).toNatClampNeg) - 1) q1.2)) rfl rfl (fun q2 =>
     d_if (a := (20, [some (.ref 1), some (.int one), some (.int ca), some (.ref 23)], [], q2.2)) (b := (22, [some (.ref 1), some (.int one), some (.int ca), some (.ref 23)], [], q2.2)) rfl rfl
     (d_step (t := (21, [some (.ref 1), some (.int one), some (.int ca), some (.ref 23)], [(.int 0)], q2.2)) 1 rfl
     (d_ret (k := 0) rfl rfl))
     (d_step (t := (26, [some (.ref 1), some (.int one), some (.int ca), some (.ref 23)], [(.int one), (.ref 23), (.int one), (.ref 1)], q2.2)) 4 rfl
     (d_chk (a := (27, [some (.ref 1), some (.int one), some (.int ca), some (.ref 23)], [(.int ((q2.2).1 23 (one).toNatClampNeg)), (.int one), (.ref 1)], q2.2)) rfl rfl
     (d_step (t := (29, [some (.ref 1), some (.int one), some (.int ca), some (.ref 23)], [(.int (((q2.2).1 23 (one).toNatClampNeg) - 1)), (.int one), (.ref 1)], q2.2)) 2 rfl
     (d_callI (o := (m_T_sinksAlone d 1 one (((q2.2).1 23 (one).toNatClampNeg) - 1) q2.2)) rfl rfl (fun q3 =>
     d_if (a := (46, [some (.ref 1), some (.int one), some (.int ca), some (.ref 23)], [], q3.2)) (b := (35, [some (.ref 1), some (.int one), some (.int ca), some (.ref 23)], [], q3.2)) rfl rfl
     (d_step (t := (50, [some (.ref 1), some (.int one), some (.int ca), some (.ref 23)], [(.ref 23), (.int one), (.int ca), (.ref 1)], q3.2)) 4 rfl
     (d_callI (o := (m_T_catches d 1 ca one 23 q3.2)) rfl rfl (fun q4 =>
     d_retz (k := 0) rfl rfl)))
     (d_step (t := (37, [some (.ref 1), some (.int one), some (.int ca), some (.ref 23)], [(.int (-1)), (.int ca)], q3.2)) 2 rfl
     (d_if (a := (40, [some (.ref 1), some (.int one), some (.int ca), some (.ref 23)], [], q3.2)) (b := (44, [some (.ref 1), some (.int one), some (.int ca), some (.ref 23)], [], q3.2)) rfl rfl
     (d_step (t := (45, [some (.ref 1), some (.int one), some (.int ca), some (.ref 23)], [(.int 1)], q3.2)) 2 rfl
     (d_ret (k := 0) rfl rfl))
     (d_step (t := (45, [some (.ref 1), some (.int one), some (.int ca), some (.ref 23)], [(.int 0)], q3.2)) 1 rfl
     (d_ret (k := 0) rfl rfl)))))))))))))))))
  · exact (d_step (t := (2, [some (.ref 1), some (.int one), some (.int ca), some (.ref 30)], [(.int one), (.ref 1)], s)) 2 rfl
     (d_callI (o := (m_T_goes d 1 one s)) rfl rfl (fun q1 =>
     d_if (a := (20, [some (.ref 1), some (.int one), some (.int ca), some (.ref 30)], [], q1.2)) (b := (8, [some (.ref 1), some (.int one), some (.int ca), some (.ref 30)], [], q1.2)) rfl rfl
     (d_step (t := (21, [some (.ref 1), some (.int one), some (.int ca), some (.ref 30)], [(.int 0)], q1.2)) 1 rfl
     (d_ret (k := 0) rfl rfl))
     (d_step (t := (11, [some (.ref 1), some (.int one), some (.int ca), some (.ref 30)], [(.int one), (.ref 30), (.ref 1)], q1.2)) 3 rfl
     (d_chk (a := (12, [some (.ref 1), some (.int one), some (.int ca), some (.ref 30)], [(.int ((q1.2).1 30 (one).toNatClampNeg)), (.ref 1)], q1.2)) rfl rfl
     (d_step (t := (14, [some (.ref 1), some (.int one), some (.int ca), some (.ref 30)], [(.int (((q1.2).1 30 (one).toNatClampNeg) - 1)), (.ref 1)], q1.2)) 2 rfl
     (d_callI (o := (m_T_isStep d 1 (((q1.2).1 30 (one).toNatClampNeg) - 1) q1.2)) rfl rfl (fun q2 =>
     d_if (a := (20, [some (.ref 1), some (.int one), some (.int ca), some (.ref 30)], [], q2.2)) (b := (22, [some (.ref 1), some (.int one), some (.int ca), some (.ref 30)], [], q2.2)) rfl rfl
     (d_step (t := (21, [some (.ref 1), some (.int one), some (.int ca), some (.ref 30)], [(.int 0)], q2.2)) 1 rfl
     (d_ret (k := 0) rfl rfl))
     (d_step (t := (26, [some (.ref 1), some (.int one), some (.int ca), some (.ref 30)], [(.int one), (.ref 30), (.int one), (.ref 1)], q2.2)) 4 rfl
     (d_chk (a := (27, [some (.ref 1), some (.int one), some (.int ca), some (.ref 30)], [(.int ((q2.2).1 30 (one).toNatClampNeg)), (.int one), (.ref 1)], q2.2)) rfl rfl
     (d_step (t := (29, [some (.ref 1), some (.int one), some (.int ca), some (.ref 30)], [(.int (((q2.2).1 30 (one).toNatClampNeg) - 1)), (.int one), (.ref 1)], q2.2)) 2 rfl
     (d_callI (o := (m_T_sinksAlone d 1 one (((q2.2).1 30 (one).toNatClampNeg) - 1) q2.2)) rfl rfl (fun q3 =>
     d_if (a := (46, [some (.ref 1), some (.int one), some (.int ca), some (.ref 30)], [], q3.2)) (b := (35, [some (.ref 1), some (.int one), some (.int ca), some (.ref 30)], [], q3.2)) rfl rfl
     (d_step (t := (50, [some (.ref 1), some (.int one), some (.int ca), some (.ref 30)], [(.ref 30), (.int one), (.int ca), (.ref 1)], q3.2)) 4 rfl
     (d_callI (o := (m_T_catches d 1 ca one 30 q3.2)) rfl rfl (fun q4 =>
     d_retz (k := 0) rfl rfl)))
     (d_step (t := (37, [some (.ref 1), some (.int one), some (.int ca), some (.ref 30)], [(.int (-1)), (.int ca)], q3.2)) 2 rfl
     (d_if (a := (40, [some (.ref 1), some (.int one), some (.int ca), some (.ref 30)], [], q3.2)) (b := (44, [some (.ref 1), some (.int one), some (.int ca), some (.ref 30)], [], q3.2)) rfl rfl
     (d_step (t := (45, [some (.ref 1), some (.int one), some (.int ca), some (.ref 30)], [(.int 1)], q3.2)) 2 rfl
     (d_ret (k := 0) rfl rfl))
     (d_step (t := (45, [some (.ref 1), some (.int one), some (.int ca), some (.ref 30)], [(.int 0)], q3.2)) 1 rfl
     (d_ret (k := 0) rfl rfl)))))))))))))))))
  · exact (d_step (t := (2, [some (.ref 1), some (.int one), some (.int ca), some (.ref 33)], [(.int one), (.ref 1)], s)) 2 rfl
     (d_callI (o := (m_T_goes d 1 one s)) rfl rfl (fun q1 =>
     d_if (a := (20, [some (.ref 1), some (.int one), some (.int ca), some (.ref 33)], [], q1.2)) (b := (8, [some (.ref 1), some (.int one), some (.int ca), some (.ref 33)], [], q1.2)) rfl rfl
     (d_step (t := (21, [some (.ref 1), some (.int one), some (.int ca), some (.ref 33)], [(.int 0)], q1.2)) 1 rfl
     (d_ret (k := 0) rfl rfl))
     (d_step (t := (11, [some (.ref 1), some (.int one), some (.int ca), some (.ref 33)], [(.int one), (.ref 33), (.ref 1)], q1.2)) 3 rfl
     (d_chk (a := (12, [some (.ref 1), some (.int one), some (.int ca), some (.ref 33)], [(.int ((q1.2).1 33 (one).toNatClampNeg)), (.ref 1)], q1.2)) rfl rfl
     (d_step (t := (14, [some (.ref 1), some (.int one), some (.int ca), some (.ref 33)], [(.int (((q1.2).1 33 (one).toNatClampNeg) - 1)), (.ref 1)], q1.2)) 2 rfl
     (d_callI (o := (m_T_isStep d 1 (((q1.2).1 33 (one).toNatClampNeg) - 1) q1.2)) rfl rfl (fun q2 =>
     d_if (a := (20, [some (.ref 1), some (.int one), some (.int ca), some (.ref 33)], [], q2.2)) (b := (22, [some (.ref 1), some (.int one), some (.int ca), some (.ref 33)], [], q2.2)) rfl rfl
     (d_step (t := (21, [some (.ref 1), some (.int one), some (.int ca), some (.ref 33)], [(.int 0)], q2.2)) 1 rfl
     (d_ret (k := 0) rfl rfl))
     (d_step (t := (26, [some (.ref 1), some (.int one), some (.int ca), some (.ref 33)], [(.int one), (.ref 33), (.int one), (.ref 1)], q2.2)) 4 rfl
     (d_chk (a := (27, [some (.ref 1), some (.int one), some (.int ca), some (.ref 33)], [(.int ((q2.2).1 33 (one).toNatClampNeg)), (.int one), (.ref 1)], q2.2)) rfl rfl
     (d_step (t := (29, [some (.ref 1), some (.int one), some (.int ca), some (.ref 33)], [(.int (((q2.2).1 33 (one).toNatClampNeg) - 1)), (.int one), (.ref 1)], q2.2)) 2 rfl
     (d_callI (o := (m_T_sinksAlone d 1 one (((q2.2).1 33 (one).toNatClampNeg) - 1) q2.2)) rfl rfl (fun q3 =>
     d_if (a := (46, [some (.ref 1), some (.int one), some (.int ca), some (.ref 33)], [], q3.2)) (b := (35, [some (.ref 1), some (.int one), some (.int ca), some (.ref 33)], [], q3.2)) rfl rfl
     (d_step (t := (50, [some (.ref 1), some (.int one), some (.int ca), some (.ref 33)], [(.ref 33), (.int one), (.int ca), (.ref 1)], q3.2)) 4 rfl
     (d_callI (o := (m_T_catches d 1 ca one 33 q3.2)) rfl rfl (fun q4 =>
     d_retz (k := 0) rfl rfl)))
     (d_step (t := (37, [some (.ref 1), some (.int one), some (.int ca), some (.ref 33)], [(.int (-1)), (.int ca)], q3.2)) 2 rfl
     (d_if (a := (40, [some (.ref 1), some (.int one), some (.int ca), some (.ref 33)], [], q3.2)) (b := (44, [some (.ref 1), some (.int one), some (.int ca), some (.ref 33)], [], q3.2)) rfl rfl
     (d_step (t := (45, [some (.ref 1), some (.int one), some (.int ca), some (.ref 33)], [(.int 1)], q3.2)) 2 rfl
     (d_ret (k := 0) rfl rfl))
     (d_step (t := (45, [some (.ref 1), some (.int one), some (.int ca), some (.ref 33)], [(.int 0)], q3.2)) 1 rfl
     (d_ret (k := 0) rfl rfl)))))))))))))))))
  · exact (d_step (t := (2, [some (.ref 10), some (.int one), some (.int ca), some (.ref 30)], [(.int one), (.ref 10)], s)) 2 rfl
     (d_callI (o := (m_T_goes d 10 one s)) rfl rfl (fun q1 =>
     d_if (a := (20, [some (.ref 10), some (.int one), some (.int ca), some (.ref 30)], [], q1.2)) (b := (8, [some (.ref 10), some (.int one), some (.int ca), some (.ref 30)], [], q1.2)) rfl rfl
     (d_step (t := (21, [some (.ref 10), some (.int one), some (.int ca), some (.ref 30)], [(.int 0)], q1.2)) 1 rfl
     (d_ret (k := 0) rfl rfl))
     (d_step (t := (11, [some (.ref 10), some (.int one), some (.int ca), some (.ref 30)], [(.int one), (.ref 30), (.ref 10)], q1.2)) 3 rfl
     (d_chk (a := (12, [some (.ref 10), some (.int one), some (.int ca), some (.ref 30)], [(.int ((q1.2).1 30 (one).toNatClampNeg)), (.ref 10)], q1.2)) rfl rfl
     (d_step (t := (14, [some (.ref 10), some (.int one), some (.int ca), some (.ref 30)], [(.int (((q1.2).1 30 (one).toNatClampNeg) - 1)), (.ref 10)], q1.2)) 2 rfl
     (d_callI (o := (m_T_isStep d 10 (((q1.2).1 30 (one).toNatClampNeg) - 1) q1.2)) rfl rfl (fun q2 =>
     d_if (a := (20, [some (.ref 10), some (.int one), some (.int ca), some (.ref 30)], [], q2.2)) (b := (22, [some (.ref 10), some (.int one), some (.int ca), some (.ref 30)], [], q2.2)) rfl rfl
     (d_step (t := (21, [some (.ref 10), some (.int one), some (.int ca), some (.ref 30)], [(.int 0)], q2.2)) 1 rfl
     (d_ret (k := 0) rfl rfl))
     (d_step (t := (26, [some (.ref 10), some (.int one), some (.int ca), some (.ref 30)], [(.int one), (.ref 30), (.int one), (.ref 10)], q2.2)) 4 rfl
     (d_chk (a := (27, [some (.ref 10), some (.int one), some (.int ca), some (.ref 30)], [(.int ((q2.2).1 30 (one).toNatClampNeg)), (.int one), (.ref 10)], q2.2)) rfl rfl
     (d_step (t := (29, [some (.ref 10), some (.int one), some (.int ca), some (.ref 30)], [(.int (((q2.2).1 30 (one).toNatClampNeg) - 1)), (.int one), (.ref 10)], q2.2)) 2 rfl
     (d_callI (o := (m_T_sinksAlone d 10 one (((q2.2).1 30 (one).toNatClampNeg) - 1) q2.2)) rfl rfl (fun q3 =>
     d_if (a := (46, [some (.ref 10), some (.int one), some (.int ca), some (.ref 30)], [], q3.2)) (b := (35, [some (.ref 10), some (.int one), some (.int ca), some (.ref 30)], [], q3.2)) rfl rfl
     (d_step (t := (50, [some (.ref 10), some (.int one), some (.int ca), some (.ref 30)], [(.ref 30), (.int one), (.int ca), (.ref 10)], q3.2)) 4 rfl
     (d_callI (o := (m_T_catches d 10 ca one 30 q3.2)) rfl rfl (fun q4 =>
     d_retz (k := 0) rfl rfl)))
     (d_step (t := (37, [some (.ref 10), some (.int one), some (.int ca), some (.ref 30)], [(.int (-1)), (.int ca)], q3.2)) 2 rfl
     (d_if (a := (40, [some (.ref 10), some (.int one), some (.int ca), some (.ref 30)], [], q3.2)) (b := (44, [some (.ref 10), some (.int one), some (.int ca), some (.ref 30)], [], q3.2)) rfl rfl
     (d_step (t := (45, [some (.ref 10), some (.int one), some (.int ca), some (.ref 30)], [(.int 1)], q3.2)) 2 rfl
     (d_ret (k := 0) rfl rfl))
     (d_step (t := (45, [some (.ref 10), some (.int one), some (.int ca), some (.ref 30)], [(.int 0)], q3.2)) 1 rfl
     (d_ret (k := 0) rfl rfl)))))))))))))))))
noncomputable def m_T_firstHelp (d : Nat) (tt : Nat) (one : Int32) (rr : Nat) (s : qMem) : Option (Int32 × qMem) := qI (qCall qMT d 62 [.ref tt, .int one, .ref rr] s)
noncomputable def l_T_firstHelp_1 (d : Nat) (tt : Nat) (rr : Nat) (x1 : Int32) (x3 : Int32) (s : qMem) : Option (Int32 × qMem) := qI (qK qMT d 62 (39, [some (.ref tt), some (.int x1), some (.ref rr), some (.int x3), none, none], [], s))
noncomputable def l_T_firstHelp_2 (d : Nat) (tt : Nat) (rr : Nat) (x1 : Int32) (x3 : Int32) (x4 : Int32) (x5 : Int32) (s : qMem) : Option (Int32 × qMem) := qI (qK qMT d 62 (60, [some (.ref tt), some (.int x1), some (.ref rr), some (.int x3), some (.int x4), some (.int x5)], [], s))
set_option maxRecDepth 20000 in
theorem e_T_firstHelp (d : Nat) (tt : Nat) (one : Int32) (rr : Nat) (hc : (tt = 1 ∧ rr = 23) ∨ (tt = 1 ∧ rr = 30) ∨ (tt = 1 ∧ rr = 33) ∨ (tt = 10 ∧ rr = 30)) (s : qMem) : m_T_firstHelp (d + 1) tt one rr s = ((m_T_goes d tt one s).bind (fun q1 => (if q1.1 = 0 then some ((-1), q1.2) else (if qIn one 5 then ((m_T_isStep d tt ((q1.2).1 rr (one).toNatClampNeg) q1.2).bind (fun q2 => (if q2.1 = 0 then some ((-1), q2.2) else (if qIn one 5 then ((m_T_risesAlone d tt one ((q2.2).1 rr (one).toNatClampNeg) q2.2).bind (fun q3 => (if q3.1 = 0 then (l_T_firstHelp_1 d tt rr one (-1) q3.2) else ((m_T_pairOf d (-1) (-1) q3.2).bind (fun q4 => some (q4.1, q4.2)))))) else none)))) else none)))) := by
  rcases hc with ⟨rfl, rfl⟩ | ⟨rfl, rfl⟩ | ⟨rfl, rfl⟩ | ⟨rfl, rfl⟩
  · exact (d_step (t := (2, [some (.ref 1), some (.int one), some (.ref 23), none, none, none], [(.int one), (.ref 1)], s)) 2 rfl
     (d_callI (o := (m_T_goes d 1 one s)) rfl rfl (fun q1 =>
     d_if (a := (18, [some (.ref 1), some (.int one), some (.ref 23), none, none, none], [], q1.2)) (b := (8, [some (.ref 1), some (.int one), some (.ref 23), none, none, none], [], q1.2)) rfl rfl
     (d_step (t := (19, [some (.ref 1), some (.int one), some (.ref 23), none, none, none], [(.int (-1))], q1.2)) 1 rfl
     (d_ret (k := 0) rfl rfl))
     (d_step (t := (11, [some (.ref 1), some (.int one), some (.ref 23), none, none, none], [(.int one), (.ref 23), (.ref 1)], q1.2)) 3 rfl
     (d_chk (a := (12, [some (.ref 1), some (.int one), some (.ref 23), none, none, none], [(.int ((q1.2).1 23 (one).toNatClampNeg)), (.ref 1)], q1.2)) rfl rfl
     (d_callI (o := (m_T_isStep d 1 ((q1.2).1 23 (one).toNatClampNeg) q1.2)) rfl rfl (fun q2 =>
     d_if (a := (18, [some (.ref 1), some (.int one), some (.ref 23), none, none, none], [], q2.2)) (b := (20, [some (.ref 1), some (.int one), some (.ref 23), none, none, none], [], q2.2)) rfl rfl
     (d_step (t := (19, [some (.ref 1), some (.int one), some (.ref 23), none, none, none], [(.int (-1))], q2.2)) 1 rfl
     (d_ret (k := 0) rfl rfl))
     (d_step (t := (24, [some (.ref 1), some (.int one), some (.ref 23), none, none, none], [(.int one), (.ref 23), (.int one), (.ref 1)], q2.2)) 4 rfl
     (d_chk (a := (25, [some (.ref 1), some (.int one), some (.ref 23), none, none, none], [(.int ((q2.2).1 23 (one).toNatClampNeg)), (.int one), (.ref 1)], q2.2)) rfl rfl
     (d_callI (o := (m_T_risesAlone d 1 one ((q2.2).1 23 (one).toNatClampNeg) q2.2)) rfl rfl (fun q3 =>
     d_if (a := (37, [some (.ref 1), some (.int one), some (.ref 23), none, none, none], [], q3.2)) (b := (31, [some (.ref 1), some (.int one), some (.ref 23), none, none, none], [], q3.2)) rfl rfl
     (d_step (t := (39, [some (.ref 1), some (.int one), some (.ref 23), some (.int (-1)), none, none], [], q3.2)) 2 rfl
     (d_lab (x2 := (39, [some (.ref 1), some (.int one), some (.ref 23), some (.int (-1)), none, none], [], q3.2)) rfl rfl rfl))
     (d_step (t := (33, [some (.ref 1), some (.int one), some (.ref 23), none, none, none], [(.int (-1)), (.int (-1))], q3.2)) 2 rfl
     (d_callI (o := (m_T_pairOf d (-1) (-1) q3.2)) rfl rfl (fun q4 =>
     d_ret (k := 0) rfl rfl))))))))))))))
  · exact (d_step (t := (2, [some (.ref 1), some (.int one), some (.ref 30), none, none, none], [(.int one), (.ref 1)], s)) 2 rfl
     (d_callI (o := (m_T_goes d 1 one s)) rfl rfl (fun q1 =>
     d_if (a := (18, [some (.ref 1), some (.int one), some (.ref 30), none, none, none], [], q1.2)) (b := (8, [some (.ref 1), some (.int one), some (.ref 30), none, none, none], [], q1.2)) rfl rfl
     (d_step (t := (19, [some (.ref 1), some (.int one), some (.ref 30), none, none, none], [(.int (-1))], q1.2)) 1 rfl
     (d_ret (k := 0) rfl rfl))
     (d_step (t := (11, [some (.ref 1), some (.int one), some (.ref 30), none, none, none], [(.int one), (.ref 30), (.ref 1)], q1.2)) 3 rfl
     (d_chk (a := (12, [some (.ref 1), some (.int one), some (.ref 30), none, none, none], [(.int ((q1.2).1 30 (one).toNatClampNeg)), (.ref 1)], q1.2)) rfl rfl
     (d_callI (o := (m_T_isStep d 1 ((q1.2).1 30 (one).toNatClampNeg) q1.2)) rfl rfl (fun q2 =>
     d_if (a := (18, [some (.ref 1), some (.int one), some (.ref 30), none, none, none], [], q2.2)) (b := (20, [some (.ref 1), some (.int one), some (.ref 30), none, none, none], [], q2.2)) rfl rfl
     (d_step (t := (19, [some (.ref 1), some (.int one), some (.ref 30), none, none, none], [(.int (-1))], q2.2)) 1 rfl
     (d_ret (k := 0) rfl rfl))
     (d_step (t := (24, [some (.ref 1), some (.int one), some (.ref 30), none, none, none], [(.int one), (.ref 30), (.int one), (.ref 1)], q2.2)) 4 rfl
     (d_chk (a := (25, [some (.ref 1), some (.int one), some (.ref 30), none, none, none], [(.int ((q2.2).1 30 (one).toNatClampNeg)), (.int one), (.ref 1)], q2.2)) rfl rfl
     (d_callI (o := (m_T_risesAlone d 1 one ((q2.2).1 30 (one).toNatClampNeg) q2.2)) rfl rfl (fun q3 =>
     d_if (a := (37, [some (.ref 1), some (.int one), some (.ref 30), none, none, none], [], q3.2)) (b := (31, [some (.ref 1), some (.int one), some (.ref 30), none, none, none], [], q3.2)) rfl rfl
     (d_step (t := (39, [some (.ref 1), some (.int one), some (.ref 30), some (.int (-1)), none, none], [], q3.2)) 2 rfl
     (d_lab (x2 := (39, [some (.ref 1), some (.int one), some (.ref 30), some (.int (-1)), none, none], [], q3.2)) rfl rfl rfl))
     (d_step (t := (33, [some (.ref 1), some (.int one), some (.ref 30), none, none, none], [(.int (-1)), (.int (-1))], q3.2)) 2 rfl
     (d_callI (o := (m_T_pairOf d (-1) (-1) q3.2)) rfl rfl (fun q4 =>
     d_ret (k := 0) rfl rfl))))))))))))))
  · exact (d_step (t := (2, [some (.ref 1), some (.int one), some (.ref 33), none, none, none], [(.int one), (.ref 1)], s)) 2 rfl
     (d_callI (o := (m_T_goes d 1 one s)) rfl rfl (fun q1 =>
     d_if (a := (18, [some (.ref 1), some (.int one), some (.ref 33), none, none, none], [], q1.2)) (b := (8, [some (.ref 1), some (.int one), some (.ref 33), none, none, none], [], q1.2)) rfl rfl
     (d_step (t := (19, [some (.ref 1), some (.int one), some (.ref 33), none, none, none], [(.int (-1))], q1.2)) 1 rfl
     (d_ret (k := 0) rfl rfl))
     (d_step (t := (11, [some (.ref 1), some (.int one), some (.ref 33), none, none, none], [(.int one), (.ref 33), (.ref 1)], q1.2)) 3 rfl
     (d_chk (a := (12, [some (.ref 1), some (.int one), some (.ref 33), none, none, none], [(.int ((q1.2).1 33 (one).toNatClampNeg)), (.ref 1)], q1.2)) rfl rfl
     (d_callI (o := (m_T_isStep d 1 ((q1.2).1 33 (one).toNatClampNeg) q1.2)) rfl rfl (fun q2 =>
     d_if (a := (18, [some (.ref 1), some (.int one), some (.ref 33), none, none, none], [], q2.2)) (b := (20, [some (.ref 1), some (.int one), some (.ref 33), none, none, none], [], q2.2)) rfl rfl
     (d_step (t := (19, [some (.ref 1), some (.int one), some (.ref 33), none, none, none], [(.int (-1))], q2.2)) 1 rfl
     (d_ret (k := 0) rfl rfl))
     (d_step (t := (24, [some (.ref 1), some (.int one), some (.ref 33), none, none, none], [(.int one), (.ref 33), (.int one), (.ref 1)], q2.2)) 4 rfl
     (d_chk (a := (25, [some (.ref 1), some (.int one), some (.ref 33), none, none, none], [(.int ((q2.2).1 33 (one).toNatClampNeg)), (.int one), (.ref 1)], q2.2)) rfl rfl
     (d_callI (o := (m_T_risesAlone d 1 one ((q2.2).1 33 (one).toNatClampNeg) q2.2)) rfl rfl (fun q3 =>
     d_if (a := (37, [some (.ref 1), some (.int one), some (.ref 33), none, none, none], [], q3.2)) (b := (31, [some (.ref 1), some (.int one), some (.ref 33), none, none, none], [], q3.2)) rfl rfl
     (d_step (t := (39, [some (.ref 1), some (.int one), some (.ref 33), some (.int (-1)), none, none], [], q3.2)) 2 rfl
     (d_lab (x2 := (39, [some (.ref 1), some (.int one), some (.ref 33), some (.int (-1)), none, none], [], q3.2)) rfl rfl rfl))
     (d_step (t := (33, [some (.ref 1), some (.int one), some (.ref 33), none, none, none], [(.int (-1)), (.int (-1))], q3.2)) 2 rfl
     (d_callI (o := (m_T_pairOf d (-1) (-1) q3.2)) rfl rfl (fun q4 =>
     d_ret (k := 0) rfl rfl))))))))))))))
  · exact (d_step (t := (2, [some (.ref 10), some (.int one), some (.ref 30), none, none, none], [(.int one), (.ref 10)], s)) 2 rfl
     (d_callI (o := (m_T_goes d 10 one s)) rfl rfl (fun q1 =>
     d_if (a := (18, [some (.ref 10), some (.int one), some (.ref 30), none, none, none], [], q1.2)) (b := (8, [some (.ref 10), some (.int one), some (.ref 30), none, none, none], [], q1.2)) rfl rfl
     (d_step (t := (19, [some (.ref 10), some (.int one), some (.ref 30), none, none, none], [(.int (-1))], q1.2)) 1 rfl
     (d_ret (k := 0) rfl rfl))
     (d_step (t := (11, [some (.ref 10), some (.int one), some (.ref 30), none, none, none], [(.int one), (.ref 30), (.ref 10)], q1.2)) 3 rfl
     (d_chk (a := (12, [some (.ref 10), some (.int one), some (.ref 30), none, none, none], [(.int ((q1.2).1 30 (one).toNatClampNeg)), (.ref 10)], q1.2)) rfl rfl
     (d_callI (o := (m_T_isStep d 10 ((q1.2).1 30 (one).toNatClampNeg) q1.2)) rfl rfl (fun q2 =>
     d_if (a := (18, [some (.ref 10), some (.int one), some (.ref 30), none, none, none], [], q2.2)) (b := (20, [some (.ref 10), some (.int one), some (.ref 30), none, none, none], [], q2.2)) rfl rfl
     (d_step (t := (19, [some (.ref 10), some (.int one), some (.ref 30), none, none, none], [(.int (-1))], q2.2)) 1 rfl
     (d_ret (k := 0) rfl rfl))
     (d_step (t := (24, [some (.ref 10), some (.int one), some (.ref 30), none, none, none], [(.int one), (.ref 30), (.int one), (.ref 10)], q2.2)) 4 rfl
     (d_chk (a := (25, [some (.ref 10), some (.int one), some (.ref 30), none, none, none], [(.int ((q2.2).1 30 (one).toNatClampNeg)), (.int one), (.ref 10)], q2.2)) rfl rfl
     (d_callI (o := (m_T_risesAlone d 10 one ((q2.2).1 30 (one).toNatClampNeg) q2.2)) rfl rfl (fun q3 =>
     d_if (a := (37, [some (.ref 10), some (.int one), some (.ref 30), none, none, none], [], q3.2)) (b := (31, [some (.ref 10), some (.int one), some (.ref 30), none, none, none], [], q3.2)) rfl rfl
     (d_step (t := (39, [some (.ref 10), some (.int one), some (.ref 30), some (.int (-1)), none, none], [], q3.2)) 2 rfl
     (d_lab (x2 := (39, [some (.ref 10), some (.int one), some (.ref 30), some (.int (-1)), none, none], [], q3.2)) rfl rfl rfl))
     (d_step (t := (33, [some (.ref 10), some (.int one), some (.ref 30), none, none, none], [(.int (-1)), (.int (-1))], q3.2)) 2 rfl
     (d_callI (o := (m_T_pairOf d (-1) (-1) q3.2)) rfl rfl (fun q4 =>
     d_ret (k := 0) rfl rfl))))))))))))))
set_option maxRecDepth 20000 in
theorem el_T_firstHelp_1 (d : Nat) (tt : Nat) (rr : Nat) (x1 : Int32) (x3 : Int32) (hc : (tt = 1 ∧ rr = 23) ∨ (tt = 1 ∧ rr = 30) ∨ (tt = 1 ∧ rr = 33) ∨ (tt = 10 ∧ rr = 30)) (s : qMem) : l_T_firstHelp_1 d tt rr x1 x3 s = (if ((s).1 tt 1) ≤ x3 then some ((-1), s) else ((m_T_standsFor d tt x3 x1 0 rr s).bind (fun q1 => (l_T_firstHelp_2 d tt rr x1 x3 q1.1 (-1) q1.2)))) := by
  rcases hc with ⟨rfl, rfl⟩ | ⟨rfl, rfl⟩ | ⟨rfl, rfl⟩ | ⟨rfl, rfl⟩
  · exact (d_step (t := (44, [some (.ref 1), some (.int x1), some (.ref 23), some (.int x3), none, none], [(.int ((s).1 1 1)), (.int x3)], s)) 3 rfl
     (d_if (a := (119, [some (.ref 1), some (.int x1), some (.ref 23), some (.int x3), none, none], [], s)) (b := (47, [some (.ref 1), some (.int x1), some (.ref 23), some (.int x3), none, none], [], s)) rfl rfl
     (d_step (t := (120, [some (.ref 1), some (.int x1), some (.ref 23), some (.int x3), none, none], [(.int (-1))], s)) 1 rfl
     (d_ret (k := 0) rfl rfl))
     (d_step (t := (52, [some (.ref 1), some (.int x1), some (.ref 23), some (.int x3), none, none], [(.ref 23), (.int 0), (.int x1), (.int x3), (.ref 1)], s)) 5 rfl
     (d_callI (o := (m_T_standsFor d 1 x3 x1 0 23 s)) rfl rfl (fun q1 =>
     d_step (t := (60, [some (.ref 1), some (.int x1), some (.ref 23), some (.int x3), some (.int q1.1), some (.int (-1))], [], q1.2)) 3 rfl
     (rfl))))))
  · exact (d_step (t := (44, [some (.ref 1), some (.int x1), some (.ref 30), some (.int x3), none, none], [(.int ((s).1 1 1)), (.int x3)], s)) 3 rfl
     (d_if (a := (119, [some (.ref 1), some (.int x1), some (.ref 30), some (.int x3), none, none], [], s)) (b := (47, [some (.ref 1), some (.int x1), some (.ref 30), some (.int x3), none, none], [], s)) rfl rfl
     (d_step (t := (120, [some (.ref 1), some (.int x1), some (.ref 30), some (.int x3), none, none], [(.int (-1))], s)) 1 rfl
     (d_ret (k := 0) rfl rfl))
     (d_step (t := (52, [some (.ref 1), some (.int x1), some (.ref 30), some (.int x3), none, none], [(.ref 30), (.int 0), (.int x1), (.int x3), (.ref 1)], s)) 5 rfl
     (d_callI (o := (m_T_standsFor d 1 x3 x1 0 30 s)) rfl rfl (fun q1 =>
     d_step (t := (60, [some (.ref 1), some (.int x1), some (.ref 30), some (.int x3), some (.int q1.1), some (.int (-1))], [], q1.2)) 3 rfl
     (rfl))))))
  · exact (d_step (t := (44, [some (.ref 1), some (.int x1), some (.ref 33), some (.int x3), none, none], [(.int ((s).1 1 1)), (.int x3)], s)) 3 rfl
     (d_if (a := (119, [some (.ref 1), some (.int x1), some (.ref 33), some (.int x3), none, none], [], s)) (b := (47, [some (.ref 1), some (.int x1), some (.ref 33), some (.int x3), none, none], [], s)) rfl rfl
     (d_step (t := (120, [some (.ref 1), some (.int x1), some (.ref 33), some (.int x3), none, none], [(.int (-1))], s)) 1 rfl
     (d_ret (k := 0) rfl rfl))
     (d_step (t := (52, [some (.ref 1), some (.int x1), some (.ref 33), some (.int x3), none, none], [(.ref 33), (.int 0), (.int x1), (.int x3), (.ref 1)], s)) 5 rfl
     (d_callI (o := (m_T_standsFor d 1 x3 x1 0 33 s)) rfl rfl (fun q1 =>
     d_step (t := (60, [some (.ref 1), some (.int x1), some (.ref 33), some (.int x3), some (.int q1.1), some (.int (-1))], [], q1.2)) 3 rfl
     (rfl))))))
  · exact (d_step (t := (44, [some (.ref 10), some (.int x1), some (.ref 30), some (.int x3), none, none], [(.int ((s).1 10 1)), (.int x3)], s)) 3 rfl
     (d_if (a := (119, [some (.ref 10), some (.int x1), some (.ref 30), some (.int x3), none, none], [], s)) (b := (47, [some (.ref 10), some (.int x1), some (.ref 30), some (.int x3), none, none], [], s)) rfl rfl
     (d_step (t := (120, [some (.ref 10), some (.int x1), some (.ref 30), some (.int x3), none, none], [(.int (-1))], s)) 1 rfl
     (d_ret (k := 0) rfl rfl))
     (d_step (t := (52, [some (.ref 10), some (.int x1), some (.ref 30), some (.int x3), none, none], [(.ref 30), (.int 0), (.int x1), (.int x3), (.ref 10)], s)) 5 rfl
     (d_callI (o := (m_T_standsFor d 10 x3 x1 0 30 s)) rfl rfl (fun q1 =>
     d_step (t := (60, [some (.ref 10), some (.int x1), some (.ref 30), some (.int x3), some (.int q1.1), some (.int (-1))], [], q1.2)) 3 rfl
     (rfl))))))
set_option maxRecDepth 20000 in
theorem el_T_firstHelp_2 (d : Nat) (tt : Nat) (rr : Nat) (x1 : Int32) (x3 : Int32) (x4 : Int32) (x5 : Int32) (hc : (tt = 1 ∧ rr = 23) ∨ (tt = 1 ∧ rr = 30) ∨ (tt = 1 ∧ rr = 33) ∨ (tt = 10 ∧ rr = 30)) (s : qMem) : l_T_firstHelp_2 d tt rr x1 x3 x4 x5 s = (if x4 = 0 then (l_T_firstHelp_1 d tt rr x1 (x3 + 1) s) else (if ((s).1 tt 1) ≤ x5 then (l_T_firstHelp_1 d tt rr x1 (x3 + 1) s) else ((m_T_standsFor d tt x5 x1 1 rr s).bind (fun q1 => (if q1.1 = 0 then (l_T_firstHelp_2 d tt rr x1 x3 x4 (x5 + 1) q1.2) else (if qIn x1 5 then ((m_T_bringUp d tt x1 x3 x5 ((q1.2).1 rr (x1).toNatClampNeg) q1.2).bind (fun q2 => (if q2.1 = 0 then (l_T_firstHelp_2 d tt rr x1 x3 x4 (x5 + 1) q2.2) else ((m_T_pairOf d x3 x5 q2.2).bind (fun q3 => some (q3.1, q3.2)))))) else none)))))) := by
  rcases hc with ⟨rfl, rfl⟩ | ⟨rfl, rfl⟩ | ⟨rfl, rfl⟩ | ⟨rfl, rfl⟩
  · exact (d_step (t := (62, [some (.ref 1), some (.int x1), some (.ref 23), some (.int x3), some (.int x4), some (.int x5)], [(.int x4)], s)) 1 rfl
     (d_if (a := (113, [some (.ref 1), some (.int x1), some (.ref 23), some (.int x3), some (.int x4), some (.int x5)], [], s)) (b := (65, [some (.ref 1), some (.int x1), some (.ref 23), some (.int x3), some (.int x4), some (.int x5)], [], s)) rfl rfl
     (d_step (t := (39, [some (.ref 1), some (.int x1), some (.ref 23), some (.int (x3 + 1)), some (.int x4), some (.int x5)], [], s)) 2 rfl
     (d_lab (x2 := (39, [some (.ref 1), some (.int x1), some (.ref 23), some (.int (x3 + 1)), none, none], [], s)) rfl rfl rfl))
     (d_step (t := (71, [some (.ref 1), some (.int x1), some (.ref 23), some (.int x3), some (.int x4), some (.int x5)], [(.int ((s).1 1 1)), (.int x5)], s)) 3 rfl
     (d_if (a := (113, [some (.ref 1), some (.int x1), some (.ref 23), some (.int x3), some (.int x4), some (.int x5)], [], s)) (b := (74, [some (.ref 1), some (.int x1), some (.ref 23), some (.int x3), some (.int x4), some (.int x5)], [], s)) rfl rfl
     (d_step (t := (39, [some (.ref 1), some (.int x1), some (.ref 23), some (.int (x3 + 1)), some (.int x4), some (.int x5)], [], s)) 2 rfl
     (d_lab (x2 := (39, [some (.ref 1), some (.int x1), some (.ref 23), some (.int (x3 + 1)), none, none], [], s)) rfl rfl rfl))
     (d_step (t := (80, [some (.ref 1), some (.int x1), some (.ref 23), some (.int x3), some (.int x4), some (.int x5)], [(.ref 23), (.int 1), (.int x1), (.int x5), (.ref 1)], s)) 5 rfl
     (d_callI (o := (m_T_standsFor d 1 x5 x1 1 23 s)) rfl rfl (fun q1 =>
     d_if (a := (107, [some (.ref 1), some (.int x1), some (.ref 23), some (.int x3), some (.int x4), some (.int x5)], [], q1.2)) (b := (86, [some (.ref 1), some (.int x1), some (.ref 23), some (.int x3), some (.int x4), some (.int x5)], [], q1.2)) rfl rfl
     (d_step (t := (60, [some (.ref 1), some (.int x1), some (.ref 23), some (.int x3), some (.int x4), some (.int (x5 + 1))], [], q1.2)) 2 rfl
     (rfl))
     (d_step (t := (93, [some (.ref 1), some (.int x1), some (.ref 23), some (.int x3), some (.int x4), some (.int x5)], [(.int x1), (.ref 23), (.int x5), (.int x3), (.int x1), (.ref 1)], q1.2)) 6 rfl
     (d_chk (a := (94, [some (.ref 1), some (.int x1), some (.ref 23), some (.int x3), some (.int x4), some (.int x5)], [(.int ((q1.2).1 23 (x1).toNatClampNeg)), (.int x5), (.int x3), (.int x1), (.ref 1)], q1.2)) rfl rfl
     (d_callI (o := (m_T_bringUp d 1 x1 x3 x5 ((q1.2).1 23 (x1).toNatClampNeg) q1.2)) rfl rfl (fun q2 =>
     d_if (a := (107, [some (.ref 1), some (.int x1), some (.ref 23), some (.int x3), some (.int x4), some (.int x5)], [], q2.2)) (b := (100, [some (.ref 1), some (.int x1), some (.ref 23), some (.int x3), some (.int x4), some (.int x5)], [], q2.2)) rfl rfl
     (d_step (t := (60, [some (.ref 1), some (.int x1), some (.ref 23), some (.int x3), some (.int x4), some (.int (x5 + 1))], [], q2.2)) 2 rfl
     (rfl))
     (d_step (t := (103, [some (.ref 1), some (.int x1), some (.ref 23), some (.int x3), some (.int x4), some (.int x5)], [(.int x5), (.int x3)], q2.2)) 2 rfl
     (d_callI (o := (m_T_pairOf d x3 x5 q2.2)) rfl rfl (fun q3 =>
     d_ret (k := 0) rfl rfl))))))))))))))
  · exact (d_step (t := (62, [some (.ref 1), some (.int x1), some (.ref 30), some (.int x3), some (.int x4), some (.int x5)], [(.int x4)], s)) 1 rfl
     (d_if (a := (113, [some (.ref 1), some (.int x1), some (.ref 30), some (.int x3), some (.int x4), some (.int x5)], [], s)) (b := (65, [some (.ref 1), some (.int x1), some (.ref 30), some (.int x3), some (.int x4), some (.int x5)], [], s)) rfl rfl
     (d_step (t := (39, [some (.ref 1), some (.int x1), some (.ref 30), some (.int (x3 + 1)), some (.int x4), some (.int x5)], [], s)) 2 rfl
     (d_lab (x2 := (39, [some (.ref 1), some (.int x1), some (.ref 30), some (.int (x3 + 1)), none, none], [], s)) rfl rfl rfl))
     (d_step (t := (71, [some (.ref 1), some (.int x1), some (.ref 30), some (.int x3), some (.int x4), some (.int x5)], [(.int ((s).1 1 1)), (.int x5)], s)) 3 rfl
     (d_if (a := (113, [some (.ref 1), some (.int x1), some (.ref 30), some (.int x3), some (.int x4), some (.int x5)], [], s)) (b := (74, [some (.ref 1), some (.int x1), some (.ref 30), some (.int x3), some (.int x4), some (.int x5)], [], s)) rfl rfl
     (d_step (t := (39, [some (.ref 1), some (.int x1), some (.ref 30), some (.int (x3 + 1)), some (.int x4), some (.int x5)], [], s)) 2 rfl
     (d_lab (x2 := (39, [some (.ref 1), some (.int x1), some (.ref 30), some (.int (x3 + 1)), none, none], [], s)) rfl rfl rfl))
     (d_step (t := (80, [some (.ref 1), some (.int x1), some (.ref 30), some (.int x3), some (.int x4), some (.int x5)], [(.ref 30), (.int 1), (.int x1), (.int x5), (.ref 1)], s)) 5 rfl
     (d_callI (o := (m_T_standsFor d 1 x5 x1 1 30 s)) rfl rfl (fun q1 =>
     d_if (a := (107, [some (.ref 1), some (.int x1), some (.ref 30), some (.int x3), some (.int x4), some (.int x5)], [], q1.2)) (b := (86, [some (.ref 1), some (.int x1), some (.ref 30), some (.int x3), some (.int x4), some (.int x5)], [], q1.2)) rfl rfl
     (d_step (t := (60, [some (.ref 1), some (.int x1), some (.ref 30), some (.int x3), some (.int x4), some (.int (x5 + 1))], [], q1.2)) 2 rfl
     (rfl))
     (d_step (t := (93, [some (.ref 1), some (.int x1), some (.ref 30), some (.int x3), some (.int x4), some (.int x5)], [(.int x1), (.ref 30), (.int x5), (.int x3), (.int x1), (.ref 1)], q1.2)) 6 rfl
     (d_chk (a := (94, [some (.ref 1), some (.int x1), some (.ref 30), some (.int x3), some (.int x4), some (.int x5)], [(.int ((q1.2).1 30 (x1).toNatClampNeg)), (.int x5), (.int x3), (.int x1), (.ref 1)], q1.2)) rfl rfl
     (d_callI (o := (m_T_bringUp d 1 x1 x3 x5 ((q1.2).1 30 (x1).toNatClampNeg) q1.2)) rfl rfl (fun q2 =>
     d_if (a := (107, [some (.ref 1), some (.int x1), some (.ref 30), some (.int x3), some (.int x4), some (.int x5)], [], q2.2)) (b := (100, [some (.ref 1), some (.int x1), some (.ref 30), some (.int x3), some (.int x4), some (.int x5)], [], q2.2)) rfl rfl
     (d_step (t := (60, [some (.ref 1), some (.int x1), some (.ref 30), some (.int x3), some (.int x4), some (.int (x5 + 1))], [], q2.2)) 2 rfl
     (rfl))
     (d_step (t := (103, [some (.ref 1), some (.int x1), some (.ref 30), some (.int x3), some (.int x4), some (.int x5)], [(.int x5), (.int x3)], q2.2)) 2 rfl
     (d_callI (o := (m_T_pairOf d x3 x5 q2.2)) rfl rfl (fun q3 =>
     d_ret (k := 0) rfl rfl))))))))))))))
  · exact (d_step (t := (62, [some (.ref 1), some (.int x1), some (.ref 33), some (.int x3), some (.int x4), some (.int x5)], [(.int x4)], s)) 1 rfl
     (d_if (a := (113, [some (.ref 1), some (.int x1), some (.ref 33), some (.int x3), some (.int x4), some (.int x5)], [], s)) (b := (65, [some (.ref 1), some (.int x1), some (.ref 33), some (.int x3), some (.int x4), some (.int x5)], [], s)) rfl rfl
     (d_step (t := (39, [some (.ref 1), some (.int x1), some (.ref 33), some (.int (x3 + 1)), some (.int x4), some (.int x5)], [], s)) 2 rfl
     (d_lab (x2 := (39, [some (.ref 1), some (.int x1), some (.ref 33), some (.int (x3 + 1)), none, none], [], s)) rfl rfl rfl))
     (d_step (t := (71, [some (.ref 1), some (.int x1), some (.ref 33), some (.int x3), some (.int x4), some (.int x5)], [(.int ((s).1 1 1)), (.int x5)], s)) 3 rfl
     (d_if (a := (113, [some (.ref 1), some (.int x1), some (.ref 33), some (.int x3), some (.int x4), some (.int x5)], [], s)) (b := (74, [some (.ref 1), some (.int x1), some (.ref 33), some (.int x3), some (.int x4), some (.int x5)], [], s)) rfl rfl
     (d_step (t := (39, [some (.ref 1), some (.int x1), some (.ref 33), some (.int (x3 + 1)), some (.int x4), some (.int x5)], [], s)) 2 rfl
     (d_lab (x2 := (39, [some (.ref 1), some (.int x1), some (.ref 33), some (.int (x3 + 1)), none, none], [], s)) rfl rfl rfl))
     (d_step (t := (80, [some (.ref 1), some (.int x1), some (.ref 33), some (.int x3), some (.int x4), some (.int x5)], [(.ref 33), (.int 1), (.int x1), (.int x5), (.ref 1)], s)) 5 rfl
     (d_callI (o := (m_T_standsFor d 1 x5 x1 1 33 s)) rfl rfl (fun q1 =>
     d_if (a := (107, [some (.ref 1), some (.int x1), some (.ref 33), some (.int x3), some (.int x4), some (.int x5)], [], q1.2)) (b := (86, [some (.ref 1), some (.int x1), some (.ref 33), some (.int x3), some (.int x4), some (.int x5)], [], q1.2)) rfl rfl
     (d_step (t := (60, [some (.ref 1), some (.int x1), some (.ref 33), some (.int x3), some (.int x4), some (.int (x5 + 1))], [], q1.2)) 2 rfl
     (rfl))
     (d_step (t := (93, [some (.ref 1), some (.int x1), some (.ref 33), some (.int x3), some (.int x4), some (.int x5)], [(.int x1), (.ref 33), (.int x5), (.int x3), (.int x1), (.ref 1)], q1.2)) 6 rfl
     (d_chk (a := (94, [some (.ref 1), some (.int x1), some (.ref 33), some (.int x3), some (.int x4), some (.int x5)], [(.int ((q1.2).1 33 (x1).toNatClampNeg)), (.int x5), (.int x3), (.int x1), (.ref 1)], q1.2)) rfl rfl
     (d_callI (o := (m_T_bringUp d 1 x1 x3 x5 ((q1.2).1 33 (x1).toNatClampNeg) q1.2)) rfl rfl (fun q2 =>
     d_if (a := (107, [some (.ref 1), some (.int x1), some (.ref 33), some (.int x3), some (.int x4), some (.int x5)], [], q2.2)) (b := (100, [some (.ref 1), some (.int x1), some (.ref 33), some (.int x3), some (.int x4), some (.int x5)], [], q2.2)) rfl rfl
     (d_step (t := (60, [some (.ref 1), some (.int x1), some (.ref 33), some (.int x3), some (.int x4), some (.int (x5 + 1))], [], q2.2)) 2 rfl
     (rfl))
     (d_step (t := (103, [some (.ref 1), some (.int x1), some (.ref 33), some (.int x3), some (.int x4), some (.int x5)], [(.int x5), (.int x3)], q2.2)) 2 rfl
     (d_callI (o := (m_T_pairOf d x3 x5 q2.2)) rfl rfl (fun q3 =>
     d_ret (k := 0) rfl rfl))))))))))))))
  · exact (d_step (t := (62, [some (.ref 10), some (.int x1), some (.ref 30), some (.int x3), some (.int x4), some (.int x5)], [(.int x4)], s)) 1 rfl
     (d_if (a := (113, [some (.ref 10), some (.int x1), some (.ref 30), some (.int x3), some (.int x4), some (.int x5)], [], s)) (b := (65, [some (.ref 10), some (.int x1), some (.ref 30), some (.int x3), some (.int x4), some (.int x5)], [], s)) rfl rfl
     (d_step (t := (39, [some (.ref 10), some (.int x1), some (.ref 30), some (.int (x3 + 1)), some (.int x4), some (.int x5)], [], s)) 2 rfl
     (d_lab (x2 := (39, [some (.ref 10), some (.int x1), some (.ref 30), some (.int (x3 + 1)), none, none], [], s)) rfl rfl rfl))
     (d_step (t := (71, [some (.ref 10), some (.int x1), some (.ref 30), some (.int x3), some (.int x4), some (.int x5)], [(.int ((s).1 10 1)), (.int x5)], s)) 3 rfl
     (d_if (a := (113, [some (.ref 10), some (.int x1), some (.ref 30), some (.int x3), some (.int x4), some (.int x5)], [], s)) (b := (74, [some (.ref 10), some (.int x1), some (.ref 30), some (.int x3), some (.int x4), some (.int x5)], [], s)) rfl rfl
     (d_step (t := (39, [some (.ref 10), some (.int x1), some (.ref 30), some (.int (x3 + 1)), some (.int x4), some (.int x5)], [], s)) 2 rfl
     (d_lab (x2 := (39, [some (.ref 10), some (.int x1), some (.ref 30), some (.int (x3 + 1)), none, none], [], s)) rfl rfl rfl))
     (d_step (t := (80, [some (.ref 10), some (.int x1), some (.ref 30), some (.int x3), some (.int x4), some (.int x5)], [(.ref 30), (.int 1), (.int x1), (.int x5), (.ref 10)], s)) 5 rfl
     (d_callI (o := (m_T_standsFor d 10 x5 x1 1 30 s)) rfl rfl (fun q1 =>
     d_if (a := (107, [some (.ref 10), some (.int x1), some (.ref 30), some (.int x3), some (.int x4), some (.int x5)], [], q1.2)) (b := (86, [some (.ref 10), some (.int x1), some (.ref 30), some (.int x3), some (.int x4), some (.int x5)], [], q1.2)) rfl rfl
     (d_step (t := (60, [some (.ref 10), some (.int x1), some (.ref 30), some (.int x3), some (.int x4), some (.int (x5 + 1))], [], q1.2)) 2 rfl
     (rfl))
     (d_step (t := (93, [some (.ref 10), some (.int x1), some (.ref 30), some (.int x3), some (.int x4), some (.int x5)], [(.int x1), (.ref 30), (.int x5), (.int x3), (.int x1), (.ref 10)], q1.2)) 6 rfl
     (d_chk (a := (94, [some (.ref 10), some (.int x1), some (.ref 30), some (.int x3), some (.int x4), some (.int x5)], [(.int ((q1.2).1 30 (x1).toNatClampNeg)), (.int x5), (.int x3), (.int x1), (.ref 10)], q1.2)) rfl rfl
     (d_callI (o := (m_T_bringUp d 10 x1 x3 x5 ((q1.2).1 30 (x1).toNatClampNeg) q1.2)) rfl rfl (fun q2 =>
     d_if (a := (107, [some (.ref 10), some (.int x1), some (.ref 30), some (.int x3), some (.int x4), some (.int x5)], [], q2.2)) (b := (100, [some (.ref 10), some (.int x1), some (.ref 30), some (.int x3), some (.int x4), some (.int x5)], [], q2.2)) rfl rfl
     (d_step (t := (60, [some (.ref 10), some (.int x1), some (.ref 30), some (.int x3), some (.int x4), some (.int (x5 + 1))], [], q2.2)) 2 rfl
     (rfl))
     (d_step (t := (103, [some (.ref 10), some (.int x1), some (.ref 30), some (.int x3), some (.int x4), some (.int x5)], [(.int x5), (.int x3)], q2.2)) 2 rfl
     (d_callI (o := (m_T_pairOf d x3 x5 q2.2)) rfl rfl (fun q3 =>
     d_ret (k := 0) rfl rfl))))))))))))))
noncomputable def m_T_canRise (d : Nat) (tt : Nat) (one : Int32) (rr : Nat) (s : qMem) : Option (Int32 × qMem) := qI (qCall qMT d 60 [.ref tt, .int one, .ref rr] s)
set_option maxRecDepth 20000 in
theorem e_T_canRise (d : Nat) (tt : Nat) (one : Int32) (rr : Nat) (hc : (tt = 1 ∧ rr = 23) ∨ (tt = 1 ∧ rr = 30) ∨ (tt = 1 ∧ rr = 33) ∨ (tt = 10 ∧ rr = 30)) (s : qMem) : m_T_canRise (d + 1) tt one rr s = ((m_T_firstHelp d tt one rr s).bind (fun q1 => (if q1.1 = (-1) then some (0, q1.2) else some (1, q1.2)))) := by
  rcases hc with ⟨rfl, rfl⟩ | ⟨rfl, rfl⟩ | ⟨rfl, rfl⟩ | ⟨rfl, rfl⟩
  · exact (d_step (t := (3, [some (.ref 1), some (.int one), some (.ref 23)], [(.ref 23), (.int one), (.ref 1)], s)) 3 rfl
     (d_callI (o := (m_T_firstHelp d 1 one 23 s)) rfl rfl (fun q1 =>
     d_step (t := (7, [some (.ref 1), some (.int one), some (.ref 23)], [(.int (-1)), (.int q1.1)], q1.2)) 1 rfl
     (d_if (a := (14, [some (.ref 1), some (.int one), some (.ref 23)], [], q1.2)) (b := (10, [some (.ref 1), some (.int one), some (.ref 23)], [], q1.2)) rfl rfl
     (d_step (t := (15, [some (.ref 1), some (.int one), some (.ref 23)], [(.int 0)], q1.2)) 1 rfl
     (d_ret (k := 0) rfl rfl))
     (d_step (t := (15, [some (.ref 1), some (.int one), some (.ref 23)], [(.int 1)], q1.2)) 2 rfl
     (d_ret (k := 0) rfl rfl))))))
  · exact (d_step (t := (3, [some (.ref 1), some (.int one), some (.ref 30)], [(.ref 30), (.int one), (.ref 1)], s)) 3 rfl
     (d_callI (o := (m_T_firstHelp d 1 one 30 s)) rfl rfl (fun q1 =>
     d_step (t := (7, [some (.ref 1), some (.int one), some (.ref 30)], [(.int (-1)), (.int q1.1)], q1.2)) 1 rfl
     (d_if (a := (14, [some (.ref 1), some (.int one), some (.ref 30)], [], q1.2)) (b := (10, [some (.ref 1), some (.int one), some (.ref 30)], [], q1.2)) rfl rfl
     (d_step (t := (15, [some (.ref 1), some (.int one), some (.ref 30)], [(.int 0)], q1.2)) 1 rfl
     (d_ret (k := 0) rfl rfl))
     (d_step (t := (15, [some (.ref 1), some (.int one), some (.ref 30)], [(.int 1)], q1.2)) 2 rfl
     (d_ret (k := 0) rfl rfl))))))
  · exact (d_step (t := (3, [some (.ref 1), some (.int one), some (.ref 33)], [(.ref 33), (.int one), (.ref 1)], s)) 3 rfl
     (d_callI (o := (m_T_firstHelp d 1 one 33 s)) rfl rfl (fun q1 =>
     d_step (t := (7, [some (.ref 1), some (.int one), some (.ref 33)], [(.int (-1)), (.int q1.1)], q1.2)) 1 rfl
     (d_if (a := (14, [some (.ref 1), some (.int one), some (.ref 33)], [], q1.2)) (b := (10, [some (.ref 1), some (.int one), some (.ref 33)], [], q1.2)) rfl rfl
     (d_step (t := (15, [some (.ref 1), some (.int one), some (.ref 33)], [(.int 0)], q1.2)) 1 rfl
     (d_ret (k := 0) rfl rfl))
     (d_step (t := (15, [some (.ref 1), some (.int one), some (.ref 33)], [(.int 1)], q1.2)) 2 rfl
     (d_ret (k := 0) rfl rfl))))))
  · exact (d_step (t := (3, [some (.ref 10), some (.int one), some (.ref 30)], [(.ref 30), (.int one), (.ref 10)], s)) 3 rfl
     (d_callI (o := (m_T_firstHelp d 10 one 30 s)) rfl rfl (fun q1 =>
     d_step (t := (7, [some (.ref 10), some (.int one), some (.ref 30)], [(.int (-1)), (.int q1.1)], q1.2)) 1 rfl
     (d_if (a := (14, [some (.ref 10), some (.int one), some (.ref 30)], [], q1.2)) (b := (10, [some (.ref 10), some (.int one), some (.ref 30)], [], q1.2)) rfl rfl
     (d_step (t := (15, [some (.ref 10), some (.int one), some (.ref 30)], [(.int 0)], q1.2)) 1 rfl
     (d_ret (k := 0) rfl rfl))
     (d_step (t := (15, [some (.ref 10), some (.int one), some (.ref 30)], [(.int 1)], q1.2)) 2 rfl
     (d_ret (k := 0) rfl rfl))))))
noncomputable def m_T_canSink (d : Nat) (tt : Nat) (one : Int32) (rr : Nat) (s : qMem) : Option (Int32 × qMem) := qI (qCall qMT d 61 [.ref tt, .int one, .ref rr] s)
noncomputable def l_T_canSink_1 (d : Nat) (tt : Nat) (rr : Nat) (x1 : Int32) (x3 : Int32) (s : qMem) : Option (Int32 × qMem) := qI (qK qMT d 61 (39, [some (.ref tt), some (.int x1), some (.ref rr), some (.int x3)], [], s))
set_option maxRecDepth 20000 in
theorem e_T_canSink (d : Nat) (tt : Nat) (one : Int32) (rr : Nat) (hc : (tt = 1 ∧ rr = 23) ∨ (tt = 1 ∧ rr = 30) ∨ (tt = 1 ∧ rr = 33) ∨ (tt = 10 ∧ rr = 30)) (s : qMem) : m_T_canSink (d + 1) tt one rr s = ((m_T_goes d tt one s).bind (fun q1 => (if q1.1 = 0 then some (0, q1.2) else (if qIn one 5 then ((m_T_isStep d tt (((q1.2).1 rr (one).toNatClampNeg) - 1) q1.2).bind (fun q2 => (if q2.1 = 0 then some (0, q2.2) else (if qIn one 5 then ((m_T_sinksAlone d tt one (((q2.2).1 rr (one).toNatClampNeg) - 1) q2.2).bind (fun q3 => (if q3.1 = 0 then (l_T_canSink_1 d tt rr one 0 q3.2) else some (1, q3.2)))) else none)))) else none)))) := by
  rcases hc with ⟨rfl, rfl⟩ | ⟨rfl, rfl⟩ | ⟨rfl, rfl⟩ | ⟨rfl, rfl⟩
  · exact (d_step (t := (2, [some (.ref 1), some (.int one), some (.ref 23), none], [(.int one), (.ref 1)], s)) 2 rfl
     (d_callI (o := (m_T_goes d 1 one s)) rfl rfl (fun q1 =>
     d_if (a := (20, [some (.ref 1), some (.int one), some (.ref 23), none], [], q1.2)) (b := (8, [some (.ref 1), some (.int one), some (.ref 23), none], [], q1.2)) rfl rfl
     (d_step (t := (21, [some (.ref 1), some (.int one), some (.ref 23), none], [(.int 0)], q1.2)) 1 rfl
     (d_ret (k := 0) rfl rfl))
     (d_step (t := (11, [some (.ref 1), some (.int one), some (.ref 23), none], [(.int one), (.ref 23), (.ref 1)], q1.2)) 3 rfl
     (d_chk (a := (12, [some (.ref 1), some (.int one), some (.ref 23), none], [(.int ((q1.2).1 23 (one).toNatClampNeg)), (.ref 1)], q1.2)) rfl rfl
     (d_step (t := (14, [some (.ref 1), some (.int one), some (.ref 23), none], [(.int (((q1.2).1 23 (one).toNatClampNeg) - 1)), (.ref 1)], q1.2)) 2 rfl
     (d_callI (o := (m_T_isStep d 1 (((q1.2).1 23 (one).toNatClampNeg) - 1) q1.2)) rfl rfl (fun q2 =>
     d_if (a := (20, [some (.ref 1), some (.int one), some (.ref 23), none], [], q2.2)) (b := (22, [some (.ref 1), some (.int one), some (.ref 23), none], [], q2.2)) rfl rfl
     (d_step (t := (21, [some (.ref 1), some (.int one), some (.ref 23), none], [(.int 0)], q2.2)) 1 rfl
     (d_ret (k := 0) rfl rfl))
     (d_step (t := (26, [some (.ref 1), some (.int one), some (.ref 23), none], [(.int one), (.ref 23), (.int one), (.ref 1)], q2.2)) 4 rfl
     (d_chk (a := (27, [some (.ref 1), some (.int one), some (.ref 23), none], [(.int ((q2.2).1 23 (one).toNatClampNeg)), (.int one), (.ref 1)], q2.2)) rfl rfl
     (d_step (t := (29, [some (.ref 1), some (.int one), some (.ref 23), none], [(.int (((q2.2).1 23 (one).toNatClampNeg) - 1)), (.int one), (.ref 1)], q2.2)) 2 rfl
     (d_callI (o := (m_T_sinksAlone d 1 one (((q2.2).1 23 (one).toNatClampNeg) - 1) q2.2)) rfl rfl (fun q3 =>
     d_if (a := (37, [some (.ref 1), some (.int one), some (.ref 23), none], [], q3.2)) (b := (35, [some (.ref 1), some (.int one), some (.ref 23), none], [], q3.2)) rfl rfl
     (d_step (t := (39, [some (.ref 1), some (.int one), some (.ref 23), some (.int 0)], [], q3.2)) 2 rfl
     (rfl))
     (d_step (t := (36, [some (.ref 1), some (.int one), some (.ref 23), none], [(.int 1)], q3.2)) 1 rfl
     (d_ret (k := 0) rfl rfl)))))))))))))))
  · exact (d_step (t := (2, [some (.ref 1), some (.int one), some (.ref 30), none], [(.int one), (.ref 1)], s)) 2 rfl
     (d_callI (o := (m_T_goes d 1 one s)) rfl rfl (fun q1 =>
     d_if (a := (20, [some (.ref 1), some (.int one), some (.ref 30), none], [], q1.2)) (b := (8, [some (.ref 1), some (.int one), some (.ref 30), none], [], q1.2)) rfl rfl
     (d_step (t := (21, [some (.ref 1), some (.int one), some (.ref 30), none], [(.int 0)], q1.2)) 1 rfl
     (d_ret (k := 0) rfl rfl))
     (d_step (t := (11, [some (.ref 1), some (.int one), some (.ref 30), none], [(.int one), (.ref 30), (.ref 1)], q1.2)) 3 rfl
     (d_chk (a := (12, [some (.ref 1), some (.int one), some (.ref 30), none], [(.int ((q1.2).1 30 (one).toNatClampNeg)), (.ref 1)], q1.2)) rfl rfl
     (d_step (t := (14, [some (.ref 1), some (.int one), some (.ref 30), none], [(.int (((q1.2).1 30 (one).toNatClampNeg) - 1)), (.ref 1)], q1.2)) 2 rfl
     (d_callI (o := (m_T_isStep d 1 (((q1.2).1 30 (one).toNatClampNeg) - 1) q1.2)) rfl rfl (fun q2 =>
     d_if (a := (20, [some (.ref 1), some (.int one), some (.ref 30), none], [], q2.2)) (b := (22, [some (.ref 1), some (.int one), some (.ref 30), none], [], q2.2)) rfl rfl
     (d_step (t := (21, [some (.ref 1), some (.int one), some (.ref 30), none], [(.int 0)], q2.2)) 1 rfl
     (d_ret (k := 0) rfl rfl))
     (d_step (t := (26, [some (.ref 1), some (.int one), some (.ref 30), none], [(.int one), (.ref 30), (.int one), (.ref 1)], q2.2)) 4 rfl
     (d_chk (a := (27, [some (.ref 1), some (.int one), some (.ref 30), none], [(.int ((q2.2).1 30 (one).toNatClampNeg)), (.int one), (.ref 1)], q2.2)) rfl rfl
     (d_step (t := (29, [some (.ref 1), some (.int one), some (.ref 30), none], [(.int (((q2.2).1 30 (one).toNatClampNeg) - 1)), (.int one), (.ref 1)], q2.2)) 2 rfl
     (d_callI (o := (m_T_sinksAlone d 1 one (((q2.2).1 30 (one).toNatClampNeg) - 1) q2.2)) rfl rfl (fun q3 =>
     d_if (a := (37, [some (.ref 1), some (.int one), some (.ref 30), none], [], q3.2)) (b := (35, [some (.ref 1), some (.int one), some (.ref 30), none], [], q3.2)) rfl rfl
     (d_step (t := (39, [some (.ref 1), some (.int one), some (.ref 30), some (.int 0)], [], q3.2)) 2 rfl
     (rfl))
     (d_step (t := (36, [some (.ref 1), some (.int one), some (.ref 30), none], [(.int 1)], q3.2)) 1 rfl
     (d_ret (k := 0) rfl rfl)))))))))))))))
  · exact (d_step (t := (2, [some (.ref 1), some (.int one), some (.ref 33), none], [(.int one), (.ref 1)], s)) 2 rfl
     (d_callI (o := (m_T_goes d 1 one s)) rfl rfl (fun q1 =>
     d_if (a := (20, [some (.ref 1), some (.int one), some (.ref 33), none], [], q1.2)) (b := (8, [some (.ref 1), some (.int one), some (.ref 33), none], [], q1.2)) rfl rfl
     (d_step (t := (21, [some (.ref 1), some (.int one), some (.ref 33), none], [(.int 0)], q1.2)) 1 rfl
     (d_ret (k := 0) rfl rfl))
     (d_step (t := (11, [some (.ref 1), some (.int one), some (.ref 33), none], [(.int one), (.ref 33), (.ref 1)], q1.2)) 3 rfl
     (d_chk (a := (12, [some (.ref 1), some (.int one), some (.ref 33), none], [(.int ((q1.2).1 33 (one).toNatClampNeg)), (.ref 1)], q1.2)) rfl rfl
     (d_step (t := (14, [some (.ref 1), some (.int one), some (.ref 33), none], [(.int (((q1.2).1 33 (one).toNatClampNeg) - 1)), (.ref 1)], q1.2)) 2 rfl
     (d_callI (o := (m_T_isStep d 1 (((q1.2).1 33 (one).toNatClampNeg) - 1) q1.2)) rfl rfl (fun q2 =>
     d_if (a := (20, [some (.ref 1), some (.int one), some (.ref 33), none], [], q2.2)) (b := (22, [some (.ref 1), some (.int one), some (.ref 33), none], [], q2.2)) rfl rfl
     (d_step (t := (21, [some (.ref 1), some (.int one), some (.ref 33), none], [(.int 0)], q2.2)) 1 rfl
     (d_ret (k := 0) rfl rfl))
     (d_step (t := (26, [some (.ref 1), some (.int one), some (.ref 33), none], [(.int one), (.ref 33), (.int one), (.ref 1)], q2.2)) 4 rfl
     (d_chk (a := (27, [some (.ref 1), some (.int one), some (.ref 33), none], [(.int ((q2.2).1 33 (one).toNatClampNeg)), (.int one), (.ref 1)], q2.2)) rfl rfl
     (d_step (t := (29, [some (.ref 1), some (.int one), some (.ref 33), none], [(.int (((q2.2).1 33 (one).toNatClampNeg) - 1)), (.int one), (.ref 1)], q2.2)) 2 rfl
     (d_callI (o := (m_T_sinksAlone d 1 one (((q2.2).1 33 (one).toNatClampNeg) - 1) q2.2)) rfl rfl (fun q3 =>
     d_if (a := (37, [some (.ref 1), some (.int one), some (.ref 33), none], [], q3.2)) (b := (35, [some (.ref 1), some (.int one), some (.ref 33), none], [], q3.2)) rfl rfl
     (d_step (t := (39, [some (.ref 1), some (.int one), some (.ref 33), some (.int 0)], [], q3.2)) 2 rfl
     (rfl))
     (d_step (t := (36, [some (.ref 1), some (.int one), some (.ref 33), none], [(.int 1)], q3.2)) 1 rfl
     (d_ret (k := 0) rfl rfl)))))))))))))))
  · exact (d_step (t := (2, [some (.ref 10), some (.int one), some (.ref 30), none], [(.int one), (.ref 10)], s)) 2 rfl
     (d_callI (o := (m_T_goes d 10 one s)) rfl rfl (fun q1 =>
     d_if (a := (20, [some (.ref 10), some (.int one), some (.ref 30), none], [], q1.2)) (b := (8, [some (.ref 10), some (.int one), some (.ref 30), none], [], q1.2)) rfl rfl
     (d_step (t := (21, [some (.ref 10), some (.int one), some (.ref 30), none], [(.int 0)], q1.2)) 1 rfl
     (d_ret (k := 0) rfl rfl))
     (d_step (t := (11, [some (.ref 10), some (.int one), some (.ref 30), none], [(.int one), (.ref 30), (.ref 10)], q1.2)) 3 rfl
     (d_chk (a := (12, [some (.ref 10), some (.int one), some (.ref 30), none], [(.int ((q1.2).1 30 (one).toNatClampNeg)), (.ref 10)], q1.2)) rfl rfl
     (d_step (t := (14, [some (.ref 10), some (.int one), some (.ref 30), none], [(.int (((q1.2).1 30 (one).toNatClampNeg) - 1)), (.ref 10)], q1.2)) 2 rfl
     (d_callI (o := (m_T_isStep d 10 (((q1.2).1 30 (one).toNatClampNeg) - 1) q1.2)) rfl rfl (fun q2 =>
     d_if (a := (20, [some (.ref 10), some (.int one), some (.ref 30), none], [], q2.2)) (b := (22, [some (.ref 10), some (.int one), some (.ref 30), none], [], q2.2)) rfl rfl
     (d_step (t := (21, [some (.ref 10), some (.int one), some (.ref 30), none], [(.int 0)], q2.2)) 1 rfl
     (d_ret (k := 0) rfl rfl))
     (d_step (t := (26, [some (.ref 10), some (.int one), some (.ref 30), none], [(.int one), (.ref 30), (.int one), (.ref 10)], q2.2)) 4 rfl
     (d_chk (a := (27, [some (.ref 10), some (.int one), some (.ref 30), none], [(.int ((q2.2).1 30 (one).toNatClampNeg)), (.int one), (.ref 10)], q2.2)) rfl rfl
     (d_step (t := (29, [some (.ref 10), some (.int one), some (.ref 30), none], [(.int (((q2.2).1 30 (one).toNatClampNeg) - 1)), (.int one), (.ref 10)], q2.2)) 2 rfl
     (d_callI (o := (m_T_sinksAlone d 10 one (((q2.2).1 30 (one).toNatClampNeg) - 1) q2.2)) rfl rfl (fun q3 =>
     d_if (a := (37, [some (.ref 10), some (.int one), some (.ref 30), none], [], q3.2)) (b := (35, [some (.ref 10), some (.int one), some (.ref 30), none], [], q3.2)) rfl rfl
     (d_step (t := (39, [some (.ref 10), some (.int one), some (.ref 30), some (.int 0)], [], q3.2)) 2 rfl
     (rfl))
     (d_step (t := (36, [some (.ref 10), some (.int one), some (.ref 30), none], [(.int 1)], q3.2)) 1 rfl
     (d_ret (k := 0) rfl rfl)))))))))))))))
set_option maxRecDepth 20000 in
theorem el_T_canSink_1 (d : Nat) (tt : Nat) (rr : Nat) (x1 : Int32) (x3 : Int32) (hc : (tt = 1 ∧ rr = 23) ∨ (tt = 1 ∧ rr = 30) ∨ (tt = 1 ∧ rr = 33) ∨ (tt = 10 ∧ rr = 30)) (s : qMem) : l_T_canSink_1 d tt rr x1 x3 s = (if ((s).1 tt 1) ≤ x3 then some (0, s) else ((m_T_catches d tt x3 x1 rr s).bind (fun q1 => (if q1.1 = 0 then (l_T_canSink_1 d tt rr x1 (x3 + 1) q1.2) else some (1, q1.2))))) := by
  rcases hc with ⟨rfl, rfl⟩ | ⟨rfl, rfl⟩ | ⟨rfl, rfl⟩ | ⟨rfl, rfl⟩
  · exact (d_step (t := (44, [some (.ref 1), some (.int x1), some (.ref 23), some (.int x3)], [(.int ((s).1 1 1)), (.int x3)], s)) 3 rfl
     (d_if (a := (65, [some (.ref 1), some (.int x1), some (.ref 23), some (.int x3)], [], s)) (b := (47, [some (.ref 1), some (.int x1), some (.ref 23), some (.int x3)], [], s)) rfl rfl
     (d_step (t := (66, [some (.ref 1), some (.int x1), some (.ref 23), some (.int x3)], [(.int 0)], s)) 1 rfl
     (d_ret (k := 0) rfl rfl))
     (d_step (t := (51, [some (.ref 1), some (.int x1), some (.ref 23), some (.int x3)], [(.ref 23), (.int x1), (.int x3), (.ref 1)], s)) 4 rfl
     (d_callI (o := (m_T_catches d 1 x3 x1 23 s)) rfl rfl (fun q1 =>
     d_if (a := (59, [some (.ref 1), some (.int x1), some (.ref 23), some (.int x3)], [], q1.2)) (b := (57, [some (.ref 1), some (.int x1), some (.ref 23), some (.int x3)], [], q1.2)) rfl rfl
     (d_step (t := (39, [some (.ref 1), some (.int x1), some (.ref 23), some (.int (x3 + 1))], [], q1.2)) 2 rfl
     (rfl))
     (d_step (t := (58, [some (.ref 1), some (.int x1), some (.ref 23), some (.int x3)], [(.int 1)], q1.2)) 1 rfl
     (d_ret (k := 0) rfl rfl)))))))
  · exact (d_step (t := (44, [some (.ref 1), some (.int x1), some (.ref 30), some (.int x3)], [(.int ((s).1 1 1)), (.int x3)], s)) 3 rfl
     (d_if (a := (65, [some (.ref 1), some (.int x1), some (.ref 30), some (.int x3)], [], s)) (b := (47, [some (.ref 1), some (.int x1), some (.ref 30), some (.int x3)], [], s)) rfl rfl
     (d_step (t := (66, [some (.ref 1), some (.int x1), some (.ref 30), some (.int x3)], [(.int 0)], s)) 1 rfl
     (d_ret (k := 0) rfl rfl))
     (d_step (t := (51, [some (.ref 1), some (.int x1), some (.ref 30), some (.int x3)], [(.ref 30), (.int x1), (.int x3), (.ref 1)], s)) 4 rfl
     (d_callI (o := (m_T_catches d 1 x3 x1 30 s)) rfl rfl (fun q1 =>
     d_if (a := (59, [some (.ref 1), some (.int x1), some (.ref 30), some (.int x3)], [], q1.2)) (b := (57, [some (.ref 1), some (.int x1), some (.ref 30), some (.int x3)], [], q1.2)) rfl rfl
     (d_step (t := (39, [some (.ref 1), some (.int x1), some (.ref 30), some (.int (x3 + 1))], [], q1.2)) 2 rfl
     (rfl))
     (d_step (t := (58, [some (.ref 1), some (.int x1), some (.ref 30), some (.int x3)], [(.int 1)], q1.2)) 1 rfl
     (d_ret (k := 0) rfl rfl)))))))
  · exact (d_step (t := (44, [some (.ref 1), some (.int x1), some (.ref 33), some (.int x3)], [(.int ((s).1 1 1)), (.int x3)], s)) 3 rfl
     (d_if (a := (65, [some (.ref 1), some (.int x1), some (.ref 33), some (.int x3)], [], s)) (b := (47, [some (.ref 1), some (.int x1), some (.ref 33), some (.int x3)], [], s)) rfl rfl
     (d_step (t := (66, [some (.ref 1), some (.int x1), some (.ref 33), some (.int x3)], [(.int 0)], s)) 1 rfl
     (d_ret (k := 0) rfl rfl))
     (d_step (t := (51, [some (.ref 1), some (.int x1), some (.ref 33), some (.int x3)], [(.ref 33), (.int x1), (.int x3), (.ref 1)], s)) 4 rfl
     (d_callI (o := (m_T_catches d 1 x3 x1 33 s)) rfl rfl (fun q1 =>
     d_if (a := (59, [some (.ref 1), some (.int x1), some (.ref 33), some (.int x3)], [], q1.2)) (b := (57, [some (.ref 1), some (.int x1), some (.ref 33), some (.int x3)], [], q1.2)) rfl rfl
     (d_step (t := (39, [some (.ref 1), some (.int x1), some (.ref 33), some (.int (x3 + 1))], [], q1.2)) 2 rfl
     (rfl))
     (d_step (t := (58, [some (.ref 1), some (.int x1), some (.ref 33), some (.int x3)], [(.int 1)], q1.2)) 1 rfl
     (d_ret (k := 0) rfl rfl)))))))
  · exact (d_step (t := (44, [some (.ref 10), some (.int x1), some (.ref 30), some (.int x3)], [(.int ((s).1 10 1)), (.int x3)], s)) 3 rfl
     (d_if (a := (65, [some (.ref 10), some (.int x1), some (.ref 30), some (.int x3)], [], s)) (b := (47, [some (.ref 10), some (.int x1), some (.ref 30), some (.int x3)], [], s)) rfl rfl
     (d_step (t := (66, [some (.ref 10), some (.int x1), some (.ref 30), some (.int x3)], [(.int 0)], s)) 1 rfl
     (d_ret (k := 0) rfl rfl))
     (d_step (t := (51, [some (.ref 10), some (.int x1), some (.ref 30), some (.int x3)], [(.ref 30), (.int x1), (.int x3), (.ref 10)], s)) 4 rfl
     (d_callI (o := (m_T_catches d 10 x3 x1 30 s)) rfl rfl (fun q1 =>
     d_if (a := (59, [some (.ref 10), some (.int x1), some (.ref 30), some (.int x3)], [], q1.2)) (b := (57, [some (.ref 10), some (.int x1), some (.ref 30), some (.int x3)], [], q1.2)) rfl rfl
     (d_step (t := (39, [some (.ref 10), some (.int x1), some (.ref 30), some (.int (x3 + 1))], [], q1.2)) 2 rfl
     (rfl))
     (d_step (t := (58, [some (.ref 10), some (.int x1), some (.ref 30), some (.int x3)], [(.int 1)], q1.2)) 1 rfl
     (d_ret (k := 0) rfl rfl)))))))
noncomputable def m_T_build (d : Nat) (tt : Nat) (lv : Int32) (s : qMem) : Option (qMem) := qV (qCall qMT d 44 [.ref tt, .int lv] s)
noncomputable def l_T_build_1 (d : Nat) (tt : Nat) (x2 : Int32) (s : qMem) : Option (qMem) := qV (qK qMT d 44 (12, [some (.ref tt), none, some (.int x2)], [], s))
set_option maxRecDepth 20000 in
theorem e_T_build (d : Nat) (tt : Nat) (lv : Int32) (hc : (tt = 1) ∨ (tt = 10)) (s : qMem) : m_T_build (d + 1) tt lv s = (l_T_build_1 d tt 0 (qW (qW s tt 0 lv) tt 1 0)) := by
  rcases hc with rfl | rfl
  · exact (d_step (t := (12, [some (.ref 1), some (.int lv), some (.int 0)], [], (qW (qW s 1 0 lv) 1 1 0))) 8 rfl
     (d_lab (x2 := (12, [some (.ref 1), none, some (.int 0)], [], (qW (qW s 1 0 lv) 1 1 0))) rfl rfl rfl))
  · exact (d_step (t := (12, [some (.ref 10), some (.int lv), some (.int 0)], [], (qW (qW s 10 0 lv) 10 1 0))) 8 rfl
     (d_lab (x2 := (12, [some (.ref 10), none, some (.int 0)], [], (qW (qW s 10 0 lv) 10 1 0))) rfl rfl rfl))
set_option maxRecDepth 20000 in
theorem el_T_build_1 (d : Nat) (tt : Nat) (x2 : Int32) (hc : (tt = 1) ∨ (tt = 10)) (s : qMem) : l_T_build_1 d tt x2 s = (if 4 ≤ x2 then some s else (if qIn x2 4 then (if qIn x2 4 ∧ ((0 : Int32) = 0 ∨ (0 : Int32) = 1) then (l_T_build_1 d tt (x2 + 1) (qW (qW s (tt + 1) (x2).toNatClampNeg 20) (tt + 2) (x2).toNatClampNeg 0)) else none) else none)) := by
  rcases hc with rfl | rfl
  · exact (d_step (t := (14, [some (.ref 1), none, some (.int x2)], [(.int 4), (.int x2)], s)) 2 rfl
     (d_if (a := (38, [some (.ref 1), none, some (.int x2)], [], s)) (b := (17, [some (.ref 1), none, some (.int x2)], [], s)) rfl rfl
     (d_ret (k := 2) rfl rfl)
     (d_step (t := (24, [some (.ref 1), none, some (.int x2)], [(.int 20), (.int x2), (.ref (1 + 1))], s)) 4 rfl
     (d_chk (a := (25, [some (.ref 1), none, some (.int x2)], [], (qW s (1 + 1) (x2).toNatClampNeg 20))) rfl rfl
     (d_step (t := (31, [some (.ref 1), none, some (.int x2)], [(.int 0), (.int x2), (.ref (1 + 2))], (qW s (1 + 1) (x2).toNatClampNeg 20))) 4 rfl
     (d_chk (a := (32, [some (.ref 1), none, some (.int x2)], [], (qW (qW s (1 + 1) (x2).toNatClampNeg 20) (1 + 2) (x2).toNatClampNeg 0))) rfl rfl
     (d_step (t := (12, [some (.ref 1), none, some (.int (x2 + 1))], [], (qW (qW s (1 + 1) (x2).toNatClampNeg 20) (1 + 2) (x2).toNatClampNeg 0))) 2 rfl
     (d_lab (x2 := (12, [some (.ref 1), none, some (.int (x2 + 1))], [], (qW (qW s (1 + 1) (x2).toNatClampNeg 20) (1 + 2) (x2).toNatClampNeg 0))) rfl rfl rfl))))))))
  · exact (d_step (t := (14, [some (.ref 10), none, some (.int x2)], [(.int 4), (.int x2)], s)) 2 rfl
     (d_if (a := (38, [some (.ref 10), none, some (.int x2)], [], s)) (b := (17, [some (.ref 10), none, some (.int x2)], [], s)) rfl rfl
     (d_ret (k := 2) rfl rfl)
     (d_step (t := (24, [some (.ref 10), none, some (.int x2)], [(.int 20), (.int x2), (.ref (10 + 1))], s)) 4 rfl
     (d_chk (a := (25, [some (.ref 10), none, some (.int x2)], [], (qW s (10 + 1) (x2).toNatClampNeg 20))) rfl rfl
     (d_step (t := (31, [some (.ref 10), none, some (.int x2)], [(.int 0), (.int x2), (.ref (10 + 2))], (qW s (10 + 1) (x2).toNatClampNeg 20))) 4 rfl
     (d_chk (a := (32, [some (.ref 10), none, some (.int x2)], [], (qW (qW s (10 + 1) (x2).toNatClampNeg 20) (10 + 2) (x2).toNatClampNeg 0))) rfl rfl
     (d_step (t := (12, [some (.ref 10), none, some (.int (x2 + 1))], [], (qW (qW s (10 + 1) (x2).toNatClampNeg 20) (10 + 2) (x2).toNatClampNeg 0))) 2 rfl
     (d_lab (x2 := (12, [some (.ref 10), none, some (.int (x2 + 1))], [], (qW (qW s (10 + 1) (x2).toNatClampNeg 20) (10 + 2) (x2).toNatClampNeg 0))) rfl rfl rfl))))))))
noncomputable def m_T_copyStair (d : Nat) (tt : Nat) (oo : Nat) (s : qMem) : Option (qMem) := qV (qCall qMT d 46 [.ref tt, .ref oo] s)
noncomputable def l_T_copyStair_1 (d : Nat) (tt : Nat) (oo : Nat) (x2 : Int32) (s : qMem) : Option (qMem) := qV (qK qMT d 46 (10, [some (.ref tt), some (.ref oo), some (.int x2)], [], s))
set_option maxRecDepth 20000 in
theorem e_T_copyStair (d : Nat) (tt : Nat) (oo : Nat) (hc : (tt = 1 ∧ oo = 10) ∨ (tt = 10 ∧ oo = 1)) (s : qMem) : m_T_copyStair (d + 1) tt oo s = (l_T_copyStair_1 d tt oo 0 (qW s tt 0 ((s).1 oo 0))) := by
  rcases hc with ⟨rfl, rfl⟩ | ⟨rfl, rfl⟩
  · exact (d_step (t := (10, [some (.ref 1), some (.ref 10), some (.int 0)], [], (qW s 1 0 ((s).1 10 0)))) 6 rfl
     (rfl))
  · exact (d_step (t := (10, [some (.ref 10), some (.ref 1), some (.int 0)], [], (qW s 10 0 ((s).1 1 0)))) 6 rfl
     (rfl))
set_option maxRecDepth 20000 in
theorem el_T_copyStair_1 (d : Nat) (tt : Nat) (oo : Nat) (x2 : Int32) (hc : (tt = 1 ∧ oo = 10) ∨ (tt = 10 ∧ oo = 1)) (s : qMem) : l_T_copyStair_1 d tt oo x2 s = (if 4 ≤ x2 then some s else (if qIn x2 4 then (if qIn x2 4 then (if qIn x2 4 then (if qIn x2 4 ∧ ((((s).1 (oo + 2) (x2).toNatClampNeg) : Int32) = 0 ∨ (((s).1 (oo + 2) (x2).toNatClampNeg) : Int32) = 1) then (l_T_copyStair_1 d tt oo (x2 + 1) (qW (qW s (tt + 1) (x2).toNatClampNeg ((s).1 (oo + 1) (x2).toNatClampNeg)) (tt + 2) (x2).toNatClampNeg ((s).1 (oo + 2) (x2).toNatClampNeg))) else none) else none) else none) else none)) := by
  rcases hc with ⟨rfl, rfl⟩ | ⟨rfl, rfl⟩
  · exact (d_step (t := (12, [some (.ref 1), some (.ref 10), some (.int x2)], [(.int 4), (.int x2)], s)) 2 rfl
     (d_if (a := (45, [some (.ref 1), some (.ref 10), some (.int x2)], [], s)) (b := (15, [some (.ref 1), some (.ref 10), some (.int x2)], [], s)) rfl rfl
     (d_ret (k := 2) rfl rfl)
     (d_step (t := (25, [some (.ref 1), some (.ref 10), some (.int x2)], [(.int x2), (.ref (10 + 1)), (.int x2), (.ref (1 + 1))], s)) 6 rfl
     (d_chk (a := (26, [some (.ref 1), some (.ref 10), some (.int x2)], [(.int ((s).1 (10 + 1) (x2).toNatClampNeg)), (.int x2), (.ref (1 + 1))], s)) rfl rfl
     (d_chk (a := (27, [some (.ref 1), some (.ref 10), some (.int x2)], [], (qW s (1 + 1) (x2).toNatClampNeg ((s).1 (10 + 1) (x2).toNatClampNeg)))) rfl rfl
     (d_step (t := (37, [some (.ref 1), some (.ref 10), some (.int x2)], [(.int x2), (.ref (10 + 2)), (.int x2), (.ref (1 + 2))], (qW s (1 + 1) (x2).toNatClampNeg ((s).1 (10 + 1) (x2).toNatClampNeg)))) 6 rfl
     (d_chk (a := (38, [some (.ref 1), some (.ref 10), some (.int x2)], [(.int ((s).1 (10 + 2) (x2).toNatClampNeg)), (.int x2), (.ref (1 + 2))], (qW s (1 + 1) (x2).toNatClampNeg ((s).1 (10 + 1) (x2).toNatClampNeg)))) rfl rfl
     (d_chk (a := (39, [some (.ref 1), some (.ref 10), some (.int x2)], [], (qW (qW s (1 + 1) (x2).toNatClampNeg ((s).1 (10 + 1) (x2).toNatClampNeg)) (1 + 2) (x2).toNatClampNeg ((s).1 (10 + 2) (x2).toNatClampNeg)))) rfl rfl
     (d_step (t := (10, [some (.ref 1), some (.ref 10), some (.int (x2 + 1))], [], (qW (qW s (1 + 1) (x2).toNatClampNeg ((s).1 (10 + 1) (x2).toNatClampNeg)) (1 + 2) (x2).toNatClampNeg ((s).1 (10 + 2) (x2).toNatClampNeg)))) 2 rfl
     (rfl))))))))))
  · exact (d_step (t := (12, [some (.ref 10), some (.ref 1), some (.int x2)], [(.int 4), (.int x2)], s)) 2 rfl
     (d_if (a := (45, [some (.ref 10), some (.ref 1), some (.int x2)], [], s)) (b := (15, [some (.ref 10), some (.ref 1), some (.int x2)], [], s)) rfl rfl
     (d_ret (k := 2) rfl rfl)
     (d_step (t := (25, [some (.ref 10), some (.ref 1), some (.int x2)], [(.int x2), (.ref (1 + 1)), (.int x2), (.ref (10 + 1))], s)) 6 rfl
     (d_chk (a := (26, [some (.ref 10), some (.ref 1), some (.int x2)], [(.int ((s).1 (1 + 1) (x2).toNatClampNeg)), (.int x2), (.ref (10 + 1))], s)) rfl rfl
     (d_chk (a := (27, [some (.ref 10), some (.ref 1), some (.int x2)], [], (qW s (10 + 1) (x2).toNatClampNeg ((s).1 (1 + 1) (x2).toNatClampNeg)))) rfl rfl
     (d_step (t := (37, [some (.ref 10), some (.ref 1), some (.int x2)], [(.int x2), (.ref (1 + 2)), (.int x2), (.ref (10 + 2))], (qW s (10 + 1) (x2).toNatClampNeg ((s).1 (1 + 1) (x2).toNatClampNeg)))) 6 rfl
     (d_chk (a := (38, [some (.ref 10), some (.ref 1), some (.int x2)], [(.int ((s).1 (1 + 2) (x2).toNatClampNeg)), (.int x2), (.ref (10 + 2))], (qW s (10 + 1) (x2).toNatClampNeg ((s).1 (1 + 1) (x2).toNatClampNeg)))) rfl rfl
     (d_chk (a := (39, [some (.ref 10), some (.ref 1), some (.int x2)], [], (qW (qW s (10 + 1) (x2).toNatClampNeg ((s).1 (1 + 1) (x2).toNatClampNeg)) (10 + 2) (x2).toNatClampNeg ((s).1 (1 + 2) (x2).toNatClampNeg)))) rfl rfl
     (d_step (t := (10, [some (.ref 10), some (.ref 1), some (.int (x2 + 1))], [], (qW (qW s (10 + 1) (x2).toNatClampNeg ((s).1 (1 + 1) (x2).toNatClampNeg)) (10 + 2) (x2).toNatClampNeg ((s).1 (1 + 2) (x2).toNatClampNeg)))) 2 rfl
     (rfl))))))))))
noncomputable def m_T_copy (d : Nat) (tt : Nat) (oo : Nat) (s : qMem) : Option (qMem) := qV (qCall qMT d 45 [.ref tt, .ref oo] s)
set_option maxRecDepth 20000 in
theorem e_T_copy (d : Nat) (tt : Nat) (oo : Nat) (hc : (tt = 1 ∧ oo = 10) ∨ (tt = 10 ∧ oo = 1)) (s : qMem) : m_T_copy (d + 1) tt oo s = ((m_T_copyStair d tt oo s).bind (fun q1 => some (qCpy (qCpy (qCpy (qCpy (qCpy (qCpy (qW q1 tt 1 ((q1).1 oo 1)) (oo + 3) (tt + 3) 0 0 5) (oo + 4) (tt + 4) 0 0 5) (oo + 5) (tt + 5) 0 0 5) (oo + 6) (tt + 6) 0 0 5) (oo + 7) (tt + 7) 0 0 5) (oo + 8) (tt + 8) 0 0 5))) := by
  rcases hc with ⟨rfl, rfl⟩ | ⟨rfl, rfl⟩
  · exact (d_step (t := (2, [some (.ref 1), some (.ref 10)], [(.ref 10), (.ref 1)], s)) 2 rfl
     (d_callV (o := (m_T_copyStair d 1 10 s)) rfl rfl (fun q1 =>
     d_step (t := (97, [some (.ref 1), some (.ref 10)], [], (qCpy (qCpy (qCpy (qCpy (qCpy (qCpy (qW q1 1 1 ((q1).1 10 1)) (10 + 3) (1 + 3) 0 0 5) (10 + 4) (1 + 4) 0 0 5) (10 + 5) (1 + 5) 0 0 5) (10 + 6) (1 + 6) 0 0 5) (10 + 7) (1 + 7) 0 0 5) (10 + 8) (1 + 8) 0 0 5))) 52 rfl
     (d_ret (k := 2) rfl rfl))))
  · exact (d_step (t := (2, [some (.ref 10), some (.ref 1)], [(.ref 1), (.ref 10)], s)) 2 rfl
     (d_callV (o := (m_T_copyStair d 10 1 s)) rfl rfl (fun q1 =>
     d_step (t := (97, [some (.ref 10), some (.ref 1)], [], (qCpy (qCpy (qCpy (qCpy (qCpy (qCpy (qW q1 10 1 ((q1).1 1 1)) (1 + 3) (10 + 3) 0 0 5) (1 + 4) (10 + 4) 0 0 5) (1 + 5) (10 + 5) 0 0 5) (1 + 6) (10 + 6) 0 0 5) (1 + 7) (10 + 7) 0 0 5) (1 + 8) (10 + 8) 0 0 5))) 52 rfl
     (d_ret (k := 2) rfl rfl))))
noncomputable def m_T_copySome (d : Nat) (who : Int32) (s : qMem) : Option (qMem) := qV (qCall qMT d 47 [.ref 10, .ref 1, .int who, .ref 23] s)
noncomputable def l_T_copySome_1 (d : Nat)  (x2 : Int32) (x4 : Int32) (s : qMem) : Option (qMem) := qV (qK qMT d 47 (13, [some (.ref 10), some (.ref 1), some (.int x2), some (.ref 23), some (.int x4)], [], s))
set_option maxRecDepth 20000 in
theorem e_T_copySome (d : Nat) (who : Int32) (s : qMem) : m_T_copySome (d + 1) who s = ((m_T_copyStair d 10 1 s).bind (fun q1 => (l_T_copySome_1 d who 0 (qW q1 10 1 0)))) := d_step (t := (2, [some (.ref 10), some (.ref 1), some (.int who), some (.ref 23), none], [(.ref 1), (.ref 10)], s)) 2 rfl
   (d_callV (o := (m_T_copyStair d 10 1 s)) rfl rfl (fun q1 =>
   d_step (t := (13, [some (.ref 10), some (.ref 1), some (.int who), some (.ref 23), some (.int 0)], [], (qW q1 10 1 0))) 5 rfl
   (rfl)))
set_option maxRecDepth 20000 in
theorem el_T_copySome_1 (d : Nat)  (x2 : Int32) (x4 : Int32) (s : qMem) : l_T_copySome_1 d x2 x4 s = (if ((s).1 1 1) ≤ x4 then some s else (if 5 ≤ x4 then some s else (if ((x2 >>> (x4 &&& 31)) &&& 1) = 1 then (if 5 ≤ ((s).1 10 1) then (l_T_copySome_1 d x2 (x4 + 1) s) else (if qIn x4 5 then (if qIn ((s).1 10 1) 5 then (if qIn x4 5 then (if qIn ((s).1 10 1) 5 then (if qIn x4 5 then (if qIn ((s).1 10 1) 5 then (if qIn x4 5 then (if qIn ((s).1 10 1) 5 then (if qIn x4 5 then (if qIn ((s).1 10 1) 5 then (if qIn x4 5 then (if qIn ((s).1 10 1) 5 then (l_T_copySome_1 d x2 (x4 + 1) (qW (qW (qW (qW (qW (qW (qW s 13 (((s).1 10 1)).toNatClampNeg ((s).1 4 (x4).toNatClampNeg)) 14 (((s).1 10 1)).toNatClampNeg ((s).1 5 (x4).toNatClampNeg)) 15 (((s).1 10 1)).toNatClampNeg ((s).1 6 (x4).toNatClampNeg)) 16 (((s).1 10 1)).toNatClampNeg ((s).1 7 (x4).toNatClampNeg)) 17 (((s).1 10 1)).toNatClampNeg ((s).1 8 (x4).toNatClampNeg)) 18 (((s).1 10 1)).toNatClampNeg ((s).1 23 (x4).toNatClampNeg)) 10 1 (((s).1 10 1) + 1))) else none) else none) else none) else none) else none) else none) else none) else none) else none) else none) else none) else none)) else (l_T_copySome_1 d x2 (x4 + 1) s)))) := d_step (t := (19, [some (.ref 10), some (.ref 1), some (.int x2), some (.ref 23), some (.int x4)], [(.int ((s).1 1 1)), (.int x4)], s)) 3 rfl
   (d_if (a := (155, [some (.ref 10), some (.ref 1), some (.int x2), some (.ref 23), some (.int x4)], [], s)) (b := (22, [some (.ref 10), some (.ref 1), some (.int x2), some (.ref 23), some (.int x4)], [], s)) rfl rfl
   (d_ret (k := 2) rfl rfl)
   (d_step (t := (25, [some (.ref 10), some (.ref 1), some (.int x2), some (.ref 23), some (.int x4)], [(.int 5), (.int x4)], s)) 2 rfl
   (d_if (a := (155, [some (.ref 10), some (.ref 1), some (.int x2), some (.ref 23), some (.int x4)], [], s)) (b := (28, [some (.ref 10), some (.ref 1), some (.int x2), some (.ref 23), some (.int x4)], [], s)) rfl rfl
   (d_ret (k := 2) rfl rfl)
   (d_step (t := (35, [some (.ref 10), some (.ref 1), some (.int x2), some (.ref 23), some (.int x4)], [(.int 1), (.int ((x2 >>> (x4 &&& 31)) &&& 1))], s)) 6 rfl
   (d_if (a := (38, [some (.ref 10), some (.ref 1), some (.int x2), some (.ref 23), some (.int x4)], [], s)) (b := (149, [some (.ref 10), some (.ref 1), some (.int x2), some (.ref 23), some (.int x4)], [], s)) rfl rfl
   (d_step (t := (43, [some (.ref 10), some (.ref 1), some (.int x2), some (.ref 23), some (.int x4)], [(.int 5), (.int ((s).1 10 1))], s)) 3 rfl
   (d_if (a := (149, [some (.ref 10), some (.ref 1), some (.int x2), some (.ref 23), some (.int x4)], [], s)) (b := (46, [some (.ref 10), some (.ref 1), some (.int x2), some (.ref 23), some (.int x4)], [], s)) rfl rfl
   (d_step (t := (13, [some (.ref 10), some (.ref 1), some (.int x2), some (.ref 23), some (.int (x4 + 1))], [], s)) 2 rfl
   (rfl))
   (d_step (t := (60, [some (.ref 10), some (.ref 1), some (.int x2), some (.ref 23), some (.int x4)], [(.int x4), (.ref 4), (.int ((s).1 10 1)), (.ref 13)], s)) 7 rfl
   (d_chk (a := (61, [some (.ref 10), some (.ref 1), some (.int x2), some (.ref 23), some (.int x4)], [(.int ((s).1 4 (x4).toNatClampNeg)), (.int ((s).1 10 1)), (.ref 13)], s)) rfl rfl
   (d_chk (a := (62, [some (.ref 10), some (.ref 1), some (.int x2), some (.ref 23), some (.int x4)], [], (qW s 13 (((s).1 10 1)).toNatClampNeg ((s).1 4 (x4).toNatClampNeg)))) rfl rfl
   (d_step (t := (76, [some (.ref 10), some (.ref 1), some (.int x2), some (.ref 23), some (.int x4)], [(.int x4), (.ref 5), (.int ((s).1 10 1)), (.ref 14)], (qW s 13 (((s).1 10 1)).toNatClampNeg ((s).1 4 (x4).toNatClampNeg)))) 7 rfl
   (d_chk (a := (77, [some (.ref 10), some (.ref 1), some (.int x2), some (.ref 23), some (.int x4)], [(.int ((s).1 5 (x4).toNatClampNeg)), (.int ((s).1 10 1)), (.ref 14)], (qW s 13 (((s).1 10 1)).toNatClampNeg ((s).1 4 (x4).toNatClampNeg)))) rfl rfl
   (d_chk (a := (78, [some (.ref 10), some (.ref 1), some (.int x2), some (.ref 23), some (.int x4)], [], (qW (qW s 13 (((s).1 10 1)).toNatClampNeg ((s).1 4 (x4).toNatClampNeg)) 14 (((s).1 10 1)).toNatClampNeg ((s).1 5 (x4).toNatClampNeg)))) rfl rfl
   (d_step (t := (92, [some (.ref 10), some (.ref 1), some (.int x2), some (.ref 23), some (.int x4)], [(.int x4), (.ref 6), (.int ((s).1 10 1)), (.ref 15)], (qW (qW s 13 (((s).1 10 1)).toNatClampNeg ((s).1 4 (x4).toNatClampNeg)) 14 (((s).1 10 1)).toNatClampNeg ((s).1 5 (x4).toNatClampNeg)))) 7 rfl
   (d_chk (a := (93, [some (.ref 10), some (.ref 1), some (.int x2), some (.ref 23), some (.int x4)], [(.int ((s).1 6 (x4).toNatClampNeg)), (.int ((s).1 10 1)), (.ref 15)], (qW (qW s 13 (((s).1 10 1)).toNatClampNeg ((s).1 4 (x4).toNatClampNeg)) 14 (((s).1 10 1)).toNatClampNeg ((s).1 5 (x4).toNatClampNeg)))) rfl rfl
   (d_chk (a := (94, [some (.ref 10), some (.ref 1), some (.int x2), some (.ref 23), some (.int x4)], [], (qW (qW (qW s 13 (((s).1 10 1)).toNatClampNeg ((s).1 4 (x4).toNatClampNeg)) 14 (((s).1 10 1)).toNatClampNeg ((s).1 5 (x4).toNatClampNeg)) 15 (((s).1 10 1)).toNatClampNeg ((s).1 6 (x4).toNatClampNeg)))) rfl rfl
   (d_step (t := (108, [some (.ref 10), some (.ref 1), some (.int x2), some (.ref 23), some (.int x4)], [(.int x4), (.ref 7), (.int ((s).1 10 1)), (.ref 16)], (qW (qW (qW s 13 (((s).1 10 1)).toNatClampNeg ((s).1 4 (x4).toNatClampNeg)) 14 (((s).1 10 1)).toNatClampNeg ((s).1 5 (x4).toNatClampNeg)) 15 (((s).1 10 1)).toNatClampNeg ((s).1 6 (x4).toNatClampNeg)))) 7 rfl
   (d_chk (a := (109, [some (.ref 10), some (.ref 1), some (.int x2), some (.ref 23), some (.int x4)], [(.int ((s).1 7 (x4).toNatClampNeg)), (.int ((s).1 10 1)), (.ref 16)], (qW (qW (qW s 13 (((s).1 10 1)).toNatClampNeg ((s).1 4 (x4).toNatClampNeg)) 14 (((s).1 10 1)).toNatClampNeg ((s).1 5 (x4).toNatClampNeg)) 15 (((s).1 10 1)).toNatClampNeg ((s).1 6 (x4).toNatClampNeg)))) rfl rfl
   (d_chk (a := (110, [some (.ref 10), some (.ref 1), some (.int x2), some (.ref 23), some (.int x4)], [], (qW (qW (qW (qW s 13 (((s).1 10 1)).toNatClampNeg ((s).1 4 (x4).toNatClampNeg)) 14 (((s).1 10 1)).toNatClampNeg ((s).1 5 (x4).toNatClampNeg)) 15 (((s).1 10 1)).toNatClampNeg ((s).1 6 (x4).toNatClampNeg)) 16 (((s).1 10 1)).toNatClampNeg ((s).1 7 (x4).toNatClampNeg)))) rfl rfl
   (d_step (t := (124, [some (.ref 10), some (.ref 1), some (.int x2), some (.ref 23), some (.int x4)], [(.int x4), (.ref 8), (.int ((s).1 10 1)), (.ref 17)], (qW (qW (qW (qW s 13 (((s).1 10 1)).toNatClampNeg ((s).1 4 (x4).toNatClampNeg)) 14 (((s).1 10 1)).toNatClampNeg ((s).1 5 (x4).toNatClampNeg)) 15 (((s).1 10 1)).toNatClampNeg ((s).1 6 (x4).toNatClampNeg)) 16 (((s).1 10 1)).toNatClampNeg ((s).1 7 (x4).toNatClampNeg)))) 7 rfl
   (d_chk (a := (125, [some (.ref 10), some (.ref 1), some (.int x2), some (.ref 23), some (.int x4)], [(.int ((s).1 8 (x4).toNatClampNeg)), (.int ((s).1 10 1)), (.ref 17)], (qW (qW (qW (qW s 13 (((s).1 10 1)).toNatClampNeg ((s).1 4 (x4).toNatClampNeg)) 14 (((s).1 10 1)).toNatClampNeg ((s).1 5 (x4).toNatClampNeg)) 15 (((s).1 10 1)).toNatClampNeg ((s).1 6 (x4).toNatClampNeg)) 16 (((s).1 10 1)).toNatClampNeg ((s).1 7 (x4).toNatClampNeg)))) rfl rfl
   (d_chk (a := (126, [some (.ref 10), some (.ref 1), some (.int x2), some (.ref 23), some (.int x4)], [], (qW (qW (qW (qW (qW s 13 (((s).1 10 1)).toNatClampNeg ((s).1 4 (x4).toNatClampNeg)) 14 (((s).1 10 1)).toNatClampNeg ((s).1 5 (x4).toNatClampNeg)) 15 (((s).1 10 1)).toNatClampNeg ((s).1 6 (x4).toNatClampNeg)) 16 (((s).1 10 1)).toNatClampNeg ((s).1 7 (x4).toNatClampNeg)) 17 (((s).1 10 1)).toNatClampNeg ((s).1 8 (x4).toNatClampNeg)))) rfl rfl
   (d_step (t := (137, [some (.ref 10), some (.ref 1), some (.int x2), some (.ref 23), some (.int x4)], [(.int x4), (.ref 23), (.int ((s).1 10 1)), (.ref 18)], (qW (qW (qW (qW (qW s 13 (((s).1 10 1)).toNatClampNeg ((s).1 4 (x4).toNatClampNeg)) 14 (((s).1 10 1)).toNatClampNeg ((s).1 5 (x4).toNatClampNeg)) 15 (((s).1 10 1)).toNatClampNeg ((s).1 6 (x4).toNatClampNeg)) 16 (((s).1 10 1)).toNatClampNeg ((s).1 7 (x4).toNatClampNeg)) 17 (((s).1 10 1)).toNatClampNeg ((s).1 8 (x4).toNatClampNeg)))) 6 rfl
   (d_chk (a := (138, [some (.ref 10), some (.ref 1), some (.int x2), some (.ref 23), some (.int x4)], [(.int ((s).1 23 (x4).toNatClampNeg)), (.int ((s).1 10 1)), (.ref 18)], (qW (qW (qW (qW (qW s 13 (((s).1 10 1)).toNatClampNeg ((s).1 4 (x4).toNatClampNeg)) 14 (((s).1 10 1)).toNatClampNeg ((s).1 5 (x4).toNatClampNeg)) 15 (((s).1 10 1)).toNatClampNeg ((s).1 6 (x4).toNatClampNeg)) 16 (((s).1 10 1)).toNatClampNeg ((s).1 7 (x4).toNatClampNeg)) 17 (((s).1 10 1)).toNatClampNeg ((s).1 8 (x4).toNatClampNeg)))) rfl rfl
   (d_chk (a := (139, [some (.ref 10), some (.ref 1), some (.int x2), some (.ref 23), some (.int x4)], [], (qW (qW (qW (qW (qW (qW s 13 (((s).1 10 1)).toNatClampNeg ((s).1 4 (x4).toNatClampNeg)) 14 (((s).1 10 1)).toNatClampNeg ((s).1 5 (x4).toNatClampNeg)) 15 (((s).1 10 1)).toNatClampNeg ((s).1 6 (x4).toNatClampNeg)) 16 (((s).1 10 1)).toNatClampNeg ((s).1 7 (x4).toNatClampNeg)) 17 (((s).1 10 1)).toNatClampNeg ((s).1 8 (x4).toNatClampNeg)) 18 (((s).1 10 1)).toNatClampNeg ((s).1 23 (x4).toNatClampNeg)))) rfl rfl
   (d_step (t := (13, [some (.ref 10), some (.ref 1), some (.int x2), some (.ref 23), some (.int (x4 + 1))], [], (qW (qW (qW (qW (qW (qW (qW s 13 (((s).1 10 1)).toNatClampNeg ((s).1 4 (x4).toNatClampNeg)) 14 (((s).1 10 1)).toNatClampNeg ((s).1 5 (x4).toNatClampNeg)) 15 (((s).1 10 1)).toNatClampNeg ((s).1 6 (x4).toNatClampNeg)) 16 (((s).1 10 1)).toNatClampNeg ((s).1 7 (x4).toNatClampNeg)) 17 (((s).1 10 1)).toNatClampNeg ((s).1 8 (x4).toNatClampNeg)) 18 (((s).1 10 1)).toNatClampNeg ((s).1 23 (x4).toNatClampNeg)) 10 1 (((s).1 10 1) + 1)))) 8 rfl
   (rfl))))))))))))))))))))))
   (d_step (t := (13, [some (.ref 10), some (.ref 1), some (.int x2), some (.ref 23), some (.int (x4 + 1))], [], s)) 2 rfl
   (rfl)))))))
noncomputable def m_T_allows (d : Nat) (w : Int32) (s : qMem) : Option (Int32 × qMem) := qI (qCall qMT d 48 [.ref 10, .int w] s)
set_option maxRecDepth 20000 in
theorem e_T_allows (d : Nat) (w : Int32) (s : qMem) : m_T_allows (d + 1) w s = (if w < 0 then some (0, s) else (if w < 6 then some (1, s) else (if 5 ≤ ((s).1 10 1) then some (0, s) else some (1, s)))) := d_step (t := (1, [some (.ref 10), some (.int w)], [(.int w)], s)) 1 rfl
   (d_if (a := (22, [some (.ref 10), some (.int w)], [], s)) (b := (4, [some (.ref 10), some (.int w)], [], s)) rfl rfl
   (d_step (t := (23, [some (.ref 10), some (.int w)], [(.int 0)], s)) 1 rfl
   (d_ret (k := 0) rfl rfl))
   (d_step (t := (7, [some (.ref 10), some (.int w)], [(.int 6), (.int w)], s)) 2 rfl
   (d_if (a := (18, [some (.ref 10), some (.int w)], [], s)) (b := (10, [some (.ref 10), some (.int w)], [], s)) rfl rfl
   (d_step (t := (23, [some (.ref 10), some (.int w)], [(.int 1)], s)) 2 rfl
   (d_ret (k := 0) rfl rfl))
   (d_step (t := (15, [some (.ref 10), some (.int w)], [(.int 5), (.int ((s).1 10 1))], s)) 3 rfl
   (d_if (a := (22, [some (.ref 10), some (.int w)], [], s)) (b := (18, [some (.ref 10), some (.int w)], [], s)) rfl rfl
   (d_step (t := (23, [some (.ref 10), some (.int w)], [(.int 0)], s)) 1 rfl
   (d_ret (k := 0) rfl rfl))
   (d_step (t := (23, [some (.ref 10), some (.int w)], [(.int 1)], s)) 2 rfl
   (d_ret (k := 0) rfl rfl)))))))
noncomputable def m_T_numbersBehind (d : Nat) (w : Int32) (s : qMem) : Option (Int32 × qMem) := qI (qCall qMT d 49 [.int w] s)
set_option maxRecDepth 20000 in
theorem e_T_numbersBehind (d : Nat) (w : Int32) (s : qMem) : m_T_numbersBehind (d + 1) w s = (if w = 0 then some (1, s) else (if w = 1 then some (2, s) else (if w = 2 then some (1, s) else (if w = 3 then some (2, s) else (if w = 4 then some (2, s) else (if w = 5 then some (0, s) else some (3, s))))))) := d_step (t := (1, [some (.int w)], [(.int w)], s)) 1 rfl
   (d_sw (o := qSel w [some (.int w)] [] s 46 [(0, 40), (1, 42), (2, 40), (3, 42), (4, 42), (5, 44)]) rfl rfl (d_sw1 (d_step (t := (41, [some (.int w)], [(.int 1)], s)) 1 rfl
   (d_ret (k := 0) rfl rfl))
   (d_sw1 (d_step (t := (43, [some (.int w)], [(.int 2)], s)) 1 rfl
   (d_ret (k := 0) rfl rfl))
   (d_sw1 (d_step (t := (41, [some (.int w)], [(.int 1)], s)) 1 rfl
   (d_ret (k := 0) rfl rfl))
   (d_sw1 (d_step (t := (43, [some (.int w)], [(.int 2)], s)) 1 rfl
   (d_ret (k := 0) rfl rfl))
   (d_sw1 (d_step (t := (43, [some (.int w)], [(.int 2)], s)) 1 rfl
   (d_ret (k := 0) rfl rfl))
   (d_sw1 (d_step (t := (45, [some (.int w)], [(.int 0)], s)) 1 rfl
   (d_ret (k := 0) rfl rfl))
   (d_sw0 (d_step (t := (47, [some (.int w)], [(.int 3)], s)) 1 rfl
   (d_ret (k := 0) rfl rfl))))))))))
noncomputable def m_T_least (d : Nat) (w : Int32) (k : Int32) (s : qMem) : Option (Int32 × qMem) := qI (qCall qMT d 50 [.int w, .int k] s)
set_option maxRecDepth 20000 in
theorem e_T_least (d : Nat) (w : Int32) (k : Int32) (s : qMem) : m_T_least (d + 1) w k s = (if w = 0 then some (1, s) else (if w = 1 then some ((if k = 0 then 0 else 1 : Int32), s) else (if w = 2 then some (0, s) else (if w = 3 then some (0, s) else (if w = 4 then some (0, s) else some ((if 2 ≤ k then 0 else 1 : Int32), s)))))) := d_step (t := (1, [some (.int w), some (.int k)], [(.int w)], s)) 1 rfl
   (d_sw (o := qSel w [some (.int w), some (.int k)] [] s 50 [(0, 36), (1, 38), (2, 48), (3, 48), (4, 48)]) rfl rfl (d_sw1 (d_step (t := (37, [some (.int w), some (.int k)], [(.int 1)], s)) 1 rfl
   (d_ret (k := 0) rfl rfl))
   (d_sw1 (d_step (t := (39, [some (.int w), some (.int k)], [(.int k)], s)) 1 rfl
   (d_mrg (a := (42, [some (.int w), some (.int k)], [], s)) (b := (46, [some (.int w), some (.int k)], [], s)) (v1 := 0) (v2 := 1) (z := fun v9 => (47, [some (.int w), some (.int k)], [(.int v9)], s)) 2 1 rfl rfl rfl rfl
   (d_ret (k := 0) rfl rfl)))
   (d_sw1 (d_step (t := (49, [some (.int w), some (.int k)], [(.int 0)], s)) 1 rfl
   (d_ret (k := 0) rfl rfl))
   (d_sw1 (d_step (t := (49, [some (.int w), some (.int k)], [(.int 0)], s)) 1 rfl
   (d_ret (k := 0) rfl rfl))
   (d_sw1 (d_step (t := (49, [some (.int w), some (.int k)], [(.int 0)], s)) 1 rfl
   (d_ret (k := 0) rfl rfl))
   (d_sw0 (d_step (t := (52, [some (.int w), some (.int k)], [(.int 2), (.int k)], s)) 2 rfl
   (d_mrg (a := (59, [some (.int w), some (.int k)], [], s)) (b := (55, [some (.int w), some (.int k)], [], s)) (v1 := 0) (v2 := 1) (z := fun v9 => (60, [some (.int w), some (.int k)], [(.int v9)], s)) 1 2 rfl rfl rfl rfl
   (d_ret (k := 0) rfl rfl))))))))))
noncomputable def m_T_greatest (d : Nat) (w : Int32) (k : Int32) (s : qMem) : Option (Int32 × qMem) := qI (qCall qMT d 51 [.ref 10, .int w, .int k] s)
set_option maxRecDepth 20000 in
theorem e_T_greatest (d : Nat) (w : Int32) (k : Int32) (s : qMem) : m_T_greatest (d + 1) w k s = (if w = 0 then some (4, s) else (if w = 1 then (if k = 0 then some ((((s).1 10 0) - 1), s) else some (60, s)) else (if w = 2 then some ((((s).1 10 0) - 1), s) else (if w = 3 then (if k = 0 then some ((((s).1 10 1) - 1), s) else some (49, s)) else (if w = 4 then (if k = 0 then some ((((s).1 10 1) - 1), s) else some (((s).1 10 0), s)) else (if k = 0 then some (30, s) else some ((if k = 1 then 50 else 99 : Int32), s))))))) := d_step (t := (1, [some (.ref 10), some (.int w), some (.int k)], [(.int w)], s)) 1 rfl
   (d_sw (o := qSel w [some (.ref 10), some (.int w), some (.int k)] [] s 95 [(0, 36), (1, 38), (2, 54), (3, 61), (4, 77)]) rfl rfl (d_sw1 (d_step (t := (37, [some (.ref 10), some (.int w), some (.int k)], [(.int 4)], s)) 1 rfl
   (d_ret (k := 0) rfl rfl))
   (d_sw1 (d_step (t := (39, [some (.ref 10), some (.int w), some (.int k)], [(.int k)], s)) 1 rfl
   (d_if (a := (42, [some (.ref 10), some (.int w), some (.int k)], [], s)) (b := (51, [some (.ref 10), some (.int w), some (.int k)], [], s)) rfl rfl
   (d_step (t := (53, [some (.ref 10), some (.int w), some (.int k)], [(.int (((s).1 10 0) - 1))], s)) 5 rfl
   (d_ret (k := 0) rfl rfl))
   (d_step (t := (53, [some (.ref 10), some (.int w), some (.int k)], [(.int 60)], s)) 1 rfl
   (d_ret (k := 0) rfl rfl))))
   (d_sw1 (d_step (t := (60, [some (.ref 10), some (.int w), some (.int k)], [(.int (((s).1 10 0) - 1))], s)) 4 rfl
   (d_ret (k := 0) rfl rfl))
   (d_sw1 (d_step (t := (62, [some (.ref 10), some (.int w), some (.int k)], [(.int k)], s)) 1 rfl
   (d_if (a := (65, [some (.ref 10), some (.int w), some (.int k)], [], s)) (b := (74, [some (.ref 10), some (.int w), some (.int k)], [], s)) rfl rfl
   (d_step (t := (76, [some (.ref 10), some (.int w), some (.int k)], [(.int (((s).1 10 1) - 1))], s)) 5 rfl
   (d_ret (k := 0) rfl rfl))
   (d_step (t := (76, [some (.ref 10), some (.int w), some (.int k)], [(.int 49)], s)) 1 rfl
   (d_ret (k := 0) rfl rfl))))
   (d_sw1 (d_step (t := (78, [some (.ref 10), some (.int w), some (.int k)], [(.int k)], s)) 1 rfl
   (d_if (a := (81, [some (.ref 10), some (.int w), some (.int k)], [], s)) (b := (90, [some (.ref 10), some (.int w), some (.int k)], [], s)) rfl rfl
   (d_step (t := (94, [some (.ref 10), some (.int w), some (.int k)], [(.int (((s).1 10 1) - 1))], s)) 5 rfl
   (d_ret (k := 0) rfl rfl))
   (d_step (t := (94, [some (.ref 10), some (.int w), some (.int k)], [(.int ((s).1 10 0))], s)) 2 rfl
   (d_ret (k := 0) rfl rfl))))
   (d_sw0 (d_step (t := (96, [some (.ref 10), some (.int w), some (.int k)], [(.int k)], s)) 1 rfl
   (d_if (a := (99, [some (.ref 10), some (.int w), some (.int k)], [], s)) (b := (104, [some (.ref 10), some (.int w), some (.int k)], [], s)) rfl rfl
   (d_step (t := (116, [some (.ref 10), some (.int w), some (.int k)], [(.int 30)], s)) 2 rfl
   (d_ret (k := 0) rfl rfl))
   (d_step (t := (106, [some (.ref 10), some (.int w), some (.int k)], [(.int 1), (.int k)], s)) 2 rfl
   (d_mrg (a := (109, [some (.ref 10), some (.int w), some (.int k)], [], s)) (b := (114, [some (.ref 10), some (.int w), some (.int k)], [], s)) (v1 := 50) (v2 := 99) (z := fun v9 => (116, [some (.ref 10), some (.int w), some (.int k)], [(.int v9)], s)) 2 1 rfl rfl rfl rfl
   (d_ret (k := 0) rfl rfl))))))))))))
noncomputable def m_T_tell (d : Nat) (w : Int32) (a : Int32) (b : Int32) (c : Int32) (s : qMem) : Option (qMem) := qV (qCall qMT d 52 [.ref 10, .int w, .int a, .int b, .int c] s)
noncomputable def l_T_tell_1 (d : Nat)  (x1 : Int32) (x2 : Int32) (x3 : Int32) (x4 : Int32) (s : qMem) : Option (qMem) := qV (qK qMT d 52 (48, [some (.ref 10), some (.int x1), some (.int x2), some (.int x3), some (.int x4)], [], s))
noncomputable def l_T_tell_2 (d : Nat)  (x1 : Int32) (x2 : Int32) (x3 : Int32) (x4 : Int32) (s : qMem) : Option (qMem) := qV (qK qMT d 52 (71, [some (.ref 10), some (.int x1), some (.int x2), some (.int x3), some (.int x4)], [], s))
noncomputable def l_T_tell_3 (d : Nat)  (x1 : Int32) (x2 : Int32) (x3 : Int32) (x4 : Int32) (s : qMem) : Option (qMem) := qV (qK qMT d 52 (101, [some (.ref 10), some (.int x1), some (.int x2), some (.int x3), some (.int x4)], [], s))
noncomputable def l_T_tell_4 (d : Nat)  (x1 : Int32) (x2 : Int32) (x3 : Int32) (x4 : Int32) (s : qMem) : Option (qMem) := qV (qK qMT d 52 (124, [some (.ref 10), some (.int x1), some (.int x2), some (.int x3), some (.int x4)], [], s))
set_option maxRecDepth 20000 in
theorem e_T_tell (d : Nat) (w : Int32) (a : Int32) (b : Int32) (c : Int32) (s : qMem) : m_T_tell (d + 1) w a b c s = (if w = 0 then ((m_T_build d 10 a s).bind (fun q1 => some q1)) else (if w = 5 then some (qW s 10 1 0) else (if w = 1 then ((m_T_isStep d 10 a s).bind (fun q2 => (if q2.1 = 0 then (l_T_tell_1 d w a b c q2.2) else (if qIn a 4 then some (qW q2.2 11 (a).toNatClampNeg b) else none)))) else (l_T_tell_1 d w a b c s)))) := d_step (t := (1, [some (.ref 10), some (.int w), some (.int a), some (.int b), some (.int c)], [(.int w)], s)) 1 rfl
   (d_if (a := (4, [some (.ref 10), some (.int w), some (.int a), some (.int b), some (.int c)], [], s)) (b := (12, [some (.ref 10), some (.int w), some (.int a), some (.int b), some (.int c)], [], s)) rfl rfl
   (d_step (t := (6, [some (.ref 10), some (.int w), some (.int a), some (.int b), some (.int c)], [(.int a), (.ref 10)], s)) 2 rfl
   (d_callV (o := (m_T_build d 10 a s)) rfl rfl (fun q1 =>
   d_step (t := (212, [some (.ref 10), some (.int w), some (.int a), some (.int b), some (.int c)], [], q1)) 1 rfl
   (d_ret (k := 2) rfl rfl))))
   (d_step (t := (14, [some (.ref 10), some (.int w), some (.int a), some (.int b), some (.int c)], [(.int 5), (.int w)], s)) 2 rfl
   (d_if (a := (17, [some (.ref 10), some (.int w), some (.int a), some (.int b), some (.int c)], [], s)) (b := (25, [some (.ref 10), some (.int w), some (.int a), some (.int b), some (.int c)], [], s)) rfl rfl
   (d_step (t := (212, [some (.ref 10), some (.int w), some (.int a), some (.int b), some (.int c)], [], (qW s 10 1 0))) 4 rfl
   (d_ret (k := 2) rfl rfl))
   (d_step (t := (27, [some (.ref 10), some (.int w), some (.int a), some (.int b), some (.int c)], [(.int 1), (.int w)], s)) 2 rfl
   (d_if (a := (30, [some (.ref 10), some (.int w), some (.int a), some (.int b), some (.int c)], [], s)) (b := (48, [some (.ref 10), some (.int w), some (.int a), some (.int b), some (.int c)], [], s)) rfl rfl
   (d_step (t := (32, [some (.ref 10), some (.int w), some (.int a), some (.int b), some (.int c)], [(.int a), (.ref 10)], s)) 2 rfl
   (d_callI (o := (m_T_isStep d 10 a s)) rfl rfl (fun q2 =>
   d_if (a := (48, [some (.ref 10), some (.int w), some (.int a), some (.int b), some (.int c)], [], q2.2)) (b := (38, [some (.ref 10), some (.int w), some (.int a), some (.int b), some (.int c)], [], q2.2)) rfl rfl
   (rfl)
   (d_step (t := (44, [some (.ref 10), some (.int w), some (.int a), some (.int b), some (.int c)], [(.int b), (.int a), (.ref 11)], q2.2)) 4 rfl
   (d_chk (a := (45, [some (.ref 10), some (.int w), some (.int a), some (.int b), some (.int c)], [], (qW q2.2 11 (a).toNatClampNeg b))) rfl rfl
   (d_step (t := (212, [some (.ref 10), some (.int w), some (.int a), some (.int b), some (.int c)], [], (qW q2.2 11 (a).toNatClampNeg b))) 1 rfl
   (d_ret (k := 2) rfl rfl)))))))
   (rfl))))))
set_option maxRecDepth 20000 in
theorem el_T_tell_1 (d : Nat)  (x1 : Int32) (x2 : Int32) (x3 : Int32) (x4 : Int32) (s : qMem) : l_T_tell_1 d x1 x2 x3 x4 s = (if x1 = 2 then ((m_T_isStep d 10 x2 s).bind (fun q1 => (if q1.1 = 0 then (l_T_tell_2 d x1 x2 x3 x4 q1.2) else (if qIn x2 4 ∧ ((1 : Int32) = 0 ∨ (1 : Int32) = 1) then some (qW q1.2 12 (x2).toNatClampNeg 1) else none)))) else (l_T_tell_2 d x1 x2 x3 x4 s)) := d_step (t := (50, [some (.ref 10), some (.int x1), some (.int x2), some (.int x3), some (.int x4)], [(.int 2), (.int x1)], s)) 2 rfl
   (d_if (a := (53, [some (.ref 10), some (.int x1), some (.int x2), some (.int x3), some (.int x4)], [], s)) (b := (71, [some (.ref 10), some (.int x1), some (.int x2), some (.int x3), some (.int x4)], [], s)) rfl rfl
   (d_step (t := (55, [some (.ref 10), some (.int x1), some (.int x2), some (.int x3), some (.int x4)], [(.int x2), (.ref 10)], s)) 2 rfl
   (d_callI (o := (m_T_isStep d 10 x2 s)) rfl rfl (fun q1 =>
   d_if (a := (71, [some (.ref 10), some (.int x1), some (.int x2), some (.int x3), some (.int x4)], [], q1.2)) (b := (61, [some (.ref 10), some (.int x1), some (.int x2), some (.int x3), some (.int x4)], [], q1.2)) rfl rfl
   (rfl)
   (d_step (t := (67, [some (.ref 10), some (.int x1), some (.int x2), some (.int x3), some (.int x4)], [(.int 1), (.int x2), (.ref 12)], q1.2)) 4 rfl
   (d_chk (a := (68, [some (.ref 10), some (.int x1), some (.int x2), some (.int x3), some (.int x4)], [], (qW q1.2 12 (x2).toNatClampNeg 1))) rfl rfl
   (d_step (t := (212, [some (.ref 10), some (.int x1), some (.int x2), some (.int x3), some (.int x4)], [], (qW q1.2 12 (x2).toNatClampNeg 1))) 1 rfl
   (d_ret (k := 2) rfl rfl)))))))
   (rfl))
set_option maxRecDepth 20000 in
theorem el_T_tell_2 (d : Nat)  (x1 : Int32) (x2 : Int32) (x3 : Int32) (x4 : Int32) (s : qMem) : l_T_tell_2 d x1 x2 x3 x4 s = (if x1 = 3 then ((m_T_isOne d 10 x2 s).bind (fun q1 => (if q1.1 = 0 then (l_T_tell_3 d x1 x2 x3 x4 q1.2) else (if qIn x2 5 then (if qIn x2 5 then some (qW q1.2 16 (x2).toNatClampNeg (((q1.2).1 15 (x2).toNatClampNeg) + x3)) else none) else none)))) else (l_T_tell_3 d x1 x2 x3 x4 s)) := d_step (t := (73, [some (.ref 10), some (.int x1), some (.int x2), some (.int x3), some (.int x4)], [(.int 3), (.int x1)], s)) 2 rfl
   (d_if (a := (76, [some (.ref 10), some (.int x1), some (.int x2), some (.int x3), some (.int x4)], [], s)) (b := (101, [some (.ref 10), some (.int x1), some (.int x2), some (.int x3), some (.int x4)], [], s)) rfl rfl
   (d_step (t := (78, [some (.ref 10), some (.int x1), some (.int x2), some (.int x3), some (.int x4)], [(.int x2), (.ref 10)], s)) 2 rfl
   (d_callI (o := (m_T_isOne d 10 x2 s)) rfl rfl (fun q1 =>
   d_if (a := (101, [some (.ref 10), some (.int x1), some (.int x2), some (.int x3), some (.int x4)], [], q1.2)) (b := (84, [some (.ref 10), some (.int x1), some (.int x2), some (.int x3), some (.int x4)], [], q1.2)) rfl rfl
   (rfl)
   (d_step (t := (94, [some (.ref 10), some (.int x1), some (.int x2), some (.int x3), some (.int x4)], [(.int x2), (.ref 15), (.int x2), (.ref 16)], q1.2)) 6 rfl
   (d_chk (a := (95, [some (.ref 10), some (.int x1), some (.int x2), some (.int x3), some (.int x4)], [(.int ((q1.2).1 15 (x2).toNatClampNeg)), (.int x2), (.ref 16)], q1.2)) rfl rfl
   (d_step (t := (97, [some (.ref 10), some (.int x1), some (.int x2), some (.int x3), some (.int x4)], [(.int (((q1.2).1 15 (x2).toNatClampNeg) + x3)), (.int x2), (.ref 16)], q1.2)) 2 rfl
   (d_chk (a := (98, [some (.ref 10), some (.int x1), some (.int x2), some (.int x3), some (.int x4)], [], (qW q1.2 16 (x2).toNatClampNeg (((q1.2).1 15 (x2).toNatClampNeg) + x3)))) rfl rfl
   (d_step (t := (212, [some (.ref 10), some (.int x1), some (.int x2), some (.int x3), some (.int x4)], [], (qW q1.2 16 (x2).toNatClampNeg (((q1.2).1 15 (x2).toNatClampNeg) + x3)))) 1 rfl
   (d_ret (k := 2) rfl rfl)))))))))
   (rfl))
set_option maxRecDepth 20000 in
theorem el_T_tell_3 (d : Nat)  (x1 : Int32) (x2 : Int32) (x3 : Int32) (x4 : Int32) (s : qMem) : l_T_tell_3 d x1 x2 x3 x4 s = (if x1 = 4 then ((m_T_isOne d 10 x2 s).bind (fun q1 => (if q1.1 = 0 then (l_T_tell_4 d x1 x2 x3 x4 q1.2) else (if qIn x2 5 then some (qW q1.2 18 (x2).toNatClampNeg x3) else none)))) else (l_T_tell_4 d x1 x2 x3 x4 s)) := d_step (t := (103, [some (.ref 10), some (.int x1), some (.int x2), some (.int x3), some (.int x4)], [(.int 4), (.int x1)], s)) 2 rfl
   (d_if (a := (106, [some (.ref 10), some (.int x1), some (.int x2), some (.int x3), some (.int x4)], [], s)) (b := (124, [some (.ref 10), some (.int x1), some (.int x2), some (.int x3), some (.int x4)], [], s)) rfl rfl
   (d_step (t := (108, [some (.ref 10), some (.int x1), some (.int x2), some (.int x3), some (.int x4)], [(.int x2), (.ref 10)], s)) 2 rfl
   (d_callI (o := (m_T_isOne d 10 x2 s)) rfl rfl (fun q1 =>
   d_if (a := (124, [some (.ref 10), some (.int x1), some (.int x2), some (.int x3), some (.int x4)], [], q1.2)) (b := (114, [some (.ref 10), some (.int x1), some (.int x2), some (.int x3), some (.int x4)], [], q1.2)) rfl rfl
   (rfl)
   (d_step (t := (120, [some (.ref 10), some (.int x1), some (.int x2), some (.int x3), some (.int x4)], [(.int x3), (.int x2), (.ref 18)], q1.2)) 4 rfl
   (d_chk (a := (121, [some (.ref 10), some (.int x1), some (.int x2), some (.int x3), some (.int x4)], [], (qW q1.2 18 (x2).toNatClampNeg x3))) rfl rfl
   (d_step (t := (212, [some (.ref 10), some (.int x1), some (.int x2), some (.int x3), some (.int x4)], [], (qW q1.2 18 (x2).toNatClampNeg x3))) 1 rfl
   (d_ret (k := 2) rfl rfl)))))))
   (rfl))
set_option maxRecDepth 20000 in
theorem el_T_tell_4 (d : Nat)  (x1 : Int32) (x2 : Int32) (x3 : Int32) (x4 : Int32) (s : qMem) : l_T_tell_4 d x1 x2 x3 x4 s = (if x1 < 6 then some s else (if 5 ≤ ((s).1 10 1) then some s else (if qIn ((s).1 10 1) 5 then (if qIn ((s).1 10 1) 5 then (if qIn ((s).1 10 1) 5 then (if qIn ((s).1 10 1) 5 then (if qIn ((s).1 10 1) 5 then (if qIn ((s).1 10 1) 5 then some (qW (qW (qW (qW (qW (qW (qW s 13 (((s).1 10 1)).toNatClampNeg (x1 - 6)) 14 (((s).1 10 1)).toNatClampNeg x2) 15 (((s).1 10 1)).toNatClampNeg x3) 16 (((s).1 10 1)).toNatClampNeg x3) 17 (((s).1 10 1)).toNatClampNeg x4) 18 (((s).1 10 1)).toNatClampNeg 0) 10 1 (((s).1 10 1) + 1)) else none) else none) else none) else none) else none) else none))) := d_step (t := (127, [some (.ref 10), some (.int x1), some (.int x2), some (.int x3), some (.int x4)], [(.int 6), (.int x1)], s)) 2 rfl
   (d_if (a := (212, [some (.ref 10), some (.int x1), some (.int x2), some (.int x3), some (.int x4)], [], s)) (b := (130, [some (.ref 10), some (.int x1), some (.int x2), some (.int x3), some (.int x4)], [], s)) rfl rfl
   (d_ret (k := 2) rfl rfl)
   (d_step (t := (135, [some (.ref 10), some (.int x1), some (.int x2), some (.int x3), some (.int x4)], [(.int 5), (.int ((s).1 10 1))], s)) 3 rfl
   (d_if (a := (212, [some (.ref 10), some (.int x1), some (.int x2), some (.int x3), some (.int x4)], [], s)) (b := (138, [some (.ref 10), some (.int x1), some (.int x2), some (.int x3), some (.int x4)], [], s)) rfl rfl
   (d_ret (k := 2) rfl rfl)
   (d_step (t := (150, [some (.ref 10), some (.int x1), some (.int x2), some (.int x3), some (.int x4)], [(.int (x1 - 6)), (.int ((s).1 10 1)), (.ref 13)], s)) 7 rfl
   (d_chk (a := (151, [some (.ref 10), some (.int x1), some (.int x2), some (.int x3), some (.int x4)], [], (qW s 13 (((s).1 10 1)).toNatClampNeg (x1 - 6)))) rfl rfl
   (d_step (t := (160, [some (.ref 10), some (.int x1), some (.int x2), some (.int x3), some (.int x4)], [(.int x2), (.int ((s).1 10 1)), (.ref 14)], (qW s 13 (((s).1 10 1)).toNatClampNeg (x1 - 6)))) 5 rfl
   (d_chk (a := (161, [some (.ref 10), some (.int x1), some (.int x2), some (.int x3), some (.int x4)], [], (qW (qW s 13 (((s).1 10 1)).toNatClampNeg (x1 - 6)) 14 (((s).1 10 1)).toNatClampNeg x2))) rfl rfl
   (d_step (t := (170, [some (.ref 10), some (.int x1), some (.int x2), some (.int x3), some (.int x4)], [(.int x3), (.int ((s).1 10 1)), (.ref 15)], (qW (qW s 13 (((s).1 10 1)).toNatClampNeg (x1 - 6)) 14 (((s).1 10 1)).toNatClampNeg x2))) 5 rfl
   (d_chk (a := (171, [some (.ref 10), some (.int x1), some (.int x2), some (.int x3), some (.int x4)], [], (qW (qW (qW s 13 (((s).1 10 1)).toNatClampNeg (x1 - 6)) 14 (((s).1 10 1)).toNatClampNeg x2) 15 (((s).1 10 1)).toNatClampNeg x3))) rfl rfl
   (d_step (t := (180, [some (.ref 10), some (.int x1), some (.int x2), some (.int x3), some (.int x4)], [(.int x3), (.int ((s).1 10 1)), (.ref 16)], (qW (qW (qW s 13 (((s).1 10 1)).toNatClampNeg (x1 - 6)) 14 (((s).1 10 1)).toNatClampNeg x2) 15 (((s).1 10 1)).toNatClampNeg x3))) 5 rfl
   (d_chk (a := (181, [some (.ref 10), some (.int x1), some (.int x2), some (.int x3), some (.int x4)], [], (qW (qW (qW (qW s 13 (((s).1 10 1)).toNatClampNeg (x1 - 6)) 14 (((s).1 10 1)).toNatClampNeg x2) 15 (((s).1 10 1)).toNatClampNeg x3) 16 (((s).1 10 1)).toNatClampNeg x3))) rfl rfl
   (d_step (t := (191, [some (.ref 10), some (.int x1), some (.int x2), some (.int x3), some (.int x4)], [(.int x4), (.int ((s).1 10 1)), (.ref 17)], (qW (qW (qW (qW s 13 (((s).1 10 1)).toNatClampNeg (x1 - 6)) 14 (((s).1 10 1)).toNatClampNeg x2) 15 (((s).1 10 1)).toNatClampNeg x3) 16 (((s).1 10 1)).toNatClampNeg x3))) 5 rfl
   (d_chk (a := (192, [some (.ref 10), some (.int x1), some (.int x2), some (.int x3), some (.int x4)], [], (qW (qW (qW (qW (qW s 13 (((s).1 10 1)).toNatClampNeg (x1 - 6)) 14 (((s).1 10 1)).toNatClampNeg x2) 15 (((s).1 10 1)).toNatClampNeg x3) 16 (((s).1 10 1)).toNatClampNeg x3) 17 (((s).1 10 1)).toNatClampNeg x4))) rfl rfl
   (d_step (t := (201, [some (.ref 10), some (.int x1), some (.int x2), some (.int x3), some (.int x4)], [(.int 0), (.int ((s).1 10 1)), (.ref 18)], (qW (qW (qW (qW (qW s 13 (((s).1 10 1)).toNatClampNeg (x1 - 6)) 14 (((s).1 10 1)).toNatClampNeg x2) 15 (((s).1 10 1)).toNatClampNeg x3) 16 (((s).1 10 1)).toNatClampNeg x3) 17 (((s).1 10 1)).toNatClampNeg x4))) 5 rfl
   (d_chk (a := (202, [some (.ref 10), some (.int x1), some (.int x2), some (.int x3), some (.int x4)], [], (qW (qW (qW (qW (qW (qW s 13 (((s).1 10 1)).toNatClampNeg (x1 - 6)) 14 (((s).1 10 1)).toNatClampNeg x2) 15 (((s).1 10 1)).toNatClampNeg x3) 16 (((s).1 10 1)).toNatClampNeg x3) 17 (((s).1 10 1)).toNatClampNeg x4) 18 (((s).1 10 1)).toNatClampNeg 0))) rfl rfl
   (d_step (t := (212, [some (.ref 10), some (.int x1), some (.int x2), some (.int x3), some (.int x4)], [], (qW (qW (qW (qW (qW (qW (qW s 13 (((s).1 10 1)).toNatClampNeg (x1 - 6)) 14 (((s).1 10 1)).toNatClampNeg x2) 15 (((s).1 10 1)).toNatClampNeg x3) 16 (((s).1 10 1)).toNatClampNeg x3) 17 (((s).1 10 1)).toNatClampNeg x4) 18 (((s).1 10 1)).toNatClampNeg 0) 10 1 (((s).1 10 1) + 1)))) 6 rfl
   (d_ret (k := 2) rfl rfl)))))))))))))))))
noncomputable def m_T_isSuch (d : Nat) (one : Int32) (tk : Int32) (s : qMem) : Option (Int32 × qMem) := qI (qCall qMT d 55 [.ref 1, .int one, .int tk] s)
noncomputable def l_T_isSuch_1 (d : Nat)  (x2 : Int32) (x3 : Int32) (x4 : Int32) (s : qMem) : Option (Int32 × qMem) := qI (qK qMT d 55 (22, [none, none, some (.int x2), some (.int x3), some (.int x4)], [], s))
set_option maxRecDepth 20000 in
theorem e_T_isSuch (d : Nat) (one : Int32) (tk : Int32) (s : qMem) : m_T_isSuch (d + 1) one tk s = ((m_T_isOne d 1 one s).bind (fun q1 => (if q1.1 = 0 then some (0, q1.2) else (if qIn one 5 then (l_T_isSuch_1 d tk (((q1.2).1 4 (one).toNatClampNeg) + 1) 0 q1.2) else none)))) := d_step (t := (2, [some (.ref 1), some (.int one), some (.int tk), none, none], [(.int one), (.ref 1)], s)) 2 rfl
   (d_callI (o := (m_T_isOne d 1 one s)) rfl rfl (fun q1 =>
   d_if (a := (8, [some (.ref 1), some (.int one), some (.int tk), none, none], [], q1.2)) (b := (10, [some (.ref 1), some (.int one), some (.int tk), none, none], [], q1.2)) rfl rfl
   (d_step (t := (9, [some (.ref 1), some (.int one), some (.int tk), none, none], [(.int 0)], q1.2)) 1 rfl
   (d_ret (k := 0) rfl rfl))
   (d_step (t := (15, [some (.ref 1), some (.int one), some (.int tk), none, none], [(.int one), (.ref 4)], q1.2)) 3 rfl
   (d_chk (a := (16, [some (.ref 1), some (.int one), some (.int tk), none, none], [(.int ((q1.2).1 4 (one).toNatClampNeg))], q1.2)) rfl rfl
   (d_step (t := (22, [some (.ref 1), some (.int one), some (.int tk), some (.int (((q1.2).1 4 (one).toNatClampNeg) + 1)), some (.int 0)], [], q1.2)) 5 rfl
   (d_lab (x2 := (22, [none, none, some (.int tk), some (.int (((q1.2).1 4 (one).toNatClampNeg) + 1)), some (.int 0)], [], q1.2)) rfl rfl rfl))))))
set_option maxRecDepth 20000 in
theorem el_T_isSuch_1 (d : Nat)  (x2 : Int32) (x3 : Int32) (x4 : Int32) (s : qMem) : l_T_isSuch_1 d x2 x3 x4 s = (if 5 ≤ x4 then some (0, s) else (if x3 < 0 then some (0, s) else (if 5 ≤ x3 then some (0, s) else (if x3 = x2 then some (1, s) else (if qIn x3 5 then (l_T_isSuch_1 d x2 (qKon qOver (x3).toNatClampNeg) (x4 + 1) s) else none))))) := d_step (t := (28, [none, none, some (.int x2), some (.int x3), some (.int x4)], [(.int 5), (.int x4)], s)) 3 rfl
   (d_if (a := (62, [none, none, some (.int x2), some (.int x3), some (.int x4)], [], s)) (b := (31, [none, none, some (.int x2), some (.int x3), some (.int x4)], [], s)) rfl rfl
   (d_step (t := (63, [none, none, some (.int x2), some (.int x3), some (.int x4)], [(.int 0)], s)) 1 rfl
   (d_ret (k := 0) rfl rfl))
   (d_step (t := (32, [none, none, some (.int x2), some (.int x3), some (.int x4)], [(.int x3)], s)) 1 rfl
   (d_if (a := (62, [none, none, some (.int x2), some (.int x3), some (.int x4)], [], s)) (b := (35, [none, none, some (.int x2), some (.int x3), some (.int x4)], [], s)) rfl rfl
   (d_step (t := (63, [none, none, some (.int x2), some (.int x3), some (.int x4)], [(.int 0)], s)) 1 rfl
   (d_ret (k := 0) rfl rfl))
   (d_step (t := (40, [none, none, some (.int x2), some (.int x3), some (.int x4)], [(.int 5), (.int x3)], s)) 3 rfl
   (d_if (a := (62, [none, none, some (.int x2), some (.int x3), some (.int x4)], [], s)) (b := (43, [none, none, some (.int x2), some (.int x3), some (.int x4)], [], s)) rfl rfl
   (d_step (t := (63, [none, none, some (.int x2), some (.int x3), some (.int x4)], [(.int 0)], s)) 1 rfl
   (d_ret (k := 0) rfl rfl))
   (d_step (t := (45, [none, none, some (.int x2), some (.int x3), some (.int x4)], [(.int x2), (.int x3)], s)) 2 rfl
   (d_if (a := (48, [none, none, some (.int x2), some (.int x3), some (.int x4)], [], s)) (b := (50, [none, none, some (.int x2), some (.int x3), some (.int x4)], [], s)) rfl rfl
   (d_step (t := (49, [none, none, some (.int x2), some (.int x3), some (.int x4)], [(.int 1)], s)) 1 rfl
   (d_ret (k := 0) rfl rfl))
   (d_step (t := (54, [none, none, some (.int x2), some (.int x3), some (.int x4)], [(.int x3), (.ref 60)], s)) 2 rfl
   (d_chk (a := (55, [none, none, some (.int x2), some (.int x3), some (.int x4)], [(.int (qKon qOver (x3).toNatClampNeg))], s)) rfl rfl
   (d_step (t := (22, [none, none, some (.int x2), some (.int (qKon qOver (x3).toNatClampNeg)), some (.int (x4 + 1))], [], s)) 3 rfl
   (d_lab (x2 := (22, [none, none, some (.int x2), some (.int (qKon qOver (x3).toNatClampNeg)), some (.int (x4 + 1))], [], s)) rfl rfl rfl)))))))))))
noncomputable def m_T_lifterOf (d : Nat) (pr : Int32) (s : qMem) : Option (Int32 × qMem) := qI (qCall qMT d 64 [.int pr] s)
set_option maxRecDepth 20000 in
theorem e_T_lifterOf (d : Nat) (pr : Int32) (s : qMem) : m_T_lifterOf (d + 1) pr s = some (((pr / 6) - 1), s) := d_step (t := (6, [some (.int pr)], [(.int ((pr / 6) - 1))], s)) 5 rfl
   (d_ret (k := 0) rfl rfl)
noncomputable def m_T_pullerOf (d : Nat) (pr : Int32) (s : qMem) : Option (Int32 × qMem) := qI (qCall qMT d 65 [.int pr] s)
set_option maxRecDepth 20000 in
theorem e_T_pullerOf (d : Nat) (pr : Int32) (s : qMem) : m_T_pullerOf (d + 1) pr s = some (((pr - pr / 6 * 6) - 1), s) := d_step (t := (6, [some (.int pr)], [(.int ((pr - pr / 6 * 6) - 1))], s)) 5 rfl
   (d_ret (k := 0) rfl rfl)
noncomputable def m_T_setAtTop (d : Nat) (rr : Nat) (s : qMem) : Option (Int32 × qMem) := qI (qCall qMT d 59 [.ref 1, .ref rr] s)
noncomputable def l_T_setAtTop_1 (d : Nat) (rr : Nat) (x2 : Int32) (x3 : Int32) (s : qMem) : Option (Int32 × qMem) := qI (qK qMT d 59 (4, [some (.ref 1), some (.ref rr), some (.int x2), some (.int x3)], [], s))
set_option maxRecDepth 20000 in
theorem e_T_setAtTop (d : Nat) (rr : Nat) (hc : (rr = 23) ∨ (rr = 30)) (s : qMem) : m_T_setAtTop (d + 1) rr s = (l_T_setAtTop_1 d rr 0 0 s) := by
  rcases hc with rfl | rfl
  · exact (d_step (t := (4, [some (.ref 1), some (.ref 23), some (.int 0), some (.int 0)], [], s)) 4 rfl
     (rfl))
  · exact (d_step (t := (4, [some (.ref 1), some (.ref 30), some (.int 0), some (.int 0)], [], s)) 4 rfl
     (rfl))
set_option maxRecDepth 20000 in
theorem el_T_setAtTop_1 (d : Nat) (rr : Nat) (x2 : Int32) (x3 : Int32) (hc : (rr = 23) ∨ (rr = 30)) (s : qMem) : l_T_setAtTop_1 d rr x2 x3 s = (if ((s).1 1 1) ≤ x3 then some (x2, s) else (if 5 ≤ x3 then some (x2, s) else (if qIn x3 5 then (if ((s).1 rr (x3).toNatClampNeg) = ((s).1 1 0) then (l_T_setAtTop_1 d rr (x2 ||| (1 <<< (x3 &&& 31))) (x3 + 1) s) else (l_T_setAtTop_1 d rr x2 (x3 + 1) s)) else none))) := by
  rcases hc with rfl | rfl
  · exact (d_step (t := (9, [some (.ref 1), some (.ref 23), some (.int x2), some (.int x3)], [(.int ((s).1 1 1)), (.int x3)], s)) 3 rfl
     (d_if (a := (40, [some (.ref 1), some (.ref 23), some (.int x2), some (.int x3)], [], s)) (b := (12, [some (.ref 1), some (.ref 23), some (.int x2), some (.int x3)], [], s)) rfl rfl
     (d_step (t := (41, [some (.ref 1), some (.ref 23), some (.int x2), some (.int x3)], [(.int x2)], s)) 1 rfl
     (d_ret (k := 0) rfl rfl))
     (d_step (t := (15, [some (.ref 1), some (.ref 23), some (.int x2), some (.int x3)], [(.int 5), (.int x3)], s)) 3 rfl
     (d_if (a := (40, [some (.ref 1), some (.ref 23), some (.int x2), some (.int x3)], [], s)) (b := (18, [some (.ref 1), some (.ref 23), some (.int x2), some (.int x3)], [], s)) rfl rfl
     (d_step (t := (41, [some (.ref 1), some (.ref 23), some (.int x2), some (.int x3)], [(.int x2)], s)) 1 rfl
     (d_ret (k := 0) rfl rfl))
     (d_step (t := (20, [some (.ref 1), some (.ref 23), some (.int x2), some (.int x3)], [(.int x3), (.ref 23)], s)) 2 rfl
     (d_chk (a := (21, [some (.ref 1), some (.ref 23), some (.int x2), some (.int x3)], [(.int ((s).1 23 (x3).toNatClampNeg))], s)) rfl rfl
     (d_step (t := (25, [some (.ref 1), some (.ref 23), some (.int x2), some (.int x3)], [(.int ((s).1 1 0)), (.int ((s).1 23 (x3).toNatClampNeg))], s)) 2 rfl
     (d_if (a := (28, [some (.ref 1), some (.ref 23), some (.int x2), some (.int x3)], [], s)) (b := (34, [some (.ref 1), some (.ref 23), some (.int x2), some (.int x3)], [], s)) rfl rfl
     (d_step (t := (4, [some (.ref 1), some (.ref 23), some (.int (x2 ||| (1 <<< (x3 &&& 31)))), some (.int (x3 + 1))], [], s)) 8 rfl
     (rfl))
     (d_step (t := (4, [some (.ref 1), some (.ref 23), some (.int x2), some (.int (x3 + 1))], [], s)) 2 rfl
     (rfl))))))))))
  · exact (d_step (t := (9, [some (.ref 1), some (.ref 30), some (.int x2), some (.int x3)], [(.int ((s).1 1 1)), (.int x3)], s)) 3 rfl
     (d_if (a := (40, [some (.ref 1), some (.ref 30), some (.int x2), some (.int x3)], [], s)) (b := (12, [some (.ref 1), some (.ref 30), some (.int x2), some (.int x3)], [], s)) rfl rfl
     (d_step (t := (41, [some (.ref 1), some (.ref 30), some (.int x2), some (.int x3)], [(.int x2)], s)) 1 rfl
     (d_ret (k := 0) rfl rfl))
     (d_step (t := (15, [some (.ref 1), some (.ref 30), some (.int x2), some (.int x3)], [(.int 5), (.int x3)], s)) 3 rfl
     (d_if (a := (40, [some (.ref 1), some (.ref 30), some (.int x2), some (.int x3)], [], s)) (b := (18, [some (.ref 1), some (.ref 30), some (.int x2), some (.int x3)], [], s)) rfl rfl
     (d_step (t := (41, [some (.ref 1), some (.ref 30), some (.int x2), some (.int x3)], [(.int x2)], s)) 1 rfl
     (d_ret (k := 0) rfl rfl))
     (d_step (t := (20, [some (.ref 1), some (.ref 30), some (.int x2), some (.int x3)], [(.int x3), (.ref 30)], s)) 2 rfl
     (d_chk (a := (21, [some (.ref 1), some (.ref 30), some (.int x2), some (.int x3)], [(.int ((s).1 30 (x3).toNatClampNeg))], s)) rfl rfl
     (d_step (t := (25, [some (.ref 1), some (.ref 30), some (.int x2), some (.int x3)], [(.int ((s).1 1 0)), (.int ((s).1 30 (x3).toNatClampNeg))], s)) 2 rfl
     (d_if (a := (28, [some (.ref 1), some (.ref 30), some (.int x2), some (.int x3)], [], s)) (b := (34, [some (.ref 1), some (.ref 30), some (.int x2), some (.int x3)], [], s)) rfl rfl
     (d_step (t := (4, [some (.ref 1), some (.ref 30), some (.int (x2 ||| (1 <<< (x3 &&& 31)))), some (.int (x3 + 1))], [], s)) 8 rfl
     (rfl))
     (d_step (t := (4, [some (.ref 1), some (.ref 30), some (.int x2), some (.int (x3 + 1))], [], s)) 2 rfl
     (rfl))))))))))
noncomputable def m_fill (d : Nat) (v : Int32) (s : qMem) : Option (qMem) := qV (qCall qMT d 7 [.ref 24, .int v] s)
noncomputable def l_fill_1 (d : Nat)  (x1 : Int32) (x2 : Int32) (x3 : Int32) (s : qMem) : Option (qMem) := qV (qK qMT d 7 (5, [some (.ref 24), some (.int x1), some (.int x2), some (.int x3)], [], s))
set_option maxRecDepth 20000 in
theorem e_fill (d : Nat) (v : Int32) (s : qMem) : m_fill (d + 1) v s = (l_fill_1 d v 0 25 s) := d_step (t := (5, [some (.ref 24), some (.int v), some (.int 0), some (.int 25)], [], s)) 5 rfl
   (rfl)
set_option maxRecDepth 20000 in
theorem el_fill_1 (d : Nat)  (x1 : Int32) (x2 : Int32) (x3 : Int32) (s : qMem) : l_fill_1 d x1 x2 x3 s = (if x3 ≤ x2 then some s else (if qIn x2 25 then (l_fill_1 d x1 (x2 + 1) x3 (qW s 24 (x2).toNatClampNeg x1)) else none)) := d_step (t := (7, [some (.ref 24), some (.int x1), some (.int x2), some (.int x3)], [(.int x3), (.int x2)], s)) 2 rfl
   (d_if (a := (20, [some (.ref 24), some (.int x1), some (.int x2), some (.int x3)], [], s)) (b := (10, [some (.ref 24), some (.int x1), some (.int x2), some (.int x3)], [], s)) rfl rfl
   (d_ret (k := 2) rfl rfl)
   (d_step (t := (13, [some (.ref 24), some (.int x1), some (.int x2), some (.int x3)], [(.int x1), (.int x2), (.ref 24)], s)) 3 rfl
   (d_chk (a := (14, [some (.ref 24), some (.int x1), some (.int x2), some (.int x3)], [], (qW s 24 (x2).toNatClampNeg x1))) rfl rfl
   (d_step (t := (5, [some (.ref 24), some (.int x1), some (.int (x2 + 1)), some (.int x3)], [], (qW s 24 (x2).toNatClampNeg x1))) 2 rfl
   (rfl)))))
noncomputable def m_checkIndex (d : Nat) (a : Int32) (b : Int32) (s : qMem) : Option (Int32 × qMem) := qI (qCall qMT d 8 [.int a, .int b, .ref 150] s)
set_option maxRecDepth 20000 in
theorem e_checkIndex (d : Nat) (a : Int32) (b : Int32) (s : qMem) : m_checkIndex (d + 1) a b s = (if a < 0 then none else (if a < b then some (a, s) else none)) := d_step (t := (1, [some (.int a), some (.int b), some (.ref 150)], [(.int a)], s)) 1 rfl
   (d_if (a := (9, [some (.int a), some (.int b), some (.ref 150)], [], s)) (b := (4, [some (.int a), some (.int b), some (.ref 150)], [], s)) rfl rfl
   (d_no rfl rfl)
   (d_step (t := (6, [some (.int a), some (.int b), some (.ref 150)], [(.int b), (.int a)], s)) 2 rfl
   (d_if (a := (16, [some (.int a), some (.int b), some (.ref 150)], [], s)) (b := (9, [some (.int a), some (.int b), some (.ref 150)], [], s)) rfl rfl
   (d_step (t := (17, [some (.int a), some (.int b), some (.ref 150)], [(.int a)], s)) 1 rfl
   (d_ret (k := 0) rfl rfl))
   (d_no rfl rfl))))
noncomputable def m_scheckIndex (d : Nat) (a : Int32) (b : Int32) (s : qMem) : Option (qMem) := qV (qCall qMT d 5 [.int a, .int b] s)
set_option maxRecDepth 20000 in
theorem e_scheckIndex (d : Nat) (a : Int32) (b : Int32) (s : qMem) : m_scheckIndex (d + 1) a b s = ((m_checkIndex d a b s).bind (fun q1 => some q1.2)) := d_step (t := (5, [some (.int a), some (.int b)], [(.ref 150), (.int b), (.int a)], s)) 3 rfl
   (d_callI (o := (m_checkIndex d a b s)) rfl rfl (fun q1 =>
   d_step (t := (9, [some (.int a), some (.int b)], [], q1.2)) 1 rfl
   (d_ret (k := 2) rfl rfl)))
noncomputable def m_lcharAt (d : Nat) (tx : Nat) (k : Int32) (s : qMem) : Option (Int32 × qMem) := qI (qCall qMT d 6 [.ref tx, .int k] s)
set_option maxRecDepth 20000 in
theorem e_lcharAt (d : Nat) (tx : Nat) (k : Int32) (hc : (tx = 110) ∨ (tx = 111) ∨ (tx = 112) ∨ (tx = 113) ∨ (tx = 114) ∨ (tx = 115) ∨ (tx = 116) ∨ (tx = 117) ∨ (tx = 118) ∨ (tx = 119)) (s : qMem) : m_lcharAt (d + 1) tx k s = ((m_scheckIndex d k (Int32.ofNat (qTn (tx - 110))) s).bind (fun q1 => (if qIn k (qTn (tx - 110)) then (if 0 ≤ (((((qKon (qTb (tx - 110)) (k).toNatClampNeg) &&& 255)).toUInt32 % 65536).toInt32).toInt ∧ (((((qKon (qTb (tx - 110)) (k).toNatClampNeg) &&& 255)).toUInt32 % 65536).toInt32).toInt < 65536 then some (((((qKon (qTb (tx - 110)) (k).toNatClampNeg) &&& 255)).toUInt32 % 65536).toInt32, q1) else none) else none))) := by
  rcases hc with rfl | rfl | rfl | rfl | rfl | rfl | rfl | rfl | rfl | rfl
  · exact (d_step (t := (3, [some (.ref 110), some (.int k)], [(.int (Int32.ofNat (qTn (110 - 110)))), (.int k)], s)) 3 rfl
     (d_callV (o := (m_scheckIndex d k (Int32.ofNat (qTn (110 - 110))) s)) rfl rfl (fun q1 =>
     d_step (t := (8, [some (.ref 110), some (.int k)], [(.int k), (.ref 110)], q1)) 2 rfl
     (d_chk (a := (9, [some (.ref 110), some (.int k)], [(.int (qKon (qTb (110 - 110)) (k).toNatClampNeg))], q1)) rfl rfl
     (d_step (t := (14, [some (.ref 110), some (.int k)], [(.int ((((qKon (qTb (110 - 110)) (k).toNatClampNeg) &&& 255)).toUInt32 % 65536).toInt32)], q1)) 3 rfl
     (d_retz (k := 0) rfl rfl))))))
  · exact (d_step (t := (3, [some (.ref 111), some (.int k)], [(.int (Int32.ofNat (qTn (111 - 110)))), (.int k)], s)) 3 rfl
     (d_callV (o := (m_scheckIndex d k (Int32.ofNat (qTn (111 - 110))) s)) rfl rfl (fun q1 =>
     d_step (t := (8, [some (.ref 111), some (.int k)], [(.int k), (.ref 111)], q1)) 2 rfl
     (d_chk (a := (9, [some (.ref 111), some (.int k)], [(.int (qKon (qTb (111 - 110)) (k).toNatClampNeg))], q1)) rfl rfl
     (d_step (t := (14, [some (.ref 111), some (.int k)], [(.int ((((qKon (qTb (111 - 110)) (k).toNatClampNeg) &&& 255)).toUInt32 % 65536).toInt32)], q1)) 3 rfl
     (d_retz (k := 0) rfl rfl))))))
  · exact (d_step (t := (3, [some (.ref 112), some (.int k)], [(.int (Int32.ofNat (qTn (112 - 110)))), (.int k)], s)) 3 rfl
     (d_callV (o := (m_scheckIndex d k (Int32.ofNat (qTn (112 - 110))) s)) rfl rfl (fun q1 =>
     d_step (t := (8, [some (.ref 112), some (.int k)], [(.int k), (.ref 112)], q1)) 2 rfl
     (d_chk (a := (9, [some (.ref 112), some (.int k)], [(.int (qKon (qTb (112 - 110)) (k).toNatClampNeg))], q1)) rfl rfl
     (d_step (t := (14, [some (.ref 112), some (.int k)], [(.int ((((qKon (qTb (112 - 110)) (k).toNatClampNeg) &&& 255)).toUInt32 % 65536).toInt32)], q1)) 3 rfl
     (d_retz (k := 0) rfl rfl))))))
  · exact (d_step (t := (3, [some (.ref 113), some (.int k)], [(.int (Int32.ofNat (qTn (113 - 110)))), (.int k)], s)) 3 rfl
     (d_callV (o := (m_scheckIndex d k (Int32.ofNat (qTn (113 - 110))) s)) rfl rfl (fun q1 =>
     d_step (t := (8, [some (.ref 113), some (.int k)], [(.int k), (.ref 113)], q1)) 2 rfl
     (d_chk (a := (9, [some (.ref 113), some (.int k)], [(.int (qKon (qTb (113 - 110)) (k).toNatClampNeg))], q1)) rfl rfl
     (d_step (t := (14, [some (.ref 113), some (.int k)], [(.int ((((qKon (qTb (113 - 110)) (k).toNatClampNeg) &&& 255)).toUInt32 % 65536).toInt32)], q1)) 3 rfl
     (d_retz (k := 0) rfl rfl))))))
  · exact (d_step (t := (3, [some (.ref 114), some (.int k)], [(.int (Int32.ofNat (qTn (114 - 110)))), (.int k)], s)) 3 rfl
     (d_callV (o := (m_scheckIndex d k (Int32.ofNat (qTn (114 - 110))) s)) rfl rfl (fun q1 =>
     d_step (t := (8, [some (.ref 114), some (.int k)], [(.int k), (.ref 114)], q1)) 2 rfl
     (d_chk (a := (9, [some (.ref 114), some (.int k)], [(.int (qKon (qTb (114 - 110)) (k).toNatClampNeg))], q1)) rfl rfl
     (d_step (t := (14, [some (.ref 114), some (.int k)], [(.int ((((qKon (qTb (114 - 110)) (k).toNatClampNeg) &&& 255)).toUInt32 % 65536).toInt32)], q1)) 3 rfl
     (d_retz (k := 0) rfl rfl))))))
  · exact (d_step (t := (3, [some (.ref 115), some (.int k)], [(.int (Int32.ofNat (qTn (115 - 110)))), (.int k)], s)) 3 rfl
     (d_callV (o := (m_scheckIndex d k (Int32.ofNat (qTn (115 - 110))) s)) rfl rfl (fun q1 =>
     d_step (t := (8, [some (.ref 115), some (.int k)], [(.int k), (.ref 115)], q1)) 2 rfl
     (d_chk (a := (9, [some (.ref 115), some (.int k)], [(.int (qKon (qTb (115 - 110)) (k).toNatClampNeg))], q1)) rfl rfl
     (d_step (t := (14, [some (.ref 115), some (.int k)], [(.int ((((qKon (qTb (115 - 110)) (k).toNatClampNeg) &&& 255)).toUInt32 % 65536).toInt32)], q1)) 3 rfl
     (d_retz (k := 0) rfl rfl))))))
  · exact (d_step (t := (3, [some (.ref 116), some (.int k)], [(.int (Int32.ofNat (qTn (116 - 110)))), (.int k)], s)) 3 rfl
     (d_callV (o := (m_scheckIndex d k (Int32.ofNat (qTn (116 - 110))) s)) rfl rfl (fun q1 =>
     d_step (t := (8, [some (.ref 116), some (.int k)], [(.int k), (.ref 116)], q1)) 2 rfl
     (d_chk (a := (9, [some (.ref 116), some (.int k)], [(.int (qKon (qTb (116 - 110)) (k).toNatClampNeg))], q1)) rfl rfl
     (d_step (t := (14, [some (.ref 116), some (.int k)], [(.int ((((qKon (qTb (116 - 110)) (k).toNatClampNeg) &&& 255)).toUInt32 % 65536).toInt32)], q1)) 3 rfl
     (d_retz (k := 0) rfl rfl))))))
  · exact (d_step (t := (3, [some (.ref 117), some (.int k)], [(.int (Int32.ofNat (qTn (117 - 110)))), (.int k)], s)) 3 rfl
     (d_callV (o := (m_scheckIndex d k (Int32.ofNat (qTn (117 - 110))) s)) rfl rfl (fun q1 =>
     d_step (t := (8, [some (.ref 117), some (.int k)], [(.int k), (.ref 117)], q1)) 2 rfl
     (d_chk (a := (9, [some (.ref 117), some (.int k)], [(.int (qKon (qTb (117 - 110)) (k).toNatClampNeg))], q1)) rfl rfl
     (d_step (t := (14, [some (.ref 117), some (.int k)], [(.int ((((qKon (qTb (117 - 110)) (k).toNatClampNeg) &&& 255)).toUInt32 % 65536).toInt32)], q1)) 3 rfl
     (d_retz (k := 0) rfl rfl))))))
  · exact (d_step (t := (3, [some (.ref 118), some (.int k)], [(.int (Int32.ofNat (qTn (118 - 110)))), (.int k)], s)) 3 rfl
     (d_callV (o := (m_scheckIndex d k (Int32.ofNat (qTn (118 - 110))) s)) rfl rfl (fun q1 =>
     d_step (t := (8, [some (.ref 118), some (.int k)], [(.int k), (.ref 118)], q1)) 2 rfl
     (d_chk (a := (9, [some (.ref 118), some (.int k)], [(.int (qKon (qTb (118 - 110)) (k).toNatClampNeg))], q1)) rfl rfl
     (d_step (t := (14, [some (.ref 118), some (.int k)], [(.int ((((qKon (qTb (118 - 110)) (k).toNatClampNeg) &&& 255)).toUInt32 % 65536).toInt32)], q1)) 3 rfl
     (d_retz (k := 0) rfl rfl))))))
  · exact (d_step (t := (3, [some (.ref 119), some (.int k)], [(.int (Int32.ofNat (qTn (119 - 110)))), (.int k)], s)) 3 rfl
     (d_callV (o := (m_scheckIndex d k (Int32.ofNat (qTn (119 - 110))) s)) rfl rfl (fun q1 =>
     d_step (t := (8, [some (.ref 119), some (.int k)], [(.int k), (.ref 119)], q1)) 2 rfl
     (d_chk (a := (9, [some (.ref 119), some (.int k)], [(.int (qKon (qTb (119 - 110)) (k).toNatClampNeg))], q1)) rfl rfl
     (d_step (t := (14, [some (.ref 119), some (.int k)], [(.int ((((qKon (qTb (119 - 110)) (k).toNatClampNeg) &&& 255)).toUInt32 % 65536).toInt32)], q1)) 3 rfl
     (d_retz (k := 0) rfl rfl))))))
noncomputable def m_isLatin1 (d : Nat) (tx : Nat) (s : qMem) : Option (Int32 × qMem) := qI (qCall qMT d 4 [.ref tx] s)
set_option maxRecDepth 20000 in
theorem e_isLatin1 (d : Nat) (tx : Nat) (hc : (tx = 100) ∨ (tx = 101) ∨ (tx = 102) ∨ (tx = 103) ∨ (tx = 104) ∨ (tx = 105) ∨ (tx = 106) ∨ (tx = 107) ∨ (tx = 108) ∨ (tx = 109)) (s : qMem) : m_isLatin1 (d + 1) tx s = some (1, s) := by
  rcases hc with rfl | rfl | rfl | rfl | rfl | rfl | rfl | rfl | rfl | rfl
  · exact (d_step (t := (18, [some (.ref 100)], [(.int 1)], s)) 7 rfl
     (d_ret (k := 0) rfl rfl))
  · exact (d_step (t := (18, [some (.ref 101)], [(.int 1)], s)) 7 rfl
     (d_ret (k := 0) rfl rfl))
  · exact (d_step (t := (18, [some (.ref 102)], [(.int 1)], s)) 7 rfl
     (d_ret (k := 0) rfl rfl))
  · exact (d_step (t := (18, [some (.ref 103)], [(.int 1)], s)) 7 rfl
     (d_ret (k := 0) rfl rfl))
  · exact (d_step (t := (18, [some (.ref 104)], [(.int 1)], s)) 7 rfl
     (d_ret (k := 0) rfl rfl))
  · exact (d_step (t := (18, [some (.ref 105)], [(.int 1)], s)) 7 rfl
     (d_ret (k := 0) rfl rfl))
  · exact (d_step (t := (18, [some (.ref 106)], [(.int 1)], s)) 7 rfl
     (d_ret (k := 0) rfl rfl))
  · exact (d_step (t := (18, [some (.ref 107)], [(.int 1)], s)) 7 rfl
     (d_ret (k := 0) rfl rfl))
  · exact (d_step (t := (18, [some (.ref 108)], [(.int 1)], s)) 7 rfl
     (d_ret (k := 0) rfl rfl))
  · exact (d_step (t := (18, [some (.ref 109)], [(.int 1)], s)) 7 rfl
     (d_ret (k := 0) rfl rfl))
noncomputable def m_coder (d : Nat) (tx : Nat) (s : qMem) : Option (Int32 × qMem) := qI (qCall qMT d 3 [.ref tx] s)
set_option maxRecDepth 20000 in
theorem e_coder (d : Nat) (tx : Nat) (hc : (tx = 100) ∨ (tx = 101) ∨ (tx = 102) ∨ (tx = 103) ∨ (tx = 104) ∨ (tx = 105) ∨ (tx = 106) ∨ (tx = 107) ∨ (tx = 108) ∨ (tx = 109)) (s : qMem) : m_coder (d + 1) tx s = some (0, s) := by
  rcases hc with rfl | rfl | rfl | rfl | rfl | rfl | rfl | rfl | rfl | rfl
  · exact (d_step (t := (14, [some (.ref 100)], [(.int 0)], s)) 5 rfl
     (d_ret (k := 0) rfl rfl))
  · exact (d_step (t := (14, [some (.ref 101)], [(.int 0)], s)) 5 rfl
     (d_ret (k := 0) rfl rfl))
  · exact (d_step (t := (14, [some (.ref 102)], [(.int 0)], s)) 5 rfl
     (d_ret (k := 0) rfl rfl))
  · exact (d_step (t := (14, [some (.ref 103)], [(.int 0)], s)) 5 rfl
     (d_ret (k := 0) rfl rfl))
  · exact (d_step (t := (14, [some (.ref 104)], [(.int 0)], s)) 5 rfl
     (d_ret (k := 0) rfl rfl))
  · exact (d_step (t := (14, [some (.ref 105)], [(.int 0)], s)) 5 rfl
     (d_ret (k := 0) rfl rfl))
  · exact (d_step (t := (14, [some (.ref 106)], [(.int 0)], s)) 5 rfl
     (d_ret (k := 0) rfl rfl))
  · exact (d_step (t := (14, [some (.ref 107)], [(.int 0)], s)) 5 rfl
     (d_ret (k := 0) rfl rfl))
  · exact (d_step (t := (14, [some (.ref 108)], [(.int 0)], s)) 5 rfl
     (d_ret (k := 0) rfl rfl))
  · exact (d_step (t := (14, [some (.ref 109)], [(.int 0)], s)) 5 rfl
     (d_ret (k := 0) rfl rfl))
noncomputable def m_charAt (d : Nat) (tx : Nat) (k : Int32) (s : qMem) : Option (Int32 × qMem) := qI (qCall qMT d 2 [.ref tx, .int k] s)
set_option maxRecDepth 20000 in
theorem e_charAt (d : Nat) (tx : Nat) (k : Int32) (hc : (tx = 100) ∨ (tx = 101) ∨ (tx = 102) ∨ (tx = 103) ∨ (tx = 104) ∨ (tx = 105) ∨ (tx = 106) ∨ (tx = 107) ∨ (tx = 108) ∨ (tx = 109)) (s : qMem) : m_charAt (d + 1) tx k s = ((m_isLatin1 d tx s).bind (fun q1 => (if q1.1 = 0 then none else ((m_lcharAt d (tx + 10) k q1.2).bind (fun q2 => (if 0 ≤ (q2.1).toInt ∧ (q2.1).toInt < 65536 then some (q2.1, q2.2) else none)))))) := by
  rcases hc with rfl | rfl | rfl | rfl | rfl | rfl | rfl | rfl | rfl | rfl
  · exact (d_step (t := (1, [some (.ref 100), some (.int k)], [(.ref 100)], s)) 1 rfl
     (d_callI (o := (m_isLatin1 d 100 s)) rfl rfl (fun q1 =>
     d_if (a := (16, [some (.ref 100), some (.int k)], [], q1.2)) (b := (7, [some (.ref 100), some (.int k)], [], q1.2)) rfl rfl
     (d_step (t := (21, [some (.ref 100), some (.int k)], [(.int k), (.ref (100 + 10))], q1.2)) 3 rfl
     (d_none rfl))
     (d_step (t := (12, [some (.ref 100), some (.int k)], [(.int k), (.ref (100 + 10))], q1.2)) 3 rfl
     (d_callI (o := (m_lcharAt d (100 + 10) k q1.2)) rfl rfl (fun q2 =>
     d_retz (k := 0) rfl rfl))))))
  · exact (d_step (t := (1, [some (.ref 101), some (.int k)], [(.ref 101)], s)) 1 rfl
     (d_callI (o := (m_isLatin1 d 101 s)) rfl rfl (fun q1 =>
     d_if (a := (16, [some (.ref 101), some (.int k)], [], q1.2)) (b := (7, [some (.ref 101), some (.int k)], [], q1.2)) rfl rfl
     (d_step (t := (21, [some (.ref 101), some (.int k)], [(.int k), (.ref (101 + 10))], q1.2)) 3 rfl
     (d_none rfl))
     (d_step (t := (12, [some (.ref 101), some (.int k)], [(.int k), (.ref (101 + 10))], q1.2)) 3 rfl
     (d_callI (o := (m_lcharAt d (101 + 10) k q1.2)) rfl rfl (fun q2 =>
     d_retz (k := 0) rfl rfl))))))
  · exact (d_step (t := (1, [some (.ref 102), some (.int k)], [(.ref 102)], s)) 1 rfl
     (d_callI (o := (m_isLatin1 d 102 s)) rfl rfl (fun q1 =>
     d_if (a := (16, [some (.ref 102), some (.int k)], [], q1.2)) (b := (7, [some (.ref 102), some (.int k)], [], q1.2)) rfl rfl
     (d_step (t := (21, [some (.ref 102), some (.int k)], [(.int k), (.ref (102 + 10))], q1.2)) 3 rfl
     (d_none rfl))
     (d_step (t := (12, [some (.ref 102), some (.int k)], [(.int k), (.ref (102 + 10))], q1.2)) 3 rfl
     (d_callI (o := (m_lcharAt d (102 + 10) k q1.2)) rfl rfl (fun q2 =>
     d_retz (k := 0) rfl rfl))))))
  · exact (d_step (t := (1, [some (.ref 103), some (.int k)], [(.ref 103)], s)) 1 rfl
     (d_callI (o := (m_isLatin1 d 103 s)) rfl rfl (fun q1 =>
     d_if (a := (16, [some (.ref 103), some (.int k)], [], q1.2)) (b := (7, [some (.ref 103), some (.int k)], [], q1.2)) rfl rfl
     (d_step (t := (21, [some (.ref 103), some (.int k)], [(.int k), (.ref (103 + 10))], q1.2)) 3 rfl
     (d_none rfl))
     (d_step (t := (12, [some (.ref 103), some (.int k)], [(.int k), (.ref (103 + 10))], q1.2)) 3 rfl
     (d_callI (o := (m_lcharAt d (103 + 10) k q1.2)) rfl rfl (fun q2 =>
     d_retz (k := 0) rfl rfl))))))
  · exact (d_step (t := (1, [some (.ref 104), some (.int k)], [(.ref 104)], s)) 1 rfl
     (d_callI (o := (m_isLatin1 d 104 s)) rfl rfl (fun q1 =>
     d_if (a := (16, [some (.ref 104), some (.int k)], [], q1.2)) (b := (7, [some (.ref 104), some (.int k)], [], q1.2)) rfl rfl
     (d_step (t := (21, [some (.ref 104), some (.int k)], [(.int k), (.ref (104 + 10))], q1.2)) 3 rfl
     (d_none rfl))
     (d_step (t := (12, [some (.ref 104), some (.int k)], [(.int k), (.ref (104 + 10))], q1.2)) 3 rfl
     (d_callI (o := (m_lcharAt d (104 + 10) k q1.2)) rfl rfl (fun q2 =>
     d_retz (k := 0) rfl rfl))))))
  · exact (d_step (t := (1, [some (.ref 105), some (.int k)], [(.ref 105)], s)) 1 rfl
     (d_callI (o := (m_isLatin1 d 105 s)) rfl rfl (fun q1 =>
     d_if (a := (16, [some (.ref 105), some (.int k)], [], q1.2)) (b := (7, [some (.ref 105), some (.int k)], [], q1.2)) rfl rfl
     (d_step (t := (21, [some (.ref 105), some (.int k)], [(.int k), (.ref (105 + 10))], q1.2)) 3 rfl
     (d_none rfl))
     (d_step (t := (12, [some (.ref 105), some (.int k)], [(.int k), (.ref (105 + 10))], q1.2)) 3 rfl
     (d_callI (o := (m_lcharAt d (105 + 10) k q1.2)) rfl rfl (fun q2 =>
     d_retz (k := 0) rfl rfl))))))
  · exact (d_step (t := (1, [some (.ref 106), some (.int k)], [(.ref 106)], s)) 1 rfl
     (d_callI (o := (m_isLatin1 d 106 s)) rfl rfl (fun q1 =>
     d_if (a := (16, [some (.ref 106), some (.int k)], [], q1.2)) (b := (7, [some (.ref 106), some (.int k)], [], q1.2)) rfl rfl
     (d_step (t := (21, [some (.ref 106), some (.int k)], [(.int k), (.ref (106 + 10))], q1.2)) 3 rfl
     (d_none rfl))
     (d_step (t := (12, [some (.ref 106), some (.int k)], [(.int k), (.ref (106 + 10))], q1.2)) 3 rfl
     (d_callI (o := (m_lcharAt d (106 + 10) k q1.2)) rfl rfl (fun q2 =>
     d_retz (k := 0) rfl rfl))))))
  · exact (d_step (t := (1, [some (.ref 107), some (.int k)], [(.ref 107)], s)) 1 rfl
     (d_callI (o := (m_isLatin1 d 107 s)) rfl rfl (fun q1 =>
     d_if (a := (16, [some (.ref 107), some (.int k)], [], q1.2)) (b := (7, [some (.ref 107), some (.int k)], [], q1.2)) rfl rfl
     (d_step (t := (21, [some (.ref 107), some (.int k)], [(.int k), (.ref (107 + 10))], q1.2)) 3 rfl
     (d_none rfl))
     (d_step (t := (12, [some (.ref 107), some (.int k)], [(.int k), (.ref (107 + 10))], q1.2)) 3 rfl
     (d_callI (o := (m_lcharAt d (107 + 10) k q1.2)) rfl rfl (fun q2 =>
     d_retz (k := 0) rfl rfl))))))
  · exact (d_step (t := (1, [some (.ref 108), some (.int k)], [(.ref 108)], s)) 1 rfl
     (d_callI (o := (m_isLatin1 d 108 s)) rfl rfl (fun q1 =>
     d_if (a := (16, [some (.ref 108), some (.int k)], [], q1.2)) (b := (7, [some (.ref 108), some (.int k)], [], q1.2)) rfl rfl
     (d_step (t := (21, [some (.ref 108), some (.int k)], [(.int k), (.ref (108 + 10))], q1.2)) 3 rfl
     (d_none rfl))
     (d_step (t := (12, [some (.ref 108), some (.int k)], [(.int k), (.ref (108 + 10))], q1.2)) 3 rfl
     (d_callI (o := (m_lcharAt d (108 + 10) k q1.2)) rfl rfl (fun q2 =>
     d_retz (k := 0) rfl rfl))))))
  · exact (d_step (t := (1, [some (.ref 109), some (.int k)], [(.ref 109)], s)) 1 rfl
     (d_callI (o := (m_isLatin1 d 109 s)) rfl rfl (fun q1 =>
     d_if (a := (16, [some (.ref 109), some (.int k)], [], q1.2)) (b := (7, [some (.ref 109), some (.int k)], [], q1.2)) rfl rfl
     (d_step (t := (21, [some (.ref 109), some (.int k)], [(.int k), (.ref (109 + 10))], q1.2)) 3 rfl
     (d_none rfl))
     (d_step (t := (12, [some (.ref 109), some (.int k)], [(.int k), (.ref (109 + 10))], q1.2)) 3 rfl
     (d_callI (o := (m_lcharAt d (109 + 10) k q1.2)) rfl rfl (fun q2 =>
     d_retz (k := 0) rfl rfl))))))
noncomputable def m_slength (d : Nat) (tx : Nat) (s : qMem) : Option (Int32 × qMem) := qI (qCall qMT d 1 [.ref tx] s)
set_option maxRecDepth 20000 in
theorem e_slength (d : Nat) (tx : Nat) (hc : (tx = 100) ∨ (tx = 101) ∨ (tx = 102) ∨ (tx = 103) ∨ (tx = 104) ∨ (tx = 105) ∨ (tx = 106) ∨ (tx = 107) ∨ (tx = 108) ∨ (tx = 109)) (s : qMem) : m_slength (d + 1) tx s = ((m_coder d tx s).bind (fun q1 => some (((Int32.ofNat (qTn ((tx + 10) - 110))) >>> (q1.1 &&& 31)), q1.2))) := by
  rcases hc with rfl | rfl | rfl | rfl | rfl | rfl | rfl | rfl | rfl | rfl
  · exact (d_step (t := (6, [some (.ref 100)], [(.ref 100), (.int (Int32.ofNat (qTn ((100 + 10) - 110))))], s)) 4 rfl
     (d_callI (o := (m_coder d 100 s)) rfl rfl (fun q1 =>
     d_step (t := (10, [some (.ref 100)], [(.int ((Int32.ofNat (qTn ((100 + 10) - 110))) >>> (q1.1 &&& 31)))], q1.2)) 1 rfl
     (d_ret (k := 0) rfl rfl))))
  · exact (d_step (t := (6, [some (.ref 101)], [(.ref 101), (.int (Int32.ofNat (qTn ((101 + 10) - 110))))], s)) 4 rfl
     (d_callI (o := (m_coder d 101 s)) rfl rfl (fun q1 =>
     d_step (t := (10, [some (.ref 101)], [(.int ((Int32.ofNat (qTn ((101 + 10) - 110))) >>> (q1.1 &&& 31)))], q1.2)) 1 rfl
     (d_ret (k := 0) rfl rfl))))
  · exact (d_step (t := (6, [some (.ref 102)], [(.ref 102), (.int (Int32.ofNat (qTn ((102 + 10) - 110))))], s)) 4 rfl
     (d_callI (o := (m_coder d 102 s)) rfl rfl (fun q1 =>
     d_step (t := (10, [some (.ref 102)], [(.int ((Int32.ofNat (qTn ((102 + 10) - 110))) >>> (q1.1 &&& 31)))], q1.2)) 1 rfl
     (d_ret (k := 0) rfl rfl))))
  · exact (d_step (t := (6, [some (.ref 103)], [(.ref 103), (.int (Int32.ofNat (qTn ((103 + 10) - 110))))], s)) 4 rfl
     (d_callI (o := (m_coder d 103 s)) rfl rfl (fun q1 =>
     d_step (t := (10, [some (.ref 103)], [(.int ((Int32.ofNat (qTn ((103 + 10) - 110))) >>> (q1.1 &&& 31)))], q1.2)) 1 rfl
     (d_ret (k := 0) rfl rfl))))
  · exact (d_step (t := (6, [some (.ref 104)], [(.ref 104), (.int (Int32.ofNat (qTn ((104 + 10) - 110))))], s)) 4 rfl
     (d_callI (o := (m_coder d 104 s)) rfl rfl (fun q1 =>
     d_step (t := (10, [some (.ref 104)], [(.int ((Int32.ofNat (qTn ((104 + 10) - 110))) >>> (q1.1 &&& 31)))], q1.2)) 1 rfl
     (d_ret (k := 0) rfl rfl))))
  · exact (d_step (t := (6, [some (.ref 105)], [(.ref 105), (.int (Int32.ofNat (qTn ((105 + 10) - 110))))], s)) 4 rfl
     (d_callI (o := (m_coder d 105 s)) rfl rfl (fun q1 =>
     d_step (t := (10, [some (.ref 105)], [(.int ((Int32.ofNat (qTn ((105 + 10) - 110))) >>> (q1.1 &&& 31)))], q1.2)) 1 rfl
     (d_ret (k := 0) rfl rfl))))
  · exact (d_step (t := (6, [some (.ref 106)], [(.ref 106), (.int (Int32.ofNat (qTn ((106 + 10) - 110))))], s)) 4 rfl
     (d_callI (o := (m_coder d 106 s)) rfl rfl (fun q1 =>
     d_step (t := (10, [some (.ref 106)], [(.int ((Int32.ofNat (qTn ((106 + 10) - 110))) >>> (q1.1 &&& 31)))], q1.2)) 1 rfl
     (d_ret (k := 0) rfl rfl))))
  · exact (d_step (t := (6, [some (.ref 107)], [(.ref 107), (.int (Int32.ofNat (qTn ((107 + 10) - 110))))], s)) 4 rfl
     (d_callI (o := (m_coder d 107 s)) rfl rfl (fun q1 =>
     d_step (t := (10, [some (.ref 107)], [(.int ((Int32.ofNat (qTn ((107 + 10) - 110))) >>> (q1.1 &&& 31)))], q1.2)) 1 rfl
     (d_ret (k := 0) rfl rfl))))
  · exact (d_step (t := (6, [some (.ref 108)], [(.ref 108), (.int (Int32.ofNat (qTn ((108 + 10) - 110))))], s)) 4 rfl
     (d_callI (o := (m_coder d 108 s)) rfl rfl (fun q1 =>
     d_step (t := (10, [some (.ref 108)], [(.int ((Int32.ofNat (qTn ((108 + 10) - 110))) >>> (q1.1 &&& 31)))], q1.2)) 1 rfl
     (d_ret (k := 0) rfl rfl))))
  · exact (d_step (t := (6, [some (.ref 109)], [(.ref 109), (.int (Int32.ofNat (qTn ((109 + 10) - 110))))], s)) 4 rfl
     (d_callI (o := (m_coder d 109 s)) rfl rfl (fun q1 =>
     d_step (t := (10, [some (.ref 109)], [(.int ((Int32.ofNat (qTn ((109 + 10) - 110))) >>> (q1.1 &&& 31)))], q1.2)) 1 rfl
     (d_ret (k := 0) rfl rfl))))
