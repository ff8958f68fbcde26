/-! equations, by program -/
noncomputable def m_S_isPosition (d : Nat) (p : Int32) (s : qMem) : Option (Int32 × qMem) := qI (qCall qMT d 22 [.int p] s)
set_option maxRecDepth 20000 in
theorem e_S_isPosition (d : Nat) (p : Int32) (s : qMem) : m_S_isPosition (d + 1) p s = (if p < 0 then some (0, s) else (if 3125 ≤ p then some (0, s) else some (1, s))) := d_step (t := (1, [some (.int p)], [(.int p)], s)) 1 rfl
   (d_if (a := (15, [some (.int p)], [], s)) (b := (4, [some (.int p)], [], s)) rfl rfl
   (d_step (t := (16, [some (.int p)], [(.int 0)], s)) 1 rfl
   (d_ret (k := 0) rfl rfl))
   (d_step (t := (8, [some (.int p)], [(.int 3125), (.int p)], s)) 2 rfl
   (d_if (a := (15, [some (.int p)], [], s)) (b := (11, [some (.int p)], [], s)) rfl rfl
   (d_step (t := (16, [some (.int p)], [(.int 0)], s)) 1 rfl
   (d_ret (k := 0) rfl rfl))
   (d_step (t := (16, [some (.int p)], [(.int 1)], s)) 2 rfl
   (d_ret (k := 0) rfl rfl)))))
noncomputable def m_S_isNew (d : Nat) (p : Int32) (s : qMem) : Option (Int32 × qMem) := qI (qCall qMT d 20 [.ref 26, .int p] s)
set_option maxRecDepth 20000 in
theorem e_S_isNew (d : Nat) (p : Int32) (s : qMem) : m_S_isNew (d + 1) p s = ((m_S_isPosition d p s).bind (fun q1 => (if q1.1 = 0 then some (0, q1.2) else (if qIn p 3125 then (if ((q1.2).1 27 (p).toNatClampNeg) = (-1) then some (1, q1.2) else some (0, q1.2)) else none)))) := d_step (t := (1, [some (.ref 26), some (.int p)], [(.int p)], s)) 1 rfl
   (d_callI (o := (m_S_isPosition d p s)) rfl rfl (fun q1 =>
   d_if (a := (21, [some (.ref 26), some (.int p)], [], q1.2)) (b := (7, [some (.ref 26), some (.int p)], [], q1.2)) rfl rfl
   (d_step (t := (22, [some (.ref 26), some (.int p)], [(.int 0)], q1.2)) 1 rfl
   (d_ret (k := 0) rfl rfl))
   (d_step (t := (12, [some (.ref 26), some (.int p)], [(.int p), (.ref 27)], q1.2)) 3 rfl
   (d_chk (a := (13, [some (.ref 26), some (.int p)], [(.int ((q1.2).1 27 (p).toNatClampNeg))], q1.2)) rfl rfl
   (d_step (t := (14, [some (.ref 26), some (.int p)], [(.int (-1)), (.int ((q1.2).1 27 (p).toNatClampNeg))], q1.2)) 1 rfl
   (d_if (a := (17, [some (.ref 26), some (.int p)], [], q1.2)) (b := (21, [some (.ref 26), some (.int p)], [], q1.2)) rfl rfl
   (d_step (t := (22, [some (.ref 26), some (.int p)], [(.int 1)], q1.2)) 2 rfl
   (d_ret (k := 0) rfl rfl))
   (d_step (t := (22, [some (.ref 26), some (.int p)], [(.int 0)], q1.2)) 1 rfl
   (d_ret (k := 0) rfl rfl))))))))
noncomputable def m_S_awayOf (d : Nat) (p : Int32) (s : qMem) : Option (Int32 × qMem) := qI (qCall qMT d 23 [.ref 26, .int p] s)
set_option maxRecDepth 20000 in
theorem e_S_awayOf (d : Nat) (p : Int32) (s : qMem) : m_S_awayOf (d + 1) p s = ((m_S_isPosition d p s).bind (fun q1 => (if q1.1 = 0 then some ((-1), q1.2) else (if qIn p 3125 then some (((q1.2).1 27 (p).toNatClampNeg), q1.2) else none)))) := d_step (t := (1, [some (.ref 26), some (.int p)], [(.int p)], s)) 1 rfl
   (d_callI (o := (m_S_isPosition d p s)) rfl rfl (fun q1 =>
   d_if (a := (16, [some (.ref 26), some (.int p)], [], q1.2)) (b := (7, [some (.ref 26), some (.int p)], [], q1.2)) rfl rfl
   (d_step (t := (17, [some (.ref 26), some (.int p)], [(.int (-1))], q1.2)) 1 rfl
   (d_ret (k := 0) rfl rfl))
   (d_step (t := (12, [some (.ref 26), some (.int p)], [(.int p), (.ref 27)], q1.2)) 3 rfl
   (d_chk (a := (13, [some (.ref 26), some (.int p)], [(.int ((q1.2).1 27 (p).toNatClampNeg))], q1.2)) rfl rfl
   (d_step (t := (17, [some (.ref 26), some (.int p)], [(.int ((q1.2).1 27 (p).toNatClampNeg))], q1.2)) 1 rfl
   (d_ret (k := 0) rfl rfl))))))
noncomputable def m_S_aheadOf (d : Nat) (p : Int32) (s : qMem) : Option (Int32 × qMem) := qI (qCall qMT d 24 [.ref 26, .int p] s)
set_option maxRecDepth 20000 in
theorem e_S_aheadOf (d : Nat) (p : Int32) (s : qMem) : m_S_aheadOf (d + 1) p s = ((m_S_isPosition d p s).bind (fun q1 => (if q1.1 = 0 then some ((-1), q1.2) else (if qIn p 3125 then some (((q1.2).1 28 (p).toNatClampNeg), q1.2) else none)))) := d_step (t := (1, [some (.ref 26), some (.int p)], [(.int p)], s)) 1 rfl
   (d_callI (o := (m_S_isPosition d p s)) rfl rfl (fun q1 =>
   d_if (a := (16, [some (.ref 26), some (.int p)], [], q1.2)) (b := (7, [some (.ref 26), some (.int p)], [], q1.2)) rfl rfl
   (d_step (t := (17, [some (.ref 26), some (.int p)], [(.int (-1))], q1.2)) 1 rfl
   (d_ret (k := 0) rfl rfl))
   (d_step (t := (12, [some (.ref 26), some (.int p)], [(.int p), (.ref 28)], q1.2)) 3 rfl
   (d_chk (a := (13, [some (.ref 26), some (.int p)], [(.int ((q1.2).1 28 (p).toNatClampNeg))], q1.2)) rfl rfl
   (d_step (t := (17, [some (.ref 26), some (.int p)], [(.int ((q1.2).1 28 (p).toNatClampNeg))], q1.2)) 1 rfl
   (d_ret (k := 0) rfl rfl))))))
noncomputable def m_S_unfold (d : Nat) (p : Int32) (s : qMem) : Option (qMem) := qV (qCall qMT d 25 [.ref 26, .int p] s)
noncomputable def l_S_unfold_1 (d : Nat)  (x2 : Int32) (x3 : Int32) (s : qMem) : Option (qMem) := qV (qK qMT d 25 (4, [some (.ref 26), none, some (.int x2), some (.int x3)], [], s))
set_option maxRecDepth 20000 in
theorem e_S_unfold (d : Nat) (p : Int32) (s : qMem) : m_S_unfold (d + 1) p s = (l_S_unfold_1 d p 0 s) := d_step (t := (4, [some (.ref 26), some (.int p), some (.int p), some (.int 0)], [], s)) 4 rfl
   (d_lab (x2 := (4, [some (.ref 26), none, some (.int p), some (.int 0)], [], s)) rfl rfl rfl)
set_option maxRecDepth 20000 in
theorem el_S_unfold_1 (d : Nat)  (x2 : Int32) (x3 : Int32) (s : qMem) : l_S_unfold_1 d x2 x3 s = (if 5 ≤ x3 then some s else (if qIn x3 5 then (l_S_unfold_1 d (x2 / 5) (x3 + 1) (qW s 30 (x3).toNatClampNeg (x2 - x2 / 5 * 5))) else none)) := d_step (t := (6, [some (.ref 26), none, some (.int x2), some (.int x3)], [(.int 5), (.int x3)], s)) 2 rfl
   (d_if (a := (28, [some (.ref 26), none, some (.int x2), some (.int x3)], [], s)) (b := (9, [some (.ref 26), none, some (.int x2), some (.int x3)], [], s)) rfl rfl
   (d_ret (k := 2) rfl rfl)
   (d_step (t := (17, [some (.ref 26), none, some (.int x2), some (.int x3)], [(.int (x2 - x2 / 5 * 5)), (.int x3), (.ref 30)], s)) 6 rfl
   (d_chk (a := (18, [some (.ref 26), none, some (.int x2), some (.int x3)], [], (qW s 30 (x3).toNatClampNeg (x2 - x2 / 5 * 5)))) rfl rfl
   (d_step (t := (4, [some (.ref 26), none, some (.int (x2 / 5)), some (.int (x3 + 1))], [], (qW s 30 (x3).toNatClampNeg (x2 - x2 / 5 * 5)))) 6 rfl
   (d_lab (x2 := (4, [some (.ref 26), none, some (.int (x2 / 5)), some (.int (x3 + 1))], [], (qW s 30 (x3).toNatClampNeg (x2 - x2 / 5 * 5)))) rfl rfl rfl)))))
noncomputable def m_S_reach (d : Nat) (p : Int32) (f : Int32) (m : Int32) (s : qMem) : Option (qMem) := qV (qCall qMT d 21 [.ref 26, .int p, .int f, .int m] s)
set_option maxRecDepth 20000 in
theorem e_S_reach (d : Nat) (p : Int32) (f : Int32) (m : Int32) (s : qMem) : m_S_reach (d + 1) p f m s = ((m_S_isNew d p s).bind (fun q1 => (if q1.1 = 0 then some q1.2 else (if 3125 ≤ ((q1.2).1 26 3) then some q1.2 else (if qIn p 3125 then (if qIn p 3125 then (if qIn ((q1.2).1 26 3) 3125 then some (qW (qW (qW (qW q1.2 27 (p).toNatClampNeg m) 28 (p).toNatClampNeg f) 29 (((q1.2).1 26 3)).toNatClampNeg p) 26 3 (((q1.2).1 26 3) + 1)) else none) else none) else none))))) := d_step (t := (2, [some (.ref 26), some (.int p), some (.int f), some (.int m)], [(.int p), (.ref 26)], s)) 2 rfl
   (d_callI (o := (m_S_isNew d p s)) rfl rfl (fun q1 =>
   d_if (a := (52, [some (.ref 26), some (.int p), some (.int f), some (.int m)], [], q1.2)) (b := (8, [some (.ref 26), some (.int p), some (.int f), some (.int m)], [], q1.2)) rfl rfl
   (d_ret (k := 2) rfl rfl)
   (d_step (t := (15, [some (.ref 26), some (.int p), some (.int f), some (.int m)], [(.int 3125), (.int ((q1.2).1 26 3))], q1.2)) 3 rfl
   (d_if (a := (52, [some (.ref 26), some (.int p), some (.int f), some (.int m)], [], q1.2)) (b := (18, [some (.ref 26), some (.int p), some (.int f), some (.int m)], [], q1.2)) rfl rfl
   (d_ret (k := 2) rfl rfl)
   (d_step (t := (24, [some (.ref 26), some (.int p), some (.int f), some (.int m)], [(.int m), (.int p), (.ref 27)], q1.2)) 4 rfl
   (d_chk (a := (25, [some (.ref 26), some (.int p), some (.int f), some (.int m)], [], (qW q1.2 27 (p).toNatClampNeg m))) rfl rfl
   (d_step (t := (31, [some (.ref 26), some (.int p), some (.int f), some (.int m)], [(.int f), (.int p), (.ref 28)], (qW q1.2 27 (p).toNatClampNeg m))) 4 rfl
   (d_chk (a := (32, [some (.ref 26), some (.int p), some (.int f), some (.int m)], [], (qW (qW q1.2 27 (p).toNatClampNeg m) 28 (p).toNatClampNeg f))) rfl rfl
   (d_step (t := (41, [some (.ref 26), some (.int p), some (.int f), some (.int m)], [(.int p), (.int ((q1.2).1 26 3)), (.ref 29)], (qW (qW q1.2 27 (p).toNatClampNeg m) 28 (p).toNatClampNeg f))) 5 rfl
   (d_chk (a := (42, [some (.ref 26), some (.int p), some (.int f), some (.int m)], [], (qW (qW (qW q1.2 27 (p).toNatClampNeg m) 28 (p).toNatClampNeg f) 29 (((q1.2).1 26 3)).toNatClampNeg p))) rfl rfl
   (d_step (t := (52, [some (.ref 26), some (.int p), some (.int f), some (.int m)], [], (qW (qW (qW (qW q1.2 27 (p).toNatClampNeg m) 28 (p).toNatClampNeg f) 29 (((q1.2).1 26 3)).toNatClampNeg p) 26 3 (((q1.2).1 26 3) + 1)))) 6 rfl
   (d_ret (k := 2) rfl rfl))))))))))))
noncomputable def m_S_forget (d : Nat)  (s : qMem) : Option (qMem) := qV (qCall qMT d 19 [.ref 26] s)
noncomputable def l_S_forget_1 (d : Nat)  (x1 : Int32) (s : qMem) : Option (qMem) := qV (qK qMT d 19 (2, [some (.ref 26), some (.int x1)], [], s))
set_option maxRecDepth 20000 in
theorem e_S_forget (d : Nat)  (s : qMem) : m_S_forget (d + 1) s = (l_S_forget_1 d 0 s) := d_step (t := (2, [some (.ref 26), some (.int 0)], [], s)) 2 rfl
   (rfl)
set_option maxRecDepth 20000 in
theorem el_S_forget_1 (d : Nat)  (x1 : Int32) (s : qMem) : l_S_forget_1 d x1 s = (if ((s).1 26 3) ≤ x1 then some (qW s 26 3 0) else (if 3125 ≤ x1 then some (qW s 26 3 0) else (if qIn x1 3125 then ((m_S_isPosition d ((s).1 29 (x1).toNatClampNeg) s).bind (fun q1 => (if q1.1 = 0 then (l_S_forget_1 d (x1 + 1) q1.2) else (if qIn x1 3125 then (if qIn ((q1.2).1 29 (x1).toNatClampNeg) 3125 then (l_S_forget_1 d (x1 + 1) (qW q1.2 27 (((q1.2).1 29 (x1).toNatClampNeg)).toNatClampNeg (-1))) else none) else none)))) else none))) := d_step (t := (7, [some (.ref 26), some (.int x1)], [(.int ((s).1 26 3)), (.int x1)], s)) 3 rfl
   (d_if (a := (47, [some (.ref 26), some (.int x1)], [], s)) (b := (10, [some (.ref 26), some (.int x1)], [], s)) rfl rfl
   (d_step (t := (52, [some (.ref 26), some (.int x1)], [], (qW s 26 3 0))) 3 rfl
   (d_ret (k := 2) rfl rfl))
   (d_step (t := (14, [some (.ref 26), some (.int x1)], [(.int 3125), (.int x1)], s)) 2 rfl
   (d_if (a := (47, [some (.ref 26), some (.int x1)], [], s)) (b := (17, [some (.ref 26), some (.int x1)], [], s)) rfl rfl
   (d_step (t := (52, [some (.ref 26), some (.int x1)], [], (qW s 26 3 0))) 3 rfl
   (d_ret (k := 2) rfl rfl))
   (d_step (t := (22, [some (.ref 26), some (.int x1)], [(.int x1), (.ref 29)], s)) 3 rfl
   (d_chk (a := (23, [some (.ref 26), some (.int x1)], [(.int ((s).1 29 (x1).toNatClampNeg))], s)) rfl rfl
   (d_callI (o := (m_S_isPosition d ((s).1 29 (x1).toNatClampNeg) s)) rfl rfl (fun q1 =>
   d_if (a := (41, [some (.ref 26), some (.int x1)], [], q1.2)) (b := (29, [some (.ref 26), some (.int x1)], [], q1.2)) rfl rfl
   (d_step (t := (2, [some (.ref 26), some (.int (x1 + 1))], [], q1.2)) 2 rfl
   (rfl))
   (d_step (t := (38, [some (.ref 26), some (.int x1)], [(.int x1), (.ref 29), (.ref 27)], q1.2)) 5 rfl
   (d_chk (a := (39, [some (.ref 26), some (.int x1)], [(.int ((q1.2).1 29 (x1).toNatClampNeg)), (.ref 27)], q1.2)) rfl rfl
   (d_step (t := (40, [some (.ref 26), some (.int x1)], [(.int (-1)), (.int ((q1.2).1 29 (x1).toNatClampNeg)), (.ref 27)], q1.2)) 1 rfl
   (d_chk (a := (41, [some (.ref 26), some (.int x1)], [], (qW q1.2 27 (((q1.2).1 29 (x1).toNatClampNeg)).toNatClampNeg (-1)))) rfl rfl
   (d_step (t := (2, [some (.ref 26), some (.int (x1 + 1))], [], (qW q1.2 27 (((q1.2).1 29 (x1).toNatClampNeg)).toNatClampNeg (-1)))) 2 rfl
   (rfl)))))))))))))
noncomputable def m_S_begin (d : Nat) (tt : Nat) (rr : Nat) (s : qMem) : Option (qMem) := qV (qCall qMT d 18 [.ref 26, .ref tt, .ref rr] s)
noncomputable def l_S_begin_1 (d : Nat) (tt : Nat) (rr : Nat) (x3 : Int32) (x4 : Int32) (s : qMem) : Option (qMem) := qV (qK qMT d 18 (14, [some (.ref 26), some (.ref tt), some (.ref rr), some (.int x3), some (.int x4)], [], s))
set_option maxRecDepth 20000 in
theorem e_S_begin (d : Nat) (tt : Nat) (rr : Nat) (hc : (tt = 1 ∧ rr = 23) ∨ (tt = 10 ∧ rr = 23) ∨ (tt = 10 ∧ rr = 18)) (s : qMem) : m_S_begin (d + 1) tt rr s = ((m_S_forget d s).bind (fun q1 => (l_S_begin_1 d tt rr 0 0 (qW q1 26 4 0)))) := by
  rcases hc with ⟨rfl, rfl⟩ | ⟨rfl, rfl⟩ | ⟨rfl, rfl⟩
  · exact (d_step (t := (1, [some (.ref 26), some (.ref 1), some (.ref 23), none, none], [(.ref 26)], s)) 1 rfl
     (d_callV (o := (m_S_forget d s)) rfl rfl (fun q1 =>
     d_step (t := (14, [some (.ref 26), some (.ref 1), some (.ref 23), some (.int 0), some (.int 0)], [], (qW q1 26 4 0))) 7 rfl
     (rfl))))
  · exact (d_step (t := (1, [some (.ref 26), some (.ref 10), some (.ref 23), none, none], [(.ref 26)], s)) 1 rfl
     (d_callV (o := (m_S_forget d s)) rfl rfl (fun q1 =>
     d_step (t := (14, [some (.ref 26), some (.ref 10), some (.ref 23), some (.int 0), some (.int 0)], [], (qW q1 26 4 0))) 7 rfl
     (rfl))))
  · exact (d_step (t := (1, [some (.ref 26), some (.ref 10), some (.ref 18), none, none], [(.ref 26)], s)) 1 rfl
     (d_callV (o := (m_S_forget d s)) rfl rfl (fun q1 =>
     d_step (t := (14, [some (.ref 26), some (.ref 10), some (.ref 18), some (.int 0), some (.int 0)], [], (qW q1 26 4 0))) 7 rfl
     (rfl))))
set_option maxRecDepth 20000 in
theorem el_S_begin_1 (d : Nat) (tt : Nat) (rr : Nat) (x3 : Int32) (x4 : Int32) (hc : (tt = 1 ∧ rr = 23) ∨ (tt = 10 ∧ rr = 23) ∨ (tt = 10 ∧ rr = 18)) (s : qMem) : l_S_begin_1 d tt rr x3 x4 s = (if ((s).1 tt 1) ≤ x4 then ((m_S_reach d x3 (-1) 0 s).bind (fun q1 => some q1)) else (if 5 ≤ x4 then ((m_S_reach d x3 (-1) 0 s).bind (fun q2 => some q2)) else (if qIn x4 5 then (if qIn x4 5 then ((m_T_goes d tt x4 s).bind (fun q3 => (if q3.1 = 0 then (if qIn x4 5 then (if qIn x4 5 then (l_S_begin_1 d tt rr (x3 + (((s).1 rr (x4).toNatClampNeg) * (qKon qPV (x4).toNatClampNeg))) (x4 + 1) (qW q3.2 26 4 (((s).1 26 4) + (((q3.2).1 rr (x4).toNatClampNeg) * (qKon qPV (x4).toNatClampNeg))))) else none) else none) else (if qIn x4 5 then (l_S_begin_1 d tt rr (x3 + (((s).1 rr (x4).toNatClampNeg) * (qKon qPV (x4).toNatClampNeg))) (x4 + 1) (qW q3.2 26 4 (((s).1 26 4) + (((q3.2).1 tt 0) * (qKon qPV (x4).toNatClampNeg))))) else none)))) else none) else none))) := by
  rcases hc with ⟨rfl, rfl⟩ | ⟨rfl, rfl⟩ | ⟨rfl, rfl⟩
  · exact (d_step (t := (20, [some (.ref 26), some (.ref 1), some (.ref 23), some (.int x3), some (.int x4)], [(.int ((s).1 1 1)), (.int x4)], s)) 3 rfl
     (d_if (a := (85, [some (.ref 26), some (.ref 1), some (.ref 23), some (.int x3), some (.int x4)], [], s)) (b := (23, [some (.ref 26), some (.ref 1), some (.ref 23), some (.int x3), some (.int x4)], [], s)) rfl rfl
     (d_step (t := (89, [some (.ref 26), some (.ref 1), some (.ref 23), some (.int x3), some (.int x4)], [(.int 0), (.int (-1)), (.int x3), (.ref 26)], s)) 4 rfl
     (d_callV (o := (m_S_reach d x3 (-1) 0 s)) rfl rfl (fun q1 =>
     d_ret (k := 2) rfl rfl)))
     (d_step (t := (26, [some (.ref 26), some (.ref 1), some (.ref 23), some (.int x3), some (.int x4)], [(.int 5), (.int x4)], s)) 2 rfl
     (d_if (a := (85, [some (.ref 26), some (.ref 1), some (.ref 23), some (.int x3), some (.int x4)], [], s)) (b := (29, [some (.ref 26), some (.ref 1), some (.ref 23), some (.int x3), some (.int x4)], [], s)) rfl rfl
     (d_step (t := (89, [some (.ref 26), some (.ref 1), some (.ref 23), some (.int x3), some (.int x4)], [(.int 0), (.int (-1)), (.int x3), (.ref 26)], s)) 4 rfl
     (d_callV (o := (m_S_reach d x3 (-1) 0 s)) rfl rfl (fun q2 =>
     d_ret (k := 2) rfl rfl)))
     (d_step (t := (33, [some (.ref 26), some (.ref 1), some (.ref 23), some (.int x3), some (.int x4)], [(.int x4), (.ref 23), (.int x3)], s)) 3 rfl
     (d_chk (a := (34, [some (.ref 26), some (.ref 1), some (.ref 23), some (.int x3), some (.int x4)], [(.int ((s).1 23 (x4).toNatClampNeg)), (.int x3)], s)) rfl rfl
     (d_step (t := (39, [some (.ref 26), some (.ref 1), some (.ref 23), some (.int x3), some (.int x4)], [(.int x4), (.ref 61), (.int ((s).1 23 (x4).toNatClampNeg)), (.int x3)], s)) 2 rfl
     (d_chk (a := (40, [some (.ref 26), some (.ref 1), some (.ref 23), some (.int x3), some (.int x4)], [(.int (qKon qPV (x4).toNatClampNeg)), (.int ((s).1 23 (x4).toNatClampNeg)), (.int x3)], s)) rfl rfl
     (d_step (t := (51, [some (.ref 26), some (.ref 1), some (.ref 23), some (.int (x3 + (((s).1 23 (x4).toNatClampNeg) * (qKon qPV (x4).toNatClampNeg)))), some (.int x4)], [(.int x4), (.ref 1), (.int ((s).1 26 4)), (.ref 26)], s)) 8 rfl
     (d_callI (o := (m_T_goes d 1 x4 s)) rfl rfl (fun q3 =>
     d_if (a := (64, [some (.ref 26), some (.ref 1), some (.ref 23), some (.int (x3 + (((s).1 23 (x4).toNatClampNeg) * (qKon qPV (x4).toNatClampNeg)))), some (.int x4)], [(.int ((s).1 26 4)), (.ref 26)], q3.2)) (b := (57, [some (.ref 26), some (.ref 1), some (.ref 23), some (.int (x3 + (((s).1 23 (x4).toNatClampNeg) * (qKon qPV (x4).toNatClampNeg)))), some (.int x4)], [(.int ((s).1 26 4)), (.ref 26)], q3.2)) rfl rfl
     (d_step (t := (67, [some (.ref 26), some (.ref 1), some (.ref 23), some (.int (x3 + (((s).1 23 (x4).toNatClampNeg) * (qKon qPV (x4).toNatClampNeg)))), some (.int x4)], [(.int x4), (.ref 23), (.int ((s).1 26 4)), (.ref 26)], q3.2)) 2 rfl
     (d_chk (a := (68, [some (.ref 26), some (.ref 1), some (.ref 23), some (.int (x3 + (((s).1 23 (x4).toNatClampNeg) * (qKon qPV (x4).toNatClampNeg)))), some (.int x4)], [(.int ((q3.2).1 23 (x4).toNatClampNeg)), (.int ((s).1 26 4)), (.ref 26)], q3.2)) rfl rfl
     (d_step (t := (73, [some (.ref 26), some (.ref 1), some (.ref 23), some (.int (x3 + (((s).1 23 (x4).toNatClampNeg) * (qKon qPV (x4).toNatClampNeg)))), some (.int x4)], [(.int x4), (.ref 61), (.int ((q3.2).1 23 (x4).toNatClampNeg)), (.int ((s).1 26 4)), (.ref 26)], q3.2)) 2 rfl
     (d_chk (a := (74, [some (.ref 26), some (.ref 1), some (.ref 23), some (.int (x3 + (((s).1 23 (x4).toNatClampNeg) * (qKon qPV (x4).toNatClampNeg)))), some (.int x4)], [(.int (qKon qPV (x4).toNatClampNeg)), (.int ((q3.2).1 23 (x4).toNatClampNeg)), (.int ((s).1 26 4)), (.ref 26)], q3.2)) rfl rfl
     (d_step (t := (14, [some (.ref 26), some (.ref 1), some (.ref 23), some (.int (x3 + (((s).1 23 (x4).toNatClampNeg) * (qKon qPV (x4).toNatClampNeg)))), some (.int (x4 + 1))], [], (qW q3.2 26 4 (((s).1 26 4) + (((q3.2).1 23 (x4).toNatClampNeg) * (qKon qPV (x4).toNatClampNeg)))))) 5 rfl
     (rfl))))))
     (d_step (t := (73, [some (.ref 26), some (.ref 1), some (.ref 23), some (.int (x3 + (((s).1 23 (x4).toNatClampNeg) * (qKon qPV (x4).toNatClampNeg)))), some (.int x4)], [(.int x4), (.ref 61), (.int ((q3.2).1 1 0)), (.int ((s).1 26 4)), (.ref 26)], q3.2)) 5 rfl
     (d_chk (a := (74, [some (.ref 26), some (.ref 1), some (.ref 23), some (.int (x3 + (((s).1 23 (x4).toNatClampNeg) * (qKon qPV (x4).toNatClampNeg)))), some (.int x4)], [(.int (qKon qPV (x4).toNatClampNeg)), (.int ((q3.2).1 1 0)), (.int ((s).1 26 4)), (.ref 26)], q3.2)) rfl rfl
     (d_step (t := (14, [some (.ref 26), some (.ref 1), some (.ref 23), some (.int (x3 + (((s).1 23 (x4).toNatClampNeg) * (qKon qPV (x4).toNatClampNeg)))), some (.int (x4 + 1))], [], (qW q3.2 26 4 (((s).1 26 4) + (((q3.2).1 1 0) * (qKon qPV (x4).toNatClampNeg)))))) 5 rfl
     (rfl)))))))))))))))
  · exact (d_step (t := (20, [some (.ref 26), some (.ref 10), some (.ref 23), some (.int x3), some (.int x4)], [(.int ((s).1 10 1)), (.int x4)], s)) 3 rfl
     (d_if (a := (85, [some (.ref 26), some (.ref 10), some (.ref 23), some (.int x3), some (.int x4)], [], s)) (b := (23, [some (.ref 26), some (.ref 10), some (.ref 23), some (.int x3), some (.int x4)], [], s)) rfl rfl
     (d_step (t := (89, [some (.ref 26), some (.ref 10), some (.ref 23), some (.int x3), some (.int x4)], [(.int 0), (.int (-1)), (.int x3), (.ref 26)], s)) 4 rfl
     (d_callV (o := (m_S_reach d x3 (-1) 0 s)) rfl rfl (fun q1 =>
     d_ret (k := 2) rfl rfl)))
     (d_step (t := (26, [some (.ref 26), some (.ref 10), some (.ref 23), some (.int x3), some (.int x4)], [(.int 5), (.int x4)], s)) 2 rfl
     (d_if (a := (85, [some (.ref 26), some (.ref 10), some (.ref 23), some (.int x3), some (.int x4)], [], s)) (b := (29, [some (.ref 26), some (.ref 10), some (.ref 23), some (.int x3), some (.int x4)], [], s)) rfl rfl
     (d_step (t := (89, [some (.ref 26), some (.ref 10), some (.ref 23), some (.int x3), some (.int x4)], [(.int 0), (.int (-1)), (.int x3), (.ref 26)], s)) 4 rfl
     (d_callV (o := (m_S_reach d x3 (-1) 0 s)) rfl rfl (fun q2 =>
     d_ret (k := 2) rfl rfl)))
     (d_step (t := (33, [some (.ref 26), some (.ref 10), some (.ref 23), some (.int x3), some (.int x4)], [(.int x4), (.ref 23), (.int x3)], s)) 3 rfl
     (d_chk (a := (34, [some (.ref 26), some (.ref 10), some (.ref 23), some (.int x3), some (.int x4)], [(.int ((s).1 23 (x4).toNatClampNeg)), (.int x3)], s)) rfl rfl
     (d_step (t := (39, [some (.ref 26), some (.ref 10), some (.ref 23), some (.int x3), some (.int x4)], [(.int x4), (.ref 61), (.int ((s).1 23 (x4).toNatClampNeg)), (.int x3)], s)) 2 rfl
     (d_chk (a := (40, [some (.ref 26), some (.ref 10), some (.ref 23), some (.int x3), some (.int x4)], [(.int (qKon qPV (x4).toNatClampNeg)), (.int ((s).1 23 (x4).toNatClampNeg)), (.int x3)], s)) rfl rfl
     (d_step (t := (51, [some (.ref 26), some (.ref 10), some (.ref 23), some (.int (x3 + (((s).1 23 (x4).toNatClampNeg) * (qKon qPV (x4).toNatClampNeg)))), some (.int x4)], [(.int x4), (.ref 10), (.int ((s).1 26 4)), (.ref 26)], s)) 8 rfl
     (d_callI (o := (m_T_goes d 10 x4 s)) rfl rfl (fun q3 =>
     d_if (a := (64, [some (.ref 26), some (.ref 10), some (.ref 23), some (.int (x3 + (((s).1 23 (x4).toNatClampNeg) * (qKon qPV (x4).toNatClampNeg)))), some (.int x4)], [(.int ((s).1 26 4)), (.ref 26)], q3.2)) (b := (57, [some (.ref 26), some (.ref 10), some (.ref 23), some (.int (x3 + (((s).1 23 (x4).toNatClampNeg) * (qKon qPV (x4).toNatClampNeg)))), some (.int x4)], [(.int ((s).1 26 4)), (.ref 26)], q3.2)) rfl rfl
     (d_step (t := (67, [some (.ref 26), some (.ref 10), some (.ref 23), some (.int (x3 + (((s).1 23 (x4).toNatClampNeg) * (qKon qPV (x4).toNatClampNeg)))), some (.int x4)], [(.int x4), (.ref 23), (.int ((s).1 26 4)), (.ref 26)], q3.2)) 2 rfl
     (d_chk (a := (68, [some (.ref 26), some (.ref 10), some (.ref 23), some (.int (x3 + (((s).1 23 (x4).toNatClampNeg) * (qKon qPV (x4).toNatClampNeg)))), some (.int x4)], [(.int ((q3.2).1 23 (x4).toNatClampNeg)), (.int ((s).1 26 4)), (.ref 26)], q3.2)) rfl rfl
     (d_step (t := (73, [some (.ref 26), some (.ref 10), some (.ref 23), some (.int (x3 + (((s).1 23 (x4).toNatClampNeg) * (qKon qPV (x4).toNatClampNeg)))), some (.int x4)], [(.int x4), (.ref 61), (.int ((q3.2).1 23 (x4).toNatClampNeg)), (.int ((s).1 26 4)), (.ref 26)], q3.2)) 2 rfl
     (d_chk (a := (74, [some (.ref 26), some (.ref 10), some (.ref 23), some (.int (x3 + (((s).1 23 (x4).toNatClampNeg) * (qKon qPV (x4).toNatClampNeg)))), some (.int x4)], [(.int (qKon qPV (x4).toNatClampNeg)), (.int ((q3.2).1 23 (x4).toNatClampNeg)), (.int ((s).1 26 4)), (.ref 26)], q3.2)) rfl rfl
     (d_step (t := (14, [some (.ref 26), some (.ref 10), some (.ref 23), some (.int (x3 + (((s).1 23 (x4).toNatClampNeg) * (qKon qPV (x4).toNatClampNeg)))), some (.int (x4 + 1))], [], (qW q3.2 26 4 (((s).1 26 4) + (((q3.2).1 23 (x4).toNatClampNeg) * (qKon qPV (x4).toNatClampNeg)))))) 5 rfl
     (rfl))))))
     (d_step (t := (73, [some (.ref 26), some (.ref 10), some (.ref 23), some (.int (x3 + (((s).1 23 (x4).toNatClampNeg) * (qKon qPV (x4).toNatClampNeg)))), some (.int x4)], [(.int x4), (.ref 61), (.int ((q3.2).1 10 0)), (.int ((s).1 26 4)), (.ref 26)], q3.2)) 5 rfl
     (d_chk (a := (74, [some (.ref 26), some (.ref 10), some (.ref 23), some (.int (x3 + (((s).1 23 (x4).toNatClampNeg) * (qKon qPV (x4).toNatClampNeg)))), some (.int x4)], [(.int (qKon qPV (x4).toNatClampNeg)), (.int ((q3.2).1 10 0)), (.int ((s).1 26 4)), (.ref 26)], q3.2)) rfl rfl
     (d_step (t := (14, [some (.ref 26), some (.ref 10), some (.ref 23), some (.int (x3 + (((s).1 23 (x4).toNatClampNeg) * (qKon qPV (x4).toNatClampNeg)))), some (.int (x4 + 1))], [], (qW q3.2 26 4 (((s).1 26 4) + (((q3.2).1 10 0) * (qKon qPV (x4).toNatClampNeg)))))) 5 rfl
     (rfl)))))))))))))))
  · exact (d_step (t := (20, [some (.ref 26), some (.ref 10), some (.ref 18), some (.int x3), some (.int x4)], [(.int ((s).1 10 1)), (.int x4)], s)) 3 rfl
     (d_if (a := (85, [some (.ref 26), some (.ref 10), some (.ref 18), some (.int x3), some (.int x4)], [], s)) (b := (23, [some (.ref 26), some (.ref 10), some (.ref 18), some (.int x3), some (.int x4)], [], s)) rfl rfl
     (d_step (t := (89, [some (.ref 26), some (.ref 10), some (.ref 18), some (.int x3), some (.int x4)], [(.int 0), (.int (-1)), (.int x3), (.ref 26)], s)) 4 rfl
     (d_callV (o := (m_S_reach d x3 (-1) 0 s)) rfl rfl (fun q1 =>
     d_ret (k := 2) rfl rfl)))
     (d_step (t := (26, [some (.ref 26), some (.ref 10), some (.ref 18), some (.int x3), some (.int x4)], [(.int 5), (.int x4)], s)) 2 rfl
     (d_if (a := (85, [some (.ref 26), some (.ref 10), some (.ref 18), some (.int x3), some (.int x4)], [], s)) (b := (29, [some (.ref 26), some (.ref 10), some (.ref 18), some (.int x3), some (.int x4)], [], s)) rfl rfl
     (d_step (t := (89, [some (.ref 26), some (.ref 10), some (.ref 18), some (.int x3), some (.int x4)], [(.int 0), (.int (-1)), (.int x3), (.ref 26)], s)) 4 rfl
     (d_callV (o := (m_S_reach d x3 (-1) 0 s)) rfl rfl (fun q2 =>
     d_ret (k := 2) rfl rfl)))
     (d_step (t := (33, [some (.ref 26), some (.ref 10), some (.ref 18), some (.int x3), some (.int x4)], [(.int x4), (.ref 18), (.int x3)], s)) 3 rfl
     (d_chk (a := (34, [some (.ref 26), some (.ref 10), some (.ref 18), some (.int x3), some (.int x4)], [(.int ((s).1 18 (x4).toNatClampNeg)), (.int x3)], s)) rfl rfl
     (d_step (t := (39, [some (.ref 26), some (.ref 10), some (.ref 18), some (.int x3), some (.int x4)], [(.int x4), (.ref 61), (.int ((s).1 18 (x4).toNatClampNeg)), (.int x3)], s)) 2 rfl
     (d_chk (a := (40, [some (.ref 26), some (.ref 10), some (.ref 18), some (.int x3), some (.int x4)], [(.int (qKon qPV (x4).toNatClampNeg)), (.int ((s).1 18 (x4).toNatClampNeg)), (.int x3)], s)) rfl rfl
     (d_step (t := (51, [some (.ref 26), some (.ref 10), some (.ref 18), some (.int (x3 + (((s).1 18 (x4).toNatClampNeg) * (qKon qPV (x4).toNatClampNeg)))), some (.int x4)], [(.int x4), (.ref 10), (.int ((s).1 26 4)), (.ref 26)], s)) 8 rfl
     (d_callI (o := (m_T_goes d 10 x4 s)) rfl rfl (fun q3 =>
     d_if (a := (64, [some (.ref 26), some (.ref 10), some (.ref 18), some (.int (x3 + (((s).1 18 (x4).toNatClampNeg) * (qKon qPV (x4).toNatClampNeg)))), some (.int x4)], [(.int ((s).1 26 4)), (.ref 26)], q3.2)) (b := (57, [some (.ref 26), some (.ref 10), some (.ref 18), some (.int (x3 + (((s).1 18 (x4).toNatClampNeg) * (qKon qPV (x4).toNatClampNeg)))), some (.int x4)], [(.int ((s).1 26 4)), (.ref 26)], q3.2)) rfl rfl
     (d_step (t := (67, [some (.ref 26), some (.ref 10), some (.ref 18), some (.int (x3 + (((s).1 18 (x4).toNatClampNeg) * (qKon qPV (x4).toNatClampNeg)))), some (.int x4)], [(.int x4), (.ref 18), (.int ((s).1 26 4)), (.ref 26)], q3.2)) 2 rfl
     (d_chk (a := (68, [some (.ref 26), some (.ref 10), some (.ref 18), some (.int (x3 + (((s).1 18 (x4).toNatClampNeg) * (qKon qPV (x4).toNatClampNeg)))), some (.int x4)], [(.int ((q3.2).1 18 (x4).toNatClampNeg)), (.int ((s).1 26 4)), (.ref 26)], q3.2)) rfl rfl
     (d_step (t := (73, [some (.ref 26), some (.ref 10), some (.ref 18), some (.int (x3 + (((s).1 18 (x4).toNatClampNeg) * (qKon qPV (x4).toNatClampNeg)))), some (.int x4)], [(.int x4), (.ref 61), (.int ((q3.2).1 18 (x4).toNatClampNeg)), (.int ((s).1 26 4)), (.ref 26)], q3.2)) 2 rfl
     (d_chk (a := (74, [some (.ref 26), some (.ref 10), some (.ref 18), some (.int (x3 + (((s).1 18 (x4).toNatClampNeg) * (qKon qPV (x4).toNatClampNeg)))), some (.int x4)], [(.int (qKon qPV (x4).toNatClampNeg)), (.int ((q3.2).1 18 (x4).toNatClampNeg)), (.int ((s).1 26 4)), (.ref 26)], q3.2)) rfl rfl
     (d_step (t := (14, [some (.ref 26), some (.ref 10), some (.ref 18), some (.int (x3 + (((s).1 18 (x4).toNatClampNeg) * (qKon qPV (x4).toNatClampNeg)))), some (.int (x4 + 1))], [], (qW q3.2 26 4 (((s).1 26 4) + (((q3.2).1 18 (x4).toNatClampNeg) * (qKon qPV (x4).toNatClampNeg)))))) 5 rfl
     (rfl))))))
     (d_step (t := (73, [some (.ref 26), some (.ref 10), some (.ref 18), some (.int (x3 + (((s).1 18 (x4).toNatClampNeg) * (qKon qPV (x4).toNatClampNeg)))), some (.int x4)], [(.int x4), (.ref 61), (.int ((q3.2).1 10 0)), (.int ((s).1 26 4)), (.ref 26)], q3.2)) 5 rfl
     (d_chk (a := (74, [some (.ref 26), some (.ref 10), some (.ref 18), some (.int (x3 + (((s).1 18 (x4).toNatClampNeg) * (qKon qPV (x4).toNatClampNeg)))), some (.int x4)], [(.int (qKon qPV (x4).toNatClampNeg)), (.int ((q3.2).1 10 0)), (.int ((s).1 26 4)), (.ref 26)], q3.2)) rfl rfl
     (d_step (t := (14, [some (.ref 26), some (.ref 10), some (.ref 18), some (.int (x3 + (((s).1 18 (x4).toNatClampNeg) * (qKon qPV (x4).toNatClampNeg)))), some (.int (x4 + 1))], [], (qW q3.2 26 4 (((s).1 26 4) + (((q3.2).1 10 0) * (qKon qPV (x4).toNatClampNeg)))))) 5 rfl
     (rfl)))))))))))))))
noncomputable def m_S_look (d : Nat) (tt : Nat) (rr : Nat) (s : qMem) : Option (qMem) := qV (qCall qMT d 17 [.ref 26, .ref tt, .ref rr] s)
noncomputable def l_S_look_1 (d : Nat) (tt : Nat) (rr : Nat) (x3 : Int32) (s : qMem) : Option (qMem) := qV (qK qMT d 17 (8, [some (.ref 26), some (.ref tt), none, some (.int x3), none, none, none, none, none], [], s))
noncomputable def l_S_look_2 (d : Nat) (tt : Nat) (rr : Nat) (x3 : Int32) (x4 : Int32) (x5 : Int32) (x6 : Int32) (s : qMem) : Option (qMem) := qV (qK qMT d 17 (50, [some (.ref 26), some (.ref tt), none, some (.int x3), some (.int x4), some (.int x5), some (.int x6), none, none], [], s))
noncomputable def l_S_look_3 (d : Nat) (tt : Nat) (rr : Nat) (x3 : Int32) (x4 : Int32) (x5 : Int32) (x6 : Int32) (s : qMem) : Option (qMem) := qV (qK qMT d 17 (109, [some (.ref 26), some (.ref tt), none, some (.int x3), some (.int x4), some (.int x5), some (.int x6), none, none], [], s))
set_option maxRecDepth 20000 in
theorem e_S_look (d : Nat) (tt : Nat) (rr : Nat) (hc : (tt = 1 ∧ rr = 23) ∨ (tt = 10 ∧ rr = 23) ∨ (tt = 10 ∧ rr = 18)) (s : qMem) : m_S_look (d + 1) tt rr s = ((m_S_begin d tt rr s).bind (fun q1 => (l_S_look_1 d tt rr 0 q1))) := by
  rcases hc with ⟨rfl, rfl⟩ | ⟨rfl, rfl⟩ | ⟨rfl, rfl⟩
  · exact (d_step (t := (3, [some (.ref 26), some (.ref 1), some (.ref 23), none, none, none, none, none, none], [(.ref 23), (.ref 1), (.ref 26)], s)) 3 rfl
     (d_callV (o := (m_S_begin d 1 23 s)) rfl rfl (fun q1 =>
     d_step (t := (8, [some (.ref 26), some (.ref 1), some (.ref 23), some (.int 0), none, none, none, none, none], [], q1)) 2 rfl
     (d_lab (x2 := (8, [some (.ref 26), some (.ref 1), none, some (.int 0), none, none, none, none, none], [], q1)) rfl rfl rfl))))
  · exact (d_step (t := (3, [some (.ref 26), some (.ref 10), some (.ref 23), none, none, none, none, none, none], [(.ref 23), (.ref 10), (.ref 26)], s)) 3 rfl
     (d_callV (o := (m_S_begin d 10 23 s)) rfl rfl (fun q1 =>
     d_step (t := (8, [some (.ref 26), some (.ref 10), some (.ref 23), some (.int 0), none, none, none, none, none], [], q1)) 2 rfl
     (d_lab (x2 := (8, [some (.ref 26), some (.ref 10), none, some (.int 0), none, none, none, none, none], [], q1)) rfl rfl rfl))))
  · exact (d_step (t := (3, [some (.ref 26), some (.ref 10), some (.ref 18), none, none, none, none, none, none], [(.ref 18), (.ref 10), (.ref 26)], s)) 3 rfl
     (d_callV (o := (m_S_begin d 10 18 s)) rfl rfl (fun q1 =>
     d_step (t := (8, [some (.ref 26), some (.ref 10), some (.ref 18), some (.int 0), none, none, none, none, none], [], q1)) 2 rfl
     (d_lab (x2 := (8, [some (.ref 26), some (.ref 10), none, some (.int 0), none, none, none, none, none], [], q1)) rfl rfl rfl))))
set_option maxRecDepth 20000 in
theorem el_S_look_1 (d : Nat) (tt : Nat) (rr : Nat) (x3 : Int32) (hc : (tt = 1 ∧ rr = 23) ∨ (tt = 10 ∧ rr = 23) ∨ (tt = 10 ∧ rr = 18)) (s : qMem) : l_S_look_1 d tt rr x3 s = (if ((s).1 26 3) ≤ x3 then some s else (if 3125 ≤ x3 then some s else (if qIn x3 3125 then ((m_S_awayOf d ((s).1 29 (x3).toNatClampNeg) s).bind (fun q1 => ((m_S_unfold d ((s).1 29 (x3).toNatClampNeg) q1.2).bind (fun q2 => (l_S_look_2 d tt rr x3 ((s).1 29 (x3).toNatClampNeg) (q1.1 + 1) 0 q2))))) else none))) := by
  rcases hc with ⟨rfl, rfl⟩ | ⟨rfl, rfl⟩ | ⟨rfl, rfl⟩
  · exact (d_step (t := (13, [some (.ref 26), some (.ref 1), none, some (.int x3), none, none, none, none, none], [(.int ((s).1 26 3)), (.int x3)], s)) 3 rfl
     (d_if (a := (164, [some (.ref 26), some (.ref 1), none, some (.int x3), none, none, none, none, none], [], s)) (b := (16, [some (.ref 26), some (.ref 1), none, some (.int x3), none, none, none, none, none], [], s)) rfl rfl
     (d_ret (k := 2) rfl rfl)
     (d_step (t := (20, [some (.ref 26), some (.ref 1), none, some (.int x3), none, none, none, none, none], [(.int 3125), (.int x3)], s)) 2 rfl
     (d_if (a := (164, [some (.ref 26), some (.ref 1), none, some (.int x3), none, none, none, none, none], [], s)) (b := (23, [some (.ref 26), some (.ref 1), none, some (.int x3), none, none, none, none, none], [], s)) rfl rfl
     (d_ret (k := 2) rfl rfl)
     (d_step (t := (28, [some (.ref 26), some (.ref 1), none, some (.int x3), none, none, none, none, none], [(.int x3), (.ref 29)], s)) 3 rfl
     (d_chk (a := (29, [some (.ref 26), some (.ref 1), none, some (.int x3), none, none, none, none, none], [(.int ((s).1 29 (x3).toNatClampNeg))], s)) rfl rfl
     (d_step (t := (34, [some (.ref 26), some (.ref 1), none, some (.int x3), some (.int ((s).1 29 (x3).toNatClampNeg)), none, none, none, none], [(.int ((s).1 29 (x3).toNatClampNeg)), (.ref 26)], s)) 3 rfl
     (d_callI (o := (m_S_awayOf d ((s).1 29 (x3).toNatClampNeg) s)) rfl rfl (fun q1 =>
     d_step (t := (44, [some (.ref 26), some (.ref 1), none, some (.int x3), some (.int ((s).1 29 (x3).toNatClampNeg)), some (.int (q1.1 + 1)), none, none, none], [(.int ((s).1 29 (x3).toNatClampNeg)), (.ref 26)], q1.2)) 5 rfl
     (d_callV (o := (m_S_unfold d ((s).1 29 (x3).toNatClampNeg) q1.2)) rfl rfl (fun q2 =>
     d_step (t := (50, [some (.ref 26), some (.ref 1), none, some (.int x3), some (.int ((s).1 29 (x3).toNatClampNeg)), some (.int (q1.1 + 1)), some (.int 0), none, none], [], q2)) 2 rfl
     (d_lab (x2 := (50, [some (.ref 26), some (.ref 1), none, some (.int x3), some (.int ((s).1 29 (x3).toNatClampNeg)), some (.int (q1.1 + 1)), some (.int 0), none, none], [], q2)) rfl rfl rfl))))))))))))
  · exact (d_step (t := (13, [some (.ref 26), some (.ref 10), none, some (.int x3), none, none, none, none, none], [(.int ((s).1 26 3)), (.int x3)], s)) 3 rfl
     (d_if (a := (164, [some (.ref 26), some (.ref 10), none, some (.int x3), none, none, none, none, none], [], s)) (b := (16, [some (.ref 26), some (.ref 10), none, some (.int x3), none, none, none, none, none], [], s)) rfl rfl
     (d_ret (k := 2) rfl rfl)
     (d_step (t := (20, [some (.ref 26), some (.ref 10), none, some (.int x3), none, none, none, none, none], [(.int 3125), (.int x3)], s)) 2 rfl
     (d_if (a := (164, [some (.ref 26), some (.ref 10), none, some (.int x3), none, none, none, none, none], [], s)) (b := (23, [some (.ref 26), some (.ref 10), none, some (.int x3), none, none, none, none, none], [], s)) rfl rfl
     (d_ret (k := 2) rfl rfl)
     (d_step (t := (28, [some (.ref 26), some (.ref 10), none, some (.int x3), none, none, none, none, none], [(.int x3), (.ref 29)], s)) 3 rfl
     (d_chk (a := (29, [some (.ref 26), some (.ref 10), none, some (.int x3), none, none, none, none, none], [(.int ((s).1 29 (x3).toNatClampNeg))], s)) rfl rfl
     (d_step (t := (34, [some (.ref 26), some (.ref 10), none, some (.int x3), some (.int ((s).1 29 (x3).toNatClampNeg)), none, none, none, none], [(.int ((s).1 29 (x3).toNatClampNeg)), (.ref 26)], s)) 3 rfl
     (d_callI (o := (m_S_awayOf d ((s).1 29 (x3).toNatClampNeg) s)) rfl rfl (fun q1 =>
     d_step (t := (44, [some (.ref 26), some (.ref 10), none, some (.int x3), some (.int ((s).1 29 (x3).toNatClampNeg)), some (.int (q1.1 + 1)), none, none, none], [(.int ((s).1 29 (x3).toNatClampNeg)), (.ref 26)], q1.2)) 5 rfl
     (d_callV (o := (m_S_unfold d ((s).1 29 (x3).toNatClampNeg) q1.2)) rfl rfl (fun q2 =>
     d_step (t := (50, [some (.ref 26), some (.ref 10), none, some (.int x3), some (.int ((s).1 29 (x3).toNatClampNeg)), some (.int (q1.1 + 1)), some (.int 0), none, none], [], q2)) 2 rfl
     (d_lab (x2 := (50, [some (.ref 26), some (.ref 10), none, some (.int x3), some (.int ((s).1 29 (x3).toNatClampNeg)), some (.int (q1.1 + 1)), some (.int 0), none, none], [], q2)) rfl rfl rfl))))))))))))
  · exact (d_step (t := (13, [some (.ref 26), some (.ref 10), none, some (.int x3), none, none, none, none, none], [(.int ((s).1 26 3)), (.int x3)], s)) 3 rfl
     (d_if (a := (164, [some (.ref 26), some (.ref 10), none, some (.int x3), none, none, none, none, none], [], s)) (b := (16, [some (.ref 26), some (.ref 10), none, some (.int x3), none, none, none, none, none], [], s)) rfl rfl
     (d_ret (k := 2) rfl rfl)
     (d_step (t := (20, [some (.ref 26), some (.ref 10), none, some (.int x3), none, none, none, none, none], [(.int 3125), (.int x3)], s)) 2 rfl
     (d_if (a := (164, [some (.ref 26), some (.ref 10), none, some (.int x3), none, none, none, none, none], [], s)) (b := (23, [some (.ref 26), some (.ref 10), none, some (.int x3), none, none, none, none, none], [], s)) rfl rfl
     (d_ret (k := 2) rfl rfl)
     (d_step (t := (28, [some (.ref 26), some (.ref 10), none, some (.int x3), none, none, none, none, none], [(.int x3), (.ref 29)], s)) 3 rfl
     (d_chk (a := (29, [some (.ref 26), some (.ref 10), none, some (.int x3), none, none, none, none, none], [(.int ((s).1 29 (x3).toNatClampNeg))], s)) rfl rfl
     (d_step (t := (34, [some (.ref 26), some (.ref 10), none, some (.int x3), some (.int ((s).1 29 (x3).toNatClampNeg)), none, none, none, none], [(.int ((s).1 29 (x3).toNatClampNeg)), (.ref 26)], s)) 3 rfl
     (d_callI (o := (m_S_awayOf d ((s).1 29 (x3).toNatClampNeg) s)) rfl rfl (fun q1 =>
     d_step (t := (44, [some (.ref 26), some (.ref 10), none, some (.int x3), some (.int ((s).1 29 (x3).toNatClampNeg)), some (.int (q1.1 + 1)), none, none, none], [(.int ((s).1 29 (x3).toNatClampNeg)), (.ref 26)], q1.2)) 5 rfl
     (d_callV (o := (m_S_unfold d ((s).1 29 (x3).toNatClampNeg) q1.2)) rfl rfl (fun q2 =>
     d_step (t := (50, [some (.ref 26), some (.ref 10), none, some (.int x3), some (.int ((s).1 29 (x3).toNatClampNeg)), some (.int (q1.1 + 1)), some (.int 0), none, none], [], q2)) 2 rfl
     (d_lab (x2 := (50, [some (.ref 26), some (.ref 10), none, some (.int x3), some (.int ((s).1 29 (x3).toNatClampNeg)), some (.int (q1.1 + 1)), some (.int 0), none, none], [], q2)) rfl rfl rfl))))))))))))
set_option maxRecDepth 20000 in
theorem el_S_look_2 (d : Nat) (tt : Nat) (rr : Nat) (x3 : Int32) (x4 : Int32) (x5 : Int32) (x6 : Int32) (hc : (tt = 1 ∧ rr = 23) ∨ (tt = 10 ∧ rr = 23) ∨ (tt = 10 ∧ rr = 18)) (s : qMem) : l_S_look_2 d tt rr x3 x4 x5 x6 s = (if ((s).1 tt 1) ≤ x6 then (l_S_look_1 d tt rr (x3 + 1) s) else (if 5 ≤ x6 then (l_S_look_1 d tt rr (x3 + 1) s) else (if qIn x6 5 then ((m_S_isNew d (x4 + (qKon qPV (x6).toNatClampNeg)) s).bind (fun q1 => (if q1.1 = 0 then (l_S_look_3 d tt rr x3 x4 x5 x6 q1.2) else ((m_T_firstHelp d tt x6 30 q1.2).bind (fun q2 => (if q2.1 = (-1) then (l_S_look_3 d tt rr x3 x4 x5 x6 q2.2) else ((m_S_reach d (x4 + (qKon qPV (x6).toNatClampNeg)) x4 x5 q2.2).bind (fun q3 => (l_S_look_3 d tt rr x3 x4 x5 x6 q3))))))))) else none))) := by
  rcases hc with ⟨rfl, rfl⟩ | ⟨rfl, rfl⟩ | ⟨rfl, rfl⟩
  · exact (d_step (t := (56, [some (.ref 26), some (.ref 1), none, some (.int x3), some (.int x4), some (.int x5), some (.int x6), none, none], [(.int ((s).1 1 1)), (.int x6)], s)) 3 rfl
     (d_if (a := (158, [some (.ref 26), some (.ref 1), none, some (.int x3), some (.int x4), some (.int x5), some (.int x6), none, none], [], s)) (b := (59, [some (.ref 26), some (.ref 1), none, some (.int x3), some (.int x4), some (.int x5), some (.int x6), none, none], [], s)) rfl rfl
     (d_step (t := (8, [some (.ref 26), some (.ref 1), none, some (.int (x3 + 1)), some (.int x4), some (.int x5), some (.int x6), none, none], [], s)) 2 rfl
     (d_lab (x2 := (8, [some (.ref 26), some (.ref 1), none, some (.int (x3 + 1)), none, none, none, none, none], [], s)) rfl rfl rfl))
     (d_step (t := (62, [some (.ref 26), some (.ref 1), none, some (.int x3), some (.int x4), some (.int x5), some (.int x6), none, none], [(.int 5), (.int x6)], s)) 2 rfl
     (d_if (a := (158, [some (.ref 26), some (.ref 1), none, some (.int x3), some (.int x4), some (.int x5), some (.int x6), none, none], [], s)) (b := (65, [some (.ref 26), some (.ref 1), none, some (.int x3), some (.int x4), some (.int x5), some (.int x6), none, none], [], s)) rfl rfl
     (d_step (t := (8, [some (.ref 26), some (.ref 1), none, some (.int (x3 + 1)), some (.int x4), some (.int x5), some (.int x6), none, none], [], s)) 2 rfl
     (d_lab (x2 := (8, [some (.ref 26), some (.ref 1), none, some (.int (x3 + 1)), none, none, none, none, none], [], s)) rfl rfl rfl))
     (d_step (t := (72, [some (.ref 26), some (.ref 1), none, some (.int x3), some (.int x4), some (.int x5), some (.int x6), none, none], [(.int x6), (.ref 61), (.int x4)], s)) 3 rfl
     (d_chk (a := (73, [some (.ref 26), some (.ref 1), none, some (.int x3), some (.int x4), some (.int x5), some (.int x6), none, none], [(.int (qKon qPV (x6).toNatClampNeg)), (.int x4)], s)) rfl rfl
     (d_step (t := (79, [some (.ref 26), some (.ref 1), none, some (.int x3), some (.int x4), some (.int x5), some (.int x6), some (.int (x4 + (qKon qPV (x6).toNatClampNeg))), none], [(.int (x4 + (qKon qPV (x6).toNatClampNeg))), (.ref 26)], s)) 4 rfl
     (d_callI (o := (m_S_isNew d (x4 + (qKon qPV (x6).toNatClampNeg)) s)) rfl rfl (fun q1 =>
     d_if (a := (109, [some (.ref 26), some (.ref 1), none, some (.int x3), some (.int x4), some (.int x5), some (.int x6), some (.int (x4 + (qKon qPV (x6).toNatClampNeg))), none], [], q1.2)) (b := (85, [some (.ref 26), some (.ref 1), none, some (.int x3), some (.int x4), some (.int x5), some (.int x6), some (.int (x4 + (qKon qPV (x6).toNatClampNeg))), none], [], q1.2)) rfl rfl
     (d_lab (x2 := (109, [some (.ref 26), some (.ref 1), none, some (.int x3), some (.int x4), some (.int x5), some (.int x6), none, none], [], q1.2)) rfl rfl rfl)
     (d_step (t := (92, [some (.ref 26), some (.ref 1), none, some (.int x3), some (.int x4), some (.int x5), some (.int x6), some (.int (x4 + (qKon qPV (x6).toNatClampNeg))), none], [(.ref 30), (.int x6), (.ref 1)], q1.2)) 4 rfl
     (d_callI (o := (m_T_firstHelp d 1 x6 30 q1.2)) rfl rfl (fun q2 =>
     d_step (t := (96, [some (.ref 26), some (.ref 1), none, some (.int x3), some (.int x4), some (.int x5), some (.int x6), some (.int (x4 + (qKon qPV (x6).toNatClampNeg))), none], [(.int (-1)), (.int q2.1)], q2.2)) 1 rfl
     (d_if (a := (109, [some (.ref 26), some (.ref 1), none, some (.int x3), some (.int x4), some (.int x5), some (.int x6), some (.int (x4 + (qKon qPV (x6).toNatClampNeg))), none], [], q2.2)) (b := (99, [some (.ref 26), some (.ref 1), none, some (.int x3), some (.int x4), some (.int x5), some (.int x6), some (.int (x4 + (qKon qPV (x6).toNatClampNeg))), none], [], q2.2)) rfl rfl
     (d_lab (x2 := (109, [some (.ref 26), some (.ref 1), none, some (.int x3), some (.int x4), some (.int x5), some (.int x6), none, none], [], q2.2)) rfl rfl rfl)
     (d_step (t := (106, [some (.ref 26), some (.ref 1), none, some (.int x3), some (.int x4), some (.int x5), some (.int x6), some (.int (x4 + (qKon qPV (x6).toNatClampNeg))), none], [(.int x5), (.int x4), (.int (x4 + (qKon qPV (x6).toNatClampNeg))), (.ref 26)], q2.2)) 4 rfl
     (d_callV (o := (m_S_reach d (x4 + (qKon qPV (x6).toNatClampNeg)) x4 x5 q2.2)) rfl rfl (fun q3 =>
     d_lab (x2 := (109, [some (.ref 26), some (.ref 1), none, some (.int x3), some (.int x4), some (.int x5), some (.int x6), none, none], [], q3)) rfl rfl rfl))))))))))))))))
  · exact (d_step (t := (56, [some (.ref 26), some (.ref 10), none, some (.int x3), some (.int x4), some (.int x5), some (.int x6), none, none], [(.int ((s).1 10 1)), (.int x6)], s)) 3 rfl
     (d_if (a := (158, [some (.ref 26), some (.ref 10), none, some (.int x3), some (.int x4), some (.int x5), some (.int x6), none, none], [], s)) (b := (59, [some (.ref 26), some (.ref 10), none, some (.int x3), some (.int x4), some (.int x5), some (.int x6), none, none], [], s)) rfl rfl
     (d_step (t := (8, [some (.ref 26), some (.ref 10), none, some (.int (x3 + 1)), some (.int x4), some (.int x5), some (.int x6), none, none], [], s)) 2 rfl
     (d_lab (x2 := (8, [some (.ref 26), some (.ref 10), none, some (.int (x3 + 1)), none, none, none, none, none], [], s)) rfl rfl rfl))
     (d_step (t := (62, [some (.ref 26), some (.ref 10), none, some (.int x3), some (.int x4), some (.int x5), some (.int x6), none, none], [(.int 5), (.int x6)], s)) 2 rfl
     (d_if (a := (158, [some (.ref 26), some (.ref 10), none, some (.int x3), some (.int x4), some (.int x5), some (.int x6), none, none], [], s)) (b := (65, [some (.ref 26), some (.ref 10), none, some (.int x3), some (.int x4), some (.int x5), some (.int x6), none, none], [], s)) rfl rfl
     (d_step (t := (8, [some (.ref 26), some (.ref 10), none, some (.int (x3 + 1)), some (.int x4), some (.int x5), some (.int x6), none, none], [], s)) 2 rfl
     (d_lab (x2 := (8, [some (.ref 26), some (.ref 10), none, some (.int (x3 + 1)), none, none, none, none, none], [], s)) rfl rfl rfl))
     (d_step (t := (72, [some (.ref 26), some (.ref 10), none, some (.int x3), some (.int x4), some (.int x5), some (.int x6), none, none], [(.int x6), (.ref 61), (.int x4)], s)) 3 rfl
     (d_chk (a := (73, [some (.ref 26), some (.ref 10), none, some (.int x3), some (.int x4), some (.int x5), some (.int x6), none, none], [(.int (qKon qPV (x6).toNatClampNeg)), (.int x4)], s)) rfl rfl
     (d_step (t := (79, [some (.ref 26), some (.ref 10), none, some (.int x3), some (.int x4), some (.int x5), some (.int x6), some (.int (x4 + (qKon qPV (x6).toNatClampNeg))), none], [(.int (x4 + (qKon qPV (x6).toNatClampNeg))), (.ref 26)], s)) 4 rfl
     (d_callI (o := (m_S_isNew d (x4 + (qKon qPV (x6).toNatClampNeg)) s)) rfl rfl (fun q1 =>
     d_if (a := (109, [some (.ref 26), some (.ref 10), none, some (.int x3), some (.int x4), some (.int x5), some (.int x6), some (.int (x4 + (qKon qPV (x6).toNatClampNeg))), none], [], q1.2)) (b := (85, [some (.ref 26), some (.ref 10), none, some (.int x3), some (.int x4), some (.int x5), some (.int x6), some (.int (x4 + (qKon qPV (x6).toNatClampNeg))), none], [], q1.2)) rfl rfl
     (d_lab (x2 := (109, [some (.ref 26), some (.ref 10), none, some (.int x3), some (.int x4), some (.int x5), some (.int x6), none, none], [], q1.2)) rfl rfl rfl)
     (d_step (t := (92, [some (.ref 26), some (.ref 10), none, some (.int x3), some (.int x4), some (.int x5), some (.int x6), some (.int (x4 + (qKon qPV (x6).toNatClampNeg))), none], [(.ref 30), (.int x6), (.ref 10)], q1.2)) 4 rfl
     (d_callI (o := (m_T_firstHelp d 10 x6 30 q1.2)) rfl rfl (fun q2 =>
     d_step (t := (96, [some (.ref 26), some (.ref 10), none, some (.int x3), some (.int x4), some (.int x5), some (.int x6), some (.int (x4 + (qKon qPV (x6).toNatClampNeg))), none], [(.int (-1)), (.int q2.1)], q2.2)) 1 rfl
     (d_if (a := (109, [some (.ref 26), some (.ref 10), none, some (.int x3), some (.int x4), some (.int x5), some (.int x6), some (.int (x4 + (qKon qPV (x6).toNatClampNeg))), none], [], q2.2)) (b := (99, [some (.ref 26), some (.ref 10), none, some (.int x3), some (.int x4), some (.int x5), some (.int x6), some (.int (x4 + (qKon qPV (x6).toNatClampNeg))), none], [], q2.2)) rfl rfl
     (d_lab (x2 := (109, [some (.ref 26), some (.ref 10), none, some (.int x3), some (.int x4), some (.int x5), some (.int x6), none, none], [], q2.2)) rfl rfl rfl)
     (d_step (t := (106, [some (.ref 26), some (.ref 10), none, some (.int x3), some (.int x4), some (.int x5), some (.int x6), some (.int (x4 + (qKon qPV (x6).toNatClampNeg))), none], [(.int x5), (.int x4), (.int (x4 + (qKon qPV (x6).toNatClampNeg))), (.ref 26)], q2.2)) 4 rfl
     (d_callV (o := (m_S_reach d (x4 + (qKon qPV (x6).toNatClampNeg)) x4 x5 q2.2)) rfl rfl (fun q3 =>
     d_lab (x2 := (109, [some (.ref 26), some (.ref 10), none, some (.int x3), some (.int x4), some (.int x5), some (.int x6), none, none], [], q3)) rfl rfl rfl))))))))))))))))
  · exact (d_step (t := (56, [some (.ref 26), some (.ref 10), none, some (.int x3), some (.int x4), some (.int x5), some (.int x6), none, none], [(.int ((s).1 10 1)), (.int x6)], s)) 3 rfl
     (d_if (a := (158, [some (.ref 26), some (.ref 10), none, some (.int x3), some (.int x4), some (.int x5), some (.int x6), none, none], [], s)) (b := (59, [some (.ref 26), some (.ref 10), none, some (.int x3), some (.int x4), some (.int x5), some (.int x6), none, none], [], s)) rfl rfl
     (d_step (t := (8, [some (.ref 26), some (.ref 10), none, some (.int (x3 + 1)), some (.int x4), some (.int x5), some (.int x6), none, none], [], s)) 2 rfl
     (d_lab (x2 := (8, [some (.ref 26), some (.ref 10), none, some (.int (x3 + 1)), none, none, none, none, none], [], s)) rfl rfl rfl))
     (d_step (t := (62, [some (.ref 26), some (.ref 10), none, some (.int x3), some (.int x4), some (.int x5), some (.int x6), none, none], [(.int 5), (.int x6)], s)) 2 rfl
     (d_if (a := (158, [some (.ref 26), some (.ref 10), none, some (.int x3), some (.int x4), some (.int x5), some (.int x6), none, none], [], s)) (b := (65, [some (.ref 26), some (.ref 10), none, some (.int x3), some (.int x4), some (.int x5), some (.int x6), none, none], [], s)) rfl rfl
     (d_step (t := (8, [some (.ref 26), some (.ref 10), none, some (.int (x3 + 1)), some (.int x4), some (.int x5), some (.int x6), none, none], [], s)) 2 rfl
     (d_lab (x2 := (8, [some (.ref 26), some (.ref 10), none, some (.int (x3 + 1)), none, none, none, none, none], [], s)) rfl rfl rfl))
     (d_step (t := (72, [some (.ref 26), some (.ref 10), none, some (.int x3), some (.int x4), some (.int x5), some (.int x6), none, none], [(.int x6), (.ref 61), (.int x4)], s)) 3 rfl
     (d_chk (a := (73, [some (.ref 26), some (.ref 10), none, some (.int x3), some (.int x4), some (.int x5), some (.int x6), none, none], [(.int (qKon qPV (x6).toNatClampNeg)), (.int x4)], s)) rfl rfl
     (d_step (t := (79, [some (.ref 26), some (.ref 10), none, some (.int x3), some (.int x4), some (.int x5), some (.int x6), some (.int (x4 + (qKon qPV (x6).toNatClampNeg))), none], [(.int (x4 + (qKon qPV (x6).toNatClampNeg))), (.ref 26)], s)) 4 rfl
     (d_callI (o := (m_S_isNew d (x4 + (qKon qPV (x6).toNatClampNeg)) s)) rfl rfl (fun q1 =>
     d_if (a := (109, [some (.ref 26), some (.ref 10), none, some (.int x3), some (.int x4), some (.int x5), some (.int x6), some (.int (x4 + (qKon qPV (x6).toNatClampNeg))), none], [], q1.2)) (b := (85, [some (.ref 26), some (.ref 10), none, some (.int x3), some (.int x4), some (.int x5), some (.int x6), some (.int (x4 + (qKon qPV (x6).toNatClampNeg))), none], [], q1.2)) rfl rfl
     (d_lab (x2 := (109, [some (.ref 26), some (.ref 10), none, some (.int x3), some (.int x4), some (.int x5), some (.int x6), none, none], [], q1.2)) rfl rfl rfl)
     (d_step (t := (92, [some (.ref 26), some (.ref 10), none, some (.int x3), some (.int x4), some (.int x5), some (.int x6), some (.int (x4 + (qKon qPV (x6).toNatClampNeg))), none], [(.ref 30), (.int x6), (.ref 10)], q1.2)) 4 rfl
     (d_callI (o := (m_T_firstHelp d 10 x6 30 q1.2)) rfl rfl (fun q2 =>
     d_step (t := (96, [some (.ref 26), some (.ref 10), none, some (.int x3), some (.int x4), some (.int x5), some (.int x6), some (.int (x4 + (qKon qPV (x6).toNatClampNeg))), none], [(.int (-1)), (.int q2.1)], q2.2)) 1 rfl
     (d_if (a := (109, [some (.ref 26), some (.ref 10), none, some (.int x3), some (.int x4), some (.int x5), some (.int x6), some (.int (x4 + (qKon qPV (x6).toNatClampNeg))), none], [], q2.2)) (b := (99, [some (.ref 26), some (.ref 10), none, some (.int x3), some (.int x4), some (.int x5), some (.int x6), some (.int (x4 + (qKon qPV (x6).toNatClampNeg))), none], [], q2.2)) rfl rfl
     (d_lab (x2 := (109, [some (.ref 26), some (.ref 10), none, some (.int x3), some (.int x4), some (.int x5), some (.int x6), none, none], [], q2.2)) rfl rfl rfl)
     (d_step (t := (106, [some (.ref 26), some (.ref 10), none, some (.int x3), some (.int x4), some (.int x5), some (.int x6), some (.int (x4 + (qKon qPV (x6).toNatClampNeg))), none], [(.int x5), (.int x4), (.int (x4 + (qKon qPV (x6).toNatClampNeg))), (.ref 26)], q2.2)) 4 rfl
     (d_callV (o := (m_S_reach d (x4 + (qKon qPV (x6).toNatClampNeg)) x4 x5 q2.2)) rfl rfl (fun q3 =>
     d_lab (x2 := (109, [some (.ref 26), some (.ref 10), none, some (.int x3), some (.int x4), some (.int x5), some (.int x6), none, none], [], q3)) rfl rfl rfl))))))))))))))))
set_option maxRecDepth 20000 in
theorem el_S_look_3 (d : Nat) (tt : Nat) (rr : Nat) (x3 : Int32) (x4 : Int32) (x5 : Int32) (x6 : Int32) (hc : (tt = 1 ∧ rr = 23) ∨ (tt = 10 ∧ rr = 23) ∨ (tt = 10 ∧ rr = 18)) (s : qMem) : l_S_look_3 d tt rr x3 x4 x5 x6 s = (if qIn x6 5 then ((m_S_isNew d (x4 - (qKon qPV (x6).toNatClampNeg)) s).bind (fun q1 => (if q1.1 = 0 then (l_S_look_2 d tt rr x3 x4 x5 (x6 + 1) q1.2) else ((m_T_canSink d tt x6 30 q1.2).bind (fun q2 => (if q2.1 = 0 then (l_S_look_2 d tt rr x3 x4 x5 (x6 + 1) q2.2) else ((m_S_reach d (x4 - (qKon qPV (x6).toNatClampNeg)) x4 x5 q2.2).bind (fun q3 => (l_S_look_2 d tt rr x3 x4 x5 (x6 + 1) q3))))))))) else none) := by
  rcases hc with ⟨rfl, rfl⟩ | ⟨rfl, rfl⟩ | ⟨rfl, rfl⟩
  · exact (d_step (t := (116, [some (.ref 26), some (.ref 1), none, some (.int x3), some (.int x4), some (.int x5), some (.int x6), none, none], [(.int x6), (.ref 61), (.int x4)], s)) 3 rfl
     (d_chk (a := (117, [some (.ref 26), some (.ref 1), none, some (.int x3), some (.int x4), some (.int x5), some (.int x6), none, none], [(.int (qKon qPV (x6).toNatClampNeg)), (.int x4)], s)) rfl rfl
     (d_step (t := (123, [some (.ref 26), some (.ref 1), none, some (.int x3), some (.int x4), some (.int x5), some (.int x6), none, some (.int (x4 - (qKon qPV (x6).toNatClampNeg)))], [(.int (x4 - (qKon qPV (x6).toNatClampNeg))), (.ref 26)], s)) 4 rfl
     (d_callI (o := (m_S_isNew d (x4 - (qKon qPV (x6).toNatClampNeg)) s)) rfl rfl (fun q1 =>
     d_if (a := (152, [some (.ref 26), some (.ref 1), none, some (.int x3), some (.int x4), some (.int x5), some (.int x6), none, some (.int (x4 - (qKon qPV (x6).toNatClampNeg)))], [], q1.2)) (b := (129, [some (.ref 26), some (.ref 1), none, some (.int x3), some (.int x4), some (.int x5), some (.int x6), none, some (.int (x4 - (qKon qPV (x6).toNatClampNeg)))], [], q1.2)) rfl rfl
     (d_step (t := (50, [some (.ref 26), some (.ref 1), none, some (.int x3), some (.int x4), some (.int x5), some (.int (x6 + 1)), none, some (.int (x4 - (qKon qPV (x6).toNatClampNeg)))], [], q1.2)) 2 rfl
     (d_lab (x2 := (50, [some (.ref 26), some (.ref 1), none, some (.int x3), some (.int x4), some (.int x5), some (.int (x6 + 1)), none, none], [], q1.2)) rfl rfl rfl))
     (d_step (t := (136, [some (.ref 26), some (.ref 1), none, some (.int x3), some (.int x4), some (.int x5), some (.int x6), none, some (.int (x4 - (qKon qPV (x6).toNatClampNeg)))], [(.ref 30), (.int x6), (.ref 1)], q1.2)) 4 rfl
     (d_callI (o := (m_T_canSink d 1 x6 30 q1.2)) rfl rfl (fun q2 =>
     d_if (a := (152, [some (.ref 26), some (.ref 1), none, some (.int x3), some (.int x4), some (.int x5), some (.int x6), none, some (.int (x4 - (qKon qPV (x6).toNatClampNeg)))], [], q2.2)) (b := (142, [some (.ref 26), some (.ref 1), none, some (.int x3), some (.int x4), some (.int x5), some (.int x6), none, some (.int (x4 - (qKon qPV (x6).toNatClampNeg)))], [], q2.2)) rfl rfl
     (d_step (t := (50, [some (.ref 26), some (.ref 1), none, some (.int x3), some (.int x4), some (.int x5), some (.int (x6 + 1)), none, some (.int (x4 - (qKon qPV (x6).toNatClampNeg)))], [], q2.2)) 2 rfl
     (d_lab (x2 := (50, [some (.ref 26), some (.ref 1), none, some (.int x3), some (.int x4), some (.int x5), some (.int (x6 + 1)), none, none], [], q2.2)) rfl rfl rfl))
     (d_step (t := (149, [some (.ref 26), some (.ref 1), none, some (.int x3), some (.int x4), some (.int x5), some (.int x6), none, some (.int (x4 - (qKon qPV (x6).toNatClampNeg)))], [(.int x5), (.int x4), (.int (x4 - (qKon qPV (x6).toNatClampNeg))), (.ref 26)], q2.2)) 4 rfl
     (d_callV (o := (m_S_reach d (x4 - (qKon qPV (x6).toNatClampNeg)) x4 x5 q2.2)) rfl rfl (fun q3 =>
     d_step (t := (50, [some (.ref 26), some (.ref 1), none, some (.int x3), some (.int x4), some (.int x5), some (.int (x6 + 1)), none, some (.int (x4 - (qKon qPV (x6).toNatClampNeg)))], [], q3)) 2 rfl
     (d_lab (x2 := (50, [some (.ref 26), some (.ref 1), none, some (.int x3), some (.int x4), some (.int x5), some (.int (x6 + 1)), none, none], [], q3)) rfl rfl rfl))))))))))))
  · exact (d_step (t := (116, [some (.ref 26), some (.ref 10), none, some (.int x3), some (.int x4), some (.int x5), some (.int x6), none, none], [(.int x6), (.ref 61), (.int x4)], s)) 3 rfl
     (d_chk (a := (117, [some (.ref 26), some (.ref 10), none, some (.int x3), some (.int x4), some (.int x5), some (.int x6), none, none], [(.int (qKon qPV (x6).toNatClampNeg)), (.int x4)], s)) rfl rfl
     (d_step (t := (123, [some (.ref 26), some (.ref 10), none, some (.int x3), some (.int x4), some (.int x5), some (.int x6), none, some (.int (x4 - (qKon qPV (x6).toNatClampNeg)))], [(.int (x4 - (qKon qPV (x6).toNatClampNeg))), (.ref 26)], s)) 4 rfl
     (d_callI (o := (m_S_isNew d (x4 - (qKon qPV (x6).toNatClampNeg)) s)) rfl rfl (fun q1 =>
     d_if (a := (152, [some (.ref 26), some (.ref 10), none, some (.int x3), some (.int x4), some (.int x5), some (.int x6), none, some (.int (x4 - (qKon qPV (x6).toNatClampNeg)))], [], q1.2)) (b := (129, [some (.ref 26), some (.ref 10), none, some (.int x3), some (.int x4), some (.int x5), some (.int x6), none, some (.int (x4 - (qKon qPV (x6).toNatClampNeg)))], [], q1.2)) rfl rfl
     (d_step (t := (50, [some (.ref 26), some (.ref 10), none, some (.int x3), some (.int x4), some (.int x5), some (.int (x6 + 1)), none, some (.int (x4 - (qKon qPV (x6).toNatClampNeg)))], [], q1.2)) 2 rfl
     (d_lab (x2 := (50, [some (.ref 26), some (.ref 10), none, some (.int x3), some (.int x4), some (.int x5), some (.int (x6 + 1)), none, none], [], q1.2)) rfl rfl rfl))
     (d_step (t := (136, [some (.ref 26), some (.ref 10), none, some (.int x3), some (.int x4), some (.int x5), some (.int x6), none, some (.int (x4 - (qKon qPV (x6).toNatClampNeg)))], [(.ref 30), (.int x6), (.ref 10)], q1.2)) 4 rfl
     (d_callI (o := (m_T_canSink d 10 x6 30 q1.2)) rfl rfl (fun q2 =>
     d_if (a := (152, [some (.ref 26), some (.ref 10), none, some (.int x3), some (.int x4), some (.int x5), some (.int x6), none, some (.int (x4 - (qKon qPV (x6).toNatClampNeg)))], [], q2.2)) (b := (142, [some (.ref 26), some (.ref 10), none, some (.int x3), some (.int x4), some (.int x5), some (.int x6), none, some (.int (x4 - (qKon qPV (x6).toNatClampNeg)))], [], q2.2)) rfl rfl
     (d_step (t := (50, [some (.ref 26), some (.ref 10), none, some (.int x3), some (.int x4), some (.int x5), some (.int (x6 + 1)), none, some (.int (x4 - (qKon qPV (x6).toNatClampNeg)))], [], q2.2)) 2 rfl
     (d_lab (x2 := (50, [some (.ref 26), some (.ref 10), none, some (.int x3), some (.int x4), some (.int x5), some (.int (x6 + 1)), none, none], [], q2.2)) rfl rfl rfl))
     (d_step (t := (149, [some (.ref 26), some (.ref 10), none, some (.int x3), some (.int x4), some (.int x5), some (.int x6), none, some (.int (x4 - (qKon qPV (x6).toNatClampNeg)))], [(.int x5), (.int x4), (.int (x4 - (qKon qPV (x6).toNatClampNeg))), (.ref 26)], q2.2)) 4 rfl
     (d_callV (o := (m_S_reach d (x4 - (qKon qPV (x6).toNatClampNeg)) x4 x5 q2.2)) rfl rfl (fun q3 =>
     d_step (t := (50, [some (.ref 26), some (.ref 10), none, some (.int x3), some (.int x4), some (.int x5), some (.int (x6 + 1)), none, some (.int (x4 - (qKon qPV (x6).toNatClampNeg)))], [], q3)) 2 rfl
     (d_lab (x2 := (50, [some (.ref 26), some (.ref 10), none, some (.int x3), some (.int x4), some (.int x5), some (.int (x6 + 1)), none, none], [], q3)) rfl rfl rfl))))))))))))
  · exact (d_step (t := (116, [some (.ref 26), some (.ref 10), none, some (.int x3), some (.int x4), some (.int x5), some (.int x6), none, none], [(.int x6), (.ref 61), (.int x4)], s)) 3 rfl
     (d_chk (a := (117, [some (.ref 26), some (.ref 10), none, some (.int x3), some (.int x4), some (.int x5), some (.int x6), none, none], [(.int (qKon qPV (x6).toNatClampNeg)), (.int x4)], s)) rfl rfl
     (d_step (t := (123, [some (.ref 26), some (.ref 10), none, some (.int x3), some (.int x4), some (.int x5), some (.int x6), none, some (.int (x4 - (qKon qPV (x6).toNatClampNeg)))], [(.int (x4 - (qKon qPV (x6).toNatClampNeg))), (.ref 26)], s)) 4 rfl
     (d_callI (o := (m_S_isNew d (x4 - (qKon qPV (x6).toNatClampNeg)) s)) rfl rfl (fun q1 =>
     d_if (a := (152, [some (.ref 26), some (.ref 10), none, some (.int x3), some (.int x4), some (.int x5), some (.int x6), none, some (.int (x4 - (qKon qPV (x6).toNatClampNeg)))], [], q1.2)) (b := (129, [some (.ref 26), some (.ref 10), none, some (.int x3), some (.int x4), some (.int x5), some (.int x6), none, some (.int (x4 - (qKon qPV (x6).toNatClampNeg)))], [], q1.2)) rfl rfl
     (d_step (t := (50, [some (.ref 26), some (.ref 10), none, some (.int x3), some (.int x4), some (.int x5), some (.int (x6 + 1)), none, some (.int (x4 - (qKon qPV (x6).toNatClampNeg)))], [], q1.2)) 2 rfl
     (d_lab (x2 := (50, [some (.ref 26), some (.ref 10), none, some (.int x3), some (.int x4), some (.int x5), some (.int (x6 + 1)), none, none], [], q1.2)) rfl rfl rfl))
     (d_step (t := (136, [some (.ref 26), some (.ref 10), none, some (.int x3), some (.int x4), some (.int x5), some (.int x6), none, some (.int (x4 - (qKon qPV (x6).toNatClampNeg)))], [(.ref 30), (.int x6), (.ref 10)], q1.2)) 4 rfl
     (d_callI (o := (m_T_canSink d 10 x6 30 q1.2)) rfl rfl (fun q2 =>
     d_if (a := (152, [some (.ref 26), some (.ref 10), none, some (.int x3), some (.int x4), some (.int x5), some (.int x6), none, some (.int (x4 - (qKon qPV (x6).toNatClampNeg)))], [], q2.2)) (b := (142, [some (.ref 26), some (.ref 10), none, some (.int x3), some (.int x4), some (.int x5), some (.int x6), none, some (.int (x4 - (qKon qPV (x6).toNatClampNeg)))], [], q2.2)) rfl rfl
     (d_step (t := (50, [some (.ref 26), some (.ref 10), none, some (.int x3), some (.int x4), some (.int x5), some (.int (x6 + 1)), none, some (.int (x4 - (qKon qPV (x6).toNatClampNeg)))], [], q2.2)) 2 rfl
     (d_lab (x2 := (50, [some (.ref 26), some (.ref 10), none, some (.int x3), some (.int x4), some (.int x5), some (.int (x6 + 1)), none, none], [], q2.2)) rfl rfl rfl))
     (d_step (t := (149, [some (.ref 26), some (.ref 10), none, some (.int x3), some (.int x4), some (.int x5), some (.int x6), none, some (.int (x4 - (qKon qPV (x6).toNatClampNeg)))], [(.int x5), (.int x4), (.int (x4 - (qKon qPV (x6).toNatClampNeg))), (.ref 26)], q2.2)) 4 rfl
     (d_callV (o := (m_S_reach d (x4 - (qKon qPV (x6).toNatClampNeg)) x4 x5 q2.2)) rfl rfl (fun q3 =>
     d_step (t := (50, [some (.ref 26), some (.ref 10), none, some (.int x3), some (.int x4), some (.int x5), some (.int (x6 + 1)), none, some (.int (x4 - (qKon qPV (x6).toNatClampNeg)))], [], q3)) 2 rfl
     (d_lab (x2 := (50, [some (.ref 26), some (.ref 10), none, some (.int x3), some (.int x4), some (.int x5), some (.int (x6 + 1)), none, none], [], q3)) rfl rfl rfl))))))))))))
noncomputable def m_S_fewest (d : Nat)  (s : qMem) : Option (Int32 × qMem) := qI (qCall qMT d 26 [.ref 26] s)
set_option maxRecDepth 20000 in
theorem e_S_fewest (d : Nat)  (s : qMem) : m_S_fewest (d + 1) s = ((m_S_awayOf d ((s).1 26 4) s).bind (fun q1 => some (q1.1, q1.2))) := d_step (t := (5, [some (.ref 26)], [(.int ((s).1 26 4)), (.ref 26)], s)) 3 rfl
   (d_callI (o := (m_S_awayOf d ((s).1 26 4) s)) rfl rfl (fun q1 =>
   d_ret (k := 0) rfl rfl))
noncomputable def m_S_positionBehind (d : Nat) (k : Int32) (s : qMem) : Option (Int32 × qMem) := qI (qCall qMT d 27 [.ref 26, .int k] s)
noncomputable def l_S_positionBehind_1 (d : Nat)  (x1 : Int32) (x2 : Int32) (x3 : Int32) (s : qMem) : Option (Int32 × qMem) := qI (qK qMT d 27 (12, [some (.ref 26), some (.int x1), some (.int x2), some (.int x3)], [], s))
set_option maxRecDepth 20000 in
theorem e_S_positionBehind (d : Nat) (k : Int32) (s : qMem) : m_S_positionBehind (d + 1) k s = ((m_S_fewest d s).bind (fun q1 => (l_S_positionBehind_1 d k ((s).1 26 4) (q1.1 - 1) q1.2))) := d_step (t := (6, [some (.ref 26), some (.int k), some (.int ((s).1 26 4)), none], [(.ref 26)], s)) 4 rfl
   (d_callI (o := (m_S_fewest d s)) rfl rfl (fun q1 =>
   d_step (t := (12, [some (.ref 26), some (.int k), some (.int ((s).1 26 4)), some (.int (q1.1 - 1))], [], q1.2)) 3 rfl
   (rfl)))
set_option maxRecDepth 20000 in
theorem el_S_positionBehind_1 (d : Nat)  (x1 : Int32) (x2 : Int32) (x3 : Int32) (s : qMem) : l_S_positionBehind_1 d x1 x2 x3 s = (if x3 ≤ x1 then some (x2, s) else ((m_S_aheadOf d x2 s).bind (fun q1 => (l_S_positionBehind_1 d x1 q1.1 (x3 + (-1)) q1.2)))) := d_step (t := (14, [some (.ref 26), some (.int x1), some (.int x2), some (.int x3)], [(.int x1), (.int x3)], s)) 2 rfl
   (d_if (a := (29, [some (.ref 26), some (.int x1), some (.int x2), some (.int x3)], [], s)) (b := (17, [some (.ref 26), some (.int x1), some (.int x2), some (.int x3)], [], s)) rfl rfl
   (d_step (t := (30, [some (.ref 26), some (.int x1), some (.int x2), some (.int x3)], [(.int x2)], s)) 1 rfl
   (d_ret (k := 0) rfl rfl))
   (d_step (t := (19, [some (.ref 26), some (.int x1), some (.int x2), some (.int x3)], [(.int x2), (.ref 26)], s)) 2 rfl
   (d_callI (o := (m_S_aheadOf d x2 s)) rfl rfl (fun q1 =>
   d_step (t := (12, [some (.ref 26), some (.int x1), some (.int q1.1), some (.int (x3 + (-1)))], [], q1.2)) 3 rfl
   (rfl)))))
noncomputable def m_S_mover (d : Nat) (k : Int32) (s : qMem) : Option (Int32 × qMem) := qI (qCall qMT d 28 [.ref 26, .int k] s)
noncomputable def l_S_mover_1 (d : Nat)  (x3 : Int32) (x4 : Int32) (s : qMem) : Option (Int32 × qMem) := qI (qK qMT d 28 (20, [none, none, none, some (.int x3), some (.int x4)], [], s))
set_option maxRecDepth 20000 in
theorem e_S_mover (d : Nat) (k : Int32) (s : qMem) : m_S_mover (d + 1) k s = ((m_S_positionBehind d k s).bind (fun q1 => ((m_S_aheadOf d q1.1 q1.2).bind (fun q2 => (l_S_mover_1 d (if 0 ≤ (q1.1 - q2.1) then (q1.1 - q2.1) else 0 - (q1.1 - q2.1)) 0 q2.2))))) := d_step (t := (2, [some (.ref 26), some (.int k), none, none, none], [(.int k), (.ref 26)], s)) 2 rfl
   (d_callI (o := (m_S_positionBehind d k s)) rfl rfl (fun q1 =>
   d_step (t := (9, [some (.ref 26), some (.int k), some (.int q1.1), none, none], [(.int q1.1), (.ref 26), (.int q1.1)], q1.2)) 4 rfl
   (d_callI (o := (m_S_aheadOf d q1.1 q1.2)) rfl rfl (fun q2 =>
   d_step (t := (20, [some (.ref 26), some (.int k), some (.int q1.1), some (.int (if 0 ≤ (q1.1 - q2.1) then (q1.1 - q2.1) else 0 - (q1.1 - q2.1))), some (.int 0)], [], q2.2)) 5 rfl
   (d_lab (x2 := (20, [none, none, none, some (.int (if 0 ≤ (q1.1 - q2.1) then (q1.1 - q2.1) else 0 - (q1.1 - q2.1))), some (.int 0)], [], q2.2)) rfl rfl rfl)))))
set_option maxRecDepth 20000 in
theorem el_S_mover_1 (d : Nat)  (x3 : Int32) (x4 : Int32) (s : qMem) : l_S_mover_1 d x3 x4 s = (if 5 ≤ x4 then some ((-1), s) else (if qIn x4 5 then (if x3 = (qKon qPV (x4).toNatClampNeg) then some (x4, s) else (l_S_mover_1 d x3 (x4 + 1) s)) else none)) := d_step (t := (23, [none, none, none, some (.int x3), some (.int x4)], [(.int 5), (.int x4)], s)) 2 rfl
   (d_if (a := (45, [none, none, none, some (.int x3), some (.int x4)], [], s)) (b := (26, [none, none, none, some (.int x3), some (.int x4)], [], s)) rfl rfl
   (d_step (t := (46, [none, none, none, some (.int x3), some (.int x4)], [(.int (-1))], s)) 1 rfl
   (d_ret (k := 0) rfl rfl))
   (d_step (t := (32, [none, none, none, some (.int x3), some (.int x4)], [(.int x4), (.ref 61), (.int x3)], s)) 3 rfl
   (d_chk (a := (33, [none, none, none, some (.int x3), some (.int x4)], [(.int (qKon qPV (x4).toNatClampNeg)), (.int x3)], s)) rfl rfl
   (d_if (a := (36, [none, none, none, some (.int x3), some (.int x4)], [], s)) (b := (39, [none, none, none, some (.int x3), some (.int x4)], [], s)) rfl rfl
   (d_step (t := (38, [none, none, none, some (.int x3), some (.int x4)], [(.int x4)], s)) 1 rfl
   (d_ret (k := 0) rfl rfl))
   (d_step (t := (20, [none, none, none, some (.int x3), some (.int (x4 + 1))], [], s)) 2 rfl
   (d_lab (x2 := (20, [none, none, none, some (.int x3), some (.int (x4 + 1))], [], s)) rfl rfl rfl))))))
noncomputable def m_S_rises (d : Nat) (k : Int32) (s : qMem) : Option (Int32 × qMem) := qI (qCall qMT d 29 [.ref 26, .int k] s)
set_option maxRecDepth 20000 in
theorem e_S_rises (d : Nat) (k : Int32) (s : qMem) : m_S_rises (d + 1) k s = ((m_S_positionBehind d k s).bind (fun q1 => ((m_S_aheadOf d q1.1 q1.2).bind (fun q2 => (if q1.1 ≤ q2.1 then some (0, q2.2) else some (1, q2.2)))))) := d_step (t := (2, [some (.ref 26), some (.int k), none], [(.int k), (.ref 26)], s)) 2 rfl
   (d_callI (o := (m_S_positionBehind d k s)) rfl rfl (fun q1 =>
   d_step (t := (9, [some (.ref 26), some (.int k), some (.int q1.1)], [(.int q1.1), (.ref 26), (.int q1.1)], q1.2)) 4 rfl
   (d_callI (o := (m_S_aheadOf d q1.1 q1.2)) rfl rfl (fun q2 =>
   d_if (a := (19, [some (.ref 26), some (.int k), some (.int q1.1)], [], q2.2)) (b := (15, [some (.ref 26), some (.int k), some (.int q1.1)], [], q2.2)) rfl rfl
   (d_step (t := (20, [some (.ref 26), some (.int k), some (.int q1.1)], [(.int 0)], q2.2)) 1 rfl
   (d_ret (k := 0) rfl rfl))
   (d_step (t := (20, [some (.ref 26), some (.int k), some (.int q1.1)], [(.int 1)], q2.2)) 2 rfl
   (d_ret (k := 0) rfl rfl))))))
noncomputable def m_S_lastMovers (d : Nat)  (s : qMem) : Option (Int32 × qMem) := qI (qCall qMT d 30 [.ref 26, .ref 1] s)
noncomputable def l_S_lastMovers_1 (d : Nat)  (x2 : Int32) (x3 : Int32) (x4 : Int32) (s : qMem) : Option (Int32 × qMem) := qI (qK qMT d 30 (16, [some (.ref 26), some (.ref 1), some (.int x2), some (.int x3), some (.int x4), none], [], s))
set_option maxRecDepth 20000 in
theorem e_S_lastMovers (d : Nat)  (s : qMem) : m_S_lastMovers (d + 1) s = ((m_S_fewest d s).bind (fun q1 => (if 0 < q1.1 then (l_S_lastMovers_1 d q1.1 0 0 q1.2) else some (q1.1, q1.2)))) := d_step (t := (1, [some (.ref 26), some (.ref 1), none, none, none, none], [(.ref 26)], s)) 1 rfl
   (d_callI (o := (m_S_fewest d s)) rfl rfl (fun q1 =>
   d_step (t := (6, [some (.ref 26), some (.ref 1), some (.int q1.1), none, none, none], [(.int q1.1)], q1.2)) 2 rfl
   (d_if (a := (11, [some (.ref 26), some (.ref 1), some (.int q1.1), none, none, none], [], q1.2)) (b := (9, [some (.ref 26), some (.ref 1), some (.int q1.1), none, none, none], [], q1.2)) rfl rfl
   (d_step (t := (16, [some (.ref 26), some (.ref 1), some (.int q1.1), some (.int 0), some (.int 0), none], [], q1.2)) 4 rfl
   (d_lab (x2 := (16, [some (.ref 26), some (.ref 1), some (.int q1.1), some (.int 0), some (.int 0), none], [], q1.2)) rfl rfl rfl))
   (d_step (t := (10, [some (.ref 26), some (.ref 1), some (.int q1.1), none, none, none], [(.int q1.1)], q1.2)) 1 rfl
   (d_ret (k := 0) rfl rfl)))))
set_option maxRecDepth 20000 in
theorem el_S_lastMovers_1 (d : Nat)  (x2 : Int32) (x3 : Int32) (x4 : Int32) (s : qMem) : l_S_lastMovers_1 d x2 x3 x4 s = (if ((s).1 1 1) ≤ x4 then some (x3, s) else (if 5 ≤ x4 then some (x3, s) else (if qIn x4 5 then ((m_T_goes d 1 x4 s).bind (fun q1 => (if q1.1 = 0 then (l_S_lastMovers_1 d x2 x3 (x4 + 1) q1.2) else ((m_S_awayOf d (((s).1 26 4) - (qKon qPV (x4).toNatClampNeg)) q1.2).bind (fun q2 => (if q2.1 = (x2 - 1) then ((m_S_unfold d (((s).1 26 4) - (qKon qPV (x4).toNatClampNeg)) q2.2).bind (fun q3 => ((m_T_canRise d 1 x4 30 q3).bind (fun q4 => (if q4.1 = 0 then (l_S_lastMovers_1 d x2 x3 (x4 + 1) q4.2) else (l_S_lastMovers_1 d x2 (x3 ||| (1 <<< (x4 &&& 31))) (x4 + 1) q4.2)))))) else (l_S_lastMovers_1 d x2 x3 (x4 + 1) q2.2))))))) else none))) := d_step (t := (22, [some (.ref 26), some (.ref 1), some (.int x2), some (.int x3), some (.int x4), none], [(.int ((s).1 1 1)), (.int x4)], s)) 3 rfl
   (d_if (a := (97, [some (.ref 26), some (.ref 1), some (.int x2), some (.int x3), some (.int x4), none], [], s)) (b := (25, [some (.ref 26), some (.ref 1), some (.int x2), some (.int x3), some (.int x4), none], [], s)) rfl rfl
   (d_step (t := (98, [some (.ref 26), some (.ref 1), some (.int x2), some (.int x3), some (.int x4), none], [(.int x3)], s)) 1 rfl
   (d_ret (k := 0) rfl rfl))
   (d_step (t := (28, [some (.ref 26), some (.ref 1), some (.int x2), some (.int x3), some (.int x4), none], [(.int 5), (.int x4)], s)) 2 rfl
   (d_if (a := (97, [some (.ref 26), some (.ref 1), some (.int x2), some (.int x3), some (.int x4), none], [], s)) (b := (31, [some (.ref 26), some (.ref 1), some (.int x2), some (.int x3), some (.int x4), none], [], s)) rfl rfl
   (d_step (t := (98, [some (.ref 26), some (.ref 1), some (.int x2), some (.int x3), some (.int x4), none], [(.int x3)], s)) 1 rfl
   (d_ret (k := 0) rfl rfl))
   (d_step (t := (40, [some (.ref 26), some (.ref 1), some (.int x2), some (.int x3), some (.int x4), none], [(.int x4), (.ref 61), (.int ((s).1 26 4))], s)) 4 rfl
   (d_chk (a := (41, [some (.ref 26), some (.ref 1), some (.int x2), some (.int x3), some (.int x4), none], [(.int (qKon qPV (x4).toNatClampNeg)), (.int ((s).1 26 4))], s)) rfl rfl
   (d_step (t := (47, [some (.ref 26), some (.ref 1), some (.int x2), some (.int x3), some (.int x4), some (.int (((s).1 26 4) - (qKon qPV (x4).toNatClampNeg)))], [(.int x4), (.ref 1)], s)) 4 rfl
   (d_callI (o := (m_T_goes d 1 x4 s)) rfl rfl (fun q1 =>
   d_if (a := (91, [some (.ref 26), some (.ref 1), some (.int x2), some (.int x3), some (.int x4), some (.int (((s).1 26 4) - (qKon qPV (x4).toNatClampNeg)))], [], q1.2)) (b := (53, [some (.ref 26), some (.ref 1), some (.int x2), some (.int x3), some (.int x4), some (.int (((s).1 26 4) - (qKon qPV (x4).toNatClampNeg)))], [], q1.2)) rfl rfl
   (d_step (t := (16, [some (.ref 26), some (.ref 1), some (.int x2), some (.int x3), some (.int (x4 + 1)), some (.int (((s).1 26 4) - (qKon qPV (x4).toNatClampNeg)))], [], q1.2)) 2 rfl
   (d_lab (x2 := (16, [some (.ref 26), some (.ref 1), some (.int x2), some (.int x3), some (.int (x4 + 1)), none], [], q1.2)) rfl rfl rfl))
   (d_step (t := (56, [some (.ref 26), some (.ref 1), some (.int x2), some (.int x3), some (.int x4), some (.int (((s).1 26 4) - (qKon qPV (x4).toNatClampNeg)))], [(.int (((s).1 26 4) - (qKon qPV (x4).toNatClampNeg))), (.ref 26)], q1.2)) 2 rfl
   (d_callI (o := (m_S_awayOf d (((s).1 26 4) - (qKon qPV (x4).toNatClampNeg)) q1.2)) rfl rfl (fun q2 =>
   d_step (t := (62, [some (.ref 26), some (.ref 1), some (.int x2), some (.int x3), some (.int x4), some (.int (((s).1 26 4) - (qKon qPV (x4).toNatClampNeg)))], [(.int (x2 - 1)), (.int q2.1)], q2.2)) 3 rfl
   (d_if (a := (65, [some (.ref 26), some (.ref 1), some (.int x2), some (.int x3), some (.int x4), some (.int (((s).1 26 4) - (qKon qPV (x4).toNatClampNeg)))], [], q2.2)) (b := (91, [some (.ref 26), some (.ref 1), some (.int x2), some (.int x3), some (.int x4), some (.int (((s).1 26 4) - (qKon qPV (x4).toNatClampNeg)))], [], q2.2)) rfl rfl
   (d_step (t := (68, [some (.ref 26), some (.ref 1), some (.int x2), some (.int x3), some (.int x4), some (.int (((s).1 26 4) - (qKon qPV (x4).toNatClampNeg)))], [(.int (((s).1 26 4) - (qKon qPV (x4).toNatClampNeg))), (.ref 26)], q2.2)) 2 rfl
   (d_callV (o := (m_S_unfold d (((s).1 26 4) - (qKon qPV (x4).toNatClampNeg)) q2.2)) rfl rfl (fun q3 =>
   d_step (t := (78, [some (.ref 26), some (.ref 1), some (.int x2), some (.int x3), some (.int x4), some (.int (((s).1 26 4) - (qKon qPV (x4).toNatClampNeg)))], [(.ref 30), (.int x4), (.ref 1)], q3)) 4 rfl
   (d_callI (o := (m_T_canRise d 1 x4 30 q3)) rfl rfl (fun q4 =>
   d_if (a := (91, [some (.ref 26), some (.ref 1), some (.int x2), some (.int x3), some (.int x4), some (.int (((s).1 26 4) - (qKon qPV (x4).toNatClampNeg)))], [], q4.2)) (b := (84, [some (.ref 26), some (.ref 1), some (.int x2), some (.int x3), some (.int x4), some (.int (((s).1 26 4) - (qKon qPV (x4).toNatClampNeg)))], [], q4.2)) rfl rfl
   (d_step (t := (16, [some (.ref 26), some (.ref 1), some (.int x2), some (.int x3), some (.int (x4 + 1)), some (.int (((s).1 26 4) - (qKon qPV (x4).toNatClampNeg)))], [], q4.2)) 2 rfl
   (d_lab (x2 := (16, [some (.ref 26), some (.ref 1), some (.int x2), some (.int x3), some (.int (x4 + 1)), none], [], q4.2)) rfl rfl rfl))
   (d_step (t := (16, [some (.ref 26), some (.ref 1), some (.int x2), some (.int (x3 ||| (1 <<< (x4 &&& 31)))), some (.int (x4 + 1)), some (.int (((s).1 26 4) - (qKon qPV (x4).toNatClampNeg)))], [], q4.2)) 8 rfl
   (d_lab (x2 := (16, [some (.ref 26), some (.ref 1), some (.int x2), some (.int (x3 ||| (1 <<< (x4 &&& 31)))), some (.int (x4 + 1)), none], [], q4.2)) rfl rfl rfl)))))))
   (d_step (t := (16, [some (.ref 26), some (.ref 1), some (.int x2), some (.int x3), some (.int (x4 + 1)), some (.int (((s).1 26 4) - (qKon qPV (x4).toNatClampNeg)))], [], q2.2)) 2 rfl
   (d_lab (x2 := (16, [some (.ref 26), some (.ref 1), some (.int x2), some (.int x3), some (.int (x4 + 1)), none], [], q2.2)) rfl rfl rfl))))))))))))))
noncomputable def m_S_fullestTop (d : Nat)  (s : qMem) : Option (Int32 × qMem) := qI (qCall qMT d 31 [.ref 26, .ref 1] s)
noncomputable def l_S_fullestTop_1 (d : Nat)  (x2 : Int32) (x3 : Int32) (s : qMem) : Option (Int32 × qMem) := qI (qK qMT d 31 (4, [some (.ref 26), some (.ref 1), some (.int x2), some (.int x3), none, none], [], s))
set_option maxRecDepth 20000 in
theorem e_S_fullestTop (d : Nat)  (s : qMem) : m_S_fullestTop (d + 1) s = (l_S_fullestTop_1 d 0 0 s) := d_step (t := (4, [some (.ref 26), some (.ref 1), some (.int 0), some (.int 0), none, none], [], s)) 4 rfl
   (d_lab (x2 := (4, [some (.ref 26), some (.ref 1), some (.int 0), some (.int 0), none, none], [], s)) rfl rfl rfl)
set_option maxRecDepth 20000 in
theorem el_S_fullestTop_1 (d : Nat)  (x2 : Int32) (x3 : Int32) (s : qMem) : l_S_fullestTop_1 d x2 x3 s = (if ((s).1 26 3) ≤ x3 then some (x2, s) else (if 3125 ≤ x3 then some (x2, s) else (if qIn x3 3125 then ((m_S_unfold d ((s).1 29 (x3).toNatClampNeg) s).bind (fun q1 => ((m_T_setAtTop d 30 q1).bind (fun q2 => ((m_bitCount d q2.1 q2.2).bind (fun q3 => ((m_bitCount d x2 q3.2).bind (fun q4 => (if 0 < (q3.1 - q4.1) then (l_S_fullestTop_1 d q2.1 (x3 + 1) q4.2) else (if (q3.1 - q4.1) = 0 then (if x2 ≤ q2.1 then (l_S_fullestTop_1 d x2 (x3 + 1) q4.2) else (l_S_fullestTop_1 d q2.1 (x3 + 1) q4.2)) else (l_S_fullestTop_1 d x2 (x3 + 1) q4.2))))))))))) else none))) := d_step (t := (9, [some (.ref 26), some (.ref 1), some (.int x2), some (.int x3), none, none], [(.int ((s).1 26 3)), (.int x3)], s)) 3 rfl
   (d_if (a := (76, [some (.ref 26), some (.ref 1), some (.int x2), some (.int x3), none, none], [], s)) (b := (12, [some (.ref 26), some (.ref 1), some (.int x2), some (.int x3), none, none], [], s)) rfl rfl
   (d_step (t := (77, [some (.ref 26), some (.ref 1), some (.int x2), some (.int x3), none, none], [(.int x2)], s)) 1 rfl
   (d_ret (k := 0) rfl rfl))
   (d_step (t := (16, [some (.ref 26), some (.ref 1), some (.int x2), some (.int x3), none, none], [(.int 3125), (.int x3)], s)) 2 rfl
   (d_if (a := (76, [some (.ref 26), some (.ref 1), some (.int x2), some (.int x3), none, none], [], s)) (b := (19, [some (.ref 26), some (.ref 1), some (.int x2), some (.int x3), none, none], [], s)) rfl rfl
   (d_step (t := (77, [some (.ref 26), some (.ref 1), some (.int x2), some (.int x3), none, none], [(.int x2)], s)) 1 rfl
   (d_ret (k := 0) rfl rfl))
   (d_step (t := (25, [some (.ref 26), some (.ref 1), some (.int x2), some (.int x3), none, none], [(.int x3), (.ref 29), (.ref 26)], s)) 4 rfl
   (d_chk (a := (26, [some (.ref 26), some (.ref 1), some (.int x2), some (.int x3), none, none], [(.int ((s).1 29 (x3).toNatClampNeg)), (.ref 26)], s)) rfl rfl
   (d_callV (o := (m_S_unfold d ((s).1 29 (x3).toNatClampNeg) s)) rfl rfl (fun q1 =>
   d_step (t := (34, [some (.ref 26), some (.ref 1), some (.int x2), some (.int x3), none, none], [(.ref 30), (.ref 1)], q1)) 3 rfl
   (d_callI (o := (m_T_setAtTop d 30 q1)) rfl rfl (fun q2 =>
   d_step (t := (41, [some (.ref 26), some (.ref 1), some (.int x2), some (.int x3), some (.int q2.1), none], [(.int q2.1)], q2.2)) 2 rfl
   (d_callI (o := (m_bitCount d q2.1 q2.2)) rfl rfl (fun q3 =>
   d_step (t := (45, [some (.ref 26), some (.ref 1), some (.int x2), some (.int x3), some (.int q2.1), none], [(.int x2), (.int q3.1)], q3.2)) 1 rfl
   (d_callI (o := (m_bitCount d x2 q3.2)) rfl rfl (fun q4 =>
   d_step (t := (53, [some (.ref 26), some (.ref 1), some (.int x2), some (.int x3), some (.int q2.1), some (.int (q3.1 - q4.1))], [(.int (q3.1 - q4.1))], q4.2)) 3 rfl
   (d_if (a := (67, [some (.ref 26), some (.ref 1), some (.int x2), some (.int x3), some (.int q2.1), some (.int (q3.1 - q4.1))], [], q4.2)) (b := (56, [some (.ref 26), some (.ref 1), some (.int x2), some (.int x3), some (.int q2.1), some (.int (q3.1 - q4.1))], [], q4.2)) rfl rfl
   (d_step (t := (4, [some (.ref 26), some (.ref 1), some (.int q2.1), some (.int (x3 + 1)), some (.int q2.1), some (.int (q3.1 - q4.1))], [], q4.2)) 4 rfl
   (d_lab (x2 := (4, [some (.ref 26), some (.ref 1), some (.int q2.1), some (.int (x3 + 1)), none, none], [], q4.2)) rfl rfl rfl))
   (d_step (t := (58, [some (.ref 26), some (.ref 1), some (.int x2), some (.int x3), some (.int q2.1), some (.int (q3.1 - q4.1))], [(.int (q3.1 - q4.1))], q4.2)) 1 rfl
   (d_if (a := (61, [some (.ref 26), some (.ref 1), some (.int x2), some (.int x3), some (.int q2.1), some (.int (q3.1 - q4.1))], [], q4.2)) (b := (70, [some (.ref 26), some (.ref 1), some (.int x2), some (.int x3), some (.int q2.1), some (.int (q3.1 - q4.1))], [], q4.2)) rfl rfl
   (d_step (t := (64, [some (.ref 26), some (.ref 1), some (.int x2), some (.int x3), some (.int q2.1), some (.int (q3.1 - q4.1))], [(.int x2), (.int q2.1)], q4.2)) 2 rfl
   (d_if (a := (70, [some (.ref 26), some (.ref 1), some (.int x2), some (.int x3), some (.int q2.1), some (.int (q3.1 - q4.1))], [], q4.2)) (b := (67, [some (.ref 26), some (.ref 1), some (.int x2), some (.int x3), some (.int q2.1), some (.int (q3.1 - q4.1))], [], q4.2)) rfl rfl
   (d_step (t := (4, [some (.ref 26), some (.ref 1), some (.int x2), some (.int (x3 + 1)), some (.int q2.1), some (.int (q3.1 - q4.1))], [], q4.2)) 2 rfl
   (d_lab (x2 := (4, [some (.ref 26), some (.ref 1), some (.int x2), some (.int (x3 + 1)), none, none], [], q4.2)) rfl rfl rfl))
   (d_step (t := (4, [some (.ref 26), some (.ref 1), some (.int q2.1), some (.int (x3 + 1)), some (.int q2.1), some (.int (q3.1 - q4.1))], [], q4.2)) 4 rfl
   (d_lab (x2 := (4, [some (.ref 26), some (.ref 1), some (.int q2.1), some (.int (x3 + 1)), none, none], [], q4.2)) rfl rfl rfl))))
   (d_step (t := (4, [some (.ref 26), some (.ref 1), some (.int x2), some (.int (x3 + 1)), some (.int q2.1), some (.int (q3.1 - q4.1))], [], q4.2)) 2 rfl
   (d_lab (x2 := (4, [some (.ref 26), some (.ref 1), some (.int x2), some (.int (x3 + 1)), none, none], [], q4.2)) rfl rfl rfl))))))))))))))))))
noncomputable def m_S_fewestFor (d : Nat) (one : Int32) (tp : Int32) (s : qMem) : Option (Int32 × qMem) := qI (qCall qMT d 32 [.ref 26, .int one, .int tp] s)
noncomputable def l_S_fewestFor_1 (d : Nat)  (x1 : Int32) (x2 : Int32) (x3 : Int32) (s : qMem) : Option (Int32 × qMem) := qI (qK qMT d 32 (13, [some (.ref 26), some (.int x1), some (.int x2), some (.int x3)], [], s))
set_option maxRecDepth 20000 in
theorem e_S_fewestFor (d : Nat) (one : Int32) (tp : Int32) (s : qMem) : m_S_fewestFor (d + 1) one tp s = (if one < 0 then some ((-1), s) else (if one < 5 then (l_S_fewestFor_1 d one tp 0 s) else some ((-1), s))) := d_step (t := (1, [some (.ref 26), some (.int one), some (.int tp), none], [(.int one)], s)) 1 rfl
   (d_if (a := (9, [some (.ref 26), some (.int one), some (.int tp), none], [], s)) (b := (4, [some (.ref 26), some (.int one), some (.int tp), none], [], s)) rfl rfl
   (d_step (t := (10, [some (.ref 26), some (.int one), some (.int tp), none], [(.int (-1))], s)) 1 rfl
   (d_ret (k := 0) rfl rfl))
   (d_step (t := (6, [some (.ref 26), some (.int one), some (.int tp), none], [(.int 5), (.int one)], s)) 2 rfl
   (d_if (a := (11, [some (.ref 26), some (.int one), some (.int tp), none], [], s)) (b := (9, [some (.ref 26), some (.int one), some (.int tp), none], [], s)) rfl rfl
   (d_step (t := (13, [some (.ref 26), some (.int one), some (.int tp), some (.int 0)], [], s)) 2 rfl
   (rfl))
   (d_step (t := (10, [some (.ref 26), some (.int one), some (.int tp), none], [(.int (-1))], s)) 1 rfl
   (d_ret (k := 0) rfl rfl)))))
set_option maxRecDepth 20000 in
theorem el_S_fewestFor_1 (d : Nat)  (x1 : Int32) (x2 : Int32) (x3 : Int32) (s : qMem) : l_S_fewestFor_1 d x1 x2 x3 s = (if ((s).1 26 3) ≤ x3 then some ((-1), s) else (if 3125 ≤ x3 then some ((-1), s) else (if qIn x3 3125 then ((m_S_unfold d ((s).1 29 (x3).toNatClampNeg) s).bind (fun q1 => (if qIn x1 5 then (if ((q1).1 30 (x1).toNatClampNeg) = x2 then (if qIn x3 3125 then ((m_S_awayOf d ((q1).1 29 (x3).toNatClampNeg) q1).bind (fun q2 => some (q2.1, q2.2))) else none) else (l_S_fewestFor_1 d x1 x2 (x3 + 1) q1)) else none))) else none))) := d_step (t := (18, [some (.ref 26), some (.int x1), some (.int x2), some (.int x3)], [(.int ((s).1 26 3)), (.int x3)], s)) 3 rfl
   (d_if (a := (65, [some (.ref 26), some (.int x1), some (.int x2), some (.int x3)], [], s)) (b := (21, [some (.ref 26), some (.int x1), some (.int x2), some (.int x3)], [], s)) rfl rfl
   (d_step (t := (66, [some (.ref 26), some (.int x1), some (.int x2), some (.int x3)], [(.int (-1))], s)) 1 rfl
   (d_ret (k := 0) rfl rfl))
   (d_step (t := (25, [some (.ref 26), some (.int x1), some (.int x2), some (.int x3)], [(.int 3125), (.int x3)], s)) 2 rfl
   (d_if (a := (65, [some (.ref 26), some (.int x1), some (.int x2), some (.int x3)], [], s)) (b := (28, [some (.ref 26), some (.int x1), some (.int x2), some (.int x3)], [], s)) rfl rfl
   (d_step (t := (66, [some (.ref 26), some (.int x1), some (.int x2), some (.int x3)], [(.int (-1))], s)) 1 rfl
   (d_ret (k := 0) rfl rfl))
   (d_step (t := (34, [some (.ref 26), some (.int x1), some (.int x2), some (.int x3)], [(.int x3), (.ref 29), (.ref 26)], s)) 4 rfl
   (d_chk (a := (35, [some (.ref 26), some (.int x1), some (.int x2), some (.int x3)], [(.int ((s).1 29 (x3).toNatClampNeg)), (.ref 26)], s)) rfl rfl
   (d_callV (o := (m_S_unfold d ((s).1 29 (x3).toNatClampNeg) s)) rfl rfl (fun q1 =>
   d_step (t := (43, [some (.ref 26), some (.int x1), some (.int x2), some (.int x3)], [(.int x1), (.ref 30)], q1)) 3 rfl
   (d_chk (a := (44, [some (.ref 26), some (.int x1), some (.int x2), some (.int x3)], [(.int ((q1).1 30 (x1).toNatClampNeg))], q1)) rfl rfl
   (d_step (t := (45, [some (.ref 26), some (.int x1), some (.int x2), some (.int x3)], [(.int x2), (.int ((q1).1 30 (x1).toNatClampNeg))], q1)) 1 rfl
   (d_if (a := (48, [some (.ref 26), some (.int x1), some (.int x2), some (.int x3)], [], q1)) (b := (59, [some (.ref 26), some (.int x1), some (.int x2), some (.int x3)], [], q1)) rfl rfl
   (d_step (t := (54, [some (.ref 26), some (.int x1), some (.int x2), some (.int x3)], [(.int x3), (.ref 29), (.ref 26)], q1)) 4 rfl
   (d_chk (a := (55, [some (.ref 26), some (.int x1), some (.int x2), some (.int x3)], [(.int ((q1).1 29 (x3).toNatClampNeg)), (.ref 26)], q1)) rfl rfl
   (d_callI (o := (m_S_awayOf d ((q1).1 29 (x3).toNatClampNeg) q1)) rfl rfl (fun q2 =>
   d_ret (k := 0) rfl rfl))))
   (d_step (t := (13, [some (.ref 26), some (.int x1), some (.int x2), some (.int (x3 + 1))], [], q1)) 2 rfl
   (rfl))))))))))))
noncomputable def m_S_positionsBehind (d : Nat) (k : Int32) (s : qMem) : Option (Int32 × qMem) := qI (qCall qMT d 33 [.ref 26, .int k] s)
noncomputable def l_S_positionsBehind_1 (d : Nat)  (x1 : Int32) (x2 : Int32) (x3 : Int32) (s : qMem) : Option (Int32 × qMem) := qI (qK qMT d 33 (4, [some (.ref 26), some (.int x1), some (.int x2), some (.int x3)], [], s))
set_option maxRecDepth 20000 in
theorem e_S_positionsBehind (d : Nat) (k : Int32) (s : qMem) : m_S_positionsBehind (d + 1) k s = (l_S_positionsBehind_1 d k 0 0 s) := d_step (t := (4, [some (.ref 26), some (.int k), some (.int 0), some (.int 0)], [], s)) 4 rfl
   (rfl)
set_option maxRecDepth 20000 in
theorem el_S_positionsBehind_1 (d : Nat)  (x1 : Int32) (x2 : Int32) (x3 : Int32) (s : qMem) : l_S_positionsBehind_1 d x1 x2 x3 s = (if ((s).1 26 3) ≤ x3 then some (x2, s) else (if 3125 ≤ x3 then some (x2, s) else (if qIn x3 3125 then ((m_S_awayOf d ((s).1 29 (x3).toNatClampNeg) s).bind (fun q1 => (if q1.1 = x1 then (l_S_positionsBehind_1 d x1 (x2 + 1) (x3 + 1) q1.2) else (l_S_positionsBehind_1 d x1 x2 (x3 + 1) q1.2)))) else none))) := d_step (t := (9, [some (.ref 26), some (.int x1), some (.int x2), some (.int x3)], [(.int ((s).1 26 3)), (.int x3)], s)) 3 rfl
   (d_if (a := (42, [some (.ref 26), some (.int x1), some (.int x2), some (.int x3)], [], s)) (b := (12, [some (.ref 26), some (.int x1), some (.int x2), some (.int x3)], [], s)) rfl rfl
   (d_step (t := (43, [some (.ref 26), some (.int x1), some (.int x2), some (.int x3)], [(.int x2)], s)) 1 rfl
   (d_ret (k := 0) rfl rfl))
   (d_step (t := (16, [some (.ref 26), some (.int x1), some (.int x2), some (.int x3)], [(.int 3125), (.int x3)], s)) 2 rfl
   (d_if (a := (42, [some (.ref 26), some (.int x1), some (.int x2), some (.int x3)], [], s)) (b := (19, [some (.ref 26), some (.int x1), some (.int x2), some (.int x3)], [], s)) rfl rfl
   (d_step (t := (43, [some (.ref 26), some (.int x1), some (.int x2), some (.int x3)], [(.int x2)], s)) 1 rfl
   (d_ret (k := 0) rfl rfl))
   (d_step (t := (25, [some (.ref 26), some (.int x1), some (.int x2), some (.int x3)], [(.int x3), (.ref 29), (.ref 26)], s)) 4 rfl
   (d_chk (a := (26, [some (.ref 26), some (.int x1), some (.int x2), some (.int x3)], [(.int ((s).1 29 (x3).toNatClampNeg)), (.ref 26)], s)) rfl rfl
   (d_callI (o := (m_S_awayOf d ((s).1 29 (x3).toNatClampNeg) s)) rfl rfl (fun q1 =>
   d_step (t := (30, [some (.ref 26), some (.int x1), some (.int x2), some (.int x3)], [(.int x1), (.int q1.1)], q1.2)) 1 rfl
   (d_if (a := (33, [some (.ref 26), some (.int x1), some (.int x2), some (.int x3)], [], q1.2)) (b := (36, [some (.ref 26), some (.int x1), some (.int x2), some (.int x3)], [], q1.2)) rfl rfl
   (d_step (t := (4, [some (.ref 26), some (.int x1), some (.int (x2 + 1)), some (.int (x3 + 1))], [], q1.2)) 3 rfl
   (rfl))
   (d_step (t := (4, [some (.ref 26), some (.int x1), some (.int x2), some (.int (x3 + 1))], [], q1.2)) 2 rfl
   (rfl))))))))))
