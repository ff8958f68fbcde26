/-! every call: both answer the same, what holds between them holds again -/
def CINV (s : qMem) : Prop := ∃ c lv, INV s c lv
theorem bth_mono {G M : qMem → Option (Int32 × qMem)} {s : qMem} {P Q : qMem → Prop} (h : bth G M s P) (k : ∀ t, P t → Q t) : bth G M s Q := by
  obtain ⟨r, s1, s2, h1, h2, h3⟩ := h
  exact ⟨r, s1, s2, h1, h2, k s2 h3⟩
section CALLS
variable {s : qMem}
theorem all_ask {G M : Co → (Nat → Nat) → qMem → Option (Int32 × qMem)} {G0 M0 : qMem → Option (Int32 × qMem)} (h : ∀ c lv, cOk c → lvOk c lv → asks c lv G0 M0) (hI : CINV s) : bth G0 M0 s CINV := by
  obtain ⟨c, lv, hI⟩ := hI
  exact bth_mono (bth_asks (h c lv hI.1 hI.2.1) hI) (fun t ht => ⟨c, lv, ht⟩)
theorem all_one1 {G0 M0 : qMem → Option (Int32 × qMem)} (h : ∀ c lv, INV s c lv → bth G0 M0 s (fun s2 => INV s2 c lv)) (hI : CINV s) : bth G0 M0 s CINV := by
  obtain ⟨c, lv, hI⟩ := hI
  exact bth_mono (h c lv hI) (fun t ht => ⟨c, lv, ht⟩)
theorem all_one2 {G0 M0 : qMem → Option (Int32 × qMem)} (h : ∀ c lv, INV s c lv → bth G0 M0 s (fun s2 => ∃ lv2, INV s2 c lv2)) (hI : CINV s) : bth G0 M0 s CINV := by
  obtain ⟨c, lv, hI⟩ := hI
  exact bth_mono (h c lv hI) (fun t ⟨lv2, ht⟩ => ⟨c, lv2, ht⟩)
theorem al_write {bs : Int64} {n : Int32} (hI : CINV s) : bth (m_G_write 10 bs n) (m_M_write 10 bs n) s CINV := all_one1 (fun _ _ h => bth_write (d := 2) h) hI
theorem al_erase (hI : CINV s) : bth (m_G_erase 10) (m_M_erase 10) s CINV := all_one1 (fun _ _ h => bth_erase (d := 8) h) hI
theorem al_fault (hI : CINV s) : bth (m_G_fault 10) (m_M_fault 10) s CINV := all_one1 (fun _ _ h => bth_fault (d := 1) h) hI
theorem al_stair (hI : CINV s) : bth (m_G_stair 10) (m_M_stair 10) s CINV := by
  obtain ⟨c, lv, hI⟩ := hI
  exact bth_stair (d := 1) hI
theorem al_step {x y : Int32} (hI : CINV s) : bth (m_G_step 10 x y) (m_M_step 10 x y) s CINV := all_ask (G := fun _ _ => m_G_step 10 x y) (M := fun _ _ => m_M_step 10 x y) (fun _ _ hk _ => ask_step (d := 2) hk) hI
theorem al_one {x y : Int32} (hI : CINV s) : bth (m_G_one 10 x y) (m_M_one 10 x y) s CINV := all_one1 (fun _ _ h => bth_one (d := 2) h) hI
theorem al_as {x y : Int32} (hI : CINV s) : bth (m_G_as 10 x y) (m_M_as 10 x y) s CINV := all_ask (G := fun _ _ => m_G_as 10 x y) (M := fun _ _ => m_M_as 10 x y) (fun _ _ hk hl => ask_as (d := 2) hk hl) hI
theorem al_up {x y z : Int32} (hI : CINV s) : bth (m_G_up 10 x y z) (m_M_up 10 x y z) s CINV := all_one2 (fun _ _ h => bth_up (d := 2) h) hI
theorem al_down {x y : Int32} (hI : CINV s) : bth (m_G_down 10 x y) (m_M_down 10 x y) s CINV := all_one2 (fun _ _ h => bth_down (d := 2) h) hI
theorem al_helped {x y : Int32} (hI : CINV s) : bth (m_G_helped 10 x y) (m_M_helped 10 x y) s CINV := all_one1 (fun _ _ h => bth_helped (d := 2) h) hI
theorem al_keep {x : Int32} (hI : CINV s) : bth (m_G_keep 10 x) (m_M_keep 10 x) s CINV := all_one1 (fun _ _ h => bth_keep (d := 2) h) hI
theorem al_back {x : Int32} (hI : CINV s) : bth (m_G_back 10 x) (m_M_back 10 x) s CINV := all_one2 (fun _ _ h => bth_back (d := 2) h) hI
theorem al_help {x y : Int32} (hI : CINV s) : bth (m_G_help 10 x y) (m_M_help 10 x y) s CINV := all_ask (G := fun _ _ => m_G_help 10 x y) (M := fun _ _ => m_M_help 10 x y) (fun _ _ hk hl => ask_help (d := 2) hk hl) hI
theorem al_soonest (hI : CINV s) : bth (m_G_soonest 10) (m_M_soonest 10) s CINV := all_ask (G := fun _ _ => m_G_soonest 10) (M := fun _ _ => m_M_soonest 10) (fun _ _ hk hl => ask_asks (ask_soonest (d := 2) hk hl)) hI
theorem al_way {x y : Int32} (hI : CINV s) : bth (m_G_way 10 x y) (m_M_way 10 x y) s CINV := all_ask (G := fun _ _ => m_G_way 10 x y) (M := fun _ _ => m_M_way 10 x y) (fun _ _ hk hl => ask_asks (ask_way (d := 2) hk hl)) hI
theorem al_lasts (hI : CINV s) : bth (m_G_lasts 10) (m_M_lasts 10) s CINV := all_ask (G := fun _ _ => m_G_lasts 10) (M := fun _ _ => m_M_lasts 10) (fun _ _ hk hl => ask_asks (ask_lasts (d := 2) hk hl)) hI
theorem al_most {x : Int32} (hI : CINV s) : bth (m_G_most 10 x) (m_M_most 10 x) s CINV := all_ask (G := fun _ _ => m_G_most 10 x) (M := fun _ _ => m_M_most 10 x) (fun _ _ hk hl => ask_asks (ask_most (d := 2) hk hl)) hI
theorem al_soon {x : Int32} (hI : CINV s) : bth (m_G_soon 10 x) (m_M_soon 10 x) s CINV := all_ask (G := fun _ _ => m_G_soon 10 x) (M := fun _ _ => m_M_soon 10 x) (fun _ _ hk hl => ask_asks (ask_soon (d := 2) hk hl)) hI
theorem al_many {x : Int32} (hI : CINV s) : bth (m_G_many 10 x) (m_M_many 10 x) s CINV := all_ask (G := fun _ _ => m_G_many 10 x) (M := fun _ _ => m_M_many 10 x) (fun _ _ hk hl => ask_asks (ask_many (d := 2) hk hl)) hI
theorem al_roped {x : Int32} (hI : CINV s) : bth (m_G_roped 10 x) (m_M_roped 10 x) s CINV := all_ask (G := fun _ _ => m_G_roped 10 x) (M := fun _ _ => m_M_roped 10 x) (fun _ _ hk hl => ask_roped (d := 2) hk hl) hI
theorem al_odds {x y : Int32} (hI : CINV s) : bth (m_G_odds 10 x y) (m_M_odds 10 x y) s CINV := all_ask (G := fun _ _ => m_G_odds 10 x y) (M := fun _ _ => m_M_odds 10 x y) (fun _ _ hk hl => ask_odds (d := 2) hk hl) hI
theorem al_row {x y : Int32} (hI : CINV s) : bth (m_G_row 10 x y) (m_M_row 10 x y) s CINV := all_one1 (fun _ _ h => bth_row (d := 2) h) hI
theorem al_burn (hI : CINV s) : bth (m_G_burn 10) (m_M_burn 10) s CINV := all_one1 (fun _ _ h => bth_burn (d := 9) h) hI
theorem al_judge (hI : CINV s) : bth (m_G_judge 10) (m_M_judge 10) s CINV := all_one1 (fun _ _ h => bth_judge (d := 2) h) hI
theorem al_count {x : Int32} (hI : CINV s) : bth (m_G_count 10 x) (m_M_count 10 x) s CINV := all_one1 (fun _ _ h => bth_count (d := 2) h) hI
end CALLS
