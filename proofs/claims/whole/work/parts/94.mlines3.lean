/-! The reference reads a line: signs, watchers. -/
section ML4
variable {N y : Nat} {X : TX} {s : ZS} {D : DV} {h : PH}
theorem M_span (hN : 2000 ≤ N) {i k : Nat} {l : Int64} (hi : i < 27) (hl : l = lN (k27 i)) (hk : 24 ≤ k ∧ k + 1 < 48) (hs : s.1 = 0) (z : RZ X y h s.2) {cnt : Nat → Nat} {nm : Nat → Nat → Nat} (n0 : NmM h y 1 cnt nm) : ∃ h', f_X11_readsSpan N y l (nI k) h = some (yb (decide ((ra3 X (xEx X i s)).1 = 0)), h') ∧ Pf y h h' ∧ MRs X y h' (ra3 X (xEx X i s)) ∧ NmM h' y 1 cnt nm ∧ hI h' y 23 = hI h y 23 ∧ hJ h' y 38 = hJ h y 38 ∧ (∀ j, 2 ≤ j → j ≤ 16 → j ≠ 9 → hI h' (y + j) = hI h (y + j)) ∧ ((ra3 X (xEx X i s)).1 = 0 → hI h' (y + 9) = va_up (va_up (hI h (y + 9)) k (nI (xnv X (xEx X i s).2))) (k + 1) (nI (xnv X (ra2 X (xEx X i s)).2))) := by
  obtain ⟨g1, a1, k1, t1, v1⟩ := M_both (N := N) hN (i := i) (a := 0) (b := 999) (l1 := 0) (l2 := 999) hi hl (by decide) (by decide) rfl rfl hs z
  have t1 : MRs X y g1 (ra1 X (xEx X i s)) := t1
  have a1 : f_X11_needsBoth N y l 0 999 h = some (yb (decide ((ra1 X (xEx X i s)).1 = 0)), g1) := a1
  have o1 : ∀ j, 2 ≤ j → j ≤ 16 → hI g1 (y + j) = hI h (y + j) := fun j a b => (k1.1.2.2 _ (by omega)).1
  unfold f_X11_readsSpan
  rw [ck_p z.1.1.1, a1, cl_s, ite_i yb0]
  by_cases c1 : (ra1 X (xEx X i s)).1 = 0
  rotate_left
  · have fz : ra3 X (xEx X i s) = ra1 X (xEx X i s) := by
      unfold ra3 ra2
      rw [xEx_z c1, xNu_z c1]
    rw [if_pos (decide_eq_false c1), fz]
    exact ⟨g1, by rw [decide_eq_false c1]; rfl, k1.rj.pf, t1, n0.rx k1.1, k1.2.1 23 (by omega), k1.2.2, fun j a b _ => o1 j a b, fun e => absurd e c1⟩
  have z1 := t1.1 c1
  have v1 : hI g1 y 37 = nI (xnv X (xEx X i s).2) := v1 c1
  have lv := xnv_b c1
  obtain ⟨g2, gd2⟩ : ∃ g, g = sI g1 (y + 9) k (nI (xnv X (xEx X i s).2)) := ⟨_, rfl⟩
  have z2 : RZ X y g2 (ra1 X (xEx X i s)).2 := by rw [gd2]; exact z1.W (by decide)
  have f2 : hI g2 (y + 9) = va_up (hI h (y + 9)) k (nI (xnv X (xEx X i s).2)) := by rw [gd2, hI_sI_eq, o1 9 (by decide) (by decide)]
  have p2 : Pf y h g2 := by rw [gd2]; exact k1.rj.pf.trans (Pf.I (by decide) (by decide) (by show 24 ≤ _; omega))
  have n2 : NmM g2 y 1 cnt nm := by rw [gd2]; exact (n0.rx k1.1).W (by decide) (by decide)
  obtain ⟨g3, a3, k3, t3, v3⟩ := M_both (N := N) hN (i := 9) (a := xnv X (xEx X i s).2) (b := 999) (l1 := nI (xnv X (xEx X i s).2)) (l2 := 999) (by decide) kL9 (by omega) (by decide) rfl rfl (s := ra1 X (xEx X i s)) c1 z2
  have t3 : MRs X y g3 (ra3 X (xEx X i s)) := t3
  have a3 : f_X11_needsBoth N y (555 : Int64) (nI (xnv X (xEx X i s).2)) 999 g2 = some (yb (decide ((ra3 X (xEx X i s)).1 = 0)), g3) := a3
  have p3 := p2.trans k3.rj.pf
  have n3 := n2.rx k3.1
  have y3 : hI g3 y 23 = hI h y 23 := by rw [k3.2.1 23 (by omega), gd2, hI_sI_ne (by omega), k1.2.1 23 (by omega)]
  have j3 : hJ g3 y 38 = hJ h y 38 := by rw [k3.2.2, gd2, hJ_sI, k1.2.2]
  have o3 : ∀ j, 2 ≤ j → j ≤ 16 → j ≠ 9 → hI g3 (y + j) = hI h (y + j) := fun j a b c => by rw [(k3.1.2.2 _ (by omega)).1, gd2, hI_sI_ne (by omega), o1 j a b]
  have f3 : hI g3 (y + 9) = va_up (hI h (y + 9)) k (nI (xnv X (xEx X i s).2)) := (k3.1.2.2 _ (by omega)).1.trans f2
  rw [if_neg (by rw [decide_eq_true c1]; decide), ck_p z1.1.1.1, mR_signs z1.1.1, rq_s, ck_p (mK_signs z1.1.1), mN_signs z1.1.1, ck_p (nI_ix (by omega) (by decide)), ix_nI (by omega), v1, bd_e, ← gd2, ck_p z2.1.1.1, mR_signs z2.1.1, rq_s, ck_p (mK_signs z2.1.1), mN_signs z2.1.1, ck_p (nI_ix (by omega) (by decide)), f2, va_eq, a3, cl_s, ite_i yb0]
  by_cases c3 : (ra3 X (xEx X i s)).1 = 0
  rotate_left
  · rw [if_pos (decide_eq_false c3)]
    exact ⟨g3, by rw [decide_eq_false c3]; rfl, p3, t3, n3, y3, j3, o3, fun e => absurd e c3⟩
  have z3 := t3.1 c3
  have v3 : hI g3 y 37 = nI (xnv X (ra2 X (xEx X i s)).2) := v3 c3
  rw [if_neg (by rw [decide_eq_true c3]; decide), ck_p z3.1.1.1, mR_signs z3.1.1, rq_s, ck_p (mK_signs z3.1.1), mN_signs z3.1.1, nI_1, ck_p (nI_ix (by omega) (by decide)), ix_nI (by omega), v3, bd_e]
  refine ⟨_, by rw [decide_eq_true c3]; rfl, p3.trans (Pf.I (by decide) (by decide) (by show 24 ≤ _; omega)), ⟨fun _ => z3.W (by decide), fun e => absurd c3 e⟩, n3.W (by decide) (by decide), by rw [hI_sI_ne (by omega)]; exact y3, j3, fun j a b c => by rw [hI_sI_ne (by omega)]; exact o3 j a b c, fun _ => by rw [hI_sI_eq, f3]⟩
theorem m_readsSign (hN : 2000 ≤ N) (hs : s.1 = 0) (z : RZ X y h s.2) (q : DM h y D) (dw : DW D) : ∃ h', f_X11_readsSign N y h = some (yb (decide ((si7 X D s).1 = 0)), h') ∧ Pf y h h' ∧ MRs X y h' (si7 X D s) ∧ ((si7 X D s).1 = 0 → DM h' y (uSi X D s)) := by
  have n0 := q.1
  have m := n0.1
  have p0 : Pf y h h := Pf.rf
  have o0 : ∀ j, 2 ≤ j → j ≤ 16 → hI h (y + j) = hI h (y + j) := fun _ _ _ => rfl
  have y0 : hI h y 23 = hI h y 23 := rfl
  have cn : hI h (y + 2) 9 = nI (vC D 3) := by have := (q.1.2 3 (by decide)).2.1; exact this
  have mk : vC D 3 ≤ 6 := dw.1.1 3 (by decide)
  unfold f_X11_readsSign
  rw [ck_p m.1, mR_valley m, rq_s, ck_p (mK_valley m), mN_valley m, ck_p (by decide), cn, show (6 : Int32) + nI (vC D 3) = nI (6 + vC D 3) from nI_add 6 _, bd_e, ite_i (show nI (6 + vC D 3) = (12 : Int32) ↔ vC D 3 = 6 from (nI_eq (b := 12) (by omega) (by decide)).trans ⟨fun e => by omega, fun e => by omega⟩)]
  by_cases cm : vC D 3 = 6
  · obtain ⟨g, r1, r2, r3⟩ := m_fails (N := N) (k := 5) z
    have r1 : f_X11_fails N y 5 h = _ := r1
    have e1 : si1 X D s = (5 + 16 * xbg X s.2, s.2) := by
      unfold si1 xMor
      rw [if_neg (by omega), stp_z (flt_n (by decide)), flt_0 hs]
    have c1 : (si1 X D s).1 ≠ 0 := by
      rw [e1]
      show 5 + 16 * xbg X s.2 ≠ 0
      omega
    have fz : si7 X D s = si1 X D s := by
      unfold si7 si6 ra3 ra2 ra1 si5 si4 ra3 ra2 ra1 si3 si2
      rw [xNew_z c1, xEx_z c1, xNu_z c1, xEx_z c1, xNu_z c1, xEx_z c1, xNu_z c1, xEx_z c1, xNu_z c1, xSn_z c1]
    rw [if_pos cm, r1, cl_s, ck_p (Or.inl rfl), fz]
    exact ⟨g, by rw [decide_eq_false c1]; rfl, r2.rj.pf, by rw [e1]; exact MRs.f (by decide) r3, fun e => absurd e c1⟩
  have m5 : vC D 3 < 6 := by omega
  have e1 : si1 X D s = stp X s := by
    unfold si1 xMor
    rw [if_pos m5]
  rw [if_neg cm]
  obtain ⟨g1, a1, k1, t1, z1⟩ := m_next (N := N) hN z
  have es1 : si1 X D s = (0, xnx X (s).2) := by
    rw [e1]; exact stp_0 hs
  have c1 : (si1 X D s).1 = 0 := by rw [es1]
  have z1 : RZ X y g1 (si1 X D s).2 := by rw [es1]; exact z1
  have p1 := p0.trans k1.rj.pf
  have y1 := (k1.2.1 23 (by omega)).trans y0
  have o1 : ∀ j, 2 ≤ j → j ≤ 16 → hI g1 (y + j) = hI h (y + j) := fun j a b => (k1.1.2.2 _ (by omega)).1.trans (o0 j a b)
  have n1 := n0.rx k1.1
  rw [a1, cl_s]
  obtain ⟨g2, a2, k2, t2, v2⟩ := M_new (N := N) hN (s := si1 X D s) c1 z1 n1
  have p2 := p1.trans k2.pf
  have y2 := (k2.2 23 (by omega)).trans y1
  have t2 : MRs X y g2 (si2 X D s) := t2
  have a2 : f_X11_needsNew N y g1 = some (yb (decide ((si2 X D s).1 = 0)), g2) := a2
  have o2 : ∀ j, 2 ≤ j → j ≤ 16 → hI g2 (y + j) = hI h (y + j) := fun j a b => (k2.1.2.2 _ (by omega)).1.trans (o1 j a b)
  have n2 := n1.rx k2.1
  rw [ck_p z1.1.1.1, a2, cl_s, ite_i yb0]
  by_cases c2 : (si2 X D s).1 = 0
  rotate_left
  · have fz : si7 X D s = si2 X D s := by
      unfold si7 si6 ra3 ra2 ra1 si5 si4 ra3 ra2 ra1 si3
      rw [xEx_z c2, xNu_z c2, xEx_z c2, xNu_z c2, xEx_z c2, xNu_z c2, xEx_z c2, xNu_z c2, xSn_z c2]
    rw [if_pos (decide_eq_false c2), fz]
    exact ⟨g2, by rw [decide_eq_false c2]; rfl, p2, t2, fun e => absurd e c2⟩
  rw [if_neg (by rw [decide_eq_true c2]; decide)]
  have z2 := t2.1 c2
  obtain ⟨wn, -⟩ := xNew_s (X := X) (cnt := vC D) (nm := vN D) (s := si1 X D s) c2
  have wd := xwv_W (sNm_i.mp wn).2.1
  have v2 : hJ g2 y 38 = lN (u27 (xwv X (si1 X D s).2)) := v2 c2
  have i1 : (4 : Int32) * nI (6 + vC D 3) = nI (24 + 4 * vC D 3) := by
    rw [show (4 : Int32) = nI 4 from rfl, pk_mul]
    congr 1
    omega
  have i2 : nI (24 + 4 * vC D 3) + (2 : Int32) = nI (24 + 4 * vC D 3 + 2) := nI_add _ 2
  obtain ⟨g3, a3, x3, t3, n3, y3, j3, o3, f3⟩ := M_span (N := N) hN (i := 1) (k := 24 + 4 * vC D 3) (by decide) kL1 (by omega) (s := si2 X D s) c2 z2 n2
  have t3 : MRs X y g3 (si4 X D s) := t3
  have a3 : f_X11_readsSpan N y (79958 : Int64) (nI (24 + 4 * vC D 3)) g2 = some (yb (decide ((si4 X D s).1 = 0)), g3) := a3
  have p3 := p2.trans x3
  rw [ck_p z2.1.1.1, i1, a3, cl_s, ite_i yb0]
  by_cases c3 : (si4 X D s).1 = 0
  rotate_left
  · have fz : si7 X D s = si4 X D s := by
      unfold si7 si6 ra3 ra2 ra1 si5
      rw [xEx_z c3, xNu_z c3, xEx_z c3, xNu_z c3, xSn_z c3]
    rw [if_pos (decide_eq_false c3), fz]
    exact ⟨g3, by rw [decide_eq_false c3]; rfl, p3, t3, fun e => absurd e c3⟩
  rw [if_neg (by rw [decide_eq_true c3]; decide)]
  have z3 := t3.1 c3
  obtain ⟨g4, a4, x4, t4, n4, y4, j4, o4, f4⟩ := M_span (N := N) hN (i := 2) (k := 24 + 4 * vC D 3 + 2) (by decide) kL2 (by omega) (s := si4 X D s) c3 z3 n3
  have t4 : MRs X y g4 (si6 X D s) := t4
  have a4 : f_X11_readsSpan N y (10553888 : Int64) (nI (24 + 4 * vC D 3 + 2)) g3 = some (yb (decide ((si6 X D s).1 = 0)), g4) := a4
  have p4 := p3.trans x4
  rw [ck_p z3.1.1.1, i2, a4, cl_s, ite_i yb0]
  by_cases c4 : (si6 X D s).1 = 0
  rotate_left
  · have fz : si7 X D s = si6 X D s := xSn_z c4
    rw [if_pos (decide_eq_false c4), fz]
    exact ⟨g4, by rw [decide_eq_false c4]; rfl, p4, t4, fun e => absurd e c4⟩
  rw [if_neg (by rw [decide_eq_true c4]; decide)]
  have z4 := t4.1 c4
  have f3 : hI g3 (y + 9) = va_up (va_up (hI g2 (y + 9)) (24 + 4 * vC D 3) (nI (xnv X (si3 X D s).2))) (24 + 4 * vC D 3 + 1) (nI (xnv X (ra2 X (si3 X D s)).2)) := f3 c3
  have f4 : hI g4 (y + 9) = va_up (va_up (hI g3 (y + 9)) (24 + 4 * vC D 3 + 2) (nI (xnv X (si5 X D s).2))) (24 + 4 * vC D 3 + 2 + 1) (nI (xnv X (ra2 X (si5 X D s)).2)) := f4 c4
  have y4 : hI g4 y 23 = hI h y 23 := (y4.trans y3).trans y2
  have o4 : ∀ j, 2 ≤ j → j ≤ 16 → j ≠ 9 → hI g4 (y + j) = hI h (y + j) := fun j a b d => ((o4 j a b d).trans (o3 j a b d)).trans (o2 j a b)
  have f9_4 : hI g4 (y + 9) = va_up (va_up (va_up (va_up (hI h (y + 9)) (24 + 4 * vC D 3) (nI (xnv X (si3 X D s).2))) (24 + 4 * vC D 3 + 1) (nI (xnv X (ra2 X (si3 X D s)).2))) (24 + 4 * vC D 3 + 2) (nI (xnv X (si5 X D s).2))) (24 + 4 * vC D 3 + 2 + 1) (nI (xnv X (ra2 X (si5 X D s)).2)) := by rw [f4, f3, o2 9 (by decide) (by decide)]
  have jj : hJ g4 y 38 = lN (u27 (xwv X (si1 X D s).2)) := (j4.trans j3).trans v2
  obtain ⟨a5, n5⟩ := m_keepsName (N := N) (k := 3) (by decide) wd (show vC D 3 < mk5 3 from m5) jj n4
  have a5 : f_X11_keepsName N y 3 g4 = _ := a5
  have x1 : Pf y g4 (sJ g4 (y + 3) (22 + (fN 3 + vC D 3)) (lN (u27 (xwv X (si1 X D s).2)))) := Pf.J (by omega)
  have x2 : Pf y g4 (sI (sJ g4 (y + 3) (22 + (fN 3 + vC D 3)) (lN (u27 (xwv X (si1 X D s).2)))) (y + 2) (6 + 3) (nI (vC D 3 + 1))) := x1.trans (Pf.I (by decide) (by decide) (by show 6 ≤ _; omega))
  have z5 : RZ X y (sI (sJ g4 (y + 3) (22 + (fN 3 + vC D 3)) (lN (u27 (xwv X (si1 X D s).2)))) (y + 2) (6 + 3) (nI (vC D 3 + 1))) (si6 X D s).2 := (z4.WJ).W (by decide)
  have fI : ∀ j, j ≠ y + 2 → hI (sI (sJ g4 (y + 3) (22 + (fN 3 + vC D 3)) (lN (u27 (xwv X (si1 X D s).2)))) (y + 2) (6 + 3) (nI (vC D 3 + 1))) j = hI g4 j := fun j hj => hI_sI_ne hj
  have f2 : hI (sI (sJ g4 (y + 3) (22 + (fN 3 + vC D 3)) (lN (u27 (xwv X (si1 X D s).2)))) (y + 2) (6 + 3) (nI (vC D 3 + 1))) (y + 2) = va_up (hI g4 (y + 2)) (6 + 3) (nI (vC D 3 + 1)) := hI_sI_eq
  rw [ck_p z4.1.1.1, a5, cl_s]
  generalize sI (sJ g4 (y + 3) (22 + (fN 3 + vC D 3)) (lN (u27 (xwv X (si1 X D s).2)))) (y + 2) (6 + 3) (nI (vC D 3 + 1)) = g5 at x2 z5 fI f2 n5
  have p5 := p4.trans x2
  have y5 : hI g5 y 23 = hI h y 23 := by rw [fI _ (by omega)]; exact y4
  have o5 : ∀ j, 2 ≤ j → j ≤ 16 → j ≠ 9 → j ≠ 2 → hI g5 (y + j) = hI h (y + j) := fun j a b w9 w2 => by rw [fI _ (by omega)]; exact o4 j a b w9
  have f9_5 : hI g5 (y + 9) = _ := (fI _ (by omega)).trans f9_4
  have f2_5 : hI g5 (y + 2) = va_up (hI h (y + 2)) (6 + 3) (nI (vC D 3 + 1)) := by rw [f2, o4 2 (by decide) (by decide) (by decide)]
  obtain ⟨g6, a6, k6, t6⟩ := M_closes (N := N) hN (s := si6 X D s) c4 z5
  have p6 := p5.trans k6.rj.pf
  have y6 := (k6.2.1 23 (by omega)).trans y5
  have t6 : MRs X y g6 (si7 X D s) := t6
  have a6 : f_X11_closes N y g5 = some (yb (decide ((si7 X D s).1 = 0)), g6) := a6
  have o6 : ∀ j, 2 ≤ j → j ≤ 16 → j ≠ 9 → j ≠ 2 → hI g6 (y + j) = hI h (y + j) := fun j a b w9 w2 => (k6.1.2.2 _ (by omega)).1.trans (o5 j a b w9 w2)
  have f9_6 : hI g6 (y + 9) = _ := (k6.1.2.2 _ (by omega)).1.trans f9_5
  have f2_6 : hI g6 (y + 2) = _ := (k6.1.2.2 _ (by omega)).1.trans f2_5
  have n6 := n5.rx k6.1
  rw [ck_p z5.1.1.1, a6, cl_s, ck_p yb_g]
  by_cases c6 : (si7 X D s).1 = 0
  rotate_left
  · have fz : si7 X D s = si7 X D s := rfl
    exact ⟨g6, rfl, p6, t6, fun e => absurd e c6⟩
  refine ⟨g6, rfl, p6, t6, fun _ => ?_⟩
  obtain ⟨-, q1, q2, q3, q4, q5, q6, q7, -⟩ := id q
  have oo : ∀ j, (j = 12 ∨ j = 13 ∨ j = 14) → hI g6 (y + j) = hI h (y + j) := fun j hj => o6 j (by omega) (by omega) (by omega) (by omega)
  refine DM.up q n6 ?_ ?_ ?_ ?_ ?_ ?_ ?_ rfl y6 oo
  · rw [f2_6, va_ne (by decide)]; exact q1
  · rw [o6 4 (by decide) (by decide) (by decide) (by decide), o6 5 (by decide) (by decide) (by decide) (by decide), o6 6 (by decide) (by decide) (by decide) (by decide)]; exact q2
  · rw [o6 7 (by decide) (by decide) (by decide) (by decide)]; exact q3
  · rw [o6 8 (by decide) (by decide) (by decide) (by decide)]; exact q4
  · intro k hk
    have hk : k < 4 * cUp D 3 3 := hk
    rw [cUp_e] at hk
    rw [f9_6]
    show va_up (va_up (va_up (va_up (hI h (y + 9)) (24 + 4 * vC D 3) _) (24 + 4 * vC D 3 + 1) _) (24 + 4 * vC D 3 + 2) _) (24 + 4 * vC D 3 + 2 + 1) _ (24 + k) = nI (va_up (va_up (va_up (va_up (vR D) (4 * vC D 3) _) (4 * vC D 3 + 1) _) (4 * vC D 3 + 2) _) (4 * vC D 3 + 3) _ k)
    by_cases e3 : k = 4 * vC D 3 + 3
    · rw [e3, show 24 + (4 * vC D 3 + 3) = 24 + 4 * vC D 3 + 2 + 1 by omega, va_eq, va_eq]
    · rw [va_ne (by omega), va_ne e3]
      by_cases e2 : k = 4 * vC D 3 + 2
      · rw [e2, show 24 + (4 * vC D 3 + 2) = 24 + 4 * vC D 3 + 2 by omega, va_eq, va_eq]
      · rw [va_ne (by omega), va_ne e2]
        by_cases e1 : k = 4 * vC D 3 + 1
        · rw [e1, show 24 + (4 * vC D 3 + 1) = 24 + 4 * vC D 3 + 1 by omega, va_eq, va_eq]
        · rw [va_ne (by omega), va_ne e1]
          by_cases e0 : k = 4 * vC D 3
          · rw [e0, va_eq, va_eq]
          · rw [va_ne (by omega), va_ne e0]
            exact q5 k (by omega)
  · rw [o6 10 (by decide) (by decide) (by decide) (by decide)]; exact q6
  · rw [o6 11 (by decide) (by decide) (by decide) (by decide)]; exact q7
theorem wa_z (h : (wa3 X D s).1 ≠ 0) : wa4 X D s = wa3 X D s := by
  unfold wa4
  rw [if_neg (fun z => by
    rcases z with z | z | z
    · exact h (sWd_i.mp z).1
    · exact h (sWd_i.mp z).1
    · exact h (sWd_i.mp z).1), flt_z h]
theorem m_readsWatcher (hN : 2000 ≤ N) (hs : s.1 = 0) (z : RZ X y h s.2) (q : DM h y D) (dw : DW D) : ∃ h', f_X11_readsWatcher N y h = some (yb (decide ((wa6 X D s).1 = 0)), h') ∧ Pf y h h' ∧ MRs X y h' (wa6 X D s) ∧ ((wa6 X D s).1 = 0 → DM h' y (uWa X D s)) := by
  have n0 := q.1
  have m := n0.1
  have p0 : Pf y h h := Pf.rf
  have o0 : ∀ j, 2 ≤ j → j ≤ 16 → hI h (y + j) = hI h (y + j) := fun _ _ _ => rfl
  have y0 : hI h y 23 = hI h y 23 := rfl
  have cn : hI h (y + 2) 10 = nI (vC D 4) := by have := (q.1.2 4 (by decide)).2.1; exact this
  have mk : vC D 4 ≤ 4 := dw.1.1 4 (by decide)
  unfold f_X11_readsWatcher
  rw [ck_p m.1, mR_valley m, rq_s, ck_p (mK_valley m), mN_valley m, ck_p (by decide), cn, show (4 : Int32) + nI (vC D 4) = nI (4 + vC D 4) from nI_add 4 _, bd_e, ite_i (show nI (4 + vC D 4) = (8 : Int32) ↔ vC D 4 = 4 from (nI_eq (b := 8) (by omega) (by decide)).trans ⟨fun e => by omega, fun e => by omega⟩)]
  by_cases cm : vC D 4 = 4
  · obtain ⟨g, r1, r2, r3⟩ := m_fails (N := N) (k := 5) z
    have r1 : f_X11_fails N y 5 h = _ := r1
    have e1 : wa1 X D s = (5 + 16 * xbg X s.2, s.2) := by
      unfold wa1 xMor
      rw [if_neg (by omega), stp_z (flt_n (by decide)), flt_0 hs]
    have c1 : (wa1 X D s).1 ≠ 0 := by
      rw [e1]
      show 5 + 16 * xbg X s.2 ≠ 0
      omega
    have fz : wa6 X D s = wa1 X D s := by
      have e2 : wa2 X D s = wa1 X D s := xNew_z c1
      have e3 : wa3 X D s = wa1 X D s := by unfold wa3; rw [e2, xEx_z c1]
      have e4 : wa4 X D s = wa1 X D s := by rw [wa_z (by rw [e3]; exact c1), e3]
      unfold wa6 wa5
      rw [e4, stp_z c1, xSn_z c1]
    rw [if_pos cm, r1, cl_s, ck_p (Or.inl rfl), fz]
    exact ⟨g, by rw [decide_eq_false c1]; rfl, r2.rj.pf, by rw [e1]; exact MRs.f (by decide) r3, fun e => absurd e c1⟩
  have m5 : vC D 4 < 4 := by omega
  have e1 : wa1 X D s = stp X s := by
    unfold wa1 xMor
    rw [if_pos m5]
  rw [if_neg cm]
  obtain ⟨g1, a1, k1, t1, z1⟩ := m_next (N := N) hN z
  have es1 : wa1 X D s = (0, xnx X (s).2) := by
    rw [e1]; exact stp_0 hs
  have c1 : (wa1 X D s).1 = 0 := by rw [es1]
  have z1 : RZ X y g1 (wa1 X D s).2 := by rw [es1]; exact z1
  have p1 := p0.trans k1.rj.pf
  have y1 := (k1.2.1 23 (by omega)).trans y0
  have o1 : ∀ j, 2 ≤ j → j ≤ 16 → hI g1 (y + j) = hI h (y + j) := fun j a b => (k1.1.2.2 _ (by omega)).1.trans (o0 j a b)
  have n1 := n0.rx k1.1
  rw [a1, cl_s]
  obtain ⟨g2, a2, k2, t2, v2⟩ := M_new (N := N) hN (s := wa1 X D s) c1 z1 n1
  have p2 := p1.trans k2.pf
  have y2 := (k2.2 23 (by omega)).trans y1
  have t2 : MRs X y g2 (wa2 X D s) := t2
  have a2 : f_X11_needsNew N y g1 = some (yb (decide ((wa2 X D s).1 = 0)), g2) := a2
  have o2 : ∀ j, 2 ≤ j → j ≤ 16 → hI g2 (y + j) = hI h (y + j) := fun j a b => (k2.1.2.2 _ (by omega)).1.trans (o1 j a b)
  have n2 := n1.rx k2.1
  rw [ck_p z1.1.1.1, a2, cl_s, ite_i yb0]
  by_cases c2 : (wa2 X D s).1 = 0
  rotate_left
  · have fz : wa6 X D s = wa2 X D s := by
      have e3 : wa3 X D s = wa2 X D s := xEx_z c2
      have e4 : wa4 X D s = wa2 X D s := by rw [wa_z (by rw [e3]; exact c2), e3]
      unfold wa6 wa5
      rw [e4, stp_z c2, xSn_z c2]
    rw [if_pos (decide_eq_false c2), fz]
    exact ⟨g2, by rw [decide_eq_false c2]; rfl, p2, t2, fun e => absurd e c2⟩
  rw [if_neg (by rw [decide_eq_true c2]; decide)]
  have z2 := t2.1 c2
  obtain ⟨wn, -⟩ := xNew_s (X := X) (cnt := vC D) (nm := vN D) (s := wa1 X D s) c2
  have wd := xwv_W (sNm_i.mp wn).2.1
  have v2 : hJ g2 y 38 = lN (u27 (xwv X (wa1 X D s).2)) := v2 c2
  obtain ⟨g3, a3, k3, t3⟩ := M_word (N := N) hN (i := 11) (by decide) kL11 (s := wa2 X D s) c2 z2
  have p3 := p2.trans k3.rj.pf
  have y3 := (k3.2.1 23 (by omega)).trans y2
  have t3 : MRs X y g3 (wa3 X D s) := t3
  have a3 : f_X11_needsWord N y (377776 : Int64) g2 = some (yb (decide ((wa3 X D s).1 = 0)), g3) := a3
  have o3 : ∀ j, 2 ≤ j → j ≤ 16 → hI g3 (y + j) = hI h (y + j) := fun j a b => (k3.1.2.2 _ (by omega)).1.trans (o2 j a b)
  have n3 := n2.rx k3.1
  rw [ck_p z2.1.1.1, a3, cl_s, ite_i yb0]
  by_cases c3 : (wa3 X D s).1 = 0
  rotate_left
  · have fz : wa6 X D s = wa3 X D s := by
      have e4 : wa4 X D s = wa3 X D s := wa_z c3
      unfold wa6 wa5
      rw [e4, stp_z c3, xSn_z c3]
    rw [if_pos (decide_eq_false c3), fz]
    exact ⟨g3, by rw [decide_eq_false c3]; rfl, p3, t3, fun e => absurd e c3⟩
  rw [if_neg (by rw [decide_eq_true c3]; decide)]
  have z3 := t3.1 c3
  have v3 : hJ g3 y 38 = lN (u27 (xwv X (wa1 X D s).2)) := k3.2.2.trans v2
  -- behind the sight
  have e3 := ZS.e c3
  have fin : ∀ v : Int32, (0 ≤ v → (wa4 X D s = wa3 X D s ∧ v = nI (waV X D s))) → (¬ 0 ≤ v → wa4 X D s = flt X 1 (wa3 X D s)) → ∃ h', f_X11_readsWatcher_93 N v (nI (4 + vC D 4)) (y + 10) y (nI (4 + vC D 4)) g3 = some (yb (decide ((wa6 X D s).1 = 0)), h') ∧ Pf y h h' ∧ MRs X y h' (wa6 X D s) ∧ ((wa6 X D s).1 = 0 → DM h' y (uWa X D s)) := fun v hy hn => by
    obtain ⟨g4, gd4⟩ : ∃ g, g = sI g3 (y + 10) (4 + vC D 4) v := ⟨_, rfl⟩
    have z4 : RZ X y g4 (wa3 X D s).2 := by rw [gd4]; exact z3.W (by decide)
    have f10_4 : hI g4 (y + 10) = va_up (hI h (y + 10)) (4 + vC D 4) v := by rw [gd4, hI_sI_eq, o3 10 (by decide) (by decide)]
    have p4 : Pf y h g4 := by rw [gd4]; exact p3.trans (Pf.I (by decide) (by decide) (by show 4 ≤ _; omega))
    have n4 : NmM g4 y 1 (vC D) (vN D) := by rw [gd4]; exact n3.W (by decide) (by decide)
    have y4 : hI g4 y 23 = hI h y 23 := by rw [gd4, hI_sI_ne (by omega)]; exact y3
    have o4 : ∀ j, 2 ≤ j → j ≤ 16 → j ≠ 10 → hI g4 (y + j) = hI h (y + j) := fun j a b d => by rw [gd4, hI_sI_ne (by omega)]; exact o3 j a b
    have j4 : hJ g4 y 38 = lN (u27 (xwv X (wa1 X D s).2)) := by rw [gd4]; exact v3
    unfold f_X11_readsWatcher_93
    rw [ck_p (mK_sight z3.1.1), mN_sight z3.1.1, ck_p (nI_ix (by omega) (by decide)), ix_nI (by omega), bd_e, ← gd4, ck_p z4.1.1.1, mR_sight z4.1.1, rq_s, ck_p (mK_sight z4.1.1), mN_sight z4.1.1, ck_p (nI_ix (by omega) (by decide)), f10_4, va_eq]
    by_cases cv : 0 ≤ v
    rotate_left
    · obtain ⟨g5, r1, r2, r3⟩ := m_fails (N := N) (k := 1) z4
      have r1 : f_X11_fails N y 1 g4 = _ := r1
      have e4 : wa4 X D s = (1 + 16 * xbg X (wa3 X D s).2, (wa3 X D s).2) := by rw [hn cv, flt_0 c3]
      have c4 : (wa4 X D s).1 ≠ 0 := by
        rw [e4]
        show 1 + 16 * xbg X (wa3 X D s).2 ≠ 0
        omega
      have fz : wa6 X D s = wa4 X D s := by
        unfold wa6 wa5
        rw [stp_z c4, xSn_z c4]
      rw [if_neg cv, r1, cl_s, ck_p (Or.inl rfl), fz]
      exact ⟨g5, by rw [decide_eq_false c4]; rfl, p4.trans r2.rj.pf, by rw [e4]; exact MRs.f (by decide) r3, fun e => absurd e c4⟩
    obtain ⟨e4, ev⟩ := hy cv
    have c4 : (wa4 X D s).1 = 0 := by rw [e4]; exact c3
    have z4 : RZ X y g4 (wa4 X D s).2 := by rw [e4]; exact z4
    obtain ⟨g5, a5, k5, t5, z5⟩ := m_next (N := N) hN z4
    have es5 : wa5 X D s = (0, xnx X (wa4 X D s).2) := stp_0 c4
    have c5 : (wa5 X D s).1 = 0 := by rw [es5]
    have z5 : RZ X y g5 (wa5 X D s).2 := by rw [es5]; exact z5
    have p5 := p4.trans k5.rj.pf
    have n5 := n4.rx k5.1
    have y5 := (k5.2.1 23 (by omega)).trans y4
    have o5 : ∀ j, 2 ≤ j → j ≤ 16 → j ≠ 10 → hI g5 (y + j) = hI h (y + j) := fun j a b d => (k5.1.2.2 _ (by omega)).1.trans (o4 j a b d)
    have f10_5 : hI g5 (y + 10) = _ := (k5.1.2.2 _ (by omega)).1.trans f10_4
    have j5 : hJ g5 y 38 = lN (u27 (xwv X (wa1 X D s).2)) := k5.2.2.trans j4
    rw [if_pos cv, a5, cl_s]
    obtain ⟨a6, n6⟩ := m_keepsName (N := N) (k := 4) (by decide) wd (show vC D 4 < mk5 4 from m5) j5 n5
    have a6 : f_X11_keepsName N y 4 g5 = _ := a6
    have x1 : Pf y g5 (sJ g5 (y + 3) (22 + (fN 4 + vC D 4)) (lN (u27 (xwv X (wa1 X D s).2)))) := Pf.J (by omega)
    have x2 : Pf y g5 (sI (sJ g5 (y + 3) (22 + (fN 4 + vC D 4)) (lN (u27 (xwv X (wa1 X D s).2)))) (y + 2) (6 + 4) (nI (vC D 4 + 1))) := x1.trans (Pf.I (by decide) (by decide) (by show 6 ≤ _; omega))
    have z6 : RZ X y (sI (sJ g5 (y + 3) (22 + (fN 4 + vC D 4)) (lN (u27 (xwv X (wa1 X D s).2)))) (y + 2) (6 + 4) (nI (vC D 4 + 1))) (wa5 X D s).2 := (z5.WJ).W (by decide)
    have fI : ∀ j, j ≠ y + 2 → hI (sI (sJ g5 (y + 3) (22 + (fN 4 + vC D 4)) (lN (u27 (xwv X (wa1 X D s).2)))) (y + 2) (6 + 4) (nI (vC D 4 + 1))) j = hI g5 j := fun j hj => hI_sI_ne hj
    have f2 : hI (sI (sJ g5 (y + 3) (22 + (fN 4 + vC D 4)) (lN (u27 (xwv X (wa1 X D s).2)))) (y + 2) (6 + 4) (nI (vC D 4 + 1))) (y + 2) = va_up (hI g5 (y + 2)) (6 + 4) (nI (vC D 4 + 1)) := hI_sI_eq
    rw [ck_p z5.1.1.1, a6, cl_s]
    generalize sI (sJ g5 (y + 3) (22 + (fN 4 + vC D 4)) (lN (u27 (xwv X (wa1 X D s).2)))) (y + 2) (6 + 4) (nI (vC D 4 + 1)) = g6 at x2 z6 fI f2 n6
    have p6 := p5.trans x2
    have y6 : hI g6 y 23 = hI h y 23 := by rw [fI _ (by omega)]; exact y5
    have o6 : ∀ j, 2 ≤ j → j ≤ 16 → j ≠ 10 → j ≠ 2 → hI g6 (y + j) = hI h (y + j) := fun j a b w10 w2 => by rw [fI _ (by omega)]; exact o5 j a b w10
    have f10_6 : hI g6 (y + 10) = _ := (fI _ (by omega)).trans f10_5
    have f2_6 : hI g6 (y + 2) = va_up (hI h (y + 2)) (6 + 4) (nI (vC D 4 + 1)) := by rw [f2, o5 2 (by decide) (by decide) (by decide)]
    obtain ⟨g7, a7, k7, t7⟩ := M_closes (N := N) hN (s := wa5 X D s) c5 z6
    have p7 := p6.trans k7.rj.pf
    have y7 := (k7.2.1 23 (by omega)).trans y6
    have t7 : MRs X y g7 (wa6 X D s) := t7
    have a7 : f_X11_closes N y g6 = some (yb (decide ((wa6 X D s).1 = 0)), g7) := a7
    have o7 : ∀ j, 2 ≤ j → j ≤ 16 → j ≠ 10 → j ≠ 2 → hI g7 (y + j) = hI h (y + j) := fun j a b w10 w2 => (k7.1.2.2 _ (by omega)).1.trans (o6 j a b w10 w2)
    have f10_7 : hI g7 (y + 10) = _ := (k7.1.2.2 _ (by omega)).1.trans f10_6
    have f2_7 : hI g7 (y + 2) = _ := (k7.1.2.2 _ (by omega)).1.trans f2_6
    have n7 := n6.rx k7.1
    rw [ck_p z6.1.1.1, a7, cl_s, ck_p yb_g]
    by_cases c7 : (wa6 X D s).1 = 0
    rotate_left
    · have fz : wa6 X D s = wa6 X D s := rfl
      exact ⟨g7, rfl, p7, t7, fun e => absurd e c7⟩
    refine ⟨g7, rfl, p7, t7, fun _ => ?_⟩
    obtain ⟨-, q1, q2, q3, q4, q5, q6, q7, -⟩ := id q
    have oo : ∀ j, (j = 12 ∨ j = 13 ∨ j = 14) → hI g7 (y + j) = hI h (y + j) := fun j hj => o7 j (by omega) (by omega) (by omega) (by omega)
    refine DM.up q n7 ?_ ?_ ?_ ?_ ?_ ?_ ?_ rfl y7 oo
    · rw [f2_7, va_ne (by decide)]; exact q1
    · rw [o7 4 (by decide) (by decide) (by decide) (by decide), o7 5 (by decide) (by decide) (by decide) (by decide), o7 6 (by decide) (by decide) (by decide) (by decide)]; exact q2
    · rw [o7 7 (by decide) (by decide) (by decide) (by decide)]; exact q3
    · rw [o7 8 (by decide) (by decide) (by decide) (by decide)]; exact q4
    · rw [o7 9 (by decide) (by decide) (by decide) (by decide)]; exact q5
    · intro k hk
      have hk : k < cUp D 4 4 := hk
      rw [cUp_e] at hk
      rw [f10_7, ev]
      show va_up _ _ _ (4 + k) = nI (va_up (vG D) (vC D 4) _ k)
      by_cases e : k = vC D 4
      · rw [e, va_eq, va_eq]
      · rw [va_ne (by omega), va_ne e]
        exact q6 k (by omega)
    · rw [o7 11 (by decide) (by decide) (by decide) (by decide)]; exact q7
  have w1 := m_isWord (N := N) (i := 1) (by decide) kL1 z3
  have w2 := m_isWord (N := N) (i := 2) (by decide) kL2 z3
  have w3 := m_isWord (N := N) (i := 12) (by decide) kL12 z3
  rw [← e3] at w1 w2 w3
  rw [ck_p z3.1.1.1, mR_sight z3.1.1, rq_s, w1, cl_s, ite_i yb0]
  have e4 : (sWd X (wa3 X D s) 1 = true ∨ sWd X (wa3 X D s) 2 = true ∨ sWd X (wa3 X D s) 12 = true) → wa4 X D s = wa3 X D s := fun z => if_pos z
  by_cases d1 : sWd X (wa3 X D s) 1 = true
  · rw [if_neg (by rw [d1]; decide)]
    refine fin 0 (fun _ => ⟨e4 (Or.inl d1), ?_⟩) (fun e => absurd (by decide) e)
    unfold waV
    rw [if_pos d1]
    rfl
  rw [if_pos (sF_of d1), ck_p z3.1.1.1, w2, cl_s, ite_i yb0]
  by_cases d2 : sWd X (wa3 X D s) 2 = true
  · rw [if_neg (by rw [d2]; decide)]
    refine fin 1 (fun _ => ⟨e4 (Or.inr (Or.inl d2)), ?_⟩) (fun e => absurd (by decide) e)
    unfold waV
    rw [if_neg d1, if_pos d2]
    rfl
  rw [if_pos (sF_of d2), ck_p z3.1.1.1, w3, cl_s, ite_i yb0]
  by_cases d3 : sWd X (wa3 X D s) 12 = true
  · rw [if_neg (by rw [d3]; decide)]
    refine fin 2 (fun _ => ⟨e4 (Or.inr (Or.inr d3)), ?_⟩) (fun e => absurd (by decide) e)
    unfold waV
    rw [if_neg d1, if_neg d2]
    rfl
  rw [if_pos (sF_of d3)]
  exact fin (-1) (fun e => absurd e (by decide)) (fun _ => if_neg (fun z => by
    rcases z with z | z | z
    · exact d1 z
    · exact d2 z
    · exact d3 z))
end ML4
