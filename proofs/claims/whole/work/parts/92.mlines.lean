/-! The reference reads a line: fuel, flue, house, stock. -/
section MLN
variable {N y : Nat} {X : TX} {s : ZS} {D : DV} {h : PH}
theorem RZ.rw' {h' : PH} {p : Nat} (g : Sm h h') (e0 : hI h' y = hI h y) (e1 : hI h' (y + 1) = hI h (y + 1)) (ej : hJ h' y = hJ h y) (z : RZ X y h p) : RZ X y h' p := by
  obtain ⟨⟨m, ok, r3, rt⟩, p1, p2, p3, p4, p5, p6⟩ := z
  exact ⟨⟨m.sm g, ok, by rw [e0]; exact r3, by rw [e1]; exact rt⟩, p1, by rw [e0]; exact p2, by rw [e0]; exact p3, by rw [e0]; exact p4, by rw [ej]; exact p5, by rw [e0]; exact p6⟩
theorem RZ.W {j k p : Nat} {v : Int32} (hj : 2 ≤ j) (z : RZ X y h p) : RZ X y (sI h (y + j) k v) p := z.rw' Sm.sI (hI_sI_ne (by omega)) (hI_sI_ne (by omega)) rfl
theorem RZ.WJ {k p : Nat} {v : Int64} (z : RZ X y h p) : RZ X y (sJ h (y + 3) k v) p := z.rw' Sm.sJ rfl rfl (by rw [hJ_sJ]; exact up2_a _ _ _ (by omega))
theorem NmM.W {r j k : Nat} {v : Int32} {cnt : Nat → Nat} {nm : Nat → Nat → Nat} (hj : j ≠ 2) (h1 : 1 ≤ j) (q : NmM h y r cnt nm) : NmM (sI h (y + j) k v) y r cnt nm := ⟨q.1.sm Sm.sI, fun i hi => by rw [hI_sI_ne (by omega)]; exact q.2 i hi⟩
theorem M_word (hN : 2000 ≤ N) {i : Nat} {l : Int64} (hi : i < 27) (hl : l = lN (k27 i)) (hs : s.1 = 0) (z : RZ X y h s.2) : ∃ h', f_X11_needsWord N y l h = some (yb (decide ((xEx X i s).1 = 0)), h') ∧ Rk y h h' ∧ MRs X y h' (xEx X i s) := by
  obtain ⟨h', r1, r2, r3, r4⟩ := m_needsWord hN hi hl z
  rw [← ZS.e hs] at r1 r4
  exact ⟨h', r1, r2, r4⟩
theorem M_both (hN : 2000 ≤ N) {i a b : Nat} {l : Int64} {l1 l2 : Int32} (hi : i < 27) (hl : l = lN (k27 i)) (ha : a < 2 ^ 31) (hb : b < 2 ^ 31) (e1 : l1 = nI a) (e2 : l2 = nI b) (hs : s.1 = 0) (z : RZ X y h s.2) : ∃ h', f_X11_needsBoth N y l l1 l2 h = some (yb (decide ((xNu X a b (xEx X i s)).1 = 0)), h') ∧ Rk y h h' ∧ MRs X y h' (xNu X a b (xEx X i s)) ∧ ((xNu X a b (xEx X i s)).1 = 0 → hI h' y 37 = nI (xnv X (xEx X i s).2)) := by
  have := m_needsBoth hN hi hl ha hb e1 e2 z
  rw [← ZS.e hs] at this
  exact this
theorem M_num (hN : 2000 ≤ N) {a b : Nat} {l1 l2 : Int32} (ha : a < 2 ^ 31) (hb : b < 2 ^ 31) (e1 : l1 = nI a) (e2 : l2 = nI b) (hs : s.1 = 0) (z : RZ X y h s.2) : ∃ h', f_X11_needsNumber N y l1 l2 h = some (yb (decide ((xNu X a b s).1 = 0)), h') ∧ Rk y h h' ∧ MRs X y h' (xNu X a b s) ∧ ((xNu X a b s).1 = 0 → hI h' y 37 = nI (xnv X s.2)) := by
  have := m_needsNumber hN ha hb e1 e2 z
  rw [← ZS.e hs] at this
  exact this
theorem M_closes (hN : 2000 ≤ N) (hs : s.1 = 0) (z : RZ X y h s.2) : ∃ h', f_X11_closes N y h = some (yb (decide ((xSn X 59 s).1 = 0)), h') ∧ Rk y h h' ∧ MRs X y h' (xSn X 59 s) := by
  have := m_closes (N := N) hN z
  rw [← ZS.e hs] at this
  exact this
theorem M_new (hN : 2000 ≤ N) {cnt : Nat → Nat} {nm : Nat → Nat → Nat} (hs : s.1 = 0) (z : RZ X y h s.2) (q : NmM h y 1 cnt nm) : ∃ h', f_X11_needsNew N y h = some (yb (decide ((xNew X cnt nm s).1 = 0)), h') ∧ Rj y h h' ∧ MRs X y h' (xNew X cnt nm s) ∧ ((xNew X cnt nm s).1 = 0 → hJ h' y 38 = lN (u27 (xwv X s.2))) := by
  have := m_needsNew (N := N) hN z q
  rw [← ZS.e hs] at this
  exact this
theorem M_told (hN : 2000 ≤ N) {r k : Nat} {cnt : Nat → Nat} {nm : Nat → Nat → Nat} (hr : r < 2) (hk : k < 5) (hs : s.1 = 0) (z : RZ X y h s.2) (q : NmM h y r cnt nm) : ∃ h', f_X11_needsNamed N y (nI r) (nI k) h = some (yb (decide ((xTld X cnt nm k s).1 = 0)), h') ∧ Rk y h h' ∧ MRs X y h' (xTld X cnt nm k s) ∧ ((xTld X cnt nm k s).1 = 0 → hI h' y 37 = nI (nfi cnt nm k (xwv X s.2))) := by
  have := m_needsNamed (N := N) hN hr hk z q
  rw [← ZS.e hs] at this
  exact this
theorem DM.up {D D' : DV} {h h' : PH} (q : DM h y D) (nq : NmM h' y 1 (vC D') (vN D')) (c0 : hI h' (y + 2) 11 = nI (vC D' 5)) (c1 : ∀ k, k < vC D' 0 → hI h' (y + 4) (5 + k) = nI (vD D' k) ∧ hI h' (y + 5) (5 + k) = nI (vS D' k) ∧ hI h' (y + 6) (5 + k) = nI (vB D' k)) (c2 : ∀ k, k < vC D' 2 → hI h' (y + 7) (4 + k) = nI (vF D' k)) (c3 : ∀ i f, i < vC D' 2 → f < 5 → hI h' (y + 8) (20 + (5 * i + f)) = nI (vT D' (5 * i + f)) + (-1)) (c4 : ∀ k, k < 4 * vC D' 3 → hI h' (y + 9) (24 + k) = nI (vR D' k)) (c5 : ∀ k, k < vC D' 4 → hI h' (y + 10) (4 + k) = nI (vG D' k)) (c6 : ∀ k, k < vC D' 5 → hI h' (y + 11) (12 + k) = nI (vW D' k)) (hL : vL D' = vL D) (e23 : hI h' y 23 = hI h y 23) (r : ∀ j, (j = 12 ∨ j = 13 ∨ j = 14) → hI h' (y + j) = hI h (y + j)) : DM h' y D' := by
  obtain ⟨-, -, -, -, -, -, -, -, cd, q8, q9, q10, q11, q12⟩ := q
  refine ⟨nq, c0, c1, c2, c3, c4, c5, c6, cd, q8, e23.trans q9, by rw [hL]; exact q10, ?_, ?_⟩
  · rw [hL]
    exact q11.e (by rw [r 12 (by omega)]) (by rw [r 13 (by omega)]) (by rw [r 14 (by omega)]; exact fun _ _ => rfl)
  · rw [hL]
    exact q12.e (by rw [r 12 (by omega)]) (by rw [r 13 (by omega)]) (by rw [r 14 (by omega)]; exact fun _ _ => rfl)
theorem m_readsFuel (hN : 2000 ≤ N) (hs : s.1 = 0) (z : RZ X y h s.2) (q : DM h y D) (dw : DW D) : ∃ h', f_X11_readsFuel N y h = some (yb (decide ((fu9 X D s).1 = 0)), h') ∧ Pf y h h' ∧ MRs X y h' (fu9 X D s) ∧ ((fu9 X D s).1 = 0 → DM h' y (uFu X D s)) := by
  have n0 := q.1
  have m := n0.1
  have p0 : Pf y h h := Pf.rf
  have o0 : ∀ j, 2 ≤ j → j ≤ 16 → hI h (y + j) = hI h (y + j) := fun _ _ _ => rfl
  have y0 : hI h y 23 = hI h y 23 := rfl
  have cn : hI h (y + 2) 6 = nI (vC D 0) := by have := (q.1.2 0 (by decide)).2.1; exact this
  have mk : vC D 0 ≤ 5 := dw.1.1 0 (by decide)
  unfold f_X11_readsFuel
  rw [ck_p m.1, mR_valley m, rq_s, ck_p (mK_valley m), mN_valley m, ck_p (by decide), cn, show (5 : Int32) + nI (vC D 0) = nI (5 + vC D 0) from nI_add 5 _, bd_e, ite_i (show nI (5 + vC D 0) = (10 : Int32) ↔ vC D 0 = 5 from (nI_eq (b := 10) (by omega) (by decide)).trans ⟨fun e => by omega, fun e => by omega⟩)]
  by_cases cm : vC D 0 = 5
  · obtain ⟨g, r1, r2, r3⟩ := m_fails (N := N) (k := 5) z
    have r1 : f_X11_fails N y 5 h = _ := r1
    have e1 : fu1 X D s = (5 + 16 * xbg X s.2, s.2) := by
      unfold fu1 xMor
      rw [if_neg (by omega), stp_z (flt_n (by decide)), flt_0 hs]
    have c1 : (fu1 X D s).1 ≠ 0 := by
      rw [e1]
      show 5 + 16 * xbg X s.2 ≠ 0
      omega
    have fz : fu9 X D s = fu1 X D s := by
      unfold fu9 fu8 fu7 fu6 fu5 fu4 fu3 fu2
      rw [xNew_z c1, xEx_z c1, xNu_z c1, xEx_z c1, xNu_z c1, xEx_z c1, xNu_z c1, xSn_z c1]
    rw [if_pos cm, r1, cl_s, ck_p (Or.inl rfl), fz]
    exact ⟨g, by rw [decide_eq_false c1]; rfl, r2.rj.pf, by rw [e1]; exact MRs.f (by decide) r3, fun e => absurd e c1⟩
  have m5 : vC D 0 < 5 := by omega
  have e1 : fu1 X D s = stp X s := by
    unfold fu1 xMor
    rw [if_pos m5]
  rw [if_neg cm]
  obtain ⟨g1, a1, k1, t1, z1⟩ := m_next (N := N) hN z
  have es1 : fu1 X D s = (0, xnx X (s).2) := by
    rw [e1]; exact stp_0 hs
  have c1 : (fu1 X D s).1 = 0 := by rw [es1]
  have z1 : RZ X y g1 (fu1 X D s).2 := by rw [es1]; exact z1
  have p1 := p0.trans k1.rj.pf
  have y1 := (k1.2.1 23 (by omega)).trans y0
  have o1 : ∀ j, 2 ≤ j → j ≤ 16 → hI g1 (y + j) = hI h (y + j) := fun j a b => (k1.1.2.2 _ (by omega)).1.trans (o0 j a b)
  have n1 := n0.rx k1.1
  rw [a1, cl_s]
  obtain ⟨g2, a2, k2, t2, v2⟩ := M_new (N := N) hN (s := fu1 X D s) c1 z1 n1
  have p2 := p1.trans k2.pf
  have y2 := (k2.2 23 (by omega)).trans y1
  have t2 : MRs X y g2 (fu2 X D s) := t2
  have a2 : f_X11_needsNew N y g1 = some (yb (decide ((fu2 X D s).1 = 0)), g2) := a2
  have o2 : ∀ j, 2 ≤ j → j ≤ 16 → hI g2 (y + j) = hI h (y + j) := fun j a b => (k2.1.2.2 _ (by omega)).1.trans (o1 j a b)
  have n2 := n1.rx k2.1
  rw [ck_p z1.1.1.1, a2, cl_s, ite_i yb0]
  by_cases c2 : (fu2 X D s).1 = 0
  rotate_left
  · have fz : fu9 X D s = fu2 X D s := by
      unfold fu9 fu8 fu7 fu6 fu5 fu4 fu3
      rw [xEx_z c2, xNu_z c2, xEx_z c2, xNu_z c2, xEx_z c2, xNu_z c2, xSn_z c2]
    rw [if_pos (decide_eq_false c2), fz]
    exact ⟨g2, by rw [decide_eq_false c2]; rfl, p2, t2, fun e => absurd e c2⟩
  rw [if_neg (by rw [decide_eq_true c2]; decide)]
  have z2 := t2.1 c2
  obtain ⟨wn, -⟩ := xNew_s (X := X) (cnt := vC D) (nm := vN D) (s := fu1 X D s) c2
  have wd := xwv_W (sNm_i.mp wn).2.1
  have v2 : hJ g2 y 38 = lN (u27 (xwv X (fu1 X D s).2)) := v2 c2
  obtain ⟨g3, a3, k3, t3, v3⟩ := M_both (N := N) hN (i := 1) (a := 0) (b := 99) (l1 := 0) (l2 := 99) (by decide) kL1 (by decide) (by decide) rfl rfl (s := fu2 X D s) c2 z2
  have p3 := p2.trans k3.rj.pf
  have y3 := (k3.2.1 23 (by omega)).trans y2
  have t3 : MRs X y g3 (fu4 X D s) := t3
  have a3 : f_X11_needsBoth N y (79958 : Int64) 0 99 g2 = some (yb (decide ((fu4 X D s).1 = 0)), g3) := a3
  have o3 : ∀ j, 2 ≤ j → j ≤ 16 → hI g3 (y + j) = hI h (y + j) := fun j a b => (k3.1.2.2 _ (by omega)).1.trans (o2 j a b)
  have n3 := n2.rx k3.1
  rw [ck_p z2.1.1.1, a3, cl_s, ite_i yb0]
  by_cases c3 : (fu4 X D s).1 = 0
  rotate_left
  · have fz : fu9 X D s = fu4 X D s := by
      unfold fu9 fu8 fu7 fu6 fu5
      rw [xEx_z c3, xNu_z c3, xEx_z c3, xNu_z c3, xSn_z c3]
    rw [if_pos (decide_eq_false c3), fz]
    exact ⟨g3, by rw [decide_eq_false c3]; rfl, p3, t3, fun e => absurd e c3⟩
  rw [if_neg (by rw [decide_eq_true c3]; decide)]
  have z3 := t3.1 c3
  have v3 : hI g3 y 37 = nI (xnv X (fu3 X D s).2) := v3 c3
  have j3 : hJ g3 y 38 = lN (u27 (xwv X (fu1 X D s).2)) := k3.2.2.trans v2
  obtain ⟨g4, gd4⟩ : ∃ g, g = sI g3 (y + 4) (5 + vC D 0) (nI (xnv X (fu3 X D s).2)) := ⟨_, rfl⟩
  rw [ck_p z3.1.1.1, mR_fuelDark z3.1.1, rq_s, ck_p (mK_fuelDark z3.1.1), mN_fuelDark z3.1.1, ck_p (nI_ix (by omega) (by decide)), ix_nI (by omega), v3, bd_e, ← gd4]
  have z4 : RZ X y g4 (fu4 X D s).2 := by rw [gd4]; exact z3.W (by decide)
  have p4 : Pf y h g4 := by rw [gd4]; exact p3.trans (Pf.I (by decide) (by decide) (by show 5 ≤ _; omega))
  have y4 : hI g4 y 23 = hI h y 23 := by rw [gd4, hI_sI_ne (by omega)]; exact y3
  have o4 : ∀ j, 2 ≤ j → j ≤ 16 → j ≠ 4 → hI g4 (y + j) = hI h (y + j) := fun j a b w4 => by rw [gd4, hI_sI_ne (by omega)]; exact o3 j a b
  have f4_4 : hI g4 (y + 4) = va_up (hI h (y + 4)) (5 + vC D 0) (nI (xnv X (fu3 X D s).2)) := by rw [gd4, hI_sI_eq, o3 4 (by decide) (by decide)]
  have n4 : NmM g4 y 1 (vC D) (vN D) := by rw [gd4]; exact n3.W (by decide) (by decide)
  obtain ⟨g5, a5, k5, t5, v5⟩ := M_both (N := N) hN (i := 2) (a := 0) (b := 99) (l1 := 0) (l2 := 99) (by decide) kL2 (by decide) (by decide) rfl rfl (s := fu4 X D s) c3 z4
  have p5 := p4.trans k5.rj.pf
  have y5 := (k5.2.1 23 (by omega)).trans y4
  have t5 : MRs X y g5 (fu6 X D s) := t5
  have a5 : f_X11_needsBoth N y (10553888 : Int64) 0 99 g4 = some (yb (decide ((fu6 X D s).1 = 0)), g5) := a5
  have o5 : ∀ j, 2 ≤ j → j ≤ 16 → j ≠ 4 → hI g5 (y + j) = hI h (y + j) := fun j a b w4 => (k5.1.2.2 _ (by omega)).1.trans (o4 j a b w4)
  have f4_5 : hI g5 (y + 4) = _ := (k5.1.2.2 _ (by omega)).1.trans f4_4
  have n5 := n4.rx k5.1
  rw [ck_p z4.1.1.1, a5, cl_s, ite_i yb0]
  by_cases c5 : (fu6 X D s).1 = 0
  rotate_left
  · have fz : fu9 X D s = fu6 X D s := by
      unfold fu9 fu8 fu7
      rw [xEx_z c5, xNu_z c5, xSn_z c5]
    rw [if_pos (decide_eq_false c5), fz]
    exact ⟨g5, by rw [decide_eq_false c5]; rfl, p5, t5, fun e => absurd e c5⟩
  rw [if_neg (by rw [decide_eq_true c5]; decide)]
  have z5 := t5.1 c5
  have v5 : hI g5 y 37 = nI (xnv X (fu5 X D s).2) := v5 c5
  have j5 : hJ g5 y 38 = lN (u27 (xwv X (fu1 X D s).2)) := k5.2.2.trans (by rw [gd4]; exact j3)
  obtain ⟨g6, gd6⟩ : ∃ g, g = sI g5 (y + 5) (5 + vC D 0) (nI (xnv X (fu5 X D s).2)) := ⟨_, rfl⟩
  rw [ck_p z5.1.1.1, mR_fuelSweet z5.1.1, rq_s, ck_p (mK_fuelSweet z5.1.1), mN_fuelSweet z5.1.1, ck_p (nI_ix (by omega) (by decide)), v5, bd_e, ← gd6]
  have z6 : RZ X y g6 (fu6 X D s).2 := by rw [gd6]; exact z5.W (by decide)
  have p6 : Pf y h g6 := by rw [gd6]; exact p5.trans (Pf.I (by decide) (by decide) (by show 5 ≤ _; omega))
  have y6 : hI g6 y 23 = hI h y 23 := by rw [gd6, hI_sI_ne (by omega)]; exact y5
  have o6 : ∀ j, 2 ≤ j → j ≤ 16 → j ≠ 4 → j ≠ 5 → hI g6 (y + j) = hI h (y + j) := fun j a b w4 w5 => by rw [gd6, hI_sI_ne (by omega)]; exact o5 j a b w4
  have f4_6 : hI g6 (y + 4) = _ := (by rw [gd6, hI_sI_ne (by omega), f4_5] : hI g6 (y + 4) = _)
  have f5_6 : hI g6 (y + 5) = va_up (hI h (y + 5)) (5 + vC D 0) (nI (xnv X (fu5 X D s).2)) := by rw [gd6, hI_sI_eq, o5 5 (by decide) (by decide) (by decide)]
  have n6 : NmM g6 y 1 (vC D) (vN D) := by rw [gd6]; exact n5.W (by decide) (by decide)
  obtain ⟨g7, a7, k7, t7, v7⟩ := M_both (N := N) hN (i := 3) (a := 1) (b := 9) (l1 := 1) (l2 := 9) (by decide) kL3 (by decide) (by decide) rfl rfl (s := fu6 X D s) c5 z6
  have p7 := p6.trans k7.rj.pf
  have y7 := (k7.2.1 23 (by omega)).trans y6
  have t7 : MRs X y g7 (fu8 X D s) := t7
  have a7 : f_X11_needsBoth N y (1489744 : Int64) 1 9 g6 = some (yb (decide ((fu8 X D s).1 = 0)), g7) := a7
  have o7 : ∀ j, 2 ≤ j → j ≤ 16 → j ≠ 4 → j ≠ 5 → hI g7 (y + j) = hI h (y + j) := fun j a b w4 w5 => (k7.1.2.2 _ (by omega)).1.trans (o6 j a b w4 w5)
  have f4_7 : hI g7 (y + 4) = _ := (k7.1.2.2 _ (by omega)).1.trans f4_6
  have f5_7 : hI g7 (y + 5) = _ := (k7.1.2.2 _ (by omega)).1.trans f5_6
  have n7 := n6.rx k7.1
  rw [ck_p z6.1.1.1, a7, cl_s, ite_i yb0]
  by_cases c7 : (fu8 X D s).1 = 0
  rotate_left
  · have fz : fu9 X D s = fu8 X D s := by
      unfold fu9
      rw [xSn_z c7]
    rw [if_pos (decide_eq_false c7), fz]
    exact ⟨g7, by rw [decide_eq_false c7]; rfl, p7, t7, fun e => absurd e c7⟩
  rw [if_neg (by rw [decide_eq_true c7]; decide)]
  have z7 := t7.1 c7
  have v7 : hI g7 y 37 = nI (xnv X (fu7 X D s).2) := v7 c7
  have j7 : hJ g7 y 38 = lN (u27 (xwv X (fu1 X D s).2)) := k7.2.2.trans (by rw [gd6]; exact j5)
  obtain ⟨g8, gd8⟩ : ∃ g, g = sI g7 (y + 6) (5 + vC D 0) (nI (xnv X (fu7 X D s).2)) := ⟨_, rfl⟩
  rw [ck_p z7.1.1.1, mR_fuelLong z7.1.1, rq_s, ck_p (mK_fuelLong z7.1.1), mN_fuelLong z7.1.1, ck_p (nI_ix (by omega) (by decide)), v7, bd_e, ← gd8]
  have z8 : RZ X y g8 (fu8 X D s).2 := by rw [gd8]; exact z7.W (by decide)
  have p8 : Pf y h g8 := by rw [gd8]; exact p7.trans (Pf.I (by decide) (by decide) (by show 5 ≤ _; omega))
  have y8 : hI g8 y 23 = hI h y 23 := by rw [gd8, hI_sI_ne (by omega)]; exact y7
  have o8 : ∀ j, 2 ≤ j → j ≤ 16 → j ≠ 4 → j ≠ 5 → j ≠ 6 → hI g8 (y + j) = hI h (y + j) := fun j a b w4 w5 w6 => by rw [gd8, hI_sI_ne (by omega)]; exact o7 j a b w4 w5
  have f4_8 : hI g8 (y + 4) = _ := (by rw [gd8, hI_sI_ne (by omega), f4_7] : hI g8 (y + 4) = _)
  have f5_8 : hI g8 (y + 5) = _ := (by rw [gd8, hI_sI_ne (by omega), f5_7] : hI g8 (y + 5) = _)
  have f6_8 : hI g8 (y + 6) = va_up (hI h (y + 6)) (5 + vC D 0) (nI (xnv X (fu7 X D s).2)) := by rw [gd8, hI_sI_eq, o7 6 (by decide) (by decide) (by decide) (by decide)]
  have n8 : NmM g8 y 1 (vC D) (vN D) := by rw [gd8]; exact n7.W (by decide) (by decide)
  obtain ⟨a9, n9⟩ := m_keepsName (N := N) (k := 0) (by decide) wd (show vC D 0 < mk5 0 from m5) (by rw [gd8]; exact j7) n8
  have a9 : f_X11_keepsName N y 0 g8 = _ := a9
  have x1 : Pf y g8 (sJ g8 (y + 3) (22 + (fN 0 + vC D 0)) (lN (u27 (xwv X (fu1 X D s).2)))) := Pf.J (by omega)
  have x2 : Pf y g8 (sI (sJ g8 (y + 3) (22 + (fN 0 + vC D 0)) (lN (u27 (xwv X (fu1 X D s).2)))) (y + 2) (6 + 0) (nI (vC D 0 + 1))) := x1.trans (Pf.I (by decide) (by decide) (by show 6 ≤ _; omega))
  have z9 : RZ X y (sI (sJ g8 (y + 3) (22 + (fN 0 + vC D 0)) (lN (u27 (xwv X (fu1 X D s).2)))) (y + 2) (6 + 0) (nI (vC D 0 + 1))) (fu8 X D s).2 := (z8.WJ).W (by decide)
  have fI : ∀ j, j ≠ y + 2 → hI (sI (sJ g8 (y + 3) (22 + (fN 0 + vC D 0)) (lN (u27 (xwv X (fu1 X D s).2)))) (y + 2) (6 + 0) (nI (vC D 0 + 1))) j = hI g8 j := fun j hj => hI_sI_ne hj
  have f2 : hI (sI (sJ g8 (y + 3) (22 + (fN 0 + vC D 0)) (lN (u27 (xwv X (fu1 X D s).2)))) (y + 2) (6 + 0) (nI (vC D 0 + 1))) (y + 2) = va_up (hI g8 (y + 2)) (6 + 0) (nI (vC D 0 + 1)) := hI_sI_eq
  rw [ck_p z8.1.1.1, a9, cl_s]
  generalize sI (sJ g8 (y + 3) (22 + (fN 0 + vC D 0)) (lN (u27 (xwv X (fu1 X D s).2)))) (y + 2) (6 + 0) (nI (vC D 0 + 1)) = g9 at x2 z9 fI f2 n9
  have p9 := p8.trans x2
  have y9 : hI g9 y 23 = hI h y 23 := by rw [fI _ (by omega)]; exact y8
  have o9 : ∀ j, 2 ≤ j → j ≤ 16 → j ≠ 4 → j ≠ 5 → j ≠ 6 → j ≠ 2 → hI g9 (y + j) = hI h (y + j) := fun j a b w4 w5 w6 w2 => by rw [fI _ (by omega)]; exact o8 j a b w4 w5 w6
  have f4_9 : hI g9 (y + 4) = _ := (fI _ (by omega)).trans f4_8
  have f5_9 : hI g9 (y + 5) = _ := (fI _ (by omega)).trans f5_8
  have f6_9 : hI g9 (y + 6) = _ := (fI _ (by omega)).trans f6_8
  have f2_9 : hI g9 (y + 2) = va_up (hI h (y + 2)) (6 + 0) (nI (vC D 0 + 1)) := by rw [f2, o8 2 (by decide) (by decide) (by decide) (by decide) (by decide)]
  obtain ⟨g10, a10, k10, t10⟩ := M_closes (N := N) hN (s := fu8 X D s) c7 z9
  have p10 := p9.trans k10.rj.pf
  have y10 := (k10.2.1 23 (by omega)).trans y9
  have t10 : MRs X y g10 (fu9 X D s) := t10
  have a10 : f_X11_closes N y g9 = some (yb (decide ((fu9 X D s).1 = 0)), g10) := a10
  have o10 : ∀ j, 2 ≤ j → j ≤ 16 → j ≠ 4 → j ≠ 5 → j ≠ 6 → j ≠ 2 → hI g10 (y + j) = hI h (y + j) := fun j a b w4 w5 w6 w2 => (k10.1.2.2 _ (by omega)).1.trans (o9 j a b w4 w5 w6 w2)
  have f4_10 : hI g10 (y + 4) = _ := (k10.1.2.2 _ (by omega)).1.trans f4_9
  have f5_10 : hI g10 (y + 5) = _ := (k10.1.2.2 _ (by omega)).1.trans f5_9
  have f6_10 : hI g10 (y + 6) = _ := (k10.1.2.2 _ (by omega)).1.trans f6_9
  have f2_10 : hI g10 (y + 2) = _ := (k10.1.2.2 _ (by omega)).1.trans f2_9
  have n10 := n9.rx k10.1
  rw [ck_p z9.1.1.1, a10, cl_s, ck_p yb_g]
  by_cases c10 : (fu9 X D s).1 = 0
  rotate_left
  · have fz : fu9 X D s = fu9 X D s := rfl
    exact ⟨g10, rfl, p10, t10, fun e => absurd e c10⟩
  refine ⟨g10, rfl, p10, t10, fun _ => ?_⟩
  obtain ⟨-, q1, q2, q3, q4, q5, q6, q7, -⟩ := id q
  have oo : ∀ j, (j = 12 ∨ j = 13 ∨ j = 14) → hI g10 (y + j) = hI h (y + j) := fun j hj => o10 j (by omega) (by omega) (by omega) (by omega) (by omega) (by omega)
  refine DM.up q n10 ?_ ?_ ?_ ?_ ?_ ?_ ?_ rfl y10 oo
  · rw [f2_10, va_ne (by decide)]; exact q1
  · intro k hk
    have hk : k < cUp D 0 0 := hk
    rw [cUp_e] at hk
    rw [f4_10, f5_10, f6_10]
    show va_up _ _ _ (5 + k) = nI (va_up (vD D) (vC D 0) _ k) ∧ va_up _ _ _ (5 + k) = nI (va_up (vS D) (vC D 0) _ k) ∧ va_up _ _ _ (5 + k) = nI (va_up (vB D) (vC D 0) _ k)
    by_cases e : k = vC D 0
    · rw [e, va_eq, va_eq, va_eq, va_eq, va_eq, va_eq]
      exact ⟨rfl, rfl, rfl⟩
    · rw [va_ne (by omega), va_ne e, va_ne (by omega), va_ne e, va_ne (by omega), va_ne e]
      exact q2 k (by omega)
  · rw [o10 7 (by decide) (by decide) (by decide) (by decide) (by decide) (by decide)]; exact q3
  · rw [o10 8 (by decide) (by decide) (by decide) (by decide) (by decide) (by decide)]; exact q4
  · rw [o10 9 (by decide) (by decide) (by decide) (by decide) (by decide) (by decide)]; exact q5
  · rw [o10 10 (by decide) (by decide) (by decide) (by decide) (by decide) (by decide)]; exact q6
  · rw [o10 11 (by decide) (by decide) (by decide) (by decide) (by decide) (by decide)]; exact q7
theorem m_readsFlue (hN : 2000 ≤ N) (hs : s.1 = 0) (z : RZ X y h s.2) (q : DM h y D) (dw : DW D) : ∃ h', f_X11_readsFlue N y h = some (yb (decide ((lu3 X D s).1 = 0)), h') ∧ Pf y h h' ∧ MRs X y h' (lu3 X D s) ∧ ((lu3 X D s).1 = 0 → DM h' y (uLu X D s)) := by
  have n0 := q.1
  have m := n0.1
  have p0 : Pf y h h := Pf.rf
  have o0 : ∀ j, 2 ≤ j → j ≤ 16 → hI h (y + j) = hI h (y + j) := fun _ _ _ => rfl
  have y0 : hI h y 23 = hI h y 23 := rfl
  have cn : hI h (y + 2) 7 = nI (vC D 1) := by have := (q.1.2 1 (by decide)).2.1; exact this
  have mk : vC D 1 ≤ 3 := dw.1.1 1 (by decide)
  unfold f_X11_readsFlue
  rw [ck_p m.1, mR_valley m, rq_s, ck_p (mK_valley m), mN_valley m, ck_p (by decide), cn, ite_i (show nI (vC D 1) = (3 : Int32) ↔ vC D 1 = 3 from nI_eq (b := 3) (by omega) (by decide))]
  by_cases cm : vC D 1 = 3
  · obtain ⟨g, r1, r2, r3⟩ := m_fails (N := N) (k := 5) z
    have r1 : f_X11_fails N y 5 h = _ := r1
    have e1 : lu1 X D s = (5 + 16 * xbg X s.2, s.2) := by
      unfold lu1 xMor
      rw [if_neg (by omega), stp_z (flt_n (by decide)), flt_0 hs]
    have c1 : (lu1 X D s).1 ≠ 0 := by
      rw [e1]
      show 5 + 16 * xbg X s.2 ≠ 0
      omega
    have fz : lu3 X D s = lu1 X D s := by
      unfold lu3 lu2
      rw [xNew_z c1, xSn_z c1]
    rw [if_pos cm, r1, cl_s, ck_p (Or.inl rfl), fz]
    exact ⟨g, by rw [decide_eq_false c1]; rfl, r2.rj.pf, by rw [e1]; exact MRs.f (by decide) r3, fun e => absurd e c1⟩
  have m5 : vC D 1 < 3 := by omega
  have e1 : lu1 X D s = stp X s := by
    unfold lu1 xMor
    rw [if_pos m5]
  rw [if_neg cm]
  obtain ⟨g1, a1, k1, t1, z1⟩ := m_next (N := N) hN z
  have es1 : lu1 X D s = (0, xnx X (s).2) := by
    rw [e1]; exact stp_0 hs
  have c1 : (lu1 X D s).1 = 0 := by rw [es1]
  have z1 : RZ X y g1 (lu1 X D s).2 := by rw [es1]; exact z1
  have p1 := p0.trans k1.rj.pf
  have y1 := (k1.2.1 23 (by omega)).trans y0
  have o1 : ∀ j, 2 ≤ j → j ≤ 16 → hI g1 (y + j) = hI h (y + j) := fun j a b => (k1.1.2.2 _ (by omega)).1.trans (o0 j a b)
  have n1 := n0.rx k1.1
  rw [a1, cl_s]
  obtain ⟨g2, a2, k2, t2, v2⟩ := M_new (N := N) hN (s := lu1 X D s) c1 z1 n1
  have p2 := p1.trans k2.pf
  have y2 := (k2.2 23 (by omega)).trans y1
  have t2 : MRs X y g2 (lu2 X D s) := t2
  have a2 : f_X11_needsNew N y g1 = some (yb (decide ((lu2 X D s).1 = 0)), g2) := a2
  have o2 : ∀ j, 2 ≤ j → j ≤ 16 → hI g2 (y + j) = hI h (y + j) := fun j a b => (k2.1.2.2 _ (by omega)).1.trans (o1 j a b)
  have n2 := n1.rx k2.1
  rw [ck_p z1.1.1.1, a2, cl_s, ite_i yb0]
  by_cases c2 : (lu2 X D s).1 = 0
  rotate_left
  · have fz : lu3 X D s = lu2 X D s := by
      unfold lu3
      rw [xSn_z c2]
    rw [if_pos (decide_eq_false c2), fz]
    exact ⟨g2, by rw [decide_eq_false c2]; rfl, p2, t2, fun e => absurd e c2⟩
  rw [if_neg (by rw [decide_eq_true c2]; decide)]
  have z2 := t2.1 c2
  obtain ⟨wn, -⟩ := xNew_s (X := X) (cnt := vC D) (nm := vN D) (s := lu1 X D s) c2
  have wd := xwv_W (sNm_i.mp wn).2.1
  obtain ⟨a3, n3⟩ := m_keepsName (N := N) (k := 1) (by decide) wd (show vC D 1 < mk5 1 from m5) (v2 c2) n2
  have a3 : f_X11_keepsName N y 1 g2 = _ := a3
  have x1 : Pf y g2 (sJ g2 (y + 3) (22 + (fN 1 + vC D 1)) (lN (u27 (xwv X (lu1 X D s).2)))) := Pf.J (by omega)
  have x2 : Pf y g2 (sI (sJ g2 (y + 3) (22 + (fN 1 + vC D 1)) (lN (u27 (xwv X (lu1 X D s).2)))) (y + 2) (6 + 1) (nI (vC D 1 + 1))) := x1.trans (Pf.I (by decide) (by decide) (by show 6 ≤ _; omega))
  have z3 : RZ X y (sI (sJ g2 (y + 3) (22 + (fN 1 + vC D 1)) (lN (u27 (xwv X (lu1 X D s).2)))) (y + 2) (6 + 1) (nI (vC D 1 + 1))) (lu2 X D s).2 := (z2.WJ).W (by decide)
  have fI : ∀ j, j ≠ y + 2 → hI (sI (sJ g2 (y + 3) (22 + (fN 1 + vC D 1)) (lN (u27 (xwv X (lu1 X D s).2)))) (y + 2) (6 + 1) (nI (vC D 1 + 1))) j = hI g2 j := fun j hj => hI_sI_ne hj
  have f2 : hI (sI (sJ g2 (y + 3) (22 + (fN 1 + vC D 1)) (lN (u27 (xwv X (lu1 X D s).2)))) (y + 2) (6 + 1) (nI (vC D 1 + 1))) (y + 2) = va_up (hI g2 (y + 2)) (6 + 1) (nI (vC D 1 + 1)) := hI_sI_eq
  rw [ck_p z2.1.1.1, a3, cl_s]
  generalize sI (sJ g2 (y + 3) (22 + (fN 1 + vC D 1)) (lN (u27 (xwv X (lu1 X D s).2)))) (y + 2) (6 + 1) (nI (vC D 1 + 1)) = g3 at x2 z3 fI f2 n3
  have p3 := p2.trans x2
  have y3 : hI g3 y 23 = hI h y 23 := by rw [fI _ (by omega)]; exact y2
  have o3 : ∀ j, 2 ≤ j → j ≤ 16 → j ≠ 2 → hI g3 (y + j) = hI h (y + j) := fun j a b w2 => by rw [fI _ (by omega)]; exact o2 j a b
  have f2_3 : hI g3 (y + 2) = va_up (hI h (y + 2)) (6 + 1) (nI (vC D 1 + 1)) := by rw [f2, o2 2 (by decide) (by decide)]
  obtain ⟨g4, a4, k4, t4⟩ := M_closes (N := N) hN (s := lu2 X D s) c2 z3
  have p4 := p3.trans k4.rj.pf
  have y4 := (k4.2.1 23 (by omega)).trans y3
  have t4 : MRs X y g4 (lu3 X D s) := t4
  have a4 : f_X11_closes N y g3 = some (yb (decide ((lu3 X D s).1 = 0)), g4) := a4
  have o4 : ∀ j, 2 ≤ j → j ≤ 16 → j ≠ 2 → hI g4 (y + j) = hI h (y + j) := fun j a b w2 => (k4.1.2.2 _ (by omega)).1.trans (o3 j a b w2)
  have f2_4 : hI g4 (y + 2) = _ := (k4.1.2.2 _ (by omega)).1.trans f2_3
  have n4 := n3.rx k4.1
  rw [ck_p z3.1.1.1, a4, cl_s, ck_p yb_g]
  by_cases c4 : (lu3 X D s).1 = 0
  rotate_left
  · have fz : lu3 X D s = lu3 X D s := rfl
    exact ⟨g4, rfl, p4, t4, fun e => absurd e c4⟩
  refine ⟨g4, rfl, p4, t4, fun _ => ?_⟩
  obtain ⟨-, q1, q2, q3, q4, q5, q6, q7, -⟩ := id q
  have oo : ∀ j, (j = 12 ∨ j = 13 ∨ j = 14) → hI g4 (y + j) = hI h (y + j) := fun j hj => o4 j (by omega) (by omega) (by omega)
  refine DM.up q n4 ?_ ?_ ?_ ?_ ?_ ?_ ?_ rfl y4 oo
  · rw [f2_4, va_ne (by decide)]; exact q1
  · rw [o4 4 (by decide) (by decide) (by decide), o4 5 (by decide) (by decide) (by decide), o4 6 (by decide) (by decide) (by decide)]; exact q2
  · rw [o4 7 (by decide) (by decide) (by decide)]; exact q3
  · rw [o4 8 (by decide) (by decide) (by decide)]; exact q4
  · rw [o4 9 (by decide) (by decide) (by decide)]; exact q5
  · rw [o4 10 (by decide) (by decide) (by decide)]; exact q6
  · rw [o4 11 (by decide) (by decide) (by decide)]; exact q7
end MLN
