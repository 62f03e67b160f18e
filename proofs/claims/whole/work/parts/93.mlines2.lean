/-! The reference reads a line: house, stock. -/
section ML2
variable {N y : Nat} {X : TX} {s : ZS} {D : DV} {h : PH}
/-- a new house has nothing told -/
theorem m_rh74 {v : Nat} {l2 : Int64} (hv : v < 8) : ∀ (n i : Nat) (h : PH), 5 < n + i → i ≤ 5 → MD h y → ∃ g, f_X11_readsHouse_74 N n y (nI v) l2 (nI i) h = (ck (hK g y = 10) <| cl (f_X11_nextToken N y g) fun r2 h3 => ck (hK h3 y = 10) <| bd (sJ h3 y 38 l2) fun h6 => ck (hK h6 y = 10) <| cl (f_X11_keepsName N y (2 : Int32) h6) fun r7 h8 => ck (hK h8 y = 10) <| cl (f_X11_closes N y h8) fun r10 h11 => ck (r10 = 0 ∨ r10 = 1) <| some (r10, h11)) ∧ Ex (fun z => z = y + 8) h g ∧ (∀ k, i ≤ k → k < 5 → hI g (y + 8) (5 * v + k) = -1) ∧ ∀ k, (k < 5 * v + i ∨ 5 * v + 5 ≤ k) → hI g (y + 8) k = hI h (y + 8) k
  | 0, i, h, h1, h2, _ => by omega
  | n + 1, i, h, h1, h2, m => by
    show ∃ g, f_X11_readsHouse_74_b N (f_X11_readsHouse_74 N n) y _ _ _ h = _ ∧ _
    unfold f_X11_readsHouse_74_b
    rw [ite_i (show (5 : Int32) ≤ nI i ↔ 5 ≤ i from nI_leI (a := 5) (by decide) (by omega))]
    by_cases c : 5 ≤ i
    · rw [if_pos c]
      exact ⟨h, rfl, Ex.rf, fun k k1 k2 => by omega, fun _ _ => rfl⟩
    · have e5 : (5 : Int32) * nI v + nI i = nI (5 * v + i) := by rw [show (5 : Int32) = nI 5 from rfl, pk_mul, nI_add]
      have E1 : Ex (fun z => z = y + 8) h (sI h (y + 8) (5 * v + i) (-1)) := Ex.sI rfl
      have f1 : hI (sI h (y + 8) (5 * v + i) (-1)) (y + 8) = va_up (hI h (y + 8)) (5 * v + i) (-1) := hI_sI_eq
      obtain ⟨g, r1, r2, r3, r4⟩ := m_rh74 (l2 := l2) hv n (i + 1) (sI h (y + 8) (5 * v + i) (-1)) (by omega) (by omega) (m.sm Sm.sI)
      refine ⟨g, ?_, E1.trans r2, fun k k1 k2 => ?_, fun k hk => ?_⟩
      · rw [if_neg c, ck_p m.1, mR_stockTold m, rq_s, ck_p (mK_stockTold m), mN_stockTold m, e5, ck_p (nI_ix (by omega) (by decide)), ix_nI (by omega), bd_e, bd_e, nI_1]
        exact r1
      · by_cases e : k = i
        · rw [e, r4 _ (by omega), f1, va_eq]
        · exact r3 k (by omega) k2
      · rw [r4 k (by omega), f1, va_ne (by omega)]
theorem RZ.J38 {p : Nat} {v : Int64} (z : RZ X y h p) : RZ X y (sJ h y 38 v) p := by
  obtain ⟨rb, a1, a2, a3, a4, a5, a6⟩ := z
  refine ⟨rb.rx Rx.J rfl, a1, a2, a3, a4, fun e => ?_, a6⟩
  rw [hJ_sJ, up2_k _ _ _ (by decide)]
  exact a5 e
theorem m_readsHouse (hN : 2000 ≤ N) (hs : s.1 = 0) (z : RZ X y h s.2) (q : DM h y D) (dw : DW D) : ∃ h', f_X11_readsHouse N y h = some (yb (decide ((ho6 X D s).1 = 0)), h') ∧ Pf y h h' ∧ MRs X y h' (ho6 X D s) ∧ ((ho6 X D s).1 = 0 → DM h' y (uHo X D s)) := by
  have n0 := q.1
  have m := n0.1
  have p0 : Pf y h h := Pf.rf
  have o0 : ∀ j, 2 ≤ j → j ≤ 16 → hI h (y + j) = hI h (y + j) := fun _ _ _ => rfl
  have y0 : hI h y 23 = hI h y 23 := rfl
  have cn : hI h (y + 2) 8 = nI (vC D 2) := by have := (q.1.2 2 (by decide)).2.1; exact this
  have mk : vC D 2 ≤ 4 := dw.1.1 2 (by decide)
  unfold f_X11_readsHouse
  rw [ck_p m.1, mR_valley m, rq_s, ck_p (mK_valley m), mN_valley m, ck_p (by decide), cn, show (4 : Int32) + nI (vC D 2) = nI (4 + vC D 2) from nI_add 4 _, bd_e, ite_i (show nI (4 + vC D 2) = (8 : Int32) ↔ vC D 2 = 4 from (nI_eq (b := 8) (by omega) (by decide)).trans ⟨fun e => by omega, fun e => by omega⟩)]
  by_cases cm : vC D 2 = 4
  · obtain ⟨g, r1, r2, r3⟩ := m_fails (N := N) (k := 5) z
    have r1 : f_X11_fails N y 5 h = _ := r1
    have e1 : ho1 X D s = (5 + 16 * xbg X s.2, s.2) := by
      unfold ho1 xMor
      rw [if_neg (by omega), stp_z (flt_n (by decide)), flt_0 hs]
    have c1 : (ho1 X D s).1 ≠ 0 := by
      rw [e1]
      show 5 + 16 * xbg X s.2 ≠ 0
      omega
    have fz : ho6 X D s = ho1 X D s := by
      unfold ho6 ho5 ho4 ho3 ho2
      rw [xNew_z c1, xEx_z c1, xTld_z c1, stp_z c1, xSn_z c1]
    rw [if_pos cm, r1, cl_s, ck_p (Or.inl rfl), fz]
    exact ⟨g, by rw [decide_eq_false c1]; rfl, r2.rj.pf, by rw [e1]; exact MRs.f (by decide) r3, fun e => absurd e c1⟩
  have m5 : vC D 2 < 4 := by omega
  have e1 : ho1 X D s = stp X s := by
    unfold ho1 xMor
    rw [if_pos m5]
  rw [if_neg cm]
  obtain ⟨g1, a1, k1, t1, z1⟩ := m_next (N := N) hN z
  have es1 : ho1 X D s = (0, xnx X (s).2) := by
    rw [e1]; exact stp_0 hs
  have c1 : (ho1 X D s).1 = 0 := by rw [es1]
  have z1 : RZ X y g1 (ho1 X D s).2 := by rw [es1]; exact z1
  have p1 := p0.trans k1.rj.pf
  have y1 := (k1.2.1 23 (by omega)).trans y0
  have o1 : ∀ j, 2 ≤ j → j ≤ 16 → hI g1 (y + j) = hI h (y + j) := fun j a b => (k1.1.2.2 _ (by omega)).1.trans (o0 j a b)
  have n1 := n0.rx k1.1
  rw [a1, cl_s]
  obtain ⟨g2, a2, k2, t2, v2⟩ := M_new (N := N) hN (s := ho1 X D s) c1 z1 n1
  have p2 := p1.trans k2.pf
  have y2 := (k2.2 23 (by omega)).trans y1
  have t2 : MRs X y g2 (ho2 X D s) := t2
  have a2 : f_X11_needsNew N y g1 = some (yb (decide ((ho2 X D s).1 = 0)), g2) := a2
  have o2 : ∀ j, 2 ≤ j → j ≤ 16 → hI g2 (y + j) = hI h (y + j) := fun j a b => (k2.1.2.2 _ (by omega)).1.trans (o1 j a b)
  have n2 := n1.rx k2.1
  rw [ck_p z1.1.1.1, a2, cl_s, ite_i yb0]
  by_cases c2 : (ho2 X D s).1 = 0
  rotate_left
  · have fz : ho6 X D s = ho2 X D s := by
      unfold ho6 ho5 ho4 ho3
      rw [xEx_z c2, xTld_z c2, stp_z c2, xSn_z c2]
    rw [if_pos (decide_eq_false c2), fz]
    exact ⟨g2, by rw [decide_eq_false c2]; rfl, p2, t2, fun e => absurd e c2⟩
  rw [if_neg (by rw [decide_eq_true c2]; decide)]
  have z2 := t2.1 c2
  obtain ⟨wn, -⟩ := xNew_s (X := X) (cnt := vC D) (nm := vN D) (s := ho1 X D s) c2
  have wd := xwv_W (sNm_i.mp wn).2.1
  have v2 : hJ g2 y 38 = lN (u27 (xwv X (ho1 X D s).2)) := v2 c2
  obtain ⟨g3, a3, k3, t3⟩ := M_word (N := N) hN (i := 6) (by decide) kL6 (s := ho2 X D s) c2 z2
  have p3 := p2.trans k3.rj.pf
  have y3 := (k3.2.1 23 (by omega)).trans y2
  have t3 : MRs X y g3 (ho3 X D s) := t3
  have a3 : f_X11_needsWord N y (47 : Int64) g2 = some (yb (decide ((ho3 X D s).1 = 0)), g3) := a3
  have o3 : ∀ j, 2 ≤ j → j ≤ 16 → hI g3 (y + j) = hI h (y + j) := fun j a b => (k3.1.2.2 _ (by omega)).1.trans (o2 j a b)
  have n3 := n2.rx k3.1
  rw [ck_p z2.1.1.1, v2, bd_e, a3, cl_s, ite_i yb0]
  by_cases c3 : (ho3 X D s).1 = 0
  rotate_left
  · have fz : ho6 X D s = ho3 X D s := by
      unfold ho6 ho5 ho4
      rw [xTld_z c3, stp_z c3, xSn_z c3]
    rw [if_pos (decide_eq_false c3), fz]
    exact ⟨g3, by rw [decide_eq_false c3]; rfl, p3, t3, fun e => absurd e c3⟩
  rw [if_neg (by rw [decide_eq_true c3]; decide)]
  have z3 := t3.1 c3
  obtain ⟨g4, a4, k4, t4, v4⟩ := M_told (N := N) hN (k := 1) (by decide) (by decide) (s := ho3 X D s) c3 z3 n3
  have a4 : f_X11_needsNamed N y 1 1 g3 = _ := a4
  have p4 := p3.trans k4.rj.pf
  have y4 := (k4.2.1 23 (by omega)).trans y3
  have t4 : MRs X y g4 (ho4 X D s) := t4
  have a4 : f_X11_needsNamed N y 1 1 g3 = some (yb (decide ((ho4 X D s).1 = 0)), g4) := a4
  have o4 : ∀ j, 2 ≤ j → j ≤ 16 → hI g4 (y + j) = hI h (y + j) := fun j a b => (k4.1.2.2 _ (by omega)).1.trans (o3 j a b)
  have n4 := n3.rx k4.1
  rw [ck_p z3.1.1.1, a4, cl_s, ite_i yb0]
  by_cases c4 : (ho4 X D s).1 = 0
  rotate_left
  · have fz : ho6 X D s = ho4 X D s := by
      unfold ho6 ho5
      rw [stp_z c4, xSn_z c4]
    rw [if_pos (decide_eq_false c4), fz]
    exact ⟨g4, by rw [decide_eq_false c4]; rfl, p4, t4, fun e => absurd e c4⟩
  rw [if_neg (by rw [decide_eq_true c4]; decide)]
  have z4 := t4.1 c4
  have v4 : hI g4 y 37 = nI (nfi (vC D) (vN D) 1 (xwv X (ho3 X D s).2)) := v4 c4
  obtain ⟨g5, gd5⟩ : ∃ g, g = sI g4 (y + 7) (4 + vC D 2) (nI (nfi (vC D) (vN D) 1 (xwv X (ho3 X D s).2))) := ⟨_, rfl⟩
  rw [ck_p z4.1.1.1, mR_houseAt z4.1.1, rq_s, ck_p (mK_houseAt z4.1.1), mN_houseAt z4.1.1, ck_p (nI_ix (by omega) (by decide)), ix_nI (by omega), v4, bd_e, ← gd5]
  have z5 : RZ X y g5 (ho4 X D s).2 := by rw [gd5]; exact z4.W (by decide)
  have p5 : Pf y h g5 := by rw [gd5]; exact p4.trans (Pf.I (by decide) (by decide) (by show 4 ≤ _; omega))
  have y5 : hI g5 y 23 = hI h y 23 := by rw [gd5, hI_sI_ne (by omega)]; exact y4
  have o5 : ∀ j, 2 ≤ j → j ≤ 16 → j ≠ 7 → hI g5 (y + j) = hI h (y + j) := fun j a b w7 => by rw [gd5, hI_sI_ne (by omega)]; exact o4 j a b
  have f7_5 : hI g5 (y + 7) = va_up (hI h (y + 7)) (4 + vC D 2) (nI (nfi (vC D) (vN D) 1 (xwv X (ho3 X D s).2))) := by rw [gd5, hI_sI_eq, o4 7 (by decide) (by decide)]
  have n5 : NmM g5 y 1 (vC D) (vN D) := by rw [gd5]; exact n4.W (by decide) (by decide)
  obtain ⟨g6, r6, e6, x6, w6⟩ := m_rh74 (N := N) (v := 4 + vC D 2) (l2 := lN (u27 (xwv X (ho1 X D s).2))) (by omega) N 0 g5 (by omega) (by omega) z5.1.1
  have r6 : f_X11_readsHouse_74 N N y (nI (4 + vC D 2)) (lN (u27 (xwv X (ho1 X D s).2))) 0 g5 = _ := r6
  have z6 : RZ X y g6 (ho4 X D s).2 := z5.rw' e6.1 (e6.2.2.2 y (by omega)) (e6.2.2.2 (y + 1) (by omega)) (by rw [e6.2.2.1])
  have n6 : NmM g6 y 1 (vC D) (vN D) := ⟨n5.1.sm e6.1, fun k hk => by rw [e6.2.2.2 (y + 2) (by omega), e6.2.2.1]; exact n5.2 k hk⟩
  have x56 : Pf y g5 g6 := ⟨e6.1, e6.2.1, fun z hz => ⟨e6.2.2.2 z (by omega), by rw [e6.2.2.1]⟩, fun j k a b d => ⟨by
    by_cases e : j = 8
    · subst e
      have d : k < 20 := d
      exact w6 k (Or.inl (by omega))
    · rw [e6.2.2.2 _ (by omega)], by rw [e6.2.2.1]⟩, fun k hk => by rw [e6.2.2.2 y (by omega)]⟩
  have p6 := p5.trans x56
  have y6 : hI g6 y 23 = hI h y 23 := by rw [e6.2.2.2 y (by omega)]; exact y5
  have o6 : ∀ j, 2 ≤ j → j ≤ 16 → j ≠ 7 → j ≠ 8 → hI g6 (y + j) = hI h (y + j) := fun j a b w7 w8 => by rw [e6.2.2.2 _ (by omega)]; exact o5 j a b w7
  have f7_6 : hI g6 (y + 7) = va_up (hI h (y + 7)) (4 + vC D 2) (nI (nfi (vC D) (vN D) 1 (xwv X (ho3 X D s).2))) := by rw [e6.2.2.2 _ (by omega)]; exact f7_5
  have f8_6 : ∀ i f, i < vC D 2 + 1 → f < 5 → hI g6 (y + 8) (20 + (5 * i + f)) = if i = vC D 2 then -1 else hI h (y + 8) (20 + (5 * i + f)) := fun i f a b => by
    by_cases e : i = vC D 2
    · rw [if_pos e, show 20 + (5 * i + f) = 5 * (4 + vC D 2) + f by omega]
      exact x6 f (by omega) b
    · rw [if_neg e, w6 _ (by omega), o5 8 (by decide) (by decide) (by decide)]
  rw [r6]
  -- the next token, and the name kept aside
  obtain ⟨g7, a7, k7, t7, z7⟩ := m_next (N := N) hN z6
  have es7 : ho5 X D s = (0, xnx X (ho4 X D s).2) := stp_0 c4
  have c7 : (ho5 X D s).1 = 0 := by rw [es7]
  have z7 : RZ X y g7 (ho5 X D s).2 := by rw [es7]; exact z7
  have n7 := n6.rx k7.1
  have p7 := p6.trans k7.rj.pf
  have y7 := (k7.2.1 23 (by omega)).trans y6
  have Q7 : ∀ j, 2 ≤ j → j ≤ 16 → hI g7 (y + j) = hI g6 (y + j) := fun j a b => (k7.1.2.2 _ (by omega)).1
  obtain ⟨g8, gd8⟩ : ∃ g, g = sJ g7 y 38 (lN (u27 (xwv X (ho1 X D s).2))) := ⟨_, rfl⟩
  have z8 : RZ X y g8 (ho5 X D s).2 := by rw [gd8]; exact z7.J38
  have x8 : Rj y g7 g8 := by rw [gd8]; exact ⟨Rx.J, fun _ _ => rfl⟩
  have n8 := n7.rx x8.1
  have p8 := p7.trans x8.pf
  have y8 := (x8.2 23 (by omega)).trans y7
  have j8 : hJ g8 y 38 = lN (u27 (xwv X (ho1 X D s).2)) := by rw [gd8]; exact up2_self _ _ _ _
  have Q8 : ∀ j, 2 ≤ j → j ≤ 16 → hI g8 (y + j) = hI g6 (y + j) := fun j a b => (x8.1.2.2 _ (by omega)).1.trans (Q7 j a b)
  have o8 : ∀ j, 2 ≤ j → j ≤ 16 → j ≠ 7 → j ≠ 8 → hI g8 (y + j) = hI h (y + j) := fun j a b w7 w8 => (Q8 j a b).trans (o6 j a b w7 w8)
  have f7_8 : hI g8 (y + 7) = _ := (Q8 7 (by decide) (by decide)).trans f7_6
  have f8_8 : hI g8 (y + 8) = hI g6 (y + 8) := Q8 8 (by decide) (by decide)
  rw [ck_p z6.1.1.1, a7, cl_s, ck_p z7.1.1.1, bd_e, ← gd8]
  obtain ⟨a9, n9⟩ := m_keepsName (N := N) (k := 2) (by decide) wd (show vC D 2 < mk5 2 from m5) j8 n8
  have a9 : f_X11_keepsName N y 2 g8 = _ := a9
  have x1 : Pf y g8 (sJ g8 (y + 3) (22 + (fN 2 + vC D 2)) (lN (u27 (xwv X (ho1 X D s).2)))) := Pf.J (by omega)
  have x2 : Pf y g8 (sI (sJ g8 (y + 3) (22 + (fN 2 + vC D 2)) (lN (u27 (xwv X (ho1 X D s).2)))) (y + 2) (6 + 2) (nI (vC D 2 + 1))) := x1.trans (Pf.I (by decide) (by decide) (by show 6 ≤ _; omega))
  have z9 : RZ X y (sI (sJ g8 (y + 3) (22 + (fN 2 + vC D 2)) (lN (u27 (xwv X (ho1 X D s).2)))) (y + 2) (6 + 2) (nI (vC D 2 + 1))) (ho5 X D s).2 := (z8.WJ).W (by decide)
  have fI : ∀ j, j ≠ y + 2 → hI (sI (sJ g8 (y + 3) (22 + (fN 2 + vC D 2)) (lN (u27 (xwv X (ho1 X D s).2)))) (y + 2) (6 + 2) (nI (vC D 2 + 1))) j = hI g8 j := fun j hj => hI_sI_ne hj
  have f2 : hI (sI (sJ g8 (y + 3) (22 + (fN 2 + vC D 2)) (lN (u27 (xwv X (ho1 X D s).2)))) (y + 2) (6 + 2) (nI (vC D 2 + 1))) (y + 2) = va_up (hI g8 (y + 2)) (6 + 2) (nI (vC D 2 + 1)) := hI_sI_eq
  rw [ck_p z8.1.1.1, a9, cl_s]
  generalize sI (sJ g8 (y + 3) (22 + (fN 2 + vC D 2)) (lN (u27 (xwv X (ho1 X D s).2)))) (y + 2) (6 + 2) (nI (vC D 2 + 1)) = g9 at x2 z9 fI f2 n9
  have p9 := p8.trans x2
  have y9 : hI g9 y 23 = hI h y 23 := by rw [fI _ (by omega)]; exact y8
  have o9 : ∀ j, 2 ≤ j → j ≤ 16 → j ≠ 7 → j ≠ 8 → j ≠ 2 → hI g9 (y + j) = hI h (y + j) := fun j a b w7 w8 w2 => by rw [fI _ (by omega)]; exact o8 j a b w7 w8
  have f7_9 : hI g9 (y + 7) = _ := (fI _ (by omega)).trans f7_8
  have f8_9 : hI g9 (y + 8) = _ := (fI _ (by omega)).trans f8_8
  have f2_9 : hI g9 (y + 2) = va_up (hI h (y + 2)) (6 + 2) (nI (vC D 2 + 1)) := by rw [f2, o8 2 (by decide) (by decide) (by decide) (by decide)]
  obtain ⟨g10, a10, k10, t10⟩ := M_closes (N := N) hN (s := ho5 X D s) c7 z9
  have p10 := p9.trans k10.rj.pf
  have y10 := (k10.2.1 23 (by omega)).trans y9
  have t10 : MRs X y g10 (ho6 X D s) := t10
  have a10 : f_X11_closes N y g9 = some (yb (decide ((ho6 X D s).1 = 0)), g10) := a10
  have o10 : ∀ j, 2 ≤ j → j ≤ 16 → j ≠ 7 → j ≠ 8 → j ≠ 2 → hI g10 (y + j) = hI h (y + j) := fun j a b w7 w8 w2 => (k10.1.2.2 _ (by omega)).1.trans (o9 j a b w7 w8 w2)
  have f7_10 : hI g10 (y + 7) = _ := (k10.1.2.2 _ (by omega)).1.trans f7_9
  have f8_10 : hI g10 (y + 8) = _ := (k10.1.2.2 _ (by omega)).1.trans f8_9
  have f2_10 : hI g10 (y + 2) = _ := (k10.1.2.2 _ (by omega)).1.trans f2_9
  have n10 := n9.rx k10.1
  rw [ck_p z9.1.1.1, a10, cl_s, ck_p yb_g]
  by_cases c10 : (ho6 X D s).1 = 0
  rotate_left
  · have fz : ho6 X D s = ho6 X D s := rfl
    exact ⟨g10, rfl, p10, t10, fun e => absurd e c10⟩
  refine ⟨g10, rfl, p10, t10, fun _ => ?_⟩
  obtain ⟨-, q1, q2, q3, q4, q5, q6, q7, -⟩ := id q
  have oo : ∀ j, (j = 12 ∨ j = 13 ∨ j = 14) → hI g10 (y + j) = hI h (y + j) := fun j hj => o10 j (by omega) (by omega) (by omega) (by omega) (by omega)
  refine DM.up q n10 ?_ ?_ ?_ ?_ ?_ ?_ ?_ rfl y10 oo
  · rw [f2_10, va_ne (by decide)]; exact q1
  · rw [o10 4 (by decide) (by decide) (by decide) (by decide) (by decide), o10 5 (by decide) (by decide) (by decide) (by decide) (by decide), o10 6 (by decide) (by decide) (by decide) (by decide) (by decide)]; exact q2
  · intro k hk
    have hk : k < cUp D 2 2 := hk
    rw [cUp_e] at hk
    rw [f7_10]
    show va_up _ _ _ (4 + k) = nI (va_up (vF D) (vC D 2) _ k)
    by_cases e : k = vC D 2
    · rw [e, va_eq, va_eq]
    · rw [va_ne (by omega), va_ne e]
      exact q3 k (by omega)
  · intro i f hi hf
    have hi : i < cUp D 2 2 := hi
    rw [cUp_e] at hi
    have m4 : vC D 2 ≤ 4 := mk
    rw [f8_10, f8_6 i f hi hf]
    show _ = nI (vT D (5 * i + f)) + (-1)
    by_cases e : i = vC D 2
    · rw [if_pos e, dw.2.2.2.2.1 i f (by omega) hf (Or.inl (by omega))]
      decide
    · rw [if_neg e]
      exact q4 i f (by omega) hf
  · rw [o10 9 (by decide) (by decide) (by decide) (by decide) (by decide)]; exact q5
  · rw [o10 10 (by decide) (by decide) (by decide) (by decide) (by decide)]; exact q6
  · rw [o10 11 (by decide) (by decide) (by decide) (by decide) (by decide)]; exact q7
theorem m_readsStock (hN : 2000 ≤ N) (hs : s.1 = 0) (z : RZ X y h s.2) (q : DM h y D) (dw : DW D) : ∃ h', f_X11_readsStock N y h = some (yb (decide ((sk8 X D s).1 = 0)), h') ∧ Pf y h h' ∧ MRs X y h' (sk8 X D s) ∧ ((sk8 X D s).1 = 0 → DM h' y (uSk X D s)) := by
  have n0 := q.1
  obtain ⟨g1, a1, k1, t1, z1⟩ := m_next (N := N) hN z
  have es1 : sk1 X s = (0, xnx X s.2) := stp_0 hs
  have c1 : (sk1 X s).1 = 0 := by rw [es1]
  have z1 : RZ X y g1 (sk1 X s).2 := by rw [es1]; exact z1
  have n1 := n0.rx k1.1
  obtain ⟨g2, a2, k2, t2, v2⟩ := M_told (N := N) (y := y) (X := X) (cnt := vC D) (nm := vN D) hN (r := 1) (k := 2) (by decide) (by decide) (s := sk1 X s) c1 z1 n1
  have t2 : MRs X y g2 (sk2 X D s) := t2
  have a2 : f_X11_needsNamed N y 1 2 g1 = some (yb (decide ((sk2 X D s).1 = 0)), g2) := a2
  unfold f_X11_readsStock
  rw [ck_p z.1.1.1, a1, cl_s, ck_p z1.1.1.1, a2, cl_s, ite_i yb0]
  by_cases c2 : (sk2 X D s).1 = 0
  rotate_left
  · have e4 : sk4 X D s = sk2 X D s := by
      unfold sk4 sk3
      rw [stp_z c2, xTld_z c2]
    have fz : sk8 X D s = sk2 X D s := by
      unfold sk8 sk7 sk6 sk5
      rw [if_neg (fun e => c2 (by rw [← e4]; exact e.1)), e4, stp_z c2, xNu_z c2, xSn_z c2]
    rw [if_pos (decide_eq_false c2), fz]
    exact ⟨g2, by rw [decide_eq_false c2]; rfl, k1.rj.pf.trans k2.rj.pf, t2, fun e => absurd e c2⟩
  have z2 := t2.1 c2
  have n2 := n1.rx k2.1
  have v2 : hI g2 y 37 = nI (nfi (vC D) (vN D) 2 (xwv X (sk1 X s).2)) := v2 c2
  obtain ⟨g3, a3, k3, t3, z3⟩ := m_next (N := N) hN z2
  have es3 : sk3 X D s = (0, xnx X (sk2 X D s).2) := stp_0 c2
  have c3 : (sk3 X D s).1 = 0 := by rw [es3]
  have z3 : RZ X y g3 (sk3 X D s).2 := by rw [es3]; exact z3
  have n3 := n2.rx k3.1
  obtain ⟨g4, a4, k4, t4, v4⟩ := M_told (N := N) (y := y) (X := X) (cnt := vC D) (nm := vN D) hN (r := 1) (k := 0) (by decide) (by decide) (s := sk3 X D s) c3 z3 n3
  have t4 : MRs X y g4 (sk4 X D s) := t4
  have a4 : f_X11_needsNamed N y 1 0 g3 = some (yb (decide ((sk4 X D s).1 = 0)), g4) := a4
  have p4 := ((k1.rj.pf.trans k2.rj.pf).trans k3.rj.pf).trans k4.rj.pf
  rw [if_neg (by rw [decide_eq_true c2]; decide), ck_p z2.1.1.1, v2, bd_e, a3, cl_s, ck_p z3.1.1.1, a4, cl_s, ite_i yb0]
  by_cases c4 : (sk4 X D s).1 = 0
  rotate_left
  · have fz : sk8 X D s = sk4 X D s := by
      unfold sk8 sk7 sk6 sk5
      rw [if_neg (fun e => c4 e.1), stp_z c4, xNu_z c4, xSn_z c4]
    rw [if_pos (decide_eq_false c4), fz]
    exact ⟨g4, by rw [decide_eq_false c4]; rfl, p4, t4, fun e => absurd e c4⟩
  have z4 := t4.1 c4
  have n4 := n3.rx k4.1
  have v4 : hI g4 y 37 = nI (nfi (vC D) (vN D) 0 (xwv X (sk3 X D s).2)) := v4 c4
  have u2 := xTld_s (X := X) (cnt := vC D) (nm := vN D) (k := 2) (s := sk1 X s) c2
  have u4 := xTld_s (X := X) (cnt := vC D) (nm := vN D) (k := 0) (s := sk3 X D s) c4
  have m2 : vC D 2 ≤ 4 := dw.1.1 2 (by decide)
  have m0 : vC D 0 ≤ 5 := dw.1.1 0 (by decide)
  have e17 : ((20 : Int32) + (5 : Int32) * nI (nfi (vC D) (vN D) 2 (xwv X (sk1 X s).2))) + nI (nfi (vC D) (vN D) 0 (xwv X (sk3 X D s).2)) = nI (20 + skA X D s) := by
    rw [show (5 : Int32) = nI 5 from rfl, pk_mul, show (20 : Int32) = nI 20 from rfl, nI_add, nI_add, Nat.add_assoc]
    rfl
  have lA : skA X D s < 20 := by
    unfold skA
    omega
  have row : ∀ j, 2 ≤ j → j ≤ 16 → hI g4 (y + j) = hI h (y + j) := fun j a b => (((k4.1.2.2 _ (by omega)).1.trans (k3.1.2.2 _ (by omega)).1).trans (k2.1.2.2 _ (by omega)).1).trans (k1.1.2.2 _ (by omega)).1
  have y4 : hI g4 y 23 = hI h y 23 := (((k4.2.1 23 (by omega)).trans (k3.2.1 23 (by omega))).trans (k2.2.1 23 (by omega))).trans (k1.2.1 23 (by omega))
  have e8 : hI g4 (y + 8) (20 + skA X D s) = nI (vT D (skA X D s)) + (-1) := by
    rw [row 8 (by decide) (by decide)]
    exact q.2.2.2.2.1 _ _ u2.2.1 (by omega)
  have lT := dw.2.2.2.1 _ lA
  have eb : nI (vT D (skA X D s)) + (-1 : Int32) < 0 ↔ vT D (skA X D s) = 0 := by
    have : ∀ b, b ≤ 100 → (nI b + (-1 : Int32) < 0 ↔ b = 0) := by decide +kernel
    exact this _ lT
  rw [if_neg (by rw [decide_eq_true c4]; decide), ck_p z4.1.1.1, v4, e17, bd_e, mR_stockTold z4.1.1, rq_s, ck_p (mK_stockTold z4.1.1), mN_stockTold z4.1.1, ck_p (nI_ix (by omega) (by decide)), ix_nI (by omega), e8, ite_i eb]
  by_cases cT : vT D (skA X D s) = 0
  rotate_left
  · obtain ⟨g5, r1, r2, r3⟩ := m_fails (N := N) (k := 3) z4
    have r1 : f_X11_fails N y 3 g4 = _ := r1
    have e5 : sk5 X D s = (3 + 16 * xbg X (sk4 X D s).2, (sk4 X D s).2) := by
      unfold sk5
      rw [if_pos ⟨c4, cT⟩, flt_0 c4]
    have c5 : (sk5 X D s).1 ≠ 0 := by
      rw [e5]
      show 3 + 16 * xbg X (sk4 X D s).2 ≠ 0
      omega
    have fz : sk8 X D s = sk5 X D s := by
      unfold sk8 sk7 sk6
      rw [stp_z c5, xNu_z c5, xSn_z c5]
    rw [if_neg cT, r1, cl_s, ck_p (Or.inl rfl), fz]
    exact ⟨g5, by rw [decide_eq_false c5]; rfl, p4.trans r2.rj.pf, by rw [e5]; exact MRs.f (by decide) r3, fun e => absurd e c5⟩
  have e5 : sk5 X D s = sk4 X D s := if_neg (fun e => e.2 cT)
  obtain ⟨g6, a6, k6, t6, z6⟩ := m_next (N := N) hN z4
  have es6 : sk6 X D s = (0, xnx X (sk4 X D s).2) := by
    unfold sk6
    rw [e5]
    exact stp_0 c4
  have c6 : (sk6 X D s).1 = 0 := by rw [es6]
  have z6 : RZ X y g6 (sk6 X D s).2 := by rw [es6]; exact z6
  have n6 := n4.rx k6.1
  obtain ⟨g7, a7, k7, t7, v7⟩ := M_num (N := N) hN (a := 0) (b := 99) (l1 := 0) (l2 := 99) (by decide) (by decide) rfl rfl (s := sk6 X D s) c6 z6
  have t7 : MRs X y g7 (sk7 X D s) := t7
  have a7 : f_X11_needsNumber N y 0 99 g6 = some (yb (decide ((sk7 X D s).1 = 0)), g7) := a7
  have p7 := (p4.trans k6.rj.pf).trans k7.rj.pf
  rw [if_pos cT, a6, cl_s, ck_p z6.1.1.1, a7, cl_s, ite_i yb0]
  by_cases c7 : (sk7 X D s).1 = 0
  rotate_left
  · have fz : sk8 X D s = sk7 X D s := xSn_z c7
    rw [if_pos (decide_eq_false c7), fz]
    exact ⟨g7, by rw [decide_eq_false c7]; rfl, p7, t7, fun e => absurd e c7⟩
  have z7 := t7.1 c7
  have n7 := n6.rx k7.1
  have v7 : hI g7 y 37 = nI (xnv X (sk6 X D s).2) := v7 c7
  obtain ⟨g8, gd8⟩ : ∃ g, g = sI g7 (y + 8) (20 + skA X D s) (nI (xnv X (sk6 X D s).2)) := ⟨_, rfl⟩
  have z8 : RZ X y g8 (sk7 X D s).2 := by rw [gd8]; exact z7.W (by decide)
  have n8 : NmM g8 y 1 (vC D) (vN D) := by rw [gd8]; exact n7.W (by decide) (by decide)
  have p8 : Pf y h g8 := by rw [gd8]; exact p7.trans (Pf.I (by decide) (by decide) (by show 20 ≤ _; omega))
  obtain ⟨g9, a9, k9, t9⟩ := M_closes (N := N) hN (s := sk7 X D s) c7 z8
  have t9 : MRs X y g9 (sk8 X D s) := t9
  have a9 : f_X11_closes N y g8 = some (yb (decide ((sk8 X D s).1 = 0)), g9) := a9
  rw [if_neg (by rw [decide_eq_true c7]; decide), ck_p z7.1.1.1, mR_stockTold z7.1.1, rq_s, ck_p (mK_stockTold z7.1.1), mN_stockTold z7.1.1, ck_p (nI_ix (by omega) (by decide)), v7, bd_e, ← gd8, ck_p z8.1.1.1, a9, cl_s, ck_p yb_g]
  refine ⟨g9, rfl, p8.trans k9.rj.pf, t9, fun _ => ?_⟩
  have r9 : ∀ j, 2 ≤ j → j ≤ 16 → j ≠ 8 → hI g9 (y + j) = hI h (y + j) := fun j a b c => by
    rw [(k9.1.2.2 _ (by omega)).1, gd8, hI_sI_ne (by omega), (k7.1.2.2 _ (by omega)).1, (k6.1.2.2 _ (by omega)).1, row j a b]
  have f8 : hI g9 (y + 8) = va_up (hI h (y + 8)) (20 + skA X D s) (nI (xnv X (sk6 X D s).2)) := by
    rw [(k9.1.2.2 _ (by omega)).1, gd8, hI_sI_eq, (k7.1.2.2 _ (by omega)).1, (k6.1.2.2 _ (by omega)).1, row 8 (by decide) (by decide)]
  have y9 : hI g9 y 23 = hI h y 23 := by
    rw [k9.2.1 23 (by omega), gd8, hI_sI_ne (by omega), k7.2.1 23 (by omega), k6.2.1 23 (by omega), y4]
  obtain ⟨-, q1, q2, q3, q4, q5, q6, q7, -⟩ := id q
  refine DM.up q (n8.rx k9.1) ?_ ?_ ?_ ?_ ?_ ?_ ?_ rfl y9 (fun j hj => r9 j (by omega) (by omega) (by omega))
  · rw [r9 2 (by decide) (by decide) (by decide)]; exact q1
  · rw [r9 4 (by decide) (by decide) (by decide), r9 5 (by decide) (by decide) (by decide), r9 6 (by decide) (by decide) (by decide)]; exact q2
  · rw [r9 7 (by decide) (by decide) (by decide)]; exact q3
  · intro i f hi hf
    rw [f8]
    show va_up _ _ _ (20 + (5 * i + f)) = nI (va_up (vT D) (skA X D s) _ (5 * i + f)) + (-1)
    by_cases e : 5 * i + f = skA X D s
    · rw [e, va_eq, va_eq, pk_m1]
    · rw [va_ne (by omega), va_ne e]
      exact q4 i f hi hf
  · rw [r9 9 (by decide) (by decide) (by decide)]; exact q5
  · rw [r9 10 (by decide) (by decide) (by decide)]; exact q6
  · rw [r9 11 (by decide) (by decide) (by decide)]; exact q7
end ML2
