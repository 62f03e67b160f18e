/-! The class reads a line: signs, watchers. -/
section CL3
variable {N x y w a : Nat} {X : TX} {s : ZS} {D : DV} {h : PH}
theorem xnv_b (h : (ra1 X s).1 = 0) : xnv X s.2 ≤ 999 := (xNu_s (X := X) (s := s) (a := 0) (b := 999) h).2.2
theorem ra3_s (h : (ra3 X s).1 = 0) : (ra2 X s).1 = 0 ∧ (ra1 X s).1 = 0 ∧ s.1 = 0 ∧ xnv X s.2 ≤ xnv X (ra2 X s).2 ∧ xnv X (ra2 X s).2 ≤ 999 := by
  unfold ra3 at h
  obtain ⟨h1, h2, h3⟩ := xNu_s h
  have c2 := (sNu_i.mp h1).1
  have c1 : (ra1 X s).1 = 0 := by
    unfold ra2 at c2
    exact (sWd_i.mp (xEx_s c2)).1
  refine ⟨c2, c1, ?_, h2, h3⟩
  unfold ra1 at c1
  exact (sNu_i.mp (xNu_s c1).1).1
theorem z_readRange (hN : 2000 ≤ N) (hw : x + 43 ≤ w) (hl : w + 18 ≤ hz h) (z : CZ X x h s) (rd : Rdr h a x w) (n0 : NmC h w (vC D) (vN D)) {g b : Nat} (hg : g ≤ 6) (hb : b < 2) : ∃ h', f_X7_readRange N a (nI g) (nI b) h = some ((), h') ∧ Kx x (fun z => z ≠ x + 1 ∧ z ≠ w + 8) h h' ∧ CZ X x h' (ra3 X s) ∧ hI h' (w + 8) = (if (ra3 X s).1 = 0 ∧ g < 6 then va_up (va_up (hI h (w + 8)) (4 * g + 2 * b) (nI (xnv X s.2))) (4 * g + 2 * b + 1) (nI (xnv X (ra2 X s).2)) else hI h (w + 8)) := by
  obtain ⟨r1, h1, a1, k1, z1, e1⟩ := z_expectNumber (N := N) (a := 0) (b := 999) (l1 := 0) (l2 := 999) hN (by decide) (by decide) (fun _ => rfl) rfl z
  have z1 : CZ X x h1 (ra1 X s) := z1
  have e1 : (ra1 X s).1 = 0 → r1 = nI (xnv X s.2) := e1
  have rd1 := rd.shp k1.1
  have n1 : NmC h1 w (vC D) (vN D) := n0.kx k1 (fun z z1 z2 => by omega) hl hw
  have l1 := Nat.le_trans hl k1.1.2.1
  obtain ⟨h2, a2, k2, z2⟩ := z_expect (N := N) hN (i := 9) (by decide) z1
  have z2 : CZ X x h2 (ra2 X s) := z2
  have rd2 := rd1.shp k2.1
  have n2 : NmC h2 w (vC D) (vN D) := n1.kx k2 (fun z z1 z2 => by omega) l1 hw
  have l2 := Nat.le_trans l1 k2.1.2.1
  have b1 : (ra2 X s).1 = 0 → (ra1 X s).1 = 0 := fun e => (sWd_i.mp (xEx_s e)).1
  -- the second number: its lower bound counts where all is sound
  have key : ∃ r3 h3, f_X5_expectNumber N (x + 1) r1 999 h2 = some (r3, h3) ∧ Kx x (fun z => z ≠ x + 1) h2 h3 ∧ CZ X x h3 (ra3 X s) ∧ ((ra3 X s).1 = 0 → r3 = nI (xnv X (ra2 X s).2)) := by
    by_cases c : (ra2 X s).1 = 0
    · have lb := xnv_b (b1 c)
      exact z_expectNumber (N := N) (a := xnv X s.2) (b := 999) (l1 := r1) (l2 := 999) hN (by omega) (by decide) (fun _ => e1 (b1 c)) rfl z2
    · obtain ⟨r3, h3, t1, t2, t3, t4⟩ := z_expectNumber (N := N) (a := 0) (b := 999) (l1 := r1) (l2 := 999) hN (by decide) (by decide) (fun e => absurd e c) rfl z2
      have es : ra3 X s = xNu X 0 999 (ra2 X s) := by
        unfold ra3
        rw [xNu_z c, xNu_z c]
      rw [← es] at t3 t4
      exact ⟨r3, h3, t1, t2, t3, t4⟩
  obtain ⟨r3, h3, a3, k3, z3, e3⟩ := key
  have rd3 := rd2.shp k3.1
  have n3 : NmC h3 w (vC D) (vN D) := n2.kx k3 (fun z z1 z2 => by omega) l2 hw
  have KK : Kx x (fun z => z ≠ x + 1) h h3 := (k1.trans k2).trans k3
  have row : hI h3 (w + 8) = hI h (w + 8) := (KK.2 (w + 8) (by omega)).1
  have K8 : Kx x (fun z => z ≠ x + 1 ∧ z ≠ w + 8) h h3 := KK.mono (fun z hz => hz.1)
  unfold f_X7_readRange
  rw [ck_p rd.1, rd.2.1, rq_s, ck_p z.1.1.1, a1, cl_s]
  rw [ck_p rd1.1, rd1.2.1, rq_s, ck_p z1.1.1.1, a2, cl_s]
  rw [ck_p rd2.1, rd2.2.1, rq_s, ck_p z2.1.1.1, a3, cl_s]
  rw [ck_p rd3.1, rd3.2.1, rq_s, ck_p z3.1.1.1, z_isSound z3, cl_s, ite_i yb0]
  by_cases c3 : (ra3 X s).1 = 0
  rotate_left
  · rw [if_pos (decide_eq_false c3), if_neg (fun z => c3 z.1)]
    exact ⟨h3, rfl, K8, z3, row⟩
  rw [if_neg (by rw [decide_eq_true c3]; decide), ite_i (show (6 : Int32) ≤ nI g ↔ 6 ≤ g from nI_leI (a := 6) (by decide) (by omega))]
  by_cases c6 : 6 ≤ g
  · rw [if_pos c6, if_neg (fun z => by omega)]
    exact ⟨h3, rfl, K8, z3, row⟩
  have c2 : (ra2 X s).1 = 0 := (sNu_i.mp (xNu_s (X := X) (s := ra2 X s) c3).1).1
  have V3 := n3.1
  have i0 : nI g * (4 : Int32) + nI b * (2 : Int32) = nI (4 * g + 2 * b) := by rw [show (4 : Int32) = nI 4 from rfl, show (2 : Int32) = nI 2 from rfl, pk_mul, pk_mul, nI_add, Nat.mul_comm g, Nat.mul_comm b]
  have ga : Vw w h3 (sI h3 (w + 8) (4 * g + 2 * b) (nI (xnv X s.2))) := Vw.I (by omega)
  have gb : Vw w h3 (sI (sI h3 (w + 8) (4 * g + 2 * b) (nI (xnv X s.2))) (w + 8) (4 * g + 2 * b + 1) (nI (xnv X (ra2 X s).2))) := ga.trans (Vw.I (by omega))
  have Va := V3.sm ga.1
  have rda := rd3.vw ga
  rw [if_neg c6, e3 c3, e1 (b1 c2), i0, nI_1, ck_p rd3.1, rd3.2.2.1, rq_s, ck_p V3.1, vR_ranges V3, rq_s, ck_p (vK_ranges V3), vN_ranges V3, ck_p (nI_ix (by omega) (by decide)), ix_nI (by omega), bd_e, ck_p rda.1, rda.2.2.1, rq_s, ck_p Va.1, vR_ranges Va, rq_s, ck_p (vK_ranges Va), vN_ranges Va, ck_p (nI_ix (by omega) (by decide)), ix_nI (by omega), bd_e, if_pos ⟨c3, by omega⟩]
  refine ⟨_, rfl, K8.trans (((Ex.sI (P := fun z => z = w + 8) rfl).trans (Ex.sI (P := fun z => z = w + 8) rfl)).kx (fun z hz => hz.2)), z3.vw hw gb, ?_⟩
  rw [hI_sI_eq, hI_sI_eq, row]
theorem z_readSign (hN : 2000 ≤ N) (hw : x + 43 ≤ w) (hl : w + 18 ≤ hz h) (z : CZ X x h s) (rd : Rdr h a x w) (q : DC h w D) (dw : DW D) : ∃ h', f_X7_readSign N a h = some ((), h') ∧ Kw x w h h' ∧ CZ X x h' (si7 X D s) ∧ ((si7 X D s).1 = 0 → DC h' w (uSi X D s)) := by
  have n0 := q.1
  have m3 : vC D 3 ≤ 6 := dw.1.1 3 (by decide)
  obtain ⟨h1, a1, k1, z1⟩ := z_oneMore (N := N) (k := 3) (m := 6) hN (by decide) (by decide) z rd n0
  have a1 : f_X7_oneMore N a 3 6 h = _ := a1
  have z1 : CZ X x h1 (si1 X D s) := z1
  have rd1 := rd.shp k1.1
  have n1 : NmC h1 w (vC D) (vN D) := n0.kx k1 (fun z z1 z2 => by omega) hl hw
  have l1 := Nat.le_trans hl k1.1.2.1
  obtain ⟨r2, h2, a2, k2, z2, e2⟩ := z_newName (N := N) hN z1 rd1 n1
  have z2 : CZ X x h2 (si2 X D s) := z2
  have e2 : (si2 X D s).1 = 0 → r2 = lN (xwv X (si1 X D s).2) := e2
  have rd2 := rd1.shp k2.1
  have n2 : NmC h2 w (vC D) (vN D) := n1.kx k2 (fun z z1 z2 => by omega) l1 hw
  have l2 := Nat.le_trans l1 k2.1.2.1
  obtain ⟨h3, a3, k3, z3⟩ := z_expect (N := N) hN (i := 1) (by decide) z2
  have z3 : CZ X x h3 (si3 X D s) := z3
  have rd3 := rd2.shp k3.1
  have n3 : NmC h3 w (vC D) (vN D) := n2.kx k3 (fun z z1 z2 => by omega) l2 hw
  have l3 := Nat.le_trans l2 k3.1.2.1
  have KK : Kx x (fun z => z ≠ x + 1) h h3 := ((k1.trans k2).trans k3)
  obtain ⟨h4, a4, k4, z4, w4⟩ := z_readRange (N := N) (D := D) hN hw l3 z3 rd3 n3 (g := vC D 3) (b := 0) m3 (by decide)
  have a4 : f_X7_readRange N a (nI (vC D 3)) 0 h3 = _ := a4
  have z4 : CZ X x h4 (si4 X D s) := z4
  rw [show 4 * vC D 3 + 2 * 0 = 4 * vC D 3 from rfl, show ra3 X (si3 X D s) = si4 X D s from rfl] at w4
  have rd4 := rd3.shp k4.1
  have n4 : NmC h4 w (vC D) (vN D) := ⟨n3.1.shp k4.1 l3 hw, by rw [(k4.2 (w + 1) (by omega)).1, (k4.2 (w + 2) (by omega)).2]; exact n3.2⟩
  have l4 := Nat.le_trans l3 k4.1.2.1
  obtain ⟨h5, a5, k5, z5⟩ := z_expect (N := N) hN (i := 2) (by decide) z4
  have z5 : CZ X x h5 (si5 X D s) := z5
  have rd5 := rd4.shp k5.1
  have n5 : NmC h5 w (vC D) (vN D) := n4.kx k5 (fun z z1 z2 => by omega) l4 hw
  have l5 := Nat.le_trans l4 k5.1.2.1
  obtain ⟨h6, a6, k6, z6, w6⟩ := z_readRange (N := N) (D := D) hN hw l5 z5 rd5 n5 (g := vC D 3) (b := 1) m3 (by decide)
  have a6 : f_X7_readRange N a (nI (vC D 3)) 1 h5 = _ := a6
  have z6 : CZ X x h6 (si6 X D s) := z6
  rw [show 4 * vC D 3 + 2 * 1 = 4 * vC D 3 + 2 from rfl, show 4 * vC D 3 + 2 + 1 = 4 * vC D 3 + 3 from rfl, show ra3 X (si5 X D s) = si6 X D s from rfl] at w6
  have rd6 := rd5.shp k6.1
  have n6 : NmC h6 w (vC D) (vN D) := ⟨n5.1.shp k6.1 l5 hw, by rw [(k6.2 (w + 1) (by omega)).1, (k6.2 (w + 2) (by omega)).2]; exact n5.2⟩
  have l6 := Nat.le_trans l5 k6.1.2.1
  obtain ⟨h7, a7, k7, z7⟩ := z_expectSign (N := N) hN (c := 59) (by decide) z6
  have a7 : f_X5_expectSign N (x + 1) 59 h6 = _ := a7
  have z7 : CZ X x h7 (si7 X D s) := z7
  have rd7 := rd6.shp k7.1
  have n7 : NmC h7 w (vC D) (vN D) := n6.kx k7 (fun z z1 z2 => by omega) l6 hw
  have K8 : Kx x (fun z => z ≠ x + 1 ∧ z ≠ w + 8) h h7 := ((((((k1.trans k2).trans k3).mono (fun z hz => hz.1)).trans k4).trans (k5.mono (fun z hz => hz.1))).trans k6).trans (k7.mono (fun z hz => hz.1))
  have K : Kw x w h h7 := ⟨K8.1, fun z hz => K8.2 z (by omega), fun l z hz => by rw [(K8.2 z (by omega)).1]⟩
  unfold f_X7_readSign
  rw [ck_p rd.1, a1, cl_s]
  rw [ck_p rd1.1, a2, cl_s]
  rw [ck_p rd2.1, rd2.2.1, rq_s, ck_p z2.1.1.1, a3, cl_s]
  rw [ck_p rd3.1, a4, cl_s]
  rw [ck_p rd4.1, rd4.2.1, rq_s, ck_p z4.1.1.1, a5, cl_s]
  rw [ck_p rd5.1, a6, cl_s]
  rw [ck_p rd6.1, rd6.2.1, rq_s, ck_p z6.1.1.1, a7, cl_s]
  rw [ck_p rd7.1, rd7.2.1, rq_s, ck_p z7.1.1.1, z_isSound z7, cl_s, ite_i yb0]
  by_cases c7 : (si7 X D s).1 = 0
  rotate_left
  · rw [if_pos (decide_eq_false c7)]
    exact ⟨h7, rfl, K, z7, fun e => absurd e c7⟩
  have c6 : (si6 X D s).1 = 0 := (sSg_i.mp (xSn_s c7)).1
  have c5 : (si5 X D s).1 = 0 := (ra3_s (s := si5 X D s) c6).2.2.1
  have c4 : (si4 X D s).1 = 0 := (sWd_i.mp (xEx_s c5)).1
  have c3 : (si3 X D s).1 = 0 := (ra3_s (s := si3 X D s) c4).2.2.1
  have c2 : (si2 X D s).1 = 0 := (sWd_i.mp (xEx_s c3)).1
  have c1 : (si1 X D s).1 = 0 := (sNm_i.mp (xNew_s c2).1).1
  have m5 := (xMor_s c1).1
  obtain ⟨wn, -⟩ := xNew_s c2
  have wd := xwv_W (sNm_i.mp wn).2.1
  rw [if_pos ⟨c4, m5⟩] at w4
  rw [if_pos ⟨c6, m5⟩, (k5.2 (w + 8) (by omega)).1, w4, (k3.2 (w + 8) (by omega)).1, (k2.2 (w + 8) (by omega)).1, (k1.2 (w + 8) (by omega)).1] at w6
  have w7 : hI h7 (w + 8) = _ := (k7.2 (w + 8) (by omega)).1.trans w6
  obtain ⟨en, nq⟩ := z_enter (N := N) (k := 3) (by decide) wd (show vC D 3 < mk5 3 from m5) n7
  have en : f_X6_enter N w 3 (lN (xwv X (si1 X D s).2)) h7 = _ := en
  rw [if_neg (by rw [decide_eq_true c7]; decide), e2 c2, ck_p rd7.1, rd7.2.2.1, rq_s, ck_p n7.1.1, en, cl_s]
  have GG : Vw w h7 (sI (sJ h7 (w + 2) (6 * 3 + vC D 3) (lN (xwv X (si1 X D s).2))) (w + 1) 3 (nI (vC D 3 + 1))) := (Vw.J (by omega)).trans (Vw.I (by omega))
  have fI : ∀ z, z ≠ w + 1 → hI (sI (sJ h7 (w + 2) (6 * 3 + vC D 3) (lN (xwv X (si1 X D s).2))) (w + 1) 3 (nI (vC D 3 + 1))) z = hI h7 z := fun z hz => hI_sI_ne hz
  generalize sI (sJ h7 (w + 2) (6 * 3 + vC D 3) (lN (xwv X (si1 X D s).2))) (w + 1) 3 (nI (vC D 3 + 1)) = g' at nq GG fI
  refine ⟨g', rfl, K.trans GG.kw, z7.vw hw GG, fun _ => ?_⟩
  have oth : ∀ j, j ≤ 17 → j ≠ 1 → j ≠ 8 → hI g' (w + j) = hI h (w + j) := fun j a b c => by rw [fI _ (by omega), (K8.2 (w + j) (by omega)).1]
  obtain ⟨-, q1, q2, q3, q4, q5, q6, q7, q8, -⟩ := id q
  have o0 := oth 0 (by decide) (by decide) (by decide)
  rw [Nat.add_zero] at o0
  refine DC.up q nq (by rw [o0]; exact q1) ?_ ?_ ?_ (by rw [o0]; exact q5) (fun k hk => ?_) ?_ ?_ rfl (fun j hj => oth j (by omega) (by omega) (by omega))
  · rw [oth 3 (by decide) (by decide) (by decide), oth 4 (by decide) (by decide) (by decide), oth 5 (by decide) (by decide) (by decide)]; exact q2
  · rw [oth 6 (by decide) (by decide) (by decide)]; exact q3
  · rw [oth 7 (by decide) (by decide) (by decide)]; exact q4
  · have hk : k < 4 * cUp D 3 3 := hk
    rw [cUp_e] at hk
    rw [fI _ (by omega), w7]
    show va_up (va_up (va_up (va_up (hI h (w + 8)) (4 * vC D 3) _) (4 * vC D 3 + 1) _) (4 * vC D 3 + 2) _) (4 * vC D 3 + 3) _ k = nI (va_up (va_up (va_up (va_up (vR D) (4 * vC D 3) _) (4 * vC D 3 + 1) _) (4 * vC D 3 + 2) _) (4 * vC D 3 + 3) _ k)
    by_cases e3 : k = 4 * vC D 3 + 3
    · rw [e3, va_eq, va_eq]
    · rw [va_ne e3, va_ne e3]
      by_cases e2 : k = 4 * vC D 3 + 2
      · rw [e2, va_eq, va_eq]
      · rw [va_ne e2, va_ne e2]
        by_cases e1 : k = 4 * vC D 3 + 1
        · rw [e1, va_eq, va_eq]
        · rw [va_ne e1, va_ne e1]
          by_cases e0 : k = 4 * vC D 3
          · rw [e0, va_eq, va_eq]
          · rw [va_ne e0, va_ne e0]
            exact q6 k (by omega)
  · rw [oth 9 (by decide) (by decide) (by decide)]; exact q7
  · rw [oth 10 (by decide) (by decide) (by decide)]; exact q8
theorem z_readWatcher (hN : 2000 ≤ N) (hw : x + 43 ≤ w) (hl : w + 18 ≤ hz h) (z : CZ X x h s) (rd : Rdr h a x w) (q : DC h w D) (dw : DW D) : ∃ h', f_X7_readWatcher N a h = some ((), h') ∧ Kw x w h h' ∧ CZ X x h' (wa6 X D s) ∧ ((wa6 X D s).1 = 0 → DC h' w (uWa X D s)) := by
  have n0 := q.1
  obtain ⟨h1, a1, k1, z1⟩ := z_oneMore (N := N) (k := 4) (m := 4) hN (by decide) (by decide) z rd n0
  have a1 : f_X7_oneMore N a 4 4 h = _ := a1
  have z1 : CZ X x h1 (wa1 X D s) := z1
  have rd1 := rd.shp k1.1
  have n1 : NmC h1 w (vC D) (vN D) := n0.kx k1 (fun z z1 z2 => by omega) hl hw
  have l1 := Nat.le_trans hl k1.1.2.1
  obtain ⟨r2, h2, a2, k2, z2, e2⟩ := z_newName (N := N) hN z1 rd1 n1
  have z2 : CZ X x h2 (wa2 X D s) := z2
  have e2 : (wa2 X D s).1 = 0 → r2 = lN (xwv X (wa1 X D s).2) := e2
  have rd2 := rd1.shp k2.1
  have n2 : NmC h2 w (vC D) (vN D) := n1.kx k2 (fun z z1 z2 => by omega) l1 hw
  have l2 := Nat.le_trans l1 k2.1.2.1
  obtain ⟨h3, a3, k3, z3⟩ := z_expect (N := N) hN (i := 11) (by decide) z2
  have z3 : CZ X x h3 (wa3 X D s) := z3
  have rd3 := rd2.shp k3.1
  have n3 : NmC h3 w (vC D) (vN D) := n2.kx k3 (fun z z1 z2 => by omega) l2 hw
  have l3 := Nat.le_trans l2 k3.1.2.1
  have KK : Kx x (fun z => z ≠ x + 1) h h3 := ((k1.trans k2).trans k3)
  have qq : DC h3 w D := q.kx KK (fun z z1 z2 => by omega) hl hw
  -- behind the sight
  have fin : ∀ (v : Int32) (g : PH), Kx x (fun z => z ≠ x + 1) h3 g → CZ X x g (wa4 X D s) → ((wa4 X D s).1 = 0 → v = nI (waV X D s)) → ∃ h', f_X7_readWatcher_84 N a (nI (vC D 4)) r2 v g = some ((), h') ∧ Kw x w h h' ∧ CZ X x h' (wa6 X D s) ∧ ((wa6 X D s).1 = 0 → DC h' w (uWa X D s)) := fun v g kg z4 hv => by
    have rd4 := rd3.shp kg.1
    have n4 : NmC g w (vC D) (vN D) := n3.kx kg (fun z z1 z2 => by omega) l3 hw
    have l4 := Nat.le_trans l3 kg.1.2.1
    obtain ⟨h5, a5, k5, z5⟩ := z_step (N := N) hN z4
    have z5 : CZ X x h5 (wa5 X D s) := z5
    have rd5 := rd4.shp k5.1
    have n5 : NmC h5 w (vC D) (vN D) := n4.kx k5 (fun z z1 z2 => by omega) l4 hw
    have l5 := Nat.le_trans l4 k5.1.2.1
    obtain ⟨h6, a6, k6, z6⟩ := z_expectSign (N := N) hN (c := 59) (by decide) z5
    have a6 : f_X5_expectSign N (x + 1) 59 h5 = _ := a6
    have z6 : CZ X x h6 (wa6 X D s) := z6
    have rd6 := rd5.shp k6.1
    have n6 : NmC h6 w (vC D) (vN D) := n5.kx k6 (fun z z1 z2 => by omega) l5 hw
    have K6 : Kx x (fun z => z ≠ x + 1) h3 h6 := (kg.trans k5).trans k6
    have q6' : DC h6 w D := qq.kx K6 (fun z z1 z2 => by omega) l3 hw
    have KA := KK.trans K6
    unfold f_X7_readWatcher_84
    rw [ck_p rd4.1, rd4.2.1, rq_s, ck_p z4.1.1.1, a5, cl_s, ck_p rd5.1, rd5.2.1, rq_s, ck_p z5.1.1.1, a6, cl_s, ck_p rd6.1, rd6.2.1, rq_s, ck_p z6.1.1.1, z_isSound z6, cl_s, ite_i yb0]
    by_cases c6 : (wa6 X D s).1 = 0
    rotate_left
    · rw [if_pos (decide_eq_false c6)]
      exact ⟨h6, rfl, KA.kw, z6, fun e => absurd e c6⟩
    have c5 : (wa5 X D s).1 = 0 := (sSg_i.mp (xSn_s c6)).1
    have c4 : (wa4 X D s).1 = 0 := stp_n.mp c5
    have c3 : (wa3 X D s).1 = 0 := by
      unfold wa4 at c4
      split at c4
      · exact c4
      · exact absurd c4 (flt_n (by decide))
    have c2 : (wa2 X D s).1 = 0 := (sWd_i.mp (xEx_s c3)).1
    have c1 : (wa1 X D s).1 = 0 := (sNm_i.mp (xNew_s c2).1).1
    have m5 := (xMor_s c1).1
    obtain ⟨wn, -⟩ := xNew_s c2
    have wd := xwv_W (sNm_i.mp wn).2.1
    have V6 := n6.1
    rw [if_neg (by rw [decide_eq_true c6]; decide), if_neg (show ¬ (4 : Int32) ≤ nI (vC D 4) by rw [show (4 : Int32) = nI 4 from rfl, nI_leI (by decide) (by omega)]; omega), e2 c2, hv c4]
    obtain ⟨g1, gdef⟩ : ∃ g1, g1 = sI h6 (w + 9) (vC D 4) (nI (waV X D s)) := ⟨_, rfl⟩
    have gc : Vw w h6 g1 := by rw [gdef]; exact Vw.I (by omega)
    have f9 : hI g1 (w + 9) = va_up (hI h6 (w + 9)) (vC D 4) (nI (waV X D s)) := by rw [gdef, hI_sI_eq]
    have fo : ∀ z, z ≠ w + 9 → hI g1 z = hI h6 z := fun z a => by rw [gdef, hI_sI_ne a]
    have ng : NmC g1 w (vC D) (vN D) := n6.e gc.1 (fo _ (by omega)) (by rw [gdef]; rfl)
    have rdg := rd6.vw gc
    obtain ⟨en, nq⟩ := z_enter (N := N) (k := 4) (by decide) wd (show vC D 4 < mk5 4 from m5) ng
    have en : f_X6_enter N w 4 (lN (xwv X (wa1 X D s).2)) g1 = _ := en
    rw [ck_p rd6.1, rd6.2.2.1, rq_s, ck_p V6.1, vR_sights V6, rq_s, ck_p (vK_sights V6), vN_sights V6, ck_p (nI_ix (by omega) (by decide)), ix_nI (by omega), bd_e]
    rw [← gdef, ck_p rdg.1, rdg.2.2.1, rq_s, ck_p ng.1.1, en, cl_s]
    have gd : Vw w g1 (sI (sJ g1 (w + 2) (6 * 4 + vC D 4) (lN (xwv X (wa1 X D s).2))) (w + 1) 4 (nI (vC D 4 + 1))) := (Vw.J (by omega)).trans (Vw.I (by omega))
    have GG := gc.trans gd
    have fI : ∀ z, z ≠ w + 1 → hI (sI (sJ g1 (w + 2) (6 * 4 + vC D 4) (lN (xwv X (wa1 X D s).2))) (w + 1) 4 (nI (vC D 4 + 1))) z = hI g1 z := fun z hz => hI_sI_ne hz
    generalize sI (sJ g1 (w + 2) (6 * 4 + vC D 4) (lN (xwv X (wa1 X D s).2))) (w + 1) 4 (nI (vC D 4 + 1)) = g' at nq GG fI
    refine ⟨g', rfl, KA.kw.trans GG.kw, z6.vw hw GG, fun _ => ?_⟩
    have oth : ∀ j, j ≤ 17 → j ≠ 1 → j ≠ 9 → hI g' (w + j) = hI h6 (w + j) := fun j a b c => by rw [fI _ (by omega), fo _ (by omega)]
    obtain ⟨-, q1, q2, q3, q4, q5, q6, q7, q8, -⟩ := id q6'
    have o0 := oth 0 (by decide) (by decide) (by decide)
    rw [Nat.add_zero] at o0
    refine DC.up q6' nq (by rw [o0]; exact q1) ?_ ?_ ?_ (by rw [o0]; exact q5) ?_ (fun k hk => ?_) ?_ rfl (fun j hj => oth j (by omega) (by omega) (by omega))
    · rw [oth 3 (by decide) (by decide) (by decide), oth 4 (by decide) (by decide) (by decide), oth 5 (by decide) (by decide) (by decide)]; exact q2
    · rw [oth 6 (by decide) (by decide) (by decide)]; exact q3
    · rw [oth 7 (by decide) (by decide) (by decide)]; exact q4
    · rw [oth 8 (by decide) (by decide) (by decide)]; exact q6
    · have hk : k < cUp D 4 4 := hk
      rw [cUp_e] at hk
      rw [fI _ (by omega), f9]
      show va_up _ _ _ k = nI (va_up (vG D) (vC D 4) _ k)
      by_cases e : k = vC D 4
      · rw [e, va_eq, va_eq]
      · rw [va_ne e, va_ne e]
        exact q7 k (by omega)
    · rw [oth 10 (by decide) (by decide) (by decide)]; exact q8
  unfold f_X7_readWatcher
  rw [ck_p rd.1, a1, cl_s]
  rw [ck_p rd1.1, a2, cl_s]
  rw [ck_p rd2.1, rd2.2.1, rq_s, ck_p z2.1.1.1, a3, cl_s]
  rw [ck_p rd3.1, rd3.2.1, rq_s, ck_p z3.1.1.1, z_isAt (by decide) z3, cl_s, ite_i yb0]
  have e4 : (sWd X (wa3 X D s) 1 = true ∨ sWd X (wa3 X D s) 2 = true ∨ sWd X (wa3 X D s) 12 = true) → wa4 X D s = wa3 X D s := fun z => if_pos z
  by_cases d1 : sWd X (wa3 X D s) 1 = true
  · rw [if_neg (by rw [d1]; decide)]
    refine fin 0 h3 Kx.rf (by rw [e4 (Or.inl d1)]; exact z3) (fun _ => ?_)
    unfold waV
    rw [if_pos d1]
    rfl
  rw [if_pos (sF_of d1), ck_p rd3.1, rd3.2.1, rq_s, ck_p z3.1.1.1, z_isAt (by decide) z3, cl_s, ite_i yb0]
  by_cases d2 : sWd X (wa3 X D s) 2 = true
  · rw [if_neg (by rw [d2]; decide)]
    refine fin 1 h3 Kx.rf (by rw [e4 (Or.inr (Or.inl d2))]; exact z3) (fun _ => ?_)
    unfold waV
    rw [if_neg d1, if_pos d2]
    rfl
  rw [if_pos (sF_of d2), ck_p rd3.1, rd3.2.1, rq_s, ck_p z3.1.1.1, z_isAt (by decide) z3, cl_s, ite_i yb0]
  by_cases d3 : sWd X (wa3 X D s) 12 = true
  · rw [if_neg (by rw [d3]; decide)]
    refine fin 2 h3 Kx.rf (by rw [e4 (Or.inr (Or.inr d3))]; exact z3) (fun _ => ?_)
    unfold waV
    rw [if_neg d1, if_neg d2]
    rfl
  obtain ⟨g, r1, r2', r3⟩ := z_fail (N := N) (k := 1) ⟨by decide, by decide⟩ z3
  have r1 : f_X5_fail N (x + 1) 1 h3 = _ := r1
  have ef : wa4 X D s = flt X 1 (wa3 X D s) := if_neg (fun z => by
    rcases z with z | z | z
    · exact d1 z
    · exact d2 z
    · exact d3 z)
  rw [if_pos (sF_of d3), ck_p rd3.1, rd3.2.1, rq_s, ck_p z3.1.1.1, r1, cl_s]
  exact fin 2 g r2' (by rw [ef]; exact r3) (fun e => by rw [ef] at e; exact absurd e (flt_n (by decide)))
end CL3
