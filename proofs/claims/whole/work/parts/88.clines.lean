/-! The class reads a line: fuel, flue, house. -/
section CLN
variable {N x y w a : Nat} {X : TX} {s : ZS} {D : DV} {h : PH}
theorem DC.up {D D' : DV} {h h' : PH} (q : DC h w D) (nq : NmC h' w (vC D') (vN D')) (c0 : hI h' w 11 = nI (vC D' 5)) (c1 : ∀ k, k < vC D' 0 → hI h' (w + 3) k = nI (vD D' k) ∧ hI h' (w + 4) k = nI (vS D' k) ∧ hI h' (w + 5) k = nI (vB D' k)) (c2 : ∀ k, k < vC D' 2 → hI h' (w + 6) k = nI (vF D' k)) (c3 : ∀ k, k < 20 → hI h' (w + 7) k = nI (vT D' k - 1)) (c4 : hI h' w 7 = nI (bts (fun k => decide (vT D' k ≠ 0)) 20)) (c5 : ∀ k, k < 4 * vC D' 3 → hI h' (w + 8) k = nI (vR D' k)) (c6 : ∀ k, k < vC D' 4 → hI h' (w + 9) k = nI (vG D' k)) (c7 : ∀ k, k < vC D' 5 → hI h' (w + 10) k = nI (vW D' k)) (hL : vL D' = vL D) (r : ∀ j, (j = 11 ∨ j = 12 ∨ j = 14 ∨ j = 15 ∨ j = 17) → hI h' (w + j) = hI h (w + j)) : DC h' w D' := by
  obtain ⟨-, -, -, -, -, -, -, -, -, ⟨q9, q10, q11, q12⟩, q13⟩ := q
  refine ⟨nq, c0, c1, c2, c3, c4, c5, c6, c7, ⟨?_, ?_, ?_, ?_⟩, ?_⟩
  · unfold LC at q9 ⊢
    rw [hL, r 11 (by omega), show w + 11 + 1 = w + 12 by omega, r 12 (by omega)]
    exact q9
  · unfold LC at q10 ⊢
    rw [hL, r 14 (by omega), show w + 14 + 1 = w + 15 by omega, r 15 (by omega)]
    exact q10
  · rw [r 11 (by omega)]; exact q11
  · rw [r 14 (by omega)]; exact q12
  · rw [r 17 (by omega)]; exact q13
theorem z_readFuel (hN : 2000 ≤ N) (hw : x + 43 ≤ w) (hl : w + 18 ≤ hz h) (z : CZ X x h s) (rd : Rdr h a x w) (q : DC h w D) (dw : DW D) : ∃ h', f_X7_readFuel N a h = some ((), h') ∧ Kw x w h h' ∧ CZ X x h' (fu9 X D s) ∧ ((fu9 X D s).1 = 0 → DC h' w (uFu X D s)) := by
  have n0 := q.1
  obtain ⟨h1, a1, k1, z1⟩ := z_oneMore (N := N) (k := 0) (m := 5) hN (by decide) (by decide) z rd n0
  have a1 : f_X7_oneMore N a 0 5 h = _ := a1
  have z1 : CZ X x h1 (fu1 X D s) := z1
  have rd1 := rd.shp k1.1
  have n1 : NmC h1 w (vC D) (vN D) := n0.kx k1 (fun z z1 z2 => by omega) hl hw
  have l1 := Nat.le_trans hl k1.1.2.1
  obtain ⟨r2, h2, a2, k2, z2, e2⟩ := z_newName (N := N) hN z1 rd1 n1
  have z2 : CZ X x h2 (fu2 X D s) := z2
  have e2 : (fu2 X D s).1 = 0 → r2 = lN (xwv X (fu1 X D s).2) := e2
  have rd2 := rd1.shp k2.1
  have n2 : NmC h2 w (vC D) (vN D) := n1.kx k2 (fun z z1 z2 => by omega) l1 hw
  have l2 := Nat.le_trans l1 k2.1.2.1
  obtain ⟨h3, a3, k3, z3⟩ := z_expect (N := N) hN (i := 1) (by decide) z2
  have z3 : CZ X x h3 (fu3 X D s) := z3
  have rd3 := rd2.shp k3.1
  have n3 : NmC h3 w (vC D) (vN D) := n2.kx k3 (fun z z1 z2 => by omega) l2 hw
  have l3 := Nat.le_trans l2 k3.1.2.1
  obtain ⟨r4, h4, a4, k4, z4, e4⟩ := z_expectNumber (N := N) (a := 0) (b := 99) (l1 := 0) (l2 := 99) hN (by decide) (by decide) (fun _ => rfl) rfl z3
  have z4 : CZ X x h4 (fu4 X D s) := z4
  have e4 : (fu4 X D s).1 = 0 → r4 = nI (xnv X (fu3 X D s).2) := e4
  have rd4 := rd3.shp k4.1
  have n4 : NmC h4 w (vC D) (vN D) := n3.kx k4 (fun z z1 z2 => by omega) l3 hw
  have l4 := Nat.le_trans l3 k4.1.2.1
  obtain ⟨h5, a5, k5, z5⟩ := z_expect (N := N) hN (i := 2) (by decide) z4
  have z5 : CZ X x h5 (fu5 X D s) := z5
  have rd5 := rd4.shp k5.1
  have n5 : NmC h5 w (vC D) (vN D) := n4.kx k5 (fun z z1 z2 => by omega) l4 hw
  have l5 := Nat.le_trans l4 k5.1.2.1
  obtain ⟨r6, h6, a6, k6, z6, e6⟩ := z_expectNumber (N := N) (a := 0) (b := 99) (l1 := 0) (l2 := 99) hN (by decide) (by decide) (fun _ => rfl) rfl z5
  have z6 : CZ X x h6 (fu6 X D s) := z6
  have e6 : (fu6 X D s).1 = 0 → r6 = nI (xnv X (fu5 X D s).2) := e6
  have rd6 := rd5.shp k6.1
  have n6 : NmC h6 w (vC D) (vN D) := n5.kx k6 (fun z z1 z2 => by omega) l5 hw
  have l6 := Nat.le_trans l5 k6.1.2.1
  obtain ⟨h7, a7, k7, z7⟩ := z_expect (N := N) hN (i := 3) (by decide) z6
  have z7 : CZ X x h7 (fu7 X D s) := z7
  have rd7 := rd6.shp k7.1
  have n7 : NmC h7 w (vC D) (vN D) := n6.kx k7 (fun z z1 z2 => by omega) l6 hw
  have l7 := Nat.le_trans l6 k7.1.2.1
  obtain ⟨r8, h8, a8, k8, z8, e8⟩ := z_expectNumber (N := N) (a := 1) (b := 9) (l1 := 1) (l2 := 9) hN (by decide) (by decide) (fun _ => rfl) rfl z7
  have z8 : CZ X x h8 (fu8 X D s) := z8
  have e8 : (fu8 X D s).1 = 0 → r8 = nI (xnv X (fu7 X D s).2) := e8
  have rd8 := rd7.shp k8.1
  have n8 : NmC h8 w (vC D) (vN D) := n7.kx k8 (fun z z1 z2 => by omega) l7 hw
  have l8 := Nat.le_trans l7 k8.1.2.1
  obtain ⟨h9, a9, k9, z9⟩ := z_expectSign (N := N) hN (c := 59) (by decide) z8
  have a9 : f_X5_expectSign N (x + 1) 59 h8 = _ := a9
  have z9 : CZ X x h9 (fu9 X D s) := z9
  have rd9 := rd8.shp k9.1
  have n9 : NmC h9 w (vC D) (vN D) := n8.kx k9 (fun z z1 z2 => by omega) l8 hw
  have l9 := Nat.le_trans l8 k9.1.2.1
  have KK : Kx x (fun z => z ≠ x + 1) h h9 := ((((((((k1.trans k2).trans k3).trans k4).trans k5).trans k6).trans k7).trans k8).trans k9)
  have qq : DC h9 w D := q.kx KK (fun z z1 z2 => by omega) hl hw
  have K : Kw x w h h9 := KK.kw
  unfold f_X7_readFuel
  rw [ck_p rd.1, a1, cl_s]
  rw [ck_p rd1.1, a2, cl_s]
  rw [ck_p rd2.1, rd2.2.1, rq_s, ck_p z2.1.1.1, a3, cl_s]
  rw [ck_p rd3.1, rd3.2.1, rq_s, ck_p z3.1.1.1, a4, cl_s]
  rw [ck_p rd4.1, rd4.2.1, rq_s, ck_p z4.1.1.1, a5, cl_s]
  rw [ck_p rd5.1, rd5.2.1, rq_s, ck_p z5.1.1.1, a6, cl_s]
  rw [ck_p rd6.1, rd6.2.1, rq_s, ck_p z6.1.1.1, a7, cl_s]
  rw [ck_p rd7.1, rd7.2.1, rq_s, ck_p z7.1.1.1, a8, cl_s]
  rw [ck_p rd8.1, rd8.2.1, rq_s, ck_p z8.1.1.1, a9, cl_s]
  rw [ck_p rd9.1, rd9.2.1, rq_s, ck_p z9.1.1.1, z_isSound z9, cl_s, ite_i yb0]
  by_cases c9 : (fu9 X D s).1 = 0
  rotate_left
  · rw [if_pos (decide_eq_false c9)]
    exact ⟨h9, rfl, K, z9, fun e => absurd e c9⟩
  have c8 : (fu8 X D s).1 = 0 := (sSg_i.mp (xSn_s c9)).1
  have c7 : (fu7 X D s).1 = 0 := (sNu_i.mp (xNu_s c8).1).1
  have c6 : (fu6 X D s).1 = 0 := (sWd_i.mp (xEx_s c7)).1
  have c5 : (fu5 X D s).1 = 0 := (sNu_i.mp (xNu_s c6).1).1
  have c4 : (fu4 X D s).1 = 0 := (sWd_i.mp (xEx_s c5)).1
  have c3 : (fu3 X D s).1 = 0 := (sNu_i.mp (xNu_s c4).1).1
  have c2 : (fu2 X D s).1 = 0 := (sWd_i.mp (xEx_s c3)).1
  have c1 : (fu1 X D s).1 = 0 := (sNm_i.mp (xNew_s c2).1).1
  rw [if_neg (by rw [decide_eq_true c9]; decide)]
  have m5 := (xMor_s c1).1
  obtain ⟨wn, -⟩ := xNew_s c2
  have wd := xwv_W (sNm_i.mp wn).2.1
  have v4 := xNu_s (X := X) (s := fu3 X D s) (a := 0) (b := 99) c4
  have v6 := xNu_s (X := X) (s := fu5 X D s) (a := 0) (b := 99) c6
  have v8 := xNu_s (X := X) (s := fu7 X D s) (a := 1) (b := 9) c8
  have V9 := n9.1
  rw [e2 c2, e4 c4, e6 c6, e8 c8, if_neg (show ¬ (5 : Int32) ≤ nI (vC D 0) by rw [show (5 : Int32) = nI 5 from rfl, nI_leI (by decide) (by omega)]; omega)]
  -- the three numbers
  obtain ⟨g, gdef⟩ : ∃ g, g = sI (sI (sI h9 (w + 3) (vC D 0) (nI (xnv X (fu3 X D s).2))) (w + 4) (vC D 0) (nI (xnv X (fu5 X D s).2))) (w + 5) (vC D 0) (nI (xnv X (fu7 X D s).2)) := ⟨_, rfl⟩
  have ga : Vw w h9 (sI h9 (w + 3) (vC D 0) (nI (xnv X (fu3 X D s).2))) := Vw.I (by omega)
  have gb : Vw w h9 (sI (sI h9 (w + 3) (vC D 0) (nI (xnv X (fu3 X D s).2))) (w + 4) (vC D 0) (nI (xnv X (fu5 X D s).2))) := ga.trans (Vw.I (by omega))
  have gc : Vw w h9 g := by rw [gdef]; exact gb.trans (Vw.I (by omega))
  have Va := V9.sm ga.1
  have Vb := V9.sm gb.1
  have f3 : hI g (w + 3) = va_up (hI h9 (w + 3)) (vC D 0) (nI (xnv X (fu3 X D s).2)) := by rw [gdef, hI_sI_ne (by omega), hI_sI_ne (by omega), hI_sI_eq]
  have f4 : hI g (w + 4) = va_up (hI h9 (w + 4)) (vC D 0) (nI (xnv X (fu5 X D s).2)) := by rw [gdef, hI_sI_ne (by omega), hI_sI_eq, hI_sI_ne (by omega)]
  have f5 : hI g (w + 5) = va_up (hI h9 (w + 5)) (vC D 0) (nI (xnv X (fu7 X D s).2)) := by rw [gdef, hI_sI_eq, hI_sI_ne (by omega), hI_sI_ne (by omega)]
  have fo : ∀ z, z ≠ w + 3 → z ≠ w + 4 → z ≠ w + 5 → hI g z = hI h9 z := fun z a b c => by rw [gdef, hI_sI_ne c, hI_sI_ne b, hI_sI_ne a]
  have ng : NmC g w (vC D) (vN D) := n9.e gc.1 (fo _ (by omega) (by omega) (by omega)) (by rw [gdef]; rfl)
  have rdg := rd9.vw gc
  obtain ⟨en, nq⟩ := z_enter (N := N) (k := 0) (by decide) wd (show vC D 0 < mk5 0 from m5) ng
  have en : f_X6_enter N w 0 (lN (xwv X (fu1 X D s).2)) g = _ := en
  rw [ck_p rd9.1, rd9.2.2.1, rq_s, ck_p V9.1, vR_dark V9, rq_s, ck_p (vK_dark V9), vN_dark V9, ck_p (nI_ix (by omega) (by decide)), ix_nI (by omega), bd_e]
  rw [ck_p (rd9.vw ga).1, (rd9.vw ga).2.2.1, rq_s, ck_p Va.1, vR_sweet Va, rq_s, ck_p (vK_sweet Va), vN_sweet Va, ck_p (nI_ix (by omega) (by decide)), bd_e]
  rw [ck_p (rd9.vw gb).1, (rd9.vw gb).2.2.1, rq_s, ck_p Vb.1, vR_burns Vb, rq_s, ck_p (vK_burns Vb), vN_burns Vb, ck_p (nI_ix (by omega) (by decide)), bd_e]
  rw [← gdef, ck_p rdg.1, rdg.2.2.1, rq_s, ck_p ng.1.1, en, cl_s]
  have gd : Vw w g (sI (sJ g (w + 2) (6 * 0 + vC D 0) (lN (xwv X (fu1 X D s).2))) (w + 1) 0 (nI (vC D 0 + 1))) := (Vw.J (by omega)).trans (Vw.I (by omega))
  have GG := gc.trans gd
  have fI : ∀ z, z ≠ w + 1 → hI (sI (sJ g (w + 2) (6 * 0 + vC D 0) (lN (xwv X (fu1 X D s).2))) (w + 1) 0 (nI (vC D 0 + 1))) z = hI g z := fun z hz => hI_sI_ne hz
  generalize sI (sJ g (w + 2) (6 * 0 + vC D 0) (lN (xwv X (fu1 X D s).2))) (w + 1) 0 (nI (vC D 0 + 1)) = g' at nq GG fI
  refine ⟨g', rfl, K.trans GG.kw, z9.vw hw GG, fun _ => ?_⟩
  have oth : ∀ j, j ≤ 17 → j ≠ 1 → j ≠ 3 → j ≠ 4 → j ≠ 5 → hI g' (w + j) = hI h9 (w + j) := fun j a b c d e => by rw [fI _ (by omega), fo _ (by omega) (by omega) (by omega)]
  obtain ⟨-, q1, q2, q3, q4, q5, q6, q7, q8, -⟩ := id qq
  have o0 := oth 0 (by decide) (by decide) (by decide) (by decide) (by decide)
  rw [Nat.add_zero] at o0
  refine DC.up qq nq (by rw [o0]; exact q1) (fun k hk => ?_) ?_ ?_ (by rw [o0]; exact q5) ?_ ?_ ?_ rfl (fun j hj => oth j (by omega) (by omega) (by omega) (by omega) (by omega))
  · have hk : k < cUp D 0 0 := hk
    rw [cUp_e] at hk
    rw [fI _ (by omega), fI _ (by omega), fI _ (by omega), f3, f4, f5]
    show va_up _ _ _ k = nI (va_up (vD D) (vC D 0) _ k) ∧ va_up _ _ _ k = nI (va_up (vS D) (vC D 0) _ k) ∧ va_up _ _ _ k = nI (va_up (vB D) (vC D 0) _ k)
    by_cases e : k = vC D 0
    · rw [e, va_eq, va_eq, va_eq, va_eq, va_eq, va_eq]
      exact ⟨rfl, rfl, rfl⟩
    · rw [va_ne e, va_ne e, va_ne e, va_ne e, va_ne e, va_ne e]
      exact q2 k (by omega)
  · rw [oth 6 (by decide) (by decide) (by decide) (by decide) (by decide)]; exact q3
  · rw [oth 7 (by decide) (by decide) (by decide) (by decide) (by decide)]; exact q4
  · rw [oth 8 (by decide) (by decide) (by decide) (by decide) (by decide)]; exact q6
  · rw [oth 9 (by decide) (by decide) (by decide) (by decide) (by decide)]; exact q7
  · rw [oth 10 (by decide) (by decide) (by decide) (by decide) (by decide)]; exact q8
theorem z_readFlue (hN : 2000 ≤ N) (hw : x + 43 ≤ w) (hl : w + 18 ≤ hz h) (z : CZ X x h s) (rd : Rdr h a x w) (q : DC h w D) (dw : DW D) : ∃ h', f_X7_readFlue N a h = some ((), h') ∧ Kw x w h h' ∧ CZ X x h' (lu3 X D s) ∧ ((lu3 X D s).1 = 0 → DC h' w (uLu X D s)) := by
  have n0 := q.1
  obtain ⟨h1, a1, k1, z1⟩ := z_oneMore (N := N) (k := 1) (m := 3) hN (by decide) (by decide) z rd n0
  have a1 : f_X7_oneMore N a 1 3 h = _ := a1
  have z1 : CZ X x h1 (lu1 X D s) := z1
  have rd1 := rd.shp k1.1
  have n1 : NmC h1 w (vC D) (vN D) := n0.kx k1 (fun z z1 z2 => by omega) hl hw
  have l1 := Nat.le_trans hl k1.1.2.1
  obtain ⟨r2, h2, a2, k2, z2, e2⟩ := z_newName (N := N) hN z1 rd1 n1
  have z2 : CZ X x h2 (lu2 X D s) := z2
  have e2 : (lu2 X D s).1 = 0 → r2 = lN (xwv X (lu1 X D s).2) := e2
  have rd2 := rd1.shp k2.1
  have n2 : NmC h2 w (vC D) (vN D) := n1.kx k2 (fun z z1 z2 => by omega) l1 hw
  have l2 := Nat.le_trans l1 k2.1.2.1
  obtain ⟨h3, a3, k3, z3⟩ := z_expectSign (N := N) hN (c := 59) (by decide) z2
  have a3 : f_X5_expectSign N (x + 1) 59 h2 = _ := a3
  have z3 : CZ X x h3 (lu3 X D s) := z3
  have rd3 := rd2.shp k3.1
  have n3 : NmC h3 w (vC D) (vN D) := n2.kx k3 (fun z z1 z2 => by omega) l2 hw
  have l3 := Nat.le_trans l2 k3.1.2.1
  have KK : Kx x (fun z => z ≠ x + 1) h h3 := ((k1.trans k2).trans k3)
  have qq : DC h3 w D := q.kx KK (fun z z1 z2 => by omega) hl hw
  have K : Kw x w h h3 := KK.kw
  unfold f_X7_readFlue
  rw [ck_p rd.1, a1, cl_s]
  rw [ck_p rd1.1, a2, cl_s]
  rw [ck_p rd2.1, rd2.2.1, rq_s, ck_p z2.1.1.1, a3, cl_s]
  rw [ck_p rd3.1, rd3.2.1, rq_s, ck_p z3.1.1.1, z_isSound z3, cl_s, ite_i yb0]
  by_cases c3 : (lu3 X D s).1 = 0
  rotate_left
  · rw [if_pos (decide_eq_false c3)]
    exact ⟨h3, rfl, K, z3, fun e => absurd e c3⟩
  have c2 : (lu2 X D s).1 = 0 := (sSg_i.mp (xSn_s c3)).1
  have c1 : (lu1 X D s).1 = 0 := (sNm_i.mp (xNew_s c2).1).1
  rw [if_neg (by rw [decide_eq_true c3]; decide)]
  have m5 := (xMor_s c1).1
  obtain ⟨wn, -⟩ := xNew_s c2
  have wd := xwv_W (sNm_i.mp wn).2.1
  obtain ⟨en, nq⟩ := z_enter (N := N) (k := 1) (by decide) wd (show vC D 1 < mk5 1 from m5) n3
  have en : f_X6_enter N w 1 (lN (xwv X (lu1 X D s).2)) h3 = _ := en
  rw [e2 c2, ck_p rd3.1, rd3.2.2.1, rq_s, ck_p n3.1.1, en, cl_s]
  have GG : Vw w h3 (sI (sJ h3 (w + 2) (6 * 1 + vC D 1) (lN (xwv X (lu1 X D s).2))) (w + 1) 1 (nI (vC D 1 + 1))) := (Vw.J (by omega)).trans (Vw.I (by omega))
  have fI : ∀ z, z ≠ w + 1 → hI (sI (sJ h3 (w + 2) (6 * 1 + vC D 1) (lN (xwv X (lu1 X D s).2))) (w + 1) 1 (nI (vC D 1 + 1))) z = hI h3 z := fun z hz => hI_sI_ne hz
  generalize sI (sJ h3 (w + 2) (6 * 1 + vC D 1) (lN (xwv X (lu1 X D s).2))) (w + 1) 1 (nI (vC D 1 + 1)) = g' at nq GG fI
  refine ⟨g', rfl, K.trans GG.kw, z3.vw hw GG, fun _ => ?_⟩
  obtain ⟨-, q1, q2, q3, q4, q5, q6, q7, q8, -⟩ := id qq
  refine DC.up qq nq (by rw [fI _ (by omega)]; exact q1) ?_ ?_ ?_ (by rw [fI _ (by omega)]; exact q5) ?_ ?_ ?_ rfl (fun j hj => fI _ (by omega))
  · rw [fI _ (by omega), fI _ (by omega), fI _ (by omega)]; exact q2
  · rw [fI _ (by omega)]; exact q3
  · rw [fI _ (by omega)]; exact q4
  · rw [fI _ (by omega)]; exact q6
  · rw [fI _ (by omega)]; exact q7
  · rw [fI _ (by omega)]; exact q8
theorem z_readHouse (hN : 2000 ≤ N) (hw : x + 43 ≤ w) (hl : w + 18 ≤ hz h) (z : CZ X x h s) (rd : Rdr h a x w) (q : DC h w D) (dw : DW D) : ∃ h', f_X7_readHouse N a h = some ((), h') ∧ Kw x w h h' ∧ CZ X x h' (ho6 X D s) ∧ ((ho6 X D s).1 = 0 → DC h' w (uHo X D s)) := by
  have n0 := q.1
  obtain ⟨h1, a1, k1, z1⟩ := z_oneMore (N := N) (k := 2) (m := 4) hN (by decide) (by decide) z rd n0
  have a1 : f_X7_oneMore N a 2 4 h = _ := a1
  have z1 : CZ X x h1 (ho1 X D s) := z1
  have rd1 := rd.shp k1.1
  have n1 : NmC h1 w (vC D) (vN D) := n0.kx k1 (fun z z1 z2 => by omega) hl hw
  have l1 := Nat.le_trans hl k1.1.2.1
  obtain ⟨r2, h2, a2, k2, z2, e2⟩ := z_newName (N := N) hN z1 rd1 n1
  have z2 : CZ X x h2 (ho2 X D s) := z2
  have e2 : (ho2 X D s).1 = 0 → r2 = lN (xwv X (ho1 X D s).2) := e2
  have rd2 := rd1.shp k2.1
  have n2 : NmC h2 w (vC D) (vN D) := n1.kx k2 (fun z z1 z2 => by omega) l1 hw
  have l2 := Nat.le_trans l1 k2.1.2.1
  obtain ⟨h3, a3, k3, z3⟩ := z_expect (N := N) hN (i := 6) (by decide) z2
  have z3 : CZ X x h3 (ho3 X D s) := z3
  have rd3 := rd2.shp k3.1
  have n3 : NmC h3 w (vC D) (vN D) := n2.kx k3 (fun z z1 z2 => by omega) l2 hw
  have l3 := Nat.le_trans l2 k3.1.2.1
  obtain ⟨h4, a4, k4, z4⟩ := z_toldHere (N := N) hN (k := 1) (by decide) z3 n3
  have a4 : f_X5_toldHere N (x + 1) w 1 h3 = _ := a4
  have z4 : CZ X x h4 (ho4 X D s) := z4
  have rd4 := rd3.shp k4.1
  have n4 : NmC h4 w (vC D) (vN D) := n3.kx k4 (fun z z1 z2 => by omega) l3 hw
  have l4 := Nat.le_trans l3 k4.1.2.1
  obtain ⟨h5, a5, k5, z5⟩ := z_step (N := N) hN z4
  have z5 : CZ X x h5 (ho5 X D s) := z5
  have rd5 := rd4.shp k5.1
  have n5 : NmC h5 w (vC D) (vN D) := n4.kx k5 (fun z z1 z2 => by omega) l4 hw
  have l5 := Nat.le_trans l4 k5.1.2.1
  obtain ⟨h6, a6, k6, z6⟩ := z_expectSign (N := N) hN (c := 59) (by decide) z5
  have a6 : f_X5_expectSign N (x + 1) 59 h5 = _ := a6
  have z6 : CZ X x h6 (ho6 X D s) := z6
  have rd6 := rd5.shp k6.1
  have n6 : NmC h6 w (vC D) (vN D) := n5.kx k6 (fun z z1 z2 => by omega) l5 hw
  have l6 := Nat.le_trans l5 k6.1.2.1
  have KK : Kx x (fun z => z ≠ x + 1) h h6 := (((((k1.trans k2).trans k3).trans k4).trans k5).trans k6)
  have qq : DC h6 w D := q.kx KK (fun z z1 z2 => by omega) hl hw
  have K : Kw x w h h6 := KK.kw
  unfold f_X7_readHouse
  rw [ck_p rd.1, a1, cl_s]
  rw [ck_p rd1.1, a2, cl_s]
  rw [ck_p rd2.1, rd2.2.1, rq_s, ck_p z2.1.1.1, a3, cl_s]
  rw [ck_p rd3.1, rd3.2.1, rq_s, rd3.2.2.1, rq_s, ck_p z3.1.1.1, a4, cl_s]
  rw [ck_p rd4.1, rd4.2.1, rq_s, ck_p z4.1.1.1, a5, cl_s]
  rw [ck_p rd5.1, rd5.2.1, rq_s, ck_p z5.1.1.1, a6, cl_s]
  rw [ck_p rd6.1, rd6.2.1, rq_s, ck_p z6.1.1.1, z_isSound z6, cl_s, ite_i yb0]
  by_cases c6 : (ho6 X D s).1 = 0
  rotate_left
  · rw [if_pos (decide_eq_false c6)]
    exact ⟨h6, rfl, K, z6, fun e => absurd e c6⟩
  have c5 : (ho5 X D s).1 = 0 := (sSg_i.mp (xSn_s c6)).1
  have c4 : (ho4 X D s).1 = 0 := (stp_n.mp c5)
  have c3 : (ho3 X D s).1 = 0 := (xTld_a c4)
  have c2 : (ho2 X D s).1 = 0 := (sWd_i.mp (xEx_s c3)).1
  have c1 : (ho1 X D s).1 = 0 := (sNm_i.mp (xNew_s c2).1).1
  rw [if_neg (by rw [decide_eq_true c6]; decide)]
  have m5 := (xMor_s c1).1
  obtain ⟨wn, -⟩ := xNew_s c2
  have wd := xwv_W (sNm_i.mp wn).2.1
  have t4 := xTld_s (X := X) (cnt := vC D) (nm := vN D) (k := 1) (s := ho3 X D s) c4
  have V6 := n6.1
  rw [e2 c2, if_neg (show ¬ (4 : Int32) ≤ nI (vC D 2) by rw [show (4 : Int32) = nI 4 from rfl, nI_leI (by decide) (by omega)]; omega), if_pos (show (xTld X (vC D) (vN D) 1 (ho3 X D s)).1 = 0 from c4)]
  obtain ⟨g, gdef⟩ : ∃ g, g = sI h6 (w + 6) (vC D 2) (nI (nfi (vC D) (vN D) 1 (xwv X (ho3 X D s).2))) := ⟨_, rfl⟩
  have gc : Vw w h6 g := by rw [gdef]; exact Vw.I (by omega)
  have f6 : hI g (w + 6) = va_up (hI h6 (w + 6)) (vC D 2) (nI (nfi (vC D) (vN D) 1 (xwv X (ho3 X D s).2))) := by rw [gdef, hI_sI_eq]
  have fo : ∀ z, z ≠ w + 6 → hI g z = hI h6 z := fun z a => by rw [gdef, hI_sI_ne a]
  have ng : NmC g w (vC D) (vN D) := n6.e gc.1 (fo _ (by omega)) (by rw [gdef]; rfl)
  have rdg := rd6.vw gc
  obtain ⟨en, nq⟩ := z_enter (N := N) (k := 2) (by decide) wd (show vC D 2 < mk5 2 from m5) ng
  have en : f_X6_enter N w 2 (lN (xwv X (ho1 X D s).2)) g = _ := en
  rw [ck_p rd6.1, rd6.2.2.1, rq_s, ck_p V6.1, vR_flue V6, rq_s, ck_p (vK_flue V6), vN_flue V6, ck_p (nI_ix (by omega) (by decide)), ix_nI (by omega), bd_e]
  rw [← gdef, ck_p rdg.1, rdg.2.2.1, rq_s, ck_p ng.1.1, en, cl_s]
  have gd : Vw w g (sI (sJ g (w + 2) (6 * 2 + vC D 2) (lN (xwv X (ho1 X D s).2))) (w + 1) 2 (nI (vC D 2 + 1))) := (Vw.J (by omega)).trans (Vw.I (by omega))
  have GG := gc.trans gd
  have fI : ∀ z, z ≠ w + 1 → hI (sI (sJ g (w + 2) (6 * 2 + vC D 2) (lN (xwv X (ho1 X D s).2))) (w + 1) 2 (nI (vC D 2 + 1))) z = hI g z := fun z hz => hI_sI_ne hz
  generalize sI (sJ g (w + 2) (6 * 2 + vC D 2) (lN (xwv X (ho1 X D s).2))) (w + 1) 2 (nI (vC D 2 + 1)) = g' at nq GG fI
  refine ⟨g', rfl, K.trans GG.kw, z6.vw hw GG, fun _ => ?_⟩
  have oth : ∀ j, j ≤ 17 → j ≠ 1 → j ≠ 6 → hI g' (w + j) = hI h6 (w + j) := fun j a b c => by rw [fI _ (by omega), fo _ (by omega)]
  obtain ⟨-, q1, q2, q3, q4, q5, q6, q7, q8, -⟩ := id qq
  have o0 := oth 0 (by decide) (by decide) (by decide)
  rw [Nat.add_zero] at o0
  refine DC.up qq nq (by rw [o0]; exact q1) ?_ (fun k hk => ?_) ?_ (by rw [o0]; exact q5) ?_ ?_ ?_ rfl (fun j hj => oth j (by omega) (by omega) (by omega))
  · rw [oth 3 (by decide) (by decide) (by decide), oth 4 (by decide) (by decide) (by decide), oth 5 (by decide) (by decide) (by decide)]; exact q2
  · have hk : k < cUp D 2 2 := hk
    rw [cUp_e] at hk
    rw [fI _ (by omega), f6]
    show va_up _ _ _ k = nI (va_up (vF D) (vC D 2) _ k)
    by_cases e : k = vC D 2
    · rw [e, va_eq, va_eq]
    · rw [va_ne e, va_ne e]
      exact q3 k (by omega)
  · rw [oth 7 (by decide) (by decide) (by decide)]; exact q4
  · rw [oth 8 (by decide) (by decide) (by decide)]; exact q6
  · rw [oth 9 (by decide) (by decide) (by decide)]; exact q7
  · rw [oth 10 (by decide) (by decide) (by decide)]; exact q8
end CLN
