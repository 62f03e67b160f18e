/-! The class reads a line: winds. -/
section CL4
variable {N x y w a : Nat} {X : TX}
theorem wnD_n {D : DV} {s : ZS} (c : ¬ ((wnS X D s).1 = 0 ∧ vC D 5 < 12)) : wnD X D s = D := if_neg c
theorem wnD_y {D : DV} {s : ZS} (c : (wnS X D s).1 = 0 ∧ vC D 5 < 12) : wnD X D s = (va_up (vC D) 5 (vC D 5 + 1), vN D, vD D, vS D, vB D, vF D, vT D, vR D, vG D, va_up (vW D) (vC D 5) (xnv X s.2), vL D) := if_pos c
theorem z_52 (hN : 2000 ≤ N) (hw : x + 43 ≤ w) {D : DV} {s t : ZS} {h : PH} (hl : w + 18 ≤ hz h) (z : CZ X x h t) (rd : Rdr h a x w) (q : DC h w D) (m12 : vC D 5 ≤ 12) (et : xNu X 0 9 t = wnS X D s) (ev : (xNu X 0 9 t).1 = 0 → t = s) {l1 : Int32} (hl1 : l1 = 0 ↔ vC D 5 < 12) : ∃ h', f_X7_readWind_52 N a l1 h = some ((), h') ∧ Kw x w h h' ∧ CZ X x h' (wnS X D s) ∧ DC h' w (wnD X D s) := by
  obtain ⟨r, h1, a1, k1, z1, e1⟩ := z_expectNumber (N := N) (a := 0) (b := 9) (l1 := 0) (l2 := 9) hN (by decide) (by decide) (fun _ => rfl) rfl z
  have rd1 := rd.shp k1.1
  have q1' : DC h1 w D := q.kx k1 (fun z z1 z2 => by omega) hl hw
  unfold f_X7_readWind_52
  rw [ck_p rd.1, rd.2.1, rq_s, ck_p z.1.1.1, a1, cl_s, ck_p rd1.1, rd1.2.1, rq_s, ck_p z1.1.1.1, z_isSound z1, cl_s, ite_i yb0]
  by_cases c : (xNu X 0 9 t).1 = 0
  rotate_left
  · rw [if_pos (decide_eq_false c)]
    refine ⟨h1, rfl, k1.kw, by rw [← et]; exact z1, ?_⟩
    rw [wnD_n (fun q => c (by rw [et]; exact q.1))]
    exact q1'
  have cs : (wnS X D s).1 = 0 := by rw [← et]; exact c
  have es := ev c
  rw [if_neg (by rw [decide_eq_true c]; decide), ite_i hl1]
  by_cases d : vC D 5 < 12
  rotate_left
  · rw [if_neg d]
    refine ⟨h1, rfl, k1.kw, by rw [← et]; exact z1, ?_⟩
    rw [wnD_n (fun q => d q.2)]
    exact q1'
  have V1 := q1'.1.1
  have e11 := q1'.2.1
  have ga : Vw w h1 (sI h1 (w + 10) (vC D 5) (nI (xnv X s.2))) := Vw.I (by omega)
  have f11 : hI (sI h1 (w + 10) (vC D 5) (nI (xnv X s.2))) w 11 = nI (vC D 5) := by rw [hI_sI_ne (by omega)]; exact e11
  have rda := rd1.vw ga
  have Va := V1.sm ga.1
  obtain ⟨g, gdef⟩ : ∃ g, g = sI (sI h1 (w + 10) (vC D 5) (nI (xnv X s.2))) w 11 (nI (vC D 5 + 1)) := ⟨_, rfl⟩
  have gc : Vw w h1 g := by rw [gdef]; exact ga.trans (Vw.I (by omega))
  rw [if_pos d, e1 c, es, ck_p rd1.1, rd1.2.2.1, rq_s, ck_p V1.1, vR_winds V1, rq_s, rq_s, ck_p V1.1, ck_p (vK_winds V1), vN_winds V1, e11, ck_p (nI_ix d (by decide)), ix_nI (by omega), bd_e, ck_p rda.1, rda.2.2.1, rq_s, ck_p Va.1, f11, nI_1, bd_e, ← gdef]
  have f0 : hI g w = va_up (hI h1 w) 11 (nI (vC D 5 + 1)) := by rw [gdef, hI_sI_eq, hI_sI_ne (by omega)]
  have fA : hI g (w + 10) = va_up (hI h1 (w + 10)) (vC D 5) (nI (xnv X s.2)) := by rw [gdef, hI_sI_ne (by omega), hI_sI_eq]
  have fo : ∀ z, z ≠ w → z ≠ w + 10 → hI g z = hI h1 z := fun z a b => by rw [gdef, hI_sI_ne a, hI_sI_ne b]
  have ng : NmC g w (vC D) (vN D) := q1'.1.e gc.1 (fo _ (by omega) (by omega)) (by rw [gdef]; rfl)
  have ng2 : NmC g w (va_up (vC D) 5 (vC D 5 + 1)) (vN D) := ⟨ng.1, fun k hk => by rw [va_ne (by omega)]; exact ng.2 k hk⟩
  obtain ⟨-, q1, q2, q3, q4, q5, q6, q7, q8, -⟩ := id q1'
  refine ⟨g, rfl, k1.kw.trans gc.kw, by rw [← et]; exact z1.vw hw gc, ?_⟩
  rw [wnD_y ⟨cs, d⟩]
  refine DC.up q1' ng2 ?_ ?_ ?_ ?_ (by rw [f0, va_ne (by decide)]; exact q5) ?_ ?_ (fun k hk => ?_) rfl (fun j hj => fo _ (by omega) (by omega))
  · rw [f0, va_eq]
    show _ = nI (va_up (vC D) 5 (vC D 5 + 1) 5)
    rw [va_eq]
  · rw [fo _ (by omega) (by omega), fo _ (by omega) (by omega), fo _ (by omega) (by omega)]
    exact fun k hk => q2 k hk
  · rw [fo _ (by omega) (by omega)]; exact fun k hk => q3 k hk
  · rw [fo _ (by omega) (by omega)]; exact q4
  · rw [fo _ (by omega) (by omega)]; exact fun k hk => q6 k hk
  · rw [fo _ (by omega) (by omega)]; exact fun k hk => q7 k hk
  · have hk : k < va_up (vC D) 5 (vC D 5 + 1) 5 := hk
    rw [va_eq] at hk
    rw [fA]
    show va_up _ _ _ k = nI (va_up (vW D) (vC D 5) (xnv X s.2) k)
    by_cases e : k = vC D 5
    · rw [e, va_eq, va_eq]
    · rw [va_ne e, va_ne e]
      exact q8 k (by omega)
theorem z_readWind (hN : 2000 ≤ N) (hw : x + 43 ≤ w) {D : DV} {s : ZS} {h : PH} (hl : w + 18 ≤ hz h) (z : CZ X x h s) (rd : Rdr h a x w) (q : DC h w D) (m12 : vC D 5 ≤ 12) : ∃ h', f_X7_readWind N a h = some ((), h') ∧ Kw x w h h' ∧ CZ X x h' (wnS X D s) ∧ DC h' w (wnD X D s) := by
  have V := q.1.1
  unfold f_X7_readWind
  rw [ck_p rd.1, rd.2.2.1, rq_s, ck_p V.1, q.2.1, ite_i (show nI (vC D 5) < (12 : Int32) ↔ vC D 5 < 12 from nI_ltI (b := 12) (by omega) (by decide))]
  unfold f_X7_readWind_17
  by_cases d : vC D 5 < 12
  · have et : xNu X 0 9 s = wnS X D s := by
      unfold wnS
      rw [if_neg (fun z => by omega)]
    rw [if_pos d, if_pos rfl]
    exact z_52 hN hw hl z rd q m12 et (fun _ => rfl) (by simp [d])
  · have i1 : (1 : Int32) = 0 ↔ vC D 5 < 12 := ⟨fun e => absurd e (by decide), fun e => absurd e d⟩
    rw [if_neg d, if_neg one0, ck_p rd.1, rd.2.1, rq_s, ck_p z.1.1.1, z_isAtNumber z, cl_s, ite_i yb0]
    by_cases c : sNu X s = true
    · obtain ⟨c0, c2⟩ := sNu_i.mp c
      have v5 := (z.2.2.2.2 c0).2.2.2.2 c2
      have lt := xnv_lt c2
      rw [if_neg (by rw [c]; decide), ck_p rd.1, rd.2.1, rq_s, ck_p z.1.1.1, v5, ite_i (show (9 : Int32) < nI (xnv X s.2) ↔ 9 < xnv X s.2 from nI_ltI (a := 9) (by decide) (by omega))]
      by_cases e : 9 < xnv X s.2
      · have et : xNu X 0 9 s = wnS X D s := by
          unfold wnS
          rw [if_neg (fun z => by omega)]
        rw [if_pos e]
        exact z_52 hN hw hl z rd q m12 et (fun _ => rfl) i1
      · obtain ⟨g, r1, r2, r3⟩ := z_fail (N := N) (k := 5) ⟨by decide, by decide⟩ z
        have r1 : f_X5_fail N (x + 1) 5 h = _ := r1
        have fn : (flt X 5 s).1 ≠ 0 := flt_n (by decide)
        have et : xNu X 0 9 (flt X 5 s) = wnS X D s := by
          unfold wnS
          rw [if_pos ⟨by omega, c, by omega⟩]
        rw [if_neg e, rq_s, ck_p z.1.1.1, r1, cl_s]
        obtain ⟨h', t1, t2, t3, t4⟩ := z_52 hN hw (Nat.le_trans hl r2.1.2.1) r3 (rd.shp r2.1) (q.kx r2 (fun z z1 z2 => by omega) hl hw) m12 et (fun e => by rw [xNu_z fn] at e; exact absurd e fn) i1
        exact ⟨h', t1, r2.kw.trans t2, t3, t4⟩
    · have et : xNu X 0 9 s = wnS X D s := by
        unfold wnS
        rw [if_neg (fun z => c z.2.1)]
      rw [if_pos (sF_of c)]
      exact z_52 hN hw hl z rd q m12 et (fun _ => rfl) i1
theorem wnD_12 {D : DV} {s : ZS} (m : vC D 5 ≤ 12) : vC (wnD X D s) 5 ≤ 12 := by
  by_cases c : (wnS X D s).1 = 0 ∧ vC D 5 < 12
  · rw [wnD_y c]
    show va_up (vC D) 5 (vC D 5 + 1) 5 ≤ 12
    rw [va_eq]
    omega
  · rw [wnD_n c]; exact m
theorem z_57 (hN : 2000 ≤ N) (hw : x + 43 ≤ w) {D : DV} {s : ZS} {h : PH} (hl : w + 18 ≤ hz h) (z : CZ X x h s) (rd : Rdr h a x w) (q : DC h w D) : ∃ h', f_X7_readWinds_57 N a h = some ((), h') ∧ Kw x w h h' ∧ CZ X x h' (xSn X 59 s) ∧ DC h' w D := by
  obtain ⟨h1, a1, k1, z1⟩ := z_expectSign (N := N) hN (c := 59) (by decide) z
  have a1 : f_X5_expectSign N (x + 1) 59 h = _ := a1
  unfold f_X7_readWinds_57
  rw [ck_p rd.1, rd.2.1, rq_s, ck_p z.1.1.1, a1, cl_s]
  exact ⟨h1, rfl, k1.kw, z1, q.kx k1 (fun z z1 z2 => by omega) hl hw⟩
theorem z_wl (hN : 2000 ≤ N) (hw : x + 43 ≤ w) : ∀ (n i d : Nat) (D : DV) (s : ZS) (h : PH), d < n → i + d = 12 → w + 18 ≤ hz h → CZ X x h s → Rdr h a x w → DC h w D → vC D 5 ≤ 12 → ∃ h', f_X7_readWinds_31 N n a (nI i) h = some ((), h') ∧ Kw x w h h' ∧ CZ X x h' (xSn X 59 (wnL X d s D).1) ∧ DC h' w (wnL X d s D).2
  | 0, i, d, D, s, h, h1, h2, _, _, _, _, _ => by omega
  | n + 1, i, d, D, s, h, h1, h2, hl, z, rd, q, m12 => by
    show ∃ h', f_X7_readWinds_31_b N (f_X7_readWinds_31 N n) a (nI i) h = _ ∧ _
    unfold f_X7_readWinds_31_b
    rw [ite_i (show (12 : Int32) ≤ nI i ↔ 12 ≤ i from nI_leI (a := 12) (by decide) (by omega))]
    match d, h1, h2 with
    | 0, h1, h2 =>
      rw [if_pos (by omega)]
      exact z_57 hN hw hl z rd q
    | d + 1, h1, h2 =>
      rw [if_neg (by omega), ck_p rd.1, rd.2.1, rq_s, ck_p z.1.1.1, z_isAtNumber z, cl_s, ite_i yb0]
      by_cases c : sNu X s = true
      · have el : wnL X (d + 1) s D = wnL X d (wnS X D s) (wnD X D s) := if_pos c
        obtain ⟨h1', r1, r2, r3, r4⟩ := z_readWind hN hw hl z rd q m12
        obtain ⟨h', t1, t2, t3, t4⟩ := z_wl hN hw n (i + 1) d (wnD X D s) (wnS X D s) h1' (by omega) (by omega) (Nat.le_trans hl r2.1.2.1) r3 (rd.shp r2.1) r4 (wnD_12 m12)
        rw [if_neg (by rw [c]; decide), ck_p rd.1, r1, cl_s, bd_e, nI_1, el]
        exact ⟨h', t1, r2.trans t2, t3, t4⟩
      · have el : wnL X (d + 1) s D = (s, D) := if_neg c
        rw [if_pos (sF_of c), el]
        exact z_57 hN hw hl z rd q
theorem z_readWinds (hN : 2000 ≤ N) (hw : x + 43 ≤ w) {D : DV} {s : ZS} {h : PH} (hl : w + 18 ≤ hz h) (z : CZ X x h s) (rd : Rdr h a x w) (q : DC h w D) (dw : DW D) : ∃ h', f_X7_readWinds N a h = some ((), h') ∧ Kw x w h h' ∧ CZ X x h' (wi4 X D s) ∧ ((wi4 X D s).1 = 0 → DC h' w (wi3 X D s).2) := by
  have m12 := dw.1.2
  have fin : ∀ g, Kx x (fun z => z ≠ x + 1) h g → CZ X x g (wi1 X D s) → ∃ h', f_X7_readWinds_18 N a g = some ((), h') ∧ Kw x w h h' ∧ CZ X x h' (wi4 X D s) ∧ ((wi4 X D s).1 = 0 → DC h' w (wi3 X D s).2) := fun g kg zg => by
    have rdg := rd.shp kg.1
    have lg := Nat.le_trans hl kg.1.2.1
    have qg : DC g w D := q.kx kg (fun z z1 z2 => by omega) hl hw
    obtain ⟨h1, a1, k1, z1⟩ := z_step (N := N) hN zg
    have z1 : CZ X x h1 (wi2 X D s) := z1
    have rd1 := rdg.shp k1.1
    have l1 := Nat.le_trans lg k1.1.2.1
    obtain ⟨h2, a2, k2, z2, q2⟩ := z_readWind hN hw l1 z1 rd1 (qg.kx k1 (fun z z1 z2 => by omega) lg hw) m12
    obtain ⟨h3, a3, k3, z3, q3⟩ := z_wl (N := N) (a := a) hN hw N 0 12 (wnD X D (wi2 X D s)) (wnS X D (wi2 X D s)) h2 (by omega) rfl (Nat.le_trans l1 k2.1.2.1) z2 (rd1.shp k2.1) q2 (wnD_12 m12)
    have a3 : f_X7_readWinds_31 N N a 0 h2 = _ := a3
    unfold f_X7_readWinds_18
    rw [ck_p rdg.1, rdg.2.1, rq_s, ck_p zg.1.1.1, a1, cl_s, ck_p rd1.1, a2, cl_s, a3]
    exact ⟨h3, rfl, ((kg.kw.trans k1.kw).trans k2).trans k3, z3, fun _ => q3⟩
  have V := q.1.1
  unfold f_X7_readWinds
  rw [ck_p rd.1, rd.2.2.1, rq_s, ck_p V.1, q.2.1, ite_i (show nI (vC D 5) ≤ 0 ↔ vC D 5 ≤ 0 from nI_leI (b := 0) (by omega) (by decide))]
  by_cases c : vC D 5 ≤ 0
  · have e : wi1 X D s = s := if_pos (by omega)
    rw [if_pos c]
    exact fin h Kx.rf (by rw [e]; exact z)
  · have e : wi1 X D s = flt X 3 s := if_neg (by omega)
    obtain ⟨g, r1, r2, r3⟩ := z_fail (N := N) (k := 3) ⟨by decide, by decide⟩ z
    have r1 : f_X5_fail N (x + 1) 3 h = _ := r1
    rw [if_neg c, rd.2.1, rq_s, ck_p z.1.1.1, r1, cl_s]
    exact fin g r2 (by rw [e]; exact r3)
end CL4
