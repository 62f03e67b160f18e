/-! The class reads a line: stock. -/
theorem bt_n {X i : Nat} (hi : i < 32) : bt (nI X) i = X.testBit i := by
  show (BitVec.ofNat 32 X).getLsbD i = _
  rw [BitVec.getLsbD_ofNat]
  simp [hi]
theorem bt_1 : ∀ i, i < 32 → bt (1 : Int32) i = decide (i = 0) := by decide +kernel
theorem and1_0 (v : Int32) : (v &&& (1 : Int32)) = 0 ↔ bt v 0 = false := by
  constructor
  · intro e
    have := congrArg (fun u => bt u 0) e
    simp only [b_and, bt_1 0 (by decide), b_0] at this
    simpa using this
  · intro e
    refine b_ext (fun i hi => ?_)
    rw [b_and, bt_1 i hi, b_0]
    by_cases c : i = 0
    · rw [c, e]; rfl
    · simp [c]
theorem bit20 {X k : Nat} (hk : k < 20) : (((nI X >>> (nI k &&& 31)) &&& (1 : Int32)) = 0 ↔ X.testBit k = false) := by
  rw [and1_0, b_sshr k (by omega) _ (by decide), if_pos (by omega), bt_n (by omega)]
  rfl
theorem or20 {p q : Nat → Bool} {k : Nat} (hk : k < 20) (hq : ∀ i, q i = (p i || decide (i = k))) : (nI (bts p 20) ||| ((1 : Int32) <<< (nI k &&& 31))) = nI (bts q 20) := by
  have sh : ∀ k, k < 31 → ((1 : Int32) <<< (nI k &&& 31)) = nI (2 ^ k) := by decide +kernel
  rw [sh k (by omega), fa_or]
  congr 1
  refine Nat.eq_of_testBit_eq (fun i => ?_)
  rw [fb_bit_set, bts_tb, bts_tb, hq]
  by_cases c : i < 20
  · simp [c]
  · have : ¬ i = k := by omega
    simp [c, this]
section CL2
variable {N x y w a : Nat} {X : TX} {s : ZS} {D : DV} {h : PH}
theorem z_106 (hN : 2000 ≤ N) (hw : x + 43 ≤ w) (z : CZ X x h s) (rd : Rdr h a x w) : ∃ r h', Kx x (fun z => z ≠ x + 1) h h' ∧ CZ X x h' (xSn X 59 (xNu X 0 99 (stp X s))) ∧ ((xSn X 59 (xNu X 0 99 (stp X s))).1 = 0 → r = nI (xnv X (stp X s).2)) ∧ ∀ l3 l4 : Int32, f_X7_readStock_106 N a l3 l4 h = if l4 = 0 then some ((), h') else if (xSn X 59 (xNu X 0 99 (stp X s))).1 = 0 then (ck (hK h' a = 7) <| rq (hR h' a 1) fun a24 => ck (hK h' a24 = 6) <| bd (sI h' a24 7 ((hI h' a24 7) ||| ((1 : Int32) <<< (l3 &&& 31)))) fun h26 => ck (hK h26 a = 7) <| rq (hR h26 a 1) fun a28 => ck (hK h26 a28 = 6) <| rq (hR h26 a28 6) fun a30 => ck (hK h26 a30 = 12) <| ck (inb l3 (COneSmokeLaw_law_r9589_37766e.hN h26 a30)) <| bd (sI h26 a30 (ix l3) r) fun h33 => some ((), h33)) else some ((), h') := by
  obtain ⟨h1, a1, k1, z1⟩ := z_step (N := N) hN z
  have rd1 := rd.shp k1.1
  obtain ⟨r, h2, a2, k2, z2, e2⟩ := z_expectNumber (N := N) (a := 0) (b := 99) (l1 := 0) (l2 := 99) hN (by decide) (by decide) (fun _ => rfl) rfl z1
  have rd2 := rd1.shp k2.1
  obtain ⟨h3, a3, k3, z3⟩ := z_expectSign (N := N) hN (c := 59) (by decide) z2
  have a3 : f_X5_expectSign N (x + 1) 59 h2 = _ := a3
  have rd3 := rd2.shp k3.1
  refine ⟨r, h3, (k1.trans k2).trans k3, z3, fun e => e2 (sSg_i.mp (xSn_s e)).1, fun l3 l4 => ?_⟩
  unfold f_X7_readStock_106
  rw [ck_p rd.1, rd.2.1, rq_s, ck_p z.1.1.1, a1, cl_s, ck_p rd1.1, rd1.2.1, rq_s, ck_p z1.1.1.1, a2, cl_s, ck_p rd2.1, rd2.2.1, rq_s, ck_p z2.1.1.1, a3, cl_s]
  by_cases c : l4 = 0
  · rw [if_pos c, if_pos c]
  · rw [if_neg c, if_neg c, ck_p rd3.1, rd3.2.1, rq_s, ck_p z3.1.1.1, z_isSound z3, cl_s, ite_i yb0]
    by_cases d : (xSn X 59 (xNu X 0 99 (stp X s))).1 = 0
    · rw [if_neg (by rw [decide_eq_true d]; decide), if_pos d]
    · rw [if_pos (decide_eq_false d), if_neg d]
theorem z_readStock (hN : 2000 ≤ N) (hw : x + 43 ≤ w) (hl : w + 18 ≤ hz h) (z : CZ X x h s) (rd : Rdr h a x w) (q : DC h w D) (dw : DW D) : ∃ h', f_X7_readStock N a h = some ((), h') ∧ Kw x w h h' ∧ CZ X x h' (sk8 X D s) ∧ ((sk8 X D s).1 = 0 → DC h' w (uSk X D s)) := by
  have n0 := q.1
  obtain ⟨h1, a1, k1, z1⟩ := z_step (N := N) hN z
  have z1 : CZ X x h1 (sk1 X s) := z1
  have rd1 := rd.shp k1.1
  have n1 : NmC h1 w (vC D) (vN D) := n0.kx k1 (fun z z1 z2 => by omega) hl hw
  have l1 := Nat.le_trans hl k1.1.2.1
  obtain ⟨h2, a2, k2, z2⟩ := z_toldHere (N := N) hN (k := 2) (by decide) z1 n1
  have a2 : f_X5_toldHere N (x + 1) w 2 h1 = _ := a2
  have z2 : CZ X x h2 (sk2 X D s) := z2
  have rd2 := rd1.shp k2.1
  have n2 : NmC h2 w (vC D) (vN D) := n1.kx k2 (fun z z1 z2 => by omega) l1 hw
  have l2 := Nat.le_trans l1 k2.1.2.1
  obtain ⟨h3, a3, k3, z3⟩ := z_step (N := N) hN z2
  have z3 : CZ X x h3 (sk3 X D s) := z3
  have rd3 := rd2.shp k3.1
  have n3 : NmC h3 w (vC D) (vN D) := n2.kx k3 (fun z z1 z2 => by omega) l2 hw
  have l3 := Nat.le_trans l2 k3.1.2.1
  obtain ⟨h4, a4, k4, z4⟩ := z_toldHere (N := N) hN (k := 0) (by decide) z3 n3
  have a4 : f_X5_toldHere N (x + 1) w 0 h3 = _ := a4
  have z4 : CZ X x h4 (sk4 X D s) := z4
  have rd4 := rd3.shp k4.1
  have n4 : NmC h4 w (vC D) (vN D) := n3.kx k4 (fun z z1 z2 => by omega) l3 hw
  have l4 := Nat.le_trans l3 k4.1.2.1
  have KK : Kx x (fun z => z ≠ x + 1) h h4 := (((k1.trans k2).trans k3).trans k4)
  have qq : DC h4 w D := q.kx KK (fun z z1 z2 => by omega) hl hw
  unfold f_X7_readStock
  rw [ck_p rd.1, rd.2.1, rq_s, ck_p z.1.1.1, a1, cl_s]
  rw [ck_p rd1.1, rd1.2.1, rq_s, rd1.2.2.1, rq_s, ck_p z1.1.1.1, a2, cl_s]
  rw [ck_p rd2.1, rd2.2.1, rq_s, ck_p z2.1.1.1, a3, cl_s]
  rw [ck_p rd3.1, rd3.2.1, rq_s, rd3.2.2.1, rq_s, ck_p z3.1.1.1, a4, cl_s, bd_e]
  rw [ck_p rd4.1, rd4.2.1, rq_s, ck_p z4.1.1.1, z_isSound z4, cl_s, ite_i yb0]
  by_cases c4 : (sk4 X D s).1 = 0
  rotate_left
  · -- a fault ahead of the number
    have e5 : sk5 X D s = sk4 X D s := if_neg (fun z => c4 z.1)
    obtain ⟨r, h5, b1, b2, b3, b4⟩ := z_106 (N := N) hN hw z4 rd4
    have c8 : (sk8 X D s).1 ≠ 0 := by
      unfold sk8 sk7 sk6
      rw [e5, stp_z c4, xNu_z c4, xSn_z c4]
      exact c4
    rw [if_pos (decide_eq_false c4)]
    unfold f_X7_readStock_76 f_X7_readStock_77
    rw [if_pos rfl, b4, if_pos rfl]
    refine ⟨h5, rfl, (KK.trans b1).kw, ?_, fun e => absurd e c8⟩
    unfold sk8 sk7 sk6
    rw [e5]
    exact b2
  have c3 : (sk3 X D s).1 = 0 := xTld_a c4
  have c2 : (sk2 X D s).1 = 0 := stp_n.mp c3
  have t2 := xTld_s (X := X) (cnt := vC D) (nm := vN D) (k := 2) (s := sk1 X s) c2
  have t4 := xTld_s (X := X) (cnt := vC D) (nm := vN D) (k := 0) (s := sk3 X D s) c4
  have m2 : vC D 2 ≤ 4 := dw.1.1 2 (by decide)
  have m0 : vC D 0 ≤ 5 := dw.1.1 0 (by decide)
  have e23 : nI (nfi (vC D) (vN D) 2 (xwv X (sk1 X s).2)) * (5 : Int32) + nI (nfi (vC D) (vN D) 0 (xwv X (sk3 X D s).2)) = nI (skA X D s) := by
    rw [show (5 : Int32) = nI 5 from rfl, pk_mul, nI_add, Nat.mul_comm]
    rfl
  have lA : skA X D s < 20 := by
    unfold skA
    omega
  rw [if_neg (by rw [decide_eq_true c4]; decide), if_pos (show (xTld X (vC D) (vN D) 2 (sk1 X s)).1 = 0 from c2), if_pos (show (xTld X (vC D) (vN D) 0 (sk3 X D s)).1 = 0 from c4), e23, if_neg (nI_pos (by omega)), ck_p rd4.1, rd4.2.2.1, rq_s, ck_p n4.1.1, vR_stock n4.1, rq_s, ck_p (vK_stock n4.1), vN_stock n4.1, if_neg (show ¬ nI 20 ≤ nI (skA X D s) by rw [nI_leI (by decide) (by omega)]; omega)]
  unfold f_X7_readStock_77
  have eb : (((nI (bts (fun k => decide (vT D k ≠ 0)) 20) >>> (nI (skA X D s) &&& 31)) &&& (1 : Int32)) = 0 ↔ vT D (skA X D s) = 0) := by
    rw [bit20 lA, bts_tb]
    simp [lA]
  rw [if_neg one0, ck_p rd4.1, rd4.2.2.1, rq_s, ck_p n4.1.1, qq.2.2.2.2.2.1, ite_i eb]
  by_cases cT : vT D (skA X D s) = 0
  rotate_left
  · -- told already
    have e5 : sk5 X D s = flt X 3 (sk4 X D s) := if_pos ⟨c4, cT⟩
    obtain ⟨g, r1, r2, r3⟩ := z_fail (N := N) (k := 3) ⟨by decide, by decide⟩ z4
    have r1 : f_X5_fail N (x + 1) 3 h4 = _ := r1
    have f5 : (flt X 3 (sk4 X D s)).1 ≠ 0 := flt_n (by decide)
    obtain ⟨r, h5, b1, b2, b3, b4⟩ := z_106 (N := N) hN hw r3 (rd4.shp r2.1)
    have c8 : (sk8 X D s).1 ≠ 0 := by
      unfold sk8 sk7 sk6
      rw [e5, stp_z f5, xNu_z f5, xSn_z f5]
      exact f5
    have c8' : ¬ (xSn X 59 (xNu X 0 99 (stp X (flt X 3 (sk4 X D s))))).1 = 0 := by
      rw [stp_z f5, xNu_z f5, xSn_z f5]
      exact f5
    rw [if_neg cT, rd4.2.1, rq_s, ck_p z4.1.1.1, r1, cl_s, b4, if_neg one0, if_neg c8']
    refine ⟨h5, rfl, ((KK.trans r2).trans b1).kw, ?_, fun e => absurd e c8⟩
    unfold sk8 sk7 sk6
    rw [e5]
    exact b2
  have e5 : sk5 X D s = sk4 X D s := if_neg (fun z => z.2 cT)
  obtain ⟨r, h5, b1, b2, b3, b4⟩ := z_106 (N := N) hN hw z4 rd4
  have e8 : xSn X 59 (xNu X 0 99 (stp X (sk4 X D s))) = sk8 X D s := by
    unfold sk8 sk7 sk6
    rw [e5]
  have e6 : stp X (sk4 X D s) = sk6 X D s := by
    unfold sk6
    rw [e5]
  rw [e8] at b2 b3 b4
  rw [e6] at b3
  have K5 := KK.trans b1
  have rd5 := rd4.shp b1.1
  have q5' : DC h5 w D := qq.kx b1 (fun z z1 z2 => by omega) l4 hw
  rw [if_pos cT, b4, if_neg one0]
  by_cases c8 : (sk8 X D s).1 = 0
  rotate_left
  · rw [if_neg c8]
    exact ⟨h5, rfl, K5.kw, b2, fun e => absurd e c8⟩
  obtain ⟨g, gdef⟩ : ∃ g, g = sI (sI h5 w 7 (nI (bts (fun k => decide (va_up (vT D) (skA X D s) (xnv X (sk6 X D s).2 + 1) k ≠ 0)) 20))) (w + 7) (skA X D s) (nI (xnv X (sk6 X D s).2)) := ⟨_, rfl⟩
  have ga : Vw w h5 (sI h5 w 7 (nI (bts (fun k => decide (va_up (vT D) (skA X D s) (xnv X (sk6 X D s).2 + 1) k ≠ 0)) 20))) := Vw.I (by omega)
  have gc : Vw w h5 g := by rw [gdef]; exact ga.trans (Vw.I (by omega))
  have V5 := q5'.1.1
  have Va := V5.sm ga.1
  have rda := rd5.vw ga
  have eo : (nI (bts (fun k => decide (vT D k ≠ 0)) 20) ||| ((1 : Int32) <<< (nI (skA X D s) &&& 31))) = nI (bts (fun k => decide (va_up (vT D) (skA X D s) (xnv X (sk6 X D s).2 + 1) k ≠ 0)) 20) := or20 lA (fun i => by
    by_cases e : i = skA X D s
    · rw [e, va_eq]; simp
    · rw [va_ne e]; simp [e])
  rw [if_pos c8, b3 c8, ck_p rd5.1, rd5.2.2.1, rq_s, ck_p V5.1, q5'.2.2.2.2.2.1, eo, bd_e, ck_p rda.1, rda.2.2.1, rq_s, ck_p Va.1, vR_stock Va, rq_s, ck_p (vK_stock Va), vN_stock Va, ck_p (nI_ix lA (by decide)), ix_nI (by omega), bd_e, ← gdef]
  have f0 : hI g w = va_up (hI h5 w) 7 (nI (bts (fun k => decide (va_up (vT D) (skA X D s) (xnv X (sk6 X D s).2 + 1) k ≠ 0)) 20)) := by rw [gdef, hI_sI_ne (by omega), hI_sI_eq]
  have f7 : hI g (w + 7) = va_up (hI h5 (w + 7)) (skA X D s) (nI (xnv X (sk6 X D s).2)) := by rw [gdef, hI_sI_eq, hI_sI_ne (by omega)]
  have fo : ∀ z, z ≠ w → z ≠ w + 7 → hI g z = hI h5 z := fun z a b => by rw [gdef, hI_sI_ne b, hI_sI_ne a]
  have ng : NmC g w (vC D) (vN D) := q5'.1.e gc.1 (fo _ (by omega) (by omega)) (by rw [gdef]; rfl)
  obtain ⟨-, q1, q2, q3, q4, q5, q6, q7, q8, -⟩ := id q5'
  refine ⟨g, rfl, K5.kw.trans gc.kw, b2.vw hw gc, fun _ => DC.up q5' ng (by rw [f0, va_ne (by decide)]; exact q1) ?_ ?_ (fun k hk => ?_) (by rw [f0, va_eq]; rfl) ?_ ?_ ?_ rfl (fun j hj => fo _ (by omega) (by omega))⟩
  · rw [fo _ (by omega) (by omega), fo _ (by omega) (by omega), fo _ (by omega) (by omega)]; exact q2
  · rw [fo _ (by omega) (by omega)]; exact q3
  · rw [f7]
    show va_up _ _ _ k = nI (va_up (vT D) (skA X D s) (xnv X (sk6 X D s).2 + 1) k - 1)
    by_cases e : k = skA X D s
    · rw [e, va_eq, va_eq, Nat.add_sub_cancel]
    · rw [va_ne e, va_ne e]
      exact q4 k hk
  · rw [fo _ (by omega) (by omega)]; exact q6
  · rw [fo _ (by omega) (by omega)]; exact q7
  · rw [fo _ (by omega) (by omega)]; exact q8
end CL2
