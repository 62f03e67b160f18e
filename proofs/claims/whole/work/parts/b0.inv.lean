/-! What the lines of a valley keep. -/
section LKP
variable {X : TX} {D : DV} {s : ZS}
theorem stp_p {t : ZS} (h : (stp X t).1 = 0) (e : t.1 = 0 → t = s) : s.1 = 0 ∧ s.2 ≤ (stp X t).2 := by
  have t0 := stp_n.mp h
  rw [stp_0 t0, ← e t0]
  exact ⟨t0, Nat.le_trans xbg_ge xnx_ge⟩
theorem flt_a {k : Nat} (hk : 1 ≤ k) {t : ZS} (h : (flt X k s).1 = 0) : flt X k s = t := absurd h (flt_n hk)
theorem xEx_p {i : Nat} (h : (xEx X i s).1 = 0) : s.1 = 0 ∧ s.2 ≤ (xEx X i s).2 := stp_p h (fun z => by
  by_cases c : sWd X s i = true
  · rw [if_pos c]
  · rw [if_neg c] at z; exact absurd z (flt_n (Nat.le_refl 1)))
theorem xNu_p {a b : Nat} (h : (xNu X a b s).1 = 0) : s.1 = 0 ∧ s.2 ≤ (xNu X a b s).2 := by
  obtain ⟨c, d⟩ := xNu_s h
  rw [xNu_y c d]
  exact ⟨(sNu_i.mp c).1, Nat.le_trans xbg_ge xnx_ge⟩
theorem xSn_p {c : Nat} (h : (xSn X c s).1 = 0) : s.1 = 0 ∧ s.2 < (xSn X c s).2 := by
  have q := xSn_s h
  rw [xSn_y q]
  exact ⟨(sSg_i.mp q).1, xnx_gt' (sSg_t q)⟩
theorem xMor_p {c m : Nat} (h : (xMor X c m s).1 = 0) : s.1 = 0 ∧ s.2 ≤ (xMor X c m s).2 := stp_p h (fun z => by
  by_cases q : c < m
  · rw [if_pos q]
  · rw [if_neg q] at z; exact absurd z (flt_n (by decide)))
theorem xNew_p {cnt : Nat → Nat} {nm : Nat → Nat → Nat} (h : (xNew X cnt nm s).1 = 0) : s.1 = 0 ∧ s.2 ≤ (xNew X cnt nm s).2 := stp_p h (fun z => by
  by_cases q : sNm X s = true
  · rw [if_pos q] at z ⊢
    by_cases w : nkn cnt nm (xwv X s.2) = true
    · rw [if_pos w] at z; exact absurd z (flt_n (by decide))
    · rw [if_neg w]
  · rw [if_neg q] at z; exact absurd z (flt_n (by decide)))
theorem xTld_p {cnt : Nat → Nat} {nm : Nat → Nat → Nat} {k : Nat} (h : (xTld X cnt nm k s).1 = 0) : s.1 = 0 ∧ s.2 ≤ (xTld X cnt nm k s).2 := by
  refine ⟨xTld_a h, ?_⟩
  rw [(xTld_s h).2.2]
  exact Nat.le_refl _
theorem stp_q (h : (stp X s).1 = 0) : s.1 = 0 ∧ s.2 ≤ (stp X s).2 := stp_p h (fun _ => rfl)
theorem ra3_p (h : (ra3 X s).1 = 0) : s.1 = 0 ∧ s.2 ≤ (ra3 X s).2 := by
  have h3 : (xNu X (xnv X s.2) 999 (ra2 X s)).1 = 0 := h
  obtain ⟨a1, a2⟩ := xNu_p h3
  have a2 : (ra2 X s).2 ≤ (ra3 X s).2 := a2
  have h2 : (xEx X 9 (ra1 X s)).1 = 0 := a1
  obtain ⟨b1, b2⟩ := xEx_p h2
  have b2 : (ra1 X s).2 ≤ (ra2 X s).2 := b2
  have h1 : (xNu X 0 999 s).1 = 0 := b1
  obtain ⟨c1, c2⟩ := xNu_p h1
  have c2 : s.2 ≤ (ra1 X s).2 := c2
  exact ⟨c1, by omega⟩
/-- fuel -/
theorem k_Fu (dw : DW D) (h : (fu9 X D s).1 = 0) : s.2 < (fu9 X D s).2 ∧ DW (uFu X D s) := by
  obtain ⟨⟨w1, w1'⟩, w2, w3, w4, w5, w6, w7, w8⟩ := dw
  obtain ⟨p8, q8⟩ : (fu8 X D s).1 = 0 ∧ (fu8 X D s).2 < (fu9 X D s).2 := xSn_p h
  obtain ⟨p7, q7⟩ : (fu7 X D s).1 = 0 ∧ (fu7 X D s).2 ≤ (fu8 X D s).2 := xNu_p p8
  have n8 : 1 ≤ xnv X (fu7 X D s).2 ∧ xnv X (fu7 X D s).2 ≤ 9 := (xNu_s p8).2
  obtain ⟨p6, q6⟩ : (fu6 X D s).1 = 0 ∧ (fu6 X D s).2 ≤ (fu7 X D s).2 := xEx_p p7
  obtain ⟨p5, q5⟩ : (fu5 X D s).1 = 0 ∧ (fu5 X D s).2 ≤ (fu6 X D s).2 := xNu_p p6
  have n6 : 0 ≤ xnv X (fu5 X D s).2 ∧ xnv X (fu5 X D s).2 ≤ 99 := (xNu_s p6).2
  obtain ⟨p4, q4⟩ : (fu4 X D s).1 = 0 ∧ (fu4 X D s).2 ≤ (fu5 X D s).2 := xEx_p p5
  obtain ⟨p3, q3⟩ : (fu3 X D s).1 = 0 ∧ (fu3 X D s).2 ≤ (fu4 X D s).2 := xNu_p p4
  have n4 : 0 ≤ xnv X (fu3 X D s).2 ∧ xnv X (fu3 X D s).2 ≤ 99 := (xNu_s p4).2
  obtain ⟨p2, q2⟩ : (fu2 X D s).1 = 0 ∧ (fu2 X D s).2 ≤ (fu3 X D s).2 := xEx_p p3
  obtain ⟨p1, q1⟩ : (fu1 X D s).1 = 0 ∧ (fu1 X D s).2 ≤ (fu2 X D s).2 := xNew_p p2
  obtain ⟨p0, q0⟩ : s.1 = 0 ∧ s.2 ≤ (fu1 X D s).2 := xMor_p p1
  have m0 : vC D 0 < 5 := (xMor_s p1).1
  refine ⟨by omega, ⟨fun k hk => ?_, ?_⟩, fun f hf => ?_, fun i hi => ?_, w4, fun i f hi hf ho => ?_, w6, w7, w8⟩
  · show cUp D 0 k ≤ mk5 k
    by_cases e : k = 0
    · rw [e, cUp_e]; exact m0
    · rw [cUp_n e]; exact w1 k hk
  · show cUp D 0 5 ≤ 12
    rw [cUp_n (by decide)]; exact w1'
  · have hf : f < cUp D 0 0 := hf
    rw [cUp_e] at hf
    show va_up (vD D) (vC D 0) (xnv X (fu3 X D s).2) f ≤ 99 ∧ va_up (vS D) (vC D 0) (xnv X (fu5 X D s).2) f ≤ 99 ∧ 1 ≤ va_up (vB D) (vC D 0) (xnv X (fu7 X D s).2) f ∧ va_up (vB D) (vC D 0) (xnv X (fu7 X D s).2) f ≤ 9
    by_cases e : f = vC D 0
    · rw [e, va_eq, va_eq, va_eq]; exact ⟨n4.2, n6.2, n8⟩
    · rw [va_ne e, va_ne e, va_ne e]; exact w2 f (by omega)
  · have hi : i < cUp D 0 2 := hi
    rw [cUp_n (by decide)] at hi
    show vF D i < cUp D 0 1
    rw [cUp_n (by decide)]; exact w3 i hi
  · have ho : cUp D 0 2 ≤ i ∨ cUp D 0 0 ≤ f := ho
    rw [cUp_n (by decide), cUp_e] at ho
    exact w5 i f hi hf (by omega)
theorem k_Lu (dw : DW D) (h : (lu3 X D s).1 = 0) : s.2 < (lu3 X D s).2 ∧ DW (uLu X D s) := by
  obtain ⟨⟨w1, w1'⟩, w2, w3, w4, w5, w6, w7, w8⟩ := dw
  obtain ⟨p2, q2⟩ : (lu2 X D s).1 = 0 ∧ (lu2 X D s).2 < (lu3 X D s).2 := xSn_p h
  obtain ⟨p1, q1⟩ : (lu1 X D s).1 = 0 ∧ (lu1 X D s).2 ≤ (lu2 X D s).2 := xNew_p p2
  obtain ⟨p0, q0⟩ : s.1 = 0 ∧ s.2 ≤ (lu1 X D s).2 := xMor_p p1
  have m0 : vC D 1 < 3 := (xMor_s p1).1
  refine ⟨by omega, ⟨fun k hk => ?_, ?_⟩, fun f hf => ?_, fun i hi => ?_, w4, fun i f hi hf ho => ?_, w6, w7, w8⟩
  · show cUp D 1 k ≤ mk5 k
    by_cases e : k = 1
    · rw [e, cUp_e]; exact m0
    · rw [cUp_n e]; exact w1 k hk
  · show cUp D 1 5 ≤ 12
    rw [cUp_n (by decide)]; exact w1'
  · have hf : f < cUp D 1 0 := hf
    rw [cUp_n (by decide)] at hf
    exact w2 f hf
  · have hi : i < cUp D 1 2 := hi
    rw [cUp_n (by decide)] at hi
    show vF D i < cUp D 1 1
    rw [cUp_e]
    have := w3 i hi
    omega
  · have ho : cUp D 1 2 ≤ i ∨ cUp D 1 0 ≤ f := ho
    rw [cUp_n (by decide), cUp_n (by decide)] at ho
    exact w5 i f hi hf ho
theorem k_Ho (dw : DW D) (h : (ho6 X D s).1 = 0) : s.2 < (ho6 X D s).2 ∧ DW (uHo X D s) := by
  obtain ⟨⟨w1, w1'⟩, w2, w3, w4, w5, w6, w7, w8⟩ := dw
  obtain ⟨p5, q5⟩ : (ho5 X D s).1 = 0 ∧ (ho5 X D s).2 < (ho6 X D s).2 := xSn_p h
  obtain ⟨p4, q4⟩ : (ho4 X D s).1 = 0 ∧ (ho4 X D s).2 ≤ (ho5 X D s).2 := stp_q p5
  obtain ⟨p3, q3⟩ : (ho3 X D s).1 = 0 ∧ (ho3 X D s).2 ≤ (ho4 X D s).2 := xTld_p p4
  have n4 : nfi (vC D) (vN D) 1 (xwv X (ho3 X D s).2) < vC D 1 := (xTld_s p4).2.1
  obtain ⟨p2, q2⟩ : (ho2 X D s).1 = 0 ∧ (ho2 X D s).2 ≤ (ho3 X D s).2 := xEx_p p3
  obtain ⟨p1, q1⟩ : (ho1 X D s).1 = 0 ∧ (ho1 X D s).2 ≤ (ho2 X D s).2 := xNew_p p2
  obtain ⟨p0, q0⟩ : s.1 = 0 ∧ s.2 ≤ (ho1 X D s).2 := xMor_p p1
  have m0 : vC D 2 < 4 := (xMor_s p1).1
  refine ⟨by omega, ⟨fun k hk => ?_, ?_⟩, fun f hf => ?_, fun i hi => ?_, w4, fun i f hi hf ho => ?_, w6, w7, w8⟩
  · show cUp D 2 k ≤ mk5 k
    by_cases e : k = 2
    · rw [e, cUp_e]; exact m0
    · rw [cUp_n e]; exact w1 k hk
  · show cUp D 2 5 ≤ 12
    rw [cUp_n (by decide)]; exact w1'
  · have hf : f < cUp D 2 0 := hf
    rw [cUp_n (by decide)] at hf
    exact w2 f hf
  · have hi : i < cUp D 2 2 := hi
    rw [cUp_e] at hi
    show va_up (vF D) (vC D 2) (nfi (vC D) (vN D) 1 (xwv X (ho3 X D s).2)) i < cUp D 2 1
    rw [cUp_n (by decide)]
    by_cases e : i = vC D 2
    · rw [e, va_eq]; exact n4
    · rw [va_ne e]; exact w3 i (by omega)
  · have ho : cUp D 2 2 ≤ i ∨ cUp D 2 0 ≤ f := ho
    rw [cUp_e, cUp_n (by decide)] at ho
    exact w5 i f hi hf (by omega)
theorem k_Sk (dw : DW D) (h : (sk8 X D s).1 = 0) : s.2 < (sk8 X D s).2 ∧ DW (uSk X D s) := by
  obtain ⟨⟨w1, w1'⟩, w2, w3, w4, w5, w6, w7, w8⟩ := dw
  obtain ⟨p7, q7⟩ : (sk7 X D s).1 = 0 ∧ (sk7 X D s).2 < (sk8 X D s).2 := xSn_p h
  obtain ⟨p6, q6⟩ : (sk6 X D s).1 = 0 ∧ (sk6 X D s).2 ≤ (sk7 X D s).2 := xNu_p p7
  have n7 : 0 ≤ xnv X (sk6 X D s).2 ∧ xnv X (sk6 X D s).2 ≤ 99 := (xNu_s p7).2
  obtain ⟨p5, q5⟩ : (sk5 X D s).1 = 0 ∧ (sk5 X D s).2 ≤ (sk6 X D s).2 := stp_q p6
  obtain ⟨p4, q4⟩ : (sk4 X D s).1 = 0 ∧ (sk4 X D s).2 ≤ (sk5 X D s).2 := by
    unfold sk5 at p5 ⊢
    by_cases c : (sk4 X D s).1 = 0 ∧ vT D (skA X D s) ≠ 0
    · rw [if_pos c] at p5; exact absurd p5 (flt_n (by decide))
    · rw [if_neg c] at p5 ⊢; exact ⟨p5, Nat.le_refl _⟩
  obtain ⟨p3, q3⟩ : (sk3 X D s).1 = 0 ∧ (sk3 X D s).2 ≤ (sk4 X D s).2 := xTld_p p4
  have n4 : nfi (vC D) (vN D) 0 (xwv X (sk3 X D s).2) < vC D 0 := (xTld_s p4).2.1
  obtain ⟨p2, q2⟩ : (sk2 X D s).1 = 0 ∧ (sk2 X D s).2 ≤ (sk3 X D s).2 := stp_q p3
  obtain ⟨p1, q1⟩ : (sk1 X s).1 = 0 ∧ (sk1 X s).2 ≤ (sk2 X D s).2 := xTld_p p2
  have n2 : nfi (vC D) (vN D) 2 (xwv X (sk1 X s).2) < vC D 2 := (xTld_s p2).2.1
  obtain ⟨p0, q0⟩ : s.1 = 0 ∧ s.2 ≤ (sk1 X s).2 := stp_q p1
  have c0 : vC D 0 ≤ 5 := w1 0 (by decide)
  refine ⟨by omega, ⟨w1, w1'⟩, w2, w3, fun k hk => ?_, fun i f hi hf ho => ?_, w6, w7, w8⟩
  · show va_up (vT D) (skA X D s) (xnv X (sk6 X D s).2 + 1) k ≤ 100
    by_cases e : k = skA X D s
    · rw [e, va_eq]; omega
    · rw [va_ne e]; exact w4 k hk
  · show va_up (vT D) (skA X D s) (xnv X (sk6 X D s).2 + 1) (5 * i + f) = 0
    have ho : vC D 2 ≤ i ∨ vC D 0 ≤ f := ho
    rw [va_ne (by unfold skA; omega)]
    exact w5 i f hi hf ho
theorem k_Si (dw : DW D) (h : (si7 X D s).1 = 0) : s.2 < (si7 X D s).2 ∧ DW (uSi X D s) := by
  obtain ⟨⟨w1, w1'⟩, w2, w3, w4, w5, w6, w7, w8⟩ := dw
  obtain ⟨p6, q6⟩ : (si6 X D s).1 = 0 ∧ (si6 X D s).2 < (si7 X D s).2 := xSn_p h
  obtain ⟨p5, q5⟩ : (si5 X D s).1 = 0 ∧ (si5 X D s).2 ≤ (si6 X D s).2 := by unfold si6 at p6 ⊢; exact ra3_p p6
  have n6 : xnv X (si5 X D s).2 ≤ xnv X (ra2 X (si5 X D s)).2 ∧ xnv X (ra2 X (si5 X D s)).2 ≤ 999 := by unfold si6 at p6; exact (ra3_s p6).2.2.2
  obtain ⟨p4, q4⟩ : (si4 X D s).1 = 0 ∧ (si4 X D s).2 ≤ (si5 X D s).2 := xEx_p p5
  obtain ⟨p3, q3⟩ : (si3 X D s).1 = 0 ∧ (si3 X D s).2 ≤ (si4 X D s).2 := by unfold si4 at p4 ⊢; exact ra3_p p4
  have n4 : xnv X (si3 X D s).2 ≤ xnv X (ra2 X (si3 X D s)).2 ∧ xnv X (ra2 X (si3 X D s)).2 ≤ 999 := by unfold si4 at p4; exact (ra3_s p4).2.2.2
  obtain ⟨p2, q2⟩ : (si2 X D s).1 = 0 ∧ (si2 X D s).2 ≤ (si3 X D s).2 := xEx_p p3
  obtain ⟨p1, q1⟩ : (si1 X D s).1 = 0 ∧ (si1 X D s).2 ≤ (si2 X D s).2 := xNew_p p2
  obtain ⟨p0, q0⟩ : s.1 = 0 ∧ s.2 ≤ (si1 X D s).2 := xMor_p p1
  have m0 : vC D 3 < 6 := (xMor_s p1).1
  refine ⟨by omega, ⟨fun k hk => ?_, ?_⟩, fun f hf => ?_, fun i hi => ?_, w4, fun i f hi hf ho => ?_, fun k hk => ?_, fun k hk => ?_, fun k hk => ?_⟩
  · show cUp D 3 k ≤ mk5 k
    by_cases e : k = 3
    · rw [e, cUp_e]; exact m0
    · rw [cUp_n e]; exact w1 k hk
  · show cUp D 3 5 ≤ 12
    rw [cUp_n (by decide)]; exact w1'
  · have hf : f < cUp D 3 0 := hf
    rw [cUp_n (by decide)] at hf
    exact w2 f hf
  · have hi : i < cUp D 3 2 := hi
    rw [cUp_n (by decide)] at hi
    show vF D i < cUp D 3 1
    rw [cUp_n (by decide)]
    exact w3 i hi
  · have ho : cUp D 3 2 ≤ i ∨ cUp D 3 0 ≤ f := ho
    rw [cUp_n (by decide), cUp_n (by decide)] at ho
    exact w5 i f hi hf ho
  · have hk : k < cUp D 3 3 := hk
    rw [cUp_e] at hk
    generalize er : vR (uSi X D s) = r
    have er : r = va_up (va_up (va_up (va_up (vR D) (4 * vC D 3) (xnv X (si3 X D s).2)) (4 * vC D 3 + 1) (xnv X (ra2 X (si3 X D s)).2)) (4 * vC D 3 + 2) (xnv X (si5 X D s).2)) (4 * vC D 3 + 3) (xnv X (ra2 X (si5 X D s)).2) := er.symm
    by_cases e : k = vC D 3
    · have r0 : r (4 * k) = xnv X (si3 X D s).2 := by rw [er, e, va_ne (by omega), va_ne (by omega), va_ne (by omega), va_eq]
      have r1 : r (4 * k + 1) = xnv X (ra2 X (si3 X D s)).2 := by rw [er, e, va_ne (by omega), va_ne (by omega), va_eq]
      have r2 : r (4 * k + 2) = xnv X (si5 X D s).2 := by rw [er, e, va_ne (by omega), va_eq]
      have r3 : r (4 * k + 3) = xnv X (ra2 X (si5 X D s)).2 := by rw [er, e, va_eq]
      rw [r0, r1, r2, r3]
      exact ⟨n4.1, n4.2, n6.1, n6.2⟩
    · have rr : ∀ j, j < 4 → r (4 * k + j) = vR D (4 * k + j) := fun j hj => by rw [er, va_ne (by omega), va_ne (by omega), va_ne (by omega), va_ne (by omega)]
      have r0 := rr 0 (by decide)
      simp only [Nat.add_zero] at r0
      rw [r0, rr 1 (by decide), rr 2 (by decide), rr 3 (by decide)]
      exact w6 k (by omega)
  · have hk : k < cUp D 3 4 := hk
    rw [cUp_n (by decide)] at hk
    exact w7 k hk
  · have hk : k < cUp D 3 5 := hk
    rw [cUp_n (by decide)] at hk
    exact w8 k hk
theorem k_Wa (dw : DW D) (h : (wa6 X D s).1 = 0) : s.2 < (wa6 X D s).2 ∧ DW (uWa X D s) := by
  obtain ⟨⟨w1, w1'⟩, w2, w3, w4, w5, w6, w7, w8⟩ := dw
  obtain ⟨p5, q5⟩ : (wa5 X D s).1 = 0 ∧ (wa5 X D s).2 < (wa6 X D s).2 := xSn_p h
  obtain ⟨p4, q4⟩ : (wa4 X D s).1 = 0 ∧ (wa4 X D s).2 ≤ (wa5 X D s).2 := stp_q p5
  obtain ⟨p3, q3⟩ : (wa3 X D s).1 = 0 ∧ (wa3 X D s).2 ≤ (wa4 X D s).2 := by
    unfold wa4 at p4 ⊢
    by_cases c : sWd X (wa3 X D s) 1 = true ∨ sWd X (wa3 X D s) 2 = true ∨ sWd X (wa3 X D s) 12 = true
    · rw [if_pos c] at p4 ⊢; exact ⟨p4, Nat.le_refl _⟩
    · rw [if_neg c] at p4; exact absurd p4 (flt_n (by decide))
  obtain ⟨p2, q2⟩ : (wa2 X D s).1 = 0 ∧ (wa2 X D s).2 ≤ (wa3 X D s).2 := xEx_p p3
  obtain ⟨p1, q1⟩ : (wa1 X D s).1 = 0 ∧ (wa1 X D s).2 ≤ (wa2 X D s).2 := xNew_p p2
  obtain ⟨p0, q0⟩ : s.1 = 0 ∧ s.2 ≤ (wa1 X D s).2 := xMor_p p1
  have m0 : vC D 4 < 4 := (xMor_s p1).1
  refine ⟨by omega, ⟨fun k hk => ?_, ?_⟩, fun f hf => ?_, fun i hi => ?_, w4, fun i f hi hf ho => ?_, fun k hk => ?_, fun k hk => ?_, fun k hk => ?_⟩
  · show cUp D 4 k ≤ mk5 k
    by_cases e : k = 4
    · rw [e, cUp_e]; exact m0
    · rw [cUp_n e]; exact w1 k hk
  · show cUp D 4 5 ≤ 12
    rw [cUp_n (by decide)]; exact w1'
  · have hf : f < cUp D 4 0 := hf
    rw [cUp_n (by decide)] at hf
    exact w2 f hf
  · have hi : i < cUp D 4 2 := hi
    rw [cUp_n (by decide)] at hi
    show vF D i < cUp D 4 1
    rw [cUp_n (by decide)]
    exact w3 i hi
  · have ho : cUp D 4 2 ≤ i ∨ cUp D 4 0 ≤ f := ho
    rw [cUp_n (by decide), cUp_n (by decide)] at ho
    exact w5 i f hi hf ho
  · have hk : k < cUp D 4 3 := hk
    rw [cUp_n (by decide)] at hk
    exact w6 k hk
  · have hk : k < cUp D 4 4 := hk
    rw [cUp_e] at hk
    show va_up (vG D) (vC D 4) (waV X D s) k ≤ 2
    by_cases e : k = vC D 4
    · rw [e, va_eq]
      unfold waV
      split
      · decide
      split <;> decide
    · rw [va_ne e]; exact w7 k (by omega)
  · have hk : k < cUp D 4 5 := hk
    rw [cUp_n (by decide)] at hk
    exact w8 k hk
theorem k_wn (dw : DW D) : DW (wnD X D s) := by
  unfold wnD
  by_cases c : (wnS X D s).1 = 0 ∧ vC D 5 < 12
  rotate_left
  · rw [if_neg c]; exact dw
  rw [if_pos c]
  obtain ⟨⟨w1, w1'⟩, w2, w3, w4, w5, w6, w7, w8⟩ := dw
  have c0 := c.1
  unfold wnS at c0
  have n := (xNu_s c0).2
  have ez : (if 12 ≤ vC D 5 ∧ sNu X s = true ∧ xnv X s.2 ≤ 9 then flt X 5 s else s) = s := if_neg (fun z => by omega)
  rw [ez] at n
  have up : ∀ k, k < 5 → va_up (vC D) 5 (vC D 5 + 1) k = vC D k := fun k hk => va_ne (by omega)
  refine ⟨⟨fun k hk => ?_, ?_⟩, fun f hf => w2 f hf, fun i hi => w3 i hi, w4, fun i f hi hf ho => w5 i f hi hf ho, fun k hk => w6 k hk, fun k hk => w7 k hk, fun k hk => ?_⟩
  · show va_up (vC D) 5 (vC D 5 + 1) k ≤ mk5 k
    rw [up k hk]; exact w1 k hk
  · show va_up (vC D) 5 (vC D 5 + 1) 5 ≤ 12
    rw [va_eq]; exact c.2
  · have hk : k < va_up (vC D) 5 (vC D 5 + 1) 5 := hk
    rw [va_eq] at hk
    show va_up (vW D) (vC D 5) (xnv X s.2) k ≤ 9
    by_cases e : k = vC D 5
    · rw [e, va_eq]; exact n.2
    · rw [va_ne e]; exact w8 k (by omega)
theorem wnS_p (h : (wnS X D s).1 = 0) : s.1 = 0 ∧ s.2 ≤ (wnS X D s).2 := by
  unfold wnS at h ⊢
  by_cases c : 12 ≤ vC D 5 ∧ sNu X s = true ∧ xnv X s.2 ≤ 9
  · rw [if_pos c] at h
    exact absurd (xNu_p h).1 (flt_n (by decide))
  · rw [if_neg c] at h ⊢
    exact xNu_p h
theorem wnL_k : ∀ n (s : ZS) (D : DV), DW D → DW (wnL X n s D).2 ∧ ((wnL X n s D).1.1 = 0 → s.1 = 0 ∧ s.2 ≤ (wnL X n s D).1.2) ∧ vL (wnL X n s D).2 = vL D
  | 0, s, D, dw => ⟨dw, fun h => ⟨h, Nat.le_refl _⟩, rfl⟩
  | n + 1, s, D, dw => by
    unfold wnL
    by_cases c : sNu X s = true
    · rw [if_pos c]
      obtain ⟨a1, a2, a3⟩ := wnL_k n (wnS X D s) (wnD X D s) (k_wn dw)
      refine ⟨a1, fun h => ?_, a3.trans ?_⟩
      · obtain ⟨b1, b2⟩ := a2 h
        obtain ⟨c1, c2⟩ := wnS_p b1
        exact ⟨c1, by omega⟩
      · unfold wnD
        split <;> rfl
    · rw [if_neg c]
      exact ⟨dw, fun h => ⟨h, Nat.le_refl _⟩, rfl⟩
theorem k_Wi (dw : DW D) (h : (wi4 X D s).1 = 0) : s.2 < (wi4 X D s).2 ∧ DW (wi3 X D s).2 ∧ vL (wi3 X D s).2 = vL D := by
  obtain ⟨p3, q3⟩ : (wi3 X D s).1.1 = 0 ∧ (wi3 X D s).1.2 < (wi4 X D s).2 := xSn_p h
  obtain ⟨a1, a2, a3⟩ := wnL_k (X := X) 12 (wnS X D (wi2 X D s)) (wnD X D (wi2 X D s)) (k_wn dw)
  obtain ⟨b1, b2⟩ := a2 p3
  have b2 : (wnS X D (wi2 X D s)).2 ≤ (wi3 X D s).1.2 := b2
  obtain ⟨c1, c2⟩ := wnS_p b1
  obtain ⟨d1, d2⟩ : (wi1 X D s).1 = 0 ∧ (wi1 X D s).2 ≤ (wi2 X D s).2 := stp_q c1
  have d3 : s.2 ≤ (wi1 X D s).2 := by
    unfold wi1 at d1 ⊢
    by_cases e : vC D 5 = 0
    · rw [if_pos e]; exact Nat.le_refl _
    · rw [if_neg e] at d1; exact absurd d1 (flt_n (by decide))
  refine ⟨by omega, a1, a3.trans ?_⟩
  unfold wnD
  split <;> rfl
end LKP
