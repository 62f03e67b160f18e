/-! A law's line, what it does; the class reads it. -/
def lwQ (X : TX) (o t : Bool) (s : ZS) : QS := gTests X (gPart X o 5) (stp X (if t = true then flt X 3 s else s), [], [])
def lwS (X : TX) (o t : Bool) (s : ZS) : ZS := xSn X 59 (lwQ X o t s).1
def lwD (X : TX) (o t : Bool) (l : Nat) (D : DV) (s : ZS) : DV := (vC D, vN D, vD D, vS D, vB D, vF D, vT D, vR D, vG D, vW D, va_up (vL D) l (lwQ X o t s).2)
def lwO (l : Nat) : Bool := decide (l = 0)
def lwT (D : DV) (l : Nat) : Bool := decide ((vL D l).1 ≠ [])
section CL5
variable {N x b w a l : Nat} {X : TX} {o t : Bool} {q : QS} {h h' : PH} {D : DV} {s : ZS}
theorem gPL_z {P : QS → QS} (h0 : q.1.1 ≠ 0) : ∀ n, gPL X P n q = q
  | 0 => rfl
  | n + 1 => by unfold gPL; rw [if_neg (fun z => h0 (sSg_i.mp z).1)]
theorem gSL_z {P : QS → QS} (h0 : q.1.1 ≠ 0) : ∀ n, gSL X P n q = q
  | 0 => rfl
  | n + 1 => by unfold gSL; rw [if_neg (fun z => h0 (sSg_i.mp z).1), if_neg (fun z => h0 (sSg_i.mp z).1)]
theorem gTL_z {P : QS → QS} (h0 : q.1.1 ≠ 0) : ∀ n, gTL X P n q = q
  | 0 => rfl
  | n + 1 => by unfold gTL; rw [if_neg (fun z => h0 (sWd_i.mp z).1), if_neg (fun z => h0 (sWd_i.mp z).1)]
theorem gTests_z {e : Nat} (h0 : q.1.1 ≠ 0) : gTests X (gPart X o e) q = q := by
  unfold gTests gTest gSum gProd
  rw [gPart_z e h0, gPL_z h0, gSL_z h0, if_neg (fun z => h0 (sSg_i.mp z).1), if_neg (fun z => h0 (sSg_i.mp z).1), gTL_z h0]
theorem DC.law (hw : x + 43 ≤ w) (hz' : w + 18 ≤ hz h) (hl : l < 2) (hb : b = w + 11 + 3 * l) {C : List Int32 × List Nat} (g : Kl x b h h') (lc : LC h' b C.1) (f0 : hI h' b 0 = hI h b 0) (q : DC h w D) : DC h' w (vC D, vN D, vD D, vS D, vB D, vF D, vT D, vR D, vG D, vW D, va_up (vL D) l C) := by
  obtain ⟨q0, q1, q2, q3, q4, q5, q6, q7, q8, ⟨q9, q10, q11, q12⟩, q13⟩ := q
  have e : ∀ k, k < 18 → w + k ≠ b → w + k ≠ b + 1 → hI h' (w + k) = hI h (w + k) := fun k hk c1 c2 => (g.2 _ ⟨by omega, c1, c2⟩).1
  have e0 := e 0 (by decide) (by omega) (by omega)
  simp only [Nat.add_zero] at e0
  have n0 : NmC h' w (vC D) (vN D) := ⟨q0.1.shp g.1 hz' hw, fun k hk => by
    rw [e 1 (by decide) (by omega) (by omega), (g.2 (w + 2) ⟨by omega, by omega, by omega⟩).2]
    exact q0.2 k hk⟩
  refine ⟨n0, by rw [e0]; exact q1, ?_, ?_, ?_, by rw [e0]; exact q5, ?_, ?_, ?_, ?_, ?_⟩
  · rw [e 3 (by decide) (by omega) (by omega), e 4 (by decide) (by omega) (by omega), e 5 (by decide) (by omega) (by omega)]; exact q2
  · rw [e 6 (by decide) (by omega) (by omega)]; exact q3
  · rw [e 7 (by decide) (by omega) (by omega)]; exact q4
  · rw [e 8 (by decide) (by omega) (by omega)]; exact q6
  · rw [e 9 (by decide) (by omega) (by omega)]; exact q7
  · rw [e 10 (by decide) (by omega) (by omega)]; exact q8
  · rcases (show l = 0 ∨ l = 1 by omega) with rfl | rfl
    · have hb : b = w + 11 := hb
      subst hb
      have k1 := (g.2 (w + 14) ⟨by omega, by omega, by omega⟩).1
      have k2 := (g.2 (w + 14 + 1) ⟨by omega, by omega, by omega⟩).1
      refine ⟨?_, ?_, f0.trans q11, by rw [k1]; exact q12⟩
      · show LC h' (w + 11) (va_up (vL D) 0 C 0).1
        rw [va_eq]; exact lc
      · show LC h' (w + 14) (va_up (vL D) 0 C 1).1
        rw [va_ne (by decide)]
        unfold LC at q10 ⊢
        rw [k1, k2]; exact q10
    · have hb : b = w + 14 := by omega
      subst hb
      have k1 := (g.2 (w + 11) ⟨by omega, by omega, by omega⟩).1
      have k2 := (g.2 (w + 11 + 1) ⟨by omega, by omega, by omega⟩).1
      refine ⟨?_, ?_, by rw [k1]; exact q11, f0.trans q12⟩
      · show LC h' (w + 11) (va_up (vL D) 1 C 0).1
        rw [va_ne (by decide)]
        unfold LC at q9 ⊢
        rw [k1, k2]; exact q9
      · show LC h' (w + 14) (va_up (vL D) 1 C 1).1
        rw [va_eq]; exact lc
  · rw [e 17 (by decide) (by omega) (by omega)]; exact q13
theorem i_law (hN : 2000 ≤ N) : Im X o x b (gTests X (gPart X o 5)) (fun h => f_X1_readFrom N b (x + 1) h) := fun h q l => by
  obtain ⟨h', a1, a2, a3⟩ := i_tests (R := fun z0 z1 z2 h => f_X1_readTest_b (f_grp N 38).2.2.1 N z0 z1 z2 h) hN (i_test (R := fun z0 z1 z2 h => f_X1_readSum_b (f_grp N 37).2.2.2.1 N z0 z1 z2 h) hN (i_sum (R := fun z0 z1 z2 h => f_X1_readProduct_b (f_grp N 36).2.2.2.2 N z0 z1 z2 h) hN (i_prod hN (i_all (X := X) (o := o) (x := x) (b := b) hN 5 36 (by decide) (by decide))))) h q l
  have a1 : f_X1_readTests 40 N b (x + 1) 0 h = _ := a1
  refine ⟨h', ?_, a2, a3⟩
  show f_X1_readFrom N b (x + 1) h = _
  unfold f_X1_readFrom
  rw [ck_p l.2.1.1, a1, cl_s]
theorem z_l40 (hN : 2000 ≤ N) (z : CZ X x h s) (rd : Rdr h a x w) : ∃ h', f_X7_readLaw_40 N a h = some ((), h') ∧ Kx x (fun z => z ≠ x + 1) h h' ∧ CZ X x h' (xSn X 59 s) := by
  obtain ⟨h', a1, a2, a3⟩ := z_expectSign (c := 59) hN (by decide) z
  have a1 : f_X5_expectSign N (x + 1) 59 h = _ := a1
  unfold f_X7_readLaw_40
  rw [ck_p rd.1, rd.2.1, rq_s, ck_p z.1.1.1, a1, cl_s]
  exact ⟨h', rfl, a2, a3⟩
/-- after the question whether it is told already -/
theorem z_l15 (hN : 2000 ≤ N) (hw : x + 43 ≤ w) (hz' : w + 18 ≤ hz h) (z : CZ X x h s) (rd : Rdr h a x w) (q : DC h w D) (hl : l < 2) (hb : b = w + 11 + 3 * l) (he : s.1 = 0 → (vL D l).1 = []) : ∃ h', f_X7_readLaw_15 N a b h = some ((), h') ∧ Kw x w h h' ∧ CZ X x h' (xSn X 59 (gTests X (gPart X (lwO l) 5) (stp X s, [], [])).1) ∧ ((xSn X 59 (gTests X (gPart X (lwO l) 5) (stp X s, [], [])).1).1 = 0 → DC h' w (vC D, vN D, vD D, vS D, vB D, vF D, vT D, vR D, vG D, vW D, va_up (vL D) l (gTests X (gPart X (lwO l) 5) (stp X s, [], [])).2)) := by
  obtain ⟨h1, a1, a2, a3⟩ := z_step hN z
  have rd1 := rd.shp a2.1
  have hz1 : w + 18 ≤ hz h1 := Nat.le_trans hz' a2.1.2.1
  have q1 : DC h1 w D := q.kx a2 (fun z z1 z2 => by omega) hz' hw
  have kwl : ∀ g g', Kl x b g g' → hI g' b 0 = hI g b 0 → Kw x w g g' := fun g g' k f => ⟨k.1, fun z hz => k.2 z ⟨hz.1, by omega, by omega⟩, fun l z hz => by
    by_cases e : z = b
    · rw [e]; exact f
    · rw [(k.2 z ⟨by omega, e, by omega⟩).1]⟩
  unfold f_X7_readLaw_15
  rw [ck_p rd.1, rd.2.1, rq_s, ck_p z.1.1.1, a1, cl_s, ck_p rd1.1, rd1.2.1, rq_s, ck_p a3.1.1.1, z_isSound a3, cl_s, ite_i yb0]
  by_cases c : (stp X s).1 = 0
  rotate_left
  · have gz : gTests X (gPart X (lwO l) 5) (stp X s, [], []) = (stp X s, [], []) := gTests_z c
    obtain ⟨h', b1, b2, b3⟩ := z_l40 hN a3 rd1
    rw [if_pos (decide_eq_false c), gz]
    exact ⟨h', b1, (a2.trans b2).kw, b3, fun z => absurd (xSn_s z) (fun z => c (sSg_i.mp z).1)⟩
  have c0 := stp_n.mp c
  have lw : LW h1 b := by
    rcases (show l = 0 ∨ l = 1 by omega) with rfl | rfl
    · rw [hb]; exact q1.1.1.gives
    · rw [hb]; exact q1.1.1.soots
  have lf : hI h1 b 0 = yb (lwO l) := by
    rcases (show l = 0 ∨ l = 1 by omega) with rfl | rfl
    · rw [hb]; exact q1.2.2.2.2.2.2.2.2.2.1.2.2.1
    · rw [hb]; exact q1.2.2.2.2.2.2.2.2.2.1.2.2.2
  have lc : LC h1 b (vL D l).1 := by
    rcases (show l = 0 ∨ l = 1 by omega) with rfl | rfl
    · rw [hb]; exact q1.2.2.2.2.2.2.2.2.2.1.1
    · rw [hb]; exact q1.2.2.2.2.2.2.2.2.2.1.2.1
  rw [he c0] at lc
  have L1 : LZ X (lwO l) x b h1 (stp X s, [], []) := ⟨a3, lw, ⟨by omega, by omega⟩, lf, ⟨0, by decide, lc.2.1⟩, fun _ => ⟨lc, Nat.zero_le _⟩⟩
  obtain ⟨h2, b1, b2, b3⟩ := i_law hN h1 _ L1
  have b1 : f_X1_readFrom N b (x + 1) h1 = _ := b1
  have rd2 := rd1.shp b2.1
  have hz2 : w + 18 ≤ hz h2 := Nat.le_trans hz1 b2.1.2.1
  obtain ⟨h3, d1, d2, d3⟩ := z_l40 hN b3.1 rd2
  rw [if_neg (by rw [decide_eq_true c]; decide), ck_p rd1.1, rd1.2.1, rq_s, ck_p lw.1, b1, cl_s]
  refine ⟨h3, d1, (a2.kw.trans (kwl _ _ b2 (b3.2.2.2.1.trans lf.symm))).trans d2.kw, d3, fun z => ?_⟩
  have s2 := (sSg_i.mp (xSn_s z)).1
  have q2 := q1.law hw hz1 hl hb b2 (b3.2.2.2.2.2 s2).1 (b3.2.2.2.1.trans lf.symm)
  exact q2.kx d2 (fun z z1 z2 => by omega) hz2 hw
theorem z_readLaw (hN : 2000 ≤ N) (hw : x + 43 ≤ w) (hz' : w + 18 ≤ hz h) (z : CZ X x h s) (rd : Rdr h a x w) (q : DC h w D) (hl : l < 2) (hb : b = w + 11 + 3 * l) : ∃ h', f_X7_readLaw N a b h = some ((), h') ∧ Kw x w h h' ∧ CZ X x h' (lwS X (lwO l) (lwT D l) s) ∧ ((lwS X (lwO l) (lwT D l) s).1 = 0 → DC h' w (lwD X (lwO l) (lwT D l) l D s)) := by
  have lw : LW h b := by
    rcases (show l = 0 ∨ l = 1 by omega) with rfl | rfl
    · rw [hb]; exact q.1.1.gives
    · rw [hb]; exact q.1.1.soots
  have lc : LC h b (vL D l).1 := by
    rcases (show l = 0 ∨ l = 1 by omega) with rfl | rfl
    · rw [hb]; exact q.2.2.2.2.2.2.2.2.2.1.1
    · rw [hb]; exact q.2.2.2.2.2.2.2.2.2.1.2.1
  have l1 := lc.1
  unfold f_X7_readLaw f_X1_isTold lwS lwD lwQ
  rw [ck_p lw.1, ck_p lw.1, lc.2.1, ite_i (show nI (vL D l).1.length ≤ 0 ↔ (vL D l).1.length ≤ 0 from nI_leI (b := 0) (by omega) (by decide))]
  by_cases c : (vL D l).1 = []
  · have ht : lwT D l = false := decide_eq_false (fun z => z c)
    rw [if_pos (by rw [c]; exact Nat.le_refl 0), cl_s, if_pos rfl, ht]
    exact z_l15 hN hw hz' z rd q hl hb (fun _ => c)
  · have ht : lwT D l = true := decide_eq_true c
    have cl : ¬ (vL D l).1.length ≤ 0 := fun z => c (List.length_eq_zero_iff.mp (by omega))
    obtain ⟨h1, a1, a2, a3⟩ := z_fail (N := N) (k := 3) ⟨by decide, by decide⟩ z
    have a1 : f_X5_fail N (x + 1) 3 h = _ := a1
    obtain ⟨h', b1, b2, b3, b4⟩ := z_l15 (a := a) hN hw (Nat.le_trans hz' a2.1.2.1) a3 (rd.shp a2.1) (q.kx a2 (fun z z1 z2 => by omega) hz' hw) hl hb (fun z => absurd z (flt_n (by decide)))
    rw [if_neg cl, cl_s, if_neg one0, ck_p rd.1, rd.2.1, rq_s, ck_p z.1.1.1, a1, cl_s, ht]
    exact ⟨h', b1, a2.kw.trans b2, b3, b4⟩
end CL5
