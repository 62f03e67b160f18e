/-! The reference reads a law's line. -/
/-- how many of the reference's codes both laws have -/
def tlL (D : DV) : Nat := (vL D 0).2.length + (vL D 1).2.length
/-- the laws that are told are good -/
def DLw (D : DV) : Prop := ∀ l, l < 2 → ((vL D l).1 = [] ↔ (vL D l).2 = []) ∧ ((vL D l).1 ≠ [] → GTs (lwO l) 5 0 (vL D l).1 (vL D l).2 ∧ HB 0 (vL D l).2)
section MLB
variable {N y l : Nat} {X : TX} {h h' : PH} {D : DV} {s : ZS}
theorem Pl.pf {c : Nat} (hc : 1000 ≤ c) (p : Pl y 0 0 c h h') : Pf y h h' := by
  obtain ⟨p1, p2, p3, p4, p5, p6, p7, p8⟩ := p
  refine ⟨p1, p2, fun z hz => ⟨p3 z (by omega) (by omega) (by omega) (by omega), p4 z (by omega)⟩, fun j k a b hk => ⟨?_, by rw [p4 _ (by omega)]⟩, fun k hk => p8 k (by omega)⟩
  by_cases e : j = 14
  · subst e
    have hk : k < 1000 := hk
    exact p5 k (by omega)
  · rw [p3 _ (by omega) (by omega) (by omega) (by omega)]
theorem LM.mono {R : List Nat} {cd cd' : Nat} (hc : cd ≤ cd') (q : LM h y l R cd) : LM h y l R cd' := by
  obtain ⟨f, q1, q2, q3⟩ := q
  exact ⟨f, q1, by omega, q3⟩
theorem lwQ_g (X : TX) (o : Bool) (s : ZS) (hs : s.2 ≤ X.1) (z : (gTests X (gPart X o 5) (stp X s, [], [])).1.1 = 0) : s.1 = 0 ∧ xnx X s.2 < (gTests X (gPart X o 5) (stp X s, [], [])).1.2 ∧ (gTests X (gPart X o 5) (stp X s, [], [])).2.2.length + xnx X s.2 ≤ (gTests X (gPart X o 5) (stp X s, [], [])).1.2 ∧ (gTests X (gPart X o 5) (stp X s, [], [])).1.2 ≤ X.1 ∧ (gTests X (gPart X o 5) (stp X s, [], [])).2.1 ≠ [] ∧ (gTests X (gPart X o 5) (stp X s, [], [])).2.2 ≠ [] ∧ GTs o 5 0 (gTests X (gPart X o 5) (stp X s, [], [])).2.1 (gTests X (gPart X o 5) (stp X s, [], [])).2.2 := by
  have g : ∀ (q : QS), q.1.2 ≤ X.1 → RsP X (GTs o 5 0) q (gTests X (gPart X o 5) q) := fun q l => gTests_g (fun q l => gPart_g 5 0 q l) l
  have sl : (stp X s).2 ≤ X.1 := by
    by_cases c : s.1 = 0
    · rw [stp_0 c]; exact xnx_le hs
    · rw [stp_z c]; exact hs
  obtain ⟨a1, C, R, a2, a3, a4, a5, a6, a7, a8, a9⟩ := g (stp X s, [], []) sl z
  have c0 : s.1 = 0 := stp_n.mp a1
  have e2 : (gTests X (gPart X o 5) (stp X s, [], [])).2.1 = C := by rw [a2]; rfl
  have e3 : (gTests X (gPart X o 5) (stp X s, [], [])).2.2 = R := by rw [a3]; rfl
  have e1 : (stp X s).2 = xnx X s.2 := by rw [stp_0 c0]
  have a6 : C.length + (stp X s).2 ≤ _ := a6
  have a7 : R.length + (stp X s).2 ≤ _ := a7
  rw [e1] at a6 a7
  rw [e2, e3]
  exact ⟨c0, by omega, a7, a8, fun z => by rw [z] at a4; simp at a4, fun z => by rw [z] at a5; simp at a5, a9⟩
theorem m_readsLaw (hN : 2000 ≤ N) (hl : l < 2) (hs : s.1 = 0) (z : RZ X y h s.2) (q : DM h y D) (ht : (vL D l).1 = [] ↔ (vL D l).2 = []) (tl : tlL D ≤ s.2) : ∃ h', f_X11_readsLaw N y (nI l) h = some (yb (decide ((lwS X (lwO l) (lwT D l) s).1 = 0)), h') ∧ Pf y h h' ∧ MRs X y h' (lwS X (lwO l) (lwT D l) s) ∧ ((lwS X (lwO l) (lwT D l) s).1 = 0 → DM h' y (lwD X (lwO l) (lwT D l) l D s)) := by
  have M := z.1.1
  have x1 := z.1.2.1.1
  obtain ⟨q0, q1, q2, q3, q4, q5, q6, q7, cd, q8, q9, q10, q11, q12⟩ := q
  have lm : LM h y l (vL D l).2 cd := by
    rcases (show l = 0 ∨ l = 1 by omega) with rfl | rfl
    · exact q11
    · exact q12
  obtain ⟨f0, f1, f2, f3, f4, f5⟩ := id lm
  have e2 : (2 : Int32) + nI l = nI (2 + l) := nI_add 2 l
  unfold f_X11_readsLaw
  rw [ck_p M.1, mR_lineTo M, rq_s, ck_p (mK_lineTo M), mN_lineTo M, e2, ck_p (nI_ix (by omega) (by decide)), mR_lineFrom M, rq_s, ck_p (mK_lineFrom M), mN_lineFrom M, ck_p (nI_ix (by omega) (by decide)), ix_nI (by omega), f3, f4, ite_i (nI_leI (by omega) (by omega))]
  unfold lwS lwD lwQ
  by_cases c : (vL D l).2 = []
  rotate_left
  · have cl : ¬ f0 + (vL D l).2.length ≤ f0 := fun w => c (List.length_eq_zero_iff.mp (by omega))
    have et : lwT D l = true := decide_eq_true (fun w => c (ht.mp w))
    obtain ⟨h', a1, a2, a3⟩ := m_fails (N := N) (k := 3) z
    have a1 : f_X11_fails N y 3 h = _ := a1
    rw [if_neg cl, a1, cl_s, ck_p (Or.inl rfl), et, if_pos rfl, gTests_z (show (stp X (flt X 3 s)).1 ≠ 0 from fun w => flt_n (by decide) (stp_n.mp w)), stp_z (flt_n (by decide)), xSn_z (flt_n (by decide)), flt_0 hs, d0F (by decide)]
    exact ⟨h', rfl, (a2.rj).pf, MRs.f (by decide) a3, fun w => by
      have w : 3 + 16 * xbg X s.2 = 0 := w
      omega⟩
  have et : lwT D l = false := decide_eq_false (fun w => w (ht.mpr c))
  have c0 : (vL D l).2.length = 0 := by rw [c]; rfl
  rw [if_pos (by omega), et, if_neg (by decide), bd_e]
  have z0 : RZ X y (sI h y 24 (nI l)) s.2 := z.I3 (by decide)
  obtain ⟨g1, a1, a2, -, a4⟩ := m_next hN z0
  have e23 : hI g1 y 23 = nI cd := (a2.2.1 23 (by omega)).trans (by rw [hI_sI_eq, va_ne (by decide)]; exact q9)
  have e24 : hI g1 y 24 = nI l := (a2.2.1 24 (by omega)).trans (by rw [hI_sI_eq, va_eq])
  have M1 := a4.1.1
  have pf1 : Pf y h g1 := (Pf.Y (by decide)).trans a2.rj.pf
  rw [ck_p z0.1.1.1, a1, cl_s, ck_p M1.1, mR_lineFrom M1, rq_s, ck_p (mK_lineFrom M1), mN_lineFrom M1, ck_p (nI_ix (by omega) (by decide)), e23, bd_e]
  have z2 : RZ X y (sI g1 (y + 12) (2 + l) (nI cd)) (xnx X s.2) := a4.W (by decide)
  have y2 : hI (sI g1 (y + 12) (2 + l) (nI cd)) y = hI g1 y := hI_sI_ne (by omega)
  have pf2 : Pf y h (sI g1 (y + 12) (2 + l) (nI cd)) := pf1.trans (Pf.I (by decide) (by decide) (show 2 ≤ 2 + l by omega))
  have es : stp X s = (0, xnx X s.2) := stp_0 hs
  have gt : s.2 ≤ xnx X s.2 := Nat.le_trans xbg_ge xnx_ge
  have l0 : MLs X y cd l (sI g1 (y + 12) (2 + l) (nI cd)) (stp X s, [], []) := by
    refine ⟨by rw [es], ⟨by rw [es]; exact z2, by rw [y2]; exact e23, fun k hk => absurd hk (Nat.not_lt_zero k), by rw [y2]; exact e24⟩, ?_⟩
    rw [es]
    show cd + 0 ≤ 1000 + xnx X s.2
    unfold tlL at tl
    omega
  obtain ⟨h3, b1, b2, b3, b4⟩ := m_reads hN hl l0
  have b2 : Pl y 0 0 cd (sI g1 (y + 12) (2 + l) (nI cd)) h3 := b2
  have pf3 := pf2.trans (b2.pf (by omega))
  rw [ck_p z2.1.1.1, b1, cl_s, ite_i yb0]
  by_cases cs : (xSn X 59 (gTests X (gPart X (lwO l) 5) (stp X s, [], [])).1).1 = 0
  rotate_left
  · rw [if_pos (decide_eq_false cs), decide_eq_false cs]
    exact ⟨h3, rfl, pf3, b3, fun w => absurd w cs⟩
  obtain ⟨b5, b6⟩ := b4 cs
  have z3 := b3.1 cs
  have M3 := z3.1.1
  obtain ⟨w1, w2, w3, w4, -, -, -⟩ := lwQ_g X (lwO l) s z.2.1 (sSg_i.mp (xSn_s cs)).1
  rw [if_neg (by rw [decide_eq_true cs]; decide), decide_eq_true cs, ck_p M3.1, mR_lineTo M3, rq_s, ck_p (mK_lineTo M3), mN_lineTo M3, ck_p (nI_ix (by omega) (by decide)), b5, bd_e]
  generalize (gTests X (gPart X (lwO l) 5) (stp X s, [], [])) = Q at *
  have pf4 : Pf y h (sI h3 (y + 13) (2 + l) (nI (cd + Q.2.2.length))) := pf3.trans (Pf.I (by decide) (by decide) (show 2 ≤ 2 + l by omega))
  refine ⟨_, rfl, pf4, ⟨fun _ => z3.W (by decide), fun w => absurd cs w⟩, fun _ => ?_⟩
  have eo : ∀ j, 2 ≤ j → j ≤ 11 → hI (sI h3 (y + 13) (2 + l) (nI (cd + Q.2.2.length))) (y + j) = hI h (y + j) := fun j i1 i2 => by
    rw [hI_sI_ne (by omega), b2.2.2.1 _ (by omega) (by omega) (by omega) (by omega), hI_sI_ne (by omega), (a2.1.2.2 _ (by omega)).1, hI_sI_ne (by omega)]
  have eJ : hJ (sI h3 (y + 13) (2 + l) (nI (cd + Q.2.2.length))) (y + 3) = hJ h (y + 3) := by
    rw [hJ_sI, b2.2.2.2.1 _ (by omega), hJ_sI, (a2.1.2.2 _ (by omega)).2, hJ_sI]
  have g12 : hI (sI h3 (y + 13) (2 + l) (nI (cd + Q.2.2.length))) (y + 12) = va_up (hI h (y + 12)) (2 + l) (nI cd) := by
    rw [hI_sI_ne (by omega), b2.2.2.1 _ (by omega) (by omega) (by omega) (by omega), hI_sI_eq, (a2.1.2.2 _ (by omega)).1, hI_sI_ne (by omega)]
  have g13 : hI (sI h3 (y + 13) (2 + l) (nI (cd + Q.2.2.length))) (y + 13) = va_up (hI h (y + 13)) (2 + l) (nI (cd + Q.2.2.length)) := by
    rw [hI_sI_eq, b2.2.2.1 _ (by omega) (by omega) (by omega) (by omega), hI_sI_ne (by omega), (a2.1.2.2 _ (by omega)).1, hI_sI_ne (by omega)]
  have g14 : hI (sI h3 (y + 13) (2 + l) (nI (cd + Q.2.2.length))) (y + 14) = hI h3 (y + 14) := hI_sI_ne (by omega)
  have g14' : ∀ k, k < cd → hI h3 (y + 14) k = hI h (y + 14) k := fun k hk => by
    rw [b2.2.2.2.2.1 k hk, hI_sI_ne (by omega), (a2.1.2.2 _ (by omega)).1, hI_sI_ne (by omega)]
  have g23 : hI (sI h3 (y + 13) (2 + l) (nI (cd + Q.2.2.length))) y 23 = nI (cd + Q.2.2.length) := by
    rw [hI_sI_ne (by omega)]; exact b5
  have m4 : MD (sI h3 (y + 13) (2 + l) (nI (cd + Q.2.2.length))) y := (z3.W (by decide)).1.1
  have new : LM (sI h3 (y + 13) (2 + l) (nI (cd + Q.2.2.length))) y l Q.2.2 (cd + Q.2.2.length) := ⟨cd, by omega, Nat.le_refl _, by rw [g12, va_eq], by rw [g13, va_eq], fun k hk => by rw [g14]; exact b6 k hk⟩
  have old : ∀ l' R, l' ≠ l → LM h y l' R cd → LM (sI h3 (y + 13) (2 + l) (nI (cd + Q.2.2.length))) y l' R (cd + Q.2.2.length) := fun l' R hl' p => (p.e (by rw [g12, va_ne (by omega)]) (by rw [g13, va_ne (by omega)]) (fun k hk => by rw [g14]; exact g14' k hk)).mono (Nat.le_add_right _ _)
  unfold tlL at tl
  refine ⟨⟨m4, fun k hk => by rw [eo 2 (by decide) (by decide), eJ]; exact q0.2 k hk⟩, ?_, ?_, ?_, ?_, ?_, ?_, ?_, cd + Q.2.2.length, by omega, g23, ?_, ?_, ?_⟩
  · rw [eo 2 (by decide) (by decide)]; exact q1
  · rw [eo 4 (by decide) (by decide), eo 5 (by decide) (by decide), eo 6 (by decide) (by decide)]; exact q2
  · rw [eo 7 (by decide) (by decide)]; exact q3
  · rw [eo 8 (by decide) (by decide)]; exact q4
  · rw [eo 9 (by decide) (by decide)]; exact q5
  · rw [eo 10 (by decide) (by decide)]; exact q6
  · rw [eo 11 (by decide) (by decide)]; exact q7
  · show cd + Q.2.2.length = 1000 + (va_up (vL D) l Q.2 0).2.length + (va_up (vL D) l Q.2 1).2.length
    rcases (show l = 0 ∨ l = 1 by omega) with rfl | rfl
    · rw [va_eq, va_ne (by decide)]; omega
    · rw [va_eq, va_ne (by decide)]; omega
  · show LM _ y 0 (va_up (vL D) l Q.2 0).2 _
    rcases (show l = 0 ∨ l = 1 by omega) with rfl | rfl
    · rw [va_eq]; exact new
    · rw [va_ne (by decide)]; exact old 0 _ (by decide) q11
  · show LM _ y 1 (va_up (vL D) l Q.2 1).2 _
    rcases (show l = 0 ∨ l = 1 by omega) with rfl | rfl
    · rw [va_ne (by decide)]; exact old 1 _ (by decide) q12
    · rw [va_eq]; exact new
end MLB
