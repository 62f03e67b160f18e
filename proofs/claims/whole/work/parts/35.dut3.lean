/-! Duties: hour, undo, read. -/
section DW
variable {N x y o J : Nat}
theorem d_hour (hN : 2000 ≤ N) (hJ : J < 512) : D_hour (INV N x y o J) (INV N x y o (J + 1)) N x y := by
  intro h ⟨v, w, A, M, pn, pc, P, lb, K, tn, tb, q⟩
  obtain ⟨p0, ob, pv, pm, pnm, ⟨cM, rS, rD, rR, wM⟩, pP, pK, pT⟩ := id q
  have y0 := p0.1
  have vw := ob.1
  have hW := pv.2.2.1
  have hpn := pP.1.1
  obtain ⟨h1, r1, e1, ex, cs1⟩ := c_remember (N := N) ob cM.1 hpn pP.1.2.1 pP.1.2.2.1 pP.1.2.2.2.1
  have ob1 := ob.shp (x := x) e1.shp
  have pv1 := pv.ex e1 (fun z z1 z2 z3 => by unfold inS at z3; omega)
  have cM1 := cM.1.ex e1 (fun z z1 z2 z3 => by unfold inS at z3; omega)
  have ez : Ex (fun z => z = x + 3) h1 (sI h1 (x + 3) 5 0) := Ex.sI rfl
  have obz := ob1.shp (x := x) ez.shp
  have pvz := pv1.ex ez (fun z z1 z2 z3 => by omega)
  have cMz := cM1.ex ez (fun z z1 z2 z3 => by omega)
  have rz : hI (sI h1 (x + 3) 5 0) (x + 3) 5 = nI 0 := by rw [hI_sI_eq, va_eq]; rfl
  have unf : f_X10_hour N x h = cl (f_X4_pass N (x + 3 + 1) v (sI h1 (x + 3) 5 0)) (fun r13 h14 => some (r13, h14)) := by
    unfold f_X10_hour
    rw [ck_p ob.k9, r1, cl_s, ck_p ob1.k9, ob1.R1, rq_s, ck_p ob1.mt.1, bd_e, ck_p obz.k9, obz.R1, rq_s, ck_p obz.mt.1, obz.mt.2.1.1, rq_s, obz.R8, rq_s, ck_p obz.st.1]
  generalize sI h1 (x + 3) 5 0 = hz' at ez obz pvz cMz rz unf
  obtain ⟨h2, r2, e2, pv2, cs2⟩ := c_pass (N := N) hN q.dj pvz obz.st cMz wM.1 (by omega)
  have t2 : Ex (fun z => z < y) h h2 := ((e1.mono (Q := fun z => z < y) (fun z hz => by unfold inS at hz; omega)).trans (ez.mono (Q := fun z => z < y) (fun z hz => by omega))).trans (e2.mono (Q := fun z => z < y) (fun z hz => by unfold inSV inS at hz; omega))
  obtain ⟨pmh, rSh, k54, rPh, ey1, -⟩ := ref_at q t2 (fun z hz => hz)
  have m2 := pmh.1
  obtain ⟨h3, s1, s2, s3, s4, s5⟩ := m_keeps (N := N) (by omega) m2 pP.1.2.1 k54 rSh rPh
  have pm3 := pmh.ex s2 (fun z z1 z2 z3 => by omega)
  have rS3 := rSh.ex s2 (by omega)
  have eq : Ex (fun z => z = y + 33) h3 (sI h3 (y + 33) 0 0) := Ex.sI rfl
  have pmq := pm3.ex eq (fun z z1 z2 z3 => by omega)
  have rSq := rS3.ex eq (by omega)
  have e0 : hI (sI h3 (y + 33) 0 0) (y + 33) = va_up (hI h3 (y + 33)) 0 0 := hI_sI_eq
  have ky : hK h2 y = 10 := by rw [t2.1.1]; exact pm.1.1
  have unf2 : f_X11_hour N y h2 = cl (f_X11_passes N y (sI h3 (y + 33) 0 0)) (fun r11 h12 => some (r11, h12)) := by
    unfold f_X11_hour
    rw [ck_p ky, bd_e, ck_p m2.1, s1, cl_s, ck_p pm3.1.1, mR_seens pm3.1, rq_s, ck_p (mK_seens pm3.1), mN_seens pm3.1, ck_p (by decide), bd_e, ck_p pmq.1.1]
  generalize sI h3 (y + 33) 0 0 = hq at eq pmq rSq e0 unf2
  obtain ⟨h4, u1, u2, u3, u4, u5, u6⟩ := m_passes (N := N) hN pmq rSq wM.1 (by omega)
  refine wp2 (r := nI (outs M.1 4)) (h1 := h2) (h2 := h4) (by rw [unf, r2, cl_s]) ky (by rw [unf2, u1, cl_s]) ?_
  have ty : Ex (fun z => y ≤ z) h2 h4 := (((Ex.sI (P := fun z => y ≤ z) (a := y) (k := 0) (v := 0) (Nat.le_refl y)).trans (s2.mono (Q := fun z => y ≤ z) (fun z hz => by omega))).trans (eq.mono (Q := fun z => y ≤ z) (fun z hz => by omega))).trans (u2.mono (Q := fun z => y ≤ z) (fun z hz => by unfold inP inM at hz; omega))
  have T : Ex (St x y) h h4 := ((((((e1.mono (Q := St x y) (fun z hz => by unfold inS at hz; unfold St; omega)).trans (ez.mono (Q := St x y) (fun z hz => by unfold St; omega))).trans (e2.mono (Q := St x y) (fun z hz => by unfold inSV inS at hz; unfold St; omega))).trans (Ex.sI (P := St x y) (a := y) (k := 0) (v := 0) (by unfold St; omega))).trans (s2.mono (Q := St x y) (fun z hz => by unfold St; omega))).trans (eq.mono (Q := St x y) (fun z hz => by unfold St; omega))).trans (u2.mono (Q := St x y) (fun z hz => by unfold inP inM at hz; unfold St; omega))
  have ex4 : hI h4 x = hI h1 x := by rw [ty.2.2.2 x (by omega), e2.2.2.2 x (by unfold inSV inS; omega), ez.2.2.2 x (by omega)]
  have hp4 : ∀ z, x + 123 ≤ z → z < x + 203 → hI h4 z = hI h1 z := fun z z1 z2 => by
    rw [ty.2.2.2 z (by omega), e2.2.2.2 z (by unfold inSV inS; omega), ez.2.2.2 z (by omega)]
  have hy54 : hI h4 y 54 = nI (min (pc + 1) 16) := by rw [u6 54 (by decide) (by decide), eq.2.2.2 y (by omega)]; exact s4
  have ip := push_c (h2 := h4) pP wM.1 e1 ex cs1 hp4 (fun k hk => by rw [ex4]) hy54 (fun i hi => by
    rw [u2.2.2.2 (y + 40) (by unfold inP inM; omega), eq.2.2.2 (y + 40) (by omega)]; exact s5 i hi)
  have r33 : hI h4 (y + 33) = va_up (hI h (y + 33)) 0 0 := by
    rw [u2.2.2.2 (y + 33) (by unfold inP inM; omega), e0, s2.2.2.2 (y + 33) (by omega), hI_sI_ne (by omega), t2.2.2.2 (y + 33) (by omega)]
  exact ⟨v, w, A, (sPass A M.1, M.2.1, (0, M.2.2.2)), (pn + 1) % 16, min (pc + 1) 16, pushP P pc M.1, lb, K, tn, tb, step_fin q (Nat.le_succ J) T (pv2.ex ty (fun z z1 z2 z3 => by omega)) (by rw [ex4, ex, va_ne (by decide), va_ne (by decide)]) (by rw [u6 1 (by decide) (by decide), eq.2.2.2 y (by omega), s3 1 (by decide), ey1]; exact pT.2.2.1.symm) (fun k hk => by rw [r33, va_ne hk]) (cs2.ex ty (fun z z1 z2 z3 => by omega)) u3 ⟨by rw [ty.2.2.2 (x + 3) (by omega), e2.2.2.2 (x + 3) (by unfold inSV inS; omega)]; exact rz, fun k hk => absurd hk (Nat.not_lt_zero k)⟩ ⟨by rw [r33, va_eq]; rfl, fun k hk => absurd hk (Nat.not_lt_zero k)⟩ wM.1.pass ⟨Nat.zero_le _, fun k hk => absurd hk (Nat.not_lt_zero k)⟩ (ip.up (Nat.le_succ J))⟩
theorem d_undo (hN2 : 2000 ≤ N) : D_undo (INV N x y o J) (INV N x y o (J + 1)) N x y := by
  intro h ⟨v, w, A, M, pn, pc, P, lb, K, tn, tb, q⟩
  obtain ⟨p0, ob, pv, pm, pnm, ⟨cM, rS, rD, rR, wM⟩, pP, pK, pT⟩ := id q
  have y0 := p0.1
  have vw := ob.1
  have hpn := pP.1.1
  have hpc := pP.1.2.1
  by_cases c0 : pc = 0
  · have q2 := q.thr 0
    obtain ⟨-, -, -, pm2, -, -, pP2, -⟩ := id q2
    refine wp2 (r := 0) (h1 := h) (h2 := sI h y 0 0) ?_ pm.1.1 ?_ q2.inv
    · unfold f_X10_undo
      rw [ck_p ob.k9, pP.1.2.2.2.1, c0, if_neg (by decide)]
    · unfold f_X11_undo
      rw [ck_p pm.1.1, bd_e, ck_p pm2.1.1, pP2.1.2.2.2.2, c0, if_pos (by decide)]
  have em : nI pc - (1 : Int32) = nI (pc - 1) := pk_sub (b := 1) (by omega)
  have e15 : ((nI pn + (16 : Int32)) - (1 : Int32)) = nI (pn + 15) := by
    rw [show nI pn + (16 : Int32) = nI (pn + 16) from nI_add pn 16]
    exact pk_sub (a := pn + 16) (b := 1) (by omega)
  -- the class
  have ea : Ex (fun z => z = x) h (sI (sI h x 14 (nI (pc - 1))) x 13 (nI ((pn + 15) % 16))) := (Ex.sI (P := fun z => z = x) rfl).trans (Ex.sI (P := fun z => z = x) rfl)
  have exa : hI (sI (sI h x 14 (nI (pc - 1))) x 13 (nI ((pn + 15) % 16))) x = va_up (va_up (hI h x) 14 (nI (pc - 1))) 13 (nI ((pn + 15) % 16)) := by rw [hI_sI_eq, hI_sI_eq]
  have oba := ob.shp (x := x) ea.shp
  have csP := (pP.2 (pc - 1) (by omega)).1
  rw [show (pn + 16 - pc + (pc - 1)) % 16 = (pn + 15) % 16 by omega] at csP
  have csa := csP.ex ea (fun z z1 z2 z3 => by omega)
  obtain ⟨h2, r2, e2, cs2⟩ := c_copy (N := N) (h := sI (sI h x 14 (nI (pc - 1))) x 13 (nI ((pn + 15) % 16))) (d := x + 3 + 1) (s := x + 123 + 5 * ((pn + 15) % 16)) (by omega) oba.st (oba.ps.2 _ (by omega)).2 csa
  have ob2 := oba.shp (x := x) e2.shp
  have cls : f_X10_undo N x h = some (1, sI h2 (x + 3) 5 0) := by
    unfold f_X10_undo
    have k1 : hK (sI h x 14 (nI (pc - 1))) x = 9 := ob.k9
    have v11 : hI (sI h x 14 (nI (pc - 1))) x 13 = nI pn := by rw [hI_sI_eq, va_ne (by decide)]; exact pP.1.2.2.1
    rw [ck_p ob.k9, pP.1.2.2.2.1, if_pos (show (1 : Int32) ≤ nI pc from nI_le (a := 1) (by omega) (by omega)), em, bd_e, ck_p k1, v11, e15, show (16 : Int32) = nI 16 from rfl, pk_rem (by omega) (by decide) (by decide), bd_e, ck_p oba.k9, oba.R1, rq_s, ck_p oba.mt.1, oba.mt.2.1.1, rq_s, oba.R3, rq_s, ck_p oba.ps.1.1, oba.ps.1.2, exa, va_eq, ck_p (nI_ix (by omega) (by decide)), ix_nI (by omega), (oba.ps.2 _ (by omega)).1, rq_s, ck_p oba.st.1, r2, cl_s, ck_p ob2.k9, ob2.R1, rq_s, ck_p ob2.mt.1, bd_e]
  have ez : Ex (fun z => z = x + 3) h2 (sI h2 (x + 3) 5 0) := Ex.sI rfl
  have rz : hI (sI h2 (x + 3) 5 0) (x + 3) 5 = nI 0 := by rw [hI_sI_eq, va_eq]; rfl
  generalize sI h2 (x + 3) 5 0 = h3 at cls ez rz
  have t3 : Ex (fun z => z < y) h h3 := ((ea.mono (Q := fun z => z < y) (fun z hz => by omega)).trans (e2.mono (Q := fun z => z < y) (fun z hz => by unfold inS at hz; omega))).trans (ez.mono (Q := fun z => z < y) (fun z hz => by omega))
  obtain ⟨pmh, rSh, k54, rPh, ey1, -⟩ := ref_at q t3 (fun z hz => hz)
  have m2 := pmh.1
  have ky : hK h3 y = 10 := by rw [t3.1.1]; exact pm.1.1
  have eg : Ex (fun z => z = y) (sI h3 y 0 0) (sI (sI h3 y 0 0) y 54 (nI (pc - 1))) := Ex.sI rfl
  have g54 : hI (sI (sI h3 y 0 0) y 54 (nI (pc - 1))) y 54 = nI (pc - 1) := by rw [hI_sI_eq, va_eq]
  have g1 : hI (sI (sI h3 y 0 0) y 54 (nI (pc - 1))) y 1 = nI tn := by rw [hI_sI_eq, va_ne (by decide)]; exact ey1
  have ref1 : f_X11_undo N y h3 = (ck (hK (sI (sI h3 y 0 0) y 54 (nI (pc - 1))) y = 10) <| rq (hR (sI (sI h3 y 0 0) y 54 (nI (pc - 1))) y 52) fun a7 => rq (hR (sI (sI h3 y 0 0) y 54 (nI (pc - 1))) y 49) fun a8 => cl (f_X11_copies N a7 ((32 : Int32) * nI (pc - 1)) a8 (0 : Int32) (sI (sI h3 y 0 0) y 54 (nI (pc - 1)))) fun r9 h10 => ck (hK h10 y = 10) <| rq (hR h10 y 45) fun a12 => ck (hK h10 a12 = 12) <| ck (0 < hN h10 a12) <| bd (sI h10 a12 0 (0 : Int32)) fun h15 => some ((1 : Int32), h15)) := by
    unfold f_X11_undo
    rw [ck_p ky, bd_e, ck_p m2.1, k54, if_neg (nI_ne0 (by omega) (by omega)), em, bd_e, g54]
  generalize sI (sI h3 y 0 0) y 54 (nI (pc - 1)) = hg at eg g54 g1 ref1
  have mg := m2.sm eg.1
  obtain ⟨h4, c1, c2, c3, c4⟩ := m_copies (N := N) (by omega) (h := hg) (a := y + 40) (c := y + 37) (b := 32 * (pc - 1)) (e := 0) (na := 512) (nc := 32) (by omega) (by omega) (by omega) (by decide) (by decide) ⟨mK_undone mg, mN_undone mg⟩ ⟨mK_s mg, mN_s mg⟩
  have c1 : f_X11_copies N (y + 40) (nI (32 * (pc - 1))) (y + 37) 0 hg = some ((), h4) := c1
  have m4 := mg.sm c2.1
  have ref2 : f_X11_undo N y h3 = some (1, sI h4 (y + 33) 0 0) := by
    rw [ref1, ck_p mg.1, mR_undone mg, rq_s, mR_s mg, rq_s, show (32 : Int32) * nI (pc - 1) = nI (32 * (pc - 1)) from pk_mul 32 _, c1, cl_s, ck_p m4.1, mR_seens m4, rq_s, ck_p (mK_seens m4), mN_seens m4, ck_p (by decide), bd_e]
  refine wp2 cls ky ref2 ?_
  have rs : RS (hI h4 (y + 37)) 0 (P (pc - 1)) := by
    have := (rPh (pc - 1) (by omega)).ex eg (by omega)
    exact this.cp c3
  have eq : Ex (fun z => z = y + 33) h4 (sI h4 (y + 33) 0 0) := Ex.sI rfl
  have e0 : hI (sI h4 (y + 33) 0 0) (y + 33) = va_up (hI h4 (y + 33)) 0 0 := hI_sI_eq
  generalize sI h4 (y + 33) 0 0 = h5 at eq e0
  have ty : Ex (fun z => z = y ∨ z = y + 33 ∨ z = y + 37) h3 h5 := (((Ex.sI (P := fun z => z = y ∨ z = y + 33 ∨ z = y + 37) (a := y) (k := 0) (v := 0) (Or.inl rfl)).trans (eg.mono (Q := fun z => z = y ∨ z = y + 33 ∨ z = y + 37) (fun z hz => by omega))).trans (c2.mono (Q := fun z => z = y ∨ z = y + 33 ∨ z = y + 37) (fun z hz => by omega))).trans (eq.mono (Q := fun z => z = y ∨ z = y + 33 ∨ z = y + 37) (fun z hz => by omega))
  have T : Ex (fun z => z = x ∨ z = x + 3 ∨ inS (x + 3 + 1) z ∨ z = y ∨ z = y + 33 ∨ z = y + 37) h h5 := (((ea.mono (Q := fun z => z = x ∨ z = x + 3 ∨ inS (x + 3 + 1) z ∨ z = y ∨ z = y + 33 ∨ z = y + 37) (fun z hz => by omega)).trans (e2.mono (Q := fun z => z = x ∨ z = x + 3 ∨ inS (x + 3 + 1) z ∨ z = y ∨ z = y + 33 ∨ z = y + 37) (fun z hz => Or.inr (Or.inr (Or.inl hz))))).trans (ez.mono (Q := fun z => z = x ∨ z = x + 3 ∨ inS (x + 3 + 1) z ∨ z = y ∨ z = y + 33 ∨ z = y + 37) (fun z hz => by omega))).trans (ty.mono (Q := fun z => z = x ∨ z = x + 3 ∨ inS (x + 3 + 1) z ∨ z = y ∨ z = y + 33 ∨ z = y + 37) (fun z hz => by omega))
  have ex5 : hI h5 x = va_up (va_up (hI h x) 14 (nI (pc - 1))) 13 (nI ((pn + 15) % 16)) := by
    rw [ty.2.2.2 x (by omega), ez.2.2.2 x (by omega), e2.2.2.2 x (by unfold inS; omega), exa]
  have ey5 : hI h5 y = hI hg y := by rw [eq.2.2.2 y (by omega), c2.2.2.2 y (by omega)]
  have r33 : hI h5 (y + 33) = va_up (hI h (y + 33)) 0 0 := by
    rw [e0, c2.2.2.2 (y + 33) (by omega), eg.2.2.2 (y + 33) (by omega), hI_sI_ne (by omega), t3.2.2.2 (y + 33) (by omega)]
  refine ⟨v, w, A, (P (pc - 1), M.2.1, (0, M.2.2.2)), (pn + 15) % 16, pc - 1, P, lb, K, tn, tb, step_fin q (Nat.le_succ J) (T.mono (Q := St x y) (fun z hz => by unfold inS at hz; unfold St; omega)) (pv.ex T (fun z z1 z2 z3 => by unfold inS at z3; omega)) (by rw [ex5, va_ne (by decide), va_ne (by decide)]) (by rw [ey5, g1]; exact pT.2.2.1.symm) (fun k hk => by rw [r33, va_ne hk]) ((cs2.ex ez (fun z z1 z2 z3 => by omega)).ex ty (fun z z1 z2 z3 => by omega)) (rs.ex eq (by omega)) ⟨by rw [ty.2.2.2 (x + 3) (by omega)]; exact rz, fun k hk => absurd hk (Nat.not_lt_zero k)⟩ ⟨by rw [r33, va_eq]; rfl, fun k hk => absurd hk (Nat.not_lt_zero k)⟩ ((pP.2 (pc - 1) (by omega)).2.2.up (Nat.le_succ J)) ⟨Nat.zero_le _, fun k hk => absurd hk (Nat.not_lt_zero k)⟩ ⟨⟨by omega, by omega, by rw [ex5, va_eq], by rw [ex5, va_ne (by decide), va_eq], by rw [ey5]; exact g54⟩, fun i hi => ?_⟩⟩
  obtain ⟨s1, s2, s3⟩ := pP.2 i (by omega)
  refine ⟨?_, s2.ex T (by unfold inS; omega), s3.up (Nat.le_succ J)⟩
  rw [show ((pn + 15) % 16 + 16 - (pc - 1) + i) % 16 = (pn + 16 - pc + i) % 16 by omega]
  exact s1.ex T (fun z z1 z2 z3 => by unfold inS at z3; omega)
theorem nI_m1 {n : Nat} (h : n ≤ 1000) : (nI n - (1 : Int32)).toInt = (n : Int) - 1 := by
  by_cases c : n = 0
  · subst c; decide
  · rw [show nI n - (1 : Int32) = nI (n - 1) from pk_sub (b := 1) (by omega), nI_toInt (by omega)]
    omega
theorem sOrN {c : Int32} {n : Nat} (h : n ≤ 1000) : (¬ c < (-1 : Int32) ∧ ¬ (nI n - (1 : Int32)) < c) ↔ (c = -1 ∨ (¬ c < 0 ∧ ¬ nI n ≤ c)) := by
  rw [fa_lt, fa_lt, fa_lt, fa_le, fa_eq, nI_m1 h, nI_toInt (by omega), show (-1 : Int32).toInt = -1 by decide, show (0 : Int32).toInt = 0 by decide]
  omega
theorem c_sOrN {v w : Nat} {A : AV} {h : PH} (ob : OB h x v w) (pv : VA h v A) (c : Int32) : f_X10_isSignOrNone N x c h = some (yes (c = -1 ∨ (¬ c < 0 ∧ ¬ nI (aC A 3) ≤ c)), h) := by
  unfold f_X10_isSignOrNone
  by_cases e : c = -1
  · rw [if_pos e, yesT (Or.inl e)]
  · rw [if_neg e, ck_p ob.k9, ob.R8, rq_s, ck_p pv.1.1, c_has3 pv, cl_s]
    by_cases e2 : ¬ c < 0 ∧ ¬ nI (aC A 3) ≤ c
    · rw [yesT e2, if_neg one0, yesT (Or.inr e2)]
    · rw [yesF e2, if_pos rfl, yesF (fun z => z.elim e e2)]
theorem sCase {c : Int32} {n : Nat} (hn : n ≤ 1000) (h : c = -1 ∨ (¬ c < 0 ∧ ¬ nI n ≤ c)) : c = -1 ∨ ∃ s, s < n ∧ c = nI s := by
  rcases h with h | h
  · exact Or.inl h
  · exact Or.inr (told hn h)
theorem d_read (hN : 2000 ≤ N) : D_read (INV N x y o J) (INV N x y o (J + 1)) N x y := by
  intro a b c h ⟨v, w, A, M, pn, pc, P, lb, K, tn, tb, q⟩
  obtain ⟨p0, ob, pv, pm, pnm, ⟨cM, rS, rD, rR, wM⟩, pP, pK, pT⟩ := id q
  have y0 := p0.1
  have vw := ob.1
  have hW := pv.2.2.1
  have h6 := hW.1
  have q2 := q.thr 0
  obtain ⟨-, -, -, pm2, -, ⟨-, rS2, -, rR2, wM2⟩, -⟩ := id q2
  have m2 := pm2.1
  have no : f_X10_read N x a b c h = some (0, h) → f_X11_read N y a b c h = some (0, sI h y 0 0) → wp (f_X10_read N x a b c h) (fun r h1 => hK h1 y = 10 ∧ wp (f_X11_read N y a b c h1) (fun r2 h2 => r = r2 ∧ INV N x y o (J + 1) h2)) := fun e1 e2 => wp2 e1 pm.1.1 e2 q2.inv
  have sn := sOrN (c := c) (n := aC A 3) (by omega)
  by_cases c1 : ¬ a < 0 ∧ ¬ nI (aC A 4) ≤ a
  rotate_left
  · refine no ?_ ?_
    · unfold f_X10_read
      rw [ck_p ob.k9, ob.R8, rq_s, ck_p pv.1.1, c_has4 pv, cl_s, yesF c1, if_pos rfl]
    · unfold f_X11_read
      rw [ck_p pm.1.1, bd_e]
      by_cases d : a < 0
      · rw [if_pos d]
      · rw [if_neg d, ck_p m2.1, mR_valley m2, rq_s, ck_p (mK_valley m2), mN_valley m2, ck_p (by decide), pm2.2.1.1 4 (by decide), if_pos (Classical.byContradiction (fun z => c1 ⟨d, z⟩))]
  by_cases c2 : ¬ b < 0 ∧ ¬ nI (aC A 1) ≤ b
  rotate_left
  · refine no ?_ ?_
    · unfold f_X10_read
      rw [ck_p ob.k9, ob.R8, rq_s, ck_p pv.1.1, c_has4 pv, cl_s, yesT c1, if_neg one0, ck_p ob.k9, ob.R8, rq_s, ck_p pv.1.1, c_has1 pv, cl_s, yesF c2, if_pos rfl]
    · unfold f_X11_read
      rw [ck_p pm.1.1, bd_e, if_neg c1.1, ck_p m2.1, mR_valley m2, rq_s, ck_p (mK_valley m2), mN_valley m2, ck_p (by decide), pm2.2.1.1 4 (by decide), if_neg c1.2, m_isFlue m2 pm2.2.1, cl_s, yesF c2, if_pos rfl]
  by_cases c3 : c = -1 ∨ (¬ c < 0 ∧ ¬ nI (aC A 3) ≤ c)
  rotate_left
  · refine no ?_ ?_
    · unfold f_X10_read
      rw [ck_p ob.k9, ob.R8, rq_s, ck_p pv.1.1, c_has4 pv, cl_s, yesT c1, if_neg one0, ck_p ob.k9, ob.R8, rq_s, ck_p pv.1.1, c_has1 pv, cl_s, yesT c2, if_neg one0, ck_p ob.k9, c_sOrN ob pv, cl_s, yesF c3, if_pos rfl]
    · unfold f_X11_read
      rw [ck_p pm.1.1, bd_e, if_neg c1.1, ck_p m2.1, mR_valley m2, rq_s, ck_p (mK_valley m2), mN_valley m2, ck_p (by decide), pm2.2.1.1 4 (by decide), if_neg c1.2, m_isFlue m2 pm2.2.1, cl_s, yesT c2, if_neg one0, ck_p m2.1, mR_valley m2, rq_s, ck_p (mK_valley m2), mN_valley m2, ck_p (by decide), pm2.2.1.1 3 (by decide), m_within, cl_s, yesF (fun z => c3 (sn.mp z)), if_pos rfl]
  have sc := sCase (by omega) c3
  obtain ⟨a', ha, rfl⟩ := told (by omega) c1
  obtain ⟨b', hb, rfl⟩ := told (by omega) c2
  obtain ⟨S, D, r, who, flu, sig⟩ := M
  have hr : r ≤ 8 := wM.2.2.1
  have er : hI h (x + 3) 5 = nI r := cM.2.2.1
  have er2 : hI (sI h y 0 0) (y + 33) 0 = nI r := rR2.1
  by_cases c4 : r = 8
  · refine no ?_ ?_
    · unfold f_X10_read f_X2_addRead
      rw [ck_p ob.k9, ob.R8, rq_s, ck_p pv.1.1, c_has4 pv, cl_s, yesT c1, if_neg one0, ck_p ob.k9, ob.R8, rq_s, ck_p pv.1.1, c_has1 pv, cl_s, yesT c2, if_neg one0, ck_p ob.k9, c_sOrN ob pv, cl_s, yesT c3, if_neg one0, ck_p ob.k9, ob.R1, rq_s, ck_p ob.mt.1, ck_p ob.mt.1, er, c4, if_neg (by decide), cl_s, ck_p (Or.inl rfl)]
    · unfold f_X11_read
      rw [ck_p pm.1.1, bd_e, if_neg c1.1, ck_p m2.1, mR_valley m2, rq_s, ck_p (mK_valley m2), mN_valley m2, ck_p (by decide), pm2.2.1.1 4 (by decide), if_neg c1.2, m_isFlue m2 pm2.2.1, cl_s, yesT c2, if_neg one0, ck_p m2.1, mR_valley m2, rq_s, ck_p (mK_valley m2), mN_valley m2, ck_p (by decide), pm2.2.1.1 3 (by decide), m_within, cl_s, yesT (sn.mpr c3), if_neg one0, ck_p m2.1, mR_seens m2, rq_s, ck_p (mK_seens m2), mN_seens m2, ck_p (by decide), er2, c4, if_pos (show nI 8 = (8 : Int32) from rfl)]
  have i8 : inb (nI r) 8 := nI_ix (by omega) (by omega)
  have i40 : inb (nI r) 40 := nI_ix (by omega) (by omega)
  have xr : ix (nI r) = r := ix_nI (by omega)
  -- the class writes
  obtain ⟨h4, cls, eC, f0, f1, f2, f3⟩ : ∃ h4, f_X10_read N x (nI a') (nI b') c h = some (1, h4) ∧ Ex (fun z => z = x + 3 ∨ (x + 11 ≤ z ∧ z ≤ x + 13)) h h4 ∧ hI h4 (x + 3) = va_up (hI h (x + 3)) 5 (nI (r + 1)) ∧ hI h4 (x + 3 + 8) = va_up (hI h (x + 3 + 8)) r (nI a') ∧ hI h4 (x + 3 + 9) = va_up (hI h (x + 3 + 9)) r (nI b') ∧ hI h4 (x + 3 + 10) = va_up (hI h (x + 3 + 10)) r c := by
    have m0 := ob.mt
    have m1 := m0.sm (Sm.sI (h := h) (a := x + 3 + 8) (k := r) (v := nI a'))
    have m2' := m1.sm (Sm.sI (h := sI h (x + 3 + 8) r (nI a')) (a := x + 3 + 9) (k := r) (v := nI b'))
    have m3 := m2'.sm (Sm.sI (h := sI (sI h (x + 3 + 8) r (nI a')) (x + 3 + 9) r (nI b')) (a := x + 3 + 10) (k := r) (v := c))
    have w1 : hI (sI h (x + 3 + 8) r (nI a')) (x + 3) 5 = nI r := by rw [hI_sI_ne (by omega)]; exact er
    have w2 : hI (sI (sI h (x + 3 + 8) r (nI a')) (x + 3 + 9) r (nI b')) (x + 3) 5 = nI r := by rw [hI_sI_ne (by omega)]; exact w1
    have w3 : hI (sI (sI (sI h (x + 3 + 8) r (nI a')) (x + 3 + 9) r (nI b')) (x + 3 + 10) r c) (x + 3) 5 = nI r := by rw [hI_sI_ne (by omega)]; exact w2
    refine ⟨sI (sI (sI (sI h (x + 3 + 8) r (nI a')) (x + 3 + 9) r (nI b')) (x + 3 + 10) r c) (x + 3) 5 (nI (r + 1)), ?_, (((Ex.sI (by omega)).trans (Ex.sI (by omega))).trans (Ex.sI (by omega))).trans (Ex.sI (by omega)), ?_, ?_, ?_, ?_⟩
    · unfold f_X10_read f_X2_addRead
      rw [ck_p ob.k9, ob.R8, rq_s, ck_p pv.1.1, c_has4 pv, cl_s, yesT c1, if_neg one0, ck_p ob.k9, ob.R8, rq_s, ck_p pv.1.1, c_has1 pv, cl_s, yesT c2, if_neg one0, ck_p ob.k9, c_sOrN ob pv, cl_s, yesT c3, if_neg one0, ck_p ob.k9, ob.R1, rq_s, ck_p m0.1, ck_p m0.1, er, if_pos (show nI r < (8 : Int32) from nI_lt (b := 8) (by omega) (by decide)), m0.2.1.2.2.1, rq_s, ck_p m0.2.2.2.2.1.1, m0.2.2.2.2.1.2, ck_p i8, xr, bd_e, ck_p m1.1, m1.2.1.2.2.2.1, rq_s, ck_p m1.2.2.2.2.2.1.1, m1.2.2.2.2.2.1.2, w1, ck_p i8, xr, bd_e, ck_p m2'.1, m2'.2.1.2.2.2.2, rq_s, ck_p m2'.2.2.2.2.2.2.1, m2'.2.2.2.2.2.2.2, w2, ck_p i8, xr, bd_e, ck_p m3.1, w3, nI_1, bd_e, cl_s, ck_p (Or.inr rfl)]
    · rw [hI_sI_eq, hI_sI_ne (by omega), hI_sI_ne (by omega), hI_sI_ne (by omega)]
    · rw [hI_sI_ne (by omega), hI_sI_ne (by omega), hI_sI_ne (by omega), hI_sI_eq]
    · rw [hI_sI_ne (by omega), hI_sI_ne (by omega), hI_sI_eq, hI_sI_ne (by omega)]
    · rw [hI_sI_ne (by omega), hI_sI_eq, hI_sI_ne (by omega), hI_sI_ne (by omega)]
  have t4 : Ex (fun z => z < y) h h4 := eC.mono (fun z hz => by omega)
  obtain ⟨pmh, rSh, k54, rPh, ey1, -⟩ := ref_at q t4 (fun z hz => hz)
  have mh := pmh.1
  have ky : hK h4 y = 10 := by rw [t4.1.1]; exact pm.1.1
  have nh : ∀ k, 1 ≤ k → hI (sI h4 y 0 0) (y + k) = hI h (y + k) := fun k hk => by rw [hI_sI_ne (by omega), t4.2.2.2 (y + k) (by omega)]
  have erh : hI (sI h4 y 0 0) (y + 33) 0 = nI r := by rw [nh 33 (by decide)]; exact rR.1
  have yh : Ex (fun z => z = y) h4 (sI h4 y 0 0) := Ex.sI rfl
  obtain ⟨h5, ref, eR, g0, g1, g2, g3⟩ : ∃ h5, f_X11_read N y (nI a') (nI b') c h4 = some (1, h5) ∧ Ex (fun z => y + 33 ≤ z ∧ z ≤ y + 36) (sI h4 y 0 0) h5 ∧ hI h5 (y + 33) = va_up (hI (sI h4 y 0 0) (y + 33)) 0 (nI (r + 1)) ∧ hI h5 (y + 34) = va_up (hI (sI h4 y 0 0) (y + 34)) r (nI a') ∧ hI h5 (y + 35) = va_up (hI (sI h4 y 0 0) (y + 35)) r (nI b') ∧ hI h5 (y + 36) = va_up (hI (sI h4 y 0 0) (y + 36)) r c := by
    unfold f_X11_read
    rw [ck_p ky, bd_e, if_neg c1.1, ck_p mh.1, mR_valley mh, rq_s, ck_p (mK_valley mh), mN_valley mh, ck_p (by decide), pmh.2.1.1 4 (by decide), if_neg c1.2, m_isFlue mh pmh.2.1, cl_s, yesT c2, if_neg one0, ck_p mh.1, mR_valley mh, rq_s, ck_p (mK_valley mh), mN_valley mh, ck_p (by decide), pmh.2.1.1 3 (by decide), m_within, cl_s, yesT (sn.mpr c3), if_neg one0, ck_p mh.1, mR_seens mh, rq_s, ck_p (mK_seens mh), mN_seens mh, ck_p (by decide), erh, if_neg (show ¬ nI r = (8 : Int32) from fun z => c4 ((nI_eq (b := 8) (by omega) (by decide)).mp z))]
    generalize sI h4 y 0 0 = h0 at mh erh
    have m1 := mh.sm (Sm.sI (h := h0) (a := y + 34) (k := r) (v := nI a'))
    have m2' := m1.sm (Sm.sI (h := sI h0 (y + 34) r (nI a')) (a := y + 35) (k := r) (v := nI b'))
    have m3 := m2'.sm (Sm.sI (h := sI (sI h0 (y + 34) r (nI a')) (y + 35) r (nI b')) (a := y + 36) (k := r) (v := c))
    have w1 : hI (sI h0 (y + 34) r (nI a')) (y + 33) 0 = nI r := by rw [hI_sI_ne (by omega)]; exact erh
    have w2 : hI (sI (sI h0 (y + 34) r (nI a')) (y + 35) r (nI b')) (y + 33) 0 = nI r := by rw [hI_sI_ne (by omega)]; exact w1
    have w3 : hI (sI (sI (sI h0 (y + 34) r (nI a')) (y + 35) r (nI b')) (y + 36) r c) (y + 33) 0 = nI r := by rw [hI_sI_ne (by omega)]; exact w2
    refine ⟨sI (sI (sI (sI h0 (y + 34) r (nI a')) (y + 35) r (nI b')) (y + 36) r c) (y + 33) 0 (nI (r + 1)), ?_, (((Ex.sI ⟨by omega, by omega⟩).trans (Ex.sI ⟨by omega, by omega⟩)).trans (Ex.sI ⟨by omega, by omega⟩)).trans (Ex.sI ⟨by omega, by omega⟩), ?_, ?_, ?_, ?_⟩
    · rw [mR_seenWho mh, rq_s, rq_s, ck_p (mK_seens mh), mN_seens mh, ck_p (by decide), ck_p (mK_seenWho mh), mN_seenWho mh, erh, ck_p i40, xr, bd_e, ck_p m1.1, mR_seenFlue m1, rq_s, mR_seens m1, rq_s, ck_p (mK_seens m1), mN_seens m1, ck_p (by decide), ck_p (mK_seenFlue m1), mN_seenFlue m1, w1, ck_p i40, xr, bd_e, ck_p m2'.1, mR_seenSign m2', rq_s, mR_seens m2', rq_s, ck_p (mK_seens m2'), mN_seens m2', ck_p (by decide), ck_p (mK_seenSign m2'), mN_seenSign m2', w2, ck_p i40, xr, bd_e, ck_p m3.1, mR_seens m3, rq_s, ck_p (mK_seens m3), mN_seens m3, ck_p (by decide), w3, nI_1, bd_e]
    · rw [hI_sI_eq, hI_sI_ne (by omega), hI_sI_ne (by omega), hI_sI_ne (by omega)]
    · rw [hI_sI_ne (by omega), hI_sI_ne (by omega), hI_sI_ne (by omega), hI_sI_eq]
    · rw [hI_sI_ne (by omega), hI_sI_ne (by omega), hI_sI_eq, hI_sI_ne (by omega)]
    · rw [hI_sI_ne (by omega), hI_sI_eq, hI_sI_ne (by omega), hI_sI_ne (by omega)]
  refine wp2 cls ky ref ?_
  rw [nh 33 (by decide)] at g0
  rw [nh 34 (by decide)] at g1
  rw [nh 35 (by decide)] at g2
  rw [nh 36 (by decide)] at g3
  have T : Ex (fun z => z = x + 3 ∨ (x + 11 ≤ z ∧ z ≤ x + 13) ∨ z = y ∨ (y + 33 ≤ z ∧ z ≤ y + 36)) h h5 := ((eC.mono (Q := fun z => z = x + 3 ∨ (x + 11 ≤ z ∧ z ≤ x + 13) ∨ z = y ∨ (y + 33 ≤ z ∧ z ≤ y + 36)) (fun z hz => by omega)).trans (yh.mono (Q := fun z => z = x + 3 ∨ (x + 11 ≤ z ∧ z ≤ x + 13) ∨ z = y ∨ (y + 33 ≤ z ∧ z ≤ y + 36)) (fun z hz => by omega))).trans (eR.mono (Q := fun z => z = x + 3 ∨ (x + 11 ≤ z ∧ z ≤ x + 13) ∨ z = y ∨ (y + 33 ≤ z ∧ z ≤ y + 36)) (fun z hz => by omega))
  have kk : Kx x (fun z => ¬ (z = x + 3 ∨ (x + 11 ≤ z ∧ z ≤ x + 13) ∨ z = y ∨ (y + 33 ≤ z ∧ z ≤ y + 36))) h h5 := T.kx (fun z hz => hz)
  have ty : Ex (fun z => y ≤ z) h4 h5 := (yh.mono (Q := fun z => y ≤ z) (fun z hz => by omega)).trans (eR.mono (Q := fun z => y ≤ z) (fun z hz => by omega))
  have ey : hI h5 y = hI (sI h4 y 0 0) y := eR.2.2.2 y (by omega)
  refine ⟨v, w, A, (S, D, (r + 1, va_up who r a', va_up flu r b', va_up sig r c)), pn, pc, P, lb, K, tn, tb, INVq.up (Nat.le_succ J) (INVq.step (kk.mono (fun z hz => by unfold Kv at hz; omega)) q ?_ (pP.kx kk (fun k _ => by rw [T.2.2.2 x (by omega)]) (by rw [ey, k54]; exact pP.1.2.2.2.2.symm) (fun z hz => by omega)) ?_ (pT.kx kk (by rw [T.2.2.2 (x + 1) (by omega)]) (by rw [ey, ey1]; exact pT.2.2.1.symm) (fun z hz => by omega)))⟩
  · refine ⟨⟨cM.1.kx kk (fun z z1 z2 => by omega), cM.2.1.kx kk (fun z z1 z2 => by omega), ?_, fun k hk => ?_⟩, rS.kx kk (by omega), rD.kx kk (fun z z1 z2 => by omega), ⟨?_, fun k hk => ?_⟩, wM.1, wM.2.1, ?_, fun k hk => ?_⟩
    · rw [ty.2.2.2 (x + 3) (by omega), f0, va_eq]
    · have hk : k < r + 1 := hk
      show hI h5 (x + 3 + 8) k = nI (va_up who r a' k) ∧ hI h5 (x + 3 + 9) k = nI (va_up flu r b' k) ∧ hI h5 (x + 3 + 10) k = va_up sig r c k
      rw [ty.2.2.2 (x + 3 + 8) (by omega), ty.2.2.2 (x + 3 + 9) (by omega), ty.2.2.2 (x + 3 + 10) (by omega), f1, f2, f3]
      by_cases e : k = r
      · rw [e, va_eq, va_eq, va_eq, va_eq, va_eq, va_eq]; exact ⟨rfl, rfl, rfl⟩
      · rw [va_ne e, va_ne e, va_ne e, va_ne e, va_ne e, va_ne e]; exact cM.2.2.2 k (show k < r by omega)
    · rw [g0, va_eq]
    · have hk : k < r + 1 := hk
      show hI h5 (y + 34) (8 * 0 + k) = nI (va_up who r a' k) ∧ hI h5 (y + 35) (8 * 0 + k) = nI (va_up flu r b' k) ∧ hI h5 (y + 36) (8 * 0 + k) = va_up sig r c k
      rw [g1, g2, g3, show 8 * 0 + k = k by omega]
      by_cases e : k = r
      · rw [e, va_eq, va_eq, va_eq, va_eq, va_eq, va_eq]; exact ⟨rfl, rfl, rfl⟩
      · rw [va_ne e, va_ne e, va_ne e, va_ne e, va_ne e, va_ne e]
        have := rR.2 k (show k < r by omega)
        rw [show 8 * 0 + k = k by omega] at this
        exact this
    · show r + 1 ≤ 8
      omega
    · have hk : k < r + 1 := hk
      show va_up who r a' k < aC A 4 ∧ va_up flu r b' k < aC A 1 ∧ (va_up sig r c k = -1 ∨ ∃ s, s < aC A 3 ∧ va_up sig r c k = nI s)
      by_cases e : k = r
      · rw [e, va_eq, va_eq, va_eq]; exact ⟨ha, hb, sc⟩
      · rw [va_ne e, va_ne e, va_ne e]; exact wM.2.2.2 k (show k < r by omega)
  · refine ⟨by rw [T.2.2.2 x (by omega)]; exact pK.1, fun i hi => ?_⟩
    obtain ⟨s1, s2⟩ := pK.2 i hi
    refine ⟨by rw [T.2.2.2 (y + 41) (by omega)]; exact s1, fun l => ?_⟩
    obtain ⟨t1, t2, t3, t5, t6⟩ := s2 l
    refine ⟨t1.kx kk (fun z z1 z2 => by omega), t2.kx kk (by omega), t3.kx kk (fun z z1 z2 => by omega), ⟨by rw [g0, va_ne (by omega)]; exact t5.1, fun k hk => ?_⟩, t6⟩
    rw [g1, g2, g3, va_ne (by omega), va_ne (by omega), va_ne (by omega)]
    exact t5.2 k hk
end DW
