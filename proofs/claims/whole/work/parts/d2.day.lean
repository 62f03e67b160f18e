/-! day: both sides read it and keep it. -/
section DAY
variable {N x y o J v w pn pc tn : Nat} {h : PH} {A : AV} {M : AM} {P : Nat → AS} {lb : Nat → Bool} {K : Nat → AM} {tb : Nat → Nat}
theorem NM.nm (p : NM h v y A) : ∃ nm : Nat → Nat → Nat, ∀ k i, k < 5 → i < aC A k → Wrd (nm k i) ∧ hJ h (v + 2) (6 * k + i) = lN (nm k i) ∧ hJ h (y + 3) (fN k + i) = lN (u27 (nm k i)) := by
  have q : ∀ k i, ∃ c, k < 5 → i < aC A k → Wrd c ∧ hJ h (v + 2) (6 * k + i) = lN c ∧ hJ h (y + 3) (fN k + i) = lN (u27 c) := fun k i => by
    by_cases hk : k < 5
    · by_cases hi : i < aC A k
      · obtain ⟨n, c, n1, n8, h3, e1, e2⟩ := p k i hk hi
        have wc : Wrd c := ⟨n, n1, n8, h3⟩
        exact ⟨c, fun _ _ => ⟨wc, e1, by rw [Wrd.u h3 n8]; exact e2⟩⟩
      · exact ⟨0, fun _ w => absurd w hi⟩
    · exact ⟨0, fun w => absurd w hk⟩
  exact ⟨fun k i => Classical.choose (q k i), fun k i => Classical.choose_spec (q k i)⟩
theorem aC_mk (W : WV A) {k : Nat} (hk : k < 5) : aC A k ≤ mk5 k := by
  obtain ⟨⟨w0, w1, w2, w3, w4, w5⟩, -⟩ := W
  rcases (show k = 0 ∨ k = 1 ∨ k = 2 ∨ k = 3 ∨ k = 4 by omega) with rfl | rfl | rfl | rfl | rfl
  · exact w0
  · exact w1
  · exact w2
  · exact w3
  · exact w4
theorem NmM.kx {cnt : Nat → Nat} {nm : Nat → Nat → Nat} {r : Nat} {Q : Nat → Prop} {h' : PH} (g : Kx x Q h h') (h1 : Q (y + 2)) (h2 : Q (y + 3)) (l : y + 48 ≤ hz h) (n : x + 43 ≤ y) (q : NmM h y r cnt nm) : NmM h' y r cnt nm := ⟨q.1.shp g.1 l n, fun k hk => ⟨(q.2 k hk).1, by rw [(g.2 _ h1).1]; exact (q.2 k hk).2.1, fun i hi => ⟨((q.2 k hk).2.2 i hi).1, by rw [(g.2 _ h2).2]; exact ((q.2 k hk).2.2 i hi).2⟩⟩⟩
theorem RD.e {h' : PH} {sl : Nat} {D : AD} (e : ∀ j, 27 ≤ j → j ≤ 32 → hI h' (y + j) = hI h (y + j)) (r : RD h y sl D) : RD h' y sl D := by
  unfold RD at r ⊢
  rw [e 27 (by decide) (by decide), e 28 (by decide) (by decide), e 29 (by decide) (by decide), e 30 (by decide) (by decide), e 31 (by decide) (by decide), e 32 (by decide) (by decide)]
  exact r
theorem Dk.thr {ha h' : PH} (a : Dk y h ha) (b : Dk y (sI ha y 1 0) h') : Sm h h' ∧ hz h' = hz h ∧ (∀ z, z ≠ y → (z < y + 27 ∨ y + 32 < z) → hI h' z = hI h z ∧ hJ h' z = hJ h z) ∧ hI h' y 1 = 0 ∧ hI h' y 54 = hI h y 54 ∧ ∀ sl D, sl < 5 → D.1 ≤ 40 → RD h y sl D → RD h' y sl D := by
  refine ⟨(a.1.trans Sm.sI).trans b.1, b.2.1.trans a.2.1, fun z hz hz2 => ⟨funext fun k => ?_, ?_⟩, ?_, ?_, fun sl D hs hn r => ?_⟩
  · rw [b.2.2.2.1 z k hz (by omega), hI_sI_ne hz, a.2.2.2.1 z k hz (by omega)]
  · exact (b.2.2.1 z hz).trans (a.2.2.1 z hz)
  · rw [b.2.2.2.2 1 (Or.inl rfl), hI_sI_eq, va_eq]
  · rw [b.2.2.2.2 54 (Or.inr rfl), hI_sI_eq, va_ne (by decide), a.2.2.2.2 54 (Or.inr rfl)]
  · have r1 : RD ha y sl D := r.dk a hs hn
    have r2 : RD (sI ha y 1 0) y sl D := r1.e (fun j j1 j2 => hI_sI_ne (by omega))
    exact r2.dk b hs hn
def kDy (x y z : Nat) : Prop := z ≠ x + 1 ∧ z ≠ x + 21 ∧ z ≠ x + 22 ∧ z ≠ x + 9 ∧ z ≠ x + 10 ∧ z ≠ y ∧ (z < y + 27 ∨ y + 32 < z)
theorem dd_end {h' : PH} (q : INVq N x y o J h v w A M pn pc P lb K tn tb) (g : Kx x (kDy x y) h h') (e1 : hI h' (x + 1) 1 = 0) (e2 : hI h' y 1 = 0) (e3 : hI h' y 54 = hI h y 54) (rd : ∀ sl D, 1 ≤ sl → sl < 5 → D.1 ≤ 40 → RD h y sl D → RD h' y sl D) {D : AD} (cd : CD h' (x + 3 + 6) D) (r0 : RD h' y 0 D) (wd : WD A D) : INV N x y o (J + 1) h' := by
  obtain ⟨p0, ob, pv, pm, pnm, ⟨⟨m1, m2, m3⟩, m4, m5, m6, ⟨m7, m8, m9⟩⟩, pP, pK, pT⟩ := id q
  have y0 := p0.1
  have vw := ob.1
  have ex : hI h' x = hI h x := (g.2 x (by unfold kDy; omega)).1
  refine ⟨v, w, A, (M.1, D, M.2.2), pn, pc, P, lb, K, 0, tb, INVq.step (J' := J + 1) (g.mono (fun z hz => by unfold Kv at hz; unfold kDy; omega)) q ⟨⟨m1.kx g (fun z z1 z2 => by unfold kDy; omega), cd, ?_⟩, m4.kx g (by unfold kDy; omega), r0, m6.kx g (fun z z1 z2 => by unfold kDy; omega), ⟨m7.up (Nat.le_succ J), wd, m9⟩⟩ ((pP.up (Nat.le_succ J)).kx g (fun k _ => by rw [ex]) e3 (fun z hz => by unfold kDy; omega)) ⟨by rw [ex]; exact pK.1, fun i hi => ?_⟩ ⟨Nat.zero_le _, e1, e2, fun k hk => absurd hk (Nat.not_lt_zero k)⟩⟩
  · unfold CR at m3 ⊢
    rw [(g.2 (x + 3) (by unfold kDy; omega)).1, (g.2 (x + 3 + 8) (by unfold kDy; omega)).1, (g.2 (x + 3 + 9) (by unfold kDy; omega)).1, (g.2 (x + 3 + 10) (by unfold kDy; omega)).1]
    exact m3
  · obtain ⟨k1, k2⟩ := pK.2 i hi
    refine ⟨by rw [(g.2 (y + 41) (by unfold kDy; omega)).1]; exact k1, fun l => ?_⟩
    obtain ⟨t1, t2, t3, t4, t5⟩ := k2 l
    exact ⟨t1.kx g (fun z z1 z2 => by unfold kDy; omega), t2.kx g (by unfold kDy; omega), rd (1 + i) _ (by omega) (by omega) t5.2.1.1 t3, t4.kx g (fun z z1 z2 => by unfold kDy; omega), t5.up (Nat.le_succ J)⟩
theorem d_day (hB : 2001 ≤ N) : D_day (INV N x y o J) (INV N x y o (J + 1)) N x y := by
  intro h ⟨v, w, A, M, pn, pc, P, lb, K, tn, tb, q⟩
  obtain ⟨p0, ob, pv, pm, pnm, pM, pP, pK, pT⟩ := id q
  have y0 := p0.1
  have z0 := p0.2.2.1
  have z1 := p0.2.1
  have vw := ob.1
  have W := pv.2.2.1
  obtain ⟨nm, hnm⟩ := pnm.nm
  have qC : NmC h v (aC A) nm := ⟨ob.vl, fun k hk => ⟨aC_mk W hk, pv.2.1.1 k hk, fun i hi => ⟨(hnm k i hk hi).1, (hnm k i hk hi).2.1⟩⟩⟩
  have qM : NmM h y 0 (aC A) nm := ⟨pm.1, fun k hk => ⟨aC_mk W hk, by rw [Nat.mul_zero, Nat.zero_add]; exact pm.2.1.1 k (by omega), fun i hi => ⟨(hnm k i hk hi).1, by rw [Nat.mul_zero, Nat.zero_add]; exact (hnm k i hk hi).2.2⟩⟩⟩
  obtain ⟨h1, a1, a2, a3, a4⟩ := z_readFrom (N := N) (v := v) (by omega) (by omega) (by omega) qC ob.sd (it_tb p0 ob pT)
  have l1 : (rdD (tn, tb) (aC A) nm 41 ((0, 0), DA0)).1.1 ≤ 16100 := a3.2.2.1
  have t8 : hI h1 (x + 1) 8 = nI (rdD (tn, tb) (aC A) nm 41 ((0, 0), DA0)).1.1 := a3.2.2.2.1
  have ob1 := ob.shp a2.1
  obtain ⟨h2, gd⟩ : ∃ h2, h2 = sI h1 (x + 1) 1 0 := ⟨_, rfl⟩
  have tk : Kx x (fun z => z ≠ x + 1) h1 h2 := by rw [gd]; exact tkx
  have ob2 := ob1.shp tk.1
  have k2 : Kx x (k1D x) h h2 := a2.trans (tk.mono k1D_m)
  have f1 : hI h2 (x + 1) = va_up (hI h1 (x + 1)) 1 0 := by rw [gd, hI_sI_eq]
  have kc : hK h2 (x + 1) = 5 := ob2.tp.1
  have ec : f_X10_day N x h = (if nI (rdD (tn, tb) (aC A) nm 41 ((0, 0), DA0)).1.1 = 0 then cl (f_X0_copy N (x + 3 + 6) (x + 21) h2) (fun r19 h20 => some (nI (rdD (tn, tb) (aC A) nm 41 ((0, 0), DA0)).1.1, h20)) else some (nI (rdD (tn, tb) (aC A) nm 41 ((0, 0), DA0)).1.1, h2)) := by
    unfold f_X10_day f_X5_close
    rw [ck_p ob.k9, ob.R5, rq_s, ob.R0, rq_s, ob.R8, rq_s, ck_p ob.sd.1, a1, cl_s, ck_p ob1.k9, ob1.R0, rq_s, ck_p ob1.tp.1, ck_p ob1.tp.1, bd_e, ← gd, ck_p kc, f1, va_ne (by decide), t8, cl_s, ck_p ob2.k9, ob2.R1, rq_s, ck_p ob2.mt.1, ob2.mt.2.1.2.1, rq_s, ob2.R5, rq_s, ck_p ob2.mt.2.2.2.1.1]
  by_cases c : (rdD (tn, tb) (aC A) nm 41 ((0, 0), DA0)).1.1 = 0
  rotate_left
  · have n0 : ¬ nI (rdD (tn, tb) (aC A) nm 41 ((0, 0), DA0)).1.1 = 0 := fun z => c ((nI_eq (b := 0) (by omega) (by decide)).mp z)
    rw [if_neg n0] at ec
    have k2' : Kx x (fun z => z ≠ x + 1 ∧ z ≠ x + 21 ∧ z ≠ x + 22) h h2 := k2
    have ey : hI h2 y = hI h y := (k2'.2 y (by omega)).1
    have ey1 : hI h2 (y + 1) = hI h (y + 1) := (k2'.2 (y + 1) (by omega)).1
    obtain ⟨ha, h', c1, c2, c3, -⟩ := m_day (N := N) (X := (tn, tb)) (h := h2) (by omega) (pm.1.shp k2'.1 (by omega) (by omega)) ⟨pT.1, fun k hk => (pT.2.2.2 k hk).1⟩ (by rw [ey]; exact pT.2.2.1) (fun k hk => by rw [ey1]; exact (pT.2.2.2 k hk).2.2) (qM.kx k2' (by omega) (by omega) (by omega) (by omega))
    rw [if_neg c] at c1
    obtain ⟨b1, b2, b3, b4, b5, b6⟩ := c2.thr c3
    have T : Kx x (fun z => (z ≠ x + 1 ∧ z ≠ x + 21 ∧ z ≠ x + 22) ∧ z ≠ y ∧ (z < y + 27 ∨ y + 32 < z)) h h' := ⟨k2'.1.trans (b1.shp b2), fun z hz => by
      have r1 := k2'.2 z hz.1
      have r2 := b3 z hz.2.1 hz.2.2
      exact ⟨r2.1.trans r1.1, r2.2.trans r1.2⟩⟩
    have rd : ∀ sl D, sl < 5 → D.1 ≤ 40 → RD h y sl D → RD h' y sl D := fun sl D s1 s2 r => b6 sl D s1 s2 (r.kx k2' (fun z z1 z2 => by omega))
    refine wp2 ec ((k2'.1.2.2.1 y (by omega)).1.trans pm.1.1) c1 (dd_end q (T.mono (fun z hz => by unfold kDy at hz; omega)) ?_ b4 (b5.trans (by rw [ey])) (fun sl D _ s2 s3 r => rd sl D s2 s3 r) (D := M.2.1) (pM.1.2.1.kx T (fun z z1 z2 => by omega)) (rd 0 _ (by decide) pM.2.2.2.2.2.1.1 pM.2.2.1) pM.2.2.2.2.2.1)
    rw [(b3 (x + 1) (by omega) (by omega)).1, f1, va_eq]
  have cd2 : CD h2 (x + 21) (rdD (tn, tb) (aC A) nm 41 ((0, 0), DA0)).2 := (a4 c).kx tk (fun z z1 z2 => by omega)
  have fz : nI (rdD (tn, tb) (aC A) nm 41 ((0, 0), DA0)).1.1 = 0 := by rw [c]; rfl
  rw [if_pos fz, fz] at ec
  have pm2 : MD h2 y := pm.1.shp k2.1 (by omega) (by omega)
  have k2' : Kx x (fun z => z ≠ x + 1 ∧ z ≠ x + 21 ∧ z ≠ x + 22) h h2 := k2
  have qM2 : NmM h2 y 0 (aC A) nm := qM.kx k2' (by omega) (by omega) (by omega) (by omega)
  have ey : hI h2 y = hI h y := (k2'.2 y (by omega)).1
  have ey1 : hI h2 (y + 1) = hI h (y + 1) := (k2'.2 (y + 1) (by omega)).1
  have ez2 : hz h ≤ hz h2 := k2.1.2.1
  have wd : WD A (rdD (tn, tb) (aC A) nm 41 ((0, 0), DA0)).2 := by
    obtain ⟨ha, h', c1, c2, c3, c4⟩ := m_day (N := N) (X := (tn, tb)) (h := h2) (by omega) pm2 ⟨pT.1, fun k hk => (pT.2.2.2 k hk).1⟩ (by rw [ey]; exact pT.2.2.1) (fun k hk => by rw [ey1]; exact (pT.2.2.2 k hk).2.2) qM2
    exact (c4 c).2
  obtain ⟨hc, d1, d2, d3⟩ := c_dcopy (N := N) (d := x + 3 + 6) (s := x + 21) (Or.inl (by omega)) ob2.mt.2.2.2.1 ob2.sd cd2 wd.1
  have d1 : f_X0_copy N (x + 3 + 6) (x + 21) h2 = _ := d1
  have kd : Kx x (fun z => z ≠ x + 9 ∧ z ≠ x + 10) h2 hc := d2.kx (fun z hz w => by omega)
  have k3 : Kx x (fun z => (z ≠ x + 1 ∧ z ≠ x + 21 ∧ z ≠ x + 22) ∧ (z ≠ x + 9 ∧ z ≠ x + 10)) h hc := (k2'.mono (fun z hz => hz.1)).trans (kd.mono (fun z hz => hz.2))
  have fy : hI hc y = hI h y := (k3.2 y (by omega)).1
  have fy1 : hI hc (y + 1) = hI h (y + 1) := (k3.2 (y + 1) (by omega)).1
  obtain ⟨ha, h', c1, c2, c3, c4⟩ := m_day (N := N) (X := (tn, tb)) (h := hc) (by omega) (pm.1.shp k3.1 (by omega) (by omega)) ⟨pT.1, fun k hk => (pT.2.2.2 k hk).1⟩ (by rw [fy]; exact pT.2.2.1) (fun k hk => by rw [fy1]; exact (pT.2.2.2 k hk).2.2) (qM.kx k3 (by omega) (by omega) (by omega) (by omega))
  rw [if_pos c] at c1
  obtain ⟨r5, -⟩ := c4 c
  obtain ⟨b1, b2, b3, b4, b5, b6⟩ := c2.thr c3
  have M' : MD h' y := (pm.1.shp k3.1 (by omega) (by omega)).sm b1
  obtain ⟨hL, e1, e2, e3, e4⟩ := m_laysLines (N := N) (by omega) (f := 5) (t := 0) (by decide) (by decide) (by decide) M'
  have e1 : f_X11_laysLines N y 5 0 h' = _ := e1
  rw [e1, cl_s] at c1
  have T : Kx x (fun z => ((z ≠ x + 1 ∧ z ≠ x + 21 ∧ z ≠ x + 22) ∧ (z ≠ x + 9 ∧ z ≠ x + 10)) ∧ z ≠ y ∧ (z < y + 27 ∨ y + 32 < z)) h hL := ⟨(k3.1.trans (b1.shp b2)).trans e2.shp, fun z hz => by
    have r1 := k3.2 z hz.1
    have r2 := b3 z hz.2.1 hz.2.2
    exact ⟨(e2.2.2.2 z (by omega)).trans (r2.1.trans r1.1), (congrFun e2.2.2.1 z).trans (r2.2.trans r1.2)⟩⟩
  have lo : ∀ z, z < y → hI hL z = hI hc z := fun z hz => (e2.2.2.2 z (by omega)).trans (b3 z (by omega) (by omega)).1
  have ec' : f_X10_day N x h = some (0, hc) := by rw [ec, d1, cl_s]
  refine wp2 ec' ((k3.1.2.2.1 y (by omega)).1.trans pm.1.1) c1 (dd_end q (T.mono (fun z hz => by unfold kDy at hz; omega)) ?_ ?_ ?_ (fun sl D s1 s2 s3 r => ?_) (D := (rdD (tn, tb) (aC A) nm 41 ((0, 0), DA0)).2) ?_ (RD.lay e3 e4 wd.1 r5) wd)
  · rw [lo (x + 1) (by omega), (kd.2 (x + 1) (by omega)).1, f1, va_eq]
  · rw [e2.2.2.2 y (by omega)]; exact b4
  · rw [e2.2.2.2 y (by omega), b5, fy]
  · exact RD.oth (by omega) e3 e4 s3 (b6 sl D s2 s3 (r.kx k3 (fun z z1 z2 => by omega)))
  · unfold CD at d3 ⊢
    rw [lo (x + 3 + 6) (by omega), lo (x + 3 + 6 + 1) (by omega)]
    exact d3
end DAY
