/-! valley: a faulty text. -/
section VFA
variable {N x y o J v w pn pc tn : Nat} {h : PH} {A : AV} {M : AM} {P : Nat → AS} {lb : Nat → Bool} {K : Nat → AM} {tb : Nat → Nat}
/-- the reference reads; what it leaves -/
theorem m_vread (hN : 2001 ≤ N) (q : INVq N x y o J h v w A M pn pc P lb K tn tb) {h2 : PH} (k : Kx x (fun z => z < hz h ∧ z ≠ x + 1 ∧ (z < w ∨ w + 18 ≤ z)) h h2) : ∃ h', f_X11_readsAll N y (sI h2 y 0 0) = some (yb (decide ((rdL (tn, tb) 1000 ((0, 0), D0)).1.1 = 0)), h') ∧ MRs (tn, tb) y h' (rdL (tn, tb) 1000 ((0, 0), D0)).1 ∧ ((rdL (tn, tb) 1000 ((0, 0), D0)).1.1 = 0 → DM h' y (rdL (tn, tb) 1000 ((0, 0), D0)).2) ∧ Sm h2 h' ∧ hz h' = hz h2 ∧ (∀ z, (z < y ∨ z = y + 1 ∨ y + 17 ≤ z) → hI h' z = hI h2 z ∧ hJ h' z = hJ h2 z) ∧ hI h' y 1 = 0 ∧ hI h' y 54 = nI pc ∧ MA N h' y A ∧ NM h' v y A := by
  obtain ⟨p0, ob, pv, pm, pnm, pM, pP, pK, pT⟩ := id q
  have y0 := p0.1
  have z0 := p0.2.2.1
  have z1 := p0.2.1
  have vw := ob.1
  have W := pv.2.2.1
  have pm2 : MA N h2 y A := pm.kx k (fun z z1 z2 => by omega) (by omega) (by omega)
  have pn2 : NM h2 v y A := pnm.kx k (by omega) (by omega)
  have ey := k.2 y ⟨by omega, by omega, by omega⟩
  have et := k.2 (y + 1) ⟨by omega, by omega, by omega⟩
  have gx : Ex (fun z => z = y) h2 (sI h2 y 0 0) := Ex.sI rfl
  have pm3 : MA N (sI h2 y 0 0) y A := pm2.ex gx (fun z z1 z2 => by omega)
  have pn3 : NM (sI h2 y 0 0) v y A := pn2
  obtain ⟨ha, h', a1, a2, a3, a4, a5⟩ := m_readsAll (X := (tn, tb)) hN pm3.1 ⟨pT.1, fun k hk => (pT.2.2.2 k hk).1⟩ (by rw [hI_sI_eq, va_ne (by decide), ey.1]; exact pT.2.2.1) (fun k hk => by rw [hI_sI_ne (by omega), et.1]; exact (pT.2.2.2 k hk).2.2)
  have gx2 : Ex (fun z => z = y) ha (sI ha y 1 0) := Ex.sI rfl
  have pm4 := (((pm3.pf a2).ex gx2 (fun z z1 z2 => by omega)).pf a3)
  have pn4 : NM ha v y A := pn3.pf a2 W (a2.2.2.1 (v + 2) (by omega)).2
  have pn5 : NM (sI ha y 1 0) v y A := pn4
  refine ⟨h', a1, a4, fun c => (a5 c).1, ((Sm.sI.trans a2.1).trans Sm.sI).trans a3.1, a3.2.1.trans a2.2.1, fun z hz' => ?_, ?_, ?_, pm4, pn5.pf a3 W (a3.2.2.1 (v + 2) (by omega)).2⟩
  · have e2 := a2.2.2.1 z hz'
    have e3 := a3.2.2.1 z hz'
    exact ⟨by rw [e3.1, hI_sI_ne (by omega), e2.1, hI_sI_ne (by omega)], e3.2.trans e2.2⟩
  · rw [a3.2.2.2.2 1 (Or.inl rfl), hI_sI_eq, va_eq]
  · rw [a3.2.2.2.2 54 (Or.inr rfl), hI_sI_eq, va_ne (by decide), a2.2.2.2.2 54 (Or.inr rfl), hI_sI_eq, va_ne (by decide), ey.1]
    exact pP.1.2.2.2.2
theorem v_fault (hN : 2001 ≤ N) (q : INVq N x y o J h v w A M pn pc P lb K tn tb) (c : (rdL (tn, tb) 1000 ((0, 0), D0)).1.1 ≠ 0) : wp (f_X10_valley N x h) (fun r h1 => hK h1 y = 10 ∧ wp (f_X11_valley N y h1) (fun r2 h2 => r = r2 ∧ INV N x y o (J + 1) h2)) := by
  obtain ⟨p0, ob, pv, pm, pnm, pM, pP, pK, pT⟩ := id q
  have y0 := p0.1
  have z0 := p0.2.2.1
  have z1 := p0.2.1
  have vw := ob.1
  have W := pv.2.2.1
  obtain ⟨h2, a1, a2, a3, a4, a5, -⟩ := z_vread hN q
  obtain ⟨h', b1, b2, -, b4, b5, b6, b7, b8, b9, b10⟩ := m_vread hN q a2
  have n0 : ¬ nI (rdL (tn, tb) 1000 ((0, 0), D0)).1.1 = 0 := fun z => c ((nI_eq (b := 0) (by omega) (by decide)).mp z)
  rw [if_neg n0] at a1
  have ky : hK h2 y = 10 := (a2.1.2.2.1 y (by omega)).1.trans pm.1.1
  have T : Kx x (fun z => z < hz h ∧ z ≠ x + 1 ∧ (z < w ∨ w + 18 ≤ z) ∧ (z < y ∨ z = y + 1 ∨ y + 17 ≤ z)) h h' := ⟨a2.1.trans (b4.shp b5), fun z hz' => by
    have e1 := a2.2 z ⟨hz'.1, hz'.2.1, hz'.2.2.1⟩
    have e2 := b6 z hz'.2.2.2
    exact ⟨e2.1.trans e1.1, e2.2.trans e1.2⟩⟩
  refine wp2 a1 ky ?_ ⟨v, w, A, M, pn, pc, P, lb, K, 0, tb, INVq.up (Nat.le_succ J) ⟨?_, ob.shp T.1, pv.kx T (fun z z1 z2 => by omega) (by omega) (by omega), b9, b10, pM.kx T (fun z hz' => by omega), pP.kx T (fun k _ => by rw [(T.2 x (by omega)).1]) (b8.trans pP.1.2.2.2.2.symm) (fun z hz' => by omega), pK.kx T (by rw [(T.2 x (by omega)).1]) (fun z hz' => by omega), ⟨Nat.zero_le _, ?_, b7, fun k hk => absurd hk (Nat.not_lt_zero k)⟩⟩⟩
  · unfold f_X11_valley
    rw [ck_p ky, bd_e, ck_p (show hK (sI h2 y 0 0) y = 10 from ky), b1, cl_s, decide_eq_false c, if_pos (show yb false = 0 from rfl), ck_p (show hK h' y = 10 by rw [b4.1]; exact ky), b2.2 c]
  · obtain ⟨d1, d2, d3, d4, d5, d6, ⟨f1, f2, f3, f4⟩, f5⟩ := p0
    have kk := T.1.2.2.1 o d3
    have fw : hI h' (w + 11) 0 = 1 ∧ hI h' (w + 14) 0 = 0 := by
      rw [(b6 (w + 11) (by omega)).1, (b6 (w + 14) (by omega)).1]; exact a5
    have fv : hI h' (v + 11) 0 = hI h (v + 11) 0 ∧ hI h' (v + 14) 0 = hI h (v + 14) 0 := by
      rw [(T.2 (v + 11) (by omega)).1, (T.2 (v + 14) (by omega)).1]; exact ⟨rfl, rfl⟩
    refine ⟨d1, d2, Nat.lt_of_lt_of_le d3 T.1.2.1, kk.1.trans d4, kk.2.trans d5, by rw [T.1.1]; exact d6, ?_, f5.eq (fun z hz' => (T.2 z (by omega)).1)⟩
    rcases vw with ⟨rfl, rfl⟩ | ⟨rfl, rfl⟩
    · exact ⟨fv.1.trans f1, fv.2.trans f2, fw.1, fw.2⟩
    · exact ⟨fw.1, fw.2, fv.1.trans f3, fv.2.trans f4⟩
  · rw [(b6 (x + 1) (by omega)).1]; exact a3
end VFA
